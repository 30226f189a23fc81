theorem hd_X12_isAt : yX12_isAt.cls = RX12 ∧ yX12_isAt.cls ≠ "java/lang/invoke/MethodHandle" ∧ yX12_isAt.cls ≠ "java/lang/invoke/VarHandle" ∧ (parseMethodDescriptor yX12_isAt.desc).map (fun d => d.parameters.length) = some 2 := by decide +kernel
theorem hd_X12_isTerm : yX12_isTerm.cls = RX12 ∧ yX12_isTerm.cls ≠ "java/lang/invoke/MethodHandle" ∧ yX12_isTerm.cls ≠ "java/lang/invoke/VarHandle" ∧ (parseMethodDescriptor yX12_isTerm.desc).map (fun d => d.parameters.length) = some 1 := by decide +kernel
theorem hd_X12_isText : yX12_isText.cls = RX12 ∧ yX12_isText.cls ≠ "java/lang/invoke/MethodHandle" ∧ yX12_isText.cls ≠ "java/lang/invoke/VarHandle" ∧ (parseMethodDescriptor yX12_isText.desc).map (fun d => d.parameters.length) = some 0 := by decide +kernel
theorem hd_X12_read : yX12_read.cls = RX12 ∧ yX12_read.cls ≠ "java/lang/invoke/MethodHandle" ∧ yX12_read.cls ≠ "java/lang/invoke/VarHandle" ∧ (parseMethodDescriptor yX12_read.desc).map (fun d => d.parameters.length) = some 0 := by decide +kernel
theorem hd_X12_writes : yX12_writes.cls = RX12 ∧ yX12_writes.cls ≠ "java/lang/invoke/MethodHandle" ∧ yX12_writes.cls ≠ "java/lang/invoke/VarHandle" ∧ (parseMethodDescriptor yX12_writes.desc).map (fun d => d.parameters.length) = some 1 := by decide +kernel
theorem hd_X12_writesNumber : yX12_writesNumber.cls = RX12 ∧ yX12_writesNumber.cls ≠ "java/lang/invoke/MethodHandle" ∧ yX12_writesNumber.cls ≠ "java/lang/invoke/VarHandle" ∧ (parseMethodDescriptor yX12_writesNumber.desc).map (fun d => d.parameters.length) = some 1 := by decide +kernel
theorem hd_X12_writesTerm : yX12_writesTerm.cls = RX12 ∧ yX12_writesTerm.cls ≠ "java/lang/invoke/MethodHandle" ∧ yX12_writesTerm.cls ≠ "java/lang/invoke/VarHandle" ∧ (parseMethodDescriptor yX12_writesTerm.desc).map (fun d => d.parameters.length) = some 1 := by decide +kernel
theorem hd_X12_written : yX12_written.cls = RX12 ∧ yX12_written.cls ≠ "java/lang/invoke/MethodHandle" ∧ yX12_written.cls ≠ "java/lang/invoke/VarHandle" ∧ (parseMethodDescriptor yX12_written.desc).map (fun d => d.parameters.length) = some 1 := by decide +kernel
theorem hd_X12_isList : yX12_isList.cls ≠ "java/lang/invoke/MethodHandle" ∧ yX12_isList.cls ≠ "java/lang/invoke/VarHandle" ∧ (parseMethodDescriptor yX12_isList.desc).map (fun d => d.parameters.length) = some 1 := by decide +kernel
theorem hd_X12_list : yX12_list.cls = RX12 ∧ yX12_list.cls ≠ "java/lang/invoke/MethodHandle" ∧ yX12_list.cls ≠ "java/lang/invoke/VarHandle" ∧ (parseMethodDescriptor yX12_list.desc).map (fun d => d.parameters.length) = some 2 := by decide +kernel
theorem hd_X12_lay : yX12_lay.cls = RX12 ∧ yX12_lay.cls ≠ "java/lang/invoke/MethodHandle" ∧ yX12_lay.cls ≠ "java/lang/invoke/VarHandle" ∧ (parseMethodDescriptor yX12_lay.desc).map (fun d => d.parameters.length) = some 3 := by decide +kernel
theorem hd_X12_look : yX12_look.cls = RX12 ∧ yX12_look.cls ≠ "java/lang/invoke/MethodHandle" ∧ yX12_look.cls ≠ "java/lang/invoke/VarHandle" ∧ (parseMethodDescriptor yX12_look.desc).map (fun d => d.parameters.length) = some 2 := by decide +kernel
theorem kt_X12_isAt_X12 : ∀ w ∈ u_ws RX12 TX12 45, w ∈ wsX12_isAt := fun _ h => List.mem_cons_of_mem _ (List.mem_append_right _ (h))
theorem kt_X12_isTerm_X12 : ∀ w ∈ u_ws RX12 TX12 45, w ∈ wsX12_isTerm := fun _ h => List.mem_cons_of_mem _ (List.mem_append_right _ (h))
theorem kt_X12_isText_X12 : ∀ w ∈ u_ws RX12 TX12 45, w ∈ wsX12_isText := fun _ h => List.mem_cons_of_mem _ (List.mem_append_right _ (h))
theorem kt_X12_lay_X12 : ∀ w ∈ u_ws RX12 TX12 45, w ∈ wsX12_lay := fun _ h => List.mem_cons_of_mem _ (List.mem_append_right _ (h))
theorem kt_X12_list_X12 : ∀ w ∈ u_ws RX12 TX12 45, w ∈ wsX12_list := fun _ h => List.mem_cons_of_mem _ (List.mem_append_right _ (h))
theorem kt_X12_look_X12 : ∀ w ∈ u_ws RX12 TX12 45, w ∈ wsX12_look := fun _ h => List.mem_cons_of_mem _ (List.mem_append_right _ (h))
theorem kt_X12_read_X12 : ∀ w ∈ u_ws RX12 TX12 45, w ∈ wsX12_read := fun _ h => List.mem_cons_of_mem _ (List.mem_append_right _ (h))
theorem kt_X12_writes_X12 : ∀ w ∈ u_ws RX12 TX12 45, w ∈ wsX12_writes := fun _ h => List.mem_cons_of_mem _ (List.mem_append_right _ (h))
theorem kt_X12_writesTerm_X12 : ∀ w ∈ u_ws RX12 TX12 45, w ∈ wsX12_writesTerm := fun _ h => List.mem_cons_of_mem _ (List.mem_append_right _ (h))
theorem kt_X12_written_X12 : ∀ w ∈ u_ws RX12 TX12 45, w ∈ wsX12_written := fun _ h => List.mem_cons_of_mem _ (List.mem_append_right _ (h))
theorem kw_X12_isAt_1 : Cond.fieldLink RX12 273 "LoweredPowersModel" "at" "I" ∈ wsX12_isAt := List.mem_of_getElem? (i := 1) rfl
theorem kw_X12_isAt_2 : Cond.fieldLink RX12 276 "LoweredPowersModel" "size" "I" ∈ wsX12_isAt := List.mem_of_getElem? (i := 2) rfl
theorem kw_X12_isAt_3 : Cond.fieldLink RX12 79 "LoweredPowersModel" "tape" "[I" ∈ wsX12_isAt := List.mem_of_getElem? (i := 3) rfl
theorem kw_X12_isTerm_3 : Cond.fieldLink RX12 82 "LoweredPowersModel" "reads" "[I" ∈ wsX12_isTerm := List.mem_of_getElem? (i := 3) rfl
theorem kw_X12_isTerm_1 : Cond.fieldLink RX12 273 "LoweredPowersModel" "at" "I" ∈ wsX12_isTerm := List.mem_of_getElem? (i := 1) rfl
theorem kw_X12_isTerm_2 : Cond.fieldLink RX12 79 "LoweredPowersModel" "tape" "[I" ∈ wsX12_isTerm := List.mem_of_getElem? (i := 2) rfl
theorem kw_X12_isText_2 : Cond.fieldLink RX12 273 "LoweredPowersModel" "at" "I" ∈ wsX12_isText := List.mem_of_getElem? (i := 2) rfl
theorem kw_X12_isText_3 : Cond.fieldLink RX12 276 "LoweredPowersModel" "size" "I" ∈ wsX12_isText := List.mem_of_getElem? (i := 3) rfl
theorem kw_X12_isText_1 : Cond.fieldLink RX12 82 "LoweredPowersModel" "reads" "[I" ∈ wsX12_isText := List.mem_of_getElem? (i := 1) rfl
theorem kw_X12_read_4 : Cond.fieldLink RX12 9 "LoweredPowersModel" "f" "[I" ∈ wsX12_read := List.mem_of_getElem? (i := 4) rfl
theorem kw_X12_read_5 : Cond.fieldLink RX12 82 "LoweredPowersModel" "reads" "[I" ∈ wsX12_read := List.mem_of_getElem? (i := 5) rfl
theorem kw_X12_read_1 : Cond.fieldLink RX12 270 "LoweredPowersModel" "taped" "I" ∈ wsX12_read := List.mem_of_getElem? (i := 1) rfl
theorem kw_X12_read_2 : Cond.fieldLink RX12 276 "LoweredPowersModel" "size" "I" ∈ wsX12_read := List.mem_of_getElem? (i := 2) rfl
theorem kw_X12_read_3 : Cond.fieldLink RX12 273 "LoweredPowersModel" "at" "I" ∈ wsX12_read := List.mem_of_getElem? (i := 3) rfl
theorem kw_X12_writes_3 : Cond.fieldLink RX12 295 "LoweredPowersModel" "sign" "I" ∈ wsX12_writes := List.mem_of_getElem? (i := 3) rfl
theorem kw_X12_writes_1 : Cond.fieldLink RX12 289 "LoweredPowersModel" "signs" "I" ∈ wsX12_writes := List.mem_of_getElem? (i := 1) rfl
theorem kw_X12_writes_2 : Cond.fieldLink RX12 292 "LoweredPowersModel" "wanted" "I" ∈ wsX12_writes := List.mem_of_getElem? (i := 2) rfl
theorem kw_X12_writesTerm_3 : Cond.methodLink RX12 301 Lib.Math.abs.name ∈ wsX12_writesTerm := List.mem_of_getElem? (i := 3) rfl
theorem kw_X12_writesTerm_4 : Cond.static Lib.Math.abs.name ∈ wsX12_writesTerm := List.mem_of_getElem? (i := 4) rfl
theorem kw_X12_writesTerm_5 : Cond.initialized RJ9 ∈ wsX12_writesTerm := List.mem_of_getElem? (i := 5) rfl
theorem kw_X12_writesTerm_6 : Cond.code Lib.Math.abs.name Lib.Math.abs.code 1 (some .int) ∈ wsX12_writesTerm := List.mem_of_getElem? (i := 6) rfl
theorem kw_X12_writesTerm_1 : Cond.fieldLink RX12 9 "LoweredPowersModel" "f" "[I" ∈ wsX12_writesTerm := List.mem_of_getElem? (i := 1) rfl
theorem kw_X12_writesTerm_2 : Cond.fieldLink RX12 289 "LoweredPowersModel" "signs" "I" ∈ wsX12_writesTerm := List.mem_of_getElem? (i := 2) rfl
theorem kw_X12_written_3 : Cond.fieldLink RX12 295 "LoweredPowersModel" "sign" "I" ∈ wsX12_written := List.mem_of_getElem? (i := 3) rfl
theorem kw_X12_written_1 : Cond.fieldLink RX12 289 "LoweredPowersModel" "signs" "I" ∈ wsX12_written := List.mem_of_getElem? (i := 1) rfl
theorem kw_X12_written_4 : Cond.fieldLink RX12 9 "LoweredPowersModel" "f" "[I" ∈ wsX12_written := List.mem_of_getElem? (i := 4) rfl
theorem kw_X12_written_2 : Cond.fieldLink RX12 292 "LoweredPowersModel" "wanted" "I" ∈ wsX12_written := List.mem_of_getElem? (i := 2) rfl
theorem kw_X12_list_2 : Cond.fieldLink RX12 88 "LoweredPowersModel" "items" "[J" ∈ wsX12_list := List.mem_of_getElem? (i := 2) rfl
theorem kw_X12_list_1 : Cond.fieldLink RX12 85 "LoweredPowersModel" "sizes" "[I" ∈ wsX12_list := List.mem_of_getElem? (i := 1) rfl
theorem kw_X12_lay_1 : Cond.fieldLink RX12 85 "LoweredPowersModel" "sizes" "[I" ∈ wsX12_lay := List.mem_of_getElem? (i := 1) rfl
theorem kw_X12_lay_2 : Cond.fieldLink RX12 88 "LoweredPowersModel" "items" "[J" ∈ wsX12_lay := List.mem_of_getElem? (i := 2) rfl
theorem kw_X12_look_3 : Cond.constantLong RX12 268 (-9223372036854775808) ∈ wsX12_look := List.mem_of_getElem? (i := 3) rfl
theorem kw_X12_look_1 : Cond.fieldLink RX12 85 "LoweredPowersModel" "sizes" "[I" ∈ wsX12_look := List.mem_of_getElem? (i := 1) rfl
theorem kw_X12_look_2 : Cond.fieldLink RX12 88 "LoweredPowersModel" "items" "[J" ∈ wsX12_look := List.mem_of_getElem? (i := 2) rfl
abbrev rm_X12_isAt : Room := { frames := 1, cells := 0, slots := 0, locals := 22 }
set_option maxRecDepth 100000 in
set_option maxHeartbeats 4000000 in
theorem ct_X12_isAt (l : Launch) (D : va_G) (cI cJ cZ : ClassId) (h0 : Nat) (r0 : Nat → Nat) (I_0_isFound : Int32) (I_0_foundB : Int32) (I_0_changes : Int32) (I_0_taped : Int32) (I_0_size : Int32) (I_0_at : Int32) (I_0_signs : Int32) (I_0_wanted : Int32) (I_0_sign : Int32) (I_0_isKept : Int32) (I_0_keptFound : Int32) (I_0_keptB : Int32) (I_0_keptChanges : Int32) (A_0_25_tape : (Nat → Int32)) (x1 : Int32) (x2 : Int32) (sz : Nat) (K : Int32 → Prop) (h : wp_X12_isAt x1 x2 I_0_size I_0_at A_0_25_tape K) : Met l yX12_isAt wsX12_isAt rm_X12_isAt (va_Pc [.ref h0, .int x1, .int x2] (WX D cI cJ cZ [(h0, .inr (11, oX12 r0 I_0_isFound I_0_foundB I_0_changes I_0_taped I_0_size I_0_at I_0_signs I_0_wanted I_0_sign I_0_isKept I_0_keptFound I_0_keptB I_0_keptChanges)), ((r0 25), .inl (cI, 60, .inl A_0_25_tape))] sz)) (va_Qi (fun (r : Int32) (_ : Unit) => K r ) (fun (_ : Unit) t => WY D (va_A [(h0, .inr (11, oX12 r0 I_0_isFound I_0_foundB I_0_changes I_0_taped I_0_size I_0_at I_0_signs I_0_wanted I_0_sign I_0_isKept I_0_keptFound I_0_keptB I_0_keptChanges)), ((r0 25), .inl (cI, 60, .inl A_0_25_tape))] sz) [(h0, .inr (11, oX12 r0 I_0_isFound I_0_foundB I_0_changes I_0_taped I_0_size I_0_at I_0_signs I_0_wanted I_0_sign I_0_isKept I_0_keptFound I_0_keptB I_0_keptChanges)), ((r0 25), .inl (cI, 60, .inl A_0_25_tape))] t) (va_A [(h0, .inr (11, oX12 r0 I_0_isFound I_0_foundB I_0_changes I_0_taped I_0_size I_0_at I_0_signs I_0_wanted I_0_sign I_0_isKept I_0_keptFound I_0_keptB I_0_keptChanges)), ((r0 25), .inl (cI, 60, .inl A_0_25_tape))] sz)) 0 0 (va_A [(h0, .inr (11, oX12 r0 I_0_isFound I_0_foundB I_0_changes I_0_taped I_0_size I_0_at I_0_signs I_0_wanted I_0_sign I_0_isKept I_0_keptFound I_0_keptB I_0_keptChanges)), ((r0 25), .inl (cI, 60, .inl A_0_25_tape))] sz) := by
  refine m_met (own := RX12) (cc := cX12_isAt) (maxL := 3) (ret := some .boolean) [.ref h0, .int x1, .int x2] [(0, .ref h0), (1, .int x1), (2, .int x2)] (by decide) rfl rfl (Nat.le_of_ble_eq_true rfl) rfl ?_
  intro p e s m args below meth c Q A hQ hA C0 hr hnm hsz hM ls hl
  have hx := C0.1
  have hb := C0.2.1
  have hown := C0.2.2.2.1
  unfold wp_X12_isAt at h
  refine lv_aload_n hx hb dX12_isAt_0 rfl (lv_at hl 0 rfl) ?_
  refine m_get (C := RX12) (T := TX12) (N := 45) (ci := 11) (ref := "LoweredPowersModel") (v := .int I_0_at) C0 hM 0 rfl rfl kt_X12_isAt_X12 28 (by decide) kw_X12_isAt_1 rfl rfl dX12_isAt_1 ?_
  refine lv_aload_n hx hb dX12_isAt_4 rfl (lv_at hl 0 rfl) ?_
  refine m_get (C := RX12) (T := TX12) (N := 45) (ci := 11) (ref := "LoweredPowersModel") (v := .int I_0_size) C0 hM 0 rfl rfl kt_X12_isAt_X12 27 (by decide) kw_X12_isAt_2 rfl rfl dX12_isAt_5 ?_
  refine lv_icmp_ge (tgt := 32) hx hb dX12_isAt_8 (by decide) (fun hq => ?_) (fun hq => ?_)
  · have h := h.1 hq
    refine lv_iconst (v := (0 : Int32)) hx hb dX12_isAt_32 (by decide) ?_
    subst hsz; subst hA; subst hQ
    exact m_zret C0 hr hM rfl () h rfl dX12_isAt_33
  · have h := h.2 hq
    refine lv_aload_n hx hb dX12_isAt_11 rfl (lv_at hl 0 rfl) ?_
    refine m_get (C := RX12) (T := TX12) (N := 45) (ci := 11) (ref := "LoweredPowersModel") (v := .ref (r0 25)) C0 hM 0 rfl rfl kt_X12_isAt_X12 25 (by decide) kw_X12_isAt_3 rfl rfl dX12_isAt_12 ?_
    refine lv_aload_n hx hb dX12_isAt_15 rfl (lv_at hl 0 rfl) ?_
    refine m_get (C := RX12) (T := TX12) (N := 45) (ci := 11) (ref := "LoweredPowersModel") (v := .int I_0_at) C0 hM 0 rfl rfl kt_X12_isAt_X12 28 (by decide) kw_X12_isAt_1 rfl rfl dX12_isAt_16 ?_
    obtain ⟨hc1, h⟩ := h
    refine m_iald C0 hM 1 rfl hc1 dX12_isAt_19 ?_
    refine lv_iload_n hx hb dX12_isAt_20 rfl (lv_at hl 1 rfl) ?_
    refine lv_iload_n hx hb dX12_isAt_21 rfl (lv_at hl 2 rfl) ?_
    refine m_calli (wc := []) C0 hM [] rfl (m_runS (wc := []) (As := [.int (A_0_25_tape (I_0_at).toNatClampNeg), .int x1, .int x2]) (rest := []) C0 hM (ct_X12_isIn l D cI cJ cZ (A_0_25_tape (I_0_at).toNatClampNeg) x1 x2 _ _ h) [] rfl (by decide) gX12_isAt_X12_isIn rfl rfl rfl hd_X12_isIn ⟨Nat.le_of_ble_eq_true rfl, Nat.le_of_ble_eq_true rfl⟩ rfl hl.1 rfl (Nat.le_of_ble_eq_true rfl) dX12_isAt_22 ⟨Nat.le_of_ble_eq_true rfl, Nat.le_of_ble_eq_true rfl⟩) (fun _ => [(h0, .inr (11, oX12 r0 I_0_isFound I_0_foundB I_0_changes I_0_taped I_0_size I_0_at I_0_signs I_0_wanted I_0_sign I_0_isKept I_0_keptFound I_0_keptB I_0_keptChanges)), ((r0 25), .inl (cI, 60, .inl A_0_25_tape))]) (fun _ => rfl) (fun _ => rfl) (fun y2 _ H locs h hM => ?_)
    refine lv_if_eq (tgt := 32) hx hb dX12_isAt_25 (by decide) (fun hq => ?_) (fun hq => ?_)
    · have h := h.1 hq
      refine lv_iconst (v := (0 : Int32)) hx hb dX12_isAt_32 (by decide) ?_
      subst hsz; subst hA; subst hQ
      exact m_zret C0 hr hM rfl () h rfl dX12_isAt_33
    · have h := h.2 hq
      refine lv_iconst (v := (1 : Int32)) hx hb dX12_isAt_28 (by decide) ?_
      refine lv_goto (tgt := 33) hx hb dX12_isAt_29 (by decide) ?_
      subst hsz; subst hA; subst hQ
      exact m_zret C0 hr hM rfl () h rfl dX12_isAt_33
abbrev rm_X12_isTerm : Room := { frames := 2, cells := 0, slots := 0, locals := 44 }
set_option maxRecDepth 100000 in
set_option maxHeartbeats 4000000 in
theorem ct_X12_isTerm (l : Launch) (D : va_G) (cI cJ cZ : ClassId) (h0 : Nat) (r0 : Nat → Nat) (I_0_isFound : Int32) (I_0_foundB : Int32) (I_0_changes : Int32) (I_0_taped : Int32) (I_0_size : Int32) (I_0_at : Int32) (I_0_signs : Int32) (I_0_wanted : Int32) (I_0_sign : Int32) (I_0_isKept : Int32) (I_0_keptFound : Int32) (I_0_keptB : Int32) (I_0_keptChanges : Int32) (A_0_25_tape : (Nat → Int32)) (A_0_29_reads : (Nat → Int32)) (x1 : Int32) (sz : Nat) (K : Int32 → Int32 → (Nat → Int32) → Prop) (h : wp_X12_isTerm x1 I_0_size I_0_at A_0_25_tape A_0_29_reads K) : Met l yX12_isTerm wsX12_isTerm rm_X12_isTerm (va_Pc [.ref h0, .int x1] (WX D cI cJ cZ [(h0, .inr (11, oX12 r0 I_0_isFound I_0_foundB I_0_changes I_0_taped I_0_size I_0_at I_0_signs I_0_wanted I_0_sign I_0_isKept I_0_keptFound I_0_keptB I_0_keptChanges)), ((r0 25), .inl (cI, 60, .inl A_0_25_tape)), ((r0 29), .inl (cI, 5, .inl A_0_29_reads))] sz)) (va_Qi (fun (r : Int32) (u : Int32 × (Nat → Int32)) => K r u.1 u.2) (fun (u : Int32 × (Nat → Int32)) t => WY D (va_A [(h0, .inr (11, oX12 r0 I_0_isFound I_0_foundB I_0_changes I_0_taped I_0_size I_0_at I_0_signs I_0_wanted I_0_sign I_0_isKept I_0_keptFound I_0_keptB I_0_keptChanges)), ((r0 25), .inl (cI, 60, .inl A_0_25_tape)), ((r0 29), .inl (cI, 5, .inl A_0_29_reads))] sz) [(h0, .inr (11, oX12 r0 I_0_isFound I_0_foundB I_0_changes I_0_taped I_0_size u.1 I_0_signs I_0_wanted I_0_sign I_0_isKept I_0_keptFound I_0_keptB I_0_keptChanges)), ((r0 25), .inl (cI, 60, .inl A_0_25_tape)), ((r0 29), .inl (cI, 5, .inl u.2))] t) (va_A [(h0, .inr (11, oX12 r0 I_0_isFound I_0_foundB I_0_changes I_0_taped I_0_size I_0_at I_0_signs I_0_wanted I_0_sign I_0_isKept I_0_keptFound I_0_keptB I_0_keptChanges)), ((r0 25), .inl (cI, 60, .inl A_0_25_tape)), ((r0 29), .inl (cI, 5, .inl A_0_29_reads))] sz)) 0 0 (va_A [(h0, .inr (11, oX12 r0 I_0_isFound I_0_foundB I_0_changes I_0_taped I_0_size I_0_at I_0_signs I_0_wanted I_0_sign I_0_isKept I_0_keptFound I_0_keptB I_0_keptChanges)), ((r0 25), .inl (cI, 60, .inl A_0_25_tape)), ((r0 29), .inl (cI, 5, .inl A_0_29_reads))] sz) := by
  refine m_met (own := RX12) (cc := cX12_isTerm) (maxL := 6) (ret := some .boolean) [.ref h0, .int x1] [(0, .ref h0), (1, .int x1)] (by decide) rfl rfl (Nat.le_of_ble_eq_true rfl) rfl ?_
  intro p e s m args below meth c Q A hQ hA C0 hr hnm hsz hM ls hl
  have hx := C0.1
  have hb := C0.2.1
  have hown := C0.2.2.2.1
  have jq180 : ∀ (x2 : Int32) (x5 : Int32) (I_0_at : Int32) (A_0_29_reads : (Nat → Int32)) (H : Heap) (locs : List Loc) (ls : Array Slot) , jn_X12_isTerm_180 x1 I_0_size A_0_25_tape K x2 x5 I_0_at A_0_29_reads → MW D A s.heap [(h0, .inr (11, oX12 r0 I_0_isFound I_0_foundB I_0_changes I_0_taped I_0_size I_0_at I_0_signs I_0_wanted I_0_sign I_0_isKept I_0_keptFound I_0_keptB I_0_keptChanges)), ((r0 25), .inl (cI, 60, .inl A_0_25_tape)), ((r0 29), .inl (cI, 5, .inl A_0_29_reads))] H locs → lv_has ls 6 [(0, .ref h0), (1, .int x1), (2, .int x2), (5, .int x5)] → W p l e rm_X12_isTerm s m args below meth c H locs 0 0 Q (F0 m 180 ls []) := by
    intro x2 x5 I_0_at A_0_29_reads H locs ls h hM hl
    unfold jn_X12_isTerm_180 at h
    refine lv_aload_n hx hb dX12_isTerm_180 rfl (lv_at hl 0 rfl) ?_
    refine m_get (C := RX12) (T := TX12) (N := 45) (ci := 11) (ref := "LoweredPowersModel") (v := .ref (r0 29)) C0 hM 0 rfl rfl kt_X12_isTerm_X12 29 (by decide) kw_X12_isTerm_3 rfl rfl dX12_isTerm_181 ?_
    refine lv_iload hx hb dX12_isTerm_184 (lv_at hl 3 rfl) ?_
    refine lv_aload_n hx hb dX12_isTerm_186 rfl (lv_at hl 0 rfl) ?_
    refine m_get (C := RX12) (T := TX12) (N := 45) (ci := 11) (ref := "LoweredPowersModel") (v := .ref (r0 29)) C0 hM 0 rfl rfl kt_X12_isTerm_X12 29 (by decide) kw_X12_isTerm_3 rfl rfl dX12_isTerm_187 ?_
    refine lv_iload hx hb dX12_isTerm_190 (lv_at hl 3 rfl) ?_
    obtain ⟨hc1, h⟩ := h
    refine m_iald C0 hM 2 rfl hc1 dX12_isTerm_192 ?_
    refine lv_iload_n hx hb dX12_isTerm_193 rfl (lv_at hl 1 rfl) ?_
    refine lv_iload_n hx hb dX12_isTerm_194 rfl (lv_at hl 2 rfl) ?_
    refine lv_imul hx hb dX12_isTerm_195 ?_
    refine lv_iadd hx hb dX12_isTerm_196 ?_
    refine m_calli (wc := []) C0 hM [] rfl (m_runS (wc := []) (As := [.int ((A_0_29_reads (x5).toNatClampNeg) + (x1 * x2))]) (rest := [.int x5, .ref (r0 29)]) C0 hM (ct_X12_modulo l D cI cJ cZ ((A_0_29_reads (x5).toNatClampNeg) + (x1 * x2)) _ _ h) [] rfl (by decide) gX12_isTerm_X12_modulo rfl rfl rfl hd_X12_modulo ⟨Nat.le_of_ble_eq_true rfl, Nat.le_of_ble_eq_true rfl⟩ rfl hl.1 rfl (Nat.le_of_ble_eq_true rfl) dX12_isTerm_197 ⟨Nat.le_of_ble_eq_true rfl, Nat.le_of_ble_eq_true rfl⟩) (fun _ => [(h0, .inr (11, oX12 r0 I_0_isFound I_0_foundB I_0_changes I_0_taped I_0_size I_0_at I_0_signs I_0_wanted I_0_sign I_0_isKept I_0_keptFound I_0_keptB I_0_keptChanges)), ((r0 25), .inl (cI, 60, .inl A_0_25_tape)), ((r0 29), .inl (cI, 5, .inl A_0_29_reads))]) (fun _ => rfl) (fun _ => rfl) (fun y2 _ H locs h hM => ?_)
    refine m_iast (ws' := [(h0, .inr (11, oX12 r0 I_0_isFound I_0_foundB I_0_changes I_0_taped I_0_size I_0_at I_0_signs I_0_wanted I_0_sign I_0_isKept I_0_keptFound I_0_keptB I_0_keptChanges)), ((r0 25), .inl (cI, 60, .inl A_0_25_tape)), ((r0 29), .inl (cI, 5, .inl (upd A_0_29_reads (x5).toNatClampNeg y2)))]) C0 hM 2 rfl hc1 rfl dX12_isTerm_200 (fun H locs hM => ?_)
    refine lv_iconst (v := (1 : Int32)) hx hb dX12_isTerm_201 (by decide) ?_
    subst hsz; subst hA; subst hQ
    exact m_zret C0 hr hM rfl (I_0_at, (upd A_0_29_reads (x5).toNatClampNeg y2)) h rfl dX12_isTerm_202
  have jq98 : ∀ (s0 : Int32) (I_0_at : Int32) (A_0_29_reads : (Nat → Int32)) (H : Heap) (locs : List Loc) (ls : Array Slot) , jn_X12_isTerm_98 x1 I_0_size A_0_25_tape K s0 I_0_at A_0_29_reads → MW D A s.heap [(h0, .inr (11, oX12 r0 I_0_isFound I_0_foundB I_0_changes I_0_taped I_0_size I_0_at I_0_signs I_0_wanted I_0_sign I_0_isKept I_0_keptFound I_0_keptB I_0_keptChanges)), ((r0 25), .inl (cI, 60, .inl A_0_25_tape)), ((r0 29), .inl (cI, 5, .inl A_0_29_reads))] H locs → lv_has ls 6 [(0, .ref h0), (1, .int x1)] → W p l e rm_X12_isTerm s m args below meth c H locs 0 0 Q (F0 m 98 ls [.int s0]) := by
    intro s0 I_0_at A_0_29_reads H locs ls h hM hl
    unfold jn_X12_isTerm_98 at h
    refine lv_istore_n (lv' := [(2, .int s0), (0, .ref h0), (1, .int x1)]) hx hb dX12_isTerm_98 rfl hl (by decide) rfl (fun ls hl => ?_)
    refine lv_iconst (v := (1 : Int32)) hx hb dX12_isTerm_99 (by decide) ?_
    refine lv_istore (lv' := [(5, .int (1 : Int32)), (2, .int s0), (0, .ref h0), (1, .int x1)]) hx hb dX12_isTerm_100 hl (by decide) rfl (fun ls hl => ?_)
    refine lv_aload_n hx hb dX12_isTerm_102 rfl (lv_at hl 2 rfl) ?_
    refine lv_dup hx hb dX12_isTerm_103 rfl ?_
    refine m_get (C := RX12) (T := TX12) (N := 45) (ci := 11) (ref := "LoweredPowersModel") (v := .int I_0_at) C0 hM 0 rfl rfl kt_X12_isTerm_X12 28 (by decide) kw_X12_isTerm_1 rfl rfl dX12_isTerm_104 ?_
    refine lv_iconst (v := (1 : Int32)) hx hb dX12_isTerm_107 (by decide) ?_
    refine lv_iadd hx hb dX12_isTerm_108 ?_
    refine lv_topi (fun y3 ey3 => ?_)
    have h := h y3 ey3
    refine m_put (ws' := [(h0, .inr (11, oX12 r0 I_0_isFound I_0_foundB I_0_changes I_0_taped I_0_size y3 I_0_signs I_0_wanted I_0_sign I_0_isKept I_0_keptFound I_0_keptB I_0_keptChanges)), ((r0 25), .inl (cI, 60, .inl A_0_25_tape)), ((r0 29), .inl (cI, 5, .inl A_0_29_reads))]) (C := RX12) (T := TX12) (N := 45) (ci := 11) (ref := "LoweredPowersModel") (v := .int y3) C0 hM 0 rfl rfl kt_X12_isTerm_X12 tyX12 tyX12_ok nmX12 28 (by decide) kw_X12_isTerm_1 rfl rfl rfl rfl (Nat.le_of_ble_eq_true rfl) rfl dX12_isTerm_109 (fun H locs hM => ?_)
    refine lv_aload_n hx hb dX12_isTerm_112 rfl (lv_at hl 2 rfl) ?_
    refine lv_bipush (v := (94 : Int32)) hx hb dX12_isTerm_113 (by decide) ?_
    refine lv_bipush (v := (94 : Int32)) hx hb dX12_isTerm_115 (by decide) ?_
    refine m_calli (wc := [(h0, .inr (11, oX12 r0 I_0_isFound I_0_foundB I_0_changes I_0_taped I_0_size y3 I_0_signs I_0_wanted I_0_sign I_0_isKept I_0_keptFound I_0_keptB I_0_keptChanges)), ((r0 25), .inl (cI, 60, .inl A_0_25_tape))]) C0 hM [0, 1] rfl (m_runV (wc := [(h0, .inr (11, oX12 r0 I_0_isFound I_0_foundB I_0_changes I_0_taped I_0_size y3 I_0_signs I_0_wanted I_0_sign I_0_isKept I_0_keptFound I_0_keptB I_0_keptChanges)), ((r0 25), .inl (cI, 60, .inl A_0_25_tape))]) (As := [.int (94 : Int32), .int (94 : Int32)]) (rest := []) (ci := 11) C0 hM (ct_X12_isAt l D cI cJ cZ h0 r0 I_0_isFound I_0_foundB I_0_changes I_0_taped I_0_size y3 I_0_signs I_0_wanted I_0_sign I_0_isKept I_0_keptFound I_0_keptB I_0_keptChanges A_0_25_tape (94 : Int32) (94 : Int32) _ _ h) [0, 1] rfl (by decide) gX12_isTerm_X12_isAt rfl rfl rfl rfl rfl hd_X12_isAt ⟨Nat.le_of_ble_eq_true rfl, Nat.le_of_ble_eq_true rfl⟩ rfl hl.1 rfl (Nat.le_of_ble_eq_true rfl) dX12_isTerm_117 ⟨Nat.le_of_ble_eq_true rfl, Nat.le_of_ble_eq_true rfl⟩) (fun _ => [(h0, .inr (11, oX12 r0 I_0_isFound I_0_foundB I_0_changes I_0_taped I_0_size y3 I_0_signs I_0_wanted I_0_sign I_0_isKept I_0_keptFound I_0_keptB I_0_keptChanges)), ((r0 25), .inl (cI, 60, .inl A_0_25_tape)), ((r0 29), .inl (cI, 5, .inl A_0_29_reads))]) (fun _ => rfl) (fun _ => rfl) (fun y4 _ H locs h hM => ?_)
    refine lv_if_eq (tgt := 180) hx hb dX12_isTerm_120 (by decide) (fun hq => ?_) (fun hq => ?_)
    · have h := h.1 hq
      exact jq180 _ _ _ _ _ _ _ h hM (lv_sub hl [2, 3, 1, 0] rfl)
    · have h := h.2 hq
      refine lv_aload_n hx hb dX12_isTerm_123 rfl (lv_at hl 2 rfl) ?_
      refine lv_dup hx hb dX12_isTerm_124 rfl ?_
      refine m_get (C := RX12) (T := TX12) (N := 45) (ci := 11) (ref := "LoweredPowersModel") (v := .int y3) C0 hM 0 rfl rfl kt_X12_isTerm_X12 28 (by decide) kw_X12_isTerm_1 rfl rfl dX12_isTerm_125 ?_
      refine lv_iconst (v := (1 : Int32)) hx hb dX12_isTerm_128 (by decide) ?_
      refine lv_iadd hx hb dX12_isTerm_129 ?_
      refine lv_topi (fun y5 ey5 => ?_)
      have h := h y5 ey5
      refine m_put (ws' := [(h0, .inr (11, oX12 r0 I_0_isFound I_0_foundB I_0_changes I_0_taped I_0_size y5 I_0_signs I_0_wanted I_0_sign I_0_isKept I_0_keptFound I_0_keptB I_0_keptChanges)), ((r0 25), .inl (cI, 60, .inl A_0_25_tape)), ((r0 29), .inl (cI, 5, .inl A_0_29_reads))]) (C := RX12) (T := TX12) (N := 45) (ci := 11) (ref := "LoweredPowersModel") (v := .int y5) C0 hM 0 rfl rfl kt_X12_isTerm_X12 tyX12 tyX12_ok nmX12 28 (by decide) kw_X12_isTerm_1 rfl rfl rfl rfl (Nat.le_of_ble_eq_true rfl) rfl dX12_isTerm_130 (fun H locs hM => ?_)
      refine lv_aload_n hx hb dX12_isTerm_133 rfl (lv_at hl 2 rfl) ?_
      refine lv_bipush (v := (48 : Int32)) hx hb dX12_isTerm_134 (by decide) ?_
      refine lv_bipush (v := (52 : Int32)) hx hb dX12_isTerm_136 (by decide) ?_
      refine m_calli (wc := [(h0, .inr (11, oX12 r0 I_0_isFound I_0_foundB I_0_changes I_0_taped I_0_size y5 I_0_signs I_0_wanted I_0_sign I_0_isKept I_0_keptFound I_0_keptB I_0_keptChanges)), ((r0 25), .inl (cI, 60, .inl A_0_25_tape))]) C0 hM [0, 1] rfl (m_runV (wc := [(h0, .inr (11, oX12 r0 I_0_isFound I_0_foundB I_0_changes I_0_taped I_0_size y5 I_0_signs I_0_wanted I_0_sign I_0_isKept I_0_keptFound I_0_keptB I_0_keptChanges)), ((r0 25), .inl (cI, 60, .inl A_0_25_tape))]) (As := [.int (48 : Int32), .int (52 : Int32)]) (rest := []) (ci := 11) C0 hM (ct_X12_isAt l D cI cJ cZ h0 r0 I_0_isFound I_0_foundB I_0_changes I_0_taped I_0_size y5 I_0_signs I_0_wanted I_0_sign I_0_isKept I_0_keptFound I_0_keptB I_0_keptChanges A_0_25_tape (48 : Int32) (52 : Int32) _ _ h) [0, 1] rfl (by decide) gX12_isTerm_X12_isAt rfl rfl rfl rfl rfl hd_X12_isAt ⟨Nat.le_of_ble_eq_true rfl, Nat.le_of_ble_eq_true rfl⟩ rfl hl.1 rfl (Nat.le_of_ble_eq_true rfl) dX12_isTerm_138 ⟨Nat.le_of_ble_eq_true rfl, Nat.le_of_ble_eq_true rfl⟩) (fun _ => [(h0, .inr (11, oX12 r0 I_0_isFound I_0_foundB I_0_changes I_0_taped I_0_size y5 I_0_signs I_0_wanted I_0_sign I_0_isKept I_0_keptFound I_0_keptB I_0_keptChanges)), ((r0 25), .inl (cI, 60, .inl A_0_25_tape)), ((r0 29), .inl (cI, 5, .inl A_0_29_reads))]) (fun _ => rfl) (fun _ => rfl) (fun y6 _ H locs h hM => ?_)
      refine lv_if_ne (tgt := 146) hx hb dX12_isTerm_141 (by decide) (fun hq => ?_) (fun hq => ?_)
      · have h := h.1 hq
        refine lv_aload_n hx hb dX12_isTerm_146 rfl (lv_at hl 2 rfl) ?_
        refine m_get (C := RX12) (T := TX12) (N := 45) (ci := 11) (ref := "LoweredPowersModel") (v := .ref (r0 25)) C0 hM 0 rfl rfl kt_X12_isTerm_X12 25 (by decide) kw_X12_isTerm_2 rfl rfl dX12_isTerm_147 ?_
        refine lv_aload_n hx hb dX12_isTerm_150 rfl (lv_at hl 2 rfl) ?_
        refine m_get (C := RX12) (T := TX12) (N := 45) (ci := 11) (ref := "LoweredPowersModel") (v := .int y5) C0 hM 0 rfl rfl kt_X12_isTerm_X12 28 (by decide) kw_X12_isTerm_1 rfl rfl dX12_isTerm_151 ?_
        obtain ⟨hc7, h⟩ := h
        refine m_iald C0 hM 1 rfl hc7 dX12_isTerm_154 ?_
        refine lv_bipush (v := (48 : Int32)) hx hb dX12_isTerm_155 (by decide) ?_
        refine lv_isub hx hb dX12_isTerm_157 ?_
        refine lv_topi (fun y8 ey8 => ?_)
        have h := h y8 ey8
        refine lv_istore (lv' := [(5, .int y8), (2, .int s0), (0, .ref h0), (1, .int x1)]) hx hb dX12_isTerm_158 hl (by decide) rfl (fun ls hl => ?_)
        refine lv_aload_n hx hb dX12_isTerm_160 rfl (lv_at hl 2 rfl) ?_
        refine lv_dup hx hb dX12_isTerm_161 rfl ?_
        refine m_get (C := RX12) (T := TX12) (N := 45) (ci := 11) (ref := "LoweredPowersModel") (v := .int y5) C0 hM 0 rfl rfl kt_X12_isTerm_X12 28 (by decide) kw_X12_isTerm_1 rfl rfl dX12_isTerm_162 ?_
        refine lv_iconst (v := (1 : Int32)) hx hb dX12_isTerm_165 (by decide) ?_
        refine lv_iadd hx hb dX12_isTerm_166 ?_
        refine lv_topi (fun y9 ey9 => ?_)
        have h := h y9 ey9
        refine m_put (ws' := [(h0, .inr (11, oX12 r0 I_0_isFound I_0_foundB I_0_changes I_0_taped I_0_size y9 I_0_signs I_0_wanted I_0_sign I_0_isKept I_0_keptFound I_0_keptB I_0_keptChanges)), ((r0 25), .inl (cI, 60, .inl A_0_25_tape)), ((r0 29), .inl (cI, 5, .inl A_0_29_reads))]) (C := RX12) (T := TX12) (N := 45) (ci := 11) (ref := "LoweredPowersModel") (v := .int y9) C0 hM 0 rfl rfl kt_X12_isTerm_X12 tyX12 tyX12_ok nmX12 28 (by decide) kw_X12_isTerm_1 rfl rfl rfl rfl (Nat.le_of_ble_eq_true rfl) rfl dX12_isTerm_167 (fun H locs hM => ?_)
        refine lv_goto (tgt := 180) hx hb dX12_isTerm_170 (by decide) ?_
        exact jq180 _ _ _ _ _ _ _ h hM (lv_sub hl [2, 3, 1, 0] rfl)
      · have h := h.2 hq
        refine lv_iconst (v := (0 : Int32)) hx hb dX12_isTerm_144 (by decide) ?_
        subst hsz; subst hA; subst hQ
        exact m_zret C0 hr hM rfl (y5, A_0_29_reads) h rfl dX12_isTerm_145
  have jq72 : ∀ (x2 : Int32) (s0 : Int32) (I_0_at : Int32) (A_0_29_reads : (Nat → Int32)) (H : Heap) (locs : List Loc) (ls : Array Slot) , jn_X12_isTerm_72 x1 I_0_size A_0_25_tape K x2 s0 I_0_at A_0_29_reads → MW D A s.heap [(h0, .inr (11, oX12 r0 I_0_isFound I_0_foundB I_0_changes I_0_taped I_0_size I_0_at I_0_signs I_0_wanted I_0_sign I_0_isKept I_0_keptFound I_0_keptB I_0_keptChanges)), ((r0 25), .inl (cI, 60, .inl A_0_25_tape)), ((r0 29), .inl (cI, 5, .inl A_0_29_reads))] H locs → lv_has ls 6 [(0, .ref h0), (1, .int x1), (2, .int x2)] → W p l e rm_X12_isTerm s m args below meth c H locs 0 0 Q (F0 m 72 ls [.int s0]) := by
    intro x2 s0 I_0_at A_0_29_reads H locs ls h hM hl
    unfold jn_X12_isTerm_72 at h
    refine lv_istore (lv' := [(4, .int s0), (0, .ref h0), (1, .int x1), (2, .int x2)]) hx hb dX12_isTerm_72 hl (by decide) rfl (fun ls hl => ?_)
    refine lv_iconst (v := (0 : Int32)) hx hb dX12_isTerm_74 (by decide) ?_
    refine lv_istore (lv' := [(5, .int (0 : Int32)), (4, .int s0), (0, .ref h0), (1, .int x1), (2, .int x2)]) hx hb dX12_isTerm_75 hl (by decide) rfl (fun ls hl => ?_)
    refine lv_aload_n hx hb dX12_isTerm_77 rfl (lv_at hl 2 rfl) ?_
    refine lv_bipush (v := (120 : Int32)) hx hb dX12_isTerm_78 (by decide) ?_
    refine lv_bipush (v := (120 : Int32)) hx hb dX12_isTerm_80 (by decide) ?_
    refine m_calli (wc := [(h0, .inr (11, oX12 r0 I_0_isFound I_0_foundB I_0_changes I_0_taped I_0_size I_0_at I_0_signs I_0_wanted I_0_sign I_0_isKept I_0_keptFound I_0_keptB I_0_keptChanges)), ((r0 25), .inl (cI, 60, .inl A_0_25_tape))]) C0 hM [0, 1] rfl (m_runV (wc := [(h0, .inr (11, oX12 r0 I_0_isFound I_0_foundB I_0_changes I_0_taped I_0_size I_0_at I_0_signs I_0_wanted I_0_sign I_0_isKept I_0_keptFound I_0_keptB I_0_keptChanges)), ((r0 25), .inl (cI, 60, .inl A_0_25_tape))]) (As := [.int (120 : Int32), .int (120 : Int32)]) (rest := []) (ci := 11) C0 hM (ct_X12_isAt l D cI cJ cZ h0 r0 I_0_isFound I_0_foundB I_0_changes I_0_taped I_0_size I_0_at I_0_signs I_0_wanted I_0_sign I_0_isKept I_0_keptFound I_0_keptB I_0_keptChanges A_0_25_tape (120 : Int32) (120 : Int32) _ _ h) [0, 1] rfl (by decide) gX12_isTerm_X12_isAt rfl rfl rfl rfl rfl hd_X12_isAt ⟨Nat.le_of_ble_eq_true rfl, Nat.le_of_ble_eq_true rfl⟩ rfl hl.1 rfl (Nat.le_of_ble_eq_true rfl) dX12_isTerm_82 ⟨Nat.le_of_ble_eq_true rfl, Nat.le_of_ble_eq_true rfl⟩) (fun _ => [(h0, .inr (11, oX12 r0 I_0_isFound I_0_foundB I_0_changes I_0_taped I_0_size I_0_at I_0_signs I_0_wanted I_0_sign I_0_isKept I_0_keptFound I_0_keptB I_0_keptChanges)), ((r0 25), .inl (cI, 60, .inl A_0_25_tape)), ((r0 29), .inl (cI, 5, .inl A_0_29_reads))]) (fun _ => rfl) (fun _ => rfl) (fun y10 _ H locs h hM => ?_)
    refine lv_if_eq (tgt := 173) hx hb dX12_isTerm_85 (by decide) (fun hq => ?_) (fun hq => ?_)
    · have h := h.1 hq
      refine lv_iload hx hb dX12_isTerm_173 (lv_at hl 1 rfl) ?_
      refine lv_if_ne (tgt := 180) hx hb dX12_isTerm_175 (by decide) (fun hq => ?_) (fun hq => ?_)
      · have h := h.1 hq
        exact jq180 _ _ _ _ _ _ _ h hM (lv_sub hl [2, 3, 4, 0] rfl)
      · have h := h.2 hq
        refine lv_iconst (v := (0 : Int32)) hx hb dX12_isTerm_178 (by decide) ?_
        subst hsz; subst hA; subst hQ
        exact m_zret C0 hr hM rfl (I_0_at, A_0_29_reads) h rfl dX12_isTerm_179
    · have h := h.2 hq
      refine lv_iload hx hb dX12_isTerm_88 (lv_at hl 1 rfl) ?_
      refine lv_if_eq (tgt := 97) hx hb dX12_isTerm_90 (by decide) (fun hq => ?_) (fun hq => ?_)
      · have h := h.1 hq
        refine lv_iconst (v := (1 : Int32)) hx hb dX12_isTerm_97 (by decide) ?_
        exact jq98 _ _ _ _ _ _ h hM (lv_sub hl [2, 3] rfl)
      · have h := h.2 hq
        refine lv_iload_n hx hb dX12_isTerm_93 rfl (lv_at hl 4 rfl) ?_
        refine lv_goto (tgt := 98) hx hb dX12_isTerm_94 (by decide) ?_
        exact jq98 _ _ _ _ _ _ h hM (lv_sub hl [2, 3] rfl)
  have jq59 : ∀ (x2 : Int32) (x3 : Int32) (I_0_at : Int32) (A_0_29_reads : (Nat → Int32)) (H : Heap) (locs : List Loc) (ls : Array Slot) , jn_X12_isTerm_59 x1 I_0_size A_0_25_tape K x2 x3 I_0_at A_0_29_reads → MW D A s.heap [(h0, .inr (11, oX12 r0 I_0_isFound I_0_foundB I_0_changes I_0_taped I_0_size I_0_at I_0_signs I_0_wanted I_0_sign I_0_isKept I_0_keptFound I_0_keptB I_0_keptChanges)), ((r0 25), .inl (cI, 60, .inl A_0_25_tape)), ((r0 29), .inl (cI, 5, .inl A_0_29_reads))] H locs → lv_has ls 6 [(0, .ref h0), (1, .int x1), (2, .int x2), (3, .int x3)] → W p l e rm_X12_isTerm s m args below meth c H locs 0 0 Q (F0 m 59 ls []) := by
    intro x2 x3 I_0_at A_0_29_reads H locs ls h hM hl
    unfold jn_X12_isTerm_59 at h
    refine lv_aload_n hx hb dX12_isTerm_59 rfl (lv_at hl 0 rfl) ?_
    refine m_get (C := RX12) (T := TX12) (N := 45) (ci := 11) (ref := "LoweredPowersModel") (v := .int I_0_at) C0 hM 0 rfl rfl kt_X12_isTerm_X12 28 (by decide) kw_X12_isTerm_1 rfl rfl dX12_isTerm_60 ?_
    refine lv_iload_n hx hb dX12_isTerm_63 rfl (lv_at hl 3 rfl) ?_
    refine lv_icmp_le (tgt := 71) hx hb dX12_isTerm_64 (by decide) (fun hq => ?_) (fun hq => ?_)
    · have h := h.1 hq
      refine lv_iconst (v := (0 : Int32)) hx hb dX12_isTerm_71 (by decide) ?_
      exact jq72 _ _ _ _ _ _ _ h hM (lv_sub hl [0, 1, 2] rfl)
    · have h := h.2 hq
      refine lv_iconst (v := (1 : Int32)) hx hb dX12_isTerm_67 (by decide) ?_
      refine lv_goto (tgt := 72) hx hb dX12_isTerm_68 (by decide) ?_
      exact jq72 _ _ _ _ _ _ _ h hM (lv_sub hl [0, 1, 2] rfl)
  have lq7 : ∀ (k7 : Nat) (x2 : Int32) (x3 : Int32) (I_0_at : Int32) (A_0_29_reads : (Nat → Int32)) (H : Heap) (locs : List Loc) (ls : Array Slot) , lp_X12_isTerm_7 x1 I_0_size A_0_25_tape (jn_X12_isTerm_59 x1 I_0_size A_0_25_tape K) K k7 x2 x3 I_0_at A_0_29_reads → MW D A s.heap [(h0, .inr (11, oX12 r0 I_0_isFound I_0_foundB I_0_changes I_0_taped I_0_size I_0_at I_0_signs I_0_wanted I_0_sign I_0_isKept I_0_keptFound I_0_keptB I_0_keptChanges)), ((r0 25), .inl (cI, 60, .inl A_0_25_tape)), ((r0 29), .inl (cI, 5, .inl A_0_29_reads))] H locs → lv_has ls 6 [(0, .ref h0), (1, .int x1), (2, .int x2), (3, .int x3)] → W p l e rm_X12_isTerm s m args below meth c H locs 0 0 Q (F0 m 7 ls []) := by
    intro k7
    induction k7 with
    | zero =>
      intro x2 x3 I_0_at A_0_29_reads H locs ls h
      unfold lp_X12_isTerm_7 at h
      exact h.elim
    | succ k7 ih7 =>
      intro x2 x3 I_0_at A_0_29_reads H locs ls h hM hl
      unfold lp_X12_isTerm_7 at h
      refine lv_aload_n hx hb dX12_isTerm_7 rfl (lv_at hl 0 rfl) ?_
      refine lv_bipush (v := (48 : Int32)) hx hb dX12_isTerm_8 (by decide) ?_
      refine lv_bipush (v := (57 : Int32)) hx hb dX12_isTerm_10 (by decide) ?_
      refine m_calli (wc := [(h0, .inr (11, oX12 r0 I_0_isFound I_0_foundB I_0_changes I_0_taped I_0_size I_0_at I_0_signs I_0_wanted I_0_sign I_0_isKept I_0_keptFound I_0_keptB I_0_keptChanges)), ((r0 25), .inl (cI, 60, .inl A_0_25_tape))]) C0 hM [0, 1] rfl (m_runV (wc := [(h0, .inr (11, oX12 r0 I_0_isFound I_0_foundB I_0_changes I_0_taped I_0_size I_0_at I_0_signs I_0_wanted I_0_sign I_0_isKept I_0_keptFound I_0_keptB I_0_keptChanges)), ((r0 25), .inl (cI, 60, .inl A_0_25_tape))]) (As := [.int (48 : Int32), .int (57 : Int32)]) (rest := []) (ci := 11) C0 hM (ct_X12_isAt l D cI cJ cZ h0 r0 I_0_isFound I_0_foundB I_0_changes I_0_taped I_0_size I_0_at I_0_signs I_0_wanted I_0_sign I_0_isKept I_0_keptFound I_0_keptB I_0_keptChanges A_0_25_tape (48 : Int32) (57 : Int32) _ _ h) [0, 1] rfl (by decide) gX12_isTerm_X12_isAt rfl rfl rfl rfl rfl hd_X12_isAt ⟨Nat.le_of_ble_eq_true rfl, Nat.le_of_ble_eq_true rfl⟩ rfl hl.1 rfl (Nat.le_of_ble_eq_true rfl) dX12_isTerm_12 ⟨Nat.le_of_ble_eq_true rfl, Nat.le_of_ble_eq_true rfl⟩) (fun _ => [(h0, .inr (11, oX12 r0 I_0_isFound I_0_foundB I_0_changes I_0_taped I_0_size I_0_at I_0_signs I_0_wanted I_0_sign I_0_isKept I_0_keptFound I_0_keptB I_0_keptChanges)), ((r0 25), .inl (cI, 60, .inl A_0_25_tape)), ((r0 29), .inl (cI, 5, .inl A_0_29_reads))]) (fun _ => rfl) (fun _ => rfl) (fun y11 _ H locs h hM => ?_)
      refine lv_if_eq (tgt := 59) hx hb dX12_isTerm_15 (by decide) (fun hq => ?_) (fun hq => ?_)
      · have h := h.1 hq
        exact jq59 _ _ _ _ _ _ _ h hM (lv_sub hl [0, 1, 2, 3] rfl)
      · have h := h.2 hq
        refine lv_aload_n hx hb dX12_isTerm_18 rfl (lv_at hl 0 rfl) ?_
        refine m_get (C := RX12) (T := TX12) (N := 45) (ci := 11) (ref := "LoweredPowersModel") (v := .int I_0_at) C0 hM 0 rfl rfl kt_X12_isTerm_X12 28 (by decide) kw_X12_isTerm_1 rfl rfl dX12_isTerm_19 ?_
        refine lv_iload_n hx hb dX12_isTerm_22 rfl (lv_at hl 3 rfl) ?_
        refine lv_isub hx hb dX12_isTerm_23 ?_
        refine lv_iconst (v := (3 : Int32)) hx hb dX12_isTerm_24 (by decide) ?_
        refine lv_icmp_ge (tgt := 59) hx hb dX12_isTerm_25 (by decide) (fun hq => ?_) (fun hq => ?_)
        · have h := h.1 hq
          exact jq59 _ _ _ _ _ _ _ h hM (lv_sub hl [0, 1, 2, 3] rfl)
        · have h := h.2 hq
          refine lv_bipush (v := (10 : Int32)) hx hb dX12_isTerm_28 (by decide) ?_
          refine lv_iload_n hx hb dX12_isTerm_30 rfl (lv_at hl 2 rfl) ?_
          refine lv_imul hx hb dX12_isTerm_31 ?_
          refine lv_aload_n hx hb dX12_isTerm_32 rfl (lv_at hl 0 rfl) ?_
          refine m_get (C := RX12) (T := TX12) (N := 45) (ci := 11) (ref := "LoweredPowersModel") (v := .ref (r0 25)) C0 hM 0 rfl rfl kt_X12_isTerm_X12 25 (by decide) kw_X12_isTerm_2 rfl rfl dX12_isTerm_33 ?_
          refine lv_aload_n hx hb dX12_isTerm_36 rfl (lv_at hl 0 rfl) ?_
          refine m_get (C := RX12) (T := TX12) (N := 45) (ci := 11) (ref := "LoweredPowersModel") (v := .int I_0_at) C0 hM 0 rfl rfl kt_X12_isTerm_X12 28 (by decide) kw_X12_isTerm_1 rfl rfl dX12_isTerm_37 ?_
          obtain ⟨hc12, h⟩ := h
          refine m_iald C0 hM 1 rfl hc12 dX12_isTerm_40 ?_
          refine lv_iadd hx hb dX12_isTerm_41 ?_
          refine lv_bipush (v := (48 : Int32)) hx hb dX12_isTerm_42 (by decide) ?_
          refine lv_isub hx hb dX12_isTerm_44 ?_
          refine lv_topi (fun y13 ey13 => ?_)
          have h := h y13 ey13
          refine lv_istore_n (lv' := [(2, .int y13), (0, .ref h0), (1, .int x1), (3, .int x3)]) hx hb dX12_isTerm_45 rfl hl (by decide) rfl (fun ls hl => ?_)
          refine lv_aload_n hx hb dX12_isTerm_46 rfl (lv_at hl 1 rfl) ?_
          refine lv_dup hx hb dX12_isTerm_47 rfl ?_
          refine m_get (C := RX12) (T := TX12) (N := 45) (ci := 11) (ref := "LoweredPowersModel") (v := .int I_0_at) C0 hM 0 rfl rfl kt_X12_isTerm_X12 28 (by decide) kw_X12_isTerm_1 rfl rfl dX12_isTerm_48 ?_
          refine lv_iconst (v := (1 : Int32)) hx hb dX12_isTerm_51 (by decide) ?_
          refine lv_iadd hx hb dX12_isTerm_52 ?_
          refine lv_topi (fun y14 ey14 => ?_)
          have h := h y14 ey14
          refine m_put (ws' := [(h0, .inr (11, oX12 r0 I_0_isFound I_0_foundB I_0_changes I_0_taped I_0_size y14 I_0_signs I_0_wanted I_0_sign I_0_isKept I_0_keptFound I_0_keptB I_0_keptChanges)), ((r0 25), .inl (cI, 60, .inl A_0_25_tape)), ((r0 29), .inl (cI, 5, .inl A_0_29_reads))]) (C := RX12) (T := TX12) (N := 45) (ci := 11) (ref := "LoweredPowersModel") (v := .int y14) C0 hM 0 rfl rfl kt_X12_isTerm_X12 tyX12 tyX12_ok nmX12 28 (by decide) kw_X12_isTerm_1 rfl rfl rfl rfl (Nat.le_of_ble_eq_true rfl) rfl dX12_isTerm_53 (fun H locs hM => ?_)
          refine lv_goto (tgt := 7) hx hb dX12_isTerm_56 (by decide) ?_
          exact ih7 _ _ _ _ _ _ _ h hM (lv_sub hl [1, 2, 0, 3] rfl)
  unfold wp_X12_isTerm at h
  refine lv_iconst (v := (0 : Int32)) hx hb dX12_isTerm_0 (by decide) ?_
  refine lv_istore_n (lv' := [(2, .int (0 : Int32)), (0, .ref h0), (1, .int x1)]) hx hb dX12_isTerm_1 rfl hl (by decide) rfl (fun ls hl => ?_)
  refine lv_aload_n hx hb dX12_isTerm_2 rfl (lv_at hl 1 rfl) ?_
  refine m_get (C := RX12) (T := TX12) (N := 45) (ci := 11) (ref := "LoweredPowersModel") (v := .int I_0_at) C0 hM 0 rfl rfl kt_X12_isTerm_X12 28 (by decide) kw_X12_isTerm_1 rfl rfl dX12_isTerm_3 ?_
  refine lv_istore_n (lv' := [(3, .int I_0_at), (2, .int (0 : Int32)), (0, .ref h0), (1, .int x1)]) hx hb dX12_isTerm_6 rfl hl (by decide) rfl (fun ls hl => ?_)
  obtain ⟨k0, h⟩ := h
  exact lq7 k0 _ _ _ _ _ _ _ h hM (lv_sub hl [2, 3, 1, 0] rfl)
abbrev rm_X12_isText : Room := { frames := 3, cells := 0, slots := 0, locals := 69 }
set_option maxRecDepth 100000 in
set_option maxHeartbeats 4000000 in
theorem ct_X12_isText (l : Launch) (D : va_G) (cI cJ cZ : ClassId) (h0 : Nat) (r0 : Nat → Nat) (I_0_isFound : Int32) (I_0_foundB : Int32) (I_0_changes : Int32) (I_0_taped : Int32) (I_0_size : Int32) (I_0_at : Int32) (I_0_signs : Int32) (I_0_wanted : Int32) (I_0_sign : Int32) (I_0_isKept : Int32) (I_0_keptFound : Int32) (I_0_keptB : Int32) (I_0_keptChanges : Int32) (A_0_25_tape : (Nat → Int32)) (A_0_29_reads : (Nat → Int32)) (sz : Nat) (K : Int32 → Int32 → (Nat → Int32) → Prop) (h : wp_X12_isText I_0_size I_0_at A_0_25_tape A_0_29_reads K) : Met l yX12_isText wsX12_isText rm_X12_isText (va_Pc [.ref h0] (WX D cI cJ cZ [(h0, .inr (11, oX12 r0 I_0_isFound I_0_foundB I_0_changes I_0_taped I_0_size I_0_at I_0_signs I_0_wanted I_0_sign I_0_isKept I_0_keptFound I_0_keptB I_0_keptChanges)), ((r0 25), .inl (cI, 60, .inl A_0_25_tape)), ((r0 29), .inl (cI, 5, .inl A_0_29_reads))] sz)) (va_Qi (fun (r : Int32) (u : Int32 × (Nat → Int32)) => K r u.1 u.2) (fun (u : Int32 × (Nat → Int32)) t => WY D (va_A [(h0, .inr (11, oX12 r0 I_0_isFound I_0_foundB I_0_changes I_0_taped I_0_size I_0_at I_0_signs I_0_wanted I_0_sign I_0_isKept I_0_keptFound I_0_keptB I_0_keptChanges)), ((r0 25), .inl (cI, 60, .inl A_0_25_tape)), ((r0 29), .inl (cI, 5, .inl A_0_29_reads))] sz) [(h0, .inr (11, oX12 r0 I_0_isFound I_0_foundB I_0_changes I_0_taped I_0_size u.1 I_0_signs I_0_wanted I_0_sign I_0_isKept I_0_keptFound I_0_keptB I_0_keptChanges)), ((r0 25), .inl (cI, 60, .inl A_0_25_tape)), ((r0 29), .inl (cI, 5, .inl u.2))] t) (va_A [(h0, .inr (11, oX12 r0 I_0_isFound I_0_foundB I_0_changes I_0_taped I_0_size I_0_at I_0_signs I_0_wanted I_0_sign I_0_isKept I_0_keptFound I_0_keptB I_0_keptChanges)), ((r0 25), .inl (cI, 60, .inl A_0_25_tape)), ((r0 29), .inl (cI, 5, .inl A_0_29_reads))] sz)) 0 0 (va_A [(h0, .inr (11, oX12 r0 I_0_isFound I_0_foundB I_0_changes I_0_taped I_0_size I_0_at I_0_signs I_0_wanted I_0_sign I_0_isKept I_0_keptFound I_0_keptB I_0_keptChanges)), ((r0 25), .inl (cI, 60, .inl A_0_25_tape)), ((r0 29), .inl (cI, 5, .inl A_0_29_reads))] sz) := by
  refine m_met (own := RX12) (cc := cX12_isText) (maxL := 3) (ret := some .boolean) [.ref h0] [(0, .ref h0)] (by decide) rfl rfl (Nat.le_of_ble_eq_true rfl) rfl ?_
  intro p e s m args below meth c Q A hQ hA C0 hr hnm hsz hM ls hl
  have hx := C0.1
  have hb := C0.2.1
  have hown := C0.2.2.2.1
  have jq120 : ∀ (x1 : Int32) (I_0_at : Int32) (A_0_29_reads : (Nat → Int32)) (H : Heap) (locs : List Loc) (ls : Array Slot) , jn_X12_isText_120 I_0_size A_0_25_tape K x1 I_0_at A_0_29_reads → MW D A s.heap [(h0, .inr (11, oX12 r0 I_0_isFound I_0_foundB I_0_changes I_0_taped I_0_size I_0_at I_0_signs I_0_wanted I_0_sign I_0_isKept I_0_keptFound I_0_keptB I_0_keptChanges)), ((r0 25), .inl (cI, 60, .inl A_0_25_tape)), ((r0 29), .inl (cI, 5, .inl A_0_29_reads))] H locs → lv_has ls 3 [(0, .ref h0), (1, .int x1)] → W p l e rm_X12_isText s m args below meth c H locs 0 0 Q (F0 m 120 ls []) := by
    intro x1 I_0_at A_0_29_reads H locs ls h hM hl
    unfold jn_X12_isText_120 at h
    refine lv_iload_n hx hb dX12_isText_120 rfl (lv_at hl 1 rfl) ?_
    refine lv_if_eq (tgt := 139) hx hb dX12_isText_121 (by decide) (fun hq => ?_) (fun hq => ?_)
    · have h := h.1 hq
      refine lv_iconst (v := (0 : Int32)) hx hb dX12_isText_139 (by decide) ?_
      subst hsz; subst hA; subst hQ
      exact m_zret C0 hr hM rfl (I_0_at, A_0_29_reads) h rfl dX12_isText_140
    · have h := h.2 hq
      refine lv_aload_n hx hb dX12_isText_124 rfl (lv_at hl 0 rfl) ?_
      refine m_get (C := RX12) (T := TX12) (N := 45) (ci := 11) (ref := "LoweredPowersModel") (v := .int I_0_at) C0 hM 0 rfl rfl kt_X12_isText_X12 28 (by decide) kw_X12_isText_2 rfl rfl dX12_isText_125 ?_
      refine lv_aload_n hx hb dX12_isText_128 rfl (lv_at hl 0 rfl) ?_
      refine m_get (C := RX12) (T := TX12) (N := 45) (ci := 11) (ref := "LoweredPowersModel") (v := .int I_0_size) C0 hM 0 rfl rfl kt_X12_isText_X12 27 (by decide) kw_X12_isText_3 rfl rfl dX12_isText_129 ?_
      refine lv_icmp_ne (tgt := 139) hx hb dX12_isText_132 (by decide) (fun hq => ?_) (fun hq => ?_)
      · have h := h.1 hq
        refine lv_iconst (v := (0 : Int32)) hx hb dX12_isText_139 (by decide) ?_
        subst hsz; subst hA; subst hQ
        exact m_zret C0 hr hM rfl (I_0_at, A_0_29_reads) h rfl dX12_isText_140
      · have h := h.2 hq
        refine lv_iconst (v := (1 : Int32)) hx hb dX12_isText_135 (by decide) ?_
        refine lv_goto (tgt := 140) hx hb dX12_isText_136 (by decide) ?_
        subst hsz; subst hA; subst hQ
        exact m_zret C0 hr hM rfl (I_0_at, A_0_29_reads) h rfl dX12_isText_140
  have lq58 : ∀ (k58 : Nat) (x1 : Int32) (I_0_at : Int32) (A_0_29_reads : (Nat → Int32)) (H : Heap) (locs : List Loc) (ls : Array Slot) , lp_X12_isText_58 I_0_size A_0_25_tape (jn_X12_isText_120 I_0_size A_0_25_tape K) K k58 x1 I_0_at A_0_29_reads → MW D A s.heap [(h0, .inr (11, oX12 r0 I_0_isFound I_0_foundB I_0_changes I_0_taped I_0_size I_0_at I_0_signs I_0_wanted I_0_sign I_0_isKept I_0_keptFound I_0_keptB I_0_keptChanges)), ((r0 25), .inl (cI, 60, .inl A_0_25_tape)), ((r0 29), .inl (cI, 5, .inl A_0_29_reads))] H locs → lv_has ls 3 [(0, .ref h0), (1, .int x1)] → W p l e rm_X12_isText s m args below meth c H locs 0 0 Q (F0 m 58 ls []) := by
    intro k58
    induction k58 with
    | zero =>
      intro x1 I_0_at A_0_29_reads H locs ls h
      unfold lp_X12_isText_58 at h
      exact h.elim
    | succ k58 ih58 =>
      have jq100 : ∀ (s0 : Int32) (I_0_at : Int32) (A_0_29_reads : (Nat → Int32)) (H : Heap) (locs : List Loc) (ls : Array Slot) , jn_X12_isText_100 I_0_size A_0_25_tape (fun x1 I_0_at A_0_29_reads => lp_X12_isText_58 I_0_size A_0_25_tape (jn_X12_isText_120 I_0_size A_0_25_tape K) K k58 x1 I_0_at A_0_29_reads) (jn_X12_isText_120 I_0_size A_0_25_tape K) K s0 I_0_at A_0_29_reads → MW D A s.heap [(h0, .inr (11, oX12 r0 I_0_isFound I_0_foundB I_0_changes I_0_taped I_0_size I_0_at I_0_signs I_0_wanted I_0_sign I_0_isKept I_0_keptFound I_0_keptB I_0_keptChanges)), ((r0 25), .inl (cI, 60, .inl A_0_25_tape)), ((r0 29), .inl (cI, 5, .inl A_0_29_reads))] H locs → lv_has ls 3 [(0, .ref h0)] → W p l e rm_X12_isText s m args below meth c H locs 0 0 Q (F0 m 100 ls [.int s0]) := by
        intro s0 I_0_at A_0_29_reads H locs ls h hM hl
        unfold jn_X12_isText_100 at h
        refine lv_istore_n (lv' := [(2, .int s0), (0, .ref h0)]) hx hb dX12_isText_100 rfl hl (by decide) rfl (fun ls hl => ?_)
        refine lv_aload_n hx hb dX12_isText_101 rfl (lv_at hl 1 rfl) ?_
        refine lv_dup hx hb dX12_isText_102 rfl ?_
        refine m_get (C := RX12) (T := TX12) (N := 45) (ci := 11) (ref := "LoweredPowersModel") (v := .int I_0_at) C0 hM 0 rfl rfl kt_X12_isText_X12 28 (by decide) kw_X12_isText_2 rfl rfl dX12_isText_103 ?_
        refine lv_iconst (v := (1 : Int32)) hx hb dX12_isText_106 (by decide) ?_
        refine lv_iadd hx hb dX12_isText_107 ?_
        refine lv_topi (fun y1 ey1 => ?_)
        have h := h y1 ey1
        refine m_put (ws' := [(h0, .inr (11, oX12 r0 I_0_isFound I_0_foundB I_0_changes I_0_taped I_0_size y1 I_0_signs I_0_wanted I_0_sign I_0_isKept I_0_keptFound I_0_keptB I_0_keptChanges)), ((r0 25), .inl (cI, 60, .inl A_0_25_tape)), ((r0 29), .inl (cI, 5, .inl A_0_29_reads))]) (C := RX12) (T := TX12) (N := 45) (ci := 11) (ref := "LoweredPowersModel") (v := .int y1) C0 hM 0 rfl rfl kt_X12_isText_X12 tyX12 tyX12_ok nmX12 28 (by decide) kw_X12_isText_2 rfl rfl rfl rfl (Nat.le_of_ble_eq_true rfl) rfl dX12_isText_108 (fun H locs hM => ?_)
        refine lv_aload_n hx hb dX12_isText_111 rfl (lv_at hl 1 rfl) ?_
        refine lv_iload_n hx hb dX12_isText_112 rfl (lv_at hl 0 rfl) ?_
        refine m_calli (wc := [(h0, .inr (11, oX12 r0 I_0_isFound I_0_foundB I_0_changes I_0_taped I_0_size y1 I_0_signs I_0_wanted I_0_sign I_0_isKept I_0_keptFound I_0_keptB I_0_keptChanges)), ((r0 25), .inl (cI, 60, .inl A_0_25_tape)), ((r0 29), .inl (cI, 5, .inl A_0_29_reads))]) C0 hM [0, 1, 2] rfl (m_runV (wc := [(h0, .inr (11, oX12 r0 I_0_isFound I_0_foundB I_0_changes I_0_taped I_0_size y1 I_0_signs I_0_wanted I_0_sign I_0_isKept I_0_keptFound I_0_keptB I_0_keptChanges)), ((r0 25), .inl (cI, 60, .inl A_0_25_tape)), ((r0 29), .inl (cI, 5, .inl A_0_29_reads))]) (As := [.int s0]) (rest := []) (ci := 11) C0 hM (ct_X12_isTerm l D cI cJ cZ h0 r0 I_0_isFound I_0_foundB I_0_changes I_0_taped I_0_size y1 I_0_signs I_0_wanted I_0_sign I_0_isKept I_0_keptFound I_0_keptB I_0_keptChanges A_0_25_tape A_0_29_reads s0 _ _ h) [0, 1, 2] rfl (by decide) gX12_isText_X12_isTerm rfl rfl rfl rfl rfl hd_X12_isTerm ⟨Nat.le_of_ble_eq_true rfl, Nat.le_of_ble_eq_true rfl⟩ rfl hl.1 rfl (Nat.le_of_ble_eq_true rfl) dX12_isText_113 ⟨Nat.le_of_ble_eq_true rfl, Nat.le_of_ble_eq_true rfl⟩) (fun u => [(h0, .inr (11, oX12 r0 I_0_isFound I_0_foundB I_0_changes I_0_taped I_0_size u.1 I_0_signs I_0_wanted I_0_sign I_0_isKept I_0_keptFound I_0_keptB I_0_keptChanges)), ((r0 25), .inl (cI, 60, .inl A_0_25_tape)), ((r0 29), .inl (cI, 5, .inl u.2))]) (fun _ => rfl) (fun _ => rfl) (fun y2 u H locs h hM => ?_)
        obtain ⟨b3, b4⟩ := u
        dsimp only at h
        have hM : MW D A s.heap [(h0, .inr (11, oX12 r0 I_0_isFound I_0_foundB I_0_changes I_0_taped I_0_size b3 I_0_signs I_0_wanted I_0_sign I_0_isKept I_0_keptFound I_0_keptB I_0_keptChanges)), ((r0 25), .inl (cI, 60, .inl A_0_25_tape)), ((r0 29), .inl (cI, 5, .inl b4))] H locs := hM
        refine lv_istore_n (lv' := [(1, .int y2), (2, .int s0), (0, .ref h0)]) hx hb dX12_isText_116 rfl hl (by decide) rfl (fun ls hl => ?_)
        refine lv_goto (tgt := 58) hx hb dX12_isText_117 (by decide) ?_
        exact ih58 _ _ _ _ _ _ h hM (lv_sub hl [2, 0] rfl)
      have jq84 : ∀ (I_0_at : Int32) (A_0_29_reads : (Nat → Int32)) (H : Heap) (locs : List Loc) (ls : Array Slot) , jn_X12_isText_84 I_0_size A_0_25_tape (fun x1 I_0_at A_0_29_reads => lp_X12_isText_58 I_0_size A_0_25_tape (jn_X12_isText_120 I_0_size A_0_25_tape K) K k58 x1 I_0_at A_0_29_reads) (jn_X12_isText_120 I_0_size A_0_25_tape K) K I_0_at A_0_29_reads → MW D A s.heap [(h0, .inr (11, oX12 r0 I_0_isFound I_0_foundB I_0_changes I_0_taped I_0_size I_0_at I_0_signs I_0_wanted I_0_sign I_0_isKept I_0_keptFound I_0_keptB I_0_keptChanges)), ((r0 25), .inl (cI, 60, .inl A_0_25_tape)), ((r0 29), .inl (cI, 5, .inl A_0_29_reads))] H locs → lv_has ls 3 [(0, .ref h0)] → W p l e rm_X12_isText s m args below meth c H locs 0 0 Q (F0 m 84 ls []) := by
        intro I_0_at A_0_29_reads H locs ls h hM hl
        unfold jn_X12_isText_84 at h
        refine lv_aload_n hx hb dX12_isText_84 rfl (lv_at hl 0 rfl) ?_
        refine lv_bipush (v := (43 : Int32)) hx hb dX12_isText_85 (by decide) ?_
        refine lv_bipush (v := (43 : Int32)) hx hb dX12_isText_87 (by decide) ?_
        refine m_calli (wc := [(h0, .inr (11, oX12 r0 I_0_isFound I_0_foundB I_0_changes I_0_taped I_0_size I_0_at I_0_signs I_0_wanted I_0_sign I_0_isKept I_0_keptFound I_0_keptB I_0_keptChanges)), ((r0 25), .inl (cI, 60, .inl A_0_25_tape))]) C0 hM [0, 1] rfl (m_runV (wc := [(h0, .inr (11, oX12 r0 I_0_isFound I_0_foundB I_0_changes I_0_taped I_0_size I_0_at I_0_signs I_0_wanted I_0_sign I_0_isKept I_0_keptFound I_0_keptB I_0_keptChanges)), ((r0 25), .inl (cI, 60, .inl A_0_25_tape))]) (As := [.int (43 : Int32), .int (43 : Int32)]) (rest := []) (ci := 11) C0 hM (ct_X12_isAt l D cI cJ cZ h0 r0 I_0_isFound I_0_foundB I_0_changes I_0_taped I_0_size I_0_at I_0_signs I_0_wanted I_0_sign I_0_isKept I_0_keptFound I_0_keptB I_0_keptChanges A_0_25_tape (43 : Int32) (43 : Int32) _ _ h) [0, 1] rfl (by decide) gX12_isText_X12_isAt rfl rfl rfl rfl rfl hd_X12_isAt ⟨Nat.le_of_ble_eq_true rfl, Nat.le_of_ble_eq_true rfl⟩ rfl hl.1 rfl (Nat.le_of_ble_eq_true rfl) dX12_isText_89 ⟨Nat.le_of_ble_eq_true rfl, Nat.le_of_ble_eq_true rfl⟩) (fun _ => [(h0, .inr (11, oX12 r0 I_0_isFound I_0_foundB I_0_changes I_0_taped I_0_size I_0_at I_0_signs I_0_wanted I_0_sign I_0_isKept I_0_keptFound I_0_keptB I_0_keptChanges)), ((r0 25), .inl (cI, 60, .inl A_0_25_tape)), ((r0 29), .inl (cI, 5, .inl A_0_29_reads))]) (fun _ => rfl) (fun _ => rfl) (fun y5 _ H locs h hM => ?_)
        refine lv_if_eq (tgt := 99) hx hb dX12_isText_92 (by decide) (fun hq => ?_) (fun hq => ?_)
        · have h := h.1 hq
          refine lv_iconst (v := (-1 : Int32)) hx hb dX12_isText_99 (by decide) ?_
          exact jq100 _ _ _ _ _ _ h hM (lv_sub hl [0] rfl)
        · have h := h.2 hq
          refine lv_iconst (v := (1 : Int32)) hx hb dX12_isText_95 (by decide) ?_
          refine lv_goto (tgt := 100) hx hb dX12_isText_96 (by decide) ?_
          exact jq100 _ _ _ _ _ _ h hM (lv_sub hl [0] rfl)
      intro x1 I_0_at A_0_29_reads H locs ls h hM hl
      unfold lp_X12_isText_58 at h
      refine lv_iload_n hx hb dX12_isText_58 rfl (lv_at hl 1 rfl) ?_
      refine lv_if_eq (tgt := 120) hx hb dX12_isText_59 (by decide) (fun hq => ?_) (fun hq => ?_)
      · have h := h.1 hq
        exact jq120 _ _ _ _ _ _ h hM (lv_sub hl [0, 1] rfl)
      · have h := h.2 hq
        refine lv_aload_n hx hb dX12_isText_62 rfl (lv_at hl 0 rfl) ?_
        refine lv_bipush (v := (43 : Int32)) hx hb dX12_isText_63 (by decide) ?_
        refine lv_bipush (v := (43 : Int32)) hx hb dX12_isText_65 (by decide) ?_
        refine m_calli (wc := [(h0, .inr (11, oX12 r0 I_0_isFound I_0_foundB I_0_changes I_0_taped I_0_size I_0_at I_0_signs I_0_wanted I_0_sign I_0_isKept I_0_keptFound I_0_keptB I_0_keptChanges)), ((r0 25), .inl (cI, 60, .inl A_0_25_tape))]) C0 hM [0, 1] rfl (m_runV (wc := [(h0, .inr (11, oX12 r0 I_0_isFound I_0_foundB I_0_changes I_0_taped I_0_size I_0_at I_0_signs I_0_wanted I_0_sign I_0_isKept I_0_keptFound I_0_keptB I_0_keptChanges)), ((r0 25), .inl (cI, 60, .inl A_0_25_tape))]) (As := [.int (43 : Int32), .int (43 : Int32)]) (rest := []) (ci := 11) C0 hM (ct_X12_isAt l D cI cJ cZ h0 r0 I_0_isFound I_0_foundB I_0_changes I_0_taped I_0_size I_0_at I_0_signs I_0_wanted I_0_sign I_0_isKept I_0_keptFound I_0_keptB I_0_keptChanges A_0_25_tape (43 : Int32) (43 : Int32) _ _ h) [0, 1] rfl (by decide) gX12_isText_X12_isAt rfl rfl rfl rfl rfl hd_X12_isAt ⟨Nat.le_of_ble_eq_true rfl, Nat.le_of_ble_eq_true rfl⟩ rfl hl.1 rfl (Nat.le_of_ble_eq_true rfl) dX12_isText_67 ⟨Nat.le_of_ble_eq_true rfl, Nat.le_of_ble_eq_true rfl⟩) (fun _ => [(h0, .inr (11, oX12 r0 I_0_isFound I_0_foundB I_0_changes I_0_taped I_0_size I_0_at I_0_signs I_0_wanted I_0_sign I_0_isKept I_0_keptFound I_0_keptB I_0_keptChanges)), ((r0 25), .inl (cI, 60, .inl A_0_25_tape)), ((r0 29), .inl (cI, 5, .inl A_0_29_reads))]) (fun _ => rfl) (fun _ => rfl) (fun y6 _ H locs h hM => ?_)
        refine lv_if_ne (tgt := 84) hx hb dX12_isText_70 (by decide) (fun hq => ?_) (fun hq => ?_)
        · have h := h.1 hq
          exact jq84 _ _ _ _ _ h hM (lv_sub hl [0] rfl)
        · have h := h.2 hq
          refine lv_aload_n hx hb dX12_isText_73 rfl (lv_at hl 0 rfl) ?_
          refine lv_bipush (v := (45 : Int32)) hx hb dX12_isText_74 (by decide) ?_
          refine lv_bipush (v := (45 : Int32)) hx hb dX12_isText_76 (by decide) ?_
          refine m_calli (wc := [(h0, .inr (11, oX12 r0 I_0_isFound I_0_foundB I_0_changes I_0_taped I_0_size I_0_at I_0_signs I_0_wanted I_0_sign I_0_isKept I_0_keptFound I_0_keptB I_0_keptChanges)), ((r0 25), .inl (cI, 60, .inl A_0_25_tape))]) C0 hM [0, 1] rfl (m_runV (wc := [(h0, .inr (11, oX12 r0 I_0_isFound I_0_foundB I_0_changes I_0_taped I_0_size I_0_at I_0_signs I_0_wanted I_0_sign I_0_isKept I_0_keptFound I_0_keptB I_0_keptChanges)), ((r0 25), .inl (cI, 60, .inl A_0_25_tape))]) (As := [.int (45 : Int32), .int (45 : Int32)]) (rest := []) (ci := 11) C0 hM (ct_X12_isAt l D cI cJ cZ h0 r0 I_0_isFound I_0_foundB I_0_changes I_0_taped I_0_size I_0_at I_0_signs I_0_wanted I_0_sign I_0_isKept I_0_keptFound I_0_keptB I_0_keptChanges A_0_25_tape (45 : Int32) (45 : Int32) _ _ h) [0, 1] rfl (by decide) gX12_isText_X12_isAt rfl rfl rfl rfl rfl hd_X12_isAt ⟨Nat.le_of_ble_eq_true rfl, Nat.le_of_ble_eq_true rfl⟩ rfl hl.1 rfl (Nat.le_of_ble_eq_true rfl) dX12_isText_78 ⟨Nat.le_of_ble_eq_true rfl, Nat.le_of_ble_eq_true rfl⟩) (fun _ => [(h0, .inr (11, oX12 r0 I_0_isFound I_0_foundB I_0_changes I_0_taped I_0_size I_0_at I_0_signs I_0_wanted I_0_sign I_0_isKept I_0_keptFound I_0_keptB I_0_keptChanges)), ((r0 25), .inl (cI, 60, .inl A_0_25_tape)), ((r0 29), .inl (cI, 5, .inl A_0_29_reads))]) (fun _ => rfl) (fun _ => rfl) (fun y7 _ H locs h hM => ?_)
          refine lv_if_eq (tgt := 120) hx hb dX12_isText_81 (by decide) (fun hq => ?_) (fun hq => ?_)
          · have h := h.1 hq
            exact jq120 _ _ _ _ _ _ h hM (lv_sub hl [0, 1] rfl)
          · have h := h.2 hq
            exact jq84 _ _ _ _ _ h hM (lv_sub hl [0] rfl)
  have jq54 : ∀ (s1 : Int32) (I_0_at : Int32) (A_0_29_reads : (Nat → Int32)) (H : Heap) (locs : List Loc) (ls : Array Slot) , jn_X12_isText_54 I_0_size A_0_25_tape K s1 I_0_at A_0_29_reads → MW D A s.heap [(h0, .inr (11, oX12 r0 I_0_isFound I_0_foundB I_0_changes I_0_taped I_0_size I_0_at I_0_signs I_0_wanted I_0_sign I_0_isKept I_0_keptFound I_0_keptB I_0_keptChanges)), ((r0 25), .inl (cI, 60, .inl A_0_25_tape)), ((r0 29), .inl (cI, 5, .inl A_0_29_reads))] H locs → lv_has ls 3 [(0, .ref h0)] → W p l e rm_X12_isText s m args below meth c H locs 0 0 Q (F0 m 54 ls [.int s1, .ref h0]) := by
    intro s1 I_0_at A_0_29_reads H locs ls h hM hl
    unfold jn_X12_isText_54 at h
    refine m_calli (wc := [(h0, .inr (11, oX12 r0 I_0_isFound I_0_foundB I_0_changes I_0_taped I_0_size I_0_at I_0_signs I_0_wanted I_0_sign I_0_isKept I_0_keptFound I_0_keptB I_0_keptChanges)), ((r0 25), .inl (cI, 60, .inl A_0_25_tape)), ((r0 29), .inl (cI, 5, .inl A_0_29_reads))]) C0 hM [0, 1, 2] rfl (m_runV (wc := [(h0, .inr (11, oX12 r0 I_0_isFound I_0_foundB I_0_changes I_0_taped I_0_size I_0_at I_0_signs I_0_wanted I_0_sign I_0_isKept I_0_keptFound I_0_keptB I_0_keptChanges)), ((r0 25), .inl (cI, 60, .inl A_0_25_tape)), ((r0 29), .inl (cI, 5, .inl A_0_29_reads))]) (As := [.int s1]) (rest := []) (ci := 11) C0 hM (ct_X12_isTerm l D cI cJ cZ h0 r0 I_0_isFound I_0_foundB I_0_changes I_0_taped I_0_size I_0_at I_0_signs I_0_wanted I_0_sign I_0_isKept I_0_keptFound I_0_keptB I_0_keptChanges A_0_25_tape A_0_29_reads s1 _ _ h) [0, 1, 2] rfl (by decide) gX12_isText_X12_isTerm rfl rfl rfl rfl rfl hd_X12_isTerm ⟨Nat.le_of_ble_eq_true rfl, Nat.le_of_ble_eq_true rfl⟩ rfl hl.1 rfl (Nat.le_of_ble_eq_true rfl) dX12_isText_54 ⟨Nat.le_of_ble_eq_true rfl, Nat.le_of_ble_eq_true rfl⟩) (fun u => [(h0, .inr (11, oX12 r0 I_0_isFound I_0_foundB I_0_changes I_0_taped I_0_size u.1 I_0_signs I_0_wanted I_0_sign I_0_isKept I_0_keptFound I_0_keptB I_0_keptChanges)), ((r0 25), .inl (cI, 60, .inl A_0_25_tape)), ((r0 29), .inl (cI, 5, .inl u.2))]) (fun _ => rfl) (fun _ => rfl) (fun y8 u H locs h hM => ?_)
    obtain ⟨b9, b10⟩ := u
    dsimp only at h
    have hM : MW D A s.heap [(h0, .inr (11, oX12 r0 I_0_isFound I_0_foundB I_0_changes I_0_taped I_0_size b9 I_0_signs I_0_wanted I_0_sign I_0_isKept I_0_keptFound I_0_keptB I_0_keptChanges)), ((r0 25), .inl (cI, 60, .inl A_0_25_tape)), ((r0 29), .inl (cI, 5, .inl b10))] H locs := hM
    refine lv_istore_n (lv' := [(1, .int y8), (0, .ref h0)]) hx hb dX12_isText_57 rfl hl (by decide) rfl (fun ls hl => ?_)
    obtain ⟨k0, h⟩ := h
    exact lq58 k0 _ _ _ _ _ _ h hM (lv_sub hl [1, 0] rfl)
  have jq37 : ∀ (s1 : Int32) (I_0_at : Int32) (A_0_29_reads : (Nat → Int32)) (H : Heap) (locs : List Loc) (ls : Array Slot) , jn_X12_isText_37 I_0_size A_0_25_tape K s1 I_0_at A_0_29_reads → MW D A s.heap [(h0, .inr (11, oX12 r0 I_0_isFound I_0_foundB I_0_changes I_0_taped I_0_size I_0_at I_0_signs I_0_wanted I_0_sign I_0_isKept I_0_keptFound I_0_keptB I_0_keptChanges)), ((r0 25), .inl (cI, 60, .inl A_0_25_tape)), ((r0 29), .inl (cI, 5, .inl A_0_29_reads))] H locs → lv_has ls 3 [(0, .ref h0)] → W p l e rm_X12_isText s m args below meth c H locs 0 0 Q (F0 m 37 ls [.int s1, .ref h0]) := by
    intro s1 I_0_at A_0_29_reads H locs ls h hM hl
    unfold jn_X12_isText_37 at h
    refine m_put (ws' := [(h0, .inr (11, oX12 r0 I_0_isFound I_0_foundB I_0_changes I_0_taped I_0_size s1 I_0_signs I_0_wanted I_0_sign I_0_isKept I_0_keptFound I_0_keptB I_0_keptChanges)), ((r0 25), .inl (cI, 60, .inl A_0_25_tape)), ((r0 29), .inl (cI, 5, .inl A_0_29_reads))]) (C := RX12) (T := TX12) (N := 45) (ci := 11) (ref := "LoweredPowersModel") (v := .int s1) C0 hM 0 rfl rfl kt_X12_isText_X12 tyX12 tyX12_ok nmX12 28 (by decide) kw_X12_isText_2 rfl rfl rfl rfl (Nat.le_of_ble_eq_true rfl) rfl dX12_isText_37 (fun H locs hM => ?_)
    refine lv_aload_n hx hb dX12_isText_40 rfl (lv_at hl 0 rfl) ?_
    refine lv_aload_n hx hb dX12_isText_41 rfl (lv_at hl 0 rfl) ?_
    refine m_get (C := RX12) (T := TX12) (N := 45) (ci := 11) (ref := "LoweredPowersModel") (v := .int s1) C0 hM 0 rfl rfl kt_X12_isText_X12 28 (by decide) kw_X12_isText_2 rfl rfl dX12_isText_42 ?_
    refine lv_iconst (v := (1 : Int32)) hx hb dX12_isText_45 (by decide) ?_
    refine lv_icmp_ne (tgt := 53) hx hb dX12_isText_46 (by decide) (fun hq => ?_) (fun hq => ?_)
    · have h := h.1 hq
      refine lv_iconst (v := (1 : Int32)) hx hb dX12_isText_53 (by decide) ?_
      exact jq54 _ _ _ _ _ _ h hM (lv_sub hl [0] rfl)
    · have h := h.2 hq
      refine lv_iconst (v := (-1 : Int32)) hx hb dX12_isText_49 (by decide) ?_
      refine lv_goto (tgt := 54) hx hb dX12_isText_50 (by decide) ?_
      exact jq54 _ _ _ _ _ _ h hM (lv_sub hl [0] rfl)
  have jq20 : ∀ (I_0_at : Int32) (A_0_29_reads : (Nat → Int32)) (H : Heap) (locs : List Loc) (ls : Array Slot) , jn_X12_isText_20 I_0_size A_0_25_tape K I_0_at A_0_29_reads → MW D A s.heap [(h0, .inr (11, oX12 r0 I_0_isFound I_0_foundB I_0_changes I_0_taped I_0_size I_0_at I_0_signs I_0_wanted I_0_sign I_0_isKept I_0_keptFound I_0_keptB I_0_keptChanges)), ((r0 25), .inl (cI, 60, .inl A_0_25_tape)), ((r0 29), .inl (cI, 5, .inl A_0_29_reads))] H locs → lv_has ls 3 [(0, .ref h0)] → W p l e rm_X12_isText s m args below meth c H locs 0 0 Q (F0 m 20 ls []) := by
    intro I_0_at A_0_29_reads H locs ls h hM hl
    unfold jn_X12_isText_20 at h
    refine lv_aload_n hx hb dX12_isText_20 rfl (lv_at hl 0 rfl) ?_
    refine lv_aload_n hx hb dX12_isText_21 rfl (lv_at hl 0 rfl) ?_
    refine lv_bipush (v := (45 : Int32)) hx hb dX12_isText_22 (by decide) ?_
    refine lv_bipush (v := (45 : Int32)) hx hb dX12_isText_24 (by decide) ?_
    refine m_calli (wc := [(h0, .inr (11, oX12 r0 I_0_isFound I_0_foundB I_0_changes I_0_taped I_0_size I_0_at I_0_signs I_0_wanted I_0_sign I_0_isKept I_0_keptFound I_0_keptB I_0_keptChanges)), ((r0 25), .inl (cI, 60, .inl A_0_25_tape))]) C0 hM [0, 1] rfl (m_runV (wc := [(h0, .inr (11, oX12 r0 I_0_isFound I_0_foundB I_0_changes I_0_taped I_0_size I_0_at I_0_signs I_0_wanted I_0_sign I_0_isKept I_0_keptFound I_0_keptB I_0_keptChanges)), ((r0 25), .inl (cI, 60, .inl A_0_25_tape))]) (As := [.int (45 : Int32), .int (45 : Int32)]) (rest := [.ref h0]) (ci := 11) C0 hM (ct_X12_isAt l D cI cJ cZ h0 r0 I_0_isFound I_0_foundB I_0_changes I_0_taped I_0_size I_0_at I_0_signs I_0_wanted I_0_sign I_0_isKept I_0_keptFound I_0_keptB I_0_keptChanges A_0_25_tape (45 : Int32) (45 : Int32) _ _ h) [0, 1] rfl (by decide) gX12_isText_X12_isAt rfl rfl rfl rfl rfl hd_X12_isAt ⟨Nat.le_of_ble_eq_true rfl, Nat.le_of_ble_eq_true rfl⟩ rfl hl.1 rfl (Nat.le_of_ble_eq_true rfl) dX12_isText_26 ⟨Nat.le_of_ble_eq_true rfl, Nat.le_of_ble_eq_true rfl⟩) (fun _ => [(h0, .inr (11, oX12 r0 I_0_isFound I_0_foundB I_0_changes I_0_taped I_0_size I_0_at I_0_signs I_0_wanted I_0_sign I_0_isKept I_0_keptFound I_0_keptB I_0_keptChanges)), ((r0 25), .inl (cI, 60, .inl A_0_25_tape)), ((r0 29), .inl (cI, 5, .inl A_0_29_reads))]) (fun _ => rfl) (fun _ => rfl) (fun y11 _ H locs h hM => ?_)
    refine lv_if_eq (tgt := 36) hx hb dX12_isText_29 (by decide) (fun hq => ?_) (fun hq => ?_)
    · have h := h.1 hq
      refine lv_iconst (v := (0 : Int32)) hx hb dX12_isText_36 (by decide) ?_
      exact jq37 _ _ _ _ _ _ h hM (lv_sub hl [0] rfl)
    · have h := h.2 hq
      refine lv_iconst (v := (1 : Int32)) hx hb dX12_isText_32 (by decide) ?_
      refine lv_goto (tgt := 37) hx hb dX12_isText_33 (by decide) ?_
      exact jq37 _ _ _ _ _ _ h hM (lv_sub hl [0] rfl)
  have lq2 : ∀ (k2 : Nat) (x1 : Int32) (I_0_at : Int32) (A_0_29_reads : (Nat → Int32)) (H : Heap) (locs : List Loc) (ls : Array Slot) , lp_X12_isText_2 I_0_size A_0_25_tape (jn_X12_isText_20 I_0_size A_0_25_tape K) K k2 x1 I_0_at A_0_29_reads → MW D A s.heap [(h0, .inr (11, oX12 r0 I_0_isFound I_0_foundB I_0_changes I_0_taped I_0_size I_0_at I_0_signs I_0_wanted I_0_sign I_0_isKept I_0_keptFound I_0_keptB I_0_keptChanges)), ((r0 25), .inl (cI, 60, .inl A_0_25_tape)), ((r0 29), .inl (cI, 5, .inl A_0_29_reads))] H locs → lv_has ls 3 [(0, .ref h0), (1, .int x1)] → W p l e rm_X12_isText s m args below meth c H locs 0 0 Q (F0 m 2 ls []) := by
    intro k2
    induction k2 with
    | zero =>
      intro x1 I_0_at A_0_29_reads H locs ls h
      unfold lp_X12_isText_2 at h
      exact h.elim
    | succ k2 ih2 =>
      intro x1 I_0_at A_0_29_reads H locs ls h hM hl
      unfold lp_X12_isText_2 at h
      refine lv_iload_n hx hb dX12_isText_2 rfl (lv_at hl 1 rfl) ?_
      refine lv_iconst (v := (5 : Int32)) hx hb dX12_isText_3 (by decide) ?_
      refine lv_icmp_ge (tgt := 20) hx hb dX12_isText_4 (by decide) (fun hq => ?_) (fun hq => ?_)
      · have h := h.1 hq
        exact jq20 _ _ _ _ _ h hM (lv_sub hl [0] rfl)
      · have h := h.2 hq
        refine lv_aload_n hx hb dX12_isText_7 rfl (lv_at hl 0 rfl) ?_
        refine m_get (C := RX12) (T := TX12) (N := 45) (ci := 11) (ref := "LoweredPowersModel") (v := .ref (r0 29)) C0 hM 0 rfl rfl kt_X12_isText_X12 29 (by decide) kw_X12_isText_1 rfl rfl dX12_isText_8 ?_
        refine lv_iload_n hx hb dX12_isText_11 rfl (lv_at hl 1 rfl) ?_
        refine lv_iconst (v := (0 : Int32)) hx hb dX12_isText_12 (by decide) ?_
        obtain ⟨hc12, h⟩ := h
        refine m_iast (ws' := [(h0, .inr (11, oX12 r0 I_0_isFound I_0_foundB I_0_changes I_0_taped I_0_size I_0_at I_0_signs I_0_wanted I_0_sign I_0_isKept I_0_keptFound I_0_keptB I_0_keptChanges)), ((r0 25), .inl (cI, 60, .inl A_0_25_tape)), ((r0 29), .inl (cI, 5, .inl (upd A_0_29_reads (x1).toNatClampNeg (0 : Int32))))]) C0 hM 2 rfl hc12 rfl dX12_isText_13 (fun H locs hM => ?_)
        refine lv_iinc (v := (x1 + (1 : Int32))) (lv' := [(1, .int (x1 + (1 : Int32))), (0, .ref h0)]) hx hb dX12_isText_14 hl (k := 1) rfl rfl (by decide) rfl (fun ls hl => ?_)
        refine lv_goto (tgt := 2) hx hb dX12_isText_17 (by decide) ?_
        exact ih2 _ _ _ _ _ _ h hM (lv_sub hl [1, 0] rfl)
  unfold wp_X12_isText at h
  refine lv_iconst (v := (0 : Int32)) hx hb dX12_isText_0 (by decide) ?_
  refine lv_istore_n (lv' := [(1, .int (0 : Int32)), (0, .ref h0)]) hx hb dX12_isText_1 rfl hl (by decide) rfl (fun ls hl => ?_)
  obtain ⟨k0, h⟩ := h
  exact lq2 k0 _ _ _ _ _ _ h hM (lv_sub hl [1, 0] rfl)
abbrev rm_X12_read : Room := { frames := 4, cells := 0, slots := 0, locals := 91 }
set_option maxRecDepth 100000 in
set_option maxHeartbeats 4000000 in
theorem ct_X12_read (l : Launch) (D : va_G) (cI cJ cZ : ClassId) (h0 : Nat) (r0 : Nat → Nat) (I_0_isFound : Int32) (I_0_foundB : Int32) (I_0_changes : Int32) (I_0_taped : Int32) (I_0_size : Int32) (I_0_at : Int32) (I_0_signs : Int32) (I_0_wanted : Int32) (I_0_sign : Int32) (I_0_isKept : Int32) (I_0_keptFound : Int32) (I_0_keptB : Int32) (I_0_keptChanges : Int32) (A_0_0_f : (Nat → Int32)) (A_0_25_tape : (Nat → Int32)) (A_0_29_reads : (Nat → Int32)) (sz : Nat) (K : Int32 → Int32 → Int32 → Int32 → (Nat → Int32) → (Nat → Int32) → Prop) (h : wp_X12_read I_0_taped I_0_size I_0_at A_0_0_f A_0_25_tape A_0_29_reads K) : Met l yX12_read wsX12_read rm_X12_read (va_Pc [.ref h0] (WX D cI cJ cZ [(h0, .inr (11, oX12 r0 I_0_isFound I_0_foundB I_0_changes I_0_taped I_0_size I_0_at I_0_signs I_0_wanted I_0_sign I_0_isKept I_0_keptFound I_0_keptB I_0_keptChanges)), ((r0 0), .inl (cI, 5, .inl A_0_0_f)), ((r0 25), .inl (cI, 60, .inl A_0_25_tape)), ((r0 29), .inl (cI, 5, .inl A_0_29_reads))] sz)) (va_Qi (fun (r : Int32) (u : Int32 × Int32 × Int32 × (Nat → Int32) × (Nat → Int32)) => K r u.1 u.2.1 u.2.2.1 u.2.2.2.1 u.2.2.2.2) (fun (u : Int32 × Int32 × Int32 × (Nat → Int32) × (Nat → Int32)) t => WY D (va_A [(h0, .inr (11, oX12 r0 I_0_isFound I_0_foundB I_0_changes I_0_taped I_0_size I_0_at I_0_signs I_0_wanted I_0_sign I_0_isKept I_0_keptFound I_0_keptB I_0_keptChanges)), ((r0 0), .inl (cI, 5, .inl A_0_0_f)), ((r0 25), .inl (cI, 60, .inl A_0_25_tape)), ((r0 29), .inl (cI, 5, .inl A_0_29_reads))] sz) [(h0, .inr (11, oX12 r0 I_0_isFound I_0_foundB I_0_changes u.1 u.2.1 u.2.2.1 I_0_signs I_0_wanted I_0_sign I_0_isKept I_0_keptFound I_0_keptB I_0_keptChanges)), ((r0 0), .inl (cI, 5, .inl u.2.2.2.1)), ((r0 25), .inl (cI, 60, .inl A_0_25_tape)), ((r0 29), .inl (cI, 5, .inl u.2.2.2.2))] t) (va_A [(h0, .inr (11, oX12 r0 I_0_isFound I_0_foundB I_0_changes I_0_taped I_0_size I_0_at I_0_signs I_0_wanted I_0_sign I_0_isKept I_0_keptFound I_0_keptB I_0_keptChanges)), ((r0 0), .inl (cI, 5, .inl A_0_0_f)), ((r0 25), .inl (cI, 60, .inl A_0_25_tape)), ((r0 29), .inl (cI, 5, .inl A_0_29_reads))] sz)) 0 0 (va_A [(h0, .inr (11, oX12 r0 I_0_isFound I_0_foundB I_0_changes I_0_taped I_0_size I_0_at I_0_signs I_0_wanted I_0_sign I_0_isKept I_0_keptFound I_0_keptB I_0_keptChanges)), ((r0 0), .inl (cI, 5, .inl A_0_0_f)), ((r0 25), .inl (cI, 60, .inl A_0_25_tape)), ((r0 29), .inl (cI, 5, .inl A_0_29_reads))] sz) := by
  refine m_met (own := RX12) (cc := cX12_read) (maxL := 2) (ret := some .int) [.ref h0] [(0, .ref h0)] (by decide) rfl rfl (Nat.le_of_ble_eq_true rfl) rfl ?_
  intro p e s m args below meth c Q A hQ hA C0 hr hnm hsz hM ls hl
  have hx := C0.1
  have hb := C0.2.1
  have hown := C0.2.2.2.1
  have jq58 : ∀ (I_0_taped : Int32) (I_0_size : Int32) (I_0_at : Int32) (A_0_0_f : (Nat → Int32)) (A_0_29_reads : (Nat → Int32)) (H : Heap) (locs : List Loc) (ls : Array Slot) , jn_X12_read_58 A_0_25_tape K I_0_taped I_0_size I_0_at A_0_0_f A_0_29_reads → MW D A s.heap [(h0, .inr (11, oX12 r0 I_0_isFound I_0_foundB I_0_changes I_0_taped I_0_size I_0_at I_0_signs I_0_wanted I_0_sign I_0_isKept I_0_keptFound I_0_keptB I_0_keptChanges)), ((r0 0), .inl (cI, 5, .inl A_0_0_f)), ((r0 25), .inl (cI, 60, .inl A_0_25_tape)), ((r0 29), .inl (cI, 5, .inl A_0_29_reads))] H locs → lv_has ls 2 [(0, .ref h0)] → W p l e rm_X12_read s m args below meth c H locs 0 0 Q (F0 m 58 ls []) := by
    intro I_0_taped I_0_size I_0_at A_0_0_f A_0_29_reads H locs ls h hM hl
    unfold jn_X12_read_58 at h
    refine lv_aload_n hx hb dX12_read_58 rfl (lv_at hl 0 rfl) ?_
    refine m_calli (wc := [(h0, .inr (11, oX12 r0 I_0_isFound I_0_foundB I_0_changes I_0_taped I_0_size I_0_at I_0_signs I_0_wanted I_0_sign I_0_isKept I_0_keptFound I_0_keptB I_0_keptChanges)), ((r0 0), .inl (cI, 5, .inl A_0_0_f))]) C0 hM [0, 1] rfl (m_runV (wc := [(h0, .inr (11, oX12 r0 I_0_isFound I_0_foundB I_0_changes I_0_taped I_0_size I_0_at I_0_signs I_0_wanted I_0_sign I_0_isKept I_0_keptFound I_0_keptB I_0_keptChanges)), ((r0 0), .inl (cI, 5, .inl A_0_0_f))]) (As := []) (rest := []) (ci := 11) C0 hM (ct_X12_degreeOf l D cI cJ cZ h0 r0 I_0_isFound I_0_foundB I_0_changes I_0_taped I_0_size I_0_at I_0_signs I_0_wanted I_0_sign I_0_isKept I_0_keptFound I_0_keptB I_0_keptChanges A_0_0_f _ _ h) [0, 1] rfl (by decide) gX12_read_X12_degreeOf rfl rfl rfl rfl rfl hd_X12_degreeOf ⟨Nat.le_of_ble_eq_true rfl, Nat.le_of_ble_eq_true rfl⟩ rfl hl.1 rfl (Nat.le_of_ble_eq_true rfl) dX12_read_59 ⟨Nat.le_of_ble_eq_true rfl, Nat.le_of_ble_eq_true rfl⟩) (fun _ => [(h0, .inr (11, oX12 r0 I_0_isFound I_0_foundB I_0_changes I_0_taped I_0_size I_0_at I_0_signs I_0_wanted I_0_sign I_0_isKept I_0_keptFound I_0_keptB I_0_keptChanges)), ((r0 0), .inl (cI, 5, .inl A_0_0_f)), ((r0 25), .inl (cI, 60, .inl A_0_25_tape)), ((r0 29), .inl (cI, 5, .inl A_0_29_reads))]) (fun _ => rfl) (fun _ => rfl) (fun y1 _ H locs h hM => ?_)
    refine lv_bipush (v := (10 : Int32)) hx hb dX12_read_62 (by decide) ?_
    refine lv_iadd hx hb dX12_read_64 ?_
    subst hsz; subst hA; subst hQ
    exact m_iret C0 hr hM (I_0_taped, I_0_size, I_0_at, A_0_0_f, A_0_29_reads) h rfl dX12_read_65
  have lq35 : ∀ (k35 : Nat) (x1 : Int32) (I_0_taped : Int32) (I_0_size : Int32) (I_0_at : Int32) (A_0_0_f : (Nat → Int32)) (A_0_29_reads : (Nat → Int32)) (H : Heap) (locs : List Loc) (ls : Array Slot) , lp_X12_read_35 A_0_25_tape (jn_X12_read_58 A_0_25_tape K) K k35 x1 I_0_taped I_0_size I_0_at A_0_0_f A_0_29_reads → MW D A s.heap [(h0, .inr (11, oX12 r0 I_0_isFound I_0_foundB I_0_changes I_0_taped I_0_size I_0_at I_0_signs I_0_wanted I_0_sign I_0_isKept I_0_keptFound I_0_keptB I_0_keptChanges)), ((r0 0), .inl (cI, 5, .inl A_0_0_f)), ((r0 25), .inl (cI, 60, .inl A_0_25_tape)), ((r0 29), .inl (cI, 5, .inl A_0_29_reads))] H locs → lv_has ls 2 [(0, .ref h0), (1, .int x1)] → W p l e rm_X12_read s m args below meth c H locs 0 0 Q (F0 m 35 ls []) := by
    intro k35
    induction k35 with
    | zero =>
      intro x1 I_0_taped I_0_size I_0_at A_0_0_f A_0_29_reads H locs ls h
      unfold lp_X12_read_35 at h
      exact h.elim
    | succ k35 ih35 =>
      intro x1 I_0_taped I_0_size I_0_at A_0_0_f A_0_29_reads H locs ls h hM hl
      unfold lp_X12_read_35 at h
      refine lv_iload_n hx hb dX12_read_35 rfl (lv_at hl 1 rfl) ?_
      refine lv_iconst (v := (5 : Int32)) hx hb dX12_read_36 (by decide) ?_
      refine lv_icmp_ge (tgt := 58) hx hb dX12_read_37 (by decide) (fun hq => ?_) (fun hq => ?_)
      · have h := h.1 hq
        exact jq58 _ _ _ _ _ _ _ _ h hM (lv_sub hl [0] rfl)
      · have h := h.2 hq
        refine lv_aload_n hx hb dX12_read_40 rfl (lv_at hl 0 rfl) ?_
        refine m_get (C := RX12) (T := TX12) (N := 45) (ci := 11) (ref := "LoweredPowersModel") (v := .ref (r0 0)) C0 hM 0 rfl rfl kt_X12_read_X12 0 (by decide) kw_X12_read_4 rfl rfl dX12_read_41 ?_
        refine lv_iload_n hx hb dX12_read_44 rfl (lv_at hl 1 rfl) ?_
        refine lv_aload_n hx hb dX12_read_45 rfl (lv_at hl 0 rfl) ?_
        refine m_get (C := RX12) (T := TX12) (N := 45) (ci := 11) (ref := "LoweredPowersModel") (v := .ref (r0 29)) C0 hM 0 rfl rfl kt_X12_read_X12 29 (by decide) kw_X12_read_5 rfl rfl dX12_read_46 ?_
        refine lv_iload_n hx hb dX12_read_49 rfl (lv_at hl 1 rfl) ?_
        obtain ⟨hc2, h⟩ := h
        refine m_iald C0 hM 3 rfl hc2 dX12_read_50 ?_
        refine lv_topi (fun y3 ey3 => ?_)
        have h := h y3 ey3
        refine m_iast (ws' := [(h0, .inr (11, oX12 r0 I_0_isFound I_0_foundB I_0_changes I_0_taped I_0_size I_0_at I_0_signs I_0_wanted I_0_sign I_0_isKept I_0_keptFound I_0_keptB I_0_keptChanges)), ((r0 0), .inl (cI, 5, .inl (upd A_0_0_f (x1).toNatClampNeg y3))), ((r0 25), .inl (cI, 60, .inl A_0_25_tape)), ((r0 29), .inl (cI, 5, .inl A_0_29_reads))]) C0 hM 1 rfl hc2 rfl dX12_read_51 (fun H locs hM => ?_)
        refine lv_iinc (v := (x1 + (1 : Int32))) (lv' := [(1, .int (x1 + (1 : Int32))), (0, .ref h0)]) hx hb dX12_read_52 hl (k := 1) rfl rfl (by decide) rfl (fun ls hl => ?_)
        refine lv_goto (tgt := 35) hx hb dX12_read_55 (by decide) ?_
        exact ih35 _ _ _ _ _ _ _ _ _ h hM (lv_sub hl [1, 0] rfl)
  unfold wp_X12_read at h
  refine lv_aload_n hx hb dX12_read_0 rfl (lv_at hl 0 rfl) ?_
  refine lv_aload_n hx hb dX12_read_1 rfl (lv_at hl 0 rfl) ?_
  refine m_get (C := RX12) (T := TX12) (N := 45) (ci := 11) (ref := "LoweredPowersModel") (v := .int I_0_taped) C0 hM 0 rfl rfl kt_X12_read_X12 26 (by decide) kw_X12_read_1 rfl rfl dX12_read_2 ?_
  refine m_put (ws' := [(h0, .inr (11, oX12 r0 I_0_isFound I_0_foundB I_0_changes I_0_taped I_0_taped I_0_at I_0_signs I_0_wanted I_0_sign I_0_isKept I_0_keptFound I_0_keptB I_0_keptChanges)), ((r0 0), .inl (cI, 5, .inl A_0_0_f)), ((r0 25), .inl (cI, 60, .inl A_0_25_tape)), ((r0 29), .inl (cI, 5, .inl A_0_29_reads))]) (C := RX12) (T := TX12) (N := 45) (ci := 11) (ref := "LoweredPowersModel") (v := .int I_0_taped) C0 hM 0 rfl rfl kt_X12_read_X12 tyX12 tyX12_ok nmX12 27 (by decide) kw_X12_read_2 rfl rfl rfl rfl (Nat.le_of_ble_eq_true rfl) rfl dX12_read_5 (fun H locs hM => ?_)
  refine lv_aload_n hx hb dX12_read_8 rfl (lv_at hl 0 rfl) ?_
  refine lv_iconst (v := (0 : Int32)) hx hb dX12_read_9 (by decide) ?_
  refine m_put (ws' := [(h0, .inr (11, oX12 r0 I_0_isFound I_0_foundB I_0_changes (0 : Int32) I_0_taped I_0_at I_0_signs I_0_wanted I_0_sign I_0_isKept I_0_keptFound I_0_keptB I_0_keptChanges)), ((r0 0), .inl (cI, 5, .inl A_0_0_f)), ((r0 25), .inl (cI, 60, .inl A_0_25_tape)), ((r0 29), .inl (cI, 5, .inl A_0_29_reads))]) (C := RX12) (T := TX12) (N := 45) (ci := 11) (ref := "LoweredPowersModel") (v := .int (0 : Int32)) C0 hM 0 rfl rfl kt_X12_read_X12 tyX12 tyX12_ok nmX12 26 (by decide) kw_X12_read_1 rfl rfl rfl rfl (Nat.le_of_ble_eq_true rfl) rfl dX12_read_10 (fun H locs hM => ?_)
  refine lv_aload_n hx hb dX12_read_13 rfl (lv_at hl 0 rfl) ?_
  refine lv_iconst (v := (0 : Int32)) hx hb dX12_read_14 (by decide) ?_
  refine m_put (ws' := [(h0, .inr (11, oX12 r0 I_0_isFound I_0_foundB I_0_changes (0 : Int32) I_0_taped (0 : Int32) I_0_signs I_0_wanted I_0_sign I_0_isKept I_0_keptFound I_0_keptB I_0_keptChanges)), ((r0 0), .inl (cI, 5, .inl A_0_0_f)), ((r0 25), .inl (cI, 60, .inl A_0_25_tape)), ((r0 29), .inl (cI, 5, .inl A_0_29_reads))]) (C := RX12) (T := TX12) (N := 45) (ci := 11) (ref := "LoweredPowersModel") (v := .int (0 : Int32)) C0 hM 0 rfl rfl kt_X12_read_X12 tyX12 tyX12_ok nmX12 28 (by decide) kw_X12_read_3 rfl rfl rfl rfl (Nat.le_of_ble_eq_true rfl) rfl dX12_read_15 (fun H locs hM => ?_)
  refine lv_aload_n hx hb dX12_read_18 rfl (lv_at hl 0 rfl) ?_
  refine m_calli (wc := [(h0, .inr (11, oX12 r0 I_0_isFound I_0_foundB I_0_changes (0 : Int32) I_0_taped (0 : Int32) I_0_signs I_0_wanted I_0_sign I_0_isKept I_0_keptFound I_0_keptB I_0_keptChanges)), ((r0 25), .inl (cI, 60, .inl A_0_25_tape)), ((r0 29), .inl (cI, 5, .inl A_0_29_reads))]) C0 hM [0, 2, 3] rfl (m_runV (wc := [(h0, .inr (11, oX12 r0 I_0_isFound I_0_foundB I_0_changes (0 : Int32) I_0_taped (0 : Int32) I_0_signs I_0_wanted I_0_sign I_0_isKept I_0_keptFound I_0_keptB I_0_keptChanges)), ((r0 25), .inl (cI, 60, .inl A_0_25_tape)), ((r0 29), .inl (cI, 5, .inl A_0_29_reads))]) (As := []) (rest := []) (ci := 11) C0 hM (ct_X12_isText l D cI cJ cZ h0 r0 I_0_isFound I_0_foundB I_0_changes (0 : Int32) I_0_taped (0 : Int32) I_0_signs I_0_wanted I_0_sign I_0_isKept I_0_keptFound I_0_keptB I_0_keptChanges A_0_25_tape A_0_29_reads _ _ h) [0, 2, 3] rfl (by decide) gX12_read_X12_isText rfl rfl rfl rfl rfl hd_X12_isText ⟨Nat.le_of_ble_eq_true rfl, Nat.le_of_ble_eq_true rfl⟩ rfl hl.1 rfl (Nat.le_of_ble_eq_true rfl) dX12_read_19 ⟨Nat.le_of_ble_eq_true rfl, Nat.le_of_ble_eq_true rfl⟩) (fun u => [(h0, .inr (11, oX12 r0 I_0_isFound I_0_foundB I_0_changes (0 : Int32) I_0_taped u.1 I_0_signs I_0_wanted I_0_sign I_0_isKept I_0_keptFound I_0_keptB I_0_keptChanges)), ((r0 0), .inl (cI, 5, .inl A_0_0_f)), ((r0 25), .inl (cI, 60, .inl A_0_25_tape)), ((r0 29), .inl (cI, 5, .inl u.2))]) (fun _ => rfl) (fun _ => rfl) (fun y4 u H locs h hM => ?_)
  obtain ⟨b5, b6⟩ := u
  dsimp only at h
  have hM : MW D A s.heap [(h0, .inr (11, oX12 r0 I_0_isFound I_0_foundB I_0_changes (0 : Int32) I_0_taped b5 I_0_signs I_0_wanted I_0_sign I_0_isKept I_0_keptFound I_0_keptB I_0_keptChanges)), ((r0 0), .inl (cI, 5, .inl A_0_0_f)), ((r0 25), .inl (cI, 60, .inl A_0_25_tape)), ((r0 29), .inl (cI, 5, .inl b6))] H locs := hM
  refine lv_if_ne (tgt := 33) hx hb dX12_read_22 (by decide) (fun hq => ?_) (fun hq => ?_)
  · have h := h.1 hq
    refine lv_iconst (v := (0 : Int32)) hx hb dX12_read_33 (by decide) ?_
    refine lv_istore_n (lv' := [(1, .int (0 : Int32)), (0, .ref h0)]) hx hb dX12_read_34 rfl hl (by decide) rfl (fun ls hl => ?_)
    obtain ⟨k0, h⟩ := h
    exact lq35 k0 _ _ _ _ _ _ _ _ _ h hM (lv_sub hl [1, 0] rfl)
  · have h := h.2 hq
    refine lv_bipush (v := (-100 : Int32)) hx hb dX12_read_25 (by decide) ?_
    refine lv_aload_n hx hb dX12_read_27 rfl (lv_at hl 0 rfl) ?_
    refine m_get (C := RX12) (T := TX12) (N := 45) (ci := 11) (ref := "LoweredPowersModel") (v := .int b5) C0 hM 0 rfl rfl kt_X12_read_X12 28 (by decide) kw_X12_read_3 rfl rfl dX12_read_28 ?_
    refine lv_isub hx hb dX12_read_31 ?_
    subst hsz; subst hA; subst hQ
    exact m_iret C0 hr hM ((0 : Int32), I_0_taped, b5, A_0_0_f, b6) h rfl dX12_read_32
abbrev rm_X12_writes : Room := { frames := 0, cells := 0, slots := 0, locals := 0 }
set_option maxRecDepth 100000 in
set_option maxHeartbeats 4000000 in
theorem ct_X12_writes (l : Launch) (D : va_G) (cI cJ cZ : ClassId) (h0 : Nat) (r0 : Nat → Nat) (I_0_isFound : Int32) (I_0_foundB : Int32) (I_0_changes : Int32) (I_0_taped : Int32) (I_0_size : Int32) (I_0_at : Int32) (I_0_signs : Int32) (I_0_wanted : Int32) (I_0_sign : Int32) (I_0_isKept : Int32) (I_0_keptFound : Int32) (I_0_keptB : Int32) (I_0_keptChanges : Int32) (x1 : Int32) (sz : Nat) (K : Int32 → Int32 → Prop) (h : wp_X12_writes x1 I_0_signs I_0_wanted I_0_sign K) : Met l yX12_writes wsX12_writes rm_X12_writes (va_Pc [.ref h0, .int x1] (WX D cI cJ cZ [(h0, .inr (11, oX12 r0 I_0_isFound I_0_foundB I_0_changes I_0_taped I_0_size I_0_at I_0_signs I_0_wanted I_0_sign I_0_isKept I_0_keptFound I_0_keptB I_0_keptChanges))] sz)) (va_Qv (fun (u : Int32 × Int32) => K u.1 u.2) (fun (u : Int32 × Int32) t => WY D (va_A [(h0, .inr (11, oX12 r0 I_0_isFound I_0_foundB I_0_changes I_0_taped I_0_size I_0_at I_0_signs I_0_wanted I_0_sign I_0_isKept I_0_keptFound I_0_keptB I_0_keptChanges))] sz) [(h0, .inr (11, oX12 r0 I_0_isFound I_0_foundB I_0_changes I_0_taped I_0_size I_0_at u.1 I_0_wanted u.2 I_0_isKept I_0_keptFound I_0_keptB I_0_keptChanges))] t) (va_A [(h0, .inr (11, oX12 r0 I_0_isFound I_0_foundB I_0_changes I_0_taped I_0_size I_0_at I_0_signs I_0_wanted I_0_sign I_0_isKept I_0_keptFound I_0_keptB I_0_keptChanges))] sz)) 0 0 (va_A [(h0, .inr (11, oX12 r0 I_0_isFound I_0_foundB I_0_changes I_0_taped I_0_size I_0_at I_0_signs I_0_wanted I_0_sign I_0_isKept I_0_keptFound I_0_keptB I_0_keptChanges))] sz) := by
  refine m_met (own := RX12) (cc := cX12_writes) (maxL := 2) (ret := none) [.ref h0, .int x1] [(0, .ref h0), (1, .int x1)] (by decide) rfl rfl (Nat.le_of_ble_eq_true rfl) rfl ?_
  intro p e s m args below meth c Q A hQ hA C0 hr hnm hsz hM ls hl
  have hx := C0.1
  have hb := C0.2.1
  have hown := C0.2.2.2.1
  have jq20 : ∀ (s1 : Int32) (I_0_signs : Int32) (I_0_sign : Int32) (H : Heap) (locs : List Loc) (ls : Array Slot) , jn_X12_writes_20 x1 I_0_wanted K s1 I_0_signs I_0_sign → MW D A s.heap [(h0, .inr (11, oX12 r0 I_0_isFound I_0_foundB I_0_changes I_0_taped I_0_size I_0_at I_0_signs I_0_wanted I_0_sign I_0_isKept I_0_keptFound I_0_keptB I_0_keptChanges))] H locs → lv_has ls 2 [(0, .ref h0)] → W p l e rm_X12_writes s m args below meth c H locs 0 0 Q (F0 m 20 ls [.int s1, .ref h0]) := by
    intro s1 I_0_signs I_0_sign H locs ls h hM hl
    unfold jn_X12_writes_20 at h
    refine m_put (ws' := [(h0, .inr (11, oX12 r0 I_0_isFound I_0_foundB I_0_changes I_0_taped I_0_size I_0_at I_0_signs I_0_wanted s1 I_0_isKept I_0_keptFound I_0_keptB I_0_keptChanges))]) (C := RX12) (T := TX12) (N := 45) (ci := 11) (ref := "LoweredPowersModel") (v := .int s1) C0 hM 0 rfl rfl kt_X12_writes_X12 tyX12 tyX12_ok nmX12 32 (by decide) kw_X12_writes_3 rfl rfl rfl rfl (Nat.le_of_ble_eq_true rfl) rfl dX12_writes_20 (fun H locs hM => ?_)
    refine lv_aload_n hx hb dX12_writes_23 rfl (lv_at hl 0 rfl) ?_
    refine lv_dup hx hb dX12_writes_24 rfl ?_
    refine m_get (C := RX12) (T := TX12) (N := 45) (ci := 11) (ref := "LoweredPowersModel") (v := .int I_0_signs) C0 hM 0 rfl rfl kt_X12_writes_X12 30 (by decide) kw_X12_writes_1 rfl rfl dX12_writes_25 ?_
    refine lv_iconst (v := (1 : Int32)) hx hb dX12_writes_28 (by decide) ?_
    refine lv_iadd hx hb dX12_writes_29 ?_
    refine lv_topi (fun y1 ey1 => ?_)
    have h := h y1 ey1
    refine m_put (ws' := [(h0, .inr (11, oX12 r0 I_0_isFound I_0_foundB I_0_changes I_0_taped I_0_size I_0_at y1 I_0_wanted s1 I_0_isKept I_0_keptFound I_0_keptB I_0_keptChanges))]) (C := RX12) (T := TX12) (N := 45) (ci := 11) (ref := "LoweredPowersModel") (v := .int y1) C0 hM 0 rfl rfl kt_X12_writes_X12 tyX12 tyX12_ok nmX12 30 (by decide) kw_X12_writes_1 rfl rfl rfl rfl (Nat.le_of_ble_eq_true rfl) rfl dX12_writes_30 (fun H locs hM => ?_)
    subst hsz; subst hA; subst hQ
    exact m_vret C0 hr hM (y1, s1) h rfl dX12_writes_33
  unfold wp_X12_writes at h
  refine lv_aload_n hx hb dX12_writes_0 rfl (lv_at hl 0 rfl) ?_
  refine lv_aload_n hx hb dX12_writes_1 rfl (lv_at hl 0 rfl) ?_
  refine m_get (C := RX12) (T := TX12) (N := 45) (ci := 11) (ref := "LoweredPowersModel") (v := .int I_0_signs) C0 hM 0 rfl rfl kt_X12_writes_X12 30 (by decide) kw_X12_writes_1 rfl rfl dX12_writes_2 ?_
  refine lv_aload_n hx hb dX12_writes_5 rfl (lv_at hl 0 rfl) ?_
  refine m_get (C := RX12) (T := TX12) (N := 45) (ci := 11) (ref := "LoweredPowersModel") (v := .int I_0_wanted) C0 hM 0 rfl rfl kt_X12_writes_X12 31 (by decide) kw_X12_writes_2 rfl rfl dX12_writes_6 ?_
  refine lv_icmp_ne (tgt := 16) hx hb dX12_writes_9 (by decide) (fun hq => ?_) (fun hq => ?_)
  · have h := h.1 hq
    refine lv_aload_n hx hb dX12_writes_16 rfl (lv_at hl 0 rfl) ?_
    refine m_get (C := RX12) (T := TX12) (N := 45) (ci := 11) (ref := "LoweredPowersModel") (v := .int I_0_sign) C0 hM 0 rfl rfl kt_X12_writes_X12 32 (by decide) kw_X12_writes_3 rfl rfl dX12_writes_17 ?_
    exact jq20 _ _ _ _ _ _ h hM (lv_sub hl [0] rfl)
  · have h := h.2 hq
    refine lv_iload_n hx hb dX12_writes_12 rfl (lv_at hl 1 rfl) ?_
    refine lv_goto (tgt := 20) hx hb dX12_writes_13 (by decide) ?_
    exact jq20 _ _ _ _ _ _ h hM (lv_sub hl [0] rfl)
abbrev rm_X12_writesNumber : Room := { frames := 1, cells := 0, slots := 0, locals := 21 }
set_option maxRecDepth 100000 in
set_option maxHeartbeats 4000000 in
theorem ct_X12_writesNumber (l : Launch) (D : va_G) (cI cJ cZ : ClassId) (h0 : Nat) (r0 : Nat → Nat) (I_0_isFound : Int32) (I_0_foundB : Int32) (I_0_changes : Int32) (I_0_taped : Int32) (I_0_size : Int32) (I_0_at : Int32) (I_0_signs : Int32) (I_0_wanted : Int32) (I_0_sign : Int32) (I_0_isKept : Int32) (I_0_keptFound : Int32) (I_0_keptB : Int32) (I_0_keptChanges : Int32) (x1 : Int32) (sz : Nat) (K : Int32 → Int32 → Prop) (h : wp_X12_writesNumber x1 I_0_signs I_0_wanted I_0_sign K) : Met l yX12_writesNumber wsX12_writesNumber rm_X12_writesNumber (va_Pc [.ref h0, .int x1] (WX D cI cJ cZ [(h0, .inr (11, oX12 r0 I_0_isFound I_0_foundB I_0_changes I_0_taped I_0_size I_0_at I_0_signs I_0_wanted I_0_sign I_0_isKept I_0_keptFound I_0_keptB I_0_keptChanges))] sz)) (va_Qv (fun (u : Int32 × Int32) => K u.1 u.2) (fun (u : Int32 × Int32) t => WY D (va_A [(h0, .inr (11, oX12 r0 I_0_isFound I_0_foundB I_0_changes I_0_taped I_0_size I_0_at I_0_signs I_0_wanted I_0_sign I_0_isKept I_0_keptFound I_0_keptB I_0_keptChanges))] sz) [(h0, .inr (11, oX12 r0 I_0_isFound I_0_foundB I_0_changes I_0_taped I_0_size I_0_at u.1 I_0_wanted u.2 I_0_isKept I_0_keptFound I_0_keptB I_0_keptChanges))] t) (va_A [(h0, .inr (11, oX12 r0 I_0_isFound I_0_foundB I_0_changes I_0_taped I_0_size I_0_at I_0_signs I_0_wanted I_0_sign I_0_isKept I_0_keptFound I_0_keptB I_0_keptChanges))] sz)) 0 0 (va_A [(h0, .inr (11, oX12 r0 I_0_isFound I_0_foundB I_0_changes I_0_taped I_0_size I_0_at I_0_signs I_0_wanted I_0_sign I_0_isKept I_0_keptFound I_0_keptB I_0_keptChanges))] sz) := by
  refine m_met (own := RX12) (cc := cX12_writesNumber) (maxL := 3) (ret := none) [.ref h0, .int x1] [(0, .ref h0), (1, .int x1)] (by decide) rfl rfl (Nat.le_of_ble_eq_true rfl) rfl ?_
  intro p e s m args below meth c Q A hQ hA C0 hr hnm hsz hM ls hl
  have hx := C0.1
  have hb := C0.2.1
  have hown := C0.2.2.2.1
  have lq18 : ∀ (k18 : Nat) (x2 : Int32) (I_0_signs : Int32) (I_0_sign : Int32) (H : Heap) (locs : List Loc) (ls : Array Slot) , lp_X12_writesNumber_18 x1 I_0_wanted K k18 x2 I_0_signs I_0_sign → MW D A s.heap [(h0, .inr (11, oX12 r0 I_0_isFound I_0_foundB I_0_changes I_0_taped I_0_size I_0_at I_0_signs I_0_wanted I_0_sign I_0_isKept I_0_keptFound I_0_keptB I_0_keptChanges))] H locs → lv_has ls 3 [(0, .ref h0), (1, .int x1), (2, .int x2)] → W p l e rm_X12_writesNumber s m args below meth c H locs 0 0 Q (F0 m 18 ls []) := by
    intro k18
    induction k18 with
    | zero =>
      intro x2 I_0_signs I_0_sign H locs ls h
      unfold lp_X12_writesNumber_18 at h
      exact h.elim
    | succ k18 ih18 =>
      intro x2 I_0_signs I_0_sign H locs ls h hM hl
      unfold lp_X12_writesNumber_18 at h
      refine lv_iload_n hx hb dX12_writesNumber_18 rfl (lv_at hl 2 rfl) ?_
      refine lv_if_le (tgt := 43) hx hb dX12_writesNumber_19 (by decide) (fun hq => ?_) (fun hq => ?_)
      · have h := h.1 hq
        subst hsz; subst hA; subst hQ
        exact m_vret C0 hr hM (I_0_signs, I_0_sign) h rfl dX12_writesNumber_43
      · have h := h.2 hq
        refine lv_aload_n hx hb dX12_writesNumber_22 rfl (lv_at hl 0 rfl) ?_
        refine lv_bipush (v := (48 : Int32)) hx hb dX12_writesNumber_23 (by decide) ?_
        refine lv_iload_n hx hb dX12_writesNumber_25 rfl (lv_at hl 1 rfl) ?_
        refine lv_iload_n hx hb dX12_writesNumber_26 rfl (lv_at hl 2 rfl) ?_
        obtain ⟨hc1, h⟩ := h
        refine lv_idiv hx hb dX12_writesNumber_27 hc1 ?_
        refine lv_bipush (v := (10 : Int32)) hx hb dX12_writesNumber_28 (by decide) ?_
        refine lv_irem hx hb dX12_writesNumber_30 (by decide) ?_
        refine lv_iadd hx hb dX12_writesNumber_31 ?_
        refine m_callv (wc := [(h0, .inr (11, oX12 r0 I_0_isFound I_0_foundB I_0_changes I_0_taped I_0_size I_0_at I_0_signs I_0_wanted I_0_sign I_0_isKept I_0_keptFound I_0_keptB I_0_keptChanges))]) C0 hM [0] rfl (m_runV (wc := [(h0, .inr (11, oX12 r0 I_0_isFound I_0_foundB I_0_changes I_0_taped I_0_size I_0_at I_0_signs I_0_wanted I_0_sign I_0_isKept I_0_keptFound I_0_keptB I_0_keptChanges))]) (As := [.int ((48 : Int32) + ((x1 / x2) - (x1 / x2) / (10 : Int32) * (10 : Int32)))]) (rest := []) (ci := 11) C0 hM (ct_X12_writes l D cI cJ cZ h0 r0 I_0_isFound I_0_foundB I_0_changes I_0_taped I_0_size I_0_at I_0_signs I_0_wanted I_0_sign I_0_isKept I_0_keptFound I_0_keptB I_0_keptChanges ((48 : Int32) + ((x1 / x2) - (x1 / x2) / (10 : Int32) * (10 : Int32))) _ _ h) [0] rfl (by decide) gX12_writesNumber_X12_writes rfl rfl rfl rfl rfl hd_X12_writes ⟨Nat.le_of_ble_eq_true rfl, Nat.le_of_ble_eq_true rfl⟩ rfl hl.1 rfl (Nat.le_of_ble_eq_true rfl) dX12_writesNumber_32 ⟨Nat.le_of_ble_eq_true rfl, Nat.le_of_ble_eq_true rfl⟩) (fun u => [(h0, .inr (11, oX12 r0 I_0_isFound I_0_foundB I_0_changes I_0_taped I_0_size I_0_at u.1 I_0_wanted u.2 I_0_isKept I_0_keptFound I_0_keptB I_0_keptChanges))]) (fun _ => rfl) (fun _ => rfl) (fun u H locs h hM => ?_)
        obtain ⟨b2, b3⟩ := u
        dsimp only at h
        have hM : MW D A s.heap [(h0, .inr (11, oX12 r0 I_0_isFound I_0_foundB I_0_changes I_0_taped I_0_size I_0_at b2 I_0_wanted b3 I_0_isKept I_0_keptFound I_0_keptB I_0_keptChanges))] H locs := hM
        refine lv_iload_n hx hb dX12_writesNumber_35 rfl (lv_at hl 2 rfl) ?_
        refine lv_bipush (v := (10 : Int32)) hx hb dX12_writesNumber_36 (by decide) ?_
        refine lv_idiv hx hb dX12_writesNumber_38 (by decide) ?_
        refine lv_topi (fun y4 ey4 => ?_)
        have h := h y4 ey4
        refine lv_istore_n (lv' := [(2, .int y4), (0, .ref h0), (1, .int x1)]) hx hb dX12_writesNumber_39 rfl hl (by decide) rfl (fun ls hl => ?_)
        refine lv_goto (tgt := 18) hx hb dX12_writesNumber_40 (by decide) ?_
        exact ih18 _ _ _ _ _ _ h hM (lv_sub hl [1, 2, 0] rfl)
  have lq2 : ∀ (k2 : Nat) (x2 : Int32) (I_0_signs : Int32) (I_0_sign : Int32) (H : Heap) (locs : List Loc) (ls : Array Slot) , lp_X12_writesNumber_2 x1 I_0_wanted (fun x2 I_0_signs I_0_sign => (∃ k18 : Nat, lp_X12_writesNumber_18 x1 I_0_wanted K k18 x2 I_0_signs I_0_sign)) K k2 x2 I_0_signs I_0_sign → MW D A s.heap [(h0, .inr (11, oX12 r0 I_0_isFound I_0_foundB I_0_changes I_0_taped I_0_size I_0_at I_0_signs I_0_wanted I_0_sign I_0_isKept I_0_keptFound I_0_keptB I_0_keptChanges))] H locs → lv_has ls 3 [(0, .ref h0), (1, .int x1), (2, .int x2)] → W p l e rm_X12_writesNumber s m args below meth c H locs 0 0 Q (F0 m 2 ls []) := by
    intro k2
    induction k2 with
    | zero =>
      intro x2 I_0_signs I_0_sign H locs ls h
      unfold lp_X12_writesNumber_2 at h
      exact h.elim
    | succ k2 ih2 =>
      intro x2 I_0_signs I_0_sign H locs ls h hM hl
      unfold lp_X12_writesNumber_2 at h
      refine lv_iload_n hx hb dX12_writesNumber_2 rfl (lv_at hl 1 rfl) ?_
      refine lv_iload_n hx hb dX12_writesNumber_3 rfl (lv_at hl 2 rfl) ?_
      obtain ⟨hc5, h⟩ := h
      refine lv_idiv hx hb dX12_writesNumber_4 hc5 ?_
      refine lv_bipush (v := (9 : Int32)) hx hb dX12_writesNumber_5 (by decide) ?_
      refine lv_icmp_le (tgt := 18) hx hb dX12_writesNumber_7 (by decide) (fun hq => ?_) (fun hq => ?_)
      · have h := h.1 hq
        obtain ⟨k0, h⟩ := h
        exact lq18 k0 _ _ _ _ _ _ h hM (lv_sub hl [0, 1, 2] rfl)
      · have h := h.2 hq
        refine lv_iload_n hx hb dX12_writesNumber_10 rfl (lv_at hl 2 rfl) ?_
        refine lv_bipush (v := (10 : Int32)) hx hb dX12_writesNumber_11 (by decide) ?_
        refine lv_imul hx hb dX12_writesNumber_13 ?_
        refine lv_topi (fun y6 ey6 => ?_)
        have h := h y6 ey6
        refine lv_istore_n (lv' := [(2, .int y6), (0, .ref h0), (1, .int x1)]) hx hb dX12_writesNumber_14 rfl hl (by decide) rfl (fun ls hl => ?_)
        refine lv_goto (tgt := 2) hx hb dX12_writesNumber_15 (by decide) ?_
        exact ih2 _ _ _ _ _ _ h hM (lv_sub hl [1, 2, 0] rfl)
  unfold wp_X12_writesNumber at h
  refine lv_iconst (v := (1 : Int32)) hx hb dX12_writesNumber_0 (by decide) ?_
  refine lv_istore_n (lv' := [(2, .int (1 : Int32)), (0, .ref h0), (1, .int x1)]) hx hb dX12_writesNumber_1 rfl hl (by decide) rfl (fun ls hl => ?_)
  obtain ⟨k0, h⟩ := h
  exact lq2 k0 _ _ _ _ _ _ h hM (lv_sub hl [1, 2, 0] rfl)
abbrev rm_X12_writesTerm : Room := { frames := 2, cells := 0, slots := 0, locals := 43 }
set_option maxRecDepth 100000 in
set_option maxHeartbeats 4000000 in
theorem ct_X12_writesTerm (l : Launch) (D : va_G) (cI cJ cZ : ClassId) (h0 : Nat) (r0 : Nat → Nat) (I_0_isFound : Int32) (I_0_foundB : Int32) (I_0_changes : Int32) (I_0_taped : Int32) (I_0_size : Int32) (I_0_at : Int32) (I_0_signs : Int32) (I_0_wanted : Int32) (I_0_sign : Int32) (I_0_isKept : Int32) (I_0_keptFound : Int32) (I_0_keptB : Int32) (I_0_keptChanges : Int32) (A_0_0_f : (Nat → Int32)) (x1 : Int32) (sz : Nat) (K : Int32 → Int32 → Prop) (h : wp_X12_writesTerm x1 I_0_signs I_0_wanted I_0_sign A_0_0_f K) : Met l yX12_writesTerm wsX12_writesTerm rm_X12_writesTerm (va_Pc [.ref h0, .int x1] (WX D cI cJ cZ [(h0, .inr (11, oX12 r0 I_0_isFound I_0_foundB I_0_changes I_0_taped I_0_size I_0_at I_0_signs I_0_wanted I_0_sign I_0_isKept I_0_keptFound I_0_keptB I_0_keptChanges)), ((r0 0), .inl (cI, 5, .inl A_0_0_f))] sz)) (va_Qv (fun (u : Int32 × Int32) => K u.1 u.2) (fun (u : Int32 × Int32) t => WY D (va_A [(h0, .inr (11, oX12 r0 I_0_isFound I_0_foundB I_0_changes I_0_taped I_0_size I_0_at I_0_signs I_0_wanted I_0_sign I_0_isKept I_0_keptFound I_0_keptB I_0_keptChanges)), ((r0 0), .inl (cI, 5, .inl A_0_0_f))] sz) [(h0, .inr (11, oX12 r0 I_0_isFound I_0_foundB I_0_changes I_0_taped I_0_size I_0_at u.1 I_0_wanted u.2 I_0_isKept I_0_keptFound I_0_keptB I_0_keptChanges)), ((r0 0), .inl (cI, 5, .inl A_0_0_f))] t) (va_A [(h0, .inr (11, oX12 r0 I_0_isFound I_0_foundB I_0_changes I_0_taped I_0_size I_0_at I_0_signs I_0_wanted I_0_sign I_0_isKept I_0_keptFound I_0_keptB I_0_keptChanges)), ((r0 0), .inl (cI, 5, .inl A_0_0_f))] sz)) 0 0 (va_A [(h0, .inr (11, oX12 r0 I_0_isFound I_0_foundB I_0_changes I_0_taped I_0_size I_0_at I_0_signs I_0_wanted I_0_sign I_0_isKept I_0_keptFound I_0_keptB I_0_keptChanges)), ((r0 0), .inl (cI, 5, .inl A_0_0_f))] sz) := by
  refine m_met (own := RX12) (cc := cX12_writesTerm) (maxL := 3) (ret := none) [.ref h0, .int x1] [(0, .ref h0), (1, .int x1)] (by decide) rfl rfl (Nat.le_of_ble_eq_true rfl) rfl ?_
  intro p e s m args below meth c Q A hQ hA C0 hr hnm hsz hM ls hl
  have hx := C0.1
  have hb := C0.2.1
  have hown := C0.2.2.2.1
  have jq66 : ∀ (I_0_signs : Int32) (I_0_sign : Int32) (H : Heap) (locs : List Loc) (ls : Array Slot) , jn_X12_writesTerm_66 x1 I_0_wanted A_0_0_f K I_0_signs I_0_sign → MW D A s.heap [(h0, .inr (11, oX12 r0 I_0_isFound I_0_foundB I_0_changes I_0_taped I_0_size I_0_at I_0_signs I_0_wanted I_0_sign I_0_isKept I_0_keptFound I_0_keptB I_0_keptChanges)), ((r0 0), .inl (cI, 5, .inl A_0_0_f))] H locs → lv_has ls 3 [(0, .ref h0), (1, .int x1)] → W p l e rm_X12_writesTerm s m args below meth c H locs 0 0 Q (F0 m 66 ls []) := by
    intro I_0_signs I_0_sign H locs ls h hM hl
    unfold jn_X12_writesTerm_66 at h
    refine lv_iload_n hx hb dX12_writesTerm_66 rfl (lv_at hl 1 rfl) ?_
    refine lv_iconst (v := (1 : Int32)) hx hb dX12_writesTerm_67 (by decide) ?_
    refine lv_icmp_le (tgt := 85) hx hb dX12_writesTerm_68 (by decide) (fun hq => ?_) (fun hq => ?_)
    · have h := h.1 hq
      subst hsz; subst hA; subst hQ
      exact m_vret C0 hr hM (I_0_signs, I_0_sign) h rfl dX12_writesTerm_85
    · have h := h.2 hq
      refine lv_aload_n hx hb dX12_writesTerm_71 rfl (lv_at hl 0 rfl) ?_
      refine lv_bipush (v := (94 : Int32)) hx hb dX12_writesTerm_72 (by decide) ?_
      refine m_callv (wc := [(h0, .inr (11, oX12 r0 I_0_isFound I_0_foundB I_0_changes I_0_taped I_0_size I_0_at I_0_signs I_0_wanted I_0_sign I_0_isKept I_0_keptFound I_0_keptB I_0_keptChanges))]) C0 hM [0] rfl (m_runV (wc := [(h0, .inr (11, oX12 r0 I_0_isFound I_0_foundB I_0_changes I_0_taped I_0_size I_0_at I_0_signs I_0_wanted I_0_sign I_0_isKept I_0_keptFound I_0_keptB I_0_keptChanges))]) (As := [.int (94 : Int32)]) (rest := []) (ci := 11) C0 hM (ct_X12_writes l D cI cJ cZ h0 r0 I_0_isFound I_0_foundB I_0_changes I_0_taped I_0_size I_0_at I_0_signs I_0_wanted I_0_sign I_0_isKept I_0_keptFound I_0_keptB I_0_keptChanges (94 : Int32) _ _ h) [0] rfl (by decide) gX12_writesTerm_X12_writes rfl rfl rfl rfl rfl hd_X12_writes ⟨Nat.le_of_ble_eq_true rfl, Nat.le_of_ble_eq_true rfl⟩ rfl hl.1 rfl (Nat.le_of_ble_eq_true rfl) dX12_writesTerm_74 ⟨Nat.le_of_ble_eq_true rfl, Nat.le_of_ble_eq_true rfl⟩) (fun u => [(h0, .inr (11, oX12 r0 I_0_isFound I_0_foundB I_0_changes I_0_taped I_0_size I_0_at u.1 I_0_wanted u.2 I_0_isKept I_0_keptFound I_0_keptB I_0_keptChanges)), ((r0 0), .inl (cI, 5, .inl A_0_0_f))]) (fun _ => rfl) (fun _ => rfl) (fun u H locs h hM => ?_)
      obtain ⟨b1, b2⟩ := u
      dsimp only at h
      have hM : MW D A s.heap [(h0, .inr (11, oX12 r0 I_0_isFound I_0_foundB I_0_changes I_0_taped I_0_size I_0_at b1 I_0_wanted b2 I_0_isKept I_0_keptFound I_0_keptB I_0_keptChanges)), ((r0 0), .inl (cI, 5, .inl A_0_0_f))] H locs := hM
      refine lv_aload_n hx hb dX12_writesTerm_77 rfl (lv_at hl 0 rfl) ?_
      refine lv_bipush (v := (48 : Int32)) hx hb dX12_writesTerm_78 (by decide) ?_
      refine lv_iload_n hx hb dX12_writesTerm_80 rfl (lv_at hl 1 rfl) ?_
      refine lv_iadd hx hb dX12_writesTerm_81 ?_
      refine m_callv (wc := [(h0, .inr (11, oX12 r0 I_0_isFound I_0_foundB I_0_changes I_0_taped I_0_size I_0_at b1 I_0_wanted b2 I_0_isKept I_0_keptFound I_0_keptB I_0_keptChanges))]) C0 hM [0] rfl (m_runV (wc := [(h0, .inr (11, oX12 r0 I_0_isFound I_0_foundB I_0_changes I_0_taped I_0_size I_0_at b1 I_0_wanted b2 I_0_isKept I_0_keptFound I_0_keptB I_0_keptChanges))]) (As := [.int ((48 : Int32) + x1)]) (rest := []) (ci := 11) C0 hM (ct_X12_writes l D cI cJ cZ h0 r0 I_0_isFound I_0_foundB I_0_changes I_0_taped I_0_size I_0_at b1 I_0_wanted b2 I_0_isKept I_0_keptFound I_0_keptB I_0_keptChanges ((48 : Int32) + x1) _ _ h) [0] rfl (by decide) gX12_writesTerm_X12_writes rfl rfl rfl rfl rfl hd_X12_writes ⟨Nat.le_of_ble_eq_true rfl, Nat.le_of_ble_eq_true rfl⟩ rfl hl.1 rfl (Nat.le_of_ble_eq_true rfl) dX12_writesTerm_82 ⟨Nat.le_of_ble_eq_true rfl, Nat.le_of_ble_eq_true rfl⟩) (fun u => [(h0, .inr (11, oX12 r0 I_0_isFound I_0_foundB I_0_changes I_0_taped I_0_size I_0_at u.1 I_0_wanted u.2 I_0_isKept I_0_keptFound I_0_keptB I_0_keptChanges)), ((r0 0), .inl (cI, 5, .inl A_0_0_f))]) (fun _ => rfl) (fun _ => rfl) (fun u H locs h hM => ?_)
      obtain ⟨b3, b4⟩ := u
      dsimp only at h
      have hM : MW D A s.heap [(h0, .inr (11, oX12 r0 I_0_isFound I_0_foundB I_0_changes I_0_taped I_0_size I_0_at b3 I_0_wanted b4 I_0_isKept I_0_keptFound I_0_keptB I_0_keptChanges)), ((r0 0), .inl (cI, 5, .inl A_0_0_f))] H locs := hM
      subst hsz; subst hA; subst hQ
      exact m_vret C0 hr hM (b3, b4) h rfl dX12_writesTerm_85
  have jq56 : ∀ (I_0_signs : Int32) (I_0_sign : Int32) (H : Heap) (locs : List Loc) (ls : Array Slot) , jn_X12_writesTerm_56 x1 I_0_wanted A_0_0_f K I_0_signs I_0_sign → MW D A s.heap [(h0, .inr (11, oX12 r0 I_0_isFound I_0_foundB I_0_changes I_0_taped I_0_size I_0_at I_0_signs I_0_wanted I_0_sign I_0_isKept I_0_keptFound I_0_keptB I_0_keptChanges)), ((r0 0), .inl (cI, 5, .inl A_0_0_f))] H locs → lv_has ls 3 [(0, .ref h0), (1, .int x1)] → W p l e rm_X12_writesTerm s m args below meth c H locs 0 0 Q (F0 m 56 ls []) := by
    intro I_0_signs I_0_sign H locs ls h hM hl
    unfold jn_X12_writesTerm_56 at h
    refine lv_iload_n hx hb dX12_writesTerm_56 rfl (lv_at hl 1 rfl) ?_
    refine lv_if_le (tgt := 66) hx hb dX12_writesTerm_57 (by decide) (fun hq => ?_) (fun hq => ?_)
    · have h := h.1 hq
      exact jq66 _ _ _ _ _ h hM (lv_sub hl [0, 1] rfl)
    · have h := h.2 hq
      refine lv_aload_n hx hb dX12_writesTerm_60 rfl (lv_at hl 0 rfl) ?_
      refine lv_bipush (v := (120 : Int32)) hx hb dX12_writesTerm_61 (by decide) ?_
      refine m_callv (wc := [(h0, .inr (11, oX12 r0 I_0_isFound I_0_foundB I_0_changes I_0_taped I_0_size I_0_at I_0_signs I_0_wanted I_0_sign I_0_isKept I_0_keptFound I_0_keptB I_0_keptChanges))]) C0 hM [0] rfl (m_runV (wc := [(h0, .inr (11, oX12 r0 I_0_isFound I_0_foundB I_0_changes I_0_taped I_0_size I_0_at I_0_signs I_0_wanted I_0_sign I_0_isKept I_0_keptFound I_0_keptB I_0_keptChanges))]) (As := [.int (120 : Int32)]) (rest := []) (ci := 11) C0 hM (ct_X12_writes l D cI cJ cZ h0 r0 I_0_isFound I_0_foundB I_0_changes I_0_taped I_0_size I_0_at I_0_signs I_0_wanted I_0_sign I_0_isKept I_0_keptFound I_0_keptB I_0_keptChanges (120 : Int32) _ _ h) [0] rfl (by decide) gX12_writesTerm_X12_writes rfl rfl rfl rfl rfl hd_X12_writes ⟨Nat.le_of_ble_eq_true rfl, Nat.le_of_ble_eq_true rfl⟩ rfl hl.1 rfl (Nat.le_of_ble_eq_true rfl) dX12_writesTerm_63 ⟨Nat.le_of_ble_eq_true rfl, Nat.le_of_ble_eq_true rfl⟩) (fun u => [(h0, .inr (11, oX12 r0 I_0_isFound I_0_foundB I_0_changes I_0_taped I_0_size I_0_at u.1 I_0_wanted u.2 I_0_isKept I_0_keptFound I_0_keptB I_0_keptChanges)), ((r0 0), .inl (cI, 5, .inl A_0_0_f))]) (fun _ => rfl) (fun _ => rfl) (fun u H locs h hM => ?_)
      obtain ⟨b5, b6⟩ := u
      dsimp only at h
      have hM : MW D A s.heap [(h0, .inr (11, oX12 r0 I_0_isFound I_0_foundB I_0_changes I_0_taped I_0_size I_0_at b5 I_0_wanted b6 I_0_isKept I_0_keptFound I_0_keptB I_0_keptChanges)), ((r0 0), .inl (cI, 5, .inl A_0_0_f))] H locs := hM
      exact jq66 _ _ _ _ _ h hM (lv_sub hl [0, 1] rfl)
  have jq48 : ∀ (x2 : Int32) (I_0_signs : Int32) (I_0_sign : Int32) (H : Heap) (locs : List Loc) (ls : Array Slot) , jn_X12_writesTerm_48 x1 I_0_wanted A_0_0_f K x2 I_0_signs I_0_sign → MW D A s.heap [(h0, .inr (11, oX12 r0 I_0_isFound I_0_foundB I_0_changes I_0_taped I_0_size I_0_at I_0_signs I_0_wanted I_0_sign I_0_isKept I_0_keptFound I_0_keptB I_0_keptChanges)), ((r0 0), .inl (cI, 5, .inl A_0_0_f))] H locs → lv_has ls 3 [(0, .ref h0), (1, .int x1), (2, .int x2)] → W p l e rm_X12_writesTerm s m args below meth c H locs 0 0 Q (F0 m 48 ls []) := by
    intro x2 I_0_signs I_0_sign H locs ls h hM hl
    unfold jn_X12_writesTerm_48 at h
    refine lv_aload_n hx hb dX12_writesTerm_48 rfl (lv_at hl 0 rfl) ?_
    refine lv_iload_n hx hb dX12_writesTerm_49 rfl (lv_at hl 2 rfl) ?_
    refine va_mabs hx hb (C0.2.2.1.trans hl.1.symm) hown (C0.2.2.2.2.1 _ kw_X12_writesTerm_3) (C0.2.2.2.2.1 _ kw_X12_writesTerm_4) (C0.2.2.2.2.1 _ kw_X12_writesTerm_5) (C0.2.2.2.2.1 _ kw_X12_writesTerm_6) (Nat.le_of_ble_eq_true rfl) (Nat.le_of_ble_eq_true rfl) (Nat.le_of_ble_eq_true rfl) (Nat.le_of_ble_eq_true rfl) dX12_writesTerm_50 ?_
    refine m_callv (wc := [(h0, .inr (11, oX12 r0 I_0_isFound I_0_foundB I_0_changes I_0_taped I_0_size I_0_at I_0_signs I_0_wanted I_0_sign I_0_isKept I_0_keptFound I_0_keptB I_0_keptChanges))]) C0 hM [0] rfl (m_runV (wc := [(h0, .inr (11, oX12 r0 I_0_isFound I_0_foundB I_0_changes I_0_taped I_0_size I_0_at I_0_signs I_0_wanted I_0_sign I_0_isKept I_0_keptFound I_0_keptB I_0_keptChanges))]) (As := [.int (if 0 ≤ x2 then x2 else 0 - x2)]) (rest := []) (ci := 11) C0 hM (ct_X12_writesNumber l D cI cJ cZ h0 r0 I_0_isFound I_0_foundB I_0_changes I_0_taped I_0_size I_0_at I_0_signs I_0_wanted I_0_sign I_0_isKept I_0_keptFound I_0_keptB I_0_keptChanges (if 0 ≤ x2 then x2 else 0 - x2) _ _ h) [0] rfl (by decide) gX12_writesTerm_X12_writesNumber rfl rfl rfl rfl rfl hd_X12_writesNumber ⟨Nat.le_of_ble_eq_true rfl, Nat.le_of_ble_eq_true rfl⟩ rfl hl.1 rfl (Nat.le_of_ble_eq_true rfl) dX12_writesTerm_53 ⟨Nat.le_of_ble_eq_true rfl, Nat.le_of_ble_eq_true rfl⟩) (fun u => [(h0, .inr (11, oX12 r0 I_0_isFound I_0_foundB I_0_changes I_0_taped I_0_size I_0_at u.1 I_0_wanted u.2 I_0_isKept I_0_keptFound I_0_keptB I_0_keptChanges)), ((r0 0), .inl (cI, 5, .inl A_0_0_f))]) (fun _ => rfl) (fun _ => rfl) (fun u H locs h hM => ?_)
    obtain ⟨b7, b8⟩ := u
    dsimp only at h
    have hM : MW D A s.heap [(h0, .inr (11, oX12 r0 I_0_isFound I_0_foundB I_0_changes I_0_taped I_0_size I_0_at b7 I_0_wanted b8 I_0_isKept I_0_keptFound I_0_keptB I_0_keptChanges)), ((r0 0), .inl (cI, 5, .inl A_0_0_f))] H locs := hM
    exact jq56 _ _ _ _ _ h hM (lv_sub hl [0, 1] rfl)
  have jq36 : ∀ (x2 : Int32) (I_0_signs : Int32) (I_0_sign : Int32) (H : Heap) (locs : List Loc) (ls : Array Slot) , jn_X12_writesTerm_36 x1 I_0_wanted A_0_0_f K x2 I_0_signs I_0_sign → MW D A s.heap [(h0, .inr (11, oX12 r0 I_0_isFound I_0_foundB I_0_changes I_0_taped I_0_size I_0_at I_0_signs I_0_wanted I_0_sign I_0_isKept I_0_keptFound I_0_keptB I_0_keptChanges)), ((r0 0), .inl (cI, 5, .inl A_0_0_f))] H locs → lv_has ls 3 [(0, .ref h0), (1, .int x1), (2, .int x2)] → W p l e rm_X12_writesTerm s m args below meth c H locs 0 0 Q (F0 m 36 ls []) := by
    intro x2 I_0_signs I_0_sign H locs ls h hM hl
    unfold jn_X12_writesTerm_36 at h
    refine lv_iload_n hx hb dX12_writesTerm_36 rfl (lv_at hl 1 rfl) ?_
    refine lv_if_eq (tgt := 48) hx hb dX12_writesTerm_37 (by decide) (fun hq => ?_) (fun hq => ?_)
    · have h := h.1 hq
      exact jq48 _ _ _ _ _ _ h hM (lv_sub hl [0, 1, 2] rfl)
    · have h := h.2 hq
      refine lv_iload_n hx hb dX12_writesTerm_40 rfl (lv_at hl 2 rfl) ?_
      refine va_mabs hx hb (C0.2.2.1.trans hl.1.symm) hown (C0.2.2.2.2.1 _ kw_X12_writesTerm_3) (C0.2.2.2.2.1 _ kw_X12_writesTerm_4) (C0.2.2.2.2.1 _ kw_X12_writesTerm_5) (C0.2.2.2.2.1 _ kw_X12_writesTerm_6) (Nat.le_of_ble_eq_true rfl) (Nat.le_of_ble_eq_true rfl) (Nat.le_of_ble_eq_true rfl) (Nat.le_of_ble_eq_true rfl) dX12_writesTerm_41 ?_
      refine lv_iconst (v := (1 : Int32)) hx hb dX12_writesTerm_44 (by decide) ?_
      refine lv_icmp_le (tgt := 56) hx hb dX12_writesTerm_45 (by decide) (fun hq => ?_) (fun hq => ?_)
      · have h := h.1 hq
        exact jq56 _ _ _ _ _ h hM (lv_sub hl [0, 1] rfl)
      · have h := h.2 hq
        exact jq48 _ _ _ _ _ _ h hM (lv_sub hl [0, 1, 2] rfl)
  have jq33 : ∀ (x2 : Int32) (s1 : Int32) (I_0_signs : Int32) (I_0_sign : Int32) (H : Heap) (locs : List Loc) (ls : Array Slot) , jn_X12_writesTerm_33 x1 I_0_wanted A_0_0_f K x2 s1 I_0_signs I_0_sign → MW D A s.heap [(h0, .inr (11, oX12 r0 I_0_isFound I_0_foundB I_0_changes I_0_taped I_0_size I_0_at I_0_signs I_0_wanted I_0_sign I_0_isKept I_0_keptFound I_0_keptB I_0_keptChanges)), ((r0 0), .inl (cI, 5, .inl A_0_0_f))] H locs → lv_has ls 3 [(0, .ref h0), (1, .int x1), (2, .int x2)] → W p l e rm_X12_writesTerm s m args below meth c H locs 0 0 Q (F0 m 33 ls [.int s1, .ref h0]) := by
    intro x2 s1 I_0_signs I_0_sign H locs ls h hM hl
    unfold jn_X12_writesTerm_33 at h
    refine m_callv (wc := [(h0, .inr (11, oX12 r0 I_0_isFound I_0_foundB I_0_changes I_0_taped I_0_size I_0_at I_0_signs I_0_wanted I_0_sign I_0_isKept I_0_keptFound I_0_keptB I_0_keptChanges))]) C0 hM [0] rfl (m_runV (wc := [(h0, .inr (11, oX12 r0 I_0_isFound I_0_foundB I_0_changes I_0_taped I_0_size I_0_at I_0_signs I_0_wanted I_0_sign I_0_isKept I_0_keptFound I_0_keptB I_0_keptChanges))]) (As := [.int s1]) (rest := []) (ci := 11) C0 hM (ct_X12_writes l D cI cJ cZ h0 r0 I_0_isFound I_0_foundB I_0_changes I_0_taped I_0_size I_0_at I_0_signs I_0_wanted I_0_sign I_0_isKept I_0_keptFound I_0_keptB I_0_keptChanges s1 _ _ h) [0] rfl (by decide) gX12_writesTerm_X12_writes rfl rfl rfl rfl rfl hd_X12_writes ⟨Nat.le_of_ble_eq_true rfl, Nat.le_of_ble_eq_true rfl⟩ rfl hl.1 rfl (Nat.le_of_ble_eq_true rfl) dX12_writesTerm_33 ⟨Nat.le_of_ble_eq_true rfl, Nat.le_of_ble_eq_true rfl⟩) (fun u => [(h0, .inr (11, oX12 r0 I_0_isFound I_0_foundB I_0_changes I_0_taped I_0_size I_0_at u.1 I_0_wanted u.2 I_0_isKept I_0_keptFound I_0_keptB I_0_keptChanges)), ((r0 0), .inl (cI, 5, .inl A_0_0_f))]) (fun _ => rfl) (fun _ => rfl) (fun u H locs h hM => ?_)
    obtain ⟨b9, b10⟩ := u
    dsimp only at h
    have hM : MW D A s.heap [(h0, .inr (11, oX12 r0 I_0_isFound I_0_foundB I_0_changes I_0_taped I_0_size I_0_at b9 I_0_wanted b10 I_0_isKept I_0_keptFound I_0_keptB I_0_keptChanges)), ((r0 0), .inl (cI, 5, .inl A_0_0_f))] H locs := hM
    exact jq36 _ _ _ _ _ _ h hM (lv_sub hl [0, 1, 2] rfl)
  have jq21 : ∀ (x2 : Int32) (I_0_signs : Int32) (I_0_sign : Int32) (H : Heap) (locs : List Loc) (ls : Array Slot) , jn_X12_writesTerm_21 x1 I_0_wanted A_0_0_f K x2 I_0_signs I_0_sign → MW D A s.heap [(h0, .inr (11, oX12 r0 I_0_isFound I_0_foundB I_0_changes I_0_taped I_0_size I_0_at I_0_signs I_0_wanted I_0_sign I_0_isKept I_0_keptFound I_0_keptB I_0_keptChanges)), ((r0 0), .inl (cI, 5, .inl A_0_0_f))] H locs → lv_has ls 3 [(0, .ref h0), (1, .int x1), (2, .int x2)] → W p l e rm_X12_writesTerm s m args below meth c H locs 0 0 Q (F0 m 21 ls []) := by
    intro x2 I_0_signs I_0_sign H locs ls h hM hl
    unfold jn_X12_writesTerm_21 at h
    refine lv_aload_n hx hb dX12_writesTerm_21 rfl (lv_at hl 0 rfl) ?_
    refine lv_iload_n hx hb dX12_writesTerm_22 rfl (lv_at hl 2 rfl) ?_
    refine lv_if_ge (tgt := 31) hx hb dX12_writesTerm_23 (by decide) (fun hq => ?_) (fun hq => ?_)
    · have h := h.1 hq
      refine lv_bipush (v := (43 : Int32)) hx hb dX12_writesTerm_31 (by decide) ?_
      exact jq33 _ _ _ _ _ _ _ h hM (lv_sub hl [0, 1, 2] rfl)
    · have h := h.2 hq
      refine lv_bipush (v := (45 : Int32)) hx hb dX12_writesTerm_26 (by decide) ?_
      refine lv_goto (tgt := 33) hx hb dX12_writesTerm_28 (by decide) ?_
      exact jq33 _ _ _ _ _ _ _ h hM (lv_sub hl [0, 1, 2] rfl)
  unfold wp_X12_writesTerm at h
  refine lv_aload_n hx hb dX12_writesTerm_0 rfl (lv_at hl 0 rfl) ?_
  refine m_get (C := RX12) (T := TX12) (N := 45) (ci := 11) (ref := "LoweredPowersModel") (v := .ref (r0 0)) C0 hM 0 rfl rfl kt_X12_writesTerm_X12 0 (by decide) kw_X12_writesTerm_1 rfl rfl dX12_writesTerm_1 ?_
  refine lv_iload_n hx hb dX12_writesTerm_4 rfl (lv_at hl 1 rfl) ?_
  obtain ⟨hc11, h⟩ := h
  refine m_iald C0 hM 1 rfl hc11 dX12_writesTerm_5 ?_
  refine m_calli (wc := []) C0 hM [] rfl (m_runS (wc := []) (As := [.int (A_0_0_f (x1).toNatClampNeg)]) (rest := []) C0 hM (ct_X12_signed l D cI cJ cZ (A_0_0_f (x1).toNatClampNeg) _ _ h) [] rfl (by decide) gX12_writesTerm_X12_signed rfl rfl rfl hd_X12_signed ⟨Nat.le_of_ble_eq_true rfl, Nat.le_of_ble_eq_true rfl⟩ rfl hl.1 rfl (Nat.le_of_ble_eq_true rfl) dX12_writesTerm_6 ⟨Nat.le_of_ble_eq_true rfl, Nat.le_of_ble_eq_true rfl⟩) (fun _ => [(h0, .inr (11, oX12 r0 I_0_isFound I_0_foundB I_0_changes I_0_taped I_0_size I_0_at I_0_signs I_0_wanted I_0_sign I_0_isKept I_0_keptFound I_0_keptB I_0_keptChanges)), ((r0 0), .inl (cI, 5, .inl A_0_0_f))]) (fun _ => rfl) (fun _ => rfl) (fun y12 _ H locs h hM => ?_)
  refine lv_istore_n (lv' := [(2, .int y12), (0, .ref h0), (1, .int x1)]) hx hb dX12_writesTerm_9 rfl hl (by decide) rfl (fun ls hl => ?_)
  refine lv_iload_n hx hb dX12_writesTerm_10 rfl (lv_at hl 0 rfl) ?_
  refine lv_if_lt (tgt := 21) hx hb dX12_writesTerm_11 (by decide) (fun hq => ?_) (fun hq => ?_)
  · have h := h.1 hq
    exact jq21 _ _ _ _ _ _ h hM (lv_sub hl [1, 2, 0] rfl)
  · have h := h.2 hq
    refine lv_aload_n hx hb dX12_writesTerm_14 rfl (lv_at hl 1 rfl) ?_
    refine m_get (C := RX12) (T := TX12) (N := 45) (ci := 11) (ref := "LoweredPowersModel") (v := .int I_0_signs) C0 hM 0 rfl rfl kt_X12_writesTerm_X12 30 (by decide) kw_X12_writesTerm_2 rfl rfl dX12_writesTerm_15 ?_
    refine lv_if_le (tgt := 36) hx hb dX12_writesTerm_18 (by decide) (fun hq => ?_) (fun hq => ?_)
    · have h := h.1 hq
      exact jq36 _ _ _ _ _ _ h hM (lv_sub hl [1, 2, 0] rfl)
    · have h := h.2 hq
      exact jq21 _ _ _ _ _ _ h hM (lv_sub hl [1, 2, 0] rfl)
abbrev rm_X12_written : Room := { frames := 3, cells := 0, slots := 0, locals := 65 }
set_option maxRecDepth 100000 in
set_option maxHeartbeats 4000000 in
theorem ct_X12_written (l : Launch) (D : va_G) (cI cJ cZ : ClassId) (h0 : Nat) (r0 : Nat → Nat) (I_0_isFound : Int32) (I_0_foundB : Int32) (I_0_changes : Int32) (I_0_taped : Int32) (I_0_size : Int32) (I_0_at : Int32) (I_0_signs : Int32) (I_0_wanted : Int32) (I_0_sign : Int32) (I_0_isKept : Int32) (I_0_keptFound : Int32) (I_0_keptB : Int32) (I_0_keptChanges : Int32) (A_0_0_f : (Nat → Int32)) (x1 : Int32) (sz : Nat) (K : Int32 → Int32 → Int32 → Int32 → Prop) (h : wp_X12_written x1 I_0_signs I_0_wanted I_0_sign A_0_0_f K) : Met l yX12_written wsX12_written rm_X12_written (va_Pc [.ref h0, .int x1] (WX D cI cJ cZ [(h0, .inr (11, oX12 r0 I_0_isFound I_0_foundB I_0_changes I_0_taped I_0_size I_0_at I_0_signs I_0_wanted I_0_sign I_0_isKept I_0_keptFound I_0_keptB I_0_keptChanges)), ((r0 0), .inl (cI, 5, .inl A_0_0_f))] sz)) (va_Qi (fun (r : Int32) (u : Int32 × Int32 × Int32) => K r u.1 u.2.1 u.2.2) (fun (u : Int32 × Int32 × Int32) t => WY D (va_A [(h0, .inr (11, oX12 r0 I_0_isFound I_0_foundB I_0_changes I_0_taped I_0_size I_0_at I_0_signs I_0_wanted I_0_sign I_0_isKept I_0_keptFound I_0_keptB I_0_keptChanges)), ((r0 0), .inl (cI, 5, .inl A_0_0_f))] sz) [(h0, .inr (11, oX12 r0 I_0_isFound I_0_foundB I_0_changes I_0_taped I_0_size I_0_at u.1 u.2.1 u.2.2 I_0_isKept I_0_keptFound I_0_keptB I_0_keptChanges)), ((r0 0), .inl (cI, 5, .inl A_0_0_f))] t) (va_A [(h0, .inr (11, oX12 r0 I_0_isFound I_0_foundB I_0_changes I_0_taped I_0_size I_0_at I_0_signs I_0_wanted I_0_sign I_0_isKept I_0_keptFound I_0_keptB I_0_keptChanges)), ((r0 0), .inl (cI, 5, .inl A_0_0_f))] sz)) 0 0 (va_A [(h0, .inr (11, oX12 r0 I_0_isFound I_0_foundB I_0_changes I_0_taped I_0_size I_0_at I_0_signs I_0_wanted I_0_sign I_0_isKept I_0_keptFound I_0_keptB I_0_keptChanges)), ((r0 0), .inl (cI, 5, .inl A_0_0_f))] sz) := by
  refine m_met (own := RX12) (cc := cX12_written) (maxL := 3) (ret := some .int) [.ref h0, .int x1] [(0, .ref h0), (1, .int x1)] (by decide) rfl rfl (Nat.le_of_ble_eq_true rfl) rfl ?_
  intro p e s m args below meth c Q A hQ hA C0 hr hnm hsz hM ls hl
  have hx := C0.1
  have hb := C0.2.1
  have hown := C0.2.2.2.1
  have jq61 : ∀ (I_0_signs : Int32) (I_0_wanted : Int32) (I_0_sign : Int32) (H : Heap) (locs : List Loc) (ls : Array Slot) , jn_X12_written_61 x1 A_0_0_f K I_0_signs I_0_wanted I_0_sign → MW D A s.heap [(h0, .inr (11, oX12 r0 I_0_isFound I_0_foundB I_0_changes I_0_taped I_0_size I_0_at I_0_signs I_0_wanted I_0_sign I_0_isKept I_0_keptFound I_0_keptB I_0_keptChanges)), ((r0 0), .inl (cI, 5, .inl A_0_0_f))] H locs → lv_has ls 3 [(0, .ref h0), (1, .int x1)] → W p l e rm_X12_written s m args below meth c H locs 0 0 Q (F0 m 61 ls []) := by
    intro I_0_signs I_0_wanted I_0_sign H locs ls h hM hl
    unfold jn_X12_written_61 at h
    refine lv_iload_n hx hb dX12_written_61 rfl (lv_at hl 1 rfl) ?_
    refine lv_iconst (v := (-1 : Int32)) hx hb dX12_written_62 (by decide) ?_
    refine lv_icmp_ne (tgt := 73) hx hb dX12_written_63 (by decide) (fun hq => ?_) (fun hq => ?_)
    · have h := h.1 hq
      refine lv_aload_n hx hb dX12_written_73 rfl (lv_at hl 0 rfl) ?_
      refine m_get (C := RX12) (T := TX12) (N := 45) (ci := 11) (ref := "LoweredPowersModel") (v := .int I_0_sign) C0 hM 0 rfl rfl kt_X12_written_X12 32 (by decide) kw_X12_written_3 rfl rfl dX12_written_74 ?_
      subst hsz; subst hA; subst hQ
      exact m_iret C0 hr hM (I_0_signs, I_0_wanted, I_0_sign) h rfl dX12_written_77
    · have h := h.2 hq
      refine lv_aload_n hx hb dX12_written_66 rfl (lv_at hl 0 rfl) ?_
      refine m_get (C := RX12) (T := TX12) (N := 45) (ci := 11) (ref := "LoweredPowersModel") (v := .int I_0_signs) C0 hM 0 rfl rfl kt_X12_written_X12 30 (by decide) kw_X12_written_1 rfl rfl dX12_written_67 ?_
      refine lv_goto (tgt := 77) hx hb dX12_written_70 (by decide) ?_
      subst hsz; subst hA; subst hQ
      exact m_iret C0 hr hM (I_0_signs, I_0_wanted, I_0_sign) h rfl dX12_written_77
  have jq48 : ∀ (I_0_signs : Int32) (I_0_wanted : Int32) (I_0_sign : Int32) (H : Heap) (locs : List Loc) (ls : Array Slot) , jn_X12_written_48 x1 A_0_0_f K I_0_signs I_0_wanted I_0_sign → MW D A s.heap [(h0, .inr (11, oX12 r0 I_0_isFound I_0_foundB I_0_changes I_0_taped I_0_size I_0_at I_0_signs I_0_wanted I_0_sign I_0_isKept I_0_keptFound I_0_keptB I_0_keptChanges)), ((r0 0), .inl (cI, 5, .inl A_0_0_f))] H locs → lv_has ls 3 [(0, .ref h0), (1, .int x1)] → W p l e rm_X12_written s m args below meth c H locs 0 0 Q (F0 m 48 ls []) := by
    intro I_0_signs I_0_wanted I_0_sign H locs ls h hM hl
    unfold jn_X12_written_48 at h
    refine lv_aload_n hx hb dX12_written_48 rfl (lv_at hl 0 rfl) ?_
    refine m_get (C := RX12) (T := TX12) (N := 45) (ci := 11) (ref := "LoweredPowersModel") (v := .int I_0_signs) C0 hM 0 rfl rfl kt_X12_written_X12 30 (by decide) kw_X12_written_1 rfl rfl dX12_written_49 ?_
    refine lv_if_ne (tgt := 61) hx hb dX12_written_52 (by decide) (fun hq => ?_) (fun hq => ?_)
    · have h := h.1 hq
      exact jq61 _ _ _ _ _ _ h hM (lv_sub hl [0, 1] rfl)
    · have h := h.2 hq
      refine lv_aload_n hx hb dX12_written_55 rfl (lv_at hl 0 rfl) ?_
      refine lv_bipush (v := (48 : Int32)) hx hb dX12_written_56 (by decide) ?_
      refine m_callv (wc := [(h0, .inr (11, oX12 r0 I_0_isFound I_0_foundB I_0_changes I_0_taped I_0_size I_0_at I_0_signs I_0_wanted I_0_sign I_0_isKept I_0_keptFound I_0_keptB I_0_keptChanges))]) C0 hM [0] rfl (m_runV (wc := [(h0, .inr (11, oX12 r0 I_0_isFound I_0_foundB I_0_changes I_0_taped I_0_size I_0_at I_0_signs I_0_wanted I_0_sign I_0_isKept I_0_keptFound I_0_keptB I_0_keptChanges))]) (As := [.int (48 : Int32)]) (rest := []) (ci := 11) C0 hM (ct_X12_writes l D cI cJ cZ h0 r0 I_0_isFound I_0_foundB I_0_changes I_0_taped I_0_size I_0_at I_0_signs I_0_wanted I_0_sign I_0_isKept I_0_keptFound I_0_keptB I_0_keptChanges (48 : Int32) _ _ h) [0] rfl (by decide) gX12_written_X12_writes rfl rfl rfl rfl rfl hd_X12_writes ⟨Nat.le_of_ble_eq_true rfl, Nat.le_of_ble_eq_true rfl⟩ rfl hl.1 rfl (Nat.le_of_ble_eq_true rfl) dX12_written_58 ⟨Nat.le_of_ble_eq_true rfl, Nat.le_of_ble_eq_true rfl⟩) (fun u => [(h0, .inr (11, oX12 r0 I_0_isFound I_0_foundB I_0_changes I_0_taped I_0_size I_0_at u.1 I_0_wanted u.2 I_0_isKept I_0_keptFound I_0_keptB I_0_keptChanges)), ((r0 0), .inl (cI, 5, .inl A_0_0_f))]) (fun _ => rfl) (fun _ => rfl) (fun u H locs h hM => ?_)
      obtain ⟨b1, b2⟩ := u
      dsimp only at h
      have hM : MW D A s.heap [(h0, .inr (11, oX12 r0 I_0_isFound I_0_foundB I_0_changes I_0_taped I_0_size I_0_at b1 I_0_wanted b2 I_0_isKept I_0_keptFound I_0_keptB I_0_keptChanges)), ((r0 0), .inl (cI, 5, .inl A_0_0_f))] H locs := hM
      exact jq61 _ _ _ _ _ _ h hM (lv_sub hl [0, 1] rfl)
  have lq24 : ∀ (k24 : Nat) (x2 : Int32) (I_0_signs : Int32) (I_0_wanted : Int32) (I_0_sign : Int32) (H : Heap) (locs : List Loc) (ls : Array Slot) , lp_X12_written_24 x1 A_0_0_f (jn_X12_written_48 x1 A_0_0_f K) K k24 x2 I_0_signs I_0_wanted I_0_sign → MW D A s.heap [(h0, .inr (11, oX12 r0 I_0_isFound I_0_foundB I_0_changes I_0_taped I_0_size I_0_at I_0_signs I_0_wanted I_0_sign I_0_isKept I_0_keptFound I_0_keptB I_0_keptChanges)), ((r0 0), .inl (cI, 5, .inl A_0_0_f))] H locs → lv_has ls 3 [(0, .ref h0), (1, .int x1), (2, .int x2)] → W p l e rm_X12_written s m args below meth c H locs 0 0 Q (F0 m 24 ls []) := by
    intro k24
    induction k24 with
    | zero =>
      intro x2 I_0_signs I_0_wanted I_0_sign H locs ls h
      unfold lp_X12_written_24 at h
      exact h.elim
    | succ k24 ih24 =>
      have jq42 : ∀ (x2 : Int32) (I_0_signs : Int32) (I_0_wanted : Int32) (I_0_sign : Int32) (H : Heap) (locs : List Loc) (ls : Array Slot) , jn_X12_written_42 x1 A_0_0_f (fun x2 I_0_signs I_0_wanted I_0_sign => lp_X12_written_24 x1 A_0_0_f (jn_X12_written_48 x1 A_0_0_f K) K k24 x2 I_0_signs I_0_wanted I_0_sign) (jn_X12_written_48 x1 A_0_0_f K) K x2 I_0_signs I_0_wanted I_0_sign → MW D A s.heap [(h0, .inr (11, oX12 r0 I_0_isFound I_0_foundB I_0_changes I_0_taped I_0_size I_0_at I_0_signs I_0_wanted I_0_sign I_0_isKept I_0_keptFound I_0_keptB I_0_keptChanges)), ((r0 0), .inl (cI, 5, .inl A_0_0_f))] H locs → lv_has ls 3 [(0, .ref h0), (1, .int x1), (2, .int x2)] → W p l e rm_X12_written s m args below meth c H locs 0 0 Q (F0 m 42 ls []) := by
        intro x2 I_0_signs I_0_wanted I_0_sign H locs ls h hM hl
        unfold jn_X12_written_42 at h
        refine lv_iinc (v := (x2 + (-1 : Int32))) (lv' := [(2, .int (x2 + (-1 : Int32))), (0, .ref h0), (1, .int x1)]) hx hb dX12_written_42 hl (k := 2) rfl rfl (by decide) rfl (fun ls hl => ?_)
        refine lv_goto (tgt := 24) hx hb dX12_written_45 (by decide) ?_
        exact ih24 _ _ _ _ _ _ _ h hM (lv_sub hl [1, 2, 0] rfl)
      intro x2 I_0_signs I_0_wanted I_0_sign H locs ls h hM hl
      unfold lp_X12_written_24 at h
      refine lv_iload_n hx hb dX12_written_24 rfl (lv_at hl 2 rfl) ?_
      refine lv_if_lt (tgt := 48) hx hb dX12_written_25 (by decide) (fun hq => ?_) (fun hq => ?_)
      · have h := h.1 hq
        exact jq48 _ _ _ _ _ _ h hM (lv_sub hl [0, 1] rfl)
      · have h := h.2 hq
        refine lv_aload_n hx hb dX12_written_28 rfl (lv_at hl 0 rfl) ?_
        refine m_get (C := RX12) (T := TX12) (N := 45) (ci := 11) (ref := "LoweredPowersModel") (v := .ref (r0 0)) C0 hM 0 rfl rfl kt_X12_written_X12 0 (by decide) kw_X12_written_4 rfl rfl dX12_written_29 ?_
        refine lv_iload_n hx hb dX12_written_32 rfl (lv_at hl 2 rfl) ?_
        obtain ⟨hc3, h⟩ := h
        refine m_iald C0 hM 1 rfl hc3 dX12_written_33 ?_
        refine lv_if_eq (tgt := 42) hx hb dX12_written_34 (by decide) (fun hq => ?_) (fun hq => ?_)
        · have h := h.1 hq
          exact jq42 _ _ _ _ _ _ _ h hM (lv_sub hl [0, 1, 2] rfl)
        · have h := h.2 hq
          refine lv_aload_n hx hb dX12_written_37 rfl (lv_at hl 0 rfl) ?_
          refine lv_iload_n hx hb dX12_written_38 rfl (lv_at hl 2 rfl) ?_
          refine m_callv (wc := [(h0, .inr (11, oX12 r0 I_0_isFound I_0_foundB I_0_changes I_0_taped I_0_size I_0_at I_0_signs I_0_wanted I_0_sign I_0_isKept I_0_keptFound I_0_keptB I_0_keptChanges)), ((r0 0), .inl (cI, 5, .inl A_0_0_f))]) C0 hM [0, 1] rfl (m_runV (wc := [(h0, .inr (11, oX12 r0 I_0_isFound I_0_foundB I_0_changes I_0_taped I_0_size I_0_at I_0_signs I_0_wanted I_0_sign I_0_isKept I_0_keptFound I_0_keptB I_0_keptChanges)), ((r0 0), .inl (cI, 5, .inl A_0_0_f))]) (As := [.int x2]) (rest := []) (ci := 11) C0 hM (ct_X12_writesTerm l D cI cJ cZ h0 r0 I_0_isFound I_0_foundB I_0_changes I_0_taped I_0_size I_0_at I_0_signs I_0_wanted I_0_sign I_0_isKept I_0_keptFound I_0_keptB I_0_keptChanges A_0_0_f x2 _ _ h) [0, 1] rfl (by decide) gX12_written_X12_writesTerm rfl rfl rfl rfl rfl hd_X12_writesTerm ⟨Nat.le_of_ble_eq_true rfl, Nat.le_of_ble_eq_true rfl⟩ rfl hl.1 rfl (Nat.le_of_ble_eq_true rfl) dX12_written_39 ⟨Nat.le_of_ble_eq_true rfl, Nat.le_of_ble_eq_true rfl⟩) (fun u => [(h0, .inr (11, oX12 r0 I_0_isFound I_0_foundB I_0_changes I_0_taped I_0_size I_0_at u.1 I_0_wanted u.2 I_0_isKept I_0_keptFound I_0_keptB I_0_keptChanges)), ((r0 0), .inl (cI, 5, .inl A_0_0_f))]) (fun _ => rfl) (fun _ => rfl) (fun u H locs h hM => ?_)
          obtain ⟨b4, b5⟩ := u
          dsimp only at h
          have hM : MW D A s.heap [(h0, .inr (11, oX12 r0 I_0_isFound I_0_foundB I_0_changes I_0_taped I_0_size I_0_at b4 I_0_wanted b5 I_0_isKept I_0_keptFound I_0_keptB I_0_keptChanges)), ((r0 0), .inl (cI, 5, .inl A_0_0_f))] H locs := hM
          exact jq42 _ _ _ _ _ _ _ h hM (lv_sub hl [0, 1, 2] rfl)
  unfold wp_X12_written at h
  refine lv_iload_n hx hb dX12_written_0 rfl (lv_at hl 1 rfl) ?_
  refine lv_iconst (v := (-1 : Int32)) hx hb dX12_written_1 (by decide) ?_
  refine lv_icmp_ge (tgt := 7) hx hb dX12_written_2 (by decide) (fun hq => ?_) (fun hq => ?_)
  · have h := h.1 hq
    refine lv_aload_n hx hb dX12_written_7 rfl (lv_at hl 0 rfl) ?_
    refine lv_iconst (v := (0 : Int32)) hx hb dX12_written_8 (by decide) ?_
    refine m_put (ws' := [(h0, .inr (11, oX12 r0 I_0_isFound I_0_foundB I_0_changes I_0_taped I_0_size I_0_at (0 : Int32) I_0_wanted I_0_sign I_0_isKept I_0_keptFound I_0_keptB I_0_keptChanges)), ((r0 0), .inl (cI, 5, .inl A_0_0_f))]) (C := RX12) (T := TX12) (N := 45) (ci := 11) (ref := "LoweredPowersModel") (v := .int (0 : Int32)) C0 hM 0 rfl rfl kt_X12_written_X12 tyX12 tyX12_ok nmX12 30 (by decide) kw_X12_written_1 rfl rfl rfl rfl (Nat.le_of_ble_eq_true rfl) rfl dX12_written_9 (fun H locs hM => ?_)
    refine lv_aload_n hx hb dX12_written_12 rfl (lv_at hl 0 rfl) ?_
    refine lv_iload_n hx hb dX12_written_13 rfl (lv_at hl 1 rfl) ?_
    refine m_put (ws' := [(h0, .inr (11, oX12 r0 I_0_isFound I_0_foundB I_0_changes I_0_taped I_0_size I_0_at (0 : Int32) x1 I_0_sign I_0_isKept I_0_keptFound I_0_keptB I_0_keptChanges)), ((r0 0), .inl (cI, 5, .inl A_0_0_f))]) (C := RX12) (T := TX12) (N := 45) (ci := 11) (ref := "LoweredPowersModel") (v := .int x1) C0 hM 0 rfl rfl kt_X12_written_X12 tyX12 tyX12_ok nmX12 31 (by decide) kw_X12_written_2 rfl rfl rfl rfl (Nat.le_of_ble_eq_true rfl) rfl dX12_written_14 (fun H locs hM => ?_)
    refine lv_aload_n hx hb dX12_written_17 rfl (lv_at hl 0 rfl) ?_
    refine lv_iconst (v := (-1 : Int32)) hx hb dX12_written_18 (by decide) ?_
    refine m_put (ws' := [(h0, .inr (11, oX12 r0 I_0_isFound I_0_foundB I_0_changes I_0_taped I_0_size I_0_at (0 : Int32) x1 (-1 : Int32) I_0_isKept I_0_keptFound I_0_keptB I_0_keptChanges)), ((r0 0), .inl (cI, 5, .inl A_0_0_f))]) (C := RX12) (T := TX12) (N := 45) (ci := 11) (ref := "LoweredPowersModel") (v := .int (-1 : Int32)) C0 hM 0 rfl rfl kt_X12_written_X12 tyX12 tyX12_ok nmX12 32 (by decide) kw_X12_written_3 rfl rfl rfl rfl (Nat.le_of_ble_eq_true rfl) rfl dX12_written_19 (fun H locs hM => ?_)
    refine lv_iconst (v := (4 : Int32)) hx hb dX12_written_22 (by decide) ?_
    refine lv_istore_n (lv' := [(2, .int (4 : Int32)), (0, .ref h0), (1, .int x1)]) hx hb dX12_written_23 rfl hl (by decide) rfl (fun ls hl => ?_)
    obtain ⟨k0, h⟩ := h
    exact lq24 k0 _ _ _ _ _ _ _ h hM (lv_sub hl [1, 2, 0] rfl)
  · have h := h.2 hq
    refine lv_iconst (v := (-1 : Int32)) hx hb dX12_written_5 (by decide) ?_
    subst hsz; subst hA; subst hQ
    exact m_iret C0 hr hM (I_0_signs, I_0_wanted, I_0_sign) h rfl dX12_written_6
abbrev rm_X12_isList : Room := { frames := 1, cells := 0, slots := 0, locals := 22 }
set_option maxRecDepth 100000 in
set_option maxHeartbeats 4000000 in
theorem ct_X12_isList (l : Launch) (D : va_G) (cI cJ cZ : ClassId) (x0 : Int32) (sz : Nat) (K : Int32 → Prop) (h : wp_X12_isList x0 K) : Met l yX12_isList wsX12_isList rm_X12_isList (va_Pc [.int x0] (WX D cI cJ cZ [] sz)) (va_Qi (fun (r : Int32) (_ : Unit) => K r ) (fun (_ : Unit) t => WY D (va_A [] sz) [] t) (va_A [] sz)) 0 0 (va_A [] sz) := by
  refine m_met (own := RX12) (cc := cX12_isList) (maxL := 1) (ret := some .boolean) [.int x0] [(0, .int x0)] (by decide) rfl rfl (Nat.le_of_ble_eq_true rfl) rfl ?_
  intro p e s m args below meth c Q A hQ hA C0 hr hnm hsz hM ls hl
  have hx := C0.1
  have hb := C0.2.1
  have hown := C0.2.2.2.1
  unfold wp_X12_isList at h
  refine lv_iload_n hx hb dX12_isList_0 rfl (lv_at hl 0 rfl) ?_
  refine lv_iconst (v := (0 : Int32)) hx hb dX12_isList_1 (by decide) ?_
  refine lv_iconst (v := (2 : Int32)) hx hb dX12_isList_2 (by decide) ?_
  refine m_calli (wc := []) C0 hM [] rfl (m_runS (wc := []) (As := [.int x0, .int (0 : Int32), .int (2 : Int32)]) (rest := []) C0 hM (ct_X12_isIn l D cI cJ cZ x0 (0 : Int32) (2 : Int32) _ _ h) [] rfl (by decide) gX12_isList_X12_isIn rfl rfl rfl hd_X12_isIn ⟨Nat.le_of_ble_eq_true rfl, Nat.le_of_ble_eq_true rfl⟩ rfl hl.1 rfl (Nat.le_of_ble_eq_true rfl) dX12_isList_3 ⟨Nat.le_of_ble_eq_true rfl, Nat.le_of_ble_eq_true rfl⟩) (fun _ => []) (fun _ => rfl) (fun _ => rfl) (fun y1 _ H locs h hM => ?_)
  obtain ⟨hc2, h⟩ := h
  subst hsz; subst hA; subst hQ
  exact m_zret C0 hr hM hc2 () h rfl dX12_isList_6
abbrev rm_X12_list : Room := { frames := 2, cells := 0, slots := 0, locals := 42 }
set_option maxRecDepth 100000 in
set_option maxHeartbeats 4000000 in
theorem ct_X12_list (l : Launch) (D : va_G) (cI cJ cZ : ClassId) (h0 : Nat) (r0 : Nat → Nat) (I_0_isFound : Int32) (I_0_foundB : Int32) (I_0_changes : Int32) (I_0_taped : Int32) (I_0_size : Int32) (I_0_at : Int32) (I_0_signs : Int32) (I_0_wanted : Int32) (I_0_sign : Int32) (I_0_isKept : Int32) (I_0_keptFound : Int32) (I_0_keptB : Int32) (I_0_keptChanges : Int32) (A_0_33_sizes : (Nat → Int32)) (A_0_34_items : (Nat → Int64)) (x1 : Int32) (x2 : Int32) (sz : Nat) (K : Int32 → (Nat → Int32) → (Nat → Int64) → Prop) (h : wp_X12_list x1 x2 A_0_33_sizes A_0_34_items K) : Met l yX12_list wsX12_list rm_X12_list (va_Pc [.ref h0, .int x1, .int x2] (WX D cI cJ cZ [(h0, .inr (11, oX12 r0 I_0_isFound I_0_foundB I_0_changes I_0_taped I_0_size I_0_at I_0_signs I_0_wanted I_0_sign I_0_isKept I_0_keptFound I_0_keptB I_0_keptChanges)), ((r0 33), .inl (cI, 3, .inl A_0_33_sizes)), ((r0 34), .inl (cJ, 36, .inr (.inl A_0_34_items)))] sz)) (va_Qi (fun (r : Int32) (u : (Nat → Int32) × (Nat → Int64)) => K r u.1 u.2) (fun (u : (Nat → Int32) × (Nat → Int64)) t => WY D (va_A [(h0, .inr (11, oX12 r0 I_0_isFound I_0_foundB I_0_changes I_0_taped I_0_size I_0_at I_0_signs I_0_wanted I_0_sign I_0_isKept I_0_keptFound I_0_keptB I_0_keptChanges)), ((r0 33), .inl (cI, 3, .inl A_0_33_sizes)), ((r0 34), .inl (cJ, 36, .inr (.inl A_0_34_items)))] sz) [(h0, .inr (11, oX12 r0 I_0_isFound I_0_foundB I_0_changes I_0_taped I_0_size I_0_at I_0_signs I_0_wanted I_0_sign I_0_isKept I_0_keptFound I_0_keptB I_0_keptChanges)), ((r0 33), .inl (cI, 3, .inl u.1)), ((r0 34), .inl (cJ, 36, .inr (.inl u.2)))] t) (va_A [(h0, .inr (11, oX12 r0 I_0_isFound I_0_foundB I_0_changes I_0_taped I_0_size I_0_at I_0_signs I_0_wanted I_0_sign I_0_isKept I_0_keptFound I_0_keptB I_0_keptChanges)), ((r0 33), .inl (cI, 3, .inl A_0_33_sizes)), ((r0 34), .inl (cJ, 36, .inr (.inl A_0_34_items)))] sz)) 0 0 (va_A [(h0, .inr (11, oX12 r0 I_0_isFound I_0_foundB I_0_changes I_0_taped I_0_size I_0_at I_0_signs I_0_wanted I_0_sign I_0_isKept I_0_keptFound I_0_keptB I_0_keptChanges)), ((r0 33), .inl (cI, 3, .inl A_0_33_sizes)), ((r0 34), .inl (cJ, 36, .inr (.inl A_0_34_items)))] sz) := by
  refine m_met (own := RX12) (cc := cX12_list) (maxL := 4) (ret := some .int) [.ref h0, .int x1, .int x2] [(0, .ref h0), (1, .int x1), (2, .int x2)] (by decide) rfl rfl (Nat.le_of_ble_eq_true rfl) rfl ?_
  intro p e s m args below meth c Q A hQ hA C0 hr hnm hsz hM ls hl
  have hx := C0.1
  have hb := C0.2.1
  have hown := C0.2.2.2.1
  have lq35 : ∀ (k35 : Nat) (x3 : Int32) (A_0_33_sizes : (Nat → Int32)) (A_0_34_items : (Nat → Int64)) (H : Heap) (locs : List Loc) (ls : Array Slot) , lp_X12_list_35 x1 x2 K k35 x3 A_0_33_sizes A_0_34_items → MW D A s.heap [(h0, .inr (11, oX12 r0 I_0_isFound I_0_foundB I_0_changes I_0_taped I_0_size I_0_at I_0_signs I_0_wanted I_0_sign I_0_isKept I_0_keptFound I_0_keptB I_0_keptChanges)), ((r0 33), .inl (cI, 3, .inl A_0_33_sizes)), ((r0 34), .inl (cJ, 36, .inr (.inl A_0_34_items)))] H locs → lv_has ls 4 [(0, .ref h0), (1, .int x1), (3, .int x3)] → W p l e rm_X12_list s m args below meth c H locs 0 0 Q (F0 m 35 ls []) := by
    intro k35
    induction k35 with
    | zero =>
      intro x3 A_0_33_sizes A_0_34_items H locs ls h
      unfold lp_X12_list_35 at h
      exact h.elim
    | succ k35 ih35 =>
      intro x3 A_0_33_sizes A_0_34_items H locs ls h hM hl
      unfold lp_X12_list_35 at h
      refine lv_iload_n hx hb dX12_list_35 rfl (lv_at hl 2 rfl) ?_
      refine lv_bipush (v := (12 : Int32)) hx hb dX12_list_36 (by decide) ?_
      refine lv_icmp_ge (tgt := 59) hx hb dX12_list_38 (by decide) (fun hq => ?_) (fun hq => ?_)
      · have h := h.1 hq
        refine lv_iconst (v := (1 : Int32)) hx hb dX12_list_59 (by decide) ?_
        subst hsz; subst hA; subst hQ
        exact m_iret C0 hr hM (A_0_33_sizes, A_0_34_items) h rfl dX12_list_60
      · have h := h.2 hq
        refine lv_aload_n hx hb dX12_list_41 rfl (lv_at hl 0 rfl) ?_
        refine m_get (C := RX12) (T := TX12) (N := 45) (ci := 11) (ref := "LoweredPowersModel") (v := .ref (r0 34)) C0 hM 0 rfl rfl kt_X12_list_X12 34 (by decide) kw_X12_list_2 rfl rfl dX12_list_42 ?_
        refine lv_bipush (v := (12 : Int32)) hx hb dX12_list_45 (by decide) ?_
        refine lv_iload_n hx hb dX12_list_47 rfl (lv_at hl 1 rfl) ?_
        refine lv_imul hx hb dX12_list_48 ?_
        refine lv_iload_n hx hb dX12_list_49 rfl (lv_at hl 2 rfl) ?_
        refine lv_iadd hx hb dX12_list_50 ?_
        refine lv_lconst (v := (0 : Int64)) hx hb dX12_list_51 (by decide) ?_
        obtain ⟨hc1, h⟩ := h
        refine m_last (ws' := [(h0, .inr (11, oX12 r0 I_0_isFound I_0_foundB I_0_changes I_0_taped I_0_size I_0_at I_0_signs I_0_wanted I_0_sign I_0_isKept I_0_keptFound I_0_keptB I_0_keptChanges)), ((r0 33), .inl (cI, 3, .inl A_0_33_sizes)), ((r0 34), .inl (cJ, 36, .inr (.inl (vp_updL A_0_34_items ((((12 : Int32) * x1) + x3)).toNatClampNeg (0 : Int64)))))]) C0 hM 2 rfl hc1 rfl dX12_list_52 (fun H locs hM => ?_)
        refine lv_iinc (v := (x3 + (1 : Int32))) (lv' := [(3, .int (x3 + (1 : Int32))), (0, .ref h0), (1, .int x1)]) hx hb dX12_list_53 hl (k := 2) rfl rfl (by decide) rfl (fun ls hl => ?_)
        refine lv_goto (tgt := 35) hx hb dX12_list_56 (by decide) ?_
        exact ih35 _ _ _ _ _ _ h hM (lv_sub hl [1, 2, 0] rfl)
  unfold wp_X12_list at h
  refine lv_iload_n hx hb dX12_list_0 rfl (lv_at hl 1 rfl) ?_
  refine m_calli (wc := []) C0 hM [] rfl (m_runS (wc := []) (As := [.int x1]) (rest := []) C0 hM (ct_X12_isList l D cI cJ cZ x1 _ _ h) [] rfl (by decide) gX12_list_X12_isList rfl rfl rfl hd_X12_isList ⟨Nat.le_of_ble_eq_true rfl, Nat.le_of_ble_eq_true rfl⟩ rfl hl.1 rfl (Nat.le_of_ble_eq_true rfl) dX12_list_1 ⟨Nat.le_of_ble_eq_true rfl, Nat.le_of_ble_eq_true rfl⟩) (fun _ => [(h0, .inr (11, oX12 r0 I_0_isFound I_0_foundB I_0_changes I_0_taped I_0_size I_0_at I_0_signs I_0_wanted I_0_sign I_0_isKept I_0_keptFound I_0_keptB I_0_keptChanges)), ((r0 33), .inl (cI, 3, .inl A_0_33_sizes)), ((r0 34), .inl (cJ, 36, .inr (.inl A_0_34_items)))]) (fun _ => rfl) (fun _ => rfl) (fun y2 _ H locs h hM => ?_)
  refine lv_if_ne (tgt := 9) hx hb dX12_list_4 (by decide) (fun hq => ?_) (fun hq => ?_)
  · have h := h.1 hq
    refine lv_iload_n hx hb dX12_list_9 rfl (lv_at hl 2 rfl) ?_
    refine lv_bipush (v := (12 : Int32)) hx hb dX12_list_10 (by decide) ?_
    refine lv_icmp_le (tgt := 18) hx hb dX12_list_12 (by decide) (fun hq => ?_) (fun hq => ?_)
    · have h := h.1 hq
      refine lv_iload_n hx hb dX12_list_18 rfl (lv_at hl 2 rfl) ?_
      refine lv_iconst (v := (-1 : Int32)) hx hb dX12_list_19 (by decide) ?_
      refine lv_icmp_ge (tgt := 26) hx hb dX12_list_20 (by decide) (fun hq => ?_) (fun hq => ?_)
      · have h := h.1 hq
        refine lv_aload_n hx hb dX12_list_26 rfl (lv_at hl 0 rfl) ?_
        refine m_get (C := RX12) (T := TX12) (N := 45) (ci := 11) (ref := "LoweredPowersModel") (v := .ref (r0 33)) C0 hM 0 rfl rfl kt_X12_list_X12 33 (by decide) kw_X12_list_1 rfl rfl dX12_list_27 ?_
        refine lv_iload_n hx hb dX12_list_30 rfl (lv_at hl 1 rfl) ?_
        refine lv_iload_n hx hb dX12_list_31 rfl (lv_at hl 2 rfl) ?_
        obtain ⟨hc3, h⟩ := h
        refine m_iast (ws' := [(h0, .inr (11, oX12 r0 I_0_isFound I_0_foundB I_0_changes I_0_taped I_0_size I_0_at I_0_signs I_0_wanted I_0_sign I_0_isKept I_0_keptFound I_0_keptB I_0_keptChanges)), ((r0 33), .inl (cI, 3, .inl (upd A_0_33_sizes (x1).toNatClampNeg x2))), ((r0 34), .inl (cJ, 36, .inr (.inl A_0_34_items)))]) C0 hM 1 rfl hc3 rfl dX12_list_32 (fun H locs hM => ?_)
        refine lv_iconst (v := (0 : Int32)) hx hb dX12_list_33 (by decide) ?_
        refine lv_istore_n (lv' := [(3, .int (0 : Int32)), (0, .ref h0), (1, .int x1), (2, .int x2)]) hx hb dX12_list_34 rfl hl (by decide) rfl (fun ls hl => ?_)
        obtain ⟨k0, h⟩ := h
        exact lq35 k0 _ _ _ _ _ _ h hM (lv_sub hl [1, 2, 0] rfl)
      · have h := h.2 hq
        refine lv_bipush (v := (-14 : Int32)) hx hb dX12_list_23 (by decide) ?_
        subst hsz; subst hA; subst hQ
        exact m_iret C0 hr hM (A_0_33_sizes, A_0_34_items) h rfl dX12_list_25
    · have h := h.2 hq
      refine lv_bipush (v := (-2 : Int32)) hx hb dX12_list_15 (by decide) ?_
      subst hsz; subst hA; subst hQ
      exact m_iret C0 hr hM (A_0_33_sizes, A_0_34_items) h rfl dX12_list_17
  · have h := h.2 hq
    refine lv_iconst (v := (-1 : Int32)) hx hb dX12_list_7 (by decide) ?_
    subst hsz; subst hA; subst hQ
    exact m_iret C0 hr hM (A_0_33_sizes, A_0_34_items) h rfl dX12_list_8
abbrev rm_X12_lay : Room := { frames := 2, cells := 0, slots := 0, locals := 42 }
set_option maxRecDepth 100000 in
set_option maxHeartbeats 4000000 in
theorem ct_X12_lay (l : Launch) (D : va_G) (cI cJ cZ : ClassId) (h0 : Nat) (r0 : Nat → Nat) (I_0_isFound : Int32) (I_0_foundB : Int32) (I_0_changes : Int32) (I_0_taped : Int32) (I_0_size : Int32) (I_0_at : Int32) (I_0_signs : Int32) (I_0_wanted : Int32) (I_0_sign : Int32) (I_0_isKept : Int32) (I_0_keptFound : Int32) (I_0_keptB : Int32) (I_0_keptChanges : Int32) (A_0_33_sizes : (Nat → Int32)) (A_0_34_items : (Nat → Int64)) (x1 : Int32) (x2 : Int32) (x3 : Int64) (sz : Nat) (K : Int32 → (Nat → Int64) → Prop) (h : wp_X12_lay x1 x2 x3 A_0_33_sizes A_0_34_items K) : Met l yX12_lay wsX12_lay rm_X12_lay (va_Pc [.ref h0, .int x1, .int x2, .long x3] (WX D cI cJ cZ [(h0, .inr (11, oX12 r0 I_0_isFound I_0_foundB I_0_changes I_0_taped I_0_size I_0_at I_0_signs I_0_wanted I_0_sign I_0_isKept I_0_keptFound I_0_keptB I_0_keptChanges)), ((r0 33), .inl (cI, 3, .inl A_0_33_sizes)), ((r0 34), .inl (cJ, 36, .inr (.inl A_0_34_items)))] sz)) (va_Qi (fun (r : Int32) (u : (Nat → Int64)) => K r u) (fun (u : (Nat → Int64)) t => WY D (va_A [(h0, .inr (11, oX12 r0 I_0_isFound I_0_foundB I_0_changes I_0_taped I_0_size I_0_at I_0_signs I_0_wanted I_0_sign I_0_isKept I_0_keptFound I_0_keptB I_0_keptChanges)), ((r0 33), .inl (cI, 3, .inl A_0_33_sizes)), ((r0 34), .inl (cJ, 36, .inr (.inl A_0_34_items)))] sz) [(h0, .inr (11, oX12 r0 I_0_isFound I_0_foundB I_0_changes I_0_taped I_0_size I_0_at I_0_signs I_0_wanted I_0_sign I_0_isKept I_0_keptFound I_0_keptB I_0_keptChanges)), ((r0 33), .inl (cI, 3, .inl A_0_33_sizes)), ((r0 34), .inl (cJ, 36, .inr (.inl u)))] t) (va_A [(h0, .inr (11, oX12 r0 I_0_isFound I_0_foundB I_0_changes I_0_taped I_0_size I_0_at I_0_signs I_0_wanted I_0_sign I_0_isKept I_0_keptFound I_0_keptB I_0_keptChanges)), ((r0 33), .inl (cI, 3, .inl A_0_33_sizes)), ((r0 34), .inl (cJ, 36, .inr (.inl A_0_34_items)))] sz)) 0 0 (va_A [(h0, .inr (11, oX12 r0 I_0_isFound I_0_foundB I_0_changes I_0_taped I_0_size I_0_at I_0_signs I_0_wanted I_0_sign I_0_isKept I_0_keptFound I_0_keptB I_0_keptChanges)), ((r0 33), .inl (cI, 3, .inl A_0_33_sizes)), ((r0 34), .inl (cJ, 36, .inr (.inl A_0_34_items)))] sz) := by
  refine m_met (own := RX12) (cc := cX12_lay) (maxL := 5) (ret := some .int) [.ref h0, .int x1, .int x2, .long x3] [(0, .ref h0), (1, .int x1), (2, .int x2), (3, .long x3)] (by decide) rfl rfl (Nat.le_of_ble_eq_true rfl) rfl ?_
  intro p e s m args below meth c Q A hQ hA C0 hr hnm hsz hM ls hl
  have hx := C0.1
  have hb := C0.2.1
  have hown := C0.2.2.2.1
  unfold wp_X12_lay at h
  refine lv_iload_n hx hb dX12_lay_0 rfl (lv_at hl 1 rfl) ?_
  refine m_calli (wc := []) C0 hM [] rfl (m_runS (wc := []) (As := [.int x1]) (rest := []) C0 hM (ct_X12_isList l D cI cJ cZ x1 _ _ h) [] rfl (by decide) gX12_lay_X12_isList rfl rfl rfl hd_X12_isList ⟨Nat.le_of_ble_eq_true rfl, Nat.le_of_ble_eq_true rfl⟩ rfl hl.1 rfl (Nat.le_of_ble_eq_true rfl) dX12_lay_1 ⟨Nat.le_of_ble_eq_true rfl, Nat.le_of_ble_eq_true rfl⟩) (fun _ => [(h0, .inr (11, oX12 r0 I_0_isFound I_0_foundB I_0_changes I_0_taped I_0_size I_0_at I_0_signs I_0_wanted I_0_sign I_0_isKept I_0_keptFound I_0_keptB I_0_keptChanges)), ((r0 33), .inl (cI, 3, .inl A_0_33_sizes)), ((r0 34), .inl (cJ, 36, .inr (.inl A_0_34_items)))]) (fun _ => rfl) (fun _ => rfl) (fun y1 _ H locs h hM => ?_)
  refine lv_if_ne (tgt := 9) hx hb dX12_lay_4 (by decide) (fun hq => ?_) (fun hq => ?_)
  · have h := h.1 hq
    refine lv_aload_n hx hb dX12_lay_9 rfl (lv_at hl 0 rfl) ?_
    refine m_get (C := RX12) (T := TX12) (N := 45) (ci := 11) (ref := "LoweredPowersModel") (v := .ref (r0 33)) C0 hM 0 rfl rfl kt_X12_lay_X12 33 (by decide) kw_X12_lay_1 rfl rfl dX12_lay_10 ?_
    refine lv_iload_n hx hb dX12_lay_13 rfl (lv_at hl 1 rfl) ?_
    obtain ⟨hc2, h⟩ := h
    refine m_iald C0 hM 1 rfl hc2 dX12_lay_14 ?_
    refine lv_if_ge (tgt := 21) hx hb dX12_lay_15 (by decide) (fun hq => ?_) (fun hq => ?_)
    · have h := h.1 hq
      refine lv_iload_n hx hb dX12_lay_21 rfl (lv_at hl 2 rfl) ?_
      refine lv_iconst (v := (0 : Int32)) hx hb dX12_lay_22 (by decide) ?_
      refine lv_aload_n hx hb dX12_lay_23 rfl (lv_at hl 0 rfl) ?_
      refine m_get (C := RX12) (T := TX12) (N := 45) (ci := 11) (ref := "LoweredPowersModel") (v := .ref (r0 33)) C0 hM 0 rfl rfl kt_X12_lay_X12 33 (by decide) kw_X12_lay_1 rfl rfl dX12_lay_24 ?_
      refine lv_iload_n hx hb dX12_lay_27 rfl (lv_at hl 1 rfl) ?_
      refine m_iald C0 hM 1 rfl hc2 dX12_lay_28 ?_
      refine lv_iconst (v := (1 : Int32)) hx hb dX12_lay_29 (by decide) ?_
      refine lv_isub hx hb dX12_lay_30 ?_
      refine m_calli (wc := []) C0 hM [] rfl (m_runS (wc := []) (As := [.int x2, .int (0 : Int32), .int ((A_0_33_sizes (x1).toNatClampNeg) - (1 : Int32))]) (rest := []) C0 hM (ct_X12_isIn l D cI cJ cZ x2 (0 : Int32) ((A_0_33_sizes (x1).toNatClampNeg) - (1 : Int32)) _ _ h) [] rfl (by decide) gX12_lay_X12_isIn rfl rfl rfl hd_X12_isIn ⟨Nat.le_of_ble_eq_true rfl, Nat.le_of_ble_eq_true rfl⟩ rfl hl.1 rfl (Nat.le_of_ble_eq_true rfl) dX12_lay_31 ⟨Nat.le_of_ble_eq_true rfl, Nat.le_of_ble_eq_true rfl⟩) (fun _ => [(h0, .inr (11, oX12 r0 I_0_isFound I_0_foundB I_0_changes I_0_taped I_0_size I_0_at I_0_signs I_0_wanted I_0_sign I_0_isKept I_0_keptFound I_0_keptB I_0_keptChanges)), ((r0 33), .inl (cI, 3, .inl A_0_33_sizes)), ((r0 34), .inl (cJ, 36, .inr (.inl A_0_34_items)))]) (fun _ => rfl) (fun _ => rfl) (fun y3 _ H locs h hM => ?_)
      refine lv_if_ne (tgt := 40) hx hb dX12_lay_34 (by decide) (fun hq => ?_) (fun hq => ?_)
      · have h := h.1 hq
        refine lv_aload_n hx hb dX12_lay_40 rfl (lv_at hl 0 rfl) ?_
        refine m_get (C := RX12) (T := TX12) (N := 45) (ci := 11) (ref := "LoweredPowersModel") (v := .ref (r0 34)) C0 hM 0 rfl rfl kt_X12_lay_X12 34 (by decide) kw_X12_lay_2 rfl rfl dX12_lay_41 ?_
        refine lv_bipush (v := (12 : Int32)) hx hb dX12_lay_44 (by decide) ?_
        refine lv_iload_n hx hb dX12_lay_46 rfl (lv_at hl 1 rfl) ?_
        refine lv_imul hx hb dX12_lay_47 ?_
        refine lv_iload_n hx hb dX12_lay_48 rfl (lv_at hl 2 rfl) ?_
        refine lv_iadd hx hb dX12_lay_49 ?_
        refine lv_lload_n hx hb dX12_lay_50 rfl (lv_at hl 3 rfl) ?_
        obtain ⟨hc4, h⟩ := h
        refine m_last (ws' := [(h0, .inr (11, oX12 r0 I_0_isFound I_0_foundB I_0_changes I_0_taped I_0_size I_0_at I_0_signs I_0_wanted I_0_sign I_0_isKept I_0_keptFound I_0_keptB I_0_keptChanges)), ((r0 33), .inl (cI, 3, .inl A_0_33_sizes)), ((r0 34), .inl (cJ, 36, .inr (.inl (vp_updL A_0_34_items ((((12 : Int32) * x1) + x2)).toNatClampNeg x3))))]) C0 hM 2 rfl hc4 rfl dX12_lay_51 (fun H locs hM => ?_)
        refine lv_iconst (v := (1 : Int32)) hx hb dX12_lay_52 (by decide) ?_
        subst hsz; subst hA; subst hQ
        exact m_iret C0 hr hM (vp_updL A_0_34_items ((((12 : Int32) * x1) + x2)).toNatClampNeg x3) h rfl dX12_lay_53
      · have h := h.2 hq
        refine lv_bipush (v := (-13 : Int32)) hx hb dX12_lay_37 (by decide) ?_
        subst hsz; subst hA; subst hQ
        exact m_iret C0 hr hM A_0_34_items h rfl dX12_lay_39
    · have h := h.2 hq
      refine lv_bipush (v := (-11 : Int32)) hx hb dX12_lay_18 (by decide) ?_
      subst hsz; subst hA; subst hQ
      exact m_iret C0 hr hM A_0_34_items h rfl dX12_lay_20
  · have h := h.2 hq
    refine lv_iconst (v := (-1 : Int32)) hx hb dX12_lay_7 (by decide) ?_
    subst hsz; subst hA; subst hQ
    exact m_iret C0 hr hM A_0_34_items h rfl dX12_lay_8
abbrev rm_X12_look : Room := { frames := 2, cells := 0, slots := 0, locals := 42 }
set_option maxRecDepth 100000 in
set_option maxHeartbeats 4000000 in
theorem ct_X12_look (l : Launch) (D : va_G) (cI cJ cZ : ClassId) (h0 : Nat) (r0 : Nat → Nat) (I_0_isFound : Int32) (I_0_foundB : Int32) (I_0_changes : Int32) (I_0_taped : Int32) (I_0_size : Int32) (I_0_at : Int32) (I_0_signs : Int32) (I_0_wanted : Int32) (I_0_sign : Int32) (I_0_isKept : Int32) (I_0_keptFound : Int32) (I_0_keptB : Int32) (I_0_keptChanges : Int32) (A_0_33_sizes : (Nat → Int32)) (A_0_34_items : (Nat → Int64)) (x1 : Int32) (x2 : Int32) (sz : Nat) (K : Int64 → Prop) (h : wp_X12_look x1 x2 A_0_33_sizes A_0_34_items K) : Met l yX12_look wsX12_look rm_X12_look (va_Pc [.ref h0, .int x1, .int x2] (WX D cI cJ cZ [(h0, .inr (11, oX12 r0 I_0_isFound I_0_foundB I_0_changes I_0_taped I_0_size I_0_at I_0_signs I_0_wanted I_0_sign I_0_isKept I_0_keptFound I_0_keptB I_0_keptChanges)), ((r0 33), .inl (cI, 3, .inl A_0_33_sizes)), ((r0 34), .inl (cJ, 36, .inr (.inl A_0_34_items)))] sz)) (va_Ql (fun (r : Int64) (_ : Unit) => K r ) (fun (_ : Unit) t => WY D (va_A [(h0, .inr (11, oX12 r0 I_0_isFound I_0_foundB I_0_changes I_0_taped I_0_size I_0_at I_0_signs I_0_wanted I_0_sign I_0_isKept I_0_keptFound I_0_keptB I_0_keptChanges)), ((r0 33), .inl (cI, 3, .inl A_0_33_sizes)), ((r0 34), .inl (cJ, 36, .inr (.inl A_0_34_items)))] sz) [(h0, .inr (11, oX12 r0 I_0_isFound I_0_foundB I_0_changes I_0_taped I_0_size I_0_at I_0_signs I_0_wanted I_0_sign I_0_isKept I_0_keptFound I_0_keptB I_0_keptChanges)), ((r0 33), .inl (cI, 3, .inl A_0_33_sizes)), ((r0 34), .inl (cJ, 36, .inr (.inl A_0_34_items)))] t) (va_A [(h0, .inr (11, oX12 r0 I_0_isFound I_0_foundB I_0_changes I_0_taped I_0_size I_0_at I_0_signs I_0_wanted I_0_sign I_0_isKept I_0_keptFound I_0_keptB I_0_keptChanges)), ((r0 33), .inl (cI, 3, .inl A_0_33_sizes)), ((r0 34), .inl (cJ, 36, .inr (.inl A_0_34_items)))] sz)) 0 0 (va_A [(h0, .inr (11, oX12 r0 I_0_isFound I_0_foundB I_0_changes I_0_taped I_0_size I_0_at I_0_signs I_0_wanted I_0_sign I_0_isKept I_0_keptFound I_0_keptB I_0_keptChanges)), ((r0 33), .inl (cI, 3, .inl A_0_33_sizes)), ((r0 34), .inl (cJ, 36, .inr (.inl A_0_34_items)))] sz) := by
  refine m_met (own := RX12) (cc := cX12_look) (maxL := 3) (ret := some .long) [.ref h0, .int x1, .int x2] [(0, .ref h0), (1, .int x1), (2, .int x2)] (by decide) rfl rfl (Nat.le_of_ble_eq_true rfl) rfl ?_
  intro p e s m args below meth c Q A hQ hA C0 hr hnm hsz hM ls hl
  have hx := C0.1
  have hb := C0.2.1
  have hown := C0.2.2.2.1
  unfold wp_X12_look at h
  refine lv_iload_n hx hb dX12_look_0 rfl (lv_at hl 1 rfl) ?_
  refine m_calli (wc := []) C0 hM [] rfl (m_runS (wc := []) (As := [.int x1]) (rest := []) C0 hM (ct_X12_isList l D cI cJ cZ x1 _ _ h) [] rfl (by decide) gX12_look_X12_isList rfl rfl rfl hd_X12_isList ⟨Nat.le_of_ble_eq_true rfl, Nat.le_of_ble_eq_true rfl⟩ rfl hl.1 rfl (Nat.le_of_ble_eq_true rfl) dX12_look_1 ⟨Nat.le_of_ble_eq_true rfl, Nat.le_of_ble_eq_true rfl⟩) (fun _ => [(h0, .inr (11, oX12 r0 I_0_isFound I_0_foundB I_0_changes I_0_taped I_0_size I_0_at I_0_signs I_0_wanted I_0_sign I_0_isKept I_0_keptFound I_0_keptB I_0_keptChanges)), ((r0 33), .inl (cI, 3, .inl A_0_33_sizes)), ((r0 34), .inl (cJ, 36, .inr (.inl A_0_34_items)))]) (fun _ => rfl) (fun _ => rfl) (fun y1 _ H locs h hM => ?_)
  refine lv_if_eq (tgt := 37) hx hb dX12_look_4 (by decide) (fun hq => ?_) (fun hq => ?_)
  · have h := h.1 hq
    refine lv_ldc2 (v := (-9223372036854775808 : Int64)) hx hb hown (C0.2.2.2.2.1 _ kw_X12_look_3) dX12_look_37 ?_
    subst hsz; subst hA; subst hQ
    exact m_lret C0 hr hM () h rfl dX12_look_40
  · have h := h.2 hq
    refine lv_iload_n hx hb dX12_look_7 rfl (lv_at hl 2 rfl) ?_
    refine lv_iconst (v := (0 : Int32)) hx hb dX12_look_8 (by decide) ?_
    refine lv_aload_n hx hb dX12_look_9 rfl (lv_at hl 0 rfl) ?_
    refine m_get (C := RX12) (T := TX12) (N := 45) (ci := 11) (ref := "LoweredPowersModel") (v := .ref (r0 33)) C0 hM 0 rfl rfl kt_X12_look_X12 33 (by decide) kw_X12_look_1 rfl rfl dX12_look_10 ?_
    refine lv_iload_n hx hb dX12_look_13 rfl (lv_at hl 1 rfl) ?_
    obtain ⟨hc2, h⟩ := h
    refine m_iald C0 hM 1 rfl hc2 dX12_look_14 ?_
    refine lv_iconst (v := (1 : Int32)) hx hb dX12_look_15 (by decide) ?_
    refine lv_isub hx hb dX12_look_16 ?_
    refine m_calli (wc := []) C0 hM [] rfl (m_runS (wc := []) (As := [.int x2, .int (0 : Int32), .int ((A_0_33_sizes (x1).toNatClampNeg) - (1 : Int32))]) (rest := []) C0 hM (ct_X12_isIn l D cI cJ cZ x2 (0 : Int32) ((A_0_33_sizes (x1).toNatClampNeg) - (1 : Int32)) _ _ h) [] rfl (by decide) gX12_look_X12_isIn rfl rfl rfl hd_X12_isIn ⟨Nat.le_of_ble_eq_true rfl, Nat.le_of_ble_eq_true rfl⟩ rfl hl.1 rfl (Nat.le_of_ble_eq_true rfl) dX12_look_17 ⟨Nat.le_of_ble_eq_true rfl, Nat.le_of_ble_eq_true rfl⟩) (fun _ => [(h0, .inr (11, oX12 r0 I_0_isFound I_0_foundB I_0_changes I_0_taped I_0_size I_0_at I_0_signs I_0_wanted I_0_sign I_0_isKept I_0_keptFound I_0_keptB I_0_keptChanges)), ((r0 33), .inl (cI, 3, .inl A_0_33_sizes)), ((r0 34), .inl (cJ, 36, .inr (.inl A_0_34_items)))]) (fun _ => rfl) (fun _ => rfl) (fun y3 _ H locs h hM => ?_)
    refine lv_if_eq (tgt := 37) hx hb dX12_look_20 (by decide) (fun hq => ?_) (fun hq => ?_)
    · have h := h.1 hq
      refine lv_ldc2 (v := (-9223372036854775808 : Int64)) hx hb hown (C0.2.2.2.2.1 _ kw_X12_look_3) dX12_look_37 ?_
      subst hsz; subst hA; subst hQ
      exact m_lret C0 hr hM () h rfl dX12_look_40
    · have h := h.2 hq
      refine lv_aload_n hx hb dX12_look_23 rfl (lv_at hl 0 rfl) ?_
      refine m_get (C := RX12) (T := TX12) (N := 45) (ci := 11) (ref := "LoweredPowersModel") (v := .ref (r0 34)) C0 hM 0 rfl rfl kt_X12_look_X12 34 (by decide) kw_X12_look_2 rfl rfl dX12_look_24 ?_
      refine lv_bipush (v := (12 : Int32)) hx hb dX12_look_27 (by decide) ?_
      refine lv_iload_n hx hb dX12_look_29 rfl (lv_at hl 1 rfl) ?_
      refine lv_imul hx hb dX12_look_30 ?_
      refine lv_iload_n hx hb dX12_look_31 rfl (lv_at hl 2 rfl) ?_
      refine lv_iadd hx hb dX12_look_32 ?_
      obtain ⟨hc4, h⟩ := h
      refine m_lald C0 hM 2 rfl hc4 dX12_look_33 ?_
      refine lv_goto (tgt := 40) hx hb dX12_look_34 (by decide) ?_
      subst hsz; subst hA; subst hQ
      exact m_lret C0 hr hM () h rfl dX12_look_40
