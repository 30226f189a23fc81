theorem hd_X8_shift : yX8_shift.cls = RX8 ∧ yX8_shift.cls ≠ "java/lang/invoke/MethodHandle" ∧ yX8_shift.cls ≠ "java/lang/invoke/VarHandle" ∧ (parseMethodDescriptor yX8_shift.desc).map (fun d => d.parameters.length) = some 2 := by decide +kernel
theorem hd_X8_explained : yX8_explained.cls = RX8 ∧ yX8_explained.cls ≠ "java/lang/invoke/MethodHandle" ∧ yX8_explained.cls ≠ "java/lang/invoke/VarHandle" ∧ (parseMethodDescriptor yX8_explained.desc).map (fun d => d.parameters.length) = some 0 := by decide +kernel
theorem hd_X8_firstOther : yX8_firstOther.cls = RX8 ∧ yX8_firstOther.cls ≠ "java/lang/invoke/MethodHandle" ∧ yX8_firstOther.cls ≠ "java/lang/invoke/VarHandle" ∧ (parseMethodDescriptor yX8_firstOther.desc).map (fun d => d.parameters.length) = some 0 := by decide +kernel
theorem hd_X8_keep : yX8_keep.cls = RX8 ∧ yX8_keep.cls ≠ "java/lang/invoke/MethodHandle" ∧ yX8_keep.cls ≠ "java/lang/invoke/VarHandle" ∧ (parseMethodDescriptor yX8_keep.desc).map (fun d => d.parameters.length) = some 1 := by decide +kernel
theorem hd_X8_takeOperators : yX8_takeOperators.cls = RX8 ∧ yX8_takeOperators.cls ≠ "java/lang/invoke/MethodHandle" ∧ yX8_takeOperators.cls ≠ "java/lang/invoke/VarHandle" ∧ (parseMethodDescriptor yX8_takeOperators.desc).map (fun d => d.parameters.length) = some 3 := by decide +kernel
theorem hd_X8_tell : yX8_tell.cls = RX8 ∧ yX8_tell.cls ≠ "java/lang/invoke/MethodHandle" ∧ yX8_tell.cls ≠ "java/lang/invoke/VarHandle" ∧ (parseMethodDescriptor yX8_tell.desc).map (fun d => d.parameters.length) = some 2 := by decide +kernel
theorem hd_X8_seek : yX8_seek.cls = RX8 ∧ yX8_seek.cls ≠ "java/lang/invoke/MethodHandle" ∧ yX8_seek.cls ≠ "java/lang/invoke/VarHandle" ∧ (parseMethodDescriptor yX8_seek.desc).map (fun d => d.parameters.length) = some 5 := by decide +kernel
theorem kt_X8_explained_X8 : ∀ w ∈ u_ws RX8 TX8 10, w ∈ wsX8_explained := fun _ h => List.mem_cons_of_mem _ (List.mem_append_right _ (h))
theorem kt_X8_firstOther_X8 : ∀ w ∈ u_ws RX8 TX8 10, w ∈ wsX8_firstOther := fun _ h => List.mem_cons_of_mem _ (List.mem_append_right _ (h))
theorem kt_X8_keep_X8 : ∀ w ∈ u_ws RX8 TX8 10, w ∈ wsX8_keep := fun _ h => List.mem_cons_of_mem _ (List.mem_append_right _ (h))
theorem kt_X8_seek_X8 : ∀ w ∈ u_ws RX8 TX8 10, w ∈ wsX8_seek := fun _ h => List.mem_cons_of_mem _ (List.mem_append_left _ (List.mem_append_left _ (List.mem_append_left _ (List.mem_append_left _ (List.mem_append_right _ (h))))))
theorem kt_X8_seek_X9 : ∀ w ∈ u_ws RX9 TX9 4, w ∈ wsX8_seek := fun _ h => List.mem_cons_of_mem _ (List.mem_append_left _ (List.mem_append_left _ (List.mem_append_left _ (List.mem_append_right _ (h)))))
theorem kt_X8_shift_X8 : ∀ w ∈ u_ws RX8 TX8 10, w ∈ wsX8_shift := fun _ h => List.mem_cons_of_mem _ (List.mem_append_right _ (h))
theorem kt_X8_tell_X0 : ∀ w ∈ u_ws RX0 TX0 7, w ∈ wsX8_tell := fun _ h => List.mem_cons_of_mem _ (List.mem_append_left _ (List.mem_append_right _ (h)))
theorem kt_X8_tell_X4 : ∀ w ∈ u_ws RX4 TX4 1, w ∈ wsX8_tell := fun _ h => List.mem_cons_of_mem _ (List.mem_append_right _ (h))
theorem kt_X8_tell_X8 : ∀ w ∈ u_ws RX8 TX8 10, w ∈ wsX8_tell := fun _ h => List.mem_cons_of_mem _ (List.mem_append_left _ (List.mem_append_left _ (List.mem_append_right _ (h))))
theorem kw_X8_shift_1 : Cond.fieldLink RX8 34 "LoweredPowers$Search" "column" "[I" ∈ wsX8_shift := List.mem_of_getElem? (i := 1) rfl
theorem kw_X8_shift_2 : Cond.fieldLink RX8 40 "LoweredPowers$Search" "base" "[I" ∈ wsX8_shift := List.mem_of_getElem? (i := 2) rfl
theorem kw_X8_explained_2 : Cond.fieldLink RX8 34 "LoweredPowers$Search" "column" "[I" ∈ wsX8_explained := List.mem_of_getElem? (i := 2) rfl
theorem kw_X8_explained_5 : Cond.fieldLink RX8 22 "LoweredPowers$Search" "end" "[I" ∈ wsX8_explained := List.mem_of_getElem? (i := 5) rfl
theorem kw_X8_explained_6 : Cond.fieldLink RX8 15 "LoweredPowers$Search" "steps" "[I" ∈ wsX8_explained := List.mem_of_getElem? (i := 6) rfl
theorem kw_X8_explained_1 : Cond.fieldLink RX8 43 "LoweredPowers$Search" "size" "I" ∈ wsX8_explained := List.mem_of_getElem? (i := 1) rfl
theorem kw_X8_explained_3 : Cond.fieldLink RX8 19 "LoweredPowers$Search" "lead" "[I" ∈ wsX8_explained := List.mem_of_getElem? (i := 3) rfl
theorem kw_X8_explained_4 : Cond.fieldLink RX8 37 "LoweredPowers$Search" "share" "[I" ∈ wsX8_explained := List.mem_of_getElem? (i := 4) rfl
theorem kw_X8_firstOther_1 : Cond.fieldLink RX8 34 "LoweredPowers$Search" "column" "[I" ∈ wsX8_firstOther := List.mem_of_getElem? (i := 1) rfl
theorem kw_X8_keep_8 : Cond.fieldLink RX8 37 "LoweredPowers$Search" "share" "[I" ∈ wsX8_keep := List.mem_of_getElem? (i := 8) rfl
theorem kw_X8_keep_9 : Cond.fieldLink RX8 31 "LoweredPowers$Search" "shares" "[I" ∈ wsX8_keep := List.mem_of_getElem? (i := 9) rfl
theorem kw_X8_keep_1 : Cond.fieldLink RX8 43 "LoweredPowers$Search" "size" "I" ∈ wsX8_keep := List.mem_of_getElem? (i := 1) rfl
theorem kw_X8_keep_10 : Cond.methodLink RX8 119 arraycopyName ∈ wsX8_keep := List.mem_of_getElem? (i := 10) rfl
theorem kw_X8_keep_11 : Cond.native arraycopyName ∈ wsX8_keep := List.mem_of_getElem? (i := 11) rfl
theorem kw_X8_keep_12 : Cond.static arraycopyName ∈ wsX8_keep := List.mem_of_getElem? (i := 12) rfl
theorem kw_X8_keep_13 : Cond.initialized RJ10 ∈ wsX8_keep := List.mem_of_getElem? (i := 13) rfl
theorem kw_X8_keep_7 : Cond.fieldLink RX8 15 "LoweredPowers$Search" "steps" "[I" ∈ wsX8_keep := List.mem_of_getElem? (i := 7) rfl
theorem kw_X8_keep_6 : Cond.fieldLink RX8 28 "LoweredPowers$Search" "scale" "[I" ∈ wsX8_keep := List.mem_of_getElem? (i := 6) rfl
theorem kw_X8_keep_4 : Cond.fieldLink RX8 34 "LoweredPowers$Search" "column" "[I" ∈ wsX8_keep := List.mem_of_getElem? (i := 4) rfl
theorem kw_X8_keep_2 : Cond.fieldLink RX8 19 "LoweredPowers$Search" "lead" "[I" ∈ wsX8_keep := List.mem_of_getElem? (i := 2) rfl
theorem kw_X8_keep_3 : Cond.fieldLink RX8 22 "LoweredPowers$Search" "end" "[I" ∈ wsX8_keep := List.mem_of_getElem? (i := 3) rfl
theorem kw_X8_keep_5 : Cond.fieldLink RX8 25 "LoweredPowers$Search" "source" "[I" ∈ wsX8_keep := List.mem_of_getElem? (i := 5) rfl
theorem kw_X8_tell_8 : Cond.fieldLink RX8 132 "LoweredPowers$Found" "b" "[I" ∈ wsX8_tell := List.mem_of_getElem? (i := 8) rfl
theorem kw_X8_tell_9 : Cond.fieldLink RX8 135 "LoweredPowers$Found" "top" "I" ∈ wsX8_tell := List.mem_of_getElem? (i := 9) rfl
theorem kw_X8_tell_5 : Cond.fieldLink RX8 25 "LoweredPowers$Search" "source" "[I" ∈ wsX8_tell := List.mem_of_getElem? (i := 5) rfl
theorem kw_X8_tell_6 : Cond.fieldLink RX8 125 "LoweredPowers$Found" "operator" "LLoweredPowers$Operator;" ∈ wsX8_tell := List.mem_of_getElem? (i := 6) rfl
theorem kw_X8_tell_7 : Cond.fieldLink RX8 129 "LoweredPowers$Operator" "numbers" "[I" ∈ wsX8_tell := List.mem_of_getElem? (i := 7) rfl
theorem kw_X8_tell_2 : Cond.fieldLink RX8 37 "LoweredPowers$Search" "share" "[I" ∈ wsX8_tell := List.mem_of_getElem? (i := 2) rfl
theorem kw_X8_tell_4 : Cond.fieldLink RX8 31 "LoweredPowers$Search" "shares" "[I" ∈ wsX8_tell := List.mem_of_getElem? (i := 4) rfl
theorem kw_X8_tell_3 : Cond.fieldLink RX8 28 "LoweredPowers$Search" "scale" "[I" ∈ wsX8_tell := List.mem_of_getElem? (i := 3) rfl
theorem kw_X8_tell_1 : Cond.fieldLink RX8 43 "LoweredPowers$Search" "size" "I" ∈ wsX8_tell := List.mem_of_getElem? (i := 1) rfl
theorem kw_X8_seek_2 : Cond.fieldLink RX8 47 "LoweredPowers$State" "found" "LLoweredPowers$Found;" ∈ wsX8_seek := List.mem_of_getElem? (i := 2) rfl
theorem kw_X8_seek_4 : Cond.fieldLink RX8 40 "LoweredPowers$Search" "base" "[I" ∈ wsX8_seek := List.mem_of_getElem? (i := 4) rfl
theorem kw_X8_seek_3 : Cond.fieldLink RX8 61 "LoweredPowers$State" "f" "[I" ∈ wsX8_seek := List.mem_of_getElem? (i := 3) rfl
theorem kw_X8_seek_1 : Cond.fieldLink RX8 43 "LoweredPowers$Search" "size" "I" ∈ wsX8_seek := List.mem_of_getElem? (i := 1) rfl
abbrev rm_X8_shift : Room := { frames := 1, cells := 0, slots := 0, locals := 23 }
set_option maxRecDepth 100000 in
set_option maxHeartbeats 4000000 in
theorem ct_X8_shift (l : Launch) (D : va_G) (cI cJ cZ : ClassId) (h0 : Nat) (r0 : Nat → Nat) (I_0_size : Int32) (A_0_6_column : (Nat → Int32)) (A_0_8_base : (Nat → Int32)) (x1 : Int32) (x2 : Int32) (sz : Nat) (K : (Nat → Int32) → Prop) (h : wp_X8_shift x1 x2 A_0_6_column A_0_8_base K) : Met l yX8_shift wsX8_shift rm_X8_shift (va_Pc [.ref h0, .int x1, .int x2] (WX D cI cJ cZ [(h0, .inr (7, oX8 r0 I_0_size)), ((r0 6), .inl (cI, 225, .inl A_0_6_column)), ((r0 8), .inl (cI, 225, .inl A_0_8_base))] sz)) (va_Qv (fun (u : (Nat → Int32)) => K u) (fun (u : (Nat → Int32)) t => WY D (va_A [(h0, .inr (7, oX8 r0 I_0_size)), ((r0 6), .inl (cI, 225, .inl A_0_6_column)), ((r0 8), .inl (cI, 225, .inl A_0_8_base))] sz) [(h0, .inr (7, oX8 r0 I_0_size)), ((r0 6), .inl (cI, 225, .inl u)), ((r0 8), .inl (cI, 225, .inl A_0_8_base))] t) (va_A [(h0, .inr (7, oX8 r0 I_0_size)), ((r0 6), .inl (cI, 225, .inl A_0_6_column)), ((r0 8), .inl (cI, 225, .inl A_0_8_base))] sz)) 0 0 (va_A [(h0, .inr (7, oX8 r0 I_0_size)), ((r0 6), .inl (cI, 225, .inl A_0_6_column)), ((r0 8), .inl (cI, 225, .inl A_0_8_base))] sz) := by
  refine m_met (own := RX8) (cc := cX8_shift) (maxL := 5) (ret := none) [.ref h0, .int x1, .int x2] [(0, .ref h0), (1, .int x1), (2, .int x2)] (by decide) rfl rfl (Nat.le_of_ble_eq_true rfl) rfl ?_
  intro p e s m args below meth c Q A hQ hA C0 hr hnm hsz hM ls hl
  have hx := C0.1
  have hb := C0.2.1
  have hown := C0.2.2.2.1
  have lq10 : ∀ (k10 : Nat) (x3 : Int32) (A_0_6_column : (Nat → Int32)) (H : Heap) (locs : List Loc) (ls : Array Slot) , lp_X8_shift_10 x1 x2 A_0_8_base K k10 x3 A_0_6_column → MW D A s.heap [(h0, .inr (7, oX8 r0 I_0_size)), ((r0 6), .inl (cI, 225, .inl A_0_6_column)), ((r0 8), .inl (cI, 225, .inl A_0_8_base))] H locs → lv_has ls 5 [(0, .ref h0), (1, .int x1), (2, .int x2), (3, .int x3)] → W p l e rm_X8_shift s m args below meth c H locs 0 0 Q (F0 m 10 ls []) := by
    intro k10
    induction k10 with
    | zero =>
      intro x3 A_0_6_column H locs ls h
      unfold lp_X8_shift_10 at h
      exact h.elim
    | succ k10 ih10 =>
      have jq60 : ∀ (x3 : Int32) (A_0_6_column : (Nat → Int32)) (H : Heap) (locs : List Loc) (ls : Array Slot) , jn_X8_shift_60 x1 x2 A_0_8_base (fun x3 A_0_6_column => lp_X8_shift_10 x1 x2 A_0_8_base K k10 x3 A_0_6_column) K x3 A_0_6_column → MW D A s.heap [(h0, .inr (7, oX8 r0 I_0_size)), ((r0 6), .inl (cI, 225, .inl A_0_6_column)), ((r0 8), .inl (cI, 225, .inl A_0_8_base))] H locs → lv_has ls 5 [(0, .ref h0), (1, .int x1), (2, .int x2), (3, .int x3)] → W p l e rm_X8_shift s m args below meth c H locs 0 0 Q (F0 m 60 ls []) := by
        intro x3 A_0_6_column H locs ls h hM hl
        unfold jn_X8_shift_60 at h
        refine lv_iinc (v := (x3 + (1 : Int32))) (lv' := [(3, .int (x3 + (1 : Int32))), (0, .ref h0), (1, .int x1), (2, .int x2)]) hx hb dX8_shift_60 hl (k := 3) rfl rfl (by decide) rfl (fun ls hl => ?_)
        refine lv_goto (tgt := 10) hx hb dX8_shift_63 (by decide) ?_
        exact ih10 _ _ _ _ _ h hM (lv_sub hl [1, 2, 3, 0] rfl)
      have lq19 : ∀ (k19 : Nat) (x3 : Int32) (x4 : Int32) (A_0_6_column : (Nat → Int32)) (H : Heap) (locs : List Loc) (ls : Array Slot) , lp_X8_shift_19 x1 x2 A_0_8_base (jn_X8_shift_60 x1 x2 A_0_8_base (fun x3 A_0_6_column => lp_X8_shift_10 x1 x2 A_0_8_base K k10 x3 A_0_6_column) K) K k19 x3 x4 A_0_6_column → MW D A s.heap [(h0, .inr (7, oX8 r0 I_0_size)), ((r0 6), .inl (cI, 225, .inl A_0_6_column)), ((r0 8), .inl (cI, 225, .inl A_0_8_base))] H locs → lv_has ls 5 [(0, .ref h0), (1, .int x1), (2, .int x2), (3, .int x3), (4, .int x4)] → W p l e rm_X8_shift s m args below meth c H locs 0 0 Q (F0 m 19 ls []) := by
        intro k19
        induction k19 with
        | zero =>
          intro x3 x4 A_0_6_column H locs ls h
          unfold lp_X8_shift_19 at h
          exact h.elim
        | succ k19 ih19 =>
          intro x3 x4 A_0_6_column H locs ls h hM hl
          unfold lp_X8_shift_19 at h
          refine lv_iload hx hb dX8_shift_19 (lv_at hl 4 rfl) ?_
          refine lv_bipush (v := (9 : Int32)) hx hb dX8_shift_21 (by decide) ?_
          refine lv_icmp_ge (tgt := 60) hx hb dX8_shift_23 (by decide) (fun hq => ?_) (fun hq => ?_)
          · have h := h.1 hq
            exact jq60 _ _ _ _ _ h hM (lv_sub hl [0, 1, 2, 3] rfl)
          · have h := h.2 hq
            refine lv_aload_n hx hb dX8_shift_26 rfl (lv_at hl 0 rfl) ?_
            refine m_get (C := RX8) (T := TX8) (N := 10) (ci := 7) (ref := "LoweredPowers$Search") (v := .ref (r0 6)) C0 hM 0 rfl rfl kt_X8_shift_X8 6 (by decide) kw_X8_shift_1 rfl rfl dX8_shift_27 ?_
            refine lv_iload_n hx hb dX8_shift_30 rfl (lv_at hl 3 rfl) ?_
            refine lv_bipush (v := (9 : Int32)) hx hb dX8_shift_31 (by decide) ?_
            refine lv_imul hx hb dX8_shift_33 ?_
            refine lv_iload hx hb dX8_shift_34 (lv_at hl 4 rfl) ?_
            refine lv_iadd hx hb dX8_shift_36 ?_
            refine lv_aload_n hx hb dX8_shift_37 rfl (lv_at hl 0 rfl) ?_
            refine m_get (C := RX8) (T := TX8) (N := 10) (ci := 7) (ref := "LoweredPowers$Search") (v := .ref (r0 8)) C0 hM 0 rfl rfl kt_X8_shift_X8 8 (by decide) kw_X8_shift_2 rfl rfl dX8_shift_38 ?_
            refine lv_iload_n hx hb dX8_shift_41 rfl (lv_at hl 3 rfl) ?_
            refine lv_iload_n hx hb dX8_shift_42 rfl (lv_at hl 1 rfl) ?_
            refine lv_isub hx hb dX8_shift_43 ?_
            refine lv_bipush (v := (9 : Int32)) hx hb dX8_shift_44 (by decide) ?_
            refine lv_imul hx hb dX8_shift_46 ?_
            refine lv_iload hx hb dX8_shift_47 (lv_at hl 4 rfl) ?_
            refine lv_iadd hx hb dX8_shift_49 ?_
            refine lv_iload_n hx hb dX8_shift_50 rfl (lv_at hl 2 rfl) ?_
            refine lv_isub hx hb dX8_shift_51 ?_
            obtain ⟨hc1, h⟩ := h
            refine m_iald C0 hM 2 rfl hc1 dX8_shift_52 ?_
            refine lv_topi (fun y2 ey2 => ?_)
            have h := h y2 ey2
            obtain ⟨hc3, h⟩ := h
            refine m_iast (ws' := [(h0, .inr (7, oX8 r0 I_0_size)), ((r0 6), .inl (cI, 225, .inl (upd A_0_6_column (((x3 * (9 : Int32)) + x4)).toNatClampNeg y2))), ((r0 8), .inl (cI, 225, .inl A_0_8_base))]) C0 hM 1 rfl hc3 rfl dX8_shift_53 (fun H locs hM => ?_)
            refine lv_iinc (v := (x4 + (1 : Int32))) (lv' := [(4, .int (x4 + (1 : Int32))), (0, .ref h0), (1, .int x1), (2, .int x2), (3, .int x3)]) hx hb dX8_shift_54 hl (k := 4) rfl rfl (by decide) rfl (fun ls hl => ?_)
            refine lv_goto (tgt := 19) hx hb dX8_shift_57 (by decide) ?_
            exact ih19 _ _ _ _ _ _ h hM (lv_sub hl [1, 2, 3, 4, 0] rfl)
      intro x3 A_0_6_column H locs ls h hM hl
      unfold lp_X8_shift_10 at h
      refine lv_iload_n hx hb dX8_shift_10 rfl (lv_at hl 3 rfl) ?_
      refine lv_bipush (v := (25 : Int32)) hx hb dX8_shift_11 (by decide) ?_
      refine lv_icmp_ge (tgt := 66) hx hb dX8_shift_13 (by decide) (fun hq => ?_) (fun hq => ?_)
      · have h := h.1 hq
        subst hsz; subst hA; subst hQ
        exact m_vret C0 hr hM A_0_6_column h rfl dX8_shift_66
      · have h := h.2 hq
        refine lv_iload_n hx hb dX8_shift_16 rfl (lv_at hl 2 rfl) ?_
        refine lv_istore (lv' := [(4, .int x2), (0, .ref h0), (1, .int x1), (2, .int x2), (3, .int x3)]) hx hb dX8_shift_17 hl (by decide) rfl (fun ls hl => ?_)
        obtain ⟨k0, h⟩ := h
        exact lq19 k0 _ _ _ _ _ _ h hM (lv_sub hl [1, 2, 3, 4, 0] rfl)
  unfold wp_X8_shift at h
  refine lv_aload_n hx hb dX8_shift_0 rfl (lv_at hl 0 rfl) ?_
  refine m_get (C := RX8) (T := TX8) (N := 10) (ci := 7) (ref := "LoweredPowers$Search") (v := .ref (r0 6)) C0 hM 0 rfl rfl kt_X8_shift_X8 6 (by decide) kw_X8_shift_1 rfl rfl dX8_shift_1 ?_
  refine lv_iconst (v := (0 : Int32)) hx hb dX8_shift_4 (by decide) ?_
  refine m_callv (wc := [((r0 6), .inl (cI, 225, .inl A_0_6_column))]) C0 hM [1] rfl (m_runS (wc := [((r0 6), .inl (cI, 225, .inl A_0_6_column))]) (As := [.ref (r0 6), .int (0 : Int32)]) (rest := []) C0 hM (ct_J7_fill_53178 l D cI cJ cZ (r0 6) 225 A_0_6_column (0 : Int32) _ _ h) [1] rfl (by decide) gX8_shift_J7_fill_53178 rfl rfl rfl hd_J7_fill_53178 ⟨Nat.le_of_ble_eq_true rfl, Nat.le_of_ble_eq_true rfl⟩ rfl hl.1 rfl (Nat.le_of_ble_eq_true rfl) dX8_shift_5 ⟨Nat.le_of_ble_eq_true rfl, Nat.le_of_ble_eq_true rfl⟩) (fun u => [(h0, .inr (7, oX8 r0 I_0_size)), ((r0 6), .inl (cI, 225, .inl u)), ((r0 8), .inl (cI, 225, .inl A_0_8_base))]) (fun _ => rfl) (fun _ => rfl) (fun b4 H locs h hM => ?_)
  refine lv_iload_n hx hb dX8_shift_8 rfl (lv_at hl 1 rfl) ?_
  refine lv_istore_n (lv' := [(3, .int x1), (0, .ref h0), (1, .int x1), (2, .int x2)]) hx hb dX8_shift_9 rfl hl (by decide) rfl (fun ls hl => ?_)
  obtain ⟨k0, h⟩ := h
  exact lq10 k0 _ _ _ _ _ h hM (lv_sub hl [1, 2, 3, 0] rfl)
abbrev rm_X8_explained : Room := { frames := 1, cells := 0, slots := 0, locals := 21 }
set_option maxRecDepth 100000 in
set_option maxHeartbeats 4000000 in
theorem ct_X8_explained (l : Launch) (D : va_G) (cI cJ cZ : ClassId) (h0 : Nat) (r0 : Nat → Nat) (I_0_size : Int32) (A_0_0_steps : (Nat → Int32)) (A_0_1_lead : (Nat → Int32)) (A_0_2_end : (Nat → Int32)) (A_0_6_column : (Nat → Int32)) (A_0_7_share : (Nat → Int32)) (sz : Nat) (K : Int32 → (Nat → Int32) → (Nat → Int32) → Prop) (h : wp_X8_explained I_0_size A_0_0_steps A_0_1_lead A_0_2_end A_0_6_column A_0_7_share K) : Met l yX8_explained wsX8_explained rm_X8_explained (va_Pc [.ref h0] (WX D cI cJ cZ [(h0, .inr (7, oX8 r0 I_0_size)), ((r0 0), .inl (cI, 18900, .inl A_0_0_steps)), ((r0 1), .inl (cI, 84, .inl A_0_1_lead)), ((r0 2), .inl (cI, 84, .inl A_0_2_end)), ((r0 6), .inl (cI, 225, .inl A_0_6_column)), ((r0 7), .inl (cI, 84, .inl A_0_7_share))] sz)) (va_Qi (fun (r : Int32) (u : (Nat → Int32) × (Nat → Int32)) => K r u.1 u.2) (fun (u : (Nat → Int32) × (Nat → Int32)) t => WY D (va_A [(h0, .inr (7, oX8 r0 I_0_size)), ((r0 0), .inl (cI, 18900, .inl A_0_0_steps)), ((r0 1), .inl (cI, 84, .inl A_0_1_lead)), ((r0 2), .inl (cI, 84, .inl A_0_2_end)), ((r0 6), .inl (cI, 225, .inl A_0_6_column)), ((r0 7), .inl (cI, 84, .inl A_0_7_share))] sz) [(h0, .inr (7, oX8 r0 I_0_size)), ((r0 0), .inl (cI, 18900, .inl A_0_0_steps)), ((r0 1), .inl (cI, 84, .inl A_0_1_lead)), ((r0 2), .inl (cI, 84, .inl A_0_2_end)), ((r0 6), .inl (cI, 225, .inl u.1)), ((r0 7), .inl (cI, 84, .inl u.2))] t) (va_A [(h0, .inr (7, oX8 r0 I_0_size)), ((r0 0), .inl (cI, 18900, .inl A_0_0_steps)), ((r0 1), .inl (cI, 84, .inl A_0_1_lead)), ((r0 2), .inl (cI, 84, .inl A_0_2_end)), ((r0 6), .inl (cI, 225, .inl A_0_6_column)), ((r0 7), .inl (cI, 84, .inl A_0_7_share))] sz)) 0 0 (va_A [(h0, .inr (7, oX8 r0 I_0_size)), ((r0 0), .inl (cI, 18900, .inl A_0_0_steps)), ((r0 1), .inl (cI, 84, .inl A_0_1_lead)), ((r0 2), .inl (cI, 84, .inl A_0_2_end)), ((r0 6), .inl (cI, 225, .inl A_0_6_column)), ((r0 7), .inl (cI, 84, .inl A_0_7_share))] sz) := by
  refine m_met (own := RX8) (cc := cX8_explained) (maxL := 5) (ret := some .boolean) [.ref h0] [(0, .ref h0)] (by decide) rfl rfl (Nat.le_of_ble_eq_true rfl) rfl ?_
  intro p e s m args below meth c Q A hQ hA C0 hr hnm hsz hM ls hl
  have hx := C0.1
  have hb := C0.2.1
  have hown := C0.2.2.2.1
  have jq100 : ∀ (A_0_6_column : (Nat → Int32)) (A_0_7_share : (Nat → Int32)) (H : Heap) (locs : List Loc) (ls : Array Slot) , jn_X8_explained_100 I_0_size A_0_0_steps A_0_1_lead A_0_2_end K A_0_6_column A_0_7_share → MW D A s.heap [(h0, .inr (7, oX8 r0 I_0_size)), ((r0 0), .inl (cI, 18900, .inl A_0_0_steps)), ((r0 1), .inl (cI, 84, .inl A_0_1_lead)), ((r0 2), .inl (cI, 84, .inl A_0_2_end)), ((r0 6), .inl (cI, 225, .inl A_0_6_column)), ((r0 7), .inl (cI, 84, .inl A_0_7_share))] H locs → lv_has ls 5 [(0, .ref h0)] → W p l e rm_X8_explained s m args below meth c H locs 0 0 Q (F0 m 100 ls []) := by
    intro A_0_6_column A_0_7_share H locs ls h hM hl
    unfold jn_X8_explained_100 at h
    refine lv_aload_n hx hb dX8_explained_100 rfl (lv_at hl 0 rfl) ?_
    refine m_get (C := RX8) (T := TX8) (N := 10) (ci := 7) (ref := "LoweredPowers$Search") (v := .ref (r0 6)) C0 hM 0 rfl rfl kt_X8_explained_X8 6 (by decide) kw_X8_explained_2 rfl rfl dX8_explained_101 ?_
    refine m_calli (wc := [((r0 6), .inl (cI, 225, .inl A_0_6_column))]) C0 hM [4] rfl (m_runS (wc := [((r0 6), .inl (cI, 225, .inl A_0_6_column))]) (As := [.ref (r0 6)]) (rest := []) C0 hM (ct_X3_highest l D cI cJ cZ (r0 6) 225 A_0_6_column _ _ h) [4] rfl (by decide) gX8_explained_X3_highest rfl rfl rfl hd_X3_highest ⟨Nat.le_of_ble_eq_true rfl, Nat.le_of_ble_eq_true rfl⟩ rfl hl.1 rfl (Nat.le_of_ble_eq_true rfl) dX8_explained_104 ⟨Nat.le_of_ble_eq_true rfl, Nat.le_of_ble_eq_true rfl⟩) (fun _ => [(h0, .inr (7, oX8 r0 I_0_size)), ((r0 0), .inl (cI, 18900, .inl A_0_0_steps)), ((r0 1), .inl (cI, 84, .inl A_0_1_lead)), ((r0 2), .inl (cI, 84, .inl A_0_2_end)), ((r0 6), .inl (cI, 225, .inl A_0_6_column)), ((r0 7), .inl (cI, 84, .inl A_0_7_share))]) (fun _ => rfl) (fun _ => rfl) (fun y1 _ H locs h hM => ?_)
    refine lv_if_ge (tgt := 114) hx hb dX8_explained_107 (by decide) (fun hq => ?_) (fun hq => ?_)
    · have h := h.1 hq
      refine lv_iconst (v := (0 : Int32)) hx hb dX8_explained_114 (by decide) ?_
      subst hsz; subst hA; subst hQ
      exact m_zret C0 hr hM rfl (A_0_6_column, A_0_7_share) h rfl dX8_explained_115
    · have h := h.2 hq
      refine lv_iconst (v := (1 : Int32)) hx hb dX8_explained_110 (by decide) ?_
      refine lv_goto (tgt := 115) hx hb dX8_explained_111 (by decide) ?_
      subst hsz; subst hA; subst hQ
      exact m_zret C0 hr hM rfl (A_0_6_column, A_0_7_share) h rfl dX8_explained_115
  have lq2 : ∀ (k2 : Nat) (x1 : Int32) (A_0_6_column : (Nat → Int32)) (A_0_7_share : (Nat → Int32)) (H : Heap) (locs : List Loc) (ls : Array Slot) , lp_X8_explained_2 I_0_size A_0_0_steps A_0_1_lead A_0_2_end (jn_X8_explained_100 I_0_size A_0_0_steps A_0_1_lead A_0_2_end K) K k2 x1 A_0_6_column A_0_7_share → MW D A s.heap [(h0, .inr (7, oX8 r0 I_0_size)), ((r0 0), .inl (cI, 18900, .inl A_0_0_steps)), ((r0 1), .inl (cI, 84, .inl A_0_1_lead)), ((r0 2), .inl (cI, 84, .inl A_0_2_end)), ((r0 6), .inl (cI, 225, .inl A_0_6_column)), ((r0 7), .inl (cI, 84, .inl A_0_7_share))] H locs → lv_has ls 5 [(0, .ref h0), (1, .int x1)] → W p l e rm_X8_explained s m args below meth c H locs 0 0 Q (F0 m 2 ls []) := by
    intro k2
    induction k2 with
    | zero =>
      intro x1 A_0_6_column A_0_7_share H locs ls h
      unfold lp_X8_explained_2 at h
      exact h.elim
    | succ k2 ih2 =>
      have jq94 : ∀ (x1 : Int32) (A_0_6_column : (Nat → Int32)) (A_0_7_share : (Nat → Int32)) (H : Heap) (locs : List Loc) (ls : Array Slot) , jn_X8_explained_94 I_0_size A_0_0_steps A_0_1_lead A_0_2_end (fun x1 A_0_6_column A_0_7_share => lp_X8_explained_2 I_0_size A_0_0_steps A_0_1_lead A_0_2_end (jn_X8_explained_100 I_0_size A_0_0_steps A_0_1_lead A_0_2_end K) K k2 x1 A_0_6_column A_0_7_share) (jn_X8_explained_100 I_0_size A_0_0_steps A_0_1_lead A_0_2_end K) K x1 A_0_6_column A_0_7_share → MW D A s.heap [(h0, .inr (7, oX8 r0 I_0_size)), ((r0 0), .inl (cI, 18900, .inl A_0_0_steps)), ((r0 1), .inl (cI, 84, .inl A_0_1_lead)), ((r0 2), .inl (cI, 84, .inl A_0_2_end)), ((r0 6), .inl (cI, 225, .inl A_0_6_column)), ((r0 7), .inl (cI, 84, .inl A_0_7_share))] H locs → lv_has ls 5 [(0, .ref h0), (1, .int x1)] → W p l e rm_X8_explained s m args below meth c H locs 0 0 Q (F0 m 94 ls []) := by
        intro x1 A_0_6_column A_0_7_share H locs ls h hM hl
        unfold jn_X8_explained_94 at h
        refine lv_iinc (v := (x1 + (1 : Int32))) (lv' := [(1, .int (x1 + (1 : Int32))), (0, .ref h0)]) hx hb dX8_explained_94 hl (k := 1) rfl rfl (by decide) rfl (fun ls hl => ?_)
        refine lv_goto (tgt := 2) hx hb dX8_explained_97 (by decide) ?_
        exact ih2 _ _ _ _ _ _ h hM (lv_sub hl [1, 0] rfl)
      have lq47 : ∀ (k47 : Nat) (x1 : Int32) (x2 : Int32) (x3 : Int32) (x4 : Int32) (A_0_6_column : (Nat → Int32)) (A_0_7_share : (Nat → Int32)) (H : Heap) (locs : List Loc) (ls : Array Slot) , lp_X8_explained_47 I_0_size A_0_0_steps A_0_1_lead A_0_2_end (jn_X8_explained_94 I_0_size A_0_0_steps A_0_1_lead A_0_2_end (fun x1 A_0_6_column A_0_7_share => lp_X8_explained_2 I_0_size A_0_0_steps A_0_1_lead A_0_2_end (jn_X8_explained_100 I_0_size A_0_0_steps A_0_1_lead A_0_2_end K) K k2 x1 A_0_6_column A_0_7_share) (jn_X8_explained_100 I_0_size A_0_0_steps A_0_1_lead A_0_2_end K) K) K k47 x1 x2 x3 x4 A_0_6_column A_0_7_share → MW D A s.heap [(h0, .inr (7, oX8 r0 I_0_size)), ((r0 0), .inl (cI, 18900, .inl A_0_0_steps)), ((r0 1), .inl (cI, 84, .inl A_0_1_lead)), ((r0 2), .inl (cI, 84, .inl A_0_2_end)), ((r0 6), .inl (cI, 225, .inl A_0_6_column)), ((r0 7), .inl (cI, 84, .inl A_0_7_share))] H locs → lv_has ls 5 [(0, .ref h0), (1, .int x1), (2, .int x2), (3, .int x3), (4, .int x4)] → W p l e rm_X8_explained s m args below meth c H locs 0 0 Q (F0 m 47 ls []) := by
        intro k47
        induction k47 with
        | zero =>
          intro x1 x2 x3 x4 A_0_6_column A_0_7_share H locs ls h
          unfold lp_X8_explained_47 at h
          exact h.elim
        | succ k47 ih47 =>
          intro x1 x2 x3 x4 A_0_6_column A_0_7_share H locs ls h hM hl
          unfold lp_X8_explained_47 at h
          refine lv_iload hx hb dX8_explained_47 (lv_at hl 4 rfl) ?_
          refine lv_aload_n hx hb dX8_explained_49 rfl (lv_at hl 0 rfl) ?_
          refine m_get (C := RX8) (T := TX8) (N := 10) (ci := 7) (ref := "LoweredPowers$Search") (v := .ref (r0 2)) C0 hM 0 rfl rfl kt_X8_explained_X8 2 (by decide) kw_X8_explained_5 rfl rfl dX8_explained_50 ?_
          refine lv_iload_n hx hb dX8_explained_53 rfl (lv_at hl 1 rfl) ?_
          obtain ⟨hc2, h⟩ := h
          refine m_iald C0 hM 3 rfl hc2 dX8_explained_54 ?_
          refine lv_icmp_gt (tgt := 94) hx hb dX8_explained_55 (by decide) (fun hq => ?_) (fun hq => ?_)
          · have h := h.1 hq
            exact jq94 _ _ _ _ _ _ h hM (lv_sub hl [0, 1] rfl)
          · have h := h.2 hq
            refine lv_aload_n hx hb dX8_explained_58 rfl (lv_at hl 0 rfl) ?_
            refine m_get (C := RX8) (T := TX8) (N := 10) (ci := 7) (ref := "LoweredPowers$Search") (v := .ref (r0 6)) C0 hM 0 rfl rfl kt_X8_explained_X8 6 (by decide) kw_X8_explained_2 rfl rfl dX8_explained_59 ?_
            refine lv_iload hx hb dX8_explained_62 (lv_at hl 4 rfl) ?_
            refine lv_aload_n hx hb dX8_explained_64 rfl (lv_at hl 0 rfl) ?_
            refine m_get (C := RX8) (T := TX8) (N := 10) (ci := 7) (ref := "LoweredPowers$Search") (v := .ref (r0 6)) C0 hM 0 rfl rfl kt_X8_explained_X8 6 (by decide) kw_X8_explained_2 rfl rfl dX8_explained_65 ?_
            refine lv_iload hx hb dX8_explained_68 (lv_at hl 4 rfl) ?_
            obtain ⟨hc3, h⟩ := h
            refine m_iald C0 hM 4 rfl hc3 dX8_explained_70 ?_
            refine lv_iload_n hx hb dX8_explained_71 rfl (lv_at hl 2 rfl) ?_
            refine lv_aload_n hx hb dX8_explained_72 rfl (lv_at hl 0 rfl) ?_
            refine m_get (C := RX8) (T := TX8) (N := 10) (ci := 7) (ref := "LoweredPowers$Search") (v := .ref (r0 0)) C0 hM 0 rfl rfl kt_X8_explained_X8 0 (by decide) kw_X8_explained_6 rfl rfl dX8_explained_73 ?_
            refine lv_iload_n hx hb dX8_explained_76 rfl (lv_at hl 3 rfl) ?_
            refine lv_iload hx hb dX8_explained_77 (lv_at hl 4 rfl) ?_
            refine lv_iadd hx hb dX8_explained_79 ?_
            obtain ⟨hc4, h⟩ := h
            refine m_iald C0 hM 1 rfl hc4 dX8_explained_80 ?_
            refine lv_imul hx hb dX8_explained_81 ?_
            refine lv_isub hx hb dX8_explained_82 ?_
            refine lv_sipush (v := (10007 : Int32)) hx hb dX8_explained_83 (by decide) ?_
            refine lv_irem hx hb dX8_explained_86 (by decide) ?_
            refine lv_topi (fun y5 ey5 => ?_)
            have h := h y5 ey5
            refine m_iast (ws' := [(h0, .inr (7, oX8 r0 I_0_size)), ((r0 0), .inl (cI, 18900, .inl A_0_0_steps)), ((r0 1), .inl (cI, 84, .inl A_0_1_lead)), ((r0 2), .inl (cI, 84, .inl A_0_2_end)), ((r0 6), .inl (cI, 225, .inl (upd A_0_6_column (x4).toNatClampNeg y5))), ((r0 7), .inl (cI, 84, .inl A_0_7_share))]) C0 hM 4 rfl hc3 rfl dX8_explained_87 (fun H locs hM => ?_)
            refine lv_iinc (v := (x4 + (1 : Int32))) (lv' := [(4, .int (x4 + (1 : Int32))), (0, .ref h0), (1, .int x1), (2, .int x2), (3, .int x3)]) hx hb dX8_explained_88 hl (k := 4) rfl rfl (by decide) rfl (fun ls hl => ?_)
            refine lv_goto (tgt := 47) hx hb dX8_explained_91 (by decide) ?_
            exact ih47 _ _ _ _ _ _ _ _ _ h hM (lv_sub hl [1, 2, 3, 4, 0] rfl)
      intro x1 A_0_6_column A_0_7_share H locs ls h hM hl
      unfold lp_X8_explained_2 at h
      refine lv_iload_n hx hb dX8_explained_2 rfl (lv_at hl 1 rfl) ?_
      refine lv_aload_n hx hb dX8_explained_3 rfl (lv_at hl 0 rfl) ?_
      refine m_get (C := RX8) (T := TX8) (N := 10) (ci := 7) (ref := "LoweredPowers$Search") (v := .int I_0_size) C0 hM 0 rfl rfl kt_X8_explained_X8 9 (by decide) kw_X8_explained_1 rfl rfl dX8_explained_4 ?_
      refine lv_icmp_ge (tgt := 100) hx hb dX8_explained_7 (by decide) (fun hq => ?_) (fun hq => ?_)
      · have h := h.1 hq
        exact jq100 _ _ _ _ _ h hM (lv_sub hl [0] rfl)
      · have h := h.2 hq
        refine lv_aload_n hx hb dX8_explained_10 rfl (lv_at hl 0 rfl) ?_
        refine m_get (C := RX8) (T := TX8) (N := 10) (ci := 7) (ref := "LoweredPowers$Search") (v := .ref (r0 6)) C0 hM 0 rfl rfl kt_X8_explained_X8 6 (by decide) kw_X8_explained_2 rfl rfl dX8_explained_11 ?_
        refine lv_aload_n hx hb dX8_explained_14 rfl (lv_at hl 0 rfl) ?_
        refine m_get (C := RX8) (T := TX8) (N := 10) (ci := 7) (ref := "LoweredPowers$Search") (v := .ref (r0 1)) C0 hM 0 rfl rfl kt_X8_explained_X8 1 (by decide) kw_X8_explained_3 rfl rfl dX8_explained_15 ?_
        refine lv_iload_n hx hb dX8_explained_18 rfl (lv_at hl 1 rfl) ?_
        obtain ⟨hc6, h⟩ := h
        refine m_iald C0 hM 2 rfl hc6 dX8_explained_19 ?_
        obtain ⟨hc7, h⟩ := h
        refine m_iald C0 hM 4 rfl hc7 dX8_explained_20 ?_
        refine lv_topi (fun y8 ey8 => ?_)
        have h := h y8 ey8
        refine lv_istore_n (lv' := [(2, .int y8), (0, .ref h0), (1, .int x1)]) hx hb dX8_explained_21 rfl hl (by decide) rfl (fun ls hl => ?_)
        refine lv_aload_n hx hb dX8_explained_22 rfl (lv_at hl 1 rfl) ?_
        refine m_get (C := RX8) (T := TX8) (N := 10) (ci := 7) (ref := "LoweredPowers$Search") (v := .ref (r0 7)) C0 hM 0 rfl rfl kt_X8_explained_X8 7 (by decide) kw_X8_explained_4 rfl rfl dX8_explained_23 ?_
        refine lv_iload_n hx hb dX8_explained_26 rfl (lv_at hl 2 rfl) ?_
        refine lv_iload_n hx hb dX8_explained_27 rfl (lv_at hl 0 rfl) ?_
        refine m_iast (ws' := [(h0, .inr (7, oX8 r0 I_0_size)), ((r0 0), .inl (cI, 18900, .inl A_0_0_steps)), ((r0 1), .inl (cI, 84, .inl A_0_1_lead)), ((r0 2), .inl (cI, 84, .inl A_0_2_end)), ((r0 6), .inl (cI, 225, .inl A_0_6_column)), ((r0 7), .inl (cI, 84, .inl (upd A_0_7_share (x1).toNatClampNeg y8)))]) C0 hM 5 rfl hc6 rfl dX8_explained_28 (fun H locs hM => ?_)
        refine lv_iload_n hx hb dX8_explained_29 rfl (lv_at hl 0 rfl) ?_
        refine lv_if_eq (tgt := 94) hx hb dX8_explained_30 (by decide) (fun hq => ?_) (fun hq => ?_)
        · have h := h.1 hq
          exact jq94 _ _ _ _ _ _ h hM (lv_sub hl [1, 2] rfl)
        · have h := h.2 hq
          refine lv_iload_n hx hb dX8_explained_33 rfl (lv_at hl 2 rfl) ?_
          refine lv_sipush (v := (225 : Int32)) hx hb dX8_explained_34 (by decide) ?_
          refine lv_imul hx hb dX8_explained_37 ?_
          refine lv_topi (fun y9 ey9 => ?_)
          have h := h y9 ey9
          refine lv_istore_n (lv' := [(3, .int y9), (2, .int y8), (0, .ref h0), (1, .int x1)]) hx hb dX8_explained_38 rfl hl (by decide) rfl (fun ls hl => ?_)
          refine lv_aload_n hx hb dX8_explained_39 rfl (lv_at hl 2 rfl) ?_
          refine m_get (C := RX8) (T := TX8) (N := 10) (ci := 7) (ref := "LoweredPowers$Search") (v := .ref (r0 1)) C0 hM 0 rfl rfl kt_X8_explained_X8 1 (by decide) kw_X8_explained_3 rfl rfl dX8_explained_40 ?_
          refine lv_iload_n hx hb dX8_explained_43 rfl (lv_at hl 3 rfl) ?_
          refine m_iald C0 hM 2 rfl hc6 dX8_explained_44 ?_
          refine lv_topi (fun y10 ey10 => ?_)
          have h := h y10 ey10
          refine lv_istore (lv' := [(4, .int y10), (3, .int y9), (2, .int y8), (0, .ref h0), (1, .int x1)]) hx hb dX8_explained_45 hl (by decide) rfl (fun ls hl => ?_)
          obtain ⟨k0, h⟩ := h
          exact lq47 k0 _ _ _ _ _ _ _ _ _ h hM (lv_sub hl [3, 4, 2, 1, 0] rfl)
  unfold wp_X8_explained at h
  refine lv_iconst (v := (0 : Int32)) hx hb dX8_explained_0 (by decide) ?_
  refine lv_istore_n (lv' := [(1, .int (0 : Int32)), (0, .ref h0)]) hx hb dX8_explained_1 rfl hl (by decide) rfl (fun ls hl => ?_)
  obtain ⟨k0, h⟩ := h
  exact lq2 k0 _ _ _ _ _ _ h hM (lv_sub hl [1, 0] rfl)
abbrev rm_X8_firstOther : Room := { frames := 0, cells := 0, slots := 0, locals := 0 }
set_option maxRecDepth 100000 in
set_option maxHeartbeats 4000000 in
theorem ct_X8_firstOther (l : Launch) (D : va_G) (cI cJ cZ : ClassId) (h0 : Nat) (r0 : Nat → Nat) (I_0_size : Int32) (A_0_6_column : (Nat → Int32)) (sz : Nat) (K : Int32 → Prop) (h : wp_X8_firstOther A_0_6_column K) : Met l yX8_firstOther wsX8_firstOther rm_X8_firstOther (va_Pc [.ref h0] (WX D cI cJ cZ [(h0, .inr (7, oX8 r0 I_0_size)), ((r0 6), .inl (cI, 225, .inl A_0_6_column))] sz)) (va_Qi (fun (r : Int32) (_ : Unit) => K r ) (fun (_ : Unit) t => WY D (va_A [(h0, .inr (7, oX8 r0 I_0_size)), ((r0 6), .inl (cI, 225, .inl A_0_6_column))] sz) [(h0, .inr (7, oX8 r0 I_0_size)), ((r0 6), .inl (cI, 225, .inl A_0_6_column))] t) (va_A [(h0, .inr (7, oX8 r0 I_0_size)), ((r0 6), .inl (cI, 225, .inl A_0_6_column))] sz)) 0 0 (va_A [(h0, .inr (7, oX8 r0 I_0_size)), ((r0 6), .inl (cI, 225, .inl A_0_6_column))] sz) := by
  refine m_met (own := RX8) (cc := cX8_firstOther) (maxL := 2) (ret := some .int) [.ref h0] [(0, .ref h0)] (by decide) rfl rfl (Nat.le_of_ble_eq_true rfl) rfl ?_
  intro p e s m args below meth c Q A hQ hA C0 hr hnm hsz hM ls hl
  have hx := C0.1
  have hb := C0.2.1
  have hown := C0.2.2.2.1
  have lq2 : ∀ (k2 : Nat) (x1 : Int32) (H : Heap) (locs : List Loc) (ls : Array Slot) , lp_X8_firstOther_2 A_0_6_column K k2 x1 → MW D A s.heap [(h0, .inr (7, oX8 r0 I_0_size)), ((r0 6), .inl (cI, 225, .inl A_0_6_column))] H locs → lv_has ls 2 [(0, .ref h0), (1, .int x1)] → W p l e rm_X8_firstOther s m args below meth c H locs 0 0 Q (F0 m 2 ls []) := by
    intro k2
    induction k2 with
    | zero =>
      intro x1 H locs ls h
      unfold lp_X8_firstOther_2 at h
      exact h.elim
    | succ k2 ih2 =>
      intro x1 H locs ls h hM hl
      unfold lp_X8_firstOther_2 at h
      refine lv_iload_n hx hb dX8_firstOther_2 rfl (lv_at hl 1 rfl) ?_
      refine lv_sipush (v := (225 : Int32)) hx hb dX8_firstOther_3 (by decide) ?_
      refine lv_icmp_ge (tgt := 26) hx hb dX8_firstOther_6 (by decide) (fun hq => ?_) (fun hq => ?_)
      · have h := h.1 hq
        refine lv_iconst (v := (-1 : Int32)) hx hb dX8_firstOther_26 (by decide) ?_
        subst hsz; subst hA; subst hQ
        exact m_iret C0 hr hM () h rfl dX8_firstOther_27
      · have h := h.2 hq
        refine lv_aload_n hx hb dX8_firstOther_9 rfl (lv_at hl 0 rfl) ?_
        refine m_get (C := RX8) (T := TX8) (N := 10) (ci := 7) (ref := "LoweredPowers$Search") (v := .ref (r0 6)) C0 hM 0 rfl rfl kt_X8_firstOther_X8 6 (by decide) kw_X8_firstOther_1 rfl rfl dX8_firstOther_10 ?_
        refine lv_iload_n hx hb dX8_firstOther_13 rfl (lv_at hl 1 rfl) ?_
        obtain ⟨hc1, h⟩ := h
        refine m_iald C0 hM 1 rfl hc1 dX8_firstOther_14 ?_
        refine lv_if_eq (tgt := 20) hx hb dX8_firstOther_15 (by decide) (fun hq => ?_) (fun hq => ?_)
        · have h := h.1 hq
          refine lv_iinc (v := (x1 + (1 : Int32))) (lv' := [(1, .int (x1 + (1 : Int32))), (0, .ref h0)]) hx hb dX8_firstOther_20 hl (k := 1) rfl rfl (by decide) rfl (fun ls hl => ?_)
          refine lv_goto (tgt := 2) hx hb dX8_firstOther_23 (by decide) ?_
          exact ih2 _ _ _ _ h hM (lv_sub hl [1, 0] rfl)
        · have h := h.2 hq
          refine lv_iload_n hx hb dX8_firstOther_18 rfl (lv_at hl 1 rfl) ?_
          subst hsz; subst hA; subst hQ
          exact m_iret C0 hr hM () h rfl dX8_firstOther_19
  unfold wp_X8_firstOther at h
  refine lv_iconst (v := (0 : Int32)) hx hb dX8_firstOther_0 (by decide) ?_
  refine lv_istore_n (lv' := [(1, .int (0 : Int32)), (0, .ref h0)]) hx hb dX8_firstOther_1 rfl hl (by decide) rfl (fun ls hl => ?_)
  obtain ⟨k0, h⟩ := h
  exact lq2 k0 _ _ _ _ h hM (lv_sub hl [1, 0] rfl)
abbrev rm_X8_keep : Room := { frames := 2, cells := 0, slots := 0, locals := 45 }
set_option maxRecDepth 100000 in
set_option maxHeartbeats 4000000 in
theorem ct_X8_keep (l : Launch) (D : va_G) (cI cJ cZ : ClassId) (h0 : Nat) (r0 : Nat → Nat) (I_0_size : Int32) (A_0_0_steps : (Nat → Int32)) (A_0_1_lead : (Nat → Int32)) (A_0_2_end : (Nat → Int32)) (A_0_3_source : (Nat → Int32)) (A_0_4_scale : (Nat → Int32)) (A_0_5_shares : (Nat → Int32)) (A_0_6_column : (Nat → Int32)) (A_0_7_share : (Nat → Int32)) (x1 : Int32) (sz : Nat) (K : Int32 → (Nat → Int32) → (Nat → Int32) → (Nat → Int32) → (Nat → Int32) → (Nat → Int32) → (Nat → Int32) → Prop) (h : wp_X8_keep x1 I_0_size A_0_0_steps A_0_1_lead A_0_2_end A_0_3_source A_0_4_scale A_0_5_shares A_0_6_column A_0_7_share K) : Met l yX8_keep wsX8_keep rm_X8_keep (va_Pc [.ref h0, .int x1] (WX D cI cJ cZ [(h0, .inr (7, oX8 r0 I_0_size)), ((r0 0), .inl (cI, 18900, .inl A_0_0_steps)), ((r0 1), .inl (cI, 84, .inl A_0_1_lead)), ((r0 2), .inl (cI, 84, .inl A_0_2_end)), ((r0 3), .inl (cI, 84, .inl A_0_3_source)), ((r0 4), .inl (cI, 84, .inl A_0_4_scale)), ((r0 5), .inl (cI, 7056, .inl A_0_5_shares)), ((r0 6), .inl (cI, 225, .inl A_0_6_column)), ((r0 7), .inl (cI, 84, .inl A_0_7_share))] sz)) (va_Qv (fun (u : Int32 × (Nat → Int32) × (Nat → Int32) × (Nat → Int32) × (Nat → Int32) × (Nat → Int32) × (Nat → Int32)) => K u.1 u.2.1 u.2.2.1 u.2.2.2.1 u.2.2.2.2.1 u.2.2.2.2.2.1 u.2.2.2.2.2.2) (fun (u : Int32 × (Nat → Int32) × (Nat → Int32) × (Nat → Int32) × (Nat → Int32) × (Nat → Int32) × (Nat → Int32)) t => WY D (va_A [(h0, .inr (7, oX8 r0 I_0_size)), ((r0 0), .inl (cI, 18900, .inl A_0_0_steps)), ((r0 1), .inl (cI, 84, .inl A_0_1_lead)), ((r0 2), .inl (cI, 84, .inl A_0_2_end)), ((r0 3), .inl (cI, 84, .inl A_0_3_source)), ((r0 4), .inl (cI, 84, .inl A_0_4_scale)), ((r0 5), .inl (cI, 7056, .inl A_0_5_shares)), ((r0 6), .inl (cI, 225, .inl A_0_6_column)), ((r0 7), .inl (cI, 84, .inl A_0_7_share))] sz) [(h0, .inr (7, oX8 r0 u.1)), ((r0 0), .inl (cI, 18900, .inl u.2.1)), ((r0 1), .inl (cI, 84, .inl u.2.2.1)), ((r0 2), .inl (cI, 84, .inl u.2.2.2.1)), ((r0 3), .inl (cI, 84, .inl u.2.2.2.2.1)), ((r0 4), .inl (cI, 84, .inl u.2.2.2.2.2.1)), ((r0 5), .inl (cI, 7056, .inl u.2.2.2.2.2.2)), ((r0 6), .inl (cI, 225, .inl A_0_6_column)), ((r0 7), .inl (cI, 84, .inl A_0_7_share))] t) (va_A [(h0, .inr (7, oX8 r0 I_0_size)), ((r0 0), .inl (cI, 18900, .inl A_0_0_steps)), ((r0 1), .inl (cI, 84, .inl A_0_1_lead)), ((r0 2), .inl (cI, 84, .inl A_0_2_end)), ((r0 3), .inl (cI, 84, .inl A_0_3_source)), ((r0 4), .inl (cI, 84, .inl A_0_4_scale)), ((r0 5), .inl (cI, 7056, .inl A_0_5_shares)), ((r0 6), .inl (cI, 225, .inl A_0_6_column)), ((r0 7), .inl (cI, 84, .inl A_0_7_share))] sz)) 0 0 (va_A [(h0, .inr (7, oX8 r0 I_0_size)), ((r0 0), .inl (cI, 18900, .inl A_0_0_steps)), ((r0 1), .inl (cI, 84, .inl A_0_1_lead)), ((r0 2), .inl (cI, 84, .inl A_0_2_end)), ((r0 3), .inl (cI, 84, .inl A_0_3_source)), ((r0 4), .inl (cI, 84, .inl A_0_4_scale)), ((r0 5), .inl (cI, 7056, .inl A_0_5_shares)), ((r0 6), .inl (cI, 225, .inl A_0_6_column)), ((r0 7), .inl (cI, 84, .inl A_0_7_share))] sz) := by
  refine m_met (own := RX8) (cc := cX8_keep) (maxL := 4) (ret := none) [.ref h0, .int x1] [(0, .ref h0), (1, .int x1)] (by decide) rfl rfl (Nat.le_of_ble_eq_true rfl) rfl ?_
  intro p e s m args below meth c Q A hQ hA C0 hr hnm hsz hM ls hl
  have hx := C0.1
  have hb := C0.2.1
  have hown := C0.2.2.2.1
  have jq124 : ∀ (I_0_size : Int32) (A_0_0_steps : (Nat → Int32)) (A_0_1_lead : (Nat → Int32)) (A_0_2_end : (Nat → Int32)) (A_0_3_source : (Nat → Int32)) (A_0_4_scale : (Nat → Int32)) (A_0_5_shares : (Nat → Int32)) (H : Heap) (locs : List Loc) (ls : Array Slot) , jn_X8_keep_124 x1 A_0_6_column A_0_7_share K I_0_size A_0_0_steps A_0_1_lead A_0_2_end A_0_3_source A_0_4_scale A_0_5_shares → MW D A s.heap [(h0, .inr (7, oX8 r0 I_0_size)), ((r0 0), .inl (cI, 18900, .inl A_0_0_steps)), ((r0 1), .inl (cI, 84, .inl A_0_1_lead)), ((r0 2), .inl (cI, 84, .inl A_0_2_end)), ((r0 3), .inl (cI, 84, .inl A_0_3_source)), ((r0 4), .inl (cI, 84, .inl A_0_4_scale)), ((r0 5), .inl (cI, 7056, .inl A_0_5_shares)), ((r0 6), .inl (cI, 225, .inl A_0_6_column)), ((r0 7), .inl (cI, 84, .inl A_0_7_share))] H locs → lv_has ls 4 [(0, .ref h0)] → W p l e rm_X8_keep s m args below meth c H locs 0 0 Q (F0 m 124 ls []) := by
    intro I_0_size A_0_0_steps A_0_1_lead A_0_2_end A_0_3_source A_0_4_scale A_0_5_shares H locs ls h hM hl
    unfold jn_X8_keep_124 at h
    refine lv_aload_n hx hb dX8_keep_124 rfl (lv_at hl 0 rfl) ?_
    refine m_get (C := RX8) (T := TX8) (N := 10) (ci := 7) (ref := "LoweredPowers$Search") (v := .ref (r0 7)) C0 hM 0 rfl rfl kt_X8_keep_X8 7 (by decide) kw_X8_keep_8 rfl rfl dX8_keep_125 ?_
    refine lv_iconst (v := (0 : Int32)) hx hb dX8_keep_128 (by decide) ?_
    refine lv_aload_n hx hb dX8_keep_129 rfl (lv_at hl 0 rfl) ?_
    refine m_get (C := RX8) (T := TX8) (N := 10) (ci := 7) (ref := "LoweredPowers$Search") (v := .ref (r0 5)) C0 hM 0 rfl rfl kt_X8_keep_X8 5 (by decide) kw_X8_keep_9 rfl rfl dX8_keep_130 ?_
    refine lv_aload_n hx hb dX8_keep_133 rfl (lv_at hl 0 rfl) ?_
    refine m_get (C := RX8) (T := TX8) (N := 10) (ci := 7) (ref := "LoweredPowers$Search") (v := .int I_0_size) C0 hM 0 rfl rfl kt_X8_keep_X8 9 (by decide) kw_X8_keep_1 rfl rfl dX8_keep_134 ?_
    refine lv_bipush (v := (84 : Int32)) hx hb dX8_keep_137 (by decide) ?_
    refine lv_imul hx hb dX8_keep_139 ?_
    refine lv_aload_n hx hb dX8_keep_140 rfl (lv_at hl 0 rfl) ?_
    refine m_get (C := RX8) (T := TX8) (N := 10) (ci := 7) (ref := "LoweredPowers$Search") (v := .int I_0_size) C0 hM 0 rfl rfl kt_X8_keep_X8 9 (by decide) kw_X8_keep_1 rfl rfl dX8_keep_141 ?_
    obtain ⟨hc1, h⟩ := h
    refine m_copyi (ws' := [(h0, .inr (7, oX8 r0 I_0_size)), ((r0 0), .inl (cI, 18900, .inl A_0_0_steps)), ((r0 1), .inl (cI, 84, .inl A_0_1_lead)), ((r0 2), .inl (cI, 84, .inl A_0_2_end)), ((r0 3), .inl (cI, 84, .inl A_0_3_source)), ((r0 4), .inl (cI, 84, .inl A_0_4_scale)), ((r0 5), .inl (cI, 7056, .inl (va_cpy A_0_7_share A_0_5_shares ((0 : Int32)).toNatClampNeg ((I_0_size * (84 : Int32))).toNatClampNeg (I_0_size).toNatClampNeg))), ((r0 6), .inl (cI, 225, .inl A_0_6_column)), ((r0 7), .inl (cI, 84, .inl A_0_7_share))]) C0 hM hl.1 kw_X8_keep_10 kw_X8_keep_11 kw_X8_keep_12 kw_X8_keep_13 8 6 rfl rfl hc1 (Nat.le_of_ble_eq_true rfl) (Nat.le_of_ble_eq_true rfl) rfl dX8_keep_144 (fun H locs hM => ?_)
    refine lv_aload_n hx hb dX8_keep_147 rfl (lv_at hl 0 rfl) ?_
    refine lv_dup hx hb dX8_keep_148 rfl ?_
    refine m_get (C := RX8) (T := TX8) (N := 10) (ci := 7) (ref := "LoweredPowers$Search") (v := .int I_0_size) C0 hM 0 rfl rfl kt_X8_keep_X8 9 (by decide) kw_X8_keep_1 rfl rfl dX8_keep_149 ?_
    refine lv_iconst (v := (1 : Int32)) hx hb dX8_keep_152 (by decide) ?_
    refine lv_iadd hx hb dX8_keep_153 ?_
    refine lv_topi (fun y2 ey2 => ?_)
    have h := h y2 ey2
    refine m_put (ws' := [(h0, .inr (7, oX8 r0 y2)), ((r0 0), .inl (cI, 18900, .inl A_0_0_steps)), ((r0 1), .inl (cI, 84, .inl A_0_1_lead)), ((r0 2), .inl (cI, 84, .inl A_0_2_end)), ((r0 3), .inl (cI, 84, .inl A_0_3_source)), ((r0 4), .inl (cI, 84, .inl A_0_4_scale)), ((r0 5), .inl (cI, 7056, .inl (va_cpy A_0_7_share A_0_5_shares ((0 : Int32)).toNatClampNeg ((I_0_size * (84 : Int32))).toNatClampNeg (I_0_size).toNatClampNeg))), ((r0 6), .inl (cI, 225, .inl A_0_6_column)), ((r0 7), .inl (cI, 84, .inl A_0_7_share))]) (C := RX8) (T := TX8) (N := 10) (ci := 7) (ref := "LoweredPowers$Search") (v := .int y2) C0 hM 0 rfl rfl kt_X8_keep_X8 tyX8 tyX8_ok nmX8 9 (by decide) kw_X8_keep_1 rfl rfl rfl rfl (Nat.le_of_ble_eq_true rfl) rfl dX8_keep_154 (fun H locs hM => ?_)
    subst hsz; subst hA; subst hQ
    exact m_vret C0 hr hM (y2, A_0_0_steps, A_0_1_lead, A_0_2_end, A_0_3_source, A_0_4_scale, (va_cpy A_0_7_share A_0_5_shares ((0 : Int32)).toNatClampNeg ((I_0_size * (84 : Int32))).toNatClampNeg (I_0_size).toNatClampNeg)) h rfl dX8_keep_157
  have lq75 : ∀ (k75 : Nat) (x3 : Int32) (I_0_size : Int32) (A_0_0_steps : (Nat → Int32)) (A_0_1_lead : (Nat → Int32)) (A_0_2_end : (Nat → Int32)) (A_0_3_source : (Nat → Int32)) (A_0_4_scale : (Nat → Int32)) (A_0_5_shares : (Nat → Int32)) (H : Heap) (locs : List Loc) (ls : Array Slot) , lp_X8_keep_75 x1 A_0_6_column A_0_7_share (jn_X8_keep_124 x1 A_0_6_column A_0_7_share K) K k75 x3 I_0_size A_0_0_steps A_0_1_lead A_0_2_end A_0_3_source A_0_4_scale A_0_5_shares → MW D A s.heap [(h0, .inr (7, oX8 r0 I_0_size)), ((r0 0), .inl (cI, 18900, .inl A_0_0_steps)), ((r0 1), .inl (cI, 84, .inl A_0_1_lead)), ((r0 2), .inl (cI, 84, .inl A_0_2_end)), ((r0 3), .inl (cI, 84, .inl A_0_3_source)), ((r0 4), .inl (cI, 84, .inl A_0_4_scale)), ((r0 5), .inl (cI, 7056, .inl A_0_5_shares)), ((r0 6), .inl (cI, 225, .inl A_0_6_column)), ((r0 7), .inl (cI, 84, .inl A_0_7_share))] H locs → lv_has ls 4 [(0, .ref h0), (3, .int x3)] → W p l e rm_X8_keep s m args below meth c H locs 0 0 Q (F0 m 75 ls []) := by
    intro k75
    induction k75 with
    | zero =>
      intro x3 I_0_size A_0_0_steps A_0_1_lead A_0_2_end A_0_3_source A_0_4_scale A_0_5_shares H locs ls h
      unfold lp_X8_keep_75 at h
      exact h.elim
    | succ k75 ih75 =>
      intro x3 I_0_size A_0_0_steps A_0_1_lead A_0_2_end A_0_3_source A_0_4_scale A_0_5_shares H locs ls h hM hl
      unfold lp_X8_keep_75 at h
      refine lv_iload_n hx hb dX8_keep_75 rfl (lv_at hl 1 rfl) ?_
      refine lv_sipush (v := (225 : Int32)) hx hb dX8_keep_76 (by decide) ?_
      refine lv_icmp_ge (tgt := 124) hx hb dX8_keep_79 (by decide) (fun hq => ?_) (fun hq => ?_)
      · have h := h.1 hq
        exact jq124 _ _ _ _ _ _ _ _ _ _ h hM (lv_sub hl [0] rfl)
      · have h := h.2 hq
        refine lv_aload_n hx hb dX8_keep_82 rfl (lv_at hl 0 rfl) ?_
        refine m_get (C := RX8) (T := TX8) (N := 10) (ci := 7) (ref := "LoweredPowers$Search") (v := .ref (r0 0)) C0 hM 0 rfl rfl kt_X8_keep_X8 0 (by decide) kw_X8_keep_7 rfl rfl dX8_keep_83 ?_
        refine lv_aload_n hx hb dX8_keep_86 rfl (lv_at hl 0 rfl) ?_
        refine m_get (C := RX8) (T := TX8) (N := 10) (ci := 7) (ref := "LoweredPowers$Search") (v := .int I_0_size) C0 hM 0 rfl rfl kt_X8_keep_X8 9 (by decide) kw_X8_keep_1 rfl rfl dX8_keep_87 ?_
        refine lv_sipush (v := (225 : Int32)) hx hb dX8_keep_90 (by decide) ?_
        refine lv_imul hx hb dX8_keep_93 ?_
        refine lv_iload_n hx hb dX8_keep_94 rfl (lv_at hl 1 rfl) ?_
        refine lv_iadd hx hb dX8_keep_95 ?_
        refine lv_aload_n hx hb dX8_keep_96 rfl (lv_at hl 0 rfl) ?_
        refine m_get (C := RX8) (T := TX8) (N := 10) (ci := 7) (ref := "LoweredPowers$Search") (v := .ref (r0 4)) C0 hM 0 rfl rfl kt_X8_keep_X8 4 (by decide) kw_X8_keep_6 rfl rfl dX8_keep_97 ?_
        refine lv_aload_n hx hb dX8_keep_100 rfl (lv_at hl 0 rfl) ?_
        refine m_get (C := RX8) (T := TX8) (N := 10) (ci := 7) (ref := "LoweredPowers$Search") (v := .int I_0_size) C0 hM 0 rfl rfl kt_X8_keep_X8 9 (by decide) kw_X8_keep_1 rfl rfl dX8_keep_101 ?_
        obtain ⟨hc3, h⟩ := h
        refine m_iald C0 hM 5 rfl hc3 dX8_keep_104 ?_
        refine lv_i2l hx hb dX8_keep_105 rfl ?_
        refine lv_aload_n hx hb dX8_keep_106 rfl (lv_at hl 0 rfl) ?_
        refine m_get (C := RX8) (T := TX8) (N := 10) (ci := 7) (ref := "LoweredPowers$Search") (v := .ref (r0 6)) C0 hM 0 rfl rfl kt_X8_keep_X8 6 (by decide) kw_X8_keep_4 rfl rfl dX8_keep_107 ?_
        refine lv_iload_n hx hb dX8_keep_110 rfl (lv_at hl 1 rfl) ?_
        obtain ⟨hc4, h⟩ := h
        refine m_iald C0 hM 7 rfl hc4 dX8_keep_111 ?_
        refine lv_i2l hx hb dX8_keep_112 rfl ?_
        refine lv_lmul hx hb dX8_keep_113 ?_
        refine m_calli (wc := []) C0 hM [] rfl (m_runS (wc := []) (As := [.long (((A_0_4_scale (I_0_size).toNatClampNeg).toInt64) * ((A_0_6_column (x3).toNatClampNeg).toInt64))]) (rest := [.int ((I_0_size * (225 : Int32)) + x3), .ref (r0 0)]) C0 hM (ct_X3_fold l D cI cJ cZ (((A_0_4_scale (I_0_size).toNatClampNeg).toInt64) * ((A_0_6_column (x3).toNatClampNeg).toInt64)) _ _ h) [] rfl (by decide) gX8_keep_X3_fold rfl rfl rfl hd_X3_fold ⟨Nat.le_of_ble_eq_true rfl, Nat.le_of_ble_eq_true rfl⟩ rfl hl.1 rfl (Nat.le_of_ble_eq_true rfl) dX8_keep_114 ⟨Nat.le_of_ble_eq_true rfl, Nat.le_of_ble_eq_true rfl⟩) (fun _ => [(h0, .inr (7, oX8 r0 I_0_size)), ((r0 0), .inl (cI, 18900, .inl A_0_0_steps)), ((r0 1), .inl (cI, 84, .inl A_0_1_lead)), ((r0 2), .inl (cI, 84, .inl A_0_2_end)), ((r0 3), .inl (cI, 84, .inl A_0_3_source)), ((r0 4), .inl (cI, 84, .inl A_0_4_scale)), ((r0 5), .inl (cI, 7056, .inl A_0_5_shares)), ((r0 6), .inl (cI, 225, .inl A_0_6_column)), ((r0 7), .inl (cI, 84, .inl A_0_7_share))]) (fun _ => rfl) (fun _ => rfl) (fun y5 _ H locs h hM => ?_)
        obtain ⟨hc6, h⟩ := h
        refine m_iast (ws' := [(h0, .inr (7, oX8 r0 I_0_size)), ((r0 0), .inl (cI, 18900, .inl (upd A_0_0_steps (((I_0_size * (225 : Int32)) + x3)).toNatClampNeg y5))), ((r0 1), .inl (cI, 84, .inl A_0_1_lead)), ((r0 2), .inl (cI, 84, .inl A_0_2_end)), ((r0 3), .inl (cI, 84, .inl A_0_3_source)), ((r0 4), .inl (cI, 84, .inl A_0_4_scale)), ((r0 5), .inl (cI, 7056, .inl A_0_5_shares)), ((r0 6), .inl (cI, 225, .inl A_0_6_column)), ((r0 7), .inl (cI, 84, .inl A_0_7_share))]) C0 hM 1 rfl hc6 rfl dX8_keep_117 (fun H locs hM => ?_)
        refine lv_iinc (v := (x3 + (1 : Int32))) (lv' := [(3, .int (x3 + (1 : Int32))), (0, .ref h0)]) hx hb dX8_keep_118 hl (k := 1) rfl rfl (by decide) rfl (fun ls hl => ?_)
        refine lv_goto (tgt := 75) hx hb dX8_keep_121 (by decide) ?_
        exact ih75 _ _ _ _ _ _ _ _ _ _ _ h hM (lv_sub hl [1, 0] rfl)
  unfold wp_X8_keep at h
  refine lv_aload_n hx hb dX8_keep_0 rfl (lv_at hl 0 rfl) ?_
  refine m_calli (wc := [(h0, .inr (7, oX8 r0 I_0_size)), ((r0 6), .inl (cI, 225, .inl A_0_6_column))]) C0 hM [0, 7] rfl (m_runV (wc := [(h0, .inr (7, oX8 r0 I_0_size)), ((r0 6), .inl (cI, 225, .inl A_0_6_column))]) (As := []) (rest := []) (ci := 7) C0 hM (ct_X8_firstOther l D cI cJ cZ h0 r0 I_0_size A_0_6_column _ _ h) [0, 7] rfl (by decide) gX8_keep_X8_firstOther rfl rfl rfl rfl rfl hd_X8_firstOther ⟨Nat.le_of_ble_eq_true rfl, Nat.le_of_ble_eq_true rfl⟩ rfl hl.1 rfl (Nat.le_of_ble_eq_true rfl) dX8_keep_1 ⟨Nat.le_of_ble_eq_true rfl, Nat.le_of_ble_eq_true rfl⟩) (fun _ => [(h0, .inr (7, oX8 r0 I_0_size)), ((r0 0), .inl (cI, 18900, .inl A_0_0_steps)), ((r0 1), .inl (cI, 84, .inl A_0_1_lead)), ((r0 2), .inl (cI, 84, .inl A_0_2_end)), ((r0 3), .inl (cI, 84, .inl A_0_3_source)), ((r0 4), .inl (cI, 84, .inl A_0_4_scale)), ((r0 5), .inl (cI, 7056, .inl A_0_5_shares)), ((r0 6), .inl (cI, 225, .inl A_0_6_column)), ((r0 7), .inl (cI, 84, .inl A_0_7_share))]) (fun _ => rfl) (fun _ => rfl) (fun y7 _ H locs h hM => ?_)
  refine lv_istore_n (lv' := [(2, .int y7), (0, .ref h0), (1, .int x1)]) hx hb dX8_keep_4 rfl hl (by decide) rfl (fun ls hl => ?_)
  refine lv_aload_n hx hb dX8_keep_5 rfl (lv_at hl 1 rfl) ?_
  refine m_get (C := RX8) (T := TX8) (N := 10) (ci := 7) (ref := "LoweredPowers$Search") (v := .int I_0_size) C0 hM 0 rfl rfl kt_X8_keep_X8 9 (by decide) kw_X8_keep_1 rfl rfl dX8_keep_6 ?_
  refine lv_bipush (v := (84 : Int32)) hx hb dX8_keep_9 (by decide) ?_
  refine lv_icmp_ge (tgt := 18) hx hb dX8_keep_11 (by decide) (fun hq => ?_) (fun hq => ?_)
  · have h := h.1 hq
    subst hsz; subst hA; subst hQ
    exact m_vret C0 hr hM (I_0_size, A_0_0_steps, A_0_1_lead, A_0_2_end, A_0_3_source, A_0_4_scale, A_0_5_shares) h rfl dX8_keep_18
  · have h := h.2 hq
    refine lv_iload_n hx hb dX8_keep_14 rfl (lv_at hl 0 rfl) ?_
    refine lv_if_ge (tgt := 19) hx hb dX8_keep_15 (by decide) (fun hq => ?_) (fun hq => ?_)
    · have h := h.1 hq
      refine lv_aload_n hx hb dX8_keep_19 rfl (lv_at hl 1 rfl) ?_
      refine m_get (C := RX8) (T := TX8) (N := 10) (ci := 7) (ref := "LoweredPowers$Search") (v := .ref (r0 1)) C0 hM 0 rfl rfl kt_X8_keep_X8 1 (by decide) kw_X8_keep_2 rfl rfl dX8_keep_20 ?_
      refine lv_aload_n hx hb dX8_keep_23 rfl (lv_at hl 1 rfl) ?_
      refine m_get (C := RX8) (T := TX8) (N := 10) (ci := 7) (ref := "LoweredPowers$Search") (v := .int I_0_size) C0 hM 0 rfl rfl kt_X8_keep_X8 9 (by decide) kw_X8_keep_1 rfl rfl dX8_keep_24 ?_
      refine lv_iload_n hx hb dX8_keep_27 rfl (lv_at hl 0 rfl) ?_
      obtain ⟨hc8, h⟩ := h
      refine m_iast (ws' := [(h0, .inr (7, oX8 r0 I_0_size)), ((r0 0), .inl (cI, 18900, .inl A_0_0_steps)), ((r0 1), .inl (cI, 84, .inl (upd A_0_1_lead (I_0_size).toNatClampNeg y7))), ((r0 2), .inl (cI, 84, .inl A_0_2_end)), ((r0 3), .inl (cI, 84, .inl A_0_3_source)), ((r0 4), .inl (cI, 84, .inl A_0_4_scale)), ((r0 5), .inl (cI, 7056, .inl A_0_5_shares)), ((r0 6), .inl (cI, 225, .inl A_0_6_column)), ((r0 7), .inl (cI, 84, .inl A_0_7_share))]) C0 hM 2 rfl hc8 rfl dX8_keep_28 (fun H locs hM => ?_)
      refine lv_aload_n hx hb dX8_keep_29 rfl (lv_at hl 1 rfl) ?_
      refine m_get (C := RX8) (T := TX8) (N := 10) (ci := 7) (ref := "LoweredPowers$Search") (v := .ref (r0 2)) C0 hM 0 rfl rfl kt_X8_keep_X8 2 (by decide) kw_X8_keep_3 rfl rfl dX8_keep_30 ?_
      refine lv_aload_n hx hb dX8_keep_33 rfl (lv_at hl 1 rfl) ?_
      refine m_get (C := RX8) (T := TX8) (N := 10) (ci := 7) (ref := "LoweredPowers$Search") (v := .int I_0_size) C0 hM 0 rfl rfl kt_X8_keep_X8 9 (by decide) kw_X8_keep_1 rfl rfl dX8_keep_34 ?_
      refine lv_aload_n hx hb dX8_keep_37 rfl (lv_at hl 1 rfl) ?_
      refine m_get (C := RX8) (T := TX8) (N := 10) (ci := 7) (ref := "LoweredPowers$Search") (v := .ref (r0 6)) C0 hM 0 rfl rfl kt_X8_keep_X8 6 (by decide) kw_X8_keep_4 rfl rfl dX8_keep_38 ?_
      refine m_calli (wc := [((r0 6), .inl (cI, 225, .inl A_0_6_column))]) C0 hM [7] rfl (m_runS (wc := [((r0 6), .inl (cI, 225, .inl A_0_6_column))]) (As := [.ref (r0 6)]) (rest := [.int I_0_size, .ref (r0 2)]) C0 hM (ct_X3_highest l D cI cJ cZ (r0 6) 225 A_0_6_column _ _ h) [7] rfl (by decide) gX8_keep_X3_highest rfl rfl rfl hd_X3_highest ⟨Nat.le_of_ble_eq_true rfl, Nat.le_of_ble_eq_true rfl⟩ rfl hl.1 rfl (Nat.le_of_ble_eq_true rfl) dX8_keep_41 ⟨Nat.le_of_ble_eq_true rfl, Nat.le_of_ble_eq_true rfl⟩) (fun _ => [(h0, .inr (7, oX8 r0 I_0_size)), ((r0 0), .inl (cI, 18900, .inl A_0_0_steps)), ((r0 1), .inl (cI, 84, .inl (upd A_0_1_lead (I_0_size).toNatClampNeg y7))), ((r0 2), .inl (cI, 84, .inl A_0_2_end)), ((r0 3), .inl (cI, 84, .inl A_0_3_source)), ((r0 4), .inl (cI, 84, .inl A_0_4_scale)), ((r0 5), .inl (cI, 7056, .inl A_0_5_shares)), ((r0 6), .inl (cI, 225, .inl A_0_6_column)), ((r0 7), .inl (cI, 84, .inl A_0_7_share))]) (fun _ => rfl) (fun _ => rfl) (fun y9 _ H locs h hM => ?_)
      refine m_iast (ws' := [(h0, .inr (7, oX8 r0 I_0_size)), ((r0 0), .inl (cI, 18900, .inl A_0_0_steps)), ((r0 1), .inl (cI, 84, .inl (upd A_0_1_lead (I_0_size).toNatClampNeg y7))), ((r0 2), .inl (cI, 84, .inl (upd A_0_2_end (I_0_size).toNatClampNeg y9))), ((r0 3), .inl (cI, 84, .inl A_0_3_source)), ((r0 4), .inl (cI, 84, .inl A_0_4_scale)), ((r0 5), .inl (cI, 7056, .inl A_0_5_shares)), ((r0 6), .inl (cI, 225, .inl A_0_6_column)), ((r0 7), .inl (cI, 84, .inl A_0_7_share))]) C0 hM 3 rfl hc8 rfl dX8_keep_44 (fun H locs hM => ?_)
      refine lv_aload_n hx hb dX8_keep_45 rfl (lv_at hl 1 rfl) ?_
      refine m_get (C := RX8) (T := TX8) (N := 10) (ci := 7) (ref := "LoweredPowers$Search") (v := .ref (r0 3)) C0 hM 0 rfl rfl kt_X8_keep_X8 3 (by decide) kw_X8_keep_5 rfl rfl dX8_keep_46 ?_
      refine lv_aload_n hx hb dX8_keep_49 rfl (lv_at hl 1 rfl) ?_
      refine m_get (C := RX8) (T := TX8) (N := 10) (ci := 7) (ref := "LoweredPowers$Search") (v := .int I_0_size) C0 hM 0 rfl rfl kt_X8_keep_X8 9 (by decide) kw_X8_keep_1 rfl rfl dX8_keep_50 ?_
      refine lv_iload_n hx hb dX8_keep_53 rfl (lv_at hl 2 rfl) ?_
      refine m_iast (ws' := [(h0, .inr (7, oX8 r0 I_0_size)), ((r0 0), .inl (cI, 18900, .inl A_0_0_steps)), ((r0 1), .inl (cI, 84, .inl (upd A_0_1_lead (I_0_size).toNatClampNeg y7))), ((r0 2), .inl (cI, 84, .inl (upd A_0_2_end (I_0_size).toNatClampNeg y9))), ((r0 3), .inl (cI, 84, .inl (upd A_0_3_source (I_0_size).toNatClampNeg x1))), ((r0 4), .inl (cI, 84, .inl A_0_4_scale)), ((r0 5), .inl (cI, 7056, .inl A_0_5_shares)), ((r0 6), .inl (cI, 225, .inl A_0_6_column)), ((r0 7), .inl (cI, 84, .inl A_0_7_share))]) C0 hM 4 rfl hc8 rfl dX8_keep_54 (fun H locs hM => ?_)
      refine lv_aload_n hx hb dX8_keep_55 rfl (lv_at hl 1 rfl) ?_
      refine m_get (C := RX8) (T := TX8) (N := 10) (ci := 7) (ref := "LoweredPowers$Search") (v := .ref (r0 4)) C0 hM 0 rfl rfl kt_X8_keep_X8 4 (by decide) kw_X8_keep_6 rfl rfl dX8_keep_56 ?_
      refine lv_aload_n hx hb dX8_keep_59 rfl (lv_at hl 1 rfl) ?_
      refine m_get (C := RX8) (T := TX8) (N := 10) (ci := 7) (ref := "LoweredPowers$Search") (v := .int I_0_size) C0 hM 0 rfl rfl kt_X8_keep_X8 9 (by decide) kw_X8_keep_1 rfl rfl dX8_keep_60 ?_
      refine lv_aload_n hx hb dX8_keep_63 rfl (lv_at hl 1 rfl) ?_
      refine m_get (C := RX8) (T := TX8) (N := 10) (ci := 7) (ref := "LoweredPowers$Search") (v := .ref (r0 6)) C0 hM 0 rfl rfl kt_X8_keep_X8 6 (by decide) kw_X8_keep_4 rfl rfl dX8_keep_64 ?_
      refine lv_iload_n hx hb dX8_keep_67 rfl (lv_at hl 0 rfl) ?_
      obtain ⟨hc10, h⟩ := h
      refine m_iald C0 hM 7 rfl hc10 dX8_keep_68 ?_
      refine m_calli (wc := []) C0 hM [] rfl (m_runS (wc := []) (As := [.int (A_0_6_column (y7).toNatClampNeg)]) (rest := [.int I_0_size, .ref (r0 4)]) C0 hM (ct_X3_inverse l D cI cJ cZ (A_0_6_column (y7).toNatClampNeg) _ _ h) [] rfl (by decide) gX8_keep_X3_inverse rfl rfl rfl hd_X3_inverse ⟨Nat.le_of_ble_eq_true rfl, Nat.le_of_ble_eq_true rfl⟩ rfl hl.1 rfl (Nat.le_of_ble_eq_true rfl) dX8_keep_69 ⟨Nat.le_of_ble_eq_true rfl, Nat.le_of_ble_eq_true rfl⟩) (fun _ => [(h0, .inr (7, oX8 r0 I_0_size)), ((r0 0), .inl (cI, 18900, .inl A_0_0_steps)), ((r0 1), .inl (cI, 84, .inl (upd A_0_1_lead (I_0_size).toNatClampNeg y7))), ((r0 2), .inl (cI, 84, .inl (upd A_0_2_end (I_0_size).toNatClampNeg y9))), ((r0 3), .inl (cI, 84, .inl (upd A_0_3_source (I_0_size).toNatClampNeg x1))), ((r0 4), .inl (cI, 84, .inl A_0_4_scale)), ((r0 5), .inl (cI, 7056, .inl A_0_5_shares)), ((r0 6), .inl (cI, 225, .inl A_0_6_column)), ((r0 7), .inl (cI, 84, .inl A_0_7_share))]) (fun _ => rfl) (fun _ => rfl) (fun y11 _ H locs h hM => ?_)
      refine m_iast (ws' := [(h0, .inr (7, oX8 r0 I_0_size)), ((r0 0), .inl (cI, 18900, .inl A_0_0_steps)), ((r0 1), .inl (cI, 84, .inl (upd A_0_1_lead (I_0_size).toNatClampNeg y7))), ((r0 2), .inl (cI, 84, .inl (upd A_0_2_end (I_0_size).toNatClampNeg y9))), ((r0 3), .inl (cI, 84, .inl (upd A_0_3_source (I_0_size).toNatClampNeg x1))), ((r0 4), .inl (cI, 84, .inl (upd A_0_4_scale (I_0_size).toNatClampNeg y11))), ((r0 5), .inl (cI, 7056, .inl A_0_5_shares)), ((r0 6), .inl (cI, 225, .inl A_0_6_column)), ((r0 7), .inl (cI, 84, .inl A_0_7_share))]) C0 hM 5 rfl hc8 rfl dX8_keep_72 (fun H locs hM => ?_)
      refine lv_iconst (v := (0 : Int32)) hx hb dX8_keep_73 (by decide) ?_
      refine lv_istore_n (lv' := [(3, .int (0 : Int32)), (2, .int y7), (0, .ref h0), (1, .int x1)]) hx hb dX8_keep_74 rfl hl (by decide) rfl (fun ls hl => ?_)
      obtain ⟨k0, h⟩ := h
      exact lq75 k0 _ _ _ _ _ _ _ _ _ _ _ h hM (lv_sub hl [2, 0] rfl)
    · have h := h.2 hq
      subst hsz; subst hA; subst hQ
      exact m_vret C0 hr hM (I_0_size, A_0_0_steps, A_0_1_lead, A_0_2_end, A_0_3_source, A_0_4_scale, A_0_5_shares) h rfl dX8_keep_18
abbrev rm_X8_takeOperators : Room := { frames := 3, cells := 0, slots := 0, locals := 68 }
set_option maxRecDepth 100000 in
set_option maxHeartbeats 4000000 in
theorem ct_X8_takeOperators (l : Launch) (D : va_G) (cI cJ cZ : ClassId) (h0 : Nat) (r0 : Nat → Nat) (I_0_size : Int32) (A_0_0_steps : (Nat → Int32)) (A_0_1_lead : (Nat → Int32)) (A_0_2_end : (Nat → Int32)) (A_0_3_source : (Nat → Int32)) (A_0_4_scale : (Nat → Int32)) (A_0_5_shares : (Nat → Int32)) (A_0_6_column : (Nat → Int32)) (A_0_7_share : (Nat → Int32)) (A_0_8_base : (Nat → Int32)) (x1 : Int32) (x2 : Int32) (x3 : Int32) (sz : Nat) (K : Int32 → (Nat → Int32) → (Nat → Int32) → (Nat → Int32) → (Nat → Int32) → (Nat → Int32) → (Nat → Int32) → (Nat → Int32) → (Nat → Int32) → Prop) (h : wp_X8_takeOperators x1 x2 x3 I_0_size A_0_0_steps A_0_1_lead A_0_2_end A_0_3_source A_0_4_scale A_0_5_shares A_0_6_column A_0_7_share A_0_8_base K) : Met l yX8_takeOperators wsX8_takeOperators rm_X8_takeOperators (va_Pc [.ref h0, .int x1, .int x2, .int x3] (WX D cI cJ cZ [(h0, .inr (7, oX8 r0 I_0_size)), ((r0 0), .inl (cI, 18900, .inl A_0_0_steps)), ((r0 1), .inl (cI, 84, .inl A_0_1_lead)), ((r0 2), .inl (cI, 84, .inl A_0_2_end)), ((r0 3), .inl (cI, 84, .inl A_0_3_source)), ((r0 4), .inl (cI, 84, .inl A_0_4_scale)), ((r0 5), .inl (cI, 7056, .inl A_0_5_shares)), ((r0 6), .inl (cI, 225, .inl A_0_6_column)), ((r0 7), .inl (cI, 84, .inl A_0_7_share)), ((r0 8), .inl (cI, 225, .inl A_0_8_base))] sz)) (va_Qv (fun (u : Int32 × (Nat → Int32) × (Nat → Int32) × (Nat → Int32) × (Nat → Int32) × (Nat → Int32) × (Nat → Int32) × (Nat → Int32) × (Nat → Int32)) => K u.1 u.2.1 u.2.2.1 u.2.2.2.1 u.2.2.2.2.1 u.2.2.2.2.2.1 u.2.2.2.2.2.2.1 u.2.2.2.2.2.2.2.1 u.2.2.2.2.2.2.2.2) (fun (u : Int32 × (Nat → Int32) × (Nat → Int32) × (Nat → Int32) × (Nat → Int32) × (Nat → Int32) × (Nat → Int32) × (Nat → Int32) × (Nat → Int32)) t => WY D (va_A [(h0, .inr (7, oX8 r0 I_0_size)), ((r0 0), .inl (cI, 18900, .inl A_0_0_steps)), ((r0 1), .inl (cI, 84, .inl A_0_1_lead)), ((r0 2), .inl (cI, 84, .inl A_0_2_end)), ((r0 3), .inl (cI, 84, .inl A_0_3_source)), ((r0 4), .inl (cI, 84, .inl A_0_4_scale)), ((r0 5), .inl (cI, 7056, .inl A_0_5_shares)), ((r0 6), .inl (cI, 225, .inl A_0_6_column)), ((r0 7), .inl (cI, 84, .inl A_0_7_share)), ((r0 8), .inl (cI, 225, .inl A_0_8_base))] sz) [(h0, .inr (7, oX8 r0 u.1)), ((r0 0), .inl (cI, 18900, .inl u.2.1)), ((r0 1), .inl (cI, 84, .inl u.2.2.1)), ((r0 2), .inl (cI, 84, .inl u.2.2.2.1)), ((r0 3), .inl (cI, 84, .inl u.2.2.2.2.1)), ((r0 4), .inl (cI, 84, .inl u.2.2.2.2.2.1)), ((r0 5), .inl (cI, 7056, .inl u.2.2.2.2.2.2.1)), ((r0 6), .inl (cI, 225, .inl u.2.2.2.2.2.2.2.1)), ((r0 7), .inl (cI, 84, .inl u.2.2.2.2.2.2.2.2)), ((r0 8), .inl (cI, 225, .inl A_0_8_base))] t) (va_A [(h0, .inr (7, oX8 r0 I_0_size)), ((r0 0), .inl (cI, 18900, .inl A_0_0_steps)), ((r0 1), .inl (cI, 84, .inl A_0_1_lead)), ((r0 2), .inl (cI, 84, .inl A_0_2_end)), ((r0 3), .inl (cI, 84, .inl A_0_3_source)), ((r0 4), .inl (cI, 84, .inl A_0_4_scale)), ((r0 5), .inl (cI, 7056, .inl A_0_5_shares)), ((r0 6), .inl (cI, 225, .inl A_0_6_column)), ((r0 7), .inl (cI, 84, .inl A_0_7_share)), ((r0 8), .inl (cI, 225, .inl A_0_8_base))] sz)) 0 0 (va_A [(h0, .inr (7, oX8 r0 I_0_size)), ((r0 0), .inl (cI, 18900, .inl A_0_0_steps)), ((r0 1), .inl (cI, 84, .inl A_0_1_lead)), ((r0 2), .inl (cI, 84, .inl A_0_2_end)), ((r0 3), .inl (cI, 84, .inl A_0_3_source)), ((r0 4), .inl (cI, 84, .inl A_0_4_scale)), ((r0 5), .inl (cI, 7056, .inl A_0_5_shares)), ((r0 6), .inl (cI, 225, .inl A_0_6_column)), ((r0 7), .inl (cI, 84, .inl A_0_7_share)), ((r0 8), .inl (cI, 225, .inl A_0_8_base))] sz) := by
  refine m_met (own := RX8) (cc := cX8_takeOperators) (maxL := 6) (ret := none) [.ref h0, .int x1, .int x2, .int x3] [(0, .ref h0), (1, .int x1), (2, .int x2), (3, .int x3)] (by decide) rfl rfl (Nat.le_of_ble_eq_true rfl) rfl ?_
  intro p e s m args below meth c Q A hQ hA C0 hr hnm hsz hM ls hl
  have hx := C0.1
  have hb := C0.2.1
  have hown := C0.2.2.2.1
  have lq3 : ∀ (k3 : Nat) (x4 : Int32) (I_0_size : Int32) (A_0_0_steps : (Nat → Int32)) (A_0_1_lead : (Nat → Int32)) (A_0_2_end : (Nat → Int32)) (A_0_3_source : (Nat → Int32)) (A_0_4_scale : (Nat → Int32)) (A_0_5_shares : (Nat → Int32)) (A_0_6_column : (Nat → Int32)) (A_0_7_share : (Nat → Int32)) (H : Heap) (locs : List Loc) (ls : Array Slot) , lp_X8_takeOperators_3 x1 x2 x3 A_0_8_base K k3 x4 I_0_size A_0_0_steps A_0_1_lead A_0_2_end A_0_3_source A_0_4_scale A_0_5_shares A_0_6_column A_0_7_share → MW D A s.heap [(h0, .inr (7, oX8 r0 I_0_size)), ((r0 0), .inl (cI, 18900, .inl A_0_0_steps)), ((r0 1), .inl (cI, 84, .inl A_0_1_lead)), ((r0 2), .inl (cI, 84, .inl A_0_2_end)), ((r0 3), .inl (cI, 84, .inl A_0_3_source)), ((r0 4), .inl (cI, 84, .inl A_0_4_scale)), ((r0 5), .inl (cI, 7056, .inl A_0_5_shares)), ((r0 6), .inl (cI, 225, .inl A_0_6_column)), ((r0 7), .inl (cI, 84, .inl A_0_7_share)), ((r0 8), .inl (cI, 225, .inl A_0_8_base))] H locs → lv_has ls 6 [(0, .ref h0), (1, .int x1), (2, .int x2), (3, .int x3), (4, .int x4)] → W p l e rm_X8_takeOperators s m args below meth c H locs 0 0 Q (F0 m 3 ls []) := by
    intro k3
    induction k3 with
    | zero =>
      intro x4 I_0_size A_0_0_steps A_0_1_lead A_0_2_end A_0_3_source A_0_4_scale A_0_5_shares A_0_6_column A_0_7_share H locs ls h
      unfold lp_X8_takeOperators_3 at h
      exact h.elim
    | succ k3 ih3 =>
      have jq51 : ∀ (x4 : Int32) (I_0_size : Int32) (A_0_0_steps : (Nat → Int32)) (A_0_1_lead : (Nat → Int32)) (A_0_2_end : (Nat → Int32)) (A_0_3_source : (Nat → Int32)) (A_0_4_scale : (Nat → Int32)) (A_0_5_shares : (Nat → Int32)) (A_0_6_column : (Nat → Int32)) (A_0_7_share : (Nat → Int32)) (H : Heap) (locs : List Loc) (ls : Array Slot) , jn_X8_takeOperators_51 x1 x2 x3 A_0_8_base (fun x4 I_0_size A_0_0_steps A_0_1_lead A_0_2_end A_0_3_source A_0_4_scale A_0_5_shares A_0_6_column A_0_7_share => lp_X8_takeOperators_3 x1 x2 x3 A_0_8_base K k3 x4 I_0_size A_0_0_steps A_0_1_lead A_0_2_end A_0_3_source A_0_4_scale A_0_5_shares A_0_6_column A_0_7_share) K x4 I_0_size A_0_0_steps A_0_1_lead A_0_2_end A_0_3_source A_0_4_scale A_0_5_shares A_0_6_column A_0_7_share → MW D A s.heap [(h0, .inr (7, oX8 r0 I_0_size)), ((r0 0), .inl (cI, 18900, .inl A_0_0_steps)), ((r0 1), .inl (cI, 84, .inl A_0_1_lead)), ((r0 2), .inl (cI, 84, .inl A_0_2_end)), ((r0 3), .inl (cI, 84, .inl A_0_3_source)), ((r0 4), .inl (cI, 84, .inl A_0_4_scale)), ((r0 5), .inl (cI, 7056, .inl A_0_5_shares)), ((r0 6), .inl (cI, 225, .inl A_0_6_column)), ((r0 7), .inl (cI, 84, .inl A_0_7_share)), ((r0 8), .inl (cI, 225, .inl A_0_8_base))] H locs → lv_has ls 6 [(0, .ref h0), (1, .int x1), (2, .int x2), (3, .int x3), (4, .int x4)] → W p l e rm_X8_takeOperators s m args below meth c H locs 0 0 Q (F0 m 51 ls []) := by
        intro x4 I_0_size A_0_0_steps A_0_1_lead A_0_2_end A_0_3_source A_0_4_scale A_0_5_shares A_0_6_column A_0_7_share H locs ls h hM hl
        unfold jn_X8_takeOperators_51 at h
        refine lv_iinc (v := (x4 + (1 : Int32))) (lv' := [(4, .int (x4 + (1 : Int32))), (0, .ref h0), (1, .int x1), (2, .int x2), (3, .int x3)]) hx hb dX8_takeOperators_51 hl (k := 4) rfl rfl (by decide) rfl (fun ls hl => ?_)
        refine lv_goto (tgt := 3) hx hb dX8_takeOperators_54 (by decide) ?_
        exact ih3 _ _ _ _ _ _ _ _ _ _ _ _ _ h hM (lv_sub hl [1, 2, 3, 4, 0] rfl)
      have lq12 : ∀ (k12 : Nat) (x4 : Int32) (x5 : Int32) (I_0_size : Int32) (A_0_0_steps : (Nat → Int32)) (A_0_1_lead : (Nat → Int32)) (A_0_2_end : (Nat → Int32)) (A_0_3_source : (Nat → Int32)) (A_0_4_scale : (Nat → Int32)) (A_0_5_shares : (Nat → Int32)) (A_0_6_column : (Nat → Int32)) (A_0_7_share : (Nat → Int32)) (H : Heap) (locs : List Loc) (ls : Array Slot) , lp_X8_takeOperators_12 x1 x2 x3 A_0_8_base (jn_X8_takeOperators_51 x1 x2 x3 A_0_8_base (fun x4 I_0_size A_0_0_steps A_0_1_lead A_0_2_end A_0_3_source A_0_4_scale A_0_5_shares A_0_6_column A_0_7_share => lp_X8_takeOperators_3 x1 x2 x3 A_0_8_base K k3 x4 I_0_size A_0_0_steps A_0_1_lead A_0_2_end A_0_3_source A_0_4_scale A_0_5_shares A_0_6_column A_0_7_share) K) K k12 x4 x5 I_0_size A_0_0_steps A_0_1_lead A_0_2_end A_0_3_source A_0_4_scale A_0_5_shares A_0_6_column A_0_7_share → MW D A s.heap [(h0, .inr (7, oX8 r0 I_0_size)), ((r0 0), .inl (cI, 18900, .inl A_0_0_steps)), ((r0 1), .inl (cI, 84, .inl A_0_1_lead)), ((r0 2), .inl (cI, 84, .inl A_0_2_end)), ((r0 3), .inl (cI, 84, .inl A_0_3_source)), ((r0 4), .inl (cI, 84, .inl A_0_4_scale)), ((r0 5), .inl (cI, 7056, .inl A_0_5_shares)), ((r0 6), .inl (cI, 225, .inl A_0_6_column)), ((r0 7), .inl (cI, 84, .inl A_0_7_share)), ((r0 8), .inl (cI, 225, .inl A_0_8_base))] H locs → lv_has ls 6 [(0, .ref h0), (1, .int x1), (2, .int x2), (3, .int x3), (4, .int x4), (5, .int x5)] → W p l e rm_X8_takeOperators s m args below meth c H locs 0 0 Q (F0 m 12 ls []) := by
        intro k12
        induction k12 with
        | zero =>
          intro x4 x5 I_0_size A_0_0_steps A_0_1_lead A_0_2_end A_0_3_source A_0_4_scale A_0_5_shares A_0_6_column A_0_7_share H locs ls h
          unfold lp_X8_takeOperators_12 at h
          exact h.elim
        | succ k12 ih12 =>
          have jq45 : ∀ (x4 : Int32) (x5 : Int32) (I_0_size : Int32) (A_0_0_steps : (Nat → Int32)) (A_0_1_lead : (Nat → Int32)) (A_0_2_end : (Nat → Int32)) (A_0_3_source : (Nat → Int32)) (A_0_4_scale : (Nat → Int32)) (A_0_5_shares : (Nat → Int32)) (A_0_6_column : (Nat → Int32)) (A_0_7_share : (Nat → Int32)) (H : Heap) (locs : List Loc) (ls : Array Slot) , jn_X8_takeOperators_45 x1 x2 x3 A_0_8_base (fun x4 x5 I_0_size A_0_0_steps A_0_1_lead A_0_2_end A_0_3_source A_0_4_scale A_0_5_shares A_0_6_column A_0_7_share => lp_X8_takeOperators_12 x1 x2 x3 A_0_8_base (jn_X8_takeOperators_51 x1 x2 x3 A_0_8_base (fun x4 I_0_size A_0_0_steps A_0_1_lead A_0_2_end A_0_3_source A_0_4_scale A_0_5_shares A_0_6_column A_0_7_share => lp_X8_takeOperators_3 x1 x2 x3 A_0_8_base K k3 x4 I_0_size A_0_0_steps A_0_1_lead A_0_2_end A_0_3_source A_0_4_scale A_0_5_shares A_0_6_column A_0_7_share) K) K k12 x4 x5 I_0_size A_0_0_steps A_0_1_lead A_0_2_end A_0_3_source A_0_4_scale A_0_5_shares A_0_6_column A_0_7_share) (jn_X8_takeOperators_51 x1 x2 x3 A_0_8_base (fun x4 I_0_size A_0_0_steps A_0_1_lead A_0_2_end A_0_3_source A_0_4_scale A_0_5_shares A_0_6_column A_0_7_share => lp_X8_takeOperators_3 x1 x2 x3 A_0_8_base K k3 x4 I_0_size A_0_0_steps A_0_1_lead A_0_2_end A_0_3_source A_0_4_scale A_0_5_shares A_0_6_column A_0_7_share) K) K x4 x5 I_0_size A_0_0_steps A_0_1_lead A_0_2_end A_0_3_source A_0_4_scale A_0_5_shares A_0_6_column A_0_7_share → MW D A s.heap [(h0, .inr (7, oX8 r0 I_0_size)), ((r0 0), .inl (cI, 18900, .inl A_0_0_steps)), ((r0 1), .inl (cI, 84, .inl A_0_1_lead)), ((r0 2), .inl (cI, 84, .inl A_0_2_end)), ((r0 3), .inl (cI, 84, .inl A_0_3_source)), ((r0 4), .inl (cI, 84, .inl A_0_4_scale)), ((r0 5), .inl (cI, 7056, .inl A_0_5_shares)), ((r0 6), .inl (cI, 225, .inl A_0_6_column)), ((r0 7), .inl (cI, 84, .inl A_0_7_share)), ((r0 8), .inl (cI, 225, .inl A_0_8_base))] H locs → lv_has ls 6 [(0, .ref h0), (1, .int x1), (2, .int x2), (3, .int x3), (4, .int x4), (5, .int x5)] → W p l e rm_X8_takeOperators s m args below meth c H locs 0 0 Q (F0 m 45 ls []) := by
            intro x4 x5 I_0_size A_0_0_steps A_0_1_lead A_0_2_end A_0_3_source A_0_4_scale A_0_5_shares A_0_6_column A_0_7_share H locs ls h hM hl
            unfold jn_X8_takeOperators_45 at h
            refine lv_iinc (v := (x5 + (1 : Int32))) (lv' := [(5, .int (x5 + (1 : Int32))), (0, .ref h0), (1, .int x1), (2, .int x2), (3, .int x3), (4, .int x4)]) hx hb dX8_takeOperators_45 hl (k := 5) rfl rfl (by decide) rfl (fun ls hl => ?_)
            refine lv_goto (tgt := 12) hx hb dX8_takeOperators_48 (by decide) ?_
            exact ih12 _ _ _ _ _ _ _ _ _ _ _ _ _ _ h hM (lv_sub hl [1, 2, 3, 4, 5, 0] rfl)
          intro x4 x5 I_0_size A_0_0_steps A_0_1_lead A_0_2_end A_0_3_source A_0_4_scale A_0_5_shares A_0_6_column A_0_7_share H locs ls h hM hl
          unfold lp_X8_takeOperators_12 at h
          refine lv_iload hx hb dX8_takeOperators_12 (lv_at hl 5 rfl) ?_
          refine lv_iload_n hx hb dX8_takeOperators_14 rfl (lv_at hl 3 rfl) ?_
          refine lv_icmp_gt (tgt := 51) hx hb dX8_takeOperators_15 (by decide) (fun hq => ?_) (fun hq => ?_)
          · have h := h.1 hq
            exact jq51 _ _ _ _ _ _ _ _ _ _ _ _ _ h hM (lv_sub hl [0, 1, 2, 3, 4] rfl)
          · have h := h.2 hq
            refine lv_aload_n hx hb dX8_takeOperators_18 rfl (lv_at hl 0 rfl) ?_
            refine lv_iload hx hb dX8_takeOperators_19 (lv_at hl 4 rfl) ?_
            refine lv_iload hx hb dX8_takeOperators_21 (lv_at hl 5 rfl) ?_
            refine m_callv (wc := [(h0, .inr (7, oX8 r0 I_0_size)), ((r0 6), .inl (cI, 225, .inl A_0_6_column)), ((r0 8), .inl (cI, 225, .inl A_0_8_base))]) C0 hM [0, 7, 9] rfl (m_runV (wc := [(h0, .inr (7, oX8 r0 I_0_size)), ((r0 6), .inl (cI, 225, .inl A_0_6_column)), ((r0 8), .inl (cI, 225, .inl A_0_8_base))]) (As := [.int x4, .int x5]) (rest := []) (ci := 7) C0 hM (ct_X8_shift l D cI cJ cZ h0 r0 I_0_size A_0_6_column A_0_8_base x4 x5 _ _ h) [0, 7, 9] rfl (by decide) gX8_takeOperators_X8_shift rfl rfl rfl rfl rfl hd_X8_shift ⟨Nat.le_of_ble_eq_true rfl, Nat.le_of_ble_eq_true rfl⟩ rfl hl.1 rfl (Nat.le_of_ble_eq_true rfl) dX8_takeOperators_23 ⟨Nat.le_of_ble_eq_true rfl, Nat.le_of_ble_eq_true rfl⟩) (fun u => [(h0, .inr (7, oX8 r0 I_0_size)), ((r0 0), .inl (cI, 18900, .inl A_0_0_steps)), ((r0 1), .inl (cI, 84, .inl A_0_1_lead)), ((r0 2), .inl (cI, 84, .inl A_0_2_end)), ((r0 3), .inl (cI, 84, .inl A_0_3_source)), ((r0 4), .inl (cI, 84, .inl A_0_4_scale)), ((r0 5), .inl (cI, 7056, .inl A_0_5_shares)), ((r0 6), .inl (cI, 225, .inl u)), ((r0 7), .inl (cI, 84, .inl A_0_7_share)), ((r0 8), .inl (cI, 225, .inl A_0_8_base))]) (fun _ => rfl) (fun _ => rfl) (fun b1 H locs h hM => ?_)
            refine lv_aload_n hx hb dX8_takeOperators_26 rfl (lv_at hl 0 rfl) ?_
            refine m_calli (wc := [(h0, .inr (7, oX8 r0 I_0_size)), ((r0 0), .inl (cI, 18900, .inl A_0_0_steps)), ((r0 1), .inl (cI, 84, .inl A_0_1_lead)), ((r0 2), .inl (cI, 84, .inl A_0_2_end)), ((r0 6), .inl (cI, 225, .inl b1)), ((r0 7), .inl (cI, 84, .inl A_0_7_share))]) C0 hM [0, 1, 2, 3, 7, 8] rfl (m_runV (wc := [(h0, .inr (7, oX8 r0 I_0_size)), ((r0 0), .inl (cI, 18900, .inl A_0_0_steps)), ((r0 1), .inl (cI, 84, .inl A_0_1_lead)), ((r0 2), .inl (cI, 84, .inl A_0_2_end)), ((r0 6), .inl (cI, 225, .inl b1)), ((r0 7), .inl (cI, 84, .inl A_0_7_share))]) (As := []) (rest := []) (ci := 7) C0 hM (ct_X8_explained l D cI cJ cZ h0 r0 I_0_size A_0_0_steps A_0_1_lead A_0_2_end b1 A_0_7_share _ _ h) [0, 1, 2, 3, 7, 8] rfl (by decide) gX8_takeOperators_X8_explained rfl rfl rfl rfl rfl hd_X8_explained ⟨Nat.le_of_ble_eq_true rfl, Nat.le_of_ble_eq_true rfl⟩ rfl hl.1 rfl (Nat.le_of_ble_eq_true rfl) dX8_takeOperators_27 ⟨Nat.le_of_ble_eq_true rfl, Nat.le_of_ble_eq_true rfl⟩) (fun u => [(h0, .inr (7, oX8 r0 I_0_size)), ((r0 0), .inl (cI, 18900, .inl A_0_0_steps)), ((r0 1), .inl (cI, 84, .inl A_0_1_lead)), ((r0 2), .inl (cI, 84, .inl A_0_2_end)), ((r0 3), .inl (cI, 84, .inl A_0_3_source)), ((r0 4), .inl (cI, 84, .inl A_0_4_scale)), ((r0 5), .inl (cI, 7056, .inl A_0_5_shares)), ((r0 6), .inl (cI, 225, .inl u.1)), ((r0 7), .inl (cI, 84, .inl u.2)), ((r0 8), .inl (cI, 225, .inl A_0_8_base))]) (fun _ => rfl) (fun _ => rfl) (fun y2 u H locs h hM => ?_)
            obtain ⟨b3, b4⟩ := u
            dsimp only at h
            have hM : MW D A s.heap [(h0, .inr (7, oX8 r0 I_0_size)), ((r0 0), .inl (cI, 18900, .inl A_0_0_steps)), ((r0 1), .inl (cI, 84, .inl A_0_1_lead)), ((r0 2), .inl (cI, 84, .inl A_0_2_end)), ((r0 3), .inl (cI, 84, .inl A_0_3_source)), ((r0 4), .inl (cI, 84, .inl A_0_4_scale)), ((r0 5), .inl (cI, 7056, .inl A_0_5_shares)), ((r0 6), .inl (cI, 225, .inl b3)), ((r0 7), .inl (cI, 84, .inl b4)), ((r0 8), .inl (cI, 225, .inl A_0_8_base))] H locs := hM
            refine lv_if_ne (tgt := 45) hx hb dX8_takeOperators_30 (by decide) (fun hq => ?_) (fun hq => ?_)
            · have h := h.1 hq
              exact jq45 _ _ _ _ _ _ _ _ _ _ _ _ _ _ h hM (lv_sub hl [0, 1, 2, 3, 4, 5] rfl)
            · have h := h.2 hq
              refine lv_aload_n hx hb dX8_takeOperators_33 rfl (lv_at hl 0 rfl) ?_
              refine lv_iload_n hx hb dX8_takeOperators_34 rfl (lv_at hl 1 rfl) ?_
              refine lv_iload hx hb dX8_takeOperators_35 (lv_at hl 4 rfl) ?_
              refine lv_iload hx hb dX8_takeOperators_37 (lv_at hl 5 rfl) ?_
              refine m_calli (wc := []) C0 hM [] rfl (m_runS (wc := []) (As := [.int x1, .int x4, .int x5]) (rest := [.ref h0]) C0 hM (ct_X4_index l D cI cJ cZ x1 x4 x5 _ _ h) [] rfl (by decide) gX8_takeOperators_X4_index rfl rfl rfl hd_X4_index ⟨Nat.le_of_ble_eq_true rfl, Nat.le_of_ble_eq_true rfl⟩ rfl hl.1 rfl (Nat.le_of_ble_eq_true rfl) dX8_takeOperators_39 ⟨Nat.le_of_ble_eq_true rfl, Nat.le_of_ble_eq_true rfl⟩) (fun _ => [(h0, .inr (7, oX8 r0 I_0_size)), ((r0 0), .inl (cI, 18900, .inl A_0_0_steps)), ((r0 1), .inl (cI, 84, .inl A_0_1_lead)), ((r0 2), .inl (cI, 84, .inl A_0_2_end)), ((r0 3), .inl (cI, 84, .inl A_0_3_source)), ((r0 4), .inl (cI, 84, .inl A_0_4_scale)), ((r0 5), .inl (cI, 7056, .inl A_0_5_shares)), ((r0 6), .inl (cI, 225, .inl b3)), ((r0 7), .inl (cI, 84, .inl b4)), ((r0 8), .inl (cI, 225, .inl A_0_8_base))]) (fun _ => rfl) (fun _ => rfl) (fun y5 _ H locs h hM => ?_)
              refine m_callv2 (wc := [(h0, .inr (7, oX8 r0 I_0_size)), ((r0 0), .inl (cI, 18900, .inl A_0_0_steps)), ((r0 1), .inl (cI, 84, .inl A_0_1_lead)), ((r0 2), .inl (cI, 84, .inl A_0_2_end)), ((r0 3), .inl (cI, 84, .inl A_0_3_source)), ((r0 4), .inl (cI, 84, .inl A_0_4_scale)), ((r0 5), .inl (cI, 7056, .inl A_0_5_shares)), ((r0 6), .inl (cI, 225, .inl b3)), ((r0 7), .inl (cI, 84, .inl b4))]) C0 hM [0, 1, 2, 3, 4, 5, 6, 7, 8] [9] rfl (m_runV (wc := [(h0, .inr (7, oX8 r0 I_0_size)), ((r0 0), .inl (cI, 18900, .inl A_0_0_steps)), ((r0 1), .inl (cI, 84, .inl A_0_1_lead)), ((r0 2), .inl (cI, 84, .inl A_0_2_end)), ((r0 3), .inl (cI, 84, .inl A_0_3_source)), ((r0 4), .inl (cI, 84, .inl A_0_4_scale)), ((r0 5), .inl (cI, 7056, .inl A_0_5_shares)), ((r0 6), .inl (cI, 225, .inl b3)), ((r0 7), .inl (cI, 84, .inl b4))]) (As := [.int y5]) (rest := []) (ci := 7) C0 hM (ct_X8_keep l D cI cJ cZ h0 r0 I_0_size A_0_0_steps A_0_1_lead A_0_2_end A_0_3_source A_0_4_scale A_0_5_shares b3 b4 y5 _ _ h) [0, 1, 2, 3, 4, 5, 6, 7, 8] rfl (by decide) gX8_takeOperators_X8_keep rfl rfl rfl rfl rfl hd_X8_keep ⟨Nat.le_of_ble_eq_true rfl, Nat.le_of_ble_eq_true rfl⟩ rfl hl.1 rfl (Nat.le_of_ble_eq_true rfl) dX8_takeOperators_42 ⟨Nat.le_of_ble_eq_true rfl, Nat.le_of_ble_eq_true rfl⟩) (fun u => [(h0, .inr (7, oX8 r0 u.1)), ((r0 0), .inl (cI, 18900, .inl u.2.1)), ((r0 1), .inl (cI, 84, .inl u.2.2.1)), ((r0 2), .inl (cI, 84, .inl u.2.2.2.1)), ((r0 3), .inl (cI, 84, .inl u.2.2.2.2.1)), ((r0 4), .inl (cI, 84, .inl u.2.2.2.2.2.1)), ((r0 5), .inl (cI, 7056, .inl u.2.2.2.2.2.2)), ((r0 6), .inl (cI, 225, .inl b3)), ((r0 7), .inl (cI, 84, .inl b4)), ((r0 8), .inl (cI, 225, .inl A_0_8_base))]) (fun _ => rfl) [((r0 8), .inl (cI, 225, .inl A_0_8_base))] (fun _ => rfl) rfl (fun _ => rfl) (show ∀ i, i < 10 → i ∈ ([0, 1, 2, 3, 4, 5, 6, 7, 8] : List Nat) ∨ i ∈ ([9] : List Nat) from by decide) (fun u H locs h hM => ?_)
              obtain ⟨b6, b7, b8, b9, b10, b11, b12⟩ := u
              dsimp only at h
              have hM : MW D A s.heap [(h0, .inr (7, oX8 r0 b6)), ((r0 0), .inl (cI, 18900, .inl b7)), ((r0 1), .inl (cI, 84, .inl b8)), ((r0 2), .inl (cI, 84, .inl b9)), ((r0 3), .inl (cI, 84, .inl b10)), ((r0 4), .inl (cI, 84, .inl b11)), ((r0 5), .inl (cI, 7056, .inl b12)), ((r0 6), .inl (cI, 225, .inl b3)), ((r0 7), .inl (cI, 84, .inl b4)), ((r0 8), .inl (cI, 225, .inl A_0_8_base))] H locs := hM
              exact jq45 _ _ _ _ _ _ _ _ _ _ _ _ _ _ h hM (lv_sub hl [0, 1, 2, 3, 4, 5] rfl)
      intro x4 I_0_size A_0_0_steps A_0_1_lead A_0_2_end A_0_3_source A_0_4_scale A_0_5_shares A_0_6_column A_0_7_share H locs ls h hM hl
      unfold lp_X8_takeOperators_3 at h
      refine lv_iload hx hb dX8_takeOperators_3 (lv_at hl 4 rfl) ?_
      refine lv_iload_n hx hb dX8_takeOperators_5 rfl (lv_at hl 2 rfl) ?_
      refine lv_icmp_gt (tgt := 57) hx hb dX8_takeOperators_6 (by decide) (fun hq => ?_) (fun hq => ?_)
      · have h := h.1 hq
        subst hsz; subst hA; subst hQ
        exact m_vret C0 hr hM (I_0_size, A_0_0_steps, A_0_1_lead, A_0_2_end, A_0_3_source, A_0_4_scale, A_0_5_shares, A_0_6_column, A_0_7_share) h rfl dX8_takeOperators_57
      · have h := h.2 hq
        refine lv_iconst (v := (0 : Int32)) hx hb dX8_takeOperators_9 (by decide) ?_
        refine lv_istore (lv' := [(5, .int (0 : Int32)), (0, .ref h0), (1, .int x1), (2, .int x2), (3, .int x3), (4, .int x4)]) hx hb dX8_takeOperators_10 hl (by decide) rfl (fun ls hl => ?_)
        obtain ⟨k0, h⟩ := h
        exact lq12 k0 _ _ _ _ _ _ _ _ _ _ _ _ _ _ h hM (lv_sub hl [1, 2, 3, 4, 5, 0] rfl)
  unfold wp_X8_takeOperators at h
  refine lv_iconst (v := (0 : Int32)) hx hb dX8_takeOperators_0 (by decide) ?_
  refine lv_istore (lv' := [(4, .int (0 : Int32)), (0, .ref h0), (1, .int x1), (2, .int x2), (3, .int x3)]) hx hb dX8_takeOperators_1 hl (by decide) rfl (fun ls hl => ?_)
  obtain ⟨k0, h⟩ := h
  exact lq3 k0 _ _ _ _ _ _ _ _ _ _ _ _ _ h hM (lv_sub hl [1, 2, 3, 4, 0] rfl)
abbrev rm_X8_tell : Room := { frames := 1, cells := 0, slots := 0, locals := 22 }
set_option maxRecDepth 100000 in
set_option maxHeartbeats 4000000 in
theorem ct_X8_tell (l : Launch) (D : va_G) (cI cJ cZ : ClassId) (h0 : Nat) (h1 : Nat) (r0 : Nat → Nat) (r1 : Nat → Nat) (r1_0 : Nat → Nat) (I_0_size : Int32) (A_0_3_source : (Nat → Int32)) (A_0_4_scale : (Nat → Int32)) (A_0_5_shares : (Nat → Int32)) (A_0_7_share : (Nat → Int32)) (I_1_top : Int32) (A_1_0_0_numbers : (Nat → Int32)) (A_1_1_b : (Nat → Int32)) (x2 : Int32) (sz : Nat) (K : (Nat → Int32) → Int32 → (Nat → Int32) → (Nat → Int32) → Prop) (h : wp_X8_tell x2 I_0_size A_0_3_source A_0_4_scale A_0_5_shares A_0_7_share I_1_top A_1_0_0_numbers A_1_1_b K) : Met l yX8_tell wsX8_tell rm_X8_tell (va_Pc [.ref h0, .ref h1, .int x2] (WX D cI cJ cZ [(h0, .inr (7, oX8 r0 I_0_size)), ((r0 3), .inl (cI, 84, .inl A_0_3_source)), ((r0 4), .inl (cI, 84, .inl A_0_4_scale)), ((r0 5), .inl (cI, 7056, .inl A_0_5_shares)), ((r0 7), .inl (cI, 84, .inl A_0_7_share)), (h1, .inr (0, oX0 r1 I_1_top)), ((r1 0), .inr (3, oX4 r1_0 )), ((r1_0 0), .inl (cI, 75, .inl A_1_0_0_numbers)), ((r1 1), .inl (cI, 9, .inl A_1_1_b))] sz)) (va_Qv (fun (u : (Nat → Int32) × Int32 × (Nat → Int32) × (Nat → Int32)) => K u.1 u.2.1 u.2.2.1 u.2.2.2) (fun (u : (Nat → Int32) × Int32 × (Nat → Int32) × (Nat → Int32)) t => WY D (va_A [(h0, .inr (7, oX8 r0 I_0_size)), ((r0 3), .inl (cI, 84, .inl A_0_3_source)), ((r0 4), .inl (cI, 84, .inl A_0_4_scale)), ((r0 5), .inl (cI, 7056, .inl A_0_5_shares)), ((r0 7), .inl (cI, 84, .inl A_0_7_share)), (h1, .inr (0, oX0 r1 I_1_top)), ((r1 0), .inr (3, oX4 r1_0 )), ((r1_0 0), .inl (cI, 75, .inl A_1_0_0_numbers)), ((r1 1), .inl (cI, 9, .inl A_1_1_b))] sz) [(h0, .inr (7, oX8 r0 I_0_size)), ((r0 3), .inl (cI, 84, .inl A_0_3_source)), ((r0 4), .inl (cI, 84, .inl A_0_4_scale)), ((r0 5), .inl (cI, 7056, .inl A_0_5_shares)), ((r0 7), .inl (cI, 84, .inl u.1)), (h1, .inr (0, oX0 r1 u.2.1)), ((r1 0), .inr (3, oX4 r1_0 )), ((r1_0 0), .inl (cI, 75, .inl u.2.2.1)), ((r1 1), .inl (cI, 9, .inl u.2.2.2))] t) (va_A [(h0, .inr (7, oX8 r0 I_0_size)), ((r0 3), .inl (cI, 84, .inl A_0_3_source)), ((r0 4), .inl (cI, 84, .inl A_0_4_scale)), ((r0 5), .inl (cI, 7056, .inl A_0_5_shares)), ((r0 7), .inl (cI, 84, .inl A_0_7_share)), (h1, .inr (0, oX0 r1 I_1_top)), ((r1 0), .inr (3, oX4 r1_0 )), ((r1_0 0), .inl (cI, 75, .inl A_1_0_0_numbers)), ((r1 1), .inl (cI, 9, .inl A_1_1_b))] sz)) 0 0 (va_A [(h0, .inr (7, oX8 r0 I_0_size)), ((r0 3), .inl (cI, 84, .inl A_0_3_source)), ((r0 4), .inl (cI, 84, .inl A_0_4_scale)), ((r0 5), .inl (cI, 7056, .inl A_0_5_shares)), ((r0 7), .inl (cI, 84, .inl A_0_7_share)), (h1, .inr (0, oX0 r1 I_1_top)), ((r1 0), .inr (3, oX4 r1_0 )), ((r1_0 0), .inl (cI, 75, .inl A_1_0_0_numbers)), ((r1 1), .inl (cI, 9, .inl A_1_1_b))] sz) := by
  refine m_met (own := RX8) (cc := cX8_tell) (maxL := 6) (ret := none) [.ref h0, .ref h1, .int x2] [(0, .ref h0), (1, .ref h1), (2, .int x2)] (by decide) rfl rfl (Nat.le_of_ble_eq_true rfl) rfl ?_
  intro p e s m args below meth c Q A hQ hA C0 hr hnm hsz hM ls hl
  have hx := C0.1
  have hb := C0.2.1
  have hown := C0.2.2.2.1
  have jq133 : ∀ (A_0_7_share : (Nat → Int32)) (I_1_top : Int32) (A_1_0_0_numbers : (Nat → Int32)) (A_1_1_b : (Nat → Int32)) (H : Heap) (locs : List Loc) (ls : Array Slot) , jn_X8_tell_133 x2 I_0_size A_0_3_source A_0_4_scale A_0_5_shares K A_0_7_share I_1_top A_1_0_0_numbers A_1_1_b → MW D A s.heap [(h0, .inr (7, oX8 r0 I_0_size)), ((r0 3), .inl (cI, 84, .inl A_0_3_source)), ((r0 4), .inl (cI, 84, .inl A_0_4_scale)), ((r0 5), .inl (cI, 7056, .inl A_0_5_shares)), ((r0 7), .inl (cI, 84, .inl A_0_7_share)), (h1, .inr (0, oX0 r1 I_1_top)), ((r1 0), .inr (3, oX4 r1_0 )), ((r1_0 0), .inl (cI, 75, .inl A_1_0_0_numbers)), ((r1 1), .inl (cI, 9, .inl A_1_1_b))] H locs → lv_has ls 6 [(1, .ref h1), (2, .int x2)] → W p l e rm_X8_tell s m args below meth c H locs 0 0 Q (F0 m 133 ls []) := by
    intro A_0_7_share I_1_top A_1_0_0_numbers A_1_1_b H locs ls h hM hl
    unfold jn_X8_tell_133 at h
    refine lv_aload_n hx hb dX8_tell_133 rfl (lv_at hl 0 rfl) ?_
    refine m_get (C := RX0) (T := TX0) (N := 7) (ci := 0) (ref := "LoweredPowers$Found") (v := .ref (r1 1)) C0 hM 5 rfl rfl kt_X8_tell_X0 1 (by decide) kw_X8_tell_8 rfl rfl dX8_tell_134 ?_
    refine lv_iload_n hx hb dX8_tell_137 rfl (lv_at hl 1 rfl) ?_
    refine lv_iconst (v := (1 : Int32)) hx hb dX8_tell_138 (by decide) ?_
    obtain ⟨hc1, h⟩ := h
    refine m_iast (ws' := [(h0, .inr (7, oX8 r0 I_0_size)), ((r0 3), .inl (cI, 84, .inl A_0_3_source)), ((r0 4), .inl (cI, 84, .inl A_0_4_scale)), ((r0 5), .inl (cI, 7056, .inl A_0_5_shares)), ((r0 7), .inl (cI, 84, .inl A_0_7_share)), (h1, .inr (0, oX0 r1 I_1_top)), ((r1 0), .inr (3, oX4 r1_0 )), ((r1_0 0), .inl (cI, 75, .inl A_1_0_0_numbers)), ((r1 1), .inl (cI, 9, .inl (upd A_1_1_b (x2).toNatClampNeg (1 : Int32))))]) C0 hM 8 rfl hc1 rfl dX8_tell_139 (fun H locs hM => ?_)
    refine lv_aload_n hx hb dX8_tell_140 rfl (lv_at hl 0 rfl) ?_
    refine lv_iload_n hx hb dX8_tell_141 rfl (lv_at hl 1 rfl) ?_
    refine m_put (ws' := [(h0, .inr (7, oX8 r0 I_0_size)), ((r0 3), .inl (cI, 84, .inl A_0_3_source)), ((r0 4), .inl (cI, 84, .inl A_0_4_scale)), ((r0 5), .inl (cI, 7056, .inl A_0_5_shares)), ((r0 7), .inl (cI, 84, .inl A_0_7_share)), (h1, .inr (0, oX0 r1 x2)), ((r1 0), .inr (3, oX4 r1_0 )), ((r1_0 0), .inl (cI, 75, .inl A_1_0_0_numbers)), ((r1 1), .inl (cI, 9, .inl (upd A_1_1_b (x2).toNatClampNeg (1 : Int32))))]) (C := RX0) (T := TX0) (N := 7) (ci := 0) (ref := "LoweredPowers$Found") (v := .int x2) C0 hM 5 rfl rfl kt_X8_tell_X0 tyX0 tyX0_ok nmX0 2 (by decide) kw_X8_tell_9 rfl rfl rfl rfl (Nat.le_of_ble_eq_true rfl) rfl dX8_tell_142 (fun H locs hM => ?_)
    subst hsz; subst hA; subst hQ
    exact m_vret C0 hr hM (A_0_7_share, x2, A_1_0_0_numbers, (upd A_1_1_b (x2).toNatClampNeg (1 : Int32))) h rfl dX8_tell_145
  have lq7 : ∀ (k7 : Nat) (x3 : Int32) (A_0_7_share : (Nat → Int32)) (I_1_top : Int32) (A_1_0_0_numbers : (Nat → Int32)) (A_1_1_b : (Nat → Int32)) (H : Heap) (locs : List Loc) (ls : Array Slot) , lp_X8_tell_7 x2 I_0_size A_0_3_source A_0_4_scale A_0_5_shares (jn_X8_tell_133 x2 I_0_size A_0_3_source A_0_4_scale A_0_5_shares K) K k7 x3 A_0_7_share I_1_top A_1_0_0_numbers A_1_1_b → MW D A s.heap [(h0, .inr (7, oX8 r0 I_0_size)), ((r0 3), .inl (cI, 84, .inl A_0_3_source)), ((r0 4), .inl (cI, 84, .inl A_0_4_scale)), ((r0 5), .inl (cI, 7056, .inl A_0_5_shares)), ((r0 7), .inl (cI, 84, .inl A_0_7_share)), (h1, .inr (0, oX0 r1 I_1_top)), ((r1 0), .inr (3, oX4 r1_0 )), ((r1_0 0), .inl (cI, 75, .inl A_1_0_0_numbers)), ((r1 1), .inl (cI, 9, .inl A_1_1_b))] H locs → lv_has ls 6 [(0, .ref h0), (1, .ref h1), (2, .int x2), (3, .int x3)] → W p l e rm_X8_tell s m args below meth c H locs 0 0 Q (F0 m 7 ls []) := by
    intro k7
    induction k7 with
    | zero =>
      intro x3 A_0_7_share I_1_top A_1_0_0_numbers A_1_1_b H locs ls h
      unfold lp_X8_tell_7 at h
      exact h.elim
    | succ k7 ih7 =>
      have jq127 : ∀ (x3 : Int32) (A_0_7_share : (Nat → Int32)) (I_1_top : Int32) (A_1_0_0_numbers : (Nat → Int32)) (A_1_1_b : (Nat → Int32)) (H : Heap) (locs : List Loc) (ls : Array Slot) , jn_X8_tell_127 x2 I_0_size A_0_3_source A_0_4_scale A_0_5_shares (fun x3 A_0_7_share I_1_top A_1_0_0_numbers A_1_1_b => lp_X8_tell_7 x2 I_0_size A_0_3_source A_0_4_scale A_0_5_shares (jn_X8_tell_133 x2 I_0_size A_0_3_source A_0_4_scale A_0_5_shares K) K k7 x3 A_0_7_share I_1_top A_1_0_0_numbers A_1_1_b) (jn_X8_tell_133 x2 I_0_size A_0_3_source A_0_4_scale A_0_5_shares K) K x3 A_0_7_share I_1_top A_1_0_0_numbers A_1_1_b → MW D A s.heap [(h0, .inr (7, oX8 r0 I_0_size)), ((r0 3), .inl (cI, 84, .inl A_0_3_source)), ((r0 4), .inl (cI, 84, .inl A_0_4_scale)), ((r0 5), .inl (cI, 7056, .inl A_0_5_shares)), ((r0 7), .inl (cI, 84, .inl A_0_7_share)), (h1, .inr (0, oX0 r1 I_1_top)), ((r1 0), .inr (3, oX4 r1_0 )), ((r1_0 0), .inl (cI, 75, .inl A_1_0_0_numbers)), ((r1 1), .inl (cI, 9, .inl A_1_1_b))] H locs → lv_has ls 6 [(0, .ref h0), (1, .ref h1), (2, .int x2), (3, .int x3)] → W p l e rm_X8_tell s m args below meth c H locs 0 0 Q (F0 m 127 ls []) := by
        intro x3 A_0_7_share I_1_top A_1_0_0_numbers A_1_1_b H locs ls h hM hl
        unfold jn_X8_tell_127 at h
        refine lv_iinc (v := (x3 + (-1 : Int32))) (lv' := [(3, .int (x3 + (-1 : Int32))), (0, .ref h0), (1, .ref h1), (2, .int x2)]) hx hb dX8_tell_127 hl (k := 3) rfl rfl (by decide) rfl (fun ls hl => ?_)
        refine lv_goto (tgt := 7) hx hb dX8_tell_130 (by decide) ?_
        exact ih7 _ _ _ _ _ _ _ _ h hM (lv_sub hl [1, 2, 3, 0] rfl)
      have jq80 : ∀ (x3 : Int32) (x4 : Int32) (A_0_7_share : (Nat → Int32)) (I_1_top : Int32) (A_1_0_0_numbers : (Nat → Int32)) (A_1_1_b : (Nat → Int32)) (H : Heap) (locs : List Loc) (ls : Array Slot) , jn_X8_tell_80 x2 I_0_size A_0_3_source A_0_4_scale A_0_5_shares (fun x3 A_0_7_share I_1_top A_1_0_0_numbers A_1_1_b => lp_X8_tell_7 x2 I_0_size A_0_3_source A_0_4_scale A_0_5_shares (jn_X8_tell_133 x2 I_0_size A_0_3_source A_0_4_scale A_0_5_shares K) K k7 x3 A_0_7_share I_1_top A_1_0_0_numbers A_1_1_b) (jn_X8_tell_133 x2 I_0_size A_0_3_source A_0_4_scale A_0_5_shares K) K x3 x4 A_0_7_share I_1_top A_1_0_0_numbers A_1_1_b → MW D A s.heap [(h0, .inr (7, oX8 r0 I_0_size)), ((r0 3), .inl (cI, 84, .inl A_0_3_source)), ((r0 4), .inl (cI, 84, .inl A_0_4_scale)), ((r0 5), .inl (cI, 7056, .inl A_0_5_shares)), ((r0 7), .inl (cI, 84, .inl A_0_7_share)), (h1, .inr (0, oX0 r1 I_1_top)), ((r1 0), .inr (3, oX4 r1_0 )), ((r1_0 0), .inl (cI, 75, .inl A_1_0_0_numbers)), ((r1 1), .inl (cI, 9, .inl A_1_1_b))] H locs → lv_has ls 6 [(0, .ref h0), (1, .ref h1), (2, .int x2), (3, .int x3), (4, .int x4)] → W p l e rm_X8_tell s m args below meth c H locs 0 0 Q (F0 m 80 ls []) := by
        intro x3 x4 A_0_7_share I_1_top A_1_0_0_numbers A_1_1_b H locs ls h hM hl
        unfold jn_X8_tell_80 at h
        refine lv_aload_n hx hb dX8_tell_80 rfl (lv_at hl 0 rfl) ?_
        refine m_get (C := RX8) (T := TX8) (N := 10) (ci := 7) (ref := "LoweredPowers$Search") (v := .ref (r0 3)) C0 hM 0 rfl rfl kt_X8_tell_X8 3 (by decide) kw_X8_tell_5 rfl rfl dX8_tell_81 ?_
        refine lv_iload_n hx hb dX8_tell_84 rfl (lv_at hl 3 rfl) ?_
        obtain ⟨hc2, h⟩ := h
        refine m_iald C0 hM 1 rfl hc2 dX8_tell_85 ?_
        refine lv_bipush (v := (75 : Int32)) hx hb dX8_tell_86 (by decide) ?_
        refine lv_icmp_ge (tgt := 110) hx hb dX8_tell_88 (by decide) (fun hq => ?_) (fun hq => ?_)
        · have h := h.1 hq
          refine lv_aload_n hx hb dX8_tell_110 rfl (lv_at hl 1 rfl) ?_
          refine m_get (C := RX0) (T := TX0) (N := 7) (ci := 0) (ref := "LoweredPowers$Found") (v := .ref (r1 1)) C0 hM 5 rfl rfl kt_X8_tell_X0 1 (by decide) kw_X8_tell_8 rfl rfl dX8_tell_111 ?_
          refine lv_aload_n hx hb dX8_tell_114 rfl (lv_at hl 0 rfl) ?_
          refine m_get (C := RX8) (T := TX8) (N := 10) (ci := 7) (ref := "LoweredPowers$Search") (v := .ref (r0 3)) C0 hM 0 rfl rfl kt_X8_tell_X8 3 (by decide) kw_X8_tell_5 rfl rfl dX8_tell_115 ?_
          refine lv_iload_n hx hb dX8_tell_118 rfl (lv_at hl 3 rfl) ?_
          refine m_iald C0 hM 1 rfl hc2 dX8_tell_119 ?_
          refine lv_bipush (v := (75 : Int32)) hx hb dX8_tell_120 (by decide) ?_
          refine lv_isub hx hb dX8_tell_122 ?_
          refine lv_iload hx hb dX8_tell_123 (lv_at hl 4 rfl) ?_
          refine lv_ineg hx hb dX8_tell_125 ?_
          refine lv_topi (fun y3 ey3 => ?_)
          have h := h y3 ey3
          obtain ⟨hc4, h⟩ := h
          refine m_iast (ws' := [(h0, .inr (7, oX8 r0 I_0_size)), ((r0 3), .inl (cI, 84, .inl A_0_3_source)), ((r0 4), .inl (cI, 84, .inl A_0_4_scale)), ((r0 5), .inl (cI, 7056, .inl A_0_5_shares)), ((r0 7), .inl (cI, 84, .inl A_0_7_share)), (h1, .inr (0, oX0 r1 I_1_top)), ((r1 0), .inr (3, oX4 r1_0 )), ((r1_0 0), .inl (cI, 75, .inl A_1_0_0_numbers)), ((r1 1), .inl (cI, 9, .inl (upd A_1_1_b (((A_0_3_source (x3).toNatClampNeg) - (75 : Int32))).toNatClampNeg y3)))]) C0 hM 8 rfl hc4 rfl dX8_tell_126 (fun H locs hM => ?_)
          exact jq127 _ _ _ _ _ _ _ _ h hM (lv_sub hl [0, 1, 2, 3] rfl)
        · have h := h.2 hq
          refine lv_aload_n hx hb dX8_tell_91 rfl (lv_at hl 1 rfl) ?_
          refine m_get (C := RX0) (T := TX0) (N := 7) (ci := 0) (ref := "LoweredPowers$Found") (v := .ref (r1 0)) C0 hM 5 rfl rfl kt_X8_tell_X0 0 (by decide) kw_X8_tell_6 rfl rfl dX8_tell_92 ?_
          refine m_get (C := RX4) (T := TX4) (N := 1) (ci := 3) (ref := "LoweredPowers$Operator") (v := .ref (r1_0 0)) C0 hM 6 rfl rfl kt_X8_tell_X4 0 (by decide) kw_X8_tell_7 rfl rfl dX8_tell_95 ?_
          refine lv_aload_n hx hb dX8_tell_98 rfl (lv_at hl 0 rfl) ?_
          refine m_get (C := RX8) (T := TX8) (N := 10) (ci := 7) (ref := "LoweredPowers$Search") (v := .ref (r0 3)) C0 hM 0 rfl rfl kt_X8_tell_X8 3 (by decide) kw_X8_tell_5 rfl rfl dX8_tell_99 ?_
          refine lv_iload_n hx hb dX8_tell_102 rfl (lv_at hl 3 rfl) ?_
          refine m_iald C0 hM 1 rfl hc2 dX8_tell_103 ?_
          refine lv_iload hx hb dX8_tell_104 (lv_at hl 4 rfl) ?_
          obtain ⟨hc5, h⟩ := h
          refine m_iast (ws' := [(h0, .inr (7, oX8 r0 I_0_size)), ((r0 3), .inl (cI, 84, .inl A_0_3_source)), ((r0 4), .inl (cI, 84, .inl A_0_4_scale)), ((r0 5), .inl (cI, 7056, .inl A_0_5_shares)), ((r0 7), .inl (cI, 84, .inl A_0_7_share)), (h1, .inr (0, oX0 r1 I_1_top)), ((r1 0), .inr (3, oX4 r1_0 )), ((r1_0 0), .inl (cI, 75, .inl (upd A_1_0_0_numbers ((A_0_3_source (x3).toNatClampNeg)).toNatClampNeg x4))), ((r1 1), .inl (cI, 9, .inl A_1_1_b))]) C0 hM 7 rfl hc5 rfl dX8_tell_106 (fun H locs hM => ?_)
          refine lv_goto (tgt := 127) hx hb dX8_tell_107 (by decide) ?_
          exact jq127 _ _ _ _ _ _ _ _ h hM (lv_sub hl [0, 1, 2, 3] rfl)
      have lq34 : ∀ (k34 : Nat) (x3 : Int32) (x4 : Int32) (x5 : Int32) (A_0_7_share : (Nat → Int32)) (I_1_top : Int32) (A_1_0_0_numbers : (Nat → Int32)) (A_1_1_b : (Nat → Int32)) (H : Heap) (locs : List Loc) (ls : Array Slot) , lp_X8_tell_34 x2 I_0_size A_0_3_source A_0_4_scale A_0_5_shares (jn_X8_tell_80 x2 I_0_size A_0_3_source A_0_4_scale A_0_5_shares (fun x3 A_0_7_share I_1_top A_1_0_0_numbers A_1_1_b => lp_X8_tell_7 x2 I_0_size A_0_3_source A_0_4_scale A_0_5_shares (jn_X8_tell_133 x2 I_0_size A_0_3_source A_0_4_scale A_0_5_shares K) K k7 x3 A_0_7_share I_1_top A_1_0_0_numbers A_1_1_b) (jn_X8_tell_133 x2 I_0_size A_0_3_source A_0_4_scale A_0_5_shares K) K) K k34 x3 x4 x5 A_0_7_share I_1_top A_1_0_0_numbers A_1_1_b → MW D A s.heap [(h0, .inr (7, oX8 r0 I_0_size)), ((r0 3), .inl (cI, 84, .inl A_0_3_source)), ((r0 4), .inl (cI, 84, .inl A_0_4_scale)), ((r0 5), .inl (cI, 7056, .inl A_0_5_shares)), ((r0 7), .inl (cI, 84, .inl A_0_7_share)), (h1, .inr (0, oX0 r1 I_1_top)), ((r1 0), .inr (3, oX4 r1_0 )), ((r1_0 0), .inl (cI, 75, .inl A_1_0_0_numbers)), ((r1 1), .inl (cI, 9, .inl A_1_1_b))] H locs → lv_has ls 6 [(0, .ref h0), (1, .ref h1), (2, .int x2), (3, .int x3), (4, .int x4), (5, .int x5)] → W p l e rm_X8_tell s m args below meth c H locs 0 0 Q (F0 m 34 ls []) := by
        intro k34
        induction k34 with
        | zero =>
          intro x3 x4 x5 A_0_7_share I_1_top A_1_0_0_numbers A_1_1_b H locs ls h
          unfold lp_X8_tell_34 at h
          exact h.elim
        | succ k34 ih34 =>
          intro x3 x4 x5 A_0_7_share I_1_top A_1_0_0_numbers A_1_1_b H locs ls h hM hl
          unfold lp_X8_tell_34 at h
          refine lv_iload hx hb dX8_tell_34 (lv_at hl 5 rfl) ?_
          refine lv_iload_n hx hb dX8_tell_36 rfl (lv_at hl 3 rfl) ?_
          refine lv_icmp_ge (tgt := 80) hx hb dX8_tell_37 (by decide) (fun hq => ?_) (fun hq => ?_)
          · have h := h.1 hq
            exact jq80 _ _ _ _ _ _ _ _ _ h hM (lv_sub hl [0, 1, 2, 3, 4] rfl)
          · have h := h.2 hq
            refine lv_aload_n hx hb dX8_tell_40 rfl (lv_at hl 0 rfl) ?_
            refine m_get (C := RX8) (T := TX8) (N := 10) (ci := 7) (ref := "LoweredPowers$Search") (v := .ref (r0 7)) C0 hM 0 rfl rfl kt_X8_tell_X8 7 (by decide) kw_X8_tell_2 rfl rfl dX8_tell_41 ?_
            refine lv_iload hx hb dX8_tell_44 (lv_at hl 5 rfl) ?_
            refine lv_aload_n hx hb dX8_tell_46 rfl (lv_at hl 0 rfl) ?_
            refine m_get (C := RX8) (T := TX8) (N := 10) (ci := 7) (ref := "LoweredPowers$Search") (v := .ref (r0 7)) C0 hM 0 rfl rfl kt_X8_tell_X8 7 (by decide) kw_X8_tell_2 rfl rfl dX8_tell_47 ?_
            refine lv_iload hx hb dX8_tell_50 (lv_at hl 5 rfl) ?_
            obtain ⟨hc6, h⟩ := h
            refine m_iald C0 hM 4 rfl hc6 dX8_tell_52 ?_
            refine lv_iload hx hb dX8_tell_53 (lv_at hl 4 rfl) ?_
            refine lv_aload_n hx hb dX8_tell_55 rfl (lv_at hl 0 rfl) ?_
            refine m_get (C := RX8) (T := TX8) (N := 10) (ci := 7) (ref := "LoweredPowers$Search") (v := .ref (r0 5)) C0 hM 0 rfl rfl kt_X8_tell_X8 5 (by decide) kw_X8_tell_4 rfl rfl dX8_tell_56 ?_
            refine lv_iload_n hx hb dX8_tell_59 rfl (lv_at hl 3 rfl) ?_
            refine lv_bipush (v := (84 : Int32)) hx hb dX8_tell_60 (by decide) ?_
            refine lv_imul hx hb dX8_tell_62 ?_
            refine lv_iload hx hb dX8_tell_63 (lv_at hl 5 rfl) ?_
            refine lv_iadd hx hb dX8_tell_65 ?_
            obtain ⟨hc7, h⟩ := h
            refine m_iald C0 hM 3 rfl hc7 dX8_tell_66 ?_
            refine lv_imul hx hb dX8_tell_67 ?_
            refine lv_isub hx hb dX8_tell_68 ?_
            refine lv_sipush (v := (10007 : Int32)) hx hb dX8_tell_69 (by decide) ?_
            refine lv_irem hx hb dX8_tell_72 (by decide) ?_
            refine lv_topi (fun y8 ey8 => ?_)
            have h := h y8 ey8
            refine m_iast (ws' := [(h0, .inr (7, oX8 r0 I_0_size)), ((r0 3), .inl (cI, 84, .inl A_0_3_source)), ((r0 4), .inl (cI, 84, .inl A_0_4_scale)), ((r0 5), .inl (cI, 7056, .inl A_0_5_shares)), ((r0 7), .inl (cI, 84, .inl (upd A_0_7_share (x5).toNatClampNeg y8))), (h1, .inr (0, oX0 r1 I_1_top)), ((r1 0), .inr (3, oX4 r1_0 )), ((r1_0 0), .inl (cI, 75, .inl A_1_0_0_numbers)), ((r1 1), .inl (cI, 9, .inl A_1_1_b))]) C0 hM 4 rfl hc6 rfl dX8_tell_73 (fun H locs hM => ?_)
            refine lv_iinc (v := (x5 + (1 : Int32))) (lv' := [(5, .int (x5 + (1 : Int32))), (0, .ref h0), (1, .ref h1), (2, .int x2), (3, .int x3), (4, .int x4)]) hx hb dX8_tell_74 hl (k := 5) rfl rfl (by decide) rfl (fun ls hl => ?_)
            refine lv_goto (tgt := 34) hx hb dX8_tell_77 (by decide) ?_
            exact ih34 _ _ _ _ _ _ _ _ _ _ h hM (lv_sub hl [1, 2, 3, 4, 5, 0] rfl)
      intro x3 A_0_7_share I_1_top A_1_0_0_numbers A_1_1_b H locs ls h hM hl
      unfold lp_X8_tell_7 at h
      refine lv_iload_n hx hb dX8_tell_7 rfl (lv_at hl 3 rfl) ?_
      refine lv_if_lt (tgt := 133) hx hb dX8_tell_8 (by decide) (fun hq => ?_) (fun hq => ?_)
      · have h := h.1 hq
        exact jq133 _ _ _ _ _ _ _ h hM (lv_sub hl [1, 2] rfl)
      · have h := h.2 hq
        refine lv_aload_n hx hb dX8_tell_11 rfl (lv_at hl 0 rfl) ?_
        refine m_get (C := RX8) (T := TX8) (N := 10) (ci := 7) (ref := "LoweredPowers$Search") (v := .ref (r0 7)) C0 hM 0 rfl rfl kt_X8_tell_X8 7 (by decide) kw_X8_tell_2 rfl rfl dX8_tell_12 ?_
        refine lv_iload_n hx hb dX8_tell_15 rfl (lv_at hl 3 rfl) ?_
        obtain ⟨hc9, h⟩ := h
        refine m_iald C0 hM 4 rfl hc9 dX8_tell_16 ?_
        refine lv_i2l hx hb dX8_tell_17 rfl ?_
        refine lv_aload_n hx hb dX8_tell_18 rfl (lv_at hl 0 rfl) ?_
        refine m_get (C := RX8) (T := TX8) (N := 10) (ci := 7) (ref := "LoweredPowers$Search") (v := .ref (r0 4)) C0 hM 0 rfl rfl kt_X8_tell_X8 4 (by decide) kw_X8_tell_3 rfl rfl dX8_tell_19 ?_
        refine lv_iload_n hx hb dX8_tell_22 rfl (lv_at hl 3 rfl) ?_
        refine m_iald C0 hM 2 rfl hc9 dX8_tell_23 ?_
        refine lv_i2l hx hb dX8_tell_24 rfl ?_
        refine lv_lmul hx hb dX8_tell_25 ?_
        refine m_calli (wc := []) C0 hM [] rfl (m_runS (wc := []) (As := [.long (((A_0_7_share (x3).toNatClampNeg).toInt64) * ((A_0_4_scale (x3).toNatClampNeg).toInt64))]) (rest := []) C0 hM (ct_X3_fold l D cI cJ cZ (((A_0_7_share (x3).toNatClampNeg).toInt64) * ((A_0_4_scale (x3).toNatClampNeg).toInt64)) _ _ h) [] rfl (by decide) gX8_tell_X3_fold rfl rfl rfl hd_X3_fold ⟨Nat.le_of_ble_eq_true rfl, Nat.le_of_ble_eq_true rfl⟩ rfl hl.1 rfl (Nat.le_of_ble_eq_true rfl) dX8_tell_26 ⟨Nat.le_of_ble_eq_true rfl, Nat.le_of_ble_eq_true rfl⟩) (fun _ => [(h0, .inr (7, oX8 r0 I_0_size)), ((r0 3), .inl (cI, 84, .inl A_0_3_source)), ((r0 4), .inl (cI, 84, .inl A_0_4_scale)), ((r0 5), .inl (cI, 7056, .inl A_0_5_shares)), ((r0 7), .inl (cI, 84, .inl A_0_7_share)), (h1, .inr (0, oX0 r1 I_1_top)), ((r1 0), .inr (3, oX4 r1_0 )), ((r1_0 0), .inl (cI, 75, .inl A_1_0_0_numbers)), ((r1 1), .inl (cI, 9, .inl A_1_1_b))]) (fun _ => rfl) (fun _ => rfl) (fun y10 _ H locs h hM => ?_)
        refine lv_istore (lv' := [(4, .int y10), (0, .ref h0), (1, .ref h1), (2, .int x2), (3, .int x3)]) hx hb dX8_tell_29 hl (by decide) rfl (fun ls hl => ?_)
        refine lv_iconst (v := (0 : Int32)) hx hb dX8_tell_31 (by decide) ?_
        refine lv_istore (lv' := [(5, .int (0 : Int32)), (4, .int y10), (0, .ref h0), (1, .ref h1), (2, .int x2), (3, .int x3)]) hx hb dX8_tell_32 hl (by decide) rfl (fun ls hl => ?_)
        obtain ⟨k0, h⟩ := h
        exact lq34 k0 _ _ _ _ _ _ _ _ _ _ h hM (lv_sub hl [2, 3, 4, 5, 1, 0] rfl)
  unfold wp_X8_tell at h
  refine lv_aload_n hx hb dX8_tell_0 rfl (lv_at hl 0 rfl) ?_
  refine m_get (C := RX8) (T := TX8) (N := 10) (ci := 7) (ref := "LoweredPowers$Search") (v := .int I_0_size) C0 hM 0 rfl rfl kt_X8_tell_X8 9 (by decide) kw_X8_tell_1 rfl rfl dX8_tell_1 ?_
  refine lv_iconst (v := (1 : Int32)) hx hb dX8_tell_4 (by decide) ?_
  refine lv_isub hx hb dX8_tell_5 ?_
  refine lv_topi (fun y11 ey11 => ?_)
  have h := h y11 ey11
  refine lv_istore_n (lv' := [(3, .int y11), (0, .ref h0), (1, .ref h1), (2, .int x2)]) hx hb dX8_tell_6 rfl hl (by decide) rfl (fun ls hl => ?_)
  obtain ⟨k0, h⟩ := h
  exact lq7 k0 _ _ _ _ _ _ _ _ h hM (lv_sub hl [1, 2, 3, 0] rfl)
abbrev rm_X8_seek : Room := { frames := 4, cells := 0, slots := 0, locals := 93 }
set_option maxRecDepth 100000 in
set_option maxHeartbeats 4000000 in
theorem ct_X8_seek (l : Launch) (D : va_G) (cI cJ cZ : ClassId) (h0 : Nat) (h1 : Nat) (h2 : Nat) (r0 : Nat → Nat) (r1 : Nat → Nat) (r2 : Nat → Nat) (r2_2 : Nat → Nat) (r2_2_0 : Nat → Nat) (I_0_size : Int32) (A_0_0_steps : (Nat → Int32)) (A_0_1_lead : (Nat → Int32)) (A_0_2_end : (Nat → Int32)) (A_0_3_source : (Nat → Int32)) (A_0_4_scale : (Nat → Int32)) (A_0_5_shares : (Nat → Int32)) (A_0_6_column : (Nat → Int32)) (A_0_7_share : (Nat → Int32)) (A_0_8_base : (Nat → Int32)) (A_1_3_derived : (Nat → Int32)) (A_1_4_next : (Nat → Int32)) (A_2_0_f : (Nat → Int32)) (I_2_2_top : Int32) (A_2_2_0_0_numbers : (Nat → Int32)) (A_2_2_1_b : (Nat → Int32)) (x3 : Int32) (x4 : Int32) (x5 : Int32) (sz : Nat) (K : Int32 → Int32 → (Nat → Int32) → (Nat → Int32) → (Nat → Int32) → (Nat → Int32) → (Nat → Int32) → (Nat → Int32) → (Nat → Int32) → (Nat → Int32) → (Nat → Int32) → (Nat → Int32) → (Nat → Int32) → Int32 → (Nat → Int32) → (Nat → Int32) → Prop) (h : wp_X8_seek x3 x4 x5 I_0_size A_0_0_steps A_0_1_lead A_0_2_end A_0_3_source A_0_4_scale A_0_5_shares A_0_6_column A_0_7_share A_0_8_base A_1_3_derived A_1_4_next A_2_0_f I_2_2_top A_2_2_0_0_numbers A_2_2_1_b K) : Met l yX8_seek wsX8_seek rm_X8_seek (va_Pc [.ref h0, .ref h1, .ref h2, .int x3, .int x4, .int x5] (WX D cI cJ cZ [(h0, .inr (7, oX8 r0 I_0_size)), ((r0 0), .inl (cI, 18900, .inl A_0_0_steps)), ((r0 1), .inl (cI, 84, .inl A_0_1_lead)), ((r0 2), .inl (cI, 84, .inl A_0_2_end)), ((r0 3), .inl (cI, 84, .inl A_0_3_source)), ((r0 4), .inl (cI, 84, .inl A_0_4_scale)), ((r0 5), .inl (cI, 7056, .inl A_0_5_shares)), ((r0 6), .inl (cI, 225, .inl A_0_6_column)), ((r0 7), .inl (cI, 84, .inl A_0_7_share)), ((r0 8), .inl (cI, 225, .inl A_0_8_base)), (h1, .inr (2, oX2 r1 )), ((r1 3), .inl (cI, 225, .inl A_1_3_derived)), ((r1 4), .inl (cI, 225, .inl A_1_4_next)), (h2, .inr (8, oX9 r2 )), ((r2 0), .inl (cI, 5, .inl A_2_0_f)), ((r2 2), .inr (0, oX0 r2_2 I_2_2_top)), ((r2_2 0), .inr (3, oX4 r2_2_0 )), ((r2_2_0 0), .inl (cI, 75, .inl A_2_2_0_0_numbers)), ((r2_2 1), .inl (cI, 9, .inl A_2_2_1_b))] sz)) (va_Qi (fun (r : Int32) (u : Int32 × (Nat → Int32) × (Nat → Int32) × (Nat → Int32) × (Nat → Int32) × (Nat → Int32) × (Nat → Int32) × (Nat → Int32) × (Nat → Int32) × (Nat → Int32) × (Nat → Int32) × (Nat → Int32) × Int32 × (Nat → Int32) × (Nat → Int32)) => K r u.1 u.2.1 u.2.2.1 u.2.2.2.1 u.2.2.2.2.1 u.2.2.2.2.2.1 u.2.2.2.2.2.2.1 u.2.2.2.2.2.2.2.1 u.2.2.2.2.2.2.2.2.1 u.2.2.2.2.2.2.2.2.2.1 u.2.2.2.2.2.2.2.2.2.2.1 u.2.2.2.2.2.2.2.2.2.2.2.1 u.2.2.2.2.2.2.2.2.2.2.2.2.1 u.2.2.2.2.2.2.2.2.2.2.2.2.2.1 u.2.2.2.2.2.2.2.2.2.2.2.2.2.2) (fun (u : Int32 × (Nat → Int32) × (Nat → Int32) × (Nat → Int32) × (Nat → Int32) × (Nat → Int32) × (Nat → Int32) × (Nat → Int32) × (Nat → Int32) × (Nat → Int32) × (Nat → Int32) × (Nat → Int32) × Int32 × (Nat → Int32) × (Nat → Int32)) t => WY D (va_A [(h0, .inr (7, oX8 r0 I_0_size)), ((r0 0), .inl (cI, 18900, .inl A_0_0_steps)), ((r0 1), .inl (cI, 84, .inl A_0_1_lead)), ((r0 2), .inl (cI, 84, .inl A_0_2_end)), ((r0 3), .inl (cI, 84, .inl A_0_3_source)), ((r0 4), .inl (cI, 84, .inl A_0_4_scale)), ((r0 5), .inl (cI, 7056, .inl A_0_5_shares)), ((r0 6), .inl (cI, 225, .inl A_0_6_column)), ((r0 7), .inl (cI, 84, .inl A_0_7_share)), ((r0 8), .inl (cI, 225, .inl A_0_8_base)), (h1, .inr (2, oX2 r1 )), ((r1 3), .inl (cI, 225, .inl A_1_3_derived)), ((r1 4), .inl (cI, 225, .inl A_1_4_next)), (h2, .inr (8, oX9 r2 )), ((r2 0), .inl (cI, 5, .inl A_2_0_f)), ((r2 2), .inr (0, oX0 r2_2 I_2_2_top)), ((r2_2 0), .inr (3, oX4 r2_2_0 )), ((r2_2_0 0), .inl (cI, 75, .inl A_2_2_0_0_numbers)), ((r2_2 1), .inl (cI, 9, .inl A_2_2_1_b))] sz) [(h0, .inr (7, oX8 r0 u.1)), ((r0 0), .inl (cI, 18900, .inl u.2.1)), ((r0 1), .inl (cI, 84, .inl u.2.2.1)), ((r0 2), .inl (cI, 84, .inl u.2.2.2.1)), ((r0 3), .inl (cI, 84, .inl u.2.2.2.2.1)), ((r0 4), .inl (cI, 84, .inl u.2.2.2.2.2.1)), ((r0 5), .inl (cI, 7056, .inl u.2.2.2.2.2.2.1)), ((r0 6), .inl (cI, 225, .inl u.2.2.2.2.2.2.2.1)), ((r0 7), .inl (cI, 84, .inl u.2.2.2.2.2.2.2.2.1)), ((r0 8), .inl (cI, 225, .inl u.2.2.2.2.2.2.2.2.2.1)), (h1, .inr (2, oX2 r1 )), ((r1 3), .inl (cI, 225, .inl u.2.2.2.2.2.2.2.2.2.2.1)), ((r1 4), .inl (cI, 225, .inl u.2.2.2.2.2.2.2.2.2.2.2.1)), (h2, .inr (8, oX9 r2 )), ((r2 0), .inl (cI, 5, .inl A_2_0_f)), ((r2 2), .inr (0, oX0 r2_2 u.2.2.2.2.2.2.2.2.2.2.2.2.1)), ((r2_2 0), .inr (3, oX4 r2_2_0 )), ((r2_2_0 0), .inl (cI, 75, .inl u.2.2.2.2.2.2.2.2.2.2.2.2.2.1)), ((r2_2 1), .inl (cI, 9, .inl u.2.2.2.2.2.2.2.2.2.2.2.2.2.2))] t) (va_A [(h0, .inr (7, oX8 r0 I_0_size)), ((r0 0), .inl (cI, 18900, .inl A_0_0_steps)), ((r0 1), .inl (cI, 84, .inl A_0_1_lead)), ((r0 2), .inl (cI, 84, .inl A_0_2_end)), ((r0 3), .inl (cI, 84, .inl A_0_3_source)), ((r0 4), .inl (cI, 84, .inl A_0_4_scale)), ((r0 5), .inl (cI, 7056, .inl A_0_5_shares)), ((r0 6), .inl (cI, 225, .inl A_0_6_column)), ((r0 7), .inl (cI, 84, .inl A_0_7_share)), ((r0 8), .inl (cI, 225, .inl A_0_8_base)), (h1, .inr (2, oX2 r1 )), ((r1 3), .inl (cI, 225, .inl A_1_3_derived)), ((r1 4), .inl (cI, 225, .inl A_1_4_next)), (h2, .inr (8, oX9 r2 )), ((r2 0), .inl (cI, 5, .inl A_2_0_f)), ((r2 2), .inr (0, oX0 r2_2 I_2_2_top)), ((r2_2 0), .inr (3, oX4 r2_2_0 )), ((r2_2_0 0), .inl (cI, 75, .inl A_2_2_0_0_numbers)), ((r2_2 1), .inl (cI, 9, .inl A_2_2_1_b))] sz)) 0 0 (va_A [(h0, .inr (7, oX8 r0 I_0_size)), ((r0 0), .inl (cI, 18900, .inl A_0_0_steps)), ((r0 1), .inl (cI, 84, .inl A_0_1_lead)), ((r0 2), .inl (cI, 84, .inl A_0_2_end)), ((r0 3), .inl (cI, 84, .inl A_0_3_source)), ((r0 4), .inl (cI, 84, .inl A_0_4_scale)), ((r0 5), .inl (cI, 7056, .inl A_0_5_shares)), ((r0 6), .inl (cI, 225, .inl A_0_6_column)), ((r0 7), .inl (cI, 84, .inl A_0_7_share)), ((r0 8), .inl (cI, 225, .inl A_0_8_base)), (h1, .inr (2, oX2 r1 )), ((r1 3), .inl (cI, 225, .inl A_1_3_derived)), ((r1 4), .inl (cI, 225, .inl A_1_4_next)), (h2, .inr (8, oX9 r2 )), ((r2 0), .inl (cI, 5, .inl A_2_0_f)), ((r2 2), .inr (0, oX0 r2_2 I_2_2_top)), ((r2_2 0), .inr (3, oX4 r2_2_0 )), ((r2_2_0 0), .inl (cI, 75, .inl A_2_2_0_0_numbers)), ((r2_2 1), .inl (cI, 9, .inl A_2_2_1_b))] sz) := by
  refine m_met (own := RX8) (cc := cX8_seek) (maxL := 7) (ret := some .boolean) [.ref h0, .ref h1, .ref h2, .int x3, .int x4, .int x5] [(0, .ref h0), (1, .ref h1), (2, .ref h2), (3, .int x3), (4, .int x4), (5, .int x5)] (by decide) rfl rfl (Nat.le_of_ble_eq_true rfl) rfl ?_
  intro p e s m args below meth c Q A hQ hA C0 hr hnm hsz hM ls hl
  have hx := C0.1
  have hb := C0.2.1
  have hown := C0.2.2.2.1
  have jq117 : ∀ (x6 : Int32) (I_0_size : Int32) (A_0_0_steps : (Nat → Int32)) (A_0_1_lead : (Nat → Int32)) (A_0_2_end : (Nat → Int32)) (A_0_3_source : (Nat → Int32)) (A_0_4_scale : (Nat → Int32)) (A_0_5_shares : (Nat → Int32)) (A_0_6_column : (Nat → Int32)) (A_0_7_share : (Nat → Int32)) (A_0_8_base : (Nat → Int32)) (A_1_3_derived : (Nat → Int32)) (A_1_4_next : (Nat → Int32)) (I_2_2_top : Int32) (A_2_2_0_0_numbers : (Nat → Int32)) (A_2_2_1_b : (Nat → Int32)) (H : Heap) (locs : List Loc) (ls : Array Slot) , jn_X8_seek_117 x3 x4 x5 A_2_0_f K x6 I_0_size A_0_0_steps A_0_1_lead A_0_2_end A_0_3_source A_0_4_scale A_0_5_shares A_0_6_column A_0_7_share A_0_8_base A_1_3_derived A_1_4_next I_2_2_top A_2_2_0_0_numbers A_2_2_1_b → MW D A s.heap [(h0, .inr (7, oX8 r0 I_0_size)), ((r0 0), .inl (cI, 18900, .inl A_0_0_steps)), ((r0 1), .inl (cI, 84, .inl A_0_1_lead)), ((r0 2), .inl (cI, 84, .inl A_0_2_end)), ((r0 3), .inl (cI, 84, .inl A_0_3_source)), ((r0 4), .inl (cI, 84, .inl A_0_4_scale)), ((r0 5), .inl (cI, 7056, .inl A_0_5_shares)), ((r0 6), .inl (cI, 225, .inl A_0_6_column)), ((r0 7), .inl (cI, 84, .inl A_0_7_share)), ((r0 8), .inl (cI, 225, .inl A_0_8_base)), (h1, .inr (2, oX2 r1 )), ((r1 3), .inl (cI, 225, .inl A_1_3_derived)), ((r1 4), .inl (cI, 225, .inl A_1_4_next)), (h2, .inr (8, oX9 r2 )), ((r2 0), .inl (cI, 5, .inl A_2_0_f)), ((r2 2), .inr (0, oX0 r2_2 I_2_2_top)), ((r2_2 0), .inr (3, oX4 r2_2_0 )), ((r2_2_0 0), .inl (cI, 75, .inl A_2_2_0_0_numbers)), ((r2_2 1), .inl (cI, 9, .inl A_2_2_1_b))] H locs → lv_has ls 7 [(0, .ref h0), (2, .ref h2), (6, .int x6)] → W p l e rm_X8_seek s m args below meth c H locs 0 0 Q (F0 m 117 ls []) := by
    intro x6 I_0_size A_0_0_steps A_0_1_lead A_0_2_end A_0_3_source A_0_4_scale A_0_5_shares A_0_6_column A_0_7_share A_0_8_base A_1_3_derived A_1_4_next I_2_2_top A_2_2_0_0_numbers A_2_2_1_b H locs ls h hM hl
    unfold jn_X8_seek_117 at h
    refine lv_aload_n hx hb dX8_seek_117 rfl (lv_at hl 0 rfl) ?_
    refine lv_aload_n hx hb dX8_seek_118 rfl (lv_at hl 1 rfl) ?_
    refine m_get (C := RX9) (T := TX9) (N := 4) (ci := 8) (ref := "LoweredPowers$State") (v := .ref (r2 2)) C0 hM 13 rfl rfl kt_X8_seek_X9 2 (by decide) kw_X8_seek_2 rfl rfl dX8_seek_119 ?_
    refine lv_iload hx hb dX8_seek_122 (lv_at hl 2 rfl) ?_
    refine m_callv2 (wc := [(h0, .inr (7, oX8 r0 I_0_size)), ((r0 3), .inl (cI, 84, .inl A_0_3_source)), ((r0 4), .inl (cI, 84, .inl A_0_4_scale)), ((r0 5), .inl (cI, 7056, .inl A_0_5_shares)), ((r0 7), .inl (cI, 84, .inl A_0_7_share)), ((r2 2), .inr (0, oX0 r2_2 I_2_2_top)), ((r2_2 0), .inr (3, oX4 r2_2_0 )), ((r2_2_0 0), .inl (cI, 75, .inl A_2_2_0_0_numbers)), ((r2_2 1), .inl (cI, 9, .inl A_2_2_1_b))]) C0 hM [0, 4, 5, 6, 8, 15, 16, 17, 18] [1, 2, 3, 7, 9, 10, 11, 12, 13, 14] rfl (m_runV (wc := [(h0, .inr (7, oX8 r0 I_0_size)), ((r0 3), .inl (cI, 84, .inl A_0_3_source)), ((r0 4), .inl (cI, 84, .inl A_0_4_scale)), ((r0 5), .inl (cI, 7056, .inl A_0_5_shares)), ((r0 7), .inl (cI, 84, .inl A_0_7_share)), ((r2 2), .inr (0, oX0 r2_2 I_2_2_top)), ((r2_2 0), .inr (3, oX4 r2_2_0 )), ((r2_2_0 0), .inl (cI, 75, .inl A_2_2_0_0_numbers)), ((r2_2 1), .inl (cI, 9, .inl A_2_2_1_b))]) (As := [.ref (r2 2), .int x6]) (rest := []) (ci := 7) C0 hM (ct_X8_tell l D cI cJ cZ h0 (r2 2) r0 r2_2 r2_2_0 I_0_size A_0_3_source A_0_4_scale A_0_5_shares A_0_7_share I_2_2_top A_2_2_0_0_numbers A_2_2_1_b x6 _ _ h) [0, 4, 5, 6, 8, 15, 16, 17, 18] rfl (by decide) gX8_seek_X8_tell rfl rfl rfl rfl rfl hd_X8_tell ⟨Nat.le_of_ble_eq_true rfl, Nat.le_of_ble_eq_true rfl⟩ rfl hl.1 rfl (Nat.le_of_ble_eq_true rfl) dX8_seek_124 ⟨Nat.le_of_ble_eq_true rfl, Nat.le_of_ble_eq_true rfl⟩) (fun u => [(h0, .inr (7, oX8 r0 I_0_size)), ((r0 0), .inl (cI, 18900, .inl A_0_0_steps)), ((r0 1), .inl (cI, 84, .inl A_0_1_lead)), ((r0 2), .inl (cI, 84, .inl A_0_2_end)), ((r0 3), .inl (cI, 84, .inl A_0_3_source)), ((r0 4), .inl (cI, 84, .inl A_0_4_scale)), ((r0 5), .inl (cI, 7056, .inl A_0_5_shares)), ((r0 6), .inl (cI, 225, .inl A_0_6_column)), ((r0 7), .inl (cI, 84, .inl u.1)), ((r0 8), .inl (cI, 225, .inl A_0_8_base)), (h1, .inr (2, oX2 r1 )), ((r1 3), .inl (cI, 225, .inl A_1_3_derived)), ((r1 4), .inl (cI, 225, .inl A_1_4_next)), (h2, .inr (8, oX9 r2 )), ((r2 0), .inl (cI, 5, .inl A_2_0_f)), ((r2 2), .inr (0, oX0 r2_2 u.2.1)), ((r2_2 0), .inr (3, oX4 r2_2_0 )), ((r2_2_0 0), .inl (cI, 75, .inl u.2.2.1)), ((r2_2 1), .inl (cI, 9, .inl u.2.2.2))]) (fun _ => rfl) [((r0 0), .inl (cI, 18900, .inl A_0_0_steps)), ((r0 1), .inl (cI, 84, .inl A_0_1_lead)), ((r0 2), .inl (cI, 84, .inl A_0_2_end)), ((r0 6), .inl (cI, 225, .inl A_0_6_column)), ((r0 8), .inl (cI, 225, .inl A_0_8_base)), (h1, .inr (2, oX2 r1 )), ((r1 3), .inl (cI, 225, .inl A_1_3_derived)), ((r1 4), .inl (cI, 225, .inl A_1_4_next)), (h2, .inr (8, oX9 r2 )), ((r2 0), .inl (cI, 5, .inl A_2_0_f))] (fun _ => rfl) rfl (fun _ => rfl) (show ∀ i, i < 19 → i ∈ ([0, 4, 5, 6, 8, 15, 16, 17, 18] : List Nat) ∨ i ∈ ([1, 2, 3, 7, 9, 10, 11, 12, 13, 14] : List Nat) from by decide) (fun u H locs h hM => ?_)
    obtain ⟨b1, b2, b3, b4⟩ := u
    dsimp only at h
    have hM : MW D A s.heap [(h0, .inr (7, oX8 r0 I_0_size)), ((r0 0), .inl (cI, 18900, .inl A_0_0_steps)), ((r0 1), .inl (cI, 84, .inl A_0_1_lead)), ((r0 2), .inl (cI, 84, .inl A_0_2_end)), ((r0 3), .inl (cI, 84, .inl A_0_3_source)), ((r0 4), .inl (cI, 84, .inl A_0_4_scale)), ((r0 5), .inl (cI, 7056, .inl A_0_5_shares)), ((r0 6), .inl (cI, 225, .inl A_0_6_column)), ((r0 7), .inl (cI, 84, .inl b1)), ((r0 8), .inl (cI, 225, .inl A_0_8_base)), (h1, .inr (2, oX2 r1 )), ((r1 3), .inl (cI, 225, .inl A_1_3_derived)), ((r1 4), .inl (cI, 225, .inl A_1_4_next)), (h2, .inr (8, oX9 r2 )), ((r2 0), .inl (cI, 5, .inl A_2_0_f)), ((r2 2), .inr (0, oX0 r2_2 b2)), ((r2_2 0), .inr (3, oX4 r2_2_0 )), ((r2_2_0 0), .inl (cI, 75, .inl b3)), ((r2_2 1), .inl (cI, 9, .inl b4))] H locs := hM
    refine lv_iconst (v := (1 : Int32)) hx hb dX8_seek_127 (by decide) ?_
    subst hsz; subst hA; subst hQ
    exact m_zret C0 hr hM rfl (I_0_size, A_0_0_steps, A_0_1_lead, A_0_2_end, A_0_3_source, A_0_4_scale, A_0_5_shares, A_0_6_column, b1, A_0_8_base, A_1_3_derived, A_1_4_next, b2, b3, b4) h rfl dX8_seek_128
  have lq96 : ∀ (k96 : Nat) (x6 : Int32) (I_0_size : Int32) (A_0_0_steps : (Nat → Int32)) (A_0_1_lead : (Nat → Int32)) (A_0_2_end : (Nat → Int32)) (A_0_3_source : (Nat → Int32)) (A_0_4_scale : (Nat → Int32)) (A_0_5_shares : (Nat → Int32)) (A_0_6_column : (Nat → Int32)) (A_0_7_share : (Nat → Int32)) (A_0_8_base : (Nat → Int32)) (A_1_3_derived : (Nat → Int32)) (A_1_4_next : (Nat → Int32)) (I_2_2_top : Int32) (A_2_2_0_0_numbers : (Nat → Int32)) (A_2_2_1_b : (Nat → Int32)) (H : Heap) (locs : List Loc) (ls : Array Slot) , lp_X8_seek_96 x3 x4 x5 A_2_0_f (jn_X8_seek_117 x3 x4 x5 A_2_0_f K) K k96 x6 I_0_size A_0_0_steps A_0_1_lead A_0_2_end A_0_3_source A_0_4_scale A_0_5_shares A_0_6_column A_0_7_share A_0_8_base A_1_3_derived A_1_4_next I_2_2_top A_2_2_0_0_numbers A_2_2_1_b → MW D A s.heap [(h0, .inr (7, oX8 r0 I_0_size)), ((r0 0), .inl (cI, 18900, .inl A_0_0_steps)), ((r0 1), .inl (cI, 84, .inl A_0_1_lead)), ((r0 2), .inl (cI, 84, .inl A_0_2_end)), ((r0 3), .inl (cI, 84, .inl A_0_3_source)), ((r0 4), .inl (cI, 84, .inl A_0_4_scale)), ((r0 5), .inl (cI, 7056, .inl A_0_5_shares)), ((r0 6), .inl (cI, 225, .inl A_0_6_column)), ((r0 7), .inl (cI, 84, .inl A_0_7_share)), ((r0 8), .inl (cI, 225, .inl A_0_8_base)), (h1, .inr (2, oX2 r1 )), ((r1 3), .inl (cI, 225, .inl A_1_3_derived)), ((r1 4), .inl (cI, 225, .inl A_1_4_next)), (h2, .inr (8, oX9 r2 )), ((r2 0), .inl (cI, 5, .inl A_2_0_f)), ((r2 2), .inr (0, oX0 r2_2 I_2_2_top)), ((r2_2 0), .inr (3, oX4 r2_2_0 )), ((r2_2_0 0), .inl (cI, 75, .inl A_2_2_0_0_numbers)), ((r2_2 1), .inl (cI, 9, .inl A_2_2_1_b))] H locs → lv_has ls 7 [(0, .ref h0), (2, .ref h2), (6, .int x6)] → W p l e rm_X8_seek s m args below meth c H locs 0 0 Q (F0 m 96 ls []) := by
    intro k96
    induction k96 with
    | zero =>
      intro x6 I_0_size A_0_0_steps A_0_1_lead A_0_2_end A_0_3_source A_0_4_scale A_0_5_shares A_0_6_column A_0_7_share A_0_8_base A_1_3_derived A_1_4_next I_2_2_top A_2_2_0_0_numbers A_2_2_1_b H locs ls h
      unfold lp_X8_seek_96 at h
      exact h.elim
    | succ k96 ih96 =>
      intro x6 I_0_size A_0_0_steps A_0_1_lead A_0_2_end A_0_3_source A_0_4_scale A_0_5_shares A_0_6_column A_0_7_share A_0_8_base A_1_3_derived A_1_4_next I_2_2_top A_2_2_0_0_numbers A_2_2_1_b H locs ls h hM hl
      unfold lp_X8_seek_96 at h
      refine lv_iload hx hb dX8_seek_96 (lv_at hl 2 rfl) ?_
      refine lv_bipush (v := (9 : Int32)) hx hb dX8_seek_98 (by decide) ?_
      refine lv_icmp_ge (tgt := 144) hx hb dX8_seek_100 (by decide) (fun hq => ?_) (fun hq => ?_)
      · have h := h.1 hq
        refine lv_iconst (v := (0 : Int32)) hx hb dX8_seek_144 (by decide) ?_
        subst hsz; subst hA; subst hQ
        exact m_zret C0 hr hM rfl (I_0_size, A_0_0_steps, A_0_1_lead, A_0_2_end, A_0_3_source, A_0_4_scale, A_0_5_shares, A_0_6_column, A_0_7_share, A_0_8_base, A_1_3_derived, A_1_4_next, I_2_2_top, A_2_2_0_0_numbers, A_2_2_1_b) h rfl dX8_seek_145
      · have h := h.2 hq
        refine lv_aload_n hx hb dX8_seek_103 rfl (lv_at hl 0 rfl) ?_
        refine lv_iconst (v := (0 : Int32)) hx hb dX8_seek_104 (by decide) ?_
        refine lv_iload hx hb dX8_seek_105 (lv_at hl 2 rfl) ?_
        refine m_callv (wc := [(h0, .inr (7, oX8 r0 I_0_size)), ((r0 6), .inl (cI, 225, .inl A_0_6_column)), ((r0 8), .inl (cI, 225, .inl A_0_8_base))]) C0 hM [0, 7, 9] rfl (m_runV (wc := [(h0, .inr (7, oX8 r0 I_0_size)), ((r0 6), .inl (cI, 225, .inl A_0_6_column)), ((r0 8), .inl (cI, 225, .inl A_0_8_base))]) (As := [.int (0 : Int32), .int x6]) (rest := []) (ci := 7) C0 hM (ct_X8_shift l D cI cJ cZ h0 r0 I_0_size A_0_6_column A_0_8_base (0 : Int32) x6 _ _ h) [0, 7, 9] rfl (by decide) gX8_seek_X8_shift rfl rfl rfl rfl rfl hd_X8_shift ⟨Nat.le_of_ble_eq_true rfl, Nat.le_of_ble_eq_true rfl⟩ rfl hl.1 rfl (Nat.le_of_ble_eq_true rfl) dX8_seek_107 ⟨Nat.le_of_ble_eq_true rfl, Nat.le_of_ble_eq_true rfl⟩) (fun u => [(h0, .inr (7, oX8 r0 I_0_size)), ((r0 0), .inl (cI, 18900, .inl A_0_0_steps)), ((r0 1), .inl (cI, 84, .inl A_0_1_lead)), ((r0 2), .inl (cI, 84, .inl A_0_2_end)), ((r0 3), .inl (cI, 84, .inl A_0_3_source)), ((r0 4), .inl (cI, 84, .inl A_0_4_scale)), ((r0 5), .inl (cI, 7056, .inl A_0_5_shares)), ((r0 6), .inl (cI, 225, .inl u)), ((r0 7), .inl (cI, 84, .inl A_0_7_share)), ((r0 8), .inl (cI, 225, .inl A_0_8_base)), (h1, .inr (2, oX2 r1 )), ((r1 3), .inl (cI, 225, .inl A_1_3_derived)), ((r1 4), .inl (cI, 225, .inl A_1_4_next)), (h2, .inr (8, oX9 r2 )), ((r2 0), .inl (cI, 5, .inl A_2_0_f)), ((r2 2), .inr (0, oX0 r2_2 I_2_2_top)), ((r2_2 0), .inr (3, oX4 r2_2_0 )), ((r2_2_0 0), .inl (cI, 75, .inl A_2_2_0_0_numbers)), ((r2_2 1), .inl (cI, 9, .inl A_2_2_1_b))]) (fun _ => rfl) (fun _ => rfl) (fun b5 H locs h hM => ?_)
        refine lv_aload_n hx hb dX8_seek_110 rfl (lv_at hl 0 rfl) ?_
        refine m_calli (wc := [(h0, .inr (7, oX8 r0 I_0_size)), ((r0 0), .inl (cI, 18900, .inl A_0_0_steps)), ((r0 1), .inl (cI, 84, .inl A_0_1_lead)), ((r0 2), .inl (cI, 84, .inl A_0_2_end)), ((r0 6), .inl (cI, 225, .inl b5)), ((r0 7), .inl (cI, 84, .inl A_0_7_share))]) C0 hM [0, 1, 2, 3, 7, 8] rfl (m_runV (wc := [(h0, .inr (7, oX8 r0 I_0_size)), ((r0 0), .inl (cI, 18900, .inl A_0_0_steps)), ((r0 1), .inl (cI, 84, .inl A_0_1_lead)), ((r0 2), .inl (cI, 84, .inl A_0_2_end)), ((r0 6), .inl (cI, 225, .inl b5)), ((r0 7), .inl (cI, 84, .inl A_0_7_share))]) (As := []) (rest := []) (ci := 7) C0 hM (ct_X8_explained l D cI cJ cZ h0 r0 I_0_size A_0_0_steps A_0_1_lead A_0_2_end b5 A_0_7_share _ _ h) [0, 1, 2, 3, 7, 8] rfl (by decide) gX8_seek_X8_explained rfl rfl rfl rfl rfl hd_X8_explained ⟨Nat.le_of_ble_eq_true rfl, Nat.le_of_ble_eq_true rfl⟩ rfl hl.1 rfl (Nat.le_of_ble_eq_true rfl) dX8_seek_111 ⟨Nat.le_of_ble_eq_true rfl, Nat.le_of_ble_eq_true rfl⟩) (fun u => [(h0, .inr (7, oX8 r0 I_0_size)), ((r0 0), .inl (cI, 18900, .inl A_0_0_steps)), ((r0 1), .inl (cI, 84, .inl A_0_1_lead)), ((r0 2), .inl (cI, 84, .inl A_0_2_end)), ((r0 3), .inl (cI, 84, .inl A_0_3_source)), ((r0 4), .inl (cI, 84, .inl A_0_4_scale)), ((r0 5), .inl (cI, 7056, .inl A_0_5_shares)), ((r0 6), .inl (cI, 225, .inl u.1)), ((r0 7), .inl (cI, 84, .inl u.2)), ((r0 8), .inl (cI, 225, .inl A_0_8_base)), (h1, .inr (2, oX2 r1 )), ((r1 3), .inl (cI, 225, .inl A_1_3_derived)), ((r1 4), .inl (cI, 225, .inl A_1_4_next)), (h2, .inr (8, oX9 r2 )), ((r2 0), .inl (cI, 5, .inl A_2_0_f)), ((r2 2), .inr (0, oX0 r2_2 I_2_2_top)), ((r2_2 0), .inr (3, oX4 r2_2_0 )), ((r2_2_0 0), .inl (cI, 75, .inl A_2_2_0_0_numbers)), ((r2_2 1), .inl (cI, 9, .inl A_2_2_1_b))]) (fun _ => rfl) (fun _ => rfl) (fun y6 u H locs h hM => ?_)
        obtain ⟨b7, b8⟩ := u
        dsimp only at h
        have hM : MW D A s.heap [(h0, .inr (7, oX8 r0 I_0_size)), ((r0 0), .inl (cI, 18900, .inl A_0_0_steps)), ((r0 1), .inl (cI, 84, .inl A_0_1_lead)), ((r0 2), .inl (cI, 84, .inl A_0_2_end)), ((r0 3), .inl (cI, 84, .inl A_0_3_source)), ((r0 4), .inl (cI, 84, .inl A_0_4_scale)), ((r0 5), .inl (cI, 7056, .inl A_0_5_shares)), ((r0 6), .inl (cI, 225, .inl b7)), ((r0 7), .inl (cI, 84, .inl b8)), ((r0 8), .inl (cI, 225, .inl A_0_8_base)), (h1, .inr (2, oX2 r1 )), ((r1 3), .inl (cI, 225, .inl A_1_3_derived)), ((r1 4), .inl (cI, 225, .inl A_1_4_next)), (h2, .inr (8, oX9 r2 )), ((r2 0), .inl (cI, 5, .inl A_2_0_f)), ((r2 2), .inr (0, oX0 r2_2 I_2_2_top)), ((r2_2 0), .inr (3, oX4 r2_2_0 )), ((r2_2_0 0), .inl (cI, 75, .inl A_2_2_0_0_numbers)), ((r2_2 1), .inl (cI, 9, .inl A_2_2_1_b))] H locs := hM
        refine lv_if_eq (tgt := 129) hx hb dX8_seek_114 (by decide) (fun hq => ?_) (fun hq => ?_)
        · have h := h.1 hq
          refine lv_aload_n hx hb dX8_seek_129 rfl (lv_at hl 0 rfl) ?_
          refine lv_bipush (v := (75 : Int32)) hx hb dX8_seek_130 (by decide) ?_
          refine lv_iload hx hb dX8_seek_132 (lv_at hl 2 rfl) ?_
          refine lv_iadd hx hb dX8_seek_134 ?_
          refine m_callv2 (wc := [(h0, .inr (7, oX8 r0 I_0_size)), ((r0 0), .inl (cI, 18900, .inl A_0_0_steps)), ((r0 1), .inl (cI, 84, .inl A_0_1_lead)), ((r0 2), .inl (cI, 84, .inl A_0_2_end)), ((r0 3), .inl (cI, 84, .inl A_0_3_source)), ((r0 4), .inl (cI, 84, .inl A_0_4_scale)), ((r0 5), .inl (cI, 7056, .inl A_0_5_shares)), ((r0 6), .inl (cI, 225, .inl b7)), ((r0 7), .inl (cI, 84, .inl b8))]) C0 hM [0, 1, 2, 3, 4, 5, 6, 7, 8] [9, 10, 11, 12, 13, 14, 15, 16, 17, 18] rfl (m_runV (wc := [(h0, .inr (7, oX8 r0 I_0_size)), ((r0 0), .inl (cI, 18900, .inl A_0_0_steps)), ((r0 1), .inl (cI, 84, .inl A_0_1_lead)), ((r0 2), .inl (cI, 84, .inl A_0_2_end)), ((r0 3), .inl (cI, 84, .inl A_0_3_source)), ((r0 4), .inl (cI, 84, .inl A_0_4_scale)), ((r0 5), .inl (cI, 7056, .inl A_0_5_shares)), ((r0 6), .inl (cI, 225, .inl b7)), ((r0 7), .inl (cI, 84, .inl b8))]) (As := [.int ((75 : Int32) + x6)]) (rest := []) (ci := 7) C0 hM (ct_X8_keep l D cI cJ cZ h0 r0 I_0_size A_0_0_steps A_0_1_lead A_0_2_end A_0_3_source A_0_4_scale A_0_5_shares b7 b8 ((75 : Int32) + x6) _ _ h) [0, 1, 2, 3, 4, 5, 6, 7, 8] rfl (by decide) gX8_seek_X8_keep rfl rfl rfl rfl rfl hd_X8_keep ⟨Nat.le_of_ble_eq_true rfl, Nat.le_of_ble_eq_true rfl⟩ rfl hl.1 rfl (Nat.le_of_ble_eq_true rfl) dX8_seek_135 ⟨Nat.le_of_ble_eq_true rfl, Nat.le_of_ble_eq_true rfl⟩) (fun u => [(h0, .inr (7, oX8 r0 u.1)), ((r0 0), .inl (cI, 18900, .inl u.2.1)), ((r0 1), .inl (cI, 84, .inl u.2.2.1)), ((r0 2), .inl (cI, 84, .inl u.2.2.2.1)), ((r0 3), .inl (cI, 84, .inl u.2.2.2.2.1)), ((r0 4), .inl (cI, 84, .inl u.2.2.2.2.2.1)), ((r0 5), .inl (cI, 7056, .inl u.2.2.2.2.2.2)), ((r0 6), .inl (cI, 225, .inl b7)), ((r0 7), .inl (cI, 84, .inl b8)), ((r0 8), .inl (cI, 225, .inl A_0_8_base)), (h1, .inr (2, oX2 r1 )), ((r1 3), .inl (cI, 225, .inl A_1_3_derived)), ((r1 4), .inl (cI, 225, .inl A_1_4_next)), (h2, .inr (8, oX9 r2 )), ((r2 0), .inl (cI, 5, .inl A_2_0_f)), ((r2 2), .inr (0, oX0 r2_2 I_2_2_top)), ((r2_2 0), .inr (3, oX4 r2_2_0 )), ((r2_2_0 0), .inl (cI, 75, .inl A_2_2_0_0_numbers)), ((r2_2 1), .inl (cI, 9, .inl A_2_2_1_b))]) (fun _ => rfl) [((r0 8), .inl (cI, 225, .inl A_0_8_base)), (h1, .inr (2, oX2 r1 )), ((r1 3), .inl (cI, 225, .inl A_1_3_derived)), ((r1 4), .inl (cI, 225, .inl A_1_4_next)), (h2, .inr (8, oX9 r2 )), ((r2 0), .inl (cI, 5, .inl A_2_0_f)), ((r2 2), .inr (0, oX0 r2_2 I_2_2_top)), ((r2_2 0), .inr (3, oX4 r2_2_0 )), ((r2_2_0 0), .inl (cI, 75, .inl A_2_2_0_0_numbers)), ((r2_2 1), .inl (cI, 9, .inl A_2_2_1_b))] (fun _ => rfl) rfl (fun _ => rfl) (show ∀ i, i < 19 → i ∈ ([0, 1, 2, 3, 4, 5, 6, 7, 8] : List Nat) ∨ i ∈ ([9, 10, 11, 12, 13, 14, 15, 16, 17, 18] : List Nat) from by decide) (fun u H locs h hM => ?_)
          obtain ⟨b9, b10, b11, b12, b13, b14, b15⟩ := u
          dsimp only at h
          have hM : MW D A s.heap [(h0, .inr (7, oX8 r0 b9)), ((r0 0), .inl (cI, 18900, .inl b10)), ((r0 1), .inl (cI, 84, .inl b11)), ((r0 2), .inl (cI, 84, .inl b12)), ((r0 3), .inl (cI, 84, .inl b13)), ((r0 4), .inl (cI, 84, .inl b14)), ((r0 5), .inl (cI, 7056, .inl b15)), ((r0 6), .inl (cI, 225, .inl b7)), ((r0 7), .inl (cI, 84, .inl b8)), ((r0 8), .inl (cI, 225, .inl A_0_8_base)), (h1, .inr (2, oX2 r1 )), ((r1 3), .inl (cI, 225, .inl A_1_3_derived)), ((r1 4), .inl (cI, 225, .inl A_1_4_next)), (h2, .inr (8, oX9 r2 )), ((r2 0), .inl (cI, 5, .inl A_2_0_f)), ((r2 2), .inr (0, oX0 r2_2 I_2_2_top)), ((r2_2 0), .inr (3, oX4 r2_2_0 )), ((r2_2_0 0), .inl (cI, 75, .inl A_2_2_0_0_numbers)), ((r2_2 1), .inl (cI, 9, .inl A_2_2_1_b))] H locs := hM
          refine lv_iinc (v := (x6 + (1 : Int32))) (lv' := [(6, .int (x6 + (1 : Int32))), (0, .ref h0), (2, .ref h2)]) hx hb dX8_seek_138 hl (k := 2) rfl rfl (by decide) rfl (fun ls hl => ?_)
          refine lv_goto (tgt := 96) hx hb dX8_seek_141 (by decide) ?_
          exact ih96 _ _ _ _ _ _ _ _ _ _ _ _ _ _ _ _ _ _ _ h hM (lv_sub hl [1, 2, 0] rfl)
        · have h := h.2 hq
          exact jq117 _ _ _ _ _ _ _ _ _ _ _ _ _ _ _ _ _ _ _ h hM (lv_sub hl [0, 1, 2] rfl)
  have jq74 : ∀ (I_0_size : Int32) (A_0_0_steps : (Nat → Int32)) (A_0_1_lead : (Nat → Int32)) (A_0_2_end : (Nat → Int32)) (A_0_3_source : (Nat → Int32)) (A_0_4_scale : (Nat → Int32)) (A_0_5_shares : (Nat → Int32)) (A_0_6_column : (Nat → Int32)) (A_0_7_share : (Nat → Int32)) (A_0_8_base : (Nat → Int32)) (A_1_3_derived : (Nat → Int32)) (A_1_4_next : (Nat → Int32)) (I_2_2_top : Int32) (A_2_2_0_0_numbers : (Nat → Int32)) (A_2_2_1_b : (Nat → Int32)) (H : Heap) (locs : List Loc) (ls : Array Slot) , jn_X8_seek_74 x3 x4 x5 A_2_0_f K I_0_size A_0_0_steps A_0_1_lead A_0_2_end A_0_3_source A_0_4_scale A_0_5_shares A_0_6_column A_0_7_share A_0_8_base A_1_3_derived A_1_4_next I_2_2_top A_2_2_0_0_numbers A_2_2_1_b → MW D A s.heap [(h0, .inr (7, oX8 r0 I_0_size)), ((r0 0), .inl (cI, 18900, .inl A_0_0_steps)), ((r0 1), .inl (cI, 84, .inl A_0_1_lead)), ((r0 2), .inl (cI, 84, .inl A_0_2_end)), ((r0 3), .inl (cI, 84, .inl A_0_3_source)), ((r0 4), .inl (cI, 84, .inl A_0_4_scale)), ((r0 5), .inl (cI, 7056, .inl A_0_5_shares)), ((r0 6), .inl (cI, 225, .inl A_0_6_column)), ((r0 7), .inl (cI, 84, .inl A_0_7_share)), ((r0 8), .inl (cI, 225, .inl A_0_8_base)), (h1, .inr (2, oX2 r1 )), ((r1 3), .inl (cI, 225, .inl A_1_3_derived)), ((r1 4), .inl (cI, 225, .inl A_1_4_next)), (h2, .inr (8, oX9 r2 )), ((r2 0), .inl (cI, 5, .inl A_2_0_f)), ((r2 2), .inr (0, oX0 r2_2 I_2_2_top)), ((r2_2 0), .inr (3, oX4 r2_2_0 )), ((r2_2_0 0), .inl (cI, 75, .inl A_2_2_0_0_numbers)), ((r2_2 1), .inl (cI, 9, .inl A_2_2_1_b))] H locs → lv_has ls 7 [(0, .ref h0), (1, .ref h1), (2, .ref h2), (3, .int x3)] → W p l e rm_X8_seek s m args below meth c H locs 0 0 Q (F0 m 74 ls []) := by
    intro I_0_size A_0_0_steps A_0_1_lead A_0_2_end A_0_3_source A_0_4_scale A_0_5_shares A_0_6_column A_0_7_share A_0_8_base A_1_3_derived A_1_4_next I_2_2_top A_2_2_0_0_numbers A_2_2_1_b H locs ls h hM hl
    unfold jn_X8_seek_74 at h
    refine lv_aload_n hx hb dX8_seek_74 rfl (lv_at hl 1 rfl) ?_
    refine m_callv (wc := [(h1, .inr (2, oX2 r1 )), ((r1 3), .inl (cI, 225, .inl A_1_3_derived))]) C0 hM [10, 11] rfl (m_runV (wc := [(h1, .inr (2, oX2 r1 )), ((r1 3), .inl (cI, 225, .inl A_1_3_derived))]) (As := []) (rest := []) (ci := 2) C0 hM (ct_X2_startDeriving l D cI cJ cZ h1 r1 A_1_3_derived _ _ h) [10, 11] rfl (by decide) gX8_seek_X2_startDeriving rfl rfl rfl rfl rfl hd_X2_startDeriving ⟨Nat.le_of_ble_eq_true rfl, Nat.le_of_ble_eq_true rfl⟩ rfl hl.1 rfl (Nat.le_of_ble_eq_true rfl) dX8_seek_75 ⟨Nat.le_of_ble_eq_true rfl, Nat.le_of_ble_eq_true rfl⟩) (fun u => [(h0, .inr (7, oX8 r0 I_0_size)), ((r0 0), .inl (cI, 18900, .inl A_0_0_steps)), ((r0 1), .inl (cI, 84, .inl A_0_1_lead)), ((r0 2), .inl (cI, 84, .inl A_0_2_end)), ((r0 3), .inl (cI, 84, .inl A_0_3_source)), ((r0 4), .inl (cI, 84, .inl A_0_4_scale)), ((r0 5), .inl (cI, 7056, .inl A_0_5_shares)), ((r0 6), .inl (cI, 225, .inl A_0_6_column)), ((r0 7), .inl (cI, 84, .inl A_0_7_share)), ((r0 8), .inl (cI, 225, .inl A_0_8_base)), (h1, .inr (2, oX2 r1 )), ((r1 3), .inl (cI, 225, .inl u)), ((r1 4), .inl (cI, 225, .inl A_1_4_next)), (h2, .inr (8, oX9 r2 )), ((r2 0), .inl (cI, 5, .inl A_2_0_f)), ((r2 2), .inr (0, oX0 r2_2 I_2_2_top)), ((r2_2 0), .inr (3, oX4 r2_2_0 )), ((r2_2_0 0), .inl (cI, 75, .inl A_2_2_0_0_numbers)), ((r2_2 1), .inl (cI, 9, .inl A_2_2_1_b))]) (fun _ => rfl) (fun _ => rfl) (fun b16 H locs h hM => ?_)
    refine lv_aload_n hx hb dX8_seek_78 rfl (lv_at hl 1 rfl) ?_
    refine lv_aload_n hx hb dX8_seek_79 rfl (lv_at hl 0 rfl) ?_
    refine m_get (C := RX8) (T := TX8) (N := 10) (ci := 7) (ref := "LoweredPowers$Search") (v := .ref (r0 8)) C0 hM 0 rfl rfl kt_X8_seek_X8 8 (by decide) kw_X8_seek_4 rfl rfl dX8_seek_80 ?_
    refine lv_aload_n hx hb dX8_seek_83 rfl (lv_at hl 2 rfl) ?_
    refine m_get (C := RX9) (T := TX9) (N := 4) (ci := 8) (ref := "LoweredPowers$State") (v := .ref (r2 0)) C0 hM 13 rfl rfl kt_X8_seek_X9 0 (by decide) kw_X8_seek_3 rfl rfl dX8_seek_84 ?_
    refine lv_iload_n hx hb dX8_seek_87 rfl (lv_at hl 3 rfl) ?_
    refine lv_iconst (v := (1 : Int32)) hx hb dX8_seek_88 (by decide) ?_
    refine lv_isub hx hb dX8_seek_89 ?_
    refine m_callv (wc := [(h1, .inr (2, oX2 r1 )), ((r1 3), .inl (cI, 225, .inl b16)), ((r0 8), .inl (cI, 225, .inl A_0_8_base)), ((r2 0), .inl (cI, 5, .inl A_2_0_f))]) C0 hM [10, 11, 9, 14] rfl (m_runV (wc := [(h1, .inr (2, oX2 r1 )), ((r1 3), .inl (cI, 225, .inl b16)), ((r0 8), .inl (cI, 225, .inl A_0_8_base)), ((r2 0), .inl (cI, 5, .inl A_2_0_f))]) (As := [.ref (r0 8), .ref (r2 0), .int (x3 - (1 : Int32))]) (rest := []) (ci := 2) C0 hM (ct_X2_spread l D cI cJ cZ h1 (r0 8) (r2 0) r1 b16 A_0_8_base A_2_0_f (x3 - (1 : Int32)) _ _ h) [10, 11, 9, 14] rfl (by decide) gX8_seek_X2_spread rfl rfl rfl rfl rfl hd_X2_spread ⟨Nat.le_of_ble_eq_true rfl, Nat.le_of_ble_eq_true rfl⟩ rfl hl.1 rfl (Nat.le_of_ble_eq_true rfl) dX8_seek_90 ⟨Nat.le_of_ble_eq_true rfl, Nat.le_of_ble_eq_true rfl⟩) (fun u => [(h0, .inr (7, oX8 r0 I_0_size)), ((r0 0), .inl (cI, 18900, .inl A_0_0_steps)), ((r0 1), .inl (cI, 84, .inl A_0_1_lead)), ((r0 2), .inl (cI, 84, .inl A_0_2_end)), ((r0 3), .inl (cI, 84, .inl A_0_3_source)), ((r0 4), .inl (cI, 84, .inl A_0_4_scale)), ((r0 5), .inl (cI, 7056, .inl A_0_5_shares)), ((r0 6), .inl (cI, 225, .inl A_0_6_column)), ((r0 7), .inl (cI, 84, .inl A_0_7_share)), ((r0 8), .inl (cI, 225, .inl u)), (h1, .inr (2, oX2 r1 )), ((r1 3), .inl (cI, 225, .inl b16)), ((r1 4), .inl (cI, 225, .inl A_1_4_next)), (h2, .inr (8, oX9 r2 )), ((r2 0), .inl (cI, 5, .inl A_2_0_f)), ((r2 2), .inr (0, oX0 r2_2 I_2_2_top)), ((r2_2 0), .inr (3, oX4 r2_2_0 )), ((r2_2_0 0), .inl (cI, 75, .inl A_2_2_0_0_numbers)), ((r2_2 1), .inl (cI, 9, .inl A_2_2_1_b))]) (fun _ => rfl) (fun _ => rfl) (fun b17 H locs h hM => ?_)
    refine lv_iconst (v := (0 : Int32)) hx hb dX8_seek_93 (by decide) ?_
    refine lv_istore (lv' := [(6, .int (0 : Int32)), (0, .ref h0), (1, .ref h1), (2, .ref h2), (3, .int x3)]) hx hb dX8_seek_94 hl (by decide) rfl (fun ls hl => ?_)
    obtain ⟨k0, h⟩ := h
    exact lq96 k0 _ _ _ _ _ _ _ _ _ _ _ _ _ _ _ _ _ _ _ h hM (lv_sub hl [1, 3, 0] rfl)
  have lq19 : ∀ (k19 : Nat) (x6 : Int32) (I_0_size : Int32) (A_0_0_steps : (Nat → Int32)) (A_0_1_lead : (Nat → Int32)) (A_0_2_end : (Nat → Int32)) (A_0_3_source : (Nat → Int32)) (A_0_4_scale : (Nat → Int32)) (A_0_5_shares : (Nat → Int32)) (A_0_6_column : (Nat → Int32)) (A_0_7_share : (Nat → Int32)) (A_0_8_base : (Nat → Int32)) (A_1_3_derived : (Nat → Int32)) (A_1_4_next : (Nat → Int32)) (I_2_2_top : Int32) (A_2_2_0_0_numbers : (Nat → Int32)) (A_2_2_1_b : (Nat → Int32)) (H : Heap) (locs : List Loc) (ls : Array Slot) , lp_X8_seek_19 x3 x4 x5 A_2_0_f (jn_X8_seek_74 x3 x4 x5 A_2_0_f K) K k19 x6 I_0_size A_0_0_steps A_0_1_lead A_0_2_end A_0_3_source A_0_4_scale A_0_5_shares A_0_6_column A_0_7_share A_0_8_base A_1_3_derived A_1_4_next I_2_2_top A_2_2_0_0_numbers A_2_2_1_b → MW D A s.heap [(h0, .inr (7, oX8 r0 I_0_size)), ((r0 0), .inl (cI, 18900, .inl A_0_0_steps)), ((r0 1), .inl (cI, 84, .inl A_0_1_lead)), ((r0 2), .inl (cI, 84, .inl A_0_2_end)), ((r0 3), .inl (cI, 84, .inl A_0_3_source)), ((r0 4), .inl (cI, 84, .inl A_0_4_scale)), ((r0 5), .inl (cI, 7056, .inl A_0_5_shares)), ((r0 6), .inl (cI, 225, .inl A_0_6_column)), ((r0 7), .inl (cI, 84, .inl A_0_7_share)), ((r0 8), .inl (cI, 225, .inl A_0_8_base)), (h1, .inr (2, oX2 r1 )), ((r1 3), .inl (cI, 225, .inl A_1_3_derived)), ((r1 4), .inl (cI, 225, .inl A_1_4_next)), (h2, .inr (8, oX9 r2 )), ((r2 0), .inl (cI, 5, .inl A_2_0_f)), ((r2 2), .inr (0, oX0 r2_2 I_2_2_top)), ((r2_2 0), .inr (3, oX4 r2_2_0 )), ((r2_2_0 0), .inl (cI, 75, .inl A_2_2_0_0_numbers)), ((r2_2 1), .inl (cI, 9, .inl A_2_2_1_b))] H locs → lv_has ls 7 [(0, .ref h0), (1, .ref h1), (2, .ref h2), (3, .int x3), (4, .int x4), (5, .int x5), (6, .int x6)] → W p l e rm_X8_seek s m args below meth c H locs 0 0 Q (F0 m 19 ls []) := by
    intro k19
    induction k19 with
    | zero =>
      intro x6 I_0_size A_0_0_steps A_0_1_lead A_0_2_end A_0_3_source A_0_4_scale A_0_5_shares A_0_6_column A_0_7_share A_0_8_base A_1_3_derived A_1_4_next I_2_2_top A_2_2_0_0_numbers A_2_2_1_b H locs ls h
      unfold lp_X8_seek_19 at h
      exact h.elim
    | succ k19 ih19 =>
      have jq42 : ∀ (x6 : Int32) (I_0_size : Int32) (A_0_0_steps : (Nat → Int32)) (A_0_1_lead : (Nat → Int32)) (A_0_2_end : (Nat → Int32)) (A_0_3_source : (Nat → Int32)) (A_0_4_scale : (Nat → Int32)) (A_0_5_shares : (Nat → Int32)) (A_0_6_column : (Nat → Int32)) (A_0_7_share : (Nat → Int32)) (A_0_8_base : (Nat → Int32)) (A_1_3_derived : (Nat → Int32)) (A_1_4_next : (Nat → Int32)) (I_2_2_top : Int32) (A_2_2_0_0_numbers : (Nat → Int32)) (A_2_2_1_b : (Nat → Int32)) (H : Heap) (locs : List Loc) (ls : Array Slot) , jn_X8_seek_42 x3 x4 x5 A_2_0_f (fun x6 I_0_size A_0_0_steps A_0_1_lead A_0_2_end A_0_3_source A_0_4_scale A_0_5_shares A_0_6_column A_0_7_share A_0_8_base A_1_3_derived A_1_4_next I_2_2_top A_2_2_0_0_numbers A_2_2_1_b => lp_X8_seek_19 x3 x4 x5 A_2_0_f (jn_X8_seek_74 x3 x4 x5 A_2_0_f K) K k19 x6 I_0_size A_0_0_steps A_0_1_lead A_0_2_end A_0_3_source A_0_4_scale A_0_5_shares A_0_6_column A_0_7_share A_0_8_base A_1_3_derived A_1_4_next I_2_2_top A_2_2_0_0_numbers A_2_2_1_b) (jn_X8_seek_74 x3 x4 x5 A_2_0_f K) K x6 I_0_size A_0_0_steps A_0_1_lead A_0_2_end A_0_3_source A_0_4_scale A_0_5_shares A_0_6_column A_0_7_share A_0_8_base A_1_3_derived A_1_4_next I_2_2_top A_2_2_0_0_numbers A_2_2_1_b → MW D A s.heap [(h0, .inr (7, oX8 r0 I_0_size)), ((r0 0), .inl (cI, 18900, .inl A_0_0_steps)), ((r0 1), .inl (cI, 84, .inl A_0_1_lead)), ((r0 2), .inl (cI, 84, .inl A_0_2_end)), ((r0 3), .inl (cI, 84, .inl A_0_3_source)), ((r0 4), .inl (cI, 84, .inl A_0_4_scale)), ((r0 5), .inl (cI, 7056, .inl A_0_5_shares)), ((r0 6), .inl (cI, 225, .inl A_0_6_column)), ((r0 7), .inl (cI, 84, .inl A_0_7_share)), ((r0 8), .inl (cI, 225, .inl A_0_8_base)), (h1, .inr (2, oX2 r1 )), ((r1 3), .inl (cI, 225, .inl A_1_3_derived)), ((r1 4), .inl (cI, 225, .inl A_1_4_next)), (h2, .inr (8, oX9 r2 )), ((r2 0), .inl (cI, 5, .inl A_2_0_f)), ((r2 2), .inr (0, oX0 r2_2 I_2_2_top)), ((r2_2 0), .inr (3, oX4 r2_2_0 )), ((r2_2_0 0), .inl (cI, 75, .inl A_2_2_0_0_numbers)), ((r2_2 1), .inl (cI, 9, .inl A_2_2_1_b))] H locs → lv_has ls 7 [(0, .ref h0), (1, .ref h1), (2, .ref h2), (3, .int x3), (4, .int x4), (5, .int x5), (6, .int x6)] → W p l e rm_X8_seek s m args below meth c H locs 0 0 Q (F0 m 42 ls []) := by
        intro x6 I_0_size A_0_0_steps A_0_1_lead A_0_2_end A_0_3_source A_0_4_scale A_0_5_shares A_0_6_column A_0_7_share A_0_8_base A_1_3_derived A_1_4_next I_2_2_top A_2_2_0_0_numbers A_2_2_1_b H locs ls h hM hl
        unfold jn_X8_seek_42 at h
        refine lv_aload_n hx hb dX8_seek_42 rfl (lv_at hl 1 rfl) ?_
        refine lv_aload_n hx hb dX8_seek_43 rfl (lv_at hl 0 rfl) ?_
        refine m_get (C := RX8) (T := TX8) (N := 10) (ci := 7) (ref := "LoweredPowers$Search") (v := .ref (r0 8)) C0 hM 0 rfl rfl kt_X8_seek_X8 8 (by decide) kw_X8_seek_4 rfl rfl dX8_seek_44 ?_
        refine lv_aload_n hx hb dX8_seek_47 rfl (lv_at hl 2 rfl) ?_
        refine m_get (C := RX9) (T := TX9) (N := 4) (ci := 8) (ref := "LoweredPowers$State") (v := .ref (r2 0)) C0 hM 13 rfl rfl kt_X8_seek_X9 0 (by decide) kw_X8_seek_3 rfl rfl dX8_seek_48 ?_
        refine lv_iload_n hx hb dX8_seek_51 rfl (lv_at hl 3 rfl) ?_
        refine lv_iload hx hb dX8_seek_52 (lv_at hl 6 rfl) ?_
        refine lv_isub hx hb dX8_seek_54 ?_
        refine m_callv (wc := [(h1, .inr (2, oX2 r1 )), ((r1 3), .inl (cI, 225, .inl A_1_3_derived)), ((r0 8), .inl (cI, 225, .inl A_0_8_base)), ((r2 0), .inl (cI, 5, .inl A_2_0_f))]) C0 hM [10, 11, 9, 14] rfl (m_runV (wc := [(h1, .inr (2, oX2 r1 )), ((r1 3), .inl (cI, 225, .inl A_1_3_derived)), ((r0 8), .inl (cI, 225, .inl A_0_8_base)), ((r2 0), .inl (cI, 5, .inl A_2_0_f))]) (As := [.ref (r0 8), .ref (r2 0), .int (x3 - x6)]) (rest := []) (ci := 2) C0 hM (ct_X2_spread l D cI cJ cZ h1 (r0 8) (r2 0) r1 A_1_3_derived A_0_8_base A_2_0_f (x3 - x6) _ _ h) [10, 11, 9, 14] rfl (by decide) gX8_seek_X2_spread rfl rfl rfl rfl rfl hd_X2_spread ⟨Nat.le_of_ble_eq_true rfl, Nat.le_of_ble_eq_true rfl⟩ rfl hl.1 rfl (Nat.le_of_ble_eq_true rfl) dX8_seek_55 ⟨Nat.le_of_ble_eq_true rfl, Nat.le_of_ble_eq_true rfl⟩) (fun u => [(h0, .inr (7, oX8 r0 I_0_size)), ((r0 0), .inl (cI, 18900, .inl A_0_0_steps)), ((r0 1), .inl (cI, 84, .inl A_0_1_lead)), ((r0 2), .inl (cI, 84, .inl A_0_2_end)), ((r0 3), .inl (cI, 84, .inl A_0_3_source)), ((r0 4), .inl (cI, 84, .inl A_0_4_scale)), ((r0 5), .inl (cI, 7056, .inl A_0_5_shares)), ((r0 6), .inl (cI, 225, .inl A_0_6_column)), ((r0 7), .inl (cI, 84, .inl A_0_7_share)), ((r0 8), .inl (cI, 225, .inl u)), (h1, .inr (2, oX2 r1 )), ((r1 3), .inl (cI, 225, .inl A_1_3_derived)), ((r1 4), .inl (cI, 225, .inl A_1_4_next)), (h2, .inr (8, oX9 r2 )), ((r2 0), .inl (cI, 5, .inl A_2_0_f)), ((r2 2), .inr (0, oX0 r2_2 I_2_2_top)), ((r2_2 0), .inr (3, oX4 r2_2_0 )), ((r2_2_0 0), .inl (cI, 75, .inl A_2_2_0_0_numbers)), ((r2_2 1), .inl (cI, 9, .inl A_2_2_1_b))]) (fun _ => rfl) (fun _ => rfl) (fun b18 H locs h hM => ?_)
        refine lv_aload_n hx hb dX8_seek_58 rfl (lv_at hl 0 rfl) ?_
        refine lv_iload hx hb dX8_seek_59 (lv_at hl 6 rfl) ?_
        refine lv_iload hx hb dX8_seek_61 (lv_at hl 4 rfl) ?_
        refine lv_iload hx hb dX8_seek_63 (lv_at hl 5 rfl) ?_
        refine m_callv2 (wc := [(h0, .inr (7, oX8 r0 I_0_size)), ((r0 0), .inl (cI, 18900, .inl A_0_0_steps)), ((r0 1), .inl (cI, 84, .inl A_0_1_lead)), ((r0 2), .inl (cI, 84, .inl A_0_2_end)), ((r0 3), .inl (cI, 84, .inl A_0_3_source)), ((r0 4), .inl (cI, 84, .inl A_0_4_scale)), ((r0 5), .inl (cI, 7056, .inl A_0_5_shares)), ((r0 6), .inl (cI, 225, .inl A_0_6_column)), ((r0 7), .inl (cI, 84, .inl A_0_7_share)), ((r0 8), .inl (cI, 225, .inl b18))]) C0 hM [0, 1, 2, 3, 4, 5, 6, 7, 8, 9] [10, 11, 12, 13, 14, 15, 16, 17, 18] rfl (m_runV (wc := [(h0, .inr (7, oX8 r0 I_0_size)), ((r0 0), .inl (cI, 18900, .inl A_0_0_steps)), ((r0 1), .inl (cI, 84, .inl A_0_1_lead)), ((r0 2), .inl (cI, 84, .inl A_0_2_end)), ((r0 3), .inl (cI, 84, .inl A_0_3_source)), ((r0 4), .inl (cI, 84, .inl A_0_4_scale)), ((r0 5), .inl (cI, 7056, .inl A_0_5_shares)), ((r0 6), .inl (cI, 225, .inl A_0_6_column)), ((r0 7), .inl (cI, 84, .inl A_0_7_share)), ((r0 8), .inl (cI, 225, .inl b18))]) (As := [.int x6, .int x4, .int x5]) (rest := []) (ci := 7) C0 hM (ct_X8_takeOperators l D cI cJ cZ h0 r0 I_0_size A_0_0_steps A_0_1_lead A_0_2_end A_0_3_source A_0_4_scale A_0_5_shares A_0_6_column A_0_7_share b18 x6 x4 x5 _ _ h) [0, 1, 2, 3, 4, 5, 6, 7, 8, 9] rfl (by decide) gX8_seek_X8_takeOperators rfl rfl rfl rfl rfl hd_X8_takeOperators ⟨Nat.le_of_ble_eq_true rfl, Nat.le_of_ble_eq_true rfl⟩ rfl hl.1 rfl (Nat.le_of_ble_eq_true rfl) dX8_seek_65 ⟨Nat.le_of_ble_eq_true rfl, Nat.le_of_ble_eq_true rfl⟩) (fun u => [(h0, .inr (7, oX8 r0 u.1)), ((r0 0), .inl (cI, 18900, .inl u.2.1)), ((r0 1), .inl (cI, 84, .inl u.2.2.1)), ((r0 2), .inl (cI, 84, .inl u.2.2.2.1)), ((r0 3), .inl (cI, 84, .inl u.2.2.2.2.1)), ((r0 4), .inl (cI, 84, .inl u.2.2.2.2.2.1)), ((r0 5), .inl (cI, 7056, .inl u.2.2.2.2.2.2.1)), ((r0 6), .inl (cI, 225, .inl u.2.2.2.2.2.2.2.1)), ((r0 7), .inl (cI, 84, .inl u.2.2.2.2.2.2.2.2)), ((r0 8), .inl (cI, 225, .inl b18)), (h1, .inr (2, oX2 r1 )), ((r1 3), .inl (cI, 225, .inl A_1_3_derived)), ((r1 4), .inl (cI, 225, .inl A_1_4_next)), (h2, .inr (8, oX9 r2 )), ((r2 0), .inl (cI, 5, .inl A_2_0_f)), ((r2 2), .inr (0, oX0 r2_2 I_2_2_top)), ((r2_2 0), .inr (3, oX4 r2_2_0 )), ((r2_2_0 0), .inl (cI, 75, .inl A_2_2_0_0_numbers)), ((r2_2 1), .inl (cI, 9, .inl A_2_2_1_b))]) (fun _ => rfl) [(h1, .inr (2, oX2 r1 )), ((r1 3), .inl (cI, 225, .inl A_1_3_derived)), ((r1 4), .inl (cI, 225, .inl A_1_4_next)), (h2, .inr (8, oX9 r2 )), ((r2 0), .inl (cI, 5, .inl A_2_0_f)), ((r2 2), .inr (0, oX0 r2_2 I_2_2_top)), ((r2_2 0), .inr (3, oX4 r2_2_0 )), ((r2_2_0 0), .inl (cI, 75, .inl A_2_2_0_0_numbers)), ((r2_2 1), .inl (cI, 9, .inl A_2_2_1_b))] (fun _ => rfl) rfl (fun _ => rfl) (show ∀ i, i < 19 → i ∈ ([0, 1, 2, 3, 4, 5, 6, 7, 8, 9] : List Nat) ∨ i ∈ ([10, 11, 12, 13, 14, 15, 16, 17, 18] : List Nat) from by decide) (fun u H locs h hM => ?_)
        obtain ⟨b19, b20, b21, b22, b23, b24, b25, b26, b27⟩ := u
        dsimp only at h
        have hM : MW D A s.heap [(h0, .inr (7, oX8 r0 b19)), ((r0 0), .inl (cI, 18900, .inl b20)), ((r0 1), .inl (cI, 84, .inl b21)), ((r0 2), .inl (cI, 84, .inl b22)), ((r0 3), .inl (cI, 84, .inl b23)), ((r0 4), .inl (cI, 84, .inl b24)), ((r0 5), .inl (cI, 7056, .inl b25)), ((r0 6), .inl (cI, 225, .inl b26)), ((r0 7), .inl (cI, 84, .inl b27)), ((r0 8), .inl (cI, 225, .inl b18)), (h1, .inr (2, oX2 r1 )), ((r1 3), .inl (cI, 225, .inl A_1_3_derived)), ((r1 4), .inl (cI, 225, .inl A_1_4_next)), (h2, .inr (8, oX9 r2 )), ((r2 0), .inl (cI, 5, .inl A_2_0_f)), ((r2 2), .inr (0, oX0 r2_2 I_2_2_top)), ((r2_2 0), .inr (3, oX4 r2_2_0 )), ((r2_2_0 0), .inl (cI, 75, .inl A_2_2_0_0_numbers)), ((r2_2 1), .inl (cI, 9, .inl A_2_2_1_b))] H locs := hM
        refine lv_iinc (v := (x6 + (1 : Int32))) (lv' := [(6, .int (x6 + (1 : Int32))), (0, .ref h0), (1, .ref h1), (2, .ref h2), (3, .int x3), (4, .int x4), (5, .int x5)]) hx hb dX8_seek_68 hl (k := 6) rfl rfl (by decide) rfl (fun ls hl => ?_)
        refine lv_goto (tgt := 19) hx hb dX8_seek_71 (by decide) ?_
        exact ih19 _ _ _ _ _ _ _ _ _ _ _ _ _ _ _ _ _ _ _ h hM (lv_sub hl [1, 2, 3, 4, 5, 6, 0] rfl)
      intro x6 I_0_size A_0_0_steps A_0_1_lead A_0_2_end A_0_3_source A_0_4_scale A_0_5_shares A_0_6_column A_0_7_share A_0_8_base A_1_3_derived A_1_4_next I_2_2_top A_2_2_0_0_numbers A_2_2_1_b H locs ls h hM hl
      unfold lp_X8_seek_19 at h
      refine lv_iload hx hb dX8_seek_19 (lv_at hl 6 rfl) ?_
      refine lv_iload_n hx hb dX8_seek_21 rfl (lv_at hl 3 rfl) ?_
      refine lv_icmp_gt (tgt := 74) hx hb dX8_seek_22 (by decide) (fun hq => ?_) (fun hq => ?_)
      · have h := h.1 hq
        exact jq74 _ _ _ _ _ _ _ _ _ _ _ _ _ _ _ _ _ _ h hM (lv_sub hl [0, 1, 2, 3] rfl)
      · have h := h.2 hq
        refine lv_iload hx hb dX8_seek_25 (lv_at hl 6 rfl) ?_
        refine lv_if_le (tgt := 42) hx hb dX8_seek_27 (by decide) (fun hq => ?_) (fun hq => ?_)
        · have h := h.1 hq
          exact jq42 _ _ _ _ _ _ _ _ _ _ _ _ _ _ _ _ _ _ _ h hM (lv_sub hl [0, 1, 2, 3, 4, 5, 6] rfl)
        · have h := h.2 hq
          refine lv_aload_n hx hb dX8_seek_30 rfl (lv_at hl 1 rfl) ?_
          refine lv_aload_n hx hb dX8_seek_31 rfl (lv_at hl 2 rfl) ?_
          refine m_get (C := RX9) (T := TX9) (N := 4) (ci := 8) (ref := "LoweredPowers$State") (v := .ref (r2 0)) C0 hM 13 rfl rfl kt_X8_seek_X9 0 (by decide) kw_X8_seek_3 rfl rfl dX8_seek_32 ?_
          refine lv_iload hx hb dX8_seek_35 (lv_at hl 6 rfl) ?_
          refine lv_iconst (v := (1 : Int32)) hx hb dX8_seek_37 (by decide) ?_
          refine lv_isub hx hb dX8_seek_38 ?_
          refine m_callv (wc := [(h1, .inr (2, oX2 r1 )), ((r1 3), .inl (cI, 225, .inl A_1_3_derived)), ((r1 4), .inl (cI, 225, .inl A_1_4_next)), ((r2 0), .inl (cI, 5, .inl A_2_0_f))]) C0 hM [10, 11, 12, 14] rfl (m_runV (wc := [(h1, .inr (2, oX2 r1 )), ((r1 3), .inl (cI, 225, .inl A_1_3_derived)), ((r1 4), .inl (cI, 225, .inl A_1_4_next)), ((r2 0), .inl (cI, 5, .inl A_2_0_f))]) (As := [.ref (r2 0), .int (x6 - (1 : Int32))]) (rest := []) (ci := 2) C0 hM (ct_X2_deriveMore l D cI cJ cZ h1 (r2 0) r1 A_1_3_derived A_1_4_next A_2_0_f (x6 - (1 : Int32)) _ _ h) [10, 11, 12, 14] rfl (by decide) gX8_seek_X2_deriveMore rfl rfl rfl rfl rfl hd_X2_deriveMore ⟨Nat.le_of_ble_eq_true rfl, Nat.le_of_ble_eq_true rfl⟩ rfl hl.1 rfl (Nat.le_of_ble_eq_true rfl) dX8_seek_39 ⟨Nat.le_of_ble_eq_true rfl, Nat.le_of_ble_eq_true rfl⟩) (fun u => [(h0, .inr (7, oX8 r0 I_0_size)), ((r0 0), .inl (cI, 18900, .inl A_0_0_steps)), ((r0 1), .inl (cI, 84, .inl A_0_1_lead)), ((r0 2), .inl (cI, 84, .inl A_0_2_end)), ((r0 3), .inl (cI, 84, .inl A_0_3_source)), ((r0 4), .inl (cI, 84, .inl A_0_4_scale)), ((r0 5), .inl (cI, 7056, .inl A_0_5_shares)), ((r0 6), .inl (cI, 225, .inl A_0_6_column)), ((r0 7), .inl (cI, 84, .inl A_0_7_share)), ((r0 8), .inl (cI, 225, .inl A_0_8_base)), (h1, .inr (2, oX2 r1 )), ((r1 3), .inl (cI, 225, .inl u.1)), ((r1 4), .inl (cI, 225, .inl u.2)), (h2, .inr (8, oX9 r2 )), ((r2 0), .inl (cI, 5, .inl A_2_0_f)), ((r2 2), .inr (0, oX0 r2_2 I_2_2_top)), ((r2_2 0), .inr (3, oX4 r2_2_0 )), ((r2_2_0 0), .inl (cI, 75, .inl A_2_2_0_0_numbers)), ((r2_2 1), .inl (cI, 9, .inl A_2_2_1_b))]) (fun _ => rfl) (fun _ => rfl) (fun u H locs h hM => ?_)
          obtain ⟨b28, b29⟩ := u
          dsimp only at h
          have hM : MW D A s.heap [(h0, .inr (7, oX8 r0 I_0_size)), ((r0 0), .inl (cI, 18900, .inl A_0_0_steps)), ((r0 1), .inl (cI, 84, .inl A_0_1_lead)), ((r0 2), .inl (cI, 84, .inl A_0_2_end)), ((r0 3), .inl (cI, 84, .inl A_0_3_source)), ((r0 4), .inl (cI, 84, .inl A_0_4_scale)), ((r0 5), .inl (cI, 7056, .inl A_0_5_shares)), ((r0 6), .inl (cI, 225, .inl A_0_6_column)), ((r0 7), .inl (cI, 84, .inl A_0_7_share)), ((r0 8), .inl (cI, 225, .inl A_0_8_base)), (h1, .inr (2, oX2 r1 )), ((r1 3), .inl (cI, 225, .inl b28)), ((r1 4), .inl (cI, 225, .inl b29)), (h2, .inr (8, oX9 r2 )), ((r2 0), .inl (cI, 5, .inl A_2_0_f)), ((r2 2), .inr (0, oX0 r2_2 I_2_2_top)), ((r2_2 0), .inr (3, oX4 r2_2_0 )), ((r2_2_0 0), .inl (cI, 75, .inl A_2_2_0_0_numbers)), ((r2_2 1), .inl (cI, 9, .inl A_2_2_1_b))] H locs := hM
          exact jq42 _ _ _ _ _ _ _ _ _ _ _ _ _ _ _ _ _ _ _ h hM (lv_sub hl [0, 1, 2, 3, 4, 5, 6] rfl)
  unfold wp_X8_seek at h
  refine lv_aload_n hx hb dX8_seek_0 rfl (lv_at hl 0 rfl) ?_
  refine lv_iconst (v := (0 : Int32)) hx hb dX8_seek_1 (by decide) ?_
  refine m_put (ws' := [(h0, .inr (7, oX8 r0 (0 : Int32))), ((r0 0), .inl (cI, 18900, .inl A_0_0_steps)), ((r0 1), .inl (cI, 84, .inl A_0_1_lead)), ((r0 2), .inl (cI, 84, .inl A_0_2_end)), ((r0 3), .inl (cI, 84, .inl A_0_3_source)), ((r0 4), .inl (cI, 84, .inl A_0_4_scale)), ((r0 5), .inl (cI, 7056, .inl A_0_5_shares)), ((r0 6), .inl (cI, 225, .inl A_0_6_column)), ((r0 7), .inl (cI, 84, .inl A_0_7_share)), ((r0 8), .inl (cI, 225, .inl A_0_8_base)), (h1, .inr (2, oX2 r1 )), ((r1 3), .inl (cI, 225, .inl A_1_3_derived)), ((r1 4), .inl (cI, 225, .inl A_1_4_next)), (h2, .inr (8, oX9 r2 )), ((r2 0), .inl (cI, 5, .inl A_2_0_f)), ((r2 2), .inr (0, oX0 r2_2 I_2_2_top)), ((r2_2 0), .inr (3, oX4 r2_2_0 )), ((r2_2_0 0), .inl (cI, 75, .inl A_2_2_0_0_numbers)), ((r2_2 1), .inl (cI, 9, .inl A_2_2_1_b))]) (C := RX8) (T := TX8) (N := 10) (ci := 7) (ref := "LoweredPowers$Search") (v := .int (0 : Int32)) C0 hM 0 rfl rfl kt_X8_seek_X8 tyX8 tyX8_ok nmX8 9 (by decide) kw_X8_seek_1 rfl rfl rfl rfl (Nat.le_of_ble_eq_true rfl) rfl dX8_seek_2 (fun H locs hM => ?_)
  refine lv_aload_n hx hb dX8_seek_5 rfl (lv_at hl 2 rfl) ?_
  refine m_get (C := RX9) (T := TX9) (N := 4) (ci := 8) (ref := "LoweredPowers$State") (v := .ref (r2 2)) C0 hM 13 rfl rfl kt_X8_seek_X9 2 (by decide) kw_X8_seek_2 rfl rfl dX8_seek_6 ?_
  refine m_callv (wc := [((r2 2), .inr (0, oX0 r2_2 I_2_2_top)), ((r2_2 0), .inr (3, oX4 r2_2_0 )), ((r2_2_0 0), .inl (cI, 75, .inl A_2_2_0_0_numbers)), ((r2_2 1), .inl (cI, 9, .inl A_2_2_1_b))]) C0 hM [15, 16, 17, 18] rfl (m_runV (wc := [((r2 2), .inr (0, oX0 r2_2 I_2_2_top)), ((r2_2 0), .inr (3, oX4 r2_2_0 )), ((r2_2_0 0), .inl (cI, 75, .inl A_2_2_0_0_numbers)), ((r2_2 1), .inl (cI, 9, .inl A_2_2_1_b))]) (As := []) (rest := []) (ci := 0) C0 hM (ct_X0_forget l D cI cJ cZ (r2 2) r2_2 r2_2_0 I_2_2_top A_2_2_0_0_numbers A_2_2_1_b _ _ h) [15, 16, 17, 18] rfl (by decide) gX8_seek_X0_forget rfl rfl rfl rfl rfl hd_X0_forget ⟨Nat.le_of_ble_eq_true rfl, Nat.le_of_ble_eq_true rfl⟩ rfl hl.1 rfl (Nat.le_of_ble_eq_true rfl) dX8_seek_9 ⟨Nat.le_of_ble_eq_true rfl, Nat.le_of_ble_eq_true rfl⟩) (fun u => [(h0, .inr (7, oX8 r0 (0 : Int32))), ((r0 0), .inl (cI, 18900, .inl A_0_0_steps)), ((r0 1), .inl (cI, 84, .inl A_0_1_lead)), ((r0 2), .inl (cI, 84, .inl A_0_2_end)), ((r0 3), .inl (cI, 84, .inl A_0_3_source)), ((r0 4), .inl (cI, 84, .inl A_0_4_scale)), ((r0 5), .inl (cI, 7056, .inl A_0_5_shares)), ((r0 6), .inl (cI, 225, .inl A_0_6_column)), ((r0 7), .inl (cI, 84, .inl A_0_7_share)), ((r0 8), .inl (cI, 225, .inl A_0_8_base)), (h1, .inr (2, oX2 r1 )), ((r1 3), .inl (cI, 225, .inl A_1_3_derived)), ((r1 4), .inl (cI, 225, .inl A_1_4_next)), (h2, .inr (8, oX9 r2 )), ((r2 0), .inl (cI, 5, .inl A_2_0_f)), ((r2 2), .inr (0, oX0 r2_2 u.1)), ((r2_2 0), .inr (3, oX4 r2_2_0 )), ((r2_2_0 0), .inl (cI, 75, .inl u.2.1)), ((r2_2 1), .inl (cI, 9, .inl u.2.2))]) (fun _ => rfl) (fun _ => rfl) (fun u H locs h hM => ?_)
  obtain ⟨b30, b31, b32⟩ := u
  dsimp only at h
  have hM : MW D A s.heap [(h0, .inr (7, oX8 r0 (0 : Int32))), ((r0 0), .inl (cI, 18900, .inl A_0_0_steps)), ((r0 1), .inl (cI, 84, .inl A_0_1_lead)), ((r0 2), .inl (cI, 84, .inl A_0_2_end)), ((r0 3), .inl (cI, 84, .inl A_0_3_source)), ((r0 4), .inl (cI, 84, .inl A_0_4_scale)), ((r0 5), .inl (cI, 7056, .inl A_0_5_shares)), ((r0 6), .inl (cI, 225, .inl A_0_6_column)), ((r0 7), .inl (cI, 84, .inl A_0_7_share)), ((r0 8), .inl (cI, 225, .inl A_0_8_base)), (h1, .inr (2, oX2 r1 )), ((r1 3), .inl (cI, 225, .inl A_1_3_derived)), ((r1 4), .inl (cI, 225, .inl A_1_4_next)), (h2, .inr (8, oX9 r2 )), ((r2 0), .inl (cI, 5, .inl A_2_0_f)), ((r2 2), .inr (0, oX0 r2_2 b30)), ((r2_2 0), .inr (3, oX4 r2_2_0 )), ((r2_2_0 0), .inl (cI, 75, .inl b31)), ((r2_2 1), .inl (cI, 9, .inl b32))] H locs := hM
  refine lv_aload_n hx hb dX8_seek_12 rfl (lv_at hl 1 rfl) ?_
  refine m_callv (wc := [(h1, .inr (2, oX2 r1 )), ((r1 3), .inl (cI, 225, .inl A_1_3_derived))]) C0 hM [10, 11] rfl (m_runV (wc := [(h1, .inr (2, oX2 r1 )), ((r1 3), .inl (cI, 225, .inl A_1_3_derived))]) (As := []) (rest := []) (ci := 2) C0 hM (ct_X2_startDeriving l D cI cJ cZ h1 r1 A_1_3_derived _ _ h) [10, 11] rfl (by decide) gX8_seek_X2_startDeriving rfl rfl rfl rfl rfl hd_X2_startDeriving ⟨Nat.le_of_ble_eq_true rfl, Nat.le_of_ble_eq_true rfl⟩ rfl hl.1 rfl (Nat.le_of_ble_eq_true rfl) dX8_seek_13 ⟨Nat.le_of_ble_eq_true rfl, Nat.le_of_ble_eq_true rfl⟩) (fun u => [(h0, .inr (7, oX8 r0 (0 : Int32))), ((r0 0), .inl (cI, 18900, .inl A_0_0_steps)), ((r0 1), .inl (cI, 84, .inl A_0_1_lead)), ((r0 2), .inl (cI, 84, .inl A_0_2_end)), ((r0 3), .inl (cI, 84, .inl A_0_3_source)), ((r0 4), .inl (cI, 84, .inl A_0_4_scale)), ((r0 5), .inl (cI, 7056, .inl A_0_5_shares)), ((r0 6), .inl (cI, 225, .inl A_0_6_column)), ((r0 7), .inl (cI, 84, .inl A_0_7_share)), ((r0 8), .inl (cI, 225, .inl A_0_8_base)), (h1, .inr (2, oX2 r1 )), ((r1 3), .inl (cI, 225, .inl u)), ((r1 4), .inl (cI, 225, .inl A_1_4_next)), (h2, .inr (8, oX9 r2 )), ((r2 0), .inl (cI, 5, .inl A_2_0_f)), ((r2 2), .inr (0, oX0 r2_2 b30)), ((r2_2 0), .inr (3, oX4 r2_2_0 )), ((r2_2_0 0), .inl (cI, 75, .inl b31)), ((r2_2 1), .inl (cI, 9, .inl b32))]) (fun _ => rfl) (fun _ => rfl) (fun b33 H locs h hM => ?_)
  refine lv_iconst (v := (0 : Int32)) hx hb dX8_seek_16 (by decide) ?_
  refine lv_istore (lv' := [(6, .int (0 : Int32)), (0, .ref h0), (1, .ref h1), (2, .ref h2), (3, .int x3), (4, .int x4), (5, .int x5)]) hx hb dX8_seek_17 hl (by decide) rfl (fun ls hl => ?_)
  obtain ⟨k0, h⟩ := h
  exact lq19 k0 _ _ _ _ _ _ _ _ _ _ _ _ _ _ _ _ _ _ _ h hM (lv_sub hl [1, 2, 3, 4, 5, 6, 0] rfl)
