theorem hd_X12_valueOf : yX12_valueOf.cls = RX12 ∧ yX12_valueOf.cls ≠ "java/lang/invoke/MethodHandle" ∧ yX12_valueOf.cls ≠ "java/lang/invoke/VarHandle" ∧ (parseMethodDescriptor yX12_valueOf.desc).map (fun d => d.parameters.length) = some 1 := by decide +kernel
theorem hd_X12_slopeOf : yX12_slopeOf.cls = RX12 ∧ yX12_slopeOf.cls ≠ "java/lang/invoke/MethodHandle" ∧ yX12_slopeOf.cls ≠ "java/lang/invoke/VarHandle" ∧ (parseMethodDescriptor yX12_slopeOf.desc).map (fun d => d.parameters.length) = some 1 := by decide +kernel
theorem hd_X12_valueIn : yX12_valueIn.cls = RX12 ∧ yX12_valueIn.cls ≠ "java/lang/invoke/MethodHandle" ∧ yX12_valueIn.cls ≠ "java/lang/invoke/VarHandle" ∧ (parseMethodDescriptor yX12_valueIn.desc).map (fun d => d.parameters.length) = some 1 := by decide +kernel
theorem hd_X12_value : yX12_value.cls = RX12 ∧ yX12_value.cls ≠ "java/lang/invoke/MethodHandle" ∧ yX12_value.cls ≠ "java/lang/invoke/VarHandle" ∧ (parseMethodDescriptor yX12_value.desc).map (fun d => d.parameters.length) = some 1 := by decide +kernel
theorem hd_X12_slope : yX12_slope.cls = RX12 ∧ yX12_slope.cls ≠ "java/lang/invoke/MethodHandle" ∧ yX12_slope.cls ≠ "java/lang/invoke/VarHandle" ∧ (parseMethodDescriptor yX12_slope.desc).map (fun d => d.parameters.length) = some 1 := by decide +kernel
theorem hd_X12_steps : yX12_steps.cls = RX12 ∧ yX12_steps.cls ≠ "java/lang/invoke/MethodHandle" ∧ yX12_steps.cls ≠ "java/lang/invoke/VarHandle" ∧ (parseMethodDescriptor yX12_steps.desc).map (fun d => d.parameters.length) = some 2 := by decide +kernel
theorem hd_X12_cut : yX12_cut.cls = RX12 ∧ yX12_cut.cls ≠ "java/lang/invoke/MethodHandle" ∧ yX12_cut.cls ≠ "java/lang/invoke/VarHandle" ∧ (parseMethodDescriptor yX12_cut.desc).map (fun d => d.parameters.length) = some 1 := by decide +kernel
theorem hd_X12_valued : yX12_valued.cls = RX12 ∧ yX12_valued.cls ≠ "java/lang/invoke/MethodHandle" ∧ yX12_valued.cls ≠ "java/lang/invoke/VarHandle" ∧ (parseMethodDescriptor yX12_valued.desc).map (fun d => d.parameters.length) = some 1 := by decide +kernel
theorem hd_X12_narrowed : yX12_narrowed.cls = RX12 ∧ yX12_narrowed.cls ≠ "java/lang/invoke/MethodHandle" ∧ yX12_narrowed.cls ≠ "java/lang/invoke/VarHandle" ∧ (parseMethodDescriptor yX12_narrowed.desc).map (fun d => d.parameters.length) = some 1 := by decide +kernel
theorem kt_X12_slopeOf_X12 : ∀ w ∈ u_ws RX12 TX12 45, w ∈ wsX12_slopeOf := fun _ h => List.mem_cons_of_mem _ (List.mem_append_right _ (h))
theorem kt_X12_valueIn_X12 : ∀ w ∈ u_ws RX12 TX12 45, w ∈ wsX12_valueIn := fun _ h => List.mem_cons_of_mem _ (List.mem_append_right _ (h))
theorem kt_X12_valueOf_X12 : ∀ w ∈ u_ws RX12 TX12 45, w ∈ wsX12_valueOf := fun _ h => List.mem_cons_of_mem _ (List.mem_append_right _ (h))
theorem kw_X12_valueOf_1 : Cond.fieldLink RX12 9 "LoweredPowersModel" "f" "[I" ∈ wsX12_valueOf := List.mem_of_getElem? (i := 1) rfl
theorem kw_X12_slopeOf_1 : Cond.fieldLink RX12 9 "LoweredPowersModel" "f" "[I" ∈ wsX12_slopeOf := List.mem_of_getElem? (i := 1) rfl
theorem kw_X12_valueIn_1 : Cond.fieldLink RX12 9 "LoweredPowersModel" "f" "[I" ∈ wsX12_valueIn := List.mem_of_getElem? (i := 1) rfl
theorem kw_X12_value_1 : Cond.methodLink RX12 221 ⟨"java/lang/Float", "intBitsToFloat", "(I)F"⟩ ∈ wsX12_value := List.mem_of_getElem? (i := 1) rfl
theorem kw_X12_value_2 : Cond.native ⟨"java/lang/Float", "intBitsToFloat", "(I)F"⟩ ∈ wsX12_value := List.mem_of_getElem? (i := 2) rfl
theorem kw_X12_value_3 : Cond.static ⟨"java/lang/Float", "intBitsToFloat", "(I)F"⟩ ∈ wsX12_value := List.mem_of_getElem? (i := 3) rfl
theorem kw_X12_value_4 : Cond.initialized RJxf58ca ∈ wsX12_value := List.mem_of_getElem? (i := 4) rfl
theorem kw_X12_slope_1 : Cond.methodLink RX12 221 ⟨"java/lang/Float", "intBitsToFloat", "(I)F"⟩ ∈ wsX12_slope := List.mem_of_getElem? (i := 1) rfl
theorem kw_X12_slope_2 : Cond.native ⟨"java/lang/Float", "intBitsToFloat", "(I)F"⟩ ∈ wsX12_slope := List.mem_of_getElem? (i := 2) rfl
theorem kw_X12_slope_3 : Cond.static ⟨"java/lang/Float", "intBitsToFloat", "(I)F"⟩ ∈ wsX12_slope := List.mem_of_getElem? (i := 3) rfl
theorem kw_X12_slope_4 : Cond.initialized RJxf58ca ∈ wsX12_slope := List.mem_of_getElem? (i := 4) rfl
theorem kw_X12_steps_1 : Cond.methodLink RX12 221 ⟨"java/lang/Float", "intBitsToFloat", "(I)F"⟩ ∈ wsX12_steps := List.mem_of_getElem? (i := 1) rfl
theorem kw_X12_steps_2 : Cond.native ⟨"java/lang/Float", "intBitsToFloat", "(I)F"⟩ ∈ wsX12_steps := List.mem_of_getElem? (i := 2) rfl
theorem kw_X12_steps_3 : Cond.static ⟨"java/lang/Float", "intBitsToFloat", "(I)F"⟩ ∈ wsX12_steps := List.mem_of_getElem? (i := 3) rfl
theorem kw_X12_steps_4 : Cond.initialized RJxf58ca ∈ wsX12_steps := List.mem_of_getElem? (i := 4) rfl
theorem kw_X12_cut_1 : Cond.methodLink RX12 221 ⟨"java/lang/Float", "intBitsToFloat", "(I)F"⟩ ∈ wsX12_cut := List.mem_of_getElem? (i := 1) rfl
theorem kw_X12_cut_2 : Cond.native ⟨"java/lang/Float", "intBitsToFloat", "(I)F"⟩ ∈ wsX12_cut := List.mem_of_getElem? (i := 2) rfl
theorem kw_X12_cut_3 : Cond.static ⟨"java/lang/Float", "intBitsToFloat", "(I)F"⟩ ∈ wsX12_cut := List.mem_of_getElem? (i := 3) rfl
theorem kw_X12_cut_4 : Cond.initialized RJxf58ca ∈ wsX12_cut := List.mem_of_getElem? (i := 4) rfl
theorem kw_X12_valued_1 : Cond.methodLink RX12 238 ⟨"java/lang/Double", "longBitsToDouble", "(J)D"⟩ ∈ wsX12_valued := List.mem_of_getElem? (i := 1) rfl
theorem kw_X12_valued_2 : Cond.native ⟨"java/lang/Double", "longBitsToDouble", "(J)D"⟩ ∈ wsX12_valued := List.mem_of_getElem? (i := 2) rfl
theorem kw_X12_valued_3 : Cond.static ⟨"java/lang/Double", "longBitsToDouble", "(J)D"⟩ ∈ wsX12_valued := List.mem_of_getElem? (i := 3) rfl
theorem kw_X12_valued_4 : Cond.initialized RJxe99ae ∈ wsX12_valued := List.mem_of_getElem? (i := 4) rfl
theorem kw_X12_narrowed_1 : Cond.methodLink RX12 238 ⟨"java/lang/Double", "longBitsToDouble", "(J)D"⟩ ∈ wsX12_narrowed := List.mem_of_getElem? (i := 1) rfl
theorem kw_X12_narrowed_2 : Cond.native ⟨"java/lang/Double", "longBitsToDouble", "(J)D"⟩ ∈ wsX12_narrowed := List.mem_of_getElem? (i := 2) rfl
theorem kw_X12_narrowed_3 : Cond.static ⟨"java/lang/Double", "longBitsToDouble", "(J)D"⟩ ∈ wsX12_narrowed := List.mem_of_getElem? (i := 3) rfl
theorem kw_X12_narrowed_4 : Cond.initialized RJxe99ae ∈ wsX12_narrowed := List.mem_of_getElem? (i := 4) rfl
abbrev rm_X12_valueOf : Room := { frames := 1, cells := 0, slots := 0, locals := 20 }
set_option maxRecDepth 100000 in
set_option maxHeartbeats 4000000 in
theorem ct_X12_valueOf (l : Launch) (D : va_G) (cI cJ cZ : ClassId) (h0 : Nat) (r0 : Nat → Nat) (I_0_isFound : Int32) (I_0_foundB : Int32) (I_0_changes : Int32) (I_0_taped : Int32) (I_0_size : Int32) (I_0_at : Int32) (I_0_signs : Int32) (I_0_wanted : Int32) (I_0_sign : Int32) (I_0_isKept : Int32) (I_0_keptFound : Int32) (I_0_keptB : Int32) (I_0_keptChanges : Int32) (A_0_0_f : (Nat → Int32)) (x1 : UInt32) (sz : Nat) (K : UInt32 → Prop) (h : wp_X12_valueOf x1 A_0_0_f K) : MetD lw_cs l yX12_valueOf wsX12_valueOf rm_X12_valueOf (va_Pc [.ref h0, .float x1] (WX D cI cJ cZ [(h0, .inr (11, oX12 r0 I_0_isFound I_0_foundB I_0_changes I_0_taped I_0_size I_0_at I_0_signs I_0_wanted I_0_sign I_0_isKept I_0_keptFound I_0_keptB I_0_keptChanges)), ((r0 0), .inl (cI, 5, .inl A_0_0_f))] sz)) (va_Qf (fun (r : UInt32) (_ : Unit) => K r ) (fun (_ : Unit) t => WY D (va_A [(h0, .inr (11, oX12 r0 I_0_isFound I_0_foundB I_0_changes I_0_taped I_0_size I_0_at I_0_signs I_0_wanted I_0_sign I_0_isKept I_0_keptFound I_0_keptB I_0_keptChanges)), ((r0 0), .inl (cI, 5, .inl A_0_0_f))] sz) [(h0, .inr (11, oX12 r0 I_0_isFound I_0_foundB I_0_changes I_0_taped I_0_size I_0_at I_0_signs I_0_wanted I_0_sign I_0_isKept I_0_keptFound I_0_keptB I_0_keptChanges)), ((r0 0), .inl (cI, 5, .inl A_0_0_f))] t) (va_A [(h0, .inr (11, oX12 r0 I_0_isFound I_0_foundB I_0_changes I_0_taped I_0_size I_0_at I_0_signs I_0_wanted I_0_sign I_0_isKept I_0_keptFound I_0_keptB I_0_keptChanges)), ((r0 0), .inl (cI, 5, .inl A_0_0_f))] sz)) 0 0 (va_A [(h0, .inr (11, oX12 r0 I_0_isFound I_0_foundB I_0_changes I_0_taped I_0_size I_0_at I_0_signs I_0_wanted I_0_sign I_0_isKept I_0_keptFound I_0_keptB I_0_keptChanges)), ((r0 0), .inl (cI, 5, .inl A_0_0_f))] sz) := by
  refine m_metD (own := RX12) (cc := cX12_valueOf) (maxL := 4) (ret := some .float) [.ref h0, .float x1] [(0, .ref h0), (1, .float x1)] (by decide) rfl rfl (Nat.le_of_ble_eq_true rfl) rfl ?_
  intro p e s m args below meth c Q A hQ hA C0 hr hnm hsz hM ls hl hd
  have hx := C0.1
  have hb := C0.2.1
  have hown := C0.2.2.2.1
  have jq29 : ∀ (x2 : UInt32) (H : Heap) (locs : List Loc) (ls : Array Slot) (d0 : Drawn) , s.drawn.sameBut d0 lw_cs → jn_X12_valueOf_29 x1 A_0_0_f K x2 → MW D A s.heap [(h0, .inr (11, oX12 r0 I_0_isFound I_0_foundB I_0_changes I_0_taped I_0_size I_0_at I_0_signs I_0_wanted I_0_sign I_0_isKept I_0_keptFound I_0_keptB I_0_keptChanges)), ((r0 0), .inl (cI, 5, .inl A_0_0_f))] H locs → lv_has ls 4 [(2, .float x2)] → W p l e rm_X12_valueOf (s.setDrawn d0) m args below meth c H locs 0 0 Q (F0 m 29 ls []) := by
    intro x2 H locs ls d0 hd h hM hl
    unfold jn_X12_valueOf_29 at h
    refine lv_fload_n hx hb dX12_valueOf_29 rfl (lv_at hl 0 rfl) ?_
    subst hsz; subst hA; subst hQ
    refine W.endD hd ?_
    exact m_fret (CX.drawn C0 d0) hr hM () h rfl dX12_valueOf_30
  have lq4 : ∀ (k4 : Nat) (x2 : UInt32) (x3 : Int32) (H : Heap) (locs : List Loc) (ls : Array Slot) (d0 : Drawn) , s.drawn.sameBut d0 lw_cs → lp_X12_valueOf_4 x1 A_0_0_f (jn_X12_valueOf_29 x1 A_0_0_f K) K k4 x2 x3 → MW D A s.heap [(h0, .inr (11, oX12 r0 I_0_isFound I_0_foundB I_0_changes I_0_taped I_0_size I_0_at I_0_signs I_0_wanted I_0_sign I_0_isKept I_0_keptFound I_0_keptB I_0_keptChanges)), ((r0 0), .inl (cI, 5, .inl A_0_0_f))] H locs → lv_has ls 4 [(0, .ref h0), (1, .float x1), (2, .float x2), (3, .int x3)] → W p l e rm_X12_valueOf (s.setDrawn d0) m args below meth c H locs 0 0 Q (F0 m 4 ls []) := by
    intro k4
    induction k4 with
    | zero =>
      intro x2 x3 H locs ls d0 hd h
      unfold lp_X12_valueOf_4 at h
      exact h.elim
    | succ k4 ih4 =>
      intro x2 x3 H locs ls d0 hd h hM hl
      unfold lp_X12_valueOf_4 at h
      refine lv_iload_n hx hb dX12_valueOf_4 rfl (lv_at hl 3 rfl) ?_
      refine lv_if_lt (tgt := 29) hx hb dX12_valueOf_5 (by decide) (fun hq => ?_) (fun hq => ?_)
      · have h := h.1 hq
        exact jq29 _ _ _ _ _ hd h hM (lv_sub hl [2] rfl)
      · have h := h.2 hq
        refine lv_fload_n hx hb dX12_valueOf_8 rfl (lv_at hl 2 rfl) ?_
        refine lv_fload_n hx hb dX12_valueOf_9 rfl (lv_at hl 1 rfl) ?_
        refine lv_fmul_any hd lw_bits hx hb dX12_valueOf_10 (fun w1 d1 ew1 hd => ?_)
        have h := h w1 ew1
        refine lv_aload_n hx hb dX12_valueOf_11 rfl (lv_at hl 0 rfl) ?_
        refine m_get (C := RX12) (T := TX12) (N := 45) (ci := 11) (ref := "LoweredPowersModel") (v := .ref (r0 0)) (CX.drawn C0 d1) hM 0 rfl rfl kt_X12_valueOf_X12 0 (by decide) kw_X12_valueOf_1 rfl rfl dX12_valueOf_12 ?_
        refine lv_iload_n hx hb dX12_valueOf_15 rfl (lv_at hl 3 rfl) ?_
        obtain ⟨hc2, h⟩ := h
        refine m_iald (CX.drawn C0 d1) hM 1 rfl hc2 dX12_valueOf_16 ?_
        refine m_calli (wc := []) (CX.drawn C0 d1) hM [] rfl (m_runS (wc := []) (As := [.int (A_0_0_f (x3).toNatClampNeg)]) (rest := [.float w1]) (CX.drawn C0 d1) hM (ct_X12_signed l D cI cJ cZ (A_0_0_f (x3).toNatClampNeg) _ _ h) [] rfl (by decide) gX12_valueOf_X12_signed rfl rfl rfl hd_X12_signed ⟨Nat.le_of_ble_eq_true rfl, Nat.le_of_ble_eq_true rfl⟩ rfl hl.1 rfl (Nat.le_of_ble_eq_true rfl) dX12_valueOf_17 ⟨Nat.le_of_ble_eq_true rfl, Nat.le_of_ble_eq_true rfl⟩) (fun _ => [(h0, .inr (11, oX12 r0 I_0_isFound I_0_foundB I_0_changes I_0_taped I_0_size I_0_at I_0_signs I_0_wanted I_0_sign I_0_isKept I_0_keptFound I_0_keptB I_0_keptChanges)), ((r0 0), .inl (cI, 5, .inl A_0_0_f))]) (fun _ => rfl) (fun _ => rfl) (fun y3 _ H locs h hM => ?_)
        refine lv_i2f hx hb dX12_valueOf_20 ?_
        refine lv_fadd_any hd lw_bits hx hb dX12_valueOf_21 (fun w4 d1 ew4 hd => ?_)
        have h := h w4 ew4
        refine lv_fstore_n (lv' := [(2, .float w4), (0, .ref h0), (1, .float x1), (3, .int x3)]) hx hb dX12_valueOf_22 rfl hl (by decide) rfl (fun ls hl => ?_)
        refine lv_iinc (v := (x3 + (-1 : Int32))) (lv' := [(3, .int (x3 + (-1 : Int32))), (2, .float w4), (0, .ref h0), (1, .float x1)]) hx hb dX12_valueOf_23 hl (k := 3) rfl rfl (by decide) rfl (fun ls hl => ?_)
        refine lv_goto (tgt := 4) hx hb dX12_valueOf_26 (by decide) ?_
        exact ih4 _ _ _ _ _ _ hd h hM (lv_sub hl [2, 3, 1, 0] rfl)
  unfold wp_X12_valueOf at h
  refine lv_fconst0 hx hb dX12_valueOf_0 ?_
  refine lv_topf (fun y5 ey5 => ?_)
  have h := h y5 ey5
  refine lv_fstore_n (lv' := [(2, .float y5), (0, .ref h0), (1, .float x1)]) hx hb dX12_valueOf_1 rfl hl (by decide) rfl (fun ls hl => ?_)
  refine lv_iconst (v := (4 : Int32)) hx hb dX12_valueOf_2 (by decide) ?_
  refine lv_istore_n (lv' := [(3, .int (4 : Int32)), (2, .float y5), (0, .ref h0), (1, .float x1)]) hx hb dX12_valueOf_3 rfl hl (by decide) rfl (fun ls hl => ?_)
  obtain ⟨k0, h⟩ := h
  exact lq4 k0 _ _ _ _ _ _ hd h hM (lv_sub hl [2, 3, 1, 0] rfl)
abbrev rm_X12_slopeOf : Room := { frames := 1, cells := 0, slots := 0, locals := 20 }
set_option maxRecDepth 100000 in
set_option maxHeartbeats 4000000 in
theorem ct_X12_slopeOf (l : Launch) (D : va_G) (cI cJ cZ : ClassId) (h0 : Nat) (r0 : Nat → Nat) (I_0_isFound : Int32) (I_0_foundB : Int32) (I_0_changes : Int32) (I_0_taped : Int32) (I_0_size : Int32) (I_0_at : Int32) (I_0_signs : Int32) (I_0_wanted : Int32) (I_0_sign : Int32) (I_0_isKept : Int32) (I_0_keptFound : Int32) (I_0_keptB : Int32) (I_0_keptChanges : Int32) (A_0_0_f : (Nat → Int32)) (x1 : UInt32) (sz : Nat) (K : UInt32 → Prop) (h : wp_X12_slopeOf x1 A_0_0_f K) : MetD lw_cs l yX12_slopeOf wsX12_slopeOf rm_X12_slopeOf (va_Pc [.ref h0, .float x1] (WX D cI cJ cZ [(h0, .inr (11, oX12 r0 I_0_isFound I_0_foundB I_0_changes I_0_taped I_0_size I_0_at I_0_signs I_0_wanted I_0_sign I_0_isKept I_0_keptFound I_0_keptB I_0_keptChanges)), ((r0 0), .inl (cI, 5, .inl A_0_0_f))] sz)) (va_Qf (fun (r : UInt32) (_ : Unit) => K r ) (fun (_ : Unit) t => WY D (va_A [(h0, .inr (11, oX12 r0 I_0_isFound I_0_foundB I_0_changes I_0_taped I_0_size I_0_at I_0_signs I_0_wanted I_0_sign I_0_isKept I_0_keptFound I_0_keptB I_0_keptChanges)), ((r0 0), .inl (cI, 5, .inl A_0_0_f))] sz) [(h0, .inr (11, oX12 r0 I_0_isFound I_0_foundB I_0_changes I_0_taped I_0_size I_0_at I_0_signs I_0_wanted I_0_sign I_0_isKept I_0_keptFound I_0_keptB I_0_keptChanges)), ((r0 0), .inl (cI, 5, .inl A_0_0_f))] t) (va_A [(h0, .inr (11, oX12 r0 I_0_isFound I_0_foundB I_0_changes I_0_taped I_0_size I_0_at I_0_signs I_0_wanted I_0_sign I_0_isKept I_0_keptFound I_0_keptB I_0_keptChanges)), ((r0 0), .inl (cI, 5, .inl A_0_0_f))] sz)) 0 0 (va_A [(h0, .inr (11, oX12 r0 I_0_isFound I_0_foundB I_0_changes I_0_taped I_0_size I_0_at I_0_signs I_0_wanted I_0_sign I_0_isKept I_0_keptFound I_0_keptB I_0_keptChanges)), ((r0 0), .inl (cI, 5, .inl A_0_0_f))] sz) := by
  refine m_metD (own := RX12) (cc := cX12_slopeOf) (maxL := 4) (ret := some .float) [.ref h0, .float x1] [(0, .ref h0), (1, .float x1)] (by decide) rfl rfl (Nat.le_of_ble_eq_true rfl) rfl ?_
  intro p e s m args below meth c Q A hQ hA C0 hr hnm hsz hM ls hl hd
  have hx := C0.1
  have hb := C0.2.1
  have hown := C0.2.2.2.1
  have jq31 : ∀ (x2 : UInt32) (H : Heap) (locs : List Loc) (ls : Array Slot) (d0 : Drawn) , s.drawn.sameBut d0 lw_cs → jn_X12_slopeOf_31 x1 A_0_0_f K x2 → MW D A s.heap [(h0, .inr (11, oX12 r0 I_0_isFound I_0_foundB I_0_changes I_0_taped I_0_size I_0_at I_0_signs I_0_wanted I_0_sign I_0_isKept I_0_keptFound I_0_keptB I_0_keptChanges)), ((r0 0), .inl (cI, 5, .inl A_0_0_f))] H locs → lv_has ls 4 [(2, .float x2)] → W p l e rm_X12_slopeOf (s.setDrawn d0) m args below meth c H locs 0 0 Q (F0 m 31 ls []) := by
    intro x2 H locs ls d0 hd h hM hl
    unfold jn_X12_slopeOf_31 at h
    refine lv_fload_n hx hb dX12_slopeOf_31 rfl (lv_at hl 0 rfl) ?_
    subst hsz; subst hA; subst hQ
    refine W.endD hd ?_
    exact m_fret (CX.drawn C0 d0) hr hM () h rfl dX12_slopeOf_32
  have lq4 : ∀ (k4 : Nat) (x2 : UInt32) (x3 : Int32) (H : Heap) (locs : List Loc) (ls : Array Slot) (d0 : Drawn) , s.drawn.sameBut d0 lw_cs → lp_X12_slopeOf_4 x1 A_0_0_f (jn_X12_slopeOf_31 x1 A_0_0_f K) K k4 x2 x3 → MW D A s.heap [(h0, .inr (11, oX12 r0 I_0_isFound I_0_foundB I_0_changes I_0_taped I_0_size I_0_at I_0_signs I_0_wanted I_0_sign I_0_isKept I_0_keptFound I_0_keptB I_0_keptChanges)), ((r0 0), .inl (cI, 5, .inl A_0_0_f))] H locs → lv_has ls 4 [(0, .ref h0), (1, .float x1), (2, .float x2), (3, .int x3)] → W p l e rm_X12_slopeOf (s.setDrawn d0) m args below meth c H locs 0 0 Q (F0 m 4 ls []) := by
    intro k4
    induction k4 with
    | zero =>
      intro x2 x3 H locs ls d0 hd h
      unfold lp_X12_slopeOf_4 at h
      exact h.elim
    | succ k4 ih4 =>
      intro x2 x3 H locs ls d0 hd h hM hl
      unfold lp_X12_slopeOf_4 at h
      refine lv_iload_n hx hb dX12_slopeOf_4 rfl (lv_at hl 3 rfl) ?_
      refine lv_if_le (tgt := 31) hx hb dX12_slopeOf_5 (by decide) (fun hq => ?_) (fun hq => ?_)
      · have h := h.1 hq
        exact jq31 _ _ _ _ _ hd h hM (lv_sub hl [2] rfl)
      · have h := h.2 hq
        refine lv_fload_n hx hb dX12_slopeOf_8 rfl (lv_at hl 2 rfl) ?_
        refine lv_fload_n hx hb dX12_slopeOf_9 rfl (lv_at hl 1 rfl) ?_
        refine lv_fmul_any hd lw_bits hx hb dX12_slopeOf_10 (fun w1 d1 ew1 hd => ?_)
        have h := h w1 ew1
        refine lv_iload_n hx hb dX12_slopeOf_11 rfl (lv_at hl 3 rfl) ?_
        refine lv_aload_n hx hb dX12_slopeOf_12 rfl (lv_at hl 0 rfl) ?_
        refine m_get (C := RX12) (T := TX12) (N := 45) (ci := 11) (ref := "LoweredPowersModel") (v := .ref (r0 0)) (CX.drawn C0 d1) hM 0 rfl rfl kt_X12_slopeOf_X12 0 (by decide) kw_X12_slopeOf_1 rfl rfl dX12_slopeOf_13 ?_
        refine lv_iload_n hx hb dX12_slopeOf_16 rfl (lv_at hl 3 rfl) ?_
        obtain ⟨hc2, h⟩ := h
        refine m_iald (CX.drawn C0 d1) hM 1 rfl hc2 dX12_slopeOf_17 ?_
        refine m_calli (wc := []) (CX.drawn C0 d1) hM [] rfl (m_runS (wc := []) (As := [.int (A_0_0_f (x3).toNatClampNeg)]) (rest := [.int x3, .float w1]) (CX.drawn C0 d1) hM (ct_X12_signed l D cI cJ cZ (A_0_0_f (x3).toNatClampNeg) _ _ h) [] rfl (by decide) gX12_slopeOf_X12_signed rfl rfl rfl hd_X12_signed ⟨Nat.le_of_ble_eq_true rfl, Nat.le_of_ble_eq_true rfl⟩ rfl hl.1 rfl (Nat.le_of_ble_eq_true rfl) dX12_slopeOf_18 ⟨Nat.le_of_ble_eq_true rfl, Nat.le_of_ble_eq_true rfl⟩) (fun _ => [(h0, .inr (11, oX12 r0 I_0_isFound I_0_foundB I_0_changes I_0_taped I_0_size I_0_at I_0_signs I_0_wanted I_0_sign I_0_isKept I_0_keptFound I_0_keptB I_0_keptChanges)), ((r0 0), .inl (cI, 5, .inl A_0_0_f))]) (fun _ => rfl) (fun _ => rfl) (fun y3 _ H locs h hM => ?_)
        refine lv_imul hx hb dX12_slopeOf_21 ?_
        refine lv_i2f hx hb dX12_slopeOf_22 ?_
        refine lv_fadd_any hd lw_bits hx hb dX12_slopeOf_23 (fun w4 d1 ew4 hd => ?_)
        have h := h w4 ew4
        refine lv_fstore_n (lv' := [(2, .float w4), (0, .ref h0), (1, .float x1), (3, .int x3)]) hx hb dX12_slopeOf_24 rfl hl (by decide) rfl (fun ls hl => ?_)
        refine lv_iinc (v := (x3 + (-1 : Int32))) (lv' := [(3, .int (x3 + (-1 : Int32))), (2, .float w4), (0, .ref h0), (1, .float x1)]) hx hb dX12_slopeOf_25 hl (k := 3) rfl rfl (by decide) rfl (fun ls hl => ?_)
        refine lv_goto (tgt := 4) hx hb dX12_slopeOf_28 (by decide) ?_
        exact ih4 _ _ _ _ _ _ hd h hM (lv_sub hl [2, 3, 1, 0] rfl)
  unfold wp_X12_slopeOf at h
  refine lv_fconst0 hx hb dX12_slopeOf_0 ?_
  refine lv_topf (fun y5 ey5 => ?_)
  have h := h y5 ey5
  refine lv_fstore_n (lv' := [(2, .float y5), (0, .ref h0), (1, .float x1)]) hx hb dX12_slopeOf_1 rfl hl (by decide) rfl (fun ls hl => ?_)
  refine lv_iconst (v := (4 : Int32)) hx hb dX12_slopeOf_2 (by decide) ?_
  refine lv_istore_n (lv' := [(3, .int (4 : Int32)), (2, .float y5), (0, .ref h0), (1, .float x1)]) hx hb dX12_slopeOf_3 rfl hl (by decide) rfl (fun ls hl => ?_)
  obtain ⟨k0, h⟩ := h
  exact lq4 k0 _ _ _ _ _ _ hd h hM (lv_sub hl [2, 3, 1, 0] rfl)
abbrev rm_X12_valueIn : Room := { frames := 1, cells := 0, slots := 0, locals := 20 }
set_option maxRecDepth 100000 in
set_option maxHeartbeats 4000000 in
theorem ct_X12_valueIn (l : Launch) (D : va_G) (cI cJ cZ : ClassId) (h0 : Nat) (r0 : Nat → Nat) (I_0_isFound : Int32) (I_0_foundB : Int32) (I_0_changes : Int32) (I_0_taped : Int32) (I_0_size : Int32) (I_0_at : Int32) (I_0_signs : Int32) (I_0_wanted : Int32) (I_0_sign : Int32) (I_0_isKept : Int32) (I_0_keptFound : Int32) (I_0_keptB : Int32) (I_0_keptChanges : Int32) (A_0_0_f : (Nat → Int32)) (x1 : UInt64) (sz : Nat) (K : UInt64 → Prop) (h : wp_X12_valueIn x1 A_0_0_f K) : MetD lw_cs l yX12_valueIn wsX12_valueIn rm_X12_valueIn (va_Pc [.ref h0, .double x1] (WX D cI cJ cZ [(h0, .inr (11, oX12 r0 I_0_isFound I_0_foundB I_0_changes I_0_taped I_0_size I_0_at I_0_signs I_0_wanted I_0_sign I_0_isKept I_0_keptFound I_0_keptB I_0_keptChanges)), ((r0 0), .inl (cI, 5, .inl A_0_0_f))] sz)) (va_Qd (fun (r : UInt64) (_ : Unit) => K r ) (fun (_ : Unit) t => WY D (va_A [(h0, .inr (11, oX12 r0 I_0_isFound I_0_foundB I_0_changes I_0_taped I_0_size I_0_at I_0_signs I_0_wanted I_0_sign I_0_isKept I_0_keptFound I_0_keptB I_0_keptChanges)), ((r0 0), .inl (cI, 5, .inl A_0_0_f))] sz) [(h0, .inr (11, oX12 r0 I_0_isFound I_0_foundB I_0_changes I_0_taped I_0_size I_0_at I_0_signs I_0_wanted I_0_sign I_0_isKept I_0_keptFound I_0_keptB I_0_keptChanges)), ((r0 0), .inl (cI, 5, .inl A_0_0_f))] t) (va_A [(h0, .inr (11, oX12 r0 I_0_isFound I_0_foundB I_0_changes I_0_taped I_0_size I_0_at I_0_signs I_0_wanted I_0_sign I_0_isKept I_0_keptFound I_0_keptB I_0_keptChanges)), ((r0 0), .inl (cI, 5, .inl A_0_0_f))] sz)) 0 0 (va_A [(h0, .inr (11, oX12 r0 I_0_isFound I_0_foundB I_0_changes I_0_taped I_0_size I_0_at I_0_signs I_0_wanted I_0_sign I_0_isKept I_0_keptFound I_0_keptB I_0_keptChanges)), ((r0 0), .inl (cI, 5, .inl A_0_0_f))] sz) := by
  refine m_metD (own := RX12) (cc := cX12_valueIn) (maxL := 6) (ret := some .double) [.ref h0, .double x1] [(0, .ref h0), (1, .double x1)] (by decide) rfl rfl (Nat.le_of_ble_eq_true rfl) rfl ?_
  intro p e s m args below meth c Q A hQ hA C0 hr hnm hsz hM ls hl hd
  have hx := C0.1
  have hb := C0.2.1
  have hown := C0.2.2.2.1
  have jq32 : ∀ (x3 : UInt64) (H : Heap) (locs : List Loc) (ls : Array Slot) (d0 : Drawn) , s.drawn.sameBut d0 lw_cs → jn_X12_valueIn_32 x1 A_0_0_f K x3 → MW D A s.heap [(h0, .inr (11, oX12 r0 I_0_isFound I_0_foundB I_0_changes I_0_taped I_0_size I_0_at I_0_signs I_0_wanted I_0_sign I_0_isKept I_0_keptFound I_0_keptB I_0_keptChanges)), ((r0 0), .inl (cI, 5, .inl A_0_0_f))] H locs → lv_has ls 6 [(3, .double x3)] → W p l e rm_X12_valueIn (s.setDrawn d0) m args below meth c H locs 0 0 Q (F0 m 32 ls []) := by
    intro x3 H locs ls d0 hd h hM hl
    unfold jn_X12_valueIn_32 at h
    refine lv_dload_n hx hb dX12_valueIn_32 rfl (lv_at hl 0 rfl) ?_
    subst hsz; subst hA; subst hQ
    refine W.endD hd ?_
    exact m_dret (CX.drawn C0 d0) hr hM () h rfl dX12_valueIn_33
  have lq5 : ∀ (k5 : Nat) (x3 : UInt64) (x5 : Int32) (H : Heap) (locs : List Loc) (ls : Array Slot) (d0 : Drawn) , s.drawn.sameBut d0 lw_cs → lp_X12_valueIn_5 x1 A_0_0_f (jn_X12_valueIn_32 x1 A_0_0_f K) K k5 x3 x5 → MW D A s.heap [(h0, .inr (11, oX12 r0 I_0_isFound I_0_foundB I_0_changes I_0_taped I_0_size I_0_at I_0_signs I_0_wanted I_0_sign I_0_isKept I_0_keptFound I_0_keptB I_0_keptChanges)), ((r0 0), .inl (cI, 5, .inl A_0_0_f))] H locs → lv_has ls 6 [(0, .ref h0), (1, .double x1), (3, .double x3), (5, .int x5)] → W p l e rm_X12_valueIn (s.setDrawn d0) m args below meth c H locs 0 0 Q (F0 m 5 ls []) := by
    intro k5
    induction k5 with
    | zero =>
      intro x3 x5 H locs ls d0 hd h
      unfold lp_X12_valueIn_5 at h
      exact h.elim
    | succ k5 ih5 =>
      intro x3 x5 H locs ls d0 hd h hM hl
      unfold lp_X12_valueIn_5 at h
      refine lv_iload hx hb dX12_valueIn_5 (lv_at hl 3 rfl) ?_
      refine lv_if_lt (tgt := 32) hx hb dX12_valueIn_7 (by decide) (fun hq => ?_) (fun hq => ?_)
      · have h := h.1 hq
        exact jq32 _ _ _ _ _ hd h hM (lv_sub hl [2] rfl)
      · have h := h.2 hq
        refine lv_dload_n hx hb dX12_valueIn_10 rfl (lv_at hl 2 rfl) ?_
        refine lv_dload_n hx hb dX12_valueIn_11 rfl (lv_at hl 1 rfl) ?_
        refine lv_dmul_any hd lw_bits hx hb dX12_valueIn_12 (fun w1 d1 ew1 hd => ?_)
        have h := h w1 ew1
        refine lv_aload_n hx hb dX12_valueIn_13 rfl (lv_at hl 0 rfl) ?_
        refine m_get (C := RX12) (T := TX12) (N := 45) (ci := 11) (ref := "LoweredPowersModel") (v := .ref (r0 0)) (CX.drawn C0 d1) hM 0 rfl rfl kt_X12_valueIn_X12 0 (by decide) kw_X12_valueIn_1 rfl rfl dX12_valueIn_14 ?_
        refine lv_iload hx hb dX12_valueIn_17 (lv_at hl 3 rfl) ?_
        obtain ⟨hc2, h⟩ := h
        refine m_iald (CX.drawn C0 d1) hM 1 rfl hc2 dX12_valueIn_19 ?_
        refine m_calli (wc := []) (CX.drawn C0 d1) hM [] rfl (m_runS (wc := []) (As := [.int (A_0_0_f (x5).toNatClampNeg)]) (rest := [.double w1]) (CX.drawn C0 d1) hM (ct_X12_signed l D cI cJ cZ (A_0_0_f (x5).toNatClampNeg) _ _ h) [] rfl (by decide) gX12_valueIn_X12_signed rfl rfl rfl hd_X12_signed ⟨Nat.le_of_ble_eq_true rfl, Nat.le_of_ble_eq_true rfl⟩ rfl hl.1 rfl (Nat.le_of_ble_eq_true rfl) dX12_valueIn_20 ⟨Nat.le_of_ble_eq_true rfl, Nat.le_of_ble_eq_true rfl⟩) (fun _ => [(h0, .inr (11, oX12 r0 I_0_isFound I_0_foundB I_0_changes I_0_taped I_0_size I_0_at I_0_signs I_0_wanted I_0_sign I_0_isKept I_0_keptFound I_0_keptB I_0_keptChanges)), ((r0 0), .inl (cI, 5, .inl A_0_0_f))]) (fun _ => rfl) (fun _ => rfl) (fun y3 _ H locs h hM => ?_)
        refine lv_i2d hx hb dX12_valueIn_23 ?_
        refine lv_dadd_any hd lw_bits hx hb dX12_valueIn_24 (fun w4 d1 ew4 hd => ?_)
        have h := h w4 ew4
        refine lv_dstore_n (lv' := [(3, .double w4), (0, .ref h0), (1, .double x1), (5, .int x5)]) hx hb dX12_valueIn_25 rfl hl (by decide) rfl (fun ls hl => ?_)
        refine lv_iinc (v := (x5 + (-1 : Int32))) (lv' := [(5, .int (x5 + (-1 : Int32))), (3, .double w4), (0, .ref h0), (1, .double x1)]) hx hb dX12_valueIn_26 hl (k := 3) rfl rfl (by decide) rfl (fun ls hl => ?_)
        refine lv_goto (tgt := 5) hx hb dX12_valueIn_29 (by decide) ?_
        exact ih5 _ _ _ _ _ _ hd h hM (lv_sub hl [2, 3, 1, 0] rfl)
  unfold wp_X12_valueIn at h
  refine lv_dconst0 hx hb dX12_valueIn_0 ?_
  refine lv_topd (fun y5 ey5 => ?_)
  have h := h y5 ey5
  refine lv_dstore_n (lv' := [(3, .double y5), (0, .ref h0), (1, .double x1)]) hx hb dX12_valueIn_1 rfl hl (by decide) rfl (fun ls hl => ?_)
  refine lv_iconst (v := (4 : Int32)) hx hb dX12_valueIn_2 (by decide) ?_
  refine lv_istore (lv' := [(5, .int (4 : Int32)), (3, .double y5), (0, .ref h0), (1, .double x1)]) hx hb dX12_valueIn_3 hl (by decide) rfl (fun ls hl => ?_)
  obtain ⟨k0, h⟩ := h
  exact lq5 k0 _ _ _ _ _ _ hd h hM (lv_sub hl [2, 3, 1, 0] rfl)
abbrev rm_X12_value : Room := { frames := 2, cells := 0, slots := 0, locals := 46 }
set_option maxRecDepth 100000 in
set_option maxHeartbeats 4000000 in
theorem ct_X12_value (l : Launch) (D : va_G) (cI cJ cZ : ClassId) (h0 : Nat) (r0 : Nat → Nat) (I_0_isFound : Int32) (I_0_foundB : Int32) (I_0_changes : Int32) (I_0_taped : Int32) (I_0_size : Int32) (I_0_at : Int32) (I_0_signs : Int32) (I_0_wanted : Int32) (I_0_sign : Int32) (I_0_isKept : Int32) (I_0_keptFound : Int32) (I_0_keptB : Int32) (I_0_keptChanges : Int32) (A_0_0_f : (Nat → Int32)) (x1 : Int32) (sz : Nat) (K : Int32 → Prop) (h : wp_X12_value x1 A_0_0_f K) : MetD lw_cs l yX12_value wsX12_value rm_X12_value (va_Pc [.ref h0, .int x1] (WX D cI cJ cZ [(h0, .inr (11, oX12 r0 I_0_isFound I_0_foundB I_0_changes I_0_taped I_0_size I_0_at I_0_signs I_0_wanted I_0_sign I_0_isKept I_0_keptFound I_0_keptB I_0_keptChanges)), ((r0 0), .inl (cI, 5, .inl A_0_0_f))] sz)) (va_Qi (fun (r : Int32) (_ : Unit) => K r ) (fun (_ : Unit) t => WY D (va_A [(h0, .inr (11, oX12 r0 I_0_isFound I_0_foundB I_0_changes I_0_taped I_0_size I_0_at I_0_signs I_0_wanted I_0_sign I_0_isKept I_0_keptFound I_0_keptB I_0_keptChanges)), ((r0 0), .inl (cI, 5, .inl A_0_0_f))] sz) [(h0, .inr (11, oX12 r0 I_0_isFound I_0_foundB I_0_changes I_0_taped I_0_size I_0_at I_0_signs I_0_wanted I_0_sign I_0_isKept I_0_keptFound I_0_keptB I_0_keptChanges)), ((r0 0), .inl (cI, 5, .inl A_0_0_f))] t) (va_A [(h0, .inr (11, oX12 r0 I_0_isFound I_0_foundB I_0_changes I_0_taped I_0_size I_0_at I_0_signs I_0_wanted I_0_sign I_0_isKept I_0_keptFound I_0_keptB I_0_keptChanges)), ((r0 0), .inl (cI, 5, .inl A_0_0_f))] sz)) 0 0 (va_A [(h0, .inr (11, oX12 r0 I_0_isFound I_0_foundB I_0_changes I_0_taped I_0_size I_0_at I_0_signs I_0_wanted I_0_sign I_0_isKept I_0_keptFound I_0_keptB I_0_keptChanges)), ((r0 0), .inl (cI, 5, .inl A_0_0_f))] sz) := by
  refine m_metD (own := RX12) (cc := cX12_value) (maxL := 2) (ret := some .int) [.ref h0, .int x1] [(0, .ref h0), (1, .int x1)] (by decide) rfl rfl (Nat.le_of_ble_eq_true rfl) rfl ?_
  intro p e s m args below meth c Q A hQ hA C0 hr hnm hsz hM ls hl hd
  have hx := C0.1
  have hb := C0.2.1
  have hown := C0.2.2.2.1
  unfold wp_X12_value at h
  refine lv_aload_n hx hb dX12_value_0 rfl (lv_at hl 0 rfl) ?_
  refine lv_iload_n hx hb dX12_value_1 rfl (lv_at hl 1 rfl) ?_
  refine m_i2fb hd lw_copy hx hb (C0.2.2.1.trans hl.1.symm) hown (C0.2.2.2.2.1 _ kw_X12_value_1) (C0.2.2.2.2.1 _ kw_X12_value_2) (C0.2.2.2.2.1 _ kw_X12_value_3) (C0.2.2.2.2.1 _ kw_X12_value_4) (Nat.le_of_ble_eq_true rfl) (Nat.le_of_ble_eq_true rfl) dX12_value_2 (fun w1 d1 ew1 hd => ?_)
  have h := h w1 ew1
  refine m_callfD (wc := [(h0, .inr (11, oX12 r0 I_0_isFound I_0_foundB I_0_changes I_0_taped I_0_size I_0_at I_0_signs I_0_wanted I_0_sign I_0_isKept I_0_keptFound I_0_keptB I_0_keptChanges)), ((r0 0), .inl (cI, 5, .inl A_0_0_f))]) hd (CX.drawn C0 d1) hM [0, 1] rfl (m_runV_D (wc := [(h0, .inr (11, oX12 r0 I_0_isFound I_0_foundB I_0_changes I_0_taped I_0_size I_0_at I_0_signs I_0_wanted I_0_sign I_0_isKept I_0_keptFound I_0_keptB I_0_keptChanges)), ((r0 0), .inl (cI, 5, .inl A_0_0_f))]) (As := [.float w1]) (rest := []) (ci := 11) (CX.drawn C0 d1) hM (ct_X12_valueOf l D cI cJ cZ h0 r0 I_0_isFound I_0_foundB I_0_changes I_0_taped I_0_size I_0_at I_0_signs I_0_wanted I_0_sign I_0_isKept I_0_keptFound I_0_keptB I_0_keptChanges A_0_0_f w1 _ _ h) [0, 1] rfl (by decide) gX12_value_X12_valueOf rfl rfl rfl rfl rfl hd_X12_valueOf ⟨Nat.le_of_ble_eq_true rfl, Nat.le_of_ble_eq_true rfl⟩ rfl hl.1 rfl (Nat.le_of_ble_eq_true rfl) dX12_value_5 ⟨Nat.le_of_ble_eq_true rfl, Nat.le_of_ble_eq_true rfl⟩) (fun _ => [(h0, .inr (11, oX12 r0 I_0_isFound I_0_foundB I_0_changes I_0_taped I_0_size I_0_at I_0_signs I_0_wanted I_0_sign I_0_isKept I_0_keptFound I_0_keptB I_0_keptChanges)), ((r0 0), .inl (cI, 5, .inl A_0_0_f))]) (fun _ => rfl) (fun _ => rfl) (fun y2 _ H locs h hM d1 hd => ?_)
  refine m_calli (wc := []) (CX.drawn C0 d1) hM [] rfl (m_runS (wc := []) (As := [.float y2]) (rest := []) (CX.drawn C0 d1) hM (ct_Jxf58ca_floatToIntBits_5c35a l D cI cJ cZ y2 _ _ h) [] rfl (by decide) gX12_value_Jxf58ca_floatToIntBits_5c35a rfl rfl rfl hd_Jxf58ca_floatToIntBits_5c35a ⟨Nat.le_of_ble_eq_true rfl, Nat.le_of_ble_eq_true rfl⟩ rfl hl.1 rfl (Nat.le_of_ble_eq_true rfl) dX12_value_8 ⟨Nat.le_of_ble_eq_true rfl, Nat.le_of_ble_eq_true rfl⟩) (fun _ => [(h0, .inr (11, oX12 r0 I_0_isFound I_0_foundB I_0_changes I_0_taped I_0_size I_0_at I_0_signs I_0_wanted I_0_sign I_0_isKept I_0_keptFound I_0_keptB I_0_keptChanges)), ((r0 0), .inl (cI, 5, .inl A_0_0_f))]) (fun _ => rfl) (fun _ => rfl) (fun y3 _ H locs h hM => ?_)
  subst hsz; subst hA; subst hQ
  refine W.endD hd ?_
  exact m_iret (CX.drawn C0 d1) hr hM () h rfl dX12_value_11
abbrev rm_X12_slope : Room := { frames := 2, cells := 0, slots := 0, locals := 46 }
set_option maxRecDepth 100000 in
set_option maxHeartbeats 4000000 in
theorem ct_X12_slope (l : Launch) (D : va_G) (cI cJ cZ : ClassId) (h0 : Nat) (r0 : Nat → Nat) (I_0_isFound : Int32) (I_0_foundB : Int32) (I_0_changes : Int32) (I_0_taped : Int32) (I_0_size : Int32) (I_0_at : Int32) (I_0_signs : Int32) (I_0_wanted : Int32) (I_0_sign : Int32) (I_0_isKept : Int32) (I_0_keptFound : Int32) (I_0_keptB : Int32) (I_0_keptChanges : Int32) (A_0_0_f : (Nat → Int32)) (x1 : Int32) (sz : Nat) (K : Int32 → Prop) (h : wp_X12_slope x1 A_0_0_f K) : MetD lw_cs l yX12_slope wsX12_slope rm_X12_slope (va_Pc [.ref h0, .int x1] (WX D cI cJ cZ [(h0, .inr (11, oX12 r0 I_0_isFound I_0_foundB I_0_changes I_0_taped I_0_size I_0_at I_0_signs I_0_wanted I_0_sign I_0_isKept I_0_keptFound I_0_keptB I_0_keptChanges)), ((r0 0), .inl (cI, 5, .inl A_0_0_f))] sz)) (va_Qi (fun (r : Int32) (_ : Unit) => K r ) (fun (_ : Unit) t => WY D (va_A [(h0, .inr (11, oX12 r0 I_0_isFound I_0_foundB I_0_changes I_0_taped I_0_size I_0_at I_0_signs I_0_wanted I_0_sign I_0_isKept I_0_keptFound I_0_keptB I_0_keptChanges)), ((r0 0), .inl (cI, 5, .inl A_0_0_f))] sz) [(h0, .inr (11, oX12 r0 I_0_isFound I_0_foundB I_0_changes I_0_taped I_0_size I_0_at I_0_signs I_0_wanted I_0_sign I_0_isKept I_0_keptFound I_0_keptB I_0_keptChanges)), ((r0 0), .inl (cI, 5, .inl A_0_0_f))] t) (va_A [(h0, .inr (11, oX12 r0 I_0_isFound I_0_foundB I_0_changes I_0_taped I_0_size I_0_at I_0_signs I_0_wanted I_0_sign I_0_isKept I_0_keptFound I_0_keptB I_0_keptChanges)), ((r0 0), .inl (cI, 5, .inl A_0_0_f))] sz)) 0 0 (va_A [(h0, .inr (11, oX12 r0 I_0_isFound I_0_foundB I_0_changes I_0_taped I_0_size I_0_at I_0_signs I_0_wanted I_0_sign I_0_isKept I_0_keptFound I_0_keptB I_0_keptChanges)), ((r0 0), .inl (cI, 5, .inl A_0_0_f))] sz) := by
  refine m_metD (own := RX12) (cc := cX12_slope) (maxL := 2) (ret := some .int) [.ref h0, .int x1] [(0, .ref h0), (1, .int x1)] (by decide) rfl rfl (Nat.le_of_ble_eq_true rfl) rfl ?_
  intro p e s m args below meth c Q A hQ hA C0 hr hnm hsz hM ls hl hd
  have hx := C0.1
  have hb := C0.2.1
  have hown := C0.2.2.2.1
  unfold wp_X12_slope at h
  refine lv_aload_n hx hb dX12_slope_0 rfl (lv_at hl 0 rfl) ?_
  refine lv_iload_n hx hb dX12_slope_1 rfl (lv_at hl 1 rfl) ?_
  refine m_i2fb hd lw_copy hx hb (C0.2.2.1.trans hl.1.symm) hown (C0.2.2.2.2.1 _ kw_X12_slope_1) (C0.2.2.2.2.1 _ kw_X12_slope_2) (C0.2.2.2.2.1 _ kw_X12_slope_3) (C0.2.2.2.2.1 _ kw_X12_slope_4) (Nat.le_of_ble_eq_true rfl) (Nat.le_of_ble_eq_true rfl) dX12_slope_2 (fun w1 d1 ew1 hd => ?_)
  have h := h w1 ew1
  refine m_callfD (wc := [(h0, .inr (11, oX12 r0 I_0_isFound I_0_foundB I_0_changes I_0_taped I_0_size I_0_at I_0_signs I_0_wanted I_0_sign I_0_isKept I_0_keptFound I_0_keptB I_0_keptChanges)), ((r0 0), .inl (cI, 5, .inl A_0_0_f))]) hd (CX.drawn C0 d1) hM [0, 1] rfl (m_runV_D (wc := [(h0, .inr (11, oX12 r0 I_0_isFound I_0_foundB I_0_changes I_0_taped I_0_size I_0_at I_0_signs I_0_wanted I_0_sign I_0_isKept I_0_keptFound I_0_keptB I_0_keptChanges)), ((r0 0), .inl (cI, 5, .inl A_0_0_f))]) (As := [.float w1]) (rest := []) (ci := 11) (CX.drawn C0 d1) hM (ct_X12_slopeOf l D cI cJ cZ h0 r0 I_0_isFound I_0_foundB I_0_changes I_0_taped I_0_size I_0_at I_0_signs I_0_wanted I_0_sign I_0_isKept I_0_keptFound I_0_keptB I_0_keptChanges A_0_0_f w1 _ _ h) [0, 1] rfl (by decide) gX12_slope_X12_slopeOf rfl rfl rfl rfl rfl hd_X12_slopeOf ⟨Nat.le_of_ble_eq_true rfl, Nat.le_of_ble_eq_true rfl⟩ rfl hl.1 rfl (Nat.le_of_ble_eq_true rfl) dX12_slope_5 ⟨Nat.le_of_ble_eq_true rfl, Nat.le_of_ble_eq_true rfl⟩) (fun _ => [(h0, .inr (11, oX12 r0 I_0_isFound I_0_foundB I_0_changes I_0_taped I_0_size I_0_at I_0_signs I_0_wanted I_0_sign I_0_isKept I_0_keptFound I_0_keptB I_0_keptChanges)), ((r0 0), .inl (cI, 5, .inl A_0_0_f))]) (fun _ => rfl) (fun _ => rfl) (fun y2 _ H locs h hM d1 hd => ?_)
  refine m_calli (wc := []) (CX.drawn C0 d1) hM [] rfl (m_runS (wc := []) (As := [.float y2]) (rest := []) (CX.drawn C0 d1) hM (ct_Jxf58ca_floatToIntBits_5c35a l D cI cJ cZ y2 _ _ h) [] rfl (by decide) gX12_slope_Jxf58ca_floatToIntBits_5c35a rfl rfl rfl hd_Jxf58ca_floatToIntBits_5c35a ⟨Nat.le_of_ble_eq_true rfl, Nat.le_of_ble_eq_true rfl⟩ rfl hl.1 rfl (Nat.le_of_ble_eq_true rfl) dX12_slope_8 ⟨Nat.le_of_ble_eq_true rfl, Nat.le_of_ble_eq_true rfl⟩) (fun _ => [(h0, .inr (11, oX12 r0 I_0_isFound I_0_foundB I_0_changes I_0_taped I_0_size I_0_at I_0_signs I_0_wanted I_0_sign I_0_isKept I_0_keptFound I_0_keptB I_0_keptChanges)), ((r0 0), .inl (cI, 5, .inl A_0_0_f))]) (fun _ => rfl) (fun _ => rfl) (fun y3 _ H locs h hM => ?_)
  subst hsz; subst hA; subst hQ
  refine W.endD hd ?_
  exact m_iret (CX.drawn C0 d1) hr hM () h rfl dX12_slope_11
abbrev rm_X12_steps : Room := { frames := 2, cells := 0, slots := 0, locals := 46 }
set_option maxRecDepth 100000 in
set_option maxHeartbeats 4000000 in
theorem ct_X12_steps (l : Launch) (D : va_G) (cI cJ cZ : ClassId) (h0 : Nat) (r0 : Nat → Nat) (I_0_isFound : Int32) (I_0_foundB : Int32) (I_0_changes : Int32) (I_0_taped : Int32) (I_0_size : Int32) (I_0_at : Int32) (I_0_signs : Int32) (I_0_wanted : Int32) (I_0_sign : Int32) (I_0_isKept : Int32) (I_0_keptFound : Int32) (I_0_keptB : Int32) (I_0_keptChanges : Int32) (A_0_0_f : (Nat → Int32)) (x1 : Int32) (x2 : Int32) (sz : Nat) (K : Int32 → Prop) (h : wp_X12_steps x1 x2 A_0_0_f K) : MetD lw_cs l yX12_steps wsX12_steps rm_X12_steps (va_Pc [.ref h0, .int x1, .int x2] (WX D cI cJ cZ [(h0, .inr (11, oX12 r0 I_0_isFound I_0_foundB I_0_changes I_0_taped I_0_size I_0_at I_0_signs I_0_wanted I_0_sign I_0_isKept I_0_keptFound I_0_keptB I_0_keptChanges)), ((r0 0), .inl (cI, 5, .inl A_0_0_f))] sz)) (va_Qi (fun (r : Int32) (_ : Unit) => K r ) (fun (_ : Unit) t => WY D (va_A [(h0, .inr (11, oX12 r0 I_0_isFound I_0_foundB I_0_changes I_0_taped I_0_size I_0_at I_0_signs I_0_wanted I_0_sign I_0_isKept I_0_keptFound I_0_keptB I_0_keptChanges)), ((r0 0), .inl (cI, 5, .inl A_0_0_f))] sz) [(h0, .inr (11, oX12 r0 I_0_isFound I_0_foundB I_0_changes I_0_taped I_0_size I_0_at I_0_signs I_0_wanted I_0_sign I_0_isKept I_0_keptFound I_0_keptB I_0_keptChanges)), ((r0 0), .inl (cI, 5, .inl A_0_0_f))] t) (va_A [(h0, .inr (11, oX12 r0 I_0_isFound I_0_foundB I_0_changes I_0_taped I_0_size I_0_at I_0_signs I_0_wanted I_0_sign I_0_isKept I_0_keptFound I_0_keptB I_0_keptChanges)), ((r0 0), .inl (cI, 5, .inl A_0_0_f))] sz)) 0 0 (va_A [(h0, .inr (11, oX12 r0 I_0_isFound I_0_foundB I_0_changes I_0_taped I_0_size I_0_at I_0_signs I_0_wanted I_0_sign I_0_isKept I_0_keptFound I_0_keptB I_0_keptChanges)), ((r0 0), .inl (cI, 5, .inl A_0_0_f))] sz) := by
  refine m_metD (own := RX12) (cc := cX12_steps) (maxL := 5) (ret := some .int) [.ref h0, .int x1, .int x2] [(0, .ref h0), (1, .int x1), (2, .int x2)] (by decide) rfl rfl (Nat.le_of_ble_eq_true rfl) rfl ?_
  intro p e s m args below meth c Q A hQ hA C0 hr hnm hsz hM ls hl hd
  have hx := C0.1
  have hb := C0.2.1
  have hown := C0.2.2.2.1
  have jq47 : ∀ (x3 : UInt32) (H : Heap) (locs : List Loc) (ls : Array Slot) (d0 : Drawn) , s.drawn.sameBut d0 lw_cs → jn_X12_steps_47 x1 x2 A_0_0_f K x3 → MW D A s.heap [(h0, .inr (11, oX12 r0 I_0_isFound I_0_foundB I_0_changes I_0_taped I_0_size I_0_at I_0_signs I_0_wanted I_0_sign I_0_isKept I_0_keptFound I_0_keptB I_0_keptChanges)), ((r0 0), .inl (cI, 5, .inl A_0_0_f))] H locs → lv_has ls 5 [(3, .float x3)] → W p l e rm_X12_steps (s.setDrawn d0) m args below meth c H locs 0 0 Q (F0 m 47 ls []) := by
    intro x3 H locs ls d0 hd h hM hl
    unfold jn_X12_steps_47 at h
    refine lv_fload_n hx hb dX12_steps_47 rfl (lv_at hl 0 rfl) ?_
    refine m_calli (wc := []) (CX.drawn C0 d0) hM [] rfl (m_runS (wc := []) (As := [.float x3]) (rest := []) (CX.drawn C0 d0) hM (ct_Jxf58ca_floatToIntBits_5c35a l D cI cJ cZ x3 _ _ h) [] rfl (by decide) gX12_steps_Jxf58ca_floatToIntBits_5c35a rfl rfl rfl hd_Jxf58ca_floatToIntBits_5c35a ⟨Nat.le_of_ble_eq_true rfl, Nat.le_of_ble_eq_true rfl⟩ rfl hl.1 rfl (Nat.le_of_ble_eq_true rfl) dX12_steps_48 ⟨Nat.le_of_ble_eq_true rfl, Nat.le_of_ble_eq_true rfl⟩) (fun _ => [(h0, .inr (11, oX12 r0 I_0_isFound I_0_foundB I_0_changes I_0_taped I_0_size I_0_at I_0_signs I_0_wanted I_0_sign I_0_isKept I_0_keptFound I_0_keptB I_0_keptChanges)), ((r0 0), .inl (cI, 5, .inl A_0_0_f))]) (fun _ => rfl) (fun _ => rfl) (fun y1 _ H locs h hM => ?_)
    subst hsz; subst hA; subst hQ
    refine W.endD hd ?_
    exact m_iret (CX.drawn C0 d0) hr hM () h rfl dX12_steps_51
  have lq21 : ∀ (k21 : Nat) (x3 : UInt32) (x4 : Int32) (H : Heap) (locs : List Loc) (ls : Array Slot) (d0 : Drawn) , s.drawn.sameBut d0 lw_cs → lp_X12_steps_21 x1 x2 A_0_0_f (jn_X12_steps_47 x1 x2 A_0_0_f K) K k21 x3 x4 → MW D A s.heap [(h0, .inr (11, oX12 r0 I_0_isFound I_0_foundB I_0_changes I_0_taped I_0_size I_0_at I_0_signs I_0_wanted I_0_sign I_0_isKept I_0_keptFound I_0_keptB I_0_keptChanges)), ((r0 0), .inl (cI, 5, .inl A_0_0_f))] H locs → lv_has ls 5 [(0, .ref h0), (2, .int x2), (3, .float x3), (4, .int x4)] → W p l e rm_X12_steps (s.setDrawn d0) m args below meth c H locs 0 0 Q (F0 m 21 ls []) := by
    intro k21
    induction k21 with
    | zero =>
      intro x3 x4 H locs ls d0 hd h
      unfold lp_X12_steps_21 at h
      exact h.elim
    | succ k21 ih21 =>
      intro x3 x4 H locs ls d0 hd h hM hl
      unfold lp_X12_steps_21 at h
      refine lv_iload hx hb dX12_steps_21 (lv_at hl 3 rfl) ?_
      refine lv_iload_n hx hb dX12_steps_23 rfl (lv_at hl 1 rfl) ?_
      refine lv_icmp_ge (tgt := 47) hx hb dX12_steps_24 (by decide) (fun hq => ?_) (fun hq => ?_)
      · have h := h.1 hq
        exact jq47 _ _ _ _ _ hd h hM (lv_sub hl [2] rfl)
      · have h := h.2 hq
        refine lv_fload_n hx hb dX12_steps_27 rfl (lv_at hl 2 rfl) ?_
        refine lv_aload_n hx hb dX12_steps_28 rfl (lv_at hl 0 rfl) ?_
        refine lv_fload_n hx hb dX12_steps_29 rfl (lv_at hl 2 rfl) ?_
        refine m_callfD (wc := [(h0, .inr (11, oX12 r0 I_0_isFound I_0_foundB I_0_changes I_0_taped I_0_size I_0_at I_0_signs I_0_wanted I_0_sign I_0_isKept I_0_keptFound I_0_keptB I_0_keptChanges)), ((r0 0), .inl (cI, 5, .inl A_0_0_f))]) hd (CX.drawn C0 d0) hM [0, 1] rfl (m_runV_D (wc := [(h0, .inr (11, oX12 r0 I_0_isFound I_0_foundB I_0_changes I_0_taped I_0_size I_0_at I_0_signs I_0_wanted I_0_sign I_0_isKept I_0_keptFound I_0_keptB I_0_keptChanges)), ((r0 0), .inl (cI, 5, .inl A_0_0_f))]) (As := [.float x3]) (rest := [.float x3]) (ci := 11) (CX.drawn C0 d0) hM (ct_X12_valueOf l D cI cJ cZ h0 r0 I_0_isFound I_0_foundB I_0_changes I_0_taped I_0_size I_0_at I_0_signs I_0_wanted I_0_sign I_0_isKept I_0_keptFound I_0_keptB I_0_keptChanges A_0_0_f x3 _ _ h) [0, 1] rfl (by decide) gX12_steps_X12_valueOf rfl rfl rfl rfl rfl hd_X12_valueOf ⟨Nat.le_of_ble_eq_true rfl, Nat.le_of_ble_eq_true rfl⟩ rfl hl.1 rfl (Nat.le_of_ble_eq_true rfl) dX12_steps_30 ⟨Nat.le_of_ble_eq_true rfl, Nat.le_of_ble_eq_true rfl⟩) (fun _ => [(h0, .inr (11, oX12 r0 I_0_isFound I_0_foundB I_0_changes I_0_taped I_0_size I_0_at I_0_signs I_0_wanted I_0_sign I_0_isKept I_0_keptFound I_0_keptB I_0_keptChanges)), ((r0 0), .inl (cI, 5, .inl A_0_0_f))]) (fun _ => rfl) (fun _ => rfl) (fun y2 _ H locs h hM d1 hd => ?_)
        refine lv_aload_n hx hb dX12_steps_33 rfl (lv_at hl 0 rfl) ?_
        refine lv_fload_n hx hb dX12_steps_34 rfl (lv_at hl 2 rfl) ?_
        refine m_callfD (wc := [(h0, .inr (11, oX12 r0 I_0_isFound I_0_foundB I_0_changes I_0_taped I_0_size I_0_at I_0_signs I_0_wanted I_0_sign I_0_isKept I_0_keptFound I_0_keptB I_0_keptChanges)), ((r0 0), .inl (cI, 5, .inl A_0_0_f))]) hd (CX.drawn C0 d1) hM [0, 1] rfl (m_runV_D (wc := [(h0, .inr (11, oX12 r0 I_0_isFound I_0_foundB I_0_changes I_0_taped I_0_size I_0_at I_0_signs I_0_wanted I_0_sign I_0_isKept I_0_keptFound I_0_keptB I_0_keptChanges)), ((r0 0), .inl (cI, 5, .inl A_0_0_f))]) (As := [.float x3]) (rest := [.float y2, .float x3]) (ci := 11) (CX.drawn C0 d1) hM (ct_X12_slopeOf l D cI cJ cZ h0 r0 I_0_isFound I_0_foundB I_0_changes I_0_taped I_0_size I_0_at I_0_signs I_0_wanted I_0_sign I_0_isKept I_0_keptFound I_0_keptB I_0_keptChanges A_0_0_f x3 _ _ h) [0, 1] rfl (by decide) gX12_steps_X12_slopeOf rfl rfl rfl rfl rfl hd_X12_slopeOf ⟨Nat.le_of_ble_eq_true rfl, Nat.le_of_ble_eq_true rfl⟩ rfl hl.1 rfl (Nat.le_of_ble_eq_true rfl) dX12_steps_35 ⟨Nat.le_of_ble_eq_true rfl, Nat.le_of_ble_eq_true rfl⟩) (fun _ => [(h0, .inr (11, oX12 r0 I_0_isFound I_0_foundB I_0_changes I_0_taped I_0_size I_0_at I_0_signs I_0_wanted I_0_sign I_0_isKept I_0_keptFound I_0_keptB I_0_keptChanges)), ((r0 0), .inl (cI, 5, .inl A_0_0_f))]) (fun _ => rfl) (fun _ => rfl) (fun y3 _ H locs h hM d1 hd => ?_)
        refine lv_fdiv_any hd lw_bits hx hb dX12_steps_38 (fun w4 d1 ew4 hd => ?_)
        have h := h w4 ew4
        refine lv_fsub_any hd lw_bits hx hb dX12_steps_39 (fun w5 d1 ew5 hd => ?_)
        have h := h w5 ew5
        refine lv_fstore_n (lv' := [(3, .float w5), (0, .ref h0), (2, .int x2), (4, .int x4)]) hx hb dX12_steps_40 rfl hl (by decide) rfl (fun ls hl => ?_)
        refine lv_iinc (v := (x4 + (1 : Int32))) (lv' := [(4, .int (x4 + (1 : Int32))), (3, .float w5), (0, .ref h0), (2, .int x2)]) hx hb dX12_steps_41 hl (k := 3) rfl rfl (by decide) rfl (fun ls hl => ?_)
        refine lv_goto (tgt := 21) hx hb dX12_steps_44 (by decide) ?_
        exact ih21 _ _ _ _ _ _ hd h hM (lv_sub hl [2, 3, 1, 0] rfl)
  unfold wp_X12_steps at h
  refine lv_iload_n hx hb dX12_steps_0 rfl (lv_at hl 2 rfl) ?_
  refine lv_iconst (v := (0 : Int32)) hx hb dX12_steps_1 (by decide) ?_
  refine lv_bipush (v := (20 : Int32)) hx hb dX12_steps_2 (by decide) ?_
  refine m_calli (wc := []) (CX.drawn C0 s.drawn) hM [] rfl (m_runS (wc := []) (As := [.int x2, .int (0 : Int32), .int (20 : Int32)]) (rest := []) (CX.drawn C0 s.drawn) hM (ct_X12_isIn l D cI cJ cZ x2 (0 : Int32) (20 : Int32) _ _ h) [] rfl (by decide) gX12_steps_X12_isIn rfl rfl rfl hd_X12_isIn ⟨Nat.le_of_ble_eq_true rfl, Nat.le_of_ble_eq_true rfl⟩ rfl hl.1 rfl (Nat.le_of_ble_eq_true rfl) dX12_steps_4 ⟨Nat.le_of_ble_eq_true rfl, Nat.le_of_ble_eq_true rfl⟩) (fun _ => [(h0, .inr (11, oX12 r0 I_0_isFound I_0_foundB I_0_changes I_0_taped I_0_size I_0_at I_0_signs I_0_wanted I_0_sign I_0_isKept I_0_keptFound I_0_keptB I_0_keptChanges)), ((r0 0), .inl (cI, 5, .inl A_0_0_f))]) (fun _ => rfl) (fun _ => rfl) (fun y6 _ H locs h hM => ?_)
  refine lv_if_ne (tgt := 13) hx hb dX12_steps_7 (by decide) (fun hq => ?_) (fun hq => ?_)
  · have h := h.1 hq
    refine lv_iload_n hx hb dX12_steps_13 rfl (lv_at hl 1 rfl) ?_
    refine m_i2fb hd lw_copy hx hb (C0.2.2.1.trans hl.1.symm) hown (C0.2.2.2.2.1 _ kw_X12_steps_1) (C0.2.2.2.2.1 _ kw_X12_steps_2) (C0.2.2.2.2.1 _ kw_X12_steps_3) (C0.2.2.2.2.1 _ kw_X12_steps_4) (Nat.le_of_ble_eq_true rfl) (Nat.le_of_ble_eq_true rfl) dX12_steps_14 (fun w7 d1 ew7 hd => ?_)
    have h := h w7 ew7
    refine lv_fstore_n (lv' := [(3, .float w7), (0, .ref h0), (1, .int x1), (2, .int x2)]) hx hb dX12_steps_17 rfl hl (by decide) rfl (fun ls hl => ?_)
    refine lv_iconst (v := (0 : Int32)) hx hb dX12_steps_18 (by decide) ?_
    refine lv_istore (lv' := [(4, .int (0 : Int32)), (3, .float w7), (0, .ref h0), (1, .int x1), (2, .int x2)]) hx hb dX12_steps_19 hl (by decide) rfl (fun ls hl => ?_)
    obtain ⟨k0, h⟩ := h
    exact lq21 k0 _ _ _ _ _ _ hd h hM (lv_sub hl [2, 4, 1, 0] rfl)
  · have h := h.2 hq
    refine lv_bipush (v := (-2 : Int32)) hx hb dX12_steps_10 (by decide) ?_
    subst hsz; subst hA; subst hQ
    refine W.endD hd ?_
    exact m_iret (CX.drawn C0 s.drawn) hr hM () h rfl dX12_steps_12
abbrev rm_X12_cut : Room := { frames := 2, cells := 0, slots := 0, locals := 43 }
set_option maxRecDepth 100000 in
set_option maxHeartbeats 4000000 in
theorem ct_X12_cut (l : Launch) (D : va_G) (cI cJ cZ : ClassId) (h0 : Nat) (r0 : Nat → Nat) (I_0_isFound : Int32) (I_0_foundB : Int32) (I_0_changes : Int32) (I_0_taped : Int32) (I_0_size : Int32) (I_0_at : Int32) (I_0_signs : Int32) (I_0_wanted : Int32) (I_0_sign : Int32) (I_0_isKept : Int32) (I_0_keptFound : Int32) (I_0_keptB : Int32) (I_0_keptChanges : Int32) (A_0_0_f : (Nat → Int32)) (x1 : Int32) (sz : Nat) (K : Int32 → Prop) (h : wp_X12_cut x1 A_0_0_f K) : MetD lw_cs l yX12_cut wsX12_cut rm_X12_cut (va_Pc [.ref h0, .int x1] (WX D cI cJ cZ [(h0, .inr (11, oX12 r0 I_0_isFound I_0_foundB I_0_changes I_0_taped I_0_size I_0_at I_0_signs I_0_wanted I_0_sign I_0_isKept I_0_keptFound I_0_keptB I_0_keptChanges)), ((r0 0), .inl (cI, 5, .inl A_0_0_f))] sz)) (va_Qi (fun (r : Int32) (_ : Unit) => K r ) (fun (_ : Unit) t => WY D (va_A [(h0, .inr (11, oX12 r0 I_0_isFound I_0_foundB I_0_changes I_0_taped I_0_size I_0_at I_0_signs I_0_wanted I_0_sign I_0_isKept I_0_keptFound I_0_keptB I_0_keptChanges)), ((r0 0), .inl (cI, 5, .inl A_0_0_f))] sz) [(h0, .inr (11, oX12 r0 I_0_isFound I_0_foundB I_0_changes I_0_taped I_0_size I_0_at I_0_signs I_0_wanted I_0_sign I_0_isKept I_0_keptFound I_0_keptB I_0_keptChanges)), ((r0 0), .inl (cI, 5, .inl A_0_0_f))] t) (va_A [(h0, .inr (11, oX12 r0 I_0_isFound I_0_foundB I_0_changes I_0_taped I_0_size I_0_at I_0_signs I_0_wanted I_0_sign I_0_isKept I_0_keptFound I_0_keptB I_0_keptChanges)), ((r0 0), .inl (cI, 5, .inl A_0_0_f))] sz)) 0 0 (va_A [(h0, .inr (11, oX12 r0 I_0_isFound I_0_foundB I_0_changes I_0_taped I_0_size I_0_at I_0_signs I_0_wanted I_0_sign I_0_isKept I_0_keptFound I_0_keptB I_0_keptChanges)), ((r0 0), .inl (cI, 5, .inl A_0_0_f))] sz) := by
  refine m_metD (own := RX12) (cc := cX12_cut) (maxL := 2) (ret := some .int) [.ref h0, .int x1] [(0, .ref h0), (1, .int x1)] (by decide) rfl rfl (Nat.le_of_ble_eq_true rfl) rfl ?_
  intro p e s m args below meth c Q A hQ hA C0 hr hnm hsz hM ls hl hd
  have hx := C0.1
  have hb := C0.2.1
  have hown := C0.2.2.2.1
  unfold wp_X12_cut at h
  refine lv_aload_n hx hb dX12_cut_0 rfl (lv_at hl 0 rfl) ?_
  refine lv_iload_n hx hb dX12_cut_1 rfl (lv_at hl 1 rfl) ?_
  refine m_i2fb hd lw_copy hx hb (C0.2.2.1.trans hl.1.symm) hown (C0.2.2.2.2.1 _ kw_X12_cut_1) (C0.2.2.2.2.1 _ kw_X12_cut_2) (C0.2.2.2.2.1 _ kw_X12_cut_3) (C0.2.2.2.2.1 _ kw_X12_cut_4) (Nat.le_of_ble_eq_true rfl) (Nat.le_of_ble_eq_true rfl) dX12_cut_2 (fun w1 d1 ew1 hd => ?_)
  have h := h w1 ew1
  refine m_callfD (wc := [(h0, .inr (11, oX12 r0 I_0_isFound I_0_foundB I_0_changes I_0_taped I_0_size I_0_at I_0_signs I_0_wanted I_0_sign I_0_isKept I_0_keptFound I_0_keptB I_0_keptChanges)), ((r0 0), .inl (cI, 5, .inl A_0_0_f))]) hd (CX.drawn C0 d1) hM [0, 1] rfl (m_runV_D (wc := [(h0, .inr (11, oX12 r0 I_0_isFound I_0_foundB I_0_changes I_0_taped I_0_size I_0_at I_0_signs I_0_wanted I_0_sign I_0_isKept I_0_keptFound I_0_keptB I_0_keptChanges)), ((r0 0), .inl (cI, 5, .inl A_0_0_f))]) (As := [.float w1]) (rest := []) (ci := 11) (CX.drawn C0 d1) hM (ct_X12_valueOf l D cI cJ cZ h0 r0 I_0_isFound I_0_foundB I_0_changes I_0_taped I_0_size I_0_at I_0_signs I_0_wanted I_0_sign I_0_isKept I_0_keptFound I_0_keptB I_0_keptChanges A_0_0_f w1 _ _ h) [0, 1] rfl (by decide) gX12_cut_X12_valueOf rfl rfl rfl rfl rfl hd_X12_valueOf ⟨Nat.le_of_ble_eq_true rfl, Nat.le_of_ble_eq_true rfl⟩ rfl hl.1 rfl (Nat.le_of_ble_eq_true rfl) dX12_cut_5 ⟨Nat.le_of_ble_eq_true rfl, Nat.le_of_ble_eq_true rfl⟩) (fun _ => [(h0, .inr (11, oX12 r0 I_0_isFound I_0_foundB I_0_changes I_0_taped I_0_size I_0_at I_0_signs I_0_wanted I_0_sign I_0_isKept I_0_keptFound I_0_keptB I_0_keptChanges)), ((r0 0), .inl (cI, 5, .inl A_0_0_f))]) (fun _ => rfl) (fun _ => rfl) (fun y2 _ H locs h hM d1 hd => ?_)
  refine lv_f2i hx hb dX12_cut_8 ?_
  subst hsz; subst hA; subst hQ
  refine W.endD hd ?_
  exact m_iret (CX.drawn C0 d1) hr hM () h rfl dX12_cut_9
abbrev rm_X12_valued : Room := { frames := 2, cells := 0, slots := 0, locals := 47 }
set_option maxRecDepth 100000 in
set_option maxHeartbeats 4000000 in
theorem ct_X12_valued (l : Launch) (D : va_G) (cI cJ cZ : ClassId) (h0 : Nat) (r0 : Nat → Nat) (I_0_isFound : Int32) (I_0_foundB : Int32) (I_0_changes : Int32) (I_0_taped : Int32) (I_0_size : Int32) (I_0_at : Int32) (I_0_signs : Int32) (I_0_wanted : Int32) (I_0_sign : Int32) (I_0_isKept : Int32) (I_0_keptFound : Int32) (I_0_keptB : Int32) (I_0_keptChanges : Int32) (A_0_0_f : (Nat → Int32)) (x1 : Int64) (sz : Nat) (K : Int64 → Prop) (h : wp_X12_valued x1 A_0_0_f K) : MetD lw_cs l yX12_valued wsX12_valued rm_X12_valued (va_Pc [.ref h0, .long x1] (WX D cI cJ cZ [(h0, .inr (11, oX12 r0 I_0_isFound I_0_foundB I_0_changes I_0_taped I_0_size I_0_at I_0_signs I_0_wanted I_0_sign I_0_isKept I_0_keptFound I_0_keptB I_0_keptChanges)), ((r0 0), .inl (cI, 5, .inl A_0_0_f))] sz)) (va_Ql (fun (r : Int64) (_ : Unit) => K r ) (fun (_ : Unit) t => WY D (va_A [(h0, .inr (11, oX12 r0 I_0_isFound I_0_foundB I_0_changes I_0_taped I_0_size I_0_at I_0_signs I_0_wanted I_0_sign I_0_isKept I_0_keptFound I_0_keptB I_0_keptChanges)), ((r0 0), .inl (cI, 5, .inl A_0_0_f))] sz) [(h0, .inr (11, oX12 r0 I_0_isFound I_0_foundB I_0_changes I_0_taped I_0_size I_0_at I_0_signs I_0_wanted I_0_sign I_0_isKept I_0_keptFound I_0_keptB I_0_keptChanges)), ((r0 0), .inl (cI, 5, .inl A_0_0_f))] t) (va_A [(h0, .inr (11, oX12 r0 I_0_isFound I_0_foundB I_0_changes I_0_taped I_0_size I_0_at I_0_signs I_0_wanted I_0_sign I_0_isKept I_0_keptFound I_0_keptB I_0_keptChanges)), ((r0 0), .inl (cI, 5, .inl A_0_0_f))] sz)) 0 0 (va_A [(h0, .inr (11, oX12 r0 I_0_isFound I_0_foundB I_0_changes I_0_taped I_0_size I_0_at I_0_signs I_0_wanted I_0_sign I_0_isKept I_0_keptFound I_0_keptB I_0_keptChanges)), ((r0 0), .inl (cI, 5, .inl A_0_0_f))] sz) := by
  refine m_metD (own := RX12) (cc := cX12_valued) (maxL := 3) (ret := some .long) [.ref h0, .long x1] [(0, .ref h0), (1, .long x1)] (by decide) rfl rfl (Nat.le_of_ble_eq_true rfl) rfl ?_
  intro p e s m args below meth c Q A hQ hA C0 hr hnm hsz hM ls hl hd
  have hx := C0.1
  have hb := C0.2.1
  have hown := C0.2.2.2.1
  unfold wp_X12_valued at h
  refine lv_aload_n hx hb dX12_valued_0 rfl (lv_at hl 0 rfl) ?_
  refine lv_lload_n hx hb dX12_valued_1 rfl (lv_at hl 1 rfl) ?_
  refine m_l2db hd lw_copy hx hb (C0.2.2.1.trans hl.1.symm) hown (C0.2.2.2.2.1 _ kw_X12_valued_1) (C0.2.2.2.2.1 _ kw_X12_valued_2) (C0.2.2.2.2.1 _ kw_X12_valued_3) (C0.2.2.2.2.1 _ kw_X12_valued_4) (Nat.le_of_ble_eq_true rfl) (Nat.le_of_ble_eq_true rfl) dX12_valued_2 (fun w1 d1 ew1 hd => ?_)
  have h := h w1 ew1
  refine m_calldD (wc := [(h0, .inr (11, oX12 r0 I_0_isFound I_0_foundB I_0_changes I_0_taped I_0_size I_0_at I_0_signs I_0_wanted I_0_sign I_0_isKept I_0_keptFound I_0_keptB I_0_keptChanges)), ((r0 0), .inl (cI, 5, .inl A_0_0_f))]) hd (CX.drawn C0 d1) hM [0, 1] rfl (m_runV_D (wc := [(h0, .inr (11, oX12 r0 I_0_isFound I_0_foundB I_0_changes I_0_taped I_0_size I_0_at I_0_signs I_0_wanted I_0_sign I_0_isKept I_0_keptFound I_0_keptB I_0_keptChanges)), ((r0 0), .inl (cI, 5, .inl A_0_0_f))]) (As := [.double w1]) (rest := []) (ci := 11) (CX.drawn C0 d1) hM (ct_X12_valueIn l D cI cJ cZ h0 r0 I_0_isFound I_0_foundB I_0_changes I_0_taped I_0_size I_0_at I_0_signs I_0_wanted I_0_sign I_0_isKept I_0_keptFound I_0_keptB I_0_keptChanges A_0_0_f w1 _ _ h) [0, 1] rfl (by decide) gX12_valued_X12_valueIn rfl rfl rfl rfl rfl hd_X12_valueIn ⟨Nat.le_of_ble_eq_true rfl, Nat.le_of_ble_eq_true rfl⟩ rfl hl.1 rfl (Nat.le_of_ble_eq_true rfl) dX12_valued_5 ⟨Nat.le_of_ble_eq_true rfl, Nat.le_of_ble_eq_true rfl⟩) (fun _ => [(h0, .inr (11, oX12 r0 I_0_isFound I_0_foundB I_0_changes I_0_taped I_0_size I_0_at I_0_signs I_0_wanted I_0_sign I_0_isKept I_0_keptFound I_0_keptB I_0_keptChanges)), ((r0 0), .inl (cI, 5, .inl A_0_0_f))]) (fun _ => rfl) (fun _ => rfl) (fun y2 _ H locs h hM d1 hd => ?_)
  refine m_calll (wc := []) (CX.drawn C0 d1) hM [] rfl (m_runS (wc := []) (As := [.double y2]) (rest := []) (CX.drawn C0 d1) hM (ct_Jxe99ae_doubleToLongBits_ccdee l D cI cJ cZ y2 _ _ h) [] rfl (by decide) gX12_valued_Jxe99ae_doubleToLongBits_ccdee rfl rfl rfl hd_Jxe99ae_doubleToLongBits_ccdee ⟨Nat.le_of_ble_eq_true rfl, Nat.le_of_ble_eq_true rfl⟩ rfl hl.1 rfl (Nat.le_of_ble_eq_true rfl) dX12_valued_8 ⟨Nat.le_of_ble_eq_true rfl, Nat.le_of_ble_eq_true rfl⟩) (fun _ => [(h0, .inr (11, oX12 r0 I_0_isFound I_0_foundB I_0_changes I_0_taped I_0_size I_0_at I_0_signs I_0_wanted I_0_sign I_0_isKept I_0_keptFound I_0_keptB I_0_keptChanges)), ((r0 0), .inl (cI, 5, .inl A_0_0_f))]) (fun _ => rfl) (fun _ => rfl) (fun y3 _ H locs h hM => ?_)
  subst hsz; subst hA; subst hQ
  refine W.endD hd ?_
  exact m_lret (CX.drawn C0 d1) hr hM () h rfl dX12_valued_11
abbrev rm_X12_narrowed : Room := { frames := 2, cells := 0, slots := 0, locals := 46 }
set_option maxRecDepth 100000 in
set_option maxHeartbeats 4000000 in
theorem ct_X12_narrowed (l : Launch) (D : va_G) (cI cJ cZ : ClassId) (h0 : Nat) (r0 : Nat → Nat) (I_0_isFound : Int32) (I_0_foundB : Int32) (I_0_changes : Int32) (I_0_taped : Int32) (I_0_size : Int32) (I_0_at : Int32) (I_0_signs : Int32) (I_0_wanted : Int32) (I_0_sign : Int32) (I_0_isKept : Int32) (I_0_keptFound : Int32) (I_0_keptB : Int32) (I_0_keptChanges : Int32) (A_0_0_f : (Nat → Int32)) (x1 : Int64) (sz : Nat) (K : Int32 → Prop) (h : wp_X12_narrowed x1 A_0_0_f K) : MetD lw_cs l yX12_narrowed wsX12_narrowed rm_X12_narrowed (va_Pc [.ref h0, .long x1] (WX D cI cJ cZ [(h0, .inr (11, oX12 r0 I_0_isFound I_0_foundB I_0_changes I_0_taped I_0_size I_0_at I_0_signs I_0_wanted I_0_sign I_0_isKept I_0_keptFound I_0_keptB I_0_keptChanges)), ((r0 0), .inl (cI, 5, .inl A_0_0_f))] sz)) (va_Qi (fun (r : Int32) (_ : Unit) => K r ) (fun (_ : Unit) t => WY D (va_A [(h0, .inr (11, oX12 r0 I_0_isFound I_0_foundB I_0_changes I_0_taped I_0_size I_0_at I_0_signs I_0_wanted I_0_sign I_0_isKept I_0_keptFound I_0_keptB I_0_keptChanges)), ((r0 0), .inl (cI, 5, .inl A_0_0_f))] sz) [(h0, .inr (11, oX12 r0 I_0_isFound I_0_foundB I_0_changes I_0_taped I_0_size I_0_at I_0_signs I_0_wanted I_0_sign I_0_isKept I_0_keptFound I_0_keptB I_0_keptChanges)), ((r0 0), .inl (cI, 5, .inl A_0_0_f))] t) (va_A [(h0, .inr (11, oX12 r0 I_0_isFound I_0_foundB I_0_changes I_0_taped I_0_size I_0_at I_0_signs I_0_wanted I_0_sign I_0_isKept I_0_keptFound I_0_keptB I_0_keptChanges)), ((r0 0), .inl (cI, 5, .inl A_0_0_f))] sz)) 0 0 (va_A [(h0, .inr (11, oX12 r0 I_0_isFound I_0_foundB I_0_changes I_0_taped I_0_size I_0_at I_0_signs I_0_wanted I_0_sign I_0_isKept I_0_keptFound I_0_keptB I_0_keptChanges)), ((r0 0), .inl (cI, 5, .inl A_0_0_f))] sz) := by
  refine m_metD (own := RX12) (cc := cX12_narrowed) (maxL := 3) (ret := some .int) [.ref h0, .long x1] [(0, .ref h0), (1, .long x1)] (by decide) rfl rfl (Nat.le_of_ble_eq_true rfl) rfl ?_
  intro p e s m args below meth c Q A hQ hA C0 hr hnm hsz hM ls hl hd
  have hx := C0.1
  have hb := C0.2.1
  have hown := C0.2.2.2.1
  unfold wp_X12_narrowed at h
  refine lv_aload_n hx hb dX12_narrowed_0 rfl (lv_at hl 0 rfl) ?_
  refine lv_lload_n hx hb dX12_narrowed_1 rfl (lv_at hl 1 rfl) ?_
  refine m_l2db hd lw_copy hx hb (C0.2.2.1.trans hl.1.symm) hown (C0.2.2.2.2.1 _ kw_X12_narrowed_1) (C0.2.2.2.2.1 _ kw_X12_narrowed_2) (C0.2.2.2.2.1 _ kw_X12_narrowed_3) (C0.2.2.2.2.1 _ kw_X12_narrowed_4) (Nat.le_of_ble_eq_true rfl) (Nat.le_of_ble_eq_true rfl) dX12_narrowed_2 (fun w1 d1 ew1 hd => ?_)
  have h := h w1 ew1
  refine m_calldD (wc := [(h0, .inr (11, oX12 r0 I_0_isFound I_0_foundB I_0_changes I_0_taped I_0_size I_0_at I_0_signs I_0_wanted I_0_sign I_0_isKept I_0_keptFound I_0_keptB I_0_keptChanges)), ((r0 0), .inl (cI, 5, .inl A_0_0_f))]) hd (CX.drawn C0 d1) hM [0, 1] rfl (m_runV_D (wc := [(h0, .inr (11, oX12 r0 I_0_isFound I_0_foundB I_0_changes I_0_taped I_0_size I_0_at I_0_signs I_0_wanted I_0_sign I_0_isKept I_0_keptFound I_0_keptB I_0_keptChanges)), ((r0 0), .inl (cI, 5, .inl A_0_0_f))]) (As := [.double w1]) (rest := []) (ci := 11) (CX.drawn C0 d1) hM (ct_X12_valueIn l D cI cJ cZ h0 r0 I_0_isFound I_0_foundB I_0_changes I_0_taped I_0_size I_0_at I_0_signs I_0_wanted I_0_sign I_0_isKept I_0_keptFound I_0_keptB I_0_keptChanges A_0_0_f w1 _ _ h) [0, 1] rfl (by decide) gX12_narrowed_X12_valueIn rfl rfl rfl rfl rfl hd_X12_valueIn ⟨Nat.le_of_ble_eq_true rfl, Nat.le_of_ble_eq_true rfl⟩ rfl hl.1 rfl (Nat.le_of_ble_eq_true rfl) dX12_narrowed_5 ⟨Nat.le_of_ble_eq_true rfl, Nat.le_of_ble_eq_true rfl⟩) (fun _ => [(h0, .inr (11, oX12 r0 I_0_isFound I_0_foundB I_0_changes I_0_taped I_0_size I_0_at I_0_signs I_0_wanted I_0_sign I_0_isKept I_0_keptFound I_0_keptB I_0_keptChanges)), ((r0 0), .inl (cI, 5, .inl A_0_0_f))]) (fun _ => rfl) (fun _ => rfl) (fun y2 _ H locs h hM d1 hd => ?_)
  refine lv_d2f_any hd lw_bits hx hb dX12_narrowed_8 (fun w3 d1 ew3 hd => ?_)
  have h := h w3 ew3
  refine m_calli (wc := []) (CX.drawn C0 d1) hM [] rfl (m_runS (wc := []) (As := [.float w3]) (rest := []) (CX.drawn C0 d1) hM (ct_Jxf58ca_floatToIntBits_5c35a l D cI cJ cZ w3 _ _ h) [] rfl (by decide) gX12_narrowed_Jxf58ca_floatToIntBits_5c35a rfl rfl rfl hd_Jxf58ca_floatToIntBits_5c35a ⟨Nat.le_of_ble_eq_true rfl, Nat.le_of_ble_eq_true rfl⟩ rfl hl.1 rfl (Nat.le_of_ble_eq_true rfl) dX12_narrowed_9 ⟨Nat.le_of_ble_eq_true rfl, Nat.le_of_ble_eq_true rfl⟩) (fun _ => [(h0, .inr (11, oX12 r0 I_0_isFound I_0_foundB I_0_changes I_0_taped I_0_size I_0_at I_0_signs I_0_wanted I_0_sign I_0_isKept I_0_keptFound I_0_keptB I_0_keptChanges)), ((r0 0), .inl (cI, 5, .inl A_0_0_f))]) (fun _ => rfl) (fun _ => rfl) (fun y4 _ H locs h hM => ?_)
  subst hsz; subst hA; subst hQ
  refine W.endD hd ?_
  exact m_iret (CX.drawn C0 d1) hr hM () h rfl dX12_narrowed_12
