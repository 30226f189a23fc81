theorem hd_X12_rootAt : yX12_rootAt.cls = RX12 ∧ yX12_rootAt.cls ≠ "java/lang/invoke/MethodHandle" ∧ yX12_rootAt.cls ≠ "java/lang/invoke/VarHandle" ∧ (parseMethodDescriptor yX12_rootAt.desc).map (fun d => d.parameters.length) = some 1 := by decide +kernel
theorem hd_X12_roots : yX12_roots.cls = RX12 ∧ yX12_roots.cls ≠ "java/lang/invoke/MethodHandle" ∧ yX12_roots.cls ≠ "java/lang/invoke/VarHandle" ∧ (parseMethodDescriptor yX12_roots.desc).map (fun d => d.parameters.length) = some 0 := by decide +kernel
theorem hd_X12_root : yX12_root.cls = RX12 ∧ yX12_root.cls ≠ "java/lang/invoke/MethodHandle" ∧ yX12_root.cls ≠ "java/lang/invoke/VarHandle" ∧ (parseMethodDescriptor yX12_root.desc).map (fun d => d.parameters.length) = some 2 := by decide +kernel
theorem hd_X12_easy : yX12_easy.cls = RX12 ∧ yX12_easy.cls ≠ "java/lang/invoke/MethodHandle" ∧ yX12_easy.cls ≠ "java/lang/invoke/VarHandle" ∧ (parseMethodDescriptor yX12_easy.desc).map (fun d => d.parameters.length) = some 2 := by decide +kernel
theorem hd_X12_power : yX12_power.cls = RX12 ∧ yX12_power.cls ≠ "java/lang/invoke/MethodHandle" ∧ yX12_power.cls ≠ "java/lang/invoke/VarHandle" ∧ (parseMethodDescriptor yX12_power.desc).map (fun d => d.parameters.length) = some 2 := by decide +kernel
theorem hd_X12_directs : yX12_directs.cls = RX12 ∧ yX12_directs.cls ≠ "java/lang/invoke/MethodHandle" ∧ yX12_directs.cls ≠ "java/lang/invoke/VarHandle" ∧ (parseMethodDescriptor yX12_directs.desc).map (fun d => d.parameters.length) = some 1 := by decide +kernel
theorem hd_X12_direct : yX12_direct.cls = RX12 ∧ yX12_direct.cls ≠ "java/lang/invoke/MethodHandle" ∧ yX12_direct.cls ≠ "java/lang/invoke/VarHandle" ∧ (parseMethodDescriptor yX12_direct.desc).map (fun d => d.parameters.length) = some 2 := by decide +kernel
theorem hd_X12_checked : yX12_checked.cls = RX12 ∧ yX12_checked.cls ≠ "java/lang/invoke/MethodHandle" ∧ yX12_checked.cls ≠ "java/lang/invoke/VarHandle" ∧ (parseMethodDescriptor yX12_checked.desc).map (fun d => d.parameters.length) = some 1 := by decide +kernel
theorem hd_X12_plan : yX12_plan.cls = RX12 ∧ yX12_plan.cls ≠ "java/lang/invoke/MethodHandle" ∧ yX12_plan.cls ≠ "java/lang/invoke/VarHandle" ∧ (parseMethodDescriptor yX12_plan.desc).map (fun d => d.parameters.length) = some 2 := by decide +kernel
theorem hd_X12_unplan : yX12_unplan.cls = RX12 ∧ yX12_unplan.cls ≠ "java/lang/invoke/MethodHandle" ∧ yX12_unplan.cls ≠ "java/lang/invoke/VarHandle" ∧ (parseMethodDescriptor yX12_unplan.desc).map (fun d => d.parameters.length) = some 0 := by decide +kernel
theorem kt_X12_checked_X12 : ∀ w ∈ u_ws RX12 TX12 45, w ∈ wsX12_checked := fun _ h => List.mem_cons_of_mem _ (List.mem_append_right _ (h))
theorem kt_X12_direct_X12 : ∀ w ∈ u_ws RX12 TX12 45, w ∈ wsX12_direct := fun _ h => List.mem_cons_of_mem _ (List.mem_append_right _ (h))
theorem kt_X12_directs_X12 : ∀ w ∈ u_ws RX12 TX12 45, w ∈ wsX12_directs := fun _ h => List.mem_cons_of_mem _ (List.mem_append_right _ (h))
theorem kt_X12_easy_X12 : ∀ w ∈ u_ws RX12 TX12 45, w ∈ wsX12_easy := fun _ h => List.mem_cons_of_mem _ (List.mem_append_right _ (h))
theorem kt_X12_plan_X12 : ∀ w ∈ u_ws RX12 TX12 45, w ∈ wsX12_plan := fun _ h => List.mem_cons_of_mem _ (List.mem_append_right _ (h))
theorem kt_X12_root_X12 : ∀ w ∈ u_ws RX12 TX12 45, w ∈ wsX12_root := fun _ h => List.mem_cons_of_mem _ (List.mem_append_right _ (h))
theorem kt_X12_roots_X12 : ∀ w ∈ u_ws RX12 TX12 45, w ∈ wsX12_roots := fun _ h => List.mem_cons_of_mem _ (List.mem_append_right _ (h))
theorem kt_X12_unplan_X12 : ∀ w ∈ u_ws RX12 TX12 45, w ∈ wsX12_unplan := fun _ h => List.mem_cons_of_mem _ (List.mem_append_right _ (h))
theorem kw_X12_roots_1 : Cond.fieldLink RX12 183 "LoweredPowersModel" "isFound" "Z" ∈ wsX12_roots := List.mem_of_getElem? (i := 1) rfl
theorem kw_X12_root_1 : Cond.fieldLink RX12 183 "LoweredPowersModel" "isFound" "Z" ∈ wsX12_root := List.mem_of_getElem? (i := 1) rfl
theorem kw_X12_easy_1 : Cond.fieldLink RX12 45 "LoweredPowersModel" "rests" "[I" ∈ wsX12_easy := List.mem_of_getElem? (i := 1) rfl
theorem kw_X12_directs_1 : Cond.fieldLink RX12 48 "LoweredPowersModel" "whole" "[I" ∈ wsX12_directs := List.mem_of_getElem? (i := 1) rfl
theorem kw_X12_directs_3 : Cond.fieldLink RX12 51 "LoweredPowersModel" "direct" "[I" ∈ wsX12_directs := List.mem_of_getElem? (i := 3) rfl
theorem kw_X12_directs_4 : Cond.fieldLink RX12 15 "LoweredPowersModel" "operator" "[I" ∈ wsX12_directs := List.mem_of_getElem? (i := 4) rfl
theorem kw_X12_directs_2 : Cond.fieldLink RX12 24 "LoweredPowersModel" "powers" "[I" ∈ wsX12_directs := List.mem_of_getElem? (i := 2) rfl
theorem kw_X12_direct_1 : Cond.fieldLink RX12 51 "LoweredPowersModel" "direct" "[I" ∈ wsX12_direct := List.mem_of_getElem? (i := 1) rfl
theorem kw_X12_checked_4 : Cond.fieldLink RX12 51 "LoweredPowersModel" "direct" "[I" ∈ wsX12_checked := List.mem_of_getElem? (i := 4) rfl
theorem kw_X12_checked_5 : Cond.fieldLink RX12 24 "LoweredPowersModel" "powers" "[I" ∈ wsX12_checked := List.mem_of_getElem? (i := 5) rfl
theorem kw_X12_checked_3 : Cond.fieldLink RX12 21 "LoweredPowersModel" "b" "[I" ∈ wsX12_checked := List.mem_of_getElem? (i := 3) rfl
theorem kw_X12_checked_1 : Cond.fieldLink RX12 183 "LoweredPowersModel" "isFound" "Z" ∈ wsX12_checked := List.mem_of_getElem? (i := 1) rfl
theorem kw_X12_checked_2 : Cond.fieldLink RX12 187 "LoweredPowersModel" "foundB" "I" ∈ wsX12_checked := List.mem_of_getElem? (i := 2) rfl
theorem kw_X12_plan_1 : Cond.fieldLink RX12 252 "LoweredPowersModel" "changes" "I" ∈ wsX12_plan := List.mem_of_getElem? (i := 1) rfl
theorem kw_X12_plan_2 : Cond.fieldLink RX12 54 "LoweredPowersModel" "changeWhats" "[I" ∈ wsX12_plan := List.mem_of_getElem? (i := 2) rfl
theorem kw_X12_plan_3 : Cond.fieldLink RX12 57 "LoweredPowersModel" "changeVs" "[I" ∈ wsX12_plan := List.mem_of_getElem? (i := 3) rfl
theorem kw_X12_unplan_1 : Cond.fieldLink RX12 252 "LoweredPowersModel" "changes" "I" ∈ wsX12_unplan := List.mem_of_getElem? (i := 1) rfl
abbrev rm_X12_rootAt : Room := { frames := 3, cells := 0, slots := 0, locals := 69 }
set_option maxRecDepth 100000 in
set_option maxHeartbeats 4000000 in
theorem ct_X12_rootAt (l : Launch) (D : va_G) (cI cJ cZ : ClassId) (h0 : Nat) (r0 : Nat → Nat) (I_0_isFound : Int32) (I_0_foundB : Int32) (I_0_changes : Int32) (I_0_taped : Int32) (I_0_size : Int32) (I_0_at : Int32) (I_0_signs : Int32) (I_0_wanted : Int32) (I_0_sign : Int32) (I_0_isKept : Int32) (I_0_keptFound : Int32) (I_0_keptB : Int32) (I_0_keptChanges : Int32) (A_0_5_b : (Nat → Int32)) (A_0_13_rests : (Nat → Int32)) (x1 : Int32) (sz : Nat) (K : Int32 → (Nat → Int32) → Prop) (h : wp_X12_rootAt x1 I_0_foundB A_0_5_b A_0_13_rests K) : Met l yX12_rootAt wsX12_rootAt rm_X12_rootAt (va_Pc [.ref h0, .int x1] (WX D cI cJ cZ [(h0, .inr (11, oX12 r0 I_0_isFound I_0_foundB I_0_changes I_0_taped I_0_size I_0_at I_0_signs I_0_wanted I_0_sign I_0_isKept I_0_keptFound I_0_keptB I_0_keptChanges)), ((r0 5), .inl (cI, 9, .inl A_0_5_b)), ((r0 13), .inl (cI, 9, .inl A_0_13_rests))] sz)) (va_Qi (fun (r : Int32) (u : (Nat → Int32)) => K r u) (fun (u : (Nat → Int32)) t => WY D (va_A [(h0, .inr (11, oX12 r0 I_0_isFound I_0_foundB I_0_changes I_0_taped I_0_size I_0_at I_0_signs I_0_wanted I_0_sign I_0_isKept I_0_keptFound I_0_keptB I_0_keptChanges)), ((r0 5), .inl (cI, 9, .inl A_0_5_b)), ((r0 13), .inl (cI, 9, .inl A_0_13_rests))] sz) [(h0, .inr (11, oX12 r0 I_0_isFound I_0_foundB I_0_changes I_0_taped I_0_size I_0_at I_0_signs I_0_wanted I_0_sign I_0_isKept I_0_keptFound I_0_keptB I_0_keptChanges)), ((r0 5), .inl (cI, 9, .inl A_0_5_b)), ((r0 13), .inl (cI, 9, .inl u))] t) (va_A [(h0, .inr (11, oX12 r0 I_0_isFound I_0_foundB I_0_changes I_0_taped I_0_size I_0_at I_0_signs I_0_wanted I_0_sign I_0_isKept I_0_keptFound I_0_keptB I_0_keptChanges)), ((r0 5), .inl (cI, 9, .inl A_0_5_b)), ((r0 13), .inl (cI, 9, .inl A_0_13_rests))] sz)) 0 0 (va_A [(h0, .inr (11, oX12 r0 I_0_isFound I_0_foundB I_0_changes I_0_taped I_0_size I_0_at I_0_signs I_0_wanted I_0_sign I_0_isKept I_0_keptFound I_0_keptB I_0_keptChanges)), ((r0 5), .inl (cI, 9, .inl A_0_5_b)), ((r0 13), .inl (cI, 9, .inl A_0_13_rests))] sz) := by
  refine m_met (own := RX12) (cc := cX12_rootAt) (maxL := 5) (ret := some .int) [.ref h0, .int x1] [(0, .ref h0), (1, .int x1)] (by decide) rfl rfl (Nat.le_of_ble_eq_true rfl) rfl ?_
  intro p e s m args below meth c Q A hQ hA C0 hr hnm hsz hM ls hl
  have hx := C0.1
  have hb := C0.2.1
  have hown := C0.2.2.2.1
  have jq78 : ∀ (x2 : Int32) (A_0_13_rests : (Nat → Int32)) (H : Heap) (locs : List Loc) (ls : Array Slot) , jn_X12_rootAt_78 x1 I_0_foundB A_0_5_b K x2 A_0_13_rests → MW D A s.heap [(h0, .inr (11, oX12 r0 I_0_isFound I_0_foundB I_0_changes I_0_taped I_0_size I_0_at I_0_signs I_0_wanted I_0_sign I_0_isKept I_0_keptFound I_0_keptB I_0_keptChanges)), ((r0 5), .inl (cI, 9, .inl A_0_5_b)), ((r0 13), .inl (cI, 9, .inl A_0_13_rests))] H locs → lv_has ls 5 [(2, .int x2)] → W p l e rm_X12_rootAt s m args below meth c H locs 0 0 Q (F0 m 78 ls []) := by
    intro x2 A_0_13_rests H locs ls h hM hl
    unfold jn_X12_rootAt_78 at h
    refine lv_iconst (v := (-1 : Int32)) hx hb dX12_rootAt_78 (by decide) ?_
    refine lv_iload_n hx hb dX12_rootAt_79 rfl (lv_at hl 0 rfl) ?_
    refine lv_isub hx hb dX12_rootAt_80 ?_
    subst hsz; subst hA; subst hQ
    exact m_iret C0 hr hM A_0_13_rests h rfl dX12_rootAt_81
  have jq53 : ∀ (x3 : Int32) (x4 : Int32) (A_0_13_rests : (Nat → Int32)) (H : Heap) (locs : List Loc) (ls : Array Slot) , jn_X12_rootAt_53 x1 I_0_foundB A_0_5_b K x3 x4 A_0_13_rests → MW D A s.heap [(h0, .inr (11, oX12 r0 I_0_isFound I_0_foundB I_0_changes I_0_taped I_0_size I_0_at I_0_signs I_0_wanted I_0_sign I_0_isKept I_0_keptFound I_0_keptB I_0_keptChanges)), ((r0 5), .inl (cI, 9, .inl A_0_5_b)), ((r0 13), .inl (cI, 9, .inl A_0_13_rests))] H locs → lv_has ls 5 [(3, .int x3), (4, .int x4)] → W p l e rm_X12_rootAt s m args below meth c H locs 0 0 Q (F0 m 53 ls []) := by
    intro x3 x4 A_0_13_rests H locs ls h hM hl
    unfold jn_X12_rootAt_53 at h
    refine lv_bipush (v := (6 : Int32)) hx hb dX12_rootAt_53 (by decide) ?_
    refine lv_iload hx hb dX12_rootAt_55 (lv_at hl 1 rfl) ?_
    refine lv_imul hx hb dX12_rootAt_57 ?_
    refine lv_iload_n hx hb dX12_rootAt_58 rfl (lv_at hl 0 rfl) ?_
    refine lv_iadd hx hb dX12_rootAt_59 ?_
    refine lv_iconst (v := (1 : Int32)) hx hb dX12_rootAt_60 (by decide) ?_
    refine lv_isub hx hb dX12_rootAt_61 ?_
    subst hsz; subst hA; subst hQ
    exact m_iret C0 hr hM A_0_13_rests h rfl dX12_rootAt_62
  have lq4 : ∀ (k4 : Nat) (x2 : Int32) (x3 : Int32) (A_0_13_rests : (Nat → Int32)) (H : Heap) (locs : List Loc) (ls : Array Slot) , lp_X12_rootAt_4 x1 I_0_foundB A_0_5_b (jn_X12_rootAt_53 x1 I_0_foundB A_0_5_b K) (jn_X12_rootAt_78 x1 I_0_foundB A_0_5_b K) K k4 x2 x3 A_0_13_rests → MW D A s.heap [(h0, .inr (11, oX12 r0 I_0_isFound I_0_foundB I_0_changes I_0_taped I_0_size I_0_at I_0_signs I_0_wanted I_0_sign I_0_isKept I_0_keptFound I_0_keptB I_0_keptChanges)), ((r0 5), .inl (cI, 9, .inl A_0_5_b)), ((r0 13), .inl (cI, 9, .inl A_0_13_rests))] H locs → lv_has ls 5 [(0, .ref h0), (1, .int x1), (2, .int x2), (3, .int x3)] → W p l e rm_X12_rootAt s m args below meth c H locs 0 0 Q (F0 m 4 ls []) := by
    intro k4
    induction k4 with
    | zero =>
      intro x2 x3 A_0_13_rests H locs ls h
      unfold lp_X12_rootAt_4 at h
      exact h.elim
    | succ k4 ih4 =>
      have jq72 : ∀ (x2 : Int32) (x3 : Int32) (A_0_13_rests : (Nat → Int32)) (H : Heap) (locs : List Loc) (ls : Array Slot) , jn_X12_rootAt_72 x1 I_0_foundB A_0_5_b (fun x2 x3 A_0_13_rests => lp_X12_rootAt_4 x1 I_0_foundB A_0_5_b (jn_X12_rootAt_53 x1 I_0_foundB A_0_5_b K) (jn_X12_rootAt_78 x1 I_0_foundB A_0_5_b K) K k4 x2 x3 A_0_13_rests) (jn_X12_rootAt_53 x1 I_0_foundB A_0_5_b K) (jn_X12_rootAt_78 x1 I_0_foundB A_0_5_b K) K x2 x3 A_0_13_rests → MW D A s.heap [(h0, .inr (11, oX12 r0 I_0_isFound I_0_foundB I_0_changes I_0_taped I_0_size I_0_at I_0_signs I_0_wanted I_0_sign I_0_isKept I_0_keptFound I_0_keptB I_0_keptChanges)), ((r0 5), .inl (cI, 9, .inl A_0_5_b)), ((r0 13), .inl (cI, 9, .inl A_0_13_rests))] H locs → lv_has ls 5 [(0, .ref h0), (1, .int x1), (2, .int x2), (3, .int x3)] → W p l e rm_X12_rootAt s m args below meth c H locs 0 0 Q (F0 m 72 ls []) := by
        intro x2 x3 A_0_13_rests H locs ls h hM hl
        unfold jn_X12_rootAt_72 at h
        refine lv_iinc (v := (x3 + (1 : Int32))) (lv' := [(3, .int (x3 + (1 : Int32))), (0, .ref h0), (1, .int x1), (2, .int x2)]) hx hb dX12_rootAt_72 hl (k := 3) rfl rfl (by decide) rfl (fun ls hl => ?_)
        refine lv_goto (tgt := 4) hx hb dX12_rootAt_75 (by decide) ?_
        exact ih4 _ _ _ _ _ _ h hM (lv_sub hl [1, 2, 3, 0] rfl)
      have lq13 : ∀ (k13 : Nat) (x2 : Int32) (x3 : Int32) (x4 : Int32) (A_0_13_rests : (Nat → Int32)) (H : Heap) (locs : List Loc) (ls : Array Slot) , lp_X12_rootAt_13 x1 I_0_foundB A_0_5_b ((jn_X12_rootAt_53 x1 I_0_foundB A_0_5_b K)) (jn_X12_rootAt_72 x1 I_0_foundB A_0_5_b (fun x2 x3 A_0_13_rests => lp_X12_rootAt_4 x1 I_0_foundB A_0_5_b (jn_X12_rootAt_53 x1 I_0_foundB A_0_5_b K) (jn_X12_rootAt_78 x1 I_0_foundB A_0_5_b K) K k4 x2 x3 A_0_13_rests) (jn_X12_rootAt_53 x1 I_0_foundB A_0_5_b K) (jn_X12_rootAt_78 x1 I_0_foundB A_0_5_b K) K) K k13 x2 x3 x4 A_0_13_rests → MW D A s.heap [(h0, .inr (11, oX12 r0 I_0_isFound I_0_foundB I_0_changes I_0_taped I_0_size I_0_at I_0_signs I_0_wanted I_0_sign I_0_isKept I_0_keptFound I_0_keptB I_0_keptChanges)), ((r0 5), .inl (cI, 9, .inl A_0_5_b)), ((r0 13), .inl (cI, 9, .inl A_0_13_rests))] H locs → lv_has ls 5 [(0, .ref h0), (1, .int x1), (2, .int x2), (3, .int x3), (4, .int x4)] → W p l e rm_X12_rootAt s m args below meth c H locs 0 0 Q (F0 m 13 ls []) := by
        intro k13
        induction k13 with
        | zero =>
          intro x2 x3 x4 A_0_13_rests H locs ls h
          unfold lp_X12_rootAt_13 at h
          exact h.elim
        | succ k13 ih13 =>
          have jq66 : ∀ (x2 : Int32) (x3 : Int32) (x4 : Int32) (A_0_13_rests : (Nat → Int32)) (H : Heap) (locs : List Loc) (ls : Array Slot) , jn_X12_rootAt_66 x1 I_0_foundB A_0_5_b (fun x2 x3 x4 A_0_13_rests => lp_X12_rootAt_13 x1 I_0_foundB A_0_5_b ((jn_X12_rootAt_53 x1 I_0_foundB A_0_5_b K)) (jn_X12_rootAt_72 x1 I_0_foundB A_0_5_b (fun x2 x3 A_0_13_rests => lp_X12_rootAt_4 x1 I_0_foundB A_0_5_b (jn_X12_rootAt_53 x1 I_0_foundB A_0_5_b K) (jn_X12_rootAt_78 x1 I_0_foundB A_0_5_b K) K k4 x2 x3 A_0_13_rests) (jn_X12_rootAt_53 x1 I_0_foundB A_0_5_b K) (jn_X12_rootAt_78 x1 I_0_foundB A_0_5_b K) K) K k13 x2 x3 x4 A_0_13_rests) ((jn_X12_rootAt_53 x1 I_0_foundB A_0_5_b K)) (jn_X12_rootAt_72 x1 I_0_foundB A_0_5_b (fun x2 x3 A_0_13_rests => lp_X12_rootAt_4 x1 I_0_foundB A_0_5_b (jn_X12_rootAt_53 x1 I_0_foundB A_0_5_b K) (jn_X12_rootAt_78 x1 I_0_foundB A_0_5_b K) K k4 x2 x3 A_0_13_rests) (jn_X12_rootAt_53 x1 I_0_foundB A_0_5_b K) (jn_X12_rootAt_78 x1 I_0_foundB A_0_5_b K) K) K x2 x3 x4 A_0_13_rests → MW D A s.heap [(h0, .inr (11, oX12 r0 I_0_isFound I_0_foundB I_0_changes I_0_taped I_0_size I_0_at I_0_signs I_0_wanted I_0_sign I_0_isKept I_0_keptFound I_0_keptB I_0_keptChanges)), ((r0 5), .inl (cI, 9, .inl A_0_5_b)), ((r0 13), .inl (cI, 9, .inl A_0_13_rests))] H locs → lv_has ls 5 [(0, .ref h0), (1, .int x1), (2, .int x2), (3, .int x3), (4, .int x4)] → W p l e rm_X12_rootAt s m args below meth c H locs 0 0 Q (F0 m 66 ls []) := by
            intro x2 x3 x4 A_0_13_rests H locs ls h hM hl
            unfold jn_X12_rootAt_66 at h
            refine lv_iinc (v := (x4 + (1 : Int32))) (lv' := [(4, .int (x4 + (1 : Int32))), (0, .ref h0), (1, .int x1), (2, .int x2), (3, .int x3)]) hx hb dX12_rootAt_66 hl (k := 4) rfl rfl (by decide) rfl (fun ls hl => ?_)
            refine lv_goto (tgt := 13) hx hb dX12_rootAt_69 (by decide) ?_
            exact ih13 _ _ _ _ _ _ _ h hM (lv_sub hl [1, 2, 3, 4, 0] rfl)
          intro x2 x3 x4 A_0_13_rests H locs ls h hM hl
          unfold lp_X12_rootAt_13 at h
          refine lv_iload hx hb dX12_rootAt_13 (lv_at hl 4 rfl) ?_
          refine lv_bipush (v := (24 : Int32)) hx hb dX12_rootAt_15 (by decide) ?_
          refine lv_icmp_gt (tgt := 72) hx hb dX12_rootAt_17 (by decide) (fun hq => ?_) (fun hq => ?_)
          · have h := h.1 hq
            exact jq72 _ _ _ _ _ _ h hM (lv_sub hl [0, 1, 2, 3] rfl)
          · have h := h.2 hq
            refine lv_iload hx hb dX12_rootAt_20 (lv_at hl 4 rfl) ?_
            refine lv_iload_n hx hb dX12_rootAt_22 rfl (lv_at hl 3 rfl) ?_
            refine m_calli (wc := []) C0 hM [] rfl (m_runS (wc := []) (As := [.int x4, .int x3]) (rest := []) C0 hM (ct_X12_divisor l D cI cJ cZ x4 x3 _ _ h) [] rfl (by decide) gX12_rootAt_X12_divisor rfl rfl rfl hd_X12_divisor ⟨Nat.le_of_ble_eq_true rfl, Nat.le_of_ble_eq_true rfl⟩ rfl hl.1 rfl (Nat.le_of_ble_eq_true rfl) dX12_rootAt_23 ⟨Nat.le_of_ble_eq_true rfl, Nat.le_of_ble_eq_true rfl⟩) (fun _ => [(h0, .inr (11, oX12 r0 I_0_isFound I_0_foundB I_0_changes I_0_taped I_0_size I_0_at I_0_signs I_0_wanted I_0_sign I_0_isKept I_0_keptFound I_0_keptB I_0_keptChanges)), ((r0 5), .inl (cI, 9, .inl A_0_5_b)), ((r0 13), .inl (cI, 9, .inl A_0_13_rests))]) (fun _ => rfl) (fun _ => rfl) (fun y1 _ H locs h hM => ?_)
            refine lv_iconst (v := (1 : Int32)) hx hb dX12_rootAt_26 (by decide) ?_
            refine lv_icmp_ne (tgt := 66) hx hb dX12_rootAt_27 (by decide) (fun hq => ?_) (fun hq => ?_)
            · have h := h.1 hq
              exact jq66 _ _ _ _ _ _ _ h hM (lv_sub hl [0, 1, 2, 3, 4] rfl)
            · have h := h.2 hq
              refine lv_aload_n hx hb dX12_rootAt_30 rfl (lv_at hl 0 rfl) ?_
              refine lv_iload hx hb dX12_rootAt_31 (lv_at hl 4 rfl) ?_
              refine lv_iload_n hx hb dX12_rootAt_33 rfl (lv_at hl 3 rfl) ?_
              refine m_calli (wc := []) C0 hM [] rfl (m_runS (wc := []) (As := [.int x3]) (rest := [.int x4, .ref h0]) C0 hM (ct_X12_inverse l D cI cJ cZ x3 _ _ h) [] rfl (by decide) gX12_rootAt_X12_inverse rfl rfl rfl hd_X12_inverse ⟨Nat.le_of_ble_eq_true rfl, Nat.le_of_ble_eq_true rfl⟩ rfl hl.1 rfl (Nat.le_of_ble_eq_true rfl) dX12_rootAt_34 ⟨Nat.le_of_ble_eq_true rfl, Nat.le_of_ble_eq_true rfl⟩) (fun _ => [(h0, .inr (11, oX12 r0 I_0_isFound I_0_foundB I_0_changes I_0_taped I_0_size I_0_at I_0_signs I_0_wanted I_0_sign I_0_isKept I_0_keptFound I_0_keptB I_0_keptChanges)), ((r0 5), .inl (cI, 9, .inl A_0_5_b)), ((r0 13), .inl (cI, 9, .inl A_0_13_rests))]) (fun _ => rfl) (fun _ => rfl) (fun y2 _ H locs h hM => ?_)
              refine lv_imul hx hb dX12_rootAt_37 ?_
              refine lv_sipush (v := (10007 : Int32)) hx hb dX12_rootAt_38 (by decide) ?_
              refine lv_irem hx hb dX12_rootAt_41 (by decide) ?_
              refine m_calli (wc := [(h0, .inr (11, oX12 r0 I_0_isFound I_0_foundB I_0_changes I_0_taped I_0_size I_0_at I_0_signs I_0_wanted I_0_sign I_0_isKept I_0_keptFound I_0_keptB I_0_keptChanges)), ((r0 5), .inl (cI, 9, .inl A_0_5_b)), ((r0 13), .inl (cI, 9, .inl A_0_13_rests))]) C0 hM [0, 1, 2] rfl (m_runV (wc := [(h0, .inr (11, oX12 r0 I_0_isFound I_0_foundB I_0_changes I_0_taped I_0_size I_0_at I_0_signs I_0_wanted I_0_sign I_0_isKept I_0_keptFound I_0_keptB I_0_keptChanges)), ((r0 5), .inl (cI, 9, .inl A_0_5_b)), ((r0 13), .inl (cI, 9, .inl A_0_13_rests))]) (As := [.int ((x4 * y2) - (x4 * y2) / (10007 : Int32) * (10007 : Int32))]) (rest := []) (ci := 11) C0 hM (ct_X12_howOften l D cI cJ cZ h0 r0 I_0_isFound I_0_foundB I_0_changes I_0_taped I_0_size I_0_at I_0_signs I_0_wanted I_0_sign I_0_isKept I_0_keptFound I_0_keptB I_0_keptChanges A_0_5_b A_0_13_rests ((x4 * y2) - (x4 * y2) / (10007 : Int32) * (10007 : Int32)) _ _ h) [0, 1, 2] rfl (by decide) gX12_rootAt_X12_howOften rfl rfl rfl rfl rfl hd_X12_howOften ⟨Nat.le_of_ble_eq_true rfl, Nat.le_of_ble_eq_true rfl⟩ rfl hl.1 rfl (Nat.le_of_ble_eq_true rfl) dX12_rootAt_42 ⟨Nat.le_of_ble_eq_true rfl, Nat.le_of_ble_eq_true rfl⟩) (fun u => [(h0, .inr (11, oX12 r0 I_0_isFound I_0_foundB I_0_changes I_0_taped I_0_size I_0_at I_0_signs I_0_wanted I_0_sign I_0_isKept I_0_keptFound I_0_keptB I_0_keptChanges)), ((r0 5), .inl (cI, 9, .inl A_0_5_b)), ((r0 13), .inl (cI, 9, .inl u))]) (fun _ => rfl) (fun _ => rfl) (fun y3 b4 H locs h hM => ?_)
              refine lv_if_le (tgt := 66) hx hb dX12_rootAt_45 (by decide) (fun hq => ?_) (fun hq => ?_)
              · have h := h.1 hq
                exact jq66 _ _ _ _ _ _ _ h hM (lv_sub hl [0, 1, 2, 3, 4] rfl)
              · have h := h.2 hq
                refine lv_iload_n hx hb dX12_rootAt_48 rfl (lv_at hl 2 rfl) ?_
                refine lv_iload_n hx hb dX12_rootAt_49 rfl (lv_at hl 1 rfl) ?_
                refine lv_icmp_ne (tgt := 63) hx hb dX12_rootAt_50 (by decide) (fun hq => ?_) (fun hq => ?_)
                · have h := h.1 hq
                  refine lv_iinc (v := (x2 + (1 : Int32))) (lv' := [(2, .int (x2 + (1 : Int32))), (0, .ref h0), (1, .int x1), (3, .int x3), (4, .int x4)]) hx hb dX12_rootAt_63 hl (k := 2) rfl rfl (by decide) rfl (fun ls hl => ?_)
                  exact jq66 _ _ _ _ _ _ _ h hM (lv_sub hl [1, 2, 0, 3, 4] rfl)
                · have h := h.2 hq
                  exact jq53 _ _ _ _ _ _ h hM (lv_sub hl [3, 4] rfl)
      intro x2 x3 A_0_13_rests H locs ls h hM hl
      unfold lp_X12_rootAt_4 at h
      refine lv_iload_n hx hb dX12_rootAt_4 rfl (lv_at hl 3 rfl) ?_
      refine lv_bipush (v := (6 : Int32)) hx hb dX12_rootAt_5 (by decide) ?_
      refine lv_icmp_gt (tgt := 78) hx hb dX12_rootAt_7 (by decide) (fun hq => ?_) (fun hq => ?_)
      · have h := h.1 hq
        exact jq78 _ _ _ _ _ h hM (lv_sub hl [2] rfl)
      · have h := h.2 hq
        refine lv_iconst (v := (0 : Int32)) hx hb dX12_rootAt_10 (by decide) ?_
        refine lv_istore (lv' := [(4, .int (0 : Int32)), (0, .ref h0), (1, .int x1), (2, .int x2), (3, .int x3)]) hx hb dX12_rootAt_11 hl (by decide) rfl (fun ls hl => ?_)
        obtain ⟨k0, h⟩ := h
        exact lq13 k0 _ _ _ _ _ _ _ h hM (lv_sub hl [1, 2, 3, 4, 0] rfl)
  unfold wp_X12_rootAt at h
  refine lv_iconst (v := (0 : Int32)) hx hb dX12_rootAt_0 (by decide) ?_
  refine lv_istore_n (lv' := [(2, .int (0 : Int32)), (0, .ref h0), (1, .int x1)]) hx hb dX12_rootAt_1 rfl hl (by decide) rfl (fun ls hl => ?_)
  refine lv_iconst (v := (1 : Int32)) hx hb dX12_rootAt_2 (by decide) ?_
  refine lv_istore_n (lv' := [(3, .int (1 : Int32)), (2, .int (0 : Int32)), (0, .ref h0), (1, .int x1)]) hx hb dX12_rootAt_3 rfl hl (by decide) rfl (fun ls hl => ?_)
  obtain ⟨k0, h⟩ := h
  exact lq4 k0 _ _ _ _ _ _ h hM (lv_sub hl [2, 3, 1, 0] rfl)
abbrev rm_X12_roots : Room := { frames := 4, cells := 0, slots := 0, locals := 93 }
set_option maxRecDepth 100000 in
set_option maxHeartbeats 4000000 in
theorem ct_X12_roots (l : Launch) (D : va_G) (cI cJ cZ : ClassId) (h0 : Nat) (r0 : Nat → Nat) (I_0_isFound : Int32) (I_0_foundB : Int32) (I_0_changes : Int32) (I_0_taped : Int32) (I_0_size : Int32) (I_0_at : Int32) (I_0_signs : Int32) (I_0_wanted : Int32) (I_0_sign : Int32) (I_0_isKept : Int32) (I_0_keptFound : Int32) (I_0_keptB : Int32) (I_0_keptChanges : Int32) (A_0_5_b : (Nat → Int32)) (A_0_13_rests : (Nat → Int32)) (sz : Nat) (K : Int32 → (Nat → Int32) → Prop) (h : wp_X12_roots I_0_isFound I_0_foundB A_0_5_b A_0_13_rests K) : Met l yX12_roots wsX12_roots rm_X12_roots (va_Pc [.ref h0] (WX D cI cJ cZ [(h0, .inr (11, oX12 r0 I_0_isFound I_0_foundB I_0_changes I_0_taped I_0_size I_0_at I_0_signs I_0_wanted I_0_sign I_0_isKept I_0_keptFound I_0_keptB I_0_keptChanges)), ((r0 5), .inl (cI, 9, .inl A_0_5_b)), ((r0 13), .inl (cI, 9, .inl A_0_13_rests))] sz)) (va_Qi (fun (r : Int32) (u : (Nat → Int32)) => K r u) (fun (u : (Nat → Int32)) t => WY D (va_A [(h0, .inr (11, oX12 r0 I_0_isFound I_0_foundB I_0_changes I_0_taped I_0_size I_0_at I_0_signs I_0_wanted I_0_sign I_0_isKept I_0_keptFound I_0_keptB I_0_keptChanges)), ((r0 5), .inl (cI, 9, .inl A_0_5_b)), ((r0 13), .inl (cI, 9, .inl A_0_13_rests))] sz) [(h0, .inr (11, oX12 r0 I_0_isFound I_0_foundB I_0_changes I_0_taped I_0_size I_0_at I_0_signs I_0_wanted I_0_sign I_0_isKept I_0_keptFound I_0_keptB I_0_keptChanges)), ((r0 5), .inl (cI, 9, .inl A_0_5_b)), ((r0 13), .inl (cI, 9, .inl u))] t) (va_A [(h0, .inr (11, oX12 r0 I_0_isFound I_0_foundB I_0_changes I_0_taped I_0_size I_0_at I_0_signs I_0_wanted I_0_sign I_0_isKept I_0_keptFound I_0_keptB I_0_keptChanges)), ((r0 5), .inl (cI, 9, .inl A_0_5_b)), ((r0 13), .inl (cI, 9, .inl A_0_13_rests))] sz)) 0 0 (va_A [(h0, .inr (11, oX12 r0 I_0_isFound I_0_foundB I_0_changes I_0_taped I_0_size I_0_at I_0_signs I_0_wanted I_0_sign I_0_isKept I_0_keptFound I_0_keptB I_0_keptChanges)), ((r0 5), .inl (cI, 9, .inl A_0_5_b)), ((r0 13), .inl (cI, 9, .inl A_0_13_rests))] sz) := by
  refine m_met (own := RX12) (cc := cX12_roots) (maxL := 1) (ret := some .int) [.ref h0] [(0, .ref h0)] (by decide) rfl rfl (Nat.le_of_ble_eq_true rfl) rfl ?_
  intro p e s m args below meth c Q A hQ hA C0 hr hnm hsz hM ls hl
  have hx := C0.1
  have hb := C0.2.1
  have hown := C0.2.2.2.1
  unfold wp_X12_roots at h
  refine lv_aload_n hx hb dX12_roots_0 rfl (lv_at hl 0 rfl) ?_
  refine m_get (C := RX12) (T := TX12) (N := 45) (ci := 11) (ref := "LoweredPowersModel") (v := .int I_0_isFound) C0 hM 0 rfl rfl kt_X12_roots_X12 2 (by decide) kw_X12_roots_1 rfl rfl dX12_roots_1 ?_
  refine lv_if_eq (tgt := 17) hx hb dX12_roots_4 (by decide) (fun hq => ?_) (fun hq => ?_)
  · have h := h.1 hq
    refine lv_bipush (v := (-3 : Int32)) hx hb dX12_roots_17 (by decide) ?_
    subst hsz; subst hA; subst hQ
    exact m_iret C0 hr hM A_0_13_rests h rfl dX12_roots_19
  · have h := h.2 hq
    refine lv_iconst (v := (-1 : Int32)) hx hb dX12_roots_7 (by decide) ?_
    refine lv_aload_n hx hb dX12_roots_8 rfl (lv_at hl 0 rfl) ?_
    refine lv_iconst (v := (-1 : Int32)) hx hb dX12_roots_9 (by decide) ?_
    refine m_calli (wc := [(h0, .inr (11, oX12 r0 I_0_isFound I_0_foundB I_0_changes I_0_taped I_0_size I_0_at I_0_signs I_0_wanted I_0_sign I_0_isKept I_0_keptFound I_0_keptB I_0_keptChanges)), ((r0 5), .inl (cI, 9, .inl A_0_5_b)), ((r0 13), .inl (cI, 9, .inl A_0_13_rests))]) C0 hM [0, 1, 2] rfl (m_runV (wc := [(h0, .inr (11, oX12 r0 I_0_isFound I_0_foundB I_0_changes I_0_taped I_0_size I_0_at I_0_signs I_0_wanted I_0_sign I_0_isKept I_0_keptFound I_0_keptB I_0_keptChanges)), ((r0 5), .inl (cI, 9, .inl A_0_5_b)), ((r0 13), .inl (cI, 9, .inl A_0_13_rests))]) (As := [.int (-1 : Int32)]) (rest := [.int (-1 : Int32)]) (ci := 11) C0 hM (ct_X12_rootAt l D cI cJ cZ h0 r0 I_0_isFound I_0_foundB I_0_changes I_0_taped I_0_size I_0_at I_0_signs I_0_wanted I_0_sign I_0_isKept I_0_keptFound I_0_keptB I_0_keptChanges A_0_5_b A_0_13_rests (-1 : Int32) _ _ h) [0, 1, 2] rfl (by decide) gX12_roots_X12_rootAt rfl rfl rfl rfl rfl hd_X12_rootAt ⟨Nat.le_of_ble_eq_true rfl, Nat.le_of_ble_eq_true rfl⟩ rfl hl.1 rfl (Nat.le_of_ble_eq_true rfl) dX12_roots_10 ⟨Nat.le_of_ble_eq_true rfl, Nat.le_of_ble_eq_true rfl⟩) (fun u => [(h0, .inr (11, oX12 r0 I_0_isFound I_0_foundB I_0_changes I_0_taped I_0_size I_0_at I_0_signs I_0_wanted I_0_sign I_0_isKept I_0_keptFound I_0_keptB I_0_keptChanges)), ((r0 5), .inl (cI, 9, .inl A_0_5_b)), ((r0 13), .inl (cI, 9, .inl u))]) (fun _ => rfl) (fun _ => rfl) (fun y1 b2 H locs h hM => ?_)
    refine lv_isub hx hb dX12_roots_13 ?_
    refine lv_goto (tgt := 19) hx hb dX12_roots_14 (by decide) ?_
    subst hsz; subst hA; subst hQ
    exact m_iret C0 hr hM b2 h rfl dX12_roots_19
abbrev rm_X12_root : Room := { frames := 4, cells := 0, slots := 0, locals := 93 }
set_option maxRecDepth 100000 in
set_option maxHeartbeats 4000000 in
theorem ct_X12_root (l : Launch) (D : va_G) (cI cJ cZ : ClassId) (h0 : Nat) (r0 : Nat → Nat) (I_0_isFound : Int32) (I_0_foundB : Int32) (I_0_changes : Int32) (I_0_taped : Int32) (I_0_size : Int32) (I_0_at : Int32) (I_0_signs : Int32) (I_0_wanted : Int32) (I_0_sign : Int32) (I_0_isKept : Int32) (I_0_keptFound : Int32) (I_0_keptB : Int32) (I_0_keptChanges : Int32) (A_0_5_b : (Nat → Int32)) (A_0_13_rests : (Nat → Int32)) (x1 : Int32) (x2 : Int32) (sz : Nat) (K : Int32 → (Nat → Int32) → Prop) (h : wp_X12_root x1 x2 I_0_isFound I_0_foundB A_0_5_b A_0_13_rests K) : Met l yX12_root wsX12_root rm_X12_root (va_Pc [.ref h0, .int x1, .int x2] (WX D cI cJ cZ [(h0, .inr (11, oX12 r0 I_0_isFound I_0_foundB I_0_changes I_0_taped I_0_size I_0_at I_0_signs I_0_wanted I_0_sign I_0_isKept I_0_keptFound I_0_keptB I_0_keptChanges)), ((r0 5), .inl (cI, 9, .inl A_0_5_b)), ((r0 13), .inl (cI, 9, .inl A_0_13_rests))] sz)) (va_Qi (fun (r : Int32) (u : (Nat → Int32)) => K r u) (fun (u : (Nat → Int32)) t => WY D (va_A [(h0, .inr (11, oX12 r0 I_0_isFound I_0_foundB I_0_changes I_0_taped I_0_size I_0_at I_0_signs I_0_wanted I_0_sign I_0_isKept I_0_keptFound I_0_keptB I_0_keptChanges)), ((r0 5), .inl (cI, 9, .inl A_0_5_b)), ((r0 13), .inl (cI, 9, .inl A_0_13_rests))] sz) [(h0, .inr (11, oX12 r0 I_0_isFound I_0_foundB I_0_changes I_0_taped I_0_size I_0_at I_0_signs I_0_wanted I_0_sign I_0_isKept I_0_keptFound I_0_keptB I_0_keptChanges)), ((r0 5), .inl (cI, 9, .inl A_0_5_b)), ((r0 13), .inl (cI, 9, .inl u))] t) (va_A [(h0, .inr (11, oX12 r0 I_0_isFound I_0_foundB I_0_changes I_0_taped I_0_size I_0_at I_0_signs I_0_wanted I_0_sign I_0_isKept I_0_keptFound I_0_keptB I_0_keptChanges)), ((r0 5), .inl (cI, 9, .inl A_0_5_b)), ((r0 13), .inl (cI, 9, .inl A_0_13_rests))] sz)) 0 0 (va_A [(h0, .inr (11, oX12 r0 I_0_isFound I_0_foundB I_0_changes I_0_taped I_0_size I_0_at I_0_signs I_0_wanted I_0_sign I_0_isKept I_0_keptFound I_0_keptB I_0_keptChanges)), ((r0 5), .inl (cI, 9, .inl A_0_5_b)), ((r0 13), .inl (cI, 9, .inl A_0_13_rests))] sz) := by
  refine m_met (own := RX12) (cc := cX12_root) (maxL := 6) (ret := some .int) [.ref h0, .int x1, .int x2] [(0, .ref h0), (1, .int x1), (2, .int x2)] (by decide) rfl rfl (Nat.le_of_ble_eq_true rfl) rfl ?_
  intro p e s m args below meth c Q A hQ hA C0 hr hnm hsz hM ls hl
  have hx := C0.1
  have hb := C0.2.1
  have hown := C0.2.2.2.1
  have jq23 : ∀ (s0 : Int32) (A_0_13_rests : (Nat → Int32)) (H : Heap) (locs : List Loc) (ls : Array Slot) , jn_X12_root_23 x1 x2 I_0_isFound I_0_foundB A_0_5_b K s0 A_0_13_rests → MW D A s.heap [(h0, .inr (11, oX12 r0 I_0_isFound I_0_foundB I_0_changes I_0_taped I_0_size I_0_at I_0_signs I_0_wanted I_0_sign I_0_isKept I_0_keptFound I_0_keptB I_0_keptChanges)), ((r0 5), .inl (cI, 9, .inl A_0_5_b)), ((r0 13), .inl (cI, 9, .inl A_0_13_rests))] H locs → lv_has ls 6 [(0, .ref h0), (2, .int x2)] → W p l e rm_X12_root s m args below meth c H locs 0 0 Q (F0 m 23 ls [.int s0]) := by
    intro s0 A_0_13_rests H locs ls h hM hl
    unfold jn_X12_root_23 at h
    refine lv_istore_n (lv' := [(3, .int s0), (0, .ref h0), (2, .int x2)]) hx hb dX12_root_23 rfl hl (by decide) rfl (fun ls hl => ?_)
    refine lv_iload_n hx hb dX12_root_24 rfl (lv_at hl 0 rfl) ?_
    refine lv_if_lt (tgt := 37) hx hb dX12_root_25 (by decide) (fun hq => ?_) (fun hq => ?_)
    · have h := h.1 hq
      refine lv_iconst (v := (-1 : Int32)) hx hb dX12_root_37 (by decide) ?_
      subst hsz; subst hA; subst hQ
      exact m_iret C0 hr hM A_0_13_rests h rfl dX12_root_38
    · have h := h.2 hq
      refine lv_iload_n hx hb dX12_root_28 rfl (lv_at hl 2 rfl) ?_
      refine lv_iconst (v := (0 : Int32)) hx hb dX12_root_29 (by decide) ?_
      refine lv_iconst (v := (2 : Int32)) hx hb dX12_root_30 (by decide) ?_
      refine m_calli (wc := []) C0 hM [] rfl (m_runS (wc := []) (As := [.int x2, .int (0 : Int32), .int (2 : Int32)]) (rest := []) C0 hM (ct_X12_isIn l D cI cJ cZ x2 (0 : Int32) (2 : Int32) _ _ h) [] rfl (by decide) gX12_root_X12_isIn rfl rfl rfl hd_X12_isIn ⟨Nat.le_of_ble_eq_true rfl, Nat.le_of_ble_eq_true rfl⟩ rfl hl.1 rfl (Nat.le_of_ble_eq_true rfl) dX12_root_31 ⟨Nat.le_of_ble_eq_true rfl, Nat.le_of_ble_eq_true rfl⟩) (fun _ => [(h0, .inr (11, oX12 r0 I_0_isFound I_0_foundB I_0_changes I_0_taped I_0_size I_0_at I_0_signs I_0_wanted I_0_sign I_0_isKept I_0_keptFound I_0_keptB I_0_keptChanges)), ((r0 5), .inl (cI, 9, .inl A_0_5_b)), ((r0 13), .inl (cI, 9, .inl A_0_13_rests))]) (fun _ => rfl) (fun _ => rfl) (fun y1 _ H locs h hM => ?_)
      refine lv_if_ne (tgt := 39) hx hb dX12_root_34 (by decide) (fun hq => ?_) (fun hq => ?_)
      · have h := h.1 hq
        refine lv_iload_n hx hb dX12_root_39 rfl (lv_at hl 0 rfl) ?_
        refine lv_bipush (v := (6 : Int32)) hx hb dX12_root_40 (by decide) ?_
        refine lv_idiv hx hb dX12_root_42 (by decide) ?_
        refine lv_topi (fun y2 ey2 => ?_)
        have h := h y2 ey2
        refine lv_istore (lv' := [(4, .int y2), (3, .int s0), (0, .ref h0), (2, .int x2)]) hx hb dX12_root_43 hl (by decide) rfl (fun ls hl => ?_)
        refine lv_iload_n hx hb dX12_root_45 rfl (lv_at hl 1 rfl) ?_
        refine lv_bipush (v := (6 : Int32)) hx hb dX12_root_46 (by decide) ?_
        refine lv_irem hx hb dX12_root_48 (by decide) ?_
        refine lv_iconst (v := (1 : Int32)) hx hb dX12_root_49 (by decide) ?_
        refine lv_iadd hx hb dX12_root_50 ?_
        refine lv_topi (fun y3 ey3 => ?_)
        have h := h y3 ey3
        refine lv_istore (lv' := [(5, .int y3), (4, .int y2), (3, .int s0), (0, .ref h0), (2, .int x2)]) hx hb dX12_root_51 hl (by decide) rfl (fun ls hl => ?_)
        refine lv_iload_n hx hb dX12_root_53 rfl (lv_at hl 4 rfl) ?_
        refine lv_if_ne (tgt := 62) hx hb dX12_root_54 (by decide) (fun hq => ?_) (fun hq => ?_)
        · have h := h.1 hq
          refine lv_iload_n hx hb dX12_root_62 rfl (lv_at hl 4 rfl) ?_
          refine lv_iconst (v := (1 : Int32)) hx hb dX12_root_63 (by decide) ?_
          refine lv_icmp_ne (tgt := 72) hx hb dX12_root_64 (by decide) (fun hq => ?_) (fun hq => ?_)
          · have h := h.1 hq
            refine lv_aload_n hx hb dX12_root_72 rfl (lv_at hl 3 rfl) ?_
            refine lv_iload hx hb dX12_root_73 (lv_at hl 1 rfl) ?_
            refine lv_iload hx hb dX12_root_75 (lv_at hl 0 rfl) ?_
            refine m_calli (wc := []) C0 hM [] rfl (m_runS (wc := []) (As := [.int y3]) (rest := [.int y2, .ref h0]) C0 hM (ct_X12_inverse l D cI cJ cZ y3 _ _ h) [] rfl (by decide) gX12_root_X12_inverse rfl rfl rfl hd_X12_inverse ⟨Nat.le_of_ble_eq_true rfl, Nat.le_of_ble_eq_true rfl⟩ rfl hl.1 rfl (Nat.le_of_ble_eq_true rfl) dX12_root_77 ⟨Nat.le_of_ble_eq_true rfl, Nat.le_of_ble_eq_true rfl⟩) (fun _ => [(h0, .inr (11, oX12 r0 I_0_isFound I_0_foundB I_0_changes I_0_taped I_0_size I_0_at I_0_signs I_0_wanted I_0_sign I_0_isKept I_0_keptFound I_0_keptB I_0_keptChanges)), ((r0 5), .inl (cI, 9, .inl A_0_5_b)), ((r0 13), .inl (cI, 9, .inl A_0_13_rests))]) (fun _ => rfl) (fun _ => rfl) (fun y4 _ H locs h hM => ?_)
            refine lv_imul hx hb dX12_root_80 ?_
            refine lv_sipush (v := (10007 : Int32)) hx hb dX12_root_81 (by decide) ?_
            refine lv_irem hx hb dX12_root_84 (by decide) ?_
            refine m_calli (wc := [(h0, .inr (11, oX12 r0 I_0_isFound I_0_foundB I_0_changes I_0_taped I_0_size I_0_at I_0_signs I_0_wanted I_0_sign I_0_isKept I_0_keptFound I_0_keptB I_0_keptChanges)), ((r0 5), .inl (cI, 9, .inl A_0_5_b)), ((r0 13), .inl (cI, 9, .inl A_0_13_rests))]) C0 hM [0, 1, 2] rfl (m_runV (wc := [(h0, .inr (11, oX12 r0 I_0_isFound I_0_foundB I_0_changes I_0_taped I_0_size I_0_at I_0_signs I_0_wanted I_0_sign I_0_isKept I_0_keptFound I_0_keptB I_0_keptChanges)), ((r0 5), .inl (cI, 9, .inl A_0_5_b)), ((r0 13), .inl (cI, 9, .inl A_0_13_rests))]) (As := [.int ((y2 * y4) - (y2 * y4) / (10007 : Int32) * (10007 : Int32))]) (rest := []) (ci := 11) C0 hM (ct_X12_howOften l D cI cJ cZ h0 r0 I_0_isFound I_0_foundB I_0_changes I_0_taped I_0_size I_0_at I_0_signs I_0_wanted I_0_sign I_0_isKept I_0_keptFound I_0_keptB I_0_keptChanges A_0_5_b A_0_13_rests ((y2 * y4) - (y2 * y4) / (10007 : Int32) * (10007 : Int32)) _ _ h) [0, 1, 2] rfl (by decide) gX12_root_X12_howOften rfl rfl rfl rfl rfl hd_X12_howOften ⟨Nat.le_of_ble_eq_true rfl, Nat.le_of_ble_eq_true rfl⟩ rfl hl.1 rfl (Nat.le_of_ble_eq_true rfl) dX12_root_85 ⟨Nat.le_of_ble_eq_true rfl, Nat.le_of_ble_eq_true rfl⟩) (fun u => [(h0, .inr (11, oX12 r0 I_0_isFound I_0_foundB I_0_changes I_0_taped I_0_size I_0_at I_0_signs I_0_wanted I_0_sign I_0_isKept I_0_keptFound I_0_keptB I_0_keptChanges)), ((r0 5), .inl (cI, 9, .inl A_0_5_b)), ((r0 13), .inl (cI, 9, .inl u))]) (fun _ => rfl) (fun _ => rfl) (fun y5 b6 H locs h hM => ?_)
            subst hsz; subst hA; subst hQ
            exact m_iret C0 hr hM b6 h rfl dX12_root_88
          · have h := h.2 hq
            refine lv_iload hx hb dX12_root_67 (lv_at hl 0 rfl) ?_
            refine lv_goto (tgt := 88) hx hb dX12_root_69 (by decide) ?_
            subst hsz; subst hA; subst hQ
            exact m_iret C0 hr hM A_0_13_rests h rfl dX12_root_88
        · have h := h.2 hq
          refine lv_iload hx hb dX12_root_57 (lv_at hl 1 rfl) ?_
          refine lv_goto (tgt := 88) hx hb dX12_root_59 (by decide) ?_
          subst hsz; subst hA; subst hQ
          exact m_iret C0 hr hM A_0_13_rests h rfl dX12_root_88
      · have h := h.2 hq
        refine lv_iconst (v := (-1 : Int32)) hx hb dX12_root_37 (by decide) ?_
        subst hsz; subst hA; subst hQ
        exact m_iret C0 hr hM A_0_13_rests h rfl dX12_root_38
  unfold wp_X12_root at h
  refine lv_aload_n hx hb dX12_root_0 rfl (lv_at hl 0 rfl) ?_
  refine m_get (C := RX12) (T := TX12) (N := 45) (ci := 11) (ref := "LoweredPowersModel") (v := .int I_0_isFound) C0 hM 0 rfl rfl kt_X12_root_X12 2 (by decide) kw_X12_root_1 rfl rfl dX12_root_1 ?_
  refine lv_if_ne (tgt := 10) hx hb dX12_root_4 (by decide) (fun hq => ?_) (fun hq => ?_)
  · have h := h.1 hq
    refine lv_iload_n hx hb dX12_root_10 rfl (lv_at hl 1 rfl) ?_
    refine lv_if_ge (tgt := 18) hx hb dX12_root_11 (by decide) (fun hq => ?_) (fun hq => ?_)
    · have h := h.1 hq
      refine lv_aload_n hx hb dX12_root_18 rfl (lv_at hl 0 rfl) ?_
      refine lv_iload_n hx hb dX12_root_19 rfl (lv_at hl 1 rfl) ?_
      refine m_calli (wc := [(h0, .inr (11, oX12 r0 I_0_isFound I_0_foundB I_0_changes I_0_taped I_0_size I_0_at I_0_signs I_0_wanted I_0_sign I_0_isKept I_0_keptFound I_0_keptB I_0_keptChanges)), ((r0 5), .inl (cI, 9, .inl A_0_5_b)), ((r0 13), .inl (cI, 9, .inl A_0_13_rests))]) C0 hM [0, 1, 2] rfl (m_runV (wc := [(h0, .inr (11, oX12 r0 I_0_isFound I_0_foundB I_0_changes I_0_taped I_0_size I_0_at I_0_signs I_0_wanted I_0_sign I_0_isKept I_0_keptFound I_0_keptB I_0_keptChanges)), ((r0 5), .inl (cI, 9, .inl A_0_5_b)), ((r0 13), .inl (cI, 9, .inl A_0_13_rests))]) (As := [.int x1]) (rest := []) (ci := 11) C0 hM (ct_X12_rootAt l D cI cJ cZ h0 r0 I_0_isFound I_0_foundB I_0_changes I_0_taped I_0_size I_0_at I_0_signs I_0_wanted I_0_sign I_0_isKept I_0_keptFound I_0_keptB I_0_keptChanges A_0_5_b A_0_13_rests x1 _ _ h) [0, 1, 2] rfl (by decide) gX12_root_X12_rootAt rfl rfl rfl rfl rfl hd_X12_rootAt ⟨Nat.le_of_ble_eq_true rfl, Nat.le_of_ble_eq_true rfl⟩ rfl hl.1 rfl (Nat.le_of_ble_eq_true rfl) dX12_root_20 ⟨Nat.le_of_ble_eq_true rfl, Nat.le_of_ble_eq_true rfl⟩) (fun u => [(h0, .inr (11, oX12 r0 I_0_isFound I_0_foundB I_0_changes I_0_taped I_0_size I_0_at I_0_signs I_0_wanted I_0_sign I_0_isKept I_0_keptFound I_0_keptB I_0_keptChanges)), ((r0 5), .inl (cI, 9, .inl A_0_5_b)), ((r0 13), .inl (cI, 9, .inl u))]) (fun _ => rfl) (fun _ => rfl) (fun y7 b8 H locs h hM => ?_)
      exact jq23 _ _ _ _ _ h hM (lv_sub hl [0, 2] rfl)
    · have h := h.2 hq
      refine lv_iconst (v := (-1 : Int32)) hx hb dX12_root_14 (by decide) ?_
      refine lv_goto (tgt := 23) hx hb dX12_root_15 (by decide) ?_
      exact jq23 _ _ _ _ _ h hM (lv_sub hl [0, 2] rfl)
  · have h := h.2 hq
    refine lv_bipush (v := (-3 : Int32)) hx hb dX12_root_7 (by decide) ?_
    subst hsz; subst hA; subst hQ
    exact m_iret C0 hr hM A_0_13_rests h rfl dX12_root_9
abbrev rm_X12_easy : Room := { frames := 2, cells := 0, slots := 0, locals := 40 }
set_option maxRecDepth 100000 in
set_option maxHeartbeats 4000000 in
theorem ct_X12_easy (l : Launch) (D : va_G) (cI cJ cZ : ClassId) (h0 : Nat) (r0 : Nat → Nat) (I_0_isFound : Int32) (I_0_foundB : Int32) (I_0_changes : Int32) (I_0_taped : Int32) (I_0_size : Int32) (I_0_at : Int32) (I_0_signs : Int32) (I_0_wanted : Int32) (I_0_sign : Int32) (I_0_isKept : Int32) (I_0_keptFound : Int32) (I_0_keptB : Int32) (I_0_keptChanges : Int32) (A_0_13_rests : (Nat → Int32)) (x1 : Int32) (x2 : Int32) (sz : Nat) (K : Int32 → (Nat → Int32) → Prop) (h : wp_X12_easy x1 x2 A_0_13_rests K) : Met l yX12_easy wsX12_easy rm_X12_easy (va_Pc [.ref h0, .int x1, .int x2] (WX D cI cJ cZ [(h0, .inr (11, oX12 r0 I_0_isFound I_0_foundB I_0_changes I_0_taped I_0_size I_0_at I_0_signs I_0_wanted I_0_sign I_0_isKept I_0_keptFound I_0_keptB I_0_keptChanges)), ((r0 13), .inl (cI, 9, .inl A_0_13_rests))] sz)) (va_Qi (fun (r : Int32) (u : (Nat → Int32)) => K r u) (fun (u : (Nat → Int32)) t => WY D (va_A [(h0, .inr (11, oX12 r0 I_0_isFound I_0_foundB I_0_changes I_0_taped I_0_size I_0_at I_0_signs I_0_wanted I_0_sign I_0_isKept I_0_keptFound I_0_keptB I_0_keptChanges)), ((r0 13), .inl (cI, 9, .inl A_0_13_rests))] sz) [(h0, .inr (11, oX12 r0 I_0_isFound I_0_foundB I_0_changes I_0_taped I_0_size I_0_at I_0_signs I_0_wanted I_0_sign I_0_isKept I_0_keptFound I_0_keptB I_0_keptChanges)), ((r0 13), .inl (cI, 9, .inl u))] t) (va_A [(h0, .inr (11, oX12 r0 I_0_isFound I_0_foundB I_0_changes I_0_taped I_0_size I_0_at I_0_signs I_0_wanted I_0_sign I_0_isKept I_0_keptFound I_0_keptB I_0_keptChanges)), ((r0 13), .inl (cI, 9, .inl A_0_13_rests))] sz)) 0 0 (va_A [(h0, .inr (11, oX12 r0 I_0_isFound I_0_foundB I_0_changes I_0_taped I_0_size I_0_at I_0_signs I_0_wanted I_0_sign I_0_isKept I_0_keptFound I_0_keptB I_0_keptChanges)), ((r0 13), .inl (cI, 9, .inl A_0_13_rests))] sz) := by
  refine m_met (own := RX12) (cc := cX12_easy) (maxL := 6) (ret := some .int) [.ref h0, .int x1, .int x2] [(0, .ref h0), (1, .int x1), (2, .int x2)] (by decide) rfl rfl (Nat.le_of_ble_eq_true rfl) rfl ?_
  intro p e s m args below meth c Q A hQ hA C0 hr hnm hsz hM ls hl
  have hx := C0.1
  have hb := C0.2.1
  have hown := C0.2.2.2.1
  have jq131 : ∀ (A_0_13_rests : (Nat → Int32)) (H : Heap) (locs : List Loc) (ls : Array Slot) , jn_X12_easy_131 x1 x2 K A_0_13_rests → MW D A s.heap [(h0, .inr (11, oX12 r0 I_0_isFound I_0_foundB I_0_changes I_0_taped I_0_size I_0_at I_0_signs I_0_wanted I_0_sign I_0_isKept I_0_keptFound I_0_keptB I_0_keptChanges)), ((r0 13), .inl (cI, 9, .inl A_0_13_rests))] H locs → lv_has ls 6 [(0, .ref h0), (2, .int x2)] → W p l e rm_X12_easy s m args below meth c H locs 0 0 Q (F0 m 131 ls []) := by
    intro A_0_13_rests H locs ls h hM hl
    unfold jn_X12_easy_131 at h
    refine lv_aload_n hx hb dX12_easy_131 rfl (lv_at hl 0 rfl) ?_
    refine m_get (C := RX12) (T := TX12) (N := 45) (ci := 11) (ref := "LoweredPowersModel") (v := .ref (r0 13)) C0 hM 0 rfl rfl kt_X12_easy_X12 13 (by decide) kw_X12_easy_1 rfl rfl dX12_easy_132 ?_
    refine lv_iload_n hx hb dX12_easy_135 rfl (lv_at hl 1 rfl) ?_
    obtain ⟨hc1, h⟩ := h
    refine m_iald C0 hM 1 rfl hc1 dX12_easy_136 ?_
    refine m_calli (wc := []) C0 hM [] rfl (m_runS (wc := []) (As := [.int (A_0_13_rests (x2).toNatClampNeg)]) (rest := []) C0 hM (ct_X12_told l D cI cJ cZ (A_0_13_rests (x2).toNatClampNeg) _ _ h) [] rfl (by decide) gX12_easy_X12_told rfl rfl rfl hd_X12_told ⟨Nat.le_of_ble_eq_true rfl, Nat.le_of_ble_eq_true rfl⟩ rfl hl.1 rfl (Nat.le_of_ble_eq_true rfl) dX12_easy_137 ⟨Nat.le_of_ble_eq_true rfl, Nat.le_of_ble_eq_true rfl⟩) (fun _ => [(h0, .inr (11, oX12 r0 I_0_isFound I_0_foundB I_0_changes I_0_taped I_0_size I_0_at I_0_signs I_0_wanted I_0_sign I_0_isKept I_0_keptFound I_0_keptB I_0_keptChanges)), ((r0 13), .inl (cI, 9, .inl A_0_13_rests))]) (fun _ => rfl) (fun _ => rfl) (fun y2 _ H locs h hM => ?_)
    subst hsz; subst hA; subst hQ
    exact m_iret C0 hr hM A_0_13_rests h rfl dX12_easy_140
  have lq54 : ∀ (k54 : Nat) (x3 : Int32) (A_0_13_rests : (Nat → Int32)) (H : Heap) (locs : List Loc) (ls : Array Slot) , lp_X12_easy_54 x1 x2 (jn_X12_easy_131 x1 x2 K) K k54 x3 A_0_13_rests → MW D A s.heap [(h0, .inr (11, oX12 r0 I_0_isFound I_0_foundB I_0_changes I_0_taped I_0_size I_0_at I_0_signs I_0_wanted I_0_sign I_0_isKept I_0_keptFound I_0_keptB I_0_keptChanges)), ((r0 13), .inl (cI, 9, .inl A_0_13_rests))] H locs → lv_has ls 6 [(0, .ref h0), (1, .int x1), (2, .int x2), (3, .int x3)] → W p l e rm_X12_easy s m args below meth c H locs 0 0 Q (F0 m 54 ls []) := by
    intro k54
    induction k54 with
    | zero =>
      intro x3 A_0_13_rests H locs ls h
      unfold lp_X12_easy_54 at h
      exact h.elim
    | succ k54 ih54 =>
      have jq125 : ∀ (x3 : Int32) (A_0_13_rests : (Nat → Int32)) (H : Heap) (locs : List Loc) (ls : Array Slot) , jn_X12_easy_125 x1 x2 (fun x3 A_0_13_rests => lp_X12_easy_54 x1 x2 (jn_X12_easy_131 x1 x2 K) K k54 x3 A_0_13_rests) (jn_X12_easy_131 x1 x2 K) K x3 A_0_13_rests → MW D A s.heap [(h0, .inr (11, oX12 r0 I_0_isFound I_0_foundB I_0_changes I_0_taped I_0_size I_0_at I_0_signs I_0_wanted I_0_sign I_0_isKept I_0_keptFound I_0_keptB I_0_keptChanges)), ((r0 13), .inl (cI, 9, .inl A_0_13_rests))] H locs → lv_has ls 6 [(0, .ref h0), (1, .int x1), (2, .int x2), (3, .int x3)] → W p l e rm_X12_easy s m args below meth c H locs 0 0 Q (F0 m 125 ls []) := by
        intro x3 A_0_13_rests H locs ls h hM hl
        unfold jn_X12_easy_125 at h
        refine lv_iinc (v := (x3 + (1 : Int32))) (lv' := [(3, .int (x3 + (1 : Int32))), (0, .ref h0), (1, .int x1), (2, .int x2)]) hx hb dX12_easy_125 hl (k := 3) rfl rfl (by decide) rfl (fun ls hl => ?_)
        refine lv_goto (tgt := 54) hx hb dX12_easy_128 (by decide) ?_
        exact ih54 _ _ _ _ _ h hM (lv_sub hl [1, 2, 3, 0] rfl)
      have lq74 : ∀ (k74 : Nat) (x3 : Int32) (x4 : Int32) (x5 : Int32) (A_0_13_rests : (Nat → Int32)) (H : Heap) (locs : List Loc) (ls : Array Slot) , lp_X12_easy_74 x1 x2 (jn_X12_easy_125 x1 x2 (fun x3 A_0_13_rests => lp_X12_easy_54 x1 x2 (jn_X12_easy_131 x1 x2 K) K k54 x3 A_0_13_rests) (jn_X12_easy_131 x1 x2 K) K) K k74 x3 x4 x5 A_0_13_rests → MW D A s.heap [(h0, .inr (11, oX12 r0 I_0_isFound I_0_foundB I_0_changes I_0_taped I_0_size I_0_at I_0_signs I_0_wanted I_0_sign I_0_isKept I_0_keptFound I_0_keptB I_0_keptChanges)), ((r0 13), .inl (cI, 9, .inl A_0_13_rests))] H locs → lv_has ls 6 [(0, .ref h0), (1, .int x1), (2, .int x2), (3, .int x3), (4, .int x4), (5, .int x5)] → W p l e rm_X12_easy s m args below meth c H locs 0 0 Q (F0 m 74 ls []) := by
        intro k74
        induction k74 with
        | zero =>
          intro x3 x4 x5 A_0_13_rests H locs ls h
          unfold lp_X12_easy_74 at h
          exact h.elim
        | succ k74 ih74 =>
          have jq113 : ∀ (x3 : Int32) (x4 : Int32) (x5 : Int32) (s1 : Int32) (s2 : Int32) (s3 : Int32) (A_0_13_rests : (Nat → Int32)) (H : Heap) (locs : List Loc) (ls : Array Slot) , jn_X12_easy_113 x1 x2 (fun x3 x4 x5 A_0_13_rests => lp_X12_easy_74 x1 x2 (jn_X12_easy_125 x1 x2 (fun x3 A_0_13_rests => lp_X12_easy_54 x1 x2 (jn_X12_easy_131 x1 x2 K) K k54 x3 A_0_13_rests) (jn_X12_easy_131 x1 x2 K) K) K k74 x3 x4 x5 A_0_13_rests) (jn_X12_easy_125 x1 x2 (fun x3 A_0_13_rests => lp_X12_easy_54 x1 x2 (jn_X12_easy_131 x1 x2 K) K k54 x3 A_0_13_rests) (jn_X12_easy_131 x1 x2 K) K) K x3 x4 x5 s1 s2 s3 A_0_13_rests → MW D A s.heap [(h0, .inr (11, oX12 r0 I_0_isFound I_0_foundB I_0_changes I_0_taped I_0_size I_0_at I_0_signs I_0_wanted I_0_sign I_0_isKept I_0_keptFound I_0_keptB I_0_keptChanges)), ((r0 13), .inl (cI, 9, .inl A_0_13_rests))] H locs → lv_has ls 6 [(0, .ref h0), (1, .int x1), (2, .int x2), (3, .int x3), (4, .int x4), (5, .int x5)] → W p l e rm_X12_easy s m args below meth c H locs 0 0 Q (F0 m 113 ls [.int s3, .int s2, .int s1, .ref (r0 13)]) := by
            intro x3 x4 x5 s1 s2 s3 A_0_13_rests H locs ls h hM hl
            unfold jn_X12_easy_113 at h
            refine lv_iadd hx hb dX12_easy_113 ?_
            refine lv_sipush (v := (10007 : Int32)) hx hb dX12_easy_114 (by decide) ?_
            refine lv_irem hx hb dX12_easy_117 (by decide) ?_
            refine lv_topi (fun y3 ey3 => ?_)
            have h := h y3 ey3
            obtain ⟨hc4, h⟩ := h
            refine m_iast (ws' := [(h0, .inr (11, oX12 r0 I_0_isFound I_0_foundB I_0_changes I_0_taped I_0_size I_0_at I_0_signs I_0_wanted I_0_sign I_0_isKept I_0_keptFound I_0_keptB I_0_keptChanges)), ((r0 13), .inl (cI, 9, .inl (upd A_0_13_rests (s1).toNatClampNeg y3)))]) C0 hM 1 rfl hc4 rfl dX12_easy_118 (fun H locs hM => ?_)
            refine lv_iinc (v := (x5 + (-1 : Int32))) (lv' := [(5, .int (x5 + (-1 : Int32))), (0, .ref h0), (1, .int x1), (2, .int x2), (3, .int x3), (4, .int x4)]) hx hb dX12_easy_119 hl (k := 5) rfl rfl (by decide) rfl (fun ls hl => ?_)
            refine lv_goto (tgt := 74) hx hb dX12_easy_122 (by decide) ?_
            exact ih74 _ _ _ _ _ _ _ h hM (lv_sub hl [1, 2, 3, 4, 5, 0] rfl)
          intro x3 x4 x5 A_0_13_rests H locs ls h hM hl
          unfold lp_X12_easy_74 at h
          refine lv_iload hx hb dX12_easy_74 (lv_at hl 5 rfl) ?_
          refine lv_if_lt (tgt := 125) hx hb dX12_easy_76 (by decide) (fun hq => ?_) (fun hq => ?_)
          · have h := h.1 hq
            exact jq125 _ _ _ _ _ h hM (lv_sub hl [0, 1, 2, 3] rfl)
          · have h := h.2 hq
            refine lv_aload_n hx hb dX12_easy_79 rfl (lv_at hl 0 rfl) ?_
            refine m_get (C := RX12) (T := TX12) (N := 45) (ci := 11) (ref := "LoweredPowersModel") (v := .ref (r0 13)) C0 hM 0 rfl rfl kt_X12_easy_X12 13 (by decide) kw_X12_easy_1 rfl rfl dX12_easy_80 ?_
            refine lv_iload hx hb dX12_easy_83 (lv_at hl 5 rfl) ?_
            refine lv_aload_n hx hb dX12_easy_85 rfl (lv_at hl 0 rfl) ?_
            refine m_get (C := RX12) (T := TX12) (N := 45) (ci := 11) (ref := "LoweredPowersModel") (v := .ref (r0 13)) C0 hM 0 rfl rfl kt_X12_easy_X12 13 (by decide) kw_X12_easy_1 rfl rfl dX12_easy_86 ?_
            refine lv_iload hx hb dX12_easy_89 (lv_at hl 5 rfl) ?_
            obtain ⟨hc5, h⟩ := h
            refine m_iald C0 hM 1 rfl hc5 dX12_easy_91 ?_
            refine lv_iload hx hb dX12_easy_92 (lv_at hl 4 rfl) ?_
            refine lv_imul hx hb dX12_easy_94 ?_
            refine lv_iload hx hb dX12_easy_95 (lv_at hl 5 rfl) ?_
            refine lv_if_le (tgt := 112) hx hb dX12_easy_97 (by decide) (fun hq => ?_) (fun hq => ?_)
            · have h := h.1 hq
              refine lv_iconst (v := (0 : Int32)) hx hb dX12_easy_112 (by decide) ?_
              exact jq113 _ _ _ _ _ _ _ _ _ _ h hM (lv_sub hl [0, 1, 2, 3, 4, 5] rfl)
            · have h := h.2 hq
              refine lv_aload_n hx hb dX12_easy_100 rfl (lv_at hl 0 rfl) ?_
              refine m_get (C := RX12) (T := TX12) (N := 45) (ci := 11) (ref := "LoweredPowersModel") (v := .ref (r0 13)) C0 hM 0 rfl rfl kt_X12_easy_X12 13 (by decide) kw_X12_easy_1 rfl rfl dX12_easy_101 ?_
              refine lv_iload hx hb dX12_easy_104 (lv_at hl 5 rfl) ?_
              refine lv_iconst (v := (1 : Int32)) hx hb dX12_easy_106 (by decide) ?_
              refine lv_isub hx hb dX12_easy_107 ?_
              obtain ⟨hc6, h⟩ := h
              refine m_iald C0 hM 1 rfl hc6 dX12_easy_108 ?_
              refine lv_goto (tgt := 113) hx hb dX12_easy_109 (by decide) ?_
              exact jq113 _ _ _ _ _ _ _ _ _ _ h hM (lv_sub hl [0, 1, 2, 3, 4, 5] rfl)
      intro x3 A_0_13_rests H locs ls h hM hl
      unfold lp_X12_easy_54 at h
      refine lv_iload_n hx hb dX12_easy_54 rfl (lv_at hl 3 rfl) ?_
      refine lv_iload_n hx hb dX12_easy_55 rfl (lv_at hl 1 rfl) ?_
      refine lv_icmp_gt (tgt := 131) hx hb dX12_easy_56 (by decide) (fun hq => ?_) (fun hq => ?_)
      · have h := h.1 hq
        exact jq131 _ _ _ _ h hM (lv_sub hl [0, 2] rfl)
      · have h := h.2 hq
        refine lv_iload_n hx hb dX12_easy_59 rfl (lv_at hl 3 rfl) ?_
        refine lv_iload_n hx hb dX12_easy_60 rfl (lv_at hl 1 rfl) ?_
        refine m_calli (wc := []) C0 hM [] rfl (m_runS (wc := []) (As := [.int x1]) (rest := [.int x3]) C0 hM (ct_X12_inverse l D cI cJ cZ x1 _ _ h) [] rfl (by decide) gX12_easy_X12_inverse rfl rfl rfl hd_X12_inverse ⟨Nat.le_of_ble_eq_true rfl, Nat.le_of_ble_eq_true rfl⟩ rfl hl.1 rfl (Nat.le_of_ble_eq_true rfl) dX12_easy_61 ⟨Nat.le_of_ble_eq_true rfl, Nat.le_of_ble_eq_true rfl⟩) (fun _ => [(h0, .inr (11, oX12 r0 I_0_isFound I_0_foundB I_0_changes I_0_taped I_0_size I_0_at I_0_signs I_0_wanted I_0_sign I_0_isKept I_0_keptFound I_0_keptB I_0_keptChanges)), ((r0 13), .inl (cI, 9, .inl A_0_13_rests))]) (fun _ => rfl) (fun _ => rfl) (fun y7 _ H locs h hM => ?_)
        refine lv_imul hx hb dX12_easy_64 ?_
        refine lv_sipush (v := (10007 : Int32)) hx hb dX12_easy_65 (by decide) ?_
        refine lv_irem hx hb dX12_easy_68 (by decide) ?_
        refine lv_topi (fun y8 ey8 => ?_)
        have h := h y8 ey8
        refine lv_istore (lv' := [(4, .int y8), (0, .ref h0), (1, .int x1), (2, .int x2), (3, .int x3)]) hx hb dX12_easy_69 hl (by decide) rfl (fun ls hl => ?_)
        refine lv_iload_n hx hb dX12_easy_71 rfl (lv_at hl 2 rfl) ?_
        refine lv_istore (lv' := [(5, .int x1), (4, .int y8), (0, .ref h0), (1, .int x1), (2, .int x2), (3, .int x3)]) hx hb dX12_easy_72 hl (by decide) rfl (fun ls hl => ?_)
        obtain ⟨k0, h⟩ := h
        exact lq74 k0 _ _ _ _ _ _ _ h hM (lv_sub hl [2, 3, 4, 5, 1, 0] rfl)
  have jq52 : ∀ (A_0_13_rests : (Nat → Int32)) (H : Heap) (locs : List Loc) (ls : Array Slot) , jn_X12_easy_52 x1 x2 K A_0_13_rests → MW D A s.heap [(h0, .inr (11, oX12 r0 I_0_isFound I_0_foundB I_0_changes I_0_taped I_0_size I_0_at I_0_signs I_0_wanted I_0_sign I_0_isKept I_0_keptFound I_0_keptB I_0_keptChanges)), ((r0 13), .inl (cI, 9, .inl A_0_13_rests))] H locs → lv_has ls 6 [(0, .ref h0), (1, .int x1), (2, .int x2)] → W p l e rm_X12_easy s m args below meth c H locs 0 0 Q (F0 m 52 ls []) := by
    intro A_0_13_rests H locs ls h hM hl
    unfold jn_X12_easy_52 at h
    refine lv_iconst (v := (1 : Int32)) hx hb dX12_easy_52 (by decide) ?_
    refine lv_istore_n (lv' := [(3, .int (1 : Int32)), (0, .ref h0), (1, .int x1), (2, .int x2)]) hx hb dX12_easy_53 rfl hl (by decide) rfl (fun ls hl => ?_)
    obtain ⟨k0, h⟩ := h
    exact lq54 k0 _ _ _ _ _ h hM (lv_sub hl [1, 2, 3, 0] rfl)
  have lq25 : ∀ (k25 : Nat) (x3 : Int32) (A_0_13_rests : (Nat → Int32)) (H : Heap) (locs : List Loc) (ls : Array Slot) , lp_X12_easy_25 x1 x2 (jn_X12_easy_52 x1 x2 K) K k25 x3 A_0_13_rests → MW D A s.heap [(h0, .inr (11, oX12 r0 I_0_isFound I_0_foundB I_0_changes I_0_taped I_0_size I_0_at I_0_signs I_0_wanted I_0_sign I_0_isKept I_0_keptFound I_0_keptB I_0_keptChanges)), ((r0 13), .inl (cI, 9, .inl A_0_13_rests))] H locs → lv_has ls 6 [(0, .ref h0), (1, .int x1), (2, .int x2), (3, .int x3)] → W p l e rm_X12_easy s m args below meth c H locs 0 0 Q (F0 m 25 ls []) := by
    intro k25
    induction k25 with
    | zero =>
      intro x3 A_0_13_rests H locs ls h
      unfold lp_X12_easy_25 at h
      exact h.elim
    | succ k25 ih25 =>
      have jq45 : ∀ (x3 : Int32) (s1 : Int32) (s2 : Int32) (A_0_13_rests : (Nat → Int32)) (H : Heap) (locs : List Loc) (ls : Array Slot) , jn_X12_easy_45 x1 x2 (fun x3 A_0_13_rests => lp_X12_easy_25 x1 x2 (jn_X12_easy_52 x1 x2 K) K k25 x3 A_0_13_rests) (jn_X12_easy_52 x1 x2 K) K x3 s1 s2 A_0_13_rests → MW D A s.heap [(h0, .inr (11, oX12 r0 I_0_isFound I_0_foundB I_0_changes I_0_taped I_0_size I_0_at I_0_signs I_0_wanted I_0_sign I_0_isKept I_0_keptFound I_0_keptB I_0_keptChanges)), ((r0 13), .inl (cI, 9, .inl A_0_13_rests))] H locs → lv_has ls 6 [(0, .ref h0), (1, .int x1), (2, .int x2), (3, .int x3)] → W p l e rm_X12_easy s m args below meth c H locs 0 0 Q (F0 m 45 ls [.int s2, .int s1, .ref (r0 13)]) := by
        intro x3 s1 s2 A_0_13_rests H locs ls h hM hl
        unfold jn_X12_easy_45 at h
        obtain ⟨hc9, h⟩ := h
        refine m_iast (ws' := [(h0, .inr (11, oX12 r0 I_0_isFound I_0_foundB I_0_changes I_0_taped I_0_size I_0_at I_0_signs I_0_wanted I_0_sign I_0_isKept I_0_keptFound I_0_keptB I_0_keptChanges)), ((r0 13), .inl (cI, 9, .inl (upd A_0_13_rests (s1).toNatClampNeg s2)))]) C0 hM 1 rfl hc9 rfl dX12_easy_45 (fun H locs hM => ?_)
        refine lv_iinc (v := (x3 + (1 : Int32))) (lv' := [(3, .int (x3 + (1 : Int32))), (0, .ref h0), (1, .int x1), (2, .int x2)]) hx hb dX12_easy_46 hl (k := 3) rfl rfl (by decide) rfl (fun ls hl => ?_)
        refine lv_goto (tgt := 25) hx hb dX12_easy_49 (by decide) ?_
        exact ih25 _ _ _ _ _ h hM (lv_sub hl [1, 2, 3, 0] rfl)
      intro x3 A_0_13_rests H locs ls h hM hl
      unfold lp_X12_easy_25 at h
      refine lv_iload_n hx hb dX12_easy_25 rfl (lv_at hl 3 rfl) ?_
      refine lv_bipush (v := (9 : Int32)) hx hb dX12_easy_26 (by decide) ?_
      refine lv_icmp_ge (tgt := 52) hx hb dX12_easy_28 (by decide) (fun hq => ?_) (fun hq => ?_)
      · have h := h.1 hq
        exact jq52 _ _ _ _ h hM (lv_sub hl [0, 1, 2] rfl)
      · have h := h.2 hq
        refine lv_aload_n hx hb dX12_easy_31 rfl (lv_at hl 0 rfl) ?_
        refine m_get (C := RX12) (T := TX12) (N := 45) (ci := 11) (ref := "LoweredPowersModel") (v := .ref (r0 13)) C0 hM 0 rfl rfl kt_X12_easy_X12 13 (by decide) kw_X12_easy_1 rfl rfl dX12_easy_32 ?_
        refine lv_iload_n hx hb dX12_easy_35 rfl (lv_at hl 3 rfl) ?_
        refine lv_iload_n hx hb dX12_easy_36 rfl (lv_at hl 3 rfl) ?_
        refine lv_if_ne (tgt := 44) hx hb dX12_easy_37 (by decide) (fun hq => ?_) (fun hq => ?_)
        · have h := h.1 hq
          refine lv_iconst (v := (0 : Int32)) hx hb dX12_easy_44 (by decide) ?_
          exact jq45 _ _ _ _ _ _ _ h hM (lv_sub hl [0, 1, 2, 3] rfl)
        · have h := h.2 hq
          refine lv_iconst (v := (1 : Int32)) hx hb dX12_easy_40 (by decide) ?_
          refine lv_goto (tgt := 45) hx hb dX12_easy_41 (by decide) ?_
          exact jq45 _ _ _ _ _ _ _ h hM (lv_sub hl [0, 1, 2, 3] rfl)
  unfold wp_X12_easy at h
  refine lv_iload_n hx hb dX12_easy_0 rfl (lv_at hl 1 rfl) ?_
  refine lv_iconst (v := (1 : Int32)) hx hb dX12_easy_1 (by decide) ?_
  refine lv_iconst (v := (4 : Int32)) hx hb dX12_easy_2 (by decide) ?_
  refine m_calli (wc := []) C0 hM [] rfl (m_runS (wc := []) (As := [.int x1, .int (1 : Int32), .int (4 : Int32)]) (rest := []) C0 hM (ct_X12_isIn l D cI cJ cZ x1 (1 : Int32) (4 : Int32) _ _ h) [] rfl (by decide) gX12_easy_X12_isIn rfl rfl rfl hd_X12_isIn ⟨Nat.le_of_ble_eq_true rfl, Nat.le_of_ble_eq_true rfl⟩ rfl hl.1 rfl (Nat.le_of_ble_eq_true rfl) dX12_easy_3 ⟨Nat.le_of_ble_eq_true rfl, Nat.le_of_ble_eq_true rfl⟩) (fun _ => [(h0, .inr (11, oX12 r0 I_0_isFound I_0_foundB I_0_changes I_0_taped I_0_size I_0_at I_0_signs I_0_wanted I_0_sign I_0_isKept I_0_keptFound I_0_keptB I_0_keptChanges)), ((r0 13), .inl (cI, 9, .inl A_0_13_rests))]) (fun _ => rfl) (fun _ => rfl) (fun y10 _ H locs h hM => ?_)
  refine lv_if_ne (tgt := 12) hx hb dX12_easy_6 (by decide) (fun hq => ?_) (fun hq => ?_)
  · have h := h.1 hq
    refine lv_iload_n hx hb dX12_easy_12 rfl (lv_at hl 2 rfl) ?_
    refine lv_iconst (v := (0 : Int32)) hx hb dX12_easy_13 (by decide) ?_
    refine lv_iload_n hx hb dX12_easy_14 rfl (lv_at hl 1 rfl) ?_
    refine m_calli (wc := []) C0 hM [] rfl (m_runS (wc := []) (As := [.int x2, .int (0 : Int32), .int x1]) (rest := []) C0 hM (ct_X12_isIn l D cI cJ cZ x2 (0 : Int32) x1 _ _ h) [] rfl (by decide) gX12_easy_X12_isIn rfl rfl rfl hd_X12_isIn ⟨Nat.le_of_ble_eq_true rfl, Nat.le_of_ble_eq_true rfl⟩ rfl hl.1 rfl (Nat.le_of_ble_eq_true rfl) dX12_easy_15 ⟨Nat.le_of_ble_eq_true rfl, Nat.le_of_ble_eq_true rfl⟩) (fun _ => [(h0, .inr (11, oX12 r0 I_0_isFound I_0_foundB I_0_changes I_0_taped I_0_size I_0_at I_0_signs I_0_wanted I_0_sign I_0_isKept I_0_keptFound I_0_keptB I_0_keptChanges)), ((r0 13), .inl (cI, 9, .inl A_0_13_rests))]) (fun _ => rfl) (fun _ => rfl) (fun y11 _ H locs h hM => ?_)
    refine lv_if_ne (tgt := 23) hx hb dX12_easy_18 (by decide) (fun hq => ?_) (fun hq => ?_)
    · have h := h.1 hq
      refine lv_iconst (v := (0 : Int32)) hx hb dX12_easy_23 (by decide) ?_
      refine lv_istore_n (lv' := [(3, .int (0 : Int32)), (0, .ref h0), (1, .int x1), (2, .int x2)]) hx hb dX12_easy_24 rfl hl (by decide) rfl (fun ls hl => ?_)
      obtain ⟨k0, h⟩ := h
      exact lq25 k0 _ _ _ _ _ h hM (lv_sub hl [1, 2, 3, 0] rfl)
    · have h := h.2 hq
      refine lv_iconst (v := (-1 : Int32)) hx hb dX12_easy_21 (by decide) ?_
      subst hsz; subst hA; subst hQ
      exact m_iret C0 hr hM A_0_13_rests h rfl dX12_easy_22
  · have h := h.2 hq
    refine lv_bipush (v := (-2 : Int32)) hx hb dX12_easy_9 (by decide) ?_
    subst hsz; subst hA; subst hQ
    exact m_iret C0 hr hM A_0_13_rests h rfl dX12_easy_11
abbrev rm_X12_power : Room := { frames := 0, cells := 0, slots := 0, locals := 0 }
set_option maxRecDepth 100000 in
set_option maxHeartbeats 4000000 in
theorem ct_X12_power (l : Launch) (D : va_G) (cI cJ cZ : ClassId) (h0 : Nat) (r0 : Nat → Nat) (I_0_isFound : Int32) (I_0_foundB : Int32) (I_0_changes : Int32) (I_0_taped : Int32) (I_0_size : Int32) (I_0_at : Int32) (I_0_signs : Int32) (I_0_wanted : Int32) (I_0_sign : Int32) (I_0_isKept : Int32) (I_0_keptFound : Int32) (I_0_keptB : Int32) (I_0_keptChanges : Int32) (x1 : Int32) (x2 : Int32) (sz : Nat) (K : Int32 → Prop) (h : wp_X12_power x1 x2 K) : Met l yX12_power wsX12_power rm_X12_power (va_Pc [.ref h0, .int x1, .int x2] (WX D cI cJ cZ [(h0, .inr (11, oX12 r0 I_0_isFound I_0_foundB I_0_changes I_0_taped I_0_size I_0_at I_0_signs I_0_wanted I_0_sign I_0_isKept I_0_keptFound I_0_keptB I_0_keptChanges))] sz)) (va_Qi (fun (r : Int32) (_ : Unit) => K r ) (fun (_ : Unit) t => WY D (va_A [(h0, .inr (11, oX12 r0 I_0_isFound I_0_foundB I_0_changes I_0_taped I_0_size I_0_at I_0_signs I_0_wanted I_0_sign I_0_isKept I_0_keptFound I_0_keptB I_0_keptChanges))] sz) [(h0, .inr (11, oX12 r0 I_0_isFound I_0_foundB I_0_changes I_0_taped I_0_size I_0_at I_0_signs I_0_wanted I_0_sign I_0_isKept I_0_keptFound I_0_keptB I_0_keptChanges))] t) (va_A [(h0, .inr (11, oX12 r0 I_0_isFound I_0_foundB I_0_changes I_0_taped I_0_size I_0_at I_0_signs I_0_wanted I_0_sign I_0_isKept I_0_keptFound I_0_keptB I_0_keptChanges))] sz)) 0 0 (va_A [(h0, .inr (11, oX12 r0 I_0_isFound I_0_foundB I_0_changes I_0_taped I_0_size I_0_at I_0_signs I_0_wanted I_0_sign I_0_isKept I_0_keptFound I_0_keptB I_0_keptChanges))] sz) := by
  refine m_met (own := RX12) (cc := cX12_power) (maxL := 5) (ret := some .int) [.ref h0, .int x1, .int x2] [(0, .ref h0), (1, .int x1), (2, .int x2)] (by decide) rfl rfl (Nat.le_of_ble_eq_true rfl) rfl ?_
  intro p e s m args below meth c Q A hQ hA C0 hr hnm hsz hM ls hl
  have hx := C0.1
  have hb := C0.2.1
  have hown := C0.2.2.2.1
  have lq5 : ∀ (k5 : Nat) (x3 : Int32) (x4 : Int32) (H : Heap) (locs : List Loc) (ls : Array Slot) , lp_X12_power_5 x1 x2 K k5 x3 x4 → MW D A s.heap [(h0, .inr (11, oX12 r0 I_0_isFound I_0_foundB I_0_changes I_0_taped I_0_size I_0_at I_0_signs I_0_wanted I_0_sign I_0_isKept I_0_keptFound I_0_keptB I_0_keptChanges))] H locs → lv_has ls 5 [(1, .int x1), (2, .int x2), (3, .int x3), (4, .int x4)] → W p l e rm_X12_power s m args below meth c H locs 0 0 Q (F0 m 5 ls []) := by
    intro k5
    induction k5 with
    | zero =>
      intro x3 x4 H locs ls h
      unfold lp_X12_power_5 at h
      exact h.elim
    | succ k5 ih5 =>
      intro x3 x4 H locs ls h hM hl
      unfold lp_X12_power_5 at h
      refine lv_iload hx hb dX12_power_5 (lv_at hl 3 rfl) ?_
      refine lv_iload_n hx hb dX12_power_7 rfl (lv_at hl 1 rfl) ?_
      refine lv_icmp_ge (tgt := 25) hx hb dX12_power_8 (by decide) (fun hq => ?_) (fun hq => ?_)
      · have h := h.1 hq
        refine lv_iload_n hx hb dX12_power_25 rfl (lv_at hl 2 rfl) ?_
        subst hsz; subst hA; subst hQ
        exact m_iret C0 hr hM () h rfl dX12_power_26
      · have h := h.2 hq
        refine lv_iload_n hx hb dX12_power_11 rfl (lv_at hl 2 rfl) ?_
        refine lv_iload_n hx hb dX12_power_12 rfl (lv_at hl 0 rfl) ?_
        refine lv_imul hx hb dX12_power_13 ?_
        refine lv_sipush (v := (10007 : Int32)) hx hb dX12_power_14 (by decide) ?_
        refine lv_irem hx hb dX12_power_17 (by decide) ?_
        refine lv_topi (fun y1 ey1 => ?_)
        have h := h y1 ey1
        refine lv_istore_n (lv' := [(3, .int y1), (1, .int x1), (2, .int x2), (4, .int x4)]) hx hb dX12_power_18 rfl hl (by decide) rfl (fun ls hl => ?_)
        refine lv_iinc (v := (x4 + (1 : Int32))) (lv' := [(4, .int (x4 + (1 : Int32))), (3, .int y1), (1, .int x1), (2, .int x2)]) hx hb dX12_power_19 hl (k := 3) rfl rfl (by decide) rfl (fun ls hl => ?_)
        refine lv_goto (tgt := 5) hx hb dX12_power_22 (by decide) ?_
        exact ih5 _ _ _ _ _ h hM (lv_sub hl [2, 3, 1, 0] rfl)
  unfold wp_X12_power at h
  refine lv_iconst (v := (1 : Int32)) hx hb dX12_power_0 (by decide) ?_
  refine lv_istore_n (lv' := [(3, .int (1 : Int32)), (0, .ref h0), (1, .int x1), (2, .int x2)]) hx hb dX12_power_1 rfl hl (by decide) rfl (fun ls hl => ?_)
  refine lv_iconst (v := (0 : Int32)) hx hb dX12_power_2 (by decide) ?_
  refine lv_istore (lv' := [(4, .int (0 : Int32)), (3, .int (1 : Int32)), (0, .ref h0), (1, .int x1), (2, .int x2)]) hx hb dX12_power_3 hl (by decide) rfl (fun ls hl => ?_)
  obtain ⟨k0, h⟩ := h
  exact lq5 k0 _ _ _ _ _ h hM (lv_sub hl [3, 4, 1, 0] rfl)
abbrev rm_X12_directs : Room := { frames := 1, cells := 0, slots := 0, locals := 24 }
set_option maxRecDepth 100000 in
set_option maxHeartbeats 4000000 in
theorem ct_X12_directs (l : Launch) (D : va_G) (cI cJ cZ : ClassId) (h0 : Nat) (r0 : Nat → Nat) (I_0_isFound : Int32) (I_0_foundB : Int32) (I_0_changes : Int32) (I_0_taped : Int32) (I_0_size : Int32) (I_0_at : Int32) (I_0_signs : Int32) (I_0_wanted : Int32) (I_0_sign : Int32) (I_0_isKept : Int32) (I_0_keptFound : Int32) (I_0_keptB : Int32) (I_0_keptChanges : Int32) (A_0_0_f : (Nat → Int32)) (A_0_1_operator : (Nat → Int32)) (A_0_6_powers : (Nat → Int32)) (A_0_14_whole : (Nat → Int32)) (A_0_15_direct : (Nat → Int32)) (x1 : Int32) (sz : Nat) (K : (Nat → Int32) → (Nat → Int32) → (Nat → Int32) → Prop) (h : wp_X12_directs x1 A_0_0_f A_0_1_operator A_0_6_powers A_0_14_whole A_0_15_direct K) : Met l yX12_directs wsX12_directs rm_X12_directs (va_Pc [.ref h0, .int x1] (WX D cI cJ cZ [(h0, .inr (11, oX12 r0 I_0_isFound I_0_foundB I_0_changes I_0_taped I_0_size I_0_at I_0_signs I_0_wanted I_0_sign I_0_isKept I_0_keptFound I_0_keptB I_0_keptChanges)), ((r0 0), .inl (cI, 5, .inl A_0_0_f)), ((r0 1), .inl (cI, 75, .inl A_0_1_operator)), ((r0 6), .inl (cI, 125, .inl A_0_6_powers)), ((r0 14), .inl (cI, 25, .inl A_0_14_whole)), ((r0 15), .inl (cI, 25, .inl A_0_15_direct))] sz)) (va_Qv (fun (u : (Nat → Int32) × (Nat → Int32) × (Nat → Int32)) => K u.1 u.2.1 u.2.2) (fun (u : (Nat → Int32) × (Nat → Int32) × (Nat → Int32)) t => WY D (va_A [(h0, .inr (11, oX12 r0 I_0_isFound I_0_foundB I_0_changes I_0_taped I_0_size I_0_at I_0_signs I_0_wanted I_0_sign I_0_isKept I_0_keptFound I_0_keptB I_0_keptChanges)), ((r0 0), .inl (cI, 5, .inl A_0_0_f)), ((r0 1), .inl (cI, 75, .inl A_0_1_operator)), ((r0 6), .inl (cI, 125, .inl A_0_6_powers)), ((r0 14), .inl (cI, 25, .inl A_0_14_whole)), ((r0 15), .inl (cI, 25, .inl A_0_15_direct))] sz) [(h0, .inr (11, oX12 r0 I_0_isFound I_0_foundB I_0_changes I_0_taped I_0_size I_0_at I_0_signs I_0_wanted I_0_sign I_0_isKept I_0_keptFound I_0_keptB I_0_keptChanges)), ((r0 0), .inl (cI, 5, .inl A_0_0_f)), ((r0 1), .inl (cI, 75, .inl A_0_1_operator)), ((r0 6), .inl (cI, 125, .inl u.1)), ((r0 14), .inl (cI, 25, .inl u.2.1)), ((r0 15), .inl (cI, 25, .inl u.2.2))] t) (va_A [(h0, .inr (11, oX12 r0 I_0_isFound I_0_foundB I_0_changes I_0_taped I_0_size I_0_at I_0_signs I_0_wanted I_0_sign I_0_isKept I_0_keptFound I_0_keptB I_0_keptChanges)), ((r0 0), .inl (cI, 5, .inl A_0_0_f)), ((r0 1), .inl (cI, 75, .inl A_0_1_operator)), ((r0 6), .inl (cI, 125, .inl A_0_6_powers)), ((r0 14), .inl (cI, 25, .inl A_0_14_whole)), ((r0 15), .inl (cI, 25, .inl A_0_15_direct))] sz)) 0 0 (va_A [(h0, .inr (11, oX12 r0 I_0_isFound I_0_foundB I_0_changes I_0_taped I_0_size I_0_at I_0_signs I_0_wanted I_0_sign I_0_isKept I_0_keptFound I_0_keptB I_0_keptChanges)), ((r0 0), .inl (cI, 5, .inl A_0_0_f)), ((r0 1), .inl (cI, 75, .inl A_0_1_operator)), ((r0 6), .inl (cI, 125, .inl A_0_6_powers)), ((r0 14), .inl (cI, 25, .inl A_0_14_whole)), ((r0 15), .inl (cI, 25, .inl A_0_15_direct))] sz) := by
  refine m_met (own := RX12) (cc := cX12_directs) (maxL := 7) (ret := none) [.ref h0, .int x1] [(0, .ref h0), (1, .int x1)] (by decide) rfl rfl (Nat.le_of_ble_eq_true rfl) rfl ?_
  intro p e s m args below meth c Q A hQ hA C0 hr hnm hsz hM ls hl
  have hx := C0.1
  have hb := C0.2.1
  have hown := C0.2.2.2.1
  have lq46 : ∀ (k46 : Nat) (x2 : Int32) (A_0_6_powers : (Nat → Int32)) (A_0_14_whole : (Nat → Int32)) (A_0_15_direct : (Nat → Int32)) (H : Heap) (locs : List Loc) (ls : Array Slot) , lp_X12_directs_46 x1 A_0_0_f A_0_1_operator K k46 x2 A_0_6_powers A_0_14_whole A_0_15_direct → MW D A s.heap [(h0, .inr (11, oX12 r0 I_0_isFound I_0_foundB I_0_changes I_0_taped I_0_size I_0_at I_0_signs I_0_wanted I_0_sign I_0_isKept I_0_keptFound I_0_keptB I_0_keptChanges)), ((r0 0), .inl (cI, 5, .inl A_0_0_f)), ((r0 1), .inl (cI, 75, .inl A_0_1_operator)), ((r0 6), .inl (cI, 125, .inl A_0_6_powers)), ((r0 14), .inl (cI, 25, .inl A_0_14_whole)), ((r0 15), .inl (cI, 25, .inl A_0_15_direct))] H locs → lv_has ls 7 [(0, .ref h0), (1, .int x1), (2, .int x2)] → W p l e rm_X12_directs s m args below meth c H locs 0 0 Q (F0 m 46 ls []) := by
    intro k46
    induction k46 with
    | zero =>
      intro x2 A_0_6_powers A_0_14_whole A_0_15_direct H locs ls h
      unfold lp_X12_directs_46 at h
      exact h.elim
    | succ k46 ih46 =>
      have jq204 : ∀ (x2 : Int32) (A_0_6_powers : (Nat → Int32)) (A_0_14_whole : (Nat → Int32)) (A_0_15_direct : (Nat → Int32)) (H : Heap) (locs : List Loc) (ls : Array Slot) , jn_X12_directs_204 x1 A_0_0_f A_0_1_operator (fun x2 A_0_6_powers A_0_14_whole A_0_15_direct => lp_X12_directs_46 x1 A_0_0_f A_0_1_operator K k46 x2 A_0_6_powers A_0_14_whole A_0_15_direct) K x2 A_0_6_powers A_0_14_whole A_0_15_direct → MW D A s.heap [(h0, .inr (11, oX12 r0 I_0_isFound I_0_foundB I_0_changes I_0_taped I_0_size I_0_at I_0_signs I_0_wanted I_0_sign I_0_isKept I_0_keptFound I_0_keptB I_0_keptChanges)), ((r0 0), .inl (cI, 5, .inl A_0_0_f)), ((r0 1), .inl (cI, 75, .inl A_0_1_operator)), ((r0 6), .inl (cI, 125, .inl A_0_6_powers)), ((r0 14), .inl (cI, 25, .inl A_0_14_whole)), ((r0 15), .inl (cI, 25, .inl A_0_15_direct))] H locs → lv_has ls 7 [(0, .ref h0), (1, .int x1), (2, .int x2)] → W p l e rm_X12_directs s m args below meth c H locs 0 0 Q (F0 m 204 ls []) := by
        intro x2 A_0_6_powers A_0_14_whole A_0_15_direct H locs ls h hM hl
        unfold jn_X12_directs_204 at h
        refine lv_iinc (v := (x2 + (1 : Int32))) (lv' := [(2, .int (x2 + (1 : Int32))), (0, .ref h0), (1, .int x1)]) hx hb dX12_directs_204 hl (k := 2) rfl rfl (by decide) rfl (fun ls hl => ?_)
        refine lv_goto (tgt := 46) hx hb dX12_directs_207 (by decide) ?_
        exact ih46 _ _ _ _ _ _ _ h hM (lv_sub hl [1, 2, 0] rfl)
      have lq158 : ∀ (k158 : Nat) (x2 : Int32) (x3 : Int32) (A_0_6_powers : (Nat → Int32)) (A_0_14_whole : (Nat → Int32)) (A_0_15_direct : (Nat → Int32)) (H : Heap) (locs : List Loc) (ls : Array Slot) , lp_X12_directs_158 x1 A_0_0_f A_0_1_operator (jn_X12_directs_204 x1 A_0_0_f A_0_1_operator (fun x2 A_0_6_powers A_0_14_whole A_0_15_direct => lp_X12_directs_46 x1 A_0_0_f A_0_1_operator K k46 x2 A_0_6_powers A_0_14_whole A_0_15_direct) K) K k158 x2 x3 A_0_6_powers A_0_14_whole A_0_15_direct → MW D A s.heap [(h0, .inr (11, oX12 r0 I_0_isFound I_0_foundB I_0_changes I_0_taped I_0_size I_0_at I_0_signs I_0_wanted I_0_sign I_0_isKept I_0_keptFound I_0_keptB I_0_keptChanges)), ((r0 0), .inl (cI, 5, .inl A_0_0_f)), ((r0 1), .inl (cI, 75, .inl A_0_1_operator)), ((r0 6), .inl (cI, 125, .inl A_0_6_powers)), ((r0 14), .inl (cI, 25, .inl A_0_14_whole)), ((r0 15), .inl (cI, 25, .inl A_0_15_direct))] H locs → lv_has ls 7 [(0, .ref h0), (1, .int x1), (2, .int x2), (3, .int x3)] → W p l e rm_X12_directs s m args below meth c H locs 0 0 Q (F0 m 158 ls []) := by
        intro k158
        induction k158 with
        | zero =>
          intro x2 x3 A_0_6_powers A_0_14_whole A_0_15_direct H locs ls h
          unfold lp_X12_directs_158 at h
          exact h.elim
        | succ k158 ih158 =>
          have jq197 : ∀ (x2 : Int32) (x3 : Int32) (s1 : Int32) (s2 : Int32) (A_0_6_powers : (Nat → Int32)) (A_0_14_whole : (Nat → Int32)) (A_0_15_direct : (Nat → Int32)) (H : Heap) (locs : List Loc) (ls : Array Slot) , jn_X12_directs_197 x1 A_0_0_f A_0_1_operator (fun x2 x3 A_0_6_powers A_0_14_whole A_0_15_direct => lp_X12_directs_158 x1 A_0_0_f A_0_1_operator (jn_X12_directs_204 x1 A_0_0_f A_0_1_operator (fun x2 A_0_6_powers A_0_14_whole A_0_15_direct => lp_X12_directs_46 x1 A_0_0_f A_0_1_operator K k46 x2 A_0_6_powers A_0_14_whole A_0_15_direct) K) K k158 x2 x3 A_0_6_powers A_0_14_whole A_0_15_direct) (jn_X12_directs_204 x1 A_0_0_f A_0_1_operator (fun x2 A_0_6_powers A_0_14_whole A_0_15_direct => lp_X12_directs_46 x1 A_0_0_f A_0_1_operator K k46 x2 A_0_6_powers A_0_14_whole A_0_15_direct) K) K x2 x3 s1 s2 A_0_6_powers A_0_14_whole A_0_15_direct → MW D A s.heap [(h0, .inr (11, oX12 r0 I_0_isFound I_0_foundB I_0_changes I_0_taped I_0_size I_0_at I_0_signs I_0_wanted I_0_sign I_0_isKept I_0_keptFound I_0_keptB I_0_keptChanges)), ((r0 0), .inl (cI, 5, .inl A_0_0_f)), ((r0 1), .inl (cI, 75, .inl A_0_1_operator)), ((r0 6), .inl (cI, 125, .inl A_0_6_powers)), ((r0 14), .inl (cI, 25, .inl A_0_14_whole)), ((r0 15), .inl (cI, 25, .inl A_0_15_direct))] H locs → lv_has ls 7 [(0, .ref h0), (1, .int x1), (2, .int x2), (3, .int x3)] → W p l e rm_X12_directs s m args below meth c H locs 0 0 Q (F0 m 197 ls [.int s2, .int s1, .ref (r0 14)]) := by
            intro x2 x3 s1 s2 A_0_6_powers A_0_14_whole A_0_15_direct H locs ls h hM hl
            unfold jn_X12_directs_197 at h
            obtain ⟨hc1, h⟩ := h
            refine m_iast (ws' := [(h0, .inr (11, oX12 r0 I_0_isFound I_0_foundB I_0_changes I_0_taped I_0_size I_0_at I_0_signs I_0_wanted I_0_sign I_0_isKept I_0_keptFound I_0_keptB I_0_keptChanges)), ((r0 0), .inl (cI, 5, .inl A_0_0_f)), ((r0 1), .inl (cI, 75, .inl A_0_1_operator)), ((r0 6), .inl (cI, 125, .inl A_0_6_powers)), ((r0 14), .inl (cI, 25, .inl (upd A_0_14_whole (s1).toNatClampNeg s2))), ((r0 15), .inl (cI, 25, .inl A_0_15_direct))]) C0 hM 4 rfl hc1 rfl dX12_directs_197 (fun H locs hM => ?_)
            refine lv_iinc (v := (x3 + (1 : Int32))) (lv' := [(3, .int (x3 + (1 : Int32))), (0, .ref h0), (1, .int x1), (2, .int x2)]) hx hb dX12_directs_198 hl (k := 3) rfl rfl (by decide) rfl (fun ls hl => ?_)
            refine lv_goto (tgt := 158) hx hb dX12_directs_201 (by decide) ?_
            exact ih158 _ _ _ _ _ _ _ _ h hM (lv_sub hl [1, 2, 3, 0] rfl)
          intro x2 x3 A_0_6_powers A_0_14_whole A_0_15_direct H locs ls h hM hl
          unfold lp_X12_directs_158 at h
          refine lv_iload_n hx hb dX12_directs_158 rfl (lv_at hl 3 rfl) ?_
          refine lv_bipush (v := (25 : Int32)) hx hb dX12_directs_159 (by decide) ?_
          refine lv_icmp_ge (tgt := 204) hx hb dX12_directs_161 (by decide) (fun hq => ?_) (fun hq => ?_)
          · have h := h.1 hq
            exact jq204 _ _ _ _ _ _ _ h hM (lv_sub hl [0, 1, 2] rfl)
          · have h := h.2 hq
            refine lv_aload_n hx hb dX12_directs_164 rfl (lv_at hl 0 rfl) ?_
            refine m_get (C := RX12) (T := TX12) (N := 45) (ci := 11) (ref := "LoweredPowersModel") (v := .ref (r0 14)) C0 hM 0 rfl rfl kt_X12_directs_X12 14 (by decide) kw_X12_directs_1 rfl rfl dX12_directs_165 ?_
            refine lv_iload_n hx hb dX12_directs_168 rfl (lv_at hl 3 rfl) ?_
            refine lv_iload_n hx hb dX12_directs_169 rfl (lv_at hl 3 rfl) ?_
            refine lv_iconst (v := (1 : Int32)) hx hb dX12_directs_170 (by decide) ?_
            refine lv_iadd hx hb dX12_directs_171 ?_
            refine lv_bipush (v := (25 : Int32)) hx hb dX12_directs_172 (by decide) ?_
            refine lv_icmp_ge (tgt := 196) hx hb dX12_directs_174 (by decide) (fun hq => ?_) (fun hq => ?_)
            · have h := h.1 hq
              refine lv_iconst (v := (0 : Int32)) hx hb dX12_directs_196 (by decide) ?_
              exact jq197 _ _ _ _ _ _ _ _ _ _ h hM (lv_sub hl [0, 1, 2, 3] rfl)
            · have h := h.2 hq
              refine lv_aload_n hx hb dX12_directs_177 rfl (lv_at hl 0 rfl) ?_
              refine m_get (C := RX12) (T := TX12) (N := 45) (ci := 11) (ref := "LoweredPowersModel") (v := .ref (r0 14)) C0 hM 0 rfl rfl kt_X12_directs_X12 14 (by decide) kw_X12_directs_1 rfl rfl dX12_directs_178 ?_
              refine lv_iload_n hx hb dX12_directs_181 rfl (lv_at hl 3 rfl) ?_
              refine lv_iconst (v := (1 : Int32)) hx hb dX12_directs_182 (by decide) ?_
              refine lv_iadd hx hb dX12_directs_183 ?_
              obtain ⟨hc2, h⟩ := h
              refine m_iald C0 hM 4 rfl hc2 dX12_directs_184 ?_
              refine lv_iload_n hx hb dX12_directs_185 rfl (lv_at hl 3 rfl) ?_
              refine lv_iconst (v := (1 : Int32)) hx hb dX12_directs_186 (by decide) ?_
              refine lv_iadd hx hb dX12_directs_187 ?_
              refine lv_imul hx hb dX12_directs_188 ?_
              refine lv_sipush (v := (10007 : Int32)) hx hb dX12_directs_189 (by decide) ?_
              refine lv_irem hx hb dX12_directs_192 (by decide) ?_
              refine lv_topi (fun y3 ey3 => ?_)
              have h := h y3 ey3
              refine lv_goto (tgt := 197) hx hb dX12_directs_193 (by decide) ?_
              exact jq197 _ _ _ _ _ _ _ _ _ _ h hM (lv_sub hl [0, 1, 2, 3] rfl)
      have jq156 : ∀ (x2 : Int32) (A_0_6_powers : (Nat → Int32)) (A_0_14_whole : (Nat → Int32)) (A_0_15_direct : (Nat → Int32)) (H : Heap) (locs : List Loc) (ls : Array Slot) , jn_X12_directs_156 x1 A_0_0_f A_0_1_operator (fun x2 A_0_6_powers A_0_14_whole A_0_15_direct => lp_X12_directs_46 x1 A_0_0_f A_0_1_operator K k46 x2 A_0_6_powers A_0_14_whole A_0_15_direct) K x2 A_0_6_powers A_0_14_whole A_0_15_direct → MW D A s.heap [(h0, .inr (11, oX12 r0 I_0_isFound I_0_foundB I_0_changes I_0_taped I_0_size I_0_at I_0_signs I_0_wanted I_0_sign I_0_isKept I_0_keptFound I_0_keptB I_0_keptChanges)), ((r0 0), .inl (cI, 5, .inl A_0_0_f)), ((r0 1), .inl (cI, 75, .inl A_0_1_operator)), ((r0 6), .inl (cI, 125, .inl A_0_6_powers)), ((r0 14), .inl (cI, 25, .inl A_0_14_whole)), ((r0 15), .inl (cI, 25, .inl A_0_15_direct))] H locs → lv_has ls 7 [(0, .ref h0), (1, .int x1), (2, .int x2)] → W p l e rm_X12_directs s m args below meth c H locs 0 0 Q (F0 m 156 ls []) := by
        intro x2 A_0_6_powers A_0_14_whole A_0_15_direct H locs ls h hM hl
        unfold jn_X12_directs_156 at h
        refine lv_iconst (v := (0 : Int32)) hx hb dX12_directs_156 (by decide) ?_
        refine lv_istore_n (lv' := [(3, .int (0 : Int32)), (0, .ref h0), (1, .int x1), (2, .int x2)]) hx hb dX12_directs_157 rfl hl (by decide) rfl (fun ls hl => ?_)
        obtain ⟨k0, h⟩ := h
        exact lq158 k0 _ _ _ _ _ _ _ _ h hM (lv_sub hl [1, 2, 3, 0] rfl)
      have lq53 : ∀ (k53 : Nat) (x2 : Int32) (x3 : Int32) (A_0_6_powers : (Nat → Int32)) (A_0_14_whole : (Nat → Int32)) (A_0_15_direct : (Nat → Int32)) (H : Heap) (locs : List Loc) (ls : Array Slot) , lp_X12_directs_53 x1 A_0_0_f A_0_1_operator (jn_X12_directs_156 x1 A_0_0_f A_0_1_operator (fun x2 A_0_6_powers A_0_14_whole A_0_15_direct => lp_X12_directs_46 x1 A_0_0_f A_0_1_operator K k46 x2 A_0_6_powers A_0_14_whole A_0_15_direct) K) K k53 x2 x3 A_0_6_powers A_0_14_whole A_0_15_direct → MW D A s.heap [(h0, .inr (11, oX12 r0 I_0_isFound I_0_foundB I_0_changes I_0_taped I_0_size I_0_at I_0_signs I_0_wanted I_0_sign I_0_isKept I_0_keptFound I_0_keptB I_0_keptChanges)), ((r0 0), .inl (cI, 5, .inl A_0_0_f)), ((r0 1), .inl (cI, 75, .inl A_0_1_operator)), ((r0 6), .inl (cI, 125, .inl A_0_6_powers)), ((r0 14), .inl (cI, 25, .inl A_0_14_whole)), ((r0 15), .inl (cI, 25, .inl A_0_15_direct))] H locs → lv_has ls 7 [(0, .ref h0), (1, .int x1), (2, .int x2), (3, .int x3)] → W p l e rm_X12_directs s m args below meth c H locs 0 0 Q (F0 m 53 ls []) := by
        intro k53
        induction k53 with
        | zero =>
          intro x2 x3 A_0_6_powers A_0_14_whole A_0_15_direct H locs ls h
          unfold lp_X12_directs_53 at h
          exact h.elim
        | succ k53 ih53 =>
          have jq150 : ∀ (x2 : Int32) (x3 : Int32) (A_0_6_powers : (Nat → Int32)) (A_0_14_whole : (Nat → Int32)) (A_0_15_direct : (Nat → Int32)) (H : Heap) (locs : List Loc) (ls : Array Slot) , jn_X12_directs_150 x1 A_0_0_f A_0_1_operator (fun x2 x3 A_0_6_powers A_0_14_whole A_0_15_direct => lp_X12_directs_53 x1 A_0_0_f A_0_1_operator (jn_X12_directs_156 x1 A_0_0_f A_0_1_operator (fun x2 A_0_6_powers A_0_14_whole A_0_15_direct => lp_X12_directs_46 x1 A_0_0_f A_0_1_operator K k46 x2 A_0_6_powers A_0_14_whole A_0_15_direct) K) K k53 x2 x3 A_0_6_powers A_0_14_whole A_0_15_direct) (jn_X12_directs_156 x1 A_0_0_f A_0_1_operator (fun x2 A_0_6_powers A_0_14_whole A_0_15_direct => lp_X12_directs_46 x1 A_0_0_f A_0_1_operator K k46 x2 A_0_6_powers A_0_14_whole A_0_15_direct) K) K x2 x3 A_0_6_powers A_0_14_whole A_0_15_direct → MW D A s.heap [(h0, .inr (11, oX12 r0 I_0_isFound I_0_foundB I_0_changes I_0_taped I_0_size I_0_at I_0_signs I_0_wanted I_0_sign I_0_isKept I_0_keptFound I_0_keptB I_0_keptChanges)), ((r0 0), .inl (cI, 5, .inl A_0_0_f)), ((r0 1), .inl (cI, 75, .inl A_0_1_operator)), ((r0 6), .inl (cI, 125, .inl A_0_6_powers)), ((r0 14), .inl (cI, 25, .inl A_0_14_whole)), ((r0 15), .inl (cI, 25, .inl A_0_15_direct))] H locs → lv_has ls 7 [(0, .ref h0), (1, .int x1), (2, .int x2), (3, .int x3)] → W p l e rm_X12_directs s m args below meth c H locs 0 0 Q (F0 m 150 ls []) := by
            intro x2 x3 A_0_6_powers A_0_14_whole A_0_15_direct H locs ls h hM hl
            unfold jn_X12_directs_150 at h
            refine lv_iinc (v := (x3 + (1 : Int32))) (lv' := [(3, .int (x3 + (1 : Int32))), (0, .ref h0), (1, .int x1), (2, .int x2)]) hx hb dX12_directs_150 hl (k := 3) rfl rfl (by decide) rfl (fun ls hl => ?_)
            refine lv_goto (tgt := 53) hx hb dX12_directs_153 (by decide) ?_
            exact ih53 _ _ _ _ _ _ _ _ h hM (lv_sub hl [1, 2, 3, 0] rfl)
          have lq61 : ∀ (k61 : Nat) (x2 : Int32) (x3 : Int32) (x4 : Int32) (A_0_6_powers : (Nat → Int32)) (A_0_14_whole : (Nat → Int32)) (A_0_15_direct : (Nat → Int32)) (H : Heap) (locs : List Loc) (ls : Array Slot) , lp_X12_directs_61 x1 A_0_0_f A_0_1_operator (jn_X12_directs_150 x1 A_0_0_f A_0_1_operator (fun x2 x3 A_0_6_powers A_0_14_whole A_0_15_direct => lp_X12_directs_53 x1 A_0_0_f A_0_1_operator (jn_X12_directs_156 x1 A_0_0_f A_0_1_operator (fun x2 A_0_6_powers A_0_14_whole A_0_15_direct => lp_X12_directs_46 x1 A_0_0_f A_0_1_operator K k46 x2 A_0_6_powers A_0_14_whole A_0_15_direct) K) K k53 x2 x3 A_0_6_powers A_0_14_whole A_0_15_direct) (jn_X12_directs_156 x1 A_0_0_f A_0_1_operator (fun x2 A_0_6_powers A_0_14_whole A_0_15_direct => lp_X12_directs_46 x1 A_0_0_f A_0_1_operator K k46 x2 A_0_6_powers A_0_14_whole A_0_15_direct) K) K) K k61 x2 x3 x4 A_0_6_powers A_0_14_whole A_0_15_direct → MW D A s.heap [(h0, .inr (11, oX12 r0 I_0_isFound I_0_foundB I_0_changes I_0_taped I_0_size I_0_at I_0_signs I_0_wanted I_0_sign I_0_isKept I_0_keptFound I_0_keptB I_0_keptChanges)), ((r0 0), .inl (cI, 5, .inl A_0_0_f)), ((r0 1), .inl (cI, 75, .inl A_0_1_operator)), ((r0 6), .inl (cI, 125, .inl A_0_6_powers)), ((r0 14), .inl (cI, 25, .inl A_0_14_whole)), ((r0 15), .inl (cI, 25, .inl A_0_15_direct))] H locs → lv_has ls 7 [(0, .ref h0), (1, .int x1), (2, .int x2), (3, .int x3), (4, .int x4)] → W p l e rm_X12_directs s m args below meth c H locs 0 0 Q (F0 m 61 ls []) := by
            intro k61
            induction k61 with
            | zero =>
              intro x2 x3 x4 A_0_6_powers A_0_14_whole A_0_15_direct H locs ls h
              unfold lp_X12_directs_61 at h
              exact h.elim
            | succ k61 ih61 =>
              have jq144 : ∀ (x2 : Int32) (x3 : Int32) (x4 : Int32) (A_0_6_powers : (Nat → Int32)) (A_0_14_whole : (Nat → Int32)) (A_0_15_direct : (Nat → Int32)) (H : Heap) (locs : List Loc) (ls : Array Slot) , jn_X12_directs_144 x1 A_0_0_f A_0_1_operator (fun x2 x3 x4 A_0_6_powers A_0_14_whole A_0_15_direct => lp_X12_directs_61 x1 A_0_0_f A_0_1_operator (jn_X12_directs_150 x1 A_0_0_f A_0_1_operator (fun x2 x3 A_0_6_powers A_0_14_whole A_0_15_direct => lp_X12_directs_53 x1 A_0_0_f A_0_1_operator (jn_X12_directs_156 x1 A_0_0_f A_0_1_operator (fun x2 A_0_6_powers A_0_14_whole A_0_15_direct => lp_X12_directs_46 x1 A_0_0_f A_0_1_operator K k46 x2 A_0_6_powers A_0_14_whole A_0_15_direct) K) K k53 x2 x3 A_0_6_powers A_0_14_whole A_0_15_direct) (jn_X12_directs_156 x1 A_0_0_f A_0_1_operator (fun x2 A_0_6_powers A_0_14_whole A_0_15_direct => lp_X12_directs_46 x1 A_0_0_f A_0_1_operator K k46 x2 A_0_6_powers A_0_14_whole A_0_15_direct) K) K) K k61 x2 x3 x4 A_0_6_powers A_0_14_whole A_0_15_direct) (jn_X12_directs_150 x1 A_0_0_f A_0_1_operator (fun x2 x3 A_0_6_powers A_0_14_whole A_0_15_direct => lp_X12_directs_53 x1 A_0_0_f A_0_1_operator (jn_X12_directs_156 x1 A_0_0_f A_0_1_operator (fun x2 A_0_6_powers A_0_14_whole A_0_15_direct => lp_X12_directs_46 x1 A_0_0_f A_0_1_operator K k46 x2 A_0_6_powers A_0_14_whole A_0_15_direct) K) K k53 x2 x3 A_0_6_powers A_0_14_whole A_0_15_direct) (jn_X12_directs_156 x1 A_0_0_f A_0_1_operator (fun x2 A_0_6_powers A_0_14_whole A_0_15_direct => lp_X12_directs_46 x1 A_0_0_f A_0_1_operator K k46 x2 A_0_6_powers A_0_14_whole A_0_15_direct) K) K) K x2 x3 x4 A_0_6_powers A_0_14_whole A_0_15_direct → MW D A s.heap [(h0, .inr (11, oX12 r0 I_0_isFound I_0_foundB I_0_changes I_0_taped I_0_size I_0_at I_0_signs I_0_wanted I_0_sign I_0_isKept I_0_keptFound I_0_keptB I_0_keptChanges)), ((r0 0), .inl (cI, 5, .inl A_0_0_f)), ((r0 1), .inl (cI, 75, .inl A_0_1_operator)), ((r0 6), .inl (cI, 125, .inl A_0_6_powers)), ((r0 14), .inl (cI, 25, .inl A_0_14_whole)), ((r0 15), .inl (cI, 25, .inl A_0_15_direct))] H locs → lv_has ls 7 [(0, .ref h0), (1, .int x1), (2, .int x2), (3, .int x3), (4, .int x4)] → W p l e rm_X12_directs s m args below meth c H locs 0 0 Q (F0 m 144 ls []) := by
                intro x2 x3 x4 A_0_6_powers A_0_14_whole A_0_15_direct H locs ls h hM hl
                unfold jn_X12_directs_144 at h
                refine lv_iinc (v := (x4 + (1 : Int32))) (lv' := [(4, .int (x4 + (1 : Int32))), (0, .ref h0), (1, .int x1), (2, .int x2), (3, .int x3)]) hx hb dX12_directs_144 hl (k := 4) rfl rfl (by decide) rfl (fun ls hl => ?_)
                refine lv_goto (tgt := 61) hx hb dX12_directs_147 (by decide) ?_
                exact ih61 _ _ _ _ _ _ _ _ _ h hM (lv_sub hl [1, 2, 3, 4, 0] rfl)
              have lq96 : ∀ (k96 : Nat) (x2 : Int32) (x3 : Int32) (x4 : Int32) (x5 : Int32) (x6 : Int32) (A_0_6_powers : (Nat → Int32)) (A_0_14_whole : (Nat → Int32)) (A_0_15_direct : (Nat → Int32)) (H : Heap) (locs : List Loc) (ls : Array Slot) , lp_X12_directs_96 x1 A_0_0_f A_0_1_operator (jn_X12_directs_144 x1 A_0_0_f A_0_1_operator (fun x2 x3 x4 A_0_6_powers A_0_14_whole A_0_15_direct => lp_X12_directs_61 x1 A_0_0_f A_0_1_operator (jn_X12_directs_150 x1 A_0_0_f A_0_1_operator (fun x2 x3 A_0_6_powers A_0_14_whole A_0_15_direct => lp_X12_directs_53 x1 A_0_0_f A_0_1_operator (jn_X12_directs_156 x1 A_0_0_f A_0_1_operator (fun x2 A_0_6_powers A_0_14_whole A_0_15_direct => lp_X12_directs_46 x1 A_0_0_f A_0_1_operator K k46 x2 A_0_6_powers A_0_14_whole A_0_15_direct) K) K k53 x2 x3 A_0_6_powers A_0_14_whole A_0_15_direct) (jn_X12_directs_156 x1 A_0_0_f A_0_1_operator (fun x2 A_0_6_powers A_0_14_whole A_0_15_direct => lp_X12_directs_46 x1 A_0_0_f A_0_1_operator K k46 x2 A_0_6_powers A_0_14_whole A_0_15_direct) K) K) K k61 x2 x3 x4 A_0_6_powers A_0_14_whole A_0_15_direct) (jn_X12_directs_150 x1 A_0_0_f A_0_1_operator (fun x2 x3 A_0_6_powers A_0_14_whole A_0_15_direct => lp_X12_directs_53 x1 A_0_0_f A_0_1_operator (jn_X12_directs_156 x1 A_0_0_f A_0_1_operator (fun x2 A_0_6_powers A_0_14_whole A_0_15_direct => lp_X12_directs_46 x1 A_0_0_f A_0_1_operator K k46 x2 A_0_6_powers A_0_14_whole A_0_15_direct) K) K k53 x2 x3 A_0_6_powers A_0_14_whole A_0_15_direct) (jn_X12_directs_156 x1 A_0_0_f A_0_1_operator (fun x2 A_0_6_powers A_0_14_whole A_0_15_direct => lp_X12_directs_46 x1 A_0_0_f A_0_1_operator K k46 x2 A_0_6_powers A_0_14_whole A_0_15_direct) K) K) K) K k96 x2 x3 x4 x5 x6 A_0_6_powers A_0_14_whole A_0_15_direct → MW D A s.heap [(h0, .inr (11, oX12 r0 I_0_isFound I_0_foundB I_0_changes I_0_taped I_0_size I_0_at I_0_signs I_0_wanted I_0_sign I_0_isKept I_0_keptFound I_0_keptB I_0_keptChanges)), ((r0 0), .inl (cI, 5, .inl A_0_0_f)), ((r0 1), .inl (cI, 75, .inl A_0_1_operator)), ((r0 6), .inl (cI, 125, .inl A_0_6_powers)), ((r0 14), .inl (cI, 25, .inl A_0_14_whole)), ((r0 15), .inl (cI, 25, .inl A_0_15_direct))] H locs → lv_has ls 7 [(0, .ref h0), (1, .int x1), (2, .int x2), (3, .int x3), (4, .int x4), (5, .int x5), (6, .int x6)] → W p l e rm_X12_directs s m args below meth c H locs 0 0 Q (F0 m 96 ls []) := by
                intro k96
                induction k96 with
                | zero =>
                  intro x2 x3 x4 x5 x6 A_0_6_powers A_0_14_whole A_0_15_direct H locs ls h
                  unfold lp_X12_directs_96 at h
                  exact h.elim
                | succ k96 ih96 =>
                  intro x2 x3 x4 x5 x6 A_0_6_powers A_0_14_whole A_0_15_direct H locs ls h hM hl
                  unfold lp_X12_directs_96 at h
                  refine lv_iload hx hb dX12_directs_96 (lv_at hl 6 rfl) ?_
                  refine lv_iload_n hx hb dX12_directs_98 rfl (lv_at hl 3 rfl) ?_
                  refine lv_iadd hx hb dX12_directs_99 ?_
                  refine lv_bipush (v := (25 : Int32)) hx hb dX12_directs_100 (by decide) ?_
                  refine lv_icmp_ge (tgt := 144) hx hb dX12_directs_102 (by decide) (fun hq => ?_) (fun hq => ?_)
                  · have h := h.1 hq
                    exact jq144 _ _ _ _ _ _ _ _ _ h hM (lv_sub hl [0, 1, 2, 3, 4] rfl)
                  · have h := h.2 hq
                    refine lv_aload_n hx hb dX12_directs_105 rfl (lv_at hl 0 rfl) ?_
                    refine m_get (C := RX12) (T := TX12) (N := 45) (ci := 11) (ref := "LoweredPowersModel") (v := .ref (r0 15)) C0 hM 0 rfl rfl kt_X12_directs_X12 15 (by decide) kw_X12_directs_3 rfl rfl dX12_directs_106 ?_
                    refine lv_iload hx hb dX12_directs_109 (lv_at hl 6 rfl) ?_
                    refine lv_iload_n hx hb dX12_directs_111 rfl (lv_at hl 3 rfl) ?_
                    refine lv_iadd hx hb dX12_directs_112 ?_
                    refine lv_aload_n hx hb dX12_directs_113 rfl (lv_at hl 0 rfl) ?_
                    refine m_get (C := RX12) (T := TX12) (N := 45) (ci := 11) (ref := "LoweredPowersModel") (v := .ref (r0 15)) C0 hM 0 rfl rfl kt_X12_directs_X12 15 (by decide) kw_X12_directs_3 rfl rfl dX12_directs_114 ?_
                    refine lv_iload hx hb dX12_directs_117 (lv_at hl 6 rfl) ?_
                    refine lv_iload_n hx hb dX12_directs_119 rfl (lv_at hl 3 rfl) ?_
                    refine lv_iadd hx hb dX12_directs_120 ?_
                    obtain ⟨hc4, h⟩ := h
                    refine m_iald C0 hM 5 rfl hc4 dX12_directs_121 ?_
                    refine lv_iload hx hb dX12_directs_122 (lv_at hl 5 rfl) ?_
                    refine lv_aload_n hx hb dX12_directs_124 rfl (lv_at hl 0 rfl) ?_
                    refine m_get (C := RX12) (T := TX12) (N := 45) (ci := 11) (ref := "LoweredPowersModel") (v := .ref (r0 14)) C0 hM 0 rfl rfl kt_X12_directs_X12 14 (by decide) kw_X12_directs_1 rfl rfl dX12_directs_125 ?_
                    refine lv_iload hx hb dX12_directs_128 (lv_at hl 6 rfl) ?_
                    obtain ⟨hc5, h⟩ := h
                    refine m_iald C0 hM 4 rfl hc5 dX12_directs_130 ?_
                    refine lv_imul hx hb dX12_directs_131 ?_
                    refine lv_iadd hx hb dX12_directs_132 ?_
                    refine lv_sipush (v := (10007 : Int32)) hx hb dX12_directs_133 (by decide) ?_
                    refine lv_irem hx hb dX12_directs_136 (by decide) ?_
                    refine lv_topi (fun y6 ey6 => ?_)
                    have h := h y6 ey6
                    refine m_iast (ws' := [(h0, .inr (11, oX12 r0 I_0_isFound I_0_foundB I_0_changes I_0_taped I_0_size I_0_at I_0_signs I_0_wanted I_0_sign I_0_isKept I_0_keptFound I_0_keptB I_0_keptChanges)), ((r0 0), .inl (cI, 5, .inl A_0_0_f)), ((r0 1), .inl (cI, 75, .inl A_0_1_operator)), ((r0 6), .inl (cI, 125, .inl A_0_6_powers)), ((r0 14), .inl (cI, 25, .inl A_0_14_whole)), ((r0 15), .inl (cI, 25, .inl (upd A_0_15_direct ((x6 + x3)).toNatClampNeg y6)))]) C0 hM 5 rfl hc4 rfl dX12_directs_137 (fun H locs hM => ?_)
                    refine lv_iinc (v := (x6 + (1 : Int32))) (lv' := [(6, .int (x6 + (1 : Int32))), (0, .ref h0), (1, .int x1), (2, .int x2), (3, .int x3), (4, .int x4), (5, .int x5)]) hx hb dX12_directs_138 hl (k := 6) rfl rfl (by decide) rfl (fun ls hl => ?_)
                    refine lv_goto (tgt := 96) hx hb dX12_directs_141 (by decide) ?_
                    exact ih96 _ _ _ _ _ _ _ _ _ _ _ h hM (lv_sub hl [1, 2, 3, 4, 5, 6, 0] rfl)
              intro x2 x3 x4 A_0_6_powers A_0_14_whole A_0_15_direct H locs ls h hM hl
              unfold lp_X12_directs_61 at h
              refine lv_iload hx hb dX12_directs_61 (lv_at hl 4 rfl) ?_
              refine lv_iconst (v := (3 : Int32)) hx hb dX12_directs_63 (by decide) ?_
              refine lv_icmp_ge (tgt := 150) hx hb dX12_directs_64 (by decide) (fun hq => ?_) (fun hq => ?_)
              · have h := h.1 hq
                exact jq150 _ _ _ _ _ _ _ _ h hM (lv_sub hl [0, 1, 2, 3] rfl)
              · have h := h.2 hq
                refine lv_aload_n hx hb dX12_directs_67 rfl (lv_at hl 0 rfl) ?_
                refine m_get (C := RX12) (T := TX12) (N := 45) (ci := 11) (ref := "LoweredPowersModel") (v := .ref (r0 1)) C0 hM 0 rfl rfl kt_X12_directs_X12 1 (by decide) kw_X12_directs_4 rfl rfl dX12_directs_68 ?_
                refine lv_iload_n hx hb dX12_directs_71 rfl (lv_at hl 2 rfl) ?_
                refine lv_iload_n hx hb dX12_directs_72 rfl (lv_at hl 3 rfl) ?_
                refine lv_iload hx hb dX12_directs_73 (lv_at hl 4 rfl) ?_
                refine m_calli (wc := []) C0 hM [] rfl (m_runS (wc := []) (As := [.int x2, .int x3, .int x4]) (rest := [.ref (r0 1)]) C0 hM (ct_X12_placeOf l D cI cJ cZ x2 x3 x4 _ _ h) [] rfl (by decide) gX12_directs_X12_placeOf rfl rfl rfl hd_X12_placeOf ⟨Nat.le_of_ble_eq_true rfl, Nat.le_of_ble_eq_true rfl⟩ rfl hl.1 rfl (Nat.le_of_ble_eq_true rfl) dX12_directs_75 ⟨Nat.le_of_ble_eq_true rfl, Nat.le_of_ble_eq_true rfl⟩) (fun _ => [(h0, .inr (11, oX12 r0 I_0_isFound I_0_foundB I_0_changes I_0_taped I_0_size I_0_at I_0_signs I_0_wanted I_0_sign I_0_isKept I_0_keptFound I_0_keptB I_0_keptChanges)), ((r0 0), .inl (cI, 5, .inl A_0_0_f)), ((r0 1), .inl (cI, 75, .inl A_0_1_operator)), ((r0 6), .inl (cI, 125, .inl A_0_6_powers)), ((r0 14), .inl (cI, 25, .inl A_0_14_whole)), ((r0 15), .inl (cI, 25, .inl A_0_15_direct))]) (fun _ => rfl) (fun _ => rfl) (fun y7 _ H locs h hM => ?_)
                obtain ⟨hc8, h⟩ := h
                refine m_iald C0 hM 2 rfl hc8 dX12_directs_78 ?_
                refine lv_aload_n hx hb dX12_directs_79 rfl (lv_at hl 0 rfl) ?_
                refine lv_iload_n hx hb dX12_directs_80 rfl (lv_at hl 1 rfl) ?_
                refine lv_iload hx hb dX12_directs_81 (lv_at hl 4 rfl) ?_
                refine m_calli (wc := [(h0, .inr (11, oX12 r0 I_0_isFound I_0_foundB I_0_changes I_0_taped I_0_size I_0_at I_0_signs I_0_wanted I_0_sign I_0_isKept I_0_keptFound I_0_keptB I_0_keptChanges))]) C0 hM [0] rfl (m_runV (wc := [(h0, .inr (11, oX12 r0 I_0_isFound I_0_foundB I_0_changes I_0_taped I_0_size I_0_at I_0_signs I_0_wanted I_0_sign I_0_isKept I_0_keptFound I_0_keptB I_0_keptChanges))]) (As := [.int x1, .int x4]) (rest := [.int (A_0_1_operator (y7).toNatClampNeg)]) (ci := 11) C0 hM (ct_X12_power l D cI cJ cZ h0 r0 I_0_isFound I_0_foundB I_0_changes I_0_taped I_0_size I_0_at I_0_signs I_0_wanted I_0_sign I_0_isKept I_0_keptFound I_0_keptB I_0_keptChanges x1 x4 _ _ h) [0] rfl (by decide) gX12_directs_X12_power rfl rfl rfl rfl rfl hd_X12_power ⟨Nat.le_of_ble_eq_true rfl, Nat.le_of_ble_eq_true rfl⟩ rfl hl.1 rfl (Nat.le_of_ble_eq_true rfl) dX12_directs_83 ⟨Nat.le_of_ble_eq_true rfl, Nat.le_of_ble_eq_true rfl⟩) (fun _ => [(h0, .inr (11, oX12 r0 I_0_isFound I_0_foundB I_0_changes I_0_taped I_0_size I_0_at I_0_signs I_0_wanted I_0_sign I_0_isKept I_0_keptFound I_0_keptB I_0_keptChanges)), ((r0 0), .inl (cI, 5, .inl A_0_0_f)), ((r0 1), .inl (cI, 75, .inl A_0_1_operator)), ((r0 6), .inl (cI, 125, .inl A_0_6_powers)), ((r0 14), .inl (cI, 25, .inl A_0_14_whole)), ((r0 15), .inl (cI, 25, .inl A_0_15_direct))]) (fun _ => rfl) (fun _ => rfl) (fun y9 _ H locs h hM => ?_)
                refine lv_imul hx hb dX12_directs_86 ?_
                refine lv_sipush (v := (10007 : Int32)) hx hb dX12_directs_87 (by decide) ?_
                refine lv_irem hx hb dX12_directs_90 (by decide) ?_
                refine lv_topi (fun y10 ey10 => ?_)
                have h := h y10 ey10
                refine lv_istore (lv' := [(5, .int y10), (0, .ref h0), (1, .int x1), (2, .int x2), (3, .int x3), (4, .int x4)]) hx hb dX12_directs_91 hl (by decide) rfl (fun ls hl => ?_)
                refine lv_iconst (v := (0 : Int32)) hx hb dX12_directs_93 (by decide) ?_
                refine lv_istore (lv' := [(6, .int (0 : Int32)), (5, .int y10), (0, .ref h0), (1, .int x1), (2, .int x2), (3, .int x3), (4, .int x4)]) hx hb dX12_directs_94 hl (by decide) rfl (fun ls hl => ?_)
                obtain ⟨k0, h⟩ := h
                exact lq96 k0 _ _ _ _ _ _ _ _ _ _ _ h hM (lv_sub hl [2, 3, 4, 5, 6, 1, 0] rfl)
          intro x2 x3 A_0_6_powers A_0_14_whole A_0_15_direct H locs ls h hM hl
          unfold lp_X12_directs_53 at h
          refine lv_iload_n hx hb dX12_directs_53 rfl (lv_at hl 3 rfl) ?_
          refine lv_iconst (v := (5 : Int32)) hx hb dX12_directs_54 (by decide) ?_
          refine lv_icmp_ge (tgt := 156) hx hb dX12_directs_55 (by decide) (fun hq => ?_) (fun hq => ?_)
          · have h := h.1 hq
            exact jq156 _ _ _ _ _ _ _ h hM (lv_sub hl [0, 1, 2] rfl)
          · have h := h.2 hq
            refine lv_iconst (v := (0 : Int32)) hx hb dX12_directs_58 (by decide) ?_
            refine lv_istore (lv' := [(4, .int (0 : Int32)), (0, .ref h0), (1, .int x1), (2, .int x2), (3, .int x3)]) hx hb dX12_directs_59 hl (by decide) rfl (fun ls hl => ?_)
            obtain ⟨k0, h⟩ := h
            exact lq61 k0 _ _ _ _ _ _ _ _ _ h hM (lv_sub hl [1, 2, 3, 4, 0] rfl)
      intro x2 A_0_6_powers A_0_14_whole A_0_15_direct H locs ls h hM hl
      unfold lp_X12_directs_46 at h
      refine lv_iload_n hx hb dX12_directs_46 rfl (lv_at hl 2 rfl) ?_
      refine lv_iconst (v := (5 : Int32)) hx hb dX12_directs_47 (by decide) ?_
      refine lv_icmp_ge (tgt := 210) hx hb dX12_directs_48 (by decide) (fun hq => ?_) (fun hq => ?_)
      · have h := h.1 hq
        subst hsz; subst hA; subst hQ
        exact m_vret C0 hr hM (A_0_6_powers, A_0_14_whole, A_0_15_direct) h rfl dX12_directs_210
      · have h := h.2 hq
        refine lv_iconst (v := (0 : Int32)) hx hb dX12_directs_51 (by decide) ?_
        refine lv_istore_n (lv' := [(3, .int (0 : Int32)), (0, .ref h0), (1, .int x1), (2, .int x2)]) hx hb dX12_directs_52 rfl hl (by decide) rfl (fun ls hl => ?_)
        obtain ⟨k0, h⟩ := h
        exact lq53 k0 _ _ _ _ _ _ _ _ h hM (lv_sub hl [1, 2, 3, 0] rfl)
  have jq44 : ∀ (A_0_6_powers : (Nat → Int32)) (A_0_14_whole : (Nat → Int32)) (A_0_15_direct : (Nat → Int32)) (H : Heap) (locs : List Loc) (ls : Array Slot) , jn_X12_directs_44 x1 A_0_0_f A_0_1_operator K A_0_6_powers A_0_14_whole A_0_15_direct → MW D A s.heap [(h0, .inr (11, oX12 r0 I_0_isFound I_0_foundB I_0_changes I_0_taped I_0_size I_0_at I_0_signs I_0_wanted I_0_sign I_0_isKept I_0_keptFound I_0_keptB I_0_keptChanges)), ((r0 0), .inl (cI, 5, .inl A_0_0_f)), ((r0 1), .inl (cI, 75, .inl A_0_1_operator)), ((r0 6), .inl (cI, 125, .inl A_0_6_powers)), ((r0 14), .inl (cI, 25, .inl A_0_14_whole)), ((r0 15), .inl (cI, 25, .inl A_0_15_direct))] H locs → lv_has ls 7 [(0, .ref h0), (1, .int x1)] → W p l e rm_X12_directs s m args below meth c H locs 0 0 Q (F0 m 44 ls []) := by
    intro A_0_6_powers A_0_14_whole A_0_15_direct H locs ls h hM hl
    unfold jn_X12_directs_44 at h
    refine lv_iconst (v := (0 : Int32)) hx hb dX12_directs_44 (by decide) ?_
    refine lv_istore_n (lv' := [(2, .int (0 : Int32)), (0, .ref h0), (1, .int x1)]) hx hb dX12_directs_45 rfl hl (by decide) rfl (fun ls hl => ?_)
    obtain ⟨k0, h⟩ := h
    exact lq46 k0 _ _ _ _ _ _ _ h hM (lv_sub hl [1, 2, 0] rfl)
  have lq6 : ∀ (k6 : Nat) (x2 : Int32) (A_0_6_powers : (Nat → Int32)) (A_0_14_whole : (Nat → Int32)) (A_0_15_direct : (Nat → Int32)) (H : Heap) (locs : List Loc) (ls : Array Slot) , lp_X12_directs_6 x1 A_0_0_f A_0_1_operator (jn_X12_directs_44 x1 A_0_0_f A_0_1_operator K) K k6 x2 A_0_6_powers A_0_14_whole A_0_15_direct → MW D A s.heap [(h0, .inr (11, oX12 r0 I_0_isFound I_0_foundB I_0_changes I_0_taped I_0_size I_0_at I_0_signs I_0_wanted I_0_sign I_0_isKept I_0_keptFound I_0_keptB I_0_keptChanges)), ((r0 0), .inl (cI, 5, .inl A_0_0_f)), ((r0 1), .inl (cI, 75, .inl A_0_1_operator)), ((r0 6), .inl (cI, 125, .inl A_0_6_powers)), ((r0 14), .inl (cI, 25, .inl A_0_14_whole)), ((r0 15), .inl (cI, 25, .inl A_0_15_direct))] H locs → lv_has ls 7 [(0, .ref h0), (1, .int x1), (2, .int x2)] → W p l e rm_X12_directs s m args below meth c H locs 0 0 Q (F0 m 6 ls []) := by
    intro k6
    induction k6 with
    | zero =>
      intro x2 A_0_6_powers A_0_14_whole A_0_15_direct H locs ls h
      unfold lp_X12_directs_6 at h
      exact h.elim
    | succ k6 ih6 =>
      intro x2 A_0_6_powers A_0_14_whole A_0_15_direct H locs ls h hM hl
      unfold lp_X12_directs_6 at h
      refine lv_iload_n hx hb dX12_directs_6 rfl (lv_at hl 2 rfl) ?_
      refine lv_bipush (v := (25 : Int32)) hx hb dX12_directs_7 (by decide) ?_
      refine lv_icmp_ge (tgt := 44) hx hb dX12_directs_9 (by decide) (fun hq => ?_) (fun hq => ?_)
      · have h := h.1 hq
        exact jq44 _ _ _ _ _ _ h hM (lv_sub hl [0, 1] rfl)
      · have h := h.2 hq
        refine lv_aload_n hx hb dX12_directs_12 rfl (lv_at hl 0 rfl) ?_
        refine m_get (C := RX12) (T := TX12) (N := 45) (ci := 11) (ref := "LoweredPowersModel") (v := .ref (r0 14)) C0 hM 0 rfl rfl kt_X12_directs_X12 14 (by decide) kw_X12_directs_1 rfl rfl dX12_directs_13 ?_
        refine lv_iload_n hx hb dX12_directs_16 rfl (lv_at hl 2 rfl) ?_
        refine lv_aload_n hx hb dX12_directs_17 rfl (lv_at hl 0 rfl) ?_
        refine m_get (C := RX12) (T := TX12) (N := 45) (ci := 11) (ref := "LoweredPowersModel") (v := .ref (r0 6)) C0 hM 0 rfl rfl kt_X12_directs_X12 6 (by decide) kw_X12_directs_2 rfl rfl dX12_directs_18 ?_
        refine lv_bipush (v := (25 : Int32)) hx hb dX12_directs_21 (by decide) ?_
        refine lv_iload_n hx hb dX12_directs_23 rfl (lv_at hl 1 rfl) ?_
        refine lv_iconst (v := (1 : Int32)) hx hb dX12_directs_24 (by decide) ?_
        refine lv_iadd hx hb dX12_directs_25 ?_
        refine lv_imul hx hb dX12_directs_26 ?_
        refine lv_iload_n hx hb dX12_directs_27 rfl (lv_at hl 2 rfl) ?_
        refine lv_iadd hx hb dX12_directs_28 ?_
        obtain ⟨hc11, h⟩ := h
        refine m_iald C0 hM 3 rfl hc11 dX12_directs_29 ?_
        refine lv_topi (fun y12 ey12 => ?_)
        have h := h y12 ey12
        obtain ⟨hc13, h⟩ := h
        refine m_iast (ws' := [(h0, .inr (11, oX12 r0 I_0_isFound I_0_foundB I_0_changes I_0_taped I_0_size I_0_at I_0_signs I_0_wanted I_0_sign I_0_isKept I_0_keptFound I_0_keptB I_0_keptChanges)), ((r0 0), .inl (cI, 5, .inl A_0_0_f)), ((r0 1), .inl (cI, 75, .inl A_0_1_operator)), ((r0 6), .inl (cI, 125, .inl A_0_6_powers)), ((r0 14), .inl (cI, 25, .inl (upd A_0_14_whole (x2).toNatClampNeg y12))), ((r0 15), .inl (cI, 25, .inl A_0_15_direct))]) C0 hM 4 rfl hc13 rfl dX12_directs_30 (fun H locs hM => ?_)
        refine lv_aload_n hx hb dX12_directs_31 rfl (lv_at hl 0 rfl) ?_
        refine m_get (C := RX12) (T := TX12) (N := 45) (ci := 11) (ref := "LoweredPowersModel") (v := .ref (r0 15)) C0 hM 0 rfl rfl kt_X12_directs_X12 15 (by decide) kw_X12_directs_3 rfl rfl dX12_directs_32 ?_
        refine lv_iload_n hx hb dX12_directs_35 rfl (lv_at hl 2 rfl) ?_
        refine lv_iconst (v := (0 : Int32)) hx hb dX12_directs_36 (by decide) ?_
        refine m_iast (ws' := [(h0, .inr (11, oX12 r0 I_0_isFound I_0_foundB I_0_changes I_0_taped I_0_size I_0_at I_0_signs I_0_wanted I_0_sign I_0_isKept I_0_keptFound I_0_keptB I_0_keptChanges)), ((r0 0), .inl (cI, 5, .inl A_0_0_f)), ((r0 1), .inl (cI, 75, .inl A_0_1_operator)), ((r0 6), .inl (cI, 125, .inl A_0_6_powers)), ((r0 14), .inl (cI, 25, .inl (upd A_0_14_whole (x2).toNatClampNeg y12))), ((r0 15), .inl (cI, 25, .inl (upd A_0_15_direct (x2).toNatClampNeg (0 : Int32))))]) C0 hM 5 rfl hc13 rfl dX12_directs_37 (fun H locs hM => ?_)
        refine lv_iinc (v := (x2 + (1 : Int32))) (lv' := [(2, .int (x2 + (1 : Int32))), (0, .ref h0), (1, .int x1)]) hx hb dX12_directs_38 hl (k := 2) rfl rfl (by decide) rfl (fun ls hl => ?_)
        refine lv_goto (tgt := 6) hx hb dX12_directs_41 (by decide) ?_
        exact ih6 _ _ _ _ _ _ _ h hM (lv_sub hl [1, 2, 0] rfl)
  unfold wp_X12_directs at h
  refine lv_aload_n hx hb dX12_directs_0 rfl (lv_at hl 0 rfl) ?_
  refine m_callv (wc := [(h0, .inr (11, oX12 r0 I_0_isFound I_0_foundB I_0_changes I_0_taped I_0_size I_0_at I_0_signs I_0_wanted I_0_sign I_0_isKept I_0_keptFound I_0_keptB I_0_keptChanges)), ((r0 0), .inl (cI, 5, .inl A_0_0_f)), ((r0 6), .inl (cI, 125, .inl A_0_6_powers))]) C0 hM [0, 1, 3] rfl (m_runV (wc := [(h0, .inr (11, oX12 r0 I_0_isFound I_0_foundB I_0_changes I_0_taped I_0_size I_0_at I_0_signs I_0_wanted I_0_sign I_0_isKept I_0_keptFound I_0_keptB I_0_keptChanges)), ((r0 0), .inl (cI, 5, .inl A_0_0_f)), ((r0 6), .inl (cI, 125, .inl A_0_6_powers))]) (As := []) (rest := []) (ci := 11) C0 hM (ct_X12_tellsPowers l D cI cJ cZ h0 r0 I_0_isFound I_0_foundB I_0_changes I_0_taped I_0_size I_0_at I_0_signs I_0_wanted I_0_sign I_0_isKept I_0_keptFound I_0_keptB I_0_keptChanges A_0_0_f A_0_6_powers _ _ h) [0, 1, 3] rfl (by decide) gX12_directs_X12_tellsPowers rfl rfl rfl rfl rfl hd_X12_tellsPowers ⟨Nat.le_of_ble_eq_true rfl, Nat.le_of_ble_eq_true rfl⟩ rfl hl.1 rfl (Nat.le_of_ble_eq_true rfl) dX12_directs_1 ⟨Nat.le_of_ble_eq_true rfl, Nat.le_of_ble_eq_true rfl⟩) (fun u => [(h0, .inr (11, oX12 r0 I_0_isFound I_0_foundB I_0_changes I_0_taped I_0_size I_0_at I_0_signs I_0_wanted I_0_sign I_0_isKept I_0_keptFound I_0_keptB I_0_keptChanges)), ((r0 0), .inl (cI, 5, .inl A_0_0_f)), ((r0 1), .inl (cI, 75, .inl A_0_1_operator)), ((r0 6), .inl (cI, 125, .inl u)), ((r0 14), .inl (cI, 25, .inl A_0_14_whole)), ((r0 15), .inl (cI, 25, .inl A_0_15_direct))]) (fun _ => rfl) (fun _ => rfl) (fun b14 H locs h hM => ?_)
  refine lv_iconst (v := (0 : Int32)) hx hb dX12_directs_4 (by decide) ?_
  refine lv_istore_n (lv' := [(2, .int (0 : Int32)), (0, .ref h0), (1, .int x1)]) hx hb dX12_directs_5 rfl hl (by decide) rfl (fun ls hl => ?_)
  obtain ⟨k0, h⟩ := h
  exact lq6 k0 _ _ _ _ _ _ _ h hM (lv_sub hl [1, 2, 0] rfl)
abbrev rm_X12_direct : Room := { frames := 2, cells := 0, slots := 0, locals := 50 }
set_option maxRecDepth 100000 in
set_option maxHeartbeats 4000000 in
theorem ct_X12_direct (l : Launch) (D : va_G) (cI cJ cZ : ClassId) (h0 : Nat) (r0 : Nat → Nat) (I_0_isFound : Int32) (I_0_foundB : Int32) (I_0_changes : Int32) (I_0_taped : Int32) (I_0_size : Int32) (I_0_at : Int32) (I_0_signs : Int32) (I_0_wanted : Int32) (I_0_sign : Int32) (I_0_isKept : Int32) (I_0_keptFound : Int32) (I_0_keptB : Int32) (I_0_keptChanges : Int32) (A_0_0_f : (Nat → Int32)) (A_0_1_operator : (Nat → Int32)) (A_0_6_powers : (Nat → Int32)) (A_0_14_whole : (Nat → Int32)) (A_0_15_direct : (Nat → Int32)) (x1 : Int32) (x2 : Int32) (sz : Nat) (K : Int32 → (Nat → Int32) → (Nat → Int32) → (Nat → Int32) → Prop) (h : wp_X12_direct x1 x2 A_0_0_f A_0_1_operator A_0_6_powers A_0_14_whole A_0_15_direct K) : Met l yX12_direct wsX12_direct rm_X12_direct (va_Pc [.ref h0, .int x1, .int x2] (WX D cI cJ cZ [(h0, .inr (11, oX12 r0 I_0_isFound I_0_foundB I_0_changes I_0_taped I_0_size I_0_at I_0_signs I_0_wanted I_0_sign I_0_isKept I_0_keptFound I_0_keptB I_0_keptChanges)), ((r0 0), .inl (cI, 5, .inl A_0_0_f)), ((r0 1), .inl (cI, 75, .inl A_0_1_operator)), ((r0 6), .inl (cI, 125, .inl A_0_6_powers)), ((r0 14), .inl (cI, 25, .inl A_0_14_whole)), ((r0 15), .inl (cI, 25, .inl A_0_15_direct))] sz)) (va_Qi (fun (r : Int32) (u : (Nat → Int32) × (Nat → Int32) × (Nat → Int32)) => K r u.1 u.2.1 u.2.2) (fun (u : (Nat → Int32) × (Nat → Int32) × (Nat → Int32)) t => WY D (va_A [(h0, .inr (11, oX12 r0 I_0_isFound I_0_foundB I_0_changes I_0_taped I_0_size I_0_at I_0_signs I_0_wanted I_0_sign I_0_isKept I_0_keptFound I_0_keptB I_0_keptChanges)), ((r0 0), .inl (cI, 5, .inl A_0_0_f)), ((r0 1), .inl (cI, 75, .inl A_0_1_operator)), ((r0 6), .inl (cI, 125, .inl A_0_6_powers)), ((r0 14), .inl (cI, 25, .inl A_0_14_whole)), ((r0 15), .inl (cI, 25, .inl A_0_15_direct))] sz) [(h0, .inr (11, oX12 r0 I_0_isFound I_0_foundB I_0_changes I_0_taped I_0_size I_0_at I_0_signs I_0_wanted I_0_sign I_0_isKept I_0_keptFound I_0_keptB I_0_keptChanges)), ((r0 0), .inl (cI, 5, .inl A_0_0_f)), ((r0 1), .inl (cI, 75, .inl A_0_1_operator)), ((r0 6), .inl (cI, 125, .inl u.1)), ((r0 14), .inl (cI, 25, .inl u.2.1)), ((r0 15), .inl (cI, 25, .inl u.2.2))] t) (va_A [(h0, .inr (11, oX12 r0 I_0_isFound I_0_foundB I_0_changes I_0_taped I_0_size I_0_at I_0_signs I_0_wanted I_0_sign I_0_isKept I_0_keptFound I_0_keptB I_0_keptChanges)), ((r0 0), .inl (cI, 5, .inl A_0_0_f)), ((r0 1), .inl (cI, 75, .inl A_0_1_operator)), ((r0 6), .inl (cI, 125, .inl A_0_6_powers)), ((r0 14), .inl (cI, 25, .inl A_0_14_whole)), ((r0 15), .inl (cI, 25, .inl A_0_15_direct))] sz)) 0 0 (va_A [(h0, .inr (11, oX12 r0 I_0_isFound I_0_foundB I_0_changes I_0_taped I_0_size I_0_at I_0_signs I_0_wanted I_0_sign I_0_isKept I_0_keptFound I_0_keptB I_0_keptChanges)), ((r0 0), .inl (cI, 5, .inl A_0_0_f)), ((r0 1), .inl (cI, 75, .inl A_0_1_operator)), ((r0 6), .inl (cI, 125, .inl A_0_6_powers)), ((r0 14), .inl (cI, 25, .inl A_0_14_whole)), ((r0 15), .inl (cI, 25, .inl A_0_15_direct))] sz) := by
  refine m_met (own := RX12) (cc := cX12_direct) (maxL := 3) (ret := some .int) [.ref h0, .int x1, .int x2] [(0, .ref h0), (1, .int x1), (2, .int x2)] (by decide) rfl rfl (Nat.le_of_ble_eq_true rfl) rfl ?_
  intro p e s m args below meth c Q A hQ hA C0 hr hnm hsz hM ls hl
  have hx := C0.1
  have hb := C0.2.1
  have hown := C0.2.2.2.1
  unfold wp_X12_direct at h
  refine lv_iload_n hx hb dX12_direct_0 rfl (lv_at hl 1 rfl) ?_
  refine lv_iconst (v := (0 : Int32)) hx hb dX12_direct_1 (by decide) ?_
  refine lv_iconst (v := (3 : Int32)) hx hb dX12_direct_2 (by decide) ?_
  refine m_calli (wc := []) C0 hM [] rfl (m_runS (wc := []) (As := [.int x1, .int (0 : Int32), .int (3 : Int32)]) (rest := []) C0 hM (ct_X12_isIn l D cI cJ cZ x1 (0 : Int32) (3 : Int32) _ _ h) [] rfl (by decide) gX12_direct_X12_isIn rfl rfl rfl hd_X12_isIn ⟨Nat.le_of_ble_eq_true rfl, Nat.le_of_ble_eq_true rfl⟩ rfl hl.1 rfl (Nat.le_of_ble_eq_true rfl) dX12_direct_3 ⟨Nat.le_of_ble_eq_true rfl, Nat.le_of_ble_eq_true rfl⟩) (fun _ => [(h0, .inr (11, oX12 r0 I_0_isFound I_0_foundB I_0_changes I_0_taped I_0_size I_0_at I_0_signs I_0_wanted I_0_sign I_0_isKept I_0_keptFound I_0_keptB I_0_keptChanges)), ((r0 0), .inl (cI, 5, .inl A_0_0_f)), ((r0 1), .inl (cI, 75, .inl A_0_1_operator)), ((r0 6), .inl (cI, 125, .inl A_0_6_powers)), ((r0 14), .inl (cI, 25, .inl A_0_14_whole)), ((r0 15), .inl (cI, 25, .inl A_0_15_direct))]) (fun _ => rfl) (fun _ => rfl) (fun y1 _ H locs h hM => ?_)
  refine lv_if_ne (tgt := 12) hx hb dX12_direct_6 (by decide) (fun hq => ?_) (fun hq => ?_)
  · have h := h.1 hq
    refine lv_iload_n hx hb dX12_direct_12 rfl (lv_at hl 2 rfl) ?_
    refine lv_iconst (v := (0 : Int32)) hx hb dX12_direct_13 (by decide) ?_
    refine lv_bipush (v := (20 : Int32)) hx hb dX12_direct_14 (by decide) ?_
    refine m_calli (wc := []) C0 hM [] rfl (m_runS (wc := []) (As := [.int x2, .int (0 : Int32), .int (20 : Int32)]) (rest := []) C0 hM (ct_X12_isIn l D cI cJ cZ x2 (0 : Int32) (20 : Int32) _ _ h) [] rfl (by decide) gX12_direct_X12_isIn rfl rfl rfl hd_X12_isIn ⟨Nat.le_of_ble_eq_true rfl, Nat.le_of_ble_eq_true rfl⟩ rfl hl.1 rfl (Nat.le_of_ble_eq_true rfl) dX12_direct_16 ⟨Nat.le_of_ble_eq_true rfl, Nat.le_of_ble_eq_true rfl⟩) (fun _ => [(h0, .inr (11, oX12 r0 I_0_isFound I_0_foundB I_0_changes I_0_taped I_0_size I_0_at I_0_signs I_0_wanted I_0_sign I_0_isKept I_0_keptFound I_0_keptB I_0_keptChanges)), ((r0 0), .inl (cI, 5, .inl A_0_0_f)), ((r0 1), .inl (cI, 75, .inl A_0_1_operator)), ((r0 6), .inl (cI, 125, .inl A_0_6_powers)), ((r0 14), .inl (cI, 25, .inl A_0_14_whole)), ((r0 15), .inl (cI, 25, .inl A_0_15_direct))]) (fun _ => rfl) (fun _ => rfl) (fun y2 _ H locs h hM => ?_)
    refine lv_if_ne (tgt := 24) hx hb dX12_direct_19 (by decide) (fun hq => ?_) (fun hq => ?_)
    · have h := h.1 hq
      refine lv_aload_n hx hb dX12_direct_24 rfl (lv_at hl 0 rfl) ?_
      refine lv_iload_n hx hb dX12_direct_25 rfl (lv_at hl 1 rfl) ?_
      refine m_callv (wc := [(h0, .inr (11, oX12 r0 I_0_isFound I_0_foundB I_0_changes I_0_taped I_0_size I_0_at I_0_signs I_0_wanted I_0_sign I_0_isKept I_0_keptFound I_0_keptB I_0_keptChanges)), ((r0 0), .inl (cI, 5, .inl A_0_0_f)), ((r0 1), .inl (cI, 75, .inl A_0_1_operator)), ((r0 6), .inl (cI, 125, .inl A_0_6_powers)), ((r0 14), .inl (cI, 25, .inl A_0_14_whole)), ((r0 15), .inl (cI, 25, .inl A_0_15_direct))]) C0 hM [0, 1, 2, 3, 4, 5] rfl (m_runV (wc := [(h0, .inr (11, oX12 r0 I_0_isFound I_0_foundB I_0_changes I_0_taped I_0_size I_0_at I_0_signs I_0_wanted I_0_sign I_0_isKept I_0_keptFound I_0_keptB I_0_keptChanges)), ((r0 0), .inl (cI, 5, .inl A_0_0_f)), ((r0 1), .inl (cI, 75, .inl A_0_1_operator)), ((r0 6), .inl (cI, 125, .inl A_0_6_powers)), ((r0 14), .inl (cI, 25, .inl A_0_14_whole)), ((r0 15), .inl (cI, 25, .inl A_0_15_direct))]) (As := [.int x1]) (rest := []) (ci := 11) C0 hM (ct_X12_directs l D cI cJ cZ h0 r0 I_0_isFound I_0_foundB I_0_changes I_0_taped I_0_size I_0_at I_0_signs I_0_wanted I_0_sign I_0_isKept I_0_keptFound I_0_keptB I_0_keptChanges A_0_0_f A_0_1_operator A_0_6_powers A_0_14_whole A_0_15_direct x1 _ _ h) [0, 1, 2, 3, 4, 5] rfl (by decide) gX12_direct_X12_directs rfl rfl rfl rfl rfl hd_X12_directs ⟨Nat.le_of_ble_eq_true rfl, Nat.le_of_ble_eq_true rfl⟩ rfl hl.1 rfl (Nat.le_of_ble_eq_true rfl) dX12_direct_26 ⟨Nat.le_of_ble_eq_true rfl, Nat.le_of_ble_eq_true rfl⟩) (fun u => [(h0, .inr (11, oX12 r0 I_0_isFound I_0_foundB I_0_changes I_0_taped I_0_size I_0_at I_0_signs I_0_wanted I_0_sign I_0_isKept I_0_keptFound I_0_keptB I_0_keptChanges)), ((r0 0), .inl (cI, 5, .inl A_0_0_f)), ((r0 1), .inl (cI, 75, .inl A_0_1_operator)), ((r0 6), .inl (cI, 125, .inl u.1)), ((r0 14), .inl (cI, 25, .inl u.2.1)), ((r0 15), .inl (cI, 25, .inl u.2.2))]) (fun _ => rfl) (fun _ => rfl) (fun u H locs h hM => ?_)
      obtain ⟨b3, b4, b5⟩ := u
      dsimp only at h
      have hM : MW D A s.heap [(h0, .inr (11, oX12 r0 I_0_isFound I_0_foundB I_0_changes I_0_taped I_0_size I_0_at I_0_signs I_0_wanted I_0_sign I_0_isKept I_0_keptFound I_0_keptB I_0_keptChanges)), ((r0 0), .inl (cI, 5, .inl A_0_0_f)), ((r0 1), .inl (cI, 75, .inl A_0_1_operator)), ((r0 6), .inl (cI, 125, .inl b3)), ((r0 14), .inl (cI, 25, .inl b4)), ((r0 15), .inl (cI, 25, .inl b5))] H locs := hM
      refine lv_aload_n hx hb dX12_direct_29 rfl (lv_at hl 0 rfl) ?_
      refine m_get (C := RX12) (T := TX12) (N := 45) (ci := 11) (ref := "LoweredPowersModel") (v := .ref (r0 15)) C0 hM 0 rfl rfl kt_X12_direct_X12 15 (by decide) kw_X12_direct_1 rfl rfl dX12_direct_30 ?_
      refine lv_iload_n hx hb dX12_direct_33 rfl (lv_at hl 2 rfl) ?_
      obtain ⟨hc6, h⟩ := h
      refine m_iald C0 hM 5 rfl hc6 dX12_direct_34 ?_
      refine m_calli (wc := []) C0 hM [] rfl (m_runS (wc := []) (As := [.int (b5 (x2).toNatClampNeg)]) (rest := []) C0 hM (ct_X12_told l D cI cJ cZ (b5 (x2).toNatClampNeg) _ _ h) [] rfl (by decide) gX12_direct_X12_told rfl rfl rfl hd_X12_told ⟨Nat.le_of_ble_eq_true rfl, Nat.le_of_ble_eq_true rfl⟩ rfl hl.1 rfl (Nat.le_of_ble_eq_true rfl) dX12_direct_35 ⟨Nat.le_of_ble_eq_true rfl, Nat.le_of_ble_eq_true rfl⟩) (fun _ => [(h0, .inr (11, oX12 r0 I_0_isFound I_0_foundB I_0_changes I_0_taped I_0_size I_0_at I_0_signs I_0_wanted I_0_sign I_0_isKept I_0_keptFound I_0_keptB I_0_keptChanges)), ((r0 0), .inl (cI, 5, .inl A_0_0_f)), ((r0 1), .inl (cI, 75, .inl A_0_1_operator)), ((r0 6), .inl (cI, 125, .inl b3)), ((r0 14), .inl (cI, 25, .inl b4)), ((r0 15), .inl (cI, 25, .inl b5))]) (fun _ => rfl) (fun _ => rfl) (fun y7 _ H locs h hM => ?_)
      subst hsz; subst hA; subst hQ
      exact m_iret C0 hr hM (b3, b4, b5) h rfl dX12_direct_38
    · have h := h.2 hq
      refine lv_iconst (v := (-1 : Int32)) hx hb dX12_direct_22 (by decide) ?_
      subst hsz; subst hA; subst hQ
      exact m_iret C0 hr hM (A_0_6_powers, A_0_14_whole, A_0_15_direct) h rfl dX12_direct_23
  · have h := h.2 hq
    refine lv_bipush (v := (-2 : Int32)) hx hb dX12_direct_9 (by decide) ?_
    subst hsz; subst hA; subst hQ
    exact m_iret C0 hr hM (A_0_6_powers, A_0_14_whole, A_0_15_direct) h rfl dX12_direct_11
abbrev rm_X12_checked : Room := { frames := 2, cells := 0, slots := 0, locals := 50 }
set_option maxRecDepth 100000 in
set_option maxHeartbeats 4000000 in
theorem ct_X12_checked (l : Launch) (D : va_G) (cI cJ cZ : ClassId) (h0 : Nat) (r0 : Nat → Nat) (I_0_isFound : Int32) (I_0_foundB : Int32) (I_0_changes : Int32) (I_0_taped : Int32) (I_0_size : Int32) (I_0_at : Int32) (I_0_signs : Int32) (I_0_wanted : Int32) (I_0_sign : Int32) (I_0_isKept : Int32) (I_0_keptFound : Int32) (I_0_keptB : Int32) (I_0_keptChanges : Int32) (A_0_0_f : (Nat → Int32)) (A_0_1_operator : (Nat → Int32)) (A_0_5_b : (Nat → Int32)) (A_0_6_powers : (Nat → Int32)) (A_0_14_whole : (Nat → Int32)) (A_0_15_direct : (Nat → Int32)) (x1 : Int32) (sz : Nat) (K : Int32 → (Nat → Int32) → (Nat → Int32) → (Nat → Int32) → Prop) (h : wp_X12_checked x1 I_0_isFound I_0_foundB A_0_0_f A_0_1_operator A_0_5_b A_0_6_powers A_0_14_whole A_0_15_direct K) : Met l yX12_checked wsX12_checked rm_X12_checked (va_Pc [.ref h0, .int x1] (WX D cI cJ cZ [(h0, .inr (11, oX12 r0 I_0_isFound I_0_foundB I_0_changes I_0_taped I_0_size I_0_at I_0_signs I_0_wanted I_0_sign I_0_isKept I_0_keptFound I_0_keptB I_0_keptChanges)), ((r0 0), .inl (cI, 5, .inl A_0_0_f)), ((r0 1), .inl (cI, 75, .inl A_0_1_operator)), ((r0 5), .inl (cI, 9, .inl A_0_5_b)), ((r0 6), .inl (cI, 125, .inl A_0_6_powers)), ((r0 14), .inl (cI, 25, .inl A_0_14_whole)), ((r0 15), .inl (cI, 25, .inl A_0_15_direct))] sz)) (va_Qi (fun (r : Int32) (u : (Nat → Int32) × (Nat → Int32) × (Nat → Int32)) => K r u.1 u.2.1 u.2.2) (fun (u : (Nat → Int32) × (Nat → Int32) × (Nat → Int32)) t => WY D (va_A [(h0, .inr (11, oX12 r0 I_0_isFound I_0_foundB I_0_changes I_0_taped I_0_size I_0_at I_0_signs I_0_wanted I_0_sign I_0_isKept I_0_keptFound I_0_keptB I_0_keptChanges)), ((r0 0), .inl (cI, 5, .inl A_0_0_f)), ((r0 1), .inl (cI, 75, .inl A_0_1_operator)), ((r0 5), .inl (cI, 9, .inl A_0_5_b)), ((r0 6), .inl (cI, 125, .inl A_0_6_powers)), ((r0 14), .inl (cI, 25, .inl A_0_14_whole)), ((r0 15), .inl (cI, 25, .inl A_0_15_direct))] sz) [(h0, .inr (11, oX12 r0 I_0_isFound I_0_foundB I_0_changes I_0_taped I_0_size I_0_at I_0_signs I_0_wanted I_0_sign I_0_isKept I_0_keptFound I_0_keptB I_0_keptChanges)), ((r0 0), .inl (cI, 5, .inl A_0_0_f)), ((r0 1), .inl (cI, 75, .inl A_0_1_operator)), ((r0 5), .inl (cI, 9, .inl A_0_5_b)), ((r0 6), .inl (cI, 125, .inl u.1)), ((r0 14), .inl (cI, 25, .inl u.2.1)), ((r0 15), .inl (cI, 25, .inl u.2.2))] t) (va_A [(h0, .inr (11, oX12 r0 I_0_isFound I_0_foundB I_0_changes I_0_taped I_0_size I_0_at I_0_signs I_0_wanted I_0_sign I_0_isKept I_0_keptFound I_0_keptB I_0_keptChanges)), ((r0 0), .inl (cI, 5, .inl A_0_0_f)), ((r0 1), .inl (cI, 75, .inl A_0_1_operator)), ((r0 5), .inl (cI, 9, .inl A_0_5_b)), ((r0 6), .inl (cI, 125, .inl A_0_6_powers)), ((r0 14), .inl (cI, 25, .inl A_0_14_whole)), ((r0 15), .inl (cI, 25, .inl A_0_15_direct))] sz)) 0 0 (va_A [(h0, .inr (11, oX12 r0 I_0_isFound I_0_foundB I_0_changes I_0_taped I_0_size I_0_at I_0_signs I_0_wanted I_0_sign I_0_isKept I_0_keptFound I_0_keptB I_0_keptChanges)), ((r0 0), .inl (cI, 5, .inl A_0_0_f)), ((r0 1), .inl (cI, 75, .inl A_0_1_operator)), ((r0 5), .inl (cI, 9, .inl A_0_5_b)), ((r0 6), .inl (cI, 125, .inl A_0_6_powers)), ((r0 14), .inl (cI, 25, .inl A_0_14_whole)), ((r0 15), .inl (cI, 25, .inl A_0_15_direct))] sz) := by
  refine m_met (own := RX12) (cc := cX12_checked) (maxL := 5) (ret := some .int) [.ref h0, .int x1] [(0, .ref h0), (1, .int x1)] (by decide) rfl rfl (Nat.le_of_ble_eq_true rfl) rfl ?_
  intro p e s m args below meth c Q A hQ hA C0 hr hnm hsz hM ls hl
  have hx := C0.1
  have hb := C0.2.1
  have hown := C0.2.2.2.1
  have jq115 : ∀ (x3 : Int32) (A_0_6_powers : (Nat → Int32)) (A_0_14_whole : (Nat → Int32)) (A_0_15_direct : (Nat → Int32)) (H : Heap) (locs : List Loc) (ls : Array Slot) , jn_X12_checked_115 x1 I_0_isFound I_0_foundB A_0_0_f A_0_1_operator A_0_5_b K x3 A_0_6_powers A_0_14_whole A_0_15_direct → MW D A s.heap [(h0, .inr (11, oX12 r0 I_0_isFound I_0_foundB I_0_changes I_0_taped I_0_size I_0_at I_0_signs I_0_wanted I_0_sign I_0_isKept I_0_keptFound I_0_keptB I_0_keptChanges)), ((r0 0), .inl (cI, 5, .inl A_0_0_f)), ((r0 1), .inl (cI, 75, .inl A_0_1_operator)), ((r0 5), .inl (cI, 9, .inl A_0_5_b)), ((r0 6), .inl (cI, 125, .inl A_0_6_powers)), ((r0 14), .inl (cI, 25, .inl A_0_14_whole)), ((r0 15), .inl (cI, 25, .inl A_0_15_direct))] H locs → lv_has ls 5 [(3, .int x3)] → W p l e rm_X12_checked s m args below meth c H locs 0 0 Q (F0 m 115 ls []) := by
    intro x3 A_0_6_powers A_0_14_whole A_0_15_direct H locs ls h hM hl
    unfold jn_X12_checked_115 at h
    refine lv_iload_n hx hb dX12_checked_115 rfl (lv_at hl 0 rfl) ?_
    refine lv_if_eq (tgt := 123) hx hb dX12_checked_116 (by decide) (fun hq => ?_) (fun hq => ?_)
    · have h := h.1 hq
      refine lv_iconst (v := (0 : Int32)) hx hb dX12_checked_123 (by decide) ?_
      subst hsz; subst hA; subst hQ
      exact m_iret C0 hr hM (A_0_6_powers, A_0_14_whole, A_0_15_direct) h rfl dX12_checked_124
    · have h := h.2 hq
      refine lv_iconst (v := (1 : Int32)) hx hb dX12_checked_119 (by decide) ?_
      refine lv_goto (tgt := 124) hx hb dX12_checked_120 (by decide) ?_
      subst hsz; subst hA; subst hQ
      exact m_iret C0 hr hM (A_0_6_powers, A_0_14_whole, A_0_15_direct) h rfl dX12_checked_124
  have lq64 : ∀ (k64 : Nat) (x2 : Int32) (x3 : Int32) (x4 : Int32) (A_0_6_powers : (Nat → Int32)) (A_0_14_whole : (Nat → Int32)) (A_0_15_direct : (Nat → Int32)) (H : Heap) (locs : List Loc) (ls : Array Slot) , lp_X12_checked_64 x1 I_0_isFound I_0_foundB A_0_0_f A_0_1_operator A_0_5_b (jn_X12_checked_115 x1 I_0_isFound I_0_foundB A_0_0_f A_0_1_operator A_0_5_b K) K k64 x2 x3 x4 A_0_6_powers A_0_14_whole A_0_15_direct → MW D A s.heap [(h0, .inr (11, oX12 r0 I_0_isFound I_0_foundB I_0_changes I_0_taped I_0_size I_0_at I_0_signs I_0_wanted I_0_sign I_0_isKept I_0_keptFound I_0_keptB I_0_keptChanges)), ((r0 0), .inl (cI, 5, .inl A_0_0_f)), ((r0 1), .inl (cI, 75, .inl A_0_1_operator)), ((r0 5), .inl (cI, 9, .inl A_0_5_b)), ((r0 6), .inl (cI, 125, .inl A_0_6_powers)), ((r0 14), .inl (cI, 25, .inl A_0_14_whole)), ((r0 15), .inl (cI, 25, .inl A_0_15_direct))] H locs → lv_has ls 5 [(0, .ref h0), (1, .int x1), (2, .int x2), (3, .int x3), (4, .int x4)] → W p l e rm_X12_checked s m args below meth c H locs 0 0 Q (F0 m 64 ls []) := by
    intro k64
    induction k64 with
    | zero =>
      intro x2 x3 x4 A_0_6_powers A_0_14_whole A_0_15_direct H locs ls h
      unfold lp_X12_checked_64 at h
      exact h.elim
    | succ k64 ih64 =>
      have jq108 : ∀ (x2 : Int32) (x4 : Int32) (s0 : Int32) (A_0_6_powers : (Nat → Int32)) (A_0_14_whole : (Nat → Int32)) (A_0_15_direct : (Nat → Int32)) (H : Heap) (locs : List Loc) (ls : Array Slot) , jn_X12_checked_108 x1 I_0_isFound I_0_foundB A_0_0_f A_0_1_operator A_0_5_b (fun x2 x3 x4 A_0_6_powers A_0_14_whole A_0_15_direct => lp_X12_checked_64 x1 I_0_isFound I_0_foundB A_0_0_f A_0_1_operator A_0_5_b (jn_X12_checked_115 x1 I_0_isFound I_0_foundB A_0_0_f A_0_1_operator A_0_5_b K) K k64 x2 x3 x4 A_0_6_powers A_0_14_whole A_0_15_direct) (jn_X12_checked_115 x1 I_0_isFound I_0_foundB A_0_0_f A_0_1_operator A_0_5_b K) K x2 x4 s0 A_0_6_powers A_0_14_whole A_0_15_direct → MW D A s.heap [(h0, .inr (11, oX12 r0 I_0_isFound I_0_foundB I_0_changes I_0_taped I_0_size I_0_at I_0_signs I_0_wanted I_0_sign I_0_isKept I_0_keptFound I_0_keptB I_0_keptChanges)), ((r0 0), .inl (cI, 5, .inl A_0_0_f)), ((r0 1), .inl (cI, 75, .inl A_0_1_operator)), ((r0 5), .inl (cI, 9, .inl A_0_5_b)), ((r0 6), .inl (cI, 125, .inl A_0_6_powers)), ((r0 14), .inl (cI, 25, .inl A_0_14_whole)), ((r0 15), .inl (cI, 25, .inl A_0_15_direct))] H locs → lv_has ls 5 [(0, .ref h0), (1, .int x1), (2, .int x2), (4, .int x4)] → W p l e rm_X12_checked s m args below meth c H locs 0 0 Q (F0 m 108 ls [.int s0]) := by
        intro x2 x4 s0 A_0_6_powers A_0_14_whole A_0_15_direct H locs ls h hM hl
        unfold jn_X12_checked_108 at h
        refine lv_istore_n (lv' := [(3, .int s0), (0, .ref h0), (1, .int x1), (2, .int x2), (4, .int x4)]) hx hb dX12_checked_108 rfl hl (by decide) rfl (fun ls hl => ?_)
        refine lv_iinc (v := (x4 + (1 : Int32))) (lv' := [(4, .int (x4 + (1 : Int32))), (3, .int s0), (0, .ref h0), (1, .int x1), (2, .int x2)]) hx hb dX12_checked_109 hl (k := 4) rfl rfl (by decide) rfl (fun ls hl => ?_)
        refine lv_goto (tgt := 64) hx hb dX12_checked_112 (by decide) ?_
        exact ih64 _ _ _ _ _ _ _ _ _ h hM (lv_sub hl [2, 3, 4, 1, 0] rfl)
      have jq107 : ∀ (x2 : Int32) (x4 : Int32) (A_0_6_powers : (Nat → Int32)) (A_0_14_whole : (Nat → Int32)) (A_0_15_direct : (Nat → Int32)) (H : Heap) (locs : List Loc) (ls : Array Slot) , jn_X12_checked_107 x1 I_0_isFound I_0_foundB A_0_0_f A_0_1_operator A_0_5_b (fun x2 x3 x4 A_0_6_powers A_0_14_whole A_0_15_direct => lp_X12_checked_64 x1 I_0_isFound I_0_foundB A_0_0_f A_0_1_operator A_0_5_b (jn_X12_checked_115 x1 I_0_isFound I_0_foundB A_0_0_f A_0_1_operator A_0_5_b K) K k64 x2 x3 x4 A_0_6_powers A_0_14_whole A_0_15_direct) (jn_X12_checked_115 x1 I_0_isFound I_0_foundB A_0_0_f A_0_1_operator A_0_5_b K) K x2 x4 A_0_6_powers A_0_14_whole A_0_15_direct → MW D A s.heap [(h0, .inr (11, oX12 r0 I_0_isFound I_0_foundB I_0_changes I_0_taped I_0_size I_0_at I_0_signs I_0_wanted I_0_sign I_0_isKept I_0_keptFound I_0_keptB I_0_keptChanges)), ((r0 0), .inl (cI, 5, .inl A_0_0_f)), ((r0 1), .inl (cI, 75, .inl A_0_1_operator)), ((r0 5), .inl (cI, 9, .inl A_0_5_b)), ((r0 6), .inl (cI, 125, .inl A_0_6_powers)), ((r0 14), .inl (cI, 25, .inl A_0_14_whole)), ((r0 15), .inl (cI, 25, .inl A_0_15_direct))] H locs → lv_has ls 5 [(0, .ref h0), (1, .int x1), (2, .int x2), (4, .int x4)] → W p l e rm_X12_checked s m args below meth c H locs 0 0 Q (F0 m 107 ls []) := by
        intro x2 x4 A_0_6_powers A_0_14_whole A_0_15_direct H locs ls h hM hl
        unfold jn_X12_checked_107 at h
        refine lv_iconst (v := (0 : Int32)) hx hb dX12_checked_107 (by decide) ?_
        exact jq108 _ _ _ _ _ _ _ _ _ h hM (lv_sub hl [0, 1, 2, 3] rfl)
      intro x2 x3 x4 A_0_6_powers A_0_14_whole A_0_15_direct H locs ls h hM hl
      unfold lp_X12_checked_64 at h
      refine lv_iload hx hb dX12_checked_64 (lv_at hl 4 rfl) ?_
      refine lv_bipush (v := (25 : Int32)) hx hb dX12_checked_66 (by decide) ?_
      refine lv_icmp_ge (tgt := 115) hx hb dX12_checked_68 (by decide) (fun hq => ?_) (fun hq => ?_)
      · have h := h.1 hq
        exact jq115 _ _ _ _ _ _ _ h hM (lv_sub hl [3] rfl)
      · have h := h.2 hq
        refine lv_iload_n hx hb dX12_checked_71 rfl (lv_at hl 3 rfl) ?_
        refine lv_if_eq (tgt := 107) hx hb dX12_checked_72 (by decide) (fun hq => ?_) (fun hq => ?_)
        · have h := h.1 hq
          exact jq107 _ _ _ _ _ _ _ _ h hM (lv_sub hl [0, 1, 2, 4] rfl)
        · have h := h.2 hq
          refine lv_aload_n hx hb dX12_checked_75 rfl (lv_at hl 0 rfl) ?_
          refine m_get (C := RX12) (T := TX12) (N := 45) (ci := 11) (ref := "LoweredPowersModel") (v := .ref (r0 15)) C0 hM 0 rfl rfl kt_X12_checked_X12 15 (by decide) kw_X12_checked_4 rfl rfl dX12_checked_76 ?_
          refine lv_iload hx hb dX12_checked_79 (lv_at hl 4 rfl) ?_
          obtain ⟨hc1, h⟩ := h
          refine m_iald C0 hM 6 rfl hc1 dX12_checked_81 ?_
          refine lv_iload_n hx hb dX12_checked_82 rfl (lv_at hl 2 rfl) ?_
          refine lv_aload_n hx hb dX12_checked_83 rfl (lv_at hl 0 rfl) ?_
          refine m_get (C := RX12) (T := TX12) (N := 45) (ci := 11) (ref := "LoweredPowersModel") (v := .ref (r0 6)) C0 hM 0 rfl rfl kt_X12_checked_X12 6 (by decide) kw_X12_checked_5 rfl rfl dX12_checked_84 ?_
          refine lv_bipush (v := (25 : Int32)) hx hb dX12_checked_87 (by decide) ?_
          refine lv_iload_n hx hb dX12_checked_89 rfl (lv_at hl 1 rfl) ?_
          refine lv_imul hx hb dX12_checked_90 ?_
          refine lv_iload hx hb dX12_checked_91 (lv_at hl 4 rfl) ?_
          refine lv_iadd hx hb dX12_checked_93 ?_
          obtain ⟨hc2, h⟩ := h
          refine m_iald C0 hM 4 rfl hc2 dX12_checked_94 ?_
          refine lv_imul hx hb dX12_checked_95 ?_
          refine lv_sipush (v := (10007 : Int32)) hx hb dX12_checked_96 (by decide) ?_
          refine lv_irem hx hb dX12_checked_99 (by decide) ?_
          refine lv_topi (fun y3 ey3 => ?_)
          have h := h y3 ey3
          refine lv_icmp_ne (tgt := 107) hx hb dX12_checked_100 (by decide) (fun hq => ?_) (fun hq => ?_)
          · have h := h.1 hq
            exact jq107 _ _ _ _ _ _ _ _ h hM (lv_sub hl [0, 1, 2, 4] rfl)
          · have h := h.2 hq
            refine lv_iconst (v := (1 : Int32)) hx hb dX12_checked_103 (by decide) ?_
            refine lv_goto (tgt := 108) hx hb dX12_checked_104 (by decide) ?_
            exact jq108 _ _ _ _ _ _ _ _ _ h hM (lv_sub hl [0, 1, 2, 4] rfl)
  have jq59 : ∀ (x2 : Int32) (A_0_6_powers : (Nat → Int32)) (A_0_14_whole : (Nat → Int32)) (A_0_15_direct : (Nat → Int32)) (H : Heap) (locs : List Loc) (ls : Array Slot) , jn_X12_checked_59 x1 I_0_isFound I_0_foundB A_0_0_f A_0_1_operator A_0_5_b K x2 A_0_6_powers A_0_14_whole A_0_15_direct → MW D A s.heap [(h0, .inr (11, oX12 r0 I_0_isFound I_0_foundB I_0_changes I_0_taped I_0_size I_0_at I_0_signs I_0_wanted I_0_sign I_0_isKept I_0_keptFound I_0_keptB I_0_keptChanges)), ((r0 0), .inl (cI, 5, .inl A_0_0_f)), ((r0 1), .inl (cI, 75, .inl A_0_1_operator)), ((r0 5), .inl (cI, 9, .inl A_0_5_b)), ((r0 6), .inl (cI, 125, .inl A_0_6_powers)), ((r0 14), .inl (cI, 25, .inl A_0_14_whole)), ((r0 15), .inl (cI, 25, .inl A_0_15_direct))] H locs → lv_has ls 5 [(0, .ref h0), (1, .int x1), (2, .int x2)] → W p l e rm_X12_checked s m args below meth c H locs 0 0 Q (F0 m 59 ls []) := by
    intro x2 A_0_6_powers A_0_14_whole A_0_15_direct H locs ls h hM hl
    unfold jn_X12_checked_59 at h
    refine lv_iconst (v := (1 : Int32)) hx hb dX12_checked_59 (by decide) ?_
    refine lv_istore_n (lv' := [(3, .int (1 : Int32)), (0, .ref h0), (1, .int x1), (2, .int x2)]) hx hb dX12_checked_60 rfl hl (by decide) rfl (fun ls hl => ?_)
    refine lv_iconst (v := (0 : Int32)) hx hb dX12_checked_61 (by decide) ?_
    refine lv_istore (lv' := [(4, .int (0 : Int32)), (3, .int (1 : Int32)), (0, .ref h0), (1, .int x1), (2, .int x2)]) hx hb dX12_checked_62 hl (by decide) rfl (fun ls hl => ?_)
    obtain ⟨k0, h⟩ := h
    exact lq64 k0 _ _ _ _ _ _ _ _ _ h hM (lv_sub hl [2, 3, 4, 1, 0] rfl)
  have lq34 : ∀ (k34 : Nat) (x2 : Int32) (x3 : Int32) (A_0_6_powers : (Nat → Int32)) (A_0_14_whole : (Nat → Int32)) (A_0_15_direct : (Nat → Int32)) (H : Heap) (locs : List Loc) (ls : Array Slot) , lp_X12_checked_34 x1 I_0_isFound I_0_foundB A_0_0_f A_0_1_operator A_0_5_b (jn_X12_checked_59 x1 I_0_isFound I_0_foundB A_0_0_f A_0_1_operator A_0_5_b K) K k34 x2 x3 A_0_6_powers A_0_14_whole A_0_15_direct → MW D A s.heap [(h0, .inr (11, oX12 r0 I_0_isFound I_0_foundB I_0_changes I_0_taped I_0_size I_0_at I_0_signs I_0_wanted I_0_sign I_0_isKept I_0_keptFound I_0_keptB I_0_keptChanges)), ((r0 0), .inl (cI, 5, .inl A_0_0_f)), ((r0 1), .inl (cI, 75, .inl A_0_1_operator)), ((r0 5), .inl (cI, 9, .inl A_0_5_b)), ((r0 6), .inl (cI, 125, .inl A_0_6_powers)), ((r0 14), .inl (cI, 25, .inl A_0_14_whole)), ((r0 15), .inl (cI, 25, .inl A_0_15_direct))] H locs → lv_has ls 5 [(0, .ref h0), (1, .int x1), (2, .int x2), (3, .int x3)] → W p l e rm_X12_checked s m args below meth c H locs 0 0 Q (F0 m 34 ls []) := by
    intro k34
    induction k34 with
    | zero =>
      intro x2 x3 A_0_6_powers A_0_14_whole A_0_15_direct H locs ls h
      unfold lp_X12_checked_34 at h
      exact h.elim
    | succ k34 ih34 =>
      intro x2 x3 A_0_6_powers A_0_14_whole A_0_15_direct H locs ls h hM hl
      unfold lp_X12_checked_34 at h
      refine lv_iload_n hx hb dX12_checked_34 rfl (lv_at hl 3 rfl) ?_
      refine lv_if_lt (tgt := 59) hx hb dX12_checked_35 (by decide) (fun hq => ?_) (fun hq => ?_)
      · have h := h.1 hq
        exact jq59 _ _ _ _ _ _ _ h hM (lv_sub hl [0, 1, 2] rfl)
      · have h := h.2 hq
        refine lv_iload_n hx hb dX12_checked_38 rfl (lv_at hl 2 rfl) ?_
        refine lv_iload_n hx hb dX12_checked_39 rfl (lv_at hl 1 rfl) ?_
        refine lv_imul hx hb dX12_checked_40 ?_
        refine lv_aload_n hx hb dX12_checked_41 rfl (lv_at hl 0 rfl) ?_
        refine m_get (C := RX12) (T := TX12) (N := 45) (ci := 11) (ref := "LoweredPowersModel") (v := .ref (r0 5)) C0 hM 0 rfl rfl kt_X12_checked_X12 5 (by decide) kw_X12_checked_3 rfl rfl dX12_checked_42 ?_
        refine lv_iload_n hx hb dX12_checked_45 rfl (lv_at hl 3 rfl) ?_
        obtain ⟨hc4, h⟩ := h
        refine m_iald C0 hM 3 rfl hc4 dX12_checked_46 ?_
        refine lv_iadd hx hb dX12_checked_47 ?_
        refine lv_sipush (v := (10007 : Int32)) hx hb dX12_checked_48 (by decide) ?_
        refine lv_irem hx hb dX12_checked_51 (by decide) ?_
        refine lv_topi (fun y5 ey5 => ?_)
        have h := h y5 ey5
        refine lv_istore_n (lv' := [(2, .int y5), (0, .ref h0), (1, .int x1), (3, .int x3)]) hx hb dX12_checked_52 rfl hl (by decide) rfl (fun ls hl => ?_)
        refine lv_iinc (v := (x3 + (-1 : Int32))) (lv' := [(3, .int (x3 + (-1 : Int32))), (2, .int y5), (0, .ref h0), (1, .int x1)]) hx hb dX12_checked_53 hl (k := 3) rfl rfl (by decide) rfl (fun ls hl => ?_)
        refine lv_goto (tgt := 34) hx hb dX12_checked_56 (by decide) ?_
        exact ih34 _ _ _ _ _ _ _ _ h hM (lv_sub hl [2, 3, 1, 0] rfl)
  unfold wp_X12_checked at h
  refine lv_iload_n hx hb dX12_checked_0 rfl (lv_at hl 1 rfl) ?_
  refine lv_iconst (v := (0 : Int32)) hx hb dX12_checked_1 (by decide) ?_
  refine lv_iconst (v := (3 : Int32)) hx hb dX12_checked_2 (by decide) ?_
  refine m_calli (wc := []) C0 hM [] rfl (m_runS (wc := []) (As := [.int x1, .int (0 : Int32), .int (3 : Int32)]) (rest := []) C0 hM (ct_X12_isIn l D cI cJ cZ x1 (0 : Int32) (3 : Int32) _ _ h) [] rfl (by decide) gX12_checked_X12_isIn rfl rfl rfl hd_X12_isIn ⟨Nat.le_of_ble_eq_true rfl, Nat.le_of_ble_eq_true rfl⟩ rfl hl.1 rfl (Nat.le_of_ble_eq_true rfl) dX12_checked_3 ⟨Nat.le_of_ble_eq_true rfl, Nat.le_of_ble_eq_true rfl⟩) (fun _ => [(h0, .inr (11, oX12 r0 I_0_isFound I_0_foundB I_0_changes I_0_taped I_0_size I_0_at I_0_signs I_0_wanted I_0_sign I_0_isKept I_0_keptFound I_0_keptB I_0_keptChanges)), ((r0 0), .inl (cI, 5, .inl A_0_0_f)), ((r0 1), .inl (cI, 75, .inl A_0_1_operator)), ((r0 5), .inl (cI, 9, .inl A_0_5_b)), ((r0 6), .inl (cI, 125, .inl A_0_6_powers)), ((r0 14), .inl (cI, 25, .inl A_0_14_whole)), ((r0 15), .inl (cI, 25, .inl A_0_15_direct))]) (fun _ => rfl) (fun _ => rfl) (fun y6 _ H locs h hM => ?_)
  refine lv_if_ne (tgt := 12) hx hb dX12_checked_6 (by decide) (fun hq => ?_) (fun hq => ?_)
  · have h := h.1 hq
    refine lv_aload_n hx hb dX12_checked_12 rfl (lv_at hl 0 rfl) ?_
    refine m_get (C := RX12) (T := TX12) (N := 45) (ci := 11) (ref := "LoweredPowersModel") (v := .int I_0_isFound) C0 hM 0 rfl rfl kt_X12_checked_X12 2 (by decide) kw_X12_checked_1 rfl rfl dX12_checked_13 ?_
    refine lv_if_ne (tgt := 22) hx hb dX12_checked_16 (by decide) (fun hq => ?_) (fun hq => ?_)
    · have h := h.1 hq
      refine lv_aload_n hx hb dX12_checked_22 rfl (lv_at hl 0 rfl) ?_
      refine lv_iload_n hx hb dX12_checked_23 rfl (lv_at hl 1 rfl) ?_
      refine m_callv (wc := [(h0, .inr (11, oX12 r0 I_0_isFound I_0_foundB I_0_changes I_0_taped I_0_size I_0_at I_0_signs I_0_wanted I_0_sign I_0_isKept I_0_keptFound I_0_keptB I_0_keptChanges)), ((r0 0), .inl (cI, 5, .inl A_0_0_f)), ((r0 1), .inl (cI, 75, .inl A_0_1_operator)), ((r0 6), .inl (cI, 125, .inl A_0_6_powers)), ((r0 14), .inl (cI, 25, .inl A_0_14_whole)), ((r0 15), .inl (cI, 25, .inl A_0_15_direct))]) C0 hM [0, 1, 2, 4, 5, 6] rfl (m_runV (wc := [(h0, .inr (11, oX12 r0 I_0_isFound I_0_foundB I_0_changes I_0_taped I_0_size I_0_at I_0_signs I_0_wanted I_0_sign I_0_isKept I_0_keptFound I_0_keptB I_0_keptChanges)), ((r0 0), .inl (cI, 5, .inl A_0_0_f)), ((r0 1), .inl (cI, 75, .inl A_0_1_operator)), ((r0 6), .inl (cI, 125, .inl A_0_6_powers)), ((r0 14), .inl (cI, 25, .inl A_0_14_whole)), ((r0 15), .inl (cI, 25, .inl A_0_15_direct))]) (As := [.int x1]) (rest := []) (ci := 11) C0 hM (ct_X12_directs l D cI cJ cZ h0 r0 I_0_isFound I_0_foundB I_0_changes I_0_taped I_0_size I_0_at I_0_signs I_0_wanted I_0_sign I_0_isKept I_0_keptFound I_0_keptB I_0_keptChanges A_0_0_f A_0_1_operator A_0_6_powers A_0_14_whole A_0_15_direct x1 _ _ h) [0, 1, 2, 4, 5, 6] rfl (by decide) gX12_checked_X12_directs rfl rfl rfl rfl rfl hd_X12_directs ⟨Nat.le_of_ble_eq_true rfl, Nat.le_of_ble_eq_true rfl⟩ rfl hl.1 rfl (Nat.le_of_ble_eq_true rfl) dX12_checked_24 ⟨Nat.le_of_ble_eq_true rfl, Nat.le_of_ble_eq_true rfl⟩) (fun u => [(h0, .inr (11, oX12 r0 I_0_isFound I_0_foundB I_0_changes I_0_taped I_0_size I_0_at I_0_signs I_0_wanted I_0_sign I_0_isKept I_0_keptFound I_0_keptB I_0_keptChanges)), ((r0 0), .inl (cI, 5, .inl A_0_0_f)), ((r0 1), .inl (cI, 75, .inl A_0_1_operator)), ((r0 5), .inl (cI, 9, .inl A_0_5_b)), ((r0 6), .inl (cI, 125, .inl u.1)), ((r0 14), .inl (cI, 25, .inl u.2.1)), ((r0 15), .inl (cI, 25, .inl u.2.2))]) (fun _ => rfl) (fun _ => rfl) (fun u H locs h hM => ?_)
      obtain ⟨b7, b8, b9⟩ := u
      dsimp only at h
      have hM : MW D A s.heap [(h0, .inr (11, oX12 r0 I_0_isFound I_0_foundB I_0_changes I_0_taped I_0_size I_0_at I_0_signs I_0_wanted I_0_sign I_0_isKept I_0_keptFound I_0_keptB I_0_keptChanges)), ((r0 0), .inl (cI, 5, .inl A_0_0_f)), ((r0 1), .inl (cI, 75, .inl A_0_1_operator)), ((r0 5), .inl (cI, 9, .inl A_0_5_b)), ((r0 6), .inl (cI, 125, .inl b7)), ((r0 14), .inl (cI, 25, .inl b8)), ((r0 15), .inl (cI, 25, .inl b9))] H locs := hM
      refine lv_iconst (v := (0 : Int32)) hx hb dX12_checked_27 (by decide) ?_
      refine lv_istore_n (lv' := [(2, .int (0 : Int32)), (0, .ref h0), (1, .int x1)]) hx hb dX12_checked_28 rfl hl (by decide) rfl (fun ls hl => ?_)
      refine lv_aload_n hx hb dX12_checked_29 rfl (lv_at hl 1 rfl) ?_
      refine m_get (C := RX12) (T := TX12) (N := 45) (ci := 11) (ref := "LoweredPowersModel") (v := .int I_0_foundB) C0 hM 0 rfl rfl kt_X12_checked_X12 3 (by decide) kw_X12_checked_2 rfl rfl dX12_checked_30 ?_
      refine lv_istore_n (lv' := [(3, .int I_0_foundB), (2, .int (0 : Int32)), (0, .ref h0), (1, .int x1)]) hx hb dX12_checked_33 rfl hl (by decide) rfl (fun ls hl => ?_)
      obtain ⟨k0, h⟩ := h
      exact lq34 k0 _ _ _ _ _ _ _ _ h hM (lv_sub hl [2, 3, 1, 0] rfl)
    · have h := h.2 hq
      refine lv_bipush (v := (-3 : Int32)) hx hb dX12_checked_19 (by decide) ?_
      subst hsz; subst hA; subst hQ
      exact m_iret C0 hr hM (A_0_6_powers, A_0_14_whole, A_0_15_direct) h rfl dX12_checked_21
  · have h := h.2 hq
    refine lv_bipush (v := (-2 : Int32)) hx hb dX12_checked_9 (by decide) ?_
    subst hsz; subst hA; subst hQ
    exact m_iret C0 hr hM (A_0_6_powers, A_0_14_whole, A_0_15_direct) h rfl dX12_checked_11
abbrev rm_X12_plan : Room := { frames := 1, cells := 0, slots := 0, locals := 22 }
set_option maxRecDepth 100000 in
set_option maxHeartbeats 4000000 in
theorem ct_X12_plan (l : Launch) (D : va_G) (cI cJ cZ : ClassId) (h0 : Nat) (r0 : Nat → Nat) (I_0_isFound : Int32) (I_0_foundB : Int32) (I_0_changes : Int32) (I_0_taped : Int32) (I_0_size : Int32) (I_0_at : Int32) (I_0_signs : Int32) (I_0_wanted : Int32) (I_0_sign : Int32) (I_0_isKept : Int32) (I_0_keptFound : Int32) (I_0_keptB : Int32) (I_0_keptChanges : Int32) (A_0_17_changeWhats : (Nat → Int32)) (A_0_18_changeVs : (Nat → Int32)) (x1 : Int32) (x2 : Int32) (sz : Nat) (K : Int32 → Int32 → (Nat → Int32) → (Nat → Int32) → Prop) (h : wp_X12_plan x1 x2 I_0_changes A_0_17_changeWhats A_0_18_changeVs K) : Met l yX12_plan wsX12_plan rm_X12_plan (va_Pc [.ref h0, .int x1, .int x2] (WX D cI cJ cZ [(h0, .inr (11, oX12 r0 I_0_isFound I_0_foundB I_0_changes I_0_taped I_0_size I_0_at I_0_signs I_0_wanted I_0_sign I_0_isKept I_0_keptFound I_0_keptB I_0_keptChanges)), ((r0 17), .inl (cI, 8, .inl A_0_17_changeWhats)), ((r0 18), .inl (cI, 8, .inl A_0_18_changeVs))] sz)) (va_Qi (fun (r : Int32) (u : Int32 × (Nat → Int32) × (Nat → Int32)) => K r u.1 u.2.1 u.2.2) (fun (u : Int32 × (Nat → Int32) × (Nat → Int32)) t => WY D (va_A [(h0, .inr (11, oX12 r0 I_0_isFound I_0_foundB I_0_changes I_0_taped I_0_size I_0_at I_0_signs I_0_wanted I_0_sign I_0_isKept I_0_keptFound I_0_keptB I_0_keptChanges)), ((r0 17), .inl (cI, 8, .inl A_0_17_changeWhats)), ((r0 18), .inl (cI, 8, .inl A_0_18_changeVs))] sz) [(h0, .inr (11, oX12 r0 I_0_isFound I_0_foundB u.1 I_0_taped I_0_size I_0_at I_0_signs I_0_wanted I_0_sign I_0_isKept I_0_keptFound I_0_keptB I_0_keptChanges)), ((r0 17), .inl (cI, 8, .inl u.2.1)), ((r0 18), .inl (cI, 8, .inl u.2.2))] t) (va_A [(h0, .inr (11, oX12 r0 I_0_isFound I_0_foundB I_0_changes I_0_taped I_0_size I_0_at I_0_signs I_0_wanted I_0_sign I_0_isKept I_0_keptFound I_0_keptB I_0_keptChanges)), ((r0 17), .inl (cI, 8, .inl A_0_17_changeWhats)), ((r0 18), .inl (cI, 8, .inl A_0_18_changeVs))] sz)) 0 0 (va_A [(h0, .inr (11, oX12 r0 I_0_isFound I_0_foundB I_0_changes I_0_taped I_0_size I_0_at I_0_signs I_0_wanted I_0_sign I_0_isKept I_0_keptFound I_0_keptB I_0_keptChanges)), ((r0 17), .inl (cI, 8, .inl A_0_17_changeWhats)), ((r0 18), .inl (cI, 8, .inl A_0_18_changeVs))] sz) := by
  refine m_met (own := RX12) (cc := cX12_plan) (maxL := 3) (ret := some .int) [.ref h0, .int x1, .int x2] [(0, .ref h0), (1, .int x1), (2, .int x2)] (by decide) rfl rfl (Nat.le_of_ble_eq_true rfl) rfl ?_
  intro p e s m args below meth c Q A hQ hA C0 hr hnm hsz hM ls hl
  have hx := C0.1
  have hb := C0.2.1
  have hown := C0.2.2.2.1
  unfold wp_X12_plan at h
  refine lv_iload_n hx hb dX12_plan_0 rfl (lv_at hl 1 rfl) ?_
  refine lv_iconst (v := (0 : Int32)) hx hb dX12_plan_1 (by decide) ?_
  refine lv_iconst (v := (4 : Int32)) hx hb dX12_plan_2 (by decide) ?_
  refine m_calli (wc := []) C0 hM [] rfl (m_runS (wc := []) (As := [.int x1, .int (0 : Int32), .int (4 : Int32)]) (rest := []) C0 hM (ct_X12_isIn l D cI cJ cZ x1 (0 : Int32) (4 : Int32) _ _ h) [] rfl (by decide) gX12_plan_X12_isIn rfl rfl rfl hd_X12_isIn ⟨Nat.le_of_ble_eq_true rfl, Nat.le_of_ble_eq_true rfl⟩ rfl hl.1 rfl (Nat.le_of_ble_eq_true rfl) dX12_plan_3 ⟨Nat.le_of_ble_eq_true rfl, Nat.le_of_ble_eq_true rfl⟩) (fun _ => [(h0, .inr (11, oX12 r0 I_0_isFound I_0_foundB I_0_changes I_0_taped I_0_size I_0_at I_0_signs I_0_wanted I_0_sign I_0_isKept I_0_keptFound I_0_keptB I_0_keptChanges)), ((r0 17), .inl (cI, 8, .inl A_0_17_changeWhats)), ((r0 18), .inl (cI, 8, .inl A_0_18_changeVs))]) (fun _ => rfl) (fun _ => rfl) (fun y1 _ H locs h hM => ?_)
  refine lv_if_ne (tgt := 11) hx hb dX12_plan_6 (by decide) (fun hq => ?_) (fun hq => ?_)
  · have h := h.1 hq
    refine lv_iload_n hx hb dX12_plan_11 rfl (lv_at hl 2 rfl) ?_
    refine lv_bipush (v := (-99 : Int32)) hx hb dX12_plan_12 (by decide) ?_
    refine lv_bipush (v := (99 : Int32)) hx hb dX12_plan_14 (by decide) ?_
    refine m_calli (wc := []) C0 hM [] rfl (m_runS (wc := []) (As := [.int x2, .int (-99 : Int32), .int (99 : Int32)]) (rest := []) C0 hM (ct_X12_isIn l D cI cJ cZ x2 (-99 : Int32) (99 : Int32) _ _ h) [] rfl (by decide) gX12_plan_X12_isIn rfl rfl rfl hd_X12_isIn ⟨Nat.le_of_ble_eq_true rfl, Nat.le_of_ble_eq_true rfl⟩ rfl hl.1 rfl (Nat.le_of_ble_eq_true rfl) dX12_plan_16 ⟨Nat.le_of_ble_eq_true rfl, Nat.le_of_ble_eq_true rfl⟩) (fun _ => [(h0, .inr (11, oX12 r0 I_0_isFound I_0_foundB I_0_changes I_0_taped I_0_size I_0_at I_0_signs I_0_wanted I_0_sign I_0_isKept I_0_keptFound I_0_keptB I_0_keptChanges)), ((r0 17), .inl (cI, 8, .inl A_0_17_changeWhats)), ((r0 18), .inl (cI, 8, .inl A_0_18_changeVs))]) (fun _ => rfl) (fun _ => rfl) (fun y2 _ H locs h hM => ?_)
    refine lv_if_ne (tgt := 25) hx hb dX12_plan_19 (by decide) (fun hq => ?_) (fun hq => ?_)
    · have h := h.1 hq
      refine lv_aload_n hx hb dX12_plan_25 rfl (lv_at hl 0 rfl) ?_
      refine m_get (C := RX12) (T := TX12) (N := 45) (ci := 11) (ref := "LoweredPowersModel") (v := .int I_0_changes) C0 hM 0 rfl rfl kt_X12_plan_X12 16 (by decide) kw_X12_plan_1 rfl rfl dX12_plan_26 ?_
      refine lv_bipush (v := (8 : Int32)) hx hb dX12_plan_29 (by decide) ?_
      refine lv_icmp_ne (tgt := 37) hx hb dX12_plan_31 (by decide) (fun hq => ?_) (fun hq => ?_)
      · have h := h.1 hq
        refine lv_aload_n hx hb dX12_plan_37 rfl (lv_at hl 0 rfl) ?_
        refine m_get (C := RX12) (T := TX12) (N := 45) (ci := 11) (ref := "LoweredPowersModel") (v := .ref (r0 17)) C0 hM 0 rfl rfl kt_X12_plan_X12 17 (by decide) kw_X12_plan_2 rfl rfl dX12_plan_38 ?_
        refine lv_aload_n hx hb dX12_plan_41 rfl (lv_at hl 0 rfl) ?_
        refine m_get (C := RX12) (T := TX12) (N := 45) (ci := 11) (ref := "LoweredPowersModel") (v := .int I_0_changes) C0 hM 0 rfl rfl kt_X12_plan_X12 16 (by decide) kw_X12_plan_1 rfl rfl dX12_plan_42 ?_
        refine lv_iload_n hx hb dX12_plan_45 rfl (lv_at hl 1 rfl) ?_
        obtain ⟨hc3, h⟩ := h
        refine m_iast (ws' := [(h0, .inr (11, oX12 r0 I_0_isFound I_0_foundB I_0_changes I_0_taped I_0_size I_0_at I_0_signs I_0_wanted I_0_sign I_0_isKept I_0_keptFound I_0_keptB I_0_keptChanges)), ((r0 17), .inl (cI, 8, .inl (upd A_0_17_changeWhats (I_0_changes).toNatClampNeg x1))), ((r0 18), .inl (cI, 8, .inl A_0_18_changeVs))]) C0 hM 1 rfl hc3 rfl dX12_plan_46 (fun H locs hM => ?_)
        refine lv_aload_n hx hb dX12_plan_47 rfl (lv_at hl 0 rfl) ?_
        refine m_get (C := RX12) (T := TX12) (N := 45) (ci := 11) (ref := "LoweredPowersModel") (v := .ref (r0 18)) C0 hM 0 rfl rfl kt_X12_plan_X12 18 (by decide) kw_X12_plan_3 rfl rfl dX12_plan_48 ?_
        refine lv_aload_n hx hb dX12_plan_51 rfl (lv_at hl 0 rfl) ?_
        refine m_get (C := RX12) (T := TX12) (N := 45) (ci := 11) (ref := "LoweredPowersModel") (v := .int I_0_changes) C0 hM 0 rfl rfl kt_X12_plan_X12 16 (by decide) kw_X12_plan_1 rfl rfl dX12_plan_52 ?_
        refine lv_iload_n hx hb dX12_plan_55 rfl (lv_at hl 2 rfl) ?_
        refine m_iast (ws' := [(h0, .inr (11, oX12 r0 I_0_isFound I_0_foundB I_0_changes I_0_taped I_0_size I_0_at I_0_signs I_0_wanted I_0_sign I_0_isKept I_0_keptFound I_0_keptB I_0_keptChanges)), ((r0 17), .inl (cI, 8, .inl (upd A_0_17_changeWhats (I_0_changes).toNatClampNeg x1))), ((r0 18), .inl (cI, 8, .inl (upd A_0_18_changeVs (I_0_changes).toNatClampNeg x2)))]) C0 hM 2 rfl hc3 rfl dX12_plan_56 (fun H locs hM => ?_)
        refine lv_aload_n hx hb dX12_plan_57 rfl (lv_at hl 0 rfl) ?_
        refine lv_dup hx hb dX12_plan_58 rfl ?_
        refine m_get (C := RX12) (T := TX12) (N := 45) (ci := 11) (ref := "LoweredPowersModel") (v := .int I_0_changes) C0 hM 0 rfl rfl kt_X12_plan_X12 16 (by decide) kw_X12_plan_1 rfl rfl dX12_plan_59 ?_
        refine lv_iconst (v := (1 : Int32)) hx hb dX12_plan_62 (by decide) ?_
        refine lv_iadd hx hb dX12_plan_63 ?_
        refine lv_topi (fun y4 ey4 => ?_)
        have h := h y4 ey4
        refine m_put (ws' := [(h0, .inr (11, oX12 r0 I_0_isFound I_0_foundB y4 I_0_taped I_0_size I_0_at I_0_signs I_0_wanted I_0_sign I_0_isKept I_0_keptFound I_0_keptB I_0_keptChanges)), ((r0 17), .inl (cI, 8, .inl (upd A_0_17_changeWhats (I_0_changes).toNatClampNeg x1))), ((r0 18), .inl (cI, 8, .inl (upd A_0_18_changeVs (I_0_changes).toNatClampNeg x2)))]) (C := RX12) (T := TX12) (N := 45) (ci := 11) (ref := "LoweredPowersModel") (v := .int y4) C0 hM 0 rfl rfl kt_X12_plan_X12 tyX12 tyX12_ok nmX12 16 (by decide) kw_X12_plan_1 rfl rfl rfl rfl (Nat.le_of_ble_eq_true rfl) rfl dX12_plan_64 (fun H locs hM => ?_)
        refine lv_aload_n hx hb dX12_plan_67 rfl (lv_at hl 0 rfl) ?_
        refine m_get (C := RX12) (T := TX12) (N := 45) (ci := 11) (ref := "LoweredPowersModel") (v := .int y4) C0 hM 0 rfl rfl kt_X12_plan_X12 16 (by decide) kw_X12_plan_1 rfl rfl dX12_plan_68 ?_
        subst hsz; subst hA; subst hQ
        exact m_iret C0 hr hM (y4, (upd A_0_17_changeWhats (I_0_changes).toNatClampNeg x1), (upd A_0_18_changeVs (I_0_changes).toNatClampNeg x2)) h rfl dX12_plan_71
      · have h := h.2 hq
        refine lv_bipush (v := (-4 : Int32)) hx hb dX12_plan_34 (by decide) ?_
        subst hsz; subst hA; subst hQ
        exact m_iret C0 hr hM (I_0_changes, A_0_17_changeWhats, A_0_18_changeVs) h rfl dX12_plan_36
    · have h := h.2 hq
      refine lv_bipush (v := (-2 : Int32)) hx hb dX12_plan_22 (by decide) ?_
      subst hsz; subst hA; subst hQ
      exact m_iret C0 hr hM (I_0_changes, A_0_17_changeWhats, A_0_18_changeVs) h rfl dX12_plan_24
  · have h := h.2 hq
    refine lv_iconst (v := (-1 : Int32)) hx hb dX12_plan_9 (by decide) ?_
    subst hsz; subst hA; subst hQ
    exact m_iret C0 hr hM (I_0_changes, A_0_17_changeWhats, A_0_18_changeVs) h rfl dX12_plan_10
abbrev rm_X12_unplan : Room := { frames := 0, cells := 0, slots := 0, locals := 0 }
set_option maxRecDepth 100000 in
set_option maxHeartbeats 4000000 in
theorem ct_X12_unplan (l : Launch) (D : va_G) (cI cJ cZ : ClassId) (h0 : Nat) (r0 : Nat → Nat) (I_0_isFound : Int32) (I_0_foundB : Int32) (I_0_changes : Int32) (I_0_taped : Int32) (I_0_size : Int32) (I_0_at : Int32) (I_0_signs : Int32) (I_0_wanted : Int32) (I_0_sign : Int32) (I_0_isKept : Int32) (I_0_keptFound : Int32) (I_0_keptB : Int32) (I_0_keptChanges : Int32) (sz : Nat) (K : Int32 → Int32 → Prop) (h : wp_X12_unplan I_0_changes K) : Met l yX12_unplan wsX12_unplan rm_X12_unplan (va_Pc [.ref h0] (WX D cI cJ cZ [(h0, .inr (11, oX12 r0 I_0_isFound I_0_foundB I_0_changes I_0_taped I_0_size I_0_at I_0_signs I_0_wanted I_0_sign I_0_isKept I_0_keptFound I_0_keptB I_0_keptChanges))] sz)) (va_Qi (fun (r : Int32) (u : Int32) => K r u) (fun (u : Int32) t => WY D (va_A [(h0, .inr (11, oX12 r0 I_0_isFound I_0_foundB I_0_changes I_0_taped I_0_size I_0_at I_0_signs I_0_wanted I_0_sign I_0_isKept I_0_keptFound I_0_keptB I_0_keptChanges))] sz) [(h0, .inr (11, oX12 r0 I_0_isFound I_0_foundB u I_0_taped I_0_size I_0_at I_0_signs I_0_wanted I_0_sign I_0_isKept I_0_keptFound I_0_keptB I_0_keptChanges))] t) (va_A [(h0, .inr (11, oX12 r0 I_0_isFound I_0_foundB I_0_changes I_0_taped I_0_size I_0_at I_0_signs I_0_wanted I_0_sign I_0_isKept I_0_keptFound I_0_keptB I_0_keptChanges))] sz)) 0 0 (va_A [(h0, .inr (11, oX12 r0 I_0_isFound I_0_foundB I_0_changes I_0_taped I_0_size I_0_at I_0_signs I_0_wanted I_0_sign I_0_isKept I_0_keptFound I_0_keptB I_0_keptChanges))] sz) := by
  refine m_met (own := RX12) (cc := cX12_unplan) (maxL := 2) (ret := some .int) [.ref h0] [(0, .ref h0)] (by decide) rfl rfl (Nat.le_of_ble_eq_true rfl) rfl ?_
  intro p e s m args below meth c Q A hQ hA C0 hr hnm hsz hM ls hl
  have hx := C0.1
  have hb := C0.2.1
  have hown := C0.2.2.2.1
  unfold wp_X12_unplan at h
  refine lv_aload_n hx hb dX12_unplan_0 rfl (lv_at hl 0 rfl) ?_
  refine m_get (C := RX12) (T := TX12) (N := 45) (ci := 11) (ref := "LoweredPowersModel") (v := .int I_0_changes) C0 hM 0 rfl rfl kt_X12_unplan_X12 16 (by decide) kw_X12_unplan_1 rfl rfl dX12_unplan_1 ?_
  refine lv_istore_n (lv' := [(1, .int I_0_changes), (0, .ref h0)]) hx hb dX12_unplan_4 rfl hl (by decide) rfl (fun ls hl => ?_)
  refine lv_aload_n hx hb dX12_unplan_5 rfl (lv_at hl 1 rfl) ?_
  refine lv_iconst (v := (0 : Int32)) hx hb dX12_unplan_6 (by decide) ?_
  refine m_put (ws' := [(h0, .inr (11, oX12 r0 I_0_isFound I_0_foundB (0 : Int32) I_0_taped I_0_size I_0_at I_0_signs I_0_wanted I_0_sign I_0_isKept I_0_keptFound I_0_keptB I_0_keptChanges))]) (C := RX12) (T := TX12) (N := 45) (ci := 11) (ref := "LoweredPowersModel") (v := .int (0 : Int32)) C0 hM 0 rfl rfl kt_X12_unplan_X12 tyX12 tyX12_ok nmX12 16 (by decide) kw_X12_unplan_1 rfl rfl rfl rfl (Nat.le_of_ble_eq_true rfl) rfl dX12_unplan_7 (fun H locs hM => ?_)
  refine lv_iload_n hx hb dX12_unplan_10 rfl (lv_at hl 0 rfl) ?_
  subst hsz; subst hA; subst hQ
  exact m_iret C0 hr hM (0 : Int32) h rfl dX12_unplan_11
