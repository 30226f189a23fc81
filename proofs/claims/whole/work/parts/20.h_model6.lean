theorem hd_X12_judge : yX12_judge.cls = RX12 ∧ yX12_judge.cls ≠ "java/lang/invoke/MethodHandle" ∧ yX12_judge.cls ≠ "java/lang/invoke/VarHandle" ∧ (parseMethodDescriptor yX12_judge.desc).map (fun d => d.parameters.length) = some 1 := by decide +kernel
theorem hd_X12_image : yX12_image.cls = RX12 ∧ yX12_image.cls ≠ "java/lang/invoke/MethodHandle" ∧ yX12_image.cls ≠ "java/lang/invoke/VarHandle" ∧ (parseMethodDescriptor yX12_image.desc).map (fun d => d.parameters.length) = some 0 := by decide +kernel
theorem hd_X12_undo : yX12_undo.cls = RX12 ∧ yX12_undo.cls ≠ "java/lang/invoke/MethodHandle" ∧ yX12_undo.cls ≠ "java/lang/invoke/VarHandle" ∧ (parseMethodDescriptor yX12_undo.desc).map (fun d => d.parameters.length) = some 0 := by decide +kernel
theorem hd_X12_count : yX12_count.cls = RX12 ∧ yX12_count.cls ≠ "java/lang/invoke/MethodHandle" ∧ yX12_count.cls ≠ "java/lang/invoke/VarHandle" ∧ (parseMethodDescriptor yX12_count.desc).map (fun d => d.parameters.length) = some 1 := by decide +kernel
theorem kt_X12_count_X12 : ∀ w ∈ u_ws RX12 TX12 45, w ∈ wsX12_count := fun _ h => List.mem_cons_of_mem _ (List.mem_append_right _ (h))
theorem kt_X12_image_X12 : ∀ w ∈ u_ws RX12 TX12 45, w ∈ wsX12_image := fun _ h => List.mem_cons_of_mem _ (List.mem_append_right _ (h))
theorem kt_X12_judge_X12 : ∀ w ∈ u_ws RX12 TX12 45, w ∈ wsX12_judge := fun _ h => List.mem_cons_of_mem _ (List.mem_append_right _ (h))
theorem kt_X12_undo_X12 : ∀ w ∈ u_ws RX12 TX12 45, w ∈ wsX12_undo := fun _ h => List.mem_cons_of_mem _ (List.mem_append_right _ (h))
theorem kw_X12_judge_1 : Cond.fieldLink RX12 85 "LoweredPowersModel" "sizes" "[I" ∈ wsX12_judge := List.mem_of_getElem? (i := 1) rfl
theorem kw_X12_judge_3 : Cond.fieldLink RX12 187 "LoweredPowersModel" "foundB" "I" ∈ wsX12_judge := List.mem_of_getElem? (i := 3) rfl
theorem kw_X12_judge_4 : Cond.fieldLink RX12 88 "LoweredPowersModel" "items" "[J" ∈ wsX12_judge := List.mem_of_getElem? (i := 4) rfl
theorem kw_X12_judge_5 : Cond.fieldLink RX12 21 "LoweredPowersModel" "b" "[I" ∈ wsX12_judge := List.mem_of_getElem? (i := 5) rfl
theorem kw_X12_judge_2 : Cond.fieldLink RX12 183 "LoweredPowersModel" "isFound" "Z" ∈ wsX12_judge := List.mem_of_getElem? (i := 2) rfl
theorem kw_X12_image_16 : Cond.fieldLink RX12 104 "LoweredPowersModel" "keptWhats" "[I" ∈ wsX12_image := List.mem_of_getElem? (i := 16) rfl
theorem kw_X12_image_17 : Cond.fieldLink RX12 54 "LoweredPowersModel" "changeWhats" "[I" ∈ wsX12_image := List.mem_of_getElem? (i := 17) rfl
theorem kw_X12_image_18 : Cond.fieldLink RX12 107 "LoweredPowersModel" "keptVs" "[I" ∈ wsX12_image := List.mem_of_getElem? (i := 18) rfl
theorem kw_X12_image_19 : Cond.fieldLink RX12 57 "LoweredPowersModel" "changeVs" "[I" ∈ wsX12_image := List.mem_of_getElem? (i := 19) rfl
theorem kw_X12_image_14 : Cond.fieldLink RX12 252 "LoweredPowersModel" "changes" "I" ∈ wsX12_image := List.mem_of_getElem? (i := 14) rfl
theorem kw_X12_image_15 : Cond.fieldLink RX12 322 "LoweredPowersModel" "keptChanges" "I" ∈ wsX12_image := List.mem_of_getElem? (i := 15) rfl
theorem kw_X12_image_12 : Cond.fieldLink RX12 101 "LoweredPowersModel" "keptBs" "[I" ∈ wsX12_image := List.mem_of_getElem? (i := 12) rfl
theorem kw_X12_image_13 : Cond.fieldLink RX12 21 "LoweredPowersModel" "b" "[I" ∈ wsX12_image := List.mem_of_getElem? (i := 13) rfl
theorem kw_X12_image_8 : Cond.fieldLink RX12 183 "LoweredPowersModel" "isFound" "Z" ∈ wsX12_image := List.mem_of_getElem? (i := 8) rfl
theorem kw_X12_image_9 : Cond.fieldLink RX12 316 "LoweredPowersModel" "keptFound" "Z" ∈ wsX12_image := List.mem_of_getElem? (i := 9) rfl
theorem kw_X12_image_10 : Cond.fieldLink RX12 187 "LoweredPowersModel" "foundB" "I" ∈ wsX12_image := List.mem_of_getElem? (i := 10) rfl
theorem kw_X12_image_11 : Cond.fieldLink RX12 319 "LoweredPowersModel" "keptB" "I" ∈ wsX12_image := List.mem_of_getElem? (i := 11) rfl
theorem kw_X12_image_4 : Cond.fieldLink RX12 95 "LoweredPowersModel" "keptOperator" "[I" ∈ wsX12_image := List.mem_of_getElem? (i := 4) rfl
theorem kw_X12_image_5 : Cond.fieldLink RX12 15 "LoweredPowersModel" "operator" "[I" ∈ wsX12_image := List.mem_of_getElem? (i := 5) rfl
theorem kw_X12_image_6 : Cond.fieldLink RX12 98 "LoweredPowersModel" "keptNumbers" "[I" ∈ wsX12_image := List.mem_of_getElem? (i := 6) rfl
theorem kw_X12_image_7 : Cond.fieldLink RX12 18 "LoweredPowersModel" "foundNumbers" "[I" ∈ wsX12_image := List.mem_of_getElem? (i := 7) rfl
theorem kw_X12_image_2 : Cond.fieldLink RX12 92 "LoweredPowersModel" "keptF" "[I" ∈ wsX12_image := List.mem_of_getElem? (i := 2) rfl
theorem kw_X12_image_3 : Cond.fieldLink RX12 9 "LoweredPowersModel" "f" "[I" ∈ wsX12_image := List.mem_of_getElem? (i := 3) rfl
theorem kw_X12_image_1 : Cond.fieldLink RX12 313 "LoweredPowersModel" "isKept" "Z" ∈ wsX12_image := List.mem_of_getElem? (i := 1) rfl
theorem kw_X12_undo_16 : Cond.fieldLink RX12 54 "LoweredPowersModel" "changeWhats" "[I" ∈ wsX12_undo := List.mem_of_getElem? (i := 16) rfl
theorem kw_X12_undo_17 : Cond.fieldLink RX12 104 "LoweredPowersModel" "keptWhats" "[I" ∈ wsX12_undo := List.mem_of_getElem? (i := 17) rfl
theorem kw_X12_undo_18 : Cond.fieldLink RX12 57 "LoweredPowersModel" "changeVs" "[I" ∈ wsX12_undo := List.mem_of_getElem? (i := 18) rfl
theorem kw_X12_undo_19 : Cond.fieldLink RX12 107 "LoweredPowersModel" "keptVs" "[I" ∈ wsX12_undo := List.mem_of_getElem? (i := 19) rfl
theorem kw_X12_undo_14 : Cond.fieldLink RX12 322 "LoweredPowersModel" "keptChanges" "I" ∈ wsX12_undo := List.mem_of_getElem? (i := 14) rfl
theorem kw_X12_undo_15 : Cond.fieldLink RX12 252 "LoweredPowersModel" "changes" "I" ∈ wsX12_undo := List.mem_of_getElem? (i := 15) rfl
theorem kw_X12_undo_12 : Cond.fieldLink RX12 21 "LoweredPowersModel" "b" "[I" ∈ wsX12_undo := List.mem_of_getElem? (i := 12) rfl
theorem kw_X12_undo_13 : Cond.fieldLink RX12 101 "LoweredPowersModel" "keptBs" "[I" ∈ wsX12_undo := List.mem_of_getElem? (i := 13) rfl
theorem kw_X12_undo_8 : Cond.fieldLink RX12 316 "LoweredPowersModel" "keptFound" "Z" ∈ wsX12_undo := List.mem_of_getElem? (i := 8) rfl
theorem kw_X12_undo_9 : Cond.fieldLink RX12 183 "LoweredPowersModel" "isFound" "Z" ∈ wsX12_undo := List.mem_of_getElem? (i := 9) rfl
theorem kw_X12_undo_10 : Cond.fieldLink RX12 319 "LoweredPowersModel" "keptB" "I" ∈ wsX12_undo := List.mem_of_getElem? (i := 10) rfl
theorem kw_X12_undo_11 : Cond.fieldLink RX12 187 "LoweredPowersModel" "foundB" "I" ∈ wsX12_undo := List.mem_of_getElem? (i := 11) rfl
theorem kw_X12_undo_4 : Cond.fieldLink RX12 15 "LoweredPowersModel" "operator" "[I" ∈ wsX12_undo := List.mem_of_getElem? (i := 4) rfl
theorem kw_X12_undo_5 : Cond.fieldLink RX12 95 "LoweredPowersModel" "keptOperator" "[I" ∈ wsX12_undo := List.mem_of_getElem? (i := 5) rfl
theorem kw_X12_undo_6 : Cond.fieldLink RX12 18 "LoweredPowersModel" "foundNumbers" "[I" ∈ wsX12_undo := List.mem_of_getElem? (i := 6) rfl
theorem kw_X12_undo_7 : Cond.fieldLink RX12 98 "LoweredPowersModel" "keptNumbers" "[I" ∈ wsX12_undo := List.mem_of_getElem? (i := 7) rfl
theorem kw_X12_undo_2 : Cond.fieldLink RX12 9 "LoweredPowersModel" "f" "[I" ∈ wsX12_undo := List.mem_of_getElem? (i := 2) rfl
theorem kw_X12_undo_3 : Cond.fieldLink RX12 92 "LoweredPowersModel" "keptF" "[I" ∈ wsX12_undo := List.mem_of_getElem? (i := 3) rfl
theorem kw_X12_undo_1 : Cond.fieldLink RX12 313 "LoweredPowersModel" "isKept" "Z" ∈ wsX12_undo := List.mem_of_getElem? (i := 1) rfl
theorem kw_X12_count_5 : Cond.fieldLink RX12 85 "LoweredPowersModel" "sizes" "[I" ∈ wsX12_count := List.mem_of_getElem? (i := 5) rfl
theorem kw_X12_count_4 : Cond.fieldLink RX12 66 "LoweredPowersModel" "rackKinds" "[I" ∈ wsX12_count := List.mem_of_getElem? (i := 4) rfl
theorem kw_X12_count_1 : Cond.fieldLink RX12 9 "LoweredPowersModel" "f" "[I" ∈ wsX12_count := List.mem_of_getElem? (i := 1) rfl
theorem kw_X12_count_2 : Cond.fieldLink RX12 252 "LoweredPowersModel" "changes" "I" ∈ wsX12_count := List.mem_of_getElem? (i := 2) rfl
theorem kw_X12_count_3 : Cond.fieldLink RX12 270 "LoweredPowersModel" "taped" "I" ∈ wsX12_count := List.mem_of_getElem? (i := 3) rfl
theorem kw_X12_count_6 : Cond.fieldLink RX12 183 "LoweredPowersModel" "isFound" "Z" ∈ wsX12_count := List.mem_of_getElem? (i := 6) rfl
abbrev rm_X12_judge : Room := { frames := 2, cells := 0, slots := 0, locals := 42 }
set_option maxRecDepth 100000 in
set_option maxHeartbeats 4000000 in
theorem ct_X12_judge (l : Launch) (D : va_G) (cI cJ cZ : ClassId) (h0 : Nat) (r0 : Nat → Nat) (I_0_isFound : Int32) (I_0_foundB : Int32) (I_0_changes : Int32) (I_0_taped : Int32) (I_0_size : Int32) (I_0_at : Int32) (I_0_signs : Int32) (I_0_wanted : Int32) (I_0_sign : Int32) (I_0_isKept : Int32) (I_0_keptFound : Int32) (I_0_keptB : Int32) (I_0_keptChanges : Int32) (A_0_5_b : (Nat → Int32)) (A_0_33_sizes : (Nat → Int32)) (A_0_34_items : (Nat → Int64)) (x1 : Int32) (sz : Nat) (K : Int32 → Prop) (h : wp_X12_judge x1 I_0_isFound I_0_foundB A_0_5_b A_0_33_sizes A_0_34_items K) : Met l yX12_judge wsX12_judge rm_X12_judge (va_Pc [.ref h0, .int x1] (WX D cI cJ cZ [(h0, .inr (11, oX12 r0 I_0_isFound I_0_foundB I_0_changes I_0_taped I_0_size I_0_at I_0_signs I_0_wanted I_0_sign I_0_isKept I_0_keptFound I_0_keptB I_0_keptChanges)), ((r0 5), .inl (cI, 9, .inl A_0_5_b)), ((r0 33), .inl (cI, 3, .inl A_0_33_sizes)), ((r0 34), .inl (cJ, 36, .inr (.inl A_0_34_items)))] sz)) (va_Qi (fun (r : Int32) (_ : Unit) => K r ) (fun (_ : Unit) t => WY D (va_A [(h0, .inr (11, oX12 r0 I_0_isFound I_0_foundB I_0_changes I_0_taped I_0_size I_0_at I_0_signs I_0_wanted I_0_sign I_0_isKept I_0_keptFound I_0_keptB I_0_keptChanges)), ((r0 5), .inl (cI, 9, .inl A_0_5_b)), ((r0 33), .inl (cI, 3, .inl A_0_33_sizes)), ((r0 34), .inl (cJ, 36, .inr (.inl A_0_34_items)))] sz) [(h0, .inr (11, oX12 r0 I_0_isFound I_0_foundB I_0_changes I_0_taped I_0_size I_0_at I_0_signs I_0_wanted I_0_sign I_0_isKept I_0_keptFound I_0_keptB I_0_keptChanges)), ((r0 5), .inl (cI, 9, .inl A_0_5_b)), ((r0 33), .inl (cI, 3, .inl A_0_33_sizes)), ((r0 34), .inl (cJ, 36, .inr (.inl A_0_34_items)))] t) (va_A [(h0, .inr (11, oX12 r0 I_0_isFound I_0_foundB I_0_changes I_0_taped I_0_size I_0_at I_0_signs I_0_wanted I_0_sign I_0_isKept I_0_keptFound I_0_keptB I_0_keptChanges)), ((r0 5), .inl (cI, 9, .inl A_0_5_b)), ((r0 33), .inl (cI, 3, .inl A_0_33_sizes)), ((r0 34), .inl (cJ, 36, .inr (.inl A_0_34_items)))] sz)) 0 0 (va_A [(h0, .inr (11, oX12 r0 I_0_isFound I_0_foundB I_0_changes I_0_taped I_0_size I_0_at I_0_signs I_0_wanted I_0_sign I_0_isKept I_0_keptFound I_0_keptB I_0_keptChanges)), ((r0 5), .inl (cI, 9, .inl A_0_5_b)), ((r0 33), .inl (cI, 3, .inl A_0_33_sizes)), ((r0 34), .inl (cJ, 36, .inr (.inl A_0_34_items)))] sz) := by
  refine m_met (own := RX12) (cc := cX12_judge) (maxL := 3) (ret := some .int) [.ref h0, .int x1] [(0, .ref h0), (1, .int x1)] (by decide) rfl rfl (Nat.le_of_ble_eq_true rfl) rfl ?_
  intro p e s m args below meth c Q A hQ hA C0 hr hnm hsz hM ls hl
  have hx := C0.1
  have hb := C0.2.1
  have hown := C0.2.2.2.1
  have jq84 : ∀  (H : Heap) (locs : List Loc) (ls : Array Slot) , jn_X12_judge_84 x1 I_0_isFound I_0_foundB A_0_5_b A_0_33_sizes A_0_34_items K  → MW D A s.heap [(h0, .inr (11, oX12 r0 I_0_isFound I_0_foundB I_0_changes I_0_taped I_0_size I_0_at I_0_signs I_0_wanted I_0_sign I_0_isKept I_0_keptFound I_0_keptB I_0_keptChanges)), ((r0 5), .inl (cI, 9, .inl A_0_5_b)), ((r0 33), .inl (cI, 3, .inl A_0_33_sizes)), ((r0 34), .inl (cJ, 36, .inr (.inl A_0_34_items)))] H locs → lv_has ls 3 [(0, .ref h0), (1, .int x1)] → W p l e rm_X12_judge s m args below meth c H locs 0 0 Q (F0 m 84 ls []) := by
    intro  H locs ls h hM hl
    unfold jn_X12_judge_84 at h
    refine lv_aload_n hx hb dX12_judge_84 rfl (lv_at hl 0 rfl) ?_
    refine m_get (C := RX12) (T := TX12) (N := 45) (ci := 11) (ref := "LoweredPowersModel") (v := .ref (r0 33)) C0 hM 0 rfl rfl kt_X12_judge_X12 33 (by decide) kw_X12_judge_1 rfl rfl dX12_judge_85 ?_
    refine lv_iload_n hx hb dX12_judge_88 rfl (lv_at hl 1 rfl) ?_
    obtain ⟨hc1, h⟩ := h
    refine m_iald C0 hM 2 rfl hc1 dX12_judge_89 ?_
    refine lv_aload_n hx hb dX12_judge_90 rfl (lv_at hl 0 rfl) ?_
    refine m_get (C := RX12) (T := TX12) (N := 45) (ci := 11) (ref := "LoweredPowersModel") (v := .int I_0_foundB) C0 hM 0 rfl rfl kt_X12_judge_X12 3 (by decide) kw_X12_judge_3 rfl rfl dX12_judge_91 ?_
    refine lv_icmp_gt (tgt := 109) hx hb dX12_judge_94 (by decide) (fun hq => ?_) (fun hq => ?_)
    · have h := h.1 hq
      refine lv_bipush (v := (-5 : Int32)) hx hb dX12_judge_109 (by decide) ?_
      subst hsz; subst hA; subst hQ
      exact m_iret C0 hr hM () h rfl dX12_judge_111
    · have h := h.2 hq
      refine lv_bipush (v := (100 : Int32)) hx hb dX12_judge_97 (by decide) ?_
      refine lv_aload_n hx hb dX12_judge_99 rfl (lv_at hl 0 rfl) ?_
      refine m_get (C := RX12) (T := TX12) (N := 45) (ci := 11) (ref := "LoweredPowersModel") (v := .ref (r0 33)) C0 hM 0 rfl rfl kt_X12_judge_X12 33 (by decide) kw_X12_judge_1 rfl rfl dX12_judge_100 ?_
      refine lv_iload_n hx hb dX12_judge_103 rfl (lv_at hl 1 rfl) ?_
      refine m_iald C0 hM 2 rfl hc1 dX12_judge_104 ?_
      refine lv_iadd hx hb dX12_judge_105 ?_
      refine lv_goto (tgt := 111) hx hb dX12_judge_106 (by decide) ?_
      subst hsz; subst hA; subst hQ
      exact m_iret C0 hr hM () h rfl dX12_judge_111
  have lq33 : ∀ (k33 : Nat) (x2 : Int32) (H : Heap) (locs : List Loc) (ls : Array Slot) , lp_X12_judge_33 x1 I_0_isFound I_0_foundB A_0_5_b A_0_33_sizes A_0_34_items (jn_X12_judge_84 x1 I_0_isFound I_0_foundB A_0_5_b A_0_33_sizes A_0_34_items K) K k33 x2 → MW D A s.heap [(h0, .inr (11, oX12 r0 I_0_isFound I_0_foundB I_0_changes I_0_taped I_0_size I_0_at I_0_signs I_0_wanted I_0_sign I_0_isKept I_0_keptFound I_0_keptB I_0_keptChanges)), ((r0 5), .inl (cI, 9, .inl A_0_5_b)), ((r0 33), .inl (cI, 3, .inl A_0_33_sizes)), ((r0 34), .inl (cJ, 36, .inr (.inl A_0_34_items)))] H locs → lv_has ls 3 [(0, .ref h0), (1, .int x1), (2, .int x2)] → W p l e rm_X12_judge s m args below meth c H locs 0 0 Q (F0 m 33 ls []) := by
    intro k33
    induction k33 with
    | zero =>
      intro x2 H locs ls h
      unfold lp_X12_judge_33 at h
      exact h.elim
    | succ k33 ih33 =>
      intro x2 H locs ls h hM hl
      unfold lp_X12_judge_33 at h
      refine lv_iload_n hx hb dX12_judge_33 rfl (lv_at hl 2 rfl) ?_
      refine lv_aload_n hx hb dX12_judge_34 rfl (lv_at hl 0 rfl) ?_
      refine m_get (C := RX12) (T := TX12) (N := 45) (ci := 11) (ref := "LoweredPowersModel") (v := .ref (r0 33)) C0 hM 0 rfl rfl kt_X12_judge_X12 33 (by decide) kw_X12_judge_1 rfl rfl dX12_judge_35 ?_
      refine lv_iload_n hx hb dX12_judge_38 rfl (lv_at hl 1 rfl) ?_
      obtain ⟨hc2, h⟩ := h
      refine m_iald C0 hM 2 rfl hc2 dX12_judge_39 ?_
      refine lv_icmp_ge (tgt := 84) hx hb dX12_judge_40 (by decide) (fun hq => ?_) (fun hq => ?_)
      · have h := h.1 hq
        exact jq84  _ _ _ h hM (lv_sub hl [0, 1] rfl)
      · have h := h.2 hq
        refine lv_iload_n hx hb dX12_judge_43 rfl (lv_at hl 2 rfl) ?_
        refine lv_aload_n hx hb dX12_judge_44 rfl (lv_at hl 0 rfl) ?_
        refine m_get (C := RX12) (T := TX12) (N := 45) (ci := 11) (ref := "LoweredPowersModel") (v := .int I_0_foundB) C0 hM 0 rfl rfl kt_X12_judge_X12 3 (by decide) kw_X12_judge_3 rfl rfl dX12_judge_45 ?_
        refine lv_icmp_gt (tgt := 76) hx hb dX12_judge_48 (by decide) (fun hq => ?_) (fun hq => ?_)
        · have h := h.1 hq
          refine lv_iload_n hx hb dX12_judge_76 rfl (lv_at hl 2 rfl) ?_
          subst hsz; subst hA; subst hQ
          exact m_iret C0 hr hM () h rfl dX12_judge_77
        · have h := h.2 hq
          refine lv_aload_n hx hb dX12_judge_51 rfl (lv_at hl 0 rfl) ?_
          refine m_get (C := RX12) (T := TX12) (N := 45) (ci := 11) (ref := "LoweredPowersModel") (v := .ref (r0 34)) C0 hM 0 rfl rfl kt_X12_judge_X12 34 (by decide) kw_X12_judge_4 rfl rfl dX12_judge_52 ?_
          refine lv_bipush (v := (12 : Int32)) hx hb dX12_judge_55 (by decide) ?_
          refine lv_iload_n hx hb dX12_judge_57 rfl (lv_at hl 1 rfl) ?_
          refine lv_imul hx hb dX12_judge_58 ?_
          refine lv_iload_n hx hb dX12_judge_59 rfl (lv_at hl 2 rfl) ?_
          refine lv_iadd hx hb dX12_judge_60 ?_
          obtain ⟨hc3, h⟩ := h
          refine m_lald C0 hM 3 rfl hc3 dX12_judge_61 ?_
          refine lv_aload_n hx hb dX12_judge_62 rfl (lv_at hl 0 rfl) ?_
          refine m_get (C := RX12) (T := TX12) (N := 45) (ci := 11) (ref := "LoweredPowersModel") (v := .ref (r0 5)) C0 hM 0 rfl rfl kt_X12_judge_X12 5 (by decide) kw_X12_judge_5 rfl rfl dX12_judge_63 ?_
          refine lv_iload_n hx hb dX12_judge_66 rfl (lv_at hl 2 rfl) ?_
          obtain ⟨hc4, h⟩ := h
          refine m_iald C0 hM 1 rfl hc4 dX12_judge_67 ?_
          refine m_calli (wc := []) C0 hM [] rfl (m_runS (wc := []) (As := [.int (A_0_5_b (x2).toNatClampNeg)]) (rest := [.long (A_0_34_items ((((12 : Int32) * x1) + x2)).toNatClampNeg)]) C0 hM (ct_X12_signed l D cI cJ cZ (A_0_5_b (x2).toNatClampNeg) _ _ h) [] rfl (by decide) gX12_judge_X12_signed rfl rfl rfl hd_X12_signed ⟨Nat.le_of_ble_eq_true rfl, Nat.le_of_ble_eq_true rfl⟩ rfl hl.1 rfl (Nat.le_of_ble_eq_true rfl) dX12_judge_68 ⟨Nat.le_of_ble_eq_true rfl, Nat.le_of_ble_eq_true rfl⟩) (fun _ => [(h0, .inr (11, oX12 r0 I_0_isFound I_0_foundB I_0_changes I_0_taped I_0_size I_0_at I_0_signs I_0_wanted I_0_sign I_0_isKept I_0_keptFound I_0_keptB I_0_keptChanges)), ((r0 5), .inl (cI, 9, .inl A_0_5_b)), ((r0 33), .inl (cI, 3, .inl A_0_33_sizes)), ((r0 34), .inl (cJ, 36, .inr (.inl A_0_34_items)))]) (fun _ => rfl) (fun _ => rfl) (fun y5 _ H locs h hM => ?_)
          refine lv_i2l hx hb dX12_judge_71 rfl ?_
          refine W.lcmp hx hb dX12_judge_72 ?_
          refine lv_if_eq (tgt := 78) hx hb dX12_judge_73 (by decide) (fun hq => ?_) (fun hq => ?_)
          · have h := h.1 hq
            refine lv_iinc (v := (x2 + (1 : Int32))) (lv' := [(2, .int (x2 + (1 : Int32))), (0, .ref h0), (1, .int x1)]) hx hb dX12_judge_78 hl (k := 2) rfl rfl (by decide) rfl (fun ls hl => ?_)
            refine lv_goto (tgt := 33) hx hb dX12_judge_81 (by decide) ?_
            exact ih33 _ _ _ _ h hM (lv_sub hl [1, 2, 0] rfl)
          · have h := h.2 hq
            refine lv_iload_n hx hb dX12_judge_76 rfl (lv_at hl 2 rfl) ?_
            subst hsz; subst hA; subst hQ
            exact m_iret C0 hr hM () h rfl dX12_judge_77
  unfold wp_X12_judge at h
  refine lv_iload_n hx hb dX12_judge_0 rfl (lv_at hl 1 rfl) ?_
  refine m_calli (wc := []) C0 hM [] rfl (m_runS (wc := []) (As := [.int x1]) (rest := []) C0 hM (ct_X12_isList l D cI cJ cZ x1 _ _ h) [] rfl (by decide) gX12_judge_X12_isList rfl rfl rfl hd_X12_isList ⟨Nat.le_of_ble_eq_true rfl, Nat.le_of_ble_eq_true rfl⟩ rfl hl.1 rfl (Nat.le_of_ble_eq_true rfl) dX12_judge_1 ⟨Nat.le_of_ble_eq_true rfl, Nat.le_of_ble_eq_true rfl⟩) (fun _ => [(h0, .inr (11, oX12 r0 I_0_isFound I_0_foundB I_0_changes I_0_taped I_0_size I_0_at I_0_signs I_0_wanted I_0_sign I_0_isKept I_0_keptFound I_0_keptB I_0_keptChanges)), ((r0 5), .inl (cI, 9, .inl A_0_5_b)), ((r0 33), .inl (cI, 3, .inl A_0_33_sizes)), ((r0 34), .inl (cJ, 36, .inr (.inl A_0_34_items)))]) (fun _ => rfl) (fun _ => rfl) (fun y6 _ H locs h hM => ?_)
  refine lv_if_ne (tgt := 9) hx hb dX12_judge_4 (by decide) (fun hq => ?_) (fun hq => ?_)
  · have h := h.1 hq
    refine lv_aload_n hx hb dX12_judge_9 rfl (lv_at hl 0 rfl) ?_
    refine m_get (C := RX12) (T := TX12) (N := 45) (ci := 11) (ref := "LoweredPowersModel") (v := .ref (r0 33)) C0 hM 0 rfl rfl kt_X12_judge_X12 33 (by decide) kw_X12_judge_1 rfl rfl dX12_judge_10 ?_
    refine lv_iload_n hx hb dX12_judge_13 rfl (lv_at hl 1 rfl) ?_
    obtain ⟨hc7, h⟩ := h
    refine m_iald C0 hM 2 rfl hc7 dX12_judge_14 ?_
    refine lv_if_ge (tgt := 21) hx hb dX12_judge_15 (by decide) (fun hq => ?_) (fun hq => ?_)
    · have h := h.1 hq
      refine lv_aload_n hx hb dX12_judge_21 rfl (lv_at hl 0 rfl) ?_
      refine m_get (C := RX12) (T := TX12) (N := 45) (ci := 11) (ref := "LoweredPowersModel") (v := .int I_0_isFound) C0 hM 0 rfl rfl kt_X12_judge_X12 2 (by decide) kw_X12_judge_2 rfl rfl dX12_judge_22 ?_
      refine lv_if_ne (tgt := 31) hx hb dX12_judge_25 (by decide) (fun hq => ?_) (fun hq => ?_)
      · have h := h.1 hq
        refine lv_iconst (v := (0 : Int32)) hx hb dX12_judge_31 (by decide) ?_
        refine lv_istore_n (lv' := [(2, .int (0 : Int32)), (0, .ref h0), (1, .int x1)]) hx hb dX12_judge_32 rfl hl (by decide) rfl (fun ls hl => ?_)
        obtain ⟨k0, h⟩ := h
        exact lq33 k0 _ _ _ _ h hM (lv_sub hl [1, 2, 0] rfl)
      · have h := h.2 hq
        refine lv_bipush (v := (-3 : Int32)) hx hb dX12_judge_28 (by decide) ?_
        subst hsz; subst hA; subst hQ
        exact m_iret C0 hr hM () h rfl dX12_judge_30
    · have h := h.2 hq
      refine lv_bipush (v := (-11 : Int32)) hx hb dX12_judge_18 (by decide) ?_
      subst hsz; subst hA; subst hQ
      exact m_iret C0 hr hM () h rfl dX12_judge_20
  · have h := h.2 hq
    refine lv_iconst (v := (-1 : Int32)) hx hb dX12_judge_7 (by decide) ?_
    subst hsz; subst hA; subst hQ
    exact m_iret C0 hr hM () h rfl dX12_judge_8
abbrev rm_X12_image : Room := { frames := 1, cells := 0, slots := 0, locals := 21 }
set_option maxRecDepth 100000 in
set_option maxHeartbeats 4000000 in
theorem ct_X12_image (l : Launch) (D : va_G) (cI cJ cZ : ClassId) (h0 : Nat) (r0 : Nat → Nat) (I_0_isFound : Int32) (I_0_foundB : Int32) (I_0_changes : Int32) (I_0_taped : Int32) (I_0_size : Int32) (I_0_at : Int32) (I_0_signs : Int32) (I_0_wanted : Int32) (I_0_sign : Int32) (I_0_isKept : Int32) (I_0_keptFound : Int32) (I_0_keptB : Int32) (I_0_keptChanges : Int32) (A_0_0_f : (Nat → Int32)) (A_0_1_operator : (Nat → Int32)) (A_0_4_foundNumbers : (Nat → Int32)) (A_0_5_b : (Nat → Int32)) (A_0_17_changeWhats : (Nat → Int32)) (A_0_18_changeVs : (Nat → Int32)) (A_0_36_keptF : (Nat → Int32)) (A_0_37_keptOperator : (Nat → Int32)) (A_0_40_keptNumbers : (Nat → Int32)) (A_0_41_keptBs : (Nat → Int32)) (A_0_43_keptWhats : (Nat → Int32)) (A_0_44_keptVs : (Nat → Int32)) (sz : Nat) (K : Int32 → Int32 → Int32 → Int32 → Int32 → (Nat → Int32) → (Nat → Int32) → (Nat → Int32) → (Nat → Int32) → (Nat → Int32) → (Nat → Int32) → Prop) (h : wp_X12_image I_0_isFound I_0_foundB I_0_changes I_0_isKept I_0_keptFound I_0_keptB I_0_keptChanges A_0_0_f A_0_1_operator A_0_4_foundNumbers A_0_5_b A_0_17_changeWhats A_0_18_changeVs A_0_36_keptF A_0_37_keptOperator A_0_40_keptNumbers A_0_41_keptBs A_0_43_keptWhats A_0_44_keptVs K) : Met l yX12_image wsX12_image rm_X12_image (va_Pc [.ref h0] (WX D cI cJ cZ [(h0, .inr (11, oX12 r0 I_0_isFound I_0_foundB I_0_changes I_0_taped I_0_size I_0_at I_0_signs I_0_wanted I_0_sign I_0_isKept I_0_keptFound I_0_keptB I_0_keptChanges)), ((r0 0), .inl (cI, 5, .inl A_0_0_f)), ((r0 1), .inl (cI, 75, .inl A_0_1_operator)), ((r0 4), .inl (cI, 75, .inl A_0_4_foundNumbers)), ((r0 5), .inl (cI, 9, .inl A_0_5_b)), ((r0 17), .inl (cI, 8, .inl A_0_17_changeWhats)), ((r0 18), .inl (cI, 8, .inl A_0_18_changeVs)), ((r0 36), .inl (cI, 5, .inl A_0_36_keptF)), ((r0 37), .inl (cI, 75, .inl A_0_37_keptOperator)), ((r0 40), .inl (cI, 75, .inl A_0_40_keptNumbers)), ((r0 41), .inl (cI, 9, .inl A_0_41_keptBs)), ((r0 43), .inl (cI, 8, .inl A_0_43_keptWhats)), ((r0 44), .inl (cI, 8, .inl A_0_44_keptVs))] sz)) (va_Qi (fun (r : Int32) (u : Int32 × Int32 × Int32 × Int32 × (Nat → Int32) × (Nat → Int32) × (Nat → Int32) × (Nat → Int32) × (Nat → Int32) × (Nat → Int32)) => K r u.1 u.2.1 u.2.2.1 u.2.2.2.1 u.2.2.2.2.1 u.2.2.2.2.2.1 u.2.2.2.2.2.2.1 u.2.2.2.2.2.2.2.1 u.2.2.2.2.2.2.2.2.1 u.2.2.2.2.2.2.2.2.2) (fun (u : Int32 × Int32 × Int32 × Int32 × (Nat → Int32) × (Nat → Int32) × (Nat → Int32) × (Nat → Int32) × (Nat → Int32) × (Nat → Int32)) t => WY D (va_A [(h0, .inr (11, oX12 r0 I_0_isFound I_0_foundB I_0_changes I_0_taped I_0_size I_0_at I_0_signs I_0_wanted I_0_sign I_0_isKept I_0_keptFound I_0_keptB I_0_keptChanges)), ((r0 0), .inl (cI, 5, .inl A_0_0_f)), ((r0 1), .inl (cI, 75, .inl A_0_1_operator)), ((r0 4), .inl (cI, 75, .inl A_0_4_foundNumbers)), ((r0 5), .inl (cI, 9, .inl A_0_5_b)), ((r0 17), .inl (cI, 8, .inl A_0_17_changeWhats)), ((r0 18), .inl (cI, 8, .inl A_0_18_changeVs)), ((r0 36), .inl (cI, 5, .inl A_0_36_keptF)), ((r0 37), .inl (cI, 75, .inl A_0_37_keptOperator)), ((r0 40), .inl (cI, 75, .inl A_0_40_keptNumbers)), ((r0 41), .inl (cI, 9, .inl A_0_41_keptBs)), ((r0 43), .inl (cI, 8, .inl A_0_43_keptWhats)), ((r0 44), .inl (cI, 8, .inl A_0_44_keptVs))] sz) [(h0, .inr (11, oX12 r0 I_0_isFound I_0_foundB I_0_changes I_0_taped I_0_size I_0_at I_0_signs I_0_wanted I_0_sign u.1 u.2.1 u.2.2.1 u.2.2.2.1)), ((r0 0), .inl (cI, 5, .inl A_0_0_f)), ((r0 1), .inl (cI, 75, .inl A_0_1_operator)), ((r0 4), .inl (cI, 75, .inl A_0_4_foundNumbers)), ((r0 5), .inl (cI, 9, .inl A_0_5_b)), ((r0 17), .inl (cI, 8, .inl A_0_17_changeWhats)), ((r0 18), .inl (cI, 8, .inl A_0_18_changeVs)), ((r0 36), .inl (cI, 5, .inl u.2.2.2.2.1)), ((r0 37), .inl (cI, 75, .inl u.2.2.2.2.2.1)), ((r0 40), .inl (cI, 75, .inl u.2.2.2.2.2.2.1)), ((r0 41), .inl (cI, 9, .inl u.2.2.2.2.2.2.2.1)), ((r0 43), .inl (cI, 8, .inl u.2.2.2.2.2.2.2.2.1)), ((r0 44), .inl (cI, 8, .inl u.2.2.2.2.2.2.2.2.2))] t) (va_A [(h0, .inr (11, oX12 r0 I_0_isFound I_0_foundB I_0_changes I_0_taped I_0_size I_0_at I_0_signs I_0_wanted I_0_sign I_0_isKept I_0_keptFound I_0_keptB I_0_keptChanges)), ((r0 0), .inl (cI, 5, .inl A_0_0_f)), ((r0 1), .inl (cI, 75, .inl A_0_1_operator)), ((r0 4), .inl (cI, 75, .inl A_0_4_foundNumbers)), ((r0 5), .inl (cI, 9, .inl A_0_5_b)), ((r0 17), .inl (cI, 8, .inl A_0_17_changeWhats)), ((r0 18), .inl (cI, 8, .inl A_0_18_changeVs)), ((r0 36), .inl (cI, 5, .inl A_0_36_keptF)), ((r0 37), .inl (cI, 75, .inl A_0_37_keptOperator)), ((r0 40), .inl (cI, 75, .inl A_0_40_keptNumbers)), ((r0 41), .inl (cI, 9, .inl A_0_41_keptBs)), ((r0 43), .inl (cI, 8, .inl A_0_43_keptWhats)), ((r0 44), .inl (cI, 8, .inl A_0_44_keptVs))] sz)) 0 0 (va_A [(h0, .inr (11, oX12 r0 I_0_isFound I_0_foundB I_0_changes I_0_taped I_0_size I_0_at I_0_signs I_0_wanted I_0_sign I_0_isKept I_0_keptFound I_0_keptB I_0_keptChanges)), ((r0 0), .inl (cI, 5, .inl A_0_0_f)), ((r0 1), .inl (cI, 75, .inl A_0_1_operator)), ((r0 4), .inl (cI, 75, .inl A_0_4_foundNumbers)), ((r0 5), .inl (cI, 9, .inl A_0_5_b)), ((r0 17), .inl (cI, 8, .inl A_0_17_changeWhats)), ((r0 18), .inl (cI, 8, .inl A_0_18_changeVs)), ((r0 36), .inl (cI, 5, .inl A_0_36_keptF)), ((r0 37), .inl (cI, 75, .inl A_0_37_keptOperator)), ((r0 40), .inl (cI, 75, .inl A_0_40_keptNumbers)), ((r0 41), .inl (cI, 9, .inl A_0_41_keptBs)), ((r0 43), .inl (cI, 8, .inl A_0_43_keptWhats)), ((r0 44), .inl (cI, 8, .inl A_0_44_keptVs))] sz) := by
  refine m_met (own := RX12) (cc := cX12_image) (maxL := 2) (ret := some .int) [.ref h0] [(0, .ref h0)] (by decide) rfl rfl (Nat.le_of_ble_eq_true rfl) rfl ?_
  intro p e s m args below meth c Q A hQ hA C0 hr hnm hsz hM ls hl
  have hx := C0.1
  have hb := C0.2.1
  have hown := C0.2.2.2.1
  have jq156 : ∀ (I_0_isKept : Int32) (I_0_keptFound : Int32) (I_0_keptB : Int32) (I_0_keptChanges : Int32) (A_0_36_keptF : (Nat → Int32)) (A_0_37_keptOperator : (Nat → Int32)) (A_0_40_keptNumbers : (Nat → Int32)) (A_0_41_keptBs : (Nat → Int32)) (A_0_43_keptWhats : (Nat → Int32)) (A_0_44_keptVs : (Nat → Int32)) (H : Heap) (locs : List Loc) (ls : Array Slot) , jn_X12_image_156 I_0_isFound I_0_foundB I_0_changes A_0_0_f A_0_1_operator A_0_4_foundNumbers A_0_5_b A_0_17_changeWhats A_0_18_changeVs K I_0_isKept I_0_keptFound I_0_keptB I_0_keptChanges A_0_36_keptF A_0_37_keptOperator A_0_40_keptNumbers A_0_41_keptBs A_0_43_keptWhats A_0_44_keptVs → MW D A s.heap [(h0, .inr (11, oX12 r0 I_0_isFound I_0_foundB I_0_changes I_0_taped I_0_size I_0_at I_0_signs I_0_wanted I_0_sign I_0_isKept I_0_keptFound I_0_keptB I_0_keptChanges)), ((r0 0), .inl (cI, 5, .inl A_0_0_f)), ((r0 1), .inl (cI, 75, .inl A_0_1_operator)), ((r0 4), .inl (cI, 75, .inl A_0_4_foundNumbers)), ((r0 5), .inl (cI, 9, .inl A_0_5_b)), ((r0 17), .inl (cI, 8, .inl A_0_17_changeWhats)), ((r0 18), .inl (cI, 8, .inl A_0_18_changeVs)), ((r0 36), .inl (cI, 5, .inl A_0_36_keptF)), ((r0 37), .inl (cI, 75, .inl A_0_37_keptOperator)), ((r0 40), .inl (cI, 75, .inl A_0_40_keptNumbers)), ((r0 41), .inl (cI, 9, .inl A_0_41_keptBs)), ((r0 43), .inl (cI, 8, .inl A_0_43_keptWhats)), ((r0 44), .inl (cI, 8, .inl A_0_44_keptVs))] H locs → lv_has ls 2 [(0, .ref h0)] → W p l e rm_X12_image s m args below meth c H locs 0 0 Q (F0 m 156 ls []) := by
    intro I_0_isKept I_0_keptFound I_0_keptB I_0_keptChanges A_0_36_keptF A_0_37_keptOperator A_0_40_keptNumbers A_0_41_keptBs A_0_43_keptWhats A_0_44_keptVs H locs ls h hM hl
    unfold jn_X12_image_156 at h
    refine lv_aload_n hx hb dX12_image_156 rfl (lv_at hl 0 rfl) ?_
    refine m_calli (wc := [(h0, .inr (11, oX12 r0 I_0_isFound I_0_foundB I_0_changes I_0_taped I_0_size I_0_at I_0_signs I_0_wanted I_0_sign I_0_isKept I_0_keptFound I_0_keptB I_0_keptChanges)), ((r0 0), .inl (cI, 5, .inl A_0_0_f))]) C0 hM [0, 1] rfl (m_runV (wc := [(h0, .inr (11, oX12 r0 I_0_isFound I_0_foundB I_0_changes I_0_taped I_0_size I_0_at I_0_signs I_0_wanted I_0_sign I_0_isKept I_0_keptFound I_0_keptB I_0_keptChanges)), ((r0 0), .inl (cI, 5, .inl A_0_0_f))]) (As := []) (rest := []) (ci := 11) C0 hM (ct_X12_degreeOf l D cI cJ cZ h0 r0 I_0_isFound I_0_foundB I_0_changes I_0_taped I_0_size I_0_at I_0_signs I_0_wanted I_0_sign I_0_isKept I_0_keptFound I_0_keptB I_0_keptChanges A_0_0_f _ _ h) [0, 1] rfl (by decide) gX12_image_X12_degreeOf rfl rfl rfl rfl rfl hd_X12_degreeOf ⟨Nat.le_of_ble_eq_true rfl, Nat.le_of_ble_eq_true rfl⟩ rfl hl.1 rfl (Nat.le_of_ble_eq_true rfl) dX12_image_157 ⟨Nat.le_of_ble_eq_true rfl, Nat.le_of_ble_eq_true rfl⟩) (fun _ => [(h0, .inr (11, oX12 r0 I_0_isFound I_0_foundB I_0_changes I_0_taped I_0_size I_0_at I_0_signs I_0_wanted I_0_sign I_0_isKept I_0_keptFound I_0_keptB I_0_keptChanges)), ((r0 0), .inl (cI, 5, .inl A_0_0_f)), ((r0 1), .inl (cI, 75, .inl A_0_1_operator)), ((r0 4), .inl (cI, 75, .inl A_0_4_foundNumbers)), ((r0 5), .inl (cI, 9, .inl A_0_5_b)), ((r0 17), .inl (cI, 8, .inl A_0_17_changeWhats)), ((r0 18), .inl (cI, 8, .inl A_0_18_changeVs)), ((r0 36), .inl (cI, 5, .inl A_0_36_keptF)), ((r0 37), .inl (cI, 75, .inl A_0_37_keptOperator)), ((r0 40), .inl (cI, 75, .inl A_0_40_keptNumbers)), ((r0 41), .inl (cI, 9, .inl A_0_41_keptBs)), ((r0 43), .inl (cI, 8, .inl A_0_43_keptWhats)), ((r0 44), .inl (cI, 8, .inl A_0_44_keptVs))]) (fun _ => rfl) (fun _ => rfl) (fun y1 _ H locs h hM => ?_)
    subst hsz; subst hA; subst hQ
    exact m_iret C0 hr hM (I_0_isKept, I_0_keptFound, I_0_keptB, I_0_keptChanges, A_0_36_keptF, A_0_37_keptOperator, A_0_40_keptNumbers, A_0_41_keptBs, A_0_43_keptWhats, A_0_44_keptVs) h rfl dX12_image_160
  have lq120 : ∀ (k120 : Nat) (x1 : Int32) (I_0_isKept : Int32) (I_0_keptFound : Int32) (I_0_keptB : Int32) (I_0_keptChanges : Int32) (A_0_36_keptF : (Nat → Int32)) (A_0_37_keptOperator : (Nat → Int32)) (A_0_40_keptNumbers : (Nat → Int32)) (A_0_41_keptBs : (Nat → Int32)) (A_0_43_keptWhats : (Nat → Int32)) (A_0_44_keptVs : (Nat → Int32)) (H : Heap) (locs : List Loc) (ls : Array Slot) , lp_X12_image_120 I_0_isFound I_0_foundB I_0_changes A_0_0_f A_0_1_operator A_0_4_foundNumbers A_0_5_b A_0_17_changeWhats A_0_18_changeVs (jn_X12_image_156 I_0_isFound I_0_foundB I_0_changes A_0_0_f A_0_1_operator A_0_4_foundNumbers A_0_5_b A_0_17_changeWhats A_0_18_changeVs K) K k120 x1 I_0_isKept I_0_keptFound I_0_keptB I_0_keptChanges A_0_36_keptF A_0_37_keptOperator A_0_40_keptNumbers A_0_41_keptBs A_0_43_keptWhats A_0_44_keptVs → MW D A s.heap [(h0, .inr (11, oX12 r0 I_0_isFound I_0_foundB I_0_changes I_0_taped I_0_size I_0_at I_0_signs I_0_wanted I_0_sign I_0_isKept I_0_keptFound I_0_keptB I_0_keptChanges)), ((r0 0), .inl (cI, 5, .inl A_0_0_f)), ((r0 1), .inl (cI, 75, .inl A_0_1_operator)), ((r0 4), .inl (cI, 75, .inl A_0_4_foundNumbers)), ((r0 5), .inl (cI, 9, .inl A_0_5_b)), ((r0 17), .inl (cI, 8, .inl A_0_17_changeWhats)), ((r0 18), .inl (cI, 8, .inl A_0_18_changeVs)), ((r0 36), .inl (cI, 5, .inl A_0_36_keptF)), ((r0 37), .inl (cI, 75, .inl A_0_37_keptOperator)), ((r0 40), .inl (cI, 75, .inl A_0_40_keptNumbers)), ((r0 41), .inl (cI, 9, .inl A_0_41_keptBs)), ((r0 43), .inl (cI, 8, .inl A_0_43_keptWhats)), ((r0 44), .inl (cI, 8, .inl A_0_44_keptVs))] H locs → lv_has ls 2 [(0, .ref h0), (1, .int x1)] → W p l e rm_X12_image s m args below meth c H locs 0 0 Q (F0 m 120 ls []) := by
    intro k120
    induction k120 with
    | zero =>
      intro x1 I_0_isKept I_0_keptFound I_0_keptB I_0_keptChanges A_0_36_keptF A_0_37_keptOperator A_0_40_keptNumbers A_0_41_keptBs A_0_43_keptWhats A_0_44_keptVs H locs ls h
      unfold lp_X12_image_120 at h
      exact h.elim
    | succ k120 ih120 =>
      intro x1 I_0_isKept I_0_keptFound I_0_keptB I_0_keptChanges A_0_36_keptF A_0_37_keptOperator A_0_40_keptNumbers A_0_41_keptBs A_0_43_keptWhats A_0_44_keptVs H locs ls h hM hl
      unfold lp_X12_image_120 at h
      refine lv_iload_n hx hb dX12_image_120 rfl (lv_at hl 1 rfl) ?_
      refine lv_bipush (v := (8 : Int32)) hx hb dX12_image_121 (by decide) ?_
      refine lv_icmp_ge (tgt := 156) hx hb dX12_image_123 (by decide) (fun hq => ?_) (fun hq => ?_)
      · have h := h.1 hq
        exact jq156 _ _ _ _ _ _ _ _ _ _ _ _ _ h hM (lv_sub hl [0] rfl)
      · have h := h.2 hq
        refine lv_aload_n hx hb dX12_image_126 rfl (lv_at hl 0 rfl) ?_
        refine m_get (C := RX12) (T := TX12) (N := 45) (ci := 11) (ref := "LoweredPowersModel") (v := .ref (r0 43)) C0 hM 0 rfl rfl kt_X12_image_X12 43 (by decide) kw_X12_image_16 rfl rfl dX12_image_127 ?_
        refine lv_iload_n hx hb dX12_image_130 rfl (lv_at hl 1 rfl) ?_
        refine lv_aload_n hx hb dX12_image_131 rfl (lv_at hl 0 rfl) ?_
        refine m_get (C := RX12) (T := TX12) (N := 45) (ci := 11) (ref := "LoweredPowersModel") (v := .ref (r0 17)) C0 hM 0 rfl rfl kt_X12_image_X12 17 (by decide) kw_X12_image_17 rfl rfl dX12_image_132 ?_
        refine lv_iload_n hx hb dX12_image_135 rfl (lv_at hl 1 rfl) ?_
        obtain ⟨hc2, h⟩ := h
        refine m_iald C0 hM 5 rfl hc2 dX12_image_136 ?_
        refine lv_topi (fun y3 ey3 => ?_)
        have h := h y3 ey3
        refine m_iast (ws' := [(h0, .inr (11, oX12 r0 I_0_isFound I_0_foundB I_0_changes I_0_taped I_0_size I_0_at I_0_signs I_0_wanted I_0_sign I_0_isKept I_0_keptFound I_0_keptB I_0_keptChanges)), ((r0 0), .inl (cI, 5, .inl A_0_0_f)), ((r0 1), .inl (cI, 75, .inl A_0_1_operator)), ((r0 4), .inl (cI, 75, .inl A_0_4_foundNumbers)), ((r0 5), .inl (cI, 9, .inl A_0_5_b)), ((r0 17), .inl (cI, 8, .inl A_0_17_changeWhats)), ((r0 18), .inl (cI, 8, .inl A_0_18_changeVs)), ((r0 36), .inl (cI, 5, .inl A_0_36_keptF)), ((r0 37), .inl (cI, 75, .inl A_0_37_keptOperator)), ((r0 40), .inl (cI, 75, .inl A_0_40_keptNumbers)), ((r0 41), .inl (cI, 9, .inl A_0_41_keptBs)), ((r0 43), .inl (cI, 8, .inl (upd A_0_43_keptWhats (x1).toNatClampNeg y3))), ((r0 44), .inl (cI, 8, .inl A_0_44_keptVs))]) C0 hM 11 rfl hc2 rfl dX12_image_137 (fun H locs hM => ?_)
        refine lv_aload_n hx hb dX12_image_138 rfl (lv_at hl 0 rfl) ?_
        refine m_get (C := RX12) (T := TX12) (N := 45) (ci := 11) (ref := "LoweredPowersModel") (v := .ref (r0 44)) C0 hM 0 rfl rfl kt_X12_image_X12 44 (by decide) kw_X12_image_18 rfl rfl dX12_image_139 ?_
        refine lv_iload_n hx hb dX12_image_142 rfl (lv_at hl 1 rfl) ?_
        refine lv_aload_n hx hb dX12_image_143 rfl (lv_at hl 0 rfl) ?_
        refine m_get (C := RX12) (T := TX12) (N := 45) (ci := 11) (ref := "LoweredPowersModel") (v := .ref (r0 18)) C0 hM 0 rfl rfl kt_X12_image_X12 18 (by decide) kw_X12_image_19 rfl rfl dX12_image_144 ?_
        refine lv_iload_n hx hb dX12_image_147 rfl (lv_at hl 1 rfl) ?_
        refine m_iald C0 hM 6 rfl hc2 dX12_image_148 ?_
        refine lv_topi (fun y4 ey4 => ?_)
        have h := h y4 ey4
        refine m_iast (ws' := [(h0, .inr (11, oX12 r0 I_0_isFound I_0_foundB I_0_changes I_0_taped I_0_size I_0_at I_0_signs I_0_wanted I_0_sign I_0_isKept I_0_keptFound I_0_keptB I_0_keptChanges)), ((r0 0), .inl (cI, 5, .inl A_0_0_f)), ((r0 1), .inl (cI, 75, .inl A_0_1_operator)), ((r0 4), .inl (cI, 75, .inl A_0_4_foundNumbers)), ((r0 5), .inl (cI, 9, .inl A_0_5_b)), ((r0 17), .inl (cI, 8, .inl A_0_17_changeWhats)), ((r0 18), .inl (cI, 8, .inl A_0_18_changeVs)), ((r0 36), .inl (cI, 5, .inl A_0_36_keptF)), ((r0 37), .inl (cI, 75, .inl A_0_37_keptOperator)), ((r0 40), .inl (cI, 75, .inl A_0_40_keptNumbers)), ((r0 41), .inl (cI, 9, .inl A_0_41_keptBs)), ((r0 43), .inl (cI, 8, .inl (upd A_0_43_keptWhats (x1).toNatClampNeg y3))), ((r0 44), .inl (cI, 8, .inl (upd A_0_44_keptVs (x1).toNatClampNeg y4)))]) C0 hM 12 rfl hc2 rfl dX12_image_149 (fun H locs hM => ?_)
        refine lv_iinc (v := (x1 + (1 : Int32))) (lv' := [(1, .int (x1 + (1 : Int32))), (0, .ref h0)]) hx hb dX12_image_150 hl (k := 1) rfl rfl (by decide) rfl (fun ls hl => ?_)
        refine lv_goto (tgt := 120) hx hb dX12_image_153 (by decide) ?_
        exact ih120 _ _ _ _ _ _ _ _ _ _ _ _ _ _ h hM (lv_sub hl [1, 0] rfl)
  have jq110 : ∀ (I_0_isKept : Int32) (I_0_keptFound : Int32) (I_0_keptB : Int32) (I_0_keptChanges : Int32) (A_0_36_keptF : (Nat → Int32)) (A_0_37_keptOperator : (Nat → Int32)) (A_0_40_keptNumbers : (Nat → Int32)) (A_0_41_keptBs : (Nat → Int32)) (A_0_43_keptWhats : (Nat → Int32)) (A_0_44_keptVs : (Nat → Int32)) (H : Heap) (locs : List Loc) (ls : Array Slot) , jn_X12_image_110 I_0_isFound I_0_foundB I_0_changes A_0_0_f A_0_1_operator A_0_4_foundNumbers A_0_5_b A_0_17_changeWhats A_0_18_changeVs K I_0_isKept I_0_keptFound I_0_keptB I_0_keptChanges A_0_36_keptF A_0_37_keptOperator A_0_40_keptNumbers A_0_41_keptBs A_0_43_keptWhats A_0_44_keptVs → MW D A s.heap [(h0, .inr (11, oX12 r0 I_0_isFound I_0_foundB I_0_changes I_0_taped I_0_size I_0_at I_0_signs I_0_wanted I_0_sign I_0_isKept I_0_keptFound I_0_keptB I_0_keptChanges)), ((r0 0), .inl (cI, 5, .inl A_0_0_f)), ((r0 1), .inl (cI, 75, .inl A_0_1_operator)), ((r0 4), .inl (cI, 75, .inl A_0_4_foundNumbers)), ((r0 5), .inl (cI, 9, .inl A_0_5_b)), ((r0 17), .inl (cI, 8, .inl A_0_17_changeWhats)), ((r0 18), .inl (cI, 8, .inl A_0_18_changeVs)), ((r0 36), .inl (cI, 5, .inl A_0_36_keptF)), ((r0 37), .inl (cI, 75, .inl A_0_37_keptOperator)), ((r0 40), .inl (cI, 75, .inl A_0_40_keptNumbers)), ((r0 41), .inl (cI, 9, .inl A_0_41_keptBs)), ((r0 43), .inl (cI, 8, .inl A_0_43_keptWhats)), ((r0 44), .inl (cI, 8, .inl A_0_44_keptVs))] H locs → lv_has ls 2 [(0, .ref h0)] → W p l e rm_X12_image s m args below meth c H locs 0 0 Q (F0 m 110 ls []) := by
    intro I_0_isKept I_0_keptFound I_0_keptB I_0_keptChanges A_0_36_keptF A_0_37_keptOperator A_0_40_keptNumbers A_0_41_keptBs A_0_43_keptWhats A_0_44_keptVs H locs ls h hM hl
    unfold jn_X12_image_110 at h
    refine lv_aload_n hx hb dX12_image_110 rfl (lv_at hl 0 rfl) ?_
    refine lv_aload_n hx hb dX12_image_111 rfl (lv_at hl 0 rfl) ?_
    refine m_get (C := RX12) (T := TX12) (N := 45) (ci := 11) (ref := "LoweredPowersModel") (v := .int I_0_changes) C0 hM 0 rfl rfl kt_X12_image_X12 16 (by decide) kw_X12_image_14 rfl rfl dX12_image_112 ?_
    refine m_put (ws' := [(h0, .inr (11, oX12 r0 I_0_isFound I_0_foundB I_0_changes I_0_taped I_0_size I_0_at I_0_signs I_0_wanted I_0_sign I_0_isKept I_0_keptFound I_0_keptB I_0_changes)), ((r0 0), .inl (cI, 5, .inl A_0_0_f)), ((r0 1), .inl (cI, 75, .inl A_0_1_operator)), ((r0 4), .inl (cI, 75, .inl A_0_4_foundNumbers)), ((r0 5), .inl (cI, 9, .inl A_0_5_b)), ((r0 17), .inl (cI, 8, .inl A_0_17_changeWhats)), ((r0 18), .inl (cI, 8, .inl A_0_18_changeVs)), ((r0 36), .inl (cI, 5, .inl A_0_36_keptF)), ((r0 37), .inl (cI, 75, .inl A_0_37_keptOperator)), ((r0 40), .inl (cI, 75, .inl A_0_40_keptNumbers)), ((r0 41), .inl (cI, 9, .inl A_0_41_keptBs)), ((r0 43), .inl (cI, 8, .inl A_0_43_keptWhats)), ((r0 44), .inl (cI, 8, .inl A_0_44_keptVs))]) (C := RX12) (T := TX12) (N := 45) (ci := 11) (ref := "LoweredPowersModel") (v := .int I_0_changes) C0 hM 0 rfl rfl kt_X12_image_X12 tyX12 tyX12_ok nmX12 42 (by decide) kw_X12_image_15 rfl rfl rfl rfl (Nat.le_of_ble_eq_true rfl) rfl dX12_image_115 (fun H locs hM => ?_)
    refine lv_iconst (v := (0 : Int32)) hx hb dX12_image_118 (by decide) ?_
    refine lv_istore_n (lv' := [(1, .int (0 : Int32)), (0, .ref h0)]) hx hb dX12_image_119 rfl hl (by decide) rfl (fun ls hl => ?_)
    obtain ⟨k0, h⟩ := h
    exact lq120 k0 _ _ _ _ _ _ _ _ _ _ _ _ _ _ h hM (lv_sub hl [1, 0] rfl)
  have lq86 : ∀ (k86 : Nat) (x1 : Int32) (I_0_isKept : Int32) (I_0_keptFound : Int32) (I_0_keptB : Int32) (I_0_keptChanges : Int32) (A_0_36_keptF : (Nat → Int32)) (A_0_37_keptOperator : (Nat → Int32)) (A_0_40_keptNumbers : (Nat → Int32)) (A_0_41_keptBs : (Nat → Int32)) (A_0_43_keptWhats : (Nat → Int32)) (A_0_44_keptVs : (Nat → Int32)) (H : Heap) (locs : List Loc) (ls : Array Slot) , lp_X12_image_86 I_0_isFound I_0_foundB I_0_changes A_0_0_f A_0_1_operator A_0_4_foundNumbers A_0_5_b A_0_17_changeWhats A_0_18_changeVs (jn_X12_image_110 I_0_isFound I_0_foundB I_0_changes A_0_0_f A_0_1_operator A_0_4_foundNumbers A_0_5_b A_0_17_changeWhats A_0_18_changeVs K) K k86 x1 I_0_isKept I_0_keptFound I_0_keptB I_0_keptChanges A_0_36_keptF A_0_37_keptOperator A_0_40_keptNumbers A_0_41_keptBs A_0_43_keptWhats A_0_44_keptVs → MW D A s.heap [(h0, .inr (11, oX12 r0 I_0_isFound I_0_foundB I_0_changes I_0_taped I_0_size I_0_at I_0_signs I_0_wanted I_0_sign I_0_isKept I_0_keptFound I_0_keptB I_0_keptChanges)), ((r0 0), .inl (cI, 5, .inl A_0_0_f)), ((r0 1), .inl (cI, 75, .inl A_0_1_operator)), ((r0 4), .inl (cI, 75, .inl A_0_4_foundNumbers)), ((r0 5), .inl (cI, 9, .inl A_0_5_b)), ((r0 17), .inl (cI, 8, .inl A_0_17_changeWhats)), ((r0 18), .inl (cI, 8, .inl A_0_18_changeVs)), ((r0 36), .inl (cI, 5, .inl A_0_36_keptF)), ((r0 37), .inl (cI, 75, .inl A_0_37_keptOperator)), ((r0 40), .inl (cI, 75, .inl A_0_40_keptNumbers)), ((r0 41), .inl (cI, 9, .inl A_0_41_keptBs)), ((r0 43), .inl (cI, 8, .inl A_0_43_keptWhats)), ((r0 44), .inl (cI, 8, .inl A_0_44_keptVs))] H locs → lv_has ls 2 [(0, .ref h0), (1, .int x1)] → W p l e rm_X12_image s m args below meth c H locs 0 0 Q (F0 m 86 ls []) := by
    intro k86
    induction k86 with
    | zero =>
      intro x1 I_0_isKept I_0_keptFound I_0_keptB I_0_keptChanges A_0_36_keptF A_0_37_keptOperator A_0_40_keptNumbers A_0_41_keptBs A_0_43_keptWhats A_0_44_keptVs H locs ls h
      unfold lp_X12_image_86 at h
      exact h.elim
    | succ k86 ih86 =>
      intro x1 I_0_isKept I_0_keptFound I_0_keptB I_0_keptChanges A_0_36_keptF A_0_37_keptOperator A_0_40_keptNumbers A_0_41_keptBs A_0_43_keptWhats A_0_44_keptVs H locs ls h hM hl
      unfold lp_X12_image_86 at h
      refine lv_iload_n hx hb dX12_image_86 rfl (lv_at hl 1 rfl) ?_
      refine lv_bipush (v := (9 : Int32)) hx hb dX12_image_87 (by decide) ?_
      refine lv_icmp_ge (tgt := 110) hx hb dX12_image_89 (by decide) (fun hq => ?_) (fun hq => ?_)
      · have h := h.1 hq
        exact jq110 _ _ _ _ _ _ _ _ _ _ _ _ _ h hM (lv_sub hl [0] rfl)
      · have h := h.2 hq
        refine lv_aload_n hx hb dX12_image_92 rfl (lv_at hl 0 rfl) ?_
        refine m_get (C := RX12) (T := TX12) (N := 45) (ci := 11) (ref := "LoweredPowersModel") (v := .ref (r0 41)) C0 hM 0 rfl rfl kt_X12_image_X12 41 (by decide) kw_X12_image_12 rfl rfl dX12_image_93 ?_
        refine lv_iload_n hx hb dX12_image_96 rfl (lv_at hl 1 rfl) ?_
        refine lv_aload_n hx hb dX12_image_97 rfl (lv_at hl 0 rfl) ?_
        refine m_get (C := RX12) (T := TX12) (N := 45) (ci := 11) (ref := "LoweredPowersModel") (v := .ref (r0 5)) C0 hM 0 rfl rfl kt_X12_image_X12 5 (by decide) kw_X12_image_13 rfl rfl dX12_image_98 ?_
        refine lv_iload_n hx hb dX12_image_101 rfl (lv_at hl 1 rfl) ?_
        obtain ⟨hc5, h⟩ := h
        refine m_iald C0 hM 4 rfl hc5 dX12_image_102 ?_
        refine lv_topi (fun y6 ey6 => ?_)
        have h := h y6 ey6
        refine m_iast (ws' := [(h0, .inr (11, oX12 r0 I_0_isFound I_0_foundB I_0_changes I_0_taped I_0_size I_0_at I_0_signs I_0_wanted I_0_sign I_0_isKept I_0_keptFound I_0_keptB I_0_keptChanges)), ((r0 0), .inl (cI, 5, .inl A_0_0_f)), ((r0 1), .inl (cI, 75, .inl A_0_1_operator)), ((r0 4), .inl (cI, 75, .inl A_0_4_foundNumbers)), ((r0 5), .inl (cI, 9, .inl A_0_5_b)), ((r0 17), .inl (cI, 8, .inl A_0_17_changeWhats)), ((r0 18), .inl (cI, 8, .inl A_0_18_changeVs)), ((r0 36), .inl (cI, 5, .inl A_0_36_keptF)), ((r0 37), .inl (cI, 75, .inl A_0_37_keptOperator)), ((r0 40), .inl (cI, 75, .inl A_0_40_keptNumbers)), ((r0 41), .inl (cI, 9, .inl (upd A_0_41_keptBs (x1).toNatClampNeg y6))), ((r0 43), .inl (cI, 8, .inl A_0_43_keptWhats)), ((r0 44), .inl (cI, 8, .inl A_0_44_keptVs))]) C0 hM 10 rfl hc5 rfl dX12_image_103 (fun H locs hM => ?_)
        refine lv_iinc (v := (x1 + (1 : Int32))) (lv' := [(1, .int (x1 + (1 : Int32))), (0, .ref h0)]) hx hb dX12_image_104 hl (k := 1) rfl rfl (by decide) rfl (fun ls hl => ?_)
        refine lv_goto (tgt := 86) hx hb dX12_image_107 (by decide) ?_
        exact ih86 _ _ _ _ _ _ _ _ _ _ _ _ _ _ h hM (lv_sub hl [1, 0] rfl)
  have jq68 : ∀ (I_0_isKept : Int32) (I_0_keptFound : Int32) (I_0_keptB : Int32) (I_0_keptChanges : Int32) (A_0_36_keptF : (Nat → Int32)) (A_0_37_keptOperator : (Nat → Int32)) (A_0_40_keptNumbers : (Nat → Int32)) (A_0_41_keptBs : (Nat → Int32)) (A_0_43_keptWhats : (Nat → Int32)) (A_0_44_keptVs : (Nat → Int32)) (H : Heap) (locs : List Loc) (ls : Array Slot) , jn_X12_image_68 I_0_isFound I_0_foundB I_0_changes A_0_0_f A_0_1_operator A_0_4_foundNumbers A_0_5_b A_0_17_changeWhats A_0_18_changeVs K I_0_isKept I_0_keptFound I_0_keptB I_0_keptChanges A_0_36_keptF A_0_37_keptOperator A_0_40_keptNumbers A_0_41_keptBs A_0_43_keptWhats A_0_44_keptVs → MW D A s.heap [(h0, .inr (11, oX12 r0 I_0_isFound I_0_foundB I_0_changes I_0_taped I_0_size I_0_at I_0_signs I_0_wanted I_0_sign I_0_isKept I_0_keptFound I_0_keptB I_0_keptChanges)), ((r0 0), .inl (cI, 5, .inl A_0_0_f)), ((r0 1), .inl (cI, 75, .inl A_0_1_operator)), ((r0 4), .inl (cI, 75, .inl A_0_4_foundNumbers)), ((r0 5), .inl (cI, 9, .inl A_0_5_b)), ((r0 17), .inl (cI, 8, .inl A_0_17_changeWhats)), ((r0 18), .inl (cI, 8, .inl A_0_18_changeVs)), ((r0 36), .inl (cI, 5, .inl A_0_36_keptF)), ((r0 37), .inl (cI, 75, .inl A_0_37_keptOperator)), ((r0 40), .inl (cI, 75, .inl A_0_40_keptNumbers)), ((r0 41), .inl (cI, 9, .inl A_0_41_keptBs)), ((r0 43), .inl (cI, 8, .inl A_0_43_keptWhats)), ((r0 44), .inl (cI, 8, .inl A_0_44_keptVs))] H locs → lv_has ls 2 [(0, .ref h0)] → W p l e rm_X12_image s m args below meth c H locs 0 0 Q (F0 m 68 ls []) := by
    intro I_0_isKept I_0_keptFound I_0_keptB I_0_keptChanges A_0_36_keptF A_0_37_keptOperator A_0_40_keptNumbers A_0_41_keptBs A_0_43_keptWhats A_0_44_keptVs H locs ls h hM hl
    unfold jn_X12_image_68 at h
    refine lv_aload_n hx hb dX12_image_68 rfl (lv_at hl 0 rfl) ?_
    refine lv_aload_n hx hb dX12_image_69 rfl (lv_at hl 0 rfl) ?_
    refine m_get (C := RX12) (T := TX12) (N := 45) (ci := 11) (ref := "LoweredPowersModel") (v := .int I_0_isFound) C0 hM 0 rfl rfl kt_X12_image_X12 2 (by decide) kw_X12_image_8 rfl rfl dX12_image_70 ?_
    obtain ⟨hc7, h⟩ := h
    refine m_put (ws' := [(h0, .inr (11, oX12 r0 I_0_isFound I_0_foundB I_0_changes I_0_taped I_0_size I_0_at I_0_signs I_0_wanted I_0_sign I_0_isKept I_0_isFound I_0_keptB I_0_keptChanges)), ((r0 0), .inl (cI, 5, .inl A_0_0_f)), ((r0 1), .inl (cI, 75, .inl A_0_1_operator)), ((r0 4), .inl (cI, 75, .inl A_0_4_foundNumbers)), ((r0 5), .inl (cI, 9, .inl A_0_5_b)), ((r0 17), .inl (cI, 8, .inl A_0_17_changeWhats)), ((r0 18), .inl (cI, 8, .inl A_0_18_changeVs)), ((r0 36), .inl (cI, 5, .inl A_0_36_keptF)), ((r0 37), .inl (cI, 75, .inl A_0_37_keptOperator)), ((r0 40), .inl (cI, 75, .inl A_0_40_keptNumbers)), ((r0 41), .inl (cI, 9, .inl A_0_41_keptBs)), ((r0 43), .inl (cI, 8, .inl A_0_43_keptWhats)), ((r0 44), .inl (cI, 8, .inl A_0_44_keptVs))]) (C := RX12) (T := TX12) (N := 45) (ci := 11) (ref := "LoweredPowersModel") (v := .int I_0_isFound) C0 hM 0 rfl rfl kt_X12_image_X12 tyX12 tyX12_ok nmX12 38 (by decide) kw_X12_image_9 rfl rfl hc7 (fits_z hc7) (Nat.le_of_ble_eq_true rfl) rfl dX12_image_73 (fun H locs hM => ?_)
    refine lv_aload_n hx hb dX12_image_76 rfl (lv_at hl 0 rfl) ?_
    refine lv_aload_n hx hb dX12_image_77 rfl (lv_at hl 0 rfl) ?_
    refine m_get (C := RX12) (T := TX12) (N := 45) (ci := 11) (ref := "LoweredPowersModel") (v := .int I_0_foundB) C0 hM 0 rfl rfl kt_X12_image_X12 3 (by decide) kw_X12_image_10 rfl rfl dX12_image_78 ?_
    refine m_put (ws' := [(h0, .inr (11, oX12 r0 I_0_isFound I_0_foundB I_0_changes I_0_taped I_0_size I_0_at I_0_signs I_0_wanted I_0_sign I_0_isKept I_0_isFound I_0_foundB I_0_keptChanges)), ((r0 0), .inl (cI, 5, .inl A_0_0_f)), ((r0 1), .inl (cI, 75, .inl A_0_1_operator)), ((r0 4), .inl (cI, 75, .inl A_0_4_foundNumbers)), ((r0 5), .inl (cI, 9, .inl A_0_5_b)), ((r0 17), .inl (cI, 8, .inl A_0_17_changeWhats)), ((r0 18), .inl (cI, 8, .inl A_0_18_changeVs)), ((r0 36), .inl (cI, 5, .inl A_0_36_keptF)), ((r0 37), .inl (cI, 75, .inl A_0_37_keptOperator)), ((r0 40), .inl (cI, 75, .inl A_0_40_keptNumbers)), ((r0 41), .inl (cI, 9, .inl A_0_41_keptBs)), ((r0 43), .inl (cI, 8, .inl A_0_43_keptWhats)), ((r0 44), .inl (cI, 8, .inl A_0_44_keptVs))]) (C := RX12) (T := TX12) (N := 45) (ci := 11) (ref := "LoweredPowersModel") (v := .int I_0_foundB) C0 hM 0 rfl rfl kt_X12_image_X12 tyX12 tyX12_ok nmX12 39 (by decide) kw_X12_image_11 rfl rfl rfl rfl (Nat.le_of_ble_eq_true rfl) rfl dX12_image_81 (fun H locs hM => ?_)
    refine lv_iconst (v := (0 : Int32)) hx hb dX12_image_84 (by decide) ?_
    refine lv_istore_n (lv' := [(1, .int (0 : Int32)), (0, .ref h0)]) hx hb dX12_image_85 rfl hl (by decide) rfl (fun ls hl => ?_)
    obtain ⟨k0, h⟩ := h
    exact lq86 k0 _ _ _ _ _ _ _ _ _ _ _ _ _ _ h hM (lv_sub hl [1, 0] rfl)
  have lq32 : ∀ (k32 : Nat) (x1 : Int32) (I_0_isKept : Int32) (I_0_keptFound : Int32) (I_0_keptB : Int32) (I_0_keptChanges : Int32) (A_0_36_keptF : (Nat → Int32)) (A_0_37_keptOperator : (Nat → Int32)) (A_0_40_keptNumbers : (Nat → Int32)) (A_0_41_keptBs : (Nat → Int32)) (A_0_43_keptWhats : (Nat → Int32)) (A_0_44_keptVs : (Nat → Int32)) (H : Heap) (locs : List Loc) (ls : Array Slot) , lp_X12_image_32 I_0_isFound I_0_foundB I_0_changes A_0_0_f A_0_1_operator A_0_4_foundNumbers A_0_5_b A_0_17_changeWhats A_0_18_changeVs (jn_X12_image_68 I_0_isFound I_0_foundB I_0_changes A_0_0_f A_0_1_operator A_0_4_foundNumbers A_0_5_b A_0_17_changeWhats A_0_18_changeVs K) K k32 x1 I_0_isKept I_0_keptFound I_0_keptB I_0_keptChanges A_0_36_keptF A_0_37_keptOperator A_0_40_keptNumbers A_0_41_keptBs A_0_43_keptWhats A_0_44_keptVs → MW D A s.heap [(h0, .inr (11, oX12 r0 I_0_isFound I_0_foundB I_0_changes I_0_taped I_0_size I_0_at I_0_signs I_0_wanted I_0_sign I_0_isKept I_0_keptFound I_0_keptB I_0_keptChanges)), ((r0 0), .inl (cI, 5, .inl A_0_0_f)), ((r0 1), .inl (cI, 75, .inl A_0_1_operator)), ((r0 4), .inl (cI, 75, .inl A_0_4_foundNumbers)), ((r0 5), .inl (cI, 9, .inl A_0_5_b)), ((r0 17), .inl (cI, 8, .inl A_0_17_changeWhats)), ((r0 18), .inl (cI, 8, .inl A_0_18_changeVs)), ((r0 36), .inl (cI, 5, .inl A_0_36_keptF)), ((r0 37), .inl (cI, 75, .inl A_0_37_keptOperator)), ((r0 40), .inl (cI, 75, .inl A_0_40_keptNumbers)), ((r0 41), .inl (cI, 9, .inl A_0_41_keptBs)), ((r0 43), .inl (cI, 8, .inl A_0_43_keptWhats)), ((r0 44), .inl (cI, 8, .inl A_0_44_keptVs))] H locs → lv_has ls 2 [(0, .ref h0), (1, .int x1)] → W p l e rm_X12_image s m args below meth c H locs 0 0 Q (F0 m 32 ls []) := by
    intro k32
    induction k32 with
    | zero =>
      intro x1 I_0_isKept I_0_keptFound I_0_keptB I_0_keptChanges A_0_36_keptF A_0_37_keptOperator A_0_40_keptNumbers A_0_41_keptBs A_0_43_keptWhats A_0_44_keptVs H locs ls h
      unfold lp_X12_image_32 at h
      exact h.elim
    | succ k32 ih32 =>
      intro x1 I_0_isKept I_0_keptFound I_0_keptB I_0_keptChanges A_0_36_keptF A_0_37_keptOperator A_0_40_keptNumbers A_0_41_keptBs A_0_43_keptWhats A_0_44_keptVs H locs ls h hM hl
      unfold lp_X12_image_32 at h
      refine lv_iload_n hx hb dX12_image_32 rfl (lv_at hl 1 rfl) ?_
      refine lv_bipush (v := (75 : Int32)) hx hb dX12_image_33 (by decide) ?_
      refine lv_icmp_ge (tgt := 68) hx hb dX12_image_35 (by decide) (fun hq => ?_) (fun hq => ?_)
      · have h := h.1 hq
        exact jq68 _ _ _ _ _ _ _ _ _ _ _ _ _ h hM (lv_sub hl [0] rfl)
      · have h := h.2 hq
        refine lv_aload_n hx hb dX12_image_38 rfl (lv_at hl 0 rfl) ?_
        refine m_get (C := RX12) (T := TX12) (N := 45) (ci := 11) (ref := "LoweredPowersModel") (v := .ref (r0 37)) C0 hM 0 rfl rfl kt_X12_image_X12 37 (by decide) kw_X12_image_4 rfl rfl dX12_image_39 ?_
        refine lv_iload_n hx hb dX12_image_42 rfl (lv_at hl 1 rfl) ?_
        refine lv_aload_n hx hb dX12_image_43 rfl (lv_at hl 0 rfl) ?_
        refine m_get (C := RX12) (T := TX12) (N := 45) (ci := 11) (ref := "LoweredPowersModel") (v := .ref (r0 1)) C0 hM 0 rfl rfl kt_X12_image_X12 1 (by decide) kw_X12_image_5 rfl rfl dX12_image_44 ?_
        refine lv_iload_n hx hb dX12_image_47 rfl (lv_at hl 1 rfl) ?_
        obtain ⟨hc8, h⟩ := h
        refine m_iald C0 hM 2 rfl hc8 dX12_image_48 ?_
        refine lv_topi (fun y9 ey9 => ?_)
        have h := h y9 ey9
        refine m_iast (ws' := [(h0, .inr (11, oX12 r0 I_0_isFound I_0_foundB I_0_changes I_0_taped I_0_size I_0_at I_0_signs I_0_wanted I_0_sign I_0_isKept I_0_keptFound I_0_keptB I_0_keptChanges)), ((r0 0), .inl (cI, 5, .inl A_0_0_f)), ((r0 1), .inl (cI, 75, .inl A_0_1_operator)), ((r0 4), .inl (cI, 75, .inl A_0_4_foundNumbers)), ((r0 5), .inl (cI, 9, .inl A_0_5_b)), ((r0 17), .inl (cI, 8, .inl A_0_17_changeWhats)), ((r0 18), .inl (cI, 8, .inl A_0_18_changeVs)), ((r0 36), .inl (cI, 5, .inl A_0_36_keptF)), ((r0 37), .inl (cI, 75, .inl (upd A_0_37_keptOperator (x1).toNatClampNeg y9))), ((r0 40), .inl (cI, 75, .inl A_0_40_keptNumbers)), ((r0 41), .inl (cI, 9, .inl A_0_41_keptBs)), ((r0 43), .inl (cI, 8, .inl A_0_43_keptWhats)), ((r0 44), .inl (cI, 8, .inl A_0_44_keptVs))]) C0 hM 8 rfl hc8 rfl dX12_image_49 (fun H locs hM => ?_)
        refine lv_aload_n hx hb dX12_image_50 rfl (lv_at hl 0 rfl) ?_
        refine m_get (C := RX12) (T := TX12) (N := 45) (ci := 11) (ref := "LoweredPowersModel") (v := .ref (r0 40)) C0 hM 0 rfl rfl kt_X12_image_X12 40 (by decide) kw_X12_image_6 rfl rfl dX12_image_51 ?_
        refine lv_iload_n hx hb dX12_image_54 rfl (lv_at hl 1 rfl) ?_
        refine lv_aload_n hx hb dX12_image_55 rfl (lv_at hl 0 rfl) ?_
        refine m_get (C := RX12) (T := TX12) (N := 45) (ci := 11) (ref := "LoweredPowersModel") (v := .ref (r0 4)) C0 hM 0 rfl rfl kt_X12_image_X12 4 (by decide) kw_X12_image_7 rfl rfl dX12_image_56 ?_
        refine lv_iload_n hx hb dX12_image_59 rfl (lv_at hl 1 rfl) ?_
        refine m_iald C0 hM 3 rfl hc8 dX12_image_60 ?_
        refine lv_topi (fun y10 ey10 => ?_)
        have h := h y10 ey10
        refine m_iast (ws' := [(h0, .inr (11, oX12 r0 I_0_isFound I_0_foundB I_0_changes I_0_taped I_0_size I_0_at I_0_signs I_0_wanted I_0_sign I_0_isKept I_0_keptFound I_0_keptB I_0_keptChanges)), ((r0 0), .inl (cI, 5, .inl A_0_0_f)), ((r0 1), .inl (cI, 75, .inl A_0_1_operator)), ((r0 4), .inl (cI, 75, .inl A_0_4_foundNumbers)), ((r0 5), .inl (cI, 9, .inl A_0_5_b)), ((r0 17), .inl (cI, 8, .inl A_0_17_changeWhats)), ((r0 18), .inl (cI, 8, .inl A_0_18_changeVs)), ((r0 36), .inl (cI, 5, .inl A_0_36_keptF)), ((r0 37), .inl (cI, 75, .inl (upd A_0_37_keptOperator (x1).toNatClampNeg y9))), ((r0 40), .inl (cI, 75, .inl (upd A_0_40_keptNumbers (x1).toNatClampNeg y10))), ((r0 41), .inl (cI, 9, .inl A_0_41_keptBs)), ((r0 43), .inl (cI, 8, .inl A_0_43_keptWhats)), ((r0 44), .inl (cI, 8, .inl A_0_44_keptVs))]) C0 hM 9 rfl hc8 rfl dX12_image_61 (fun H locs hM => ?_)
        refine lv_iinc (v := (x1 + (1 : Int32))) (lv' := [(1, .int (x1 + (1 : Int32))), (0, .ref h0)]) hx hb dX12_image_62 hl (k := 1) rfl rfl (by decide) rfl (fun ls hl => ?_)
        refine lv_goto (tgt := 32) hx hb dX12_image_65 (by decide) ?_
        exact ih32 _ _ _ _ _ _ _ _ _ _ _ _ _ _ h hM (lv_sub hl [1, 0] rfl)
  have jq30 : ∀ (I_0_isKept : Int32) (I_0_keptFound : Int32) (I_0_keptB : Int32) (I_0_keptChanges : Int32) (A_0_36_keptF : (Nat → Int32)) (A_0_37_keptOperator : (Nat → Int32)) (A_0_40_keptNumbers : (Nat → Int32)) (A_0_41_keptBs : (Nat → Int32)) (A_0_43_keptWhats : (Nat → Int32)) (A_0_44_keptVs : (Nat → Int32)) (H : Heap) (locs : List Loc) (ls : Array Slot) , jn_X12_image_30 I_0_isFound I_0_foundB I_0_changes A_0_0_f A_0_1_operator A_0_4_foundNumbers A_0_5_b A_0_17_changeWhats A_0_18_changeVs K I_0_isKept I_0_keptFound I_0_keptB I_0_keptChanges A_0_36_keptF A_0_37_keptOperator A_0_40_keptNumbers A_0_41_keptBs A_0_43_keptWhats A_0_44_keptVs → MW D A s.heap [(h0, .inr (11, oX12 r0 I_0_isFound I_0_foundB I_0_changes I_0_taped I_0_size I_0_at I_0_signs I_0_wanted I_0_sign I_0_isKept I_0_keptFound I_0_keptB I_0_keptChanges)), ((r0 0), .inl (cI, 5, .inl A_0_0_f)), ((r0 1), .inl (cI, 75, .inl A_0_1_operator)), ((r0 4), .inl (cI, 75, .inl A_0_4_foundNumbers)), ((r0 5), .inl (cI, 9, .inl A_0_5_b)), ((r0 17), .inl (cI, 8, .inl A_0_17_changeWhats)), ((r0 18), .inl (cI, 8, .inl A_0_18_changeVs)), ((r0 36), .inl (cI, 5, .inl A_0_36_keptF)), ((r0 37), .inl (cI, 75, .inl A_0_37_keptOperator)), ((r0 40), .inl (cI, 75, .inl A_0_40_keptNumbers)), ((r0 41), .inl (cI, 9, .inl A_0_41_keptBs)), ((r0 43), .inl (cI, 8, .inl A_0_43_keptWhats)), ((r0 44), .inl (cI, 8, .inl A_0_44_keptVs))] H locs → lv_has ls 2 [(0, .ref h0)] → W p l e rm_X12_image s m args below meth c H locs 0 0 Q (F0 m 30 ls []) := by
    intro I_0_isKept I_0_keptFound I_0_keptB I_0_keptChanges A_0_36_keptF A_0_37_keptOperator A_0_40_keptNumbers A_0_41_keptBs A_0_43_keptWhats A_0_44_keptVs H locs ls h hM hl
    unfold jn_X12_image_30 at h
    refine lv_iconst (v := (0 : Int32)) hx hb dX12_image_30 (by decide) ?_
    refine lv_istore_n (lv' := [(1, .int (0 : Int32)), (0, .ref h0)]) hx hb dX12_image_31 rfl hl (by decide) rfl (fun ls hl => ?_)
    obtain ⟨k0, h⟩ := h
    exact lq32 k0 _ _ _ _ _ _ _ _ _ _ _ _ _ _ h hM (lv_sub hl [1, 0] rfl)
  have lq7 : ∀ (k7 : Nat) (x1 : Int32) (I_0_isKept : Int32) (I_0_keptFound : Int32) (I_0_keptB : Int32) (I_0_keptChanges : Int32) (A_0_36_keptF : (Nat → Int32)) (A_0_37_keptOperator : (Nat → Int32)) (A_0_40_keptNumbers : (Nat → Int32)) (A_0_41_keptBs : (Nat → Int32)) (A_0_43_keptWhats : (Nat → Int32)) (A_0_44_keptVs : (Nat → Int32)) (H : Heap) (locs : List Loc) (ls : Array Slot) , lp_X12_image_7 I_0_isFound I_0_foundB I_0_changes A_0_0_f A_0_1_operator A_0_4_foundNumbers A_0_5_b A_0_17_changeWhats A_0_18_changeVs (jn_X12_image_30 I_0_isFound I_0_foundB I_0_changes A_0_0_f A_0_1_operator A_0_4_foundNumbers A_0_5_b A_0_17_changeWhats A_0_18_changeVs K) K k7 x1 I_0_isKept I_0_keptFound I_0_keptB I_0_keptChanges A_0_36_keptF A_0_37_keptOperator A_0_40_keptNumbers A_0_41_keptBs A_0_43_keptWhats A_0_44_keptVs → MW D A s.heap [(h0, .inr (11, oX12 r0 I_0_isFound I_0_foundB I_0_changes I_0_taped I_0_size I_0_at I_0_signs I_0_wanted I_0_sign I_0_isKept I_0_keptFound I_0_keptB I_0_keptChanges)), ((r0 0), .inl (cI, 5, .inl A_0_0_f)), ((r0 1), .inl (cI, 75, .inl A_0_1_operator)), ((r0 4), .inl (cI, 75, .inl A_0_4_foundNumbers)), ((r0 5), .inl (cI, 9, .inl A_0_5_b)), ((r0 17), .inl (cI, 8, .inl A_0_17_changeWhats)), ((r0 18), .inl (cI, 8, .inl A_0_18_changeVs)), ((r0 36), .inl (cI, 5, .inl A_0_36_keptF)), ((r0 37), .inl (cI, 75, .inl A_0_37_keptOperator)), ((r0 40), .inl (cI, 75, .inl A_0_40_keptNumbers)), ((r0 41), .inl (cI, 9, .inl A_0_41_keptBs)), ((r0 43), .inl (cI, 8, .inl A_0_43_keptWhats)), ((r0 44), .inl (cI, 8, .inl A_0_44_keptVs))] H locs → lv_has ls 2 [(0, .ref h0), (1, .int x1)] → W p l e rm_X12_image s m args below meth c H locs 0 0 Q (F0 m 7 ls []) := by
    intro k7
    induction k7 with
    | zero =>
      intro x1 I_0_isKept I_0_keptFound I_0_keptB I_0_keptChanges A_0_36_keptF A_0_37_keptOperator A_0_40_keptNumbers A_0_41_keptBs A_0_43_keptWhats A_0_44_keptVs H locs ls h
      unfold lp_X12_image_7 at h
      exact h.elim
    | succ k7 ih7 =>
      intro x1 I_0_isKept I_0_keptFound I_0_keptB I_0_keptChanges A_0_36_keptF A_0_37_keptOperator A_0_40_keptNumbers A_0_41_keptBs A_0_43_keptWhats A_0_44_keptVs H locs ls h hM hl
      unfold lp_X12_image_7 at h
      refine lv_iload_n hx hb dX12_image_7 rfl (lv_at hl 1 rfl) ?_
      refine lv_iconst (v := (5 : Int32)) hx hb dX12_image_8 (by decide) ?_
      refine lv_icmp_ge (tgt := 30) hx hb dX12_image_9 (by decide) (fun hq => ?_) (fun hq => ?_)
      · have h := h.1 hq
        exact jq30 _ _ _ _ _ _ _ _ _ _ _ _ _ h hM (lv_sub hl [0] rfl)
      · have h := h.2 hq
        refine lv_aload_n hx hb dX12_image_12 rfl (lv_at hl 0 rfl) ?_
        refine m_get (C := RX12) (T := TX12) (N := 45) (ci := 11) (ref := "LoweredPowersModel") (v := .ref (r0 36)) C0 hM 0 rfl rfl kt_X12_image_X12 36 (by decide) kw_X12_image_2 rfl rfl dX12_image_13 ?_
        refine lv_iload_n hx hb dX12_image_16 rfl (lv_at hl 1 rfl) ?_
        refine lv_aload_n hx hb dX12_image_17 rfl (lv_at hl 0 rfl) ?_
        refine m_get (C := RX12) (T := TX12) (N := 45) (ci := 11) (ref := "LoweredPowersModel") (v := .ref (r0 0)) C0 hM 0 rfl rfl kt_X12_image_X12 0 (by decide) kw_X12_image_3 rfl rfl dX12_image_18 ?_
        refine lv_iload_n hx hb dX12_image_21 rfl (lv_at hl 1 rfl) ?_
        obtain ⟨hc11, h⟩ := h
        refine m_iald C0 hM 1 rfl hc11 dX12_image_22 ?_
        refine lv_topi (fun y12 ey12 => ?_)
        have h := h y12 ey12
        refine m_iast (ws' := [(h0, .inr (11, oX12 r0 I_0_isFound I_0_foundB I_0_changes I_0_taped I_0_size I_0_at I_0_signs I_0_wanted I_0_sign I_0_isKept I_0_keptFound I_0_keptB I_0_keptChanges)), ((r0 0), .inl (cI, 5, .inl A_0_0_f)), ((r0 1), .inl (cI, 75, .inl A_0_1_operator)), ((r0 4), .inl (cI, 75, .inl A_0_4_foundNumbers)), ((r0 5), .inl (cI, 9, .inl A_0_5_b)), ((r0 17), .inl (cI, 8, .inl A_0_17_changeWhats)), ((r0 18), .inl (cI, 8, .inl A_0_18_changeVs)), ((r0 36), .inl (cI, 5, .inl (upd A_0_36_keptF (x1).toNatClampNeg y12))), ((r0 37), .inl (cI, 75, .inl A_0_37_keptOperator)), ((r0 40), .inl (cI, 75, .inl A_0_40_keptNumbers)), ((r0 41), .inl (cI, 9, .inl A_0_41_keptBs)), ((r0 43), .inl (cI, 8, .inl A_0_43_keptWhats)), ((r0 44), .inl (cI, 8, .inl A_0_44_keptVs))]) C0 hM 7 rfl hc11 rfl dX12_image_23 (fun H locs hM => ?_)
        refine lv_iinc (v := (x1 + (1 : Int32))) (lv' := [(1, .int (x1 + (1 : Int32))), (0, .ref h0)]) hx hb dX12_image_24 hl (k := 1) rfl rfl (by decide) rfl (fun ls hl => ?_)
        refine lv_goto (tgt := 7) hx hb dX12_image_27 (by decide) ?_
        exact ih7 _ _ _ _ _ _ _ _ _ _ _ _ _ _ h hM (lv_sub hl [1, 0] rfl)
  unfold wp_X12_image at h
  refine lv_aload_n hx hb dX12_image_0 rfl (lv_at hl 0 rfl) ?_
  refine lv_iconst (v := (1 : Int32)) hx hb dX12_image_1 (by decide) ?_
  refine m_put (ws' := [(h0, .inr (11, oX12 r0 I_0_isFound I_0_foundB I_0_changes I_0_taped I_0_size I_0_at I_0_signs I_0_wanted I_0_sign (1 : Int32) I_0_keptFound I_0_keptB I_0_keptChanges)), ((r0 0), .inl (cI, 5, .inl A_0_0_f)), ((r0 1), .inl (cI, 75, .inl A_0_1_operator)), ((r0 4), .inl (cI, 75, .inl A_0_4_foundNumbers)), ((r0 5), .inl (cI, 9, .inl A_0_5_b)), ((r0 17), .inl (cI, 8, .inl A_0_17_changeWhats)), ((r0 18), .inl (cI, 8, .inl A_0_18_changeVs)), ((r0 36), .inl (cI, 5, .inl A_0_36_keptF)), ((r0 37), .inl (cI, 75, .inl A_0_37_keptOperator)), ((r0 40), .inl (cI, 75, .inl A_0_40_keptNumbers)), ((r0 41), .inl (cI, 9, .inl A_0_41_keptBs)), ((r0 43), .inl (cI, 8, .inl A_0_43_keptWhats)), ((r0 44), .inl (cI, 8, .inl A_0_44_keptVs))]) (C := RX12) (T := TX12) (N := 45) (ci := 11) (ref := "LoweredPowersModel") (v := .int (1 : Int32)) C0 hM 0 rfl rfl kt_X12_image_X12 tyX12 tyX12_ok nmX12 35 (by decide) kw_X12_image_1 rfl rfl rfl rfl (Nat.le_of_ble_eq_true rfl) rfl dX12_image_2 (fun H locs hM => ?_)
  refine lv_iconst (v := (0 : Int32)) hx hb dX12_image_5 (by decide) ?_
  refine lv_istore_n (lv' := [(1, .int (0 : Int32)), (0, .ref h0)]) hx hb dX12_image_6 rfl hl (by decide) rfl (fun ls hl => ?_)
  obtain ⟨k0, h⟩ := h
  exact lq7 k0 _ _ _ _ _ _ _ _ _ _ _ _ _ _ h hM (lv_sub hl [1, 0] rfl)
abbrev rm_X12_undo : Room := { frames := 1, cells := 0, slots := 0, locals := 21 }
set_option maxRecDepth 100000 in
set_option maxHeartbeats 4000000 in
theorem ct_X12_undo (l : Launch) (D : va_G) (cI cJ cZ : ClassId) (h0 : Nat) (r0 : Nat → Nat) (I_0_isFound : Int32) (I_0_foundB : Int32) (I_0_changes : Int32) (I_0_taped : Int32) (I_0_size : Int32) (I_0_at : Int32) (I_0_signs : Int32) (I_0_wanted : Int32) (I_0_sign : Int32) (I_0_isKept : Int32) (I_0_keptFound : Int32) (I_0_keptB : Int32) (I_0_keptChanges : Int32) (A_0_0_f : (Nat → Int32)) (A_0_1_operator : (Nat → Int32)) (A_0_4_foundNumbers : (Nat → Int32)) (A_0_5_b : (Nat → Int32)) (A_0_17_changeWhats : (Nat → Int32)) (A_0_18_changeVs : (Nat → Int32)) (A_0_36_keptF : (Nat → Int32)) (A_0_37_keptOperator : (Nat → Int32)) (A_0_40_keptNumbers : (Nat → Int32)) (A_0_41_keptBs : (Nat → Int32)) (A_0_43_keptWhats : (Nat → Int32)) (A_0_44_keptVs : (Nat → Int32)) (sz : Nat) (K : Int32 → Int32 → Int32 → Int32 → (Nat → Int32) → (Nat → Int32) → (Nat → Int32) → (Nat → Int32) → (Nat → Int32) → (Nat → Int32) → Prop) (h : wp_X12_undo I_0_isFound I_0_foundB I_0_changes I_0_isKept I_0_keptFound I_0_keptB I_0_keptChanges A_0_0_f A_0_1_operator A_0_4_foundNumbers A_0_5_b A_0_17_changeWhats A_0_18_changeVs A_0_36_keptF A_0_37_keptOperator A_0_40_keptNumbers A_0_41_keptBs A_0_43_keptWhats A_0_44_keptVs K) : Met l yX12_undo wsX12_undo rm_X12_undo (va_Pc [.ref h0] (WX D cI cJ cZ [(h0, .inr (11, oX12 r0 I_0_isFound I_0_foundB I_0_changes I_0_taped I_0_size I_0_at I_0_signs I_0_wanted I_0_sign I_0_isKept I_0_keptFound I_0_keptB I_0_keptChanges)), ((r0 0), .inl (cI, 5, .inl A_0_0_f)), ((r0 1), .inl (cI, 75, .inl A_0_1_operator)), ((r0 4), .inl (cI, 75, .inl A_0_4_foundNumbers)), ((r0 5), .inl (cI, 9, .inl A_0_5_b)), ((r0 17), .inl (cI, 8, .inl A_0_17_changeWhats)), ((r0 18), .inl (cI, 8, .inl A_0_18_changeVs)), ((r0 36), .inl (cI, 5, .inl A_0_36_keptF)), ((r0 37), .inl (cI, 75, .inl A_0_37_keptOperator)), ((r0 40), .inl (cI, 75, .inl A_0_40_keptNumbers)), ((r0 41), .inl (cI, 9, .inl A_0_41_keptBs)), ((r0 43), .inl (cI, 8, .inl A_0_43_keptWhats)), ((r0 44), .inl (cI, 8, .inl A_0_44_keptVs))] sz)) (va_Qi (fun (r : Int32) (u : Int32 × Int32 × Int32 × (Nat → Int32) × (Nat → Int32) × (Nat → Int32) × (Nat → Int32) × (Nat → Int32) × (Nat → Int32)) => K r u.1 u.2.1 u.2.2.1 u.2.2.2.1 u.2.2.2.2.1 u.2.2.2.2.2.1 u.2.2.2.2.2.2.1 u.2.2.2.2.2.2.2.1 u.2.2.2.2.2.2.2.2) (fun (u : Int32 × Int32 × Int32 × (Nat → Int32) × (Nat → Int32) × (Nat → Int32) × (Nat → Int32) × (Nat → Int32) × (Nat → Int32)) t => WY D (va_A [(h0, .inr (11, oX12 r0 I_0_isFound I_0_foundB I_0_changes I_0_taped I_0_size I_0_at I_0_signs I_0_wanted I_0_sign I_0_isKept I_0_keptFound I_0_keptB I_0_keptChanges)), ((r0 0), .inl (cI, 5, .inl A_0_0_f)), ((r0 1), .inl (cI, 75, .inl A_0_1_operator)), ((r0 4), .inl (cI, 75, .inl A_0_4_foundNumbers)), ((r0 5), .inl (cI, 9, .inl A_0_5_b)), ((r0 17), .inl (cI, 8, .inl A_0_17_changeWhats)), ((r0 18), .inl (cI, 8, .inl A_0_18_changeVs)), ((r0 36), .inl (cI, 5, .inl A_0_36_keptF)), ((r0 37), .inl (cI, 75, .inl A_0_37_keptOperator)), ((r0 40), .inl (cI, 75, .inl A_0_40_keptNumbers)), ((r0 41), .inl (cI, 9, .inl A_0_41_keptBs)), ((r0 43), .inl (cI, 8, .inl A_0_43_keptWhats)), ((r0 44), .inl (cI, 8, .inl A_0_44_keptVs))] sz) [(h0, .inr (11, oX12 r0 u.1 u.2.1 u.2.2.1 I_0_taped I_0_size I_0_at I_0_signs I_0_wanted I_0_sign I_0_isKept I_0_keptFound I_0_keptB I_0_keptChanges)), ((r0 0), .inl (cI, 5, .inl u.2.2.2.1)), ((r0 1), .inl (cI, 75, .inl u.2.2.2.2.1)), ((r0 4), .inl (cI, 75, .inl u.2.2.2.2.2.1)), ((r0 5), .inl (cI, 9, .inl u.2.2.2.2.2.2.1)), ((r0 17), .inl (cI, 8, .inl u.2.2.2.2.2.2.2.1)), ((r0 18), .inl (cI, 8, .inl u.2.2.2.2.2.2.2.2)), ((r0 36), .inl (cI, 5, .inl A_0_36_keptF)), ((r0 37), .inl (cI, 75, .inl A_0_37_keptOperator)), ((r0 40), .inl (cI, 75, .inl A_0_40_keptNumbers)), ((r0 41), .inl (cI, 9, .inl A_0_41_keptBs)), ((r0 43), .inl (cI, 8, .inl A_0_43_keptWhats)), ((r0 44), .inl (cI, 8, .inl A_0_44_keptVs))] t) (va_A [(h0, .inr (11, oX12 r0 I_0_isFound I_0_foundB I_0_changes I_0_taped I_0_size I_0_at I_0_signs I_0_wanted I_0_sign I_0_isKept I_0_keptFound I_0_keptB I_0_keptChanges)), ((r0 0), .inl (cI, 5, .inl A_0_0_f)), ((r0 1), .inl (cI, 75, .inl A_0_1_operator)), ((r0 4), .inl (cI, 75, .inl A_0_4_foundNumbers)), ((r0 5), .inl (cI, 9, .inl A_0_5_b)), ((r0 17), .inl (cI, 8, .inl A_0_17_changeWhats)), ((r0 18), .inl (cI, 8, .inl A_0_18_changeVs)), ((r0 36), .inl (cI, 5, .inl A_0_36_keptF)), ((r0 37), .inl (cI, 75, .inl A_0_37_keptOperator)), ((r0 40), .inl (cI, 75, .inl A_0_40_keptNumbers)), ((r0 41), .inl (cI, 9, .inl A_0_41_keptBs)), ((r0 43), .inl (cI, 8, .inl A_0_43_keptWhats)), ((r0 44), .inl (cI, 8, .inl A_0_44_keptVs))] sz)) 0 0 (va_A [(h0, .inr (11, oX12 r0 I_0_isFound I_0_foundB I_0_changes I_0_taped I_0_size I_0_at I_0_signs I_0_wanted I_0_sign I_0_isKept I_0_keptFound I_0_keptB I_0_keptChanges)), ((r0 0), .inl (cI, 5, .inl A_0_0_f)), ((r0 1), .inl (cI, 75, .inl A_0_1_operator)), ((r0 4), .inl (cI, 75, .inl A_0_4_foundNumbers)), ((r0 5), .inl (cI, 9, .inl A_0_5_b)), ((r0 17), .inl (cI, 8, .inl A_0_17_changeWhats)), ((r0 18), .inl (cI, 8, .inl A_0_18_changeVs)), ((r0 36), .inl (cI, 5, .inl A_0_36_keptF)), ((r0 37), .inl (cI, 75, .inl A_0_37_keptOperator)), ((r0 40), .inl (cI, 75, .inl A_0_40_keptNumbers)), ((r0 41), .inl (cI, 9, .inl A_0_41_keptBs)), ((r0 43), .inl (cI, 8, .inl A_0_43_keptWhats)), ((r0 44), .inl (cI, 8, .inl A_0_44_keptVs))] sz) := by
  refine m_met (own := RX12) (cc := cX12_undo) (maxL := 2) (ret := some .int) [.ref h0] [(0, .ref h0)] (by decide) rfl rfl (Nat.le_of_ble_eq_true rfl) rfl ?_
  intro p e s m args below meth c Q A hQ hA C0 hr hnm hsz hM ls hl
  have hx := C0.1
  have hb := C0.2.1
  have hown := C0.2.2.2.1
  have jq161 : ∀ (I_0_isFound : Int32) (I_0_foundB : Int32) (I_0_changes : Int32) (A_0_0_f : (Nat → Int32)) (A_0_1_operator : (Nat → Int32)) (A_0_4_foundNumbers : (Nat → Int32)) (A_0_5_b : (Nat → Int32)) (A_0_17_changeWhats : (Nat → Int32)) (A_0_18_changeVs : (Nat → Int32)) (H : Heap) (locs : List Loc) (ls : Array Slot) , jn_X12_undo_161 I_0_isKept I_0_keptFound I_0_keptB I_0_keptChanges A_0_36_keptF A_0_37_keptOperator A_0_40_keptNumbers A_0_41_keptBs A_0_43_keptWhats A_0_44_keptVs K I_0_isFound I_0_foundB I_0_changes A_0_0_f A_0_1_operator A_0_4_foundNumbers A_0_5_b A_0_17_changeWhats A_0_18_changeVs → MW D A s.heap [(h0, .inr (11, oX12 r0 I_0_isFound I_0_foundB I_0_changes I_0_taped I_0_size I_0_at I_0_signs I_0_wanted I_0_sign I_0_isKept I_0_keptFound I_0_keptB I_0_keptChanges)), ((r0 0), .inl (cI, 5, .inl A_0_0_f)), ((r0 1), .inl (cI, 75, .inl A_0_1_operator)), ((r0 4), .inl (cI, 75, .inl A_0_4_foundNumbers)), ((r0 5), .inl (cI, 9, .inl A_0_5_b)), ((r0 17), .inl (cI, 8, .inl A_0_17_changeWhats)), ((r0 18), .inl (cI, 8, .inl A_0_18_changeVs)), ((r0 36), .inl (cI, 5, .inl A_0_36_keptF)), ((r0 37), .inl (cI, 75, .inl A_0_37_keptOperator)), ((r0 40), .inl (cI, 75, .inl A_0_40_keptNumbers)), ((r0 41), .inl (cI, 9, .inl A_0_41_keptBs)), ((r0 43), .inl (cI, 8, .inl A_0_43_keptWhats)), ((r0 44), .inl (cI, 8, .inl A_0_44_keptVs))] H locs → lv_has ls 2 [(0, .ref h0)] → W p l e rm_X12_undo s m args below meth c H locs 0 0 Q (F0 m 161 ls []) := by
    intro I_0_isFound I_0_foundB I_0_changes A_0_0_f A_0_1_operator A_0_4_foundNumbers A_0_5_b A_0_17_changeWhats A_0_18_changeVs H locs ls h hM hl
    unfold jn_X12_undo_161 at h
    refine lv_aload_n hx hb dX12_undo_161 rfl (lv_at hl 0 rfl) ?_
    refine m_calli (wc := [(h0, .inr (11, oX12 r0 I_0_isFound I_0_foundB I_0_changes I_0_taped I_0_size I_0_at I_0_signs I_0_wanted I_0_sign I_0_isKept I_0_keptFound I_0_keptB I_0_keptChanges)), ((r0 0), .inl (cI, 5, .inl A_0_0_f))]) C0 hM [0, 1] rfl (m_runV (wc := [(h0, .inr (11, oX12 r0 I_0_isFound I_0_foundB I_0_changes I_0_taped I_0_size I_0_at I_0_signs I_0_wanted I_0_sign I_0_isKept I_0_keptFound I_0_keptB I_0_keptChanges)), ((r0 0), .inl (cI, 5, .inl A_0_0_f))]) (As := []) (rest := []) (ci := 11) C0 hM (ct_X12_degreeOf l D cI cJ cZ h0 r0 I_0_isFound I_0_foundB I_0_changes I_0_taped I_0_size I_0_at I_0_signs I_0_wanted I_0_sign I_0_isKept I_0_keptFound I_0_keptB I_0_keptChanges A_0_0_f _ _ h) [0, 1] rfl (by decide) gX12_undo_X12_degreeOf rfl rfl rfl rfl rfl hd_X12_degreeOf ⟨Nat.le_of_ble_eq_true rfl, Nat.le_of_ble_eq_true rfl⟩ rfl hl.1 rfl (Nat.le_of_ble_eq_true rfl) dX12_undo_162 ⟨Nat.le_of_ble_eq_true rfl, Nat.le_of_ble_eq_true rfl⟩) (fun _ => [(h0, .inr (11, oX12 r0 I_0_isFound I_0_foundB I_0_changes I_0_taped I_0_size I_0_at I_0_signs I_0_wanted I_0_sign I_0_isKept I_0_keptFound I_0_keptB I_0_keptChanges)), ((r0 0), .inl (cI, 5, .inl A_0_0_f)), ((r0 1), .inl (cI, 75, .inl A_0_1_operator)), ((r0 4), .inl (cI, 75, .inl A_0_4_foundNumbers)), ((r0 5), .inl (cI, 9, .inl A_0_5_b)), ((r0 17), .inl (cI, 8, .inl A_0_17_changeWhats)), ((r0 18), .inl (cI, 8, .inl A_0_18_changeVs)), ((r0 36), .inl (cI, 5, .inl A_0_36_keptF)), ((r0 37), .inl (cI, 75, .inl A_0_37_keptOperator)), ((r0 40), .inl (cI, 75, .inl A_0_40_keptNumbers)), ((r0 41), .inl (cI, 9, .inl A_0_41_keptBs)), ((r0 43), .inl (cI, 8, .inl A_0_43_keptWhats)), ((r0 44), .inl (cI, 8, .inl A_0_44_keptVs))]) (fun _ => rfl) (fun _ => rfl) (fun y1 _ H locs h hM => ?_)
    subst hsz; subst hA; subst hQ
    exact m_iret C0 hr hM (I_0_isFound, I_0_foundB, I_0_changes, A_0_0_f, A_0_1_operator, A_0_4_foundNumbers, A_0_5_b, A_0_17_changeWhats, A_0_18_changeVs) h rfl dX12_undo_165
  have lq125 : ∀ (k125 : Nat) (x1 : Int32) (I_0_isFound : Int32) (I_0_foundB : Int32) (I_0_changes : Int32) (A_0_0_f : (Nat → Int32)) (A_0_1_operator : (Nat → Int32)) (A_0_4_foundNumbers : (Nat → Int32)) (A_0_5_b : (Nat → Int32)) (A_0_17_changeWhats : (Nat → Int32)) (A_0_18_changeVs : (Nat → Int32)) (H : Heap) (locs : List Loc) (ls : Array Slot) , lp_X12_undo_125 I_0_isKept I_0_keptFound I_0_keptB I_0_keptChanges A_0_36_keptF A_0_37_keptOperator A_0_40_keptNumbers A_0_41_keptBs A_0_43_keptWhats A_0_44_keptVs (jn_X12_undo_161 I_0_isKept I_0_keptFound I_0_keptB I_0_keptChanges A_0_36_keptF A_0_37_keptOperator A_0_40_keptNumbers A_0_41_keptBs A_0_43_keptWhats A_0_44_keptVs K) K k125 x1 I_0_isFound I_0_foundB I_0_changes A_0_0_f A_0_1_operator A_0_4_foundNumbers A_0_5_b A_0_17_changeWhats A_0_18_changeVs → MW D A s.heap [(h0, .inr (11, oX12 r0 I_0_isFound I_0_foundB I_0_changes I_0_taped I_0_size I_0_at I_0_signs I_0_wanted I_0_sign I_0_isKept I_0_keptFound I_0_keptB I_0_keptChanges)), ((r0 0), .inl (cI, 5, .inl A_0_0_f)), ((r0 1), .inl (cI, 75, .inl A_0_1_operator)), ((r0 4), .inl (cI, 75, .inl A_0_4_foundNumbers)), ((r0 5), .inl (cI, 9, .inl A_0_5_b)), ((r0 17), .inl (cI, 8, .inl A_0_17_changeWhats)), ((r0 18), .inl (cI, 8, .inl A_0_18_changeVs)), ((r0 36), .inl (cI, 5, .inl A_0_36_keptF)), ((r0 37), .inl (cI, 75, .inl A_0_37_keptOperator)), ((r0 40), .inl (cI, 75, .inl A_0_40_keptNumbers)), ((r0 41), .inl (cI, 9, .inl A_0_41_keptBs)), ((r0 43), .inl (cI, 8, .inl A_0_43_keptWhats)), ((r0 44), .inl (cI, 8, .inl A_0_44_keptVs))] H locs → lv_has ls 2 [(0, .ref h0), (1, .int x1)] → W p l e rm_X12_undo s m args below meth c H locs 0 0 Q (F0 m 125 ls []) := by
    intro k125
    induction k125 with
    | zero =>
      intro x1 I_0_isFound I_0_foundB I_0_changes A_0_0_f A_0_1_operator A_0_4_foundNumbers A_0_5_b A_0_17_changeWhats A_0_18_changeVs H locs ls h
      unfold lp_X12_undo_125 at h
      exact h.elim
    | succ k125 ih125 =>
      intro x1 I_0_isFound I_0_foundB I_0_changes A_0_0_f A_0_1_operator A_0_4_foundNumbers A_0_5_b A_0_17_changeWhats A_0_18_changeVs H locs ls h hM hl
      unfold lp_X12_undo_125 at h
      refine lv_iload_n hx hb dX12_undo_125 rfl (lv_at hl 1 rfl) ?_
      refine lv_bipush (v := (8 : Int32)) hx hb dX12_undo_126 (by decide) ?_
      refine lv_icmp_ge (tgt := 161) hx hb dX12_undo_128 (by decide) (fun hq => ?_) (fun hq => ?_)
      · have h := h.1 hq
        exact jq161 _ _ _ _ _ _ _ _ _ _ _ _ h hM (lv_sub hl [0] rfl)
      · have h := h.2 hq
        refine lv_aload_n hx hb dX12_undo_131 rfl (lv_at hl 0 rfl) ?_
        refine m_get (C := RX12) (T := TX12) (N := 45) (ci := 11) (ref := "LoweredPowersModel") (v := .ref (r0 17)) C0 hM 0 rfl rfl kt_X12_undo_X12 17 (by decide) kw_X12_undo_16 rfl rfl dX12_undo_132 ?_
        refine lv_iload_n hx hb dX12_undo_135 rfl (lv_at hl 1 rfl) ?_
        refine lv_aload_n hx hb dX12_undo_136 rfl (lv_at hl 0 rfl) ?_
        refine m_get (C := RX12) (T := TX12) (N := 45) (ci := 11) (ref := "LoweredPowersModel") (v := .ref (r0 43)) C0 hM 0 rfl rfl kt_X12_undo_X12 43 (by decide) kw_X12_undo_17 rfl rfl dX12_undo_137 ?_
        refine lv_iload_n hx hb dX12_undo_140 rfl (lv_at hl 1 rfl) ?_
        obtain ⟨hc2, h⟩ := h
        refine m_iald C0 hM 11 rfl hc2 dX12_undo_141 ?_
        refine lv_topi (fun y3 ey3 => ?_)
        have h := h y3 ey3
        refine m_iast (ws' := [(h0, .inr (11, oX12 r0 I_0_isFound I_0_foundB I_0_changes I_0_taped I_0_size I_0_at I_0_signs I_0_wanted I_0_sign I_0_isKept I_0_keptFound I_0_keptB I_0_keptChanges)), ((r0 0), .inl (cI, 5, .inl A_0_0_f)), ((r0 1), .inl (cI, 75, .inl A_0_1_operator)), ((r0 4), .inl (cI, 75, .inl A_0_4_foundNumbers)), ((r0 5), .inl (cI, 9, .inl A_0_5_b)), ((r0 17), .inl (cI, 8, .inl (upd A_0_17_changeWhats (x1).toNatClampNeg y3))), ((r0 18), .inl (cI, 8, .inl A_0_18_changeVs)), ((r0 36), .inl (cI, 5, .inl A_0_36_keptF)), ((r0 37), .inl (cI, 75, .inl A_0_37_keptOperator)), ((r0 40), .inl (cI, 75, .inl A_0_40_keptNumbers)), ((r0 41), .inl (cI, 9, .inl A_0_41_keptBs)), ((r0 43), .inl (cI, 8, .inl A_0_43_keptWhats)), ((r0 44), .inl (cI, 8, .inl A_0_44_keptVs))]) C0 hM 5 rfl hc2 rfl dX12_undo_142 (fun H locs hM => ?_)
        refine lv_aload_n hx hb dX12_undo_143 rfl (lv_at hl 0 rfl) ?_
        refine m_get (C := RX12) (T := TX12) (N := 45) (ci := 11) (ref := "LoweredPowersModel") (v := .ref (r0 18)) C0 hM 0 rfl rfl kt_X12_undo_X12 18 (by decide) kw_X12_undo_18 rfl rfl dX12_undo_144 ?_
        refine lv_iload_n hx hb dX12_undo_147 rfl (lv_at hl 1 rfl) ?_
        refine lv_aload_n hx hb dX12_undo_148 rfl (lv_at hl 0 rfl) ?_
        refine m_get (C := RX12) (T := TX12) (N := 45) (ci := 11) (ref := "LoweredPowersModel") (v := .ref (r0 44)) C0 hM 0 rfl rfl kt_X12_undo_X12 44 (by decide) kw_X12_undo_19 rfl rfl dX12_undo_149 ?_
        refine lv_iload_n hx hb dX12_undo_152 rfl (lv_at hl 1 rfl) ?_
        refine m_iald C0 hM 12 rfl hc2 dX12_undo_153 ?_
        refine lv_topi (fun y4 ey4 => ?_)
        have h := h y4 ey4
        refine m_iast (ws' := [(h0, .inr (11, oX12 r0 I_0_isFound I_0_foundB I_0_changes I_0_taped I_0_size I_0_at I_0_signs I_0_wanted I_0_sign I_0_isKept I_0_keptFound I_0_keptB I_0_keptChanges)), ((r0 0), .inl (cI, 5, .inl A_0_0_f)), ((r0 1), .inl (cI, 75, .inl A_0_1_operator)), ((r0 4), .inl (cI, 75, .inl A_0_4_foundNumbers)), ((r0 5), .inl (cI, 9, .inl A_0_5_b)), ((r0 17), .inl (cI, 8, .inl (upd A_0_17_changeWhats (x1).toNatClampNeg y3))), ((r0 18), .inl (cI, 8, .inl (upd A_0_18_changeVs (x1).toNatClampNeg y4))), ((r0 36), .inl (cI, 5, .inl A_0_36_keptF)), ((r0 37), .inl (cI, 75, .inl A_0_37_keptOperator)), ((r0 40), .inl (cI, 75, .inl A_0_40_keptNumbers)), ((r0 41), .inl (cI, 9, .inl A_0_41_keptBs)), ((r0 43), .inl (cI, 8, .inl A_0_43_keptWhats)), ((r0 44), .inl (cI, 8, .inl A_0_44_keptVs))]) C0 hM 6 rfl hc2 rfl dX12_undo_154 (fun H locs hM => ?_)
        refine lv_iinc (v := (x1 + (1 : Int32))) (lv' := [(1, .int (x1 + (1 : Int32))), (0, .ref h0)]) hx hb dX12_undo_155 hl (k := 1) rfl rfl (by decide) rfl (fun ls hl => ?_)
        refine lv_goto (tgt := 125) hx hb dX12_undo_158 (by decide) ?_
        exact ih125 _ _ _ _ _ _ _ _ _ _ _ _ _ h hM (lv_sub hl [1, 0] rfl)
  have jq115 : ∀ (I_0_isFound : Int32) (I_0_foundB : Int32) (I_0_changes : Int32) (A_0_0_f : (Nat → Int32)) (A_0_1_operator : (Nat → Int32)) (A_0_4_foundNumbers : (Nat → Int32)) (A_0_5_b : (Nat → Int32)) (A_0_17_changeWhats : (Nat → Int32)) (A_0_18_changeVs : (Nat → Int32)) (H : Heap) (locs : List Loc) (ls : Array Slot) , jn_X12_undo_115 I_0_isKept I_0_keptFound I_0_keptB I_0_keptChanges A_0_36_keptF A_0_37_keptOperator A_0_40_keptNumbers A_0_41_keptBs A_0_43_keptWhats A_0_44_keptVs K I_0_isFound I_0_foundB I_0_changes A_0_0_f A_0_1_operator A_0_4_foundNumbers A_0_5_b A_0_17_changeWhats A_0_18_changeVs → MW D A s.heap [(h0, .inr (11, oX12 r0 I_0_isFound I_0_foundB I_0_changes I_0_taped I_0_size I_0_at I_0_signs I_0_wanted I_0_sign I_0_isKept I_0_keptFound I_0_keptB I_0_keptChanges)), ((r0 0), .inl (cI, 5, .inl A_0_0_f)), ((r0 1), .inl (cI, 75, .inl A_0_1_operator)), ((r0 4), .inl (cI, 75, .inl A_0_4_foundNumbers)), ((r0 5), .inl (cI, 9, .inl A_0_5_b)), ((r0 17), .inl (cI, 8, .inl A_0_17_changeWhats)), ((r0 18), .inl (cI, 8, .inl A_0_18_changeVs)), ((r0 36), .inl (cI, 5, .inl A_0_36_keptF)), ((r0 37), .inl (cI, 75, .inl A_0_37_keptOperator)), ((r0 40), .inl (cI, 75, .inl A_0_40_keptNumbers)), ((r0 41), .inl (cI, 9, .inl A_0_41_keptBs)), ((r0 43), .inl (cI, 8, .inl A_0_43_keptWhats)), ((r0 44), .inl (cI, 8, .inl A_0_44_keptVs))] H locs → lv_has ls 2 [(0, .ref h0)] → W p l e rm_X12_undo s m args below meth c H locs 0 0 Q (F0 m 115 ls []) := by
    intro I_0_isFound I_0_foundB I_0_changes A_0_0_f A_0_1_operator A_0_4_foundNumbers A_0_5_b A_0_17_changeWhats A_0_18_changeVs H locs ls h hM hl
    unfold jn_X12_undo_115 at h
    refine lv_aload_n hx hb dX12_undo_115 rfl (lv_at hl 0 rfl) ?_
    refine lv_aload_n hx hb dX12_undo_116 rfl (lv_at hl 0 rfl) ?_
    refine m_get (C := RX12) (T := TX12) (N := 45) (ci := 11) (ref := "LoweredPowersModel") (v := .int I_0_keptChanges) C0 hM 0 rfl rfl kt_X12_undo_X12 42 (by decide) kw_X12_undo_14 rfl rfl dX12_undo_117 ?_
    refine m_put (ws' := [(h0, .inr (11, oX12 r0 I_0_isFound I_0_foundB I_0_keptChanges I_0_taped I_0_size I_0_at I_0_signs I_0_wanted I_0_sign I_0_isKept I_0_keptFound I_0_keptB I_0_keptChanges)), ((r0 0), .inl (cI, 5, .inl A_0_0_f)), ((r0 1), .inl (cI, 75, .inl A_0_1_operator)), ((r0 4), .inl (cI, 75, .inl A_0_4_foundNumbers)), ((r0 5), .inl (cI, 9, .inl A_0_5_b)), ((r0 17), .inl (cI, 8, .inl A_0_17_changeWhats)), ((r0 18), .inl (cI, 8, .inl A_0_18_changeVs)), ((r0 36), .inl (cI, 5, .inl A_0_36_keptF)), ((r0 37), .inl (cI, 75, .inl A_0_37_keptOperator)), ((r0 40), .inl (cI, 75, .inl A_0_40_keptNumbers)), ((r0 41), .inl (cI, 9, .inl A_0_41_keptBs)), ((r0 43), .inl (cI, 8, .inl A_0_43_keptWhats)), ((r0 44), .inl (cI, 8, .inl A_0_44_keptVs))]) (C := RX12) (T := TX12) (N := 45) (ci := 11) (ref := "LoweredPowersModel") (v := .int I_0_keptChanges) C0 hM 0 rfl rfl kt_X12_undo_X12 tyX12 tyX12_ok nmX12 16 (by decide) kw_X12_undo_15 rfl rfl rfl rfl (Nat.le_of_ble_eq_true rfl) rfl dX12_undo_120 (fun H locs hM => ?_)
    refine lv_iconst (v := (0 : Int32)) hx hb dX12_undo_123 (by decide) ?_
    refine lv_istore_n (lv' := [(1, .int (0 : Int32)), (0, .ref h0)]) hx hb dX12_undo_124 rfl hl (by decide) rfl (fun ls hl => ?_)
    obtain ⟨k0, h⟩ := h
    exact lq125 k0 _ _ _ _ _ _ _ _ _ _ _ _ _ h hM (lv_sub hl [1, 0] rfl)
  have lq91 : ∀ (k91 : Nat) (x1 : Int32) (I_0_isFound : Int32) (I_0_foundB : Int32) (I_0_changes : Int32) (A_0_0_f : (Nat → Int32)) (A_0_1_operator : (Nat → Int32)) (A_0_4_foundNumbers : (Nat → Int32)) (A_0_5_b : (Nat → Int32)) (A_0_17_changeWhats : (Nat → Int32)) (A_0_18_changeVs : (Nat → Int32)) (H : Heap) (locs : List Loc) (ls : Array Slot) , lp_X12_undo_91 I_0_isKept I_0_keptFound I_0_keptB I_0_keptChanges A_0_36_keptF A_0_37_keptOperator A_0_40_keptNumbers A_0_41_keptBs A_0_43_keptWhats A_0_44_keptVs (jn_X12_undo_115 I_0_isKept I_0_keptFound I_0_keptB I_0_keptChanges A_0_36_keptF A_0_37_keptOperator A_0_40_keptNumbers A_0_41_keptBs A_0_43_keptWhats A_0_44_keptVs K) K k91 x1 I_0_isFound I_0_foundB I_0_changes A_0_0_f A_0_1_operator A_0_4_foundNumbers A_0_5_b A_0_17_changeWhats A_0_18_changeVs → MW D A s.heap [(h0, .inr (11, oX12 r0 I_0_isFound I_0_foundB I_0_changes I_0_taped I_0_size I_0_at I_0_signs I_0_wanted I_0_sign I_0_isKept I_0_keptFound I_0_keptB I_0_keptChanges)), ((r0 0), .inl (cI, 5, .inl A_0_0_f)), ((r0 1), .inl (cI, 75, .inl A_0_1_operator)), ((r0 4), .inl (cI, 75, .inl A_0_4_foundNumbers)), ((r0 5), .inl (cI, 9, .inl A_0_5_b)), ((r0 17), .inl (cI, 8, .inl A_0_17_changeWhats)), ((r0 18), .inl (cI, 8, .inl A_0_18_changeVs)), ((r0 36), .inl (cI, 5, .inl A_0_36_keptF)), ((r0 37), .inl (cI, 75, .inl A_0_37_keptOperator)), ((r0 40), .inl (cI, 75, .inl A_0_40_keptNumbers)), ((r0 41), .inl (cI, 9, .inl A_0_41_keptBs)), ((r0 43), .inl (cI, 8, .inl A_0_43_keptWhats)), ((r0 44), .inl (cI, 8, .inl A_0_44_keptVs))] H locs → lv_has ls 2 [(0, .ref h0), (1, .int x1)] → W p l e rm_X12_undo s m args below meth c H locs 0 0 Q (F0 m 91 ls []) := by
    intro k91
    induction k91 with
    | zero =>
      intro x1 I_0_isFound I_0_foundB I_0_changes A_0_0_f A_0_1_operator A_0_4_foundNumbers A_0_5_b A_0_17_changeWhats A_0_18_changeVs H locs ls h
      unfold lp_X12_undo_91 at h
      exact h.elim
    | succ k91 ih91 =>
      intro x1 I_0_isFound I_0_foundB I_0_changes A_0_0_f A_0_1_operator A_0_4_foundNumbers A_0_5_b A_0_17_changeWhats A_0_18_changeVs H locs ls h hM hl
      unfold lp_X12_undo_91 at h
      refine lv_iload_n hx hb dX12_undo_91 rfl (lv_at hl 1 rfl) ?_
      refine lv_bipush (v := (9 : Int32)) hx hb dX12_undo_92 (by decide) ?_
      refine lv_icmp_ge (tgt := 115) hx hb dX12_undo_94 (by decide) (fun hq => ?_) (fun hq => ?_)
      · have h := h.1 hq
        exact jq115 _ _ _ _ _ _ _ _ _ _ _ _ h hM (lv_sub hl [0] rfl)
      · have h := h.2 hq
        refine lv_aload_n hx hb dX12_undo_97 rfl (lv_at hl 0 rfl) ?_
        refine m_get (C := RX12) (T := TX12) (N := 45) (ci := 11) (ref := "LoweredPowersModel") (v := .ref (r0 5)) C0 hM 0 rfl rfl kt_X12_undo_X12 5 (by decide) kw_X12_undo_12 rfl rfl dX12_undo_98 ?_
        refine lv_iload_n hx hb dX12_undo_101 rfl (lv_at hl 1 rfl) ?_
        refine lv_aload_n hx hb dX12_undo_102 rfl (lv_at hl 0 rfl) ?_
        refine m_get (C := RX12) (T := TX12) (N := 45) (ci := 11) (ref := "LoweredPowersModel") (v := .ref (r0 41)) C0 hM 0 rfl rfl kt_X12_undo_X12 41 (by decide) kw_X12_undo_13 rfl rfl dX12_undo_103 ?_
        refine lv_iload_n hx hb dX12_undo_106 rfl (lv_at hl 1 rfl) ?_
        obtain ⟨hc5, h⟩ := h
        refine m_iald C0 hM 10 rfl hc5 dX12_undo_107 ?_
        refine lv_topi (fun y6 ey6 => ?_)
        have h := h y6 ey6
        refine m_iast (ws' := [(h0, .inr (11, oX12 r0 I_0_isFound I_0_foundB I_0_changes I_0_taped I_0_size I_0_at I_0_signs I_0_wanted I_0_sign I_0_isKept I_0_keptFound I_0_keptB I_0_keptChanges)), ((r0 0), .inl (cI, 5, .inl A_0_0_f)), ((r0 1), .inl (cI, 75, .inl A_0_1_operator)), ((r0 4), .inl (cI, 75, .inl A_0_4_foundNumbers)), ((r0 5), .inl (cI, 9, .inl (upd A_0_5_b (x1).toNatClampNeg y6))), ((r0 17), .inl (cI, 8, .inl A_0_17_changeWhats)), ((r0 18), .inl (cI, 8, .inl A_0_18_changeVs)), ((r0 36), .inl (cI, 5, .inl A_0_36_keptF)), ((r0 37), .inl (cI, 75, .inl A_0_37_keptOperator)), ((r0 40), .inl (cI, 75, .inl A_0_40_keptNumbers)), ((r0 41), .inl (cI, 9, .inl A_0_41_keptBs)), ((r0 43), .inl (cI, 8, .inl A_0_43_keptWhats)), ((r0 44), .inl (cI, 8, .inl A_0_44_keptVs))]) C0 hM 4 rfl hc5 rfl dX12_undo_108 (fun H locs hM => ?_)
        refine lv_iinc (v := (x1 + (1 : Int32))) (lv' := [(1, .int (x1 + (1 : Int32))), (0, .ref h0)]) hx hb dX12_undo_109 hl (k := 1) rfl rfl (by decide) rfl (fun ls hl => ?_)
        refine lv_goto (tgt := 91) hx hb dX12_undo_112 (by decide) ?_
        exact ih91 _ _ _ _ _ _ _ _ _ _ _ _ _ h hM (lv_sub hl [1, 0] rfl)
  have jq73 : ∀ (I_0_isFound : Int32) (I_0_foundB : Int32) (I_0_changes : Int32) (A_0_0_f : (Nat → Int32)) (A_0_1_operator : (Nat → Int32)) (A_0_4_foundNumbers : (Nat → Int32)) (A_0_5_b : (Nat → Int32)) (A_0_17_changeWhats : (Nat → Int32)) (A_0_18_changeVs : (Nat → Int32)) (H : Heap) (locs : List Loc) (ls : Array Slot) , jn_X12_undo_73 I_0_isKept I_0_keptFound I_0_keptB I_0_keptChanges A_0_36_keptF A_0_37_keptOperator A_0_40_keptNumbers A_0_41_keptBs A_0_43_keptWhats A_0_44_keptVs K I_0_isFound I_0_foundB I_0_changes A_0_0_f A_0_1_operator A_0_4_foundNumbers A_0_5_b A_0_17_changeWhats A_0_18_changeVs → MW D A s.heap [(h0, .inr (11, oX12 r0 I_0_isFound I_0_foundB I_0_changes I_0_taped I_0_size I_0_at I_0_signs I_0_wanted I_0_sign I_0_isKept I_0_keptFound I_0_keptB I_0_keptChanges)), ((r0 0), .inl (cI, 5, .inl A_0_0_f)), ((r0 1), .inl (cI, 75, .inl A_0_1_operator)), ((r0 4), .inl (cI, 75, .inl A_0_4_foundNumbers)), ((r0 5), .inl (cI, 9, .inl A_0_5_b)), ((r0 17), .inl (cI, 8, .inl A_0_17_changeWhats)), ((r0 18), .inl (cI, 8, .inl A_0_18_changeVs)), ((r0 36), .inl (cI, 5, .inl A_0_36_keptF)), ((r0 37), .inl (cI, 75, .inl A_0_37_keptOperator)), ((r0 40), .inl (cI, 75, .inl A_0_40_keptNumbers)), ((r0 41), .inl (cI, 9, .inl A_0_41_keptBs)), ((r0 43), .inl (cI, 8, .inl A_0_43_keptWhats)), ((r0 44), .inl (cI, 8, .inl A_0_44_keptVs))] H locs → lv_has ls 2 [(0, .ref h0)] → W p l e rm_X12_undo s m args below meth c H locs 0 0 Q (F0 m 73 ls []) := by
    intro I_0_isFound I_0_foundB I_0_changes A_0_0_f A_0_1_operator A_0_4_foundNumbers A_0_5_b A_0_17_changeWhats A_0_18_changeVs H locs ls h hM hl
    unfold jn_X12_undo_73 at h
    refine lv_aload_n hx hb dX12_undo_73 rfl (lv_at hl 0 rfl) ?_
    refine lv_aload_n hx hb dX12_undo_74 rfl (lv_at hl 0 rfl) ?_
    refine m_get (C := RX12) (T := TX12) (N := 45) (ci := 11) (ref := "LoweredPowersModel") (v := .int I_0_keptFound) C0 hM 0 rfl rfl kt_X12_undo_X12 38 (by decide) kw_X12_undo_8 rfl rfl dX12_undo_75 ?_
    obtain ⟨hc7, h⟩ := h
    refine m_put (ws' := [(h0, .inr (11, oX12 r0 I_0_keptFound I_0_foundB I_0_changes I_0_taped I_0_size I_0_at I_0_signs I_0_wanted I_0_sign I_0_isKept I_0_keptFound I_0_keptB I_0_keptChanges)), ((r0 0), .inl (cI, 5, .inl A_0_0_f)), ((r0 1), .inl (cI, 75, .inl A_0_1_operator)), ((r0 4), .inl (cI, 75, .inl A_0_4_foundNumbers)), ((r0 5), .inl (cI, 9, .inl A_0_5_b)), ((r0 17), .inl (cI, 8, .inl A_0_17_changeWhats)), ((r0 18), .inl (cI, 8, .inl A_0_18_changeVs)), ((r0 36), .inl (cI, 5, .inl A_0_36_keptF)), ((r0 37), .inl (cI, 75, .inl A_0_37_keptOperator)), ((r0 40), .inl (cI, 75, .inl A_0_40_keptNumbers)), ((r0 41), .inl (cI, 9, .inl A_0_41_keptBs)), ((r0 43), .inl (cI, 8, .inl A_0_43_keptWhats)), ((r0 44), .inl (cI, 8, .inl A_0_44_keptVs))]) (C := RX12) (T := TX12) (N := 45) (ci := 11) (ref := "LoweredPowersModel") (v := .int I_0_keptFound) C0 hM 0 rfl rfl kt_X12_undo_X12 tyX12 tyX12_ok nmX12 2 (by decide) kw_X12_undo_9 rfl rfl hc7 (fits_z hc7) (Nat.le_of_ble_eq_true rfl) rfl dX12_undo_78 (fun H locs hM => ?_)
    refine lv_aload_n hx hb dX12_undo_81 rfl (lv_at hl 0 rfl) ?_
    refine lv_aload_n hx hb dX12_undo_82 rfl (lv_at hl 0 rfl) ?_
    refine m_get (C := RX12) (T := TX12) (N := 45) (ci := 11) (ref := "LoweredPowersModel") (v := .int I_0_keptB) C0 hM 0 rfl rfl kt_X12_undo_X12 39 (by decide) kw_X12_undo_10 rfl rfl dX12_undo_83 ?_
    refine m_put (ws' := [(h0, .inr (11, oX12 r0 I_0_keptFound I_0_keptB I_0_changes I_0_taped I_0_size I_0_at I_0_signs I_0_wanted I_0_sign I_0_isKept I_0_keptFound I_0_keptB I_0_keptChanges)), ((r0 0), .inl (cI, 5, .inl A_0_0_f)), ((r0 1), .inl (cI, 75, .inl A_0_1_operator)), ((r0 4), .inl (cI, 75, .inl A_0_4_foundNumbers)), ((r0 5), .inl (cI, 9, .inl A_0_5_b)), ((r0 17), .inl (cI, 8, .inl A_0_17_changeWhats)), ((r0 18), .inl (cI, 8, .inl A_0_18_changeVs)), ((r0 36), .inl (cI, 5, .inl A_0_36_keptF)), ((r0 37), .inl (cI, 75, .inl A_0_37_keptOperator)), ((r0 40), .inl (cI, 75, .inl A_0_40_keptNumbers)), ((r0 41), .inl (cI, 9, .inl A_0_41_keptBs)), ((r0 43), .inl (cI, 8, .inl A_0_43_keptWhats)), ((r0 44), .inl (cI, 8, .inl A_0_44_keptVs))]) (C := RX12) (T := TX12) (N := 45) (ci := 11) (ref := "LoweredPowersModel") (v := .int I_0_keptB) C0 hM 0 rfl rfl kt_X12_undo_X12 tyX12 tyX12_ok nmX12 3 (by decide) kw_X12_undo_11 rfl rfl rfl rfl (Nat.le_of_ble_eq_true rfl) rfl dX12_undo_86 (fun H locs hM => ?_)
    refine lv_iconst (v := (0 : Int32)) hx hb dX12_undo_89 (by decide) ?_
    refine lv_istore_n (lv' := [(1, .int (0 : Int32)), (0, .ref h0)]) hx hb dX12_undo_90 rfl hl (by decide) rfl (fun ls hl => ?_)
    obtain ⟨k0, h⟩ := h
    exact lq91 k0 _ _ _ _ _ _ _ _ _ _ _ _ _ h hM (lv_sub hl [1, 0] rfl)
  have lq37 : ∀ (k37 : Nat) (x1 : Int32) (I_0_isFound : Int32) (I_0_foundB : Int32) (I_0_changes : Int32) (A_0_0_f : (Nat → Int32)) (A_0_1_operator : (Nat → Int32)) (A_0_4_foundNumbers : (Nat → Int32)) (A_0_5_b : (Nat → Int32)) (A_0_17_changeWhats : (Nat → Int32)) (A_0_18_changeVs : (Nat → Int32)) (H : Heap) (locs : List Loc) (ls : Array Slot) , lp_X12_undo_37 I_0_isKept I_0_keptFound I_0_keptB I_0_keptChanges A_0_36_keptF A_0_37_keptOperator A_0_40_keptNumbers A_0_41_keptBs A_0_43_keptWhats A_0_44_keptVs (jn_X12_undo_73 I_0_isKept I_0_keptFound I_0_keptB I_0_keptChanges A_0_36_keptF A_0_37_keptOperator A_0_40_keptNumbers A_0_41_keptBs A_0_43_keptWhats A_0_44_keptVs K) K k37 x1 I_0_isFound I_0_foundB I_0_changes A_0_0_f A_0_1_operator A_0_4_foundNumbers A_0_5_b A_0_17_changeWhats A_0_18_changeVs → MW D A s.heap [(h0, .inr (11, oX12 r0 I_0_isFound I_0_foundB I_0_changes I_0_taped I_0_size I_0_at I_0_signs I_0_wanted I_0_sign I_0_isKept I_0_keptFound I_0_keptB I_0_keptChanges)), ((r0 0), .inl (cI, 5, .inl A_0_0_f)), ((r0 1), .inl (cI, 75, .inl A_0_1_operator)), ((r0 4), .inl (cI, 75, .inl A_0_4_foundNumbers)), ((r0 5), .inl (cI, 9, .inl A_0_5_b)), ((r0 17), .inl (cI, 8, .inl A_0_17_changeWhats)), ((r0 18), .inl (cI, 8, .inl A_0_18_changeVs)), ((r0 36), .inl (cI, 5, .inl A_0_36_keptF)), ((r0 37), .inl (cI, 75, .inl A_0_37_keptOperator)), ((r0 40), .inl (cI, 75, .inl A_0_40_keptNumbers)), ((r0 41), .inl (cI, 9, .inl A_0_41_keptBs)), ((r0 43), .inl (cI, 8, .inl A_0_43_keptWhats)), ((r0 44), .inl (cI, 8, .inl A_0_44_keptVs))] H locs → lv_has ls 2 [(0, .ref h0), (1, .int x1)] → W p l e rm_X12_undo s m args below meth c H locs 0 0 Q (F0 m 37 ls []) := by
    intro k37
    induction k37 with
    | zero =>
      intro x1 I_0_isFound I_0_foundB I_0_changes A_0_0_f A_0_1_operator A_0_4_foundNumbers A_0_5_b A_0_17_changeWhats A_0_18_changeVs H locs ls h
      unfold lp_X12_undo_37 at h
      exact h.elim
    | succ k37 ih37 =>
      intro x1 I_0_isFound I_0_foundB I_0_changes A_0_0_f A_0_1_operator A_0_4_foundNumbers A_0_5_b A_0_17_changeWhats A_0_18_changeVs H locs ls h hM hl
      unfold lp_X12_undo_37 at h
      refine lv_iload_n hx hb dX12_undo_37 rfl (lv_at hl 1 rfl) ?_
      refine lv_bipush (v := (75 : Int32)) hx hb dX12_undo_38 (by decide) ?_
      refine lv_icmp_ge (tgt := 73) hx hb dX12_undo_40 (by decide) (fun hq => ?_) (fun hq => ?_)
      · have h := h.1 hq
        exact jq73 _ _ _ _ _ _ _ _ _ _ _ _ h hM (lv_sub hl [0] rfl)
      · have h := h.2 hq
        refine lv_aload_n hx hb dX12_undo_43 rfl (lv_at hl 0 rfl) ?_
        refine m_get (C := RX12) (T := TX12) (N := 45) (ci := 11) (ref := "LoweredPowersModel") (v := .ref (r0 1)) C0 hM 0 rfl rfl kt_X12_undo_X12 1 (by decide) kw_X12_undo_4 rfl rfl dX12_undo_44 ?_
        refine lv_iload_n hx hb dX12_undo_47 rfl (lv_at hl 1 rfl) ?_
        refine lv_aload_n hx hb dX12_undo_48 rfl (lv_at hl 0 rfl) ?_
        refine m_get (C := RX12) (T := TX12) (N := 45) (ci := 11) (ref := "LoweredPowersModel") (v := .ref (r0 37)) C0 hM 0 rfl rfl kt_X12_undo_X12 37 (by decide) kw_X12_undo_5 rfl rfl dX12_undo_49 ?_
        refine lv_iload_n hx hb dX12_undo_52 rfl (lv_at hl 1 rfl) ?_
        obtain ⟨hc8, h⟩ := h
        refine m_iald C0 hM 8 rfl hc8 dX12_undo_53 ?_
        refine lv_topi (fun y9 ey9 => ?_)
        have h := h y9 ey9
        refine m_iast (ws' := [(h0, .inr (11, oX12 r0 I_0_isFound I_0_foundB I_0_changes I_0_taped I_0_size I_0_at I_0_signs I_0_wanted I_0_sign I_0_isKept I_0_keptFound I_0_keptB I_0_keptChanges)), ((r0 0), .inl (cI, 5, .inl A_0_0_f)), ((r0 1), .inl (cI, 75, .inl (upd A_0_1_operator (x1).toNatClampNeg y9))), ((r0 4), .inl (cI, 75, .inl A_0_4_foundNumbers)), ((r0 5), .inl (cI, 9, .inl A_0_5_b)), ((r0 17), .inl (cI, 8, .inl A_0_17_changeWhats)), ((r0 18), .inl (cI, 8, .inl A_0_18_changeVs)), ((r0 36), .inl (cI, 5, .inl A_0_36_keptF)), ((r0 37), .inl (cI, 75, .inl A_0_37_keptOperator)), ((r0 40), .inl (cI, 75, .inl A_0_40_keptNumbers)), ((r0 41), .inl (cI, 9, .inl A_0_41_keptBs)), ((r0 43), .inl (cI, 8, .inl A_0_43_keptWhats)), ((r0 44), .inl (cI, 8, .inl A_0_44_keptVs))]) C0 hM 2 rfl hc8 rfl dX12_undo_54 (fun H locs hM => ?_)
        refine lv_aload_n hx hb dX12_undo_55 rfl (lv_at hl 0 rfl) ?_
        refine m_get (C := RX12) (T := TX12) (N := 45) (ci := 11) (ref := "LoweredPowersModel") (v := .ref (r0 4)) C0 hM 0 rfl rfl kt_X12_undo_X12 4 (by decide) kw_X12_undo_6 rfl rfl dX12_undo_56 ?_
        refine lv_iload_n hx hb dX12_undo_59 rfl (lv_at hl 1 rfl) ?_
        refine lv_aload_n hx hb dX12_undo_60 rfl (lv_at hl 0 rfl) ?_
        refine m_get (C := RX12) (T := TX12) (N := 45) (ci := 11) (ref := "LoweredPowersModel") (v := .ref (r0 40)) C0 hM 0 rfl rfl kt_X12_undo_X12 40 (by decide) kw_X12_undo_7 rfl rfl dX12_undo_61 ?_
        refine lv_iload_n hx hb dX12_undo_64 rfl (lv_at hl 1 rfl) ?_
        refine m_iald C0 hM 9 rfl hc8 dX12_undo_65 ?_
        refine lv_topi (fun y10 ey10 => ?_)
        have h := h y10 ey10
        refine m_iast (ws' := [(h0, .inr (11, oX12 r0 I_0_isFound I_0_foundB I_0_changes I_0_taped I_0_size I_0_at I_0_signs I_0_wanted I_0_sign I_0_isKept I_0_keptFound I_0_keptB I_0_keptChanges)), ((r0 0), .inl (cI, 5, .inl A_0_0_f)), ((r0 1), .inl (cI, 75, .inl (upd A_0_1_operator (x1).toNatClampNeg y9))), ((r0 4), .inl (cI, 75, .inl (upd A_0_4_foundNumbers (x1).toNatClampNeg y10))), ((r0 5), .inl (cI, 9, .inl A_0_5_b)), ((r0 17), .inl (cI, 8, .inl A_0_17_changeWhats)), ((r0 18), .inl (cI, 8, .inl A_0_18_changeVs)), ((r0 36), .inl (cI, 5, .inl A_0_36_keptF)), ((r0 37), .inl (cI, 75, .inl A_0_37_keptOperator)), ((r0 40), .inl (cI, 75, .inl A_0_40_keptNumbers)), ((r0 41), .inl (cI, 9, .inl A_0_41_keptBs)), ((r0 43), .inl (cI, 8, .inl A_0_43_keptWhats)), ((r0 44), .inl (cI, 8, .inl A_0_44_keptVs))]) C0 hM 3 rfl hc8 rfl dX12_undo_66 (fun H locs hM => ?_)
        refine lv_iinc (v := (x1 + (1 : Int32))) (lv' := [(1, .int (x1 + (1 : Int32))), (0, .ref h0)]) hx hb dX12_undo_67 hl (k := 1) rfl rfl (by decide) rfl (fun ls hl => ?_)
        refine lv_goto (tgt := 37) hx hb dX12_undo_70 (by decide) ?_
        exact ih37 _ _ _ _ _ _ _ _ _ _ _ _ _ h hM (lv_sub hl [1, 0] rfl)
  have jq35 : ∀ (I_0_isFound : Int32) (I_0_foundB : Int32) (I_0_changes : Int32) (A_0_0_f : (Nat → Int32)) (A_0_1_operator : (Nat → Int32)) (A_0_4_foundNumbers : (Nat → Int32)) (A_0_5_b : (Nat → Int32)) (A_0_17_changeWhats : (Nat → Int32)) (A_0_18_changeVs : (Nat → Int32)) (H : Heap) (locs : List Loc) (ls : Array Slot) , jn_X12_undo_35 I_0_isKept I_0_keptFound I_0_keptB I_0_keptChanges A_0_36_keptF A_0_37_keptOperator A_0_40_keptNumbers A_0_41_keptBs A_0_43_keptWhats A_0_44_keptVs K I_0_isFound I_0_foundB I_0_changes A_0_0_f A_0_1_operator A_0_4_foundNumbers A_0_5_b A_0_17_changeWhats A_0_18_changeVs → MW D A s.heap [(h0, .inr (11, oX12 r0 I_0_isFound I_0_foundB I_0_changes I_0_taped I_0_size I_0_at I_0_signs I_0_wanted I_0_sign I_0_isKept I_0_keptFound I_0_keptB I_0_keptChanges)), ((r0 0), .inl (cI, 5, .inl A_0_0_f)), ((r0 1), .inl (cI, 75, .inl A_0_1_operator)), ((r0 4), .inl (cI, 75, .inl A_0_4_foundNumbers)), ((r0 5), .inl (cI, 9, .inl A_0_5_b)), ((r0 17), .inl (cI, 8, .inl A_0_17_changeWhats)), ((r0 18), .inl (cI, 8, .inl A_0_18_changeVs)), ((r0 36), .inl (cI, 5, .inl A_0_36_keptF)), ((r0 37), .inl (cI, 75, .inl A_0_37_keptOperator)), ((r0 40), .inl (cI, 75, .inl A_0_40_keptNumbers)), ((r0 41), .inl (cI, 9, .inl A_0_41_keptBs)), ((r0 43), .inl (cI, 8, .inl A_0_43_keptWhats)), ((r0 44), .inl (cI, 8, .inl A_0_44_keptVs))] H locs → lv_has ls 2 [(0, .ref h0)] → W p l e rm_X12_undo s m args below meth c H locs 0 0 Q (F0 m 35 ls []) := by
    intro I_0_isFound I_0_foundB I_0_changes A_0_0_f A_0_1_operator A_0_4_foundNumbers A_0_5_b A_0_17_changeWhats A_0_18_changeVs H locs ls h hM hl
    unfold jn_X12_undo_35 at h
    refine lv_iconst (v := (0 : Int32)) hx hb dX12_undo_35 (by decide) ?_
    refine lv_istore_n (lv' := [(1, .int (0 : Int32)), (0, .ref h0)]) hx hb dX12_undo_36 rfl hl (by decide) rfl (fun ls hl => ?_)
    obtain ⟨k0, h⟩ := h
    exact lq37 k0 _ _ _ _ _ _ _ _ _ _ _ _ _ h hM (lv_sub hl [1, 0] rfl)
  have lq12 : ∀ (k12 : Nat) (x1 : Int32) (I_0_isFound : Int32) (I_0_foundB : Int32) (I_0_changes : Int32) (A_0_0_f : (Nat → Int32)) (A_0_1_operator : (Nat → Int32)) (A_0_4_foundNumbers : (Nat → Int32)) (A_0_5_b : (Nat → Int32)) (A_0_17_changeWhats : (Nat → Int32)) (A_0_18_changeVs : (Nat → Int32)) (H : Heap) (locs : List Loc) (ls : Array Slot) , lp_X12_undo_12 I_0_isKept I_0_keptFound I_0_keptB I_0_keptChanges A_0_36_keptF A_0_37_keptOperator A_0_40_keptNumbers A_0_41_keptBs A_0_43_keptWhats A_0_44_keptVs (jn_X12_undo_35 I_0_isKept I_0_keptFound I_0_keptB I_0_keptChanges A_0_36_keptF A_0_37_keptOperator A_0_40_keptNumbers A_0_41_keptBs A_0_43_keptWhats A_0_44_keptVs K) K k12 x1 I_0_isFound I_0_foundB I_0_changes A_0_0_f A_0_1_operator A_0_4_foundNumbers A_0_5_b A_0_17_changeWhats A_0_18_changeVs → MW D A s.heap [(h0, .inr (11, oX12 r0 I_0_isFound I_0_foundB I_0_changes I_0_taped I_0_size I_0_at I_0_signs I_0_wanted I_0_sign I_0_isKept I_0_keptFound I_0_keptB I_0_keptChanges)), ((r0 0), .inl (cI, 5, .inl A_0_0_f)), ((r0 1), .inl (cI, 75, .inl A_0_1_operator)), ((r0 4), .inl (cI, 75, .inl A_0_4_foundNumbers)), ((r0 5), .inl (cI, 9, .inl A_0_5_b)), ((r0 17), .inl (cI, 8, .inl A_0_17_changeWhats)), ((r0 18), .inl (cI, 8, .inl A_0_18_changeVs)), ((r0 36), .inl (cI, 5, .inl A_0_36_keptF)), ((r0 37), .inl (cI, 75, .inl A_0_37_keptOperator)), ((r0 40), .inl (cI, 75, .inl A_0_40_keptNumbers)), ((r0 41), .inl (cI, 9, .inl A_0_41_keptBs)), ((r0 43), .inl (cI, 8, .inl A_0_43_keptWhats)), ((r0 44), .inl (cI, 8, .inl A_0_44_keptVs))] H locs → lv_has ls 2 [(0, .ref h0), (1, .int x1)] → W p l e rm_X12_undo s m args below meth c H locs 0 0 Q (F0 m 12 ls []) := by
    intro k12
    induction k12 with
    | zero =>
      intro x1 I_0_isFound I_0_foundB I_0_changes A_0_0_f A_0_1_operator A_0_4_foundNumbers A_0_5_b A_0_17_changeWhats A_0_18_changeVs H locs ls h
      unfold lp_X12_undo_12 at h
      exact h.elim
    | succ k12 ih12 =>
      intro x1 I_0_isFound I_0_foundB I_0_changes A_0_0_f A_0_1_operator A_0_4_foundNumbers A_0_5_b A_0_17_changeWhats A_0_18_changeVs H locs ls h hM hl
      unfold lp_X12_undo_12 at h
      refine lv_iload_n hx hb dX12_undo_12 rfl (lv_at hl 1 rfl) ?_
      refine lv_iconst (v := (5 : Int32)) hx hb dX12_undo_13 (by decide) ?_
      refine lv_icmp_ge (tgt := 35) hx hb dX12_undo_14 (by decide) (fun hq => ?_) (fun hq => ?_)
      · have h := h.1 hq
        exact jq35 _ _ _ _ _ _ _ _ _ _ _ _ h hM (lv_sub hl [0] rfl)
      · have h := h.2 hq
        refine lv_aload_n hx hb dX12_undo_17 rfl (lv_at hl 0 rfl) ?_
        refine m_get (C := RX12) (T := TX12) (N := 45) (ci := 11) (ref := "LoweredPowersModel") (v := .ref (r0 0)) C0 hM 0 rfl rfl kt_X12_undo_X12 0 (by decide) kw_X12_undo_2 rfl rfl dX12_undo_18 ?_
        refine lv_iload_n hx hb dX12_undo_21 rfl (lv_at hl 1 rfl) ?_
        refine lv_aload_n hx hb dX12_undo_22 rfl (lv_at hl 0 rfl) ?_
        refine m_get (C := RX12) (T := TX12) (N := 45) (ci := 11) (ref := "LoweredPowersModel") (v := .ref (r0 36)) C0 hM 0 rfl rfl kt_X12_undo_X12 36 (by decide) kw_X12_undo_3 rfl rfl dX12_undo_23 ?_
        refine lv_iload_n hx hb dX12_undo_26 rfl (lv_at hl 1 rfl) ?_
        obtain ⟨hc11, h⟩ := h
        refine m_iald C0 hM 7 rfl hc11 dX12_undo_27 ?_
        refine lv_topi (fun y12 ey12 => ?_)
        have h := h y12 ey12
        refine m_iast (ws' := [(h0, .inr (11, oX12 r0 I_0_isFound I_0_foundB I_0_changes I_0_taped I_0_size I_0_at I_0_signs I_0_wanted I_0_sign I_0_isKept I_0_keptFound I_0_keptB I_0_keptChanges)), ((r0 0), .inl (cI, 5, .inl (upd A_0_0_f (x1).toNatClampNeg y12))), ((r0 1), .inl (cI, 75, .inl A_0_1_operator)), ((r0 4), .inl (cI, 75, .inl A_0_4_foundNumbers)), ((r0 5), .inl (cI, 9, .inl A_0_5_b)), ((r0 17), .inl (cI, 8, .inl A_0_17_changeWhats)), ((r0 18), .inl (cI, 8, .inl A_0_18_changeVs)), ((r0 36), .inl (cI, 5, .inl A_0_36_keptF)), ((r0 37), .inl (cI, 75, .inl A_0_37_keptOperator)), ((r0 40), .inl (cI, 75, .inl A_0_40_keptNumbers)), ((r0 41), .inl (cI, 9, .inl A_0_41_keptBs)), ((r0 43), .inl (cI, 8, .inl A_0_43_keptWhats)), ((r0 44), .inl (cI, 8, .inl A_0_44_keptVs))]) C0 hM 1 rfl hc11 rfl dX12_undo_28 (fun H locs hM => ?_)
        refine lv_iinc (v := (x1 + (1 : Int32))) (lv' := [(1, .int (x1 + (1 : Int32))), (0, .ref h0)]) hx hb dX12_undo_29 hl (k := 1) rfl rfl (by decide) rfl (fun ls hl => ?_)
        refine lv_goto (tgt := 12) hx hb dX12_undo_32 (by decide) ?_
        exact ih12 _ _ _ _ _ _ _ _ _ _ _ _ _ h hM (lv_sub hl [1, 0] rfl)
  unfold wp_X12_undo at h
  refine lv_aload_n hx hb dX12_undo_0 rfl (lv_at hl 0 rfl) ?_
  refine m_get (C := RX12) (T := TX12) (N := 45) (ci := 11) (ref := "LoweredPowersModel") (v := .int I_0_isKept) C0 hM 0 rfl rfl kt_X12_undo_X12 35 (by decide) kw_X12_undo_1 rfl rfl dX12_undo_1 ?_
  refine lv_if_ne (tgt := 10) hx hb dX12_undo_4 (by decide) (fun hq => ?_) (fun hq => ?_)
  · have h := h.1 hq
    refine lv_iconst (v := (0 : Int32)) hx hb dX12_undo_10 (by decide) ?_
    refine lv_istore_n (lv' := [(1, .int (0 : Int32)), (0, .ref h0)]) hx hb dX12_undo_11 rfl hl (by decide) rfl (fun ls hl => ?_)
    obtain ⟨k0, h⟩ := h
    exact lq12 k0 _ _ _ _ _ _ _ _ _ _ _ _ _ h hM (lv_sub hl [1, 0] rfl)
  · have h := h.2 hq
    refine lv_bipush (v := (-3 : Int32)) hx hb dX12_undo_7 (by decide) ?_
    subst hsz; subst hA; subst hQ
    exact m_iret C0 hr hM (I_0_isFound, I_0_foundB, I_0_changes, A_0_0_f, A_0_1_operator, A_0_4_foundNumbers, A_0_5_b, A_0_17_changeWhats, A_0_18_changeVs) h rfl dX12_undo_9
abbrev rm_X12_count : Room := { frames := 1, cells := 0, slots := 0, locals := 22 }
set_option maxRecDepth 100000 in
set_option maxHeartbeats 4000000 in
theorem ct_X12_count (l : Launch) (D : va_G) (cI cJ cZ : ClassId) (h0 : Nat) (r0 : Nat → Nat) (I_0_isFound : Int32) (I_0_foundB : Int32) (I_0_changes : Int32) (I_0_taped : Int32) (I_0_size : Int32) (I_0_at : Int32) (I_0_signs : Int32) (I_0_wanted : Int32) (I_0_sign : Int32) (I_0_isKept : Int32) (I_0_keptFound : Int32) (I_0_keptB : Int32) (I_0_keptChanges : Int32) (A_0_0_f : (Nat → Int32)) (A_0_1_operator : (Nat → Int32)) (A_0_21_rackKinds : (Nat → Int32)) (A_0_33_sizes : (Nat → Int32)) (x1 : Int32) (sz : Nat) (K : Int32 → Prop) (h : wp_X12_count x1 I_0_isFound I_0_changes I_0_taped A_0_0_f A_0_1_operator A_0_21_rackKinds A_0_33_sizes K) : Met l yX12_count wsX12_count rm_X12_count (va_Pc [.ref h0, .int x1] (WX D cI cJ cZ [(h0, .inr (11, oX12 r0 I_0_isFound I_0_foundB I_0_changes I_0_taped I_0_size I_0_at I_0_signs I_0_wanted I_0_sign I_0_isKept I_0_keptFound I_0_keptB I_0_keptChanges)), ((r0 0), .inl (cI, 5, .inl A_0_0_f)), ((r0 1), .inl (cI, 75, .inl A_0_1_operator)), ((r0 21), .inl (cI, 3, .inl A_0_21_rackKinds)), ((r0 33), .inl (cI, 3, .inl A_0_33_sizes))] sz)) (va_Qi (fun (r : Int32) (_ : Unit) => K r ) (fun (_ : Unit) t => WY D (va_A [(h0, .inr (11, oX12 r0 I_0_isFound I_0_foundB I_0_changes I_0_taped I_0_size I_0_at I_0_signs I_0_wanted I_0_sign I_0_isKept I_0_keptFound I_0_keptB I_0_keptChanges)), ((r0 0), .inl (cI, 5, .inl A_0_0_f)), ((r0 1), .inl (cI, 75, .inl A_0_1_operator)), ((r0 21), .inl (cI, 3, .inl A_0_21_rackKinds)), ((r0 33), .inl (cI, 3, .inl A_0_33_sizes))] sz) [(h0, .inr (11, oX12 r0 I_0_isFound I_0_foundB I_0_changes I_0_taped I_0_size I_0_at I_0_signs I_0_wanted I_0_sign I_0_isKept I_0_keptFound I_0_keptB I_0_keptChanges)), ((r0 0), .inl (cI, 5, .inl A_0_0_f)), ((r0 1), .inl (cI, 75, .inl A_0_1_operator)), ((r0 21), .inl (cI, 3, .inl A_0_21_rackKinds)), ((r0 33), .inl (cI, 3, .inl A_0_33_sizes))] t) (va_A [(h0, .inr (11, oX12 r0 I_0_isFound I_0_foundB I_0_changes I_0_taped I_0_size I_0_at I_0_signs I_0_wanted I_0_sign I_0_isKept I_0_keptFound I_0_keptB I_0_keptChanges)), ((r0 0), .inl (cI, 5, .inl A_0_0_f)), ((r0 1), .inl (cI, 75, .inl A_0_1_operator)), ((r0 21), .inl (cI, 3, .inl A_0_21_rackKinds)), ((r0 33), .inl (cI, 3, .inl A_0_33_sizes))] sz)) 0 0 (va_A [(h0, .inr (11, oX12 r0 I_0_isFound I_0_foundB I_0_changes I_0_taped I_0_size I_0_at I_0_signs I_0_wanted I_0_sign I_0_isKept I_0_keptFound I_0_keptB I_0_keptChanges)), ((r0 0), .inl (cI, 5, .inl A_0_0_f)), ((r0 1), .inl (cI, 75, .inl A_0_1_operator)), ((r0 21), .inl (cI, 3, .inl A_0_21_rackKinds)), ((r0 33), .inl (cI, 3, .inl A_0_33_sizes))] sz) := by
  refine m_met (own := RX12) (cc := cX12_count) (maxL := 4) (ret := some .int) [.ref h0, .int x1] [(0, .ref h0), (1, .int x1)] (by decide) rfl rfl (Nat.le_of_ble_eq_true rfl) rfl ?_
  intro p e s m args below meth c Q A hQ hA C0 hr hnm hsz hM ls hl
  have hx := C0.1
  have hb := C0.2.1
  have hown := C0.2.2.2.1
  have lq125 : ∀ (k125 : Nat) (x2 : Int32) (x3 : Int32) (H : Heap) (locs : List Loc) (ls : Array Slot) , lp_X12_count_125 x1 I_0_isFound I_0_changes I_0_taped A_0_0_f A_0_1_operator A_0_21_rackKinds A_0_33_sizes K k125 x2 x3 → MW D A s.heap [(h0, .inr (11, oX12 r0 I_0_isFound I_0_foundB I_0_changes I_0_taped I_0_size I_0_at I_0_signs I_0_wanted I_0_sign I_0_isKept I_0_keptFound I_0_keptB I_0_keptChanges)), ((r0 0), .inl (cI, 5, .inl A_0_0_f)), ((r0 1), .inl (cI, 75, .inl A_0_1_operator)), ((r0 21), .inl (cI, 3, .inl A_0_21_rackKinds)), ((r0 33), .inl (cI, 3, .inl A_0_33_sizes))] H locs → lv_has ls 4 [(0, .ref h0), (2, .int x2), (3, .int x3)] → W p l e rm_X12_count s m args below meth c H locs 0 0 Q (F0 m 125 ls []) := by
    intro k125
    induction k125 with
    | zero =>
      intro x2 x3 H locs ls h
      unfold lp_X12_count_125 at h
      exact h.elim
    | succ k125 ih125 =>
      have jq145 : ∀ (x3 : Int32) (s0 : Int32) (s1 : Int32) (H : Heap) (locs : List Loc) (ls : Array Slot) , jn_X12_count_145 x1 I_0_isFound I_0_changes I_0_taped A_0_0_f A_0_1_operator A_0_21_rackKinds A_0_33_sizes (fun x2 x3 => lp_X12_count_125 x1 I_0_isFound I_0_changes I_0_taped A_0_0_f A_0_1_operator A_0_21_rackKinds A_0_33_sizes K k125 x2 x3) K x3 s0 s1 → MW D A s.heap [(h0, .inr (11, oX12 r0 I_0_isFound I_0_foundB I_0_changes I_0_taped I_0_size I_0_at I_0_signs I_0_wanted I_0_sign I_0_isKept I_0_keptFound I_0_keptB I_0_keptChanges)), ((r0 0), .inl (cI, 5, .inl A_0_0_f)), ((r0 1), .inl (cI, 75, .inl A_0_1_operator)), ((r0 21), .inl (cI, 3, .inl A_0_21_rackKinds)), ((r0 33), .inl (cI, 3, .inl A_0_33_sizes))] H locs → lv_has ls 4 [(0, .ref h0), (3, .int x3)] → W p l e rm_X12_count s m args below meth c H locs 0 0 Q (F0 m 145 ls [.int s1, .int s0]) := by
        intro x3 s0 s1 H locs ls h hM hl
        unfold jn_X12_count_145 at h
        refine lv_iadd hx hb dX12_count_145 ?_
        refine lv_topi (fun y1 ey1 => ?_)
        have h := h y1 ey1
        refine lv_istore_n (lv' := [(2, .int y1), (0, .ref h0), (3, .int x3)]) hx hb dX12_count_146 rfl hl (by decide) rfl (fun ls hl => ?_)
        refine lv_iinc (v := (x3 + (1 : Int32))) (lv' := [(3, .int (x3 + (1 : Int32))), (2, .int y1), (0, .ref h0)]) hx hb dX12_count_147 hl (k := 2) rfl rfl (by decide) rfl (fun ls hl => ?_)
        refine lv_goto (tgt := 125) hx hb dX12_count_150 (by decide) ?_
        exact ih125 _ _ _ _ _ h hM (lv_sub hl [2, 1, 0] rfl)
      intro x2 x3 H locs ls h hM hl
      unfold lp_X12_count_125 at h
      refine lv_iload_n hx hb dX12_count_125 rfl (lv_at hl 2 rfl) ?_
      refine lv_iconst (v := (3 : Int32)) hx hb dX12_count_126 (by decide) ?_
      refine lv_icmp_ge (tgt := 153) hx hb dX12_count_127 (by decide) (fun hq => ?_) (fun hq => ?_)
      · have h := h.1 hq
        refine lv_iload_n hx hb dX12_count_153 rfl (lv_at hl 1 rfl) ?_
        subst hsz; subst hA; subst hQ
        exact m_iret C0 hr hM () h rfl dX12_count_154
      · have h := h.2 hq
        refine lv_iload_n hx hb dX12_count_130 rfl (lv_at hl 1 rfl) ?_
        refine lv_aload_n hx hb dX12_count_131 rfl (lv_at hl 0 rfl) ?_
        refine m_get (C := RX12) (T := TX12) (N := 45) (ci := 11) (ref := "LoweredPowersModel") (v := .ref (r0 33)) C0 hM 0 rfl rfl kt_X12_count_X12 33 (by decide) kw_X12_count_5 rfl rfl dX12_count_132 ?_
        refine lv_iload_n hx hb dX12_count_135 rfl (lv_at hl 2 rfl) ?_
        obtain ⟨hc2, h⟩ := h
        refine m_iald C0 hM 4 rfl hc2 dX12_count_136 ?_
        refine lv_if_ge (tgt := 144) hx hb dX12_count_137 (by decide) (fun hq => ?_) (fun hq => ?_)
        · have h := h.1 hq
          refine lv_iconst (v := (1 : Int32)) hx hb dX12_count_144 (by decide) ?_
          exact jq145 _ _ _ _ _ _ h hM (lv_sub hl [0, 2] rfl)
        · have h := h.2 hq
          refine lv_iconst (v := (0 : Int32)) hx hb dX12_count_140 (by decide) ?_
          refine lv_goto (tgt := 145) hx hb dX12_count_141 (by decide) ?_
          exact jq145 _ _ _ _ _ _ h hM (lv_sub hl [0, 2] rfl)
  have lq93 : ∀ (k93 : Nat) (x2 : Int32) (x3 : Int32) (H : Heap) (locs : List Loc) (ls : Array Slot) , lp_X12_count_93 x1 I_0_isFound I_0_changes I_0_taped A_0_0_f A_0_1_operator A_0_21_rackKinds A_0_33_sizes K k93 x2 x3 → MW D A s.heap [(h0, .inr (11, oX12 r0 I_0_isFound I_0_foundB I_0_changes I_0_taped I_0_size I_0_at I_0_signs I_0_wanted I_0_sign I_0_isKept I_0_keptFound I_0_keptB I_0_keptChanges)), ((r0 0), .inl (cI, 5, .inl A_0_0_f)), ((r0 1), .inl (cI, 75, .inl A_0_1_operator)), ((r0 21), .inl (cI, 3, .inl A_0_21_rackKinds)), ((r0 33), .inl (cI, 3, .inl A_0_33_sizes))] H locs → lv_has ls 4 [(0, .ref h0), (2, .int x2), (3, .int x3)] → W p l e rm_X12_count s m args below meth c H locs 0 0 Q (F0 m 93 ls []) := by
    intro k93
    induction k93 with
    | zero =>
      intro x2 x3 H locs ls h
      unfold lp_X12_count_93 at h
      exact h.elim
    | succ k93 ih93 =>
      have jq113 : ∀ (x3 : Int32) (s0 : Int32) (s1 : Int32) (H : Heap) (locs : List Loc) (ls : Array Slot) , jn_X12_count_113 x1 I_0_isFound I_0_changes I_0_taped A_0_0_f A_0_1_operator A_0_21_rackKinds A_0_33_sizes (fun x2 x3 => lp_X12_count_93 x1 I_0_isFound I_0_changes I_0_taped A_0_0_f A_0_1_operator A_0_21_rackKinds A_0_33_sizes K k93 x2 x3) K x3 s0 s1 → MW D A s.heap [(h0, .inr (11, oX12 r0 I_0_isFound I_0_foundB I_0_changes I_0_taped I_0_size I_0_at I_0_signs I_0_wanted I_0_sign I_0_isKept I_0_keptFound I_0_keptB I_0_keptChanges)), ((r0 0), .inl (cI, 5, .inl A_0_0_f)), ((r0 1), .inl (cI, 75, .inl A_0_1_operator)), ((r0 21), .inl (cI, 3, .inl A_0_21_rackKinds)), ((r0 33), .inl (cI, 3, .inl A_0_33_sizes))] H locs → lv_has ls 4 [(0, .ref h0), (3, .int x3)] → W p l e rm_X12_count s m args below meth c H locs 0 0 Q (F0 m 113 ls [.int s1, .int s0]) := by
        intro x3 s0 s1 H locs ls h hM hl
        unfold jn_X12_count_113 at h
        refine lv_iadd hx hb dX12_count_113 ?_
        refine lv_topi (fun y3 ey3 => ?_)
        have h := h y3 ey3
        refine lv_istore_n (lv' := [(2, .int y3), (0, .ref h0), (3, .int x3)]) hx hb dX12_count_114 rfl hl (by decide) rfl (fun ls hl => ?_)
        refine lv_iinc (v := (x3 + (1 : Int32))) (lv' := [(3, .int (x3 + (1 : Int32))), (2, .int y3), (0, .ref h0)]) hx hb dX12_count_115 hl (k := 2) rfl rfl (by decide) rfl (fun ls hl => ?_)
        refine lv_goto (tgt := 93) hx hb dX12_count_118 (by decide) ?_
        exact ih93 _ _ _ _ _ h hM (lv_sub hl [2, 1, 0] rfl)
      intro x2 x3 H locs ls h hM hl
      unfold lp_X12_count_93 at h
      refine lv_iload_n hx hb dX12_count_93 rfl (lv_at hl 2 rfl) ?_
      refine lv_iconst (v := (3 : Int32)) hx hb dX12_count_94 (by decide) ?_
      refine lv_icmp_ge (tgt := 121) hx hb dX12_count_95 (by decide) (fun hq => ?_) (fun hq => ?_)
      · have h := h.1 hq
        refine lv_iload_n hx hb dX12_count_121 rfl (lv_at hl 1 rfl) ?_
        subst hsz; subst hA; subst hQ
        exact m_iret C0 hr hM () h rfl dX12_count_122
      · have h := h.2 hq
        refine lv_iload_n hx hb dX12_count_98 rfl (lv_at hl 1 rfl) ?_
        refine lv_aload_n hx hb dX12_count_99 rfl (lv_at hl 0 rfl) ?_
        refine m_get (C := RX12) (T := TX12) (N := 45) (ci := 11) (ref := "LoweredPowersModel") (v := .ref (r0 21)) C0 hM 0 rfl rfl kt_X12_count_X12 21 (by decide) kw_X12_count_4 rfl rfl dX12_count_100 ?_
        refine lv_iload_n hx hb dX12_count_103 rfl (lv_at hl 2 rfl) ?_
        obtain ⟨hc4, h⟩ := h
        refine m_iald C0 hM 3 rfl hc4 dX12_count_104 ?_
        refine lv_if_ge (tgt := 112) hx hb dX12_count_105 (by decide) (fun hq => ?_) (fun hq => ?_)
        · have h := h.1 hq
          refine lv_iconst (v := (1 : Int32)) hx hb dX12_count_112 (by decide) ?_
          exact jq113 _ _ _ _ _ _ h hM (lv_sub hl [0, 2] rfl)
        · have h := h.2 hq
          refine lv_iconst (v := (0 : Int32)) hx hb dX12_count_108 (by decide) ?_
          refine lv_goto (tgt := 113) hx hb dX12_count_109 (by decide) ?_
          exact jq113 _ _ _ _ _ _ h hM (lv_sub hl [0, 2] rfl)
  have lq46 : ∀ (k46 : Nat) (x2 : Int32) (x3 : Int32) (H : Heap) (locs : List Loc) (ls : Array Slot) , lp_X12_count_46 x1 I_0_isFound I_0_changes I_0_taped A_0_0_f A_0_1_operator A_0_21_rackKinds A_0_33_sizes K k46 x2 x3 → MW D A s.heap [(h0, .inr (11, oX12 r0 I_0_isFound I_0_foundB I_0_changes I_0_taped I_0_size I_0_at I_0_signs I_0_wanted I_0_sign I_0_isKept I_0_keptFound I_0_keptB I_0_keptChanges)), ((r0 0), .inl (cI, 5, .inl A_0_0_f)), ((r0 1), .inl (cI, 75, .inl A_0_1_operator)), ((r0 21), .inl (cI, 3, .inl A_0_21_rackKinds)), ((r0 33), .inl (cI, 3, .inl A_0_33_sizes))] H locs → lv_has ls 4 [(0, .ref h0), (2, .int x2), (3, .int x3)] → W p l e rm_X12_count s m args below meth c H locs 0 0 Q (F0 m 46 ls []) := by
    intro k46
    induction k46 with
    | zero =>
      intro x2 x3 H locs ls h
      unfold lp_X12_count_46 at h
      exact h.elim
    | succ k46 ih46 =>
      have jq66 : ∀ (x3 : Int32) (s0 : Int32) (s1 : Int32) (H : Heap) (locs : List Loc) (ls : Array Slot) , jn_X12_count_66 x1 I_0_isFound I_0_changes I_0_taped A_0_0_f A_0_1_operator A_0_21_rackKinds A_0_33_sizes (fun x2 x3 => lp_X12_count_46 x1 I_0_isFound I_0_changes I_0_taped A_0_0_f A_0_1_operator A_0_21_rackKinds A_0_33_sizes K k46 x2 x3) K x3 s0 s1 → MW D A s.heap [(h0, .inr (11, oX12 r0 I_0_isFound I_0_foundB I_0_changes I_0_taped I_0_size I_0_at I_0_signs I_0_wanted I_0_sign I_0_isKept I_0_keptFound I_0_keptB I_0_keptChanges)), ((r0 0), .inl (cI, 5, .inl A_0_0_f)), ((r0 1), .inl (cI, 75, .inl A_0_1_operator)), ((r0 21), .inl (cI, 3, .inl A_0_21_rackKinds)), ((r0 33), .inl (cI, 3, .inl A_0_33_sizes))] H locs → lv_has ls 4 [(0, .ref h0), (3, .int x3)] → W p l e rm_X12_count s m args below meth c H locs 0 0 Q (F0 m 66 ls [.int s1, .int s0]) := by
        intro x3 s0 s1 H locs ls h hM hl
        unfold jn_X12_count_66 at h
        refine lv_iadd hx hb dX12_count_66 ?_
        refine lv_topi (fun y5 ey5 => ?_)
        have h := h y5 ey5
        refine lv_istore_n (lv' := [(2, .int y5), (0, .ref h0), (3, .int x3)]) hx hb dX12_count_67 rfl hl (by decide) rfl (fun ls hl => ?_)
        refine lv_iinc (v := (x3 + (1 : Int32))) (lv' := [(3, .int (x3 + (1 : Int32))), (2, .int y5), (0, .ref h0)]) hx hb dX12_count_68 hl (k := 2) rfl rfl (by decide) rfl (fun ls hl => ?_)
        refine lv_goto (tgt := 46) hx hb dX12_count_71 (by decide) ?_
        exact ih46 _ _ _ _ _ h hM (lv_sub hl [2, 1, 0] rfl)
      intro x2 x3 H locs ls h hM hl
      unfold lp_X12_count_46 at h
      refine lv_iload_n hx hb dX12_count_46 rfl (lv_at hl 2 rfl) ?_
      refine lv_iconst (v := (5 : Int32)) hx hb dX12_count_47 (by decide) ?_
      refine lv_icmp_ge (tgt := 74) hx hb dX12_count_48 (by decide) (fun hq => ?_) (fun hq => ?_)
      · have h := h.1 hq
        refine lv_iload_n hx hb dX12_count_74 rfl (lv_at hl 1 rfl) ?_
        subst hsz; subst hA; subst hQ
        exact m_iret C0 hr hM () h rfl dX12_count_75
      · have h := h.2 hq
        refine lv_iload_n hx hb dX12_count_51 rfl (lv_at hl 1 rfl) ?_
        refine lv_aload_n hx hb dX12_count_52 rfl (lv_at hl 0 rfl) ?_
        refine m_get (C := RX12) (T := TX12) (N := 45) (ci := 11) (ref := "LoweredPowersModel") (v := .ref (r0 0)) C0 hM 0 rfl rfl kt_X12_count_X12 0 (by decide) kw_X12_count_1 rfl rfl dX12_count_53 ?_
        refine lv_iload_n hx hb dX12_count_56 rfl (lv_at hl 2 rfl) ?_
        obtain ⟨hc6, h⟩ := h
        refine m_iald C0 hM 1 rfl hc6 dX12_count_57 ?_
        refine lv_if_ne (tgt := 65) hx hb dX12_count_58 (by decide) (fun hq => ?_) (fun hq => ?_)
        · have h := h.1 hq
          refine lv_iconst (v := (1 : Int32)) hx hb dX12_count_65 (by decide) ?_
          exact jq66 _ _ _ _ _ _ h hM (lv_sub hl [0, 2] rfl)
        · have h := h.2 hq
          refine lv_iconst (v := (0 : Int32)) hx hb dX12_count_61 (by decide) ?_
          refine lv_goto (tgt := 66) hx hb dX12_count_62 (by decide) ?_
          exact jq66 _ _ _ _ _ _ h hM (lv_sub hl [0, 2] rfl)
  unfold wp_X12_count at h
  refine lv_iconst (v := (0 : Int32)) hx hb dX12_count_0 (by decide) ?_
  refine lv_istore_n (lv' := [(2, .int (0 : Int32)), (0, .ref h0), (1, .int x1)]) hx hb dX12_count_1 rfl hl (by decide) rfl (fun ls hl => ?_)
  refine lv_iload_n hx hb dX12_count_2 rfl (lv_at hl 2 rfl) ?_
  by_cases hs0 : x1 = (0 : Int32)
  · refine lv_tableIn (off := 41) (tgt := 44) hx hb dX12_count_3 (by rw [hs0]; decide) (by rw [hs0]; decide) (by rw [hs0]; rfl) (by decide) ?_
    have h := h.1 hs0
    refine lv_iconst (v := (0 : Int32)) hx hb dX12_count_44 (by decide) ?_
    refine lv_istore_n (lv' := [(3, .int (0 : Int32)), (2, .int (0 : Int32)), (0, .ref h0), (1, .int x1)]) hx hb dX12_count_45 rfl hl (by decide) rfl (fun ls hl => ?_)
    obtain ⟨k0, h⟩ := h
    exact lq46 k0 _ _ _ _ _ h hM (lv_sub hl [2, 1, 0] rfl)
  replace h := h.2
  by_cases hs1 : x1 = (1 : Int32)
  · refine lv_tableIn (off := 73) (tgt := 76) hx hb dX12_count_3 (by rw [hs1]; decide) (by rw [hs1]; decide) (by rw [hs1]; rfl) (by decide) ?_
    have h := h.1 hs1
    refine lv_aload_n hx hb dX12_count_76 rfl (lv_at hl 1 rfl) ?_
    refine m_calli (wc := [(h0, .inr (11, oX12 r0 I_0_isFound I_0_foundB I_0_changes I_0_taped I_0_size I_0_at I_0_signs I_0_wanted I_0_sign I_0_isKept I_0_keptFound I_0_keptB I_0_keptChanges)), ((r0 1), .inl (cI, 75, .inl A_0_1_operator))]) C0 hM [0, 2] rfl (m_runV (wc := [(h0, .inr (11, oX12 r0 I_0_isFound I_0_foundB I_0_changes I_0_taped I_0_size I_0_at I_0_signs I_0_wanted I_0_sign I_0_isKept I_0_keptFound I_0_keptB I_0_keptChanges)), ((r0 1), .inl (cI, 75, .inl A_0_1_operator))]) (As := []) (rest := []) (ci := 11) C0 hM (ct_X12_numbers l D cI cJ cZ h0 r0 I_0_isFound I_0_foundB I_0_changes I_0_taped I_0_size I_0_at I_0_signs I_0_wanted I_0_sign I_0_isKept I_0_keptFound I_0_keptB I_0_keptChanges A_0_1_operator _ _ h) [0, 2] rfl (by decide) gX12_count_X12_numbers rfl rfl rfl rfl rfl hd_X12_numbers ⟨Nat.le_of_ble_eq_true rfl, Nat.le_of_ble_eq_true rfl⟩ rfl hl.1 rfl (Nat.le_of_ble_eq_true rfl) dX12_count_77 ⟨Nat.le_of_ble_eq_true rfl, Nat.le_of_ble_eq_true rfl⟩) (fun _ => [(h0, .inr (11, oX12 r0 I_0_isFound I_0_foundB I_0_changes I_0_taped I_0_size I_0_at I_0_signs I_0_wanted I_0_sign I_0_isKept I_0_keptFound I_0_keptB I_0_keptChanges)), ((r0 0), .inl (cI, 5, .inl A_0_0_f)), ((r0 1), .inl (cI, 75, .inl A_0_1_operator)), ((r0 21), .inl (cI, 3, .inl A_0_21_rackKinds)), ((r0 33), .inl (cI, 3, .inl A_0_33_sizes))]) (fun _ => rfl) (fun _ => rfl) (fun y7 _ H locs h hM => ?_)
    subst hsz; subst hA; subst hQ
    exact m_iret C0 hr hM () h rfl dX12_count_80
  replace h := h.2
  by_cases hs2 : x1 = (2 : Int32)
  · refine lv_tableIn (off := 78) (tgt := 81) hx hb dX12_count_3 (by rw [hs2]; decide) (by rw [hs2]; decide) (by rw [hs2]; rfl) (by decide) ?_
    have h := h.1 hs2
    refine lv_aload_n hx hb dX12_count_81 rfl (lv_at hl 1 rfl) ?_
    refine m_get (C := RX12) (T := TX12) (N := 45) (ci := 11) (ref := "LoweredPowersModel") (v := .int I_0_changes) C0 hM 0 rfl rfl kt_X12_count_X12 16 (by decide) kw_X12_count_2 rfl rfl dX12_count_82 ?_
    subst hsz; subst hA; subst hQ
    exact m_iret C0 hr hM () h rfl dX12_count_85
  replace h := h.2
  by_cases hs3 : x1 = (3 : Int32)
  · refine lv_tableIn (off := 83) (tgt := 86) hx hb dX12_count_3 (by rw [hs3]; decide) (by rw [hs3]; decide) (by rw [hs3]; rfl) (by decide) ?_
    have h := h.1 hs3
    refine lv_aload_n hx hb dX12_count_86 rfl (lv_at hl 1 rfl) ?_
    refine m_get (C := RX12) (T := TX12) (N := 45) (ci := 11) (ref := "LoweredPowersModel") (v := .int I_0_taped) C0 hM 0 rfl rfl kt_X12_count_X12 26 (by decide) kw_X12_count_3 rfl rfl dX12_count_87 ?_
    subst hsz; subst hA; subst hQ
    exact m_iret C0 hr hM () h rfl dX12_count_90
  replace h := h.2
  by_cases hs4 : x1 = (4 : Int32)
  · refine lv_tableIn (off := 88) (tgt := 91) hx hb dX12_count_3 (by rw [hs4]; decide) (by rw [hs4]; decide) (by rw [hs4]; rfl) (by decide) ?_
    have h := h.1 hs4
    refine lv_iconst (v := (0 : Int32)) hx hb dX12_count_91 (by decide) ?_
    refine lv_istore_n (lv' := [(3, .int (0 : Int32)), (2, .int (0 : Int32)), (0, .ref h0), (1, .int x1)]) hx hb dX12_count_92 rfl hl (by decide) rfl (fun ls hl => ?_)
    obtain ⟨k0, h⟩ := h
    exact lq93 k0 _ _ _ _ _ h hM (lv_sub hl [2, 1, 0] rfl)
  replace h := h.2
  by_cases hs5 : x1 = (5 : Int32)
  · refine lv_tableIn (off := 120) (tgt := 123) hx hb dX12_count_3 (by rw [hs5]; decide) (by rw [hs5]; decide) (by rw [hs5]; rfl) (by decide) ?_
    have h := h.1 hs5
    refine lv_iconst (v := (0 : Int32)) hx hb dX12_count_123 (by decide) ?_
    refine lv_istore_n (lv' := [(3, .int (0 : Int32)), (2, .int (0 : Int32)), (0, .ref h0), (1, .int x1)]) hx hb dX12_count_124 rfl hl (by decide) rfl (fun ls hl => ?_)
    obtain ⟨k0, h⟩ := h
    exact lq125 k0 _ _ _ _ _ h hM (lv_sub hl [2, 1, 0] rfl)
  replace h := h.2
  by_cases hs6 : x1 = (6 : Int32)
  · refine lv_tableIn (off := 152) (tgt := 155) hx hb dX12_count_3 (by rw [hs6]; decide) (by rw [hs6]; decide) (by rw [hs6]; rfl) (by decide) ?_
    have h := h.1 hs6
    refine lv_aload_n hx hb dX12_count_155 rfl (lv_at hl 1 rfl) ?_
    refine m_get (C := RX12) (T := TX12) (N := 45) (ci := 11) (ref := "LoweredPowersModel") (v := .int I_0_isFound) C0 hM 0 rfl rfl kt_X12_count_X12 2 (by decide) kw_X12_count_6 rfl rfl dX12_count_156 ?_
    refine lv_if_eq (tgt := 166) hx hb dX12_count_159 (by decide) (fun hq => ?_) (fun hq => ?_)
    · have h := h.1 hq
      refine lv_iconst (v := (0 : Int32)) hx hb dX12_count_166 (by decide) ?_
      subst hsz; subst hA; subst hQ
      exact m_iret C0 hr hM () h rfl dX12_count_167
    · have h := h.2 hq
      refine lv_iconst (v := (1 : Int32)) hx hb dX12_count_162 (by decide) ?_
      refine lv_goto (tgt := 167) hx hb dX12_count_163 (by decide) ?_
      subst hsz; subst hA; subst hQ
      exact m_iret C0 hr hM () h rfl dX12_count_167
  replace h := h.2
  replace h := h hs0 hs1 hs2 hs3 hs4 hs5 hs6
  have ehs0 : x1.toInt ≠ 0 := sw_ne hs0
  have ehs1 : x1.toInt ≠ 1 := sw_ne hs1
  have ehs2 : x1.toInt ≠ 2 := sw_ne hs2
  have ehs3 : x1.toInt ≠ 3 := sw_ne hs3
  have ehs4 : x1.toInt ≠ 4 := sw_ne hs4
  have ehs5 : x1.toInt ≠ 5 := sw_ne hs5
  have ehs6 : x1.toInt ≠ 6 := sw_ne hs6
  refine lv_tableOut (tgt := 168) hx hb dX12_count_3 (by omega) (by decide) ?_
  refine lv_iconst (v := (-1 : Int32)) hx hb dX12_count_168 (by decide) ?_
  subst hsz; subst hA; subst hQ
  exact m_iret C0 hr hM () h rfl dX12_count_169
