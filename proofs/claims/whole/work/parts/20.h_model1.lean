theorem hd_X12_tellsLefts : yX12_tellsLefts.cls = RX12 ∧ yX12_tellsLefts.cls ≠ "java/lang/invoke/MethodHandle" ∧ yX12_tellsLefts.cls ≠ "java/lang/invoke/VarHandle" ∧ (parseMethodDescriptor yX12_tellsLefts.desc).map (fun d => d.parameters.length) = some 0 := by decide +kernel
theorem hd_X12_brings : yX12_brings.cls = RX12 ∧ yX12_brings.cls ≠ "java/lang/invoke/MethodHandle" ∧ yX12_brings.cls ≠ "java/lang/invoke/VarHandle" ∧ (parseMethodDescriptor yX12_brings.desc).map (fun d => d.parameters.length) = some 5 := by decide +kernel
theorem hd_X12_clears : yX12_clears.cls = RX12 ∧ yX12_clears.cls ≠ "java/lang/invoke/MethodHandle" ∧ yX12_clears.cls ≠ "java/lang/invoke/VarHandle" ∧ (parseMethodDescriptor yX12_clears.desc).map (fun d => d.parameters.length) = some 0 := by decide +kernel
theorem hd_X12_works : yX12_works.cls = RX12 ∧ yX12_works.cls ≠ "java/lang/invoke/MethodHandle" ∧ yX12_works.cls ≠ "java/lang/invoke/VarHandle" ∧ (parseMethodDescriptor yX12_works.desc).map (fun d => d.parameters.length) = some 0 := by decide +kernel
theorem hd_X12_work : yX12_work.cls = RX12 ∧ yX12_work.cls ≠ "java/lang/invoke/MethodHandle" ∧ yX12_work.cls ≠ "java/lang/invoke/VarHandle" ∧ (parseMethodDescriptor yX12_work.desc).map (fun d => d.parameters.length) = some 2 := by decide +kernel
theorem hd_X12_isRight : yX12_isRight.cls = RX12 ∧ yX12_isRight.cls ≠ "java/lang/invoke/MethodHandle" ∧ yX12_isRight.cls ≠ "java/lang/invoke/VarHandle" ∧ (parseMethodDescriptor yX12_isRight.desc).map (fun d => d.parameters.length) = some 0 := by decide +kernel
theorem hd_X12_right : yX12_right.cls = RX12 ∧ yX12_right.cls ≠ "java/lang/invoke/MethodHandle" ∧ yX12_right.cls ≠ "java/lang/invoke/VarHandle" ∧ (parseMethodDescriptor yX12_right.desc).map (fun d => d.parameters.length) = some 1 := by decide +kernel
theorem hd_X12_lays : yX12_lays.cls = RX12 ∧ yX12_lays.cls ≠ "java/lang/invoke/MethodHandle" ∧ yX12_lays.cls ≠ "java/lang/invoke/VarHandle" ∧ (parseMethodDescriptor yX12_lays.desc).map (fun d => d.parameters.length) = some 1 := by decide +kernel
theorem hd_X12_swaps : yX12_swaps.cls = RX12 ∧ yX12_swaps.cls ≠ "java/lang/invoke/MethodHandle" ∧ yX12_swaps.cls ≠ "java/lang/invoke/VarHandle" ∧ (parseMethodDescriptor yX12_swaps.desc).map (fun d => d.parameters.length) = some 2 := by decide +kernel
theorem hd_X12_reduces : yX12_reduces.cls = RX12 ∧ yX12_reduces.cls ≠ "java/lang/invoke/MethodHandle" ∧ yX12_reduces.cls ≠ "java/lang/invoke/VarHandle" ∧ (parseMethodDescriptor yX12_reduces.desc).map (fun d => d.parameters.length) = some 3 := by decide +kernel
theorem kt_X12_brings_X12 : ∀ w ∈ u_ws RX12 TX12 45, w ∈ wsX12_brings := fun _ h => List.mem_cons_of_mem _ (List.mem_append_right _ (h))
theorem kt_X12_clears_X12 : ∀ w ∈ u_ws RX12 TX12 45, w ∈ wsX12_clears := fun _ h => List.mem_cons_of_mem _ (List.mem_append_right _ (h))
theorem kt_X12_isRight_X12 : ∀ w ∈ u_ws RX12 TX12 45, w ∈ wsX12_isRight := fun _ h => List.mem_cons_of_mem _ (List.mem_append_right _ (h))
theorem kt_X12_lays_X12 : ∀ w ∈ u_ws RX12 TX12 45, w ∈ wsX12_lays := fun _ h => List.mem_cons_of_mem _ (List.mem_append_right _ (h))
theorem kt_X12_reduces_X12 : ∀ w ∈ u_ws RX12 TX12 45, w ∈ wsX12_reduces := fun _ h => List.mem_cons_of_mem _ (List.mem_append_right _ (h))
theorem kt_X12_right_X12 : ∀ w ∈ u_ws RX12 TX12 45, w ∈ wsX12_right := fun _ h => List.mem_cons_of_mem _ (List.mem_append_right _ (h))
theorem kt_X12_swaps_X12 : ∀ w ∈ u_ws RX12 TX12 45, w ∈ wsX12_swaps := fun _ h => List.mem_cons_of_mem _ (List.mem_append_right _ (h))
theorem kt_X12_tellsLefts_X12 : ∀ w ∈ u_ws RX12 TX12 45, w ∈ wsX12_tellsLefts := fun _ h => List.mem_cons_of_mem _ (List.mem_append_right _ (h))
theorem kt_X12_work_X12 : ∀ w ∈ u_ws RX12 TX12 45, w ∈ wsX12_work := fun _ h => List.mem_cons_of_mem _ (List.mem_append_right _ (h))
theorem kt_X12_works_X12 : ∀ w ∈ u_ws RX12 TX12 45, w ∈ wsX12_works := fun _ h => List.mem_cons_of_mem _ (List.mem_append_right _ (h))
theorem kw_X12_tellsLefts_1 : Cond.fieldLink RX12 27 "LoweredPowersModel" "lefts" "[I" ∈ wsX12_tellsLefts := List.mem_of_getElem? (i := 1) rfl
theorem kw_X12_brings_2 : Cond.fieldLink RX12 24 "LoweredPowersModel" "powers" "[I" ∈ wsX12_brings := List.mem_of_getElem? (i := 2) rfl
theorem kw_X12_brings_3 : Cond.fieldLink RX12 30 "LoweredPowersModel" "cells" "[I" ∈ wsX12_brings := List.mem_of_getElem? (i := 3) rfl
theorem kw_X12_brings_1 : Cond.fieldLink RX12 27 "LoweredPowersModel" "lefts" "[I" ∈ wsX12_brings := List.mem_of_getElem? (i := 1) rfl
theorem kw_X12_clears_1 : Cond.fieldLink RX12 30 "LoweredPowersModel" "cells" "[I" ∈ wsX12_clears := List.mem_of_getElem? (i := 1) rfl
theorem kw_X12_works_1 : Cond.fieldLink RX12 15 "LoweredPowersModel" "operator" "[I" ∈ wsX12_works := List.mem_of_getElem? (i := 1) rfl
theorem kw_X12_work_1 : Cond.fieldLink RX12 30 "LoweredPowersModel" "cells" "[I" ∈ wsX12_work := List.mem_of_getElem? (i := 1) rfl
theorem kw_X12_isRight_3 : Cond.fieldLink RX12 30 "LoweredPowersModel" "cells" "[I" ∈ wsX12_isRight := List.mem_of_getElem? (i := 3) rfl
theorem kw_X12_isRight_2 : Cond.fieldLink RX12 33 "LoweredPowersModel" "right" "[I" ∈ wsX12_isRight := List.mem_of_getElem? (i := 2) rfl
theorem kw_X12_isRight_1 : Cond.fieldLink RX12 24 "LoweredPowersModel" "powers" "[I" ∈ wsX12_isRight := List.mem_of_getElem? (i := 1) rfl
theorem kw_X12_right_1 : Cond.fieldLink RX12 33 "LoweredPowersModel" "right" "[I" ∈ wsX12_right := List.mem_of_getElem? (i := 1) rfl
theorem kw_X12_lays_1 : Cond.fieldLink RX12 36 "LoweredPowersModel" "table" "[I" ∈ wsX12_lays := List.mem_of_getElem? (i := 1) rfl
theorem kw_X12_lays_2 : Cond.fieldLink RX12 30 "LoweredPowersModel" "cells" "[I" ∈ wsX12_lays := List.mem_of_getElem? (i := 2) rfl
theorem kw_X12_swaps_1 : Cond.fieldLink RX12 36 "LoweredPowersModel" "table" "[I" ∈ wsX12_swaps := List.mem_of_getElem? (i := 1) rfl
theorem kw_X12_reduces_1 : Cond.fieldLink RX12 36 "LoweredPowersModel" "table" "[I" ∈ wsX12_reduces := List.mem_of_getElem? (i := 1) rfl
abbrev rm_X12_tellsLefts : Room := { frames := 3, cells := 0, slots := 0, locals := 69 }
set_option maxRecDepth 100000 in
set_option maxHeartbeats 4000000 in
theorem ct_X12_tellsLefts (l : Launch) (D : va_G) (cI cJ cZ : ClassId) (h0 : Nat) (r0 : Nat → Nat) (I_0_isFound : Int32) (I_0_foundB : Int32) (I_0_changes : Int32) (I_0_taped : Int32) (I_0_size : Int32) (I_0_at : Int32) (I_0_signs : Int32) (I_0_wanted : Int32) (I_0_sign : Int32) (I_0_isKept : Int32) (I_0_keptFound : Int32) (I_0_keptB : Int32) (I_0_keptChanges : Int32) (A_0_0_f : (Nat → Int32)) (A_0_6_powers : (Nat → Int32)) (A_0_7_lefts : (Nat → Int32)) (sz : Nat) (K : (Nat → Int32) → (Nat → Int32) → Prop) (h : wp_X12_tellsLefts A_0_0_f A_0_6_powers A_0_7_lefts K) : Met l yX12_tellsLefts wsX12_tellsLefts rm_X12_tellsLefts (va_Pc [.ref h0] (WX D cI cJ cZ [(h0, .inr (11, oX12 r0 I_0_isFound I_0_foundB I_0_changes I_0_taped I_0_size I_0_at I_0_signs I_0_wanted I_0_sign I_0_isKept I_0_keptFound I_0_keptB I_0_keptChanges)), ((r0 0), .inl (cI, 5, .inl A_0_0_f)), ((r0 6), .inl (cI, 125, .inl A_0_6_powers)), ((r0 7), .inl (cI, 1125, .inl A_0_7_lefts))] sz)) (va_Qv (fun (u : (Nat → Int32) × (Nat → Int32)) => K u.1 u.2) (fun (u : (Nat → Int32) × (Nat → Int32)) t => WY D (va_A [(h0, .inr (11, oX12 r0 I_0_isFound I_0_foundB I_0_changes I_0_taped I_0_size I_0_at I_0_signs I_0_wanted I_0_sign I_0_isKept I_0_keptFound I_0_keptB I_0_keptChanges)), ((r0 0), .inl (cI, 5, .inl A_0_0_f)), ((r0 6), .inl (cI, 125, .inl A_0_6_powers)), ((r0 7), .inl (cI, 1125, .inl A_0_7_lefts))] sz) [(h0, .inr (11, oX12 r0 I_0_isFound I_0_foundB I_0_changes I_0_taped I_0_size I_0_at I_0_signs I_0_wanted I_0_sign I_0_isKept I_0_keptFound I_0_keptB I_0_keptChanges)), ((r0 0), .inl (cI, 5, .inl A_0_0_f)), ((r0 6), .inl (cI, 125, .inl u.1)), ((r0 7), .inl (cI, 1125, .inl u.2))] t) (va_A [(h0, .inr (11, oX12 r0 I_0_isFound I_0_foundB I_0_changes I_0_taped I_0_size I_0_at I_0_signs I_0_wanted I_0_sign I_0_isKept I_0_keptFound I_0_keptB I_0_keptChanges)), ((r0 0), .inl (cI, 5, .inl A_0_0_f)), ((r0 6), .inl (cI, 125, .inl A_0_6_powers)), ((r0 7), .inl (cI, 1125, .inl A_0_7_lefts))] sz)) 0 0 (va_A [(h0, .inr (11, oX12 r0 I_0_isFound I_0_foundB I_0_changes I_0_taped I_0_size I_0_at I_0_signs I_0_wanted I_0_sign I_0_isKept I_0_keptFound I_0_keptB I_0_keptChanges)), ((r0 0), .inl (cI, 5, .inl A_0_0_f)), ((r0 6), .inl (cI, 125, .inl A_0_6_powers)), ((r0 7), .inl (cI, 1125, .inl A_0_7_lefts))] sz) := by
  refine m_met (own := RX12) (cc := cX12_tellsLefts) (maxL := 4) (ret := none) [.ref h0] [(0, .ref h0)] (by decide) rfl rfl (Nat.le_of_ble_eq_true rfl) rfl ?_
  intro p e s m args below meth c Q A hQ hA C0 hr hnm hsz hM ls hl
  have hx := C0.1
  have hb := C0.2.1
  have hown := C0.2.2.2.1
  have lq36 : ∀ (k36 : Nat) (x1 : Int32) (A_0_6_powers : (Nat → Int32)) (A_0_7_lefts : (Nat → Int32)) (H : Heap) (locs : List Loc) (ls : Array Slot) , lp_X12_tellsLefts_36 A_0_0_f K k36 x1 A_0_6_powers A_0_7_lefts → MW D A s.heap [(h0, .inr (11, oX12 r0 I_0_isFound I_0_foundB I_0_changes I_0_taped I_0_size I_0_at I_0_signs I_0_wanted I_0_sign I_0_isKept I_0_keptFound I_0_keptB I_0_keptChanges)), ((r0 0), .inl (cI, 5, .inl A_0_0_f)), ((r0 6), .inl (cI, 125, .inl A_0_6_powers)), ((r0 7), .inl (cI, 1125, .inl A_0_7_lefts))] H locs → lv_has ls 4 [(0, .ref h0), (1, .int x1)] → W p l e rm_X12_tellsLefts s m args below meth c H locs 0 0 Q (F0 m 36 ls []) := by
    intro k36
    induction k36 with
    | zero =>
      intro x1 A_0_6_powers A_0_7_lefts H locs ls h
      unfold lp_X12_tellsLefts_36 at h
      exact h.elim
    | succ k36 ih36 =>
      have jq75 : ∀ (x1 : Int32) (A_0_6_powers : (Nat → Int32)) (A_0_7_lefts : (Nat → Int32)) (H : Heap) (locs : List Loc) (ls : Array Slot) , jn_X12_tellsLefts_75 A_0_0_f (fun x1 A_0_6_powers A_0_7_lefts => lp_X12_tellsLefts_36 A_0_0_f K k36 x1 A_0_6_powers A_0_7_lefts) K x1 A_0_6_powers A_0_7_lefts → MW D A s.heap [(h0, .inr (11, oX12 r0 I_0_isFound I_0_foundB I_0_changes I_0_taped I_0_size I_0_at I_0_signs I_0_wanted I_0_sign I_0_isKept I_0_keptFound I_0_keptB I_0_keptChanges)), ((r0 0), .inl (cI, 5, .inl A_0_0_f)), ((r0 6), .inl (cI, 125, .inl A_0_6_powers)), ((r0 7), .inl (cI, 1125, .inl A_0_7_lefts))] H locs → lv_has ls 4 [(0, .ref h0), (1, .int x1)] → W p l e rm_X12_tellsLefts s m args below meth c H locs 0 0 Q (F0 m 75 ls []) := by
        intro x1 A_0_6_powers A_0_7_lefts H locs ls h hM hl
        unfold jn_X12_tellsLefts_75 at h
        refine lv_iinc (v := (x1 + (1 : Int32))) (lv' := [(1, .int (x1 + (1 : Int32))), (0, .ref h0)]) hx hb dX12_tellsLefts_75 hl (k := 1) rfl rfl (by decide) rfl (fun ls hl => ?_)
        refine lv_goto (tgt := 36) hx hb dX12_tellsLefts_78 (by decide) ?_
        exact ih36 _ _ _ _ _ _ h hM (lv_sub hl [1, 0] rfl)
      have lq43 : ∀ (k43 : Nat) (x1 : Int32) (x2 : Int32) (A_0_6_powers : (Nat → Int32)) (A_0_7_lefts : (Nat → Int32)) (H : Heap) (locs : List Loc) (ls : Array Slot) , lp_X12_tellsLefts_43 A_0_0_f (jn_X12_tellsLefts_75 A_0_0_f (fun x1 A_0_6_powers A_0_7_lefts => lp_X12_tellsLefts_36 A_0_0_f K k36 x1 A_0_6_powers A_0_7_lefts) K) K k43 x1 x2 A_0_6_powers A_0_7_lefts → MW D A s.heap [(h0, .inr (11, oX12 r0 I_0_isFound I_0_foundB I_0_changes I_0_taped I_0_size I_0_at I_0_signs I_0_wanted I_0_sign I_0_isKept I_0_keptFound I_0_keptB I_0_keptChanges)), ((r0 0), .inl (cI, 5, .inl A_0_0_f)), ((r0 6), .inl (cI, 125, .inl A_0_6_powers)), ((r0 7), .inl (cI, 1125, .inl A_0_7_lefts))] H locs → lv_has ls 4 [(0, .ref h0), (1, .int x1), (2, .int x2)] → W p l e rm_X12_tellsLefts s m args below meth c H locs 0 0 Q (F0 m 43 ls []) := by
        intro k43
        induction k43 with
        | zero =>
          intro x1 x2 A_0_6_powers A_0_7_lefts H locs ls h
          unfold lp_X12_tellsLefts_43 at h
          exact h.elim
        | succ k43 ih43 =>
          have jq69 : ∀ (x1 : Int32) (x2 : Int32) (A_0_6_powers : (Nat → Int32)) (A_0_7_lefts : (Nat → Int32)) (H : Heap) (locs : List Loc) (ls : Array Slot) , jn_X12_tellsLefts_69 A_0_0_f (fun x1 x2 A_0_6_powers A_0_7_lefts => lp_X12_tellsLefts_43 A_0_0_f (jn_X12_tellsLefts_75 A_0_0_f (fun x1 A_0_6_powers A_0_7_lefts => lp_X12_tellsLefts_36 A_0_0_f K k36 x1 A_0_6_powers A_0_7_lefts) K) K k43 x1 x2 A_0_6_powers A_0_7_lefts) (jn_X12_tellsLefts_75 A_0_0_f (fun x1 A_0_6_powers A_0_7_lefts => lp_X12_tellsLefts_36 A_0_0_f K k36 x1 A_0_6_powers A_0_7_lefts) K) K x1 x2 A_0_6_powers A_0_7_lefts → MW D A s.heap [(h0, .inr (11, oX12 r0 I_0_isFound I_0_foundB I_0_changes I_0_taped I_0_size I_0_at I_0_signs I_0_wanted I_0_sign I_0_isKept I_0_keptFound I_0_keptB I_0_keptChanges)), ((r0 0), .inl (cI, 5, .inl A_0_0_f)), ((r0 6), .inl (cI, 125, .inl A_0_6_powers)), ((r0 7), .inl (cI, 1125, .inl A_0_7_lefts))] H locs → lv_has ls 4 [(0, .ref h0), (1, .int x1), (2, .int x2)] → W p l e rm_X12_tellsLefts s m args below meth c H locs 0 0 Q (F0 m 69 ls []) := by
            intro x1 x2 A_0_6_powers A_0_7_lefts H locs ls h hM hl
            unfold jn_X12_tellsLefts_69 at h
            refine lv_iinc (v := (x2 + (1 : Int32))) (lv' := [(2, .int (x2 + (1 : Int32))), (0, .ref h0), (1, .int x1)]) hx hb dX12_tellsLefts_69 hl (k := 2) rfl rfl (by decide) rfl (fun ls hl => ?_)
            refine lv_goto (tgt := 43) hx hb dX12_tellsLefts_72 (by decide) ?_
            exact ih43 _ _ _ _ _ _ _ h hM (lv_sub hl [1, 2, 0] rfl)
          have lq51 : ∀ (k51 : Nat) (x1 : Int32) (x2 : Int32) (x3 : Int32) (A_0_6_powers : (Nat → Int32)) (A_0_7_lefts : (Nat → Int32)) (H : Heap) (locs : List Loc) (ls : Array Slot) , lp_X12_tellsLefts_51 A_0_0_f (jn_X12_tellsLefts_69 A_0_0_f (fun x1 x2 A_0_6_powers A_0_7_lefts => lp_X12_tellsLefts_43 A_0_0_f (jn_X12_tellsLefts_75 A_0_0_f (fun x1 A_0_6_powers A_0_7_lefts => lp_X12_tellsLefts_36 A_0_0_f K k36 x1 A_0_6_powers A_0_7_lefts) K) K k43 x1 x2 A_0_6_powers A_0_7_lefts) (jn_X12_tellsLefts_75 A_0_0_f (fun x1 A_0_6_powers A_0_7_lefts => lp_X12_tellsLefts_36 A_0_0_f K k36 x1 A_0_6_powers A_0_7_lefts) K) K) K k51 x1 x2 x3 A_0_6_powers A_0_7_lefts → MW D A s.heap [(h0, .inr (11, oX12 r0 I_0_isFound I_0_foundB I_0_changes I_0_taped I_0_size I_0_at I_0_signs I_0_wanted I_0_sign I_0_isKept I_0_keptFound I_0_keptB I_0_keptChanges)), ((r0 0), .inl (cI, 5, .inl A_0_0_f)), ((r0 6), .inl (cI, 125, .inl A_0_6_powers)), ((r0 7), .inl (cI, 1125, .inl A_0_7_lefts))] H locs → lv_has ls 4 [(0, .ref h0), (1, .int x1), (2, .int x2), (3, .int x3)] → W p l e rm_X12_tellsLefts s m args below meth c H locs 0 0 Q (F0 m 51 ls []) := by
            intro k51
            induction k51 with
            | zero =>
              intro x1 x2 x3 A_0_6_powers A_0_7_lefts H locs ls h
              unfold lp_X12_tellsLefts_51 at h
              exact h.elim
            | succ k51 ih51 =>
              intro x1 x2 x3 A_0_6_powers A_0_7_lefts H locs ls h hM hl
              unfold lp_X12_tellsLefts_51 at h
              refine lv_iload_n hx hb dX12_tellsLefts_51 rfl (lv_at hl 3 rfl) ?_
              refine lv_iconst (v := (5 : Int32)) hx hb dX12_tellsLefts_52 (by decide) ?_
              refine lv_icmp_ge (tgt := 69) hx hb dX12_tellsLefts_53 (by decide) (fun hq => ?_) (fun hq => ?_)
              · have h := h.1 hq
                exact jq69 _ _ _ _ _ _ _ h hM (lv_sub hl [0, 1, 2] rfl)
              · have h := h.2 hq
                refine lv_aload_n hx hb dX12_tellsLefts_56 rfl (lv_at hl 0 rfl) ?_
                refine lv_iload_n hx hb dX12_tellsLefts_57 rfl (lv_at hl 1 rfl) ?_
                refine lv_iload_n hx hb dX12_tellsLefts_58 rfl (lv_at hl 2 rfl) ?_
                refine lv_iload_n hx hb dX12_tellsLefts_59 rfl (lv_at hl 3 rfl) ?_
                refine m_callv (wc := [(h0, .inr (11, oX12 r0 I_0_isFound I_0_foundB I_0_changes I_0_taped I_0_size I_0_at I_0_signs I_0_wanted I_0_sign I_0_isKept I_0_keptFound I_0_keptB I_0_keptChanges)), ((r0 0), .inl (cI, 5, .inl A_0_0_f)), ((r0 7), .inl (cI, 1125, .inl A_0_7_lefts))]) C0 hM [0, 1, 3] rfl (m_runV (wc := [(h0, .inr (11, oX12 r0 I_0_isFound I_0_foundB I_0_changes I_0_taped I_0_size I_0_at I_0_signs I_0_wanted I_0_sign I_0_isKept I_0_keptFound I_0_keptB I_0_keptChanges)), ((r0 0), .inl (cI, 5, .inl A_0_0_f)), ((r0 7), .inl (cI, 1125, .inl A_0_7_lefts))]) (As := [.int x1, .int x2, .int x3]) (rest := []) (ci := 11) C0 hM (ct_X12_derives l D cI cJ cZ h0 r0 I_0_isFound I_0_foundB I_0_changes I_0_taped I_0_size I_0_at I_0_signs I_0_wanted I_0_sign I_0_isKept I_0_keptFound I_0_keptB I_0_keptChanges A_0_0_f A_0_7_lefts x1 x2 x3 _ _ h) [0, 1, 3] rfl (by decide) gX12_tellsLefts_X12_derives rfl rfl rfl rfl rfl hd_X12_derives ⟨Nat.le_of_ble_eq_true rfl, Nat.le_of_ble_eq_true rfl⟩ rfl hl.1 rfl (Nat.le_of_ble_eq_true rfl) dX12_tellsLefts_60 ⟨Nat.le_of_ble_eq_true rfl, Nat.le_of_ble_eq_true rfl⟩) (fun u => [(h0, .inr (11, oX12 r0 I_0_isFound I_0_foundB I_0_changes I_0_taped I_0_size I_0_at I_0_signs I_0_wanted I_0_sign I_0_isKept I_0_keptFound I_0_keptB I_0_keptChanges)), ((r0 0), .inl (cI, 5, .inl A_0_0_f)), ((r0 6), .inl (cI, 125, .inl A_0_6_powers)), ((r0 7), .inl (cI, 1125, .inl u))]) (fun _ => rfl) (fun _ => rfl) (fun b1 H locs h hM => ?_)
                refine lv_iinc (v := (x3 + (1 : Int32))) (lv' := [(3, .int (x3 + (1 : Int32))), (0, .ref h0), (1, .int x1), (2, .int x2)]) hx hb dX12_tellsLefts_63 hl (k := 3) rfl rfl (by decide) rfl (fun ls hl => ?_)
                refine lv_goto (tgt := 51) hx hb dX12_tellsLefts_66 (by decide) ?_
                exact ih51 _ _ _ _ _ _ _ _ h hM (lv_sub hl [1, 2, 3, 0] rfl)
          intro x1 x2 A_0_6_powers A_0_7_lefts H locs ls h hM hl
          unfold lp_X12_tellsLefts_43 at h
          refine lv_iload_n hx hb dX12_tellsLefts_43 rfl (lv_at hl 2 rfl) ?_
          refine lv_bipush (v := (13 : Int32)) hx hb dX12_tellsLefts_44 (by decide) ?_
          refine lv_icmp_ge (tgt := 75) hx hb dX12_tellsLefts_46 (by decide) (fun hq => ?_) (fun hq => ?_)
          · have h := h.1 hq
            exact jq75 _ _ _ _ _ _ h hM (lv_sub hl [0, 1] rfl)
          · have h := h.2 hq
            refine lv_iconst (v := (0 : Int32)) hx hb dX12_tellsLefts_49 (by decide) ?_
            refine lv_istore_n (lv' := [(3, .int (0 : Int32)), (0, .ref h0), (1, .int x1), (2, .int x2)]) hx hb dX12_tellsLefts_50 rfl hl (by decide) rfl (fun ls hl => ?_)
            obtain ⟨k0, h⟩ := h
            exact lq51 k0 _ _ _ _ _ _ _ _ h hM (lv_sub hl [1, 2, 3, 0] rfl)
      intro x1 A_0_6_powers A_0_7_lefts H locs ls h hM hl
      unfold lp_X12_tellsLefts_36 at h
      refine lv_iload_n hx hb dX12_tellsLefts_36 rfl (lv_at hl 1 rfl) ?_
      refine lv_iconst (v := (4 : Int32)) hx hb dX12_tellsLefts_37 (by decide) ?_
      refine lv_icmp_ge (tgt := 81) hx hb dX12_tellsLefts_38 (by decide) (fun hq => ?_) (fun hq => ?_)
      · have h := h.1 hq
        subst hsz; subst hA; subst hQ
        exact m_vret C0 hr hM (A_0_6_powers, A_0_7_lefts) h rfl dX12_tellsLefts_81
      · have h := h.2 hq
        refine lv_iconst (v := (0 : Int32)) hx hb dX12_tellsLefts_41 (by decide) ?_
        refine lv_istore_n (lv' := [(2, .int (0 : Int32)), (0, .ref h0), (1, .int x1)]) hx hb dX12_tellsLefts_42 rfl hl (by decide) rfl (fun ls hl => ?_)
        obtain ⟨k0, h⟩ := h
        exact lq43 k0 _ _ _ _ _ _ _ h hM (lv_sub hl [1, 2, 0] rfl)
  have jq34 : ∀ (A_0_6_powers : (Nat → Int32)) (A_0_7_lefts : (Nat → Int32)) (H : Heap) (locs : List Loc) (ls : Array Slot) , jn_X12_tellsLefts_34 A_0_0_f K A_0_6_powers A_0_7_lefts → MW D A s.heap [(h0, .inr (11, oX12 r0 I_0_isFound I_0_foundB I_0_changes I_0_taped I_0_size I_0_at I_0_signs I_0_wanted I_0_sign I_0_isKept I_0_keptFound I_0_keptB I_0_keptChanges)), ((r0 0), .inl (cI, 5, .inl A_0_0_f)), ((r0 6), .inl (cI, 125, .inl A_0_6_powers)), ((r0 7), .inl (cI, 1125, .inl A_0_7_lefts))] H locs → lv_has ls 4 [(0, .ref h0)] → W p l e rm_X12_tellsLefts s m args below meth c H locs 0 0 Q (F0 m 34 ls []) := by
    intro A_0_6_powers A_0_7_lefts H locs ls h hM hl
    unfold jn_X12_tellsLefts_34 at h
    refine lv_iconst (v := (0 : Int32)) hx hb dX12_tellsLefts_34 (by decide) ?_
    refine lv_istore_n (lv' := [(1, .int (0 : Int32)), (0, .ref h0)]) hx hb dX12_tellsLefts_35 rfl hl (by decide) rfl (fun ls hl => ?_)
    obtain ⟨k0, h⟩ := h
    exact lq36 k0 _ _ _ _ _ _ h hM (lv_sub hl [1, 0] rfl)
  have lq6 : ∀ (k6 : Nat) (x1 : Int32) (A_0_6_powers : (Nat → Int32)) (A_0_7_lefts : (Nat → Int32)) (H : Heap) (locs : List Loc) (ls : Array Slot) , lp_X12_tellsLefts_6 A_0_0_f (jn_X12_tellsLefts_34 A_0_0_f K) K k6 x1 A_0_6_powers A_0_7_lefts → MW D A s.heap [(h0, .inr (11, oX12 r0 I_0_isFound I_0_foundB I_0_changes I_0_taped I_0_size I_0_at I_0_signs I_0_wanted I_0_sign I_0_isKept I_0_keptFound I_0_keptB I_0_keptChanges)), ((r0 0), .inl (cI, 5, .inl A_0_0_f)), ((r0 6), .inl (cI, 125, .inl A_0_6_powers)), ((r0 7), .inl (cI, 1125, .inl A_0_7_lefts))] H locs → lv_has ls 4 [(0, .ref h0), (1, .int x1)] → W p l e rm_X12_tellsLefts s m args below meth c H locs 0 0 Q (F0 m 6 ls []) := by
    intro k6
    induction k6 with
    | zero =>
      intro x1 A_0_6_powers A_0_7_lefts H locs ls h
      unfold lp_X12_tellsLefts_6 at h
      exact h.elim
    | succ k6 ih6 =>
      have jq27 : ∀ (x1 : Int32) (s1 : Int32) (s2 : Int32) (A_0_6_powers : (Nat → Int32)) (A_0_7_lefts : (Nat → Int32)) (H : Heap) (locs : List Loc) (ls : Array Slot) , jn_X12_tellsLefts_27 A_0_0_f (fun x1 A_0_6_powers A_0_7_lefts => lp_X12_tellsLefts_6 A_0_0_f (jn_X12_tellsLefts_34 A_0_0_f K) K k6 x1 A_0_6_powers A_0_7_lefts) (jn_X12_tellsLefts_34 A_0_0_f K) K x1 s1 s2 A_0_6_powers A_0_7_lefts → MW D A s.heap [(h0, .inr (11, oX12 r0 I_0_isFound I_0_foundB I_0_changes I_0_taped I_0_size I_0_at I_0_signs I_0_wanted I_0_sign I_0_isKept I_0_keptFound I_0_keptB I_0_keptChanges)), ((r0 0), .inl (cI, 5, .inl A_0_0_f)), ((r0 6), .inl (cI, 125, .inl A_0_6_powers)), ((r0 7), .inl (cI, 1125, .inl A_0_7_lefts))] H locs → lv_has ls 4 [(0, .ref h0), (1, .int x1)] → W p l e rm_X12_tellsLefts s m args below meth c H locs 0 0 Q (F0 m 27 ls [.int s2, .int s1, .ref (r0 7)]) := by
        intro x1 s1 s2 A_0_6_powers A_0_7_lefts H locs ls h hM hl
        unfold jn_X12_tellsLefts_27 at h
        obtain ⟨hc2, h⟩ := h
        refine m_iast (ws' := [(h0, .inr (11, oX12 r0 I_0_isFound I_0_foundB I_0_changes I_0_taped I_0_size I_0_at I_0_signs I_0_wanted I_0_sign I_0_isKept I_0_keptFound I_0_keptB I_0_keptChanges)), ((r0 0), .inl (cI, 5, .inl A_0_0_f)), ((r0 6), .inl (cI, 125, .inl A_0_6_powers)), ((r0 7), .inl (cI, 1125, .inl (upd A_0_7_lefts (s1).toNatClampNeg s2)))]) C0 hM 3 rfl hc2 rfl dX12_tellsLefts_27 (fun H locs hM => ?_)
        refine lv_iinc (v := (x1 + (1 : Int32))) (lv' := [(1, .int (x1 + (1 : Int32))), (0, .ref h0)]) hx hb dX12_tellsLefts_28 hl (k := 1) rfl rfl (by decide) rfl (fun ls hl => ?_)
        refine lv_goto (tgt := 6) hx hb dX12_tellsLefts_31 (by decide) ?_
        exact ih6 _ _ _ _ _ _ h hM (lv_sub hl [1, 0] rfl)
      intro x1 A_0_6_powers A_0_7_lefts H locs ls h hM hl
      unfold lp_X12_tellsLefts_6 at h
      refine lv_iload_n hx hb dX12_tellsLefts_6 rfl (lv_at hl 1 rfl) ?_
      refine lv_sipush (v := (1125 : Int32)) hx hb dX12_tellsLefts_7 (by decide) ?_
      refine lv_icmp_ge (tgt := 34) hx hb dX12_tellsLefts_10 (by decide) (fun hq => ?_) (fun hq => ?_)
      · have h := h.1 hq
        exact jq34 _ _ _ _ _ h hM (lv_sub hl [0] rfl)
      · have h := h.2 hq
        refine lv_aload_n hx hb dX12_tellsLefts_13 rfl (lv_at hl 0 rfl) ?_
        refine m_get (C := RX12) (T := TX12) (N := 45) (ci := 11) (ref := "LoweredPowersModel") (v := .ref (r0 7)) C0 hM 0 rfl rfl kt_X12_tellsLefts_X12 7 (by decide) kw_X12_tellsLefts_1 rfl rfl dX12_tellsLefts_14 ?_
        refine lv_iload_n hx hb dX12_tellsLefts_17 rfl (lv_at hl 1 rfl) ?_
        refine lv_iload_n hx hb dX12_tellsLefts_18 rfl (lv_at hl 1 rfl) ?_
        refine lv_if_ne (tgt := 26) hx hb dX12_tellsLefts_19 (by decide) (fun hq => ?_) (fun hq => ?_)
        · have h := h.1 hq
          refine lv_iconst (v := (0 : Int32)) hx hb dX12_tellsLefts_26 (by decide) ?_
          exact jq27 _ _ _ _ _ _ _ _ h hM (lv_sub hl [0, 1] rfl)
        · have h := h.2 hq
          refine lv_iconst (v := (1 : Int32)) hx hb dX12_tellsLefts_22 (by decide) ?_
          refine lv_goto (tgt := 27) hx hb dX12_tellsLefts_23 (by decide) ?_
          exact jq27 _ _ _ _ _ _ _ _ h hM (lv_sub hl [0, 1] rfl)
  unfold wp_X12_tellsLefts at h
  refine lv_aload_n hx hb dX12_tellsLefts_0 rfl (lv_at hl 0 rfl) ?_
  refine m_callv (wc := [(h0, .inr (11, oX12 r0 I_0_isFound I_0_foundB I_0_changes I_0_taped I_0_size I_0_at I_0_signs I_0_wanted I_0_sign I_0_isKept I_0_keptFound I_0_keptB I_0_keptChanges)), ((r0 0), .inl (cI, 5, .inl A_0_0_f)), ((r0 6), .inl (cI, 125, .inl A_0_6_powers))]) C0 hM [0, 1, 2] rfl (m_runV (wc := [(h0, .inr (11, oX12 r0 I_0_isFound I_0_foundB I_0_changes I_0_taped I_0_size I_0_at I_0_signs I_0_wanted I_0_sign I_0_isKept I_0_keptFound I_0_keptB I_0_keptChanges)), ((r0 0), .inl (cI, 5, .inl A_0_0_f)), ((r0 6), .inl (cI, 125, .inl A_0_6_powers))]) (As := []) (rest := []) (ci := 11) C0 hM (ct_X12_tellsPowers l D cI cJ cZ h0 r0 I_0_isFound I_0_foundB I_0_changes I_0_taped I_0_size I_0_at I_0_signs I_0_wanted I_0_sign I_0_isKept I_0_keptFound I_0_keptB I_0_keptChanges A_0_0_f A_0_6_powers _ _ h) [0, 1, 2] rfl (by decide) gX12_tellsLefts_X12_tellsPowers rfl rfl rfl rfl rfl hd_X12_tellsPowers ⟨Nat.le_of_ble_eq_true rfl, Nat.le_of_ble_eq_true rfl⟩ rfl hl.1 rfl (Nat.le_of_ble_eq_true rfl) dX12_tellsLefts_1 ⟨Nat.le_of_ble_eq_true rfl, Nat.le_of_ble_eq_true rfl⟩) (fun u => [(h0, .inr (11, oX12 r0 I_0_isFound I_0_foundB I_0_changes I_0_taped I_0_size I_0_at I_0_signs I_0_wanted I_0_sign I_0_isKept I_0_keptFound I_0_keptB I_0_keptChanges)), ((r0 0), .inl (cI, 5, .inl A_0_0_f)), ((r0 6), .inl (cI, 125, .inl u)), ((r0 7), .inl (cI, 1125, .inl A_0_7_lefts))]) (fun _ => rfl) (fun _ => rfl) (fun b3 H locs h hM => ?_)
  refine lv_iconst (v := (0 : Int32)) hx hb dX12_tellsLefts_4 (by decide) ?_
  refine lv_istore_n (lv' := [(1, .int (0 : Int32)), (0, .ref h0)]) hx hb dX12_tellsLefts_5 rfl hl (by decide) rfl (fun ls hl => ?_)
  obtain ⟨k0, h⟩ := h
  exact lq6 k0 _ _ _ _ _ _ h hM (lv_sub hl [1, 0] rfl)
abbrev rm_X12_brings : Room := { frames := 0, cells := 0, slots := 0, locals := 0 }
set_option maxRecDepth 100000 in
set_option maxHeartbeats 4000000 in
theorem ct_X12_brings (l : Launch) (D : va_G) (cI cJ cZ : ClassId) (h0 : Nat) (r0 : Nat → Nat) (I_0_isFound : Int32) (I_0_foundB : Int32) (I_0_changes : Int32) (I_0_taped : Int32) (I_0_size : Int32) (I_0_at : Int32) (I_0_signs : Int32) (I_0_wanted : Int32) (I_0_sign : Int32) (I_0_isKept : Int32) (I_0_keptFound : Int32) (I_0_keptB : Int32) (I_0_keptChanges : Int32) (A_0_6_powers : (Nat → Int32)) (A_0_7_lefts : (Nat → Int32)) (A_0_8_cells : (Nat → Int32)) (x1 : Int32) (x2 : Int32) (x3 : Int32) (x4 : Int32) (x5 : Int32) (sz : Nat) (K : (Nat → Int32) → Prop) (h : wp_X12_brings x1 x2 x3 x4 x5 A_0_6_powers A_0_7_lefts A_0_8_cells K) : Met l yX12_brings wsX12_brings rm_X12_brings (va_Pc [.ref h0, .int x1, .int x2, .int x3, .int x4, .int x5] (WX D cI cJ cZ [(h0, .inr (11, oX12 r0 I_0_isFound I_0_foundB I_0_changes I_0_taped I_0_size I_0_at I_0_signs I_0_wanted I_0_sign I_0_isKept I_0_keptFound I_0_keptB I_0_keptChanges)), ((r0 6), .inl (cI, 125, .inl A_0_6_powers)), ((r0 7), .inl (cI, 1125, .inl A_0_7_lefts)), ((r0 8), .inl (cI, 225, .inl A_0_8_cells))] sz)) (va_Qv (fun (u : (Nat → Int32)) => K u) (fun (u : (Nat → Int32)) t => WY D (va_A [(h0, .inr (11, oX12 r0 I_0_isFound I_0_foundB I_0_changes I_0_taped I_0_size I_0_at I_0_signs I_0_wanted I_0_sign I_0_isKept I_0_keptFound I_0_keptB I_0_keptChanges)), ((r0 6), .inl (cI, 125, .inl A_0_6_powers)), ((r0 7), .inl (cI, 1125, .inl A_0_7_lefts)), ((r0 8), .inl (cI, 225, .inl A_0_8_cells))] sz) [(h0, .inr (11, oX12 r0 I_0_isFound I_0_foundB I_0_changes I_0_taped I_0_size I_0_at I_0_signs I_0_wanted I_0_sign I_0_isKept I_0_keptFound I_0_keptB I_0_keptChanges)), ((r0 6), .inl (cI, 125, .inl A_0_6_powers)), ((r0 7), .inl (cI, 1125, .inl A_0_7_lefts)), ((r0 8), .inl (cI, 225, .inl u))] t) (va_A [(h0, .inr (11, oX12 r0 I_0_isFound I_0_foundB I_0_changes I_0_taped I_0_size I_0_at I_0_signs I_0_wanted I_0_sign I_0_isKept I_0_keptFound I_0_keptB I_0_keptChanges)), ((r0 6), .inl (cI, 125, .inl A_0_6_powers)), ((r0 7), .inl (cI, 1125, .inl A_0_7_lefts)), ((r0 8), .inl (cI, 225, .inl A_0_8_cells))] sz)) 0 0 (va_A [(h0, .inr (11, oX12 r0 I_0_isFound I_0_foundB I_0_changes I_0_taped I_0_size I_0_at I_0_signs I_0_wanted I_0_sign I_0_isKept I_0_keptFound I_0_keptB I_0_keptChanges)), ((r0 6), .inl (cI, 125, .inl A_0_6_powers)), ((r0 7), .inl (cI, 1125, .inl A_0_7_lefts)), ((r0 8), .inl (cI, 225, .inl A_0_8_cells))] sz) := by
  refine m_met (own := RX12) (cc := cX12_brings) (maxL := 12) (ret := none) [.ref h0, .int x1, .int x2, .int x3, .int x4, .int x5] [(0, .ref h0), (1, .int x1), (2, .int x2), (3, .int x3), (4, .int x4), (5, .int x5)] (by decide) rfl rfl (Nat.le_of_ble_eq_true rfl) rfl ?_
  intro p e s m args below meth c Q A hQ hA C0 hr hnm hsz hM ls hl
  have hx := C0.1
  have hb := C0.2.1
  have hown := C0.2.2.2.1
  have lq3 : ∀ (k3 : Nat) (x6 : Int32) (A_0_8_cells : (Nat → Int32)) (H : Heap) (locs : List Loc) (ls : Array Slot) , lp_X12_brings_3 x1 x2 x3 x4 x5 A_0_6_powers A_0_7_lefts K k3 x6 A_0_8_cells → MW D A s.heap [(h0, .inr (11, oX12 r0 I_0_isFound I_0_foundB I_0_changes I_0_taped I_0_size I_0_at I_0_signs I_0_wanted I_0_sign I_0_isKept I_0_keptFound I_0_keptB I_0_keptChanges)), ((r0 6), .inl (cI, 125, .inl A_0_6_powers)), ((r0 7), .inl (cI, 1125, .inl A_0_7_lefts)), ((r0 8), .inl (cI, 225, .inl A_0_8_cells))] H locs → lv_has ls 12 [(0, .ref h0), (1, .int x1), (2, .int x2), (3, .int x3), (4, .int x4), (5, .int x5), (6, .int x6)] → W p l e rm_X12_brings s m args below meth c H locs 0 0 Q (F0 m 3 ls []) := by
    intro k3
    induction k3 with
    | zero =>
      intro x6 A_0_8_cells H locs ls h
      unfold lp_X12_brings_3 at h
      exact h.elim
    | succ k3 ih3 =>
      have jq137 : ∀ (x6 : Int32) (A_0_8_cells : (Nat → Int32)) (H : Heap) (locs : List Loc) (ls : Array Slot) , jn_X12_brings_137 x1 x2 x3 x4 x5 A_0_6_powers A_0_7_lefts (fun x6 A_0_8_cells => lp_X12_brings_3 x1 x2 x3 x4 x5 A_0_6_powers A_0_7_lefts K k3 x6 A_0_8_cells) K x6 A_0_8_cells → MW D A s.heap [(h0, .inr (11, oX12 r0 I_0_isFound I_0_foundB I_0_changes I_0_taped I_0_size I_0_at I_0_signs I_0_wanted I_0_sign I_0_isKept I_0_keptFound I_0_keptB I_0_keptChanges)), ((r0 6), .inl (cI, 125, .inl A_0_6_powers)), ((r0 7), .inl (cI, 1125, .inl A_0_7_lefts)), ((r0 8), .inl (cI, 225, .inl A_0_8_cells))] H locs → lv_has ls 12 [(0, .ref h0), (1, .int x1), (2, .int x2), (3, .int x3), (4, .int x4), (5, .int x5), (6, .int x6)] → W p l e rm_X12_brings s m args below meth c H locs 0 0 Q (F0 m 137 ls []) := by
        intro x6 A_0_8_cells H locs ls h hM hl
        unfold jn_X12_brings_137 at h
        refine lv_iinc (v := (x6 + (1 : Int32))) (lv' := [(6, .int (x6 + (1 : Int32))), (0, .ref h0), (1, .int x1), (2, .int x2), (3, .int x3), (4, .int x4), (5, .int x5)]) hx hb dX12_brings_137 hl (k := 6) rfl rfl (by decide) rfl (fun ls hl => ?_)
        refine lv_goto (tgt := 3) hx hb dX12_brings_140 (by decide) ?_
        exact ih3 _ _ _ _ _ h hM (lv_sub hl [1, 2, 3, 4, 5, 6, 0] rfl)
      have lq13 : ∀ (k13 : Nat) (x6 : Int32) (x7 : Int32) (A_0_8_cells : (Nat → Int32)) (H : Heap) (locs : List Loc) (ls : Array Slot) , lp_X12_brings_13 x1 x2 x3 x4 x5 A_0_6_powers A_0_7_lefts (jn_X12_brings_137 x1 x2 x3 x4 x5 A_0_6_powers A_0_7_lefts (fun x6 A_0_8_cells => lp_X12_brings_3 x1 x2 x3 x4 x5 A_0_6_powers A_0_7_lefts K k3 x6 A_0_8_cells) K) K k13 x6 x7 A_0_8_cells → MW D A s.heap [(h0, .inr (11, oX12 r0 I_0_isFound I_0_foundB I_0_changes I_0_taped I_0_size I_0_at I_0_signs I_0_wanted I_0_sign I_0_isKept I_0_keptFound I_0_keptB I_0_keptChanges)), ((r0 6), .inl (cI, 125, .inl A_0_6_powers)), ((r0 7), .inl (cI, 1125, .inl A_0_7_lefts)), ((r0 8), .inl (cI, 225, .inl A_0_8_cells))] H locs → lv_has ls 12 [(0, .ref h0), (1, .int x1), (2, .int x2), (3, .int x3), (4, .int x4), (5, .int x5), (6, .int x6), (7, .int x7)] → W p l e rm_X12_brings s m args below meth c H locs 0 0 Q (F0 m 13 ls []) := by
        intro k13
        induction k13 with
        | zero =>
          intro x6 x7 A_0_8_cells H locs ls h
          unfold lp_X12_brings_13 at h
          exact h.elim
        | succ k13 ih13 =>
          have jq131 : ∀ (x6 : Int32) (x7 : Int32) (A_0_8_cells : (Nat → Int32)) (H : Heap) (locs : List Loc) (ls : Array Slot) , jn_X12_brings_131 x1 x2 x3 x4 x5 A_0_6_powers A_0_7_lefts (fun x6 x7 A_0_8_cells => lp_X12_brings_13 x1 x2 x3 x4 x5 A_0_6_powers A_0_7_lefts (jn_X12_brings_137 x1 x2 x3 x4 x5 A_0_6_powers A_0_7_lefts (fun x6 A_0_8_cells => lp_X12_brings_3 x1 x2 x3 x4 x5 A_0_6_powers A_0_7_lefts K k3 x6 A_0_8_cells) K) K k13 x6 x7 A_0_8_cells) (jn_X12_brings_137 x1 x2 x3 x4 x5 A_0_6_powers A_0_7_lefts (fun x6 A_0_8_cells => lp_X12_brings_3 x1 x2 x3 x4 x5 A_0_6_powers A_0_7_lefts K k3 x6 A_0_8_cells) K) K x6 x7 A_0_8_cells → MW D A s.heap [(h0, .inr (11, oX12 r0 I_0_isFound I_0_foundB I_0_changes I_0_taped I_0_size I_0_at I_0_signs I_0_wanted I_0_sign I_0_isKept I_0_keptFound I_0_keptB I_0_keptChanges)), ((r0 6), .inl (cI, 125, .inl A_0_6_powers)), ((r0 7), .inl (cI, 1125, .inl A_0_7_lefts)), ((r0 8), .inl (cI, 225, .inl A_0_8_cells))] H locs → lv_has ls 12 [(0, .ref h0), (1, .int x1), (2, .int x2), (3, .int x3), (4, .int x4), (5, .int x5), (6, .int x6), (7, .int x7)] → W p l e rm_X12_brings s m args below meth c H locs 0 0 Q (F0 m 131 ls []) := by
            intro x6 x7 A_0_8_cells H locs ls h hM hl
            unfold jn_X12_brings_131 at h
            refine lv_iinc (v := (x7 + (1 : Int32))) (lv' := [(7, .int (x7 + (1 : Int32))), (0, .ref h0), (1, .int x1), (2, .int x2), (3, .int x3), (4, .int x4), (5, .int x5), (6, .int x6)]) hx hb dX12_brings_131 hl (k := 7) rfl rfl (by decide) rfl (fun ls hl => ?_)
            refine lv_goto (tgt := 13) hx hb dX12_brings_134 (by decide) ?_
            exact ih13 _ _ _ _ _ _ h hM (lv_sub hl [1, 2, 3, 4, 5, 6, 7, 0] rfl)
          have lq49 : ∀ (k49 : Nat) (x6 : Int32) (x7 : Int32) (x8 : Int32) (x9 : Int32) (A_0_8_cells : (Nat → Int32)) (H : Heap) (locs : List Loc) (ls : Array Slot) , lp_X12_brings_49 x1 x2 x3 x4 x5 A_0_6_powers A_0_7_lefts (jn_X12_brings_131 x1 x2 x3 x4 x5 A_0_6_powers A_0_7_lefts (fun x6 x7 A_0_8_cells => lp_X12_brings_13 x1 x2 x3 x4 x5 A_0_6_powers A_0_7_lefts (jn_X12_brings_137 x1 x2 x3 x4 x5 A_0_6_powers A_0_7_lefts (fun x6 A_0_8_cells => lp_X12_brings_3 x1 x2 x3 x4 x5 A_0_6_powers A_0_7_lefts K k3 x6 A_0_8_cells) K) K k13 x6 x7 A_0_8_cells) (jn_X12_brings_137 x1 x2 x3 x4 x5 A_0_6_powers A_0_7_lefts (fun x6 A_0_8_cells => lp_X12_brings_3 x1 x2 x3 x4 x5 A_0_6_powers A_0_7_lefts K k3 x6 A_0_8_cells) K) K) K k49 x6 x7 x8 x9 A_0_8_cells → MW D A s.heap [(h0, .inr (11, oX12 r0 I_0_isFound I_0_foundB I_0_changes I_0_taped I_0_size I_0_at I_0_signs I_0_wanted I_0_sign I_0_isKept I_0_keptFound I_0_keptB I_0_keptChanges)), ((r0 6), .inl (cI, 125, .inl A_0_6_powers)), ((r0 7), .inl (cI, 1125, .inl A_0_7_lefts)), ((r0 8), .inl (cI, 225, .inl A_0_8_cells))] H locs → lv_has ls 12 [(0, .ref h0), (1, .int x1), (2, .int x2), (3, .int x3), (4, .int x4), (5, .int x5), (6, .int x6), (7, .int x7), (8, .int x8), (9, .int x9)] → W p l e rm_X12_brings s m args below meth c H locs 0 0 Q (F0 m 49 ls []) := by
            intro k49
            induction k49 with
            | zero =>
              intro x6 x7 x8 x9 A_0_8_cells H locs ls h
              unfold lp_X12_brings_49 at h
              exact h.elim
            | succ k49 ih49 =>
              have jq125 : ∀ (x6 : Int32) (x7 : Int32) (x8 : Int32) (x9 : Int32) (A_0_8_cells : (Nat → Int32)) (H : Heap) (locs : List Loc) (ls : Array Slot) , jn_X12_brings_125 x1 x2 x3 x4 x5 A_0_6_powers A_0_7_lefts (fun x6 x7 x8 x9 A_0_8_cells => lp_X12_brings_49 x1 x2 x3 x4 x5 A_0_6_powers A_0_7_lefts (jn_X12_brings_131 x1 x2 x3 x4 x5 A_0_6_powers A_0_7_lefts (fun x6 x7 A_0_8_cells => lp_X12_brings_13 x1 x2 x3 x4 x5 A_0_6_powers A_0_7_lefts (jn_X12_brings_137 x1 x2 x3 x4 x5 A_0_6_powers A_0_7_lefts (fun x6 A_0_8_cells => lp_X12_brings_3 x1 x2 x3 x4 x5 A_0_6_powers A_0_7_lefts K k3 x6 A_0_8_cells) K) K k13 x6 x7 A_0_8_cells) (jn_X12_brings_137 x1 x2 x3 x4 x5 A_0_6_powers A_0_7_lefts (fun x6 A_0_8_cells => lp_X12_brings_3 x1 x2 x3 x4 x5 A_0_6_powers A_0_7_lefts K k3 x6 A_0_8_cells) K) K) K k49 x6 x7 x8 x9 A_0_8_cells) (jn_X12_brings_131 x1 x2 x3 x4 x5 A_0_6_powers A_0_7_lefts (fun x6 x7 A_0_8_cells => lp_X12_brings_13 x1 x2 x3 x4 x5 A_0_6_powers A_0_7_lefts (jn_X12_brings_137 x1 x2 x3 x4 x5 A_0_6_powers A_0_7_lefts (fun x6 A_0_8_cells => lp_X12_brings_3 x1 x2 x3 x4 x5 A_0_6_powers A_0_7_lefts K k3 x6 A_0_8_cells) K) K k13 x6 x7 A_0_8_cells) (jn_X12_brings_137 x1 x2 x3 x4 x5 A_0_6_powers A_0_7_lefts (fun x6 A_0_8_cells => lp_X12_brings_3 x1 x2 x3 x4 x5 A_0_6_powers A_0_7_lefts K k3 x6 A_0_8_cells) K) K) K x6 x7 x8 x9 A_0_8_cells → MW D A s.heap [(h0, .inr (11, oX12 r0 I_0_isFound I_0_foundB I_0_changes I_0_taped I_0_size I_0_at I_0_signs I_0_wanted I_0_sign I_0_isKept I_0_keptFound I_0_keptB I_0_keptChanges)), ((r0 6), .inl (cI, 125, .inl A_0_6_powers)), ((r0 7), .inl (cI, 1125, .inl A_0_7_lefts)), ((r0 8), .inl (cI, 225, .inl A_0_8_cells))] H locs → lv_has ls 12 [(0, .ref h0), (1, .int x1), (2, .int x2), (3, .int x3), (4, .int x4), (5, .int x5), (6, .int x6), (7, .int x7), (8, .int x8), (9, .int x9)] → W p l e rm_X12_brings s m args below meth c H locs 0 0 Q (F0 m 125 ls []) := by
                intro x6 x7 x8 x9 A_0_8_cells H locs ls h hM hl
                unfold jn_X12_brings_125 at h
                refine lv_iinc (v := (x9 + (1 : Int32))) (lv' := [(9, .int (x9 + (1 : Int32))), (0, .ref h0), (1, .int x1), (2, .int x2), (3, .int x3), (4, .int x4), (5, .int x5), (6, .int x6), (7, .int x7), (8, .int x8)]) hx hb dX12_brings_125 hl (k := 9) rfl rfl (by decide) rfl (fun ls hl => ?_)
                refine lv_goto (tgt := 49) hx hb dX12_brings_128 (by decide) ?_
                exact ih49 _ _ _ _ _ _ _ _ h hM (lv_sub hl [1, 2, 3, 4, 5, 6, 7, 8, 9, 0] rfl)
              intro x6 x7 x8 x9 A_0_8_cells H locs ls h hM hl
              unfold lp_X12_brings_49 at h
              refine lv_iload hx hb dX12_brings_49 (lv_at hl 9 rfl) ?_
              refine lv_bipush (v := (17 : Int32)) hx hb dX12_brings_51 (by decide) ?_
              refine lv_icmp_ge (tgt := 131) hx hb dX12_brings_53 (by decide) (fun hq => ?_) (fun hq => ?_)
              · have h := h.1 hq
                exact jq131 _ _ _ _ _ _ h hM (lv_sub hl [0, 1, 2, 3, 4, 5, 6, 7] rfl)
              · have h := h.2 hq
                refine lv_iload hx hb dX12_brings_56 (lv_at hl 8 rfl) ?_
                refine lv_if_le (tgt := 131) hx hb dX12_brings_58 (by decide) (fun hq => ?_) (fun hq => ?_)
                · have h := h.1 hq
                  exact jq131 _ _ _ _ _ _ h hM (lv_sub hl [0, 1, 2, 3, 4, 5, 6, 7] rfl)
                · have h := h.2 hq
                  refine lv_aload_n hx hb dX12_brings_61 rfl (lv_at hl 0 rfl) ?_
                  refine m_get (C := RX12) (T := TX12) (N := 45) (ci := 11) (ref := "LoweredPowersModel") (v := .ref (r0 6)) C0 hM 0 rfl rfl kt_X12_brings_X12 6 (by decide) kw_X12_brings_2 rfl rfl dX12_brings_62 ?_
                  refine lv_bipush (v := (25 : Int32)) hx hb dX12_brings_65 (by decide) ?_
                  refine lv_iload hx hb dX12_brings_67 (lv_at hl 5 rfl) ?_
                  refine lv_iload_n hx hb dX12_brings_69 rfl (lv_at hl 2 rfl) ?_
                  refine lv_isub hx hb dX12_brings_70 ?_
                  refine lv_imul hx hb dX12_brings_71 ?_
                  refine lv_iload hx hb dX12_brings_72 (lv_at hl 9 rfl) ?_
                  refine lv_iadd hx hb dX12_brings_74 ?_
                  obtain ⟨hc1, h⟩ := h
                  refine m_iald C0 hM 1 rfl hc1 dX12_brings_75 ?_
                  refine lv_topi (fun y2 ey2 => ?_)
                  have h := h y2 ey2
                  refine lv_istore (lv' := [(10, .int y2), (0, .ref h0), (1, .int x1), (2, .int x2), (3, .int x3), (4, .int x4), (5, .int x5), (6, .int x6), (7, .int x7), (8, .int x8), (9, .int x9)]) hx hb dX12_brings_76 hl (by decide) rfl (fun ls hl => ?_)
                  refine lv_iload hx hb dX12_brings_78 (lv_at hl 0 rfl) ?_
                  refine lv_if_le (tgt := 125) hx hb dX12_brings_80 (by decide) (fun hq => ?_) (fun hq => ?_)
                  · have h := h.1 hq
                    exact jq125 _ _ _ _ _ _ _ _ h hM (lv_sub hl [1, 2, 3, 4, 5, 6, 7, 8, 9, 10] rfl)
                  · have h := h.2 hq
                    refine lv_bipush (v := (9 : Int32)) hx hb dX12_brings_83 (by decide) ?_
                    refine lv_iload hx hb dX12_brings_85 (lv_at hl 7 rfl) ?_
                    refine lv_iload_n hx hb dX12_brings_87 rfl (lv_at hl 4 rfl) ?_
                    refine lv_iadd hx hb dX12_brings_88 ?_
                    refine lv_iload hx hb dX12_brings_89 (lv_at hl 10 rfl) ?_
                    refine lv_iadd hx hb dX12_brings_91 ?_
                    refine lv_imul hx hb dX12_brings_92 ?_
                    refine lv_iload hx hb dX12_brings_93 (lv_at hl 8 rfl) ?_
                    refine lv_iadd hx hb dX12_brings_95 ?_
                    refine lv_iload hx hb dX12_brings_96 (lv_at hl 5 rfl) ?_
                    refine lv_iadd hx hb dX12_brings_98 ?_
                    refine lv_topi (fun y3 ey3 => ?_)
                    have h := h y3 ey3
                    refine lv_istore (lv' := [(11, .int y3), (10, .int y2), (0, .ref h0), (1, .int x1), (2, .int x2), (3, .int x3), (4, .int x4), (5, .int x5), (6, .int x6), (7, .int x7), (8, .int x8), (9, .int x9)]) hx hb dX12_brings_99 hl (by decide) rfl (fun ls hl => ?_)
                    refine lv_aload_n hx hb dX12_brings_101 rfl (lv_at hl 2 rfl) ?_
                    refine m_get (C := RX12) (T := TX12) (N := 45) (ci := 11) (ref := "LoweredPowersModel") (v := .ref (r0 8)) C0 hM 0 rfl rfl kt_X12_brings_X12 8 (by decide) kw_X12_brings_3 rfl rfl dX12_brings_102 ?_
                    refine lv_iload hx hb dX12_brings_105 (lv_at hl 0 rfl) ?_
                    refine lv_aload_n hx hb dX12_brings_107 rfl (lv_at hl 2 rfl) ?_
                    refine m_get (C := RX12) (T := TX12) (N := 45) (ci := 11) (ref := "LoweredPowersModel") (v := .ref (r0 8)) C0 hM 0 rfl rfl kt_X12_brings_X12 8 (by decide) kw_X12_brings_3 rfl rfl dX12_brings_108 ?_
                    refine lv_iload hx hb dX12_brings_111 (lv_at hl 0 rfl) ?_
                    obtain ⟨hc4, h⟩ := h
                    refine m_iald C0 hM 3 rfl hc4 dX12_brings_113 ?_
                    refine lv_iload hx hb dX12_brings_114 (lv_at hl 10 rfl) ?_
                    refine lv_iload hx hb dX12_brings_116 (lv_at hl 1 rfl) ?_
                    refine lv_imul hx hb dX12_brings_118 ?_
                    refine lv_iadd hx hb dX12_brings_119 ?_
                    refine lv_sipush (v := (10007 : Int32)) hx hb dX12_brings_120 (by decide) ?_
                    refine lv_irem hx hb dX12_brings_123 (by decide) ?_
                    refine lv_topi (fun y5 ey5 => ?_)
                    have h := h y5 ey5
                    refine m_iast (ws' := [(h0, .inr (11, oX12 r0 I_0_isFound I_0_foundB I_0_changes I_0_taped I_0_size I_0_at I_0_signs I_0_wanted I_0_sign I_0_isKept I_0_keptFound I_0_keptB I_0_keptChanges)), ((r0 6), .inl (cI, 125, .inl A_0_6_powers)), ((r0 7), .inl (cI, 1125, .inl A_0_7_lefts)), ((r0 8), .inl (cI, 225, .inl (upd A_0_8_cells (y3).toNatClampNeg y5)))]) C0 hM 3 rfl hc4 rfl dX12_brings_124 (fun H locs hM => ?_)
                    exact jq125 _ _ _ _ _ _ _ _ h hM (lv_sub hl [2, 3, 4, 5, 6, 7, 8, 9, 10, 11] rfl)
          intro x6 x7 A_0_8_cells H locs ls h hM hl
          unfold lp_X12_brings_13 at h
          refine lv_iload hx hb dX12_brings_13 (lv_at hl 7 rfl) ?_
          refine lv_iconst (v := (5 : Int32)) hx hb dX12_brings_15 (by decide) ?_
          refine lv_icmp_ge (tgt := 137) hx hb dX12_brings_16 (by decide) (fun hq => ?_) (fun hq => ?_)
          · have h := h.1 hq
            exact jq137 _ _ _ _ _ h hM (lv_sub hl [0, 1, 2, 3, 4, 5, 6] rfl)
          · have h := h.2 hq
            refine lv_aload_n hx hb dX12_brings_19 rfl (lv_at hl 0 rfl) ?_
            refine m_get (C := RX12) (T := TX12) (N := 45) (ci := 11) (ref := "LoweredPowersModel") (v := .ref (r0 7)) C0 hM 0 rfl rfl kt_X12_brings_X12 7 (by decide) kw_X12_brings_1 rfl rfl dX12_brings_20 ?_
            refine lv_sipush (v := (225 : Int32)) hx hb dX12_brings_23 (by decide) ?_
            refine lv_iload_n hx hb dX12_brings_26 rfl (lv_at hl 2 rfl) ?_
            refine lv_imul hx hb dX12_brings_27 ?_
            refine lv_bipush (v := (9 : Int32)) hx hb dX12_brings_28 (by decide) ?_
            refine lv_iload hx hb dX12_brings_30 (lv_at hl 6 rfl) ?_
            refine lv_imul hx hb dX12_brings_32 ?_
            refine lv_iadd hx hb dX12_brings_33 ?_
            refine lv_iload hx hb dX12_brings_34 (lv_at hl 7 rfl) ?_
            refine lv_iadd hx hb dX12_brings_36 ?_
            obtain ⟨hc6, h⟩ := h
            refine m_iald C0 hM 2 rfl hc6 dX12_brings_37 ?_
            refine lv_iload_n hx hb dX12_brings_38 rfl (lv_at hl 1 rfl) ?_
            refine lv_imul hx hb dX12_brings_39 ?_
            refine lv_sipush (v := (10007 : Int32)) hx hb dX12_brings_40 (by decide) ?_
            refine lv_irem hx hb dX12_brings_43 (by decide) ?_
            refine lv_topi (fun y7 ey7 => ?_)
            have h := h y7 ey7
            refine lv_istore (lv' := [(8, .int y7), (0, .ref h0), (1, .int x1), (2, .int x2), (3, .int x3), (4, .int x4), (5, .int x5), (6, .int x6), (7, .int x7)]) hx hb dX12_brings_44 hl (by decide) rfl (fun ls hl => ?_)
            refine lv_iconst (v := (0 : Int32)) hx hb dX12_brings_46 (by decide) ?_
            refine lv_istore (lv' := [(9, .int (0 : Int32)), (8, .int y7), (0, .ref h0), (1, .int x1), (2, .int x2), (3, .int x3), (4, .int x4), (5, .int x5), (6, .int x6), (7, .int x7)]) hx hb dX12_brings_47 hl (by decide) rfl (fun ls hl => ?_)
            obtain ⟨k0, h⟩ := h
            exact lq49 k0 _ _ _ _ _ _ _ _ h hM (lv_sub hl [2, 3, 4, 5, 6, 7, 8, 9, 1, 0] rfl)
      intro x6 A_0_8_cells H locs ls h hM hl
      unfold lp_X12_brings_3 at h
      refine lv_iload hx hb dX12_brings_3 (lv_at hl 6 rfl) ?_
      refine lv_bipush (v := (13 : Int32)) hx hb dX12_brings_5 (by decide) ?_
      refine lv_icmp_ge (tgt := 143) hx hb dX12_brings_7 (by decide) (fun hq => ?_) (fun hq => ?_)
      · have h := h.1 hq
        subst hsz; subst hA; subst hQ
        exact m_vret C0 hr hM A_0_8_cells h rfl dX12_brings_143
      · have h := h.2 hq
        refine lv_iconst (v := (0 : Int32)) hx hb dX12_brings_10 (by decide) ?_
        refine lv_istore (lv' := [(7, .int (0 : Int32)), (0, .ref h0), (1, .int x1), (2, .int x2), (3, .int x3), (4, .int x4), (5, .int x5), (6, .int x6)]) hx hb dX12_brings_11 hl (by decide) rfl (fun ls hl => ?_)
        obtain ⟨k0, h⟩ := h
        exact lq13 k0 _ _ _ _ _ _ h hM (lv_sub hl [1, 2, 3, 4, 5, 6, 7, 0] rfl)
  unfold wp_X12_brings at h
  refine lv_iconst (v := (0 : Int32)) hx hb dX12_brings_0 (by decide) ?_
  refine lv_istore (lv' := [(6, .int (0 : Int32)), (0, .ref h0), (1, .int x1), (2, .int x2), (3, .int x3), (4, .int x4), (5, .int x5)]) hx hb dX12_brings_1 hl (by decide) rfl (fun ls hl => ?_)
  obtain ⟨k0, h⟩ := h
  exact lq3 k0 _ _ _ _ _ h hM (lv_sub hl [1, 2, 3, 4, 5, 6, 0] rfl)
abbrev rm_X12_clears : Room := { frames := 0, cells := 0, slots := 0, locals := 0 }
set_option maxRecDepth 100000 in
set_option maxHeartbeats 4000000 in
theorem ct_X12_clears (l : Launch) (D : va_G) (cI cJ cZ : ClassId) (h0 : Nat) (r0 : Nat → Nat) (I_0_isFound : Int32) (I_0_foundB : Int32) (I_0_changes : Int32) (I_0_taped : Int32) (I_0_size : Int32) (I_0_at : Int32) (I_0_signs : Int32) (I_0_wanted : Int32) (I_0_sign : Int32) (I_0_isKept : Int32) (I_0_keptFound : Int32) (I_0_keptB : Int32) (I_0_keptChanges : Int32) (A_0_8_cells : (Nat → Int32)) (sz : Nat) (K : (Nat → Int32) → Prop) (h : wp_X12_clears A_0_8_cells K) : Met l yX12_clears wsX12_clears rm_X12_clears (va_Pc [.ref h0] (WX D cI cJ cZ [(h0, .inr (11, oX12 r0 I_0_isFound I_0_foundB I_0_changes I_0_taped I_0_size I_0_at I_0_signs I_0_wanted I_0_sign I_0_isKept I_0_keptFound I_0_keptB I_0_keptChanges)), ((r0 8), .inl (cI, 225, .inl A_0_8_cells))] sz)) (va_Qv (fun (u : (Nat → Int32)) => K u) (fun (u : (Nat → Int32)) t => WY D (va_A [(h0, .inr (11, oX12 r0 I_0_isFound I_0_foundB I_0_changes I_0_taped I_0_size I_0_at I_0_signs I_0_wanted I_0_sign I_0_isKept I_0_keptFound I_0_keptB I_0_keptChanges)), ((r0 8), .inl (cI, 225, .inl A_0_8_cells))] sz) [(h0, .inr (11, oX12 r0 I_0_isFound I_0_foundB I_0_changes I_0_taped I_0_size I_0_at I_0_signs I_0_wanted I_0_sign I_0_isKept I_0_keptFound I_0_keptB I_0_keptChanges)), ((r0 8), .inl (cI, 225, .inl u))] t) (va_A [(h0, .inr (11, oX12 r0 I_0_isFound I_0_foundB I_0_changes I_0_taped I_0_size I_0_at I_0_signs I_0_wanted I_0_sign I_0_isKept I_0_keptFound I_0_keptB I_0_keptChanges)), ((r0 8), .inl (cI, 225, .inl A_0_8_cells))] sz)) 0 0 (va_A [(h0, .inr (11, oX12 r0 I_0_isFound I_0_foundB I_0_changes I_0_taped I_0_size I_0_at I_0_signs I_0_wanted I_0_sign I_0_isKept I_0_keptFound I_0_keptB I_0_keptChanges)), ((r0 8), .inl (cI, 225, .inl A_0_8_cells))] sz) := by
  refine m_met (own := RX12) (cc := cX12_clears) (maxL := 2) (ret := none) [.ref h0] [(0, .ref h0)] (by decide) rfl rfl (Nat.le_of_ble_eq_true rfl) rfl ?_
  intro p e s m args below meth c Q A hQ hA C0 hr hnm hsz hM ls hl
  have hx := C0.1
  have hb := C0.2.1
  have hown := C0.2.2.2.1
  have lq2 : ∀ (k2 : Nat) (x1 : Int32) (A_0_8_cells : (Nat → Int32)) (H : Heap) (locs : List Loc) (ls : Array Slot) , lp_X12_clears_2  K k2 x1 A_0_8_cells → MW D A s.heap [(h0, .inr (11, oX12 r0 I_0_isFound I_0_foundB I_0_changes I_0_taped I_0_size I_0_at I_0_signs I_0_wanted I_0_sign I_0_isKept I_0_keptFound I_0_keptB I_0_keptChanges)), ((r0 8), .inl (cI, 225, .inl A_0_8_cells))] H locs → lv_has ls 2 [(0, .ref h0), (1, .int x1)] → W p l e rm_X12_clears s m args below meth c H locs 0 0 Q (F0 m 2 ls []) := by
    intro k2
    induction k2 with
    | zero =>
      intro x1 A_0_8_cells H locs ls h
      unfold lp_X12_clears_2 at h
      exact h.elim
    | succ k2 ih2 =>
      intro x1 A_0_8_cells H locs ls h hM hl
      unfold lp_X12_clears_2 at h
      refine lv_iload_n hx hb dX12_clears_2 rfl (lv_at hl 1 rfl) ?_
      refine lv_sipush (v := (225 : Int32)) hx hb dX12_clears_3 (by decide) ?_
      refine lv_icmp_ge (tgt := 22) hx hb dX12_clears_6 (by decide) (fun hq => ?_) (fun hq => ?_)
      · have h := h.1 hq
        subst hsz; subst hA; subst hQ
        exact m_vret C0 hr hM A_0_8_cells h rfl dX12_clears_22
      · have h := h.2 hq
        refine lv_aload_n hx hb dX12_clears_9 rfl (lv_at hl 0 rfl) ?_
        refine m_get (C := RX12) (T := TX12) (N := 45) (ci := 11) (ref := "LoweredPowersModel") (v := .ref (r0 8)) C0 hM 0 rfl rfl kt_X12_clears_X12 8 (by decide) kw_X12_clears_1 rfl rfl dX12_clears_10 ?_
        refine lv_iload_n hx hb dX12_clears_13 rfl (lv_at hl 1 rfl) ?_
        refine lv_iconst (v := (0 : Int32)) hx hb dX12_clears_14 (by decide) ?_
        obtain ⟨hc1, h⟩ := h
        refine m_iast (ws' := [(h0, .inr (11, oX12 r0 I_0_isFound I_0_foundB I_0_changes I_0_taped I_0_size I_0_at I_0_signs I_0_wanted I_0_sign I_0_isKept I_0_keptFound I_0_keptB I_0_keptChanges)), ((r0 8), .inl (cI, 225, .inl (upd A_0_8_cells (x1).toNatClampNeg (0 : Int32))))]) C0 hM 1 rfl hc1 rfl dX12_clears_15 (fun H locs hM => ?_)
        refine lv_iinc (v := (x1 + (1 : Int32))) (lv' := [(1, .int (x1 + (1 : Int32))), (0, .ref h0)]) hx hb dX12_clears_16 hl (k := 1) rfl rfl (by decide) rfl (fun ls hl => ?_)
        refine lv_goto (tgt := 2) hx hb dX12_clears_19 (by decide) ?_
        exact ih2 _ _ _ _ _ h hM (lv_sub hl [1, 0] rfl)
  unfold wp_X12_clears at h
  refine lv_iconst (v := (0 : Int32)) hx hb dX12_clears_0 (by decide) ?_
  refine lv_istore_n (lv' := [(1, .int (0 : Int32)), (0, .ref h0)]) hx hb dX12_clears_1 rfl hl (by decide) rfl (fun ls hl => ?_)
  obtain ⟨k0, h⟩ := h
  exact lq2 k0 _ _ _ _ _ h hM (lv_sub hl [1, 0] rfl)
abbrev rm_X12_works : Room := { frames := 4, cells := 0, slots := 0, locals := 92 }
set_option maxRecDepth 100000 in
set_option maxHeartbeats 4000000 in
theorem ct_X12_works (l : Launch) (D : va_G) (cI cJ cZ : ClassId) (h0 : Nat) (r0 : Nat → Nat) (I_0_isFound : Int32) (I_0_foundB : Int32) (I_0_changes : Int32) (I_0_taped : Int32) (I_0_size : Int32) (I_0_at : Int32) (I_0_signs : Int32) (I_0_wanted : Int32) (I_0_sign : Int32) (I_0_isKept : Int32) (I_0_keptFound : Int32) (I_0_keptB : Int32) (I_0_keptChanges : Int32) (A_0_0_f : (Nat → Int32)) (A_0_1_operator : (Nat → Int32)) (A_0_6_powers : (Nat → Int32)) (A_0_7_lefts : (Nat → Int32)) (A_0_8_cells : (Nat → Int32)) (sz : Nat) (K : (Nat → Int32) → (Nat → Int32) → (Nat → Int32) → Prop) (h : wp_X12_works A_0_0_f A_0_1_operator A_0_6_powers A_0_7_lefts A_0_8_cells K) : Met l yX12_works wsX12_works rm_X12_works (va_Pc [.ref h0] (WX D cI cJ cZ [(h0, .inr (11, oX12 r0 I_0_isFound I_0_foundB I_0_changes I_0_taped I_0_size I_0_at I_0_signs I_0_wanted I_0_sign I_0_isKept I_0_keptFound I_0_keptB I_0_keptChanges)), ((r0 0), .inl (cI, 5, .inl A_0_0_f)), ((r0 1), .inl (cI, 75, .inl A_0_1_operator)), ((r0 6), .inl (cI, 125, .inl A_0_6_powers)), ((r0 7), .inl (cI, 1125, .inl A_0_7_lefts)), ((r0 8), .inl (cI, 225, .inl A_0_8_cells))] sz)) (va_Qv (fun (u : (Nat → Int32) × (Nat → Int32) × (Nat → Int32)) => K u.1 u.2.1 u.2.2) (fun (u : (Nat → Int32) × (Nat → Int32) × (Nat → Int32)) t => WY D (va_A [(h0, .inr (11, oX12 r0 I_0_isFound I_0_foundB I_0_changes I_0_taped I_0_size I_0_at I_0_signs I_0_wanted I_0_sign I_0_isKept I_0_keptFound I_0_keptB I_0_keptChanges)), ((r0 0), .inl (cI, 5, .inl A_0_0_f)), ((r0 1), .inl (cI, 75, .inl A_0_1_operator)), ((r0 6), .inl (cI, 125, .inl A_0_6_powers)), ((r0 7), .inl (cI, 1125, .inl A_0_7_lefts)), ((r0 8), .inl (cI, 225, .inl A_0_8_cells))] sz) [(h0, .inr (11, oX12 r0 I_0_isFound I_0_foundB I_0_changes I_0_taped I_0_size I_0_at I_0_signs I_0_wanted I_0_sign I_0_isKept I_0_keptFound I_0_keptB I_0_keptChanges)), ((r0 0), .inl (cI, 5, .inl A_0_0_f)), ((r0 1), .inl (cI, 75, .inl A_0_1_operator)), ((r0 6), .inl (cI, 125, .inl u.1)), ((r0 7), .inl (cI, 1125, .inl u.2.1)), ((r0 8), .inl (cI, 225, .inl u.2.2))] t) (va_A [(h0, .inr (11, oX12 r0 I_0_isFound I_0_foundB I_0_changes I_0_taped I_0_size I_0_at I_0_signs I_0_wanted I_0_sign I_0_isKept I_0_keptFound I_0_keptB I_0_keptChanges)), ((r0 0), .inl (cI, 5, .inl A_0_0_f)), ((r0 1), .inl (cI, 75, .inl A_0_1_operator)), ((r0 6), .inl (cI, 125, .inl A_0_6_powers)), ((r0 7), .inl (cI, 1125, .inl A_0_7_lefts)), ((r0 8), .inl (cI, 225, .inl A_0_8_cells))] sz)) 0 0 (va_A [(h0, .inr (11, oX12 r0 I_0_isFound I_0_foundB I_0_changes I_0_taped I_0_size I_0_at I_0_signs I_0_wanted I_0_sign I_0_isKept I_0_keptFound I_0_keptB I_0_keptChanges)), ((r0 0), .inl (cI, 5, .inl A_0_0_f)), ((r0 1), .inl (cI, 75, .inl A_0_1_operator)), ((r0 6), .inl (cI, 125, .inl A_0_6_powers)), ((r0 7), .inl (cI, 1125, .inl A_0_7_lefts)), ((r0 8), .inl (cI, 225, .inl A_0_8_cells))] sz) := by
  refine m_met (own := RX12) (cc := cX12_works) (maxL := 3) (ret := none) [.ref h0] [(0, .ref h0)] (by decide) rfl rfl (Nat.le_of_ble_eq_true rfl) rfl ?_
  intro p e s m args below meth c Q A hQ hA C0 hr hnm hsz hM ls hl
  have hx := C0.1
  have hb := C0.2.1
  have hown := C0.2.2.2.1
  have lq15 : ∀ (k15 : Nat) (x1 : Int32) (x2 : Int32) (A_0_6_powers : (Nat → Int32)) (A_0_7_lefts : (Nat → Int32)) (A_0_8_cells : (Nat → Int32)) (H : Heap) (locs : List Loc) (ls : Array Slot) , lp_X12_works_15 A_0_0_f A_0_1_operator K k15 x1 x2 A_0_6_powers A_0_7_lefts A_0_8_cells → MW D A s.heap [(h0, .inr (11, oX12 r0 I_0_isFound I_0_foundB I_0_changes I_0_taped I_0_size I_0_at I_0_signs I_0_wanted I_0_sign I_0_isKept I_0_keptFound I_0_keptB I_0_keptChanges)), ((r0 0), .inl (cI, 5, .inl A_0_0_f)), ((r0 1), .inl (cI, 75, .inl A_0_1_operator)), ((r0 6), .inl (cI, 125, .inl A_0_6_powers)), ((r0 7), .inl (cI, 1125, .inl A_0_7_lefts)), ((r0 8), .inl (cI, 225, .inl A_0_8_cells))] H locs → lv_has ls 3 [(0, .ref h0), (1, .int x1), (2, .int x2)] → W p l e rm_X12_works s m args below meth c H locs 0 0 Q (F0 m 15 ls []) := by
    intro k15
    induction k15 with
    | zero =>
      intro x1 x2 A_0_6_powers A_0_7_lefts A_0_8_cells H locs ls h
      unfold lp_X12_works_15 at h
      exact h.elim
    | succ k15 ih15 =>
      have jq53 : ∀ (x1 : Int32) (x2 : Int32) (A_0_6_powers : (Nat → Int32)) (A_0_7_lefts : (Nat → Int32)) (A_0_8_cells : (Nat → Int32)) (H : Heap) (locs : List Loc) (ls : Array Slot) , jn_X12_works_53 A_0_0_f A_0_1_operator (fun x1 x2 A_0_6_powers A_0_7_lefts A_0_8_cells => lp_X12_works_15 A_0_0_f A_0_1_operator K k15 x1 x2 A_0_6_powers A_0_7_lefts A_0_8_cells) K x1 x2 A_0_6_powers A_0_7_lefts A_0_8_cells → MW D A s.heap [(h0, .inr (11, oX12 r0 I_0_isFound I_0_foundB I_0_changes I_0_taped I_0_size I_0_at I_0_signs I_0_wanted I_0_sign I_0_isKept I_0_keptFound I_0_keptB I_0_keptChanges)), ((r0 0), .inl (cI, 5, .inl A_0_0_f)), ((r0 1), .inl (cI, 75, .inl A_0_1_operator)), ((r0 6), .inl (cI, 125, .inl A_0_6_powers)), ((r0 7), .inl (cI, 1125, .inl A_0_7_lefts)), ((r0 8), .inl (cI, 225, .inl A_0_8_cells))] H locs → lv_has ls 3 [(0, .ref h0), (1, .int x1), (2, .int x2)] → W p l e rm_X12_works s m args below meth c H locs 0 0 Q (F0 m 53 ls []) := by
        intro x1 x2 A_0_6_powers A_0_7_lefts A_0_8_cells H locs ls h hM hl
        unfold jn_X12_works_53 at h
        refine lv_iinc (v := (x2 + (1 : Int32))) (lv' := [(2, .int (x2 + (1 : Int32))), (0, .ref h0), (1, .int x1)]) hx hb dX12_works_53 hl (k := 2) rfl rfl (by decide) rfl (fun ls hl => ?_)
        refine lv_goto (tgt := 15) hx hb dX12_works_56 (by decide) ?_
        exact ih15 _ _ _ _ _ _ _ _ h hM (lv_sub hl [1, 2, 0] rfl)
      intro x1 x2 A_0_6_powers A_0_7_lefts A_0_8_cells H locs ls h hM hl
      unfold lp_X12_works_15 at h
      refine lv_iload_n hx hb dX12_works_15 rfl (lv_at hl 2 rfl) ?_
      refine lv_bipush (v := (75 : Int32)) hx hb dX12_works_16 (by decide) ?_
      refine lv_icmp_ge (tgt := 59) hx hb dX12_works_18 (by decide) (fun hq => ?_) (fun hq => ?_)
      · have h := h.1 hq
        subst hsz; subst hA; subst hQ
        exact m_vret C0 hr hM (A_0_6_powers, A_0_7_lefts, A_0_8_cells) h rfl dX12_works_59
      · have h := h.2 hq
        refine lv_aload_n hx hb dX12_works_21 rfl (lv_at hl 0 rfl) ?_
        refine m_get (C := RX12) (T := TX12) (N := 45) (ci := 11) (ref := "LoweredPowersModel") (v := .ref (r0 1)) C0 hM 0 rfl rfl kt_X12_works_X12 1 (by decide) kw_X12_works_1 rfl rfl dX12_works_22 ?_
        refine lv_iload_n hx hb dX12_works_25 rfl (lv_at hl 2 rfl) ?_
        obtain ⟨hc1, h⟩ := h
        refine m_iald C0 hM 2 rfl hc1 dX12_works_26 ?_
        refine lv_if_le (tgt := 53) hx hb dX12_works_27 (by decide) (fun hq => ?_) (fun hq => ?_)
        · have h := h.1 hq
          exact jq53 _ _ _ _ _ _ _ _ h hM (lv_sub hl [0, 1, 2] rfl)
        · have h := h.2 hq
          refine lv_aload_n hx hb dX12_works_30 rfl (lv_at hl 0 rfl) ?_
          refine lv_aload_n hx hb dX12_works_31 rfl (lv_at hl 0 rfl) ?_
          refine m_get (C := RX12) (T := TX12) (N := 45) (ci := 11) (ref := "LoweredPowersModel") (v := .ref (r0 1)) C0 hM 0 rfl rfl kt_X12_works_X12 1 (by decide) kw_X12_works_1 rfl rfl dX12_works_32 ?_
          refine lv_iload_n hx hb dX12_works_35 rfl (lv_at hl 2 rfl) ?_
          refine m_iald C0 hM 2 rfl hc1 dX12_works_36 ?_
          refine lv_iload_n hx hb dX12_works_37 rfl (lv_at hl 2 rfl) ?_
          refine lv_bipush (v := (15 : Int32)) hx hb dX12_works_38 (by decide) ?_
          refine lv_idiv hx hb dX12_works_40 (by decide) ?_
          refine lv_iload_n hx hb dX12_works_41 rfl (lv_at hl 2 rfl) ?_
          refine lv_iconst (v := (3 : Int32)) hx hb dX12_works_42 (by decide) ?_
          refine lv_idiv hx hb dX12_works_43 (by decide) ?_
          refine lv_iconst (v := (5 : Int32)) hx hb dX12_works_44 (by decide) ?_
          refine lv_irem hx hb dX12_works_45 (by decide) ?_
          refine lv_topi (fun y2 ey2 => ?_)
          have h := h y2 ey2
          refine lv_iload_n hx hb dX12_works_46 rfl (lv_at hl 2 rfl) ?_
          refine lv_iconst (v := (3 : Int32)) hx hb dX12_works_47 (by decide) ?_
          refine lv_irem hx hb dX12_works_48 (by decide) ?_
          refine lv_iload_n hx hb dX12_works_49 rfl (lv_at hl 1 rfl) ?_
          refine m_callv (wc := [(h0, .inr (11, oX12 r0 I_0_isFound I_0_foundB I_0_changes I_0_taped I_0_size I_0_at I_0_signs I_0_wanted I_0_sign I_0_isKept I_0_keptFound I_0_keptB I_0_keptChanges)), ((r0 6), .inl (cI, 125, .inl A_0_6_powers)), ((r0 7), .inl (cI, 1125, .inl A_0_7_lefts)), ((r0 8), .inl (cI, 225, .inl A_0_8_cells))]) C0 hM [0, 3, 4, 5] rfl (m_runV (wc := [(h0, .inr (11, oX12 r0 I_0_isFound I_0_foundB I_0_changes I_0_taped I_0_size I_0_at I_0_signs I_0_wanted I_0_sign I_0_isKept I_0_keptFound I_0_keptB I_0_keptChanges)), ((r0 6), .inl (cI, 125, .inl A_0_6_powers)), ((r0 7), .inl (cI, 1125, .inl A_0_7_lefts)), ((r0 8), .inl (cI, 225, .inl A_0_8_cells))]) (As := [.int (A_0_1_operator (x2).toNatClampNeg), .int (x2 / (15 : Int32)), .int y2, .int (x2 - x2 / (3 : Int32) * (3 : Int32)), .int x1]) (rest := []) (ci := 11) C0 hM (ct_X12_brings l D cI cJ cZ h0 r0 I_0_isFound I_0_foundB I_0_changes I_0_taped I_0_size I_0_at I_0_signs I_0_wanted I_0_sign I_0_isKept I_0_keptFound I_0_keptB I_0_keptChanges A_0_6_powers A_0_7_lefts A_0_8_cells (A_0_1_operator (x2).toNatClampNeg) (x2 / (15 : Int32)) y2 (x2 - x2 / (3 : Int32) * (3 : Int32)) x1 _ _ h) [0, 3, 4, 5] rfl (by decide) gX12_works_X12_brings rfl rfl rfl rfl rfl hd_X12_brings ⟨Nat.le_of_ble_eq_true rfl, Nat.le_of_ble_eq_true rfl⟩ rfl hl.1 rfl (Nat.le_of_ble_eq_true rfl) dX12_works_50 ⟨Nat.le_of_ble_eq_true rfl, Nat.le_of_ble_eq_true rfl⟩) (fun u => [(h0, .inr (11, oX12 r0 I_0_isFound I_0_foundB I_0_changes I_0_taped I_0_size I_0_at I_0_signs I_0_wanted I_0_sign I_0_isKept I_0_keptFound I_0_keptB I_0_keptChanges)), ((r0 0), .inl (cI, 5, .inl A_0_0_f)), ((r0 1), .inl (cI, 75, .inl A_0_1_operator)), ((r0 6), .inl (cI, 125, .inl A_0_6_powers)), ((r0 7), .inl (cI, 1125, .inl A_0_7_lefts)), ((r0 8), .inl (cI, 225, .inl u))]) (fun _ => rfl) (fun _ => rfl) (fun b3 H locs h hM => ?_)
          exact jq53 _ _ _ _ _ _ _ _ h hM (lv_sub hl [0, 1, 2] rfl)
  unfold wp_X12_works at h
  refine lv_aload_n hx hb dX12_works_0 rfl (lv_at hl 0 rfl) ?_
  refine m_callv (wc := [(h0, .inr (11, oX12 r0 I_0_isFound I_0_foundB I_0_changes I_0_taped I_0_size I_0_at I_0_signs I_0_wanted I_0_sign I_0_isKept I_0_keptFound I_0_keptB I_0_keptChanges)), ((r0 0), .inl (cI, 5, .inl A_0_0_f)), ((r0 6), .inl (cI, 125, .inl A_0_6_powers)), ((r0 7), .inl (cI, 1125, .inl A_0_7_lefts))]) C0 hM [0, 1, 3, 4] rfl (m_runV (wc := [(h0, .inr (11, oX12 r0 I_0_isFound I_0_foundB I_0_changes I_0_taped I_0_size I_0_at I_0_signs I_0_wanted I_0_sign I_0_isKept I_0_keptFound I_0_keptB I_0_keptChanges)), ((r0 0), .inl (cI, 5, .inl A_0_0_f)), ((r0 6), .inl (cI, 125, .inl A_0_6_powers)), ((r0 7), .inl (cI, 1125, .inl A_0_7_lefts))]) (As := []) (rest := []) (ci := 11) C0 hM (ct_X12_tellsLefts l D cI cJ cZ h0 r0 I_0_isFound I_0_foundB I_0_changes I_0_taped I_0_size I_0_at I_0_signs I_0_wanted I_0_sign I_0_isKept I_0_keptFound I_0_keptB I_0_keptChanges A_0_0_f A_0_6_powers A_0_7_lefts _ _ h) [0, 1, 3, 4] rfl (by decide) gX12_works_X12_tellsLefts rfl rfl rfl rfl rfl hd_X12_tellsLefts ⟨Nat.le_of_ble_eq_true rfl, Nat.le_of_ble_eq_true rfl⟩ rfl hl.1 rfl (Nat.le_of_ble_eq_true rfl) dX12_works_1 ⟨Nat.le_of_ble_eq_true rfl, Nat.le_of_ble_eq_true rfl⟩) (fun u => [(h0, .inr (11, oX12 r0 I_0_isFound I_0_foundB I_0_changes I_0_taped I_0_size I_0_at I_0_signs I_0_wanted I_0_sign I_0_isKept I_0_keptFound I_0_keptB I_0_keptChanges)), ((r0 0), .inl (cI, 5, .inl A_0_0_f)), ((r0 1), .inl (cI, 75, .inl A_0_1_operator)), ((r0 6), .inl (cI, 125, .inl u.1)), ((r0 7), .inl (cI, 1125, .inl u.2)), ((r0 8), .inl (cI, 225, .inl A_0_8_cells))]) (fun _ => rfl) (fun _ => rfl) (fun u H locs h hM => ?_)
  obtain ⟨b4, b5⟩ := u
  dsimp only at h
  have hM : MW D A s.heap [(h0, .inr (11, oX12 r0 I_0_isFound I_0_foundB I_0_changes I_0_taped I_0_size I_0_at I_0_signs I_0_wanted I_0_sign I_0_isKept I_0_keptFound I_0_keptB I_0_keptChanges)), ((r0 0), .inl (cI, 5, .inl A_0_0_f)), ((r0 1), .inl (cI, 75, .inl A_0_1_operator)), ((r0 6), .inl (cI, 125, .inl b4)), ((r0 7), .inl (cI, 1125, .inl b5)), ((r0 8), .inl (cI, 225, .inl A_0_8_cells))] H locs := hM
  refine lv_aload_n hx hb dX12_works_4 rfl (lv_at hl 0 rfl) ?_
  refine m_callv (wc := [(h0, .inr (11, oX12 r0 I_0_isFound I_0_foundB I_0_changes I_0_taped I_0_size I_0_at I_0_signs I_0_wanted I_0_sign I_0_isKept I_0_keptFound I_0_keptB I_0_keptChanges)), ((r0 8), .inl (cI, 225, .inl A_0_8_cells))]) C0 hM [0, 5] rfl (m_runV (wc := [(h0, .inr (11, oX12 r0 I_0_isFound I_0_foundB I_0_changes I_0_taped I_0_size I_0_at I_0_signs I_0_wanted I_0_sign I_0_isKept I_0_keptFound I_0_keptB I_0_keptChanges)), ((r0 8), .inl (cI, 225, .inl A_0_8_cells))]) (As := []) (rest := []) (ci := 11) C0 hM (ct_X12_clears l D cI cJ cZ h0 r0 I_0_isFound I_0_foundB I_0_changes I_0_taped I_0_size I_0_at I_0_signs I_0_wanted I_0_sign I_0_isKept I_0_keptFound I_0_keptB I_0_keptChanges A_0_8_cells _ _ h) [0, 5] rfl (by decide) gX12_works_X12_clears rfl rfl rfl rfl rfl hd_X12_clears ⟨Nat.le_of_ble_eq_true rfl, Nat.le_of_ble_eq_true rfl⟩ rfl hl.1 rfl (Nat.le_of_ble_eq_true rfl) dX12_works_5 ⟨Nat.le_of_ble_eq_true rfl, Nat.le_of_ble_eq_true rfl⟩) (fun u => [(h0, .inr (11, oX12 r0 I_0_isFound I_0_foundB I_0_changes I_0_taped I_0_size I_0_at I_0_signs I_0_wanted I_0_sign I_0_isKept I_0_keptFound I_0_keptB I_0_keptChanges)), ((r0 0), .inl (cI, 5, .inl A_0_0_f)), ((r0 1), .inl (cI, 75, .inl A_0_1_operator)), ((r0 6), .inl (cI, 125, .inl b4)), ((r0 7), .inl (cI, 1125, .inl b5)), ((r0 8), .inl (cI, 225, .inl u))]) (fun _ => rfl) (fun _ => rfl) (fun b6 H locs h hM => ?_)
  refine lv_aload_n hx hb dX12_works_8 rfl (lv_at hl 0 rfl) ?_
  refine m_calli (wc := [(h0, .inr (11, oX12 r0 I_0_isFound I_0_foundB I_0_changes I_0_taped I_0_size I_0_at I_0_signs I_0_wanted I_0_sign I_0_isKept I_0_keptFound I_0_keptB I_0_keptChanges)), ((r0 1), .inl (cI, 75, .inl A_0_1_operator))]) C0 hM [0, 2] rfl (m_runV (wc := [(h0, .inr (11, oX12 r0 I_0_isFound I_0_foundB I_0_changes I_0_taped I_0_size I_0_at I_0_signs I_0_wanted I_0_sign I_0_isKept I_0_keptFound I_0_keptB I_0_keptChanges)), ((r0 1), .inl (cI, 75, .inl A_0_1_operator))]) (As := []) (rest := []) (ci := 11) C0 hM (ct_X12_orderOf l D cI cJ cZ h0 r0 I_0_isFound I_0_foundB I_0_changes I_0_taped I_0_size I_0_at I_0_signs I_0_wanted I_0_sign I_0_isKept I_0_keptFound I_0_keptB I_0_keptChanges A_0_1_operator _ _ h) [0, 2] rfl (by decide) gX12_works_X12_orderOf rfl rfl rfl rfl rfl hd_X12_orderOf ⟨Nat.le_of_ble_eq_true rfl, Nat.le_of_ble_eq_true rfl⟩ rfl hl.1 rfl (Nat.le_of_ble_eq_true rfl) dX12_works_9 ⟨Nat.le_of_ble_eq_true rfl, Nat.le_of_ble_eq_true rfl⟩) (fun _ => [(h0, .inr (11, oX12 r0 I_0_isFound I_0_foundB I_0_changes I_0_taped I_0_size I_0_at I_0_signs I_0_wanted I_0_sign I_0_isKept I_0_keptFound I_0_keptB I_0_keptChanges)), ((r0 0), .inl (cI, 5, .inl A_0_0_f)), ((r0 1), .inl (cI, 75, .inl A_0_1_operator)), ((r0 6), .inl (cI, 125, .inl b4)), ((r0 7), .inl (cI, 1125, .inl b5)), ((r0 8), .inl (cI, 225, .inl b6))]) (fun _ => rfl) (fun _ => rfl) (fun y7 _ H locs h hM => ?_)
  refine lv_istore_n (lv' := [(1, .int y7), (0, .ref h0)]) hx hb dX12_works_12 rfl hl (by decide) rfl (fun ls hl => ?_)
  refine lv_iconst (v := (0 : Int32)) hx hb dX12_works_13 (by decide) ?_
  refine lv_istore_n (lv' := [(2, .int (0 : Int32)), (1, .int y7), (0, .ref h0)]) hx hb dX12_works_14 rfl hl (by decide) rfl (fun ls hl => ?_)
  obtain ⟨k0, h⟩ := h
  exact lq15 k0 _ _ _ _ _ _ _ _ h hM (lv_sub hl [2, 1, 0] rfl)
abbrev rm_X12_work : Room := { frames := 5, cells := 0, slots := 0, locals := 114 }
set_option maxRecDepth 100000 in
set_option maxHeartbeats 4000000 in
theorem ct_X12_work (l : Launch) (D : va_G) (cI cJ cZ : ClassId) (h0 : Nat) (r0 : Nat → Nat) (I_0_isFound : Int32) (I_0_foundB : Int32) (I_0_changes : Int32) (I_0_taped : Int32) (I_0_size : Int32) (I_0_at : Int32) (I_0_signs : Int32) (I_0_wanted : Int32) (I_0_sign : Int32) (I_0_isKept : Int32) (I_0_keptFound : Int32) (I_0_keptB : Int32) (I_0_keptChanges : Int32) (A_0_0_f : (Nat → Int32)) (A_0_1_operator : (Nat → Int32)) (A_0_6_powers : (Nat → Int32)) (A_0_7_lefts : (Nat → Int32)) (A_0_8_cells : (Nat → Int32)) (x1 : Int32) (x2 : Int32) (sz : Nat) (K : Int32 → (Nat → Int32) → (Nat → Int32) → (Nat → Int32) → Prop) (h : wp_X12_work x1 x2 A_0_0_f A_0_1_operator A_0_6_powers A_0_7_lefts A_0_8_cells K) : Met l yX12_work wsX12_work rm_X12_work (va_Pc [.ref h0, .int x1, .int x2] (WX D cI cJ cZ [(h0, .inr (11, oX12 r0 I_0_isFound I_0_foundB I_0_changes I_0_taped I_0_size I_0_at I_0_signs I_0_wanted I_0_sign I_0_isKept I_0_keptFound I_0_keptB I_0_keptChanges)), ((r0 0), .inl (cI, 5, .inl A_0_0_f)), ((r0 1), .inl (cI, 75, .inl A_0_1_operator)), ((r0 6), .inl (cI, 125, .inl A_0_6_powers)), ((r0 7), .inl (cI, 1125, .inl A_0_7_lefts)), ((r0 8), .inl (cI, 225, .inl A_0_8_cells))] sz)) (va_Qi (fun (r : Int32) (u : (Nat → Int32) × (Nat → Int32) × (Nat → Int32)) => K r u.1 u.2.1 u.2.2) (fun (u : (Nat → Int32) × (Nat → Int32) × (Nat → Int32)) t => WY D (va_A [(h0, .inr (11, oX12 r0 I_0_isFound I_0_foundB I_0_changes I_0_taped I_0_size I_0_at I_0_signs I_0_wanted I_0_sign I_0_isKept I_0_keptFound I_0_keptB I_0_keptChanges)), ((r0 0), .inl (cI, 5, .inl A_0_0_f)), ((r0 1), .inl (cI, 75, .inl A_0_1_operator)), ((r0 6), .inl (cI, 125, .inl A_0_6_powers)), ((r0 7), .inl (cI, 1125, .inl A_0_7_lefts)), ((r0 8), .inl (cI, 225, .inl A_0_8_cells))] sz) [(h0, .inr (11, oX12 r0 I_0_isFound I_0_foundB I_0_changes I_0_taped I_0_size I_0_at I_0_signs I_0_wanted I_0_sign I_0_isKept I_0_keptFound I_0_keptB I_0_keptChanges)), ((r0 0), .inl (cI, 5, .inl A_0_0_f)), ((r0 1), .inl (cI, 75, .inl A_0_1_operator)), ((r0 6), .inl (cI, 125, .inl u.1)), ((r0 7), .inl (cI, 1125, .inl u.2.1)), ((r0 8), .inl (cI, 225, .inl u.2.2))] t) (va_A [(h0, .inr (11, oX12 r0 I_0_isFound I_0_foundB I_0_changes I_0_taped I_0_size I_0_at I_0_signs I_0_wanted I_0_sign I_0_isKept I_0_keptFound I_0_keptB I_0_keptChanges)), ((r0 0), .inl (cI, 5, .inl A_0_0_f)), ((r0 1), .inl (cI, 75, .inl A_0_1_operator)), ((r0 6), .inl (cI, 125, .inl A_0_6_powers)), ((r0 7), .inl (cI, 1125, .inl A_0_7_lefts)), ((r0 8), .inl (cI, 225, .inl A_0_8_cells))] sz)) 0 0 (va_A [(h0, .inr (11, oX12 r0 I_0_isFound I_0_foundB I_0_changes I_0_taped I_0_size I_0_at I_0_signs I_0_wanted I_0_sign I_0_isKept I_0_keptFound I_0_keptB I_0_keptChanges)), ((r0 0), .inl (cI, 5, .inl A_0_0_f)), ((r0 1), .inl (cI, 75, .inl A_0_1_operator)), ((r0 6), .inl (cI, 125, .inl A_0_6_powers)), ((r0 7), .inl (cI, 1125, .inl A_0_7_lefts)), ((r0 8), .inl (cI, 225, .inl A_0_8_cells))] sz) := by
  refine m_met (own := RX12) (cc := cX12_work) (maxL := 3) (ret := some .int) [.ref h0, .int x1, .int x2] [(0, .ref h0), (1, .int x1), (2, .int x2)] (by decide) rfl rfl (Nat.le_of_ble_eq_true rfl) rfl ?_
  intro p e s m args below meth c Q A hQ hA C0 hr hnm hsz hM ls hl
  have hx := C0.1
  have hb := C0.2.1
  have hown := C0.2.2.2.1
  unfold wp_X12_work at h
  refine lv_iload_n hx hb dX12_work_0 rfl (lv_at hl 1 rfl) ?_
  refine lv_iconst (v := (0 : Int32)) hx hb dX12_work_1 (by decide) ?_
  refine lv_bipush (v := (24 : Int32)) hx hb dX12_work_2 (by decide) ?_
  refine m_calli (wc := []) C0 hM [] rfl (m_runS (wc := []) (As := [.int x1, .int (0 : Int32), .int (24 : Int32)]) (rest := []) C0 hM (ct_X12_isIn l D cI cJ cZ x1 (0 : Int32) (24 : Int32) _ _ h) [] rfl (by decide) gX12_work_X12_isIn rfl rfl rfl hd_X12_isIn ⟨Nat.le_of_ble_eq_true rfl, Nat.le_of_ble_eq_true rfl⟩ rfl hl.1 rfl (Nat.le_of_ble_eq_true rfl) dX12_work_4 ⟨Nat.le_of_ble_eq_true rfl, Nat.le_of_ble_eq_true rfl⟩) (fun _ => [(h0, .inr (11, oX12 r0 I_0_isFound I_0_foundB I_0_changes I_0_taped I_0_size I_0_at I_0_signs I_0_wanted I_0_sign I_0_isKept I_0_keptFound I_0_keptB I_0_keptChanges)), ((r0 0), .inl (cI, 5, .inl A_0_0_f)), ((r0 1), .inl (cI, 75, .inl A_0_1_operator)), ((r0 6), .inl (cI, 125, .inl A_0_6_powers)), ((r0 7), .inl (cI, 1125, .inl A_0_7_lefts)), ((r0 8), .inl (cI, 225, .inl A_0_8_cells))]) (fun _ => rfl) (fun _ => rfl) (fun y1 _ H locs h hM => ?_)
  refine lv_if_eq (tgt := 20) hx hb dX12_work_7 (by decide) (fun hq => ?_) (fun hq => ?_)
  · have h := h.1 hq
    refine lv_iconst (v := (-1 : Int32)) hx hb dX12_work_20 (by decide) ?_
    subst hsz; subst hA; subst hQ
    exact m_iret C0 hr hM (A_0_6_powers, A_0_7_lefts, A_0_8_cells) h rfl dX12_work_21
  · have h := h.2 hq
    refine lv_iload_n hx hb dX12_work_10 rfl (lv_at hl 2 rfl) ?_
    refine lv_iconst (v := (0 : Int32)) hx hb dX12_work_11 (by decide) ?_
    refine lv_bipush (v := (8 : Int32)) hx hb dX12_work_12 (by decide) ?_
    refine m_calli (wc := []) C0 hM [] rfl (m_runS (wc := []) (As := [.int x2, .int (0 : Int32), .int (8 : Int32)]) (rest := []) C0 hM (ct_X12_isIn l D cI cJ cZ x2 (0 : Int32) (8 : Int32) _ _ h) [] rfl (by decide) gX12_work_X12_isIn rfl rfl rfl hd_X12_isIn ⟨Nat.le_of_ble_eq_true rfl, Nat.le_of_ble_eq_true rfl⟩ rfl hl.1 rfl (Nat.le_of_ble_eq_true rfl) dX12_work_14 ⟨Nat.le_of_ble_eq_true rfl, Nat.le_of_ble_eq_true rfl⟩) (fun _ => [(h0, .inr (11, oX12 r0 I_0_isFound I_0_foundB I_0_changes I_0_taped I_0_size I_0_at I_0_signs I_0_wanted I_0_sign I_0_isKept I_0_keptFound I_0_keptB I_0_keptChanges)), ((r0 0), .inl (cI, 5, .inl A_0_0_f)), ((r0 1), .inl (cI, 75, .inl A_0_1_operator)), ((r0 6), .inl (cI, 125, .inl A_0_6_powers)), ((r0 7), .inl (cI, 1125, .inl A_0_7_lefts)), ((r0 8), .inl (cI, 225, .inl A_0_8_cells))]) (fun _ => rfl) (fun _ => rfl) (fun y2 _ H locs h hM => ?_)
    refine lv_if_ne (tgt := 22) hx hb dX12_work_17 (by decide) (fun hq => ?_) (fun hq => ?_)
    · have h := h.1 hq
      refine lv_aload_n hx hb dX12_work_22 rfl (lv_at hl 0 rfl) ?_
      refine m_callv (wc := [(h0, .inr (11, oX12 r0 I_0_isFound I_0_foundB I_0_changes I_0_taped I_0_size I_0_at I_0_signs I_0_wanted I_0_sign I_0_isKept I_0_keptFound I_0_keptB I_0_keptChanges)), ((r0 0), .inl (cI, 5, .inl A_0_0_f)), ((r0 1), .inl (cI, 75, .inl A_0_1_operator)), ((r0 6), .inl (cI, 125, .inl A_0_6_powers)), ((r0 7), .inl (cI, 1125, .inl A_0_7_lefts)), ((r0 8), .inl (cI, 225, .inl A_0_8_cells))]) C0 hM [0, 1, 2, 3, 4, 5] rfl (m_runV (wc := [(h0, .inr (11, oX12 r0 I_0_isFound I_0_foundB I_0_changes I_0_taped I_0_size I_0_at I_0_signs I_0_wanted I_0_sign I_0_isKept I_0_keptFound I_0_keptB I_0_keptChanges)), ((r0 0), .inl (cI, 5, .inl A_0_0_f)), ((r0 1), .inl (cI, 75, .inl A_0_1_operator)), ((r0 6), .inl (cI, 125, .inl A_0_6_powers)), ((r0 7), .inl (cI, 1125, .inl A_0_7_lefts)), ((r0 8), .inl (cI, 225, .inl A_0_8_cells))]) (As := []) (rest := []) (ci := 11) C0 hM (ct_X12_works l D cI cJ cZ h0 r0 I_0_isFound I_0_foundB I_0_changes I_0_taped I_0_size I_0_at I_0_signs I_0_wanted I_0_sign I_0_isKept I_0_keptFound I_0_keptB I_0_keptChanges A_0_0_f A_0_1_operator A_0_6_powers A_0_7_lefts A_0_8_cells _ _ h) [0, 1, 2, 3, 4, 5] rfl (by decide) gX12_work_X12_works rfl rfl rfl rfl rfl hd_X12_works ⟨Nat.le_of_ble_eq_true rfl, Nat.le_of_ble_eq_true rfl⟩ rfl hl.1 rfl (Nat.le_of_ble_eq_true rfl) dX12_work_23 ⟨Nat.le_of_ble_eq_true rfl, Nat.le_of_ble_eq_true rfl⟩) (fun u => [(h0, .inr (11, oX12 r0 I_0_isFound I_0_foundB I_0_changes I_0_taped I_0_size I_0_at I_0_signs I_0_wanted I_0_sign I_0_isKept I_0_keptFound I_0_keptB I_0_keptChanges)), ((r0 0), .inl (cI, 5, .inl A_0_0_f)), ((r0 1), .inl (cI, 75, .inl A_0_1_operator)), ((r0 6), .inl (cI, 125, .inl u.1)), ((r0 7), .inl (cI, 1125, .inl u.2.1)), ((r0 8), .inl (cI, 225, .inl u.2.2))]) (fun _ => rfl) (fun _ => rfl) (fun u H locs h hM => ?_)
      obtain ⟨b3, b4, b5⟩ := u
      dsimp only at h
      have hM : MW D A s.heap [(h0, .inr (11, oX12 r0 I_0_isFound I_0_foundB I_0_changes I_0_taped I_0_size I_0_at I_0_signs I_0_wanted I_0_sign I_0_isKept I_0_keptFound I_0_keptB I_0_keptChanges)), ((r0 0), .inl (cI, 5, .inl A_0_0_f)), ((r0 1), .inl (cI, 75, .inl A_0_1_operator)), ((r0 6), .inl (cI, 125, .inl b3)), ((r0 7), .inl (cI, 1125, .inl b4)), ((r0 8), .inl (cI, 225, .inl b5))] H locs := hM
      refine lv_aload_n hx hb dX12_work_26 rfl (lv_at hl 0 rfl) ?_
      refine m_get (C := RX12) (T := TX12) (N := 45) (ci := 11) (ref := "LoweredPowersModel") (v := .ref (r0 8)) C0 hM 0 rfl rfl kt_X12_work_X12 8 (by decide) kw_X12_work_1 rfl rfl dX12_work_27 ?_
      refine lv_bipush (v := (9 : Int32)) hx hb dX12_work_30 (by decide) ?_
      refine lv_iload_n hx hb dX12_work_32 rfl (lv_at hl 1 rfl) ?_
      refine lv_imul hx hb dX12_work_33 ?_
      refine lv_iload_n hx hb dX12_work_34 rfl (lv_at hl 2 rfl) ?_
      refine lv_iadd hx hb dX12_work_35 ?_
      obtain ⟨hc6, h⟩ := h
      refine m_iald C0 hM 5 rfl hc6 dX12_work_36 ?_
      refine m_calli (wc := []) C0 hM [] rfl (m_runS (wc := []) (As := [.int (b5 ((((9 : Int32) * x1) + x2)).toNatClampNeg)]) (rest := []) C0 hM (ct_X12_told l D cI cJ cZ (b5 ((((9 : Int32) * x1) + x2)).toNatClampNeg) _ _ h) [] rfl (by decide) gX12_work_X12_told rfl rfl rfl hd_X12_told ⟨Nat.le_of_ble_eq_true rfl, Nat.le_of_ble_eq_true rfl⟩ rfl hl.1 rfl (Nat.le_of_ble_eq_true rfl) dX12_work_37 ⟨Nat.le_of_ble_eq_true rfl, Nat.le_of_ble_eq_true rfl⟩) (fun _ => [(h0, .inr (11, oX12 r0 I_0_isFound I_0_foundB I_0_changes I_0_taped I_0_size I_0_at I_0_signs I_0_wanted I_0_sign I_0_isKept I_0_keptFound I_0_keptB I_0_keptChanges)), ((r0 0), .inl (cI, 5, .inl A_0_0_f)), ((r0 1), .inl (cI, 75, .inl A_0_1_operator)), ((r0 6), .inl (cI, 125, .inl b3)), ((r0 7), .inl (cI, 1125, .inl b4)), ((r0 8), .inl (cI, 225, .inl b5))]) (fun _ => rfl) (fun _ => rfl) (fun y7 _ H locs h hM => ?_)
      subst hsz; subst hA; subst hQ
      exact m_iret C0 hr hM (b3, b4, b5) h rfl dX12_work_40
    · have h := h.2 hq
      refine lv_iconst (v := (-1 : Int32)) hx hb dX12_work_20 (by decide) ?_
      subst hsz; subst hA; subst hQ
      exact m_iret C0 hr hM (A_0_6_powers, A_0_7_lefts, A_0_8_cells) h rfl dX12_work_21
abbrev rm_X12_isRight : Room := { frames := 5, cells := 0, slots := 0, locals := 114 }
set_option maxRecDepth 100000 in
set_option maxHeartbeats 4000000 in
theorem ct_X12_isRight (l : Launch) (D : va_G) (cI cJ cZ : ClassId) (h0 : Nat) (r0 : Nat → Nat) (I_0_isFound : Int32) (I_0_foundB : Int32) (I_0_changes : Int32) (I_0_taped : Int32) (I_0_size : Int32) (I_0_at : Int32) (I_0_signs : Int32) (I_0_wanted : Int32) (I_0_sign : Int32) (I_0_isKept : Int32) (I_0_keptFound : Int32) (I_0_keptB : Int32) (I_0_keptChanges : Int32) (A_0_0_f : (Nat → Int32)) (A_0_1_operator : (Nat → Int32)) (A_0_6_powers : (Nat → Int32)) (A_0_7_lefts : (Nat → Int32)) (A_0_8_cells : (Nat → Int32)) (A_0_9_right : (Nat → Int32)) (sz : Nat) (K : Int32 → (Nat → Int32) → (Nat → Int32) → (Nat → Int32) → (Nat → Int32) → Prop) (h : wp_X12_isRight A_0_0_f A_0_1_operator A_0_6_powers A_0_7_lefts A_0_8_cells A_0_9_right K) : Met l yX12_isRight wsX12_isRight rm_X12_isRight (va_Pc [.ref h0] (WX D cI cJ cZ [(h0, .inr (11, oX12 r0 I_0_isFound I_0_foundB I_0_changes I_0_taped I_0_size I_0_at I_0_signs I_0_wanted I_0_sign I_0_isKept I_0_keptFound I_0_keptB I_0_keptChanges)), ((r0 0), .inl (cI, 5, .inl A_0_0_f)), ((r0 1), .inl (cI, 75, .inl A_0_1_operator)), ((r0 6), .inl (cI, 125, .inl A_0_6_powers)), ((r0 7), .inl (cI, 1125, .inl A_0_7_lefts)), ((r0 8), .inl (cI, 225, .inl A_0_8_cells)), ((r0 9), .inl (cI, 9, .inl A_0_9_right))] sz)) (va_Qi (fun (r : Int32) (u : (Nat → Int32) × (Nat → Int32) × (Nat → Int32) × (Nat → Int32)) => K r u.1 u.2.1 u.2.2.1 u.2.2.2) (fun (u : (Nat → Int32) × (Nat → Int32) × (Nat → Int32) × (Nat → Int32)) t => WY D (va_A [(h0, .inr (11, oX12 r0 I_0_isFound I_0_foundB I_0_changes I_0_taped I_0_size I_0_at I_0_signs I_0_wanted I_0_sign I_0_isKept I_0_keptFound I_0_keptB I_0_keptChanges)), ((r0 0), .inl (cI, 5, .inl A_0_0_f)), ((r0 1), .inl (cI, 75, .inl A_0_1_operator)), ((r0 6), .inl (cI, 125, .inl A_0_6_powers)), ((r0 7), .inl (cI, 1125, .inl A_0_7_lefts)), ((r0 8), .inl (cI, 225, .inl A_0_8_cells)), ((r0 9), .inl (cI, 9, .inl A_0_9_right))] sz) [(h0, .inr (11, oX12 r0 I_0_isFound I_0_foundB I_0_changes I_0_taped I_0_size I_0_at I_0_signs I_0_wanted I_0_sign I_0_isKept I_0_keptFound I_0_keptB I_0_keptChanges)), ((r0 0), .inl (cI, 5, .inl A_0_0_f)), ((r0 1), .inl (cI, 75, .inl A_0_1_operator)), ((r0 6), .inl (cI, 125, .inl u.1)), ((r0 7), .inl (cI, 1125, .inl u.2.1)), ((r0 8), .inl (cI, 225, .inl u.2.2.1)), ((r0 9), .inl (cI, 9, .inl u.2.2.2))] t) (va_A [(h0, .inr (11, oX12 r0 I_0_isFound I_0_foundB I_0_changes I_0_taped I_0_size I_0_at I_0_signs I_0_wanted I_0_sign I_0_isKept I_0_keptFound I_0_keptB I_0_keptChanges)), ((r0 0), .inl (cI, 5, .inl A_0_0_f)), ((r0 1), .inl (cI, 75, .inl A_0_1_operator)), ((r0 6), .inl (cI, 125, .inl A_0_6_powers)), ((r0 7), .inl (cI, 1125, .inl A_0_7_lefts)), ((r0 8), .inl (cI, 225, .inl A_0_8_cells)), ((r0 9), .inl (cI, 9, .inl A_0_9_right))] sz)) 0 0 (va_A [(h0, .inr (11, oX12 r0 I_0_isFound I_0_foundB I_0_changes I_0_taped I_0_size I_0_at I_0_signs I_0_wanted I_0_sign I_0_isKept I_0_keptFound I_0_keptB I_0_keptChanges)), ((r0 0), .inl (cI, 5, .inl A_0_0_f)), ((r0 1), .inl (cI, 75, .inl A_0_1_operator)), ((r0 6), .inl (cI, 125, .inl A_0_6_powers)), ((r0 7), .inl (cI, 1125, .inl A_0_7_lefts)), ((r0 8), .inl (cI, 225, .inl A_0_8_cells)), ((r0 9), .inl (cI, 9, .inl A_0_9_right))] sz) := by
  refine m_met (own := RX12) (cc := cX12_isRight) (maxL := 8) (ret := some .boolean) [.ref h0] [(0, .ref h0)] (by decide) rfl rfl (Nat.le_of_ble_eq_true rfl) rfl ?_
  intro p e s m args below meth c Q A hQ hA C0 hr hnm hsz hM ls hl
  have hx := C0.1
  have hb := C0.2.1
  have hown := C0.2.2.2.1
  have lq50 : ∀ (k50 : Nat) (x1 : Int32) (x2 : Int32) (x3 : Int32) (x4 : Int32) (x5 : Int32) (x6 : Int32) (A_0_6_powers : (Nat → Int32)) (A_0_7_lefts : (Nat → Int32)) (A_0_8_cells : (Nat → Int32)) (A_0_9_right : (Nat → Int32)) (H : Heap) (locs : List Loc) (ls : Array Slot) , lp_X12_isRight_50 A_0_0_f A_0_1_operator K k50 x1 x2 x3 x4 x5 x6 A_0_6_powers A_0_7_lefts A_0_8_cells A_0_9_right → MW D A s.heap [(h0, .inr (11, oX12 r0 I_0_isFound I_0_foundB I_0_changes I_0_taped I_0_size I_0_at I_0_signs I_0_wanted I_0_sign I_0_isKept I_0_keptFound I_0_keptB I_0_keptChanges)), ((r0 0), .inl (cI, 5, .inl A_0_0_f)), ((r0 1), .inl (cI, 75, .inl A_0_1_operator)), ((r0 6), .inl (cI, 125, .inl A_0_6_powers)), ((r0 7), .inl (cI, 1125, .inl A_0_7_lefts)), ((r0 8), .inl (cI, 225, .inl A_0_8_cells)), ((r0 9), .inl (cI, 9, .inl A_0_9_right))] H locs → lv_has ls 8 [(0, .ref h0), (1, .int x1), (2, .int x2), (3, .int x3), (4, .int x4), (5, .int x5), (6, .int x6)] → W p l e rm_X12_isRight s m args below meth c H locs 0 0 Q (F0 m 50 ls []) := by
    intro k50
    induction k50 with
    | zero =>
      intro x1 x2 x3 x4 x5 x6 A_0_6_powers A_0_7_lefts A_0_8_cells A_0_9_right H locs ls h
      unfold lp_X12_isRight_50 at h
      exact h.elim
    | succ k50 ih50 =>
      have jq159 : ∀ (x1 : Int32) (x2 : Int32) (x3 : Int32) (x4 : Int32) (x5 : Int32) (x6 : Int32) (A_0_6_powers : (Nat → Int32)) (A_0_7_lefts : (Nat → Int32)) (A_0_8_cells : (Nat → Int32)) (A_0_9_right : (Nat → Int32)) (H : Heap) (locs : List Loc) (ls : Array Slot) , jn_X12_isRight_159 A_0_0_f A_0_1_operator (fun x1 x2 x3 x4 x5 x6 A_0_6_powers A_0_7_lefts A_0_8_cells A_0_9_right => lp_X12_isRight_50 A_0_0_f A_0_1_operator K k50 x1 x2 x3 x4 x5 x6 A_0_6_powers A_0_7_lefts A_0_8_cells A_0_9_right) K x1 x2 x3 x4 x5 x6 A_0_6_powers A_0_7_lefts A_0_8_cells A_0_9_right → MW D A s.heap [(h0, .inr (11, oX12 r0 I_0_isFound I_0_foundB I_0_changes I_0_taped I_0_size I_0_at I_0_signs I_0_wanted I_0_sign I_0_isKept I_0_keptFound I_0_keptB I_0_keptChanges)), ((r0 0), .inl (cI, 5, .inl A_0_0_f)), ((r0 1), .inl (cI, 75, .inl A_0_1_operator)), ((r0 6), .inl (cI, 125, .inl A_0_6_powers)), ((r0 7), .inl (cI, 1125, .inl A_0_7_lefts)), ((r0 8), .inl (cI, 225, .inl A_0_8_cells)), ((r0 9), .inl (cI, 9, .inl A_0_9_right))] H locs → lv_has ls 8 [(0, .ref h0), (1, .int x1), (2, .int x2), (3, .int x3), (4, .int x4), (5, .int x5), (6, .int x6)] → W p l e rm_X12_isRight s m args below meth c H locs 0 0 Q (F0 m 159 ls []) := by
        intro x1 x2 x3 x4 x5 x6 A_0_6_powers A_0_7_lefts A_0_8_cells A_0_9_right H locs ls h hM hl
        unfold jn_X12_isRight_159 at h
        refine lv_iinc (v := (x6 + (1 : Int32))) (lv' := [(6, .int (x6 + (1 : Int32))), (0, .ref h0), (1, .int x1), (2, .int x2), (3, .int x3), (4, .int x4), (5, .int x5)]) hx hb dX12_isRight_159 hl (k := 6) rfl rfl (by decide) rfl (fun ls hl => ?_)
        refine lv_goto (tgt := 50) hx hb dX12_isRight_162 (by decide) ?_
        exact ih50 _ _ _ _ _ _ _ _ _ _ _ _ _ h hM (lv_sub hl [1, 2, 3, 4, 5, 6, 0] rfl)
      have lq94 : ∀ (k94 : Nat) (x1 : Int32) (x2 : Int32) (x3 : Int32) (x4 : Int32) (x5 : Int32) (x6 : Int32) (x7 : Int32) (A_0_6_powers : (Nat → Int32)) (A_0_7_lefts : (Nat → Int32)) (A_0_8_cells : (Nat → Int32)) (A_0_9_right : (Nat → Int32)) (H : Heap) (locs : List Loc) (ls : Array Slot) , lp_X12_isRight_94 A_0_0_f A_0_1_operator (jn_X12_isRight_159 A_0_0_f A_0_1_operator (fun x1 x2 x3 x4 x5 x6 A_0_6_powers A_0_7_lefts A_0_8_cells A_0_9_right => lp_X12_isRight_50 A_0_0_f A_0_1_operator K k50 x1 x2 x3 x4 x5 x6 A_0_6_powers A_0_7_lefts A_0_8_cells A_0_9_right) K) K k94 x1 x2 x3 x4 x5 x6 x7 A_0_6_powers A_0_7_lefts A_0_8_cells A_0_9_right → MW D A s.heap [(h0, .inr (11, oX12 r0 I_0_isFound I_0_foundB I_0_changes I_0_taped I_0_size I_0_at I_0_signs I_0_wanted I_0_sign I_0_isKept I_0_keptFound I_0_keptB I_0_keptChanges)), ((r0 0), .inl (cI, 5, .inl A_0_0_f)), ((r0 1), .inl (cI, 75, .inl A_0_1_operator)), ((r0 6), .inl (cI, 125, .inl A_0_6_powers)), ((r0 7), .inl (cI, 1125, .inl A_0_7_lefts)), ((r0 8), .inl (cI, 225, .inl A_0_8_cells)), ((r0 9), .inl (cI, 9, .inl A_0_9_right))] H locs → lv_has ls 8 [(0, .ref h0), (1, .int x1), (2, .int x2), (3, .int x3), (4, .int x4), (5, .int x5), (6, .int x6), (7, .int x7)] → W p l e rm_X12_isRight s m args below meth c H locs 0 0 Q (F0 m 94 ls []) := by
        intro k94
        induction k94 with
        | zero =>
          intro x1 x2 x3 x4 x5 x6 x7 A_0_6_powers A_0_7_lefts A_0_8_cells A_0_9_right H locs ls h
          unfold lp_X12_isRight_94 at h
          exact h.elim
        | succ k94 ih94 =>
          have jq151 : ∀ (x1 : Int32) (x2 : Int32) (x3 : Int32) (x4 : Int32) (x6 : Int32) (x7 : Int32) (s0 : Int32) (A_0_6_powers : (Nat → Int32)) (A_0_7_lefts : (Nat → Int32)) (A_0_8_cells : (Nat → Int32)) (A_0_9_right : (Nat → Int32)) (H : Heap) (locs : List Loc) (ls : Array Slot) , jn_X12_isRight_151 A_0_0_f A_0_1_operator (fun x1 x2 x3 x4 x5 x6 x7 A_0_6_powers A_0_7_lefts A_0_8_cells A_0_9_right => lp_X12_isRight_94 A_0_0_f A_0_1_operator (jn_X12_isRight_159 A_0_0_f A_0_1_operator (fun x1 x2 x3 x4 x5 x6 A_0_6_powers A_0_7_lefts A_0_8_cells A_0_9_right => lp_X12_isRight_50 A_0_0_f A_0_1_operator K k50 x1 x2 x3 x4 x5 x6 A_0_6_powers A_0_7_lefts A_0_8_cells A_0_9_right) K) K k94 x1 x2 x3 x4 x5 x6 x7 A_0_6_powers A_0_7_lefts A_0_8_cells A_0_9_right) (jn_X12_isRight_159 A_0_0_f A_0_1_operator (fun x1 x2 x3 x4 x5 x6 A_0_6_powers A_0_7_lefts A_0_8_cells A_0_9_right => lp_X12_isRight_50 A_0_0_f A_0_1_operator K k50 x1 x2 x3 x4 x5 x6 A_0_6_powers A_0_7_lefts A_0_8_cells A_0_9_right) K) K x1 x2 x3 x4 x6 x7 s0 A_0_6_powers A_0_7_lefts A_0_8_cells A_0_9_right → MW D A s.heap [(h0, .inr (11, oX12 r0 I_0_isFound I_0_foundB I_0_changes I_0_taped I_0_size I_0_at I_0_signs I_0_wanted I_0_sign I_0_isKept I_0_keptFound I_0_keptB I_0_keptChanges)), ((r0 0), .inl (cI, 5, .inl A_0_0_f)), ((r0 1), .inl (cI, 75, .inl A_0_1_operator)), ((r0 6), .inl (cI, 125, .inl A_0_6_powers)), ((r0 7), .inl (cI, 1125, .inl A_0_7_lefts)), ((r0 8), .inl (cI, 225, .inl A_0_8_cells)), ((r0 9), .inl (cI, 9, .inl A_0_9_right))] H locs → lv_has ls 8 [(0, .ref h0), (1, .int x1), (2, .int x2), (3, .int x3), (4, .int x4), (6, .int x6), (7, .int x7)] → W p l e rm_X12_isRight s m args below meth c H locs 0 0 Q (F0 m 151 ls [.int s0]) := by
            intro x1 x2 x3 x4 x6 x7 s0 A_0_6_powers A_0_7_lefts A_0_8_cells A_0_9_right H locs ls h hM hl
            unfold jn_X12_isRight_151 at h
            refine lv_istore (lv' := [(5, .int s0), (0, .ref h0), (1, .int x1), (2, .int x2), (3, .int x3), (4, .int x4), (6, .int x6), (7, .int x7)]) hx hb dX12_isRight_151 hl (by decide) rfl (fun ls hl => ?_)
            refine lv_iinc (v := (x7 + (1 : Int32))) (lv' := [(7, .int (x7 + (1 : Int32))), (5, .int s0), (0, .ref h0), (1, .int x1), (2, .int x2), (3, .int x3), (4, .int x4), (6, .int x6)]) hx hb dX12_isRight_153 hl (k := 7) rfl rfl (by decide) rfl (fun ls hl => ?_)
            refine lv_goto (tgt := 94) hx hb dX12_isRight_156 (by decide) ?_
            exact ih94 _ _ _ _ _ _ _ _ _ _ _ _ _ _ h hM (lv_sub hl [2, 3, 4, 5, 6, 1, 7, 0] rfl)
          have jq150 : ∀ (x1 : Int32) (x2 : Int32) (x3 : Int32) (x4 : Int32) (x6 : Int32) (x7 : Int32) (A_0_6_powers : (Nat → Int32)) (A_0_7_lefts : (Nat → Int32)) (A_0_8_cells : (Nat → Int32)) (A_0_9_right : (Nat → Int32)) (H : Heap) (locs : List Loc) (ls : Array Slot) , jn_X12_isRight_150 A_0_0_f A_0_1_operator (fun x1 x2 x3 x4 x5 x6 x7 A_0_6_powers A_0_7_lefts A_0_8_cells A_0_9_right => lp_X12_isRight_94 A_0_0_f A_0_1_operator (jn_X12_isRight_159 A_0_0_f A_0_1_operator (fun x1 x2 x3 x4 x5 x6 A_0_6_powers A_0_7_lefts A_0_8_cells A_0_9_right => lp_X12_isRight_50 A_0_0_f A_0_1_operator K k50 x1 x2 x3 x4 x5 x6 A_0_6_powers A_0_7_lefts A_0_8_cells A_0_9_right) K) K k94 x1 x2 x3 x4 x5 x6 x7 A_0_6_powers A_0_7_lefts A_0_8_cells A_0_9_right) (jn_X12_isRight_159 A_0_0_f A_0_1_operator (fun x1 x2 x3 x4 x5 x6 A_0_6_powers A_0_7_lefts A_0_8_cells A_0_9_right => lp_X12_isRight_50 A_0_0_f A_0_1_operator K k50 x1 x2 x3 x4 x5 x6 A_0_6_powers A_0_7_lefts A_0_8_cells A_0_9_right) K) K x1 x2 x3 x4 x6 x7 A_0_6_powers A_0_7_lefts A_0_8_cells A_0_9_right → MW D A s.heap [(h0, .inr (11, oX12 r0 I_0_isFound I_0_foundB I_0_changes I_0_taped I_0_size I_0_at I_0_signs I_0_wanted I_0_sign I_0_isKept I_0_keptFound I_0_keptB I_0_keptChanges)), ((r0 0), .inl (cI, 5, .inl A_0_0_f)), ((r0 1), .inl (cI, 75, .inl A_0_1_operator)), ((r0 6), .inl (cI, 125, .inl A_0_6_powers)), ((r0 7), .inl (cI, 1125, .inl A_0_7_lefts)), ((r0 8), .inl (cI, 225, .inl A_0_8_cells)), ((r0 9), .inl (cI, 9, .inl A_0_9_right))] H locs → lv_has ls 8 [(0, .ref h0), (1, .int x1), (2, .int x2), (3, .int x3), (4, .int x4), (6, .int x6), (7, .int x7)] → W p l e rm_X12_isRight s m args below meth c H locs 0 0 Q (F0 m 150 ls []) := by
            intro x1 x2 x3 x4 x6 x7 A_0_6_powers A_0_7_lefts A_0_8_cells A_0_9_right H locs ls h hM hl
            unfold jn_X12_isRight_150 at h
            refine lv_iconst (v := (0 : Int32)) hx hb dX12_isRight_150 (by decide) ?_
            exact jq151 _ _ _ _ _ _ _ _ _ _ _ _ _ _ h hM (lv_sub hl [0, 1, 2, 3, 4, 5, 6] rfl)
          intro x1 x2 x3 x4 x5 x6 x7 A_0_6_powers A_0_7_lefts A_0_8_cells A_0_9_right H locs ls h hM hl
          unfold lp_X12_isRight_94 at h
          refine lv_iload hx hb dX12_isRight_94 (lv_at hl 7 rfl) ?_
          refine lv_bipush (v := (25 : Int32)) hx hb dX12_isRight_96 (by decide) ?_
          refine lv_icmp_ge (tgt := 159) hx hb dX12_isRight_98 (by decide) (fun hq => ?_) (fun hq => ?_)
          · have h := h.1 hq
            exact jq159 _ _ _ _ _ _ _ _ _ _ _ _ _ h hM (lv_sub hl [0, 1, 2, 3, 4, 5, 6] rfl)
          · have h := h.2 hq
            refine lv_iload hx hb dX12_isRight_101 (lv_at hl 5 rfl) ?_
            refine lv_if_eq (tgt := 150) hx hb dX12_isRight_103 (by decide) (fun hq => ?_) (fun hq => ?_)
            · have h := h.1 hq
              exact jq150 _ _ _ _ _ _ _ _ _ _ _ _ _ h hM (lv_sub hl [0, 1, 2, 3, 4, 6, 7] rfl)
            · have h := h.2 hq
              refine lv_aload_n hx hb dX12_isRight_106 rfl (lv_at hl 0 rfl) ?_
              refine m_get (C := RX12) (T := TX12) (N := 45) (ci := 11) (ref := "LoweredPowersModel") (v := .ref (r0 8)) C0 hM 0 rfl rfl kt_X12_isRight_X12 8 (by decide) kw_X12_isRight_3 rfl rfl dX12_isRight_107 ?_
              refine lv_bipush (v := (9 : Int32)) hx hb dX12_isRight_110 (by decide) ?_
              refine lv_iload hx hb dX12_isRight_112 (lv_at hl 7 rfl) ?_
              refine lv_imul hx hb dX12_isRight_114 ?_
              refine lv_iload hx hb dX12_isRight_115 (lv_at hl 6 rfl) ?_
              refine lv_iadd hx hb dX12_isRight_117 ?_
              obtain ⟨hc1, h⟩ := h
              refine m_iald C0 hM 5 rfl hc1 dX12_isRight_118 ?_
              refine lv_aload_n hx hb dX12_isRight_119 rfl (lv_at hl 0 rfl) ?_
              refine m_get (C := RX12) (T := TX12) (N := 45) (ci := 11) (ref := "LoweredPowersModel") (v := .ref (r0 9)) C0 hM 0 rfl rfl kt_X12_isRight_X12 9 (by decide) kw_X12_isRight_2 rfl rfl dX12_isRight_120 ?_
              refine lv_iload hx hb dX12_isRight_123 (lv_at hl 6 rfl) ?_
              obtain ⟨hc2, h⟩ := h
              refine m_iald C0 hM 6 rfl hc2 dX12_isRight_125 ?_
              refine lv_aload_n hx hb dX12_isRight_126 rfl (lv_at hl 0 rfl) ?_
              refine m_get (C := RX12) (T := TX12) (N := 45) (ci := 11) (ref := "LoweredPowersModel") (v := .ref (r0 6)) C0 hM 0 rfl rfl kt_X12_isRight_X12 6 (by decide) kw_X12_isRight_1 rfl rfl dX12_isRight_127 ?_
              refine lv_bipush (v := (25 : Int32)) hx hb dX12_isRight_130 (by decide) ?_
              refine lv_iload_n hx hb dX12_isRight_132 rfl (lv_at hl 2 rfl) ?_
              refine lv_imul hx hb dX12_isRight_133 ?_
              refine lv_iload hx hb dX12_isRight_134 (lv_at hl 7 rfl) ?_
              refine lv_iadd hx hb dX12_isRight_136 ?_
              obtain ⟨hc3, h⟩ := h
              refine m_iald C0 hM 3 rfl hc3 dX12_isRight_137 ?_
              refine lv_imul hx hb dX12_isRight_138 ?_
              refine lv_sipush (v := (10007 : Int32)) hx hb dX12_isRight_139 (by decide) ?_
              refine lv_irem hx hb dX12_isRight_142 (by decide) ?_
              refine lv_topi (fun y4 ey4 => ?_)
              have h := h y4 ey4
              refine lv_icmp_ne (tgt := 150) hx hb dX12_isRight_143 (by decide) (fun hq => ?_) (fun hq => ?_)
              · have h := h.1 hq
                exact jq150 _ _ _ _ _ _ _ _ _ _ _ _ _ h hM (lv_sub hl [0, 1, 2, 3, 4, 6, 7] rfl)
              · have h := h.2 hq
                refine lv_iconst (v := (1 : Int32)) hx hb dX12_isRight_146 (by decide) ?_
                refine lv_goto (tgt := 151) hx hb dX12_isRight_147 (by decide) ?_
                exact jq151 _ _ _ _ _ _ _ _ _ _ _ _ _ _ h hM (lv_sub hl [0, 1, 2, 3, 4, 6, 7] rfl)
      have jq90 : ∀ (x1 : Int32) (x2 : Int32) (x3 : Int32) (x4 : Int32) (x5 : Int32) (x6 : Int32) (s1 : Int32) (s2 : Int32) (A_0_6_powers : (Nat → Int32)) (A_0_7_lefts : (Nat → Int32)) (A_0_8_cells : (Nat → Int32)) (A_0_9_right : (Nat → Int32)) (H : Heap) (locs : List Loc) (ls : Array Slot) , jn_X12_isRight_90 A_0_0_f A_0_1_operator (fun x1 x2 x3 x4 x5 x6 A_0_6_powers A_0_7_lefts A_0_8_cells A_0_9_right => lp_X12_isRight_50 A_0_0_f A_0_1_operator K k50 x1 x2 x3 x4 x5 x6 A_0_6_powers A_0_7_lefts A_0_8_cells A_0_9_right) K x1 x2 x3 x4 x5 x6 s1 s2 A_0_6_powers A_0_7_lefts A_0_8_cells A_0_9_right → MW D A s.heap [(h0, .inr (11, oX12 r0 I_0_isFound I_0_foundB I_0_changes I_0_taped I_0_size I_0_at I_0_signs I_0_wanted I_0_sign I_0_isKept I_0_keptFound I_0_keptB I_0_keptChanges)), ((r0 0), .inl (cI, 5, .inl A_0_0_f)), ((r0 1), .inl (cI, 75, .inl A_0_1_operator)), ((r0 6), .inl (cI, 125, .inl A_0_6_powers)), ((r0 7), .inl (cI, 1125, .inl A_0_7_lefts)), ((r0 8), .inl (cI, 225, .inl A_0_8_cells)), ((r0 9), .inl (cI, 9, .inl A_0_9_right))] H locs → lv_has ls 8 [(0, .ref h0), (1, .int x1), (2, .int x2), (3, .int x3), (4, .int x4), (5, .int x5), (6, .int x6)] → W p l e rm_X12_isRight s m args below meth c H locs 0 0 Q (F0 m 90 ls [.int s2, .int s1, .ref (r0 9)]) := by
        intro x1 x2 x3 x4 x5 x6 s1 s2 A_0_6_powers A_0_7_lefts A_0_8_cells A_0_9_right H locs ls h hM hl
        unfold jn_X12_isRight_90 at h
        obtain ⟨hc5, h⟩ := h
        refine m_iast (ws' := [(h0, .inr (11, oX12 r0 I_0_isFound I_0_foundB I_0_changes I_0_taped I_0_size I_0_at I_0_signs I_0_wanted I_0_sign I_0_isKept I_0_keptFound I_0_keptB I_0_keptChanges)), ((r0 0), .inl (cI, 5, .inl A_0_0_f)), ((r0 1), .inl (cI, 75, .inl A_0_1_operator)), ((r0 6), .inl (cI, 125, .inl A_0_6_powers)), ((r0 7), .inl (cI, 1125, .inl A_0_7_lefts)), ((r0 8), .inl (cI, 225, .inl A_0_8_cells)), ((r0 9), .inl (cI, 9, .inl (upd A_0_9_right (s1).toNatClampNeg s2)))]) C0 hM 6 rfl hc5 rfl dX12_isRight_90 (fun H locs hM => ?_)
        refine lv_iconst (v := (0 : Int32)) hx hb dX12_isRight_91 (by decide) ?_
        refine lv_istore (lv' := [(7, .int (0 : Int32)), (0, .ref h0), (1, .int x1), (2, .int x2), (3, .int x3), (4, .int x4), (5, .int x5), (6, .int x6)]) hx hb dX12_isRight_92 hl (by decide) rfl (fun ls hl => ?_)
        obtain ⟨k0, h⟩ := h
        exact lq94 k0 _ _ _ _ _ _ _ _ _ _ _ _ _ _ h hM (lv_sub hl [1, 2, 3, 4, 5, 6, 7, 0] rfl)
      intro x1 x2 x3 x4 x5 x6 A_0_6_powers A_0_7_lefts A_0_8_cells A_0_9_right H locs ls h hM hl
      unfold lp_X12_isRight_50 at h
      refine lv_iload hx hb dX12_isRight_50 (lv_at hl 6 rfl) ?_
      refine lv_bipush (v := (9 : Int32)) hx hb dX12_isRight_52 (by decide) ?_
      refine lv_icmp_ge (tgt := 165) hx hb dX12_isRight_54 (by decide) (fun hq => ?_) (fun hq => ?_)
      · have h := h.1 hq
        refine lv_iload hx hb dX12_isRight_165 (lv_at hl 5 rfl) ?_
        obtain ⟨hc6, h⟩ := h
        subst hsz; subst hA; subst hQ
        exact m_zret C0 hr hM hc6 (A_0_6_powers, A_0_7_lefts, A_0_8_cells, A_0_9_right) h rfl dX12_isRight_167
      · have h := h.2 hq
        refine lv_aload_n hx hb dX12_isRight_57 rfl (lv_at hl 0 rfl) ?_
        refine m_get (C := RX12) (T := TX12) (N := 45) (ci := 11) (ref := "LoweredPowersModel") (v := .ref (r0 9)) C0 hM 0 rfl rfl kt_X12_isRight_X12 9 (by decide) kw_X12_isRight_2 rfl rfl dX12_isRight_58 ?_
        refine lv_iload hx hb dX12_isRight_61 (lv_at hl 6 rfl) ?_
        refine lv_iload_n hx hb dX12_isRight_63 rfl (lv_at hl 1 rfl) ?_
        refine lv_if_ne (tgt := 71) hx hb dX12_isRight_64 (by decide) (fun hq => ?_) (fun hq => ?_)
        · have h := h.1 hq
          refine lv_aload_n hx hb dX12_isRight_71 rfl (lv_at hl 0 rfl) ?_
          refine m_get (C := RX12) (T := TX12) (N := 45) (ci := 11) (ref := "LoweredPowersModel") (v := .ref (r0 8)) C0 hM 0 rfl rfl kt_X12_isRight_X12 8 (by decide) kw_X12_isRight_3 rfl rfl dX12_isRight_72 ?_
          refine lv_bipush (v := (9 : Int32)) hx hb dX12_isRight_75 (by decide) ?_
          refine lv_iload_n hx hb dX12_isRight_77 rfl (lv_at hl 3 rfl) ?_
          refine lv_imul hx hb dX12_isRight_78 ?_
          refine lv_iload hx hb dX12_isRight_79 (lv_at hl 6 rfl) ?_
          refine lv_iadd hx hb dX12_isRight_81 ?_
          obtain ⟨hc7, h⟩ := h
          refine m_iald C0 hM 5 rfl hc7 dX12_isRight_82 ?_
          refine lv_iload hx hb dX12_isRight_83 (lv_at hl 4 rfl) ?_
          refine lv_imul hx hb dX12_isRight_85 ?_
          refine lv_sipush (v := (10007 : Int32)) hx hb dX12_isRight_86 (by decide) ?_
          refine lv_irem hx hb dX12_isRight_89 (by decide) ?_
          refine lv_topi (fun y8 ey8 => ?_)
          have h := h y8 ey8
          exact jq90 _ _ _ _ _ _ _ _ _ _ _ _ _ _ _ h hM (lv_sub hl [0, 1, 2, 3, 4, 5, 6] rfl)
        · have h := h.2 hq
          refine lv_iconst (v := (0 : Int32)) hx hb dX12_isRight_67 (by decide) ?_
          refine lv_goto (tgt := 90) hx hb dX12_isRight_68 (by decide) ?_
          exact jq90 _ _ _ _ _ _ _ _ _ _ _ _ _ _ _ h hM (lv_sub hl [0, 1, 2, 3, 4, 5, 6] rfl)
  have jq20 : ∀ (x1 : Int32) (s0 : Int32) (A_0_6_powers : (Nat → Int32)) (A_0_7_lefts : (Nat → Int32)) (A_0_8_cells : (Nat → Int32)) (A_0_9_right : (Nat → Int32)) (H : Heap) (locs : List Loc) (ls : Array Slot) , jn_X12_isRight_20 A_0_0_f A_0_1_operator K x1 s0 A_0_6_powers A_0_7_lefts A_0_8_cells A_0_9_right → MW D A s.heap [(h0, .inr (11, oX12 r0 I_0_isFound I_0_foundB I_0_changes I_0_taped I_0_size I_0_at I_0_signs I_0_wanted I_0_sign I_0_isKept I_0_keptFound I_0_keptB I_0_keptChanges)), ((r0 0), .inl (cI, 5, .inl A_0_0_f)), ((r0 1), .inl (cI, 75, .inl A_0_1_operator)), ((r0 6), .inl (cI, 125, .inl A_0_6_powers)), ((r0 7), .inl (cI, 1125, .inl A_0_7_lefts)), ((r0 8), .inl (cI, 225, .inl A_0_8_cells)), ((r0 9), .inl (cI, 9, .inl A_0_9_right))] H locs → lv_has ls 8 [(0, .ref h0), (1, .int x1)] → W p l e rm_X12_isRight s m args below meth c H locs 0 0 Q (F0 m 20 ls [.int s0]) := by
    intro x1 s0 A_0_6_powers A_0_7_lefts A_0_8_cells A_0_9_right H locs ls h hM hl
    unfold jn_X12_isRight_20 at h
    refine lv_istore_n (lv' := [(2, .int s0), (0, .ref h0), (1, .int x1)]) hx hb dX12_isRight_20 rfl hl (by decide) rfl (fun ls hl => ?_)
    refine lv_aload_n hx hb dX12_isRight_21 rfl (lv_at hl 1 rfl) ?_
    refine m_calli (wc := [(h0, .inr (11, oX12 r0 I_0_isFound I_0_foundB I_0_changes I_0_taped I_0_size I_0_at I_0_signs I_0_wanted I_0_sign I_0_isKept I_0_keptFound I_0_keptB I_0_keptChanges)), ((r0 0), .inl (cI, 5, .inl A_0_0_f))]) C0 hM [0, 1] rfl (m_runV (wc := [(h0, .inr (11, oX12 r0 I_0_isFound I_0_foundB I_0_changes I_0_taped I_0_size I_0_at I_0_signs I_0_wanted I_0_sign I_0_isKept I_0_keptFound I_0_keptB I_0_keptChanges)), ((r0 0), .inl (cI, 5, .inl A_0_0_f))]) (As := []) (rest := []) (ci := 11) C0 hM (ct_X12_degreeOf l D cI cJ cZ h0 r0 I_0_isFound I_0_foundB I_0_changes I_0_taped I_0_size I_0_at I_0_signs I_0_wanted I_0_sign I_0_isKept I_0_keptFound I_0_keptB I_0_keptChanges A_0_0_f _ _ h) [0, 1] rfl (by decide) gX12_isRight_X12_degreeOf rfl rfl rfl rfl rfl hd_X12_degreeOf ⟨Nat.le_of_ble_eq_true rfl, Nat.le_of_ble_eq_true rfl⟩ rfl hl.1 rfl (Nat.le_of_ble_eq_true rfl) dX12_isRight_22 ⟨Nat.le_of_ble_eq_true rfl, Nat.le_of_ble_eq_true rfl⟩) (fun _ => [(h0, .inr (11, oX12 r0 I_0_isFound I_0_foundB I_0_changes I_0_taped I_0_size I_0_at I_0_signs I_0_wanted I_0_sign I_0_isKept I_0_keptFound I_0_keptB I_0_keptChanges)), ((r0 0), .inl (cI, 5, .inl A_0_0_f)), ((r0 1), .inl (cI, 75, .inl A_0_1_operator)), ((r0 6), .inl (cI, 125, .inl A_0_6_powers)), ((r0 7), .inl (cI, 1125, .inl A_0_7_lefts)), ((r0 8), .inl (cI, 225, .inl A_0_8_cells)), ((r0 9), .inl (cI, 9, .inl A_0_9_right))]) (fun _ => rfl) (fun _ => rfl) (fun y9 _ H locs h hM => ?_)
    refine lv_iload_n hx hb dX12_isRight_25 rfl (lv_at hl 0 rfl) ?_
    refine lv_imul hx hb dX12_isRight_26 ?_
    refine lv_topi (fun y10 ey10 => ?_)
    have h := h y10 ey10
    refine lv_istore_n (lv' := [(3, .int y10), (2, .int s0), (0, .ref h0), (1, .int x1)]) hx hb dX12_isRight_27 rfl hl (by decide) rfl (fun ls hl => ?_)
    refine lv_aload_n hx hb dX12_isRight_28 rfl (lv_at hl 2 rfl) ?_
    refine m_get (C := RX12) (T := TX12) (N := 45) (ci := 11) (ref := "LoweredPowersModel") (v := .ref (r0 6)) C0 hM 0 rfl rfl kt_X12_isRight_X12 6 (by decide) kw_X12_isRight_1 rfl rfl dX12_isRight_29 ?_
    refine lv_bipush (v := (25 : Int32)) hx hb dX12_isRight_32 (by decide) ?_
    refine lv_iload_n hx hb dX12_isRight_34 rfl (lv_at hl 1 rfl) ?_
    refine lv_imul hx hb dX12_isRight_35 ?_
    refine lv_iload_n hx hb dX12_isRight_36 rfl (lv_at hl 0 rfl) ?_
    refine lv_iadd hx hb dX12_isRight_37 ?_
    obtain ⟨hc11, h⟩ := h
    refine m_iald C0 hM 3 rfl hc11 dX12_isRight_38 ?_
    refine m_calli (wc := []) C0 hM [] rfl (m_runS (wc := []) (As := [.int (A_0_6_powers ((((25 : Int32) * s0) + y10)).toNatClampNeg)]) (rest := []) C0 hM (ct_X12_inverse l D cI cJ cZ (A_0_6_powers ((((25 : Int32) * s0) + y10)).toNatClampNeg) _ _ h) [] rfl (by decide) gX12_isRight_X12_inverse rfl rfl rfl hd_X12_inverse ⟨Nat.le_of_ble_eq_true rfl, Nat.le_of_ble_eq_true rfl⟩ rfl hl.1 rfl (Nat.le_of_ble_eq_true rfl) dX12_isRight_39 ⟨Nat.le_of_ble_eq_true rfl, Nat.le_of_ble_eq_true rfl⟩) (fun _ => [(h0, .inr (11, oX12 r0 I_0_isFound I_0_foundB I_0_changes I_0_taped I_0_size I_0_at I_0_signs I_0_wanted I_0_sign I_0_isKept I_0_keptFound I_0_keptB I_0_keptChanges)), ((r0 0), .inl (cI, 5, .inl A_0_0_f)), ((r0 1), .inl (cI, 75, .inl A_0_1_operator)), ((r0 6), .inl (cI, 125, .inl A_0_6_powers)), ((r0 7), .inl (cI, 1125, .inl A_0_7_lefts)), ((r0 8), .inl (cI, 225, .inl A_0_8_cells)), ((r0 9), .inl (cI, 9, .inl A_0_9_right))]) (fun _ => rfl) (fun _ => rfl) (fun y12 _ H locs h hM => ?_)
    refine lv_istore (lv' := [(4, .int y12), (3, .int y10), (2, .int s0), (0, .ref h0), (1, .int x1)]) hx hb dX12_isRight_42 hl (by decide) rfl (fun ls hl => ?_)
    refine lv_iconst (v := (1 : Int32)) hx hb dX12_isRight_44 (by decide) ?_
    refine lv_istore (lv' := [(5, .int (1 : Int32)), (4, .int y12), (3, .int y10), (2, .int s0), (0, .ref h0), (1, .int x1)]) hx hb dX12_isRight_45 hl (by decide) rfl (fun ls hl => ?_)
    refine lv_iconst (v := (0 : Int32)) hx hb dX12_isRight_47 (by decide) ?_
    refine lv_istore (lv' := [(6, .int (0 : Int32)), (5, .int (1 : Int32)), (4, .int y12), (3, .int y10), (2, .int s0), (0, .ref h0), (1, .int x1)]) hx hb dX12_isRight_48 hl (by decide) rfl (fun ls hl => ?_)
    obtain ⟨k0, h⟩ := h
    exact lq50 k0 _ _ _ _ _ _ _ _ _ _ _ _ _ h hM (lv_sub hl [5, 6, 4, 3, 2, 1, 0] rfl)
  unfold wp_X12_isRight at h
  refine lv_aload_n hx hb dX12_isRight_0 rfl (lv_at hl 0 rfl) ?_
  refine m_calli (wc := [(h0, .inr (11, oX12 r0 I_0_isFound I_0_foundB I_0_changes I_0_taped I_0_size I_0_at I_0_signs I_0_wanted I_0_sign I_0_isKept I_0_keptFound I_0_keptB I_0_keptChanges)), ((r0 1), .inl (cI, 75, .inl A_0_1_operator))]) C0 hM [0, 2] rfl (m_runV (wc := [(h0, .inr (11, oX12 r0 I_0_isFound I_0_foundB I_0_changes I_0_taped I_0_size I_0_at I_0_signs I_0_wanted I_0_sign I_0_isKept I_0_keptFound I_0_keptB I_0_keptChanges)), ((r0 1), .inl (cI, 75, .inl A_0_1_operator))]) (As := []) (rest := []) (ci := 11) C0 hM (ct_X12_orderOf l D cI cJ cZ h0 r0 I_0_isFound I_0_foundB I_0_changes I_0_taped I_0_size I_0_at I_0_signs I_0_wanted I_0_sign I_0_isKept I_0_keptFound I_0_keptB I_0_keptChanges A_0_1_operator _ _ h) [0, 2] rfl (by decide) gX12_isRight_X12_orderOf rfl rfl rfl rfl rfl hd_X12_orderOf ⟨Nat.le_of_ble_eq_true rfl, Nat.le_of_ble_eq_true rfl⟩ rfl hl.1 rfl (Nat.le_of_ble_eq_true rfl) dX12_isRight_1 ⟨Nat.le_of_ble_eq_true rfl, Nat.le_of_ble_eq_true rfl⟩) (fun _ => [(h0, .inr (11, oX12 r0 I_0_isFound I_0_foundB I_0_changes I_0_taped I_0_size I_0_at I_0_signs I_0_wanted I_0_sign I_0_isKept I_0_keptFound I_0_keptB I_0_keptChanges)), ((r0 0), .inl (cI, 5, .inl A_0_0_f)), ((r0 1), .inl (cI, 75, .inl A_0_1_operator)), ((r0 6), .inl (cI, 125, .inl A_0_6_powers)), ((r0 7), .inl (cI, 1125, .inl A_0_7_lefts)), ((r0 8), .inl (cI, 225, .inl A_0_8_cells)), ((r0 9), .inl (cI, 9, .inl A_0_9_right))]) (fun _ => rfl) (fun _ => rfl) (fun y13 _ H locs h hM => ?_)
  refine lv_istore_n (lv' := [(1, .int y13), (0, .ref h0)]) hx hb dX12_isRight_4 rfl hl (by decide) rfl (fun ls hl => ?_)
  refine lv_aload_n hx hb dX12_isRight_5 rfl (lv_at hl 1 rfl) ?_
  refine m_callv (wc := [(h0, .inr (11, oX12 r0 I_0_isFound I_0_foundB I_0_changes I_0_taped I_0_size I_0_at I_0_signs I_0_wanted I_0_sign I_0_isKept I_0_keptFound I_0_keptB I_0_keptChanges)), ((r0 0), .inl (cI, 5, .inl A_0_0_f)), ((r0 1), .inl (cI, 75, .inl A_0_1_operator)), ((r0 6), .inl (cI, 125, .inl A_0_6_powers)), ((r0 7), .inl (cI, 1125, .inl A_0_7_lefts)), ((r0 8), .inl (cI, 225, .inl A_0_8_cells))]) C0 hM [0, 1, 2, 3, 4, 5] rfl (m_runV (wc := [(h0, .inr (11, oX12 r0 I_0_isFound I_0_foundB I_0_changes I_0_taped I_0_size I_0_at I_0_signs I_0_wanted I_0_sign I_0_isKept I_0_keptFound I_0_keptB I_0_keptChanges)), ((r0 0), .inl (cI, 5, .inl A_0_0_f)), ((r0 1), .inl (cI, 75, .inl A_0_1_operator)), ((r0 6), .inl (cI, 125, .inl A_0_6_powers)), ((r0 7), .inl (cI, 1125, .inl A_0_7_lefts)), ((r0 8), .inl (cI, 225, .inl A_0_8_cells))]) (As := []) (rest := []) (ci := 11) C0 hM (ct_X12_works l D cI cJ cZ h0 r0 I_0_isFound I_0_foundB I_0_changes I_0_taped I_0_size I_0_at I_0_signs I_0_wanted I_0_sign I_0_isKept I_0_keptFound I_0_keptB I_0_keptChanges A_0_0_f A_0_1_operator A_0_6_powers A_0_7_lefts A_0_8_cells _ _ h) [0, 1, 2, 3, 4, 5] rfl (by decide) gX12_isRight_X12_works rfl rfl rfl rfl rfl hd_X12_works ⟨Nat.le_of_ble_eq_true rfl, Nat.le_of_ble_eq_true rfl⟩ rfl hl.1 rfl (Nat.le_of_ble_eq_true rfl) dX12_isRight_6 ⟨Nat.le_of_ble_eq_true rfl, Nat.le_of_ble_eq_true rfl⟩) (fun u => [(h0, .inr (11, oX12 r0 I_0_isFound I_0_foundB I_0_changes I_0_taped I_0_size I_0_at I_0_signs I_0_wanted I_0_sign I_0_isKept I_0_keptFound I_0_keptB I_0_keptChanges)), ((r0 0), .inl (cI, 5, .inl A_0_0_f)), ((r0 1), .inl (cI, 75, .inl A_0_1_operator)), ((r0 6), .inl (cI, 125, .inl u.1)), ((r0 7), .inl (cI, 1125, .inl u.2.1)), ((r0 8), .inl (cI, 225, .inl u.2.2)), ((r0 9), .inl (cI, 9, .inl A_0_9_right))]) (fun _ => rfl) (fun _ => rfl) (fun u H locs h hM => ?_)
  obtain ⟨b14, b15, b16⟩ := u
  dsimp only at h
  have hM : MW D A s.heap [(h0, .inr (11, oX12 r0 I_0_isFound I_0_foundB I_0_changes I_0_taped I_0_size I_0_at I_0_signs I_0_wanted I_0_sign I_0_isKept I_0_keptFound I_0_keptB I_0_keptChanges)), ((r0 0), .inl (cI, 5, .inl A_0_0_f)), ((r0 1), .inl (cI, 75, .inl A_0_1_operator)), ((r0 6), .inl (cI, 125, .inl b14)), ((r0 7), .inl (cI, 1125, .inl b15)), ((r0 8), .inl (cI, 225, .inl b16)), ((r0 9), .inl (cI, 9, .inl A_0_9_right))] H locs := hM
  refine lv_iload_n hx hb dX12_isRight_9 rfl (lv_at hl 0 rfl) ?_
  refine lv_if_ne (tgt := 17) hx hb dX12_isRight_10 (by decide) (fun hq => ?_) (fun hq => ?_)
  · have h := h.1 hq
    refine lv_iload_n hx hb dX12_isRight_17 rfl (lv_at hl 0 rfl) ?_
    refine lv_iconst (v := (1 : Int32)) hx hb dX12_isRight_18 (by decide) ?_
    refine lv_isub hx hb dX12_isRight_19 ?_
    exact jq20 _ _ _ _ _ _ _ _ _ h hM (lv_sub hl [1, 0] rfl)
  · have h := h.2 hq
    refine lv_iconst (v := (0 : Int32)) hx hb dX12_isRight_13 (by decide) ?_
    refine lv_goto (tgt := 20) hx hb dX12_isRight_14 (by decide) ?_
    exact jq20 _ _ _ _ _ _ _ _ _ h hM (lv_sub hl [1, 0] rfl)
abbrev rm_X12_right : Room := { frames := 6, cells := 0, slots := 0, locals := 141 }
set_option maxRecDepth 100000 in
set_option maxHeartbeats 4000000 in
theorem ct_X12_right (l : Launch) (D : va_G) (cI cJ cZ : ClassId) (h0 : Nat) (r0 : Nat → Nat) (I_0_isFound : Int32) (I_0_foundB : Int32) (I_0_changes : Int32) (I_0_taped : Int32) (I_0_size : Int32) (I_0_at : Int32) (I_0_signs : Int32) (I_0_wanted : Int32) (I_0_sign : Int32) (I_0_isKept : Int32) (I_0_keptFound : Int32) (I_0_keptB : Int32) (I_0_keptChanges : Int32) (A_0_0_f : (Nat → Int32)) (A_0_1_operator : (Nat → Int32)) (A_0_6_powers : (Nat → Int32)) (A_0_7_lefts : (Nat → Int32)) (A_0_8_cells : (Nat → Int32)) (A_0_9_right : (Nat → Int32)) (x1 : Int32) (sz : Nat) (K : Int32 → (Nat → Int32) → (Nat → Int32) → (Nat → Int32) → (Nat → Int32) → Prop) (h : wp_X12_right x1 A_0_0_f A_0_1_operator A_0_6_powers A_0_7_lefts A_0_8_cells A_0_9_right K) : Met l yX12_right wsX12_right rm_X12_right (va_Pc [.ref h0, .int x1] (WX D cI cJ cZ [(h0, .inr (11, oX12 r0 I_0_isFound I_0_foundB I_0_changes I_0_taped I_0_size I_0_at I_0_signs I_0_wanted I_0_sign I_0_isKept I_0_keptFound I_0_keptB I_0_keptChanges)), ((r0 0), .inl (cI, 5, .inl A_0_0_f)), ((r0 1), .inl (cI, 75, .inl A_0_1_operator)), ((r0 6), .inl (cI, 125, .inl A_0_6_powers)), ((r0 7), .inl (cI, 1125, .inl A_0_7_lefts)), ((r0 8), .inl (cI, 225, .inl A_0_8_cells)), ((r0 9), .inl (cI, 9, .inl A_0_9_right))] sz)) (va_Qi (fun (r : Int32) (u : (Nat → Int32) × (Nat → Int32) × (Nat → Int32) × (Nat → Int32)) => K r u.1 u.2.1 u.2.2.1 u.2.2.2) (fun (u : (Nat → Int32) × (Nat → Int32) × (Nat → Int32) × (Nat → Int32)) t => WY D (va_A [(h0, .inr (11, oX12 r0 I_0_isFound I_0_foundB I_0_changes I_0_taped I_0_size I_0_at I_0_signs I_0_wanted I_0_sign I_0_isKept I_0_keptFound I_0_keptB I_0_keptChanges)), ((r0 0), .inl (cI, 5, .inl A_0_0_f)), ((r0 1), .inl (cI, 75, .inl A_0_1_operator)), ((r0 6), .inl (cI, 125, .inl A_0_6_powers)), ((r0 7), .inl (cI, 1125, .inl A_0_7_lefts)), ((r0 8), .inl (cI, 225, .inl A_0_8_cells)), ((r0 9), .inl (cI, 9, .inl A_0_9_right))] sz) [(h0, .inr (11, oX12 r0 I_0_isFound I_0_foundB I_0_changes I_0_taped I_0_size I_0_at I_0_signs I_0_wanted I_0_sign I_0_isKept I_0_keptFound I_0_keptB I_0_keptChanges)), ((r0 0), .inl (cI, 5, .inl A_0_0_f)), ((r0 1), .inl (cI, 75, .inl A_0_1_operator)), ((r0 6), .inl (cI, 125, .inl u.1)), ((r0 7), .inl (cI, 1125, .inl u.2.1)), ((r0 8), .inl (cI, 225, .inl u.2.2.1)), ((r0 9), .inl (cI, 9, .inl u.2.2.2))] t) (va_A [(h0, .inr (11, oX12 r0 I_0_isFound I_0_foundB I_0_changes I_0_taped I_0_size I_0_at I_0_signs I_0_wanted I_0_sign I_0_isKept I_0_keptFound I_0_keptB I_0_keptChanges)), ((r0 0), .inl (cI, 5, .inl A_0_0_f)), ((r0 1), .inl (cI, 75, .inl A_0_1_operator)), ((r0 6), .inl (cI, 125, .inl A_0_6_powers)), ((r0 7), .inl (cI, 1125, .inl A_0_7_lefts)), ((r0 8), .inl (cI, 225, .inl A_0_8_cells)), ((r0 9), .inl (cI, 9, .inl A_0_9_right))] sz)) 0 0 (va_A [(h0, .inr (11, oX12 r0 I_0_isFound I_0_foundB I_0_changes I_0_taped I_0_size I_0_at I_0_signs I_0_wanted I_0_sign I_0_isKept I_0_keptFound I_0_keptB I_0_keptChanges)), ((r0 0), .inl (cI, 5, .inl A_0_0_f)), ((r0 1), .inl (cI, 75, .inl A_0_1_operator)), ((r0 6), .inl (cI, 125, .inl A_0_6_powers)), ((r0 7), .inl (cI, 1125, .inl A_0_7_lefts)), ((r0 8), .inl (cI, 225, .inl A_0_8_cells)), ((r0 9), .inl (cI, 9, .inl A_0_9_right))] sz) := by
  refine m_met (own := RX12) (cc := cX12_right) (maxL := 3) (ret := some .int) [.ref h0, .int x1] [(0, .ref h0), (1, .int x1)] (by decide) rfl rfl (Nat.le_of_ble_eq_true rfl) rfl ?_
  intro p e s m args below meth c Q A hQ hA C0 hr hnm hsz hM ls hl
  have hx := C0.1
  have hb := C0.2.1
  have hown := C0.2.2.2.1
  have lq50 : ∀ (k50 : Nat) (x2 : Int32) (A_0_6_powers : (Nat → Int32)) (A_0_7_lefts : (Nat → Int32)) (A_0_8_cells : (Nat → Int32)) (A_0_9_right : (Nat → Int32)) (H : Heap) (locs : List Loc) (ls : Array Slot) , lp_X12_right_50 x1 A_0_0_f A_0_1_operator K k50 x2 A_0_6_powers A_0_7_lefts A_0_8_cells A_0_9_right → MW D A s.heap [(h0, .inr (11, oX12 r0 I_0_isFound I_0_foundB I_0_changes I_0_taped I_0_size I_0_at I_0_signs I_0_wanted I_0_sign I_0_isKept I_0_keptFound I_0_keptB I_0_keptChanges)), ((r0 0), .inl (cI, 5, .inl A_0_0_f)), ((r0 1), .inl (cI, 75, .inl A_0_1_operator)), ((r0 6), .inl (cI, 125, .inl A_0_6_powers)), ((r0 7), .inl (cI, 1125, .inl A_0_7_lefts)), ((r0 8), .inl (cI, 225, .inl A_0_8_cells)), ((r0 9), .inl (cI, 9, .inl A_0_9_right))] H locs → lv_has ls 3 [(0, .ref h0), (2, .int x2)] → W p l e rm_X12_right s m args below meth c H locs 0 0 Q (F0 m 50 ls []) := by
    intro k50
    induction k50 with
    | zero =>
      intro x2 A_0_6_powers A_0_7_lefts A_0_8_cells A_0_9_right H locs ls h
      unfold lp_X12_right_50 at h
      exact h.elim
    | succ k50 ih50 =>
      intro x2 A_0_6_powers A_0_7_lefts A_0_8_cells A_0_9_right H locs ls h hM hl
      unfold lp_X12_right_50 at h
      refine lv_iload_n hx hb dX12_right_50 rfl (lv_at hl 1 rfl) ?_
      refine lv_if_lt (tgt := 69) hx hb dX12_right_51 (by decide) (fun hq => ?_) (fun hq => ?_)
      · have h := h.1 hq
        refine lv_iload_n hx hb dX12_right_69 rfl (lv_at hl 1 rfl) ?_
        subst hsz; subst hA; subst hQ
        exact m_iret C0 hr hM (A_0_6_powers, A_0_7_lefts, A_0_8_cells, A_0_9_right) h rfl dX12_right_70
      · have h := h.2 hq
        refine lv_aload_n hx hb dX12_right_54 rfl (lv_at hl 0 rfl) ?_
        refine m_get (C := RX12) (T := TX12) (N := 45) (ci := 11) (ref := "LoweredPowersModel") (v := .ref (r0 9)) C0 hM 0 rfl rfl kt_X12_right_X12 9 (by decide) kw_X12_right_1 rfl rfl dX12_right_55 ?_
        refine lv_iload_n hx hb dX12_right_58 rfl (lv_at hl 1 rfl) ?_
        obtain ⟨hc1, h⟩ := h
        refine m_iald C0 hM 6 rfl hc1 dX12_right_59 ?_
        refine lv_if_ne (tgt := 69) hx hb dX12_right_60 (by decide) (fun hq => ?_) (fun hq => ?_)
        · have h := h.1 hq
          refine lv_iload_n hx hb dX12_right_69 rfl (lv_at hl 1 rfl) ?_
          subst hsz; subst hA; subst hQ
          exact m_iret C0 hr hM (A_0_6_powers, A_0_7_lefts, A_0_8_cells, A_0_9_right) h rfl dX12_right_70
        · have h := h.2 hq
          refine lv_iinc (v := (x2 + (-1 : Int32))) (lv' := [(2, .int (x2 + (-1 : Int32))), (0, .ref h0)]) hx hb dX12_right_63 hl (k := 1) rfl rfl (by decide) rfl (fun ls hl => ?_)
          refine lv_goto (tgt := 50) hx hb dX12_right_66 (by decide) ?_
          exact ih50 _ _ _ _ _ _ _ _ h hM (lv_sub hl [1, 0] rfl)
  unfold wp_X12_right at h
  refine lv_iload_n hx hb dX12_right_0 rfl (lv_at hl 1 rfl) ?_
  refine lv_iconst (v := (-1 : Int32)) hx hb dX12_right_1 (by decide) ?_
  refine lv_bipush (v := (8 : Int32)) hx hb dX12_right_2 (by decide) ?_
  refine m_calli (wc := []) C0 hM [] rfl (m_runS (wc := []) (As := [.int x1, .int (-1 : Int32), .int (8 : Int32)]) (rest := []) C0 hM (ct_X12_isIn l D cI cJ cZ x1 (-1 : Int32) (8 : Int32) _ _ h) [] rfl (by decide) gX12_right_X12_isIn rfl rfl rfl hd_X12_isIn ⟨Nat.le_of_ble_eq_true rfl, Nat.le_of_ble_eq_true rfl⟩ rfl hl.1 rfl (Nat.le_of_ble_eq_true rfl) dX12_right_4 ⟨Nat.le_of_ble_eq_true rfl, Nat.le_of_ble_eq_true rfl⟩) (fun _ => [(h0, .inr (11, oX12 r0 I_0_isFound I_0_foundB I_0_changes I_0_taped I_0_size I_0_at I_0_signs I_0_wanted I_0_sign I_0_isKept I_0_keptFound I_0_keptB I_0_keptChanges)), ((r0 0), .inl (cI, 5, .inl A_0_0_f)), ((r0 1), .inl (cI, 75, .inl A_0_1_operator)), ((r0 6), .inl (cI, 125, .inl A_0_6_powers)), ((r0 7), .inl (cI, 1125, .inl A_0_7_lefts)), ((r0 8), .inl (cI, 225, .inl A_0_8_cells)), ((r0 9), .inl (cI, 9, .inl A_0_9_right))]) (fun _ => rfl) (fun _ => rfl) (fun y2 _ H locs h hM => ?_)
  refine lv_if_ne (tgt := 12) hx hb dX12_right_7 (by decide) (fun hq => ?_) (fun hq => ?_)
  · have h := h.1 hq
    refine lv_aload_n hx hb dX12_right_12 rfl (lv_at hl 0 rfl) ?_
    refine m_calli (wc := [(h0, .inr (11, oX12 r0 I_0_isFound I_0_foundB I_0_changes I_0_taped I_0_size I_0_at I_0_signs I_0_wanted I_0_sign I_0_isKept I_0_keptFound I_0_keptB I_0_keptChanges)), ((r0 0), .inl (cI, 5, .inl A_0_0_f))]) C0 hM [0, 1] rfl (m_runV (wc := [(h0, .inr (11, oX12 r0 I_0_isFound I_0_foundB I_0_changes I_0_taped I_0_size I_0_at I_0_signs I_0_wanted I_0_sign I_0_isKept I_0_keptFound I_0_keptB I_0_keptChanges)), ((r0 0), .inl (cI, 5, .inl A_0_0_f))]) (As := []) (rest := []) (ci := 11) C0 hM (ct_X12_degreeOf l D cI cJ cZ h0 r0 I_0_isFound I_0_foundB I_0_changes I_0_taped I_0_size I_0_at I_0_signs I_0_wanted I_0_sign I_0_isKept I_0_keptFound I_0_keptB I_0_keptChanges A_0_0_f _ _ h) [0, 1] rfl (by decide) gX12_right_X12_degreeOf rfl rfl rfl rfl rfl hd_X12_degreeOf ⟨Nat.le_of_ble_eq_true rfl, Nat.le_of_ble_eq_true rfl⟩ rfl hl.1 rfl (Nat.le_of_ble_eq_true rfl) dX12_right_13 ⟨Nat.le_of_ble_eq_true rfl, Nat.le_of_ble_eq_true rfl⟩) (fun _ => [(h0, .inr (11, oX12 r0 I_0_isFound I_0_foundB I_0_changes I_0_taped I_0_size I_0_at I_0_signs I_0_wanted I_0_sign I_0_isKept I_0_keptFound I_0_keptB I_0_keptChanges)), ((r0 0), .inl (cI, 5, .inl A_0_0_f)), ((r0 1), .inl (cI, 75, .inl A_0_1_operator)), ((r0 6), .inl (cI, 125, .inl A_0_6_powers)), ((r0 7), .inl (cI, 1125, .inl A_0_7_lefts)), ((r0 8), .inl (cI, 225, .inl A_0_8_cells)), ((r0 9), .inl (cI, 9, .inl A_0_9_right))]) (fun _ => rfl) (fun _ => rfl) (fun y3 _ H locs h hM => ?_)
    refine lv_iconst (v := (1 : Int32)) hx hb dX12_right_16 (by decide) ?_
    refine lv_icmp_ge (tgt := 23) hx hb dX12_right_17 (by decide) (fun hq => ?_) (fun hq => ?_)
    · have h := h.1 hq
      refine lv_aload_n hx hb dX12_right_23 rfl (lv_at hl 0 rfl) ?_
      refine m_calli (wc := [(h0, .inr (11, oX12 r0 I_0_isFound I_0_foundB I_0_changes I_0_taped I_0_size I_0_at I_0_signs I_0_wanted I_0_sign I_0_isKept I_0_keptFound I_0_keptB I_0_keptChanges)), ((r0 0), .inl (cI, 5, .inl A_0_0_f)), ((r0 1), .inl (cI, 75, .inl A_0_1_operator)), ((r0 6), .inl (cI, 125, .inl A_0_6_powers)), ((r0 7), .inl (cI, 1125, .inl A_0_7_lefts)), ((r0 8), .inl (cI, 225, .inl A_0_8_cells)), ((r0 9), .inl (cI, 9, .inl A_0_9_right))]) C0 hM [0, 1, 2, 3, 4, 5, 6] rfl (m_runV (wc := [(h0, .inr (11, oX12 r0 I_0_isFound I_0_foundB I_0_changes I_0_taped I_0_size I_0_at I_0_signs I_0_wanted I_0_sign I_0_isKept I_0_keptFound I_0_keptB I_0_keptChanges)), ((r0 0), .inl (cI, 5, .inl A_0_0_f)), ((r0 1), .inl (cI, 75, .inl A_0_1_operator)), ((r0 6), .inl (cI, 125, .inl A_0_6_powers)), ((r0 7), .inl (cI, 1125, .inl A_0_7_lefts)), ((r0 8), .inl (cI, 225, .inl A_0_8_cells)), ((r0 9), .inl (cI, 9, .inl A_0_9_right))]) (As := []) (rest := []) (ci := 11) C0 hM (ct_X12_isRight l D cI cJ cZ h0 r0 I_0_isFound I_0_foundB I_0_changes I_0_taped I_0_size I_0_at I_0_signs I_0_wanted I_0_sign I_0_isKept I_0_keptFound I_0_keptB I_0_keptChanges A_0_0_f A_0_1_operator A_0_6_powers A_0_7_lefts A_0_8_cells A_0_9_right _ _ h) [0, 1, 2, 3, 4, 5, 6] rfl (by decide) gX12_right_X12_isRight rfl rfl rfl rfl rfl hd_X12_isRight ⟨Nat.le_of_ble_eq_true rfl, Nat.le_of_ble_eq_true rfl⟩ rfl hl.1 rfl (Nat.le_of_ble_eq_true rfl) dX12_right_24 ⟨Nat.le_of_ble_eq_true rfl, Nat.le_of_ble_eq_true rfl⟩) (fun u => [(h0, .inr (11, oX12 r0 I_0_isFound I_0_foundB I_0_changes I_0_taped I_0_size I_0_at I_0_signs I_0_wanted I_0_sign I_0_isKept I_0_keptFound I_0_keptB I_0_keptChanges)), ((r0 0), .inl (cI, 5, .inl A_0_0_f)), ((r0 1), .inl (cI, 75, .inl A_0_1_operator)), ((r0 6), .inl (cI, 125, .inl u.1)), ((r0 7), .inl (cI, 1125, .inl u.2.1)), ((r0 8), .inl (cI, 225, .inl u.2.2.1)), ((r0 9), .inl (cI, 9, .inl u.2.2.2))]) (fun _ => rfl) (fun _ => rfl) (fun y4 u H locs h hM => ?_)
      obtain ⟨b5, b6, b7, b8⟩ := u
      dsimp only at h
      have hM : MW D A s.heap [(h0, .inr (11, oX12 r0 I_0_isFound I_0_foundB I_0_changes I_0_taped I_0_size I_0_at I_0_signs I_0_wanted I_0_sign I_0_isKept I_0_keptFound I_0_keptB I_0_keptChanges)), ((r0 0), .inl (cI, 5, .inl A_0_0_f)), ((r0 1), .inl (cI, 75, .inl A_0_1_operator)), ((r0 6), .inl (cI, 125, .inl b5)), ((r0 7), .inl (cI, 1125, .inl b6)), ((r0 8), .inl (cI, 225, .inl b7)), ((r0 9), .inl (cI, 9, .inl b8))] H locs := hM
      refine lv_if_ne (tgt := 33) hx hb dX12_right_27 (by decide) (fun hq => ?_) (fun hq => ?_)
      · have h := h.1 hq
        refine lv_iload_n hx hb dX12_right_33 rfl (lv_at hl 1 rfl) ?_
        refine lv_if_lt (tgt := 47) hx hb dX12_right_34 (by decide) (fun hq => ?_) (fun hq => ?_)
        · have h := h.1 hq
          refine lv_bipush (v := (8 : Int32)) hx hb dX12_right_47 (by decide) ?_
          refine lv_istore_n (lv' := [(2, .int (8 : Int32)), (0, .ref h0), (1, .int x1)]) hx hb dX12_right_49 rfl hl (by decide) rfl (fun ls hl => ?_)
          obtain ⟨k0, h⟩ := h
          exact lq50 k0 _ _ _ _ _ _ _ _ h hM (lv_sub hl [1, 0] rfl)
        · have h := h.2 hq
          refine lv_aload_n hx hb dX12_right_37 rfl (lv_at hl 0 rfl) ?_
          refine m_get (C := RX12) (T := TX12) (N := 45) (ci := 11) (ref := "LoweredPowersModel") (v := .ref (r0 9)) C0 hM 0 rfl rfl kt_X12_right_X12 9 (by decide) kw_X12_right_1 rfl rfl dX12_right_38 ?_
          refine lv_iload_n hx hb dX12_right_41 rfl (lv_at hl 1 rfl) ?_
          obtain ⟨hc9, h⟩ := h
          refine m_iald C0 hM 6 rfl hc9 dX12_right_42 ?_
          refine m_calli (wc := []) C0 hM [] rfl (m_runS (wc := []) (As := [.int (b8 (x1).toNatClampNeg)]) (rest := []) C0 hM (ct_X12_told l D cI cJ cZ (b8 (x1).toNatClampNeg) _ _ h) [] rfl (by decide) gX12_right_X12_told rfl rfl rfl hd_X12_told ⟨Nat.le_of_ble_eq_true rfl, Nat.le_of_ble_eq_true rfl⟩ rfl hl.1 rfl (Nat.le_of_ble_eq_true rfl) dX12_right_43 ⟨Nat.le_of_ble_eq_true rfl, Nat.le_of_ble_eq_true rfl⟩) (fun _ => [(h0, .inr (11, oX12 r0 I_0_isFound I_0_foundB I_0_changes I_0_taped I_0_size I_0_at I_0_signs I_0_wanted I_0_sign I_0_isKept I_0_keptFound I_0_keptB I_0_keptChanges)), ((r0 0), .inl (cI, 5, .inl A_0_0_f)), ((r0 1), .inl (cI, 75, .inl A_0_1_operator)), ((r0 6), .inl (cI, 125, .inl b5)), ((r0 7), .inl (cI, 1125, .inl b6)), ((r0 8), .inl (cI, 225, .inl b7)), ((r0 9), .inl (cI, 9, .inl b8))]) (fun _ => rfl) (fun _ => rfl) (fun y10 _ H locs h hM => ?_)
          subst hsz; subst hA; subst hQ
          exact m_iret C0 hr hM (b5, b6, b7, b8) h rfl dX12_right_46
      · have h := h.2 hq
        refine lv_bipush (v := (-5 : Int32)) hx hb dX12_right_30 (by decide) ?_
        subst hsz; subst hA; subst hQ
        exact m_iret C0 hr hM (b5, b6, b7, b8) h rfl dX12_right_32
    · have h := h.2 hq
      refine lv_bipush (v := (-3 : Int32)) hx hb dX12_right_20 (by decide) ?_
      subst hsz; subst hA; subst hQ
      exact m_iret C0 hr hM (A_0_6_powers, A_0_7_lefts, A_0_8_cells, A_0_9_right) h rfl dX12_right_22
  · have h := h.2 hq
    refine lv_iconst (v := (-1 : Int32)) hx hb dX12_right_10 (by decide) ?_
    subst hsz; subst hA; subst hQ
    exact m_iret C0 hr hM (A_0_6_powers, A_0_7_lefts, A_0_8_cells, A_0_9_right) h rfl dX12_right_11
abbrev rm_X12_lays : Room := { frames := 0, cells := 0, slots := 0, locals := 0 }
set_option maxRecDepth 100000 in
set_option maxHeartbeats 4000000 in
theorem ct_X12_lays (l : Launch) (D : va_G) (cI cJ cZ : ClassId) (h0 : Nat) (r0 : Nat → Nat) (I_0_isFound : Int32) (I_0_foundB : Int32) (I_0_changes : Int32) (I_0_taped : Int32) (I_0_size : Int32) (I_0_at : Int32) (I_0_signs : Int32) (I_0_wanted : Int32) (I_0_sign : Int32) (I_0_isKept : Int32) (I_0_keptFound : Int32) (I_0_keptB : Int32) (I_0_keptChanges : Int32) (A_0_8_cells : (Nat → Int32)) (A_0_10_table : (Nat → Int32)) (x1 : Int32) (sz : Nat) (K : (Nat → Int32) → Prop) (h : wp_X12_lays x1 A_0_8_cells A_0_10_table K) : Met l yX12_lays wsX12_lays rm_X12_lays (va_Pc [.ref h0, .int x1] (WX D cI cJ cZ [(h0, .inr (11, oX12 r0 I_0_isFound I_0_foundB I_0_changes I_0_taped I_0_size I_0_at I_0_signs I_0_wanted I_0_sign I_0_isKept I_0_keptFound I_0_keptB I_0_keptChanges)), ((r0 8), .inl (cI, 225, .inl A_0_8_cells)), ((r0 10), .inl (cI, 18900, .inl A_0_10_table))] sz)) (va_Qv (fun (u : (Nat → Int32)) => K u) (fun (u : (Nat → Int32)) t => WY D (va_A [(h0, .inr (11, oX12 r0 I_0_isFound I_0_foundB I_0_changes I_0_taped I_0_size I_0_at I_0_signs I_0_wanted I_0_sign I_0_isKept I_0_keptFound I_0_keptB I_0_keptChanges)), ((r0 8), .inl (cI, 225, .inl A_0_8_cells)), ((r0 10), .inl (cI, 18900, .inl A_0_10_table))] sz) [(h0, .inr (11, oX12 r0 I_0_isFound I_0_foundB I_0_changes I_0_taped I_0_size I_0_at I_0_signs I_0_wanted I_0_sign I_0_isKept I_0_keptFound I_0_keptB I_0_keptChanges)), ((r0 8), .inl (cI, 225, .inl A_0_8_cells)), ((r0 10), .inl (cI, 18900, .inl u))] t) (va_A [(h0, .inr (11, oX12 r0 I_0_isFound I_0_foundB I_0_changes I_0_taped I_0_size I_0_at I_0_signs I_0_wanted I_0_sign I_0_isKept I_0_keptFound I_0_keptB I_0_keptChanges)), ((r0 8), .inl (cI, 225, .inl A_0_8_cells)), ((r0 10), .inl (cI, 18900, .inl A_0_10_table))] sz)) 0 0 (va_A [(h0, .inr (11, oX12 r0 I_0_isFound I_0_foundB I_0_changes I_0_taped I_0_size I_0_at I_0_signs I_0_wanted I_0_sign I_0_isKept I_0_keptFound I_0_keptB I_0_keptChanges)), ((r0 8), .inl (cI, 225, .inl A_0_8_cells)), ((r0 10), .inl (cI, 18900, .inl A_0_10_table))] sz) := by
  refine m_met (own := RX12) (cc := cX12_lays) (maxL := 3) (ret := none) [.ref h0, .int x1] [(0, .ref h0), (1, .int x1)] (by decide) rfl rfl (Nat.le_of_ble_eq_true rfl) rfl ?_
  intro p e s m args below meth c Q A hQ hA C0 hr hnm hsz hM ls hl
  have hx := C0.1
  have hb := C0.2.1
  have hown := C0.2.2.2.1
  have lq2 : ∀ (k2 : Nat) (x2 : Int32) (A_0_10_table : (Nat → Int32)) (H : Heap) (locs : List Loc) (ls : Array Slot) , lp_X12_lays_2 x1 A_0_8_cells K k2 x2 A_0_10_table → MW D A s.heap [(h0, .inr (11, oX12 r0 I_0_isFound I_0_foundB I_0_changes I_0_taped I_0_size I_0_at I_0_signs I_0_wanted I_0_sign I_0_isKept I_0_keptFound I_0_keptB I_0_keptChanges)), ((r0 8), .inl (cI, 225, .inl A_0_8_cells)), ((r0 10), .inl (cI, 18900, .inl A_0_10_table))] H locs → lv_has ls 3 [(0, .ref h0), (1, .int x1), (2, .int x2)] → W p l e rm_X12_lays s m args below meth c H locs 0 0 Q (F0 m 2 ls []) := by
    intro k2
    induction k2 with
    | zero =>
      intro x2 A_0_10_table H locs ls h
      unfold lp_X12_lays_2 at h
      exact h.elim
    | succ k2 ih2 =>
      intro x2 A_0_10_table H locs ls h hM hl
      unfold lp_X12_lays_2 at h
      refine lv_iload_n hx hb dX12_lays_2 rfl (lv_at hl 2 rfl) ?_
      refine lv_sipush (v := (225 : Int32)) hx hb dX12_lays_3 (by decide) ?_
      refine lv_icmp_ge (tgt := 32) hx hb dX12_lays_6 (by decide) (fun hq => ?_) (fun hq => ?_)
      · have h := h.1 hq
        subst hsz; subst hA; subst hQ
        exact m_vret C0 hr hM A_0_10_table h rfl dX12_lays_32
      · have h := h.2 hq
        refine lv_aload_n hx hb dX12_lays_9 rfl (lv_at hl 0 rfl) ?_
        refine m_get (C := RX12) (T := TX12) (N := 45) (ci := 11) (ref := "LoweredPowersModel") (v := .ref (r0 10)) C0 hM 0 rfl rfl kt_X12_lays_X12 10 (by decide) kw_X12_lays_1 rfl rfl dX12_lays_10 ?_
        refine lv_bipush (v := (84 : Int32)) hx hb dX12_lays_13 (by decide) ?_
        refine lv_iload_n hx hb dX12_lays_15 rfl (lv_at hl 2 rfl) ?_
        refine lv_imul hx hb dX12_lays_16 ?_
        refine lv_iload_n hx hb dX12_lays_17 rfl (lv_at hl 1 rfl) ?_
        refine lv_iadd hx hb dX12_lays_18 ?_
        refine lv_aload_n hx hb dX12_lays_19 rfl (lv_at hl 0 rfl) ?_
        refine m_get (C := RX12) (T := TX12) (N := 45) (ci := 11) (ref := "LoweredPowersModel") (v := .ref (r0 8)) C0 hM 0 rfl rfl kt_X12_lays_X12 8 (by decide) kw_X12_lays_2 rfl rfl dX12_lays_20 ?_
        refine lv_iload_n hx hb dX12_lays_23 rfl (lv_at hl 2 rfl) ?_
        obtain ⟨hc1, h⟩ := h
        refine m_iald C0 hM 1 rfl hc1 dX12_lays_24 ?_
        refine lv_topi (fun y2 ey2 => ?_)
        have h := h y2 ey2
        obtain ⟨hc3, h⟩ := h
        refine m_iast (ws' := [(h0, .inr (11, oX12 r0 I_0_isFound I_0_foundB I_0_changes I_0_taped I_0_size I_0_at I_0_signs I_0_wanted I_0_sign I_0_isKept I_0_keptFound I_0_keptB I_0_keptChanges)), ((r0 8), .inl (cI, 225, .inl A_0_8_cells)), ((r0 10), .inl (cI, 18900, .inl (upd A_0_10_table ((((84 : Int32) * x2) + x1)).toNatClampNeg y2)))]) C0 hM 2 rfl hc3 rfl dX12_lays_25 (fun H locs hM => ?_)
        refine lv_iinc (v := (x2 + (1 : Int32))) (lv' := [(2, .int (x2 + (1 : Int32))), (0, .ref h0), (1, .int x1)]) hx hb dX12_lays_26 hl (k := 2) rfl rfl (by decide) rfl (fun ls hl => ?_)
        refine lv_goto (tgt := 2) hx hb dX12_lays_29 (by decide) ?_
        exact ih2 _ _ _ _ _ h hM (lv_sub hl [1, 2, 0] rfl)
  unfold wp_X12_lays at h
  refine lv_iconst (v := (0 : Int32)) hx hb dX12_lays_0 (by decide) ?_
  refine lv_istore_n (lv' := [(2, .int (0 : Int32)), (0, .ref h0), (1, .int x1)]) hx hb dX12_lays_1 rfl hl (by decide) rfl (fun ls hl => ?_)
  obtain ⟨k0, h⟩ := h
  exact lq2 k0 _ _ _ _ _ h hM (lv_sub hl [1, 2, 0] rfl)
abbrev rm_X12_swaps : Room := { frames := 0, cells := 0, slots := 0, locals := 0 }
set_option maxRecDepth 100000 in
set_option maxHeartbeats 4000000 in
theorem ct_X12_swaps (l : Launch) (D : va_G) (cI cJ cZ : ClassId) (h0 : Nat) (r0 : Nat → Nat) (I_0_isFound : Int32) (I_0_foundB : Int32) (I_0_changes : Int32) (I_0_taped : Int32) (I_0_size : Int32) (I_0_at : Int32) (I_0_signs : Int32) (I_0_wanted : Int32) (I_0_sign : Int32) (I_0_isKept : Int32) (I_0_keptFound : Int32) (I_0_keptB : Int32) (I_0_keptChanges : Int32) (A_0_10_table : (Nat → Int32)) (x1 : Int32) (x2 : Int32) (sz : Nat) (K : (Nat → Int32) → Prop) (h : wp_X12_swaps x1 x2 A_0_10_table K) : Met l yX12_swaps wsX12_swaps rm_X12_swaps (va_Pc [.ref h0, .int x1, .int x2] (WX D cI cJ cZ [(h0, .inr (11, oX12 r0 I_0_isFound I_0_foundB I_0_changes I_0_taped I_0_size I_0_at I_0_signs I_0_wanted I_0_sign I_0_isKept I_0_keptFound I_0_keptB I_0_keptChanges)), ((r0 10), .inl (cI, 18900, .inl A_0_10_table))] sz)) (va_Qv (fun (u : (Nat → Int32)) => K u) (fun (u : (Nat → Int32)) t => WY D (va_A [(h0, .inr (11, oX12 r0 I_0_isFound I_0_foundB I_0_changes I_0_taped I_0_size I_0_at I_0_signs I_0_wanted I_0_sign I_0_isKept I_0_keptFound I_0_keptB I_0_keptChanges)), ((r0 10), .inl (cI, 18900, .inl A_0_10_table))] sz) [(h0, .inr (11, oX12 r0 I_0_isFound I_0_foundB I_0_changes I_0_taped I_0_size I_0_at I_0_signs I_0_wanted I_0_sign I_0_isKept I_0_keptFound I_0_keptB I_0_keptChanges)), ((r0 10), .inl (cI, 18900, .inl u))] t) (va_A [(h0, .inr (11, oX12 r0 I_0_isFound I_0_foundB I_0_changes I_0_taped I_0_size I_0_at I_0_signs I_0_wanted I_0_sign I_0_isKept I_0_keptFound I_0_keptB I_0_keptChanges)), ((r0 10), .inl (cI, 18900, .inl A_0_10_table))] sz)) 0 0 (va_A [(h0, .inr (11, oX12 r0 I_0_isFound I_0_foundB I_0_changes I_0_taped I_0_size I_0_at I_0_signs I_0_wanted I_0_sign I_0_isKept I_0_keptFound I_0_keptB I_0_keptChanges)), ((r0 10), .inl (cI, 18900, .inl A_0_10_table))] sz) := by
  refine m_met (own := RX12) (cc := cX12_swaps) (maxL := 5) (ret := none) [.ref h0, .int x1, .int x2] [(0, .ref h0), (1, .int x1), (2, .int x2)] (by decide) rfl rfl (Nat.le_of_ble_eq_true rfl) rfl ?_
  intro p e s m args below meth c Q A hQ hA C0 hr hnm hsz hM ls hl
  have hx := C0.1
  have hb := C0.2.1
  have hown := C0.2.2.2.1
  have lq2 : ∀ (k2 : Nat) (x3 : Int32) (A_0_10_table : (Nat → Int32)) (H : Heap) (locs : List Loc) (ls : Array Slot) , lp_X12_swaps_2 x1 x2 K k2 x3 A_0_10_table → MW D A s.heap [(h0, .inr (11, oX12 r0 I_0_isFound I_0_foundB I_0_changes I_0_taped I_0_size I_0_at I_0_signs I_0_wanted I_0_sign I_0_isKept I_0_keptFound I_0_keptB I_0_keptChanges)), ((r0 10), .inl (cI, 18900, .inl A_0_10_table))] H locs → lv_has ls 5 [(0, .ref h0), (1, .int x1), (2, .int x2), (3, .int x3)] → W p l e rm_X12_swaps s m args below meth c H locs 0 0 Q (F0 m 2 ls []) := by
    intro k2
    induction k2 with
    | zero =>
      intro x3 A_0_10_table H locs ls h
      unfold lp_X12_swaps_2 at h
      exact h.elim
    | succ k2 ih2 =>
      intro x3 A_0_10_table H locs ls h hM hl
      unfold lp_X12_swaps_2 at h
      refine lv_iload_n hx hb dX12_swaps_2 rfl (lv_at hl 3 rfl) ?_
      refine lv_bipush (v := (84 : Int32)) hx hb dX12_swaps_3 (by decide) ?_
      refine lv_icmp_ge (tgt := 62) hx hb dX12_swaps_5 (by decide) (fun hq => ?_) (fun hq => ?_)
      · have h := h.1 hq
        subst hsz; subst hA; subst hQ
        exact m_vret C0 hr hM A_0_10_table h rfl dX12_swaps_62
      · have h := h.2 hq
        refine lv_aload_n hx hb dX12_swaps_8 rfl (lv_at hl 0 rfl) ?_
        refine m_get (C := RX12) (T := TX12) (N := 45) (ci := 11) (ref := "LoweredPowersModel") (v := .ref (r0 10)) C0 hM 0 rfl rfl kt_X12_swaps_X12 10 (by decide) kw_X12_swaps_1 rfl rfl dX12_swaps_9 ?_
        refine lv_bipush (v := (84 : Int32)) hx hb dX12_swaps_12 (by decide) ?_
        refine lv_iload_n hx hb dX12_swaps_14 rfl (lv_at hl 1 rfl) ?_
        refine lv_imul hx hb dX12_swaps_15 ?_
        refine lv_iload_n hx hb dX12_swaps_16 rfl (lv_at hl 3 rfl) ?_
        refine lv_iadd hx hb dX12_swaps_17 ?_
        obtain ⟨hc1, h⟩ := h
        refine m_iald C0 hM 1 rfl hc1 dX12_swaps_18 ?_
        refine lv_topi (fun y2 ey2 => ?_)
        have h := h y2 ey2
        refine lv_istore (lv' := [(4, .int y2), (0, .ref h0), (1, .int x1), (2, .int x2), (3, .int x3)]) hx hb dX12_swaps_19 hl (by decide) rfl (fun ls hl => ?_)
        refine lv_aload_n hx hb dX12_swaps_21 rfl (lv_at hl 1 rfl) ?_
        refine m_get (C := RX12) (T := TX12) (N := 45) (ci := 11) (ref := "LoweredPowersModel") (v := .ref (r0 10)) C0 hM 0 rfl rfl kt_X12_swaps_X12 10 (by decide) kw_X12_swaps_1 rfl rfl dX12_swaps_22 ?_
        refine lv_bipush (v := (84 : Int32)) hx hb dX12_swaps_25 (by decide) ?_
        refine lv_iload_n hx hb dX12_swaps_27 rfl (lv_at hl 2 rfl) ?_
        refine lv_imul hx hb dX12_swaps_28 ?_
        refine lv_iload_n hx hb dX12_swaps_29 rfl (lv_at hl 4 rfl) ?_
        refine lv_iadd hx hb dX12_swaps_30 ?_
        refine lv_aload_n hx hb dX12_swaps_31 rfl (lv_at hl 1 rfl) ?_
        refine m_get (C := RX12) (T := TX12) (N := 45) (ci := 11) (ref := "LoweredPowersModel") (v := .ref (r0 10)) C0 hM 0 rfl rfl kt_X12_swaps_X12 10 (by decide) kw_X12_swaps_1 rfl rfl dX12_swaps_32 ?_
        refine lv_bipush (v := (84 : Int32)) hx hb dX12_swaps_35 (by decide) ?_
        refine lv_iload_n hx hb dX12_swaps_37 rfl (lv_at hl 3 rfl) ?_
        refine lv_imul hx hb dX12_swaps_38 ?_
        refine lv_iload_n hx hb dX12_swaps_39 rfl (lv_at hl 4 rfl) ?_
        refine lv_iadd hx hb dX12_swaps_40 ?_
        obtain ⟨hc3, h⟩ := h
        refine m_iald C0 hM 1 rfl hc3 dX12_swaps_41 ?_
        refine lv_topi (fun y4 ey4 => ?_)
        have h := h y4 ey4
        refine m_iast (ws' := [(h0, .inr (11, oX12 r0 I_0_isFound I_0_foundB I_0_changes I_0_taped I_0_size I_0_at I_0_signs I_0_wanted I_0_sign I_0_isKept I_0_keptFound I_0_keptB I_0_keptChanges)), ((r0 10), .inl (cI, 18900, .inl (upd A_0_10_table ((((84 : Int32) * x1) + x3)).toNatClampNeg y4)))]) C0 hM 1 rfl hc1 rfl dX12_swaps_42 (fun H locs hM => ?_)
        refine lv_aload_n hx hb dX12_swaps_43 rfl (lv_at hl 1 rfl) ?_
        refine m_get (C := RX12) (T := TX12) (N := 45) (ci := 11) (ref := "LoweredPowersModel") (v := .ref (r0 10)) C0 hM 0 rfl rfl kt_X12_swaps_X12 10 (by decide) kw_X12_swaps_1 rfl rfl dX12_swaps_44 ?_
        refine lv_bipush (v := (84 : Int32)) hx hb dX12_swaps_47 (by decide) ?_
        refine lv_iload_n hx hb dX12_swaps_49 rfl (lv_at hl 3 rfl) ?_
        refine lv_imul hx hb dX12_swaps_50 ?_
        refine lv_iload_n hx hb dX12_swaps_51 rfl (lv_at hl 4 rfl) ?_
        refine lv_iadd hx hb dX12_swaps_52 ?_
        refine lv_iload hx hb dX12_swaps_53 (lv_at hl 0 rfl) ?_
        refine m_iast (ws' := [(h0, .inr (11, oX12 r0 I_0_isFound I_0_foundB I_0_changes I_0_taped I_0_size I_0_at I_0_signs I_0_wanted I_0_sign I_0_isKept I_0_keptFound I_0_keptB I_0_keptChanges)), ((r0 10), .inl (cI, 18900, .inl (upd (upd A_0_10_table ((((84 : Int32) * x1) + x3)).toNatClampNeg y4) ((((84 : Int32) * x2) + x3)).toNatClampNeg y2)))]) C0 hM 1 rfl hc3 rfl dX12_swaps_55 (fun H locs hM => ?_)
        refine lv_iinc (v := (x3 + (1 : Int32))) (lv' := [(3, .int (x3 + (1 : Int32))), (4, .int y2), (0, .ref h0), (1, .int x1), (2, .int x2)]) hx hb dX12_swaps_56 hl (k := 4) rfl rfl (by decide) rfl (fun ls hl => ?_)
        refine lv_goto (tgt := 2) hx hb dX12_swaps_59 (by decide) ?_
        exact ih2 _ _ _ _ _ h hM (lv_sub hl [2, 3, 4, 0] rfl)
  unfold wp_X12_swaps at h
  refine lv_iconst (v := (0 : Int32)) hx hb dX12_swaps_0 (by decide) ?_
  refine lv_istore_n (lv' := [(3, .int (0 : Int32)), (0, .ref h0), (1, .int x1), (2, .int x2)]) hx hb dX12_swaps_1 rfl hl (by decide) rfl (fun ls hl => ?_)
  obtain ⟨k0, h⟩ := h
  exact lq2 k0 _ _ _ _ _ h hM (lv_sub hl [1, 2, 3, 0] rfl)
abbrev rm_X12_reduces : Room := { frames := 2, cells := 0, slots := 0, locals := 42 }
set_option maxRecDepth 100000 in
set_option maxHeartbeats 4000000 in
theorem ct_X12_reduces (l : Launch) (D : va_G) (cI cJ cZ : ClassId) (h0 : Nat) (r0 : Nat → Nat) (I_0_isFound : Int32) (I_0_foundB : Int32) (I_0_changes : Int32) (I_0_taped : Int32) (I_0_size : Int32) (I_0_at : Int32) (I_0_signs : Int32) (I_0_wanted : Int32) (I_0_sign : Int32) (I_0_isKept : Int32) (I_0_keptFound : Int32) (I_0_keptB : Int32) (I_0_keptChanges : Int32) (A_0_10_table : (Nat → Int32)) (x1 : Int32) (x2 : Int32) (x3 : Int32) (sz : Nat) (K : (Nat → Int32) → Prop) (h : wp_X12_reduces x1 x2 x3 A_0_10_table K) : Met l yX12_reduces wsX12_reduces rm_X12_reduces (va_Pc [.ref h0, .int x1, .int x2, .int x3] (WX D cI cJ cZ [(h0, .inr (11, oX12 r0 I_0_isFound I_0_foundB I_0_changes I_0_taped I_0_size I_0_at I_0_signs I_0_wanted I_0_sign I_0_isKept I_0_keptFound I_0_keptB I_0_keptChanges)), ((r0 10), .inl (cI, 18900, .inl A_0_10_table))] sz)) (va_Qv (fun (u : (Nat → Int32)) => K u) (fun (u : (Nat → Int32)) t => WY D (va_A [(h0, .inr (11, oX12 r0 I_0_isFound I_0_foundB I_0_changes I_0_taped I_0_size I_0_at I_0_signs I_0_wanted I_0_sign I_0_isKept I_0_keptFound I_0_keptB I_0_keptChanges)), ((r0 10), .inl (cI, 18900, .inl A_0_10_table))] sz) [(h0, .inr (11, oX12 r0 I_0_isFound I_0_foundB I_0_changes I_0_taped I_0_size I_0_at I_0_signs I_0_wanted I_0_sign I_0_isKept I_0_keptFound I_0_keptB I_0_keptChanges)), ((r0 10), .inl (cI, 18900, .inl u))] t) (va_A [(h0, .inr (11, oX12 r0 I_0_isFound I_0_foundB I_0_changes I_0_taped I_0_size I_0_at I_0_signs I_0_wanted I_0_sign I_0_isKept I_0_keptFound I_0_keptB I_0_keptChanges)), ((r0 10), .inl (cI, 18900, .inl A_0_10_table))] sz)) 0 0 (va_A [(h0, .inr (11, oX12 r0 I_0_isFound I_0_foundB I_0_changes I_0_taped I_0_size I_0_at I_0_signs I_0_wanted I_0_sign I_0_isKept I_0_keptFound I_0_keptB I_0_keptChanges)), ((r0 10), .inl (cI, 18900, .inl A_0_10_table))] sz) := by
  refine m_met (own := RX12) (cc := cX12_reduces) (maxL := 8) (ret := none) [.ref h0, .int x1, .int x2, .int x3] [(0, .ref h0), (1, .int x1), (2, .int x2), (3, .int x3)] (by decide) rfl rfl (Nat.le_of_ble_eq_true rfl) rfl ?_
  intro p e s m args below meth c Q A hQ hA C0 hr hnm hsz hM ls hl
  have hx := C0.1
  have hb := C0.2.1
  have hown := C0.2.2.2.1
  have lq65 : ∀ (k65 : Nat) (x5 : Int32) (A_0_10_table : (Nat → Int32)) (H : Heap) (locs : List Loc) (ls : Array Slot) , lp_X12_reduces_65 x1 x2 x3 K k65 x5 A_0_10_table → MW D A s.heap [(h0, .inr (11, oX12 r0 I_0_isFound I_0_foundB I_0_changes I_0_taped I_0_size I_0_at I_0_signs I_0_wanted I_0_sign I_0_isKept I_0_keptFound I_0_keptB I_0_keptChanges)), ((r0 10), .inl (cI, 18900, .inl A_0_10_table))] H locs → lv_has ls 8 [(0, .ref h0), (1, .int x1), (2, .int x2), (3, .int x3), (5, .int x5)] → W p l e rm_X12_reduces s m args below meth c H locs 0 0 Q (F0 m 65 ls []) := by
    intro k65
    induction k65 with
    | zero =>
      intro x5 A_0_10_table H locs ls h
      unfold lp_X12_reduces_65 at h
      exact h.elim
    | succ k65 ih65 =>
      have jq166 : ∀ (x5 : Int32) (A_0_10_table : (Nat → Int32)) (H : Heap) (locs : List Loc) (ls : Array Slot) , jn_X12_reduces_166 x1 x2 x3 (fun x5 A_0_10_table => lp_X12_reduces_65 x1 x2 x3 K k65 x5 A_0_10_table) K x5 A_0_10_table → MW D A s.heap [(h0, .inr (11, oX12 r0 I_0_isFound I_0_foundB I_0_changes I_0_taped I_0_size I_0_at I_0_signs I_0_wanted I_0_sign I_0_isKept I_0_keptFound I_0_keptB I_0_keptChanges)), ((r0 10), .inl (cI, 18900, .inl A_0_10_table))] H locs → lv_has ls 8 [(0, .ref h0), (1, .int x1), (2, .int x2), (3, .int x3), (5, .int x5)] → W p l e rm_X12_reduces s m args below meth c H locs 0 0 Q (F0 m 166 ls []) := by
        intro x5 A_0_10_table H locs ls h hM hl
        unfold jn_X12_reduces_166 at h
        refine lv_iinc (v := (x5 + (1 : Int32))) (lv' := [(5, .int (x5 + (1 : Int32))), (0, .ref h0), (1, .int x1), (2, .int x2), (3, .int x3)]) hx hb dX12_reduces_166 hl (k := 4) rfl rfl (by decide) rfl (fun ls hl => ?_)
        refine lv_goto (tgt := 65) hx hb dX12_reduces_169 (by decide) ?_
        exact ih65 _ _ _ _ _ h hM (lv_sub hl [1, 2, 3, 4, 0] rfl)
      have lq100 : ∀ (k100 : Nat) (x5 : Int32) (x6 : Int32) (x7 : Int32) (A_0_10_table : (Nat → Int32)) (H : Heap) (locs : List Loc) (ls : Array Slot) , lp_X12_reduces_100 x1 x2 x3 (jn_X12_reduces_166 x1 x2 x3 (fun x5 A_0_10_table => lp_X12_reduces_65 x1 x2 x3 K k65 x5 A_0_10_table) K) K k100 x5 x6 x7 A_0_10_table → MW D A s.heap [(h0, .inr (11, oX12 r0 I_0_isFound I_0_foundB I_0_changes I_0_taped I_0_size I_0_at I_0_signs I_0_wanted I_0_sign I_0_isKept I_0_keptFound I_0_keptB I_0_keptChanges)), ((r0 10), .inl (cI, 18900, .inl A_0_10_table))] H locs → lv_has ls 8 [(0, .ref h0), (1, .int x1), (2, .int x2), (3, .int x3), (5, .int x5), (6, .int x6), (7, .int x7)] → W p l e rm_X12_reduces s m args below meth c H locs 0 0 Q (F0 m 100 ls []) := by
        intro k100
        induction k100 with
        | zero =>
          intro x5 x6 x7 A_0_10_table H locs ls h
          unfold lp_X12_reduces_100 at h
          exact h.elim
        | succ k100 ih100 =>
          intro x5 x6 x7 A_0_10_table H locs ls h hM hl
          unfold lp_X12_reduces_100 at h
          refine lv_iload hx hb dX12_reduces_100 (lv_at hl 6 rfl) ?_
          refine lv_iload_n hx hb dX12_reduces_102 rfl (lv_at hl 3 rfl) ?_
          refine lv_icmp_ge (tgt := 166) hx hb dX12_reduces_103 (by decide) (fun hq => ?_) (fun hq => ?_)
          · have h := h.1 hq
            exact jq166 _ _ _ _ _ h hM (lv_sub hl [0, 1, 2, 3, 4] rfl)
          · have h := h.2 hq
            refine lv_iload hx hb dX12_reduces_106 (lv_at hl 5 rfl) ?_
            refine lv_if_le (tgt := 166) hx hb dX12_reduces_108 (by decide) (fun hq => ?_) (fun hq => ?_)
            · have h := h.1 hq
              exact jq166 _ _ _ _ _ h hM (lv_sub hl [0, 1, 2, 3, 4] rfl)
            · have h := h.2 hq
              refine lv_aload_n hx hb dX12_reduces_111 rfl (lv_at hl 0 rfl) ?_
              refine m_get (C := RX12) (T := TX12) (N := 45) (ci := 11) (ref := "LoweredPowersModel") (v := .ref (r0 10)) C0 hM 0 rfl rfl kt_X12_reduces_X12 10 (by decide) kw_X12_reduces_1 rfl rfl dX12_reduces_112 ?_
              refine lv_bipush (v := (84 : Int32)) hx hb dX12_reduces_115 (by decide) ?_
              refine lv_iload hx hb dX12_reduces_117 (lv_at hl 4 rfl) ?_
              refine lv_imul hx hb dX12_reduces_119 ?_
              refine lv_iload hx hb dX12_reduces_120 (lv_at hl 6 rfl) ?_
              refine lv_iadd hx hb dX12_reduces_122 ?_
              refine lv_aload_n hx hb dX12_reduces_123 rfl (lv_at hl 0 rfl) ?_
              refine m_get (C := RX12) (T := TX12) (N := 45) (ci := 11) (ref := "LoweredPowersModel") (v := .ref (r0 10)) C0 hM 0 rfl rfl kt_X12_reduces_X12 10 (by decide) kw_X12_reduces_1 rfl rfl dX12_reduces_124 ?_
              refine lv_bipush (v := (84 : Int32)) hx hb dX12_reduces_127 (by decide) ?_
              refine lv_iload hx hb dX12_reduces_129 (lv_at hl 4 rfl) ?_
              refine lv_imul hx hb dX12_reduces_131 ?_
              refine lv_iload hx hb dX12_reduces_132 (lv_at hl 6 rfl) ?_
              refine lv_iadd hx hb dX12_reduces_134 ?_
              obtain ⟨hc1, h⟩ := h
              refine m_iald C0 hM 1 rfl hc1 dX12_reduces_135 ?_
              refine lv_iload hx hb dX12_reduces_136 (lv_at hl 5 rfl) ?_
              refine lv_aload_n hx hb dX12_reduces_138 rfl (lv_at hl 0 rfl) ?_
              refine m_get (C := RX12) (T := TX12) (N := 45) (ci := 11) (ref := "LoweredPowersModel") (v := .ref (r0 10)) C0 hM 0 rfl rfl kt_X12_reduces_X12 10 (by decide) kw_X12_reduces_1 rfl rfl dX12_reduces_139 ?_
              refine lv_bipush (v := (84 : Int32)) hx hb dX12_reduces_142 (by decide) ?_
              refine lv_iload_n hx hb dX12_reduces_144 rfl (lv_at hl 1 rfl) ?_
              refine lv_imul hx hb dX12_reduces_145 ?_
              refine lv_iload hx hb dX12_reduces_146 (lv_at hl 6 rfl) ?_
              refine lv_iadd hx hb dX12_reduces_148 ?_
              obtain ⟨hc2, h⟩ := h
              refine m_iald C0 hM 1 rfl hc2 dX12_reduces_149 ?_
              refine lv_imul hx hb dX12_reduces_150 ?_
              refine lv_sipush (v := (10007 : Int32)) hx hb dX12_reduces_151 (by decide) ?_
              refine lv_irem hx hb dX12_reduces_154 (by decide) ?_
              refine lv_topi (fun y3 ey3 => ?_)
              have h := h y3 ey3
              refine lv_isub hx hb dX12_reduces_155 ?_
              refine m_calli (wc := []) C0 hM [] rfl (m_runS (wc := []) (As := [.int ((A_0_10_table ((((84 : Int32) * x5) + x7)).toNatClampNeg) - y3)]) (rest := [.int (((84 : Int32) * x5) + x7), .ref (r0 10)]) C0 hM (ct_X12_modulo l D cI cJ cZ ((A_0_10_table ((((84 : Int32) * x5) + x7)).toNatClampNeg) - y3) _ _ h) [] rfl (by decide) gX12_reduces_X12_modulo rfl rfl rfl hd_X12_modulo ⟨Nat.le_of_ble_eq_true rfl, Nat.le_of_ble_eq_true rfl⟩ rfl hl.1 rfl (Nat.le_of_ble_eq_true rfl) dX12_reduces_156 ⟨Nat.le_of_ble_eq_true rfl, Nat.le_of_ble_eq_true rfl⟩) (fun _ => [(h0, .inr (11, oX12 r0 I_0_isFound I_0_foundB I_0_changes I_0_taped I_0_size I_0_at I_0_signs I_0_wanted I_0_sign I_0_isKept I_0_keptFound I_0_keptB I_0_keptChanges)), ((r0 10), .inl (cI, 18900, .inl A_0_10_table))]) (fun _ => rfl) (fun _ => rfl) (fun y4 _ H locs h hM => ?_)
              refine m_iast (ws' := [(h0, .inr (11, oX12 r0 I_0_isFound I_0_foundB I_0_changes I_0_taped I_0_size I_0_at I_0_signs I_0_wanted I_0_sign I_0_isKept I_0_keptFound I_0_keptB I_0_keptChanges)), ((r0 10), .inl (cI, 18900, .inl (upd A_0_10_table ((((84 : Int32) * x5) + x7)).toNatClampNeg y4)))]) C0 hM 1 rfl hc1 rfl dX12_reduces_159 (fun H locs hM => ?_)
              refine lv_iinc (v := (x7 + (1 : Int32))) (lv' := [(7, .int (x7 + (1 : Int32))), (0, .ref h0), (1, .int x1), (2, .int x2), (3, .int x3), (5, .int x5), (6, .int x6)]) hx hb dX12_reduces_160 hl (k := 6) rfl rfl (by decide) rfl (fun ls hl => ?_)
              refine lv_goto (tgt := 100) hx hb dX12_reduces_163 (by decide) ?_
              exact ih100 _ _ _ _ _ _ _ h hM (lv_sub hl [1, 2, 3, 4, 5, 6, 0] rfl)
      have jq95 : ∀ (x5 : Int32) (s0 : Int32) (A_0_10_table : (Nat → Int32)) (H : Heap) (locs : List Loc) (ls : Array Slot) , jn_X12_reduces_95 x1 x2 x3 (fun x5 A_0_10_table => lp_X12_reduces_65 x1 x2 x3 K k65 x5 A_0_10_table) K x5 s0 A_0_10_table → MW D A s.heap [(h0, .inr (11, oX12 r0 I_0_isFound I_0_foundB I_0_changes I_0_taped I_0_size I_0_at I_0_signs I_0_wanted I_0_sign I_0_isKept I_0_keptFound I_0_keptB I_0_keptChanges)), ((r0 10), .inl (cI, 18900, .inl A_0_10_table))] H locs → lv_has ls 8 [(0, .ref h0), (1, .int x1), (2, .int x2), (3, .int x3), (5, .int x5)] → W p l e rm_X12_reduces s m args below meth c H locs 0 0 Q (F0 m 95 ls [.int s0]) := by
        intro x5 s0 A_0_10_table H locs ls h hM hl
        unfold jn_X12_reduces_95 at h
        refine lv_istore (lv' := [(6, .int s0), (0, .ref h0), (1, .int x1), (2, .int x2), (3, .int x3), (5, .int x5)]) hx hb dX12_reduces_95 hl (by decide) rfl (fun ls hl => ?_)
        refine lv_iload_n hx hb dX12_reduces_97 rfl (lv_at hl 3 rfl) ?_
        refine lv_istore (lv' := [(7, .int x2), (6, .int s0), (0, .ref h0), (1, .int x1), (2, .int x2), (3, .int x3), (5, .int x5)]) hx hb dX12_reduces_98 hl (by decide) rfl (fun ls hl => ?_)
        obtain ⟨k0, h⟩ := h
        exact lq100 k0 _ _ _ _ _ _ _ h hM (lv_sub hl [2, 3, 4, 5, 6, 1, 0] rfl)
      intro x5 A_0_10_table H locs ls h hM hl
      unfold lp_X12_reduces_65 at h
      refine lv_iload hx hb dX12_reduces_65 (lv_at hl 4 rfl) ?_
      refine lv_sipush (v := (225 : Int32)) hx hb dX12_reduces_67 (by decide) ?_
      refine lv_icmp_ge (tgt := 172) hx hb dX12_reduces_70 (by decide) (fun hq => ?_) (fun hq => ?_)
      · have h := h.1 hq
        subst hsz; subst hA; subst hQ
        exact m_vret C0 hr hM A_0_10_table h rfl dX12_reduces_172
      · have h := h.2 hq
        refine lv_iload hx hb dX12_reduces_73 (lv_at hl 4 rfl) ?_
        refine lv_iload_n hx hb dX12_reduces_75 rfl (lv_at hl 1 rfl) ?_
        refine lv_icmp_ne (tgt := 83) hx hb dX12_reduces_76 (by decide) (fun hq => ?_) (fun hq => ?_)
        · have h := h.1 hq
          refine lv_aload_n hx hb dX12_reduces_83 rfl (lv_at hl 0 rfl) ?_
          refine m_get (C := RX12) (T := TX12) (N := 45) (ci := 11) (ref := "LoweredPowersModel") (v := .ref (r0 10)) C0 hM 0 rfl rfl kt_X12_reduces_X12 10 (by decide) kw_X12_reduces_1 rfl rfl dX12_reduces_84 ?_
          refine lv_bipush (v := (84 : Int32)) hx hb dX12_reduces_87 (by decide) ?_
          refine lv_iload hx hb dX12_reduces_89 (lv_at hl 4 rfl) ?_
          refine lv_imul hx hb dX12_reduces_91 ?_
          refine lv_iload_n hx hb dX12_reduces_92 rfl (lv_at hl 2 rfl) ?_
          refine lv_iadd hx hb dX12_reduces_93 ?_
          obtain ⟨hc5, h⟩ := h
          refine m_iald C0 hM 1 rfl hc5 dX12_reduces_94 ?_
          exact jq95 _ _ _ _ _ _ h hM (lv_sub hl [0, 1, 2, 3, 4] rfl)
        · have h := h.2 hq
          refine lv_iconst (v := (0 : Int32)) hx hb dX12_reduces_79 (by decide) ?_
          refine lv_goto (tgt := 95) hx hb dX12_reduces_80 (by decide) ?_
          exact jq95 _ _ _ _ _ _ h hM (lv_sub hl [0, 1, 2, 3, 4] rfl)
  have jq62 : ∀ (A_0_10_table : (Nat → Int32)) (H : Heap) (locs : List Loc) (ls : Array Slot) , jn_X12_reduces_62 x1 x2 x3 K A_0_10_table → MW D A s.heap [(h0, .inr (11, oX12 r0 I_0_isFound I_0_foundB I_0_changes I_0_taped I_0_size I_0_at I_0_signs I_0_wanted I_0_sign I_0_isKept I_0_keptFound I_0_keptB I_0_keptChanges)), ((r0 10), .inl (cI, 18900, .inl A_0_10_table))] H locs → lv_has ls 8 [(0, .ref h0), (1, .int x1), (2, .int x2), (3, .int x3)] → W p l e rm_X12_reduces s m args below meth c H locs 0 0 Q (F0 m 62 ls []) := by
    intro A_0_10_table H locs ls h hM hl
    unfold jn_X12_reduces_62 at h
    refine lv_iconst (v := (0 : Int32)) hx hb dX12_reduces_62 (by decide) ?_
    refine lv_istore (lv' := [(5, .int (0 : Int32)), (0, .ref h0), (1, .int x1), (2, .int x2), (3, .int x3)]) hx hb dX12_reduces_63 hl (by decide) rfl (fun ls hl => ?_)
    obtain ⟨k0, h⟩ := h
    exact lq65 k0 _ _ _ _ _ h hM (lv_sub hl [1, 2, 3, 4, 0] rfl)
  have lq19 : ∀ (k19 : Nat) (x4 : Int32) (x5 : Int32) (A_0_10_table : (Nat → Int32)) (H : Heap) (locs : List Loc) (ls : Array Slot) , lp_X12_reduces_19 x1 x2 x3 (jn_X12_reduces_62 x1 x2 x3 K) K k19 x4 x5 A_0_10_table → MW D A s.heap [(h0, .inr (11, oX12 r0 I_0_isFound I_0_foundB I_0_changes I_0_taped I_0_size I_0_at I_0_signs I_0_wanted I_0_sign I_0_isKept I_0_keptFound I_0_keptB I_0_keptChanges)), ((r0 10), .inl (cI, 18900, .inl A_0_10_table))] H locs → lv_has ls 8 [(0, .ref h0), (1, .int x1), (2, .int x2), (3, .int x3), (4, .int x4), (5, .int x5)] → W p l e rm_X12_reduces s m args below meth c H locs 0 0 Q (F0 m 19 ls []) := by
    intro k19
    induction k19 with
    | zero =>
      intro x4 x5 A_0_10_table H locs ls h
      unfold lp_X12_reduces_19 at h
      exact h.elim
    | succ k19 ih19 =>
      intro x4 x5 A_0_10_table H locs ls h hM hl
      unfold lp_X12_reduces_19 at h
      refine lv_iload hx hb dX12_reduces_19 (lv_at hl 5 rfl) ?_
      refine lv_iload_n hx hb dX12_reduces_21 rfl (lv_at hl 3 rfl) ?_
      refine lv_icmp_ge (tgt := 62) hx hb dX12_reduces_22 (by decide) (fun hq => ?_) (fun hq => ?_)
      · have h := h.1 hq
        exact jq62 _ _ _ _ h hM (lv_sub hl [0, 1, 2, 3] rfl)
      · have h := h.2 hq
        refine lv_aload_n hx hb dX12_reduces_25 rfl (lv_at hl 0 rfl) ?_
        refine m_get (C := RX12) (T := TX12) (N := 45) (ci := 11) (ref := "LoweredPowersModel") (v := .ref (r0 10)) C0 hM 0 rfl rfl kt_X12_reduces_X12 10 (by decide) kw_X12_reduces_1 rfl rfl dX12_reduces_26 ?_
        refine lv_bipush (v := (84 : Int32)) hx hb dX12_reduces_29 (by decide) ?_
        refine lv_iload_n hx hb dX12_reduces_31 rfl (lv_at hl 1 rfl) ?_
        refine lv_imul hx hb dX12_reduces_32 ?_
        refine lv_iload hx hb dX12_reduces_33 (lv_at hl 5 rfl) ?_
        refine lv_iadd hx hb dX12_reduces_35 ?_
        refine lv_aload_n hx hb dX12_reduces_36 rfl (lv_at hl 0 rfl) ?_
        refine m_get (C := RX12) (T := TX12) (N := 45) (ci := 11) (ref := "LoweredPowersModel") (v := .ref (r0 10)) C0 hM 0 rfl rfl kt_X12_reduces_X12 10 (by decide) kw_X12_reduces_1 rfl rfl dX12_reduces_37 ?_
        refine lv_bipush (v := (84 : Int32)) hx hb dX12_reduces_40 (by decide) ?_
        refine lv_iload_n hx hb dX12_reduces_42 rfl (lv_at hl 1 rfl) ?_
        refine lv_imul hx hb dX12_reduces_43 ?_
        refine lv_iload hx hb dX12_reduces_44 (lv_at hl 5 rfl) ?_
        refine lv_iadd hx hb dX12_reduces_46 ?_
        obtain ⟨hc6, h⟩ := h
        refine m_iald C0 hM 1 rfl hc6 dX12_reduces_47 ?_
        refine lv_iload hx hb dX12_reduces_48 (lv_at hl 4 rfl) ?_
        refine lv_imul hx hb dX12_reduces_50 ?_
        refine lv_sipush (v := (10007 : Int32)) hx hb dX12_reduces_51 (by decide) ?_
        refine lv_irem hx hb dX12_reduces_54 (by decide) ?_
        refine lv_topi (fun y7 ey7 => ?_)
        have h := h y7 ey7
        refine m_iast (ws' := [(h0, .inr (11, oX12 r0 I_0_isFound I_0_foundB I_0_changes I_0_taped I_0_size I_0_at I_0_signs I_0_wanted I_0_sign I_0_isKept I_0_keptFound I_0_keptB I_0_keptChanges)), ((r0 10), .inl (cI, 18900, .inl (upd A_0_10_table ((((84 : Int32) * x1) + x5)).toNatClampNeg y7)))]) C0 hM 1 rfl hc6 rfl dX12_reduces_55 (fun H locs hM => ?_)
        refine lv_iinc (v := (x5 + (1 : Int32))) (lv' := [(5, .int (x5 + (1 : Int32))), (0, .ref h0), (1, .int x1), (2, .int x2), (3, .int x3), (4, .int x4)]) hx hb dX12_reduces_56 hl (k := 5) rfl rfl (by decide) rfl (fun ls hl => ?_)
        refine lv_goto (tgt := 19) hx hb dX12_reduces_59 (by decide) ?_
        exact ih19 _ _ _ _ _ _ h hM (lv_sub hl [1, 2, 3, 4, 5, 0] rfl)
  unfold wp_X12_reduces at h
  refine lv_aload_n hx hb dX12_reduces_0 rfl (lv_at hl 0 rfl) ?_
  refine m_get (C := RX12) (T := TX12) (N := 45) (ci := 11) (ref := "LoweredPowersModel") (v := .ref (r0 10)) C0 hM 0 rfl rfl kt_X12_reduces_X12 10 (by decide) kw_X12_reduces_1 rfl rfl dX12_reduces_1 ?_
  refine lv_bipush (v := (84 : Int32)) hx hb dX12_reduces_4 (by decide) ?_
  refine lv_iload_n hx hb dX12_reduces_6 rfl (lv_at hl 1 rfl) ?_
  refine lv_imul hx hb dX12_reduces_7 ?_
  refine lv_iload_n hx hb dX12_reduces_8 rfl (lv_at hl 2 rfl) ?_
  refine lv_iadd hx hb dX12_reduces_9 ?_
  obtain ⟨hc8, h⟩ := h
  refine m_iald C0 hM 1 rfl hc8 dX12_reduces_10 ?_
  refine m_calli (wc := []) C0 hM [] rfl (m_runS (wc := []) (As := [.int (A_0_10_table ((((84 : Int32) * x1) + x2)).toNatClampNeg)]) (rest := []) C0 hM (ct_X12_inverse l D cI cJ cZ (A_0_10_table ((((84 : Int32) * x1) + x2)).toNatClampNeg) _ _ h) [] rfl (by decide) gX12_reduces_X12_inverse rfl rfl rfl hd_X12_inverse ⟨Nat.le_of_ble_eq_true rfl, Nat.le_of_ble_eq_true rfl⟩ rfl hl.1 rfl (Nat.le_of_ble_eq_true rfl) dX12_reduces_11 ⟨Nat.le_of_ble_eq_true rfl, Nat.le_of_ble_eq_true rfl⟩) (fun _ => [(h0, .inr (11, oX12 r0 I_0_isFound I_0_foundB I_0_changes I_0_taped I_0_size I_0_at I_0_signs I_0_wanted I_0_sign I_0_isKept I_0_keptFound I_0_keptB I_0_keptChanges)), ((r0 10), .inl (cI, 18900, .inl A_0_10_table))]) (fun _ => rfl) (fun _ => rfl) (fun y9 _ H locs h hM => ?_)
  refine lv_istore (lv' := [(4, .int y9), (0, .ref h0), (1, .int x1), (2, .int x2), (3, .int x3)]) hx hb dX12_reduces_14 hl (by decide) rfl (fun ls hl => ?_)
  refine lv_iload_n hx hb dX12_reduces_16 rfl (lv_at hl 3 rfl) ?_
  refine lv_istore (lv' := [(5, .int x2), (4, .int y9), (0, .ref h0), (1, .int x1), (2, .int x2), (3, .int x3)]) hx hb dX12_reduces_17 hl (by decide) rfl (fun ls hl => ?_)
  obtain ⟨k0, h⟩ := h
  exact lq19 k0 _ _ _ _ _ _ h hM (lv_sub hl [2, 3, 4, 5, 1, 0] rfl)
