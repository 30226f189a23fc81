theorem hd_X12_moves : yX12_moves.cls = RX12 ∧ yX12_moves.cls ≠ "java/lang/invoke/MethodHandle" ∧ yX12_moves.cls ≠ "java/lang/invoke/VarHandle" ∧ (parseMethodDescriptor yX12_moves.desc).map (fun d => d.parameters.length) = some 1 := by decide +kernel
theorem hd_X12_alters : yX12_alters.cls = RX12 ∧ yX12_alters.cls ≠ "java/lang/invoke/MethodHandle" ∧ yX12_alters.cls ≠ "java/lang/invoke/VarHandle" ∧ (parseMethodDescriptor yX12_alters.desc).map (fun d => d.parameters.length) = some 2 := by decide +kernel
theorem hd_X12_planned : yX12_planned.cls = RX12 ∧ yX12_planned.cls ≠ "java/lang/invoke/MethodHandle" ∧ yX12_planned.cls ≠ "java/lang/invoke/VarHandle" ∧ (parseMethodDescriptor yX12_planned.desc).map (fun d => d.parameters.length) = some 0 := by decide +kernel
theorem hd_X12_run : yX12_run.cls = RX12 ∧ yX12_run.cls ≠ "java/lang/invoke/MethodHandle" ∧ yX12_run.cls ≠ "java/lang/invoke/VarHandle" ∧ (parseMethodDescriptor yX12_run.desc).map (fun d => d.parameters.length) = some 0 := by decide +kernel
theorem hd_X12_ahead : yX12_ahead.cls = RX12 ∧ yX12_ahead.cls ≠ "java/lang/invoke/MethodHandle" ∧ yX12_ahead.cls ≠ "java/lang/invoke/VarHandle" ∧ (parseMethodDescriptor yX12_ahead.desc).map (fun d => d.parameters.length) = some 1 := by decide +kernel
theorem hd_X12_isRack : yX12_isRack.cls ≠ "java/lang/invoke/MethodHandle" ∧ yX12_isRack.cls ≠ "java/lang/invoke/VarHandle" ∧ (parseMethodDescriptor yX12_isRack.desc).map (fun d => d.parameters.length) = some 1 := by decide +kernel
theorem hd_X12_rack : yX12_rack.cls = RX12 ∧ yX12_rack.cls ≠ "java/lang/invoke/MethodHandle" ∧ yX12_rack.cls ≠ "java/lang/invoke/VarHandle" ∧ (parseMethodDescriptor yX12_rack.desc).map (fun d => d.parameters.length) = some 3 := by decide +kernel
theorem hd_X12_store : yX12_store.cls = RX12 ∧ yX12_store.cls ≠ "java/lang/invoke/MethodHandle" ∧ yX12_store.cls ≠ "java/lang/invoke/VarHandle" ∧ (parseMethodDescriptor yX12_store.desc).map (fun d => d.parameters.length) = some 4 := by decide +kernel
theorem hd_X12_thing : yX12_thing.cls = RX12 ∧ yX12_thing.cls ≠ "java/lang/invoke/MethodHandle" ∧ yX12_thing.cls ≠ "java/lang/invoke/VarHandle" ∧ (parseMethodDescriptor yX12_thing.desc).map (fun d => d.parameters.length) = some 2 := by decide +kernel
theorem hd_X12_copied : yX12_copied.cls = RX12 ∧ yX12_copied.cls ≠ "java/lang/invoke/MethodHandle" ∧ yX12_copied.cls ≠ "java/lang/invoke/VarHandle" ∧ (parseMethodDescriptor yX12_copied.desc).map (fun d => d.parameters.length) = some 2 := by decide +kernel
theorem hd_X12_feed : yX12_feed.cls = RX12 ∧ yX12_feed.cls ≠ "java/lang/invoke/MethodHandle" ∧ yX12_feed.cls ≠ "java/lang/invoke/VarHandle" ∧ (parseMethodDescriptor yX12_feed.desc).map (fun d => d.parameters.length) = some 1 := by decide +kernel
theorem hd_X12_wipe : yX12_wipe.cls = RX12 ∧ yX12_wipe.cls ≠ "java/lang/invoke/MethodHandle" ∧ yX12_wipe.cls ≠ "java/lang/invoke/VarHandle" ∧ (parseMethodDescriptor yX12_wipe.desc).map (fun d => d.parameters.length) = some 0 := by decide +kernel
theorem kt_X12_ahead_X12 : ∀ w ∈ u_ws RX12 TX12 45, w ∈ wsX12_ahead := fun _ h => List.mem_cons_of_mem _ (List.mem_append_right _ (h))
theorem kt_X12_alters_X12 : ∀ w ∈ u_ws RX12 TX12 45, w ∈ wsX12_alters := fun _ h => List.mem_cons_of_mem _ (List.mem_append_right _ (h))
theorem kt_X12_copied_X12 : ∀ w ∈ u_ws RX12 TX12 45, w ∈ wsX12_copied := fun _ h => List.mem_cons_of_mem _ (List.mem_append_right _ (h))
theorem kt_X12_feed_X12 : ∀ w ∈ u_ws RX12 TX12 45, w ∈ wsX12_feed := fun _ h => List.mem_cons_of_mem _ (List.mem_append_right _ (h))
theorem kt_X12_moves_X12 : ∀ w ∈ u_ws RX12 TX12 45, w ∈ wsX12_moves := fun _ h => List.mem_cons_of_mem _ (List.mem_append_right _ (h))
theorem kt_X12_planned_X12 : ∀ w ∈ u_ws RX12 TX12 45, w ∈ wsX12_planned := fun _ h => List.mem_cons_of_mem _ (List.mem_append_right _ (h))
theorem kt_X12_rack_X12 : ∀ w ∈ u_ws RX12 TX12 45, w ∈ wsX12_rack := fun _ h => List.mem_cons_of_mem _ (List.mem_append_right _ (h))
theorem kt_X12_run_X12 : ∀ w ∈ u_ws RX12 TX12 45, w ∈ wsX12_run := fun _ h => List.mem_cons_of_mem _ (List.mem_append_right _ (h))
theorem kt_X12_store_X12 : ∀ w ∈ u_ws RX12 TX12 45, w ∈ wsX12_store := fun _ h => List.mem_cons_of_mem _ (List.mem_append_right _ (h))
theorem kt_X12_thing_X12 : ∀ w ∈ u_ws RX12 TX12 45, w ∈ wsX12_thing := fun _ h => List.mem_cons_of_mem _ (List.mem_append_right _ (h))
theorem kt_X12_wipe_X12 : ∀ w ∈ u_ws RX12 TX12 45, w ∈ wsX12_wipe := fun _ h => List.mem_cons_of_mem _ (List.mem_append_right _ (h))
theorem kw_X12_moves_1 : Cond.fieldLink RX12 63 "LoweredPowersModel" "moved" "[I" ∈ wsX12_moves := List.mem_of_getElem? (i := 1) rfl
theorem kw_X12_moves_2 : Cond.fieldLink RX12 60 "LoweredPowersModel" "mind" "[I" ∈ wsX12_moves := List.mem_of_getElem? (i := 2) rfl
theorem kw_X12_alters_2 : Cond.fieldLink RX12 60 "LoweredPowersModel" "mind" "[I" ∈ wsX12_alters := List.mem_of_getElem? (i := 2) rfl
theorem kw_X12_alters_1 : Cond.fieldLink RX12 63 "LoweredPowersModel" "moved" "[I" ∈ wsX12_alters := List.mem_of_getElem? (i := 1) rfl
theorem kw_X12_planned_3 : Cond.fieldLink RX12 252 "LoweredPowersModel" "changes" "I" ∈ wsX12_planned := List.mem_of_getElem? (i := 3) rfl
theorem kw_X12_planned_4 : Cond.fieldLink RX12 54 "LoweredPowersModel" "changeWhats" "[I" ∈ wsX12_planned := List.mem_of_getElem? (i := 4) rfl
theorem kw_X12_planned_5 : Cond.fieldLink RX12 57 "LoweredPowersModel" "changeVs" "[I" ∈ wsX12_planned := List.mem_of_getElem? (i := 5) rfl
theorem kw_X12_planned_1 : Cond.fieldLink RX12 60 "LoweredPowersModel" "mind" "[I" ∈ wsX12_planned := List.mem_of_getElem? (i := 1) rfl
theorem kw_X12_planned_2 : Cond.fieldLink RX12 9 "LoweredPowersModel" "f" "[I" ∈ wsX12_planned := List.mem_of_getElem? (i := 2) rfl
theorem kw_X12_run_1 : Cond.fieldLink RX12 9 "LoweredPowersModel" "f" "[I" ∈ wsX12_run := List.mem_of_getElem? (i := 1) rfl
theorem kw_X12_run_2 : Cond.fieldLink RX12 60 "LoweredPowersModel" "mind" "[I" ∈ wsX12_run := List.mem_of_getElem? (i := 2) rfl
theorem kw_X12_ahead_1 : Cond.fieldLink RX12 60 "LoweredPowersModel" "mind" "[I" ∈ wsX12_ahead := List.mem_of_getElem? (i := 1) rfl
theorem kw_X12_rack_3 : Cond.fieldLink RX12 75 "LoweredPowersModel" "areThere" "[Z" ∈ wsX12_rack := List.mem_of_getElem? (i := 3) rfl
theorem kw_X12_rack_1 : Cond.fieldLink RX12 66 "LoweredPowersModel" "rackKinds" "[I" ∈ wsX12_rack := List.mem_of_getElem? (i := 1) rfl
theorem kw_X12_rack_2 : Cond.fieldLink RX12 69 "LoweredPowersModel" "rackSizes" "[I" ∈ wsX12_rack := List.mem_of_getElem? (i := 2) rfl
theorem kw_X12_store_1 : Cond.fieldLink RX12 66 "LoweredPowersModel" "rackKinds" "[I" ∈ wsX12_store := List.mem_of_getElem? (i := 1) rfl
theorem kw_X12_store_2 : Cond.fieldLink RX12 69 "LoweredPowersModel" "rackSizes" "[I" ∈ wsX12_store := List.mem_of_getElem? (i := 2) rfl
theorem kw_X12_store_3 : Cond.fieldLink RX12 72 "LoweredPowersModel" "things" "[I" ∈ wsX12_store := List.mem_of_getElem? (i := 3) rfl
theorem kw_X12_store_4 : Cond.fieldLink RX12 75 "LoweredPowersModel" "areThere" "[Z" ∈ wsX12_store := List.mem_of_getElem? (i := 4) rfl
theorem kw_X12_thing_4 : Cond.constantLong RX12 268 (-9223372036854775808) ∈ wsX12_thing := List.mem_of_getElem? (i := 4) rfl
theorem kw_X12_thing_3 : Cond.fieldLink RX12 72 "LoweredPowersModel" "things" "[I" ∈ wsX12_thing := List.mem_of_getElem? (i := 3) rfl
theorem kw_X12_thing_1 : Cond.fieldLink RX12 69 "LoweredPowersModel" "rackSizes" "[I" ∈ wsX12_thing := List.mem_of_getElem? (i := 1) rfl
theorem kw_X12_thing_2 : Cond.fieldLink RX12 75 "LoweredPowersModel" "areThere" "[Z" ∈ wsX12_thing := List.mem_of_getElem? (i := 2) rfl
theorem kw_X12_copied_2 : Cond.fieldLink RX12 69 "LoweredPowersModel" "rackSizes" "[I" ∈ wsX12_copied := List.mem_of_getElem? (i := 2) rfl
theorem kw_X12_copied_3 : Cond.fieldLink RX12 72 "LoweredPowersModel" "things" "[I" ∈ wsX12_copied := List.mem_of_getElem? (i := 3) rfl
theorem kw_X12_copied_4 : Cond.fieldLink RX12 75 "LoweredPowersModel" "areThere" "[Z" ∈ wsX12_copied := List.mem_of_getElem? (i := 4) rfl
theorem kw_X12_copied_1 : Cond.fieldLink RX12 66 "LoweredPowersModel" "rackKinds" "[I" ∈ wsX12_copied := List.mem_of_getElem? (i := 1) rfl
theorem kw_X12_feed_1 : Cond.fieldLink RX12 270 "LoweredPowersModel" "taped" "I" ∈ wsX12_feed := List.mem_of_getElem? (i := 1) rfl
theorem kw_X12_feed_2 : Cond.fieldLink RX12 79 "LoweredPowersModel" "tape" "[I" ∈ wsX12_feed := List.mem_of_getElem? (i := 2) rfl
theorem kw_X12_wipe_1 : Cond.fieldLink RX12 270 "LoweredPowersModel" "taped" "I" ∈ wsX12_wipe := List.mem_of_getElem? (i := 1) rfl
abbrev rm_X12_moves : Room := { frames := 2, cells := 0, slots := 0, locals := 42 }
set_option maxRecDepth 100000 in
set_option maxHeartbeats 4000000 in
theorem ct_X12_moves (l : Launch) (D : va_G) (cI cJ cZ : ClassId) (h0 : Nat) (r0 : Nat → Nat) (I_0_isFound : Int32) (I_0_foundB : Int32) (I_0_changes : Int32) (I_0_taped : Int32) (I_0_size : Int32) (I_0_at : Int32) (I_0_signs : Int32) (I_0_wanted : Int32) (I_0_sign : Int32) (I_0_isKept : Int32) (I_0_keptFound : Int32) (I_0_keptB : Int32) (I_0_keptChanges : Int32) (A_0_19_mind : (Nat → Int32)) (A_0_20_moved : (Nat → Int32)) (x1 : Int32) (sz : Nat) (K : (Nat → Int32) → Prop) (h : wp_X12_moves x1 A_0_19_mind A_0_20_moved K) : Met l yX12_moves wsX12_moves rm_X12_moves (va_Pc [.ref h0, .int x1] (WX D cI cJ cZ [(h0, .inr (11, oX12 r0 I_0_isFound I_0_foundB I_0_changes I_0_taped I_0_size I_0_at I_0_signs I_0_wanted I_0_sign I_0_isKept I_0_keptFound I_0_keptB I_0_keptChanges)), ((r0 19), .inl (cI, 5, .inl A_0_19_mind)), ((r0 20), .inl (cI, 5, .inl A_0_20_moved))] sz)) (va_Qv (fun (u : (Nat → Int32)) => K u) (fun (u : (Nat → Int32)) t => WY D (va_A [(h0, .inr (11, oX12 r0 I_0_isFound I_0_foundB I_0_changes I_0_taped I_0_size I_0_at I_0_signs I_0_wanted I_0_sign I_0_isKept I_0_keptFound I_0_keptB I_0_keptChanges)), ((r0 19), .inl (cI, 5, .inl A_0_19_mind)), ((r0 20), .inl (cI, 5, .inl A_0_20_moved))] sz) [(h0, .inr (11, oX12 r0 I_0_isFound I_0_foundB I_0_changes I_0_taped I_0_size I_0_at I_0_signs I_0_wanted I_0_sign I_0_isKept I_0_keptFound I_0_keptB I_0_keptChanges)), ((r0 19), .inl (cI, 5, .inl A_0_19_mind)), ((r0 20), .inl (cI, 5, .inl u))] t) (va_A [(h0, .inr (11, oX12 r0 I_0_isFound I_0_foundB I_0_changes I_0_taped I_0_size I_0_at I_0_signs I_0_wanted I_0_sign I_0_isKept I_0_keptFound I_0_keptB I_0_keptChanges)), ((r0 19), .inl (cI, 5, .inl A_0_19_mind)), ((r0 20), .inl (cI, 5, .inl A_0_20_moved))] sz)) 0 0 (va_A [(h0, .inr (11, oX12 r0 I_0_isFound I_0_foundB I_0_changes I_0_taped I_0_size I_0_at I_0_signs I_0_wanted I_0_sign I_0_isKept I_0_keptFound I_0_keptB I_0_keptChanges)), ((r0 19), .inl (cI, 5, .inl A_0_19_mind)), ((r0 20), .inl (cI, 5, .inl A_0_20_moved))] sz) := by
  refine m_met (own := RX12) (cc := cX12_moves) (maxL := 4) (ret := none) [.ref h0, .int x1] [(0, .ref h0), (1, .int x1)] (by decide) rfl rfl (Nat.le_of_ble_eq_true rfl) rfl ?_
  intro p e s m args below meth c Q A hQ hA C0 hr hnm hsz hM ls hl
  have hx := C0.1
  have hb := C0.2.1
  have hown := C0.2.2.2.1
  have lq22 : ∀ (k22 : Nat) (x2 : Int32) (A_0_20_moved : (Nat → Int32)) (H : Heap) (locs : List Loc) (ls : Array Slot) , lp_X12_moves_22 x1 A_0_19_mind K k22 x2 A_0_20_moved → MW D A s.heap [(h0, .inr (11, oX12 r0 I_0_isFound I_0_foundB I_0_changes I_0_taped I_0_size I_0_at I_0_signs I_0_wanted I_0_sign I_0_isKept I_0_keptFound I_0_keptB I_0_keptChanges)), ((r0 19), .inl (cI, 5, .inl A_0_19_mind)), ((r0 20), .inl (cI, 5, .inl A_0_20_moved))] H locs → lv_has ls 4 [(0, .ref h0), (1, .int x1), (2, .int x2)] → W p l e rm_X12_moves s m args below meth c H locs 0 0 Q (F0 m 22 ls []) := by
    intro k22
    induction k22 with
    | zero =>
      intro x2 A_0_20_moved H locs ls h
      unfold lp_X12_moves_22 at h
      exact h.elim
    | succ k22 ih22 =>
      have jq84 : ∀ (x2 : Int32) (A_0_20_moved : (Nat → Int32)) (H : Heap) (locs : List Loc) (ls : Array Slot) , jn_X12_moves_84 x1 A_0_19_mind (fun x2 A_0_20_moved => lp_X12_moves_22 x1 A_0_19_mind K k22 x2 A_0_20_moved) K x2 A_0_20_moved → MW D A s.heap [(h0, .inr (11, oX12 r0 I_0_isFound I_0_foundB I_0_changes I_0_taped I_0_size I_0_at I_0_signs I_0_wanted I_0_sign I_0_isKept I_0_keptFound I_0_keptB I_0_keptChanges)), ((r0 19), .inl (cI, 5, .inl A_0_19_mind)), ((r0 20), .inl (cI, 5, .inl A_0_20_moved))] H locs → lv_has ls 4 [(0, .ref h0), (1, .int x1), (2, .int x2)] → W p l e rm_X12_moves s m args below meth c H locs 0 0 Q (F0 m 84 ls []) := by
        intro x2 A_0_20_moved H locs ls h hM hl
        unfold jn_X12_moves_84 at h
        refine lv_iinc (v := (x2 + (-1 : Int32))) (lv' := [(2, .int (x2 + (-1 : Int32))), (0, .ref h0), (1, .int x1)]) hx hb dX12_moves_84 hl (k := 2) rfl rfl (by decide) rfl (fun ls hl => ?_)
        refine lv_goto (tgt := 22) hx hb dX12_moves_87 (by decide) ?_
        exact ih22 _ _ _ _ _ h hM (lv_sub hl [1, 2, 0] rfl)
      have lq28 : ∀ (k28 : Nat) (x2 : Int32) (x3 : Int32) (A_0_20_moved : (Nat → Int32)) (H : Heap) (locs : List Loc) (ls : Array Slot) , lp_X12_moves_28 x1 A_0_19_mind (jn_X12_moves_84 x1 A_0_19_mind (fun x2 A_0_20_moved => lp_X12_moves_22 x1 A_0_19_mind K k22 x2 A_0_20_moved) K) K k28 x2 x3 A_0_20_moved → MW D A s.heap [(h0, .inr (11, oX12 r0 I_0_isFound I_0_foundB I_0_changes I_0_taped I_0_size I_0_at I_0_signs I_0_wanted I_0_sign I_0_isKept I_0_keptFound I_0_keptB I_0_keptChanges)), ((r0 19), .inl (cI, 5, .inl A_0_19_mind)), ((r0 20), .inl (cI, 5, .inl A_0_20_moved))] H locs → lv_has ls 4 [(0, .ref h0), (1, .int x1), (2, .int x2), (3, .int x3)] → W p l e rm_X12_moves s m args below meth c H locs 0 0 Q (F0 m 28 ls []) := by
        intro k28
        induction k28 with
        | zero =>
          intro x2 x3 A_0_20_moved H locs ls h
          unfold lp_X12_moves_28 at h
          exact h.elim
        | succ k28 ih28 =>
          have jq73 : ∀ (x2 : Int32) (x3 : Int32) (s1 : Int32) (s2 : Int32) (s3 : Int32) (A_0_20_moved : (Nat → Int32)) (H : Heap) (locs : List Loc) (ls : Array Slot) , jn_X12_moves_73 x1 A_0_19_mind (fun x2 x3 A_0_20_moved => lp_X12_moves_28 x1 A_0_19_mind (jn_X12_moves_84 x1 A_0_19_mind (fun x2 A_0_20_moved => lp_X12_moves_22 x1 A_0_19_mind K k22 x2 A_0_20_moved) K) K k28 x2 x3 A_0_20_moved) (jn_X12_moves_84 x1 A_0_19_mind (fun x2 A_0_20_moved => lp_X12_moves_22 x1 A_0_19_mind K k22 x2 A_0_20_moved) K) K x2 x3 s1 s2 s3 A_0_20_moved → MW D A s.heap [(h0, .inr (11, oX12 r0 I_0_isFound I_0_foundB I_0_changes I_0_taped I_0_size I_0_at I_0_signs I_0_wanted I_0_sign I_0_isKept I_0_keptFound I_0_keptB I_0_keptChanges)), ((r0 19), .inl (cI, 5, .inl A_0_19_mind)), ((r0 20), .inl (cI, 5, .inl A_0_20_moved))] H locs → lv_has ls 4 [(0, .ref h0), (1, .int x1), (2, .int x2), (3, .int x3)] → W p l e rm_X12_moves s m args below meth c H locs 0 0 Q (F0 m 73 ls [.int s3, .int s2, .int s1, .ref (r0 20)]) := by
            intro x2 x3 s1 s2 s3 A_0_20_moved H locs ls h hM hl
            unfold jn_X12_moves_73 at h
            refine lv_iadd hx hb dX12_moves_73 ?_
            refine m_calli (wc := []) C0 hM [] rfl (m_runS (wc := []) (As := [.int (s2 + s3)]) (rest := [.int s1, .ref (r0 20)]) C0 hM (ct_X12_modulo l D cI cJ cZ (s2 + s3) _ _ h) [] rfl (by decide) gX12_moves_X12_modulo rfl rfl rfl hd_X12_modulo ⟨Nat.le_of_ble_eq_true rfl, Nat.le_of_ble_eq_true rfl⟩ rfl hl.1 rfl (Nat.le_of_ble_eq_true rfl) dX12_moves_74 ⟨Nat.le_of_ble_eq_true rfl, Nat.le_of_ble_eq_true rfl⟩) (fun _ => [(h0, .inr (11, oX12 r0 I_0_isFound I_0_foundB I_0_changes I_0_taped I_0_size I_0_at I_0_signs I_0_wanted I_0_sign I_0_isKept I_0_keptFound I_0_keptB I_0_keptChanges)), ((r0 19), .inl (cI, 5, .inl A_0_19_mind)), ((r0 20), .inl (cI, 5, .inl A_0_20_moved))]) (fun _ => rfl) (fun _ => rfl) (fun y1 _ H locs h hM => ?_)
            obtain ⟨hc2, h⟩ := h
            refine m_iast (ws' := [(h0, .inr (11, oX12 r0 I_0_isFound I_0_foundB I_0_changes I_0_taped I_0_size I_0_at I_0_signs I_0_wanted I_0_sign I_0_isKept I_0_keptFound I_0_keptB I_0_keptChanges)), ((r0 19), .inl (cI, 5, .inl A_0_19_mind)), ((r0 20), .inl (cI, 5, .inl (upd A_0_20_moved (s1).toNatClampNeg y1)))]) C0 hM 2 rfl hc2 rfl dX12_moves_77 (fun H locs hM => ?_)
            refine lv_iinc (v := (x3 + (-1 : Int32))) (lv' := [(3, .int (x3 + (-1 : Int32))), (0, .ref h0), (1, .int x1), (2, .int x2)]) hx hb dX12_moves_78 hl (k := 3) rfl rfl (by decide) rfl (fun ls hl => ?_)
            refine lv_goto (tgt := 28) hx hb dX12_moves_81 (by decide) ?_
            exact ih28 _ _ _ _ _ _ h hM (lv_sub hl [1, 2, 3, 0] rfl)
          intro x2 x3 A_0_20_moved H locs ls h hM hl
          unfold lp_X12_moves_28 at h
          refine lv_iload_n hx hb dX12_moves_28 rfl (lv_at hl 3 rfl) ?_
          refine lv_if_lt (tgt := 84) hx hb dX12_moves_29 (by decide) (fun hq => ?_) (fun hq => ?_)
          · have h := h.1 hq
            exact jq84 _ _ _ _ _ h hM (lv_sub hl [0, 1, 2] rfl)
          · have h := h.2 hq
            refine lv_aload_n hx hb dX12_moves_32 rfl (lv_at hl 0 rfl) ?_
            refine m_get (C := RX12) (T := TX12) (N := 45) (ci := 11) (ref := "LoweredPowersModel") (v := .ref (r0 20)) C0 hM 0 rfl rfl kt_X12_moves_X12 20 (by decide) kw_X12_moves_1 rfl rfl dX12_moves_33 ?_
            refine lv_iload_n hx hb dX12_moves_36 rfl (lv_at hl 3 rfl) ?_
            refine lv_aload_n hx hb dX12_moves_37 rfl (lv_at hl 0 rfl) ?_
            refine m_get (C := RX12) (T := TX12) (N := 45) (ci := 11) (ref := "LoweredPowersModel") (v := .ref (r0 20)) C0 hM 0 rfl rfl kt_X12_moves_X12 20 (by decide) kw_X12_moves_1 rfl rfl dX12_moves_38 ?_
            refine lv_iload_n hx hb dX12_moves_41 rfl (lv_at hl 3 rfl) ?_
            obtain ⟨hc3, h⟩ := h
            refine m_iald C0 hM 2 rfl hc3 dX12_moves_42 ?_
            refine lv_iload_n hx hb dX12_moves_43 rfl (lv_at hl 1 rfl) ?_
            refine m_calli (wc := []) C0 hM [] rfl (m_runS (wc := []) (As := [.int x1]) (rest := [.int (A_0_20_moved (x3).toNatClampNeg), .int x3, .ref (r0 20)]) C0 hM (ct_X12_modulo l D cI cJ cZ x1 _ _ h) [] rfl (by decide) gX12_moves_X12_modulo rfl rfl rfl hd_X12_modulo ⟨Nat.le_of_ble_eq_true rfl, Nat.le_of_ble_eq_true rfl⟩ rfl hl.1 rfl (Nat.le_of_ble_eq_true rfl) dX12_moves_44 ⟨Nat.le_of_ble_eq_true rfl, Nat.le_of_ble_eq_true rfl⟩) (fun _ => [(h0, .inr (11, oX12 r0 I_0_isFound I_0_foundB I_0_changes I_0_taped I_0_size I_0_at I_0_signs I_0_wanted I_0_sign I_0_isKept I_0_keptFound I_0_keptB I_0_keptChanges)), ((r0 19), .inl (cI, 5, .inl A_0_19_mind)), ((r0 20), .inl (cI, 5, .inl A_0_20_moved))]) (fun _ => rfl) (fun _ => rfl) (fun y4 _ H locs h hM => ?_)
            refine lv_imul hx hb dX12_moves_47 ?_
            refine lv_sipush (v := (10007 : Int32)) hx hb dX12_moves_48 (by decide) ?_
            refine lv_irem hx hb dX12_moves_51 (by decide) ?_
            refine lv_topi (fun y5 ey5 => ?_)
            have h := h y5 ey5
            refine lv_iload_n hx hb dX12_moves_52 rfl (lv_at hl 3 rfl) ?_
            refine lv_if_le (tgt := 67) hx hb dX12_moves_53 (by decide) (fun hq => ?_) (fun hq => ?_)
            · have h := h.1 hq
              refine lv_aload_n hx hb dX12_moves_67 rfl (lv_at hl 0 rfl) ?_
              refine m_get (C := RX12) (T := TX12) (N := 45) (ci := 11) (ref := "LoweredPowersModel") (v := .ref (r0 19)) C0 hM 0 rfl rfl kt_X12_moves_X12 19 (by decide) kw_X12_moves_2 rfl rfl dX12_moves_68 ?_
              refine lv_iload_n hx hb dX12_moves_71 rfl (lv_at hl 2 rfl) ?_
              obtain ⟨hc6, h⟩ := h
              refine m_iald C0 hM 1 rfl hc6 dX12_moves_72 ?_
              exact jq73 _ _ _ _ _ _ _ _ _ h hM (lv_sub hl [0, 1, 2, 3] rfl)
            · have h := h.2 hq
              refine lv_aload_n hx hb dX12_moves_56 rfl (lv_at hl 0 rfl) ?_
              refine m_get (C := RX12) (T := TX12) (N := 45) (ci := 11) (ref := "LoweredPowersModel") (v := .ref (r0 20)) C0 hM 0 rfl rfl kt_X12_moves_X12 20 (by decide) kw_X12_moves_1 rfl rfl dX12_moves_57 ?_
              refine lv_iload_n hx hb dX12_moves_60 rfl (lv_at hl 3 rfl) ?_
              refine lv_iconst (v := (1 : Int32)) hx hb dX12_moves_61 (by decide) ?_
              refine lv_isub hx hb dX12_moves_62 ?_
              obtain ⟨hc7, h⟩ := h
              refine m_iald C0 hM 2 rfl hc7 dX12_moves_63 ?_
              refine lv_goto (tgt := 73) hx hb dX12_moves_64 (by decide) ?_
              exact jq73 _ _ _ _ _ _ _ _ _ h hM (lv_sub hl [0, 1, 2, 3] rfl)
      intro x2 A_0_20_moved H locs ls h hM hl
      unfold lp_X12_moves_22 at h
      refine lv_iload_n hx hb dX12_moves_22 rfl (lv_at hl 2 rfl) ?_
      refine lv_if_lt (tgt := 90) hx hb dX12_moves_23 (by decide) (fun hq => ?_) (fun hq => ?_)
      · have h := h.1 hq
        subst hsz; subst hA; subst hQ
        exact m_vret C0 hr hM A_0_20_moved h rfl dX12_moves_90
      · have h := h.2 hq
        refine lv_iconst (v := (4 : Int32)) hx hb dX12_moves_26 (by decide) ?_
        refine lv_istore_n (lv' := [(3, .int (4 : Int32)), (0, .ref h0), (1, .int x1), (2, .int x2)]) hx hb dX12_moves_27 rfl hl (by decide) rfl (fun ls hl => ?_)
        obtain ⟨k0, h⟩ := h
        exact lq28 k0 _ _ _ _ _ _ h hM (lv_sub hl [1, 2, 3, 0] rfl)
  have jq20 : ∀ (A_0_20_moved : (Nat → Int32)) (H : Heap) (locs : List Loc) (ls : Array Slot) , jn_X12_moves_20 x1 A_0_19_mind K A_0_20_moved → MW D A s.heap [(h0, .inr (11, oX12 r0 I_0_isFound I_0_foundB I_0_changes I_0_taped I_0_size I_0_at I_0_signs I_0_wanted I_0_sign I_0_isKept I_0_keptFound I_0_keptB I_0_keptChanges)), ((r0 19), .inl (cI, 5, .inl A_0_19_mind)), ((r0 20), .inl (cI, 5, .inl A_0_20_moved))] H locs → lv_has ls 4 [(0, .ref h0), (1, .int x1)] → W p l e rm_X12_moves s m args below meth c H locs 0 0 Q (F0 m 20 ls []) := by
    intro A_0_20_moved H locs ls h hM hl
    unfold jn_X12_moves_20 at h
    refine lv_iconst (v := (4 : Int32)) hx hb dX12_moves_20 (by decide) ?_
    refine lv_istore_n (lv' := [(2, .int (4 : Int32)), (0, .ref h0), (1, .int x1)]) hx hb dX12_moves_21 rfl hl (by decide) rfl (fun ls hl => ?_)
    obtain ⟨k0, h⟩ := h
    exact lq22 k0 _ _ _ _ _ h hM (lv_sub hl [1, 2, 0] rfl)
  have lq2 : ∀ (k2 : Nat) (x2 : Int32) (A_0_20_moved : (Nat → Int32)) (H : Heap) (locs : List Loc) (ls : Array Slot) , lp_X12_moves_2 x1 A_0_19_mind (jn_X12_moves_20 x1 A_0_19_mind K) K k2 x2 A_0_20_moved → MW D A s.heap [(h0, .inr (11, oX12 r0 I_0_isFound I_0_foundB I_0_changes I_0_taped I_0_size I_0_at I_0_signs I_0_wanted I_0_sign I_0_isKept I_0_keptFound I_0_keptB I_0_keptChanges)), ((r0 19), .inl (cI, 5, .inl A_0_19_mind)), ((r0 20), .inl (cI, 5, .inl A_0_20_moved))] H locs → lv_has ls 4 [(0, .ref h0), (1, .int x1), (2, .int x2)] → W p l e rm_X12_moves s m args below meth c H locs 0 0 Q (F0 m 2 ls []) := by
    intro k2
    induction k2 with
    | zero =>
      intro x2 A_0_20_moved H locs ls h
      unfold lp_X12_moves_2 at h
      exact h.elim
    | succ k2 ih2 =>
      intro x2 A_0_20_moved H locs ls h hM hl
      unfold lp_X12_moves_2 at h
      refine lv_iload_n hx hb dX12_moves_2 rfl (lv_at hl 2 rfl) ?_
      refine lv_iconst (v := (5 : Int32)) hx hb dX12_moves_3 (by decide) ?_
      refine lv_icmp_ge (tgt := 20) hx hb dX12_moves_4 (by decide) (fun hq => ?_) (fun hq => ?_)
      · have h := h.1 hq
        exact jq20 _ _ _ _ h hM (lv_sub hl [0, 1] rfl)
      · have h := h.2 hq
        refine lv_aload_n hx hb dX12_moves_7 rfl (lv_at hl 0 rfl) ?_
        refine m_get (C := RX12) (T := TX12) (N := 45) (ci := 11) (ref := "LoweredPowersModel") (v := .ref (r0 20)) C0 hM 0 rfl rfl kt_X12_moves_X12 20 (by decide) kw_X12_moves_1 rfl rfl dX12_moves_8 ?_
        refine lv_iload_n hx hb dX12_moves_11 rfl (lv_at hl 2 rfl) ?_
        refine lv_iconst (v := (0 : Int32)) hx hb dX12_moves_12 (by decide) ?_
        obtain ⟨hc8, h⟩ := h
        refine m_iast (ws' := [(h0, .inr (11, oX12 r0 I_0_isFound I_0_foundB I_0_changes I_0_taped I_0_size I_0_at I_0_signs I_0_wanted I_0_sign I_0_isKept I_0_keptFound I_0_keptB I_0_keptChanges)), ((r0 19), .inl (cI, 5, .inl A_0_19_mind)), ((r0 20), .inl (cI, 5, .inl (upd A_0_20_moved (x2).toNatClampNeg (0 : Int32))))]) C0 hM 2 rfl hc8 rfl dX12_moves_13 (fun H locs hM => ?_)
        refine lv_iinc (v := (x2 + (1 : Int32))) (lv' := [(2, .int (x2 + (1 : Int32))), (0, .ref h0), (1, .int x1)]) hx hb dX12_moves_14 hl (k := 2) rfl rfl (by decide) rfl (fun ls hl => ?_)
        refine lv_goto (tgt := 2) hx hb dX12_moves_17 (by decide) ?_
        exact ih2 _ _ _ _ _ h hM (lv_sub hl [1, 2, 0] rfl)
  unfold wp_X12_moves at h
  refine lv_iconst (v := (0 : Int32)) hx hb dX12_moves_0 (by decide) ?_
  refine lv_istore_n (lv' := [(2, .int (0 : Int32)), (0, .ref h0), (1, .int x1)]) hx hb dX12_moves_1 rfl hl (by decide) rfl (fun ls hl => ?_)
  obtain ⟨k0, h⟩ := h
  exact lq2 k0 _ _ _ _ _ h hM (lv_sub hl [1, 2, 0] rfl)
abbrev rm_X12_alters : Room := { frames := 3, cells := 0, slots := 0, locals := 65 }
set_option maxRecDepth 100000 in
set_option maxHeartbeats 4000000 in
theorem ct_X12_alters (l : Launch) (D : va_G) (cI cJ cZ : ClassId) (h0 : Nat) (r0 : Nat → Nat) (I_0_isFound : Int32) (I_0_foundB : Int32) (I_0_changes : Int32) (I_0_taped : Int32) (I_0_size : Int32) (I_0_at : Int32) (I_0_signs : Int32) (I_0_wanted : Int32) (I_0_sign : Int32) (I_0_isKept : Int32) (I_0_keptFound : Int32) (I_0_keptB : Int32) (I_0_keptChanges : Int32) (A_0_19_mind : (Nat → Int32)) (A_0_20_moved : (Nat → Int32)) (x1 : Int32) (x2 : Int32) (sz : Nat) (K : (Nat → Int32) → (Nat → Int32) → Prop) (h : wp_X12_alters x1 x2 A_0_19_mind A_0_20_moved K) : Met l yX12_alters wsX12_alters rm_X12_alters (va_Pc [.ref h0, .int x1, .int x2] (WX D cI cJ cZ [(h0, .inr (11, oX12 r0 I_0_isFound I_0_foundB I_0_changes I_0_taped I_0_size I_0_at I_0_signs I_0_wanted I_0_sign I_0_isKept I_0_keptFound I_0_keptB I_0_keptChanges)), ((r0 19), .inl (cI, 5, .inl A_0_19_mind)), ((r0 20), .inl (cI, 5, .inl A_0_20_moved))] sz)) (va_Qv (fun (u : (Nat → Int32) × (Nat → Int32)) => K u.1 u.2) (fun (u : (Nat → Int32) × (Nat → Int32)) t => WY D (va_A [(h0, .inr (11, oX12 r0 I_0_isFound I_0_foundB I_0_changes I_0_taped I_0_size I_0_at I_0_signs I_0_wanted I_0_sign I_0_isKept I_0_keptFound I_0_keptB I_0_keptChanges)), ((r0 19), .inl (cI, 5, .inl A_0_19_mind)), ((r0 20), .inl (cI, 5, .inl A_0_20_moved))] sz) [(h0, .inr (11, oX12 r0 I_0_isFound I_0_foundB I_0_changes I_0_taped I_0_size I_0_at I_0_signs I_0_wanted I_0_sign I_0_isKept I_0_keptFound I_0_keptB I_0_keptChanges)), ((r0 19), .inl (cI, 5, .inl u.1)), ((r0 20), .inl (cI, 5, .inl u.2))] t) (va_A [(h0, .inr (11, oX12 r0 I_0_isFound I_0_foundB I_0_changes I_0_taped I_0_size I_0_at I_0_signs I_0_wanted I_0_sign I_0_isKept I_0_keptFound I_0_keptB I_0_keptChanges)), ((r0 19), .inl (cI, 5, .inl A_0_19_mind)), ((r0 20), .inl (cI, 5, .inl A_0_20_moved))] sz)) 0 0 (va_A [(h0, .inr (11, oX12 r0 I_0_isFound I_0_foundB I_0_changes I_0_taped I_0_size I_0_at I_0_signs I_0_wanted I_0_sign I_0_isKept I_0_keptFound I_0_keptB I_0_keptChanges)), ((r0 19), .inl (cI, 5, .inl A_0_19_mind)), ((r0 20), .inl (cI, 5, .inl A_0_20_moved))] sz) := by
  refine m_met (own := RX12) (cc := cX12_alters) (maxL := 5) (ret := none) [.ref h0, .int x1, .int x2] [(0, .ref h0), (1, .int x1), (2, .int x2)] (by decide) rfl rfl (Nat.le_of_ble_eq_true rfl) rfl ?_
  intro p e s m args below meth c Q A hQ hA C0 hr hnm hsz hM ls hl
  have hx := C0.1
  have hb := C0.2.1
  have hown := C0.2.2.2.1
  have lq141 : ∀ (k141 : Nat) (x4 : Int32) (A_0_19_mind : (Nat → Int32)) (A_0_20_moved : (Nat → Int32)) (H : Heap) (locs : List Loc) (ls : Array Slot) , lp_X12_alters_141 x1 x2 K k141 x4 A_0_19_mind A_0_20_moved → MW D A s.heap [(h0, .inr (11, oX12 r0 I_0_isFound I_0_foundB I_0_changes I_0_taped I_0_size I_0_at I_0_signs I_0_wanted I_0_sign I_0_isKept I_0_keptFound I_0_keptB I_0_keptChanges)), ((r0 19), .inl (cI, 5, .inl A_0_19_mind)), ((r0 20), .inl (cI, 5, .inl A_0_20_moved))] H locs → lv_has ls 5 [(0, .ref h0), (4, .int x4)] → W p l e rm_X12_alters s m args below meth c H locs 0 0 Q (F0 m 141 ls []) := by
    intro k141
    induction k141 with
    | zero =>
      intro x4 A_0_19_mind A_0_20_moved H locs ls h
      unfold lp_X12_alters_141 at h
      exact h.elim
    | succ k141 ih141 =>
      intro x4 A_0_19_mind A_0_20_moved H locs ls h hM hl
      unfold lp_X12_alters_141 at h
      refine lv_iload hx hb dX12_alters_141 (lv_at hl 1 rfl) ?_
      refine lv_iconst (v := (5 : Int32)) hx hb dX12_alters_143 (by decide) ?_
      refine lv_icmp_ge (tgt := 167) hx hb dX12_alters_144 (by decide) (fun hq => ?_) (fun hq => ?_)
      · have h := h.1 hq
        subst hsz; subst hA; subst hQ
        exact m_vret C0 hr hM (A_0_19_mind, A_0_20_moved) h rfl dX12_alters_167
      · have h := h.2 hq
        refine lv_aload_n hx hb dX12_alters_147 rfl (lv_at hl 0 rfl) ?_
        refine m_get (C := RX12) (T := TX12) (N := 45) (ci := 11) (ref := "LoweredPowersModel") (v := .ref (r0 19)) C0 hM 0 rfl rfl kt_X12_alters_X12 19 (by decide) kw_X12_alters_2 rfl rfl dX12_alters_148 ?_
        refine lv_iload hx hb dX12_alters_151 (lv_at hl 1 rfl) ?_
        refine lv_aload_n hx hb dX12_alters_153 rfl (lv_at hl 0 rfl) ?_
        refine m_get (C := RX12) (T := TX12) (N := 45) (ci := 11) (ref := "LoweredPowersModel") (v := .ref (r0 20)) C0 hM 0 rfl rfl kt_X12_alters_X12 20 (by decide) kw_X12_alters_1 rfl rfl dX12_alters_154 ?_
        refine lv_iload hx hb dX12_alters_157 (lv_at hl 1 rfl) ?_
        obtain ⟨hc1, h⟩ := h
        refine m_iald C0 hM 2 rfl hc1 dX12_alters_159 ?_
        refine lv_topi (fun y2 ey2 => ?_)
        have h := h y2 ey2
        refine m_iast (ws' := [(h0, .inr (11, oX12 r0 I_0_isFound I_0_foundB I_0_changes I_0_taped I_0_size I_0_at I_0_signs I_0_wanted I_0_sign I_0_isKept I_0_keptFound I_0_keptB I_0_keptChanges)), ((r0 19), .inl (cI, 5, .inl (upd A_0_19_mind (x4).toNatClampNeg y2))), ((r0 20), .inl (cI, 5, .inl A_0_20_moved))]) C0 hM 1 rfl hc1 rfl dX12_alters_160 (fun H locs hM => ?_)
        refine lv_iinc (v := (x4 + (1 : Int32))) (lv' := [(4, .int (x4 + (1 : Int32))), (0, .ref h0)]) hx hb dX12_alters_161 hl (k := 1) rfl rfl (by decide) rfl (fun ls hl => ?_)
        refine lv_goto (tgt := 141) hx hb dX12_alters_164 (by decide) ?_
        exact ih141 _ _ _ _ _ _ h hM (lv_sub hl [1, 0] rfl)
  have jq138 : ∀ (A_0_19_mind : (Nat → Int32)) (A_0_20_moved : (Nat → Int32)) (H : Heap) (locs : List Loc) (ls : Array Slot) , jn_X12_alters_138 x1 x2 K A_0_19_mind A_0_20_moved → MW D A s.heap [(h0, .inr (11, oX12 r0 I_0_isFound I_0_foundB I_0_changes I_0_taped I_0_size I_0_at I_0_signs I_0_wanted I_0_sign I_0_isKept I_0_keptFound I_0_keptB I_0_keptChanges)), ((r0 19), .inl (cI, 5, .inl A_0_19_mind)), ((r0 20), .inl (cI, 5, .inl A_0_20_moved))] H locs → lv_has ls 5 [(0, .ref h0)] → W p l e rm_X12_alters s m args below meth c H locs 0 0 Q (F0 m 138 ls []) := by
    intro A_0_19_mind A_0_20_moved H locs ls h hM hl
    unfold jn_X12_alters_138 at h
    refine lv_iconst (v := (0 : Int32)) hx hb dX12_alters_138 (by decide) ?_
    refine lv_istore (lv' := [(4, .int (0 : Int32)), (0, .ref h0)]) hx hb dX12_alters_139 hl (by decide) rfl (fun ls hl => ?_)
    obtain ⟨k0, h⟩ := h
    exact lq141 k0 _ _ _ _ _ _ h hM (lv_sub hl [1, 0] rfl)
  have lq14 : ∀ (k14 : Nat) (x3 : Int32) (x4 : Int32) (A_0_19_mind : (Nat → Int32)) (A_0_20_moved : (Nat → Int32)) (H : Heap) (locs : List Loc) (ls : Array Slot) , lp_X12_alters_14 x1 x2 (jn_X12_alters_138 x1 x2 K) K k14 x3 x4 A_0_19_mind A_0_20_moved → MW D A s.heap [(h0, .inr (11, oX12 r0 I_0_isFound I_0_foundB I_0_changes I_0_taped I_0_size I_0_at I_0_signs I_0_wanted I_0_sign I_0_isKept I_0_keptFound I_0_keptB I_0_keptChanges)), ((r0 19), .inl (cI, 5, .inl A_0_19_mind)), ((r0 20), .inl (cI, 5, .inl A_0_20_moved))] H locs → lv_has ls 5 [(0, .ref h0), (1, .int x1), (2, .int x2), (3, .int x3), (4, .int x4)] → W p l e rm_X12_alters s m args below meth c H locs 0 0 Q (F0 m 14 ls []) := by
    intro k14
    induction k14 with
    | zero =>
      intro x3 x4 A_0_19_mind A_0_20_moved H locs ls h
      unfold lp_X12_alters_14 at h
      exact h.elim
    | succ k14 ih14 =>
      have jq120 : ∀ (x3 : Int32) (x4 : Int32) (s1 : Int32) (s2 : Int32) (A_0_19_mind : (Nat → Int32)) (A_0_20_moved : (Nat → Int32)) (H : Heap) (locs : List Loc) (ls : Array Slot) , jn_X12_alters_120 x1 x2 (fun x3 x4 A_0_19_mind A_0_20_moved => lp_X12_alters_14 x1 x2 (jn_X12_alters_138 x1 x2 K) K k14 x3 x4 A_0_19_mind A_0_20_moved) (jn_X12_alters_138 x1 x2 K) K x3 x4 s1 s2 A_0_19_mind A_0_20_moved → MW D A s.heap [(h0, .inr (11, oX12 r0 I_0_isFound I_0_foundB I_0_changes I_0_taped I_0_size I_0_at I_0_signs I_0_wanted I_0_sign I_0_isKept I_0_keptFound I_0_keptB I_0_keptChanges)), ((r0 19), .inl (cI, 5, .inl A_0_19_mind)), ((r0 20), .inl (cI, 5, .inl A_0_20_moved))] H locs → lv_has ls 5 [(0, .ref h0), (1, .int x1), (2, .int x2), (3, .int x3), (4, .int x4)] → W p l e rm_X12_alters s m args below meth c H locs 0 0 Q (F0 m 120 ls [.int s2, .int s1, .ref (r0 20)]) := by
        intro x3 x4 s1 s2 A_0_19_mind A_0_20_moved H locs ls h hM hl
        unfold jn_X12_alters_120 at h
        obtain ⟨hc3, h⟩ := h
        refine m_iast (ws' := [(h0, .inr (11, oX12 r0 I_0_isFound I_0_foundB I_0_changes I_0_taped I_0_size I_0_at I_0_signs I_0_wanted I_0_sign I_0_isKept I_0_keptFound I_0_keptB I_0_keptChanges)), ((r0 19), .inl (cI, 5, .inl A_0_19_mind)), ((r0 20), .inl (cI, 5, .inl (upd A_0_20_moved (s1).toNatClampNeg s2)))]) C0 hM 2 rfl hc3 rfl dX12_alters_120 (fun H locs hM => ?_)
        refine lv_iload_n hx hb dX12_alters_121 rfl (lv_at hl 3 rfl) ?_
        refine lv_iload_n hx hb dX12_alters_122 rfl (lv_at hl 2 rfl) ?_
        refine m_calli (wc := []) C0 hM [] rfl (m_runS (wc := []) (As := [.int x2]) (rest := [.int x3]) C0 hM (ct_X12_modulo l D cI cJ cZ x2 _ _ h) [] rfl (by decide) gX12_alters_X12_modulo rfl rfl rfl hd_X12_modulo ⟨Nat.le_of_ble_eq_true rfl, Nat.le_of_ble_eq_true rfl⟩ rfl hl.1 rfl (Nat.le_of_ble_eq_true rfl) dX12_alters_123 ⟨Nat.le_of_ble_eq_true rfl, Nat.le_of_ble_eq_true rfl⟩) (fun _ => [(h0, .inr (11, oX12 r0 I_0_isFound I_0_foundB I_0_changes I_0_taped I_0_size I_0_at I_0_signs I_0_wanted I_0_sign I_0_isKept I_0_keptFound I_0_keptB I_0_keptChanges)), ((r0 19), .inl (cI, 5, .inl A_0_19_mind)), ((r0 20), .inl (cI, 5, .inl (upd A_0_20_moved (s1).toNatClampNeg s2)))]) (fun _ => rfl) (fun _ => rfl) (fun y4 _ H locs h hM => ?_)
        refine lv_imul hx hb dX12_alters_126 ?_
        refine lv_sipush (v := (10007 : Int32)) hx hb dX12_alters_127 (by decide) ?_
        refine lv_irem hx hb dX12_alters_130 (by decide) ?_
        refine lv_topi (fun y5 ey5 => ?_)
        have h := h y5 ey5
        refine lv_istore_n (lv' := [(3, .int y5), (0, .ref h0), (1, .int x1), (2, .int x2), (4, .int x4)]) hx hb dX12_alters_131 rfl hl (by decide) rfl (fun ls hl => ?_)
        refine lv_iinc (v := (x4 + (1 : Int32))) (lv' := [(4, .int (x4 + (1 : Int32))), (3, .int y5), (0, .ref h0), (1, .int x1), (2, .int x2)]) hx hb dX12_alters_132 hl (k := 4) rfl rfl (by decide) rfl (fun ls hl => ?_)
        refine lv_goto (tgt := 14) hx hb dX12_alters_135 (by decide) ?_
        exact ih14 _ _ _ _ _ _ _ h hM (lv_sub hl [2, 3, 4, 1, 0] rfl)
      intro x3 x4 A_0_19_mind A_0_20_moved H locs ls h hM hl
      unfold lp_X12_alters_14 at h
      refine lv_iload hx hb dX12_alters_14 (lv_at hl 4 rfl) ?_
      refine lv_iconst (v := (5 : Int32)) hx hb dX12_alters_16 (by decide) ?_
      refine lv_icmp_ge (tgt := 138) hx hb dX12_alters_17 (by decide) (fun hq => ?_) (fun hq => ?_)
      · have h := h.1 hq
        exact jq138 _ _ _ _ _ h hM (lv_sub hl [0] rfl)
      · have h := h.2 hq
        refine lv_iload_n hx hb dX12_alters_20 rfl (lv_at hl 1 rfl) ?_
        refine lv_if_le (tgt := 138) hx hb dX12_alters_21 (by decide) (fun hq => ?_) (fun hq => ?_)
        · have h := h.1 hq
          exact jq138 _ _ _ _ _ h hM (lv_sub hl [0] rfl)
        · have h := h.2 hq
          refine lv_aload_n hx hb dX12_alters_24 rfl (lv_at hl 0 rfl) ?_
          refine m_get (C := RX12) (T := TX12) (N := 45) (ci := 11) (ref := "LoweredPowersModel") (v := .ref (r0 20)) C0 hM 0 rfl rfl kt_X12_alters_X12 20 (by decide) kw_X12_alters_1 rfl rfl dX12_alters_25 ?_
          refine lv_iload hx hb dX12_alters_28 (lv_at hl 4 rfl) ?_
          refine lv_iload_n hx hb dX12_alters_30 rfl (lv_at hl 1 rfl) ?_
          refine lv_iconst (v := (1 : Int32)) hx hb dX12_alters_31 (by decide) ?_
          refine lv_icmp_ne (tgt := 54) hx hb dX12_alters_32 (by decide) (fun hq => ?_) (fun hq => ?_)
          · have h := h.1 hq
            refine lv_iload_n hx hb dX12_alters_54 rfl (lv_at hl 1 rfl) ?_
            refine lv_iconst (v := (2 : Int32)) hx hb dX12_alters_55 (by decide) ?_
            refine lv_icmp_ne (tgt := 71) hx hb dX12_alters_56 (by decide) (fun hq => ?_) (fun hq => ?_)
            · have h := h.1 hq
              refine lv_iload_n hx hb dX12_alters_71 rfl (lv_at hl 1 rfl) ?_
              refine lv_iconst (v := (3 : Int32)) hx hb dX12_alters_72 (by decide) ?_
              refine lv_icmp_ne (tgt := 107) hx hb dX12_alters_73 (by decide) (fun hq => ?_) (fun hq => ?_)
              · have h := h.1 hq
                refine lv_aload_n hx hb dX12_alters_107 rfl (lv_at hl 0 rfl) ?_
                refine m_get (C := RX12) (T := TX12) (N := 45) (ci := 11) (ref := "LoweredPowersModel") (v := .ref (r0 19)) C0 hM 0 rfl rfl kt_X12_alters_X12 19 (by decide) kw_X12_alters_2 rfl rfl dX12_alters_108 ?_
                refine lv_iload hx hb dX12_alters_111 (lv_at hl 4 rfl) ?_
                obtain ⟨hc6, h⟩ := h
                refine m_iald C0 hM 1 rfl hc6 dX12_alters_113 ?_
                refine lv_iload_n hx hb dX12_alters_114 rfl (lv_at hl 3 rfl) ?_
                refine lv_imul hx hb dX12_alters_115 ?_
                refine lv_sipush (v := (10007 : Int32)) hx hb dX12_alters_116 (by decide) ?_
                refine lv_irem hx hb dX12_alters_119 (by decide) ?_
                refine lv_topi (fun y7 ey7 => ?_)
                have h := h y7 ey7
                exact jq120 _ _ _ _ _ _ _ _ _ h hM (lv_sub hl [0, 1, 2, 3, 4] rfl)
              · have h := h.2 hq
                refine lv_iload hx hb dX12_alters_76 (lv_at hl 4 rfl) ?_
                refine lv_iconst (v := (4 : Int32)) hx hb dX12_alters_78 (by decide) ?_
                refine lv_icmp_ge (tgt := 103) hx hb dX12_alters_79 (by decide) (fun hq => ?_) (fun hq => ?_)
                · have h := h.1 hq
                  refine lv_iconst (v := (0 : Int32)) hx hb dX12_alters_103 (by decide) ?_
                  refine lv_goto (tgt := 120) hx hb dX12_alters_104 (by decide) ?_
                  exact jq120 _ _ _ _ _ _ _ _ _ h hM (lv_sub hl [0, 1, 2, 3, 4] rfl)
                · have h := h.2 hq
                  refine lv_aload_n hx hb dX12_alters_82 rfl (lv_at hl 0 rfl) ?_
                  refine m_get (C := RX12) (T := TX12) (N := 45) (ci := 11) (ref := "LoweredPowersModel") (v := .ref (r0 19)) C0 hM 0 rfl rfl kt_X12_alters_X12 19 (by decide) kw_X12_alters_2 rfl rfl dX12_alters_83 ?_
                  refine lv_iload hx hb dX12_alters_86 (lv_at hl 4 rfl) ?_
                  refine lv_iconst (v := (1 : Int32)) hx hb dX12_alters_88 (by decide) ?_
                  refine lv_iadd hx hb dX12_alters_89 ?_
                  obtain ⟨hc8, h⟩ := h
                  refine m_iald C0 hM 1 rfl hc8 dX12_alters_90 ?_
                  refine lv_iload hx hb dX12_alters_91 (lv_at hl 4 rfl) ?_
                  refine lv_iconst (v := (1 : Int32)) hx hb dX12_alters_93 (by decide) ?_
                  refine lv_iadd hx hb dX12_alters_94 ?_
                  refine lv_imul hx hb dX12_alters_95 ?_
                  refine lv_sipush (v := (10007 : Int32)) hx hb dX12_alters_96 (by decide) ?_
                  refine lv_irem hx hb dX12_alters_99 (by decide) ?_
                  refine lv_topi (fun y9 ey9 => ?_)
                  have h := h y9 ey9
                  refine lv_goto (tgt := 120) hx hb dX12_alters_100 (by decide) ?_
                  exact jq120 _ _ _ _ _ _ _ _ _ h hM (lv_sub hl [0, 1, 2, 3, 4] rfl)
            · have h := h.2 hq
              refine lv_aload_n hx hb dX12_alters_59 rfl (lv_at hl 0 rfl) ?_
              refine m_get (C := RX12) (T := TX12) (N := 45) (ci := 11) (ref := "LoweredPowersModel") (v := .ref (r0 19)) C0 hM 0 rfl rfl kt_X12_alters_X12 19 (by decide) kw_X12_alters_2 rfl rfl dX12_alters_60 ?_
              refine lv_iconst (v := (4 : Int32)) hx hb dX12_alters_63 (by decide) ?_
              refine lv_iload hx hb dX12_alters_64 (lv_at hl 4 rfl) ?_
              refine lv_isub hx hb dX12_alters_66 ?_
              obtain ⟨hc10, h⟩ := h
              refine m_iald C0 hM 1 rfl hc10 dX12_alters_67 ?_
              refine lv_goto (tgt := 120) hx hb dX12_alters_68 (by decide) ?_
              exact jq120 _ _ _ _ _ _ _ _ _ h hM (lv_sub hl [0, 1, 2, 3, 4] rfl)
          · have h := h.2 hq
            refine lv_aload_n hx hb dX12_alters_35 rfl (lv_at hl 0 rfl) ?_
            refine m_get (C := RX12) (T := TX12) (N := 45) (ci := 11) (ref := "LoweredPowersModel") (v := .ref (r0 19)) C0 hM 0 rfl rfl kt_X12_alters_X12 19 (by decide) kw_X12_alters_2 rfl rfl dX12_alters_36 ?_
            refine lv_iload hx hb dX12_alters_39 (lv_at hl 4 rfl) ?_
            obtain ⟨hc11, h⟩ := h
            refine m_iald C0 hM 1 rfl hc11 dX12_alters_41 ?_
            refine lv_iload_n hx hb dX12_alters_42 rfl (lv_at hl 2 rfl) ?_
            refine m_calli (wc := []) C0 hM [] rfl (m_runS (wc := []) (As := [.int x2]) (rest := [.int (A_0_19_mind (x4).toNatClampNeg), .int x4, .ref (r0 20)]) C0 hM (ct_X12_modulo l D cI cJ cZ x2 _ _ h) [] rfl (by decide) gX12_alters_X12_modulo rfl rfl rfl hd_X12_modulo ⟨Nat.le_of_ble_eq_true rfl, Nat.le_of_ble_eq_true rfl⟩ rfl hl.1 rfl (Nat.le_of_ble_eq_true rfl) dX12_alters_43 ⟨Nat.le_of_ble_eq_true rfl, Nat.le_of_ble_eq_true rfl⟩) (fun _ => [(h0, .inr (11, oX12 r0 I_0_isFound I_0_foundB I_0_changes I_0_taped I_0_size I_0_at I_0_signs I_0_wanted I_0_sign I_0_isKept I_0_keptFound I_0_keptB I_0_keptChanges)), ((r0 19), .inl (cI, 5, .inl A_0_19_mind)), ((r0 20), .inl (cI, 5, .inl A_0_20_moved))]) (fun _ => rfl) (fun _ => rfl) (fun y12 _ H locs h hM => ?_)
            refine lv_imul hx hb dX12_alters_46 ?_
            refine lv_sipush (v := (10007 : Int32)) hx hb dX12_alters_47 (by decide) ?_
            refine lv_irem hx hb dX12_alters_50 (by decide) ?_
            refine lv_topi (fun y13 ey13 => ?_)
            have h := h y13 ey13
            refine lv_goto (tgt := 120) hx hb dX12_alters_51 (by decide) ?_
            exact jq120 _ _ _ _ _ _ _ _ _ h hM (lv_sub hl [0, 1, 2, 3, 4] rfl)
  have jq11 : ∀ (x3 : Int32) (A_0_19_mind : (Nat → Int32)) (A_0_20_moved : (Nat → Int32)) (H : Heap) (locs : List Loc) (ls : Array Slot) , jn_X12_alters_11 x1 x2 K x3 A_0_19_mind A_0_20_moved → MW D A s.heap [(h0, .inr (11, oX12 r0 I_0_isFound I_0_foundB I_0_changes I_0_taped I_0_size I_0_at I_0_signs I_0_wanted I_0_sign I_0_isKept I_0_keptFound I_0_keptB I_0_keptChanges)), ((r0 19), .inl (cI, 5, .inl A_0_19_mind)), ((r0 20), .inl (cI, 5, .inl A_0_20_moved))] H locs → lv_has ls 5 [(0, .ref h0), (1, .int x1), (2, .int x2), (3, .int x3)] → W p l e rm_X12_alters s m args below meth c H locs 0 0 Q (F0 m 11 ls []) := by
    intro x3 A_0_19_mind A_0_20_moved H locs ls h hM hl
    unfold jn_X12_alters_11 at h
    refine lv_iconst (v := (0 : Int32)) hx hb dX12_alters_11 (by decide) ?_
    refine lv_istore (lv' := [(4, .int (0 : Int32)), (0, .ref h0), (1, .int x1), (2, .int x2), (3, .int x3)]) hx hb dX12_alters_12 hl (by decide) rfl (fun ls hl => ?_)
    obtain ⟨k0, h⟩ := h
    exact lq14 k0 _ _ _ _ _ _ _ h hM (lv_sub hl [1, 2, 3, 4, 0] rfl)
  unfold wp_X12_alters at h
  refine lv_iconst (v := (1 : Int32)) hx hb dX12_alters_0 (by decide) ?_
  refine lv_istore_n (lv' := [(3, .int (1 : Int32)), (0, .ref h0), (1, .int x1), (2, .int x2)]) hx hb dX12_alters_1 rfl hl (by decide) rfl (fun ls hl => ?_)
  refine lv_iload_n hx hb dX12_alters_2 rfl (lv_at hl 2 rfl) ?_
  refine lv_if_ne (tgt := 11) hx hb dX12_alters_3 (by decide) (fun hq => ?_) (fun hq => ?_)
  · have h := h.1 hq
    exact jq11 _ _ _ _ _ _ h hM (lv_sub hl [1, 2, 3, 0] rfl)
  · have h := h.2 hq
    refine lv_aload_n hx hb dX12_alters_6 rfl (lv_at hl 1 rfl) ?_
    refine lv_iload_n hx hb dX12_alters_7 rfl (lv_at hl 3 rfl) ?_
    refine m_callv (wc := [(h0, .inr (11, oX12 r0 I_0_isFound I_0_foundB I_0_changes I_0_taped I_0_size I_0_at I_0_signs I_0_wanted I_0_sign I_0_isKept I_0_keptFound I_0_keptB I_0_keptChanges)), ((r0 19), .inl (cI, 5, .inl A_0_19_mind)), ((r0 20), .inl (cI, 5, .inl A_0_20_moved))]) C0 hM [0, 1, 2] rfl (m_runV (wc := [(h0, .inr (11, oX12 r0 I_0_isFound I_0_foundB I_0_changes I_0_taped I_0_size I_0_at I_0_signs I_0_wanted I_0_sign I_0_isKept I_0_keptFound I_0_keptB I_0_keptChanges)), ((r0 19), .inl (cI, 5, .inl A_0_19_mind)), ((r0 20), .inl (cI, 5, .inl A_0_20_moved))]) (As := [.int x2]) (rest := []) (ci := 11) C0 hM (ct_X12_moves l D cI cJ cZ h0 r0 I_0_isFound I_0_foundB I_0_changes I_0_taped I_0_size I_0_at I_0_signs I_0_wanted I_0_sign I_0_isKept I_0_keptFound I_0_keptB I_0_keptChanges A_0_19_mind A_0_20_moved x2 _ _ h) [0, 1, 2] rfl (by decide) gX12_alters_X12_moves rfl rfl rfl rfl rfl hd_X12_moves ⟨Nat.le_of_ble_eq_true rfl, Nat.le_of_ble_eq_true rfl⟩ rfl hl.1 rfl (Nat.le_of_ble_eq_true rfl) dX12_alters_8 ⟨Nat.le_of_ble_eq_true rfl, Nat.le_of_ble_eq_true rfl⟩) (fun u => [(h0, .inr (11, oX12 r0 I_0_isFound I_0_foundB I_0_changes I_0_taped I_0_size I_0_at I_0_signs I_0_wanted I_0_sign I_0_isKept I_0_keptFound I_0_keptB I_0_keptChanges)), ((r0 19), .inl (cI, 5, .inl A_0_19_mind)), ((r0 20), .inl (cI, 5, .inl u))]) (fun _ => rfl) (fun _ => rfl) (fun b14 H locs h hM => ?_)
    exact jq11 _ _ _ _ _ _ h hM (lv_sub hl [1, 2, 3, 0] rfl)
abbrev rm_X12_planned : Room := { frames := 4, cells := 0, slots := 0, locals := 89 }
set_option maxRecDepth 100000 in
set_option maxHeartbeats 4000000 in
theorem ct_X12_planned (l : Launch) (D : va_G) (cI cJ cZ : ClassId) (h0 : Nat) (r0 : Nat → Nat) (I_0_isFound : Int32) (I_0_foundB : Int32) (I_0_changes : Int32) (I_0_taped : Int32) (I_0_size : Int32) (I_0_at : Int32) (I_0_signs : Int32) (I_0_wanted : Int32) (I_0_sign : Int32) (I_0_isKept : Int32) (I_0_keptFound : Int32) (I_0_keptB : Int32) (I_0_keptChanges : Int32) (A_0_0_f : (Nat → Int32)) (A_0_17_changeWhats : (Nat → Int32)) (A_0_18_changeVs : (Nat → Int32)) (A_0_19_mind : (Nat → Int32)) (A_0_20_moved : (Nat → Int32)) (sz : Nat) (K : (Nat → Int32) → (Nat → Int32) → Prop) (h : wp_X12_planned I_0_changes A_0_0_f A_0_17_changeWhats A_0_18_changeVs A_0_19_mind A_0_20_moved K) : Met l yX12_planned wsX12_planned rm_X12_planned (va_Pc [.ref h0] (WX D cI cJ cZ [(h0, .inr (11, oX12 r0 I_0_isFound I_0_foundB I_0_changes I_0_taped I_0_size I_0_at I_0_signs I_0_wanted I_0_sign I_0_isKept I_0_keptFound I_0_keptB I_0_keptChanges)), ((r0 0), .inl (cI, 5, .inl A_0_0_f)), ((r0 17), .inl (cI, 8, .inl A_0_17_changeWhats)), ((r0 18), .inl (cI, 8, .inl A_0_18_changeVs)), ((r0 19), .inl (cI, 5, .inl A_0_19_mind)), ((r0 20), .inl (cI, 5, .inl A_0_20_moved))] sz)) (va_Qv (fun (u : (Nat → Int32) × (Nat → Int32)) => K u.1 u.2) (fun (u : (Nat → Int32) × (Nat → Int32)) t => WY D (va_A [(h0, .inr (11, oX12 r0 I_0_isFound I_0_foundB I_0_changes I_0_taped I_0_size I_0_at I_0_signs I_0_wanted I_0_sign I_0_isKept I_0_keptFound I_0_keptB I_0_keptChanges)), ((r0 0), .inl (cI, 5, .inl A_0_0_f)), ((r0 17), .inl (cI, 8, .inl A_0_17_changeWhats)), ((r0 18), .inl (cI, 8, .inl A_0_18_changeVs)), ((r0 19), .inl (cI, 5, .inl A_0_19_mind)), ((r0 20), .inl (cI, 5, .inl A_0_20_moved))] sz) [(h0, .inr (11, oX12 r0 I_0_isFound I_0_foundB I_0_changes I_0_taped I_0_size I_0_at I_0_signs I_0_wanted I_0_sign I_0_isKept I_0_keptFound I_0_keptB I_0_keptChanges)), ((r0 0), .inl (cI, 5, .inl A_0_0_f)), ((r0 17), .inl (cI, 8, .inl A_0_17_changeWhats)), ((r0 18), .inl (cI, 8, .inl A_0_18_changeVs)), ((r0 19), .inl (cI, 5, .inl u.1)), ((r0 20), .inl (cI, 5, .inl u.2))] t) (va_A [(h0, .inr (11, oX12 r0 I_0_isFound I_0_foundB I_0_changes I_0_taped I_0_size I_0_at I_0_signs I_0_wanted I_0_sign I_0_isKept I_0_keptFound I_0_keptB I_0_keptChanges)), ((r0 0), .inl (cI, 5, .inl A_0_0_f)), ((r0 17), .inl (cI, 8, .inl A_0_17_changeWhats)), ((r0 18), .inl (cI, 8, .inl A_0_18_changeVs)), ((r0 19), .inl (cI, 5, .inl A_0_19_mind)), ((r0 20), .inl (cI, 5, .inl A_0_20_moved))] sz)) 0 0 (va_A [(h0, .inr (11, oX12 r0 I_0_isFound I_0_foundB I_0_changes I_0_taped I_0_size I_0_at I_0_signs I_0_wanted I_0_sign I_0_isKept I_0_keptFound I_0_keptB I_0_keptChanges)), ((r0 0), .inl (cI, 5, .inl A_0_0_f)), ((r0 17), .inl (cI, 8, .inl A_0_17_changeWhats)), ((r0 18), .inl (cI, 8, .inl A_0_18_changeVs)), ((r0 19), .inl (cI, 5, .inl A_0_19_mind)), ((r0 20), .inl (cI, 5, .inl A_0_20_moved))] sz) := by
  refine m_met (own := RX12) (cc := cX12_planned) (maxL := 2) (ret := none) [.ref h0] [(0, .ref h0)] (by decide) rfl rfl (Nat.le_of_ble_eq_true rfl) rfl ?_
  intro p e s m args below meth c Q A hQ hA C0 hr hnm hsz hM ls hl
  have hx := C0.1
  have hb := C0.2.1
  have hown := C0.2.2.2.1
  have lq27 : ∀ (k27 : Nat) (x1 : Int32) (A_0_19_mind : (Nat → Int32)) (A_0_20_moved : (Nat → Int32)) (H : Heap) (locs : List Loc) (ls : Array Slot) , lp_X12_planned_27 I_0_changes A_0_0_f A_0_17_changeWhats A_0_18_changeVs K k27 x1 A_0_19_mind A_0_20_moved → MW D A s.heap [(h0, .inr (11, oX12 r0 I_0_isFound I_0_foundB I_0_changes I_0_taped I_0_size I_0_at I_0_signs I_0_wanted I_0_sign I_0_isKept I_0_keptFound I_0_keptB I_0_keptChanges)), ((r0 0), .inl (cI, 5, .inl A_0_0_f)), ((r0 17), .inl (cI, 8, .inl A_0_17_changeWhats)), ((r0 18), .inl (cI, 8, .inl A_0_18_changeVs)), ((r0 19), .inl (cI, 5, .inl A_0_19_mind)), ((r0 20), .inl (cI, 5, .inl A_0_20_moved))] H locs → lv_has ls 2 [(0, .ref h0), (1, .int x1)] → W p l e rm_X12_planned s m args below meth c H locs 0 0 Q (F0 m 27 ls []) := by
    intro k27
    induction k27 with
    | zero =>
      intro x1 A_0_19_mind A_0_20_moved H locs ls h
      unfold lp_X12_planned_27 at h
      exact h.elim
    | succ k27 ih27 =>
      intro x1 A_0_19_mind A_0_20_moved H locs ls h hM hl
      unfold lp_X12_planned_27 at h
      refine lv_iload_n hx hb dX12_planned_27 rfl (lv_at hl 1 rfl) ?_
      refine lv_aload_n hx hb dX12_planned_28 rfl (lv_at hl 0 rfl) ?_
      refine m_get (C := RX12) (T := TX12) (N := 45) (ci := 11) (ref := "LoweredPowersModel") (v := .int I_0_changes) C0 hM 0 rfl rfl kt_X12_planned_X12 16 (by decide) kw_X12_planned_3 rfl rfl dX12_planned_29 ?_
      refine lv_icmp_ge (tgt := 57) hx hb dX12_planned_32 (by decide) (fun hq => ?_) (fun hq => ?_)
      · have h := h.1 hq
        subst hsz; subst hA; subst hQ
        exact m_vret C0 hr hM (A_0_19_mind, A_0_20_moved) h rfl dX12_planned_57
      · have h := h.2 hq
        refine lv_aload_n hx hb dX12_planned_35 rfl (lv_at hl 0 rfl) ?_
        refine lv_aload_n hx hb dX12_planned_36 rfl (lv_at hl 0 rfl) ?_
        refine m_get (C := RX12) (T := TX12) (N := 45) (ci := 11) (ref := "LoweredPowersModel") (v := .ref (r0 17)) C0 hM 0 rfl rfl kt_X12_planned_X12 17 (by decide) kw_X12_planned_4 rfl rfl dX12_planned_37 ?_
        refine lv_iload_n hx hb dX12_planned_40 rfl (lv_at hl 1 rfl) ?_
        obtain ⟨hc1, h⟩ := h
        refine m_iald C0 hM 2 rfl hc1 dX12_planned_41 ?_
        refine lv_aload_n hx hb dX12_planned_42 rfl (lv_at hl 0 rfl) ?_
        refine m_get (C := RX12) (T := TX12) (N := 45) (ci := 11) (ref := "LoweredPowersModel") (v := .ref (r0 18)) C0 hM 0 rfl rfl kt_X12_planned_X12 18 (by decide) kw_X12_planned_5 rfl rfl dX12_planned_43 ?_
        refine lv_iload_n hx hb dX12_planned_46 rfl (lv_at hl 1 rfl) ?_
        refine m_iald C0 hM 3 rfl hc1 dX12_planned_47 ?_
        refine m_callv (wc := [(h0, .inr (11, oX12 r0 I_0_isFound I_0_foundB I_0_changes I_0_taped I_0_size I_0_at I_0_signs I_0_wanted I_0_sign I_0_isKept I_0_keptFound I_0_keptB I_0_keptChanges)), ((r0 19), .inl (cI, 5, .inl A_0_19_mind)), ((r0 20), .inl (cI, 5, .inl A_0_20_moved))]) C0 hM [0, 4, 5] rfl (m_runV (wc := [(h0, .inr (11, oX12 r0 I_0_isFound I_0_foundB I_0_changes I_0_taped I_0_size I_0_at I_0_signs I_0_wanted I_0_sign I_0_isKept I_0_keptFound I_0_keptB I_0_keptChanges)), ((r0 19), .inl (cI, 5, .inl A_0_19_mind)), ((r0 20), .inl (cI, 5, .inl A_0_20_moved))]) (As := [.int (A_0_17_changeWhats (x1).toNatClampNeg), .int (A_0_18_changeVs (x1).toNatClampNeg)]) (rest := []) (ci := 11) C0 hM (ct_X12_alters l D cI cJ cZ h0 r0 I_0_isFound I_0_foundB I_0_changes I_0_taped I_0_size I_0_at I_0_signs I_0_wanted I_0_sign I_0_isKept I_0_keptFound I_0_keptB I_0_keptChanges A_0_19_mind A_0_20_moved (A_0_17_changeWhats (x1).toNatClampNeg) (A_0_18_changeVs (x1).toNatClampNeg) _ _ h) [0, 4, 5] rfl (by decide) gX12_planned_X12_alters rfl rfl rfl rfl rfl hd_X12_alters ⟨Nat.le_of_ble_eq_true rfl, Nat.le_of_ble_eq_true rfl⟩ rfl hl.1 rfl (Nat.le_of_ble_eq_true rfl) dX12_planned_48 ⟨Nat.le_of_ble_eq_true rfl, Nat.le_of_ble_eq_true rfl⟩) (fun u => [(h0, .inr (11, oX12 r0 I_0_isFound I_0_foundB I_0_changes I_0_taped I_0_size I_0_at I_0_signs I_0_wanted I_0_sign I_0_isKept I_0_keptFound I_0_keptB I_0_keptChanges)), ((r0 0), .inl (cI, 5, .inl A_0_0_f)), ((r0 17), .inl (cI, 8, .inl A_0_17_changeWhats)), ((r0 18), .inl (cI, 8, .inl A_0_18_changeVs)), ((r0 19), .inl (cI, 5, .inl u.1)), ((r0 20), .inl (cI, 5, .inl u.2))]) (fun _ => rfl) (fun _ => rfl) (fun u H locs h hM => ?_)
        obtain ⟨b2, b3⟩ := u
        dsimp only at h
        have hM : MW D A s.heap [(h0, .inr (11, oX12 r0 I_0_isFound I_0_foundB I_0_changes I_0_taped I_0_size I_0_at I_0_signs I_0_wanted I_0_sign I_0_isKept I_0_keptFound I_0_keptB I_0_keptChanges)), ((r0 0), .inl (cI, 5, .inl A_0_0_f)), ((r0 17), .inl (cI, 8, .inl A_0_17_changeWhats)), ((r0 18), .inl (cI, 8, .inl A_0_18_changeVs)), ((r0 19), .inl (cI, 5, .inl b2)), ((r0 20), .inl (cI, 5, .inl b3))] H locs := hM
        refine lv_iinc (v := (x1 + (1 : Int32))) (lv' := [(1, .int (x1 + (1 : Int32))), (0, .ref h0)]) hx hb dX12_planned_51 hl (k := 1) rfl rfl (by decide) rfl (fun ls hl => ?_)
        refine lv_goto (tgt := 27) hx hb dX12_planned_54 (by decide) ?_
        exact ih27 _ _ _ _ _ _ h hM (lv_sub hl [1, 0] rfl)
  have jq25 : ∀ (A_0_19_mind : (Nat → Int32)) (A_0_20_moved : (Nat → Int32)) (H : Heap) (locs : List Loc) (ls : Array Slot) , jn_X12_planned_25 I_0_changes A_0_0_f A_0_17_changeWhats A_0_18_changeVs K A_0_19_mind A_0_20_moved → MW D A s.heap [(h0, .inr (11, oX12 r0 I_0_isFound I_0_foundB I_0_changes I_0_taped I_0_size I_0_at I_0_signs I_0_wanted I_0_sign I_0_isKept I_0_keptFound I_0_keptB I_0_keptChanges)), ((r0 0), .inl (cI, 5, .inl A_0_0_f)), ((r0 17), .inl (cI, 8, .inl A_0_17_changeWhats)), ((r0 18), .inl (cI, 8, .inl A_0_18_changeVs)), ((r0 19), .inl (cI, 5, .inl A_0_19_mind)), ((r0 20), .inl (cI, 5, .inl A_0_20_moved))] H locs → lv_has ls 2 [(0, .ref h0)] → W p l e rm_X12_planned s m args below meth c H locs 0 0 Q (F0 m 25 ls []) := by
    intro A_0_19_mind A_0_20_moved H locs ls h hM hl
    unfold jn_X12_planned_25 at h
    refine lv_iconst (v := (0 : Int32)) hx hb dX12_planned_25 (by decide) ?_
    refine lv_istore_n (lv' := [(1, .int (0 : Int32)), (0, .ref h0)]) hx hb dX12_planned_26 rfl hl (by decide) rfl (fun ls hl => ?_)
    obtain ⟨k0, h⟩ := h
    exact lq27 k0 _ _ _ _ _ _ h hM (lv_sub hl [1, 0] rfl)
  have lq2 : ∀ (k2 : Nat) (x1 : Int32) (A_0_19_mind : (Nat → Int32)) (A_0_20_moved : (Nat → Int32)) (H : Heap) (locs : List Loc) (ls : Array Slot) , lp_X12_planned_2 I_0_changes A_0_0_f A_0_17_changeWhats A_0_18_changeVs (jn_X12_planned_25 I_0_changes A_0_0_f A_0_17_changeWhats A_0_18_changeVs K) K k2 x1 A_0_19_mind A_0_20_moved → MW D A s.heap [(h0, .inr (11, oX12 r0 I_0_isFound I_0_foundB I_0_changes I_0_taped I_0_size I_0_at I_0_signs I_0_wanted I_0_sign I_0_isKept I_0_keptFound I_0_keptB I_0_keptChanges)), ((r0 0), .inl (cI, 5, .inl A_0_0_f)), ((r0 17), .inl (cI, 8, .inl A_0_17_changeWhats)), ((r0 18), .inl (cI, 8, .inl A_0_18_changeVs)), ((r0 19), .inl (cI, 5, .inl A_0_19_mind)), ((r0 20), .inl (cI, 5, .inl A_0_20_moved))] H locs → lv_has ls 2 [(0, .ref h0), (1, .int x1)] → W p l e rm_X12_planned s m args below meth c H locs 0 0 Q (F0 m 2 ls []) := by
    intro k2
    induction k2 with
    | zero =>
      intro x1 A_0_19_mind A_0_20_moved H locs ls h
      unfold lp_X12_planned_2 at h
      exact h.elim
    | succ k2 ih2 =>
      intro x1 A_0_19_mind A_0_20_moved H locs ls h hM hl
      unfold lp_X12_planned_2 at h
      refine lv_iload_n hx hb dX12_planned_2 rfl (lv_at hl 1 rfl) ?_
      refine lv_iconst (v := (5 : Int32)) hx hb dX12_planned_3 (by decide) ?_
      refine lv_icmp_ge (tgt := 25) hx hb dX12_planned_4 (by decide) (fun hq => ?_) (fun hq => ?_)
      · have h := h.1 hq
        exact jq25 _ _ _ _ _ h hM (lv_sub hl [0] rfl)
      · have h := h.2 hq
        refine lv_aload_n hx hb dX12_planned_7 rfl (lv_at hl 0 rfl) ?_
        refine m_get (C := RX12) (T := TX12) (N := 45) (ci := 11) (ref := "LoweredPowersModel") (v := .ref (r0 19)) C0 hM 0 rfl rfl kt_X12_planned_X12 19 (by decide) kw_X12_planned_1 rfl rfl dX12_planned_8 ?_
        refine lv_iload_n hx hb dX12_planned_11 rfl (lv_at hl 1 rfl) ?_
        refine lv_aload_n hx hb dX12_planned_12 rfl (lv_at hl 0 rfl) ?_
        refine m_get (C := RX12) (T := TX12) (N := 45) (ci := 11) (ref := "LoweredPowersModel") (v := .ref (r0 0)) C0 hM 0 rfl rfl kt_X12_planned_X12 0 (by decide) kw_X12_planned_2 rfl rfl dX12_planned_13 ?_
        refine lv_iload_n hx hb dX12_planned_16 rfl (lv_at hl 1 rfl) ?_
        obtain ⟨hc4, h⟩ := h
        refine m_iald C0 hM 1 rfl hc4 dX12_planned_17 ?_
        refine lv_topi (fun y5 ey5 => ?_)
        have h := h y5 ey5
        refine m_iast (ws' := [(h0, .inr (11, oX12 r0 I_0_isFound I_0_foundB I_0_changes I_0_taped I_0_size I_0_at I_0_signs I_0_wanted I_0_sign I_0_isKept I_0_keptFound I_0_keptB I_0_keptChanges)), ((r0 0), .inl (cI, 5, .inl A_0_0_f)), ((r0 17), .inl (cI, 8, .inl A_0_17_changeWhats)), ((r0 18), .inl (cI, 8, .inl A_0_18_changeVs)), ((r0 19), .inl (cI, 5, .inl (upd A_0_19_mind (x1).toNatClampNeg y5))), ((r0 20), .inl (cI, 5, .inl A_0_20_moved))]) C0 hM 4 rfl hc4 rfl dX12_planned_18 (fun H locs hM => ?_)
        refine lv_iinc (v := (x1 + (1 : Int32))) (lv' := [(1, .int (x1 + (1 : Int32))), (0, .ref h0)]) hx hb dX12_planned_19 hl (k := 1) rfl rfl (by decide) rfl (fun ls hl => ?_)
        refine lv_goto (tgt := 2) hx hb dX12_planned_22 (by decide) ?_
        exact ih2 _ _ _ _ _ _ h hM (lv_sub hl [1, 0] rfl)
  unfold wp_X12_planned at h
  refine lv_iconst (v := (0 : Int32)) hx hb dX12_planned_0 (by decide) ?_
  refine lv_istore_n (lv' := [(1, .int (0 : Int32)), (0, .ref h0)]) hx hb dX12_planned_1 rfl hl (by decide) rfl (fun ls hl => ?_)
  obtain ⟨k0, h⟩ := h
  exact lq2 k0 _ _ _ _ _ _ h hM (lv_sub hl [1, 0] rfl)
abbrev rm_X12_run : Room := { frames := 5, cells := 0, slots := 0, locals := 110 }
set_option maxRecDepth 100000 in
set_option maxHeartbeats 4000000 in
theorem ct_X12_run (l : Launch) (D : va_G) (cI cJ cZ : ClassId) (h0 : Nat) (r0 : Nat → Nat) (I_0_isFound : Int32) (I_0_foundB : Int32) (I_0_changes : Int32) (I_0_taped : Int32) (I_0_size : Int32) (I_0_at : Int32) (I_0_signs : Int32) (I_0_wanted : Int32) (I_0_sign : Int32) (I_0_isKept : Int32) (I_0_keptFound : Int32) (I_0_keptB : Int32) (I_0_keptChanges : Int32) (A_0_0_f : (Nat → Int32)) (A_0_17_changeWhats : (Nat → Int32)) (A_0_18_changeVs : (Nat → Int32)) (A_0_19_mind : (Nat → Int32)) (A_0_20_moved : (Nat → Int32)) (sz : Nat) (K : Int32 → (Nat → Int32) → (Nat → Int32) → (Nat → Int32) → Prop) (h : wp_X12_run I_0_changes A_0_0_f A_0_17_changeWhats A_0_18_changeVs A_0_19_mind A_0_20_moved K) : Met l yX12_run wsX12_run rm_X12_run (va_Pc [.ref h0] (WX D cI cJ cZ [(h0, .inr (11, oX12 r0 I_0_isFound I_0_foundB I_0_changes I_0_taped I_0_size I_0_at I_0_signs I_0_wanted I_0_sign I_0_isKept I_0_keptFound I_0_keptB I_0_keptChanges)), ((r0 0), .inl (cI, 5, .inl A_0_0_f)), ((r0 17), .inl (cI, 8, .inl A_0_17_changeWhats)), ((r0 18), .inl (cI, 8, .inl A_0_18_changeVs)), ((r0 19), .inl (cI, 5, .inl A_0_19_mind)), ((r0 20), .inl (cI, 5, .inl A_0_20_moved))] sz)) (va_Qi (fun (r : Int32) (u : (Nat → Int32) × (Nat → Int32) × (Nat → Int32)) => K r u.1 u.2.1 u.2.2) (fun (u : (Nat → Int32) × (Nat → Int32) × (Nat → Int32)) t => WY D (va_A [(h0, .inr (11, oX12 r0 I_0_isFound I_0_foundB I_0_changes I_0_taped I_0_size I_0_at I_0_signs I_0_wanted I_0_sign I_0_isKept I_0_keptFound I_0_keptB I_0_keptChanges)), ((r0 0), .inl (cI, 5, .inl A_0_0_f)), ((r0 17), .inl (cI, 8, .inl A_0_17_changeWhats)), ((r0 18), .inl (cI, 8, .inl A_0_18_changeVs)), ((r0 19), .inl (cI, 5, .inl A_0_19_mind)), ((r0 20), .inl (cI, 5, .inl A_0_20_moved))] sz) [(h0, .inr (11, oX12 r0 I_0_isFound I_0_foundB I_0_changes I_0_taped I_0_size I_0_at I_0_signs I_0_wanted I_0_sign I_0_isKept I_0_keptFound I_0_keptB I_0_keptChanges)), ((r0 0), .inl (cI, 5, .inl u.1)), ((r0 17), .inl (cI, 8, .inl A_0_17_changeWhats)), ((r0 18), .inl (cI, 8, .inl A_0_18_changeVs)), ((r0 19), .inl (cI, 5, .inl u.2.1)), ((r0 20), .inl (cI, 5, .inl u.2.2))] t) (va_A [(h0, .inr (11, oX12 r0 I_0_isFound I_0_foundB I_0_changes I_0_taped I_0_size I_0_at I_0_signs I_0_wanted I_0_sign I_0_isKept I_0_keptFound I_0_keptB I_0_keptChanges)), ((r0 0), .inl (cI, 5, .inl A_0_0_f)), ((r0 17), .inl (cI, 8, .inl A_0_17_changeWhats)), ((r0 18), .inl (cI, 8, .inl A_0_18_changeVs)), ((r0 19), .inl (cI, 5, .inl A_0_19_mind)), ((r0 20), .inl (cI, 5, .inl A_0_20_moved))] sz)) 0 0 (va_A [(h0, .inr (11, oX12 r0 I_0_isFound I_0_foundB I_0_changes I_0_taped I_0_size I_0_at I_0_signs I_0_wanted I_0_sign I_0_isKept I_0_keptFound I_0_keptB I_0_keptChanges)), ((r0 0), .inl (cI, 5, .inl A_0_0_f)), ((r0 17), .inl (cI, 8, .inl A_0_17_changeWhats)), ((r0 18), .inl (cI, 8, .inl A_0_18_changeVs)), ((r0 19), .inl (cI, 5, .inl A_0_19_mind)), ((r0 20), .inl (cI, 5, .inl A_0_20_moved))] sz) := by
  refine m_met (own := RX12) (cc := cX12_run) (maxL := 2) (ret := some .int) [.ref h0] [(0, .ref h0)] (by decide) rfl rfl (Nat.le_of_ble_eq_true rfl) rfl ?_
  intro p e s m args below meth c Q A hQ hA C0 hr hnm hsz hM ls hl
  have hx := C0.1
  have hb := C0.2.1
  have hown := C0.2.2.2.1
  have jq29 : ∀ (A_0_0_f : (Nat → Int32)) (A_0_19_mind : (Nat → Int32)) (A_0_20_moved : (Nat → Int32)) (H : Heap) (locs : List Loc) (ls : Array Slot) , jn_X12_run_29 I_0_changes A_0_17_changeWhats A_0_18_changeVs K A_0_0_f A_0_19_mind A_0_20_moved → MW D A s.heap [(h0, .inr (11, oX12 r0 I_0_isFound I_0_foundB I_0_changes I_0_taped I_0_size I_0_at I_0_signs I_0_wanted I_0_sign I_0_isKept I_0_keptFound I_0_keptB I_0_keptChanges)), ((r0 0), .inl (cI, 5, .inl A_0_0_f)), ((r0 17), .inl (cI, 8, .inl A_0_17_changeWhats)), ((r0 18), .inl (cI, 8, .inl A_0_18_changeVs)), ((r0 19), .inl (cI, 5, .inl A_0_19_mind)), ((r0 20), .inl (cI, 5, .inl A_0_20_moved))] H locs → lv_has ls 2 [(0, .ref h0)] → W p l e rm_X12_run s m args below meth c H locs 0 0 Q (F0 m 29 ls []) := by
    intro A_0_0_f A_0_19_mind A_0_20_moved H locs ls h hM hl
    unfold jn_X12_run_29 at h
    refine lv_aload_n hx hb dX12_run_29 rfl (lv_at hl 0 rfl) ?_
    refine m_calli (wc := [(h0, .inr (11, oX12 r0 I_0_isFound I_0_foundB I_0_changes I_0_taped I_0_size I_0_at I_0_signs I_0_wanted I_0_sign I_0_isKept I_0_keptFound I_0_keptB I_0_keptChanges)), ((r0 0), .inl (cI, 5, .inl A_0_0_f))]) C0 hM [0, 1] rfl (m_runV (wc := [(h0, .inr (11, oX12 r0 I_0_isFound I_0_foundB I_0_changes I_0_taped I_0_size I_0_at I_0_signs I_0_wanted I_0_sign I_0_isKept I_0_keptFound I_0_keptB I_0_keptChanges)), ((r0 0), .inl (cI, 5, .inl A_0_0_f))]) (As := []) (rest := []) (ci := 11) C0 hM (ct_X12_degreeOf l D cI cJ cZ h0 r0 I_0_isFound I_0_foundB I_0_changes I_0_taped I_0_size I_0_at I_0_signs I_0_wanted I_0_sign I_0_isKept I_0_keptFound I_0_keptB I_0_keptChanges A_0_0_f _ _ h) [0, 1] rfl (by decide) gX12_run_X12_degreeOf rfl rfl rfl rfl rfl hd_X12_degreeOf ⟨Nat.le_of_ble_eq_true rfl, Nat.le_of_ble_eq_true rfl⟩ rfl hl.1 rfl (Nat.le_of_ble_eq_true rfl) dX12_run_30 ⟨Nat.le_of_ble_eq_true rfl, Nat.le_of_ble_eq_true rfl⟩) (fun _ => [(h0, .inr (11, oX12 r0 I_0_isFound I_0_foundB I_0_changes I_0_taped I_0_size I_0_at I_0_signs I_0_wanted I_0_sign I_0_isKept I_0_keptFound I_0_keptB I_0_keptChanges)), ((r0 0), .inl (cI, 5, .inl A_0_0_f)), ((r0 17), .inl (cI, 8, .inl A_0_17_changeWhats)), ((r0 18), .inl (cI, 8, .inl A_0_18_changeVs)), ((r0 19), .inl (cI, 5, .inl A_0_19_mind)), ((r0 20), .inl (cI, 5, .inl A_0_20_moved))]) (fun _ => rfl) (fun _ => rfl) (fun y1 _ H locs h hM => ?_)
    subst hsz; subst hA; subst hQ
    exact m_iret C0 hr hM (A_0_0_f, A_0_19_mind, A_0_20_moved) h rfl dX12_run_33
  have lq6 : ∀ (k6 : Nat) (x1 : Int32) (A_0_0_f : (Nat → Int32)) (A_0_19_mind : (Nat → Int32)) (A_0_20_moved : (Nat → Int32)) (H : Heap) (locs : List Loc) (ls : Array Slot) , lp_X12_run_6 I_0_changes A_0_17_changeWhats A_0_18_changeVs (jn_X12_run_29 I_0_changes A_0_17_changeWhats A_0_18_changeVs K) K k6 x1 A_0_0_f A_0_19_mind A_0_20_moved → MW D A s.heap [(h0, .inr (11, oX12 r0 I_0_isFound I_0_foundB I_0_changes I_0_taped I_0_size I_0_at I_0_signs I_0_wanted I_0_sign I_0_isKept I_0_keptFound I_0_keptB I_0_keptChanges)), ((r0 0), .inl (cI, 5, .inl A_0_0_f)), ((r0 17), .inl (cI, 8, .inl A_0_17_changeWhats)), ((r0 18), .inl (cI, 8, .inl A_0_18_changeVs)), ((r0 19), .inl (cI, 5, .inl A_0_19_mind)), ((r0 20), .inl (cI, 5, .inl A_0_20_moved))] H locs → lv_has ls 2 [(0, .ref h0), (1, .int x1)] → W p l e rm_X12_run s m args below meth c H locs 0 0 Q (F0 m 6 ls []) := by
    intro k6
    induction k6 with
    | zero =>
      intro x1 A_0_0_f A_0_19_mind A_0_20_moved H locs ls h
      unfold lp_X12_run_6 at h
      exact h.elim
    | succ k6 ih6 =>
      intro x1 A_0_0_f A_0_19_mind A_0_20_moved H locs ls h hM hl
      unfold lp_X12_run_6 at h
      refine lv_iload_n hx hb dX12_run_6 rfl (lv_at hl 1 rfl) ?_
      refine lv_iconst (v := (5 : Int32)) hx hb dX12_run_7 (by decide) ?_
      refine lv_icmp_ge (tgt := 29) hx hb dX12_run_8 (by decide) (fun hq => ?_) (fun hq => ?_)
      · have h := h.1 hq
        exact jq29 _ _ _ _ _ _ h hM (lv_sub hl [0] rfl)
      · have h := h.2 hq
        refine lv_aload_n hx hb dX12_run_11 rfl (lv_at hl 0 rfl) ?_
        refine m_get (C := RX12) (T := TX12) (N := 45) (ci := 11) (ref := "LoweredPowersModel") (v := .ref (r0 0)) C0 hM 0 rfl rfl kt_X12_run_X12 0 (by decide) kw_X12_run_1 rfl rfl dX12_run_12 ?_
        refine lv_iload_n hx hb dX12_run_15 rfl (lv_at hl 1 rfl) ?_
        refine lv_aload_n hx hb dX12_run_16 rfl (lv_at hl 0 rfl) ?_
        refine m_get (C := RX12) (T := TX12) (N := 45) (ci := 11) (ref := "LoweredPowersModel") (v := .ref (r0 19)) C0 hM 0 rfl rfl kt_X12_run_X12 19 (by decide) kw_X12_run_2 rfl rfl dX12_run_17 ?_
        refine lv_iload_n hx hb dX12_run_20 rfl (lv_at hl 1 rfl) ?_
        obtain ⟨hc2, h⟩ := h
        refine m_iald C0 hM 4 rfl hc2 dX12_run_21 ?_
        refine lv_topi (fun y3 ey3 => ?_)
        have h := h y3 ey3
        refine m_iast (ws' := [(h0, .inr (11, oX12 r0 I_0_isFound I_0_foundB I_0_changes I_0_taped I_0_size I_0_at I_0_signs I_0_wanted I_0_sign I_0_isKept I_0_keptFound I_0_keptB I_0_keptChanges)), ((r0 0), .inl (cI, 5, .inl (upd A_0_0_f (x1).toNatClampNeg y3))), ((r0 17), .inl (cI, 8, .inl A_0_17_changeWhats)), ((r0 18), .inl (cI, 8, .inl A_0_18_changeVs)), ((r0 19), .inl (cI, 5, .inl A_0_19_mind)), ((r0 20), .inl (cI, 5, .inl A_0_20_moved))]) C0 hM 1 rfl hc2 rfl dX12_run_22 (fun H locs hM => ?_)
        refine lv_iinc (v := (x1 + (1 : Int32))) (lv' := [(1, .int (x1 + (1 : Int32))), (0, .ref h0)]) hx hb dX12_run_23 hl (k := 1) rfl rfl (by decide) rfl (fun ls hl => ?_)
        refine lv_goto (tgt := 6) hx hb dX12_run_26 (by decide) ?_
        exact ih6 _ _ _ _ _ _ _ h hM (lv_sub hl [1, 0] rfl)
  unfold wp_X12_run at h
  refine lv_aload_n hx hb dX12_run_0 rfl (lv_at hl 0 rfl) ?_
  refine m_callv (wc := [(h0, .inr (11, oX12 r0 I_0_isFound I_0_foundB I_0_changes I_0_taped I_0_size I_0_at I_0_signs I_0_wanted I_0_sign I_0_isKept I_0_keptFound I_0_keptB I_0_keptChanges)), ((r0 0), .inl (cI, 5, .inl A_0_0_f)), ((r0 17), .inl (cI, 8, .inl A_0_17_changeWhats)), ((r0 18), .inl (cI, 8, .inl A_0_18_changeVs)), ((r0 19), .inl (cI, 5, .inl A_0_19_mind)), ((r0 20), .inl (cI, 5, .inl A_0_20_moved))]) C0 hM [0, 1, 2, 3, 4, 5] rfl (m_runV (wc := [(h0, .inr (11, oX12 r0 I_0_isFound I_0_foundB I_0_changes I_0_taped I_0_size I_0_at I_0_signs I_0_wanted I_0_sign I_0_isKept I_0_keptFound I_0_keptB I_0_keptChanges)), ((r0 0), .inl (cI, 5, .inl A_0_0_f)), ((r0 17), .inl (cI, 8, .inl A_0_17_changeWhats)), ((r0 18), .inl (cI, 8, .inl A_0_18_changeVs)), ((r0 19), .inl (cI, 5, .inl A_0_19_mind)), ((r0 20), .inl (cI, 5, .inl A_0_20_moved))]) (As := []) (rest := []) (ci := 11) C0 hM (ct_X12_planned l D cI cJ cZ h0 r0 I_0_isFound I_0_foundB I_0_changes I_0_taped I_0_size I_0_at I_0_signs I_0_wanted I_0_sign I_0_isKept I_0_keptFound I_0_keptB I_0_keptChanges A_0_0_f A_0_17_changeWhats A_0_18_changeVs A_0_19_mind A_0_20_moved _ _ h) [0, 1, 2, 3, 4, 5] rfl (by decide) gX12_run_X12_planned rfl rfl rfl rfl rfl hd_X12_planned ⟨Nat.le_of_ble_eq_true rfl, Nat.le_of_ble_eq_true rfl⟩ rfl hl.1 rfl (Nat.le_of_ble_eq_true rfl) dX12_run_1 ⟨Nat.le_of_ble_eq_true rfl, Nat.le_of_ble_eq_true rfl⟩) (fun u => [(h0, .inr (11, oX12 r0 I_0_isFound I_0_foundB I_0_changes I_0_taped I_0_size I_0_at I_0_signs I_0_wanted I_0_sign I_0_isKept I_0_keptFound I_0_keptB I_0_keptChanges)), ((r0 0), .inl (cI, 5, .inl A_0_0_f)), ((r0 17), .inl (cI, 8, .inl A_0_17_changeWhats)), ((r0 18), .inl (cI, 8, .inl A_0_18_changeVs)), ((r0 19), .inl (cI, 5, .inl u.1)), ((r0 20), .inl (cI, 5, .inl u.2))]) (fun _ => rfl) (fun _ => rfl) (fun u H locs h hM => ?_)
  obtain ⟨b4, b5⟩ := u
  dsimp only at h
  have hM : MW D A s.heap [(h0, .inr (11, oX12 r0 I_0_isFound I_0_foundB I_0_changes I_0_taped I_0_size I_0_at I_0_signs I_0_wanted I_0_sign I_0_isKept I_0_keptFound I_0_keptB I_0_keptChanges)), ((r0 0), .inl (cI, 5, .inl A_0_0_f)), ((r0 17), .inl (cI, 8, .inl A_0_17_changeWhats)), ((r0 18), .inl (cI, 8, .inl A_0_18_changeVs)), ((r0 19), .inl (cI, 5, .inl b4)), ((r0 20), .inl (cI, 5, .inl b5))] H locs := hM
  refine lv_iconst (v := (0 : Int32)) hx hb dX12_run_4 (by decide) ?_
  refine lv_istore_n (lv' := [(1, .int (0 : Int32)), (0, .ref h0)]) hx hb dX12_run_5 rfl hl (by decide) rfl (fun ls hl => ?_)
  obtain ⟨k0, h⟩ := h
  exact lq6 k0 _ _ _ _ _ _ _ h hM (lv_sub hl [1, 0] rfl)
abbrev rm_X12_ahead : Room := { frames := 5, cells := 0, slots := 0, locals := 110 }
set_option maxRecDepth 100000 in
set_option maxHeartbeats 4000000 in
theorem ct_X12_ahead (l : Launch) (D : va_G) (cI cJ cZ : ClassId) (h0 : Nat) (r0 : Nat → Nat) (I_0_isFound : Int32) (I_0_foundB : Int32) (I_0_changes : Int32) (I_0_taped : Int32) (I_0_size : Int32) (I_0_at : Int32) (I_0_signs : Int32) (I_0_wanted : Int32) (I_0_sign : Int32) (I_0_isKept : Int32) (I_0_keptFound : Int32) (I_0_keptB : Int32) (I_0_keptChanges : Int32) (A_0_0_f : (Nat → Int32)) (A_0_17_changeWhats : (Nat → Int32)) (A_0_18_changeVs : (Nat → Int32)) (A_0_19_mind : (Nat → Int32)) (A_0_20_moved : (Nat → Int32)) (x1 : Int32) (sz : Nat) (K : Int32 → (Nat → Int32) → (Nat → Int32) → Prop) (h : wp_X12_ahead x1 I_0_changes A_0_0_f A_0_17_changeWhats A_0_18_changeVs A_0_19_mind A_0_20_moved K) : Met l yX12_ahead wsX12_ahead rm_X12_ahead (va_Pc [.ref h0, .int x1] (WX D cI cJ cZ [(h0, .inr (11, oX12 r0 I_0_isFound I_0_foundB I_0_changes I_0_taped I_0_size I_0_at I_0_signs I_0_wanted I_0_sign I_0_isKept I_0_keptFound I_0_keptB I_0_keptChanges)), ((r0 0), .inl (cI, 5, .inl A_0_0_f)), ((r0 17), .inl (cI, 8, .inl A_0_17_changeWhats)), ((r0 18), .inl (cI, 8, .inl A_0_18_changeVs)), ((r0 19), .inl (cI, 5, .inl A_0_19_mind)), ((r0 20), .inl (cI, 5, .inl A_0_20_moved))] sz)) (va_Qi (fun (r : Int32) (u : (Nat → Int32) × (Nat → Int32)) => K r u.1 u.2) (fun (u : (Nat → Int32) × (Nat → Int32)) t => WY D (va_A [(h0, .inr (11, oX12 r0 I_0_isFound I_0_foundB I_0_changes I_0_taped I_0_size I_0_at I_0_signs I_0_wanted I_0_sign I_0_isKept I_0_keptFound I_0_keptB I_0_keptChanges)), ((r0 0), .inl (cI, 5, .inl A_0_0_f)), ((r0 17), .inl (cI, 8, .inl A_0_17_changeWhats)), ((r0 18), .inl (cI, 8, .inl A_0_18_changeVs)), ((r0 19), .inl (cI, 5, .inl A_0_19_mind)), ((r0 20), .inl (cI, 5, .inl A_0_20_moved))] sz) [(h0, .inr (11, oX12 r0 I_0_isFound I_0_foundB I_0_changes I_0_taped I_0_size I_0_at I_0_signs I_0_wanted I_0_sign I_0_isKept I_0_keptFound I_0_keptB I_0_keptChanges)), ((r0 0), .inl (cI, 5, .inl A_0_0_f)), ((r0 17), .inl (cI, 8, .inl A_0_17_changeWhats)), ((r0 18), .inl (cI, 8, .inl A_0_18_changeVs)), ((r0 19), .inl (cI, 5, .inl u.1)), ((r0 20), .inl (cI, 5, .inl u.2))] t) (va_A [(h0, .inr (11, oX12 r0 I_0_isFound I_0_foundB I_0_changes I_0_taped I_0_size I_0_at I_0_signs I_0_wanted I_0_sign I_0_isKept I_0_keptFound I_0_keptB I_0_keptChanges)), ((r0 0), .inl (cI, 5, .inl A_0_0_f)), ((r0 17), .inl (cI, 8, .inl A_0_17_changeWhats)), ((r0 18), .inl (cI, 8, .inl A_0_18_changeVs)), ((r0 19), .inl (cI, 5, .inl A_0_19_mind)), ((r0 20), .inl (cI, 5, .inl A_0_20_moved))] sz)) 0 0 (va_A [(h0, .inr (11, oX12 r0 I_0_isFound I_0_foundB I_0_changes I_0_taped I_0_size I_0_at I_0_signs I_0_wanted I_0_sign I_0_isKept I_0_keptFound I_0_keptB I_0_keptChanges)), ((r0 0), .inl (cI, 5, .inl A_0_0_f)), ((r0 17), .inl (cI, 8, .inl A_0_17_changeWhats)), ((r0 18), .inl (cI, 8, .inl A_0_18_changeVs)), ((r0 19), .inl (cI, 5, .inl A_0_19_mind)), ((r0 20), .inl (cI, 5, .inl A_0_20_moved))] sz) := by
  refine m_met (own := RX12) (cc := cX12_ahead) (maxL := 2) (ret := some .int) [.ref h0, .int x1] [(0, .ref h0), (1, .int x1)] (by decide) rfl rfl (Nat.le_of_ble_eq_true rfl) rfl ?_
  intro p e s m args below meth c Q A hQ hA C0 hr hnm hsz hM ls hl
  have hx := C0.1
  have hb := C0.2.1
  have hown := C0.2.2.2.1
  unfold wp_X12_ahead at h
  refine lv_iload_n hx hb dX12_ahead_0 rfl (lv_at hl 1 rfl) ?_
  refine lv_iconst (v := (0 : Int32)) hx hb dX12_ahead_1 (by decide) ?_
  refine lv_iconst (v := (4 : Int32)) hx hb dX12_ahead_2 (by decide) ?_
  refine m_calli (wc := []) C0 hM [] rfl (m_runS (wc := []) (As := [.int x1, .int (0 : Int32), .int (4 : Int32)]) (rest := []) C0 hM (ct_X12_isIn l D cI cJ cZ x1 (0 : Int32) (4 : Int32) _ _ h) [] rfl (by decide) gX12_ahead_X12_isIn rfl rfl rfl hd_X12_isIn ⟨Nat.le_of_ble_eq_true rfl, Nat.le_of_ble_eq_true rfl⟩ rfl hl.1 rfl (Nat.le_of_ble_eq_true rfl) dX12_ahead_3 ⟨Nat.le_of_ble_eq_true rfl, Nat.le_of_ble_eq_true rfl⟩) (fun _ => [(h0, .inr (11, oX12 r0 I_0_isFound I_0_foundB I_0_changes I_0_taped I_0_size I_0_at I_0_signs I_0_wanted I_0_sign I_0_isKept I_0_keptFound I_0_keptB I_0_keptChanges)), ((r0 0), .inl (cI, 5, .inl A_0_0_f)), ((r0 17), .inl (cI, 8, .inl A_0_17_changeWhats)), ((r0 18), .inl (cI, 8, .inl A_0_18_changeVs)), ((r0 19), .inl (cI, 5, .inl A_0_19_mind)), ((r0 20), .inl (cI, 5, .inl A_0_20_moved))]) (fun _ => rfl) (fun _ => rfl) (fun y1 _ H locs h hM => ?_)
  refine lv_if_ne (tgt := 11) hx hb dX12_ahead_6 (by decide) (fun hq => ?_) (fun hq => ?_)
  · have h := h.1 hq
    refine lv_aload_n hx hb dX12_ahead_11 rfl (lv_at hl 0 rfl) ?_
    refine m_callv (wc := [(h0, .inr (11, oX12 r0 I_0_isFound I_0_foundB I_0_changes I_0_taped I_0_size I_0_at I_0_signs I_0_wanted I_0_sign I_0_isKept I_0_keptFound I_0_keptB I_0_keptChanges)), ((r0 0), .inl (cI, 5, .inl A_0_0_f)), ((r0 17), .inl (cI, 8, .inl A_0_17_changeWhats)), ((r0 18), .inl (cI, 8, .inl A_0_18_changeVs)), ((r0 19), .inl (cI, 5, .inl A_0_19_mind)), ((r0 20), .inl (cI, 5, .inl A_0_20_moved))]) C0 hM [0, 1, 2, 3, 4, 5] rfl (m_runV (wc := [(h0, .inr (11, oX12 r0 I_0_isFound I_0_foundB I_0_changes I_0_taped I_0_size I_0_at I_0_signs I_0_wanted I_0_sign I_0_isKept I_0_keptFound I_0_keptB I_0_keptChanges)), ((r0 0), .inl (cI, 5, .inl A_0_0_f)), ((r0 17), .inl (cI, 8, .inl A_0_17_changeWhats)), ((r0 18), .inl (cI, 8, .inl A_0_18_changeVs)), ((r0 19), .inl (cI, 5, .inl A_0_19_mind)), ((r0 20), .inl (cI, 5, .inl A_0_20_moved))]) (As := []) (rest := []) (ci := 11) C0 hM (ct_X12_planned l D cI cJ cZ h0 r0 I_0_isFound I_0_foundB I_0_changes I_0_taped I_0_size I_0_at I_0_signs I_0_wanted I_0_sign I_0_isKept I_0_keptFound I_0_keptB I_0_keptChanges A_0_0_f A_0_17_changeWhats A_0_18_changeVs A_0_19_mind A_0_20_moved _ _ h) [0, 1, 2, 3, 4, 5] rfl (by decide) gX12_ahead_X12_planned rfl rfl rfl rfl rfl hd_X12_planned ⟨Nat.le_of_ble_eq_true rfl, Nat.le_of_ble_eq_true rfl⟩ rfl hl.1 rfl (Nat.le_of_ble_eq_true rfl) dX12_ahead_12 ⟨Nat.le_of_ble_eq_true rfl, Nat.le_of_ble_eq_true rfl⟩) (fun u => [(h0, .inr (11, oX12 r0 I_0_isFound I_0_foundB I_0_changes I_0_taped I_0_size I_0_at I_0_signs I_0_wanted I_0_sign I_0_isKept I_0_keptFound I_0_keptB I_0_keptChanges)), ((r0 0), .inl (cI, 5, .inl A_0_0_f)), ((r0 17), .inl (cI, 8, .inl A_0_17_changeWhats)), ((r0 18), .inl (cI, 8, .inl A_0_18_changeVs)), ((r0 19), .inl (cI, 5, .inl u.1)), ((r0 20), .inl (cI, 5, .inl u.2))]) (fun _ => rfl) (fun _ => rfl) (fun u H locs h hM => ?_)
    obtain ⟨b2, b3⟩ := u
    dsimp only at h
    have hM : MW D A s.heap [(h0, .inr (11, oX12 r0 I_0_isFound I_0_foundB I_0_changes I_0_taped I_0_size I_0_at I_0_signs I_0_wanted I_0_sign I_0_isKept I_0_keptFound I_0_keptB I_0_keptChanges)), ((r0 0), .inl (cI, 5, .inl A_0_0_f)), ((r0 17), .inl (cI, 8, .inl A_0_17_changeWhats)), ((r0 18), .inl (cI, 8, .inl A_0_18_changeVs)), ((r0 19), .inl (cI, 5, .inl b2)), ((r0 20), .inl (cI, 5, .inl b3))] H locs := hM
    refine lv_aload_n hx hb dX12_ahead_15 rfl (lv_at hl 0 rfl) ?_
    refine m_get (C := RX12) (T := TX12) (N := 45) (ci := 11) (ref := "LoweredPowersModel") (v := .ref (r0 19)) C0 hM 0 rfl rfl kt_X12_ahead_X12 19 (by decide) kw_X12_ahead_1 rfl rfl dX12_ahead_16 ?_
    refine lv_iload_n hx hb dX12_ahead_19 rfl (lv_at hl 1 rfl) ?_
    obtain ⟨hc4, h⟩ := h
    refine m_iald C0 hM 4 rfl hc4 dX12_ahead_20 ?_
    refine m_calli (wc := []) C0 hM [] rfl (m_runS (wc := []) (As := [.int (b2 (x1).toNatClampNeg)]) (rest := []) C0 hM (ct_X12_told l D cI cJ cZ (b2 (x1).toNatClampNeg) _ _ h) [] rfl (by decide) gX12_ahead_X12_told rfl rfl rfl hd_X12_told ⟨Nat.le_of_ble_eq_true rfl, Nat.le_of_ble_eq_true rfl⟩ rfl hl.1 rfl (Nat.le_of_ble_eq_true rfl) dX12_ahead_21 ⟨Nat.le_of_ble_eq_true rfl, Nat.le_of_ble_eq_true rfl⟩) (fun _ => [(h0, .inr (11, oX12 r0 I_0_isFound I_0_foundB I_0_changes I_0_taped I_0_size I_0_at I_0_signs I_0_wanted I_0_sign I_0_isKept I_0_keptFound I_0_keptB I_0_keptChanges)), ((r0 0), .inl (cI, 5, .inl A_0_0_f)), ((r0 17), .inl (cI, 8, .inl A_0_17_changeWhats)), ((r0 18), .inl (cI, 8, .inl A_0_18_changeVs)), ((r0 19), .inl (cI, 5, .inl b2)), ((r0 20), .inl (cI, 5, .inl b3))]) (fun _ => rfl) (fun _ => rfl) (fun y5 _ H locs h hM => ?_)
    subst hsz; subst hA; subst hQ
    exact m_iret C0 hr hM (b2, b3) h rfl dX12_ahead_24
  · have h := h.2 hq
    refine lv_iconst (v := (-1 : Int32)) hx hb dX12_ahead_9 (by decide) ?_
    subst hsz; subst hA; subst hQ
    exact m_iret C0 hr hM (A_0_19_mind, A_0_20_moved) h rfl dX12_ahead_10
abbrev rm_X12_isRack : Room := { frames := 1, cells := 0, slots := 0, locals := 22 }
set_option maxRecDepth 100000 in
set_option maxHeartbeats 4000000 in
theorem ct_X12_isRack (l : Launch) (D : va_G) (cI cJ cZ : ClassId) (x0 : Int32) (sz : Nat) (K : Int32 → Prop) (h : wp_X12_isRack x0 K) : Met l yX12_isRack wsX12_isRack rm_X12_isRack (va_Pc [.int x0] (WX D cI cJ cZ [] sz)) (va_Qi (fun (r : Int32) (_ : Unit) => K r ) (fun (_ : Unit) t => WY D (va_A [] sz) [] t) (va_A [] sz)) 0 0 (va_A [] sz) := by
  refine m_met (own := RX12) (cc := cX12_isRack) (maxL := 1) (ret := some .boolean) [.int x0] [(0, .int x0)] (by decide) rfl rfl (Nat.le_of_ble_eq_true rfl) rfl ?_
  intro p e s m args below meth c Q A hQ hA C0 hr hnm hsz hM ls hl
  have hx := C0.1
  have hb := C0.2.1
  have hown := C0.2.2.2.1
  unfold wp_X12_isRack at h
  refine lv_iload_n hx hb dX12_isRack_0 rfl (lv_at hl 0 rfl) ?_
  refine lv_iconst (v := (0 : Int32)) hx hb dX12_isRack_1 (by decide) ?_
  refine lv_iconst (v := (2 : Int32)) hx hb dX12_isRack_2 (by decide) ?_
  refine m_calli (wc := []) C0 hM [] rfl (m_runS (wc := []) (As := [.int x0, .int (0 : Int32), .int (2 : Int32)]) (rest := []) C0 hM (ct_X12_isIn l D cI cJ cZ x0 (0 : Int32) (2 : Int32) _ _ h) [] rfl (by decide) gX12_isRack_X12_isIn rfl rfl rfl hd_X12_isIn ⟨Nat.le_of_ble_eq_true rfl, Nat.le_of_ble_eq_true rfl⟩ rfl hl.1 rfl (Nat.le_of_ble_eq_true rfl) dX12_isRack_3 ⟨Nat.le_of_ble_eq_true rfl, Nat.le_of_ble_eq_true rfl⟩) (fun _ => []) (fun _ => rfl) (fun _ => rfl) (fun y1 _ H locs h hM => ?_)
  obtain ⟨hc2, h⟩ := h
  subst hsz; subst hA; subst hQ
  exact m_zret C0 hr hM hc2 () h rfl dX12_isRack_6
abbrev rm_X12_rack : Room := { frames := 2, cells := 0, slots := 0, locals := 42 }
set_option maxRecDepth 100000 in
set_option maxHeartbeats 4000000 in
theorem ct_X12_rack (l : Launch) (D : va_G) (cI cJ cZ : ClassId) (h0 : Nat) (r0 : Nat → Nat) (I_0_isFound : Int32) (I_0_foundB : Int32) (I_0_changes : Int32) (I_0_taped : Int32) (I_0_size : Int32) (I_0_at : Int32) (I_0_signs : Int32) (I_0_wanted : Int32) (I_0_sign : Int32) (I_0_isKept : Int32) (I_0_keptFound : Int32) (I_0_keptB : Int32) (I_0_keptChanges : Int32) (A_0_21_rackKinds : (Nat → Int32)) (A_0_22_rackSizes : (Nat → Int32)) (A_0_24_areThere : (Nat → Int32)) (x1 : Int32) (x2 : Int32) (x3 : Int32) (sz : Nat) (K : Int32 → (Nat → Int32) → (Nat → Int32) → (Nat → Int32) → Prop) (h : wp_X12_rack x1 x2 x3 A_0_21_rackKinds A_0_22_rackSizes A_0_24_areThere K) : Met l yX12_rack wsX12_rack rm_X12_rack (va_Pc [.ref h0, .int x1, .int x2, .int x3] (WX D cI cJ cZ [(h0, .inr (11, oX12 r0 I_0_isFound I_0_foundB I_0_changes I_0_taped I_0_size I_0_at I_0_signs I_0_wanted I_0_sign I_0_isKept I_0_keptFound I_0_keptB I_0_keptChanges)), ((r0 21), .inl (cI, 3, .inl A_0_21_rackKinds)), ((r0 22), .inl (cI, 3, .inl A_0_22_rackSizes)), ((r0 24), .inl (cZ, 30, .inl A_0_24_areThere))] sz)) (va_Qi (fun (r : Int32) (u : (Nat → Int32) × (Nat → Int32) × (Nat → Int32)) => K r u.1 u.2.1 u.2.2) (fun (u : (Nat → Int32) × (Nat → Int32) × (Nat → Int32)) t => WY D (va_A [(h0, .inr (11, oX12 r0 I_0_isFound I_0_foundB I_0_changes I_0_taped I_0_size I_0_at I_0_signs I_0_wanted I_0_sign I_0_isKept I_0_keptFound I_0_keptB I_0_keptChanges)), ((r0 21), .inl (cI, 3, .inl A_0_21_rackKinds)), ((r0 22), .inl (cI, 3, .inl A_0_22_rackSizes)), ((r0 24), .inl (cZ, 30, .inl A_0_24_areThere))] sz) [(h0, .inr (11, oX12 r0 I_0_isFound I_0_foundB I_0_changes I_0_taped I_0_size I_0_at I_0_signs I_0_wanted I_0_sign I_0_isKept I_0_keptFound I_0_keptB I_0_keptChanges)), ((r0 21), .inl (cI, 3, .inl u.1)), ((r0 22), .inl (cI, 3, .inl u.2.1)), ((r0 24), .inl (cZ, 30, .inl u.2.2))] t) (va_A [(h0, .inr (11, oX12 r0 I_0_isFound I_0_foundB I_0_changes I_0_taped I_0_size I_0_at I_0_signs I_0_wanted I_0_sign I_0_isKept I_0_keptFound I_0_keptB I_0_keptChanges)), ((r0 21), .inl (cI, 3, .inl A_0_21_rackKinds)), ((r0 22), .inl (cI, 3, .inl A_0_22_rackSizes)), ((r0 24), .inl (cZ, 30, .inl A_0_24_areThere))] sz)) 0 0 (va_A [(h0, .inr (11, oX12 r0 I_0_isFound I_0_foundB I_0_changes I_0_taped I_0_size I_0_at I_0_signs I_0_wanted I_0_sign I_0_isKept I_0_keptFound I_0_keptB I_0_keptChanges)), ((r0 21), .inl (cI, 3, .inl A_0_21_rackKinds)), ((r0 22), .inl (cI, 3, .inl A_0_22_rackSizes)), ((r0 24), .inl (cZ, 30, .inl A_0_24_areThere))] sz) := by
  refine m_met (own := RX12) (cc := cX12_rack) (maxL := 5) (ret := some .int) [.ref h0, .int x1, .int x2, .int x3] [(0, .ref h0), (1, .int x1), (2, .int x2), (3, .int x3)] (by decide) rfl rfl (Nat.le_of_ble_eq_true rfl) rfl ?_
  intro p e s m args below meth c Q A hQ hA C0 hr hnm hsz hM ls hl
  have hx := C0.1
  have hb := C0.2.1
  have hown := C0.2.2.2.1
  have lq67 : ∀ (k67 : Nat) (x4 : Int32) (A_0_21_rackKinds : (Nat → Int32)) (A_0_22_rackSizes : (Nat → Int32)) (A_0_24_areThere : (Nat → Int32)) (H : Heap) (locs : List Loc) (ls : Array Slot) , lp_X12_rack_67 x1 x2 x3 K k67 x4 A_0_21_rackKinds A_0_22_rackSizes A_0_24_areThere → MW D A s.heap [(h0, .inr (11, oX12 r0 I_0_isFound I_0_foundB I_0_changes I_0_taped I_0_size I_0_at I_0_signs I_0_wanted I_0_sign I_0_isKept I_0_keptFound I_0_keptB I_0_keptChanges)), ((r0 21), .inl (cI, 3, .inl A_0_21_rackKinds)), ((r0 22), .inl (cI, 3, .inl A_0_22_rackSizes)), ((r0 24), .inl (cZ, 30, .inl A_0_24_areThere))] H locs → lv_has ls 5 [(0, .ref h0), (1, .int x1), (4, .int x4)] → W p l e rm_X12_rack s m args below meth c H locs 0 0 Q (F0 m 67 ls []) := by
    intro k67
    induction k67 with
    | zero =>
      intro x4 A_0_21_rackKinds A_0_22_rackSizes A_0_24_areThere H locs ls h
      unfold lp_X12_rack_67 at h
      exact h.elim
    | succ k67 ih67 =>
      intro x4 A_0_21_rackKinds A_0_22_rackSizes A_0_24_areThere H locs ls h hM hl
      unfold lp_X12_rack_67 at h
      refine lv_iload hx hb dX12_rack_67 (lv_at hl 2 rfl) ?_
      refine lv_bipush (v := (10 : Int32)) hx hb dX12_rack_69 (by decide) ?_
      refine lv_icmp_ge (tgt := 93) hx hb dX12_rack_71 (by decide) (fun hq => ?_) (fun hq => ?_)
      · have h := h.1 hq
        refine lv_iconst (v := (1 : Int32)) hx hb dX12_rack_93 (by decide) ?_
        subst hsz; subst hA; subst hQ
        exact m_iret C0 hr hM (A_0_21_rackKinds, A_0_22_rackSizes, A_0_24_areThere) h rfl dX12_rack_94
      · have h := h.2 hq
        refine lv_aload_n hx hb dX12_rack_74 rfl (lv_at hl 0 rfl) ?_
        refine m_get (C := RX12) (T := TX12) (N := 45) (ci := 11) (ref := "LoweredPowersModel") (v := .ref (r0 24)) C0 hM 0 rfl rfl kt_X12_rack_X12 24 (by decide) kw_X12_rack_3 rfl rfl dX12_rack_75 ?_
        refine lv_bipush (v := (10 : Int32)) hx hb dX12_rack_78 (by decide) ?_
        refine lv_iload_n hx hb dX12_rack_80 rfl (lv_at hl 1 rfl) ?_
        refine lv_imul hx hb dX12_rack_81 ?_
        refine lv_iload hx hb dX12_rack_82 (lv_at hl 2 rfl) ?_
        refine lv_iadd hx hb dX12_rack_84 ?_
        refine lv_iconst (v := (0 : Int32)) hx hb dX12_rack_85 (by decide) ?_
        obtain ⟨hc1, h⟩ := h
        refine m_zast (ws' := [(h0, .inr (11, oX12 r0 I_0_isFound I_0_foundB I_0_changes I_0_taped I_0_size I_0_at I_0_signs I_0_wanted I_0_sign I_0_isKept I_0_keptFound I_0_keptB I_0_keptChanges)), ((r0 21), .inl (cI, 3, .inl A_0_21_rackKinds)), ((r0 22), .inl (cI, 3, .inl A_0_22_rackSizes)), ((r0 24), .inl (cZ, 30, .inl (upd A_0_24_areThere ((((10 : Int32) * x1) + x4)).toNatClampNeg (vp_nar .boolean (0 : Int32)))))]) C0 hM 3 rfl hc1 rfl dX12_rack_86 (fun H locs hM => ?_)
        refine lv_iinc (v := (x4 + (1 : Int32))) (lv' := [(4, .int (x4 + (1 : Int32))), (0, .ref h0), (1, .int x1)]) hx hb dX12_rack_87 hl (k := 2) rfl rfl (by decide) rfl (fun ls hl => ?_)
        refine lv_goto (tgt := 67) hx hb dX12_rack_90 (by decide) ?_
        exact ih67 _ _ _ _ _ _ _ h hM (lv_sub hl [1, 2, 0] rfl)
  have jq63 : ∀ (s1 : Int32) (s2 : Int32) (A_0_21_rackKinds : (Nat → Int32)) (A_0_22_rackSizes : (Nat → Int32)) (A_0_24_areThere : (Nat → Int32)) (H : Heap) (locs : List Loc) (ls : Array Slot) , jn_X12_rack_63 x1 x2 x3 K s1 s2 A_0_21_rackKinds A_0_22_rackSizes A_0_24_areThere → MW D A s.heap [(h0, .inr (11, oX12 r0 I_0_isFound I_0_foundB I_0_changes I_0_taped I_0_size I_0_at I_0_signs I_0_wanted I_0_sign I_0_isKept I_0_keptFound I_0_keptB I_0_keptChanges)), ((r0 21), .inl (cI, 3, .inl A_0_21_rackKinds)), ((r0 22), .inl (cI, 3, .inl A_0_22_rackSizes)), ((r0 24), .inl (cZ, 30, .inl A_0_24_areThere))] H locs → lv_has ls 5 [(0, .ref h0), (1, .int x1)] → W p l e rm_X12_rack s m args below meth c H locs 0 0 Q (F0 m 63 ls [.int s2, .int s1, .ref (r0 22)]) := by
    intro s1 s2 A_0_21_rackKinds A_0_22_rackSizes A_0_24_areThere H locs ls h hM hl
    unfold jn_X12_rack_63 at h
    obtain ⟨hc2, h⟩ := h
    refine m_iast (ws' := [(h0, .inr (11, oX12 r0 I_0_isFound I_0_foundB I_0_changes I_0_taped I_0_size I_0_at I_0_signs I_0_wanted I_0_sign I_0_isKept I_0_keptFound I_0_keptB I_0_keptChanges)), ((r0 21), .inl (cI, 3, .inl A_0_21_rackKinds)), ((r0 22), .inl (cI, 3, .inl (upd A_0_22_rackSizes (s1).toNatClampNeg s2))), ((r0 24), .inl (cZ, 30, .inl A_0_24_areThere))]) C0 hM 2 rfl hc2 rfl dX12_rack_63 (fun H locs hM => ?_)
    refine lv_iconst (v := (0 : Int32)) hx hb dX12_rack_64 (by decide) ?_
    refine lv_istore (lv' := [(4, .int (0 : Int32)), (0, .ref h0), (1, .int x1)]) hx hb dX12_rack_65 hl (by decide) rfl (fun ls hl => ?_)
    obtain ⟨k0, h⟩ := h
    exact lq67 k0 _ _ _ _ _ _ _ h hM (lv_sub hl [1, 2, 0] rfl)
  have jq42 : ∀ (A_0_21_rackKinds : (Nat → Int32)) (A_0_22_rackSizes : (Nat → Int32)) (A_0_24_areThere : (Nat → Int32)) (H : Heap) (locs : List Loc) (ls : Array Slot) , jn_X12_rack_42 x1 x2 x3 K A_0_21_rackKinds A_0_22_rackSizes A_0_24_areThere → MW D A s.heap [(h0, .inr (11, oX12 r0 I_0_isFound I_0_foundB I_0_changes I_0_taped I_0_size I_0_at I_0_signs I_0_wanted I_0_sign I_0_isKept I_0_keptFound I_0_keptB I_0_keptChanges)), ((r0 21), .inl (cI, 3, .inl A_0_21_rackKinds)), ((r0 22), .inl (cI, 3, .inl A_0_22_rackSizes)), ((r0 24), .inl (cZ, 30, .inl A_0_24_areThere))] H locs → lv_has ls 5 [(0, .ref h0), (1, .int x1), (2, .int x2), (3, .int x3)] → W p l e rm_X12_rack s m args below meth c H locs 0 0 Q (F0 m 42 ls []) := by
    intro A_0_21_rackKinds A_0_22_rackSizes A_0_24_areThere H locs ls h hM hl
    unfold jn_X12_rack_42 at h
    refine lv_aload_n hx hb dX12_rack_42 rfl (lv_at hl 0 rfl) ?_
    refine m_get (C := RX12) (T := TX12) (N := 45) (ci := 11) (ref := "LoweredPowersModel") (v := .ref (r0 21)) C0 hM 0 rfl rfl kt_X12_rack_X12 21 (by decide) kw_X12_rack_1 rfl rfl dX12_rack_43 ?_
    refine lv_iload_n hx hb dX12_rack_46 rfl (lv_at hl 1 rfl) ?_
    refine lv_iload_n hx hb dX12_rack_47 rfl (lv_at hl 2 rfl) ?_
    obtain ⟨hc3, h⟩ := h
    refine m_iast (ws' := [(h0, .inr (11, oX12 r0 I_0_isFound I_0_foundB I_0_changes I_0_taped I_0_size I_0_at I_0_signs I_0_wanted I_0_sign I_0_isKept I_0_keptFound I_0_keptB I_0_keptChanges)), ((r0 21), .inl (cI, 3, .inl (upd A_0_21_rackKinds (x1).toNatClampNeg x2))), ((r0 22), .inl (cI, 3, .inl A_0_22_rackSizes)), ((r0 24), .inl (cZ, 30, .inl A_0_24_areThere))]) C0 hM 1 rfl hc3 rfl dX12_rack_48 (fun H locs hM => ?_)
    refine lv_aload_n hx hb dX12_rack_49 rfl (lv_at hl 0 rfl) ?_
    refine m_get (C := RX12) (T := TX12) (N := 45) (ci := 11) (ref := "LoweredPowersModel") (v := .ref (r0 22)) C0 hM 0 rfl rfl kt_X12_rack_X12 22 (by decide) kw_X12_rack_2 rfl rfl dX12_rack_50 ?_
    refine lv_iload_n hx hb dX12_rack_53 rfl (lv_at hl 1 rfl) ?_
    refine lv_iload_n hx hb dX12_rack_54 rfl (lv_at hl 2 rfl) ?_
    refine lv_if_ge (tgt := 62) hx hb dX12_rack_55 (by decide) (fun hq => ?_) (fun hq => ?_)
    · have h := h.1 hq
      refine lv_iload_n hx hb dX12_rack_62 rfl (lv_at hl 3 rfl) ?_
      exact jq63 _ _ _ _ _ _ _ _ h hM (lv_sub hl [0, 1] rfl)
    · have h := h.2 hq
      refine lv_iconst (v := (0 : Int32)) hx hb dX12_rack_58 (by decide) ?_
      refine lv_goto (tgt := 63) hx hb dX12_rack_59 (by decide) ?_
      exact jq63 _ _ _ _ _ _ _ _ h hM (lv_sub hl [0, 1] rfl)
  have jq31 : ∀ (A_0_21_rackKinds : (Nat → Int32)) (A_0_22_rackSizes : (Nat → Int32)) (A_0_24_areThere : (Nat → Int32)) (H : Heap) (locs : List Loc) (ls : Array Slot) , jn_X12_rack_31 x1 x2 x3 K A_0_21_rackKinds A_0_22_rackSizes A_0_24_areThere → MW D A s.heap [(h0, .inr (11, oX12 r0 I_0_isFound I_0_foundB I_0_changes I_0_taped I_0_size I_0_at I_0_signs I_0_wanted I_0_sign I_0_isKept I_0_keptFound I_0_keptB I_0_keptChanges)), ((r0 21), .inl (cI, 3, .inl A_0_21_rackKinds)), ((r0 22), .inl (cI, 3, .inl A_0_22_rackSizes)), ((r0 24), .inl (cZ, 30, .inl A_0_24_areThere))] H locs → lv_has ls 5 [(0, .ref h0), (1, .int x1), (2, .int x2), (3, .int x3)] → W p l e rm_X12_rack s m args below meth c H locs 0 0 Q (F0 m 31 ls []) := by
    intro A_0_21_rackKinds A_0_22_rackSizes A_0_24_areThere H locs ls h hM hl
    unfold jn_X12_rack_31 at h
    refine lv_iload_n hx hb dX12_rack_31 rfl (lv_at hl 2 rfl) ?_
    refine lv_if_lt (tgt := 42) hx hb dX12_rack_32 (by decide) (fun hq => ?_) (fun hq => ?_)
    · have h := h.1 hq
      exact jq42 _ _ _ _ _ _ h hM (lv_sub hl [0, 1, 2, 3] rfl)
    · have h := h.2 hq
      refine lv_iload_n hx hb dX12_rack_35 rfl (lv_at hl 3 rfl) ?_
      refine lv_if_ge (tgt := 42) hx hb dX12_rack_36 (by decide) (fun hq => ?_) (fun hq => ?_)
      · have h := h.1 hq
        exact jq42 _ _ _ _ _ _ h hM (lv_sub hl [0, 1, 2, 3] rfl)
      · have h := h.2 hq
        refine lv_bipush (v := (-14 : Int32)) hx hb dX12_rack_39 (by decide) ?_
        subst hsz; subst hA; subst hQ
        exact m_iret C0 hr hM (A_0_21_rackKinds, A_0_22_rackSizes, A_0_24_areThere) h rfl dX12_rack_41
  unfold wp_X12_rack at h
  refine lv_iload_n hx hb dX12_rack_0 rfl (lv_at hl 1 rfl) ?_
  refine m_calli (wc := []) C0 hM [] rfl (m_runS (wc := []) (As := [.int x1]) (rest := []) C0 hM (ct_X12_isRack l D cI cJ cZ x1 _ _ h) [] rfl (by decide) gX12_rack_X12_isRack rfl rfl rfl hd_X12_isRack ⟨Nat.le_of_ble_eq_true rfl, Nat.le_of_ble_eq_true rfl⟩ rfl hl.1 rfl (Nat.le_of_ble_eq_true rfl) dX12_rack_1 ⟨Nat.le_of_ble_eq_true rfl, Nat.le_of_ble_eq_true rfl⟩) (fun _ => [(h0, .inr (11, oX12 r0 I_0_isFound I_0_foundB I_0_changes I_0_taped I_0_size I_0_at I_0_signs I_0_wanted I_0_sign I_0_isKept I_0_keptFound I_0_keptB I_0_keptChanges)), ((r0 21), .inl (cI, 3, .inl A_0_21_rackKinds)), ((r0 22), .inl (cI, 3, .inl A_0_22_rackSizes)), ((r0 24), .inl (cZ, 30, .inl A_0_24_areThere))]) (fun _ => rfl) (fun _ => rfl) (fun y4 _ H locs h hM => ?_)
  refine lv_if_eq (tgt := 16) hx hb dX12_rack_4 (by decide) (fun hq => ?_) (fun hq => ?_)
  · have h := h.1 hq
    refine lv_iconst (v := (-1 : Int32)) hx hb dX12_rack_16 (by decide) ?_
    subst hsz; subst hA; subst hQ
    exact m_iret C0 hr hM (A_0_21_rackKinds, A_0_22_rackSizes, A_0_24_areThere) h rfl dX12_rack_17
  · have h := h.2 hq
    refine lv_iload_n hx hb dX12_rack_7 rfl (lv_at hl 2 rfl) ?_
    refine lv_iconst (v := (-1 : Int32)) hx hb dX12_rack_8 (by decide) ?_
    refine lv_iconst (v := (2 : Int32)) hx hb dX12_rack_9 (by decide) ?_
    refine m_calli (wc := []) C0 hM [] rfl (m_runS (wc := []) (As := [.int x2, .int (-1 : Int32), .int (2 : Int32)]) (rest := []) C0 hM (ct_X12_isIn l D cI cJ cZ x2 (-1 : Int32) (2 : Int32) _ _ h) [] rfl (by decide) gX12_rack_X12_isIn rfl rfl rfl hd_X12_isIn ⟨Nat.le_of_ble_eq_true rfl, Nat.le_of_ble_eq_true rfl⟩ rfl hl.1 rfl (Nat.le_of_ble_eq_true rfl) dX12_rack_10 ⟨Nat.le_of_ble_eq_true rfl, Nat.le_of_ble_eq_true rfl⟩) (fun _ => [(h0, .inr (11, oX12 r0 I_0_isFound I_0_foundB I_0_changes I_0_taped I_0_size I_0_at I_0_signs I_0_wanted I_0_sign I_0_isKept I_0_keptFound I_0_keptB I_0_keptChanges)), ((r0 21), .inl (cI, 3, .inl A_0_21_rackKinds)), ((r0 22), .inl (cI, 3, .inl A_0_22_rackSizes)), ((r0 24), .inl (cZ, 30, .inl A_0_24_areThere))]) (fun _ => rfl) (fun _ => rfl) (fun y5 _ H locs h hM => ?_)
    refine lv_if_ne (tgt := 18) hx hb dX12_rack_13 (by decide) (fun hq => ?_) (fun hq => ?_)
    · have h := h.1 hq
      refine lv_iload_n hx hb dX12_rack_18 rfl (lv_at hl 2 rfl) ?_
      refine lv_if_lt (tgt := 31) hx hb dX12_rack_19 (by decide) (fun hq => ?_) (fun hq => ?_)
      · have h := h.1 hq
        exact jq31 _ _ _ _ _ _ h hM (lv_sub hl [0, 1, 2, 3] rfl)
      · have h := h.2 hq
        refine lv_iload_n hx hb dX12_rack_22 rfl (lv_at hl 3 rfl) ?_
        refine lv_bipush (v := (10 : Int32)) hx hb dX12_rack_23 (by decide) ?_
        refine lv_icmp_le (tgt := 31) hx hb dX12_rack_25 (by decide) (fun hq => ?_) (fun hq => ?_)
        · have h := h.1 hq
          exact jq31 _ _ _ _ _ _ h hM (lv_sub hl [0, 1, 2, 3] rfl)
        · have h := h.2 hq
          refine lv_bipush (v := (-2 : Int32)) hx hb dX12_rack_28 (by decide) ?_
          subst hsz; subst hA; subst hQ
          exact m_iret C0 hr hM (A_0_21_rackKinds, A_0_22_rackSizes, A_0_24_areThere) h rfl dX12_rack_30
    · have h := h.2 hq
      refine lv_iconst (v := (-1 : Int32)) hx hb dX12_rack_16 (by decide) ?_
      subst hsz; subst hA; subst hQ
      exact m_iret C0 hr hM (A_0_21_rackKinds, A_0_22_rackSizes, A_0_24_areThere) h rfl dX12_rack_17
abbrev rm_X12_store : Room := { frames := 2, cells := 0, slots := 0, locals := 42 }
set_option maxRecDepth 100000 in
set_option maxHeartbeats 4000000 in
theorem ct_X12_store (l : Launch) (D : va_G) (cI cJ cZ : ClassId) (h0 : Nat) (r0 : Nat → Nat) (I_0_isFound : Int32) (I_0_foundB : Int32) (I_0_changes : Int32) (I_0_taped : Int32) (I_0_size : Int32) (I_0_at : Int32) (I_0_signs : Int32) (I_0_wanted : Int32) (I_0_sign : Int32) (I_0_isKept : Int32) (I_0_keptFound : Int32) (I_0_keptB : Int32) (I_0_keptChanges : Int32) (A_0_21_rackKinds : (Nat → Int32)) (A_0_22_rackSizes : (Nat → Int32)) (A_0_23_things : (Nat → Int32)) (A_0_24_areThere : (Nat → Int32)) (x1 : Int32) (x2 : Int32) (x3 : Int32) (x4 : Int32) (sz : Nat) (K : Int32 → (Nat → Int32) → (Nat → Int32) → Prop) (h : wp_X12_store x1 x2 x3 x4 A_0_21_rackKinds A_0_22_rackSizes A_0_23_things A_0_24_areThere K) : Met l yX12_store wsX12_store rm_X12_store (va_Pc [.ref h0, .int x1, .int x2, .int x3, .int x4] (WX D cI cJ cZ [(h0, .inr (11, oX12 r0 I_0_isFound I_0_foundB I_0_changes I_0_taped I_0_size I_0_at I_0_signs I_0_wanted I_0_sign I_0_isKept I_0_keptFound I_0_keptB I_0_keptChanges)), ((r0 21), .inl (cI, 3, .inl A_0_21_rackKinds)), ((r0 22), .inl (cI, 3, .inl A_0_22_rackSizes)), ((r0 23), .inl (cI, 30, .inl A_0_23_things)), ((r0 24), .inl (cZ, 30, .inl A_0_24_areThere))] sz)) (va_Qi (fun (r : Int32) (u : (Nat → Int32) × (Nat → Int32)) => K r u.1 u.2) (fun (u : (Nat → Int32) × (Nat → Int32)) t => WY D (va_A [(h0, .inr (11, oX12 r0 I_0_isFound I_0_foundB I_0_changes I_0_taped I_0_size I_0_at I_0_signs I_0_wanted I_0_sign I_0_isKept I_0_keptFound I_0_keptB I_0_keptChanges)), ((r0 21), .inl (cI, 3, .inl A_0_21_rackKinds)), ((r0 22), .inl (cI, 3, .inl A_0_22_rackSizes)), ((r0 23), .inl (cI, 30, .inl A_0_23_things)), ((r0 24), .inl (cZ, 30, .inl A_0_24_areThere))] sz) [(h0, .inr (11, oX12 r0 I_0_isFound I_0_foundB I_0_changes I_0_taped I_0_size I_0_at I_0_signs I_0_wanted I_0_sign I_0_isKept I_0_keptFound I_0_keptB I_0_keptChanges)), ((r0 21), .inl (cI, 3, .inl A_0_21_rackKinds)), ((r0 22), .inl (cI, 3, .inl A_0_22_rackSizes)), ((r0 23), .inl (cI, 30, .inl u.1)), ((r0 24), .inl (cZ, 30, .inl u.2))] t) (va_A [(h0, .inr (11, oX12 r0 I_0_isFound I_0_foundB I_0_changes I_0_taped I_0_size I_0_at I_0_signs I_0_wanted I_0_sign I_0_isKept I_0_keptFound I_0_keptB I_0_keptChanges)), ((r0 21), .inl (cI, 3, .inl A_0_21_rackKinds)), ((r0 22), .inl (cI, 3, .inl A_0_22_rackSizes)), ((r0 23), .inl (cI, 30, .inl A_0_23_things)), ((r0 24), .inl (cZ, 30, .inl A_0_24_areThere))] sz)) 0 0 (va_A [(h0, .inr (11, oX12 r0 I_0_isFound I_0_foundB I_0_changes I_0_taped I_0_size I_0_at I_0_signs I_0_wanted I_0_sign I_0_isKept I_0_keptFound I_0_keptB I_0_keptChanges)), ((r0 21), .inl (cI, 3, .inl A_0_21_rackKinds)), ((r0 22), .inl (cI, 3, .inl A_0_22_rackSizes)), ((r0 23), .inl (cI, 30, .inl A_0_23_things)), ((r0 24), .inl (cZ, 30, .inl A_0_24_areThere))] sz) := by
  refine m_met (own := RX12) (cc := cX12_store) (maxL := 5) (ret := some .int) [.ref h0, .int x1, .int x2, .int x3, .int x4] [(0, .ref h0), (1, .int x1), (2, .int x2), (3, .int x3), (4, .int x4)] (by decide) rfl rfl (Nat.le_of_ble_eq_true rfl) rfl ?_
  intro p e s m args below meth c Q A hQ hA C0 hr hnm hsz hM ls hl
  have hx := C0.1
  have hb := C0.2.1
  have hown := C0.2.2.2.1
  unfold wp_X12_store at h
  refine lv_iload_n hx hb dX12_store_0 rfl (lv_at hl 1 rfl) ?_
  refine m_calli (wc := []) C0 hM [] rfl (m_runS (wc := []) (As := [.int x1]) (rest := []) C0 hM (ct_X12_isRack l D cI cJ cZ x1 _ _ h) [] rfl (by decide) gX12_store_X12_isRack rfl rfl rfl hd_X12_isRack ⟨Nat.le_of_ble_eq_true rfl, Nat.le_of_ble_eq_true rfl⟩ rfl hl.1 rfl (Nat.le_of_ble_eq_true rfl) dX12_store_1 ⟨Nat.le_of_ble_eq_true rfl, Nat.le_of_ble_eq_true rfl⟩) (fun _ => [(h0, .inr (11, oX12 r0 I_0_isFound I_0_foundB I_0_changes I_0_taped I_0_size I_0_at I_0_signs I_0_wanted I_0_sign I_0_isKept I_0_keptFound I_0_keptB I_0_keptChanges)), ((r0 21), .inl (cI, 3, .inl A_0_21_rackKinds)), ((r0 22), .inl (cI, 3, .inl A_0_22_rackSizes)), ((r0 23), .inl (cI, 30, .inl A_0_23_things)), ((r0 24), .inl (cZ, 30, .inl A_0_24_areThere))]) (fun _ => rfl) (fun _ => rfl) (fun y1 _ H locs h hM => ?_)
  refine lv_if_eq (tgt := 16) hx hb dX12_store_4 (by decide) (fun hq => ?_) (fun hq => ?_)
  · have h := h.1 hq
    refine lv_iconst (v := (-1 : Int32)) hx hb dX12_store_16 (by decide) ?_
    subst hsz; subst hA; subst hQ
    exact m_iret C0 hr hM (A_0_23_things, A_0_24_areThere) h rfl dX12_store_17
  · have h := h.2 hq
    refine lv_iload_n hx hb dX12_store_7 rfl (lv_at hl 3 rfl) ?_
    refine lv_iconst (v := (0 : Int32)) hx hb dX12_store_8 (by decide) ?_
    refine lv_iconst (v := (2 : Int32)) hx hb dX12_store_9 (by decide) ?_
    refine m_calli (wc := []) C0 hM [] rfl (m_runS (wc := []) (As := [.int x3, .int (0 : Int32), .int (2 : Int32)]) (rest := []) C0 hM (ct_X12_isIn l D cI cJ cZ x3 (0 : Int32) (2 : Int32) _ _ h) [] rfl (by decide) gX12_store_X12_isIn rfl rfl rfl hd_X12_isIn ⟨Nat.le_of_ble_eq_true rfl, Nat.le_of_ble_eq_true rfl⟩ rfl hl.1 rfl (Nat.le_of_ble_eq_true rfl) dX12_store_10 ⟨Nat.le_of_ble_eq_true rfl, Nat.le_of_ble_eq_true rfl⟩) (fun _ => [(h0, .inr (11, oX12 r0 I_0_isFound I_0_foundB I_0_changes I_0_taped I_0_size I_0_at I_0_signs I_0_wanted I_0_sign I_0_isKept I_0_keptFound I_0_keptB I_0_keptChanges)), ((r0 21), .inl (cI, 3, .inl A_0_21_rackKinds)), ((r0 22), .inl (cI, 3, .inl A_0_22_rackSizes)), ((r0 23), .inl (cI, 30, .inl A_0_23_things)), ((r0 24), .inl (cZ, 30, .inl A_0_24_areThere))]) (fun _ => rfl) (fun _ => rfl) (fun y2 _ H locs h hM => ?_)
    refine lv_if_ne (tgt := 18) hx hb dX12_store_13 (by decide) (fun hq => ?_) (fun hq => ?_)
    · have h := h.1 hq
      refine lv_aload_n hx hb dX12_store_18 rfl (lv_at hl 0 rfl) ?_
      refine m_get (C := RX12) (T := TX12) (N := 45) (ci := 11) (ref := "LoweredPowersModel") (v := .ref (r0 21)) C0 hM 0 rfl rfl kt_X12_store_X12 21 (by decide) kw_X12_store_1 rfl rfl dX12_store_19 ?_
      refine lv_iload_n hx hb dX12_store_22 rfl (lv_at hl 1 rfl) ?_
      obtain ⟨hc3, h⟩ := h
      refine m_iald C0 hM 1 rfl hc3 dX12_store_23 ?_
      refine lv_if_ge (tgt := 30) hx hb dX12_store_24 (by decide) (fun hq => ?_) (fun hq => ?_)
      · have h := h.1 hq
        refine lv_iload_n hx hb dX12_store_30 rfl (lv_at hl 2 rfl) ?_
        refine lv_iconst (v := (0 : Int32)) hx hb dX12_store_31 (by decide) ?_
        refine lv_aload_n hx hb dX12_store_32 rfl (lv_at hl 0 rfl) ?_
        refine m_get (C := RX12) (T := TX12) (N := 45) (ci := 11) (ref := "LoweredPowersModel") (v := .ref (r0 22)) C0 hM 0 rfl rfl kt_X12_store_X12 22 (by decide) kw_X12_store_2 rfl rfl dX12_store_33 ?_
        refine lv_iload_n hx hb dX12_store_36 rfl (lv_at hl 1 rfl) ?_
        refine m_iald C0 hM 2 rfl hc3 dX12_store_37 ?_
        refine lv_iconst (v := (1 : Int32)) hx hb dX12_store_38 (by decide) ?_
        refine lv_isub hx hb dX12_store_39 ?_
        refine m_calli (wc := []) C0 hM [] rfl (m_runS (wc := []) (As := [.int x2, .int (0 : Int32), .int ((A_0_22_rackSizes (x1).toNatClampNeg) - (1 : Int32))]) (rest := []) C0 hM (ct_X12_isIn l D cI cJ cZ x2 (0 : Int32) ((A_0_22_rackSizes (x1).toNatClampNeg) - (1 : Int32)) _ _ h) [] rfl (by decide) gX12_store_X12_isIn rfl rfl rfl hd_X12_isIn ⟨Nat.le_of_ble_eq_true rfl, Nat.le_of_ble_eq_true rfl⟩ rfl hl.1 rfl (Nat.le_of_ble_eq_true rfl) dX12_store_40 ⟨Nat.le_of_ble_eq_true rfl, Nat.le_of_ble_eq_true rfl⟩) (fun _ => [(h0, .inr (11, oX12 r0 I_0_isFound I_0_foundB I_0_changes I_0_taped I_0_size I_0_at I_0_signs I_0_wanted I_0_sign I_0_isKept I_0_keptFound I_0_keptB I_0_keptChanges)), ((r0 21), .inl (cI, 3, .inl A_0_21_rackKinds)), ((r0 22), .inl (cI, 3, .inl A_0_22_rackSizes)), ((r0 23), .inl (cI, 30, .inl A_0_23_things)), ((r0 24), .inl (cZ, 30, .inl A_0_24_areThere))]) (fun _ => rfl) (fun _ => rfl) (fun y4 _ H locs h hM => ?_)
        refine lv_if_ne (tgt := 49) hx hb dX12_store_43 (by decide) (fun hq => ?_) (fun hq => ?_)
        · have h := h.1 hq
          refine lv_aload_n hx hb dX12_store_49 rfl (lv_at hl 0 rfl) ?_
          refine m_get (C := RX12) (T := TX12) (N := 45) (ci := 11) (ref := "LoweredPowersModel") (v := .ref (r0 21)) C0 hM 0 rfl rfl kt_X12_store_X12 21 (by decide) kw_X12_store_1 rfl rfl dX12_store_50 ?_
          refine lv_iload_n hx hb dX12_store_53 rfl (lv_at hl 1 rfl) ?_
          refine m_iald C0 hM 1 rfl hc3 dX12_store_54 ?_
          refine lv_iload_n hx hb dX12_store_55 rfl (lv_at hl 3 rfl) ?_
          refine lv_icmp_eq (tgt := 62) hx hb dX12_store_56 (by decide) (fun hq => ?_) (fun hq => ?_)
          · have h := h.1 hq
            refine lv_aload_n hx hb dX12_store_62 rfl (lv_at hl 0 rfl) ?_
            refine m_get (C := RX12) (T := TX12) (N := 45) (ci := 11) (ref := "LoweredPowersModel") (v := .ref (r0 23)) C0 hM 0 rfl rfl kt_X12_store_X12 23 (by decide) kw_X12_store_3 rfl rfl dX12_store_63 ?_
            refine lv_bipush (v := (10 : Int32)) hx hb dX12_store_66 (by decide) ?_
            refine lv_iload_n hx hb dX12_store_68 rfl (lv_at hl 1 rfl) ?_
            refine lv_imul hx hb dX12_store_69 ?_
            refine lv_iload_n hx hb dX12_store_70 rfl (lv_at hl 2 rfl) ?_
            refine lv_iadd hx hb dX12_store_71 ?_
            refine lv_iload hx hb dX12_store_72 (lv_at hl 4 rfl) ?_
            obtain ⟨hc5, h⟩ := h
            refine m_iast (ws' := [(h0, .inr (11, oX12 r0 I_0_isFound I_0_foundB I_0_changes I_0_taped I_0_size I_0_at I_0_signs I_0_wanted I_0_sign I_0_isKept I_0_keptFound I_0_keptB I_0_keptChanges)), ((r0 21), .inl (cI, 3, .inl A_0_21_rackKinds)), ((r0 22), .inl (cI, 3, .inl A_0_22_rackSizes)), ((r0 23), .inl (cI, 30, .inl (upd A_0_23_things ((((10 : Int32) * x1) + x2)).toNatClampNeg x4))), ((r0 24), .inl (cZ, 30, .inl A_0_24_areThere))]) C0 hM 3 rfl hc5 rfl dX12_store_74 (fun H locs hM => ?_)
            refine lv_aload_n hx hb dX12_store_75 rfl (lv_at hl 0 rfl) ?_
            refine m_get (C := RX12) (T := TX12) (N := 45) (ci := 11) (ref := "LoweredPowersModel") (v := .ref (r0 24)) C0 hM 0 rfl rfl kt_X12_store_X12 24 (by decide) kw_X12_store_4 rfl rfl dX12_store_76 ?_
            refine lv_bipush (v := (10 : Int32)) hx hb dX12_store_79 (by decide) ?_
            refine lv_iload_n hx hb dX12_store_81 rfl (lv_at hl 1 rfl) ?_
            refine lv_imul hx hb dX12_store_82 ?_
            refine lv_iload_n hx hb dX12_store_83 rfl (lv_at hl 2 rfl) ?_
            refine lv_iadd hx hb dX12_store_84 ?_
            refine lv_iconst (v := (1 : Int32)) hx hb dX12_store_85 (by decide) ?_
            refine m_zast (ws' := [(h0, .inr (11, oX12 r0 I_0_isFound I_0_foundB I_0_changes I_0_taped I_0_size I_0_at I_0_signs I_0_wanted I_0_sign I_0_isKept I_0_keptFound I_0_keptB I_0_keptChanges)), ((r0 21), .inl (cI, 3, .inl A_0_21_rackKinds)), ((r0 22), .inl (cI, 3, .inl A_0_22_rackSizes)), ((r0 23), .inl (cI, 30, .inl (upd A_0_23_things ((((10 : Int32) * x1) + x2)).toNatClampNeg x4))), ((r0 24), .inl (cZ, 30, .inl (upd A_0_24_areThere ((((10 : Int32) * x1) + x2)).toNatClampNeg (vp_nar .boolean (1 : Int32)))))]) C0 hM 4 rfl hc5 rfl dX12_store_86 (fun H locs hM => ?_)
            refine lv_iconst (v := (1 : Int32)) hx hb dX12_store_87 (by decide) ?_
            subst hsz; subst hA; subst hQ
            exact m_iret C0 hr hM ((upd A_0_23_things ((((10 : Int32) * x1) + x2)).toNatClampNeg x4), (upd A_0_24_areThere ((((10 : Int32) * x1) + x2)).toNatClampNeg (vp_nar .boolean (1 : Int32)))) h rfl dX12_store_88
          · have h := h.2 hq
            refine lv_bipush (v := (-12 : Int32)) hx hb dX12_store_59 (by decide) ?_
            subst hsz; subst hA; subst hQ
            exact m_iret C0 hr hM (A_0_23_things, A_0_24_areThere) h rfl dX12_store_61
        · have h := h.2 hq
          refine lv_bipush (v := (-13 : Int32)) hx hb dX12_store_46 (by decide) ?_
          subst hsz; subst hA; subst hQ
          exact m_iret C0 hr hM (A_0_23_things, A_0_24_areThere) h rfl dX12_store_48
      · have h := h.2 hq
        refine lv_bipush (v := (-11 : Int32)) hx hb dX12_store_27 (by decide) ?_
        subst hsz; subst hA; subst hQ
        exact m_iret C0 hr hM (A_0_23_things, A_0_24_areThere) h rfl dX12_store_29
    · have h := h.2 hq
      refine lv_iconst (v := (-1 : Int32)) hx hb dX12_store_16 (by decide) ?_
      subst hsz; subst hA; subst hQ
      exact m_iret C0 hr hM (A_0_23_things, A_0_24_areThere) h rfl dX12_store_17
abbrev rm_X12_thing : Room := { frames := 2, cells := 0, slots := 0, locals := 42 }
set_option maxRecDepth 100000 in
set_option maxHeartbeats 4000000 in
theorem ct_X12_thing (l : Launch) (D : va_G) (cI cJ cZ : ClassId) (h0 : Nat) (r0 : Nat → Nat) (I_0_isFound : Int32) (I_0_foundB : Int32) (I_0_changes : Int32) (I_0_taped : Int32) (I_0_size : Int32) (I_0_at : Int32) (I_0_signs : Int32) (I_0_wanted : Int32) (I_0_sign : Int32) (I_0_isKept : Int32) (I_0_keptFound : Int32) (I_0_keptB : Int32) (I_0_keptChanges : Int32) (A_0_22_rackSizes : (Nat → Int32)) (A_0_23_things : (Nat → Int32)) (A_0_24_areThere : (Nat → Int32)) (x1 : Int32) (x2 : Int32) (sz : Nat) (K : Int64 → Prop) (h : wp_X12_thing x1 x2 A_0_22_rackSizes A_0_23_things A_0_24_areThere K) : Met l yX12_thing wsX12_thing rm_X12_thing (va_Pc [.ref h0, .int x1, .int x2] (WX D cI cJ cZ [(h0, .inr (11, oX12 r0 I_0_isFound I_0_foundB I_0_changes I_0_taped I_0_size I_0_at I_0_signs I_0_wanted I_0_sign I_0_isKept I_0_keptFound I_0_keptB I_0_keptChanges)), ((r0 22), .inl (cI, 3, .inl A_0_22_rackSizes)), ((r0 23), .inl (cI, 30, .inl A_0_23_things)), ((r0 24), .inl (cZ, 30, .inl A_0_24_areThere))] sz)) (va_Ql (fun (r : Int64) (_ : Unit) => K r ) (fun (_ : Unit) t => WY D (va_A [(h0, .inr (11, oX12 r0 I_0_isFound I_0_foundB I_0_changes I_0_taped I_0_size I_0_at I_0_signs I_0_wanted I_0_sign I_0_isKept I_0_keptFound I_0_keptB I_0_keptChanges)), ((r0 22), .inl (cI, 3, .inl A_0_22_rackSizes)), ((r0 23), .inl (cI, 30, .inl A_0_23_things)), ((r0 24), .inl (cZ, 30, .inl A_0_24_areThere))] sz) [(h0, .inr (11, oX12 r0 I_0_isFound I_0_foundB I_0_changes I_0_taped I_0_size I_0_at I_0_signs I_0_wanted I_0_sign I_0_isKept I_0_keptFound I_0_keptB I_0_keptChanges)), ((r0 22), .inl (cI, 3, .inl A_0_22_rackSizes)), ((r0 23), .inl (cI, 30, .inl A_0_23_things)), ((r0 24), .inl (cZ, 30, .inl A_0_24_areThere))] t) (va_A [(h0, .inr (11, oX12 r0 I_0_isFound I_0_foundB I_0_changes I_0_taped I_0_size I_0_at I_0_signs I_0_wanted I_0_sign I_0_isKept I_0_keptFound I_0_keptB I_0_keptChanges)), ((r0 22), .inl (cI, 3, .inl A_0_22_rackSizes)), ((r0 23), .inl (cI, 30, .inl A_0_23_things)), ((r0 24), .inl (cZ, 30, .inl A_0_24_areThere))] sz)) 0 0 (va_A [(h0, .inr (11, oX12 r0 I_0_isFound I_0_foundB I_0_changes I_0_taped I_0_size I_0_at I_0_signs I_0_wanted I_0_sign I_0_isKept I_0_keptFound I_0_keptB I_0_keptChanges)), ((r0 22), .inl (cI, 3, .inl A_0_22_rackSizes)), ((r0 23), .inl (cI, 30, .inl A_0_23_things)), ((r0 24), .inl (cZ, 30, .inl A_0_24_areThere))] sz) := by
  refine m_met (own := RX12) (cc := cX12_thing) (maxL := 4) (ret := some .long) [.ref h0, .int x1, .int x2] [(0, .ref h0), (1, .int x1), (2, .int x2)] (by decide) rfl rfl (Nat.le_of_ble_eq_true rfl) rfl ?_
  intro p e s m args below meth c Q A hQ hA C0 hr hnm hsz hM ls hl
  have hx := C0.1
  have hb := C0.2.1
  have hown := C0.2.2.2.1
  have jq42 : ∀ (s0 : Int32) (H : Heap) (locs : List Loc) (ls : Array Slot) , jn_X12_thing_42 x1 x2 A_0_22_rackSizes A_0_23_things A_0_24_areThere K s0 → MW D A s.heap [(h0, .inr (11, oX12 r0 I_0_isFound I_0_foundB I_0_changes I_0_taped I_0_size I_0_at I_0_signs I_0_wanted I_0_sign I_0_isKept I_0_keptFound I_0_keptB I_0_keptChanges)), ((r0 22), .inl (cI, 3, .inl A_0_22_rackSizes)), ((r0 23), .inl (cI, 30, .inl A_0_23_things)), ((r0 24), .inl (cZ, 30, .inl A_0_24_areThere))] H locs → lv_has ls 4 [(0, .ref h0), (1, .int x1), (2, .int x2)] → W p l e rm_X12_thing s m args below meth c H locs 0 0 Q (F0 m 42 ls [.int s0]) := by
    intro s0 H locs ls h hM hl
    unfold jn_X12_thing_42 at h
    refine lv_istore_n (lv' := [(3, .int s0), (0, .ref h0), (1, .int x1), (2, .int x2)]) hx hb dX12_thing_42 rfl hl (by decide) rfl (fun ls hl => ?_)
    refine lv_iload_n hx hb dX12_thing_43 rfl (lv_at hl 0 rfl) ?_
    refine lv_if_eq (tgt := 62) hx hb dX12_thing_44 (by decide) (fun hq => ?_) (fun hq => ?_)
    · have h := h.1 hq
      refine lv_ldc2 (v := (-9223372036854775808 : Int64)) hx hb hown (C0.2.2.2.2.1 _ kw_X12_thing_4) dX12_thing_62 ?_
      subst hsz; subst hA; subst hQ
      exact m_lret C0 hr hM () h rfl dX12_thing_65
    · have h := h.2 hq
      refine lv_aload_n hx hb dX12_thing_47 rfl (lv_at hl 1 rfl) ?_
      refine m_get (C := RX12) (T := TX12) (N := 45) (ci := 11) (ref := "LoweredPowersModel") (v := .ref (r0 23)) C0 hM 0 rfl rfl kt_X12_thing_X12 23 (by decide) kw_X12_thing_3 rfl rfl dX12_thing_48 ?_
      refine lv_bipush (v := (10 : Int32)) hx hb dX12_thing_51 (by decide) ?_
      refine lv_iload_n hx hb dX12_thing_53 rfl (lv_at hl 2 rfl) ?_
      refine lv_imul hx hb dX12_thing_54 ?_
      refine lv_iload_n hx hb dX12_thing_55 rfl (lv_at hl 3 rfl) ?_
      refine lv_iadd hx hb dX12_thing_56 ?_
      obtain ⟨hc1, h⟩ := h
      refine m_iald C0 hM 2 rfl hc1 dX12_thing_57 ?_
      refine lv_i2l hx hb dX12_thing_58 rfl ?_
      refine lv_goto (tgt := 65) hx hb dX12_thing_59 (by decide) ?_
      subst hsz; subst hA; subst hQ
      exact m_lret C0 hr hM () h rfl dX12_thing_65
  have jq41 : ∀  (H : Heap) (locs : List Loc) (ls : Array Slot) , jn_X12_thing_41 x1 x2 A_0_22_rackSizes A_0_23_things A_0_24_areThere K  → MW D A s.heap [(h0, .inr (11, oX12 r0 I_0_isFound I_0_foundB I_0_changes I_0_taped I_0_size I_0_at I_0_signs I_0_wanted I_0_sign I_0_isKept I_0_keptFound I_0_keptB I_0_keptChanges)), ((r0 22), .inl (cI, 3, .inl A_0_22_rackSizes)), ((r0 23), .inl (cI, 30, .inl A_0_23_things)), ((r0 24), .inl (cZ, 30, .inl A_0_24_areThere))] H locs → lv_has ls 4 [(0, .ref h0), (1, .int x1), (2, .int x2)] → W p l e rm_X12_thing s m args below meth c H locs 0 0 Q (F0 m 41 ls []) := by
    intro  H locs ls h hM hl
    unfold jn_X12_thing_41 at h
    refine lv_iconst (v := (0 : Int32)) hx hb dX12_thing_41 (by decide) ?_
    exact jq42 _ _ _ _ h hM (lv_sub hl [0, 1, 2] rfl)
  unfold wp_X12_thing at h
  refine lv_iload_n hx hb dX12_thing_0 rfl (lv_at hl 1 rfl) ?_
  refine m_calli (wc := []) C0 hM [] rfl (m_runS (wc := []) (As := [.int x1]) (rest := []) C0 hM (ct_X12_isRack l D cI cJ cZ x1 _ _ h) [] rfl (by decide) gX12_thing_X12_isRack rfl rfl rfl hd_X12_isRack ⟨Nat.le_of_ble_eq_true rfl, Nat.le_of_ble_eq_true rfl⟩ rfl hl.1 rfl (Nat.le_of_ble_eq_true rfl) dX12_thing_1 ⟨Nat.le_of_ble_eq_true rfl, Nat.le_of_ble_eq_true rfl⟩) (fun _ => [(h0, .inr (11, oX12 r0 I_0_isFound I_0_foundB I_0_changes I_0_taped I_0_size I_0_at I_0_signs I_0_wanted I_0_sign I_0_isKept I_0_keptFound I_0_keptB I_0_keptChanges)), ((r0 22), .inl (cI, 3, .inl A_0_22_rackSizes)), ((r0 23), .inl (cI, 30, .inl A_0_23_things)), ((r0 24), .inl (cZ, 30, .inl A_0_24_areThere))]) (fun _ => rfl) (fun _ => rfl) (fun y2 _ H locs h hM => ?_)
  refine lv_if_eq (tgt := 41) hx hb dX12_thing_4 (by decide) (fun hq => ?_) (fun hq => ?_)
  · have h := h.1 hq
    exact jq41  _ _ _ h hM (lv_sub hl [0, 1, 2] rfl)
  · have h := h.2 hq
    refine lv_iload_n hx hb dX12_thing_7 rfl (lv_at hl 2 rfl) ?_
    refine lv_iconst (v := (0 : Int32)) hx hb dX12_thing_8 (by decide) ?_
    refine lv_aload_n hx hb dX12_thing_9 rfl (lv_at hl 0 rfl) ?_
    refine m_get (C := RX12) (T := TX12) (N := 45) (ci := 11) (ref := "LoweredPowersModel") (v := .ref (r0 22)) C0 hM 0 rfl rfl kt_X12_thing_X12 22 (by decide) kw_X12_thing_1 rfl rfl dX12_thing_10 ?_
    refine lv_iload_n hx hb dX12_thing_13 rfl (lv_at hl 1 rfl) ?_
    obtain ⟨hc3, h⟩ := h
    refine m_iald C0 hM 1 rfl hc3 dX12_thing_14 ?_
    refine lv_iconst (v := (1 : Int32)) hx hb dX12_thing_15 (by decide) ?_
    refine lv_isub hx hb dX12_thing_16 ?_
    refine m_calli (wc := []) C0 hM [] rfl (m_runS (wc := []) (As := [.int x2, .int (0 : Int32), .int ((A_0_22_rackSizes (x1).toNatClampNeg) - (1 : Int32))]) (rest := []) C0 hM (ct_X12_isIn l D cI cJ cZ x2 (0 : Int32) ((A_0_22_rackSizes (x1).toNatClampNeg) - (1 : Int32)) _ _ h) [] rfl (by decide) gX12_thing_X12_isIn rfl rfl rfl hd_X12_isIn ⟨Nat.le_of_ble_eq_true rfl, Nat.le_of_ble_eq_true rfl⟩ rfl hl.1 rfl (Nat.le_of_ble_eq_true rfl) dX12_thing_17 ⟨Nat.le_of_ble_eq_true rfl, Nat.le_of_ble_eq_true rfl⟩) (fun _ => [(h0, .inr (11, oX12 r0 I_0_isFound I_0_foundB I_0_changes I_0_taped I_0_size I_0_at I_0_signs I_0_wanted I_0_sign I_0_isKept I_0_keptFound I_0_keptB I_0_keptChanges)), ((r0 22), .inl (cI, 3, .inl A_0_22_rackSizes)), ((r0 23), .inl (cI, 30, .inl A_0_23_things)), ((r0 24), .inl (cZ, 30, .inl A_0_24_areThere))]) (fun _ => rfl) (fun _ => rfl) (fun y4 _ H locs h hM => ?_)
    refine lv_if_eq (tgt := 41) hx hb dX12_thing_20 (by decide) (fun hq => ?_) (fun hq => ?_)
    · have h := h.1 hq
      exact jq41  _ _ _ h hM (lv_sub hl [0, 1, 2] rfl)
    · have h := h.2 hq
      refine lv_aload_n hx hb dX12_thing_23 rfl (lv_at hl 0 rfl) ?_
      refine m_get (C := RX12) (T := TX12) (N := 45) (ci := 11) (ref := "LoweredPowersModel") (v := .ref (r0 24)) C0 hM 0 rfl rfl kt_X12_thing_X12 24 (by decide) kw_X12_thing_2 rfl rfl dX12_thing_24 ?_
      refine lv_bipush (v := (10 : Int32)) hx hb dX12_thing_27 (by decide) ?_
      refine lv_iload_n hx hb dX12_thing_29 rfl (lv_at hl 1 rfl) ?_
      refine lv_imul hx hb dX12_thing_30 ?_
      refine lv_iload_n hx hb dX12_thing_31 rfl (lv_at hl 2 rfl) ?_
      refine lv_iadd hx hb dX12_thing_32 ?_
      obtain ⟨hc5, h⟩ := h
      refine m_zald C0 hM 3 rfl hc5 dX12_thing_33 ?_
      refine lv_if_eq (tgt := 41) hx hb dX12_thing_34 (by decide) (fun hq => ?_) (fun hq => ?_)
      · have h := h.1 hq
        exact jq41  _ _ _ h hM (lv_sub hl [0, 1, 2] rfl)
      · have h := h.2 hq
        refine lv_iconst (v := (1 : Int32)) hx hb dX12_thing_37 (by decide) ?_
        refine lv_goto (tgt := 42) hx hb dX12_thing_38 (by decide) ?_
        exact jq42 _ _ _ _ h hM (lv_sub hl [0, 1, 2] rfl)
abbrev rm_X12_copied : Room := { frames := 2, cells := 0, slots := 0, locals := 42 }
set_option maxRecDepth 100000 in
set_option maxHeartbeats 4000000 in
theorem ct_X12_copied (l : Launch) (D : va_G) (cI cJ cZ : ClassId) (h0 : Nat) (r0 : Nat → Nat) (I_0_isFound : Int32) (I_0_foundB : Int32) (I_0_changes : Int32) (I_0_taped : Int32) (I_0_size : Int32) (I_0_at : Int32) (I_0_signs : Int32) (I_0_wanted : Int32) (I_0_sign : Int32) (I_0_isKept : Int32) (I_0_keptFound : Int32) (I_0_keptB : Int32) (I_0_keptChanges : Int32) (A_0_21_rackKinds : (Nat → Int32)) (A_0_22_rackSizes : (Nat → Int32)) (A_0_23_things : (Nat → Int32)) (A_0_24_areThere : (Nat → Int32)) (x1 : Int32) (x2 : Int32) (sz : Nat) (K : Int32 → (Nat → Int32) → (Nat → Int32) → (Nat → Int32) → (Nat → Int32) → Prop) (h : wp_X12_copied x1 x2 A_0_21_rackKinds A_0_22_rackSizes A_0_23_things A_0_24_areThere K) : Met l yX12_copied wsX12_copied rm_X12_copied (va_Pc [.ref h0, .int x1, .int x2] (WX D cI cJ cZ [(h0, .inr (11, oX12 r0 I_0_isFound I_0_foundB I_0_changes I_0_taped I_0_size I_0_at I_0_signs I_0_wanted I_0_sign I_0_isKept I_0_keptFound I_0_keptB I_0_keptChanges)), ((r0 21), .inl (cI, 3, .inl A_0_21_rackKinds)), ((r0 22), .inl (cI, 3, .inl A_0_22_rackSizes)), ((r0 23), .inl (cI, 30, .inl A_0_23_things)), ((r0 24), .inl (cZ, 30, .inl A_0_24_areThere))] sz)) (va_Qi (fun (r : Int32) (u : (Nat → Int32) × (Nat → Int32) × (Nat → Int32) × (Nat → Int32)) => K r u.1 u.2.1 u.2.2.1 u.2.2.2) (fun (u : (Nat → Int32) × (Nat → Int32) × (Nat → Int32) × (Nat → Int32)) t => WY D (va_A [(h0, .inr (11, oX12 r0 I_0_isFound I_0_foundB I_0_changes I_0_taped I_0_size I_0_at I_0_signs I_0_wanted I_0_sign I_0_isKept I_0_keptFound I_0_keptB I_0_keptChanges)), ((r0 21), .inl (cI, 3, .inl A_0_21_rackKinds)), ((r0 22), .inl (cI, 3, .inl A_0_22_rackSizes)), ((r0 23), .inl (cI, 30, .inl A_0_23_things)), ((r0 24), .inl (cZ, 30, .inl A_0_24_areThere))] sz) [(h0, .inr (11, oX12 r0 I_0_isFound I_0_foundB I_0_changes I_0_taped I_0_size I_0_at I_0_signs I_0_wanted I_0_sign I_0_isKept I_0_keptFound I_0_keptB I_0_keptChanges)), ((r0 21), .inl (cI, 3, .inl u.1)), ((r0 22), .inl (cI, 3, .inl u.2.1)), ((r0 23), .inl (cI, 30, .inl u.2.2.1)), ((r0 24), .inl (cZ, 30, .inl u.2.2.2))] t) (va_A [(h0, .inr (11, oX12 r0 I_0_isFound I_0_foundB I_0_changes I_0_taped I_0_size I_0_at I_0_signs I_0_wanted I_0_sign I_0_isKept I_0_keptFound I_0_keptB I_0_keptChanges)), ((r0 21), .inl (cI, 3, .inl A_0_21_rackKinds)), ((r0 22), .inl (cI, 3, .inl A_0_22_rackSizes)), ((r0 23), .inl (cI, 30, .inl A_0_23_things)), ((r0 24), .inl (cZ, 30, .inl A_0_24_areThere))] sz)) 0 0 (va_A [(h0, .inr (11, oX12 r0 I_0_isFound I_0_foundB I_0_changes I_0_taped I_0_size I_0_at I_0_signs I_0_wanted I_0_sign I_0_isKept I_0_keptFound I_0_keptB I_0_keptChanges)), ((r0 21), .inl (cI, 3, .inl A_0_21_rackKinds)), ((r0 22), .inl (cI, 3, .inl A_0_22_rackSizes)), ((r0 23), .inl (cI, 30, .inl A_0_23_things)), ((r0 24), .inl (cZ, 30, .inl A_0_24_areThere))] sz) := by
  refine m_met (own := RX12) (cc := cX12_copied) (maxL := 4) (ret := some .int) [.ref h0, .int x1, .int x2] [(0, .ref h0), (1, .int x1), (2, .int x2)] (by decide) rfl rfl (Nat.le_of_ble_eq_true rfl) rfl ?_
  intro p e s m args below meth c Q A hQ hA C0 hr hnm hsz hM ls hl
  have hx := C0.1
  have hb := C0.2.1
  have hown := C0.2.2.2.1
  have jq110 : ∀ (A_0_21_rackKinds : (Nat → Int32)) (A_0_22_rackSizes : (Nat → Int32)) (A_0_23_things : (Nat → Int32)) (A_0_24_areThere : (Nat → Int32)) (H : Heap) (locs : List Loc) (ls : Array Slot) , jn_X12_copied_110 x1 x2 K A_0_21_rackKinds A_0_22_rackSizes A_0_23_things A_0_24_areThere → MW D A s.heap [(h0, .inr (11, oX12 r0 I_0_isFound I_0_foundB I_0_changes I_0_taped I_0_size I_0_at I_0_signs I_0_wanted I_0_sign I_0_isKept I_0_keptFound I_0_keptB I_0_keptChanges)), ((r0 21), .inl (cI, 3, .inl A_0_21_rackKinds)), ((r0 22), .inl (cI, 3, .inl A_0_22_rackSizes)), ((r0 23), .inl (cI, 30, .inl A_0_23_things)), ((r0 24), .inl (cZ, 30, .inl A_0_24_areThere))] H locs → lv_has ls 4 [(0, .ref h0), (1, .int x1)] → W p l e rm_X12_copied s m args below meth c H locs 0 0 Q (F0 m 110 ls []) := by
    intro A_0_21_rackKinds A_0_22_rackSizes A_0_23_things A_0_24_areThere H locs ls h hM hl
    unfold jn_X12_copied_110 at h
    refine lv_aload_n hx hb dX12_copied_110 rfl (lv_at hl 0 rfl) ?_
    refine m_get (C := RX12) (T := TX12) (N := 45) (ci := 11) (ref := "LoweredPowersModel") (v := .ref (r0 22)) C0 hM 0 rfl rfl kt_X12_copied_X12 22 (by decide) kw_X12_copied_2 rfl rfl dX12_copied_111 ?_
    refine lv_iload_n hx hb dX12_copied_114 rfl (lv_at hl 1 rfl) ?_
    obtain ⟨hc1, h⟩ := h
    refine m_iald C0 hM 2 rfl hc1 dX12_copied_115 ?_
    subst hsz; subst hA; subst hQ
    exact m_iret C0 hr hM (A_0_21_rackKinds, A_0_22_rackSizes, A_0_23_things, A_0_24_areThere) h rfl dX12_copied_116
  have lq54 : ∀ (k54 : Nat) (x3 : Int32) (A_0_21_rackKinds : (Nat → Int32)) (A_0_22_rackSizes : (Nat → Int32)) (A_0_23_things : (Nat → Int32)) (A_0_24_areThere : (Nat → Int32)) (H : Heap) (locs : List Loc) (ls : Array Slot) , lp_X12_copied_54 x1 x2 (jn_X12_copied_110 x1 x2 K) K k54 x3 A_0_21_rackKinds A_0_22_rackSizes A_0_23_things A_0_24_areThere → MW D A s.heap [(h0, .inr (11, oX12 r0 I_0_isFound I_0_foundB I_0_changes I_0_taped I_0_size I_0_at I_0_signs I_0_wanted I_0_sign I_0_isKept I_0_keptFound I_0_keptB I_0_keptChanges)), ((r0 21), .inl (cI, 3, .inl A_0_21_rackKinds)), ((r0 22), .inl (cI, 3, .inl A_0_22_rackSizes)), ((r0 23), .inl (cI, 30, .inl A_0_23_things)), ((r0 24), .inl (cZ, 30, .inl A_0_24_areThere))] H locs → lv_has ls 4 [(0, .ref h0), (1, .int x1), (2, .int x2), (3, .int x3)] → W p l e rm_X12_copied s m args below meth c H locs 0 0 Q (F0 m 54 ls []) := by
    intro k54
    induction k54 with
    | zero =>
      intro x3 A_0_21_rackKinds A_0_22_rackSizes A_0_23_things A_0_24_areThere H locs ls h
      unfold lp_X12_copied_54 at h
      exact h.elim
    | succ k54 ih54 =>
      intro x3 A_0_21_rackKinds A_0_22_rackSizes A_0_23_things A_0_24_areThere H locs ls h hM hl
      unfold lp_X12_copied_54 at h
      refine lv_iload_n hx hb dX12_copied_54 rfl (lv_at hl 3 rfl) ?_
      refine lv_bipush (v := (10 : Int32)) hx hb dX12_copied_55 (by decide) ?_
      refine lv_icmp_ge (tgt := 110) hx hb dX12_copied_57 (by decide) (fun hq => ?_) (fun hq => ?_)
      · have h := h.1 hq
        exact jq110 _ _ _ _ _ _ _ h hM (lv_sub hl [0, 1] rfl)
      · have h := h.2 hq
        refine lv_aload_n hx hb dX12_copied_60 rfl (lv_at hl 0 rfl) ?_
        refine m_get (C := RX12) (T := TX12) (N := 45) (ci := 11) (ref := "LoweredPowersModel") (v := .ref (r0 23)) C0 hM 0 rfl rfl kt_X12_copied_X12 23 (by decide) kw_X12_copied_3 rfl rfl dX12_copied_61 ?_
        refine lv_bipush (v := (10 : Int32)) hx hb dX12_copied_64 (by decide) ?_
        refine lv_iload_n hx hb dX12_copied_66 rfl (lv_at hl 2 rfl) ?_
        refine lv_imul hx hb dX12_copied_67 ?_
        refine lv_iload_n hx hb dX12_copied_68 rfl (lv_at hl 3 rfl) ?_
        refine lv_iadd hx hb dX12_copied_69 ?_
        refine lv_aload_n hx hb dX12_copied_70 rfl (lv_at hl 0 rfl) ?_
        refine m_get (C := RX12) (T := TX12) (N := 45) (ci := 11) (ref := "LoweredPowersModel") (v := .ref (r0 23)) C0 hM 0 rfl rfl kt_X12_copied_X12 23 (by decide) kw_X12_copied_3 rfl rfl dX12_copied_71 ?_
        refine lv_bipush (v := (10 : Int32)) hx hb dX12_copied_74 (by decide) ?_
        refine lv_iload_n hx hb dX12_copied_76 rfl (lv_at hl 1 rfl) ?_
        refine lv_imul hx hb dX12_copied_77 ?_
        refine lv_iload_n hx hb dX12_copied_78 rfl (lv_at hl 3 rfl) ?_
        refine lv_iadd hx hb dX12_copied_79 ?_
        obtain ⟨hc2, h⟩ := h
        refine m_iald C0 hM 3 rfl hc2 dX12_copied_80 ?_
        refine lv_topi (fun y3 ey3 => ?_)
        have h := h y3 ey3
        obtain ⟨hc4, h⟩ := h
        refine m_iast (ws' := [(h0, .inr (11, oX12 r0 I_0_isFound I_0_foundB I_0_changes I_0_taped I_0_size I_0_at I_0_signs I_0_wanted I_0_sign I_0_isKept I_0_keptFound I_0_keptB I_0_keptChanges)), ((r0 21), .inl (cI, 3, .inl A_0_21_rackKinds)), ((r0 22), .inl (cI, 3, .inl A_0_22_rackSizes)), ((r0 23), .inl (cI, 30, .inl (upd A_0_23_things ((((10 : Int32) * x2) + x3)).toNatClampNeg y3))), ((r0 24), .inl (cZ, 30, .inl A_0_24_areThere))]) C0 hM 3 rfl hc4 rfl dX12_copied_81 (fun H locs hM => ?_)
        refine lv_aload_n hx hb dX12_copied_82 rfl (lv_at hl 0 rfl) ?_
        refine m_get (C := RX12) (T := TX12) (N := 45) (ci := 11) (ref := "LoweredPowersModel") (v := .ref (r0 24)) C0 hM 0 rfl rfl kt_X12_copied_X12 24 (by decide) kw_X12_copied_4 rfl rfl dX12_copied_83 ?_
        refine lv_bipush (v := (10 : Int32)) hx hb dX12_copied_86 (by decide) ?_
        refine lv_iload_n hx hb dX12_copied_88 rfl (lv_at hl 2 rfl) ?_
        refine lv_imul hx hb dX12_copied_89 ?_
        refine lv_iload_n hx hb dX12_copied_90 rfl (lv_at hl 3 rfl) ?_
        refine lv_iadd hx hb dX12_copied_91 ?_
        refine lv_aload_n hx hb dX12_copied_92 rfl (lv_at hl 0 rfl) ?_
        refine m_get (C := RX12) (T := TX12) (N := 45) (ci := 11) (ref := "LoweredPowersModel") (v := .ref (r0 24)) C0 hM 0 rfl rfl kt_X12_copied_X12 24 (by decide) kw_X12_copied_4 rfl rfl dX12_copied_93 ?_
        refine lv_bipush (v := (10 : Int32)) hx hb dX12_copied_96 (by decide) ?_
        refine lv_iload_n hx hb dX12_copied_98 rfl (lv_at hl 1 rfl) ?_
        refine lv_imul hx hb dX12_copied_99 ?_
        refine lv_iload_n hx hb dX12_copied_100 rfl (lv_at hl 3 rfl) ?_
        refine lv_iadd hx hb dX12_copied_101 ?_
        refine m_zald C0 hM 4 rfl hc2 dX12_copied_102 ?_
        refine lv_topi (fun y5 ey5 => ?_)
        have h := h y5 ey5
        refine m_zast (ws' := [(h0, .inr (11, oX12 r0 I_0_isFound I_0_foundB I_0_changes I_0_taped I_0_size I_0_at I_0_signs I_0_wanted I_0_sign I_0_isKept I_0_keptFound I_0_keptB I_0_keptChanges)), ((r0 21), .inl (cI, 3, .inl A_0_21_rackKinds)), ((r0 22), .inl (cI, 3, .inl A_0_22_rackSizes)), ((r0 23), .inl (cI, 30, .inl (upd A_0_23_things ((((10 : Int32) * x2) + x3)).toNatClampNeg y3))), ((r0 24), .inl (cZ, 30, .inl (upd A_0_24_areThere ((((10 : Int32) * x2) + x3)).toNatClampNeg (vp_nar .boolean y5))))]) C0 hM 4 rfl hc4 rfl dX12_copied_103 (fun H locs hM => ?_)
        refine lv_iinc (v := (x3 + (1 : Int32))) (lv' := [(3, .int (x3 + (1 : Int32))), (0, .ref h0), (1, .int x1), (2, .int x2)]) hx hb dX12_copied_104 hl (k := 3) rfl rfl (by decide) rfl (fun ls hl => ?_)
        refine lv_goto (tgt := 54) hx hb dX12_copied_107 (by decide) ?_
        exact ih54 _ _ _ _ _ _ _ _ h hM (lv_sub hl [1, 2, 3, 0] rfl)
  unfold wp_X12_copied at h
  refine lv_iload_n hx hb dX12_copied_0 rfl (lv_at hl 1 rfl) ?_
  refine m_calli (wc := []) C0 hM [] rfl (m_runS (wc := []) (As := [.int x1]) (rest := []) C0 hM (ct_X12_isRack l D cI cJ cZ x1 _ _ h) [] rfl (by decide) gX12_copied_X12_isRack rfl rfl rfl hd_X12_isRack ⟨Nat.le_of_ble_eq_true rfl, Nat.le_of_ble_eq_true rfl⟩ rfl hl.1 rfl (Nat.le_of_ble_eq_true rfl) dX12_copied_1 ⟨Nat.le_of_ble_eq_true rfl, Nat.le_of_ble_eq_true rfl⟩) (fun _ => [(h0, .inr (11, oX12 r0 I_0_isFound I_0_foundB I_0_changes I_0_taped I_0_size I_0_at I_0_signs I_0_wanted I_0_sign I_0_isKept I_0_keptFound I_0_keptB I_0_keptChanges)), ((r0 21), .inl (cI, 3, .inl A_0_21_rackKinds)), ((r0 22), .inl (cI, 3, .inl A_0_22_rackSizes)), ((r0 23), .inl (cI, 30, .inl A_0_23_things)), ((r0 24), .inl (cZ, 30, .inl A_0_24_areThere))]) (fun _ => rfl) (fun _ => rfl) (fun y6 _ H locs h hM => ?_)
  refine lv_if_eq (tgt := 14) hx hb dX12_copied_4 (by decide) (fun hq => ?_) (fun hq => ?_)
  · have h := h.1 hq
    refine lv_iconst (v := (-1 : Int32)) hx hb dX12_copied_14 (by decide) ?_
    subst hsz; subst hA; subst hQ
    exact m_iret C0 hr hM (A_0_21_rackKinds, A_0_22_rackSizes, A_0_23_things, A_0_24_areThere) h rfl dX12_copied_15
  · have h := h.2 hq
    refine lv_iload_n hx hb dX12_copied_7 rfl (lv_at hl 2 rfl) ?_
    refine m_calli (wc := []) C0 hM [] rfl (m_runS (wc := []) (As := [.int x2]) (rest := []) C0 hM (ct_X12_isRack l D cI cJ cZ x2 _ _ h) [] rfl (by decide) gX12_copied_X12_isRack rfl rfl rfl hd_X12_isRack ⟨Nat.le_of_ble_eq_true rfl, Nat.le_of_ble_eq_true rfl⟩ rfl hl.1 rfl (Nat.le_of_ble_eq_true rfl) dX12_copied_8 ⟨Nat.le_of_ble_eq_true rfl, Nat.le_of_ble_eq_true rfl⟩) (fun _ => [(h0, .inr (11, oX12 r0 I_0_isFound I_0_foundB I_0_changes I_0_taped I_0_size I_0_at I_0_signs I_0_wanted I_0_sign I_0_isKept I_0_keptFound I_0_keptB I_0_keptChanges)), ((r0 21), .inl (cI, 3, .inl A_0_21_rackKinds)), ((r0 22), .inl (cI, 3, .inl A_0_22_rackSizes)), ((r0 23), .inl (cI, 30, .inl A_0_23_things)), ((r0 24), .inl (cZ, 30, .inl A_0_24_areThere))]) (fun _ => rfl) (fun _ => rfl) (fun y7 _ H locs h hM => ?_)
    refine lv_if_ne (tgt := 16) hx hb dX12_copied_11 (by decide) (fun hq => ?_) (fun hq => ?_)
    · have h := h.1 hq
      refine lv_aload_n hx hb dX12_copied_16 rfl (lv_at hl 0 rfl) ?_
      refine m_get (C := RX12) (T := TX12) (N := 45) (ci := 11) (ref := "LoweredPowersModel") (v := .ref (r0 21)) C0 hM 0 rfl rfl kt_X12_copied_X12 21 (by decide) kw_X12_copied_1 rfl rfl dX12_copied_17 ?_
      refine lv_iload_n hx hb dX12_copied_20 rfl (lv_at hl 1 rfl) ?_
      obtain ⟨hc8, h⟩ := h
      refine m_iald C0 hM 1 rfl hc8 dX12_copied_21 ?_
      refine lv_if_ge (tgt := 28) hx hb dX12_copied_22 (by decide) (fun hq => ?_) (fun hq => ?_)
      · have h := h.1 hq
        refine lv_aload_n hx hb dX12_copied_28 rfl (lv_at hl 0 rfl) ?_
        refine m_get (C := RX12) (T := TX12) (N := 45) (ci := 11) (ref := "LoweredPowersModel") (v := .ref (r0 21)) C0 hM 0 rfl rfl kt_X12_copied_X12 21 (by decide) kw_X12_copied_1 rfl rfl dX12_copied_29 ?_
        refine lv_iload_n hx hb dX12_copied_32 rfl (lv_at hl 2 rfl) ?_
        refine lv_aload_n hx hb dX12_copied_33 rfl (lv_at hl 0 rfl) ?_
        refine m_get (C := RX12) (T := TX12) (N := 45) (ci := 11) (ref := "LoweredPowersModel") (v := .ref (r0 21)) C0 hM 0 rfl rfl kt_X12_copied_X12 21 (by decide) kw_X12_copied_1 rfl rfl dX12_copied_34 ?_
        refine lv_iload_n hx hb dX12_copied_37 rfl (lv_at hl 1 rfl) ?_
        refine m_iald C0 hM 1 rfl hc8 dX12_copied_38 ?_
        refine lv_topi (fun y9 ey9 => ?_)
        have h := h y9 ey9
        obtain ⟨hc10, h⟩ := h
        refine m_iast (ws' := [(h0, .inr (11, oX12 r0 I_0_isFound I_0_foundB I_0_changes I_0_taped I_0_size I_0_at I_0_signs I_0_wanted I_0_sign I_0_isKept I_0_keptFound I_0_keptB I_0_keptChanges)), ((r0 21), .inl (cI, 3, .inl (upd A_0_21_rackKinds (x2).toNatClampNeg y9))), ((r0 22), .inl (cI, 3, .inl A_0_22_rackSizes)), ((r0 23), .inl (cI, 30, .inl A_0_23_things)), ((r0 24), .inl (cZ, 30, .inl A_0_24_areThere))]) C0 hM 1 rfl hc10 rfl dX12_copied_39 (fun H locs hM => ?_)
        refine lv_aload_n hx hb dX12_copied_40 rfl (lv_at hl 0 rfl) ?_
        refine m_get (C := RX12) (T := TX12) (N := 45) (ci := 11) (ref := "LoweredPowersModel") (v := .ref (r0 22)) C0 hM 0 rfl rfl kt_X12_copied_X12 22 (by decide) kw_X12_copied_2 rfl rfl dX12_copied_41 ?_
        refine lv_iload_n hx hb dX12_copied_44 rfl (lv_at hl 2 rfl) ?_
        refine lv_aload_n hx hb dX12_copied_45 rfl (lv_at hl 0 rfl) ?_
        refine m_get (C := RX12) (T := TX12) (N := 45) (ci := 11) (ref := "LoweredPowersModel") (v := .ref (r0 22)) C0 hM 0 rfl rfl kt_X12_copied_X12 22 (by decide) kw_X12_copied_2 rfl rfl dX12_copied_46 ?_
        refine lv_iload_n hx hb dX12_copied_49 rfl (lv_at hl 1 rfl) ?_
        refine m_iald C0 hM 2 rfl hc8 dX12_copied_50 ?_
        refine lv_topi (fun y11 ey11 => ?_)
        have h := h y11 ey11
        refine m_iast (ws' := [(h0, .inr (11, oX12 r0 I_0_isFound I_0_foundB I_0_changes I_0_taped I_0_size I_0_at I_0_signs I_0_wanted I_0_sign I_0_isKept I_0_keptFound I_0_keptB I_0_keptChanges)), ((r0 21), .inl (cI, 3, .inl (upd A_0_21_rackKinds (x2).toNatClampNeg y9))), ((r0 22), .inl (cI, 3, .inl (upd A_0_22_rackSizes (x2).toNatClampNeg y11))), ((r0 23), .inl (cI, 30, .inl A_0_23_things)), ((r0 24), .inl (cZ, 30, .inl A_0_24_areThere))]) C0 hM 2 rfl hc10 rfl dX12_copied_51 (fun H locs hM => ?_)
        refine lv_iconst (v := (0 : Int32)) hx hb dX12_copied_52 (by decide) ?_
        refine lv_istore_n (lv' := [(3, .int (0 : Int32)), (0, .ref h0), (1, .int x1), (2, .int x2)]) hx hb dX12_copied_53 rfl hl (by decide) rfl (fun ls hl => ?_)
        obtain ⟨k0, h⟩ := h
        exact lq54 k0 _ _ _ _ _ _ _ _ h hM (lv_sub hl [1, 2, 3, 0] rfl)
      · have h := h.2 hq
        refine lv_bipush (v := (-11 : Int32)) hx hb dX12_copied_25 (by decide) ?_
        subst hsz; subst hA; subst hQ
        exact m_iret C0 hr hM (A_0_21_rackKinds, A_0_22_rackSizes, A_0_23_things, A_0_24_areThere) h rfl dX12_copied_27
    · have h := h.2 hq
      refine lv_iconst (v := (-1 : Int32)) hx hb dX12_copied_14 (by decide) ?_
      subst hsz; subst hA; subst hQ
      exact m_iret C0 hr hM (A_0_21_rackKinds, A_0_22_rackSizes, A_0_23_things, A_0_24_areThere) h rfl dX12_copied_15
abbrev rm_X12_feed : Room := { frames := 1, cells := 0, slots := 0, locals := 22 }
set_option maxRecDepth 100000 in
set_option maxHeartbeats 4000000 in
theorem ct_X12_feed (l : Launch) (D : va_G) (cI cJ cZ : ClassId) (h0 : Nat) (r0 : Nat → Nat) (I_0_isFound : Int32) (I_0_foundB : Int32) (I_0_changes : Int32) (I_0_taped : Int32) (I_0_size : Int32) (I_0_at : Int32) (I_0_signs : Int32) (I_0_wanted : Int32) (I_0_sign : Int32) (I_0_isKept : Int32) (I_0_keptFound : Int32) (I_0_keptB : Int32) (I_0_keptChanges : Int32) (A_0_25_tape : (Nat → Int32)) (x1 : Int32) (sz : Nat) (K : Int32 → Int32 → (Nat → Int32) → Prop) (h : wp_X12_feed x1 I_0_taped A_0_25_tape K) : Met l yX12_feed wsX12_feed rm_X12_feed (va_Pc [.ref h0, .int x1] (WX D cI cJ cZ [(h0, .inr (11, oX12 r0 I_0_isFound I_0_foundB I_0_changes I_0_taped I_0_size I_0_at I_0_signs I_0_wanted I_0_sign I_0_isKept I_0_keptFound I_0_keptB I_0_keptChanges)), ((r0 25), .inl (cI, 60, .inl A_0_25_tape))] sz)) (va_Qi (fun (r : Int32) (u : Int32 × (Nat → Int32)) => K r u.1 u.2) (fun (u : Int32 × (Nat → Int32)) t => WY D (va_A [(h0, .inr (11, oX12 r0 I_0_isFound I_0_foundB I_0_changes I_0_taped I_0_size I_0_at I_0_signs I_0_wanted I_0_sign I_0_isKept I_0_keptFound I_0_keptB I_0_keptChanges)), ((r0 25), .inl (cI, 60, .inl A_0_25_tape))] sz) [(h0, .inr (11, oX12 r0 I_0_isFound I_0_foundB I_0_changes u.1 I_0_size I_0_at I_0_signs I_0_wanted I_0_sign I_0_isKept I_0_keptFound I_0_keptB I_0_keptChanges)), ((r0 25), .inl (cI, 60, .inl u.2))] t) (va_A [(h0, .inr (11, oX12 r0 I_0_isFound I_0_foundB I_0_changes I_0_taped I_0_size I_0_at I_0_signs I_0_wanted I_0_sign I_0_isKept I_0_keptFound I_0_keptB I_0_keptChanges)), ((r0 25), .inl (cI, 60, .inl A_0_25_tape))] sz)) 0 0 (va_A [(h0, .inr (11, oX12 r0 I_0_isFound I_0_foundB I_0_changes I_0_taped I_0_size I_0_at I_0_signs I_0_wanted I_0_sign I_0_isKept I_0_keptFound I_0_keptB I_0_keptChanges)), ((r0 25), .inl (cI, 60, .inl A_0_25_tape))] sz) := by
  refine m_met (own := RX12) (cc := cX12_feed) (maxL := 2) (ret := some .int) [.ref h0, .int x1] [(0, .ref h0), (1, .int x1)] (by decide) rfl rfl (Nat.le_of_ble_eq_true rfl) rfl ?_
  intro p e s m args below meth c Q A hQ hA C0 hr hnm hsz hM ls hl
  have hx := C0.1
  have hb := C0.2.1
  have hown := C0.2.2.2.1
  unfold wp_X12_feed at h
  refine lv_iload_n hx hb dX12_feed_0 rfl (lv_at hl 1 rfl) ?_
  refine lv_bipush (v := (32 : Int32)) hx hb dX12_feed_1 (by decide) ?_
  refine lv_bipush (v := (126 : Int32)) hx hb dX12_feed_3 (by decide) ?_
  refine m_calli (wc := []) C0 hM [] rfl (m_runS (wc := []) (As := [.int x1, .int (32 : Int32), .int (126 : Int32)]) (rest := []) C0 hM (ct_X12_isIn l D cI cJ cZ x1 (32 : Int32) (126 : Int32) _ _ h) [] rfl (by decide) gX12_feed_X12_isIn rfl rfl rfl hd_X12_isIn ⟨Nat.le_of_ble_eq_true rfl, Nat.le_of_ble_eq_true rfl⟩ rfl hl.1 rfl (Nat.le_of_ble_eq_true rfl) dX12_feed_5 ⟨Nat.le_of_ble_eq_true rfl, Nat.le_of_ble_eq_true rfl⟩) (fun _ => [(h0, .inr (11, oX12 r0 I_0_isFound I_0_foundB I_0_changes I_0_taped I_0_size I_0_at I_0_signs I_0_wanted I_0_sign I_0_isKept I_0_keptFound I_0_keptB I_0_keptChanges)), ((r0 25), .inl (cI, 60, .inl A_0_25_tape))]) (fun _ => rfl) (fun _ => rfl) (fun y1 _ H locs h hM => ?_)
  refine lv_if_ne (tgt := 14) hx hb dX12_feed_8 (by decide) (fun hq => ?_) (fun hq => ?_)
  · have h := h.1 hq
    refine lv_aload_n hx hb dX12_feed_14 rfl (lv_at hl 0 rfl) ?_
    refine m_get (C := RX12) (T := TX12) (N := 45) (ci := 11) (ref := "LoweredPowersModel") (v := .int I_0_taped) C0 hM 0 rfl rfl kt_X12_feed_X12 26 (by decide) kw_X12_feed_1 rfl rfl dX12_feed_15 ?_
    refine lv_bipush (v := (60 : Int32)) hx hb dX12_feed_18 (by decide) ?_
    refine lv_icmp_ne (tgt := 26) hx hb dX12_feed_20 (by decide) (fun hq => ?_) (fun hq => ?_)
    · have h := h.1 hq
      refine lv_aload_n hx hb dX12_feed_26 rfl (lv_at hl 0 rfl) ?_
      refine m_get (C := RX12) (T := TX12) (N := 45) (ci := 11) (ref := "LoweredPowersModel") (v := .ref (r0 25)) C0 hM 0 rfl rfl kt_X12_feed_X12 25 (by decide) kw_X12_feed_2 rfl rfl dX12_feed_27 ?_
      refine lv_aload_n hx hb dX12_feed_30 rfl (lv_at hl 0 rfl) ?_
      refine m_get (C := RX12) (T := TX12) (N := 45) (ci := 11) (ref := "LoweredPowersModel") (v := .int I_0_taped) C0 hM 0 rfl rfl kt_X12_feed_X12 26 (by decide) kw_X12_feed_1 rfl rfl dX12_feed_31 ?_
      refine lv_iload_n hx hb dX12_feed_34 rfl (lv_at hl 1 rfl) ?_
      obtain ⟨hc2, h⟩ := h
      refine m_iast (ws' := [(h0, .inr (11, oX12 r0 I_0_isFound I_0_foundB I_0_changes I_0_taped I_0_size I_0_at I_0_signs I_0_wanted I_0_sign I_0_isKept I_0_keptFound I_0_keptB I_0_keptChanges)), ((r0 25), .inl (cI, 60, .inl (upd A_0_25_tape (I_0_taped).toNatClampNeg x1)))]) C0 hM 1 rfl hc2 rfl dX12_feed_35 (fun H locs hM => ?_)
      refine lv_aload_n hx hb dX12_feed_36 rfl (lv_at hl 0 rfl) ?_
      refine lv_dup hx hb dX12_feed_37 rfl ?_
      refine m_get (C := RX12) (T := TX12) (N := 45) (ci := 11) (ref := "LoweredPowersModel") (v := .int I_0_taped) C0 hM 0 rfl rfl kt_X12_feed_X12 26 (by decide) kw_X12_feed_1 rfl rfl dX12_feed_38 ?_
      refine lv_iconst (v := (1 : Int32)) hx hb dX12_feed_41 (by decide) ?_
      refine lv_iadd hx hb dX12_feed_42 ?_
      refine lv_topi (fun y3 ey3 => ?_)
      have h := h y3 ey3
      refine m_put (ws' := [(h0, .inr (11, oX12 r0 I_0_isFound I_0_foundB I_0_changes y3 I_0_size I_0_at I_0_signs I_0_wanted I_0_sign I_0_isKept I_0_keptFound I_0_keptB I_0_keptChanges)), ((r0 25), .inl (cI, 60, .inl (upd A_0_25_tape (I_0_taped).toNatClampNeg x1)))]) (C := RX12) (T := TX12) (N := 45) (ci := 11) (ref := "LoweredPowersModel") (v := .int y3) C0 hM 0 rfl rfl kt_X12_feed_X12 tyX12 tyX12_ok nmX12 26 (by decide) kw_X12_feed_1 rfl rfl rfl rfl (Nat.le_of_ble_eq_true rfl) rfl dX12_feed_43 (fun H locs hM => ?_)
      refine lv_aload_n hx hb dX12_feed_46 rfl (lv_at hl 0 rfl) ?_
      refine m_get (C := RX12) (T := TX12) (N := 45) (ci := 11) (ref := "LoweredPowersModel") (v := .int y3) C0 hM 0 rfl rfl kt_X12_feed_X12 26 (by decide) kw_X12_feed_1 rfl rfl dX12_feed_47 ?_
      subst hsz; subst hA; subst hQ
      exact m_iret C0 hr hM (y3, (upd A_0_25_tape (I_0_taped).toNatClampNeg x1)) h rfl dX12_feed_50
    · have h := h.2 hq
      refine lv_bipush (v := (-4 : Int32)) hx hb dX12_feed_23 (by decide) ?_
      subst hsz; subst hA; subst hQ
      exact m_iret C0 hr hM (I_0_taped, A_0_25_tape) h rfl dX12_feed_25
  · have h := h.2 hq
    refine lv_bipush (v := (-2 : Int32)) hx hb dX12_feed_11 (by decide) ?_
    subst hsz; subst hA; subst hQ
    exact m_iret C0 hr hM (I_0_taped, A_0_25_tape) h rfl dX12_feed_13
abbrev rm_X12_wipe : Room := { frames := 0, cells := 0, slots := 0, locals := 0 }
set_option maxRecDepth 100000 in
set_option maxHeartbeats 4000000 in
theorem ct_X12_wipe (l : Launch) (D : va_G) (cI cJ cZ : ClassId) (h0 : Nat) (r0 : Nat → Nat) (I_0_isFound : Int32) (I_0_foundB : Int32) (I_0_changes : Int32) (I_0_taped : Int32) (I_0_size : Int32) (I_0_at : Int32) (I_0_signs : Int32) (I_0_wanted : Int32) (I_0_sign : Int32) (I_0_isKept : Int32) (I_0_keptFound : Int32) (I_0_keptB : Int32) (I_0_keptChanges : Int32) (sz : Nat) (K : Int32 → Int32 → Prop) (h : wp_X12_wipe I_0_taped K) : Met l yX12_wipe wsX12_wipe rm_X12_wipe (va_Pc [.ref h0] (WX D cI cJ cZ [(h0, .inr (11, oX12 r0 I_0_isFound I_0_foundB I_0_changes I_0_taped I_0_size I_0_at I_0_signs I_0_wanted I_0_sign I_0_isKept I_0_keptFound I_0_keptB I_0_keptChanges))] sz)) (va_Qi (fun (r : Int32) (u : Int32) => K r u) (fun (u : Int32) t => WY D (va_A [(h0, .inr (11, oX12 r0 I_0_isFound I_0_foundB I_0_changes I_0_taped I_0_size I_0_at I_0_signs I_0_wanted I_0_sign I_0_isKept I_0_keptFound I_0_keptB I_0_keptChanges))] sz) [(h0, .inr (11, oX12 r0 I_0_isFound I_0_foundB I_0_changes u I_0_size I_0_at I_0_signs I_0_wanted I_0_sign I_0_isKept I_0_keptFound I_0_keptB I_0_keptChanges))] t) (va_A [(h0, .inr (11, oX12 r0 I_0_isFound I_0_foundB I_0_changes I_0_taped I_0_size I_0_at I_0_signs I_0_wanted I_0_sign I_0_isKept I_0_keptFound I_0_keptB I_0_keptChanges))] sz)) 0 0 (va_A [(h0, .inr (11, oX12 r0 I_0_isFound I_0_foundB I_0_changes I_0_taped I_0_size I_0_at I_0_signs I_0_wanted I_0_sign I_0_isKept I_0_keptFound I_0_keptB I_0_keptChanges))] sz) := by
  refine m_met (own := RX12) (cc := cX12_wipe) (maxL := 2) (ret := some .int) [.ref h0] [(0, .ref h0)] (by decide) rfl rfl (Nat.le_of_ble_eq_true rfl) rfl ?_
  intro p e s m args below meth c Q A hQ hA C0 hr hnm hsz hM ls hl
  have hx := C0.1
  have hb := C0.2.1
  have hown := C0.2.2.2.1
  unfold wp_X12_wipe at h
  refine lv_aload_n hx hb dX12_wipe_0 rfl (lv_at hl 0 rfl) ?_
  refine m_get (C := RX12) (T := TX12) (N := 45) (ci := 11) (ref := "LoweredPowersModel") (v := .int I_0_taped) C0 hM 0 rfl rfl kt_X12_wipe_X12 26 (by decide) kw_X12_wipe_1 rfl rfl dX12_wipe_1 ?_
  refine lv_istore_n (lv' := [(1, .int I_0_taped), (0, .ref h0)]) hx hb dX12_wipe_4 rfl hl (by decide) rfl (fun ls hl => ?_)
  refine lv_aload_n hx hb dX12_wipe_5 rfl (lv_at hl 1 rfl) ?_
  refine lv_iconst (v := (0 : Int32)) hx hb dX12_wipe_6 (by decide) ?_
  refine m_put (ws' := [(h0, .inr (11, oX12 r0 I_0_isFound I_0_foundB I_0_changes (0 : Int32) I_0_size I_0_at I_0_signs I_0_wanted I_0_sign I_0_isKept I_0_keptFound I_0_keptB I_0_keptChanges))]) (C := RX12) (T := TX12) (N := 45) (ci := 11) (ref := "LoweredPowersModel") (v := .int (0 : Int32)) C0 hM 0 rfl rfl kt_X12_wipe_X12 tyX12 tyX12_ok nmX12 26 (by decide) kw_X12_wipe_1 rfl rfl rfl rfl (Nat.le_of_ble_eq_true rfl) rfl dX12_wipe_7 (fun H locs hM => ?_)
  refine lv_iload_n hx hb dX12_wipe_10 rfl (lv_at hl 0 rfl) ?_
  subst hsz; subst hA; subst hQ
  exact m_iret C0 hr hM (0 : Int32) h rfl dX12_wipe_11
