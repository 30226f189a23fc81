theorem hd_X11_checked : yX11_checked.cls = RX11 ∧ yX11_checked.cls ≠ "java/lang/invoke/MethodHandle" ∧ yX11_checked.cls ≠ "java/lang/invoke/VarHandle" ∧ (parseMethodDescriptor yX11_checked.desc).map (fun d => d.parameters.length) = some 1 := by decide +kernel
theorem hd_X11_value : yX11_value.cls = RX11 ∧ yX11_value.cls ≠ "java/lang/invoke/MethodHandle" ∧ yX11_value.cls ≠ "java/lang/invoke/VarHandle" ∧ (parseMethodDescriptor yX11_value.desc).map (fun d => d.parameters.length) = some 1 := by decide +kernel
theorem hd_X11_slope : yX11_slope.cls = RX11 ∧ yX11_slope.cls ≠ "java/lang/invoke/MethodHandle" ∧ yX11_slope.cls ≠ "java/lang/invoke/VarHandle" ∧ (parseMethodDescriptor yX11_slope.desc).map (fun d => d.parameters.length) = some 1 := by decide +kernel
theorem hd_X11_steps : yX11_steps.cls = RX11 ∧ yX11_steps.cls ≠ "java/lang/invoke/MethodHandle" ∧ yX11_steps.cls ≠ "java/lang/invoke/VarHandle" ∧ (parseMethodDescriptor yX11_steps.desc).map (fun d => d.parameters.length) = some 2 := by decide +kernel
theorem hd_X11_cut : yX11_cut.cls = RX11 ∧ yX11_cut.cls ≠ "java/lang/invoke/MethodHandle" ∧ yX11_cut.cls ≠ "java/lang/invoke/VarHandle" ∧ (parseMethodDescriptor yX11_cut.desc).map (fun d => d.parameters.length) = some 1 := by decide +kernel
theorem hd_X11_valued : yX11_valued.cls = RX11 ∧ yX11_valued.cls ≠ "java/lang/invoke/MethodHandle" ∧ yX11_valued.cls ≠ "java/lang/invoke/VarHandle" ∧ (parseMethodDescriptor yX11_valued.desc).map (fun d => d.parameters.length) = some 1 := by decide +kernel
theorem hd_X11_narrowed : yX11_narrowed.cls = RX11 ∧ yX11_narrowed.cls ≠ "java/lang/invoke/MethodHandle" ∧ yX11_narrowed.cls ≠ "java/lang/invoke/VarHandle" ∧ (parseMethodDescriptor yX11_narrowed.desc).map (fun d => d.parameters.length) = some 1 := by decide +kernel
theorem hd_X11_plan : yX11_plan.cls = RX11 ∧ yX11_plan.cls ≠ "java/lang/invoke/MethodHandle" ∧ yX11_plan.cls ≠ "java/lang/invoke/VarHandle" ∧ (parseMethodDescriptor yX11_plan.desc).map (fun d => d.parameters.length) = some 2 := by decide +kernel
theorem hd_X11_unplan : yX11_unplan.cls = RX11 ∧ yX11_unplan.cls ≠ "java/lang/invoke/MethodHandle" ∧ yX11_unplan.cls ≠ "java/lang/invoke/VarHandle" ∧ (parseMethodDescriptor yX11_unplan.desc).map (fun d => d.parameters.length) = some 0 := by decide +kernel
theorem hd_X11_run : yX11_run.cls = RX11 ∧ yX11_run.cls ≠ "java/lang/invoke/MethodHandle" ∧ yX11_run.cls ≠ "java/lang/invoke/VarHandle" ∧ (parseMethodDescriptor yX11_run.desc).map (fun d => d.parameters.length) = some 0 := by decide +kernel
theorem hd_X11_ahead : yX11_ahead.cls = RX11 ∧ yX11_ahead.cls ≠ "java/lang/invoke/MethodHandle" ∧ yX11_ahead.cls ≠ "java/lang/invoke/VarHandle" ∧ (parseMethodDescriptor yX11_ahead.desc).map (fun d => d.parameters.length) = some 1 := by decide +kernel
theorem hd_X11_rack : yX11_rack.cls = RX11 ∧ yX11_rack.cls ≠ "java/lang/invoke/MethodHandle" ∧ yX11_rack.cls ≠ "java/lang/invoke/VarHandle" ∧ (parseMethodDescriptor yX11_rack.desc).map (fun d => d.parameters.length) = some 3 := by decide +kernel
theorem hd_X11_store : yX11_store.cls = RX11 ∧ yX11_store.cls ≠ "java/lang/invoke/MethodHandle" ∧ yX11_store.cls ≠ "java/lang/invoke/VarHandle" ∧ (parseMethodDescriptor yX11_store.desc).map (fun d => d.parameters.length) = some 4 := by decide +kernel
theorem hd_X11_thing : yX11_thing.cls = RX11 ∧ yX11_thing.cls ≠ "java/lang/invoke/MethodHandle" ∧ yX11_thing.cls ≠ "java/lang/invoke/VarHandle" ∧ (parseMethodDescriptor yX11_thing.desc).map (fun d => d.parameters.length) = some 2 := by decide +kernel
theorem hd_X11_copied : yX11_copied.cls = RX11 ∧ yX11_copied.cls ≠ "java/lang/invoke/MethodHandle" ∧ yX11_copied.cls ≠ "java/lang/invoke/VarHandle" ∧ (parseMethodDescriptor yX11_copied.desc).map (fun d => d.parameters.length) = some 2 := by decide +kernel
theorem hd_X11_feed : yX11_feed.cls = RX11 ∧ yX11_feed.cls ≠ "java/lang/invoke/MethodHandle" ∧ yX11_feed.cls ≠ "java/lang/invoke/VarHandle" ∧ (parseMethodDescriptor yX11_feed.desc).map (fun d => d.parameters.length) = some 1 := by decide +kernel
theorem hd_X11_wipe : yX11_wipe.cls = RX11 ∧ yX11_wipe.cls ≠ "java/lang/invoke/MethodHandle" ∧ yX11_wipe.cls ≠ "java/lang/invoke/VarHandle" ∧ (parseMethodDescriptor yX11_wipe.desc).map (fun d => d.parameters.length) = some 0 := by decide +kernel
theorem hd_X11_read : yX11_read.cls = RX11 ∧ yX11_read.cls ≠ "java/lang/invoke/MethodHandle" ∧ yX11_read.cls ≠ "java/lang/invoke/VarHandle" ∧ (parseMethodDescriptor yX11_read.desc).map (fun d => d.parameters.length) = some 0 := by decide +kernel
theorem hd_X11_written : yX11_written.cls = RX11 ∧ yX11_written.cls ≠ "java/lang/invoke/MethodHandle" ∧ yX11_written.cls ≠ "java/lang/invoke/VarHandle" ∧ (parseMethodDescriptor yX11_written.desc).map (fun d => d.parameters.length) = some 1 := by decide +kernel
theorem hd_X11_list : yX11_list.cls = RX11 ∧ yX11_list.cls ≠ "java/lang/invoke/MethodHandle" ∧ yX11_list.cls ≠ "java/lang/invoke/VarHandle" ∧ (parseMethodDescriptor yX11_list.desc).map (fun d => d.parameters.length) = some 2 := by decide +kernel
theorem kt_X11_ahead_X11 : ∀ w ∈ u_ws RX11 TX11 12, w ∈ wsX11_ahead := fun _ h => List.mem_cons_of_mem _ (List.mem_append_left _ (List.mem_append_left _ (List.mem_append_right _ (h))))
theorem kt_X11_ahead_X9 : ∀ w ∈ u_ws RX9 TX9 4, w ∈ wsX11_ahead := fun _ h => List.mem_cons_of_mem _ (List.mem_append_left _ (List.mem_append_right _ (h)))
theorem kt_X11_checked_X11 : ∀ w ∈ u_ws RX11 TX11 12, w ∈ wsX11_checked := fun _ h => List.mem_cons_of_mem _ (List.mem_append_left _ (List.mem_append_left _ (List.mem_append_left _ (List.mem_append_left _ (List.mem_append_right _ (h))))))
theorem kt_X11_checked_X9 : ∀ w ∈ u_ws RX9 TX9 4, w ∈ wsX11_checked := fun _ h => List.mem_cons_of_mem _ (List.mem_append_left _ (List.mem_append_left _ (List.mem_append_left _ (List.mem_append_right _ (h)))))
theorem kt_X11_copied_X11 : ∀ w ∈ u_ws RX11 TX11 12, w ∈ wsX11_copied := fun _ h => List.mem_cons_of_mem _ (List.mem_append_left _ (List.mem_append_right _ (h)))
theorem kt_X11_copied_X6 : ∀ w ∈ u_ws RX6 TX6 4, w ∈ wsX11_copied := fun _ h => List.mem_cons_of_mem _ (List.mem_append_right _ (h))
theorem kt_X11_cut_X11 : ∀ w ∈ u_ws RX11 TX11 12, w ∈ wsX11_cut := fun _ h => List.mem_cons_of_mem _ (List.mem_append_left _ (List.mem_append_left _ (List.mem_append_right _ (h))))
theorem kt_X11_cut_X9 : ∀ w ∈ u_ws RX9 TX9 4, w ∈ wsX11_cut := fun _ h => List.mem_cons_of_mem _ (List.mem_append_left _ (List.mem_append_right _ (h)))
theorem kt_X11_feed_X10 : ∀ w ∈ u_ws RX10 TX10 9, w ∈ wsX11_feed := fun _ h => List.mem_cons_of_mem _ (List.mem_append_right _ (h))
theorem kt_X11_feed_X11 : ∀ w ∈ u_ws RX11 TX11 12, w ∈ wsX11_feed := fun _ h => List.mem_cons_of_mem _ (List.mem_append_left _ (List.mem_append_right _ (h)))
theorem kt_X11_list_X11 : ∀ w ∈ u_ws RX11 TX11 12, w ∈ wsX11_list := fun _ h => List.mem_cons_of_mem _ (List.mem_append_left _ (List.mem_append_right _ (h)))
theorem kt_X11_narrowed_X11 : ∀ w ∈ u_ws RX11 TX11 12, w ∈ wsX11_narrowed := fun _ h => List.mem_cons_of_mem _ (List.mem_append_left _ (List.mem_append_left _ (List.mem_append_right _ (h))))
theorem kt_X11_narrowed_X9 : ∀ w ∈ u_ws RX9 TX9 4, w ∈ wsX11_narrowed := fun _ h => List.mem_cons_of_mem _ (List.mem_append_left _ (List.mem_append_right _ (h)))
theorem kt_X11_plan_X11 : ∀ w ∈ u_ws RX11 TX11 12, w ∈ wsX11_plan := fun _ h => List.mem_cons_of_mem _ (List.mem_append_left _ (List.mem_append_left _ (List.mem_append_right _ (h))))
theorem kt_X11_plan_X5 : ∀ w ∈ u_ws RX5 TX5 3, w ∈ wsX11_plan := fun _ h => List.mem_cons_of_mem _ (List.mem_append_right _ (h))
theorem kt_X11_plan_X9 : ∀ w ∈ u_ws RX9 TX9 4, w ∈ wsX11_plan := fun _ h => List.mem_cons_of_mem _ (List.mem_append_left _ (List.mem_append_right _ (h)))
theorem kt_X11_rack_X11 : ∀ w ∈ u_ws RX11 TX11 12, w ∈ wsX11_rack := fun _ h => List.mem_cons_of_mem _ (List.mem_append_left _ (List.mem_append_right _ (h)))
theorem kt_X11_read_X10 : ∀ w ∈ u_ws RX10 TX10 9, w ∈ wsX11_read := fun _ h => List.mem_cons_of_mem _ (List.mem_append_left _ (List.mem_append_right _ (h)))
theorem kt_X11_read_X11 : ∀ w ∈ u_ws RX11 TX11 12, w ∈ wsX11_read := fun _ h => List.mem_cons_of_mem _ (List.mem_append_left _ (List.mem_append_left _ (List.mem_append_right _ (h))))
theorem kt_X11_read_X9 : ∀ w ∈ u_ws RX9 TX9 4, w ∈ wsX11_read := fun _ h => List.mem_cons_of_mem _ (List.mem_append_right _ (h))
theorem kt_X11_run_X11 : ∀ w ∈ u_ws RX11 TX11 12, w ∈ wsX11_run := fun _ h => List.mem_cons_of_mem _ (List.mem_append_left _ (List.mem_append_left _ (List.mem_append_right _ (h))))
theorem kt_X11_run_X9 : ∀ w ∈ u_ws RX9 TX9 4, w ∈ wsX11_run := fun _ h => List.mem_cons_of_mem _ (List.mem_append_left _ (List.mem_append_right _ (h)))
theorem kt_X11_slope_X11 : ∀ w ∈ u_ws RX11 TX11 12, w ∈ wsX11_slope := fun _ h => List.mem_cons_of_mem _ (List.mem_append_left _ (List.mem_append_left _ (List.mem_append_right _ (h))))
theorem kt_X11_slope_X9 : ∀ w ∈ u_ws RX9 TX9 4, w ∈ wsX11_slope := fun _ h => List.mem_cons_of_mem _ (List.mem_append_left _ (List.mem_append_right _ (h)))
theorem kt_X11_steps_X11 : ∀ w ∈ u_ws RX11 TX11 12, w ∈ wsX11_steps := fun _ h => List.mem_cons_of_mem _ (List.mem_append_left _ (List.mem_append_left _ (List.mem_append_right _ (h))))
theorem kt_X11_steps_X9 : ∀ w ∈ u_ws RX9 TX9 4, w ∈ wsX11_steps := fun _ h => List.mem_cons_of_mem _ (List.mem_append_left _ (List.mem_append_right _ (h)))
theorem kt_X11_store_X11 : ∀ w ∈ u_ws RX11 TX11 12, w ∈ wsX11_store := fun _ h => List.mem_cons_of_mem _ (List.mem_append_left _ (List.mem_append_right _ (h)))
theorem kt_X11_store_X6 : ∀ w ∈ u_ws RX6 TX6 4, w ∈ wsX11_store := fun _ h => List.mem_cons_of_mem _ (List.mem_append_right _ (h))
theorem kt_X11_thing_X11 : ∀ w ∈ u_ws RX11 TX11 12, w ∈ wsX11_thing := fun _ h => List.mem_cons_of_mem _ (List.mem_append_left _ (List.mem_append_right _ (h)))
theorem kt_X11_thing_X6 : ∀ w ∈ u_ws RX6 TX6 4, w ∈ wsX11_thing := fun _ h => List.mem_cons_of_mem _ (List.mem_append_right _ (h))
theorem kt_X11_unplan_X11 : ∀ w ∈ u_ws RX11 TX11 12, w ∈ wsX11_unplan := fun _ h => List.mem_cons_of_mem _ (List.mem_append_left _ (List.mem_append_left _ (List.mem_append_right _ (h))))
theorem kt_X11_unplan_X5 : ∀ w ∈ u_ws RX5 TX5 3, w ∈ wsX11_unplan := fun _ h => List.mem_cons_of_mem _ (List.mem_append_right _ (h))
theorem kt_X11_unplan_X9 : ∀ w ∈ u_ws RX9 TX9 4, w ∈ wsX11_unplan := fun _ h => List.mem_cons_of_mem _ (List.mem_append_left _ (List.mem_append_right _ (h)))
theorem kt_X11_value_X11 : ∀ w ∈ u_ws RX11 TX11 12, w ∈ wsX11_value := fun _ h => List.mem_cons_of_mem _ (List.mem_append_left _ (List.mem_append_left _ (List.mem_append_right _ (h))))
theorem kt_X11_value_X9 : ∀ w ∈ u_ws RX9 TX9 4, w ∈ wsX11_value := fun _ h => List.mem_cons_of_mem _ (List.mem_append_left _ (List.mem_append_right _ (h)))
theorem kt_X11_valued_X11 : ∀ w ∈ u_ws RX11 TX11 12, w ∈ wsX11_valued := fun _ h => List.mem_cons_of_mem _ (List.mem_append_left _ (List.mem_append_left _ (List.mem_append_right _ (h))))
theorem kt_X11_valued_X9 : ∀ w ∈ u_ws RX9 TX9 4, w ∈ wsX11_valued := fun _ h => List.mem_cons_of_mem _ (List.mem_append_left _ (List.mem_append_right _ (h)))
theorem kt_X11_wipe_X10 : ∀ w ∈ u_ws RX10 TX10 9, w ∈ wsX11_wipe := fun _ h => List.mem_cons_of_mem _ (List.mem_append_right _ (h))
theorem kt_X11_wipe_X11 : ∀ w ∈ u_ws RX11 TX11 12, w ∈ wsX11_wipe := fun _ h => List.mem_cons_of_mem _ (List.mem_append_left _ (List.mem_append_right _ (h)))
theorem kt_X11_written_X10 : ∀ w ∈ u_ws RX10 TX10 9, w ∈ wsX11_written := fun _ h => List.mem_cons_of_mem _ (List.mem_append_right _ (h))
theorem kt_X11_written_X11 : ∀ w ∈ u_ws RX11 TX11 12, w ∈ wsX11_written := fun _ h => List.mem_cons_of_mem _ (List.mem_append_left _ (List.mem_append_left _ (List.mem_append_right _ (h))))
theorem kt_X11_written_X9 : ∀ w ∈ u_ws RX9 TX9 4, w ∈ wsX11_written := fun _ h => List.mem_cons_of_mem _ (List.mem_append_left _ (List.mem_append_right _ (h)))
theorem kw_X11_checked_1 : Cond.fieldLink RX11 12 "LoweredPowers" "now" "LLoweredPowers$State;" ∈ wsX11_checked := List.mem_of_getElem? (i := 1) rfl
theorem kw_X11_checked_2 : Cond.fieldLink RX11 140 "LoweredPowers$State" "found" "LLoweredPowers$Found;" ∈ wsX11_checked := List.mem_of_getElem? (i := 2) rfl
theorem kw_X11_checked_3 : Cond.fieldLink RX11 28 "LoweredPowers" "lowering" "LLoweredPowers$Lowering;" ∈ wsX11_checked := List.mem_of_getElem? (i := 3) rfl
theorem kw_X11_checked_4 : Cond.fieldLink RX11 102 "LoweredPowers$State" "operator" "LLoweredPowers$Operator;" ∈ wsX11_checked := List.mem_of_getElem? (i := 4) rfl
theorem kw_X11_checked_5 : Cond.fieldLink RX11 83 "LoweredPowers$State" "f" "[I" ∈ wsX11_checked := List.mem_of_getElem? (i := 5) rfl
theorem kw_X11_value_1 : Cond.fieldLink RX11 44 "LoweredPowers" "floats" "LLoweredPowers$Reals;" ∈ wsX11_value := List.mem_of_getElem? (i := 1) rfl
theorem kw_X11_value_2 : Cond.fieldLink RX11 12 "LoweredPowers" "now" "LLoweredPowers$State;" ∈ wsX11_value := List.mem_of_getElem? (i := 2) rfl
theorem kw_X11_value_3 : Cond.fieldLink RX11 83 "LoweredPowers$State" "f" "[I" ∈ wsX11_value := List.mem_of_getElem? (i := 3) rfl
theorem kw_X11_slope_1 : Cond.fieldLink RX11 44 "LoweredPowers" "floats" "LLoweredPowers$Reals;" ∈ wsX11_slope := List.mem_of_getElem? (i := 1) rfl
theorem kw_X11_slope_2 : Cond.fieldLink RX11 12 "LoweredPowers" "now" "LLoweredPowers$State;" ∈ wsX11_slope := List.mem_of_getElem? (i := 2) rfl
theorem kw_X11_slope_3 : Cond.fieldLink RX11 83 "LoweredPowers$State" "f" "[I" ∈ wsX11_slope := List.mem_of_getElem? (i := 3) rfl
theorem kw_X11_steps_1 : Cond.fieldLink RX11 44 "LoweredPowers" "floats" "LLoweredPowers$Reals;" ∈ wsX11_steps := List.mem_of_getElem? (i := 1) rfl
theorem kw_X11_steps_2 : Cond.fieldLink RX11 12 "LoweredPowers" "now" "LLoweredPowers$State;" ∈ wsX11_steps := List.mem_of_getElem? (i := 2) rfl
theorem kw_X11_steps_3 : Cond.fieldLink RX11 83 "LoweredPowers$State" "f" "[I" ∈ wsX11_steps := List.mem_of_getElem? (i := 3) rfl
theorem kw_X11_cut_1 : Cond.fieldLink RX11 44 "LoweredPowers" "floats" "LLoweredPowers$Reals;" ∈ wsX11_cut := List.mem_of_getElem? (i := 1) rfl
theorem kw_X11_cut_2 : Cond.fieldLink RX11 12 "LoweredPowers" "now" "LLoweredPowers$State;" ∈ wsX11_cut := List.mem_of_getElem? (i := 2) rfl
theorem kw_X11_cut_3 : Cond.fieldLink RX11 83 "LoweredPowers$State" "f" "[I" ∈ wsX11_cut := List.mem_of_getElem? (i := 3) rfl
theorem kw_X11_valued_1 : Cond.fieldLink RX11 48 "LoweredPowers" "doubles" "LLoweredPowers$Reals;" ∈ wsX11_valued := List.mem_of_getElem? (i := 1) rfl
theorem kw_X11_valued_2 : Cond.fieldLink RX11 12 "LoweredPowers" "now" "LLoweredPowers$State;" ∈ wsX11_valued := List.mem_of_getElem? (i := 2) rfl
theorem kw_X11_valued_3 : Cond.fieldLink RX11 83 "LoweredPowers$State" "f" "[I" ∈ wsX11_valued := List.mem_of_getElem? (i := 3) rfl
theorem kw_X11_narrowed_1 : Cond.fieldLink RX11 44 "LoweredPowers" "floats" "LLoweredPowers$Reals;" ∈ wsX11_narrowed := List.mem_of_getElem? (i := 1) rfl
theorem kw_X11_narrowed_2 : Cond.fieldLink RX11 48 "LoweredPowers" "doubles" "LLoweredPowers$Reals;" ∈ wsX11_narrowed := List.mem_of_getElem? (i := 2) rfl
theorem kw_X11_narrowed_3 : Cond.fieldLink RX11 12 "LoweredPowers" "now" "LLoweredPowers$State;" ∈ wsX11_narrowed := List.mem_of_getElem? (i := 3) rfl
theorem kw_X11_narrowed_4 : Cond.fieldLink RX11 83 "LoweredPowers$State" "f" "[I" ∈ wsX11_narrowed := List.mem_of_getElem? (i := 4) rfl
theorem kw_X11_plan_1 : Cond.fieldLink RX11 12 "LoweredPowers" "now" "LLoweredPowers$State;" ∈ wsX11_plan := List.mem_of_getElem? (i := 1) rfl
theorem kw_X11_plan_2 : Cond.fieldLink RX11 218 "LoweredPowers$State" "plan" "LLoweredPowers$Plan;" ∈ wsX11_plan := List.mem_of_getElem? (i := 2) rfl
theorem kw_X11_plan_3 : Cond.fieldLink RX11 222 "LoweredPowers$Plan" "size" "I" ∈ wsX11_plan := List.mem_of_getElem? (i := 3) rfl
theorem kw_X11_unplan_1 : Cond.fieldLink RX11 12 "LoweredPowers" "now" "LLoweredPowers$State;" ∈ wsX11_unplan := List.mem_of_getElem? (i := 1) rfl
theorem kw_X11_unplan_2 : Cond.fieldLink RX11 218 "LoweredPowers$State" "plan" "LLoweredPowers$Plan;" ∈ wsX11_unplan := List.mem_of_getElem? (i := 2) rfl
theorem kw_X11_unplan_3 : Cond.fieldLink RX11 222 "LoweredPowers$Plan" "size" "I" ∈ wsX11_unplan := List.mem_of_getElem? (i := 3) rfl
theorem kw_X11_run_1 : Cond.fieldLink RX11 12 "LoweredPowers" "now" "LLoweredPowers$State;" ∈ wsX11_run := List.mem_of_getElem? (i := 1) rfl
theorem kw_X11_run_2 : Cond.fieldLink RX11 218 "LoweredPowers$State" "plan" "LLoweredPowers$Plan;" ∈ wsX11_run := List.mem_of_getElem? (i := 2) rfl
theorem kw_X11_run_3 : Cond.fieldLink RX11 83 "LoweredPowers$State" "f" "[I" ∈ wsX11_run := List.mem_of_getElem? (i := 3) rfl
theorem kw_X11_ahead_1 : Cond.fieldLink RX11 12 "LoweredPowers" "now" "LLoweredPowers$State;" ∈ wsX11_ahead := List.mem_of_getElem? (i := 1) rfl
theorem kw_X11_ahead_2 : Cond.fieldLink RX11 83 "LoweredPowers$State" "f" "[I" ∈ wsX11_ahead := List.mem_of_getElem? (i := 2) rfl
theorem kw_X11_ahead_3 : Cond.fieldLink RX11 72 "LoweredPowers" "changed" "[I" ∈ wsX11_ahead := List.mem_of_getElem? (i := 3) rfl
theorem kw_X11_ahead_4 : Cond.methodLink RX11 232 arraycopyName ∈ wsX11_ahead := List.mem_of_getElem? (i := 4) rfl
theorem kw_X11_ahead_5 : Cond.native arraycopyName ∈ wsX11_ahead := List.mem_of_getElem? (i := 5) rfl
theorem kw_X11_ahead_6 : Cond.static arraycopyName ∈ wsX11_ahead := List.mem_of_getElem? (i := 6) rfl
theorem kw_X11_ahead_7 : Cond.initialized RJ10 ∈ wsX11_ahead := List.mem_of_getElem? (i := 7) rfl
theorem kw_X11_ahead_8 : Cond.fieldLink RX11 218 "LoweredPowers$State" "plan" "LLoweredPowers$Plan;" ∈ wsX11_ahead := List.mem_of_getElem? (i := 8) rfl
theorem kw_X11_ahead_9 : Cond.constant RX11 86 (100000) ∈ wsX11_ahead := List.mem_of_getElem? (i := 9) rfl
theorem kw_X11_rack_1 : Cond.fieldLink RX11 54 "LoweredPowers" "racks" "LLoweredPowers$Racks;" ∈ wsX11_rack := List.mem_of_getElem? (i := 1) rfl
theorem kw_X11_store_1 : Cond.fieldLink RX11 54 "LoweredPowers" "racks" "LLoweredPowers$Racks;" ∈ wsX11_store := List.mem_of_getElem? (i := 1) rfl
theorem kw_X11_store_2 : Cond.fieldLink RX11 246 "LoweredPowers$Racks" "kinds" "[I" ∈ wsX11_store := List.mem_of_getElem? (i := 2) rfl
theorem kw_X11_store_3 : Cond.fieldLink RX11 249 "LoweredPowers$Racks" "sizes" "[I" ∈ wsX11_store := List.mem_of_getElem? (i := 3) rfl
theorem kw_X11_thing_3 : Cond.constantLong RX11 255 (-9223372036854775808) ∈ wsX11_thing := List.mem_of_getElem? (i := 3) rfl
theorem kw_X11_thing_1 : Cond.fieldLink RX11 54 "LoweredPowers" "racks" "LLoweredPowers$Racks;" ∈ wsX11_thing := List.mem_of_getElem? (i := 1) rfl
theorem kw_X11_thing_2 : Cond.fieldLink RX11 246 "LoweredPowers$Racks" "kinds" "[I" ∈ wsX11_thing := List.mem_of_getElem? (i := 2) rfl
theorem kw_X11_thing_4 : Cond.fieldLink RX11 249 "LoweredPowers$Racks" "sizes" "[I" ∈ wsX11_thing := List.mem_of_getElem? (i := 4) rfl
theorem kw_X11_copied_1 : Cond.fieldLink RX11 54 "LoweredPowers" "racks" "LLoweredPowers$Racks;" ∈ wsX11_copied := List.mem_of_getElem? (i := 1) rfl
theorem kw_X11_copied_2 : Cond.fieldLink RX11 246 "LoweredPowers$Racks" "kinds" "[I" ∈ wsX11_copied := List.mem_of_getElem? (i := 2) rfl
theorem kw_X11_copied_3 : Cond.fieldLink RX11 249 "LoweredPowers$Racks" "sizes" "[I" ∈ wsX11_copied := List.mem_of_getElem? (i := 3) rfl
theorem kw_X11_feed_1 : Cond.fieldLink RX11 61 "LoweredPowers" "texts" "LLoweredPowers$Texts;" ∈ wsX11_feed := List.mem_of_getElem? (i := 1) rfl
theorem kw_X11_feed_2 : Cond.fieldLink RX11 268 "LoweredPowers$Texts" "size" "I" ∈ wsX11_feed := List.mem_of_getElem? (i := 2) rfl
theorem kw_X11_wipe_1 : Cond.fieldLink RX11 61 "LoweredPowers" "texts" "LLoweredPowers$Texts;" ∈ wsX11_wipe := List.mem_of_getElem? (i := 1) rfl
theorem kw_X11_wipe_2 : Cond.fieldLink RX11 268 "LoweredPowers$Texts" "size" "I" ∈ wsX11_wipe := List.mem_of_getElem? (i := 2) rfl
theorem kw_X11_read_1 : Cond.fieldLink RX11 61 "LoweredPowers" "texts" "LLoweredPowers$Texts;" ∈ wsX11_read := List.mem_of_getElem? (i := 1) rfl
theorem kw_X11_read_2 : Cond.fieldLink RX11 268 "LoweredPowers$Texts" "size" "I" ∈ wsX11_read := List.mem_of_getElem? (i := 2) rfl
theorem kw_X11_read_3 : Cond.fieldLink RX11 274 "LoweredPowers$Texts" "told" "[I" ∈ wsX11_read := List.mem_of_getElem? (i := 3) rfl
theorem kw_X11_read_4 : Cond.fieldLink RX11 12 "LoweredPowers" "now" "LLoweredPowers$State;" ∈ wsX11_read := List.mem_of_getElem? (i := 4) rfl
theorem kw_X11_read_5 : Cond.fieldLink RX11 83 "LoweredPowers$State" "f" "[I" ∈ wsX11_read := List.mem_of_getElem? (i := 5) rfl
theorem kw_X11_read_6 : Cond.methodLink RX11 232 arraycopyName ∈ wsX11_read := List.mem_of_getElem? (i := 6) rfl
theorem kw_X11_read_7 : Cond.native arraycopyName ∈ wsX11_read := List.mem_of_getElem? (i := 7) rfl
theorem kw_X11_read_8 : Cond.static arraycopyName ∈ wsX11_read := List.mem_of_getElem? (i := 8) rfl
theorem kw_X11_read_9 : Cond.initialized RJ10 ∈ wsX11_read := List.mem_of_getElem? (i := 9) rfl
theorem kw_X11_written_1 : Cond.fieldLink RX11 61 "LoweredPowers" "texts" "LLoweredPowers$Texts;" ∈ wsX11_written := List.mem_of_getElem? (i := 1) rfl
theorem kw_X11_written_2 : Cond.fieldLink RX11 12 "LoweredPowers" "now" "LLoweredPowers$State;" ∈ wsX11_written := List.mem_of_getElem? (i := 2) rfl
theorem kw_X11_written_3 : Cond.fieldLink RX11 83 "LoweredPowers$State" "f" "[I" ∈ wsX11_written := List.mem_of_getElem? (i := 3) rfl
theorem kw_X11_written_4 : Cond.fieldLink RX11 280 "LoweredPowers$Texts" "line" "[I" ∈ wsX11_written := List.mem_of_getElem? (i := 4) rfl
theorem kw_X11_list_1 : Cond.fieldLink RX11 68 "LoweredPowers" "lists" "LLoweredPowers$Lists;" ∈ wsX11_list := List.mem_of_getElem? (i := 1) rfl
abbrev rm_X11_checked : Room := { frames := 4, cells := 0, slots := 0, locals := 95 }
set_option maxRecDepth 100000 in
set_option maxHeartbeats 4000000 in
theorem ct_X11_checked (l : Launch) (D : va_G) (cI cJ cZ : ClassId) (h0 : Nat) (r0 : Nat → Nat) (r0_0 : Nat → Nat) (r0_0_1 : Nat → Nat) (r0_0_2 : Nat → Nat) (r0_3 : Nat → Nat) (I_0_imaged : Int32) (A_0_0_0_f : (Nat → Int32)) (A_0_0_1_0_numbers : (Nat → Int32)) (I_0_0_2_top : Int32) (A_0_0_2_1_b : (Nat → Int32)) (A_0_3_2_whole : (Nat → Int32)) (A_0_3_5_power : (Nat → Int32)) (x1 : Int32) (sz : Nat) (K : Int32 → (Nat → Int32) → (Nat → Int32) → Prop) (h : wp_X11_checked x1 A_0_0_0_f A_0_0_1_0_numbers I_0_0_2_top A_0_0_2_1_b A_0_3_2_whole A_0_3_5_power K) : Met l yX11_checked wsX11_checked rm_X11_checked (va_Pc [.ref h0, .int x1] (WX D cI cJ cZ [(h0, .inr (10, oX11 r0 I_0_imaged)), ((r0 0), .inr (8, oX9 r0_0 )), ((r0_0 0), .inl (cI, 5, .inl A_0_0_0_f)), ((r0_0 1), .inr (3, oX4 r0_0_1 )), ((r0_0_1 0), .inl (cI, 75, .inl A_0_0_1_0_numbers)), ((r0_0 2), .inr (0, oX0 r0_0_2 I_0_0_2_top)), ((r0_0_2 1), .inl (cI, 9, .inl A_0_0_2_1_b)), ((r0 3), .inr (2, oX2 r0_3 )), ((r0_3 2), .inl (cI, 21, .inl A_0_3_2_whole)), ((r0_3 5), .inl (cI, 25, .inl A_0_3_5_power))] sz)) (va_Qi (fun (r : Int32) (u : (Nat → Int32) × (Nat → Int32)) => K r u.1 u.2) (fun (u : (Nat → Int32) × (Nat → Int32)) t => WY D (va_A [(h0, .inr (10, oX11 r0 I_0_imaged)), ((r0 0), .inr (8, oX9 r0_0 )), ((r0_0 0), .inl (cI, 5, .inl A_0_0_0_f)), ((r0_0 1), .inr (3, oX4 r0_0_1 )), ((r0_0_1 0), .inl (cI, 75, .inl A_0_0_1_0_numbers)), ((r0_0 2), .inr (0, oX0 r0_0_2 I_0_0_2_top)), ((r0_0_2 1), .inl (cI, 9, .inl A_0_0_2_1_b)), ((r0 3), .inr (2, oX2 r0_3 )), ((r0_3 2), .inl (cI, 21, .inl A_0_3_2_whole)), ((r0_3 5), .inl (cI, 25, .inl A_0_3_5_power))] sz) [(h0, .inr (10, oX11 r0 I_0_imaged)), ((r0 0), .inr (8, oX9 r0_0 )), ((r0_0 0), .inl (cI, 5, .inl A_0_0_0_f)), ((r0_0 1), .inr (3, oX4 r0_0_1 )), ((r0_0_1 0), .inl (cI, 75, .inl A_0_0_1_0_numbers)), ((r0_0 2), .inr (0, oX0 r0_0_2 I_0_0_2_top)), ((r0_0_2 1), .inl (cI, 9, .inl A_0_0_2_1_b)), ((r0 3), .inr (2, oX2 r0_3 )), ((r0_3 2), .inl (cI, 21, .inl u.1)), ((r0_3 5), .inl (cI, 25, .inl u.2))] t) (va_A [(h0, .inr (10, oX11 r0 I_0_imaged)), ((r0 0), .inr (8, oX9 r0_0 )), ((r0_0 0), .inl (cI, 5, .inl A_0_0_0_f)), ((r0_0 1), .inr (3, oX4 r0_0_1 )), ((r0_0_1 0), .inl (cI, 75, .inl A_0_0_1_0_numbers)), ((r0_0 2), .inr (0, oX0 r0_0_2 I_0_0_2_top)), ((r0_0_2 1), .inl (cI, 9, .inl A_0_0_2_1_b)), ((r0 3), .inr (2, oX2 r0_3 )), ((r0_3 2), .inl (cI, 21, .inl A_0_3_2_whole)), ((r0_3 5), .inl (cI, 25, .inl A_0_3_5_power))] sz)) 0 0 (va_A [(h0, .inr (10, oX11 r0 I_0_imaged)), ((r0 0), .inr (8, oX9 r0_0 )), ((r0_0 0), .inl (cI, 5, .inl A_0_0_0_f)), ((r0_0 1), .inr (3, oX4 r0_0_1 )), ((r0_0_1 0), .inl (cI, 75, .inl A_0_0_1_0_numbers)), ((r0_0 2), .inr (0, oX0 r0_0_2 I_0_0_2_top)), ((r0_0_2 1), .inl (cI, 9, .inl A_0_0_2_1_b)), ((r0 3), .inr (2, oX2 r0_3 )), ((r0_3 2), .inl (cI, 21, .inl A_0_3_2_whole)), ((r0_3 5), .inl (cI, 25, .inl A_0_3_5_power))] sz) := by
  refine m_met (own := RX11) (cc := cX11_checked) (maxL := 2) (ret := some .int) [.ref h0, .int x1] [(0, .ref h0), (1, .int x1)] (by decide) rfl rfl (Nat.le_of_ble_eq_true rfl) rfl ?_
  intro p e s m args below meth c Q A hQ hA C0 hr hnm hsz hM ls hl
  have hx := C0.1
  have hb := C0.2.1
  have hown := C0.2.2.2.1
  unfold wp_X11_checked at h
  refine lv_iload_n hx hb dX11_checked_0 rfl (lv_at hl 1 rfl) ?_
  refine lv_iconst (v := (0 : Int32)) hx hb dX11_checked_1 (by decide) ?_
  refine lv_iconst (v := (3 : Int32)) hx hb dX11_checked_2 (by decide) ?_
  refine m_calli (wc := []) C0 hM [] rfl (m_runS (wc := []) (As := [.int x1, .int (0 : Int32), .int (3 : Int32)]) (rest := []) C0 hM (ct_X11_within l D cI cJ cZ x1 (0 : Int32) (3 : Int32) _ _ h) [] rfl (by decide) gX11_checked_X11_within rfl rfl rfl hd_X11_within ⟨Nat.le_of_ble_eq_true rfl, Nat.le_of_ble_eq_true rfl⟩ rfl hl.1 rfl (Nat.le_of_ble_eq_true rfl) dX11_checked_3 ⟨Nat.le_of_ble_eq_true rfl, Nat.le_of_ble_eq_true rfl⟩) (fun _ => [(h0, .inr (10, oX11 r0 I_0_imaged)), ((r0 0), .inr (8, oX9 r0_0 )), ((r0_0 0), .inl (cI, 5, .inl A_0_0_0_f)), ((r0_0 1), .inr (3, oX4 r0_0_1 )), ((r0_0_1 0), .inl (cI, 75, .inl A_0_0_1_0_numbers)), ((r0_0 2), .inr (0, oX0 r0_0_2 I_0_0_2_top)), ((r0_0_2 1), .inl (cI, 9, .inl A_0_0_2_1_b)), ((r0 3), .inr (2, oX2 r0_3 )), ((r0_3 2), .inl (cI, 21, .inl A_0_3_2_whole)), ((r0_3 5), .inl (cI, 25, .inl A_0_3_5_power))]) (fun _ => rfl) (fun _ => rfl) (fun y1 _ H locs h hM => ?_)
  refine lv_if_ne (tgt := 12) hx hb dX11_checked_6 (by decide) (fun hq => ?_) (fun hq => ?_)
  · have h := h.1 hq
    refine lv_aload_n hx hb dX11_checked_12 rfl (lv_at hl 0 rfl) ?_
    refine m_get (C := RX11) (T := TX11) (N := 12) (ci := 10) (ref := "LoweredPowers") (v := .ref (r0 0)) C0 hM 0 rfl rfl kt_X11_checked_X11 0 (by decide) kw_X11_checked_1 rfl rfl dX11_checked_13 ?_
    refine m_get (C := RX9) (T := TX9) (N := 4) (ci := 8) (ref := "LoweredPowers$State") (v := .ref (r0_0 2)) C0 hM 1 rfl rfl kt_X11_checked_X9 2 (by decide) kw_X11_checked_2 rfl rfl dX11_checked_16 ?_
    refine m_calli (wc := [((r0_0 2), .inr (0, oX0 r0_0_2 I_0_0_2_top))]) C0 hM [5] rfl (m_runV (wc := [((r0_0 2), .inr (0, oX0 r0_0_2 I_0_0_2_top))]) (As := []) (rest := []) (ci := 0) C0 hM (ct_X0_isThere l D cI cJ cZ (r0_0 2) r0_0_2 I_0_0_2_top _ _ h) [5] rfl (by decide) gX11_checked_X0_isThere rfl rfl rfl rfl rfl hd_X0_isThere ⟨Nat.le_of_ble_eq_true rfl, Nat.le_of_ble_eq_true rfl⟩ rfl hl.1 rfl (Nat.le_of_ble_eq_true rfl) dX11_checked_19 ⟨Nat.le_of_ble_eq_true rfl, Nat.le_of_ble_eq_true rfl⟩) (fun _ => [(h0, .inr (10, oX11 r0 I_0_imaged)), ((r0 0), .inr (8, oX9 r0_0 )), ((r0_0 0), .inl (cI, 5, .inl A_0_0_0_f)), ((r0_0 1), .inr (3, oX4 r0_0_1 )), ((r0_0_1 0), .inl (cI, 75, .inl A_0_0_1_0_numbers)), ((r0_0 2), .inr (0, oX0 r0_0_2 I_0_0_2_top)), ((r0_0_2 1), .inl (cI, 9, .inl A_0_0_2_1_b)), ((r0 3), .inr (2, oX2 r0_3 )), ((r0_3 2), .inl (cI, 21, .inl A_0_3_2_whole)), ((r0_3 5), .inl (cI, 25, .inl A_0_3_5_power))]) (fun _ => rfl) (fun _ => rfl) (fun y2 _ H locs h hM => ?_)
    refine lv_if_ne (tgt := 28) hx hb dX11_checked_22 (by decide) (fun hq => ?_) (fun hq => ?_)
    · have h := h.1 hq
      refine lv_aload_n hx hb dX11_checked_28 rfl (lv_at hl 0 rfl) ?_
      refine m_get (C := RX11) (T := TX11) (N := 12) (ci := 10) (ref := "LoweredPowers") (v := .ref (r0 3)) C0 hM 0 rfl rfl kt_X11_checked_X11 3 (by decide) kw_X11_checked_3 rfl rfl dX11_checked_29 ?_
      refine lv_aload_n hx hb dX11_checked_32 rfl (lv_at hl 0 rfl) ?_
      refine m_get (C := RX11) (T := TX11) (N := 12) (ci := 10) (ref := "LoweredPowers") (v := .ref (r0 0)) C0 hM 0 rfl rfl kt_X11_checked_X11 0 (by decide) kw_X11_checked_1 rfl rfl dX11_checked_33 ?_
      refine m_get (C := RX9) (T := TX9) (N := 4) (ci := 8) (ref := "LoweredPowers$State") (v := .ref (r0_0 1)) C0 hM 1 rfl rfl kt_X11_checked_X9 1 (by decide) kw_X11_checked_4 rfl rfl dX11_checked_36 ?_
      refine lv_aload_n hx hb dX11_checked_39 rfl (lv_at hl 0 rfl) ?_
      refine m_get (C := RX11) (T := TX11) (N := 12) (ci := 10) (ref := "LoweredPowers") (v := .ref (r0 0)) C0 hM 0 rfl rfl kt_X11_checked_X11 0 (by decide) kw_X11_checked_1 rfl rfl dX11_checked_40 ?_
      refine m_get (C := RX9) (T := TX9) (N := 4) (ci := 8) (ref := "LoweredPowers$State") (v := .ref (r0_0 0)) C0 hM 1 rfl rfl kt_X11_checked_X9 0 (by decide) kw_X11_checked_5 rfl rfl dX11_checked_43 ?_
      refine lv_iload_n hx hb dX11_checked_46 rfl (lv_at hl 1 rfl) ?_
      refine m_callv (wc := [((r0 3), .inr (2, oX2 r0_3 )), ((r0_3 2), .inl (cI, 21, .inl A_0_3_2_whole)), ((r0_3 5), .inl (cI, 25, .inl A_0_3_5_power)), ((r0_0 1), .inr (3, oX4 r0_0_1 )), ((r0_0_1 0), .inl (cI, 75, .inl A_0_0_1_0_numbers)), ((r0_0 0), .inl (cI, 5, .inl A_0_0_0_f))]) C0 hM [7, 8, 9, 3, 4, 2] rfl (m_runV (wc := [((r0 3), .inr (2, oX2 r0_3 )), ((r0_3 2), .inl (cI, 21, .inl A_0_3_2_whole)), ((r0_3 5), .inl (cI, 25, .inl A_0_3_5_power)), ((r0_0 1), .inr (3, oX4 r0_0_1 )), ((r0_0_1 0), .inl (cI, 75, .inl A_0_0_1_0_numbers)), ((r0_0 0), .inl (cI, 5, .inl A_0_0_0_f))]) (As := [.ref (r0_0 1), .ref (r0_0 0), .int x1]) (rest := []) (ci := 2) C0 hM (ct_X2_applyToWhole l D cI cJ cZ (r0 3) (r0_0 1) (r0_0 0) r0_3 r0_0_1 A_0_3_2_whole A_0_3_5_power A_0_0_1_0_numbers A_0_0_0_f x1 _ _ h) [7, 8, 9, 3, 4, 2] rfl (by decide) gX11_checked_X2_applyToWhole rfl rfl rfl rfl rfl hd_X2_applyToWhole ⟨Nat.le_of_ble_eq_true rfl, Nat.le_of_ble_eq_true rfl⟩ rfl hl.1 rfl (Nat.le_of_ble_eq_true rfl) dX11_checked_47 ⟨Nat.le_of_ble_eq_true rfl, Nat.le_of_ble_eq_true rfl⟩) (fun u => [(h0, .inr (10, oX11 r0 I_0_imaged)), ((r0 0), .inr (8, oX9 r0_0 )), ((r0_0 0), .inl (cI, 5, .inl A_0_0_0_f)), ((r0_0 1), .inr (3, oX4 r0_0_1 )), ((r0_0_1 0), .inl (cI, 75, .inl A_0_0_1_0_numbers)), ((r0_0 2), .inr (0, oX0 r0_0_2 I_0_0_2_top)), ((r0_0_2 1), .inl (cI, 9, .inl A_0_0_2_1_b)), ((r0 3), .inr (2, oX2 r0_3 )), ((r0_3 2), .inl (cI, 21, .inl u.1)), ((r0_3 5), .inl (cI, 25, .inl u.2))]) (fun _ => rfl) (fun _ => rfl) (fun u H locs h hM => ?_)
      obtain ⟨b3, b4⟩ := u
      dsimp only at h
      have hM : MW D A s.heap [(h0, .inr (10, oX11 r0 I_0_imaged)), ((r0 0), .inr (8, oX9 r0_0 )), ((r0_0 0), .inl (cI, 5, .inl A_0_0_0_f)), ((r0_0 1), .inr (3, oX4 r0_0_1 )), ((r0_0_1 0), .inl (cI, 75, .inl A_0_0_1_0_numbers)), ((r0_0 2), .inr (0, oX0 r0_0_2 I_0_0_2_top)), ((r0_0_2 1), .inl (cI, 9, .inl A_0_0_2_1_b)), ((r0 3), .inr (2, oX2 r0_3 )), ((r0_3 2), .inl (cI, 21, .inl b3)), ((r0_3 5), .inl (cI, 25, .inl b4))] H locs := hM
      refine lv_aload_n hx hb dX11_checked_50 rfl (lv_at hl 0 rfl) ?_
      refine m_get (C := RX11) (T := TX11) (N := 12) (ci := 10) (ref := "LoweredPowers") (v := .ref (r0 3)) C0 hM 0 rfl rfl kt_X11_checked_X11 3 (by decide) kw_X11_checked_3 rfl rfl dX11_checked_51 ?_
      refine lv_aload_n hx hb dX11_checked_54 rfl (lv_at hl 0 rfl) ?_
      refine m_get (C := RX11) (T := TX11) (N := 12) (ci := 10) (ref := "LoweredPowers") (v := .ref (r0 0)) C0 hM 0 rfl rfl kt_X11_checked_X11 0 (by decide) kw_X11_checked_1 rfl rfl dX11_checked_55 ?_
      refine m_get (C := RX9) (T := TX9) (N := 4) (ci := 8) (ref := "LoweredPowers$State") (v := .ref (r0_0 2)) C0 hM 1 rfl rfl kt_X11_checked_X9 2 (by decide) kw_X11_checked_2 rfl rfl dX11_checked_58 ?_
      refine lv_iload_n hx hb dX11_checked_61 rfl (lv_at hl 1 rfl) ?_
      refine m_calli (wc := [((r0_0 2), .inr (0, oX0 r0_0_2 I_0_0_2_top)), ((r0_0_2 1), .inl (cI, 9, .inl A_0_0_2_1_b))]) C0 hM [5, 6] rfl (m_runV (wc := [((r0_0 2), .inr (0, oX0 r0_0_2 I_0_0_2_top)), ((r0_0_2 1), .inl (cI, 9, .inl A_0_0_2_1_b))]) (As := [.int x1]) (rest := [.ref (r0 3)]) (ci := 0) C0 hM (ct_X0_at l D cI cJ cZ (r0_0 2) r0_0_2 I_0_0_2_top A_0_0_2_1_b x1 _ _ h) [5, 6] rfl (by decide) gX11_checked_X0_at rfl rfl rfl rfl rfl hd_X0_at ⟨Nat.le_of_ble_eq_true rfl, Nat.le_of_ble_eq_true rfl⟩ rfl hl.1 rfl (Nat.le_of_ble_eq_true rfl) dX11_checked_62 ⟨Nat.le_of_ble_eq_true rfl, Nat.le_of_ble_eq_true rfl⟩) (fun _ => [(h0, .inr (10, oX11 r0 I_0_imaged)), ((r0 0), .inr (8, oX9 r0_0 )), ((r0_0 0), .inl (cI, 5, .inl A_0_0_0_f)), ((r0_0 1), .inr (3, oX4 r0_0_1 )), ((r0_0_1 0), .inl (cI, 75, .inl A_0_0_1_0_numbers)), ((r0_0 2), .inr (0, oX0 r0_0_2 I_0_0_2_top)), ((r0_0_2 1), .inl (cI, 9, .inl A_0_0_2_1_b)), ((r0 3), .inr (2, oX2 r0_3 )), ((r0_3 2), .inl (cI, 21, .inl b3)), ((r0_3 5), .inl (cI, 25, .inl b4))]) (fun _ => rfl) (fun _ => rfl) (fun y5 _ H locs h hM => ?_)
      refine lv_aload_n hx hb dX11_checked_65 rfl (lv_at hl 0 rfl) ?_
      refine m_get (C := RX11) (T := TX11) (N := 12) (ci := 10) (ref := "LoweredPowers") (v := .ref (r0 0)) C0 hM 0 rfl rfl kt_X11_checked_X11 0 (by decide) kw_X11_checked_1 rfl rfl dX11_checked_66 ?_
      refine m_get (C := RX9) (T := TX9) (N := 4) (ci := 8) (ref := "LoweredPowers$State") (v := .ref (r0_0 0)) C0 hM 1 rfl rfl kt_X11_checked_X9 0 (by decide) kw_X11_checked_5 rfl rfl dX11_checked_69 ?_
      refine lv_iload_n hx hb dX11_checked_72 rfl (lv_at hl 1 rfl) ?_
      refine m_calli (wc := [((r0 3), .inr (2, oX2 r0_3 )), ((r0_3 2), .inl (cI, 21, .inl b3)), ((r0_3 5), .inl (cI, 25, .inl b4)), ((r0_0 0), .inl (cI, 5, .inl A_0_0_0_f))]) C0 hM [7, 8, 9, 2] rfl (m_runV (wc := [((r0 3), .inr (2, oX2 r0_3 )), ((r0_3 2), .inl (cI, 21, .inl b3)), ((r0_3 5), .inl (cI, 25, .inl b4)), ((r0_0 0), .inl (cI, 5, .inl A_0_0_0_f))]) (As := [.int y5, .ref (r0_0 0), .int x1]) (rest := []) (ci := 2) C0 hM (ct_X2_wholeIs l D cI cJ cZ (r0 3) (r0_0 0) r0_3 b3 b4 A_0_0_0_f y5 x1 _ _ h) [7, 8, 9, 2] rfl (by decide) gX11_checked_X2_wholeIs rfl rfl rfl rfl rfl hd_X2_wholeIs ⟨Nat.le_of_ble_eq_true rfl, Nat.le_of_ble_eq_true rfl⟩ rfl hl.1 rfl (Nat.le_of_ble_eq_true rfl) dX11_checked_73 ⟨Nat.le_of_ble_eq_true rfl, Nat.le_of_ble_eq_true rfl⟩) (fun u => [(h0, .inr (10, oX11 r0 I_0_imaged)), ((r0 0), .inr (8, oX9 r0_0 )), ((r0_0 0), .inl (cI, 5, .inl A_0_0_0_f)), ((r0_0 1), .inr (3, oX4 r0_0_1 )), ((r0_0_1 0), .inl (cI, 75, .inl A_0_0_1_0_numbers)), ((r0_0 2), .inr (0, oX0 r0_0_2 I_0_0_2_top)), ((r0_0_2 1), .inl (cI, 9, .inl A_0_0_2_1_b)), ((r0 3), .inr (2, oX2 r0_3 )), ((r0_3 2), .inl (cI, 21, .inl b3)), ((r0_3 5), .inl (cI, 25, .inl u))]) (fun _ => rfl) (fun _ => rfl) (fun y6 b7 H locs h hM => ?_)
      refine lv_if_eq (tgt := 83) hx hb dX11_checked_76 (by decide) (fun hq => ?_) (fun hq => ?_)
      · have h := h.1 hq
        refine lv_iconst (v := (0 : Int32)) hx hb dX11_checked_83 (by decide) ?_
        subst hsz; subst hA; subst hQ
        exact m_iret C0 hr hM (b3, b7) h rfl dX11_checked_84
      · have h := h.2 hq
        refine lv_iconst (v := (1 : Int32)) hx hb dX11_checked_79 (by decide) ?_
        refine lv_goto (tgt := 84) hx hb dX11_checked_80 (by decide) ?_
        subst hsz; subst hA; subst hQ
        exact m_iret C0 hr hM (b3, b7) h rfl dX11_checked_84
    · have h := h.2 hq
      refine lv_bipush (v := (-3 : Int32)) hx hb dX11_checked_25 (by decide) ?_
      subst hsz; subst hA; subst hQ
      exact m_iret C0 hr hM (A_0_3_2_whole, A_0_3_5_power) h rfl dX11_checked_27
  · have h := h.2 hq
    refine lv_bipush (v := (-2 : Int32)) hx hb dX11_checked_9 (by decide) ?_
    subst hsz; subst hA; subst hQ
    exact m_iret C0 hr hM (A_0_3_2_whole, A_0_3_5_power) h rfl dX11_checked_11
abbrev rm_X11_value : Room := { frames := 5, cells := 0, slots := 0, locals := 139 }
set_option maxRecDepth 100000 in
set_option maxHeartbeats 4000000 in
theorem ct_X11_value (l : Launch) (D : va_G) (cI cJ cZ : ClassId) (h0 : Nat) (r0 : Nat → Nat) (r0_0 : Nat → Nat) (r0_5 : Nat → Nat) (I_0_imaged : Int32) (A_0_0_0_f : (Nat → Int32)) (I_0_5_fraction : Int32) (I_0_5_bias : Int32) (I_0_5_most : Int32) (I_0_5_signBit : Int64) (I_0_5_infinite : Int64) (I_0_5_nan : Int64) (x1 : Int32) (sz : Nat) (K : Int32 → Prop) (h : wp_X11_value x1 A_0_0_0_f I_0_5_fraction I_0_5_bias I_0_5_most I_0_5_signBit I_0_5_infinite I_0_5_nan K) : Met l yX11_value wsX11_value rm_X11_value (va_Pc [.ref h0, .int x1] (WX D cI cJ cZ [(h0, .inr (10, oX11 r0 I_0_imaged)), ((r0 0), .inr (8, oX9 r0_0 )), ((r0_0 0), .inl (cI, 5, .inl A_0_0_0_f)), ((r0 5), .inr (6, oX7 r0_5 I_0_5_fraction I_0_5_bias I_0_5_most I_0_5_signBit I_0_5_infinite I_0_5_nan))] sz)) (va_Qi (fun (r : Int32) (_ : Unit) => K r ) (fun (_ : Unit) t => WY D (va_A [(h0, .inr (10, oX11 r0 I_0_imaged)), ((r0 0), .inr (8, oX9 r0_0 )), ((r0_0 0), .inl (cI, 5, .inl A_0_0_0_f)), ((r0 5), .inr (6, oX7 r0_5 I_0_5_fraction I_0_5_bias I_0_5_most I_0_5_signBit I_0_5_infinite I_0_5_nan))] sz) [(h0, .inr (10, oX11 r0 I_0_imaged)), ((r0 0), .inr (8, oX9 r0_0 )), ((r0_0 0), .inl (cI, 5, .inl A_0_0_0_f)), ((r0 5), .inr (6, oX7 r0_5 I_0_5_fraction I_0_5_bias I_0_5_most I_0_5_signBit I_0_5_infinite I_0_5_nan))] t) (va_A [(h0, .inr (10, oX11 r0 I_0_imaged)), ((r0 0), .inr (8, oX9 r0_0 )), ((r0_0 0), .inl (cI, 5, .inl A_0_0_0_f)), ((r0 5), .inr (6, oX7 r0_5 I_0_5_fraction I_0_5_bias I_0_5_most I_0_5_signBit I_0_5_infinite I_0_5_nan))] sz)) 0 0 (va_A [(h0, .inr (10, oX11 r0 I_0_imaged)), ((r0 0), .inr (8, oX9 r0_0 )), ((r0_0 0), .inl (cI, 5, .inl A_0_0_0_f)), ((r0 5), .inr (6, oX7 r0_5 I_0_5_fraction I_0_5_bias I_0_5_most I_0_5_signBit I_0_5_infinite I_0_5_nan))] sz) := by
  refine m_met (own := RX11) (cc := cX11_value) (maxL := 2) (ret := some .int) [.ref h0, .int x1] [(0, .ref h0), (1, .int x1)] (by decide) rfl rfl (Nat.le_of_ble_eq_true rfl) rfl ?_
  intro p e s m args below meth c Q A hQ hA C0 hr hnm hsz hM ls hl
  have hx := C0.1
  have hb := C0.2.1
  have hown := C0.2.2.2.1
  unfold wp_X11_value at h
  refine lv_aload_n hx hb dX11_value_0 rfl (lv_at hl 0 rfl) ?_
  refine m_get (C := RX11) (T := TX11) (N := 12) (ci := 10) (ref := "LoweredPowers") (v := .ref (r0 5)) C0 hM 0 rfl rfl kt_X11_value_X11 5 (by decide) kw_X11_value_1 rfl rfl dX11_value_1 ?_
  refine lv_aload_n hx hb dX11_value_4 rfl (lv_at hl 0 rfl) ?_
  refine m_get (C := RX11) (T := TX11) (N := 12) (ci := 10) (ref := "LoweredPowers") (v := .ref (r0 0)) C0 hM 0 rfl rfl kt_X11_value_X11 0 (by decide) kw_X11_value_2 rfl rfl dX11_value_5 ?_
  refine m_get (C := RX9) (T := TX9) (N := 4) (ci := 8) (ref := "LoweredPowers$State") (v := .ref (r0_0 0)) C0 hM 1 rfl rfl kt_X11_value_X9 0 (by decide) kw_X11_value_3 rfl rfl dX11_value_8 ?_
  refine lv_iload_n hx hb dX11_value_11 rfl (lv_at hl 1 rfl) ?_
  refine m_calll (wc := []) C0 hM [] rfl (m_runS (wc := []) (As := [.int x1]) (rest := [.ref (r0_0 0), .ref (r0 5)]) C0 hM (ct_X11_floatPattern l D cI cJ cZ x1 _ _ h) [] rfl (by decide) gX11_value_X11_floatPattern rfl rfl rfl hd_X11_floatPattern ⟨Nat.le_of_ble_eq_true rfl, Nat.le_of_ble_eq_true rfl⟩ rfl hl.1 rfl (Nat.le_of_ble_eq_true rfl) dX11_value_12 ⟨Nat.le_of_ble_eq_true rfl, Nat.le_of_ble_eq_true rfl⟩) (fun _ => [(h0, .inr (10, oX11 r0 I_0_imaged)), ((r0 0), .inr (8, oX9 r0_0 )), ((r0_0 0), .inl (cI, 5, .inl A_0_0_0_f)), ((r0 5), .inr (6, oX7 r0_5 I_0_5_fraction I_0_5_bias I_0_5_most I_0_5_signBit I_0_5_infinite I_0_5_nan))]) (fun _ => rfl) (fun _ => rfl) (fun y1 _ H locs h hM => ?_)
  refine m_calll (wc := [((r0 5), .inr (6, oX7 r0_5 I_0_5_fraction I_0_5_bias I_0_5_most I_0_5_signBit I_0_5_infinite I_0_5_nan)), ((r0_0 0), .inl (cI, 5, .inl A_0_0_0_f))]) C0 hM [3, 2] rfl (m_runV (wc := [((r0 5), .inr (6, oX7 r0_5 I_0_5_fraction I_0_5_bias I_0_5_most I_0_5_signBit I_0_5_infinite I_0_5_nan)), ((r0_0 0), .inl (cI, 5, .inl A_0_0_0_f))]) (As := [.ref (r0_0 0), .long y1]) (rest := []) (ci := 6) C0 hM (ct_X7_atPoint l D cI cJ cZ (r0 5) (r0_0 0) r0_5 I_0_5_fraction I_0_5_bias I_0_5_most I_0_5_signBit I_0_5_infinite I_0_5_nan A_0_0_0_f y1 _ _ h) [3, 2] rfl (by decide) gX11_value_X7_atPoint rfl rfl rfl rfl rfl hd_X7_atPoint ⟨Nat.le_of_ble_eq_true rfl, Nat.le_of_ble_eq_true rfl⟩ rfl hl.1 rfl (Nat.le_of_ble_eq_true rfl) dX11_value_15 ⟨Nat.le_of_ble_eq_true rfl, Nat.le_of_ble_eq_true rfl⟩) (fun _ => [(h0, .inr (10, oX11 r0 I_0_imaged)), ((r0 0), .inr (8, oX9 r0_0 )), ((r0_0 0), .inl (cI, 5, .inl A_0_0_0_f)), ((r0 5), .inr (6, oX7 r0_5 I_0_5_fraction I_0_5_bias I_0_5_most I_0_5_signBit I_0_5_infinite I_0_5_nan))]) (fun _ => rfl) (fun _ => rfl) (fun y2 _ H locs h hM => ?_)
  refine lv_l2i hx hb dX11_value_18 rfl ?_
  subst hsz; subst hA; subst hQ
  exact m_iret C0 hr hM () h rfl dX11_value_19
abbrev rm_X11_slope : Room := { frames := 5, cells := 0, slots := 0, locals := 139 }
set_option maxRecDepth 100000 in
set_option maxHeartbeats 4000000 in
theorem ct_X11_slope (l : Launch) (D : va_G) (cI cJ cZ : ClassId) (h0 : Nat) (r0 : Nat → Nat) (r0_0 : Nat → Nat) (r0_5 : Nat → Nat) (I_0_imaged : Int32) (A_0_0_0_f : (Nat → Int32)) (I_0_5_fraction : Int32) (I_0_5_bias : Int32) (I_0_5_most : Int32) (I_0_5_signBit : Int64) (I_0_5_infinite : Int64) (I_0_5_nan : Int64) (x1 : Int32) (sz : Nat) (K : Int32 → Prop) (h : wp_X11_slope x1 A_0_0_0_f I_0_5_fraction I_0_5_bias I_0_5_most I_0_5_signBit I_0_5_infinite I_0_5_nan K) : Met l yX11_slope wsX11_slope rm_X11_slope (va_Pc [.ref h0, .int x1] (WX D cI cJ cZ [(h0, .inr (10, oX11 r0 I_0_imaged)), ((r0 0), .inr (8, oX9 r0_0 )), ((r0_0 0), .inl (cI, 5, .inl A_0_0_0_f)), ((r0 5), .inr (6, oX7 r0_5 I_0_5_fraction I_0_5_bias I_0_5_most I_0_5_signBit I_0_5_infinite I_0_5_nan))] sz)) (va_Qi (fun (r : Int32) (_ : Unit) => K r ) (fun (_ : Unit) t => WY D (va_A [(h0, .inr (10, oX11 r0 I_0_imaged)), ((r0 0), .inr (8, oX9 r0_0 )), ((r0_0 0), .inl (cI, 5, .inl A_0_0_0_f)), ((r0 5), .inr (6, oX7 r0_5 I_0_5_fraction I_0_5_bias I_0_5_most I_0_5_signBit I_0_5_infinite I_0_5_nan))] sz) [(h0, .inr (10, oX11 r0 I_0_imaged)), ((r0 0), .inr (8, oX9 r0_0 )), ((r0_0 0), .inl (cI, 5, .inl A_0_0_0_f)), ((r0 5), .inr (6, oX7 r0_5 I_0_5_fraction I_0_5_bias I_0_5_most I_0_5_signBit I_0_5_infinite I_0_5_nan))] t) (va_A [(h0, .inr (10, oX11 r0 I_0_imaged)), ((r0 0), .inr (8, oX9 r0_0 )), ((r0_0 0), .inl (cI, 5, .inl A_0_0_0_f)), ((r0 5), .inr (6, oX7 r0_5 I_0_5_fraction I_0_5_bias I_0_5_most I_0_5_signBit I_0_5_infinite I_0_5_nan))] sz)) 0 0 (va_A [(h0, .inr (10, oX11 r0 I_0_imaged)), ((r0 0), .inr (8, oX9 r0_0 )), ((r0_0 0), .inl (cI, 5, .inl A_0_0_0_f)), ((r0 5), .inr (6, oX7 r0_5 I_0_5_fraction I_0_5_bias I_0_5_most I_0_5_signBit I_0_5_infinite I_0_5_nan))] sz) := by
  refine m_met (own := RX11) (cc := cX11_slope) (maxL := 2) (ret := some .int) [.ref h0, .int x1] [(0, .ref h0), (1, .int x1)] (by decide) rfl rfl (Nat.le_of_ble_eq_true rfl) rfl ?_
  intro p e s m args below meth c Q A hQ hA C0 hr hnm hsz hM ls hl
  have hx := C0.1
  have hb := C0.2.1
  have hown := C0.2.2.2.1
  unfold wp_X11_slope at h
  refine lv_aload_n hx hb dX11_slope_0 rfl (lv_at hl 0 rfl) ?_
  refine m_get (C := RX11) (T := TX11) (N := 12) (ci := 10) (ref := "LoweredPowers") (v := .ref (r0 5)) C0 hM 0 rfl rfl kt_X11_slope_X11 5 (by decide) kw_X11_slope_1 rfl rfl dX11_slope_1 ?_
  refine lv_aload_n hx hb dX11_slope_4 rfl (lv_at hl 0 rfl) ?_
  refine m_get (C := RX11) (T := TX11) (N := 12) (ci := 10) (ref := "LoweredPowers") (v := .ref (r0 0)) C0 hM 0 rfl rfl kt_X11_slope_X11 0 (by decide) kw_X11_slope_2 rfl rfl dX11_slope_5 ?_
  refine m_get (C := RX9) (T := TX9) (N := 4) (ci := 8) (ref := "LoweredPowers$State") (v := .ref (r0_0 0)) C0 hM 1 rfl rfl kt_X11_slope_X9 0 (by decide) kw_X11_slope_3 rfl rfl dX11_slope_8 ?_
  refine lv_iload_n hx hb dX11_slope_11 rfl (lv_at hl 1 rfl) ?_
  refine m_calll (wc := []) C0 hM [] rfl (m_runS (wc := []) (As := [.int x1]) (rest := [.ref (r0_0 0), .ref (r0 5)]) C0 hM (ct_X11_floatPattern l D cI cJ cZ x1 _ _ h) [] rfl (by decide) gX11_slope_X11_floatPattern rfl rfl rfl hd_X11_floatPattern ⟨Nat.le_of_ble_eq_true rfl, Nat.le_of_ble_eq_true rfl⟩ rfl hl.1 rfl (Nat.le_of_ble_eq_true rfl) dX11_slope_12 ⟨Nat.le_of_ble_eq_true rfl, Nat.le_of_ble_eq_true rfl⟩) (fun _ => [(h0, .inr (10, oX11 r0 I_0_imaged)), ((r0 0), .inr (8, oX9 r0_0 )), ((r0_0 0), .inl (cI, 5, .inl A_0_0_0_f)), ((r0 5), .inr (6, oX7 r0_5 I_0_5_fraction I_0_5_bias I_0_5_most I_0_5_signBit I_0_5_infinite I_0_5_nan))]) (fun _ => rfl) (fun _ => rfl) (fun y1 _ H locs h hM => ?_)
  refine m_calll (wc := [((r0 5), .inr (6, oX7 r0_5 I_0_5_fraction I_0_5_bias I_0_5_most I_0_5_signBit I_0_5_infinite I_0_5_nan)), ((r0_0 0), .inl (cI, 5, .inl A_0_0_0_f))]) C0 hM [3, 2] rfl (m_runV (wc := [((r0 5), .inr (6, oX7 r0_5 I_0_5_fraction I_0_5_bias I_0_5_most I_0_5_signBit I_0_5_infinite I_0_5_nan)), ((r0_0 0), .inl (cI, 5, .inl A_0_0_0_f))]) (As := [.ref (r0_0 0), .long y1]) (rest := []) (ci := 6) C0 hM (ct_X7_risingAt l D cI cJ cZ (r0 5) (r0_0 0) r0_5 I_0_5_fraction I_0_5_bias I_0_5_most I_0_5_signBit I_0_5_infinite I_0_5_nan A_0_0_0_f y1 _ _ h) [3, 2] rfl (by decide) gX11_slope_X7_risingAt rfl rfl rfl rfl rfl hd_X7_risingAt ⟨Nat.le_of_ble_eq_true rfl, Nat.le_of_ble_eq_true rfl⟩ rfl hl.1 rfl (Nat.le_of_ble_eq_true rfl) dX11_slope_15 ⟨Nat.le_of_ble_eq_true rfl, Nat.le_of_ble_eq_true rfl⟩) (fun _ => [(h0, .inr (10, oX11 r0 I_0_imaged)), ((r0 0), .inr (8, oX9 r0_0 )), ((r0_0 0), .inl (cI, 5, .inl A_0_0_0_f)), ((r0 5), .inr (6, oX7 r0_5 I_0_5_fraction I_0_5_bias I_0_5_most I_0_5_signBit I_0_5_infinite I_0_5_nan))]) (fun _ => rfl) (fun _ => rfl) (fun y2 _ H locs h hM => ?_)
  refine lv_l2i hx hb dX11_slope_18 rfl ?_
  subst hsz; subst hA; subst hQ
  exact m_iret C0 hr hM () h rfl dX11_slope_19
abbrev rm_X11_steps : Room := { frames := 6, cells := 0, slots := 0, locals := 166 }
set_option maxRecDepth 100000 in
set_option maxHeartbeats 4000000 in
theorem ct_X11_steps (l : Launch) (D : va_G) (cI cJ cZ : ClassId) (h0 : Nat) (r0 : Nat → Nat) (r0_0 : Nat → Nat) (r0_5 : Nat → Nat) (I_0_imaged : Int32) (A_0_0_0_f : (Nat → Int32)) (I_0_5_fraction : Int32) (I_0_5_bias : Int32) (I_0_5_most : Int32) (I_0_5_signBit : Int64) (I_0_5_infinite : Int64) (I_0_5_nan : Int64) (x1 : Int32) (x2 : Int32) (sz : Nat) (K : Int32 → Prop) (h : wp_X11_steps x1 x2 A_0_0_0_f I_0_5_fraction I_0_5_bias I_0_5_most I_0_5_signBit I_0_5_infinite I_0_5_nan K) : Met l yX11_steps wsX11_steps rm_X11_steps (va_Pc [.ref h0, .int x1, .int x2] (WX D cI cJ cZ [(h0, .inr (10, oX11 r0 I_0_imaged)), ((r0 0), .inr (8, oX9 r0_0 )), ((r0_0 0), .inl (cI, 5, .inl A_0_0_0_f)), ((r0 5), .inr (6, oX7 r0_5 I_0_5_fraction I_0_5_bias I_0_5_most I_0_5_signBit I_0_5_infinite I_0_5_nan))] sz)) (va_Qi (fun (r : Int32) (_ : Unit) => K r ) (fun (_ : Unit) t => WY D (va_A [(h0, .inr (10, oX11 r0 I_0_imaged)), ((r0 0), .inr (8, oX9 r0_0 )), ((r0_0 0), .inl (cI, 5, .inl A_0_0_0_f)), ((r0 5), .inr (6, oX7 r0_5 I_0_5_fraction I_0_5_bias I_0_5_most I_0_5_signBit I_0_5_infinite I_0_5_nan))] sz) [(h0, .inr (10, oX11 r0 I_0_imaged)), ((r0 0), .inr (8, oX9 r0_0 )), ((r0_0 0), .inl (cI, 5, .inl A_0_0_0_f)), ((r0 5), .inr (6, oX7 r0_5 I_0_5_fraction I_0_5_bias I_0_5_most I_0_5_signBit I_0_5_infinite I_0_5_nan))] t) (va_A [(h0, .inr (10, oX11 r0 I_0_imaged)), ((r0 0), .inr (8, oX9 r0_0 )), ((r0_0 0), .inl (cI, 5, .inl A_0_0_0_f)), ((r0 5), .inr (6, oX7 r0_5 I_0_5_fraction I_0_5_bias I_0_5_most I_0_5_signBit I_0_5_infinite I_0_5_nan))] sz)) 0 0 (va_A [(h0, .inr (10, oX11 r0 I_0_imaged)), ((r0 0), .inr (8, oX9 r0_0 )), ((r0_0 0), .inl (cI, 5, .inl A_0_0_0_f)), ((r0 5), .inr (6, oX7 r0_5 I_0_5_fraction I_0_5_bias I_0_5_most I_0_5_signBit I_0_5_infinite I_0_5_nan))] sz) := by
  refine m_met (own := RX11) (cc := cX11_steps) (maxL := 3) (ret := some .int) [.ref h0, .int x1, .int x2] [(0, .ref h0), (1, .int x1), (2, .int x2)] (by decide) rfl rfl (Nat.le_of_ble_eq_true rfl) rfl ?_
  intro p e s m args below meth c Q A hQ hA C0 hr hnm hsz hM ls hl
  have hx := C0.1
  have hb := C0.2.1
  have hown := C0.2.2.2.1
  unfold wp_X11_steps at h
  refine lv_iload_n hx hb dX11_steps_0 rfl (lv_at hl 2 rfl) ?_
  refine lv_iconst (v := (0 : Int32)) hx hb dX11_steps_1 (by decide) ?_
  refine lv_bipush (v := (20 : Int32)) hx hb dX11_steps_2 (by decide) ?_
  refine m_calli (wc := []) C0 hM [] rfl (m_runS (wc := []) (As := [.int x2, .int (0 : Int32), .int (20 : Int32)]) (rest := []) C0 hM (ct_X11_within l D cI cJ cZ x2 (0 : Int32) (20 : Int32) _ _ h) [] rfl (by decide) gX11_steps_X11_within rfl rfl rfl hd_X11_within ⟨Nat.le_of_ble_eq_true rfl, Nat.le_of_ble_eq_true rfl⟩ rfl hl.1 rfl (Nat.le_of_ble_eq_true rfl) dX11_steps_4 ⟨Nat.le_of_ble_eq_true rfl, Nat.le_of_ble_eq_true rfl⟩) (fun _ => [(h0, .inr (10, oX11 r0 I_0_imaged)), ((r0 0), .inr (8, oX9 r0_0 )), ((r0_0 0), .inl (cI, 5, .inl A_0_0_0_f)), ((r0 5), .inr (6, oX7 r0_5 I_0_5_fraction I_0_5_bias I_0_5_most I_0_5_signBit I_0_5_infinite I_0_5_nan))]) (fun _ => rfl) (fun _ => rfl) (fun y1 _ H locs h hM => ?_)
  refine lv_if_eq (tgt := 33) hx hb dX11_steps_7 (by decide) (fun hq => ?_) (fun hq => ?_)
  · have h := h.1 hq
    refine lv_bipush (v := (-2 : Int32)) hx hb dX11_steps_33 (by decide) ?_
    subst hsz; subst hA; subst hQ
    exact m_iret C0 hr hM () h rfl dX11_steps_35
  · have h := h.2 hq
    refine lv_aload_n hx hb dX11_steps_10 rfl (lv_at hl 0 rfl) ?_
    refine m_get (C := RX11) (T := TX11) (N := 12) (ci := 10) (ref := "LoweredPowers") (v := .ref (r0 5)) C0 hM 0 rfl rfl kt_X11_steps_X11 5 (by decide) kw_X11_steps_1 rfl rfl dX11_steps_11 ?_
    refine lv_aload_n hx hb dX11_steps_14 rfl (lv_at hl 0 rfl) ?_
    refine m_get (C := RX11) (T := TX11) (N := 12) (ci := 10) (ref := "LoweredPowers") (v := .ref (r0 0)) C0 hM 0 rfl rfl kt_X11_steps_X11 0 (by decide) kw_X11_steps_2 rfl rfl dX11_steps_15 ?_
    refine m_get (C := RX9) (T := TX9) (N := 4) (ci := 8) (ref := "LoweredPowers$State") (v := .ref (r0_0 0)) C0 hM 1 rfl rfl kt_X11_steps_X9 0 (by decide) kw_X11_steps_3 rfl rfl dX11_steps_18 ?_
    refine lv_iload_n hx hb dX11_steps_21 rfl (lv_at hl 1 rfl) ?_
    refine m_calll (wc := []) C0 hM [] rfl (m_runS (wc := []) (As := [.int x1]) (rest := [.ref (r0_0 0), .ref (r0 5)]) C0 hM (ct_X11_floatPattern l D cI cJ cZ x1 _ _ h) [] rfl (by decide) gX11_steps_X11_floatPattern rfl rfl rfl hd_X11_floatPattern ⟨Nat.le_of_ble_eq_true rfl, Nat.le_of_ble_eq_true rfl⟩ rfl hl.1 rfl (Nat.le_of_ble_eq_true rfl) dX11_steps_22 ⟨Nat.le_of_ble_eq_true rfl, Nat.le_of_ble_eq_true rfl⟩) (fun _ => [(h0, .inr (10, oX11 r0 I_0_imaged)), ((r0 0), .inr (8, oX9 r0_0 )), ((r0_0 0), .inl (cI, 5, .inl A_0_0_0_f)), ((r0 5), .inr (6, oX7 r0_5 I_0_5_fraction I_0_5_bias I_0_5_most I_0_5_signBit I_0_5_infinite I_0_5_nan))]) (fun _ => rfl) (fun _ => rfl) (fun y2 _ H locs h hM => ?_)
    refine lv_iload_n hx hb dX11_steps_25 rfl (lv_at hl 2 rfl) ?_
    refine m_calll (wc := [((r0 5), .inr (6, oX7 r0_5 I_0_5_fraction I_0_5_bias I_0_5_most I_0_5_signBit I_0_5_infinite I_0_5_nan)), ((r0_0 0), .inl (cI, 5, .inl A_0_0_0_f))]) C0 hM [3, 2] rfl (m_runV (wc := [((r0 5), .inr (6, oX7 r0_5 I_0_5_fraction I_0_5_bias I_0_5_most I_0_5_signBit I_0_5_infinite I_0_5_nan)), ((r0_0 0), .inl (cI, 5, .inl A_0_0_0_f))]) (As := [.ref (r0_0 0), .long y2, .int x2]) (rest := []) (ci := 6) C0 hM (ct_X7_towardsNought l D cI cJ cZ (r0 5) (r0_0 0) r0_5 I_0_5_fraction I_0_5_bias I_0_5_most I_0_5_signBit I_0_5_infinite I_0_5_nan A_0_0_0_f y2 x2 _ _ h) [3, 2] rfl (by decide) gX11_steps_X7_towardsNought rfl rfl rfl rfl rfl hd_X7_towardsNought ⟨Nat.le_of_ble_eq_true rfl, Nat.le_of_ble_eq_true rfl⟩ rfl hl.1 rfl (Nat.le_of_ble_eq_true rfl) dX11_steps_26 ⟨Nat.le_of_ble_eq_true rfl, Nat.le_of_ble_eq_true rfl⟩) (fun _ => [(h0, .inr (10, oX11 r0 I_0_imaged)), ((r0 0), .inr (8, oX9 r0_0 )), ((r0_0 0), .inl (cI, 5, .inl A_0_0_0_f)), ((r0 5), .inr (6, oX7 r0_5 I_0_5_fraction I_0_5_bias I_0_5_most I_0_5_signBit I_0_5_infinite I_0_5_nan))]) (fun _ => rfl) (fun _ => rfl) (fun y3 _ H locs h hM => ?_)
    refine lv_l2i hx hb dX11_steps_29 rfl ?_
    refine lv_goto (tgt := 35) hx hb dX11_steps_30 (by decide) ?_
    subst hsz; subst hA; subst hQ
    exact m_iret C0 hr hM () h rfl dX11_steps_35
abbrev rm_X11_cut : Room := { frames := 5, cells := 0, slots := 0, locals := 139 }
set_option maxRecDepth 100000 in
set_option maxHeartbeats 4000000 in
theorem ct_X11_cut (l : Launch) (D : va_G) (cI cJ cZ : ClassId) (h0 : Nat) (r0 : Nat → Nat) (r0_0 : Nat → Nat) (r0_5 : Nat → Nat) (I_0_imaged : Int32) (A_0_0_0_f : (Nat → Int32)) (I_0_5_fraction : Int32) (I_0_5_bias : Int32) (I_0_5_most : Int32) (I_0_5_signBit : Int64) (I_0_5_infinite : Int64) (I_0_5_nan : Int64) (x1 : Int32) (sz : Nat) (K : Int32 → Prop) (h : wp_X11_cut x1 A_0_0_0_f I_0_5_fraction I_0_5_bias I_0_5_most I_0_5_signBit I_0_5_infinite I_0_5_nan K) : Met l yX11_cut wsX11_cut rm_X11_cut (va_Pc [.ref h0, .int x1] (WX D cI cJ cZ [(h0, .inr (10, oX11 r0 I_0_imaged)), ((r0 0), .inr (8, oX9 r0_0 )), ((r0_0 0), .inl (cI, 5, .inl A_0_0_0_f)), ((r0 5), .inr (6, oX7 r0_5 I_0_5_fraction I_0_5_bias I_0_5_most I_0_5_signBit I_0_5_infinite I_0_5_nan))] sz)) (va_Qi (fun (r : Int32) (_ : Unit) => K r ) (fun (_ : Unit) t => WY D (va_A [(h0, .inr (10, oX11 r0 I_0_imaged)), ((r0 0), .inr (8, oX9 r0_0 )), ((r0_0 0), .inl (cI, 5, .inl A_0_0_0_f)), ((r0 5), .inr (6, oX7 r0_5 I_0_5_fraction I_0_5_bias I_0_5_most I_0_5_signBit I_0_5_infinite I_0_5_nan))] sz) [(h0, .inr (10, oX11 r0 I_0_imaged)), ((r0 0), .inr (8, oX9 r0_0 )), ((r0_0 0), .inl (cI, 5, .inl A_0_0_0_f)), ((r0 5), .inr (6, oX7 r0_5 I_0_5_fraction I_0_5_bias I_0_5_most I_0_5_signBit I_0_5_infinite I_0_5_nan))] t) (va_A [(h0, .inr (10, oX11 r0 I_0_imaged)), ((r0 0), .inr (8, oX9 r0_0 )), ((r0_0 0), .inl (cI, 5, .inl A_0_0_0_f)), ((r0 5), .inr (6, oX7 r0_5 I_0_5_fraction I_0_5_bias I_0_5_most I_0_5_signBit I_0_5_infinite I_0_5_nan))] sz)) 0 0 (va_A [(h0, .inr (10, oX11 r0 I_0_imaged)), ((r0 0), .inr (8, oX9 r0_0 )), ((r0_0 0), .inl (cI, 5, .inl A_0_0_0_f)), ((r0 5), .inr (6, oX7 r0_5 I_0_5_fraction I_0_5_bias I_0_5_most I_0_5_signBit I_0_5_infinite I_0_5_nan))] sz) := by
  refine m_met (own := RX11) (cc := cX11_cut) (maxL := 2) (ret := some .int) [.ref h0, .int x1] [(0, .ref h0), (1, .int x1)] (by decide) rfl rfl (Nat.le_of_ble_eq_true rfl) rfl ?_
  intro p e s m args below meth c Q A hQ hA C0 hr hnm hsz hM ls hl
  have hx := C0.1
  have hb := C0.2.1
  have hown := C0.2.2.2.1
  unfold wp_X11_cut at h
  refine lv_aload_n hx hb dX11_cut_0 rfl (lv_at hl 0 rfl) ?_
  refine m_get (C := RX11) (T := TX11) (N := 12) (ci := 10) (ref := "LoweredPowers") (v := .ref (r0 5)) C0 hM 0 rfl rfl kt_X11_cut_X11 5 (by decide) kw_X11_cut_1 rfl rfl dX11_cut_1 ?_
  refine lv_aload_n hx hb dX11_cut_4 rfl (lv_at hl 0 rfl) ?_
  refine m_get (C := RX11) (T := TX11) (N := 12) (ci := 10) (ref := "LoweredPowers") (v := .ref (r0 5)) C0 hM 0 rfl rfl kt_X11_cut_X11 5 (by decide) kw_X11_cut_1 rfl rfl dX11_cut_5 ?_
  refine lv_aload_n hx hb dX11_cut_8 rfl (lv_at hl 0 rfl) ?_
  refine m_get (C := RX11) (T := TX11) (N := 12) (ci := 10) (ref := "LoweredPowers") (v := .ref (r0 0)) C0 hM 0 rfl rfl kt_X11_cut_X11 0 (by decide) kw_X11_cut_2 rfl rfl dX11_cut_9 ?_
  refine m_get (C := RX9) (T := TX9) (N := 4) (ci := 8) (ref := "LoweredPowers$State") (v := .ref (r0_0 0)) C0 hM 1 rfl rfl kt_X11_cut_X9 0 (by decide) kw_X11_cut_3 rfl rfl dX11_cut_12 ?_
  refine lv_iload_n hx hb dX11_cut_15 rfl (lv_at hl 1 rfl) ?_
  refine m_calll (wc := []) C0 hM [] rfl (m_runS (wc := []) (As := [.int x1]) (rest := [.ref (r0_0 0), .ref (r0 5), .ref (r0 5)]) C0 hM (ct_X11_floatPattern l D cI cJ cZ x1 _ _ h) [] rfl (by decide) gX11_cut_X11_floatPattern rfl rfl rfl hd_X11_floatPattern ⟨Nat.le_of_ble_eq_true rfl, Nat.le_of_ble_eq_true rfl⟩ rfl hl.1 rfl (Nat.le_of_ble_eq_true rfl) dX11_cut_16 ⟨Nat.le_of_ble_eq_true rfl, Nat.le_of_ble_eq_true rfl⟩) (fun _ => [(h0, .inr (10, oX11 r0 I_0_imaged)), ((r0 0), .inr (8, oX9 r0_0 )), ((r0_0 0), .inl (cI, 5, .inl A_0_0_0_f)), ((r0 5), .inr (6, oX7 r0_5 I_0_5_fraction I_0_5_bias I_0_5_most I_0_5_signBit I_0_5_infinite I_0_5_nan))]) (fun _ => rfl) (fun _ => rfl) (fun y1 _ H locs h hM => ?_)
  refine m_calll (wc := [((r0 5), .inr (6, oX7 r0_5 I_0_5_fraction I_0_5_bias I_0_5_most I_0_5_signBit I_0_5_infinite I_0_5_nan)), ((r0_0 0), .inl (cI, 5, .inl A_0_0_0_f))]) C0 hM [3, 2] rfl (m_runV (wc := [((r0 5), .inr (6, oX7 r0_5 I_0_5_fraction I_0_5_bias I_0_5_most I_0_5_signBit I_0_5_infinite I_0_5_nan)), ((r0_0 0), .inl (cI, 5, .inl A_0_0_0_f))]) (As := [.ref (r0_0 0), .long y1]) (rest := [.ref (r0 5)]) (ci := 6) C0 hM (ct_X7_atPoint l D cI cJ cZ (r0 5) (r0_0 0) r0_5 I_0_5_fraction I_0_5_bias I_0_5_most I_0_5_signBit I_0_5_infinite I_0_5_nan A_0_0_0_f y1 _ _ h) [3, 2] rfl (by decide) gX11_cut_X7_atPoint rfl rfl rfl rfl rfl hd_X7_atPoint ⟨Nat.le_of_ble_eq_true rfl, Nat.le_of_ble_eq_true rfl⟩ rfl hl.1 rfl (Nat.le_of_ble_eq_true rfl) dX11_cut_19 ⟨Nat.le_of_ble_eq_true rfl, Nat.le_of_ble_eq_true rfl⟩) (fun _ => [(h0, .inr (10, oX11 r0 I_0_imaged)), ((r0 0), .inr (8, oX9 r0_0 )), ((r0_0 0), .inl (cI, 5, .inl A_0_0_0_f)), ((r0 5), .inr (6, oX7 r0_5 I_0_5_fraction I_0_5_bias I_0_5_most I_0_5_signBit I_0_5_infinite I_0_5_nan))]) (fun _ => rfl) (fun _ => rfl) (fun y2 _ H locs h hM => ?_)
  refine m_calli (wc := [((r0 5), .inr (6, oX7 r0_5 I_0_5_fraction I_0_5_bias I_0_5_most I_0_5_signBit I_0_5_infinite I_0_5_nan))]) C0 hM [3] rfl (m_runV (wc := [((r0 5), .inr (6, oX7 r0_5 I_0_5_fraction I_0_5_bias I_0_5_most I_0_5_signBit I_0_5_infinite I_0_5_nan))]) (As := [.long y2]) (rest := []) (ci := 6) C0 hM (ct_X7_cutToInt l D cI cJ cZ (r0 5) r0_5 I_0_5_fraction I_0_5_bias I_0_5_most I_0_5_signBit I_0_5_infinite I_0_5_nan y2 _ _ h) [3] rfl (by decide) gX11_cut_X7_cutToInt rfl rfl rfl rfl rfl hd_X7_cutToInt ⟨Nat.le_of_ble_eq_true rfl, Nat.le_of_ble_eq_true rfl⟩ rfl hl.1 rfl (Nat.le_of_ble_eq_true rfl) dX11_cut_22 ⟨Nat.le_of_ble_eq_true rfl, Nat.le_of_ble_eq_true rfl⟩) (fun _ => [(h0, .inr (10, oX11 r0 I_0_imaged)), ((r0 0), .inr (8, oX9 r0_0 )), ((r0_0 0), .inl (cI, 5, .inl A_0_0_0_f)), ((r0 5), .inr (6, oX7 r0_5 I_0_5_fraction I_0_5_bias I_0_5_most I_0_5_signBit I_0_5_infinite I_0_5_nan))]) (fun _ => rfl) (fun _ => rfl) (fun y3 _ H locs h hM => ?_)
  subst hsz; subst hA; subst hQ
  exact m_iret C0 hr hM () h rfl dX11_cut_25
abbrev rm_X11_valued : Room := { frames := 5, cells := 0, slots := 0, locals := 139 }
set_option maxRecDepth 100000 in
set_option maxHeartbeats 4000000 in
theorem ct_X11_valued (l : Launch) (D : va_G) (cI cJ cZ : ClassId) (h0 : Nat) (r0 : Nat → Nat) (r0_0 : Nat → Nat) (r0_6 : Nat → Nat) (I_0_imaged : Int32) (A_0_0_0_f : (Nat → Int32)) (I_0_6_fraction : Int32) (I_0_6_bias : Int32) (I_0_6_most : Int32) (I_0_6_signBit : Int64) (I_0_6_infinite : Int64) (I_0_6_nan : Int64) (x1 : Int64) (sz : Nat) (K : Int64 → Prop) (h : wp_X11_valued x1 A_0_0_0_f I_0_6_fraction I_0_6_bias I_0_6_most I_0_6_signBit I_0_6_infinite I_0_6_nan K) : Met l yX11_valued wsX11_valued rm_X11_valued (va_Pc [.ref h0, .long x1] (WX D cI cJ cZ [(h0, .inr (10, oX11 r0 I_0_imaged)), ((r0 0), .inr (8, oX9 r0_0 )), ((r0_0 0), .inl (cI, 5, .inl A_0_0_0_f)), ((r0 6), .inr (6, oX7 r0_6 I_0_6_fraction I_0_6_bias I_0_6_most I_0_6_signBit I_0_6_infinite I_0_6_nan))] sz)) (va_Ql (fun (r : Int64) (_ : Unit) => K r ) (fun (_ : Unit) t => WY D (va_A [(h0, .inr (10, oX11 r0 I_0_imaged)), ((r0 0), .inr (8, oX9 r0_0 )), ((r0_0 0), .inl (cI, 5, .inl A_0_0_0_f)), ((r0 6), .inr (6, oX7 r0_6 I_0_6_fraction I_0_6_bias I_0_6_most I_0_6_signBit I_0_6_infinite I_0_6_nan))] sz) [(h0, .inr (10, oX11 r0 I_0_imaged)), ((r0 0), .inr (8, oX9 r0_0 )), ((r0_0 0), .inl (cI, 5, .inl A_0_0_0_f)), ((r0 6), .inr (6, oX7 r0_6 I_0_6_fraction I_0_6_bias I_0_6_most I_0_6_signBit I_0_6_infinite I_0_6_nan))] t) (va_A [(h0, .inr (10, oX11 r0 I_0_imaged)), ((r0 0), .inr (8, oX9 r0_0 )), ((r0_0 0), .inl (cI, 5, .inl A_0_0_0_f)), ((r0 6), .inr (6, oX7 r0_6 I_0_6_fraction I_0_6_bias I_0_6_most I_0_6_signBit I_0_6_infinite I_0_6_nan))] sz)) 0 0 (va_A [(h0, .inr (10, oX11 r0 I_0_imaged)), ((r0 0), .inr (8, oX9 r0_0 )), ((r0_0 0), .inl (cI, 5, .inl A_0_0_0_f)), ((r0 6), .inr (6, oX7 r0_6 I_0_6_fraction I_0_6_bias I_0_6_most I_0_6_signBit I_0_6_infinite I_0_6_nan))] sz) := by
  refine m_met (own := RX11) (cc := cX11_valued) (maxL := 3) (ret := some .long) [.ref h0, .long x1] [(0, .ref h0), (1, .long x1)] (by decide) rfl rfl (Nat.le_of_ble_eq_true rfl) rfl ?_
  intro p e s m args below meth c Q A hQ hA C0 hr hnm hsz hM ls hl
  have hx := C0.1
  have hb := C0.2.1
  have hown := C0.2.2.2.1
  unfold wp_X11_valued at h
  refine lv_aload_n hx hb dX11_valued_0 rfl (lv_at hl 0 rfl) ?_
  refine m_get (C := RX11) (T := TX11) (N := 12) (ci := 10) (ref := "LoweredPowers") (v := .ref (r0 6)) C0 hM 0 rfl rfl kt_X11_valued_X11 6 (by decide) kw_X11_valued_1 rfl rfl dX11_valued_1 ?_
  refine lv_aload_n hx hb dX11_valued_4 rfl (lv_at hl 0 rfl) ?_
  refine m_get (C := RX11) (T := TX11) (N := 12) (ci := 10) (ref := "LoweredPowers") (v := .ref (r0 0)) C0 hM 0 rfl rfl kt_X11_valued_X11 0 (by decide) kw_X11_valued_2 rfl rfl dX11_valued_5 ?_
  refine m_get (C := RX9) (T := TX9) (N := 4) (ci := 8) (ref := "LoweredPowers$State") (v := .ref (r0_0 0)) C0 hM 1 rfl rfl kt_X11_valued_X9 0 (by decide) kw_X11_valued_3 rfl rfl dX11_valued_8 ?_
  refine lv_lload_n hx hb dX11_valued_11 rfl (lv_at hl 1 rfl) ?_
  refine m_calll (wc := [((r0 6), .inr (6, oX7 r0_6 I_0_6_fraction I_0_6_bias I_0_6_most I_0_6_signBit I_0_6_infinite I_0_6_nan)), ((r0_0 0), .inl (cI, 5, .inl A_0_0_0_f))]) C0 hM [3, 2] rfl (m_runV (wc := [((r0 6), .inr (6, oX7 r0_6 I_0_6_fraction I_0_6_bias I_0_6_most I_0_6_signBit I_0_6_infinite I_0_6_nan)), ((r0_0 0), .inl (cI, 5, .inl A_0_0_0_f))]) (As := [.ref (r0_0 0), .long x1]) (rest := []) (ci := 6) C0 hM (ct_X7_atPoint l D cI cJ cZ (r0 6) (r0_0 0) r0_6 I_0_6_fraction I_0_6_bias I_0_6_most I_0_6_signBit I_0_6_infinite I_0_6_nan A_0_0_0_f x1 _ _ h) [3, 2] rfl (by decide) gX11_valued_X7_atPoint rfl rfl rfl rfl rfl hd_X7_atPoint ⟨Nat.le_of_ble_eq_true rfl, Nat.le_of_ble_eq_true rfl⟩ rfl hl.1 rfl (Nat.le_of_ble_eq_true rfl) dX11_valued_12 ⟨Nat.le_of_ble_eq_true rfl, Nat.le_of_ble_eq_true rfl⟩) (fun _ => [(h0, .inr (10, oX11 r0 I_0_imaged)), ((r0 0), .inr (8, oX9 r0_0 )), ((r0_0 0), .inl (cI, 5, .inl A_0_0_0_f)), ((r0 6), .inr (6, oX7 r0_6 I_0_6_fraction I_0_6_bias I_0_6_most I_0_6_signBit I_0_6_infinite I_0_6_nan))]) (fun _ => rfl) (fun _ => rfl) (fun y1 _ H locs h hM => ?_)
  subst hsz; subst hA; subst hQ
  exact m_lret C0 hr hM () h rfl dX11_valued_15
abbrev rm_X11_narrowed : Room := { frames := 5, cells := 0, slots := 0, locals := 139 }
set_option maxRecDepth 100000 in
set_option maxHeartbeats 4000000 in
theorem ct_X11_narrowed (l : Launch) (D : va_G) (cI cJ cZ : ClassId) (h0 : Nat) (r0 : Nat → Nat) (r0_0 : Nat → Nat) (r0_5 : Nat → Nat) (r0_6 : Nat → Nat) (I_0_imaged : Int32) (A_0_0_0_f : (Nat → Int32)) (I_0_5_fraction : Int32) (I_0_5_bias : Int32) (I_0_5_most : Int32) (I_0_5_signBit : Int64) (I_0_5_infinite : Int64) (I_0_5_nan : Int64) (I_0_6_fraction : Int32) (I_0_6_bias : Int32) (I_0_6_most : Int32) (I_0_6_signBit : Int64) (I_0_6_infinite : Int64) (I_0_6_nan : Int64) (x1 : Int64) (sz : Nat) (K : Int32 → Prop) (h : wp_X11_narrowed x1 A_0_0_0_f I_0_5_fraction I_0_5_bias I_0_5_most I_0_5_signBit I_0_5_infinite I_0_5_nan I_0_6_fraction I_0_6_bias I_0_6_most I_0_6_signBit I_0_6_infinite I_0_6_nan K) : Met l yX11_narrowed wsX11_narrowed rm_X11_narrowed (va_Pc [.ref h0, .long x1] (WX D cI cJ cZ [(h0, .inr (10, oX11 r0 I_0_imaged)), ((r0 0), .inr (8, oX9 r0_0 )), ((r0_0 0), .inl (cI, 5, .inl A_0_0_0_f)), ((r0 5), .inr (6, oX7 r0_5 I_0_5_fraction I_0_5_bias I_0_5_most I_0_5_signBit I_0_5_infinite I_0_5_nan)), ((r0 6), .inr (6, oX7 r0_6 I_0_6_fraction I_0_6_bias I_0_6_most I_0_6_signBit I_0_6_infinite I_0_6_nan))] sz)) (va_Qi (fun (r : Int32) (_ : Unit) => K r ) (fun (_ : Unit) t => WY D (va_A [(h0, .inr (10, oX11 r0 I_0_imaged)), ((r0 0), .inr (8, oX9 r0_0 )), ((r0_0 0), .inl (cI, 5, .inl A_0_0_0_f)), ((r0 5), .inr (6, oX7 r0_5 I_0_5_fraction I_0_5_bias I_0_5_most I_0_5_signBit I_0_5_infinite I_0_5_nan)), ((r0 6), .inr (6, oX7 r0_6 I_0_6_fraction I_0_6_bias I_0_6_most I_0_6_signBit I_0_6_infinite I_0_6_nan))] sz) [(h0, .inr (10, oX11 r0 I_0_imaged)), ((r0 0), .inr (8, oX9 r0_0 )), ((r0_0 0), .inl (cI, 5, .inl A_0_0_0_f)), ((r0 5), .inr (6, oX7 r0_5 I_0_5_fraction I_0_5_bias I_0_5_most I_0_5_signBit I_0_5_infinite I_0_5_nan)), ((r0 6), .inr (6, oX7 r0_6 I_0_6_fraction I_0_6_bias I_0_6_most I_0_6_signBit I_0_6_infinite I_0_6_nan))] t) (va_A [(h0, .inr (10, oX11 r0 I_0_imaged)), ((r0 0), .inr (8, oX9 r0_0 )), ((r0_0 0), .inl (cI, 5, .inl A_0_0_0_f)), ((r0 5), .inr (6, oX7 r0_5 I_0_5_fraction I_0_5_bias I_0_5_most I_0_5_signBit I_0_5_infinite I_0_5_nan)), ((r0 6), .inr (6, oX7 r0_6 I_0_6_fraction I_0_6_bias I_0_6_most I_0_6_signBit I_0_6_infinite I_0_6_nan))] sz)) 0 0 (va_A [(h0, .inr (10, oX11 r0 I_0_imaged)), ((r0 0), .inr (8, oX9 r0_0 )), ((r0_0 0), .inl (cI, 5, .inl A_0_0_0_f)), ((r0 5), .inr (6, oX7 r0_5 I_0_5_fraction I_0_5_bias I_0_5_most I_0_5_signBit I_0_5_infinite I_0_5_nan)), ((r0 6), .inr (6, oX7 r0_6 I_0_6_fraction I_0_6_bias I_0_6_most I_0_6_signBit I_0_6_infinite I_0_6_nan))] sz) := by
  refine m_met (own := RX11) (cc := cX11_narrowed) (maxL := 3) (ret := some .int) [.ref h0, .long x1] [(0, .ref h0), (1, .long x1)] (by decide) rfl rfl (Nat.le_of_ble_eq_true rfl) rfl ?_
  intro p e s m args below meth c Q A hQ hA C0 hr hnm hsz hM ls hl
  have hx := C0.1
  have hb := C0.2.1
  have hown := C0.2.2.2.1
  unfold wp_X11_narrowed at h
  refine lv_aload_n hx hb dX11_narrowed_0 rfl (lv_at hl 0 rfl) ?_
  refine m_get (C := RX11) (T := TX11) (N := 12) (ci := 10) (ref := "LoweredPowers") (v := .ref (r0 5)) C0 hM 0 rfl rfl kt_X11_narrowed_X11 5 (by decide) kw_X11_narrowed_1 rfl rfl dX11_narrowed_1 ?_
  refine lv_aload_n hx hb dX11_narrowed_4 rfl (lv_at hl 0 rfl) ?_
  refine m_get (C := RX11) (T := TX11) (N := 12) (ci := 10) (ref := "LoweredPowers") (v := .ref (r0 6)) C0 hM 0 rfl rfl kt_X11_narrowed_X11 6 (by decide) kw_X11_narrowed_2 rfl rfl dX11_narrowed_5 ?_
  refine lv_aload_n hx hb dX11_narrowed_8 rfl (lv_at hl 0 rfl) ?_
  refine m_get (C := RX11) (T := TX11) (N := 12) (ci := 10) (ref := "LoweredPowers") (v := .ref (r0 6)) C0 hM 0 rfl rfl kt_X11_narrowed_X11 6 (by decide) kw_X11_narrowed_2 rfl rfl dX11_narrowed_9 ?_
  refine lv_aload_n hx hb dX11_narrowed_12 rfl (lv_at hl 0 rfl) ?_
  refine m_get (C := RX11) (T := TX11) (N := 12) (ci := 10) (ref := "LoweredPowers") (v := .ref (r0 0)) C0 hM 0 rfl rfl kt_X11_narrowed_X11 0 (by decide) kw_X11_narrowed_3 rfl rfl dX11_narrowed_13 ?_
  refine m_get (C := RX9) (T := TX9) (N := 4) (ci := 8) (ref := "LoweredPowers$State") (v := .ref (r0_0 0)) C0 hM 1 rfl rfl kt_X11_narrowed_X9 0 (by decide) kw_X11_narrowed_4 rfl rfl dX11_narrowed_16 ?_
  refine lv_lload_n hx hb dX11_narrowed_19 rfl (lv_at hl 1 rfl) ?_
  refine m_calll (wc := [((r0 6), .inr (6, oX7 r0_6 I_0_6_fraction I_0_6_bias I_0_6_most I_0_6_signBit I_0_6_infinite I_0_6_nan)), ((r0_0 0), .inl (cI, 5, .inl A_0_0_0_f))]) C0 hM [4, 2] rfl (m_runV (wc := [((r0 6), .inr (6, oX7 r0_6 I_0_6_fraction I_0_6_bias I_0_6_most I_0_6_signBit I_0_6_infinite I_0_6_nan)), ((r0_0 0), .inl (cI, 5, .inl A_0_0_0_f))]) (As := [.ref (r0_0 0), .long x1]) (rest := [.ref (r0 6), .ref (r0 5)]) (ci := 6) C0 hM (ct_X7_atPoint l D cI cJ cZ (r0 6) (r0_0 0) r0_6 I_0_6_fraction I_0_6_bias I_0_6_most I_0_6_signBit I_0_6_infinite I_0_6_nan A_0_0_0_f x1 _ _ h) [4, 2] rfl (by decide) gX11_narrowed_X7_atPoint rfl rfl rfl rfl rfl hd_X7_atPoint ⟨Nat.le_of_ble_eq_true rfl, Nat.le_of_ble_eq_true rfl⟩ rfl hl.1 rfl (Nat.le_of_ble_eq_true rfl) dX11_narrowed_20 ⟨Nat.le_of_ble_eq_true rfl, Nat.le_of_ble_eq_true rfl⟩) (fun _ => [(h0, .inr (10, oX11 r0 I_0_imaged)), ((r0 0), .inr (8, oX9 r0_0 )), ((r0_0 0), .inl (cI, 5, .inl A_0_0_0_f)), ((r0 5), .inr (6, oX7 r0_5 I_0_5_fraction I_0_5_bias I_0_5_most I_0_5_signBit I_0_5_infinite I_0_5_nan)), ((r0 6), .inr (6, oX7 r0_6 I_0_6_fraction I_0_6_bias I_0_6_most I_0_6_signBit I_0_6_infinite I_0_6_nan))]) (fun _ => rfl) (fun _ => rfl) (fun y1 _ H locs h hM => ?_)
  refine m_calll (wc := [((r0 5), .inr (6, oX7 r0_5 I_0_5_fraction I_0_5_bias I_0_5_most I_0_5_signBit I_0_5_infinite I_0_5_nan)), ((r0 6), .inr (6, oX7 r0_6 I_0_6_fraction I_0_6_bias I_0_6_most I_0_6_signBit I_0_6_infinite I_0_6_nan))]) C0 hM [3, 4] rfl (m_runV (wc := [((r0 5), .inr (6, oX7 r0_5 I_0_5_fraction I_0_5_bias I_0_5_most I_0_5_signBit I_0_5_infinite I_0_5_nan)), ((r0 6), .inr (6, oX7 r0_6 I_0_6_fraction I_0_6_bias I_0_6_most I_0_6_signBit I_0_6_infinite I_0_6_nan))]) (As := [.ref (r0 6), .long y1]) (rest := []) (ci := 6) C0 hM (ct_X7_likeOther l D cI cJ cZ (r0 5) (r0 6) r0_5 r0_6 I_0_5_fraction I_0_5_bias I_0_5_most I_0_5_signBit I_0_5_infinite I_0_5_nan I_0_6_fraction I_0_6_bias I_0_6_most I_0_6_signBit I_0_6_infinite I_0_6_nan y1 _ _ h) [3, 4] rfl (by decide) gX11_narrowed_X7_likeOther rfl rfl rfl rfl rfl hd_X7_likeOther ⟨Nat.le_of_ble_eq_true rfl, Nat.le_of_ble_eq_true rfl⟩ rfl hl.1 rfl (Nat.le_of_ble_eq_true rfl) dX11_narrowed_23 ⟨Nat.le_of_ble_eq_true rfl, Nat.le_of_ble_eq_true rfl⟩) (fun _ => [(h0, .inr (10, oX11 r0 I_0_imaged)), ((r0 0), .inr (8, oX9 r0_0 )), ((r0_0 0), .inl (cI, 5, .inl A_0_0_0_f)), ((r0 5), .inr (6, oX7 r0_5 I_0_5_fraction I_0_5_bias I_0_5_most I_0_5_signBit I_0_5_infinite I_0_5_nan)), ((r0 6), .inr (6, oX7 r0_6 I_0_6_fraction I_0_6_bias I_0_6_most I_0_6_signBit I_0_6_infinite I_0_6_nan))]) (fun _ => rfl) (fun _ => rfl) (fun y2 _ H locs h hM => ?_)
  refine lv_l2i hx hb dX11_narrowed_26 rfl ?_
  subst hsz; subst hA; subst hQ
  exact m_iret C0 hr hM () h rfl dX11_narrowed_27
abbrev rm_X11_plan : Room := { frames := 1, cells := 0, slots := 0, locals := 22 }
set_option maxRecDepth 100000 in
set_option maxHeartbeats 4000000 in
theorem ct_X11_plan (l : Launch) (D : va_G) (cI cJ cZ : ClassId) (h0 : Nat) (r0 : Nat → Nat) (r0_0 : Nat → Nat) (r0_0_3 : Nat → Nat) (I_0_imaged : Int32) (I_0_0_3_size : Int32) (A_0_0_3_0_kinds : (Nat → Int32)) (A_0_0_3_1_amounts : (Nat → Int32)) (x1 : Int32) (x2 : Int32) (sz : Nat) (K : Int32 → Int32 → (Nat → Int32) → (Nat → Int32) → Prop) (h : wp_X11_plan x1 x2 I_0_0_3_size A_0_0_3_0_kinds A_0_0_3_1_amounts K) : Met l yX11_plan wsX11_plan rm_X11_plan (va_Pc [.ref h0, .int x1, .int x2] (WX D cI cJ cZ [(h0, .inr (10, oX11 r0 I_0_imaged)), ((r0 0), .inr (8, oX9 r0_0 )), ((r0_0 3), .inr (4, oX5 r0_0_3 I_0_0_3_size)), ((r0_0_3 0), .inl (cI, 8, .inl A_0_0_3_0_kinds)), ((r0_0_3 1), .inl (cI, 8, .inl A_0_0_3_1_amounts))] sz)) (va_Qi (fun (r : Int32) (u : Int32 × (Nat → Int32) × (Nat → Int32)) => K r u.1 u.2.1 u.2.2) (fun (u : Int32 × (Nat → Int32) × (Nat → Int32)) t => WY D (va_A [(h0, .inr (10, oX11 r0 I_0_imaged)), ((r0 0), .inr (8, oX9 r0_0 )), ((r0_0 3), .inr (4, oX5 r0_0_3 I_0_0_3_size)), ((r0_0_3 0), .inl (cI, 8, .inl A_0_0_3_0_kinds)), ((r0_0_3 1), .inl (cI, 8, .inl A_0_0_3_1_amounts))] sz) [(h0, .inr (10, oX11 r0 I_0_imaged)), ((r0 0), .inr (8, oX9 r0_0 )), ((r0_0 3), .inr (4, oX5 r0_0_3 u.1)), ((r0_0_3 0), .inl (cI, 8, .inl u.2.1)), ((r0_0_3 1), .inl (cI, 8, .inl u.2.2))] t) (va_A [(h0, .inr (10, oX11 r0 I_0_imaged)), ((r0 0), .inr (8, oX9 r0_0 )), ((r0_0 3), .inr (4, oX5 r0_0_3 I_0_0_3_size)), ((r0_0_3 0), .inl (cI, 8, .inl A_0_0_3_0_kinds)), ((r0_0_3 1), .inl (cI, 8, .inl A_0_0_3_1_amounts))] sz)) 0 0 (va_A [(h0, .inr (10, oX11 r0 I_0_imaged)), ((r0 0), .inr (8, oX9 r0_0 )), ((r0_0 3), .inr (4, oX5 r0_0_3 I_0_0_3_size)), ((r0_0_3 0), .inl (cI, 8, .inl A_0_0_3_0_kinds)), ((r0_0_3 1), .inl (cI, 8, .inl A_0_0_3_1_amounts))] sz) := by
  refine m_met (own := RX11) (cc := cX11_plan) (maxL := 3) (ret := some .int) [.ref h0, .int x1, .int x2] [(0, .ref h0), (1, .int x1), (2, .int x2)] (by decide) rfl rfl (Nat.le_of_ble_eq_true rfl) rfl ?_
  intro p e s m args below meth c Q A hQ hA C0 hr hnm hsz hM ls hl
  have hx := C0.1
  have hb := C0.2.1
  have hown := C0.2.2.2.1
  unfold wp_X11_plan at h
  refine lv_iload_n hx hb dX11_plan_0 rfl (lv_at hl 1 rfl) ?_
  refine lv_iconst (v := (0 : Int32)) hx hb dX11_plan_1 (by decide) ?_
  refine lv_iconst (v := (4 : Int32)) hx hb dX11_plan_2 (by decide) ?_
  refine m_calli (wc := []) C0 hM [] rfl (m_runS (wc := []) (As := [.int x1, .int (0 : Int32), .int (4 : Int32)]) (rest := []) C0 hM (ct_X11_within l D cI cJ cZ x1 (0 : Int32) (4 : Int32) _ _ h) [] rfl (by decide) gX11_plan_X11_within rfl rfl rfl hd_X11_within ⟨Nat.le_of_ble_eq_true rfl, Nat.le_of_ble_eq_true rfl⟩ rfl hl.1 rfl (Nat.le_of_ble_eq_true rfl) dX11_plan_3 ⟨Nat.le_of_ble_eq_true rfl, Nat.le_of_ble_eq_true rfl⟩) (fun _ => [(h0, .inr (10, oX11 r0 I_0_imaged)), ((r0 0), .inr (8, oX9 r0_0 )), ((r0_0 3), .inr (4, oX5 r0_0_3 I_0_0_3_size)), ((r0_0_3 0), .inl (cI, 8, .inl A_0_0_3_0_kinds)), ((r0_0_3 1), .inl (cI, 8, .inl A_0_0_3_1_amounts))]) (fun _ => rfl) (fun _ => rfl) (fun y1 _ H locs h hM => ?_)
  refine lv_if_ne (tgt := 11) hx hb dX11_plan_6 (by decide) (fun hq => ?_) (fun hq => ?_)
  · have h := h.1 hq
    refine lv_iload_n hx hb dX11_plan_11 rfl (lv_at hl 2 rfl) ?_
    refine lv_bipush (v := (-99 : Int32)) hx hb dX11_plan_12 (by decide) ?_
    refine lv_bipush (v := (99 : Int32)) hx hb dX11_plan_14 (by decide) ?_
    refine m_calli (wc := []) C0 hM [] rfl (m_runS (wc := []) (As := [.int x2, .int (-99 : Int32), .int (99 : Int32)]) (rest := []) C0 hM (ct_X11_within l D cI cJ cZ x2 (-99 : Int32) (99 : Int32) _ _ h) [] rfl (by decide) gX11_plan_X11_within rfl rfl rfl hd_X11_within ⟨Nat.le_of_ble_eq_true rfl, Nat.le_of_ble_eq_true rfl⟩ rfl hl.1 rfl (Nat.le_of_ble_eq_true rfl) dX11_plan_16 ⟨Nat.le_of_ble_eq_true rfl, Nat.le_of_ble_eq_true rfl⟩) (fun _ => [(h0, .inr (10, oX11 r0 I_0_imaged)), ((r0 0), .inr (8, oX9 r0_0 )), ((r0_0 3), .inr (4, oX5 r0_0_3 I_0_0_3_size)), ((r0_0_3 0), .inl (cI, 8, .inl A_0_0_3_0_kinds)), ((r0_0_3 1), .inl (cI, 8, .inl A_0_0_3_1_amounts))]) (fun _ => rfl) (fun _ => rfl) (fun y2 _ H locs h hM => ?_)
    refine lv_if_ne (tgt := 25) hx hb dX11_plan_19 (by decide) (fun hq => ?_) (fun hq => ?_)
    · have h := h.1 hq
      refine lv_aload_n hx hb dX11_plan_25 rfl (lv_at hl 0 rfl) ?_
      refine m_get (C := RX11) (T := TX11) (N := 12) (ci := 10) (ref := "LoweredPowers") (v := .ref (r0 0)) C0 hM 0 rfl rfl kt_X11_plan_X11 0 (by decide) kw_X11_plan_1 rfl rfl dX11_plan_26 ?_
      refine m_get (C := RX9) (T := TX9) (N := 4) (ci := 8) (ref := "LoweredPowers$State") (v := .ref (r0_0 3)) C0 hM 1 rfl rfl kt_X11_plan_X9 3 (by decide) kw_X11_plan_2 rfl rfl dX11_plan_29 ?_
      refine m_get (C := RX5) (T := TX5) (N := 3) (ci := 4) (ref := "LoweredPowers$Plan") (v := .int I_0_0_3_size) C0 hM 2 rfl rfl kt_X11_plan_X5 2 (by decide) kw_X11_plan_3 rfl rfl dX11_plan_32 ?_
      refine lv_bipush (v := (8 : Int32)) hx hb dX11_plan_35 (by decide) ?_
      refine lv_icmp_lt (tgt := 43) hx hb dX11_plan_37 (by decide) (fun hq => ?_) (fun hq => ?_)
      · have h := h.1 hq
        refine lv_aload_n hx hb dX11_plan_43 rfl (lv_at hl 0 rfl) ?_
        refine m_get (C := RX11) (T := TX11) (N := 12) (ci := 10) (ref := "LoweredPowers") (v := .ref (r0 0)) C0 hM 0 rfl rfl kt_X11_plan_X11 0 (by decide) kw_X11_plan_1 rfl rfl dX11_plan_44 ?_
        refine m_get (C := RX9) (T := TX9) (N := 4) (ci := 8) (ref := "LoweredPowers$State") (v := .ref (r0_0 3)) C0 hM 1 rfl rfl kt_X11_plan_X9 3 (by decide) kw_X11_plan_2 rfl rfl dX11_plan_47 ?_
        refine lv_iload_n hx hb dX11_plan_50 rfl (lv_at hl 1 rfl) ?_
        refine lv_iload_n hx hb dX11_plan_51 rfl (lv_at hl 2 rfl) ?_
        refine m_callv (wc := [((r0_0 3), .inr (4, oX5 r0_0_3 I_0_0_3_size)), ((r0_0_3 0), .inl (cI, 8, .inl A_0_0_3_0_kinds)), ((r0_0_3 1), .inl (cI, 8, .inl A_0_0_3_1_amounts))]) C0 hM [2, 3, 4] rfl (m_runV (wc := [((r0_0 3), .inr (4, oX5 r0_0_3 I_0_0_3_size)), ((r0_0_3 0), .inl (cI, 8, .inl A_0_0_3_0_kinds)), ((r0_0_3 1), .inl (cI, 8, .inl A_0_0_3_1_amounts))]) (As := [.int x1, .int x2]) (rest := []) (ci := 4) C0 hM (ct_X5_append l D cI cJ cZ (r0_0 3) r0_0_3 I_0_0_3_size A_0_0_3_0_kinds A_0_0_3_1_amounts x1 x2 _ _ h) [2, 3, 4] rfl (by decide) gX11_plan_X5_append rfl rfl rfl rfl rfl hd_X5_append ⟨Nat.le_of_ble_eq_true rfl, Nat.le_of_ble_eq_true rfl⟩ rfl hl.1 rfl (Nat.le_of_ble_eq_true rfl) dX11_plan_52 ⟨Nat.le_of_ble_eq_true rfl, Nat.le_of_ble_eq_true rfl⟩) (fun u => [(h0, .inr (10, oX11 r0 I_0_imaged)), ((r0 0), .inr (8, oX9 r0_0 )), ((r0_0 3), .inr (4, oX5 r0_0_3 u.1)), ((r0_0_3 0), .inl (cI, 8, .inl u.2.1)), ((r0_0_3 1), .inl (cI, 8, .inl u.2.2))]) (fun _ => rfl) (fun _ => rfl) (fun u H locs h hM => ?_)
        obtain ⟨b3, b4, b5⟩ := u
        dsimp only at h
        have hM : MW D A s.heap [(h0, .inr (10, oX11 r0 I_0_imaged)), ((r0 0), .inr (8, oX9 r0_0 )), ((r0_0 3), .inr (4, oX5 r0_0_3 b3)), ((r0_0_3 0), .inl (cI, 8, .inl b4)), ((r0_0_3 1), .inl (cI, 8, .inl b5))] H locs := hM
        refine lv_aload_n hx hb dX11_plan_55 rfl (lv_at hl 0 rfl) ?_
        refine m_get (C := RX11) (T := TX11) (N := 12) (ci := 10) (ref := "LoweredPowers") (v := .ref (r0 0)) C0 hM 0 rfl rfl kt_X11_plan_X11 0 (by decide) kw_X11_plan_1 rfl rfl dX11_plan_56 ?_
        refine m_get (C := RX9) (T := TX9) (N := 4) (ci := 8) (ref := "LoweredPowers$State") (v := .ref (r0_0 3)) C0 hM 1 rfl rfl kt_X11_plan_X9 3 (by decide) kw_X11_plan_2 rfl rfl dX11_plan_59 ?_
        refine m_get (C := RX5) (T := TX5) (N := 3) (ci := 4) (ref := "LoweredPowers$Plan") (v := .int b3) C0 hM 2 rfl rfl kt_X11_plan_X5 2 (by decide) kw_X11_plan_3 rfl rfl dX11_plan_62 ?_
        subst hsz; subst hA; subst hQ
        exact m_iret C0 hr hM (b3, b4, b5) h rfl dX11_plan_65
      · have h := h.2 hq
        refine lv_bipush (v := (-4 : Int32)) hx hb dX11_plan_40 (by decide) ?_
        subst hsz; subst hA; subst hQ
        exact m_iret C0 hr hM (I_0_0_3_size, A_0_0_3_0_kinds, A_0_0_3_1_amounts) h rfl dX11_plan_42
    · have h := h.2 hq
      refine lv_bipush (v := (-2 : Int32)) hx hb dX11_plan_22 (by decide) ?_
      subst hsz; subst hA; subst hQ
      exact m_iret C0 hr hM (I_0_0_3_size, A_0_0_3_0_kinds, A_0_0_3_1_amounts) h rfl dX11_plan_24
  · have h := h.2 hq
    refine lv_iconst (v := (-1 : Int32)) hx hb dX11_plan_9 (by decide) ?_
    subst hsz; subst hA; subst hQ
    exact m_iret C0 hr hM (I_0_0_3_size, A_0_0_3_0_kinds, A_0_0_3_1_amounts) h rfl dX11_plan_10
abbrev rm_X11_unplan : Room := { frames := 0, cells := 0, slots := 0, locals := 0 }
set_option maxRecDepth 100000 in
set_option maxHeartbeats 4000000 in
theorem ct_X11_unplan (l : Launch) (D : va_G) (cI cJ cZ : ClassId) (h0 : Nat) (r0 : Nat → Nat) (r0_0 : Nat → Nat) (r0_0_3 : Nat → Nat) (I_0_imaged : Int32) (I_0_0_3_size : Int32) (sz : Nat) (K : Int32 → Int32 → Prop) (h : wp_X11_unplan I_0_0_3_size K) : Met l yX11_unplan wsX11_unplan rm_X11_unplan (va_Pc [.ref h0] (WX D cI cJ cZ [(h0, .inr (10, oX11 r0 I_0_imaged)), ((r0 0), .inr (8, oX9 r0_0 )), ((r0_0 3), .inr (4, oX5 r0_0_3 I_0_0_3_size))] sz)) (va_Qi (fun (r : Int32) (u : Int32) => K r u) (fun (u : Int32) t => WY D (va_A [(h0, .inr (10, oX11 r0 I_0_imaged)), ((r0 0), .inr (8, oX9 r0_0 )), ((r0_0 3), .inr (4, oX5 r0_0_3 I_0_0_3_size))] sz) [(h0, .inr (10, oX11 r0 I_0_imaged)), ((r0 0), .inr (8, oX9 r0_0 )), ((r0_0 3), .inr (4, oX5 r0_0_3 u))] t) (va_A [(h0, .inr (10, oX11 r0 I_0_imaged)), ((r0 0), .inr (8, oX9 r0_0 )), ((r0_0 3), .inr (4, oX5 r0_0_3 I_0_0_3_size))] sz)) 0 0 (va_A [(h0, .inr (10, oX11 r0 I_0_imaged)), ((r0 0), .inr (8, oX9 r0_0 )), ((r0_0 3), .inr (4, oX5 r0_0_3 I_0_0_3_size))] sz) := by
  refine m_met (own := RX11) (cc := cX11_unplan) (maxL := 2) (ret := some .int) [.ref h0] [(0, .ref h0)] (by decide) rfl rfl (Nat.le_of_ble_eq_true rfl) rfl ?_
  intro p e s m args below meth c Q A hQ hA C0 hr hnm hsz hM ls hl
  have hx := C0.1
  have hb := C0.2.1
  have hown := C0.2.2.2.1
  unfold wp_X11_unplan at h
  refine lv_aload_n hx hb dX11_unplan_0 rfl (lv_at hl 0 rfl) ?_
  refine m_get (C := RX11) (T := TX11) (N := 12) (ci := 10) (ref := "LoweredPowers") (v := .ref (r0 0)) C0 hM 0 rfl rfl kt_X11_unplan_X11 0 (by decide) kw_X11_unplan_1 rfl rfl dX11_unplan_1 ?_
  refine m_get (C := RX9) (T := TX9) (N := 4) (ci := 8) (ref := "LoweredPowers$State") (v := .ref (r0_0 3)) C0 hM 1 rfl rfl kt_X11_unplan_X9 3 (by decide) kw_X11_unplan_2 rfl rfl dX11_unplan_4 ?_
  refine m_get (C := RX5) (T := TX5) (N := 3) (ci := 4) (ref := "LoweredPowers$Plan") (v := .int I_0_0_3_size) C0 hM 2 rfl rfl kt_X11_unplan_X5 2 (by decide) kw_X11_unplan_3 rfl rfl dX11_unplan_7 ?_
  refine lv_istore_n (lv' := [(1, .int I_0_0_3_size), (0, .ref h0)]) hx hb dX11_unplan_10 rfl hl (by decide) rfl (fun ls hl => ?_)
  refine lv_aload_n hx hb dX11_unplan_11 rfl (lv_at hl 1 rfl) ?_
  refine m_get (C := RX11) (T := TX11) (N := 12) (ci := 10) (ref := "LoweredPowers") (v := .ref (r0 0)) C0 hM 0 rfl rfl kt_X11_unplan_X11 0 (by decide) kw_X11_unplan_1 rfl rfl dX11_unplan_12 ?_
  refine m_get (C := RX9) (T := TX9) (N := 4) (ci := 8) (ref := "LoweredPowers$State") (v := .ref (r0_0 3)) C0 hM 1 rfl rfl kt_X11_unplan_X9 3 (by decide) kw_X11_unplan_2 rfl rfl dX11_unplan_15 ?_
  refine lv_iconst (v := (0 : Int32)) hx hb dX11_unplan_18 (by decide) ?_
  refine m_put (ws' := [(h0, .inr (10, oX11 r0 I_0_imaged)), ((r0 0), .inr (8, oX9 r0_0 )), ((r0_0 3), .inr (4, oX5 r0_0_3 (0 : Int32)))]) (C := RX5) (T := TX5) (N := 3) (ci := 4) (ref := "LoweredPowers$Plan") (v := .int (0 : Int32)) C0 hM 2 rfl rfl kt_X11_unplan_X5 tyX5 tyX5_ok nmX5 2 (by decide) kw_X11_unplan_3 rfl rfl rfl rfl (Nat.le_of_ble_eq_true rfl) rfl dX11_unplan_19 (fun H locs hM => ?_)
  refine lv_iload_n hx hb dX11_unplan_22 rfl (lv_at hl 0 rfl) ?_
  subst hsz; subst hA; subst hQ
  exact m_iret C0 hr hM (0 : Int32) h rfl dX11_unplan_23
abbrev rm_X11_run : Room := { frames := 4, cells := 0, slots := 0, locals := 90 }
set_option maxRecDepth 100000 in
set_option maxHeartbeats 4000000 in
theorem ct_X11_run (l : Launch) (D : va_G) (cI cJ cZ : ClassId) (h0 : Nat) (r0 : Nat → Nat) (r0_0 : Nat → Nat) (r0_0_3 : Nat → Nat) (I_0_imaged : Int32) (A_0_0_0_f : (Nat → Int32)) (I_0_0_3_size : Int32) (A_0_0_3_0_kinds : (Nat → Int32)) (A_0_0_3_1_amounts : (Nat → Int32)) (sz : Nat) (K : Int32 → (Nat → Int32) → Prop) (h : wp_X11_run A_0_0_0_f I_0_0_3_size A_0_0_3_0_kinds A_0_0_3_1_amounts K) : Met l yX11_run wsX11_run rm_X11_run (va_Pc [.ref h0] (WX D cI cJ cZ [(h0, .inr (10, oX11 r0 I_0_imaged)), ((r0 0), .inr (8, oX9 r0_0 )), ((r0_0 0), .inl (cI, 5, .inl A_0_0_0_f)), ((r0_0 3), .inr (4, oX5 r0_0_3 I_0_0_3_size)), ((r0_0_3 0), .inl (cI, 8, .inl A_0_0_3_0_kinds)), ((r0_0_3 1), .inl (cI, 8, .inl A_0_0_3_1_amounts))] sz)) (va_Qi (fun (r : Int32) (u : (Nat → Int32)) => K r u) (fun (u : (Nat → Int32)) t => WY D (va_A [(h0, .inr (10, oX11 r0 I_0_imaged)), ((r0 0), .inr (8, oX9 r0_0 )), ((r0_0 0), .inl (cI, 5, .inl A_0_0_0_f)), ((r0_0 3), .inr (4, oX5 r0_0_3 I_0_0_3_size)), ((r0_0_3 0), .inl (cI, 8, .inl A_0_0_3_0_kinds)), ((r0_0_3 1), .inl (cI, 8, .inl A_0_0_3_1_amounts))] sz) [(h0, .inr (10, oX11 r0 I_0_imaged)), ((r0 0), .inr (8, oX9 r0_0 )), ((r0_0 0), .inl (cI, 5, .inl u)), ((r0_0 3), .inr (4, oX5 r0_0_3 I_0_0_3_size)), ((r0_0_3 0), .inl (cI, 8, .inl A_0_0_3_0_kinds)), ((r0_0_3 1), .inl (cI, 8, .inl A_0_0_3_1_amounts))] t) (va_A [(h0, .inr (10, oX11 r0 I_0_imaged)), ((r0 0), .inr (8, oX9 r0_0 )), ((r0_0 0), .inl (cI, 5, .inl A_0_0_0_f)), ((r0_0 3), .inr (4, oX5 r0_0_3 I_0_0_3_size)), ((r0_0_3 0), .inl (cI, 8, .inl A_0_0_3_0_kinds)), ((r0_0_3 1), .inl (cI, 8, .inl A_0_0_3_1_amounts))] sz)) 0 0 (va_A [(h0, .inr (10, oX11 r0 I_0_imaged)), ((r0 0), .inr (8, oX9 r0_0 )), ((r0_0 0), .inl (cI, 5, .inl A_0_0_0_f)), ((r0_0 3), .inr (4, oX5 r0_0_3 I_0_0_3_size)), ((r0_0_3 0), .inl (cI, 8, .inl A_0_0_3_0_kinds)), ((r0_0_3 1), .inl (cI, 8, .inl A_0_0_3_1_amounts))] sz) := by
  refine m_met (own := RX11) (cc := cX11_run) (maxL := 1) (ret := some .int) [.ref h0] [(0, .ref h0)] (by decide) rfl rfl (Nat.le_of_ble_eq_true rfl) rfl ?_
  intro p e s m args below meth c Q A hQ hA C0 hr hnm hsz hM ls hl
  have hx := C0.1
  have hb := C0.2.1
  have hown := C0.2.2.2.1
  unfold wp_X11_run at h
  refine lv_aload_n hx hb dX11_run_0 rfl (lv_at hl 0 rfl) ?_
  refine m_get (C := RX11) (T := TX11) (N := 12) (ci := 10) (ref := "LoweredPowers") (v := .ref (r0 0)) C0 hM 0 rfl rfl kt_X11_run_X11 0 (by decide) kw_X11_run_1 rfl rfl dX11_run_1 ?_
  refine m_get (C := RX9) (T := TX9) (N := 4) (ci := 8) (ref := "LoweredPowers$State") (v := .ref (r0_0 3)) C0 hM 1 rfl rfl kt_X11_run_X9 3 (by decide) kw_X11_run_2 rfl rfl dX11_run_4 ?_
  refine lv_aload_n hx hb dX11_run_7 rfl (lv_at hl 0 rfl) ?_
  refine m_get (C := RX11) (T := TX11) (N := 12) (ci := 10) (ref := "LoweredPowers") (v := .ref (r0 0)) C0 hM 0 rfl rfl kt_X11_run_X11 0 (by decide) kw_X11_run_1 rfl rfl dX11_run_8 ?_
  refine m_get (C := RX9) (T := TX9) (N := 4) (ci := 8) (ref := "LoweredPowers$State") (v := .ref (r0_0 0)) C0 hM 1 rfl rfl kt_X11_run_X9 0 (by decide) kw_X11_run_3 rfl rfl dX11_run_11 ?_
  refine m_callv (wc := [((r0_0 3), .inr (4, oX5 r0_0_3 I_0_0_3_size)), ((r0_0_3 0), .inl (cI, 8, .inl A_0_0_3_0_kinds)), ((r0_0_3 1), .inl (cI, 8, .inl A_0_0_3_1_amounts)), ((r0_0 0), .inl (cI, 5, .inl A_0_0_0_f))]) C0 hM [3, 4, 5, 2] rfl (m_runV (wc := [((r0_0 3), .inr (4, oX5 r0_0_3 I_0_0_3_size)), ((r0_0_3 0), .inl (cI, 8, .inl A_0_0_3_0_kinds)), ((r0_0_3 1), .inl (cI, 8, .inl A_0_0_3_1_amounts)), ((r0_0 0), .inl (cI, 5, .inl A_0_0_0_f))]) (As := [.ref (r0_0 0)]) (rest := []) (ci := 4) C0 hM (ct_X5_change l D cI cJ cZ (r0_0 3) (r0_0 0) r0_0_3 I_0_0_3_size A_0_0_3_0_kinds A_0_0_3_1_amounts A_0_0_0_f _ _ h) [3, 4, 5, 2] rfl (by decide) gX11_run_X5_change rfl rfl rfl rfl rfl hd_X5_change ⟨Nat.le_of_ble_eq_true rfl, Nat.le_of_ble_eq_true rfl⟩ rfl hl.1 rfl (Nat.le_of_ble_eq_true rfl) dX11_run_14 ⟨Nat.le_of_ble_eq_true rfl, Nat.le_of_ble_eq_true rfl⟩) (fun u => [(h0, .inr (10, oX11 r0 I_0_imaged)), ((r0 0), .inr (8, oX9 r0_0 )), ((r0_0 0), .inl (cI, 5, .inl u)), ((r0_0 3), .inr (4, oX5 r0_0_3 I_0_0_3_size)), ((r0_0_3 0), .inl (cI, 8, .inl A_0_0_3_0_kinds)), ((r0_0_3 1), .inl (cI, 8, .inl A_0_0_3_1_amounts))]) (fun _ => rfl) (fun _ => rfl) (fun b1 H locs h hM => ?_)
  refine lv_aload_n hx hb dX11_run_17 rfl (lv_at hl 0 rfl) ?_
  refine m_get (C := RX11) (T := TX11) (N := 12) (ci := 10) (ref := "LoweredPowers") (v := .ref (r0 0)) C0 hM 0 rfl rfl kt_X11_run_X11 0 (by decide) kw_X11_run_1 rfl rfl dX11_run_18 ?_
  refine m_get (C := RX9) (T := TX9) (N := 4) (ci := 8) (ref := "LoweredPowers$State") (v := .ref (r0_0 0)) C0 hM 1 rfl rfl kt_X11_run_X9 0 (by decide) kw_X11_run_3 rfl rfl dX11_run_21 ?_
  refine m_calli (wc := [((r0_0 0), .inl (cI, 5, .inl b1))]) C0 hM [2] rfl (m_runS (wc := [((r0_0 0), .inl (cI, 5, .inl b1))]) (As := [.ref (r0_0 0)]) (rest := []) C0 hM (ct_X3_highest l D cI cJ cZ (r0_0 0) 5 b1 _ _ h) [2] rfl (by decide) gX11_run_X3_highest rfl rfl rfl hd_X3_highest ⟨Nat.le_of_ble_eq_true rfl, Nat.le_of_ble_eq_true rfl⟩ rfl hl.1 rfl (Nat.le_of_ble_eq_true rfl) dX11_run_24 ⟨Nat.le_of_ble_eq_true rfl, Nat.le_of_ble_eq_true rfl⟩) (fun _ => [(h0, .inr (10, oX11 r0 I_0_imaged)), ((r0 0), .inr (8, oX9 r0_0 )), ((r0_0 0), .inl (cI, 5, .inl b1)), ((r0_0 3), .inr (4, oX5 r0_0_3 I_0_0_3_size)), ((r0_0_3 0), .inl (cI, 8, .inl A_0_0_3_0_kinds)), ((r0_0_3 1), .inl (cI, 8, .inl A_0_0_3_1_amounts))]) (fun _ => rfl) (fun _ => rfl) (fun y2 _ H locs h hM => ?_)
  subst hsz; subst hA; subst hQ
  exact m_iret C0 hr hM b1 h rfl dX11_run_27
abbrev rm_X11_ahead : Room := { frames := 4, cells := 0, slots := 0, locals := 90 }
set_option maxRecDepth 100000 in
set_option maxHeartbeats 4000000 in
theorem ct_X11_ahead (l : Launch) (D : va_G) (cI cJ cZ : ClassId) (h0 : Nat) (r0 : Nat → Nat) (r0_0 : Nat → Nat) (r0_0_3 : Nat → Nat) (I_0_imaged : Int32) (A_0_0_0_f : (Nat → Int32)) (I_0_0_3_size : Int32) (A_0_0_3_0_kinds : (Nat → Int32)) (A_0_0_3_1_amounts : (Nat → Int32)) (A_0_10_changed : (Nat → Int32)) (x1 : Int32) (sz : Nat) (K : Int32 → (Nat → Int32) → Prop) (h : wp_X11_ahead x1 A_0_0_0_f I_0_0_3_size A_0_0_3_0_kinds A_0_0_3_1_amounts A_0_10_changed K) : Met l yX11_ahead wsX11_ahead rm_X11_ahead (va_Pc [.ref h0, .int x1] (WX D cI cJ cZ [(h0, .inr (10, oX11 r0 I_0_imaged)), ((r0 0), .inr (8, oX9 r0_0 )), ((r0_0 0), .inl (cI, 5, .inl A_0_0_0_f)), ((r0_0 3), .inr (4, oX5 r0_0_3 I_0_0_3_size)), ((r0_0_3 0), .inl (cI, 8, .inl A_0_0_3_0_kinds)), ((r0_0_3 1), .inl (cI, 8, .inl A_0_0_3_1_amounts)), ((r0 10), .inl (cI, 5, .inl A_0_10_changed))] sz)) (va_Qi (fun (r : Int32) (u : (Nat → Int32)) => K r u) (fun (u : (Nat → Int32)) t => WY D (va_A [(h0, .inr (10, oX11 r0 I_0_imaged)), ((r0 0), .inr (8, oX9 r0_0 )), ((r0_0 0), .inl (cI, 5, .inl A_0_0_0_f)), ((r0_0 3), .inr (4, oX5 r0_0_3 I_0_0_3_size)), ((r0_0_3 0), .inl (cI, 8, .inl A_0_0_3_0_kinds)), ((r0_0_3 1), .inl (cI, 8, .inl A_0_0_3_1_amounts)), ((r0 10), .inl (cI, 5, .inl A_0_10_changed))] sz) [(h0, .inr (10, oX11 r0 I_0_imaged)), ((r0 0), .inr (8, oX9 r0_0 )), ((r0_0 0), .inl (cI, 5, .inl A_0_0_0_f)), ((r0_0 3), .inr (4, oX5 r0_0_3 I_0_0_3_size)), ((r0_0_3 0), .inl (cI, 8, .inl A_0_0_3_0_kinds)), ((r0_0_3 1), .inl (cI, 8, .inl A_0_0_3_1_amounts)), ((r0 10), .inl (cI, 5, .inl u))] t) (va_A [(h0, .inr (10, oX11 r0 I_0_imaged)), ((r0 0), .inr (8, oX9 r0_0 )), ((r0_0 0), .inl (cI, 5, .inl A_0_0_0_f)), ((r0_0 3), .inr (4, oX5 r0_0_3 I_0_0_3_size)), ((r0_0_3 0), .inl (cI, 8, .inl A_0_0_3_0_kinds)), ((r0_0_3 1), .inl (cI, 8, .inl A_0_0_3_1_amounts)), ((r0 10), .inl (cI, 5, .inl A_0_10_changed))] sz)) 0 0 (va_A [(h0, .inr (10, oX11 r0 I_0_imaged)), ((r0 0), .inr (8, oX9 r0_0 )), ((r0_0 0), .inl (cI, 5, .inl A_0_0_0_f)), ((r0_0 3), .inr (4, oX5 r0_0_3 I_0_0_3_size)), ((r0_0_3 0), .inl (cI, 8, .inl A_0_0_3_0_kinds)), ((r0_0_3 1), .inl (cI, 8, .inl A_0_0_3_1_amounts)), ((r0 10), .inl (cI, 5, .inl A_0_10_changed))] sz) := by
  refine m_met (own := RX11) (cc := cX11_ahead) (maxL := 2) (ret := some .int) [.ref h0, .int x1] [(0, .ref h0), (1, .int x1)] (by decide) rfl rfl (Nat.le_of_ble_eq_true rfl) rfl ?_
  intro p e s m args below meth c Q A hQ hA C0 hr hnm hsz hM ls hl
  have hx := C0.1
  have hb := C0.2.1
  have hown := C0.2.2.2.1
  unfold wp_X11_ahead at h
  refine lv_iload_n hx hb dX11_ahead_0 rfl (lv_at hl 1 rfl) ?_
  refine lv_iconst (v := (0 : Int32)) hx hb dX11_ahead_1 (by decide) ?_
  refine lv_iconst (v := (4 : Int32)) hx hb dX11_ahead_2 (by decide) ?_
  refine m_calli (wc := []) C0 hM [] rfl (m_runS (wc := []) (As := [.int x1, .int (0 : Int32), .int (4 : Int32)]) (rest := []) C0 hM (ct_X11_within l D cI cJ cZ x1 (0 : Int32) (4 : Int32) _ _ h) [] rfl (by decide) gX11_ahead_X11_within rfl rfl rfl hd_X11_within ⟨Nat.le_of_ble_eq_true rfl, Nat.le_of_ble_eq_true rfl⟩ rfl hl.1 rfl (Nat.le_of_ble_eq_true rfl) dX11_ahead_3 ⟨Nat.le_of_ble_eq_true rfl, Nat.le_of_ble_eq_true rfl⟩) (fun _ => [(h0, .inr (10, oX11 r0 I_0_imaged)), ((r0 0), .inr (8, oX9 r0_0 )), ((r0_0 0), .inl (cI, 5, .inl A_0_0_0_f)), ((r0_0 3), .inr (4, oX5 r0_0_3 I_0_0_3_size)), ((r0_0_3 0), .inl (cI, 8, .inl A_0_0_3_0_kinds)), ((r0_0_3 1), .inl (cI, 8, .inl A_0_0_3_1_amounts)), ((r0 10), .inl (cI, 5, .inl A_0_10_changed))]) (fun _ => rfl) (fun _ => rfl) (fun y1 _ H locs h hM => ?_)
  refine lv_if_ne (tgt := 11) hx hb dX11_ahead_6 (by decide) (fun hq => ?_) (fun hq => ?_)
  · have h := h.1 hq
    refine lv_aload_n hx hb dX11_ahead_11 rfl (lv_at hl 0 rfl) ?_
    refine m_get (C := RX11) (T := TX11) (N := 12) (ci := 10) (ref := "LoweredPowers") (v := .ref (r0 0)) C0 hM 0 rfl rfl kt_X11_ahead_X11 0 (by decide) kw_X11_ahead_1 rfl rfl dX11_ahead_12 ?_
    refine m_get (C := RX9) (T := TX9) (N := 4) (ci := 8) (ref := "LoweredPowers$State") (v := .ref (r0_0 0)) C0 hM 1 rfl rfl kt_X11_ahead_X9 0 (by decide) kw_X11_ahead_2 rfl rfl dX11_ahead_15 ?_
    refine lv_iconst (v := (0 : Int32)) hx hb dX11_ahead_18 (by decide) ?_
    refine lv_aload_n hx hb dX11_ahead_19 rfl (lv_at hl 0 rfl) ?_
    refine m_get (C := RX11) (T := TX11) (N := 12) (ci := 10) (ref := "LoweredPowers") (v := .ref (r0 10)) C0 hM 0 rfl rfl kt_X11_ahead_X11 10 (by decide) kw_X11_ahead_3 rfl rfl dX11_ahead_20 ?_
    refine lv_iconst (v := (0 : Int32)) hx hb dX11_ahead_23 (by decide) ?_
    refine lv_iconst (v := (5 : Int32)) hx hb dX11_ahead_24 (by decide) ?_
    refine m_copyi (ws' := [(h0, .inr (10, oX11 r0 I_0_imaged)), ((r0 0), .inr (8, oX9 r0_0 )), ((r0_0 0), .inl (cI, 5, .inl A_0_0_0_f)), ((r0_0 3), .inr (4, oX5 r0_0_3 I_0_0_3_size)), ((r0_0_3 0), .inl (cI, 8, .inl A_0_0_3_0_kinds)), ((r0_0_3 1), .inl (cI, 8, .inl A_0_0_3_1_amounts)), ((r0 10), .inl (cI, 5, .inl (va_cpy A_0_0_0_f A_0_10_changed ((0 : Int32)).toNatClampNeg ((0 : Int32)).toNatClampNeg ((5 : Int32)).toNatClampNeg)))]) C0 hM hl.1 kw_X11_ahead_4 kw_X11_ahead_5 kw_X11_ahead_6 kw_X11_ahead_7 2 6 rfl rfl (by decide) (Nat.le_of_ble_eq_true rfl) (Nat.le_of_ble_eq_true rfl) rfl dX11_ahead_25 (fun H locs hM => ?_)
    refine lv_aload_n hx hb dX11_ahead_28 rfl (lv_at hl 0 rfl) ?_
    refine m_get (C := RX11) (T := TX11) (N := 12) (ci := 10) (ref := "LoweredPowers") (v := .ref (r0 0)) C0 hM 0 rfl rfl kt_X11_ahead_X11 0 (by decide) kw_X11_ahead_1 rfl rfl dX11_ahead_29 ?_
    refine m_get (C := RX9) (T := TX9) (N := 4) (ci := 8) (ref := "LoweredPowers$State") (v := .ref (r0_0 3)) C0 hM 1 rfl rfl kt_X11_ahead_X9 3 (by decide) kw_X11_ahead_8 rfl rfl dX11_ahead_32 ?_
    refine lv_aload_n hx hb dX11_ahead_35 rfl (lv_at hl 0 rfl) ?_
    refine m_get (C := RX11) (T := TX11) (N := 12) (ci := 10) (ref := "LoweredPowers") (v := .ref (r0 10)) C0 hM 0 rfl rfl kt_X11_ahead_X11 10 (by decide) kw_X11_ahead_3 rfl rfl dX11_ahead_36 ?_
    refine m_callv (wc := [((r0_0 3), .inr (4, oX5 r0_0_3 I_0_0_3_size)), ((r0_0_3 0), .inl (cI, 8, .inl A_0_0_3_0_kinds)), ((r0_0_3 1), .inl (cI, 8, .inl A_0_0_3_1_amounts)), ((r0 10), .inl (cI, 5, .inl (va_cpy A_0_0_0_f A_0_10_changed ((0 : Int32)).toNatClampNeg ((0 : Int32)).toNatClampNeg ((5 : Int32)).toNatClampNeg)))]) C0 hM [3, 4, 5, 6] rfl (m_runV (wc := [((r0_0 3), .inr (4, oX5 r0_0_3 I_0_0_3_size)), ((r0_0_3 0), .inl (cI, 8, .inl A_0_0_3_0_kinds)), ((r0_0_3 1), .inl (cI, 8, .inl A_0_0_3_1_amounts)), ((r0 10), .inl (cI, 5, .inl (va_cpy A_0_0_0_f A_0_10_changed ((0 : Int32)).toNatClampNeg ((0 : Int32)).toNatClampNeg ((5 : Int32)).toNatClampNeg)))]) (As := [.ref (r0 10)]) (rest := []) (ci := 4) C0 hM (ct_X5_change l D cI cJ cZ (r0_0 3) (r0 10) r0_0_3 I_0_0_3_size A_0_0_3_0_kinds A_0_0_3_1_amounts (va_cpy A_0_0_0_f A_0_10_changed ((0 : Int32)).toNatClampNeg ((0 : Int32)).toNatClampNeg ((5 : Int32)).toNatClampNeg) _ _ h) [3, 4, 5, 6] rfl (by decide) gX11_ahead_X5_change rfl rfl rfl rfl rfl hd_X5_change ⟨Nat.le_of_ble_eq_true rfl, Nat.le_of_ble_eq_true rfl⟩ rfl hl.1 rfl (Nat.le_of_ble_eq_true rfl) dX11_ahead_39 ⟨Nat.le_of_ble_eq_true rfl, Nat.le_of_ble_eq_true rfl⟩) (fun u => [(h0, .inr (10, oX11 r0 I_0_imaged)), ((r0 0), .inr (8, oX9 r0_0 )), ((r0_0 0), .inl (cI, 5, .inl A_0_0_0_f)), ((r0_0 3), .inr (4, oX5 r0_0_3 I_0_0_3_size)), ((r0_0_3 0), .inl (cI, 8, .inl A_0_0_3_0_kinds)), ((r0_0_3 1), .inl (cI, 8, .inl A_0_0_3_1_amounts)), ((r0 10), .inl (cI, 5, .inl u))]) (fun _ => rfl) (fun _ => rfl) (fun b2 H locs h hM => ?_)
    refine lv_ldc (v := (100000 : Int32)) hx hb hown (C0.2.2.2.2.1 _ kw_X11_ahead_9) dX11_ahead_42 ?_
    refine lv_aload_n hx hb dX11_ahead_44 rfl (lv_at hl 0 rfl) ?_
    refine m_get (C := RX11) (T := TX11) (N := 12) (ci := 10) (ref := "LoweredPowers") (v := .ref (r0 10)) C0 hM 0 rfl rfl kt_X11_ahead_X11 10 (by decide) kw_X11_ahead_3 rfl rfl dX11_ahead_45 ?_
    refine lv_iload_n hx hb dX11_ahead_48 rfl (lv_at hl 1 rfl) ?_
    obtain ⟨hc3, h⟩ := h
    refine m_iald C0 hM 6 rfl hc3 dX11_ahead_49 ?_
    refine lv_iadd hx hb dX11_ahead_50 ?_
    subst hsz; subst hA; subst hQ
    exact m_iret C0 hr hM b2 h rfl dX11_ahead_51
  · have h := h.2 hq
    refine lv_iconst (v := (-1 : Int32)) hx hb dX11_ahead_9 (by decide) ?_
    subst hsz; subst hA; subst hQ
    exact m_iret C0 hr hM A_0_10_changed h rfl dX11_ahead_10
abbrev rm_X11_rack : Room := { frames := 1, cells := 0, slots := 0, locals := 24 }
set_option maxRecDepth 100000 in
set_option maxHeartbeats 4000000 in
theorem ct_X11_rack (l : Launch) (D : va_G) (cI cJ cZ : ClassId) (h0 : Nat) (r0 : Nat → Nat) (r0_7 : Nat → Nat) (I_0_imaged : Int32) (A_0_7_0_kinds : (Nat → Int32)) (A_0_7_1_sizes : (Nat → Int32)) (A_0_7_3_full : (Nat → Int32)) (x1 : Int32) (x2 : Int32) (x3 : Int32) (sz : Nat) (K : Int32 → (Nat → Int32) → (Nat → Int32) → (Nat → Int32) → Prop) (h : wp_X11_rack x1 x2 x3 A_0_7_0_kinds A_0_7_1_sizes A_0_7_3_full K) : Met l yX11_rack wsX11_rack rm_X11_rack (va_Pc [.ref h0, .int x1, .int x2, .int x3] (WX D cI cJ cZ [(h0, .inr (10, oX11 r0 I_0_imaged)), ((r0 7), .inr (5, oX6 r0_7 )), ((r0_7 0), .inl (cI, 3, .inl A_0_7_0_kinds)), ((r0_7 1), .inl (cI, 3, .inl A_0_7_1_sizes)), ((r0_7 3), .inl (cZ, 30, .inl A_0_7_3_full))] sz)) (va_Qi (fun (r : Int32) (u : (Nat → Int32) × (Nat → Int32) × (Nat → Int32)) => K r u.1 u.2.1 u.2.2) (fun (u : (Nat → Int32) × (Nat → Int32) × (Nat → Int32)) t => WY D (va_A [(h0, .inr (10, oX11 r0 I_0_imaged)), ((r0 7), .inr (5, oX6 r0_7 )), ((r0_7 0), .inl (cI, 3, .inl A_0_7_0_kinds)), ((r0_7 1), .inl (cI, 3, .inl A_0_7_1_sizes)), ((r0_7 3), .inl (cZ, 30, .inl A_0_7_3_full))] sz) [(h0, .inr (10, oX11 r0 I_0_imaged)), ((r0 7), .inr (5, oX6 r0_7 )), ((r0_7 0), .inl (cI, 3, .inl u.1)), ((r0_7 1), .inl (cI, 3, .inl u.2.1)), ((r0_7 3), .inl (cZ, 30, .inl u.2.2))] t) (va_A [(h0, .inr (10, oX11 r0 I_0_imaged)), ((r0 7), .inr (5, oX6 r0_7 )), ((r0_7 0), .inl (cI, 3, .inl A_0_7_0_kinds)), ((r0_7 1), .inl (cI, 3, .inl A_0_7_1_sizes)), ((r0_7 3), .inl (cZ, 30, .inl A_0_7_3_full))] sz)) 0 0 (va_A [(h0, .inr (10, oX11 r0 I_0_imaged)), ((r0 7), .inr (5, oX6 r0_7 )), ((r0_7 0), .inl (cI, 3, .inl A_0_7_0_kinds)), ((r0_7 1), .inl (cI, 3, .inl A_0_7_1_sizes)), ((r0_7 3), .inl (cZ, 30, .inl A_0_7_3_full))] sz) := by
  refine m_met (own := RX11) (cc := cX11_rack) (maxL := 4) (ret := some .int) [.ref h0, .int x1, .int x2, .int x3] [(0, .ref h0), (1, .int x1), (2, .int x2), (3, .int x3)] (by decide) rfl rfl (Nat.le_of_ble_eq_true rfl) rfl ?_
  intro p e s m args below meth c Q A hQ hA C0 hr hnm hsz hM ls hl
  have hx := C0.1
  have hb := C0.2.1
  have hown := C0.2.2.2.1
  unfold wp_X11_rack at h
  refine lv_iload_n hx hb dX11_rack_0 rfl (lv_at hl 1 rfl) ?_
  refine lv_iconst (v := (0 : Int32)) hx hb dX11_rack_1 (by decide) ?_
  refine lv_iconst (v := (2 : Int32)) hx hb dX11_rack_2 (by decide) ?_
  refine m_calli (wc := []) C0 hM [] rfl (m_runS (wc := []) (As := [.int x1, .int (0 : Int32), .int (2 : Int32)]) (rest := []) C0 hM (ct_X11_within l D cI cJ cZ x1 (0 : Int32) (2 : Int32) _ _ h) [] rfl (by decide) gX11_rack_X11_within rfl rfl rfl hd_X11_within ⟨Nat.le_of_ble_eq_true rfl, Nat.le_of_ble_eq_true rfl⟩ rfl hl.1 rfl (Nat.le_of_ble_eq_true rfl) dX11_rack_3 ⟨Nat.le_of_ble_eq_true rfl, Nat.le_of_ble_eq_true rfl⟩) (fun _ => [(h0, .inr (10, oX11 r0 I_0_imaged)), ((r0 7), .inr (5, oX6 r0_7 )), ((r0_7 0), .inl (cI, 3, .inl A_0_7_0_kinds)), ((r0_7 1), .inl (cI, 3, .inl A_0_7_1_sizes)), ((r0_7 3), .inl (cZ, 30, .inl A_0_7_3_full))]) (fun _ => rfl) (fun _ => rfl) (fun y1 _ H locs h hM => ?_)
  refine lv_if_eq (tgt := 18) hx hb dX11_rack_6 (by decide) (fun hq => ?_) (fun hq => ?_)
  · have h := h.1 hq
    refine lv_iconst (v := (-1 : Int32)) hx hb dX11_rack_18 (by decide) ?_
    subst hsz; subst hA; subst hQ
    exact m_iret C0 hr hM (A_0_7_0_kinds, A_0_7_1_sizes, A_0_7_3_full) h rfl dX11_rack_19
  · have h := h.2 hq
    refine lv_iload_n hx hb dX11_rack_9 rfl (lv_at hl 2 rfl) ?_
    refine lv_iconst (v := (-1 : Int32)) hx hb dX11_rack_10 (by decide) ?_
    refine lv_iconst (v := (2 : Int32)) hx hb dX11_rack_11 (by decide) ?_
    refine m_calli (wc := []) C0 hM [] rfl (m_runS (wc := []) (As := [.int x2, .int (-1 : Int32), .int (2 : Int32)]) (rest := []) C0 hM (ct_X11_within l D cI cJ cZ x2 (-1 : Int32) (2 : Int32) _ _ h) [] rfl (by decide) gX11_rack_X11_within rfl rfl rfl hd_X11_within ⟨Nat.le_of_ble_eq_true rfl, Nat.le_of_ble_eq_true rfl⟩ rfl hl.1 rfl (Nat.le_of_ble_eq_true rfl) dX11_rack_12 ⟨Nat.le_of_ble_eq_true rfl, Nat.le_of_ble_eq_true rfl⟩) (fun _ => [(h0, .inr (10, oX11 r0 I_0_imaged)), ((r0 7), .inr (5, oX6 r0_7 )), ((r0_7 0), .inl (cI, 3, .inl A_0_7_0_kinds)), ((r0_7 1), .inl (cI, 3, .inl A_0_7_1_sizes)), ((r0_7 3), .inl (cZ, 30, .inl A_0_7_3_full))]) (fun _ => rfl) (fun _ => rfl) (fun y2 _ H locs h hM => ?_)
    refine lv_if_ne (tgt := 20) hx hb dX11_rack_15 (by decide) (fun hq => ?_) (fun hq => ?_)
    · have h := h.1 hq
      refine lv_iload_n hx hb dX11_rack_20 rfl (lv_at hl 2 rfl) ?_
      refine lv_iconst (v := (-1 : Int32)) hx hb dX11_rack_21 (by decide) ?_
      refine lv_icmp_ne (tgt := 35) hx hb dX11_rack_22 (by decide) (fun hq => ?_) (fun hq => ?_)
      · have h := h.1 hq
        refine lv_iload_n hx hb dX11_rack_35 rfl (lv_at hl 3 rfl) ?_
        refine lv_bipush (v := (10 : Int32)) hx hb dX11_rack_36 (by decide) ?_
        refine lv_icmp_le (tgt := 44) hx hb dX11_rack_38 (by decide) (fun hq => ?_) (fun hq => ?_)
        · have h := h.1 hq
          refine lv_iload_n hx hb dX11_rack_44 rfl (lv_at hl 3 rfl) ?_
          refine lv_if_ge (tgt := 51) hx hb dX11_rack_45 (by decide) (fun hq => ?_) (fun hq => ?_)
          · have h := h.1 hq
            refine lv_aload_n hx hb dX11_rack_51 rfl (lv_at hl 0 rfl) ?_
            refine m_get (C := RX11) (T := TX11) (N := 12) (ci := 10) (ref := "LoweredPowers") (v := .ref (r0 7)) C0 hM 0 rfl rfl kt_X11_rack_X11 7 (by decide) kw_X11_rack_1 rfl rfl dX11_rack_52 ?_
            refine lv_iload_n hx hb dX11_rack_55 rfl (lv_at hl 1 rfl) ?_
            refine lv_iload_n hx hb dX11_rack_56 rfl (lv_at hl 2 rfl) ?_
            refine lv_iload_n hx hb dX11_rack_57 rfl (lv_at hl 3 rfl) ?_
            refine m_callv (wc := [((r0 7), .inr (5, oX6 r0_7 )), ((r0_7 0), .inl (cI, 3, .inl A_0_7_0_kinds)), ((r0_7 1), .inl (cI, 3, .inl A_0_7_1_sizes)), ((r0_7 3), .inl (cZ, 30, .inl A_0_7_3_full))]) C0 hM [1, 2, 3, 4] rfl (m_runV (wc := [((r0 7), .inr (5, oX6 r0_7 )), ((r0_7 0), .inl (cI, 3, .inl A_0_7_0_kinds)), ((r0_7 1), .inl (cI, 3, .inl A_0_7_1_sizes)), ((r0_7 3), .inl (cZ, 30, .inl A_0_7_3_full))]) (As := [.int x1, .int x2, .int x3]) (rest := []) (ci := 5) C0 hM (ct_X6_make l D cI cJ cZ (r0 7) r0_7 A_0_7_0_kinds A_0_7_1_sizes A_0_7_3_full x1 x2 x3 _ _ h) [1, 2, 3, 4] rfl (by decide) gX11_rack_X6_make rfl rfl rfl rfl rfl hd_X6_make ⟨Nat.le_of_ble_eq_true rfl, Nat.le_of_ble_eq_true rfl⟩ rfl hl.1 rfl (Nat.le_of_ble_eq_true rfl) dX11_rack_58 ⟨Nat.le_of_ble_eq_true rfl, Nat.le_of_ble_eq_true rfl⟩) (fun u => [(h0, .inr (10, oX11 r0 I_0_imaged)), ((r0 7), .inr (5, oX6 r0_7 )), ((r0_7 0), .inl (cI, 3, .inl u.1)), ((r0_7 1), .inl (cI, 3, .inl u.2.1)), ((r0_7 3), .inl (cZ, 30, .inl u.2.2))]) (fun _ => rfl) (fun _ => rfl) (fun u H locs h hM => ?_)
            obtain ⟨b3, b4, b5⟩ := u
            dsimp only at h
            have hM : MW D A s.heap [(h0, .inr (10, oX11 r0 I_0_imaged)), ((r0 7), .inr (5, oX6 r0_7 )), ((r0_7 0), .inl (cI, 3, .inl b3)), ((r0_7 1), .inl (cI, 3, .inl b4)), ((r0_7 3), .inl (cZ, 30, .inl b5))] H locs := hM
            refine lv_iconst (v := (1 : Int32)) hx hb dX11_rack_61 (by decide) ?_
            subst hsz; subst hA; subst hQ
            exact m_iret C0 hr hM (b3, b4, b5) h rfl dX11_rack_62
          · have h := h.2 hq
            refine lv_bipush (v := (-14 : Int32)) hx hb dX11_rack_48 (by decide) ?_
            subst hsz; subst hA; subst hQ
            exact m_iret C0 hr hM (A_0_7_0_kinds, A_0_7_1_sizes, A_0_7_3_full) h rfl dX11_rack_50
        · have h := h.2 hq
          refine lv_bipush (v := (-2 : Int32)) hx hb dX11_rack_41 (by decide) ?_
          subst hsz; subst hA; subst hQ
          exact m_iret C0 hr hM (A_0_7_0_kinds, A_0_7_1_sizes, A_0_7_3_full) h rfl dX11_rack_43
      · have h := h.2 hq
        refine lv_aload_n hx hb dX11_rack_25 rfl (lv_at hl 0 rfl) ?_
        refine m_get (C := RX11) (T := TX11) (N := 12) (ci := 10) (ref := "LoweredPowers") (v := .ref (r0 7)) C0 hM 0 rfl rfl kt_X11_rack_X11 7 (by decide) kw_X11_rack_1 rfl rfl dX11_rack_26 ?_
        refine lv_iload_n hx hb dX11_rack_29 rfl (lv_at hl 1 rfl) ?_
        refine m_callv (wc := [((r0 7), .inr (5, oX6 r0_7 )), ((r0_7 0), .inl (cI, 3, .inl A_0_7_0_kinds)), ((r0_7 1), .inl (cI, 3, .inl A_0_7_1_sizes))]) C0 hM [1, 2, 3] rfl (m_runV (wc := [((r0 7), .inr (5, oX6 r0_7 )), ((r0_7 0), .inl (cI, 3, .inl A_0_7_0_kinds)), ((r0_7 1), .inl (cI, 3, .inl A_0_7_1_sizes))]) (As := [.int x1]) (rest := []) (ci := 5) C0 hM (ct_X6_drop l D cI cJ cZ (r0 7) r0_7 A_0_7_0_kinds A_0_7_1_sizes x1 _ _ h) [1, 2, 3] rfl (by decide) gX11_rack_X6_drop rfl rfl rfl rfl rfl hd_X6_drop ⟨Nat.le_of_ble_eq_true rfl, Nat.le_of_ble_eq_true rfl⟩ rfl hl.1 rfl (Nat.le_of_ble_eq_true rfl) dX11_rack_30 ⟨Nat.le_of_ble_eq_true rfl, Nat.le_of_ble_eq_true rfl⟩) (fun u => [(h0, .inr (10, oX11 r0 I_0_imaged)), ((r0 7), .inr (5, oX6 r0_7 )), ((r0_7 0), .inl (cI, 3, .inl u.1)), ((r0_7 1), .inl (cI, 3, .inl u.2)), ((r0_7 3), .inl (cZ, 30, .inl A_0_7_3_full))]) (fun _ => rfl) (fun _ => rfl) (fun u H locs h hM => ?_)
        obtain ⟨b6, b7⟩ := u
        dsimp only at h
        have hM : MW D A s.heap [(h0, .inr (10, oX11 r0 I_0_imaged)), ((r0 7), .inr (5, oX6 r0_7 )), ((r0_7 0), .inl (cI, 3, .inl b6)), ((r0_7 1), .inl (cI, 3, .inl b7)), ((r0_7 3), .inl (cZ, 30, .inl A_0_7_3_full))] H locs := hM
        refine lv_iconst (v := (1 : Int32)) hx hb dX11_rack_33 (by decide) ?_
        subst hsz; subst hA; subst hQ
        exact m_iret C0 hr hM (b6, b7, A_0_7_3_full) h rfl dX11_rack_34
    · have h := h.2 hq
      refine lv_iconst (v := (-1 : Int32)) hx hb dX11_rack_18 (by decide) ?_
      subst hsz; subst hA; subst hQ
      exact m_iret C0 hr hM (A_0_7_0_kinds, A_0_7_1_sizes, A_0_7_3_full) h rfl dX11_rack_19
abbrev rm_X11_store : Room := { frames := 1, cells := 0, slots := 0, locals := 23 }
set_option maxRecDepth 100000 in
set_option maxHeartbeats 4000000 in
theorem ct_X11_store (l : Launch) (D : va_G) (cI cJ cZ : ClassId) (h0 : Nat) (r0 : Nat → Nat) (r0_7 : Nat → Nat) (I_0_imaged : Int32) (A_0_7_0_kinds : (Nat → Int32)) (A_0_7_1_sizes : (Nat → Int32)) (A_0_7_2_things : (Nat → Int32)) (A_0_7_3_full : (Nat → Int32)) (x1 : Int32) (x2 : Int32) (x3 : Int32) (x4 : Int32) (sz : Nat) (K : Int32 → (Nat → Int32) → (Nat → Int32) → Prop) (h : wp_X11_store x1 x2 x3 x4 A_0_7_0_kinds A_0_7_1_sizes A_0_7_2_things A_0_7_3_full K) : Met l yX11_store wsX11_store rm_X11_store (va_Pc [.ref h0, .int x1, .int x2, .int x3, .int x4] (WX D cI cJ cZ [(h0, .inr (10, oX11 r0 I_0_imaged)), ((r0 7), .inr (5, oX6 r0_7 )), ((r0_7 0), .inl (cI, 3, .inl A_0_7_0_kinds)), ((r0_7 1), .inl (cI, 3, .inl A_0_7_1_sizes)), ((r0_7 2), .inl (cI, 30, .inl A_0_7_2_things)), ((r0_7 3), .inl (cZ, 30, .inl A_0_7_3_full))] sz)) (va_Qi (fun (r : Int32) (u : (Nat → Int32) × (Nat → Int32)) => K r u.1 u.2) (fun (u : (Nat → Int32) × (Nat → Int32)) t => WY D (va_A [(h0, .inr (10, oX11 r0 I_0_imaged)), ((r0 7), .inr (5, oX6 r0_7 )), ((r0_7 0), .inl (cI, 3, .inl A_0_7_0_kinds)), ((r0_7 1), .inl (cI, 3, .inl A_0_7_1_sizes)), ((r0_7 2), .inl (cI, 30, .inl A_0_7_2_things)), ((r0_7 3), .inl (cZ, 30, .inl A_0_7_3_full))] sz) [(h0, .inr (10, oX11 r0 I_0_imaged)), ((r0 7), .inr (5, oX6 r0_7 )), ((r0_7 0), .inl (cI, 3, .inl A_0_7_0_kinds)), ((r0_7 1), .inl (cI, 3, .inl A_0_7_1_sizes)), ((r0_7 2), .inl (cI, 30, .inl u.1)), ((r0_7 3), .inl (cZ, 30, .inl u.2))] t) (va_A [(h0, .inr (10, oX11 r0 I_0_imaged)), ((r0 7), .inr (5, oX6 r0_7 )), ((r0_7 0), .inl (cI, 3, .inl A_0_7_0_kinds)), ((r0_7 1), .inl (cI, 3, .inl A_0_7_1_sizes)), ((r0_7 2), .inl (cI, 30, .inl A_0_7_2_things)), ((r0_7 3), .inl (cZ, 30, .inl A_0_7_3_full))] sz)) 0 0 (va_A [(h0, .inr (10, oX11 r0 I_0_imaged)), ((r0 7), .inr (5, oX6 r0_7 )), ((r0_7 0), .inl (cI, 3, .inl A_0_7_0_kinds)), ((r0_7 1), .inl (cI, 3, .inl A_0_7_1_sizes)), ((r0_7 2), .inl (cI, 30, .inl A_0_7_2_things)), ((r0_7 3), .inl (cZ, 30, .inl A_0_7_3_full))] sz) := by
  refine m_met (own := RX11) (cc := cX11_store) (maxL := 5) (ret := some .int) [.ref h0, .int x1, .int x2, .int x3, .int x4] [(0, .ref h0), (1, .int x1), (2, .int x2), (3, .int x3), (4, .int x4)] (by decide) rfl rfl (Nat.le_of_ble_eq_true rfl) rfl ?_
  intro p e s m args below meth c Q A hQ hA C0 hr hnm hsz hM ls hl
  have hx := C0.1
  have hb := C0.2.1
  have hown := C0.2.2.2.1
  unfold wp_X11_store at h
  refine lv_iload_n hx hb dX11_store_0 rfl (lv_at hl 1 rfl) ?_
  refine lv_iconst (v := (0 : Int32)) hx hb dX11_store_1 (by decide) ?_
  refine lv_iconst (v := (2 : Int32)) hx hb dX11_store_2 (by decide) ?_
  refine m_calli (wc := []) C0 hM [] rfl (m_runS (wc := []) (As := [.int x1, .int (0 : Int32), .int (2 : Int32)]) (rest := []) C0 hM (ct_X11_within l D cI cJ cZ x1 (0 : Int32) (2 : Int32) _ _ h) [] rfl (by decide) gX11_store_X11_within rfl rfl rfl hd_X11_within ⟨Nat.le_of_ble_eq_true rfl, Nat.le_of_ble_eq_true rfl⟩ rfl hl.1 rfl (Nat.le_of_ble_eq_true rfl) dX11_store_3 ⟨Nat.le_of_ble_eq_true rfl, Nat.le_of_ble_eq_true rfl⟩) (fun _ => [(h0, .inr (10, oX11 r0 I_0_imaged)), ((r0 7), .inr (5, oX6 r0_7 )), ((r0_7 0), .inl (cI, 3, .inl A_0_7_0_kinds)), ((r0_7 1), .inl (cI, 3, .inl A_0_7_1_sizes)), ((r0_7 2), .inl (cI, 30, .inl A_0_7_2_things)), ((r0_7 3), .inl (cZ, 30, .inl A_0_7_3_full))]) (fun _ => rfl) (fun _ => rfl) (fun y1 _ H locs h hM => ?_)
  refine lv_if_eq (tgt := 18) hx hb dX11_store_6 (by decide) (fun hq => ?_) (fun hq => ?_)
  · have h := h.1 hq
    refine lv_iconst (v := (-1 : Int32)) hx hb dX11_store_18 (by decide) ?_
    subst hsz; subst hA; subst hQ
    exact m_iret C0 hr hM (A_0_7_2_things, A_0_7_3_full) h rfl dX11_store_19
  · have h := h.2 hq
    refine lv_iload_n hx hb dX11_store_9 rfl (lv_at hl 3 rfl) ?_
    refine lv_iconst (v := (0 : Int32)) hx hb dX11_store_10 (by decide) ?_
    refine lv_iconst (v := (2 : Int32)) hx hb dX11_store_11 (by decide) ?_
    refine m_calli (wc := []) C0 hM [] rfl (m_runS (wc := []) (As := [.int x3, .int (0 : Int32), .int (2 : Int32)]) (rest := []) C0 hM (ct_X11_within l D cI cJ cZ x3 (0 : Int32) (2 : Int32) _ _ h) [] rfl (by decide) gX11_store_X11_within rfl rfl rfl hd_X11_within ⟨Nat.le_of_ble_eq_true rfl, Nat.le_of_ble_eq_true rfl⟩ rfl hl.1 rfl (Nat.le_of_ble_eq_true rfl) dX11_store_12 ⟨Nat.le_of_ble_eq_true rfl, Nat.le_of_ble_eq_true rfl⟩) (fun _ => [(h0, .inr (10, oX11 r0 I_0_imaged)), ((r0 7), .inr (5, oX6 r0_7 )), ((r0_7 0), .inl (cI, 3, .inl A_0_7_0_kinds)), ((r0_7 1), .inl (cI, 3, .inl A_0_7_1_sizes)), ((r0_7 2), .inl (cI, 30, .inl A_0_7_2_things)), ((r0_7 3), .inl (cZ, 30, .inl A_0_7_3_full))]) (fun _ => rfl) (fun _ => rfl) (fun y2 _ H locs h hM => ?_)
    refine lv_if_ne (tgt := 20) hx hb dX11_store_15 (by decide) (fun hq => ?_) (fun hq => ?_)
    · have h := h.1 hq
      refine lv_aload_n hx hb dX11_store_20 rfl (lv_at hl 0 rfl) ?_
      refine m_get (C := RX11) (T := TX11) (N := 12) (ci := 10) (ref := "LoweredPowers") (v := .ref (r0 7)) C0 hM 0 rfl rfl kt_X11_store_X11 7 (by decide) kw_X11_store_1 rfl rfl dX11_store_21 ?_
      refine m_get (C := RX6) (T := TX6) (N := 4) (ci := 5) (ref := "LoweredPowers$Racks") (v := .ref (r0_7 0)) C0 hM 1 rfl rfl kt_X11_store_X6 0 (by decide) kw_X11_store_2 rfl rfl dX11_store_24 ?_
      refine lv_iload_n hx hb dX11_store_27 rfl (lv_at hl 1 rfl) ?_
      obtain ⟨hc3, h⟩ := h
      refine m_iald C0 hM 2 rfl hc3 dX11_store_28 ?_
      refine lv_iconst (v := (-1 : Int32)) hx hb dX11_store_29 (by decide) ?_
      refine lv_icmp_ne (tgt := 36) hx hb dX11_store_30 (by decide) (fun hq => ?_) (fun hq => ?_)
      · have h := h.1 hq
        refine lv_iload_n hx hb dX11_store_36 rfl (lv_at hl 2 rfl) ?_
        refine lv_iconst (v := (0 : Int32)) hx hb dX11_store_37 (by decide) ?_
        refine lv_aload_n hx hb dX11_store_38 rfl (lv_at hl 0 rfl) ?_
        refine m_get (C := RX11) (T := TX11) (N := 12) (ci := 10) (ref := "LoweredPowers") (v := .ref (r0 7)) C0 hM 0 rfl rfl kt_X11_store_X11 7 (by decide) kw_X11_store_1 rfl rfl dX11_store_39 ?_
        refine m_get (C := RX6) (T := TX6) (N := 4) (ci := 5) (ref := "LoweredPowers$Racks") (v := .ref (r0_7 1)) C0 hM 1 rfl rfl kt_X11_store_X6 1 (by decide) kw_X11_store_3 rfl rfl dX11_store_42 ?_
        refine lv_iload_n hx hb dX11_store_45 rfl (lv_at hl 1 rfl) ?_
        refine m_iald C0 hM 3 rfl hc3 dX11_store_46 ?_
        refine lv_iconst (v := (1 : Int32)) hx hb dX11_store_47 (by decide) ?_
        refine lv_isub hx hb dX11_store_48 ?_
        refine m_calli (wc := []) C0 hM [] rfl (m_runS (wc := []) (As := [.int x2, .int (0 : Int32), .int ((A_0_7_1_sizes (x1).toNatClampNeg) - (1 : Int32))]) (rest := []) C0 hM (ct_X11_within l D cI cJ cZ x2 (0 : Int32) ((A_0_7_1_sizes (x1).toNatClampNeg) - (1 : Int32)) _ _ h) [] rfl (by decide) gX11_store_X11_within rfl rfl rfl hd_X11_within ⟨Nat.le_of_ble_eq_true rfl, Nat.le_of_ble_eq_true rfl⟩ rfl hl.1 rfl (Nat.le_of_ble_eq_true rfl) dX11_store_49 ⟨Nat.le_of_ble_eq_true rfl, Nat.le_of_ble_eq_true rfl⟩) (fun _ => [(h0, .inr (10, oX11 r0 I_0_imaged)), ((r0 7), .inr (5, oX6 r0_7 )), ((r0_7 0), .inl (cI, 3, .inl A_0_7_0_kinds)), ((r0_7 1), .inl (cI, 3, .inl A_0_7_1_sizes)), ((r0_7 2), .inl (cI, 30, .inl A_0_7_2_things)), ((r0_7 3), .inl (cZ, 30, .inl A_0_7_3_full))]) (fun _ => rfl) (fun _ => rfl) (fun y4 _ H locs h hM => ?_)
        refine lv_if_ne (tgt := 58) hx hb dX11_store_52 (by decide) (fun hq => ?_) (fun hq => ?_)
        · have h := h.1 hq
          refine lv_aload_n hx hb dX11_store_58 rfl (lv_at hl 0 rfl) ?_
          refine m_get (C := RX11) (T := TX11) (N := 12) (ci := 10) (ref := "LoweredPowers") (v := .ref (r0 7)) C0 hM 0 rfl rfl kt_X11_store_X11 7 (by decide) kw_X11_store_1 rfl rfl dX11_store_59 ?_
          refine m_get (C := RX6) (T := TX6) (N := 4) (ci := 5) (ref := "LoweredPowers$Racks") (v := .ref (r0_7 0)) C0 hM 1 rfl rfl kt_X11_store_X6 0 (by decide) kw_X11_store_2 rfl rfl dX11_store_62 ?_
          refine lv_iload_n hx hb dX11_store_65 rfl (lv_at hl 1 rfl) ?_
          refine m_iald C0 hM 2 rfl hc3 dX11_store_66 ?_
          refine lv_iload_n hx hb dX11_store_67 rfl (lv_at hl 3 rfl) ?_
          refine lv_icmp_eq (tgt := 74) hx hb dX11_store_68 (by decide) (fun hq => ?_) (fun hq => ?_)
          · have h := h.1 hq
            refine lv_aload_n hx hb dX11_store_74 rfl (lv_at hl 0 rfl) ?_
            refine m_get (C := RX11) (T := TX11) (N := 12) (ci := 10) (ref := "LoweredPowers") (v := .ref (r0 7)) C0 hM 0 rfl rfl kt_X11_store_X11 7 (by decide) kw_X11_store_1 rfl rfl dX11_store_75 ?_
            refine lv_iload_n hx hb dX11_store_78 rfl (lv_at hl 1 rfl) ?_
            refine lv_iload_n hx hb dX11_store_79 rfl (lv_at hl 2 rfl) ?_
            refine lv_iload hx hb dX11_store_80 (lv_at hl 4 rfl) ?_
            refine m_callv (wc := [((r0 7), .inr (5, oX6 r0_7 )), ((r0_7 2), .inl (cI, 30, .inl A_0_7_2_things)), ((r0_7 3), .inl (cZ, 30, .inl A_0_7_3_full))]) C0 hM [1, 4, 5] rfl (m_runV (wc := [((r0 7), .inr (5, oX6 r0_7 )), ((r0_7 2), .inl (cI, 30, .inl A_0_7_2_things)), ((r0_7 3), .inl (cZ, 30, .inl A_0_7_3_full))]) (As := [.int x1, .int x2, .int x4]) (rest := []) (ci := 5) C0 hM (ct_X6_bring l D cI cJ cZ (r0 7) r0_7 A_0_7_2_things A_0_7_3_full x1 x2 x4 _ _ h) [1, 4, 5] rfl (by decide) gX11_store_X6_bring rfl rfl rfl rfl rfl hd_X6_bring ⟨Nat.le_of_ble_eq_true rfl, Nat.le_of_ble_eq_true rfl⟩ rfl hl.1 rfl (Nat.le_of_ble_eq_true rfl) dX11_store_82 ⟨Nat.le_of_ble_eq_true rfl, Nat.le_of_ble_eq_true rfl⟩) (fun u => [(h0, .inr (10, oX11 r0 I_0_imaged)), ((r0 7), .inr (5, oX6 r0_7 )), ((r0_7 0), .inl (cI, 3, .inl A_0_7_0_kinds)), ((r0_7 1), .inl (cI, 3, .inl A_0_7_1_sizes)), ((r0_7 2), .inl (cI, 30, .inl u.1)), ((r0_7 3), .inl (cZ, 30, .inl u.2))]) (fun _ => rfl) (fun _ => rfl) (fun u H locs h hM => ?_)
            obtain ⟨b5, b6⟩ := u
            dsimp only at h
            have hM : MW D A s.heap [(h0, .inr (10, oX11 r0 I_0_imaged)), ((r0 7), .inr (5, oX6 r0_7 )), ((r0_7 0), .inl (cI, 3, .inl A_0_7_0_kinds)), ((r0_7 1), .inl (cI, 3, .inl A_0_7_1_sizes)), ((r0_7 2), .inl (cI, 30, .inl b5)), ((r0_7 3), .inl (cZ, 30, .inl b6))] H locs := hM
            refine lv_iconst (v := (1 : Int32)) hx hb dX11_store_85 (by decide) ?_
            subst hsz; subst hA; subst hQ
            exact m_iret C0 hr hM (b5, b6) h rfl dX11_store_86
          · have h := h.2 hq
            refine lv_bipush (v := (-12 : Int32)) hx hb dX11_store_71 (by decide) ?_
            subst hsz; subst hA; subst hQ
            exact m_iret C0 hr hM (A_0_7_2_things, A_0_7_3_full) h rfl dX11_store_73
        · have h := h.2 hq
          refine lv_bipush (v := (-13 : Int32)) hx hb dX11_store_55 (by decide) ?_
          subst hsz; subst hA; subst hQ
          exact m_iret C0 hr hM (A_0_7_2_things, A_0_7_3_full) h rfl dX11_store_57
      · have h := h.2 hq
        refine lv_bipush (v := (-11 : Int32)) hx hb dX11_store_33 (by decide) ?_
        subst hsz; subst hA; subst hQ
        exact m_iret C0 hr hM (A_0_7_2_things, A_0_7_3_full) h rfl dX11_store_35
    · have h := h.2 hq
      refine lv_iconst (v := (-1 : Int32)) hx hb dX11_store_18 (by decide) ?_
      subst hsz; subst hA; subst hQ
      exact m_iret C0 hr hM (A_0_7_2_things, A_0_7_3_full) h rfl dX11_store_19
abbrev rm_X11_thing : Room := { frames := 1, cells := 0, slots := 0, locals := 22 }
set_option maxRecDepth 100000 in
set_option maxHeartbeats 4000000 in
theorem ct_X11_thing (l : Launch) (D : va_G) (cI cJ cZ : ClassId) (h0 : Nat) (r0 : Nat → Nat) (r0_7 : Nat → Nat) (I_0_imaged : Int32) (A_0_7_0_kinds : (Nat → Int32)) (A_0_7_1_sizes : (Nat → Int32)) (A_0_7_2_things : (Nat → Int32)) (A_0_7_3_full : (Nat → Int32)) (x1 : Int32) (x2 : Int32) (sz : Nat) (K : Int64 → Prop) (h : wp_X11_thing x1 x2 A_0_7_0_kinds A_0_7_1_sizes A_0_7_2_things A_0_7_3_full K) : Met l yX11_thing wsX11_thing rm_X11_thing (va_Pc [.ref h0, .int x1, .int x2] (WX D cI cJ cZ [(h0, .inr (10, oX11 r0 I_0_imaged)), ((r0 7), .inr (5, oX6 r0_7 )), ((r0_7 0), .inl (cI, 3, .inl A_0_7_0_kinds)), ((r0_7 1), .inl (cI, 3, .inl A_0_7_1_sizes)), ((r0_7 2), .inl (cI, 30, .inl A_0_7_2_things)), ((r0_7 3), .inl (cZ, 30, .inl A_0_7_3_full))] sz)) (va_Ql (fun (r : Int64) (_ : Unit) => K r ) (fun (_ : Unit) t => WY D (va_A [(h0, .inr (10, oX11 r0 I_0_imaged)), ((r0 7), .inr (5, oX6 r0_7 )), ((r0_7 0), .inl (cI, 3, .inl A_0_7_0_kinds)), ((r0_7 1), .inl (cI, 3, .inl A_0_7_1_sizes)), ((r0_7 2), .inl (cI, 30, .inl A_0_7_2_things)), ((r0_7 3), .inl (cZ, 30, .inl A_0_7_3_full))] sz) [(h0, .inr (10, oX11 r0 I_0_imaged)), ((r0 7), .inr (5, oX6 r0_7 )), ((r0_7 0), .inl (cI, 3, .inl A_0_7_0_kinds)), ((r0_7 1), .inl (cI, 3, .inl A_0_7_1_sizes)), ((r0_7 2), .inl (cI, 30, .inl A_0_7_2_things)), ((r0_7 3), .inl (cZ, 30, .inl A_0_7_3_full))] t) (va_A [(h0, .inr (10, oX11 r0 I_0_imaged)), ((r0 7), .inr (5, oX6 r0_7 )), ((r0_7 0), .inl (cI, 3, .inl A_0_7_0_kinds)), ((r0_7 1), .inl (cI, 3, .inl A_0_7_1_sizes)), ((r0_7 2), .inl (cI, 30, .inl A_0_7_2_things)), ((r0_7 3), .inl (cZ, 30, .inl A_0_7_3_full))] sz)) 0 0 (va_A [(h0, .inr (10, oX11 r0 I_0_imaged)), ((r0 7), .inr (5, oX6 r0_7 )), ((r0_7 0), .inl (cI, 3, .inl A_0_7_0_kinds)), ((r0_7 1), .inl (cI, 3, .inl A_0_7_1_sizes)), ((r0_7 2), .inl (cI, 30, .inl A_0_7_2_things)), ((r0_7 3), .inl (cZ, 30, .inl A_0_7_3_full))] sz) := by
  refine m_met (own := RX11) (cc := cX11_thing) (maxL := 3) (ret := some .long) [.ref h0, .int x1, .int x2] [(0, .ref h0), (1, .int x1), (2, .int x2)] (by decide) rfl rfl (Nat.le_of_ble_eq_true rfl) rfl ?_
  intro p e s m args below meth c Q A hQ hA C0 hr hnm hsz hM ls hl
  have hx := C0.1
  have hb := C0.2.1
  have hown := C0.2.2.2.1
  unfold wp_X11_thing at h
  refine lv_iload_n hx hb dX11_thing_0 rfl (lv_at hl 1 rfl) ?_
  refine lv_iconst (v := (0 : Int32)) hx hb dX11_thing_1 (by decide) ?_
  refine lv_iconst (v := (2 : Int32)) hx hb dX11_thing_2 (by decide) ?_
  refine m_calli (wc := []) C0 hM [] rfl (m_runS (wc := []) (As := [.int x1, .int (0 : Int32), .int (2 : Int32)]) (rest := []) C0 hM (ct_X11_within l D cI cJ cZ x1 (0 : Int32) (2 : Int32) _ _ h) [] rfl (by decide) gX11_thing_X11_within rfl rfl rfl hd_X11_within ⟨Nat.le_of_ble_eq_true rfl, Nat.le_of_ble_eq_true rfl⟩ rfl hl.1 rfl (Nat.le_of_ble_eq_true rfl) dX11_thing_3 ⟨Nat.le_of_ble_eq_true rfl, Nat.le_of_ble_eq_true rfl⟩) (fun _ => [(h0, .inr (10, oX11 r0 I_0_imaged)), ((r0 7), .inr (5, oX6 r0_7 )), ((r0_7 0), .inl (cI, 3, .inl A_0_7_0_kinds)), ((r0_7 1), .inl (cI, 3, .inl A_0_7_1_sizes)), ((r0_7 2), .inl (cI, 30, .inl A_0_7_2_things)), ((r0_7 3), .inl (cZ, 30, .inl A_0_7_3_full))]) (fun _ => rfl) (fun _ => rfl) (fun y1 _ H locs h hM => ?_)
  refine lv_if_eq (tgt := 22) hx hb dX11_thing_6 (by decide) (fun hq => ?_) (fun hq => ?_)
  · have h := h.1 hq
    refine lv_ldc2 (v := (-9223372036854775808 : Int64)) hx hb hown (C0.2.2.2.2.1 _ kw_X11_thing_3) dX11_thing_22 ?_
    subst hsz; subst hA; subst hQ
    exact m_lret C0 hr hM () h rfl dX11_thing_25
  · have h := h.2 hq
    refine lv_aload_n hx hb dX11_thing_9 rfl (lv_at hl 0 rfl) ?_
    refine m_get (C := RX11) (T := TX11) (N := 12) (ci := 10) (ref := "LoweredPowers") (v := .ref (r0 7)) C0 hM 0 rfl rfl kt_X11_thing_X11 7 (by decide) kw_X11_thing_1 rfl rfl dX11_thing_10 ?_
    refine m_get (C := RX6) (T := TX6) (N := 4) (ci := 5) (ref := "LoweredPowers$Racks") (v := .ref (r0_7 0)) C0 hM 1 rfl rfl kt_X11_thing_X6 0 (by decide) kw_X11_thing_2 rfl rfl dX11_thing_13 ?_
    refine lv_iload_n hx hb dX11_thing_16 rfl (lv_at hl 1 rfl) ?_
    obtain ⟨hc2, h⟩ := h
    refine m_iald C0 hM 2 rfl hc2 dX11_thing_17 ?_
    refine lv_iconst (v := (-1 : Int32)) hx hb dX11_thing_18 (by decide) ?_
    refine lv_icmp_ne (tgt := 26) hx hb dX11_thing_19 (by decide) (fun hq => ?_) (fun hq => ?_)
    · have h := h.1 hq
      refine lv_iload_n hx hb dX11_thing_26 rfl (lv_at hl 2 rfl) ?_
      refine lv_iconst (v := (0 : Int32)) hx hb dX11_thing_27 (by decide) ?_
      refine lv_aload_n hx hb dX11_thing_28 rfl (lv_at hl 0 rfl) ?_
      refine m_get (C := RX11) (T := TX11) (N := 12) (ci := 10) (ref := "LoweredPowers") (v := .ref (r0 7)) C0 hM 0 rfl rfl kt_X11_thing_X11 7 (by decide) kw_X11_thing_1 rfl rfl dX11_thing_29 ?_
      refine m_get (C := RX6) (T := TX6) (N := 4) (ci := 5) (ref := "LoweredPowers$Racks") (v := .ref (r0_7 1)) C0 hM 1 rfl rfl kt_X11_thing_X6 1 (by decide) kw_X11_thing_4 rfl rfl dX11_thing_32 ?_
      refine lv_iload_n hx hb dX11_thing_35 rfl (lv_at hl 1 rfl) ?_
      refine m_iald C0 hM 3 rfl hc2 dX11_thing_36 ?_
      refine lv_iconst (v := (1 : Int32)) hx hb dX11_thing_37 (by decide) ?_
      refine lv_isub hx hb dX11_thing_38 ?_
      refine m_calli (wc := []) C0 hM [] rfl (m_runS (wc := []) (As := [.int x2, .int (0 : Int32), .int ((A_0_7_1_sizes (x1).toNatClampNeg) - (1 : Int32))]) (rest := []) C0 hM (ct_X11_within l D cI cJ cZ x2 (0 : Int32) ((A_0_7_1_sizes (x1).toNatClampNeg) - (1 : Int32)) _ _ h) [] rfl (by decide) gX11_thing_X11_within rfl rfl rfl hd_X11_within ⟨Nat.le_of_ble_eq_true rfl, Nat.le_of_ble_eq_true rfl⟩ rfl hl.1 rfl (Nat.le_of_ble_eq_true rfl) dX11_thing_39 ⟨Nat.le_of_ble_eq_true rfl, Nat.le_of_ble_eq_true rfl⟩) (fun _ => [(h0, .inr (10, oX11 r0 I_0_imaged)), ((r0 7), .inr (5, oX6 r0_7 )), ((r0_7 0), .inl (cI, 3, .inl A_0_7_0_kinds)), ((r0_7 1), .inl (cI, 3, .inl A_0_7_1_sizes)), ((r0_7 2), .inl (cI, 30, .inl A_0_7_2_things)), ((r0_7 3), .inl (cZ, 30, .inl A_0_7_3_full))]) (fun _ => rfl) (fun _ => rfl) (fun y3 _ H locs h hM => ?_)
      refine lv_if_eq (tgt := 57) hx hb dX11_thing_42 (by decide) (fun hq => ?_) (fun hq => ?_)
      · have h := h.1 hq
        refine lv_ldc2 (v := (-9223372036854775808 : Int64)) hx hb hown (C0.2.2.2.2.1 _ kw_X11_thing_3) dX11_thing_57 ?_
        subst hsz; subst hA; subst hQ
        exact m_lret C0 hr hM () h rfl dX11_thing_60
      · have h := h.2 hq
        refine lv_aload_n hx hb dX11_thing_45 rfl (lv_at hl 0 rfl) ?_
        refine m_get (C := RX11) (T := TX11) (N := 12) (ci := 10) (ref := "LoweredPowers") (v := .ref (r0 7)) C0 hM 0 rfl rfl kt_X11_thing_X11 7 (by decide) kw_X11_thing_1 rfl rfl dX11_thing_46 ?_
        refine lv_iload_n hx hb dX11_thing_49 rfl (lv_at hl 1 rfl) ?_
        refine lv_iload_n hx hb dX11_thing_50 rfl (lv_at hl 2 rfl) ?_
        refine m_calli (wc := [((r0 7), .inr (5, oX6 r0_7 )), ((r0_7 3), .inl (cZ, 30, .inl A_0_7_3_full))]) C0 hM [1, 5] rfl (m_runV (wc := [((r0 7), .inr (5, oX6 r0_7 )), ((r0_7 3), .inl (cZ, 30, .inl A_0_7_3_full))]) (As := [.int x1, .int x2]) (rest := []) (ci := 5) C0 hM (ct_X6_holdsAt l D cI cJ cZ (r0 7) r0_7 A_0_7_3_full x1 x2 _ _ h) [1, 5] rfl (by decide) gX11_thing_X6_holdsAt rfl rfl rfl rfl rfl hd_X6_holdsAt ⟨Nat.le_of_ble_eq_true rfl, Nat.le_of_ble_eq_true rfl⟩ rfl hl.1 rfl (Nat.le_of_ble_eq_true rfl) dX11_thing_51 ⟨Nat.le_of_ble_eq_true rfl, Nat.le_of_ble_eq_true rfl⟩) (fun _ => [(h0, .inr (10, oX11 r0 I_0_imaged)), ((r0 7), .inr (5, oX6 r0_7 )), ((r0_7 0), .inl (cI, 3, .inl A_0_7_0_kinds)), ((r0_7 1), .inl (cI, 3, .inl A_0_7_1_sizes)), ((r0_7 2), .inl (cI, 30, .inl A_0_7_2_things)), ((r0_7 3), .inl (cZ, 30, .inl A_0_7_3_full))]) (fun _ => rfl) (fun _ => rfl) (fun y4 _ H locs h hM => ?_)
        refine lv_if_ne (tgt := 61) hx hb dX11_thing_54 (by decide) (fun hq => ?_) (fun hq => ?_)
        · have h := h.1 hq
          refine lv_aload_n hx hb dX11_thing_61 rfl (lv_at hl 0 rfl) ?_
          refine m_get (C := RX11) (T := TX11) (N := 12) (ci := 10) (ref := "LoweredPowers") (v := .ref (r0 7)) C0 hM 0 rfl rfl kt_X11_thing_X11 7 (by decide) kw_X11_thing_1 rfl rfl dX11_thing_62 ?_
          refine lv_iload_n hx hb dX11_thing_65 rfl (lv_at hl 1 rfl) ?_
          refine lv_iload_n hx hb dX11_thing_66 rfl (lv_at hl 2 rfl) ?_
          refine m_calli (wc := [((r0 7), .inr (5, oX6 r0_7 )), ((r0_7 2), .inl (cI, 30, .inl A_0_7_2_things))]) C0 hM [1, 4] rfl (m_runV (wc := [((r0 7), .inr (5, oX6 r0_7 )), ((r0_7 2), .inl (cI, 30, .inl A_0_7_2_things))]) (As := [.int x1, .int x2]) (rest := []) (ci := 5) C0 hM (ct_X6_numberAt l D cI cJ cZ (r0 7) r0_7 A_0_7_2_things x1 x2 _ _ h) [1, 4] rfl (by decide) gX11_thing_X6_numberAt rfl rfl rfl rfl rfl hd_X6_numberAt ⟨Nat.le_of_ble_eq_true rfl, Nat.le_of_ble_eq_true rfl⟩ rfl hl.1 rfl (Nat.le_of_ble_eq_true rfl) dX11_thing_67 ⟨Nat.le_of_ble_eq_true rfl, Nat.le_of_ble_eq_true rfl⟩) (fun _ => [(h0, .inr (10, oX11 r0 I_0_imaged)), ((r0 7), .inr (5, oX6 r0_7 )), ((r0_7 0), .inl (cI, 3, .inl A_0_7_0_kinds)), ((r0_7 1), .inl (cI, 3, .inl A_0_7_1_sizes)), ((r0_7 2), .inl (cI, 30, .inl A_0_7_2_things)), ((r0_7 3), .inl (cZ, 30, .inl A_0_7_3_full))]) (fun _ => rfl) (fun _ => rfl) (fun y5 _ H locs h hM => ?_)
          refine lv_i2l hx hb dX11_thing_70 rfl ?_
          subst hsz; subst hA; subst hQ
          exact m_lret C0 hr hM () h rfl dX11_thing_71
        · have h := h.2 hq
          refine lv_ldc2 (v := (-9223372036854775808 : Int64)) hx hb hown (C0.2.2.2.2.1 _ kw_X11_thing_3) dX11_thing_57 ?_
          subst hsz; subst hA; subst hQ
          exact m_lret C0 hr hM () h rfl dX11_thing_60
    · have h := h.2 hq
      refine lv_ldc2 (v := (-9223372036854775808 : Int64)) hx hb hown (C0.2.2.2.2.1 _ kw_X11_thing_3) dX11_thing_22 ?_
      subst hsz; subst hA; subst hQ
      exact m_lret C0 hr hM () h rfl dX11_thing_25
abbrev rm_X11_copied : Room := { frames := 1, cells := 0, slots := 0, locals := 23 }
set_option maxRecDepth 100000 in
set_option maxHeartbeats 4000000 in
theorem ct_X11_copied (l : Launch) (D : va_G) (cI cJ cZ : ClassId) (h0 : Nat) (r0 : Nat → Nat) (r0_7 : Nat → Nat) (I_0_imaged : Int32) (A_0_7_0_kinds : (Nat → Int32)) (A_0_7_1_sizes : (Nat → Int32)) (A_0_7_2_things : (Nat → Int32)) (A_0_7_3_full : (Nat → Int32)) (x1 : Int32) (x2 : Int32) (sz : Nat) (K : Int32 → (Nat → Int32) → (Nat → Int32) → (Nat → Int32) → (Nat → Int32) → Prop) (h : wp_X11_copied x1 x2 A_0_7_0_kinds A_0_7_1_sizes A_0_7_2_things A_0_7_3_full K) : Met l yX11_copied wsX11_copied rm_X11_copied (va_Pc [.ref h0, .int x1, .int x2] (WX D cI cJ cZ [(h0, .inr (10, oX11 r0 I_0_imaged)), ((r0 7), .inr (5, oX6 r0_7 )), ((r0_7 0), .inl (cI, 3, .inl A_0_7_0_kinds)), ((r0_7 1), .inl (cI, 3, .inl A_0_7_1_sizes)), ((r0_7 2), .inl (cI, 30, .inl A_0_7_2_things)), ((r0_7 3), .inl (cZ, 30, .inl A_0_7_3_full))] sz)) (va_Qi (fun (r : Int32) (u : (Nat → Int32) × (Nat → Int32) × (Nat → Int32) × (Nat → Int32)) => K r u.1 u.2.1 u.2.2.1 u.2.2.2) (fun (u : (Nat → Int32) × (Nat → Int32) × (Nat → Int32) × (Nat → Int32)) t => WY D (va_A [(h0, .inr (10, oX11 r0 I_0_imaged)), ((r0 7), .inr (5, oX6 r0_7 )), ((r0_7 0), .inl (cI, 3, .inl A_0_7_0_kinds)), ((r0_7 1), .inl (cI, 3, .inl A_0_7_1_sizes)), ((r0_7 2), .inl (cI, 30, .inl A_0_7_2_things)), ((r0_7 3), .inl (cZ, 30, .inl A_0_7_3_full))] sz) [(h0, .inr (10, oX11 r0 I_0_imaged)), ((r0 7), .inr (5, oX6 r0_7 )), ((r0_7 0), .inl (cI, 3, .inl u.1)), ((r0_7 1), .inl (cI, 3, .inl u.2.1)), ((r0_7 2), .inl (cI, 30, .inl u.2.2.1)), ((r0_7 3), .inl (cZ, 30, .inl u.2.2.2))] t) (va_A [(h0, .inr (10, oX11 r0 I_0_imaged)), ((r0 7), .inr (5, oX6 r0_7 )), ((r0_7 0), .inl (cI, 3, .inl A_0_7_0_kinds)), ((r0_7 1), .inl (cI, 3, .inl A_0_7_1_sizes)), ((r0_7 2), .inl (cI, 30, .inl A_0_7_2_things)), ((r0_7 3), .inl (cZ, 30, .inl A_0_7_3_full))] sz)) 0 0 (va_A [(h0, .inr (10, oX11 r0 I_0_imaged)), ((r0 7), .inr (5, oX6 r0_7 )), ((r0_7 0), .inl (cI, 3, .inl A_0_7_0_kinds)), ((r0_7 1), .inl (cI, 3, .inl A_0_7_1_sizes)), ((r0_7 2), .inl (cI, 30, .inl A_0_7_2_things)), ((r0_7 3), .inl (cZ, 30, .inl A_0_7_3_full))] sz) := by
  refine m_met (own := RX11) (cc := cX11_copied) (maxL := 3) (ret := some .int) [.ref h0, .int x1, .int x2] [(0, .ref h0), (1, .int x1), (2, .int x2)] (by decide) rfl rfl (Nat.le_of_ble_eq_true rfl) rfl ?_
  intro p e s m args below meth c Q A hQ hA C0 hr hnm hsz hM ls hl
  have hx := C0.1
  have hb := C0.2.1
  have hown := C0.2.2.2.1
  unfold wp_X11_copied at h
  refine lv_iload_n hx hb dX11_copied_0 rfl (lv_at hl 1 rfl) ?_
  refine lv_iconst (v := (0 : Int32)) hx hb dX11_copied_1 (by decide) ?_
  refine lv_iconst (v := (2 : Int32)) hx hb dX11_copied_2 (by decide) ?_
  refine m_calli (wc := []) C0 hM [] rfl (m_runS (wc := []) (As := [.int x1, .int (0 : Int32), .int (2 : Int32)]) (rest := []) C0 hM (ct_X11_within l D cI cJ cZ x1 (0 : Int32) (2 : Int32) _ _ h) [] rfl (by decide) gX11_copied_X11_within rfl rfl rfl hd_X11_within ⟨Nat.le_of_ble_eq_true rfl, Nat.le_of_ble_eq_true rfl⟩ rfl hl.1 rfl (Nat.le_of_ble_eq_true rfl) dX11_copied_3 ⟨Nat.le_of_ble_eq_true rfl, Nat.le_of_ble_eq_true rfl⟩) (fun _ => [(h0, .inr (10, oX11 r0 I_0_imaged)), ((r0 7), .inr (5, oX6 r0_7 )), ((r0_7 0), .inl (cI, 3, .inl A_0_7_0_kinds)), ((r0_7 1), .inl (cI, 3, .inl A_0_7_1_sizes)), ((r0_7 2), .inl (cI, 30, .inl A_0_7_2_things)), ((r0_7 3), .inl (cZ, 30, .inl A_0_7_3_full))]) (fun _ => rfl) (fun _ => rfl) (fun y1 _ H locs h hM => ?_)
  refine lv_if_eq (tgt := 18) hx hb dX11_copied_6 (by decide) (fun hq => ?_) (fun hq => ?_)
  · have h := h.1 hq
    refine lv_iconst (v := (-1 : Int32)) hx hb dX11_copied_18 (by decide) ?_
    subst hsz; subst hA; subst hQ
    exact m_iret C0 hr hM (A_0_7_0_kinds, A_0_7_1_sizes, A_0_7_2_things, A_0_7_3_full) h rfl dX11_copied_19
  · have h := h.2 hq
    refine lv_iload_n hx hb dX11_copied_9 rfl (lv_at hl 2 rfl) ?_
    refine lv_iconst (v := (0 : Int32)) hx hb dX11_copied_10 (by decide) ?_
    refine lv_iconst (v := (2 : Int32)) hx hb dX11_copied_11 (by decide) ?_
    refine m_calli (wc := []) C0 hM [] rfl (m_runS (wc := []) (As := [.int x2, .int (0 : Int32), .int (2 : Int32)]) (rest := []) C0 hM (ct_X11_within l D cI cJ cZ x2 (0 : Int32) (2 : Int32) _ _ h) [] rfl (by decide) gX11_copied_X11_within rfl rfl rfl hd_X11_within ⟨Nat.le_of_ble_eq_true rfl, Nat.le_of_ble_eq_true rfl⟩ rfl hl.1 rfl (Nat.le_of_ble_eq_true rfl) dX11_copied_12 ⟨Nat.le_of_ble_eq_true rfl, Nat.le_of_ble_eq_true rfl⟩) (fun _ => [(h0, .inr (10, oX11 r0 I_0_imaged)), ((r0 7), .inr (5, oX6 r0_7 )), ((r0_7 0), .inl (cI, 3, .inl A_0_7_0_kinds)), ((r0_7 1), .inl (cI, 3, .inl A_0_7_1_sizes)), ((r0_7 2), .inl (cI, 30, .inl A_0_7_2_things)), ((r0_7 3), .inl (cZ, 30, .inl A_0_7_3_full))]) (fun _ => rfl) (fun _ => rfl) (fun y2 _ H locs h hM => ?_)
    refine lv_if_ne (tgt := 20) hx hb dX11_copied_15 (by decide) (fun hq => ?_) (fun hq => ?_)
    · have h := h.1 hq
      refine lv_aload_n hx hb dX11_copied_20 rfl (lv_at hl 0 rfl) ?_
      refine m_get (C := RX11) (T := TX11) (N := 12) (ci := 10) (ref := "LoweredPowers") (v := .ref (r0 7)) C0 hM 0 rfl rfl kt_X11_copied_X11 7 (by decide) kw_X11_copied_1 rfl rfl dX11_copied_21 ?_
      refine m_get (C := RX6) (T := TX6) (N := 4) (ci := 5) (ref := "LoweredPowers$Racks") (v := .ref (r0_7 0)) C0 hM 1 rfl rfl kt_X11_copied_X6 0 (by decide) kw_X11_copied_2 rfl rfl dX11_copied_24 ?_
      refine lv_iload_n hx hb dX11_copied_27 rfl (lv_at hl 1 rfl) ?_
      obtain ⟨hc3, h⟩ := h
      refine m_iald C0 hM 2 rfl hc3 dX11_copied_28 ?_
      refine lv_iconst (v := (-1 : Int32)) hx hb dX11_copied_29 (by decide) ?_
      refine lv_icmp_ne (tgt := 36) hx hb dX11_copied_30 (by decide) (fun hq => ?_) (fun hq => ?_)
      · have h := h.1 hq
        refine lv_aload_n hx hb dX11_copied_36 rfl (lv_at hl 0 rfl) ?_
        refine m_get (C := RX11) (T := TX11) (N := 12) (ci := 10) (ref := "LoweredPowers") (v := .ref (r0 7)) C0 hM 0 rfl rfl kt_X11_copied_X11 7 (by decide) kw_X11_copied_1 rfl rfl dX11_copied_37 ?_
        refine lv_iload_n hx hb dX11_copied_40 rfl (lv_at hl 1 rfl) ?_
        refine lv_iload_n hx hb dX11_copied_41 rfl (lv_at hl 2 rfl) ?_
        refine m_callv (wc := [((r0 7), .inr (5, oX6 r0_7 )), ((r0_7 0), .inl (cI, 3, .inl A_0_7_0_kinds)), ((r0_7 1), .inl (cI, 3, .inl A_0_7_1_sizes)), ((r0_7 2), .inl (cI, 30, .inl A_0_7_2_things)), ((r0_7 3), .inl (cZ, 30, .inl A_0_7_3_full))]) C0 hM [1, 2, 3, 4, 5] rfl (m_runV (wc := [((r0 7), .inr (5, oX6 r0_7 )), ((r0_7 0), .inl (cI, 3, .inl A_0_7_0_kinds)), ((r0_7 1), .inl (cI, 3, .inl A_0_7_1_sizes)), ((r0_7 2), .inl (cI, 30, .inl A_0_7_2_things)), ((r0_7 3), .inl (cZ, 30, .inl A_0_7_3_full))]) (As := [.int x1, .int x2]) (rest := []) (ci := 5) C0 hM (ct_X6_copyTo l D cI cJ cZ (r0 7) r0_7 A_0_7_0_kinds A_0_7_1_sizes A_0_7_2_things A_0_7_3_full x1 x2 _ _ h) [1, 2, 3, 4, 5] rfl (by decide) gX11_copied_X6_copyTo rfl rfl rfl rfl rfl hd_X6_copyTo ⟨Nat.le_of_ble_eq_true rfl, Nat.le_of_ble_eq_true rfl⟩ rfl hl.1 rfl (Nat.le_of_ble_eq_true rfl) dX11_copied_42 ⟨Nat.le_of_ble_eq_true rfl, Nat.le_of_ble_eq_true rfl⟩) (fun u => [(h0, .inr (10, oX11 r0 I_0_imaged)), ((r0 7), .inr (5, oX6 r0_7 )), ((r0_7 0), .inl (cI, 3, .inl u.1)), ((r0_7 1), .inl (cI, 3, .inl u.2.1)), ((r0_7 2), .inl (cI, 30, .inl u.2.2.1)), ((r0_7 3), .inl (cZ, 30, .inl u.2.2.2))]) (fun _ => rfl) (fun _ => rfl) (fun u H locs h hM => ?_)
        obtain ⟨b4, b5, b6, b7⟩ := u
        dsimp only at h
        have hM : MW D A s.heap [(h0, .inr (10, oX11 r0 I_0_imaged)), ((r0 7), .inr (5, oX6 r0_7 )), ((r0_7 0), .inl (cI, 3, .inl b4)), ((r0_7 1), .inl (cI, 3, .inl b5)), ((r0_7 2), .inl (cI, 30, .inl b6)), ((r0_7 3), .inl (cZ, 30, .inl b7))] H locs := hM
        refine lv_aload_n hx hb dX11_copied_45 rfl (lv_at hl 0 rfl) ?_
        refine m_get (C := RX11) (T := TX11) (N := 12) (ci := 10) (ref := "LoweredPowers") (v := .ref (r0 7)) C0 hM 0 rfl rfl kt_X11_copied_X11 7 (by decide) kw_X11_copied_1 rfl rfl dX11_copied_46 ?_
        refine m_get (C := RX6) (T := TX6) (N := 4) (ci := 5) (ref := "LoweredPowers$Racks") (v := .ref (r0_7 1)) C0 hM 1 rfl rfl kt_X11_copied_X6 1 (by decide) kw_X11_copied_3 rfl rfl dX11_copied_49 ?_
        refine lv_iload_n hx hb dX11_copied_52 rfl (lv_at hl 1 rfl) ?_
        refine m_iald C0 hM 3 rfl hc3 dX11_copied_53 ?_
        subst hsz; subst hA; subst hQ
        exact m_iret C0 hr hM (b4, b5, b6, b7) h rfl dX11_copied_54
      · have h := h.2 hq
        refine lv_bipush (v := (-11 : Int32)) hx hb dX11_copied_33 (by decide) ?_
        subst hsz; subst hA; subst hQ
        exact m_iret C0 hr hM (A_0_7_0_kinds, A_0_7_1_sizes, A_0_7_2_things, A_0_7_3_full) h rfl dX11_copied_35
    · have h := h.2 hq
      refine lv_iconst (v := (-1 : Int32)) hx hb dX11_copied_18 (by decide) ?_
      subst hsz; subst hA; subst hQ
      exact m_iret C0 hr hM (A_0_7_0_kinds, A_0_7_1_sizes, A_0_7_2_things, A_0_7_3_full) h rfl dX11_copied_19
abbrev rm_X11_feed : Room := { frames := 1, cells := 0, slots := 0, locals := 22 }
set_option maxRecDepth 100000 in
set_option maxHeartbeats 4000000 in
theorem ct_X11_feed (l : Launch) (D : va_G) (cI cJ cZ : ClassId) (h0 : Nat) (r0 : Nat → Nat) (r0_8 : Nat → Nat) (I_0_imaged : Int32) (I_0_8_size : Int32) (I_0_8_length : Int32) (I_0_8_sign : Int32) (I_0_8_number : Int32) (I_0_8_figures : Int32) (I_0_8_power : Int32) (A_0_8_3_tape : (Nat → Int32)) (x1 : Int32) (sz : Nat) (K : Int32 → Int32 → (Nat → Int32) → Prop) (h : wp_X11_feed x1 I_0_8_size A_0_8_3_tape K) : Met l yX11_feed wsX11_feed rm_X11_feed (va_Pc [.ref h0, .int x1] (WX D cI cJ cZ [(h0, .inr (10, oX11 r0 I_0_imaged)), ((r0 8), .inr (9, oX10 r0_8 I_0_8_size I_0_8_length I_0_8_sign I_0_8_number I_0_8_figures I_0_8_power)), ((r0_8 3), .inl (cI, 60, .inl A_0_8_3_tape))] sz)) (va_Qi (fun (r : Int32) (u : Int32 × (Nat → Int32)) => K r u.1 u.2) (fun (u : Int32 × (Nat → Int32)) t => WY D (va_A [(h0, .inr (10, oX11 r0 I_0_imaged)), ((r0 8), .inr (9, oX10 r0_8 I_0_8_size I_0_8_length I_0_8_sign I_0_8_number I_0_8_figures I_0_8_power)), ((r0_8 3), .inl (cI, 60, .inl A_0_8_3_tape))] sz) [(h0, .inr (10, oX11 r0 I_0_imaged)), ((r0 8), .inr (9, oX10 r0_8 u.1 I_0_8_length I_0_8_sign I_0_8_number I_0_8_figures I_0_8_power)), ((r0_8 3), .inl (cI, 60, .inl u.2))] t) (va_A [(h0, .inr (10, oX11 r0 I_0_imaged)), ((r0 8), .inr (9, oX10 r0_8 I_0_8_size I_0_8_length I_0_8_sign I_0_8_number I_0_8_figures I_0_8_power)), ((r0_8 3), .inl (cI, 60, .inl A_0_8_3_tape))] sz)) 0 0 (va_A [(h0, .inr (10, oX11 r0 I_0_imaged)), ((r0 8), .inr (9, oX10 r0_8 I_0_8_size I_0_8_length I_0_8_sign I_0_8_number I_0_8_figures I_0_8_power)), ((r0_8 3), .inl (cI, 60, .inl A_0_8_3_tape))] sz) := by
  refine m_met (own := RX11) (cc := cX11_feed) (maxL := 2) (ret := some .int) [.ref h0, .int x1] [(0, .ref h0), (1, .int x1)] (by decide) rfl rfl (Nat.le_of_ble_eq_true rfl) rfl ?_
  intro p e s m args below meth c Q A hQ hA C0 hr hnm hsz hM ls hl
  have hx := C0.1
  have hb := C0.2.1
  have hown := C0.2.2.2.1
  unfold wp_X11_feed at h
  refine lv_iload_n hx hb dX11_feed_0 rfl (lv_at hl 1 rfl) ?_
  refine lv_bipush (v := (32 : Int32)) hx hb dX11_feed_1 (by decide) ?_
  refine lv_bipush (v := (126 : Int32)) hx hb dX11_feed_3 (by decide) ?_
  refine m_calli (wc := []) C0 hM [] rfl (m_runS (wc := []) (As := [.int x1, .int (32 : Int32), .int (126 : Int32)]) (rest := []) C0 hM (ct_X11_within l D cI cJ cZ x1 (32 : Int32) (126 : Int32) _ _ h) [] rfl (by decide) gX11_feed_X11_within rfl rfl rfl hd_X11_within ⟨Nat.le_of_ble_eq_true rfl, Nat.le_of_ble_eq_true rfl⟩ rfl hl.1 rfl (Nat.le_of_ble_eq_true rfl) dX11_feed_5 ⟨Nat.le_of_ble_eq_true rfl, Nat.le_of_ble_eq_true rfl⟩) (fun _ => [(h0, .inr (10, oX11 r0 I_0_imaged)), ((r0 8), .inr (9, oX10 r0_8 I_0_8_size I_0_8_length I_0_8_sign I_0_8_number I_0_8_figures I_0_8_power)), ((r0_8 3), .inl (cI, 60, .inl A_0_8_3_tape))]) (fun _ => rfl) (fun _ => rfl) (fun y1 _ H locs h hM => ?_)
  refine lv_if_ne (tgt := 14) hx hb dX11_feed_8 (by decide) (fun hq => ?_) (fun hq => ?_)
  · have h := h.1 hq
    refine lv_aload_n hx hb dX11_feed_14 rfl (lv_at hl 0 rfl) ?_
    refine m_get (C := RX11) (T := TX11) (N := 12) (ci := 10) (ref := "LoweredPowers") (v := .ref (r0 8)) C0 hM 0 rfl rfl kt_X11_feed_X11 8 (by decide) kw_X11_feed_1 rfl rfl dX11_feed_15 ?_
    refine m_get (C := RX10) (T := TX10) (N := 9) (ci := 9) (ref := "LoweredPowers$Texts") (v := .int I_0_8_size) C0 hM 1 rfl rfl kt_X11_feed_X10 0 (by decide) kw_X11_feed_2 rfl rfl dX11_feed_18 ?_
    refine lv_bipush (v := (60 : Int32)) hx hb dX11_feed_21 (by decide) ?_
    refine lv_icmp_lt (tgt := 29) hx hb dX11_feed_23 (by decide) (fun hq => ?_) (fun hq => ?_)
    · have h := h.1 hq
      refine lv_aload_n hx hb dX11_feed_29 rfl (lv_at hl 0 rfl) ?_
      refine m_get (C := RX11) (T := TX11) (N := 12) (ci := 10) (ref := "LoweredPowers") (v := .ref (r0 8)) C0 hM 0 rfl rfl kt_X11_feed_X11 8 (by decide) kw_X11_feed_1 rfl rfl dX11_feed_30 ?_
      refine lv_iload_n hx hb dX11_feed_33 rfl (lv_at hl 1 rfl) ?_
      refine m_callv (wc := [((r0 8), .inr (9, oX10 r0_8 I_0_8_size I_0_8_length I_0_8_sign I_0_8_number I_0_8_figures I_0_8_power)), ((r0_8 3), .inl (cI, 60, .inl A_0_8_3_tape))]) C0 hM [1, 2] rfl (m_runV (wc := [((r0 8), .inr (9, oX10 r0_8 I_0_8_size I_0_8_length I_0_8_sign I_0_8_number I_0_8_figures I_0_8_power)), ((r0_8 3), .inl (cI, 60, .inl A_0_8_3_tape))]) (As := [.int x1]) (rest := []) (ci := 9) C0 hM (ct_X10_append l D cI cJ cZ (r0 8) r0_8 I_0_8_size I_0_8_length I_0_8_sign I_0_8_number I_0_8_figures I_0_8_power A_0_8_3_tape x1 _ _ h) [1, 2] rfl (by decide) gX11_feed_X10_append rfl rfl rfl rfl rfl hd_X10_append ⟨Nat.le_of_ble_eq_true rfl, Nat.le_of_ble_eq_true rfl⟩ rfl hl.1 rfl (Nat.le_of_ble_eq_true rfl) dX11_feed_34 ⟨Nat.le_of_ble_eq_true rfl, Nat.le_of_ble_eq_true rfl⟩) (fun u => [(h0, .inr (10, oX11 r0 I_0_imaged)), ((r0 8), .inr (9, oX10 r0_8 u.1 I_0_8_length I_0_8_sign I_0_8_number I_0_8_figures I_0_8_power)), ((r0_8 3), .inl (cI, 60, .inl u.2))]) (fun _ => rfl) (fun _ => rfl) (fun u H locs h hM => ?_)
      obtain ⟨b2, b3⟩ := u
      dsimp only at h
      have hM : MW D A s.heap [(h0, .inr (10, oX11 r0 I_0_imaged)), ((r0 8), .inr (9, oX10 r0_8 b2 I_0_8_length I_0_8_sign I_0_8_number I_0_8_figures I_0_8_power)), ((r0_8 3), .inl (cI, 60, .inl b3))] H locs := hM
      refine lv_aload_n hx hb dX11_feed_37 rfl (lv_at hl 0 rfl) ?_
      refine m_get (C := RX11) (T := TX11) (N := 12) (ci := 10) (ref := "LoweredPowers") (v := .ref (r0 8)) C0 hM 0 rfl rfl kt_X11_feed_X11 8 (by decide) kw_X11_feed_1 rfl rfl dX11_feed_38 ?_
      refine m_get (C := RX10) (T := TX10) (N := 9) (ci := 9) (ref := "LoweredPowers$Texts") (v := .int b2) C0 hM 1 rfl rfl kt_X11_feed_X10 0 (by decide) kw_X11_feed_2 rfl rfl dX11_feed_41 ?_
      subst hsz; subst hA; subst hQ
      exact m_iret C0 hr hM (b2, b3) h rfl dX11_feed_44
    · have h := h.2 hq
      refine lv_bipush (v := (-4 : Int32)) hx hb dX11_feed_26 (by decide) ?_
      subst hsz; subst hA; subst hQ
      exact m_iret C0 hr hM (I_0_8_size, A_0_8_3_tape) h rfl dX11_feed_28
  · have h := h.2 hq
    refine lv_bipush (v := (-2 : Int32)) hx hb dX11_feed_11 (by decide) ?_
    subst hsz; subst hA; subst hQ
    exact m_iret C0 hr hM (I_0_8_size, A_0_8_3_tape) h rfl dX11_feed_13
abbrev rm_X11_wipe : Room := { frames := 0, cells := 0, slots := 0, locals := 0 }
set_option maxRecDepth 100000 in
set_option maxHeartbeats 4000000 in
theorem ct_X11_wipe (l : Launch) (D : va_G) (cI cJ cZ : ClassId) (h0 : Nat) (r0 : Nat → Nat) (r0_8 : Nat → Nat) (I_0_imaged : Int32) (I_0_8_size : Int32) (I_0_8_length : Int32) (I_0_8_sign : Int32) (I_0_8_number : Int32) (I_0_8_figures : Int32) (I_0_8_power : Int32) (sz : Nat) (K : Int32 → Int32 → Prop) (h : wp_X11_wipe I_0_8_size K) : Met l yX11_wipe wsX11_wipe rm_X11_wipe (va_Pc [.ref h0] (WX D cI cJ cZ [(h0, .inr (10, oX11 r0 I_0_imaged)), ((r0 8), .inr (9, oX10 r0_8 I_0_8_size I_0_8_length I_0_8_sign I_0_8_number I_0_8_figures I_0_8_power))] sz)) (va_Qi (fun (r : Int32) (u : Int32) => K r u) (fun (u : Int32) t => WY D (va_A [(h0, .inr (10, oX11 r0 I_0_imaged)), ((r0 8), .inr (9, oX10 r0_8 I_0_8_size I_0_8_length I_0_8_sign I_0_8_number I_0_8_figures I_0_8_power))] sz) [(h0, .inr (10, oX11 r0 I_0_imaged)), ((r0 8), .inr (9, oX10 r0_8 u I_0_8_length I_0_8_sign I_0_8_number I_0_8_figures I_0_8_power))] t) (va_A [(h0, .inr (10, oX11 r0 I_0_imaged)), ((r0 8), .inr (9, oX10 r0_8 I_0_8_size I_0_8_length I_0_8_sign I_0_8_number I_0_8_figures I_0_8_power))] sz)) 0 0 (va_A [(h0, .inr (10, oX11 r0 I_0_imaged)), ((r0 8), .inr (9, oX10 r0_8 I_0_8_size I_0_8_length I_0_8_sign I_0_8_number I_0_8_figures I_0_8_power))] sz) := by
  refine m_met (own := RX11) (cc := cX11_wipe) (maxL := 2) (ret := some .int) [.ref h0] [(0, .ref h0)] (by decide) rfl rfl (Nat.le_of_ble_eq_true rfl) rfl ?_
  intro p e s m args below meth c Q A hQ hA C0 hr hnm hsz hM ls hl
  have hx := C0.1
  have hb := C0.2.1
  have hown := C0.2.2.2.1
  unfold wp_X11_wipe at h
  refine lv_aload_n hx hb dX11_wipe_0 rfl (lv_at hl 0 rfl) ?_
  refine m_get (C := RX11) (T := TX11) (N := 12) (ci := 10) (ref := "LoweredPowers") (v := .ref (r0 8)) C0 hM 0 rfl rfl kt_X11_wipe_X11 8 (by decide) kw_X11_wipe_1 rfl rfl dX11_wipe_1 ?_
  refine m_get (C := RX10) (T := TX10) (N := 9) (ci := 9) (ref := "LoweredPowers$Texts") (v := .int I_0_8_size) C0 hM 1 rfl rfl kt_X11_wipe_X10 0 (by decide) kw_X11_wipe_2 rfl rfl dX11_wipe_4 ?_
  refine lv_istore_n (lv' := [(1, .int I_0_8_size), (0, .ref h0)]) hx hb dX11_wipe_7 rfl hl (by decide) rfl (fun ls hl => ?_)
  refine lv_aload_n hx hb dX11_wipe_8 rfl (lv_at hl 1 rfl) ?_
  refine m_get (C := RX11) (T := TX11) (N := 12) (ci := 10) (ref := "LoweredPowers") (v := .ref (r0 8)) C0 hM 0 rfl rfl kt_X11_wipe_X11 8 (by decide) kw_X11_wipe_1 rfl rfl dX11_wipe_9 ?_
  refine lv_iconst (v := (0 : Int32)) hx hb dX11_wipe_12 (by decide) ?_
  refine m_put (ws' := [(h0, .inr (10, oX11 r0 I_0_imaged)), ((r0 8), .inr (9, oX10 r0_8 (0 : Int32) I_0_8_length I_0_8_sign I_0_8_number I_0_8_figures I_0_8_power))]) (C := RX10) (T := TX10) (N := 9) (ci := 9) (ref := "LoweredPowers$Texts") (v := .int (0 : Int32)) C0 hM 1 rfl rfl kt_X11_wipe_X10 tyX10 tyX10_ok nmX10 0 (by decide) kw_X11_wipe_2 rfl rfl rfl rfl (Nat.le_of_ble_eq_true rfl) rfl dX11_wipe_13 (fun H locs hM => ?_)
  refine lv_iload_n hx hb dX11_wipe_16 rfl (lv_at hl 0 rfl) ?_
  subst hsz; subst hA; subst hQ
  exact m_iret C0 hr hM (0 : Int32) h rfl dX11_wipe_17
abbrev rm_X11_read : Room := { frames := 5, cells := 0, slots := 0, locals := 108 }
set_option maxRecDepth 100000 in
set_option maxHeartbeats 4000000 in
theorem ct_X11_read (l : Launch) (D : va_G) (cI cJ cZ : ClassId) (h0 : Nat) (r0 : Nat → Nat) (r0_0 : Nat → Nat) (r0_8 : Nat → Nat) (I_0_imaged : Int32) (A_0_0_0_f : (Nat → Int32)) (I_0_8_size : Int32) (I_0_8_length : Int32) (I_0_8_sign : Int32) (I_0_8_number : Int32) (I_0_8_figures : Int32) (I_0_8_power : Int32) (A_0_8_1_told : (Nat → Int32)) (A_0_8_3_tape : (Nat → Int32)) (sz : Nat) (K : Int32 → (Nat → Int32) → Int32 → Int32 → Int32 → Int32 → Int32 → (Nat → Int32) → Prop) (h : wp_X11_read A_0_0_0_f I_0_8_size I_0_8_sign I_0_8_number I_0_8_figures I_0_8_power A_0_8_1_told A_0_8_3_tape K) : Met l yX11_read wsX11_read rm_X11_read (va_Pc [.ref h0] (WX D cI cJ cZ [(h0, .inr (10, oX11 r0 I_0_imaged)), ((r0 0), .inr (8, oX9 r0_0 )), ((r0_0 0), .inl (cI, 5, .inl A_0_0_0_f)), ((r0 8), .inr (9, oX10 r0_8 I_0_8_size I_0_8_length I_0_8_sign I_0_8_number I_0_8_figures I_0_8_power)), ((r0_8 1), .inl (cI, 5, .inl A_0_8_1_told)), ((r0_8 3), .inl (cI, 60, .inl A_0_8_3_tape))] sz)) (va_Qi (fun (r : Int32) (u : (Nat → Int32) × Int32 × Int32 × Int32 × Int32 × Int32 × (Nat → Int32)) => K r u.1 u.2.1 u.2.2.1 u.2.2.2.1 u.2.2.2.2.1 u.2.2.2.2.2.1 u.2.2.2.2.2.2) (fun (u : (Nat → Int32) × Int32 × Int32 × Int32 × Int32 × Int32 × (Nat → Int32)) t => WY D (va_A [(h0, .inr (10, oX11 r0 I_0_imaged)), ((r0 0), .inr (8, oX9 r0_0 )), ((r0_0 0), .inl (cI, 5, .inl A_0_0_0_f)), ((r0 8), .inr (9, oX10 r0_8 I_0_8_size I_0_8_length I_0_8_sign I_0_8_number I_0_8_figures I_0_8_power)), ((r0_8 1), .inl (cI, 5, .inl A_0_8_1_told)), ((r0_8 3), .inl (cI, 60, .inl A_0_8_3_tape))] sz) [(h0, .inr (10, oX11 r0 I_0_imaged)), ((r0 0), .inr (8, oX9 r0_0 )), ((r0_0 0), .inl (cI, 5, .inl u.1)), ((r0 8), .inr (9, oX10 r0_8 u.2.1 I_0_8_length u.2.2.1 u.2.2.2.1 u.2.2.2.2.1 u.2.2.2.2.2.1)), ((r0_8 1), .inl (cI, 5, .inl u.2.2.2.2.2.2)), ((r0_8 3), .inl (cI, 60, .inl A_0_8_3_tape))] t) (va_A [(h0, .inr (10, oX11 r0 I_0_imaged)), ((r0 0), .inr (8, oX9 r0_0 )), ((r0_0 0), .inl (cI, 5, .inl A_0_0_0_f)), ((r0 8), .inr (9, oX10 r0_8 I_0_8_size I_0_8_length I_0_8_sign I_0_8_number I_0_8_figures I_0_8_power)), ((r0_8 1), .inl (cI, 5, .inl A_0_8_1_told)), ((r0_8 3), .inl (cI, 60, .inl A_0_8_3_tape))] sz)) 0 0 (va_A [(h0, .inr (10, oX11 r0 I_0_imaged)), ((r0 0), .inr (8, oX9 r0_0 )), ((r0_0 0), .inl (cI, 5, .inl A_0_0_0_f)), ((r0 8), .inr (9, oX10 r0_8 I_0_8_size I_0_8_length I_0_8_sign I_0_8_number I_0_8_figures I_0_8_power)), ((r0_8 1), .inl (cI, 5, .inl A_0_8_1_told)), ((r0_8 3), .inl (cI, 60, .inl A_0_8_3_tape))] sz) := by
  refine m_met (own := RX11) (cc := cX11_read) (maxL := 2) (ret := some .int) [.ref h0] [(0, .ref h0)] (by decide) rfl rfl (Nat.le_of_ble_eq_true rfl) rfl ?_
  intro p e s m args below meth c Q A hQ hA C0 hr hnm hsz hM ls hl
  have hx := C0.1
  have hb := C0.2.1
  have hown := C0.2.2.2.1
  unfold wp_X11_read at h
  refine lv_aload_n hx hb dX11_read_0 rfl (lv_at hl 0 rfl) ?_
  refine m_get (C := RX11) (T := TX11) (N := 12) (ci := 10) (ref := "LoweredPowers") (v := .ref (r0 8)) C0 hM 0 rfl rfl kt_X11_read_X11 8 (by decide) kw_X11_read_1 rfl rfl dX11_read_1 ?_
  refine m_calli (wc := [((r0 8), .inr (9, oX10 r0_8 I_0_8_size I_0_8_length I_0_8_sign I_0_8_number I_0_8_figures I_0_8_power)), ((r0_8 1), .inl (cI, 5, .inl A_0_8_1_told)), ((r0_8 3), .inl (cI, 60, .inl A_0_8_3_tape))]) C0 hM [3, 4, 5] rfl (m_runV (wc := [((r0 8), .inr (9, oX10 r0_8 I_0_8_size I_0_8_length I_0_8_sign I_0_8_number I_0_8_figures I_0_8_power)), ((r0_8 1), .inl (cI, 5, .inl A_0_8_1_told)), ((r0_8 3), .inl (cI, 60, .inl A_0_8_3_tape))]) (As := []) (rest := []) (ci := 9) C0 hM (ct_X10_fault l D cI cJ cZ (r0 8) r0_8 I_0_8_size I_0_8_length I_0_8_sign I_0_8_number I_0_8_figures I_0_8_power A_0_8_1_told A_0_8_3_tape _ _ h) [3, 4, 5] rfl (by decide) gX11_read_X10_fault rfl rfl rfl rfl rfl hd_X10_fault ⟨Nat.le_of_ble_eq_true rfl, Nat.le_of_ble_eq_true rfl⟩ rfl hl.1 rfl (Nat.le_of_ble_eq_true rfl) dX11_read_4 ⟨Nat.le_of_ble_eq_true rfl, Nat.le_of_ble_eq_true rfl⟩) (fun u => [(h0, .inr (10, oX11 r0 I_0_imaged)), ((r0 0), .inr (8, oX9 r0_0 )), ((r0_0 0), .inl (cI, 5, .inl A_0_0_0_f)), ((r0 8), .inr (9, oX10 r0_8 I_0_8_size I_0_8_length u.1 u.2.1 u.2.2.1 u.2.2.2.1)), ((r0_8 1), .inl (cI, 5, .inl u.2.2.2.2)), ((r0_8 3), .inl (cI, 60, .inl A_0_8_3_tape))]) (fun _ => rfl) (fun _ => rfl) (fun y1 u H locs h hM => ?_)
  obtain ⟨b2, b3, b4, b5, b6⟩ := u
  dsimp only at h
  have hM : MW D A s.heap [(h0, .inr (10, oX11 r0 I_0_imaged)), ((r0 0), .inr (8, oX9 r0_0 )), ((r0_0 0), .inl (cI, 5, .inl A_0_0_0_f)), ((r0 8), .inr (9, oX10 r0_8 I_0_8_size I_0_8_length b2 b3 b4 b5)), ((r0_8 1), .inl (cI, 5, .inl b6)), ((r0_8 3), .inl (cI, 60, .inl A_0_8_3_tape))] H locs := hM
  refine lv_istore_n (lv' := [(1, .int y1), (0, .ref h0)]) hx hb dX11_read_7 rfl hl (by decide) rfl (fun ls hl => ?_)
  refine lv_aload_n hx hb dX11_read_8 rfl (lv_at hl 1 rfl) ?_
  refine m_get (C := RX11) (T := TX11) (N := 12) (ci := 10) (ref := "LoweredPowers") (v := .ref (r0 8)) C0 hM 0 rfl rfl kt_X11_read_X11 8 (by decide) kw_X11_read_1 rfl rfl dX11_read_9 ?_
  refine lv_iconst (v := (0 : Int32)) hx hb dX11_read_12 (by decide) ?_
  refine m_put (ws' := [(h0, .inr (10, oX11 r0 I_0_imaged)), ((r0 0), .inr (8, oX9 r0_0 )), ((r0_0 0), .inl (cI, 5, .inl A_0_0_0_f)), ((r0 8), .inr (9, oX10 r0_8 (0 : Int32) I_0_8_length b2 b3 b4 b5)), ((r0_8 1), .inl (cI, 5, .inl b6)), ((r0_8 3), .inl (cI, 60, .inl A_0_8_3_tape))]) (C := RX10) (T := TX10) (N := 9) (ci := 9) (ref := "LoweredPowers$Texts") (v := .int (0 : Int32)) C0 hM 3 rfl rfl kt_X11_read_X10 tyX10 tyX10_ok nmX10 0 (by decide) kw_X11_read_2 rfl rfl rfl rfl (Nat.le_of_ble_eq_true rfl) rfl dX11_read_13 (fun H locs hM => ?_)
  refine lv_iload_n hx hb dX11_read_16 rfl (lv_at hl 0 rfl) ?_
  refine lv_iconst (v := (-1 : Int32)) hx hb dX11_read_17 (by decide) ?_
  refine lv_icmp_eq (tgt := 26) hx hb dX11_read_18 (by decide) (fun hq => ?_) (fun hq => ?_)
  · have h := h.1 hq
    refine lv_aload_n hx hb dX11_read_26 rfl (lv_at hl 1 rfl) ?_
    refine m_get (C := RX11) (T := TX11) (N := 12) (ci := 10) (ref := "LoweredPowers") (v := .ref (r0 8)) C0 hM 0 rfl rfl kt_X11_read_X11 8 (by decide) kw_X11_read_1 rfl rfl dX11_read_27 ?_
    refine m_get (C := RX10) (T := TX10) (N := 9) (ci := 9) (ref := "LoweredPowers$Texts") (v := .ref (r0_8 1)) C0 hM 3 rfl rfl kt_X11_read_X10 1 (by decide) kw_X11_read_3 rfl rfl dX11_read_30 ?_
    refine lv_iconst (v := (0 : Int32)) hx hb dX11_read_33 (by decide) ?_
    refine lv_aload_n hx hb dX11_read_34 rfl (lv_at hl 1 rfl) ?_
    refine m_get (C := RX11) (T := TX11) (N := 12) (ci := 10) (ref := "LoweredPowers") (v := .ref (r0 0)) C0 hM 0 rfl rfl kt_X11_read_X11 0 (by decide) kw_X11_read_4 rfl rfl dX11_read_35 ?_
    refine m_get (C := RX9) (T := TX9) (N := 4) (ci := 8) (ref := "LoweredPowers$State") (v := .ref (r0_0 0)) C0 hM 1 rfl rfl kt_X11_read_X9 0 (by decide) kw_X11_read_5 rfl rfl dX11_read_38 ?_
    refine lv_iconst (v := (0 : Int32)) hx hb dX11_read_41 (by decide) ?_
    refine lv_iconst (v := (5 : Int32)) hx hb dX11_read_42 (by decide) ?_
    refine m_copyi (ws' := [(h0, .inr (10, oX11 r0 I_0_imaged)), ((r0 0), .inr (8, oX9 r0_0 )), ((r0_0 0), .inl (cI, 5, .inl (va_cpy b6 A_0_0_0_f ((0 : Int32)).toNatClampNeg ((0 : Int32)).toNatClampNeg ((5 : Int32)).toNatClampNeg))), ((r0 8), .inr (9, oX10 r0_8 (0 : Int32) I_0_8_length b2 b3 b4 b5)), ((r0_8 1), .inl (cI, 5, .inl b6)), ((r0_8 3), .inl (cI, 60, .inl A_0_8_3_tape))]) C0 hM hl.1 kw_X11_read_6 kw_X11_read_7 kw_X11_read_8 kw_X11_read_9 4 2 rfl rfl (by decide) (Nat.le_of_ble_eq_true rfl) (Nat.le_of_ble_eq_true rfl) rfl dX11_read_43 (fun H locs hM => ?_)
    refine lv_aload_n hx hb dX11_read_46 rfl (lv_at hl 1 rfl) ?_
    refine m_get (C := RX11) (T := TX11) (N := 12) (ci := 10) (ref := "LoweredPowers") (v := .ref (r0 0)) C0 hM 0 rfl rfl kt_X11_read_X11 0 (by decide) kw_X11_read_4 rfl rfl dX11_read_47 ?_
    refine m_get (C := RX9) (T := TX9) (N := 4) (ci := 8) (ref := "LoweredPowers$State") (v := .ref (r0_0 0)) C0 hM 1 rfl rfl kt_X11_read_X9 0 (by decide) kw_X11_read_5 rfl rfl dX11_read_50 ?_
    refine m_calli (wc := [((r0_0 0), .inl (cI, 5, .inl (va_cpy b6 A_0_0_0_f ((0 : Int32)).toNatClampNeg ((0 : Int32)).toNatClampNeg ((5 : Int32)).toNatClampNeg)))]) C0 hM [2] rfl (m_runS (wc := [((r0_0 0), .inl (cI, 5, .inl (va_cpy b6 A_0_0_0_f ((0 : Int32)).toNatClampNeg ((0 : Int32)).toNatClampNeg ((5 : Int32)).toNatClampNeg)))]) (As := [.ref (r0_0 0)]) (rest := []) C0 hM (ct_X3_highest l D cI cJ cZ (r0_0 0) 5 (va_cpy b6 A_0_0_0_f ((0 : Int32)).toNatClampNeg ((0 : Int32)).toNatClampNeg ((5 : Int32)).toNatClampNeg) _ _ h) [2] rfl (by decide) gX11_read_X3_highest rfl rfl rfl hd_X3_highest ⟨Nat.le_of_ble_eq_true rfl, Nat.le_of_ble_eq_true rfl⟩ rfl hl.1 rfl (Nat.le_of_ble_eq_true rfl) dX11_read_53 ⟨Nat.le_of_ble_eq_true rfl, Nat.le_of_ble_eq_true rfl⟩) (fun _ => [(h0, .inr (10, oX11 r0 I_0_imaged)), ((r0 0), .inr (8, oX9 r0_0 )), ((r0_0 0), .inl (cI, 5, .inl (va_cpy b6 A_0_0_0_f ((0 : Int32)).toNatClampNeg ((0 : Int32)).toNatClampNeg ((5 : Int32)).toNatClampNeg))), ((r0 8), .inr (9, oX10 r0_8 (0 : Int32) I_0_8_length b2 b3 b4 b5)), ((r0_8 1), .inl (cI, 5, .inl b6)), ((r0_8 3), .inl (cI, 60, .inl A_0_8_3_tape))]) (fun _ => rfl) (fun _ => rfl) (fun y7 _ H locs h hM => ?_)
    refine lv_bipush (v := (10 : Int32)) hx hb dX11_read_56 (by decide) ?_
    refine lv_iadd hx hb dX11_read_58 ?_
    subst hsz; subst hA; subst hQ
    exact m_iret C0 hr hM ((va_cpy b6 A_0_0_0_f ((0 : Int32)).toNatClampNeg ((0 : Int32)).toNatClampNeg ((5 : Int32)).toNatClampNeg), (0 : Int32), b2, b3, b4, b5, b6) h rfl dX11_read_59
  · have h := h.2 hq
    refine lv_bipush (v := (-100 : Int32)) hx hb dX11_read_21 (by decide) ?_
    refine lv_iload_n hx hb dX11_read_23 rfl (lv_at hl 0 rfl) ?_
    refine lv_isub hx hb dX11_read_24 ?_
    subst hsz; subst hA; subst hQ
    exact m_iret C0 hr hM (A_0_0_0_f, (0 : Int32), b2, b3, b4, b5, b6) h rfl dX11_read_25
abbrev rm_X11_written : Room := { frames := 4, cells := 0, slots := 0, locals := 88 }
set_option maxRecDepth 100000 in
set_option maxHeartbeats 4000000 in
theorem ct_X11_written (l : Launch) (D : va_G) (cI cJ cZ : ClassId) (h0 : Nat) (r0 : Nat → Nat) (r0_0 : Nat → Nat) (r0_8 : Nat → Nat) (I_0_imaged : Int32) (A_0_0_0_f : (Nat → Int32)) (I_0_8_size : Int32) (I_0_8_length : Int32) (I_0_8_sign : Int32) (I_0_8_number : Int32) (I_0_8_figures : Int32) (I_0_8_power : Int32) (A_0_8_2_line : (Nat → Int32)) (x1 : Int32) (sz : Nat) (K : Int32 → Int32 → (Nat → Int32) → Prop) (h : wp_X11_written x1 A_0_0_0_f I_0_8_length A_0_8_2_line K) : Met l yX11_written wsX11_written rm_X11_written (va_Pc [.ref h0, .int x1] (WX D cI cJ cZ [(h0, .inr (10, oX11 r0 I_0_imaged)), ((r0 0), .inr (8, oX9 r0_0 )), ((r0_0 0), .inl (cI, 5, .inl A_0_0_0_f)), ((r0 8), .inr (9, oX10 r0_8 I_0_8_size I_0_8_length I_0_8_sign I_0_8_number I_0_8_figures I_0_8_power)), ((r0_8 2), .inl (cI, 40, .inl A_0_8_2_line))] sz)) (va_Qi (fun (r : Int32) (u : Int32 × (Nat → Int32)) => K r u.1 u.2) (fun (u : Int32 × (Nat → Int32)) t => WY D (va_A [(h0, .inr (10, oX11 r0 I_0_imaged)), ((r0 0), .inr (8, oX9 r0_0 )), ((r0_0 0), .inl (cI, 5, .inl A_0_0_0_f)), ((r0 8), .inr (9, oX10 r0_8 I_0_8_size I_0_8_length I_0_8_sign I_0_8_number I_0_8_figures I_0_8_power)), ((r0_8 2), .inl (cI, 40, .inl A_0_8_2_line))] sz) [(h0, .inr (10, oX11 r0 I_0_imaged)), ((r0 0), .inr (8, oX9 r0_0 )), ((r0_0 0), .inl (cI, 5, .inl A_0_0_0_f)), ((r0 8), .inr (9, oX10 r0_8 I_0_8_size u.1 I_0_8_sign I_0_8_number I_0_8_figures I_0_8_power)), ((r0_8 2), .inl (cI, 40, .inl u.2))] t) (va_A [(h0, .inr (10, oX11 r0 I_0_imaged)), ((r0 0), .inr (8, oX9 r0_0 )), ((r0_0 0), .inl (cI, 5, .inl A_0_0_0_f)), ((r0 8), .inr (9, oX10 r0_8 I_0_8_size I_0_8_length I_0_8_sign I_0_8_number I_0_8_figures I_0_8_power)), ((r0_8 2), .inl (cI, 40, .inl A_0_8_2_line))] sz)) 0 0 (va_A [(h0, .inr (10, oX11 r0 I_0_imaged)), ((r0 0), .inr (8, oX9 r0_0 )), ((r0_0 0), .inl (cI, 5, .inl A_0_0_0_f)), ((r0 8), .inr (9, oX10 r0_8 I_0_8_size I_0_8_length I_0_8_sign I_0_8_number I_0_8_figures I_0_8_power)), ((r0_8 2), .inl (cI, 40, .inl A_0_8_2_line))] sz) := by
  refine m_met (own := RX11) (cc := cX11_written) (maxL := 3) (ret := some .int) [.ref h0, .int x1] [(0, .ref h0), (1, .int x1)] (by decide) rfl rfl (Nat.le_of_ble_eq_true rfl) rfl ?_
  intro p e s m args below meth c Q A hQ hA C0 hr hnm hsz hM ls hl
  have hx := C0.1
  have hb := C0.2.1
  have hown := C0.2.2.2.1
  unfold wp_X11_written at h
  refine lv_aload_n hx hb dX11_written_0 rfl (lv_at hl 0 rfl) ?_
  refine m_get (C := RX11) (T := TX11) (N := 12) (ci := 10) (ref := "LoweredPowers") (v := .ref (r0 8)) C0 hM 0 rfl rfl kt_X11_written_X11 8 (by decide) kw_X11_written_1 rfl rfl dX11_written_1 ?_
  refine lv_aload_n hx hb dX11_written_4 rfl (lv_at hl 0 rfl) ?_
  refine m_get (C := RX11) (T := TX11) (N := 12) (ci := 10) (ref := "LoweredPowers") (v := .ref (r0 0)) C0 hM 0 rfl rfl kt_X11_written_X11 0 (by decide) kw_X11_written_2 rfl rfl dX11_written_5 ?_
  refine m_get (C := RX9) (T := TX9) (N := 4) (ci := 8) (ref := "LoweredPowers$State") (v := .ref (r0_0 0)) C0 hM 1 rfl rfl kt_X11_written_X9 0 (by decide) kw_X11_written_3 rfl rfl dX11_written_8 ?_
  refine m_calli (wc := [((r0 8), .inr (9, oX10 r0_8 I_0_8_size I_0_8_length I_0_8_sign I_0_8_number I_0_8_figures I_0_8_power)), ((r0_8 2), .inl (cI, 40, .inl A_0_8_2_line)), ((r0_0 0), .inl (cI, 5, .inl A_0_0_0_f))]) C0 hM [3, 4, 2] rfl (m_runV (wc := [((r0 8), .inr (9, oX10 r0_8 I_0_8_size I_0_8_length I_0_8_sign I_0_8_number I_0_8_figures I_0_8_power)), ((r0_8 2), .inl (cI, 40, .inl A_0_8_2_line)), ((r0_0 0), .inl (cI, 5, .inl A_0_0_0_f))]) (As := [.ref (r0_0 0)]) (rest := []) (ci := 9) C0 hM (ct_X10_write l D cI cJ cZ (r0 8) (r0_0 0) r0_8 I_0_8_size I_0_8_length I_0_8_sign I_0_8_number I_0_8_figures I_0_8_power A_0_8_2_line A_0_0_0_f _ _ h) [3, 4, 2] rfl (by decide) gX11_written_X10_write rfl rfl rfl rfl rfl hd_X10_write ⟨Nat.le_of_ble_eq_true rfl, Nat.le_of_ble_eq_true rfl⟩ rfl hl.1 rfl (Nat.le_of_ble_eq_true rfl) dX11_written_11 ⟨Nat.le_of_ble_eq_true rfl, Nat.le_of_ble_eq_true rfl⟩) (fun u => [(h0, .inr (10, oX11 r0 I_0_imaged)), ((r0 0), .inr (8, oX9 r0_0 )), ((r0_0 0), .inl (cI, 5, .inl A_0_0_0_f)), ((r0 8), .inr (9, oX10 r0_8 I_0_8_size u.1 I_0_8_sign I_0_8_number I_0_8_figures I_0_8_power)), ((r0_8 2), .inl (cI, 40, .inl u.2))]) (fun _ => rfl) (fun _ => rfl) (fun y1 u H locs h hM => ?_)
  obtain ⟨b2, b3⟩ := u
  dsimp only at h
  have hM : MW D A s.heap [(h0, .inr (10, oX11 r0 I_0_imaged)), ((r0 0), .inr (8, oX9 r0_0 )), ((r0_0 0), .inl (cI, 5, .inl A_0_0_0_f)), ((r0 8), .inr (9, oX10 r0_8 I_0_8_size b2 I_0_8_sign I_0_8_number I_0_8_figures I_0_8_power)), ((r0_8 2), .inl (cI, 40, .inl b3))] H locs := hM
  refine lv_istore_n (lv' := [(2, .int y1), (0, .ref h0), (1, .int x1)]) hx hb dX11_written_14 rfl hl (by decide) rfl (fun ls hl => ?_)
  refine lv_iload_n hx hb dX11_written_15 rfl (lv_at hl 2 rfl) ?_
  refine lv_iconst (v := (-1 : Int32)) hx hb dX11_written_16 (by decide) ?_
  refine lv_icmp_ne (tgt := 22) hx hb dX11_written_17 (by decide) (fun hq => ?_) (fun hq => ?_)
  · have h := h.1 hq
    refine lv_iload_n hx hb dX11_written_22 rfl (lv_at hl 2 rfl) ?_
    refine lv_iconst (v := (0 : Int32)) hx hb dX11_written_23 (by decide) ?_
    refine lv_iload_n hx hb dX11_written_24 rfl (lv_at hl 0 rfl) ?_
    refine lv_iconst (v := (1 : Int32)) hx hb dX11_written_25 (by decide) ?_
    refine lv_isub hx hb dX11_written_26 ?_
    refine m_calli (wc := []) C0 hM [] rfl (m_runS (wc := []) (As := [.int x1, .int (0 : Int32), .int (y1 - (1 : Int32))]) (rest := []) C0 hM (ct_X11_within l D cI cJ cZ x1 (0 : Int32) (y1 - (1 : Int32)) _ _ h) [] rfl (by decide) gX11_written_X11_within rfl rfl rfl hd_X11_within ⟨Nat.le_of_ble_eq_true rfl, Nat.le_of_ble_eq_true rfl⟩ rfl hl.1 rfl (Nat.le_of_ble_eq_true rfl) dX11_written_27 ⟨Nat.le_of_ble_eq_true rfl, Nat.le_of_ble_eq_true rfl⟩) (fun _ => [(h0, .inr (10, oX11 r0 I_0_imaged)), ((r0 0), .inr (8, oX9 r0_0 )), ((r0_0 0), .inl (cI, 5, .inl A_0_0_0_f)), ((r0 8), .inr (9, oX10 r0_8 I_0_8_size b2 I_0_8_sign I_0_8_number I_0_8_figures I_0_8_power)), ((r0_8 2), .inl (cI, 40, .inl b3))]) (fun _ => rfl) (fun _ => rfl) (fun y4 _ H locs h hM => ?_)
    refine lv_if_eq (tgt := 45) hx hb dX11_written_30 (by decide) (fun hq => ?_) (fun hq => ?_)
    · have h := h.1 hq
      refine lv_iconst (v := (-1 : Int32)) hx hb dX11_written_45 (by decide) ?_
      subst hsz; subst hA; subst hQ
      exact m_iret C0 hr hM (b2, b3) h rfl dX11_written_46
    · have h := h.2 hq
      refine lv_aload_n hx hb dX11_written_33 rfl (lv_at hl 1 rfl) ?_
      refine m_get (C := RX11) (T := TX11) (N := 12) (ci := 10) (ref := "LoweredPowers") (v := .ref (r0 8)) C0 hM 0 rfl rfl kt_X11_written_X11 8 (by decide) kw_X11_written_1 rfl rfl dX11_written_34 ?_
      refine m_get (C := RX10) (T := TX10) (N := 9) (ci := 9) (ref := "LoweredPowers$Texts") (v := .ref (r0_8 2)) C0 hM 3 rfl rfl kt_X11_written_X10 2 (by decide) kw_X11_written_4 rfl rfl dX11_written_37 ?_
      refine lv_iload_n hx hb dX11_written_40 rfl (lv_at hl 2 rfl) ?_
      obtain ⟨hc5, h⟩ := h
      refine m_iald C0 hM 4 rfl hc5 dX11_written_41 ?_
      refine lv_goto (tgt := 46) hx hb dX11_written_42 (by decide) ?_
      subst hsz; subst hA; subst hQ
      exact m_iret C0 hr hM (b2, b3) h rfl dX11_written_46
  · have h := h.2 hq
    refine lv_iload_n hx hb dX11_written_20 rfl (lv_at hl 0 rfl) ?_
    subst hsz; subst hA; subst hQ
    exact m_iret C0 hr hM (b2, b3) h rfl dX11_written_21
abbrev rm_X11_list : Room := { frames := 1, cells := 0, slots := 0, locals := 23 }
set_option maxRecDepth 100000 in
set_option maxHeartbeats 4000000 in
theorem ct_X11_list (l : Launch) (D : va_G) (cI cJ cZ : ClassId) (h0 : Nat) (r0 : Nat → Nat) (r0_9 : Nat → Nat) (I_0_imaged : Int32) (A_0_9_0_sizes : (Nat → Int32)) (A_0_9_1_longs : (Nat → Int64)) (x1 : Int32) (x2 : Int32) (sz : Nat) (K : Int32 → (Nat → Int32) → (Nat → Int64) → Prop) (h : wp_X11_list x1 x2 A_0_9_0_sizes A_0_9_1_longs K) : Met l yX11_list wsX11_list rm_X11_list (va_Pc [.ref h0, .int x1, .int x2] (WX D cI cJ cZ [(h0, .inr (10, oX11 r0 I_0_imaged)), ((r0 9), .inr (1, oX1 r0_9 )), ((r0_9 0), .inl (cI, 3, .inl A_0_9_0_sizes)), ((r0_9 1), .inl (cJ, 36, .inr (.inl A_0_9_1_longs)))] sz)) (va_Qi (fun (r : Int32) (u : (Nat → Int32) × (Nat → Int64)) => K r u.1 u.2) (fun (u : (Nat → Int32) × (Nat → Int64)) t => WY D (va_A [(h0, .inr (10, oX11 r0 I_0_imaged)), ((r0 9), .inr (1, oX1 r0_9 )), ((r0_9 0), .inl (cI, 3, .inl A_0_9_0_sizes)), ((r0_9 1), .inl (cJ, 36, .inr (.inl A_0_9_1_longs)))] sz) [(h0, .inr (10, oX11 r0 I_0_imaged)), ((r0 9), .inr (1, oX1 r0_9 )), ((r0_9 0), .inl (cI, 3, .inl u.1)), ((r0_9 1), .inl (cJ, 36, .inr (.inl u.2)))] t) (va_A [(h0, .inr (10, oX11 r0 I_0_imaged)), ((r0 9), .inr (1, oX1 r0_9 )), ((r0_9 0), .inl (cI, 3, .inl A_0_9_0_sizes)), ((r0_9 1), .inl (cJ, 36, .inr (.inl A_0_9_1_longs)))] sz)) 0 0 (va_A [(h0, .inr (10, oX11 r0 I_0_imaged)), ((r0 9), .inr (1, oX1 r0_9 )), ((r0_9 0), .inl (cI, 3, .inl A_0_9_0_sizes)), ((r0_9 1), .inl (cJ, 36, .inr (.inl A_0_9_1_longs)))] sz) := by
  refine m_met (own := RX11) (cc := cX11_list) (maxL := 3) (ret := some .int) [.ref h0, .int x1, .int x2] [(0, .ref h0), (1, .int x1), (2, .int x2)] (by decide) rfl rfl (Nat.le_of_ble_eq_true rfl) rfl ?_
  intro p e s m args below meth c Q A hQ hA C0 hr hnm hsz hM ls hl
  have hx := C0.1
  have hb := C0.2.1
  have hown := C0.2.2.2.1
  unfold wp_X11_list at h
  refine lv_iload_n hx hb dX11_list_0 rfl (lv_at hl 1 rfl) ?_
  refine lv_iconst (v := (0 : Int32)) hx hb dX11_list_1 (by decide) ?_
  refine lv_iconst (v := (2 : Int32)) hx hb dX11_list_2 (by decide) ?_
  refine m_calli (wc := []) C0 hM [] rfl (m_runS (wc := []) (As := [.int x1, .int (0 : Int32), .int (2 : Int32)]) (rest := []) C0 hM (ct_X11_within l D cI cJ cZ x1 (0 : Int32) (2 : Int32) _ _ h) [] rfl (by decide) gX11_list_X11_within rfl rfl rfl hd_X11_within ⟨Nat.le_of_ble_eq_true rfl, Nat.le_of_ble_eq_true rfl⟩ rfl hl.1 rfl (Nat.le_of_ble_eq_true rfl) dX11_list_3 ⟨Nat.le_of_ble_eq_true rfl, Nat.le_of_ble_eq_true rfl⟩) (fun _ => [(h0, .inr (10, oX11 r0 I_0_imaged)), ((r0 9), .inr (1, oX1 r0_9 )), ((r0_9 0), .inl (cI, 3, .inl A_0_9_0_sizes)), ((r0_9 1), .inl (cJ, 36, .inr (.inl A_0_9_1_longs)))]) (fun _ => rfl) (fun _ => rfl) (fun y1 _ H locs h hM => ?_)
  refine lv_if_ne (tgt := 11) hx hb dX11_list_6 (by decide) (fun hq => ?_) (fun hq => ?_)
  · have h := h.1 hq
    refine lv_iload_n hx hb dX11_list_11 rfl (lv_at hl 2 rfl) ?_
    refine lv_bipush (v := (12 : Int32)) hx hb dX11_list_12 (by decide) ?_
    refine lv_icmp_le (tgt := 20) hx hb dX11_list_14 (by decide) (fun hq => ?_) (fun hq => ?_)
    · have h := h.1 hq
      refine lv_iload_n hx hb dX11_list_20 rfl (lv_at hl 2 rfl) ?_
      refine lv_iconst (v := (-1 : Int32)) hx hb dX11_list_21 (by decide) ?_
      refine lv_icmp_ge (tgt := 28) hx hb dX11_list_22 (by decide) (fun hq => ?_) (fun hq => ?_)
      · have h := h.1 hq
        refine lv_aload_n hx hb dX11_list_28 rfl (lv_at hl 0 rfl) ?_
        refine m_get (C := RX11) (T := TX11) (N := 12) (ci := 10) (ref := "LoweredPowers") (v := .ref (r0 9)) C0 hM 0 rfl rfl kt_X11_list_X11 9 (by decide) kw_X11_list_1 rfl rfl dX11_list_29 ?_
        refine lv_iload_n hx hb dX11_list_32 rfl (lv_at hl 1 rfl) ?_
        refine lv_iload_n hx hb dX11_list_33 rfl (lv_at hl 2 rfl) ?_
        refine m_callv (wc := [((r0 9), .inr (1, oX1 r0_9 )), ((r0_9 0), .inl (cI, 3, .inl A_0_9_0_sizes)), ((r0_9 1), .inl (cJ, 36, .inr (.inl A_0_9_1_longs)))]) C0 hM [1, 2, 3] rfl (m_runV (wc := [((r0 9), .inr (1, oX1 r0_9 )), ((r0_9 0), .inl (cI, 3, .inl A_0_9_0_sizes)), ((r0_9 1), .inl (cJ, 36, .inr (.inl A_0_9_1_longs)))]) (As := [.int x1, .int x2]) (rest := []) (ci := 1) C0 hM (ct_X1_make l D cI cJ cZ (r0 9) r0_9 A_0_9_0_sizes A_0_9_1_longs x1 x2 _ _ h) [1, 2, 3] rfl (by decide) gX11_list_X1_make rfl rfl rfl rfl rfl hd_X1_make ⟨Nat.le_of_ble_eq_true rfl, Nat.le_of_ble_eq_true rfl⟩ rfl hl.1 rfl (Nat.le_of_ble_eq_true rfl) dX11_list_34 ⟨Nat.le_of_ble_eq_true rfl, Nat.le_of_ble_eq_true rfl⟩) (fun u => [(h0, .inr (10, oX11 r0 I_0_imaged)), ((r0 9), .inr (1, oX1 r0_9 )), ((r0_9 0), .inl (cI, 3, .inl u.1)), ((r0_9 1), .inl (cJ, 36, .inr (.inl u.2)))]) (fun _ => rfl) (fun _ => rfl) (fun u H locs h hM => ?_)
        obtain ⟨b2, b3⟩ := u
        dsimp only at h
        have hM : MW D A s.heap [(h0, .inr (10, oX11 r0 I_0_imaged)), ((r0 9), .inr (1, oX1 r0_9 )), ((r0_9 0), .inl (cI, 3, .inl b2)), ((r0_9 1), .inl (cJ, 36, .inr (.inl b3)))] H locs := hM
        refine lv_iconst (v := (1 : Int32)) hx hb dX11_list_37 (by decide) ?_
        subst hsz; subst hA; subst hQ
        exact m_iret C0 hr hM (b2, b3) h rfl dX11_list_38
      · have h := h.2 hq
        refine lv_bipush (v := (-14 : Int32)) hx hb dX11_list_25 (by decide) ?_
        subst hsz; subst hA; subst hQ
        exact m_iret C0 hr hM (A_0_9_0_sizes, A_0_9_1_longs) h rfl dX11_list_27
    · have h := h.2 hq
      refine lv_bipush (v := (-2 : Int32)) hx hb dX11_list_17 (by decide) ?_
      subst hsz; subst hA; subst hQ
      exact m_iret C0 hr hM (A_0_9_0_sizes, A_0_9_1_longs) h rfl dX11_list_19
  · have h := h.2 hq
    refine lv_iconst (v := (-1 : Int32)) hx hb dX11_list_9 (by decide) ?_
    subst hsz; subst hA; subst hQ
    exact m_iret C0 hr hM (A_0_9_0_sizes, A_0_9_1_longs) h rfl dX11_list_10
