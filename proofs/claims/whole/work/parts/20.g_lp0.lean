theorem hd_X11_set : yX11_set.cls = RX11 ∧ yX11_set.cls ≠ "java/lang/invoke/MethodHandle" ∧ yX11_set.cls ≠ "java/lang/invoke/VarHandle" ∧ (parseMethodDescriptor yX11_set.desc).map (fun d => d.parameters.length) = some 2 := by decide +kernel
theorem hd_X11_of : yX11_of.cls = RX11 ∧ yX11_of.cls ≠ "java/lang/invoke/MethodHandle" ∧ yX11_of.cls ≠ "java/lang/invoke/VarHandle" ∧ (parseMethodDescriptor yX11_of.desc).map (fun d => d.parameters.length) = some 1 := by decide +kernel
theorem hd_X11_degree : yX11_degree.cls = RX11 ∧ yX11_degree.cls ≠ "java/lang/invoke/MethodHandle" ∧ yX11_degree.cls ≠ "java/lang/invoke/VarHandle" ∧ (parseMethodDescriptor yX11_degree.desc).map (fun d => d.parameters.length) = some 0 := by decide +kernel
theorem hd_X11_put : yX11_put.cls = RX11 ∧ yX11_put.cls ≠ "java/lang/invoke/MethodHandle" ∧ yX11_put.cls ≠ "java/lang/invoke/VarHandle" ∧ (parseMethodDescriptor yX11_put.desc).map (fun d => d.parameters.length) = some 4 := by decide +kernel
theorem hd_X11_get : yX11_get.cls = RX11 ∧ yX11_get.cls ≠ "java/lang/invoke/MethodHandle" ∧ yX11_get.cls ≠ "java/lang/invoke/VarHandle" ∧ (parseMethodDescriptor yX11_get.desc).map (fun d => d.parameters.length) = some 3 := by decide +kernel
theorem hd_X11_clear : yX11_clear.cls = RX11 ∧ yX11_clear.cls ≠ "java/lang/invoke/MethodHandle" ∧ yX11_clear.cls ≠ "java/lang/invoke/VarHandle" ∧ (parseMethodDescriptor yX11_clear.desc).map (fun d => d.parameters.length) = some 0 := by decide +kernel
theorem hd_X11_order : yX11_order.cls = RX11 ∧ yX11_order.cls ≠ "java/lang/invoke/MethodHandle" ∧ yX11_order.cls ≠ "java/lang/invoke/VarHandle" ∧ (parseMethodDescriptor yX11_order.desc).map (fun d => d.parameters.length) = some 0 := by decide +kernel
theorem hd_X11_work : yX11_work.cls = RX11 ∧ yX11_work.cls ≠ "java/lang/invoke/MethodHandle" ∧ yX11_work.cls ≠ "java/lang/invoke/VarHandle" ∧ (parseMethodDescriptor yX11_work.desc).map (fun d => d.parameters.length) = some 2 := by decide +kernel
theorem hd_X11_right : yX11_right.cls = RX11 ∧ yX11_right.cls ≠ "java/lang/invoke/MethodHandle" ∧ yX11_right.cls ≠ "java/lang/invoke/VarHandle" ∧ (parseMethodDescriptor yX11_right.desc).map (fun d => d.parameters.length) = some 1 := by decide +kernel
theorem hd_X11_search : yX11_search.cls = RX11 ∧ yX11_search.cls ≠ "java/lang/invoke/MethodHandle" ∧ yX11_search.cls ≠ "java/lang/invoke/VarHandle" ∧ (parseMethodDescriptor yX11_search.desc).map (fun d => d.parameters.length) = some 3 := by decide +kernel
theorem hd_X11_found : yX11_found.cls = RX11 ∧ yX11_found.cls ≠ "java/lang/invoke/MethodHandle" ∧ yX11_found.cls ≠ "java/lang/invoke/VarHandle" ∧ (parseMethodDescriptor yX11_found.desc).map (fun d => d.parameters.length) = some 1 := by decide +kernel
theorem hd_X11_foundOf : yX11_foundOf.cls = RX11 ∧ yX11_foundOf.cls ≠ "java/lang/invoke/MethodHandle" ∧ yX11_foundOf.cls ≠ "java/lang/invoke/VarHandle" ∧ (parseMethodDescriptor yX11_foundOf.desc).map (fun d => d.parameters.length) = some 3 := by decide +kernel
theorem hd_X11_take : yX11_take.cls = RX11 ∧ yX11_take.cls ≠ "java/lang/invoke/MethodHandle" ∧ yX11_take.cls ≠ "java/lang/invoke/VarHandle" ∧ (parseMethodDescriptor yX11_take.desc).map (fun d => d.parameters.length) = some 0 := by decide +kernel
theorem hd_X11_roots : yX11_roots.cls = RX11 ∧ yX11_roots.cls ≠ "java/lang/invoke/MethodHandle" ∧ yX11_roots.cls ≠ "java/lang/invoke/VarHandle" ∧ (parseMethodDescriptor yX11_roots.desc).map (fun d => d.parameters.length) = some 0 := by decide +kernel
theorem hd_X11_root : yX11_root.cls = RX11 ∧ yX11_root.cls ≠ "java/lang/invoke/MethodHandle" ∧ yX11_root.cls ≠ "java/lang/invoke/VarHandle" ∧ (parseMethodDescriptor yX11_root.desc).map (fun d => d.parameters.length) = some 2 := by decide +kernel
theorem hd_X11_easy : yX11_easy.cls = RX11 ∧ yX11_easy.cls ≠ "java/lang/invoke/MethodHandle" ∧ yX11_easy.cls ≠ "java/lang/invoke/VarHandle" ∧ (parseMethodDescriptor yX11_easy.desc).map (fun d => d.parameters.length) = some 2 := by decide +kernel
theorem hd_X11_direct : yX11_direct.cls = RX11 ∧ yX11_direct.cls ≠ "java/lang/invoke/MethodHandle" ∧ yX11_direct.cls ≠ "java/lang/invoke/VarHandle" ∧ (parseMethodDescriptor yX11_direct.desc).map (fun d => d.parameters.length) = some 2 := by decide +kernel
theorem kt_X11_clear_X11 : ∀ w ∈ u_ws RX11 TX11 12, w ∈ wsX11_clear := fun _ h => List.mem_cons_of_mem _ (List.mem_append_left _ (List.mem_append_left _ (List.mem_append_right _ (h))))
theorem kt_X11_clear_X4 : ∀ w ∈ u_ws RX4 TX4 1, w ∈ wsX11_clear := fun _ h => List.mem_cons_of_mem _ (List.mem_append_right _ (h))
theorem kt_X11_clear_X9 : ∀ w ∈ u_ws RX9 TX9 4, w ∈ wsX11_clear := fun _ h => List.mem_cons_of_mem _ (List.mem_append_left _ (List.mem_append_right _ (h)))
theorem kt_X11_degree_X11 : ∀ w ∈ u_ws RX11 TX11 12, w ∈ wsX11_degree := fun _ h => List.mem_cons_of_mem _ (List.mem_append_left _ (List.mem_append_right _ (h)))
theorem kt_X11_degree_X9 : ∀ w ∈ u_ws RX9 TX9 4, w ∈ wsX11_degree := fun _ h => List.mem_cons_of_mem _ (List.mem_append_right _ (h))
theorem kt_X11_direct_X11 : ∀ w ∈ u_ws RX11 TX11 12, w ∈ wsX11_direct := fun _ h => List.mem_cons_of_mem _ (List.mem_append_left _ (List.mem_append_left _ (List.mem_append_left _ (List.mem_append_right _ (h)))))
theorem kt_X11_direct_X2 : ∀ w ∈ u_ws RX2 TX2 6, w ∈ wsX11_direct := fun _ h => List.mem_cons_of_mem _ (List.mem_append_left _ (List.mem_append_right _ (h)))
theorem kt_X11_direct_X9 : ∀ w ∈ u_ws RX9 TX9 4, w ∈ wsX11_direct := fun _ h => List.mem_cons_of_mem _ (List.mem_append_left _ (List.mem_append_left _ (List.mem_append_right _ (h))))
theorem kt_X11_easy_X11 : ∀ w ∈ u_ws RX11 TX11 12, w ∈ wsX11_easy := fun _ h => List.mem_cons_of_mem _ (List.mem_append_right _ (h))
theorem kt_X11_found_X0 : ∀ w ∈ u_ws RX0 TX0 7, w ∈ wsX11_found := fun _ h => List.mem_cons_of_mem _ (List.mem_append_right _ (h))
theorem kt_X11_found_X11 : ∀ w ∈ u_ws RX11 TX11 12, w ∈ wsX11_found := fun _ h => List.mem_cons_of_mem _ (List.mem_append_left _ (List.mem_append_left _ (List.mem_append_right _ (h))))
theorem kt_X11_found_X9 : ∀ w ∈ u_ws RX9 TX9 4, w ∈ wsX11_found := fun _ h => List.mem_cons_of_mem _ (List.mem_append_left _ (List.mem_append_right _ (h)))
theorem kt_X11_foundOf_X0 : ∀ w ∈ u_ws RX0 TX0 7, w ∈ wsX11_foundOf := fun _ h => List.mem_cons_of_mem _ (List.mem_append_left _ (List.mem_append_right _ (h)))
theorem kt_X11_foundOf_X11 : ∀ w ∈ u_ws RX11 TX11 12, w ∈ wsX11_foundOf := fun _ h => List.mem_cons_of_mem _ (List.mem_append_left _ (List.mem_append_left _ (List.mem_append_left _ (List.mem_append_right _ (h)))))
theorem kt_X11_foundOf_X4 : ∀ w ∈ u_ws RX4 TX4 1, w ∈ wsX11_foundOf := fun _ h => List.mem_cons_of_mem _ (List.mem_append_right _ (h))
theorem kt_X11_foundOf_X9 : ∀ w ∈ u_ws RX9 TX9 4, w ∈ wsX11_foundOf := fun _ h => List.mem_cons_of_mem _ (List.mem_append_left _ (List.mem_append_left _ (List.mem_append_right _ (h))))
theorem kt_X11_get_X11 : ∀ w ∈ u_ws RX11 TX11 12, w ∈ wsX11_get := fun _ h => List.mem_cons_of_mem _ (List.mem_append_left _ (List.mem_append_left _ (List.mem_append_right _ (h))))
theorem kt_X11_get_X4 : ∀ w ∈ u_ws RX4 TX4 1, w ∈ wsX11_get := fun _ h => List.mem_cons_of_mem _ (List.mem_append_right _ (h))
theorem kt_X11_get_X9 : ∀ w ∈ u_ws RX9 TX9 4, w ∈ wsX11_get := fun _ h => List.mem_cons_of_mem _ (List.mem_append_left _ (List.mem_append_right _ (h)))
theorem kt_X11_of_X11 : ∀ w ∈ u_ws RX11 TX11 12, w ∈ wsX11_of := fun _ h => List.mem_cons_of_mem _ (List.mem_append_left _ (List.mem_append_right _ (h)))
theorem kt_X11_of_X9 : ∀ w ∈ u_ws RX9 TX9 4, w ∈ wsX11_of := fun _ h => List.mem_cons_of_mem _ (List.mem_append_right _ (h))
theorem kt_X11_order_X11 : ∀ w ∈ u_ws RX11 TX11 12, w ∈ wsX11_order := fun _ h => List.mem_cons_of_mem _ (List.mem_append_left _ (List.mem_append_left _ (List.mem_append_right _ (h))))
theorem kt_X11_order_X9 : ∀ w ∈ u_ws RX9 TX9 4, w ∈ wsX11_order := fun _ h => List.mem_cons_of_mem _ (List.mem_append_left _ (List.mem_append_right _ (h)))
theorem kt_X11_put_X11 : ∀ w ∈ u_ws RX11 TX11 12, w ∈ wsX11_put := fun _ h => List.mem_cons_of_mem _ (List.mem_append_left _ (List.mem_append_left _ (List.mem_append_right _ (h))))
theorem kt_X11_put_X4 : ∀ w ∈ u_ws RX4 TX4 1, w ∈ wsX11_put := fun _ h => List.mem_cons_of_mem _ (List.mem_append_right _ (h))
theorem kt_X11_put_X9 : ∀ w ∈ u_ws RX9 TX9 4, w ∈ wsX11_put := fun _ h => List.mem_cons_of_mem _ (List.mem_append_left _ (List.mem_append_right _ (h)))
theorem kt_X11_right_X11 : ∀ w ∈ u_ws RX11 TX11 12, w ∈ wsX11_right := fun _ h => List.mem_cons_of_mem _ (List.mem_append_left _ (List.mem_append_left _ (List.mem_append_left _ (List.mem_append_right _ (h)))))
theorem kt_X11_right_X2 : ∀ w ∈ u_ws RX2 TX2 6, w ∈ wsX11_right := fun _ h => List.mem_cons_of_mem _ (List.mem_append_left _ (List.mem_append_right _ (h)))
theorem kt_X11_right_X9 : ∀ w ∈ u_ws RX9 TX9 4, w ∈ wsX11_right := fun _ h => List.mem_cons_of_mem _ (List.mem_append_left _ (List.mem_append_left _ (List.mem_append_right _ (h))))
theorem kt_X11_root_X0 : ∀ w ∈ u_ws RX0 TX0 7, w ∈ wsX11_root := fun _ h => List.mem_cons_of_mem _ (List.mem_append_right _ (h))
theorem kt_X11_root_X11 : ∀ w ∈ u_ws RX11 TX11 12, w ∈ wsX11_root := fun _ h => List.mem_cons_of_mem _ (List.mem_append_left _ (List.mem_append_left _ (List.mem_append_right _ (h))))
theorem kt_X11_root_X9 : ∀ w ∈ u_ws RX9 TX9 4, w ∈ wsX11_root := fun _ h => List.mem_cons_of_mem _ (List.mem_append_left _ (List.mem_append_right _ (h)))
theorem kt_X11_roots_X11 : ∀ w ∈ u_ws RX11 TX11 12, w ∈ wsX11_roots := fun _ h => List.mem_cons_of_mem _ (List.mem_append_left _ (List.mem_append_left _ (List.mem_append_right _ (h))))
theorem kt_X11_roots_X9 : ∀ w ∈ u_ws RX9 TX9 4, w ∈ wsX11_roots := fun _ h => List.mem_cons_of_mem _ (List.mem_append_left _ (List.mem_append_right _ (h)))
theorem kt_X11_search_X0 : ∀ w ∈ u_ws RX0 TX0 7, w ∈ wsX11_search := fun _ h => List.mem_cons_of_mem _ (List.mem_append_left _ (List.mem_append_left _ (List.mem_append_left _ (List.mem_append_right _ (h)))))
theorem kt_X11_search_X11 : ∀ w ∈ u_ws RX11 TX11 12, w ∈ wsX11_search := fun _ h => List.mem_cons_of_mem _ (List.mem_append_left _ (List.mem_append_left _ (List.mem_append_left _ (List.mem_append_left _ (List.mem_append_left _ (List.mem_append_right _ (h)))))))
theorem kt_X11_search_X9 : ∀ w ∈ u_ws RX9 TX9 4, w ∈ wsX11_search := fun _ h => List.mem_cons_of_mem _ (List.mem_append_left _ (List.mem_append_left _ (List.mem_append_left _ (List.mem_append_left _ (List.mem_append_right _ (h))))))
theorem kt_X11_set_X11 : ∀ w ∈ u_ws RX11 TX11 12, w ∈ wsX11_set := fun _ h => List.mem_cons_of_mem _ (List.mem_append_left _ (List.mem_append_right _ (h)))
theorem kt_X11_set_X9 : ∀ w ∈ u_ws RX9 TX9 4, w ∈ wsX11_set := fun _ h => List.mem_cons_of_mem _ (List.mem_append_right _ (h))
theorem kt_X11_take_X0 : ∀ w ∈ u_ws RX0 TX0 7, w ∈ wsX11_take := fun _ h => List.mem_cons_of_mem _ (List.mem_append_left _ (List.mem_append_right _ (h)))
theorem kt_X11_take_X11 : ∀ w ∈ u_ws RX11 TX11 12, w ∈ wsX11_take := fun _ h => List.mem_cons_of_mem _ (List.mem_append_left _ (List.mem_append_left _ (List.mem_append_left _ (List.mem_append_right _ (h)))))
theorem kt_X11_take_X9 : ∀ w ∈ u_ws RX9 TX9 4, w ∈ wsX11_take := fun _ h => List.mem_cons_of_mem _ (List.mem_append_left _ (List.mem_append_left _ (List.mem_append_right _ (h))))
theorem kt_X11_work_X11 : ∀ w ∈ u_ws RX11 TX11 12, w ∈ wsX11_work := fun _ h => List.mem_cons_of_mem _ (List.mem_append_left _ (List.mem_append_left _ (List.mem_append_left _ (List.mem_append_right _ (h)))))
theorem kt_X11_work_X2 : ∀ w ∈ u_ws RX2 TX2 6, w ∈ wsX11_work := fun _ h => List.mem_cons_of_mem _ (List.mem_append_left _ (List.mem_append_right _ (h)))
theorem kt_X11_work_X9 : ∀ w ∈ u_ws RX9 TX9 4, w ∈ wsX11_work := fun _ h => List.mem_cons_of_mem _ (List.mem_append_left _ (List.mem_append_left _ (List.mem_append_right _ (h))))
theorem kw_X11_set_1 : Cond.fieldLink RX11 12 "LoweredPowers" "now" "LLoweredPowers$State;" ∈ wsX11_set := List.mem_of_getElem? (i := 1) rfl
theorem kw_X11_set_2 : Cond.fieldLink RX11 83 "LoweredPowers$State" "f" "[I" ∈ wsX11_set := List.mem_of_getElem? (i := 2) rfl
theorem kw_X11_set_3 : Cond.constant RX11 86 (100000) ∈ wsX11_set := List.mem_of_getElem? (i := 3) rfl
theorem kw_X11_of_1 : Cond.constant RX11 86 (100000) ∈ wsX11_of := List.mem_of_getElem? (i := 1) rfl
theorem kw_X11_of_2 : Cond.fieldLink RX11 12 "LoweredPowers" "now" "LLoweredPowers$State;" ∈ wsX11_of := List.mem_of_getElem? (i := 2) rfl
theorem kw_X11_of_3 : Cond.fieldLink RX11 83 "LoweredPowers$State" "f" "[I" ∈ wsX11_of := List.mem_of_getElem? (i := 3) rfl
theorem kw_X11_degree_1 : Cond.fieldLink RX11 12 "LoweredPowers" "now" "LLoweredPowers$State;" ∈ wsX11_degree := List.mem_of_getElem? (i := 1) rfl
theorem kw_X11_degree_2 : Cond.fieldLink RX11 83 "LoweredPowers$State" "f" "[I" ∈ wsX11_degree := List.mem_of_getElem? (i := 2) rfl
theorem kw_X11_put_1 : Cond.fieldLink RX11 12 "LoweredPowers" "now" "LLoweredPowers$State;" ∈ wsX11_put := List.mem_of_getElem? (i := 1) rfl
theorem kw_X11_put_2 : Cond.fieldLink RX11 102 "LoweredPowers$State" "operator" "LLoweredPowers$Operator;" ∈ wsX11_put := List.mem_of_getElem? (i := 2) rfl
theorem kw_X11_put_3 : Cond.fieldLink RX11 106 "LoweredPowers$Operator" "numbers" "[I" ∈ wsX11_put := List.mem_of_getElem? (i := 3) rfl
theorem kw_X11_put_4 : Cond.constant RX11 86 (100000) ∈ wsX11_put := List.mem_of_getElem? (i := 4) rfl
theorem kw_X11_get_1 : Cond.constant RX11 86 (100000) ∈ wsX11_get := List.mem_of_getElem? (i := 1) rfl
theorem kw_X11_get_2 : Cond.fieldLink RX11 12 "LoweredPowers" "now" "LLoweredPowers$State;" ∈ wsX11_get := List.mem_of_getElem? (i := 2) rfl
theorem kw_X11_get_3 : Cond.fieldLink RX11 102 "LoweredPowers$State" "operator" "LLoweredPowers$Operator;" ∈ wsX11_get := List.mem_of_getElem? (i := 3) rfl
theorem kw_X11_get_4 : Cond.fieldLink RX11 106 "LoweredPowers$Operator" "numbers" "[I" ∈ wsX11_get := List.mem_of_getElem? (i := 4) rfl
theorem kw_X11_clear_1 : Cond.fieldLink RX11 12 "LoweredPowers" "now" "LLoweredPowers$State;" ∈ wsX11_clear := List.mem_of_getElem? (i := 1) rfl
theorem kw_X11_clear_2 : Cond.fieldLink RX11 102 "LoweredPowers$State" "operator" "LLoweredPowers$Operator;" ∈ wsX11_clear := List.mem_of_getElem? (i := 2) rfl
theorem kw_X11_clear_3 : Cond.fieldLink RX11 106 "LoweredPowers$Operator" "numbers" "[I" ∈ wsX11_clear := List.mem_of_getElem? (i := 3) rfl
theorem kw_X11_order_1 : Cond.fieldLink RX11 12 "LoweredPowers" "now" "LLoweredPowers$State;" ∈ wsX11_order := List.mem_of_getElem? (i := 1) rfl
theorem kw_X11_order_2 : Cond.fieldLink RX11 102 "LoweredPowers$State" "operator" "LLoweredPowers$Operator;" ∈ wsX11_order := List.mem_of_getElem? (i := 2) rfl
theorem kw_X11_work_1 : Cond.fieldLink RX11 28 "LoweredPowers" "lowering" "LLoweredPowers$Lowering;" ∈ wsX11_work := List.mem_of_getElem? (i := 1) rfl
theorem kw_X11_work_2 : Cond.fieldLink RX11 12 "LoweredPowers" "now" "LLoweredPowers$State;" ∈ wsX11_work := List.mem_of_getElem? (i := 2) rfl
theorem kw_X11_work_3 : Cond.fieldLink RX11 102 "LoweredPowers$State" "operator" "LLoweredPowers$Operator;" ∈ wsX11_work := List.mem_of_getElem? (i := 3) rfl
theorem kw_X11_work_4 : Cond.fieldLink RX11 83 "LoweredPowers$State" "f" "[I" ∈ wsX11_work := List.mem_of_getElem? (i := 4) rfl
theorem kw_X11_work_5 : Cond.constant RX11 86 (100000) ∈ wsX11_work := List.mem_of_getElem? (i := 5) rfl
theorem kw_X11_work_6 : Cond.fieldLink RX11 126 "LoweredPowers$Lowering" "sum" "[I" ∈ wsX11_work := List.mem_of_getElem? (i := 6) rfl
theorem kw_X11_right_1 : Cond.fieldLink RX11 12 "LoweredPowers" "now" "LLoweredPowers$State;" ∈ wsX11_right := List.mem_of_getElem? (i := 1) rfl
theorem kw_X11_right_2 : Cond.fieldLink RX11 83 "LoweredPowers$State" "f" "[I" ∈ wsX11_right := List.mem_of_getElem? (i := 2) rfl
theorem kw_X11_right_3 : Cond.fieldLink RX11 28 "LoweredPowers" "lowering" "LLoweredPowers$Lowering;" ∈ wsX11_right := List.mem_of_getElem? (i := 3) rfl
theorem kw_X11_right_4 : Cond.fieldLink RX11 102 "LoweredPowers$State" "operator" "LLoweredPowers$Operator;" ∈ wsX11_right := List.mem_of_getElem? (i := 4) rfl
theorem kw_X11_right_6 : Cond.constant RX11 86 (100000) ∈ wsX11_right := List.mem_of_getElem? (i := 6) rfl
theorem kw_X11_right_5 : Cond.fieldLink RX11 133 "LoweredPowers$Lowering" "b" "[I" ∈ wsX11_right := List.mem_of_getElem? (i := 5) rfl
theorem kw_X11_search_1 : Cond.fieldLink RX11 12 "LoweredPowers" "now" "LLoweredPowers$State;" ∈ wsX11_search := List.mem_of_getElem? (i := 1) rfl
theorem kw_X11_search_2 : Cond.fieldLink RX11 83 "LoweredPowers$State" "f" "[I" ∈ wsX11_search := List.mem_of_getElem? (i := 2) rfl
theorem kw_X11_search_3 : Cond.fieldLink RX11 35 "LoweredPowers" "searching" "LLoweredPowers$Search;" ∈ wsX11_search := List.mem_of_getElem? (i := 3) rfl
theorem kw_X11_search_4 : Cond.fieldLink RX11 28 "LoweredPowers" "lowering" "LLoweredPowers$Lowering;" ∈ wsX11_search := List.mem_of_getElem? (i := 4) rfl
theorem kw_X11_search_5 : Cond.fieldLink RX11 140 "LoweredPowers$State" "found" "LLoweredPowers$Found;" ∈ wsX11_search := List.mem_of_getElem? (i := 5) rfl
theorem kw_X11_search_6 : Cond.fieldLink RX11 144 "LoweredPowers$Found" "top" "I" ∈ wsX11_search := List.mem_of_getElem? (i := 6) rfl
theorem kw_X11_found_1 : Cond.fieldLink RX11 12 "LoweredPowers" "now" "LLoweredPowers$State;" ∈ wsX11_found := List.mem_of_getElem? (i := 1) rfl
theorem kw_X11_found_2 : Cond.fieldLink RX11 140 "LoweredPowers$State" "found" "LLoweredPowers$Found;" ∈ wsX11_found := List.mem_of_getElem? (i := 2) rfl
theorem kw_X11_found_3 : Cond.fieldLink RX11 144 "LoweredPowers$Found" "top" "I" ∈ wsX11_found := List.mem_of_getElem? (i := 3) rfl
theorem kw_X11_found_4 : Cond.constant RX11 86 (100000) ∈ wsX11_found := List.mem_of_getElem? (i := 4) rfl
theorem kw_X11_found_5 : Cond.fieldLink RX11 154 "LoweredPowers$Found" "b" "[I" ∈ wsX11_found := List.mem_of_getElem? (i := 5) rfl
theorem kw_X11_foundOf_1 : Cond.fieldLink RX11 12 "LoweredPowers" "now" "LLoweredPowers$State;" ∈ wsX11_foundOf := List.mem_of_getElem? (i := 1) rfl
theorem kw_X11_foundOf_2 : Cond.fieldLink RX11 140 "LoweredPowers$State" "found" "LLoweredPowers$Found;" ∈ wsX11_foundOf := List.mem_of_getElem? (i := 2) rfl
theorem kw_X11_foundOf_3 : Cond.constant RX11 86 (100000) ∈ wsX11_foundOf := List.mem_of_getElem? (i := 3) rfl
theorem kw_X11_foundOf_4 : Cond.fieldLink RX11 155 "LoweredPowers$Found" "operator" "LLoweredPowers$Operator;" ∈ wsX11_foundOf := List.mem_of_getElem? (i := 4) rfl
theorem kw_X11_foundOf_5 : Cond.fieldLink RX11 106 "LoweredPowers$Operator" "numbers" "[I" ∈ wsX11_foundOf := List.mem_of_getElem? (i := 5) rfl
theorem kw_X11_take_1 : Cond.fieldLink RX11 12 "LoweredPowers" "now" "LLoweredPowers$State;" ∈ wsX11_take := List.mem_of_getElem? (i := 1) rfl
theorem kw_X11_take_2 : Cond.fieldLink RX11 140 "LoweredPowers$State" "found" "LLoweredPowers$Found;" ∈ wsX11_take := List.mem_of_getElem? (i := 2) rfl
theorem kw_X11_take_3 : Cond.fieldLink RX11 102 "LoweredPowers$State" "operator" "LLoweredPowers$Operator;" ∈ wsX11_take := List.mem_of_getElem? (i := 3) rfl
theorem kw_X11_take_4 : Cond.fieldLink RX11 155 "LoweredPowers$Found" "operator" "LLoweredPowers$Operator;" ∈ wsX11_take := List.mem_of_getElem? (i := 4) rfl
theorem kw_X11_roots_1 : Cond.fieldLink RX11 12 "LoweredPowers" "now" "LLoweredPowers$State;" ∈ wsX11_roots := List.mem_of_getElem? (i := 1) rfl
theorem kw_X11_roots_2 : Cond.fieldLink RX11 140 "LoweredPowers$State" "found" "LLoweredPowers$Found;" ∈ wsX11_roots := List.mem_of_getElem? (i := 2) rfl
theorem kw_X11_root_1 : Cond.fieldLink RX11 12 "LoweredPowers" "now" "LLoweredPowers$State;" ∈ wsX11_root := List.mem_of_getElem? (i := 1) rfl
theorem kw_X11_root_2 : Cond.fieldLink RX11 140 "LoweredPowers$State" "found" "LLoweredPowers$Found;" ∈ wsX11_root := List.mem_of_getElem? (i := 2) rfl
theorem kw_X11_root_3 : Cond.fieldLink RX11 163 "LoweredPowers$Found" "above" "[I" ∈ wsX11_root := List.mem_of_getElem? (i := 3) rfl
theorem kw_X11_root_4 : Cond.fieldLink RX11 166 "LoweredPowers$Found" "below" "[I" ∈ wsX11_root := List.mem_of_getElem? (i := 4) rfl
theorem kw_X11_root_5 : Cond.fieldLink RX11 169 "LoweredPowers$Found" "often" "[I" ∈ wsX11_root := List.mem_of_getElem? (i := 5) rfl
theorem kw_X11_easy_2 : Cond.constant RX11 86 (100000) ∈ wsX11_easy := List.mem_of_getElem? (i := 2) rfl
theorem kw_X11_easy_1 : Cond.fieldLink RX11 76 "LoweredPowers" "product" "[I" ∈ wsX11_easy := List.mem_of_getElem? (i := 1) rfl
theorem kw_X11_direct_1 : Cond.fieldLink RX11 28 "LoweredPowers" "lowering" "LLoweredPowers$Lowering;" ∈ wsX11_direct := List.mem_of_getElem? (i := 1) rfl
theorem kw_X11_direct_2 : Cond.fieldLink RX11 12 "LoweredPowers" "now" "LLoweredPowers$State;" ∈ wsX11_direct := List.mem_of_getElem? (i := 2) rfl
theorem kw_X11_direct_3 : Cond.fieldLink RX11 102 "LoweredPowers$State" "operator" "LLoweredPowers$Operator;" ∈ wsX11_direct := List.mem_of_getElem? (i := 3) rfl
theorem kw_X11_direct_4 : Cond.fieldLink RX11 83 "LoweredPowers$State" "f" "[I" ∈ wsX11_direct := List.mem_of_getElem? (i := 4) rfl
theorem kw_X11_direct_5 : Cond.constant RX11 86 (100000) ∈ wsX11_direct := List.mem_of_getElem? (i := 5) rfl
theorem kw_X11_direct_6 : Cond.fieldLink RX11 184 "LoweredPowers$Lowering" "whole" "[I" ∈ wsX11_direct := List.mem_of_getElem? (i := 6) rfl
abbrev rm_X11_set : Room := { frames := 1, cells := 0, slots := 0, locals := 22 }
set_option maxRecDepth 100000 in
set_option maxHeartbeats 4000000 in
theorem ct_X11_set (l : Launch) (D : va_G) (cI cJ cZ : ClassId) (h0 : Nat) (r0 : Nat → Nat) (r0_0 : Nat → Nat) (I_0_imaged : Int32) (A_0_0_0_f : (Nat → Int32)) (x1 : Int32) (x2 : Int32) (sz : Nat) (K : Int32 → (Nat → Int32) → Prop) (h : wp_X11_set x1 x2 A_0_0_0_f K) : Met l yX11_set wsX11_set rm_X11_set (va_Pc [.ref h0, .int x1, .int x2] (WX D cI cJ cZ [(h0, .inr (10, oX11 r0 I_0_imaged)), ((r0 0), .inr (8, oX9 r0_0 )), ((r0_0 0), .inl (cI, 5, .inl A_0_0_0_f))] sz)) (va_Qi (fun (r : Int32) (u : (Nat → Int32)) => K r u) (fun (u : (Nat → Int32)) t => WY D (va_A [(h0, .inr (10, oX11 r0 I_0_imaged)), ((r0 0), .inr (8, oX9 r0_0 )), ((r0_0 0), .inl (cI, 5, .inl A_0_0_0_f))] sz) [(h0, .inr (10, oX11 r0 I_0_imaged)), ((r0 0), .inr (8, oX9 r0_0 )), ((r0_0 0), .inl (cI, 5, .inl u))] t) (va_A [(h0, .inr (10, oX11 r0 I_0_imaged)), ((r0 0), .inr (8, oX9 r0_0 )), ((r0_0 0), .inl (cI, 5, .inl A_0_0_0_f))] sz)) 0 0 (va_A [(h0, .inr (10, oX11 r0 I_0_imaged)), ((r0 0), .inr (8, oX9 r0_0 )), ((r0_0 0), .inl (cI, 5, .inl A_0_0_0_f))] sz) := by
  refine m_met (own := RX11) (cc := cX11_set) (maxL := 4) (ret := some .int) [.ref h0, .int x1, .int x2] [(0, .ref h0), (1, .int x1), (2, .int x2)] (by decide) rfl rfl (Nat.le_of_ble_eq_true rfl) rfl ?_
  intro p e s m args below meth c Q A hQ hA C0 hr hnm hsz hM ls hl
  have hx := C0.1
  have hb := C0.2.1
  have hown := C0.2.2.2.1
  unfold wp_X11_set at h
  refine lv_iload_n hx hb dX11_set_0 rfl (lv_at hl 1 rfl) ?_
  refine lv_iconst (v := (0 : Int32)) hx hb dX11_set_1 (by decide) ?_
  refine lv_iconst (v := (4 : Int32)) hx hb dX11_set_2 (by decide) ?_
  refine m_calli (wc := []) C0 hM [] rfl (m_runS (wc := []) (As := [.int x1, .int (0 : Int32), .int (4 : Int32)]) (rest := []) C0 hM (ct_X11_within l D cI cJ cZ x1 (0 : Int32) (4 : Int32) _ _ h) [] rfl (by decide) gX11_set_X11_within rfl rfl rfl hd_X11_within ⟨Nat.le_of_ble_eq_true rfl, Nat.le_of_ble_eq_true rfl⟩ rfl hl.1 rfl (Nat.le_of_ble_eq_true rfl) dX11_set_3 ⟨Nat.le_of_ble_eq_true rfl, Nat.le_of_ble_eq_true rfl⟩) (fun _ => [(h0, .inr (10, oX11 r0 I_0_imaged)), ((r0 0), .inr (8, oX9 r0_0 )), ((r0_0 0), .inl (cI, 5, .inl A_0_0_0_f))]) (fun _ => rfl) (fun _ => rfl) (fun y1 _ H locs h hM => ?_)
  refine lv_if_ne (tgt := 11) hx hb dX11_set_6 (by decide) (fun hq => ?_) (fun hq => ?_)
  · have h := h.1 hq
    refine lv_iload_n hx hb dX11_set_11 rfl (lv_at hl 2 rfl) ?_
    refine lv_sipush (v := (-5003 : Int32)) hx hb dX11_set_12 (by decide) ?_
    refine lv_sipush (v := (5003 : Int32)) hx hb dX11_set_15 (by decide) ?_
    refine m_calli (wc := []) C0 hM [] rfl (m_runS (wc := []) (As := [.int x2, .int (-5003 : Int32), .int (5003 : Int32)]) (rest := []) C0 hM (ct_X11_within l D cI cJ cZ x2 (-5003 : Int32) (5003 : Int32) _ _ h) [] rfl (by decide) gX11_set_X11_within rfl rfl rfl hd_X11_within ⟨Nat.le_of_ble_eq_true rfl, Nat.le_of_ble_eq_true rfl⟩ rfl hl.1 rfl (Nat.le_of_ble_eq_true rfl) dX11_set_18 ⟨Nat.le_of_ble_eq_true rfl, Nat.le_of_ble_eq_true rfl⟩) (fun _ => [(h0, .inr (10, oX11 r0 I_0_imaged)), ((r0 0), .inr (8, oX9 r0_0 )), ((r0_0 0), .inl (cI, 5, .inl A_0_0_0_f))]) (fun _ => rfl) (fun _ => rfl) (fun y2 _ H locs h hM => ?_)
    refine lv_if_ne (tgt := 27) hx hb dX11_set_21 (by decide) (fun hq => ?_) (fun hq => ?_)
    · have h := h.1 hq
      refine lv_aload_n hx hb dX11_set_27 rfl (lv_at hl 0 rfl) ?_
      refine m_get (C := RX11) (T := TX11) (N := 12) (ci := 10) (ref := "LoweredPowers") (v := .ref (r0 0)) C0 hM 0 rfl rfl kt_X11_set_X11 0 (by decide) kw_X11_set_1 rfl rfl dX11_set_28 ?_
      refine m_get (C := RX9) (T := TX9) (N := 4) (ci := 8) (ref := "LoweredPowers$State") (v := .ref (r0_0 0)) C0 hM 1 rfl rfl kt_X11_set_X9 0 (by decide) kw_X11_set_2 rfl rfl dX11_set_31 ?_
      refine lv_iload_n hx hb dX11_set_34 rfl (lv_at hl 1 rfl) ?_
      obtain ⟨hc3, h⟩ := h
      refine m_iald C0 hM 2 rfl hc3 dX11_set_35 ?_
      refine lv_topi (fun y4 ey4 => ?_)
      have h := h y4 ey4
      refine lv_istore_n (lv' := [(3, .int y4), (0, .ref h0), (1, .int x1), (2, .int x2)]) hx hb dX11_set_36 rfl hl (by decide) rfl (fun ls hl => ?_)
      refine lv_aload_n hx hb dX11_set_37 rfl (lv_at hl 1 rfl) ?_
      refine m_get (C := RX11) (T := TX11) (N := 12) (ci := 10) (ref := "LoweredPowers") (v := .ref (r0 0)) C0 hM 0 rfl rfl kt_X11_set_X11 0 (by decide) kw_X11_set_1 rfl rfl dX11_set_38 ?_
      refine m_get (C := RX9) (T := TX9) (N := 4) (ci := 8) (ref := "LoweredPowers$State") (v := .ref (r0_0 0)) C0 hM 1 rfl rfl kt_X11_set_X9 0 (by decide) kw_X11_set_2 rfl rfl dX11_set_41 ?_
      refine lv_iload_n hx hb dX11_set_44 rfl (lv_at hl 2 rfl) ?_
      refine lv_iload_n hx hb dX11_set_45 rfl (lv_at hl 3 rfl) ?_
      refine m_iast (ws' := [(h0, .inr (10, oX11 r0 I_0_imaged)), ((r0 0), .inr (8, oX9 r0_0 )), ((r0_0 0), .inl (cI, 5, .inl (upd A_0_0_0_f (x1).toNatClampNeg x2)))]) C0 hM 2 rfl hc3 rfl dX11_set_46 (fun H locs hM => ?_)
      refine lv_ldc (v := (100000 : Int32)) hx hb hown (C0.2.2.2.2.1 _ kw_X11_set_3) dX11_set_47 ?_
      refine lv_iload_n hx hb dX11_set_49 rfl (lv_at hl 0 rfl) ?_
      refine lv_iadd hx hb dX11_set_50 ?_
      subst hsz; subst hA; subst hQ
      exact m_iret C0 hr hM (upd A_0_0_0_f (x1).toNatClampNeg x2) h rfl dX11_set_51
    · have h := h.2 hq
      refine lv_bipush (v := (-2 : Int32)) hx hb dX11_set_24 (by decide) ?_
      subst hsz; subst hA; subst hQ
      exact m_iret C0 hr hM A_0_0_0_f h rfl dX11_set_26
  · have h := h.2 hq
    refine lv_iconst (v := (-1 : Int32)) hx hb dX11_set_9 (by decide) ?_
    subst hsz; subst hA; subst hQ
    exact m_iret C0 hr hM A_0_0_0_f h rfl dX11_set_10
abbrev rm_X11_of : Room := { frames := 1, cells := 0, slots := 0, locals := 22 }
set_option maxRecDepth 100000 in
set_option maxHeartbeats 4000000 in
theorem ct_X11_of (l : Launch) (D : va_G) (cI cJ cZ : ClassId) (h0 : Nat) (r0 : Nat → Nat) (r0_0 : Nat → Nat) (I_0_imaged : Int32) (A_0_0_0_f : (Nat → Int32)) (x1 : Int32) (sz : Nat) (K : Int32 → Prop) (h : wp_X11_of x1 A_0_0_0_f K) : Met l yX11_of wsX11_of rm_X11_of (va_Pc [.ref h0, .int x1] (WX D cI cJ cZ [(h0, .inr (10, oX11 r0 I_0_imaged)), ((r0 0), .inr (8, oX9 r0_0 )), ((r0_0 0), .inl (cI, 5, .inl A_0_0_0_f))] sz)) (va_Qi (fun (r : Int32) (_ : Unit) => K r ) (fun (_ : Unit) t => WY D (va_A [(h0, .inr (10, oX11 r0 I_0_imaged)), ((r0 0), .inr (8, oX9 r0_0 )), ((r0_0 0), .inl (cI, 5, .inl A_0_0_0_f))] sz) [(h0, .inr (10, oX11 r0 I_0_imaged)), ((r0 0), .inr (8, oX9 r0_0 )), ((r0_0 0), .inl (cI, 5, .inl A_0_0_0_f))] t) (va_A [(h0, .inr (10, oX11 r0 I_0_imaged)), ((r0 0), .inr (8, oX9 r0_0 )), ((r0_0 0), .inl (cI, 5, .inl A_0_0_0_f))] sz)) 0 0 (va_A [(h0, .inr (10, oX11 r0 I_0_imaged)), ((r0 0), .inr (8, oX9 r0_0 )), ((r0_0 0), .inl (cI, 5, .inl A_0_0_0_f))] sz) := by
  refine m_met (own := RX11) (cc := cX11_of) (maxL := 2) (ret := some .int) [.ref h0, .int x1] [(0, .ref h0), (1, .int x1)] (by decide) rfl rfl (Nat.le_of_ble_eq_true rfl) rfl ?_
  intro p e s m args below meth c Q A hQ hA C0 hr hnm hsz hM ls hl
  have hx := C0.1
  have hb := C0.2.1
  have hown := C0.2.2.2.1
  unfold wp_X11_of at h
  refine lv_iload_n hx hb dX11_of_0 rfl (lv_at hl 1 rfl) ?_
  refine lv_iconst (v := (0 : Int32)) hx hb dX11_of_1 (by decide) ?_
  refine lv_iconst (v := (4 : Int32)) hx hb dX11_of_2 (by decide) ?_
  refine m_calli (wc := []) C0 hM [] rfl (m_runS (wc := []) (As := [.int x1, .int (0 : Int32), .int (4 : Int32)]) (rest := []) C0 hM (ct_X11_within l D cI cJ cZ x1 (0 : Int32) (4 : Int32) _ _ h) [] rfl (by decide) gX11_of_X11_within rfl rfl rfl hd_X11_within ⟨Nat.le_of_ble_eq_true rfl, Nat.le_of_ble_eq_true rfl⟩ rfl hl.1 rfl (Nat.le_of_ble_eq_true rfl) dX11_of_3 ⟨Nat.le_of_ble_eq_true rfl, Nat.le_of_ble_eq_true rfl⟩) (fun _ => [(h0, .inr (10, oX11 r0 I_0_imaged)), ((r0 0), .inr (8, oX9 r0_0 )), ((r0_0 0), .inl (cI, 5, .inl A_0_0_0_f))]) (fun _ => rfl) (fun _ => rfl) (fun y1 _ H locs h hM => ?_)
  refine lv_if_eq (tgt := 24) hx hb dX11_of_6 (by decide) (fun hq => ?_) (fun hq => ?_)
  · have h := h.1 hq
    refine lv_iconst (v := (-1 : Int32)) hx hb dX11_of_24 (by decide) ?_
    subst hsz; subst hA; subst hQ
    exact m_iret C0 hr hM () h rfl dX11_of_25
  · have h := h.2 hq
    refine lv_ldc (v := (100000 : Int32)) hx hb hown (C0.2.2.2.2.1 _ kw_X11_of_1) dX11_of_9 ?_
    refine lv_aload_n hx hb dX11_of_11 rfl (lv_at hl 0 rfl) ?_
    refine m_get (C := RX11) (T := TX11) (N := 12) (ci := 10) (ref := "LoweredPowers") (v := .ref (r0 0)) C0 hM 0 rfl rfl kt_X11_of_X11 0 (by decide) kw_X11_of_2 rfl rfl dX11_of_12 ?_
    refine m_get (C := RX9) (T := TX9) (N := 4) (ci := 8) (ref := "LoweredPowers$State") (v := .ref (r0_0 0)) C0 hM 1 rfl rfl kt_X11_of_X9 0 (by decide) kw_X11_of_3 rfl rfl dX11_of_15 ?_
    refine lv_iload_n hx hb dX11_of_18 rfl (lv_at hl 1 rfl) ?_
    obtain ⟨hc2, h⟩ := h
    refine m_iald C0 hM 2 rfl hc2 dX11_of_19 ?_
    refine lv_iadd hx hb dX11_of_20 ?_
    refine lv_goto (tgt := 25) hx hb dX11_of_21 (by decide) ?_
    subst hsz; subst hA; subst hQ
    exact m_iret C0 hr hM () h rfl dX11_of_25
abbrev rm_X11_degree : Room := { frames := 1, cells := 0, slots := 0, locals := 21 }
set_option maxRecDepth 100000 in
set_option maxHeartbeats 4000000 in
theorem ct_X11_degree (l : Launch) (D : va_G) (cI cJ cZ : ClassId) (h0 : Nat) (r0 : Nat → Nat) (r0_0 : Nat → Nat) (I_0_imaged : Int32) (A_0_0_0_f : (Nat → Int32)) (sz : Nat) (K : Int32 → Prop) (h : wp_X11_degree A_0_0_0_f K) : Met l yX11_degree wsX11_degree rm_X11_degree (va_Pc [.ref h0] (WX D cI cJ cZ [(h0, .inr (10, oX11 r0 I_0_imaged)), ((r0 0), .inr (8, oX9 r0_0 )), ((r0_0 0), .inl (cI, 5, .inl A_0_0_0_f))] sz)) (va_Qi (fun (r : Int32) (_ : Unit) => K r ) (fun (_ : Unit) t => WY D (va_A [(h0, .inr (10, oX11 r0 I_0_imaged)), ((r0 0), .inr (8, oX9 r0_0 )), ((r0_0 0), .inl (cI, 5, .inl A_0_0_0_f))] sz) [(h0, .inr (10, oX11 r0 I_0_imaged)), ((r0 0), .inr (8, oX9 r0_0 )), ((r0_0 0), .inl (cI, 5, .inl A_0_0_0_f))] t) (va_A [(h0, .inr (10, oX11 r0 I_0_imaged)), ((r0 0), .inr (8, oX9 r0_0 )), ((r0_0 0), .inl (cI, 5, .inl A_0_0_0_f))] sz)) 0 0 (va_A [(h0, .inr (10, oX11 r0 I_0_imaged)), ((r0 0), .inr (8, oX9 r0_0 )), ((r0_0 0), .inl (cI, 5, .inl A_0_0_0_f))] sz) := by
  refine m_met (own := RX11) (cc := cX11_degree) (maxL := 1) (ret := some .int) [.ref h0] [(0, .ref h0)] (by decide) rfl rfl (Nat.le_of_ble_eq_true rfl) rfl ?_
  intro p e s m args below meth c Q A hQ hA C0 hr hnm hsz hM ls hl
  have hx := C0.1
  have hb := C0.2.1
  have hown := C0.2.2.2.1
  unfold wp_X11_degree at h
  refine lv_aload_n hx hb dX11_degree_0 rfl (lv_at hl 0 rfl) ?_
  refine m_get (C := RX11) (T := TX11) (N := 12) (ci := 10) (ref := "LoweredPowers") (v := .ref (r0 0)) C0 hM 0 rfl rfl kt_X11_degree_X11 0 (by decide) kw_X11_degree_1 rfl rfl dX11_degree_1 ?_
  refine m_get (C := RX9) (T := TX9) (N := 4) (ci := 8) (ref := "LoweredPowers$State") (v := .ref (r0_0 0)) C0 hM 1 rfl rfl kt_X11_degree_X9 0 (by decide) kw_X11_degree_2 rfl rfl dX11_degree_4 ?_
  refine m_calli (wc := [((r0_0 0), .inl (cI, 5, .inl A_0_0_0_f))]) C0 hM [2] rfl (m_runS (wc := [((r0_0 0), .inl (cI, 5, .inl A_0_0_0_f))]) (As := [.ref (r0_0 0)]) (rest := []) C0 hM (ct_X3_highest l D cI cJ cZ (r0_0 0) 5 A_0_0_0_f _ _ h) [2] rfl (by decide) gX11_degree_X3_highest rfl rfl rfl hd_X3_highest ⟨Nat.le_of_ble_eq_true rfl, Nat.le_of_ble_eq_true rfl⟩ rfl hl.1 rfl (Nat.le_of_ble_eq_true rfl) dX11_degree_7 ⟨Nat.le_of_ble_eq_true rfl, Nat.le_of_ble_eq_true rfl⟩) (fun _ => [(h0, .inr (10, oX11 r0 I_0_imaged)), ((r0 0), .inr (8, oX9 r0_0 )), ((r0_0 0), .inl (cI, 5, .inl A_0_0_0_f))]) (fun _ => rfl) (fun _ => rfl) (fun y1 _ H locs h hM => ?_)
  subst hsz; subst hA; subst hQ
  exact m_iret C0 hr hM () h rfl dX11_degree_10
abbrev rm_X11_put : Room := { frames := 2, cells := 0, slots := 0, locals := 44 }
set_option maxRecDepth 100000 in
set_option maxHeartbeats 4000000 in
theorem ct_X11_put (l : Launch) (D : va_G) (cI cJ cZ : ClassId) (h0 : Nat) (r0 : Nat → Nat) (r0_0 : Nat → Nat) (r0_0_1 : Nat → Nat) (I_0_imaged : Int32) (A_0_0_1_0_numbers : (Nat → Int32)) (x1 : Int32) (x2 : Int32) (x3 : Int32) (x4 : Int32) (sz : Nat) (K : Int32 → (Nat → Int32) → Prop) (h : wp_X11_put x1 x2 x3 x4 A_0_0_1_0_numbers K) : Met l yX11_put wsX11_put rm_X11_put (va_Pc [.ref h0, .int x1, .int x2, .int x3, .int x4] (WX D cI cJ cZ [(h0, .inr (10, oX11 r0 I_0_imaged)), ((r0 0), .inr (8, oX9 r0_0 )), ((r0_0 1), .inr (3, oX4 r0_0_1 )), ((r0_0_1 0), .inl (cI, 75, .inl A_0_0_1_0_numbers))] sz)) (va_Qi (fun (r : Int32) (u : (Nat → Int32)) => K r u) (fun (u : (Nat → Int32)) t => WY D (va_A [(h0, .inr (10, oX11 r0 I_0_imaged)), ((r0 0), .inr (8, oX9 r0_0 )), ((r0_0 1), .inr (3, oX4 r0_0_1 )), ((r0_0_1 0), .inl (cI, 75, .inl A_0_0_1_0_numbers))] sz) [(h0, .inr (10, oX11 r0 I_0_imaged)), ((r0 0), .inr (8, oX9 r0_0 )), ((r0_0 1), .inr (3, oX4 r0_0_1 )), ((r0_0_1 0), .inl (cI, 75, .inl u))] t) (va_A [(h0, .inr (10, oX11 r0 I_0_imaged)), ((r0 0), .inr (8, oX9 r0_0 )), ((r0_0 1), .inr (3, oX4 r0_0_1 )), ((r0_0_1 0), .inl (cI, 75, .inl A_0_0_1_0_numbers))] sz)) 0 0 (va_A [(h0, .inr (10, oX11 r0 I_0_imaged)), ((r0 0), .inr (8, oX9 r0_0 )), ((r0_0 1), .inr (3, oX4 r0_0_1 )), ((r0_0_1 0), .inl (cI, 75, .inl A_0_0_1_0_numbers))] sz) := by
  refine m_met (own := RX11) (cc := cX11_put) (maxL := 7) (ret := some .int) [.ref h0, .int x1, .int x2, .int x3, .int x4] [(0, .ref h0), (1, .int x1), (2, .int x2), (3, .int x3), (4, .int x4)] (by decide) rfl rfl (Nat.le_of_ble_eq_true rfl) rfl ?_
  intro p e s m args below meth c Q A hQ hA C0 hr hnm hsz hM ls hl
  have hx := C0.1
  have hb := C0.2.1
  have hown := C0.2.2.2.1
  unfold wp_X11_put at h
  refine lv_iload_n hx hb dX11_put_0 rfl (lv_at hl 1 rfl) ?_
  refine lv_iload_n hx hb dX11_put_1 rfl (lv_at hl 2 rfl) ?_
  refine lv_iload_n hx hb dX11_put_2 rfl (lv_at hl 3 rfl) ?_
  refine m_calli (wc := []) C0 hM [] rfl (m_runS (wc := []) (As := [.int x1, .int x2, .int x3]) (rest := []) C0 hM (ct_X4_names l D cI cJ cZ x1 x2 x3 _ _ h) [] rfl (by decide) gX11_put_X4_names rfl rfl rfl hd_X4_names ⟨Nat.le_of_ble_eq_true rfl, Nat.le_of_ble_eq_true rfl⟩ rfl hl.1 rfl (Nat.le_of_ble_eq_true rfl) dX11_put_3 ⟨Nat.le_of_ble_eq_true rfl, Nat.le_of_ble_eq_true rfl⟩) (fun _ => [(h0, .inr (10, oX11 r0 I_0_imaged)), ((r0 0), .inr (8, oX9 r0_0 )), ((r0_0 1), .inr (3, oX4 r0_0_1 )), ((r0_0_1 0), .inl (cI, 75, .inl A_0_0_1_0_numbers))]) (fun _ => rfl) (fun _ => rfl) (fun y1 _ H locs h hM => ?_)
  refine lv_if_ne (tgt := 11) hx hb dX11_put_6 (by decide) (fun hq => ?_) (fun hq => ?_)
  · have h := h.1 hq
    refine lv_iload hx hb dX11_put_11 (lv_at hl 4 rfl) ?_
    refine lv_sipush (v := (-5003 : Int32)) hx hb dX11_put_13 (by decide) ?_
    refine lv_sipush (v := (5003 : Int32)) hx hb dX11_put_16 (by decide) ?_
    refine m_calli (wc := []) C0 hM [] rfl (m_runS (wc := []) (As := [.int x4, .int (-5003 : Int32), .int (5003 : Int32)]) (rest := []) C0 hM (ct_X11_within l D cI cJ cZ x4 (-5003 : Int32) (5003 : Int32) _ _ h) [] rfl (by decide) gX11_put_X11_within rfl rfl rfl hd_X11_within ⟨Nat.le_of_ble_eq_true rfl, Nat.le_of_ble_eq_true rfl⟩ rfl hl.1 rfl (Nat.le_of_ble_eq_true rfl) dX11_put_19 ⟨Nat.le_of_ble_eq_true rfl, Nat.le_of_ble_eq_true rfl⟩) (fun _ => [(h0, .inr (10, oX11 r0 I_0_imaged)), ((r0 0), .inr (8, oX9 r0_0 )), ((r0_0 1), .inr (3, oX4 r0_0_1 )), ((r0_0_1 0), .inl (cI, 75, .inl A_0_0_1_0_numbers))]) (fun _ => rfl) (fun _ => rfl) (fun y2 _ H locs h hM => ?_)
    refine lv_if_ne (tgt := 28) hx hb dX11_put_22 (by decide) (fun hq => ?_) (fun hq => ?_)
    · have h := h.1 hq
      refine lv_iload_n hx hb dX11_put_28 rfl (lv_at hl 1 rfl) ?_
      refine lv_iload_n hx hb dX11_put_29 rfl (lv_at hl 2 rfl) ?_
      refine lv_iload_n hx hb dX11_put_30 rfl (lv_at hl 3 rfl) ?_
      refine m_calli (wc := []) C0 hM [] rfl (m_runS (wc := []) (As := [.int x1, .int x2, .int x3]) (rest := []) C0 hM (ct_X4_index l D cI cJ cZ x1 x2 x3 _ _ h) [] rfl (by decide) gX11_put_X4_index rfl rfl rfl hd_X4_index ⟨Nat.le_of_ble_eq_true rfl, Nat.le_of_ble_eq_true rfl⟩ rfl hl.1 rfl (Nat.le_of_ble_eq_true rfl) dX11_put_31 ⟨Nat.le_of_ble_eq_true rfl, Nat.le_of_ble_eq_true rfl⟩) (fun _ => [(h0, .inr (10, oX11 r0 I_0_imaged)), ((r0 0), .inr (8, oX9 r0_0 )), ((r0_0 1), .inr (3, oX4 r0_0_1 )), ((r0_0_1 0), .inl (cI, 75, .inl A_0_0_1_0_numbers))]) (fun _ => rfl) (fun _ => rfl) (fun y3 _ H locs h hM => ?_)
      refine lv_istore (lv' := [(5, .int y3), (0, .ref h0), (1, .int x1), (2, .int x2), (3, .int x3), (4, .int x4)]) hx hb dX11_put_34 hl (by decide) rfl (fun ls hl => ?_)
      refine lv_aload_n hx hb dX11_put_36 rfl (lv_at hl 1 rfl) ?_
      refine m_get (C := RX11) (T := TX11) (N := 12) (ci := 10) (ref := "LoweredPowers") (v := .ref (r0 0)) C0 hM 0 rfl rfl kt_X11_put_X11 0 (by decide) kw_X11_put_1 rfl rfl dX11_put_37 ?_
      refine m_get (C := RX9) (T := TX9) (N := 4) (ci := 8) (ref := "LoweredPowers$State") (v := .ref (r0_0 1)) C0 hM 1 rfl rfl kt_X11_put_X9 1 (by decide) kw_X11_put_2 rfl rfl dX11_put_40 ?_
      refine m_get (C := RX4) (T := TX4) (N := 1) (ci := 3) (ref := "LoweredPowers$Operator") (v := .ref (r0_0_1 0)) C0 hM 2 rfl rfl kt_X11_put_X4 0 (by decide) kw_X11_put_3 rfl rfl dX11_put_43 ?_
      refine lv_iload hx hb dX11_put_46 (lv_at hl 0 rfl) ?_
      obtain ⟨hc4, h⟩ := h
      refine m_iald C0 hM 3 rfl hc4 dX11_put_48 ?_
      refine lv_topi (fun y5 ey5 => ?_)
      have h := h y5 ey5
      refine lv_istore (lv' := [(6, .int y5), (5, .int y3), (0, .ref h0), (1, .int x1), (2, .int x2), (3, .int x3), (4, .int x4)]) hx hb dX11_put_49 hl (by decide) rfl (fun ls hl => ?_)
      refine lv_aload_n hx hb dX11_put_51 rfl (lv_at hl 2 rfl) ?_
      refine m_get (C := RX11) (T := TX11) (N := 12) (ci := 10) (ref := "LoweredPowers") (v := .ref (r0 0)) C0 hM 0 rfl rfl kt_X11_put_X11 0 (by decide) kw_X11_put_1 rfl rfl dX11_put_52 ?_
      refine m_get (C := RX9) (T := TX9) (N := 4) (ci := 8) (ref := "LoweredPowers$State") (v := .ref (r0_0 1)) C0 hM 1 rfl rfl kt_X11_put_X9 1 (by decide) kw_X11_put_2 rfl rfl dX11_put_55 ?_
      refine m_get (C := RX4) (T := TX4) (N := 1) (ci := 3) (ref := "LoweredPowers$Operator") (v := .ref (r0_0_1 0)) C0 hM 2 rfl rfl kt_X11_put_X4 0 (by decide) kw_X11_put_3 rfl rfl dX11_put_58 ?_
      refine lv_iload hx hb dX11_put_61 (lv_at hl 1 rfl) ?_
      refine lv_iload hx hb dX11_put_63 (lv_at hl 6 rfl) ?_
      refine m_iast (ws' := [(h0, .inr (10, oX11 r0 I_0_imaged)), ((r0 0), .inr (8, oX9 r0_0 )), ((r0_0 1), .inr (3, oX4 r0_0_1 )), ((r0_0_1 0), .inl (cI, 75, .inl (upd A_0_0_1_0_numbers (y3).toNatClampNeg x4)))]) C0 hM 3 rfl hc4 rfl dX11_put_65 (fun H locs hM => ?_)
      refine lv_ldc (v := (100000 : Int32)) hx hb hown (C0.2.2.2.2.1 _ kw_X11_put_4) dX11_put_66 ?_
      refine lv_iload hx hb dX11_put_68 (lv_at hl 0 rfl) ?_
      refine lv_iadd hx hb dX11_put_70 ?_
      subst hsz; subst hA; subst hQ
      exact m_iret C0 hr hM (upd A_0_0_1_0_numbers (y3).toNatClampNeg x4) h rfl dX11_put_71
    · have h := h.2 hq
      refine lv_bipush (v := (-2 : Int32)) hx hb dX11_put_25 (by decide) ?_
      subst hsz; subst hA; subst hQ
      exact m_iret C0 hr hM A_0_0_1_0_numbers h rfl dX11_put_27
  · have h := h.2 hq
    refine lv_iconst (v := (-1 : Int32)) hx hb dX11_put_9 (by decide) ?_
    subst hsz; subst hA; subst hQ
    exact m_iret C0 hr hM A_0_0_1_0_numbers h rfl dX11_put_10
abbrev rm_X11_get : Room := { frames := 2, cells := 0, slots := 0, locals := 44 }
set_option maxRecDepth 100000 in
set_option maxHeartbeats 4000000 in
theorem ct_X11_get (l : Launch) (D : va_G) (cI cJ cZ : ClassId) (h0 : Nat) (r0 : Nat → Nat) (r0_0 : Nat → Nat) (r0_0_1 : Nat → Nat) (I_0_imaged : Int32) (A_0_0_1_0_numbers : (Nat → Int32)) (x1 : Int32) (x2 : Int32) (x3 : Int32) (sz : Nat) (K : Int32 → Prop) (h : wp_X11_get x1 x2 x3 A_0_0_1_0_numbers K) : Met l yX11_get wsX11_get rm_X11_get (va_Pc [.ref h0, .int x1, .int x2, .int x3] (WX D cI cJ cZ [(h0, .inr (10, oX11 r0 I_0_imaged)), ((r0 0), .inr (8, oX9 r0_0 )), ((r0_0 1), .inr (3, oX4 r0_0_1 )), ((r0_0_1 0), .inl (cI, 75, .inl A_0_0_1_0_numbers))] sz)) (va_Qi (fun (r : Int32) (_ : Unit) => K r ) (fun (_ : Unit) t => WY D (va_A [(h0, .inr (10, oX11 r0 I_0_imaged)), ((r0 0), .inr (8, oX9 r0_0 )), ((r0_0 1), .inr (3, oX4 r0_0_1 )), ((r0_0_1 0), .inl (cI, 75, .inl A_0_0_1_0_numbers))] sz) [(h0, .inr (10, oX11 r0 I_0_imaged)), ((r0 0), .inr (8, oX9 r0_0 )), ((r0_0 1), .inr (3, oX4 r0_0_1 )), ((r0_0_1 0), .inl (cI, 75, .inl A_0_0_1_0_numbers))] t) (va_A [(h0, .inr (10, oX11 r0 I_0_imaged)), ((r0 0), .inr (8, oX9 r0_0 )), ((r0_0 1), .inr (3, oX4 r0_0_1 )), ((r0_0_1 0), .inl (cI, 75, .inl A_0_0_1_0_numbers))] sz)) 0 0 (va_A [(h0, .inr (10, oX11 r0 I_0_imaged)), ((r0 0), .inr (8, oX9 r0_0 )), ((r0_0 1), .inr (3, oX4 r0_0_1 )), ((r0_0_1 0), .inl (cI, 75, .inl A_0_0_1_0_numbers))] sz) := by
  refine m_met (own := RX11) (cc := cX11_get) (maxL := 4) (ret := some .int) [.ref h0, .int x1, .int x2, .int x3] [(0, .ref h0), (1, .int x1), (2, .int x2), (3, .int x3)] (by decide) rfl rfl (Nat.le_of_ble_eq_true rfl) rfl ?_
  intro p e s m args below meth c Q A hQ hA C0 hr hnm hsz hM ls hl
  have hx := C0.1
  have hb := C0.2.1
  have hown := C0.2.2.2.1
  unfold wp_X11_get at h
  refine lv_iload_n hx hb dX11_get_0 rfl (lv_at hl 1 rfl) ?_
  refine lv_iload_n hx hb dX11_get_1 rfl (lv_at hl 2 rfl) ?_
  refine lv_iload_n hx hb dX11_get_2 rfl (lv_at hl 3 rfl) ?_
  refine m_calli (wc := []) C0 hM [] rfl (m_runS (wc := []) (As := [.int x1, .int x2, .int x3]) (rest := []) C0 hM (ct_X4_names l D cI cJ cZ x1 x2 x3 _ _ h) [] rfl (by decide) gX11_get_X4_names rfl rfl rfl hd_X4_names ⟨Nat.le_of_ble_eq_true rfl, Nat.le_of_ble_eq_true rfl⟩ rfl hl.1 rfl (Nat.le_of_ble_eq_true rfl) dX11_get_3 ⟨Nat.le_of_ble_eq_true rfl, Nat.le_of_ble_eq_true rfl⟩) (fun _ => [(h0, .inr (10, oX11 r0 I_0_imaged)), ((r0 0), .inr (8, oX9 r0_0 )), ((r0_0 1), .inr (3, oX4 r0_0_1 )), ((r0_0_1 0), .inl (cI, 75, .inl A_0_0_1_0_numbers))]) (fun _ => rfl) (fun _ => rfl) (fun y1 _ H locs h hM => ?_)
  refine lv_if_eq (tgt := 32) hx hb dX11_get_6 (by decide) (fun hq => ?_) (fun hq => ?_)
  · have h := h.1 hq
    refine lv_iconst (v := (-1 : Int32)) hx hb dX11_get_32 (by decide) ?_
    subst hsz; subst hA; subst hQ
    exact m_iret C0 hr hM () h rfl dX11_get_33
  · have h := h.2 hq
    refine lv_ldc (v := (100000 : Int32)) hx hb hown (C0.2.2.2.2.1 _ kw_X11_get_1) dX11_get_9 ?_
    refine lv_aload_n hx hb dX11_get_11 rfl (lv_at hl 0 rfl) ?_
    refine m_get (C := RX11) (T := TX11) (N := 12) (ci := 10) (ref := "LoweredPowers") (v := .ref (r0 0)) C0 hM 0 rfl rfl kt_X11_get_X11 0 (by decide) kw_X11_get_2 rfl rfl dX11_get_12 ?_
    refine m_get (C := RX9) (T := TX9) (N := 4) (ci := 8) (ref := "LoweredPowers$State") (v := .ref (r0_0 1)) C0 hM 1 rfl rfl kt_X11_get_X9 1 (by decide) kw_X11_get_3 rfl rfl dX11_get_15 ?_
    refine m_get (C := RX4) (T := TX4) (N := 1) (ci := 3) (ref := "LoweredPowers$Operator") (v := .ref (r0_0_1 0)) C0 hM 2 rfl rfl kt_X11_get_X4 0 (by decide) kw_X11_get_4 rfl rfl dX11_get_18 ?_
    refine lv_iload_n hx hb dX11_get_21 rfl (lv_at hl 1 rfl) ?_
    refine lv_iload_n hx hb dX11_get_22 rfl (lv_at hl 2 rfl) ?_
    refine lv_iload_n hx hb dX11_get_23 rfl (lv_at hl 3 rfl) ?_
    refine m_calli (wc := []) C0 hM [] rfl (m_runS (wc := []) (As := [.int x1, .int x2, .int x3]) (rest := [.ref (r0_0_1 0), .int (100000 : Int32)]) C0 hM (ct_X4_index l D cI cJ cZ x1 x2 x3 _ _ h) [] rfl (by decide) gX11_get_X4_index rfl rfl rfl hd_X4_index ⟨Nat.le_of_ble_eq_true rfl, Nat.le_of_ble_eq_true rfl⟩ rfl hl.1 rfl (Nat.le_of_ble_eq_true rfl) dX11_get_24 ⟨Nat.le_of_ble_eq_true rfl, Nat.le_of_ble_eq_true rfl⟩) (fun _ => [(h0, .inr (10, oX11 r0 I_0_imaged)), ((r0 0), .inr (8, oX9 r0_0 )), ((r0_0 1), .inr (3, oX4 r0_0_1 )), ((r0_0_1 0), .inl (cI, 75, .inl A_0_0_1_0_numbers))]) (fun _ => rfl) (fun _ => rfl) (fun y2 _ H locs h hM => ?_)
    obtain ⟨hc3, h⟩ := h
    refine m_iald C0 hM 3 rfl hc3 dX11_get_27 ?_
    refine lv_iadd hx hb dX11_get_28 ?_
    refine lv_goto (tgt := 33) hx hb dX11_get_29 (by decide) ?_
    subst hsz; subst hA; subst hQ
    exact m_iret C0 hr hM () h rfl dX11_get_33
abbrev rm_X11_clear : Room := { frames := 1, cells := 0, slots := 0, locals := 25 }
set_option maxRecDepth 100000 in
set_option maxHeartbeats 4000000 in
theorem ct_X11_clear (l : Launch) (D : va_G) (cI cJ cZ : ClassId) (h0 : Nat) (r0 : Nat → Nat) (r0_0 : Nat → Nat) (r0_0_1 : Nat → Nat) (I_0_imaged : Int32) (A_0_0_1_0_numbers : (Nat → Int32)) (sz : Nat) (K : Int32 → (Nat → Int32) → Prop) (h : wp_X11_clear A_0_0_1_0_numbers K) : Met l yX11_clear wsX11_clear rm_X11_clear (va_Pc [.ref h0] (WX D cI cJ cZ [(h0, .inr (10, oX11 r0 I_0_imaged)), ((r0 0), .inr (8, oX9 r0_0 )), ((r0_0 1), .inr (3, oX4 r0_0_1 )), ((r0_0_1 0), .inl (cI, 75, .inl A_0_0_1_0_numbers))] sz)) (va_Qi (fun (r : Int32) (u : (Nat → Int32)) => K r u) (fun (u : (Nat → Int32)) t => WY D (va_A [(h0, .inr (10, oX11 r0 I_0_imaged)), ((r0 0), .inr (8, oX9 r0_0 )), ((r0_0 1), .inr (3, oX4 r0_0_1 )), ((r0_0_1 0), .inl (cI, 75, .inl A_0_0_1_0_numbers))] sz) [(h0, .inr (10, oX11 r0 I_0_imaged)), ((r0 0), .inr (8, oX9 r0_0 )), ((r0_0 1), .inr (3, oX4 r0_0_1 )), ((r0_0_1 0), .inl (cI, 75, .inl u))] t) (va_A [(h0, .inr (10, oX11 r0 I_0_imaged)), ((r0 0), .inr (8, oX9 r0_0 )), ((r0_0 1), .inr (3, oX4 r0_0_1 )), ((r0_0_1 0), .inl (cI, 75, .inl A_0_0_1_0_numbers))] sz)) 0 0 (va_A [(h0, .inr (10, oX11 r0 I_0_imaged)), ((r0 0), .inr (8, oX9 r0_0 )), ((r0_0 1), .inr (3, oX4 r0_0_1 )), ((r0_0_1 0), .inl (cI, 75, .inl A_0_0_1_0_numbers))] sz) := by
  refine m_met (own := RX11) (cc := cX11_clear) (maxL := 2) (ret := some .int) [.ref h0] [(0, .ref h0)] (by decide) rfl rfl (Nat.le_of_ble_eq_true rfl) rfl ?_
  intro p e s m args below meth c Q A hQ hA C0 hr hnm hsz hM ls hl
  have hx := C0.1
  have hb := C0.2.1
  have hown := C0.2.2.2.1
  unfold wp_X11_clear at h
  refine lv_aload_n hx hb dX11_clear_0 rfl (lv_at hl 0 rfl) ?_
  refine m_get (C := RX11) (T := TX11) (N := 12) (ci := 10) (ref := "LoweredPowers") (v := .ref (r0 0)) C0 hM 0 rfl rfl kt_X11_clear_X11 0 (by decide) kw_X11_clear_1 rfl rfl dX11_clear_1 ?_
  refine m_get (C := RX9) (T := TX9) (N := 4) (ci := 8) (ref := "LoweredPowers$State") (v := .ref (r0_0 1)) C0 hM 1 rfl rfl kt_X11_clear_X9 1 (by decide) kw_X11_clear_2 rfl rfl dX11_clear_4 ?_
  refine m_get (C := RX4) (T := TX4) (N := 1) (ci := 3) (ref := "LoweredPowers$Operator") (v := .ref (r0_0_1 0)) C0 hM 2 rfl rfl kt_X11_clear_X4 0 (by decide) kw_X11_clear_3 rfl rfl dX11_clear_7 ?_
  refine m_calli (wc := [((r0_0_1 0), .inl (cI, 75, .inl A_0_0_1_0_numbers))]) C0 hM [3] rfl (m_runS (wc := [((r0_0_1 0), .inl (cI, 75, .inl A_0_0_1_0_numbers))]) (As := [.ref (r0_0_1 0)]) (rest := []) C0 hM (ct_X3_others l D cI cJ cZ (r0_0_1 0) 75 A_0_0_1_0_numbers _ _ h) [3] rfl (by decide) gX11_clear_X3_others rfl rfl rfl hd_X3_others ⟨Nat.le_of_ble_eq_true rfl, Nat.le_of_ble_eq_true rfl⟩ rfl hl.1 rfl (Nat.le_of_ble_eq_true rfl) dX11_clear_10 ⟨Nat.le_of_ble_eq_true rfl, Nat.le_of_ble_eq_true rfl⟩) (fun _ => [(h0, .inr (10, oX11 r0 I_0_imaged)), ((r0 0), .inr (8, oX9 r0_0 )), ((r0_0 1), .inr (3, oX4 r0_0_1 )), ((r0_0_1 0), .inl (cI, 75, .inl A_0_0_1_0_numbers))]) (fun _ => rfl) (fun _ => rfl) (fun y1 _ H locs h hM => ?_)
  refine lv_istore_n (lv' := [(1, .int y1), (0, .ref h0)]) hx hb dX11_clear_13 rfl hl (by decide) rfl (fun ls hl => ?_)
  refine lv_aload_n hx hb dX11_clear_14 rfl (lv_at hl 1 rfl) ?_
  refine m_get (C := RX11) (T := TX11) (N := 12) (ci := 10) (ref := "LoweredPowers") (v := .ref (r0 0)) C0 hM 0 rfl rfl kt_X11_clear_X11 0 (by decide) kw_X11_clear_1 rfl rfl dX11_clear_15 ?_
  refine m_get (C := RX9) (T := TX9) (N := 4) (ci := 8) (ref := "LoweredPowers$State") (v := .ref (r0_0 1)) C0 hM 1 rfl rfl kt_X11_clear_X9 1 (by decide) kw_X11_clear_2 rfl rfl dX11_clear_18 ?_
  refine m_get (C := RX4) (T := TX4) (N := 1) (ci := 3) (ref := "LoweredPowers$Operator") (v := .ref (r0_0_1 0)) C0 hM 2 rfl rfl kt_X11_clear_X4 0 (by decide) kw_X11_clear_3 rfl rfl dX11_clear_21 ?_
  refine lv_iconst (v := (0 : Int32)) hx hb dX11_clear_24 (by decide) ?_
  refine m_callv (wc := [((r0_0_1 0), .inl (cI, 75, .inl A_0_0_1_0_numbers))]) C0 hM [3] rfl (m_runS (wc := [((r0_0_1 0), .inl (cI, 75, .inl A_0_0_1_0_numbers))]) (As := [.ref (r0_0_1 0), .int (0 : Int32)]) (rest := []) C0 hM (ct_J7_fill_53178 l D cI cJ cZ (r0_0_1 0) 75 A_0_0_1_0_numbers (0 : Int32) _ _ h) [3] rfl (by decide) gX11_clear_J7_fill_53178 rfl rfl rfl hd_J7_fill_53178 ⟨Nat.le_of_ble_eq_true rfl, Nat.le_of_ble_eq_true rfl⟩ rfl hl.1 rfl (Nat.le_of_ble_eq_true rfl) dX11_clear_25 ⟨Nat.le_of_ble_eq_true rfl, Nat.le_of_ble_eq_true rfl⟩) (fun u => [(h0, .inr (10, oX11 r0 I_0_imaged)), ((r0 0), .inr (8, oX9 r0_0 )), ((r0_0 1), .inr (3, oX4 r0_0_1 )), ((r0_0_1 0), .inl (cI, 75, .inl u))]) (fun _ => rfl) (fun _ => rfl) (fun b2 H locs h hM => ?_)
  refine lv_iload_n hx hb dX11_clear_28 rfl (lv_at hl 0 rfl) ?_
  subst hsz; subst hA; subst hQ
  exact m_iret C0 hr hM b2 h rfl dX11_clear_29
abbrev rm_X11_order : Room := { frames := 2, cells := 0, slots := 0, locals := 42 }
set_option maxRecDepth 100000 in
set_option maxHeartbeats 4000000 in
theorem ct_X11_order (l : Launch) (D : va_G) (cI cJ cZ : ClassId) (h0 : Nat) (r0 : Nat → Nat) (r0_0 : Nat → Nat) (r0_0_1 : Nat → Nat) (I_0_imaged : Int32) (A_0_0_1_0_numbers : (Nat → Int32)) (sz : Nat) (K : Int32 → Prop) (h : wp_X11_order A_0_0_1_0_numbers K) : Met l yX11_order wsX11_order rm_X11_order (va_Pc [.ref h0] (WX D cI cJ cZ [(h0, .inr (10, oX11 r0 I_0_imaged)), ((r0 0), .inr (8, oX9 r0_0 )), ((r0_0 1), .inr (3, oX4 r0_0_1 )), ((r0_0_1 0), .inl (cI, 75, .inl A_0_0_1_0_numbers))] sz)) (va_Qi (fun (r : Int32) (_ : Unit) => K r ) (fun (_ : Unit) t => WY D (va_A [(h0, .inr (10, oX11 r0 I_0_imaged)), ((r0 0), .inr (8, oX9 r0_0 )), ((r0_0 1), .inr (3, oX4 r0_0_1 )), ((r0_0_1 0), .inl (cI, 75, .inl A_0_0_1_0_numbers))] sz) [(h0, .inr (10, oX11 r0 I_0_imaged)), ((r0 0), .inr (8, oX9 r0_0 )), ((r0_0 1), .inr (3, oX4 r0_0_1 )), ((r0_0_1 0), .inl (cI, 75, .inl A_0_0_1_0_numbers))] t) (va_A [(h0, .inr (10, oX11 r0 I_0_imaged)), ((r0 0), .inr (8, oX9 r0_0 )), ((r0_0 1), .inr (3, oX4 r0_0_1 )), ((r0_0_1 0), .inl (cI, 75, .inl A_0_0_1_0_numbers))] sz)) 0 0 (va_A [(h0, .inr (10, oX11 r0 I_0_imaged)), ((r0 0), .inr (8, oX9 r0_0 )), ((r0_0 1), .inr (3, oX4 r0_0_1 )), ((r0_0_1 0), .inl (cI, 75, .inl A_0_0_1_0_numbers))] sz) := by
  refine m_met (own := RX11) (cc := cX11_order) (maxL := 1) (ret := some .int) [.ref h0] [(0, .ref h0)] (by decide) rfl rfl (Nat.le_of_ble_eq_true rfl) rfl ?_
  intro p e s m args below meth c Q A hQ hA C0 hr hnm hsz hM ls hl
  have hx := C0.1
  have hb := C0.2.1
  have hown := C0.2.2.2.1
  unfold wp_X11_order at h
  refine lv_aload_n hx hb dX11_order_0 rfl (lv_at hl 0 rfl) ?_
  refine m_get (C := RX11) (T := TX11) (N := 12) (ci := 10) (ref := "LoweredPowers") (v := .ref (r0 0)) C0 hM 0 rfl rfl kt_X11_order_X11 0 (by decide) kw_X11_order_1 rfl rfl dX11_order_1 ?_
  refine m_get (C := RX9) (T := TX9) (N := 4) (ci := 8) (ref := "LoweredPowers$State") (v := .ref (r0_0 1)) C0 hM 1 rfl rfl kt_X11_order_X9 1 (by decide) kw_X11_order_2 rfl rfl dX11_order_4 ?_
  refine m_calli (wc := [((r0_0 1), .inr (3, oX4 r0_0_1 )), ((r0_0_1 0), .inl (cI, 75, .inl A_0_0_1_0_numbers))]) C0 hM [2, 3] rfl (m_runV (wc := [((r0_0 1), .inr (3, oX4 r0_0_1 )), ((r0_0_1 0), .inl (cI, 75, .inl A_0_0_1_0_numbers))]) (As := []) (rest := []) (ci := 3) C0 hM (ct_X4_topDerivative l D cI cJ cZ (r0_0 1) r0_0_1 A_0_0_1_0_numbers _ _ h) [2, 3] rfl (by decide) gX11_order_X4_topDerivative rfl rfl rfl rfl rfl hd_X4_topDerivative ⟨Nat.le_of_ble_eq_true rfl, Nat.le_of_ble_eq_true rfl⟩ rfl hl.1 rfl (Nat.le_of_ble_eq_true rfl) dX11_order_7 ⟨Nat.le_of_ble_eq_true rfl, Nat.le_of_ble_eq_true rfl⟩) (fun _ => [(h0, .inr (10, oX11 r0 I_0_imaged)), ((r0 0), .inr (8, oX9 r0_0 )), ((r0_0 1), .inr (3, oX4 r0_0_1 )), ((r0_0_1 0), .inl (cI, 75, .inl A_0_0_1_0_numbers))]) (fun _ => rfl) (fun _ => rfl) (fun y1 _ H locs h hM => ?_)
  subst hsz; subst hA; subst hQ
  exact m_iret C0 hr hM () h rfl dX11_order_10
abbrev rm_X11_work : Room := { frames := 4, cells := 0, slots := 0, locals := 97 }
set_option maxRecDepth 100000 in
set_option maxHeartbeats 4000000 in
theorem ct_X11_work (l : Launch) (D : va_G) (cI cJ cZ : ClassId) (h0 : Nat) (r0 : Nat → Nat) (r0_0 : Nat → Nat) (r0_0_1 : Nat → Nat) (r0_3 : Nat → Nat) (I_0_imaged : Int32) (A_0_0_0_f : (Nat → Int32)) (A_0_0_1_0_numbers : (Nat → Int32)) (A_0_3_0_sum : (Nat → Int32)) (A_0_3_3_derived : (Nat → Int32)) (A_0_3_4_next : (Nat → Int32)) (x1 : Int32) (x2 : Int32) (sz : Nat) (K : Int32 → (Nat → Int32) → (Nat → Int32) → (Nat → Int32) → Prop) (h : wp_X11_work x1 x2 A_0_0_0_f A_0_0_1_0_numbers A_0_3_0_sum A_0_3_3_derived A_0_3_4_next K) : Met l yX11_work wsX11_work rm_X11_work (va_Pc [.ref h0, .int x1, .int x2] (WX D cI cJ cZ [(h0, .inr (10, oX11 r0 I_0_imaged)), ((r0 0), .inr (8, oX9 r0_0 )), ((r0_0 0), .inl (cI, 5, .inl A_0_0_0_f)), ((r0_0 1), .inr (3, oX4 r0_0_1 )), ((r0_0_1 0), .inl (cI, 75, .inl A_0_0_1_0_numbers)), ((r0 3), .inr (2, oX2 r0_3 )), ((r0_3 0), .inl (cI, 225, .inl A_0_3_0_sum)), ((r0_3 3), .inl (cI, 225, .inl A_0_3_3_derived)), ((r0_3 4), .inl (cI, 225, .inl A_0_3_4_next))] sz)) (va_Qi (fun (r : Int32) (u : (Nat → Int32) × (Nat → Int32) × (Nat → Int32)) => K r u.1 u.2.1 u.2.2) (fun (u : (Nat → Int32) × (Nat → Int32) × (Nat → Int32)) t => WY D (va_A [(h0, .inr (10, oX11 r0 I_0_imaged)), ((r0 0), .inr (8, oX9 r0_0 )), ((r0_0 0), .inl (cI, 5, .inl A_0_0_0_f)), ((r0_0 1), .inr (3, oX4 r0_0_1 )), ((r0_0_1 0), .inl (cI, 75, .inl A_0_0_1_0_numbers)), ((r0 3), .inr (2, oX2 r0_3 )), ((r0_3 0), .inl (cI, 225, .inl A_0_3_0_sum)), ((r0_3 3), .inl (cI, 225, .inl A_0_3_3_derived)), ((r0_3 4), .inl (cI, 225, .inl A_0_3_4_next))] sz) [(h0, .inr (10, oX11 r0 I_0_imaged)), ((r0 0), .inr (8, oX9 r0_0 )), ((r0_0 0), .inl (cI, 5, .inl A_0_0_0_f)), ((r0_0 1), .inr (3, oX4 r0_0_1 )), ((r0_0_1 0), .inl (cI, 75, .inl A_0_0_1_0_numbers)), ((r0 3), .inr (2, oX2 r0_3 )), ((r0_3 0), .inl (cI, 225, .inl u.1)), ((r0_3 3), .inl (cI, 225, .inl u.2.1)), ((r0_3 4), .inl (cI, 225, .inl u.2.2))] t) (va_A [(h0, .inr (10, oX11 r0 I_0_imaged)), ((r0 0), .inr (8, oX9 r0_0 )), ((r0_0 0), .inl (cI, 5, .inl A_0_0_0_f)), ((r0_0 1), .inr (3, oX4 r0_0_1 )), ((r0_0_1 0), .inl (cI, 75, .inl A_0_0_1_0_numbers)), ((r0 3), .inr (2, oX2 r0_3 )), ((r0_3 0), .inl (cI, 225, .inl A_0_3_0_sum)), ((r0_3 3), .inl (cI, 225, .inl A_0_3_3_derived)), ((r0_3 4), .inl (cI, 225, .inl A_0_3_4_next))] sz)) 0 0 (va_A [(h0, .inr (10, oX11 r0 I_0_imaged)), ((r0 0), .inr (8, oX9 r0_0 )), ((r0_0 0), .inl (cI, 5, .inl A_0_0_0_f)), ((r0_0 1), .inr (3, oX4 r0_0_1 )), ((r0_0_1 0), .inl (cI, 75, .inl A_0_0_1_0_numbers)), ((r0 3), .inr (2, oX2 r0_3 )), ((r0_3 0), .inl (cI, 225, .inl A_0_3_0_sum)), ((r0_3 3), .inl (cI, 225, .inl A_0_3_3_derived)), ((r0_3 4), .inl (cI, 225, .inl A_0_3_4_next))] sz) := by
  refine m_met (own := RX11) (cc := cX11_work) (maxL := 3) (ret := some .int) [.ref h0, .int x1, .int x2] [(0, .ref h0), (1, .int x1), (2, .int x2)] (by decide) rfl rfl (Nat.le_of_ble_eq_true rfl) rfl ?_
  intro p e s m args below meth c Q A hQ hA C0 hr hnm hsz hM ls hl
  have hx := C0.1
  have hb := C0.2.1
  have hown := C0.2.2.2.1
  unfold wp_X11_work at h
  refine lv_iload_n hx hb dX11_work_0 rfl (lv_at hl 1 rfl) ?_
  refine lv_iconst (v := (0 : Int32)) hx hb dX11_work_1 (by decide) ?_
  refine lv_bipush (v := (24 : Int32)) hx hb dX11_work_2 (by decide) ?_
  refine m_calli (wc := []) C0 hM [] rfl (m_runS (wc := []) (As := [.int x1, .int (0 : Int32), .int (24 : Int32)]) (rest := []) C0 hM (ct_X11_within l D cI cJ cZ x1 (0 : Int32) (24 : Int32) _ _ h) [] rfl (by decide) gX11_work_X11_within rfl rfl rfl hd_X11_within ⟨Nat.le_of_ble_eq_true rfl, Nat.le_of_ble_eq_true rfl⟩ rfl hl.1 rfl (Nat.le_of_ble_eq_true rfl) dX11_work_4 ⟨Nat.le_of_ble_eq_true rfl, Nat.le_of_ble_eq_true rfl⟩) (fun _ => [(h0, .inr (10, oX11 r0 I_0_imaged)), ((r0 0), .inr (8, oX9 r0_0 )), ((r0_0 0), .inl (cI, 5, .inl A_0_0_0_f)), ((r0_0 1), .inr (3, oX4 r0_0_1 )), ((r0_0_1 0), .inl (cI, 75, .inl A_0_0_1_0_numbers)), ((r0 3), .inr (2, oX2 r0_3 )), ((r0_3 0), .inl (cI, 225, .inl A_0_3_0_sum)), ((r0_3 3), .inl (cI, 225, .inl A_0_3_3_derived)), ((r0_3 4), .inl (cI, 225, .inl A_0_3_4_next))]) (fun _ => rfl) (fun _ => rfl) (fun y1 _ H locs h hM => ?_)
  refine lv_if_eq (tgt := 20) hx hb dX11_work_7 (by decide) (fun hq => ?_) (fun hq => ?_)
  · have h := h.1 hq
    refine lv_iconst (v := (-1 : Int32)) hx hb dX11_work_20 (by decide) ?_
    subst hsz; subst hA; subst hQ
    exact m_iret C0 hr hM (A_0_3_0_sum, A_0_3_3_derived, A_0_3_4_next) h rfl dX11_work_21
  · have h := h.2 hq
    refine lv_iload_n hx hb dX11_work_10 rfl (lv_at hl 2 rfl) ?_
    refine lv_iconst (v := (0 : Int32)) hx hb dX11_work_11 (by decide) ?_
    refine lv_bipush (v := (8 : Int32)) hx hb dX11_work_12 (by decide) ?_
    refine m_calli (wc := []) C0 hM [] rfl (m_runS (wc := []) (As := [.int x2, .int (0 : Int32), .int (8 : Int32)]) (rest := []) C0 hM (ct_X11_within l D cI cJ cZ x2 (0 : Int32) (8 : Int32) _ _ h) [] rfl (by decide) gX11_work_X11_within rfl rfl rfl hd_X11_within ⟨Nat.le_of_ble_eq_true rfl, Nat.le_of_ble_eq_true rfl⟩ rfl hl.1 rfl (Nat.le_of_ble_eq_true rfl) dX11_work_14 ⟨Nat.le_of_ble_eq_true rfl, Nat.le_of_ble_eq_true rfl⟩) (fun _ => [(h0, .inr (10, oX11 r0 I_0_imaged)), ((r0 0), .inr (8, oX9 r0_0 )), ((r0_0 0), .inl (cI, 5, .inl A_0_0_0_f)), ((r0_0 1), .inr (3, oX4 r0_0_1 )), ((r0_0_1 0), .inl (cI, 75, .inl A_0_0_1_0_numbers)), ((r0 3), .inr (2, oX2 r0_3 )), ((r0_3 0), .inl (cI, 225, .inl A_0_3_0_sum)), ((r0_3 3), .inl (cI, 225, .inl A_0_3_3_derived)), ((r0_3 4), .inl (cI, 225, .inl A_0_3_4_next))]) (fun _ => rfl) (fun _ => rfl) (fun y2 _ H locs h hM => ?_)
    refine lv_if_ne (tgt := 22) hx hb dX11_work_17 (by decide) (fun hq => ?_) (fun hq => ?_)
    · have h := h.1 hq
      refine lv_aload_n hx hb dX11_work_22 rfl (lv_at hl 0 rfl) ?_
      refine m_get (C := RX11) (T := TX11) (N := 12) (ci := 10) (ref := "LoweredPowers") (v := .ref (r0 3)) C0 hM 0 rfl rfl kt_X11_work_X11 3 (by decide) kw_X11_work_1 rfl rfl dX11_work_23 ?_
      refine lv_aload_n hx hb dX11_work_26 rfl (lv_at hl 0 rfl) ?_
      refine m_get (C := RX11) (T := TX11) (N := 12) (ci := 10) (ref := "LoweredPowers") (v := .ref (r0 0)) C0 hM 0 rfl rfl kt_X11_work_X11 0 (by decide) kw_X11_work_2 rfl rfl dX11_work_27 ?_
      refine m_get (C := RX9) (T := TX9) (N := 4) (ci := 8) (ref := "LoweredPowers$State") (v := .ref (r0_0 1)) C0 hM 1 rfl rfl kt_X11_work_X9 1 (by decide) kw_X11_work_3 rfl rfl dX11_work_30 ?_
      refine lv_aload_n hx hb dX11_work_33 rfl (lv_at hl 0 rfl) ?_
      refine m_get (C := RX11) (T := TX11) (N := 12) (ci := 10) (ref := "LoweredPowers") (v := .ref (r0 0)) C0 hM 0 rfl rfl kt_X11_work_X11 0 (by decide) kw_X11_work_2 rfl rfl dX11_work_34 ?_
      refine m_get (C := RX9) (T := TX9) (N := 4) (ci := 8) (ref := "LoweredPowers$State") (v := .ref (r0_0 0)) C0 hM 1 rfl rfl kt_X11_work_X9 0 (by decide) kw_X11_work_4 rfl rfl dX11_work_37 ?_
      refine m_callv (wc := [((r0 3), .inr (2, oX2 r0_3 )), ((r0_3 0), .inl (cI, 225, .inl A_0_3_0_sum)), ((r0_3 3), .inl (cI, 225, .inl A_0_3_3_derived)), ((r0_3 4), .inl (cI, 225, .inl A_0_3_4_next)), ((r0_0 1), .inr (3, oX4 r0_0_1 )), ((r0_0_1 0), .inl (cI, 75, .inl A_0_0_1_0_numbers)), ((r0_0 0), .inl (cI, 5, .inl A_0_0_0_f))]) C0 hM [5, 6, 7, 8, 3, 4, 2] rfl (m_runV (wc := [((r0 3), .inr (2, oX2 r0_3 )), ((r0_3 0), .inl (cI, 225, .inl A_0_3_0_sum)), ((r0_3 3), .inl (cI, 225, .inl A_0_3_3_derived)), ((r0_3 4), .inl (cI, 225, .inl A_0_3_4_next)), ((r0_0 1), .inr (3, oX4 r0_0_1 )), ((r0_0_1 0), .inl (cI, 75, .inl A_0_0_1_0_numbers)), ((r0_0 0), .inl (cI, 5, .inl A_0_0_0_f))]) (As := [.ref (r0_0 1), .ref (r0_0 0)]) (rest := []) (ci := 2) C0 hM (ct_X2_apply l D cI cJ cZ (r0 3) (r0_0 1) (r0_0 0) r0_3 r0_0_1 A_0_3_0_sum A_0_3_3_derived A_0_3_4_next A_0_0_1_0_numbers A_0_0_0_f _ _ h) [5, 6, 7, 8, 3, 4, 2] rfl (by decide) gX11_work_X2_apply rfl rfl rfl rfl rfl hd_X2_apply ⟨Nat.le_of_ble_eq_true rfl, Nat.le_of_ble_eq_true rfl⟩ rfl hl.1 rfl (Nat.le_of_ble_eq_true rfl) dX11_work_40 ⟨Nat.le_of_ble_eq_true rfl, Nat.le_of_ble_eq_true rfl⟩) (fun u => [(h0, .inr (10, oX11 r0 I_0_imaged)), ((r0 0), .inr (8, oX9 r0_0 )), ((r0_0 0), .inl (cI, 5, .inl A_0_0_0_f)), ((r0_0 1), .inr (3, oX4 r0_0_1 )), ((r0_0_1 0), .inl (cI, 75, .inl A_0_0_1_0_numbers)), ((r0 3), .inr (2, oX2 r0_3 )), ((r0_3 0), .inl (cI, 225, .inl u.1)), ((r0_3 3), .inl (cI, 225, .inl u.2.1)), ((r0_3 4), .inl (cI, 225, .inl u.2.2))]) (fun _ => rfl) (fun _ => rfl) (fun u H locs h hM => ?_)
      obtain ⟨b3, b4, b5⟩ := u
      dsimp only at h
      have hM : MW D A s.heap [(h0, .inr (10, oX11 r0 I_0_imaged)), ((r0 0), .inr (8, oX9 r0_0 )), ((r0_0 0), .inl (cI, 5, .inl A_0_0_0_f)), ((r0_0 1), .inr (3, oX4 r0_0_1 )), ((r0_0_1 0), .inl (cI, 75, .inl A_0_0_1_0_numbers)), ((r0 3), .inr (2, oX2 r0_3 )), ((r0_3 0), .inl (cI, 225, .inl b3)), ((r0_3 3), .inl (cI, 225, .inl b4)), ((r0_3 4), .inl (cI, 225, .inl b5))] H locs := hM
      refine lv_ldc (v := (100000 : Int32)) hx hb hown (C0.2.2.2.2.1 _ kw_X11_work_5) dX11_work_43 ?_
      refine lv_aload_n hx hb dX11_work_45 rfl (lv_at hl 0 rfl) ?_
      refine m_get (C := RX11) (T := TX11) (N := 12) (ci := 10) (ref := "LoweredPowers") (v := .ref (r0 3)) C0 hM 0 rfl rfl kt_X11_work_X11 3 (by decide) kw_X11_work_1 rfl rfl dX11_work_46 ?_
      refine m_get (C := RX2) (T := TX2) (N := 6) (ci := 2) (ref := "LoweredPowers$Lowering") (v := .ref (r0_3 0)) C0 hM 5 rfl rfl kt_X11_work_X2 0 (by decide) kw_X11_work_6 rfl rfl dX11_work_49 ?_
      refine lv_iload_n hx hb dX11_work_52 rfl (lv_at hl 1 rfl) ?_
      refine lv_bipush (v := (9 : Int32)) hx hb dX11_work_53 (by decide) ?_
      refine lv_imul hx hb dX11_work_55 ?_
      refine lv_iload_n hx hb dX11_work_56 rfl (lv_at hl 2 rfl) ?_
      refine lv_iadd hx hb dX11_work_57 ?_
      obtain ⟨hc6, h⟩ := h
      refine m_iald C0 hM 6 rfl hc6 dX11_work_58 ?_
      refine lv_iadd hx hb dX11_work_59 ?_
      subst hsz; subst hA; subst hQ
      exact m_iret C0 hr hM (b3, b4, b5) h rfl dX11_work_60
    · have h := h.2 hq
      refine lv_iconst (v := (-1 : Int32)) hx hb dX11_work_20 (by decide) ?_
      subst hsz; subst hA; subst hQ
      exact m_iret C0 hr hM (A_0_3_0_sum, A_0_3_3_derived, A_0_3_4_next) h rfl dX11_work_21
abbrev rm_X11_right : Room := { frames := 5, cells := 0, slots := 0, locals := 123 }
set_option maxRecDepth 100000 in
set_option maxHeartbeats 4000000 in
theorem ct_X11_right (l : Launch) (D : va_G) (cI cJ cZ : ClassId) (h0 : Nat) (r0 : Nat → Nat) (r0_0 : Nat → Nat) (r0_0_1 : Nat → Nat) (r0_3 : Nat → Nat) (I_0_imaged : Int32) (A_0_0_0_f : (Nat → Int32)) (A_0_0_1_0_numbers : (Nat → Int32)) (A_0_3_0_sum : (Nat → Int32)) (A_0_3_1_b : (Nat → Int32)) (A_0_3_3_derived : (Nat → Int32)) (A_0_3_4_next : (Nat → Int32)) (A_0_3_5_power : (Nat → Int32)) (x1 : Int32) (sz : Nat) (K : Int32 → (Nat → Int32) → (Nat → Int32) → (Nat → Int32) → (Nat → Int32) → (Nat → Int32) → Prop) (h : wp_X11_right x1 A_0_0_0_f A_0_0_1_0_numbers A_0_3_0_sum A_0_3_1_b A_0_3_3_derived A_0_3_4_next A_0_3_5_power K) : Met l yX11_right wsX11_right rm_X11_right (va_Pc [.ref h0, .int x1] (WX D cI cJ cZ [(h0, .inr (10, oX11 r0 I_0_imaged)), ((r0 0), .inr (8, oX9 r0_0 )), ((r0_0 0), .inl (cI, 5, .inl A_0_0_0_f)), ((r0_0 1), .inr (3, oX4 r0_0_1 )), ((r0_0_1 0), .inl (cI, 75, .inl A_0_0_1_0_numbers)), ((r0 3), .inr (2, oX2 r0_3 )), ((r0_3 0), .inl (cI, 225, .inl A_0_3_0_sum)), ((r0_3 1), .inl (cI, 9, .inl A_0_3_1_b)), ((r0_3 3), .inl (cI, 225, .inl A_0_3_3_derived)), ((r0_3 4), .inl (cI, 225, .inl A_0_3_4_next)), ((r0_3 5), .inl (cI, 25, .inl A_0_3_5_power))] sz)) (va_Qi (fun (r : Int32) (u : (Nat → Int32) × (Nat → Int32) × (Nat → Int32) × (Nat → Int32) × (Nat → Int32)) => K r u.1 u.2.1 u.2.2.1 u.2.2.2.1 u.2.2.2.2) (fun (u : (Nat → Int32) × (Nat → Int32) × (Nat → Int32) × (Nat → Int32) × (Nat → Int32)) t => WY D (va_A [(h0, .inr (10, oX11 r0 I_0_imaged)), ((r0 0), .inr (8, oX9 r0_0 )), ((r0_0 0), .inl (cI, 5, .inl A_0_0_0_f)), ((r0_0 1), .inr (3, oX4 r0_0_1 )), ((r0_0_1 0), .inl (cI, 75, .inl A_0_0_1_0_numbers)), ((r0 3), .inr (2, oX2 r0_3 )), ((r0_3 0), .inl (cI, 225, .inl A_0_3_0_sum)), ((r0_3 1), .inl (cI, 9, .inl A_0_3_1_b)), ((r0_3 3), .inl (cI, 225, .inl A_0_3_3_derived)), ((r0_3 4), .inl (cI, 225, .inl A_0_3_4_next)), ((r0_3 5), .inl (cI, 25, .inl A_0_3_5_power))] sz) [(h0, .inr (10, oX11 r0 I_0_imaged)), ((r0 0), .inr (8, oX9 r0_0 )), ((r0_0 0), .inl (cI, 5, .inl A_0_0_0_f)), ((r0_0 1), .inr (3, oX4 r0_0_1 )), ((r0_0_1 0), .inl (cI, 75, .inl A_0_0_1_0_numbers)), ((r0 3), .inr (2, oX2 r0_3 )), ((r0_3 0), .inl (cI, 225, .inl u.1)), ((r0_3 1), .inl (cI, 9, .inl u.2.1)), ((r0_3 3), .inl (cI, 225, .inl u.2.2.1)), ((r0_3 4), .inl (cI, 225, .inl u.2.2.2.1)), ((r0_3 5), .inl (cI, 25, .inl u.2.2.2.2))] t) (va_A [(h0, .inr (10, oX11 r0 I_0_imaged)), ((r0 0), .inr (8, oX9 r0_0 )), ((r0_0 0), .inl (cI, 5, .inl A_0_0_0_f)), ((r0_0 1), .inr (3, oX4 r0_0_1 )), ((r0_0_1 0), .inl (cI, 75, .inl A_0_0_1_0_numbers)), ((r0 3), .inr (2, oX2 r0_3 )), ((r0_3 0), .inl (cI, 225, .inl A_0_3_0_sum)), ((r0_3 1), .inl (cI, 9, .inl A_0_3_1_b)), ((r0_3 3), .inl (cI, 225, .inl A_0_3_3_derived)), ((r0_3 4), .inl (cI, 225, .inl A_0_3_4_next)), ((r0_3 5), .inl (cI, 25, .inl A_0_3_5_power))] sz)) 0 0 (va_A [(h0, .inr (10, oX11 r0 I_0_imaged)), ((r0 0), .inr (8, oX9 r0_0 )), ((r0_0 0), .inl (cI, 5, .inl A_0_0_0_f)), ((r0_0 1), .inr (3, oX4 r0_0_1 )), ((r0_0_1 0), .inl (cI, 75, .inl A_0_0_1_0_numbers)), ((r0 3), .inr (2, oX2 r0_3 )), ((r0_3 0), .inl (cI, 225, .inl A_0_3_0_sum)), ((r0_3 1), .inl (cI, 9, .inl A_0_3_1_b)), ((r0_3 3), .inl (cI, 225, .inl A_0_3_3_derived)), ((r0_3 4), .inl (cI, 225, .inl A_0_3_4_next)), ((r0_3 5), .inl (cI, 25, .inl A_0_3_5_power))] sz) := by
  refine m_met (own := RX11) (cc := cX11_right) (maxL := 2) (ret := some .int) [.ref h0, .int x1] [(0, .ref h0), (1, .int x1)] (by decide) rfl rfl (Nat.le_of_ble_eq_true rfl) rfl ?_
  intro p e s m args below meth c Q A hQ hA C0 hr hnm hsz hM ls hl
  have hx := C0.1
  have hb := C0.2.1
  have hown := C0.2.2.2.1
  unfold wp_X11_right at h
  refine lv_iload_n hx hb dX11_right_0 rfl (lv_at hl 1 rfl) ?_
  refine lv_iconst (v := (-1 : Int32)) hx hb dX11_right_1 (by decide) ?_
  refine lv_bipush (v := (8 : Int32)) hx hb dX11_right_2 (by decide) ?_
  refine m_calli (wc := []) C0 hM [] rfl (m_runS (wc := []) (As := [.int x1, .int (-1 : Int32), .int (8 : Int32)]) (rest := []) C0 hM (ct_X11_within l D cI cJ cZ x1 (-1 : Int32) (8 : Int32) _ _ h) [] rfl (by decide) gX11_right_X11_within rfl rfl rfl hd_X11_within ⟨Nat.le_of_ble_eq_true rfl, Nat.le_of_ble_eq_true rfl⟩ rfl hl.1 rfl (Nat.le_of_ble_eq_true rfl) dX11_right_4 ⟨Nat.le_of_ble_eq_true rfl, Nat.le_of_ble_eq_true rfl⟩) (fun _ => [(h0, .inr (10, oX11 r0 I_0_imaged)), ((r0 0), .inr (8, oX9 r0_0 )), ((r0_0 0), .inl (cI, 5, .inl A_0_0_0_f)), ((r0_0 1), .inr (3, oX4 r0_0_1 )), ((r0_0_1 0), .inl (cI, 75, .inl A_0_0_1_0_numbers)), ((r0 3), .inr (2, oX2 r0_3 )), ((r0_3 0), .inl (cI, 225, .inl A_0_3_0_sum)), ((r0_3 1), .inl (cI, 9, .inl A_0_3_1_b)), ((r0_3 3), .inl (cI, 225, .inl A_0_3_3_derived)), ((r0_3 4), .inl (cI, 225, .inl A_0_3_4_next)), ((r0_3 5), .inl (cI, 25, .inl A_0_3_5_power))]) (fun _ => rfl) (fun _ => rfl) (fun y1 _ H locs h hM => ?_)
  refine lv_if_ne (tgt := 12) hx hb dX11_right_7 (by decide) (fun hq => ?_) (fun hq => ?_)
  · have h := h.1 hq
    refine lv_aload_n hx hb dX11_right_12 rfl (lv_at hl 0 rfl) ?_
    refine m_get (C := RX11) (T := TX11) (N := 12) (ci := 10) (ref := "LoweredPowers") (v := .ref (r0 0)) C0 hM 0 rfl rfl kt_X11_right_X11 0 (by decide) kw_X11_right_1 rfl rfl dX11_right_13 ?_
    refine m_get (C := RX9) (T := TX9) (N := 4) (ci := 8) (ref := "LoweredPowers$State") (v := .ref (r0_0 0)) C0 hM 1 rfl rfl kt_X11_right_X9 0 (by decide) kw_X11_right_2 rfl rfl dX11_right_16 ?_
    refine m_calli (wc := [((r0_0 0), .inl (cI, 5, .inl A_0_0_0_f))]) C0 hM [2] rfl (m_runS (wc := [((r0_0 0), .inl (cI, 5, .inl A_0_0_0_f))]) (As := [.ref (r0_0 0)]) (rest := []) C0 hM (ct_X3_highest l D cI cJ cZ (r0_0 0) 5 A_0_0_0_f _ _ h) [2] rfl (by decide) gX11_right_X3_highest rfl rfl rfl hd_X3_highest ⟨Nat.le_of_ble_eq_true rfl, Nat.le_of_ble_eq_true rfl⟩ rfl hl.1 rfl (Nat.le_of_ble_eq_true rfl) dX11_right_19 ⟨Nat.le_of_ble_eq_true rfl, Nat.le_of_ble_eq_true rfl⟩) (fun _ => [(h0, .inr (10, oX11 r0 I_0_imaged)), ((r0 0), .inr (8, oX9 r0_0 )), ((r0_0 0), .inl (cI, 5, .inl A_0_0_0_f)), ((r0_0 1), .inr (3, oX4 r0_0_1 )), ((r0_0_1 0), .inl (cI, 75, .inl A_0_0_1_0_numbers)), ((r0 3), .inr (2, oX2 r0_3 )), ((r0_3 0), .inl (cI, 225, .inl A_0_3_0_sum)), ((r0_3 1), .inl (cI, 9, .inl A_0_3_1_b)), ((r0_3 3), .inl (cI, 225, .inl A_0_3_3_derived)), ((r0_3 4), .inl (cI, 225, .inl A_0_3_4_next)), ((r0_3 5), .inl (cI, 25, .inl A_0_3_5_power))]) (fun _ => rfl) (fun _ => rfl) (fun y2 _ H locs h hM => ?_)
    refine lv_iconst (v := (1 : Int32)) hx hb dX11_right_22 (by decide) ?_
    refine lv_icmp_ge (tgt := 29) hx hb dX11_right_23 (by decide) (fun hq => ?_) (fun hq => ?_)
    · have h := h.1 hq
      refine lv_aload_n hx hb dX11_right_29 rfl (lv_at hl 0 rfl) ?_
      refine m_get (C := RX11) (T := TX11) (N := 12) (ci := 10) (ref := "LoweredPowers") (v := .ref (r0 3)) C0 hM 0 rfl rfl kt_X11_right_X11 3 (by decide) kw_X11_right_3 rfl rfl dX11_right_30 ?_
      refine lv_aload_n hx hb dX11_right_33 rfl (lv_at hl 0 rfl) ?_
      refine m_get (C := RX11) (T := TX11) (N := 12) (ci := 10) (ref := "LoweredPowers") (v := .ref (r0 0)) C0 hM 0 rfl rfl kt_X11_right_X11 0 (by decide) kw_X11_right_1 rfl rfl dX11_right_34 ?_
      refine m_get (C := RX9) (T := TX9) (N := 4) (ci := 8) (ref := "LoweredPowers$State") (v := .ref (r0_0 1)) C0 hM 1 rfl rfl kt_X11_right_X9 1 (by decide) kw_X11_right_4 rfl rfl dX11_right_37 ?_
      refine lv_aload_n hx hb dX11_right_40 rfl (lv_at hl 0 rfl) ?_
      refine m_get (C := RX11) (T := TX11) (N := 12) (ci := 10) (ref := "LoweredPowers") (v := .ref (r0 0)) C0 hM 0 rfl rfl kt_X11_right_X11 0 (by decide) kw_X11_right_1 rfl rfl dX11_right_41 ?_
      refine m_get (C := RX9) (T := TX9) (N := 4) (ci := 8) (ref := "LoweredPowers$State") (v := .ref (r0_0 0)) C0 hM 1 rfl rfl kt_X11_right_X9 0 (by decide) kw_X11_right_2 rfl rfl dX11_right_44 ?_
      refine m_calli2 (wc := [((r0 3), .inr (2, oX2 r0_3 )), ((r0_3 0), .inl (cI, 225, .inl A_0_3_0_sum)), ((r0_3 1), .inl (cI, 9, .inl A_0_3_1_b)), ((r0_3 3), .inl (cI, 225, .inl A_0_3_3_derived)), ((r0_3 4), .inl (cI, 225, .inl A_0_3_4_next)), ((r0_3 5), .inl (cI, 25, .inl A_0_3_5_power)), ((r0_0 1), .inr (3, oX4 r0_0_1 )), ((r0_0_1 0), .inl (cI, 75, .inl A_0_0_1_0_numbers)), ((r0_0 0), .inl (cI, 5, .inl A_0_0_0_f))]) C0 hM [5, 6, 7, 8, 9, 10, 3, 4, 2] [0, 1] rfl (m_runV (wc := [((r0 3), .inr (2, oX2 r0_3 )), ((r0_3 0), .inl (cI, 225, .inl A_0_3_0_sum)), ((r0_3 1), .inl (cI, 9, .inl A_0_3_1_b)), ((r0_3 3), .inl (cI, 225, .inl A_0_3_3_derived)), ((r0_3 4), .inl (cI, 225, .inl A_0_3_4_next)), ((r0_3 5), .inl (cI, 25, .inl A_0_3_5_power)), ((r0_0 1), .inr (3, oX4 r0_0_1 )), ((r0_0_1 0), .inl (cI, 75, .inl A_0_0_1_0_numbers)), ((r0_0 0), .inl (cI, 5, .inl A_0_0_0_f))]) (As := [.ref (r0_0 1), .ref (r0_0 0)]) (rest := []) (ci := 2) C0 hM (ct_X2_toPowerOfS l D cI cJ cZ (r0 3) (r0_0 1) (r0_0 0) r0_3 r0_0_1 A_0_3_0_sum A_0_3_1_b A_0_3_3_derived A_0_3_4_next A_0_3_5_power A_0_0_1_0_numbers A_0_0_0_f _ _ h) [5, 6, 7, 8, 9, 10, 3, 4, 2] rfl (by decide) gX11_right_X2_toPowerOfS rfl rfl rfl rfl rfl hd_X2_toPowerOfS ⟨Nat.le_of_ble_eq_true rfl, Nat.le_of_ble_eq_true rfl⟩ rfl hl.1 rfl (Nat.le_of_ble_eq_true rfl) dX11_right_47 ⟨Nat.le_of_ble_eq_true rfl, Nat.le_of_ble_eq_true rfl⟩) (fun u => [(h0, .inr (10, oX11 r0 I_0_imaged)), ((r0 0), .inr (8, oX9 r0_0 )), ((r0_0 0), .inl (cI, 5, .inl A_0_0_0_f)), ((r0_0 1), .inr (3, oX4 r0_0_1 )), ((r0_0_1 0), .inl (cI, 75, .inl A_0_0_1_0_numbers)), ((r0 3), .inr (2, oX2 r0_3 )), ((r0_3 0), .inl (cI, 225, .inl u.1)), ((r0_3 1), .inl (cI, 9, .inl u.2.1)), ((r0_3 3), .inl (cI, 225, .inl u.2.2.1)), ((r0_3 4), .inl (cI, 225, .inl u.2.2.2.1)), ((r0_3 5), .inl (cI, 25, .inl u.2.2.2.2))]) (fun _ => rfl) [(h0, .inr (10, oX11 r0 I_0_imaged)), ((r0 0), .inr (8, oX9 r0_0 ))] (fun _ => rfl) rfl (fun _ => rfl) (show ∀ i, i < 11 → i ∈ ([5, 6, 7, 8, 9, 10, 3, 4, 2] : List Nat) ∨ i ∈ ([0, 1] : List Nat) from by decide) (fun y3 u H locs h hM => ?_)
      obtain ⟨b4, b5, b6, b7, b8⟩ := u
      dsimp only at h
      have hM : MW D A s.heap [(h0, .inr (10, oX11 r0 I_0_imaged)), ((r0 0), .inr (8, oX9 r0_0 )), ((r0_0 0), .inl (cI, 5, .inl A_0_0_0_f)), ((r0_0 1), .inr (3, oX4 r0_0_1 )), ((r0_0_1 0), .inl (cI, 75, .inl A_0_0_1_0_numbers)), ((r0 3), .inr (2, oX2 r0_3 )), ((r0_3 0), .inl (cI, 225, .inl b4)), ((r0_3 1), .inl (cI, 9, .inl b5)), ((r0_3 3), .inl (cI, 225, .inl b6)), ((r0_3 4), .inl (cI, 225, .inl b7)), ((r0_3 5), .inl (cI, 25, .inl b8))] H locs := hM
      refine lv_if_ne (tgt := 56) hx hb dX11_right_50 (by decide) (fun hq => ?_) (fun hq => ?_)
      · have h := h.1 hq
        refine lv_iload_n hx hb dX11_right_56 rfl (lv_at hl 1 rfl) ?_
        refine lv_iconst (v := (-1 : Int32)) hx hb dX11_right_57 (by decide) ?_
        refine lv_icmp_ne (tgt := 74) hx hb dX11_right_58 (by decide) (fun hq => ?_) (fun hq => ?_)
        · have h := h.1 hq
          refine lv_ldc (v := (100000 : Int32)) hx hb hown (C0.2.2.2.2.1 _ kw_X11_right_6) dX11_right_74 ?_
          refine lv_aload_n hx hb dX11_right_76 rfl (lv_at hl 0 rfl) ?_
          refine m_get (C := RX11) (T := TX11) (N := 12) (ci := 10) (ref := "LoweredPowers") (v := .ref (r0 3)) C0 hM 0 rfl rfl kt_X11_right_X11 3 (by decide) kw_X11_right_3 rfl rfl dX11_right_77 ?_
          refine m_get (C := RX2) (T := TX2) (N := 6) (ci := 2) (ref := "LoweredPowers$Lowering") (v := .ref (r0_3 1)) C0 hM 5 rfl rfl kt_X11_right_X2 1 (by decide) kw_X11_right_5 rfl rfl dX11_right_80 ?_
          refine lv_iload_n hx hb dX11_right_83 rfl (lv_at hl 1 rfl) ?_
          obtain ⟨hc9, h⟩ := h
          refine m_iald C0 hM 7 rfl hc9 dX11_right_84 ?_
          refine lv_iadd hx hb dX11_right_85 ?_
          subst hsz; subst hA; subst hQ
          exact m_iret C0 hr hM (b4, b5, b6, b7, b8) h rfl dX11_right_86
        · have h := h.2 hq
          refine lv_aload_n hx hb dX11_right_61 rfl (lv_at hl 0 rfl) ?_
          refine m_get (C := RX11) (T := TX11) (N := 12) (ci := 10) (ref := "LoweredPowers") (v := .ref (r0 3)) C0 hM 0 rfl rfl kt_X11_right_X11 3 (by decide) kw_X11_right_3 rfl rfl dX11_right_62 ?_
          refine m_get (C := RX2) (T := TX2) (N := 6) (ci := 2) (ref := "LoweredPowers$Lowering") (v := .ref (r0_3 1)) C0 hM 5 rfl rfl kt_X11_right_X2 1 (by decide) kw_X11_right_5 rfl rfl dX11_right_65 ?_
          refine m_calli (wc := [((r0_3 1), .inl (cI, 9, .inl b5))]) C0 hM [7] rfl (m_runS (wc := [((r0_3 1), .inl (cI, 9, .inl b5))]) (As := [.ref (r0_3 1)]) (rest := []) C0 hM (ct_X3_highest l D cI cJ cZ (r0_3 1) 9 b5 _ _ h) [7] rfl (by decide) gX11_right_X3_highest rfl rfl rfl hd_X3_highest ⟨Nat.le_of_ble_eq_true rfl, Nat.le_of_ble_eq_true rfl⟩ rfl hl.1 rfl (Nat.le_of_ble_eq_true rfl) dX11_right_68 ⟨Nat.le_of_ble_eq_true rfl, Nat.le_of_ble_eq_true rfl⟩) (fun _ => [(h0, .inr (10, oX11 r0 I_0_imaged)), ((r0 0), .inr (8, oX9 r0_0 )), ((r0_0 0), .inl (cI, 5, .inl A_0_0_0_f)), ((r0_0 1), .inr (3, oX4 r0_0_1 )), ((r0_0_1 0), .inl (cI, 75, .inl A_0_0_1_0_numbers)), ((r0 3), .inr (2, oX2 r0_3 )), ((r0_3 0), .inl (cI, 225, .inl b4)), ((r0_3 1), .inl (cI, 9, .inl b5)), ((r0_3 3), .inl (cI, 225, .inl b6)), ((r0_3 4), .inl (cI, 225, .inl b7)), ((r0_3 5), .inl (cI, 25, .inl b8))]) (fun _ => rfl) (fun _ => rfl) (fun y10 _ H locs h hM => ?_)
          refine lv_goto (tgt := 86) hx hb dX11_right_71 (by decide) ?_
          subst hsz; subst hA; subst hQ
          exact m_iret C0 hr hM (b4, b5, b6, b7, b8) h rfl dX11_right_86
      · have h := h.2 hq
        refine lv_bipush (v := (-5 : Int32)) hx hb dX11_right_53 (by decide) ?_
        subst hsz; subst hA; subst hQ
        exact m_iret C0 hr hM (b4, b5, b6, b7, b8) h rfl dX11_right_55
    · have h := h.2 hq
      refine lv_bipush (v := (-3 : Int32)) hx hb dX11_right_26 (by decide) ?_
      subst hsz; subst hA; subst hQ
      exact m_iret C0 hr hM (A_0_3_0_sum, A_0_3_1_b, A_0_3_3_derived, A_0_3_4_next, A_0_3_5_power) h rfl dX11_right_28
  · have h := h.2 hq
    refine lv_iconst (v := (-1 : Int32)) hx hb dX11_right_10 (by decide) ?_
    subst hsz; subst hA; subst hQ
    exact m_iret C0 hr hM (A_0_3_0_sum, A_0_3_1_b, A_0_3_3_derived, A_0_3_4_next, A_0_3_5_power) h rfl dX11_right_11
abbrev rm_X11_search : Room := { frames := 5, cells := 0, slots := 0, locals := 119 }
set_option maxRecDepth 100000 in
set_option maxHeartbeats 4000000 in
theorem ct_X11_search (l : Launch) (D : va_G) (cI cJ cZ : ClassId) (h0 : Nat) (r0 : Nat → Nat) (r0_0 : Nat → Nat) (r0_0_2 : Nat → Nat) (r0_0_2_0 : Nat → Nat) (r0_3 : Nat → Nat) (r0_4 : Nat → Nat) (I_0_imaged : Int32) (A_0_0_0_f : (Nat → Int32)) (I_0_0_2_top : Int32) (A_0_0_2_0_0_numbers : (Nat → Int32)) (A_0_0_2_1_b : (Nat → Int32)) (A_0_3_3_derived : (Nat → Int32)) (A_0_3_4_next : (Nat → Int32)) (I_0_4_size : Int32) (A_0_4_0_steps : (Nat → Int32)) (A_0_4_1_lead : (Nat → Int32)) (A_0_4_2_end : (Nat → Int32)) (A_0_4_3_source : (Nat → Int32)) (A_0_4_4_scale : (Nat → Int32)) (A_0_4_5_shares : (Nat → Int32)) (A_0_4_6_column : (Nat → Int32)) (A_0_4_7_share : (Nat → Int32)) (A_0_4_8_base : (Nat → Int32)) (x1 : Int32) (x2 : Int32) (x3 : Int32) (sz : Nat) (K : Int32 → Int32 → (Nat → Int32) → (Nat → Int32) → (Nat → Int32) → (Nat → Int32) → Int32 → (Nat → Int32) → (Nat → Int32) → (Nat → Int32) → (Nat → Int32) → (Nat → Int32) → (Nat → Int32) → (Nat → Int32) → (Nat → Int32) → (Nat → Int32) → Prop) (h : wp_X11_search x1 x2 x3 A_0_0_0_f I_0_0_2_top A_0_0_2_0_0_numbers A_0_0_2_1_b A_0_3_3_derived A_0_3_4_next I_0_4_size A_0_4_0_steps A_0_4_1_lead A_0_4_2_end A_0_4_3_source A_0_4_4_scale A_0_4_5_shares A_0_4_6_column A_0_4_7_share A_0_4_8_base K) : Met l yX11_search wsX11_search rm_X11_search (va_Pc [.ref h0, .int x1, .int x2, .int x3] (WX D cI cJ cZ [(h0, .inr (10, oX11 r0 I_0_imaged)), ((r0 0), .inr (8, oX9 r0_0 )), ((r0_0 0), .inl (cI, 5, .inl A_0_0_0_f)), ((r0_0 2), .inr (0, oX0 r0_0_2 I_0_0_2_top)), ((r0_0_2 0), .inr (3, oX4 r0_0_2_0 )), ((r0_0_2_0 0), .inl (cI, 75, .inl A_0_0_2_0_0_numbers)), ((r0_0_2 1), .inl (cI, 9, .inl A_0_0_2_1_b)), ((r0 3), .inr (2, oX2 r0_3 )), ((r0_3 3), .inl (cI, 225, .inl A_0_3_3_derived)), ((r0_3 4), .inl (cI, 225, .inl A_0_3_4_next)), ((r0 4), .inr (7, oX8 r0_4 I_0_4_size)), ((r0_4 0), .inl (cI, 18900, .inl A_0_4_0_steps)), ((r0_4 1), .inl (cI, 84, .inl A_0_4_1_lead)), ((r0_4 2), .inl (cI, 84, .inl A_0_4_2_end)), ((r0_4 3), .inl (cI, 84, .inl A_0_4_3_source)), ((r0_4 4), .inl (cI, 84, .inl A_0_4_4_scale)), ((r0_4 5), .inl (cI, 7056, .inl A_0_4_5_shares)), ((r0_4 6), .inl (cI, 225, .inl A_0_4_6_column)), ((r0_4 7), .inl (cI, 84, .inl A_0_4_7_share)), ((r0_4 8), .inl (cI, 225, .inl A_0_4_8_base))] sz)) (va_Qi (fun (r : Int32) (u : Int32 × (Nat → Int32) × (Nat → Int32) × (Nat → Int32) × (Nat → Int32) × Int32 × (Nat → Int32) × (Nat → Int32) × (Nat → Int32) × (Nat → Int32) × (Nat → Int32) × (Nat → Int32) × (Nat → Int32) × (Nat → Int32) × (Nat → Int32)) => K r u.1 u.2.1 u.2.2.1 u.2.2.2.1 u.2.2.2.2.1 u.2.2.2.2.2.1 u.2.2.2.2.2.2.1 u.2.2.2.2.2.2.2.1 u.2.2.2.2.2.2.2.2.1 u.2.2.2.2.2.2.2.2.2.1 u.2.2.2.2.2.2.2.2.2.2.1 u.2.2.2.2.2.2.2.2.2.2.2.1 u.2.2.2.2.2.2.2.2.2.2.2.2.1 u.2.2.2.2.2.2.2.2.2.2.2.2.2.1 u.2.2.2.2.2.2.2.2.2.2.2.2.2.2) (fun (u : Int32 × (Nat → Int32) × (Nat → Int32) × (Nat → Int32) × (Nat → Int32) × Int32 × (Nat → Int32) × (Nat → Int32) × (Nat → Int32) × (Nat → Int32) × (Nat → Int32) × (Nat → Int32) × (Nat → Int32) × (Nat → Int32) × (Nat → Int32)) t => WY D (va_A [(h0, .inr (10, oX11 r0 I_0_imaged)), ((r0 0), .inr (8, oX9 r0_0 )), ((r0_0 0), .inl (cI, 5, .inl A_0_0_0_f)), ((r0_0 2), .inr (0, oX0 r0_0_2 I_0_0_2_top)), ((r0_0_2 0), .inr (3, oX4 r0_0_2_0 )), ((r0_0_2_0 0), .inl (cI, 75, .inl A_0_0_2_0_0_numbers)), ((r0_0_2 1), .inl (cI, 9, .inl A_0_0_2_1_b)), ((r0 3), .inr (2, oX2 r0_3 )), ((r0_3 3), .inl (cI, 225, .inl A_0_3_3_derived)), ((r0_3 4), .inl (cI, 225, .inl A_0_3_4_next)), ((r0 4), .inr (7, oX8 r0_4 I_0_4_size)), ((r0_4 0), .inl (cI, 18900, .inl A_0_4_0_steps)), ((r0_4 1), .inl (cI, 84, .inl A_0_4_1_lead)), ((r0_4 2), .inl (cI, 84, .inl A_0_4_2_end)), ((r0_4 3), .inl (cI, 84, .inl A_0_4_3_source)), ((r0_4 4), .inl (cI, 84, .inl A_0_4_4_scale)), ((r0_4 5), .inl (cI, 7056, .inl A_0_4_5_shares)), ((r0_4 6), .inl (cI, 225, .inl A_0_4_6_column)), ((r0_4 7), .inl (cI, 84, .inl A_0_4_7_share)), ((r0_4 8), .inl (cI, 225, .inl A_0_4_8_base))] sz) [(h0, .inr (10, oX11 r0 I_0_imaged)), ((r0 0), .inr (8, oX9 r0_0 )), ((r0_0 0), .inl (cI, 5, .inl A_0_0_0_f)), ((r0_0 2), .inr (0, oX0 r0_0_2 u.1)), ((r0_0_2 0), .inr (3, oX4 r0_0_2_0 )), ((r0_0_2_0 0), .inl (cI, 75, .inl u.2.1)), ((r0_0_2 1), .inl (cI, 9, .inl u.2.2.1)), ((r0 3), .inr (2, oX2 r0_3 )), ((r0_3 3), .inl (cI, 225, .inl u.2.2.2.1)), ((r0_3 4), .inl (cI, 225, .inl u.2.2.2.2.1)), ((r0 4), .inr (7, oX8 r0_4 u.2.2.2.2.2.1)), ((r0_4 0), .inl (cI, 18900, .inl u.2.2.2.2.2.2.1)), ((r0_4 1), .inl (cI, 84, .inl u.2.2.2.2.2.2.2.1)), ((r0_4 2), .inl (cI, 84, .inl u.2.2.2.2.2.2.2.2.1)), ((r0_4 3), .inl (cI, 84, .inl u.2.2.2.2.2.2.2.2.2.1)), ((r0_4 4), .inl (cI, 84, .inl u.2.2.2.2.2.2.2.2.2.2.1)), ((r0_4 5), .inl (cI, 7056, .inl u.2.2.2.2.2.2.2.2.2.2.2.1)), ((r0_4 6), .inl (cI, 225, .inl u.2.2.2.2.2.2.2.2.2.2.2.2.1)), ((r0_4 7), .inl (cI, 84, .inl u.2.2.2.2.2.2.2.2.2.2.2.2.2.1)), ((r0_4 8), .inl (cI, 225, .inl u.2.2.2.2.2.2.2.2.2.2.2.2.2.2))] t) (va_A [(h0, .inr (10, oX11 r0 I_0_imaged)), ((r0 0), .inr (8, oX9 r0_0 )), ((r0_0 0), .inl (cI, 5, .inl A_0_0_0_f)), ((r0_0 2), .inr (0, oX0 r0_0_2 I_0_0_2_top)), ((r0_0_2 0), .inr (3, oX4 r0_0_2_0 )), ((r0_0_2_0 0), .inl (cI, 75, .inl A_0_0_2_0_0_numbers)), ((r0_0_2 1), .inl (cI, 9, .inl A_0_0_2_1_b)), ((r0 3), .inr (2, oX2 r0_3 )), ((r0_3 3), .inl (cI, 225, .inl A_0_3_3_derived)), ((r0_3 4), .inl (cI, 225, .inl A_0_3_4_next)), ((r0 4), .inr (7, oX8 r0_4 I_0_4_size)), ((r0_4 0), .inl (cI, 18900, .inl A_0_4_0_steps)), ((r0_4 1), .inl (cI, 84, .inl A_0_4_1_lead)), ((r0_4 2), .inl (cI, 84, .inl A_0_4_2_end)), ((r0_4 3), .inl (cI, 84, .inl A_0_4_3_source)), ((r0_4 4), .inl (cI, 84, .inl A_0_4_4_scale)), ((r0_4 5), .inl (cI, 7056, .inl A_0_4_5_shares)), ((r0_4 6), .inl (cI, 225, .inl A_0_4_6_column)), ((r0_4 7), .inl (cI, 84, .inl A_0_4_7_share)), ((r0_4 8), .inl (cI, 225, .inl A_0_4_8_base))] sz)) 0 0 (va_A [(h0, .inr (10, oX11 r0 I_0_imaged)), ((r0 0), .inr (8, oX9 r0_0 )), ((r0_0 0), .inl (cI, 5, .inl A_0_0_0_f)), ((r0_0 2), .inr (0, oX0 r0_0_2 I_0_0_2_top)), ((r0_0_2 0), .inr (3, oX4 r0_0_2_0 )), ((r0_0_2_0 0), .inl (cI, 75, .inl A_0_0_2_0_0_numbers)), ((r0_0_2 1), .inl (cI, 9, .inl A_0_0_2_1_b)), ((r0 3), .inr (2, oX2 r0_3 )), ((r0_3 3), .inl (cI, 225, .inl A_0_3_3_derived)), ((r0_3 4), .inl (cI, 225, .inl A_0_3_4_next)), ((r0 4), .inr (7, oX8 r0_4 I_0_4_size)), ((r0_4 0), .inl (cI, 18900, .inl A_0_4_0_steps)), ((r0_4 1), .inl (cI, 84, .inl A_0_4_1_lead)), ((r0_4 2), .inl (cI, 84, .inl A_0_4_2_end)), ((r0_4 3), .inl (cI, 84, .inl A_0_4_3_source)), ((r0_4 4), .inl (cI, 84, .inl A_0_4_4_scale)), ((r0_4 5), .inl (cI, 7056, .inl A_0_4_5_shares)), ((r0_4 6), .inl (cI, 225, .inl A_0_4_6_column)), ((r0_4 7), .inl (cI, 84, .inl A_0_4_7_share)), ((r0_4 8), .inl (cI, 225, .inl A_0_4_8_base))] sz) := by
  refine m_met (own := RX11) (cc := cX11_search) (maxL := 4) (ret := some .int) [.ref h0, .int x1, .int x2, .int x3] [(0, .ref h0), (1, .int x1), (2, .int x2), (3, .int x3)] (by decide) rfl rfl (Nat.le_of_ble_eq_true rfl) rfl ?_
  intro p e s m args below meth c Q A hQ hA C0 hr hnm hsz hM ls hl
  have hx := C0.1
  have hb := C0.2.1
  have hown := C0.2.2.2.1
  unfold wp_X11_search at h
  refine lv_iload_n hx hb dX11_search_0 rfl (lv_at hl 1 rfl) ?_
  refine lv_iconst (v := (1 : Int32)) hx hb dX11_search_1 (by decide) ?_
  refine lv_iconst (v := (4 : Int32)) hx hb dX11_search_2 (by decide) ?_
  refine m_calli (wc := []) C0 hM [] rfl (m_runS (wc := []) (As := [.int x1, .int (1 : Int32), .int (4 : Int32)]) (rest := []) C0 hM (ct_X11_within l D cI cJ cZ x1 (1 : Int32) (4 : Int32) _ _ h) [] rfl (by decide) gX11_search_X11_within rfl rfl rfl hd_X11_within ⟨Nat.le_of_ble_eq_true rfl, Nat.le_of_ble_eq_true rfl⟩ rfl hl.1 rfl (Nat.le_of_ble_eq_true rfl) dX11_search_3 ⟨Nat.le_of_ble_eq_true rfl, Nat.le_of_ble_eq_true rfl⟩) (fun _ => [(h0, .inr (10, oX11 r0 I_0_imaged)), ((r0 0), .inr (8, oX9 r0_0 )), ((r0_0 0), .inl (cI, 5, .inl A_0_0_0_f)), ((r0_0 2), .inr (0, oX0 r0_0_2 I_0_0_2_top)), ((r0_0_2 0), .inr (3, oX4 r0_0_2_0 )), ((r0_0_2_0 0), .inl (cI, 75, .inl A_0_0_2_0_0_numbers)), ((r0_0_2 1), .inl (cI, 9, .inl A_0_0_2_1_b)), ((r0 3), .inr (2, oX2 r0_3 )), ((r0_3 3), .inl (cI, 225, .inl A_0_3_3_derived)), ((r0_3 4), .inl (cI, 225, .inl A_0_3_4_next)), ((r0 4), .inr (7, oX8 r0_4 I_0_4_size)), ((r0_4 0), .inl (cI, 18900, .inl A_0_4_0_steps)), ((r0_4 1), .inl (cI, 84, .inl A_0_4_1_lead)), ((r0_4 2), .inl (cI, 84, .inl A_0_4_2_end)), ((r0_4 3), .inl (cI, 84, .inl A_0_4_3_source)), ((r0_4 4), .inl (cI, 84, .inl A_0_4_4_scale)), ((r0_4 5), .inl (cI, 7056, .inl A_0_4_5_shares)), ((r0_4 6), .inl (cI, 225, .inl A_0_4_6_column)), ((r0_4 7), .inl (cI, 84, .inl A_0_4_7_share)), ((r0_4 8), .inl (cI, 225, .inl A_0_4_8_base))]) (fun _ => rfl) (fun _ => rfl) (fun y1 _ H locs h hM => ?_)
  refine lv_if_eq (tgt := 27) hx hb dX11_search_6 (by decide) (fun hq => ?_) (fun hq => ?_)
  · have h := h.1 hq
    refine lv_bipush (v := (-2 : Int32)) hx hb dX11_search_27 (by decide) ?_
    subst hsz; subst hA; subst hQ
    exact m_iret C0 hr hM (I_0_0_2_top, A_0_0_2_0_0_numbers, A_0_0_2_1_b, A_0_3_3_derived, A_0_3_4_next, I_0_4_size, A_0_4_0_steps, A_0_4_1_lead, A_0_4_2_end, A_0_4_3_source, A_0_4_4_scale, A_0_4_5_shares, A_0_4_6_column, A_0_4_7_share, A_0_4_8_base) h rfl dX11_search_29
  · have h := h.2 hq
    refine lv_iload_n hx hb dX11_search_9 rfl (lv_at hl 2 rfl) ?_
    refine lv_iconst (v := (0 : Int32)) hx hb dX11_search_10 (by decide) ?_
    refine lv_iconst (v := (4 : Int32)) hx hb dX11_search_11 (by decide) ?_
    refine m_calli (wc := []) C0 hM [] rfl (m_runS (wc := []) (As := [.int x2, .int (0 : Int32), .int (4 : Int32)]) (rest := []) C0 hM (ct_X11_within l D cI cJ cZ x2 (0 : Int32) (4 : Int32) _ _ h) [] rfl (by decide) gX11_search_X11_within rfl rfl rfl hd_X11_within ⟨Nat.le_of_ble_eq_true rfl, Nat.le_of_ble_eq_true rfl⟩ rfl hl.1 rfl (Nat.le_of_ble_eq_true rfl) dX11_search_12 ⟨Nat.le_of_ble_eq_true rfl, Nat.le_of_ble_eq_true rfl⟩) (fun _ => [(h0, .inr (10, oX11 r0 I_0_imaged)), ((r0 0), .inr (8, oX9 r0_0 )), ((r0_0 0), .inl (cI, 5, .inl A_0_0_0_f)), ((r0_0 2), .inr (0, oX0 r0_0_2 I_0_0_2_top)), ((r0_0_2 0), .inr (3, oX4 r0_0_2_0 )), ((r0_0_2_0 0), .inl (cI, 75, .inl A_0_0_2_0_0_numbers)), ((r0_0_2 1), .inl (cI, 9, .inl A_0_0_2_1_b)), ((r0 3), .inr (2, oX2 r0_3 )), ((r0_3 3), .inl (cI, 225, .inl A_0_3_3_derived)), ((r0_3 4), .inl (cI, 225, .inl A_0_3_4_next)), ((r0 4), .inr (7, oX8 r0_4 I_0_4_size)), ((r0_4 0), .inl (cI, 18900, .inl A_0_4_0_steps)), ((r0_4 1), .inl (cI, 84, .inl A_0_4_1_lead)), ((r0_4 2), .inl (cI, 84, .inl A_0_4_2_end)), ((r0_4 3), .inl (cI, 84, .inl A_0_4_3_source)), ((r0_4 4), .inl (cI, 84, .inl A_0_4_4_scale)), ((r0_4 5), .inl (cI, 7056, .inl A_0_4_5_shares)), ((r0_4 6), .inl (cI, 225, .inl A_0_4_6_column)), ((r0_4 7), .inl (cI, 84, .inl A_0_4_7_share)), ((r0_4 8), .inl (cI, 225, .inl A_0_4_8_base))]) (fun _ => rfl) (fun _ => rfl) (fun y2 _ H locs h hM => ?_)
    refine lv_if_eq (tgt := 27) hx hb dX11_search_15 (by decide) (fun hq => ?_) (fun hq => ?_)
    · have h := h.1 hq
      refine lv_bipush (v := (-2 : Int32)) hx hb dX11_search_27 (by decide) ?_
      subst hsz; subst hA; subst hQ
      exact m_iret C0 hr hM (I_0_0_2_top, A_0_0_2_0_0_numbers, A_0_0_2_1_b, A_0_3_3_derived, A_0_3_4_next, I_0_4_size, A_0_4_0_steps, A_0_4_1_lead, A_0_4_2_end, A_0_4_3_source, A_0_4_4_scale, A_0_4_5_shares, A_0_4_6_column, A_0_4_7_share, A_0_4_8_base) h rfl dX11_search_29
    · have h := h.2 hq
      refine lv_iload_n hx hb dX11_search_18 rfl (lv_at hl 3 rfl) ?_
      refine lv_iconst (v := (0 : Int32)) hx hb dX11_search_19 (by decide) ?_
      refine lv_iconst (v := (2 : Int32)) hx hb dX11_search_20 (by decide) ?_
      refine m_calli (wc := []) C0 hM [] rfl (m_runS (wc := []) (As := [.int x3, .int (0 : Int32), .int (2 : Int32)]) (rest := []) C0 hM (ct_X11_within l D cI cJ cZ x3 (0 : Int32) (2 : Int32) _ _ h) [] rfl (by decide) gX11_search_X11_within rfl rfl rfl hd_X11_within ⟨Nat.le_of_ble_eq_true rfl, Nat.le_of_ble_eq_true rfl⟩ rfl hl.1 rfl (Nat.le_of_ble_eq_true rfl) dX11_search_21 ⟨Nat.le_of_ble_eq_true rfl, Nat.le_of_ble_eq_true rfl⟩) (fun _ => [(h0, .inr (10, oX11 r0 I_0_imaged)), ((r0 0), .inr (8, oX9 r0_0 )), ((r0_0 0), .inl (cI, 5, .inl A_0_0_0_f)), ((r0_0 2), .inr (0, oX0 r0_0_2 I_0_0_2_top)), ((r0_0_2 0), .inr (3, oX4 r0_0_2_0 )), ((r0_0_2_0 0), .inl (cI, 75, .inl A_0_0_2_0_0_numbers)), ((r0_0_2 1), .inl (cI, 9, .inl A_0_0_2_1_b)), ((r0 3), .inr (2, oX2 r0_3 )), ((r0_3 3), .inl (cI, 225, .inl A_0_3_3_derived)), ((r0_3 4), .inl (cI, 225, .inl A_0_3_4_next)), ((r0 4), .inr (7, oX8 r0_4 I_0_4_size)), ((r0_4 0), .inl (cI, 18900, .inl A_0_4_0_steps)), ((r0_4 1), .inl (cI, 84, .inl A_0_4_1_lead)), ((r0_4 2), .inl (cI, 84, .inl A_0_4_2_end)), ((r0_4 3), .inl (cI, 84, .inl A_0_4_3_source)), ((r0_4 4), .inl (cI, 84, .inl A_0_4_4_scale)), ((r0_4 5), .inl (cI, 7056, .inl A_0_4_5_shares)), ((r0_4 6), .inl (cI, 225, .inl A_0_4_6_column)), ((r0_4 7), .inl (cI, 84, .inl A_0_4_7_share)), ((r0_4 8), .inl (cI, 225, .inl A_0_4_8_base))]) (fun _ => rfl) (fun _ => rfl) (fun y3 _ H locs h hM => ?_)
      refine lv_if_ne (tgt := 30) hx hb dX11_search_24 (by decide) (fun hq => ?_) (fun hq => ?_)
      · have h := h.1 hq
        refine lv_aload_n hx hb dX11_search_30 rfl (lv_at hl 0 rfl) ?_
        refine m_get (C := RX11) (T := TX11) (N := 12) (ci := 10) (ref := "LoweredPowers") (v := .ref (r0 0)) C0 hM 0 rfl rfl kt_X11_search_X11 0 (by decide) kw_X11_search_1 rfl rfl dX11_search_31 ?_
        refine m_get (C := RX9) (T := TX9) (N := 4) (ci := 8) (ref := "LoweredPowers$State") (v := .ref (r0_0 0)) C0 hM 1 rfl rfl kt_X11_search_X9 0 (by decide) kw_X11_search_2 rfl rfl dX11_search_34 ?_
        refine m_calli (wc := [((r0_0 0), .inl (cI, 5, .inl A_0_0_0_f))]) C0 hM [2] rfl (m_runS (wc := [((r0_0 0), .inl (cI, 5, .inl A_0_0_0_f))]) (As := [.ref (r0_0 0)]) (rest := []) C0 hM (ct_X3_highest l D cI cJ cZ (r0_0 0) 5 A_0_0_0_f _ _ h) [2] rfl (by decide) gX11_search_X3_highest rfl rfl rfl hd_X3_highest ⟨Nat.le_of_ble_eq_true rfl, Nat.le_of_ble_eq_true rfl⟩ rfl hl.1 rfl (Nat.le_of_ble_eq_true rfl) dX11_search_37 ⟨Nat.le_of_ble_eq_true rfl, Nat.le_of_ble_eq_true rfl⟩) (fun _ => [(h0, .inr (10, oX11 r0 I_0_imaged)), ((r0 0), .inr (8, oX9 r0_0 )), ((r0_0 0), .inl (cI, 5, .inl A_0_0_0_f)), ((r0_0 2), .inr (0, oX0 r0_0_2 I_0_0_2_top)), ((r0_0_2 0), .inr (3, oX4 r0_0_2_0 )), ((r0_0_2_0 0), .inl (cI, 75, .inl A_0_0_2_0_0_numbers)), ((r0_0_2 1), .inl (cI, 9, .inl A_0_0_2_1_b)), ((r0 3), .inr (2, oX2 r0_3 )), ((r0_3 3), .inl (cI, 225, .inl A_0_3_3_derived)), ((r0_3 4), .inl (cI, 225, .inl A_0_3_4_next)), ((r0 4), .inr (7, oX8 r0_4 I_0_4_size)), ((r0_4 0), .inl (cI, 18900, .inl A_0_4_0_steps)), ((r0_4 1), .inl (cI, 84, .inl A_0_4_1_lead)), ((r0_4 2), .inl (cI, 84, .inl A_0_4_2_end)), ((r0_4 3), .inl (cI, 84, .inl A_0_4_3_source)), ((r0_4 4), .inl (cI, 84, .inl A_0_4_4_scale)), ((r0_4 5), .inl (cI, 7056, .inl A_0_4_5_shares)), ((r0_4 6), .inl (cI, 225, .inl A_0_4_6_column)), ((r0_4 7), .inl (cI, 84, .inl A_0_4_7_share)), ((r0_4 8), .inl (cI, 225, .inl A_0_4_8_base))]) (fun _ => rfl) (fun _ => rfl) (fun y4 _ H locs h hM => ?_)
        refine lv_iconst (v := (1 : Int32)) hx hb dX11_search_40 (by decide) ?_
        refine lv_icmp_ge (tgt := 47) hx hb dX11_search_41 (by decide) (fun hq => ?_) (fun hq => ?_)
        · have h := h.1 hq
          refine lv_aload_n hx hb dX11_search_47 rfl (lv_at hl 0 rfl) ?_
          refine m_get (C := RX11) (T := TX11) (N := 12) (ci := 10) (ref := "LoweredPowers") (v := .ref (r0 4)) C0 hM 0 rfl rfl kt_X11_search_X11 4 (by decide) kw_X11_search_3 rfl rfl dX11_search_48 ?_
          refine lv_aload_n hx hb dX11_search_51 rfl (lv_at hl 0 rfl) ?_
          refine m_get (C := RX11) (T := TX11) (N := 12) (ci := 10) (ref := "LoweredPowers") (v := .ref (r0 3)) C0 hM 0 rfl rfl kt_X11_search_X11 3 (by decide) kw_X11_search_4 rfl rfl dX11_search_52 ?_
          refine lv_aload_n hx hb dX11_search_55 rfl (lv_at hl 0 rfl) ?_
          refine m_get (C := RX11) (T := TX11) (N := 12) (ci := 10) (ref := "LoweredPowers") (v := .ref (r0 0)) C0 hM 0 rfl rfl kt_X11_search_X11 0 (by decide) kw_X11_search_1 rfl rfl dX11_search_56 ?_
          refine lv_iload_n hx hb dX11_search_59 rfl (lv_at hl 1 rfl) ?_
          refine lv_iload_n hx hb dX11_search_60 rfl (lv_at hl 2 rfl) ?_
          refine lv_iload_n hx hb dX11_search_61 rfl (lv_at hl 3 rfl) ?_
          refine m_calli2 (wc := [((r0 4), .inr (7, oX8 r0_4 I_0_4_size)), ((r0_4 0), .inl (cI, 18900, .inl A_0_4_0_steps)), ((r0_4 1), .inl (cI, 84, .inl A_0_4_1_lead)), ((r0_4 2), .inl (cI, 84, .inl A_0_4_2_end)), ((r0_4 3), .inl (cI, 84, .inl A_0_4_3_source)), ((r0_4 4), .inl (cI, 84, .inl A_0_4_4_scale)), ((r0_4 5), .inl (cI, 7056, .inl A_0_4_5_shares)), ((r0_4 6), .inl (cI, 225, .inl A_0_4_6_column)), ((r0_4 7), .inl (cI, 84, .inl A_0_4_7_share)), ((r0_4 8), .inl (cI, 225, .inl A_0_4_8_base)), ((r0 3), .inr (2, oX2 r0_3 )), ((r0_3 3), .inl (cI, 225, .inl A_0_3_3_derived)), ((r0_3 4), .inl (cI, 225, .inl A_0_3_4_next)), ((r0 0), .inr (8, oX9 r0_0 )), ((r0_0 0), .inl (cI, 5, .inl A_0_0_0_f)), ((r0_0 2), .inr (0, oX0 r0_0_2 I_0_0_2_top)), ((r0_0_2 0), .inr (3, oX4 r0_0_2_0 )), ((r0_0_2_0 0), .inl (cI, 75, .inl A_0_0_2_0_0_numbers)), ((r0_0_2 1), .inl (cI, 9, .inl A_0_0_2_1_b))]) C0 hM [10, 11, 12, 13, 14, 15, 16, 17, 18, 19, 7, 8, 9, 1, 2, 3, 4, 5, 6] [0] rfl (m_runV (wc := [((r0 4), .inr (7, oX8 r0_4 I_0_4_size)), ((r0_4 0), .inl (cI, 18900, .inl A_0_4_0_steps)), ((r0_4 1), .inl (cI, 84, .inl A_0_4_1_lead)), ((r0_4 2), .inl (cI, 84, .inl A_0_4_2_end)), ((r0_4 3), .inl (cI, 84, .inl A_0_4_3_source)), ((r0_4 4), .inl (cI, 84, .inl A_0_4_4_scale)), ((r0_4 5), .inl (cI, 7056, .inl A_0_4_5_shares)), ((r0_4 6), .inl (cI, 225, .inl A_0_4_6_column)), ((r0_4 7), .inl (cI, 84, .inl A_0_4_7_share)), ((r0_4 8), .inl (cI, 225, .inl A_0_4_8_base)), ((r0 3), .inr (2, oX2 r0_3 )), ((r0_3 3), .inl (cI, 225, .inl A_0_3_3_derived)), ((r0_3 4), .inl (cI, 225, .inl A_0_3_4_next)), ((r0 0), .inr (8, oX9 r0_0 )), ((r0_0 0), .inl (cI, 5, .inl A_0_0_0_f)), ((r0_0 2), .inr (0, oX0 r0_0_2 I_0_0_2_top)), ((r0_0_2 0), .inr (3, oX4 r0_0_2_0 )), ((r0_0_2_0 0), .inl (cI, 75, .inl A_0_0_2_0_0_numbers)), ((r0_0_2 1), .inl (cI, 9, .inl A_0_0_2_1_b))]) (As := [.ref (r0 3), .ref (r0 0), .int x1, .int x2, .int x3]) (rest := []) (ci := 7) C0 hM (ct_X8_seek l D cI cJ cZ (r0 4) (r0 3) (r0 0) r0_4 r0_3 r0_0 r0_0_2 r0_0_2_0 I_0_4_size A_0_4_0_steps A_0_4_1_lead A_0_4_2_end A_0_4_3_source A_0_4_4_scale A_0_4_5_shares A_0_4_6_column A_0_4_7_share A_0_4_8_base A_0_3_3_derived A_0_3_4_next A_0_0_0_f I_0_0_2_top A_0_0_2_0_0_numbers A_0_0_2_1_b x1 x2 x3 _ _ h) [10, 11, 12, 13, 14, 15, 16, 17, 18, 19, 7, 8, 9, 1, 2, 3, 4, 5, 6] rfl (by decide) gX11_search_X8_seek rfl rfl rfl rfl rfl hd_X8_seek ⟨Nat.le_of_ble_eq_true rfl, Nat.le_of_ble_eq_true rfl⟩ rfl hl.1 rfl (Nat.le_of_ble_eq_true rfl) dX11_search_62 ⟨Nat.le_of_ble_eq_true rfl, Nat.le_of_ble_eq_true rfl⟩) (fun u => [(h0, .inr (10, oX11 r0 I_0_imaged)), ((r0 0), .inr (8, oX9 r0_0 )), ((r0_0 0), .inl (cI, 5, .inl A_0_0_0_f)), ((r0_0 2), .inr (0, oX0 r0_0_2 u.2.2.2.2.2.2.2.2.2.2.2.2.1)), ((r0_0_2 0), .inr (3, oX4 r0_0_2_0 )), ((r0_0_2_0 0), .inl (cI, 75, .inl u.2.2.2.2.2.2.2.2.2.2.2.2.2.1)), ((r0_0_2 1), .inl (cI, 9, .inl u.2.2.2.2.2.2.2.2.2.2.2.2.2.2)), ((r0 3), .inr (2, oX2 r0_3 )), ((r0_3 3), .inl (cI, 225, .inl u.2.2.2.2.2.2.2.2.2.2.1)), ((r0_3 4), .inl (cI, 225, .inl u.2.2.2.2.2.2.2.2.2.2.2.1)), ((r0 4), .inr (7, oX8 r0_4 u.1)), ((r0_4 0), .inl (cI, 18900, .inl u.2.1)), ((r0_4 1), .inl (cI, 84, .inl u.2.2.1)), ((r0_4 2), .inl (cI, 84, .inl u.2.2.2.1)), ((r0_4 3), .inl (cI, 84, .inl u.2.2.2.2.1)), ((r0_4 4), .inl (cI, 84, .inl u.2.2.2.2.2.1)), ((r0_4 5), .inl (cI, 7056, .inl u.2.2.2.2.2.2.1)), ((r0_4 6), .inl (cI, 225, .inl u.2.2.2.2.2.2.2.1)), ((r0_4 7), .inl (cI, 84, .inl u.2.2.2.2.2.2.2.2.1)), ((r0_4 8), .inl (cI, 225, .inl u.2.2.2.2.2.2.2.2.2.1))]) (fun _ => rfl) [(h0, .inr (10, oX11 r0 I_0_imaged))] (fun _ => rfl) rfl (fun _ => rfl) (show ∀ i, i < 20 → i ∈ ([10, 11, 12, 13, 14, 15, 16, 17, 18, 19, 7, 8, 9, 1, 2, 3, 4, 5, 6] : List Nat) ∨ i ∈ ([0] : List Nat) from by decide) (fun y5 u H locs h hM => ?_)
          obtain ⟨b6, b7, b8, b9, b10, b11, b12, b13, b14, b15, b16, b17, b18, b19, b20⟩ := u
          dsimp only at h
          have hM : MW D A s.heap [(h0, .inr (10, oX11 r0 I_0_imaged)), ((r0 0), .inr (8, oX9 r0_0 )), ((r0_0 0), .inl (cI, 5, .inl A_0_0_0_f)), ((r0_0 2), .inr (0, oX0 r0_0_2 b18)), ((r0_0_2 0), .inr (3, oX4 r0_0_2_0 )), ((r0_0_2_0 0), .inl (cI, 75, .inl b19)), ((r0_0_2 1), .inl (cI, 9, .inl b20)), ((r0 3), .inr (2, oX2 r0_3 )), ((r0_3 3), .inl (cI, 225, .inl b16)), ((r0_3 4), .inl (cI, 225, .inl b17)), ((r0 4), .inr (7, oX8 r0_4 b6)), ((r0_4 0), .inl (cI, 18900, .inl b7)), ((r0_4 1), .inl (cI, 84, .inl b8)), ((r0_4 2), .inl (cI, 84, .inl b9)), ((r0_4 3), .inl (cI, 84, .inl b10)), ((r0_4 4), .inl (cI, 84, .inl b11)), ((r0_4 5), .inl (cI, 7056, .inl b12)), ((r0_4 6), .inl (cI, 225, .inl b13)), ((r0_4 7), .inl (cI, 84, .inl b14)), ((r0_4 8), .inl (cI, 225, .inl b15))] H locs := hM
          refine lv_if_eq (tgt := 81) hx hb dX11_search_65 (by decide) (fun hq => ?_) (fun hq => ?_)
          · have h := h.1 hq
            refine lv_bipush (v := (-5 : Int32)) hx hb dX11_search_81 (by decide) ?_
            subst hsz; subst hA; subst hQ
            exact m_iret C0 hr hM (b18, b19, b20, b16, b17, b6, b7, b8, b9, b10, b11, b12, b13, b14, b15) h rfl dX11_search_83
          · have h := h.2 hq
            refine lv_aload_n hx hb dX11_search_68 rfl (lv_at hl 0 rfl) ?_
            refine m_get (C := RX11) (T := TX11) (N := 12) (ci := 10) (ref := "LoweredPowers") (v := .ref (r0 0)) C0 hM 0 rfl rfl kt_X11_search_X11 0 (by decide) kw_X11_search_1 rfl rfl dX11_search_69 ?_
            refine m_get (C := RX9) (T := TX9) (N := 4) (ci := 8) (ref := "LoweredPowers$State") (v := .ref (r0_0 2)) C0 hM 1 rfl rfl kt_X11_search_X9 2 (by decide) kw_X11_search_5 rfl rfl dX11_search_72 ?_
            refine m_get (C := RX0) (T := TX0) (N := 7) (ci := 0) (ref := "LoweredPowers$Found") (v := .int b18) C0 hM 3 rfl rfl kt_X11_search_X0 2 (by decide) kw_X11_search_6 rfl rfl dX11_search_75 ?_
            refine lv_goto (tgt := 83) hx hb dX11_search_78 (by decide) ?_
            subst hsz; subst hA; subst hQ
            exact m_iret C0 hr hM (b18, b19, b20, b16, b17, b6, b7, b8, b9, b10, b11, b12, b13, b14, b15) h rfl dX11_search_83
        · have h := h.2 hq
          refine lv_bipush (v := (-3 : Int32)) hx hb dX11_search_44 (by decide) ?_
          subst hsz; subst hA; subst hQ
          exact m_iret C0 hr hM (I_0_0_2_top, A_0_0_2_0_0_numbers, A_0_0_2_1_b, A_0_3_3_derived, A_0_3_4_next, I_0_4_size, A_0_4_0_steps, A_0_4_1_lead, A_0_4_2_end, A_0_4_3_source, A_0_4_4_scale, A_0_4_5_shares, A_0_4_6_column, A_0_4_7_share, A_0_4_8_base) h rfl dX11_search_46
      · have h := h.2 hq
        refine lv_bipush (v := (-2 : Int32)) hx hb dX11_search_27 (by decide) ?_
        subst hsz; subst hA; subst hQ
        exact m_iret C0 hr hM (I_0_0_2_top, A_0_0_2_0_0_numbers, A_0_0_2_1_b, A_0_3_3_derived, A_0_3_4_next, I_0_4_size, A_0_4_0_steps, A_0_4_1_lead, A_0_4_2_end, A_0_4_3_source, A_0_4_4_scale, A_0_4_5_shares, A_0_4_6_column, A_0_4_7_share, A_0_4_8_base) h rfl dX11_search_29
abbrev rm_X11_found : Room := { frames := 1, cells := 0, slots := 0, locals := 22 }
set_option maxRecDepth 100000 in
set_option maxHeartbeats 4000000 in
theorem ct_X11_found (l : Launch) (D : va_G) (cI cJ cZ : ClassId) (h0 : Nat) (r0 : Nat → Nat) (r0_0 : Nat → Nat) (r0_0_2 : Nat → Nat) (I_0_imaged : Int32) (I_0_0_2_top : Int32) (A_0_0_2_1_b : (Nat → Int32)) (x1 : Int32) (sz : Nat) (K : Int32 → Prop) (h : wp_X11_found x1 I_0_0_2_top A_0_0_2_1_b K) : Met l yX11_found wsX11_found rm_X11_found (va_Pc [.ref h0, .int x1] (WX D cI cJ cZ [(h0, .inr (10, oX11 r0 I_0_imaged)), ((r0 0), .inr (8, oX9 r0_0 )), ((r0_0 2), .inr (0, oX0 r0_0_2 I_0_0_2_top)), ((r0_0_2 1), .inl (cI, 9, .inl A_0_0_2_1_b))] sz)) (va_Qi (fun (r : Int32) (_ : Unit) => K r ) (fun (_ : Unit) t => WY D (va_A [(h0, .inr (10, oX11 r0 I_0_imaged)), ((r0 0), .inr (8, oX9 r0_0 )), ((r0_0 2), .inr (0, oX0 r0_0_2 I_0_0_2_top)), ((r0_0_2 1), .inl (cI, 9, .inl A_0_0_2_1_b))] sz) [(h0, .inr (10, oX11 r0 I_0_imaged)), ((r0 0), .inr (8, oX9 r0_0 )), ((r0_0 2), .inr (0, oX0 r0_0_2 I_0_0_2_top)), ((r0_0_2 1), .inl (cI, 9, .inl A_0_0_2_1_b))] t) (va_A [(h0, .inr (10, oX11 r0 I_0_imaged)), ((r0 0), .inr (8, oX9 r0_0 )), ((r0_0 2), .inr (0, oX0 r0_0_2 I_0_0_2_top)), ((r0_0_2 1), .inl (cI, 9, .inl A_0_0_2_1_b))] sz)) 0 0 (va_A [(h0, .inr (10, oX11 r0 I_0_imaged)), ((r0 0), .inr (8, oX9 r0_0 )), ((r0_0 2), .inr (0, oX0 r0_0_2 I_0_0_2_top)), ((r0_0_2 1), .inl (cI, 9, .inl A_0_0_2_1_b))] sz) := by
  refine m_met (own := RX11) (cc := cX11_found) (maxL := 2) (ret := some .int) [.ref h0, .int x1] [(0, .ref h0), (1, .int x1)] (by decide) rfl rfl (Nat.le_of_ble_eq_true rfl) rfl ?_
  intro p e s m args below meth c Q A hQ hA C0 hr hnm hsz hM ls hl
  have hx := C0.1
  have hb := C0.2.1
  have hown := C0.2.2.2.1
  unfold wp_X11_found at h
  refine lv_aload_n hx hb dX11_found_0 rfl (lv_at hl 0 rfl) ?_
  refine m_get (C := RX11) (T := TX11) (N := 12) (ci := 10) (ref := "LoweredPowers") (v := .ref (r0 0)) C0 hM 0 rfl rfl kt_X11_found_X11 0 (by decide) kw_X11_found_1 rfl rfl dX11_found_1 ?_
  refine m_get (C := RX9) (T := TX9) (N := 4) (ci := 8) (ref := "LoweredPowers$State") (v := .ref (r0_0 2)) C0 hM 1 rfl rfl kt_X11_found_X9 2 (by decide) kw_X11_found_2 rfl rfl dX11_found_4 ?_
  refine m_calli (wc := [((r0_0 2), .inr (0, oX0 r0_0_2 I_0_0_2_top))]) C0 hM [2] rfl (m_runV (wc := [((r0_0 2), .inr (0, oX0 r0_0_2 I_0_0_2_top))]) (As := []) (rest := []) (ci := 0) C0 hM (ct_X0_isThere l D cI cJ cZ (r0_0 2) r0_0_2 I_0_0_2_top _ _ h) [2] rfl (by decide) gX11_found_X0_isThere rfl rfl rfl rfl rfl hd_X0_isThere ⟨Nat.le_of_ble_eq_true rfl, Nat.le_of_ble_eq_true rfl⟩ rfl hl.1 rfl (Nat.le_of_ble_eq_true rfl) dX11_found_7 ⟨Nat.le_of_ble_eq_true rfl, Nat.le_of_ble_eq_true rfl⟩) (fun _ => [(h0, .inr (10, oX11 r0 I_0_imaged)), ((r0 0), .inr (8, oX9 r0_0 )), ((r0_0 2), .inr (0, oX0 r0_0_2 I_0_0_2_top)), ((r0_0_2 1), .inl (cI, 9, .inl A_0_0_2_1_b))]) (fun _ => rfl) (fun _ => rfl) (fun y1 _ H locs h hM => ?_)
  refine lv_if_ne (tgt := 16) hx hb dX11_found_10 (by decide) (fun hq => ?_) (fun hq => ?_)
  · have h := h.1 hq
    refine lv_iload_n hx hb dX11_found_16 rfl (lv_at hl 1 rfl) ?_
    refine lv_iconst (v := (-1 : Int32)) hx hb dX11_found_17 (by decide) ?_
    refine lv_aload_n hx hb dX11_found_18 rfl (lv_at hl 0 rfl) ?_
    refine m_get (C := RX11) (T := TX11) (N := 12) (ci := 10) (ref := "LoweredPowers") (v := .ref (r0 0)) C0 hM 0 rfl rfl kt_X11_found_X11 0 (by decide) kw_X11_found_1 rfl rfl dX11_found_19 ?_
    refine m_get (C := RX9) (T := TX9) (N := 4) (ci := 8) (ref := "LoweredPowers$State") (v := .ref (r0_0 2)) C0 hM 1 rfl rfl kt_X11_found_X9 2 (by decide) kw_X11_found_2 rfl rfl dX11_found_22 ?_
    refine m_get (C := RX0) (T := TX0) (N := 7) (ci := 0) (ref := "LoweredPowers$Found") (v := .int I_0_0_2_top) C0 hM 2 rfl rfl kt_X11_found_X0 2 (by decide) kw_X11_found_3 rfl rfl dX11_found_25 ?_
    refine m_calli (wc := []) C0 hM [] rfl (m_runS (wc := []) (As := [.int x1, .int (-1 : Int32), .int I_0_0_2_top]) (rest := []) C0 hM (ct_X11_within l D cI cJ cZ x1 (-1 : Int32) I_0_0_2_top _ _ h) [] rfl (by decide) gX11_found_X11_within rfl rfl rfl hd_X11_within ⟨Nat.le_of_ble_eq_true rfl, Nat.le_of_ble_eq_true rfl⟩ rfl hl.1 rfl (Nat.le_of_ble_eq_true rfl) dX11_found_28 ⟨Nat.le_of_ble_eq_true rfl, Nat.le_of_ble_eq_true rfl⟩) (fun _ => [(h0, .inr (10, oX11 r0 I_0_imaged)), ((r0 0), .inr (8, oX9 r0_0 )), ((r0_0 2), .inr (0, oX0 r0_0_2 I_0_0_2_top)), ((r0_0_2 1), .inl (cI, 9, .inl A_0_0_2_1_b))]) (fun _ => rfl) (fun _ => rfl) (fun y2 _ H locs h hM => ?_)
    refine lv_if_ne (tgt := 36) hx hb dX11_found_31 (by decide) (fun hq => ?_) (fun hq => ?_)
    · have h := h.1 hq
      refine lv_iload_n hx hb dX11_found_36 rfl (lv_at hl 1 rfl) ?_
      refine lv_iconst (v := (-1 : Int32)) hx hb dX11_found_37 (by decide) ?_
      refine lv_icmp_ne (tgt := 54) hx hb dX11_found_38 (by decide) (fun hq => ?_) (fun hq => ?_)
      · have h := h.1 hq
        refine lv_ldc (v := (100000 : Int32)) hx hb hown (C0.2.2.2.2.1 _ kw_X11_found_4) dX11_found_54 ?_
        refine lv_aload_n hx hb dX11_found_56 rfl (lv_at hl 0 rfl) ?_
        refine m_get (C := RX11) (T := TX11) (N := 12) (ci := 10) (ref := "LoweredPowers") (v := .ref (r0 0)) C0 hM 0 rfl rfl kt_X11_found_X11 0 (by decide) kw_X11_found_1 rfl rfl dX11_found_57 ?_
        refine m_get (C := RX9) (T := TX9) (N := 4) (ci := 8) (ref := "LoweredPowers$State") (v := .ref (r0_0 2)) C0 hM 1 rfl rfl kt_X11_found_X9 2 (by decide) kw_X11_found_2 rfl rfl dX11_found_60 ?_
        refine m_get (C := RX0) (T := TX0) (N := 7) (ci := 0) (ref := "LoweredPowers$Found") (v := .ref (r0_0_2 1)) C0 hM 2 rfl rfl kt_X11_found_X0 1 (by decide) kw_X11_found_5 rfl rfl dX11_found_63 ?_
        refine lv_iload_n hx hb dX11_found_66 rfl (lv_at hl 1 rfl) ?_
        obtain ⟨hc3, h⟩ := h
        refine m_iald C0 hM 3 rfl hc3 dX11_found_67 ?_
        refine lv_iadd hx hb dX11_found_68 ?_
        subst hsz; subst hA; subst hQ
        exact m_iret C0 hr hM () h rfl dX11_found_69
      · have h := h.2 hq
        refine lv_aload_n hx hb dX11_found_41 rfl (lv_at hl 0 rfl) ?_
        refine m_get (C := RX11) (T := TX11) (N := 12) (ci := 10) (ref := "LoweredPowers") (v := .ref (r0 0)) C0 hM 0 rfl rfl kt_X11_found_X11 0 (by decide) kw_X11_found_1 rfl rfl dX11_found_42 ?_
        refine m_get (C := RX9) (T := TX9) (N := 4) (ci := 8) (ref := "LoweredPowers$State") (v := .ref (r0_0 2)) C0 hM 1 rfl rfl kt_X11_found_X9 2 (by decide) kw_X11_found_2 rfl rfl dX11_found_45 ?_
        refine m_get (C := RX0) (T := TX0) (N := 7) (ci := 0) (ref := "LoweredPowers$Found") (v := .int I_0_0_2_top) C0 hM 2 rfl rfl kt_X11_found_X0 2 (by decide) kw_X11_found_3 rfl rfl dX11_found_48 ?_
        refine lv_goto (tgt := 69) hx hb dX11_found_51 (by decide) ?_
        subst hsz; subst hA; subst hQ
        exact m_iret C0 hr hM () h rfl dX11_found_69
    · have h := h.2 hq
      refine lv_iconst (v := (-1 : Int32)) hx hb dX11_found_34 (by decide) ?_
      subst hsz; subst hA; subst hQ
      exact m_iret C0 hr hM () h rfl dX11_found_35
  · have h := h.2 hq
    refine lv_bipush (v := (-3 : Int32)) hx hb dX11_found_13 (by decide) ?_
    subst hsz; subst hA; subst hQ
    exact m_iret C0 hr hM () h rfl dX11_found_15
abbrev rm_X11_foundOf : Room := { frames := 2, cells := 0, slots := 0, locals := 44 }
set_option maxRecDepth 100000 in
set_option maxHeartbeats 4000000 in
theorem ct_X11_foundOf (l : Launch) (D : va_G) (cI cJ cZ : ClassId) (h0 : Nat) (r0 : Nat → Nat) (r0_0 : Nat → Nat) (r0_0_2 : Nat → Nat) (r0_0_2_0 : Nat → Nat) (I_0_imaged : Int32) (I_0_0_2_top : Int32) (A_0_0_2_0_0_numbers : (Nat → Int32)) (x1 : Int32) (x2 : Int32) (x3 : Int32) (sz : Nat) (K : Int32 → Prop) (h : wp_X11_foundOf x1 x2 x3 I_0_0_2_top A_0_0_2_0_0_numbers K) : Met l yX11_foundOf wsX11_foundOf rm_X11_foundOf (va_Pc [.ref h0, .int x1, .int x2, .int x3] (WX D cI cJ cZ [(h0, .inr (10, oX11 r0 I_0_imaged)), ((r0 0), .inr (8, oX9 r0_0 )), ((r0_0 2), .inr (0, oX0 r0_0_2 I_0_0_2_top)), ((r0_0_2 0), .inr (3, oX4 r0_0_2_0 )), ((r0_0_2_0 0), .inl (cI, 75, .inl A_0_0_2_0_0_numbers))] sz)) (va_Qi (fun (r : Int32) (_ : Unit) => K r ) (fun (_ : Unit) t => WY D (va_A [(h0, .inr (10, oX11 r0 I_0_imaged)), ((r0 0), .inr (8, oX9 r0_0 )), ((r0_0 2), .inr (0, oX0 r0_0_2 I_0_0_2_top)), ((r0_0_2 0), .inr (3, oX4 r0_0_2_0 )), ((r0_0_2_0 0), .inl (cI, 75, .inl A_0_0_2_0_0_numbers))] sz) [(h0, .inr (10, oX11 r0 I_0_imaged)), ((r0 0), .inr (8, oX9 r0_0 )), ((r0_0 2), .inr (0, oX0 r0_0_2 I_0_0_2_top)), ((r0_0_2 0), .inr (3, oX4 r0_0_2_0 )), ((r0_0_2_0 0), .inl (cI, 75, .inl A_0_0_2_0_0_numbers))] t) (va_A [(h0, .inr (10, oX11 r0 I_0_imaged)), ((r0 0), .inr (8, oX9 r0_0 )), ((r0_0 2), .inr (0, oX0 r0_0_2 I_0_0_2_top)), ((r0_0_2 0), .inr (3, oX4 r0_0_2_0 )), ((r0_0_2_0 0), .inl (cI, 75, .inl A_0_0_2_0_0_numbers))] sz)) 0 0 (va_A [(h0, .inr (10, oX11 r0 I_0_imaged)), ((r0 0), .inr (8, oX9 r0_0 )), ((r0_0 2), .inr (0, oX0 r0_0_2 I_0_0_2_top)), ((r0_0_2 0), .inr (3, oX4 r0_0_2_0 )), ((r0_0_2_0 0), .inl (cI, 75, .inl A_0_0_2_0_0_numbers))] sz) := by
  refine m_met (own := RX11) (cc := cX11_foundOf) (maxL := 4) (ret := some .int) [.ref h0, .int x1, .int x2, .int x3] [(0, .ref h0), (1, .int x1), (2, .int x2), (3, .int x3)] (by decide) rfl rfl (Nat.le_of_ble_eq_true rfl) rfl ?_
  intro p e s m args below meth c Q A hQ hA C0 hr hnm hsz hM ls hl
  have hx := C0.1
  have hb := C0.2.1
  have hown := C0.2.2.2.1
  unfold wp_X11_foundOf at h
  refine lv_iload_n hx hb dX11_foundOf_0 rfl (lv_at hl 1 rfl) ?_
  refine lv_iload_n hx hb dX11_foundOf_1 rfl (lv_at hl 2 rfl) ?_
  refine lv_iload_n hx hb dX11_foundOf_2 rfl (lv_at hl 3 rfl) ?_
  refine m_calli (wc := []) C0 hM [] rfl (m_runS (wc := []) (As := [.int x1, .int x2, .int x3]) (rest := []) C0 hM (ct_X4_names l D cI cJ cZ x1 x2 x3 _ _ h) [] rfl (by decide) gX11_foundOf_X4_names rfl rfl rfl hd_X4_names ⟨Nat.le_of_ble_eq_true rfl, Nat.le_of_ble_eq_true rfl⟩ rfl hl.1 rfl (Nat.le_of_ble_eq_true rfl) dX11_foundOf_3 ⟨Nat.le_of_ble_eq_true rfl, Nat.le_of_ble_eq_true rfl⟩) (fun _ => [(h0, .inr (10, oX11 r0 I_0_imaged)), ((r0 0), .inr (8, oX9 r0_0 )), ((r0_0 2), .inr (0, oX0 r0_0_2 I_0_0_2_top)), ((r0_0_2 0), .inr (3, oX4 r0_0_2_0 )), ((r0_0_2_0 0), .inl (cI, 75, .inl A_0_0_2_0_0_numbers))]) (fun _ => rfl) (fun _ => rfl) (fun y1 _ H locs h hM => ?_)
  refine lv_if_ne (tgt := 11) hx hb dX11_foundOf_6 (by decide) (fun hq => ?_) (fun hq => ?_)
  · have h := h.1 hq
    refine lv_aload_n hx hb dX11_foundOf_11 rfl (lv_at hl 0 rfl) ?_
    refine m_get (C := RX11) (T := TX11) (N := 12) (ci := 10) (ref := "LoweredPowers") (v := .ref (r0 0)) C0 hM 0 rfl rfl kt_X11_foundOf_X11 0 (by decide) kw_X11_foundOf_1 rfl rfl dX11_foundOf_12 ?_
    refine m_get (C := RX9) (T := TX9) (N := 4) (ci := 8) (ref := "LoweredPowers$State") (v := .ref (r0_0 2)) C0 hM 1 rfl rfl kt_X11_foundOf_X9 2 (by decide) kw_X11_foundOf_2 rfl rfl dX11_foundOf_15 ?_
    refine m_calli (wc := [((r0_0 2), .inr (0, oX0 r0_0_2 I_0_0_2_top))]) C0 hM [2] rfl (m_runV (wc := [((r0_0 2), .inr (0, oX0 r0_0_2 I_0_0_2_top))]) (As := []) (rest := []) (ci := 0) C0 hM (ct_X0_isThere l D cI cJ cZ (r0_0 2) r0_0_2 I_0_0_2_top _ _ h) [2] rfl (by decide) gX11_foundOf_X0_isThere rfl rfl rfl rfl rfl hd_X0_isThere ⟨Nat.le_of_ble_eq_true rfl, Nat.le_of_ble_eq_true rfl⟩ rfl hl.1 rfl (Nat.le_of_ble_eq_true rfl) dX11_foundOf_18 ⟨Nat.le_of_ble_eq_true rfl, Nat.le_of_ble_eq_true rfl⟩) (fun _ => [(h0, .inr (10, oX11 r0 I_0_imaged)), ((r0 0), .inr (8, oX9 r0_0 )), ((r0_0 2), .inr (0, oX0 r0_0_2 I_0_0_2_top)), ((r0_0_2 0), .inr (3, oX4 r0_0_2_0 )), ((r0_0_2_0 0), .inl (cI, 75, .inl A_0_0_2_0_0_numbers))]) (fun _ => rfl) (fun _ => rfl) (fun y2 _ H locs h hM => ?_)
    refine lv_if_ne (tgt := 27) hx hb dX11_foundOf_21 (by decide) (fun hq => ?_) (fun hq => ?_)
    · have h := h.1 hq
      refine lv_ldc (v := (100000 : Int32)) hx hb hown (C0.2.2.2.2.1 _ kw_X11_foundOf_3) dX11_foundOf_27 ?_
      refine lv_aload_n hx hb dX11_foundOf_29 rfl (lv_at hl 0 rfl) ?_
      refine m_get (C := RX11) (T := TX11) (N := 12) (ci := 10) (ref := "LoweredPowers") (v := .ref (r0 0)) C0 hM 0 rfl rfl kt_X11_foundOf_X11 0 (by decide) kw_X11_foundOf_1 rfl rfl dX11_foundOf_30 ?_
      refine m_get (C := RX9) (T := TX9) (N := 4) (ci := 8) (ref := "LoweredPowers$State") (v := .ref (r0_0 2)) C0 hM 1 rfl rfl kt_X11_foundOf_X9 2 (by decide) kw_X11_foundOf_2 rfl rfl dX11_foundOf_33 ?_
      refine m_get (C := RX0) (T := TX0) (N := 7) (ci := 0) (ref := "LoweredPowers$Found") (v := .ref (r0_0_2 0)) C0 hM 2 rfl rfl kt_X11_foundOf_X0 0 (by decide) kw_X11_foundOf_4 rfl rfl dX11_foundOf_36 ?_
      refine m_get (C := RX4) (T := TX4) (N := 1) (ci := 3) (ref := "LoweredPowers$Operator") (v := .ref (r0_0_2_0 0)) C0 hM 3 rfl rfl kt_X11_foundOf_X4 0 (by decide) kw_X11_foundOf_5 rfl rfl dX11_foundOf_39 ?_
      refine lv_iload_n hx hb dX11_foundOf_42 rfl (lv_at hl 1 rfl) ?_
      refine lv_iload_n hx hb dX11_foundOf_43 rfl (lv_at hl 2 rfl) ?_
      refine lv_iload_n hx hb dX11_foundOf_44 rfl (lv_at hl 3 rfl) ?_
      refine m_calli (wc := []) C0 hM [] rfl (m_runS (wc := []) (As := [.int x1, .int x2, .int x3]) (rest := [.ref (r0_0_2_0 0), .int (100000 : Int32)]) C0 hM (ct_X4_index l D cI cJ cZ x1 x2 x3 _ _ h) [] rfl (by decide) gX11_foundOf_X4_index rfl rfl rfl hd_X4_index ⟨Nat.le_of_ble_eq_true rfl, Nat.le_of_ble_eq_true rfl⟩ rfl hl.1 rfl (Nat.le_of_ble_eq_true rfl) dX11_foundOf_45 ⟨Nat.le_of_ble_eq_true rfl, Nat.le_of_ble_eq_true rfl⟩) (fun _ => [(h0, .inr (10, oX11 r0 I_0_imaged)), ((r0 0), .inr (8, oX9 r0_0 )), ((r0_0 2), .inr (0, oX0 r0_0_2 I_0_0_2_top)), ((r0_0_2 0), .inr (3, oX4 r0_0_2_0 )), ((r0_0_2_0 0), .inl (cI, 75, .inl A_0_0_2_0_0_numbers))]) (fun _ => rfl) (fun _ => rfl) (fun y3 _ H locs h hM => ?_)
      obtain ⟨hc4, h⟩ := h
      refine m_iald C0 hM 4 rfl hc4 dX11_foundOf_48 ?_
      refine lv_iadd hx hb dX11_foundOf_49 ?_
      subst hsz; subst hA; subst hQ
      exact m_iret C0 hr hM () h rfl dX11_foundOf_50
    · have h := h.2 hq
      refine lv_bipush (v := (-3 : Int32)) hx hb dX11_foundOf_24 (by decide) ?_
      subst hsz; subst hA; subst hQ
      exact m_iret C0 hr hM () h rfl dX11_foundOf_26
  · have h := h.2 hq
    refine lv_iconst (v := (-1 : Int32)) hx hb dX11_foundOf_9 (by decide) ?_
    subst hsz; subst hA; subst hQ
    exact m_iret C0 hr hM () h rfl dX11_foundOf_10
abbrev rm_X11_take : Room := { frames := 2, cells := 0, slots := 0, locals := 47 }
set_option maxRecDepth 100000 in
set_option maxHeartbeats 4000000 in
theorem ct_X11_take (l : Launch) (D : va_G) (cI cJ cZ : ClassId) (h0 : Nat) (r0 : Nat → Nat) (r0_0 : Nat → Nat) (r0_0_1 : Nat → Nat) (r0_0_2 : Nat → Nat) (r0_0_2_0 : Nat → Nat) (I_0_imaged : Int32) (A_0_0_1_0_numbers : (Nat → Int32)) (I_0_0_2_top : Int32) (A_0_0_2_0_0_numbers : (Nat → Int32)) (sz : Nat) (K : Int32 → (Nat → Int32) → Prop) (h : wp_X11_take A_0_0_1_0_numbers I_0_0_2_top A_0_0_2_0_0_numbers K) : Met l yX11_take wsX11_take rm_X11_take (va_Pc [.ref h0] (WX D cI cJ cZ [(h0, .inr (10, oX11 r0 I_0_imaged)), ((r0 0), .inr (8, oX9 r0_0 )), ((r0_0 1), .inr (3, oX4 r0_0_1 )), ((r0_0_1 0), .inl (cI, 75, .inl A_0_0_1_0_numbers)), ((r0_0 2), .inr (0, oX0 r0_0_2 I_0_0_2_top)), ((r0_0_2 0), .inr (3, oX4 r0_0_2_0 )), ((r0_0_2_0 0), .inl (cI, 75, .inl A_0_0_2_0_0_numbers))] sz)) (va_Qi (fun (r : Int32) (u : (Nat → Int32)) => K r u) (fun (u : (Nat → Int32)) t => WY D (va_A [(h0, .inr (10, oX11 r0 I_0_imaged)), ((r0 0), .inr (8, oX9 r0_0 )), ((r0_0 1), .inr (3, oX4 r0_0_1 )), ((r0_0_1 0), .inl (cI, 75, .inl A_0_0_1_0_numbers)), ((r0_0 2), .inr (0, oX0 r0_0_2 I_0_0_2_top)), ((r0_0_2 0), .inr (3, oX4 r0_0_2_0 )), ((r0_0_2_0 0), .inl (cI, 75, .inl A_0_0_2_0_0_numbers))] sz) [(h0, .inr (10, oX11 r0 I_0_imaged)), ((r0 0), .inr (8, oX9 r0_0 )), ((r0_0 1), .inr (3, oX4 r0_0_1 )), ((r0_0_1 0), .inl (cI, 75, .inl u)), ((r0_0 2), .inr (0, oX0 r0_0_2 I_0_0_2_top)), ((r0_0_2 0), .inr (3, oX4 r0_0_2_0 )), ((r0_0_2_0 0), .inl (cI, 75, .inl A_0_0_2_0_0_numbers))] t) (va_A [(h0, .inr (10, oX11 r0 I_0_imaged)), ((r0 0), .inr (8, oX9 r0_0 )), ((r0_0 1), .inr (3, oX4 r0_0_1 )), ((r0_0_1 0), .inl (cI, 75, .inl A_0_0_1_0_numbers)), ((r0_0 2), .inr (0, oX0 r0_0_2 I_0_0_2_top)), ((r0_0_2 0), .inr (3, oX4 r0_0_2_0 )), ((r0_0_2_0 0), .inl (cI, 75, .inl A_0_0_2_0_0_numbers))] sz)) 0 0 (va_A [(h0, .inr (10, oX11 r0 I_0_imaged)), ((r0 0), .inr (8, oX9 r0_0 )), ((r0_0 1), .inr (3, oX4 r0_0_1 )), ((r0_0_1 0), .inl (cI, 75, .inl A_0_0_1_0_numbers)), ((r0_0 2), .inr (0, oX0 r0_0_2 I_0_0_2_top)), ((r0_0_2 0), .inr (3, oX4 r0_0_2_0 )), ((r0_0_2_0 0), .inl (cI, 75, .inl A_0_0_2_0_0_numbers))] sz) := by
  refine m_met (own := RX11) (cc := cX11_take) (maxL := 1) (ret := some .int) [.ref h0] [(0, .ref h0)] (by decide) rfl rfl (Nat.le_of_ble_eq_true rfl) rfl ?_
  intro p e s m args below meth c Q A hQ hA C0 hr hnm hsz hM ls hl
  have hx := C0.1
  have hb := C0.2.1
  have hown := C0.2.2.2.1
  unfold wp_X11_take at h
  refine lv_aload_n hx hb dX11_take_0 rfl (lv_at hl 0 rfl) ?_
  refine m_get (C := RX11) (T := TX11) (N := 12) (ci := 10) (ref := "LoweredPowers") (v := .ref (r0 0)) C0 hM 0 rfl rfl kt_X11_take_X11 0 (by decide) kw_X11_take_1 rfl rfl dX11_take_1 ?_
  refine m_get (C := RX9) (T := TX9) (N := 4) (ci := 8) (ref := "LoweredPowers$State") (v := .ref (r0_0 2)) C0 hM 1 rfl rfl kt_X11_take_X9 2 (by decide) kw_X11_take_2 rfl rfl dX11_take_4 ?_
  refine m_calli (wc := [((r0_0 2), .inr (0, oX0 r0_0_2 I_0_0_2_top))]) C0 hM [4] rfl (m_runV (wc := [((r0_0 2), .inr (0, oX0 r0_0_2 I_0_0_2_top))]) (As := []) (rest := []) (ci := 0) C0 hM (ct_X0_isThere l D cI cJ cZ (r0_0 2) r0_0_2 I_0_0_2_top _ _ h) [4] rfl (by decide) gX11_take_X0_isThere rfl rfl rfl rfl rfl hd_X0_isThere ⟨Nat.le_of_ble_eq_true rfl, Nat.le_of_ble_eq_true rfl⟩ rfl hl.1 rfl (Nat.le_of_ble_eq_true rfl) dX11_take_7 ⟨Nat.le_of_ble_eq_true rfl, Nat.le_of_ble_eq_true rfl⟩) (fun _ => [(h0, .inr (10, oX11 r0 I_0_imaged)), ((r0 0), .inr (8, oX9 r0_0 )), ((r0_0 1), .inr (3, oX4 r0_0_1 )), ((r0_0_1 0), .inl (cI, 75, .inl A_0_0_1_0_numbers)), ((r0_0 2), .inr (0, oX0 r0_0_2 I_0_0_2_top)), ((r0_0_2 0), .inr (3, oX4 r0_0_2_0 )), ((r0_0_2_0 0), .inl (cI, 75, .inl A_0_0_2_0_0_numbers))]) (fun _ => rfl) (fun _ => rfl) (fun y1 _ H locs h hM => ?_)
  refine lv_if_ne (tgt := 16) hx hb dX11_take_10 (by decide) (fun hq => ?_) (fun hq => ?_)
  · have h := h.1 hq
    refine lv_aload_n hx hb dX11_take_16 rfl (lv_at hl 0 rfl) ?_
    refine m_get (C := RX11) (T := TX11) (N := 12) (ci := 10) (ref := "LoweredPowers") (v := .ref (r0 0)) C0 hM 0 rfl rfl kt_X11_take_X11 0 (by decide) kw_X11_take_1 rfl rfl dX11_take_17 ?_
    refine m_get (C := RX9) (T := TX9) (N := 4) (ci := 8) (ref := "LoweredPowers$State") (v := .ref (r0_0 1)) C0 hM 1 rfl rfl kt_X11_take_X9 1 (by decide) kw_X11_take_3 rfl rfl dX11_take_20 ?_
    refine lv_aload_n hx hb dX11_take_23 rfl (lv_at hl 0 rfl) ?_
    refine m_get (C := RX11) (T := TX11) (N := 12) (ci := 10) (ref := "LoweredPowers") (v := .ref (r0 0)) C0 hM 0 rfl rfl kt_X11_take_X11 0 (by decide) kw_X11_take_1 rfl rfl dX11_take_24 ?_
    refine m_get (C := RX9) (T := TX9) (N := 4) (ci := 8) (ref := "LoweredPowers$State") (v := .ref (r0_0 2)) C0 hM 1 rfl rfl kt_X11_take_X9 2 (by decide) kw_X11_take_2 rfl rfl dX11_take_27 ?_
    refine m_get (C := RX0) (T := TX0) (N := 7) (ci := 0) (ref := "LoweredPowers$Found") (v := .ref (r0_0_2 0)) C0 hM 4 rfl rfl kt_X11_take_X0 0 (by decide) kw_X11_take_4 rfl rfl dX11_take_30 ?_
    refine m_callv (wc := [((r0_0 1), .inr (3, oX4 r0_0_1 )), ((r0_0_1 0), .inl (cI, 75, .inl A_0_0_1_0_numbers)), ((r0_0_2 0), .inr (3, oX4 r0_0_2_0 )), ((r0_0_2_0 0), .inl (cI, 75, .inl A_0_0_2_0_0_numbers))]) C0 hM [2, 3, 5, 6] rfl (m_runV (wc := [((r0_0 1), .inr (3, oX4 r0_0_1 )), ((r0_0_1 0), .inl (cI, 75, .inl A_0_0_1_0_numbers)), ((r0_0_2 0), .inr (3, oX4 r0_0_2_0 )), ((r0_0_2_0 0), .inl (cI, 75, .inl A_0_0_2_0_0_numbers))]) (As := [.ref (r0_0_2 0)]) (rest := []) (ci := 3) C0 hM (ct_X4_become l D cI cJ cZ (r0_0 1) (r0_0_2 0) r0_0_1 r0_0_2_0 A_0_0_1_0_numbers A_0_0_2_0_0_numbers _ _ h) [2, 3, 5, 6] rfl (by decide) gX11_take_X4_become rfl rfl rfl rfl rfl hd_X4_become ⟨Nat.le_of_ble_eq_true rfl, Nat.le_of_ble_eq_true rfl⟩ rfl hl.1 rfl (Nat.le_of_ble_eq_true rfl) dX11_take_33 ⟨Nat.le_of_ble_eq_true rfl, Nat.le_of_ble_eq_true rfl⟩) (fun u => [(h0, .inr (10, oX11 r0 I_0_imaged)), ((r0 0), .inr (8, oX9 r0_0 )), ((r0_0 1), .inr (3, oX4 r0_0_1 )), ((r0_0_1 0), .inl (cI, 75, .inl u)), ((r0_0 2), .inr (0, oX0 r0_0_2 I_0_0_2_top)), ((r0_0_2 0), .inr (3, oX4 r0_0_2_0 )), ((r0_0_2_0 0), .inl (cI, 75, .inl A_0_0_2_0_0_numbers))]) (fun _ => rfl) (fun _ => rfl) (fun b2 H locs h hM => ?_)
    refine lv_aload_n hx hb dX11_take_36 rfl (lv_at hl 0 rfl) ?_
    refine m_get (C := RX11) (T := TX11) (N := 12) (ci := 10) (ref := "LoweredPowers") (v := .ref (r0 0)) C0 hM 0 rfl rfl kt_X11_take_X11 0 (by decide) kw_X11_take_1 rfl rfl dX11_take_37 ?_
    refine m_get (C := RX9) (T := TX9) (N := 4) (ci := 8) (ref := "LoweredPowers$State") (v := .ref (r0_0 1)) C0 hM 1 rfl rfl kt_X11_take_X9 1 (by decide) kw_X11_take_3 rfl rfl dX11_take_40 ?_
    refine m_calli (wc := [((r0_0 1), .inr (3, oX4 r0_0_1 )), ((r0_0_1 0), .inl (cI, 75, .inl b2))]) C0 hM [2, 3] rfl (m_runV (wc := [((r0_0 1), .inr (3, oX4 r0_0_1 )), ((r0_0_1 0), .inl (cI, 75, .inl b2))]) (As := []) (rest := []) (ci := 3) C0 hM (ct_X4_topDerivative l D cI cJ cZ (r0_0 1) r0_0_1 b2 _ _ h) [2, 3] rfl (by decide) gX11_take_X4_topDerivative rfl rfl rfl rfl rfl hd_X4_topDerivative ⟨Nat.le_of_ble_eq_true rfl, Nat.le_of_ble_eq_true rfl⟩ rfl hl.1 rfl (Nat.le_of_ble_eq_true rfl) dX11_take_43 ⟨Nat.le_of_ble_eq_true rfl, Nat.le_of_ble_eq_true rfl⟩) (fun _ => [(h0, .inr (10, oX11 r0 I_0_imaged)), ((r0 0), .inr (8, oX9 r0_0 )), ((r0_0 1), .inr (3, oX4 r0_0_1 )), ((r0_0_1 0), .inl (cI, 75, .inl b2)), ((r0_0 2), .inr (0, oX0 r0_0_2 I_0_0_2_top)), ((r0_0_2 0), .inr (3, oX4 r0_0_2_0 )), ((r0_0_2_0 0), .inl (cI, 75, .inl A_0_0_2_0_0_numbers))]) (fun _ => rfl) (fun _ => rfl) (fun y3 _ H locs h hM => ?_)
    subst hsz; subst hA; subst hQ
    exact m_iret C0 hr hM b2 h rfl dX11_take_46
  · have h := h.2 hq
    refine lv_bipush (v := (-3 : Int32)) hx hb dX11_take_13 (by decide) ?_
    subst hsz; subst hA; subst hQ
    exact m_iret C0 hr hM A_0_0_1_0_numbers h rfl dX11_take_15
abbrev rm_X11_roots : Room := { frames := 4, cells := 0, slots := 0, locals := 95 }
set_option maxRecDepth 100000 in
set_option maxHeartbeats 4000000 in
theorem ct_X11_roots (l : Launch) (D : va_G) (cI cJ cZ : ClassId) (h0 : Nat) (r0 : Nat → Nat) (r0_0 : Nat → Nat) (r0_0_2 : Nat → Nat) (I_0_imaged : Int32) (I_0_0_2_top : Int32) (A_0_0_2_1_b : (Nat → Int32)) (A_0_0_2_3_above : (Nat → Int32)) (A_0_0_2_4_below : (Nat → Int32)) (A_0_0_2_5_often : (Nat → Int32)) (A_0_0_2_6_rest : (Nat → Int32)) (sz : Nat) (K : Int32 → (Nat → Int32) → (Nat → Int32) → (Nat → Int32) → (Nat → Int32) → Prop) (h : wp_X11_roots I_0_0_2_top A_0_0_2_1_b A_0_0_2_3_above A_0_0_2_4_below A_0_0_2_5_often A_0_0_2_6_rest K) : Met l yX11_roots wsX11_roots rm_X11_roots (va_Pc [.ref h0] (WX D cI cJ cZ [(h0, .inr (10, oX11 r0 I_0_imaged)), ((r0 0), .inr (8, oX9 r0_0 )), ((r0_0 2), .inr (0, oX0 r0_0_2 I_0_0_2_top)), ((r0_0_2 1), .inl (cI, 9, .inl A_0_0_2_1_b)), ((r0_0_2 3), .inl (cI, 9, .inl A_0_0_2_3_above)), ((r0_0_2 4), .inl (cI, 9, .inl A_0_0_2_4_below)), ((r0_0_2 5), .inl (cI, 9, .inl A_0_0_2_5_often)), ((r0_0_2 6), .inl (cI, 9, .inl A_0_0_2_6_rest))] sz)) (va_Qi (fun (r : Int32) (u : (Nat → Int32) × (Nat → Int32) × (Nat → Int32) × (Nat → Int32)) => K r u.1 u.2.1 u.2.2.1 u.2.2.2) (fun (u : (Nat → Int32) × (Nat → Int32) × (Nat → Int32) × (Nat → Int32)) t => WY D (va_A [(h0, .inr (10, oX11 r0 I_0_imaged)), ((r0 0), .inr (8, oX9 r0_0 )), ((r0_0 2), .inr (0, oX0 r0_0_2 I_0_0_2_top)), ((r0_0_2 1), .inl (cI, 9, .inl A_0_0_2_1_b)), ((r0_0_2 3), .inl (cI, 9, .inl A_0_0_2_3_above)), ((r0_0_2 4), .inl (cI, 9, .inl A_0_0_2_4_below)), ((r0_0_2 5), .inl (cI, 9, .inl A_0_0_2_5_often)), ((r0_0_2 6), .inl (cI, 9, .inl A_0_0_2_6_rest))] sz) [(h0, .inr (10, oX11 r0 I_0_imaged)), ((r0 0), .inr (8, oX9 r0_0 )), ((r0_0 2), .inr (0, oX0 r0_0_2 I_0_0_2_top)), ((r0_0_2 1), .inl (cI, 9, .inl A_0_0_2_1_b)), ((r0_0_2 3), .inl (cI, 9, .inl u.1)), ((r0_0_2 4), .inl (cI, 9, .inl u.2.1)), ((r0_0_2 5), .inl (cI, 9, .inl u.2.2.1)), ((r0_0_2 6), .inl (cI, 9, .inl u.2.2.2))] t) (va_A [(h0, .inr (10, oX11 r0 I_0_imaged)), ((r0 0), .inr (8, oX9 r0_0 )), ((r0_0 2), .inr (0, oX0 r0_0_2 I_0_0_2_top)), ((r0_0_2 1), .inl (cI, 9, .inl A_0_0_2_1_b)), ((r0_0_2 3), .inl (cI, 9, .inl A_0_0_2_3_above)), ((r0_0_2 4), .inl (cI, 9, .inl A_0_0_2_4_below)), ((r0_0_2 5), .inl (cI, 9, .inl A_0_0_2_5_often)), ((r0_0_2 6), .inl (cI, 9, .inl A_0_0_2_6_rest))] sz)) 0 0 (va_A [(h0, .inr (10, oX11 r0 I_0_imaged)), ((r0 0), .inr (8, oX9 r0_0 )), ((r0_0 2), .inr (0, oX0 r0_0_2 I_0_0_2_top)), ((r0_0_2 1), .inl (cI, 9, .inl A_0_0_2_1_b)), ((r0_0_2 3), .inl (cI, 9, .inl A_0_0_2_3_above)), ((r0_0_2 4), .inl (cI, 9, .inl A_0_0_2_4_below)), ((r0_0_2 5), .inl (cI, 9, .inl A_0_0_2_5_often)), ((r0_0_2 6), .inl (cI, 9, .inl A_0_0_2_6_rest))] sz) := by
  refine m_met (own := RX11) (cc := cX11_roots) (maxL := 1) (ret := some .int) [.ref h0] [(0, .ref h0)] (by decide) rfl rfl (Nat.le_of_ble_eq_true rfl) rfl ?_
  intro p e s m args below meth c Q A hQ hA C0 hr hnm hsz hM ls hl
  have hx := C0.1
  have hb := C0.2.1
  have hown := C0.2.2.2.1
  unfold wp_X11_roots at h
  refine lv_aload_n hx hb dX11_roots_0 rfl (lv_at hl 0 rfl) ?_
  refine m_get (C := RX11) (T := TX11) (N := 12) (ci := 10) (ref := "LoweredPowers") (v := .ref (r0 0)) C0 hM 0 rfl rfl kt_X11_roots_X11 0 (by decide) kw_X11_roots_1 rfl rfl dX11_roots_1 ?_
  refine m_get (C := RX9) (T := TX9) (N := 4) (ci := 8) (ref := "LoweredPowers$State") (v := .ref (r0_0 2)) C0 hM 1 rfl rfl kt_X11_roots_X9 2 (by decide) kw_X11_roots_2 rfl rfl dX11_roots_4 ?_
  refine m_calli (wc := [((r0_0 2), .inr (0, oX0 r0_0_2 I_0_0_2_top))]) C0 hM [2] rfl (m_runV (wc := [((r0_0 2), .inr (0, oX0 r0_0_2 I_0_0_2_top))]) (As := []) (rest := []) (ci := 0) C0 hM (ct_X0_isThere l D cI cJ cZ (r0_0 2) r0_0_2 I_0_0_2_top _ _ h) [2] rfl (by decide) gX11_roots_X0_isThere rfl rfl rfl rfl rfl hd_X0_isThere ⟨Nat.le_of_ble_eq_true rfl, Nat.le_of_ble_eq_true rfl⟩ rfl hl.1 rfl (Nat.le_of_ble_eq_true rfl) dX11_roots_7 ⟨Nat.le_of_ble_eq_true rfl, Nat.le_of_ble_eq_true rfl⟩) (fun _ => [(h0, .inr (10, oX11 r0 I_0_imaged)), ((r0 0), .inr (8, oX9 r0_0 )), ((r0_0 2), .inr (0, oX0 r0_0_2 I_0_0_2_top)), ((r0_0_2 1), .inl (cI, 9, .inl A_0_0_2_1_b)), ((r0_0_2 3), .inl (cI, 9, .inl A_0_0_2_3_above)), ((r0_0_2 4), .inl (cI, 9, .inl A_0_0_2_4_below)), ((r0_0_2 5), .inl (cI, 9, .inl A_0_0_2_5_often)), ((r0_0_2 6), .inl (cI, 9, .inl A_0_0_2_6_rest))]) (fun _ => rfl) (fun _ => rfl) (fun y1 _ H locs h hM => ?_)
  refine lv_if_eq (tgt := 26) hx hb dX11_roots_10 (by decide) (fun hq => ?_) (fun hq => ?_)
  · have h := h.1 hq
    refine lv_bipush (v := (-3 : Int32)) hx hb dX11_roots_26 (by decide) ?_
    subst hsz; subst hA; subst hQ
    exact m_iret C0 hr hM (A_0_0_2_3_above, A_0_0_2_4_below, A_0_0_2_5_often, A_0_0_2_6_rest) h rfl dX11_roots_28
  · have h := h.2 hq
    refine lv_aload_n hx hb dX11_roots_13 rfl (lv_at hl 0 rfl) ?_
    refine m_get (C := RX11) (T := TX11) (N := 12) (ci := 10) (ref := "LoweredPowers") (v := .ref (r0 0)) C0 hM 0 rfl rfl kt_X11_roots_X11 0 (by decide) kw_X11_roots_1 rfl rfl dX11_roots_14 ?_
    refine m_get (C := RX9) (T := TX9) (N := 4) (ci := 8) (ref := "LoweredPowers$State") (v := .ref (r0_0 2)) C0 hM 1 rfl rfl kt_X11_roots_X9 2 (by decide) kw_X11_roots_2 rfl rfl dX11_roots_17 ?_
    refine m_calli (wc := [((r0_0 2), .inr (0, oX0 r0_0_2 I_0_0_2_top)), ((r0_0_2 1), .inl (cI, 9, .inl A_0_0_2_1_b)), ((r0_0_2 3), .inl (cI, 9, .inl A_0_0_2_3_above)), ((r0_0_2 4), .inl (cI, 9, .inl A_0_0_2_4_below)), ((r0_0_2 5), .inl (cI, 9, .inl A_0_0_2_5_often)), ((r0_0_2 6), .inl (cI, 9, .inl A_0_0_2_6_rest))]) C0 hM [2, 3, 4, 5, 6, 7] rfl (m_runV (wc := [((r0_0 2), .inr (0, oX0 r0_0_2 I_0_0_2_top)), ((r0_0_2 1), .inl (cI, 9, .inl A_0_0_2_1_b)), ((r0_0_2 3), .inl (cI, 9, .inl A_0_0_2_3_above)), ((r0_0_2 4), .inl (cI, 9, .inl A_0_0_2_4_below)), ((r0_0_2 5), .inl (cI, 9, .inl A_0_0_2_5_often)), ((r0_0_2 6), .inl (cI, 9, .inl A_0_0_2_6_rest))]) (As := []) (rest := []) (ci := 0) C0 hM (ct_X0_gatherRoots l D cI cJ cZ (r0_0 2) r0_0_2 I_0_0_2_top A_0_0_2_1_b A_0_0_2_3_above A_0_0_2_4_below A_0_0_2_5_often A_0_0_2_6_rest _ _ h) [2, 3, 4, 5, 6, 7] rfl (by decide) gX11_roots_X0_gatherRoots rfl rfl rfl rfl rfl hd_X0_gatherRoots ⟨Nat.le_of_ble_eq_true rfl, Nat.le_of_ble_eq_true rfl⟩ rfl hl.1 rfl (Nat.le_of_ble_eq_true rfl) dX11_roots_20 ⟨Nat.le_of_ble_eq_true rfl, Nat.le_of_ble_eq_true rfl⟩) (fun u => [(h0, .inr (10, oX11 r0 I_0_imaged)), ((r0 0), .inr (8, oX9 r0_0 )), ((r0_0 2), .inr (0, oX0 r0_0_2 I_0_0_2_top)), ((r0_0_2 1), .inl (cI, 9, .inl A_0_0_2_1_b)), ((r0_0_2 3), .inl (cI, 9, .inl u.1)), ((r0_0_2 4), .inl (cI, 9, .inl u.2.1)), ((r0_0_2 5), .inl (cI, 9, .inl u.2.2.1)), ((r0_0_2 6), .inl (cI, 9, .inl u.2.2.2))]) (fun _ => rfl) (fun _ => rfl) (fun y2 u H locs h hM => ?_)
    obtain ⟨b3, b4, b5, b6⟩ := u
    dsimp only at h
    have hM : MW D A s.heap [(h0, .inr (10, oX11 r0 I_0_imaged)), ((r0 0), .inr (8, oX9 r0_0 )), ((r0_0 2), .inr (0, oX0 r0_0_2 I_0_0_2_top)), ((r0_0_2 1), .inl (cI, 9, .inl A_0_0_2_1_b)), ((r0_0_2 3), .inl (cI, 9, .inl b3)), ((r0_0_2 4), .inl (cI, 9, .inl b4)), ((r0_0_2 5), .inl (cI, 9, .inl b5)), ((r0_0_2 6), .inl (cI, 9, .inl b6))] H locs := hM
    refine lv_goto (tgt := 28) hx hb dX11_roots_23 (by decide) ?_
    subst hsz; subst hA; subst hQ
    exact m_iret C0 hr hM (b3, b4, b5, b6) h rfl dX11_roots_28
abbrev rm_X11_root : Room := { frames := 4, cells := 0, slots := 0, locals := 95 }
set_option maxRecDepth 100000 in
set_option maxHeartbeats 4000000 in
theorem ct_X11_root (l : Launch) (D : va_G) (cI cJ cZ : ClassId) (h0 : Nat) (r0 : Nat → Nat) (r0_0 : Nat → Nat) (r0_0_2 : Nat → Nat) (I_0_imaged : Int32) (I_0_0_2_top : Int32) (A_0_0_2_1_b : (Nat → Int32)) (A_0_0_2_3_above : (Nat → Int32)) (A_0_0_2_4_below : (Nat → Int32)) (A_0_0_2_5_often : (Nat → Int32)) (A_0_0_2_6_rest : (Nat → Int32)) (x1 : Int32) (x2 : Int32) (sz : Nat) (K : Int32 → (Nat → Int32) → (Nat → Int32) → (Nat → Int32) → (Nat → Int32) → Prop) (h : wp_X11_root x1 x2 I_0_0_2_top A_0_0_2_1_b A_0_0_2_3_above A_0_0_2_4_below A_0_0_2_5_often A_0_0_2_6_rest K) : Met l yX11_root wsX11_root rm_X11_root (va_Pc [.ref h0, .int x1, .int x2] (WX D cI cJ cZ [(h0, .inr (10, oX11 r0 I_0_imaged)), ((r0 0), .inr (8, oX9 r0_0 )), ((r0_0 2), .inr (0, oX0 r0_0_2 I_0_0_2_top)), ((r0_0_2 1), .inl (cI, 9, .inl A_0_0_2_1_b)), ((r0_0_2 3), .inl (cI, 9, .inl A_0_0_2_3_above)), ((r0_0_2 4), .inl (cI, 9, .inl A_0_0_2_4_below)), ((r0_0_2 5), .inl (cI, 9, .inl A_0_0_2_5_often)), ((r0_0_2 6), .inl (cI, 9, .inl A_0_0_2_6_rest))] sz)) (va_Qi (fun (r : Int32) (u : (Nat → Int32) × (Nat → Int32) × (Nat → Int32) × (Nat → Int32)) => K r u.1 u.2.1 u.2.2.1 u.2.2.2) (fun (u : (Nat → Int32) × (Nat → Int32) × (Nat → Int32) × (Nat → Int32)) t => WY D (va_A [(h0, .inr (10, oX11 r0 I_0_imaged)), ((r0 0), .inr (8, oX9 r0_0 )), ((r0_0 2), .inr (0, oX0 r0_0_2 I_0_0_2_top)), ((r0_0_2 1), .inl (cI, 9, .inl A_0_0_2_1_b)), ((r0_0_2 3), .inl (cI, 9, .inl A_0_0_2_3_above)), ((r0_0_2 4), .inl (cI, 9, .inl A_0_0_2_4_below)), ((r0_0_2 5), .inl (cI, 9, .inl A_0_0_2_5_often)), ((r0_0_2 6), .inl (cI, 9, .inl A_0_0_2_6_rest))] sz) [(h0, .inr (10, oX11 r0 I_0_imaged)), ((r0 0), .inr (8, oX9 r0_0 )), ((r0_0 2), .inr (0, oX0 r0_0_2 I_0_0_2_top)), ((r0_0_2 1), .inl (cI, 9, .inl A_0_0_2_1_b)), ((r0_0_2 3), .inl (cI, 9, .inl u.1)), ((r0_0_2 4), .inl (cI, 9, .inl u.2.1)), ((r0_0_2 5), .inl (cI, 9, .inl u.2.2.1)), ((r0_0_2 6), .inl (cI, 9, .inl u.2.2.2))] t) (va_A [(h0, .inr (10, oX11 r0 I_0_imaged)), ((r0 0), .inr (8, oX9 r0_0 )), ((r0_0 2), .inr (0, oX0 r0_0_2 I_0_0_2_top)), ((r0_0_2 1), .inl (cI, 9, .inl A_0_0_2_1_b)), ((r0_0_2 3), .inl (cI, 9, .inl A_0_0_2_3_above)), ((r0_0_2 4), .inl (cI, 9, .inl A_0_0_2_4_below)), ((r0_0_2 5), .inl (cI, 9, .inl A_0_0_2_5_often)), ((r0_0_2 6), .inl (cI, 9, .inl A_0_0_2_6_rest))] sz)) 0 0 (va_A [(h0, .inr (10, oX11 r0 I_0_imaged)), ((r0 0), .inr (8, oX9 r0_0 )), ((r0_0 2), .inr (0, oX0 r0_0_2 I_0_0_2_top)), ((r0_0_2 1), .inl (cI, 9, .inl A_0_0_2_1_b)), ((r0_0_2 3), .inl (cI, 9, .inl A_0_0_2_3_above)), ((r0_0_2 4), .inl (cI, 9, .inl A_0_0_2_4_below)), ((r0_0_2 5), .inl (cI, 9, .inl A_0_0_2_5_often)), ((r0_0_2 6), .inl (cI, 9, .inl A_0_0_2_6_rest))] sz) := by
  refine m_met (own := RX11) (cc := cX11_root) (maxL := 3) (ret := some .int) [.ref h0, .int x1, .int x2] [(0, .ref h0), (1, .int x1), (2, .int x2)] (by decide) rfl rfl (Nat.le_of_ble_eq_true rfl) rfl ?_
  intro p e s m args below meth c Q A hQ hA C0 hr hnm hsz hM ls hl
  have hx := C0.1
  have hb := C0.2.1
  have hown := C0.2.2.2.1
  unfold wp_X11_root at h
  refine lv_aload_n hx hb dX11_root_0 rfl (lv_at hl 0 rfl) ?_
  refine m_get (C := RX11) (T := TX11) (N := 12) (ci := 10) (ref := "LoweredPowers") (v := .ref (r0 0)) C0 hM 0 rfl rfl kt_X11_root_X11 0 (by decide) kw_X11_root_1 rfl rfl dX11_root_1 ?_
  refine m_get (C := RX9) (T := TX9) (N := 4) (ci := 8) (ref := "LoweredPowers$State") (v := .ref (r0_0 2)) C0 hM 1 rfl rfl kt_X11_root_X9 2 (by decide) kw_X11_root_2 rfl rfl dX11_root_4 ?_
  refine m_calli (wc := [((r0_0 2), .inr (0, oX0 r0_0_2 I_0_0_2_top))]) C0 hM [2] rfl (m_runV (wc := [((r0_0 2), .inr (0, oX0 r0_0_2 I_0_0_2_top))]) (As := []) (rest := []) (ci := 0) C0 hM (ct_X0_isThere l D cI cJ cZ (r0_0 2) r0_0_2 I_0_0_2_top _ _ h) [2] rfl (by decide) gX11_root_X0_isThere rfl rfl rfl rfl rfl hd_X0_isThere ⟨Nat.le_of_ble_eq_true rfl, Nat.le_of_ble_eq_true rfl⟩ rfl hl.1 rfl (Nat.le_of_ble_eq_true rfl) dX11_root_7 ⟨Nat.le_of_ble_eq_true rfl, Nat.le_of_ble_eq_true rfl⟩) (fun _ => [(h0, .inr (10, oX11 r0 I_0_imaged)), ((r0 0), .inr (8, oX9 r0_0 )), ((r0_0 2), .inr (0, oX0 r0_0_2 I_0_0_2_top)), ((r0_0_2 1), .inl (cI, 9, .inl A_0_0_2_1_b)), ((r0_0_2 3), .inl (cI, 9, .inl A_0_0_2_3_above)), ((r0_0_2 4), .inl (cI, 9, .inl A_0_0_2_4_below)), ((r0_0_2 5), .inl (cI, 9, .inl A_0_0_2_5_often)), ((r0_0_2 6), .inl (cI, 9, .inl A_0_0_2_6_rest))]) (fun _ => rfl) (fun _ => rfl) (fun y1 _ H locs h hM => ?_)
  refine lv_if_ne (tgt := 16) hx hb dX11_root_10 (by decide) (fun hq => ?_) (fun hq => ?_)
  · have h := h.1 hq
    refine lv_iload_n hx hb dX11_root_16 rfl (lv_at hl 1 rfl) ?_
    refine lv_iconst (v := (0 : Int32)) hx hb dX11_root_17 (by decide) ?_
    refine lv_aload_n hx hb dX11_root_18 rfl (lv_at hl 0 rfl) ?_
    refine m_get (C := RX11) (T := TX11) (N := 12) (ci := 10) (ref := "LoweredPowers") (v := .ref (r0 0)) C0 hM 0 rfl rfl kt_X11_root_X11 0 (by decide) kw_X11_root_1 rfl rfl dX11_root_19 ?_
    refine m_get (C := RX9) (T := TX9) (N := 4) (ci := 8) (ref := "LoweredPowers$State") (v := .ref (r0_0 2)) C0 hM 1 rfl rfl kt_X11_root_X9 2 (by decide) kw_X11_root_2 rfl rfl dX11_root_22 ?_
    refine m_calli (wc := [((r0_0 2), .inr (0, oX0 r0_0_2 I_0_0_2_top)), ((r0_0_2 1), .inl (cI, 9, .inl A_0_0_2_1_b)), ((r0_0_2 3), .inl (cI, 9, .inl A_0_0_2_3_above)), ((r0_0_2 4), .inl (cI, 9, .inl A_0_0_2_4_below)), ((r0_0_2 5), .inl (cI, 9, .inl A_0_0_2_5_often)), ((r0_0_2 6), .inl (cI, 9, .inl A_0_0_2_6_rest))]) C0 hM [2, 3, 4, 5, 6, 7] rfl (m_runV (wc := [((r0_0 2), .inr (0, oX0 r0_0_2 I_0_0_2_top)), ((r0_0_2 1), .inl (cI, 9, .inl A_0_0_2_1_b)), ((r0_0_2 3), .inl (cI, 9, .inl A_0_0_2_3_above)), ((r0_0_2 4), .inl (cI, 9, .inl A_0_0_2_4_below)), ((r0_0_2 5), .inl (cI, 9, .inl A_0_0_2_5_often)), ((r0_0_2 6), .inl (cI, 9, .inl A_0_0_2_6_rest))]) (As := []) (rest := [.int (0 : Int32), .int x1]) (ci := 0) C0 hM (ct_X0_gatherRoots l D cI cJ cZ (r0_0 2) r0_0_2 I_0_0_2_top A_0_0_2_1_b A_0_0_2_3_above A_0_0_2_4_below A_0_0_2_5_often A_0_0_2_6_rest _ _ h) [2, 3, 4, 5, 6, 7] rfl (by decide) gX11_root_X0_gatherRoots rfl rfl rfl rfl rfl hd_X0_gatherRoots ⟨Nat.le_of_ble_eq_true rfl, Nat.le_of_ble_eq_true rfl⟩ rfl hl.1 rfl (Nat.le_of_ble_eq_true rfl) dX11_root_25 ⟨Nat.le_of_ble_eq_true rfl, Nat.le_of_ble_eq_true rfl⟩) (fun u => [(h0, .inr (10, oX11 r0 I_0_imaged)), ((r0 0), .inr (8, oX9 r0_0 )), ((r0_0 2), .inr (0, oX0 r0_0_2 I_0_0_2_top)), ((r0_0_2 1), .inl (cI, 9, .inl A_0_0_2_1_b)), ((r0_0_2 3), .inl (cI, 9, .inl u.1)), ((r0_0_2 4), .inl (cI, 9, .inl u.2.1)), ((r0_0_2 5), .inl (cI, 9, .inl u.2.2.1)), ((r0_0_2 6), .inl (cI, 9, .inl u.2.2.2))]) (fun _ => rfl) (fun _ => rfl) (fun y2 u H locs h hM => ?_)
    obtain ⟨b3, b4, b5, b6⟩ := u
    dsimp only at h
    have hM : MW D A s.heap [(h0, .inr (10, oX11 r0 I_0_imaged)), ((r0 0), .inr (8, oX9 r0_0 )), ((r0_0 2), .inr (0, oX0 r0_0_2 I_0_0_2_top)), ((r0_0_2 1), .inl (cI, 9, .inl A_0_0_2_1_b)), ((r0_0_2 3), .inl (cI, 9, .inl b3)), ((r0_0_2 4), .inl (cI, 9, .inl b4)), ((r0_0_2 5), .inl (cI, 9, .inl b5)), ((r0_0_2 6), .inl (cI, 9, .inl b6))] H locs := hM
    refine lv_iconst (v := (1 : Int32)) hx hb dX11_root_28 (by decide) ?_
    refine lv_isub hx hb dX11_root_29 ?_
    refine m_calli (wc := []) C0 hM [] rfl (m_runS (wc := []) (As := [.int x1, .int (0 : Int32), .int (y2 - (1 : Int32))]) (rest := []) C0 hM (ct_X11_within l D cI cJ cZ x1 (0 : Int32) (y2 - (1 : Int32)) _ _ h) [] rfl (by decide) gX11_root_X11_within rfl rfl rfl hd_X11_within ⟨Nat.le_of_ble_eq_true rfl, Nat.le_of_ble_eq_true rfl⟩ rfl hl.1 rfl (Nat.le_of_ble_eq_true rfl) dX11_root_30 ⟨Nat.le_of_ble_eq_true rfl, Nat.le_of_ble_eq_true rfl⟩) (fun _ => [(h0, .inr (10, oX11 r0 I_0_imaged)), ((r0 0), .inr (8, oX9 r0_0 )), ((r0_0 2), .inr (0, oX0 r0_0_2 I_0_0_2_top)), ((r0_0_2 1), .inl (cI, 9, .inl A_0_0_2_1_b)), ((r0_0_2 3), .inl (cI, 9, .inl b3)), ((r0_0_2 4), .inl (cI, 9, .inl b4)), ((r0_0_2 5), .inl (cI, 9, .inl b5)), ((r0_0_2 6), .inl (cI, 9, .inl b6))]) (fun _ => rfl) (fun _ => rfl) (fun y7 _ H locs h hM => ?_)
    refine lv_if_ne (tgt := 38) hx hb dX11_root_33 (by decide) (fun hq => ?_) (fun hq => ?_)
    · have h := h.1 hq
      refine lv_iload_n hx hb dX11_root_38 rfl (lv_at hl 2 rfl) ?_
      by_cases hs0 : x2 = (0 : Int32)
      · refine lv_tableIn (off := 25) (tgt := 64) hx hb dX11_root_39 (by rw [hs0]; decide) (by rw [hs0]; decide) (by rw [hs0]; rfl) (by decide) ?_
        have h := h.1 hs0
        refine lv_aload_n hx hb dX11_root_64 rfl (lv_at hl 0 rfl) ?_
        refine m_get (C := RX11) (T := TX11) (N := 12) (ci := 10) (ref := "LoweredPowers") (v := .ref (r0 0)) C0 hM 0 rfl rfl kt_X11_root_X11 0 (by decide) kw_X11_root_1 rfl rfl dX11_root_65 ?_
        refine m_get (C := RX9) (T := TX9) (N := 4) (ci := 8) (ref := "LoweredPowers$State") (v := .ref (r0_0 2)) C0 hM 1 rfl rfl kt_X11_root_X9 2 (by decide) kw_X11_root_2 rfl rfl dX11_root_68 ?_
        refine m_get (C := RX0) (T := TX0) (N := 7) (ci := 0) (ref := "LoweredPowers$Found") (v := .ref (r0_0_2 3)) C0 hM 2 rfl rfl kt_X11_root_X0 3 (by decide) kw_X11_root_3 rfl rfl dX11_root_71 ?_
        refine lv_iload_n hx hb dX11_root_74 rfl (lv_at hl 1 rfl) ?_
        obtain ⟨hc8, h⟩ := h
        refine m_iald C0 hM 4 rfl hc8 dX11_root_75 ?_
        subst hsz; subst hA; subst hQ
        exact m_iret C0 hr hM (b3, b4, b5, b6) h rfl dX11_root_76
      replace h := h.2
      by_cases hs1 : x2 = (1 : Int32)
      · refine lv_tableIn (off := 38) (tgt := 77) hx hb dX11_root_39 (by rw [hs1]; decide) (by rw [hs1]; decide) (by rw [hs1]; rfl) (by decide) ?_
        have h := h.1 hs1
        refine lv_aload_n hx hb dX11_root_77 rfl (lv_at hl 0 rfl) ?_
        refine m_get (C := RX11) (T := TX11) (N := 12) (ci := 10) (ref := "LoweredPowers") (v := .ref (r0 0)) C0 hM 0 rfl rfl kt_X11_root_X11 0 (by decide) kw_X11_root_1 rfl rfl dX11_root_78 ?_
        refine m_get (C := RX9) (T := TX9) (N := 4) (ci := 8) (ref := "LoweredPowers$State") (v := .ref (r0_0 2)) C0 hM 1 rfl rfl kt_X11_root_X9 2 (by decide) kw_X11_root_2 rfl rfl dX11_root_81 ?_
        refine m_get (C := RX0) (T := TX0) (N := 7) (ci := 0) (ref := "LoweredPowers$Found") (v := .ref (r0_0_2 4)) C0 hM 2 rfl rfl kt_X11_root_X0 4 (by decide) kw_X11_root_4 rfl rfl dX11_root_84 ?_
        refine lv_iload_n hx hb dX11_root_87 rfl (lv_at hl 1 rfl) ?_
        obtain ⟨hc9, h⟩ := h
        refine m_iald C0 hM 5 rfl hc9 dX11_root_88 ?_
        subst hsz; subst hA; subst hQ
        exact m_iret C0 hr hM (b3, b4, b5, b6) h rfl dX11_root_89
      replace h := h.2
      by_cases hs2 : x2 = (2 : Int32)
      · refine lv_tableIn (off := 51) (tgt := 90) hx hb dX11_root_39 (by rw [hs2]; decide) (by rw [hs2]; decide) (by rw [hs2]; rfl) (by decide) ?_
        have h := h.1 hs2
        refine lv_aload_n hx hb dX11_root_90 rfl (lv_at hl 0 rfl) ?_
        refine m_get (C := RX11) (T := TX11) (N := 12) (ci := 10) (ref := "LoweredPowers") (v := .ref (r0 0)) C0 hM 0 rfl rfl kt_X11_root_X11 0 (by decide) kw_X11_root_1 rfl rfl dX11_root_91 ?_
        refine m_get (C := RX9) (T := TX9) (N := 4) (ci := 8) (ref := "LoweredPowers$State") (v := .ref (r0_0 2)) C0 hM 1 rfl rfl kt_X11_root_X9 2 (by decide) kw_X11_root_2 rfl rfl dX11_root_94 ?_
        refine m_get (C := RX0) (T := TX0) (N := 7) (ci := 0) (ref := "LoweredPowers$Found") (v := .ref (r0_0_2 5)) C0 hM 2 rfl rfl kt_X11_root_X0 5 (by decide) kw_X11_root_5 rfl rfl dX11_root_97 ?_
        refine lv_iload_n hx hb dX11_root_100 rfl (lv_at hl 1 rfl) ?_
        obtain ⟨hc10, h⟩ := h
        refine m_iald C0 hM 6 rfl hc10 dX11_root_101 ?_
        subst hsz; subst hA; subst hQ
        exact m_iret C0 hr hM (b3, b4, b5, b6) h rfl dX11_root_102
      replace h := h.2
      replace h := h hs0 hs1 hs2
      have ehs0 : x2.toInt ≠ 0 := sw_ne hs0
      have ehs1 : x2.toInt ≠ 1 := sw_ne hs1
      have ehs2 : x2.toInt ≠ 2 := sw_ne hs2
      refine lv_tableOut (tgt := 103) hx hb dX11_root_39 (by omega) (by decide) ?_
      refine lv_iconst (v := (-1 : Int32)) hx hb dX11_root_103 (by decide) ?_
      subst hsz; subst hA; subst hQ
      exact m_iret C0 hr hM (b3, b4, b5, b6) h rfl dX11_root_104
    · have h := h.2 hq
      refine lv_iconst (v := (-1 : Int32)) hx hb dX11_root_36 (by decide) ?_
      subst hsz; subst hA; subst hQ
      exact m_iret C0 hr hM (b3, b4, b5, b6) h rfl dX11_root_37
  · have h := h.2 hq
    refine lv_bipush (v := (-3 : Int32)) hx hb dX11_root_13 (by decide) ?_
    subst hsz; subst hA; subst hQ
    exact m_iret C0 hr hM (A_0_0_2_3_above, A_0_0_2_4_below, A_0_0_2_5_often, A_0_0_2_6_rest) h rfl dX11_root_15
abbrev rm_X11_easy : Room := { frames := 2, cells := 0, slots := 0, locals := 45 }
set_option maxRecDepth 100000 in
set_option maxHeartbeats 4000000 in
theorem ct_X11_easy (l : Launch) (D : va_G) (cI cJ cZ : ClassId) (h0 : Nat) (r0 : Nat → Nat) (I_0_imaged : Int32) (A_0_11_product : (Nat → Int32)) (x1 : Int32) (x2 : Int32) (sz : Nat) (K : Int32 → (Nat → Int32) → Prop) (h : wp_X11_easy x1 x2 A_0_11_product K) : Met l yX11_easy wsX11_easy rm_X11_easy (va_Pc [.ref h0, .int x1, .int x2] (WX D cI cJ cZ [(h0, .inr (10, oX11 r0 I_0_imaged)), ((r0 11), .inl (cI, 5, .inl A_0_11_product))] sz)) (va_Qi (fun (r : Int32) (u : (Nat → Int32)) => K r u) (fun (u : (Nat → Int32)) t => WY D (va_A [(h0, .inr (10, oX11 r0 I_0_imaged)), ((r0 11), .inl (cI, 5, .inl A_0_11_product))] sz) [(h0, .inr (10, oX11 r0 I_0_imaged)), ((r0 11), .inl (cI, 5, .inl u))] t) (va_A [(h0, .inr (10, oX11 r0 I_0_imaged)), ((r0 11), .inl (cI, 5, .inl A_0_11_product))] sz)) 0 0 (va_A [(h0, .inr (10, oX11 r0 I_0_imaged)), ((r0 11), .inl (cI, 5, .inl A_0_11_product))] sz) := by
  refine m_met (own := RX11) (cc := cX11_easy) (maxL := 9) (ret := some .int) [.ref h0, .int x1, .int x2] [(0, .ref h0), (1, .int x1), (2, .int x2)] (by decide) rfl rfl (Nat.le_of_ble_eq_true rfl) rfl ?_
  intro p e s m args below meth c Q A hQ hA C0 hr hnm hsz hM ls hl
  have hx := C0.1
  have hb := C0.2.1
  have hown := C0.2.2.2.1
  have jq130 : ∀ (A_0_11_product : (Nat → Int32)) (H : Heap) (locs : List Loc) (ls : Array Slot) , jn_X11_easy_130 x1 x2 K A_0_11_product → MW D A s.heap [(h0, .inr (10, oX11 r0 I_0_imaged)), ((r0 11), .inl (cI, 5, .inl A_0_11_product))] H locs → lv_has ls 9 [(0, .ref h0), (2, .int x2)] → W p l e rm_X11_easy s m args below meth c H locs 0 0 Q (F0 m 130 ls []) := by
    intro A_0_11_product H locs ls h hM hl
    unfold jn_X11_easy_130 at h
    refine lv_ldc (v := (100000 : Int32)) hx hb hown (C0.2.2.2.2.1 _ kw_X11_easy_2) dX11_easy_130 ?_
    refine lv_aload_n hx hb dX11_easy_132 rfl (lv_at hl 0 rfl) ?_
    refine m_get (C := RX11) (T := TX11) (N := 12) (ci := 10) (ref := "LoweredPowers") (v := .ref (r0 11)) C0 hM 0 rfl rfl kt_X11_easy_X11 11 (by decide) kw_X11_easy_1 rfl rfl dX11_easy_133 ?_
    refine lv_iload_n hx hb dX11_easy_136 rfl (lv_at hl 1 rfl) ?_
    obtain ⟨hc1, h⟩ := h
    refine m_iald C0 hM 1 rfl hc1 dX11_easy_137 ?_
    refine lv_iadd hx hb dX11_easy_138 ?_
    subst hsz; subst hA; subst hQ
    exact m_iret C0 hr hM A_0_11_product h rfl dX11_easy_139
  have lq46 : ∀ (k46 : Nat) (x3 : Int32) (x4 : Int32) (A_0_11_product : (Nat → Int32)) (H : Heap) (locs : List Loc) (ls : Array Slot) , lp_X11_easy_46 x1 x2 (jn_X11_easy_130 x1 x2 K) K k46 x3 x4 A_0_11_product → MW D A s.heap [(h0, .inr (10, oX11 r0 I_0_imaged)), ((r0 11), .inl (cI, 5, .inl A_0_11_product))] H locs → lv_has ls 9 [(0, .ref h0), (1, .int x1), (2, .int x2), (3, .int x3), (4, .int x4)] → W p l e rm_X11_easy s m args below meth c H locs 0 0 Q (F0 m 46 ls []) := by
    intro k46
    induction k46 with
    | zero =>
      intro x3 x4 A_0_11_product H locs ls h
      unfold lp_X11_easy_46 at h
      exact h.elim
    | succ k46 ih46 =>
      have jq124 : ∀ (x3 : Int32) (x4 : Int32) (A_0_11_product : (Nat → Int32)) (H : Heap) (locs : List Loc) (ls : Array Slot) , jn_X11_easy_124 x1 x2 (fun x3 x4 A_0_11_product => lp_X11_easy_46 x1 x2 (jn_X11_easy_130 x1 x2 K) K k46 x3 x4 A_0_11_product) (jn_X11_easy_130 x1 x2 K) K x3 x4 A_0_11_product → MW D A s.heap [(h0, .inr (10, oX11 r0 I_0_imaged)), ((r0 11), .inl (cI, 5, .inl A_0_11_product))] H locs → lv_has ls 9 [(0, .ref h0), (1, .int x1), (2, .int x2), (3, .int x3), (4, .int x4)] → W p l e rm_X11_easy s m args below meth c H locs 0 0 Q (F0 m 124 ls []) := by
        intro x3 x4 A_0_11_product H locs ls h hM hl
        unfold jn_X11_easy_124 at h
        refine lv_iinc (v := (x4 + (1 : Int32))) (lv' := [(4, .int (x4 + (1 : Int32))), (0, .ref h0), (1, .int x1), (2, .int x2), (3, .int x3)]) hx hb dX11_easy_124 hl (k := 4) rfl rfl (by decide) rfl (fun ls hl => ?_)
        refine lv_goto (tgt := 46) hx hb dX11_easy_127 (by decide) ?_
        exact ih46 _ _ _ _ _ _ h hM (lv_sub hl [1, 2, 3, 4, 0] rfl)
      have lq67 : ∀ (k67 : Nat) (x3 : Int32) (x4 : Int32) (x5 : Int32) (x6 : Int32) (A_0_11_product : (Nat → Int32)) (H : Heap) (locs : List Loc) (ls : Array Slot) , lp_X11_easy_67 x1 x2 (jn_X11_easy_124 x1 x2 (fun x3 x4 A_0_11_product => lp_X11_easy_46 x1 x2 (jn_X11_easy_130 x1 x2 K) K k46 x3 x4 A_0_11_product) (jn_X11_easy_130 x1 x2 K) K) K k67 x3 x4 x5 x6 A_0_11_product → MW D A s.heap [(h0, .inr (10, oX11 r0 I_0_imaged)), ((r0 11), .inl (cI, 5, .inl A_0_11_product))] H locs → lv_has ls 9 [(0, .ref h0), (1, .int x1), (2, .int x2), (3, .int x3), (4, .int x4), (5, .int x5), (6, .int x6)] → W p l e rm_X11_easy s m args below meth c H locs 0 0 Q (F0 m 67 ls []) := by
        intro k67
        induction k67 with
        | zero =>
          intro x3 x4 x5 x6 A_0_11_product H locs ls h
          unfold lp_X11_easy_67 at h
          exact h.elim
        | succ k67 ih67 =>
          have jq91 : ∀ (x3 : Int32) (x4 : Int32) (x5 : Int32) (x6 : Int32) (s0 : Int64) (A_0_11_product : (Nat → Int32)) (H : Heap) (locs : List Loc) (ls : Array Slot) , jn_X11_easy_91 x1 x2 (fun x3 x4 x5 x6 A_0_11_product => lp_X11_easy_67 x1 x2 (jn_X11_easy_124 x1 x2 (fun x3 x4 A_0_11_product => lp_X11_easy_46 x1 x2 (jn_X11_easy_130 x1 x2 K) K k46 x3 x4 A_0_11_product) (jn_X11_easy_130 x1 x2 K) K) K k67 x3 x4 x5 x6 A_0_11_product) (jn_X11_easy_124 x1 x2 (fun x3 x4 A_0_11_product => lp_X11_easy_46 x1 x2 (jn_X11_easy_130 x1 x2 K) K k46 x3 x4 A_0_11_product) (jn_X11_easy_130 x1 x2 K) K) K x3 x4 x5 x6 s0 A_0_11_product → MW D A s.heap [(h0, .inr (10, oX11 r0 I_0_imaged)), ((r0 11), .inl (cI, 5, .inl A_0_11_product))] H locs → lv_has ls 9 [(0, .ref h0), (1, .int x1), (2, .int x2), (3, .int x3), (4, .int x4), (5, .int x5), (6, .int x6)] → W p l e rm_X11_easy s m args below meth c H locs 0 0 Q (F0 m 91 ls [.long s0]) := by
            intro x3 x4 x5 x6 s0 A_0_11_product H locs ls h hM hl
            unfold jn_X11_easy_91 at h
            refine lv_lstore (lv' := [(7, .long s0), (0, .ref h0), (1, .int x1), (2, .int x2), (3, .int x3), (4, .int x4), (5, .int x5), (6, .int x6)]) hx hb dX11_easy_91 hl (by decide) rfl (fun ls hl => ?_)
            refine lv_aload_n hx hb dX11_easy_93 rfl (lv_at hl 1 rfl) ?_
            refine m_get (C := RX11) (T := TX11) (N := 12) (ci := 10) (ref := "LoweredPowers") (v := .ref (r0 11)) C0 hM 0 rfl rfl kt_X11_easy_X11 11 (by decide) kw_X11_easy_1 rfl rfl dX11_easy_94 ?_
            refine lv_iload hx hb dX11_easy_97 (lv_at hl 7 rfl) ?_
            refine lv_lload hx hb dX11_easy_99 (lv_at hl 0 rfl) ?_
            refine lv_iload hx hb dX11_easy_101 (lv_at hl 6 rfl) ?_
            refine lv_i2l hx hb dX11_easy_103 rfl ?_
            refine lv_aload_n hx hb dX11_easy_104 rfl (lv_at hl 1 rfl) ?_
            refine m_get (C := RX11) (T := TX11) (N := 12) (ci := 10) (ref := "LoweredPowers") (v := .ref (r0 11)) C0 hM 0 rfl rfl kt_X11_easy_X11 11 (by decide) kw_X11_easy_1 rfl rfl dX11_easy_105 ?_
            refine lv_iload hx hb dX11_easy_108 (lv_at hl 7 rfl) ?_
            obtain ⟨hc2, h⟩ := h
            refine m_iald C0 hM 1 rfl hc2 dX11_easy_110 ?_
            refine lv_i2l hx hb dX11_easy_111 rfl ?_
            refine lv_lmul hx hb dX11_easy_112 ?_
            refine lv_ladd hx hb dX11_easy_113 ?_
            refine m_calli (wc := []) C0 hM [] rfl (m_runS (wc := []) (As := [.long (s0 + ((x5.toInt64) * ((A_0_11_product (x6).toNatClampNeg).toInt64)))]) (rest := [.int x6, .ref (r0 11)]) C0 hM (ct_X3_fold l D cI cJ cZ (s0 + ((x5.toInt64) * ((A_0_11_product (x6).toNatClampNeg).toInt64))) _ _ h) [] rfl (by decide) gX11_easy_X3_fold rfl rfl rfl hd_X3_fold ⟨Nat.le_of_ble_eq_true rfl, Nat.le_of_ble_eq_true rfl⟩ rfl hl.1 rfl (Nat.le_of_ble_eq_true rfl) dX11_easy_114 ⟨Nat.le_of_ble_eq_true rfl, Nat.le_of_ble_eq_true rfl⟩) (fun _ => [(h0, .inr (10, oX11 r0 I_0_imaged)), ((r0 11), .inl (cI, 5, .inl A_0_11_product))]) (fun _ => rfl) (fun _ => rfl) (fun y3 _ H locs h hM => ?_)
            refine m_iast (ws' := [(h0, .inr (10, oX11 r0 I_0_imaged)), ((r0 11), .inl (cI, 5, .inl (upd A_0_11_product (x6).toNatClampNeg y3)))]) C0 hM 1 rfl hc2 rfl dX11_easy_117 (fun H locs hM => ?_)
            refine lv_iinc (v := (x6 + (-1 : Int32))) (lv' := [(6, .int (x6 + (-1 : Int32))), (7, .long s0), (0, .ref h0), (1, .int x1), (2, .int x2), (3, .int x3), (4, .int x4), (5, .int x5)]) hx hb dX11_easy_118 hl (k := 7) rfl rfl (by decide) rfl (fun ls hl => ?_)
            refine lv_goto (tgt := 67) hx hb dX11_easy_121 (by decide) ?_
            exact ih67 _ _ _ _ _ _ _ _ h hM (lv_sub hl [2, 3, 4, 5, 6, 7, 0] rfl)
          intro x3 x4 x5 x6 A_0_11_product H locs ls h hM hl
          unfold lp_X11_easy_67 at h
          refine lv_iload hx hb dX11_easy_67 (lv_at hl 6 rfl) ?_
          refine lv_if_lt (tgt := 124) hx hb dX11_easy_69 (by decide) (fun hq => ?_) (fun hq => ?_)
          · have h := h.1 hq
            exact jq124 _ _ _ _ _ _ h hM (lv_sub hl [0, 1, 2, 3, 4] rfl)
          · have h := h.2 hq
            refine lv_iload hx hb dX11_easy_72 (lv_at hl 6 rfl) ?_
            refine lv_if_le (tgt := 90) hx hb dX11_easy_74 (by decide) (fun hq => ?_) (fun hq => ?_)
            · have h := h.1 hq
              refine lv_lconst (v := (0 : Int64)) hx hb dX11_easy_90 (by decide) ?_
              exact jq91 _ _ _ _ _ _ _ _ _ h hM (lv_sub hl [0, 1, 2, 3, 4, 5, 6] rfl)
            · have h := h.2 hq
              refine lv_aload_n hx hb dX11_easy_77 rfl (lv_at hl 0 rfl) ?_
              refine m_get (C := RX11) (T := TX11) (N := 12) (ci := 10) (ref := "LoweredPowers") (v := .ref (r0 11)) C0 hM 0 rfl rfl kt_X11_easy_X11 11 (by decide) kw_X11_easy_1 rfl rfl dX11_easy_78 ?_
              refine lv_iload hx hb dX11_easy_81 (lv_at hl 6 rfl) ?_
              refine lv_iconst (v := (1 : Int32)) hx hb dX11_easy_83 (by decide) ?_
              refine lv_isub hx hb dX11_easy_84 ?_
              obtain ⟨hc4, h⟩ := h
              refine m_iald C0 hM 1 rfl hc4 dX11_easy_85 ?_
              refine lv_i2l hx hb dX11_easy_86 rfl ?_
              refine lv_goto (tgt := 91) hx hb dX11_easy_87 (by decide) ?_
              exact jq91 _ _ _ _ _ _ _ _ _ h hM (lv_sub hl [0, 1, 2, 3, 4, 5, 6] rfl)
      intro x3 x4 A_0_11_product H locs ls h hM hl
      unfold lp_X11_easy_46 at h
      refine lv_iload hx hb dX11_easy_46 (lv_at hl 4 rfl) ?_
      refine lv_iload_n hx hb dX11_easy_48 rfl (lv_at hl 1 rfl) ?_
      refine lv_icmp_gt (tgt := 130) hx hb dX11_easy_49 (by decide) (fun hq => ?_) (fun hq => ?_)
      · have h := h.1 hq
        exact jq130 _ _ _ _ h hM (lv_sub hl [0, 2] rfl)
      · have h := h.2 hq
        refine lv_iload hx hb dX11_easy_52 (lv_at hl 4 rfl) ?_
        refine lv_i2l hx hb dX11_easy_54 rfl ?_
        refine lv_iload_n hx hb dX11_easy_55 rfl (lv_at hl 3 rfl) ?_
        refine lv_i2l hx hb dX11_easy_56 rfl ?_
        refine lv_lmul hx hb dX11_easy_57 ?_
        refine m_calli (wc := []) C0 hM [] rfl (m_runS (wc := []) (As := [.long ((x4.toInt64) * (x3.toInt64))]) (rest := []) C0 hM (ct_X3_fold l D cI cJ cZ ((x4.toInt64) * (x3.toInt64)) _ _ h) [] rfl (by decide) gX11_easy_X3_fold rfl rfl rfl hd_X3_fold ⟨Nat.le_of_ble_eq_true rfl, Nat.le_of_ble_eq_true rfl⟩ rfl hl.1 rfl (Nat.le_of_ble_eq_true rfl) dX11_easy_58 ⟨Nat.le_of_ble_eq_true rfl, Nat.le_of_ble_eq_true rfl⟩) (fun _ => [(h0, .inr (10, oX11 r0 I_0_imaged)), ((r0 11), .inl (cI, 5, .inl A_0_11_product))]) (fun _ => rfl) (fun _ => rfl) (fun y5 _ H locs h hM => ?_)
        refine lv_istore (lv' := [(5, .int y5), (0, .ref h0), (1, .int x1), (2, .int x2), (3, .int x3), (4, .int x4)]) hx hb dX11_easy_61 hl (by decide) rfl (fun ls hl => ?_)
        refine lv_iload hx hb dX11_easy_63 (lv_at hl 5 rfl) ?_
        refine lv_istore (lv' := [(6, .int x4), (5, .int y5), (0, .ref h0), (1, .int x1), (2, .int x2), (3, .int x3), (4, .int x4)]) hx hb dX11_easy_65 hl (by decide) rfl (fun ls hl => ?_)
        obtain ⟨k0, h⟩ := h
        exact lq67 k0 _ _ _ _ _ _ _ _ h hM (lv_sub hl [2, 3, 4, 5, 6, 1, 0] rfl)
  unfold wp_X11_easy at h
  refine lv_iload_n hx hb dX11_easy_0 rfl (lv_at hl 1 rfl) ?_
  refine lv_iconst (v := (1 : Int32)) hx hb dX11_easy_1 (by decide) ?_
  refine lv_iconst (v := (4 : Int32)) hx hb dX11_easy_2 (by decide) ?_
  refine m_calli (wc := []) C0 hM [] rfl (m_runS (wc := []) (As := [.int x1, .int (1 : Int32), .int (4 : Int32)]) (rest := []) C0 hM (ct_X11_within l D cI cJ cZ x1 (1 : Int32) (4 : Int32) _ _ h) [] rfl (by decide) gX11_easy_X11_within rfl rfl rfl hd_X11_within ⟨Nat.le_of_ble_eq_true rfl, Nat.le_of_ble_eq_true rfl⟩ rfl hl.1 rfl (Nat.le_of_ble_eq_true rfl) dX11_easy_3 ⟨Nat.le_of_ble_eq_true rfl, Nat.le_of_ble_eq_true rfl⟩) (fun _ => [(h0, .inr (10, oX11 r0 I_0_imaged)), ((r0 11), .inl (cI, 5, .inl A_0_11_product))]) (fun _ => rfl) (fun _ => rfl) (fun y6 _ H locs h hM => ?_)
  refine lv_if_ne (tgt := 12) hx hb dX11_easy_6 (by decide) (fun hq => ?_) (fun hq => ?_)
  · have h := h.1 hq
    refine lv_iload_n hx hb dX11_easy_12 rfl (lv_at hl 2 rfl) ?_
    refine lv_iconst (v := (0 : Int32)) hx hb dX11_easy_13 (by decide) ?_
    refine lv_iload_n hx hb dX11_easy_14 rfl (lv_at hl 1 rfl) ?_
    refine m_calli (wc := []) C0 hM [] rfl (m_runS (wc := []) (As := [.int x2, .int (0 : Int32), .int x1]) (rest := []) C0 hM (ct_X11_within l D cI cJ cZ x2 (0 : Int32) x1 _ _ h) [] rfl (by decide) gX11_easy_X11_within rfl rfl rfl hd_X11_within ⟨Nat.le_of_ble_eq_true rfl, Nat.le_of_ble_eq_true rfl⟩ rfl hl.1 rfl (Nat.le_of_ble_eq_true rfl) dX11_easy_15 ⟨Nat.le_of_ble_eq_true rfl, Nat.le_of_ble_eq_true rfl⟩) (fun _ => [(h0, .inr (10, oX11 r0 I_0_imaged)), ((r0 11), .inl (cI, 5, .inl A_0_11_product))]) (fun _ => rfl) (fun _ => rfl) (fun y7 _ H locs h hM => ?_)
    refine lv_if_ne (tgt := 23) hx hb dX11_easy_18 (by decide) (fun hq => ?_) (fun hq => ?_)
    · have h := h.1 hq
      refine lv_aload_n hx hb dX11_easy_23 rfl (lv_at hl 0 rfl) ?_
      refine m_get (C := RX11) (T := TX11) (N := 12) (ci := 10) (ref := "LoweredPowers") (v := .ref (r0 11)) C0 hM 0 rfl rfl kt_X11_easy_X11 11 (by decide) kw_X11_easy_1 rfl rfl dX11_easy_24 ?_
      refine lv_iconst (v := (0 : Int32)) hx hb dX11_easy_27 (by decide) ?_
      refine m_callv (wc := [((r0 11), .inl (cI, 5, .inl A_0_11_product))]) C0 hM [1] rfl (m_runS (wc := [((r0 11), .inl (cI, 5, .inl A_0_11_product))]) (As := [.ref (r0 11), .int (0 : Int32)]) (rest := []) C0 hM (ct_J7_fill_53178 l D cI cJ cZ (r0 11) 5 A_0_11_product (0 : Int32) _ _ h) [1] rfl (by decide) gX11_easy_J7_fill_53178 rfl rfl rfl hd_J7_fill_53178 ⟨Nat.le_of_ble_eq_true rfl, Nat.le_of_ble_eq_true rfl⟩ rfl hl.1 rfl (Nat.le_of_ble_eq_true rfl) dX11_easy_28 ⟨Nat.le_of_ble_eq_true rfl, Nat.le_of_ble_eq_true rfl⟩) (fun u => [(h0, .inr (10, oX11 r0 I_0_imaged)), ((r0 11), .inl (cI, 5, .inl u))]) (fun _ => rfl) (fun _ => rfl) (fun b8 H locs h hM => ?_)
      refine lv_aload_n hx hb dX11_easy_31 rfl (lv_at hl 0 rfl) ?_
      refine m_get (C := RX11) (T := TX11) (N := 12) (ci := 10) (ref := "LoweredPowers") (v := .ref (r0 11)) C0 hM 0 rfl rfl kt_X11_easy_X11 11 (by decide) kw_X11_easy_1 rfl rfl dX11_easy_32 ?_
      refine lv_iconst (v := (0 : Int32)) hx hb dX11_easy_35 (by decide) ?_
      refine lv_iconst (v := (1 : Int32)) hx hb dX11_easy_36 (by decide) ?_
      refine m_iast (ws' := [(h0, .inr (10, oX11 r0 I_0_imaged)), ((r0 11), .inl (cI, 5, .inl (upd b8 ((0 : Int32)).toNatClampNeg (1 : Int32))))]) C0 hM 1 rfl (by unfold vp_in; decide) rfl dX11_easy_37 (fun H locs hM => ?_)
      refine lv_iload_n hx hb dX11_easy_38 rfl (lv_at hl 1 rfl) ?_
      refine m_calli (wc := []) C0 hM [] rfl (m_runS (wc := []) (As := [.int x1]) (rest := []) C0 hM (ct_X3_inverse l D cI cJ cZ x1 _ _ h) [] rfl (by decide) gX11_easy_X3_inverse rfl rfl rfl hd_X3_inverse ⟨Nat.le_of_ble_eq_true rfl, Nat.le_of_ble_eq_true rfl⟩ rfl hl.1 rfl (Nat.le_of_ble_eq_true rfl) dX11_easy_39 ⟨Nat.le_of_ble_eq_true rfl, Nat.le_of_ble_eq_true rfl⟩) (fun _ => [(h0, .inr (10, oX11 r0 I_0_imaged)), ((r0 11), .inl (cI, 5, .inl (upd b8 ((0 : Int32)).toNatClampNeg (1 : Int32))))]) (fun _ => rfl) (fun _ => rfl) (fun y9 _ H locs h hM => ?_)
      refine lv_istore_n (lv' := [(3, .int y9), (0, .ref h0), (1, .int x1), (2, .int x2)]) hx hb dX11_easy_42 rfl hl (by decide) rfl (fun ls hl => ?_)
      refine lv_iconst (v := (1 : Int32)) hx hb dX11_easy_43 (by decide) ?_
      refine lv_istore (lv' := [(4, .int (1 : Int32)), (3, .int y9), (0, .ref h0), (1, .int x1), (2, .int x2)]) hx hb dX11_easy_44 hl (by decide) rfl (fun ls hl => ?_)
      obtain ⟨k0, h⟩ := h
      exact lq46 k0 _ _ _ _ _ _ h hM (lv_sub hl [2, 3, 4, 1, 0] rfl)
    · have h := h.2 hq
      refine lv_iconst (v := (-1 : Int32)) hx hb dX11_easy_21 (by decide) ?_
      subst hsz; subst hA; subst hQ
      exact m_iret C0 hr hM A_0_11_product h rfl dX11_easy_22
  · have h := h.2 hq
    refine lv_bipush (v := (-2 : Int32)) hx hb dX11_easy_9 (by decide) ?_
    subst hsz; subst hA; subst hQ
    exact m_iret C0 hr hM A_0_11_product h rfl dX11_easy_11
abbrev rm_X11_direct : Room := { frames := 4, cells := 0, slots := 0, locals := 95 }
set_option maxRecDepth 100000 in
set_option maxHeartbeats 4000000 in
theorem ct_X11_direct (l : Launch) (D : va_G) (cI cJ cZ : ClassId) (h0 : Nat) (r0 : Nat → Nat) (r0_0 : Nat → Nat) (r0_0_1 : Nat → Nat) (r0_3 : Nat → Nat) (I_0_imaged : Int32) (A_0_0_0_f : (Nat → Int32)) (A_0_0_1_0_numbers : (Nat → Int32)) (A_0_3_2_whole : (Nat → Int32)) (A_0_3_5_power : (Nat → Int32)) (x1 : Int32) (x2 : Int32) (sz : Nat) (K : Int32 → (Nat → Int32) → (Nat → Int32) → Prop) (h : wp_X11_direct x1 x2 A_0_0_0_f A_0_0_1_0_numbers A_0_3_2_whole A_0_3_5_power K) : Met l yX11_direct wsX11_direct rm_X11_direct (va_Pc [.ref h0, .int x1, .int x2] (WX D cI cJ cZ [(h0, .inr (10, oX11 r0 I_0_imaged)), ((r0 0), .inr (8, oX9 r0_0 )), ((r0_0 0), .inl (cI, 5, .inl A_0_0_0_f)), ((r0_0 1), .inr (3, oX4 r0_0_1 )), ((r0_0_1 0), .inl (cI, 75, .inl A_0_0_1_0_numbers)), ((r0 3), .inr (2, oX2 r0_3 )), ((r0_3 2), .inl (cI, 21, .inl A_0_3_2_whole)), ((r0_3 5), .inl (cI, 25, .inl A_0_3_5_power))] sz)) (va_Qi (fun (r : Int32) (u : (Nat → Int32) × (Nat → Int32)) => K r u.1 u.2) (fun (u : (Nat → Int32) × (Nat → Int32)) t => WY D (va_A [(h0, .inr (10, oX11 r0 I_0_imaged)), ((r0 0), .inr (8, oX9 r0_0 )), ((r0_0 0), .inl (cI, 5, .inl A_0_0_0_f)), ((r0_0 1), .inr (3, oX4 r0_0_1 )), ((r0_0_1 0), .inl (cI, 75, .inl A_0_0_1_0_numbers)), ((r0 3), .inr (2, oX2 r0_3 )), ((r0_3 2), .inl (cI, 21, .inl A_0_3_2_whole)), ((r0_3 5), .inl (cI, 25, .inl A_0_3_5_power))] sz) [(h0, .inr (10, oX11 r0 I_0_imaged)), ((r0 0), .inr (8, oX9 r0_0 )), ((r0_0 0), .inl (cI, 5, .inl A_0_0_0_f)), ((r0_0 1), .inr (3, oX4 r0_0_1 )), ((r0_0_1 0), .inl (cI, 75, .inl A_0_0_1_0_numbers)), ((r0 3), .inr (2, oX2 r0_3 )), ((r0_3 2), .inl (cI, 21, .inl u.1)), ((r0_3 5), .inl (cI, 25, .inl u.2))] t) (va_A [(h0, .inr (10, oX11 r0 I_0_imaged)), ((r0 0), .inr (8, oX9 r0_0 )), ((r0_0 0), .inl (cI, 5, .inl A_0_0_0_f)), ((r0_0 1), .inr (3, oX4 r0_0_1 )), ((r0_0_1 0), .inl (cI, 75, .inl A_0_0_1_0_numbers)), ((r0 3), .inr (2, oX2 r0_3 )), ((r0_3 2), .inl (cI, 21, .inl A_0_3_2_whole)), ((r0_3 5), .inl (cI, 25, .inl A_0_3_5_power))] sz)) 0 0 (va_A [(h0, .inr (10, oX11 r0 I_0_imaged)), ((r0 0), .inr (8, oX9 r0_0 )), ((r0_0 0), .inl (cI, 5, .inl A_0_0_0_f)), ((r0_0 1), .inr (3, oX4 r0_0_1 )), ((r0_0_1 0), .inl (cI, 75, .inl A_0_0_1_0_numbers)), ((r0 3), .inr (2, oX2 r0_3 )), ((r0_3 2), .inl (cI, 21, .inl A_0_3_2_whole)), ((r0_3 5), .inl (cI, 25, .inl A_0_3_5_power))] sz) := by
  refine m_met (own := RX11) (cc := cX11_direct) (maxL := 3) (ret := some .int) [.ref h0, .int x1, .int x2] [(0, .ref h0), (1, .int x1), (2, .int x2)] (by decide) rfl rfl (Nat.le_of_ble_eq_true rfl) rfl ?_
  intro p e s m args below meth c Q A hQ hA C0 hr hnm hsz hM ls hl
  have hx := C0.1
  have hb := C0.2.1
  have hown := C0.2.2.2.1
  unfold wp_X11_direct at h
  refine lv_iload_n hx hb dX11_direct_0 rfl (lv_at hl 1 rfl) ?_
  refine lv_iconst (v := (0 : Int32)) hx hb dX11_direct_1 (by decide) ?_
  refine lv_iconst (v := (3 : Int32)) hx hb dX11_direct_2 (by decide) ?_
  refine m_calli (wc := []) C0 hM [] rfl (m_runS (wc := []) (As := [.int x1, .int (0 : Int32), .int (3 : Int32)]) (rest := []) C0 hM (ct_X11_within l D cI cJ cZ x1 (0 : Int32) (3 : Int32) _ _ h) [] rfl (by decide) gX11_direct_X11_within rfl rfl rfl hd_X11_within ⟨Nat.le_of_ble_eq_true rfl, Nat.le_of_ble_eq_true rfl⟩ rfl hl.1 rfl (Nat.le_of_ble_eq_true rfl) dX11_direct_3 ⟨Nat.le_of_ble_eq_true rfl, Nat.le_of_ble_eq_true rfl⟩) (fun _ => [(h0, .inr (10, oX11 r0 I_0_imaged)), ((r0 0), .inr (8, oX9 r0_0 )), ((r0_0 0), .inl (cI, 5, .inl A_0_0_0_f)), ((r0_0 1), .inr (3, oX4 r0_0_1 )), ((r0_0_1 0), .inl (cI, 75, .inl A_0_0_1_0_numbers)), ((r0 3), .inr (2, oX2 r0_3 )), ((r0_3 2), .inl (cI, 21, .inl A_0_3_2_whole)), ((r0_3 5), .inl (cI, 25, .inl A_0_3_5_power))]) (fun _ => rfl) (fun _ => rfl) (fun y1 _ H locs h hM => ?_)
  refine lv_if_ne (tgt := 12) hx hb dX11_direct_6 (by decide) (fun hq => ?_) (fun hq => ?_)
  · have h := h.1 hq
    refine lv_iload_n hx hb dX11_direct_12 rfl (lv_at hl 2 rfl) ?_
    refine lv_iconst (v := (0 : Int32)) hx hb dX11_direct_13 (by decide) ?_
    refine lv_bipush (v := (20 : Int32)) hx hb dX11_direct_14 (by decide) ?_
    refine m_calli (wc := []) C0 hM [] rfl (m_runS (wc := []) (As := [.int x2, .int (0 : Int32), .int (20 : Int32)]) (rest := []) C0 hM (ct_X11_within l D cI cJ cZ x2 (0 : Int32) (20 : Int32) _ _ h) [] rfl (by decide) gX11_direct_X11_within rfl rfl rfl hd_X11_within ⟨Nat.le_of_ble_eq_true rfl, Nat.le_of_ble_eq_true rfl⟩ rfl hl.1 rfl (Nat.le_of_ble_eq_true rfl) dX11_direct_16 ⟨Nat.le_of_ble_eq_true rfl, Nat.le_of_ble_eq_true rfl⟩) (fun _ => [(h0, .inr (10, oX11 r0 I_0_imaged)), ((r0 0), .inr (8, oX9 r0_0 )), ((r0_0 0), .inl (cI, 5, .inl A_0_0_0_f)), ((r0_0 1), .inr (3, oX4 r0_0_1 )), ((r0_0_1 0), .inl (cI, 75, .inl A_0_0_1_0_numbers)), ((r0 3), .inr (2, oX2 r0_3 )), ((r0_3 2), .inl (cI, 21, .inl A_0_3_2_whole)), ((r0_3 5), .inl (cI, 25, .inl A_0_3_5_power))]) (fun _ => rfl) (fun _ => rfl) (fun y2 _ H locs h hM => ?_)
    refine lv_if_ne (tgt := 24) hx hb dX11_direct_19 (by decide) (fun hq => ?_) (fun hq => ?_)
    · have h := h.1 hq
      refine lv_aload_n hx hb dX11_direct_24 rfl (lv_at hl 0 rfl) ?_
      refine m_get (C := RX11) (T := TX11) (N := 12) (ci := 10) (ref := "LoweredPowers") (v := .ref (r0 3)) C0 hM 0 rfl rfl kt_X11_direct_X11 3 (by decide) kw_X11_direct_1 rfl rfl dX11_direct_25 ?_
      refine lv_aload_n hx hb dX11_direct_28 rfl (lv_at hl 0 rfl) ?_
      refine m_get (C := RX11) (T := TX11) (N := 12) (ci := 10) (ref := "LoweredPowers") (v := .ref (r0 0)) C0 hM 0 rfl rfl kt_X11_direct_X11 0 (by decide) kw_X11_direct_2 rfl rfl dX11_direct_29 ?_
      refine m_get (C := RX9) (T := TX9) (N := 4) (ci := 8) (ref := "LoweredPowers$State") (v := .ref (r0_0 1)) C0 hM 1 rfl rfl kt_X11_direct_X9 1 (by decide) kw_X11_direct_3 rfl rfl dX11_direct_32 ?_
      refine lv_aload_n hx hb dX11_direct_35 rfl (lv_at hl 0 rfl) ?_
      refine m_get (C := RX11) (T := TX11) (N := 12) (ci := 10) (ref := "LoweredPowers") (v := .ref (r0 0)) C0 hM 0 rfl rfl kt_X11_direct_X11 0 (by decide) kw_X11_direct_2 rfl rfl dX11_direct_36 ?_
      refine m_get (C := RX9) (T := TX9) (N := 4) (ci := 8) (ref := "LoweredPowers$State") (v := .ref (r0_0 0)) C0 hM 1 rfl rfl kt_X11_direct_X9 0 (by decide) kw_X11_direct_4 rfl rfl dX11_direct_39 ?_
      refine lv_iload_n hx hb dX11_direct_42 rfl (lv_at hl 1 rfl) ?_
      refine m_callv (wc := [((r0 3), .inr (2, oX2 r0_3 )), ((r0_3 2), .inl (cI, 21, .inl A_0_3_2_whole)), ((r0_3 5), .inl (cI, 25, .inl A_0_3_5_power)), ((r0_0 1), .inr (3, oX4 r0_0_1 )), ((r0_0_1 0), .inl (cI, 75, .inl A_0_0_1_0_numbers)), ((r0_0 0), .inl (cI, 5, .inl A_0_0_0_f))]) C0 hM [5, 6, 7, 3, 4, 2] rfl (m_runV (wc := [((r0 3), .inr (2, oX2 r0_3 )), ((r0_3 2), .inl (cI, 21, .inl A_0_3_2_whole)), ((r0_3 5), .inl (cI, 25, .inl A_0_3_5_power)), ((r0_0 1), .inr (3, oX4 r0_0_1 )), ((r0_0_1 0), .inl (cI, 75, .inl A_0_0_1_0_numbers)), ((r0_0 0), .inl (cI, 5, .inl A_0_0_0_f))]) (As := [.ref (r0_0 1), .ref (r0_0 0), .int x1]) (rest := []) (ci := 2) C0 hM (ct_X2_applyToWhole l D cI cJ cZ (r0 3) (r0_0 1) (r0_0 0) r0_3 r0_0_1 A_0_3_2_whole A_0_3_5_power A_0_0_1_0_numbers A_0_0_0_f x1 _ _ h) [5, 6, 7, 3, 4, 2] rfl (by decide) gX11_direct_X2_applyToWhole rfl rfl rfl rfl rfl hd_X2_applyToWhole ⟨Nat.le_of_ble_eq_true rfl, Nat.le_of_ble_eq_true rfl⟩ rfl hl.1 rfl (Nat.le_of_ble_eq_true rfl) dX11_direct_43 ⟨Nat.le_of_ble_eq_true rfl, Nat.le_of_ble_eq_true rfl⟩) (fun u => [(h0, .inr (10, oX11 r0 I_0_imaged)), ((r0 0), .inr (8, oX9 r0_0 )), ((r0_0 0), .inl (cI, 5, .inl A_0_0_0_f)), ((r0_0 1), .inr (3, oX4 r0_0_1 )), ((r0_0_1 0), .inl (cI, 75, .inl A_0_0_1_0_numbers)), ((r0 3), .inr (2, oX2 r0_3 )), ((r0_3 2), .inl (cI, 21, .inl u.1)), ((r0_3 5), .inl (cI, 25, .inl u.2))]) (fun _ => rfl) (fun _ => rfl) (fun u H locs h hM => ?_)
      obtain ⟨b3, b4⟩ := u
      dsimp only at h
      have hM : MW D A s.heap [(h0, .inr (10, oX11 r0 I_0_imaged)), ((r0 0), .inr (8, oX9 r0_0 )), ((r0_0 0), .inl (cI, 5, .inl A_0_0_0_f)), ((r0_0 1), .inr (3, oX4 r0_0_1 )), ((r0_0_1 0), .inl (cI, 75, .inl A_0_0_1_0_numbers)), ((r0 3), .inr (2, oX2 r0_3 )), ((r0_3 2), .inl (cI, 21, .inl b3)), ((r0_3 5), .inl (cI, 25, .inl b4))] H locs := hM
      refine lv_ldc (v := (100000 : Int32)) hx hb hown (C0.2.2.2.2.1 _ kw_X11_direct_5) dX11_direct_46 ?_
      refine lv_aload_n hx hb dX11_direct_48 rfl (lv_at hl 0 rfl) ?_
      refine m_get (C := RX11) (T := TX11) (N := 12) (ci := 10) (ref := "LoweredPowers") (v := .ref (r0 3)) C0 hM 0 rfl rfl kt_X11_direct_X11 3 (by decide) kw_X11_direct_1 rfl rfl dX11_direct_49 ?_
      refine m_get (C := RX2) (T := TX2) (N := 6) (ci := 2) (ref := "LoweredPowers$Lowering") (v := .ref (r0_3 2)) C0 hM 5 rfl rfl kt_X11_direct_X2 2 (by decide) kw_X11_direct_6 rfl rfl dX11_direct_52 ?_
      refine lv_iload_n hx hb dX11_direct_55 rfl (lv_at hl 2 rfl) ?_
      obtain ⟨hc5, h⟩ := h
      refine m_iald C0 hM 6 rfl hc5 dX11_direct_56 ?_
      refine lv_iadd hx hb dX11_direct_57 ?_
      subst hsz; subst hA; subst hQ
      exact m_iret C0 hr hM (b3, b4) h rfl dX11_direct_58
    · have h := h.2 hq
      refine lv_iconst (v := (-1 : Int32)) hx hb dX11_direct_22 (by decide) ?_
      subst hsz; subst hA; subst hQ
      exact m_iret C0 hr hM (A_0_3_2_whole, A_0_3_5_power) h rfl dX11_direct_23
  · have h := h.2 hq
    refine lv_bipush (v := (-2 : Int32)) hx hb dX11_direct_9 (by decide) ?_
    subst hsz; subst hA; subst hQ
    exact m_iret C0 hr hM (A_0_3_2_whole, A_0_3_5_power) h rfl dX11_direct_11
