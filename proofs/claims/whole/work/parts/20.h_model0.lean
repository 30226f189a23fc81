theorem hd_X12_isIn : yX12_isIn.cls ≠ "java/lang/invoke/MethodHandle" ∧ yX12_isIn.cls ≠ "java/lang/invoke/VarHandle" ∧ (parseMethodDescriptor yX12_isIn.desc).map (fun d => d.parameters.length) = some 3 := by decide +kernel
theorem hd_X12_modulo : yX12_modulo.cls ≠ "java/lang/invoke/MethodHandle" ∧ yX12_modulo.cls ≠ "java/lang/invoke/VarHandle" ∧ (parseMethodDescriptor yX12_modulo.desc).map (fun d => d.parameters.length) = some 1 := by decide +kernel
theorem hd_X12_signed : yX12_signed.cls ≠ "java/lang/invoke/MethodHandle" ∧ yX12_signed.cls ≠ "java/lang/invoke/VarHandle" ∧ (parseMethodDescriptor yX12_signed.desc).map (fun d => d.parameters.length) = some 1 := by decide +kernel
theorem hd_X12_told : yX12_told.cls ≠ "java/lang/invoke/MethodHandle" ∧ yX12_told.cls ≠ "java/lang/invoke/VarHandle" ∧ (parseMethodDescriptor yX12_told.desc).map (fun d => d.parameters.length) = some 1 := by decide +kernel
theorem hd_X12_inverse : yX12_inverse.cls ≠ "java/lang/invoke/MethodHandle" ∧ yX12_inverse.cls ≠ "java/lang/invoke/VarHandle" ∧ (parseMethodDescriptor yX12_inverse.desc).map (fun d => d.parameters.length) = some 1 := by decide +kernel
theorem hd_X12_degreeOf : yX12_degreeOf.cls = RX12 ∧ yX12_degreeOf.cls ≠ "java/lang/invoke/MethodHandle" ∧ yX12_degreeOf.cls ≠ "java/lang/invoke/VarHandle" ∧ (parseMethodDescriptor yX12_degreeOf.desc).map (fun d => d.parameters.length) = some 0 := by decide +kernel
theorem hd_X12_set : yX12_set.cls = RX12 ∧ yX12_set.cls ≠ "java/lang/invoke/MethodHandle" ∧ yX12_set.cls ≠ "java/lang/invoke/VarHandle" ∧ (parseMethodDescriptor yX12_set.desc).map (fun d => d.parameters.length) = some 2 := by decide +kernel
theorem hd_X12_of : yX12_of.cls = RX12 ∧ yX12_of.cls ≠ "java/lang/invoke/MethodHandle" ∧ yX12_of.cls ≠ "java/lang/invoke/VarHandle" ∧ (parseMethodDescriptor yX12_of.desc).map (fun d => d.parameters.length) = some 1 := by decide +kernel
theorem hd_X12_degree : yX12_degree.cls = RX12 ∧ yX12_degree.cls ≠ "java/lang/invoke/MethodHandle" ∧ yX12_degree.cls ≠ "java/lang/invoke/VarHandle" ∧ (parseMethodDescriptor yX12_degree.desc).map (fun d => d.parameters.length) = some 0 := by decide +kernel
theorem hd_X12_isNumber : yX12_isNumber.cls ≠ "java/lang/invoke/MethodHandle" ∧ yX12_isNumber.cls ≠ "java/lang/invoke/VarHandle" ∧ (parseMethodDescriptor yX12_isNumber.desc).map (fun d => d.parameters.length) = some 3 := by decide +kernel
theorem hd_X12_placeOf : yX12_placeOf.cls ≠ "java/lang/invoke/MethodHandle" ∧ yX12_placeOf.cls ≠ "java/lang/invoke/VarHandle" ∧ (parseMethodDescriptor yX12_placeOf.desc).map (fun d => d.parameters.length) = some 3 := by decide +kernel
theorem hd_X12_put : yX12_put.cls = RX12 ∧ yX12_put.cls ≠ "java/lang/invoke/MethodHandle" ∧ yX12_put.cls ≠ "java/lang/invoke/VarHandle" ∧ (parseMethodDescriptor yX12_put.desc).map (fun d => d.parameters.length) = some 4 := by decide +kernel
theorem hd_X12_get : yX12_get.cls = RX12 ∧ yX12_get.cls ≠ "java/lang/invoke/MethodHandle" ∧ yX12_get.cls ≠ "java/lang/invoke/VarHandle" ∧ (parseMethodDescriptor yX12_get.desc).map (fun d => d.parameters.length) = some 3 := by decide +kernel
theorem hd_X12_numbers : yX12_numbers.cls = RX12 ∧ yX12_numbers.cls ≠ "java/lang/invoke/MethodHandle" ∧ yX12_numbers.cls ≠ "java/lang/invoke/VarHandle" ∧ (parseMethodDescriptor yX12_numbers.desc).map (fun d => d.parameters.length) = some 0 := by decide +kernel
theorem hd_X12_clear : yX12_clear.cls = RX12 ∧ yX12_clear.cls ≠ "java/lang/invoke/MethodHandle" ∧ yX12_clear.cls ≠ "java/lang/invoke/VarHandle" ∧ (parseMethodDescriptor yX12_clear.desc).map (fun d => d.parameters.length) = some 0 := by decide +kernel
theorem hd_X12_orderOf : yX12_orderOf.cls = RX12 ∧ yX12_orderOf.cls ≠ "java/lang/invoke/MethodHandle" ∧ yX12_orderOf.cls ≠ "java/lang/invoke/VarHandle" ∧ (parseMethodDescriptor yX12_orderOf.desc).map (fun d => d.parameters.length) = some 0 := by decide +kernel
theorem hd_X12_order : yX12_order.cls = RX12 ∧ yX12_order.cls ≠ "java/lang/invoke/MethodHandle" ∧ yX12_order.cls ≠ "java/lang/invoke/VarHandle" ∧ (parseMethodDescriptor yX12_order.desc).map (fun d => d.parameters.length) = some 0 := by decide +kernel
theorem hd_X12_tellsPowers : yX12_tellsPowers.cls = RX12 ∧ yX12_tellsPowers.cls ≠ "java/lang/invoke/MethodHandle" ∧ yX12_tellsPowers.cls ≠ "java/lang/invoke/VarHandle" ∧ (parseMethodDescriptor yX12_tellsPowers.desc).map (fun d => d.parameters.length) = some 0 := by decide +kernel
theorem hd_X12_adds : yX12_adds.cls = RX12 ∧ yX12_adds.cls ≠ "java/lang/invoke/MethodHandle" ∧ yX12_adds.cls ≠ "java/lang/invoke/VarHandle" ∧ (parseMethodDescriptor yX12_adds.desc).map (fun d => d.parameters.length) = some 2 := by decide +kernel
theorem hd_X12_derives : yX12_derives.cls = RX12 ∧ yX12_derives.cls ≠ "java/lang/invoke/MethodHandle" ∧ yX12_derives.cls ≠ "java/lang/invoke/VarHandle" ∧ (parseMethodDescriptor yX12_derives.desc).map (fun d => d.parameters.length) = some 3 := by decide +kernel
theorem kt_X12_adds_X12 : ∀ w ∈ u_ws RX12 TX12 45, w ∈ wsX12_adds := fun _ h => List.mem_cons_of_mem _ (List.mem_append_right _ (h))
theorem kt_X12_clear_X12 : ∀ w ∈ u_ws RX12 TX12 45, w ∈ wsX12_clear := fun _ h => List.mem_cons_of_mem _ (List.mem_append_right _ (h))
theorem kt_X12_degreeOf_X12 : ∀ w ∈ u_ws RX12 TX12 45, w ∈ wsX12_degreeOf := fun _ h => List.mem_cons_of_mem _ (List.mem_append_right _ (h))
theorem kt_X12_derives_X12 : ∀ w ∈ u_ws RX12 TX12 45, w ∈ wsX12_derives := fun _ h => List.mem_cons_of_mem _ (List.mem_append_right _ (h))
theorem kt_X12_get_X12 : ∀ w ∈ u_ws RX12 TX12 45, w ∈ wsX12_get := fun _ h => List.mem_cons_of_mem _ (List.mem_append_right _ (h))
theorem kt_X12_numbers_X12 : ∀ w ∈ u_ws RX12 TX12 45, w ∈ wsX12_numbers := fun _ h => List.mem_cons_of_mem _ (List.mem_append_right _ (h))
theorem kt_X12_of_X12 : ∀ w ∈ u_ws RX12 TX12 45, w ∈ wsX12_of := fun _ h => List.mem_cons_of_mem _ (List.mem_append_right _ (h))
theorem kt_X12_orderOf_X12 : ∀ w ∈ u_ws RX12 TX12 45, w ∈ wsX12_orderOf := fun _ h => List.mem_cons_of_mem _ (List.mem_append_right _ (h))
theorem kt_X12_put_X12 : ∀ w ∈ u_ws RX12 TX12 45, w ∈ wsX12_put := fun _ h => List.mem_cons_of_mem _ (List.mem_append_right _ (h))
theorem kt_X12_set_X12 : ∀ w ∈ u_ws RX12 TX12 45, w ∈ wsX12_set := fun _ h => List.mem_cons_of_mem _ (List.mem_append_right _ (h))
theorem kt_X12_tellsPowers_X12 : ∀ w ∈ u_ws RX12 TX12 45, w ∈ wsX12_tellsPowers := fun _ h => List.mem_cons_of_mem _ (List.mem_append_right _ (h))
theorem kw_X12_told_1 : Cond.constant RX12 116 (100000) ∈ wsX12_told := List.mem_of_getElem? (i := 1) rfl
theorem kw_X12_degreeOf_1 : Cond.fieldLink RX12 9 "LoweredPowersModel" "f" "[I" ∈ wsX12_degreeOf := List.mem_of_getElem? (i := 1) rfl
theorem kw_X12_set_1 : Cond.fieldLink RX12 9 "LoweredPowersModel" "f" "[I" ∈ wsX12_set := List.mem_of_getElem? (i := 1) rfl
theorem kw_X12_of_1 : Cond.fieldLink RX12 9 "LoweredPowersModel" "f" "[I" ∈ wsX12_of := List.mem_of_getElem? (i := 1) rfl
theorem kw_X12_put_1 : Cond.fieldLink RX12 15 "LoweredPowersModel" "operator" "[I" ∈ wsX12_put := List.mem_of_getElem? (i := 1) rfl
theorem kw_X12_get_1 : Cond.fieldLink RX12 15 "LoweredPowersModel" "operator" "[I" ∈ wsX12_get := List.mem_of_getElem? (i := 1) rfl
theorem kw_X12_numbers_1 : Cond.fieldLink RX12 15 "LoweredPowersModel" "operator" "[I" ∈ wsX12_numbers := List.mem_of_getElem? (i := 1) rfl
theorem kw_X12_clear_1 : Cond.fieldLink RX12 15 "LoweredPowersModel" "operator" "[I" ∈ wsX12_clear := List.mem_of_getElem? (i := 1) rfl
theorem kw_X12_orderOf_1 : Cond.fieldLink RX12 15 "LoweredPowersModel" "operator" "[I" ∈ wsX12_orderOf := List.mem_of_getElem? (i := 1) rfl
theorem kw_X12_tellsPowers_1 : Cond.fieldLink RX12 24 "LoweredPowersModel" "powers" "[I" ∈ wsX12_tellsPowers := List.mem_of_getElem? (i := 1) rfl
theorem kw_X12_tellsPowers_2 : Cond.fieldLink RX12 9 "LoweredPowersModel" "f" "[I" ∈ wsX12_tellsPowers := List.mem_of_getElem? (i := 2) rfl
theorem kw_X12_adds_1 : Cond.fieldLink RX12 27 "LoweredPowersModel" "lefts" "[I" ∈ wsX12_adds := List.mem_of_getElem? (i := 1) rfl
theorem kw_X12_derives_2 : Cond.fieldLink RX12 9 "LoweredPowersModel" "f" "[I" ∈ wsX12_derives := List.mem_of_getElem? (i := 2) rfl
theorem kw_X12_derives_1 : Cond.fieldLink RX12 27 "LoweredPowersModel" "lefts" "[I" ∈ wsX12_derives := List.mem_of_getElem? (i := 1) rfl
abbrev rm_X12_isIn : Room := { frames := 0, cells := 0, slots := 0, locals := 0 }
set_option maxRecDepth 100000 in
set_option maxHeartbeats 4000000 in
theorem ct_X12_isIn (l : Launch) (D : va_G) (cI cJ cZ : ClassId) (x0 : Int32) (x1 : Int32) (x2 : Int32) (sz : Nat) (K : Int32 → Prop) (h : wp_X12_isIn x0 x1 x2 K) : Met l yX12_isIn wsX12_isIn rm_X12_isIn (va_Pc [.int x0, .int x1, .int x2] (WX D cI cJ cZ [] sz)) (va_Qi (fun (r : Int32) (_ : Unit) => K r ) (fun (_ : Unit) t => WY D (va_A [] sz) [] t) (va_A [] sz)) 0 0 (va_A [] sz) := by
  refine m_met (own := RX12) (cc := cX12_isIn) (maxL := 3) (ret := some .boolean) [.int x0, .int x1, .int x2] [(0, .int x0), (1, .int x1), (2, .int x2)] (by decide) rfl rfl (Nat.le_of_ble_eq_true rfl) rfl ?_
  intro p e s m args below meth c Q A hQ hA C0 hr hnm hsz hM ls hl
  have hx := C0.1
  have hb := C0.2.1
  have hown := C0.2.2.2.1
  unfold wp_X12_isIn at h
  refine lv_iload_n hx hb dX12_isIn_0 rfl (lv_at hl 0 rfl) ?_
  refine lv_iload_n hx hb dX12_isIn_1 rfl (lv_at hl 1 rfl) ?_
  refine lv_icmp_lt (tgt := 14) hx hb dX12_isIn_2 (by decide) (fun hq => ?_) (fun hq => ?_)
  · have h := h.1 hq
    refine lv_iconst (v := (0 : Int32)) hx hb dX12_isIn_14 (by decide) ?_
    subst hsz; subst hA; subst hQ
    exact m_zret C0 hr hM rfl () h rfl dX12_isIn_15
  · have h := h.2 hq
    refine lv_iload_n hx hb dX12_isIn_5 rfl (lv_at hl 0 rfl) ?_
    refine lv_iload_n hx hb dX12_isIn_6 rfl (lv_at hl 2 rfl) ?_
    refine lv_icmp_gt (tgt := 14) hx hb dX12_isIn_7 (by decide) (fun hq => ?_) (fun hq => ?_)
    · have h := h.1 hq
      refine lv_iconst (v := (0 : Int32)) hx hb dX12_isIn_14 (by decide) ?_
      subst hsz; subst hA; subst hQ
      exact m_zret C0 hr hM rfl () h rfl dX12_isIn_15
    · have h := h.2 hq
      refine lv_iconst (v := (1 : Int32)) hx hb dX12_isIn_10 (by decide) ?_
      refine lv_goto (tgt := 15) hx hb dX12_isIn_11 (by decide) ?_
      subst hsz; subst hA; subst hQ
      exact m_zret C0 hr hM rfl () h rfl dX12_isIn_15
abbrev rm_X12_modulo : Room := { frames := 1, cells := 0, slots := 0, locals := 22 }
set_option maxRecDepth 100000 in
set_option maxHeartbeats 4000000 in
theorem ct_X12_modulo (l : Launch) (D : va_G) (cI cJ cZ : ClassId) (x0 : Int32) (sz : Nat) (K : Int32 → Prop) (h : wp_X12_modulo x0 K) : Met l yX12_modulo wsX12_modulo rm_X12_modulo (va_Pc [.int x0] (WX D cI cJ cZ [] sz)) (va_Qi (fun (r : Int32) (_ : Unit) => K r ) (fun (_ : Unit) t => WY D (va_A [] sz) [] t) (va_A [] sz)) 0 0 (va_A [] sz) := by
  refine m_met (own := RX12) (cc := cX12_modulo) (maxL := 1) (ret := some .int) [.int x0] [(0, .int x0)] (by decide) rfl rfl (Nat.le_of_ble_eq_true rfl) rfl ?_
  intro p e s m args below meth c Q A hQ hA C0 hr hnm hsz hM ls hl
  have hx := C0.1
  have hb := C0.2.1
  have hown := C0.2.2.2.1
  unfold wp_X12_modulo at h
  refine lv_iload_n hx hb dX12_modulo_0 rfl (lv_at hl 0 rfl) ?_
  refine lv_sipush (v := (10007 : Int32)) hx hb dX12_modulo_1 (by decide) ?_
  refine m_calli (wc := []) C0 hM [] rfl (m_runS (wc := []) (As := [.int x0, .int (10007 : Int32)]) (rest := []) C0 hM (ct_J9_floorMod_7cf53 l D cI cJ cZ x0 (10007 : Int32) _ _ h) [] rfl (by decide) gX12_modulo_J9_floorMod_7cf53 rfl rfl rfl hd_J9_floorMod_7cf53 ⟨Nat.le_of_ble_eq_true rfl, Nat.le_of_ble_eq_true rfl⟩ rfl hl.1 rfl (Nat.le_of_ble_eq_true rfl) dX12_modulo_4 ⟨Nat.le_of_ble_eq_true rfl, Nat.le_of_ble_eq_true rfl⟩) (fun _ => []) (fun _ => rfl) (fun _ => rfl) (fun y1 _ H locs h hM => ?_)
  subst hsz; subst hA; subst hQ
  exact m_iret C0 hr hM () h rfl dX12_modulo_7
abbrev rm_X12_signed : Room := { frames := 0, cells := 0, slots := 0, locals := 0 }
set_option maxRecDepth 100000 in
set_option maxHeartbeats 4000000 in
theorem ct_X12_signed (l : Launch) (D : va_G) (cI cJ cZ : ClassId) (x0 : Int32) (sz : Nat) (K : Int32 → Prop) (h : wp_X12_signed x0 K) : Met l yX12_signed wsX12_signed rm_X12_signed (va_Pc [.int x0] (WX D cI cJ cZ [] sz)) (va_Qi (fun (r : Int32) (_ : Unit) => K r ) (fun (_ : Unit) t => WY D (va_A [] sz) [] t) (va_A [] sz)) 0 0 (va_A [] sz) := by
  refine m_met (own := RX12) (cc := cX12_signed) (maxL := 1) (ret := some .int) [.int x0] [(0, .int x0)] (by decide) rfl rfl (Nat.le_of_ble_eq_true rfl) rfl ?_
  intro p e s m args below meth c Q A hQ hA C0 hr hnm hsz hM ls hl
  have hx := C0.1
  have hb := C0.2.1
  have hown := C0.2.2.2.1
  unfold wp_X12_signed at h
  refine lv_iload_n hx hb dX12_signed_0 rfl (lv_at hl 0 rfl) ?_
  refine lv_sipush (v := (5003 : Int32)) hx hb dX12_signed_1 (by decide) ?_
  refine lv_icmp_le (tgt := 15) hx hb dX12_signed_4 (by decide) (fun hq => ?_) (fun hq => ?_)
  · have h := h.1 hq
    refine lv_iload_n hx hb dX12_signed_15 rfl (lv_at hl 0 rfl) ?_
    subst hsz; subst hA; subst hQ
    exact m_iret C0 hr hM () h rfl dX12_signed_16
  · have h := h.2 hq
    refine lv_iload_n hx hb dX12_signed_7 rfl (lv_at hl 0 rfl) ?_
    refine lv_sipush (v := (10007 : Int32)) hx hb dX12_signed_8 (by decide) ?_
    refine lv_isub hx hb dX12_signed_11 ?_
    refine lv_goto (tgt := 16) hx hb dX12_signed_12 (by decide) ?_
    subst hsz; subst hA; subst hQ
    exact m_iret C0 hr hM () h rfl dX12_signed_16
abbrev rm_X12_told : Room := { frames := 1, cells := 0, slots := 0, locals := 20 }
set_option maxRecDepth 100000 in
set_option maxHeartbeats 4000000 in
theorem ct_X12_told (l : Launch) (D : va_G) (cI cJ cZ : ClassId) (x0 : Int32) (sz : Nat) (K : Int32 → Prop) (h : wp_X12_told x0 K) : Met l yX12_told wsX12_told rm_X12_told (va_Pc [.int x0] (WX D cI cJ cZ [] sz)) (va_Qi (fun (r : Int32) (_ : Unit) => K r ) (fun (_ : Unit) t => WY D (va_A [] sz) [] t) (va_A [] sz)) 0 0 (va_A [] sz) := by
  refine m_met (own := RX12) (cc := cX12_told) (maxL := 1) (ret := some .int) [.int x0] [(0, .int x0)] (by decide) rfl rfl (Nat.le_of_ble_eq_true rfl) rfl ?_
  intro p e s m args below meth c Q A hQ hA C0 hr hnm hsz hM ls hl
  have hx := C0.1
  have hb := C0.2.1
  have hown := C0.2.2.2.1
  unfold wp_X12_told at h
  refine lv_ldc (v := (100000 : Int32)) hx hb hown (C0.2.2.2.2.1 _ kw_X12_told_1) dX12_told_0 ?_
  refine lv_iload_n hx hb dX12_told_2 rfl (lv_at hl 0 rfl) ?_
  refine m_calli (wc := []) C0 hM [] rfl (m_runS (wc := []) (As := [.int x0]) (rest := [.int (100000 : Int32)]) C0 hM (ct_X12_signed l D cI cJ cZ x0 _ _ h) [] rfl (by decide) gX12_told_X12_signed rfl rfl rfl hd_X12_signed ⟨Nat.le_of_ble_eq_true rfl, Nat.le_of_ble_eq_true rfl⟩ rfl hl.1 rfl (Nat.le_of_ble_eq_true rfl) dX12_told_3 ⟨Nat.le_of_ble_eq_true rfl, Nat.le_of_ble_eq_true rfl⟩) (fun _ => []) (fun _ => rfl) (fun _ => rfl) (fun y1 _ H locs h hM => ?_)
  refine lv_iadd hx hb dX12_told_6 ?_
  subst hsz; subst hA; subst hQ
  exact m_iret C0 hr hM () h rfl dX12_told_7
abbrev rm_X12_inverse : Room := { frames := 0, cells := 0, slots := 0, locals := 0 }
set_option maxRecDepth 100000 in
set_option maxHeartbeats 4000000 in
theorem ct_X12_inverse (l : Launch) (D : va_G) (cI cJ cZ : ClassId) (x0 : Int32) (sz : Nat) (K : Int32 → Prop) (h : wp_X12_inverse x0 K) : Met l yX12_inverse wsX12_inverse rm_X12_inverse (va_Pc [.int x0] (WX D cI cJ cZ [] sz)) (va_Qi (fun (r : Int32) (_ : Unit) => K r ) (fun (_ : Unit) t => WY D (va_A [] sz) [] t) (va_A [] sz)) 0 0 (va_A [] sz) := by
  refine m_met (own := RX12) (cc := cX12_inverse) (maxL := 4) (ret := some .int) [.int x0] [(0, .int x0)] (by decide) rfl rfl (Nat.le_of_ble_eq_true rfl) rfl ?_
  intro p e s m args below meth c Q A hQ hA C0 hr hnm hsz hM ls hl
  have hx := C0.1
  have hb := C0.2.1
  have hown := C0.2.2.2.1
  have lq8 : ∀ (k8 : Nat) (x1 : Int32) (x2 : Int32) (x3 : Int32) (H : Heap) (locs : List Loc) (ls : Array Slot) , lp_X12_inverse_8 x0 K k8 x1 x2 x3 → MW D A s.heap [] H locs → lv_has ls 4 [(1, .int x1), (2, .int x2), (3, .int x3)] → W p l e rm_X12_inverse s m args below meth c H locs 0 0 Q (F0 m 8 ls []) := by
    intro k8
    induction k8 with
    | zero =>
      intro x1 x2 x3 H locs ls h
      unfold lp_X12_inverse_8 at h
      exact h.elim
    | succ k8 ih8 =>
      have jq30 : ∀ (x2 : Int32) (x3 : Int32) (s0 : Int32) (H : Heap) (locs : List Loc) (ls : Array Slot) , jn_X12_inverse_30 x0 (fun x1 x2 x3 => lp_X12_inverse_8 x0 K k8 x1 x2 x3) K x2 x3 s0 → MW D A s.heap [] H locs → lv_has ls 4 [(2, .int x2), (3, .int x3)] → W p l e rm_X12_inverse s m args below meth c H locs 0 0 Q (F0 m 30 ls [.int s0]) := by
        intro x2 x3 s0 H locs ls h hM hl
        unfold jn_X12_inverse_30 at h
        refine lv_istore_n (lv' := [(1, .int s0), (2, .int x2), (3, .int x3)]) hx hb dX12_inverse_30 rfl hl (by decide) rfl (fun ls hl => ?_)
        refine lv_iload_n hx hb dX12_inverse_31 rfl (lv_at hl 1 rfl) ?_
        refine lv_iload_n hx hb dX12_inverse_32 rfl (lv_at hl 1 rfl) ?_
        refine lv_imul hx hb dX12_inverse_33 ?_
        refine lv_sipush (v := (10007 : Int32)) hx hb dX12_inverse_34 (by decide) ?_
        refine lv_irem hx hb dX12_inverse_37 (by decide) ?_
        refine lv_topi (fun y1 ey1 => ?_)
        have h := h y1 ey1
        refine lv_istore_n (lv' := [(2, .int y1), (1, .int s0), (3, .int x3)]) hx hb dX12_inverse_38 rfl hl (by decide) rfl (fun ls hl => ?_)
        refine lv_iload_n hx hb dX12_inverse_39 rfl (lv_at hl 2 rfl) ?_
        refine lv_iconst (v := (2 : Int32)) hx hb dX12_inverse_40 (by decide) ?_
        refine lv_idiv hx hb dX12_inverse_41 (by decide) ?_
        refine lv_topi (fun y2 ey2 => ?_)
        have h := h y2 ey2
        refine lv_istore_n (lv' := [(3, .int y2), (2, .int y1), (1, .int s0)]) hx hb dX12_inverse_42 rfl hl (by decide) rfl (fun ls hl => ?_)
        refine lv_goto (tgt := 8) hx hb dX12_inverse_43 (by decide) ?_
        exact ih8 _ _ _ _ _ _ h hM (lv_sub hl [2, 1, 0] rfl)
      intro x1 x2 x3 H locs ls h hM hl
      unfold lp_X12_inverse_8 at h
      refine lv_iload_n hx hb dX12_inverse_8 rfl (lv_at hl 2 rfl) ?_
      refine lv_if_le (tgt := 46) hx hb dX12_inverse_9 (by decide) (fun hq => ?_) (fun hq => ?_)
      · have h := h.1 hq
        refine lv_iload_n hx hb dX12_inverse_46 rfl (lv_at hl 0 rfl) ?_
        subst hsz; subst hA; subst hQ
        exact m_iret C0 hr hM () h rfl dX12_inverse_47
      · have h := h.2 hq
        refine lv_iload_n hx hb dX12_inverse_12 rfl (lv_at hl 2 rfl) ?_
        refine lv_iconst (v := (2 : Int32)) hx hb dX12_inverse_13 (by decide) ?_
        refine lv_irem hx hb dX12_inverse_14 (by decide) ?_
        refine lv_iconst (v := (1 : Int32)) hx hb dX12_inverse_15 (by decide) ?_
        refine lv_icmp_ne (tgt := 29) hx hb dX12_inverse_16 (by decide) (fun hq => ?_) (fun hq => ?_)
        · have h := h.1 hq
          refine lv_iload_n hx hb dX12_inverse_29 rfl (lv_at hl 0 rfl) ?_
          exact jq30 _ _ _ _ _ _ h hM (lv_sub hl [1, 2] rfl)
        · have h := h.2 hq
          refine lv_iload_n hx hb dX12_inverse_19 rfl (lv_at hl 0 rfl) ?_
          refine lv_iload_n hx hb dX12_inverse_20 rfl (lv_at hl 1 rfl) ?_
          refine lv_imul hx hb dX12_inverse_21 ?_
          refine lv_sipush (v := (10007 : Int32)) hx hb dX12_inverse_22 (by decide) ?_
          refine lv_irem hx hb dX12_inverse_25 (by decide) ?_
          refine lv_goto (tgt := 30) hx hb dX12_inverse_26 (by decide) ?_
          exact jq30 _ _ _ _ _ _ h hM (lv_sub hl [1, 2] rfl)
  unfold wp_X12_inverse at h
  refine lv_iconst (v := (1 : Int32)) hx hb dX12_inverse_0 (by decide) ?_
  refine lv_istore_n (lv' := [(1, .int (1 : Int32)), (0, .int x0)]) hx hb dX12_inverse_1 rfl hl (by decide) rfl (fun ls hl => ?_)
  refine lv_iload_n hx hb dX12_inverse_2 rfl (lv_at hl 1 rfl) ?_
  refine lv_istore_n (lv' := [(2, .int x0), (1, .int (1 : Int32)), (0, .int x0)]) hx hb dX12_inverse_3 rfl hl (by decide) rfl (fun ls hl => ?_)
  refine lv_sipush (v := (10005 : Int32)) hx hb dX12_inverse_4 (by decide) ?_
  refine lv_istore_n (lv' := [(3, .int (10005 : Int32)), (2, .int x0), (1, .int (1 : Int32)), (0, .int x0)]) hx hb dX12_inverse_7 rfl hl (by decide) rfl (fun ls hl => ?_)
  obtain ⟨k0, h⟩ := h
  exact lq8 k0 _ _ _ _ _ _ h hM (lv_sub hl [2, 1, 0] rfl)
abbrev rm_X12_degreeOf : Room := { frames := 0, cells := 0, slots := 0, locals := 0 }
set_option maxRecDepth 100000 in
set_option maxHeartbeats 4000000 in
theorem ct_X12_degreeOf (l : Launch) (D : va_G) (cI cJ cZ : ClassId) (h0 : Nat) (r0 : Nat → Nat) (I_0_isFound : Int32) (I_0_foundB : Int32) (I_0_changes : Int32) (I_0_taped : Int32) (I_0_size : Int32) (I_0_at : Int32) (I_0_signs : Int32) (I_0_wanted : Int32) (I_0_sign : Int32) (I_0_isKept : Int32) (I_0_keptFound : Int32) (I_0_keptB : Int32) (I_0_keptChanges : Int32) (A_0_0_f : (Nat → Int32)) (sz : Nat) (K : Int32 → Prop) (h : wp_X12_degreeOf A_0_0_f K) : Met l yX12_degreeOf wsX12_degreeOf rm_X12_degreeOf (va_Pc [.ref h0] (WX D cI cJ cZ [(h0, .inr (11, oX12 r0 I_0_isFound I_0_foundB I_0_changes I_0_taped I_0_size I_0_at I_0_signs I_0_wanted I_0_sign I_0_isKept I_0_keptFound I_0_keptB I_0_keptChanges)), ((r0 0), .inl (cI, 5, .inl A_0_0_f))] sz)) (va_Qi (fun (r : Int32) (_ : Unit) => K r ) (fun (_ : Unit) t => WY D (va_A [(h0, .inr (11, oX12 r0 I_0_isFound I_0_foundB I_0_changes I_0_taped I_0_size I_0_at I_0_signs I_0_wanted I_0_sign I_0_isKept I_0_keptFound I_0_keptB I_0_keptChanges)), ((r0 0), .inl (cI, 5, .inl A_0_0_f))] sz) [(h0, .inr (11, oX12 r0 I_0_isFound I_0_foundB I_0_changes I_0_taped I_0_size I_0_at I_0_signs I_0_wanted I_0_sign I_0_isKept I_0_keptFound I_0_keptB I_0_keptChanges)), ((r0 0), .inl (cI, 5, .inl A_0_0_f))] t) (va_A [(h0, .inr (11, oX12 r0 I_0_isFound I_0_foundB I_0_changes I_0_taped I_0_size I_0_at I_0_signs I_0_wanted I_0_sign I_0_isKept I_0_keptFound I_0_keptB I_0_keptChanges)), ((r0 0), .inl (cI, 5, .inl A_0_0_f))] sz)) 0 0 (va_A [(h0, .inr (11, oX12 r0 I_0_isFound I_0_foundB I_0_changes I_0_taped I_0_size I_0_at I_0_signs I_0_wanted I_0_sign I_0_isKept I_0_keptFound I_0_keptB I_0_keptChanges)), ((r0 0), .inl (cI, 5, .inl A_0_0_f))] sz) := by
  refine m_met (own := RX12) (cc := cX12_degreeOf) (maxL := 2) (ret := some .int) [.ref h0] [(0, .ref h0)] (by decide) rfl rfl (Nat.le_of_ble_eq_true rfl) rfl ?_
  intro p e s m args below meth c Q A hQ hA C0 hr hnm hsz hM ls hl
  have hx := C0.1
  have hb := C0.2.1
  have hown := C0.2.2.2.1
  have lq2 : ∀ (k2 : Nat) (x1 : Int32) (H : Heap) (locs : List Loc) (ls : Array Slot) , lp_X12_degreeOf_2 A_0_0_f K k2 x1 → MW D A s.heap [(h0, .inr (11, oX12 r0 I_0_isFound I_0_foundB I_0_changes I_0_taped I_0_size I_0_at I_0_signs I_0_wanted I_0_sign I_0_isKept I_0_keptFound I_0_keptB I_0_keptChanges)), ((r0 0), .inl (cI, 5, .inl A_0_0_f))] H locs → lv_has ls 2 [(0, .ref h0), (1, .int x1)] → W p l e rm_X12_degreeOf s m args below meth c H locs 0 0 Q (F0 m 2 ls []) := by
    intro k2
    induction k2 with
    | zero =>
      intro x1 H locs ls h
      unfold lp_X12_degreeOf_2 at h
      exact h.elim
    | succ k2 ih2 =>
      intro x1 H locs ls h hM hl
      unfold lp_X12_degreeOf_2 at h
      refine lv_iload_n hx hb dX12_degreeOf_2 rfl (lv_at hl 1 rfl) ?_
      refine lv_if_lt (tgt := 21) hx hb dX12_degreeOf_3 (by decide) (fun hq => ?_) (fun hq => ?_)
      · have h := h.1 hq
        refine lv_iload_n hx hb dX12_degreeOf_21 rfl (lv_at hl 1 rfl) ?_
        subst hsz; subst hA; subst hQ
        exact m_iret C0 hr hM () h rfl dX12_degreeOf_22
      · have h := h.2 hq
        refine lv_aload_n hx hb dX12_degreeOf_6 rfl (lv_at hl 0 rfl) ?_
        refine m_get (C := RX12) (T := TX12) (N := 45) (ci := 11) (ref := "LoweredPowersModel") (v := .ref (r0 0)) C0 hM 0 rfl rfl kt_X12_degreeOf_X12 0 (by decide) kw_X12_degreeOf_1 rfl rfl dX12_degreeOf_7 ?_
        refine lv_iload_n hx hb dX12_degreeOf_10 rfl (lv_at hl 1 rfl) ?_
        obtain ⟨hc1, h⟩ := h
        refine m_iald C0 hM 1 rfl hc1 dX12_degreeOf_11 ?_
        refine lv_if_ne (tgt := 21) hx hb dX12_degreeOf_12 (by decide) (fun hq => ?_) (fun hq => ?_)
        · have h := h.1 hq
          refine lv_iload_n hx hb dX12_degreeOf_21 rfl (lv_at hl 1 rfl) ?_
          subst hsz; subst hA; subst hQ
          exact m_iret C0 hr hM () h rfl dX12_degreeOf_22
        · have h := h.2 hq
          refine lv_iinc (v := (x1 + (-1 : Int32))) (lv' := [(1, .int (x1 + (-1 : Int32))), (0, .ref h0)]) hx hb dX12_degreeOf_15 hl (k := 1) rfl rfl (by decide) rfl (fun ls hl => ?_)
          refine lv_goto (tgt := 2) hx hb dX12_degreeOf_18 (by decide) ?_
          exact ih2 _ _ _ _ h hM (lv_sub hl [1, 0] rfl)
  unfold wp_X12_degreeOf at h
  refine lv_iconst (v := (4 : Int32)) hx hb dX12_degreeOf_0 (by decide) ?_
  refine lv_istore_n (lv' := [(1, .int (4 : Int32)), (0, .ref h0)]) hx hb dX12_degreeOf_1 rfl hl (by decide) rfl (fun ls hl => ?_)
  obtain ⟨k0, h⟩ := h
  exact lq2 k0 _ _ _ _ h hM (lv_sub hl [1, 0] rfl)
abbrev rm_X12_set : Room := { frames := 2, cells := 0, slots := 0, locals := 42 }
set_option maxRecDepth 100000 in
set_option maxHeartbeats 4000000 in
theorem ct_X12_set (l : Launch) (D : va_G) (cI cJ cZ : ClassId) (h0 : Nat) (r0 : Nat → Nat) (I_0_isFound : Int32) (I_0_foundB : Int32) (I_0_changes : Int32) (I_0_taped : Int32) (I_0_size : Int32) (I_0_at : Int32) (I_0_signs : Int32) (I_0_wanted : Int32) (I_0_sign : Int32) (I_0_isKept : Int32) (I_0_keptFound : Int32) (I_0_keptB : Int32) (I_0_keptChanges : Int32) (A_0_0_f : (Nat → Int32)) (x1 : Int32) (x2 : Int32) (sz : Nat) (K : Int32 → (Nat → Int32) → Prop) (h : wp_X12_set x1 x2 A_0_0_f K) : Met l yX12_set wsX12_set rm_X12_set (va_Pc [.ref h0, .int x1, .int x2] (WX D cI cJ cZ [(h0, .inr (11, oX12 r0 I_0_isFound I_0_foundB I_0_changes I_0_taped I_0_size I_0_at I_0_signs I_0_wanted I_0_sign I_0_isKept I_0_keptFound I_0_keptB I_0_keptChanges)), ((r0 0), .inl (cI, 5, .inl A_0_0_f))] sz)) (va_Qi (fun (r : Int32) (u : (Nat → Int32)) => K r u) (fun (u : (Nat → Int32)) t => WY D (va_A [(h0, .inr (11, oX12 r0 I_0_isFound I_0_foundB I_0_changes I_0_taped I_0_size I_0_at I_0_signs I_0_wanted I_0_sign I_0_isKept I_0_keptFound I_0_keptB I_0_keptChanges)), ((r0 0), .inl (cI, 5, .inl A_0_0_f))] sz) [(h0, .inr (11, oX12 r0 I_0_isFound I_0_foundB I_0_changes I_0_taped I_0_size I_0_at I_0_signs I_0_wanted I_0_sign I_0_isKept I_0_keptFound I_0_keptB I_0_keptChanges)), ((r0 0), .inl (cI, 5, .inl u))] t) (va_A [(h0, .inr (11, oX12 r0 I_0_isFound I_0_foundB I_0_changes I_0_taped I_0_size I_0_at I_0_signs I_0_wanted I_0_sign I_0_isKept I_0_keptFound I_0_keptB I_0_keptChanges)), ((r0 0), .inl (cI, 5, .inl A_0_0_f))] sz)) 0 0 (va_A [(h0, .inr (11, oX12 r0 I_0_isFound I_0_foundB I_0_changes I_0_taped I_0_size I_0_at I_0_signs I_0_wanted I_0_sign I_0_isKept I_0_keptFound I_0_keptB I_0_keptChanges)), ((r0 0), .inl (cI, 5, .inl A_0_0_f))] sz) := by
  refine m_met (own := RX12) (cc := cX12_set) (maxL := 4) (ret := some .int) [.ref h0, .int x1, .int x2] [(0, .ref h0), (1, .int x1), (2, .int x2)] (by decide) rfl rfl (Nat.le_of_ble_eq_true rfl) rfl ?_
  intro p e s m args below meth c Q A hQ hA C0 hr hnm hsz hM ls hl
  have hx := C0.1
  have hb := C0.2.1
  have hown := C0.2.2.2.1
  unfold wp_X12_set at h
  refine lv_iload_n hx hb dX12_set_0 rfl (lv_at hl 1 rfl) ?_
  refine lv_iconst (v := (0 : Int32)) hx hb dX12_set_1 (by decide) ?_
  refine lv_iconst (v := (4 : Int32)) hx hb dX12_set_2 (by decide) ?_
  refine m_calli (wc := []) C0 hM [] rfl (m_runS (wc := []) (As := [.int x1, .int (0 : Int32), .int (4 : Int32)]) (rest := []) C0 hM (ct_X12_isIn l D cI cJ cZ x1 (0 : Int32) (4 : Int32) _ _ h) [] rfl (by decide) gX12_set_X12_isIn rfl rfl rfl hd_X12_isIn ⟨Nat.le_of_ble_eq_true rfl, Nat.le_of_ble_eq_true rfl⟩ rfl hl.1 rfl (Nat.le_of_ble_eq_true rfl) dX12_set_3 ⟨Nat.le_of_ble_eq_true rfl, Nat.le_of_ble_eq_true rfl⟩) (fun _ => [(h0, .inr (11, oX12 r0 I_0_isFound I_0_foundB I_0_changes I_0_taped I_0_size I_0_at I_0_signs I_0_wanted I_0_sign I_0_isKept I_0_keptFound I_0_keptB I_0_keptChanges)), ((r0 0), .inl (cI, 5, .inl A_0_0_f))]) (fun _ => rfl) (fun _ => rfl) (fun y1 _ H locs h hM => ?_)
  refine lv_if_ne (tgt := 11) hx hb dX12_set_6 (by decide) (fun hq => ?_) (fun hq => ?_)
  · have h := h.1 hq
    refine lv_iload_n hx hb dX12_set_11 rfl (lv_at hl 2 rfl) ?_
    refine lv_sipush (v := (-5003 : Int32)) hx hb dX12_set_12 (by decide) ?_
    refine lv_sipush (v := (5003 : Int32)) hx hb dX12_set_15 (by decide) ?_
    refine m_calli (wc := []) C0 hM [] rfl (m_runS (wc := []) (As := [.int x2, .int (-5003 : Int32), .int (5003 : Int32)]) (rest := []) C0 hM (ct_X12_isIn l D cI cJ cZ x2 (-5003 : Int32) (5003 : Int32) _ _ h) [] rfl (by decide) gX12_set_X12_isIn rfl rfl rfl hd_X12_isIn ⟨Nat.le_of_ble_eq_true rfl, Nat.le_of_ble_eq_true rfl⟩ rfl hl.1 rfl (Nat.le_of_ble_eq_true rfl) dX12_set_18 ⟨Nat.le_of_ble_eq_true rfl, Nat.le_of_ble_eq_true rfl⟩) (fun _ => [(h0, .inr (11, oX12 r0 I_0_isFound I_0_foundB I_0_changes I_0_taped I_0_size I_0_at I_0_signs I_0_wanted I_0_sign I_0_isKept I_0_keptFound I_0_keptB I_0_keptChanges)), ((r0 0), .inl (cI, 5, .inl A_0_0_f))]) (fun _ => rfl) (fun _ => rfl) (fun y2 _ H locs h hM => ?_)
    refine lv_if_ne (tgt := 27) hx hb dX12_set_21 (by decide) (fun hq => ?_) (fun hq => ?_)
    · have h := h.1 hq
      refine lv_aload_n hx hb dX12_set_27 rfl (lv_at hl 0 rfl) ?_
      refine m_get (C := RX12) (T := TX12) (N := 45) (ci := 11) (ref := "LoweredPowersModel") (v := .ref (r0 0)) C0 hM 0 rfl rfl kt_X12_set_X12 0 (by decide) kw_X12_set_1 rfl rfl dX12_set_28 ?_
      refine lv_iload_n hx hb dX12_set_31 rfl (lv_at hl 1 rfl) ?_
      obtain ⟨hc3, h⟩ := h
      refine m_iald C0 hM 1 rfl hc3 dX12_set_32 ?_
      refine lv_topi (fun y4 ey4 => ?_)
      have h := h y4 ey4
      refine lv_istore_n (lv' := [(3, .int y4), (0, .ref h0), (1, .int x1), (2, .int x2)]) hx hb dX12_set_33 rfl hl (by decide) rfl (fun ls hl => ?_)
      refine lv_aload_n hx hb dX12_set_34 rfl (lv_at hl 1 rfl) ?_
      refine m_get (C := RX12) (T := TX12) (N := 45) (ci := 11) (ref := "LoweredPowersModel") (v := .ref (r0 0)) C0 hM 0 rfl rfl kt_X12_set_X12 0 (by decide) kw_X12_set_1 rfl rfl dX12_set_35 ?_
      refine lv_iload_n hx hb dX12_set_38 rfl (lv_at hl 2 rfl) ?_
      refine lv_iload_n hx hb dX12_set_39 rfl (lv_at hl 3 rfl) ?_
      refine m_calli (wc := []) C0 hM [] rfl (m_runS (wc := []) (As := [.int x2]) (rest := [.int x1, .ref (r0 0)]) C0 hM (ct_X12_modulo l D cI cJ cZ x2 _ _ h) [] rfl (by decide) gX12_set_X12_modulo rfl rfl rfl hd_X12_modulo ⟨Nat.le_of_ble_eq_true rfl, Nat.le_of_ble_eq_true rfl⟩ rfl hl.1 rfl (Nat.le_of_ble_eq_true rfl) dX12_set_40 ⟨Nat.le_of_ble_eq_true rfl, Nat.le_of_ble_eq_true rfl⟩) (fun _ => [(h0, .inr (11, oX12 r0 I_0_isFound I_0_foundB I_0_changes I_0_taped I_0_size I_0_at I_0_signs I_0_wanted I_0_sign I_0_isKept I_0_keptFound I_0_keptB I_0_keptChanges)), ((r0 0), .inl (cI, 5, .inl A_0_0_f))]) (fun _ => rfl) (fun _ => rfl) (fun y5 _ H locs h hM => ?_)
      refine m_iast (ws' := [(h0, .inr (11, oX12 r0 I_0_isFound I_0_foundB I_0_changes I_0_taped I_0_size I_0_at I_0_signs I_0_wanted I_0_sign I_0_isKept I_0_keptFound I_0_keptB I_0_keptChanges)), ((r0 0), .inl (cI, 5, .inl (upd A_0_0_f (x1).toNatClampNeg y5)))]) C0 hM 1 rfl hc3 rfl dX12_set_43 (fun H locs hM => ?_)
      refine lv_iload_n hx hb dX12_set_44 rfl (lv_at hl 0 rfl) ?_
      refine m_calli (wc := []) C0 hM [] rfl (m_runS (wc := []) (As := [.int y4]) (rest := []) C0 hM (ct_X12_told l D cI cJ cZ y4 _ _ h) [] rfl (by decide) gX12_set_X12_told rfl rfl rfl hd_X12_told ⟨Nat.le_of_ble_eq_true rfl, Nat.le_of_ble_eq_true rfl⟩ rfl hl.1 rfl (Nat.le_of_ble_eq_true rfl) dX12_set_45 ⟨Nat.le_of_ble_eq_true rfl, Nat.le_of_ble_eq_true rfl⟩) (fun _ => [(h0, .inr (11, oX12 r0 I_0_isFound I_0_foundB I_0_changes I_0_taped I_0_size I_0_at I_0_signs I_0_wanted I_0_sign I_0_isKept I_0_keptFound I_0_keptB I_0_keptChanges)), ((r0 0), .inl (cI, 5, .inl (upd A_0_0_f (x1).toNatClampNeg y5)))]) (fun _ => rfl) (fun _ => rfl) (fun y6 _ H locs h hM => ?_)
      subst hsz; subst hA; subst hQ
      exact m_iret C0 hr hM (upd A_0_0_f (x1).toNatClampNeg y5) h rfl dX12_set_48
    · have h := h.2 hq
      refine lv_bipush (v := (-2 : Int32)) hx hb dX12_set_24 (by decide) ?_
      subst hsz; subst hA; subst hQ
      exact m_iret C0 hr hM A_0_0_f h rfl dX12_set_26
  · have h := h.2 hq
    refine lv_iconst (v := (-1 : Int32)) hx hb dX12_set_9 (by decide) ?_
    subst hsz; subst hA; subst hQ
    exact m_iret C0 hr hM A_0_0_f h rfl dX12_set_10
abbrev rm_X12_of : Room := { frames := 2, cells := 0, slots := 0, locals := 40 }
set_option maxRecDepth 100000 in
set_option maxHeartbeats 4000000 in
theorem ct_X12_of (l : Launch) (D : va_G) (cI cJ cZ : ClassId) (h0 : Nat) (r0 : Nat → Nat) (I_0_isFound : Int32) (I_0_foundB : Int32) (I_0_changes : Int32) (I_0_taped : Int32) (I_0_size : Int32) (I_0_at : Int32) (I_0_signs : Int32) (I_0_wanted : Int32) (I_0_sign : Int32) (I_0_isKept : Int32) (I_0_keptFound : Int32) (I_0_keptB : Int32) (I_0_keptChanges : Int32) (A_0_0_f : (Nat → Int32)) (x1 : Int32) (sz : Nat) (K : Int32 → Prop) (h : wp_X12_of x1 A_0_0_f K) : Met l yX12_of wsX12_of rm_X12_of (va_Pc [.ref h0, .int x1] (WX D cI cJ cZ [(h0, .inr (11, oX12 r0 I_0_isFound I_0_foundB I_0_changes I_0_taped I_0_size I_0_at I_0_signs I_0_wanted I_0_sign I_0_isKept I_0_keptFound I_0_keptB I_0_keptChanges)), ((r0 0), .inl (cI, 5, .inl A_0_0_f))] sz)) (va_Qi (fun (r : Int32) (_ : Unit) => K r ) (fun (_ : Unit) t => WY D (va_A [(h0, .inr (11, oX12 r0 I_0_isFound I_0_foundB I_0_changes I_0_taped I_0_size I_0_at I_0_signs I_0_wanted I_0_sign I_0_isKept I_0_keptFound I_0_keptB I_0_keptChanges)), ((r0 0), .inl (cI, 5, .inl A_0_0_f))] sz) [(h0, .inr (11, oX12 r0 I_0_isFound I_0_foundB I_0_changes I_0_taped I_0_size I_0_at I_0_signs I_0_wanted I_0_sign I_0_isKept I_0_keptFound I_0_keptB I_0_keptChanges)), ((r0 0), .inl (cI, 5, .inl A_0_0_f))] t) (va_A [(h0, .inr (11, oX12 r0 I_0_isFound I_0_foundB I_0_changes I_0_taped I_0_size I_0_at I_0_signs I_0_wanted I_0_sign I_0_isKept I_0_keptFound I_0_keptB I_0_keptChanges)), ((r0 0), .inl (cI, 5, .inl A_0_0_f))] sz)) 0 0 (va_A [(h0, .inr (11, oX12 r0 I_0_isFound I_0_foundB I_0_changes I_0_taped I_0_size I_0_at I_0_signs I_0_wanted I_0_sign I_0_isKept I_0_keptFound I_0_keptB I_0_keptChanges)), ((r0 0), .inl (cI, 5, .inl A_0_0_f))] sz) := by
  refine m_met (own := RX12) (cc := cX12_of) (maxL := 2) (ret := some .int) [.ref h0, .int x1] [(0, .ref h0), (1, .int x1)] (by decide) rfl rfl (Nat.le_of_ble_eq_true rfl) rfl ?_
  intro p e s m args below meth c Q A hQ hA C0 hr hnm hsz hM ls hl
  have hx := C0.1
  have hb := C0.2.1
  have hown := C0.2.2.2.1
  unfold wp_X12_of at h
  refine lv_iload_n hx hb dX12_of_0 rfl (lv_at hl 1 rfl) ?_
  refine lv_iconst (v := (0 : Int32)) hx hb dX12_of_1 (by decide) ?_
  refine lv_iconst (v := (4 : Int32)) hx hb dX12_of_2 (by decide) ?_
  refine m_calli (wc := []) C0 hM [] rfl (m_runS (wc := []) (As := [.int x1, .int (0 : Int32), .int (4 : Int32)]) (rest := []) C0 hM (ct_X12_isIn l D cI cJ cZ x1 (0 : Int32) (4 : Int32) _ _ h) [] rfl (by decide) gX12_of_X12_isIn rfl rfl rfl hd_X12_isIn ⟨Nat.le_of_ble_eq_true rfl, Nat.le_of_ble_eq_true rfl⟩ rfl hl.1 rfl (Nat.le_of_ble_eq_true rfl) dX12_of_3 ⟨Nat.le_of_ble_eq_true rfl, Nat.le_of_ble_eq_true rfl⟩) (fun _ => [(h0, .inr (11, oX12 r0 I_0_isFound I_0_foundB I_0_changes I_0_taped I_0_size I_0_at I_0_signs I_0_wanted I_0_sign I_0_isKept I_0_keptFound I_0_keptB I_0_keptChanges)), ((r0 0), .inl (cI, 5, .inl A_0_0_f))]) (fun _ => rfl) (fun _ => rfl) (fun y1 _ H locs h hM => ?_)
  refine lv_if_eq (tgt := 21) hx hb dX12_of_6 (by decide) (fun hq => ?_) (fun hq => ?_)
  · have h := h.1 hq
    refine lv_iconst (v := (-1 : Int32)) hx hb dX12_of_21 (by decide) ?_
    subst hsz; subst hA; subst hQ
    exact m_iret C0 hr hM () h rfl dX12_of_22
  · have h := h.2 hq
    refine lv_aload_n hx hb dX12_of_9 rfl (lv_at hl 0 rfl) ?_
    refine m_get (C := RX12) (T := TX12) (N := 45) (ci := 11) (ref := "LoweredPowersModel") (v := .ref (r0 0)) C0 hM 0 rfl rfl kt_X12_of_X12 0 (by decide) kw_X12_of_1 rfl rfl dX12_of_10 ?_
    refine lv_iload_n hx hb dX12_of_13 rfl (lv_at hl 1 rfl) ?_
    obtain ⟨hc2, h⟩ := h
    refine m_iald C0 hM 1 rfl hc2 dX12_of_14 ?_
    refine m_calli (wc := []) C0 hM [] rfl (m_runS (wc := []) (As := [.int (A_0_0_f (x1).toNatClampNeg)]) (rest := []) C0 hM (ct_X12_told l D cI cJ cZ (A_0_0_f (x1).toNatClampNeg) _ _ h) [] rfl (by decide) gX12_of_X12_told rfl rfl rfl hd_X12_told ⟨Nat.le_of_ble_eq_true rfl, Nat.le_of_ble_eq_true rfl⟩ rfl hl.1 rfl (Nat.le_of_ble_eq_true rfl) dX12_of_15 ⟨Nat.le_of_ble_eq_true rfl, Nat.le_of_ble_eq_true rfl⟩) (fun _ => [(h0, .inr (11, oX12 r0 I_0_isFound I_0_foundB I_0_changes I_0_taped I_0_size I_0_at I_0_signs I_0_wanted I_0_sign I_0_isKept I_0_keptFound I_0_keptB I_0_keptChanges)), ((r0 0), .inl (cI, 5, .inl A_0_0_f))]) (fun _ => rfl) (fun _ => rfl) (fun y3 _ H locs h hM => ?_)
    refine lv_goto (tgt := 22) hx hb dX12_of_18 (by decide) ?_
    subst hsz; subst hA; subst hQ
    exact m_iret C0 hr hM () h rfl dX12_of_22
abbrev rm_X12_degree : Room := { frames := 1, cells := 0, slots := 0, locals := 21 }
set_option maxRecDepth 100000 in
set_option maxHeartbeats 4000000 in
theorem ct_X12_degree (l : Launch) (D : va_G) (cI cJ cZ : ClassId) (h0 : Nat) (r0 : Nat → Nat) (I_0_isFound : Int32) (I_0_foundB : Int32) (I_0_changes : Int32) (I_0_taped : Int32) (I_0_size : Int32) (I_0_at : Int32) (I_0_signs : Int32) (I_0_wanted : Int32) (I_0_sign : Int32) (I_0_isKept : Int32) (I_0_keptFound : Int32) (I_0_keptB : Int32) (I_0_keptChanges : Int32) (A_0_0_f : (Nat → Int32)) (sz : Nat) (K : Int32 → Prop) (h : wp_X12_degree A_0_0_f K) : Met l yX12_degree wsX12_degree rm_X12_degree (va_Pc [.ref h0] (WX D cI cJ cZ [(h0, .inr (11, oX12 r0 I_0_isFound I_0_foundB I_0_changes I_0_taped I_0_size I_0_at I_0_signs I_0_wanted I_0_sign I_0_isKept I_0_keptFound I_0_keptB I_0_keptChanges)), ((r0 0), .inl (cI, 5, .inl A_0_0_f))] sz)) (va_Qi (fun (r : Int32) (_ : Unit) => K r ) (fun (_ : Unit) t => WY D (va_A [(h0, .inr (11, oX12 r0 I_0_isFound I_0_foundB I_0_changes I_0_taped I_0_size I_0_at I_0_signs I_0_wanted I_0_sign I_0_isKept I_0_keptFound I_0_keptB I_0_keptChanges)), ((r0 0), .inl (cI, 5, .inl A_0_0_f))] sz) [(h0, .inr (11, oX12 r0 I_0_isFound I_0_foundB I_0_changes I_0_taped I_0_size I_0_at I_0_signs I_0_wanted I_0_sign I_0_isKept I_0_keptFound I_0_keptB I_0_keptChanges)), ((r0 0), .inl (cI, 5, .inl A_0_0_f))] t) (va_A [(h0, .inr (11, oX12 r0 I_0_isFound I_0_foundB I_0_changes I_0_taped I_0_size I_0_at I_0_signs I_0_wanted I_0_sign I_0_isKept I_0_keptFound I_0_keptB I_0_keptChanges)), ((r0 0), .inl (cI, 5, .inl A_0_0_f))] sz)) 0 0 (va_A [(h0, .inr (11, oX12 r0 I_0_isFound I_0_foundB I_0_changes I_0_taped I_0_size I_0_at I_0_signs I_0_wanted I_0_sign I_0_isKept I_0_keptFound I_0_keptB I_0_keptChanges)), ((r0 0), .inl (cI, 5, .inl A_0_0_f))] sz) := by
  refine m_met (own := RX12) (cc := cX12_degree) (maxL := 1) (ret := some .int) [.ref h0] [(0, .ref h0)] (by decide) rfl rfl (Nat.le_of_ble_eq_true rfl) rfl ?_
  intro p e s m args below meth c Q A hQ hA C0 hr hnm hsz hM ls hl
  have hx := C0.1
  have hb := C0.2.1
  have hown := C0.2.2.2.1
  unfold wp_X12_degree at h
  refine lv_aload_n hx hb dX12_degree_0 rfl (lv_at hl 0 rfl) ?_
  refine m_calli (wc := [(h0, .inr (11, oX12 r0 I_0_isFound I_0_foundB I_0_changes I_0_taped I_0_size I_0_at I_0_signs I_0_wanted I_0_sign I_0_isKept I_0_keptFound I_0_keptB I_0_keptChanges)), ((r0 0), .inl (cI, 5, .inl A_0_0_f))]) C0 hM [0, 1] rfl (m_runV (wc := [(h0, .inr (11, oX12 r0 I_0_isFound I_0_foundB I_0_changes I_0_taped I_0_size I_0_at I_0_signs I_0_wanted I_0_sign I_0_isKept I_0_keptFound I_0_keptB I_0_keptChanges)), ((r0 0), .inl (cI, 5, .inl A_0_0_f))]) (As := []) (rest := []) (ci := 11) C0 hM (ct_X12_degreeOf l D cI cJ cZ h0 r0 I_0_isFound I_0_foundB I_0_changes I_0_taped I_0_size I_0_at I_0_signs I_0_wanted I_0_sign I_0_isKept I_0_keptFound I_0_keptB I_0_keptChanges A_0_0_f _ _ h) [0, 1] rfl (by decide) gX12_degree_X12_degreeOf rfl rfl rfl rfl rfl hd_X12_degreeOf ⟨Nat.le_of_ble_eq_true rfl, Nat.le_of_ble_eq_true rfl⟩ rfl hl.1 rfl (Nat.le_of_ble_eq_true rfl) dX12_degree_1 ⟨Nat.le_of_ble_eq_true rfl, Nat.le_of_ble_eq_true rfl⟩) (fun _ => [(h0, .inr (11, oX12 r0 I_0_isFound I_0_foundB I_0_changes I_0_taped I_0_size I_0_at I_0_signs I_0_wanted I_0_sign I_0_isKept I_0_keptFound I_0_keptB I_0_keptChanges)), ((r0 0), .inl (cI, 5, .inl A_0_0_f))]) (fun _ => rfl) (fun _ => rfl) (fun y1 _ H locs h hM => ?_)
  subst hsz; subst hA; subst hQ
  exact m_iret C0 hr hM () h rfl dX12_degree_4
abbrev rm_X12_isNumber : Room := { frames := 1, cells := 0, slots := 0, locals := 22 }
set_option maxRecDepth 100000 in
set_option maxHeartbeats 4000000 in
theorem ct_X12_isNumber (l : Launch) (D : va_G) (cI cJ cZ : ClassId) (x0 : Int32) (x1 : Int32) (x2 : Int32) (sz : Nat) (K : Int32 → Prop) (h : wp_X12_isNumber x0 x1 x2 K) : Met l yX12_isNumber wsX12_isNumber rm_X12_isNumber (va_Pc [.int x0, .int x1, .int x2] (WX D cI cJ cZ [] sz)) (va_Qi (fun (r : Int32) (_ : Unit) => K r ) (fun (_ : Unit) t => WY D (va_A [] sz) [] t) (va_A [] sz)) 0 0 (va_A [] sz) := by
  refine m_met (own := RX12) (cc := cX12_isNumber) (maxL := 3) (ret := some .boolean) [.int x0, .int x1, .int x2] [(0, .int x0), (1, .int x1), (2, .int x2)] (by decide) rfl rfl (Nat.le_of_ble_eq_true rfl) rfl ?_
  intro p e s m args below meth c Q A hQ hA C0 hr hnm hsz hM ls hl
  have hx := C0.1
  have hb := C0.2.1
  have hown := C0.2.2.2.1
  unfold wp_X12_isNumber at h
  refine lv_iload_n hx hb dX12_isNumber_0 rfl (lv_at hl 0 rfl) ?_
  refine lv_iconst (v := (0 : Int32)) hx hb dX12_isNumber_1 (by decide) ?_
  refine lv_iconst (v := (4 : Int32)) hx hb dX12_isNumber_2 (by decide) ?_
  refine m_calli (wc := []) C0 hM [] rfl (m_runS (wc := []) (As := [.int x0, .int (0 : Int32), .int (4 : Int32)]) (rest := []) C0 hM (ct_X12_isIn l D cI cJ cZ x0 (0 : Int32) (4 : Int32) _ _ h) [] rfl (by decide) gX12_isNumber_X12_isIn rfl rfl rfl hd_X12_isIn ⟨Nat.le_of_ble_eq_true rfl, Nat.le_of_ble_eq_true rfl⟩ rfl hl.1 rfl (Nat.le_of_ble_eq_true rfl) dX12_isNumber_3 ⟨Nat.le_of_ble_eq_true rfl, Nat.le_of_ble_eq_true rfl⟩) (fun _ => []) (fun _ => rfl) (fun _ => rfl) (fun y1 _ H locs h hM => ?_)
  refine lv_if_eq (tgt := 31) hx hb dX12_isNumber_6 (by decide) (fun hq => ?_) (fun hq => ?_)
  · have h := h.1 hq
    refine lv_iconst (v := (0 : Int32)) hx hb dX12_isNumber_31 (by decide) ?_
    subst hsz; subst hA; subst hQ
    exact m_zret C0 hr hM rfl () h rfl dX12_isNumber_32
  · have h := h.2 hq
    refine lv_iload_n hx hb dX12_isNumber_9 rfl (lv_at hl 1 rfl) ?_
    refine lv_iconst (v := (0 : Int32)) hx hb dX12_isNumber_10 (by decide) ?_
    refine lv_iconst (v := (4 : Int32)) hx hb dX12_isNumber_11 (by decide) ?_
    refine m_calli (wc := []) C0 hM [] rfl (m_runS (wc := []) (As := [.int x1, .int (0 : Int32), .int (4 : Int32)]) (rest := []) C0 hM (ct_X12_isIn l D cI cJ cZ x1 (0 : Int32) (4 : Int32) _ _ h) [] rfl (by decide) gX12_isNumber_X12_isIn rfl rfl rfl hd_X12_isIn ⟨Nat.le_of_ble_eq_true rfl, Nat.le_of_ble_eq_true rfl⟩ rfl hl.1 rfl (Nat.le_of_ble_eq_true rfl) dX12_isNumber_12 ⟨Nat.le_of_ble_eq_true rfl, Nat.le_of_ble_eq_true rfl⟩) (fun _ => []) (fun _ => rfl) (fun _ => rfl) (fun y2 _ H locs h hM => ?_)
    refine lv_if_eq (tgt := 31) hx hb dX12_isNumber_15 (by decide) (fun hq => ?_) (fun hq => ?_)
    · have h := h.1 hq
      refine lv_iconst (v := (0 : Int32)) hx hb dX12_isNumber_31 (by decide) ?_
      subst hsz; subst hA; subst hQ
      exact m_zret C0 hr hM rfl () h rfl dX12_isNumber_32
    · have h := h.2 hq
      refine lv_iload_n hx hb dX12_isNumber_18 rfl (lv_at hl 2 rfl) ?_
      refine lv_iconst (v := (0 : Int32)) hx hb dX12_isNumber_19 (by decide) ?_
      refine lv_iconst (v := (2 : Int32)) hx hb dX12_isNumber_20 (by decide) ?_
      refine m_calli (wc := []) C0 hM [] rfl (m_runS (wc := []) (As := [.int x2, .int (0 : Int32), .int (2 : Int32)]) (rest := []) C0 hM (ct_X12_isIn l D cI cJ cZ x2 (0 : Int32) (2 : Int32) _ _ h) [] rfl (by decide) gX12_isNumber_X12_isIn rfl rfl rfl hd_X12_isIn ⟨Nat.le_of_ble_eq_true rfl, Nat.le_of_ble_eq_true rfl⟩ rfl hl.1 rfl (Nat.le_of_ble_eq_true rfl) dX12_isNumber_21 ⟨Nat.le_of_ble_eq_true rfl, Nat.le_of_ble_eq_true rfl⟩) (fun _ => []) (fun _ => rfl) (fun _ => rfl) (fun y3 _ H locs h hM => ?_)
      refine lv_if_eq (tgt := 31) hx hb dX12_isNumber_24 (by decide) (fun hq => ?_) (fun hq => ?_)
      · have h := h.1 hq
        refine lv_iconst (v := (0 : Int32)) hx hb dX12_isNumber_31 (by decide) ?_
        subst hsz; subst hA; subst hQ
        exact m_zret C0 hr hM rfl () h rfl dX12_isNumber_32
      · have h := h.2 hq
        refine lv_iconst (v := (1 : Int32)) hx hb dX12_isNumber_27 (by decide) ?_
        refine lv_goto (tgt := 32) hx hb dX12_isNumber_28 (by decide) ?_
        subst hsz; subst hA; subst hQ
        exact m_zret C0 hr hM rfl () h rfl dX12_isNumber_32
abbrev rm_X12_placeOf : Room := { frames := 0, cells := 0, slots := 0, locals := 0 }
set_option maxRecDepth 100000 in
set_option maxHeartbeats 4000000 in
theorem ct_X12_placeOf (l : Launch) (D : va_G) (cI cJ cZ : ClassId) (x0 : Int32) (x1 : Int32) (x2 : Int32) (sz : Nat) (K : Int32 → Prop) (h : wp_X12_placeOf x0 x1 x2 K) : Met l yX12_placeOf wsX12_placeOf rm_X12_placeOf (va_Pc [.int x0, .int x1, .int x2] (WX D cI cJ cZ [] sz)) (va_Qi (fun (r : Int32) (_ : Unit) => K r ) (fun (_ : Unit) t => WY D (va_A [] sz) [] t) (va_A [] sz)) 0 0 (va_A [] sz) := by
  refine m_met (own := RX12) (cc := cX12_placeOf) (maxL := 3) (ret := some .int) [.int x0, .int x1, .int x2] [(0, .int x0), (1, .int x1), (2, .int x2)] (by decide) rfl rfl (Nat.le_of_ble_eq_true rfl) rfl ?_
  intro p e s m args below meth c Q A hQ hA C0 hr hnm hsz hM ls hl
  have hx := C0.1
  have hb := C0.2.1
  have hown := C0.2.2.2.1
  unfold wp_X12_placeOf at h
  refine lv_bipush (v := (15 : Int32)) hx hb dX12_placeOf_0 (by decide) ?_
  refine lv_iload_n hx hb dX12_placeOf_2 rfl (lv_at hl 0 rfl) ?_
  refine lv_imul hx hb dX12_placeOf_3 ?_
  refine lv_iconst (v := (3 : Int32)) hx hb dX12_placeOf_4 (by decide) ?_
  refine lv_iload_n hx hb dX12_placeOf_5 rfl (lv_at hl 1 rfl) ?_
  refine lv_imul hx hb dX12_placeOf_6 ?_
  refine lv_iadd hx hb dX12_placeOf_7 ?_
  refine lv_iload_n hx hb dX12_placeOf_8 rfl (lv_at hl 2 rfl) ?_
  refine lv_iadd hx hb dX12_placeOf_9 ?_
  subst hsz; subst hA; subst hQ
  exact m_iret C0 hr hM () h rfl dX12_placeOf_10
abbrev rm_X12_put : Room := { frames := 2, cells := 0, slots := 0, locals := 44 }
set_option maxRecDepth 100000 in
set_option maxHeartbeats 4000000 in
theorem ct_X12_put (l : Launch) (D : va_G) (cI cJ cZ : ClassId) (h0 : Nat) (r0 : Nat → Nat) (I_0_isFound : Int32) (I_0_foundB : Int32) (I_0_changes : Int32) (I_0_taped : Int32) (I_0_size : Int32) (I_0_at : Int32) (I_0_signs : Int32) (I_0_wanted : Int32) (I_0_sign : Int32) (I_0_isKept : Int32) (I_0_keptFound : Int32) (I_0_keptB : Int32) (I_0_keptChanges : Int32) (A_0_1_operator : (Nat → Int32)) (x1 : Int32) (x2 : Int32) (x3 : Int32) (x4 : Int32) (sz : Nat) (K : Int32 → (Nat → Int32) → Prop) (h : wp_X12_put x1 x2 x3 x4 A_0_1_operator K) : Met l yX12_put wsX12_put rm_X12_put (va_Pc [.ref h0, .int x1, .int x2, .int x3, .int x4] (WX D cI cJ cZ [(h0, .inr (11, oX12 r0 I_0_isFound I_0_foundB I_0_changes I_0_taped I_0_size I_0_at I_0_signs I_0_wanted I_0_sign I_0_isKept I_0_keptFound I_0_keptB I_0_keptChanges)), ((r0 1), .inl (cI, 75, .inl A_0_1_operator))] sz)) (va_Qi (fun (r : Int32) (u : (Nat → Int32)) => K r u) (fun (u : (Nat → Int32)) t => WY D (va_A [(h0, .inr (11, oX12 r0 I_0_isFound I_0_foundB I_0_changes I_0_taped I_0_size I_0_at I_0_signs I_0_wanted I_0_sign I_0_isKept I_0_keptFound I_0_keptB I_0_keptChanges)), ((r0 1), .inl (cI, 75, .inl A_0_1_operator))] sz) [(h0, .inr (11, oX12 r0 I_0_isFound I_0_foundB I_0_changes I_0_taped I_0_size I_0_at I_0_signs I_0_wanted I_0_sign I_0_isKept I_0_keptFound I_0_keptB I_0_keptChanges)), ((r0 1), .inl (cI, 75, .inl u))] t) (va_A [(h0, .inr (11, oX12 r0 I_0_isFound I_0_foundB I_0_changes I_0_taped I_0_size I_0_at I_0_signs I_0_wanted I_0_sign I_0_isKept I_0_keptFound I_0_keptB I_0_keptChanges)), ((r0 1), .inl (cI, 75, .inl A_0_1_operator))] sz)) 0 0 (va_A [(h0, .inr (11, oX12 r0 I_0_isFound I_0_foundB I_0_changes I_0_taped I_0_size I_0_at I_0_signs I_0_wanted I_0_sign I_0_isKept I_0_keptFound I_0_keptB I_0_keptChanges)), ((r0 1), .inl (cI, 75, .inl A_0_1_operator))] sz) := by
  refine m_met (own := RX12) (cc := cX12_put) (maxL := 6) (ret := some .int) [.ref h0, .int x1, .int x2, .int x3, .int x4] [(0, .ref h0), (1, .int x1), (2, .int x2), (3, .int x3), (4, .int x4)] (by decide) rfl rfl (Nat.le_of_ble_eq_true rfl) rfl ?_
  intro p e s m args below meth c Q A hQ hA C0 hr hnm hsz hM ls hl
  have hx := C0.1
  have hb := C0.2.1
  have hown := C0.2.2.2.1
  unfold wp_X12_put at h
  refine lv_iload_n hx hb dX12_put_0 rfl (lv_at hl 1 rfl) ?_
  refine lv_iload_n hx hb dX12_put_1 rfl (lv_at hl 2 rfl) ?_
  refine lv_iload_n hx hb dX12_put_2 rfl (lv_at hl 3 rfl) ?_
  refine m_calli (wc := []) C0 hM [] rfl (m_runS (wc := []) (As := [.int x1, .int x2, .int x3]) (rest := []) C0 hM (ct_X12_isNumber l D cI cJ cZ x1 x2 x3 _ _ h) [] rfl (by decide) gX12_put_X12_isNumber rfl rfl rfl hd_X12_isNumber ⟨Nat.le_of_ble_eq_true rfl, Nat.le_of_ble_eq_true rfl⟩ rfl hl.1 rfl (Nat.le_of_ble_eq_true rfl) dX12_put_3 ⟨Nat.le_of_ble_eq_true rfl, Nat.le_of_ble_eq_true rfl⟩) (fun _ => [(h0, .inr (11, oX12 r0 I_0_isFound I_0_foundB I_0_changes I_0_taped I_0_size I_0_at I_0_signs I_0_wanted I_0_sign I_0_isKept I_0_keptFound I_0_keptB I_0_keptChanges)), ((r0 1), .inl (cI, 75, .inl A_0_1_operator))]) (fun _ => rfl) (fun _ => rfl) (fun y1 _ H locs h hM => ?_)
  refine lv_if_ne (tgt := 11) hx hb dX12_put_6 (by decide) (fun hq => ?_) (fun hq => ?_)
  · have h := h.1 hq
    refine lv_iload hx hb dX12_put_11 (lv_at hl 4 rfl) ?_
    refine lv_sipush (v := (-5003 : Int32)) hx hb dX12_put_13 (by decide) ?_
    refine lv_sipush (v := (5003 : Int32)) hx hb dX12_put_16 (by decide) ?_
    refine m_calli (wc := []) C0 hM [] rfl (m_runS (wc := []) (As := [.int x4, .int (-5003 : Int32), .int (5003 : Int32)]) (rest := []) C0 hM (ct_X12_isIn l D cI cJ cZ x4 (-5003 : Int32) (5003 : Int32) _ _ h) [] rfl (by decide) gX12_put_X12_isIn rfl rfl rfl hd_X12_isIn ⟨Nat.le_of_ble_eq_true rfl, Nat.le_of_ble_eq_true rfl⟩ rfl hl.1 rfl (Nat.le_of_ble_eq_true rfl) dX12_put_19 ⟨Nat.le_of_ble_eq_true rfl, Nat.le_of_ble_eq_true rfl⟩) (fun _ => [(h0, .inr (11, oX12 r0 I_0_isFound I_0_foundB I_0_changes I_0_taped I_0_size I_0_at I_0_signs I_0_wanted I_0_sign I_0_isKept I_0_keptFound I_0_keptB I_0_keptChanges)), ((r0 1), .inl (cI, 75, .inl A_0_1_operator))]) (fun _ => rfl) (fun _ => rfl) (fun y2 _ H locs h hM => ?_)
    refine lv_if_ne (tgt := 28) hx hb dX12_put_22 (by decide) (fun hq => ?_) (fun hq => ?_)
    · have h := h.1 hq
      refine lv_aload_n hx hb dX12_put_28 rfl (lv_at hl 0 rfl) ?_
      refine m_get (C := RX12) (T := TX12) (N := 45) (ci := 11) (ref := "LoweredPowersModel") (v := .ref (r0 1)) C0 hM 0 rfl rfl kt_X12_put_X12 1 (by decide) kw_X12_put_1 rfl rfl dX12_put_29 ?_
      refine lv_iload_n hx hb dX12_put_32 rfl (lv_at hl 1 rfl) ?_
      refine lv_iload_n hx hb dX12_put_33 rfl (lv_at hl 2 rfl) ?_
      refine lv_iload_n hx hb dX12_put_34 rfl (lv_at hl 3 rfl) ?_
      refine m_calli (wc := []) C0 hM [] rfl (m_runS (wc := []) (As := [.int x1, .int x2, .int x3]) (rest := [.ref (r0 1)]) C0 hM (ct_X12_placeOf l D cI cJ cZ x1 x2 x3 _ _ h) [] rfl (by decide) gX12_put_X12_placeOf rfl rfl rfl hd_X12_placeOf ⟨Nat.le_of_ble_eq_true rfl, Nat.le_of_ble_eq_true rfl⟩ rfl hl.1 rfl (Nat.le_of_ble_eq_true rfl) dX12_put_35 ⟨Nat.le_of_ble_eq_true rfl, Nat.le_of_ble_eq_true rfl⟩) (fun _ => [(h0, .inr (11, oX12 r0 I_0_isFound I_0_foundB I_0_changes I_0_taped I_0_size I_0_at I_0_signs I_0_wanted I_0_sign I_0_isKept I_0_keptFound I_0_keptB I_0_keptChanges)), ((r0 1), .inl (cI, 75, .inl A_0_1_operator))]) (fun _ => rfl) (fun _ => rfl) (fun y3 _ H locs h hM => ?_)
      obtain ⟨hc4, h⟩ := h
      refine m_iald C0 hM 1 rfl hc4 dX12_put_38 ?_
      refine lv_topi (fun y5 ey5 => ?_)
      have h := h y5 ey5
      refine lv_istore (lv' := [(5, .int y5), (0, .ref h0), (1, .int x1), (2, .int x2), (3, .int x3), (4, .int x4)]) hx hb dX12_put_39 hl (by decide) rfl (fun ls hl => ?_)
      refine lv_aload_n hx hb dX12_put_41 rfl (lv_at hl 1 rfl) ?_
      refine m_get (C := RX12) (T := TX12) (N := 45) (ci := 11) (ref := "LoweredPowersModel") (v := .ref (r0 1)) C0 hM 0 rfl rfl kt_X12_put_X12 1 (by decide) kw_X12_put_1 rfl rfl dX12_put_42 ?_
      refine lv_iload_n hx hb dX12_put_45 rfl (lv_at hl 2 rfl) ?_
      refine lv_iload_n hx hb dX12_put_46 rfl (lv_at hl 3 rfl) ?_
      refine lv_iload_n hx hb dX12_put_47 rfl (lv_at hl 4 rfl) ?_
      refine m_calli (wc := []) C0 hM [] rfl (m_runS (wc := []) (As := [.int x1, .int x2, .int x3]) (rest := [.ref (r0 1)]) C0 hM (ct_X12_placeOf l D cI cJ cZ x1 x2 x3 _ _ h) [] rfl (by decide) gX12_put_X12_placeOf rfl rfl rfl hd_X12_placeOf ⟨Nat.le_of_ble_eq_true rfl, Nat.le_of_ble_eq_true rfl⟩ rfl hl.1 rfl (Nat.le_of_ble_eq_true rfl) dX12_put_48 ⟨Nat.le_of_ble_eq_true rfl, Nat.le_of_ble_eq_true rfl⟩) (fun _ => [(h0, .inr (11, oX12 r0 I_0_isFound I_0_foundB I_0_changes I_0_taped I_0_size I_0_at I_0_signs I_0_wanted I_0_sign I_0_isKept I_0_keptFound I_0_keptB I_0_keptChanges)), ((r0 1), .inl (cI, 75, .inl A_0_1_operator))]) (fun _ => rfl) (fun _ => rfl) (fun y6 _ H locs h hM => ?_)
      refine lv_iload hx hb dX12_put_51 (lv_at hl 5 rfl) ?_
      refine m_calli (wc := []) C0 hM [] rfl (m_runS (wc := []) (As := [.int x4]) (rest := [.int y6, .ref (r0 1)]) C0 hM (ct_X12_modulo l D cI cJ cZ x4 _ _ h) [] rfl (by decide) gX12_put_X12_modulo rfl rfl rfl hd_X12_modulo ⟨Nat.le_of_ble_eq_true rfl, Nat.le_of_ble_eq_true rfl⟩ rfl hl.1 rfl (Nat.le_of_ble_eq_true rfl) dX12_put_53 ⟨Nat.le_of_ble_eq_true rfl, Nat.le_of_ble_eq_true rfl⟩) (fun _ => [(h0, .inr (11, oX12 r0 I_0_isFound I_0_foundB I_0_changes I_0_taped I_0_size I_0_at I_0_signs I_0_wanted I_0_sign I_0_isKept I_0_keptFound I_0_keptB I_0_keptChanges)), ((r0 1), .inl (cI, 75, .inl A_0_1_operator))]) (fun _ => rfl) (fun _ => rfl) (fun y7 _ H locs h hM => ?_)
      obtain ⟨hc8, h⟩ := h
      refine m_iast (ws' := [(h0, .inr (11, oX12 r0 I_0_isFound I_0_foundB I_0_changes I_0_taped I_0_size I_0_at I_0_signs I_0_wanted I_0_sign I_0_isKept I_0_keptFound I_0_keptB I_0_keptChanges)), ((r0 1), .inl (cI, 75, .inl (upd A_0_1_operator (y6).toNatClampNeg y7)))]) C0 hM 1 rfl hc8 rfl dX12_put_56 (fun H locs hM => ?_)
      refine lv_iload hx hb dX12_put_57 (lv_at hl 0 rfl) ?_
      refine m_calli (wc := []) C0 hM [] rfl (m_runS (wc := []) (As := [.int y5]) (rest := []) C0 hM (ct_X12_told l D cI cJ cZ y5 _ _ h) [] rfl (by decide) gX12_put_X12_told rfl rfl rfl hd_X12_told ⟨Nat.le_of_ble_eq_true rfl, Nat.le_of_ble_eq_true rfl⟩ rfl hl.1 rfl (Nat.le_of_ble_eq_true rfl) dX12_put_59 ⟨Nat.le_of_ble_eq_true rfl, Nat.le_of_ble_eq_true rfl⟩) (fun _ => [(h0, .inr (11, oX12 r0 I_0_isFound I_0_foundB I_0_changes I_0_taped I_0_size I_0_at I_0_signs I_0_wanted I_0_sign I_0_isKept I_0_keptFound I_0_keptB I_0_keptChanges)), ((r0 1), .inl (cI, 75, .inl (upd A_0_1_operator (y6).toNatClampNeg y7)))]) (fun _ => rfl) (fun _ => rfl) (fun y9 _ H locs h hM => ?_)
      subst hsz; subst hA; subst hQ
      exact m_iret C0 hr hM (upd A_0_1_operator (y6).toNatClampNeg y7) h rfl dX12_put_62
    · have h := h.2 hq
      refine lv_bipush (v := (-2 : Int32)) hx hb dX12_put_25 (by decide) ?_
      subst hsz; subst hA; subst hQ
      exact m_iret C0 hr hM A_0_1_operator h rfl dX12_put_27
  · have h := h.2 hq
    refine lv_iconst (v := (-1 : Int32)) hx hb dX12_put_9 (by decide) ?_
    subst hsz; subst hA; subst hQ
    exact m_iret C0 hr hM A_0_1_operator h rfl dX12_put_10
abbrev rm_X12_get : Room := { frames := 2, cells := 0, slots := 0, locals := 44 }
set_option maxRecDepth 100000 in
set_option maxHeartbeats 4000000 in
theorem ct_X12_get (l : Launch) (D : va_G) (cI cJ cZ : ClassId) (h0 : Nat) (r0 : Nat → Nat) (I_0_isFound : Int32) (I_0_foundB : Int32) (I_0_changes : Int32) (I_0_taped : Int32) (I_0_size : Int32) (I_0_at : Int32) (I_0_signs : Int32) (I_0_wanted : Int32) (I_0_sign : Int32) (I_0_isKept : Int32) (I_0_keptFound : Int32) (I_0_keptB : Int32) (I_0_keptChanges : Int32) (A_0_1_operator : (Nat → Int32)) (x1 : Int32) (x2 : Int32) (x3 : Int32) (sz : Nat) (K : Int32 → Prop) (h : wp_X12_get x1 x2 x3 A_0_1_operator K) : Met l yX12_get wsX12_get rm_X12_get (va_Pc [.ref h0, .int x1, .int x2, .int x3] (WX D cI cJ cZ [(h0, .inr (11, oX12 r0 I_0_isFound I_0_foundB I_0_changes I_0_taped I_0_size I_0_at I_0_signs I_0_wanted I_0_sign I_0_isKept I_0_keptFound I_0_keptB I_0_keptChanges)), ((r0 1), .inl (cI, 75, .inl A_0_1_operator))] sz)) (va_Qi (fun (r : Int32) (_ : Unit) => K r ) (fun (_ : Unit) t => WY D (va_A [(h0, .inr (11, oX12 r0 I_0_isFound I_0_foundB I_0_changes I_0_taped I_0_size I_0_at I_0_signs I_0_wanted I_0_sign I_0_isKept I_0_keptFound I_0_keptB I_0_keptChanges)), ((r0 1), .inl (cI, 75, .inl A_0_1_operator))] sz) [(h0, .inr (11, oX12 r0 I_0_isFound I_0_foundB I_0_changes I_0_taped I_0_size I_0_at I_0_signs I_0_wanted I_0_sign I_0_isKept I_0_keptFound I_0_keptB I_0_keptChanges)), ((r0 1), .inl (cI, 75, .inl A_0_1_operator))] t) (va_A [(h0, .inr (11, oX12 r0 I_0_isFound I_0_foundB I_0_changes I_0_taped I_0_size I_0_at I_0_signs I_0_wanted I_0_sign I_0_isKept I_0_keptFound I_0_keptB I_0_keptChanges)), ((r0 1), .inl (cI, 75, .inl A_0_1_operator))] sz)) 0 0 (va_A [(h0, .inr (11, oX12 r0 I_0_isFound I_0_foundB I_0_changes I_0_taped I_0_size I_0_at I_0_signs I_0_wanted I_0_sign I_0_isKept I_0_keptFound I_0_keptB I_0_keptChanges)), ((r0 1), .inl (cI, 75, .inl A_0_1_operator))] sz) := by
  refine m_met (own := RX12) (cc := cX12_get) (maxL := 4) (ret := some .int) [.ref h0, .int x1, .int x2, .int x3] [(0, .ref h0), (1, .int x1), (2, .int x2), (3, .int x3)] (by decide) rfl rfl (Nat.le_of_ble_eq_true rfl) rfl ?_
  intro p e s m args below meth c Q A hQ hA C0 hr hnm hsz hM ls hl
  have hx := C0.1
  have hb := C0.2.1
  have hown := C0.2.2.2.1
  unfold wp_X12_get at h
  refine lv_iload_n hx hb dX12_get_0 rfl (lv_at hl 1 rfl) ?_
  refine lv_iload_n hx hb dX12_get_1 rfl (lv_at hl 2 rfl) ?_
  refine lv_iload_n hx hb dX12_get_2 rfl (lv_at hl 3 rfl) ?_
  refine m_calli (wc := []) C0 hM [] rfl (m_runS (wc := []) (As := [.int x1, .int x2, .int x3]) (rest := []) C0 hM (ct_X12_isNumber l D cI cJ cZ x1 x2 x3 _ _ h) [] rfl (by decide) gX12_get_X12_isNumber rfl rfl rfl hd_X12_isNumber ⟨Nat.le_of_ble_eq_true rfl, Nat.le_of_ble_eq_true rfl⟩ rfl hl.1 rfl (Nat.le_of_ble_eq_true rfl) dX12_get_3 ⟨Nat.le_of_ble_eq_true rfl, Nat.le_of_ble_eq_true rfl⟩) (fun _ => [(h0, .inr (11, oX12 r0 I_0_isFound I_0_foundB I_0_changes I_0_taped I_0_size I_0_at I_0_signs I_0_wanted I_0_sign I_0_isKept I_0_keptFound I_0_keptB I_0_keptChanges)), ((r0 1), .inl (cI, 75, .inl A_0_1_operator))]) (fun _ => rfl) (fun _ => rfl) (fun y1 _ H locs h hM => ?_)
  refine lv_if_eq (tgt := 26) hx hb dX12_get_6 (by decide) (fun hq => ?_) (fun hq => ?_)
  · have h := h.1 hq
    refine lv_iconst (v := (-1 : Int32)) hx hb dX12_get_26 (by decide) ?_
    subst hsz; subst hA; subst hQ
    exact m_iret C0 hr hM () h rfl dX12_get_27
  · have h := h.2 hq
    refine lv_aload_n hx hb dX12_get_9 rfl (lv_at hl 0 rfl) ?_
    refine m_get (C := RX12) (T := TX12) (N := 45) (ci := 11) (ref := "LoweredPowersModel") (v := .ref (r0 1)) C0 hM 0 rfl rfl kt_X12_get_X12 1 (by decide) kw_X12_get_1 rfl rfl dX12_get_10 ?_
    refine lv_iload_n hx hb dX12_get_13 rfl (lv_at hl 1 rfl) ?_
    refine lv_iload_n hx hb dX12_get_14 rfl (lv_at hl 2 rfl) ?_
    refine lv_iload_n hx hb dX12_get_15 rfl (lv_at hl 3 rfl) ?_
    refine m_calli (wc := []) C0 hM [] rfl (m_runS (wc := []) (As := [.int x1, .int x2, .int x3]) (rest := [.ref (r0 1)]) C0 hM (ct_X12_placeOf l D cI cJ cZ x1 x2 x3 _ _ h) [] rfl (by decide) gX12_get_X12_placeOf rfl rfl rfl hd_X12_placeOf ⟨Nat.le_of_ble_eq_true rfl, Nat.le_of_ble_eq_true rfl⟩ rfl hl.1 rfl (Nat.le_of_ble_eq_true rfl) dX12_get_16 ⟨Nat.le_of_ble_eq_true rfl, Nat.le_of_ble_eq_true rfl⟩) (fun _ => [(h0, .inr (11, oX12 r0 I_0_isFound I_0_foundB I_0_changes I_0_taped I_0_size I_0_at I_0_signs I_0_wanted I_0_sign I_0_isKept I_0_keptFound I_0_keptB I_0_keptChanges)), ((r0 1), .inl (cI, 75, .inl A_0_1_operator))]) (fun _ => rfl) (fun _ => rfl) (fun y2 _ H locs h hM => ?_)
    obtain ⟨hc3, h⟩ := h
    refine m_iald C0 hM 1 rfl hc3 dX12_get_19 ?_
    refine m_calli (wc := []) C0 hM [] rfl (m_runS (wc := []) (As := [.int (A_0_1_operator (y2).toNatClampNeg)]) (rest := []) C0 hM (ct_X12_told l D cI cJ cZ (A_0_1_operator (y2).toNatClampNeg) _ _ h) [] rfl (by decide) gX12_get_X12_told rfl rfl rfl hd_X12_told ⟨Nat.le_of_ble_eq_true rfl, Nat.le_of_ble_eq_true rfl⟩ rfl hl.1 rfl (Nat.le_of_ble_eq_true rfl) dX12_get_20 ⟨Nat.le_of_ble_eq_true rfl, Nat.le_of_ble_eq_true rfl⟩) (fun _ => [(h0, .inr (11, oX12 r0 I_0_isFound I_0_foundB I_0_changes I_0_taped I_0_size I_0_at I_0_signs I_0_wanted I_0_sign I_0_isKept I_0_keptFound I_0_keptB I_0_keptChanges)), ((r0 1), .inl (cI, 75, .inl A_0_1_operator))]) (fun _ => rfl) (fun _ => rfl) (fun y4 _ H locs h hM => ?_)
    refine lv_goto (tgt := 27) hx hb dX12_get_23 (by decide) ?_
    subst hsz; subst hA; subst hQ
    exact m_iret C0 hr hM () h rfl dX12_get_27
abbrev rm_X12_numbers : Room := { frames := 0, cells := 0, slots := 0, locals := 0 }
set_option maxRecDepth 100000 in
set_option maxHeartbeats 4000000 in
theorem ct_X12_numbers (l : Launch) (D : va_G) (cI cJ cZ : ClassId) (h0 : Nat) (r0 : Nat → Nat) (I_0_isFound : Int32) (I_0_foundB : Int32) (I_0_changes : Int32) (I_0_taped : Int32) (I_0_size : Int32) (I_0_at : Int32) (I_0_signs : Int32) (I_0_wanted : Int32) (I_0_sign : Int32) (I_0_isKept : Int32) (I_0_keptFound : Int32) (I_0_keptB : Int32) (I_0_keptChanges : Int32) (A_0_1_operator : (Nat → Int32)) (sz : Nat) (K : Int32 → Prop) (h : wp_X12_numbers A_0_1_operator K) : Met l yX12_numbers wsX12_numbers rm_X12_numbers (va_Pc [.ref h0] (WX D cI cJ cZ [(h0, .inr (11, oX12 r0 I_0_isFound I_0_foundB I_0_changes I_0_taped I_0_size I_0_at I_0_signs I_0_wanted I_0_sign I_0_isKept I_0_keptFound I_0_keptB I_0_keptChanges)), ((r0 1), .inl (cI, 75, .inl A_0_1_operator))] sz)) (va_Qi (fun (r : Int32) (_ : Unit) => K r ) (fun (_ : Unit) t => WY D (va_A [(h0, .inr (11, oX12 r0 I_0_isFound I_0_foundB I_0_changes I_0_taped I_0_size I_0_at I_0_signs I_0_wanted I_0_sign I_0_isKept I_0_keptFound I_0_keptB I_0_keptChanges)), ((r0 1), .inl (cI, 75, .inl A_0_1_operator))] sz) [(h0, .inr (11, oX12 r0 I_0_isFound I_0_foundB I_0_changes I_0_taped I_0_size I_0_at I_0_signs I_0_wanted I_0_sign I_0_isKept I_0_keptFound I_0_keptB I_0_keptChanges)), ((r0 1), .inl (cI, 75, .inl A_0_1_operator))] t) (va_A [(h0, .inr (11, oX12 r0 I_0_isFound I_0_foundB I_0_changes I_0_taped I_0_size I_0_at I_0_signs I_0_wanted I_0_sign I_0_isKept I_0_keptFound I_0_keptB I_0_keptChanges)), ((r0 1), .inl (cI, 75, .inl A_0_1_operator))] sz)) 0 0 (va_A [(h0, .inr (11, oX12 r0 I_0_isFound I_0_foundB I_0_changes I_0_taped I_0_size I_0_at I_0_signs I_0_wanted I_0_sign I_0_isKept I_0_keptFound I_0_keptB I_0_keptChanges)), ((r0 1), .inl (cI, 75, .inl A_0_1_operator))] sz) := by
  refine m_met (own := RX12) (cc := cX12_numbers) (maxL := 3) (ret := some .int) [.ref h0] [(0, .ref h0)] (by decide) rfl rfl (Nat.le_of_ble_eq_true rfl) rfl ?_
  intro p e s m args below meth c Q A hQ hA C0 hr hnm hsz hM ls hl
  have hx := C0.1
  have hb := C0.2.1
  have hown := C0.2.2.2.1
  have lq4 : ∀ (k4 : Nat) (x1 : Int32) (x2 : Int32) (H : Heap) (locs : List Loc) (ls : Array Slot) , lp_X12_numbers_4 A_0_1_operator K k4 x1 x2 → MW D A s.heap [(h0, .inr (11, oX12 r0 I_0_isFound I_0_foundB I_0_changes I_0_taped I_0_size I_0_at I_0_signs I_0_wanted I_0_sign I_0_isKept I_0_keptFound I_0_keptB I_0_keptChanges)), ((r0 1), .inl (cI, 75, .inl A_0_1_operator))] H locs → lv_has ls 3 [(0, .ref h0), (1, .int x1), (2, .int x2)] → W p l e rm_X12_numbers s m args below meth c H locs 0 0 Q (F0 m 4 ls []) := by
    intro k4
    induction k4 with
    | zero =>
      intro x1 x2 H locs ls h
      unfold lp_X12_numbers_4 at h
      exact h.elim
    | succ k4 ih4 =>
      have jq25 : ∀ (x2 : Int32) (s0 : Int32) (s1 : Int32) (H : Heap) (locs : List Loc) (ls : Array Slot) , jn_X12_numbers_25 A_0_1_operator (fun x1 x2 => lp_X12_numbers_4 A_0_1_operator K k4 x1 x2) K x2 s0 s1 → MW D A s.heap [(h0, .inr (11, oX12 r0 I_0_isFound I_0_foundB I_0_changes I_0_taped I_0_size I_0_at I_0_signs I_0_wanted I_0_sign I_0_isKept I_0_keptFound I_0_keptB I_0_keptChanges)), ((r0 1), .inl (cI, 75, .inl A_0_1_operator))] H locs → lv_has ls 3 [(0, .ref h0), (2, .int x2)] → W p l e rm_X12_numbers s m args below meth c H locs 0 0 Q (F0 m 25 ls [.int s1, .int s0]) := by
        intro x2 s0 s1 H locs ls h hM hl
        unfold jn_X12_numbers_25 at h
        refine lv_iadd hx hb dX12_numbers_25 ?_
        refine lv_topi (fun y1 ey1 => ?_)
        have h := h y1 ey1
        refine lv_istore_n (lv' := [(1, .int y1), (0, .ref h0), (2, .int x2)]) hx hb dX12_numbers_26 rfl hl (by decide) rfl (fun ls hl => ?_)
        refine lv_iinc (v := (x2 + (1 : Int32))) (lv' := [(2, .int (x2 + (1 : Int32))), (1, .int y1), (0, .ref h0)]) hx hb dX12_numbers_27 hl (k := 2) rfl rfl (by decide) rfl (fun ls hl => ?_)
        refine lv_goto (tgt := 4) hx hb dX12_numbers_30 (by decide) ?_
        exact ih4 _ _ _ _ _ h hM (lv_sub hl [2, 1, 0] rfl)
      intro x1 x2 H locs ls h hM hl
      unfold lp_X12_numbers_4 at h
      refine lv_iload_n hx hb dX12_numbers_4 rfl (lv_at hl 2 rfl) ?_
      refine lv_bipush (v := (75 : Int32)) hx hb dX12_numbers_5 (by decide) ?_
      refine lv_icmp_ge (tgt := 33) hx hb dX12_numbers_7 (by decide) (fun hq => ?_) (fun hq => ?_)
      · have h := h.1 hq
        refine lv_iload_n hx hb dX12_numbers_33 rfl (lv_at hl 1 rfl) ?_
        subst hsz; subst hA; subst hQ
        exact m_iret C0 hr hM () h rfl dX12_numbers_34
      · have h := h.2 hq
        refine lv_iload_n hx hb dX12_numbers_10 rfl (lv_at hl 1 rfl) ?_
        refine lv_aload_n hx hb dX12_numbers_11 rfl (lv_at hl 0 rfl) ?_
        refine m_get (C := RX12) (T := TX12) (N := 45) (ci := 11) (ref := "LoweredPowersModel") (v := .ref (r0 1)) C0 hM 0 rfl rfl kt_X12_numbers_X12 1 (by decide) kw_X12_numbers_1 rfl rfl dX12_numbers_12 ?_
        refine lv_iload_n hx hb dX12_numbers_15 rfl (lv_at hl 2 rfl) ?_
        obtain ⟨hc2, h⟩ := h
        refine m_iald C0 hM 1 rfl hc2 dX12_numbers_16 ?_
        refine lv_if_ne (tgt := 24) hx hb dX12_numbers_17 (by decide) (fun hq => ?_) (fun hq => ?_)
        · have h := h.1 hq
          refine lv_iconst (v := (1 : Int32)) hx hb dX12_numbers_24 (by decide) ?_
          exact jq25 _ _ _ _ _ _ h hM (lv_sub hl [0, 2] rfl)
        · have h := h.2 hq
          refine lv_iconst (v := (0 : Int32)) hx hb dX12_numbers_20 (by decide) ?_
          refine lv_goto (tgt := 25) hx hb dX12_numbers_21 (by decide) ?_
          exact jq25 _ _ _ _ _ _ h hM (lv_sub hl [0, 2] rfl)
  unfold wp_X12_numbers at h
  refine lv_iconst (v := (0 : Int32)) hx hb dX12_numbers_0 (by decide) ?_
  refine lv_istore_n (lv' := [(1, .int (0 : Int32)), (0, .ref h0)]) hx hb dX12_numbers_1 rfl hl (by decide) rfl (fun ls hl => ?_)
  refine lv_iconst (v := (0 : Int32)) hx hb dX12_numbers_2 (by decide) ?_
  refine lv_istore_n (lv' := [(2, .int (0 : Int32)), (1, .int (0 : Int32)), (0, .ref h0)]) hx hb dX12_numbers_3 rfl hl (by decide) rfl (fun ls hl => ?_)
  obtain ⟨k0, h⟩ := h
  exact lq4 k0 _ _ _ _ _ h hM (lv_sub hl [2, 1, 0] rfl)
abbrev rm_X12_clear : Room := { frames := 1, cells := 0, slots := 0, locals := 22 }
set_option maxRecDepth 100000 in
set_option maxHeartbeats 4000000 in
theorem ct_X12_clear (l : Launch) (D : va_G) (cI cJ cZ : ClassId) (h0 : Nat) (r0 : Nat → Nat) (I_0_isFound : Int32) (I_0_foundB : Int32) (I_0_changes : Int32) (I_0_taped : Int32) (I_0_size : Int32) (I_0_at : Int32) (I_0_signs : Int32) (I_0_wanted : Int32) (I_0_sign : Int32) (I_0_isKept : Int32) (I_0_keptFound : Int32) (I_0_keptB : Int32) (I_0_keptChanges : Int32) (A_0_1_operator : (Nat → Int32)) (sz : Nat) (K : Int32 → (Nat → Int32) → Prop) (h : wp_X12_clear A_0_1_operator K) : Met l yX12_clear wsX12_clear rm_X12_clear (va_Pc [.ref h0] (WX D cI cJ cZ [(h0, .inr (11, oX12 r0 I_0_isFound I_0_foundB I_0_changes I_0_taped I_0_size I_0_at I_0_signs I_0_wanted I_0_sign I_0_isKept I_0_keptFound I_0_keptB I_0_keptChanges)), ((r0 1), .inl (cI, 75, .inl A_0_1_operator))] sz)) (va_Qi (fun (r : Int32) (u : (Nat → Int32)) => K r u) (fun (u : (Nat → Int32)) t => WY D (va_A [(h0, .inr (11, oX12 r0 I_0_isFound I_0_foundB I_0_changes I_0_taped I_0_size I_0_at I_0_signs I_0_wanted I_0_sign I_0_isKept I_0_keptFound I_0_keptB I_0_keptChanges)), ((r0 1), .inl (cI, 75, .inl A_0_1_operator))] sz) [(h0, .inr (11, oX12 r0 I_0_isFound I_0_foundB I_0_changes I_0_taped I_0_size I_0_at I_0_signs I_0_wanted I_0_sign I_0_isKept I_0_keptFound I_0_keptB I_0_keptChanges)), ((r0 1), .inl (cI, 75, .inl u))] t) (va_A [(h0, .inr (11, oX12 r0 I_0_isFound I_0_foundB I_0_changes I_0_taped I_0_size I_0_at I_0_signs I_0_wanted I_0_sign I_0_isKept I_0_keptFound I_0_keptB I_0_keptChanges)), ((r0 1), .inl (cI, 75, .inl A_0_1_operator))] sz)) 0 0 (va_A [(h0, .inr (11, oX12 r0 I_0_isFound I_0_foundB I_0_changes I_0_taped I_0_size I_0_at I_0_signs I_0_wanted I_0_sign I_0_isKept I_0_keptFound I_0_keptB I_0_keptChanges)), ((r0 1), .inl (cI, 75, .inl A_0_1_operator))] sz) := by
  refine m_met (own := RX12) (cc := cX12_clear) (maxL := 3) (ret := some .int) [.ref h0] [(0, .ref h0)] (by decide) rfl rfl (Nat.le_of_ble_eq_true rfl) rfl ?_
  intro p e s m args below meth c Q A hQ hA C0 hr hnm hsz hM ls hl
  have hx := C0.1
  have hb := C0.2.1
  have hown := C0.2.2.2.1
  have lq7 : ∀ (k7 : Nat) (x1 : Int32) (x2 : Int32) (A_0_1_operator : (Nat → Int32)) (H : Heap) (locs : List Loc) (ls : Array Slot) , lp_X12_clear_7  K k7 x1 x2 A_0_1_operator → MW D A s.heap [(h0, .inr (11, oX12 r0 I_0_isFound I_0_foundB I_0_changes I_0_taped I_0_size I_0_at I_0_signs I_0_wanted I_0_sign I_0_isKept I_0_keptFound I_0_keptB I_0_keptChanges)), ((r0 1), .inl (cI, 75, .inl A_0_1_operator))] H locs → lv_has ls 3 [(0, .ref h0), (1, .int x1), (2, .int x2)] → W p l e rm_X12_clear s m args below meth c H locs 0 0 Q (F0 m 7 ls []) := by
    intro k7
    induction k7 with
    | zero =>
      intro x1 x2 A_0_1_operator H locs ls h
      unfold lp_X12_clear_7 at h
      exact h.elim
    | succ k7 ih7 =>
      intro x1 x2 A_0_1_operator H locs ls h hM hl
      unfold lp_X12_clear_7 at h
      refine lv_iload_n hx hb dX12_clear_7 rfl (lv_at hl 2 rfl) ?_
      refine lv_bipush (v := (75 : Int32)) hx hb dX12_clear_8 (by decide) ?_
      refine lv_icmp_ge (tgt := 26) hx hb dX12_clear_10 (by decide) (fun hq => ?_) (fun hq => ?_)
      · have h := h.1 hq
        refine lv_iload_n hx hb dX12_clear_26 rfl (lv_at hl 1 rfl) ?_
        subst hsz; subst hA; subst hQ
        exact m_iret C0 hr hM A_0_1_operator h rfl dX12_clear_27
      · have h := h.2 hq
        refine lv_aload_n hx hb dX12_clear_13 rfl (lv_at hl 0 rfl) ?_
        refine m_get (C := RX12) (T := TX12) (N := 45) (ci := 11) (ref := "LoweredPowersModel") (v := .ref (r0 1)) C0 hM 0 rfl rfl kt_X12_clear_X12 1 (by decide) kw_X12_clear_1 rfl rfl dX12_clear_14 ?_
        refine lv_iload_n hx hb dX12_clear_17 rfl (lv_at hl 2 rfl) ?_
        refine lv_iconst (v := (0 : Int32)) hx hb dX12_clear_18 (by decide) ?_
        obtain ⟨hc1, h⟩ := h
        refine m_iast (ws' := [(h0, .inr (11, oX12 r0 I_0_isFound I_0_foundB I_0_changes I_0_taped I_0_size I_0_at I_0_signs I_0_wanted I_0_sign I_0_isKept I_0_keptFound I_0_keptB I_0_keptChanges)), ((r0 1), .inl (cI, 75, .inl (upd A_0_1_operator (x2).toNatClampNeg (0 : Int32))))]) C0 hM 1 rfl hc1 rfl dX12_clear_19 (fun H locs hM => ?_)
        refine lv_iinc (v := (x2 + (1 : Int32))) (lv' := [(2, .int (x2 + (1 : Int32))), (0, .ref h0), (1, .int x1)]) hx hb dX12_clear_20 hl (k := 2) rfl rfl (by decide) rfl (fun ls hl => ?_)
        refine lv_goto (tgt := 7) hx hb dX12_clear_23 (by decide) ?_
        exact ih7 _ _ _ _ _ _ h hM (lv_sub hl [1, 2, 0] rfl)
  unfold wp_X12_clear at h
  refine lv_aload_n hx hb dX12_clear_0 rfl (lv_at hl 0 rfl) ?_
  refine m_calli (wc := [(h0, .inr (11, oX12 r0 I_0_isFound I_0_foundB I_0_changes I_0_taped I_0_size I_0_at I_0_signs I_0_wanted I_0_sign I_0_isKept I_0_keptFound I_0_keptB I_0_keptChanges)), ((r0 1), .inl (cI, 75, .inl A_0_1_operator))]) C0 hM [0, 1] rfl (m_runV (wc := [(h0, .inr (11, oX12 r0 I_0_isFound I_0_foundB I_0_changes I_0_taped I_0_size I_0_at I_0_signs I_0_wanted I_0_sign I_0_isKept I_0_keptFound I_0_keptB I_0_keptChanges)), ((r0 1), .inl (cI, 75, .inl A_0_1_operator))]) (As := []) (rest := []) (ci := 11) C0 hM (ct_X12_numbers l D cI cJ cZ h0 r0 I_0_isFound I_0_foundB I_0_changes I_0_taped I_0_size I_0_at I_0_signs I_0_wanted I_0_sign I_0_isKept I_0_keptFound I_0_keptB I_0_keptChanges A_0_1_operator _ _ h) [0, 1] rfl (by decide) gX12_clear_X12_numbers rfl rfl rfl rfl rfl hd_X12_numbers ⟨Nat.le_of_ble_eq_true rfl, Nat.le_of_ble_eq_true rfl⟩ rfl hl.1 rfl (Nat.le_of_ble_eq_true rfl) dX12_clear_1 ⟨Nat.le_of_ble_eq_true rfl, Nat.le_of_ble_eq_true rfl⟩) (fun _ => [(h0, .inr (11, oX12 r0 I_0_isFound I_0_foundB I_0_changes I_0_taped I_0_size I_0_at I_0_signs I_0_wanted I_0_sign I_0_isKept I_0_keptFound I_0_keptB I_0_keptChanges)), ((r0 1), .inl (cI, 75, .inl A_0_1_operator))]) (fun _ => rfl) (fun _ => rfl) (fun y2 _ H locs h hM => ?_)
  refine lv_istore_n (lv' := [(1, .int y2), (0, .ref h0)]) hx hb dX12_clear_4 rfl hl (by decide) rfl (fun ls hl => ?_)
  refine lv_iconst (v := (0 : Int32)) hx hb dX12_clear_5 (by decide) ?_
  refine lv_istore_n (lv' := [(2, .int (0 : Int32)), (1, .int y2), (0, .ref h0)]) hx hb dX12_clear_6 rfl hl (by decide) rfl (fun ls hl => ?_)
  obtain ⟨k0, h⟩ := h
  exact lq7 k0 _ _ _ _ _ _ h hM (lv_sub hl [2, 1, 0] rfl)
abbrev rm_X12_orderOf : Room := { frames := 0, cells := 0, slots := 0, locals := 0 }
set_option maxRecDepth 100000 in
set_option maxHeartbeats 4000000 in
theorem ct_X12_orderOf (l : Launch) (D : va_G) (cI cJ cZ : ClassId) (h0 : Nat) (r0 : Nat → Nat) (I_0_isFound : Int32) (I_0_foundB : Int32) (I_0_changes : Int32) (I_0_taped : Int32) (I_0_size : Int32) (I_0_at : Int32) (I_0_signs : Int32) (I_0_wanted : Int32) (I_0_sign : Int32) (I_0_isKept : Int32) (I_0_keptFound : Int32) (I_0_keptB : Int32) (I_0_keptChanges : Int32) (A_0_1_operator : (Nat → Int32)) (sz : Nat) (K : Int32 → Prop) (h : wp_X12_orderOf A_0_1_operator K) : Met l yX12_orderOf wsX12_orderOf rm_X12_orderOf (va_Pc [.ref h0] (WX D cI cJ cZ [(h0, .inr (11, oX12 r0 I_0_isFound I_0_foundB I_0_changes I_0_taped I_0_size I_0_at I_0_signs I_0_wanted I_0_sign I_0_isKept I_0_keptFound I_0_keptB I_0_keptChanges)), ((r0 1), .inl (cI, 75, .inl A_0_1_operator))] sz)) (va_Qi (fun (r : Int32) (_ : Unit) => K r ) (fun (_ : Unit) t => WY D (va_A [(h0, .inr (11, oX12 r0 I_0_isFound I_0_foundB I_0_changes I_0_taped I_0_size I_0_at I_0_signs I_0_wanted I_0_sign I_0_isKept I_0_keptFound I_0_keptB I_0_keptChanges)), ((r0 1), .inl (cI, 75, .inl A_0_1_operator))] sz) [(h0, .inr (11, oX12 r0 I_0_isFound I_0_foundB I_0_changes I_0_taped I_0_size I_0_at I_0_signs I_0_wanted I_0_sign I_0_isKept I_0_keptFound I_0_keptB I_0_keptChanges)), ((r0 1), .inl (cI, 75, .inl A_0_1_operator))] t) (va_A [(h0, .inr (11, oX12 r0 I_0_isFound I_0_foundB I_0_changes I_0_taped I_0_size I_0_at I_0_signs I_0_wanted I_0_sign I_0_isKept I_0_keptFound I_0_keptB I_0_keptChanges)), ((r0 1), .inl (cI, 75, .inl A_0_1_operator))] sz)) 0 0 (va_A [(h0, .inr (11, oX12 r0 I_0_isFound I_0_foundB I_0_changes I_0_taped I_0_size I_0_at I_0_signs I_0_wanted I_0_sign I_0_isKept I_0_keptFound I_0_keptB I_0_keptChanges)), ((r0 1), .inl (cI, 75, .inl A_0_1_operator))] sz) := by
  refine m_met (own := RX12) (cc := cX12_orderOf) (maxL := 3) (ret := some .int) [.ref h0] [(0, .ref h0)] (by decide) rfl rfl (Nat.le_of_ble_eq_true rfl) rfl ?_
  intro p e s m args below meth c Q A hQ hA C0 hr hnm hsz hM ls hl
  have hx := C0.1
  have hb := C0.2.1
  have hown := C0.2.2.2.1
  have lq4 : ∀ (k4 : Nat) (x1 : Int32) (x2 : Int32) (H : Heap) (locs : List Loc) (ls : Array Slot) , lp_X12_orderOf_4 A_0_1_operator K k4 x1 x2 → MW D A s.heap [(h0, .inr (11, oX12 r0 I_0_isFound I_0_foundB I_0_changes I_0_taped I_0_size I_0_at I_0_signs I_0_wanted I_0_sign I_0_isKept I_0_keptFound I_0_keptB I_0_keptChanges)), ((r0 1), .inl (cI, 75, .inl A_0_1_operator))] H locs → lv_has ls 3 [(0, .ref h0), (1, .int x1), (2, .int x2)] → W p l e rm_X12_orderOf s m args below meth c H locs 0 0 Q (F0 m 4 ls []) := by
    intro k4
    induction k4 with
    | zero =>
      intro x1 x2 H locs ls h
      unfold lp_X12_orderOf_4 at h
      exact h.elim
    | succ k4 ih4 =>
      have jq27 : ∀ (x2 : Int32) (s0 : Int32) (H : Heap) (locs : List Loc) (ls : Array Slot) , jn_X12_orderOf_27 A_0_1_operator (fun x1 x2 => lp_X12_orderOf_4 A_0_1_operator K k4 x1 x2) K x2 s0 → MW D A s.heap [(h0, .inr (11, oX12 r0 I_0_isFound I_0_foundB I_0_changes I_0_taped I_0_size I_0_at I_0_signs I_0_wanted I_0_sign I_0_isKept I_0_keptFound I_0_keptB I_0_keptChanges)), ((r0 1), .inl (cI, 75, .inl A_0_1_operator))] H locs → lv_has ls 3 [(0, .ref h0), (2, .int x2)] → W p l e rm_X12_orderOf s m args below meth c H locs 0 0 Q (F0 m 27 ls [.int s0]) := by
        intro x2 s0 H locs ls h hM hl
        unfold jn_X12_orderOf_27 at h
        refine lv_istore_n (lv' := [(1, .int s0), (0, .ref h0), (2, .int x2)]) hx hb dX12_orderOf_27 rfl hl (by decide) rfl (fun ls hl => ?_)
        refine lv_iinc (v := (x2 + (1 : Int32))) (lv' := [(2, .int (x2 + (1 : Int32))), (1, .int s0), (0, .ref h0)]) hx hb dX12_orderOf_28 hl (k := 2) rfl rfl (by decide) rfl (fun ls hl => ?_)
        refine lv_goto (tgt := 4) hx hb dX12_orderOf_31 (by decide) ?_
        exact ih4 _ _ _ _ _ h hM (lv_sub hl [2, 1, 0] rfl)
      intro x1 x2 H locs ls h hM hl
      unfold lp_X12_orderOf_4 at h
      refine lv_iload_n hx hb dX12_orderOf_4 rfl (lv_at hl 2 rfl) ?_
      refine lv_bipush (v := (75 : Int32)) hx hb dX12_orderOf_5 (by decide) ?_
      refine lv_icmp_ge (tgt := 34) hx hb dX12_orderOf_7 (by decide) (fun hq => ?_) (fun hq => ?_)
      · have h := h.1 hq
        refine lv_iload_n hx hb dX12_orderOf_34 rfl (lv_at hl 1 rfl) ?_
        subst hsz; subst hA; subst hQ
        exact m_iret C0 hr hM () h rfl dX12_orderOf_35
      · have h := h.2 hq
        refine lv_aload_n hx hb dX12_orderOf_10 rfl (lv_at hl 0 rfl) ?_
        refine m_get (C := RX12) (T := TX12) (N := 45) (ci := 11) (ref := "LoweredPowersModel") (v := .ref (r0 1)) C0 hM 0 rfl rfl kt_X12_orderOf_X12 1 (by decide) kw_X12_orderOf_1 rfl rfl dX12_orderOf_11 ?_
        refine lv_iload_n hx hb dX12_orderOf_14 rfl (lv_at hl 2 rfl) ?_
        obtain ⟨hc1, h⟩ := h
        refine m_iald C0 hM 1 rfl hc1 dX12_orderOf_15 ?_
        refine lv_if_ne (tgt := 23) hx hb dX12_orderOf_16 (by decide) (fun hq => ?_) (fun hq => ?_)
        · have h := h.1 hq
          refine lv_iload_n hx hb dX12_orderOf_23 rfl (lv_at hl 2 rfl) ?_
          refine lv_bipush (v := (15 : Int32)) hx hb dX12_orderOf_24 (by decide) ?_
          refine lv_idiv hx hb dX12_orderOf_26 (by decide) ?_
          exact jq27 _ _ _ _ _ h hM (lv_sub hl [0, 2] rfl)
        · have h := h.2 hq
          refine lv_iload_n hx hb dX12_orderOf_19 rfl (lv_at hl 1 rfl) ?_
          refine lv_goto (tgt := 27) hx hb dX12_orderOf_20 (by decide) ?_
          exact jq27 _ _ _ _ _ h hM (lv_sub hl [0, 2] rfl)
  unfold wp_X12_orderOf at h
  refine lv_iconst (v := (0 : Int32)) hx hb dX12_orderOf_0 (by decide) ?_
  refine lv_istore_n (lv' := [(1, .int (0 : Int32)), (0, .ref h0)]) hx hb dX12_orderOf_1 rfl hl (by decide) rfl (fun ls hl => ?_)
  refine lv_iconst (v := (0 : Int32)) hx hb dX12_orderOf_2 (by decide) ?_
  refine lv_istore_n (lv' := [(2, .int (0 : Int32)), (1, .int (0 : Int32)), (0, .ref h0)]) hx hb dX12_orderOf_3 rfl hl (by decide) rfl (fun ls hl => ?_)
  obtain ⟨k0, h⟩ := h
  exact lq4 k0 _ _ _ _ _ h hM (lv_sub hl [2, 1, 0] rfl)
abbrev rm_X12_order : Room := { frames := 1, cells := 0, slots := 0, locals := 22 }
set_option maxRecDepth 100000 in
set_option maxHeartbeats 4000000 in
theorem ct_X12_order (l : Launch) (D : va_G) (cI cJ cZ : ClassId) (h0 : Nat) (r0 : Nat → Nat) (I_0_isFound : Int32) (I_0_foundB : Int32) (I_0_changes : Int32) (I_0_taped : Int32) (I_0_size : Int32) (I_0_at : Int32) (I_0_signs : Int32) (I_0_wanted : Int32) (I_0_sign : Int32) (I_0_isKept : Int32) (I_0_keptFound : Int32) (I_0_keptB : Int32) (I_0_keptChanges : Int32) (A_0_1_operator : (Nat → Int32)) (sz : Nat) (K : Int32 → Prop) (h : wp_X12_order A_0_1_operator K) : Met l yX12_order wsX12_order rm_X12_order (va_Pc [.ref h0] (WX D cI cJ cZ [(h0, .inr (11, oX12 r0 I_0_isFound I_0_foundB I_0_changes I_0_taped I_0_size I_0_at I_0_signs I_0_wanted I_0_sign I_0_isKept I_0_keptFound I_0_keptB I_0_keptChanges)), ((r0 1), .inl (cI, 75, .inl A_0_1_operator))] sz)) (va_Qi (fun (r : Int32) (_ : Unit) => K r ) (fun (_ : Unit) t => WY D (va_A [(h0, .inr (11, oX12 r0 I_0_isFound I_0_foundB I_0_changes I_0_taped I_0_size I_0_at I_0_signs I_0_wanted I_0_sign I_0_isKept I_0_keptFound I_0_keptB I_0_keptChanges)), ((r0 1), .inl (cI, 75, .inl A_0_1_operator))] sz) [(h0, .inr (11, oX12 r0 I_0_isFound I_0_foundB I_0_changes I_0_taped I_0_size I_0_at I_0_signs I_0_wanted I_0_sign I_0_isKept I_0_keptFound I_0_keptB I_0_keptChanges)), ((r0 1), .inl (cI, 75, .inl A_0_1_operator))] t) (va_A [(h0, .inr (11, oX12 r0 I_0_isFound I_0_foundB I_0_changes I_0_taped I_0_size I_0_at I_0_signs I_0_wanted I_0_sign I_0_isKept I_0_keptFound I_0_keptB I_0_keptChanges)), ((r0 1), .inl (cI, 75, .inl A_0_1_operator))] sz)) 0 0 (va_A [(h0, .inr (11, oX12 r0 I_0_isFound I_0_foundB I_0_changes I_0_taped I_0_size I_0_at I_0_signs I_0_wanted I_0_sign I_0_isKept I_0_keptFound I_0_keptB I_0_keptChanges)), ((r0 1), .inl (cI, 75, .inl A_0_1_operator))] sz) := by
  refine m_met (own := RX12) (cc := cX12_order) (maxL := 1) (ret := some .int) [.ref h0] [(0, .ref h0)] (by decide) rfl rfl (Nat.le_of_ble_eq_true rfl) rfl ?_
  intro p e s m args below meth c Q A hQ hA C0 hr hnm hsz hM ls hl
  have hx := C0.1
  have hb := C0.2.1
  have hown := C0.2.2.2.1
  unfold wp_X12_order at h
  refine lv_aload_n hx hb dX12_order_0 rfl (lv_at hl 0 rfl) ?_
  refine m_calli (wc := [(h0, .inr (11, oX12 r0 I_0_isFound I_0_foundB I_0_changes I_0_taped I_0_size I_0_at I_0_signs I_0_wanted I_0_sign I_0_isKept I_0_keptFound I_0_keptB I_0_keptChanges)), ((r0 1), .inl (cI, 75, .inl A_0_1_operator))]) C0 hM [0, 1] rfl (m_runV (wc := [(h0, .inr (11, oX12 r0 I_0_isFound I_0_foundB I_0_changes I_0_taped I_0_size I_0_at I_0_signs I_0_wanted I_0_sign I_0_isKept I_0_keptFound I_0_keptB I_0_keptChanges)), ((r0 1), .inl (cI, 75, .inl A_0_1_operator))]) (As := []) (rest := []) (ci := 11) C0 hM (ct_X12_orderOf l D cI cJ cZ h0 r0 I_0_isFound I_0_foundB I_0_changes I_0_taped I_0_size I_0_at I_0_signs I_0_wanted I_0_sign I_0_isKept I_0_keptFound I_0_keptB I_0_keptChanges A_0_1_operator _ _ h) [0, 1] rfl (by decide) gX12_order_X12_orderOf rfl rfl rfl rfl rfl hd_X12_orderOf ⟨Nat.le_of_ble_eq_true rfl, Nat.le_of_ble_eq_true rfl⟩ rfl hl.1 rfl (Nat.le_of_ble_eq_true rfl) dX12_order_1 ⟨Nat.le_of_ble_eq_true rfl, Nat.le_of_ble_eq_true rfl⟩) (fun _ => [(h0, .inr (11, oX12 r0 I_0_isFound I_0_foundB I_0_changes I_0_taped I_0_size I_0_at I_0_signs I_0_wanted I_0_sign I_0_isKept I_0_keptFound I_0_keptB I_0_keptChanges)), ((r0 1), .inl (cI, 75, .inl A_0_1_operator))]) (fun _ => rfl) (fun _ => rfl) (fun y1 _ H locs h hM => ?_)
  subst hsz; subst hA; subst hQ
  exact m_iret C0 hr hM () h rfl dX12_order_4
abbrev rm_X12_tellsPowers : Room := { frames := 0, cells := 0, slots := 0, locals := 0 }
set_option maxRecDepth 100000 in
set_option maxHeartbeats 4000000 in
theorem ct_X12_tellsPowers (l : Launch) (D : va_G) (cI cJ cZ : ClassId) (h0 : Nat) (r0 : Nat → Nat) (I_0_isFound : Int32) (I_0_foundB : Int32) (I_0_changes : Int32) (I_0_taped : Int32) (I_0_size : Int32) (I_0_at : Int32) (I_0_signs : Int32) (I_0_wanted : Int32) (I_0_sign : Int32) (I_0_isKept : Int32) (I_0_keptFound : Int32) (I_0_keptB : Int32) (I_0_keptChanges : Int32) (A_0_0_f : (Nat → Int32)) (A_0_6_powers : (Nat → Int32)) (sz : Nat) (K : (Nat → Int32) → Prop) (h : wp_X12_tellsPowers A_0_0_f A_0_6_powers K) : Met l yX12_tellsPowers wsX12_tellsPowers rm_X12_tellsPowers (va_Pc [.ref h0] (WX D cI cJ cZ [(h0, .inr (11, oX12 r0 I_0_isFound I_0_foundB I_0_changes I_0_taped I_0_size I_0_at I_0_signs I_0_wanted I_0_sign I_0_isKept I_0_keptFound I_0_keptB I_0_keptChanges)), ((r0 0), .inl (cI, 5, .inl A_0_0_f)), ((r0 6), .inl (cI, 125, .inl A_0_6_powers))] sz)) (va_Qv (fun (u : (Nat → Int32)) => K u) (fun (u : (Nat → Int32)) t => WY D (va_A [(h0, .inr (11, oX12 r0 I_0_isFound I_0_foundB I_0_changes I_0_taped I_0_size I_0_at I_0_signs I_0_wanted I_0_sign I_0_isKept I_0_keptFound I_0_keptB I_0_keptChanges)), ((r0 0), .inl (cI, 5, .inl A_0_0_f)), ((r0 6), .inl (cI, 125, .inl A_0_6_powers))] sz) [(h0, .inr (11, oX12 r0 I_0_isFound I_0_foundB I_0_changes I_0_taped I_0_size I_0_at I_0_signs I_0_wanted I_0_sign I_0_isKept I_0_keptFound I_0_keptB I_0_keptChanges)), ((r0 0), .inl (cI, 5, .inl A_0_0_f)), ((r0 6), .inl (cI, 125, .inl u))] t) (va_A [(h0, .inr (11, oX12 r0 I_0_isFound I_0_foundB I_0_changes I_0_taped I_0_size I_0_at I_0_signs I_0_wanted I_0_sign I_0_isKept I_0_keptFound I_0_keptB I_0_keptChanges)), ((r0 0), .inl (cI, 5, .inl A_0_0_f)), ((r0 6), .inl (cI, 125, .inl A_0_6_powers))] sz)) 0 0 (va_A [(h0, .inr (11, oX12 r0 I_0_isFound I_0_foundB I_0_changes I_0_taped I_0_size I_0_at I_0_signs I_0_wanted I_0_sign I_0_isKept I_0_keptFound I_0_keptB I_0_keptChanges)), ((r0 0), .inl (cI, 5, .inl A_0_0_f)), ((r0 6), .inl (cI, 125, .inl A_0_6_powers))] sz) := by
  refine m_met (own := RX12) (cc := cX12_tellsPowers) (maxL := 5) (ret := none) [.ref h0] [(0, .ref h0)] (by decide) rfl rfl (Nat.le_of_ble_eq_true rfl) rfl ?_
  intro p e s m args below meth c Q A hQ hA C0 hr hnm hsz hM ls hl
  have hx := C0.1
  have hb := C0.2.1
  have hown := C0.2.2.2.1
  have lq31 : ∀ (k31 : Nat) (x1 : Int32) (A_0_6_powers : (Nat → Int32)) (H : Heap) (locs : List Loc) (ls : Array Slot) , lp_X12_tellsPowers_31 A_0_0_f K k31 x1 A_0_6_powers → MW D A s.heap [(h0, .inr (11, oX12 r0 I_0_isFound I_0_foundB I_0_changes I_0_taped I_0_size I_0_at I_0_signs I_0_wanted I_0_sign I_0_isKept I_0_keptFound I_0_keptB I_0_keptChanges)), ((r0 0), .inl (cI, 5, .inl A_0_0_f)), ((r0 6), .inl (cI, 125, .inl A_0_6_powers))] H locs → lv_has ls 5 [(0, .ref h0), (1, .int x1)] → W p l e rm_X12_tellsPowers s m args below meth c H locs 0 0 Q (F0 m 31 ls []) := by
    intro k31
    induction k31 with
    | zero =>
      intro x1 A_0_6_powers H locs ls h
      unfold lp_X12_tellsPowers_31 at h
      exact h.elim
    | succ k31 ih31 =>
      have jq120 : ∀ (x1 : Int32) (A_0_6_powers : (Nat → Int32)) (H : Heap) (locs : List Loc) (ls : Array Slot) , jn_X12_tellsPowers_120 A_0_0_f (fun x1 A_0_6_powers => lp_X12_tellsPowers_31 A_0_0_f K k31 x1 A_0_6_powers) K x1 A_0_6_powers → MW D A s.heap [(h0, .inr (11, oX12 r0 I_0_isFound I_0_foundB I_0_changes I_0_taped I_0_size I_0_at I_0_signs I_0_wanted I_0_sign I_0_isKept I_0_keptFound I_0_keptB I_0_keptChanges)), ((r0 0), .inl (cI, 5, .inl A_0_0_f)), ((r0 6), .inl (cI, 125, .inl A_0_6_powers))] H locs → lv_has ls 5 [(0, .ref h0), (1, .int x1)] → W p l e rm_X12_tellsPowers s m args below meth c H locs 0 0 Q (F0 m 120 ls []) := by
        intro x1 A_0_6_powers H locs ls h hM hl
        unfold jn_X12_tellsPowers_120 at h
        refine lv_iinc (v := (x1 + (1 : Int32))) (lv' := [(1, .int (x1 + (1 : Int32))), (0, .ref h0)]) hx hb dX12_tellsPowers_120 hl (k := 1) rfl rfl (by decide) rfl (fun ls hl => ?_)
        refine lv_goto (tgt := 31) hx hb dX12_tellsPowers_123 (by decide) ?_
        exact ih31 _ _ _ _ _ h hM (lv_sub hl [1, 0] rfl)
      have lq38 : ∀ (k38 : Nat) (x1 : Int32) (x2 : Int32) (A_0_6_powers : (Nat → Int32)) (H : Heap) (locs : List Loc) (ls : Array Slot) , lp_X12_tellsPowers_38 A_0_0_f (jn_X12_tellsPowers_120 A_0_0_f (fun x1 A_0_6_powers => lp_X12_tellsPowers_31 A_0_0_f K k31 x1 A_0_6_powers) K) K k38 x1 x2 A_0_6_powers → MW D A s.heap [(h0, .inr (11, oX12 r0 I_0_isFound I_0_foundB I_0_changes I_0_taped I_0_size I_0_at I_0_signs I_0_wanted I_0_sign I_0_isKept I_0_keptFound I_0_keptB I_0_keptChanges)), ((r0 0), .inl (cI, 5, .inl A_0_0_f)), ((r0 6), .inl (cI, 125, .inl A_0_6_powers))] H locs → lv_has ls 5 [(0, .ref h0), (1, .int x1), (2, .int x2)] → W p l e rm_X12_tellsPowers s m args below meth c H locs 0 0 Q (F0 m 38 ls []) := by
        intro k38
        induction k38 with
        | zero =>
          intro x1 x2 A_0_6_powers H locs ls h
          unfold lp_X12_tellsPowers_38 at h
          exact h.elim
        | succ k38 ih38 =>
          have jq114 : ∀ (x1 : Int32) (x2 : Int32) (A_0_6_powers : (Nat → Int32)) (H : Heap) (locs : List Loc) (ls : Array Slot) , jn_X12_tellsPowers_114 A_0_0_f (fun x1 x2 A_0_6_powers => lp_X12_tellsPowers_38 A_0_0_f (jn_X12_tellsPowers_120 A_0_0_f (fun x1 A_0_6_powers => lp_X12_tellsPowers_31 A_0_0_f K k31 x1 A_0_6_powers) K) K k38 x1 x2 A_0_6_powers) (jn_X12_tellsPowers_120 A_0_0_f (fun x1 A_0_6_powers => lp_X12_tellsPowers_31 A_0_0_f K k31 x1 A_0_6_powers) K) K x1 x2 A_0_6_powers → MW D A s.heap [(h0, .inr (11, oX12 r0 I_0_isFound I_0_foundB I_0_changes I_0_taped I_0_size I_0_at I_0_signs I_0_wanted I_0_sign I_0_isKept I_0_keptFound I_0_keptB I_0_keptChanges)), ((r0 0), .inl (cI, 5, .inl A_0_0_f)), ((r0 6), .inl (cI, 125, .inl A_0_6_powers))] H locs → lv_has ls 5 [(0, .ref h0), (1, .int x1), (2, .int x2)] → W p l e rm_X12_tellsPowers s m args below meth c H locs 0 0 Q (F0 m 114 ls []) := by
            intro x1 x2 A_0_6_powers H locs ls h hM hl
            unfold jn_X12_tellsPowers_114 at h
            refine lv_iinc (v := (x2 + (1 : Int32))) (lv' := [(2, .int (x2 + (1 : Int32))), (0, .ref h0), (1, .int x1)]) hx hb dX12_tellsPowers_114 hl (k := 2) rfl rfl (by decide) rfl (fun ls hl => ?_)
            refine lv_goto (tgt := 38) hx hb dX12_tellsPowers_117 (by decide) ?_
            exact ih38 _ _ _ _ _ _ h hM (lv_sub hl [1, 2, 0] rfl)
          have lq46 : ∀ (k46 : Nat) (x1 : Int32) (x2 : Int32) (x3 : Int32) (A_0_6_powers : (Nat → Int32)) (H : Heap) (locs : List Loc) (ls : Array Slot) , lp_X12_tellsPowers_46 A_0_0_f (jn_X12_tellsPowers_114 A_0_0_f (fun x1 x2 A_0_6_powers => lp_X12_tellsPowers_38 A_0_0_f (jn_X12_tellsPowers_120 A_0_0_f (fun x1 A_0_6_powers => lp_X12_tellsPowers_31 A_0_0_f K k31 x1 A_0_6_powers) K) K k38 x1 x2 A_0_6_powers) (jn_X12_tellsPowers_120 A_0_0_f (fun x1 A_0_6_powers => lp_X12_tellsPowers_31 A_0_0_f K k31 x1 A_0_6_powers) K) K) K k46 x1 x2 x3 A_0_6_powers → MW D A s.heap [(h0, .inr (11, oX12 r0 I_0_isFound I_0_foundB I_0_changes I_0_taped I_0_size I_0_at I_0_signs I_0_wanted I_0_sign I_0_isKept I_0_keptFound I_0_keptB I_0_keptChanges)), ((r0 0), .inl (cI, 5, .inl A_0_0_f)), ((r0 6), .inl (cI, 125, .inl A_0_6_powers))] H locs → lv_has ls 5 [(0, .ref h0), (1, .int x1), (2, .int x2), (3, .int x3)] → W p l e rm_X12_tellsPowers s m args below meth c H locs 0 0 Q (F0 m 46 ls []) := by
            intro k46
            induction k46 with
            | zero =>
              intro x1 x2 x3 A_0_6_powers H locs ls h
              unfold lp_X12_tellsPowers_46 at h
              exact h.elim
            | succ k46 ih46 =>
              intro x1 x2 x3 A_0_6_powers H locs ls h hM hl
              unfold lp_X12_tellsPowers_46 at h
              refine lv_iload_n hx hb dX12_tellsPowers_46 rfl (lv_at hl 3 rfl) ?_
              refine lv_iconst (v := (5 : Int32)) hx hb dX12_tellsPowers_47 (by decide) ?_
              refine lv_icmp_ge (tgt := 114) hx hb dX12_tellsPowers_48 (by decide) (fun hq => ?_) (fun hq => ?_)
              · have h := h.1 hq
                exact jq114 _ _ _ _ _ _ h hM (lv_sub hl [0, 1, 2] rfl)
              · have h := h.2 hq
                refine lv_iload_n hx hb dX12_tellsPowers_51 rfl (lv_at hl 2 rfl) ?_
                refine lv_iload_n hx hb dX12_tellsPowers_52 rfl (lv_at hl 3 rfl) ?_
                refine lv_iadd hx hb dX12_tellsPowers_53 ?_
                refine lv_bipush (v := (25 : Int32)) hx hb dX12_tellsPowers_54 (by decide) ?_
                refine lv_icmp_ge (tgt := 114) hx hb dX12_tellsPowers_56 (by decide) (fun hq => ?_) (fun hq => ?_)
                · have h := h.1 hq
                  exact jq114 _ _ _ _ _ _ h hM (lv_sub hl [0, 1, 2] rfl)
                · have h := h.2 hq
                  refine lv_bipush (v := (25 : Int32)) hx hb dX12_tellsPowers_59 (by decide) ?_
                  refine lv_iload_n hx hb dX12_tellsPowers_61 rfl (lv_at hl 1 rfl) ?_
                  refine lv_imul hx hb dX12_tellsPowers_62 ?_
                  refine lv_iload_n hx hb dX12_tellsPowers_63 rfl (lv_at hl 2 rfl) ?_
                  refine lv_iadd hx hb dX12_tellsPowers_64 ?_
                  refine lv_iload_n hx hb dX12_tellsPowers_65 rfl (lv_at hl 3 rfl) ?_
                  refine lv_iadd hx hb dX12_tellsPowers_66 ?_
                  refine lv_topi (fun y1 ey1 => ?_)
                  have h := h y1 ey1
                  refine lv_istore (lv' := [(4, .int y1), (0, .ref h0), (1, .int x1), (2, .int x2), (3, .int x3)]) hx hb dX12_tellsPowers_67 hl (by decide) rfl (fun ls hl => ?_)
                  refine lv_aload_n hx hb dX12_tellsPowers_69 rfl (lv_at hl 1 rfl) ?_
                  refine m_get (C := RX12) (T := TX12) (N := 45) (ci := 11) (ref := "LoweredPowersModel") (v := .ref (r0 6)) C0 hM 0 rfl rfl kt_X12_tellsPowers_X12 6 (by decide) kw_X12_tellsPowers_1 rfl rfl dX12_tellsPowers_70 ?_
                  refine lv_iload hx hb dX12_tellsPowers_73 (lv_at hl 0 rfl) ?_
                  refine lv_aload_n hx hb dX12_tellsPowers_75 rfl (lv_at hl 1 rfl) ?_
                  refine m_get (C := RX12) (T := TX12) (N := 45) (ci := 11) (ref := "LoweredPowersModel") (v := .ref (r0 6)) C0 hM 0 rfl rfl kt_X12_tellsPowers_X12 6 (by decide) kw_X12_tellsPowers_1 rfl rfl dX12_tellsPowers_76 ?_
                  refine lv_iload hx hb dX12_tellsPowers_79 (lv_at hl 0 rfl) ?_
                  obtain ⟨hc2, h⟩ := h
                  refine m_iald C0 hM 2 rfl hc2 dX12_tellsPowers_81 ?_
                  refine lv_aload_n hx hb dX12_tellsPowers_82 rfl (lv_at hl 1 rfl) ?_
                  refine m_get (C := RX12) (T := TX12) (N := 45) (ci := 11) (ref := "LoweredPowersModel") (v := .ref (r0 6)) C0 hM 0 rfl rfl kt_X12_tellsPowers_X12 6 (by decide) kw_X12_tellsPowers_1 rfl rfl dX12_tellsPowers_83 ?_
                  refine lv_bipush (v := (25 : Int32)) hx hb dX12_tellsPowers_86 (by decide) ?_
                  refine lv_iload_n hx hb dX12_tellsPowers_88 rfl (lv_at hl 2 rfl) ?_
                  refine lv_iconst (v := (1 : Int32)) hx hb dX12_tellsPowers_89 (by decide) ?_
                  refine lv_isub hx hb dX12_tellsPowers_90 ?_
                  refine lv_imul hx hb dX12_tellsPowers_91 ?_
                  refine lv_iload_n hx hb dX12_tellsPowers_92 rfl (lv_at hl 3 rfl) ?_
                  refine lv_iadd hx hb dX12_tellsPowers_93 ?_
                  obtain ⟨hc3, h⟩ := h
                  refine m_iald C0 hM 2 rfl hc3 dX12_tellsPowers_94 ?_
                  refine lv_aload_n hx hb dX12_tellsPowers_95 rfl (lv_at hl 1 rfl) ?_
                  refine m_get (C := RX12) (T := TX12) (N := 45) (ci := 11) (ref := "LoweredPowersModel") (v := .ref (r0 0)) C0 hM 0 rfl rfl kt_X12_tellsPowers_X12 0 (by decide) kw_X12_tellsPowers_2 rfl rfl dX12_tellsPowers_96 ?_
                  refine lv_iload_n hx hb dX12_tellsPowers_99 rfl (lv_at hl 4 rfl) ?_
                  obtain ⟨hc4, h⟩ := h
                  refine m_iald C0 hM 1 rfl hc4 dX12_tellsPowers_100 ?_
                  refine lv_imul hx hb dX12_tellsPowers_101 ?_
                  refine lv_iadd hx hb dX12_tellsPowers_102 ?_
                  refine lv_sipush (v := (10007 : Int32)) hx hb dX12_tellsPowers_103 (by decide) ?_
                  refine lv_irem hx hb dX12_tellsPowers_106 (by decide) ?_
                  refine lv_topi (fun y5 ey5 => ?_)
                  have h := h y5 ey5
                  refine m_iast (ws' := [(h0, .inr (11, oX12 r0 I_0_isFound I_0_foundB I_0_changes I_0_taped I_0_size I_0_at I_0_signs I_0_wanted I_0_sign I_0_isKept I_0_keptFound I_0_keptB I_0_keptChanges)), ((r0 0), .inl (cI, 5, .inl A_0_0_f)), ((r0 6), .inl (cI, 125, .inl (upd A_0_6_powers (y1).toNatClampNeg y5)))]) C0 hM 2 rfl hc2 rfl dX12_tellsPowers_107 (fun H locs hM => ?_)
                  refine lv_iinc (v := (x3 + (1 : Int32))) (lv' := [(3, .int (x3 + (1 : Int32))), (4, .int y1), (0, .ref h0), (1, .int x1), (2, .int x2)]) hx hb dX12_tellsPowers_108 hl (k := 4) rfl rfl (by decide) rfl (fun ls hl => ?_)
                  refine lv_goto (tgt := 46) hx hb dX12_tellsPowers_111 (by decide) ?_
                  exact ih46 _ _ _ _ _ _ _ h hM (lv_sub hl [2, 3, 4, 0] rfl)
          intro x1 x2 A_0_6_powers H locs ls h hM hl
          unfold lp_X12_tellsPowers_38 at h
          refine lv_iload_n hx hb dX12_tellsPowers_38 rfl (lv_at hl 2 rfl) ?_
          refine lv_bipush (v := (25 : Int32)) hx hb dX12_tellsPowers_39 (by decide) ?_
          refine lv_icmp_ge (tgt := 120) hx hb dX12_tellsPowers_41 (by decide) (fun hq => ?_) (fun hq => ?_)
          · have h := h.1 hq
            exact jq120 _ _ _ _ _ h hM (lv_sub hl [0, 1] rfl)
          · have h := h.2 hq
            refine lv_iconst (v := (0 : Int32)) hx hb dX12_tellsPowers_44 (by decide) ?_
            refine lv_istore_n (lv' := [(3, .int (0 : Int32)), (0, .ref h0), (1, .int x1), (2, .int x2)]) hx hb dX12_tellsPowers_45 rfl hl (by decide) rfl (fun ls hl => ?_)
            obtain ⟨k0, h⟩ := h
            exact lq46 k0 _ _ _ _ _ _ _ h hM (lv_sub hl [1, 2, 3, 0] rfl)
      intro x1 A_0_6_powers H locs ls h hM hl
      unfold lp_X12_tellsPowers_31 at h
      refine lv_iload_n hx hb dX12_tellsPowers_31 rfl (lv_at hl 1 rfl) ?_
      refine lv_iconst (v := (5 : Int32)) hx hb dX12_tellsPowers_32 (by decide) ?_
      refine lv_icmp_ge (tgt := 126) hx hb dX12_tellsPowers_33 (by decide) (fun hq => ?_) (fun hq => ?_)
      · have h := h.1 hq
        subst hsz; subst hA; subst hQ
        exact m_vret C0 hr hM A_0_6_powers h rfl dX12_tellsPowers_126
      · have h := h.2 hq
        refine lv_iconst (v := (0 : Int32)) hx hb dX12_tellsPowers_36 (by decide) ?_
        refine lv_istore_n (lv' := [(2, .int (0 : Int32)), (0, .ref h0), (1, .int x1)]) hx hb dX12_tellsPowers_37 rfl hl (by decide) rfl (fun ls hl => ?_)
        obtain ⟨k0, h⟩ := h
        exact lq38 k0 _ _ _ _ _ _ h hM (lv_sub hl [1, 2, 0] rfl)
  have jq29 : ∀ (A_0_6_powers : (Nat → Int32)) (H : Heap) (locs : List Loc) (ls : Array Slot) , jn_X12_tellsPowers_29 A_0_0_f K A_0_6_powers → MW D A s.heap [(h0, .inr (11, oX12 r0 I_0_isFound I_0_foundB I_0_changes I_0_taped I_0_size I_0_at I_0_signs I_0_wanted I_0_sign I_0_isKept I_0_keptFound I_0_keptB I_0_keptChanges)), ((r0 0), .inl (cI, 5, .inl A_0_0_f)), ((r0 6), .inl (cI, 125, .inl A_0_6_powers))] H locs → lv_has ls 5 [(0, .ref h0)] → W p l e rm_X12_tellsPowers s m args below meth c H locs 0 0 Q (F0 m 29 ls []) := by
    intro A_0_6_powers H locs ls h hM hl
    unfold jn_X12_tellsPowers_29 at h
    refine lv_iconst (v := (1 : Int32)) hx hb dX12_tellsPowers_29 (by decide) ?_
    refine lv_istore_n (lv' := [(1, .int (1 : Int32)), (0, .ref h0)]) hx hb dX12_tellsPowers_30 rfl hl (by decide) rfl (fun ls hl => ?_)
    obtain ⟨k0, h⟩ := h
    exact lq31 k0 _ _ _ _ _ h hM (lv_sub hl [1, 0] rfl)
  have lq2 : ∀ (k2 : Nat) (x1 : Int32) (A_0_6_powers : (Nat → Int32)) (H : Heap) (locs : List Loc) (ls : Array Slot) , lp_X12_tellsPowers_2 A_0_0_f (jn_X12_tellsPowers_29 A_0_0_f K) K k2 x1 A_0_6_powers → MW D A s.heap [(h0, .inr (11, oX12 r0 I_0_isFound I_0_foundB I_0_changes I_0_taped I_0_size I_0_at I_0_signs I_0_wanted I_0_sign I_0_isKept I_0_keptFound I_0_keptB I_0_keptChanges)), ((r0 0), .inl (cI, 5, .inl A_0_0_f)), ((r0 6), .inl (cI, 125, .inl A_0_6_powers))] H locs → lv_has ls 5 [(0, .ref h0), (1, .int x1)] → W p l e rm_X12_tellsPowers s m args below meth c H locs 0 0 Q (F0 m 2 ls []) := by
    intro k2
    induction k2 with
    | zero =>
      intro x1 A_0_6_powers H locs ls h
      unfold lp_X12_tellsPowers_2 at h
      exact h.elim
    | succ k2 ih2 =>
      have jq22 : ∀ (x1 : Int32) (s1 : Int32) (s2 : Int32) (A_0_6_powers : (Nat → Int32)) (H : Heap) (locs : List Loc) (ls : Array Slot) , jn_X12_tellsPowers_22 A_0_0_f (fun x1 A_0_6_powers => lp_X12_tellsPowers_2 A_0_0_f (jn_X12_tellsPowers_29 A_0_0_f K) K k2 x1 A_0_6_powers) (jn_X12_tellsPowers_29 A_0_0_f K) K x1 s1 s2 A_0_6_powers → MW D A s.heap [(h0, .inr (11, oX12 r0 I_0_isFound I_0_foundB I_0_changes I_0_taped I_0_size I_0_at I_0_signs I_0_wanted I_0_sign I_0_isKept I_0_keptFound I_0_keptB I_0_keptChanges)), ((r0 0), .inl (cI, 5, .inl A_0_0_f)), ((r0 6), .inl (cI, 125, .inl A_0_6_powers))] H locs → lv_has ls 5 [(0, .ref h0), (1, .int x1)] → W p l e rm_X12_tellsPowers s m args below meth c H locs 0 0 Q (F0 m 22 ls [.int s2, .int s1, .ref (r0 6)]) := by
        intro x1 s1 s2 A_0_6_powers H locs ls h hM hl
        unfold jn_X12_tellsPowers_22 at h
        obtain ⟨hc6, h⟩ := h
        refine m_iast (ws' := [(h0, .inr (11, oX12 r0 I_0_isFound I_0_foundB I_0_changes I_0_taped I_0_size I_0_at I_0_signs I_0_wanted I_0_sign I_0_isKept I_0_keptFound I_0_keptB I_0_keptChanges)), ((r0 0), .inl (cI, 5, .inl A_0_0_f)), ((r0 6), .inl (cI, 125, .inl (upd A_0_6_powers (s1).toNatClampNeg s2)))]) C0 hM 2 rfl hc6 rfl dX12_tellsPowers_22 (fun H locs hM => ?_)
        refine lv_iinc (v := (x1 + (1 : Int32))) (lv' := [(1, .int (x1 + (1 : Int32))), (0, .ref h0)]) hx hb dX12_tellsPowers_23 hl (k := 1) rfl rfl (by decide) rfl (fun ls hl => ?_)
        refine lv_goto (tgt := 2) hx hb dX12_tellsPowers_26 (by decide) ?_
        exact ih2 _ _ _ _ _ h hM (lv_sub hl [1, 0] rfl)
      intro x1 A_0_6_powers H locs ls h hM hl
      unfold lp_X12_tellsPowers_2 at h
      refine lv_iload_n hx hb dX12_tellsPowers_2 rfl (lv_at hl 1 rfl) ?_
      refine lv_bipush (v := (125 : Int32)) hx hb dX12_tellsPowers_3 (by decide) ?_
      refine lv_icmp_ge (tgt := 29) hx hb dX12_tellsPowers_5 (by decide) (fun hq => ?_) (fun hq => ?_)
      · have h := h.1 hq
        exact jq29 _ _ _ _ h hM (lv_sub hl [0] rfl)
      · have h := h.2 hq
        refine lv_aload_n hx hb dX12_tellsPowers_8 rfl (lv_at hl 0 rfl) ?_
        refine m_get (C := RX12) (T := TX12) (N := 45) (ci := 11) (ref := "LoweredPowersModel") (v := .ref (r0 6)) C0 hM 0 rfl rfl kt_X12_tellsPowers_X12 6 (by decide) kw_X12_tellsPowers_1 rfl rfl dX12_tellsPowers_9 ?_
        refine lv_iload_n hx hb dX12_tellsPowers_12 rfl (lv_at hl 1 rfl) ?_
        refine lv_iload_n hx hb dX12_tellsPowers_13 rfl (lv_at hl 1 rfl) ?_
        refine lv_if_ne (tgt := 21) hx hb dX12_tellsPowers_14 (by decide) (fun hq => ?_) (fun hq => ?_)
        · have h := h.1 hq
          refine lv_iconst (v := (0 : Int32)) hx hb dX12_tellsPowers_21 (by decide) ?_
          exact jq22 _ _ _ _ _ _ _ h hM (lv_sub hl [0, 1] rfl)
        · have h := h.2 hq
          refine lv_iconst (v := (1 : Int32)) hx hb dX12_tellsPowers_17 (by decide) ?_
          refine lv_goto (tgt := 22) hx hb dX12_tellsPowers_18 (by decide) ?_
          exact jq22 _ _ _ _ _ _ _ h hM (lv_sub hl [0, 1] rfl)
  unfold wp_X12_tellsPowers at h
  refine lv_iconst (v := (0 : Int32)) hx hb dX12_tellsPowers_0 (by decide) ?_
  refine lv_istore_n (lv' := [(1, .int (0 : Int32)), (0, .ref h0)]) hx hb dX12_tellsPowers_1 rfl hl (by decide) rfl (fun ls hl => ?_)
  obtain ⟨k0, h⟩ := h
  exact lq2 k0 _ _ _ _ _ h hM (lv_sub hl [1, 0] rfl)
abbrev rm_X12_adds : Room := { frames := 0, cells := 0, slots := 0, locals := 0 }
set_option maxRecDepth 100000 in
set_option maxHeartbeats 4000000 in
theorem ct_X12_adds (l : Launch) (D : va_G) (cI cJ cZ : ClassId) (h0 : Nat) (r0 : Nat → Nat) (I_0_isFound : Int32) (I_0_foundB : Int32) (I_0_changes : Int32) (I_0_taped : Int32) (I_0_size : Int32) (I_0_at : Int32) (I_0_signs : Int32) (I_0_wanted : Int32) (I_0_sign : Int32) (I_0_isKept : Int32) (I_0_keptFound : Int32) (I_0_keptB : Int32) (I_0_keptChanges : Int32) (A_0_7_lefts : (Nat → Int32)) (x1 : Int32) (x2 : Int32) (sz : Nat) (K : (Nat → Int32) → Prop) (h : wp_X12_adds x1 x2 A_0_7_lefts K) : Met l yX12_adds wsX12_adds rm_X12_adds (va_Pc [.ref h0, .int x1, .int x2] (WX D cI cJ cZ [(h0, .inr (11, oX12 r0 I_0_isFound I_0_foundB I_0_changes I_0_taped I_0_size I_0_at I_0_signs I_0_wanted I_0_sign I_0_isKept I_0_keptFound I_0_keptB I_0_keptChanges)), ((r0 7), .inl (cI, 1125, .inl A_0_7_lefts))] sz)) (va_Qv (fun (u : (Nat → Int32)) => K u) (fun (u : (Nat → Int32)) t => WY D (va_A [(h0, .inr (11, oX12 r0 I_0_isFound I_0_foundB I_0_changes I_0_taped I_0_size I_0_at I_0_signs I_0_wanted I_0_sign I_0_isKept I_0_keptFound I_0_keptB I_0_keptChanges)), ((r0 7), .inl (cI, 1125, .inl A_0_7_lefts))] sz) [(h0, .inr (11, oX12 r0 I_0_isFound I_0_foundB I_0_changes I_0_taped I_0_size I_0_at I_0_signs I_0_wanted I_0_sign I_0_isKept I_0_keptFound I_0_keptB I_0_keptChanges)), ((r0 7), .inl (cI, 1125, .inl u))] t) (va_A [(h0, .inr (11, oX12 r0 I_0_isFound I_0_foundB I_0_changes I_0_taped I_0_size I_0_at I_0_signs I_0_wanted I_0_sign I_0_isKept I_0_keptFound I_0_keptB I_0_keptChanges)), ((r0 7), .inl (cI, 1125, .inl A_0_7_lefts))] sz)) 0 0 (va_A [(h0, .inr (11, oX12 r0 I_0_isFound I_0_foundB I_0_changes I_0_taped I_0_size I_0_at I_0_signs I_0_wanted I_0_sign I_0_isKept I_0_keptFound I_0_keptB I_0_keptChanges)), ((r0 7), .inl (cI, 1125, .inl A_0_7_lefts))] sz) := by
  refine m_met (own := RX12) (cc := cX12_adds) (maxL := 3) (ret := none) [.ref h0, .int x1, .int x2] [(0, .ref h0), (1, .int x1), (2, .int x2)] (by decide) rfl rfl (Nat.le_of_ble_eq_true rfl) rfl ?_
  intro p e s m args below meth c Q A hQ hA C0 hr hnm hsz hM ls hl
  have hx := C0.1
  have hb := C0.2.1
  have hown := C0.2.2.2.1
  unfold wp_X12_adds at h
  refine lv_aload_n hx hb dX12_adds_0 rfl (lv_at hl 0 rfl) ?_
  refine m_get (C := RX12) (T := TX12) (N := 45) (ci := 11) (ref := "LoweredPowersModel") (v := .ref (r0 7)) C0 hM 0 rfl rfl kt_X12_adds_X12 7 (by decide) kw_X12_adds_1 rfl rfl dX12_adds_1 ?_
  refine lv_iload_n hx hb dX12_adds_4 rfl (lv_at hl 1 rfl) ?_
  refine lv_aload_n hx hb dX12_adds_5 rfl (lv_at hl 0 rfl) ?_
  refine m_get (C := RX12) (T := TX12) (N := 45) (ci := 11) (ref := "LoweredPowersModel") (v := .ref (r0 7)) C0 hM 0 rfl rfl kt_X12_adds_X12 7 (by decide) kw_X12_adds_1 rfl rfl dX12_adds_6 ?_
  refine lv_iload_n hx hb dX12_adds_9 rfl (lv_at hl 1 rfl) ?_
  obtain ⟨hc1, h⟩ := h
  refine m_iald C0 hM 1 rfl hc1 dX12_adds_10 ?_
  refine lv_iload_n hx hb dX12_adds_11 rfl (lv_at hl 2 rfl) ?_
  refine lv_iadd hx hb dX12_adds_12 ?_
  refine lv_sipush (v := (10007 : Int32)) hx hb dX12_adds_13 (by decide) ?_
  refine lv_irem hx hb dX12_adds_16 (by decide) ?_
  refine lv_topi (fun y2 ey2 => ?_)
  have h := h y2 ey2
  refine m_iast (ws' := [(h0, .inr (11, oX12 r0 I_0_isFound I_0_foundB I_0_changes I_0_taped I_0_size I_0_at I_0_signs I_0_wanted I_0_sign I_0_isKept I_0_keptFound I_0_keptB I_0_keptChanges)), ((r0 7), .inl (cI, 1125, .inl (upd A_0_7_lefts (x1).toNatClampNeg y2)))]) C0 hM 1 rfl hc1 rfl dX12_adds_17 (fun H locs hM => ?_)
  subst hsz; subst hA; subst hQ
  exact m_vret C0 hr hM (upd A_0_7_lefts (x1).toNatClampNeg y2) h rfl dX12_adds_18
abbrev rm_X12_derives : Room := { frames := 2, cells := 0, slots := 0, locals := 42 }
set_option maxRecDepth 100000 in
set_option maxHeartbeats 4000000 in
theorem ct_X12_derives (l : Launch) (D : va_G) (cI cJ cZ : ClassId) (h0 : Nat) (r0 : Nat → Nat) (I_0_isFound : Int32) (I_0_foundB : Int32) (I_0_changes : Int32) (I_0_taped : Int32) (I_0_size : Int32) (I_0_at : Int32) (I_0_signs : Int32) (I_0_wanted : Int32) (I_0_sign : Int32) (I_0_isKept : Int32) (I_0_keptFound : Int32) (I_0_keptB : Int32) (I_0_keptChanges : Int32) (A_0_0_f : (Nat → Int32)) (A_0_7_lefts : (Nat → Int32)) (x1 : Int32) (x2 : Int32) (x3 : Int32) (sz : Nat) (K : (Nat → Int32) → Prop) (h : wp_X12_derives x1 x2 x3 A_0_0_f A_0_7_lefts K) : Met l yX12_derives wsX12_derives rm_X12_derives (va_Pc [.ref h0, .int x1, .int x2, .int x3] (WX D cI cJ cZ [(h0, .inr (11, oX12 r0 I_0_isFound I_0_foundB I_0_changes I_0_taped I_0_size I_0_at I_0_signs I_0_wanted I_0_sign I_0_isKept I_0_keptFound I_0_keptB I_0_keptChanges)), ((r0 0), .inl (cI, 5, .inl A_0_0_f)), ((r0 7), .inl (cI, 1125, .inl A_0_7_lefts))] sz)) (va_Qv (fun (u : (Nat → Int32)) => K u) (fun (u : (Nat → Int32)) t => WY D (va_A [(h0, .inr (11, oX12 r0 I_0_isFound I_0_foundB I_0_changes I_0_taped I_0_size I_0_at I_0_signs I_0_wanted I_0_sign I_0_isKept I_0_keptFound I_0_keptB I_0_keptChanges)), ((r0 0), .inl (cI, 5, .inl A_0_0_f)), ((r0 7), .inl (cI, 1125, .inl A_0_7_lefts))] sz) [(h0, .inr (11, oX12 r0 I_0_isFound I_0_foundB I_0_changes I_0_taped I_0_size I_0_at I_0_signs I_0_wanted I_0_sign I_0_isKept I_0_keptFound I_0_keptB I_0_keptChanges)), ((r0 0), .inl (cI, 5, .inl A_0_0_f)), ((r0 7), .inl (cI, 1125, .inl u))] t) (va_A [(h0, .inr (11, oX12 r0 I_0_isFound I_0_foundB I_0_changes I_0_taped I_0_size I_0_at I_0_signs I_0_wanted I_0_sign I_0_isKept I_0_keptFound I_0_keptB I_0_keptChanges)), ((r0 0), .inl (cI, 5, .inl A_0_0_f)), ((r0 7), .inl (cI, 1125, .inl A_0_7_lefts))] sz)) 0 0 (va_A [(h0, .inr (11, oX12 r0 I_0_isFound I_0_foundB I_0_changes I_0_taped I_0_size I_0_at I_0_signs I_0_wanted I_0_sign I_0_isKept I_0_keptFound I_0_keptB I_0_keptChanges)), ((r0 0), .inl (cI, 5, .inl A_0_0_f)), ((r0 7), .inl (cI, 1125, .inl A_0_7_lefts))] sz) := by
  refine m_met (own := RX12) (cc := cX12_derives) (maxL := 8) (ret := none) [.ref h0, .int x1, .int x2, .int x3] [(0, .ref h0), (1, .int x1), (2, .int x2), (3, .int x3)] (by decide) rfl rfl (Nat.le_of_ble_eq_true rfl) rfl ?_
  intro p e s m args below meth c Q A hQ hA C0 hr hnm hsz hM ls hl
  have hx := C0.1
  have hb := C0.2.1
  have hown := C0.2.2.2.1
  have lq22 : ∀ (k22 : Nat) (x4 : Int32) (x5 : Int32) (A_0_7_lefts : (Nat → Int32)) (H : Heap) (locs : List Loc) (ls : Array Slot) , lp_X12_derives_22 x1 x2 x3 A_0_0_f K k22 x4 x5 A_0_7_lefts → MW D A s.heap [(h0, .inr (11, oX12 r0 I_0_isFound I_0_foundB I_0_changes I_0_taped I_0_size I_0_at I_0_signs I_0_wanted I_0_sign I_0_isKept I_0_keptFound I_0_keptB I_0_keptChanges)), ((r0 0), .inl (cI, 5, .inl A_0_0_f)), ((r0 7), .inl (cI, 1125, .inl A_0_7_lefts))] H locs → lv_has ls 8 [(0, .ref h0), (1, .int x1), (2, .int x2), (3, .int x3), (4, .int x4), (5, .int x5)] → W p l e rm_X12_derives s m args below meth c H locs 0 0 Q (F0 m 22 ls []) := by
    intro k22
    induction k22 with
    | zero =>
      intro x4 x5 A_0_7_lefts H locs ls h
      unfold lp_X12_derives_22 at h
      exact h.elim
    | succ k22 ih22 =>
      have jq165 : ∀ (x4 : Int32) (x5 : Int32) (A_0_7_lefts : (Nat → Int32)) (H : Heap) (locs : List Loc) (ls : Array Slot) , jn_X12_derives_165 x1 x2 x3 A_0_0_f (fun x4 x5 A_0_7_lefts => lp_X12_derives_22 x1 x2 x3 A_0_0_f K k22 x4 x5 A_0_7_lefts) K x4 x5 A_0_7_lefts → MW D A s.heap [(h0, .inr (11, oX12 r0 I_0_isFound I_0_foundB I_0_changes I_0_taped I_0_size I_0_at I_0_signs I_0_wanted I_0_sign I_0_isKept I_0_keptFound I_0_keptB I_0_keptChanges)), ((r0 0), .inl (cI, 5, .inl A_0_0_f)), ((r0 7), .inl (cI, 1125, .inl A_0_7_lefts))] H locs → lv_has ls 8 [(0, .ref h0), (1, .int x1), (2, .int x2), (3, .int x3), (4, .int x4), (5, .int x5)] → W p l e rm_X12_derives s m args below meth c H locs 0 0 Q (F0 m 165 ls []) := by
        intro x4 x5 A_0_7_lefts H locs ls h hM hl
        unfold jn_X12_derives_165 at h
        refine lv_iinc (v := (x5 + (1 : Int32))) (lv' := [(5, .int (x5 + (1 : Int32))), (0, .ref h0), (1, .int x1), (2, .int x2), (3, .int x3), (4, .int x4)]) hx hb dX12_derives_165 hl (k := 5) rfl rfl (by decide) rfl (fun ls hl => ?_)
        refine lv_goto (tgt := 22) hx hb dX12_derives_168 (by decide) ?_
        exact ih22 _ _ _ _ _ _ h hM (lv_sub hl [1, 2, 3, 4, 5, 0] rfl)
      have jq84 : ∀ (x4 : Int32) (x5 : Int32) (x6 : Int32) (A_0_7_lefts : (Nat → Int32)) (H : Heap) (locs : List Loc) (ls : Array Slot) , jn_X12_derives_84 x1 x2 x3 A_0_0_f (fun x4 x5 A_0_7_lefts => lp_X12_derives_22 x1 x2 x3 A_0_0_f K k22 x4 x5 A_0_7_lefts) K x4 x5 x6 A_0_7_lefts → MW D A s.heap [(h0, .inr (11, oX12 r0 I_0_isFound I_0_foundB I_0_changes I_0_taped I_0_size I_0_at I_0_signs I_0_wanted I_0_sign I_0_isKept I_0_keptFound I_0_keptB I_0_keptChanges)), ((r0 0), .inl (cI, 5, .inl A_0_0_f)), ((r0 7), .inl (cI, 1125, .inl A_0_7_lefts))] H locs → lv_has ls 8 [(0, .ref h0), (1, .int x1), (2, .int x2), (3, .int x3), (4, .int x4), (5, .int x5), (6, .int x6)] → W p l e rm_X12_derives s m args below meth c H locs 0 0 Q (F0 m 84 ls []) := by
        intro x4 x5 x6 A_0_7_lefts H locs ls h hM hl
        unfold jn_X12_derives_84 at h
        refine lv_iload hx hb dX12_derives_84 (lv_at hl 5 rfl) ?_
        refine lv_if_le (tgt := 165) hx hb dX12_derives_86 (by decide) (fun hq => ?_) (fun hq => ?_)
        · have h := h.1 hq
          exact jq165 _ _ _ _ _ _ h hM (lv_sub hl [0, 1, 2, 3, 4, 5] rfl)
        · have h := h.2 hq
          refine lv_iload hx hb dX12_derives_89 (lv_at hl 4 rfl) ?_
          refine lv_aload_n hx hb dX12_derives_91 rfl (lv_at hl 0 rfl) ?_
          refine m_get (C := RX12) (T := TX12) (N := 45) (ci := 11) (ref := "LoweredPowersModel") (v := .ref (r0 0)) C0 hM 0 rfl rfl kt_X12_derives_X12 0 (by decide) kw_X12_derives_2 rfl rfl dX12_derives_92 ?_
          refine lv_iload hx hb dX12_derives_95 (lv_at hl 5 rfl) ?_
          obtain ⟨hc1, h⟩ := h
          refine m_iald C0 hM 1 rfl hc1 dX12_derives_97 ?_
          refine lv_imul hx hb dX12_derives_98 ?_
          refine lv_sipush (v := (10007 : Int32)) hx hb dX12_derives_99 (by decide) ?_
          refine lv_irem hx hb dX12_derives_102 (by decide) ?_
          refine lv_topi (fun y2 ey2 => ?_)
          have h := h y2 ey2
          refine lv_iload hx hb dX12_derives_103 (lv_at hl 5 rfl) ?_
          refine lv_imul hx hb dX12_derives_105 ?_
          refine lv_sipush (v := (10007 : Int32)) hx hb dX12_derives_106 (by decide) ?_
          refine lv_irem hx hb dX12_derives_109 (by decide) ?_
          refine lv_topi (fun y3 ey3 => ?_)
          have h := h y3 ey3
          refine lv_istore (lv' := [(7, .int y3), (0, .ref h0), (1, .int x1), (2, .int x2), (3, .int x3), (4, .int x4), (5, .int x5), (6, .int x6)]) hx hb dX12_derives_110 hl (by decide) rfl (fun ls hl => ?_)
          refine lv_aload_n hx hb dX12_derives_112 rfl (lv_at hl 1 rfl) ?_
          refine lv_iload hx hb dX12_derives_113 (lv_at hl 7 rfl) ?_
          refine lv_bipush (v := (9 : Int32)) hx hb dX12_derives_115 (by decide) ?_
          refine lv_iload_n hx hb dX12_derives_117 rfl (lv_at hl 3 rfl) ?_
          refine lv_iload hx hb dX12_derives_118 (lv_at hl 6 rfl) ?_
          refine lv_iadd hx hb dX12_derives_120 ?_
          refine lv_iconst (v := (1 : Int32)) hx hb dX12_derives_121 (by decide) ?_
          refine lv_isub hx hb dX12_derives_122 ?_
          refine lv_imul hx hb dX12_derives_123 ?_
          refine lv_iadd hx hb dX12_derives_124 ?_
          refine lv_iload_n hx hb dX12_derives_125 rfl (lv_at hl 4 rfl) ?_
          refine lv_iadd hx hb dX12_derives_126 ?_
          refine lv_iload hx hb dX12_derives_127 (lv_at hl 0 rfl) ?_
          refine lv_iconst (v := (1 : Int32)) hx hb dX12_derives_129 (by decide) ?_
          refine lv_iload_n hx hb dX12_derives_130 rfl (lv_at hl 2 rfl) ?_
          refine lv_isub hx hb dX12_derives_131 ?_
          refine m_calli (wc := []) C0 hM [] rfl (m_runS (wc := []) (As := [.int ((1 : Int32) - x1)]) (rest := [.int y3, .int ((x6 + ((9 : Int32) * ((x2 + x5) - (1 : Int32)))) + x3), .ref h0]) C0 hM (ct_X12_modulo l D cI cJ cZ ((1 : Int32) - x1) _ _ h) [] rfl (by decide) gX12_derives_X12_modulo rfl rfl rfl hd_X12_modulo ⟨Nat.le_of_ble_eq_true rfl, Nat.le_of_ble_eq_true rfl⟩ rfl hl.1 rfl (Nat.le_of_ble_eq_true rfl) dX12_derives_132 ⟨Nat.le_of_ble_eq_true rfl, Nat.le_of_ble_eq_true rfl⟩) (fun _ => [(h0, .inr (11, oX12 r0 I_0_isFound I_0_foundB I_0_changes I_0_taped I_0_size I_0_at I_0_signs I_0_wanted I_0_sign I_0_isKept I_0_keptFound I_0_keptB I_0_keptChanges)), ((r0 0), .inl (cI, 5, .inl A_0_0_f)), ((r0 7), .inl (cI, 1125, .inl A_0_7_lefts))]) (fun _ => rfl) (fun _ => rfl) (fun y4 _ H locs h hM => ?_)
          refine lv_imul hx hb dX12_derives_135 ?_
          refine lv_sipush (v := (10007 : Int32)) hx hb dX12_derives_136 (by decide) ?_
          refine lv_irem hx hb dX12_derives_139 (by decide) ?_
          refine m_callv (wc := [(h0, .inr (11, oX12 r0 I_0_isFound I_0_foundB I_0_changes I_0_taped I_0_size I_0_at I_0_signs I_0_wanted I_0_sign I_0_isKept I_0_keptFound I_0_keptB I_0_keptChanges)), ((r0 7), .inl (cI, 1125, .inl A_0_7_lefts))]) C0 hM [0, 2] rfl (m_runV (wc := [(h0, .inr (11, oX12 r0 I_0_isFound I_0_foundB I_0_changes I_0_taped I_0_size I_0_at I_0_signs I_0_wanted I_0_sign I_0_isKept I_0_keptFound I_0_keptB I_0_keptChanges)), ((r0 7), .inl (cI, 1125, .inl A_0_7_lefts))]) (As := [.int ((x6 + ((9 : Int32) * ((x2 + x5) - (1 : Int32)))) + x3), .int ((y3 * y4) - (y3 * y4) / (10007 : Int32) * (10007 : Int32))]) (rest := []) (ci := 11) C0 hM (ct_X12_adds l D cI cJ cZ h0 r0 I_0_isFound I_0_foundB I_0_changes I_0_taped I_0_size I_0_at I_0_signs I_0_wanted I_0_sign I_0_isKept I_0_keptFound I_0_keptB I_0_keptChanges A_0_7_lefts ((x6 + ((9 : Int32) * ((x2 + x5) - (1 : Int32)))) + x3) ((y3 * y4) - (y3 * y4) / (10007 : Int32) * (10007 : Int32)) _ _ h) [0, 2] rfl (by decide) gX12_derives_X12_adds rfl rfl rfl rfl rfl hd_X12_adds ⟨Nat.le_of_ble_eq_true rfl, Nat.le_of_ble_eq_true rfl⟩ rfl hl.1 rfl (Nat.le_of_ble_eq_true rfl) dX12_derives_140 ⟨Nat.le_of_ble_eq_true rfl, Nat.le_of_ble_eq_true rfl⟩) (fun u => [(h0, .inr (11, oX12 r0 I_0_isFound I_0_foundB I_0_changes I_0_taped I_0_size I_0_at I_0_signs I_0_wanted I_0_sign I_0_isKept I_0_keptFound I_0_keptB I_0_keptChanges)), ((r0 0), .inl (cI, 5, .inl A_0_0_f)), ((r0 7), .inl (cI, 1125, .inl u))]) (fun _ => rfl) (fun _ => rfl) (fun b5 H locs h hM => ?_)
          refine lv_aload_n hx hb dX12_derives_143 rfl (lv_at hl 1 rfl) ?_
          refine lv_iload hx hb dX12_derives_144 (lv_at hl 7 rfl) ?_
          refine lv_bipush (v := (9 : Int32)) hx hb dX12_derives_146 (by decide) ?_
          refine lv_iload_n hx hb dX12_derives_148 rfl (lv_at hl 3 rfl) ?_
          refine lv_iload hx hb dX12_derives_149 (lv_at hl 6 rfl) ?_
          refine lv_iadd hx hb dX12_derives_151 ?_
          refine lv_iconst (v := (1 : Int32)) hx hb dX12_derives_152 (by decide) ?_
          refine lv_isub hx hb dX12_derives_153 ?_
          refine lv_imul hx hb dX12_derives_154 ?_
          refine lv_iadd hx hb dX12_derives_155 ?_
          refine lv_iload_n hx hb dX12_derives_156 rfl (lv_at hl 4 rfl) ?_
          refine lv_iadd hx hb dX12_derives_157 ?_
          refine lv_iconst (v := (1 : Int32)) hx hb dX12_derives_158 (by decide) ?_
          refine lv_iadd hx hb dX12_derives_159 ?_
          refine lv_iload hx hb dX12_derives_160 (lv_at hl 0 rfl) ?_
          refine m_callv (wc := [(h0, .inr (11, oX12 r0 I_0_isFound I_0_foundB I_0_changes I_0_taped I_0_size I_0_at I_0_signs I_0_wanted I_0_sign I_0_isKept I_0_keptFound I_0_keptB I_0_keptChanges)), ((r0 7), .inl (cI, 1125, .inl b5))]) C0 hM [0, 2] rfl (m_runV (wc := [(h0, .inr (11, oX12 r0 I_0_isFound I_0_foundB I_0_changes I_0_taped I_0_size I_0_at I_0_signs I_0_wanted I_0_sign I_0_isKept I_0_keptFound I_0_keptB I_0_keptChanges)), ((r0 7), .inl (cI, 1125, .inl b5))]) (As := [.int (((x6 + ((9 : Int32) * ((x2 + x5) - (1 : Int32)))) + x3) + (1 : Int32)), .int y3]) (rest := []) (ci := 11) C0 hM (ct_X12_adds l D cI cJ cZ h0 r0 I_0_isFound I_0_foundB I_0_changes I_0_taped I_0_size I_0_at I_0_signs I_0_wanted I_0_sign I_0_isKept I_0_keptFound I_0_keptB I_0_keptChanges b5 (((x6 + ((9 : Int32) * ((x2 + x5) - (1 : Int32)))) + x3) + (1 : Int32)) y3 _ _ h) [0, 2] rfl (by decide) gX12_derives_X12_adds rfl rfl rfl rfl rfl hd_X12_adds ⟨Nat.le_of_ble_eq_true rfl, Nat.le_of_ble_eq_true rfl⟩ rfl hl.1 rfl (Nat.le_of_ble_eq_true rfl) dX12_derives_162 ⟨Nat.le_of_ble_eq_true rfl, Nat.le_of_ble_eq_true rfl⟩) (fun u => [(h0, .inr (11, oX12 r0 I_0_isFound I_0_foundB I_0_changes I_0_taped I_0_size I_0_at I_0_signs I_0_wanted I_0_sign I_0_isKept I_0_keptFound I_0_keptB I_0_keptChanges)), ((r0 0), .inl (cI, 5, .inl A_0_0_f)), ((r0 7), .inl (cI, 1125, .inl u))]) (fun _ => rfl) (fun _ => rfl) (fun b6 H locs h hM => ?_)
          exact jq165 _ _ _ _ _ _ h hM (lv_sub hl [1, 2, 3, 4, 5, 6] rfl)
      intro x4 x5 A_0_7_lefts H locs ls h hM hl
      unfold lp_X12_derives_22 at h
      refine lv_iload hx hb dX12_derives_22 (lv_at hl 5 rfl) ?_
      refine lv_iconst (v := (5 : Int32)) hx hb dX12_derives_24 (by decide) ?_
      refine lv_icmp_ge (tgt := 171) hx hb dX12_derives_25 (by decide) (fun hq => ?_) (fun hq => ?_)
      · have h := h.1 hq
        subst hsz; subst hA; subst hQ
        exact m_vret C0 hr hM A_0_7_lefts h rfl dX12_derives_171
      · have h := h.2 hq
        refine lv_iload hx hb dX12_derives_28 (lv_at hl 4 rfl) ?_
        refine lv_if_le (tgt := 171) hx hb dX12_derives_30 (by decide) (fun hq => ?_) (fun hq => ?_)
        · have h := h.1 hq
          subst hsz; subst hA; subst hQ
          exact m_vret C0 hr hM A_0_7_lefts h rfl dX12_derives_171
        · have h := h.2 hq
          refine lv_sipush (v := (225 : Int32)) hx hb dX12_derives_33 (by decide) ?_
          refine lv_iload_n hx hb dX12_derives_36 rfl (lv_at hl 1 rfl) ?_
          refine lv_iconst (v := (1 : Int32)) hx hb dX12_derives_37 (by decide) ?_
          refine lv_iadd hx hb dX12_derives_38 ?_
          refine lv_imul hx hb dX12_derives_39 ?_
          refine lv_topi (fun y7 ey7 => ?_)
          have h := h y7 ey7
          refine lv_istore (lv' := [(6, .int y7), (0, .ref h0), (1, .int x1), (2, .int x2), (3, .int x3), (4, .int x4), (5, .int x5)]) hx hb dX12_derives_40 hl (by decide) rfl (fun ls hl => ?_)
          refine lv_iload_n hx hb dX12_derives_42 rfl (lv_at hl 3 rfl) ?_
          refine lv_if_le (tgt := 84) hx hb dX12_derives_43 (by decide) (fun hq => ?_) (fun hq => ?_)
          · have h := h.1 hq
            exact jq84 _ _ _ _ _ _ _ h hM (lv_sub hl [1, 2, 3, 4, 5, 6, 0] rfl)
          · have h := h.2 hq
            refine lv_aload_n hx hb dX12_derives_46 rfl (lv_at hl 1 rfl) ?_
            refine lv_iload hx hb dX12_derives_47 (lv_at hl 0 rfl) ?_
            refine lv_bipush (v := (9 : Int32)) hx hb dX12_derives_49 (by decide) ?_
            refine lv_iload_n hx hb dX12_derives_51 rfl (lv_at hl 3 rfl) ?_
            refine lv_iconst (v := (1 : Int32)) hx hb dX12_derives_52 (by decide) ?_
            refine lv_isub hx hb dX12_derives_53 ?_
            refine lv_iload hx hb dX12_derives_54 (lv_at hl 6 rfl) ?_
            refine lv_iadd hx hb dX12_derives_56 ?_
            refine lv_imul hx hb dX12_derives_57 ?_
            refine lv_iadd hx hb dX12_derives_58 ?_
            refine lv_iload_n hx hb dX12_derives_59 rfl (lv_at hl 4 rfl) ?_
            refine lv_iadd hx hb dX12_derives_60 ?_
            refine lv_iload hx hb dX12_derives_61 (lv_at hl 5 rfl) ?_
            refine lv_aload_n hx hb dX12_derives_63 rfl (lv_at hl 1 rfl) ?_
            refine m_get (C := RX12) (T := TX12) (N := 45) (ci := 11) (ref := "LoweredPowersModel") (v := .ref (r0 0)) C0 hM 0 rfl rfl kt_X12_derives_X12 0 (by decide) kw_X12_derives_2 rfl rfl dX12_derives_64 ?_
            refine lv_iload hx hb dX12_derives_67 (lv_at hl 6 rfl) ?_
            obtain ⟨hc8, h⟩ := h
            refine m_iald C0 hM 1 rfl hc8 dX12_derives_69 ?_
            refine lv_imul hx hb dX12_derives_70 ?_
            refine lv_sipush (v := (10007 : Int32)) hx hb dX12_derives_71 (by decide) ?_
            refine lv_irem hx hb dX12_derives_74 (by decide) ?_
            refine lv_topi (fun y9 ey9 => ?_)
            have h := h y9 ey9
            refine lv_iload_n hx hb dX12_derives_75 rfl (lv_at hl 3 rfl) ?_
            refine lv_imul hx hb dX12_derives_76 ?_
            refine lv_sipush (v := (10007 : Int32)) hx hb dX12_derives_77 (by decide) ?_
            refine lv_irem hx hb dX12_derives_80 (by decide) ?_
            refine m_callv (wc := [(h0, .inr (11, oX12 r0 I_0_isFound I_0_foundB I_0_changes I_0_taped I_0_size I_0_at I_0_signs I_0_wanted I_0_sign I_0_isKept I_0_keptFound I_0_keptB I_0_keptChanges)), ((r0 7), .inl (cI, 1125, .inl A_0_7_lefts))]) C0 hM [0, 2] rfl (m_runV (wc := [(h0, .inr (11, oX12 r0 I_0_isFound I_0_foundB I_0_changes I_0_taped I_0_size I_0_at I_0_signs I_0_wanted I_0_sign I_0_isKept I_0_keptFound I_0_keptB I_0_keptChanges)), ((r0 7), .inl (cI, 1125, .inl A_0_7_lefts))]) (As := [.int ((y7 + ((9 : Int32) * ((x2 - (1 : Int32)) + x5))) + x3), .int ((y9 * x2) - (y9 * x2) / (10007 : Int32) * (10007 : Int32))]) (rest := []) (ci := 11) C0 hM (ct_X12_adds l D cI cJ cZ h0 r0 I_0_isFound I_0_foundB I_0_changes I_0_taped I_0_size I_0_at I_0_signs I_0_wanted I_0_sign I_0_isKept I_0_keptFound I_0_keptB I_0_keptChanges A_0_7_lefts ((y7 + ((9 : Int32) * ((x2 - (1 : Int32)) + x5))) + x3) ((y9 * x2) - (y9 * x2) / (10007 : Int32) * (10007 : Int32)) _ _ h) [0, 2] rfl (by decide) gX12_derives_X12_adds rfl rfl rfl rfl rfl hd_X12_adds ⟨Nat.le_of_ble_eq_true rfl, Nat.le_of_ble_eq_true rfl⟩ rfl hl.1 rfl (Nat.le_of_ble_eq_true rfl) dX12_derives_81 ⟨Nat.le_of_ble_eq_true rfl, Nat.le_of_ble_eq_true rfl⟩) (fun u => [(h0, .inr (11, oX12 r0 I_0_isFound I_0_foundB I_0_changes I_0_taped I_0_size I_0_at I_0_signs I_0_wanted I_0_sign I_0_isKept I_0_keptFound I_0_keptB I_0_keptChanges)), ((r0 0), .inl (cI, 5, .inl A_0_0_f)), ((r0 7), .inl (cI, 1125, .inl u))]) (fun _ => rfl) (fun _ => rfl) (fun b10 H locs h hM => ?_)
            exact jq84 _ _ _ _ _ _ _ h hM (lv_sub hl [1, 2, 3, 4, 5, 6, 0] rfl)
  unfold wp_X12_derives at h
  refine lv_aload_n hx hb dX12_derives_0 rfl (lv_at hl 0 rfl) ?_
  refine m_get (C := RX12) (T := TX12) (N := 45) (ci := 11) (ref := "LoweredPowersModel") (v := .ref (r0 7)) C0 hM 0 rfl rfl kt_X12_derives_X12 7 (by decide) kw_X12_derives_1 rfl rfl dX12_derives_1 ?_
  refine lv_sipush (v := (225 : Int32)) hx hb dX12_derives_4 (by decide) ?_
  refine lv_iload_n hx hb dX12_derives_7 rfl (lv_at hl 1 rfl) ?_
  refine lv_imul hx hb dX12_derives_8 ?_
  refine lv_bipush (v := (9 : Int32)) hx hb dX12_derives_9 (by decide) ?_
  refine lv_iload_n hx hb dX12_derives_11 rfl (lv_at hl 2 rfl) ?_
  refine lv_imul hx hb dX12_derives_12 ?_
  refine lv_iadd hx hb dX12_derives_13 ?_
  refine lv_iload_n hx hb dX12_derives_14 rfl (lv_at hl 3 rfl) ?_
  refine lv_iadd hx hb dX12_derives_15 ?_
  obtain ⟨hc11, h⟩ := h
  refine m_iald C0 hM 2 rfl hc11 dX12_derives_16 ?_
  refine lv_topi (fun y12 ey12 => ?_)
  have h := h y12 ey12
  refine lv_istore (lv' := [(4, .int y12), (0, .ref h0), (1, .int x1), (2, .int x2), (3, .int x3)]) hx hb dX12_derives_17 hl (by decide) rfl (fun ls hl => ?_)
  refine lv_iconst (v := (0 : Int32)) hx hb dX12_derives_19 (by decide) ?_
  refine lv_istore (lv' := [(5, .int (0 : Int32)), (4, .int y12), (0, .ref h0), (1, .int x1), (2, .int x2), (3, .int x3)]) hx hb dX12_derives_20 hl (by decide) rfl (fun ls hl => ?_)
  obtain ⟨k0, h⟩ := h
  exact lq22 k0 _ _ _ _ _ _ h hM (lv_sub hl [2, 3, 4, 5, 1, 0] rfl)
