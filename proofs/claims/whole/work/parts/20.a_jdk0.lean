theorem hd_Jxf58ca_isNaN_12338 : yJxf58ca_isNaN_12338.cls ≠ "java/lang/invoke/MethodHandle" ∧ yJxf58ca_isNaN_12338.cls ≠ "java/lang/invoke/VarHandle" ∧ (parseMethodDescriptor yJxf58ca_isNaN_12338.desc).map (fun d => d.parameters.length) = some 1 := by decide +kernel
theorem hd_Jxf58ca_floatToIntBits_5c35a : yJxf58ca_floatToIntBits_5c35a.cls ≠ "java/lang/invoke/MethodHandle" ∧ yJxf58ca_floatToIntBits_5c35a.cls ≠ "java/lang/invoke/VarHandle" ∧ (parseMethodDescriptor yJxf58ca_floatToIntBits_5c35a.desc).map (fun d => d.parameters.length) = some 1 := by decide +kernel
theorem hd_Jxe99ae_isNaN_b9ae7 : yJxe99ae_isNaN_b9ae7.cls ≠ "java/lang/invoke/MethodHandle" ∧ yJxe99ae_isNaN_b9ae7.cls ≠ "java/lang/invoke/VarHandle" ∧ (parseMethodDescriptor yJxe99ae_isNaN_b9ae7.desc).map (fun d => d.parameters.length) = some 1 := by decide +kernel
theorem hd_Jxe99ae_doubleToLongBits_ccdee : yJxe99ae_doubleToLongBits_ccdee.cls ≠ "java/lang/invoke/MethodHandle" ∧ yJxe99ae_doubleToLongBits_ccdee.cls ≠ "java/lang/invoke/VarHandle" ∧ (parseMethodDescriptor yJxe99ae_doubleToLongBits_ccdee.desc).map (fun d => d.parameters.length) = some 1 := by decide +kernel
theorem kw_Jxf58ca_floatToIntBits_5c35a_5 : Cond.constant RJxf58ca 77 (2143289344) ∈ wsJxf58ca_floatToIntBits_5c35a := List.mem_of_getElem? (i := 5) rfl
theorem kw_Jxf58ca_floatToIntBits_5c35a_1 : Cond.methodLink RJxf58ca 74 ⟨"java/lang/Float", "floatToRawIntBits", "(F)I"⟩ ∈ wsJxf58ca_floatToIntBits_5c35a := List.mem_of_getElem? (i := 1) rfl
theorem kw_Jxf58ca_floatToIntBits_5c35a_2 : Cond.native ⟨"java/lang/Float", "floatToRawIntBits", "(F)I"⟩ ∈ wsJxf58ca_floatToIntBits_5c35a := List.mem_of_getElem? (i := 2) rfl
theorem kw_Jxf58ca_floatToIntBits_5c35a_3 : Cond.static ⟨"java/lang/Float", "floatToRawIntBits", "(F)I"⟩ ∈ wsJxf58ca_floatToIntBits_5c35a := List.mem_of_getElem? (i := 3) rfl
theorem kw_Jxf58ca_floatToIntBits_5c35a_4 : Cond.initialized RJxf58ca ∈ wsJxf58ca_floatToIntBits_5c35a := List.mem_of_getElem? (i := 4) rfl
theorem kw_Jxe99ae_doubleToLongBits_ccdee_5 : Cond.constantLong RJxe99ae 137 (9221120237041090560) ∈ wsJxe99ae_doubleToLongBits_ccdee := List.mem_of_getElem? (i := 5) rfl
theorem kw_Jxe99ae_doubleToLongBits_ccdee_1 : Cond.methodLink RJxe99ae 134 ⟨"java/lang/Double", "doubleToRawLongBits", "(D)J"⟩ ∈ wsJxe99ae_doubleToLongBits_ccdee := List.mem_of_getElem? (i := 1) rfl
theorem kw_Jxe99ae_doubleToLongBits_ccdee_2 : Cond.native ⟨"java/lang/Double", "doubleToRawLongBits", "(D)J"⟩ ∈ wsJxe99ae_doubleToLongBits_ccdee := List.mem_of_getElem? (i := 2) rfl
theorem kw_Jxe99ae_doubleToLongBits_ccdee_3 : Cond.static ⟨"java/lang/Double", "doubleToRawLongBits", "(D)J"⟩ ∈ wsJxe99ae_doubleToLongBits_ccdee := List.mem_of_getElem? (i := 3) rfl
theorem kw_Jxe99ae_doubleToLongBits_ccdee_4 : Cond.initialized RJxe99ae ∈ wsJxe99ae_doubleToLongBits_ccdee := List.mem_of_getElem? (i := 4) rfl
abbrev rm_Jxf58ca_isNaN_12338 : Room := { frames := 0, cells := 0, slots := 0, locals := 0 }
set_option maxRecDepth 100000 in
set_option maxHeartbeats 4000000 in
theorem ct_Jxf58ca_isNaN_12338 (l : Launch) (D : va_G) (cI cJ cZ : ClassId) (x0 : UInt32) (sz : Nat) (K : Int32 → Prop) (h : wp_Jxf58ca_isNaN_12338 x0 K) : Met l yJxf58ca_isNaN_12338 wsJxf58ca_isNaN_12338 rm_Jxf58ca_isNaN_12338 (va_Pc [.float x0] (WX D cI cJ cZ [] sz)) (va_Qi (fun (r : Int32) (_ : Unit) => K r ) (fun (_ : Unit) t => WY D (va_A [] sz) [] t) (va_A [] sz)) 0 0 (va_A [] sz) := by
  refine m_metF (own := RJxf58ca) (cc := cJxf58ca_isNaN_12338) (maxL := 1) (ret := some .boolean) [.float x0] [(0, .float x0)] (by decide +kernel) rfl rfl (Nat.le_of_ble_eq_true rfl) rfl ?_
  intro p e s m args below meth c Q A hQ hA C0 hr hnm hsz hM ls hl
  have hx := C0.1
  have hb := C0.2.1
  have hown := C0.2.2.2.1
  unfold wp_Jxf58ca_isNaN_12338 at h
  refine lv_fload_n hx hb dJxf58ca_isNaN_12338_0 rfl (lv_at hl 0 rfl) ?_
  refine lv_fload_n hx hb dJxf58ca_isNaN_12338_1 rfl (lv_at hl 0 rfl) ?_
  refine lv_fcmp hx hb dJxf58ca_isNaN_12338_2 ?_
  refine lv_if_eq (tgt := 10) hx hb dJxf58ca_isNaN_12338_3 (by decide) (fun hq => ?_) (fun hq => ?_)
  · have h := h.1 hq
    refine lv_iconst (v := (0 : Int32)) hx hb dJxf58ca_isNaN_12338_10 (by decide) ?_
    subst hsz; subst hA; subst hQ
    exact m_zret C0 hr hM rfl () h rfl dJxf58ca_isNaN_12338_11
  · have h := h.2 hq
    refine lv_iconst (v := (1 : Int32)) hx hb dJxf58ca_isNaN_12338_6 (by decide) ?_
    refine lv_goto (tgt := 11) hx hb dJxf58ca_isNaN_12338_7 (by decide) ?_
    subst hsz; subst hA; subst hQ
    exact m_zret C0 hr hM rfl () h rfl dJxf58ca_isNaN_12338_11
abbrev rm_Jxf58ca_floatToIntBits_5c35a : Room := { frames := 1, cells := 0, slots := 0, locals := 26 }
set_option maxRecDepth 100000 in
set_option maxHeartbeats 4000000 in
theorem ct_Jxf58ca_floatToIntBits_5c35a (l : Launch) (D : va_G) (cI cJ cZ : ClassId) (x0 : UInt32) (sz : Nat) (K : Int32 → Prop) (h : wp_Jxf58ca_floatToIntBits_5c35a x0 K) : Met l yJxf58ca_floatToIntBits_5c35a wsJxf58ca_floatToIntBits_5c35a rm_Jxf58ca_floatToIntBits_5c35a (va_Pc [.float x0] (WX D cI cJ cZ [] sz)) (va_Qi (fun (r : Int32) (_ : Unit) => K r ) (fun (_ : Unit) t => WY D (va_A [] sz) [] t) (va_A [] sz)) 0 0 (va_A [] sz) := by
  refine m_metF (own := RJxf58ca) (cc := cJxf58ca_floatToIntBits_5c35a) (maxL := 1) (ret := some .int) [.float x0] [(0, .float x0)] (by decide +kernel) rfl rfl (Nat.le_of_ble_eq_true rfl) rfl ?_
  intro p e s m args below meth c Q A hQ hA C0 hr hnm hsz hM ls hl
  have hx := C0.1
  have hb := C0.2.1
  have hown := C0.2.2.2.1
  unfold wp_Jxf58ca_floatToIntBits_5c35a at h
  refine lv_fload_n hx hb dJxf58ca_floatToIntBits_5c35a_0 rfl (lv_at hl 0 rfl) ?_
  refine m_calli (wc := []) C0 hM [] rfl (m_runS (wc := []) (As := [.float x0]) (rest := []) C0 hM (ct_Jxf58ca_isNaN_12338 l D cI cJ cZ x0 _ _ h) [] rfl (by decide) gJxf58ca_floatToIntBits_5c35a_Jxf58ca_isNaN_12338 rfl rfl rfl hd_Jxf58ca_isNaN_12338 ⟨Nat.le_of_ble_eq_true rfl, Nat.le_of_ble_eq_true rfl⟩ rfl hl.1 rfl (Nat.le_of_ble_eq_true rfl) dJxf58ca_floatToIntBits_5c35a_1 ⟨Nat.le_of_ble_eq_true rfl, Nat.le_of_ble_eq_true rfl⟩) (fun _ => []) (fun _ => rfl) (fun _ => rfl) (fun y1 _ H locs h hM => ?_)
  refine lv_if_ne (tgt := 12) hx hb dJxf58ca_floatToIntBits_5c35a_4 (by decide) (fun hq => ?_) (fun hq => ?_)
  · have h := h.1 hq
    refine lv_ldc (v := (2143289344 : Int32)) hx hb hown (C0.2.2.2.2.1 _ kw_Jxf58ca_floatToIntBits_5c35a_5) dJxf58ca_floatToIntBits_5c35a_12 ?_
    subst hsz; subst hA; subst hQ
    exact m_iret C0 hr hM () h rfl dJxf58ca_floatToIntBits_5c35a_14
  · have h := h.2 hq
    refine lv_fload_n hx hb dJxf58ca_floatToIntBits_5c35a_7 rfl (lv_at hl 0 rfl) ?_
    refine vn_f2i hx hb (C0.2.2.1.trans hl.1.symm) hown (C0.2.2.2.2.1 _ kw_Jxf58ca_floatToIntBits_5c35a_1) (C0.2.2.2.2.1 _ kw_Jxf58ca_floatToIntBits_5c35a_2) (C0.2.2.2.2.1 _ kw_Jxf58ca_floatToIntBits_5c35a_3) (C0.2.2.2.2.1 _ kw_Jxf58ca_floatToIntBits_5c35a_4) (Nat.le_of_ble_eq_true rfl) (Nat.le_of_ble_eq_true rfl) dJxf58ca_floatToIntBits_5c35a_8 ?_
    subst hsz; subst hA; subst hQ
    exact m_iret C0 hr hM () h rfl dJxf58ca_floatToIntBits_5c35a_11
abbrev rm_Jxe99ae_isNaN_b9ae7 : Room := { frames := 0, cells := 0, slots := 0, locals := 0 }
set_option maxRecDepth 100000 in
set_option maxHeartbeats 4000000 in
theorem ct_Jxe99ae_isNaN_b9ae7 (l : Launch) (D : va_G) (cI cJ cZ : ClassId) (x0 : UInt64) (sz : Nat) (K : Int32 → Prop) (h : wp_Jxe99ae_isNaN_b9ae7 x0 K) : Met l yJxe99ae_isNaN_b9ae7 wsJxe99ae_isNaN_b9ae7 rm_Jxe99ae_isNaN_b9ae7 (va_Pc [.double x0] (WX D cI cJ cZ [] sz)) (va_Qi (fun (r : Int32) (_ : Unit) => K r ) (fun (_ : Unit) t => WY D (va_A [] sz) [] t) (va_A [] sz)) 0 0 (va_A [] sz) := by
  refine m_metF (own := RJxe99ae) (cc := cJxe99ae_isNaN_b9ae7) (maxL := 2) (ret := some .boolean) [.double x0] [(0, .double x0)] (by decide +kernel) rfl rfl (Nat.le_of_ble_eq_true rfl) rfl ?_
  intro p e s m args below meth c Q A hQ hA C0 hr hnm hsz hM ls hl
  have hx := C0.1
  have hb := C0.2.1
  have hown := C0.2.2.2.1
  unfold wp_Jxe99ae_isNaN_b9ae7 at h
  refine lv_dload_n hx hb dJxe99ae_isNaN_b9ae7_0 rfl (lv_at hl 0 rfl) ?_
  refine lv_dload_n hx hb dJxe99ae_isNaN_b9ae7_1 rfl (lv_at hl 0 rfl) ?_
  refine lv_dcmp hx hb dJxe99ae_isNaN_b9ae7_2 ?_
  refine lv_if_eq (tgt := 10) hx hb dJxe99ae_isNaN_b9ae7_3 (by decide) (fun hq => ?_) (fun hq => ?_)
  · have h := h.1 hq
    refine lv_iconst (v := (0 : Int32)) hx hb dJxe99ae_isNaN_b9ae7_10 (by decide) ?_
    subst hsz; subst hA; subst hQ
    exact m_zret C0 hr hM rfl () h rfl dJxe99ae_isNaN_b9ae7_11
  · have h := h.2 hq
    refine lv_iconst (v := (1 : Int32)) hx hb dJxe99ae_isNaN_b9ae7_6 (by decide) ?_
    refine lv_goto (tgt := 11) hx hb dJxe99ae_isNaN_b9ae7_7 (by decide) ?_
    subst hsz; subst hA; subst hQ
    exact m_zret C0 hr hM rfl () h rfl dJxe99ae_isNaN_b9ae7_11
abbrev rm_Jxe99ae_doubleToLongBits_ccdee : Room := { frames := 1, cells := 0, slots := 0, locals := 26 }
set_option maxRecDepth 100000 in
set_option maxHeartbeats 4000000 in
theorem ct_Jxe99ae_doubleToLongBits_ccdee (l : Launch) (D : va_G) (cI cJ cZ : ClassId) (x0 : UInt64) (sz : Nat) (K : Int64 → Prop) (h : wp_Jxe99ae_doubleToLongBits_ccdee x0 K) : Met l yJxe99ae_doubleToLongBits_ccdee wsJxe99ae_doubleToLongBits_ccdee rm_Jxe99ae_doubleToLongBits_ccdee (va_Pc [.double x0] (WX D cI cJ cZ [] sz)) (va_Ql (fun (r : Int64) (_ : Unit) => K r ) (fun (_ : Unit) t => WY D (va_A [] sz) [] t) (va_A [] sz)) 0 0 (va_A [] sz) := by
  refine m_metF (own := RJxe99ae) (cc := cJxe99ae_doubleToLongBits_ccdee) (maxL := 2) (ret := some .long) [.double x0] [(0, .double x0)] (by decide +kernel) rfl rfl (Nat.le_of_ble_eq_true rfl) rfl ?_
  intro p e s m args below meth c Q A hQ hA C0 hr hnm hsz hM ls hl
  have hx := C0.1
  have hb := C0.2.1
  have hown := C0.2.2.2.1
  unfold wp_Jxe99ae_doubleToLongBits_ccdee at h
  refine lv_dload_n hx hb dJxe99ae_doubleToLongBits_ccdee_0 rfl (lv_at hl 0 rfl) ?_
  refine m_calli (wc := []) C0 hM [] rfl (m_runS (wc := []) (As := [.double x0]) (rest := []) C0 hM (ct_Jxe99ae_isNaN_b9ae7 l D cI cJ cZ x0 _ _ h) [] rfl (by decide) gJxe99ae_doubleToLongBits_ccdee_Jxe99ae_isNaN_b9ae7 rfl rfl rfl hd_Jxe99ae_isNaN_b9ae7 ⟨Nat.le_of_ble_eq_true rfl, Nat.le_of_ble_eq_true rfl⟩ rfl hl.1 rfl (Nat.le_of_ble_eq_true rfl) dJxe99ae_doubleToLongBits_ccdee_1 ⟨Nat.le_of_ble_eq_true rfl, Nat.le_of_ble_eq_true rfl⟩) (fun _ => []) (fun _ => rfl) (fun _ => rfl) (fun y1 _ H locs h hM => ?_)
  refine lv_if_ne (tgt := 12) hx hb dJxe99ae_doubleToLongBits_ccdee_4 (by decide) (fun hq => ?_) (fun hq => ?_)
  · have h := h.1 hq
    refine lv_ldc2 (v := (9221120237041090560 : Int64)) hx hb hown (C0.2.2.2.2.1 _ kw_Jxe99ae_doubleToLongBits_ccdee_5) dJxe99ae_doubleToLongBits_ccdee_12 ?_
    subst hsz; subst hA; subst hQ
    exact m_lret C0 hr hM () h rfl dJxe99ae_doubleToLongBits_ccdee_15
  · have h := h.2 hq
    refine lv_dload_n hx hb dJxe99ae_doubleToLongBits_ccdee_7 rfl (lv_at hl 0 rfl) ?_
    refine vn_d2l hx hb (C0.2.2.1.trans hl.1.symm) hown (C0.2.2.2.2.1 _ kw_Jxe99ae_doubleToLongBits_ccdee_1) (C0.2.2.2.2.1 _ kw_Jxe99ae_doubleToLongBits_ccdee_2) (C0.2.2.2.2.1 _ kw_Jxe99ae_doubleToLongBits_ccdee_3) (C0.2.2.2.2.1 _ kw_Jxe99ae_doubleToLongBits_ccdee_4) (Nat.le_of_ble_eq_true rfl) (Nat.le_of_ble_eq_true rfl) dJxe99ae_doubleToLongBits_ccdee_8 ?_
    subst hsz; subst hA; subst hQ
    exact m_lret C0 hr hM () h rfl dJxe99ae_doubleToLongBits_ccdee_11
