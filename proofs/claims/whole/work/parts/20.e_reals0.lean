theorem hd_X7_magnitude : yX7_magnitude.cls = RX7 ∧ yX7_magnitude.cls ≠ "java/lang/invoke/MethodHandle" ∧ yX7_magnitude.cls ≠ "java/lang/invoke/VarHandle" ∧ (parseMethodDescriptor yX7_magnitude.desc).map (fun d => d.parameters.length) = some 1 := by decide +kernel
theorem hd_X7_gapOf : yX7_gapOf.cls ≠ "java/lang/invoke/MethodHandle" ∧ yX7_gapOf.cls ≠ "java/lang/invoke/VarHandle" ∧ (parseMethodDescriptor yX7_gapOf.desc).map (fun d => d.parameters.length) = some 1 := by decide +kernel
theorem hd_X7_significandOf : yX7_significandOf.cls = RX7 ∧ yX7_significandOf.cls ≠ "java/lang/invoke/MethodHandle" ∧ yX7_significandOf.cls ≠ "java/lang/invoke/VarHandle" ∧ (parseMethodDescriptor yX7_significandOf.desc).map (fun d => d.parameters.length) = some 1 := by decide +kernel
theorem hd_X7_highProduct : yX7_highProduct.cls ≠ "java/lang/invoke/MethodHandle" ∧ yX7_highProduct.cls ≠ "java/lang/invoke/VarHandle" ∧ (parseMethodDescriptor yX7_highProduct.desc).map (fun d => d.parameters.length) = some 2 := by decide +kernel
theorem hd_X7_exponentOf : yX7_exponentOf.cls = RX7 ∧ yX7_exponentOf.cls ≠ "java/lang/invoke/MethodHandle" ∧ yX7_exponentOf.cls ≠ "java/lang/invoke/VarHandle" ∧ (parseMethodDescriptor yX7_exponentOf.desc).map (fun d => d.parameters.length) = some 1 := by decide +kernel
theorem hd_X7_rounded : yX7_rounded.cls = RX7 ∧ yX7_rounded.cls ≠ "java/lang/invoke/MethodHandle" ∧ yX7_rounded.cls ≠ "java/lang/invoke/VarHandle" ∧ (parseMethodDescriptor yX7_rounded.desc).map (fun d => d.parameters.length) = some 3 := by decide +kernel
theorem hd_X7_times : yX7_times.cls = RX7 ∧ yX7_times.cls ≠ "java/lang/invoke/MethodHandle" ∧ yX7_times.cls ≠ "java/lang/invoke/VarHandle" ∧ (parseMethodDescriptor yX7_times.desc).map (fun d => d.parameters.length) = some 2 := by decide +kernel
theorem hd_X7_ofWhole : yX7_ofWhole.cls = RX7 ∧ yX7_ofWhole.cls ≠ "java/lang/invoke/MethodHandle" ∧ yX7_ofWhole.cls ≠ "java/lang/invoke/VarHandle" ∧ (parseMethodDescriptor yX7_ofWhole.desc).map (fun d => d.parameters.length) = some 1 := by decide +kernel
theorem hd_X7_lowered : yX7_lowered.cls ≠ "java/lang/invoke/MethodHandle" ∧ yX7_lowered.cls ≠ "java/lang/invoke/VarHandle" ∧ (parseMethodDescriptor yX7_lowered.desc).map (fun d => d.parameters.length) = some 2 := by decide +kernel
theorem kt_X7_exponentOf_X7 : ∀ w ∈ u_ws RX7 TX7 6, w ∈ wsX7_exponentOf := fun _ h => List.mem_cons_of_mem _ (List.mem_append_right _ (h))
theorem kt_X7_magnitude_X7 : ∀ w ∈ u_ws RX7 TX7 6, w ∈ wsX7_magnitude := fun _ h => List.mem_cons_of_mem _ (List.mem_append_right _ (h))
theorem kt_X7_ofWhole_X7 : ∀ w ∈ u_ws RX7 TX7 6, w ∈ wsX7_ofWhole := fun _ h => List.mem_cons_of_mem _ (List.mem_append_right _ (h))
theorem kt_X7_rounded_X7 : ∀ w ∈ u_ws RX7 TX7 6, w ∈ wsX7_rounded := fun _ h => List.mem_cons_of_mem _ (List.mem_append_right _ (h))
theorem kt_X7_significandOf_X7 : ∀ w ∈ u_ws RX7 TX7 6, w ∈ wsX7_significandOf := fun _ h => List.mem_cons_of_mem _ (List.mem_append_right _ (h))
theorem kt_X7_times_X7 : ∀ w ∈ u_ws RX7 TX7 6, w ∈ wsX7_times := fun _ h => List.mem_cons_of_mem _ (List.mem_append_right _ (h))
theorem kw_X7_magnitude_1 : Cond.fieldLink RX7 21 "LoweredPowers$Reals" "signBit" "J" ∈ wsX7_magnitude := List.mem_of_getElem? (i := 1) rfl
theorem kw_X7_gapOf_1 : Cond.constantLong RX7 89 (4611686018427387904) ∈ wsX7_gapOf := List.mem_of_getElem? (i := 1) rfl
theorem kw_X7_significandOf_1 : Cond.fieldLink RX7 11 "LoweredPowers$Reals" "fraction" "I" ∈ wsX7_significandOf := List.mem_of_getElem? (i := 1) rfl
theorem kw_X7_highProduct_1 : Cond.constantLong RX7 85 (134217727) ∈ wsX7_highProduct := List.mem_of_getElem? (i := 1) rfl
theorem kw_X7_highProduct_2 : Cond.constantLong RX7 87 (18014398509481983) ∈ wsX7_highProduct := List.mem_of_getElem? (i := 2) rfl
theorem kw_X7_exponentOf_1 : Cond.fieldLink RX7 11 "LoweredPowers$Reals" "fraction" "I" ∈ wsX7_exponentOf := List.mem_of_getElem? (i := 1) rfl
theorem kw_X7_exponentOf_2 : Cond.fieldLink RX7 18 "LoweredPowers$Reals" "bias" "I" ∈ wsX7_exponentOf := List.mem_of_getElem? (i := 2) rfl
theorem kw_X7_rounded_4 : Cond.fieldLink RX7 11 "LoweredPowers$Reals" "fraction" "I" ∈ wsX7_rounded := List.mem_of_getElem? (i := 4) rfl
theorem kw_X7_rounded_1 : Cond.fieldLink RX7 18 "LoweredPowers$Reals" "bias" "I" ∈ wsX7_rounded := List.mem_of_getElem? (i := 1) rfl
theorem kw_X7_rounded_2 : Cond.fieldLink RX7 15 "LoweredPowers$Reals" "most" "I" ∈ wsX7_rounded := List.mem_of_getElem? (i := 2) rfl
theorem kw_X7_rounded_3 : Cond.fieldLink RX7 25 "LoweredPowers$Reals" "infinite" "J" ∈ wsX7_rounded := List.mem_of_getElem? (i := 3) rfl
theorem kw_X7_times_3 : Cond.fieldLink RX7 28 "LoweredPowers$Reals" "nan" "J" ∈ wsX7_times := List.mem_of_getElem? (i := 3) rfl
theorem kw_X7_times_2 : Cond.fieldLink RX7 25 "LoweredPowers$Reals" "infinite" "J" ∈ wsX7_times := List.mem_of_getElem? (i := 2) rfl
theorem kw_X7_times_1 : Cond.fieldLink RX7 21 "LoweredPowers$Reals" "signBit" "J" ∈ wsX7_times := List.mem_of_getElem? (i := 1) rfl
theorem kw_X7_ofWhole_1 : Cond.fieldLink RX7 21 "LoweredPowers$Reals" "signBit" "J" ∈ wsX7_ofWhole := List.mem_of_getElem? (i := 1) rfl
abbrev rm_X7_magnitude : Room := { frames := 0, cells := 0, slots := 0, locals := 0 }
set_option maxRecDepth 100000 in
set_option maxHeartbeats 4000000 in
theorem ct_X7_magnitude (l : Launch) (D : va_G) (cI cJ cZ : ClassId) (h0 : Nat) (r0 : Nat → Nat) (I_0_fraction : Int32) (I_0_bias : Int32) (I_0_most : Int32) (I_0_signBit : Int64) (I_0_infinite : Int64) (I_0_nan : Int64) (x1 : Int64) (sz : Nat) (K : Int64 → Prop) (h : wp_X7_magnitude x1 I_0_signBit K) : Met l yX7_magnitude wsX7_magnitude rm_X7_magnitude (va_Pc [.ref h0, .long x1] (WX D cI cJ cZ [(h0, .inr (6, oX7 r0 I_0_fraction I_0_bias I_0_most I_0_signBit I_0_infinite I_0_nan))] sz)) (va_Ql (fun (r : Int64) (_ : Unit) => K r ) (fun (_ : Unit) t => WY D (va_A [(h0, .inr (6, oX7 r0 I_0_fraction I_0_bias I_0_most I_0_signBit I_0_infinite I_0_nan))] sz) [(h0, .inr (6, oX7 r0 I_0_fraction I_0_bias I_0_most I_0_signBit I_0_infinite I_0_nan))] t) (va_A [(h0, .inr (6, oX7 r0 I_0_fraction I_0_bias I_0_most I_0_signBit I_0_infinite I_0_nan))] sz)) 0 0 (va_A [(h0, .inr (6, oX7 r0 I_0_fraction I_0_bias I_0_most I_0_signBit I_0_infinite I_0_nan))] sz) := by
  refine m_met (own := RX7) (cc := cX7_magnitude) (maxL := 3) (ret := some .long) [.ref h0, .long x1] [(0, .ref h0), (1, .long x1)] (by decide) rfl rfl (Nat.le_of_ble_eq_true rfl) rfl ?_
  intro p e s m args below meth c Q A hQ hA C0 hr hnm hsz hM ls hl
  have hx := C0.1
  have hb := C0.2.1
  have hown := C0.2.2.2.1
  unfold wp_X7_magnitude at h
  refine lv_lload_n hx hb dX7_magnitude_0 rfl (lv_at hl 1 rfl) ?_
  refine lv_aload_n hx hb dX7_magnitude_1 rfl (lv_at hl 0 rfl) ?_
  refine m_get (C := RX7) (T := TX7) (N := 6) (ci := 6) (ref := "LoweredPowers$Reals") (v := .long I_0_signBit) C0 hM 0 rfl rfl kt_X7_magnitude_X7 3 (by decide) kw_X7_magnitude_1 rfl rfl dX7_magnitude_2 ?_
  refine lv_lconst (v := (1 : Int64)) hx hb dX7_magnitude_5 (by decide) ?_
  refine lv_lsub hx hb dX7_magnitude_6 ?_
  refine lv_land hx hb dX7_magnitude_7 ?_
  subst hsz; subst hA; subst hQ
  exact m_lret C0 hr hM () h rfl dX7_magnitude_8
abbrev rm_X7_gapOf : Room := { frames := 0, cells := 0, slots := 0, locals := 0 }
set_option maxRecDepth 100000 in
set_option maxHeartbeats 4000000 in
theorem ct_X7_gapOf (l : Launch) (D : va_G) (cI cJ cZ : ClassId) (x0 : Int64) (sz : Nat) (K : Int32 → Prop) (h : wp_X7_gapOf x0 K) : Met l yX7_gapOf wsX7_gapOf rm_X7_gapOf (va_Pc [.long x0] (WX D cI cJ cZ [] sz)) (va_Qi (fun (r : Int32) (_ : Unit) => K r ) (fun (_ : Unit) t => WY D (va_A [] sz) [] t) (va_A [] sz)) 0 0 (va_A [] sz) := by
  refine m_met (own := RX7) (cc := cX7_gapOf) (maxL := 3) (ret := some .int) [.long x0] [(0, .long x0)] (by decide) rfl rfl (Nat.le_of_ble_eq_true rfl) rfl ?_
  intro p e s m args below meth c Q A hQ hA C0 hr hnm hsz hM ls hl
  have hx := C0.1
  have hb := C0.2.1
  have hown := C0.2.2.2.1
  have lq2 : ∀ (k2 : Nat) (x2 : Int32) (H : Heap) (locs : List Loc) (ls : Array Slot) , lp_X7_gapOf_2 x0 K k2 x2 → MW D A s.heap [] H locs → lv_has ls 3 [(0, .long x0), (2, .int x2)] → W p l e rm_X7_gapOf s m args below meth c H locs 0 0 Q (F0 m 2 ls []) := by
    intro k2
    induction k2 with
    | zero =>
      intro x2 H locs ls h
      unfold lp_X7_gapOf_2 at h
      exact h.elim
    | succ k2 ih2 =>
      intro x2 H locs ls h hM hl
      unfold lp_X7_gapOf_2 at h
      refine lv_iload_n hx hb dX7_gapOf_2 rfl (lv_at hl 1 rfl) ?_
      refine lv_bipush (v := (62 : Int32)) hx hb dX7_gapOf_3 (by decide) ?_
      refine lv_icmp_ge (tgt := 24) hx hb dX7_gapOf_5 (by decide) (fun hq => ?_) (fun hq => ?_)
      · have h := h.1 hq
        refine lv_iload_n hx hb dX7_gapOf_24 rfl (lv_at hl 1 rfl) ?_
        subst hsz; subst hA; subst hQ
        exact m_iret C0 hr hM () h rfl dX7_gapOf_25
      · have h := h.2 hq
        refine lv_lload_n hx hb dX7_gapOf_8 rfl (lv_at hl 0 rfl) ?_
        refine lv_iload_n hx hb dX7_gapOf_9 rfl (lv_at hl 1 rfl) ?_
        refine lv_lshl hx hb dX7_gapOf_10 rfl ?_
        refine lv_ldc2 (v := (4611686018427387904 : Int64)) hx hb hown (C0.2.2.2.2.1 _ kw_X7_gapOf_1) dX7_gapOf_11 ?_
        refine W.lcmp hx hb dX7_gapOf_14 ?_
        refine lv_if_ge (tgt := 24) hx hb dX7_gapOf_15 (by decide) (fun hq => ?_) (fun hq => ?_)
        · have h := h.1 hq
          refine lv_iload_n hx hb dX7_gapOf_24 rfl (lv_at hl 1 rfl) ?_
          subst hsz; subst hA; subst hQ
          exact m_iret C0 hr hM () h rfl dX7_gapOf_25
        · have h := h.2 hq
          refine lv_iinc (v := (x2 + (1 : Int32))) (lv' := [(2, .int (x2 + (1 : Int32))), (0, .long x0)]) hx hb dX7_gapOf_18 hl (k := 1) rfl rfl (by decide) rfl (fun ls hl => ?_)
          refine lv_goto (tgt := 2) hx hb dX7_gapOf_21 (by decide) ?_
          exact ih2 _ _ _ _ h hM (lv_sub hl [1, 0] rfl)
  unfold wp_X7_gapOf at h
  refine lv_iconst (v := (0 : Int32)) hx hb dX7_gapOf_0 (by decide) ?_
  refine lv_istore_n (lv' := [(2, .int (0 : Int32)), (0, .long x0)]) hx hb dX7_gapOf_1 rfl hl (by decide) rfl (fun ls hl => ?_)
  obtain ⟨k0, h⟩ := h
  exact lq2 k0 _ _ _ _ h hM (lv_sub hl [1, 0] rfl)
abbrev rm_X7_significandOf : Room := { frames := 1, cells := 0, slots := 0, locals := 22 }
set_option maxRecDepth 100000 in
set_option maxHeartbeats 4000000 in
theorem ct_X7_significandOf (l : Launch) (D : va_G) (cI cJ cZ : ClassId) (h0 : Nat) (r0 : Nat → Nat) (I_0_fraction : Int32) (I_0_bias : Int32) (I_0_most : Int32) (I_0_signBit : Int64) (I_0_infinite : Int64) (I_0_nan : Int64) (x1 : Int64) (sz : Nat) (K : Int64 → Prop) (h : wp_X7_significandOf x1 I_0_fraction K) : Met l yX7_significandOf wsX7_significandOf rm_X7_significandOf (va_Pc [.ref h0, .long x1] (WX D cI cJ cZ [(h0, .inr (6, oX7 r0 I_0_fraction I_0_bias I_0_most I_0_signBit I_0_infinite I_0_nan))] sz)) (va_Ql (fun (r : Int64) (_ : Unit) => K r ) (fun (_ : Unit) t => WY D (va_A [(h0, .inr (6, oX7 r0 I_0_fraction I_0_bias I_0_most I_0_signBit I_0_infinite I_0_nan))] sz) [(h0, .inr (6, oX7 r0 I_0_fraction I_0_bias I_0_most I_0_signBit I_0_infinite I_0_nan))] t) (va_A [(h0, .inr (6, oX7 r0 I_0_fraction I_0_bias I_0_most I_0_signBit I_0_infinite I_0_nan))] sz)) 0 0 (va_A [(h0, .inr (6, oX7 r0 I_0_fraction I_0_bias I_0_most I_0_signBit I_0_infinite I_0_nan))] sz) := by
  refine m_met (own := RX7) (cc := cX7_significandOf) (maxL := 7) (ret := some .long) [.ref h0, .long x1] [(0, .ref h0), (1, .long x1)] (by decide) rfl rfl (Nat.le_of_ble_eq_true rfl) rfl ?_
  intro p e s m args below meth c Q A hQ hA C0 hr hnm hsz hM ls hl
  have hx := C0.1
  have hb := C0.2.1
  have hown := C0.2.2.2.1
  unfold wp_X7_significandOf at h
  refine lv_lload_n hx hb dX7_significandOf_0 rfl (lv_at hl 1 rfl) ?_
  refine lv_lconst (v := (1 : Int64)) hx hb dX7_significandOf_1 (by decide) ?_
  refine lv_aload_n hx hb dX7_significandOf_2 rfl (lv_at hl 0 rfl) ?_
  refine m_get (C := RX7) (T := TX7) (N := 6) (ci := 6) (ref := "LoweredPowers$Reals") (v := .int I_0_fraction) C0 hM 0 rfl rfl kt_X7_significandOf_X7 0 (by decide) kw_X7_significandOf_1 rfl rfl dX7_significandOf_3 ?_
  refine lv_lshl hx hb dX7_significandOf_6 rfl ?_
  refine lv_lconst (v := (1 : Int64)) hx hb dX7_significandOf_7 (by decide) ?_
  refine lv_lsub hx hb dX7_significandOf_8 ?_
  refine lv_land hx hb dX7_significandOf_9 ?_
  refine lv_topl (fun y1 ey1 => ?_)
  have h := h y1 ey1
  refine lv_lstore_n (lv' := [(3, .long y1), (0, .ref h0), (1, .long x1)]) hx hb dX7_significandOf_10 rfl hl (by decide) rfl (fun ls hl => ?_)
  refine lv_lload_n hx hb dX7_significandOf_11 rfl (lv_at hl 2 rfl) ?_
  refine lv_aload_n hx hb dX7_significandOf_12 rfl (lv_at hl 1 rfl) ?_
  refine m_get (C := RX7) (T := TX7) (N := 6) (ci := 6) (ref := "LoweredPowers$Reals") (v := .int I_0_fraction) C0 hM 0 rfl rfl kt_X7_significandOf_X7 0 (by decide) kw_X7_significandOf_1 rfl rfl dX7_significandOf_13 ?_
  refine lv_lushr hx hb dX7_significandOf_16 rfl ?_
  refine lv_lconst (v := (0 : Int64)) hx hb dX7_significandOf_17 (by decide) ?_
  refine W.lcmp hx hb dX7_significandOf_18 ?_
  refine lv_if_eq (tgt := 39) hx hb dX7_significandOf_19 (by decide) (fun hq => ?_) (fun hq => ?_)
  · have h := h.1 hq
    refine lv_lload_n hx hb dX7_significandOf_39 rfl (lv_at hl 0 rfl) ?_
    refine lv_bipush (v := (62 : Int32)) hx hb dX7_significandOf_40 (by decide) ?_
    refine lv_aload_n hx hb dX7_significandOf_42 rfl (lv_at hl 1 rfl) ?_
    refine m_get (C := RX7) (T := TX7) (N := 6) (ci := 6) (ref := "LoweredPowers$Reals") (v := .int I_0_fraction) C0 hM 0 rfl rfl kt_X7_significandOf_X7 0 (by decide) kw_X7_significandOf_1 rfl rfl dX7_significandOf_43 ?_
    refine lv_isub hx hb dX7_significandOf_46 ?_
    refine lv_lshl hx hb dX7_significandOf_47 rfl ?_
    refine lv_topl (fun y2 ey2 => ?_)
    have h := h y2 ey2
    refine lv_lstore (lv' := [(5, .long y2), (3, .long y1), (0, .ref h0), (1, .long x1)]) hx hb dX7_significandOf_48 hl (by decide) rfl (fun ls hl => ?_)
    refine lv_lload hx hb dX7_significandOf_50 (lv_at hl 0 rfl) ?_
    refine lv_lload hx hb dX7_significandOf_52 (lv_at hl 0 rfl) ?_
    refine m_calli (wc := []) C0 hM [] rfl (m_runS (wc := []) (As := [.long y2]) (rest := [.long y2]) C0 hM (ct_X7_gapOf l D cI cJ cZ y2 _ _ h) [] rfl (by decide) gX7_significandOf_X7_gapOf rfl rfl rfl hd_X7_gapOf ⟨Nat.le_of_ble_eq_true rfl, Nat.le_of_ble_eq_true rfl⟩ rfl hl.1 rfl (Nat.le_of_ble_eq_true rfl) dX7_significandOf_54 ⟨Nat.le_of_ble_eq_true rfl, Nat.le_of_ble_eq_true rfl⟩) (fun _ => [(h0, .inr (6, oX7 r0 I_0_fraction I_0_bias I_0_most I_0_signBit I_0_infinite I_0_nan))]) (fun _ => rfl) (fun _ => rfl) (fun y3 _ H locs h hM => ?_)
    refine lv_lshl hx hb dX7_significandOf_57 rfl ?_
    subst hsz; subst hA; subst hQ
    exact m_lret C0 hr hM () h rfl dX7_significandOf_58
  · have h := h.2 hq
    refine lv_lload_n hx hb dX7_significandOf_22 rfl (lv_at hl 0 rfl) ?_
    refine lv_lconst (v := (1 : Int64)) hx hb dX7_significandOf_23 (by decide) ?_
    refine lv_aload_n hx hb dX7_significandOf_24 rfl (lv_at hl 1 rfl) ?_
    refine m_get (C := RX7) (T := TX7) (N := 6) (ci := 6) (ref := "LoweredPowers$Reals") (v := .int I_0_fraction) C0 hM 0 rfl rfl kt_X7_significandOf_X7 0 (by decide) kw_X7_significandOf_1 rfl rfl dX7_significandOf_25 ?_
    refine lv_lshl hx hb dX7_significandOf_28 rfl ?_
    refine lv_lor hx hb dX7_significandOf_29 ?_
    refine lv_bipush (v := (62 : Int32)) hx hb dX7_significandOf_30 (by decide) ?_
    refine lv_aload_n hx hb dX7_significandOf_32 rfl (lv_at hl 1 rfl) ?_
    refine m_get (C := RX7) (T := TX7) (N := 6) (ci := 6) (ref := "LoweredPowers$Reals") (v := .int I_0_fraction) C0 hM 0 rfl rfl kt_X7_significandOf_X7 0 (by decide) kw_X7_significandOf_1 rfl rfl dX7_significandOf_33 ?_
    refine lv_isub hx hb dX7_significandOf_36 ?_
    refine lv_lshl hx hb dX7_significandOf_37 rfl ?_
    subst hsz; subst hA; subst hQ
    exact m_lret C0 hr hM () h rfl dX7_significandOf_38
abbrev rm_X7_highProduct : Room := { frames := 0, cells := 0, slots := 0, locals := 0 }
set_option maxRecDepth 100000 in
set_option maxHeartbeats 4000000 in
theorem ct_X7_highProduct (l : Launch) (D : va_G) (cI cJ cZ : ClassId) (x0 : Int64) (x2 : Int64) (sz : Nat) (K : Int64 → Prop) (h : wp_X7_highProduct x0 x2 K) : Met l yX7_highProduct wsX7_highProduct rm_X7_highProduct (va_Pc [.long x0, .long x2] (WX D cI cJ cZ [] sz)) (va_Ql (fun (r : Int64) (_ : Unit) => K r ) (fun (_ : Unit) t => WY D (va_A [] sz) [] t) (va_A [] sz)) 0 0 (va_A [] sz) := by
  refine m_met (own := RX7) (cc := cX7_highProduct) (maxL := 24) (ret := some .long) [.long x0, .long x2] [(0, .long x0), (2, .long x2)] (by decide) rfl rfl (Nat.le_of_ble_eq_true rfl) rfl ?_
  intro p e s m args below meth c Q A hQ hA C0 hr hnm hsz hM ls hl
  have hx := C0.1
  have hb := C0.2.1
  have hown := C0.2.2.2.1
  unfold wp_X7_highProduct at h
  refine lv_lload_n hx hb dX7_highProduct_0 rfl (lv_at hl 0 rfl) ?_
  refine lv_bipush (v := (27 : Int32)) hx hb dX7_highProduct_1 (by decide) ?_
  refine lv_lushr hx hb dX7_highProduct_3 rfl ?_
  refine lv_topl (fun y1 ey1 => ?_)
  have h := h y1 ey1
  refine lv_lstore (lv' := [(4, .long y1), (0, .long x0), (2, .long x2)]) hx hb dX7_highProduct_4 hl (by decide) rfl (fun ls hl => ?_)
  refine lv_lload_n hx hb dX7_highProduct_6 rfl (lv_at hl 1 rfl) ?_
  refine lv_ldc2 (v := (134217727 : Int64)) hx hb hown (C0.2.2.2.2.1 _ kw_X7_highProduct_1) dX7_highProduct_7 ?_
  refine lv_land hx hb dX7_highProduct_10 ?_
  refine lv_topl (fun y2 ey2 => ?_)
  have h := h y2 ey2
  refine lv_lstore (lv' := [(6, .long y2), (4, .long y1), (0, .long x0), (2, .long x2)]) hx hb dX7_highProduct_11 hl (by decide) rfl (fun ls hl => ?_)
  refine lv_lload_n hx hb dX7_highProduct_13 rfl (lv_at hl 3 rfl) ?_
  refine lv_bipush (v := (27 : Int32)) hx hb dX7_highProduct_14 (by decide) ?_
  refine lv_lushr hx hb dX7_highProduct_16 rfl ?_
  refine lv_topl (fun y3 ey3 => ?_)
  have h := h y3 ey3
  refine lv_lstore (lv' := [(8, .long y3), (6, .long y2), (4, .long y1), (0, .long x0), (2, .long x2)]) hx hb dX7_highProduct_17 hl (by decide) rfl (fun ls hl => ?_)
  refine lv_lload_n hx hb dX7_highProduct_19 rfl (lv_at hl 4 rfl) ?_
  refine lv_ldc2 (v := (134217727 : Int64)) hx hb hown (C0.2.2.2.2.1 _ kw_X7_highProduct_1) dX7_highProduct_20 ?_
  refine lv_land hx hb dX7_highProduct_23 ?_
  refine lv_topl (fun y4 ey4 => ?_)
  have h := h y4 ey4
  refine lv_lstore (lv' := [(10, .long y4), (8, .long y3), (6, .long y2), (4, .long y1), (0, .long x0), (2, .long x2)]) hx hb dX7_highProduct_24 hl (by decide) rfl (fun ls hl => ?_)
  refine lv_lload hx hb dX7_highProduct_26 (lv_at hl 3 rfl) ?_
  refine lv_lload hx hb dX7_highProduct_28 (lv_at hl 0 rfl) ?_
  refine lv_lmul hx hb dX7_highProduct_30 ?_
  refine lv_lload hx hb dX7_highProduct_31 (lv_at hl 2 rfl) ?_
  refine lv_lload hx hb dX7_highProduct_33 (lv_at hl 1 rfl) ?_
  refine lv_lmul hx hb dX7_highProduct_35 ?_
  refine lv_ladd hx hb dX7_highProduct_36 ?_
  refine lv_topl (fun y5 ey5 => ?_)
  have h := h y5 ey5
  refine lv_lstore (lv' := [(12, .long y5), (10, .long y4), (8, .long y3), (6, .long y2), (4, .long y1), (0, .long x0), (2, .long x2)]) hx hb dX7_highProduct_37 hl (by decide) rfl (fun ls hl => ?_)
  refine lv_lload hx hb dX7_highProduct_39 (lv_at hl 3 rfl) ?_
  refine lv_lload hx hb dX7_highProduct_41 (lv_at hl 1 rfl) ?_
  refine lv_lmul hx hb dX7_highProduct_43 ?_
  refine lv_lload hx hb dX7_highProduct_44 (lv_at hl 0 rfl) ?_
  refine lv_ldc2 (v := (134217727 : Int64)) hx hb hown (C0.2.2.2.2.1 _ kw_X7_highProduct_1) dX7_highProduct_46 ?_
  refine lv_land hx hb dX7_highProduct_49 ?_
  refine lv_bipush (v := (27 : Int32)) hx hb dX7_highProduct_50 (by decide) ?_
  refine lv_lshl hx hb dX7_highProduct_52 rfl ?_
  refine lv_ladd hx hb dX7_highProduct_53 ?_
  refine lv_topl (fun y6 ey6 => ?_)
  have h := h y6 ey6
  refine lv_lstore (lv' := [(14, .long y6), (12, .long y5), (10, .long y4), (8, .long y3), (6, .long y2), (4, .long y1), (0, .long x0), (2, .long x2)]) hx hb dX7_highProduct_54 hl (by decide) rfl (fun ls hl => ?_)
  refine lv_lload hx hb dX7_highProduct_56 (lv_at hl 5 rfl) ?_
  refine lv_lload hx hb dX7_highProduct_58 (lv_at hl 3 rfl) ?_
  refine lv_lmul hx hb dX7_highProduct_60 ?_
  refine lv_lload hx hb dX7_highProduct_61 (lv_at hl 1 rfl) ?_
  refine lv_bipush (v := (27 : Int32)) hx hb dX7_highProduct_63 (by decide) ?_
  refine lv_lushr hx hb dX7_highProduct_65 rfl ?_
  refine lv_ladd hx hb dX7_highProduct_66 ?_
  refine lv_lload hx hb dX7_highProduct_67 (lv_at hl 0 rfl) ?_
  refine lv_bipush (v := (54 : Int32)) hx hb dX7_highProduct_69 (by decide) ?_
  refine lv_lushr hx hb dX7_highProduct_71 rfl ?_
  refine lv_ladd hx hb dX7_highProduct_72 ?_
  refine lv_topl (fun y7 ey7 => ?_)
  have h := h y7 ey7
  refine lv_lstore (lv' := [(16, .long y7), (14, .long y6), (12, .long y5), (10, .long y4), (8, .long y3), (6, .long y2), (4, .long y1), (0, .long x0), (2, .long x2)]) hx hb dX7_highProduct_73 hl (by decide) rfl (fun ls hl => ?_)
  refine lv_lload hx hb dX7_highProduct_75 (lv_at hl 1 rfl) ?_
  refine lv_ldc2 (v := (18014398509481983 : Int64)) hx hb hown (C0.2.2.2.2.1 _ kw_X7_highProduct_2) dX7_highProduct_77 ?_
  refine lv_land hx hb dX7_highProduct_80 ?_
  refine lv_topl (fun y8 ey8 => ?_)
  have h := h y8 ey8
  refine lv_lstore (lv' := [(18, .long y8), (16, .long y7), (14, .long y6), (12, .long y5), (10, .long y4), (8, .long y3), (6, .long y2), (4, .long y1), (0, .long x0), (2, .long x2)]) hx hb dX7_highProduct_81 hl (by decide) rfl (fun ls hl => ?_)
  refine lv_bipush (v := (11 : Int32)) hx hb dX7_highProduct_83 (by decide) ?_
  refine lv_istore (lv' := [(20, .int (11 : Int32)), (18, .long y8), (16, .long y7), (14, .long y6), (12, .long y5), (10, .long y4), (8, .long y3), (6, .long y2), (4, .long y1), (0, .long x0), (2, .long x2)]) hx hb dX7_highProduct_85 hl (by decide) rfl (fun ls hl => ?_)
  refine lv_bipush (v := (54 : Int32)) hx hb dX7_highProduct_87 (by decide) ?_
  refine lv_iload hx hb dX7_highProduct_89 (lv_at hl 0 rfl) ?_
  refine lv_isub hx hb dX7_highProduct_91 ?_
  refine lv_topi (fun y9 ey9 => ?_)
  have h := h y9 ey9
  refine lv_istore (lv' := [(21, .int y9), (20, .int (11 : Int32)), (18, .long y8), (16, .long y7), (14, .long y6), (12, .long y5), (10, .long y4), (8, .long y3), (6, .long y2), (4, .long y1), (0, .long x0), (2, .long x2)]) hx hb dX7_highProduct_92 hl (by decide) rfl (fun ls hl => ?_)
  refine lv_lload hx hb dX7_highProduct_94 (lv_at hl 2 rfl) ?_
  refine lv_lconst (v := (1 : Int64)) hx hb dX7_highProduct_96 (by decide) ?_
  refine lv_iload hx hb dX7_highProduct_97 (lv_at hl 0 rfl) ?_
  refine lv_lshl hx hb dX7_highProduct_99 rfl ?_
  refine lv_lconst (v := (1 : Int64)) hx hb dX7_highProduct_100 (by decide) ?_
  refine lv_lsub hx hb dX7_highProduct_101 ?_
  refine lv_land hx hb dX7_highProduct_102 ?_
  refine lv_topl (fun y10 ey10 => ?_)
  have h := h y10 ey10
  refine lv_lstore (lv' := [(22, .long y10), (21, .int y9), (20, .int (11 : Int32)), (18, .long y8), (16, .long y7), (14, .long y6), (12, .long y5), (10, .long y4), (8, .long y3), (6, .long y2), (4, .long y1), (0, .long x0), (2, .long x2)]) hx hb dX7_highProduct_103 hl (by decide) rfl (fun ls hl => ?_)
  refine lv_lload hx hb dX7_highProduct_105 (lv_at hl 4 rfl) ?_
  refine lv_iload hx hb dX7_highProduct_107 (lv_at hl 2 rfl) ?_
  refine lv_lshl hx hb dX7_highProduct_109 rfl ?_
  refine lv_lload hx hb dX7_highProduct_110 (lv_at hl 3 rfl) ?_
  refine lv_iload hx hb dX7_highProduct_112 (lv_at hl 1 rfl) ?_
  refine lv_lushr hx hb dX7_highProduct_114 rfl ?_
  refine lv_lor hx hb dX7_highProduct_115 ?_
  refine lv_lload hx hb dX7_highProduct_116 (lv_at hl 0 rfl) ?_
  refine lv_lconst (v := (0 : Int64)) hx hb dX7_highProduct_118 (by decide) ?_
  refine W.lcmp hx hb dX7_highProduct_119 ?_
  refine lv_if_eq (tgt := 127) hx hb dX7_highProduct_120 (by decide) (fun hq => ?_) (fun hq => ?_)
  · have h := h.1 hq
    refine lv_iconst (v := (0 : Int32)) hx hb dX7_highProduct_127 (by decide) ?_
    refine lv_i2l hx hb dX7_highProduct_128 rfl ?_
    refine lv_lor hx hb dX7_highProduct_129 ?_
    subst hsz; subst hA; subst hQ
    exact m_lret C0 hr hM () h rfl dX7_highProduct_130
  · have h := h.2 hq
    refine lv_iconst (v := (1 : Int32)) hx hb dX7_highProduct_123 (by decide) ?_
    refine lv_goto (tgt := 128) hx hb dX7_highProduct_124 (by decide) ?_
    refine lv_i2l hx hb dX7_highProduct_128 rfl ?_
    refine lv_lor hx hb dX7_highProduct_129 ?_
    subst hsz; subst hA; subst hQ
    exact m_lret C0 hr hM () h rfl dX7_highProduct_130
abbrev rm_X7_exponentOf : Room := { frames := 1, cells := 0, slots := 0, locals := 22 }
set_option maxRecDepth 100000 in
set_option maxHeartbeats 4000000 in
theorem ct_X7_exponentOf (l : Launch) (D : va_G) (cI cJ cZ : ClassId) (h0 : Nat) (r0 : Nat → Nat) (I_0_fraction : Int32) (I_0_bias : Int32) (I_0_most : Int32) (I_0_signBit : Int64) (I_0_infinite : Int64) (I_0_nan : Int64) (x1 : Int64) (sz : Nat) (K : Int32 → Prop) (h : wp_X7_exponentOf x1 I_0_fraction I_0_bias K) : Met l yX7_exponentOf wsX7_exponentOf rm_X7_exponentOf (va_Pc [.ref h0, .long x1] (WX D cI cJ cZ [(h0, .inr (6, oX7 r0 I_0_fraction I_0_bias I_0_most I_0_signBit I_0_infinite I_0_nan))] sz)) (va_Qi (fun (r : Int32) (_ : Unit) => K r ) (fun (_ : Unit) t => WY D (va_A [(h0, .inr (6, oX7 r0 I_0_fraction I_0_bias I_0_most I_0_signBit I_0_infinite I_0_nan))] sz) [(h0, .inr (6, oX7 r0 I_0_fraction I_0_bias I_0_most I_0_signBit I_0_infinite I_0_nan))] t) (va_A [(h0, .inr (6, oX7 r0 I_0_fraction I_0_bias I_0_most I_0_signBit I_0_infinite I_0_nan))] sz)) 0 0 (va_A [(h0, .inr (6, oX7 r0 I_0_fraction I_0_bias I_0_most I_0_signBit I_0_infinite I_0_nan))] sz) := by
  refine m_met (own := RX7) (cc := cX7_exponentOf) (maxL := 4) (ret := some .int) [.ref h0, .long x1] [(0, .ref h0), (1, .long x1)] (by decide) rfl rfl (Nat.le_of_ble_eq_true rfl) rfl ?_
  intro p e s m args below meth c Q A hQ hA C0 hr hnm hsz hM ls hl
  have hx := C0.1
  have hb := C0.2.1
  have hown := C0.2.2.2.1
  unfold wp_X7_exponentOf at h
  refine lv_lload_n hx hb dX7_exponentOf_0 rfl (lv_at hl 1 rfl) ?_
  refine lv_aload_n hx hb dX7_exponentOf_1 rfl (lv_at hl 0 rfl) ?_
  refine m_get (C := RX7) (T := TX7) (N := 6) (ci := 6) (ref := "LoweredPowers$Reals") (v := .int I_0_fraction) C0 hM 0 rfl rfl kt_X7_exponentOf_X7 0 (by decide) kw_X7_exponentOf_1 rfl rfl dX7_exponentOf_2 ?_
  refine lv_lushr hx hb dX7_exponentOf_5 rfl ?_
  refine lv_l2i hx hb dX7_exponentOf_6 rfl ?_
  refine lv_topi (fun y1 ey1 => ?_)
  have h := h y1 ey1
  refine lv_istore_n (lv' := [(3, .int y1), (0, .ref h0), (1, .long x1)]) hx hb dX7_exponentOf_7 rfl hl (by decide) rfl (fun ls hl => ?_)
  refine lv_iload_n hx hb dX7_exponentOf_8 rfl (lv_at hl 0 rfl) ?_
  refine lv_if_eq (tgt := 19) hx hb dX7_exponentOf_9 (by decide) (fun hq => ?_) (fun hq => ?_)
  · have h := h.1 hq
    refine lv_iconst (v := (1 : Int32)) hx hb dX7_exponentOf_19 (by decide) ?_
    refine lv_aload_n hx hb dX7_exponentOf_20 rfl (lv_at hl 1 rfl) ?_
    refine m_get (C := RX7) (T := TX7) (N := 6) (ci := 6) (ref := "LoweredPowers$Reals") (v := .int I_0_bias) C0 hM 0 rfl rfl kt_X7_exponentOf_X7 1 (by decide) kw_X7_exponentOf_2 rfl rfl dX7_exponentOf_21 ?_
    refine lv_isub hx hb dX7_exponentOf_24 ?_
    refine lv_lload_n hx hb dX7_exponentOf_25 rfl (lv_at hl 2 rfl) ?_
    refine lv_bipush (v := (62 : Int32)) hx hb dX7_exponentOf_26 (by decide) ?_
    refine lv_aload_n hx hb dX7_exponentOf_28 rfl (lv_at hl 1 rfl) ?_
    refine m_get (C := RX7) (T := TX7) (N := 6) (ci := 6) (ref := "LoweredPowers$Reals") (v := .int I_0_fraction) C0 hM 0 rfl rfl kt_X7_exponentOf_X7 0 (by decide) kw_X7_exponentOf_1 rfl rfl dX7_exponentOf_29 ?_
    refine lv_isub hx hb dX7_exponentOf_32 ?_
    refine lv_lshl hx hb dX7_exponentOf_33 rfl ?_
    refine m_calli (wc := []) C0 hM [] rfl (m_runS (wc := []) (As := [.long (x1 <<< (((62 : Int32) - I_0_fraction).toInt64 &&& 63))]) (rest := [.int ((1 : Int32) - I_0_bias)]) C0 hM (ct_X7_gapOf l D cI cJ cZ (x1 <<< (((62 : Int32) - I_0_fraction).toInt64 &&& 63)) _ _ h) [] rfl (by decide) gX7_exponentOf_X7_gapOf rfl rfl rfl hd_X7_gapOf ⟨Nat.le_of_ble_eq_true rfl, Nat.le_of_ble_eq_true rfl⟩ rfl hl.1 rfl (Nat.le_of_ble_eq_true rfl) dX7_exponentOf_34 ⟨Nat.le_of_ble_eq_true rfl, Nat.le_of_ble_eq_true rfl⟩) (fun _ => [(h0, .inr (6, oX7 r0 I_0_fraction I_0_bias I_0_most I_0_signBit I_0_infinite I_0_nan))]) (fun _ => rfl) (fun _ => rfl) (fun y2 _ H locs h hM => ?_)
    refine lv_isub hx hb dX7_exponentOf_37 ?_
    subst hsz; subst hA; subst hQ
    exact m_iret C0 hr hM () h rfl dX7_exponentOf_38
  · have h := h.2 hq
    refine lv_iload_n hx hb dX7_exponentOf_12 rfl (lv_at hl 0 rfl) ?_
    refine lv_aload_n hx hb dX7_exponentOf_13 rfl (lv_at hl 1 rfl) ?_
    refine m_get (C := RX7) (T := TX7) (N := 6) (ci := 6) (ref := "LoweredPowers$Reals") (v := .int I_0_bias) C0 hM 0 rfl rfl kt_X7_exponentOf_X7 1 (by decide) kw_X7_exponentOf_2 rfl rfl dX7_exponentOf_14 ?_
    refine lv_isub hx hb dX7_exponentOf_17 ?_
    subst hsz; subst hA; subst hQ
    exact m_iret C0 hr hM () h rfl dX7_exponentOf_18
abbrev rm_X7_rounded : Room := { frames := 0, cells := 0, slots := 0, locals := 0 }
set_option maxRecDepth 100000 in
set_option maxHeartbeats 4000000 in
theorem ct_X7_rounded (l : Launch) (D : va_G) (cI cJ cZ : ClassId) (h0 : Nat) (r0 : Nat → Nat) (I_0_fraction : Int32) (I_0_bias : Int32) (I_0_most : Int32) (I_0_signBit : Int64) (I_0_infinite : Int64) (I_0_nan : Int64) (x1 : Int64) (x3 : Int32) (x4 : Int64) (sz : Nat) (K : Int64 → Prop) (h : wp_X7_rounded x1 x3 x4 I_0_fraction I_0_bias I_0_most I_0_infinite K) : Met l yX7_rounded wsX7_rounded rm_X7_rounded (va_Pc [.ref h0, .long x1, .int x3, .long x4] (WX D cI cJ cZ [(h0, .inr (6, oX7 r0 I_0_fraction I_0_bias I_0_most I_0_signBit I_0_infinite I_0_nan))] sz)) (va_Ql (fun (r : Int64) (_ : Unit) => K r ) (fun (_ : Unit) t => WY D (va_A [(h0, .inr (6, oX7 r0 I_0_fraction I_0_bias I_0_most I_0_signBit I_0_infinite I_0_nan))] sz) [(h0, .inr (6, oX7 r0 I_0_fraction I_0_bias I_0_most I_0_signBit I_0_infinite I_0_nan))] t) (va_A [(h0, .inr (6, oX7 r0 I_0_fraction I_0_bias I_0_most I_0_signBit I_0_infinite I_0_nan))] sz)) 0 0 (va_A [(h0, .inr (6, oX7 r0 I_0_fraction I_0_bias I_0_most I_0_signBit I_0_infinite I_0_nan))] sz) := by
  refine m_met (own := RX7) (cc := cX7_rounded) (maxL := 14) (ret := some .long) [.ref h0, .long x1, .int x3, .long x4] [(0, .ref h0), (1, .long x1), (3, .int x3), (4, .long x4)] (by decide) rfl rfl (Nat.le_of_ble_eq_true rfl) rfl ?_
  intro p e s m args below meth c Q A hQ hA C0 hr hnm hsz hM ls hl
  have hx := C0.1
  have hb := C0.2.1
  have hown := C0.2.2.2.1
  have jq117 : ∀ (x6 : Int32) (x8 : Int64) (H : Heap) (locs : List Loc) (ls : Array Slot) , jn_X7_rounded_117 x1 x3 x4 I_0_fraction I_0_bias I_0_most I_0_infinite K x6 x8 → MW D A s.heap [(h0, .inr (6, oX7 r0 I_0_fraction I_0_bias I_0_most I_0_signBit I_0_infinite I_0_nan))] H locs → lv_has ls 14 [(0, .ref h0), (1, .long x1), (6, .int x6), (8, .long x8)] → W p l e rm_X7_rounded s m args below meth c H locs 0 0 Q (F0 m 117 ls []) := by
    intro x6 x8 H locs ls h hM hl
    unfold jn_X7_rounded_117 at h
    refine lv_lload_n hx hb dX7_rounded_117 rfl (lv_at hl 1 rfl) ?_
    refine lv_iload hx hb dX7_rounded_118 (lv_at hl 2 rfl) ?_
    refine lv_iconst (v := (1 : Int32)) hx hb dX7_rounded_120 (by decide) ?_
    refine lv_isub hx hb dX7_rounded_121 ?_
    refine lv_i2l hx hb dX7_rounded_122 rfl ?_
    refine lv_aload_n hx hb dX7_rounded_123 rfl (lv_at hl 0 rfl) ?_
    refine m_get (C := RX7) (T := TX7) (N := 6) (ci := 6) (ref := "LoweredPowers$Reals") (v := .int I_0_fraction) C0 hM 0 rfl rfl kt_X7_rounded_X7 0 (by decide) kw_X7_rounded_4 rfl rfl dX7_rounded_124 ?_
    refine lv_lshl hx hb dX7_rounded_127 rfl ?_
    refine lv_lload hx hb dX7_rounded_128 (lv_at hl 3 rfl) ?_
    refine lv_ladd hx hb dX7_rounded_130 ?_
    refine lv_lor hx hb dX7_rounded_131 ?_
    subst hsz; subst hA; subst hQ
    exact m_lret C0 hr hM () h rfl dX7_rounded_132
  have jq111 : ∀ (x6 : Int32) (x8 : Int64) (H : Heap) (locs : List Loc) (ls : Array Slot) , jn_X7_rounded_111 x1 x3 x4 I_0_fraction I_0_bias I_0_most I_0_infinite K x6 x8 → MW D A s.heap [(h0, .inr (6, oX7 r0 I_0_fraction I_0_bias I_0_most I_0_signBit I_0_infinite I_0_nan))] H locs → lv_has ls 14 [(0, .ref h0), (1, .long x1), (6, .int x6), (8, .long x8)] → W p l e rm_X7_rounded s m args below meth c H locs 0 0 Q (F0 m 111 ls []) := by
    intro x6 x8 H locs ls h hM hl
    unfold jn_X7_rounded_111 at h
    refine lv_lload hx hb dX7_rounded_111 (lv_at hl 3 rfl) ?_
    refine lv_lconst (v := (1 : Int64)) hx hb dX7_rounded_113 (by decide) ?_
    refine lv_ladd hx hb dX7_rounded_114 ?_
    refine lv_topl (fun y1 ey1 => ?_)
    have h := h y1 ey1
    refine lv_lstore (lv' := [(8, .long y1), (0, .ref h0), (1, .long x1), (6, .int x6)]) hx hb dX7_rounded_115 hl (by decide) rfl (fun ls hl => ?_)
    exact jq117 _ _ _ _ _ h hM (lv_sub hl [1, 2, 3, 0] rfl)
  have jq51 : ∀ (x6 : Int32) (x7 : Int32) (H : Heap) (locs : List Loc) (ls : Array Slot) , jn_X7_rounded_51 x1 x3 x4 I_0_fraction I_0_bias I_0_most I_0_infinite K x6 x7 → MW D A s.heap [(h0, .inr (6, oX7 r0 I_0_fraction I_0_bias I_0_most I_0_signBit I_0_infinite I_0_nan))] H locs → lv_has ls 14 [(0, .ref h0), (1, .long x1), (4, .long x4), (6, .int x6), (7, .int x7)] → W p l e rm_X7_rounded s m args below meth c H locs 0 0 Q (F0 m 51 ls []) := by
    intro x6 x7 H locs ls h hM hl
    unfold jn_X7_rounded_51 at h
    refine lv_iload hx hb dX7_rounded_51 (lv_at hl 4 rfl) ?_
    refine lv_bipush (v := (63 : Int32)) hx hb dX7_rounded_53 (by decide) ?_
    refine lv_icmp_le (tgt := 60) hx hb dX7_rounded_55 (by decide) (fun hq => ?_) (fun hq => ?_)
    · have h := h.1 hq
      refine lv_lload hx hb dX7_rounded_60 (lv_at hl 2 rfl) ?_
      refine lv_iload hx hb dX7_rounded_62 (lv_at hl 4 rfl) ?_
      refine lv_lushr hx hb dX7_rounded_64 rfl ?_
      refine lv_topl (fun y2 ey2 => ?_)
      have h := h y2 ey2
      refine lv_lstore (lv' := [(8, .long y2), (0, .ref h0), (1, .long x1), (4, .long x4), (6, .int x6), (7, .int x7)]) hx hb dX7_rounded_65 hl (by decide) rfl (fun ls hl => ?_)
      refine lv_lload hx hb dX7_rounded_67 (lv_at hl 3 rfl) ?_
      refine lv_lconst (v := (1 : Int64)) hx hb dX7_rounded_69 (by decide) ?_
      refine lv_iload hx hb dX7_rounded_70 (lv_at hl 5 rfl) ?_
      refine lv_lshl hx hb dX7_rounded_72 rfl ?_
      refine lv_lconst (v := (1 : Int64)) hx hb dX7_rounded_73 (by decide) ?_
      refine lv_lsub hx hb dX7_rounded_74 ?_
      refine lv_land hx hb dX7_rounded_75 ?_
      refine lv_topl (fun y3 ey3 => ?_)
      have h := h y3 ey3
      refine lv_lstore (lv' := [(10, .long y3), (8, .long y2), (0, .ref h0), (1, .long x1), (4, .long x4), (6, .int x6), (7, .int x7)]) hx hb dX7_rounded_76 hl (by decide) rfl (fun ls hl => ?_)
      refine lv_lconst (v := (1 : Int64)) hx hb dX7_rounded_78 (by decide) ?_
      refine lv_iload hx hb dX7_rounded_79 (lv_at hl 6 rfl) ?_
      refine lv_iconst (v := (1 : Int32)) hx hb dX7_rounded_81 (by decide) ?_
      refine lv_isub hx hb dX7_rounded_82 ?_
      refine lv_lshl hx hb dX7_rounded_83 rfl ?_
      refine lv_topl (fun y4 ey4 => ?_)
      have h := h y4 ey4
      refine lv_lstore (lv' := [(12, .long y4), (10, .long y3), (8, .long y2), (0, .ref h0), (1, .long x1), (4, .long x4), (6, .int x6), (7, .int x7)]) hx hb dX7_rounded_84 hl (by decide) rfl (fun ls hl => ?_)
      refine lv_lload hx hb dX7_rounded_86 (lv_at hl 1 rfl) ?_
      refine lv_lload hx hb dX7_rounded_88 (lv_at hl 0 rfl) ?_
      refine W.lcmp hx hb dX7_rounded_90 ?_
      refine lv_if_gt (tgt := 111) hx hb dX7_rounded_91 (by decide) (fun hq => ?_) (fun hq => ?_)
      · have h := h.1 hq
        exact jq111 _ _ _ _ _ h hM (lv_sub hl [3, 4, 6, 2] rfl)
      · have h := h.2 hq
        refine lv_lload hx hb dX7_rounded_94 (lv_at hl 1 rfl) ?_
        refine lv_lload hx hb dX7_rounded_96 (lv_at hl 0 rfl) ?_
        refine W.lcmp hx hb dX7_rounded_98 ?_
        refine lv_if_ne (tgt := 117) hx hb dX7_rounded_99 (by decide) (fun hq => ?_) (fun hq => ?_)
        · have h := h.1 hq
          exact jq117 _ _ _ _ _ h hM (lv_sub hl [3, 4, 6, 2] rfl)
        · have h := h.2 hq
          refine lv_lload hx hb dX7_rounded_102 (lv_at hl 2 rfl) ?_
          refine lv_lconst (v := (1 : Int64)) hx hb dX7_rounded_104 (by decide) ?_
          refine lv_land hx hb dX7_rounded_105 ?_
          refine lv_lconst (v := (1 : Int64)) hx hb dX7_rounded_106 (by decide) ?_
          refine W.lcmp hx hb dX7_rounded_107 ?_
          refine lv_if_ne (tgt := 117) hx hb dX7_rounded_108 (by decide) (fun hq => ?_) (fun hq => ?_)
          · have h := h.1 hq
            exact jq117 _ _ _ _ _ h hM (lv_sub hl [3, 4, 6, 2] rfl)
          · have h := h.2 hq
            exact jq111 _ _ _ _ _ h hM (lv_sub hl [3, 4, 6, 2] rfl)
    · have h := h.2 hq
      refine lv_lload_n hx hb dX7_rounded_58 rfl (lv_at hl 1 rfl) ?_
      subst hsz; subst hA; subst hQ
      exact m_lret C0 hr hM () h rfl dX7_rounded_59
  unfold wp_X7_rounded at h
  refine lv_iload_n hx hb dX7_rounded_0 rfl (lv_at hl 2 rfl) ?_
  refine lv_aload_n hx hb dX7_rounded_1 rfl (lv_at hl 0 rfl) ?_
  refine m_get (C := RX7) (T := TX7) (N := 6) (ci := 6) (ref := "LoweredPowers$Reals") (v := .int I_0_bias) C0 hM 0 rfl rfl kt_X7_rounded_X7 1 (by decide) kw_X7_rounded_1 rfl rfl dX7_rounded_2 ?_
  refine lv_iadd hx hb dX7_rounded_5 ?_
  refine lv_topi (fun y5 ey5 => ?_)
  have h := h y5 ey5
  refine lv_istore (lv' := [(6, .int y5), (0, .ref h0), (1, .long x1), (3, .int x3), (4, .long x4)]) hx hb dX7_rounded_6 hl (by decide) rfl (fun ls hl => ?_)
  refine lv_iload hx hb dX7_rounded_8 (lv_at hl 0 rfl) ?_
  refine lv_aload_n hx hb dX7_rounded_10 rfl (lv_at hl 1 rfl) ?_
  refine m_get (C := RX7) (T := TX7) (N := 6) (ci := 6) (ref := "LoweredPowers$Reals") (v := .int I_0_most) C0 hM 0 rfl rfl kt_X7_rounded_X7 2 (by decide) kw_X7_rounded_2 rfl rfl dX7_rounded_11 ?_
  refine lv_icmp_lt (tgt := 24) hx hb dX7_rounded_14 (by decide) (fun hq => ?_) (fun hq => ?_)
  · have h := h.1 hq
    refine lv_bipush (v := (62 : Int32)) hx hb dX7_rounded_24 (by decide) ?_
    refine lv_aload_n hx hb dX7_rounded_26 rfl (lv_at hl 1 rfl) ?_
    refine m_get (C := RX7) (T := TX7) (N := 6) (ci := 6) (ref := "LoweredPowers$Reals") (v := .int I_0_fraction) C0 hM 0 rfl rfl kt_X7_rounded_X7 0 (by decide) kw_X7_rounded_4 rfl rfl dX7_rounded_27 ?_
    refine lv_isub hx hb dX7_rounded_30 ?_
    refine lv_topi (fun y6 ey6 => ?_)
    have h := h y6 ey6
    refine lv_istore (lv' := [(7, .int y6), (6, .int y5), (0, .ref h0), (1, .long x1), (3, .int x3), (4, .long x4)]) hx hb dX7_rounded_31 hl (by decide) rfl (fun ls hl => ?_)
    refine lv_iload hx hb dX7_rounded_33 (lv_at hl 1 rfl) ?_
    refine lv_iconst (v := (1 : Int32)) hx hb dX7_rounded_35 (by decide) ?_
    refine lv_icmp_ge (tgt := 51) hx hb dX7_rounded_36 (by decide) (fun hq => ?_) (fun hq => ?_)
    · have h := h.1 hq
      exact jq51 _ _ _ _ _ h hM (lv_sub hl [2, 3, 5, 1, 0] rfl)
    · have h := h.2 hq
      refine lv_iload hx hb dX7_rounded_39 (lv_at hl 0 rfl) ?_
      refine lv_iconst (v := (1 : Int32)) hx hb dX7_rounded_41 (by decide) ?_
      refine lv_iload hx hb dX7_rounded_42 (lv_at hl 1 rfl) ?_
      refine lv_isub hx hb dX7_rounded_44 ?_
      refine lv_iadd hx hb dX7_rounded_45 ?_
      refine lv_topi (fun y7 ey7 => ?_)
      have h := h y7 ey7
      refine lv_istore (lv' := [(7, .int y7), (6, .int y5), (0, .ref h0), (1, .long x1), (3, .int x3), (4, .long x4)]) hx hb dX7_rounded_46 hl (by decide) rfl (fun ls hl => ?_)
      refine lv_iconst (v := (1 : Int32)) hx hb dX7_rounded_48 (by decide) ?_
      refine lv_istore (lv' := [(6, .int (1 : Int32)), (7, .int y7), (0, .ref h0), (1, .long x1), (3, .int x3), (4, .long x4)]) hx hb dX7_rounded_49 hl (by decide) rfl (fun ls hl => ?_)
      exact jq51 _ _ _ _ _ h hM (lv_sub hl [2, 3, 5, 0, 1] rfl)
  · have h := h.2 hq
    refine lv_lload_n hx hb dX7_rounded_17 rfl (lv_at hl 2 rfl) ?_
    refine lv_aload_n hx hb dX7_rounded_18 rfl (lv_at hl 1 rfl) ?_
    refine m_get (C := RX7) (T := TX7) (N := 6) (ci := 6) (ref := "LoweredPowers$Reals") (v := .long I_0_infinite) C0 hM 0 rfl rfl kt_X7_rounded_X7 4 (by decide) kw_X7_rounded_3 rfl rfl dX7_rounded_19 ?_
    refine lv_lor hx hb dX7_rounded_22 ?_
    subst hsz; subst hA; subst hQ
    exact m_lret C0 hr hM () h rfl dX7_rounded_23
abbrev rm_X7_times : Room := { frames := 2, cells := 0, slots := 0, locals := 48 }
set_option maxRecDepth 100000 in
set_option maxHeartbeats 4000000 in
theorem ct_X7_times (l : Launch) (D : va_G) (cI cJ cZ : ClassId) (h0 : Nat) (r0 : Nat → Nat) (I_0_fraction : Int32) (I_0_bias : Int32) (I_0_most : Int32) (I_0_signBit : Int64) (I_0_infinite : Int64) (I_0_nan : Int64) (x1 : Int64) (x3 : Int64) (sz : Nat) (K : Int64 → Prop) (h : wp_X7_times x1 x3 I_0_fraction I_0_bias I_0_most I_0_signBit I_0_infinite I_0_nan K) : Met l yX7_times wsX7_times rm_X7_times (va_Pc [.ref h0, .long x1, .long x3] (WX D cI cJ cZ [(h0, .inr (6, oX7 r0 I_0_fraction I_0_bias I_0_most I_0_signBit I_0_infinite I_0_nan))] sz)) (va_Ql (fun (r : Int64) (_ : Unit) => K r ) (fun (_ : Unit) t => WY D (va_A [(h0, .inr (6, oX7 r0 I_0_fraction I_0_bias I_0_most I_0_signBit I_0_infinite I_0_nan))] sz) [(h0, .inr (6, oX7 r0 I_0_fraction I_0_bias I_0_most I_0_signBit I_0_infinite I_0_nan))] t) (va_A [(h0, .inr (6, oX7 r0 I_0_fraction I_0_bias I_0_most I_0_signBit I_0_infinite I_0_nan))] sz)) 0 0 (va_A [(h0, .inr (6, oX7 r0 I_0_fraction I_0_bias I_0_most I_0_signBit I_0_infinite I_0_nan))] sz) := by
  refine m_met (own := RX7) (cc := cX7_times) (maxL := 14) (ret := some .long) [.ref h0, .long x1, .long x3] [(0, .ref h0), (1, .long x1), (3, .long x3)] (by decide) rfl rfl (Nat.le_of_ble_eq_true rfl) rfl ?_
  intro p e s m args below meth c Q A hQ hA C0 hr hnm hsz hM ls hl
  have hx := C0.1
  have hb := C0.2.1
  have hown := C0.2.2.2.1
  have jq83 : ∀  (H : Heap) (locs : List Loc) (ls : Array Slot) , jn_X7_times_83 x1 x3 I_0_fraction I_0_bias I_0_most I_0_signBit I_0_infinite I_0_nan K  → MW D A s.heap [(h0, .inr (6, oX7 r0 I_0_fraction I_0_bias I_0_most I_0_signBit I_0_infinite I_0_nan))] H locs → lv_has ls 14 [(0, .ref h0)] → W p l e rm_X7_times s m args below meth c H locs 0 0 Q (F0 m 83 ls []) := by
    intro  H locs ls h hM hl
    unfold jn_X7_times_83 at h
    refine lv_aload_n hx hb dX7_times_83 rfl (lv_at hl 0 rfl) ?_
    refine m_get (C := RX7) (T := TX7) (N := 6) (ci := 6) (ref := "LoweredPowers$Reals") (v := .long I_0_nan) C0 hM 0 rfl rfl kt_X7_times_X7 5 (by decide) kw_X7_times_3 rfl rfl dX7_times_84 ?_
    refine lv_goto (tgt := 97) hx hb dX7_times_87 (by decide) ?_
    subst hsz; subst hA; subst hQ
    exact m_lret C0 hr hM () h rfl dX7_times_97
  have jq69 : ∀ (x5 : Int64) (x7 : Int64) (x9 : Int64) (H : Heap) (locs : List Loc) (ls : Array Slot) , jn_X7_times_69 x1 x3 I_0_fraction I_0_bias I_0_most I_0_signBit I_0_infinite I_0_nan K x5 x7 x9 → MW D A s.heap [(h0, .inr (6, oX7 r0 I_0_fraction I_0_bias I_0_most I_0_signBit I_0_infinite I_0_nan))] H locs → lv_has ls 14 [(0, .ref h0), (5, .long x5), (7, .long x7), (9, .long x9)] → W p l e rm_X7_times s m args below meth c H locs 0 0 Q (F0 m 69 ls []) := by
    intro x5 x7 x9 H locs ls h hM hl
    unfold jn_X7_times_69 at h
    refine lv_lload hx hb dX7_times_69 (lv_at hl 2 rfl) ?_
    refine lv_lconst (v := (0 : Int64)) hx hb dX7_times_71 (by decide) ?_
    refine W.lcmp hx hb dX7_times_72 ?_
    refine lv_if_eq (tgt := 83) hx hb dX7_times_73 (by decide) (fun hq => ?_) (fun hq => ?_)
    · have h := h.1 hq
      exact jq83  _ _ _ h hM (lv_sub hl [0] rfl)
    · have h := h.2 hq
      refine lv_lload hx hb dX7_times_76 (lv_at hl 3 rfl) ?_
      refine lv_lconst (v := (0 : Int64)) hx hb dX7_times_78 (by decide) ?_
      refine W.lcmp hx hb dX7_times_79 ?_
      refine lv_if_ne (tgt := 90) hx hb dX7_times_80 (by decide) (fun hq => ?_) (fun hq => ?_)
      · have h := h.1 hq
        refine lv_lload hx hb dX7_times_90 (lv_at hl 1 rfl) ?_
        refine lv_aload_n hx hb dX7_times_92 rfl (lv_at hl 0 rfl) ?_
        refine m_get (C := RX7) (T := TX7) (N := 6) (ci := 6) (ref := "LoweredPowers$Reals") (v := .long I_0_infinite) C0 hM 0 rfl rfl kt_X7_times_X7 4 (by decide) kw_X7_times_2 rfl rfl dX7_times_93 ?_
        refine lv_lor hx hb dX7_times_96 ?_
        subst hsz; subst hA; subst hQ
        exact m_lret C0 hr hM () h rfl dX7_times_97
      · have h := h.2 hq
        exact jq83  _ _ _ h hM (lv_sub hl [0] rfl)
  have jq44 : ∀  (H : Heap) (locs : List Loc) (ls : Array Slot) , jn_X7_times_44 x1 x3 I_0_fraction I_0_bias I_0_most I_0_signBit I_0_infinite I_0_nan K  → MW D A s.heap [(h0, .inr (6, oX7 r0 I_0_fraction I_0_bias I_0_most I_0_signBit I_0_infinite I_0_nan))] H locs → lv_has ls 14 [(0, .ref h0)] → W p l e rm_X7_times s m args below meth c H locs 0 0 Q (F0 m 44 ls []) := by
    intro  H locs ls h hM hl
    unfold jn_X7_times_44 at h
    refine lv_aload_n hx hb dX7_times_44 rfl (lv_at hl 0 rfl) ?_
    refine m_get (C := RX7) (T := TX7) (N := 6) (ci := 6) (ref := "LoweredPowers$Reals") (v := .long I_0_nan) C0 hM 0 rfl rfl kt_X7_times_X7 5 (by decide) kw_X7_times_3 rfl rfl dX7_times_45 ?_
    subst hsz; subst hA; subst hQ
    exact m_lret C0 hr hM () h rfl dX7_times_48
  unfold wp_X7_times at h
  refine lv_lload_n hx hb dX7_times_0 rfl (lv_at hl 1 rfl) ?_
  refine lv_lload_n hx hb dX7_times_1 rfl (lv_at hl 2 rfl) ?_
  refine lv_lxor hx hb dX7_times_2 ?_
  refine lv_aload_n hx hb dX7_times_3 rfl (lv_at hl 0 rfl) ?_
  refine m_get (C := RX7) (T := TX7) (N := 6) (ci := 6) (ref := "LoweredPowers$Reals") (v := .long I_0_signBit) C0 hM 0 rfl rfl kt_X7_times_X7 3 (by decide) kw_X7_times_1 rfl rfl dX7_times_4 ?_
  refine lv_land hx hb dX7_times_7 ?_
  refine lv_topl (fun y1 ey1 => ?_)
  have h := h y1 ey1
  refine lv_lstore (lv' := [(5, .long y1), (0, .ref h0), (1, .long x1), (3, .long x3)]) hx hb dX7_times_8 hl (by decide) rfl (fun ls hl => ?_)
  refine lv_aload_n hx hb dX7_times_10 rfl (lv_at hl 1 rfl) ?_
  refine lv_lload_n hx hb dX7_times_11 rfl (lv_at hl 2 rfl) ?_
  refine m_calll (wc := [(h0, .inr (6, oX7 r0 I_0_fraction I_0_bias I_0_most I_0_signBit I_0_infinite I_0_nan))]) C0 hM [0] rfl (m_runV (wc := [(h0, .inr (6, oX7 r0 I_0_fraction I_0_bias I_0_most I_0_signBit I_0_infinite I_0_nan))]) (As := [.long x1]) (rest := []) (ci := 6) C0 hM (ct_X7_magnitude l D cI cJ cZ h0 r0 I_0_fraction I_0_bias I_0_most I_0_signBit I_0_infinite I_0_nan x1 _ _ h) [0] rfl (by decide) gX7_times_X7_magnitude rfl rfl rfl rfl rfl hd_X7_magnitude ⟨Nat.le_of_ble_eq_true rfl, Nat.le_of_ble_eq_true rfl⟩ rfl hl.1 rfl (Nat.le_of_ble_eq_true rfl) dX7_times_12 ⟨Nat.le_of_ble_eq_true rfl, Nat.le_of_ble_eq_true rfl⟩) (fun _ => [(h0, .inr (6, oX7 r0 I_0_fraction I_0_bias I_0_most I_0_signBit I_0_infinite I_0_nan))]) (fun _ => rfl) (fun _ => rfl) (fun y2 _ H locs h hM => ?_)
  refine lv_lstore (lv' := [(7, .long y2), (5, .long y1), (0, .ref h0), (1, .long x1), (3, .long x3)]) hx hb dX7_times_15 hl (by decide) rfl (fun ls hl => ?_)
  refine lv_aload_n hx hb dX7_times_17 rfl (lv_at hl 2 rfl) ?_
  refine lv_lload_n hx hb dX7_times_18 rfl (lv_at hl 4 rfl) ?_
  refine m_calll (wc := [(h0, .inr (6, oX7 r0 I_0_fraction I_0_bias I_0_most I_0_signBit I_0_infinite I_0_nan))]) C0 hM [0] rfl (m_runV (wc := [(h0, .inr (6, oX7 r0 I_0_fraction I_0_bias I_0_most I_0_signBit I_0_infinite I_0_nan))]) (As := [.long x3]) (rest := []) (ci := 6) C0 hM (ct_X7_magnitude l D cI cJ cZ h0 r0 I_0_fraction I_0_bias I_0_most I_0_signBit I_0_infinite I_0_nan x3 _ _ h) [0] rfl (by decide) gX7_times_X7_magnitude rfl rfl rfl rfl rfl hd_X7_magnitude ⟨Nat.le_of_ble_eq_true rfl, Nat.le_of_ble_eq_true rfl⟩ rfl hl.1 rfl (Nat.le_of_ble_eq_true rfl) dX7_times_19 ⟨Nat.le_of_ble_eq_true rfl, Nat.le_of_ble_eq_true rfl⟩) (fun _ => [(h0, .inr (6, oX7 r0 I_0_fraction I_0_bias I_0_most I_0_signBit I_0_infinite I_0_nan))]) (fun _ => rfl) (fun _ => rfl) (fun y3 _ H locs h hM => ?_)
  refine lv_lstore (lv' := [(9, .long y3), (7, .long y2), (5, .long y1), (0, .ref h0), (1, .long x1), (3, .long x3)]) hx hb dX7_times_22 hl (by decide) rfl (fun ls hl => ?_)
  refine lv_lload hx hb dX7_times_24 (lv_at hl 1 rfl) ?_
  refine lv_aload_n hx hb dX7_times_26 rfl (lv_at hl 3 rfl) ?_
  refine m_get (C := RX7) (T := TX7) (N := 6) (ci := 6) (ref := "LoweredPowers$Reals") (v := .long I_0_infinite) C0 hM 0 rfl rfl kt_X7_times_X7 4 (by decide) kw_X7_times_2 rfl rfl dX7_times_27 ?_
  refine W.lcmp hx hb dX7_times_30 ?_
  refine lv_if_gt (tgt := 44) hx hb dX7_times_31 (by decide) (fun hq => ?_) (fun hq => ?_)
  · have h := h.1 hq
    exact jq44  _ _ _ h hM (lv_sub hl [3] rfl)
  · have h := h.2 hq
    refine lv_lload hx hb dX7_times_34 (lv_at hl 0 rfl) ?_
    refine lv_aload_n hx hb dX7_times_36 rfl (lv_at hl 3 rfl) ?_
    refine m_get (C := RX7) (T := TX7) (N := 6) (ci := 6) (ref := "LoweredPowers$Reals") (v := .long I_0_infinite) C0 hM 0 rfl rfl kt_X7_times_X7 4 (by decide) kw_X7_times_2 rfl rfl dX7_times_37 ?_
    refine W.lcmp hx hb dX7_times_40 ?_
    refine lv_if_le (tgt := 49) hx hb dX7_times_41 (by decide) (fun hq => ?_) (fun hq => ?_)
    · have h := h.1 hq
      refine lv_lload hx hb dX7_times_49 (lv_at hl 1 rfl) ?_
      refine lv_aload_n hx hb dX7_times_51 rfl (lv_at hl 3 rfl) ?_
      refine m_get (C := RX7) (T := TX7) (N := 6) (ci := 6) (ref := "LoweredPowers$Reals") (v := .long I_0_infinite) C0 hM 0 rfl rfl kt_X7_times_X7 4 (by decide) kw_X7_times_2 rfl rfl dX7_times_52 ?_
      refine W.lcmp hx hb dX7_times_55 ?_
      refine lv_if_eq (tgt := 69) hx hb dX7_times_56 (by decide) (fun hq => ?_) (fun hq => ?_)
      · have h := h.1 hq
        exact jq69 _ _ _ _ _ _ h hM (lv_sub hl [3, 2, 1, 0] rfl)
      · have h := h.2 hq
        refine lv_lload hx hb dX7_times_59 (lv_at hl 0 rfl) ?_
        refine lv_aload_n hx hb dX7_times_61 rfl (lv_at hl 3 rfl) ?_
        refine m_get (C := RX7) (T := TX7) (N := 6) (ci := 6) (ref := "LoweredPowers$Reals") (v := .long I_0_infinite) C0 hM 0 rfl rfl kt_X7_times_X7 4 (by decide) kw_X7_times_2 rfl rfl dX7_times_62 ?_
        refine W.lcmp hx hb dX7_times_65 ?_
        refine lv_if_ne (tgt := 98) hx hb dX7_times_66 (by decide) (fun hq => ?_) (fun hq => ?_)
        · have h := h.1 hq
          refine lv_lload hx hb dX7_times_98 (lv_at hl 1 rfl) ?_
          refine lv_lconst (v := (0 : Int64)) hx hb dX7_times_100 (by decide) ?_
          refine W.lcmp hx hb dX7_times_101 ?_
          refine lv_if_eq (tgt := 112) hx hb dX7_times_102 (by decide) (fun hq => ?_) (fun hq => ?_)
          · have h := h.1 hq
            refine lv_lload hx hb dX7_times_112 (lv_at hl 2 rfl) ?_
            subst hsz; subst hA; subst hQ
            exact m_lret C0 hr hM () h rfl dX7_times_114
          · have h := h.2 hq
            refine lv_lload hx hb dX7_times_105 (lv_at hl 0 rfl) ?_
            refine lv_lconst (v := (0 : Int64)) hx hb dX7_times_107 (by decide) ?_
            refine W.lcmp hx hb dX7_times_108 ?_
            refine lv_if_ne (tgt := 115) hx hb dX7_times_109 (by decide) (fun hq => ?_) (fun hq => ?_)
            · have h := h.1 hq
              refine lv_aload_n hx hb dX7_times_115 rfl (lv_at hl 3 rfl) ?_
              refine lv_lload hx hb dX7_times_116 (lv_at hl 1 rfl) ?_
              refine m_calll (wc := [(h0, .inr (6, oX7 r0 I_0_fraction I_0_bias I_0_most I_0_signBit I_0_infinite I_0_nan))]) C0 hM [0] rfl (m_runV (wc := [(h0, .inr (6, oX7 r0 I_0_fraction I_0_bias I_0_most I_0_signBit I_0_infinite I_0_nan))]) (As := [.long y2]) (rest := []) (ci := 6) C0 hM (ct_X7_significandOf l D cI cJ cZ h0 r0 I_0_fraction I_0_bias I_0_most I_0_signBit I_0_infinite I_0_nan y2 _ _ h) [0] rfl (by decide) gX7_times_X7_significandOf rfl rfl rfl rfl rfl hd_X7_significandOf ⟨Nat.le_of_ble_eq_true rfl, Nat.le_of_ble_eq_true rfl⟩ rfl hl.1 rfl (Nat.le_of_ble_eq_true rfl) dX7_times_118 ⟨Nat.le_of_ble_eq_true rfl, Nat.le_of_ble_eq_true rfl⟩) (fun _ => [(h0, .inr (6, oX7 r0 I_0_fraction I_0_bias I_0_most I_0_signBit I_0_infinite I_0_nan))]) (fun _ => rfl) (fun _ => rfl) (fun y4 _ H locs h hM => ?_)
              refine lv_bipush (v := (10 : Int32)) hx hb dX7_times_121 (by decide) ?_
              refine lv_lushr hx hb dX7_times_123 rfl ?_
              refine lv_aload_n hx hb dX7_times_124 rfl (lv_at hl 3 rfl) ?_
              refine lv_lload hx hb dX7_times_125 (lv_at hl 0 rfl) ?_
              refine m_calll (wc := [(h0, .inr (6, oX7 r0 I_0_fraction I_0_bias I_0_most I_0_signBit I_0_infinite I_0_nan))]) C0 hM [0] rfl (m_runV (wc := [(h0, .inr (6, oX7 r0 I_0_fraction I_0_bias I_0_most I_0_signBit I_0_infinite I_0_nan))]) (As := [.long y3]) (rest := [.long ((y4.toUInt64 >>> ((10 : Int32).toInt64.toUInt64 &&& Int64.toUInt64 63)).toInt64)]) (ci := 6) C0 hM (ct_X7_significandOf l D cI cJ cZ h0 r0 I_0_fraction I_0_bias I_0_most I_0_signBit I_0_infinite I_0_nan y3 _ _ h) [0] rfl (by decide) gX7_times_X7_significandOf rfl rfl rfl rfl rfl hd_X7_significandOf ⟨Nat.le_of_ble_eq_true rfl, Nat.le_of_ble_eq_true rfl⟩ rfl hl.1 rfl (Nat.le_of_ble_eq_true rfl) dX7_times_127 ⟨Nat.le_of_ble_eq_true rfl, Nat.le_of_ble_eq_true rfl⟩) (fun _ => [(h0, .inr (6, oX7 r0 I_0_fraction I_0_bias I_0_most I_0_signBit I_0_infinite I_0_nan))]) (fun _ => rfl) (fun _ => rfl) (fun y5 _ H locs h hM => ?_)
              refine lv_bipush (v := (10 : Int32)) hx hb dX7_times_130 (by decide) ?_
              refine lv_lushr hx hb dX7_times_132 rfl ?_
              refine m_calll (wc := []) C0 hM [] rfl (m_runS (wc := []) (As := [.long ((y4.toUInt64 >>> ((10 : Int32).toInt64.toUInt64 &&& Int64.toUInt64 63)).toInt64), .long ((y5.toUInt64 >>> ((10 : Int32).toInt64.toUInt64 &&& Int64.toUInt64 63)).toInt64)]) (rest := []) C0 hM (ct_X7_highProduct l D cI cJ cZ ((y4.toUInt64 >>> ((10 : Int32).toInt64.toUInt64 &&& Int64.toUInt64 63)).toInt64) ((y5.toUInt64 >>> ((10 : Int32).toInt64.toUInt64 &&& Int64.toUInt64 63)).toInt64) _ _ h) [] rfl (by decide) gX7_times_X7_highProduct rfl rfl rfl hd_X7_highProduct ⟨Nat.le_of_ble_eq_true rfl, Nat.le_of_ble_eq_true rfl⟩ rfl hl.1 rfl (Nat.le_of_ble_eq_true rfl) dX7_times_133 ⟨Nat.le_of_ble_eq_true rfl, Nat.le_of_ble_eq_true rfl⟩) (fun _ => [(h0, .inr (6, oX7 r0 I_0_fraction I_0_bias I_0_most I_0_signBit I_0_infinite I_0_nan))]) (fun _ => rfl) (fun _ => rfl) (fun y6 _ H locs h hM => ?_)
              refine lv_lstore (lv' := [(11, .long y6), (9, .long y3), (7, .long y2), (5, .long y1), (0, .ref h0), (1, .long x1), (3, .long x3)]) hx hb dX7_times_136 hl (by decide) rfl (fun ls hl => ?_)
              refine lv_lload hx hb dX7_times_138 (lv_at hl 0 rfl) ?_
              refine m_calli (wc := []) C0 hM [] rfl (m_runS (wc := []) (As := [.long y6]) (rest := []) C0 hM (ct_X7_gapOf l D cI cJ cZ y6 _ _ h) [] rfl (by decide) gX7_times_X7_gapOf rfl rfl rfl hd_X7_gapOf ⟨Nat.le_of_ble_eq_true rfl, Nat.le_of_ble_eq_true rfl⟩ rfl hl.1 rfl (Nat.le_of_ble_eq_true rfl) dX7_times_140 ⟨Nat.le_of_ble_eq_true rfl, Nat.le_of_ble_eq_true rfl⟩) (fun _ => [(h0, .inr (6, oX7 r0 I_0_fraction I_0_bias I_0_most I_0_signBit I_0_infinite I_0_nan))]) (fun _ => rfl) (fun _ => rfl) (fun y7 _ H locs h hM => ?_)
              refine lv_istore (lv' := [(13, .int y7), (11, .long y6), (9, .long y3), (7, .long y2), (5, .long y1), (0, .ref h0), (1, .long x1), (3, .long x3)]) hx hb dX7_times_143 hl (by decide) rfl (fun ls hl => ?_)
              refine lv_aload_n hx hb dX7_times_145 rfl (lv_at hl 5 rfl) ?_
              refine lv_lload hx hb dX7_times_146 (lv_at hl 4 rfl) ?_
              refine lv_aload_n hx hb dX7_times_148 rfl (lv_at hl 5 rfl) ?_
              refine lv_lload hx hb dX7_times_149 (lv_at hl 3 rfl) ?_
              refine m_calli (wc := [(h0, .inr (6, oX7 r0 I_0_fraction I_0_bias I_0_most I_0_signBit I_0_infinite I_0_nan))]) C0 hM [0] rfl (m_runV (wc := [(h0, .inr (6, oX7 r0 I_0_fraction I_0_bias I_0_most I_0_signBit I_0_infinite I_0_nan))]) (As := [.long y2]) (rest := [.long y1, .ref h0]) (ci := 6) C0 hM (ct_X7_exponentOf l D cI cJ cZ h0 r0 I_0_fraction I_0_bias I_0_most I_0_signBit I_0_infinite I_0_nan y2 _ _ h) [0] rfl (by decide) gX7_times_X7_exponentOf rfl rfl rfl rfl rfl hd_X7_exponentOf ⟨Nat.le_of_ble_eq_true rfl, Nat.le_of_ble_eq_true rfl⟩ rfl hl.1 rfl (Nat.le_of_ble_eq_true rfl) dX7_times_151 ⟨Nat.le_of_ble_eq_true rfl, Nat.le_of_ble_eq_true rfl⟩) (fun _ => [(h0, .inr (6, oX7 r0 I_0_fraction I_0_bias I_0_most I_0_signBit I_0_infinite I_0_nan))]) (fun _ => rfl) (fun _ => rfl) (fun y8 _ H locs h hM => ?_)
              refine lv_aload_n hx hb dX7_times_154 rfl (lv_at hl 5 rfl) ?_
              refine lv_lload hx hb dX7_times_155 (lv_at hl 2 rfl) ?_
              refine m_calli (wc := [(h0, .inr (6, oX7 r0 I_0_fraction I_0_bias I_0_most I_0_signBit I_0_infinite I_0_nan))]) C0 hM [0] rfl (m_runV (wc := [(h0, .inr (6, oX7 r0 I_0_fraction I_0_bias I_0_most I_0_signBit I_0_infinite I_0_nan))]) (As := [.long y3]) (rest := [.int y8, .long y1, .ref h0]) (ci := 6) C0 hM (ct_X7_exponentOf l D cI cJ cZ h0 r0 I_0_fraction I_0_bias I_0_most I_0_signBit I_0_infinite I_0_nan y3 _ _ h) [0] rfl (by decide) gX7_times_X7_exponentOf rfl rfl rfl rfl rfl hd_X7_exponentOf ⟨Nat.le_of_ble_eq_true rfl, Nat.le_of_ble_eq_true rfl⟩ rfl hl.1 rfl (Nat.le_of_ble_eq_true rfl) dX7_times_157 ⟨Nat.le_of_ble_eq_true rfl, Nat.le_of_ble_eq_true rfl⟩) (fun _ => [(h0, .inr (6, oX7 r0 I_0_fraction I_0_bias I_0_most I_0_signBit I_0_infinite I_0_nan))]) (fun _ => rfl) (fun _ => rfl) (fun y9 _ H locs h hM => ?_)
              refine lv_iadd hx hb dX7_times_160 ?_
              refine lv_iconst (v := (1 : Int32)) hx hb dX7_times_161 (by decide) ?_
              refine lv_iadd hx hb dX7_times_162 ?_
              refine lv_iload hx hb dX7_times_163 (lv_at hl 0 rfl) ?_
              refine lv_isub hx hb dX7_times_165 ?_
              refine lv_lload hx hb dX7_times_166 (lv_at hl 1 rfl) ?_
              refine lv_iload hx hb dX7_times_168 (lv_at hl 0 rfl) ?_
              refine lv_lshl hx hb dX7_times_170 rfl ?_
              refine m_calll (wc := [(h0, .inr (6, oX7 r0 I_0_fraction I_0_bias I_0_most I_0_signBit I_0_infinite I_0_nan))]) C0 hM [0] rfl (m_runV (wc := [(h0, .inr (6, oX7 r0 I_0_fraction I_0_bias I_0_most I_0_signBit I_0_infinite I_0_nan))]) (As := [.long y1, .int (((y8 + y9) + (1 : Int32)) - y7), .long (y6 <<< (y7.toInt64 &&& 63))]) (rest := []) (ci := 6) C0 hM (ct_X7_rounded l D cI cJ cZ h0 r0 I_0_fraction I_0_bias I_0_most I_0_signBit I_0_infinite I_0_nan y1 (((y8 + y9) + (1 : Int32)) - y7) (y6 <<< (y7.toInt64 &&& 63)) _ _ h) [0] rfl (by decide) gX7_times_X7_rounded rfl rfl rfl rfl rfl hd_X7_rounded ⟨Nat.le_of_ble_eq_true rfl, Nat.le_of_ble_eq_true rfl⟩ rfl hl.1 rfl (Nat.le_of_ble_eq_true rfl) dX7_times_171 ⟨Nat.le_of_ble_eq_true rfl, Nat.le_of_ble_eq_true rfl⟩) (fun _ => [(h0, .inr (6, oX7 r0 I_0_fraction I_0_bias I_0_most I_0_signBit I_0_infinite I_0_nan))]) (fun _ => rfl) (fun _ => rfl) (fun y10 _ H locs h hM => ?_)
              subst hsz; subst hA; subst hQ
              exact m_lret C0 hr hM () h rfl dX7_times_174
            · have h := h.2 hq
              refine lv_lload hx hb dX7_times_112 (lv_at hl 2 rfl) ?_
              subst hsz; subst hA; subst hQ
              exact m_lret C0 hr hM () h rfl dX7_times_114
        · have h := h.2 hq
          exact jq69 _ _ _ _ _ _ h hM (lv_sub hl [3, 2, 1, 0] rfl)
    · have h := h.2 hq
      exact jq44  _ _ _ h hM (lv_sub hl [3] rfl)
abbrev rm_X7_ofWhole : Room := { frames := 1, cells := 0, slots := 0, locals := 33 }
set_option maxRecDepth 100000 in
set_option maxHeartbeats 4000000 in
theorem ct_X7_ofWhole (l : Launch) (D : va_G) (cI cJ cZ : ClassId) (h0 : Nat) (r0 : Nat → Nat) (I_0_fraction : Int32) (I_0_bias : Int32) (I_0_most : Int32) (I_0_signBit : Int64) (I_0_infinite : Int64) (I_0_nan : Int64) (x1 : Int32) (sz : Nat) (K : Int64 → Prop) (h : wp_X7_ofWhole x1 I_0_fraction I_0_bias I_0_most I_0_signBit I_0_infinite K) : Met l yX7_ofWhole wsX7_ofWhole rm_X7_ofWhole (va_Pc [.ref h0, .int x1] (WX D cI cJ cZ [(h0, .inr (6, oX7 r0 I_0_fraction I_0_bias I_0_most I_0_signBit I_0_infinite I_0_nan))] sz)) (va_Ql (fun (r : Int64) (_ : Unit) => K r ) (fun (_ : Unit) t => WY D (va_A [(h0, .inr (6, oX7 r0 I_0_fraction I_0_bias I_0_most I_0_signBit I_0_infinite I_0_nan))] sz) [(h0, .inr (6, oX7 r0 I_0_fraction I_0_bias I_0_most I_0_signBit I_0_infinite I_0_nan))] t) (va_A [(h0, .inr (6, oX7 r0 I_0_fraction I_0_bias I_0_most I_0_signBit I_0_infinite I_0_nan))] sz)) 0 0 (va_A [(h0, .inr (6, oX7 r0 I_0_fraction I_0_bias I_0_most I_0_signBit I_0_infinite I_0_nan))] sz) := by
  refine m_met (own := RX7) (cc := cX7_ofWhole) (maxL := 5) (ret := some .long) [.ref h0, .int x1] [(0, .ref h0), (1, .int x1)] (by decide) rfl rfl (Nat.le_of_ble_eq_true rfl) rfl ?_
  intro p e s m args below meth c Q A hQ hA C0 hr hnm hsz hM ls hl
  have hx := C0.1
  have hb := C0.2.1
  have hown := C0.2.2.2.1
  have jq38 : ∀ (x2 : Int64) (x4 : Int32) (s1 : Int64) (H : Heap) (locs : List Loc) (ls : Array Slot) , jn_X7_ofWhole_38 x1 I_0_fraction I_0_bias I_0_most I_0_signBit I_0_infinite K x2 x4 s1 → MW D A s.heap [(h0, .inr (6, oX7 r0 I_0_fraction I_0_bias I_0_most I_0_signBit I_0_infinite I_0_nan))] H locs → lv_has ls 5 [(2, .long x2), (4, .int x4)] → W p l e rm_X7_ofWhole s m args below meth c H locs 0 0 Q (F0 m 38 ls [.long s1, .ref h0]) := by
    intro x2 x4 s1 H locs ls h hM hl
    unfold jn_X7_ofWhole_38 at h
    refine lv_bipush (v := (62 : Int32)) hx hb dX7_ofWhole_38 (by decide) ?_
    refine lv_iload hx hb dX7_ofWhole_40 (lv_at hl 1 rfl) ?_
    refine lv_isub hx hb dX7_ofWhole_42 ?_
    refine lv_lload_n hx hb dX7_ofWhole_43 rfl (lv_at hl 0 rfl) ?_
    refine lv_iload hx hb dX7_ofWhole_44 (lv_at hl 1 rfl) ?_
    refine lv_lshl hx hb dX7_ofWhole_46 rfl ?_
    refine m_calll (wc := [(h0, .inr (6, oX7 r0 I_0_fraction I_0_bias I_0_most I_0_signBit I_0_infinite I_0_nan))]) C0 hM [0] rfl (m_runV (wc := [(h0, .inr (6, oX7 r0 I_0_fraction I_0_bias I_0_most I_0_signBit I_0_infinite I_0_nan))]) (As := [.long s1, .int ((62 : Int32) - x4), .long (x2 <<< (x4.toInt64 &&& 63))]) (rest := []) (ci := 6) C0 hM (ct_X7_rounded l D cI cJ cZ h0 r0 I_0_fraction I_0_bias I_0_most I_0_signBit I_0_infinite I_0_nan s1 ((62 : Int32) - x4) (x2 <<< (x4.toInt64 &&& 63)) _ _ h) [0] rfl (by decide) gX7_ofWhole_X7_rounded rfl rfl rfl rfl rfl hd_X7_rounded ⟨Nat.le_of_ble_eq_true rfl, Nat.le_of_ble_eq_true rfl⟩ rfl hl.1 rfl (Nat.le_of_ble_eq_true rfl) dX7_ofWhole_47 ⟨Nat.le_of_ble_eq_true rfl, Nat.le_of_ble_eq_true rfl⟩) (fun _ => [(h0, .inr (6, oX7 r0 I_0_fraction I_0_bias I_0_most I_0_signBit I_0_infinite I_0_nan))]) (fun _ => rfl) (fun _ => rfl) (fun y1 _ H locs h hM => ?_)
    subst hsz; subst hA; subst hQ
    exact m_lret C0 hr hM () h rfl dX7_ofWhole_50
  have jq18 : ∀ (s0 : Int64) (H : Heap) (locs : List Loc) (ls : Array Slot) , jn_X7_ofWhole_18 x1 I_0_fraction I_0_bias I_0_most I_0_signBit I_0_infinite K s0 → MW D A s.heap [(h0, .inr (6, oX7 r0 I_0_fraction I_0_bias I_0_most I_0_signBit I_0_infinite I_0_nan))] H locs → lv_has ls 5 [(0, .ref h0), (1, .int x1)] → W p l e rm_X7_ofWhole s m args below meth c H locs 0 0 Q (F0 m 18 ls [.long s0]) := by
    intro s0 H locs ls h hM hl
    unfold jn_X7_ofWhole_18 at h
    refine lv_lstore_n (lv' := [(2, .long s0), (0, .ref h0), (1, .int x1)]) hx hb dX7_ofWhole_18 rfl hl (by decide) rfl (fun ls hl => ?_)
    refine lv_lload_n hx hb dX7_ofWhole_19 rfl (lv_at hl 0 rfl) ?_
    refine m_calli (wc := []) C0 hM [] rfl (m_runS (wc := []) (As := [.long s0]) (rest := []) C0 hM (ct_X7_gapOf l D cI cJ cZ s0 _ _ h) [] rfl (by decide) gX7_ofWhole_X7_gapOf rfl rfl rfl hd_X7_gapOf ⟨Nat.le_of_ble_eq_true rfl, Nat.le_of_ble_eq_true rfl⟩ rfl hl.1 rfl (Nat.le_of_ble_eq_true rfl) dX7_ofWhole_20 ⟨Nat.le_of_ble_eq_true rfl, Nat.le_of_ble_eq_true rfl⟩) (fun _ => [(h0, .inr (6, oX7 r0 I_0_fraction I_0_bias I_0_most I_0_signBit I_0_infinite I_0_nan))]) (fun _ => rfl) (fun _ => rfl) (fun y2 _ H locs h hM => ?_)
    refine lv_istore (lv' := [(4, .int y2), (2, .long s0), (0, .ref h0), (1, .int x1)]) hx hb dX7_ofWhole_23 hl (by decide) rfl (fun ls hl => ?_)
    refine lv_aload_n hx hb dX7_ofWhole_25 rfl (lv_at hl 2 rfl) ?_
    refine lv_iload_n hx hb dX7_ofWhole_26 rfl (lv_at hl 3 rfl) ?_
    refine lv_if_ge (tgt := 37) hx hb dX7_ofWhole_27 (by decide) (fun hq => ?_) (fun hq => ?_)
    · have h := h.1 hq
      refine lv_lconst (v := (0 : Int64)) hx hb dX7_ofWhole_37 (by decide) ?_
      exact jq38 _ _ _ _ _ _ h hM (lv_sub hl [1, 0] rfl)
    · have h := h.2 hq
      refine lv_aload_n hx hb dX7_ofWhole_30 rfl (lv_at hl 2 rfl) ?_
      refine m_get (C := RX7) (T := TX7) (N := 6) (ci := 6) (ref := "LoweredPowers$Reals") (v := .long I_0_signBit) C0 hM 0 rfl rfl kt_X7_ofWhole_X7 3 (by decide) kw_X7_ofWhole_1 rfl rfl dX7_ofWhole_31 ?_
      refine lv_goto (tgt := 38) hx hb dX7_ofWhole_34 (by decide) ?_
      exact jq38 _ _ _ _ _ _ h hM (lv_sub hl [1, 0] rfl)
  unfold wp_X7_ofWhole at h
  refine lv_iload_n hx hb dX7_ofWhole_0 rfl (lv_at hl 1 rfl) ?_
  refine lv_if_ne (tgt := 6) hx hb dX7_ofWhole_1 (by decide) (fun hq => ?_) (fun hq => ?_)
  · have h := h.1 hq
    refine lv_iload_n hx hb dX7_ofWhole_6 rfl (lv_at hl 1 rfl) ?_
    refine lv_if_ge (tgt := 16) hx hb dX7_ofWhole_7 (by decide) (fun hq => ?_) (fun hq => ?_)
    · have h := h.1 hq
      refine lv_iload_n hx hb dX7_ofWhole_16 rfl (lv_at hl 1 rfl) ?_
      refine lv_i2l hx hb dX7_ofWhole_17 rfl ?_
      exact jq18 _ _ _ _ h hM (lv_sub hl [0, 1] rfl)
    · have h := h.2 hq
      refine lv_iload_n hx hb dX7_ofWhole_10 rfl (lv_at hl 1 rfl) ?_
      refine lv_i2l hx hb dX7_ofWhole_11 rfl ?_
      refine lv_lneg hx hb dX7_ofWhole_12 ?_
      refine lv_goto (tgt := 18) hx hb dX7_ofWhole_13 (by decide) ?_
      exact jq18 _ _ _ _ h hM (lv_sub hl [0, 1] rfl)
  · have h := h.2 hq
    refine lv_lconst (v := (0 : Int64)) hx hb dX7_ofWhole_4 (by decide) ?_
    subst hsz; subst hA; subst hQ
    exact m_lret C0 hr hM () h rfl dX7_ofWhole_5
abbrev rm_X7_lowered : Room := { frames := 0, cells := 0, slots := 0, locals := 0 }
set_option maxRecDepth 100000 in
set_option maxHeartbeats 4000000 in
theorem ct_X7_lowered (l : Launch) (D : va_G) (cI cJ cZ : ClassId) (x0 : Int64) (x2 : Int32) (sz : Nat) (K : Int64 → Prop) (h : wp_X7_lowered x0 x2 K) : Met l yX7_lowered wsX7_lowered rm_X7_lowered (va_Pc [.long x0, .int x2] (WX D cI cJ cZ [] sz)) (va_Ql (fun (r : Int64) (_ : Unit) => K r ) (fun (_ : Unit) t => WY D (va_A [] sz) [] t) (va_A [] sz)) 0 0 (va_A [] sz) := by
  refine m_met (own := RX7) (cc := cX7_lowered) (maxL := 5) (ret := some .long) [.long x0, .int x2] [(0, .long x0), (2, .int x2)] (by decide) rfl rfl (Nat.le_of_ble_eq_true rfl) rfl ?_
  intro p e s m args below meth c Q A hQ hA C0 hr hnm hsz hM ls hl
  have hx := C0.1
  have hb := C0.2.1
  have hown := C0.2.2.2.1
  unfold wp_X7_lowered at h
  refine lv_iload_n hx hb dX7_lowered_0 rfl (lv_at hl 1 rfl) ?_
  refine lv_bipush (v := (62 : Int32)) hx hb dX7_lowered_1 (by decide) ?_
  refine lv_icmp_le (tgt := 8) hx hb dX7_lowered_3 (by decide) (fun hq => ?_) (fun hq => ?_)
  · have h := h.1 hq
    refine lv_lload_n hx hb dX7_lowered_8 rfl (lv_at hl 0 rfl) ?_
    refine lv_lconst (v := (1 : Int64)) hx hb dX7_lowered_9 (by decide) ?_
    refine lv_iload_n hx hb dX7_lowered_10 rfl (lv_at hl 1 rfl) ?_
    refine lv_lshl hx hb dX7_lowered_11 rfl ?_
    refine lv_lconst (v := (1 : Int64)) hx hb dX7_lowered_12 (by decide) ?_
    refine lv_lsub hx hb dX7_lowered_13 ?_
    refine lv_land hx hb dX7_lowered_14 ?_
    refine lv_topl (fun y1 ey1 => ?_)
    have h := h y1 ey1
    refine lv_lstore_n (lv' := [(3, .long y1), (0, .long x0), (2, .int x2)]) hx hb dX7_lowered_15 rfl hl (by decide) rfl (fun ls hl => ?_)
    refine lv_lload_n hx hb dX7_lowered_16 rfl (lv_at hl 1 rfl) ?_
    refine lv_iload_n hx hb dX7_lowered_17 rfl (lv_at hl 2 rfl) ?_
    refine lv_lushr hx hb dX7_lowered_18 rfl ?_
    refine lv_lload_n hx hb dX7_lowered_19 rfl (lv_at hl 0 rfl) ?_
    refine lv_lconst (v := (0 : Int64)) hx hb dX7_lowered_20 (by decide) ?_
    refine W.lcmp hx hb dX7_lowered_21 ?_
    refine lv_if_eq (tgt := 29) hx hb dX7_lowered_22 (by decide) (fun hq => ?_) (fun hq => ?_)
    · have h := h.1 hq
      refine lv_iconst (v := (0 : Int32)) hx hb dX7_lowered_29 (by decide) ?_
      refine lv_i2l hx hb dX7_lowered_30 rfl ?_
      refine lv_lor hx hb dX7_lowered_31 ?_
      subst hsz; subst hA; subst hQ
      exact m_lret C0 hr hM () h rfl dX7_lowered_32
    · have h := h.2 hq
      refine lv_iconst (v := (1 : Int32)) hx hb dX7_lowered_25 (by decide) ?_
      refine lv_goto (tgt := 30) hx hb dX7_lowered_26 (by decide) ?_
      refine lv_i2l hx hb dX7_lowered_30 rfl ?_
      refine lv_lor hx hb dX7_lowered_31 ?_
      subst hsz; subst hA; subst hQ
      exact m_lret C0 hr hM () h rfl dX7_lowered_32
  · have h := h.2 hq
    refine lv_lconst (v := (1 : Int64)) hx hb dX7_lowered_6 (by decide) ?_
    subst hsz; subst hA; subst hQ
    exact m_lret C0 hr hM () h rfl dX7_lowered_7
