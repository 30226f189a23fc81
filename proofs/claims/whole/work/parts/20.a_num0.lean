theorem hd_J7_fill_53178 : yJ7_fill_53178.cls ≠ "java/lang/invoke/MethodHandle" ∧ yJ7_fill_53178.cls ≠ "java/lang/invoke/VarHandle" ∧ (parseMethodDescriptor yJ7_fill_53178.desc).map (fun d => d.parameters.length) = some 2 := by decide +kernel
theorem hd_X3_fold : yX3_fold.cls ≠ "java/lang/invoke/MethodHandle" ∧ yX3_fold.cls ≠ "java/lang/invoke/VarHandle" ∧ (parseMethodDescriptor yX3_fold.desc).map (fun d => d.parameters.length) = some 1 := by decide +kernel
theorem hd_X3_inverse : yX3_inverse.cls ≠ "java/lang/invoke/MethodHandle" ∧ yX3_inverse.cls ≠ "java/lang/invoke/VarHandle" ∧ (parseMethodDescriptor yX3_inverse.desc).map (fun d => d.parameters.length) = some 1 := by decide +kernel
theorem hd_X3_highest : yX3_highest.cls ≠ "java/lang/invoke/MethodHandle" ∧ yX3_highest.cls ≠ "java/lang/invoke/VarHandle" ∧ (parseMethodDescriptor yX3_highest.desc).map (fun d => d.parameters.length) = some 1 := by decide +kernel
theorem hd_X3_multiply : yX3_multiply.cls ≠ "java/lang/invoke/MethodHandle" ∧ yX3_multiply.cls ≠ "java/lang/invoke/VarHandle" ∧ (parseMethodDescriptor yX3_multiply.desc).map (fun d => d.parameters.length) = some 2 := by decide +kernel
theorem hd_X3_raise : yX3_raise.cls ≠ "java/lang/invoke/MethodHandle" ∧ yX3_raise.cls ≠ "java/lang/invoke/VarHandle" ∧ (parseMethodDescriptor yX3_raise.desc).map (fun d => d.parameters.length) = some 3 := by decide +kernel
theorem hd_X3_derive : yX3_derive.cls ≠ "java/lang/invoke/MethodHandle" ∧ yX3_derive.cls ≠ "java/lang/invoke/VarHandle" ∧ (parseMethodDescriptor yX3_derive.desc).map (fun d => d.parameters.length) = some 1 := by decide +kernel
theorem hd_X3_others : yX3_others.cls ≠ "java/lang/invoke/MethodHandle" ∧ yX3_others.cls ≠ "java/lang/invoke/VarHandle" ∧ (parseMethodDescriptor yX3_others.desc).map (fun d => d.parameters.length) = some 1 := by decide +kernel
theorem hd_X3_notBelow : yX3_notBelow.cls ≠ "java/lang/invoke/MethodHandle" ∧ yX3_notBelow.cls ≠ "java/lang/invoke/VarHandle" ∧ (parseMethodDescriptor yX3_notBelow.desc).map (fun d => d.parameters.length) = some 1 := by decide +kernel
theorem hd_X11_within : yX11_within.cls ≠ "java/lang/invoke/MethodHandle" ∧ yX11_within.cls ≠ "java/lang/invoke/VarHandle" ∧ (parseMethodDescriptor yX11_within.desc).map (fun d => d.parameters.length) = some 3 := by decide +kernel
theorem hd_X11_floatPattern : yX11_floatPattern.cls ≠ "java/lang/invoke/MethodHandle" ∧ yX11_floatPattern.cls ≠ "java/lang/invoke/VarHandle" ∧ (parseMethodDescriptor yX11_floatPattern.desc).map (fun d => d.parameters.length) = some 1 := by decide +kernel
theorem hd_J9_floorMod_7cf53 : yJ9_floorMod_7cf53.cls ≠ "java/lang/invoke/MethodHandle" ∧ yJ9_floorMod_7cf53.cls ≠ "java/lang/invoke/VarHandle" ∧ (parseMethodDescriptor yJ9_floorMod_7cf53.desc).map (fun d => d.parameters.length) = some 2 := by decide +kernel
theorem hd_J9_abs_0f7a4 : yJ9_abs_0f7a4.cls ≠ "java/lang/invoke/MethodHandle" ∧ yJ9_abs_0f7a4.cls ≠ "java/lang/invoke/VarHandle" ∧ (parseMethodDescriptor yJ9_abs_0f7a4.desc).map (fun d => d.parameters.length) = some 1 := by decide +kernel
theorem kw_X3_fold_1 : Cond.constantLong RX3 9 (10007) ∈ wsX3_fold := List.mem_of_getElem? (i := 1) rfl
theorem kw_X11_floatPattern_1 : Cond.constantLong RX11 300 (4294967295) ∈ wsX11_floatPattern := List.mem_of_getElem? (i := 1) rfl
abbrev rm_J7_fill_53178 : Room := { frames := 0, cells := 0, slots := 0, locals := 0 }
set_option maxRecDepth 100000 in
set_option maxHeartbeats 4000000 in
theorem ct_J7_fill_53178 (l : Launch) (D : va_G) (cI cJ cZ : ClassId) (h0 : Nat) (n0 : Nat) (A0 : (Nat → Int32)) (x1 : Int32) (sz : Nat) (K : (Nat → Int32) → Prop) (h : wp_J7_fill_53178 n0 x1 A0 K) : Met l yJ7_fill_53178 wsJ7_fill_53178 rm_J7_fill_53178 (va_Pc [.ref h0, .int x1] (WX D cI cJ cZ [(h0, .inl (cI, n0, .inl A0))] sz)) (va_Qv (fun (u : (Nat → Int32)) => K u) (fun (u : (Nat → Int32)) t => WY D (va_A [(h0, .inl (cI, n0, .inl A0))] sz) [(h0, .inl (cI, n0, .inl u))] t) (va_A [(h0, .inl (cI, n0, .inl A0))] sz)) 0 0 (va_A [(h0, .inl (cI, n0, .inl A0))] sz) := by
  refine m_metF (own := RJ7) (cc := cJ7_fill_53178) (maxL := 4) (ret := none) [.ref h0, .int x1] [(0, .ref h0), (1, .int x1)] (by decide +kernel) rfl rfl (Nat.le_of_ble_eq_true rfl) rfl ?_
  intro p e s m args below meth c Q A hQ hA C0 hr hnm hsz hM ls hl
  have hx := C0.1
  have hb := C0.2.1
  have hown := C0.2.2.2.1
  have lq5 : ∀ (k5 : Nat) (x2 : Int32) (x3 : Int32) (A0 : (Nat → Int32)) (H : Heap) (locs : List Loc) (ls : Array Slot) , lp_J7_fill_53178_5 n0 x1 K k5 x2 x3 A0 → MW D A s.heap [(h0, .inl (cI, n0, .inl A0))] H locs → lv_has ls 4 [(0, .ref h0), (1, .int x1), (2, .int x2), (3, .int x3)] → W p l e rm_J7_fill_53178 s m args below meth c H locs 0 0 Q (F0 m 5 ls []) := by
    intro k5
    induction k5 with
    | zero =>
      intro x2 x3 A0 H locs ls h
      unfold lp_J7_fill_53178_5 at h
      exact h.elim
    | succ k5 ih5 =>
      intro x2 x3 A0 H locs ls h hM hl
      unfold lp_J7_fill_53178_5 at h
      refine lv_iload_n hx hb dJ7_fill_53178_5 rfl (lv_at hl 2 rfl) ?_
      refine lv_iload_n hx hb dJ7_fill_53178_6 rfl (lv_at hl 3 rfl) ?_
      refine lv_icmp_ge (tgt := 20) hx hb dJ7_fill_53178_7 (by decide) (fun hq => ?_) (fun hq => ?_)
      · have h := h.1 hq
        subst hsz; subst hA; subst hQ
        exact m_vret C0 hr hM A0 h rfl dJ7_fill_53178_20
      · have h := h.2 hq
        refine lv_aload_n hx hb dJ7_fill_53178_10 rfl (lv_at hl 0 rfl) ?_
        refine lv_iload_n hx hb dJ7_fill_53178_11 rfl (lv_at hl 2 rfl) ?_
        refine lv_iload_n hx hb dJ7_fill_53178_12 rfl (lv_at hl 1 rfl) ?_
        obtain ⟨hc1, h⟩ := h
        refine m_iast (ws' := [(h0, .inl (cI, n0, .inl (upd A0 (x2).toNatClampNeg x1)))]) C0 hM 0 rfl hc1 rfl dJ7_fill_53178_13 (fun H locs hM => ?_)
        refine lv_iinc (v := (x2 + (1 : Int32))) (lv' := [(2, .int (x2 + (1 : Int32))), (0, .ref h0), (1, .int x1), (3, .int x3)]) hx hb dJ7_fill_53178_14 hl (k := 2) rfl rfl (by decide) rfl (fun ls hl => ?_)
        refine lv_goto (tgt := 5) hx hb dJ7_fill_53178_17 (by decide) ?_
        exact ih5 _ _ _ _ _ _ h hM (lv_sub hl [1, 2, 0, 3] rfl)
  unfold wp_J7_fill_53178 at h
  refine lv_iconst (v := (0 : Int32)) hx hb dJ7_fill_53178_0 (by decide) ?_
  refine lv_istore_n (lv' := [(2, .int (0 : Int32)), (0, .ref h0), (1, .int x1)]) hx hb dJ7_fill_53178_1 rfl hl (by decide) rfl (fun ls hl => ?_)
  refine lv_aload_n hx hb dJ7_fill_53178_2 rfl (lv_at hl 1 rfl) ?_
  refine m_alen C0 hM 0 rfl dJ7_fill_53178_3 ?_
  refine lv_topi (fun y2 ey2 => ?_)
  have h := h y2 ey2
  refine lv_istore_n (lv' := [(3, .int y2), (2, .int (0 : Int32)), (0, .ref h0), (1, .int x1)]) hx hb dJ7_fill_53178_4 rfl hl (by decide) rfl (fun ls hl => ?_)
  obtain ⟨k0, h⟩ := h
  exact lq5 k0 _ _ _ _ _ _ h hM (lv_sub hl [2, 3, 1, 0] rfl)
abbrev rm_X3_fold : Room := { frames := 0, cells := 0, slots := 0, locals := 0 }
set_option maxRecDepth 100000 in
set_option maxHeartbeats 4000000 in
theorem ct_X3_fold (l : Launch) (D : va_G) (cI cJ cZ : ClassId) (x0 : Int64) (sz : Nat) (K : Int32 → Prop) (h : wp_X3_fold x0 K) : Met l yX3_fold wsX3_fold rm_X3_fold (va_Pc [.long x0] (WX D cI cJ cZ [] sz)) (va_Qi (fun (r : Int32) (_ : Unit) => K r ) (fun (_ : Unit) t => WY D (va_A [] sz) [] t) (va_A [] sz)) 0 0 (va_A [] sz) := by
  refine m_met (own := RX3) (cc := cX3_fold) (maxL := 3) (ret := some .int) [.long x0] [(0, .long x0)] (by decide) rfl rfl (Nat.le_of_ble_eq_true rfl) rfl ?_
  intro p e s m args below meth c Q A hQ hA C0 hr hnm hsz hM ls hl
  have hx := C0.1
  have hb := C0.2.1
  have hown := C0.2.2.2.1
  unfold wp_X3_fold at h
  refine lv_lload_n hx hb dX3_fold_0 rfl (lv_at hl 0 rfl) ?_
  refine lv_ldc2 (v := (10007 : Int64)) hx hb hown (C0.2.2.2.2.1 _ kw_X3_fold_1) dX3_fold_1 ?_
  refine lv_lrem hx hb dX3_fold_4 (by decide) ?_
  refine lv_l2i hx hb dX3_fold_5 rfl ?_
  refine lv_topi (fun y1 ey1 => ?_)
  have h := h y1 ey1
  refine lv_istore_n (lv' := [(2, .int y1), (0, .long x0)]) hx hb dX3_fold_6 rfl hl (by decide) rfl (fun ls hl => ?_)
  refine lv_iload_n hx hb dX3_fold_7 rfl (lv_at hl 0 rfl) ?_
  refine lv_sipush (v := (5003 : Int32)) hx hb dX3_fold_8 (by decide) ?_
  refine lv_icmp_le (tgt := 20) hx hb dX3_fold_11 (by decide) (fun hq => ?_) (fun hq => ?_)
  · have h := h.1 hq
    refine lv_iload_n hx hb dX3_fold_20 rfl (lv_at hl 0 rfl) ?_
    refine lv_sipush (v := (-5003 : Int32)) hx hb dX3_fold_21 (by decide) ?_
    refine lv_icmp_ge (tgt := 35) hx hb dX3_fold_24 (by decide) (fun hq => ?_) (fun hq => ?_)
    · have h := h.1 hq
      refine lv_iload_n hx hb dX3_fold_35 rfl (lv_at hl 0 rfl) ?_
      subst hsz; subst hA; subst hQ
      exact m_iret C0 hr hM () h rfl dX3_fold_36
    · have h := h.2 hq
      refine lv_iload_n hx hb dX3_fold_27 rfl (lv_at hl 0 rfl) ?_
      refine lv_sipush (v := (10007 : Int32)) hx hb dX3_fold_28 (by decide) ?_
      refine lv_iadd hx hb dX3_fold_31 ?_
      refine lv_goto (tgt := 36) hx hb dX3_fold_32 (by decide) ?_
      subst hsz; subst hA; subst hQ
      exact m_iret C0 hr hM () h rfl dX3_fold_36
  · have h := h.2 hq
    refine lv_iload_n hx hb dX3_fold_14 rfl (lv_at hl 0 rfl) ?_
    refine lv_sipush (v := (10007 : Int32)) hx hb dX3_fold_15 (by decide) ?_
    refine lv_isub hx hb dX3_fold_18 ?_
    subst hsz; subst hA; subst hQ
    exact m_iret C0 hr hM () h rfl dX3_fold_19
abbrev rm_X3_inverse : Room := { frames := 1, cells := 0, slots := 0, locals := 22 }
set_option maxRecDepth 100000 in
set_option maxHeartbeats 4000000 in
theorem ct_X3_inverse (l : Launch) (D : va_G) (cI cJ cZ : ClassId) (x0 : Int32) (sz : Nat) (K : Int32 → Prop) (h : wp_X3_inverse x0 K) : Met l yX3_inverse wsX3_inverse rm_X3_inverse (va_Pc [.int x0] (WX D cI cJ cZ [] sz)) (va_Qi (fun (r : Int32) (_ : Unit) => K r ) (fun (_ : Unit) t => WY D (va_A [] sz) [] t) (va_A [] sz)) 0 0 (va_A [] sz) := by
  refine m_met (own := RX3) (cc := cX3_inverse) (maxL := 4) (ret := some .int) [.int x0] [(0, .int x0)] (by decide) rfl rfl (Nat.le_of_ble_eq_true rfl) rfl ?_
  intro p e s m args below meth c Q A hQ hA C0 hr hnm hsz hM ls hl
  have hx := C0.1
  have hb := C0.2.1
  have hown := C0.2.2.2.1
  have lq12 : ∀ (k12 : Nat) (x1 : Int32) (x2 : Int32) (x3 : Int32) (H : Heap) (locs : List Loc) (ls : Array Slot) , lp_X3_inverse_12 x0 K k12 x1 x2 x3 → MW D A s.heap [] H locs → lv_has ls 4 [(1, .int x1), (2, .int x2), (3, .int x3)] → W p l e rm_X3_inverse s m args below meth c H locs 0 0 Q (F0 m 12 ls []) := by
    intro k12
    induction k12 with
    | zero =>
      intro x1 x2 x3 H locs ls h
      unfold lp_X3_inverse_12 at h
      exact h.elim
    | succ k12 ih12 =>
      have jq32 : ∀ (x1 : Int32) (x2 : Int32) (x3 : Int32) (H : Heap) (locs : List Loc) (ls : Array Slot) , jn_X3_inverse_32 x0 (fun x1 x2 x3 => lp_X3_inverse_12 x0 K k12 x1 x2 x3) K x1 x2 x3 → MW D A s.heap [] H locs → lv_has ls 4 [(1, .int x1), (2, .int x2), (3, .int x3)] → W p l e rm_X3_inverse s m args below meth c H locs 0 0 Q (F0 m 32 ls []) := by
        intro x1 x2 x3 H locs ls h hM hl
        unfold jn_X3_inverse_32 at h
        refine lv_iload_n hx hb dX3_inverse_32 rfl (lv_at hl 1 rfl) ?_
        refine lv_i2l hx hb dX3_inverse_33 rfl ?_
        refine lv_iload_n hx hb dX3_inverse_34 rfl (lv_at hl 1 rfl) ?_
        refine lv_i2l hx hb dX3_inverse_35 rfl ?_
        refine lv_lmul hx hb dX3_inverse_36 ?_
        refine m_calli (wc := []) C0 hM [] rfl (m_runS (wc := []) (As := [.long ((x2.toInt64) * (x2.toInt64))]) (rest := []) C0 hM (ct_X3_fold l D cI cJ cZ ((x2.toInt64) * (x2.toInt64)) _ _ h) [] rfl (by decide) gX3_inverse_X3_fold rfl rfl rfl hd_X3_fold ⟨Nat.le_of_ble_eq_true rfl, Nat.le_of_ble_eq_true rfl⟩ rfl hl.1 rfl (Nat.le_of_ble_eq_true rfl) dX3_inverse_37 ⟨Nat.le_of_ble_eq_true rfl, Nat.le_of_ble_eq_true rfl⟩) (fun _ => []) (fun _ => rfl) (fun _ => rfl) (fun y1 _ H locs h hM => ?_)
        refine lv_istore_n (lv' := [(2, .int y1), (1, .int x1), (3, .int x3)]) hx hb dX3_inverse_40 rfl hl (by decide) rfl (fun ls hl => ?_)
        refine lv_iload_n hx hb dX3_inverse_41 rfl (lv_at hl 2 rfl) ?_
        refine lv_iconst (v := (1 : Int32)) hx hb dX3_inverse_42 (by decide) ?_
        refine lv_ishr hx hb dX3_inverse_43 ?_
        refine lv_topi (fun y2 ey2 => ?_)
        have h := h y2 ey2
        refine lv_istore_n (lv' := [(3, .int y2), (2, .int y1), (1, .int x1)]) hx hb dX3_inverse_44 rfl hl (by decide) rfl (fun ls hl => ?_)
        refine lv_goto (tgt := 12) hx hb dX3_inverse_45 (by decide) ?_
        exact ih12 _ _ _ _ _ _ h hM (lv_sub hl [2, 1, 0] rfl)
      intro x1 x2 x3 H locs ls h hM hl
      unfold lp_X3_inverse_12 at h
      refine lv_iload_n hx hb dX3_inverse_12 rfl (lv_at hl 2 rfl) ?_
      refine lv_if_le (tgt := 48) hx hb dX3_inverse_13 (by decide) (fun hq => ?_) (fun hq => ?_)
      · have h := h.1 hq
        refine lv_iload_n hx hb dX3_inverse_48 rfl (lv_at hl 0 rfl) ?_
        subst hsz; subst hA; subst hQ
        exact m_iret C0 hr hM () h rfl dX3_inverse_49
      · have h := h.2 hq
        refine lv_iload_n hx hb dX3_inverse_16 rfl (lv_at hl 2 rfl) ?_
        refine lv_iconst (v := (1 : Int32)) hx hb dX3_inverse_17 (by decide) ?_
        refine lv_iand hx hb dX3_inverse_18 ?_
        refine lv_iconst (v := (1 : Int32)) hx hb dX3_inverse_19 (by decide) ?_
        refine lv_icmp_ne (tgt := 32) hx hb dX3_inverse_20 (by decide) (fun hq => ?_) (fun hq => ?_)
        · have h := h.1 hq
          exact jq32 _ _ _ _ _ _ h hM (lv_sub hl [0, 1, 2] rfl)
        · have h := h.2 hq
          refine lv_iload_n hx hb dX3_inverse_23 rfl (lv_at hl 0 rfl) ?_
          refine lv_i2l hx hb dX3_inverse_24 rfl ?_
          refine lv_iload_n hx hb dX3_inverse_25 rfl (lv_at hl 1 rfl) ?_
          refine lv_i2l hx hb dX3_inverse_26 rfl ?_
          refine lv_lmul hx hb dX3_inverse_27 ?_
          refine m_calli (wc := []) C0 hM [] rfl (m_runS (wc := []) (As := [.long ((x1.toInt64) * (x2.toInt64))]) (rest := []) C0 hM (ct_X3_fold l D cI cJ cZ ((x1.toInt64) * (x2.toInt64)) _ _ h) [] rfl (by decide) gX3_inverse_X3_fold rfl rfl rfl hd_X3_fold ⟨Nat.le_of_ble_eq_true rfl, Nat.le_of_ble_eq_true rfl⟩ rfl hl.1 rfl (Nat.le_of_ble_eq_true rfl) dX3_inverse_28 ⟨Nat.le_of_ble_eq_true rfl, Nat.le_of_ble_eq_true rfl⟩) (fun _ => []) (fun _ => rfl) (fun _ => rfl) (fun y3 _ H locs h hM => ?_)
          refine lv_istore_n (lv' := [(1, .int y3), (2, .int x2), (3, .int x3)]) hx hb dX3_inverse_31 rfl hl (by decide) rfl (fun ls hl => ?_)
          exact jq32 _ _ _ _ _ _ h hM (lv_sub hl [0, 1, 2] rfl)
  unfold wp_X3_inverse at h
  refine lv_iconst (v := (1 : Int32)) hx hb dX3_inverse_0 (by decide) ?_
  refine lv_istore_n (lv' := [(1, .int (1 : Int32)), (0, .int x0)]) hx hb dX3_inverse_1 rfl hl (by decide) rfl (fun ls hl => ?_)
  refine lv_iload_n hx hb dX3_inverse_2 rfl (lv_at hl 1 rfl) ?_
  refine lv_i2l hx hb dX3_inverse_3 rfl ?_
  refine m_calli (wc := []) C0 hM [] rfl (m_runS (wc := []) (As := [.long (x0.toInt64)]) (rest := []) C0 hM (ct_X3_fold l D cI cJ cZ (x0.toInt64) _ _ h) [] rfl (by decide) gX3_inverse_X3_fold rfl rfl rfl hd_X3_fold ⟨Nat.le_of_ble_eq_true rfl, Nat.le_of_ble_eq_true rfl⟩ rfl hl.1 rfl (Nat.le_of_ble_eq_true rfl) dX3_inverse_4 ⟨Nat.le_of_ble_eq_true rfl, Nat.le_of_ble_eq_true rfl⟩) (fun _ => []) (fun _ => rfl) (fun _ => rfl) (fun y4 _ H locs h hM => ?_)
  refine lv_istore_n (lv' := [(2, .int y4), (1, .int (1 : Int32)), (0, .int x0)]) hx hb dX3_inverse_7 rfl hl (by decide) rfl (fun ls hl => ?_)
  refine lv_sipush (v := (10005 : Int32)) hx hb dX3_inverse_8 (by decide) ?_
  refine lv_istore_n (lv' := [(3, .int (10005 : Int32)), (2, .int y4), (1, .int (1 : Int32)), (0, .int x0)]) hx hb dX3_inverse_11 rfl hl (by decide) rfl (fun ls hl => ?_)
  obtain ⟨k0, h⟩ := h
  exact lq12 k0 _ _ _ _ _ _ h hM (lv_sub hl [2, 1, 0] rfl)
abbrev rm_X3_highest : Room := { frames := 0, cells := 0, slots := 0, locals := 0 }
set_option maxRecDepth 100000 in
set_option maxHeartbeats 4000000 in
theorem ct_X3_highest (l : Launch) (D : va_G) (cI cJ cZ : ClassId) (h0 : Nat) (n0 : Nat) (A0 : (Nat → Int32)) (sz : Nat) (K : Int32 → Prop) (h : wp_X3_highest n0 A0 K) : Met l yX3_highest wsX3_highest rm_X3_highest (va_Pc [.ref h0] (WX D cI cJ cZ [(h0, .inl (cI, n0, .inl A0))] sz)) (va_Qi (fun (r : Int32) (_ : Unit) => K r ) (fun (_ : Unit) t => WY D (va_A [(h0, .inl (cI, n0, .inl A0))] sz) [(h0, .inl (cI, n0, .inl A0))] t) (va_A [(h0, .inl (cI, n0, .inl A0))] sz)) 0 0 (va_A [(h0, .inl (cI, n0, .inl A0))] sz) := by
  refine m_met (own := RX3) (cc := cX3_highest) (maxL := 2) (ret := some .int) [.ref h0] [(0, .ref h0)] (by decide) rfl rfl (Nat.le_of_ble_eq_true rfl) rfl ?_
  intro p e s m args below meth c Q A hQ hA C0 hr hnm hsz hM ls hl
  have hx := C0.1
  have hb := C0.2.1
  have hown := C0.2.2.2.1
  have lq5 : ∀ (k5 : Nat) (x1 : Int32) (H : Heap) (locs : List Loc) (ls : Array Slot) , lp_X3_highest_5 n0 A0 K k5 x1 → MW D A s.heap [(h0, .inl (cI, n0, .inl A0))] H locs → lv_has ls 2 [(0, .ref h0), (1, .int x1)] → W p l e rm_X3_highest s m args below meth c H locs 0 0 Q (F0 m 5 ls []) := by
    intro k5
    induction k5 with
    | zero =>
      intro x1 H locs ls h
      unfold lp_X3_highest_5 at h
      exact h.elim
    | succ k5 ih5 =>
      intro x1 H locs ls h hM hl
      unfold lp_X3_highest_5 at h
      refine lv_iload_n hx hb dX3_highest_5 rfl (lv_at hl 1 rfl) ?_
      refine lv_if_lt (tgt := 23) hx hb dX3_highest_6 (by decide) (fun hq => ?_) (fun hq => ?_)
      · have h := h.1 hq
        refine lv_iconst (v := (-1 : Int32)) hx hb dX3_highest_23 (by decide) ?_
        subst hsz; subst hA; subst hQ
        exact m_iret C0 hr hM () h rfl dX3_highest_24
      · have h := h.2 hq
        refine lv_aload_n hx hb dX3_highest_9 rfl (lv_at hl 0 rfl) ?_
        refine lv_iload_n hx hb dX3_highest_10 rfl (lv_at hl 1 rfl) ?_
        obtain ⟨hc1, h⟩ := h
        refine m_iald C0 hM 0 rfl hc1 dX3_highest_11 ?_
        refine lv_if_eq (tgt := 17) hx hb dX3_highest_12 (by decide) (fun hq => ?_) (fun hq => ?_)
        · have h := h.1 hq
          refine lv_iinc (v := (x1 + (-1 : Int32))) (lv' := [(1, .int (x1 + (-1 : Int32))), (0, .ref h0)]) hx hb dX3_highest_17 hl (k := 1) rfl rfl (by decide) rfl (fun ls hl => ?_)
          refine lv_goto (tgt := 5) hx hb dX3_highest_20 (by decide) ?_
          exact ih5 _ _ _ _ h hM (lv_sub hl [1, 0] rfl)
        · have h := h.2 hq
          refine lv_iload_n hx hb dX3_highest_15 rfl (lv_at hl 1 rfl) ?_
          subst hsz; subst hA; subst hQ
          exact m_iret C0 hr hM () h rfl dX3_highest_16
  unfold wp_X3_highest at h
  refine lv_aload_n hx hb dX3_highest_0 rfl (lv_at hl 0 rfl) ?_
  refine m_alen C0 hM 0 rfl dX3_highest_1 ?_
  refine lv_iconst (v := (1 : Int32)) hx hb dX3_highest_2 (by decide) ?_
  refine lv_isub hx hb dX3_highest_3 ?_
  refine lv_topi (fun y2 ey2 => ?_)
  have h := h y2 ey2
  refine lv_istore_n (lv' := [(1, .int y2), (0, .ref h0)]) hx hb dX3_highest_4 rfl hl (by decide) rfl (fun ls hl => ?_)
  obtain ⟨k0, h⟩ := h
  exact lq5 k0 _ _ _ _ h hM (lv_sub hl [1, 0] rfl)
abbrev rm_X3_multiply : Room := { frames := 1, cells := 0, slots := 0, locals := 22 }
set_option maxRecDepth 100000 in
set_option maxHeartbeats 4000000 in
theorem ct_X3_multiply (l : Launch) (D : va_G) (cI cJ cZ : ClassId) (h0 : Nat) (h1 : Nat) (A0 : (Nat → Int32)) (A1 : (Nat → Int32)) (sz : Nat) (K : (Nat → Int32) → Prop) (h : wp_X3_multiply A0 A1 K) : Met l yX3_multiply wsX3_multiply rm_X3_multiply (va_Pc [.ref h0, .ref h1] (WX D cI cJ cZ [(h0, .inl (cI, 25, .inl A0)), (h1, .inl (cI, 5, .inl A1))] sz)) (va_Qv (fun (u : (Nat → Int32)) => K u) (fun (u : (Nat → Int32)) t => WY D (va_A [(h0, .inl (cI, 25, .inl A0)), (h1, .inl (cI, 5, .inl A1))] sz) [(h0, .inl (cI, 25, .inl u)), (h1, .inl (cI, 5, .inl A1))] t) (va_A [(h0, .inl (cI, 25, .inl A0)), (h1, .inl (cI, 5, .inl A1))] sz)) 0 0 (va_A [(h0, .inl (cI, 25, .inl A0)), (h1, .inl (cI, 5, .inl A1))] sz) := by
  refine m_met (own := RX3) (cc := cX3_multiply) (maxL := 6) (ret := none) [.ref h0, .ref h1] [(0, .ref h0), (1, .ref h1)] (by decide) rfl rfl (Nat.le_of_ble_eq_true rfl) rfl ?_
  intro p e s m args below meth c Q A hQ hA C0 hr hnm hsz hM ls hl
  have hx := C0.1
  have hb := C0.2.1
  have hown := C0.2.2.2.1
  have lq5 : ∀ (k5 : Nat) (x2 : Int32) (A0 : (Nat → Int32)) (H : Heap) (locs : List Loc) (ls : Array Slot) , lp_X3_multiply_5 A1 K k5 x2 A0 → MW D A s.heap [(h0, .inl (cI, 25, .inl A0)), (h1, .inl (cI, 5, .inl A1))] H locs → lv_has ls 6 [(0, .ref h0), (1, .ref h1), (2, .int x2)] → W p l e rm_X3_multiply s m args below meth c H locs 0 0 Q (F0 m 5 ls []) := by
    intro k5
    induction k5 with
    | zero =>
      intro x2 A0 H locs ls h
      unfold lp_X3_multiply_5 at h
      exact h.elim
    | succ k5 ih5 =>
      have jq48 : ∀ (x2 : Int32) (x3 : Int64) (A0 : (Nat → Int32)) (H : Heap) (locs : List Loc) (ls : Array Slot) , jn_X3_multiply_48 A1 (fun x2 A0 => lp_X3_multiply_5 A1 K k5 x2 A0) K x2 x3 A0 → MW D A s.heap [(h0, .inl (cI, 25, .inl A0)), (h1, .inl (cI, 5, .inl A1))] H locs → lv_has ls 6 [(0, .ref h0), (1, .ref h1), (2, .int x2), (3, .long x3)] → W p l e rm_X3_multiply s m args below meth c H locs 0 0 Q (F0 m 48 ls []) := by
        intro x2 x3 A0 H locs ls h hM hl
        unfold jn_X3_multiply_48 at h
        refine lv_aload_n hx hb dX3_multiply_48 rfl (lv_at hl 0 rfl) ?_
        refine lv_iload_n hx hb dX3_multiply_49 rfl (lv_at hl 2 rfl) ?_
        refine lv_lload_n hx hb dX3_multiply_50 rfl (lv_at hl 3 rfl) ?_
        refine m_calli (wc := []) C0 hM [] rfl (m_runS (wc := []) (As := [.long x3]) (rest := [.int x2, .ref h0]) C0 hM (ct_X3_fold l D cI cJ cZ x3 _ _ h) [] rfl (by decide) gX3_multiply_X3_fold rfl rfl rfl hd_X3_fold ⟨Nat.le_of_ble_eq_true rfl, Nat.le_of_ble_eq_true rfl⟩ rfl hl.1 rfl (Nat.le_of_ble_eq_true rfl) dX3_multiply_51 ⟨Nat.le_of_ble_eq_true rfl, Nat.le_of_ble_eq_true rfl⟩) (fun _ => [(h0, .inl (cI, 25, .inl A0)), (h1, .inl (cI, 5, .inl A1))]) (fun _ => rfl) (fun _ => rfl) (fun y1 _ H locs h hM => ?_)
        obtain ⟨hc2, h⟩ := h
        refine m_iast (ws' := [(h0, .inl (cI, 25, .inl (upd A0 (x2).toNatClampNeg y1))), (h1, .inl (cI, 5, .inl A1))]) C0 hM 0 rfl hc2 rfl dX3_multiply_54 (fun H locs hM => ?_)
        refine lv_iinc (v := (x2 + (-1 : Int32))) (lv' := [(2, .int (x2 + (-1 : Int32))), (0, .ref h0), (1, .ref h1), (3, .long x3)]) hx hb dX3_multiply_55 hl (k := 2) rfl rfl (by decide) rfl (fun ls hl => ?_)
        refine lv_goto (tgt := 5) hx hb dX3_multiply_58 (by decide) ?_
        exact ih5 _ _ _ _ _ h hM (lv_sub hl [1, 2, 0] rfl)
      have lq14 : ∀ (k14 : Nat) (x2 : Int32) (x3 : Int64) (x5 : Int32) (A0 : (Nat → Int32)) (H : Heap) (locs : List Loc) (ls : Array Slot) , lp_X3_multiply_14 A1 (jn_X3_multiply_48 A1 (fun x2 A0 => lp_X3_multiply_5 A1 K k5 x2 A0) K) K k14 x2 x3 x5 A0 → MW D A s.heap [(h0, .inl (cI, 25, .inl A0)), (h1, .inl (cI, 5, .inl A1))] H locs → lv_has ls 6 [(0, .ref h0), (1, .ref h1), (2, .int x2), (3, .long x3), (5, .int x5)] → W p l e rm_X3_multiply s m args below meth c H locs 0 0 Q (F0 m 14 ls []) := by
        intro k14
        induction k14 with
        | zero =>
          intro x2 x3 x5 A0 H locs ls h
          unfold lp_X3_multiply_14 at h
          exact h.elim
        | succ k14 ih14 =>
          intro x2 x3 x5 A0 H locs ls h hM hl
          unfold lp_X3_multiply_14 at h
          refine lv_iload hx hb dX3_multiply_14 (lv_at hl 4 rfl) ?_
          refine lv_iconst (v := (4 : Int32)) hx hb dX3_multiply_16 (by decide) ?_
          refine lv_icmp_gt (tgt := 48) hx hb dX3_multiply_17 (by decide) (fun hq => ?_) (fun hq => ?_)
          · have h := h.1 hq
            exact jq48 _ _ _ _ _ _ h hM (lv_sub hl [0, 1, 2, 3] rfl)
          · have h := h.2 hq
            refine lv_iload hx hb dX3_multiply_20 (lv_at hl 4 rfl) ?_
            refine lv_iload_n hx hb dX3_multiply_22 rfl (lv_at hl 2 rfl) ?_
            refine lv_icmp_gt (tgt := 48) hx hb dX3_multiply_23 (by decide) (fun hq => ?_) (fun hq => ?_)
            · have h := h.1 hq
              exact jq48 _ _ _ _ _ _ h hM (lv_sub hl [0, 1, 2, 3] rfl)
            · have h := h.2 hq
              refine lv_lload_n hx hb dX3_multiply_26 rfl (lv_at hl 3 rfl) ?_
              refine lv_aload_n hx hb dX3_multiply_27 rfl (lv_at hl 1 rfl) ?_
              refine lv_iload hx hb dX3_multiply_28 (lv_at hl 4 rfl) ?_
              obtain ⟨hc3, h⟩ := h
              refine m_iald C0 hM 1 rfl hc3 dX3_multiply_30 ?_
              refine lv_i2l hx hb dX3_multiply_31 rfl ?_
              refine lv_aload_n hx hb dX3_multiply_32 rfl (lv_at hl 0 rfl) ?_
              refine lv_iload_n hx hb dX3_multiply_33 rfl (lv_at hl 2 rfl) ?_
              refine lv_iload hx hb dX3_multiply_34 (lv_at hl 4 rfl) ?_
              refine lv_isub hx hb dX3_multiply_36 ?_
              obtain ⟨hc4, h⟩ := h
              refine m_iald C0 hM 0 rfl hc4 dX3_multiply_37 ?_
              refine lv_i2l hx hb dX3_multiply_38 rfl ?_
              refine lv_lmul hx hb dX3_multiply_39 ?_
              refine lv_ladd hx hb dX3_multiply_40 ?_
              refine lv_topl (fun y5 ey5 => ?_)
              have h := h y5 ey5
              refine lv_lstore_n (lv' := [(3, .long y5), (0, .ref h0), (1, .ref h1), (2, .int x2), (5, .int x5)]) hx hb dX3_multiply_41 rfl hl (by decide) rfl (fun ls hl => ?_)
              refine lv_iinc (v := (x5 + (1 : Int32))) (lv' := [(5, .int (x5 + (1 : Int32))), (3, .long y5), (0, .ref h0), (1, .ref h1), (2, .int x2)]) hx hb dX3_multiply_42 hl (k := 4) rfl rfl (by decide) rfl (fun ls hl => ?_)
              refine lv_goto (tgt := 14) hx hb dX3_multiply_45 (by decide) ?_
              exact ih14 _ _ _ _ _ _ _ h hM (lv_sub hl [2, 3, 4, 1, 0] rfl)
      intro x2 A0 H locs ls h hM hl
      unfold lp_X3_multiply_5 at h
      refine lv_iload_n hx hb dX3_multiply_5 rfl (lv_at hl 2 rfl) ?_
      refine lv_if_lt (tgt := 61) hx hb dX3_multiply_6 (by decide) (fun hq => ?_) (fun hq => ?_)
      · have h := h.1 hq
        subst hsz; subst hA; subst hQ
        exact m_vret C0 hr hM A0 h rfl dX3_multiply_61
      · have h := h.2 hq
        refine lv_lconst (v := (0 : Int64)) hx hb dX3_multiply_9 (by decide) ?_
        refine lv_lstore_n (lv' := [(3, .long (0 : Int64)), (0, .ref h0), (1, .ref h1), (2, .int x2)]) hx hb dX3_multiply_10 rfl hl (by decide) rfl (fun ls hl => ?_)
        refine lv_iconst (v := (0 : Int32)) hx hb dX3_multiply_11 (by decide) ?_
        refine lv_istore (lv' := [(5, .int (0 : Int32)), (3, .long (0 : Int64)), (0, .ref h0), (1, .ref h1), (2, .int x2)]) hx hb dX3_multiply_12 hl (by decide) rfl (fun ls hl => ?_)
        obtain ⟨k0, h⟩ := h
        exact lq14 k0 _ _ _ _ _ _ _ h hM (lv_sub hl [2, 3, 4, 1, 0] rfl)
  unfold wp_X3_multiply at h
  refine lv_aload_n hx hb dX3_multiply_0 rfl (lv_at hl 0 rfl) ?_
  refine m_alen C0 hM 0 rfl dX3_multiply_1 ?_
  refine lv_iconst (v := (1 : Int32)) hx hb dX3_multiply_2 (by decide) ?_
  refine lv_isub hx hb dX3_multiply_3 ?_
  refine lv_topi (fun y6 ey6 => ?_)
  have h := h y6 ey6
  refine lv_istore_n (lv' := [(2, .int y6), (0, .ref h0), (1, .ref h1)]) hx hb dX3_multiply_4 rfl hl (by decide) rfl (fun ls hl => ?_)
  obtain ⟨k0, h⟩ := h
  exact lq5 k0 _ _ _ _ _ h hM (lv_sub hl [1, 2, 0] rfl)
abbrev rm_X3_raise : Room := { frames := 2, cells := 0, slots := 0, locals := 47 }
set_option maxRecDepth 100000 in
set_option maxHeartbeats 4000000 in
theorem ct_X3_raise (l : Launch) (D : va_G) (cI cJ cZ : ClassId) (h0 : Nat) (h1 : Nat) (A0 : (Nat → Int32)) (A1 : (Nat → Int32)) (x2 : Int32) (sz : Nat) (K : (Nat → Int32) → Prop) (h : wp_X3_raise x2 A0 A1 K) : Met l yX3_raise wsX3_raise rm_X3_raise (va_Pc [.ref h0, .ref h1, .int x2] (WX D cI cJ cZ [(h0, .inl (cI, 25, .inl A0)), (h1, .inl (cI, 5, .inl A1))] sz)) (va_Qv (fun (u : (Nat → Int32)) => K u) (fun (u : (Nat → Int32)) t => WY D (va_A [(h0, .inl (cI, 25, .inl A0)), (h1, .inl (cI, 5, .inl A1))] sz) [(h0, .inl (cI, 25, .inl u)), (h1, .inl (cI, 5, .inl A1))] t) (va_A [(h0, .inl (cI, 25, .inl A0)), (h1, .inl (cI, 5, .inl A1))] sz)) 0 0 (va_A [(h0, .inl (cI, 25, .inl A0)), (h1, .inl (cI, 5, .inl A1))] sz) := by
  refine m_met (own := RX3) (cc := cX3_raise) (maxL := 4) (ret := none) [.ref h0, .ref h1, .int x2] [(0, .ref h0), (1, .ref h1), (2, .int x2)] (by decide) rfl rfl (Nat.le_of_ble_eq_true rfl) rfl ?_
  intro p e s m args below meth c Q A hQ hA C0 hr hnm hsz hM ls hl
  have hx := C0.1
  have hb := C0.2.1
  have hown := C0.2.2.2.1
  have lq11 : ∀ (k11 : Nat) (x3 : Int32) (A0 : (Nat → Int32)) (H : Heap) (locs : List Loc) (ls : Array Slot) , lp_X3_raise_11 x2 A1 K k11 x3 A0 → MW D A s.heap [(h0, .inl (cI, 25, .inl A0)), (h1, .inl (cI, 5, .inl A1))] H locs → lv_has ls 4 [(0, .ref h0), (1, .ref h1), (2, .int x2), (3, .int x3)] → W p l e rm_X3_raise s m args below meth c H locs 0 0 Q (F0 m 11 ls []) := by
    intro k11
    induction k11 with
    | zero =>
      intro x3 A0 H locs ls h
      unfold lp_X3_raise_11 at h
      exact h.elim
    | succ k11 ih11 =>
      intro x3 A0 H locs ls h hM hl
      unfold lp_X3_raise_11 at h
      refine lv_iload_n hx hb dX3_raise_11 rfl (lv_at hl 3 rfl) ?_
      refine lv_iload_n hx hb dX3_raise_12 rfl (lv_at hl 2 rfl) ?_
      refine lv_icmp_ge (tgt := 27) hx hb dX3_raise_13 (by decide) (fun hq => ?_) (fun hq => ?_)
      · have h := h.1 hq
        subst hsz; subst hA; subst hQ
        exact m_vret C0 hr hM A0 h rfl dX3_raise_27
      · have h := h.2 hq
        refine lv_aload_n hx hb dX3_raise_16 rfl (lv_at hl 0 rfl) ?_
        refine lv_aload_n hx hb dX3_raise_17 rfl (lv_at hl 1 rfl) ?_
        refine m_callv (wc := [(h0, .inl (cI, 25, .inl A0)), (h1, .inl (cI, 5, .inl A1))]) C0 hM [0, 1] rfl (m_runS (wc := [(h0, .inl (cI, 25, .inl A0)), (h1, .inl (cI, 5, .inl A1))]) (As := [.ref h0, .ref h1]) (rest := []) C0 hM (ct_X3_multiply l D cI cJ cZ h0 h1 A0 A1 _ _ h) [0, 1] rfl (by decide) gX3_raise_X3_multiply rfl rfl rfl hd_X3_multiply ⟨Nat.le_of_ble_eq_true rfl, Nat.le_of_ble_eq_true rfl⟩ rfl hl.1 rfl (Nat.le_of_ble_eq_true rfl) dX3_raise_18 ⟨Nat.le_of_ble_eq_true rfl, Nat.le_of_ble_eq_true rfl⟩) (fun u => [(h0, .inl (cI, 25, .inl u)), (h1, .inl (cI, 5, .inl A1))]) (fun _ => rfl) (fun _ => rfl) (fun b1 H locs h hM => ?_)
        refine lv_iinc (v := (x3 + (1 : Int32))) (lv' := [(3, .int (x3 + (1 : Int32))), (0, .ref h0), (1, .ref h1), (2, .int x2)]) hx hb dX3_raise_21 hl (k := 3) rfl rfl (by decide) rfl (fun ls hl => ?_)
        refine lv_goto (tgt := 11) hx hb dX3_raise_24 (by decide) ?_
        exact ih11 _ _ _ _ _ h hM (lv_sub hl [1, 2, 3, 0] rfl)
  unfold wp_X3_raise at h
  refine lv_aload_n hx hb dX3_raise_0 rfl (lv_at hl 0 rfl) ?_
  refine lv_iconst (v := (0 : Int32)) hx hb dX3_raise_1 (by decide) ?_
  refine m_callv (wc := [(h0, .inl (cI, 25, .inl A0))]) C0 hM [0] rfl (m_runS (wc := [(h0, .inl (cI, 25, .inl A0))]) (As := [.ref h0, .int (0 : Int32)]) (rest := []) C0 hM (ct_J7_fill_53178 l D cI cJ cZ h0 25 A0 (0 : Int32) _ _ h) [0] rfl (by decide) gX3_raise_J7_fill_53178 rfl rfl rfl hd_J7_fill_53178 ⟨Nat.le_of_ble_eq_true rfl, Nat.le_of_ble_eq_true rfl⟩ rfl hl.1 rfl (Nat.le_of_ble_eq_true rfl) dX3_raise_2 ⟨Nat.le_of_ble_eq_true rfl, Nat.le_of_ble_eq_true rfl⟩) (fun u => [(h0, .inl (cI, 25, .inl u)), (h1, .inl (cI, 5, .inl A1))]) (fun _ => rfl) (fun _ => rfl) (fun b2 H locs h hM => ?_)
  refine lv_aload_n hx hb dX3_raise_5 rfl (lv_at hl 0 rfl) ?_
  refine lv_iconst (v := (0 : Int32)) hx hb dX3_raise_6 (by decide) ?_
  refine lv_iconst (v := (1 : Int32)) hx hb dX3_raise_7 (by decide) ?_
  refine m_iast (ws' := [(h0, .inl (cI, 25, .inl (upd b2 ((0 : Int32)).toNatClampNeg (1 : Int32)))), (h1, .inl (cI, 5, .inl A1))]) C0 hM 0 rfl (by unfold vp_in; decide) rfl dX3_raise_8 (fun H locs hM => ?_)
  refine lv_iconst (v := (0 : Int32)) hx hb dX3_raise_9 (by decide) ?_
  refine lv_istore_n (lv' := [(3, .int (0 : Int32)), (0, .ref h0), (1, .ref h1), (2, .int x2)]) hx hb dX3_raise_10 rfl hl (by decide) rfl (fun ls hl => ?_)
  obtain ⟨k0, h⟩ := h
  exact lq11 k0 _ _ _ _ _ h hM (lv_sub hl [1, 2, 3, 0] rfl)
abbrev rm_X3_derive : Room := { frames := 1, cells := 0, slots := 0, locals := 22 }
set_option maxRecDepth 100000 in
set_option maxHeartbeats 4000000 in
theorem ct_X3_derive (l : Launch) (D : va_G) (cI cJ cZ : ClassId) (h0 : Nat) (n0 : Nat) (A0 : (Nat → Int32)) (sz : Nat) (K : (Nat → Int32) → Prop) (h : wp_X3_derive n0 A0 K) : Met l yX3_derive wsX3_derive rm_X3_derive (va_Pc [.ref h0] (WX D cI cJ cZ [(h0, .inl (cI, n0, .inl A0))] sz)) (va_Qv (fun (u : (Nat → Int32)) => K u) (fun (u : (Nat → Int32)) t => WY D (va_A [(h0, .inl (cI, n0, .inl A0))] sz) [(h0, .inl (cI, n0, .inl u))] t) (va_A [(h0, .inl (cI, n0, .inl A0))] sz)) 0 0 (va_A [(h0, .inl (cI, n0, .inl A0))] sz) := by
  refine m_met (own := RX3) (cc := cX3_derive) (maxL := 2) (ret := none) [.ref h0] [(0, .ref h0)] (by decide) rfl rfl (Nat.le_of_ble_eq_true rfl) rfl ?_
  intro p e s m args below meth c Q A hQ hA C0 hr hnm hsz hM ls hl
  have hx := C0.1
  have hb := C0.2.1
  have hown := C0.2.2.2.1
  have jq29 : ∀ (A0 : (Nat → Int32)) (H : Heap) (locs : List Loc) (ls : Array Slot) , jn_X3_derive_29 n0 K A0 → MW D A s.heap [(h0, .inl (cI, n0, .inl A0))] H locs → lv_has ls 2 [(0, .ref h0)] → W p l e rm_X3_derive s m args below meth c H locs 0 0 Q (F0 m 29 ls []) := by
    intro A0 H locs ls h hM hl
    unfold jn_X3_derive_29 at h
    refine lv_aload_n hx hb dX3_derive_29 rfl (lv_at hl 0 rfl) ?_
    refine lv_aload_n hx hb dX3_derive_30 rfl (lv_at hl 0 rfl) ?_
    refine m_alen C0 hM 0 rfl dX3_derive_31 ?_
    refine lv_iconst (v := (1 : Int32)) hx hb dX3_derive_32 (by decide) ?_
    refine lv_isub hx hb dX3_derive_33 ?_
    refine lv_iconst (v := (0 : Int32)) hx hb dX3_derive_34 (by decide) ?_
    obtain ⟨hc1, h⟩ := h
    refine m_iast (ws' := [(h0, .inl (cI, n0, .inl (upd A0 (((nI n0) - (1 : Int32))).toNatClampNeg (0 : Int32))))]) C0 hM 0 rfl hc1 rfl dX3_derive_35 (fun H locs hM => ?_)
    subst hsz; subst hA; subst hQ
    exact m_vret C0 hr hM (upd A0 (((nI n0) - (1 : Int32))).toNatClampNeg (0 : Int32)) h rfl dX3_derive_36
  have lq2 : ∀ (k2 : Nat) (x1 : Int32) (A0 : (Nat → Int32)) (H : Heap) (locs : List Loc) (ls : Array Slot) , lp_X3_derive_2 n0 (jn_X3_derive_29 n0 K) K k2 x1 A0 → MW D A s.heap [(h0, .inl (cI, n0, .inl A0))] H locs → lv_has ls 2 [(0, .ref h0), (1, .int x1)] → W p l e rm_X3_derive s m args below meth c H locs 0 0 Q (F0 m 2 ls []) := by
    intro k2
    induction k2 with
    | zero =>
      intro x1 A0 H locs ls h
      unfold lp_X3_derive_2 at h
      exact h.elim
    | succ k2 ih2 =>
      intro x1 A0 H locs ls h hM hl
      unfold lp_X3_derive_2 at h
      refine lv_iload_n hx hb dX3_derive_2 rfl (lv_at hl 1 rfl) ?_
      refine lv_aload_n hx hb dX3_derive_3 rfl (lv_at hl 0 rfl) ?_
      refine m_alen C0 hM 0 rfl dX3_derive_4 ?_
      refine lv_icmp_ge (tgt := 29) hx hb dX3_derive_5 (by decide) (fun hq => ?_) (fun hq => ?_)
      · have h := h.1 hq
        exact jq29 _ _ _ _ h hM (lv_sub hl [0] rfl)
      · have h := h.2 hq
        refine lv_aload_n hx hb dX3_derive_8 rfl (lv_at hl 0 rfl) ?_
        refine lv_iload_n hx hb dX3_derive_9 rfl (lv_at hl 1 rfl) ?_
        refine lv_iconst (v := (1 : Int32)) hx hb dX3_derive_10 (by decide) ?_
        refine lv_isub hx hb dX3_derive_11 ?_
        refine lv_iload_n hx hb dX3_derive_12 rfl (lv_at hl 1 rfl) ?_
        refine lv_i2l hx hb dX3_derive_13 rfl ?_
        refine lv_aload_n hx hb dX3_derive_14 rfl (lv_at hl 0 rfl) ?_
        refine lv_iload_n hx hb dX3_derive_15 rfl (lv_at hl 1 rfl) ?_
        obtain ⟨hc2, h⟩ := h
        refine m_iald C0 hM 0 rfl hc2 dX3_derive_16 ?_
        refine lv_i2l hx hb dX3_derive_17 rfl ?_
        refine lv_lmul hx hb dX3_derive_18 ?_
        refine m_calli (wc := []) C0 hM [] rfl (m_runS (wc := []) (As := [.long ((x1.toInt64) * ((A0 (x1).toNatClampNeg).toInt64))]) (rest := [.int (x1 - (1 : Int32)), .ref h0]) C0 hM (ct_X3_fold l D cI cJ cZ ((x1.toInt64) * ((A0 (x1).toNatClampNeg).toInt64)) _ _ h) [] rfl (by decide) gX3_derive_X3_fold rfl rfl rfl hd_X3_fold ⟨Nat.le_of_ble_eq_true rfl, Nat.le_of_ble_eq_true rfl⟩ rfl hl.1 rfl (Nat.le_of_ble_eq_true rfl) dX3_derive_19 ⟨Nat.le_of_ble_eq_true rfl, Nat.le_of_ble_eq_true rfl⟩) (fun _ => [(h0, .inl (cI, n0, .inl A0))]) (fun _ => rfl) (fun _ => rfl) (fun y3 _ H locs h hM => ?_)
        obtain ⟨hc4, h⟩ := h
        refine m_iast (ws' := [(h0, .inl (cI, n0, .inl (upd A0 ((x1 - (1 : Int32))).toNatClampNeg y3)))]) C0 hM 0 rfl hc4 rfl dX3_derive_22 (fun H locs hM => ?_)
        refine lv_iinc (v := (x1 + (1 : Int32))) (lv' := [(1, .int (x1 + (1 : Int32))), (0, .ref h0)]) hx hb dX3_derive_23 hl (k := 1) rfl rfl (by decide) rfl (fun ls hl => ?_)
        refine lv_goto (tgt := 2) hx hb dX3_derive_26 (by decide) ?_
        exact ih2 _ _ _ _ _ h hM (lv_sub hl [1, 0] rfl)
  unfold wp_X3_derive at h
  refine lv_iconst (v := (1 : Int32)) hx hb dX3_derive_0 (by decide) ?_
  refine lv_istore_n (lv' := [(1, .int (1 : Int32)), (0, .ref h0)]) hx hb dX3_derive_1 rfl hl (by decide) rfl (fun ls hl => ?_)
  obtain ⟨k0, h⟩ := h
  exact lq2 k0 _ _ _ _ _ h hM (lv_sub hl [1, 0] rfl)
abbrev rm_X3_others : Room := { frames := 0, cells := 0, slots := 0, locals := 0 }
set_option maxRecDepth 100000 in
set_option maxHeartbeats 4000000 in
theorem ct_X3_others (l : Launch) (D : va_G) (cI cJ cZ : ClassId) (h0 : Nat) (n0 : Nat) (A0 : (Nat → Int32)) (sz : Nat) (K : Int32 → Prop) (h : wp_X3_others n0 A0 K) : Met l yX3_others wsX3_others rm_X3_others (va_Pc [.ref h0] (WX D cI cJ cZ [(h0, .inl (cI, n0, .inl A0))] sz)) (va_Qi (fun (r : Int32) (_ : Unit) => K r ) (fun (_ : Unit) t => WY D (va_A [(h0, .inl (cI, n0, .inl A0))] sz) [(h0, .inl (cI, n0, .inl A0))] t) (va_A [(h0, .inl (cI, n0, .inl A0))] sz)) 0 0 (va_A [(h0, .inl (cI, n0, .inl A0))] sz) := by
  refine m_met (own := RX3) (cc := cX3_others) (maxL := 6) (ret := some .int) [.ref h0] [(0, .ref h0)] (by decide) rfl rfl (Nat.le_of_ble_eq_true rfl) rfl ?_
  intro p e s m args below meth c Q A hQ hA C0 hr hnm hsz hM ls hl
  have hx := C0.1
  have hb := C0.2.1
  have hown := C0.2.2.2.1
  have lq10 : ∀ (k10 : Nat) (x1 : Int32) (x3 : Int32) (x4 : Int32) (H : Heap) (locs : List Loc) (ls : Array Slot) , lp_X3_others_10 n0 A0 K k10 x1 x3 x4 → MW D A s.heap [(h0, .inl (cI, n0, .inl A0))] H locs → lv_has ls 6 [(1, .int x1), (2, .ref h0), (3, .int x3), (4, .int x4)] → W p l e rm_X3_others s m args below meth c H locs 0 0 Q (F0 m 10 ls []) := by
    intro k10
    induction k10 with
    | zero =>
      intro x1 x3 x4 H locs ls h
      unfold lp_X3_others_10 at h
      exact h.elim
    | succ k10 ih10 =>
      have jq30 : ∀ (x1 : Int32) (x3 : Int32) (x4 : Int32) (H : Heap) (locs : List Loc) (ls : Array Slot) , jn_X3_others_30 n0 A0 (fun x1 x3 x4 => lp_X3_others_10 n0 A0 K k10 x1 x3 x4) K x1 x3 x4 → MW D A s.heap [(h0, .inl (cI, n0, .inl A0))] H locs → lv_has ls 6 [(1, .int x1), (2, .ref h0), (3, .int x3), (4, .int x4)] → W p l e rm_X3_others s m args below meth c H locs 0 0 Q (F0 m 30 ls []) := by
        intro x1 x3 x4 H locs ls h hM hl
        unfold jn_X3_others_30 at h
        refine lv_iinc (v := (x4 + (1 : Int32))) (lv' := [(4, .int (x4 + (1 : Int32))), (1, .int x1), (2, .ref h0), (3, .int x3)]) hx hb dX3_others_30 hl (k := 3) rfl rfl (by decide) rfl (fun ls hl => ?_)
        refine lv_goto (tgt := 10) hx hb dX3_others_33 (by decide) ?_
        exact ih10 _ _ _ _ _ _ h hM (lv_sub hl [1, 2, 3, 0] rfl)
      intro x1 x3 x4 H locs ls h hM hl
      unfold lp_X3_others_10 at h
      refine lv_iload hx hb dX3_others_10 (lv_at hl 3 rfl) ?_
      refine lv_iload_n hx hb dX3_others_12 rfl (lv_at hl 2 rfl) ?_
      refine lv_icmp_ge (tgt := 36) hx hb dX3_others_13 (by decide) (fun hq => ?_) (fun hq => ?_)
      · have h := h.1 hq
        refine lv_iload_n hx hb dX3_others_36 rfl (lv_at hl 0 rfl) ?_
        subst hsz; subst hA; subst hQ
        exact m_iret C0 hr hM () h rfl dX3_others_37
      · have h := h.2 hq
        refine lv_aload_n hx hb dX3_others_16 rfl (lv_at hl 1 rfl) ?_
        refine lv_iload hx hb dX3_others_17 (lv_at hl 3 rfl) ?_
        obtain ⟨hc1, h⟩ := h
        refine m_iald C0 hM 0 rfl hc1 dX3_others_19 ?_
        refine lv_topi (fun y2 ey2 => ?_)
        have h := h y2 ey2
        refine lv_istore (lv' := [(5, .int y2), (1, .int x1), (2, .ref h0), (3, .int x3), (4, .int x4)]) hx hb dX3_others_20 hl (by decide) rfl (fun ls hl => ?_)
        refine lv_iload hx hb dX3_others_22 (lv_at hl 0 rfl) ?_
        refine lv_if_eq (tgt := 30) hx hb dX3_others_24 (by decide) (fun hq => ?_) (fun hq => ?_)
        · have h := h.1 hq
          exact jq30 _ _ _ _ _ _ h hM (lv_sub hl [1, 2, 3, 4] rfl)
        · have h := h.2 hq
          refine lv_iinc (v := (x1 + (1 : Int32))) (lv' := [(1, .int (x1 + (1 : Int32))), (5, .int y2), (2, .ref h0), (3, .int x3), (4, .int x4)]) hx hb dX3_others_27 hl (k := 1) rfl rfl (by decide) rfl (fun ls hl => ?_)
          exact jq30 _ _ _ _ _ _ h hM (lv_sub hl [0, 2, 3, 4] rfl)
  unfold wp_X3_others at h
  refine lv_iconst (v := (0 : Int32)) hx hb dX3_others_0 (by decide) ?_
  refine lv_istore_n (lv' := [(1, .int (0 : Int32)), (0, .ref h0)]) hx hb dX3_others_1 rfl hl (by decide) rfl (fun ls hl => ?_)
  refine lv_aload_n hx hb dX3_others_2 rfl (lv_at hl 1 rfl) ?_
  refine lv_astore_n (lv' := [(2, .ref h0), (1, .int (0 : Int32)), (0, .ref h0)]) hx hb dX3_others_3 rfl hl (by decide) rfl (fun ls hl => ?_)
  refine lv_aload_n hx hb dX3_others_4 rfl (lv_at hl 0 rfl) ?_
  refine m_alen C0 hM 0 rfl dX3_others_5 ?_
  refine lv_topi (fun y3 ey3 => ?_)
  have h := h y3 ey3
  refine lv_istore_n (lv' := [(3, .int y3), (2, .ref h0), (1, .int (0 : Int32)), (0, .ref h0)]) hx hb dX3_others_6 rfl hl (by decide) rfl (fun ls hl => ?_)
  refine lv_iconst (v := (0 : Int32)) hx hb dX3_others_7 (by decide) ?_
  refine lv_istore (lv' := [(4, .int (0 : Int32)), (3, .int y3), (2, .ref h0), (1, .int (0 : Int32)), (0, .ref h0)]) hx hb dX3_others_8 hl (by decide) rfl (fun ls hl => ?_)
  obtain ⟨k0, h⟩ := h
  exact lq10 k0 _ _ _ _ _ _ h hM (lv_sub hl [3, 2, 1, 0] rfl)
abbrev rm_X3_notBelow : Room := { frames := 0, cells := 0, slots := 0, locals := 0 }
set_option maxRecDepth 100000 in
set_option maxHeartbeats 4000000 in
theorem ct_X3_notBelow (l : Launch) (D : va_G) (cI cJ cZ : ClassId) (h0 : Nat) (A0 : (Nat → Int32)) (sz : Nat) (K : Int32 → Prop) (h : wp_X3_notBelow A0 K) : Met l yX3_notBelow wsX3_notBelow rm_X3_notBelow (va_Pc [.ref h0] (WX D cI cJ cZ [(h0, .inl (cI, 3, .inl A0))] sz)) (va_Qi (fun (r : Int32) (_ : Unit) => K r ) (fun (_ : Unit) t => WY D (va_A [(h0, .inl (cI, 3, .inl A0))] sz) [(h0, .inl (cI, 3, .inl A0))] t) (va_A [(h0, .inl (cI, 3, .inl A0))] sz)) 0 0 (va_A [(h0, .inl (cI, 3, .inl A0))] sz) := by
  refine m_met (own := RX3) (cc := cX3_notBelow) (maxL := 6) (ret := some .int) [.ref h0] [(0, .ref h0)] (by decide) rfl rfl (Nat.le_of_ble_eq_true rfl) rfl ?_
  intro p e s m args below meth c Q A hQ hA C0 hr hnm hsz hM ls hl
  have hx := C0.1
  have hb := C0.2.1
  have hown := C0.2.2.2.1
  have lq10 : ∀ (k10 : Nat) (x1 : Int32) (x3 : Int32) (x4 : Int32) (H : Heap) (locs : List Loc) (ls : Array Slot) , lp_X3_notBelow_10 A0 K k10 x1 x3 x4 → MW D A s.heap [(h0, .inl (cI, 3, .inl A0))] H locs → lv_has ls 6 [(1, .int x1), (2, .ref h0), (3, .int x3), (4, .int x4)] → W p l e rm_X3_notBelow s m args below meth c H locs 0 0 Q (F0 m 10 ls []) := by
    intro k10
    induction k10 with
    | zero =>
      intro x1 x3 x4 H locs ls h
      unfold lp_X3_notBelow_10 at h
      exact h.elim
    | succ k10 ih10 =>
      have jq30 : ∀ (x1 : Int32) (x3 : Int32) (x4 : Int32) (H : Heap) (locs : List Loc) (ls : Array Slot) , jn_X3_notBelow_30 A0 (fun x1 x3 x4 => lp_X3_notBelow_10 A0 K k10 x1 x3 x4) K x1 x3 x4 → MW D A s.heap [(h0, .inl (cI, 3, .inl A0))] H locs → lv_has ls 6 [(1, .int x1), (2, .ref h0), (3, .int x3), (4, .int x4)] → W p l e rm_X3_notBelow s m args below meth c H locs 0 0 Q (F0 m 30 ls []) := by
        intro x1 x3 x4 H locs ls h hM hl
        unfold jn_X3_notBelow_30 at h
        refine lv_iinc (v := (x4 + (1 : Int32))) (lv' := [(4, .int (x4 + (1 : Int32))), (1, .int x1), (2, .ref h0), (3, .int x3)]) hx hb dX3_notBelow_30 hl (k := 3) rfl rfl (by decide) rfl (fun ls hl => ?_)
        refine lv_goto (tgt := 10) hx hb dX3_notBelow_33 (by decide) ?_
        exact ih10 _ _ _ _ _ _ h hM (lv_sub hl [1, 2, 3, 0] rfl)
      intro x1 x3 x4 H locs ls h hM hl
      unfold lp_X3_notBelow_10 at h
      refine lv_iload hx hb dX3_notBelow_10 (lv_at hl 3 rfl) ?_
      refine lv_iload_n hx hb dX3_notBelow_12 rfl (lv_at hl 2 rfl) ?_
      refine lv_icmp_ge (tgt := 36) hx hb dX3_notBelow_13 (by decide) (fun hq => ?_) (fun hq => ?_)
      · have h := h.1 hq
        refine lv_iload_n hx hb dX3_notBelow_36 rfl (lv_at hl 0 rfl) ?_
        subst hsz; subst hA; subst hQ
        exact m_iret C0 hr hM () h rfl dX3_notBelow_37
      · have h := h.2 hq
        refine lv_aload_n hx hb dX3_notBelow_16 rfl (lv_at hl 1 rfl) ?_
        refine lv_iload hx hb dX3_notBelow_17 (lv_at hl 3 rfl) ?_
        obtain ⟨hc1, h⟩ := h
        refine m_iald C0 hM 0 rfl hc1 dX3_notBelow_19 ?_
        refine lv_topi (fun y2 ey2 => ?_)
        have h := h y2 ey2
        refine lv_istore (lv' := [(5, .int y2), (1, .int x1), (2, .ref h0), (3, .int x3), (4, .int x4)]) hx hb dX3_notBelow_20 hl (by decide) rfl (fun ls hl => ?_)
        refine lv_iload hx hb dX3_notBelow_22 (lv_at hl 0 rfl) ?_
        refine lv_if_lt (tgt := 30) hx hb dX3_notBelow_24 (by decide) (fun hq => ?_) (fun hq => ?_)
        · have h := h.1 hq
          exact jq30 _ _ _ _ _ _ h hM (lv_sub hl [1, 2, 3, 4] rfl)
        · have h := h.2 hq
          refine lv_iinc (v := (x1 + (1 : Int32))) (lv' := [(1, .int (x1 + (1 : Int32))), (5, .int y2), (2, .ref h0), (3, .int x3), (4, .int x4)]) hx hb dX3_notBelow_27 hl (k := 1) rfl rfl (by decide) rfl (fun ls hl => ?_)
          exact jq30 _ _ _ _ _ _ h hM (lv_sub hl [0, 2, 3, 4] rfl)
  unfold wp_X3_notBelow at h
  refine lv_iconst (v := (0 : Int32)) hx hb dX3_notBelow_0 (by decide) ?_
  refine lv_istore_n (lv' := [(1, .int (0 : Int32)), (0, .ref h0)]) hx hb dX3_notBelow_1 rfl hl (by decide) rfl (fun ls hl => ?_)
  refine lv_aload_n hx hb dX3_notBelow_2 rfl (lv_at hl 1 rfl) ?_
  refine lv_astore_n (lv' := [(2, .ref h0), (1, .int (0 : Int32)), (0, .ref h0)]) hx hb dX3_notBelow_3 rfl hl (by decide) rfl (fun ls hl => ?_)
  refine lv_aload_n hx hb dX3_notBelow_4 rfl (lv_at hl 0 rfl) ?_
  refine m_alen C0 hM 0 rfl dX3_notBelow_5 ?_
  refine lv_topi (fun y3 ey3 => ?_)
  have h := h y3 ey3
  refine lv_istore_n (lv' := [(3, .int y3), (2, .ref h0), (1, .int (0 : Int32)), (0, .ref h0)]) hx hb dX3_notBelow_6 rfl hl (by decide) rfl (fun ls hl => ?_)
  refine lv_iconst (v := (0 : Int32)) hx hb dX3_notBelow_7 (by decide) ?_
  refine lv_istore (lv' := [(4, .int (0 : Int32)), (3, .int y3), (2, .ref h0), (1, .int (0 : Int32)), (0, .ref h0)]) hx hb dX3_notBelow_8 hl (by decide) rfl (fun ls hl => ?_)
  obtain ⟨k0, h⟩ := h
  exact lq10 k0 _ _ _ _ _ _ h hM (lv_sub hl [3, 2, 1, 0] rfl)
abbrev rm_X11_within : Room := { frames := 0, cells := 0, slots := 0, locals := 0 }
set_option maxRecDepth 100000 in
set_option maxHeartbeats 4000000 in
theorem ct_X11_within (l : Launch) (D : va_G) (cI cJ cZ : ClassId) (x0 : Int32) (x1 : Int32) (x2 : Int32) (sz : Nat) (K : Int32 → Prop) (h : wp_X11_within x0 x1 x2 K) : Met l yX11_within wsX11_within rm_X11_within (va_Pc [.int x0, .int x1, .int x2] (WX D cI cJ cZ [] sz)) (va_Qi (fun (r : Int32) (_ : Unit) => K r ) (fun (_ : Unit) t => WY D (va_A [] sz) [] t) (va_A [] sz)) 0 0 (va_A [] sz) := by
  refine m_met (own := RX11) (cc := cX11_within) (maxL := 3) (ret := some .boolean) [.int x0, .int x1, .int x2] [(0, .int x0), (1, .int x1), (2, .int x2)] (by decide) rfl rfl (Nat.le_of_ble_eq_true rfl) rfl ?_
  intro p e s m args below meth c Q A hQ hA C0 hr hnm hsz hM ls hl
  have hx := C0.1
  have hb := C0.2.1
  have hown := C0.2.2.2.1
  unfold wp_X11_within at h
  refine lv_iload_n hx hb dX11_within_0 rfl (lv_at hl 0 rfl) ?_
  refine lv_iload_n hx hb dX11_within_1 rfl (lv_at hl 1 rfl) ?_
  refine lv_icmp_lt (tgt := 14) hx hb dX11_within_2 (by decide) (fun hq => ?_) (fun hq => ?_)
  · have h := h.1 hq
    refine lv_iconst (v := (0 : Int32)) hx hb dX11_within_14 (by decide) ?_
    subst hsz; subst hA; subst hQ
    exact m_zret C0 hr hM rfl () h rfl dX11_within_15
  · have h := h.2 hq
    refine lv_iload_n hx hb dX11_within_5 rfl (lv_at hl 0 rfl) ?_
    refine lv_iload_n hx hb dX11_within_6 rfl (lv_at hl 2 rfl) ?_
    refine lv_icmp_gt (tgt := 14) hx hb dX11_within_7 (by decide) (fun hq => ?_) (fun hq => ?_)
    · have h := h.1 hq
      refine lv_iconst (v := (0 : Int32)) hx hb dX11_within_14 (by decide) ?_
      subst hsz; subst hA; subst hQ
      exact m_zret C0 hr hM rfl () h rfl dX11_within_15
    · have h := h.2 hq
      refine lv_iconst (v := (1 : Int32)) hx hb dX11_within_10 (by decide) ?_
      refine lv_goto (tgt := 15) hx hb dX11_within_11 (by decide) ?_
      subst hsz; subst hA; subst hQ
      exact m_zret C0 hr hM rfl () h rfl dX11_within_15
abbrev rm_X11_floatPattern : Room := { frames := 0, cells := 0, slots := 0, locals := 0 }
set_option maxRecDepth 100000 in
set_option maxHeartbeats 4000000 in
theorem ct_X11_floatPattern (l : Launch) (D : va_G) (cI cJ cZ : ClassId) (x0 : Int32) (sz : Nat) (K : Int64 → Prop) (h : wp_X11_floatPattern x0 K) : Met l yX11_floatPattern wsX11_floatPattern rm_X11_floatPattern (va_Pc [.int x0] (WX D cI cJ cZ [] sz)) (va_Ql (fun (r : Int64) (_ : Unit) => K r ) (fun (_ : Unit) t => WY D (va_A [] sz) [] t) (va_A [] sz)) 0 0 (va_A [] sz) := by
  refine m_met (own := RX11) (cc := cX11_floatPattern) (maxL := 1) (ret := some .long) [.int x0] [(0, .int x0)] (by decide) rfl rfl (Nat.le_of_ble_eq_true rfl) rfl ?_
  intro p e s m args below meth c Q A hQ hA C0 hr hnm hsz hM ls hl
  have hx := C0.1
  have hb := C0.2.1
  have hown := C0.2.2.2.1
  unfold wp_X11_floatPattern at h
  refine lv_iload_n hx hb dX11_floatPattern_0 rfl (lv_at hl 0 rfl) ?_
  refine lv_i2l hx hb dX11_floatPattern_1 rfl ?_
  refine lv_ldc2 (v := (4294967295 : Int64)) hx hb hown (C0.2.2.2.2.1 _ kw_X11_floatPattern_1) dX11_floatPattern_2 ?_
  refine lv_land hx hb dX11_floatPattern_5 ?_
  subst hsz; subst hA; subst hQ
  exact m_lret C0 hr hM () h rfl dX11_floatPattern_6
abbrev rm_J9_floorMod_7cf53 : Room := { frames := 0, cells := 0, slots := 0, locals := 0 }
set_option maxRecDepth 100000 in
set_option maxHeartbeats 4000000 in
theorem ct_J9_floorMod_7cf53 (l : Launch) (D : va_G) (cI cJ cZ : ClassId) (x0 : Int32) (x1 : Int32) (sz : Nat) (K : Int32 → Prop) (h : wp_J9_floorMod_7cf53 x0 x1 K) : Met l yJ9_floorMod_7cf53 wsJ9_floorMod_7cf53 rm_J9_floorMod_7cf53 (va_Pc [.int x0, .int x1] (WX D cI cJ cZ [] sz)) (va_Qi (fun (r : Int32) (_ : Unit) => K r ) (fun (_ : Unit) t => WY D (va_A [] sz) [] t) (va_A [] sz)) 0 0 (va_A [] sz) := by
  refine m_metF (own := RJ9) (cc := cJ9_floorMod_7cf53) (maxL := 3) (ret := some .int) [.int x0, .int x1] [(0, .int x0), (1, .int x1)] (by decide +kernel) rfl rfl (Nat.le_of_ble_eq_true rfl) rfl ?_
  intro p e s m args below meth c Q A hQ hA C0 hr hnm hsz hM ls hl
  have hx := C0.1
  have hb := C0.2.1
  have hown := C0.2.2.2.1
  unfold wp_J9_floorMod_7cf53 at h
  refine lv_iload_n hx hb dJ9_floorMod_7cf53_0 rfl (lv_at hl 0 rfl) ?_
  refine lv_iload_n hx hb dJ9_floorMod_7cf53_1 rfl (lv_at hl 1 rfl) ?_
  obtain ⟨hc1, h⟩ := h
  refine lv_irem hx hb dJ9_floorMod_7cf53_2 hc1 ?_
  refine lv_topi (fun y2 ey2 => ?_)
  have h := h y2 ey2
  refine lv_istore_n (lv' := [(2, .int y2), (0, .int x0), (1, .int x1)]) hx hb dJ9_floorMod_7cf53_3 rfl hl (by decide) rfl (fun ls hl => ?_)
  refine lv_iload_n hx hb dJ9_floorMod_7cf53_4 rfl (lv_at hl 1 rfl) ?_
  refine lv_iload_n hx hb dJ9_floorMod_7cf53_5 rfl (lv_at hl 2 rfl) ?_
  refine lv_ixor hx hb dJ9_floorMod_7cf53_6 ?_
  refine lv_if_ge (tgt := 18) hx hb dJ9_floorMod_7cf53_7 (by decide) (fun hq => ?_) (fun hq => ?_)
  · have h := h.1 hq
    refine lv_iload_n hx hb dJ9_floorMod_7cf53_18 rfl (lv_at hl 0 rfl) ?_
    subst hsz; subst hA; subst hQ
    exact m_iret C0 hr hM () h rfl dJ9_floorMod_7cf53_19
  · have h := h.2 hq
    refine lv_iload_n hx hb dJ9_floorMod_7cf53_10 rfl (lv_at hl 0 rfl) ?_
    refine lv_if_eq (tgt := 18) hx hb dJ9_floorMod_7cf53_11 (by decide) (fun hq => ?_) (fun hq => ?_)
    · have h := h.1 hq
      refine lv_iload_n hx hb dJ9_floorMod_7cf53_18 rfl (lv_at hl 0 rfl) ?_
      subst hsz; subst hA; subst hQ
      exact m_iret C0 hr hM () h rfl dJ9_floorMod_7cf53_19
    · have h := h.2 hq
      refine lv_iload_n hx hb dJ9_floorMod_7cf53_14 rfl (lv_at hl 0 rfl) ?_
      refine lv_iload_n hx hb dJ9_floorMod_7cf53_15 rfl (lv_at hl 2 rfl) ?_
      refine lv_iadd hx hb dJ9_floorMod_7cf53_16 ?_
      subst hsz; subst hA; subst hQ
      exact m_iret C0 hr hM () h rfl dJ9_floorMod_7cf53_17
abbrev rm_J9_abs_0f7a4 : Room := { frames := 0, cells := 0, slots := 0, locals := 0 }
set_option maxRecDepth 100000 in
set_option maxHeartbeats 4000000 in
theorem ct_J9_abs_0f7a4 (l : Launch) (D : va_G) (cI cJ cZ : ClassId) (x0 : Int32) (sz : Nat) (K : Int32 → Prop) (h : wp_J9_abs_0f7a4 x0 K) : Met l yJ9_abs_0f7a4 wsJ9_abs_0f7a4 rm_J9_abs_0f7a4 (va_Pc [.int x0] (WX D cI cJ cZ [] sz)) (va_Qi (fun (r : Int32) (_ : Unit) => K r ) (fun (_ : Unit) t => WY D (va_A [] sz) [] t) (va_A [] sz)) 0 0 (va_A [] sz) := by
  refine m_metF (own := RJ9) (cc := cJ9_abs_0f7a4) (maxL := 1) (ret := some .int) [.int x0] [(0, .int x0)] (by decide +kernel) rfl rfl (Nat.le_of_ble_eq_true rfl) rfl ?_
  intro p e s m args below meth c Q A hQ hA C0 hr hnm hsz hM ls hl
  have hx := C0.1
  have hb := C0.2.1
  have hown := C0.2.2.2.1
  unfold wp_J9_abs_0f7a4 at h
  refine lv_iload_n hx hb dJ9_abs_0f7a4_0 rfl (lv_at hl 0 rfl) ?_
  refine lv_if_ge (tgt := 9) hx hb dJ9_abs_0f7a4_1 (by decide) (fun hq => ?_) (fun hq => ?_)
  · have h := h.1 hq
    refine lv_iload_n hx hb dJ9_abs_0f7a4_9 rfl (lv_at hl 0 rfl) ?_
    subst hsz; subst hA; subst hQ
    exact m_iret C0 hr hM () h rfl dJ9_abs_0f7a4_10
  · have h := h.2 hq
    refine lv_iload_n hx hb dJ9_abs_0f7a4_4 rfl (lv_at hl 0 rfl) ?_
    refine lv_ineg hx hb dJ9_abs_0f7a4_5 ?_
    refine lv_goto (tgt := 10) hx hb dJ9_abs_0f7a4_6 (by decide) ?_
    subst hsz; subst hA; subst hQ
    exact m_iret C0 hr hM () h rfl dJ9_abs_0f7a4_10
