def wp_X11_within (x0 : Int32) (x1 : Int32) (x2 : Int32) (K : Int32 → Prop) : Prop :=
  ((x0 < x1 → K (0 : Int32)) ∧ (¬ x0 < x1 → ((x2 < x0 → K (0 : Int32)) ∧ (¬ x2 < x0 → K (1 : Int32)))))
def wp_X3_fold (x0 : Int64) (K : Int32 → Prop) : Prop :=
  (∀ y1 : Int32, y1 = ((x0 - x0 / (10007 : Int64) * (10007 : Int64)).toInt32) → ((y1 ≤ (5003 : Int32) → (((-5003 : Int32) ≤ y1 → K y1) ∧ (¬ (-5003 : Int32) ≤ y1 → K (y1 + (10007 : Int32))))) ∧ (¬ y1 ≤ (5003 : Int32) → K (y1 - (10007 : Int32)))))
def lp_X3_highest_5 (n0 : Nat) (A0 : (Nat → Int32)) (K : Int32 → Prop) : Nat → Int32 → Prop
  | 0, _ => False
  | k + 1, x1 =>
  ((x1 < 0 → K (-1 : Int32)) ∧ (¬ x1 < 0 → (vp_in x1 n0 ∧ (((A0 (x1).toNatClampNeg) = 0 → (lp_X3_highest_5 n0 A0 K k) (x1 + (-1 : Int32))) ∧ (¬ (A0 (x1).toNatClampNeg) = 0 → K x1)))))
def wp_X3_highest (n0 : Nat) (A0 : (Nat → Int32)) (K : Int32 → Prop) : Prop :=
  (∀ y1 : Int32, y1 = ((nI n0) - (1 : Int32)) → (∃ k : Nat, lp_X3_highest_5 n0 A0 K k y1))
def jn_X3_inverse_32 (x0 : Int32) (Kb12 : Int32 → Int32 → Int32 → Prop) (K : Int32 → Prop) (x1 : Int32) (x2 : Int32) (x3 : Int32) : Prop :=
  (wp_X3_fold ((x2.toInt64) * (x2.toInt64)) (fun y1 => (∀ y2 : Int32, y2 = (x3 >>> ((1 : Int32) &&& 31)) → Kb12 x1 y1 y2)))
def lp_X3_inverse_12 (x0 : Int32) (K : Int32 → Prop) : Nat → Int32 → Int32 → Int32 → Prop
  | 0, _, _, _ => False
  | k + 1, x1, x2, x3 =>
  ((x3 ≤ 0 → K x1) ∧ (¬ x3 ≤ 0 → ((¬ (x3 &&& (1 : Int32)) = (1 : Int32) → jn_X3_inverse_32 x0 (lp_X3_inverse_12 x0 K k) K x1 x2 x3) ∧ ((x3 &&& (1 : Int32)) = (1 : Int32) → (wp_X3_fold ((x1.toInt64) * (x2.toInt64)) (fun y1 => jn_X3_inverse_32 x0 (lp_X3_inverse_12 x0 K k) K y1 x2 x3))))))
def wp_X3_inverse (x0 : Int32) (K : Int32 → Prop) : Prop :=
  (wp_X3_fold (x0.toInt64) (fun y1 => (∃ k : Nat, lp_X3_inverse_12 x0 K k (1 : Int32) y1 (10005 : Int32))))
def jn_X3_multiply_48 (A1 : (Nat → Int32)) (Kb5 : Int32 → (Nat → Int32) → Prop) (K : (Nat → Int32) → Prop) (x2 : Int32) (x3 : Int64) (A0 : (Nat → Int32)) : Prop :=
  (wp_X3_fold x3 (fun y1 => (vp_in x2 25 ∧ Kb5 (x2 + (-1 : Int32)) (upd A0 (x2).toNatClampNeg y1))))
def lp_X3_multiply_14 (A1 : (Nat → Int32)) (K48 : Int32 → Int64 → (Nat → Int32) → Prop) (K : (Nat → Int32) → Prop) : Nat → Int32 → Int64 → Int32 → (Nat → Int32) → Prop
  | 0, _, _, _, _ => False
  | k + 1, x2, x3, x5, A0 =>
  (((4 : Int32) < x5 → K48 x2 x3 A0) ∧ (¬ (4 : Int32) < x5 → ((x2 < x5 → K48 x2 x3 A0) ∧ (¬ x2 < x5 → (vp_in x5 5 ∧ (vp_in (x2 - x5) 25 ∧ (∀ y3 : Int64, y3 = (x3 + (((A1 (x5).toNatClampNeg).toInt64) * ((A0 ((x2 - x5)).toNatClampNeg).toInt64))) → (lp_X3_multiply_14 A1 K48 K k) x2 y3 (x5 + (1 : Int32)) A0)))))))
def lp_X3_multiply_5 (A1 : (Nat → Int32)) (K : (Nat → Int32) → Prop) : Nat → Int32 → (Nat → Int32) → Prop
  | 0, _, _ => False
  | k + 1, x2, A0 =>
  ((x2 < 0 → K A0) ∧ (¬ x2 < 0 → (∃ k : Nat, lp_X3_multiply_14 A1 (jn_X3_multiply_48 A1 (lp_X3_multiply_5 A1 K k) K) K k x2 (0 : Int64) (0 : Int32) A0)))
def wp_X3_multiply (A0 : (Nat → Int32)) (A1 : (Nat → Int32)) (K : (Nat → Int32) → Prop) : Prop :=
  (∀ y1 : Int32, y1 = ((nI 25) - (1 : Int32)) → (∃ k : Nat, lp_X3_multiply_5 A1 K k y1 A0))
def lp_X3_raise_11 (x2 : Int32) (A1 : (Nat → Int32)) (K : (Nat → Int32) → Prop) : Nat → Int32 → (Nat → Int32) → Prop
  | 0, _, _ => False
  | k + 1, x3, A0 =>
  ((x2 ≤ x3 → K A0) ∧ (¬ x2 ≤ x3 → (wp_X3_multiply A0 A1 (fun b1 => (lp_X3_raise_11 x2 A1 K k) (x3 + (1 : Int32)) b1))))
def wp_X3_raise (x2 : Int32) (A0 : (Nat → Int32)) (A1 : (Nat → Int32)) (K : (Nat → Int32) → Prop) : Prop :=
  (wp_J7_fill_53178 25 (0 : Int32) A0 (fun b1 => (∃ k : Nat, lp_X3_raise_11 x2 A1 K k (0 : Int32) (upd b1 ((0 : Int32)).toNatClampNeg (1 : Int32)))))
def wp_X4_names (x0 : Int32) (x1 : Int32) (x2 : Int32) (K : Int32 → Prop) : Prop :=
  (wp_X11_within x0 (0 : Int32) (4 : Int32) (fun y1 => ((y1 = 0 → K (0 : Int32)) ∧ (¬ y1 = 0 → (wp_X11_within x1 (0 : Int32) (4 : Int32) (fun y2 => ((y2 = 0 → K (0 : Int32)) ∧ (¬ y2 = 0 → (wp_X11_within x2 (0 : Int32) (2 : Int32) (fun y3 => ((y3 = 0 → K (0 : Int32)) ∧ (¬ y3 = 0 → K (1 : Int32)))))))))))))
def wp_X4_topDerivative (A_0_0_numbers : (Nat → Int32)) (K : Int32 → Prop) : Prop :=
  (wp_X3_highest 75 A_0_0_numbers (fun y1 => ((0 ≤ y1 → K (y1 / (15 : Int32))) ∧ (¬ 0 ≤ y1 → K (0 : Int32)))))
def wp_X4_index (x0 : Int32) (x1 : Int32) (x2 : Int32) (K : Int32 → Prop) : Prop :=
  K (((x0 * (15 : Int32)) + (x1 * (3 : Int32))) + x2)
def wp_X4_become (A_0_0_numbers : (Nat → Int32)) (A_1_0_numbers : (Nat → Int32)) (K : (Nat → Int32) → Prop) : Prop :=
  K (va_cpy A_1_0_numbers A_0_0_numbers ((0 : Int32)).toNatClampNeg ((0 : Int32)).toNatClampNeg ((75 : Int32)).toNatClampNeg)
def wp_X0_isThere (I_0_top : Int32) (K : Int32 → Prop) : Prop :=
  ((I_0_top < 0 → K (0 : Int32)) ∧ (¬ I_0_top < 0 → K (1 : Int32)))
def wp_X0_become (I_0_top : Int32) (A_0_0_0_numbers : (Nat → Int32)) (A_0_1_b : (Nat → Int32)) (I_1_top : Int32) (A_1_0_0_numbers : (Nat → Int32)) (A_1_1_b : (Nat → Int32)) (K : Int32 → (Nat → Int32) → (Nat → Int32) → Prop) : Prop :=
  (wp_X4_become A_0_0_0_numbers A_1_0_0_numbers (fun b1 => K I_1_top b1 (va_cpy A_1_1_b A_0_1_b ((0 : Int32)).toNatClampNeg ((0 : Int32)).toNatClampNeg ((9 : Int32)).toNatClampNeg)))
def wp_X11_set (x1 : Int32) (x2 : Int32) (A_0_0_0_f : (Nat → Int32)) (K : Int32 → (Nat → Int32) → Prop) : Prop :=
  (wp_X11_within x1 (0 : Int32) (4 : Int32) (fun y1 => ((¬ y1 = 0 → (wp_X11_within x2 (-5003 : Int32) (5003 : Int32) (fun y2 => ((¬ y2 = 0 → (vp_in x1 5 ∧ (∀ y4 : Int32, y4 = (A_0_0_0_f (x1).toNatClampNeg) → K ((100000 : Int32) + y4) (upd A_0_0_0_f (x1).toNatClampNeg x2)))) ∧ (y2 = 0 → K (-2 : Int32) A_0_0_0_f))))) ∧ (y1 = 0 → K (-1 : Int32) A_0_0_0_f))))
theorem hd_X11_within : yX11_within.cls ≠ "java/lang/invoke/MethodHandle" ∧ yX11_within.cls ≠ "java/lang/invoke/VarHandle" ∧ (parseMethodDescriptor yX11_within.desc).map (fun d => d.parameters.length) = some 3 := by decide +kernel
theorem hd_X3_fold : yX3_fold.cls ≠ "java/lang/invoke/MethodHandle" ∧ yX3_fold.cls ≠ "java/lang/invoke/VarHandle" ∧ (parseMethodDescriptor yX3_fold.desc).map (fun d => d.parameters.length) = some 1 := by decide +kernel
theorem hd_X3_highest : yX3_highest.cls ≠ "java/lang/invoke/MethodHandle" ∧ yX3_highest.cls ≠ "java/lang/invoke/VarHandle" ∧ (parseMethodDescriptor yX3_highest.desc).map (fun d => d.parameters.length) = some 1 := by decide +kernel
theorem hd_X3_inverse : yX3_inverse.cls ≠ "java/lang/invoke/MethodHandle" ∧ yX3_inverse.cls ≠ "java/lang/invoke/VarHandle" ∧ (parseMethodDescriptor yX3_inverse.desc).map (fun d => d.parameters.length) = some 1 := by decide +kernel
theorem hd_X3_multiply : yX3_multiply.cls ≠ "java/lang/invoke/MethodHandle" ∧ yX3_multiply.cls ≠ "java/lang/invoke/VarHandle" ∧ (parseMethodDescriptor yX3_multiply.desc).map (fun d => d.parameters.length) = some 2 := by decide +kernel
theorem hd_X3_raise : yX3_raise.cls ≠ "java/lang/invoke/MethodHandle" ∧ yX3_raise.cls ≠ "java/lang/invoke/VarHandle" ∧ (parseMethodDescriptor yX3_raise.desc).map (fun d => d.parameters.length) = some 3 := by decide +kernel
theorem hd_X4_names : yX4_names.cls ≠ "java/lang/invoke/MethodHandle" ∧ yX4_names.cls ≠ "java/lang/invoke/VarHandle" ∧ (parseMethodDescriptor yX4_names.desc).map (fun d => d.parameters.length) = some 3 := by decide +kernel
theorem hd_X4_topDerivative : yX4_topDerivative.cls = RX4 ∧ yX4_topDerivative.cls ≠ "java/lang/invoke/MethodHandle" ∧ yX4_topDerivative.cls ≠ "java/lang/invoke/VarHandle" ∧ (parseMethodDescriptor yX4_topDerivative.desc).map (fun d => d.parameters.length) = some 0 := by decide +kernel
theorem hd_X4_index : yX4_index.cls ≠ "java/lang/invoke/MethodHandle" ∧ yX4_index.cls ≠ "java/lang/invoke/VarHandle" ∧ (parseMethodDescriptor yX4_index.desc).map (fun d => d.parameters.length) = some 3 := by decide +kernel
theorem hd_X4_become : yX4_become.cls = RX4 ∧ yX4_become.cls ≠ "java/lang/invoke/MethodHandle" ∧ yX4_become.cls ≠ "java/lang/invoke/VarHandle" ∧ (parseMethodDescriptor yX4_become.desc).map (fun d => d.parameters.length) = some 1 := by decide +kernel
theorem hd_X0_isThere : yX0_isThere.cls = RX0 ∧ yX0_isThere.cls ≠ "java/lang/invoke/MethodHandle" ∧ yX0_isThere.cls ≠ "java/lang/invoke/VarHandle" ∧ (parseMethodDescriptor yX0_isThere.desc).map (fun d => d.parameters.length) = some 0 := by decide +kernel
theorem hd_X0_become : yX0_become.cls = RX0 ∧ yX0_become.cls ≠ "java/lang/invoke/MethodHandle" ∧ yX0_become.cls ≠ "java/lang/invoke/VarHandle" ∧ (parseMethodDescriptor yX0_become.desc).map (fun d => d.parameters.length) = some 1 := by decide +kernel
theorem hd_X11_set : yX11_set.cls = RX11 ∧ yX11_set.cls ≠ "java/lang/invoke/MethodHandle" ∧ yX11_set.cls ≠ "java/lang/invoke/VarHandle" ∧ (parseMethodDescriptor yX11_set.desc).map (fun d => d.parameters.length) = some 2 := by decide +kernel
theorem kt_X0_become_X0 : ∀ w ∈ u_ws RX0 TX0 7, w ∈ wsX0_become := fun _ h => List.mem_cons_of_mem _ (List.mem_append_left _ (List.mem_append_right _ (h)))
theorem kt_X0_isThere_X0 : ∀ w ∈ u_ws RX0 TX0 7, w ∈ wsX0_isThere := fun _ h => List.mem_cons_of_mem _ (List.mem_append_right _ (h))
theorem kt_X11_set_X11 : ∀ w ∈ u_ws RX11 TX11 12, w ∈ wsX11_set := fun _ h => List.mem_cons_of_mem _ (List.mem_append_left _ (List.mem_append_right _ (h)))
theorem kt_X11_set_X9 : ∀ w ∈ u_ws RX9 TX9 4, w ∈ wsX11_set := fun _ h => List.mem_cons_of_mem _ (List.mem_append_right _ (h))
theorem kt_X4_become_X4 : ∀ w ∈ u_ws RX4 TX4 1, w ∈ wsX4_become := fun _ h => List.mem_cons_of_mem _ (List.mem_append_right _ (h))
theorem kt_X4_topDerivative_X4 : ∀ w ∈ u_ws RX4 TX4 1, w ∈ wsX4_topDerivative := fun _ h => List.mem_cons_of_mem _ (List.mem_append_right _ (h))
theorem kw_X3_fold_1 : Cond.constantLong RX3 9 (10007) ∈ wsX3_fold := List.mem_of_getElem? (i := 1) rfl
theorem kw_X4_names_2 : Cond.initialized RX11 ∈ wsX4_names := List.mem_of_getElem? (i := 2) rfl
theorem kw_X4_names_1 : Cond.static yX11_within ∈ wsX4_names := List.mem_of_getElem? (i := 1) rfl
theorem kw_X4_topDerivative_1 : Cond.fieldLink RX4 9 "LoweredPowers$Operator" "numbers" "[I" ∈ wsX4_topDerivative := List.mem_of_getElem? (i := 1) rfl
theorem kw_X4_become_1 : Cond.fieldLink RX4 9 "LoweredPowers$Operator" "numbers" "[I" ∈ wsX4_become := List.mem_of_getElem? (i := 1) rfl
theorem kw_X4_become_2 : Cond.methodLink RX4 25 arraycopyName ∈ wsX4_become := List.mem_of_getElem? (i := 2) rfl
theorem kw_X4_become_3 : Cond.native arraycopyName ∈ wsX4_become := List.mem_of_getElem? (i := 3) rfl
theorem kw_X4_become_4 : Cond.static arraycopyName ∈ wsX4_become := List.mem_of_getElem? (i := 4) rfl
theorem kw_X4_become_5 : Cond.initialized RJ10 ∈ wsX4_become := List.mem_of_getElem? (i := 5) rfl
theorem kw_X0_isThere_1 : Cond.fieldLink RX0 22 "LoweredPowers$Found" "top" "I" ∈ wsX0_isThere := List.mem_of_getElem? (i := 1) rfl
theorem kw_X0_become_1 : Cond.fieldLink RX0 12 "LoweredPowers$Found" "operator" "LLoweredPowers$Operator;" ∈ wsX0_become := List.mem_of_getElem? (i := 1) rfl
theorem kw_X0_become_2 : Cond.fieldLink RX0 18 "LoweredPowers$Found" "b" "[I" ∈ wsX0_become := List.mem_of_getElem? (i := 2) rfl
theorem kw_X0_become_3 : Cond.methodLink RX0 42 arraycopyName ∈ wsX0_become := List.mem_of_getElem? (i := 3) rfl
theorem kw_X0_become_4 : Cond.native arraycopyName ∈ wsX0_become := List.mem_of_getElem? (i := 4) rfl
theorem kw_X0_become_5 : Cond.static arraycopyName ∈ wsX0_become := List.mem_of_getElem? (i := 5) rfl
theorem kw_X0_become_6 : Cond.initialized RJ10 ∈ wsX0_become := List.mem_of_getElem? (i := 6) rfl
theorem kw_X0_become_7 : Cond.fieldLink RX0 22 "LoweredPowers$Found" "top" "I" ∈ wsX0_become := List.mem_of_getElem? (i := 7) rfl
theorem kw_X11_set_1 : Cond.fieldLink RX11 12 "LoweredPowers" "now" "LLoweredPowers$State;" ∈ wsX11_set := List.mem_of_getElem? (i := 1) rfl
theorem kw_X11_set_2 : Cond.fieldLink RX11 83 "LoweredPowers$State" "f" "[I" ∈ wsX11_set := List.mem_of_getElem? (i := 2) rfl
theorem kw_X11_set_3 : Cond.constant RX11 86 (100000) ∈ wsX11_set := List.mem_of_getElem? (i := 3) rfl
abbrev rm_X11_within : Room := { frames := 0, cells := 0, slots := 0, locals := 0 }
set_option maxRecDepth 100000 in
set_option maxHeartbeats 4000000 in
theorem ct_X11_within (l : Launch) (D : va_G) (cI cJ cZ : ClassId) (x0 : Int32) (x1 : Int32) (x2 : Int32) (sz : Nat) (K : Int32 → Prop) (h : wp_X11_within x0 x1 x2 K) : Met l yX11_within wsX11_within rm_X11_within (va_Pc [.int x0, .int x1, .int x2] (WX D cI cJ cZ [] sz)) (va_Qi (fun (r : Int32) (_ : Unit) => K r ) (fun (_ : Unit) t => WY D (va_A [] sz) [] t) (va_A [] sz)) 0 0 (va_A [] sz) := by
  refine m_met (own := RX11) (cc := cX11_within) (maxL := 3) (ret := some .boolean) [.int x0, .int x1, .int x2] [(0, .int x0), (1, .int x1), (2, .int x2)] (by decide) rfl rfl (Nat.le_of_ble_eq_true rfl) rfl ?_
  intro p e s m args below meth c Q A hQ hA C0 hr hnm hsz hM ls hl
  have hx := C0.1
  have hb := C0.2.1
  have hown := C0.2.2.2.1
  unfold wp_X11_within at h
  refine lv_iload_n hx hb dX11_within_0 rfl (lv_at hl 0 rfl) ?_
  refine lv_iload_n hx hb dX11_within_1 rfl (lv_at hl 1 rfl) ?_
  refine lv_icmp_lt (tgt := 14) hx hb dX11_within_2 (by decide) (fun hq => ?_) (fun hq => ?_)
  · have h := h.1 hq
    refine lv_iconst (v := (0 : Int32)) hx hb dX11_within_14 (by decide) ?_
    subst hsz; subst hA; subst hQ
    exact m_zret C0 hr hM rfl () h rfl dX11_within_15
  · have h := h.2 hq
    refine lv_iload_n hx hb dX11_within_5 rfl (lv_at hl 0 rfl) ?_
    refine lv_iload_n hx hb dX11_within_6 rfl (lv_at hl 2 rfl) ?_
    refine lv_icmp_gt (tgt := 14) hx hb dX11_within_7 (by decide) (fun hq => ?_) (fun hq => ?_)
    · have h := h.1 hq
      refine lv_iconst (v := (0 : Int32)) hx hb dX11_within_14 (by decide) ?_
      subst hsz; subst hA; subst hQ
      exact m_zret C0 hr hM rfl () h rfl dX11_within_15
    · have h := h.2 hq
      refine lv_iconst (v := (1 : Int32)) hx hb dX11_within_10 (by decide) ?_
      refine lv_goto (tgt := 15) hx hb dX11_within_11 (by decide) ?_
      subst hsz; subst hA; subst hQ
      exact m_zret C0 hr hM rfl () h rfl dX11_within_15
abbrev rm_X3_fold : Room := { frames := 0, cells := 0, slots := 0, locals := 0 }
set_option maxRecDepth 100000 in
set_option maxHeartbeats 4000000 in
theorem ct_X3_fold (l : Launch) (D : va_G) (cI cJ cZ : ClassId) (x0 : Int64) (sz : Nat) (K : Int32 → Prop) (h : wp_X3_fold x0 K) : Met l yX3_fold wsX3_fold rm_X3_fold (va_Pc [.long x0] (WX D cI cJ cZ [] sz)) (va_Qi (fun (r : Int32) (_ : Unit) => K r ) (fun (_ : Unit) t => WY D (va_A [] sz) [] t) (va_A [] sz)) 0 0 (va_A [] sz) := by
  refine m_met (own := RX3) (cc := cX3_fold) (maxL := 3) (ret := some .int) [.long x0] [(0, .long x0)] (by decide) rfl rfl (Nat.le_of_ble_eq_true rfl) rfl ?_
  intro p e s m args below meth c Q A hQ hA C0 hr hnm hsz hM ls hl
  have hx := C0.1
  have hb := C0.2.1
  have hown := C0.2.2.2.1
  unfold wp_X3_fold at h
  refine lv_lload_n hx hb dX3_fold_0 rfl (lv_at hl 0 rfl) ?_
  refine lv_ldc2 (v := (10007 : Int64)) hx hb hown (C0.2.2.2.2.1 _ kw_X3_fold_1) dX3_fold_1 ?_
  refine lv_lrem hx hb dX3_fold_4 (by decide) ?_
  refine lv_l2i hx hb dX3_fold_5 rfl ?_
  refine lv_topi (fun y1 ey1 => ?_)
  have h := h y1 ey1
  refine lv_istore_n (lv' := [(2, .int y1), (0, .long x0)]) hx hb dX3_fold_6 rfl hl (by decide) rfl (fun ls hl => ?_)
  refine lv_iload_n hx hb dX3_fold_7 rfl (lv_at hl 0 rfl) ?_
  refine lv_sipush (v := (5003 : Int32)) hx hb dX3_fold_8 (by decide) ?_
  refine lv_icmp_le (tgt := 20) hx hb dX3_fold_11 (by decide) (fun hq => ?_) (fun hq => ?_)
  · have h := h.1 hq
    refine lv_iload_n hx hb dX3_fold_20 rfl (lv_at hl 0 rfl) ?_
    refine lv_sipush (v := (-5003 : Int32)) hx hb dX3_fold_21 (by decide) ?_
    refine lv_icmp_ge (tgt := 35) hx hb dX3_fold_24 (by decide) (fun hq => ?_) (fun hq => ?_)
    · have h := h.1 hq
      refine lv_iload_n hx hb dX3_fold_35 rfl (lv_at hl 0 rfl) ?_
      subst hsz; subst hA; subst hQ
      exact m_iret C0 hr hM () h rfl dX3_fold_36
    · have h := h.2 hq
      refine lv_iload_n hx hb dX3_fold_27 rfl (lv_at hl 0 rfl) ?_
      refine lv_sipush (v := (10007 : Int32)) hx hb dX3_fold_28 (by decide) ?_
      refine lv_iadd hx hb dX3_fold_31 ?_
      refine lv_goto (tgt := 36) hx hb dX3_fold_32 (by decide) ?_
      subst hsz; subst hA; subst hQ
      exact m_iret C0 hr hM () h rfl dX3_fold_36
  · have h := h.2 hq
    refine lv_iload_n hx hb dX3_fold_14 rfl (lv_at hl 0 rfl) ?_
    refine lv_sipush (v := (10007 : Int32)) hx hb dX3_fold_15 (by decide) ?_
    refine lv_isub hx hb dX3_fold_18 ?_
    subst hsz; subst hA; subst hQ
    exact m_iret C0 hr hM () h rfl dX3_fold_19
abbrev rm_X3_highest : Room := { frames := 0, cells := 0, slots := 0, locals := 0 }
set_option maxRecDepth 100000 in
set_option maxHeartbeats 4000000 in
theorem ct_X3_highest (l : Launch) (D : va_G) (cI cJ cZ : ClassId) (h0 : Nat) (n0 : Nat) (A0 : (Nat → Int32)) (sz : Nat) (K : Int32 → Prop) (h : wp_X3_highest n0 A0 K) : Met l yX3_highest wsX3_highest rm_X3_highest (va_Pc [.ref h0] (WX D cI cJ cZ [(h0, .inl (cI, n0, .inl A0))] sz)) (va_Qi (fun (r : Int32) (_ : Unit) => K r ) (fun (_ : Unit) t => WY D (va_A [(h0, .inl (cI, n0, .inl A0))] sz) [(h0, .inl (cI, n0, .inl A0))] t) (va_A [(h0, .inl (cI, n0, .inl A0))] sz)) 0 0 (va_A [(h0, .inl (cI, n0, .inl A0))] sz) := by
  refine m_met (own := RX3) (cc := cX3_highest) (maxL := 2) (ret := some .int) [.ref h0] [(0, .ref h0)] (by decide) rfl rfl (Nat.le_of_ble_eq_true rfl) rfl ?_
  intro p e s m args below meth c Q A hQ hA C0 hr hnm hsz hM ls hl
  have hx := C0.1
  have hb := C0.2.1
  have hown := C0.2.2.2.1
  have lq5 : ∀ (k : Nat) (x1 : Int32) (H : Heap) (locs : List Loc) (ls : Array Slot) , lp_X3_highest_5 n0 A0 K k x1 → MW D A s.heap [(h0, .inl (cI, n0, .inl A0))] H locs → lv_has ls 2 [(0, .ref h0), (1, .int x1)] → W p l e rm_X3_highest s m args below meth c H locs 0 0 Q (F0 m 5 ls []) := by
    intro k
    induction k with
    | zero =>
      intro x1 H locs ls h
      unfold lp_X3_highest_5 at h
      exact h.elim
    | succ k ih5 =>
      intro x1 H locs ls h hM hl
      unfold lp_X3_highest_5 at h
      refine lv_iload_n hx hb dX3_highest_5 rfl (lv_at hl 1 rfl) ?_
      refine lv_if_lt (tgt := 23) hx hb dX3_highest_6 (by decide) (fun hq => ?_) (fun hq => ?_)
      · have h := h.1 hq
        refine lv_iconst (v := (-1 : Int32)) hx hb dX3_highest_23 (by decide) ?_
        subst hsz; subst hA; subst hQ
        exact m_iret C0 hr hM () h rfl dX3_highest_24
      · have h := h.2 hq
        refine lv_aload_n hx hb dX3_highest_9 rfl (lv_at hl 0 rfl) ?_
        refine lv_iload_n hx hb dX3_highest_10 rfl (lv_at hl 1 rfl) ?_
        obtain ⟨hc1, h⟩ := h
        refine m_iald C0 hM 0 rfl hc1 dX3_highest_11 ?_
        refine lv_if_eq (tgt := 17) hx hb dX3_highest_12 (by decide) (fun hq => ?_) (fun hq => ?_)
        · have h := h.1 hq
          refine lv_iinc (v := (x1 + (-1 : Int32))) (lv' := [(1, .int (x1 + (-1 : Int32))), (0, .ref h0)]) hx hb dX3_highest_17 hl (k := 1) rfl rfl (by decide) rfl (fun ls hl => ?_)
          refine lv_goto (tgt := 5) hx hb dX3_highest_20 (by decide) ?_
          exact ih5 _ _ _ _ h hM (lv_sub hl [1, 0] rfl)
        · have h := h.2 hq
          refine lv_iload_n hx hb dX3_highest_15 rfl (lv_at hl 1 rfl) ?_
          subst hsz; subst hA; subst hQ
          exact m_iret C0 hr hM () h rfl dX3_highest_16
  unfold wp_X3_highest at h
  refine lv_aload_n hx hb dX3_highest_0 rfl (lv_at hl 0 rfl) ?_
  refine m_alen C0 hM 0 rfl dX3_highest_1 ?_
  refine lv_iconst (v := (1 : Int32)) hx hb dX3_highest_2 (by decide) ?_
  refine lv_isub hx hb dX3_highest_3 ?_
  refine lv_topi (fun y2 ey2 => ?_)
  have h := h y2 ey2
  refine lv_istore_n (lv' := [(1, .int y2), (0, .ref h0)]) hx hb dX3_highest_4 rfl hl (by decide) rfl (fun ls hl => ?_)
  obtain ⟨k0, h⟩ := h
  exact lq5 k0 _ _ _ _ h hM (lv_sub hl [1, 0] rfl)
abbrev rm_X3_inverse : Room := { frames := 1, cells := 0, slots := 0, locals := 22 }
set_option maxRecDepth 100000 in
set_option maxHeartbeats 4000000 in
theorem ct_X3_inverse (l : Launch) (D : va_G) (cI cJ cZ : ClassId) (x0 : Int32) (sz : Nat) (K : Int32 → Prop) (h : wp_X3_inverse x0 K) : Met l yX3_inverse wsX3_inverse rm_X3_inverse (va_Pc [.int x0] (WX D cI cJ cZ [] sz)) (va_Qi (fun (r : Int32) (_ : Unit) => K r ) (fun (_ : Unit) t => WY D (va_A [] sz) [] t) (va_A [] sz)) 0 0 (va_A [] sz) := by
  refine m_met (own := RX3) (cc := cX3_inverse) (maxL := 4) (ret := some .int) [.int x0] [(0, .int x0)] (by decide) rfl rfl (Nat.le_of_ble_eq_true rfl) rfl ?_
  intro p e s m args below meth c Q A hQ hA C0 hr hnm hsz hM ls hl
  have hx := C0.1
  have hb := C0.2.1
  have hown := C0.2.2.2.1
  have lq12 : ∀ (k : Nat) (x1 : Int32) (x2 : Int32) (x3 : Int32) (H : Heap) (locs : List Loc) (ls : Array Slot) , lp_X3_inverse_12 x0 K k x1 x2 x3 → MW D A s.heap [] H locs → lv_has ls 4 [(1, .int x1), (2, .int x2), (3, .int x3)] → W p l e rm_X3_inverse s m args below meth c H locs 0 0 Q (F0 m 12 ls []) := by
    intro k
    induction k with
    | zero =>
      intro x1 x2 x3 H locs ls h
      unfold lp_X3_inverse_12 at h
      exact h.elim
    | succ k ih12 =>
      have jq32 : ∀ (x1 : Int32) (x2 : Int32) (x3 : Int32) (H : Heap) (locs : List Loc) (ls : Array Slot) , jn_X3_inverse_32 x0 (lp_X3_inverse_12 x0 K k) K x1 x2 x3 → MW D A s.heap [] H locs → lv_has ls 4 [(1, .int x1), (2, .int x2), (3, .int x3)] → W p l e rm_X3_inverse s m args below meth c H locs 0 0 Q (F0 m 32 ls []) := by
        intro x1 x2 x3 H locs ls h hM hl
        unfold jn_X3_inverse_32 at h
        refine lv_iload_n hx hb dX3_inverse_32 rfl (lv_at hl 1 rfl) ?_
        refine lv_i2l hx hb dX3_inverse_33 rfl ?_
        refine lv_iload_n hx hb dX3_inverse_34 rfl (lv_at hl 1 rfl) ?_
        refine lv_i2l hx hb dX3_inverse_35 rfl ?_
        refine lv_lmul hx hb dX3_inverse_36 ?_
        refine m_calli (wc := []) C0 hM [] rfl (m_runS (wc := []) (As := [.long ((x2.toInt64) * (x2.toInt64))]) (rest := []) C0 hM (ct_X3_fold l D cI cJ cZ ((x2.toInt64) * (x2.toInt64)) H.size _ h) [] rfl (by decide) gX3_inverse_X3_fold rfl rfl rfl hd_X3_fold ⟨Nat.le_of_ble_eq_true rfl, Nat.le_of_ble_eq_true rfl⟩ rfl hl.1 rfl (Nat.le_of_ble_eq_true rfl) dX3_inverse_37 ⟨Nat.le_of_ble_eq_true rfl, Nat.le_of_ble_eq_true rfl⟩) (fun _ => []) (fun _ => rfl) (fun _ => rfl) (fun y1 _ H locs h hM => ?_)
        refine lv_istore_n (lv' := [(2, .int y1), (1, .int x1), (3, .int x3)]) hx hb dX3_inverse_40 rfl hl (by decide) rfl (fun ls hl => ?_)
        refine lv_iload_n hx hb dX3_inverse_41 rfl (lv_at hl 2 rfl) ?_
        refine lv_iconst (v := (1 : Int32)) hx hb dX3_inverse_42 (by decide) ?_
        refine lv_ishr hx hb dX3_inverse_43 ?_
        refine lv_topi (fun y2 ey2 => ?_)
        have h := h y2 ey2
        refine lv_istore_n (lv' := [(3, .int y2), (2, .int y1), (1, .int x1)]) hx hb dX3_inverse_44 rfl hl (by decide) rfl (fun ls hl => ?_)
        refine lv_goto (tgt := 12) hx hb dX3_inverse_45 (by decide) ?_
        exact ih12 _ _ _ _ _ _ h hM (lv_sub hl [2, 1, 0] rfl)
      intro x1 x2 x3 H locs ls h hM hl
      unfold lp_X3_inverse_12 at h
      refine lv_iload_n hx hb dX3_inverse_12 rfl (lv_at hl 2 rfl) ?_
      refine lv_if_le (tgt := 48) hx hb dX3_inverse_13 (by decide) (fun hq => ?_) (fun hq => ?_)
      · have h := h.1 hq
        refine lv_iload_n hx hb dX3_inverse_48 rfl (lv_at hl 0 rfl) ?_
        subst hsz; subst hA; subst hQ
        exact m_iret C0 hr hM () h rfl dX3_inverse_49
      · have h := h.2 hq
        refine lv_iload_n hx hb dX3_inverse_16 rfl (lv_at hl 2 rfl) ?_
        refine lv_iconst (v := (1 : Int32)) hx hb dX3_inverse_17 (by decide) ?_
        refine lv_iand hx hb dX3_inverse_18 ?_
        refine lv_iconst (v := (1 : Int32)) hx hb dX3_inverse_19 (by decide) ?_
        refine lv_icmp_ne (tgt := 32) hx hb dX3_inverse_20 (by decide) (fun hq => ?_) (fun hq => ?_)
        · have h := h.1 hq
          exact jq32 _ _ _ _ _ _ h hM (lv_sub hl [0, 1, 2] rfl)
        · have h := h.2 hq
          refine lv_iload_n hx hb dX3_inverse_23 rfl (lv_at hl 0 rfl) ?_
          refine lv_i2l hx hb dX3_inverse_24 rfl ?_
          refine lv_iload_n hx hb dX3_inverse_25 rfl (lv_at hl 1 rfl) ?_
          refine lv_i2l hx hb dX3_inverse_26 rfl ?_
          refine lv_lmul hx hb dX3_inverse_27 ?_
          refine m_calli (wc := []) C0 hM [] rfl (m_runS (wc := []) (As := [.long ((x1.toInt64) * (x2.toInt64))]) (rest := []) C0 hM (ct_X3_fold l D cI cJ cZ ((x1.toInt64) * (x2.toInt64)) H.size _ h) [] rfl (by decide) gX3_inverse_X3_fold rfl rfl rfl hd_X3_fold ⟨Nat.le_of_ble_eq_true rfl, Nat.le_of_ble_eq_true rfl⟩ rfl hl.1 rfl (Nat.le_of_ble_eq_true rfl) dX3_inverse_28 ⟨Nat.le_of_ble_eq_true rfl, Nat.le_of_ble_eq_true rfl⟩) (fun _ => []) (fun _ => rfl) (fun _ => rfl) (fun y3 _ H locs h hM => ?_)
          refine lv_istore_n (lv' := [(1, .int y3), (2, .int x2), (3, .int x3)]) hx hb dX3_inverse_31 rfl hl (by decide) rfl (fun ls hl => ?_)
          exact jq32 _ _ _ _ _ _ h hM (lv_sub hl [0, 1, 2] rfl)
  unfold wp_X3_inverse at h
  refine lv_iconst (v := (1 : Int32)) hx hb dX3_inverse_0 (by decide) ?_
  refine lv_istore_n (lv' := [(1, .int (1 : Int32)), (0, .int x0)]) hx hb dX3_inverse_1 rfl hl (by decide) rfl (fun ls hl => ?_)
  refine lv_iload_n hx hb dX3_inverse_2 rfl (lv_at hl 1 rfl) ?_
  refine lv_i2l hx hb dX3_inverse_3 rfl ?_
  refine m_calli (wc := []) C0 hM [] rfl (m_runS (wc := []) (As := [.long (x0.toInt64)]) (rest := []) C0 hM (ct_X3_fold l D cI cJ cZ (x0.toInt64) H.size _ h) [] rfl (by decide) gX3_inverse_X3_fold rfl rfl rfl hd_X3_fold ⟨Nat.le_of_ble_eq_true rfl, Nat.le_of_ble_eq_true rfl⟩ rfl hl.1 rfl (Nat.le_of_ble_eq_true rfl) dX3_inverse_4 ⟨Nat.le_of_ble_eq_true rfl, Nat.le_of_ble_eq_true rfl⟩) (fun _ => []) (fun _ => rfl) (fun _ => rfl) (fun y4 _ H locs h hM => ?_)
  refine lv_istore_n (lv' := [(2, .int y4), (1, .int (1 : Int32)), (0, .int x0)]) hx hb dX3_inverse_7 rfl hl (by decide) rfl (fun ls hl => ?_)
  refine lv_sipush (v := (10005 : Int32)) hx hb dX3_inverse_8 (by decide) ?_
  refine lv_istore_n (lv' := [(3, .int (10005 : Int32)), (2, .int y4), (1, .int (1 : Int32)), (0, .int x0)]) hx hb dX3_inverse_11 rfl hl (by decide) rfl (fun ls hl => ?_)
  obtain ⟨k0, h⟩ := h
  exact lq12 k0 _ _ _ _ _ _ h hM (lv_sub hl [2, 1, 0] rfl)
abbrev rm_X3_multiply : Room := { frames := 1, cells := 0, slots := 0, locals := 22 }
set_option maxRecDepth 100000 in
set_option maxHeartbeats 4000000 in
theorem ct_X3_multiply (l : Launch) (D : va_G) (cI cJ cZ : ClassId) (h0 : Nat) (h1 : Nat) (A0 : (Nat → Int32)) (A1 : (Nat → Int32)) (sz : Nat) (K : (Nat → Int32) → Prop) (h : wp_X3_multiply A0 A1 K) : Met l yX3_multiply wsX3_multiply rm_X3_multiply (va_Pc [.ref h0, .ref h1] (WX D cI cJ cZ [(h0, .inl (cI, 25, .inl A0)), (h1, .inl (cI, 5, .inl A1))] sz)) (va_Qv (fun (u : (Nat → Int32)) => K u) (fun (u : (Nat → Int32)) t => WY D (va_A [(h0, .inl (cI, 25, .inl A0)), (h1, .inl (cI, 5, .inl A1))] sz) [(h0, .inl (cI, 25, .inl u)), (h1, .inl (cI, 5, .inl A1))] t) (va_A [(h0, .inl (cI, 25, .inl A0)), (h1, .inl (cI, 5, .inl A1))] sz)) 0 0 (va_A [(h0, .inl (cI, 25, .inl A0)), (h1, .inl (cI, 5, .inl A1))] sz) := by
  refine m_met (own := RX3) (cc := cX3_multiply) (maxL := 6) (ret := none) [.ref h0, .ref h1] [(0, .ref h0), (1, .ref h1)] (by decide) rfl rfl (Nat.le_of_ble_eq_true rfl) rfl ?_
  intro p e s m args below meth c Q A hQ hA C0 hr hnm hsz hM ls hl
  have hx := C0.1
  have hb := C0.2.1
  have hown := C0.2.2.2.1
  have lq5 : ∀ (k : Nat) (x2 : Int32) (A0 : (Nat → Int32)) (H : Heap) (locs : List Loc) (ls : Array Slot) , lp_X3_multiply_5 A1 K k x2 A0 → MW D A s.heap [(h0, .inl (cI, 25, .inl A0)), (h1, .inl (cI, 5, .inl A1))] H locs → lv_has ls 6 [(0, .ref h0), (1, .ref h1), (2, .int x2)] → W p l e rm_X3_multiply s m args below meth c H locs 0 0 Q (F0 m 5 ls []) := by
    intro k
    induction k with
    | zero =>
      intro x2 A0 H locs ls h
      unfold lp_X3_multiply_5 at h
      exact h.elim
    | succ k ih5 =>
      have jq48 : ∀ (x2 : Int32) (x3 : Int64) (A0 : (Nat → Int32)) (H : Heap) (locs : List Loc) (ls : Array Slot) , jn_X3_multiply_48 A1 (lp_X3_multiply_5 A1 K k) K x2 x3 A0 → MW D A s.heap [(h0, .inl (cI, 25, .inl A0)), (h1, .inl (cI, 5, .inl A1))] H locs → lv_has ls 6 [(0, .ref h0), (1, .ref h1), (2, .int x2), (3, .long x3)] → W p l e rm_X3_multiply s m args below meth c H locs 0 0 Q (F0 m 48 ls []) := by
        intro x2 x3 A0 H locs ls h hM hl
        unfold jn_X3_multiply_48 at h
        refine lv_aload_n hx hb dX3_multiply_48 rfl (lv_at hl 0 rfl) ?_
        refine lv_iload_n hx hb dX3_multiply_49 rfl (lv_at hl 2 rfl) ?_
        refine lv_lload_n hx hb dX3_multiply_50 rfl (lv_at hl 3 rfl) ?_
        refine m_calli (wc := []) C0 hM [] rfl (m_runS (wc := []) (As := [.long x3]) (rest := [.int x2, .ref h0]) C0 hM (ct_X3_fold l D cI cJ cZ x3 H.size _ h) [] rfl (by decide) gX3_multiply_X3_fold rfl rfl rfl hd_X3_fold ⟨Nat.le_of_ble_eq_true rfl, Nat.le_of_ble_eq_true rfl⟩ rfl hl.1 rfl (Nat.le_of_ble_eq_true rfl) dX3_multiply_51 ⟨Nat.le_of_ble_eq_true rfl, Nat.le_of_ble_eq_true rfl⟩) (fun _ => [(h0, .inl (cI, 25, .inl A0)), (h1, .inl (cI, 5, .inl A1))]) (fun _ => rfl) (fun _ => rfl) (fun y1 _ H locs h hM => ?_)
        obtain ⟨hc2, h⟩ := h
        refine m_iast (ws' := [(h0, .inl (cI, 25, .inl (upd A0 (x2).toNatClampNeg y1))), (h1, .inl (cI, 5, .inl A1))]) C0 hM 0 rfl hc2 rfl dX3_multiply_54 (fun H locs hM => ?_)
        refine lv_iinc (v := (x2 + (-1 : Int32))) (lv' := [(2, .int (x2 + (-1 : Int32))), (0, .ref h0), (1, .ref h1), (3, .long x3)]) hx hb dX3_multiply_55 hl (k := 2) rfl rfl (by decide) rfl (fun ls hl => ?_)
        refine lv_goto (tgt := 5) hx hb dX3_multiply_58 (by decide) ?_
        exact ih5 _ _ _ _ _ h hM (lv_sub hl [1, 2, 0] rfl)
      have lq14 : ∀ (k : Nat) (x2 : Int32) (x3 : Int64) (x5 : Int32) (A0 : (Nat → Int32)) (H : Heap) (locs : List Loc) (ls : Array Slot) , lp_X3_multiply_14 A1 (jn_X3_multiply_48 A1 (lp_X3_multiply_5 A1 K k) K) K k x2 x3 x5 A0 → MW D A s.heap [(h0, .inl (cI, 25, .inl A0)), (h1, .inl (cI, 5, .inl A1))] H locs → lv_has ls 6 [(0, .ref h0), (1, .ref h1), (2, .int x2), (3, .long x3), (5, .int x5)] → W p l e rm_X3_multiply s m args below meth c H locs 0 0 Q (F0 m 14 ls []) := by
        intro k
        induction k with
        | zero =>
          intro x2 x3 x5 A0 H locs ls h
          unfold lp_X3_multiply_14 at h
          exact h.elim
        | succ k ih14 =>
          intro x2 x3 x5 A0 H locs ls h hM hl
          unfold lp_X3_multiply_14 at h
          refine lv_iload hx hb dX3_multiply_14 (lv_at hl 4 rfl) ?_
          refine lv_iconst (v := (4 : Int32)) hx hb dX3_multiply_16 (by decide) ?_
          refine lv_icmp_gt (tgt := 48) hx hb dX3_multiply_17 (by decide) (fun hq => ?_) (fun hq => ?_)
          · have h := h.1 hq
            exact jq48 _ _ _ _ _ _ h hM (lv_sub hl [0, 1, 2, 3] rfl)
          · have h := h.2 hq
            refine lv_iload hx hb dX3_multiply_20 (lv_at hl 4 rfl) ?_
            refine lv_iload_n hx hb dX3_multiply_22 rfl (lv_at hl 2 rfl) ?_
            refine lv_icmp_gt (tgt := 48) hx hb dX3_multiply_23 (by decide) (fun hq => ?_) (fun hq => ?_)
            · have h := h.1 hq
              exact jq48 _ _ _ _ _ _ h hM (lv_sub hl [0, 1, 2, 3] rfl)
            · have h := h.2 hq
              refine lv_lload_n hx hb dX3_multiply_26 rfl (lv_at hl 3 rfl) ?_
              refine lv_aload_n hx hb dX3_multiply_27 rfl (lv_at hl 1 rfl) ?_
              refine lv_iload hx hb dX3_multiply_28 (lv_at hl 4 rfl) ?_
              obtain ⟨hc3, h⟩ := h
              refine m_iald C0 hM 1 rfl hc3 dX3_multiply_30 ?_
              refine lv_i2l hx hb dX3_multiply_31 rfl ?_
              refine lv_aload_n hx hb dX3_multiply_32 rfl (lv_at hl 0 rfl) ?_
              refine lv_iload_n hx hb dX3_multiply_33 rfl (lv_at hl 2 rfl) ?_
              refine lv_iload hx hb dX3_multiply_34 (lv_at hl 4 rfl) ?_
              refine lv_isub hx hb dX3_multiply_36 ?_
              obtain ⟨hc4, h⟩ := h
              refine m_iald C0 hM 0 rfl hc4 dX3_multiply_37 ?_
              refine lv_i2l hx hb dX3_multiply_38 rfl ?_
              refine lv_lmul hx hb dX3_multiply_39 ?_
              refine lv_ladd hx hb dX3_multiply_40 ?_
              refine lv_topl (fun y5 ey5 => ?_)
              have h := h y5 ey5
              refine lv_lstore_n (lv' := [(3, .long y5), (0, .ref h0), (1, .ref h1), (2, .int x2), (5, .int x5)]) hx hb dX3_multiply_41 rfl hl (by decide) rfl (fun ls hl => ?_)
              refine lv_iinc (v := (x5 + (1 : Int32))) (lv' := [(5, .int (x5 + (1 : Int32))), (3, .long y5), (0, .ref h0), (1, .ref h1), (2, .int x2)]) hx hb dX3_multiply_42 hl (k := 4) rfl rfl (by decide) rfl (fun ls hl => ?_)
              refine lv_goto (tgt := 14) hx hb dX3_multiply_45 (by decide) ?_
              exact ih14 _ _ _ _ _ _ _ h hM (lv_sub hl [2, 3, 4, 1, 0] rfl)
      intro x2 A0 H locs ls h hM hl
      unfold lp_X3_multiply_5 at h
      refine lv_iload_n hx hb dX3_multiply_5 rfl (lv_at hl 2 rfl) ?_
      refine lv_if_lt (tgt := 61) hx hb dX3_multiply_6 (by decide) (fun hq => ?_) (fun hq => ?_)
      · have h := h.1 hq
        subst hsz; subst hA; subst hQ
        exact m_vret C0 hr hM A0 h rfl dX3_multiply_61
      · have h := h.2 hq
        refine lv_lconst (v := (0 : Int64)) hx hb dX3_multiply_9 (by decide) ?_
        refine lv_lstore_n (lv' := [(3, .long (0 : Int64)), (0, .ref h0), (1, .ref h1), (2, .int x2)]) hx hb dX3_multiply_10 rfl hl (by decide) rfl (fun ls hl => ?_)
        refine lv_iconst (v := (0 : Int32)) hx hb dX3_multiply_11 (by decide) ?_
        refine lv_istore (lv' := [(5, .int (0 : Int32)), (3, .long (0 : Int64)), (0, .ref h0), (1, .ref h1), (2, .int x2)]) hx hb dX3_multiply_12 hl (by decide) rfl (fun ls hl => ?_)
        obtain ⟨k0, h⟩ := h
        exact lq14 k0 _ _ _ _ _ _ _ h hM (lv_sub hl [2, 3, 4, 1, 0] rfl)
  unfold wp_X3_multiply at h
  refine lv_aload_n hx hb dX3_multiply_0 rfl (lv_at hl 0 rfl) ?_
  refine m_alen C0 hM 0 rfl dX3_multiply_1 ?_
  refine lv_iconst (v := (1 : Int32)) hx hb dX3_multiply_2 (by decide) ?_
  refine lv_isub hx hb dX3_multiply_3 ?_
  refine lv_topi (fun y6 ey6 => ?_)
  have h := h y6 ey6
  refine lv_istore_n (lv' := [(2, .int y6), (0, .ref h0), (1, .ref h1)]) hx hb dX3_multiply_4 rfl hl (by decide) rfl (fun ls hl => ?_)
  obtain ⟨k0, h⟩ := h
  exact lq5 k0 _ _ _ _ _ h hM (lv_sub hl [1, 2, 0] rfl)
abbrev rm_X3_raise : Room := { frames := 2, cells := 0, slots := 0, locals := 47 }
set_option maxRecDepth 100000 in
set_option maxHeartbeats 4000000 in
theorem ct_X3_raise (l : Launch) (D : va_G) (cI cJ cZ : ClassId) (h0 : Nat) (h1 : Nat) (A0 : (Nat → Int32)) (A1 : (Nat → Int32)) (x2 : Int32) (sz : Nat) (K : (Nat → Int32) → Prop) (h : wp_X3_raise x2 A0 A1 K) : Met l yX3_raise wsX3_raise rm_X3_raise (va_Pc [.ref h0, .ref h1, .int x2] (WX D cI cJ cZ [(h0, .inl (cI, 25, .inl A0)), (h1, .inl (cI, 5, .inl A1))] sz)) (va_Qv (fun (u : (Nat → Int32)) => K u) (fun (u : (Nat → Int32)) t => WY D (va_A [(h0, .inl (cI, 25, .inl A0)), (h1, .inl (cI, 5, .inl A1))] sz) [(h0, .inl (cI, 25, .inl u)), (h1, .inl (cI, 5, .inl A1))] t) (va_A [(h0, .inl (cI, 25, .inl A0)), (h1, .inl (cI, 5, .inl A1))] sz)) 0 0 (va_A [(h0, .inl (cI, 25, .inl A0)), (h1, .inl (cI, 5, .inl A1))] sz) := by
  refine m_met (own := RX3) (cc := cX3_raise) (maxL := 4) (ret := none) [.ref h0, .ref h1, .int x2] [(0, .ref h0), (1, .ref h1), (2, .int x2)] (by decide) rfl rfl (Nat.le_of_ble_eq_true rfl) rfl ?_
  intro p e s m args below meth c Q A hQ hA C0 hr hnm hsz hM ls hl
  have hx := C0.1
  have hb := C0.2.1
  have hown := C0.2.2.2.1
  have lq11 : ∀ (k : Nat) (x3 : Int32) (A0 : (Nat → Int32)) (H : Heap) (locs : List Loc) (ls : Array Slot) , lp_X3_raise_11 x2 A1 K k x3 A0 → MW D A s.heap [(h0, .inl (cI, 25, .inl A0)), (h1, .inl (cI, 5, .inl A1))] H locs → lv_has ls 4 [(0, .ref h0), (1, .ref h1), (2, .int x2), (3, .int x3)] → W p l e rm_X3_raise s m args below meth c H locs 0 0 Q (F0 m 11 ls []) := by
    intro k
    induction k with
    | zero =>
      intro x3 A0 H locs ls h
      unfold lp_X3_raise_11 at h
      exact h.elim
    | succ k ih11 =>
      intro x3 A0 H locs ls h hM hl
      unfold lp_X3_raise_11 at h
      refine lv_iload_n hx hb dX3_raise_11 rfl (lv_at hl 3 rfl) ?_
      refine lv_iload_n hx hb dX3_raise_12 rfl (lv_at hl 2 rfl) ?_
      refine lv_icmp_ge (tgt := 27) hx hb dX3_raise_13 (by decide) (fun hq => ?_) (fun hq => ?_)
      · have h := h.1 hq
        subst hsz; subst hA; subst hQ
        exact m_vret C0 hr hM A0 h rfl dX3_raise_27
      · have h := h.2 hq
        refine lv_aload_n hx hb dX3_raise_16 rfl (lv_at hl 0 rfl) ?_
        refine lv_aload_n hx hb dX3_raise_17 rfl (lv_at hl 1 rfl) ?_
        refine m_callv (wc := [(h0, .inl (cI, 25, .inl A0)), (h1, .inl (cI, 5, .inl A1))]) C0 hM [0, 1] rfl (m_runS (wc := [(h0, .inl (cI, 25, .inl A0)), (h1, .inl (cI, 5, .inl A1))]) (As := [.ref h0, .ref h1]) (rest := []) C0 hM (ct_X3_multiply l D cI cJ cZ h0 h1 A0 A1 H.size _ h) [0, 1] rfl (by decide) gX3_raise_X3_multiply rfl rfl rfl hd_X3_multiply ⟨Nat.le_of_ble_eq_true rfl, Nat.le_of_ble_eq_true rfl⟩ rfl hl.1 rfl (Nat.le_of_ble_eq_true rfl) dX3_raise_18 ⟨Nat.le_of_ble_eq_true rfl, Nat.le_of_ble_eq_true rfl⟩) (fun u => [(h0, .inl (cI, 25, .inl u)), (h1, .inl (cI, 5, .inl A1))]) (fun _ => rfl) (fun _ => rfl) (fun b1 H locs h hM => ?_)
        refine lv_iinc (v := (x3 + (1 : Int32))) (lv' := [(3, .int (x3 + (1 : Int32))), (0, .ref h0), (1, .ref h1), (2, .int x2)]) hx hb dX3_raise_21 hl (k := 3) rfl rfl (by decide) rfl (fun ls hl => ?_)
        refine lv_goto (tgt := 11) hx hb dX3_raise_24 (by decide) ?_
        exact ih11 _ _ _ _ _ h hM (lv_sub hl [1, 2, 3, 0] rfl)
  unfold wp_X3_raise at h
  refine lv_aload_n hx hb dX3_raise_0 rfl (lv_at hl 0 rfl) ?_
  refine lv_iconst (v := (0 : Int32)) hx hb dX3_raise_1 (by decide) ?_
  refine m_callv (wc := [(h0, .inl (cI, 25, .inl A0))]) C0 hM [0] rfl (m_runS (wc := [(h0, .inl (cI, 25, .inl A0))]) (As := [.ref h0, .int (0 : Int32)]) (rest := []) C0 hM (ct_J7_fill_53178 l D cI cJ cZ h0 25 A0 (0 : Int32) H.size _ h) [0] rfl (by decide) gX3_raise_J7_fill_53178 rfl rfl rfl hd_J7_fill_53178 ⟨Nat.le_of_ble_eq_true rfl, Nat.le_of_ble_eq_true rfl⟩ rfl hl.1 rfl (Nat.le_of_ble_eq_true rfl) dX3_raise_2 ⟨Nat.le_of_ble_eq_true rfl, Nat.le_of_ble_eq_true rfl⟩) (fun u => [(h0, .inl (cI, 25, .inl u)), (h1, .inl (cI, 5, .inl A1))]) (fun _ => rfl) (fun _ => rfl) (fun b2 H locs h hM => ?_)
  refine lv_aload_n hx hb dX3_raise_5 rfl (lv_at hl 0 rfl) ?_
  refine lv_iconst (v := (0 : Int32)) hx hb dX3_raise_6 (by decide) ?_
  refine lv_iconst (v := (1 : Int32)) hx hb dX3_raise_7 (by decide) ?_
  refine m_iast (ws' := [(h0, .inl (cI, 25, .inl (upd b2 ((0 : Int32)).toNatClampNeg (1 : Int32)))), (h1, .inl (cI, 5, .inl A1))]) C0 hM 0 rfl (by unfold vp_in; decide) rfl dX3_raise_8 (fun H locs hM => ?_)
  refine lv_iconst (v := (0 : Int32)) hx hb dX3_raise_9 (by decide) ?_
  refine lv_istore_n (lv' := [(3, .int (0 : Int32)), (0, .ref h0), (1, .ref h1), (2, .int x2)]) hx hb dX3_raise_10 rfl hl (by decide) rfl (fun ls hl => ?_)
  obtain ⟨k0, h⟩ := h
  exact lq11 k0 _ _ _ _ _ h hM (lv_sub hl [1, 2, 3, 0] rfl)
abbrev rm_X4_names : Room := { frames := 1, cells := 0, slots := 0, locals := 22 }
set_option maxRecDepth 100000 in
set_option maxHeartbeats 4000000 in
theorem ct_X4_names (l : Launch) (D : va_G) (cI cJ cZ : ClassId) (x0 : Int32) (x1 : Int32) (x2 : Int32) (sz : Nat) (K : Int32 → Prop) (h : wp_X4_names x0 x1 x2 K) : Met l yX4_names wsX4_names rm_X4_names (va_Pc [.int x0, .int x1, .int x2] (WX D cI cJ cZ [] sz)) (va_Qi (fun (r : Int32) (_ : Unit) => K r ) (fun (_ : Unit) t => WY D (va_A [] sz) [] t) (va_A [] sz)) 0 0 (va_A [] sz) := by
  refine m_met (own := RX4) (cc := cX4_names) (maxL := 3) (ret := some .boolean) [.int x0, .int x1, .int x2] [(0, .int x0), (1, .int x1), (2, .int x2)] (by decide) rfl rfl (Nat.le_of_ble_eq_true rfl) rfl ?_
  intro p e s m args below meth c Q A hQ hA C0 hr hnm hsz hM ls hl
  have hx := C0.1
  have hb := C0.2.1
  have hown := C0.2.2.2.1
  unfold wp_X4_names at h
  refine lv_iload_n hx hb dX4_names_0 rfl (lv_at hl 0 rfl) ?_
  refine lv_iconst (v := (0 : Int32)) hx hb dX4_names_1 (by decide) ?_
  refine lv_iconst (v := (4 : Int32)) hx hb dX4_names_2 (by decide) ?_
  refine m_calli (wc := []) C0 hM [] rfl (m_runSN (wc := []) (As := [.int x0, .int (0 : Int32), .int (4 : Int32)]) (rest := []) C0 hM (ct_X11_within l D cI cJ cZ x0 (0 : Int32) (4 : Int32) H.size _ h) [] rfl (by decide) gX4_names_X11_within_n13 rfl rfl rfl (C0.2.2.2.2.2.2.2.1).2.2.2.2.2.2.2.1 kw_X4_names_2 kw_X4_names_1 hd_X11_within ⟨Nat.le_of_ble_eq_true rfl, Nat.le_of_ble_eq_true rfl⟩ rfl hl.1 rfl (Nat.le_of_ble_eq_true rfl) dX4_names_3 ⟨Nat.le_of_ble_eq_true rfl, Nat.le_of_ble_eq_true rfl⟩) (fun _ => []) (fun _ => rfl) (fun _ => rfl) (fun y1 _ H locs h hM => ?_)
  refine lv_if_eq (tgt := 31) hx hb dX4_names_6 (by decide) (fun hq => ?_) (fun hq => ?_)
  · have h := h.1 hq
    refine lv_iconst (v := (0 : Int32)) hx hb dX4_names_31 (by decide) ?_
    subst hsz; subst hA; subst hQ
    exact m_zret C0 hr hM rfl () h rfl dX4_names_32
  · have h := h.2 hq
    refine lv_iload_n hx hb dX4_names_9 rfl (lv_at hl 1 rfl) ?_
    refine lv_iconst (v := (0 : Int32)) hx hb dX4_names_10 (by decide) ?_
    refine lv_iconst (v := (4 : Int32)) hx hb dX4_names_11 (by decide) ?_
    refine m_calli (wc := []) C0 hM [] rfl (m_runSN (wc := []) (As := [.int x1, .int (0 : Int32), .int (4 : Int32)]) (rest := []) C0 hM (ct_X11_within l D cI cJ cZ x1 (0 : Int32) (4 : Int32) H.size _ h) [] rfl (by decide) gX4_names_X11_within_n13 rfl rfl rfl (C0.2.2.2.2.2.2.2.1).2.2.2.2.2.2.2.1 kw_X4_names_2 kw_X4_names_1 hd_X11_within ⟨Nat.le_of_ble_eq_true rfl, Nat.le_of_ble_eq_true rfl⟩ rfl hl.1 rfl (Nat.le_of_ble_eq_true rfl) dX4_names_12 ⟨Nat.le_of_ble_eq_true rfl, Nat.le_of_ble_eq_true rfl⟩) (fun _ => []) (fun _ => rfl) (fun _ => rfl) (fun y2 _ H locs h hM => ?_)
    refine lv_if_eq (tgt := 31) hx hb dX4_names_15 (by decide) (fun hq => ?_) (fun hq => ?_)
    · have h := h.1 hq
      refine lv_iconst (v := (0 : Int32)) hx hb dX4_names_31 (by decide) ?_
      subst hsz; subst hA; subst hQ
      exact m_zret C0 hr hM rfl () h rfl dX4_names_32
    · have h := h.2 hq
      refine lv_iload_n hx hb dX4_names_18 rfl (lv_at hl 2 rfl) ?_
      refine lv_iconst (v := (0 : Int32)) hx hb dX4_names_19 (by decide) ?_
      refine lv_iconst (v := (2 : Int32)) hx hb dX4_names_20 (by decide) ?_
      refine m_calli (wc := []) C0 hM [] rfl (m_runSN (wc := []) (As := [.int x2, .int (0 : Int32), .int (2 : Int32)]) (rest := []) C0 hM (ct_X11_within l D cI cJ cZ x2 (0 : Int32) (2 : Int32) H.size _ h) [] rfl (by decide) gX4_names_X11_within_n13 rfl rfl rfl (C0.2.2.2.2.2.2.2.1).2.2.2.2.2.2.2.1 kw_X4_names_2 kw_X4_names_1 hd_X11_within ⟨Nat.le_of_ble_eq_true rfl, Nat.le_of_ble_eq_true rfl⟩ rfl hl.1 rfl (Nat.le_of_ble_eq_true rfl) dX4_names_21 ⟨Nat.le_of_ble_eq_true rfl, Nat.le_of_ble_eq_true rfl⟩) (fun _ => []) (fun _ => rfl) (fun _ => rfl) (fun y3 _ H locs h hM => ?_)
      refine lv_if_eq (tgt := 31) hx hb dX4_names_24 (by decide) (fun hq => ?_) (fun hq => ?_)
      · have h := h.1 hq
        refine lv_iconst (v := (0 : Int32)) hx hb dX4_names_31 (by decide) ?_
        subst hsz; subst hA; subst hQ
        exact m_zret C0 hr hM rfl () h rfl dX4_names_32
      · have h := h.2 hq
        refine lv_iconst (v := (1 : Int32)) hx hb dX4_names_27 (by decide) ?_
        refine lv_goto (tgt := 32) hx hb dX4_names_28 (by decide) ?_
        subst hsz; subst hA; subst hQ
        exact m_zret C0 hr hM rfl () h rfl dX4_names_32
abbrev rm_X4_topDerivative : Room := { frames := 1, cells := 0, slots := 0, locals := 21 }
set_option maxRecDepth 100000 in
set_option maxHeartbeats 4000000 in
theorem ct_X4_topDerivative (l : Launch) (D : va_G) (cI cJ cZ : ClassId) (h0 : Nat) (r0 : Nat → Nat) (A_0_0_numbers : (Nat → Int32)) (sz : Nat) (K : Int32 → Prop) (h : wp_X4_topDerivative A_0_0_numbers K) : Met l yX4_topDerivative wsX4_topDerivative rm_X4_topDerivative (va_Pc [.ref h0] (WX D cI cJ cZ [(h0, .inr (3, oX4 r0 )), ((r0 0), .inl (cI, 75, .inl A_0_0_numbers))] sz)) (va_Qi (fun (r : Int32) (_ : Unit) => K r ) (fun (_ : Unit) t => WY D (va_A [(h0, .inr (3, oX4 r0 )), ((r0 0), .inl (cI, 75, .inl A_0_0_numbers))] sz) [(h0, .inr (3, oX4 r0 )), ((r0 0), .inl (cI, 75, .inl A_0_0_numbers))] t) (va_A [(h0, .inr (3, oX4 r0 )), ((r0 0), .inl (cI, 75, .inl A_0_0_numbers))] sz)) 0 0 (va_A [(h0, .inr (3, oX4 r0 )), ((r0 0), .inl (cI, 75, .inl A_0_0_numbers))] sz) := by
  refine m_met (own := RX4) (cc := cX4_topDerivative) (maxL := 2) (ret := some .int) [.ref h0] [(0, .ref h0)] (by decide) rfl rfl (Nat.le_of_ble_eq_true rfl) rfl ?_
  intro p e s m args below meth c Q A hQ hA C0 hr hnm hsz hM ls hl
  have hx := C0.1
  have hb := C0.2.1
  have hown := C0.2.2.2.1
  unfold wp_X4_topDerivative at h
  refine lv_aload_n hx hb dX4_topDerivative_0 rfl (lv_at hl 0 rfl) ?_
  refine m_get (C := RX4) (T := TX4) (N := 1) (ci := 3) (ref := "LoweredPowers$Operator") (v := .ref (r0 0)) C0 hM 0 rfl rfl kt_X4_topDerivative_X4 0 (by decide) kw_X4_topDerivative_1 rfl rfl dX4_topDerivative_1 ?_
  refine m_calli (wc := [((r0 0), .inl (cI, 75, .inl A_0_0_numbers))]) C0 hM [1] rfl (m_runS (wc := [((r0 0), .inl (cI, 75, .inl A_0_0_numbers))]) (As := [.ref (r0 0)]) (rest := []) C0 hM (ct_X3_highest l D cI cJ cZ (r0 0) 75 A_0_0_numbers H.size _ h) [1] rfl (by decide) gX4_topDerivative_X3_highest rfl rfl rfl hd_X3_highest ⟨Nat.le_of_ble_eq_true rfl, Nat.le_of_ble_eq_true rfl⟩ rfl hl.1 rfl (Nat.le_of_ble_eq_true rfl) dX4_topDerivative_4 ⟨Nat.le_of_ble_eq_true rfl, Nat.le_of_ble_eq_true rfl⟩) (fun _ => [(h0, .inr (3, oX4 r0 )), ((r0 0), .inl (cI, 75, .inl A_0_0_numbers))]) (fun _ => rfl) (fun _ => rfl) (fun y1 _ H locs h hM => ?_)
  refine lv_istore_n (lv' := [(1, .int y1), (0, .ref h0)]) hx hb dX4_topDerivative_7 rfl hl (by decide) rfl (fun ls hl => ?_)
  refine lv_iload_n hx hb dX4_topDerivative_8 rfl (lv_at hl 0 rfl) ?_
  refine lv_if_ge (tgt := 16) hx hb dX4_topDerivative_9 (by decide) (fun hq => ?_) (fun hq => ?_)
  · have h := h.1 hq
    refine lv_iload_n hx hb dX4_topDerivative_16 rfl (lv_at hl 0 rfl) ?_
    refine lv_bipush (v := (15 : Int32)) hx hb dX4_topDerivative_17 (by decide) ?_
    refine lv_idiv hx hb dX4_topDerivative_19 (by decide) ?_
    subst hsz; subst hA; subst hQ
    exact m_iret C0 hr hM () h rfl dX4_topDerivative_20
  · have h := h.2 hq
    refine lv_iconst (v := (0 : Int32)) hx hb dX4_topDerivative_12 (by decide) ?_
    refine lv_goto (tgt := 20) hx hb dX4_topDerivative_13 (by decide) ?_
    subst hsz; subst hA; subst hQ
    exact m_iret C0 hr hM () h rfl dX4_topDerivative_20
abbrev rm_X4_index : Room := { frames := 0, cells := 0, slots := 0, locals := 0 }
set_option maxRecDepth 100000 in
set_option maxHeartbeats 4000000 in
theorem ct_X4_index (l : Launch) (D : va_G) (cI cJ cZ : ClassId) (x0 : Int32) (x1 : Int32) (x2 : Int32) (sz : Nat) (K : Int32 → Prop) (h : wp_X4_index x0 x1 x2 K) : Met l yX4_index wsX4_index rm_X4_index (va_Pc [.int x0, .int x1, .int x2] (WX D cI cJ cZ [] sz)) (va_Qi (fun (r : Int32) (_ : Unit) => K r ) (fun (_ : Unit) t => WY D (va_A [] sz) [] t) (va_A [] sz)) 0 0 (va_A [] sz) := by
  refine m_met (own := RX4) (cc := cX4_index) (maxL := 3) (ret := some .int) [.int x0, .int x1, .int x2] [(0, .int x0), (1, .int x1), (2, .int x2)] (by decide) rfl rfl (Nat.le_of_ble_eq_true rfl) rfl ?_
  intro p e s m args below meth c Q A hQ hA C0 hr hnm hsz hM ls hl
  have hx := C0.1
  have hb := C0.2.1
  have hown := C0.2.2.2.1
  unfold wp_X4_index at h
  refine lv_iload_n hx hb dX4_index_0 rfl (lv_at hl 0 rfl) ?_
  refine lv_bipush (v := (15 : Int32)) hx hb dX4_index_1 (by decide) ?_
  refine lv_imul hx hb dX4_index_3 ?_
  refine lv_iload_n hx hb dX4_index_4 rfl (lv_at hl 1 rfl) ?_
  refine lv_iconst (v := (3 : Int32)) hx hb dX4_index_5 (by decide) ?_
  refine lv_imul hx hb dX4_index_6 ?_
  refine lv_iadd hx hb dX4_index_7 ?_
  refine lv_iload_n hx hb dX4_index_8 rfl (lv_at hl 2 rfl) ?_
  refine lv_iadd hx hb dX4_index_9 ?_
  subst hsz; subst hA; subst hQ
  exact m_iret C0 hr hM () h rfl dX4_index_10
abbrev rm_X4_become : Room := { frames := 1, cells := 0, slots := 0, locals := 26 }
set_option maxRecDepth 100000 in
set_option maxHeartbeats 4000000 in
theorem ct_X4_become (l : Launch) (D : va_G) (cI cJ cZ : ClassId) (h0 : Nat) (h1 : Nat) (r0 : Nat → Nat) (r1 : Nat → Nat) (A_0_0_numbers : (Nat → Int32)) (A_1_0_numbers : (Nat → Int32)) (sz : Nat) (K : (Nat → Int32) → Prop) (h : wp_X4_become A_0_0_numbers A_1_0_numbers K) : Met l yX4_become wsX4_become rm_X4_become (va_Pc [.ref h0, .ref h1] (WX D cI cJ cZ [(h0, .inr (3, oX4 r0 )), ((r0 0), .inl (cI, 75, .inl A_0_0_numbers)), (h1, .inr (3, oX4 r1 )), ((r1 0), .inl (cI, 75, .inl A_1_0_numbers))] sz)) (va_Qv (fun (u : (Nat → Int32)) => K u) (fun (u : (Nat → Int32)) t => WY D (va_A [(h0, .inr (3, oX4 r0 )), ((r0 0), .inl (cI, 75, .inl A_0_0_numbers)), (h1, .inr (3, oX4 r1 )), ((r1 0), .inl (cI, 75, .inl A_1_0_numbers))] sz) [(h0, .inr (3, oX4 r0 )), ((r0 0), .inl (cI, 75, .inl u)), (h1, .inr (3, oX4 r1 )), ((r1 0), .inl (cI, 75, .inl A_1_0_numbers))] t) (va_A [(h0, .inr (3, oX4 r0 )), ((r0 0), .inl (cI, 75, .inl A_0_0_numbers)), (h1, .inr (3, oX4 r1 )), ((r1 0), .inl (cI, 75, .inl A_1_0_numbers))] sz)) 0 0 (va_A [(h0, .inr (3, oX4 r0 )), ((r0 0), .inl (cI, 75, .inl A_0_0_numbers)), (h1, .inr (3, oX4 r1 )), ((r1 0), .inl (cI, 75, .inl A_1_0_numbers))] sz) := by
  refine m_met (own := RX4) (cc := cX4_become) (maxL := 2) (ret := none) [.ref h0, .ref h1] [(0, .ref h0), (1, .ref h1)] (by decide) rfl rfl (Nat.le_of_ble_eq_true rfl) rfl ?_
  intro p e s m args below meth c Q A hQ hA C0 hr hnm hsz hM ls hl
  have hx := C0.1
  have hb := C0.2.1
  have hown := C0.2.2.2.1
  unfold wp_X4_become at h
  refine lv_aload_n hx hb dX4_become_0 rfl (lv_at hl 1 rfl) ?_
  refine m_get (C := RX4) (T := TX4) (N := 1) (ci := 3) (ref := "LoweredPowers$Operator") (v := .ref (r1 0)) C0 hM 2 rfl rfl kt_X4_become_X4 0 (by decide) kw_X4_become_1 rfl rfl dX4_become_1 ?_
  refine lv_iconst (v := (0 : Int32)) hx hb dX4_become_4 (by decide) ?_
  refine lv_aload_n hx hb dX4_become_5 rfl (lv_at hl 0 rfl) ?_
  refine m_get (C := RX4) (T := TX4) (N := 1) (ci := 3) (ref := "LoweredPowers$Operator") (v := .ref (r0 0)) C0 hM 0 rfl rfl kt_X4_become_X4 0 (by decide) kw_X4_become_1 rfl rfl dX4_become_6 ?_
  refine lv_iconst (v := (0 : Int32)) hx hb dX4_become_9 (by decide) ?_
  refine lv_bipush (v := (75 : Int32)) hx hb dX4_become_10 (by decide) ?_
  refine m_copyi (ws' := [(h0, .inr (3, oX4 r0 )), ((r0 0), .inl (cI, 75, .inl (va_cpy A_1_0_numbers A_0_0_numbers ((0 : Int32)).toNatClampNeg ((0 : Int32)).toNatClampNeg ((75 : Int32)).toNatClampNeg))), (h1, .inr (3, oX4 r1 )), ((r1 0), .inl (cI, 75, .inl A_1_0_numbers))]) C0 hM hl.1 kw_X4_become_2 kw_X4_become_3 kw_X4_become_4 kw_X4_become_5 3 1 rfl rfl (by decide) (Nat.le_of_ble_eq_true rfl) (Nat.le_of_ble_eq_true rfl) rfl dX4_become_12 (fun H locs hM => ?_)
  subst hsz; subst hA; subst hQ
  exact m_vret C0 hr hM (va_cpy A_1_0_numbers A_0_0_numbers ((0 : Int32)).toNatClampNeg ((0 : Int32)).toNatClampNeg ((75 : Int32)).toNatClampNeg) h rfl dX4_become_15
abbrev rm_X0_isThere : Room := { frames := 0, cells := 0, slots := 0, locals := 0 }
set_option maxRecDepth 100000 in
set_option maxHeartbeats 4000000 in
theorem ct_X0_isThere (l : Launch) (D : va_G) (cI cJ cZ : ClassId) (h0 : Nat) (r0 : Nat → Nat) (I_0_top : Int32) (sz : Nat) (K : Int32 → Prop) (h : wp_X0_isThere I_0_top K) : Met l yX0_isThere wsX0_isThere rm_X0_isThere (va_Pc [.ref h0] (WX D cI cJ cZ [(h0, .inr (0, oX0 r0 I_0_top))] sz)) (va_Qi (fun (r : Int32) (_ : Unit) => K r ) (fun (_ : Unit) t => WY D (va_A [(h0, .inr (0, oX0 r0 I_0_top))] sz) [(h0, .inr (0, oX0 r0 I_0_top))] t) (va_A [(h0, .inr (0, oX0 r0 I_0_top))] sz)) 0 0 (va_A [(h0, .inr (0, oX0 r0 I_0_top))] sz) := by
  refine m_met (own := RX0) (cc := cX0_isThere) (maxL := 1) (ret := some .boolean) [.ref h0] [(0, .ref h0)] (by decide) rfl rfl (Nat.le_of_ble_eq_true rfl) rfl ?_
  intro p e s m args below meth c Q A hQ hA C0 hr hnm hsz hM ls hl
  have hx := C0.1
  have hb := C0.2.1
  have hown := C0.2.2.2.1
  unfold wp_X0_isThere at h
  refine lv_aload_n hx hb dX0_isThere_0 rfl (lv_at hl 0 rfl) ?_
  refine m_get (C := RX0) (T := TX0) (N := 7) (ci := 0) (ref := "LoweredPowers$Found") (v := .int I_0_top) C0 hM 0 rfl rfl kt_X0_isThere_X0 2 (by decide) kw_X0_isThere_1 rfl rfl dX0_isThere_1 ?_
  refine lv_if_lt (tgt := 11) hx hb dX0_isThere_4 (by decide) (fun hq => ?_) (fun hq => ?_)
  · have h := h.1 hq
    refine lv_iconst (v := (0 : Int32)) hx hb dX0_isThere_11 (by decide) ?_
    subst hsz; subst hA; subst hQ
    exact m_zret C0 hr hM rfl () h rfl dX0_isThere_12
  · have h := h.2 hq
    refine lv_iconst (v := (1 : Int32)) hx hb dX0_isThere_7 (by decide) ?_
    refine lv_goto (tgt := 12) hx hb dX0_isThere_8 (by decide) ?_
    subst hsz; subst hA; subst hQ
    exact m_zret C0 hr hM rfl () h rfl dX0_isThere_12
abbrev rm_X0_become : Room := { frames := 2, cells := 0, slots := 0, locals := 47 }
set_option maxRecDepth 100000 in
set_option maxHeartbeats 4000000 in
theorem ct_X0_become (l : Launch) (D : va_G) (cI cJ cZ : ClassId) (h0 : Nat) (h1 : Nat) (r0 : Nat → Nat) (r0_0 : Nat → Nat) (r1 : Nat → Nat) (r1_0 : Nat → Nat) (I_0_top : Int32) (A_0_0_0_numbers : (Nat → Int32)) (A_0_1_b : (Nat → Int32)) (I_1_top : Int32) (A_1_0_0_numbers : (Nat → Int32)) (A_1_1_b : (Nat → Int32)) (sz : Nat) (K : Int32 → (Nat → Int32) → (Nat → Int32) → Prop) (h : wp_X0_become I_0_top A_0_0_0_numbers A_0_1_b I_1_top A_1_0_0_numbers A_1_1_b K) : Met l yX0_become wsX0_become rm_X0_become (va_Pc [.ref h0, .ref h1] (WX D cI cJ cZ [(h0, .inr (0, oX0 r0 I_0_top)), ((r0 0), .inr (3, oX4 r0_0 )), ((r0_0 0), .inl (cI, 75, .inl A_0_0_0_numbers)), ((r0 1), .inl (cI, 9, .inl A_0_1_b)), (h1, .inr (0, oX0 r1 I_1_top)), ((r1 0), .inr (3, oX4 r1_0 )), ((r1_0 0), .inl (cI, 75, .inl A_1_0_0_numbers)), ((r1 1), .inl (cI, 9, .inl A_1_1_b))] sz)) (va_Qv (fun (u : Int32 × (Nat → Int32) × (Nat → Int32)) => K u.1 u.2.1 u.2.2) (fun (u : Int32 × (Nat → Int32) × (Nat → Int32)) t => WY D (va_A [(h0, .inr (0, oX0 r0 I_0_top)), ((r0 0), .inr (3, oX4 r0_0 )), ((r0_0 0), .inl (cI, 75, .inl A_0_0_0_numbers)), ((r0 1), .inl (cI, 9, .inl A_0_1_b)), (h1, .inr (0, oX0 r1 I_1_top)), ((r1 0), .inr (3, oX4 r1_0 )), ((r1_0 0), .inl (cI, 75, .inl A_1_0_0_numbers)), ((r1 1), .inl (cI, 9, .inl A_1_1_b))] sz) [(h0, .inr (0, oX0 r0 u.1)), ((r0 0), .inr (3, oX4 r0_0 )), ((r0_0 0), .inl (cI, 75, .inl u.2.1)), ((r0 1), .inl (cI, 9, .inl u.2.2)), (h1, .inr (0, oX0 r1 I_1_top)), ((r1 0), .inr (3, oX4 r1_0 )), ((r1_0 0), .inl (cI, 75, .inl A_1_0_0_numbers)), ((r1 1), .inl (cI, 9, .inl A_1_1_b))] t) (va_A [(h0, .inr (0, oX0 r0 I_0_top)), ((r0 0), .inr (3, oX4 r0_0 )), ((r0_0 0), .inl (cI, 75, .inl A_0_0_0_numbers)), ((r0 1), .inl (cI, 9, .inl A_0_1_b)), (h1, .inr (0, oX0 r1 I_1_top)), ((r1 0), .inr (3, oX4 r1_0 )), ((r1_0 0), .inl (cI, 75, .inl A_1_0_0_numbers)), ((r1 1), .inl (cI, 9, .inl A_1_1_b))] sz)) 0 0 (va_A [(h0, .inr (0, oX0 r0 I_0_top)), ((r0 0), .inr (3, oX4 r0_0 )), ((r0_0 0), .inl (cI, 75, .inl A_0_0_0_numbers)), ((r0 1), .inl (cI, 9, .inl A_0_1_b)), (h1, .inr (0, oX0 r1 I_1_top)), ((r1 0), .inr (3, oX4 r1_0 )), ((r1_0 0), .inl (cI, 75, .inl A_1_0_0_numbers)), ((r1 1), .inl (cI, 9, .inl A_1_1_b))] sz) := by
  refine m_met (own := RX0) (cc := cX0_become) (maxL := 2) (ret := none) [.ref h0, .ref h1] [(0, .ref h0), (1, .ref h1)] (by decide) rfl rfl (Nat.le_of_ble_eq_true rfl) rfl ?_
  intro p e s m args below meth c Q A hQ hA C0 hr hnm hsz hM ls hl
  have hx := C0.1
  have hb := C0.2.1
  have hown := C0.2.2.2.1
  unfold wp_X0_become at h
  refine lv_aload_n hx hb dX0_become_0 rfl (lv_at hl 0 rfl) ?_
  refine m_get (C := RX0) (T := TX0) (N := 7) (ci := 0) (ref := "LoweredPowers$Found") (v := .ref (r0 0)) C0 hM 0 rfl rfl kt_X0_become_X0 0 (by decide) kw_X0_become_1 rfl rfl dX0_become_1 ?_
  refine lv_aload_n hx hb dX0_become_4 rfl (lv_at hl 1 rfl) ?_
  refine m_get (C := RX0) (T := TX0) (N := 7) (ci := 0) (ref := "LoweredPowers$Found") (v := .ref (r1 0)) C0 hM 4 rfl rfl kt_X0_become_X0 0 (by decide) kw_X0_become_1 rfl rfl dX0_become_5 ?_
  refine m_callv (wc := [((r0 0), .inr (3, oX4 r0_0 )), ((r0_0 0), .inl (cI, 75, .inl A_0_0_0_numbers)), ((r1 0), .inr (3, oX4 r1_0 )), ((r1_0 0), .inl (cI, 75, .inl A_1_0_0_numbers))]) C0 hM [1, 2, 5, 6] rfl (m_runV (wc := [((r0 0), .inr (3, oX4 r0_0 )), ((r0_0 0), .inl (cI, 75, .inl A_0_0_0_numbers)), ((r1 0), .inr (3, oX4 r1_0 )), ((r1_0 0), .inl (cI, 75, .inl A_1_0_0_numbers))]) (As := [.ref (r1 0)]) (rest := []) (ci := 3) C0 hM (ct_X4_become l D cI cJ cZ (r0 0) (r1 0) r0_0 r1_0 A_0_0_0_numbers A_1_0_0_numbers H.size _ h) [1, 2, 5, 6] rfl (by decide) gX0_become_X4_become rfl rfl rfl rfl rfl hd_X4_become ⟨Nat.le_of_ble_eq_true rfl, Nat.le_of_ble_eq_true rfl⟩ rfl hl.1 rfl (Nat.le_of_ble_eq_true rfl) dX0_become_8 ⟨Nat.le_of_ble_eq_true rfl, Nat.le_of_ble_eq_true rfl⟩) (fun u => [(h0, .inr (0, oX0 r0 I_0_top)), ((r0 0), .inr (3, oX4 r0_0 )), ((r0_0 0), .inl (cI, 75, .inl u)), ((r0 1), .inl (cI, 9, .inl A_0_1_b)), (h1, .inr (0, oX0 r1 I_1_top)), ((r1 0), .inr (3, oX4 r1_0 )), ((r1_0 0), .inl (cI, 75, .inl A_1_0_0_numbers)), ((r1 1), .inl (cI, 9, .inl A_1_1_b))]) (fun _ => rfl) (fun _ => rfl) (fun b1 H locs h hM => ?_)
  refine lv_aload_n hx hb dX0_become_11 rfl (lv_at hl 1 rfl) ?_
  refine m_get (C := RX0) (T := TX0) (N := 7) (ci := 0) (ref := "LoweredPowers$Found") (v := .ref (r1 1)) C0 hM 4 rfl rfl kt_X0_become_X0 1 (by decide) kw_X0_become_2 rfl rfl dX0_become_12 ?_
  refine lv_iconst (v := (0 : Int32)) hx hb dX0_become_15 (by decide) ?_
  refine lv_aload_n hx hb dX0_become_16 rfl (lv_at hl 0 rfl) ?_
  refine m_get (C := RX0) (T := TX0) (N := 7) (ci := 0) (ref := "LoweredPowers$Found") (v := .ref (r0 1)) C0 hM 0 rfl rfl kt_X0_become_X0 1 (by decide) kw_X0_become_2 rfl rfl dX0_become_17 ?_
  refine lv_iconst (v := (0 : Int32)) hx hb dX0_become_20 (by decide) ?_
  refine lv_bipush (v := (9 : Int32)) hx hb dX0_become_21 (by decide) ?_
  refine m_copyi (ws' := [(h0, .inr (0, oX0 r0 I_0_top)), ((r0 0), .inr (3, oX4 r0_0 )), ((r0_0 0), .inl (cI, 75, .inl b1)), ((r0 1), .inl (cI, 9, .inl (va_cpy A_1_1_b A_0_1_b ((0 : Int32)).toNatClampNeg ((0 : Int32)).toNatClampNeg ((9 : Int32)).toNatClampNeg))), (h1, .inr (0, oX0 r1 I_1_top)), ((r1 0), .inr (3, oX4 r1_0 )), ((r1_0 0), .inl (cI, 75, .inl A_1_0_0_numbers)), ((r1 1), .inl (cI, 9, .inl A_1_1_b))]) C0 hM hl.1 kw_X0_become_3 kw_X0_become_4 kw_X0_become_5 kw_X0_become_6 7 3 rfl rfl (by decide) (Nat.le_of_ble_eq_true rfl) (Nat.le_of_ble_eq_true rfl) rfl dX0_become_23 (fun H locs hM => ?_)
  refine lv_aload_n hx hb dX0_become_26 rfl (lv_at hl 0 rfl) ?_
  refine lv_aload_n hx hb dX0_become_27 rfl (lv_at hl 1 rfl) ?_
  refine m_get (C := RX0) (T := TX0) (N := 7) (ci := 0) (ref := "LoweredPowers$Found") (v := .int I_1_top) C0 hM 4 rfl rfl kt_X0_become_X0 2 (by decide) kw_X0_become_7 rfl rfl dX0_become_28 ?_
  refine m_put (ws' := [(h0, .inr (0, oX0 r0 I_1_top)), ((r0 0), .inr (3, oX4 r0_0 )), ((r0_0 0), .inl (cI, 75, .inl b1)), ((r0 1), .inl (cI, 9, .inl (va_cpy A_1_1_b A_0_1_b ((0 : Int32)).toNatClampNeg ((0 : Int32)).toNatClampNeg ((9 : Int32)).toNatClampNeg))), (h1, .inr (0, oX0 r1 I_1_top)), ((r1 0), .inr (3, oX4 r1_0 )), ((r1_0 0), .inl (cI, 75, .inl A_1_0_0_numbers)), ((r1 1), .inl (cI, 9, .inl A_1_1_b))]) (C := RX0) (T := TX0) (N := 7) (ci := 0) (ref := "LoweredPowers$Found") (v := .int I_1_top) C0 hM 0 rfl rfl kt_X0_become_X0 tyX0 tyX0_ok nmX0 2 (by decide) kw_X0_become_7 rfl rfl rfl rfl (Nat.le_of_ble_eq_true rfl) rfl dX0_become_31 (fun H locs hM => ?_)
  subst hsz; subst hA; subst hQ
  exact m_vret C0 hr hM (I_1_top, b1, (va_cpy A_1_1_b A_0_1_b ((0 : Int32)).toNatClampNeg ((0 : Int32)).toNatClampNeg ((9 : Int32)).toNatClampNeg)) h rfl dX0_become_34
abbrev rm_X11_set : Room := { frames := 1, cells := 0, slots := 0, locals := 22 }
set_option maxRecDepth 100000 in
set_option maxHeartbeats 4000000 in
theorem ct_X11_set (l : Launch) (D : va_G) (cI cJ cZ : ClassId) (h0 : Nat) (r0 : Nat → Nat) (r0_0 : Nat → Nat) (I_0_imaged : Int32) (A_0_0_0_f : (Nat → Int32)) (x1 : Int32) (x2 : Int32) (sz : Nat) (K : Int32 → (Nat → Int32) → Prop) (h : wp_X11_set x1 x2 A_0_0_0_f K) : Met l yX11_set wsX11_set rm_X11_set (va_Pc [.ref h0, .int x1, .int x2] (WX D cI cJ cZ [(h0, .inr (10, oX11 r0 I_0_imaged)), ((r0 0), .inr (8, oX9 r0_0 )), ((r0_0 0), .inl (cI, 5, .inl A_0_0_0_f))] sz)) (va_Qi (fun (r : Int32) (u : (Nat → Int32)) => K r u) (fun (u : (Nat → Int32)) t => WY D (va_A [(h0, .inr (10, oX11 r0 I_0_imaged)), ((r0 0), .inr (8, oX9 r0_0 )), ((r0_0 0), .inl (cI, 5, .inl A_0_0_0_f))] sz) [(h0, .inr (10, oX11 r0 I_0_imaged)), ((r0 0), .inr (8, oX9 r0_0 )), ((r0_0 0), .inl (cI, 5, .inl u))] t) (va_A [(h0, .inr (10, oX11 r0 I_0_imaged)), ((r0 0), .inr (8, oX9 r0_0 )), ((r0_0 0), .inl (cI, 5, .inl A_0_0_0_f))] sz)) 0 0 (va_A [(h0, .inr (10, oX11 r0 I_0_imaged)), ((r0 0), .inr (8, oX9 r0_0 )), ((r0_0 0), .inl (cI, 5, .inl A_0_0_0_f))] sz) := by
  refine m_met (own := RX11) (cc := cX11_set) (maxL := 4) (ret := some .int) [.ref h0, .int x1, .int x2] [(0, .ref h0), (1, .int x1), (2, .int x2)] (by decide) rfl rfl (Nat.le_of_ble_eq_true rfl) rfl ?_
  intro p e s m args below meth c Q A hQ hA C0 hr hnm hsz hM ls hl
  have hx := C0.1
  have hb := C0.2.1
  have hown := C0.2.2.2.1
  unfold wp_X11_set at h
  refine lv_iload_n hx hb dX11_set_0 rfl (lv_at hl 1 rfl) ?_
  refine lv_iconst (v := (0 : Int32)) hx hb dX11_set_1 (by decide) ?_
  refine lv_iconst (v := (4 : Int32)) hx hb dX11_set_2 (by decide) ?_
  refine m_calli (wc := []) C0 hM [] rfl (m_runS (wc := []) (As := [.int x1, .int (0 : Int32), .int (4 : Int32)]) (rest := []) C0 hM (ct_X11_within l D cI cJ cZ x1 (0 : Int32) (4 : Int32) H.size _ h) [] rfl (by decide) gX11_set_X11_within rfl rfl rfl hd_X11_within ⟨Nat.le_of_ble_eq_true rfl, Nat.le_of_ble_eq_true rfl⟩ rfl hl.1 rfl (Nat.le_of_ble_eq_true rfl) dX11_set_3 ⟨Nat.le_of_ble_eq_true rfl, Nat.le_of_ble_eq_true rfl⟩) (fun _ => [(h0, .inr (10, oX11 r0 I_0_imaged)), ((r0 0), .inr (8, oX9 r0_0 )), ((r0_0 0), .inl (cI, 5, .inl A_0_0_0_f))]) (fun _ => rfl) (fun _ => rfl) (fun y1 _ H locs h hM => ?_)
  refine lv_if_ne (tgt := 11) hx hb dX11_set_6 (by decide) (fun hq => ?_) (fun hq => ?_)
  · have h := h.1 hq
    refine lv_iload_n hx hb dX11_set_11 rfl (lv_at hl 2 rfl) ?_
    refine lv_sipush (v := (-5003 : Int32)) hx hb dX11_set_12 (by decide) ?_
    refine lv_sipush (v := (5003 : Int32)) hx hb dX11_set_15 (by decide) ?_
    refine m_calli (wc := []) C0 hM [] rfl (m_runS (wc := []) (As := [.int x2, .int (-5003 : Int32), .int (5003 : Int32)]) (rest := []) C0 hM (ct_X11_within l D cI cJ cZ x2 (-5003 : Int32) (5003 : Int32) H.size _ h) [] rfl (by decide) gX11_set_X11_within rfl rfl rfl hd_X11_within ⟨Nat.le_of_ble_eq_true rfl, Nat.le_of_ble_eq_true rfl⟩ rfl hl.1 rfl (Nat.le_of_ble_eq_true rfl) dX11_set_18 ⟨Nat.le_of_ble_eq_true rfl, Nat.le_of_ble_eq_true rfl⟩) (fun _ => [(h0, .inr (10, oX11 r0 I_0_imaged)), ((r0 0), .inr (8, oX9 r0_0 )), ((r0_0 0), .inl (cI, 5, .inl A_0_0_0_f))]) (fun _ => rfl) (fun _ => rfl) (fun y2 _ H locs h hM => ?_)
    refine lv_if_ne (tgt := 27) hx hb dX11_set_21 (by decide) (fun hq => ?_) (fun hq => ?_)
    · have h := h.1 hq
      refine lv_aload_n hx hb dX11_set_27 rfl (lv_at hl 0 rfl) ?_
      refine m_get (C := RX11) (T := TX11) (N := 12) (ci := 10) (ref := "LoweredPowers") (v := .ref (r0 0)) C0 hM 0 rfl rfl kt_X11_set_X11 0 (by decide) kw_X11_set_1 rfl rfl dX11_set_28 ?_
      refine m_get (C := RX9) (T := TX9) (N := 4) (ci := 8) (ref := "LoweredPowers$State") (v := .ref (r0_0 0)) C0 hM 1 rfl rfl kt_X11_set_X9 0 (by decide) kw_X11_set_2 rfl rfl dX11_set_31 ?_
      refine lv_iload_n hx hb dX11_set_34 rfl (lv_at hl 1 rfl) ?_
      obtain ⟨hc3, h⟩ := h
      refine m_iald C0 hM 2 rfl hc3 dX11_set_35 ?_
      refine lv_topi (fun y4 ey4 => ?_)
      have h := h y4 ey4
      refine lv_istore_n (lv' := [(3, .int y4), (0, .ref h0), (1, .int x1), (2, .int x2)]) hx hb dX11_set_36 rfl hl (by decide) rfl (fun ls hl => ?_)
      refine lv_aload_n hx hb dX11_set_37 rfl (lv_at hl 1 rfl) ?_
      refine m_get (C := RX11) (T := TX11) (N := 12) (ci := 10) (ref := "LoweredPowers") (v := .ref (r0 0)) C0 hM 0 rfl rfl kt_X11_set_X11 0 (by decide) kw_X11_set_1 rfl rfl dX11_set_38 ?_
      refine m_get (C := RX9) (T := TX9) (N := 4) (ci := 8) (ref := "LoweredPowers$State") (v := .ref (r0_0 0)) C0 hM 1 rfl rfl kt_X11_set_X9 0 (by decide) kw_X11_set_2 rfl rfl dX11_set_41 ?_
      refine lv_iload_n hx hb dX11_set_44 rfl (lv_at hl 2 rfl) ?_
      refine lv_iload_n hx hb dX11_set_45 rfl (lv_at hl 3 rfl) ?_
      refine m_iast (ws' := [(h0, .inr (10, oX11 r0 I_0_imaged)), ((r0 0), .inr (8, oX9 r0_0 )), ((r0_0 0), .inl (cI, 5, .inl (upd A_0_0_0_f (x1).toNatClampNeg x2)))]) C0 hM 2 rfl hc3 rfl dX11_set_46 (fun H locs hM => ?_)
      refine lv_ldc (v := (100000 : Int32)) hx hb hown (C0.2.2.2.2.1 _ kw_X11_set_3) dX11_set_47 ?_
      refine lv_iload_n hx hb dX11_set_49 rfl (lv_at hl 0 rfl) ?_
      refine lv_iadd hx hb dX11_set_50 ?_
      subst hsz; subst hA; subst hQ
      exact m_iret C0 hr hM (upd A_0_0_0_f (x1).toNatClampNeg x2) h rfl dX11_set_51
    · have h := h.2 hq
      refine lv_bipush (v := (-2 : Int32)) hx hb dX11_set_24 (by decide) ?_
      subst hsz; subst hA; subst hQ
      exact m_iret C0 hr hM A_0_0_0_f h rfl dX11_set_26
  · have h := h.2 hq
    refine lv_iconst (v := (-1 : Int32)) hx hb dX11_set_9 (by decide) ?_
    subst hsz; subst hA; subst hQ
    exact m_iret C0 hr hM A_0_0_0_f h rfl dX11_set_10
