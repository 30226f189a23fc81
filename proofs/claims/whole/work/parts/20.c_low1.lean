theorem hd_X2_wholeIs : yX2_wholeIs.cls = RX2 ∧ yX2_wholeIs.cls ≠ "java/lang/invoke/MethodHandle" ∧ yX2_wholeIs.cls ≠ "java/lang/invoke/VarHandle" ∧ (parseMethodDescriptor yX2_wholeIs.desc).map (fun d => d.parameters.length) = some 3 := by decide +kernel
theorem kt_X2_wholeIs_X2 : ∀ w ∈ u_ws RX2 TX2 6, w ∈ wsX2_wholeIs := fun _ h => List.mem_cons_of_mem _ (List.mem_append_right _ (h))
theorem kw_X2_wholeIs_2 : Cond.fieldLink RX2 18 "LoweredPowers$Lowering" "whole" "[I" ∈ wsX2_wholeIs := List.mem_of_getElem? (i := 2) rfl
theorem kw_X2_wholeIs_1 : Cond.fieldLink RX2 27 "LoweredPowers$Lowering" "power" "[I" ∈ wsX2_wholeIs := List.mem_of_getElem? (i := 1) rfl
abbrev rm_X2_wholeIs : Room := { frames := 3, cells := 0, slots := 0, locals := 70 }
set_option maxRecDepth 100000 in
set_option maxHeartbeats 4000000 in
theorem ct_X2_wholeIs (l : Launch) (D : va_G) (cI cJ cZ : ClassId) (h0 : Nat) (h2 : Nat) (r0 : Nat → Nat) (A_0_2_whole : (Nat → Int32)) (A_0_5_power : (Nat → Int32)) (A2 : (Nat → Int32)) (x1 : Int32) (x3 : Int32) (sz : Nat) (K : Int32 → (Nat → Int32) → Prop) (h : wp_X2_wholeIs x1 x3 A_0_2_whole A_0_5_power A2 K) : Met l yX2_wholeIs wsX2_wholeIs rm_X2_wholeIs (va_Pc [.ref h0, .int x1, .ref h2, .int x3] (WX D cI cJ cZ [(h0, .inr (2, oX2 r0 )), ((r0 2), .inl (cI, 21, .inl A_0_2_whole)), ((r0 5), .inl (cI, 25, .inl A_0_5_power)), (h2, .inl (cI, 5, .inl A2))] sz)) (va_Qi (fun (r : Int32) (u : (Nat → Int32)) => K r u) (fun (u : (Nat → Int32)) t => WY D (va_A [(h0, .inr (2, oX2 r0 )), ((r0 2), .inl (cI, 21, .inl A_0_2_whole)), ((r0 5), .inl (cI, 25, .inl A_0_5_power)), (h2, .inl (cI, 5, .inl A2))] sz) [(h0, .inr (2, oX2 r0 )), ((r0 2), .inl (cI, 21, .inl A_0_2_whole)), ((r0 5), .inl (cI, 25, .inl u)), (h2, .inl (cI, 5, .inl A2))] t) (va_A [(h0, .inr (2, oX2 r0 )), ((r0 2), .inl (cI, 21, .inl A_0_2_whole)), ((r0 5), .inl (cI, 25, .inl A_0_5_power)), (h2, .inl (cI, 5, .inl A2))] sz)) 0 0 (va_A [(h0, .inr (2, oX2 r0 )), ((r0 2), .inl (cI, 21, .inl A_0_2_whole)), ((r0 5), .inl (cI, 25, .inl A_0_5_power)), (h2, .inl (cI, 5, .inl A2))] sz) := by
  refine m_met (own := RX2) (cc := cX2_wholeIs) (maxL := 5) (ret := some .boolean) [.ref h0, .int x1, .ref h2, .int x3] [(0, .ref h0), (1, .int x1), (2, .ref h2), (3, .int x3)] (by decide) rfl rfl (Nat.le_of_ble_eq_true rfl) rfl ?_
  intro p e s m args below meth c Q A hQ hA C0 hr hnm hsz hM ls hl
  have hx := C0.1
  have hb := C0.2.1
  have hown := C0.2.2.2.1
  have lq12 : ∀ (k12 : Nat) (x4 : Int32) (A_0_5_power : (Nat → Int32)) (H : Heap) (locs : List Loc) (ls : Array Slot) , lp_X2_wholeIs_12 x1 x3 A_0_2_whole A2 K k12 x4 A_0_5_power → MW D A s.heap [(h0, .inr (2, oX2 r0 )), ((r0 2), .inl (cI, 21, .inl A_0_2_whole)), ((r0 5), .inl (cI, 25, .inl A_0_5_power)), (h2, .inl (cI, 5, .inl A2))] H locs → lv_has ls 5 [(0, .ref h0), (1, .int x1), (4, .int x4)] → W p l e rm_X2_wholeIs s m args below meth c H locs 0 0 Q (F0 m 12 ls []) := by
    intro k12
    induction k12 with
    | zero =>
      intro x4 A_0_5_power H locs ls h
      unfold lp_X2_wholeIs_12 at h
      exact h.elim
    | succ k12 ih12 =>
      intro x4 A_0_5_power H locs ls h hM hl
      unfold lp_X2_wholeIs_12 at h
      refine lv_iload hx hb dX2_wholeIs_12 (lv_at hl 2 rfl) ?_
      refine lv_bipush (v := (20 : Int32)) hx hb dX2_wholeIs_14 (by decide) ?_
      refine lv_icmp_gt (tgt := 51) hx hb dX2_wholeIs_16 (by decide) (fun hq => ?_) (fun hq => ?_)
      · have h := h.1 hq
        refine lv_iconst (v := (1 : Int32)) hx hb dX2_wholeIs_51 (by decide) ?_
        subst hsz; subst hA; subst hQ
        exact m_zret C0 hr hM rfl A_0_5_power h rfl dX2_wholeIs_52
      · have h := h.2 hq
        refine lv_aload_n hx hb dX2_wholeIs_19 rfl (lv_at hl 0 rfl) ?_
        refine m_get (C := RX2) (T := TX2) (N := 6) (ci := 2) (ref := "LoweredPowers$Lowering") (v := .ref (r0 2)) C0 hM 0 rfl rfl kt_X2_wholeIs_X2 2 (by decide) kw_X2_wholeIs_2 rfl rfl dX2_wholeIs_20 ?_
        refine lv_iload hx hb dX2_wholeIs_23 (lv_at hl 2 rfl) ?_
        obtain ⟨hc1, h⟩ := h
        refine m_iald C0 hM 1 rfl hc1 dX2_wholeIs_25 ?_
        refine lv_iload_n hx hb dX2_wholeIs_26 rfl (lv_at hl 1 rfl) ?_
        refine lv_i2l hx hb dX2_wholeIs_27 rfl ?_
        refine lv_aload_n hx hb dX2_wholeIs_28 rfl (lv_at hl 0 rfl) ?_
        refine m_get (C := RX2) (T := TX2) (N := 6) (ci := 2) (ref := "LoweredPowers$Lowering") (v := .ref (r0 5)) C0 hM 0 rfl rfl kt_X2_wholeIs_X2 5 (by decide) kw_X2_wholeIs_1 rfl rfl dX2_wholeIs_29 ?_
        refine lv_iload hx hb dX2_wholeIs_32 (lv_at hl 2 rfl) ?_
        obtain ⟨hc2, h⟩ := h
        refine m_iald C0 hM 2 rfl hc2 dX2_wholeIs_34 ?_
        refine lv_i2l hx hb dX2_wholeIs_35 rfl ?_
        refine lv_lmul hx hb dX2_wholeIs_36 ?_
        refine m_calli (wc := []) C0 hM [] rfl (m_runS (wc := []) (As := [.long ((x1.toInt64) * ((A_0_5_power (x4).toNatClampNeg).toInt64))]) (rest := [.int (A_0_2_whole (x4).toNatClampNeg)]) C0 hM (ct_X3_fold l D cI cJ cZ ((x1.toInt64) * ((A_0_5_power (x4).toNatClampNeg).toInt64)) _ _ h) [] rfl (by decide) gX2_wholeIs_X3_fold rfl rfl rfl hd_X3_fold ⟨Nat.le_of_ble_eq_true rfl, Nat.le_of_ble_eq_true rfl⟩ rfl hl.1 rfl (Nat.le_of_ble_eq_true rfl) dX2_wholeIs_37 ⟨Nat.le_of_ble_eq_true rfl, Nat.le_of_ble_eq_true rfl⟩) (fun _ => [(h0, .inr (2, oX2 r0 )), ((r0 2), .inl (cI, 21, .inl A_0_2_whole)), ((r0 5), .inl (cI, 25, .inl A_0_5_power)), (h2, .inl (cI, 5, .inl A2))]) (fun _ => rfl) (fun _ => rfl) (fun y3 _ H locs h hM => ?_)
        refine lv_icmp_eq (tgt := 45) hx hb dX2_wholeIs_40 (by decide) (fun hq => ?_) (fun hq => ?_)
        · have h := h.1 hq
          refine lv_iinc (v := (x4 + (1 : Int32))) (lv' := [(4, .int (x4 + (1 : Int32))), (0, .ref h0), (1, .int x1)]) hx hb dX2_wholeIs_45 hl (k := 2) rfl rfl (by decide) rfl (fun ls hl => ?_)
          refine lv_goto (tgt := 12) hx hb dX2_wholeIs_48 (by decide) ?_
          exact ih12 _ _ _ _ _ h hM (lv_sub hl [1, 2, 0] rfl)
        · have h := h.2 hq
          refine lv_iconst (v := (0 : Int32)) hx hb dX2_wholeIs_43 (by decide) ?_
          subst hsz; subst hA; subst hQ
          exact m_zret C0 hr hM rfl A_0_5_power h rfl dX2_wholeIs_44
  unfold wp_X2_wholeIs at h
  refine lv_aload_n hx hb dX2_wholeIs_0 rfl (lv_at hl 0 rfl) ?_
  refine m_get (C := RX2) (T := TX2) (N := 6) (ci := 2) (ref := "LoweredPowers$Lowering") (v := .ref (r0 5)) C0 hM 0 rfl rfl kt_X2_wholeIs_X2 5 (by decide) kw_X2_wholeIs_1 rfl rfl dX2_wholeIs_1 ?_
  refine lv_aload_n hx hb dX2_wholeIs_4 rfl (lv_at hl 2 rfl) ?_
  refine lv_iload_n hx hb dX2_wholeIs_5 rfl (lv_at hl 3 rfl) ?_
  refine m_callv (wc := [((r0 5), .inl (cI, 25, .inl A_0_5_power)), (h2, .inl (cI, 5, .inl A2))]) C0 hM [2, 3] rfl (m_runS (wc := [((r0 5), .inl (cI, 25, .inl A_0_5_power)), (h2, .inl (cI, 5, .inl A2))]) (As := [.ref (r0 5), .ref h2, .int x3]) (rest := []) C0 hM (ct_X3_raise l D cI cJ cZ (r0 5) h2 A_0_5_power A2 x3 _ _ h) [2, 3] rfl (by decide) gX2_wholeIs_X3_raise rfl rfl rfl hd_X3_raise ⟨Nat.le_of_ble_eq_true rfl, Nat.le_of_ble_eq_true rfl⟩ rfl hl.1 rfl (Nat.le_of_ble_eq_true rfl) dX2_wholeIs_6 ⟨Nat.le_of_ble_eq_true rfl, Nat.le_of_ble_eq_true rfl⟩) (fun u => [(h0, .inr (2, oX2 r0 )), ((r0 2), .inl (cI, 21, .inl A_0_2_whole)), ((r0 5), .inl (cI, 25, .inl u)), (h2, .inl (cI, 5, .inl A2))]) (fun _ => rfl) (fun _ => rfl) (fun b4 H locs h hM => ?_)
  refine lv_iconst (v := (0 : Int32)) hx hb dX2_wholeIs_9 (by decide) ?_
  refine lv_istore (lv' := [(4, .int (0 : Int32)), (0, .ref h0), (1, .int x1), (2, .ref h2), (3, .int x3)]) hx hb dX2_wholeIs_10 hl (by decide) rfl (fun ls hl => ?_)
  obtain ⟨k0, h⟩ := h
  exact lq12 k0 _ _ _ _ _ h hM (lv_sub hl [1, 2, 0] rfl)
