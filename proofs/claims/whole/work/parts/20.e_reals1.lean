theorem hd_X7_plusLesser : yX7_plusLesser.cls = RX7 ∧ yX7_plusLesser.cls ≠ "java/lang/invoke/MethodHandle" ∧ yX7_plusLesser.cls ≠ "java/lang/invoke/VarHandle" ∧ (parseMethodDescriptor yX7_plusLesser.desc).map (fun d => d.parameters.length) = some 4 := by decide +kernel
theorem hd_X7_plus : yX7_plus.cls = RX7 ∧ yX7_plus.cls ≠ "java/lang/invoke/MethodHandle" ∧ yX7_plus.cls ≠ "java/lang/invoke/VarHandle" ∧ (parseMethodDescriptor yX7_plus.desc).map (fun d => d.parameters.length) = some 2 := by decide +kernel
theorem hd_X7_atPoint : yX7_atPoint.cls = RX7 ∧ yX7_atPoint.cls ≠ "java/lang/invoke/MethodHandle" ∧ yX7_atPoint.cls ≠ "java/lang/invoke/VarHandle" ∧ (parseMethodDescriptor yX7_atPoint.desc).map (fun d => d.parameters.length) = some 2 := by decide +kernel
theorem hd_X7_risingAt : yX7_risingAt.cls = RX7 ∧ yX7_risingAt.cls ≠ "java/lang/invoke/MethodHandle" ∧ yX7_risingAt.cls ≠ "java/lang/invoke/VarHandle" ∧ (parseMethodDescriptor yX7_risingAt.desc).map (fun d => d.parameters.length) = some 2 := by decide +kernel
theorem hd_X7_shortQuotient : yX7_shortQuotient.cls = RX7 ∧ yX7_shortQuotient.cls ≠ "java/lang/invoke/MethodHandle" ∧ yX7_shortQuotient.cls ≠ "java/lang/invoke/VarHandle" ∧ (parseMethodDescriptor yX7_shortQuotient.desc).map (fun d => d.parameters.length) = some 2 := by decide +kernel
theorem hd_X7_towardsNought : yX7_towardsNought.cls = RX7 ∧ yX7_towardsNought.cls ≠ "java/lang/invoke/MethodHandle" ∧ yX7_towardsNought.cls ≠ "java/lang/invoke/VarHandle" ∧ (parseMethodDescriptor yX7_towardsNought.desc).map (fun d => d.parameters.length) = some 3 := by decide +kernel
theorem hd_X7_cutToInt : yX7_cutToInt.cls = RX7 ∧ yX7_cutToInt.cls ≠ "java/lang/invoke/MethodHandle" ∧ yX7_cutToInt.cls ≠ "java/lang/invoke/VarHandle" ∧ (parseMethodDescriptor yX7_cutToInt.desc).map (fun d => d.parameters.length) = some 1 := by decide +kernel
theorem hd_X7_likeOther : yX7_likeOther.cls = RX7 ∧ yX7_likeOther.cls ≠ "java/lang/invoke/MethodHandle" ∧ yX7_likeOther.cls ≠ "java/lang/invoke/VarHandle" ∧ (parseMethodDescriptor yX7_likeOther.desc).map (fun d => d.parameters.length) = some 2 := by decide +kernel
theorem kt_X7_cutToInt_X7 : ∀ w ∈ u_ws RX7 TX7 6, w ∈ wsX7_cutToInt := fun _ h => List.mem_cons_of_mem _ (List.mem_append_right _ (h))
theorem kt_X7_likeOther_X7 : ∀ w ∈ u_ws RX7 TX7 6, w ∈ wsX7_likeOther := fun _ h => List.mem_cons_of_mem _ (List.mem_append_right _ (h))
theorem kt_X7_plusLesser_X7 : ∀ w ∈ u_ws RX7 TX7 6, w ∈ wsX7_plusLesser := fun _ h => List.mem_cons_of_mem _ (List.mem_append_right _ (h))
theorem kt_X7_shortQuotient_X7 : ∀ w ∈ u_ws RX7 TX7 6, w ∈ wsX7_shortQuotient := fun _ h => List.mem_cons_of_mem _ (List.mem_append_right _ (h))
theorem kt_X7_towardsNought_X7 : ∀ w ∈ u_ws RX7 TX7 6, w ∈ wsX7_towardsNought := fun _ h => List.mem_cons_of_mem _ (List.mem_append_right _ (h))
theorem kw_X7_plusLesser_1 : Cond.fieldLink RX7 21 "LoweredPowers$Reals" "signBit" "J" ∈ wsX7_plusLesser := List.mem_of_getElem? (i := 1) rfl
theorem kw_X7_plusLesser_2 : Cond.fieldLink RX7 25 "LoweredPowers$Reals" "infinite" "J" ∈ wsX7_plusLesser := List.mem_of_getElem? (i := 2) rfl
theorem kw_X7_plusLesser_3 : Cond.fieldLink RX7 28 "LoweredPowers$Reals" "nan" "J" ∈ wsX7_plusLesser := List.mem_of_getElem? (i := 3) rfl
theorem kw_X7_shortQuotient_2 : Cond.fieldLink RX7 25 "LoweredPowers$Reals" "infinite" "J" ∈ wsX7_shortQuotient := List.mem_of_getElem? (i := 2) rfl
theorem kw_X7_shortQuotient_3 : Cond.fieldLink RX7 28 "LoweredPowers$Reals" "nan" "J" ∈ wsX7_shortQuotient := List.mem_of_getElem? (i := 3) rfl
theorem kw_X7_shortQuotient_1 : Cond.fieldLink RX7 21 "LoweredPowers$Reals" "signBit" "J" ∈ wsX7_shortQuotient := List.mem_of_getElem? (i := 1) rfl
theorem kw_X7_towardsNought_3 : Cond.fieldLink RX7 21 "LoweredPowers$Reals" "signBit" "J" ∈ wsX7_towardsNought := List.mem_of_getElem? (i := 3) rfl
theorem kw_X7_towardsNought_1 : Cond.fieldLink RX7 25 "LoweredPowers$Reals" "infinite" "J" ∈ wsX7_towardsNought := List.mem_of_getElem? (i := 1) rfl
theorem kw_X7_towardsNought_2 : Cond.fieldLink RX7 28 "LoweredPowers$Reals" "nan" "J" ∈ wsX7_towardsNought := List.mem_of_getElem? (i := 2) rfl
theorem kw_X7_cutToInt_4 : Cond.constant RX7 63 (2147483647) ∈ wsX7_cutToInt := List.mem_of_getElem? (i := 4) rfl
theorem kw_X7_cutToInt_3 : Cond.constant RX7 62 (-2147483648) ∈ wsX7_cutToInt := List.mem_of_getElem? (i := 3) rfl
theorem kw_X7_cutToInt_1 : Cond.fieldLink RX7 25 "LoweredPowers$Reals" "infinite" "J" ∈ wsX7_cutToInt := List.mem_of_getElem? (i := 1) rfl
theorem kw_X7_cutToInt_2 : Cond.fieldLink RX7 21 "LoweredPowers$Reals" "signBit" "J" ∈ wsX7_cutToInt := List.mem_of_getElem? (i := 2) rfl
theorem kw_X7_likeOther_1 : Cond.fieldLink RX7 25 "LoweredPowers$Reals" "infinite" "J" ∈ wsX7_likeOther := List.mem_of_getElem? (i := 1) rfl
theorem kw_X7_likeOther_3 : Cond.fieldLink RX7 21 "LoweredPowers$Reals" "signBit" "J" ∈ wsX7_likeOther := List.mem_of_getElem? (i := 3) rfl
theorem kw_X7_likeOther_2 : Cond.fieldLink RX7 28 "LoweredPowers$Reals" "nan" "J" ∈ wsX7_likeOther := List.mem_of_getElem? (i := 2) rfl
abbrev rm_X7_plusLesser : Room := { frames := 2, cells := 0, slots := 0, locals := 48 }
set_option maxRecDepth 100000 in
set_option maxHeartbeats 4000000 in
theorem ct_X7_plusLesser (l : Launch) (D : va_G) (cI cJ cZ : ClassId) (h0 : Nat) (r0 : Nat → Nat) (I_0_fraction : Int32) (I_0_bias : Int32) (I_0_most : Int32) (I_0_signBit : Int64) (I_0_infinite : Int64) (I_0_nan : Int64) (x1 : Int64) (x3 : Int64) (x5 : Int64) (x7 : Int64) (sz : Nat) (K : Int64 → Prop) (h : wp_X7_plusLesser x1 x3 x5 x7 I_0_fraction I_0_bias I_0_most I_0_signBit I_0_infinite I_0_nan K) : Met l yX7_plusLesser wsX7_plusLesser rm_X7_plusLesser (va_Pc [.ref h0, .long x1, .long x3, .long x5, .long x7] (WX D cI cJ cZ [(h0, .inr (6, oX7 r0 I_0_fraction I_0_bias I_0_most I_0_signBit I_0_infinite I_0_nan))] sz)) (va_Ql (fun (r : Int64) (_ : Unit) => K r ) (fun (_ : Unit) t => WY D (va_A [(h0, .inr (6, oX7 r0 I_0_fraction I_0_bias I_0_most I_0_signBit I_0_infinite I_0_nan))] sz) [(h0, .inr (6, oX7 r0 I_0_fraction I_0_bias I_0_most I_0_signBit I_0_infinite I_0_nan))] t) (va_A [(h0, .inr (6, oX7 r0 I_0_fraction I_0_bias I_0_most I_0_signBit I_0_infinite I_0_nan))] sz)) 0 0 (va_A [(h0, .inr (6, oX7 r0 I_0_fraction I_0_bias I_0_most I_0_signBit I_0_infinite I_0_nan))] sz) := by
  refine m_met (own := RX7) (cc := cX7_plusLesser) (maxL := 18) (ret := some .long) [.ref h0, .long x1, .long x3, .long x5, .long x7] [(0, .ref h0), (1, .long x1), (3, .long x3), (5, .long x5), (7, .long x7)] (by decide) rfl rfl (Nat.le_of_ble_eq_true rfl) rfl ?_
  intro p e s m args below meth c Q A hQ hA C0 hr hnm hsz hM ls hl
  have hx := C0.1
  have hb := C0.2.1
  have hown := C0.2.2.2.1
  have jq155 : ∀ (x10 : Int32) (s0 : Int64) (H : Heap) (locs : List Loc) (ls : Array Slot) , jn_X7_plusLesser_155 x1 x3 x5 x7 I_0_fraction I_0_bias I_0_most I_0_signBit I_0_infinite I_0_nan K x10 s0 → MW D A s.heap [(h0, .inr (6, oX7 r0 I_0_fraction I_0_bias I_0_most I_0_signBit I_0_infinite I_0_nan))] H locs → lv_has ls 18 [(0, .ref h0), (1, .long x1), (10, .int x10)] → W p l e rm_X7_plusLesser s m args below meth c H locs 0 0 Q (F0 m 155 ls [.long s0]) := by
    intro x10 s0 H locs ls h hM hl
    unfold jn_X7_plusLesser_155 at h
    refine lv_lstore (lv' := [(15, .long s0), (0, .ref h0), (1, .long x1), (10, .int x10)]) hx hb dX7_plusLesser_155 hl (by decide) rfl (fun ls hl => ?_)
    refine lv_lload hx hb dX7_plusLesser_157 (lv_at hl 0 rfl) ?_
    refine lv_lconst (v := (0 : Int64)) hx hb dX7_plusLesser_159 (by decide) ?_
    refine W.lcmp hx hb dX7_plusLesser_160 ?_
    refine lv_if_ne (tgt := 166) hx hb dX7_plusLesser_161 (by decide) (fun hq => ?_) (fun hq => ?_)
    · have h := h.1 hq
      refine lv_lload hx hb dX7_plusLesser_166 (lv_at hl 0 rfl) ?_
      refine m_calli (wc := []) C0 hM [] rfl (m_runS (wc := []) (As := [.long s0]) (rest := []) C0 hM (ct_X7_gapOf l D cI cJ cZ s0 _ _ h) [] rfl (by decide) gX7_plusLesser_X7_gapOf rfl rfl rfl hd_X7_gapOf ⟨Nat.le_of_ble_eq_true rfl, Nat.le_of_ble_eq_true rfl⟩ rfl hl.1 rfl (Nat.le_of_ble_eq_true rfl) dX7_plusLesser_168 ⟨Nat.le_of_ble_eq_true rfl, Nat.le_of_ble_eq_true rfl⟩) (fun _ => [(h0, .inr (6, oX7 r0 I_0_fraction I_0_bias I_0_most I_0_signBit I_0_infinite I_0_nan))]) (fun _ => rfl) (fun _ => rfl) (fun y1 _ H locs h hM => ?_)
      refine lv_istore (lv' := [(17, .int y1), (15, .long s0), (0, .ref h0), (1, .long x1), (10, .int x10)]) hx hb dX7_plusLesser_171 hl (by decide) rfl (fun ls hl => ?_)
      refine lv_aload_n hx hb dX7_plusLesser_173 rfl (lv_at hl 2 rfl) ?_
      refine lv_lload_n hx hb dX7_plusLesser_174 rfl (lv_at hl 3 rfl) ?_
      refine lv_aload_n hx hb dX7_plusLesser_175 rfl (lv_at hl 2 rfl) ?_
      refine m_get (C := RX7) (T := TX7) (N := 6) (ci := 6) (ref := "LoweredPowers$Reals") (v := .long I_0_signBit) C0 hM 0 rfl rfl kt_X7_plusLesser_X7 3 (by decide) kw_X7_plusLesser_1 rfl rfl dX7_plusLesser_176 ?_
      refine lv_land hx hb dX7_plusLesser_179 ?_
      refine lv_iload hx hb dX7_plusLesser_180 (lv_at hl 4 rfl) ?_
      refine lv_iconst (v := (1 : Int32)) hx hb dX7_plusLesser_182 (by decide) ?_
      refine lv_iadd hx hb dX7_plusLesser_183 ?_
      refine lv_iload hx hb dX7_plusLesser_184 (lv_at hl 0 rfl) ?_
      refine lv_isub hx hb dX7_plusLesser_186 ?_
      refine lv_lload hx hb dX7_plusLesser_187 (lv_at hl 1 rfl) ?_
      refine lv_iload hx hb dX7_plusLesser_189 (lv_at hl 0 rfl) ?_
      refine lv_lshl hx hb dX7_plusLesser_191 rfl ?_
      refine m_calll (wc := [(h0, .inr (6, oX7 r0 I_0_fraction I_0_bias I_0_most I_0_signBit I_0_infinite I_0_nan))]) C0 hM [0] rfl (m_runV (wc := [(h0, .inr (6, oX7 r0 I_0_fraction I_0_bias I_0_most I_0_signBit I_0_infinite I_0_nan))]) (As := [.long (x1 &&& I_0_signBit), .int ((x10 + (1 : Int32)) - y1), .long (s0 <<< (y1.toInt64 &&& 63))]) (rest := []) (ci := 6) C0 hM (ct_X7_rounded l D cI cJ cZ h0 r0 I_0_fraction I_0_bias I_0_most I_0_signBit I_0_infinite I_0_nan (x1 &&& I_0_signBit) ((x10 + (1 : Int32)) - y1) (s0 <<< (y1.toInt64 &&& 63)) _ _ h) [0] rfl (by decide) gX7_plusLesser_X7_rounded rfl rfl rfl rfl rfl hd_X7_rounded ⟨Nat.le_of_ble_eq_true rfl, Nat.le_of_ble_eq_true rfl⟩ rfl hl.1 rfl (Nat.le_of_ble_eq_true rfl) dX7_plusLesser_192 ⟨Nat.le_of_ble_eq_true rfl, Nat.le_of_ble_eq_true rfl⟩) (fun _ => [(h0, .inr (6, oX7 r0 I_0_fraction I_0_bias I_0_most I_0_signBit I_0_infinite I_0_nan))]) (fun _ => rfl) (fun _ => rfl) (fun y2 _ H locs h hM => ?_)
      subst hsz; subst hA; subst hQ
      exact m_lret C0 hr hM () h rfl dX7_plusLesser_195
    · have h := h.2 hq
      refine lv_lconst (v := (0 : Int64)) hx hb dX7_plusLesser_164 (by decide) ?_
      subst hsz; subst hA; subst hQ
      exact m_lret C0 hr hM () h rfl dX7_plusLesser_165
  have jq60 : ∀ (x9 : Int32) (H : Heap) (locs : List Loc) (ls : Array Slot) , jn_X7_plusLesser_60 x1 x3 x5 x7 I_0_fraction I_0_bias I_0_most I_0_signBit I_0_infinite I_0_nan K x9 → MW D A s.heap [(h0, .inr (6, oX7 r0 I_0_fraction I_0_bias I_0_most I_0_signBit I_0_infinite I_0_nan))] H locs → lv_has ls 18 [(0, .ref h0), (1, .long x1), (5, .long x5), (7, .long x7), (9, .int x9)] → W p l e rm_X7_plusLesser s m args below meth c H locs 0 0 Q (F0 m 60 ls []) := by
    intro x9 H locs ls h hM hl
    unfold jn_X7_plusLesser_60 at h
    refine lv_lload hx hb dX7_plusLesser_60 (lv_at hl 3 rfl) ?_
    refine lv_lconst (v := (0 : Int64)) hx hb dX7_plusLesser_62 (by decide) ?_
    refine W.lcmp hx hb dX7_plusLesser_63 ?_
    refine lv_if_ne (tgt := 85) hx hb dX7_plusLesser_64 (by decide) (fun hq => ?_) (fun hq => ?_)
    · have h := h.1 hq
      refine lv_lload hx hb dX7_plusLesser_85 (lv_at hl 2 rfl) ?_
      refine lv_aload_n hx hb dX7_plusLesser_87 rfl (lv_at hl 0 rfl) ?_
      refine m_get (C := RX7) (T := TX7) (N := 6) (ci := 6) (ref := "LoweredPowers$Reals") (v := .long I_0_infinite) C0 hM 0 rfl rfl kt_X7_plusLesser_X7 4 (by decide) kw_X7_plusLesser_2 rfl rfl dX7_plusLesser_88 ?_
      refine W.lcmp hx hb dX7_plusLesser_91 ?_
      refine lv_if_ne (tgt := 97) hx hb dX7_plusLesser_92 (by decide) (fun hq => ?_) (fun hq => ?_)
      · have h := h.1 hq
        refine lv_aload_n hx hb dX7_plusLesser_97 rfl (lv_at hl 0 rfl) ?_
        refine lv_lload hx hb dX7_plusLesser_98 (lv_at hl 2 rfl) ?_
        refine m_calli (wc := [(h0, .inr (6, oX7 r0 I_0_fraction I_0_bias I_0_most I_0_signBit I_0_infinite I_0_nan))]) C0 hM [0] rfl (m_runV (wc := [(h0, .inr (6, oX7 r0 I_0_fraction I_0_bias I_0_most I_0_signBit I_0_infinite I_0_nan))]) (As := [.long x5]) (rest := []) (ci := 6) C0 hM (ct_X7_exponentOf l D cI cJ cZ h0 r0 I_0_fraction I_0_bias I_0_most I_0_signBit I_0_infinite I_0_nan x5 _ _ h) [0] rfl (by decide) gX7_plusLesser_X7_exponentOf rfl rfl rfl rfl rfl hd_X7_exponentOf ⟨Nat.le_of_ble_eq_true rfl, Nat.le_of_ble_eq_true rfl⟩ rfl hl.1 rfl (Nat.le_of_ble_eq_true rfl) dX7_plusLesser_100 ⟨Nat.le_of_ble_eq_true rfl, Nat.le_of_ble_eq_true rfl⟩) (fun _ => [(h0, .inr (6, oX7 r0 I_0_fraction I_0_bias I_0_most I_0_signBit I_0_infinite I_0_nan))]) (fun _ => rfl) (fun _ => rfl) (fun y3 _ H locs h hM => ?_)
        refine lv_istore (lv' := [(10, .int y3), (0, .ref h0), (1, .long x1), (5, .long x5), (7, .long x7), (9, .int x9)]) hx hb dX7_plusLesser_103 hl (by decide) rfl (fun ls hl => ?_)
        refine lv_aload_n hx hb dX7_plusLesser_105 rfl (lv_at hl 1 rfl) ?_
        refine lv_lload hx hb dX7_plusLesser_106 (lv_at hl 3 rfl) ?_
        refine m_calll (wc := [(h0, .inr (6, oX7 r0 I_0_fraction I_0_bias I_0_most I_0_signBit I_0_infinite I_0_nan))]) C0 hM [0] rfl (m_runV (wc := [(h0, .inr (6, oX7 r0 I_0_fraction I_0_bias I_0_most I_0_signBit I_0_infinite I_0_nan))]) (As := [.long x5]) (rest := []) (ci := 6) C0 hM (ct_X7_significandOf l D cI cJ cZ h0 r0 I_0_fraction I_0_bias I_0_most I_0_signBit I_0_infinite I_0_nan x5 _ _ h) [0] rfl (by decide) gX7_plusLesser_X7_significandOf rfl rfl rfl rfl rfl hd_X7_significandOf ⟨Nat.le_of_ble_eq_true rfl, Nat.le_of_ble_eq_true rfl⟩ rfl hl.1 rfl (Nat.le_of_ble_eq_true rfl) dX7_plusLesser_108 ⟨Nat.le_of_ble_eq_true rfl, Nat.le_of_ble_eq_true rfl⟩) (fun _ => [(h0, .inr (6, oX7 r0 I_0_fraction I_0_bias I_0_most I_0_signBit I_0_infinite I_0_nan))]) (fun _ => rfl) (fun _ => rfl) (fun y4 _ H locs h hM => ?_)
        refine lv_iconst (v := (1 : Int32)) hx hb dX7_plusLesser_111 (by decide) ?_
        refine lv_lushr hx hb dX7_plusLesser_112 rfl ?_
        refine lv_topl (fun y5 ey5 => ?_)
        have h := h y5 ey5
        refine lv_lstore (lv' := [(11, .long y5), (10, .int y3), (0, .ref h0), (1, .long x1), (5, .long x5), (7, .long x7), (9, .int x9)]) hx hb dX7_plusLesser_113 hl (by decide) rfl (fun ls hl => ?_)
        refine lv_aload_n hx hb dX7_plusLesser_115 rfl (lv_at hl 2 rfl) ?_
        refine lv_lload hx hb dX7_plusLesser_116 (lv_at hl 5 rfl) ?_
        refine m_calll (wc := [(h0, .inr (6, oX7 r0 I_0_fraction I_0_bias I_0_most I_0_signBit I_0_infinite I_0_nan))]) C0 hM [0] rfl (m_runV (wc := [(h0, .inr (6, oX7 r0 I_0_fraction I_0_bias I_0_most I_0_signBit I_0_infinite I_0_nan))]) (As := [.long x7]) (rest := []) (ci := 6) C0 hM (ct_X7_significandOf l D cI cJ cZ h0 r0 I_0_fraction I_0_bias I_0_most I_0_signBit I_0_infinite I_0_nan x7 _ _ h) [0] rfl (by decide) gX7_plusLesser_X7_significandOf rfl rfl rfl rfl rfl hd_X7_significandOf ⟨Nat.le_of_ble_eq_true rfl, Nat.le_of_ble_eq_true rfl⟩ rfl hl.1 rfl (Nat.le_of_ble_eq_true rfl) dX7_plusLesser_118 ⟨Nat.le_of_ble_eq_true rfl, Nat.le_of_ble_eq_true rfl⟩) (fun _ => [(h0, .inr (6, oX7 r0 I_0_fraction I_0_bias I_0_most I_0_signBit I_0_infinite I_0_nan))]) (fun _ => rfl) (fun _ => rfl) (fun y6 _ H locs h hM => ?_)
        refine lv_iconst (v := (1 : Int32)) hx hb dX7_plusLesser_121 (by decide) ?_
        refine lv_lushr hx hb dX7_plusLesser_122 rfl ?_
        refine lv_iload hx hb dX7_plusLesser_123 (lv_at hl 1 rfl) ?_
        refine lv_aload_n hx hb dX7_plusLesser_125 rfl (lv_at hl 2 rfl) ?_
        refine lv_lload hx hb dX7_plusLesser_126 (lv_at hl 5 rfl) ?_
        refine m_calli (wc := [(h0, .inr (6, oX7 r0 I_0_fraction I_0_bias I_0_most I_0_signBit I_0_infinite I_0_nan))]) C0 hM [0] rfl (m_runV (wc := [(h0, .inr (6, oX7 r0 I_0_fraction I_0_bias I_0_most I_0_signBit I_0_infinite I_0_nan))]) (As := [.long x7]) (rest := [.int y3, .long ((y6.toUInt64 >>> ((1 : Int32).toInt64.toUInt64 &&& Int64.toUInt64 63)).toInt64)]) (ci := 6) C0 hM (ct_X7_exponentOf l D cI cJ cZ h0 r0 I_0_fraction I_0_bias I_0_most I_0_signBit I_0_infinite I_0_nan x7 _ _ h) [0] rfl (by decide) gX7_plusLesser_X7_exponentOf rfl rfl rfl rfl rfl hd_X7_exponentOf ⟨Nat.le_of_ble_eq_true rfl, Nat.le_of_ble_eq_true rfl⟩ rfl hl.1 rfl (Nat.le_of_ble_eq_true rfl) dX7_plusLesser_128 ⟨Nat.le_of_ble_eq_true rfl, Nat.le_of_ble_eq_true rfl⟩) (fun _ => [(h0, .inr (6, oX7 r0 I_0_fraction I_0_bias I_0_most I_0_signBit I_0_infinite I_0_nan))]) (fun _ => rfl) (fun _ => rfl) (fun y7 _ H locs h hM => ?_)
        refine lv_isub hx hb dX7_plusLesser_131 ?_
        refine m_calll (wc := []) C0 hM [] rfl (m_runS (wc := []) (As := [.long ((y6.toUInt64 >>> ((1 : Int32).toInt64.toUInt64 &&& Int64.toUInt64 63)).toInt64), .int (y3 - y7)]) (rest := []) C0 hM (ct_X7_lowered l D cI cJ cZ ((y6.toUInt64 >>> ((1 : Int32).toInt64.toUInt64 &&& Int64.toUInt64 63)).toInt64) (y3 - y7) _ _ h) [] rfl (by decide) gX7_plusLesser_X7_lowered rfl rfl rfl hd_X7_lowered ⟨Nat.le_of_ble_eq_true rfl, Nat.le_of_ble_eq_true rfl⟩ rfl hl.1 rfl (Nat.le_of_ble_eq_true rfl) dX7_plusLesser_132 ⟨Nat.le_of_ble_eq_true rfl, Nat.le_of_ble_eq_true rfl⟩) (fun _ => [(h0, .inr (6, oX7 r0 I_0_fraction I_0_bias I_0_most I_0_signBit I_0_infinite I_0_nan))]) (fun _ => rfl) (fun _ => rfl) (fun y8 _ H locs h hM => ?_)
        refine lv_lstore (lv' := [(13, .long y8), (11, .long y5), (10, .int y3), (0, .ref h0), (1, .long x1), (5, .long x5), (7, .long x7), (9, .int x9)]) hx hb dX7_plusLesser_135 hl (by decide) rfl (fun ls hl => ?_)
        refine lv_iload hx hb dX7_plusLesser_137 (lv_at hl 7 rfl) ?_
        refine lv_if_eq (tgt := 150) hx hb dX7_plusLesser_139 (by decide) (fun hq => ?_) (fun hq => ?_)
        · have h := h.1 hq
          refine lv_lload hx hb dX7_plusLesser_150 (lv_at hl 1 rfl) ?_
          refine lv_lload hx hb dX7_plusLesser_152 (lv_at hl 0 rfl) ?_
          refine lv_lsub hx hb dX7_plusLesser_154 ?_
          exact jq155 _ _ _ _ _ h hM (lv_sub hl [3, 4, 2] rfl)
        · have h := h.2 hq
          refine lv_lload hx hb dX7_plusLesser_142 (lv_at hl 1 rfl) ?_
          refine lv_lload hx hb dX7_plusLesser_144 (lv_at hl 0 rfl) ?_
          refine lv_ladd hx hb dX7_plusLesser_146 ?_
          refine lv_goto (tgt := 155) hx hb dX7_plusLesser_147 (by decide) ?_
          exact jq155 _ _ _ _ _ h hM (lv_sub hl [3, 4, 2] rfl)
      · have h := h.2 hq
        refine lv_lload_n hx hb dX7_plusLesser_95 rfl (lv_at hl 1 rfl) ?_
        subst hsz; subst hA; subst hQ
        exact m_lret C0 hr hM () h rfl dX7_plusLesser_96
    · have h := h.2 hq
      refine lv_lload hx hb dX7_plusLesser_67 (lv_at hl 2 rfl) ?_
      refine lv_lconst (v := (0 : Int64)) hx hb dX7_plusLesser_69 (by decide) ?_
      refine W.lcmp hx hb dX7_plusLesser_70 ?_
      refine lv_if_ne (tgt := 83) hx hb dX7_plusLesser_71 (by decide) (fun hq => ?_) (fun hq => ?_)
      · have h := h.1 hq
        refine lv_lload_n hx hb dX7_plusLesser_83 rfl (lv_at hl 1 rfl) ?_
        subst hsz; subst hA; subst hQ
        exact m_lret C0 hr hM () h rfl dX7_plusLesser_84
      · have h := h.2 hq
        refine lv_iload hx hb dX7_plusLesser_74 (lv_at hl 4 rfl) ?_
        refine lv_if_ne (tgt := 83) hx hb dX7_plusLesser_76 (by decide) (fun hq => ?_) (fun hq => ?_)
        · have h := h.1 hq
          refine lv_lload_n hx hb dX7_plusLesser_83 rfl (lv_at hl 1 rfl) ?_
          subst hsz; subst hA; subst hQ
          exact m_lret C0 hr hM () h rfl dX7_plusLesser_84
        · have h := h.2 hq
          refine lv_lconst (v := (0 : Int64)) hx hb dX7_plusLesser_79 (by decide) ?_
          refine lv_goto (tgt := 84) hx hb dX7_plusLesser_80 (by decide) ?_
          subst hsz; subst hA; subst hQ
          exact m_lret C0 hr hM () h rfl dX7_plusLesser_84
  have jq55 : ∀  (H : Heap) (locs : List Loc) (ls : Array Slot) , jn_X7_plusLesser_55 x1 x3 x5 x7 I_0_fraction I_0_bias I_0_most I_0_signBit I_0_infinite I_0_nan K  → MW D A s.heap [(h0, .inr (6, oX7 r0 I_0_fraction I_0_bias I_0_most I_0_signBit I_0_infinite I_0_nan))] H locs → lv_has ls 18 [(0, .ref h0)] → W p l e rm_X7_plusLesser s m args below meth c H locs 0 0 Q (F0 m 55 ls []) := by
    intro  H locs ls h hM hl
    unfold jn_X7_plusLesser_55 at h
    refine lv_aload_n hx hb dX7_plusLesser_55 rfl (lv_at hl 0 rfl) ?_
    refine m_get (C := RX7) (T := TX7) (N := 6) (ci := 6) (ref := "LoweredPowers$Reals") (v := .long I_0_nan) C0 hM 0 rfl rfl kt_X7_plusLesser_X7 5 (by decide) kw_X7_plusLesser_3 rfl rfl dX7_plusLesser_56 ?_
    subst hsz; subst hA; subst hQ
    exact m_lret C0 hr hM () h rfl dX7_plusLesser_59
  have jq18 : ∀ (s0 : Int32) (H : Heap) (locs : List Loc) (ls : Array Slot) , jn_X7_plusLesser_18 x1 x3 x5 x7 I_0_fraction I_0_bias I_0_most I_0_signBit I_0_infinite I_0_nan K s0 → MW D A s.heap [(h0, .inr (6, oX7 r0 I_0_fraction I_0_bias I_0_most I_0_signBit I_0_infinite I_0_nan))] H locs → lv_has ls 18 [(0, .ref h0), (1, .long x1), (5, .long x5), (7, .long x7)] → W p l e rm_X7_plusLesser s m args below meth c H locs 0 0 Q (F0 m 18 ls [.int s0]) := by
    intro s0 H locs ls h hM hl
    unfold jn_X7_plusLesser_18 at h
    refine lv_istore (lv' := [(9, .int s0), (0, .ref h0), (1, .long x1), (5, .long x5), (7, .long x7)]) hx hb dX7_plusLesser_18 hl (by decide) rfl (fun ls hl => ?_)
    refine lv_lload hx hb dX7_plusLesser_20 (lv_at hl 3 rfl) ?_
    refine lv_aload_n hx hb dX7_plusLesser_22 rfl (lv_at hl 1 rfl) ?_
    refine m_get (C := RX7) (T := TX7) (N := 6) (ci := 6) (ref := "LoweredPowers$Reals") (v := .long I_0_infinite) C0 hM 0 rfl rfl kt_X7_plusLesser_X7 4 (by decide) kw_X7_plusLesser_2 rfl rfl dX7_plusLesser_23 ?_
    refine W.lcmp hx hb dX7_plusLesser_26 ?_
    refine lv_if_gt (tgt := 55) hx hb dX7_plusLesser_27 (by decide) (fun hq => ?_) (fun hq => ?_)
    · have h := h.1 hq
      exact jq55  _ _ _ h hM (lv_sub hl [1] rfl)
    · have h := h.2 hq
      refine lv_lload hx hb dX7_plusLesser_30 (lv_at hl 3 rfl) ?_
      refine lv_aload_n hx hb dX7_plusLesser_32 rfl (lv_at hl 1 rfl) ?_
      refine m_get (C := RX7) (T := TX7) (N := 6) (ci := 6) (ref := "LoweredPowers$Reals") (v := .long I_0_infinite) C0 hM 0 rfl rfl kt_X7_plusLesser_X7 4 (by decide) kw_X7_plusLesser_2 rfl rfl dX7_plusLesser_33 ?_
      refine W.lcmp hx hb dX7_plusLesser_36 ?_
      refine lv_if_ne (tgt := 60) hx hb dX7_plusLesser_37 (by decide) (fun hq => ?_) (fun hq => ?_)
      · have h := h.1 hq
        exact jq60 _ _ _ _ h hM (lv_sub hl [1, 2, 3, 4, 0] rfl)
      · have h := h.2 hq
        refine lv_lload hx hb dX7_plusLesser_40 (lv_at hl 4 rfl) ?_
        refine lv_aload_n hx hb dX7_plusLesser_42 rfl (lv_at hl 1 rfl) ?_
        refine m_get (C := RX7) (T := TX7) (N := 6) (ci := 6) (ref := "LoweredPowers$Reals") (v := .long I_0_infinite) C0 hM 0 rfl rfl kt_X7_plusLesser_X7 4 (by decide) kw_X7_plusLesser_2 rfl rfl dX7_plusLesser_43 ?_
        refine W.lcmp hx hb dX7_plusLesser_46 ?_
        refine lv_if_ne (tgt := 60) hx hb dX7_plusLesser_47 (by decide) (fun hq => ?_) (fun hq => ?_)
        · have h := h.1 hq
          exact jq60 _ _ _ _ h hM (lv_sub hl [1, 2, 3, 4, 0] rfl)
        · have h := h.2 hq
          refine lv_iload hx hb dX7_plusLesser_50 (lv_at hl 0 rfl) ?_
          refine lv_if_ne (tgt := 60) hx hb dX7_plusLesser_52 (by decide) (fun hq => ?_) (fun hq => ?_)
          · have h := h.1 hq
            exact jq60 _ _ _ _ h hM (lv_sub hl [1, 2, 3, 4, 0] rfl)
          · have h := h.2 hq
            exact jq55  _ _ _ h hM (lv_sub hl [1] rfl)
  unfold wp_X7_plusLesser at h
  refine lv_lload_n hx hb dX7_plusLesser_0 rfl (lv_at hl 1 rfl) ?_
  refine lv_lload_n hx hb dX7_plusLesser_1 rfl (lv_at hl 2 rfl) ?_
  refine lv_lxor hx hb dX7_plusLesser_2 ?_
  refine lv_aload_n hx hb dX7_plusLesser_3 rfl (lv_at hl 0 rfl) ?_
  refine m_get (C := RX7) (T := TX7) (N := 6) (ci := 6) (ref := "LoweredPowers$Reals") (v := .long I_0_signBit) C0 hM 0 rfl rfl kt_X7_plusLesser_X7 3 (by decide) kw_X7_plusLesser_1 rfl rfl dX7_plusLesser_4 ?_
  refine lv_land hx hb dX7_plusLesser_7 ?_
  refine lv_lconst (v := (0 : Int64)) hx hb dX7_plusLesser_8 (by decide) ?_
  refine W.lcmp hx hb dX7_plusLesser_9 ?_
  refine lv_if_ne (tgt := 17) hx hb dX7_plusLesser_10 (by decide) (fun hq => ?_) (fun hq => ?_)
  · have h := h.1 hq
    refine lv_iconst (v := (0 : Int32)) hx hb dX7_plusLesser_17 (by decide) ?_
    exact jq18 _ _ _ _ h hM (lv_sub hl [0, 1, 3, 4] rfl)
  · have h := h.2 hq
    refine lv_iconst (v := (1 : Int32)) hx hb dX7_plusLesser_13 (by decide) ?_
    refine lv_goto (tgt := 18) hx hb dX7_plusLesser_14 (by decide) ?_
    exact jq18 _ _ _ _ h hM (lv_sub hl [0, 1, 3, 4] rfl)
abbrev rm_X7_plus : Room := { frames := 3, cells := 0, slots := 0, locals := 85 }
set_option maxRecDepth 100000 in
set_option maxHeartbeats 4000000 in
theorem ct_X7_plus (l : Launch) (D : va_G) (cI cJ cZ : ClassId) (h0 : Nat) (r0 : Nat → Nat) (I_0_fraction : Int32) (I_0_bias : Int32) (I_0_most : Int32) (I_0_signBit : Int64) (I_0_infinite : Int64) (I_0_nan : Int64) (x1 : Int64) (x3 : Int64) (sz : Nat) (K : Int64 → Prop) (h : wp_X7_plus x1 x3 I_0_fraction I_0_bias I_0_most I_0_signBit I_0_infinite I_0_nan K) : Met l yX7_plus wsX7_plus rm_X7_plus (va_Pc [.ref h0, .long x1, .long x3] (WX D cI cJ cZ [(h0, .inr (6, oX7 r0 I_0_fraction I_0_bias I_0_most I_0_signBit I_0_infinite I_0_nan))] sz)) (va_Ql (fun (r : Int64) (_ : Unit) => K r ) (fun (_ : Unit) t => WY D (va_A [(h0, .inr (6, oX7 r0 I_0_fraction I_0_bias I_0_most I_0_signBit I_0_infinite I_0_nan))] sz) [(h0, .inr (6, oX7 r0 I_0_fraction I_0_bias I_0_most I_0_signBit I_0_infinite I_0_nan))] t) (va_A [(h0, .inr (6, oX7 r0 I_0_fraction I_0_bias I_0_most I_0_signBit I_0_infinite I_0_nan))] sz)) 0 0 (va_A [(h0, .inr (6, oX7 r0 I_0_fraction I_0_bias I_0_most I_0_signBit I_0_infinite I_0_nan))] sz) := by
  refine m_met (own := RX7) (cc := cX7_plus) (maxL := 9) (ret := some .long) [.ref h0, .long x1, .long x3] [(0, .ref h0), (1, .long x1), (3, .long x3)] (by decide) rfl rfl (Nat.le_of_ble_eq_true rfl) rfl ?_
  intro p e s m args below meth c Q A hQ hA C0 hr hnm hsz hM ls hl
  have hx := C0.1
  have hb := C0.2.1
  have hown := C0.2.2.2.1
  unfold wp_X7_plus at h
  refine lv_aload_n hx hb dX7_plus_0 rfl (lv_at hl 0 rfl) ?_
  refine lv_lload_n hx hb dX7_plus_1 rfl (lv_at hl 1 rfl) ?_
  refine m_calll (wc := [(h0, .inr (6, oX7 r0 I_0_fraction I_0_bias I_0_most I_0_signBit I_0_infinite I_0_nan))]) C0 hM [0] rfl (m_runV (wc := [(h0, .inr (6, oX7 r0 I_0_fraction I_0_bias I_0_most I_0_signBit I_0_infinite I_0_nan))]) (As := [.long x1]) (rest := []) (ci := 6) C0 hM (ct_X7_magnitude l D cI cJ cZ h0 r0 I_0_fraction I_0_bias I_0_most I_0_signBit I_0_infinite I_0_nan x1 _ _ h) [0] rfl (by decide) gX7_plus_X7_magnitude rfl rfl rfl rfl rfl hd_X7_magnitude ⟨Nat.le_of_ble_eq_true rfl, Nat.le_of_ble_eq_true rfl⟩ rfl hl.1 rfl (Nat.le_of_ble_eq_true rfl) dX7_plus_2 ⟨Nat.le_of_ble_eq_true rfl, Nat.le_of_ble_eq_true rfl⟩) (fun _ => [(h0, .inr (6, oX7 r0 I_0_fraction I_0_bias I_0_most I_0_signBit I_0_infinite I_0_nan))]) (fun _ => rfl) (fun _ => rfl) (fun y1 _ H locs h hM => ?_)
  refine lv_lstore (lv' := [(5, .long y1), (0, .ref h0), (1, .long x1), (3, .long x3)]) hx hb dX7_plus_5 hl (by decide) rfl (fun ls hl => ?_)
  refine lv_aload_n hx hb dX7_plus_7 rfl (lv_at hl 1 rfl) ?_
  refine lv_lload_n hx hb dX7_plus_8 rfl (lv_at hl 3 rfl) ?_
  refine m_calll (wc := [(h0, .inr (6, oX7 r0 I_0_fraction I_0_bias I_0_most I_0_signBit I_0_infinite I_0_nan))]) C0 hM [0] rfl (m_runV (wc := [(h0, .inr (6, oX7 r0 I_0_fraction I_0_bias I_0_most I_0_signBit I_0_infinite I_0_nan))]) (As := [.long x3]) (rest := []) (ci := 6) C0 hM (ct_X7_magnitude l D cI cJ cZ h0 r0 I_0_fraction I_0_bias I_0_most I_0_signBit I_0_infinite I_0_nan x3 _ _ h) [0] rfl (by decide) gX7_plus_X7_magnitude rfl rfl rfl rfl rfl hd_X7_magnitude ⟨Nat.le_of_ble_eq_true rfl, Nat.le_of_ble_eq_true rfl⟩ rfl hl.1 rfl (Nat.le_of_ble_eq_true rfl) dX7_plus_9 ⟨Nat.le_of_ble_eq_true rfl, Nat.le_of_ble_eq_true rfl⟩) (fun _ => [(h0, .inr (6, oX7 r0 I_0_fraction I_0_bias I_0_most I_0_signBit I_0_infinite I_0_nan))]) (fun _ => rfl) (fun _ => rfl) (fun y2 _ H locs h hM => ?_)
  refine lv_lstore (lv' := [(7, .long y2), (5, .long y1), (0, .ref h0), (1, .long x1), (3, .long x3)]) hx hb dX7_plus_12 hl (by decide) rfl (fun ls hl => ?_)
  refine lv_lload hx hb dX7_plus_14 (lv_at hl 1 rfl) ?_
  refine lv_lload hx hb dX7_plus_16 (lv_at hl 0 rfl) ?_
  refine W.lcmp hx hb dX7_plus_18 ?_
  refine lv_if_ge (tgt := 33) hx hb dX7_plus_19 (by decide) (fun hq => ?_) (fun hq => ?_)
  · have h := h.1 hq
    refine lv_aload_n hx hb dX7_plus_33 rfl (lv_at hl 2 rfl) ?_
    refine lv_lload_n hx hb dX7_plus_34 rfl (lv_at hl 3 rfl) ?_
    refine lv_lload_n hx hb dX7_plus_35 rfl (lv_at hl 4 rfl) ?_
    refine lv_lload hx hb dX7_plus_36 (lv_at hl 1 rfl) ?_
    refine lv_lload hx hb dX7_plus_38 (lv_at hl 0 rfl) ?_
    refine m_calll (wc := [(h0, .inr (6, oX7 r0 I_0_fraction I_0_bias I_0_most I_0_signBit I_0_infinite I_0_nan))]) C0 hM [0] rfl (m_runV (wc := [(h0, .inr (6, oX7 r0 I_0_fraction I_0_bias I_0_most I_0_signBit I_0_infinite I_0_nan))]) (As := [.long x1, .long x3, .long y1, .long y2]) (rest := []) (ci := 6) C0 hM (ct_X7_plusLesser l D cI cJ cZ h0 r0 I_0_fraction I_0_bias I_0_most I_0_signBit I_0_infinite I_0_nan x1 x3 y1 y2 _ _ h) [0] rfl (by decide) gX7_plus_X7_plusLesser rfl rfl rfl rfl rfl hd_X7_plusLesser ⟨Nat.le_of_ble_eq_true rfl, Nat.le_of_ble_eq_true rfl⟩ rfl hl.1 rfl (Nat.le_of_ble_eq_true rfl) dX7_plus_40 ⟨Nat.le_of_ble_eq_true rfl, Nat.le_of_ble_eq_true rfl⟩) (fun _ => [(h0, .inr (6, oX7 r0 I_0_fraction I_0_bias I_0_most I_0_signBit I_0_infinite I_0_nan))]) (fun _ => rfl) (fun _ => rfl) (fun y3 _ H locs h hM => ?_)
    subst hsz; subst hA; subst hQ
    exact m_lret C0 hr hM () h rfl dX7_plus_43
  · have h := h.2 hq
    refine lv_aload_n hx hb dX7_plus_22 rfl (lv_at hl 2 rfl) ?_
    refine lv_lload_n hx hb dX7_plus_23 rfl (lv_at hl 4 rfl) ?_
    refine lv_lload_n hx hb dX7_plus_24 rfl (lv_at hl 3 rfl) ?_
    refine lv_lload hx hb dX7_plus_25 (lv_at hl 0 rfl) ?_
    refine lv_lload hx hb dX7_plus_27 (lv_at hl 1 rfl) ?_
    refine m_calll (wc := [(h0, .inr (6, oX7 r0 I_0_fraction I_0_bias I_0_most I_0_signBit I_0_infinite I_0_nan))]) C0 hM [0] rfl (m_runV (wc := [(h0, .inr (6, oX7 r0 I_0_fraction I_0_bias I_0_most I_0_signBit I_0_infinite I_0_nan))]) (As := [.long x3, .long x1, .long y2, .long y1]) (rest := []) (ci := 6) C0 hM (ct_X7_plusLesser l D cI cJ cZ h0 r0 I_0_fraction I_0_bias I_0_most I_0_signBit I_0_infinite I_0_nan x3 x1 y2 y1 _ _ h) [0] rfl (by decide) gX7_plus_X7_plusLesser rfl rfl rfl rfl rfl hd_X7_plusLesser ⟨Nat.le_of_ble_eq_true rfl, Nat.le_of_ble_eq_true rfl⟩ rfl hl.1 rfl (Nat.le_of_ble_eq_true rfl) dX7_plus_29 ⟨Nat.le_of_ble_eq_true rfl, Nat.le_of_ble_eq_true rfl⟩) (fun _ => [(h0, .inr (6, oX7 r0 I_0_fraction I_0_bias I_0_most I_0_signBit I_0_infinite I_0_nan))]) (fun _ => rfl) (fun _ => rfl) (fun y4 _ H locs h hM => ?_)
    subst hsz; subst hA; subst hQ
    exact m_lret C0 hr hM () h rfl dX7_plus_32
abbrev rm_X7_atPoint : Room := { frames := 4, cells := 0, slots := 0, locals := 113 }
set_option maxRecDepth 100000 in
set_option maxHeartbeats 4000000 in
theorem ct_X7_atPoint (l : Launch) (D : va_G) (cI cJ cZ : ClassId) (h0 : Nat) (h1 : Nat) (r0 : Nat → Nat) (I_0_fraction : Int32) (I_0_bias : Int32) (I_0_most : Int32) (I_0_signBit : Int64) (I_0_infinite : Int64) (I_0_nan : Int64) (A1 : (Nat → Int32)) (x2 : Int64) (sz : Nat) (K : Int64 → Prop) (h : wp_X7_atPoint x2 I_0_fraction I_0_bias I_0_most I_0_signBit I_0_infinite I_0_nan A1 K) : Met l yX7_atPoint wsX7_atPoint rm_X7_atPoint (va_Pc [.ref h0, .ref h1, .long x2] (WX D cI cJ cZ [(h0, .inr (6, oX7 r0 I_0_fraction I_0_bias I_0_most I_0_signBit I_0_infinite I_0_nan)), (h1, .inl (cI, 5, .inl A1))] sz)) (va_Ql (fun (r : Int64) (_ : Unit) => K r ) (fun (_ : Unit) t => WY D (va_A [(h0, .inr (6, oX7 r0 I_0_fraction I_0_bias I_0_most I_0_signBit I_0_infinite I_0_nan)), (h1, .inl (cI, 5, .inl A1))] sz) [(h0, .inr (6, oX7 r0 I_0_fraction I_0_bias I_0_most I_0_signBit I_0_infinite I_0_nan)), (h1, .inl (cI, 5, .inl A1))] t) (va_A [(h0, .inr (6, oX7 r0 I_0_fraction I_0_bias I_0_most I_0_signBit I_0_infinite I_0_nan)), (h1, .inl (cI, 5, .inl A1))] sz)) 0 0 (va_A [(h0, .inr (6, oX7 r0 I_0_fraction I_0_bias I_0_most I_0_signBit I_0_infinite I_0_nan)), (h1, .inl (cI, 5, .inl A1))] sz) := by
  refine m_met (own := RX7) (cc := cX7_atPoint) (maxL := 7) (ret := some .long) [.ref h0, .ref h1, .long x2] [(0, .ref h0), (1, .ref h1), (2, .long x2)] (by decide) rfl rfl (Nat.le_of_ble_eq_true rfl) rfl ?_
  intro p e s m args below meth c Q A hQ hA C0 hr hnm hsz hM ls hl
  have hx := C0.1
  have hb := C0.2.1
  have hown := C0.2.2.2.1
  have lq6 : ∀ (k6 : Nat) (x4 : Int64) (x6 : Int32) (H : Heap) (locs : List Loc) (ls : Array Slot) , lp_X7_atPoint_6 x2 I_0_fraction I_0_bias I_0_most I_0_signBit I_0_infinite I_0_nan A1 K k6 x4 x6 → MW D A s.heap [(h0, .inr (6, oX7 r0 I_0_fraction I_0_bias I_0_most I_0_signBit I_0_infinite I_0_nan)), (h1, .inl (cI, 5, .inl A1))] H locs → lv_has ls 7 [(0, .ref h0), (1, .ref h1), (2, .long x2), (4, .long x4), (6, .int x6)] → W p l e rm_X7_atPoint s m args below meth c H locs 0 0 Q (F0 m 6 ls []) := by
    intro k6
    induction k6 with
    | zero =>
      intro x4 x6 H locs ls h
      unfold lp_X7_atPoint_6 at h
      exact h.elim
    | succ k6 ih6 =>
      intro x4 x6 H locs ls h hM hl
      unfold lp_X7_atPoint_6 at h
      refine lv_iload hx hb dX7_atPoint_6 (lv_at hl 4 rfl) ?_
      refine lv_if_lt (tgt := 38) hx hb dX7_atPoint_8 (by decide) (fun hq => ?_) (fun hq => ?_)
      · have h := h.1 hq
        refine lv_lload hx hb dX7_atPoint_38 (lv_at hl 3 rfl) ?_
        subst hsz; subst hA; subst hQ
        exact m_lret C0 hr hM () h rfl dX7_atPoint_40
      · have h := h.2 hq
        refine lv_aload_n hx hb dX7_atPoint_11 rfl (lv_at hl 0 rfl) ?_
        refine lv_aload_n hx hb dX7_atPoint_12 rfl (lv_at hl 0 rfl) ?_
        refine lv_lload hx hb dX7_atPoint_13 (lv_at hl 3 rfl) ?_
        refine lv_lload_n hx hb dX7_atPoint_15 rfl (lv_at hl 2 rfl) ?_
        refine m_calll (wc := [(h0, .inr (6, oX7 r0 I_0_fraction I_0_bias I_0_most I_0_signBit I_0_infinite I_0_nan))]) C0 hM [0] rfl (m_runV (wc := [(h0, .inr (6, oX7 r0 I_0_fraction I_0_bias I_0_most I_0_signBit I_0_infinite I_0_nan))]) (As := [.long x4, .long x2]) (rest := [.ref h0]) (ci := 6) C0 hM (ct_X7_times l D cI cJ cZ h0 r0 I_0_fraction I_0_bias I_0_most I_0_signBit I_0_infinite I_0_nan x4 x2 _ _ h) [0] rfl (by decide) gX7_atPoint_X7_times rfl rfl rfl rfl rfl hd_X7_times ⟨Nat.le_of_ble_eq_true rfl, Nat.le_of_ble_eq_true rfl⟩ rfl hl.1 rfl (Nat.le_of_ble_eq_true rfl) dX7_atPoint_16 ⟨Nat.le_of_ble_eq_true rfl, Nat.le_of_ble_eq_true rfl⟩) (fun _ => [(h0, .inr (6, oX7 r0 I_0_fraction I_0_bias I_0_most I_0_signBit I_0_infinite I_0_nan)), (h1, .inl (cI, 5, .inl A1))]) (fun _ => rfl) (fun _ => rfl) (fun y1 _ H locs h hM => ?_)
        refine lv_aload_n hx hb dX7_atPoint_19 rfl (lv_at hl 0 rfl) ?_
        refine lv_aload_n hx hb dX7_atPoint_20 rfl (lv_at hl 1 rfl) ?_
        refine lv_iload hx hb dX7_atPoint_21 (lv_at hl 4 rfl) ?_
        obtain ⟨hc2, h⟩ := h
        refine m_iald C0 hM 1 rfl hc2 dX7_atPoint_23 ?_
        refine m_calll (wc := [(h0, .inr (6, oX7 r0 I_0_fraction I_0_bias I_0_most I_0_signBit I_0_infinite I_0_nan))]) C0 hM [0] rfl (m_runV (wc := [(h0, .inr (6, oX7 r0 I_0_fraction I_0_bias I_0_most I_0_signBit I_0_infinite I_0_nan))]) (As := [.int (A1 (x6).toNatClampNeg)]) (rest := [.long y1, .ref h0]) (ci := 6) C0 hM (ct_X7_ofWhole l D cI cJ cZ h0 r0 I_0_fraction I_0_bias I_0_most I_0_signBit I_0_infinite I_0_nan (A1 (x6).toNatClampNeg) _ _ h) [0] rfl (by decide) gX7_atPoint_X7_ofWhole rfl rfl rfl rfl rfl hd_X7_ofWhole ⟨Nat.le_of_ble_eq_true rfl, Nat.le_of_ble_eq_true rfl⟩ rfl hl.1 rfl (Nat.le_of_ble_eq_true rfl) dX7_atPoint_24 ⟨Nat.le_of_ble_eq_true rfl, Nat.le_of_ble_eq_true rfl⟩) (fun _ => [(h0, .inr (6, oX7 r0 I_0_fraction I_0_bias I_0_most I_0_signBit I_0_infinite I_0_nan)), (h1, .inl (cI, 5, .inl A1))]) (fun _ => rfl) (fun _ => rfl) (fun y3 _ H locs h hM => ?_)
        refine m_calll (wc := [(h0, .inr (6, oX7 r0 I_0_fraction I_0_bias I_0_most I_0_signBit I_0_infinite I_0_nan))]) C0 hM [0] rfl (m_runV (wc := [(h0, .inr (6, oX7 r0 I_0_fraction I_0_bias I_0_most I_0_signBit I_0_infinite I_0_nan))]) (As := [.long y1, .long y3]) (rest := []) (ci := 6) C0 hM (ct_X7_plus l D cI cJ cZ h0 r0 I_0_fraction I_0_bias I_0_most I_0_signBit I_0_infinite I_0_nan y1 y3 _ _ h) [0] rfl (by decide) gX7_atPoint_X7_plus rfl rfl rfl rfl rfl hd_X7_plus ⟨Nat.le_of_ble_eq_true rfl, Nat.le_of_ble_eq_true rfl⟩ rfl hl.1 rfl (Nat.le_of_ble_eq_true rfl) dX7_atPoint_27 ⟨Nat.le_of_ble_eq_true rfl, Nat.le_of_ble_eq_true rfl⟩) (fun _ => [(h0, .inr (6, oX7 r0 I_0_fraction I_0_bias I_0_most I_0_signBit I_0_infinite I_0_nan)), (h1, .inl (cI, 5, .inl A1))]) (fun _ => rfl) (fun _ => rfl) (fun y4 _ H locs h hM => ?_)
        refine lv_lstore (lv' := [(4, .long y4), (0, .ref h0), (1, .ref h1), (2, .long x2), (6, .int x6)]) hx hb dX7_atPoint_30 hl (by decide) rfl (fun ls hl => ?_)
        refine lv_iinc (v := (x6 + (-1 : Int32))) (lv' := [(6, .int (x6 + (-1 : Int32))), (4, .long y4), (0, .ref h0), (1, .ref h1), (2, .long x2)]) hx hb dX7_atPoint_32 hl (k := 4) rfl rfl (by decide) rfl (fun ls hl => ?_)
        refine lv_goto (tgt := 6) hx hb dX7_atPoint_35 (by decide) ?_
        exact ih6 _ _ _ _ _ h hM (lv_sub hl [2, 3, 4, 1, 0] rfl)
  unfold wp_X7_atPoint at h
  refine lv_lconst (v := (0 : Int64)) hx hb dX7_atPoint_0 (by decide) ?_
  refine lv_lstore (lv' := [(4, .long (0 : Int64)), (0, .ref h0), (1, .ref h1), (2, .long x2)]) hx hb dX7_atPoint_1 hl (by decide) rfl (fun ls hl => ?_)
  refine lv_iconst (v := (4 : Int32)) hx hb dX7_atPoint_3 (by decide) ?_
  refine lv_istore (lv' := [(6, .int (4 : Int32)), (4, .long (0 : Int64)), (0, .ref h0), (1, .ref h1), (2, .long x2)]) hx hb dX7_atPoint_4 hl (by decide) rfl (fun ls hl => ?_)
  obtain ⟨k0, h⟩ := h
  exact lq6 k0 _ _ _ _ _ h hM (lv_sub hl [2, 3, 4, 1, 0] rfl)
abbrev rm_X7_risingAt : Room := { frames := 4, cells := 0, slots := 0, locals := 113 }
set_option maxRecDepth 100000 in
set_option maxHeartbeats 4000000 in
theorem ct_X7_risingAt (l : Launch) (D : va_G) (cI cJ cZ : ClassId) (h0 : Nat) (h1 : Nat) (r0 : Nat → Nat) (I_0_fraction : Int32) (I_0_bias : Int32) (I_0_most : Int32) (I_0_signBit : Int64) (I_0_infinite : Int64) (I_0_nan : Int64) (A1 : (Nat → Int32)) (x2 : Int64) (sz : Nat) (K : Int64 → Prop) (h : wp_X7_risingAt x2 I_0_fraction I_0_bias I_0_most I_0_signBit I_0_infinite I_0_nan A1 K) : Met l yX7_risingAt wsX7_risingAt rm_X7_risingAt (va_Pc [.ref h0, .ref h1, .long x2] (WX D cI cJ cZ [(h0, .inr (6, oX7 r0 I_0_fraction I_0_bias I_0_most I_0_signBit I_0_infinite I_0_nan)), (h1, .inl (cI, 5, .inl A1))] sz)) (va_Ql (fun (r : Int64) (_ : Unit) => K r ) (fun (_ : Unit) t => WY D (va_A [(h0, .inr (6, oX7 r0 I_0_fraction I_0_bias I_0_most I_0_signBit I_0_infinite I_0_nan)), (h1, .inl (cI, 5, .inl A1))] sz) [(h0, .inr (6, oX7 r0 I_0_fraction I_0_bias I_0_most I_0_signBit I_0_infinite I_0_nan)), (h1, .inl (cI, 5, .inl A1))] t) (va_A [(h0, .inr (6, oX7 r0 I_0_fraction I_0_bias I_0_most I_0_signBit I_0_infinite I_0_nan)), (h1, .inl (cI, 5, .inl A1))] sz)) 0 0 (va_A [(h0, .inr (6, oX7 r0 I_0_fraction I_0_bias I_0_most I_0_signBit I_0_infinite I_0_nan)), (h1, .inl (cI, 5, .inl A1))] sz) := by
  refine m_met (own := RX7) (cc := cX7_risingAt) (maxL := 7) (ret := some .long) [.ref h0, .ref h1, .long x2] [(0, .ref h0), (1, .ref h1), (2, .long x2)] (by decide) rfl rfl (Nat.le_of_ble_eq_true rfl) rfl ?_
  intro p e s m args below meth c Q A hQ hA C0 hr hnm hsz hM ls hl
  have hx := C0.1
  have hb := C0.2.1
  have hown := C0.2.2.2.1
  have lq6 : ∀ (k6 : Nat) (x4 : Int64) (x6 : Int32) (H : Heap) (locs : List Loc) (ls : Array Slot) , lp_X7_risingAt_6 x2 I_0_fraction I_0_bias I_0_most I_0_signBit I_0_infinite I_0_nan A1 K k6 x4 x6 → MW D A s.heap [(h0, .inr (6, oX7 r0 I_0_fraction I_0_bias I_0_most I_0_signBit I_0_infinite I_0_nan)), (h1, .inl (cI, 5, .inl A1))] H locs → lv_has ls 7 [(0, .ref h0), (1, .ref h1), (2, .long x2), (4, .long x4), (6, .int x6)] → W p l e rm_X7_risingAt s m args below meth c H locs 0 0 Q (F0 m 6 ls []) := by
    intro k6
    induction k6 with
    | zero =>
      intro x4 x6 H locs ls h
      unfold lp_X7_risingAt_6 at h
      exact h.elim
    | succ k6 ih6 =>
      intro x4 x6 H locs ls h hM hl
      unfold lp_X7_risingAt_6 at h
      refine lv_iload hx hb dX7_risingAt_6 (lv_at hl 4 rfl) ?_
      refine lv_iconst (v := (1 : Int32)) hx hb dX7_risingAt_8 (by decide) ?_
      refine lv_icmp_lt (tgt := 42) hx hb dX7_risingAt_9 (by decide) (fun hq => ?_) (fun hq => ?_)
      · have h := h.1 hq
        refine lv_lload hx hb dX7_risingAt_42 (lv_at hl 3 rfl) ?_
        subst hsz; subst hA; subst hQ
        exact m_lret C0 hr hM () h rfl dX7_risingAt_44
      · have h := h.2 hq
        refine lv_aload_n hx hb dX7_risingAt_12 rfl (lv_at hl 0 rfl) ?_
        refine lv_aload_n hx hb dX7_risingAt_13 rfl (lv_at hl 0 rfl) ?_
        refine lv_lload hx hb dX7_risingAt_14 (lv_at hl 3 rfl) ?_
        refine lv_lload_n hx hb dX7_risingAt_16 rfl (lv_at hl 2 rfl) ?_
        refine m_calll (wc := [(h0, .inr (6, oX7 r0 I_0_fraction I_0_bias I_0_most I_0_signBit I_0_infinite I_0_nan))]) C0 hM [0] rfl (m_runV (wc := [(h0, .inr (6, oX7 r0 I_0_fraction I_0_bias I_0_most I_0_signBit I_0_infinite I_0_nan))]) (As := [.long x4, .long x2]) (rest := [.ref h0]) (ci := 6) C0 hM (ct_X7_times l D cI cJ cZ h0 r0 I_0_fraction I_0_bias I_0_most I_0_signBit I_0_infinite I_0_nan x4 x2 _ _ h) [0] rfl (by decide) gX7_risingAt_X7_times rfl rfl rfl rfl rfl hd_X7_times ⟨Nat.le_of_ble_eq_true rfl, Nat.le_of_ble_eq_true rfl⟩ rfl hl.1 rfl (Nat.le_of_ble_eq_true rfl) dX7_risingAt_17 ⟨Nat.le_of_ble_eq_true rfl, Nat.le_of_ble_eq_true rfl⟩) (fun _ => [(h0, .inr (6, oX7 r0 I_0_fraction I_0_bias I_0_most I_0_signBit I_0_infinite I_0_nan)), (h1, .inl (cI, 5, .inl A1))]) (fun _ => rfl) (fun _ => rfl) (fun y1 _ H locs h hM => ?_)
        refine lv_aload_n hx hb dX7_risingAt_20 rfl (lv_at hl 0 rfl) ?_
        refine lv_iload hx hb dX7_risingAt_21 (lv_at hl 4 rfl) ?_
        refine lv_aload_n hx hb dX7_risingAt_23 rfl (lv_at hl 1 rfl) ?_
        refine lv_iload hx hb dX7_risingAt_24 (lv_at hl 4 rfl) ?_
        obtain ⟨hc2, h⟩ := h
        refine m_iald C0 hM 1 rfl hc2 dX7_risingAt_26 ?_
        refine lv_imul hx hb dX7_risingAt_27 ?_
        refine m_calll (wc := [(h0, .inr (6, oX7 r0 I_0_fraction I_0_bias I_0_most I_0_signBit I_0_infinite I_0_nan))]) C0 hM [0] rfl (m_runV (wc := [(h0, .inr (6, oX7 r0 I_0_fraction I_0_bias I_0_most I_0_signBit I_0_infinite I_0_nan))]) (As := [.int (x6 * (A1 (x6).toNatClampNeg))]) (rest := [.long y1, .ref h0]) (ci := 6) C0 hM (ct_X7_ofWhole l D cI cJ cZ h0 r0 I_0_fraction I_0_bias I_0_most I_0_signBit I_0_infinite I_0_nan (x6 * (A1 (x6).toNatClampNeg)) _ _ h) [0] rfl (by decide) gX7_risingAt_X7_ofWhole rfl rfl rfl rfl rfl hd_X7_ofWhole ⟨Nat.le_of_ble_eq_true rfl, Nat.le_of_ble_eq_true rfl⟩ rfl hl.1 rfl (Nat.le_of_ble_eq_true rfl) dX7_risingAt_28 ⟨Nat.le_of_ble_eq_true rfl, Nat.le_of_ble_eq_true rfl⟩) (fun _ => [(h0, .inr (6, oX7 r0 I_0_fraction I_0_bias I_0_most I_0_signBit I_0_infinite I_0_nan)), (h1, .inl (cI, 5, .inl A1))]) (fun _ => rfl) (fun _ => rfl) (fun y3 _ H locs h hM => ?_)
        refine m_calll (wc := [(h0, .inr (6, oX7 r0 I_0_fraction I_0_bias I_0_most I_0_signBit I_0_infinite I_0_nan))]) C0 hM [0] rfl (m_runV (wc := [(h0, .inr (6, oX7 r0 I_0_fraction I_0_bias I_0_most I_0_signBit I_0_infinite I_0_nan))]) (As := [.long y1, .long y3]) (rest := []) (ci := 6) C0 hM (ct_X7_plus l D cI cJ cZ h0 r0 I_0_fraction I_0_bias I_0_most I_0_signBit I_0_infinite I_0_nan y1 y3 _ _ h) [0] rfl (by decide) gX7_risingAt_X7_plus rfl rfl rfl rfl rfl hd_X7_plus ⟨Nat.le_of_ble_eq_true rfl, Nat.le_of_ble_eq_true rfl⟩ rfl hl.1 rfl (Nat.le_of_ble_eq_true rfl) dX7_risingAt_31 ⟨Nat.le_of_ble_eq_true rfl, Nat.le_of_ble_eq_true rfl⟩) (fun _ => [(h0, .inr (6, oX7 r0 I_0_fraction I_0_bias I_0_most I_0_signBit I_0_infinite I_0_nan)), (h1, .inl (cI, 5, .inl A1))]) (fun _ => rfl) (fun _ => rfl) (fun y4 _ H locs h hM => ?_)
        refine lv_lstore (lv' := [(4, .long y4), (0, .ref h0), (1, .ref h1), (2, .long x2), (6, .int x6)]) hx hb dX7_risingAt_34 hl (by decide) rfl (fun ls hl => ?_)
        refine lv_iinc (v := (x6 + (-1 : Int32))) (lv' := [(6, .int (x6 + (-1 : Int32))), (4, .long y4), (0, .ref h0), (1, .ref h1), (2, .long x2)]) hx hb dX7_risingAt_36 hl (k := 4) rfl rfl (by decide) rfl (fun ls hl => ?_)
        refine lv_goto (tgt := 6) hx hb dX7_risingAt_39 (by decide) ?_
        exact ih6 _ _ _ _ _ h hM (lv_sub hl [2, 3, 4, 1, 0] rfl)
  unfold wp_X7_risingAt at h
  refine lv_lconst (v := (0 : Int64)) hx hb dX7_risingAt_0 (by decide) ?_
  refine lv_lstore (lv' := [(4, .long (0 : Int64)), (0, .ref h0), (1, .ref h1), (2, .long x2)]) hx hb dX7_risingAt_1 hl (by decide) rfl (fun ls hl => ?_)
  refine lv_iconst (v := (4 : Int32)) hx hb dX7_risingAt_3 (by decide) ?_
  refine lv_istore (lv' := [(6, .int (4 : Int32)), (4, .long (0 : Int64)), (0, .ref h0), (1, .ref h1), (2, .long x2)]) hx hb dX7_risingAt_4 hl (by decide) rfl (fun ls hl => ?_)
  obtain ⟨k0, h⟩ := h
  exact lq6 k0 _ _ _ _ _ h hM (lv_sub hl [2, 3, 4, 1, 0] rfl)
abbrev rm_X7_shortQuotient : Room := { frames := 2, cells := 0, slots := 0, locals := 48 }
set_option maxRecDepth 100000 in
set_option maxHeartbeats 4000000 in
theorem ct_X7_shortQuotient (l : Launch) (D : va_G) (cI cJ cZ : ClassId) (h0 : Nat) (r0 : Nat → Nat) (I_0_fraction : Int32) (I_0_bias : Int32) (I_0_most : Int32) (I_0_signBit : Int64) (I_0_infinite : Int64) (I_0_nan : Int64) (x1 : Int64) (x3 : Int64) (sz : Nat) (K : Int64 → Prop) (h : wp_X7_shortQuotient x1 x3 I_0_fraction I_0_bias I_0_most I_0_signBit I_0_infinite I_0_nan K) : Met l yX7_shortQuotient wsX7_shortQuotient rm_X7_shortQuotient (va_Pc [.ref h0, .long x1, .long x3] (WX D cI cJ cZ [(h0, .inr (6, oX7 r0 I_0_fraction I_0_bias I_0_most I_0_signBit I_0_infinite I_0_nan))] sz)) (va_Ql (fun (r : Int64) (_ : Unit) => K r ) (fun (_ : Unit) t => WY D (va_A [(h0, .inr (6, oX7 r0 I_0_fraction I_0_bias I_0_most I_0_signBit I_0_infinite I_0_nan))] sz) [(h0, .inr (6, oX7 r0 I_0_fraction I_0_bias I_0_most I_0_signBit I_0_infinite I_0_nan))] t) (va_A [(h0, .inr (6, oX7 r0 I_0_fraction I_0_bias I_0_most I_0_signBit I_0_infinite I_0_nan))] sz)) 0 0 (va_A [(h0, .inr (6, oX7 r0 I_0_fraction I_0_bias I_0_most I_0_signBit I_0_infinite I_0_nan))] sz) := by
  refine m_met (own := RX7) (cc := cX7_shortQuotient) (maxL := 20) (ret := some .long) [.ref h0, .long x1, .long x3] [(0, .ref h0), (1, .long x1), (3, .long x3)] (by decide) rfl rfl (Nat.le_of_ble_eq_true rfl) rfl ?_
  intro p e s m args below meth c Q A hQ hA C0 hr hnm hsz hM ls hl
  have hx := C0.1
  have hb := C0.2.1
  have hown := C0.2.2.2.1
  have jq202 : ∀ (x5 : Int64) (x7 : Int64) (x9 : Int64) (s0 : Int64) (s1 : Int32) (H : Heap) (locs : List Loc) (ls : Array Slot) , jn_X7_shortQuotient_202 x1 x3 I_0_fraction I_0_bias I_0_most I_0_signBit I_0_infinite I_0_nan K x5 x7 x9 s0 s1 → MW D A s.heap [(h0, .inr (6, oX7 r0 I_0_fraction I_0_bias I_0_most I_0_signBit I_0_infinite I_0_nan))] H locs → lv_has ls 20 [(0, .ref h0), (5, .long x5), (7, .long x7), (9, .long x9)] → W p l e rm_X7_shortQuotient s m args below meth c H locs 0 0 Q (F0 m 202 ls [.int s1, .long s0]) := by
    intro x5 x7 x9 s0 s1 H locs ls h hM hl
    unfold jn_X7_shortQuotient_202 at h
    refine lv_i2l hx hb dX7_shortQuotient_202 rfl ?_
    refine lv_lor hx hb dX7_shortQuotient_203 ?_
    refine lv_topl (fun y1 ey1 => ?_)
    have h := h y1 ey1
    refine lv_lstore (lv' := [(17, .long y1), (0, .ref h0), (5, .long x5), (7, .long x7), (9, .long x9)]) hx hb dX7_shortQuotient_204 hl (by decide) rfl (fun ls hl => ?_)
    refine lv_lload hx hb dX7_shortQuotient_206 (lv_at hl 0 rfl) ?_
    refine m_calli (wc := []) C0 hM [] rfl (m_runS (wc := []) (As := [.long y1]) (rest := []) C0 hM (ct_X7_gapOf l D cI cJ cZ y1 _ _ h) [] rfl (by decide) gX7_shortQuotient_X7_gapOf rfl rfl rfl hd_X7_gapOf ⟨Nat.le_of_ble_eq_true rfl, Nat.le_of_ble_eq_true rfl⟩ rfl hl.1 rfl (Nat.le_of_ble_eq_true rfl) dX7_shortQuotient_208 ⟨Nat.le_of_ble_eq_true rfl, Nat.le_of_ble_eq_true rfl⟩) (fun _ => [(h0, .inr (6, oX7 r0 I_0_fraction I_0_bias I_0_most I_0_signBit I_0_infinite I_0_nan))]) (fun _ => rfl) (fun _ => rfl) (fun y2 _ H locs h hM => ?_)
    refine lv_istore (lv' := [(19, .int y2), (17, .long y1), (0, .ref h0), (5, .long x5), (7, .long x7), (9, .long x9)]) hx hb dX7_shortQuotient_211 hl (by decide) rfl (fun ls hl => ?_)
    refine lv_aload_n hx hb dX7_shortQuotient_213 rfl (lv_at hl 2 rfl) ?_
    refine lv_lload hx hb dX7_shortQuotient_214 (lv_at hl 3 rfl) ?_
    refine lv_aload_n hx hb dX7_shortQuotient_216 rfl (lv_at hl 2 rfl) ?_
    refine lv_lload hx hb dX7_shortQuotient_217 (lv_at hl 4 rfl) ?_
    refine m_calli (wc := [(h0, .inr (6, oX7 r0 I_0_fraction I_0_bias I_0_most I_0_signBit I_0_infinite I_0_nan))]) C0 hM [0] rfl (m_runV (wc := [(h0, .inr (6, oX7 r0 I_0_fraction I_0_bias I_0_most I_0_signBit I_0_infinite I_0_nan))]) (As := [.long x7]) (rest := [.long x5, .ref h0]) (ci := 6) C0 hM (ct_X7_exponentOf l D cI cJ cZ h0 r0 I_0_fraction I_0_bias I_0_most I_0_signBit I_0_infinite I_0_nan x7 _ _ h) [0] rfl (by decide) gX7_shortQuotient_X7_exponentOf rfl rfl rfl rfl rfl hd_X7_exponentOf ⟨Nat.le_of_ble_eq_true rfl, Nat.le_of_ble_eq_true rfl⟩ rfl hl.1 rfl (Nat.le_of_ble_eq_true rfl) dX7_shortQuotient_219 ⟨Nat.le_of_ble_eq_true rfl, Nat.le_of_ble_eq_true rfl⟩) (fun _ => [(h0, .inr (6, oX7 r0 I_0_fraction I_0_bias I_0_most I_0_signBit I_0_infinite I_0_nan))]) (fun _ => rfl) (fun _ => rfl) (fun y3 _ H locs h hM => ?_)
    refine lv_aload_n hx hb dX7_shortQuotient_222 rfl (lv_at hl 2 rfl) ?_
    refine lv_lload hx hb dX7_shortQuotient_223 (lv_at hl 5 rfl) ?_
    refine m_calli (wc := [(h0, .inr (6, oX7 r0 I_0_fraction I_0_bias I_0_most I_0_signBit I_0_infinite I_0_nan))]) C0 hM [0] rfl (m_runV (wc := [(h0, .inr (6, oX7 r0 I_0_fraction I_0_bias I_0_most I_0_signBit I_0_infinite I_0_nan))]) (As := [.long x9]) (rest := [.int y3, .long x5, .ref h0]) (ci := 6) C0 hM (ct_X7_exponentOf l D cI cJ cZ h0 r0 I_0_fraction I_0_bias I_0_most I_0_signBit I_0_infinite I_0_nan x9 _ _ h) [0] rfl (by decide) gX7_shortQuotient_X7_exponentOf rfl rfl rfl rfl rfl hd_X7_exponentOf ⟨Nat.le_of_ble_eq_true rfl, Nat.le_of_ble_eq_true rfl⟩ rfl hl.1 rfl (Nat.le_of_ble_eq_true rfl) dX7_shortQuotient_225 ⟨Nat.le_of_ble_eq_true rfl, Nat.le_of_ble_eq_true rfl⟩) (fun _ => [(h0, .inr (6, oX7 r0 I_0_fraction I_0_bias I_0_most I_0_signBit I_0_infinite I_0_nan))]) (fun _ => rfl) (fun _ => rfl) (fun y4 _ H locs h hM => ?_)
    refine lv_isub hx hb dX7_shortQuotient_228 ?_
    refine lv_iconst (v := (1 : Int32)) hx hb dX7_shortQuotient_229 (by decide) ?_
    refine lv_iadd hx hb dX7_shortQuotient_230 ?_
    refine lv_iload hx hb dX7_shortQuotient_231 (lv_at hl 0 rfl) ?_
    refine lv_isub hx hb dX7_shortQuotient_233 ?_
    refine lv_lload hx hb dX7_shortQuotient_234 (lv_at hl 1 rfl) ?_
    refine lv_iload hx hb dX7_shortQuotient_236 (lv_at hl 0 rfl) ?_
    refine lv_lshl hx hb dX7_shortQuotient_238 rfl ?_
    refine m_calll (wc := [(h0, .inr (6, oX7 r0 I_0_fraction I_0_bias I_0_most I_0_signBit I_0_infinite I_0_nan))]) C0 hM [0] rfl (m_runV (wc := [(h0, .inr (6, oX7 r0 I_0_fraction I_0_bias I_0_most I_0_signBit I_0_infinite I_0_nan))]) (As := [.long x5, .int (((y3 - y4) + (1 : Int32)) - y2), .long (y1 <<< (y2.toInt64 &&& 63))]) (rest := []) (ci := 6) C0 hM (ct_X7_rounded l D cI cJ cZ h0 r0 I_0_fraction I_0_bias I_0_most I_0_signBit I_0_infinite I_0_nan x5 (((y3 - y4) + (1 : Int32)) - y2) (y1 <<< (y2.toInt64 &&& 63)) _ _ h) [0] rfl (by decide) gX7_shortQuotient_X7_rounded rfl rfl rfl rfl rfl hd_X7_rounded ⟨Nat.le_of_ble_eq_true rfl, Nat.le_of_ble_eq_true rfl⟩ rfl hl.1 rfl (Nat.le_of_ble_eq_true rfl) dX7_shortQuotient_239 ⟨Nat.le_of_ble_eq_true rfl, Nat.le_of_ble_eq_true rfl⟩) (fun _ => [(h0, .inr (6, oX7 r0 I_0_fraction I_0_bias I_0_most I_0_signBit I_0_infinite I_0_nan))]) (fun _ => rfl) (fun _ => rfl) (fun y5 _ H locs h hM => ?_)
    subst hsz; subst hA; subst hQ
    exact m_lret C0 hr hM () h rfl dX7_shortQuotient_242
  have jq120 : ∀ (x5 : Int64) (x7 : Int64) (x9 : Int64) (s0 : Int64) (H : Heap) (locs : List Loc) (ls : Array Slot) , jn_X7_shortQuotient_120 x1 x3 I_0_fraction I_0_bias I_0_most I_0_signBit I_0_infinite I_0_nan K x5 x7 x9 s0 → MW D A s.heap [(h0, .inr (6, oX7 r0 I_0_fraction I_0_bias I_0_most I_0_signBit I_0_infinite I_0_nan))] H locs → lv_has ls 20 [(0, .ref h0), (5, .long x5), (7, .long x7), (9, .long x9)] → W p l e rm_X7_shortQuotient s m args below meth c H locs 0 0 Q (F0 m 120 ls [.long s0]) := by
    intro x5 x7 x9 s0 H locs ls h hM hl
    unfold jn_X7_shortQuotient_120 at h
    refine lv_lstore (lv' := [(11, .long s0), (0, .ref h0), (5, .long x5), (7, .long x7), (9, .long x9)]) hx hb dX7_shortQuotient_120 hl (by decide) rfl (fun ls hl => ?_)
    refine lv_lload hx hb dX7_shortQuotient_122 (lv_at hl 0 rfl) ?_
    refine lv_lconst (v := (0 : Int64)) hx hb dX7_shortQuotient_124 (by decide) ?_
    refine W.lcmp hx hb dX7_shortQuotient_125 ?_
    refine lv_if_ne (tgt := 151) hx hb dX7_shortQuotient_126 (by decide) (fun hq => ?_) (fun hq => ?_)
    · have h := h.1 hq
      refine lv_lload hx hb dX7_shortQuotient_151 (lv_at hl 3 rfl) ?_
      refine lv_lconst (v := (0 : Int64)) hx hb dX7_shortQuotient_153 (by decide) ?_
      refine W.lcmp hx hb dX7_shortQuotient_154 ?_
      refine lv_if_ne (tgt := 161) hx hb dX7_shortQuotient_155 (by decide) (fun hq => ?_) (fun hq => ?_)
      · have h := h.1 hq
        refine lv_aload_n hx hb dX7_shortQuotient_161 rfl (lv_at hl 1 rfl) ?_
        refine lv_lload hx hb dX7_shortQuotient_162 (lv_at hl 3 rfl) ?_
        refine m_calll (wc := [(h0, .inr (6, oX7 r0 I_0_fraction I_0_bias I_0_most I_0_signBit I_0_infinite I_0_nan))]) C0 hM [0] rfl (m_runV (wc := [(h0, .inr (6, oX7 r0 I_0_fraction I_0_bias I_0_most I_0_signBit I_0_infinite I_0_nan))]) (As := [.long x7]) (rest := []) (ci := 6) C0 hM (ct_X7_significandOf l D cI cJ cZ h0 r0 I_0_fraction I_0_bias I_0_most I_0_signBit I_0_infinite I_0_nan x7 _ _ h) [0] rfl (by decide) gX7_shortQuotient_X7_significandOf rfl rfl rfl rfl rfl hd_X7_significandOf ⟨Nat.le_of_ble_eq_true rfl, Nat.le_of_ble_eq_true rfl⟩ rfl hl.1 rfl (Nat.le_of_ble_eq_true rfl) dX7_shortQuotient_164 ⟨Nat.le_of_ble_eq_true rfl, Nat.le_of_ble_eq_true rfl⟩) (fun _ => [(h0, .inr (6, oX7 r0 I_0_fraction I_0_bias I_0_most I_0_signBit I_0_infinite I_0_nan))]) (fun _ => rfl) (fun _ => rfl) (fun y6 _ H locs h hM => ?_)
        refine lv_bipush (v := (39 : Int32)) hx hb dX7_shortQuotient_167 (by decide) ?_
        refine lv_lushr hx hb dX7_shortQuotient_169 rfl ?_
        refine lv_bipush (v := (39 : Int32)) hx hb dX7_shortQuotient_170 (by decide) ?_
        refine lv_lshl hx hb dX7_shortQuotient_172 rfl ?_
        refine lv_topl (fun y7 ey7 => ?_)
        have h := h y7 ey7
        refine lv_lstore (lv' := [(13, .long y7), (11, .long s0), (0, .ref h0), (5, .long x5), (7, .long x7), (9, .long x9)]) hx hb dX7_shortQuotient_173 hl (by decide) rfl (fun ls hl => ?_)
        refine lv_lload hx hb dX7_shortQuotient_175 (lv_at hl 0 rfl) ?_
        refine lv_lload hx hb dX7_shortQuotient_177 (lv_at hl 1 rfl) ?_
        obtain ⟨hc8, h⟩ := h
        refine lv_ldiv hx hb dX7_shortQuotient_179 hc8 ?_
        refine lv_topl (fun y9 ey9 => ?_)
        have h := h y9 ey9
        refine lv_lstore (lv' := [(15, .long y9), (13, .long y7), (11, .long s0), (0, .ref h0), (5, .long x5), (7, .long x7), (9, .long x9)]) hx hb dX7_shortQuotient_180 hl (by decide) rfl (fun ls hl => ?_)
        refine lv_lload hx hb dX7_shortQuotient_182 (lv_at hl 0 rfl) ?_
        refine lv_bipush (v := (22 : Int32)) hx hb dX7_shortQuotient_184 (by decide) ?_
        refine lv_lshl hx hb dX7_shortQuotient_186 rfl ?_
        refine lv_lload hx hb dX7_shortQuotient_187 (lv_at hl 1 rfl) ?_
        refine lv_lload hx hb dX7_shortQuotient_189 (lv_at hl 2 rfl) ?_
        refine lv_lrem hx hb dX7_shortQuotient_191 hc8 ?_
        refine lv_lconst (v := (0 : Int64)) hx hb dX7_shortQuotient_192 (by decide) ?_
        refine W.lcmp hx hb dX7_shortQuotient_193 ?_
        refine lv_if_eq (tgt := 201) hx hb dX7_shortQuotient_194 (by decide) (fun hq => ?_) (fun hq => ?_)
        · have h := h.1 hq
          refine lv_iconst (v := (0 : Int32)) hx hb dX7_shortQuotient_201 (by decide) ?_
          exact jq202 _ _ _ _ _ _ _ _ h hM (lv_sub hl [3, 4, 5, 6] rfl)
        · have h := h.2 hq
          refine lv_iconst (v := (1 : Int32)) hx hb dX7_shortQuotient_197 (by decide) ?_
          refine lv_goto (tgt := 202) hx hb dX7_shortQuotient_198 (by decide) ?_
          exact jq202 _ _ _ _ _ _ _ _ h hM (lv_sub hl [3, 4, 5, 6] rfl)
      · have h := h.2 hq
        refine lv_lload hx hb dX7_shortQuotient_158 (lv_at hl 2 rfl) ?_
        subst hsz; subst hA; subst hQ
        exact m_lret C0 hr hM () h rfl dX7_shortQuotient_160
    · have h := h.2 hq
      refine lv_lload hx hb dX7_shortQuotient_129 (lv_at hl 3 rfl) ?_
      refine lv_lconst (v := (0 : Int64)) hx hb dX7_shortQuotient_131 (by decide) ?_
      refine W.lcmp hx hb dX7_shortQuotient_132 ?_
      refine lv_if_ne (tgt := 143) hx hb dX7_shortQuotient_133 (by decide) (fun hq => ?_) (fun hq => ?_)
      · have h := h.1 hq
        refine lv_lload hx hb dX7_shortQuotient_143 (lv_at hl 2 rfl) ?_
        refine lv_aload_n hx hb dX7_shortQuotient_145 rfl (lv_at hl 1 rfl) ?_
        refine m_get (C := RX7) (T := TX7) (N := 6) (ci := 6) (ref := "LoweredPowers$Reals") (v := .long I_0_infinite) C0 hM 0 rfl rfl kt_X7_shortQuotient_X7 4 (by decide) kw_X7_shortQuotient_2 rfl rfl dX7_shortQuotient_146 ?_
        refine lv_lor hx hb dX7_shortQuotient_149 ?_
        subst hsz; subst hA; subst hQ
        exact m_lret C0 hr hM () h rfl dX7_shortQuotient_150
      · have h := h.2 hq
        refine lv_aload_n hx hb dX7_shortQuotient_136 rfl (lv_at hl 1 rfl) ?_
        refine m_get (C := RX7) (T := TX7) (N := 6) (ci := 6) (ref := "LoweredPowers$Reals") (v := .long I_0_nan) C0 hM 0 rfl rfl kt_X7_shortQuotient_X7 5 (by decide) kw_X7_shortQuotient_3 rfl rfl dX7_shortQuotient_137 ?_
        refine lv_goto (tgt := 150) hx hb dX7_shortQuotient_140 (by decide) ?_
        subst hsz; subst hA; subst hQ
        exact m_lret C0 hr hM () h rfl dX7_shortQuotient_150
  have jq69 : ∀ (x5 : Int64) (x7 : Int64) (x9 : Int64) (H : Heap) (locs : List Loc) (ls : Array Slot) , jn_X7_shortQuotient_69 x1 x3 I_0_fraction I_0_bias I_0_most I_0_signBit I_0_infinite I_0_nan K x5 x7 x9 → MW D A s.heap [(h0, .inr (6, oX7 r0 I_0_fraction I_0_bias I_0_most I_0_signBit I_0_infinite I_0_nan))] H locs → lv_has ls 20 [(0, .ref h0), (5, .long x5), (7, .long x7), (9, .long x9)] → W p l e rm_X7_shortQuotient s m args below meth c H locs 0 0 Q (F0 m 69 ls []) := by
    intro x5 x7 x9 H locs ls h hM hl
    unfold jn_X7_shortQuotient_69 at h
    refine lv_lload hx hb dX7_shortQuotient_69 (lv_at hl 2 rfl) ?_
    refine lv_aload_n hx hb dX7_shortQuotient_71 rfl (lv_at hl 0 rfl) ?_
    refine m_get (C := RX7) (T := TX7) (N := 6) (ci := 6) (ref := "LoweredPowers$Reals") (v := .long I_0_infinite) C0 hM 0 rfl rfl kt_X7_shortQuotient_X7 4 (by decide) kw_X7_shortQuotient_2 rfl rfl dX7_shortQuotient_72 ?_
    refine W.lcmp hx hb dX7_shortQuotient_75 ?_
    refine lv_if_ne (tgt := 87) hx hb dX7_shortQuotient_76 (by decide) (fun hq => ?_) (fun hq => ?_)
    · have h := h.1 hq
      refine lv_lload hx hb dX7_shortQuotient_87 (lv_at hl 3 rfl) ?_
      refine lv_aload_n hx hb dX7_shortQuotient_89 rfl (lv_at hl 0 rfl) ?_
      refine m_get (C := RX7) (T := TX7) (N := 6) (ci := 6) (ref := "LoweredPowers$Reals") (v := .long I_0_infinite) C0 hM 0 rfl rfl kt_X7_shortQuotient_X7 4 (by decide) kw_X7_shortQuotient_2 rfl rfl dX7_shortQuotient_90 ?_
      refine W.lcmp hx hb dX7_shortQuotient_93 ?_
      refine lv_if_ne (tgt := 100) hx hb dX7_shortQuotient_94 (by decide) (fun hq => ?_) (fun hq => ?_)
      · have h := h.1 hq
        refine lv_lload hx hb dX7_shortQuotient_100 (lv_at hl 3 rfl) ?_
        refine lv_lconst (v := (0 : Int64)) hx hb dX7_shortQuotient_102 (by decide) ?_
        refine W.lcmp hx hb dX7_shortQuotient_103 ?_
        refine lv_if_ne (tgt := 111) hx hb dX7_shortQuotient_104 (by decide) (fun hq => ?_) (fun hq => ?_)
        · have h := h.1 hq
          refine lv_aload_n hx hb dX7_shortQuotient_111 rfl (lv_at hl 0 rfl) ?_
          refine lv_lload hx hb dX7_shortQuotient_112 (lv_at hl 3 rfl) ?_
          refine m_calll (wc := [(h0, .inr (6, oX7 r0 I_0_fraction I_0_bias I_0_most I_0_signBit I_0_infinite I_0_nan))]) C0 hM [0] rfl (m_runV (wc := [(h0, .inr (6, oX7 r0 I_0_fraction I_0_bias I_0_most I_0_signBit I_0_infinite I_0_nan))]) (As := [.long x9]) (rest := []) (ci := 6) C0 hM (ct_X7_significandOf l D cI cJ cZ h0 r0 I_0_fraction I_0_bias I_0_most I_0_signBit I_0_infinite I_0_nan x9 _ _ h) [0] rfl (by decide) gX7_shortQuotient_X7_significandOf rfl rfl rfl rfl rfl hd_X7_significandOf ⟨Nat.le_of_ble_eq_true rfl, Nat.le_of_ble_eq_true rfl⟩ rfl hl.1 rfl (Nat.le_of_ble_eq_true rfl) dX7_shortQuotient_114 ⟨Nat.le_of_ble_eq_true rfl, Nat.le_of_ble_eq_true rfl⟩) (fun _ => [(h0, .inr (6, oX7 r0 I_0_fraction I_0_bias I_0_most I_0_signBit I_0_infinite I_0_nan))]) (fun _ => rfl) (fun _ => rfl) (fun y11 _ H locs h hM => ?_)
          refine lv_bipush (v := (39 : Int32)) hx hb dX7_shortQuotient_117 (by decide) ?_
          refine lv_lushr hx hb dX7_shortQuotient_119 rfl ?_
          exact jq120 _ _ _ _ _ _ _ h hM (lv_sub hl [0, 1, 2, 3] rfl)
        · have h := h.2 hq
          refine lv_lconst (v := (0 : Int64)) hx hb dX7_shortQuotient_107 (by decide) ?_
          refine lv_goto (tgt := 120) hx hb dX7_shortQuotient_108 (by decide) ?_
          exact jq120 _ _ _ _ _ _ _ h hM (lv_sub hl [0, 1, 2, 3] rfl)
      · have h := h.2 hq
        refine lv_lload hx hb dX7_shortQuotient_97 (lv_at hl 1 rfl) ?_
        subst hsz; subst hA; subst hQ
        exact m_lret C0 hr hM () h rfl dX7_shortQuotient_99
    · have h := h.2 hq
      refine lv_lload hx hb dX7_shortQuotient_79 (lv_at hl 1 rfl) ?_
      refine lv_aload_n hx hb dX7_shortQuotient_81 rfl (lv_at hl 0 rfl) ?_
      refine m_get (C := RX7) (T := TX7) (N := 6) (ci := 6) (ref := "LoweredPowers$Reals") (v := .long I_0_infinite) C0 hM 0 rfl rfl kt_X7_shortQuotient_X7 4 (by decide) kw_X7_shortQuotient_2 rfl rfl dX7_shortQuotient_82 ?_
      refine lv_lor hx hb dX7_shortQuotient_85 ?_
      subst hsz; subst hA; subst hQ
      exact m_lret C0 hr hM () h rfl dX7_shortQuotient_86
  have jq64 : ∀  (H : Heap) (locs : List Loc) (ls : Array Slot) , jn_X7_shortQuotient_64 x1 x3 I_0_fraction I_0_bias I_0_most I_0_signBit I_0_infinite I_0_nan K  → MW D A s.heap [(h0, .inr (6, oX7 r0 I_0_fraction I_0_bias I_0_most I_0_signBit I_0_infinite I_0_nan))] H locs → lv_has ls 20 [(0, .ref h0)] → W p l e rm_X7_shortQuotient s m args below meth c H locs 0 0 Q (F0 m 64 ls []) := by
    intro  H locs ls h hM hl
    unfold jn_X7_shortQuotient_64 at h
    refine lv_aload_n hx hb dX7_shortQuotient_64 rfl (lv_at hl 0 rfl) ?_
    refine m_get (C := RX7) (T := TX7) (N := 6) (ci := 6) (ref := "LoweredPowers$Reals") (v := .long I_0_nan) C0 hM 0 rfl rfl kt_X7_shortQuotient_X7 5 (by decide) kw_X7_shortQuotient_3 rfl rfl dX7_shortQuotient_65 ?_
    subst hsz; subst hA; subst hQ
    exact m_lret C0 hr hM () h rfl dX7_shortQuotient_68
  unfold wp_X7_shortQuotient at h
  refine lv_lload_n hx hb dX7_shortQuotient_0 rfl (lv_at hl 1 rfl) ?_
  refine lv_lload_n hx hb dX7_shortQuotient_1 rfl (lv_at hl 2 rfl) ?_
  refine lv_lxor hx hb dX7_shortQuotient_2 ?_
  refine lv_aload_n hx hb dX7_shortQuotient_3 rfl (lv_at hl 0 rfl) ?_
  refine m_get (C := RX7) (T := TX7) (N := 6) (ci := 6) (ref := "LoweredPowers$Reals") (v := .long I_0_signBit) C0 hM 0 rfl rfl kt_X7_shortQuotient_X7 3 (by decide) kw_X7_shortQuotient_1 rfl rfl dX7_shortQuotient_4 ?_
  refine lv_land hx hb dX7_shortQuotient_7 ?_
  refine lv_topl (fun y12 ey12 => ?_)
  have h := h y12 ey12
  refine lv_lstore (lv' := [(5, .long y12), (0, .ref h0), (1, .long x1), (3, .long x3)]) hx hb dX7_shortQuotient_8 hl (by decide) rfl (fun ls hl => ?_)
  refine lv_aload_n hx hb dX7_shortQuotient_10 rfl (lv_at hl 1 rfl) ?_
  refine lv_lload_n hx hb dX7_shortQuotient_11 rfl (lv_at hl 2 rfl) ?_
  refine m_calll (wc := [(h0, .inr (6, oX7 r0 I_0_fraction I_0_bias I_0_most I_0_signBit I_0_infinite I_0_nan))]) C0 hM [0] rfl (m_runV (wc := [(h0, .inr (6, oX7 r0 I_0_fraction I_0_bias I_0_most I_0_signBit I_0_infinite I_0_nan))]) (As := [.long x1]) (rest := []) (ci := 6) C0 hM (ct_X7_magnitude l D cI cJ cZ h0 r0 I_0_fraction I_0_bias I_0_most I_0_signBit I_0_infinite I_0_nan x1 _ _ h) [0] rfl (by decide) gX7_shortQuotient_X7_magnitude rfl rfl rfl rfl rfl hd_X7_magnitude ⟨Nat.le_of_ble_eq_true rfl, Nat.le_of_ble_eq_true rfl⟩ rfl hl.1 rfl (Nat.le_of_ble_eq_true rfl) dX7_shortQuotient_12 ⟨Nat.le_of_ble_eq_true rfl, Nat.le_of_ble_eq_true rfl⟩) (fun _ => [(h0, .inr (6, oX7 r0 I_0_fraction I_0_bias I_0_most I_0_signBit I_0_infinite I_0_nan))]) (fun _ => rfl) (fun _ => rfl) (fun y13 _ H locs h hM => ?_)
  refine lv_lstore (lv' := [(7, .long y13), (5, .long y12), (0, .ref h0), (1, .long x1), (3, .long x3)]) hx hb dX7_shortQuotient_15 hl (by decide) rfl (fun ls hl => ?_)
  refine lv_aload_n hx hb dX7_shortQuotient_17 rfl (lv_at hl 2 rfl) ?_
  refine lv_lload_n hx hb dX7_shortQuotient_18 rfl (lv_at hl 4 rfl) ?_
  refine m_calll (wc := [(h0, .inr (6, oX7 r0 I_0_fraction I_0_bias I_0_most I_0_signBit I_0_infinite I_0_nan))]) C0 hM [0] rfl (m_runV (wc := [(h0, .inr (6, oX7 r0 I_0_fraction I_0_bias I_0_most I_0_signBit I_0_infinite I_0_nan))]) (As := [.long x3]) (rest := []) (ci := 6) C0 hM (ct_X7_magnitude l D cI cJ cZ h0 r0 I_0_fraction I_0_bias I_0_most I_0_signBit I_0_infinite I_0_nan x3 _ _ h) [0] rfl (by decide) gX7_shortQuotient_X7_magnitude rfl rfl rfl rfl rfl hd_X7_magnitude ⟨Nat.le_of_ble_eq_true rfl, Nat.le_of_ble_eq_true rfl⟩ rfl hl.1 rfl (Nat.le_of_ble_eq_true rfl) dX7_shortQuotient_19 ⟨Nat.le_of_ble_eq_true rfl, Nat.le_of_ble_eq_true rfl⟩) (fun _ => [(h0, .inr (6, oX7 r0 I_0_fraction I_0_bias I_0_most I_0_signBit I_0_infinite I_0_nan))]) (fun _ => rfl) (fun _ => rfl) (fun y14 _ H locs h hM => ?_)
  refine lv_lstore (lv' := [(9, .long y14), (7, .long y13), (5, .long y12), (0, .ref h0), (1, .long x1), (3, .long x3)]) hx hb dX7_shortQuotient_22 hl (by decide) rfl (fun ls hl => ?_)
  refine lv_lload hx hb dX7_shortQuotient_24 (lv_at hl 1 rfl) ?_
  refine lv_aload_n hx hb dX7_shortQuotient_26 rfl (lv_at hl 3 rfl) ?_
  refine m_get (C := RX7) (T := TX7) (N := 6) (ci := 6) (ref := "LoweredPowers$Reals") (v := .long I_0_infinite) C0 hM 0 rfl rfl kt_X7_shortQuotient_X7 4 (by decide) kw_X7_shortQuotient_2 rfl rfl dX7_shortQuotient_27 ?_
  refine W.lcmp hx hb dX7_shortQuotient_30 ?_
  refine lv_if_gt (tgt := 64) hx hb dX7_shortQuotient_31 (by decide) (fun hq => ?_) (fun hq => ?_)
  · have h := h.1 hq
    exact jq64  _ _ _ h hM (lv_sub hl [3] rfl)
  · have h := h.2 hq
    refine lv_lload hx hb dX7_shortQuotient_34 (lv_at hl 0 rfl) ?_
    refine lv_aload_n hx hb dX7_shortQuotient_36 rfl (lv_at hl 3 rfl) ?_
    refine m_get (C := RX7) (T := TX7) (N := 6) (ci := 6) (ref := "LoweredPowers$Reals") (v := .long I_0_infinite) C0 hM 0 rfl rfl kt_X7_shortQuotient_X7 4 (by decide) kw_X7_shortQuotient_2 rfl rfl dX7_shortQuotient_37 ?_
    refine W.lcmp hx hb dX7_shortQuotient_40 ?_
    refine lv_if_gt (tgt := 64) hx hb dX7_shortQuotient_41 (by decide) (fun hq => ?_) (fun hq => ?_)
    · have h := h.1 hq
      exact jq64  _ _ _ h hM (lv_sub hl [3] rfl)
    · have h := h.2 hq
      refine lv_lload hx hb dX7_shortQuotient_44 (lv_at hl 1 rfl) ?_
      refine lv_aload_n hx hb dX7_shortQuotient_46 rfl (lv_at hl 3 rfl) ?_
      refine m_get (C := RX7) (T := TX7) (N := 6) (ci := 6) (ref := "LoweredPowers$Reals") (v := .long I_0_infinite) C0 hM 0 rfl rfl kt_X7_shortQuotient_X7 4 (by decide) kw_X7_shortQuotient_2 rfl rfl dX7_shortQuotient_47 ?_
      refine W.lcmp hx hb dX7_shortQuotient_50 ?_
      refine lv_if_ne (tgt := 69) hx hb dX7_shortQuotient_51 (by decide) (fun hq => ?_) (fun hq => ?_)
      · have h := h.1 hq
        exact jq69 _ _ _ _ _ _ h hM (lv_sub hl [3, 2, 1, 0] rfl)
      · have h := h.2 hq
        refine lv_lload hx hb dX7_shortQuotient_54 (lv_at hl 0 rfl) ?_
        refine lv_aload_n hx hb dX7_shortQuotient_56 rfl (lv_at hl 3 rfl) ?_
        refine m_get (C := RX7) (T := TX7) (N := 6) (ci := 6) (ref := "LoweredPowers$Reals") (v := .long I_0_infinite) C0 hM 0 rfl rfl kt_X7_shortQuotient_X7 4 (by decide) kw_X7_shortQuotient_2 rfl rfl dX7_shortQuotient_57 ?_
        refine W.lcmp hx hb dX7_shortQuotient_60 ?_
        refine lv_if_ne (tgt := 69) hx hb dX7_shortQuotient_61 (by decide) (fun hq => ?_) (fun hq => ?_)
        · have h := h.1 hq
          exact jq69 _ _ _ _ _ _ h hM (lv_sub hl [3, 2, 1, 0] rfl)
        · have h := h.2 hq
          exact jq64  _ _ _ h hM (lv_sub hl [3] rfl)
abbrev rm_X7_towardsNought : Room := { frames := 5, cells := 0, slots := 0, locals := 139 }
set_option maxRecDepth 100000 in
set_option maxHeartbeats 4000000 in
theorem ct_X7_towardsNought (l : Launch) (D : va_G) (cI cJ cZ : ClassId) (h0 : Nat) (h1 : Nat) (r0 : Nat → Nat) (I_0_fraction : Int32) (I_0_bias : Int32) (I_0_most : Int32) (I_0_signBit : Int64) (I_0_infinite : Int64) (I_0_nan : Int64) (A1 : (Nat → Int32)) (x2 : Int64) (x4 : Int32) (sz : Nat) (K : Int64 → Prop) (h : wp_X7_towardsNought x2 x4 I_0_fraction I_0_bias I_0_most I_0_signBit I_0_infinite I_0_nan A1 K) : Met l yX7_towardsNought wsX7_towardsNought rm_X7_towardsNought (va_Pc [.ref h0, .ref h1, .long x2, .int x4] (WX D cI cJ cZ [(h0, .inr (6, oX7 r0 I_0_fraction I_0_bias I_0_most I_0_signBit I_0_infinite I_0_nan)), (h1, .inl (cI, 5, .inl A1))] sz)) (va_Ql (fun (r : Int64) (_ : Unit) => K r ) (fun (_ : Unit) t => WY D (va_A [(h0, .inr (6, oX7 r0 I_0_fraction I_0_bias I_0_most I_0_signBit I_0_infinite I_0_nan)), (h1, .inl (cI, 5, .inl A1))] sz) [(h0, .inr (6, oX7 r0 I_0_fraction I_0_bias I_0_most I_0_signBit I_0_infinite I_0_nan)), (h1, .inl (cI, 5, .inl A1))] t) (va_A [(h0, .inr (6, oX7 r0 I_0_fraction I_0_bias I_0_most I_0_signBit I_0_infinite I_0_nan)), (h1, .inl (cI, 5, .inl A1))] sz)) 0 0 (va_A [(h0, .inr (6, oX7 r0 I_0_fraction I_0_bias I_0_most I_0_signBit I_0_infinite I_0_nan)), (h1, .inl (cI, 5, .inl A1))] sz) := by
  refine m_met (own := RX7) (cc := cX7_towardsNought) (maxL := 8) (ret := some .long) [.ref h0, .ref h1, .long x2, .int x4] [(0, .ref h0), (1, .ref h1), (2, .long x2), (4, .int x4)] (by decide) rfl rfl (Nat.le_of_ble_eq_true rfl) rfl ?_
  intro p e s m args below meth c Q A hQ hA C0 hr hnm hsz hM ls hl
  have hx := C0.1
  have hb := C0.2.1
  have hown := C0.2.2.2.1
  have lq26 : ∀ (k26 : Nat) (x5 : Int64) (x7 : Int32) (H : Heap) (locs : List Loc) (ls : Array Slot) , lp_X7_towardsNought_26 x2 x4 I_0_fraction I_0_bias I_0_most I_0_signBit I_0_infinite I_0_nan A1 K k26 x5 x7 → MW D A s.heap [(h0, .inr (6, oX7 r0 I_0_fraction I_0_bias I_0_most I_0_signBit I_0_infinite I_0_nan)), (h1, .inl (cI, 5, .inl A1))] H locs → lv_has ls 8 [(0, .ref h0), (1, .ref h1), (4, .int x4), (5, .long x5), (7, .int x7)] → W p l e rm_X7_towardsNought s m args below meth c H locs 0 0 Q (F0 m 26 ls []) := by
    intro k26
    induction k26 with
    | zero =>
      intro x5 x7 H locs ls h
      unfold lp_X7_towardsNought_26 at h
      exact h.elim
    | succ k26 ih26 =>
      intro x5 x7 H locs ls h hM hl
      unfold lp_X7_towardsNought_26 at h
      refine lv_iload hx hb dX7_towardsNought_26 (lv_at hl 4 rfl) ?_
      refine lv_iload hx hb dX7_towardsNought_28 (lv_at hl 2 rfl) ?_
      refine lv_icmp_ge (tgt := 70) hx hb dX7_towardsNought_30 (by decide) (fun hq => ?_) (fun hq => ?_)
      · have h := h.1 hq
        refine lv_lload hx hb dX7_towardsNought_70 (lv_at hl 3 rfl) ?_
        subst hsz; subst hA; subst hQ
        exact m_lret C0 hr hM () h rfl dX7_towardsNought_72
      · have h := h.2 hq
        refine lv_aload_n hx hb dX7_towardsNought_33 rfl (lv_at hl 0 rfl) ?_
        refine lv_lload hx hb dX7_towardsNought_34 (lv_at hl 3 rfl) ?_
        refine lv_aload_n hx hb dX7_towardsNought_36 rfl (lv_at hl 0 rfl) ?_
        refine m_get (C := RX7) (T := TX7) (N := 6) (ci := 6) (ref := "LoweredPowers$Reals") (v := .long I_0_signBit) C0 hM 0 rfl rfl kt_X7_towardsNought_X7 3 (by decide) kw_X7_towardsNought_3 rfl rfl dX7_towardsNought_37 ?_
        refine lv_aload_n hx hb dX7_towardsNought_40 rfl (lv_at hl 0 rfl) ?_
        refine lv_aload_n hx hb dX7_towardsNought_41 rfl (lv_at hl 0 rfl) ?_
        refine lv_aload_n hx hb dX7_towardsNought_42 rfl (lv_at hl 1 rfl) ?_
        refine lv_lload hx hb dX7_towardsNought_43 (lv_at hl 3 rfl) ?_
        refine m_calll (wc := [(h0, .inr (6, oX7 r0 I_0_fraction I_0_bias I_0_most I_0_signBit I_0_infinite I_0_nan)), (h1, .inl (cI, 5, .inl A1))]) C0 hM [0, 1] rfl (m_runV (wc := [(h0, .inr (6, oX7 r0 I_0_fraction I_0_bias I_0_most I_0_signBit I_0_infinite I_0_nan)), (h1, .inl (cI, 5, .inl A1))]) (As := [.ref h1, .long x5]) (rest := [.ref h0, .long I_0_signBit, .long x5, .ref h0]) (ci := 6) C0 hM (ct_X7_atPoint l D cI cJ cZ h0 h1 r0 I_0_fraction I_0_bias I_0_most I_0_signBit I_0_infinite I_0_nan A1 x5 _ _ h) [0, 1] rfl (by decide) gX7_towardsNought_X7_atPoint rfl rfl rfl rfl rfl hd_X7_atPoint ⟨Nat.le_of_ble_eq_true rfl, Nat.le_of_ble_eq_true rfl⟩ rfl hl.1 rfl (Nat.le_of_ble_eq_true rfl) dX7_towardsNought_45 ⟨Nat.le_of_ble_eq_true rfl, Nat.le_of_ble_eq_true rfl⟩) (fun _ => [(h0, .inr (6, oX7 r0 I_0_fraction I_0_bias I_0_most I_0_signBit I_0_infinite I_0_nan)), (h1, .inl (cI, 5, .inl A1))]) (fun _ => rfl) (fun _ => rfl) (fun y1 _ H locs h hM => ?_)
        refine lv_aload_n hx hb dX7_towardsNought_48 rfl (lv_at hl 0 rfl) ?_
        refine lv_aload_n hx hb dX7_towardsNought_49 rfl (lv_at hl 1 rfl) ?_
        refine lv_lload hx hb dX7_towardsNought_50 (lv_at hl 3 rfl) ?_
        refine m_calll (wc := [(h0, .inr (6, oX7 r0 I_0_fraction I_0_bias I_0_most I_0_signBit I_0_infinite I_0_nan)), (h1, .inl (cI, 5, .inl A1))]) C0 hM [0, 1] rfl (m_runV (wc := [(h0, .inr (6, oX7 r0 I_0_fraction I_0_bias I_0_most I_0_signBit I_0_infinite I_0_nan)), (h1, .inl (cI, 5, .inl A1))]) (As := [.ref h1, .long x5]) (rest := [.long y1, .ref h0, .long I_0_signBit, .long x5, .ref h0]) (ci := 6) C0 hM (ct_X7_risingAt l D cI cJ cZ h0 h1 r0 I_0_fraction I_0_bias I_0_most I_0_signBit I_0_infinite I_0_nan A1 x5 _ _ h) [0, 1] rfl (by decide) gX7_towardsNought_X7_risingAt rfl rfl rfl rfl rfl hd_X7_risingAt ⟨Nat.le_of_ble_eq_true rfl, Nat.le_of_ble_eq_true rfl⟩ rfl hl.1 rfl (Nat.le_of_ble_eq_true rfl) dX7_towardsNought_52 ⟨Nat.le_of_ble_eq_true rfl, Nat.le_of_ble_eq_true rfl⟩) (fun _ => [(h0, .inr (6, oX7 r0 I_0_fraction I_0_bias I_0_most I_0_signBit I_0_infinite I_0_nan)), (h1, .inl (cI, 5, .inl A1))]) (fun _ => rfl) (fun _ => rfl) (fun y2 _ H locs h hM => ?_)
        refine m_calll (wc := [(h0, .inr (6, oX7 r0 I_0_fraction I_0_bias I_0_most I_0_signBit I_0_infinite I_0_nan))]) C0 hM [0] rfl (m_runV (wc := [(h0, .inr (6, oX7 r0 I_0_fraction I_0_bias I_0_most I_0_signBit I_0_infinite I_0_nan))]) (As := [.long y1, .long y2]) (rest := [.long I_0_signBit, .long x5, .ref h0]) (ci := 6) C0 hM (ct_X7_shortQuotient l D cI cJ cZ h0 r0 I_0_fraction I_0_bias I_0_most I_0_signBit I_0_infinite I_0_nan y1 y2 _ _ h) [0] rfl (by decide) gX7_towardsNought_X7_shortQuotient rfl rfl rfl rfl rfl hd_X7_shortQuotient ⟨Nat.le_of_ble_eq_true rfl, Nat.le_of_ble_eq_true rfl⟩ rfl hl.1 rfl (Nat.le_of_ble_eq_true rfl) dX7_towardsNought_55 ⟨Nat.le_of_ble_eq_true rfl, Nat.le_of_ble_eq_true rfl⟩) (fun _ => [(h0, .inr (6, oX7 r0 I_0_fraction I_0_bias I_0_most I_0_signBit I_0_infinite I_0_nan)), (h1, .inl (cI, 5, .inl A1))]) (fun _ => rfl) (fun _ => rfl) (fun y3 _ H locs h hM => ?_)
        refine lv_lxor hx hb dX7_towardsNought_58 ?_
        refine m_calll (wc := [(h0, .inr (6, oX7 r0 I_0_fraction I_0_bias I_0_most I_0_signBit I_0_infinite I_0_nan))]) C0 hM [0] rfl (m_runV (wc := [(h0, .inr (6, oX7 r0 I_0_fraction I_0_bias I_0_most I_0_signBit I_0_infinite I_0_nan))]) (As := [.long x5, .long (I_0_signBit ^^^ y3)]) (rest := []) (ci := 6) C0 hM (ct_X7_plus l D cI cJ cZ h0 r0 I_0_fraction I_0_bias I_0_most I_0_signBit I_0_infinite I_0_nan x5 (I_0_signBit ^^^ y3) _ _ h) [0] rfl (by decide) gX7_towardsNought_X7_plus rfl rfl rfl rfl rfl hd_X7_plus ⟨Nat.le_of_ble_eq_true rfl, Nat.le_of_ble_eq_true rfl⟩ rfl hl.1 rfl (Nat.le_of_ble_eq_true rfl) dX7_towardsNought_59 ⟨Nat.le_of_ble_eq_true rfl, Nat.le_of_ble_eq_true rfl⟩) (fun _ => [(h0, .inr (6, oX7 r0 I_0_fraction I_0_bias I_0_most I_0_signBit I_0_infinite I_0_nan)), (h1, .inl (cI, 5, .inl A1))]) (fun _ => rfl) (fun _ => rfl) (fun y4 _ H locs h hM => ?_)
        refine lv_lstore (lv' := [(5, .long y4), (0, .ref h0), (1, .ref h1), (4, .int x4), (7, .int x7)]) hx hb dX7_towardsNought_62 hl (by decide) rfl (fun ls hl => ?_)
        refine lv_iinc (v := (x7 + (1 : Int32))) (lv' := [(7, .int (x7 + (1 : Int32))), (5, .long y4), (0, .ref h0), (1, .ref h1), (4, .int x4)]) hx hb dX7_towardsNought_64 hl (k := 4) rfl rfl (by decide) rfl (fun ls hl => ?_)
        refine lv_goto (tgt := 26) hx hb dX7_towardsNought_67 (by decide) ?_
        exact ih26 _ _ _ _ _ h hM (lv_sub hl [2, 3, 4, 1, 0] rfl)
  have jq21 : ∀ (s0 : Int64) (H : Heap) (locs : List Loc) (ls : Array Slot) , jn_X7_towardsNought_21 x2 x4 I_0_fraction I_0_bias I_0_most I_0_signBit I_0_infinite I_0_nan A1 K s0 → MW D A s.heap [(h0, .inr (6, oX7 r0 I_0_fraction I_0_bias I_0_most I_0_signBit I_0_infinite I_0_nan)), (h1, .inl (cI, 5, .inl A1))] H locs → lv_has ls 8 [(0, .ref h0), (1, .ref h1), (4, .int x4)] → W p l e rm_X7_towardsNought s m args below meth c H locs 0 0 Q (F0 m 21 ls [.long s0]) := by
    intro s0 H locs ls h hM hl
    unfold jn_X7_towardsNought_21 at h
    refine lv_lstore (lv' := [(5, .long s0), (0, .ref h0), (1, .ref h1), (4, .int x4)]) hx hb dX7_towardsNought_21 hl (by decide) rfl (fun ls hl => ?_)
    refine lv_iconst (v := (0 : Int32)) hx hb dX7_towardsNought_23 (by decide) ?_
    refine lv_istore (lv' := [(7, .int (0 : Int32)), (5, .long s0), (0, .ref h0), (1, .ref h1), (4, .int x4)]) hx hb dX7_towardsNought_24 hl (by decide) rfl (fun ls hl => ?_)
    obtain ⟨k0, h⟩ := h
    exact lq26 k0 _ _ _ _ _ h hM (lv_sub hl [2, 3, 4, 1, 0] rfl)
  unfold wp_X7_towardsNought at h
  refine lv_aload_n hx hb dX7_towardsNought_0 rfl (lv_at hl 0 rfl) ?_
  refine lv_lload_n hx hb dX7_towardsNought_1 rfl (lv_at hl 2 rfl) ?_
  refine m_calll (wc := [(h0, .inr (6, oX7 r0 I_0_fraction I_0_bias I_0_most I_0_signBit I_0_infinite I_0_nan))]) C0 hM [0] rfl (m_runV (wc := [(h0, .inr (6, oX7 r0 I_0_fraction I_0_bias I_0_most I_0_signBit I_0_infinite I_0_nan))]) (As := [.long x2]) (rest := []) (ci := 6) C0 hM (ct_X7_magnitude l D cI cJ cZ h0 r0 I_0_fraction I_0_bias I_0_most I_0_signBit I_0_infinite I_0_nan x2 _ _ h) [0] rfl (by decide) gX7_towardsNought_X7_magnitude rfl rfl rfl rfl rfl hd_X7_magnitude ⟨Nat.le_of_ble_eq_true rfl, Nat.le_of_ble_eq_true rfl⟩ rfl hl.1 rfl (Nat.le_of_ble_eq_true rfl) dX7_towardsNought_2 ⟨Nat.le_of_ble_eq_true rfl, Nat.le_of_ble_eq_true rfl⟩) (fun _ => [(h0, .inr (6, oX7 r0 I_0_fraction I_0_bias I_0_most I_0_signBit I_0_infinite I_0_nan)), (h1, .inl (cI, 5, .inl A1))]) (fun _ => rfl) (fun _ => rfl) (fun y5 _ H locs h hM => ?_)
  refine lv_aload_n hx hb dX7_towardsNought_5 rfl (lv_at hl 0 rfl) ?_
  refine m_get (C := RX7) (T := TX7) (N := 6) (ci := 6) (ref := "LoweredPowers$Reals") (v := .long I_0_infinite) C0 hM 0 rfl rfl kt_X7_towardsNought_X7 4 (by decide) kw_X7_towardsNought_1 rfl rfl dX7_towardsNought_6 ?_
  refine W.lcmp hx hb dX7_towardsNought_9 ?_
  refine lv_if_le (tgt := 20) hx hb dX7_towardsNought_10 (by decide) (fun hq => ?_) (fun hq => ?_)
  · have h := h.1 hq
    refine lv_lload_n hx hb dX7_towardsNought_20 rfl (lv_at hl 2 rfl) ?_
    exact jq21 _ _ _ _ h hM (lv_sub hl [0, 1, 3] rfl)
  · have h := h.2 hq
    refine lv_aload_n hx hb dX7_towardsNought_13 rfl (lv_at hl 0 rfl) ?_
    refine m_get (C := RX7) (T := TX7) (N := 6) (ci := 6) (ref := "LoweredPowers$Reals") (v := .long I_0_nan) C0 hM 0 rfl rfl kt_X7_towardsNought_X7 5 (by decide) kw_X7_towardsNought_2 rfl rfl dX7_towardsNought_14 ?_
    refine lv_goto (tgt := 21) hx hb dX7_towardsNought_17 (by decide) ?_
    exact jq21 _ _ _ _ h hM (lv_sub hl [0, 1, 3] rfl)
abbrev rm_X7_cutToInt : Room := { frames := 2, cells := 0, slots := 0, locals := 48 }
set_option maxRecDepth 100000 in
set_option maxHeartbeats 4000000 in
theorem ct_X7_cutToInt (l : Launch) (D : va_G) (cI cJ cZ : ClassId) (h0 : Nat) (r0 : Nat → Nat) (I_0_fraction : Int32) (I_0_bias : Int32) (I_0_most : Int32) (I_0_signBit : Int64) (I_0_infinite : Int64) (I_0_nan : Int64) (x1 : Int64) (sz : Nat) (K : Int32 → Prop) (h : wp_X7_cutToInt x1 I_0_fraction I_0_bias I_0_signBit I_0_infinite K) : Met l yX7_cutToInt wsX7_cutToInt rm_X7_cutToInt (va_Pc [.ref h0, .long x1] (WX D cI cJ cZ [(h0, .inr (6, oX7 r0 I_0_fraction I_0_bias I_0_most I_0_signBit I_0_infinite I_0_nan))] sz)) (va_Qi (fun (r : Int32) (_ : Unit) => K r ) (fun (_ : Unit) t => WY D (va_A [(h0, .inr (6, oX7 r0 I_0_fraction I_0_bias I_0_most I_0_signBit I_0_infinite I_0_nan))] sz) [(h0, .inr (6, oX7 r0 I_0_fraction I_0_bias I_0_most I_0_signBit I_0_infinite I_0_nan))] t) (va_A [(h0, .inr (6, oX7 r0 I_0_fraction I_0_bias I_0_most I_0_signBit I_0_infinite I_0_nan))] sz)) 0 0 (va_A [(h0, .inr (6, oX7 r0 I_0_fraction I_0_bias I_0_most I_0_signBit I_0_infinite I_0_nan))] sz) := by
  refine m_met (own := RX7) (cc := cX7_cutToInt) (maxL := 8) (ret := some .int) [.ref h0, .long x1] [(0, .ref h0), (1, .long x1)] (by decide) rfl rfl (Nat.le_of_ble_eq_true rfl) rfl ?_
  intro p e s m args below meth c Q A hQ hA C0 hr hnm hsz hM ls hl
  have hx := C0.1
  have hb := C0.2.1
  have hown := C0.2.2.2.1
  have jq39 : ∀ (x3 : Int64) (s0 : Int32) (H : Heap) (locs : List Loc) (ls : Array Slot) , jn_X7_cutToInt_39 x1 I_0_fraction I_0_bias I_0_signBit I_0_infinite K x3 s0 → MW D A s.heap [(h0, .inr (6, oX7 r0 I_0_fraction I_0_bias I_0_most I_0_signBit I_0_infinite I_0_nan))] H locs → lv_has ls 8 [(0, .ref h0), (3, .long x3)] → W p l e rm_X7_cutToInt s m args below meth c H locs 0 0 Q (F0 m 39 ls [.int s0]) := by
    intro x3 s0 H locs ls h hM hl
    unfold jn_X7_cutToInt_39 at h
    refine lv_istore (lv' := [(5, .int s0), (0, .ref h0), (3, .long x3)]) hx hb dX7_cutToInt_39 hl (by decide) rfl (fun ls hl => ?_)
    refine lv_aload_n hx hb dX7_cutToInt_41 rfl (lv_at hl 1 rfl) ?_
    refine lv_lload_n hx hb dX7_cutToInt_42 rfl (lv_at hl 2 rfl) ?_
    refine m_calli (wc := [(h0, .inr (6, oX7 r0 I_0_fraction I_0_bias I_0_most I_0_signBit I_0_infinite I_0_nan))]) C0 hM [0] rfl (m_runV (wc := [(h0, .inr (6, oX7 r0 I_0_fraction I_0_bias I_0_most I_0_signBit I_0_infinite I_0_nan))]) (As := [.long x3]) (rest := []) (ci := 6) C0 hM (ct_X7_exponentOf l D cI cJ cZ h0 r0 I_0_fraction I_0_bias I_0_most I_0_signBit I_0_infinite I_0_nan x3 _ _ h) [0] rfl (by decide) gX7_cutToInt_X7_exponentOf rfl rfl rfl rfl rfl hd_X7_exponentOf ⟨Nat.le_of_ble_eq_true rfl, Nat.le_of_ble_eq_true rfl⟩ rfl hl.1 rfl (Nat.le_of_ble_eq_true rfl) dX7_cutToInt_43 ⟨Nat.le_of_ble_eq_true rfl, Nat.le_of_ble_eq_true rfl⟩) (fun _ => [(h0, .inr (6, oX7 r0 I_0_fraction I_0_bias I_0_most I_0_signBit I_0_infinite I_0_nan))]) (fun _ => rfl) (fun _ => rfl) (fun y1 _ H locs h hM => ?_)
    refine lv_istore (lv' := [(6, .int y1), (5, .int s0), (0, .ref h0), (3, .long x3)]) hx hb dX7_cutToInt_46 hl (by decide) rfl (fun ls hl => ?_)
    refine lv_iload hx hb dX7_cutToInt_48 (lv_at hl 0 rfl) ?_
    refine lv_if_ge (tgt := 55) hx hb dX7_cutToInt_50 (by decide) (fun hq => ?_) (fun hq => ?_)
    · have h := h.1 hq
      refine lv_iload hx hb dX7_cutToInt_55 (lv_at hl 0 rfl) ?_
      refine lv_bipush (v := (30 : Int32)) hx hb dX7_cutToInt_57 (by decide) ?_
      refine lv_icmp_le (tgt := 75) hx hb dX7_cutToInt_59 (by decide) (fun hq => ?_) (fun hq => ?_)
      · have h := h.1 hq
        refine lv_aload_n hx hb dX7_cutToInt_75 rfl (lv_at hl 2 rfl) ?_
        refine lv_lload_n hx hb dX7_cutToInt_76 rfl (lv_at hl 3 rfl) ?_
        refine m_calll (wc := [(h0, .inr (6, oX7 r0 I_0_fraction I_0_bias I_0_most I_0_signBit I_0_infinite I_0_nan))]) C0 hM [0] rfl (m_runV (wc := [(h0, .inr (6, oX7 r0 I_0_fraction I_0_bias I_0_most I_0_signBit I_0_infinite I_0_nan))]) (As := [.long x3]) (rest := []) (ci := 6) C0 hM (ct_X7_significandOf l D cI cJ cZ h0 r0 I_0_fraction I_0_bias I_0_most I_0_signBit I_0_infinite I_0_nan x3 _ _ h) [0] rfl (by decide) gX7_cutToInt_X7_significandOf rfl rfl rfl rfl rfl hd_X7_significandOf ⟨Nat.le_of_ble_eq_true rfl, Nat.le_of_ble_eq_true rfl⟩ rfl hl.1 rfl (Nat.le_of_ble_eq_true rfl) dX7_cutToInt_77 ⟨Nat.le_of_ble_eq_true rfl, Nat.le_of_ble_eq_true rfl⟩) (fun _ => [(h0, .inr (6, oX7 r0 I_0_fraction I_0_bias I_0_most I_0_signBit I_0_infinite I_0_nan))]) (fun _ => rfl) (fun _ => rfl) (fun y2 _ H locs h hM => ?_)
        refine lv_bipush (v := (62 : Int32)) hx hb dX7_cutToInt_80 (by decide) ?_
        refine lv_iload hx hb dX7_cutToInt_82 (lv_at hl 0 rfl) ?_
        refine lv_isub hx hb dX7_cutToInt_84 ?_
        refine lv_lushr hx hb dX7_cutToInt_85 rfl ?_
        refine lv_l2i hx hb dX7_cutToInt_86 rfl ?_
        refine lv_topi (fun y3 ey3 => ?_)
        have h := h y3 ey3
        refine lv_istore (lv' := [(7, .int y3), (6, .int y1), (5, .int s0), (0, .ref h0), (3, .long x3)]) hx hb dX7_cutToInt_87 hl (by decide) rfl (fun ls hl => ?_)
        refine lv_iload hx hb dX7_cutToInt_89 (lv_at hl 2 rfl) ?_
        refine lv_if_eq (tgt := 100) hx hb dX7_cutToInt_91 (by decide) (fun hq => ?_) (fun hq => ?_)
        · have h := h.1 hq
          refine lv_iload hx hb dX7_cutToInt_100 (lv_at hl 0 rfl) ?_
          subst hsz; subst hA; subst hQ
          exact m_iret C0 hr hM () h rfl dX7_cutToInt_102
        · have h := h.2 hq
          refine lv_iload hx hb dX7_cutToInt_94 (lv_at hl 0 rfl) ?_
          refine lv_ineg hx hb dX7_cutToInt_96 ?_
          refine lv_goto (tgt := 102) hx hb dX7_cutToInt_97 (by decide) ?_
          subst hsz; subst hA; subst hQ
          exact m_iret C0 hr hM () h rfl dX7_cutToInt_102
      · have h := h.2 hq
        refine lv_iload hx hb dX7_cutToInt_62 (lv_at hl 1 rfl) ?_
        refine lv_if_eq (tgt := 72) hx hb dX7_cutToInt_64 (by decide) (fun hq => ?_) (fun hq => ?_)
        · have h := h.1 hq
          refine lv_ldc (v := (2147483647 : Int32)) hx hb hown (C0.2.2.2.2.1 _ kw_X7_cutToInt_4) dX7_cutToInt_72 ?_
          subst hsz; subst hA; subst hQ
          exact m_iret C0 hr hM () h rfl dX7_cutToInt_74
        · have h := h.2 hq
          refine lv_ldc (v := (-2147483648 : Int32)) hx hb hown (C0.2.2.2.2.1 _ kw_X7_cutToInt_3) dX7_cutToInt_67 ?_
          refine lv_goto (tgt := 74) hx hb dX7_cutToInt_69 (by decide) ?_
          subst hsz; subst hA; subst hQ
          exact m_iret C0 hr hM () h rfl dX7_cutToInt_74
    · have h := h.2 hq
      refine lv_iconst (v := (0 : Int32)) hx hb dX7_cutToInt_53 (by decide) ?_
      subst hsz; subst hA; subst hQ
      exact m_iret C0 hr hM () h rfl dX7_cutToInt_54
  unfold wp_X7_cutToInt at h
  refine lv_aload_n hx hb dX7_cutToInt_0 rfl (lv_at hl 0 rfl) ?_
  refine lv_lload_n hx hb dX7_cutToInt_1 rfl (lv_at hl 1 rfl) ?_
  refine m_calll (wc := [(h0, .inr (6, oX7 r0 I_0_fraction I_0_bias I_0_most I_0_signBit I_0_infinite I_0_nan))]) C0 hM [0] rfl (m_runV (wc := [(h0, .inr (6, oX7 r0 I_0_fraction I_0_bias I_0_most I_0_signBit I_0_infinite I_0_nan))]) (As := [.long x1]) (rest := []) (ci := 6) C0 hM (ct_X7_magnitude l D cI cJ cZ h0 r0 I_0_fraction I_0_bias I_0_most I_0_signBit I_0_infinite I_0_nan x1 _ _ h) [0] rfl (by decide) gX7_cutToInt_X7_magnitude rfl rfl rfl rfl rfl hd_X7_magnitude ⟨Nat.le_of_ble_eq_true rfl, Nat.le_of_ble_eq_true rfl⟩ rfl hl.1 rfl (Nat.le_of_ble_eq_true rfl) dX7_cutToInt_2 ⟨Nat.le_of_ble_eq_true rfl, Nat.le_of_ble_eq_true rfl⟩) (fun _ => [(h0, .inr (6, oX7 r0 I_0_fraction I_0_bias I_0_most I_0_signBit I_0_infinite I_0_nan))]) (fun _ => rfl) (fun _ => rfl) (fun y4 _ H locs h hM => ?_)
  refine lv_lstore_n (lv' := [(3, .long y4), (0, .ref h0), (1, .long x1)]) hx hb dX7_cutToInt_5 rfl hl (by decide) rfl (fun ls hl => ?_)
  refine lv_lload_n hx hb dX7_cutToInt_6 rfl (lv_at hl 0 rfl) ?_
  refine lv_aload_n hx hb dX7_cutToInt_7 rfl (lv_at hl 1 rfl) ?_
  refine m_get (C := RX7) (T := TX7) (N := 6) (ci := 6) (ref := "LoweredPowers$Reals") (v := .long I_0_infinite) C0 hM 0 rfl rfl kt_X7_cutToInt_X7 4 (by decide) kw_X7_cutToInt_1 rfl rfl dX7_cutToInt_8 ?_
  refine W.lcmp hx hb dX7_cutToInt_11 ?_
  refine lv_if_gt (tgt := 21) hx hb dX7_cutToInt_12 (by decide) (fun hq => ?_) (fun hq => ?_)
  · have h := h.1 hq
    refine lv_iconst (v := (0 : Int32)) hx hb dX7_cutToInt_21 (by decide) ?_
    subst hsz; subst hA; subst hQ
    exact m_iret C0 hr hM () h rfl dX7_cutToInt_22
  · have h := h.2 hq
    refine lv_lload_n hx hb dX7_cutToInt_15 rfl (lv_at hl 0 rfl) ?_
    refine lv_lconst (v := (0 : Int64)) hx hb dX7_cutToInt_16 (by decide) ?_
    refine W.lcmp hx hb dX7_cutToInt_17 ?_
    refine lv_if_ne (tgt := 23) hx hb dX7_cutToInt_18 (by decide) (fun hq => ?_) (fun hq => ?_)
    · have h := h.1 hq
      refine lv_lload_n hx hb dX7_cutToInt_23 rfl (lv_at hl 2 rfl) ?_
      refine lv_aload_n hx hb dX7_cutToInt_24 rfl (lv_at hl 1 rfl) ?_
      refine m_get (C := RX7) (T := TX7) (N := 6) (ci := 6) (ref := "LoweredPowers$Reals") (v := .long I_0_signBit) C0 hM 0 rfl rfl kt_X7_cutToInt_X7 3 (by decide) kw_X7_cutToInt_2 rfl rfl dX7_cutToInt_25 ?_
      refine lv_land hx hb dX7_cutToInt_28 ?_
      refine lv_lconst (v := (0 : Int64)) hx hb dX7_cutToInt_29 (by decide) ?_
      refine W.lcmp hx hb dX7_cutToInt_30 ?_
      refine lv_if_eq (tgt := 38) hx hb dX7_cutToInt_31 (by decide) (fun hq => ?_) (fun hq => ?_)
      · have h := h.1 hq
        refine lv_iconst (v := (0 : Int32)) hx hb dX7_cutToInt_38 (by decide) ?_
        exact jq39 _ _ _ _ _ h hM (lv_sub hl [1, 0] rfl)
      · have h := h.2 hq
        refine lv_iconst (v := (1 : Int32)) hx hb dX7_cutToInt_34 (by decide) ?_
        refine lv_goto (tgt := 39) hx hb dX7_cutToInt_35 (by decide) ?_
        exact jq39 _ _ _ _ _ h hM (lv_sub hl [1, 0] rfl)
    · have h := h.2 hq
      refine lv_iconst (v := (0 : Int32)) hx hb dX7_cutToInt_21 (by decide) ?_
      subst hsz; subst hA; subst hQ
      exact m_iret C0 hr hM () h rfl dX7_cutToInt_22
abbrev rm_X7_likeOther : Room := { frames := 2, cells := 0, slots := 0, locals := 48 }
set_option maxRecDepth 100000 in
set_option maxHeartbeats 4000000 in
theorem ct_X7_likeOther (l : Launch) (D : va_G) (cI cJ cZ : ClassId) (h0 : Nat) (h1 : Nat) (r0 : Nat → Nat) (r1 : Nat → Nat) (I_0_fraction : Int32) (I_0_bias : Int32) (I_0_most : Int32) (I_0_signBit : Int64) (I_0_infinite : Int64) (I_0_nan : Int64) (I_1_fraction : Int32) (I_1_bias : Int32) (I_1_most : Int32) (I_1_signBit : Int64) (I_1_infinite : Int64) (I_1_nan : Int64) (x2 : Int64) (sz : Nat) (K : Int64 → Prop) (h : wp_X7_likeOther x2 I_0_fraction I_0_bias I_0_most I_0_signBit I_0_infinite I_0_nan I_1_fraction I_1_bias I_1_signBit I_1_infinite K) : Met l yX7_likeOther wsX7_likeOther rm_X7_likeOther (va_Pc [.ref h0, .ref h1, .long x2] (WX D cI cJ cZ [(h0, .inr (6, oX7 r0 I_0_fraction I_0_bias I_0_most I_0_signBit I_0_infinite I_0_nan)), (h1, .inr (6, oX7 r1 I_1_fraction I_1_bias I_1_most I_1_signBit I_1_infinite I_1_nan))] sz)) (va_Ql (fun (r : Int64) (_ : Unit) => K r ) (fun (_ : Unit) t => WY D (va_A [(h0, .inr (6, oX7 r0 I_0_fraction I_0_bias I_0_most I_0_signBit I_0_infinite I_0_nan)), (h1, .inr (6, oX7 r1 I_1_fraction I_1_bias I_1_most I_1_signBit I_1_infinite I_1_nan))] sz) [(h0, .inr (6, oX7 r0 I_0_fraction I_0_bias I_0_most I_0_signBit I_0_infinite I_0_nan)), (h1, .inr (6, oX7 r1 I_1_fraction I_1_bias I_1_most I_1_signBit I_1_infinite I_1_nan))] t) (va_A [(h0, .inr (6, oX7 r0 I_0_fraction I_0_bias I_0_most I_0_signBit I_0_infinite I_0_nan)), (h1, .inr (6, oX7 r1 I_1_fraction I_1_bias I_1_most I_1_signBit I_1_infinite I_1_nan))] sz)) 0 0 (va_A [(h0, .inr (6, oX7 r0 I_0_fraction I_0_bias I_0_most I_0_signBit I_0_infinite I_0_nan)), (h1, .inr (6, oX7 r1 I_1_fraction I_1_bias I_1_most I_1_signBit I_1_infinite I_1_nan))] sz) := by
  refine m_met (own := RX7) (cc := cX7_likeOther) (maxL := 8) (ret := some .long) [.ref h0, .ref h1, .long x2] [(0, .ref h0), (1, .ref h1), (2, .long x2)] (by decide) rfl rfl (Nat.le_of_ble_eq_true rfl) rfl ?_
  intro p e s m args below meth c Q A hQ hA C0 hr hnm hsz hM ls hl
  have hx := C0.1
  have hb := C0.2.1
  have hown := C0.2.2.2.1
  have jq41 : ∀ (x4 : Int64) (s0 : Int64) (H : Heap) (locs : List Loc) (ls : Array Slot) , jn_X7_likeOther_41 x2 I_0_fraction I_0_bias I_0_most I_0_signBit I_0_infinite I_0_nan I_1_fraction I_1_bias I_1_signBit I_1_infinite K x4 s0 → MW D A s.heap [(h0, .inr (6, oX7 r0 I_0_fraction I_0_bias I_0_most I_0_signBit I_0_infinite I_0_nan)), (h1, .inr (6, oX7 r1 I_1_fraction I_1_bias I_1_most I_1_signBit I_1_infinite I_1_nan))] H locs → lv_has ls 8 [(0, .ref h0), (1, .ref h1), (4, .long x4)] → W p l e rm_X7_likeOther s m args below meth c H locs 0 0 Q (F0 m 41 ls [.long s0]) := by
    intro x4 s0 H locs ls h hM hl
    unfold jn_X7_likeOther_41 at h
    refine lv_lstore (lv' := [(6, .long s0), (0, .ref h0), (1, .ref h1), (4, .long x4)]) hx hb dX7_likeOther_41 hl (by decide) rfl (fun ls hl => ?_)
    refine lv_lload hx hb dX7_likeOther_43 (lv_at hl 3 rfl) ?_
    refine lv_aload_n hx hb dX7_likeOther_45 rfl (lv_at hl 2 rfl) ?_
    refine m_get (C := RX7) (T := TX7) (N := 6) (ci := 6) (ref := "LoweredPowers$Reals") (v := .long I_1_infinite) C0 hM 1 rfl rfl kt_X7_likeOther_X7 4 (by decide) kw_X7_likeOther_1 rfl rfl dX7_likeOther_46 ?_
    refine W.lcmp hx hb dX7_likeOther_49 ?_
    refine lv_if_ne (tgt := 61) hx hb dX7_likeOther_50 (by decide) (fun hq => ?_) (fun hq => ?_)
    · have h := h.1 hq
      refine lv_lload hx hb dX7_likeOther_61 (lv_at hl 3 rfl) ?_
      refine lv_lconst (v := (0 : Int64)) hx hb dX7_likeOther_63 (by decide) ?_
      refine W.lcmp hx hb dX7_likeOther_64 ?_
      refine lv_if_ne (tgt := 73) hx hb dX7_likeOther_65 (by decide) (fun hq => ?_) (fun hq => ?_)
      · have h := h.1 hq
        refine lv_aload_n hx hb dX7_likeOther_73 rfl (lv_at hl 1 rfl) ?_
        refine lv_lload hx hb dX7_likeOther_74 (lv_at hl 0 rfl) ?_
        refine lv_aload_n hx hb dX7_likeOther_76 rfl (lv_at hl 2 rfl) ?_
        refine lv_lload hx hb dX7_likeOther_77 (lv_at hl 3 rfl) ?_
        refine m_calli (wc := [(h1, .inr (6, oX7 r1 I_1_fraction I_1_bias I_1_most I_1_signBit I_1_infinite I_1_nan))]) C0 hM [1] rfl (m_runV (wc := [(h1, .inr (6, oX7 r1 I_1_fraction I_1_bias I_1_most I_1_signBit I_1_infinite I_1_nan))]) (As := [.long x4]) (rest := [.long s0, .ref h0]) (ci := 6) C0 hM (ct_X7_exponentOf l D cI cJ cZ h1 r1 I_1_fraction I_1_bias I_1_most I_1_signBit I_1_infinite I_1_nan x4 _ _ h) [1] rfl (by decide) gX7_likeOther_X7_exponentOf rfl rfl rfl rfl rfl hd_X7_exponentOf ⟨Nat.le_of_ble_eq_true rfl, Nat.le_of_ble_eq_true rfl⟩ rfl hl.1 rfl (Nat.le_of_ble_eq_true rfl) dX7_likeOther_79 ⟨Nat.le_of_ble_eq_true rfl, Nat.le_of_ble_eq_true rfl⟩) (fun _ => [(h0, .inr (6, oX7 r0 I_0_fraction I_0_bias I_0_most I_0_signBit I_0_infinite I_0_nan)), (h1, .inr (6, oX7 r1 I_1_fraction I_1_bias I_1_most I_1_signBit I_1_infinite I_1_nan))]) (fun _ => rfl) (fun _ => rfl) (fun y1 _ H locs h hM => ?_)
        refine lv_aload_n hx hb dX7_likeOther_82 rfl (lv_at hl 2 rfl) ?_
        refine lv_lload hx hb dX7_likeOther_83 (lv_at hl 3 rfl) ?_
        refine m_calll (wc := [(h1, .inr (6, oX7 r1 I_1_fraction I_1_bias I_1_most I_1_signBit I_1_infinite I_1_nan))]) C0 hM [1] rfl (m_runV (wc := [(h1, .inr (6, oX7 r1 I_1_fraction I_1_bias I_1_most I_1_signBit I_1_infinite I_1_nan))]) (As := [.long x4]) (rest := [.int y1, .long s0, .ref h0]) (ci := 6) C0 hM (ct_X7_significandOf l D cI cJ cZ h1 r1 I_1_fraction I_1_bias I_1_most I_1_signBit I_1_infinite I_1_nan x4 _ _ h) [1] rfl (by decide) gX7_likeOther_X7_significandOf rfl rfl rfl rfl rfl hd_X7_significandOf ⟨Nat.le_of_ble_eq_true rfl, Nat.le_of_ble_eq_true rfl⟩ rfl hl.1 rfl (Nat.le_of_ble_eq_true rfl) dX7_likeOther_85 ⟨Nat.le_of_ble_eq_true rfl, Nat.le_of_ble_eq_true rfl⟩) (fun _ => [(h0, .inr (6, oX7 r0 I_0_fraction I_0_bias I_0_most I_0_signBit I_0_infinite I_0_nan)), (h1, .inr (6, oX7 r1 I_1_fraction I_1_bias I_1_most I_1_signBit I_1_infinite I_1_nan))]) (fun _ => rfl) (fun _ => rfl) (fun y2 _ H locs h hM => ?_)
        refine m_calll (wc := [(h0, .inr (6, oX7 r0 I_0_fraction I_0_bias I_0_most I_0_signBit I_0_infinite I_0_nan))]) C0 hM [0] rfl (m_runV (wc := [(h0, .inr (6, oX7 r0 I_0_fraction I_0_bias I_0_most I_0_signBit I_0_infinite I_0_nan))]) (As := [.long s0, .int y1, .long y2]) (rest := []) (ci := 6) C0 hM (ct_X7_rounded l D cI cJ cZ h0 r0 I_0_fraction I_0_bias I_0_most I_0_signBit I_0_infinite I_0_nan s0 y1 y2 _ _ h) [0] rfl (by decide) gX7_likeOther_X7_rounded rfl rfl rfl rfl rfl hd_X7_rounded ⟨Nat.le_of_ble_eq_true rfl, Nat.le_of_ble_eq_true rfl⟩ rfl hl.1 rfl (Nat.le_of_ble_eq_true rfl) dX7_likeOther_88 ⟨Nat.le_of_ble_eq_true rfl, Nat.le_of_ble_eq_true rfl⟩) (fun _ => [(h0, .inr (6, oX7 r0 I_0_fraction I_0_bias I_0_most I_0_signBit I_0_infinite I_0_nan)), (h1, .inr (6, oX7 r1 I_1_fraction I_1_bias I_1_most I_1_signBit I_1_infinite I_1_nan))]) (fun _ => rfl) (fun _ => rfl) (fun y3 _ H locs h hM => ?_)
        subst hsz; subst hA; subst hQ
        exact m_lret C0 hr hM () h rfl dX7_likeOther_91
      · have h := h.2 hq
        refine lv_lload hx hb dX7_likeOther_68 (lv_at hl 0 rfl) ?_
        refine lv_goto (tgt := 91) hx hb dX7_likeOther_70 (by decide) ?_
        subst hsz; subst hA; subst hQ
        exact m_lret C0 hr hM () h rfl dX7_likeOther_91
    · have h := h.2 hq
      refine lv_lload hx hb dX7_likeOther_53 (lv_at hl 0 rfl) ?_
      refine lv_aload_n hx hb dX7_likeOther_55 rfl (lv_at hl 1 rfl) ?_
      refine m_get (C := RX7) (T := TX7) (N := 6) (ci := 6) (ref := "LoweredPowers$Reals") (v := .long I_0_infinite) C0 hM 0 rfl rfl kt_X7_likeOther_X7 4 (by decide) kw_X7_likeOther_1 rfl rfl dX7_likeOther_56 ?_
      refine lv_lor hx hb dX7_likeOther_59 ?_
      subst hsz; subst hA; subst hQ
      exact m_lret C0 hr hM () h rfl dX7_likeOther_60
  unfold wp_X7_likeOther at h
  refine lv_aload_n hx hb dX7_likeOther_0 rfl (lv_at hl 1 rfl) ?_
  refine lv_lload_n hx hb dX7_likeOther_1 rfl (lv_at hl 2 rfl) ?_
  refine m_calll (wc := [(h1, .inr (6, oX7 r1 I_1_fraction I_1_bias I_1_most I_1_signBit I_1_infinite I_1_nan))]) C0 hM [1] rfl (m_runV (wc := [(h1, .inr (6, oX7 r1 I_1_fraction I_1_bias I_1_most I_1_signBit I_1_infinite I_1_nan))]) (As := [.long x2]) (rest := []) (ci := 6) C0 hM (ct_X7_magnitude l D cI cJ cZ h1 r1 I_1_fraction I_1_bias I_1_most I_1_signBit I_1_infinite I_1_nan x2 _ _ h) [1] rfl (by decide) gX7_likeOther_X7_magnitude rfl rfl rfl rfl rfl hd_X7_magnitude ⟨Nat.le_of_ble_eq_true rfl, Nat.le_of_ble_eq_true rfl⟩ rfl hl.1 rfl (Nat.le_of_ble_eq_true rfl) dX7_likeOther_2 ⟨Nat.le_of_ble_eq_true rfl, Nat.le_of_ble_eq_true rfl⟩) (fun _ => [(h0, .inr (6, oX7 r0 I_0_fraction I_0_bias I_0_most I_0_signBit I_0_infinite I_0_nan)), (h1, .inr (6, oX7 r1 I_1_fraction I_1_bias I_1_most I_1_signBit I_1_infinite I_1_nan))]) (fun _ => rfl) (fun _ => rfl) (fun y4 _ H locs h hM => ?_)
  refine lv_lstore (lv' := [(4, .long y4), (0, .ref h0), (1, .ref h1), (2, .long x2)]) hx hb dX7_likeOther_5 hl (by decide) rfl (fun ls hl => ?_)
  refine lv_lload hx hb dX7_likeOther_7 (lv_at hl 0 rfl) ?_
  refine lv_aload_n hx hb dX7_likeOther_9 rfl (lv_at hl 2 rfl) ?_
  refine m_get (C := RX7) (T := TX7) (N := 6) (ci := 6) (ref := "LoweredPowers$Reals") (v := .long I_1_infinite) C0 hM 1 rfl rfl kt_X7_likeOther_X7 4 (by decide) kw_X7_likeOther_1 rfl rfl dX7_likeOther_10 ?_
  refine W.lcmp hx hb dX7_likeOther_13 ?_
  refine lv_if_le (tgt := 22) hx hb dX7_likeOther_14 (by decide) (fun hq => ?_) (fun hq => ?_)
  · have h := h.1 hq
    refine lv_lload_n hx hb dX7_likeOther_22 rfl (lv_at hl 3 rfl) ?_
    refine lv_aload_n hx hb dX7_likeOther_23 rfl (lv_at hl 2 rfl) ?_
    refine m_get (C := RX7) (T := TX7) (N := 6) (ci := 6) (ref := "LoweredPowers$Reals") (v := .long I_1_signBit) C0 hM 1 rfl rfl kt_X7_likeOther_X7 3 (by decide) kw_X7_likeOther_3 rfl rfl dX7_likeOther_24 ?_
    refine lv_land hx hb dX7_likeOther_27 ?_
    refine lv_lconst (v := (0 : Int64)) hx hb dX7_likeOther_28 (by decide) ?_
    refine W.lcmp hx hb dX7_likeOther_29 ?_
    refine lv_if_eq (tgt := 40) hx hb dX7_likeOther_30 (by decide) (fun hq => ?_) (fun hq => ?_)
    · have h := h.1 hq
      refine lv_lconst (v := (0 : Int64)) hx hb dX7_likeOther_40 (by decide) ?_
      exact jq41 _ _ _ _ _ h hM (lv_sub hl [1, 2, 0] rfl)
    · have h := h.2 hq
      refine lv_aload_n hx hb dX7_likeOther_33 rfl (lv_at hl 1 rfl) ?_
      refine m_get (C := RX7) (T := TX7) (N := 6) (ci := 6) (ref := "LoweredPowers$Reals") (v := .long I_0_signBit) C0 hM 0 rfl rfl kt_X7_likeOther_X7 3 (by decide) kw_X7_likeOther_3 rfl rfl dX7_likeOther_34 ?_
      refine lv_goto (tgt := 41) hx hb dX7_likeOther_37 (by decide) ?_
      exact jq41 _ _ _ _ _ h hM (lv_sub hl [1, 2, 0] rfl)
  · have h := h.2 hq
    refine lv_aload_n hx hb dX7_likeOther_17 rfl (lv_at hl 1 rfl) ?_
    refine m_get (C := RX7) (T := TX7) (N := 6) (ci := 6) (ref := "LoweredPowers$Reals") (v := .long I_0_nan) C0 hM 0 rfl rfl kt_X7_likeOther_X7 5 (by decide) kw_X7_likeOther_2 rfl rfl dX7_likeOther_18 ?_
    subst hsz; subst hA; subst hQ
    exact m_lret C0 hr hM () h rfl dX7_likeOther_21
