/-! the bits of a float or double that may be a signalling NaN: its copy may be drawn -/
abbrev ncp : Choice := Choice.named "NaN.copy"
theorem lw_copy : ncp ∈ lw_cs := List.mem_cons_of_mem _ List.mem_cons_self
theorem sig32_wp {Q : Option Value → Pre} {E : CtlPost} {e : Env} {d : Bool} {acts : List Action} {s : State} (v : Int32) (hv : (v.toUInt32 &&& 0x7fffffff > 0x7f800000 && v.toUInt32 &&& 0x00400000 == 0) = true) (hq : Q (some (.float (if e.choices ncp (s.drawn.count ncp) % 2 == 0 then v.toUInt32 else v.toUInt32 ||| 0x00400000))) true acts (s.draw ncp)) : wp (Native.java_lang_Float.bits.rowIntBitsToFloat.sem #[.int v]) Q E e d acts s := by
  rw [Native.java_lang_Float.bits.intBitsToFloat_on]
  simp only [hv, if_true, wp_bind', choose, wp_choose, W.mark, wp_pure']
  exact hq
theorem sig64_wp {Q : Option Value → Pre} {E : CtlPost} {e : Env} {d : Bool} {acts : List Action} {s : State} (v : Int64) (hv : (v.toUInt64 &&& 0x7fffffffffffffff > 0x7ff0000000000000 && v.toUInt64 &&& 0x0008000000000000 == 0) = true) (hq : Q (some (.double (if e.choices ncp (s.drawn.count ncp) % 2 == 0 then v.toUInt64 else v.toUInt64 ||| 0x0008000000000000))) true acts (s.draw ncp)) : wp (Native.java_lang_Float.bits.rowLongBitsToDouble.sem #[.long v]) Q E e d acts s := by
  rw [Native.java_lang_Float.bits.longBitsToDouble_on]
  simp only [hv, if_true, wp_bind', choose, wp_choose, W.mark, wp_pure']
  exact hq
theorem st_i2fSig {e : Env} {below : List Frame} {s target : State} {g : JFrame} {c : Code} {m : MethodId} {meth : Method} {k : Class} {ig : Instr} {len : Nat} (p : Program) (h : At s g.method c below) (acts : List Action)
    (N : NativeOf s.vm m k meth "java/lang/Float" "intBitsToFloat" "(I)F" true [.int]) (v : Int32)
    (hroom : e.platform.stackFull (((s.setTop g).threads[(s.setTop g).cur]?).getD { frames := [] }) (s.setTop g).frames (nativeFrameWords "java/lang/Float" "intBitsToFloat" 1) = false)
    (hv : (v.toUInt32 &&& 0x7fffffff > 0x7f800000 && v.toUInt32 &&& 0x00400000 == 0) = true)
    (hdg : decode c.code g.pc = .ok (ig, len))
    (hrest : Steps p.tables e below ((s.draw ncp).setTop { g with pc := g.pc + len, stack := .float (if e.choices ncp (s.drawn.count ncp) % 2 == 0 then v.toUInt32 else v.toUInt32 ||| 0x00400000) :: g.stack }) target) :
    Steps p.tables e below (doInvoke e (s.setTop g) acts m #[.int v]).1 target := by
  have hseen : seenByNative meth #[.int v] = #[.int v] := by simp [seenByNative, N.static, N.sig, narrow]
  refine Steps.nativeEnds (row := Native.java_lang_Float.bits.rowIntBitsToFloat) (v := some (.float (if e.choices ncp (s.drawn.count ncp) % 2 == 0 then v.toUInt32 else v.toUInt32 ||| 0x00400000))) (T := fun z => z.draw ncp) h acts N.cls N.meth N.boot N.native N.noCode N.noLock
    (by rw [N.className, N.name, N.desc]; exact intBitsToFloat_row p) (by rw [N.className, N.name]; exact hroom) (fun _ => rfl) rfl (fun _ => h.code) ?_ hdg hrest
  intro Q hq
  rw [hseen] at hq ⊢
  exact sig32_wp v hv (hq _ _)
theorem st_l2dSig {e : Env} {below : List Frame} {s target : State} {g : JFrame} {c : Code} {m : MethodId} {meth : Method} {k : Class} {ig : Instr} {len : Nat} (p : Program) (h : At s g.method c below) (acts : List Action)
    (N : NativeOf s.vm m k meth "java/lang/Double" "longBitsToDouble" "(J)D" true [.long]) (v : Int64)
    (hroom : e.platform.stackFull (((s.setTop g).threads[(s.setTop g).cur]?).getD { frames := [] }) (s.setTop g).frames (nativeFrameWords "java/lang/Double" "longBitsToDouble" 2) = false)
    (hv : (v.toUInt64 &&& 0x7fffffffffffffff > 0x7ff0000000000000 && v.toUInt64 &&& 0x0008000000000000 == 0) = true)
    (hdg : decode c.code g.pc = .ok (ig, len))
    (hrest : Steps p.tables e below ((s.draw ncp).setTop { g with pc := g.pc + len, stack := .double (if e.choices ncp (s.drawn.count ncp) % 2 == 0 then v.toUInt64 else v.toUInt64 ||| 0x0008000000000000) :: g.stack }) target) :
    Steps p.tables e below (doInvoke e (s.setTop g) acts m #[.long v]).1 target := by
  have hseen : seenByNative meth #[.long v] = #[.long v] := by simp [seenByNative, N.static, N.sig, narrow]
  refine Steps.nativeEnds (row := Native.java_lang_Float.bits.rowLongBitsToDouble) (v := some (.double (if e.choices ncp (s.drawn.count ncp) % 2 == 0 then v.toUInt64 else v.toUInt64 ||| 0x0008000000000000))) (T := fun z => z.draw ncp) h acts N.cls N.meth N.boot N.native N.noCode N.noLock
    (by rw [N.className, N.name, N.desc]; exact longBitsToDouble_row p) (by rw [N.className, N.name]; exact hroom) (fun _ => rfl) rfl (fun _ => h.code) ?_ hdg hrest
  intro Q hq
  rw [hseen] at hq ⊢
  exact sig64_wp v hv (hq _ _)
section BTS
variable {p : Program} {l : Launch} {e : Env} {R : Room} {s : State} {m : MethodId} {args : Array Value} {below : List Frame} {meth : Method} {c : Code} {H : Heap} {locs : List Loc} {cells slots : Nat} {Q : State → Prop}
variable {cc : ByteArray} {pc : Nat} {ls : Array Slot} {rest : List Value} {cs : List Choice} {d0 : Drawn}
theorem dr_copy {cs : List Choice} {s : State} {d0 d1 : Drawn} (hd0 : s.drawn.sameBut d0 cs) (hn : ncp ∈ cs) (hT : d1 = d0) : s.drawn.sameBut (d1.next ncp) cs := by
  subst hT
  exact Drawn.sameBut.trans hd0 (Drawn.sameBut.mono (Drawn.next_named d1 "NaN.copy") (fun c hc => by
      simp only [List.mem_cons, List.not_mem_nil, or_false] at hc
      rw [hc]; exact hn))
theorem alike_sig32 {b : UInt32} (hv : (b &&& 0x7fffffff > 0x7f800000 && b &&& 0x00400000 == 0) = true) (n : Bool) : alike32 (if n then b else b ||| 0x00400000) b = true := by
  have hb : isNaN32 b = true := isNaN32_not.mpr (fun h => by
    have h1 := (Bool.and_eq_true _ _ ▸ hv : _ ∧ _).1
    have h2 := of_decide_eq_true h1
    exact absurd h (UInt32.not_le.mpr h2))
  cases n
  · simp only [alike32, isNaN32_or_left hb, hb, Bool.and_self, Bool.or_true, Bool.false_eq_true, if_false]
  · simp only [if_true]; exact alike32_refl b
theorem alike_sig64 {b : UInt64} (hv : (b &&& 0x7fffffffffffffff > 0x7ff0000000000000 && b &&& 0x0008000000000000 == 0) = true) (n : Bool) : alike64 (if n then b else b ||| 0x0008000000000000) b = true := by
  have hb : isNaN64 b = true := isNaN64_not.mpr (fun h => by
    have h1 := (Bool.and_eq_true _ _ ▸ hv : _ ∧ _).1
    have h2 := of_decide_eq_true h1
    exact absurd h (UInt64.not_le.mpr h2))
  cases n
  · simp only [alike64, isNaN64_or_left hb, hb, Bool.and_self, Bool.or_true, Bool.false_eq_true, if_false]
  · simp only [if_true]; exact alike64_refl b
theorem m_i2fb (hd0 : s.drawn.sameBut d0 cs) (hn : ncp ∈ cs) (hexec : p.tables.exec = Jvm.exec) (hb : c.code = cc) (hml : c.maxLocals = ls.size) {own : String} {index : Nat} (hown : s.vm.findClass own = some m.cls) (hlink : (Cond.methodLink own index ⟨"java/lang/Float", "intBitsToFloat", "(I)F"⟩).before args s = true) (hnat : (Cond.native ⟨"java/lang/Float", "intBitsToFloat", "(I)F"⟩).before args s = true) (hstat : (Cond.static ⟨"java/lang/Float", "intBitsToFloat", "(I)F"⟩).before args s = true) (hinit : (Cond.initialized "java/lang/Float").before args s = true) {b : Int32}
    (hframes : 1 ≤ R.frames) (hlocals : (rest.map fun v => v.category).sum + 15 ≤ R.locals) (hdg : decode cc pc = .ok (.invokestatic index, 3))
    (k : ∀ (w : UInt32) (d' : Drawn), alike32 w (b.toUInt32) = true → s.drawn.sameBut d' cs → W p l e R (s.setDrawn d') m args below meth c H locs cells slots Q (F0 m (pc + 3) ls (.float w :: rest))) : W p l e R (s.setDrawn d0) m args below meth c H locs cells slots Q (F0 m pc ls (.int b :: rest)) := by
  have dw : ∀ {w : Cond}, w.before args s = true → w.before args (s.setDrawn d0) = true := fun {w} h => (Cond.before_setDrawn args s d0 w).trans h
  by_cases hv : (b.toUInt32 &&& 0x7fffffff > 0x7f800000 && b.toUInt32 &&& 0x00400000 == 0) = true
  · intro T hT X
    obtain ⟨r, kS, methS, hnS, hmS, hkS, N⟩ := NativeOf.of_static (dw hnat) (dw hstat) (ps := [.int]) (ret := some .float) (by decide +kernel)
    have hinitS : kS.init = .initialized := Cond.initialized_spec (findClass_of_methodNamed hnS) hkS (dw hinit)
    obtain ⟨vm', X', step⟩ := X.invokestatic hexec hown (dw hlink) hnS hmS N.static hkS hinitS (by decide) (g := F0 m pc ls (.int b :: rest)) rfl (argsL := [.int b]) (rest := rest) (by rw [N.sig]; rfl) rfl (by rw [hb]; exact hdg)
    obtain ⟨kS', N'⟩ := N.alike X'.warmed.alike
    have X2 := X'.drewTo (T.drawn.next ncp)
    obtain ⟨t, a1, b1⟩ := k _ (T.drawn.next ncp) (alike_sig32 hv (e.choices ncp (T.drawn.count ncp) % 2 == 0)) (dr_copy hd0 hn X.drawn_eq) ((T.setVm vm').setDrawn (T.drawn.next ncp)) hT X2
    refine ⟨t, step t fun acts => ?_, b1⟩
    exact st_i2fSig (g := { (F0 m pc ls (.int b :: rest)) with stack := rest }) (ig := .invokestatic index) (len := 3) p X'.here acts N' b (X'.notFull (g := { (F0 m pc ls (.int b :: rest)) with stack := rest }) (by rw [hml]) (vars := nativeFrameWords "java/lang/Float" "intBitsToFloat" 1) hframes (by show 2 * 0 + (rest.map fun v => v.category).sum + (nativeFrameWords "java/lang/Float" "intBitsToFloat" 1 + 11) ≤ R.locals; have hw : nativeFrameWords "java/lang/Float" "intBitsToFloat" 1 = 3 := (by decide); omega)) hv (by rw [hb]; exact hdg) a1
  · exact vn_i2f (s := s.setDrawn d0) hexec hb hml hown (dw hlink) (dw hnat) (dw hstat) (dw hinit) (by have := hv; simpa [vn_sni2f] using this) hframes hlocals hdg (k _ d0 (alike32_refl _) hd0)
theorem m_l2db (hd0 : s.drawn.sameBut d0 cs) (hn : ncp ∈ cs) (hexec : p.tables.exec = Jvm.exec) (hb : c.code = cc) (hml : c.maxLocals = ls.size) {own : String} {index : Nat} (hown : s.vm.findClass own = some m.cls) (hlink : (Cond.methodLink own index ⟨"java/lang/Double", "longBitsToDouble", "(J)D"⟩).before args s = true) (hnat : (Cond.native ⟨"java/lang/Double", "longBitsToDouble", "(J)D"⟩).before args s = true) (hstat : (Cond.static ⟨"java/lang/Double", "longBitsToDouble", "(J)D"⟩).before args s = true) (hinit : (Cond.initialized "java/lang/Double").before args s = true) {b : Int64}
    (hframes : 1 ≤ R.frames) (hlocals : (rest.map fun v => v.category).sum + 15 ≤ R.locals) (hdg : decode cc pc = .ok (.invokestatic index, 3))
    (k : ∀ (w : UInt64) (d' : Drawn), alike64 w (b.toUInt64) = true → s.drawn.sameBut d' cs → W p l e R (s.setDrawn d') m args below meth c H locs cells slots Q (F0 m (pc + 3) ls (.double w :: rest))) : W p l e R (s.setDrawn d0) m args below meth c H locs cells slots Q (F0 m pc ls (.long b :: rest)) := by
  have dw : ∀ {w : Cond}, w.before args s = true → w.before args (s.setDrawn d0) = true := fun {w} h => (Cond.before_setDrawn args s d0 w).trans h
  by_cases hv : (b.toUInt64 &&& 0x7fffffffffffffff > 0x7ff0000000000000 && b.toUInt64 &&& 0x0008000000000000 == 0) = true
  · intro T hT X
    obtain ⟨r, kS, methS, hnS, hmS, hkS, N⟩ := NativeOf.of_static (dw hnat) (dw hstat) (ps := [.long]) (ret := some .double) (by decide +kernel)
    have hinitS : kS.init = .initialized := Cond.initialized_spec (findClass_of_methodNamed hnS) hkS (dw hinit)
    obtain ⟨vm', X', step⟩ := X.invokestatic hexec hown (dw hlink) hnS hmS N.static hkS hinitS (by decide) (g := F0 m pc ls (.long b :: rest)) rfl (argsL := [.long b]) (rest := rest) (by rw [N.sig]; rfl) rfl (by rw [hb]; exact hdg)
    obtain ⟨kS', N'⟩ := N.alike X'.warmed.alike
    have X2 := X'.drewTo (T.drawn.next ncp)
    obtain ⟨t, a1, b1⟩ := k _ (T.drawn.next ncp) (alike_sig64 hv (e.choices ncp (T.drawn.count ncp) % 2 == 0)) (dr_copy hd0 hn X.drawn_eq) ((T.setVm vm').setDrawn (T.drawn.next ncp)) hT X2
    refine ⟨t, step t fun acts => ?_, b1⟩
    exact st_l2dSig (g := { (F0 m pc ls (.long b :: rest)) with stack := rest }) (ig := .invokestatic index) (len := 3) p X'.here acts N' b (X'.notFull (g := { (F0 m pc ls (.long b :: rest)) with stack := rest }) (by rw [hml]) (vars := nativeFrameWords "java/lang/Double" "longBitsToDouble" 2) hframes (by show 2 * 0 + (rest.map fun v => v.category).sum + (nativeFrameWords "java/lang/Double" "longBitsToDouble" 2 + 11) ≤ R.locals; have hw : nativeFrameWords "java/lang/Double" "longBitsToDouble" 2 = 4 := (by decide); omega)) hv (by rw [hb]; exact hdg) a1
  · exact vn_l2d (s := s.setDrawn d0) hexec hb hml hown (dw hlink) (dw hnat) (dw hstat) (dw hinit) (by have := hv; simpa [vn_snl2d] using this) hframes hlocals hdg (k _ d0 (alike64_refl _) hd0)
end BTS
