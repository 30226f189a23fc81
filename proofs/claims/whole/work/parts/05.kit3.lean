theorem m_metF {l : Launch} {y : MethodName} {Ts ws' : List Cond} {rm : Room} {Qc : Array Value → State → Outcome → State → Prop} {mc ms : Nat} {free : Addr → Prop} {cc : ByteArray} {maxL : Nat} {ret : Option FieldType} {D : va_G} {cI cJ cZ : ClassId} {w0 : va_W} {sz : Nat} {own : String} (av : List Value) (lv0 : List (Nat × Value)) (hy : plainFor y = true) (ho : y.cls = own) (hw : Ts = Cond.code y cc maxL ret :: ws') (hle : (lg_sl av).length ≤ maxL) (hlv : lv_args 0 av = lv0)
    (body : ∀ (p : Program) (e : Env) (s : State) (m : MethodId) (args : Array Value) (below : List Frame) (meth : Method) (c : Code) (Q : State → Prop) (A : Nat → Prop), Q = MQ below Qc args s mc ms free → A = va_A w0 s.heap.size → CX p m c cc maxL s args Ts own meth D cI cJ cZ A s.heap → meth.sig.returnType = ret → meth.name = y.name → s.heap.size = sz → MW D A s.heap w0 s.heap [] → ∀ ls : Array Slot, lv_has ls maxL lv0 →
      W p l e rm s m args below meth c s.heap [] 0 0 Q (F0 m 0 ls [])) : Met l y Ts rm (va_Pc av (WX D cI cJ cZ w0 sz)) Qc mc ms free := by
  refine va_MetF (cc := cc) (maxL := maxL) (ret := ret) hy hw ?_
  intro p e s m args below meth c s₁ B hml hv
  obtain ⟨rfl, hsz, hP, hK, hD0, hN⟩ := hv
  have hts := atoms_spec (ws := Ts) B.pre
  rw [lg_entry_eq]
  exact body p e s m av.toArray below meth c _ _ rfl rfl ⟨B.exec, B.bytes, hml, ho ▸ findClass_of_methodNamed B.named, hts, B.notSynchronized, hK, hN, fun q h => Or.inr h⟩ B.returns (name_of_methodNamed B.named B.method).1 hsz ⟨hP, hD0.self, va_S.rf⟩ _ (hlv ▸ lv_entry av hle)
