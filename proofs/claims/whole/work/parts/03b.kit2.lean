section MYC
variable {p : Program} {l : Launch} {e : Env} {R : Room} {s : State} {m : MethodId} {args : Array Value} {below : List Frame} {meth : Method} {c : Code} {H : Heap} {locs : List Loc} {cells slots : Nat} {Q : State → Prop}
variable {cc : ByteArray} {pc nL : Nat} {ls : Array Slot} {rest st : List Value} {D : va_G} {A : Nat → Prop} {a : Nat} {ws wc wr ws' : va_W} {H0 : Heap} {cI cJ cZ : ClassId} {Ts : List Cond} {own : String}
theorem m_newaI (C0 : CX p m c cc nL s args Ts own meth D cI cJ cZ A H0) (hM : MW D A H0 ws H locs) (harr : Cond.arrayClass .int ∈ Ts) {n : Int32} {N : Nat} (hn : ¬ n < 0) (hN : n.toNatClampNeg = N) (hby : N * 4 ≤ 536870912) (hcells : cells + 1 ≤ R.cells) (hslots : slots + N ≤ R.slots) (hdg : decode cc pc = .ok (.newarray .int, 2))
    (kk : ∀ (q : Nat) (H1 : Heap), MW D A H0 (ws ++ [(q, .inl (cI, N, .inl (fun _ => 0)))]) H1 locs → W p l e R s m args below meth c H1 locs (cells + 1) (slots + N) Q (F0 m (pc + 2) ls (.ref q :: rest))) : W p l e R s m args below meth c H locs cells slots Q (F0 m pc ls (.int n :: rest)) := by
  have ht := C0.2.2.2.2.1
  have hK := C0.2.2.2.2.2.2.1
  refine va_newa (atype := .int) (ty := .int) (a0 := (N, .inl (fun _ => 0))) C0.1 C0.2.1 (ht _ harr) rfl hK hM.1 hM.2.1 hM.2.2 C0.2.2.2.2.2.2.2.2 (fun _ => rfl) hn hN hby hcells hslots hdg (fun q cA H1 hK1 hP hD hS => ?_)
  have e1 : s.vm.findClass ("[" ++ (FieldType.int).toString) = some cA := (hK1.2 3 _ rfl).2
  have e2 : s.vm.findClass ("[" ++ (FieldType.int).toString) = some cI := (hK.2 0 _ rfl).2
  have e3 : cA = cI := Option.some.inj (e1.symm.trans e2)
  rw [e3] at hP hD
  exact kk q H1 ⟨hP, hD, hS⟩
theorem m_newaJ (C0 : CX p m c cc nL s args Ts own meth D cI cJ cZ A H0) (hM : MW D A H0 ws H locs) (harr : Cond.arrayClass .long ∈ Ts) {n : Int32} {N : Nat} (hn : ¬ n < 0) (hN : n.toNatClampNeg = N) (hby : N * 8 ≤ 536870912) (hcells : cells + 1 ≤ R.cells) (hslots : slots + N ≤ R.slots) (hdg : decode cc pc = .ok (.newarray .long, 2))
    (kk : ∀ (q : Nat) (H1 : Heap), MW D A H0 (ws ++ [(q, .inl (cJ, N, .inr (.inl (fun _ => 0))))]) H1 locs → W p l e R s m args below meth c H1 locs (cells + 1) (slots + N) Q (F0 m (pc + 2) ls (.ref q :: rest))) : W p l e R s m args below meth c H locs cells slots Q (F0 m pc ls (.int n :: rest)) := by
  have ht := C0.2.2.2.2.1
  have hK := C0.2.2.2.2.2.2.1
  refine va_newa (atype := .long) (ty := .long) (a0 := (N, .inr (.inl (fun _ => 0)))) C0.1 C0.2.1 (ht _ harr) rfl hK hM.1 hM.2.1 hM.2.2 C0.2.2.2.2.2.2.2.2 (fun _ => rfl) hn hN hby hcells hslots hdg (fun q cA H1 hK1 hP hD hS => ?_)
  have e1 : s.vm.findClass ("[" ++ (FieldType.long).toString) = some cA := (hK1.2 3 _ rfl).2
  have e2 : s.vm.findClass ("[" ++ (FieldType.long).toString) = some cJ := (hK.2 1 _ rfl).2
  have e3 : cA = cJ := Option.some.inj (e1.symm.trans e2)
  rw [e3] at hP hD
  exact kk q H1 ⟨hP, hD, hS⟩
theorem m_newaZ (C0 : CX p m c cc nL s args Ts own meth D cI cJ cZ A H0) (hM : MW D A H0 ws H locs) (harr : Cond.arrayClass .boolean ∈ Ts) {n : Int32} {N : Nat} (hn : ¬ n < 0) (hN : n.toNatClampNeg = N) (hby : N * 1 ≤ 536870912) (hcells : cells + 1 ≤ R.cells) (hslots : slots + N ≤ R.slots) (hdg : decode cc pc = .ok (.newarray .boolean, 2))
    (kk : ∀ (q : Nat) (H1 : Heap), MW D A H0 (ws ++ [(q, .inl (cZ, N, .inl (fun _ => 0)))]) H1 locs → W p l e R s m args below meth c H1 locs (cells + 1) (slots + N) Q (F0 m (pc + 2) ls (.ref q :: rest))) : W p l e R s m args below meth c H locs cells slots Q (F0 m pc ls (.int n :: rest)) := by
  have ht := C0.2.2.2.2.1
  have hK := C0.2.2.2.2.2.2.1
  refine va_newa (atype := .boolean) (ty := .boolean) (a0 := (N, .inl (fun _ => 0))) C0.1 C0.2.1 (ht _ harr) rfl hK hM.1 hM.2.1 hM.2.2 C0.2.2.2.2.2.2.2.2 (fun _ => rfl) hn hN hby hcells hslots hdg (fun q cA H1 hK1 hP hD hS => ?_)
  have e1 : s.vm.findClass ("[" ++ (FieldType.boolean).toString) = some cA := (hK1.2 3 _ rfl).2
  have e2 : s.vm.findClass ("[" ++ (FieldType.boolean).toString) = some cZ := (hK.2 2 _ rfl).2
  have e3 : cA = cZ := Option.some.inj (e1.symm.trans e2)
  rw [e3] at hP hD
  exact kk q H1 ⟨hP, hD, hS⟩
theorem m_new (C0 : CX p m c cc nL s args Ts own meth D cI cJ cZ A H0) (hM : MW D A H0 ws H locs) {C : String} {T : u_T} {N ci index : Nat} (hc : vwCl[ci]? = some (C, T, N)) (hin : ∀ w ∈ u_ws C T N, w ∈ Ts) (ty : Nat → FieldType) (hty : ∀ k, k < N → parseFieldDescriptor (T k).2.2.1 = some (ty k)) (hcl : Cond.classLink own index C ∈ Ts) (hinst : Cond.instantiable C N ∈ Ts) (hini : Cond.initialized C ∈ Ts) (fs : List Value) (hfs : ∀ j, j < N → defaultValue (ty j) = vp_V fs j) (hcells : cells + 1 ≤ R.cells) (hslots : slots + N ≤ R.slots) (hdg : decode cc pc = .ok (.new index, 3))
    (kk : ∀ (q : Nat) (H1 : Heap), MW D A H0 (ws ++ [(q, .inr (ci, fs))]) H1 locs → W p l e R s m args below meth c H1 locs (cells + 1) (slots + N) Q (F0 m (pc + 3) ls (.ref q :: rest))) : W p l e R s m args below meth c H locs cells slots Q (F0 m pc ls rest) := by
  have ht := C0.2.2.2.2.1
  exact va_new C0.1 C0.2.1 ht hin ty hty C0.2.2.2.1 (ht _ hcl) (ht _ hinst) (ht _ hini) C0.2.2.2.2.2.2.1 hM.1 hM.2.1 hM.2.2 C0.2.2.2.2.2.2.2.2 hc hfs hcells hslots hdg (fun q H1 h1 h2 h3 => kk q H1 ⟨h1, h2, h3⟩)
theorem m_runI (C0 : CX p m c cc nL s args Ts own meth D cI cJ cZ A H0) (hM : MW D A H0 ws H locs) {b index maxL mc ms n : Nat} {y : MethodName} {wy wy' : List Cond} {bytes : ByteArray} {rm : Room} {As : List Value} {Qc : Array Value → State → Outcome → State → Prop} (hMet : Met l y wy rm (va_Pc (.ref b :: As) (WX D cI cJ cZ wc H.size)) Qc mc ms (va_A wc H.size)) (isC : List Nat) (hC : isC.map (fun i => ws[i]?) = wc.map some) (hn : va_nd isC = true) (hg : GoodIn Ts wy) (hw : wy = Cond.code y bytes maxL none :: wy') (hrc : rm.cells = mc) (hrs : rm.slots = ms) (hini : Cond.initialized y.cls ∈ Ts) (hl : Cond.methodLink own index y ∈ Ts) (hin : Cond.instanceMethod y ∈ Ts) (hy1 : y.name = "<init>") (hd : y.cls ≠ "java/lang/invoke/MethodHandle" ∧ y.cls ≠ "java/lang/invoke/VarHandle" ∧ (parseMethodDescriptor y.desc).map (fun d => d.parameters.length) = some n) (hR : rm.frames + 1 ≤ R.frames ∧ 8 + (maxL + 11) + rm.locals ≤ R.locals) (hnA : As.length = n) (hls : ls.size = nL) (hst : st = As.reverse ++ .ref b :: rest) (hroom : (rest.map fun v => v.category).sum ≤ 8) (hdg : decode cc pc = .ok (.invokespecial index, 3)) (hf : cells + mc ≤ R.cells ∧ slots + ms ≤ R.slots) :
    va_Run p l e R s m args below meth c H locs cells slots mc ms (F0 m pc ls st) rest (Qc (Value.ref b :: As).toArray) (va_A wc H.size) := by
  have ht := C0.2.2.2.2.1
  exact va_runI ⟨C0.1, C0.2.1, C0.2.2.1, C0.2.2.2.1, ht⟩ hMet (cwI n ht hg hw hrc hrs (ht _ hini) (ht _ hl) (ht _ hin) hy1 hd hR) ⟨pre_blind, pre_of C0 hM isC hC hn _⟩ rfl hnA hls hst (lv_room hroom) hdg hf
theorem m_runIN (C0 : CX p m c cc nL s args Ts own meth D cI cJ cZ A H0) (hM : MW D A H0 ws H locs) {b index maxL mc ms n : Nat} {host : String} {y : MethodName} {wy wy' : List Cond} {bytes : ByteArray} {rm : Room} {As : List Value} {Qc : Array Value → State → Outcome → State → Prop} (hMet : Met l y wy rm (va_Pc (.ref b :: As) (WX D cI cJ cZ wc H.size)) Qc mc ms (va_A wc H.size)) (isC : List Nat) (hC : isC.map (fun i => ws[i]?) = wc.map some) (hn : va_nd isC = true) (hg : GoodIn Ts wy) (hw : wy = Cond.code y bytes maxL none :: wy') (hrc : rm.cells = mc) (hrs : rm.slots = ms) (hl : va_Nw (.methodLinkNest own index y host) s) (hini : Cond.initialized y.cls ∈ Ts) (hin : Cond.instanceMethod y ∈ Ts) (hy1 : y.name = "<init>") (hd : y.cls ≠ "java/lang/invoke/MethodHandle" ∧ y.cls ≠ "java/lang/invoke/VarHandle" ∧ (parseMethodDescriptor y.desc).map (fun d => d.parameters.length) = some n) (hR : rm.frames + 1 ≤ R.frames ∧ 8 + (maxL + 11) + rm.locals ≤ R.locals) (hnA : As.length = n) (hls : ls.size = nL) (hst : st = As.reverse ++ .ref b :: rest) (hroom : (rest.map fun v => v.category).sum ≤ 8) (hdg : decode cc pc = .ok (.invokespecial index, 3)) (hf : cells + mc ≤ R.cells ∧ slots + ms ≤ R.slots) :
    va_Run p l e R s m args below meth c H locs cells slots mc ms (F0 m pc ls st) rest (Qc (Value.ref b :: As).toArray) (va_A wc H.size) := by
  have ht := C0.2.2.2.2.1
  exact va_runIN ⟨C0.1, C0.2.1, C0.2.2.1, C0.2.2.2.1, ht⟩ hMet ⟨va_cnB n ht hg hw hrc hrs hl (ht _ hini) hd hR, hy1, ht _ hin⟩ ⟨pre_blind, pre_of C0 hM isC hC hn _⟩ rfl hnA hls hst (lv_room hroom) hdg hf
/-- behind a constructor's call: the others' cells, then the new ones -/
theorem m_callC (C0 : CX p m c cc nL s args Ts own meth D cI cJ cZ A H0) (hM : MW D A H0 ws H locs) {S : Type} {post : S → Prop} {w1 : S → va_W} {a : Array Value} {mc ms : Nat} (isC isR : List Nat) (hC : isC.map (fun i => ws[i]?) = wc.map some) (hR : isR.map (fun i => ws[i]?) = wr.map some) (hn : va_nd isR = true) (hdis : ∀ i ∈ isR, i ∉ isC) (hr : va_Run p l e R s m args below meth c H locs cells slots mc ms (F0 m pc ls st) rest (va_Qv post (fun u t => WY D (va_A wc H.size) (w1 u) t) (va_A wc H.size) a) (va_A wc H.size))
    (kk : ∀ (u : S) (H1 : Heap) (locs1 : List Loc), post u → MW D A H0 (wr ++ w1 u) H1 locs1 → W p l e R s m args below meth c H1 locs1 (cells + mc) (slots + ms) Q (F0 m (pc + 3) ls rest)) : W p l e R s m args below meth c H locs cells slots Q (F0 m pc ls st) := by
  have hF := va_free (wc := wc) hM.2.1 hM.2.2 C0.2.2.2.2.2.2.2.2 isC hC
  refine va_callv hr hM.2.2 (fun q _ h => hF q h) hF (fun u t H1 locs1 ht hvm hw hB hz1 hk1 hS => ?_)
  obtain ⟨hP1, hD1⟩ := hB
  rw [ht] at hP1
  obtain ⟨hP, hD⟩ := va_join (wr := wr) (w1 := w1 u) hM.1 hM.2.1 isC isR hC hR hn hdis hk1 hF hP1 hD1
  exact kk u H1 locs1 hw ⟨hP, hD, hS⟩
theorem CX.drawn (C0 : CX p m c cc nL s args Ts own meth D cI cJ cZ A H0) (d : Drawn) : CX p m c cc nL (s.setDrawn d) args Ts own meth D cI cJ cZ A H0 :=
  ⟨C0.1, C0.2.1, C0.2.2.1, C0.2.2.2.1, dr_words C0.2.2.2.2.1 d, C0.2.2.2.2.2.1, va_K.moved (Vm.Alike.refl _) C0.2.2.2.2.2.2.1, NWs.same rfl C0.2.2.2.2.2.2.2.1, C0.2.2.2.2.2.2.2.2⟩
theorem m_runV_D {cs : List Choice} (C0 : CX p m c cc nL s args Ts own meth D cI cJ cZ A H0) (hM : MW D A H0 ws H locs) {b index maxL mc ms n ci N : Nat} {C : String} {T : u_T} {y : MethodName} {wy wy' : List Cond} {bytes : ByteArray} {ret : Option FieldType} {rm : Room} {As : List Value} {Qc : Array Value → State → Outcome → State → Prop} {fs : List Value} (hMet : MetD cs l y wy rm (va_Pc (.ref b :: As) (WX D cI cJ cZ wc H.size)) Qc mc ms (va_A wc H.size)) (isC : List Nat) (hC : isC.map (fun i => ws[i]?) = wc.map some) (hn : va_nd isC = true) (hg : GoodIn Ts (wsV own index C y wy)) (hw : wy = Cond.code y bytes maxL ret :: wy') (hrc : rm.cells = mc) (hrs : rm.slots = ms) (hrec : wc[0]? = some (b, .inr (ci, fs))) (hci : vwCl[ci]? = some (C, T, N)) (hd : y.cls = C ∧ y.cls ≠ "java/lang/invoke/MethodHandle" ∧ y.cls ≠ "java/lang/invoke/VarHandle" ∧ (parseMethodDescriptor y.desc).map (fun d => d.parameters.length) = some n) (hR : rm.frames + 1 ≤ R.frames ∧ 8 + (maxL + 11) + rm.locals ≤ R.locals) (hnA : As.length = n) (hls : ls.size = nL) (hst : st = As.reverse ++ .ref b :: rest) (hroom : (rest.map fun v => v.category).sum ≤ 8) (hdg : decode cc pc = .ok (.invokevirtual index, 3)) (hf : cells + mc ≤ R.cells ∧ slots + ms ≤ R.slots) :
    va_RunD cs p l e R s m args below meth c H locs cells slots mc ms (F0 m pc ls st) rest (Qc (Value.ref b :: As).toArray) (va_A wc H.size) :=
  va_runV_D ⟨C0.1, C0.2.1, C0.2.2.1, C0.2.2.2.1, C0.2.2.2.2.1⟩ hMet (cwV n C0.2.2.2.2.1 hg hw hrc hrs hd hR) ⟨pre_blind, va_recv C0.2.2.2.2.2.2.1 (hM.1.sub isC (fm_of_map isC wc hC)) hci hrec, pre_of C0 hM isC hC hn _⟩ rfl hnA hls hst (lv_room hroom) hdg hf
theorem m_calliD {cs : List Choice} {d0 : Drawn} (hd0 : s.drawn.sameBut d0 cs) (C0 : CX p m c cc nL (s.setDrawn d0) args Ts own meth D cI cJ cZ A H0) (hM : MW D A H0 ws H locs) {S : Type} {post : Int32 → S → Prop} {w1 : S → va_W} {a : Array Value} (isC : List Nat) (hC : isC.map (fun i => ws[i]?) = wc.map some) (hr : va_RunD cs p l e R (s.setDrawn d0) m args below meth c H locs cells slots 0 0 (F0 m pc ls st) rest (va_Qi post (fun u t => WY D (va_A wc H.size) (w1 u) t) (va_A wc H.size) a) (va_A wc H.size)) (wn : S → va_W) (hl : ∀ u, isC.length = (w1 u).length) (hp : ∀ u, patch ws isC (w1 u) = wn u)
    (kk : ∀ (r : Int32) (u : S) (H1 : Heap) (locs1 : List Loc), post r u → MW D A H0 (wn u) H1 locs1 → ∀ d1 : Drawn, s.drawn.sameBut d1 cs → W p l e R (s.setDrawn d1) m args below meth c H1 locs1 cells slots Q (F0 m (pc + 3) ls (.int r :: rest))) : W p l e R (s.setDrawn d0) m args below meth c H locs cells slots Q (F0 m pc ls st) := by
  have hF := va_free (wc := wc) hM.2.1 hM.2.2 C0.2.2.2.2.2.2.2.2 isC hC
  refine va_calliD hd0 hr hM.2.2 (fun q _ h => hF q h) hF (fun r u t H1 locs1 ht hvm hw hB hz1 hk1 hS d1 hd1 => ?_)
  obtain ⟨hP1, hD1⟩ := hB
  rw [ht] at hP1
  obtain ⟨hP, hD⟩ := patch_join hM.1 hM.2.1 isC hC (hl u) hk1 hF hP1 hD1
  rw [hp u] at hP hD
  exact kk r u H1 locs1 hw ⟨hP, hD, hS⟩ d1 hd1
theorem m_calllD {cs : List Choice} {d0 : Drawn} (hd0 : s.drawn.sameBut d0 cs) (C0 : CX p m c cc nL (s.setDrawn d0) args Ts own meth D cI cJ cZ A H0) (hM : MW D A H0 ws H locs) {S : Type} {post : Int64 → S → Prop} {w1 : S → va_W} {a : Array Value} (isC : List Nat) (hC : isC.map (fun i => ws[i]?) = wc.map some) (hr : va_RunD cs p l e R (s.setDrawn d0) m args below meth c H locs cells slots 0 0 (F0 m pc ls st) rest (va_Ql post (fun u t => WY D (va_A wc H.size) (w1 u) t) (va_A wc H.size) a) (va_A wc H.size)) (wn : S → va_W) (hl : ∀ u, isC.length = (w1 u).length) (hp : ∀ u, patch ws isC (w1 u) = wn u)
    (kk : ∀ (r : Int64) (u : S) (H1 : Heap) (locs1 : List Loc), post r u → MW D A H0 (wn u) H1 locs1 → ∀ d1 : Drawn, s.drawn.sameBut d1 cs → W p l e R (s.setDrawn d1) m args below meth c H1 locs1 cells slots Q (F0 m (pc + 3) ls (.long r :: rest))) : W p l e R (s.setDrawn d0) m args below meth c H locs cells slots Q (F0 m pc ls st) := by
  have hF := va_free (wc := wc) hM.2.1 hM.2.2 C0.2.2.2.2.2.2.2.2 isC hC
  refine va_calllD hd0 hr hM.2.2 (fun q _ h => hF q h) hF (fun r u t H1 locs1 ht hvm hw hB hz1 hk1 hS d1 hd1 => ?_)
  obtain ⟨hP1, hD1⟩ := hB
  rw [ht] at hP1
  obtain ⟨hP, hD⟩ := patch_join hM.1 hM.2.1 isC hC (hl u) hk1 hF hP1 hD1
  rw [hp u] at hP hD
  exact kk r u H1 locs1 hw ⟨hP, hD, hS⟩ d1 hd1
theorem m_callfD {cs : List Choice} {d0 : Drawn} (hd0 : s.drawn.sameBut d0 cs) (C0 : CX p m c cc nL (s.setDrawn d0) args Ts own meth D cI cJ cZ A H0) (hM : MW D A H0 ws H locs) {S : Type} {post : UInt32 → S → Prop} {w1 : S → va_W} {a : Array Value} (isC : List Nat) (hC : isC.map (fun i => ws[i]?) = wc.map some) (hr : va_RunD cs p l e R (s.setDrawn d0) m args below meth c H locs cells slots 0 0 (F0 m pc ls st) rest (va_Qf post (fun u t => WY D (va_A wc H.size) (w1 u) t) (va_A wc H.size) a) (va_A wc H.size)) (wn : S → va_W) (hl : ∀ u, isC.length = (w1 u).length) (hp : ∀ u, patch ws isC (w1 u) = wn u)
    (kk : ∀ (r : UInt32) (u : S) (H1 : Heap) (locs1 : List Loc), post r u → MW D A H0 (wn u) H1 locs1 → ∀ d1 : Drawn, s.drawn.sameBut d1 cs → W p l e R (s.setDrawn d1) m args below meth c H1 locs1 cells slots Q (F0 m (pc + 3) ls (.float r :: rest))) : W p l e R (s.setDrawn d0) m args below meth c H locs cells slots Q (F0 m pc ls st) := by
  have hF := va_free (wc := wc) hM.2.1 hM.2.2 C0.2.2.2.2.2.2.2.2 isC hC
  refine va_callfD hd0 hr hM.2.2 (fun q _ h => hF q h) hF (fun r u t H1 locs1 ht hvm hw hB hz1 hk1 hS d1 hd1 => ?_)
  obtain ⟨hP1, hD1⟩ := hB
  rw [ht] at hP1
  obtain ⟨hP, hD⟩ := patch_join hM.1 hM.2.1 isC hC (hl u) hk1 hF hP1 hD1
  rw [hp u] at hP hD
  exact kk r u H1 locs1 hw ⟨hP, hD, hS⟩ d1 hd1
theorem m_calldD {cs : List Choice} {d0 : Drawn} (hd0 : s.drawn.sameBut d0 cs) (C0 : CX p m c cc nL (s.setDrawn d0) args Ts own meth D cI cJ cZ A H0) (hM : MW D A H0 ws H locs) {S : Type} {post : UInt64 → S → Prop} {w1 : S → va_W} {a : Array Value} (isC : List Nat) (hC : isC.map (fun i => ws[i]?) = wc.map some) (hr : va_RunD cs p l e R (s.setDrawn d0) m args below meth c H locs cells slots 0 0 (F0 m pc ls st) rest (va_Qd post (fun u t => WY D (va_A wc H.size) (w1 u) t) (va_A wc H.size) a) (va_A wc H.size)) (wn : S → va_W) (hl : ∀ u, isC.length = (w1 u).length) (hp : ∀ u, patch ws isC (w1 u) = wn u)
    (kk : ∀ (r : UInt64) (u : S) (H1 : Heap) (locs1 : List Loc), post r u → MW D A H0 (wn u) H1 locs1 → ∀ d1 : Drawn, s.drawn.sameBut d1 cs → W p l e R (s.setDrawn d1) m args below meth c H1 locs1 cells slots Q (F0 m (pc + 3) ls (.double r :: rest))) : W p l e R (s.setDrawn d0) m args below meth c H locs cells slots Q (F0 m pc ls st) := by
  have hF := va_free (wc := wc) hM.2.1 hM.2.2 C0.2.2.2.2.2.2.2.2 isC hC
  refine va_calldD hd0 hr hM.2.2 (fun q _ h => hF q h) hF (fun r u t H1 locs1 ht hvm hw hB hz1 hk1 hS d1 hd1 => ?_)
  obtain ⟨hP1, hD1⟩ := hB
  rw [ht] at hP1
  obtain ⟨hP, hD⟩ := patch_join hM.1 hM.2.1 isC hC (hl u) hk1 hF hP1 hD1
  rw [hp u] at hP hD
  exact kk r u H1 locs1 hw ⟨hP, hD, hS⟩ d1 hd1
end MYC
theorem m_metD {l : Launch} {y : MethodName} {Ts ws' : List Cond} {rm : Room} {Qc : Array Value → State → Outcome → State → Prop} {mc ms : Nat} {free : Addr → Prop} {cc : ByteArray} {maxL : Nat} {ret : Option FieldType} {D : va_G} {cI cJ cZ : ClassId} {w0 : va_W} {sz : Nat} {own : String} (av : List Value) (lv0 : List (Nat × Value)) (hy : plainName y.cls = true) (ho : y.cls = own) (hw : Ts = Cond.code y cc maxL ret :: ws') (hle : (lg_sl av).length ≤ maxL) (hlv : lv_args 0 av = lv0)
    (body : ∀ (p : Program) (e : Env) (s : State) (m : MethodId) (args : Array Value) (below : List Frame) (meth : Method) (c : Code) (Q : State → Prop) (A : Nat → Prop), Q = MQD lw_cs below Qc args s mc ms free → A = va_A w0 s.heap.size → CX p m c cc maxL s args Ts own meth D cI cJ cZ A s.heap → meth.sig.returnType = ret → meth.name = y.name → s.heap.size = sz → MW D A s.heap w0 s.heap [] → ∀ ls : Array Slot, lv_has ls maxL lv0 → s.drawn.sameBut s.drawn lw_cs →
      W p l e rm (s.setDrawn s.drawn) m args below meth c s.heap [] 0 0 Q (F0 m 0 ls [])) : MetD lw_cs l y Ts rm (va_Pc av (WX D cI cJ cZ w0 sz)) Qc mc ms free := by
  refine MetD.ofW (cc := cc) (maxL := maxL) (ret := ret) hy hw ?_
  intro p e s m args below meth c s₁ B hml hv hd0
  obtain ⟨rfl, hsz, hP, hK, hD0, hN⟩ := hv
  have hts := atoms_spec (ws := Ts) B.pre
  rw [lg_entry_eq]
  exact body p e s m av.toArray below meth c _ _ rfl rfl ⟨B.exec, B.bytes, hml, ho ▸ findClass_of_methodNamed B.named, hts, B.notSynchronized, hK, hN, fun q h => Or.inr h⟩ B.returns (name_of_methodNamed B.named B.method).1 hsz ⟨hP, hD0.self, va_S.rf⟩ _ (hlv ▸ lv_entry av hle) hd0
