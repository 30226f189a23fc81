theorem m_metF {l : Launch} {y : MethodName} {Ts ws' : List Cond} {rm : Room} {Qc : Array Value → State → Outcome → State → Prop} {mc ms : Nat} {free : Addr → Prop} {cc : ByteArray} {maxL : Nat} {ret : Option FieldType} {D : va_G} {cI cJ cZ : ClassId} {w0 : va_W} {sz : Nat} {own : String} (av : List Value) (lv0 : List (Nat × Value)) (hy : plainFor y = true) (ho : y.cls = own) (hw : Ts = Cond.code y cc maxL ret :: ws') (hle : (lg_sl av).length ≤ maxL) (hlv : lv_args 0 av = lv0)
    (body : ∀ (p : Program) (e : Env) (s : State) (m : MethodId) (args : Array Value) (below : List Frame) (meth : Method) (c : Code) (Q : State → Prop) (A : Nat → Prop), Q = MQ below Qc args s mc ms free → A = va_A w0 s.heap.size → CX p m c cc maxL s args Ts own meth D cI cJ cZ A s.heap → meth.sig.returnType = ret → meth.name = y.name → s.heap.size = sz → MW D A s.heap w0 s.heap [] → ∀ ls : Array Slot, lv_has ls maxL lv0 →
      W p l e rm s m args below meth c s.heap [] 0 0 Q (F0 m 0 ls [])) : Met l y Ts rm (va_Pc av (WX D cI cJ cZ w0 sz)) Qc mc ms free := by
  refine va_MetF (cc := cc) (maxL := maxL) (ret := ret) hy hw ?_
  intro p e s m args below meth c s₁ B hml hv
  obtain ⟨rfl, hsz, hP, hK, hD0, hN⟩ := hv
  have hts := atoms_spec (ws := Ts) B.pre
  rw [lg_entry_eq]
  exact body p e s m av.toArray below meth c _ _ rfl rfl ⟨B.exec, B.bytes, hml, ho ▸ findClass_of_methodNamed B.named, hts, B.notSynchronized, hK, hN, fun q h => Or.inr h⟩ B.returns (name_of_methodNamed B.named B.method).1 hsz ⟨hP, hD0.self, va_S.rf⟩ _ (hlv ▸ lv_entry av hle)
/-- cells found in their places -/
theorem look_get {ws wn w1 : va_W} {isC isR : List Nat} (h1 : isC.map (fun i => wn[i]?) = w1.map some) (h2 : isR.map (fun i => wn[i]?) = isR.map (fun i => ws[i]?)) (h3 : wn.length = ws.length) (h4 : ∀ i, i < ws.length → i ∈ isC ∨ i ∈ isR) (k : Nat) (q : Nat × va_E) (hq : wn[k]? = some q) : (∃ j : Nat, isC[j]? = some k ∧ w1[j]? = some q) ∨ (k ∉ isC ∧ ws[k]? = some q) := by
  by_cases hc : k ∈ isC
  · obtain ⟨j, hj⟩ := List.getElem?_of_mem hc
    refine Or.inl ⟨j, hj, ?_⟩
    have e : (isC.map (fun i => wn[i]?))[j]? = (w1.map some)[j]? := by rw [h1]
    rw [List.getElem?_map, List.getElem?_map, hj] at e
    cases hw : w1[j]? with
    | none => rw [hw] at e; cases e
    | some z =>
      rw [hw] at e
      have e2 : wn[k]? = some z := Option.some.inj e
      rw [← e2, hq]
  · have hl : k < ws.length := by rw [← h3]; exact (List.getElem?_eq_some_iff.mp hq).1
    have hr := (h4 k hl).resolve_left hc
    obtain ⟨j, hj⟩ := List.getElem?_of_mem hr
    refine Or.inr ⟨hc, ?_⟩
    have e : (isR.map (fun i => wn[i]?))[j]? = (isR.map (fun i => ws[i]?))[j]? := by rw [h2]
    rw [List.getElem?_map, List.getElem?_map, hj] at e
    have e2 : wn[k]? = ws[k]? := Option.some.inj e
    rw [← e2, hq]
theorem look_join {A0 : Nat → Prop} {D : va_G} {ws wc w1 wn : va_W} {H H1 : Heap} (hP : va_P D vwCl ws H) (hD : va_D A0 ws) (isC : List Nat) (hC : isC.map (fun i => ws[i]?) = wc.map some)
    (hg : ∀ (k : Nat) (q : Nat × va_E), wn[k]? = some q → (∃ j : Nat, isC[j]? = some k ∧ w1[j]? = some q) ∨ (k ∉ isC ∧ ws[k]? = some q))
    (hk : ∀ q : Nat, q < H.size → ¬ va_A wc H.size q → H1[q]? = H[q]?) (hF : ∀ q, va_A wc H.size q → A0 q) (hP1 : va_P D vwCl w1 H1) (hD1 : va_D (va_A wc H.size) w1) : va_P D vwCl wn H1 ∧ va_D A0 wn := by
  have apart : ∀ (k : Nat) (q : Nat × va_E), k ∉ isC → ws[k]? = some q → q.1 < H.size ∧ ¬ va_A wc H.size q.1 := by
    intro k q hn hq
    have hlt := (hP k q hq).lt
    refine ⟨hlt, fun h => ?_⟩
    rcases h with ⟨k2, e, h⟩ | h
    · obtain ⟨j, h3, h4⟩ := map_get hC k2 (q.1, e) h
      have hij := hD.1 k j q (q.1, e) hq h4 rfl
      subst hij
      exact hn (List.mem_of_getElem? h3)
    · omega
  refine ⟨fun k q hq => ?_, fun i j x y hx hy hxy => ?_, fun k q hq => ?_⟩
  · rcases hg k q hq with ⟨j, -, h2⟩ | ⟨h1, h2⟩
    · exact hP1 j q h2
    · obtain ⟨g1, g2⟩ := apart k q h1 h2
      exact (hP k q h2).kept (hk q.1 g1 g2)
  · rcases hg i x hx with ⟨a, a1, a2⟩ | ⟨a1, a2⟩ <;> rcases hg j y hy with ⟨b, b1, b2⟩ | ⟨b1, b2⟩
    · have := hD1.1 a b x y a2 b2 hxy
      subst this
      rw [a1] at b1
      exact Option.some.inj b1
    · exact absurd (by rw [← hxy]; exact hD1.2 a x a2) (apart j y b1 b2).2
    · exact absurd (by rw [hxy]; exact hD1.2 b y b2) (apart i x a1 a2).2
    · exact hD.1 i j x y a2 b2 hxy
  · rcases hg k q hq with ⟨j, -, h2⟩ | ⟨-, h2⟩
    · exact hF q.1 (hD1.2 j q h2)
    · exact hD.2 k q h2
section MYL
variable {p : Program} {l : Launch} {e : Env} {R : Room} {s : State} {m : MethodId} {args : Array Value} {below : List Frame} {meth : Method} {c : Code} {H : Heap} {locs : List Loc} {cells slots : Nat} {Q : State → Prop}
variable {cc : ByteArray} {pc nL : Nat} {ls : Array Slot} {rest st : List Value} {D : va_G} {A : Nat → Prop} {a : Nat} {ws wc ws' : va_W} {H0 : Heap} {cI cJ cZ : ClassId} {Ts : List Cond} {own : String}
theorem m_callv2 (C0 : CX p m c cc nL s args Ts own meth D cI cJ cZ A H0) (hM : MW D A H0 ws H locs) {S : Type} {post : S → Prop} {w1 : S → va_W} {a : Array Value} (isC isR : List Nat) (hC : isC.map (fun i => ws[i]?) = wc.map some) (hr : va_Run p l e R s m args below meth c H locs cells slots 0 0 (F0 m pc ls st) rest (va_Qv post (fun u t => WY D (va_A wc H.size) (w1 u) t) (va_A wc H.size) a) (va_A wc H.size)) (wn : S → va_W) (h1 : ∀ u, isC.map (fun i => (wn u)[i]?) = (w1 u).map some) (wr : va_W) (h2 : ∀ u, isR.map (fun i => (wn u)[i]?) = wr.map some) (h2w : isR.map (fun i => ws[i]?) = wr.map some) (h3 : ∀ u, (wn u).length = ws.length) (h4 : ∀ i, i < ws.length → i ∈ isC ∨ i ∈ isR)
    (kk : ∀ (u : S) (H1 : Heap) (locs1 : List Loc), post u → MW D A H0 (wn u) H1 locs1 → W p l e R s m args below meth c H1 locs1 cells slots Q (F0 m (pc + 3) ls rest)) : W p l e R s m args below meth c H locs cells slots Q (F0 m pc ls st) := by
  have hF := va_free (wc := wc) hM.2.1 hM.2.2 C0.2.2.2.2.2.2.2.2 isC hC
  refine va_callv hr hM.2.2 (fun q _ h => hF q h) hF (fun u t H1 locs1 ht hvm hw hB hz1 hk1 hS => ?_)
  obtain ⟨hP1, hD1⟩ := hB
  rw [ht] at hP1
  obtain ⟨hP, hD⟩ := look_join hM.1 hM.2.1 isC hC (look_get (h1 u) ((h2 u).trans h2w.symm) (h3 u) h4) hk1 hF hP1 hD1
  exact kk u H1 locs1 hw ⟨hP, hD, hS⟩
theorem m_calli2 (C0 : CX p m c cc nL s args Ts own meth D cI cJ cZ A H0) (hM : MW D A H0 ws H locs) {S : Type} {post : Int32 → S → Prop} {w1 : S → va_W} {a : Array Value} (isC isR : List Nat) (hC : isC.map (fun i => ws[i]?) = wc.map some) (hr : va_Run p l e R s m args below meth c H locs cells slots 0 0 (F0 m pc ls st) rest (va_Qi post (fun u t => WY D (va_A wc H.size) (w1 u) t) (va_A wc H.size) a) (va_A wc H.size)) (wn : S → va_W) (h1 : ∀ u, isC.map (fun i => (wn u)[i]?) = (w1 u).map some) (wr : va_W) (h2 : ∀ u, isR.map (fun i => (wn u)[i]?) = wr.map some) (h2w : isR.map (fun i => ws[i]?) = wr.map some) (h3 : ∀ u, (wn u).length = ws.length) (h4 : ∀ i, i < ws.length → i ∈ isC ∨ i ∈ isR)
    (kk : ∀ (r : Int32) (u : S) (H1 : Heap) (locs1 : List Loc), post r u → MW D A H0 (wn u) H1 locs1 → W p l e R s m args below meth c H1 locs1 cells slots Q (F0 m (pc + 3) ls (.int r :: rest))) : W p l e R s m args below meth c H locs cells slots Q (F0 m pc ls st) := by
  have hF := va_free (wc := wc) hM.2.1 hM.2.2 C0.2.2.2.2.2.2.2.2 isC hC
  refine va_calli hr hM.2.2 (fun q _ h => hF q h) hF (fun r u t H1 locs1 ht hvm hw hB hz1 hk1 hS => ?_)
  obtain ⟨hP1, hD1⟩ := hB
  rw [ht] at hP1
  obtain ⟨hP, hD⟩ := look_join hM.1 hM.2.1 isC hC (look_get (h1 u) ((h2 u).trans h2w.symm) (h3 u) h4) hk1 hF hP1 hD1
  exact kk r u H1 locs1 hw ⟨hP, hD, hS⟩
theorem m_calll2 (C0 : CX p m c cc nL s args Ts own meth D cI cJ cZ A H0) (hM : MW D A H0 ws H locs) {S : Type} {post : Int64 → S → Prop} {w1 : S → va_W} {a : Array Value} (isC isR : List Nat) (hC : isC.map (fun i => ws[i]?) = wc.map some) (hr : va_Run p l e R s m args below meth c H locs cells slots 0 0 (F0 m pc ls st) rest (va_Ql post (fun u t => WY D (va_A wc H.size) (w1 u) t) (va_A wc H.size) a) (va_A wc H.size)) (wn : S → va_W) (h1 : ∀ u, isC.map (fun i => (wn u)[i]?) = (w1 u).map some) (wr : va_W) (h2 : ∀ u, isR.map (fun i => (wn u)[i]?) = wr.map some) (h2w : isR.map (fun i => ws[i]?) = wr.map some) (h3 : ∀ u, (wn u).length = ws.length) (h4 : ∀ i, i < ws.length → i ∈ isC ∨ i ∈ isR)
    (kk : ∀ (r : Int64) (u : S) (H1 : Heap) (locs1 : List Loc), post r u → MW D A H0 (wn u) H1 locs1 → W p l e R s m args below meth c H1 locs1 cells slots Q (F0 m (pc + 3) ls (.long r :: rest))) : W p l e R s m args below meth c H locs cells slots Q (F0 m pc ls st) := by
  have hF := va_free (wc := wc) hM.2.1 hM.2.2 C0.2.2.2.2.2.2.2.2 isC hC
  refine va_calll hr hM.2.2 (fun q _ h => hF q h) hF (fun r u t H1 locs1 ht hvm hw hB hz1 hk1 hS => ?_)
  obtain ⟨hP1, hD1⟩ := hB
  rw [ht] at hP1
  obtain ⟨hP, hD⟩ := look_join hM.1 hM.2.1 isC hC (look_get (h1 u) ((h2 u).trans h2w.symm) (h3 u) h4) hk1 hF hP1 hD1
  exact kk r u H1 locs1 hw ⟨hP, hD, hS⟩
theorem m_calliD2 {cs : List Choice} {d0 : Drawn} (hd0 : s.drawn.sameBut d0 cs) (C0 : CX p m c cc nL (s.setDrawn d0) args Ts own meth D cI cJ cZ A H0) (hM : MW D A H0 ws H locs) {S : Type} {post : Int32 → S → Prop} {w1 : S → va_W} {a : Array Value} (isC isR : List Nat) (hC : isC.map (fun i => ws[i]?) = wc.map some) (hr : va_RunD cs p l e R (s.setDrawn d0) m args below meth c H locs cells slots 0 0 (F0 m pc ls st) rest (va_Qi post (fun u t => WY D (va_A wc H.size) (w1 u) t) (va_A wc H.size) a) (va_A wc H.size)) (wn : S → va_W) (h1 : ∀ u, isC.map (fun i => (wn u)[i]?) = (w1 u).map some) (wr : va_W) (h2 : ∀ u, isR.map (fun i => (wn u)[i]?) = wr.map some) (h2w : isR.map (fun i => ws[i]?) = wr.map some) (h3 : ∀ u, (wn u).length = ws.length) (h4 : ∀ i, i < ws.length → i ∈ isC ∨ i ∈ isR)
    (kk : ∀ (r : Int32) (u : S) (H1 : Heap) (locs1 : List Loc), post r u → MW D A H0 (wn u) H1 locs1 → ∀ d1 : Drawn, s.drawn.sameBut d1 cs → W p l e R (s.setDrawn d1) m args below meth c H1 locs1 cells slots Q (F0 m (pc + 3) ls (.int r :: rest))) : W p l e R (s.setDrawn d0) m args below meth c H locs cells slots Q (F0 m pc ls st) := by
  have hF := va_free (wc := wc) hM.2.1 hM.2.2 C0.2.2.2.2.2.2.2.2 isC hC
  refine va_calliD hd0 hr hM.2.2 (fun q _ h => hF q h) hF (fun r u t H1 locs1 ht hvm hw hB hz1 hk1 hS d1 hd1 => ?_)
  obtain ⟨hP1, hD1⟩ := hB
  rw [ht] at hP1
  obtain ⟨hP, hD⟩ := look_join hM.1 hM.2.1 isC hC (look_get (h1 u) ((h2 u).trans h2w.symm) (h3 u) h4) hk1 hF hP1 hD1
  exact kk r u H1 locs1 hw ⟨hP, hD, hS⟩ d1 hd1
theorem m_calllD2 {cs : List Choice} {d0 : Drawn} (hd0 : s.drawn.sameBut d0 cs) (C0 : CX p m c cc nL (s.setDrawn d0) args Ts own meth D cI cJ cZ A H0) (hM : MW D A H0 ws H locs) {S : Type} {post : Int64 → S → Prop} {w1 : S → va_W} {a : Array Value} (isC isR : List Nat) (hC : isC.map (fun i => ws[i]?) = wc.map some) (hr : va_RunD cs p l e R (s.setDrawn d0) m args below meth c H locs cells slots 0 0 (F0 m pc ls st) rest (va_Ql post (fun u t => WY D (va_A wc H.size) (w1 u) t) (va_A wc H.size) a) (va_A wc H.size)) (wn : S → va_W) (h1 : ∀ u, isC.map (fun i => (wn u)[i]?) = (w1 u).map some) (wr : va_W) (h2 : ∀ u, isR.map (fun i => (wn u)[i]?) = wr.map some) (h2w : isR.map (fun i => ws[i]?) = wr.map some) (h3 : ∀ u, (wn u).length = ws.length) (h4 : ∀ i, i < ws.length → i ∈ isC ∨ i ∈ isR)
    (kk : ∀ (r : Int64) (u : S) (H1 : Heap) (locs1 : List Loc), post r u → MW D A H0 (wn u) H1 locs1 → ∀ d1 : Drawn, s.drawn.sameBut d1 cs → W p l e R (s.setDrawn d1) m args below meth c H1 locs1 cells slots Q (F0 m (pc + 3) ls (.long r :: rest))) : W p l e R (s.setDrawn d0) m args below meth c H locs cells slots Q (F0 m pc ls st) := by
  have hF := va_free (wc := wc) hM.2.1 hM.2.2 C0.2.2.2.2.2.2.2.2 isC hC
  refine va_calllD hd0 hr hM.2.2 (fun q _ h => hF q h) hF (fun r u t H1 locs1 ht hvm hw hB hz1 hk1 hS d1 hd1 => ?_)
  obtain ⟨hP1, hD1⟩ := hB
  rw [ht] at hP1
  obtain ⟨hP, hD⟩ := look_join hM.1 hM.2.1 isC hC (look_get (h1 u) ((h2 u).trans h2w.symm) (h3 u) h4) hk1 hF hP1 hD1
  exact kk r u H1 locs1 hw ⟨hP, hD, hS⟩ d1 hd1
end MYL
