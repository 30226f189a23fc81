def oX0 (r : Nat → Nat) (i2 : Int32) : List Value := [.ref (r 0), .ref (r 1), .int i2, .ref (r 3), .ref (r 4), .ref (r 5), .ref (r 6)]
def oX1 (r : Nat → Nat)  : List Value := [.ref (r 0), .ref (r 1)]
def oX2 (r : Nat → Nat)  : List Value := [.ref (r 0), .ref (r 1), .ref (r 2), .ref (r 3), .ref (r 4), .ref (r 5)]
def oX4 (r : Nat → Nat)  : List Value := [.ref (r 0)]
def oX5 (r : Nat → Nat) (i2 : Int32) : List Value := [.ref (r 0), .ref (r 1), .int i2]
def oX6 (r : Nat → Nat)  : List Value := [.ref (r 0), .ref (r 1), .ref (r 2), .ref (r 3)]
def oX7 (r : Nat → Nat) (i0 : Int32) (i1 : Int32) (i2 : Int32) (i3 : Int64) (i4 : Int64) (i5 : Int64) : List Value := [.int i0, .int i1, .int i2, .long i3, .long i4, .long i5]
def oX8 (r : Nat → Nat) (i9 : Int32) : List Value := [.ref (r 0), .ref (r 1), .ref (r 2), .ref (r 3), .ref (r 4), .ref (r 5), .ref (r 6), .ref (r 7), .ref (r 8), .int i9]
def oX9 (r : Nat → Nat)  : List Value := [.ref (r 0), .ref (r 1), .ref (r 2), .ref (r 3)]
def oX10 (r : Nat → Nat) (i0 : Int32) (i4 : Int32) (i5 : Int32) (i6 : Int32) (i7 : Int32) (i8 : Int32) : List Value := [.int i0, .ref (r 1), .ref (r 2), .ref (r 3), .int i4, .int i5, .int i6, .int i7, .int i8]
def oX11 (r : Nat → Nat) (i2 : Int32) : List Value := [.ref (r 0), .ref (r 1), .int i2, .ref (r 3), .ref (r 4), .ref (r 5), .ref (r 6), .ref (r 7), .ref (r 8), .ref (r 9), .ref (r 10), .ref (r 11)]
def oX12 (r : Nat → Nat) (i2 : Int32) (i3 : Int32) (i16 : Int32) (i26 : Int32) (i27 : Int32) (i28 : Int32) (i30 : Int32) (i31 : Int32) (i32 : Int32) (i35 : Int32) (i38 : Int32) (i39 : Int32) (i42 : Int32) : List Value := [.ref (r 0), .ref (r 1), .int i2, .int i3, .ref (r 4), .ref (r 5), .ref (r 6), .ref (r 7), .ref (r 8), .ref (r 9), .ref (r 10), .ref (r 11), .ref (r 12), .ref (r 13), .ref (r 14), .ref (r 15), .int i16, .ref (r 17), .ref (r 18), .ref (r 19), .ref (r 20), .ref (r 21), .ref (r 22), .ref (r 23), .ref (r 24), .ref (r 25), .int i26, .int i27, .int i28, .ref (r 29), .int i30, .int i31, .int i32, .ref (r 33), .ref (r 34), .int i35, .ref (r 36), .ref (r 37), .int i38, .int i39, .ref (r 40), .ref (r 41), .int i42, .ref (r 43), .ref (r 44)]
def lk (l : List Nat) (k : Nat) : Nat := l.getD k 0
abbrev TY (cI cJ cZ : ClassId) : List (ClassId × FieldType) := [(cI, .int), (cJ, .long), (cZ, .boolean)]
def NWs (U : State) : Prop := va_Nw (.methodLinkNest RX9 17 yX4_init RX11) U ∧ va_Nw (.methodLinkNest RX9 24 yX0_init RX11) U ∧ va_Nw (.methodLinkNest RX0 11 yX4_init RX11) U ∧ va_Nw (.methodLinkNest RX9 31 yX5_init RX11) U ∧ va_Nw (.methodLinkNest RX11 27 yX2_init RX11) U ∧ va_Nw (.methodLinkNest RX11 34 yX8_init RX11) U ∧ va_Nw (.methodLinkNest RX11 60 yX10_init RX11) U ∧ va_Nw (.methodLinkNest RX4 13 yX11_within RX11) U ∧ va_Nw (.methodLinkNest RX10 71 yX11_within RX11) U
theorem NWs.warm {s U : State} (hW : s.WarmedH U.vm) (h : NWs s) : NWs U := ⟨va_Nw.warmM hW h.1, va_Nw.warmM hW h.2.1, va_Nw.warmM hW h.2.2.1, va_Nw.warmM hW h.2.2.2.1, va_Nw.warmM hW h.2.2.2.2.1, va_Nw.warmM hW h.2.2.2.2.2.1, va_Nw.warmM hW h.2.2.2.2.2.2.1, va_Nw.warmM hW h.2.2.2.2.2.2.2.1, va_Nw.warmM hW h.2.2.2.2.2.2.2.2⟩
theorem NWs.same {s U : State} (e : s.vm = U.vm) (h : NWs s) : NWs U := ⟨va_Nw.same rfl e h.1, va_Nw.same rfl e h.2.1, va_Nw.same rfl e h.2.2.1, va_Nw.same rfl e h.2.2.2.1, va_Nw.same rfl e h.2.2.2.2.1, va_Nw.same rfl e h.2.2.2.2.2.1, va_Nw.same rfl e h.2.2.2.2.2.2.1, va_Nw.same rfl e h.2.2.2.2.2.2.2.1, va_Nw.same rfl e h.2.2.2.2.2.2.2.2⟩
/-- what a method's start says -/
def WX (D : va_G) (cI cJ cZ : ClassId) (ws : va_W) (sz : Nat) (U : State) : Prop := U.heap.size = sz ∧ va_P D vwCl ws U.heap ∧ va_K D vwCl (TY cI cJ cZ) U ∧ va_D (fun _ => True) ws ∧ NWs U
/-- what its end says -/
def WY (D : va_G) (A : Nat → Prop) (w : va_W) (t : State) : Prop := va_P D vwCl w t.heap ∧ va_D A w
/-- the world of a walk -/
def MW (D : va_G) (A : Nat → Prop) (H0 : Heap) (ws : va_W) (H : Heap) (locs : List Loc) : Prop := va_P D vwCl ws H ∧ va_D A ws ∧ va_S A H0 H locs
/-- what a walk stands on -/
def CX (p : Program) (m : MethodId) (c : Code) (cc : ByteArray) (nL : Nat) (s : State) (args : Array Value) (Ts : List Cond) (own : String) (meth : Method) (D : va_G) (cI cJ cZ : ClassId) (A : Nat → Prop) (H0 : Heap) : Prop :=
  p.tables.exec = Jvm.exec ∧ c.code = cc ∧ c.maxLocals = nL ∧ s.vm.findClass own = some m.cls ∧ (∀ w ∈ Ts, w.before args s = true) ∧ meth.locks = false ∧ va_K D vwCl (TY cI cJ cZ) s ∧ NWs s ∧ (∀ q, H0.size ≤ q → A q)
theorem fm_of_map {ws : va_W} : ∀ (is : List Nat) (wc : va_W), is.map (fun i => ws[i]?) = wc.map some → is.filterMap (fun i => ws[i]?) = wc
  | [], [], _ => rfl
  | [], _ :: _, h => by simp at h
  | _ :: _, [], h => by simp at h
  | i :: is, q :: wc, h => by
    simp only [List.map_cons, List.cons.injEq] at h
    rw [List.filterMap_cons_some h.1, fm_of_map is wc h.2]
theorem pre_blind {D : va_G} {cI cJ cZ : ClassId} {av : List Value} {ws : va_W} {sz : Nat} : FrameBlind (va_Pc av (WX D cI cJ cZ ws sz)) := fun a U g mk q => ⟨q.1, q.2.1, q.2.2.1, va_K.moved (u := U) (U := U.calling g mk a) (Vm.Alike.refl U.vm) q.2.2.2.1, q.2.2.2.2.1, NWs.same (U := U.calling g mk a) rfl q.2.2.2.2.2⟩
/-- cells put back into their places -/
def patch : va_W → List Nat → va_W → va_W
  | ws, i :: is, c :: cs => patch (ws.set i c) is cs
  | ws, _, _ => ws
theorem patch_get : ∀ (is : List Nat) (cs ws : va_W), is.length = cs.length → ∀ (k : Nat) (q : Nat × va_E), (patch ws is cs)[k]? = some q → (∃ j : Nat, is[j]? = some k ∧ cs[j]? = some q) ∨ (k ∉ is ∧ ws[k]? = some q)
  | [], [], ws, _, k, q, h => Or.inr ⟨List.not_mem_nil, h⟩
  | [], _ :: _, _, h, _, _, _ => by simp at h
  | _ :: _, [], _, h, _, _, _ => by simp at h
  | i :: is, c :: cs, ws, hl, k, q, h => by
    rcases patch_get is cs (ws.set i c) (by simpa using hl) k q h with ⟨j, h1, h2⟩ | ⟨h1, h2⟩
    · exact Or.inl ⟨j + 1, by simpa using h1, by simpa using h2⟩
    · by_cases hk : k = i
      · subst hk
        have hlt : k < ws.length := by
          have := (List.getElem?_eq_some_iff.mp h2).1
          simpa using this
        rw [List.getElem?_set_self hlt] at h2
        exact Or.inl ⟨0, rfl, by simpa using h2⟩
      · rw [List.getElem?_set_ne (Ne.symm hk)] at h2
        exact Or.inr ⟨by simp [hk, h1], h2⟩
theorem map_get {ws wc : va_W} {is : List Nat} (hs : is.map (fun i => ws[i]?) = wc.map some) (k : Nat) (q : Nat × va_E) (hq : wc[k]? = some q) : ∃ i, is[k]? = some i ∧ ws[i]? = some q := by
  have h1 : (is.map (fun i => ws[i]?))[k]? = some (some q) := by rw [hs, List.getElem?_map, hq]; rfl
  rw [List.getElem?_map] at h1
  cases hi : is[k]? with
  | none => rw [hi] at h1; cases h1
  | some i => rw [hi] at h1; exact ⟨i, rfl, Option.some.inj h1⟩
/-- behind a call: the callee's cells in their places, the others as they were -/
theorem patch_join {A0 : Nat → Prop} {D : va_G} {ws wc w1 : va_W} {H H1 : Heap} (hP : va_P D vwCl ws H) (hD : va_D A0 ws) (isC : List Nat) (hC : isC.map (fun i => ws[i]?) = wc.map some) (hl : isC.length = w1.length)
    (hk : ∀ q : Nat, q < H.size → ¬ va_A wc H.size q → H1[q]? = H[q]?) (hF : ∀ q, va_A wc H.size q → A0 q) (hP1 : va_P D vwCl w1 H1) (hD1 : va_D (va_A wc H.size) w1) : va_P D vwCl (patch ws isC w1) H1 ∧ va_D A0 (patch ws isC w1) := by
  have apart : ∀ (k : Nat) (q : Nat × va_E), k ∉ isC → ws[k]? = some q → q.1 < H.size ∧ ¬ va_A wc H.size q.1 := by
    intro k q hn hq
    have hlt := (hP k q hq).lt
    refine ⟨hlt, fun h => ?_⟩
    rcases h with ⟨k2, e, h⟩ | h
    · obtain ⟨j, h3, h4⟩ := map_get hC k2 (q.1, e) h
      have hij := hD.1 k j q (q.1, e) hq h4 rfl
      subst hij
      exact hn (List.mem_of_getElem? h3)
    · omega
  refine ⟨fun k q hq => ?_, fun i j x y hx hy hxy => ?_, fun k q hq => ?_⟩
  · rcases patch_get isC w1 ws hl k q hq with ⟨j, -, h2⟩ | ⟨h1, h2⟩
    · exact hP1 j q h2
    · obtain ⟨g1, g2⟩ := apart k q h1 h2
      exact (hP k q h2).kept (hk q.1 g1 g2)
  · rcases patch_get isC w1 ws hl i x hx with ⟨a, a1, a2⟩ | ⟨a1, a2⟩ <;> rcases patch_get isC w1 ws hl j y hy with ⟨b, b1, b2⟩ | ⟨b1, b2⟩
    · have := hD1.1 a b x y a2 b2 hxy
      subst this
      rw [a1] at b1
      exact Option.some.inj b1
    · exact absurd (by rw [← hxy]; exact hD1.2 a x a2) (apart j y b1 b2).2
    · exact absurd (by rw [hxy]; exact hD1.2 b y b2) (apart i x a1 a2).2
    · exact hD.1 i j x y a2 b2 hxy
  · rcases patch_get isC w1 ws hl k q hq with ⟨j, -, h2⟩ | ⟨-, h2⟩
    · exact hF q.1 (hD1.2 j q h2)
    · exact hD.2 k q h2
theorem sw_ne {x k : Int32} (h : ¬ x = k) : x.toInt ≠ k.toInt := fun e => h (Int32.toInt_inj.mp e)
section MYK
variable {p : Program} {l : Launch} {e : Env} {R : Room} {s : State} {m : MethodId} {args : Array Value} {below : List Frame} {meth : Method} {c : Code} {H : Heap} {locs : List Loc} {cells slots : Nat} {Q : State → Prop}
variable {cc : ByteArray} {pc nL : Nat} {ls : Array Slot} {rest st : List Value} {D : va_G} {A : Nat → Prop} {a : Nat} {ws wc ws' : va_W} {H0 : Heap} {cI cJ cZ : ClassId} {Ts : List Cond} {own : String}
theorem m_get (C0 : CX p m c cc nL s args Ts own meth D cI cJ cZ A H0) (hM : MW D A H0 ws H locs) {ref C : String} {T : u_T} {N ci index : Nat} (q0 : Nat) {fs : List Value} (he : ws[q0]? = some (a, .inr (ci, fs))) (hc : vwCl[ci]? = some (C, T, N)) (hin : ∀ w ∈ u_ws C T N, w ∈ Ts) (k : Nat) (hk : k < N) (hlink : Cond.fieldLink own index ref (T k).2.1 (T k).2.2.1 ∈ Ts) (hsame : (T k).1 = ref) {v : Value} (hv : fs[k]? = some v) (hdg : decode cc pc = .ok (.getfield index, 3))
    (kk : W p l e R s m args below meth c H locs cells slots Q (F0 m (pc + 3) ls (v :: rest))) : W p l e R s m args below meth c H locs cells slots Q (F0 m pc ls (.ref a :: rest)) :=
  va_get C0.1 C0.2.1 C0.2.2.2.2.1 hin C0.2.2.2.1 C0.2.2.2.2.2.2.1 hM.1 q0 he hc k hk (C0.2.2.2.2.1 _ hlink) (fun x h => by rw [← hsame]; exact h) hv hdg kk
theorem m_put (C0 : CX p m c cc nL s args Ts own meth D cI cJ cZ A H0) (hM : MW D A H0 ws H locs) {ref C : String} {T : u_T} {N ci index : Nat} (q0 : Nat) {fs : List Value} (he : ws[q0]? = some (a, .inr (ci, fs))) (hc : vwCl[ci]? = some (C, T, N)) (hin : ∀ w ∈ u_ws C T N, w ∈ Ts) (ty0 : Nat → FieldType) (hty : ∀ k, k < N → parseFieldDescriptor (T k).2.2.1 = some (ty0 k)) (hnm : ∀ a, a < N → ∀ b, b < N → a ≠ b → (T a).2.1 ≠ (T b).2.1) (k : Nat) (hk : k < N) (hlink : Cond.fieldLink own index ref (T k).2.1 (T k).2.2.1 ∈ Ts) (hsame : (T k).1 = ref) (hfin : (T k).2.2.2 = false) {v : Value} (hn : narrow (ty0 k) v = v) (hfit : fits (ty0 k) v = true) (hl : k < fs.length) (hset : ws.set q0 (a, .inr (ci, fs.set k v)) = ws') (hdg : decode cc pc = .ok (.putfield index, 3))
    (kk : ∀ (H1 : Heap) (locs1 : List Loc), MW D A H0 ws' H1 locs1 → W p l e R s m args below meth c H1 locs1 cells slots Q (F0 m (pc + 3) ls rest)) : W p l e R s m args below meth c H locs cells slots Q (F0 m pc ls (v :: .ref a :: rest)) := by
  subst hset
  exact va_put C0.1 C0.2.1 C0.2.2.2.2.1 hin ty0 hty hnm C0.2.2.2.1 C0.2.2.2.2.2.2.1 hM.1 hM.2.1 hM.2.2 q0 he hc k hk (C0.2.2.2.2.1 _ hlink) (fun x h => by rw [← hsame]; exact h) hfin (hty k hk) hn hfit hl hdg (fun H1 locs1 h1 h2 h3 => kk H1 locs1 ⟨h1, h2, h3⟩)
theorem m_putF (C0 : CX p m c cc nL s args Ts own meth D cI cJ cZ A H0) (hM : MW D A H0 ws H locs) (hini : meth.name = "<init>") {ref C : String} {T : u_T} {N ci index : Nat} (q0 : Nat) {fs : List Value} (he : ws[q0]? = some (a, .inr (ci, fs))) (hc : vwCl[ci]? = some (C, T, N)) (hin : ∀ w ∈ u_ws C T N, w ∈ Ts) (ty0 : Nat → FieldType) (hty : ∀ k, k < N → parseFieldDescriptor (T k).2.2.1 = some (ty0 k)) (hnm : ∀ a, a < N → ∀ b, b < N → a ≠ b → (T a).2.1 ≠ (T b).2.1) (k : Nat) (hk : k < N) (hlink : Cond.fieldLink own index ref (T k).2.1 (T k).2.2.1 ∈ Ts) (hsame : (T k).1 = ref) (hfin : (T k).2.2.2 = true) (hdecl : (T k).1 = own) {v : Value} (hn : narrow (ty0 k) v = v) (hfit : fits (ty0 k) v = true) (hl : k < fs.length) (hset : ws.set q0 (a, .inr (ci, fs.set k v)) = ws') (hdg : decode cc pc = .ok (.putfield index, 3))
    (kk : ∀ (H1 : Heap) (locs1 : List Loc), MW D A H0 ws' H1 locs1 → W p l e R s m args below meth c H1 locs1 cells slots Q (F0 m (pc + 3) ls rest)) : W p l e R s m args below meth c H locs cells slots Q (F0 m pc ls (v :: .ref a :: rest)) := by
  subst hset
  exact va_putF C0.1 C0.2.1 C0.2.2.2.2.1 hin ty0 hty hnm C0.2.2.2.1 C0.2.2.2.2.2.2.1 hM.1 hM.2.1 hM.2.2 q0 he hc k hk (C0.2.2.2.2.1 _ hlink) (fun x h => by rw [← hsame]; exact h) hfin hini hdecl (hty k hk) hn hfit hl hdg (fun H1 locs1 h1 h2 h3 => kk H1 locs1 ⟨h1, h2, h3⟩)
theorem m_iald (C0 : CX p m c cc nL s args Ts own meth D cI cJ cZ A H0) (hM : MW D A H0 ws H locs) (q0 : Nat) {n : Nat} {f : Nat → Int32} (ha : ws[q0]? = some (a, .inl (cI, n, .inl f))) {i : Int32} (hin : vp_in i n) (hdg : decode cc pc = .ok (.iaload, 1))
    (kk : W p l e R s m args below meth c H locs cells slots Q (F0 m (pc + 1) ls (.int (f i.toNatClampNeg) :: rest))) : W p l e R s m args below meth c H locs cells slots Q (F0 m pc ls (.int i :: .ref a :: rest)) :=
  va_iald C0.1 C0.2.1 C0.2.2.2.2.2.2.1 hM.1 q0 0 ha rfl hin hdg kk
theorem m_lald (C0 : CX p m c cc nL s args Ts own meth D cI cJ cZ A H0) (hM : MW D A H0 ws H locs) (q0 : Nat) {n : Nat} {f : Nat → Int64} (ha : ws[q0]? = some (a, .inl (cJ, n, .inr (.inl f)))) {i : Int32} (hin : vp_in i n) (hdg : decode cc pc = .ok (.laload, 1))
    (kk : W p l e R s m args below meth c H locs cells slots Q (F0 m (pc + 1) ls (.long (f i.toNatClampNeg) :: rest))) : W p l e R s m args below meth c H locs cells slots Q (F0 m pc ls (.int i :: .ref a :: rest)) :=
  va_lald C0.1 C0.2.1 C0.2.2.2.2.2.2.1 hM.1 q0 1 ha rfl hin hdg kk
theorem m_zald (C0 : CX p m c cc nL s args Ts own meth D cI cJ cZ A H0) (hM : MW D A H0 ws H locs) (q0 : Nat) {n : Nat} {f : Nat → Int32} (ha : ws[q0]? = some (a, .inl (cZ, n, .inl f))) {i : Int32} (hin : vp_in i n) (hdg : decode cc pc = .ok (.baload, 1))
    (kk : W p l e R s m args below meth c H locs cells slots Q (F0 m (pc + 1) ls (.int (f i.toNatClampNeg) :: rest))) : W p l e R s m args below meth c H locs cells slots Q (F0 m pc ls (.int i :: .ref a :: rest)) :=
  va_zald C0.1 C0.2.1 C0.2.2.2.2.2.2.1 hM.1 q0 2 ha rfl hin hdg kk
theorem m_iast (C0 : CX p m c cc nL s args Ts own meth D cI cJ cZ A H0) (hM : MW D A H0 ws H locs) (q0 : Nat) {n : Nat} {f : Nat → Int32} (ha : ws[q0]? = some (a, .inl (cI, n, .inl f))) {i x : Int32} (hin : vp_in i n) (hset : ws.set q0 (a, .inl (cI, n, .inl (upd f i.toNatClampNeg x))) = ws') (hdg : decode cc pc = .ok (.iastore, 1))
    (kk : ∀ (H1 : Heap) (locs1 : List Loc), MW D A H0 ws' H1 locs1 → W p l e R s m args below meth c H1 locs1 cells slots Q (F0 m (pc + 1) ls rest)) : W p l e R s m args below meth c H locs cells slots Q (F0 m pc ls (.int x :: .int i :: .ref a :: rest)) := by
  subst hset
  exact va_iast C0.1 C0.2.1 C0.2.2.2.2.2.2.1 hM.1 hM.2.1 hM.2.2 q0 0 ha rfl hin hdg (fun H1 locs1 h1 h2 h3 => kk H1 locs1 ⟨h1, h2, h3⟩)
theorem m_zast (C0 : CX p m c cc nL s args Ts own meth D cI cJ cZ A H0) (hM : MW D A H0 ws H locs) (q0 : Nat) {n : Nat} {f : Nat → Int32} (ha : ws[q0]? = some (a, .inl (cZ, n, .inl f))) {i x : Int32} (hin : vp_in i n) (hset : ws.set q0 (a, .inl (cZ, n, .inl (upd f i.toNatClampNeg (vp_nar .boolean x)))) = ws') (hdg : decode cc pc = .ok (.bastore, 1))
    (kk : ∀ (H1 : Heap) (locs1 : List Loc), MW D A H0 ws' H1 locs1 → W p l e R s m args below meth c H1 locs1 cells slots Q (F0 m (pc + 1) ls rest)) : W p l e R s m args below meth c H locs cells slots Q (F0 m pc ls (.int x :: .int i :: .ref a :: rest)) := by
  subst hset
  exact va_zast C0.1 C0.2.1 C0.2.2.2.2.2.2.1 hM.1 hM.2.1 hM.2.2 q0 2 ha rfl hin hdg (fun H1 locs1 h1 h2 h3 => kk H1 locs1 ⟨h1, h2, h3⟩)
theorem m_last (C0 : CX p m c cc nL s args Ts own meth D cI cJ cZ A H0) (hM : MW D A H0 ws H locs) (q0 : Nat) {n : Nat} {f : Nat → Int64} (ha : ws[q0]? = some (a, .inl (cJ, n, .inr (.inl f)))) {i : Int32} {x : Int64} (hin : vp_in i n) (hset : ws.set q0 (a, .inl (cJ, n, .inr (.inl (vp_updL f i.toNatClampNeg x)))) = ws') (hdg : decode cc pc = .ok (.lastore, 1))
    (kk : ∀ (H1 : Heap) (locs1 : List Loc), MW D A H0 ws' H1 locs1 → W p l e R s m args below meth c H1 locs1 cells slots Q (F0 m (pc + 1) ls rest)) : W p l e R s m args below meth c H locs cells slots Q (F0 m pc ls (.long x :: .int i :: .ref a :: rest)) := by
  subst hset
  exact va_last C0.1 C0.2.1 C0.2.2.2.2.2.2.1 hM.1 hM.2.1 hM.2.2 q0 1 ha rfl hin hdg (fun H1 locs1 h1 h2 h3 => kk H1 locs1 ⟨h1, h2, h3⟩)
theorem m_alen (C0 : CX p m c cc nL s args Ts own meth D cI cJ cZ A H0) (hM : MW D A H0 ws H locs) (q0 : Nat) {n : Nat} {f : Nat → Int32} (ha : ws[q0]? = some (a, .inl (cI, n, .inl f))) (hdg : decode cc pc = .ok (.arraylength, 1))
    (kk : W p l e R s m args below meth c H locs cells slots Q (F0 m (pc + 1) ls (.int (nI n) :: rest))) : W p l e R s m args below meth c H locs cells slots Q (F0 m pc ls (.ref a :: rest)) :=
  va_alen C0.1 C0.2.1 C0.2.2.2.2.2.2.1 hM.1 q0 0 ha (ty := .int) rfl rfl hdg kk
theorem m_copyi (C0 : CX p m c cc nL s args Ts own meth D cI cJ cZ A H0) (hM : MW D A H0 ws H locs) (hsz : ls.size = nL) {index : Nat} (hlink : Cond.methodLink own index arraycopyName ∈ Ts) (hnat : Cond.native arraycopyName ∈ Ts) (hstat : Cond.static arraycopyName ∈ Ts) (hini : Cond.initialized "java/lang/System" ∈ Ts) (q0 q1 : Nat) {a0 n0 n1 : Nat} {f g : Nat → Int32} (ha0 : ws[q0]? = some (a0, .inl (cI, n0, .inl f))) (ha1 : ws[q1]? = some (a, .inl (cI, n1, .inl g)))
    {sp dp n : Int32} (hc : ¬ sp < 0 ∧ ¬ dp < 0 ∧ ¬ n < 0 ∧ sp.toNatClampNeg + n.toNatClampNeg ≤ n0 ∧ dp.toNatClampNeg + n.toNatClampNeg ≤ n1) (hframes : 1 ≤ R.frames) (hlocals : (rest.map fun v => v.category).sum + 18 ≤ R.locals) (hset : ws.set q1 (a, .inl (cI, n1, .inl (va_cpy f g sp.toNatClampNeg dp.toNatClampNeg n.toNatClampNeg))) = ws') (hdg : decode cc pc = .ok (.invokestatic index, 3))
    (kk : ∀ (H1 : Heap) (locs1 : List Loc), MW D A H0 ws' H1 locs1 → W p l e R s m args below meth c H1 locs1 cells slots Q (F0 m (pc + 3) ls rest)) : W p l e R s m args below meth c H locs cells slots Q (F0 m pc ls (.int n :: .int dp :: .ref a :: .int sp :: .ref a0 :: rest)) := by
  subst hset
  have ht := C0.2.2.2.2.1
  exact va_copyi C0.1 C0.2.1 (C0.2.2.1.trans hsz.symm) C0.2.2.2.1 (ht _ hlink) (ht _ hnat) (ht _ hstat) (ht _ hini) C0.2.2.2.2.2.2.1 hM.1 hM.2.1 hM.2.2 q0 q1 0 0 ha0 ha1 rfl rfl rfl hc.1 hc.2.1 hc.2.2.1 hc.2.2.2.1 hc.2.2.2.2 (fun _ _ => rfl) hframes (by have hw : nativeFrameWords "java/lang/System" "arraycopy" 5 = 7 := (by decide); omega) hdg (fun H1 locs1 h1 h2 h3 => kk H1 locs1 ⟨h1, h2, h3⟩)
theorem pre_of (C0 : CX p m c cc nL s args Ts own meth D cI cJ cZ A H0) (hM : MW D A H0 ws H locs) (isC : List Nat) (hC : isC.map (fun i => ws[i]?) = wc.map some) (hn : va_nd isC = true) (av : List Value) : ∀ U : State, U.heap = H → s.WarmedH U.vm → va_Pc av (WX D cI cJ cZ wc H.size) av.toArray U := fun U hU hW => ⟨rfl, by rw [hU], by rw [hU]; exact hM.1.sub isC (fm_of_map isC wc hC), va_K.moved hW.alike C0.2.2.2.2.2.2.1, (hM.2.1.sub isC hn hC).weaken (fun _ _ _ _ => trivial), NWs.warm hW C0.2.2.2.2.2.2.2.1⟩
theorem m_runV (C0 : CX p m c cc nL s args Ts own meth D cI cJ cZ A H0) (hM : MW D A H0 ws H locs) {b index maxL mc ms n ci N : Nat} {C : String} {T : u_T} {y : MethodName} {wy wy' : List Cond} {bytes : ByteArray} {ret : Option FieldType} {rm : Room} {As : List Value} {Qc : Array Value → State → Outcome → State → Prop} {fs : List Value} (hMet : Met l y wy rm (va_Pc (.ref b :: As) (WX D cI cJ cZ wc H.size)) Qc mc ms (va_A wc H.size)) (isC : List Nat) (hC : isC.map (fun i => ws[i]?) = wc.map some) (hn : va_nd isC = true) (hg : GoodIn Ts (wsV own index C y wy)) (hw : wy = Cond.code y bytes maxL ret :: wy') (hrc : rm.cells = mc) (hrs : rm.slots = ms) (hrec : wc[0]? = some (b, .inr (ci, fs))) (hci : vwCl[ci]? = some (C, T, N)) (hd : y.cls = C ∧ y.cls ≠ "java/lang/invoke/MethodHandle" ∧ y.cls ≠ "java/lang/invoke/VarHandle" ∧ (parseMethodDescriptor y.desc).map (fun d => d.parameters.length) = some n) (hR : rm.frames + 1 ≤ R.frames ∧ 8 + (maxL + 11) + rm.locals ≤ R.locals) (hnA : As.length = n) (hls : ls.size = nL) (hst : st = As.reverse ++ .ref b :: rest) (hroom : (rest.map fun v => v.category).sum ≤ 8) (hdg : decode cc pc = .ok (.invokevirtual index, 3)) (hf : cells + mc ≤ R.cells ∧ slots + ms ≤ R.slots) :
    va_Run p l e R s m args below meth c H locs cells slots mc ms (F0 m pc ls st) rest (Qc (Value.ref b :: As).toArray) (va_A wc H.size) :=
  va_runV ⟨C0.1, C0.2.1, C0.2.2.1, C0.2.2.2.1, C0.2.2.2.2.1⟩ hMet (cwV n C0.2.2.2.2.1 hg hw hrc hrs hd hR) ⟨pre_blind, va_recv C0.2.2.2.2.2.2.1 (hM.1.sub isC (fm_of_map isC wc hC)) hci hrec, pre_of C0 hM isC hC hn _⟩ rfl hnA hls hst (lv_room hroom) hdg hf
theorem m_runS (C0 : CX p m c cc nL s args Ts own meth D cI cJ cZ A H0) (hM : MW D A H0 ws H locs) {index maxL mc ms n : Nat} {y : MethodName} {wy wy' : List Cond} {bytes : ByteArray} {ret : Option FieldType} {rm : Room} {As : List Value} {Qc : Array Value → State → Outcome → State → Prop} (hMet : Met l y wy rm (va_Pc As (WX D cI cJ cZ wc H.size)) Qc mc ms (va_A wc H.size)) (isC : List Nat) (hC : isC.map (fun i => ws[i]?) = wc.map some) (hn : va_nd isC = true) (hg : GoodIn Ts (va_wsS own index y wy)) (hw : wy = Cond.code y bytes maxL ret :: wy') (hrc : rm.cells = mc) (hrs : rm.slots = ms) (hd : y.cls ≠ "java/lang/invoke/MethodHandle" ∧ y.cls ≠ "java/lang/invoke/VarHandle" ∧ (parseMethodDescriptor y.desc).map (fun d => d.parameters.length) = some n) (hR : rm.frames + 1 ≤ R.frames ∧ 8 + (maxL + 11) + rm.locals ≤ R.locals) (hnA : As.length = n) (hls : ls.size = nL) (hst : st = As.reverse ++ rest) (hroom : (rest.map fun v => v.category).sum ≤ 8) (hdg : decode cc pc = .ok (.invokestatic index, 3)) (hf : cells + mc ≤ R.cells ∧ slots + ms ≤ R.slots) :
    va_Run p l e R s m args below meth c H locs cells slots mc ms (F0 m pc ls st) rest (Qc As.toArray) (va_A wc H.size) :=
  va_runS ⟨C0.1, C0.2.1, C0.2.2.1, C0.2.2.2.1, C0.2.2.2.2.1⟩ hMet (va_cwS n C0.2.2.2.2.1 hg hw hrc hrs hd hR) ⟨pre_blind, pre_of C0 hM isC hC hn _⟩ rfl hnA hls hst (lv_room hroom) hdg hf
theorem m_runSN (C0 : CX p m c cc nL s args Ts own meth D cI cJ cZ A H0) (hM : MW D A H0 ws H locs) {index maxL mc ms n : Nat} {host : String} {y : MethodName} {wy wy' : List Cond} {bytes : ByteArray} {ret : Option FieldType} {rm : Room} {As : List Value} {Qc : Array Value → State → Outcome → State → Prop} (hMet : Met l y wy rm (va_Pc As (WX D cI cJ cZ wc H.size)) Qc mc ms (va_A wc H.size)) (isC : List Nat) (hC : isC.map (fun i => ws[i]?) = wc.map some) (hn : va_nd isC = true) (hg : GoodIn Ts wy) (hw : wy = Cond.code y bytes maxL ret :: wy') (hrc : rm.cells = mc) (hrs : rm.slots = ms) (hl : va_Nw (.methodLinkNest own index y host) s) (hini : Cond.initialized y.cls ∈ Ts) (hstat : Cond.static y ∈ Ts) (hd : y.cls ≠ "java/lang/invoke/MethodHandle" ∧ y.cls ≠ "java/lang/invoke/VarHandle" ∧ (parseMethodDescriptor y.desc).map (fun d => d.parameters.length) = some n) (hR : rm.frames + 1 ≤ R.frames ∧ 8 + (maxL + 11) + rm.locals ≤ R.locals) (hnA : As.length = n) (hls : ls.size = nL) (hst : st = As.reverse ++ rest) (hroom : (rest.map fun v => v.category).sum ≤ 8) (hdg : decode cc pc = .ok (.invokestatic index, 3)) (hf : cells + mc ≤ R.cells ∧ slots + ms ≤ R.slots) :
    va_Run p l e R s m args below meth c H locs cells slots mc ms (F0 m pc ls st) rest (Qc As.toArray) (va_A wc H.size) :=
  va_runSN ⟨C0.1, C0.2.1, C0.2.2.1, C0.2.2.2.1, C0.2.2.2.2.1⟩ hMet ⟨va_cnB n C0.2.2.2.2.1 hg hw hrc hrs hl (C0.2.2.2.2.1 _ hini) hd hR, C0.2.2.2.2.1 _ hstat, trivial⟩ ⟨pre_blind, pre_of C0 hM isC hC hn _⟩ rfl hnA hls hst (lv_room hroom) hdg hf
theorem m_callv (C0 : CX p m c cc nL s args Ts own meth D cI cJ cZ A H0) (hM : MW D A H0 ws H locs) {S : Type} {post : S → Prop} {w1 : S → va_W} {a : Array Value} (isC : List Nat) (hC : isC.map (fun i => ws[i]?) = wc.map some) (hr : va_Run p l e R s m args below meth c H locs cells slots 0 0 (F0 m pc ls st) rest (va_Qv post (fun u t => WY D (va_A wc H.size) (w1 u) t) (va_A wc H.size) a) (va_A wc H.size)) (wn : S → va_W) (hl : ∀ u, isC.length = (w1 u).length) (hp : ∀ u, patch ws isC (w1 u) = wn u)
    (kk : ∀ (u : S) (H1 : Heap) (locs1 : List Loc), post u → MW D A H0 (wn u) H1 locs1 → W p l e R s m args below meth c H1 locs1 cells slots Q (F0 m (pc + 3) ls rest)) : W p l e R s m args below meth c H locs cells slots Q (F0 m pc ls st) := by
  have hF := va_free (wc := wc) hM.2.1 hM.2.2 C0.2.2.2.2.2.2.2.2 isC hC
  refine va_callv hr hM.2.2 (fun q _ h => hF q h) hF (fun u t H1 locs1 ht hvm hw hB hz1 hk1 hS => ?_)
  obtain ⟨hP1, hD1⟩ := hB
  rw [ht] at hP1
  obtain ⟨hP, hD⟩ := patch_join hM.1 hM.2.1 isC hC (hl u) hk1 hF hP1 hD1
  rw [hp u] at hP hD
  exact kk u H1 locs1 hw ⟨hP, hD, hS⟩
theorem m_calli (C0 : CX p m c cc nL s args Ts own meth D cI cJ cZ A H0) (hM : MW D A H0 ws H locs) {S : Type} {post : Int32 → S → Prop} {w1 : S → va_W} {a : Array Value} (isC : List Nat) (hC : isC.map (fun i => ws[i]?) = wc.map some) (hr : va_Run p l e R s m args below meth c H locs cells slots 0 0 (F0 m pc ls st) rest (va_Qi post (fun u t => WY D (va_A wc H.size) (w1 u) t) (va_A wc H.size) a) (va_A wc H.size)) (wn : S → va_W) (hl : ∀ u, isC.length = (w1 u).length) (hp : ∀ u, patch ws isC (w1 u) = wn u)
    (kk : ∀ (r : Int32) (u : S) (H1 : Heap) (locs1 : List Loc), post r u → MW D A H0 (wn u) H1 locs1 → W p l e R s m args below meth c H1 locs1 cells slots Q (F0 m (pc + 3) ls (.int r :: rest))) : W p l e R s m args below meth c H locs cells slots Q (F0 m pc ls st) := by
  have hF := va_free (wc := wc) hM.2.1 hM.2.2 C0.2.2.2.2.2.2.2.2 isC hC
  refine va_calli hr hM.2.2 (fun q _ h => hF q h) hF (fun r u t H1 locs1 ht hvm hw hB hz1 hk1 hS => ?_)
  obtain ⟨hP1, hD1⟩ := hB
  rw [ht] at hP1
  obtain ⟨hP, hD⟩ := patch_join hM.1 hM.2.1 isC hC (hl u) hk1 hF hP1 hD1
  rw [hp u] at hP hD
  exact kk r u H1 locs1 hw ⟨hP, hD, hS⟩
theorem m_calll (C0 : CX p m c cc nL s args Ts own meth D cI cJ cZ A H0) (hM : MW D A H0 ws H locs) {S : Type} {post : Int64 → S → Prop} {w1 : S → va_W} {a : Array Value} (isC : List Nat) (hC : isC.map (fun i => ws[i]?) = wc.map some) (hr : va_Run p l e R s m args below meth c H locs cells slots 0 0 (F0 m pc ls st) rest (va_Ql post (fun u t => WY D (va_A wc H.size) (w1 u) t) (va_A wc H.size) a) (va_A wc H.size)) (wn : S → va_W) (hl : ∀ u, isC.length = (w1 u).length) (hp : ∀ u, patch ws isC (w1 u) = wn u)
    (kk : ∀ (r : Int64) (u : S) (H1 : Heap) (locs1 : List Loc), post r u → MW D A H0 (wn u) H1 locs1 → W p l e R s m args below meth c H1 locs1 cells slots Q (F0 m (pc + 3) ls (.long r :: rest))) : W p l e R s m args below meth c H locs cells slots Q (F0 m pc ls st) := by
  have hF := va_free (wc := wc) hM.2.1 hM.2.2 C0.2.2.2.2.2.2.2.2 isC hC
  refine va_calll hr hM.2.2 (fun q _ h => hF q h) hF (fun r u t H1 locs1 ht hvm hw hB hz1 hk1 hS => ?_)
  obtain ⟨hP1, hD1⟩ := hB
  rw [ht] at hP1
  obtain ⟨hP, hD⟩ := patch_join hM.1 hM.2.1 isC hC (hl u) hk1 hF hP1 hD1
  rw [hp u] at hP hD
  exact kk r u H1 locs1 hw ⟨hP, hD, hS⟩
theorem m_callf (C0 : CX p m c cc nL s args Ts own meth D cI cJ cZ A H0) (hM : MW D A H0 ws H locs) {S : Type} {post : UInt32 → S → Prop} {w1 : S → va_W} {a : Array Value} (isC : List Nat) (hC : isC.map (fun i => ws[i]?) = wc.map some) (hr : va_Run p l e R s m args below meth c H locs cells slots 0 0 (F0 m pc ls st) rest (va_Qf post (fun u t => WY D (va_A wc H.size) (w1 u) t) (va_A wc H.size) a) (va_A wc H.size)) (wn : S → va_W) (hl : ∀ u, isC.length = (w1 u).length) (hp : ∀ u, patch ws isC (w1 u) = wn u)
    (kk : ∀ (r : UInt32) (u : S) (H1 : Heap) (locs1 : List Loc), post r u → MW D A H0 (wn u) H1 locs1 → W p l e R s m args below meth c H1 locs1 cells slots Q (F0 m (pc + 3) ls (.float r :: rest))) : W p l e R s m args below meth c H locs cells slots Q (F0 m pc ls st) := by
  have hF := va_free (wc := wc) hM.2.1 hM.2.2 C0.2.2.2.2.2.2.2.2 isC hC
  refine va_callf hr hM.2.2 (fun q _ h => hF q h) hF (fun r u t H1 locs1 ht hvm hw hB hz1 hk1 hS => ?_)
  obtain ⟨hP1, hD1⟩ := hB
  rw [ht] at hP1
  obtain ⟨hP, hD⟩ := patch_join hM.1 hM.2.1 isC hC (hl u) hk1 hF hP1 hD1
  rw [hp u] at hP hD
  exact kk r u H1 locs1 hw ⟨hP, hD, hS⟩
theorem m_calld (C0 : CX p m c cc nL s args Ts own meth D cI cJ cZ A H0) (hM : MW D A H0 ws H locs) {S : Type} {post : UInt64 → S → Prop} {w1 : S → va_W} {a : Array Value} (isC : List Nat) (hC : isC.map (fun i => ws[i]?) = wc.map some) (hr : va_Run p l e R s m args below meth c H locs cells slots 0 0 (F0 m pc ls st) rest (va_Qd post (fun u t => WY D (va_A wc H.size) (w1 u) t) (va_A wc H.size) a) (va_A wc H.size)) (wn : S → va_W) (hl : ∀ u, isC.length = (w1 u).length) (hp : ∀ u, patch ws isC (w1 u) = wn u)
    (kk : ∀ (r : UInt64) (u : S) (H1 : Heap) (locs1 : List Loc), post r u → MW D A H0 (wn u) H1 locs1 → W p l e R s m args below meth c H1 locs1 cells slots Q (F0 m (pc + 3) ls (.double r :: rest))) : W p l e R s m args below meth c H locs cells slots Q (F0 m pc ls st) := by
  have hF := va_free (wc := wc) hM.2.1 hM.2.2 C0.2.2.2.2.2.2.2.2 isC hC
  refine va_calld hr hM.2.2 (fun q _ h => hF q h) hF (fun r u t H1 locs1 ht hvm hw hB hz1 hk1 hS => ?_)
  obtain ⟨hP1, hD1⟩ := hB
  rw [ht] at hP1
  obtain ⟨hP, hD⟩ := patch_join hM.1 hM.2.1 isC hC (hl u) hk1 hF hP1 hD1
  rw [hp u] at hP hD
  exact kk r u H1 locs1 hw ⟨hP, hD, hS⟩
theorem m_vret (C0 : CX p m c cc nL s args Ts own meth D cI cJ cZ A s.heap) (hr : meth.sig.returnType = none) (hM : MW D A s.heap ws H locs) {S : Type} {post : S → Prop} {w1 : S → va_W} (u : S) (hu : post u) (hw : w1 u = ws) (hdg : decode cc pc = .ok (.return_, 1)) : W p l e R s m args below meth c H locs cells slots (MQ below (va_Qv post (fun u t => WY D A (w1 u) t) A) args s cells slots A) (F0 m pc ls []) :=
  W.vret C0.1 C0.2.1 hr (fun t ht hW => ⟨⟨u, rfl, hu, by rw [ht, hw]; exact hM.1, by rw [hw]; exact hM.2.1⟩, hM.2.2.F ht⟩) hM.2.2.2.2 hdg (hlocks := C0.2.2.2.2.2.1)
theorem m_iret (C0 : CX p m c cc nL s args Ts own meth D cI cJ cZ A s.heap) (hr : meth.sig.returnType = some .int) (hM : MW D A s.heap ws H locs) {S : Type} {post : Int32 → S → Prop} {w1 : S → va_W} {v : Int32} (u : S) (hu : post v u) (hw : w1 u = ws) (hdg : decode cc pc = .ok (.ireturn, 1)) : W p l e R s m args below meth c H locs cells slots (MQ below (va_Qi post (fun u t => WY D A (w1 u) t) A) args s cells slots A) (F0 m pc ls [.int v]) :=
  W.iret C0.1 C0.2.1 hr (fun t ht hW => ⟨⟨v, u, rfl, hu, by rw [ht, hw]; exact hM.1, by rw [hw]; exact hM.2.1⟩, hM.2.2.F ht⟩) hM.2.2.2.2 hdg (hlocks := C0.2.2.2.2.2.1)
theorem m_lret (C0 : CX p m c cc nL s args Ts own meth D cI cJ cZ A s.heap) (hr : meth.sig.returnType = some .long) (hM : MW D A s.heap ws H locs) {S : Type} {post : Int64 → S → Prop} {w1 : S → va_W} {v : Int64} (u : S) (hu : post v u) (hw : w1 u = ws) (hdg : decode cc pc = .ok (.lreturn, 1)) : W p l e R s m args below meth c H locs cells slots (MQ below (va_Ql post (fun u t => WY D A (w1 u) t) A) args s cells slots A) (F0 m pc ls [.long v]) :=
  W.lret C0.1 C0.2.1 hr (fun t ht hW => ⟨⟨v, u, rfl, hu, by rw [ht, hw]; exact hM.1, by rw [hw]; exact hM.2.1⟩, hM.2.2.F ht⟩) hM.2.2.2.2 hdg (hlocks := C0.2.2.2.2.2.1)
theorem m_fret (C0 : CX p m c cc nL s args Ts own meth D cI cJ cZ A s.heap) (hr : meth.sig.returnType = some .float) (hM : MW D A s.heap ws H locs) {S : Type} {post : UInt32 → S → Prop} {w1 : S → va_W} {v : UInt32} (u : S) (hu : post v u) (hw : w1 u = ws) (hdg : decode cc pc = .ok (.freturn, 1)) : W p l e R s m args below meth c H locs cells slots (MQ below (va_Qf post (fun u t => WY D A (w1 u) t) A) args s cells slots A) (F0 m pc ls [.float v]) :=
  W.fret C0.1 C0.2.1 hr (fun t ht hW => ⟨⟨v, u, rfl, hu, by rw [ht, hw]; exact hM.1, by rw [hw]; exact hM.2.1⟩, hM.2.2.F ht⟩) hM.2.2.2.2 hdg (hlocks := C0.2.2.2.2.2.1)
theorem m_dret (C0 : CX p m c cc nL s args Ts own meth D cI cJ cZ A s.heap) (hr : meth.sig.returnType = some .double) (hM : MW D A s.heap ws H locs) {S : Type} {post : UInt64 → S → Prop} {w1 : S → va_W} {v : UInt64} (u : S) (hu : post v u) (hw : w1 u = ws) (hdg : decode cc pc = .ok (.dreturn, 1)) : W p l e R s m args below meth c H locs cells slots (MQ below (va_Qd post (fun u t => WY D A (w1 u) t) A) args s cells slots A) (F0 m pc ls [.double v]) :=
  W.dret C0.1 C0.2.1 hr (fun t ht hW => ⟨⟨v, u, rfl, hu, by rw [ht, hw]; exact hM.1, by rw [hw]; exact hM.2.1⟩, hM.2.2.F ht⟩) hM.2.2.2.2 hdg (hlocks := C0.2.2.2.2.2.1)
theorem m_zret (C0 : CX p m c cc nL s args Ts own meth D cI cJ cZ A s.heap) (hr : meth.sig.returnType = some .boolean) (hM : MW D A s.heap ws H locs) {S : Type} {post : Int32 → S → Prop} {w1 : S → va_W} {v : Int32} (hnz : narrow .boolean (.int v) = .int v) (u : S) (hu : post v u) (hw : w1 u = ws) (hdg : decode cc pc = .ok (.ireturn, 1)) : W p l e R s m args below meth c H locs cells slots (MQ below (va_Qi post (fun u t => WY D A (w1 u) t) A) args s cells slots A) (F0 m pc ls [.int v]) :=
  W.zret C0.1 C0.2.1 hr hnz (fun t ht hW => ⟨⟨v, u, rfl, hu, by rw [ht, hw]; exact hM.1, by rw [hw]; exact hM.2.1⟩, hM.2.2.F ht⟩) hM.2.2.2.2 hdg (hlocks := C0.2.2.2.2.2.1)
end MYK
theorem m_met {l : Launch} {y : MethodName} {Ts ws' : List Cond} {rm : Room} {Qc : Array Value → State → Outcome → State → Prop} {mc ms : Nat} {free : Addr → Prop} {cc : ByteArray} {maxL : Nat} {ret : Option FieldType} {D : va_G} {cI cJ cZ : ClassId} {w0 : va_W} {sz : Nat} {own : String} (av : List Value) (lv0 : List (Nat × Value)) (hy : plainName y.cls = true) (ho : y.cls = own) (hw : Ts = Cond.code y cc maxL ret :: ws') (hle : (lg_sl av).length ≤ maxL) (hlv : lv_args 0 av = lv0)
    (body : ∀ (p : Program) (e : Env) (s : State) (m : MethodId) (args : Array Value) (below : List Frame) (meth : Method) (c : Code) (Q : State → Prop) (A : Nat → Prop), Q = MQ below Qc args s mc ms free → A = va_A w0 s.heap.size → CX p m c cc maxL s args Ts own meth D cI cJ cZ A s.heap → meth.sig.returnType = ret → meth.name = y.name → s.heap.size = sz → MW D A s.heap w0 s.heap [] → ∀ ls : Array Slot, lv_has ls maxL lv0 →
      W p l e rm s m args below meth c s.heap [] 0 0 Q (F0 m 0 ls [])) : Met l y Ts rm (va_Pc av (WX D cI cJ cZ w0 sz)) Qc mc ms free := by
  refine Met.ofW (cc := cc) (maxL := maxL) (ret := ret) hy hw ?_
  intro p e s m args below meth c s₁ B hml hv
  obtain ⟨rfl, hsz, hP, hK, hD0, hN⟩ := hv
  have hts := atoms_spec (ws := Ts) B.pre
  rw [lg_entry_eq]
  exact body p e s m av.toArray below meth c _ _ rfl rfl ⟨B.exec, B.bytes, hml, ho ▸ findClass_of_methodNamed B.named, hts, B.notSynchronized, hK, hN, fun q h => Or.inr h⟩ B.returns (name_of_methodNamed B.named B.method).1 hsz ⟨hP, hD0.self, va_S.rf⟩ _ (hlv ▸ lv_entry av hle)
theorem fits_z {x : Int32} (h : narrow .boolean (.int x) = .int x) : fits .boolean (.int x) = true := by
  rw [← h]
  simp only [narrow, fits]
  obtain ⟨j, hj, e⟩ := pk_andE x (m := 1) 1 (by decide)
  rw [e]
  rcases (show j = 0 ∨ j = 1 by omega) with rfl | rfl <;> decide
