theorem mk_last (wr : va_W) (cq : Nat × va_E) : [wr.length].map (fun i => (wr ++ [cq])[i]?) = [cq].map some := by simp
theorem mk_rest (wr : va_W) (cq : Nat × va_E) : (List.range wr.length).map (fun i => (wr ++ [cq])[i]?) = wr.map some := by
  refine List.ext_getElem (by simp) (fun i h1 h2 => ?_)
  have hlt : i < wr.length := by simpa using h2
  rw [List.getElem_map, List.getElem_map, List.getElem_range, List.getElem?_append_left hlt, List.getElem?_eq_getElem hlt]
theorem va_nd_of : ∀ l : List Nat, l.Nodup → va_nd l = true
  | [], _ => rfl
  | a :: l, h => by
    obtain ⟨h1, h2⟩ := List.nodup_cons.mp h
    have h3 := va_nd_of l h2
    simp [va_nd, h1, h3]
section MYK4
variable {p : Program} {l : Launch} {e : Env} {R : Room} {s : State} {m : MethodId} {args : Array Value} {below : List Frame} {meth : Method} {c : Code} {H : Heap} {locs : List Loc} {cells slots : Nat} {Q : State → Prop}
variable {cc : ByteArray} {pc nL : Nat} {ls : Array Slot} {rest st : List Value} {D : va_G} {A : Nat → Prop} {wr : va_W} {cq : Nat × va_E} {H0 : Heap} {cI cJ cZ : ClassId} {Ts : List Cond} {own : String}
/-- behind a constructor's call on the newest cell -/
theorem m_callK (C0 : CX p m c cc nL s args Ts own meth D cI cJ cZ A H0) (hM : MW D A H0 (wr ++ [cq]) H locs) {S : Type} {post : S → Prop} {w1 : S → va_W} {a : Array Value} {mc ms : Nat} (hr : va_Run p l e R s m args below meth c H locs cells slots mc ms (F0 m pc ls st) rest (va_Qv post (fun u t => WY D (va_A [cq] H.size) (w1 u) t) (va_A [cq] H.size) a) (va_A [cq] H.size))
    (kk : ∀ (u : S) (H1 : Heap) (locs1 : List Loc), post u → MW D A H0 (wr ++ w1 u) H1 locs1 → W p l e R s m args below meth c H1 locs1 (cells + mc) (slots + ms) Q (F0 m (pc + 3) ls rest)) : W p l e R s m args below meth c H locs cells slots Q (F0 m pc ls st) :=
  m_callC (wc := [cq]) (wr := wr) C0 hM [wr.length] (List.range wr.length) (mk_last wr cq) (mk_rest wr cq) (va_nd_of _ List.nodup_range) (fun i h1 h2 => by
    have h3 := List.mem_range.mp h1
    simp at h2
    omega) hr kk
/-- a constructor's end, with its world's names kept -/
theorem m_vretQ {ws w0 : va_W} {sz : Nat} (C0 : CX p m c cc nL s args Ts own meth D cI cJ cZ A s.heap) (hr : meth.sig.returnType = none) (hM : MW D A s.heap ws H locs) (hsz : s.heap.size = sz) (hA : A = va_A w0 s.heap.size) {S : Type} {post : S → Prop} {w1 : S → va_W} (hQ : Q = MQ below (va_Qv post (fun u t => WY D (va_A w0 sz) (w1 u) t) (va_A w0 sz)) args s cells slots (va_A w0 sz)) (u : S) (hu : post u) (hw : w1 u = ws) (hdg : decode cc pc = .ok (.return_, 1)) : W p l e R s m args below meth c H locs cells slots Q (F0 m pc ls []) := by
  subst hsz
  subst hA
  subst hQ
  exact m_vret C0 hr hM u hu hw hdg
end MYK4
