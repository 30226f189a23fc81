/-! floats: steps -/
theorem nwD_cg {f : FP.Core.Fmt} {gv gs hv hs : Nat → Int} (h1 : ∀ i, i < 5 → gv i = hv i) (h2 : ∀ i, i < 4 → gs i = hs i) (d : FP.Core.Datum) : nwD f gv gs d = nwD f hv hs d := by
  unfold nwD
  rw [vlD_cg 5 _ h1, vlD_cg 4 _ h2]
theorem itD_cg {f : FP.Core.Fmt} {gv gs hv hs : Nat → Int} (h1 : ∀ i, i < 5 → gv i = hv i) (h2 : ∀ i, i < 4 → gs i = hs i) : ∀ (n : Nat) (d : FP.Core.Datum), itD f gv gs n d = itD f hv hs n d
  | 0, _ => rfl
  | n + 1, d => by
    show itD f gv gs n (nwD f gv gs d) = itD f hv hs n (nwD f hv hs d)
    rw [nwD_cg h1 h2]
    exact itD_cg h1 h2 n _
theorem pr_steps {x1 x2 : Int32} {F F' : Nat → Int32} {z : Nat → Int} {K : Int32 → Int32 → Prop} (h : rl 5 F F' z) (hK : ∀ r, K r r) : wp_X11_steps x1 x2 F (nI (FP.Core.b32.p - 1)) (nI FP.Core.b32.emax) (nI (FP.Core.b32.exps - 1)) (lN (2 ^ sb FP.Core.b32)) (lN ((FP.Core.b32.exps - 1) * FP.Core.b32.tails)) (lN (FP.Core.encode FP.Core.b32 .nan)) (fun r => wp_X12_steps x1 x2 F' (fun r2 => K r r2)) := by
  unfold wp_X11_steps wp_X11_floatPattern wp_X12_steps
  refine wp_within ⟨fun q => wp_isIn (rb_t q (hK _)), fun q => ?_⟩
  obtain ⟨n, hn, e⟩ := btw_n (N := 20) (by decide) q
  subst e
  rw [fpat]
  refine wp_towards Fk32 (by decide) hn (Pn_of Fk32 (show x1.toUInt32.toNat < 2 * 2 ^ 31 from x1.toUInt32.toNat_lt)) (wp_isIn (rb_f q (wp_msteps (rl_m h) hn ?_)))
  rw [lN_i, itD_cg (gv := fun i => (F i).toInt) (hv := fun i => (fdI (z i)).toInt) (gs := fun i => (nI (i + 1) * F (i + 1)).toInt) (hs := fun i => (nI (i + 1) * fdI (z (i + 1))).toInt) (fun i hi => by rw [(h i hi).1]) (fun i hi => by rw [(h (i + 1) (by omega)).1])]
  exact hK _
theorem lk_18 : cs_18 LI := fun a1 a2 a3 a4 FI FA FL h => by
  obtain ⟨⟨⟨z1, k1⟩, ⟨z2, k2⟩, k3, k4, ⟨m, k5, k6, k7⟩, k8⟩, hkp, hr, ⟨n, t1, t2, t3⟩, ht, hl⟩ := h
  rw [k32_6, k32_5, k32_4, k32_2, k32_3]
  exact pr_value k1 (fun r => ⟨rfl, ⟨⟨z1, k1⟩, ⟨z2, k2⟩, k3, k4, ⟨m, k5, k6, k7⟩, k8⟩, hkp, hr, ⟨n, t1, t2, t3⟩, ht, hl⟩)
theorem lk_19 : cs_19 LI := fun a1 a2 a3 a4 FI FA FL h => by
  obtain ⟨⟨⟨z1, k1⟩, ⟨z2, k2⟩, k3, k4, ⟨m, k5, k6, k7⟩, k8⟩, hkp, hr, ⟨n, t1, t2, t3⟩, ht, hl⟩ := h
  rw [k32_6, k32_5, k32_4, k32_2, k32_3]
  exact pr_slope k1 (fun r => ⟨rfl, ⟨⟨z1, k1⟩, ⟨z2, k2⟩, k3, k4, ⟨m, k5, k6, k7⟩, k8⟩, hkp, hr, ⟨n, t1, t2, t3⟩, ht, hl⟩)
theorem lk_20 : cs_20 LI := fun a1 a2 a3 a4 FI FA FL h => by
  obtain ⟨⟨⟨z1, k1⟩, ⟨z2, k2⟩, k3, k4, ⟨m, k5, k6, k7⟩, k8⟩, hkp, hr, ⟨n, t1, t2, t3⟩, ht, hl⟩ := h
  rw [k32_6, k32_5, k32_4, k32_2, k32_3]
  exact pr_steps k1 (fun r => ⟨rfl, ⟨⟨z1, k1⟩, ⟨z2, k2⟩, k3, k4, ⟨m, k5, k6, k7⟩, k8⟩, hkp, hr, ⟨n, t1, t2, t3⟩, ht, hl⟩)
theorem lk_21 : cs_21 LI := fun a1 a2 a3 a4 FI FA FL h => by
  obtain ⟨⟨⟨z1, k1⟩, ⟨z2, k2⟩, k3, k4, ⟨m, k5, k6, k7⟩, k8⟩, hkp, hr, ⟨n, t1, t2, t3⟩, ht, hl⟩ := h
  rw [k32_6, k32_5, k32_4, k32_2, k32_3]
  exact pr_cut k1 (fun r => ⟨rfl, ⟨⟨z1, k1⟩, ⟨z2, k2⟩, k3, k4, ⟨m, k5, k6, k7⟩, k8⟩, hkp, hr, ⟨n, t1, t2, t3⟩, ht, hl⟩)
theorem lk_22 : cs_22 LI := fun a1 a2 a3 a4 FI FA FL h => by
  obtain ⟨⟨⟨z1, k1⟩, ⟨z2, k2⟩, k3, k4, ⟨m, k5, k6, k7⟩, k8⟩, hkp, hr, ⟨n, t1, t2, t3⟩, ht, hl⟩ := h
  rw [k64_6, k64_5, k64_4, k64_2, k64_3]
  exact pr_valued k1 (fun r => ⟨rfl, ⟨⟨z1, k1⟩, ⟨z2, k2⟩, k3, k4, ⟨m, k5, k6, k7⟩, k8⟩, hkp, hr, ⟨n, t1, t2, t3⟩, ht, hl⟩)
theorem lk_23 : cs_23 LI := fun a1 a2 a3 a4 FI FA FL h => by
  obtain ⟨⟨⟨z1, k1⟩, ⟨z2, k2⟩, k3, k4, ⟨m, k5, k6, k7⟩, k8⟩, hkp, hr, ⟨n, t1, t2, t3⟩, ht, hl⟩ := h
  rw [k32_6, k32_5, k32_4, k32_2, k32_3, k64_6, k64_5, k64_4, k64_2, k64_3]
  exact pr_narrowed k1 (fun r => ⟨rfl, ⟨⟨z1, k1⟩, ⟨z2, k2⟩, k3, k4, ⟨m, k5, k6, k7⟩, k8⟩, hkp, hr, ⟨n, t1, t2, t3⟩, ht, hl⟩)
