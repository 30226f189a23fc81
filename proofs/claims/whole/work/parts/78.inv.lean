/-! the law's invariant: class and model hold the same -/
def LI (FI : Nat → Int32) (FA : Nat → Nat → Int32) (FL : Nat → Nat → Int64) : Prop :=
  kp (FA 2) (FA 4) (FA 7) (FA 8) (FI 1) (FI 2) (FA 14) (FA 15) (FA 65) (FA 66) (FA 67) (FA 68) (FI 12) (FI 13) (FI 14) (FA 79) (FA 80) ∧ (FI 21 = FI 0 ∧ (¬ FI 0 = 0 → kp (FA 17) (FA 19) (FA 22) (FA 23) (FI 3) (FI 4) (FA 29) (FA 30) (FA 91) (FA 92) (FA 93) (FA 94) (FI 22) (FI 23) (FI 24) (FA 95) (FA 96))) ∧ rkR (FA 51) (FA 52) (FA 53) (FA 54) (FA 83) (FA 84) (FA 85) (FA 86) ∧ (∃ n : Nat, n ≤ 60 ∧ FI 6 = nI n ∧ FI 15 = nI n) ∧ (∀ i, i < 60 → FA 87 i = FA 58 i ∧ 0 ≤ (FA 58 i).toInt ∧ (FA 58 i).toInt ≤ 126) ∧ lsR (FA 60) (FA 89) (FL 61) (FL 90)
theorem k4a {c : Prop} [Decidable c] {P : (Nat → Int) → Prop} (h : ¬ c → ∃ z, P z) : ∃ z, ¬ c → P z := by
  by_cases q : c
  · exact ⟨fun _ => 0, fun q2 => absurd q q2⟩
  · obtain ⟨z, hz⟩ := h q
    exact ⟨z, fun _ => hz⟩
theorem lk_0 : cs_0 LI := fun a1 a2 a3 a4 FI FA FL h => by
  obtain ⟨⟨⟨z1, k1⟩, ⟨z2, k2⟩, k3, k4, ⟨m, k5, k6, k7⟩, k8⟩, hkp, hr, ⟨n, t1, t2, t3⟩, ht, hl⟩ := h
  exact pr_set k1 (fun r A1 B1 z q => ⟨rfl, ⟨⟨z, q⟩, ⟨z2, k2⟩, k3, k4, ⟨m, k5, k6, k7⟩, k8⟩, hkp, hr, ⟨n, t1, t2, t3⟩, ht, hl⟩)
theorem lk_1 : cs_1 LI := fun a1 a2 a3 a4 FI FA FL h => by
  obtain ⟨⟨⟨z1, k1⟩, ⟨z2, k2⟩, k3, k4, ⟨m, k5, k6, k7⟩, k8⟩, hkp, hr, ⟨n, t1, t2, t3⟩, ht, hl⟩ := h
  exact pr_of k1 (fun r => ⟨rfl, ⟨⟨z1, k1⟩, ⟨z2, k2⟩, k3, k4, ⟨m, k5, k6, k7⟩, k8⟩, hkp, hr, ⟨n, t1, t2, t3⟩, ht, hl⟩)
theorem lk_2 : cs_2 LI := fun a1 a2 a3 a4 FI FA FL h => by
  obtain ⟨⟨⟨z1, k1⟩, ⟨z2, k2⟩, k3, k4, ⟨m, k5, k6, k7⟩, k8⟩, hkp, hr, ⟨n, t1, t2, t3⟩, ht, hl⟩ := h
  exact pr_degree k1 (fun r => ⟨rfl, ⟨⟨z1, k1⟩, ⟨z2, k2⟩, k3, k4, ⟨m, k5, k6, k7⟩, k8⟩, hkp, hr, ⟨n, t1, t2, t3⟩, ht, hl⟩)
theorem lk_3 : cs_3 LI := fun a1 a2 a3 a4 FI FA FL h => by
  obtain ⟨⟨⟨z1, k1⟩, ⟨z2, k2⟩, k3, k4, ⟨m, k5, k6, k7⟩, k8⟩, hkp, hr, ⟨n, t1, t2, t3⟩, ht, hl⟩ := h
  exact pr_put k2 (fun r A1 B1 z q => ⟨rfl, ⟨⟨z1, k1⟩, ⟨z, q⟩, k3, k4, ⟨m, k5, k6, k7⟩, k8⟩, hkp, hr, ⟨n, t1, t2, t3⟩, ht, hl⟩)
theorem lk_4 : cs_4 LI := fun a1 a2 a3 a4 FI FA FL h => by
  obtain ⟨⟨⟨z1, k1⟩, ⟨z2, k2⟩, k3, k4, ⟨m, k5, k6, k7⟩, k8⟩, hkp, hr, ⟨n, t1, t2, t3⟩, ht, hl⟩ := h
  exact pr_get k2 (fun r => ⟨rfl, ⟨⟨z1, k1⟩, ⟨z2, k2⟩, k3, k4, ⟨m, k5, k6, k7⟩, k8⟩, hkp, hr, ⟨n, t1, t2, t3⟩, ht, hl⟩)
theorem lk_5 : cs_5 LI := fun a1 a2 a3 a4 FI FA FL h => by
  obtain ⟨⟨⟨z1, k1⟩, ⟨z2, k2⟩, k3, k4, ⟨m, k5, k6, k7⟩, k8⟩, hkp, hr, ⟨n, t1, t2, t3⟩, ht, hl⟩ := h
  exact pr_clear k2 (fun r A1 B1 z q => ⟨rfl, ⟨⟨z1, k1⟩, ⟨z, q⟩, k3, k4, ⟨m, k5, k6, k7⟩, k8⟩, hkp, hr, ⟨n, t1, t2, t3⟩, ht, hl⟩)
theorem lk_6 : cs_6 LI := fun a1 a2 a3 a4 FI FA FL h => by
  obtain ⟨⟨⟨z1, k1⟩, ⟨z2, k2⟩, k3, k4, ⟨m, k5, k6, k7⟩, k8⟩, hkp, hr, ⟨n, t1, t2, t3⟩, ht, hl⟩ := h
  exact pr_order k2 (fun r => ⟨rfl, ⟨⟨z1, k1⟩, ⟨z2, k2⟩, k3, k4, ⟨m, k5, k6, k7⟩, k8⟩, hkp, hr, ⟨n, t1, t2, t3⟩, ht, hl⟩)
theorem lk_7 : cs_7 LI := fun a1 a2 a3 a4 FI FA FL h => by
  obtain ⟨⟨⟨z1, k1⟩, ⟨z2, k2⟩, k3, k4, ⟨m, k5, k6, k7⟩, k8⟩, hkp, hr, ⟨n, t1, t2, t3⟩, ht, hl⟩ := h
  exact pr_work k1 k2 (fun r a b c d e g => ⟨rfl, ⟨⟨z1, k1⟩, ⟨z2, k2⟩, k3, k4, ⟨m, k5, k6, k7⟩, k8⟩, hkp, hr, ⟨n, t1, t2, t3⟩, ht, hl⟩)
theorem lk_8 : cs_8 LI := fun a1 a2 a3 a4 FI FA FL h => by
  obtain ⟨⟨⟨z1, k1⟩, ⟨z2, k2⟩, k3, k4, ⟨m, k5, k6, k7⟩, k8⟩, hkp, hr, ⟨n, t1, t2, t3⟩, ht, hl⟩ := h
  exact pr_right k1 k2 (fun r a b c d e g h i j => ⟨rfl, ⟨⟨z1, k1⟩, ⟨z2, k2⟩, k3, k4, ⟨m, k5, k6, k7⟩, k8⟩, hkp, hr, ⟨n, t1, t2, t3⟩, ht, hl⟩)
theorem lk_9 : cs_9 LI := fun a1 a2 a3 a4 FI FA FL h => by
  obtain ⟨⟨⟨z1, k1⟩, ⟨z2, k2⟩, k3, k4, ⟨m, k5, k6, k7⟩, k8⟩, hkp, hr, ⟨n, t1, t2, t3⟩, ht, hl⟩ := h
  exact pr_search k1 k3 k4 (fun r top nm b dr nx sz st ld en so sc ss co sh bs isF fB fn b1 p g cl tb ow pv q1 q2 => ⟨rfl, ⟨⟨z1, k1⟩, ⟨z2, k2⟩, q1, q2, ⟨m, k5, k6, k7⟩, k8⟩, hkp, hr, ⟨n, t1, t2, t3⟩, ht, hl⟩)
theorem lk_10 : cs_10 LI := fun a1 a2 a3 a4 FI FA FL h => by
  obtain ⟨⟨⟨z1, k1⟩, ⟨z2, k2⟩, k3, k4, ⟨m, k5, k6, k7⟩, k8⟩, hkp, hr, ⟨n, t1, t2, t3⟩, ht, hl⟩ := h
  obtain ⟨zb, hb⟩ := k4a (fun q => (k4 q).2)
  exact pr_found k3 (fun q => (hb q).1) (fun r => ⟨rfl, ⟨⟨z1, k1⟩, ⟨z2, k2⟩, k3, k4, ⟨m, k5, k6, k7⟩, k8⟩, hkp, hr, ⟨n, t1, t2, t3⟩, ht, hl⟩)
theorem lk_11 : cs_11 LI := fun a1 a2 a3 a4 FI FA FL h => by
  obtain ⟨⟨⟨z1, k1⟩, ⟨z2, k2⟩, k3, k4, ⟨m, k5, k6, k7⟩, k8⟩, hkp, hr, ⟨n, t1, t2, t3⟩, ht, hl⟩ := h
  obtain ⟨zn, hn⟩ := k4a (fun q => (k4 q).1)
  exact pr_foundOf k3 hn (fun r => ⟨rfl, ⟨⟨z1, k1⟩, ⟨z2, k2⟩, k3, k4, ⟨m, k5, k6, k7⟩, k8⟩, hkp, hr, ⟨n, t1, t2, t3⟩, ht, hl⟩)
theorem lk_12 : cs_12 LI := fun a1 a2 a3 a4 FI FA FL h => by
  obtain ⟨⟨⟨z1, k1⟩, ⟨z2, k2⟩, k3, k4, ⟨m, k5, k6, k7⟩, k8⟩, hkp, hr, ⟨n, t1, t2, t3⟩, ht, hl⟩ := h
  obtain ⟨zn, hn⟩ := k4a (fun q => (k4 q).1)
  exact pr_take k3 k2 hn (fun r A1 B1 z q => ⟨rfl, ⟨⟨z1, k1⟩, ⟨z, q⟩, k3, k4, ⟨m, k5, k6, k7⟩, k8⟩, hkp, hr, ⟨n, t1, t2, t3⟩, ht, hl⟩)
theorem lk_13 : cs_13 LI := fun a1 a2 a3 a4 FI FA FL h => by
  obtain ⟨⟨⟨z1, k1⟩, ⟨z2, k2⟩, k3, k4, ⟨m, k5, k6, k7⟩, k8⟩, hkp, hr, ⟨n, t1, t2, t3⟩, ht, hl⟩ := h
  obtain ⟨zb, hb⟩ := k4a (fun q => (k4 q).2)
  exact pr_roots k3 hb (fun r a b c d e => ⟨rfl, ⟨⟨z1, k1⟩, ⟨z2, k2⟩, k3, k4, ⟨m, k5, k6, k7⟩, k8⟩, hkp, hr, ⟨n, t1, t2, t3⟩, ht, hl⟩)
theorem lk_14 : cs_14 LI := fun a1 a2 a3 a4 FI FA FL h => by
  obtain ⟨⟨⟨z1, k1⟩, ⟨z2, k2⟩, k3, k4, ⟨m, k5, k6, k7⟩, k8⟩, hkp, hr, ⟨n, t1, t2, t3⟩, ht, hl⟩ := h
  obtain ⟨zb, hb⟩ := k4a (fun q => (k4 q).2)
  exact pr_root k3 hb (fun r a b c d e => ⟨rfl, ⟨⟨z1, k1⟩, ⟨z2, k2⟩, k3, k4, ⟨m, k5, k6, k7⟩, k8⟩, hkp, hr, ⟨n, t1, t2, t3⟩, ht, hl⟩)
theorem lk_15 : cs_15 LI := fun a1 a2 a3 a4 FI FA FL h => by
  obtain ⟨⟨⟨z1, k1⟩, ⟨z2, k2⟩, k3, k4, ⟨m, k5, k6, k7⟩, k8⟩, hkp, hr, ⟨n, t1, t2, t3⟩, ht, hl⟩ := h
  exact pr_easy (fun r A1 B1 => ⟨rfl, ⟨⟨z1, k1⟩, ⟨z2, k2⟩, k3, k4, ⟨m, k5, k6, k7⟩, k8⟩, hkp, hr, ⟨n, t1, t2, t3⟩, ht, hl⟩)
theorem lk_16 : cs_16 LI := fun a1 a2 a3 a4 FI FA FL h => by
  obtain ⟨⟨⟨z1, k1⟩, ⟨z2, k2⟩, k3, k4, ⟨m, k5, k6, k7⟩, k8⟩, hkp, hr, ⟨n, t1, t2, t3⟩, ht, hl⟩ := h
  exact pr_direct k1 k2 (fun r a b c d e => ⟨rfl, ⟨⟨z1, k1⟩, ⟨z2, k2⟩, k3, k4, ⟨m, k5, k6, k7⟩, k8⟩, hkp, hr, ⟨n, t1, t2, t3⟩, ht, hl⟩)
theorem lk_17 : cs_17 LI := fun a1 a2 a3 a4 FI FA FL h => by
  obtain ⟨⟨⟨z1, k1⟩, ⟨z2, k2⟩, k3, k4, ⟨m, k5, k6, k7⟩, k8⟩, hkp, hr, ⟨n, t1, t2, t3⟩, ht, hl⟩ := h
  obtain ⟨zb, hb⟩ := k4a (fun q => (k4 q).2)
  exact pr_checked k1 k2 k3 hb (fun r a b c d e => ⟨rfl, ⟨⟨z1, k1⟩, ⟨z2, k2⟩, k3, k4, ⟨m, k5, k6, k7⟩, k8⟩, hkp, hr, ⟨n, t1, t2, t3⟩, ht, hl⟩)
theorem lk_24 : cs_24 LI := fun a1 a2 a3 a4 FI FA FL h => by
  obtain ⟨⟨⟨z1, k1⟩, ⟨z2, k2⟩, k3, k4, ⟨m, k5, k6, k7⟩, k8⟩, hkp, hr, ⟨n, t1, t2, t3⟩, ht, hl⟩ := h
  rw [k6, k7]
  exact pr_plan k5 k8 (fun r n1 A1 A2 B1 B2 q1 q2 => ⟨rfl, ⟨⟨z1, k1⟩, ⟨z2, k2⟩, k3, k4, ⟨n1, q1, rfl, rfl⟩, q2⟩, hkp, hr, ⟨n, t1, t2, t3⟩, ht, hl⟩)
theorem lk_25 : cs_25 LI := fun a1 a2 a3 a4 FI FA FL h => by
  obtain ⟨⟨⟨z1, k1⟩, ⟨z2, k2⟩, k3, k4, ⟨m, k5, k6, k7⟩, k8⟩, hkp, hr, ⟨n, t1, t2, t3⟩, ht, hl⟩ := h
  rw [k6, k7]
  exact pr_unplan (fun r => ⟨rfl, ⟨⟨z1, k1⟩, ⟨z2, k2⟩, k3, k4, ⟨0, Nat.zero_le _, rfl, rfl⟩, k8⟩, hkp, hr, ⟨n, t1, t2, t3⟩, ht, hl⟩)
theorem lk_26 : cs_26 LI := fun a1 a2 a3 a4 FI FA FL h => by
  obtain ⟨⟨⟨z1, k1⟩, ⟨z2, k2⟩, k3, k4, ⟨m, k5, k6, k7⟩, k8⟩, hkp, hr, ⟨n, t1, t2, t3⟩, ht, hl⟩ := h
  rw [k6, k7]
  exact pr_run k5 k8 k1 (fun r A1 B1 X1 Y1 z q => ⟨rfl, ⟨⟨z, q⟩, ⟨z2, k2⟩, k3, k4, ⟨m, k5, k6, k7⟩, k8⟩, hkp, hr, ⟨n, t1, t2, t3⟩, ht, hl⟩)
theorem lk_27 : cs_27 LI := fun a1 a2 a3 a4 FI FA FL h => by
  obtain ⟨⟨⟨z1, k1⟩, ⟨z2, k2⟩, k3, k4, ⟨m, k5, k6, k7⟩, k8⟩, hkp, hr, ⟨n, t1, t2, t3⟩, ht, hl⟩ := h
  rw [k6, k7]
  exact pr_ahead k5 k8 k1 (fun r C1 X1 Y1 => ⟨rfl, ⟨⟨z1, k1⟩, ⟨z2, k2⟩, k3, k4, ⟨m, k5, k6, k7⟩, k8⟩, hkp, hr, ⟨n, t1, t2, t3⟩, ht, hl⟩)
theorem lk_28 : cs_28 LI := fun a1 a2 a3 a4 FI FA FL h => by
  obtain ⟨⟨⟨z1, k1⟩, ⟨z2, k2⟩, k3, k4, ⟨m, k5, k6, k7⟩, k8⟩, hkp, hr, ⟨n, t1, t2, t3⟩, ht, hl⟩ := h
  exact pr_rack hr (fun r a b c d e g q => ⟨rfl, ⟨⟨z1, k1⟩, ⟨z2, k2⟩, k3, k4, ⟨m, k5, k6, k7⟩, k8⟩, hkp, q, ⟨n, t1, t2, t3⟩, ht, hl⟩)
theorem lk_29 : cs_29 LI := fun a1 a2 a3 a4 FI FA FL h => by
  obtain ⟨⟨⟨z1, k1⟩, ⟨z2, k2⟩, k3, k4, ⟨m, k5, k6, k7⟩, k8⟩, hkp, hr, ⟨n, t1, t2, t3⟩, ht, hl⟩ := h
  exact pr_store hr (fun r a b c d q => ⟨rfl, ⟨⟨z1, k1⟩, ⟨z2, k2⟩, k3, k4, ⟨m, k5, k6, k7⟩, k8⟩, hkp, q, ⟨n, t1, t2, t3⟩, ht, hl⟩)
theorem lk_30 : cs_30 LI := fun a1 a2 a3 a4 FI FA FL h => by
  obtain ⟨⟨⟨z1, k1⟩, ⟨z2, k2⟩, k3, k4, ⟨m, k5, k6, k7⟩, k8⟩, hkp, hr, ⟨n, t1, t2, t3⟩, ht, hl⟩ := h
  exact pr_thing hr (fun r => ⟨rfl, ⟨⟨z1, k1⟩, ⟨z2, k2⟩, k3, k4, ⟨m, k5, k6, k7⟩, k8⟩, hkp, hr, ⟨n, t1, t2, t3⟩, ht, hl⟩)
theorem lk_31 : cs_31 LI := fun a1 a2 a3 a4 FI FA FL h => by
  obtain ⟨⟨⟨z1, k1⟩, ⟨z2, k2⟩, k3, k4, ⟨m, k5, k6, k7⟩, k8⟩, hkp, hr, ⟨n, t1, t2, t3⟩, ht, hl⟩ := h
  exact pr_copied hr (fun r a b c d e g h i q => ⟨rfl, ⟨⟨z1, k1⟩, ⟨z2, k2⟩, k3, k4, ⟨m, k5, k6, k7⟩, k8⟩, hkp, q, ⟨n, t1, t2, t3⟩, ht, hl⟩)
theorem lk_32 : cs_32 LI := fun a1 a2 a3 a4 FI FA FL h => by
  obtain ⟨⟨⟨z1, k1⟩, ⟨z2, k2⟩, k3, k4, ⟨m, k5, k6, k7⟩, k8⟩, hkp, hr, ⟨n, t1, t2, t3⟩, ht, hl⟩ := h
  rw [t2, t3]
  exact pr_feed t1 ht (fun r n1 A1 B1 q1 q2 => ⟨rfl, ⟨⟨z1, k1⟩, ⟨z2, k2⟩, k3, k4, ⟨m, k5, k6, k7⟩, k8⟩, hkp, hr, ⟨n1, q1, rfl, rfl⟩, q2, hl⟩)
theorem lk_33 : cs_33 LI := fun a1 a2 a3 a4 FI FA FL h => by
  obtain ⟨⟨⟨z1, k1⟩, ⟨z2, k2⟩, k3, k4, ⟨m, k5, k6, k7⟩, k8⟩, hkp, hr, ⟨n, t1, t2, t3⟩, ht, hl⟩ := h
  rw [t2, t3]
  exact pr_wipe (fun r => ⟨rfl, ⟨⟨z1, k1⟩, ⟨z2, k2⟩, k3, k4, ⟨m, k5, k6, k7⟩, k8⟩, hkp, hr, ⟨0, Nat.zero_le _, rfl, rfl⟩, ht, hl⟩)
theorem lk_34 : cs_34 LI := fun a1 a2 a3 a4 FI FA FL h => by
  obtain ⟨⟨⟨z1, k1⟩, ⟨z2, k2⟩, k3, k4, ⟨m, k5, k6, k7⟩, k8⟩, hkp, hr, ⟨n, t1, t2, t3⟩, ht, hl⟩ := h
  rw [t2, t3]
  exact pr_read t1 ht k1 (fun r F2 a b c d A2 e g F3 R2 f2 q => ⟨rfl, ⟨⟨f2, q⟩, ⟨z2, k2⟩, k3, k4, ⟨m, k5, k6, k7⟩, k8⟩, hkp, hr, ⟨0, Nat.zero_le _, rfl, rfl⟩, ht, hl⟩)
theorem lk_35 : cs_35 LI := fun a1 a2 a3 a4 FI FA FL h => by
  obtain ⟨⟨⟨z1, k1⟩, ⟨z2, k2⟩, k3, k4, ⟨m, k5, k6, k7⟩, k8⟩, hkp, hr, ⟨n, t1, t2, t3⟩, ht, hl⟩ := h
  exact pr_written k1 (fun r a b c d e => ⟨rfl, ⟨⟨z1, k1⟩, ⟨z2, k2⟩, k3, k4, ⟨m, k5, k6, k7⟩, k8⟩, hkp, hr, ⟨n, t1, t2, t3⟩, ht, hl⟩)
theorem lk_36 : cs_36 LI := fun a1 a2 a3 a4 FI FA FL h => by
  obtain ⟨⟨⟨z1, k1⟩, ⟨z2, k2⟩, k3, k4, ⟨m, k5, k6, k7⟩, k8⟩, hkp, hr, ⟨n, t1, t2, t3⟩, ht, hl⟩ := h
  exact pr_list hl (fun r S1 L1 T1 M1 q => ⟨rfl, ⟨⟨z1, k1⟩, ⟨z2, k2⟩, k3, k4, ⟨m, k5, k6, k7⟩, k8⟩, hkp, hr, ⟨n, t1, t2, t3⟩, ht, q⟩)
theorem lk_37 : cs_37 LI := fun a1 a2 a3 a4 FI FA FL h => by
  obtain ⟨⟨⟨z1, k1⟩, ⟨z2, k2⟩, k3, k4, ⟨m, k5, k6, k7⟩, k8⟩, hkp, hr, ⟨n, t1, t2, t3⟩, ht, hl⟩ := h
  exact pr_lay hl (fun r L1 M1 q => ⟨rfl, ⟨⟨z1, k1⟩, ⟨z2, k2⟩, k3, k4, ⟨m, k5, k6, k7⟩, k8⟩, hkp, hr, ⟨n, t1, t2, t3⟩, ht, q⟩)
theorem lk_38 : cs_38 LI := fun a1 a2 a3 a4 FI FA FL h => by
  obtain ⟨⟨⟨z1, k1⟩, ⟨z2, k2⟩, k3, k4, ⟨m, k5, k6, k7⟩, k8⟩, hkp, hr, ⟨n, t1, t2, t3⟩, ht, hl⟩ := h
  exact pr_look hl (fun r => ⟨rfl, ⟨⟨z1, k1⟩, ⟨z2, k2⟩, k3, k4, ⟨m, k5, k6, k7⟩, k8⟩, hkp, hr, ⟨n, t1, t2, t3⟩, ht, hl⟩)
theorem lk_39 : cs_39 LI := fun a1 a2 a3 a4 FI FA FL h => by
  obtain ⟨⟨⟨z1, k1⟩, ⟨z2, k2⟩, k3, k4, ⟨m, k5, k6, k7⟩, k8⟩, hkp, hr, ⟨n, t1, t2, t3⟩, ht, hl⟩ := h
  obtain ⟨zb, hb⟩ := k4a (fun q => (k4 q).2)
  exact pr_judge k3 (fun q => (hb q).1) hl (fun r => ⟨rfl, ⟨⟨z1, k1⟩, ⟨z2, k2⟩, k3, k4, ⟨m, k5, k6, k7⟩, k8⟩, hkp, hr, ⟨n, t1, t2, t3⟩, ht, hl⟩)
theorem lk_40 : cs_40 LI := fun a1 a2 a3 a4 FI FA FL h => by
  obtain ⟨⟨⟨z1, k1⟩, ⟨z2, k2⟩, k3, k4, ⟨m, k5, k6, k7⟩, k8⟩, hkp, hr, ⟨n, t1, t2, t3⟩, ht, hl⟩ := h
  exact pr_image ⟨⟨z1, k1⟩, ⟨z2, k2⟩, k3, k4, ⟨m, k5, k6, k7⟩, k8⟩ (fun r f2 o2 n2 b2 ks2 as2 f3 o3 n3 b3 ws2 vs2 q => ⟨rfl, ⟨⟨z1, k1⟩, ⟨z2, k2⟩, k3, k4, ⟨m, k5, k6, k7⟩, k8⟩, ⟨rfl, fun _ => q⟩, hr, ⟨n, t1, t2, t3⟩, ht, hl⟩)
theorem lk_41 : cs_41 LI := fun a1 a2 a3 a4 FI FA FL h => by
  obtain ⟨⟨⟨z1, k1⟩, ⟨z2, k2⟩, k3, k4, ⟨m, k5, k6, k7⟩, k8⟩, hkp, hr, ⟨n, t1, t2, t3⟩, ht, hl⟩ := h
  obtain ⟨hk1, hk2⟩ := hkp
  rw [hk1]
  exact pr_undo ⟨⟨z1, k1⟩, ⟨z2, k2⟩, k3, k4, ⟨m, k5, k6, k7⟩, k8⟩ hk2 (fun r f2 o2 top2 n2 b2 size2 ks2 as2 isF2 fB2 ch2 f3 o3 n3 b3 ws2 vs2 q => ⟨rfl, q, ⟨hk1, hk2⟩, hr, ⟨n, t1, t2, t3⟩, ht, hl⟩)
theorem lk_42 : cs_42 LI := fun a1 a2 a3 a4 FI FA FL h => by
  obtain ⟨⟨⟨z1, k1⟩, ⟨z2, k2⟩, k3, k4, ⟨m, k5, k6, k7⟩, k8⟩, hkp, hr, ⟨n, t1, t2, t3⟩, ht, hl⟩ := h
  rw [k6, k7]
  rw [t2, t3]
  exact pr_count k1 k2 k3 (fun i hi => (hr.1 i hi).1) (fun i hi => (hl.1 i hi).1) (fun r => ⟨rfl, ⟨⟨z1, k1⟩, ⟨z2, k2⟩, k3, k4, ⟨m, k5, k6, k7⟩, k8⟩, hkp, hr, ⟨n, t1, t2, t3⟩, ht, hl⟩)
