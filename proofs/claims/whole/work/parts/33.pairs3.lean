/-! lists, racks -/
theorem wp_isRack {x : Int32} {K : Int32 → Prop} (h : K (btw x 0 2)) : wp_X12_isRack x K := by
  unfold wp_X12_isRack
  exact wp_isIn ⟨btw_z _ _ _, h⟩
theorem wp_isList {x : Int32} {K : Int32 → Prop} (h : K (btw x 0 2)) : wp_X12_isList x K := by
  unfold wp_X12_isList
  exact wp_isIn ⟨btw_z _ _ _, h⟩
/-- both rows of sizes, both rows of longs -/
def lsR (S T : Nat → Int32) (L M : Nat → Int64) : Prop := (∀ i, i < 3 → T i = S i ∧ -1 ≤ (S i).toInt ∧ (S i).toInt ≤ 12) ∧ ∀ i, i < 36 → M i = L i
theorem at12 (j t : Nat) : nI j * (12 : Int32) + nI t = nI (12 * j + t) := by
  rw [show (12 : Int32) = nI 12 from rfl, pk_mul, nI_add, Nat.mul_comm j 12]
theorem at12' (j t : Nat) : (12 : Int32) * nI j + nI t = nI (12 * j + t) := by
  rw [show (12 : Int32) = nI 12 from rfl, pk_mul, nI_add]
theorem at10 (j t : Nat) : nI j * (10 : Int32) + nI t = nI (10 * j + t) := by
  rw [show (10 : Int32) = nI 10 from rfl, pk_mul, nI_add, Nat.mul_comm j 10]
theorem at10' (j t : Nat) : (10 : Int32) * nI j + nI t = nI (10 * j + t) := by
  rw [show (10 : Int32) = nI 10 from rfl, pk_mul, nI_add]
def zrL (L : Nat → Int64) (j t : Nat) : Nat → Int64 := fun i => if j ≤ i ∧ i < j + t then 0 else L i
theorem zrL_s (L : Nat → Int64) (j t : Nat) : vp_updL (zrL L j t) (j + t) 0 = zrL L j (t + 1) := by
  funext i
  unfold vp_updL zrL
  by_cases e : i = j + t
  · rw [if_pos e, if_pos (by omega)]
  · rw [if_neg e]
    by_cases e2 : j ≤ i ∧ i < j + t
    · rw [if_pos e2, if_pos (by omega)]
    · rw [if_neg e2, if_neg (by omega)]
theorem zrL_0 (L : Nat → Int64) (j : Nat) : zrL L j 0 = L := by
  funext i
  unfold zrL
  rw [if_neg (by omega)]
theorem pr_list {x1 x2 : Int32} {S T : Nat → Int32} {L M : Nat → Int64} {K : Int32 → (Nat → Int32) → (Nat → Int64) → Int32 → (Nat → Int32) → (Nat → Int64) → Prop} (h : lsR S T L M) (hK : ∀ r S' L' T' M', lsR S' T' L' M' → K r S' L' r T' M') : wp_X11_list x1 x2 S L (fun r S' L' => wp_X12_list x1 x2 T M (fun r2 T' M' => K r S' L' r2 T' M')) := by
  unfold wp_X11_list
  refine wp_within ⟨fun q => ⟨fun q2 => ⟨fun q3 => ?_, fun q3 => ?_⟩, fun q2 => ?_⟩, fun q => ?_⟩
  · obtain ⟨j, hj, rfl⟩ := btw_n (N := 2) (by decide) q
    unfold wp_X1_make
    refine ⟨vpn (by omega) (by decide), 13, ?_⟩
    have key := up_fun (fun k x (s : Nat → Int64) => lp_X1_make_9 (nI j) x2 (fun S' L' => wp_X12_list (nI j) x2 T M (fun r2 T' M' => K 1 S' L' r2 T' M')) k x (upd S j x2) s) 12 (fun t => zrL L (12 * j) t)
      (fun k => by
        unfold lp_X1_make_9
        refine ⟨fun _ => ?_, fun e => absurd (by decide) e⟩
        unfold wp_X12_list
        refine wp_isList ⟨fun _ => ⟨fun _ => ⟨fun _ => ⟨vpn (by omega) (by decide), 13, ?_⟩, fun e => absurd q3 e⟩, fun e => absurd q2 e⟩, fun e => absurd e q⟩
        rw [cln (by omega)]
        have key2 := up_fun (fun k x (s : Nat → Int64) => lp_X12_list_35 (nI j) x2 (fun r2 T' M' => K 1 (upd S j x2) (zrL L (12 * j) 12) r2 T' M') k x (upd T j x2) s) 12 (fun t => zrL M (12 * j) t)
          (fun k => by
            unfold lp_X12_list_35
            refine ⟨fun _ => hK _ _ _ _ _ ⟨fun i hi => ?_, fun i hi => ?_⟩, fun e => absurd (by decide) e⟩
            · by_cases e : i = j
              · subst e
                rw [pk_us, pk_us]
                have g2 := Int32.le_iff_toInt_le.mp q2
                have g3 := Int32.le_iff_toInt_le.mp q3
                exact ⟨rfl, g3, g2⟩
              · rw [pk_un e, pk_un e]
                exact h.1 i hi
            · unfold zrL
              rw [h.2 i hi])
          (fun k t ht ih => by
            unfold lp_X12_list_35
            refine ⟨fun e => absurd e (ngt (b := 12) ht (by decide)), fun _ => ?_⟩
            rw [at12']
            refine ⟨vpn (by omega) (by decide), ?_⟩
            rw [cln (by omega), zrL_s, nI_1]
            exact ih) 12 0 (by omega)
        rw [zrL_0] at key2
        exact key2)
      (fun k t ht ih => by
        unfold lp_X1_make_9
        refine ⟨fun e => absurd e (ngt (b := 12) ht (by decide)), fun _ => ?_⟩
        rw [at12]
        refine ⟨vpn (by omega) (by decide), ?_⟩
        rw [cln (by omega), zrL_s, nI_1]
        exact ih) 12 0 (by omega)
    rw [zrL_0] at key
    rw [cln (by omega)]
    exact key
  · unfold wp_X12_list
    exact wp_isList ⟨fun _ => ⟨fun _ => ⟨fun e => absurd e q3, fun _ => hK _ _ _ _ _ h⟩, fun e => absurd q2 e⟩, fun e => absurd e q⟩
  · unfold wp_X12_list
    exact wp_isList ⟨fun _ => ⟨fun e => absurd e q2, fun _ => hK _ _ _ _ _ h⟩, fun e => absurd e q⟩
  · unfold wp_X12_list
    exact wp_isList ⟨fun e => absurd q e, fun _ => hK _ _ _ _ _ h⟩
theorem btw_sz {x s : Int32} {N : Nat} (hN : N < 1000) (hs : -1 ≤ s.toInt ∧ s.toInt ≤ N) (h : ¬ btw x 0 (s - 1) = 0) : ∃ t : Nat, t < N ∧ x = nI t ∧ (t : Int) < s.toInt := by
  have hb := btw_i h
  have e1 : (s - 1).toInt = s.toInt - 1 := is' rfl rfl (by have k1 : (1 : Int32).toInt = 1 := rfl; omega)
  have k0 : (0 : Int32).toInt = 0 := rfl
  rw [e1, k0] at hb
  exact ⟨x.toInt.toNat, by omega, i_nI (by omega), by omega⟩
theorem pr_lay {x1 x2 : Int32} {x3 : Int64} {S T : Nat → Int32} {L M : Nat → Int64} {K : Int32 → (Nat → Int64) → Int32 → (Nat → Int64) → Prop} (h : lsR S T L M) (hK : ∀ r L' M', lsR S T L' M' → K r L' r M') : wp_X11_lay x1 x2 x3 S L (fun r L' => wp_X12_lay x1 x2 x3 T M (fun r2 M' => K r L' r2 M')) := by
  unfold wp_X11_lay
  refine wp_within ⟨fun q => ?_, fun q => ?_⟩
  · obtain ⟨j, hj, rfl⟩ := btw_n (N := 2) (by decide) q
    refine ⟨vpn (by omega) (by decide), ?_⟩
    rw [cln (by omega)]
    obtain ⟨hT, hS1, hS2⟩ := h.1 j (by omega)
    refine ⟨fun q2 => wp_within ⟨fun q3 => ?_, fun q3 => ?_⟩, fun q2 => ?_⟩
    · have q4 : 0 ≤ S j := Int32.le_iff_toInt_le.mpr (by
        have k0 : (0 : Int32).toInt = 0 := rfl
        have : (S j).toInt ≠ -1 := fun e => q2 (ieq e)
        omega)
      obtain ⟨t, ht, rfl, -⟩ := btw_sz (N := 12) (by decide) ⟨hS1, hS2⟩ q3
      rw [at12]
      refine ⟨vpn (by omega) (by decide), ?_⟩
      unfold wp_X12_lay
      refine wp_isList ⟨fun _ => ⟨vpn (by omega) (by decide), ?_⟩, fun e => absurd e q⟩
      rw [cln (by omega), hT]
      refine ⟨fun _ => wp_isIn ⟨fun _ => ?_, fun e => absurd e q3⟩, fun e => absurd q4 e⟩
      rw [at12']
      refine ⟨vpn (by omega) (by decide), ?_⟩
      rw [cln (by omega)]
      refine hK _ _ _ ⟨h.1, fun i hi => ?_⟩
      by_cases e : i = 12 * j + t
      · rw [e, pk_uLs, pk_uLs]
      · rw [pk_uLn e, pk_uLn e]
        exact h.2 i hi
    · have q4 : 0 ≤ S j := Int32.le_iff_toInt_le.mpr (by
        have k0 : (0 : Int32).toInt = 0 := rfl
        have : (S j).toInt ≠ -1 := fun e => q2 (ieq e)
        omega)
      unfold wp_X12_lay
      refine wp_isList ⟨fun _ => ⟨vpn (by omega) (by decide), ?_⟩, fun e => absurd e q⟩
      rw [cln (by omega), hT]
      exact ⟨fun _ => wp_isIn ⟨fun e => absurd q3 e, fun _ => hK _ _ _ h⟩, fun e => absurd q4 e⟩
    · unfold wp_X12_lay
      refine wp_isList ⟨fun _ => ⟨vpn (by omega) (by decide), ?_⟩, fun e => absurd e q⟩
      rw [cln (by omega), hT, q2]
      exact ⟨fun e => absurd e (by decide), fun _ => hK _ _ _ h⟩
  · unfold wp_X12_lay
    exact wp_isList ⟨fun e => absurd q e, fun _ => hK _ _ _ h⟩
theorem pr_look {x1 x2 : Int32} {S T : Nat → Int32} {L M : Nat → Int64} {K : Int64 → Int64 → Prop} (h : lsR S T L M) (hK : ∀ r, K r r) : wp_X11_look x1 x2 S L (fun r => wp_X12_look x1 x2 T M (fun r2 => K r r2)) := by
  unfold wp_X11_look
  refine wp_within ⟨fun q => ?_, fun q => ?_⟩
  · unfold wp_X12_look
    exact wp_isList ⟨fun _ => hK _, fun e => absurd q e⟩
  · obtain ⟨j, hj, rfl⟩ := btw_n (N := 2) (by decide) q
    refine ⟨vpn (by omega) (by decide), ?_⟩
    rw [cln (by omega)]
    obtain ⟨hT, hS1, hS2⟩ := h.1 j (by omega)
    refine wp_within ⟨fun q3 => ?_, fun q3 => ?_⟩
    · obtain ⟨t, ht, rfl, -⟩ := btw_sz (N := 12) (by decide) ⟨hS1, hS2⟩ q3
      rw [at12]
      refine ⟨vpn (by omega) (by decide), ?_⟩
      unfold wp_X12_look
      refine wp_isList ⟨fun e => absurd e q, fun _ => ⟨vpn (by omega) (by decide), ?_⟩⟩
      rw [cln (by omega), hT]
      refine wp_isIn ⟨fun e => absurd e q3, fun _ => ?_⟩
      rw [at12']
      refine ⟨vpn (by omega) (by decide), ?_⟩
      rw [cln (by omega), h.2 _ (by omega)]
      exact hK _
    · unfold wp_X12_look
      refine wp_isList ⟨fun e => absurd e q, fun _ => ⟨vpn (by omega) (by decide), ?_⟩⟩
      rw [cln (by omega), hT]
      exact wp_isIn ⟨fun _ => hK _, fun e => absurd q3 e⟩
