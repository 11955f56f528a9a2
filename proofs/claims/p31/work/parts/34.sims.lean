set_option maxHeartbeats 4000000 in
theorem sp_J6_bitCount_0f7a4 (B : Mem × Mem) (T : Mem) (rk : Prop) (S D : Nat → Nat → Prop)  (Z Z' : Mem) (xa : Int32)     (hAg : Ag B T rk S D Z Z') : Sg (fun a b => a = b ∧ True) (F_J6_bitCount_0f7a4 Z xa) (F_J6_bitCount_0f7a4 Z' xa) := by
  have hW := hAg.1
  have hb2 := hW.1.1.2
  have hb5 := hW.1.2.2.1.2
  have hb7 := hW.1.2.2.2.1.2
  unfold F_J6_bitCount_0f7a4
  refine sg_go (fun Q hQ => ?_)
  refine sg_bv (t := (xa.toUInt32 >>> ((1 : Int32).toUInt32 &&& Int32.toUInt32 31)).toInt32) rfl rfl (fun y1 ey1 => ?_)
  refine sg_bv (t := y1 &&& (1431655765 : Int32)) rfl rfl (fun y2 ey2 => ?_)
  refine sg_bv (t := xa - y2) rfl rfl (fun y3 ey3 => ?_)
  refine sg_bv (t := y3 &&& (858993459 : Int32)) rfl rfl (fun y4 ey4 => ?_)
  refine sg_bv (t := (y3.toUInt32 >>> ((2 : Int32).toUInt32 &&& Int32.toUInt32 31)).toInt32) rfl rfl (fun y5 ey5 => ?_)
  refine sg_bv (t := y5 &&& (858993459 : Int32)) rfl rfl (fun y6 ey6 => ?_)
  refine sg_bv (t := y4 + y6) rfl rfl (fun y7 ey7 => ?_)
  refine sg_bv (t := (y7.toUInt32 >>> ((4 : Int32).toUInt32 &&& Int32.toUInt32 31)).toInt32) rfl rfl (fun y8 ey8 => ?_)
  refine sg_bv (t := y7 + y8) rfl rfl (fun y9 ey9 => ?_)
  refine sg_bv (t := y9 &&& (252645135 : Int32)) rfl rfl (fun y10 ey10 => ?_)
  refine sg_bv (t := (y10.toUInt32 >>> ((8 : Int32).toUInt32 &&& Int32.toUInt32 31)).toInt32) rfl rfl (fun y11 ey11 => ?_)
  refine sg_bv (t := y10 + y11) rfl rfl (fun y12 ey12 => ?_)
  refine sg_bv (t := (y12.toUInt32 >>> ((16 : Int32).toUInt32 &&& Int32.toUInt32 31)).toInt32) rfl rfl (fun y13 ey13 => ?_)
  refine sg_bv (t := y12 + y13) rfl rfl (fun y14 ey14 => ?_)
  refine sg_bv (t := y14 &&& (63 : Int32)) rfl rfl (fun y15 ey15 => ?_)
  rw [hQ]
  exact sg_ret ⟨rfl, trivial⟩

set_option maxHeartbeats 4000000 in
theorem sp_X3_countsIn (B : Mem × Mem) (T : Mem) (rk : Prop) (S D : Nat → Nat → Prop)  (Z Z' : Mem) (ka : Nat) (xa : Int32) (hka : ka < ix (T.1 1 7))    (hAg : Ag B T rk S D Z Z') : Sg (fun a b => a = b ∧ (¬ a = 0 → T.1 (39 + ka) 0 = xa)) (F_X3_countsIn Z ka xa) (F_X3_countsIn Z' ka xa) := by
  have hW := hAg.1
  have hb2 := hW.1.1.2
  have hb5 := hW.1.2.2.1.2
  have hb7 := hW.1.2.2.2.1.2
  unfold F_X3_countsIn
  refine sg_go (fun Q hQ => ?_)
  refine sg_bv (t := T.1 (39 + ka) 0) (ag_s hAg hka (j := 0) ⟨by decide, fun h => absurd h (by decide), by decide⟩).1 (ag_s hAg hka (j := 0) ⟨by decide, fun h => absurd h (by decide), by decide⟩).2 (fun y1 ey1 => ?_)
  have hn_y1 : Nn y1 3 := by rw [ey1]; exact wf_dis hW hka
  refine sg_brn (fun hc2 => ?_) (fun hc2 => ?_)
  · rw [hQ]
    exact sg_ret ⟨rfl, (by first | exact Or.inl rfl | exact Or.inr rfl | (intro h9; exact absurd rfl h9) | assumption | (intro _; assumption) | simp_all)⟩
  · refine sg_bv (t := T.1 (39 + ka) 3) (ag_s hAg hka (j := 3) ⟨by decide, fun h => absurd h (by decide), by decide⟩).1 (ag_s hAg hka (j := 3) ⟨by decide, fun h => absurd h (by decide), by decide⟩).2 (fun y3 ey3 => ?_)
    refine sg_brn (fun hc4 => ?_) (fun hc4 => ?_)
    · rw [hQ]
      exact sg_ret ⟨rfl, (by first | exact Or.inl rfl | exact Or.inr rfl | (intro h9; exact absurd rfl h9) | assumption | (intro _; assumption) | simp_all)⟩
    · rw [hQ]
      exact sg_ret ⟨rfl, (fun _ => ey1.symm.trans (by assumption))⟩

set_option maxHeartbeats 4000000 in
theorem sp_X3_placeOf (B : Mem × Mem) (T : Mem) (rk : Prop) (S D : Nat → Nat → Prop)  (Z Z' : Mem) (ka : Nat) (xa : Int32) (hka : ka < ix (T.1 1 7))    (hAg : Ag B T rk S D Z Z') : Sg (fun a b => a = b ∧ True) (F_X3_placeOf Z ka xa) (F_X3_placeOf Z' ka xa) := by
  have hW := hAg.1
  have hb2 := hW.1.1.2
  have hb5 := hW.1.2.2.1.2
  have hb7 := hW.1.2.2.2.1.2
  unfold F_X3_placeOf
  refine sg_go (fun Q hQ => ?_)
  have hbl2 := (wf_len hW hka).2
  have Jx2 : Sg Q ((F_X3_placeOf_x2 Z ka)) ((F_X3_placeOf_x2 Z' ka)) := by
    unfold F_X3_placeOf_x2
    refine sg_bv (t := T.1 (39 + ka) 5) (ag_s hAg hka (j := 5) ⟨by decide, fun h => absurd h (by decide), by decide⟩).1 (ag_s hAg hka (j := 5) ⟨by decide, fun h => absurd h (by decide), by decide⟩).2 (fun y1 ey1 => ?_)
    have hn_y1 : Nn y1 6 := by rw [ey1]; exact wf_len hW hka
    rw [hQ]
    exact sg_ret ⟨rfl, trivial⟩
  have L2 : ∀ (n2 k2 : Nat) , k2 ≤ (ix (T.1 (39 + ka) 5)) → (ix (T.1 (39 + ka) 5)) < n2 + k2 → Sg Q (F_X3_placeOf_l2 Z ka xa (F_X3_placeOf_x2 Z ka) n2 (nI k2)) (F_X3_placeOf_l2 Z' ka xa (F_X3_placeOf_x2 Z' ka) n2 (nI k2)) := by
    intro n2
    induction n2 with
    | zero =>
      intro k2 h1 h2
      exact absurd h2 (by omega)
    | succ n2 IH2 =>
      intro k2 hk2 hf2 
      rw [F_X3_placeOf_l2]; try rw [F_X3_placeOf_l2]
      refine sg_bv (t := T.1 (39 + ka) 5) (ag_s hAg hka (j := 5) ⟨by decide, fun h => absurd h (by decide), by decide⟩).1 (ag_s hAg hka (j := 5) ⟨by decide, fun h => absurd h (by decide), by decide⟩).2 (fun y3 ey3 => ?_)
      have hn_y3 : Nn y3 6 := by rw [ey3]; exact wf_len hW hka
      refine sg_br (fun hc4 => ?_) (fun hc4 => ?_)
      · have hxhc4 := ct_le hn_y3.1 (Nat.le_trans hn_y3.2 (by decide)) (by omega) hc4
        rw [ey3] at hxhc4
        exact Jx2 
      · have hxhc4 := ct_lt hn_y3.1 (Nat.le_trans hn_y3.2 (by decide)) (by omega) hc4
        rw [ey3] at hxhc4
        have hg5 : ¬ ((nI k2) < 0 ∨ 6 ≤ ix (nI k2)) := (in_nI (by omega) (by decide))
        refine sg_gd hg5 ?_
        refine sg_bv (t := T.1 (64 + ka) (ix (nI k2))) (ag_l hAg hka (j := (ix (nI k2))) (by rw [ix_nI (by omega)]; omega)).1 (ag_l hAg hka (j := (ix (nI k2))) (by rw [ix_nI (by omega)]; omega)).2 (fun y6 ey6 => ?_)
        have hn_y6 : Nn y6 5 := by rw [ey6]; exact wf_l hW hka (j := (ix (nI k2))) (ix_in hg5)
        refine sg_brn (fun hc7 => ?_) (fun hc7 => ?_)
        · rw [nIs]
          exact IH2 (k2 + 1)  (by omega) (by omega) 
        · rw [hQ]
          exact sg_ret ⟨rfl, trivial⟩
  exact L2 100 0  (by omega) (by omega) 

set_option maxHeartbeats 4000000 in
theorem sp_X3_firstOf_12 (B : Mem × Mem) (T : Mem) (rk : Prop) (S D : Nat → Nat → Prop)  (Z Z' : Mem) (ka : Nat) (hka : ka < ix (T.1 1 7)) (hS12 : ∀ j, j < 6 → S 12 j)   (hAg : Ag B T rk S D Z Z') : Sg (fun a b => a = b ∧ Op a 6) (F_X3_firstOf_12 Z ka) (F_X3_firstOf_12 Z' ka) := by
  have hW := hAg.1
  have hb2 := hW.1.1.2
  have hb5 := hW.1.2.2.1.2
  have hb7 := hW.1.2.2.2.1.2
  unfold F_X3_firstOf_12
  refine sg_go (fun Q hQ => ?_)
  have hbl2 := (wf_len hW hka).2
  have Jx2 : Sg Q (F_X3_firstOf_12_x2) (F_X3_firstOf_12_x2) := by
    unfold F_X3_firstOf_12_x2
    rw [hQ]
    exact sg_ret ⟨rfl, (Or.inl rfl)⟩
  have L2 : ∀ (n2 k2 : Nat) , k2 ≤ (ix (T.1 (39 + ka) 5)) → (ix (T.1 (39 + ka) 5)) < n2 + k2 → Sg Q (F_X3_firstOf_12_l2 Z ka F_X3_firstOf_12_x2 n2 (nI k2)) (F_X3_firstOf_12_l2 Z' ka F_X3_firstOf_12_x2 n2 (nI k2)) := by
    intro n2
    induction n2 with
    | zero =>
      intro k2 h1 h2
      exact absurd h2 (by omega)
    | succ n2 IH2 =>
      intro k2 hk2 hf2 
      rw [F_X3_firstOf_12_l2]; try rw [F_X3_firstOf_12_l2]
      refine sg_bv (t := T.1 (39 + ka) 5) (ag_s hAg hka (j := 5) ⟨by decide, fun h => absurd h (by decide), by decide⟩).1 (ag_s hAg hka (j := 5) ⟨by decide, fun h => absurd h (by decide), by decide⟩).2 (fun y2 ey2 => ?_)
      have hn_y2 : Nn y2 6 := by rw [ey2]; exact wf_len hW hka
      refine sg_br (fun hc3 => ?_) (fun hc3 => ?_)
      · have hxhc3 := ct_le hn_y2.1 (Nat.le_trans hn_y2.2 (by decide)) (by omega) hc3
        rw [ey2] at hxhc3
        exact Jx2 
      · have hxhc3 := ct_lt hn_y2.1 (Nat.le_trans hn_y2.2 (by decide)) (by omega) hc3
        rw [ey2] at hxhc3
        have hg4 : ¬ ((nI k2) < 0 ∨ 6 ≤ ix (nI k2)) := (in_nI (by omega) (by decide))
        refine sg_gd hg4 ?_
        refine sg_bv (t := T.1 (64 + ka) (ix (nI k2))) (ag_l hAg hka (j := (ix (nI k2))) (by rw [ix_nI (by omega)]; omega)).1 (ag_l hAg hka (j := (ix (nI k2))) (by rw [ix_nI (by omega)]; omega)).2 (fun y5 ey5 => ?_)
        have hn_y5 : Nn y5 5 := by rw [ey5]; exact wf_l hW hka (j := (ix (nI k2))) (ix_in hg4)
        have hg6 : ¬ (y5 < 0 ∨ 6 ≤ ix y5) := (in_Nn hn_y5 (by decide) (by decide))
        refine sg_gd hg6 ?_
        refine sg_bv (t := Z.1 12 (ix y5)) rfl (hAg.2.2.2.1 _ _ (hS12 _ (ix_in hg6))).symm (fun y7 ey7 => ?_)
        refine sg_br (fun hc8 => ?_) (fun hc8 => ?_)
        · rw [nIs]
          exact IH2 (k2 + 1)  (by omega) (by omega) 
        · refine sg_bv (t := T.1 (64 + ka) (ix (nI k2))) (ag_l hAg hka (j := (ix (nI k2))) (by rw [ix_nI (by omega)]; omega)).1 (ag_l hAg hka (j := (ix (nI k2))) (by rw [ix_nI (by omega)]; omega)).2 (fun y9 ey9 => ?_)
          have hn_y9 : Nn y9 5 := by rw [ey9]; exact wf_l hW hka (j := (ix (nI k2))) (ix_in hg4)
          rw [hQ]
          exact sg_ret ⟨rfl, (Or.inr (in_Nn hn_y9 (by decide) (by decide)))⟩
  exact L2 100 0  (by omega) (by omega) 

set_option maxHeartbeats 4000000 in
theorem sp_X3_firstOf_28 (B : Mem × Mem) (T : Mem) (rk : Prop) (S D : Nat → Nat → Prop)  (Z Z' : Mem) (ka : Nat) (hka : ka < ix (T.1 1 7)) (hS28 : ∀ j, j < 6 → S 28 j)   (hAg : Ag B T rk S D Z Z') : Sg (fun a b => a = b ∧ Op a 6) (F_X3_firstOf_28 Z ka) (F_X3_firstOf_28 Z' ka) := by
  have hW := hAg.1
  have hb2 := hW.1.1.2
  have hb5 := hW.1.2.2.1.2
  have hb7 := hW.1.2.2.2.1.2
  unfold F_X3_firstOf_28
  refine sg_go (fun Q hQ => ?_)
  have hbl2 := (wf_len hW hka).2
  have Jx2 : Sg Q (F_X3_firstOf_28_x2) (F_X3_firstOf_28_x2) := by
    unfold F_X3_firstOf_28_x2
    rw [hQ]
    exact sg_ret ⟨rfl, (Or.inl rfl)⟩
  have L2 : ∀ (n2 k2 : Nat) , k2 ≤ (ix (T.1 (39 + ka) 5)) → (ix (T.1 (39 + ka) 5)) < n2 + k2 → Sg Q (F_X3_firstOf_28_l2 Z ka F_X3_firstOf_28_x2 n2 (nI k2)) (F_X3_firstOf_28_l2 Z' ka F_X3_firstOf_28_x2 n2 (nI k2)) := by
    intro n2
    induction n2 with
    | zero =>
      intro k2 h1 h2
      exact absurd h2 (by omega)
    | succ n2 IH2 =>
      intro k2 hk2 hf2 
      rw [F_X3_firstOf_28_l2]; try rw [F_X3_firstOf_28_l2]
      refine sg_bv (t := T.1 (39 + ka) 5) (ag_s hAg hka (j := 5) ⟨by decide, fun h => absurd h (by decide), by decide⟩).1 (ag_s hAg hka (j := 5) ⟨by decide, fun h => absurd h (by decide), by decide⟩).2 (fun y2 ey2 => ?_)
      have hn_y2 : Nn y2 6 := by rw [ey2]; exact wf_len hW hka
      refine sg_br (fun hc3 => ?_) (fun hc3 => ?_)
      · have hxhc3 := ct_le hn_y2.1 (Nat.le_trans hn_y2.2 (by decide)) (by omega) hc3
        rw [ey2] at hxhc3
        exact Jx2 
      · have hxhc3 := ct_lt hn_y2.1 (Nat.le_trans hn_y2.2 (by decide)) (by omega) hc3
        rw [ey2] at hxhc3
        have hg4 : ¬ ((nI k2) < 0 ∨ 6 ≤ ix (nI k2)) := (in_nI (by omega) (by decide))
        refine sg_gd hg4 ?_
        refine sg_bv (t := T.1 (64 + ka) (ix (nI k2))) (ag_l hAg hka (j := (ix (nI k2))) (by rw [ix_nI (by omega)]; omega)).1 (ag_l hAg hka (j := (ix (nI k2))) (by rw [ix_nI (by omega)]; omega)).2 (fun y5 ey5 => ?_)
        have hn_y5 : Nn y5 5 := by rw [ey5]; exact wf_l hW hka (j := (ix (nI k2))) (ix_in hg4)
        have hg6 : ¬ (y5 < 0 ∨ 6 ≤ ix y5) := (in_Nn hn_y5 (by decide) (by decide))
        refine sg_gd hg6 ?_
        refine sg_bv (t := Z.1 28 (ix y5)) rfl (hAg.2.2.2.1 _ _ (hS28 _ (ix_in hg6))).symm (fun y7 ey7 => ?_)
        refine sg_br (fun hc8 => ?_) (fun hc8 => ?_)
        · rw [nIs]
          exact IH2 (k2 + 1)  (by omega) (by omega) 
        · refine sg_bv (t := T.1 (64 + ka) (ix (nI k2))) (ag_l hAg hka (j := (ix (nI k2))) (by rw [ix_nI (by omega)]; omega)).1 (ag_l hAg hka (j := (ix (nI k2))) (by rw [ix_nI (by omega)]; omega)).2 (fun y9 ey9 => ?_)
          have hn_y9 : Nn y9 5 := by rw [ey9]; exact wf_l hW hka (j := (ix (nI k2))) (ix_in hg4)
          rw [hQ]
          exact sg_ret ⟨rfl, (Or.inr (in_Nn hn_y9 (by decide) (by decide)))⟩
  exact L2 100 0  (by omega) (by omega) 

set_option maxHeartbeats 4000000 in
theorem sp_X3_figure (B : Mem × Mem) (T : Mem) (rk : Prop) (S D : Nat → Nat → Prop)  (Z Z' : Mem) (ka : Nat) (xa : Int32) (hka : ka < ix (T.1 1 7)) (hrk : rk)    (hAg : Ag B T rk S D Z Z') : Sg (fun a b => a = b ∧ True) (F_X3_figure Z ka xa) (F_X3_figure Z' ka xa) := by
  have hW := hAg.1
  have hb2 := hW.1.1.2
  have hb5 := hW.1.2.2.1.2
  have hb7 := hW.1.2.2.2.1.2
  unfold F_X3_figure
  refine sg_go (fun Q hQ => ?_)
  refine sg_br (fun hq1 => ?_) (fun hq1 => ?_)
  · refine sg_bv (t := T.1 (39 + ka) 0) (ag_s hAg hka (j := 0) ⟨by decide, fun h => absurd h (by decide), by decide⟩).1 (ag_s hAg hka (j := 0) ⟨by decide, fun h => absurd h (by decide), by decide⟩).2 (fun y2 ey2 => ?_)
    have hn_y2 : Nn y2 3 := by rw [ey2]; exact wf_dis hW hka
    rw [hQ]
    exact sg_ret ⟨rfl, trivial⟩
  refine sg_br (fun hq3 => ?_) (fun hq3 => ?_)
  · refine sg_bv (t := T.1 (39 + ka) 1) (ag_s hAg hka (j := 1) ⟨by decide, fun _ => hrk, by decide⟩).1 (ag_s hAg hka (j := 1) ⟨by decide, fun _ => hrk, by decide⟩).2 (fun y4 ey4 => ?_)
    rw [hQ]
    exact sg_ret ⟨rfl, trivial⟩
  refine sg_br (fun hq5 => ?_) (fun hq5 => ?_)
  · refine sg_bv (t := T.1 (39 + ka) 2) (ag_s hAg hka (j := 2) ⟨by decide, fun h => absurd h (by decide), by decide⟩).1 (ag_s hAg hka (j := 2) ⟨by decide, fun h => absurd h (by decide), by decide⟩).2 (fun y6 ey6 => ?_)
    have hn_y6 : Nn y6 500 := by rw [ey6]; exact wf_cnt hW hka
    rw [hQ]
    exact sg_ret ⟨rfl, trivial⟩
  refine sg_br (fun hq7 => ?_) (fun hq7 => ?_)
  · refine sg_bv (t := T.1 (39 + ka) 3) (ag_s hAg hka (j := 3) ⟨by decide, fun h => absurd h (by decide), by decide⟩).1 (ag_s hAg hka (j := 3) ⟨by decide, fun h => absurd h (by decide), by decide⟩).2 (fun y8 ey8 => ?_)
    refine sg_br (fun hc9 => ?_) (fun hc9 => ?_)
    · rw [hQ]
      exact sg_ret ⟨rfl, trivial⟩
    · rw [hQ]
      exact sg_ret ⟨rfl, trivial⟩
  refine sg_br (fun hq10 => ?_) (fun hq10 => ?_)
  · refine sg_bv (t := T.1 (39 + ka) 5) (ag_s hAg hka (j := 5) ⟨by decide, fun h => absurd h (by decide), by decide⟩).1 (ag_s hAg hka (j := 5) ⟨by decide, fun h => absurd h (by decide), by decide⟩).2 (fun y11 ey11 => ?_)
    have hn_y11 : Nn y11 6 := by rw [ey11]; exact wf_len hW hka
    rw [hQ]
    exact sg_ret ⟨rfl, trivial⟩
  refine sg_bv (t := T.1 (39 + ka) 5) (ag_s hAg hka (j := 5) ⟨by decide, fun h => absurd h (by decide), by decide⟩).1 (ag_s hAg hka (j := 5) ⟨by decide, fun h => absurd h (by decide), by decide⟩).2 (fun y12 ey12 => ?_)
  have hn_y12 : Nn y12 6 := by rw [ey12]; exact wf_len hW hka
  refine sg_br (fun hc13 => ?_) (fun hc13 => ?_)
  · rw [hQ]
    exact sg_ret ⟨rfl, trivial⟩
  · have hl0hc13 : 0 < ix (T.1 (39 + ka) 5) := by have h9 := len_pos hn_y12 (by decide) hc13; rwa [ey12] at h9
    refine sg_bv (t := T.1 (64 + ka) (ix (0 : Int32))) (ag_l hAg hka (j := (ix (0 : Int32))) hl0hc13).1 (ag_l hAg hka (j := (ix (0 : Int32))) hl0hc13).2 (fun y14 ey14 => ?_)
    have hn_y14 : Nn y14 5 := by rw [ey14]; exact wf_l hW hka (j := (ix (0 : Int32))) (by decide)
    rw [hQ]
    exact sg_ret ⟨rfl, trivial⟩

set_option maxHeartbeats 4000000 in
theorem sp_X0_isStanding (B : Mem × Mem) (T : Mem) (rk : Prop) (S D : Nat → Nat → Prop)  (Z Z' : Mem) (xa : Int32)     (hAg : Ag B T rk S D Z Z') : Sg (fun a b => a = b ∧ True) (F_X0_isStanding Z xa) (F_X0_isStanding Z' xa) := by
  have hW := hAg.1
  have hb2 := hW.1.1.2
  have hb5 := hW.1.2.2.1.2
  have hb7 := hW.1.2.2.2.1.2
  unfold F_X0_isStanding
  refine sg_go (fun Q hQ => ?_)
  refine sg_br (fun hc1 => ?_) (fun hc1 => ?_)
  · rw [hQ]
    exact sg_ret ⟨rfl, trivial⟩
  · refine sg_bv (t := T.1 1 2) (ag_b hAg (j := 2) (by decide)).1 (ag_b hAg (j := 2) (by decide)).2 (fun y2 ey2 => ?_)
    have hn_y2 : Nn y2 6 := by rw [ey2]; exact hW.1.1
    refine sg_br (fun hc3 => ?_) (fun hc3 => ?_)
    · rw [hQ]
      exact sg_ret ⟨rfl, trivial⟩
    · have hg4 : ¬ (xa < 0 ∨ 6 ≤ ix xa) := (in_btw (by assumption) (by assumption) hn_y2)
      refine sg_gd hg4 ?_
      refine sg_bv (t := T.1 3 (ix xa)) (ag_r hAg (i := 3) ⟨by decide, by decide⟩ (ix_in hg4)).1 (ag_r hAg (i := 3) ⟨by decide, by decide⟩ (ix_in hg4)).2 (fun y5 ey5 => ?_)
      refine sg_br (fun hc6 => ?_) (fun hc6 => ?_)
      · rw [hQ]
        exact sg_ret ⟨rfl, trivial⟩
      · rw [hQ]
        exact sg_ret ⟨rfl, trivial⟩

set_option maxHeartbeats 4000000 in
theorem sp_X0_standingOf (B : Mem × Mem) (T : Mem) (rk : Prop) (S D : Nat → Nat → Prop)  (Z Z' : Mem) (xa : Int32)     (hAg : Ag B T rk S D Z Z') : Sg (fun a b => a = b ∧ True) (F_X0_standingOf Z xa) (F_X0_standingOf Z' xa) := by
  have hW := hAg.1
  have hb2 := hW.1.1.2
  have hb5 := hW.1.2.2.1.2
  have hb7 := hW.1.2.2.2.1.2
  unfold F_X0_standingOf
  refine sg_go (fun Q hQ => ?_)
  have Jx4 : ∀ (w1 : Int32), Sg Q (F_X0_standingOf_x4 w1) (F_X0_standingOf_x4 w1) := by
    intro w1
    unfold F_X0_standingOf_x4
    rw [hQ]
    exact sg_ret ⟨rfl, trivial⟩
  have L4 : ∀ (n4 k4 : Nat) (u2 : Int32), k4 ≤ (ix (T.1 1 2)) → (ix (T.1 1 2)) < n4 + k4 → Sg Q (F_X0_standingOf_l4 Z xa F_X0_standingOf_x4 n4 u2 (nI k4)) (F_X0_standingOf_l4 Z' xa F_X0_standingOf_x4 n4 u2 (nI k4)) := by
    intro n4
    induction n4 with
    | zero =>
      intro k4 u2 h1 h2
      exact absurd h2 (by omega)
    | succ n4 IH4 =>
      intro k4 u2 hk4 hf4 
      rw [F_X0_standingOf_l4]; try rw [F_X0_standingOf_l4]
      refine sg_bv (t := T.1 1 2) (ag_b hAg (j := 2) (by decide)).1 (ag_b hAg (j := 2) (by decide)).2 (fun y4 ey4 => ?_)
      have hn_y4 : Nn y4 6 := by rw [ey4]; exact hW.1.1
      refine sg_br (fun hc5 => ?_) (fun hc5 => ?_)
      · have hxhc5 := ct_le hn_y4.1 (Nat.le_trans hn_y4.2 (by decide)) (by omega) hc5
        rw [ey4] at hxhc5
        exact Jx4 u2
      · have hxhc5 := ct_lt hn_y4.1 (Nat.le_trans hn_y4.2 (by decide)) (by omega) hc5
        rw [ey4] at hxhc5
        have hg6 : ¬ ((nI k4) < 0 ∨ 6 ≤ ix (nI k4)) := (in_nI (by omega) (by decide))
        refine sg_gd hg6 ?_
        refine sg_bv (t := T.1 3 (ix (nI k4))) (ag_r hAg (i := 3) ⟨by decide, by decide⟩ (ix_in hg6)).1 (ag_r hAg (i := 3) ⟨by decide, by decide⟩ (ix_in hg6)).2 (fun y7 ey7 => ?_)
        refine sg_br (fun hc8 => ?_) (fun hc8 => ?_)
        · rw [nIs]
          exact IH4 (k4 + 1) u2 (by omega) (by omega) 
        · refine sg_bv (t := T.1 2 (ix (nI k4))) (ag_r hAg (i := 2) ⟨by decide, by decide⟩ (ix_in hg6)).1 (ag_r hAg (i := 2) ⟨by decide, by decide⟩ (ix_in hg6)).2 (fun y9 ey9 => ?_)
          have hn_y9 : Nn y9 3 := by rw [ey9]; exact hW.2.1 _ (ix_in hg6)
          refine sg_brn (fun hc10 => ?_) (fun hc10 => ?_)
          · rw [nIs]
            exact IH4 (k4 + 1) u2 (by omega) (by omega) 
          · rw [nIs]
            exact IH4 (k4 + 1) (u2 + (1 : Int32)) (by omega) (by omega) 
  exact L4 100 0 (0 : Int32) (by omega) (by omega) 

set_option maxHeartbeats 4000000 in
theorem sp_X0_spoiledStacks (B : Mem × Mem) (T : Mem) (rk : Prop) (S D : Nat → Nat → Prop)  (Z Z' : Mem)      (hAg : Ag B T rk S D Z Z') : Sg (fun a b => a = b ∧ True) (F_X0_spoiledStacks Z) (F_X0_spoiledStacks Z') := by
  have hW := hAg.1
  have hb2 := hW.1.1.2
  have hb5 := hW.1.2.2.1.2
  have hb7 := hW.1.2.2.2.1.2
  unfold F_X0_spoiledStacks
  refine sg_go (fun Q hQ => ?_)
  have Jx4 : ∀ (w1 : Int32), Sg Q (F_X0_spoiledStacks_x4 w1) (F_X0_spoiledStacks_x4 w1) := by
    intro w1
    unfold F_X0_spoiledStacks_x4
    rw [hQ]
    exact sg_ret ⟨rfl, trivial⟩
  have L4 : ∀ (n4 k4 : Nat) (u2 : Int32), k4 ≤ (ix (T.1 1 7)) → (ix (T.1 1 7)) < n4 + k4 → Sg Q (F_X0_spoiledStacks_l4 Z F_X0_spoiledStacks_x4 n4 u2 (nI k4)) (F_X0_spoiledStacks_l4 Z' F_X0_spoiledStacks_x4 n4 u2 (nI k4)) := by
    intro n4
    induction n4 with
    | zero =>
      intro k4 u2 h1 h2
      exact absurd h2 (by omega)
    | succ n4 IH4 =>
      intro k4 u2 hk4 hf4 
      rw [F_X0_spoiledStacks_l4]; try rw [F_X0_spoiledStacks_l4]
      refine sg_bv (t := T.1 1 7) (ag_b hAg (j := 7) (by decide)).1 (ag_b hAg (j := 7) (by decide)).2 (fun y4 ey4 => ?_)
      have hn_y4 : Nn y4 24 := by rw [ey4]; exact hW.1.2.2.2.1
      refine sg_br (fun hc5 => ?_) (fun hc5 => ?_)
      · have hxhc5 := ct_le hn_y4.1 (Nat.le_trans hn_y4.2 (by decide)) (by omega) hc5
        rw [ey4] at hxhc5
        exact Jx4 u2
      · have hxhc5 := ct_lt hn_y4.1 (Nat.le_trans hn_y4.2 (by decide)) (by omega) hc5
        rw [ey4] at hxhc5
        have hg6 : ¬ ((nI k4) < 0 ∨ 24 ≤ ix (nI k4)) := (in_nI (by omega) (by decide))
        refine sg_gd hg6 ?_
        have hk7 : ix (nI k4) < ix (T.1 1 7) := by rw [ix_nI (by omega)]; omega
        refine sg_bv (t := T.1 (39 + (ix (nI k4))) 3) (ag_s hAg hk7 (j := 3) ⟨by decide, fun h => absurd h (by decide), by decide⟩).1 (ag_s hAg hk7 (j := 3) ⟨by decide, fun h => absurd h (by decide), by decide⟩).2 (fun y8 ey8 => ?_)
        refine sg_br (fun hc9 => ?_) (fun hc9 => ?_)
        · rw [nIs]
          exact IH4 (k4 + 1) u2 (by omega) (by omega) 
        · rw [nIs]
          exact IH4 (k4 + 1) (u2 + (1 : Int32)) (by omega) (by omega) 
  exact L4 100 0 (0 : Int32) (by omega) (by omega) 

set_option maxHeartbeats 4000000 in
theorem sp_X0_allCounts (B : Mem × Mem) (T : Mem) (rk : Prop) (S D : Nat → Nat → Prop)  (Z Z' : Mem)      (hAg : Ag B T rk S D Z Z') : Sg (fun a b => a = b ∧ True) (F_X0_allCounts Z) (F_X0_allCounts Z') := by
  have hW := hAg.1
  have hb2 := hW.1.1.2
  have hb5 := hW.1.2.2.1.2
  have hb7 := hW.1.2.2.2.1.2
  unfold F_X0_allCounts
  refine sg_go (fun Q hQ => ?_)
  have Jx4 : ∀ (w1 : Int32), Sg Q (F_X0_allCounts_x4 w1) (F_X0_allCounts_x4 w1) := by
    intro w1
    unfold F_X0_allCounts_x4
    rw [hQ]
    exact sg_ret ⟨rfl, trivial⟩
  have L4 : ∀ (n4 k4 : Nat) (u2 : Int32), k4 ≤ (ix (T.1 1 7)) → (ix (T.1 1 7)) < n4 + k4 → Sg Q (F_X0_allCounts_l4 Z F_X0_allCounts_x4 n4 u2 (nI k4)) (F_X0_allCounts_l4 Z' F_X0_allCounts_x4 n4 u2 (nI k4)) := by
    intro n4
    induction n4 with
    | zero =>
      intro k4 u2 h1 h2
      exact absurd h2 (by omega)
    | succ n4 IH4 =>
      intro k4 u2 hk4 hf4 
      rw [F_X0_allCounts_l4]; try rw [F_X0_allCounts_l4]
      refine sg_bv (t := T.1 1 7) (ag_b hAg (j := 7) (by decide)).1 (ag_b hAg (j := 7) (by decide)).2 (fun y4 ey4 => ?_)
      have hn_y4 : Nn y4 24 := by rw [ey4]; exact hW.1.2.2.2.1
      refine sg_br (fun hc5 => ?_) (fun hc5 => ?_)
      · have hxhc5 := ct_le hn_y4.1 (Nat.le_trans hn_y4.2 (by decide)) (by omega) hc5
        rw [ey4] at hxhc5
        exact Jx4 u2
      · have hxhc5 := ct_lt hn_y4.1 (Nat.le_trans hn_y4.2 (by decide)) (by omega) hc5
        rw [ey4] at hxhc5
        have hg6 : ¬ ((nI k4) < 0 ∨ 24 ≤ ix (nI k4)) := (in_nI (by omega) (by decide))
        refine sg_gd hg6 ?_
        have hk7 : ix (nI k4) < ix (T.1 1 7) := by rw [ix_nI (by omega)]; omega
        refine sg_bv (t := T.1 (39 + (ix (nI k4))) 2) (ag_s hAg hk7 (j := 2) ⟨by decide, fun h => absurd h (by decide), by decide⟩).1 (ag_s hAg hk7 (j := 2) ⟨by decide, fun h => absurd h (by decide), by decide⟩).2 (fun y8 ey8 => ?_)
        have hn_y8 : Nn y8 500 := by rw [ey8]; exact wf_cnt hW hk7
        refine sg_bv (t := u2 + y8) rfl rfl (fun y9 ey9 => ?_)
        rw [nIs]
        exact IH4 (k4 + 1) y9 (by omega) (by omega) 
  exact L4 100 0 (0 : Int32) (by omega) (by omega) 

set_option maxHeartbeats 4000000 in
theorem sp_X0_countsOfListsIn (B : Mem × Mem) (T : Mem) (rk : Prop) (S D : Nat → Nat → Prop)  (Z Z' : Mem) (xa : Int32)     (hAg : Ag B T rk S D Z Z') : Sg (fun a b => a = b ∧ True) (F_X0_countsOfListsIn Z xa) (F_X0_countsOfListsIn Z' xa) := by
  have hW := hAg.1
  have hb2 := hW.1.1.2
  have hb5 := hW.1.2.2.1.2
  have hb7 := hW.1.2.2.2.1.2
  unfold F_X0_countsOfListsIn
  refine sg_go (fun Q hQ => ?_)
  have Jx4 : ∀ (w1 : Int32), Sg Q (F_X0_countsOfListsIn_x4 w1) (F_X0_countsOfListsIn_x4 w1) := by
    intro w1
    unfold F_X0_countsOfListsIn_x4
    rw [hQ]
    exact sg_ret ⟨rfl, trivial⟩
  have L4 : ∀ (n4 k4 : Nat) (u2 : Int32), k4 ≤ (ix (T.1 1 7)) → (ix (T.1 1 7)) < n4 + k4 → Sg Q (F_X0_countsOfListsIn_l4 Z xa F_X0_countsOfListsIn_x4 n4 u2 (nI k4)) (F_X0_countsOfListsIn_l4 Z' xa F_X0_countsOfListsIn_x4 n4 u2 (nI k4)) := by
    intro n4
    induction n4 with
    | zero =>
      intro k4 u2 h1 h2
      exact absurd h2 (by omega)
    | succ n4 IH4 =>
      intro k4 u2 hk4 hf4 
      rw [F_X0_countsOfListsIn_l4]; try rw [F_X0_countsOfListsIn_l4]
      refine sg_bv (t := T.1 1 7) (ag_b hAg (j := 7) (by decide)).1 (ag_b hAg (j := 7) (by decide)).2 (fun y4 ey4 => ?_)
      have hn_y4 : Nn y4 24 := by rw [ey4]; exact hW.1.2.2.2.1
      refine sg_br (fun hc5 => ?_) (fun hc5 => ?_)
      · have hxhc5 := ct_le hn_y4.1 (Nat.le_trans hn_y4.2 (by decide)) (by omega) hc5
        rw [ey4] at hxhc5
        exact Jx4 u2
      · have hxhc5 := ct_lt hn_y4.1 (Nat.le_trans hn_y4.2 (by decide)) (by omega) hc5
        rw [ey4] at hxhc5
        have hg6 : ¬ ((nI k4) < 0 ∨ 24 ≤ ix (nI k4)) := (in_nI (by omega) (by decide))
        refine sg_gd hg6 ?_
        have hk7 : ix (nI k4) < ix (T.1 1 7) := by rw [ix_nI (by omega)]; omega
        refine sg_calp (sp_X3_countsIn B T rk _ _  Z Z' (ix (nI k4)) xa hk7  hAg) (fun rr10 hp2 => ?_)
        refine sg_br (fun hc11 => ?_) (fun hc11 => ?_)
        · rw [nIs]
          exact IH4 (k4 + 1) u2 (by omega) (by omega) 
        · have hdhp2 := hp2 hc11
          have hk12 : ix (nI k4) < ix (T.1 1 7) := by rw [ix_nI (by omega)]; omega
          refine sg_bv (t := T.1 (39 + (ix (nI k4))) 5) (ag_s hAg hk12 (j := 5) ⟨by decide, fun h => absurd h (by decide), by decide⟩).1 (ag_s hAg hk12 (j := 5) ⟨by decide, fun h => absurd h (by decide), by decide⟩).2 (fun y13 ey13 => ?_)
          have hn_y13 : Nn y13 6 := by rw [ey13]; exact wf_len hW hk12
          refine sg_br (fun hc14 => ?_) (fun hc14 => ?_)
          · rw [nIs]
            exact IH4 (k4 + 1) u2 (by omega) (by omega) 
          · have hl0hc14 : 0 < ix (T.1 (39 + (ix (nI k4))) 5) := by have h9 := len_pos hn_y13 (by decide) hc14; rwa [ey13] at h9
            have hk15 : ix (nI k4) < ix (T.1 1 7) := by rw [ix_nI (by omega)]; omega
            refine sg_bv (t := T.1 (39 + (ix (nI k4))) 2) (ag_s hAg hk15 (j := 2) ⟨by decide, fun h => absurd h (by decide), by decide⟩).1 (ag_s hAg hk15 (j := 2) ⟨by decide, fun h => absurd h (by decide), by decide⟩).2 (fun y16 ey16 => ?_)
            have hn_y16 : Nn y16 500 := by rw [ey16]; exact wf_cnt hW hk15
            refine sg_bv (t := u2 + y16) rfl rfl (fun y17 ey17 => ?_)
            rw [nIs]
            exact IH4 (k4 + 1) y17 (by omega) (by omega) 
  exact L4 100 0 (0 : Int32) (by omega) (by omega) 

set_option maxHeartbeats 4000000 in
theorem sp_X0_countsOfLists (B : Mem × Mem) (T : Mem) (rk : Prop) (S D : Nat → Nat → Prop)  (Z Z' : Mem)      (hAg : Ag B T rk S D Z Z') : Sg (fun a b => a = b ∧ True) (F_X0_countsOfLists Z) (F_X0_countsOfLists Z') := by
  have hW := hAg.1
  have hb2 := hW.1.1.2
  have hb5 := hW.1.2.2.1.2
  have hb7 := hW.1.2.2.2.1.2
  unfold F_X0_countsOfLists
  refine sg_go (fun Q hQ => ?_)
  have Jx4 : ∀ (w1 : Int32), Sg Q (F_X0_countsOfLists_x4 w1) (F_X0_countsOfLists_x4 w1) := by
    intro w1
    unfold F_X0_countsOfLists_x4
    rw [hQ]
    exact sg_ret ⟨rfl, trivial⟩
  have L4 : ∀ (n4 k4 : Nat) (u2 : Int32), k4 ≤ (ix (T.1 1 5)) → (ix (T.1 1 5)) < n4 + k4 → Sg Q (F_X0_countsOfLists_l4 Z F_X0_countsOfLists_x4 n4 u2 (nI k4)) (F_X0_countsOfLists_l4 Z' F_X0_countsOfLists_x4 n4 u2 (nI k4)) := by
    intro n4
    induction n4 with
    | zero =>
      intro k4 u2 h1 h2
      exact absurd h2 (by omega)
    | succ n4 IH4 =>
      intro k4 u2 hk4 hf4 
      rw [F_X0_countsOfLists_l4]; try rw [F_X0_countsOfLists_l4]
      refine sg_bv (t := T.1 1 5) (ag_b hAg (j := 5) (by decide)).1 (ag_b hAg (j := 5) (by decide)).2 (fun y4 ey4 => ?_)
      have hn_y4 : Nn y4 4 := by rw [ey4]; exact hW.1.2.2.1
      refine sg_br (fun hc5 => ?_) (fun hc5 => ?_)
      · have hxhc5 := ct_le hn_y4.1 (Nat.le_trans hn_y4.2 (by decide)) (by omega) hc5
        rw [ey4] at hxhc5
        exact Jx4 u2
      · have hxhc5 := ct_lt hn_y4.1 (Nat.le_trans hn_y4.2 (by decide)) (by omega) hc5
        rw [ey4] at hxhc5
        refine sg_calp (sp_X0_countsOfListsIn B T rk _ _  Z Z' (nI k4)   hAg) (fun rr8 hp2 => ?_)
        refine sg_bv (t := u2 + rr8) rfl rfl (fun y9 ey9 => ?_)
        rw [nIs]
        exact IH4 (k4 + 1) y9 (by omega) (by omega) 
  exact L4 100 0 (0 : Int32) (by omega) (by omega) 

set_option maxHeartbeats 4000000 in
theorem sp_X0_figure (B : Mem × Mem) (T : Mem) (rk : Prop) (S D : Nat → Nat → Prop)  (Z Z' : Mem) (xa : Int32)     (hAg : Ag B T rk S D Z Z') : Sg (fun a b => a = b ∧ True) (F_X0_figure Z xa) (F_X0_figure Z' xa) := by
  have hW := hAg.1
  have hb2 := hW.1.1.2
  have hb5 := hW.1.2.2.1.2
  have hb7 := hW.1.2.2.2.1.2
  unfold F_X0_figure
  refine sg_go (fun Q hQ => ?_)
  refine sg_br (fun hq1 => ?_) (fun hq1 => ?_)
  · refine sg_bv (t := T.1 1 2) (ag_b hAg (j := 2) (by decide)).1 (ag_b hAg (j := 2) (by decide)).2 (fun y2 ey2 => ?_)
    have hn_y2 : Nn y2 6 := by rw [ey2]; exact hW.1.1
    rw [hQ]
    exact sg_ret ⟨rfl, trivial⟩
  refine sg_br (fun hq3 => ?_) (fun hq3 => ?_)
  · refine sg_bv (t := T.1 1 3) (ag_b hAg (j := 3) (by decide)).1 (ag_b hAg (j := 3) (by decide)).2 (fun y4 ey4 => ?_)
    have hn_y4 : Nn y4 6 := by rw [ey4]; exact hW.1.2.1
    rw [hQ]
    exact sg_ret ⟨rfl, trivial⟩
  refine sg_br (fun hq5 => ?_) (fun hq5 => ?_)
  · refine sg_bv (t := T.1 1 5) (ag_b hAg (j := 5) (by decide)).1 (ag_b hAg (j := 5) (by decide)).2 (fun y6 ey6 => ?_)
    have hn_y6 : Nn y6 4 := by rw [ey6]; exact hW.1.2.2.1
    rw [hQ]
    exact sg_ret ⟨rfl, trivial⟩
  refine sg_br (fun hq7 => ?_) (fun hq7 => ?_)
  · refine sg_bv (t := T.1 1 7) (ag_b hAg (j := 7) (by decide)).1 (ag_b hAg (j := 7) (by decide)).2 (fun y8 ey8 => ?_)
    have hn_y8 : Nn y8 24 := by rw [ey8]; exact hW.1.2.2.2.1
    rw [hQ]
    exact sg_ret ⟨rfl, trivial⟩
  refine sg_br (fun hq9 => ?_) (fun hq9 => ?_)
  · refine sg_calp (sp_X0_spoiledStacks B T rk _ _  Z Z'    hAg) (fun rr12 hp4 => ?_)
    rw [hQ]
    exact sg_ret ⟨rfl, trivial⟩
  refine sg_br (fun hq13 => ?_) (fun hq13 => ?_)
  · refine sg_calp (sp_X0_allCounts B T rk _ _  Z Z'    hAg) (fun rr16 hp5 => ?_)
    rw [hQ]
    exact sg_ret ⟨rfl, trivial⟩
  refine sg_br (fun hq17 => ?_) (fun hq17 => ?_)
  · refine sg_calp (sp_X0_countsOfLists B T rk _ _  Z Z'    hAg) (fun rr20 hp6 => ?_)
    rw [hQ]
    exact sg_ret ⟨rfl, trivial⟩
  refine sg_br (fun hq21 => ?_) (fun hq21 => ?_)
  · refine sg_bv (t := T.1 1 8) (ag_b hAg (j := 8) (by decide)).1 (ag_b hAg (j := 8) (by decide)).2 (fun y22 ey22 => ?_)
    have hn_y22 : Nn y22 20 := by rw [ey22]; exact hW.1.2.2.2.2
    rw [hQ]
    exact sg_ret ⟨rfl, trivial⟩
  refine sg_br (fun hq23 => ?_) (fun hq23 => ?_)
  · refine sg_bv (t := T.1 1 9) (ag_b hAg (j := 9) (by decide)).1 (ag_b hAg (j := 9) (by decide)).2 (fun y24 ey24 => ?_)
    refine sg_br (fun hc25 => ?_) (fun hc25 => ?_)
    · rw [hQ]
      exact sg_ret ⟨rfl, trivial⟩
    · rw [hQ]
      exact sg_ret ⟨rfl, trivial⟩
  refine sg_bv (t := T.1 1 10) (ag_b hAg (j := 10) (by decide)).1 (ag_b hAg (j := 10) (by decide)).2 (fun y26 ey26 => ?_)
  rw [hQ]
  exact sg_ret ⟨rfl, trivial⟩

set_option maxHeartbeats 4000000 in
theorem sp_X2_countFirsts (B : Mem × Mem) (T : Mem) (rk : Prop) (S D : Nat → Nat → Prop)  (Z Z' : Mem) (xa : Int32)     (hAg : Ag B T rk S D Z Z') : Sg (Qi (fun a b (r : Unit) => Ag B T rk (ext S 7 6) D a b ∧ True)) (F_X2_countFirsts Z xa) (F_X2_countFirsts Z' xa) := by
  have hW := hAg.1
  have hb2 := hW.1.1.2
  have hb5 := hW.1.2.2.1.2
  have hb7 := hW.1.2.2.2.1.2
  unfold F_X2_countFirsts
  refine sg_go (fun Q hQ => ?_)
  have Jx2 : ∀  (Z1 Z1' : Mem), Ag B T rk (ext S 7 6) D Z1 Z1' → Sg Q ((F_X2_countFirsts_x2 xa) Z1) ((F_X2_countFirsts_x2 xa) Z1') := by
    intro Z1 Z1' hAg
    unfold F_X2_countFirsts_x2
    have Jx23 : ∀  (Z2 Z2' : Mem), Ag B T rk (ext S 7 6) D Z2 Z2' → Sg Q (F_X2_countFirsts_x23 Z2) (F_X2_countFirsts_x23 Z2') := by
      intro Z2 Z2' hAg
      unfold F_X2_countFirsts_x23
      rw [hQ]
      exact sg_retm ⟨hAg, trivial⟩
    have L23 : ∀ (n23 k23 : Nat)  (Z4 Z4' : Mem), k23 ≤ (ix (T.1 1 7)) → (ix (T.1 1 7)) < n23 + k23 → Ag B T rk (ext S 7 6) D Z4 Z4' → Sg Q (F_X2_countFirsts_l23 xa F_X2_countFirsts_x23 n23 Z4 (nI k23)) (F_X2_countFirsts_l23 xa F_X2_countFirsts_x23 n23 Z4' (nI k23)) := by
      intro n23
      induction n23 with
      | zero =>
        intro k23 Z4 Z4' h1 h2
        exact absurd h2 (by omega)
      | succ n23 IH23 =>
        intro k23 Z4 Z4' hk23 hf23 hAg
        rw [F_X2_countFirsts_l23]; try rw [F_X2_countFirsts_l23]
        refine sg_bv (t := T.1 1 7) (ag_b hAg (j := 7) (by decide)).1 (ag_b hAg (j := 7) (by decide)).2 (fun y5 ey5 => ?_)
        have hn_y5 : Nn y5 24 := by rw [ey5]; exact hW.1.2.2.2.1
        refine sg_br (fun hc6 => ?_) (fun hc6 => ?_)
        · have hxhc6 := ct_le hn_y5.1 (Nat.le_trans hn_y5.2 (by decide)) (by omega) hc6
          rw [ey5] at hxhc6
          exact Jx23 Z4 Z4' hAg
        · have hxhc6 := ct_lt hn_y5.1 (Nat.le_trans hn_y5.2 (by decide)) (by omega) hc6
          rw [ey5] at hxhc6
          have hg7 : ¬ ((nI k23) < 0 ∨ 24 ≤ ix (nI k23)) := (in_nI (by omega) (by decide))
          refine sg_gd hg7 ?_
          have hk8 : ix (nI k23) < ix (T.1 1 7) := by rw [ix_nI (by omega)]; omega
          refine sg_calp (sp_X3_countsIn B T rk _ _  Z4 Z4' (ix (nI k23)) xa hk8  hAg) (fun rr11 hp2 => ?_)
          refine sg_br (fun hc12 => ?_) (fun hc12 => ?_)
          · rw [nIs]
            exact IH23 (k23 + 1) Z4 Z4' (by omega) (by omega) hAg
          · have hdhp2 := hp2 hc12
            refine sg_bv (t := T.1 (39 + (ix (nI k23))) 5) (ag_s hAg hk8 (j := 5) ⟨by decide, fun h => absurd h (by decide), by decide⟩).1 (ag_s hAg hk8 (j := 5) ⟨by decide, fun h => absurd h (by decide), by decide⟩).2 (fun y13 ey13 => ?_)
            have hn_y13 : Nn y13 6 := by rw [ey13]; exact wf_len hW hk8
            refine sg_br (fun hc14 => ?_) (fun hc14 => ?_)
            · rw [nIs]
              exact IH23 (k23 + 1) Z4 Z4' (by omega) (by omega) hAg
            · have hl0hc14 : 0 < ix (T.1 (39 + (ix (nI k23))) 5) := by have h9 := len_pos hn_y13 (by decide) hc14; rwa [ey13] at h9
              refine sg_bv (t := T.1 (64 + (ix (nI k23))) (ix (0 : Int32))) (ag_l hAg hk8 (j := (ix (0 : Int32))) hl0hc14).1 (ag_l hAg hk8 (j := (ix (0 : Int32))) hl0hc14).2 (fun y15 ey15 => ?_)
              have hn_y15 : Nn y15 5 := by rw [ey15]; exact wf_l hW hk8 (j := (ix (0 : Int32))) (by decide)
              have hg16 : ¬ (y15 < 0 ∨ 6 ≤ ix y15) := (in_Nn hn_y15 (by decide) (by decide))
              refine sg_gd hg16 ?_
              refine sg_bv (t := Z4.1 7 (ix y15)) rfl (hAg.2.2.2.1 _ _ (ext_in (ix_in hg16))).symm (fun y17 ey17 => ?_)
              refine sg_bv (t := T.1 (39 + (ix (nI k23))) 2) (ag_s hAg hk8 (j := 2) ⟨by decide, fun h => absurd h (by decide), by decide⟩).1 (ag_s hAg hk8 (j := 2) ⟨by decide, fun h => absurd h (by decide), by decide⟩).2 (fun y18 ey18 => ?_)
              have hn_y18 : Nn y18 500 := by rw [ey18]; exact wf_cnt hW hk8
              refine sg_bv (t := y17 + y18) rfl rfl (fun y19 ey19 => ?_)
              refine sg_bz (fun Z20 Z20' eZ20 eZ20' => ?_)
              have hAg : Ag B T rk (ext S 7 6) D Z20 Z20' := by rw [eZ20, eZ20']; exact ag_si hAg ⟨by decide, by decide⟩ (st_id)
              rw [nIs]
              exact IH23 (k23 + 1) Z20 Z20' (by omega) (by omega) hAg
    exact L23 100 0 Z1 Z1' (by omega) (by omega) hAg
  have L2 : ∀ (n2 k2 : Nat)  (Z22 Z22' : Mem), k2 ≤ 6 → 6 < n2 + k2 → Ag B T rk (ext S 7 k2) D Z22 Z22' → Sg Q (F_X2_countFirsts_l2 (F_X2_countFirsts_x2 xa) n2 Z22 (nI k2)) (F_X2_countFirsts_l2 (F_X2_countFirsts_x2 xa) n2 Z22' (nI k2)) := by
    intro n2
    induction n2 with
    | zero =>
      intro k2 Z22 Z22' h1 h2
      exact absurd h2 (by omega)
    | succ n2 IH2 =>
      intro k2 Z22 Z22' hk2 hf2 hAg
      rw [F_X2_countFirsts_l2]; try rw [F_X2_countFirsts_l2]
      refine sg_br (fun hc23 => ?_) (fun hc23 => ?_)
      · have hxhc23 := ct_le (y := (6 : Int32)) (B := 6) rfl (by decide) (by omega) hc23
        obtain rfl : k2 = 6 := by omega
        exact Jx2 Z22 Z22' hAg
      · have hxhc23 := ct_lt (y := (6 : Int32)) (B := 6) rfl (by decide) (by omega) hc23
        have hg24 : ¬ ((nI k2) < 0 ∨ 6 ≤ ix (nI k2)) := (in_nI (by omega) (by decide))
        refine sg_gd hg24 ?_
        refine sg_bz (fun Z25 Z25' eZ25 eZ25' => ?_)
        have hAg : Ag B T rk (ext S 7 (k2 + 1)) D Z25 Z25' := by rw [eZ25, eZ25']; exact ag_si hAg ⟨by decide, by decide⟩ (st_ext (by omega))
        rw [nIs]
        exact IH2 (k2 + 1) Z25 Z25' (by omega) (by omega) hAg
  exact L2 100 0 Z Z' (by omega) (by omega) (ag_mono hAg (m_0 (m_id)) (m_id))

set_option maxHeartbeats 4000000 in
theorem sp_X2_mostFirsts (B : Mem × Mem) (T : Mem) (rk : Prop) (S D : Nat → Nat → Prop)  (Z Z' : Mem)   (hS7 : ∀ j, j < 6 → S 7 j)   (hAg : Ag B T rk S D Z Z') : Sg (fun a b => a = b ∧ Op a 6) (F_X2_mostFirsts Z) (F_X2_mostFirsts Z') := by
  have hW := hAg.1
  have hb2 := hW.1.1.2
  have hb5 := hW.1.2.2.1.2
  have hb7 := hW.1.2.2.2.1.2
  unfold F_X2_mostFirsts
  refine sg_go (fun Q hQ => ?_)
  have Jx4 : ∀ (w1 : Int32), Op w1 6 → Sg Q (F_X2_mostFirsts_x4 w1) (F_X2_mostFirsts_x4 w1) := by
    intro w1 hq_w1
    unfold F_X2_mostFirsts_x4
    rw [hQ]
    exact sg_ret ⟨rfl, hq_w1⟩
  have L4 : ∀ (n4 k4 : Nat) (u2 : Int32), k4 ≤ (ix (T.1 1 2)) → (ix (T.1 1 2)) < n4 + k4 → Op u2 6 → Sg Q (F_X2_mostFirsts_l4 Z F_X2_mostFirsts_x4 n4 u2 (nI k4)) (F_X2_mostFirsts_l4 Z' F_X2_mostFirsts_x4 n4 u2 (nI k4)) := by
    intro n4
    induction n4 with
    | zero =>
      intro k4 u2 h1 h2
      exact absurd h2 (by omega)
    | succ n4 IH4 =>
      intro k4 u2 hk4 hf4 hq_u2
      rw [F_X2_mostFirsts_l4]; try rw [F_X2_mostFirsts_l4]
      refine sg_bv (t := T.1 1 2) (ag_b hAg (j := 2) (by decide)).1 (ag_b hAg (j := 2) (by decide)).2 (fun y4 ey4 => ?_)
      have hn_y4 : Nn y4 6 := by rw [ey4]; exact hW.1.1
      refine sg_br (fun hc5 => ?_) (fun hc5 => ?_)
      · have hxhc5 := ct_le hn_y4.1 (Nat.le_trans hn_y4.2 (by decide)) (by omega) hc5
        rw [ey4] at hxhc5
        exact Jx4 u2 hq_u2
      · have hxhc5 := ct_lt hn_y4.1 (Nat.le_trans hn_y4.2 (by decide)) (by omega) hc5
        rw [ey4] at hxhc5
        have hg6 : ¬ ((nI k4) < 0 ∨ 6 ≤ ix (nI k4)) := (in_nI (by omega) (by decide))
        refine sg_gd hg6 ?_
        refine sg_bv (t := T.1 3 (ix (nI k4))) (ag_r hAg (i := 3) ⟨by decide, by decide⟩ (ix_in hg6)).1 (ag_r hAg (i := 3) ⟨by decide, by decide⟩ (ix_in hg6)).2 (fun y7 ey7 => ?_)
        refine sg_br (fun hc8 => ?_) (fun hc8 => ?_)
        · rw [nIs]
          exact IH4 (k4 + 1) u2 (by omega) (by omega) hq_u2
        · refine sg_br (fun hc9 => ?_) (fun hc9 => ?_)
          · rw [nIs]
            exact IH4 (k4 + 1) (nI k4) (by omega) (by omega) (Or.inr (in_nI (by omega) (by decide)))
          · refine sg_bv (t := Z.1 7 (ix (nI k4))) rfl (hAg.2.2.2.1 _ _ (hS7 _ (ix_in hg6))).symm (fun y10 ey10 => ?_)
            have hg11 : ¬ (u2 < 0 ∨ 6 ≤ ix u2) := (in_Op hq_u2 hc9)
            refine sg_gd hg11 ?_
            refine sg_bv (t := Z.1 7 (ix u2)) rfl (hAg.2.2.2.1 _ _ (hS7 _ (ix_in hg11))).symm (fun y12 ey12 => ?_)
            refine sg_br (fun hc13 => ?_) (fun hc13 => ?_)
            · rw [nIs]
              exact IH4 (k4 + 1) u2 (by omega) (by omega) hq_u2
            · rw [nIs]
              exact IH4 (k4 + 1) (nI k4) (by omega) (by omega) (Or.inr (in_nI (by omega) (by decide)))
  exact L4 100 0 ((-1) : Int32) (by omega) (by omega) (Or.inl rfl)

set_option maxHeartbeats 4000000 in
theorem sp_X2_addPoints (B : Mem × Mem) (T : Mem) (rk : Prop) (S D : Nat → Nat → Prop) (m : Nat) (hm : m ≤ 30) (Z Z' : Mem) (ka : Nat) (hka : ka < ix (T.1 1 7)) (hD8 : ∀ j, j < 6 → D 8 j)  (hx0 : Pt m Z) (hAg : Ag B T rk S D Z Z') : Sg (Qi (fun a b (r : Unit) => Ag B T rk S D a b ∧ Pt (m + 1) a)) (F_X2_addPoints Z ka) (F_X2_addPoints Z' ka) := by
  have hW := hAg.1
  have hb2 := hW.1.1.2
  have hb5 := hW.1.2.2.1.2
  have hb7 := hW.1.2.2.2.1.2
  unfold F_X2_addPoints
  refine sg_go (fun Q hQ => ?_)
  refine sg_bv (t := T.1 1 3) (ag_b hAg (j := 3) (by decide)).1 (ag_b hAg (j := 3) (by decide)).2 (fun y1 ey1 => ?_)
  have hn_y1 : Nn y1 6 := by rw [ey1]; exact hW.1.2.1
  refine sg_bv (t := T.1 (39 + ka) 5) (ag_s hAg hka (j := 5) ⟨by decide, fun h => absurd h (by decide), by decide⟩).1 (ag_s hAg hka (j := 5) ⟨by decide, fun h => absurd h (by decide), by decide⟩).2 (fun y2 ey2 => ?_)
  have hn_y2 : Nn y2 6 := by rw [ey2]; exact wf_len hW hka
  refine sg_bv (t := y1 - y2) rfl rfl (fun y3 ey3 => ?_)
  have Jx13 : ∀  (Z4 Z4' : Mem), Ag B T rk S D Z4 Z4' → (∃ k9, PtC m k9 Z4) → Sg Q (F_X2_addPoints_x13 Z4) (F_X2_addPoints_x13 Z4') := by
    intro Z4 Z4' hAg hX
    unfold F_X2_addPoints_x13
    rw [hQ]
    exact sg_retm ⟨hAg, (pt_6 hX.choose_spec)⟩
  have L13 : ∀ (n13 k13 : Nat)  (Z6 Z6' : Mem), k13 ≤ (ix (T.1 1 2)) → (ix (T.1 1 2)) < n13 + k13 → Ag B T rk S D Z6 Z6' → PtC m k13 Z6 → Sg Q (F_X2_addPoints_l13 ka y3 F_X2_addPoints_x13 n13 Z6 (nI k13)) (F_X2_addPoints_l13 ka y3 F_X2_addPoints_x13 n13 Z6' (nI k13)) := by
    intro n13
    induction n13 with
    | zero =>
      intro k13 Z6 Z6' h1 h2
      exact absurd h2 (by omega)
    | succ n13 IH13 =>
      intro k13 Z6 Z6' hk13 hf13 hAg hX
      rw [F_X2_addPoints_l13]; try rw [F_X2_addPoints_l13]
      refine sg_bv (t := T.1 1 2) (ag_b hAg (j := 2) (by decide)).1 (ag_b hAg (j := 2) (by decide)).2 (fun y7 ey7 => ?_)
      have hn_y7 : Nn y7 6 := by rw [ey7]; exact hW.1.1
      refine sg_br (fun hc8 => ?_) (fun hc8 => ?_)
      · have hxhc8 := ct_le hn_y7.1 (Nat.le_trans hn_y7.2 (by decide)) (by omega) hc8
        rw [ey7] at hxhc8
        exact Jx13 Z6 Z6' hAg ⟨_, hX⟩
      · have hxhc8 := ct_lt hn_y7.1 (Nat.le_trans hn_y7.2 (by decide)) (by omega) hc8
        rw [ey7] at hxhc8
        refine sg_calp (sp_X3_placeOf B T rk _ _  Z6 Z6' ka (nI k13) hka  hAg) (fun rr11 hp2 => ?_)
        have hg12 : ¬ ((nI k13) < 0 ∨ 6 ≤ ix (nI k13)) := (in_nI (by omega) (by decide))
        refine sg_gd hg12 ?_
        refine sg_bv (t := T.1 3 (ix (nI k13))) (ag_r hAg (i := 3) ⟨by decide, by decide⟩ (ix_in hg12)).1 (ag_r hAg (i := 3) ⟨by decide, by decide⟩ (ix_in hg12)).2 (fun y13 ey13 => ?_)
        refine sg_brn (fun hc14 => ?_) (fun hc14 => ?_)
        · refine sg_bv (t := T.1 (39 + ka) 5) (ag_s hAg hka (j := 5) ⟨by decide, fun h => absurd h (by decide), by decide⟩).1 (ag_s hAg hka (j := 5) ⟨by decide, fun h => absurd h (by decide), by decide⟩).2 (fun y15 ey15 => ?_)
          have hn_y15 : Nn y15 6 := by rw [ey15]; exact wf_len hW hka
          refine sg_br (fun hc16 => ?_) (fun hc16 => ?_)
          · refine sg_bv (t := Z6.2 8 (ix (nI k13))) rfl (hAg.2.2.2.2 _ _ (hD8 _ (ix_in hg12))).symm (fun y17 ey17 => ?_)
            refine sg_bv (t := T.1 (39 + ka) 2) (ag_s hAg hka (j := 2) ⟨by decide, fun h => absurd h (by decide), by decide⟩).1 (ag_s hAg hka (j := 2) ⟨by decide, fun h => absurd h (by decide), by decide⟩).2 (fun y18 ey18 => ?_)
            have hn_y18 : Nn y18 500 := by rw [ey18]; exact wf_cnt hW hka
            refine sg_bv (t := y3 - (1 : Int32)) rfl rfl (fun y19 ey19 => ?_)
            refine sg_bv (t := y18 * y19) rfl rfl (fun y20 ey20 => ?_)
            refine sg_bv (t := FP.i2d y20) rfl rfl (fun y21 ey21 => ?_)
            have hg22 : (FP.ddiv y21 (4611686018427387904 : UInt64)) &&& 0x7fffffffffffffff ≤ 0x7ff0000000000000 := mg_g (mg_div (K := 1056) (L := 1024) (by rw [ey21]; exact mg_i2d _) (by decide +kernel) (by decide) (by decide)) (by decide)
            refine sg_gd hg22 ?_
            refine sg_bv (t := FP.ddiv y21 (4611686018427387904 : UInt64)) rfl rfl (fun y23 ey23 => ?_)
            have hg24 : (FP.dadd y17 y23) &&& 0x7fffffffffffffff ≤ 0x7ff0000000000000 := mg_g (mg_add (K := 1060 + 2 * m) (by rw [ey17]; exact pt_at hX (by omega)) (by rw [ey23, ey21]; exact mg_mono (mg_div (K := 1056) (L := 1024) (mg_i2d _) (by decide +kernel) (by decide) (by decide)) (by omega)) (by omega)) (by omega)
            refine sg_gd hg24 ?_
            refine sg_bv (t := FP.dadd y17 y23) rfl rfl (fun y25 ey25 => ?_)
            refine sg_bz (fun Z26 Z26' eZ26 eZ26' => ?_)
            have hAg : Ag B T rk S D Z26 Z26' := by rw [eZ26, eZ26']; exact ag_sd hAg (Or.inl (by decide)) (st_id)
            have hX1 : PtC m (k13 + 1) Z26 := by rw [eZ26]; exact pt_sd hX (by omega) (by rw [ey25]; exact mg_add (K := 1060 + 2 * m) (by rw [ey17]; exact pt_at hX (by omega)) (by rw [ey23, ey21]; exact mg_mono (mg_div (K := 1056) (L := 1024) (mg_i2d _) (by decide +kernel) (by decide) (by decide)) (by omega)) (by omega))
            rw [nIs]
            exact IH13 (k13 + 1) Z26 Z26' (by omega) (by omega) hAg (by first | exact hX1 | exact pt_up hX)
          · refine sg_bv (t := Z6.2 8 (ix (nI k13))) rfl (hAg.2.2.2.2 _ _ (hD8 _ (ix_in hg12))).symm (fun y27 ey27 => ?_)
            refine sg_bv (t := T.1 (39 + ka) 2) (ag_s hAg hka (j := 2) ⟨by decide, fun h => absurd h (by decide), by decide⟩).1 (ag_s hAg hka (j := 2) ⟨by decide, fun h => absurd h (by decide), by decide⟩).2 (fun y28 ey28 => ?_)
            have hn_y28 : Nn y28 500 := by rw [ey28]; exact wf_cnt hW hka
            refine sg_bv (t := T.1 1 3) (ag_b hAg (j := 3) (by decide)).1 (ag_b hAg (j := 3) (by decide)).2 (fun y29 ey29 => ?_)
            have hn_y29 : Nn y29 6 := by rw [ey29]; exact hW.1.2.1
            refine sg_bv (t := y29 - (1 : Int32)) rfl rfl (fun y30 ey30 => ?_)
            refine sg_bv (t := y30 - rr11) rfl rfl (fun y31 ey31 => ?_)
            refine sg_bv (t := y28 * y31) rfl rfl (fun y32 ey32 => ?_)
            refine sg_bv (t := FP.i2d y32) rfl rfl (fun y33 ey33 => ?_)
            have hg34 : (FP.dadd y27 y33) &&& 0x7fffffffffffffff ≤ 0x7ff0000000000000 := mg_g (mg_add (K := 1060 + 2 * m) (by rw [ey27]; exact pt_at hX (by omega)) (by rw [ey33]; exact mg_mono (mg_i2d _) (by omega)) (by omega)) (by omega)
            refine sg_gd hg34 ?_
            refine sg_bv (t := FP.dadd y27 y33) rfl rfl (fun y35 ey35 => ?_)
            refine sg_bz (fun Z36 Z36' eZ36 eZ36' => ?_)
            have hAg : Ag B T rk S D Z36 Z36' := by rw [eZ36, eZ36']; exact ag_sd hAg (Or.inl (by decide)) (st_id)
            have hX1 : PtC m (k13 + 1) Z36 := by rw [eZ36]; exact pt_sd hX (by omega) (by rw [ey35]; exact mg_add (K := 1060 + 2 * m) (by rw [ey27]; exact pt_at hX (by omega)) (by rw [ey33]; exact mg_mono (mg_i2d _) (by omega)) (by omega))
            rw [nIs]
            exact IH13 (k13 + 1) Z36 Z36' (by omega) (by omega) hAg (by first | exact hX1 | exact pt_up hX)
        · rw [nIs]
          exact IH13 (k13 + 1) Z6 Z6' (by omega) (by omega) hAg (by first | exact hX1 | exact pt_up hX)
  exact L13 100 0 Z Z' (by omega) (by omega) hAg (pt_0 hx0)

set_option maxHeartbeats 4000000 in
theorem sp_X2_countPoints (B : Mem × Mem) (T : Mem) (rk : Prop) (S D : Nat → Nat → Prop)  (Z Z' : Mem) (xa : Int32)     (hAg : Ag B T rk S D Z Z') : Sg (Qi (fun a b (r : Unit) => Ag B T rk S (ext D 8 6) a b ∧ Pt 24 a)) (F_X2_countPoints Z xa) (F_X2_countPoints Z' xa) := by
  have hW := hAg.1
  have hb2 := hW.1.1.2
  have hb5 := hW.1.2.2.1.2
  have hb7 := hW.1.2.2.2.1.2
  unfold F_X2_countPoints
  refine sg_go (fun Q hQ => ?_)
  have Jx2 : ∀  (Z1 Z1' : Mem), Ag B T rk S (ext D 8 6) Z1 Z1' → Pt 0 Z1 → Sg Q ((F_X2_countPoints_x2 xa) Z1) ((F_X2_countPoints_x2 xa) Z1') := by
    intro Z1 Z1' hAg hX
    unfold F_X2_countPoints_x2
    have Jx37 : ∀  (Z2 Z2' : Mem), Ag B T rk S (ext D 8 6) Z2 Z2' → Pt 24 Z2 → Sg Q (F_X2_countPoints_x37 Z2) (F_X2_countPoints_x37 Z2') := by
      intro Z2 Z2' hAg hX
      unfold F_X2_countPoints_x37
      rw [hQ]
      exact sg_retm ⟨hAg, hX⟩
    have L37 : ∀ (n37 k37 : Nat)  (Z4 Z4' : Mem), k37 ≤ (ix (T.1 1 7)) → (ix (T.1 1 7)) < n37 + k37 → Ag B T rk S (ext D 8 6) Z4 Z4' → Pt k37 Z4 → Sg Q (F_X2_countPoints_l37 xa F_X2_countPoints_x37 n37 Z4 (nI k37)) (F_X2_countPoints_l37 xa F_X2_countPoints_x37 n37 Z4' (nI k37)) := by
      intro n37
      induction n37 with
      | zero =>
        intro k37 Z4 Z4' h1 h2
        exact absurd h2 (by omega)
      | succ n37 IH37 =>
        intro k37 Z4 Z4' hk37 hf37 hAg hX
        rw [F_X2_countPoints_l37]; try rw [F_X2_countPoints_l37]
        refine sg_bv (t := T.1 1 7) (ag_b hAg (j := 7) (by decide)).1 (ag_b hAg (j := 7) (by decide)).2 (fun y5 ey5 => ?_)
        have hn_y5 : Nn y5 24 := by rw [ey5]; exact hW.1.2.2.2.1
        refine sg_br (fun hc6 => ?_) (fun hc6 => ?_)
        · have hxhc6 := ct_le hn_y5.1 (Nat.le_trans hn_y5.2 (by decide)) (by omega) hc6
          rw [ey5] at hxhc6
          exact Jx37 Z4 Z4' hAg (pt_mono hX (by omega))
        · have hxhc6 := ct_lt hn_y5.1 (Nat.le_trans hn_y5.2 (by decide)) (by omega) hc6
          rw [ey5] at hxhc6
          have hg7 : ¬ ((nI k37) < 0 ∨ 24 ≤ ix (nI k37)) := (in_nI (by omega) (by decide))
          refine sg_gd hg7 ?_
          have hk8 : ix (nI k37) < ix (T.1 1 7) := by rw [ix_nI (by omega)]; omega
          refine sg_calp (sp_X3_countsIn B T rk _ _  Z4 Z4' (ix (nI k37)) xa hk8  hAg) (fun rr11 hp4 => ?_)
          refine sg_br (fun hc12 => ?_) (fun hc12 => ?_)
          · rw [nIs]
            exact IH37 (k37 + 1) Z4 Z4' (by omega) (by omega) hAg (by first | exact hX1 | exact pt_mono hX (by omega))
          · have hdhp4 := hp4 hc12
            refine sg_cal (sp_X2_addPoints B T rk _ _ k37 (by omega) Z4 Z4' (ix (nI k37)) hk8 (fun j9 hj9 => (ext_in hj9)) hX hAg) (fun Z14 Z14' _ hp5 => ?_)
            have hAg := hp5.1
            have hX1 := hp5.2
            rw [nIs]
            exact IH37 (k37 + 1) Z14 Z14' (by omega) (by omega) hAg (by first | exact hX1 | exact pt_mono hX (by omega))
    exact L37 100 0 Z1 Z1' (by omega) (by omega) hAg hX
  have L2 : ∀ (n2 k2 : Nat)  (Z17 Z17' : Mem), k2 ≤ 6 → 6 < n2 + k2 → Ag B T rk S (ext D 8 k2) Z17 Z17' → Rd 8 k2 1060 Z17 → Sg Q (F_X2_countPoints_l2 (F_X2_countPoints_x2 xa) n2 Z17 (nI k2)) (F_X2_countPoints_l2 (F_X2_countPoints_x2 xa) n2 Z17' (nI k2)) := by
    intro n2
    induction n2 with
    | zero =>
      intro k2 Z17 Z17' h1 h2
      exact absurd h2 (by omega)
    | succ n2 IH2 =>
      intro k2 Z17 Z17' hk2 hf2 hAg hX
      rw [F_X2_countPoints_l2]; try rw [F_X2_countPoints_l2]
      refine sg_br (fun hc18 => ?_) (fun hc18 => ?_)
      · have hxhc18 := ct_le (y := (6 : Int32)) (B := 6) rfl (by decide) (by omega) hc18
        obtain rfl : k2 = 6 := by omega
        exact Jx2 Z17 Z17' hAg hX
      · have hxhc18 := ct_lt (y := (6 : Int32)) (B := 6) rfl (by decide) (by omega) hc18
        refine sg_calp (sp_X0_isStanding B T rk _ _  Z17 Z17' (nI k2)   hAg) (fun rr21 hp6 => ?_)
        have Jj28 : ∀ (v22 : UInt64), (Mg v22 1060) → Sg Q ((F_X2_countPoints_j28 Z17 (nI k2) (F_X2_countPoints_l2 (F_X2_countPoints_x2 xa) n2)) v22) ((F_X2_countPoints_j28 Z17' (nI k2) (F_X2_countPoints_l2 (F_X2_countPoints_x2 xa) n2)) v22) := by
          intro v22 hq_v22
          unfold F_X2_countPoints_j28
          have hg23 : ¬ ((nI k2) < 0 ∨ 6 ≤ ix (nI k2)) := (in_nI (by omega) (by decide))
          refine sg_gd hg23 ?_
          refine sg_bz (fun Z24 Z24' eZ24 eZ24' => ?_)
          have hAg : Ag B T rk S (ext D 8 (k2 + 1)) Z24 Z24' := by rw [eZ24, eZ24']; exact ag_sd hAg (Or.inl (by decide)) (st_ext (by omega))
          have hX1 : Rd 8 (k2 + 1) 1060 Z24 := by rw [eZ24]; exact rd_sd hX (by omega) hq_v22
          rw [nIs]
          exact IH2 (k2 + 1) Z24 Z24' (by omega) (by omega) hAg hX1
        refine sg_br (fun hc25 => ?_) (fun hc25 => ?_)
        · exact Jj28 (13830554455654793216 : UInt64) (mg_c (by decide +kernel))
        · exact Jj28 FP.dconst0 (mg_c (by decide +kernel))
  exact L2 100 0 Z Z' (by omega) (by omega) (ag_mono hAg (m_id) (m_0 (m_id))) rd_0

set_option maxHeartbeats 4000000 in
theorem sp_X2_mostPoints (B : Mem × Mem) (T : Mem) (rk : Prop) (S D : Nat → Nat → Prop)  (Z Z' : Mem)   (hD8 : ∀ j, j < 6 → D 8 j)   (hAg : Ag B T rk S D Z Z') : Sg (fun a b => a = b ∧ True) (F_X2_mostPoints Z) (F_X2_mostPoints Z') := by
  have hW := hAg.1
  have hb2 := hW.1.1.2
  have hb5 := hW.1.2.2.1.2
  have hb7 := hW.1.2.2.2.1.2
  unfold F_X2_mostPoints
  refine sg_go (fun Q hQ => ?_)
  have Jx4 : ∀ (w1 : Int32), Op w1 6 → Sg Q (F_X2_mostPoints_x4 w1) (F_X2_mostPoints_x4 w1) := by
    intro w1 hq_w1
    unfold F_X2_mostPoints_x4
    rw [hQ]
    exact sg_ret ⟨rfl, trivial⟩
  have L4 : ∀ (n4 k4 : Nat) (u2 : Int32), k4 ≤ (ix (T.1 1 2)) → (ix (T.1 1 2)) < n4 + k4 → Op u2 6 → Sg Q (F_X2_mostPoints_l4 Z F_X2_mostPoints_x4 n4 u2 (nI k4)) (F_X2_mostPoints_l4 Z' F_X2_mostPoints_x4 n4 u2 (nI k4)) := by
    intro n4
    induction n4 with
    | zero =>
      intro k4 u2 h1 h2
      exact absurd h2 (by omega)
    | succ n4 IH4 =>
      intro k4 u2 hk4 hf4 hq_u2
      rw [F_X2_mostPoints_l4]; try rw [F_X2_mostPoints_l4]
      refine sg_bv (t := T.1 1 2) (ag_b hAg (j := 2) (by decide)).1 (ag_b hAg (j := 2) (by decide)).2 (fun y4 ey4 => ?_)
      have hn_y4 : Nn y4 6 := by rw [ey4]; exact hW.1.1
      refine sg_br (fun hc5 => ?_) (fun hc5 => ?_)
      · have hxhc5 := ct_le hn_y4.1 (Nat.le_trans hn_y4.2 (by decide)) (by omega) hc5
        rw [ey4] at hxhc5
        exact Jx4 u2 hq_u2
      · have hxhc5 := ct_lt hn_y4.1 (Nat.le_trans hn_y4.2 (by decide)) (by omega) hc5
        rw [ey4] at hxhc5
        have hg6 : ¬ ((nI k4) < 0 ∨ 6 ≤ ix (nI k4)) := (in_nI (by omega) (by decide))
        refine sg_gd hg6 ?_
        refine sg_bv (t := T.1 3 (ix (nI k4))) (ag_r hAg (i := 3) ⟨by decide, by decide⟩ (ix_in hg6)).1 (ag_r hAg (i := 3) ⟨by decide, by decide⟩ (ix_in hg6)).2 (fun y7 ey7 => ?_)
        refine sg_br (fun hc8 => ?_) (fun hc8 => ?_)
        · rw [nIs]
          exact IH4 (k4 + 1) u2 (by omega) (by omega) hq_u2
        · refine sg_br (fun hc9 => ?_) (fun hc9 => ?_)
          · rw [nIs]
            exact IH4 (k4 + 1) (nI k4) (by omega) (by omega) (Or.inr (in_nI (by omega) (by decide)))
          · refine sg_bv (t := Z.2 8 (ix (nI k4))) rfl (hAg.2.2.2.2 _ _ (hD8 _ (ix_in hg6))).symm (fun y10 ey10 => ?_)
            have hg11 : ¬ (u2 < 0 ∨ 6 ≤ ix u2) := (in_Op hq_u2 hc9)
            refine sg_gd hg11 ?_
            refine sg_bv (t := Z.2 8 (ix u2)) rfl (hAg.2.2.2.2 _ _ (hD8 _ (ix_in hg11))).symm (fun y12 ey12 => ?_)
            refine sg_bv (t := Op.cmpValue (FP.dcmp y10 y12) .l) rfl rfl (fun y13 ey13 => ?_)
            refine sg_br (fun hc14 => ?_) (fun hc14 => ?_)
            · rw [nIs]
              exact IH4 (k4 + 1) u2 (by omega) (by omega) hq_u2
            · rw [nIs]
              exact IH4 (k4 + 1) (nI k4) (by omega) (by omega) (Or.inr (in_nI (by omega) (by decide)))
  exact L4 100 0 ((-1) : Int32) (by omega) (by omega) (Or.inl rfl)

set_option maxHeartbeats 4000000 in
theorem sp_X2_addBeats (B : Mem × Mem) (T : Mem) (rk : Prop) (S D : Nat → Nat → Prop)  (Z Z' : Mem) (ka : Nat) (hka : ka < ix (T.1 1 7)) (hS2_14 : ∀ r j, r < 6 → j < 6 → S (14 + r) j)   (hAg : Ag B T rk S D Z Z') : Sg (Qi (fun a b (r : Unit) => Ag B T rk S D a b ∧ True)) (F_X2_addBeats Z ka) (F_X2_addBeats Z' ka) := by
  have hW := hAg.1
  have hb2 := hW.1.1.2
  have hb5 := hW.1.2.2.1.2
  have hb7 := hW.1.2.2.2.1.2
  unfold F_X2_addBeats
  refine sg_go (fun Q hQ => ?_)
  have hbl2 := (wf_len hW hka).2
  have Jx2 : ∀  (Z1 Z1' : Mem), Ag B T rk S D Z1 Z1' → Sg Q (F_X2_addBeats_x2 Z1) (F_X2_addBeats_x2 Z1') := by
    intro Z1 Z1' hAg
    unfold F_X2_addBeats_x2
    rw [hQ]
    exact sg_retm ⟨hAg, trivial⟩
  have L2 : ∀ (n2 k2 : Nat)  (Z3 Z3' : Mem), k2 ≤ (ix (T.1 (39 + ka) 5)) → (ix (T.1 (39 + ka) 5)) < n2 + k2 → Ag B T rk S D Z3 Z3' → Sg Q (F_X2_addBeats_l2 ka F_X2_addBeats_x2 n2 Z3 (nI k2)) (F_X2_addBeats_l2 ka F_X2_addBeats_x2 n2 Z3' (nI k2)) := by
    intro n2
    induction n2 with
    | zero =>
      intro k2 Z3 Z3' h1 h2
      exact absurd h2 (by omega)
    | succ n2 IH2 =>
      intro k2 Z3 Z3' hk2 hf2 hAg
      rw [F_X2_addBeats_l2]; try rw [F_X2_addBeats_l2]
      refine sg_bv (t := T.1 (39 + ka) 5) (ag_s hAg hka (j := 5) ⟨by decide, fun h => absurd h (by decide), by decide⟩).1 (ag_s hAg hka (j := 5) ⟨by decide, fun h => absurd h (by decide), by decide⟩).2 (fun y4 ey4 => ?_)
      have hn_y4 : Nn y4 6 := by rw [ey4]; exact wf_len hW hka
      refine sg_br (fun hc5 => ?_) (fun hc5 => ?_)
      · have hxhc5 := ct_le hn_y4.1 (Nat.le_trans hn_y4.2 (by decide)) (by omega) hc5
        rw [ey4] at hxhc5
        exact Jx2 Z3 Z3' hAg
      · have hxhc5 := ct_lt hn_y4.1 (Nat.le_trans hn_y4.2 (by decide)) (by omega) hc5
        rw [ey4] at hxhc5
        have hg6 : ¬ ((nI k2) < 0 ∨ 6 ≤ ix (nI k2)) := (in_nI (by omega) (by decide))
        refine sg_gd hg6 ?_
        refine sg_bv (t := T.1 (64 + ka) (ix (nI k2))) (ag_l hAg hka (j := (ix (nI k2))) (by rw [ix_nI (by omega)]; omega)).1 (ag_l hAg hka (j := (ix (nI k2))) (by rw [ix_nI (by omega)]; omega)).2 (fun y7 ey7 => ?_)
        have hn_y7 : Nn y7 5 := by rw [ey7]; exact wf_l hW hka (j := (ix (nI k2))) (ix_in hg6)
        have Jx21 : ∀  (Z8 Z8' : Mem), Ag B T rk S D Z8 Z8' → Sg Q ((F_X2_addBeats_x21 (nI k2) (F_X2_addBeats_l2 ka F_X2_addBeats_x2 n2)) Z8) ((F_X2_addBeats_x21 (nI k2) (F_X2_addBeats_l2 ka F_X2_addBeats_x2 n2)) Z8') := by
          intro Z8 Z8' hAg
          unfold F_X2_addBeats_x21
          rw [nIs]
          exact IH2 (k2 + 1) Z8 Z8' (by omega) (by omega) hAg
        have L21 : ∀ (n21 k21 : Nat)  (Z10 Z10' : Mem), k21 ≤ (ix (T.1 1 2)) → (ix (T.1 1 2)) < n21 + k21 → Ag B T rk S D Z10 Z10' → Sg Q (F_X2_addBeats_l21 ka (nI k2) y7 (F_X2_addBeats_x21 (nI k2) (F_X2_addBeats_l2 ka F_X2_addBeats_x2 n2)) n21 Z10 (nI k21)) (F_X2_addBeats_l21 ka (nI k2) y7 (F_X2_addBeats_x21 (nI k2) (F_X2_addBeats_l2 ka F_X2_addBeats_x2 n2)) n21 Z10' (nI k21)) := by
          intro n21
          induction n21 with
          | zero =>
            intro k21 Z10 Z10' h1 h2
            exact absurd h2 (by omega)
          | succ n21 IH21 =>
            intro k21 Z10 Z10' hk21 hf21 hAg
            rw [F_X2_addBeats_l21]; try rw [F_X2_addBeats_l21]
            refine sg_bv (t := T.1 1 2) (ag_b hAg (j := 2) (by decide)).1 (ag_b hAg (j := 2) (by decide)).2 (fun y11 ey11 => ?_)
            have hn_y11 : Nn y11 6 := by rw [ey11]; exact hW.1.1
            refine sg_br (fun hc12 => ?_) (fun hc12 => ?_)
            · have hxhc12 := ct_le hn_y11.1 (Nat.le_trans hn_y11.2 (by decide)) (by omega) hc12
              rw [ey11] at hxhc12
              exact Jx21 Z10 Z10' hAg
            · have hxhc12 := ct_lt hn_y11.1 (Nat.le_trans hn_y11.2 (by decide)) (by omega) hc12
              rw [ey11] at hxhc12
              have hg13 : ¬ ((nI k21) < 0 ∨ 6 ≤ ix (nI k21)) := (in_nI (by omega) (by decide))
              refine sg_gd hg13 ?_
              refine sg_bv (t := T.1 3 (ix (nI k21))) (ag_r hAg (i := 3) ⟨by decide, by decide⟩ (ix_in hg13)).1 (ag_r hAg (i := 3) ⟨by decide, by decide⟩ (ix_in hg13)).2 (fun y14 ey14 => ?_)
              refine sg_br (fun hc15 => ?_) (fun hc15 => ?_)
              · rw [nIs]
                exact IH21 (k21 + 1) Z10 Z10' (by omega) (by omega) hAg
              · refine sg_calp (sp_X3_placeOf B T rk _ _  Z10 Z10' ka (nI k21) hka  hAg) (fun rr18 hp2 => ?_)
                refine sg_br (fun hc19 => ?_) (fun hc19 => ?_)
                · rw [nIs]
                  exact IH21 (k21 + 1) Z10 Z10' (by omega) (by omega) hAg
                · have hg20 : ¬ (y7 < 0 ∨ 6 ≤ ix y7) := (in_Nn hn_y7 (by decide) (by decide))
                  refine sg_gd hg20 ?_
                  have hk21 : ix y7 < 6 := by first | decide | (rw [ix_nI (by omega)]; omega) | exact ix_in (by assumption)
                  refine sg_bv (t := Z10.1 (14 + (ix y7)) (ix (nI k21))) rfl (hAg.2.2.2.1 _ _ (hS2_14 _ _ hk21 (ix_in hg13))).symm (fun y22 ey22 => ?_)
                  refine sg_bv (t := T.1 (39 + ka) 2) (ag_s hAg hka (j := 2) ⟨by decide, fun h => absurd h (by decide), by decide⟩).1 (ag_s hAg hka (j := 2) ⟨by decide, fun h => absurd h (by decide), by decide⟩).2 (fun y23 ey23 => ?_)
                  have hn_y23 : Nn y23 500 := by rw [ey23]; exact wf_cnt hW hka
                  refine sg_bv (t := y22 + y23) rfl rfl (fun y24 ey24 => ?_)
                  refine sg_bz (fun Z25 Z25' eZ25 eZ25' => ?_)
                  have hAg : Ag B T rk S D Z25 Z25' := by rw [eZ25, eZ25']; exact ag_si hAg ⟨by omega, by omega⟩ (st_id)
                  rw [nIs]
                  exact IH21 (k21 + 1) Z25 Z25' (by omega) (by omega) hAg
        exact L21 100 0 Z3 Z3' (by omega) (by omega) hAg
  exact L2 100 0 Z Z' (by omega) (by omega) hAg

set_option maxHeartbeats 4000000 in
theorem sp_X2_findPaths (B : Mem × Mem) (T : Mem) (rk : Prop) (S D : Nat → Nat → Prop)  (Z Z' : Mem)   (hS2_14 : ∀ r j, r < 6 → j < 6 → S (14 + r) j)   (hAg : Ag B T rk S D Z Z') : Sg (Qi (fun a b (r : Unit) => Ag B T rk (ext2 S 20 6 0) D a b ∧ True)) (F_X2_findPaths Z) (F_X2_findPaths Z') := by
  have hW := hAg.1
  have hb2 := hW.1.1.2
  have hb5 := hW.1.2.2.1.2
  have hb7 := hW.1.2.2.2.1.2
  unfold F_X2_findPaths
  refine sg_go (fun Q hQ => ?_)
  have Jx2 : ∀  (Z1 Z1' : Mem), Ag B T rk (ext2 S 20 6 0) D Z1 Z1' → Sg Q (F_X2_findPaths_x2 Z1) (F_X2_findPaths_x2 Z1') := by
    intro Z1 Z1' hAg
    unfold F_X2_findPaths_x2
    have Jx64 : ∀  (Z2 Z2' : Mem), Ag B T rk (ext2 S 20 6 0) D Z2 Z2' → Sg Q (F_X2_findPaths_x64 Z2) (F_X2_findPaths_x64 Z2') := by
      intro Z2 Z2' hAg
      unfold F_X2_findPaths_x64
      rw [hQ]
      exact sg_retm ⟨hAg, trivial⟩
    have L64 : ∀ (n64 k64 : Nat)  (Z4 Z4' : Mem), k64 ≤ 6 → 6 < n64 + k64 → Ag B T rk (ext2 S 20 6 0) D Z4 Z4' → Sg Q (F_X2_findPaths_l64 F_X2_findPaths_x64 n64 Z4 (nI k64)) (F_X2_findPaths_l64 F_X2_findPaths_x64 n64 Z4' (nI k64)) := by
      intro n64
      induction n64 with
      | zero =>
        intro k64 Z4 Z4' h1 h2
        exact absurd h2 (by omega)
      | succ n64 IH64 =>
        intro k64 Z4 Z4' hk64 hf64 hAg
        rw [F_X2_findPaths_l64]; try rw [F_X2_findPaths_l64]
        refine sg_br (fun hc5 => ?_) (fun hc5 => ?_)
        · have hxhc5 := ct_le (y := (6 : Int32)) (B := 6) rfl (by decide) (by omega) hc5
          exact Jx64 Z4 Z4' hAg
        · have hxhc5 := ct_lt (y := (6 : Int32)) (B := 6) rfl (by decide) (by omega) hc5
          have Jx72 : ∀  (Z6 Z6' : Mem), Ag B T rk (ext2 S 20 6 0) D Z6 Z6' → Sg Q ((F_X2_findPaths_x72 (nI k64) (F_X2_findPaths_l64 F_X2_findPaths_x64 n64)) Z6) ((F_X2_findPaths_x72 (nI k64) (F_X2_findPaths_l64 F_X2_findPaths_x64 n64)) Z6') := by
            intro Z6 Z6' hAg
            unfold F_X2_findPaths_x72
            rw [nIs]
            exact IH64 (k64 + 1) Z6 Z6' (by omega) (by omega) hAg
          have L72 : ∀ (n72 k72 : Nat)  (Z8 Z8' : Mem), k72 ≤ 6 → 6 < n72 + k72 → Ag B T rk (ext2 S 20 6 0) D Z8 Z8' → Sg Q (F_X2_findPaths_l72 (nI k64) (F_X2_findPaths_x72 (nI k64) (F_X2_findPaths_l64 F_X2_findPaths_x64 n64)) n72 Z8 (nI k72)) (F_X2_findPaths_l72 (nI k64) (F_X2_findPaths_x72 (nI k64) (F_X2_findPaths_l64 F_X2_findPaths_x64 n64)) n72 Z8' (nI k72)) := by
            intro n72
            induction n72 with
            | zero =>
              intro k72 Z8 Z8' h1 h2
              exact absurd h2 (by omega)
            | succ n72 IH72 =>
              intro k72 Z8 Z8' hk72 hf72 hAg
              rw [F_X2_findPaths_l72]; try rw [F_X2_findPaths_l72]
              refine sg_br (fun hc9 => ?_) (fun hc9 => ?_)
              · have hxhc9 := ct_le (y := (6 : Int32)) (B := 6) rfl (by decide) (by omega) hc9
                exact Jx72 Z8 Z8' hAg
              · have hxhc9 := ct_lt (y := (6 : Int32)) (B := 6) rfl (by decide) (by omega) hc9
                have Jx80 : ∀  (Z10 Z10' : Mem), Ag B T rk (ext2 S 20 6 0) D Z10 Z10' → Sg Q ((F_X2_findPaths_x80 (nI k72) (F_X2_findPaths_l72 (nI k64) (F_X2_findPaths_x72 (nI k64) (F_X2_findPaths_l64 F_X2_findPaths_x64 n64)) n72)) Z10) ((F_X2_findPaths_x80 (nI k72) (F_X2_findPaths_l72 (nI k64) (F_X2_findPaths_x72 (nI k64) (F_X2_findPaths_l64 F_X2_findPaths_x64 n64)) n72)) Z10') := by
                  intro Z10 Z10' hAg
                  unfold F_X2_findPaths_x80
                  rw [nIs]
                  exact IH72 (k72 + 1) Z10 Z10' (by omega) (by omega) hAg
                have L80 : ∀ (n80 k80 : Nat)  (Z12 Z12' : Mem), k80 ≤ 6 → 6 < n80 + k80 → Ag B T rk (ext2 S 20 6 0) D Z12 Z12' → Sg Q (F_X2_findPaths_l80 (nI k64) (nI k72) (F_X2_findPaths_x80 (nI k72) (F_X2_findPaths_l72 (nI k64) (F_X2_findPaths_x72 (nI k64) (F_X2_findPaths_l64 F_X2_findPaths_x64 n64)) n72)) n80 Z12 (nI k80)) (F_X2_findPaths_l80 (nI k64) (nI k72) (F_X2_findPaths_x80 (nI k72) (F_X2_findPaths_l72 (nI k64) (F_X2_findPaths_x72 (nI k64) (F_X2_findPaths_l64 F_X2_findPaths_x64 n64)) n72)) n80 Z12' (nI k80)) := by
                  intro n80
                  induction n80 with
                  | zero =>
                    intro k80 Z12 Z12' h1 h2
                    exact absurd h2 (by omega)
                  | succ n80 IH80 =>
                    intro k80 Z12 Z12' hk80 hf80 hAg
                    rw [F_X2_findPaths_l80]; try rw [F_X2_findPaths_l80]
                    refine sg_br (fun hc13 => ?_) (fun hc13 => ?_)
                    · have hxhc13 := ct_le (y := (6 : Int32)) (B := 6) rfl (by decide) (by omega) hc13
                      exact Jx80 Z12 Z12' hAg
                    · have hxhc13 := ct_lt (y := (6 : Int32)) (B := 6) rfl (by decide) (by omega) hc13
                      have hg14 : ¬ ((nI k72) < 0 ∨ 6 ≤ ix (nI k72)) := (in_nI (by omega) (by decide))
                      refine sg_gd hg14 ?_
                      have hk15 : ix (nI k72) < 6 := by first | decide | (rw [ix_nI (by omega)]; omega) | exact ix_in (by assumption)
                      have hg16 : ¬ ((nI k64) < 0 ∨ 6 ≤ ix (nI k64)) := (in_nI (by omega) (by decide))
                      refine sg_gd hg16 ?_
                      refine sg_bv (t := Z12.1 (20 + (ix (nI k72))) (ix (nI k64))) rfl (hAg.2.2.2.1 _ _ (ext2_in hk15 (ix_in hg16))).symm (fun y17 ey17 => ?_)
                      have hk18 : ix (nI k64) < 6 := by first | decide | (rw [ix_nI (by omega)]; omega) | exact ix_in (by assumption)
                      have hg19 : ¬ ((nI k80) < 0 ∨ 6 ≤ ix (nI k80)) := (in_nI (by omega) (by decide))
                      refine sg_gd hg19 ?_
                      refine sg_bv (t := Z12.1 (20 + (ix (nI k64))) (ix (nI k80))) rfl (hAg.2.2.2.1 _ _ (ext2_in hk18 (ix_in hg19))).symm (fun y20 ey20 => ?_)
                      refine sg_bv (t := if y20 < y17 then y20 else y17) rfl rfl (fun y21 ey21 => ?_)
                      have hk22 : ix (nI k72) < 6 := by first | decide | (rw [ix_nI (by omega)]; omega) | exact ix_in (by assumption)
                      have hk23 : ix (nI k72) < 6 := by first | decide | (rw [ix_nI (by omega)]; omega) | exact ix_in (by assumption)
                      refine sg_bv (t := Z12.1 (20 + (ix (nI k72))) (ix (nI k80))) rfl (hAg.2.2.2.1 _ _ (ext2_in hk23 (ix_in hg19))).symm (fun y24 ey24 => ?_)
                      refine sg_bv (t := if y24 < y21 then y21 else y24) rfl rfl (fun y25 ey25 => ?_)
                      refine sg_bz (fun Z26 Z26' eZ26 eZ26' => ?_)
                      have hAg : Ag B T rk (ext2 S 20 6 0) D Z26 Z26' := by rw [eZ26, eZ26']; exact ag_si hAg ⟨by omega, by omega⟩ (st_id)
                      rw [nIs]
                      exact IH80 (k80 + 1) Z26 Z26' (by omega) (by omega) hAg
                exact L80 100 0 Z8 Z8' (by omega) (by omega) hAg
          exact L72 100 0 Z4 Z4' (by omega) (by omega) hAg
    exact L64 100 0 Z1 Z1' (by omega) (by omega) hAg
  have L2 : ∀ (n2 k2 : Nat)  (Z28 Z28' : Mem), k2 ≤ 6 → 6 < n2 + k2 → Ag B T rk (ext2 S 20 k2 0) D Z28 Z28' → Sg Q (F_X2_findPaths_l2 F_X2_findPaths_x2 n2 Z28 (nI k2)) (F_X2_findPaths_l2 F_X2_findPaths_x2 n2 Z28' (nI k2)) := by
    intro n2
    induction n2 with
    | zero =>
      intro k2 Z28 Z28' h1 h2
      exact absurd h2 (by omega)
    | succ n2 IH2 =>
      intro k2 Z28 Z28' hk2 hf2 hAg
      rw [F_X2_findPaths_l2]; try rw [F_X2_findPaths_l2]
      refine sg_br (fun hc29 => ?_) (fun hc29 => ?_)
      · have hxhc29 := ct_le (y := (6 : Int32)) (B := 6) rfl (by decide) (by omega) hc29
        obtain rfl : k2 = 6 := by omega
        exact Jx2 Z28 Z28' hAg
      · have hxhc29 := ct_lt (y := (6 : Int32)) (B := 6) rfl (by decide) (by omega) hc29
        have Jx10 : ∀  (Z30 Z30' : Mem), Ag B T rk (ext2 S 20 k2 6) D Z30 Z30' → Sg Q ((F_X2_findPaths_x10 (nI k2) (F_X2_findPaths_l2 F_X2_findPaths_x2 n2)) Z30) ((F_X2_findPaths_x10 (nI k2) (F_X2_findPaths_l2 F_X2_findPaths_x2 n2)) Z30') := by
          intro Z30 Z30' hAg
          unfold F_X2_findPaths_x10
          rw [nIs]
          exact IH2 (k2 + 1) Z30 Z30' (by omega) (by omega) (ag_mono hAg (ext2n) (m_id))
        have L10 : ∀ (n10 k10 : Nat)  (Z32 Z32' : Mem), k10 ≤ 6 → 6 < n10 + k10 → Ag B T rk (ext2 S 20 k2 k10) D Z32 Z32' → Sg Q (F_X2_findPaths_l10 (nI k2) (F_X2_findPaths_x10 (nI k2) (F_X2_findPaths_l2 F_X2_findPaths_x2 n2)) n10 Z32 (nI k10)) (F_X2_findPaths_l10 (nI k2) (F_X2_findPaths_x10 (nI k2) (F_X2_findPaths_l2 F_X2_findPaths_x2 n2)) n10 Z32' (nI k10)) := by
          intro n10
          induction n10 with
          | zero =>
            intro k10 Z32 Z32' h1 h2
            exact absurd h2 (by omega)
          | succ n10 IH10 =>
            intro k10 Z32 Z32' hk10 hf10 hAg
            rw [F_X2_findPaths_l10]; try rw [F_X2_findPaths_l10]
            refine sg_br (fun hc33 => ?_) (fun hc33 => ?_)
            · have hxhc33 := ct_le (y := (6 : Int32)) (B := 6) rfl (by decide) (by omega) hc33
              obtain rfl : k10 = 6 := by omega
              exact Jx10 Z32 Z32' hAg
            · have hxhc33 := ct_lt (y := (6 : Int32)) (B := 6) rfl (by decide) (by omega) hc33
              have hg34 : ¬ ((nI k2) < 0 ∨ 6 ≤ ix (nI k2)) := (in_nI (by omega) (by decide))
              refine sg_gd hg34 ?_
              have hk35 : ix (nI k2) < 6 := by first | decide | (rw [ix_nI (by omega)]; omega) | exact ix_in (by assumption)
              have hg36 : ¬ ((nI k10) < 0 ∨ 6 ≤ ix (nI k10)) := (in_nI (by omega) (by decide))
              refine sg_gd hg36 ?_
              refine sg_bv (t := Z32.1 (14 + (ix (nI k2))) (ix (nI k10))) rfl (hAg.2.2.2.1 _ _ (ext2_l (hS2_14 _ _ hk35 (ix_in hg36)))).symm (fun y37 ey37 => ?_)
              have hk38 : ix (nI k2) < 6 := by first | decide | (rw [ix_nI (by omega)]; omega) | exact ix_in (by assumption)
              have hk39 : ix (nI k10) < 6 := by first | decide | (rw [ix_nI (by omega)]; omega) | exact ix_in (by assumption)
              refine sg_bv (t := Z32.1 (14 + (ix (nI k10))) (ix (nI k2))) rfl (hAg.2.2.2.1 _ _ (ext2_l (hS2_14 _ _ hk39 (ix_in hg34)))).symm (fun y40 ey40 => ?_)
              have Jj49 : ∀ (v41 : Int32), Sg Q ((F_X2_findPaths_j49 (nI k2) Z32 (nI k10) (F_X2_findPaths_l10 (nI k2) (F_X2_findPaths_x10 (nI k2) (F_X2_findPaths_l2 F_X2_findPaths_x2 n2)) n10)) v41) ((F_X2_findPaths_j49 (nI k2) Z32' (nI k10) (F_X2_findPaths_l10 (nI k2) (F_X2_findPaths_x10 (nI k2) (F_X2_findPaths_l2 F_X2_findPaths_x2 n2)) n10)) v41) := by
                intro v41
                unfold F_X2_findPaths_j49
                refine sg_bz (fun Z42 Z42' eZ42 eZ42' => ?_)
                have hAg : Ag B T rk (ext2 S 20 k2 (k10 + 1)) D Z42 Z42' := by rw [eZ42, eZ42']; exact ag_si hAg ⟨by omega, by omega⟩ (st_ext2r (by omega) (by rw [ix_nI (by omega)]))
                rw [nIs]
                exact IH10 (k10 + 1) Z42 Z42' (by omega) (by omega) hAg
              refine sg_br (fun hc43 => ?_) (fun hc43 => ?_)
              · exact Jj49 (0 : Int32)
              · exact Jj49 y37
        exact L10 100 0 Z28 Z28' (by omega) (by omega) hAg
  exact L2 100 0 Z Z' (by omega) (by omega) (ag_mono hAg (m_02 (m_id)) (m_id))

set_option maxHeartbeats 4000000 in
theorem sp_X2_countPairs (B : Mem × Mem) (T : Mem) (rk : Prop) (S D : Nat → Nat → Prop)  (Z Z' : Mem) (xa : Int32)     (hAg : Ag B T rk S D Z Z') : Sg (Qi (fun a b (r : Unit) => Ag B T rk (ext2 (ext2 S 14 6 0) 20 6 0) D a b ∧ True)) (F_X2_countPairs Z xa) (F_X2_countPairs Z' xa) := by
  have hW := hAg.1
  have hb2 := hW.1.1.2
  have hb5 := hW.1.2.2.1.2
  have hb7 := hW.1.2.2.2.1.2
  unfold F_X2_countPairs
  refine sg_go (fun Q hQ => ?_)
  have Jx2 : ∀  (Z1 Z1' : Mem), Ag B T rk (ext2 S 14 6 0) D Z1 Z1' → Sg Q ((F_X2_countPairs_x2 xa) Z1) ((F_X2_countPairs_x2 xa) Z1') := by
    intro Z1 Z1' hAg
    unfold F_X2_countPairs_x2
    have Jx42 : ∀  (Z2 Z2' : Mem), Ag B T rk (ext2 S 14 6 0) D Z2 Z2' → Sg Q (F_X2_countPairs_x42 Z2) (F_X2_countPairs_x42 Z2') := by
      intro Z2 Z2' hAg
      unfold F_X2_countPairs_x42
      refine sg_cal (sp_X2_findPaths B T rk _ _  Z2 Z2'   (fun r9 j9 hr9 hj9 => (ext2_in hr9 hj9)) hAg) (fun Z4 Z4' _ hp4 => ?_)
      have hAg := hp4.1
      rw [hQ]
      exact sg_retm ⟨hAg, trivial⟩
    have L42 : ∀ (n42 k42 : Nat)  (Z7 Z7' : Mem), k42 ≤ (ix (T.1 1 7)) → (ix (T.1 1 7)) < n42 + k42 → Ag B T rk (ext2 S 14 6 0) D Z7 Z7' → Sg Q (F_X2_countPairs_l42 xa F_X2_countPairs_x42 n42 Z7 (nI k42)) (F_X2_countPairs_l42 xa F_X2_countPairs_x42 n42 Z7' (nI k42)) := by
      intro n42
      induction n42 with
      | zero =>
        intro k42 Z7 Z7' h1 h2
        exact absurd h2 (by omega)
      | succ n42 IH42 =>
        intro k42 Z7 Z7' hk42 hf42 hAg
        rw [F_X2_countPairs_l42]; try rw [F_X2_countPairs_l42]
        refine sg_bv (t := T.1 1 7) (ag_b hAg (j := 7) (by decide)).1 (ag_b hAg (j := 7) (by decide)).2 (fun y8 ey8 => ?_)
        have hn_y8 : Nn y8 24 := by rw [ey8]; exact hW.1.2.2.2.1
        refine sg_br (fun hc9 => ?_) (fun hc9 => ?_)
        · have hxhc9 := ct_le hn_y8.1 (Nat.le_trans hn_y8.2 (by decide)) (by omega) hc9
          rw [ey8] at hxhc9
          exact Jx42 Z7 Z7' hAg
        · have hxhc9 := ct_lt hn_y8.1 (Nat.le_trans hn_y8.2 (by decide)) (by omega) hc9
          rw [ey8] at hxhc9
          have hg10 : ¬ ((nI k42) < 0 ∨ 24 ≤ ix (nI k42)) := (in_nI (by omega) (by decide))
          refine sg_gd hg10 ?_
          have hk11 : ix (nI k42) < ix (T.1 1 7) := by rw [ix_nI (by omega)]; omega
          refine sg_calp (sp_X3_countsIn B T rk _ _  Z7 Z7' (ix (nI k42)) xa hk11  hAg) (fun rr14 hp5 => ?_)
          refine sg_br (fun hc15 => ?_) (fun hc15 => ?_)
          · rw [nIs]
            exact IH42 (k42 + 1) Z7 Z7' (by omega) (by omega) hAg
          · have hdhp5 := hp5 hc15
            refine sg_cal (sp_X2_addBeats B T rk _ _  Z7 Z7' (ix (nI k42)) hk11 (fun r9 j9 hr9 hj9 => (ext2_in hr9 hj9)) hAg) (fun Z17 Z17' _ hp6 => ?_)
            have hAg := hp6.1
            rw [nIs]
            exact IH42 (k42 + 1) Z17 Z17' (by omega) (by omega) hAg
    exact L42 100 0 Z1 Z1' (by omega) (by omega) hAg
  have L2 : ∀ (n2 k2 : Nat)  (Z20 Z20' : Mem), k2 ≤ 6 → 6 < n2 + k2 → Ag B T rk (ext2 S 14 k2 0) D Z20 Z20' → Sg Q (F_X2_countPairs_l2 (F_X2_countPairs_x2 xa) n2 Z20 (nI k2)) (F_X2_countPairs_l2 (F_X2_countPairs_x2 xa) n2 Z20' (nI k2)) := by
    intro n2
    induction n2 with
    | zero =>
      intro k2 Z20 Z20' h1 h2
      exact absurd h2 (by omega)
    | succ n2 IH2 =>
      intro k2 Z20 Z20' hk2 hf2 hAg
      rw [F_X2_countPairs_l2]; try rw [F_X2_countPairs_l2]
      refine sg_br (fun hc21 => ?_) (fun hc21 => ?_)
      · have hxhc21 := ct_le (y := (6 : Int32)) (B := 6) rfl (by decide) (by omega) hc21
        obtain rfl : k2 = 6 := by omega
        exact Jx2 Z20 Z20' hAg
      · have hxhc21 := ct_lt (y := (6 : Int32)) (B := 6) rfl (by decide) (by omega) hc21
        have Jx11 : ∀  (Z22 Z22' : Mem), Ag B T rk (ext2 S 14 k2 6) D Z22 Z22' → Sg Q ((F_X2_countPairs_x11 (nI k2) (F_X2_countPairs_l2 (F_X2_countPairs_x2 xa) n2)) Z22) ((F_X2_countPairs_x11 (nI k2) (F_X2_countPairs_l2 (F_X2_countPairs_x2 xa) n2)) Z22') := by
          intro Z22 Z22' hAg
          unfold F_X2_countPairs_x11
          rw [nIs]
          exact IH2 (k2 + 1) Z22 Z22' (by omega) (by omega) (ag_mono hAg (ext2n) (m_id))
        have L11 : ∀ (n11 k11 : Nat)  (Z24 Z24' : Mem), k11 ≤ 6 → 6 < n11 + k11 → Ag B T rk (ext2 S 14 k2 k11) D Z24 Z24' → Sg Q (F_X2_countPairs_l11 (nI k2) (F_X2_countPairs_x11 (nI k2) (F_X2_countPairs_l2 (F_X2_countPairs_x2 xa) n2)) n11 Z24 (nI k11)) (F_X2_countPairs_l11 (nI k2) (F_X2_countPairs_x11 (nI k2) (F_X2_countPairs_l2 (F_X2_countPairs_x2 xa) n2)) n11 Z24' (nI k11)) := by
          intro n11
          induction n11 with
          | zero =>
            intro k11 Z24 Z24' h1 h2
            exact absurd h2 (by omega)
          | succ n11 IH11 =>
            intro k11 Z24 Z24' hk11 hf11 hAg
            rw [F_X2_countPairs_l11]; try rw [F_X2_countPairs_l11]
            refine sg_br (fun hc25 => ?_) (fun hc25 => ?_)
            · have hxhc25 := ct_le (y := (6 : Int32)) (B := 6) rfl (by decide) (by omega) hc25
              obtain rfl : k11 = 6 := by omega
              exact Jx11 Z24 Z24' hAg
            · have hxhc25 := ct_lt (y := (6 : Int32)) (B := 6) rfl (by decide) (by omega) hc25
              have hg26 : ¬ ((nI k2) < 0 ∨ 6 ≤ ix (nI k2)) := (in_nI (by omega) (by decide))
              refine sg_gd hg26 ?_
              have hk27 : ix (nI k2) < 6 := by first | decide | (rw [ix_nI (by omega)]; omega) | exact ix_in (by assumption)
              have hg28 : ¬ ((nI k11) < 0 ∨ 6 ≤ ix (nI k11)) := (in_nI (by omega) (by decide))
              refine sg_gd hg28 ?_
              refine sg_bz (fun Z29 Z29' eZ29 eZ29' => ?_)
              have hAg : Ag B T rk (ext2 S 14 k2 (k11 + 1)) D Z29 Z29' := by rw [eZ29, eZ29']; exact ag_si hAg ⟨by omega, by omega⟩ (st_ext2r (by omega) (by rw [ix_nI (by omega)]))
              rw [nIs]
              exact IH11 (k11 + 1) Z29 Z29' (by omega) (by omega) hAg
        exact L11 100 0 Z20 Z20' (by omega) (by omega) hAg
  exact L2 100 0 Z Z' (by omega) (by omega) (ag_mono hAg (m_02 (m_id)) (m_id))

set_option maxHeartbeats 4000000 in
theorem sp_X2_isNowhereNarrower (B : Mem × Mem) (T : Mem) (rk : Prop) (S D : Nat → Nat → Prop)  (Z Z' : Mem) (xa : Int32)  (hS2_20 : ∀ r j, r < 6 → j < 6 → S (20 + r) j) (hp_xa : ¬ (xa < 0 ∨ 6 ≤ ix xa))  (hAg : Ag B T rk S D Z Z') : Sg (fun a b => a = b ∧ True) (F_X2_isNowhereNarrower Z xa) (F_X2_isNowhereNarrower Z' xa) := by
  have hW := hAg.1
  have hb2 := hW.1.1.2
  have hb5 := hW.1.2.2.1.2
  have hb7 := hW.1.2.2.2.1.2
  unfold F_X2_isNowhereNarrower
  refine sg_go (fun Q hQ => ?_)
  have Jx2 : Sg Q (F_X2_isNowhereNarrower_x2) (F_X2_isNowhereNarrower_x2) := by
    unfold F_X2_isNowhereNarrower_x2
    rw [hQ]
    exact sg_ret ⟨rfl, trivial⟩
  have L2 : ∀ (n2 k2 : Nat) , k2 ≤ (ix (T.1 1 2)) → (ix (T.1 1 2)) < n2 + k2 → Sg Q (F_X2_isNowhereNarrower_l2 Z xa F_X2_isNowhereNarrower_x2 n2 (nI k2)) (F_X2_isNowhereNarrower_l2 Z' xa F_X2_isNowhereNarrower_x2 n2 (nI k2)) := by
    intro n2
    induction n2 with
    | zero =>
      intro k2 h1 h2
      exact absurd h2 (by omega)
    | succ n2 IH2 =>
      intro k2 hk2 hf2 
      rw [F_X2_isNowhereNarrower_l2]; try rw [F_X2_isNowhereNarrower_l2]
      refine sg_bv (t := T.1 1 2) (ag_b hAg (j := 2) (by decide)).1 (ag_b hAg (j := 2) (by decide)).2 (fun y2 ey2 => ?_)
      have hn_y2 : Nn y2 6 := by rw [ey2]; exact hW.1.1
      refine sg_br (fun hc3 => ?_) (fun hc3 => ?_)
      · have hxhc3 := ct_le hn_y2.1 (Nat.le_trans hn_y2.2 (by decide)) (by omega) hc3
        rw [ey2] at hxhc3
        exact Jx2 
      · have hxhc3 := ct_lt hn_y2.1 (Nat.le_trans hn_y2.2 (by decide)) (by omega) hc3
        rw [ey2] at hxhc3
        have hg4 : ¬ ((nI k2) < 0 ∨ 6 ≤ ix (nI k2)) := (in_nI (by omega) (by decide))
        refine sg_gd hg4 ?_
        refine sg_bv (t := T.1 3 (ix (nI k2))) (ag_r hAg (i := 3) ⟨by decide, by decide⟩ (ix_in hg4)).1 (ag_r hAg (i := 3) ⟨by decide, by decide⟩ (ix_in hg4)).2 (fun y5 ey5 => ?_)
        refine sg_br (fun hc6 => ?_) (fun hc6 => ?_)
        · rw [nIs]
          exact IH2 (k2 + 1)  (by omega) (by omega) 
        · have hg7 : ¬ (xa < 0 ∨ 6 ≤ ix xa) := hp_xa
          refine sg_gd hg7 ?_
          have hk8 : ix xa < 6 := by first | decide | (rw [ix_nI (by omega)]; omega) | exact ix_in (by assumption)
          refine sg_bv (t := Z.1 (20 + (ix xa)) (ix (nI k2))) rfl (hAg.2.2.2.1 _ _ (hS2_20 _ _ hk8 (ix_in hg4))).symm (fun y9 ey9 => ?_)
          have hk10 : ix (nI k2) < 6 := by first | decide | (rw [ix_nI (by omega)]; omega) | exact ix_in (by assumption)
          refine sg_bv (t := Z.1 (20 + (ix (nI k2))) (ix xa)) rfl (hAg.2.2.2.1 _ _ (hS2_20 _ _ hk10 (ix_in hg7))).symm (fun y11 ey11 => ?_)
          refine sg_br (fun hc12 => ?_) (fun hc12 => ?_)
          · rw [nIs]
            exact IH2 (k2 + 1)  (by omega) (by omega) 
          · rw [hQ]
            exact sg_ret ⟨rfl, trivial⟩
  exact L2 100 0  (by omega) (by omega) 

set_option maxHeartbeats 4000000 in
theorem sp_X2_widestPaths (B : Mem × Mem) (T : Mem) (rk : Prop) (S D : Nat → Nat → Prop)  (Z Z' : Mem)   (hS2_20 : ∀ r j, r < 6 → j < 6 → S (20 + r) j)   (hAg : Ag B T rk S D Z Z') : Sg (fun a b => a = b ∧ True) (F_X2_widestPaths Z) (F_X2_widestPaths Z') := by
  have hW := hAg.1
  have hb2 := hW.1.1.2
  have hb5 := hW.1.2.2.1.2
  have hb7 := hW.1.2.2.2.1.2
  unfold F_X2_widestPaths
  refine sg_go (fun Q hQ => ?_)
  have Jx2 : Sg Q (F_X2_widestPaths_x2) (F_X2_widestPaths_x2) := by
    unfold F_X2_widestPaths_x2
    rw [hQ]
    exact sg_ret ⟨rfl, trivial⟩
  have L2 : ∀ (n2 k2 : Nat) , k2 ≤ (ix (T.1 1 2)) → (ix (T.1 1 2)) < n2 + k2 → Sg Q (F_X2_widestPaths_l2 Z F_X2_widestPaths_x2 n2 (nI k2)) (F_X2_widestPaths_l2 Z' F_X2_widestPaths_x2 n2 (nI k2)) := by
    intro n2
    induction n2 with
    | zero =>
      intro k2 h1 h2
      exact absurd h2 (by omega)
    | succ n2 IH2 =>
      intro k2 hk2 hf2 
      rw [F_X2_widestPaths_l2]; try rw [F_X2_widestPaths_l2]
      refine sg_bv (t := T.1 1 2) (ag_b hAg (j := 2) (by decide)).1 (ag_b hAg (j := 2) (by decide)).2 (fun y2 ey2 => ?_)
      have hn_y2 : Nn y2 6 := by rw [ey2]; exact hW.1.1
      refine sg_br (fun hc3 => ?_) (fun hc3 => ?_)
      · have hxhc3 := ct_le hn_y2.1 (Nat.le_trans hn_y2.2 (by decide)) (by omega) hc3
        rw [ey2] at hxhc3
        exact Jx2 
      · have hxhc3 := ct_lt hn_y2.1 (Nat.le_trans hn_y2.2 (by decide)) (by omega) hc3
        rw [ey2] at hxhc3
        have hg4 : ¬ ((nI k2) < 0 ∨ 6 ≤ ix (nI k2)) := (in_nI (by omega) (by decide))
        refine sg_gd hg4 ?_
        refine sg_bv (t := T.1 3 (ix (nI k2))) (ag_r hAg (i := 3) ⟨by decide, by decide⟩ (ix_in hg4)).1 (ag_r hAg (i := 3) ⟨by decide, by decide⟩ (ix_in hg4)).2 (fun y5 ey5 => ?_)
        refine sg_br (fun hc6 => ?_) (fun hc6 => ?_)
        · rw [nIs]
          exact IH2 (k2 + 1)  (by omega) (by omega) 
        · refine sg_calp (sp_X2_isNowhereNarrower B T rk _ _  Z Z' (nI k2)  (fun r9 j9 hr9 hj9 => (hS2_20 _ _ hr9 hj9)) (in_nI (by omega) (by decide)) hAg) (fun rr9 hp2 => ?_)
          refine sg_br (fun hc10 => ?_) (fun hc10 => ?_)
          · rw [nIs]
            exact IH2 (k2 + 1)  (by omega) (by omega) 
          · rw [hQ]
            exact sg_ret ⟨rfl, trivial⟩
  exact L2 100 0  (by omega) (by omega) 

set_option maxHeartbeats 4000000 in
theorem sp_X2_countBehind (B : Mem × Mem) (T : Mem) (rk : Prop) (S D : Nat → Nat → Prop)  (Z Z' : Mem) (xa : Int32)  (hS12 : ∀ j, j < 6 → S 12 j)   (hAg : Ag B T rk S D Z Z') : Sg (Qi (fun a b (r : Int32) => Ag B T rk (ext S 13 6) D a b ∧ True)) (F_X2_countBehind Z xa) (F_X2_countBehind Z' xa) := by
  have hW := hAg.1
  have hb2 := hW.1.1.2
  have hb5 := hW.1.2.2.1.2
  have hb7 := hW.1.2.2.2.1.2
  unfold F_X2_countBehind
  refine sg_go (fun Q hQ => ?_)
  have Jx2 : ∀  (Z1 Z1' : Mem), Ag B T rk (ext S 13 6) D Z1 Z1' → Sg Q ((F_X2_countBehind_x2 xa) Z1) ((F_X2_countBehind_x2 xa) Z1') := by
    intro Z1 Z1' hAg
    unfold F_X2_countBehind_x2
    have Jx26 : ∀ (w2 : Int32) (Z3 Z3' : Mem), Ag B T rk (ext S 13 6) D Z3 Z3' → Sg Q (F_X2_countBehind_x26 Z3 w2) (F_X2_countBehind_x26 Z3' w2) := by
      intro w2 Z3 Z3' hAg
      unfold F_X2_countBehind_x26
      rw [hQ]
      exact sg_retm ⟨hAg, trivial⟩
    have L26 : ∀ (n26 k26 : Nat) (u4 : Int32) (Z6 Z6' : Mem), k26 ≤ (ix (T.1 1 7)) → (ix (T.1 1 7)) < n26 + k26 → Ag B T rk (ext S 13 6) D Z6 Z6' → Sg Q (F_X2_countBehind_l26 xa F_X2_countBehind_x26 n26 Z6 u4 (nI k26)) (F_X2_countBehind_l26 xa F_X2_countBehind_x26 n26 Z6' u4 (nI k26)) := by
      intro n26
      induction n26 with
      | zero =>
        intro k26 u4 Z6 Z6' h1 h2
        exact absurd h2 (by omega)
      | succ n26 IH26 =>
        intro k26 u4 Z6 Z6' hk26 hf26 hAg
        rw [F_X2_countBehind_l26]; try rw [F_X2_countBehind_l26]
        refine sg_bv (t := T.1 1 7) (ag_b hAg (j := 7) (by decide)).1 (ag_b hAg (j := 7) (by decide)).2 (fun y7 ey7 => ?_)
        have hn_y7 : Nn y7 24 := by rw [ey7]; exact hW.1.2.2.2.1
        refine sg_br (fun hc8 => ?_) (fun hc8 => ?_)
        · have hxhc8 := ct_le hn_y7.1 (Nat.le_trans hn_y7.2 (by decide)) (by omega) hc8
          rw [ey7] at hxhc8
          exact Jx26 u4 Z6 Z6' hAg
        · have hxhc8 := ct_lt hn_y7.1 (Nat.le_trans hn_y7.2 (by decide)) (by omega) hc8
          rw [ey7] at hxhc8
          have hg9 : ¬ ((nI k26) < 0 ∨ 24 ≤ ix (nI k26)) := (in_nI (by omega) (by decide))
          refine sg_gd hg9 ?_
          have hk10 : ix (nI k26) < ix (T.1 1 7) := by rw [ix_nI (by omega)]; omega
          refine sg_calp (sp_X3_countsIn B T rk _ _  Z6 Z6' (ix (nI k26)) xa hk10  hAg) (fun rr13 hp3 => ?_)
          have Jj66 : ∀ (v14 : Int32), Op v14 6 → Sg Q ((F_X2_countBehind_j66 Z6 u4 (nI k26) (F_X2_countBehind_l26 xa F_X2_countBehind_x26 n26)) v14) ((F_X2_countBehind_j66 Z6' u4 (nI k26) (F_X2_countBehind_l26 xa F_X2_countBehind_x26 n26)) v14) := by
            intro v14 hq_v14
            unfold F_X2_countBehind_j66
            refine sg_br (fun hc15 => ?_) (fun hc15 => ?_)
            · rw [nIs]
              exact IH26 (k26 + 1) u4 Z6 Z6' (by omega) (by omega) hAg
            · have hg16 : ¬ (v14 < 0 ∨ 6 ≤ ix v14) := (in_Op hq_v14 hc15)
              refine sg_gd hg16 ?_
              refine sg_bv (t := Z6.1 13 (ix v14)) rfl (hAg.2.2.2.1 _ _ (ext_in (ix_in hg16))).symm (fun y17 ey17 => ?_)
              refine sg_bv (t := T.1 (39 + (ix (nI k26))) 2) (ag_s hAg hk10 (j := 2) ⟨by decide, fun h => absurd h (by decide), by decide⟩).1 (ag_s hAg hk10 (j := 2) ⟨by decide, fun h => absurd h (by decide), by decide⟩).2 (fun y18 ey18 => ?_)
              have hn_y18 : Nn y18 500 := by rw [ey18]; exact wf_cnt hW hk10
              refine sg_bv (t := y17 + y18) rfl rfl (fun y19 ey19 => ?_)
              refine sg_bz (fun Z20 Z20' eZ20 eZ20' => ?_)
              have hAg : Ag B T rk (ext S 13 6) D Z20 Z20' := by rw [eZ20, eZ20']; exact ag_si hAg ⟨by decide, by decide⟩ (st_id)
              refine sg_bv (t := T.1 (39 + (ix (nI k26))) 2) (ag_s hAg hk10 (j := 2) ⟨by decide, fun h => absurd h (by decide), by decide⟩).1 (ag_s hAg hk10 (j := 2) ⟨by decide, fun h => absurd h (by decide), by decide⟩).2 (fun y21 ey21 => ?_)
              have hn_y21 : Nn y21 500 := by rw [ey21]; exact wf_cnt hW hk10
              refine sg_bv (t := u4 + y21) rfl rfl (fun y22 ey22 => ?_)
              rw [nIs]
              exact IH26 (k26 + 1) y22 Z20 Z20' (by omega) (by omega) hAg
          refine sg_br (fun hc23 => ?_) (fun hc23 => ?_)
          · exact Jj66 ((-1) : Int32) (Or.inl rfl)
          · have hdhp3 := hp3 hc23
            refine sg_calp (sp_X3_firstOf_12 B T rk _ _  Z6 Z6' (ix (nI k26)) hk10 (fun j9 hj9 => (ext_l (hS12 _ hj9))) hAg) (fun rr26 hp4 => ?_)
            exact Jj66 rr26 hp4
    exact L26 100 0 (0 : Int32) Z1 Z1' (by omega) (by omega) hAg
  have L2 : ∀ (n2 k2 : Nat)  (Z28 Z28' : Mem), k2 ≤ 6 → 6 < n2 + k2 → Ag B T rk (ext S 13 k2) D Z28 Z28' → Sg Q (F_X2_countBehind_l2 (F_X2_countBehind_x2 xa) n2 Z28 (nI k2)) (F_X2_countBehind_l2 (F_X2_countBehind_x2 xa) n2 Z28' (nI k2)) := by
    intro n2
    induction n2 with
    | zero =>
      intro k2 Z28 Z28' h1 h2
      exact absurd h2 (by omega)
    | succ n2 IH2 =>
      intro k2 Z28 Z28' hk2 hf2 hAg
      rw [F_X2_countBehind_l2]; try rw [F_X2_countBehind_l2]
      refine sg_br (fun hc29 => ?_) (fun hc29 => ?_)
      · have hxhc29 := ct_le (y := (6 : Int32)) (B := 6) rfl (by decide) (by omega) hc29
        obtain rfl : k2 = 6 := by omega
        exact Jx2 Z28 Z28' hAg
      · have hxhc29 := ct_lt (y := (6 : Int32)) (B := 6) rfl (by decide) (by omega) hc29
        have hg30 : ¬ ((nI k2) < 0 ∨ 6 ≤ ix (nI k2)) := (in_nI (by omega) (by decide))
        refine sg_gd hg30 ?_
        refine sg_bz (fun Z31 Z31' eZ31 eZ31' => ?_)
        have hAg : Ag B T rk (ext S 13 (k2 + 1)) D Z31 Z31' := by rw [eZ31, eZ31']; exact ag_si hAg ⟨by decide, by decide⟩ (st_ext (by omega))
        rw [nIs]
        exact IH2 (k2 + 1) Z31 Z31' (by omega) (by omega) hAg
  exact L2 100 0 Z Z' (by omega) (by omega) (ag_mono hAg (m_0 (m_id)) (m_id))

set_option maxHeartbeats 4000000 in
theorem sp_X2_mostBehind (B : Mem × Mem) (T : Mem) (rk : Prop) (S D : Nat → Nat → Prop)  (Z Z' : Mem)   (hS12 : ∀ j, j < 6 → S 12 j) (hS13 : ∀ j, j < 6 → S 13 j)   (hAg : Ag B T rk S D Z Z') : Sg (fun a b => a = b ∧ Op a 6) (F_X2_mostBehind Z) (F_X2_mostBehind Z') := by
  have hW := hAg.1
  have hb2 := hW.1.1.2
  have hb5 := hW.1.2.2.1.2
  have hb7 := hW.1.2.2.2.1.2
  unfold F_X2_mostBehind
  refine sg_go (fun Q hQ => ?_)
  have Jx4 : ∀ (w1 : Int32), Op w1 6 → Sg Q (F_X2_mostBehind_x4 w1) (F_X2_mostBehind_x4 w1) := by
    intro w1 hq_w1
    unfold F_X2_mostBehind_x4
    rw [hQ]
    exact sg_ret ⟨rfl, hq_w1⟩
  have L4 : ∀ (n4 k4 : Nat) (u2 : Int32), k4 ≤ 6 → 6 < n4 + k4 → Op u2 6 → Sg Q (F_X2_mostBehind_l4 Z F_X2_mostBehind_x4 n4 u2 (nI k4)) (F_X2_mostBehind_l4 Z' F_X2_mostBehind_x4 n4 u2 (nI k4)) := by
    intro n4
    induction n4 with
    | zero =>
      intro k4 u2 h1 h2
      exact absurd h2 (by omega)
    | succ n4 IH4 =>
      intro k4 u2 hk4 hf4 hq_u2
      rw [F_X2_mostBehind_l4]; try rw [F_X2_mostBehind_l4]
      refine sg_br (fun hc4 => ?_) (fun hc4 => ?_)
      · have hxhc4 := ct_le (y := (6 : Int32)) (B := 6) rfl (by decide) (by omega) hc4
        exact Jx4 u2 hq_u2
      · have hxhc4 := ct_lt (y := (6 : Int32)) (B := 6) rfl (by decide) (by omega) hc4
        have hg5 : ¬ ((nI k4) < 0 ∨ 6 ≤ ix (nI k4)) := (in_nI (by omega) (by decide))
        refine sg_gd hg5 ?_
        refine sg_bv (t := Z.1 12 (ix (nI k4))) rfl (hAg.2.2.2.1 _ _ (hS12 _ (ix_in hg5))).symm (fun y6 ey6 => ?_)
        refine sg_br (fun hc7 => ?_) (fun hc7 => ?_)
        · rw [nIs]
          exact IH4 (k4 + 1) u2 (by omega) (by omega) hq_u2
        · refine sg_br (fun hc8 => ?_) (fun hc8 => ?_)
          · rw [nIs]
            exact IH4 (k4 + 1) (nI k4) (by omega) (by omega) (Or.inr (in_nI (by omega) (by decide)))
          · refine sg_bv (t := Z.1 13 (ix (nI k4))) rfl (hAg.2.2.2.1 _ _ (hS13 _ (ix_in hg5))).symm (fun y9 ey9 => ?_)
            have hg10 : ¬ (u2 < 0 ∨ 6 ≤ ix u2) := (in_Op hq_u2 hc8)
            refine sg_gd hg10 ?_
            refine sg_bv (t := Z.1 13 (ix u2)) rfl (hAg.2.2.2.1 _ _ (hS13 _ (ix_in hg10))).symm (fun y11 ey11 => ?_)
            refine sg_br (fun hc12 => ?_) (fun hc12 => ?_)
            · rw [nIs]
              exact IH4 (k4 + 1) u2 (by omega) (by omega) hq_u2
            · rw [nIs]
              exact IH4 (k4 + 1) (nI k4) (by omega) (by omega) (Or.inr (in_nI (by omega) (by decide)))
  exact L4 100 0 ((-1) : Int32) (by omega) (by omega) (Or.inl rfl)

set_option maxHeartbeats 4000000 in
theorem sp_X2_isNoStronger (B : Mem × Mem) (T : Mem) (rk : Prop) (S D : Nat → Nat → Prop)  (Z Z' : Mem) (xa : Int32) (xb : Int32)  (hS13 : ∀ j, j < 6 → S 13 j) (hD8 : ∀ j, j < 6 → D 8 j) (hp_xa : ¬ (xa < 0 ∨ 6 ≤ ix xa)) (hp_xb : ¬ (xb < 0 ∨ 6 ≤ ix xb))  (hAg : Ag B T rk S D Z Z') : Sg (fun a b => a = b ∧ True) (F_X2_isNoStronger Z xa xb) (F_X2_isNoStronger Z' xa xb) := by
  have hW := hAg.1
  have hb2 := hW.1.1.2
  have hb5 := hW.1.2.2.1.2
  have hb7 := hW.1.2.2.2.1.2
  unfold F_X2_isNoStronger
  refine sg_go (fun Q hQ => ?_)
  have hg1 : ¬ (xa < 0 ∨ 6 ≤ ix xa) := hp_xa
  refine sg_gd hg1 ?_
  refine sg_bv (t := Z.1 13 (ix xa)) rfl (hAg.2.2.2.1 _ _ (hS13 _ (ix_in hg1))).symm (fun y2 ey2 => ?_)
  have hg3 : ¬ (xb < 0 ∨ 6 ≤ ix xb) := hp_xb
  refine sg_gd hg3 ?_
  refine sg_bv (t := Z.1 13 (ix xb)) rfl (hAg.2.2.2.1 _ _ (hS13 _ (ix_in hg3))).symm (fun y4 ey4 => ?_)
  refine sg_br (fun hc5 => ?_) (fun hc5 => ?_)
  · refine sg_bv (t := Z.2 8 (ix xa)) rfl (hAg.2.2.2.2 _ _ (hD8 _ (ix_in hg1))).symm (fun y6 ey6 => ?_)
    refine sg_bv (t := Z.2 8 (ix xb)) rfl (hAg.2.2.2.2 _ _ (hD8 _ (ix_in hg3))).symm (fun y7 ey7 => ?_)
    refine sg_bv (t := Op.cmpValue (FP.dcmp y6 y7) .g) rfl rfl (fun y8 ey8 => ?_)
    refine sg_br (fun hc9 => ?_) (fun hc9 => ?_)
    · rw [hQ]
      exact sg_ret ⟨rfl, trivial⟩
    · rw [hQ]
      exact sg_ret ⟨rfl, trivial⟩
  · refine sg_bv (t := Z.1 13 (ix xa)) rfl (hAg.2.2.2.1 _ _ (hS13 _ (ix_in hg1))).symm (fun y10 ey10 => ?_)
    refine sg_bv (t := Z.1 13 (ix xb)) rfl (hAg.2.2.2.1 _ _ (hS13 _ (ix_in hg3))).symm (fun y11 ey11 => ?_)
    refine sg_br (fun hc12 => ?_) (fun hc12 => ?_)
    · rw [hQ]
      exact sg_ret ⟨rfl, trivial⟩
    · rw [hQ]
      exact sg_ret ⟨rfl, trivial⟩

set_option maxHeartbeats 4000000 in
theorem sp_X2_leastBehind (B : Mem × Mem) (T : Mem) (rk : Prop) (S D : Nat → Nat → Prop)  (Z Z' : Mem) (xa : Int32)  (hS12 : ∀ j, j < 6 → S 12 j) (hS13 : ∀ j, j < 6 → S 13 j) (hD8 : ∀ j, j < 6 → D 8 j) (hp_xa : ¬ (xa < 0 ∨ 6 ≤ ix xa))  (hAg : Ag B T rk S D Z Z') : Sg (fun a b => a = b ∧ ¬ (a < 0 ∨ 6 ≤ ix a)) (F_X2_leastBehind Z xa) (F_X2_leastBehind Z' xa) := by
  have hW := hAg.1
  have hb2 := hW.1.1.2
  have hb5 := hW.1.2.2.1.2
  have hb7 := hW.1.2.2.2.1.2
  unfold F_X2_leastBehind
  refine sg_go (fun Q hQ => ?_)
  have Jx4 : ∀ (w1 : Int32), ¬ (w1 < 0 ∨ 6 ≤ ix w1) → Sg Q (F_X2_leastBehind_x4 w1) (F_X2_leastBehind_x4 w1) := by
    intro w1 hq_w1
    unfold F_X2_leastBehind_x4
    rw [hQ]
    exact sg_ret ⟨rfl, hq_w1⟩
  have L4 : ∀ (n4 k4 : Nat) (u2 : Int32), k4 ≤ 6 → 6 < n4 + k4 → ¬ (u2 < 0 ∨ 6 ≤ ix u2) → Sg Q (F_X2_leastBehind_l4 Z F_X2_leastBehind_x4 n4 u2 (nI k4)) (F_X2_leastBehind_l4 Z' F_X2_leastBehind_x4 n4 u2 (nI k4)) := by
    intro n4
    induction n4 with
    | zero =>
      intro k4 u2 h1 h2
      exact absurd h2 (by omega)
    | succ n4 IH4 =>
      intro k4 u2 hk4 hf4 hq_u2
      rw [F_X2_leastBehind_l4]; try rw [F_X2_leastBehind_l4]
      refine sg_br (fun hc4 => ?_) (fun hc4 => ?_)
      · have hxhc4 := ct_le (y := (6 : Int32)) (B := 6) rfl (by decide) (by omega) hc4
        exact Jx4 u2 hq_u2
      · have hxhc4 := ct_lt (y := (6 : Int32)) (B := 6) rfl (by decide) (by omega) hc4
        have hg5 : ¬ ((nI k4) < 0 ∨ 6 ≤ ix (nI k4)) := (in_nI (by omega) (by decide))
        refine sg_gd hg5 ?_
        refine sg_bv (t := Z.1 12 (ix (nI k4))) rfl (hAg.2.2.2.1 _ _ (hS12 _ (ix_in hg5))).symm (fun y6 ey6 => ?_)
        refine sg_br (fun hc7 => ?_) (fun hc7 => ?_)
        · rw [nIs]
          exact IH4 (k4 + 1) u2 (by omega) (by omega) hq_u2
        · refine sg_calp (sp_X2_isNoStronger B T rk _ _  Z Z' (nI k4) u2  (fun j9 hj9 => (hS13 _ hj9)) (fun j9 hj9 => (hD8 _ hj9)) (in_nI (by omega) (by decide)) hq_u2 hAg) (fun rr10 hp2 => ?_)
          refine sg_br (fun hc11 => ?_) (fun hc11 => ?_)
          · rw [nIs]
            exact IH4 (k4 + 1) u2 (by omega) (by omega) hq_u2
          · rw [nIs]
            exact IH4 (k4 + 1) (nI k4) (by omega) (by omega) (in_nI (by omega) (by decide))
  exact L4 100 0 xa (by omega) (by omega) hp_xa

set_option maxHeartbeats 4000000 in
theorem sp_X2_goRounds (B : Mem × Mem) (T : Mem) (rk : Prop) (S D : Nat → Nat → Prop)  (Z Z' : Mem) (xa : Int32)     (hAg : Ag B T rk S D Z Z') : Sg (Qi (fun a b (r : Int32) => Ag B T rk (ext (ext S 12 6) 11 6) (ext D 8 6) a b ∧ True)) (F_X2_goRounds Z xa) (F_X2_goRounds Z' xa) := by
  have hW := hAg.1
  have hb2 := hW.1.1.2
  have hb5 := hW.1.2.2.1.2
  have hb7 := hW.1.2.2.2.1.2
  unfold F_X2_goRounds
  refine sg_go (fun Q hQ => ?_)
  refine sg_cal (sp_X2_countPoints B T rk _ _  Z Z' xa   hAg) (fun Z2 Z2' _ hp6 => ?_)
  have hAg := hp6.1
  have Jx8 : ∀  (Z4 Z4' : Mem), Ag B T rk (ext (ext S 12 6) 11 6) (ext D 8 6) Z4 Z4' → Sg Q ((F_X2_goRounds_x8 xa) Z4) ((F_X2_goRounds_x8 xa) Z4') := by
    intro Z4 Z4' hAg
    unfold F_X2_goRounds_x8
    have Jx40 : ∀  (Z5 Z5' : Mem), Ag B T rk (ext (ext S 12 6) 11 6) (ext D 8 6) Z5 Z5' → Sg Q (F_X2_goRounds_x40 Z5) (F_X2_goRounds_x40 Z5') := by
      intro Z5 Z5' hAg
      unfold F_X2_goRounds_x40
      rw [hQ]
      exact sg_retm ⟨hAg, trivial⟩
    have L40 : ∀ (n40 k40 : Nat)  (Z7 Z7' : Mem), k40 ≤ 6 → 6 < n40 + k40 → Ag B T rk (ext (ext S 12 6) 11 6) (ext D 8 6) Z7 Z7' → Sg Q (F_X2_goRounds_l40 xa F_X2_goRounds_x40 n40 Z7 (nI k40)) (F_X2_goRounds_l40 xa F_X2_goRounds_x40 n40 Z7' (nI k40)) := by
      intro n40
      induction n40 with
      | zero =>
        intro k40 Z7 Z7' h1 h2
        exact absurd h2 (by omega)
      | succ n40 IH40 =>
        intro k40 Z7 Z7' hk40 hf40 hAg
        rw [F_X2_goRounds_l40]; try rw [F_X2_goRounds_l40]
        refine sg_br (fun hc8 => ?_) (fun hc8 => ?_)
        · have hxhc8 := ct_le (y := (6 : Int32)) (B := 6) rfl (by decide) (by omega) hc8
          exact Jx40 Z7 Z7' hAg
        · have hxhc8 := ct_lt (y := (6 : Int32)) (B := 6) rfl (by decide) (by omega) hc8
          refine sg_cal (sp_X2_countBehind B T rk _ _  Z7 Z7' xa  (fun j9 hj9 => (ext_l (ext_in hj9))) hAg) (fun Z11 Z11' rr12 hp7 => ?_)
          have hAg := hp7.1
          refine sg_calp (sp_X2_mostBehind B T rk _ _  Z11 Z11'   (fun j9 hj9 => (ext_l (ext_l (ext_in hj9)))) (fun j9 hj9 => (ext_in hj9)) hAg) (fun rr15 hp8 => ?_)
          refine sg_brn (fun hc16 => ?_) (fun hc16 => ?_)
          · refine sg_bv (t := T.1 1 3) (ag_b hAg (j := 3) (by decide)).1 (ag_b hAg (j := 3) (by decide)).2 (fun y17 ey17 => ?_)
            have hn_y17 : Nn y17 6 := by rw [ey17]; exact hW.1.2.1
            refine sg_bv (t := y17 - (nI k40)) rfl rfl (fun y18 ey18 => ?_)
            have Jj83 : ∀ (v19 : Int32), Sg Q ((F_X2_goRounds_j83 (nI k40) (F_X2_goRounds_l40 xa F_X2_goRounds_x40 n40) Z11 rr12 rr15) v19) ((F_X2_goRounds_j83 (nI k40) (F_X2_goRounds_l40 xa F_X2_goRounds_x40 n40) Z11' rr12 rr15) v19) := by
              intro v19
              unfold F_X2_goRounds_j83
              refine sg_brn (fun hc20 => ?_) (fun hc20 => ?_)
              · rw [hQ]
                exact sg_retm ⟨(ag_mono hAg (m_l (m_id)) (m_id)), trivial⟩
              · have hg21 : ¬ (rr15 < 0 ∨ 6 ≤ ix rr15) := (in_Op hp8 hc16)
                refine sg_gd hg21 ?_
                refine sg_bv (t := Z11.1 13 (ix rr15)) rfl (hAg.2.2.2.1 _ _ (ext_in (ix_in hg21))).symm (fun y22 ey22 => ?_)
                refine sg_bv (t := (2 : Int32) * y22) rfl rfl (fun y23 ey23 => ?_)
                refine sg_br (fun hc24 => ?_) (fun hc24 => ?_)
                · refine sg_calp (sp_X2_leastBehind B T rk _ _  Z11 Z11' rr15  (fun j9 hj9 => (ext_l (ext_l (ext_in hj9)))) (fun j9 hj9 => (ext_in hj9)) (fun j9 hj9 => (ext_in hj9)) (in_Op hp8 hc16) hAg) (fun rr27 hp9 => ?_)
                  have hg28 : ¬ (rr27 < 0 ∨ 6 ≤ ix rr27) := hp9
                  refine sg_gd hg28 ?_
                  refine sg_bz (fun Z29 Z29' eZ29 eZ29' => ?_)
                  have hAg : Ag B T rk (ext (ext (ext S 12 6) 11 6) 13 6) (ext D 8 6) Z29 Z29' := by rw [eZ29, eZ29']; exact ag_si hAg ⟨by decide, by decide⟩ (st_id)
                  have hg30 : ¬ ((nI k40) < 0 ∨ 6 ≤ ix (nI k40)) := (in_nI (by omega) (by decide))
                  refine sg_gd hg30 ?_
                  refine sg_bz (fun Z31 Z31' eZ31 eZ31' => ?_)
                  have hAg : Ag B T rk (ext (ext (ext S 12 6) 11 6) 13 6) (ext D 8 6) Z31 Z31' := by rw [eZ31, eZ31']; exact ag_si hAg ⟨by decide, by decide⟩ (st_id)
                  rw [nIs]
                  exact IH40 (k40 + 1) Z31 Z31' (by omega) (by omega) (ag_mono hAg (m_l (m_id)) (m_id))
                · rw [hQ]
                  exact sg_retm ⟨(ag_mono hAg (m_l (m_id)) (m_id)), trivial⟩
            refine sg_brn (fun hc32 => ?_) (fun hc32 => ?_)
            · exact Jj83 (0 : Int32)
            · exact Jj83 (1 : Int32)
          · rw [hQ]
            exact sg_retm ⟨(ag_mono hAg (m_l (m_id)) (m_id)), trivial⟩
    exact L40 100 0 Z4 Z4' (by omega) (by omega) hAg
  have L8 : ∀ (n8 k8 : Nat)  (Z34 Z34' : Mem), k8 ≤ 6 → 6 < n8 + k8 → Ag B T rk (ext (ext S 12 k8) 11 k8) (ext D 8 6) Z34 Z34' → Sg Q (F_X2_goRounds_l8 (F_X2_goRounds_x8 xa) n8 Z34 (nI k8)) (F_X2_goRounds_l8 (F_X2_goRounds_x8 xa) n8 Z34' (nI k8)) := by
    intro n8
    induction n8 with
    | zero =>
      intro k8 Z34 Z34' h1 h2
      exact absurd h2 (by omega)
    | succ n8 IH8 =>
      intro k8 Z34 Z34' hk8 hf8 hAg
      rw [F_X2_goRounds_l8]; try rw [F_X2_goRounds_l8]
      refine sg_br (fun hc35 => ?_) (fun hc35 => ?_)
      · have hxhc35 := ct_le (y := (6 : Int32)) (B := 6) rfl (by decide) (by omega) hc35
        obtain rfl : k8 = 6 := by omega
        exact Jx8 Z34 Z34' hAg
      · have hxhc35 := ct_lt (y := (6 : Int32)) (B := 6) rfl (by decide) (by omega) hc35
        refine sg_calp (sp_X0_isStanding B T rk _ _  Z34 Z34' (nI k8)   hAg) (fun rr38 hp10 => ?_)
        have hg39 : ¬ ((nI k8) < 0 ∨ 6 ≤ ix (nI k8)) := (in_nI (by omega) (by decide))
        refine sg_gd hg39 ?_
        refine sg_bz (fun Z40 Z40' eZ40 eZ40' => ?_)
        have hAg : Ag B T rk (ext (ext S 12 (k8 + 1)) 11 k8) (ext D 8 6) Z40 Z40' := by rw [eZ40, eZ40']; exact ag_si hAg ⟨by decide, by decide⟩ (st_cong (st_ext (by omega)))
        refine sg_bz (fun Z41 Z41' eZ41 eZ41' => ?_)
        have hAg : Ag B T rk (ext (ext S 12 (k8 + 1)) 11 (k8 + 1)) (ext D 8 6) Z41 Z41' := by rw [eZ41, eZ41']; exact ag_si hAg ⟨by decide, by decide⟩ (st_ext (by omega))
        rw [nIs]
        exact IH8 (k8 + 1) Z41 Z41' (by omega) (by omega) hAg
  exact L8 100 0 Z2 Z2' (by omega) (by omega) (ag_mono hAg (m_0 (m_0 (m_id))) (m_id))

set_option maxHeartbeats 4000000 in
theorem sp_X2_winnerBy (B : Mem × Mem) (T : Mem) (rk : Prop) (S D : Nat → Nat → Prop)  (Z Z' : Mem) (xa : Int32) (xb : Int32)     (hAg : Ag B T rk S D Z Z') : Sg (Qi (fun a b (r : Int32) => Ag B T rk S D a b ∧ True)) (F_X2_winnerBy Z xa xb) (F_X2_winnerBy Z' xa xb) := by
  have hW := hAg.1
  have hb2 := hW.1.1.2
  have hb5 := hW.1.2.2.1.2
  have hb7 := hW.1.2.2.2.1.2
  unfold F_X2_winnerBy
  refine sg_go (fun Q hQ => ?_)
  refine sg_br (fun hq1 => ?_) (fun hq1 => ?_)
  · refine sg_cal (sp_X2_countFirsts B T rk _ _  Z Z' xa   hAg) (fun Z3 Z3' _ hp8 => ?_)
    have hAg := hp8.1
    refine sg_calp (sp_X2_mostFirsts B T rk _ _  Z3 Z3'   (fun j9 hj9 => (ext_in hj9)) hAg) (fun rr7 hp9 => ?_)
    rw [hQ]
    exact sg_retm ⟨(ag_mono hAg (m_l (m_id)) (m_id)), trivial⟩
  refine sg_br (fun hq8 => ?_) (fun hq8 => ?_)
  · refine sg_cal (sp_X2_countPoints B T rk _ _  Z Z' xa   hAg) (fun Z10 Z10' _ hp10 => ?_)
    have hAg := hp10.1
    refine sg_calp (sp_X2_mostPoints B T rk _ _  Z10 Z10'   (fun j9 hj9 => (ext_in hj9)) hAg) (fun rr14 hp11 => ?_)
    rw [hQ]
    exact sg_retm ⟨(ag_mono hAg (m_id) (m_l (m_id))), trivial⟩
  refine sg_br (fun hq15 => ?_) (fun hq15 => ?_)
  · refine sg_cal (sp_X2_countPairs B T rk _ _  Z Z' xa   hAg) (fun Z17 Z17' _ hp12 => ?_)
    have hAg := hp12.1
    refine sg_calp (sp_X2_widestPaths B T rk _ _  Z17 Z17'   (fun r9 j9 hr9 hj9 => (ext2_in hr9 hj9)) hAg) (fun rr21 hp13 => ?_)
    rw [hQ]
    exact sg_retm ⟨(ag_mono hAg (m_l2 (m_l2 (m_id))) (m_id)), trivial⟩
  refine sg_cal (sp_X2_goRounds B T rk _ _  Z Z' xa   hAg) (fun Z24 Z24' rr25 hp14 => ?_)
  have hAg := hp14.1
  rw [hQ]
  exact sg_retm ⟨(ag_mono hAg (m_l (m_l (m_id))) (m_l (m_id))), trivial⟩

set_option maxHeartbeats 4000000 in
theorem sp_X2_shiftTo (B : Mem × Mem) (T : Mem) (rk : Prop) (S D : Nat → Nat → Prop)  (Z Z' : Mem) (xa : Int32) (xb : Int32)  (hS7 : ∀ j, j < 6 → S 7 j) (hp_xa : ¬ (xa < 0 ∨ 6 ≤ ix xa)) (hp_xb : ¬ (xb < 0 ∨ 6 ≤ ix xb))  (hAg : Ag B T rk S D Z Z') : Sg (fun a b => a = b ∧ True) (F_X2_shiftTo Z xa xb) (F_X2_shiftTo Z' xa xb) := by
  have hW := hAg.1
  have hb2 := hW.1.1.2
  have hb5 := hW.1.2.2.1.2
  have hb7 := hW.1.2.2.2.1.2
  unfold F_X2_shiftTo
  refine sg_go (fun Q hQ => ?_)
  have hg1 : ¬ (xa < 0 ∨ 6 ≤ ix xa) := hp_xa
  refine sg_gd hg1 ?_
  refine sg_bv (t := Z.1 7 (ix xa)) rfl (hAg.2.2.2.1 _ _ (hS7 _ (ix_in hg1))).symm (fun y2 ey2 => ?_)
  have hg3 : ¬ (xb < 0 ∨ 6 ≤ ix xb) := hp_xb
  refine sg_gd hg3 ?_
  refine sg_bv (t := Z.1 7 (ix xb)) rfl (hAg.2.2.2.1 _ _ (hS7 _ (ix_in hg3))).symm (fun y4 ey4 => ?_)
  refine sg_bv (t := y2 - y4) rfl rfl (fun y5 ey5 => ?_)
  refine sg_br (fun hc6 => ?_) (fun hc6 => ?_)
  · refine sg_bv (t := y5 / (2 : Int32)) rfl rfl (fun y7 ey7 => ?_)
    refine sg_bv (t := y7 + (1 : Int32)) rfl rfl (fun y8 ey8 => ?_)
    rw [hQ]
    exact sg_ret ⟨rfl, trivial⟩
  · refine sg_bv (t := y5 + (1 : Int32)) rfl rfl (fun y9 ey9 => ?_)
    refine sg_bv (t := y9 / (2 : Int32)) rfl rfl (fun y10 ey10 => ?_)
    rw [hQ]
    exact sg_ret ⟨rfl, trivial⟩

set_option maxHeartbeats 4000000 in
theorem sp_X2_leastShift (B : Mem × Mem) (T : Mem) (rk : Prop) (S D : Nat → Nat → Prop)  (Z Z' : Mem) (xa : Int32)     (hAg : Ag B T rk S D Z Z') : Sg (Qi (fun a b (r : Int32) => Ag B T rk (ext S 7 6) D a b ∧ True)) (F_X2_leastShift Z xa) (F_X2_leastShift Z' xa) := by
  have hW := hAg.1
  have hb2 := hW.1.1.2
  have hb5 := hW.1.2.2.1.2
  have hb7 := hW.1.2.2.2.1.2
  unfold F_X2_leastShift
  refine sg_go (fun Q hQ => ?_)
  refine sg_cal (sp_X2_countFirsts B T rk _ _  Z Z' xa   hAg) (fun Z2 Z2' _ hp4 => ?_)
  have hAg := hp4.1
  refine sg_calp (sp_X2_mostFirsts B T rk _ _  Z2 Z2'   (fun j9 hj9 => (ext_in hj9)) hAg) (fun rr6 hp5 => ?_)
  refine sg_br (fun hc7 => ?_) (fun hc7 => ?_)
  · rw [hQ]
    exact sg_retm ⟨hAg, trivial⟩
  · have hg8 : ¬ (rr6 < 0 ∨ 6 ≤ ix rr6) := (in_Op hp5 hc7)
    refine sg_gd hg8 ?_
    refine sg_bv (t := Z2.1 7 (ix rr6)) rfl (hAg.2.2.2.1 _ _ (ext_in (ix_in hg8))).symm (fun y9 ey9 => ?_)
    refine sg_brn (fun hc10 => ?_) (fun hc10 => ?_)
    · have Jx34 : ∀ (w11 : Int32), Sg Q ((F_X2_leastShift_x34 Z2) w11) ((F_X2_leastShift_x34 Z2') w11) := by
        intro w11
        unfold F_X2_leastShift_x34
        rw [hQ]
        exact sg_retm ⟨hAg, trivial⟩
      have L34 : ∀ (n34 k34 : Nat) (u12 : Int32), k34 ≤ (ix (T.1 1 2)) → (ix (T.1 1 2)) < n34 + k34 → Sg Q (F_X2_leastShift_l34 Z2 rr6 (F_X2_leastShift_x34 Z2) n34 u12 (nI k34)) (F_X2_leastShift_l34 Z2' rr6 (F_X2_leastShift_x34 Z2') n34 u12 (nI k34)) := by
        intro n34
        induction n34 with
        | zero =>
          intro k34 u12 h1 h2
          exact absurd h2 (by omega)
        | succ n34 IH34 =>
          intro k34 u12 hk34 hf34 
          rw [F_X2_leastShift_l34]; try rw [F_X2_leastShift_l34]
          refine sg_bv (t := T.1 1 2) (ag_b hAg (j := 2) (by decide)).1 (ag_b hAg (j := 2) (by decide)).2 (fun y14 ey14 => ?_)
          have hn_y14 : Nn y14 6 := by rw [ey14]; exact hW.1.1
          refine sg_br (fun hc15 => ?_) (fun hc15 => ?_)
          · have hxhc15 := ct_le hn_y14.1 (Nat.le_trans hn_y14.2 (by decide)) (by omega) hc15
            rw [ey14] at hxhc15
            exact Jx34 u12
          · have hxhc15 := ct_lt hn_y14.1 (Nat.le_trans hn_y14.2 (by decide)) (by omega) hc15
            rw [ey14] at hxhc15
            have hg16 : ¬ ((nI k34) < 0 ∨ 6 ≤ ix (nI k34)) := (in_nI (by omega) (by decide))
            refine sg_gd hg16 ?_
            refine sg_bv (t := T.1 3 (ix (nI k34))) (ag_r hAg (i := 3) ⟨by decide, by decide⟩ (ix_in hg16)).1 (ag_r hAg (i := 3) ⟨by decide, by decide⟩ (ix_in hg16)).2 (fun y17 ey17 => ?_)
            refine sg_br (fun hc18 => ?_) (fun hc18 => ?_)
            · rw [nIs]
              exact IH34 (k34 + 1) u12 (by omega) (by omega) 
            · refine sg_br (fun hc19 => ?_) (fun hc19 => ?_)
              · rw [nIs]
                exact IH34 (k34 + 1) u12 (by omega) (by omega) 
              · refine sg_calp (sp_X2_shiftTo B T rk _ _  Z2 Z2' rr6 (nI k34)  (fun j9 hj9 => (ext_in hj9)) (in_Op hp5 hc7) (in_nI (by omega) (by decide)) hAg) (fun rr22 hp6 => ?_)
                refine sg_brn (fun hc23 => ?_) (fun hc23 => ?_)
                · refine sg_bv (t := if rr22 < u12 then rr22 else u12) rfl rfl (fun y24 ey24 => ?_)
                  rw [nIs]
                  exact IH34 (k34 + 1) y24 (by omega) (by omega) 
                · rw [nIs]
                  exact IH34 (k34 + 1) rr22 (by omega) (by omega) 
      exact L34 100 0 ((-1) : Int32) (by omega) (by omega) 
    · rw [hQ]
      exact sg_retm ⟨hAg, trivial⟩

set_option maxHeartbeats 4000000 in
theorem sp_X4_start (B : Mem × Mem) (T : Mem) (rk : Prop) (S D : Nat → Nat → Prop)  (Z Z' : Mem) (xa : Int32)     (hAg : Ag B T rk S D Z Z') : Sg (Qi (fun a b (r : Unit) => Ag B T rk (ext (ext S 27 5) 28 6) (vds D T xa (ix (T.1 1 7))) a b ∧ True)) (F_X4_start Z xa) (F_X4_start Z' xa) := by
  have hW := hAg.1
  have hb2 := hW.1.1.2
  have hb5 := hW.1.2.2.1.2
  have hb7 := hW.1.2.2.2.1.2
  unfold F_X4_start
  refine sg_go (fun Q hQ => ?_)
  have Jx2 : ∀  (Z1 Z1' : Mem), Ag B T rk (ext S 27 5) D Z1 Z1' → Sg Q ((F_X4_start_x2 xa) Z1) ((F_X4_start_x2 xa) Z1') := by
    intro Z1 Z1' hAg
    unfold F_X4_start_x2
    have Jx22 : ∀  (Z2 Z2' : Mem), Ag B T rk (ext (ext S 27 5) 28 6) D Z2 Z2' → Sg Q ((F_X4_start_x22 xa) Z2) ((F_X4_start_x22 xa) Z2') := by
      intro Z2 Z2' hAg
      unfold F_X4_start_x22
      have Jx47 : ∀  (Z3 Z3' : Mem), Ag B T rk (ext (ext S 27 5) 28 6) (vds D T xa (ix (T.1 1 7))) Z3 Z3' → Sg Q (F_X4_start_x47 Z3) (F_X4_start_x47 Z3') := by
        intro Z3 Z3' hAg
        unfold F_X4_start_x47
        rw [hQ]
        exact sg_retm ⟨hAg, trivial⟩
      have L47 : ∀ (n47 k47 : Nat)  (Z5 Z5' : Mem), k47 ≤ (ix (T.1 1 7)) → (ix (T.1 1 7)) < n47 + k47 → Ag B T rk (ext (ext S 27 5) 28 6) (vds D T xa k47) Z5 Z5' → Sg Q (F_X4_start_l47 xa F_X4_start_x47 n47 Z5 (nI k47)) (F_X4_start_l47 xa F_X4_start_x47 n47 Z5' (nI k47)) := by
        intro n47
        induction n47 with
        | zero =>
          intro k47 Z5 Z5' h1 h2
          exact absurd h2 (by omega)
        | succ n47 IH47 =>
          intro k47 Z5 Z5' hk47 hf47 hAg
          rw [F_X4_start_l47]; try rw [F_X4_start_l47]
          refine sg_bv (t := T.1 1 7) (ag_b hAg (j := 7) (by decide)).1 (ag_b hAg (j := 7) (by decide)).2 (fun y6 ey6 => ?_)
          have hn_y6 : Nn y6 24 := by rw [ey6]; exact hW.1.2.2.2.1
          refine sg_br (fun hc7 => ?_) (fun hc7 => ?_)
          · have hxhc7 := ct_le hn_y6.1 (Nat.le_trans hn_y6.2 (by decide)) (by omega) hc7
            rw [ey6] at hxhc7
            obtain rfl : k47 = (ix (T.1 1 7)) := by omega
            exact Jx47 Z5 Z5' hAg
          · have hxhc7 := ct_lt hn_y6.1 (Nat.le_trans hn_y6.2 (by decide)) (by omega) hc7
            rw [ey6] at hxhc7
            have hg8 : ¬ ((nI k47) < 0 ∨ 24 ≤ ix (nI k47)) := (in_nI (by omega) (by decide))
            refine sg_gd hg8 ?_
            have hk9 : ix (nI k47) < ix (T.1 1 7) := by rw [ix_nI (by omega)]; omega
            refine sg_bv (t := T.1 (39 + (ix (nI k47))) 0) (ag_s hAg hk9 (j := 0) ⟨by decide, fun h => absurd h (by decide), by decide⟩).1 (ag_s hAg hk9 (j := 0) ⟨by decide, fun h => absurd h (by decide), by decide⟩).2 (fun y10 ey10 => ?_)
            have hn_y10 : Nn y10 3 := by rw [ey10]; exact wf_dis hW hk9
            refine sg_brn (fun hc11 => ?_) (fun hc11 => ?_)
            · rw [nIs]
              exact IH47 (k47 + 1) Z5 Z5' (by omega) (by omega) (ag_mono hAg (m_id) (vds_no (fun h9 => absurd (show T.1 (39 + ix (nI k47)) 0 = xa by rw [ix_nI (by omega)]; exact h9) (by rw [← ey10]; assumption))))
            · refine sg_bv (t := T.1 (39 + (ix (nI k47))) 3) (ag_s hAg hk9 (j := 3) ⟨by decide, fun h => absurd h (by decide), by decide⟩).1 (ag_s hAg hk9 (j := 3) ⟨by decide, fun h => absurd h (by decide), by decide⟩).2 (fun y12 ey12 => ?_)
              have Jj92 : ∀ (v13 : UInt64), (Mg v13 1100) → Sg Q ((F_X4_start_j92 Z5 (nI k47) (F_X4_start_l47 xa F_X4_start_x47 n47)) v13) ((F_X4_start_j92 Z5' (nI k47) (F_X4_start_l47 xa F_X4_start_x47 n47)) v13) := by
                intro v13 hq_v13
                unfold F_X4_start_j92
                refine sg_bz (fun Z14 Z14' eZ14 eZ14' => ?_)
                have hAg : Ag B T rk (ext (ext S 27 5) 28 6) (vds D T xa (k47 + 1)) Z14 Z14' := by rw [eZ14, eZ14']; exact ag_sd hAg (Or.inr hq_v13) (st_vds (by rw [ix_nI (by omega)]))
                rw [nIs]
                exact IH47 (k47 + 1) Z14 Z14' (by omega) (by omega) hAg
              refine sg_br (fun hc15 => ?_) (fun hc15 => ?_)
              · refine sg_bv (t := T.1 (39 + (ix (nI k47))) 2) (ag_s hAg hk9 (j := 2) ⟨by decide, fun h => absurd h (by decide), by decide⟩).1 (ag_s hAg hk9 (j := 2) ⟨by decide, fun h => absurd h (by decide), by decide⟩).2 (fun y16 ey16 => ?_)
                have hn_y16 : Nn y16 500 := by rw [ey16]; exact wf_cnt hW hk9
                refine sg_bv (t := FP.i2d y16) rfl rfl (fun y17 ey17 => ?_)
                exact Jj92 y17 (by rw [ey17]; exact mg_mono (mg_i2d _) (by decide))
              · exact Jj92 FP.dconst0 (mg_c (by decide +kernel))
      exact L47 100 0 Z2 Z2' (by omega) (by omega) (ag_mono hAg (m_id) (vds_0 (m_id)))
    have L22 : ∀ (n22 k22 : Nat)  (Z19 Z19' : Mem), k22 ≤ 6 → 6 < n22 + k22 → Ag B T rk (ext (ext S 27 5) 28 k22) D Z19 Z19' → Sg Q (F_X4_start_l22 (F_X4_start_x22 xa) n22 Z19 (nI k22)) (F_X4_start_l22 (F_X4_start_x22 xa) n22 Z19' (nI k22)) := by
      intro n22
      induction n22 with
      | zero =>
        intro k22 Z19 Z19' h1 h2
        exact absurd h2 (by omega)
      | succ n22 IH22 =>
        intro k22 Z19 Z19' hk22 hf22 hAg
        rw [F_X4_start_l22]; try rw [F_X4_start_l22]
        refine sg_br (fun hc20 => ?_) (fun hc20 => ?_)
        · have hxhc20 := ct_le (y := (6 : Int32)) (B := 6) rfl (by decide) (by omega) hc20
          obtain rfl : k22 = 6 := by omega
          exact Jx22 Z19 Z19' hAg
        · have hxhc20 := ct_lt (y := (6 : Int32)) (B := 6) rfl (by decide) (by omega) hc20
          refine sg_calp (sp_X0_isStanding B T rk _ _  Z19 Z19' (nI k22)   hAg) (fun rr23 hp2 => ?_)
          have hg24 : ¬ ((nI k22) < 0 ∨ 6 ≤ ix (nI k22)) := (in_nI (by omega) (by decide))
          refine sg_gd hg24 ?_
          refine sg_bz (fun Z25 Z25' eZ25 eZ25' => ?_)
          have hAg : Ag B T rk (ext (ext S 27 5) 28 (k22 + 1)) D Z25 Z25' := by rw [eZ25, eZ25']; exact ag_si hAg ⟨by decide, by decide⟩ (st_ext (by omega))
          rw [nIs]
          exact IH22 (k22 + 1) Z25 Z25' (by omega) (by omega) hAg
    exact L22 100 0 Z1 Z1' (by omega) (by omega) (ag_mono hAg (m_0 (m_id)) (m_id))
  have L2 : ∀ (n2 k2 : Nat)  (Z27 Z27' : Mem), k2 ≤ 5 → 5 < n2 + k2 → Ag B T rk (ext S 27 k2) D Z27 Z27' → Sg Q (F_X4_start_l2 (F_X4_start_x2 xa) n2 Z27 (nI k2)) (F_X4_start_l2 (F_X4_start_x2 xa) n2 Z27' (nI k2)) := by
    intro n2
    induction n2 with
    | zero =>
      intro k2 Z27 Z27' h1 h2
      exact absurd h2 (by omega)
    | succ n2 IH2 =>
      intro k2 Z27 Z27' hk2 hf2 hAg
      rw [F_X4_start_l2]; try rw [F_X4_start_l2]
      refine sg_br (fun hc28 => ?_) (fun hc28 => ?_)
      · have hxhc28 := ct_le (y := (5 : Int32)) (B := 5) rfl (by decide) (by omega) hc28
        obtain rfl : k2 = 5 := by omega
        exact Jx2 Z27 Z27' hAg
      · have hxhc28 := ct_lt (y := (5 : Int32)) (B := 5) rfl (by decide) (by omega) hc28
        have hg29 : ¬ ((nI k2) < 0 ∨ 5 ≤ ix (nI k2)) := (in_nI (by omega) (by decide))
        refine sg_gd hg29 ?_
        refine sg_bz (fun Z30 Z30' eZ30 eZ30' => ?_)
        have hAg : Ag B T rk (ext S 27 (k2 + 1)) D Z30 Z30' := by rw [eZ30, eZ30']; exact ag_si hAg ⟨by decide, by decide⟩ (st_ext (by omega))
        rw [nIs]
        exact IH2 (k2 + 1) Z30 Z30' (by omega) (by omega) hAg
  exact L2 100 0 Z Z' (by omega) (by omega) (ag_mono hAg (m_0 (m_id)) (m_id))

set_option maxHeartbeats 4000000 in
theorem sp_X4_countHeld (B : Mem × Mem) (T : Mem) (rk : Prop) (S D : Nat → Nat → Prop)  (Z Z' : Mem) (xa : Int32)  (hDv : ∀ k, k < ix (T.1 1 7) → T.1 (39 + k) 0 = xa → D (39 + k) 6) (hS28 : ∀ j, j < 6 → S 28 j)   (hAg : Ag B T rk S D Z Z') : Sg (Qi (fun a b (r : Unit) => Ag B T rk S (ext D 29 6) a b ∧ Rd 29 6 1160 a)) (F_X4_countHeld Z xa) (F_X4_countHeld Z' xa) := by
  have hW := hAg.1
  have hb2 := hW.1.1.2
  have hb5 := hW.1.2.2.1.2
  have hb7 := hW.1.2.2.2.1.2
  unfold F_X4_countHeld
  refine sg_go (fun Q hQ => ?_)
  have Jx2 : ∀  (Z1 Z1' : Mem), Ag B T rk S (ext D 29 6) Z1 Z1' → Rd 29 6 1110 Z1 → Sg Q ((F_X4_countHeld_x2 xa) Z1) ((F_X4_countHeld_x2 xa) Z1') := by
    intro Z1 Z1' hAg hX
    unfold F_X4_countHeld_x2
    have Jx23 : ∀  (Z2 Z2' : Mem), Ag B T rk S (ext D 29 6) Z2 Z2' → Rd 29 6 1160 Z2 → Sg Q (F_X4_countHeld_x23 Z2) (F_X4_countHeld_x23 Z2') := by
      intro Z2 Z2' hAg hX
      unfold F_X4_countHeld_x23
      rw [hQ]
      exact sg_retm ⟨hAg, hX⟩
    have L23 : ∀ (n23 k23 : Nat)  (Z4 Z4' : Mem), k23 ≤ (ix (T.1 1 7)) → (ix (T.1 1 7)) < n23 + k23 → Ag B T rk S (ext D 29 6) Z4 Z4' → Rd 29 6 (1110 + 2 * k23) Z4 → Sg Q (F_X4_countHeld_l23 xa F_X4_countHeld_x23 n23 Z4 (nI k23)) (F_X4_countHeld_l23 xa F_X4_countHeld_x23 n23 Z4' (nI k23)) := by
      intro n23
      induction n23 with
      | zero =>
        intro k23 Z4 Z4' h1 h2
        exact absurd h2 (by omega)
      | succ n23 IH23 =>
        intro k23 Z4 Z4' hk23 hf23 hAg hX
        rw [F_X4_countHeld_l23]; try rw [F_X4_countHeld_l23]
        refine sg_bv (t := T.1 1 7) (ag_b hAg (j := 7) (by decide)).1 (ag_b hAg (j := 7) (by decide)).2 (fun y5 ey5 => ?_)
        have hn_y5 : Nn y5 24 := by rw [ey5]; exact hW.1.2.2.2.1
        refine sg_br (fun hc6 => ?_) (fun hc6 => ?_)
        · have hxhc6 := ct_le hn_y5.1 (Nat.le_trans hn_y5.2 (by decide)) (by omega) hc6
          rw [ey5] at hxhc6
          exact Jx23 Z4 Z4' hAg (rd_mono hX (by omega))
        · have hxhc6 := ct_lt hn_y5.1 (Nat.le_trans hn_y5.2 (by decide)) (by omega) hc6
          rw [ey5] at hxhc6
          have hg7 : ¬ ((nI k23) < 0 ∨ 24 ≤ ix (nI k23)) := (in_nI (by omega) (by decide))
          refine sg_gd hg7 ?_
          have hk8 : ix (nI k23) < ix (T.1 1 7) := by rw [ix_nI (by omega)]; omega
          refine sg_calp (sp_X3_countsIn B T rk _ _  Z4 Z4' (ix (nI k23)) xa hk8  hAg) (fun rr11 hp3 => ?_)
          have Jj61 : ∀ (v12 : Int32), Op v12 6 → (¬ v12 = -1 → T.1 (39 + ix (nI k23)) 0 = xa) → Sg Q ((F_X4_countHeld_j61 Z4 (nI k23) (F_X4_countHeld_l23 xa F_X4_countHeld_x23 n23)) v12) ((F_X4_countHeld_j61 Z4' (nI k23) (F_X4_countHeld_l23 xa F_X4_countHeld_x23 n23)) v12) := by
            intro v12 hq_v12 hq1_v12
            unfold F_X4_countHeld_j61
            refine sg_br (fun hc13 => ?_) (fun hc13 => ?_)
            · rw [nIs]
              exact IH23 (k23 + 1) Z4 Z4' (by omega) (by omega) hAg (by first | exact hX1 | exact rd_mono hX (by omega))
            · have hihc13 := hq1_v12 hc13
              have hg14 : ¬ (v12 < 0 ∨ 6 ≤ ix v12) := (in_Op hq_v12 hc13)
              refine sg_gd hg14 ?_
              refine sg_bv (t := Z4.2 29 (ix v12)) rfl (hAg.2.2.2.2 _ _ (ext_in (ix_in hg14))).symm (fun y15 ey15 => ?_)
              refine sg_bv (t := Z4.2 (39 + (ix (nI k23))) 6) rfl (hAg.2.2.2.2 _ _ (ext_l (hDv _ (by assumption) (by assumption)))).symm (fun y16 ey16 => ?_)
              have hmv : Mg y16 1100 := by rw [ey16]; exact hAg.2.2.1.1 _ (Nat.lt_of_lt_of_le (by assumption) (Nat.le_trans hb7 (by decide)))
              have hg17 : (FP.dadd y15 y16) &&& 0x7fffffffffffffff ≤ 0x7ff0000000000000 := mg_g (mg_add (K := 1110 + 2 * k23) (by rw [ey15]; exact hX _ (ix_in (by assumption))) (mg_mono hmv (by omega)) (by omega)) (by omega)
              refine sg_gd hg17 ?_
              refine sg_bv (t := FP.dadd y15 y16) rfl rfl (fun y18 ey18 => ?_)
              refine sg_bz (fun Z19 Z19' eZ19 eZ19' => ?_)
              have hAg : Ag B T rk S (ext D 29 6) Z19 Z19' := by rw [eZ19, eZ19']; exact ag_sd hAg (Or.inl (by decide)) (st_id)
              have hX1 : Rd 29 6 (1110 + 2 * (k23 + 1)) Z19 := by rw [eZ19]; exact rd_any hX (by rw [ey18]; exact mg_add (K := 1110 + 2 * k23) (by rw [ey15]; exact hX _ (ix_in (by assumption))) (mg_mono hmv (by omega)) (by omega)) (by omega)
              rw [nIs]
              exact IH23 (k23 + 1) Z19 Z19' (by omega) (by omega) hAg (by first | exact hX1 | exact rd_mono hX (by omega))
          refine sg_br (fun hc20 => ?_) (fun hc20 => ?_)
          · exact Jj61 ((-1) : Int32) (Or.inl rfl) (by first | exact Or.inl rfl | exact Or.inr rfl | (intro h9; exact absurd rfl h9) | assumption | (intro _; assumption) | simp_all)
          · have hdhp3 := hp3 hc20
            refine sg_calp (sp_X3_firstOf_28 B T rk _ _  Z4 Z4' (ix (nI k23)) hk8 (fun j9 hj9 => (hS28 _ hj9)) hAg) (fun rr23 hp4 => ?_)
            exact Jj61 rr23 hp4 (by first | exact Or.inl rfl | exact Or.inr rfl | (intro h9; exact absurd rfl h9) | assumption | (intro _; assumption) | simp_all)
    exact L23 100 0 Z1 Z1' (by omega) (by omega) hAg hX
  have L2 : ∀ (n2 k2 : Nat)  (Z25 Z25' : Mem), k2 ≤ 6 → 6 < n2 + k2 → Ag B T rk S (ext D 29 k2) Z25 Z25' → Rd 29 k2 1110 Z25 → Sg Q (F_X4_countHeld_l2 (F_X4_countHeld_x2 xa) n2 Z25 (nI k2)) (F_X4_countHeld_l2 (F_X4_countHeld_x2 xa) n2 Z25' (nI k2)) := by
    intro n2
    induction n2 with
    | zero =>
      intro k2 Z25 Z25' h1 h2
      exact absurd h2 (by omega)
    | succ n2 IH2 =>
      intro k2 Z25 Z25' hk2 hf2 hAg hX
      rw [F_X4_countHeld_l2]; try rw [F_X4_countHeld_l2]
      refine sg_br (fun hc26 => ?_) (fun hc26 => ?_)
      · have hxhc26 := ct_le (y := (6 : Int32)) (B := 6) rfl (by decide) (by omega) hc26
        obtain rfl : k2 = 6 := by omega
        exact Jx2 Z25 Z25' hAg hX
      · have hxhc26 := ct_lt (y := (6 : Int32)) (B := 6) rfl (by decide) (by omega) hc26
        have hg27 : ¬ ((nI k2) < 0 ∨ 6 ≤ ix (nI k2)) := (in_nI (by omega) (by decide))
        refine sg_gd hg27 ?_
        refine sg_bz (fun Z28 Z28' eZ28 eZ28' => ?_)
        have hAg : Ag B T rk S (ext D 29 (k2 + 1)) Z28 Z28' := by rw [eZ28, eZ28']; exact ag_sd hAg (Or.inl (by decide)) (st_ext (by omega))
        have hX1 : Rd 29 (k2 + 1) 1110 Z28 := by rw [eZ28]; exact rd_sd hX (by omega) (mg_c (by decide +kernel))
        rw [nIs]
        exact IH2 (k2 + 1) Z28 Z28' (by omega) (by omega) hAg hX1
  exact L2 100 0 Z Z' (by omega) (by omega) (ag_mono hAg (m_id) (m_0 (m_id))) rd_0

set_option maxHeartbeats 4000000 in
theorem sp_X4_mostHeld (B : Mem × Mem) (T : Mem) (rk : Prop) (S D : Nat → Nat → Prop)  (Z Z' : Mem)   (hS28 : ∀ j, j < 6 → S 28 j) (hD29 : ∀ j, j < 6 → D 29 j)   (hAg : Ag B T rk S D Z Z') : Sg (fun a b => a = b ∧ Op a 6) (F_X4_mostHeld Z) (F_X4_mostHeld Z') := by
  have hW := hAg.1
  have hb2 := hW.1.1.2
  have hb5 := hW.1.2.2.1.2
  have hb7 := hW.1.2.2.2.1.2
  unfold F_X4_mostHeld
  refine sg_go (fun Q hQ => ?_)
  have Jx4 : ∀ (w1 : Int32), Op w1 6 → Sg Q (F_X4_mostHeld_x4 w1) (F_X4_mostHeld_x4 w1) := by
    intro w1 hq_w1
    unfold F_X4_mostHeld_x4
    rw [hQ]
    exact sg_ret ⟨rfl, hq_w1⟩
  have L4 : ∀ (n4 k4 : Nat) (u2 : Int32), k4 ≤ 6 → 6 < n4 + k4 → Op u2 6 → Sg Q (F_X4_mostHeld_l4 Z F_X4_mostHeld_x4 n4 u2 (nI k4)) (F_X4_mostHeld_l4 Z' F_X4_mostHeld_x4 n4 u2 (nI k4)) := by
    intro n4
    induction n4 with
    | zero =>
      intro k4 u2 h1 h2
      exact absurd h2 (by omega)
    | succ n4 IH4 =>
      intro k4 u2 hk4 hf4 hq_u2
      rw [F_X4_mostHeld_l4]; try rw [F_X4_mostHeld_l4]
      refine sg_br (fun hc4 => ?_) (fun hc4 => ?_)
      · have hxhc4 := ct_le (y := (6 : Int32)) (B := 6) rfl (by decide) (by omega) hc4
        exact Jx4 u2 hq_u2
      · have hxhc4 := ct_lt (y := (6 : Int32)) (B := 6) rfl (by decide) (by omega) hc4
        have hg5 : ¬ ((nI k4) < 0 ∨ 6 ≤ ix (nI k4)) := (in_nI (by omega) (by decide))
        refine sg_gd hg5 ?_
        refine sg_bv (t := Z.1 28 (ix (nI k4))) rfl (hAg.2.2.2.1 _ _ (hS28 _ (ix_in hg5))).symm (fun y6 ey6 => ?_)
        refine sg_br (fun hc7 => ?_) (fun hc7 => ?_)
        · rw [nIs]
          exact IH4 (k4 + 1) u2 (by omega) (by omega) hq_u2
        · refine sg_br (fun hc8 => ?_) (fun hc8 => ?_)
          · rw [nIs]
            exact IH4 (k4 + 1) (nI k4) (by omega) (by omega) (Or.inr (in_nI (by omega) (by decide)))
          · refine sg_bv (t := Z.2 29 (ix (nI k4))) rfl (hAg.2.2.2.2 _ _ (hD29 _ (ix_in hg5))).symm (fun y9 ey9 => ?_)
            have hg10 : ¬ (u2 < 0 ∨ 6 ≤ ix u2) := (in_Op hq_u2 hc8)
            refine sg_gd hg10 ?_
            refine sg_bv (t := Z.2 29 (ix u2)) rfl (hAg.2.2.2.2 _ _ (hD29 _ (ix_in hg10))).symm (fun y11 ey11 => ?_)
            refine sg_bv (t := Op.cmpValue (FP.dcmp y9 y11) .l) rfl rfl (fun y12 ey12 => ?_)
            refine sg_br (fun hc13 => ?_) (fun hc13 => ?_)
            · rw [nIs]
              exact IH4 (k4 + 1) u2 (by omega) (by omega) hq_u2
            · rw [nIs]
              exact IH4 (k4 + 1) (nI k4) (by omega) (by omega) (Or.inr (in_nI (by omega) (by decide)))
  exact L4 100 0 ((-1) : Int32) (by omega) (by omega) (Or.inl rfl)

set_option maxHeartbeats 4000000 in
theorem sp_X4_leastHeld (B : Mem × Mem) (T : Mem) (rk : Prop) (S D : Nat → Nat → Prop)  (Z Z' : Mem) (xa : Int32)  (hS28 : ∀ j, j < 6 → S 28 j) (hD29 : ∀ j, j < 6 → D 29 j) (hp_xa : ¬ (xa < 0 ∨ 6 ≤ ix xa))  (hAg : Ag B T rk S D Z Z') : Sg (fun a b => a = b ∧ ¬ (a < 0 ∨ 6 ≤ ix a)) (F_X4_leastHeld Z xa) (F_X4_leastHeld Z' xa) := by
  have hW := hAg.1
  have hb2 := hW.1.1.2
  have hb5 := hW.1.2.2.1.2
  have hb7 := hW.1.2.2.2.1.2
  unfold F_X4_leastHeld
  refine sg_go (fun Q hQ => ?_)
  have Jx4 : ∀ (w1 : Int32), ¬ (w1 < 0 ∨ 6 ≤ ix w1) → Sg Q (F_X4_leastHeld_x4 w1) (F_X4_leastHeld_x4 w1) := by
    intro w1 hq_w1
    unfold F_X4_leastHeld_x4
    rw [hQ]
    exact sg_ret ⟨rfl, hq_w1⟩
  have L4 : ∀ (n4 k4 : Nat) (u2 : Int32), k4 ≤ 6 → 6 < n4 + k4 → ¬ (u2 < 0 ∨ 6 ≤ ix u2) → Sg Q (F_X4_leastHeld_l4 Z F_X4_leastHeld_x4 n4 u2 (nI k4)) (F_X4_leastHeld_l4 Z' F_X4_leastHeld_x4 n4 u2 (nI k4)) := by
    intro n4
    induction n4 with
    | zero =>
      intro k4 u2 h1 h2
      exact absurd h2 (by omega)
    | succ n4 IH4 =>
      intro k4 u2 hk4 hf4 hq_u2
      rw [F_X4_leastHeld_l4]; try rw [F_X4_leastHeld_l4]
      refine sg_br (fun hc4 => ?_) (fun hc4 => ?_)
      · have hxhc4 := ct_le (y := (6 : Int32)) (B := 6) rfl (by decide) (by omega) hc4
        exact Jx4 u2 hq_u2
      · have hxhc4 := ct_lt (y := (6 : Int32)) (B := 6) rfl (by decide) (by omega) hc4
        have hg5 : ¬ ((nI k4) < 0 ∨ 6 ≤ ix (nI k4)) := (in_nI (by omega) (by decide))
        refine sg_gd hg5 ?_
        refine sg_bv (t := Z.1 28 (ix (nI k4))) rfl (hAg.2.2.2.1 _ _ (hS28 _ (ix_in hg5))).symm (fun y6 ey6 => ?_)
        refine sg_br (fun hc7 => ?_) (fun hc7 => ?_)
        · rw [nIs]
          exact IH4 (k4 + 1) u2 (by omega) (by omega) hq_u2
        · refine sg_bv (t := Z.2 29 (ix (nI k4))) rfl (hAg.2.2.2.2 _ _ (hD29 _ (ix_in hg5))).symm (fun y8 ey8 => ?_)
          have hg9 : ¬ (u2 < 0 ∨ 6 ≤ ix u2) := hq_u2
          refine sg_gd hg9 ?_
          refine sg_bv (t := Z.2 29 (ix u2)) rfl (hAg.2.2.2.2 _ _ (hD29 _ (ix_in hg9))).symm (fun y10 ey10 => ?_)
          refine sg_bv (t := Op.cmpValue (FP.dcmp y8 y10) .g) rfl rfl (fun y11 ey11 => ?_)
          refine sg_br (fun hc12 => ?_) (fun hc12 => ?_)
          · rw [nIs]
            exact IH4 (k4 + 1) u2 (by omega) (by omega) hq_u2
          · rw [nIs]
            exact IH4 (k4 + 1) (nI k4) (by omega) (by omega) (in_nI (by omega) (by decide))
  exact L4 100 0 xa (by omega) (by omega) hp_xa

set_option maxHeartbeats 4000000 in
theorem sp_X4_loweredValue (B : Mem × Mem) (T : Mem) (rk : Prop) (S D : Nat → Nat → Prop)  (Z Z' : Mem) (xa : UInt64) (xb : UInt64) (xc : Int32)   (hp_xa : (Mg xa 1100)) (hp_xb : (Mg xb 1160))  (hAg : Ag B T rk S D Z Z') : Sg (fun a b => a = b ∧ (Mg a 1100)) (F_X4_loweredValue Z xa xb xc) (F_X4_loweredValue Z' xa xb xc) := by
  have hW := hAg.1
  have hb2 := hW.1.1.2
  have hb5 := hW.1.2.2.1.2
  have hb7 := hW.1.2.2.2.1.2
  unfold F_X4_loweredValue
  refine sg_go (fun Q hQ => ?_)
  refine sg_bv (t := FP.i2d xc) rfl rfl (fun y1 ey1 => ?_)
  refine sg_bv (t := Op.cmpValue (FP.dcmp xb y1) .g) rfl rfl (fun y2 ey2 => ?_)
  refine sg_br (fun hc3 => ?_) (fun hc3 => ?_)
  · rw [hQ]
    exact sg_ret ⟨rfl, (mg_c (by decide +kernel))⟩
  · refine sg_bv (t := Op.cmpValue (FP.dcmp xb FP.dconst0) .g) rfl rfl (fun y4 ey4 => ?_)
    refine sg_br (fun hc5 => ?_) (fun hc5 => ?_)
    · have hg6 : (FP.dmul (4652218415073722368 : UInt64) xa) &&& 0x7fffffffffffffff ≤ 0x7ff0000000000000 := mg_g (mg_mul (K := 1034) (L := 1100) (mg_c (by decide +kernel)) hp_xa (by decide) (by decide)) (by decide)
      refine sg_gd hg6 ?_
      refine sg_bv (t := FP.dmul (4652218415073722368 : UInt64) xa) rfl rfl (fun y7 ey7 => ?_)
      refine sg_bv (t := FP.i2d xc) rfl rfl (fun y8 ey8 => ?_)
      have hg9 : (FP.dsub xb y8) &&& 0x7fffffffffffffff ≤ 0x7ff0000000000000 := (by rw [ey8]; exact mg_g (mg_sub (K := 1160) hp_xb (mg_mono (mg_i2d _) (by decide)) (by decide)) (by decide))
      refine sg_gd hg9 ?_
      refine sg_bv (t := FP.dsub xb y8) rfl rfl (fun y10 ey10 => ?_)
      have hg11 : (FP.dmul y7 y10) &&& 0x7fffffffffffffff ≤ 0x7ff0000000000000 := (by rw [ey7, ey10, ey8]; exact mg_g (mg_mul (mg_mul (K := 1034) (L := 1100) (mg_c (by decide +kernel)) hp_xa (by decide) (by decide)) (mg_sub (K := 1160) hp_xb (mg_mono (mg_i2d _) (by decide)) (by decide)) (by decide) (by decide)) (by decide))
      refine sg_gd hg11 ?_
      refine sg_bv (t := FP.dmul y7 y10) rfl rfl (fun y12 ey12 => ?_)
      have hg13 : (FP.ddiv y12 xb) &&& 0x7fffffffffffffff ≤ 0x7ff0000000000000 := (nn_g (FP.Core.ddiv_out (fin_nn (mg_fin (K := 1112 + 1162 - 1025 + 3) (by rw [ey12, ey7, ey10, ey8]; exact mg_mul (mg_mul (K := 1034) (L := 1100) (mg_c (by decide +kernel)) hp_xa (by decide) (by decide)) (mg_sub (K := 1160) hp_xb (mg_mono (mg_i2d _) (by decide)) (by decide)) (by decide) (by decide)) (by decide))) (mg_fin hp_xb (by decide)) (lw_nz2 ey4 (by assumption))))
      refine sg_gd hg13 ?_
      refine sg_bv (t := FP.ddiv y12 xb) rfl rfl (fun y14 ey14 => ?_)
      refine sg_bv (t := FP.d2l y14) rfl rfl (fun y15 ey15 => ?_)
      refine sg_bv (t := FP.l2d y15) rfl rfl (fun y16 ey16 => ?_)
      have hg17 : (FP.ddiv y16 (4652218415073722368 : UInt64)) &&& 0x7fffffffffffffff ≤ 0x7ff0000000000000 := mg_g (mg_div (K := 1088) (L := 1033) (by rw [ey16]; exact mg_l2d _) (by decide +kernel) (by decide) (by decide)) (by decide)
      refine sg_gd hg17 ?_
      refine sg_bv (t := FP.ddiv y16 (4652218415073722368 : UInt64)) rfl rfl (fun y18 ey18 => ?_)
      rw [hQ]
      exact sg_ret ⟨rfl, (by rw [ey18]; exact mg_mono (mg_div (K := 1088) (L := 1033) (by rw [ey16]; exact mg_l2d _) (by decide +kernel) (by decide) (by decide)) (by decide))⟩
    · rw [hQ]
      exact sg_ret ⟨rfl, (mg_c (by decide +kernel))⟩

set_option maxHeartbeats 4000000 in
theorem sp_X4_lowerValues (B : Mem × Mem) (T : Mem) (rk : Prop) (S D : Nat → Nat → Prop)  (Z Z' : Mem) (xa : Int32) (xb : Int32) (xc : Int32)  (hS28 : ∀ j, j < 6 → S 28 j) (hDv : ∀ k, k < ix (T.1 1 7) → T.1 (39 + k) 0 = xa → D (39 + k) 6) (hD29 : ∀ j, j < 6 → D 29 j) (hp_xb : ¬ (xb < 0 ∨ 6 ≤ ix xb)) (hx0 : Rd 29 6 1160 Z) (hAg : Ag B T rk S D Z Z') : Sg (Qi (fun a b (r : Unit) => Ag B T rk S D a b ∧ True)) (F_X4_lowerValues Z xa xb xc) (F_X4_lowerValues Z' xa xb xc) := by
  have hW := hAg.1
  have hb2 := hW.1.1.2
  have hb5 := hW.1.2.2.1.2
  have hb7 := hW.1.2.2.2.1.2
  unfold F_X4_lowerValues
  refine sg_go (fun Q hQ => ?_)
  have Jx3 : ∀  (Z1 Z1' : Mem), Ag B T rk S D Z1 Z1' → Rd 29 6 1160 Z1 → Sg Q (F_X4_lowerValues_x3 Z1) (F_X4_lowerValues_x3 Z1') := by
    intro Z1 Z1' hAg hX
    unfold F_X4_lowerValues_x3
    rw [hQ]
    exact sg_retm ⟨hAg, trivial⟩
  have L3 : ∀ (n3 k3 : Nat)  (Z3 Z3' : Mem), k3 ≤ (ix (T.1 1 7)) → (ix (T.1 1 7)) < n3 + k3 → Ag B T rk S D Z3 Z3' → Rd 29 6 1160 Z3 → Sg Q (F_X4_lowerValues_l3 xa xb xc F_X4_lowerValues_x3 n3 Z3 (nI k3)) (F_X4_lowerValues_l3 xa xb xc F_X4_lowerValues_x3 n3 Z3' (nI k3)) := by
    intro n3
    induction n3 with
    | zero =>
      intro k3 Z3 Z3' h1 h2
      exact absurd h2 (by omega)
    | succ n3 IH3 =>
      intro k3 Z3 Z3' hk3 hf3 hAg hX
      rw [F_X4_lowerValues_l3]; try rw [F_X4_lowerValues_l3]
      refine sg_bv (t := T.1 1 7) (ag_b hAg (j := 7) (by decide)).1 (ag_b hAg (j := 7) (by decide)).2 (fun y4 ey4 => ?_)
      have hn_y4 : Nn y4 24 := by rw [ey4]; exact hW.1.2.2.2.1
      refine sg_br (fun hc5 => ?_) (fun hc5 => ?_)
      · have hxhc5 := ct_le hn_y4.1 (Nat.le_trans hn_y4.2 (by decide)) (by omega) hc5
        rw [ey4] at hxhc5
        exact Jx3 Z3 Z3' hAg hX
      · have hxhc5 := ct_lt hn_y4.1 (Nat.le_trans hn_y4.2 (by decide)) (by omega) hc5
        rw [ey4] at hxhc5
        have hg6 : ¬ ((nI k3) < 0 ∨ 24 ≤ ix (nI k3)) := (in_nI (by omega) (by decide))
        refine sg_gd hg6 ?_
        have hk7 : ix (nI k3) < ix (T.1 1 7) := by rw [ix_nI (by omega)]; omega
        refine sg_calp (sp_X3_countsIn B T rk _ _  Z3 Z3' (ix (nI k3)) xa hk7  hAg) (fun rr10 hp4 => ?_)
        refine sg_br (fun hc11 => ?_) (fun hc11 => ?_)
        · rw [nIs]
          exact IH3 (k3 + 1) Z3 Z3' (by omega) (by omega) hAg (by first | exact hX1 | exact hX)
        · have hdhp4 := hp4 hc11
          refine sg_calp (sp_X3_firstOf_28 B T rk _ _  Z3 Z3' (ix (nI k3)) hk7 (fun j9 hj9 => (hS28 _ hj9)) hAg) (fun rr14 hp5 => ?_)
          refine sg_brn (fun hc15 => ?_) (fun hc15 => ?_)
          · rw [nIs]
            exact IH3 (k3 + 1) Z3 Z3' (by omega) (by omega) hAg (by first | exact hX1 | exact hX)
          · refine sg_bv (t := Z3.2 (39 + (ix (nI k3))) 6) rfl (hAg.2.2.2.2 _ _ (hDv _ (by assumption) (by assumption))).symm (fun y16 ey16 => ?_)
            have hg17 : ¬ (xb < 0 ∨ 6 ≤ ix xb) := hp_xb
            refine sg_gd hg17 ?_
            refine sg_bv (t := Z3.2 29 (ix xb)) rfl (hAg.2.2.2.2 _ _ (hD29 _ (ix_in hg17))).symm (fun y18 ey18 => ?_)
            refine sg_calp (sp_X4_loweredValue B T rk _ _  Z3 Z3' y16 y18 xc  (by rw [ey16]; exact hAg.2.2.1.1 _ (Nat.lt_of_lt_of_le (by assumption) (Nat.le_trans hb7 (by decide)))) (by rw [ey18]; exact hX _ (ix_in hp_xb)) hAg) (fun rr21 hp6 => ?_)
            refine sg_bz (fun Z22 Z22' eZ22 eZ22' => ?_)
            have hAg : Ag B T rk S D Z22 Z22' := by rw [eZ22, eZ22']; exact ag_sd hAg (Or.inr hp6) (st_id)
            have hX1 : Rd 29 6 1160 Z22 := by rw [eZ22]; exact rd_ne hX (by omega)
            rw [nIs]
            exact IH3 (k3 + 1) Z22 Z22' (by omega) (by omega) hAg (by first | exact hX1 | exact hX)
  exact L3 100 0 Z Z' (by omega) (by omega) hAg hx0

set_option maxHeartbeats 4000000 in
theorem sp_X4_fillSeats (B : Mem × Mem) (T : Mem) (rk : Prop) (S D : Nat → Nat → Prop)  (Z Z' : Mem) (xa : Int32)   (hp_xa : ¬ (xa < 0 ∨ 4 ≤ ix xa))  (hAg : Ag B T rk S D Z Z') : Sg (Qi (fun a b (r : Unit) => Ag B T rk (ext (ext S 27 5) 28 6) (vds D T xa (ix (T.1 1 7))) a b ∧ True)) (F_X4_fillSeats Z xa) (F_X4_fillSeats Z' xa) := by
  have hW := hAg.1
  have hb2 := hW.1.1.2
  have hb5 := hW.1.2.2.1.2
  have hb7 := hW.1.2.2.2.1.2
  unfold F_X4_fillSeats
  refine sg_go (fun Q hQ => ?_)
  refine sg_cal (sp_X4_start B T rk _ _  Z Z' xa   hAg) (fun Z2 Z2' _ hp8 => ?_)
  have hAg := hp8.1
  have hg4 : ¬ (xa < 0 ∨ 4 ≤ ix xa) := hp_xa
  refine sg_gd hg4 ?_
  refine sg_bv (t := T.1 4 (ix xa)) (ag_r hAg (i := 4) ⟨by decide, by decide⟩ (Nat.lt_of_lt_of_le (ix_in hg4) (by decide))).1 (ag_r hAg (i := 4) ⟨by decide, by decide⟩ (Nat.lt_of_lt_of_le (ix_in hg4) (by decide))).2 (fun y5 ey5 => ?_)
  have hn_y5 : Nn y5 5 := by rw [ey5]; exact hW.2.2.1 _ (ix_in hg4)
  refine sg_calp (sp_X0_countsOfListsIn B T rk _ _  Z2 Z2' xa   hAg) (fun rr8 hp9 => ?_)
  refine sg_bv (t := y5 + (1 : Int32)) rfl rfl (fun y9 ey9 => ?_)
  have hg10 : ¬ y9 = 0 := nn_ne hn_y5 (by decide) ey9
  refine sg_gd hg10 ?_
  refine sg_bv (t := rr8 / y9) rfl rfl (fun y11 ey11 => ?_)
  refine sg_bv (t := y11 + (1 : Int32)) rfl rfl (fun y12 ey12 => ?_)
  have Jx32 : ∀  (Z13 Z13' : Mem), Ag B T rk (ext (ext S 27 5) 28 6) (vds D T xa (ix (T.1 1 7))) Z13 Z13' → Sg Q (F_X4_fillSeats_x32 Z13) (F_X4_fillSeats_x32 Z13') := by
    intro Z13 Z13' hAg
    unfold F_X4_fillSeats_x32
    rw [hQ]
    exact sg_retm ⟨hAg, trivial⟩
  have L32 : ∀ (n32 k32 : Nat) (u14 : Int32) (Z16 Z16' : Mem), k32 ≤ 6 → 6 < n32 + k32 → Ag B T rk (ext (ext S 27 5) 28 6) (vds D T xa (ix (T.1 1 7))) Z16 Z16' → Nn u14 5 → Sg Q (F_X4_fillSeats_l32 xa y5 y12 F_X4_fillSeats_x32 n32 Z16 u14 (nI k32)) (F_X4_fillSeats_l32 xa y5 y12 F_X4_fillSeats_x32 n32 Z16' u14 (nI k32)) := by
    intro n32
    induction n32 with
    | zero =>
      intro k32 u14 Z16 Z16' h1 h2
      exact absurd h2 (by omega)
    | succ n32 IH32 =>
      intro k32 u14 Z16 Z16' hk32 hf32 hAg hq_u14
      rw [F_X4_fillSeats_l32]; try rw [F_X4_fillSeats_l32]
      refine sg_br (fun hc17 => ?_) (fun hc17 => ?_)
      · have hxhc17 := ct_le (y := (6 : Int32)) (B := 6) rfl (by decide) (by omega) hc17
        exact Jx32 Z16 Z16' hAg
      · have hxhc17 := ct_lt (y := (6 : Int32)) (B := 6) rfl (by decide) (by omega) hc17
        refine sg_br (fun hc18 => ?_) (fun hc18 => ?_)
        · exact Jx32 Z16 Z16' hAg
        · refine sg_cal (sp_X4_countHeld B T rk _ _  Z16 Z16' xa  (fun k9 hk9 h9 => (vds_in hk9 h9)) (fun j9 hj9 => (ext_in hj9)) hAg) (fun Z20 Z20' _ hp10 => ?_)
          have hAg := hp10.1
          have hXh := hp10.2
          refine sg_calp (sp_X4_mostHeld B T rk _ _  Z20 Z20'   (fun j9 hj9 => (ext_in hj9)) (fun j9 hj9 => (ext_in hj9)) hAg) (fun rr24 hp11 => ?_)
          refine sg_brn (fun hc25 => ?_) (fun hc25 => ?_)
          · refine sg_bv (t := T.1 1 3) (ag_b hAg (j := 3) (by decide)).1 (ag_b hAg (j := 3) (by decide)).2 (fun y26 ey26 => ?_)
            have hn_y26 : Nn y26 6 := by rw [ey26]; exact hW.1.2.1
            refine sg_bv (t := y26 - (nI k32)) rfl rfl (fun y27 ey27 => ?_)
            refine sg_bv (t := y5 - u14) rfl rfl (fun y28 ey28 => ?_)
            have Jj83 : ∀ (v29 : Int32), Sg Q ((F_X4_fillSeats_j83 xa y12 u14 (nI k32) (F_X4_fillSeats_l32 xa y5 y12 F_X4_fillSeats_x32 n32) Z20 rr24) v29) ((F_X4_fillSeats_j83 xa y12 u14 (nI k32) (F_X4_fillSeats_l32 xa y5 y12 F_X4_fillSeats_x32 n32) Z20' rr24) v29) := by
              intro v29
              unfold F_X4_fillSeats_j83
              refine sg_brn (fun hc30 => ?_) (fun hc30 => ?_)
              · refine sg_cal (sp_X4_lowerValues B T rk _ _  Z20 Z20' xa rr24 y12  (fun j9 hj9 => (ext_in hj9)) (fun k9 hk9 h9 => (ext_l (vds_in hk9 h9))) (fun j9 hj9 => (ext_in hj9)) (in_Op hp11 hc25) hXh hAg) (fun Z32 Z32' _ hp12 => ?_)
                have hAg := hp12.1
                have hg34 : ¬ (rr24 < 0 ∨ 6 ≤ ix rr24) := (in_Op hp11 hc25)
                refine sg_gd hg34 ?_
                refine sg_bz (fun Z35 Z35' eZ35 eZ35' => ?_)
                have hAg : Ag B T rk (ext (ext S 27 5) 28 6) (ext (vds D T xa (ix (T.1 1 7))) 29 6) Z35 Z35' := by rw [eZ35, eZ35']; exact ag_si hAg ⟨by decide, by decide⟩ (st_id)
                have hg36 : ¬ (u14 < 0 ∨ 5 ≤ ix u14) := (nn_in hn_y5 hq_u14 (by decide) (by decide) (by assumption))
                refine sg_gd hg36 ?_
                refine sg_bz (fun Z37 Z37' eZ37 eZ37' => ?_)
                have hAg : Ag B T rk (ext (ext S 27 5) 28 6) (ext (vds D T xa (ix (T.1 1 7))) 29 6) Z37 Z37' := by rw [eZ37, eZ37']; exact ag_si hAg ⟨by decide, by decide⟩ (st_id)
                rw [nIs]
                exact IH32 (k32 + 1) (u14 + (1 : Int32)) Z37 Z37' (by omega) (by omega) (ag_mono hAg (m_id) (m_l (m_id))) (nn_up2 hn_y5 hq_u14 (by decide) (by decide) (by assumption))
              · have hg38 : ¬ (rr24 < 0 ∨ 6 ≤ ix rr24) := (in_Op hp11 hc25)
                refine sg_gd hg38 ?_
                refine sg_bv (t := Z20.2 29 (ix rr24)) rfl (hAg.2.2.2.2 _ _ (ext_in (ix_in hg38))).symm (fun y39 ey39 => ?_)
                refine sg_bv (t := FP.i2d y12) rfl rfl (fun y40 ey40 => ?_)
                refine sg_bv (t := Op.cmpValue (FP.dcmp y39 y40) .l) rfl rfl (fun y41 ey41 => ?_)
                refine sg_br (fun hc42 => ?_) (fun hc42 => ?_)
                · refine sg_calp (sp_X4_leastHeld B T rk _ _  Z20 Z20' rr24  (fun j9 hj9 => (ext_in hj9)) (fun j9 hj9 => (ext_in hj9)) (in_Op hp11 hc25) hAg) (fun rr45 hp13 => ?_)
                  have hg46 : ¬ (rr45 < 0 ∨ 6 ≤ ix rr45) := hp13
                  refine sg_gd hg46 ?_
                  refine sg_bz (fun Z47 Z47' eZ47 eZ47' => ?_)
                  have hAg : Ag B T rk (ext (ext S 27 5) 28 6) (ext (vds D T xa (ix (T.1 1 7))) 29 6) Z47 Z47' := by rw [eZ47, eZ47']; exact ag_si hAg ⟨by decide, by decide⟩ (st_id)
                  rw [nIs]
                  exact IH32 (k32 + 1) u14 Z47 Z47' (by omega) (by omega) (ag_mono hAg (m_id) (m_l (m_id))) hq_u14
                · refine sg_cal (sp_X4_lowerValues B T rk _ _  Z20 Z20' xa rr24 y12  (fun j9 hj9 => (ext_in hj9)) (fun k9 hk9 h9 => (ext_l (vds_in hk9 h9))) (fun j9 hj9 => (ext_in hj9)) (in_Op hp11 hc25) hXh hAg) (fun Z49 Z49' _ hp14 => ?_)
                  have hAg := hp14.1
                  refine sg_bz (fun Z51 Z51' eZ51 eZ51' => ?_)
                  have hAg : Ag B T rk (ext (ext S 27 5) 28 6) (ext (vds D T xa (ix (T.1 1 7))) 29 6) Z51 Z51' := by rw [eZ51, eZ51']; exact ag_si hAg ⟨by decide, by decide⟩ (st_id)
                  have hg52 : ¬ (u14 < 0 ∨ 5 ≤ ix u14) := (nn_in hn_y5 hq_u14 (by decide) (by decide) (by assumption))
                  refine sg_gd hg52 ?_
                  refine sg_bz (fun Z53 Z53' eZ53 eZ53' => ?_)
                  have hAg : Ag B T rk (ext (ext S 27 5) 28 6) (ext (vds D T xa (ix (T.1 1 7))) 29 6) Z53 Z53' := by rw [eZ53, eZ53']; exact ag_si hAg ⟨by decide, by decide⟩ (st_id)
                  rw [nIs]
                  exact IH32 (k32 + 1) (u14 + (1 : Int32)) Z53 Z53' (by omega) (by omega) (ag_mono hAg (m_id) (m_l (m_id))) (nn_up2 hn_y5 hq_u14 (by decide) (by decide) (by assumption))
            refine sg_br (fun hc54 => ?_) (fun hc54 => ?_)
            · exact Jj83 (0 : Int32)
            · exact Jj83 (1 : Int32)
          · rw [hQ]
            exact sg_retm ⟨(ag_mono hAg (m_id) (m_l (m_id))), trivial⟩
  exact L32 100 0 (0 : Int32) Z2 Z2' (by omega) (by omega) hAg ⟨by decide, by decide⟩

set_option maxHeartbeats 4000000 in
theorem sp_X1_countVotes (B : Mem × Mem) (T : Mem) (rk : Prop) (S D : Nat → Nat → Prop)  (Z Z' : Mem)      (hAg : Ag B T rk S D Z Z') : Sg (Qi (fun a b (r : Unit) => Ag B T rk (ext (ext (ext (one S 30 1) 31 4) 32 4) 33 4) D a b ∧ True)) (F_X1_countVotes Z) (F_X1_countVotes Z') := by
  have hW := hAg.1
  have hb2 := hW.1.1.2
  have hb5 := hW.1.2.2.1.2
  have hb7 := hW.1.2.2.2.1.2
  unfold F_X1_countVotes
  refine sg_go (fun Q hQ => ?_)
  refine sg_bz (fun Z1 Z1' eZ1 eZ1' => ?_)
  have hAg : Ag B T rk (one S 30 1) D Z1 Z1' := by rw [eZ1, eZ1']; exact ag_si hAg ⟨by decide, by decide⟩ (st_one)
  have Jx7 : ∀  (Z2 Z2' : Mem), Ag B T rk (ext (ext (one S 30 1) 31 4) 32 4) D Z2 Z2' → Sg Q (F_X1_countVotes_x7 Z2) (F_X1_countVotes_x7 Z2') := by
    intro Z2 Z2' hAg
    unfold F_X1_countVotes_x7
    have Jx38 : ∀  (Z3 Z3' : Mem), Ag B T rk (ext (ext (one S 30 1) 31 4) 32 4) D Z3 Z3' → Sg Q (F_X1_countVotes_x38 Z3) (F_X1_countVotes_x38 Z3') := by
      intro Z3 Z3' hAg
      unfold F_X1_countVotes_x38
      have Jx104 : ∀  (Z4 Z4' : Mem), Ag B T rk (ext (ext (ext (one S 30 1) 31 4) 32 4) 33 4) D Z4 Z4' → Sg Q (F_X1_countVotes_x104 Z4) (F_X1_countVotes_x104 Z4') := by
        intro Z4 Z4' hAg
        unfold F_X1_countVotes_x104
        rw [hQ]
        exact sg_retm ⟨hAg, trivial⟩
      have L104 : ∀ (n104 k104 : Nat)  (Z6 Z6' : Mem), k104 ≤ 4 → 4 < n104 + k104 → Ag B T rk (ext (ext (ext (one S 30 1) 31 4) 32 4) 33 k104) D Z6 Z6' → Sg Q (F_X1_countVotes_l104 F_X1_countVotes_x104 n104 Z6 (nI k104)) (F_X1_countVotes_l104 F_X1_countVotes_x104 n104 Z6' (nI k104)) := by
        intro n104
        induction n104 with
        | zero =>
          intro k104 Z6 Z6' h1 h2
          exact absurd h2 (by omega)
        | succ n104 IH104 =>
          intro k104 Z6 Z6' hk104 hf104 hAg
          rw [F_X1_countVotes_l104]; try rw [F_X1_countVotes_l104]
          refine sg_br (fun hc7 => ?_) (fun hc7 => ?_)
          · have hxhc7 := ct_le (y := (4 : Int32)) (B := 4) rfl (by decide) (by omega) hc7
            obtain rfl : k104 = 4 := by omega
            exact Jx104 Z6 Z6' hAg
          · have hxhc7 := ct_lt (y := (4 : Int32)) (B := 4) rfl (by decide) (by omega) hc7
            have hg8 : ¬ ((nI k104) < 0 ∨ 4 ≤ ix (nI k104)) := (in_nI (by omega) (by decide))
            refine sg_gd hg8 ?_
            refine sg_bv (t := Z6.1 31 (ix (nI k104))) rfl (hAg.2.2.2.1 _ _ (ext_l (ext_l (ext_in (ix_in hg8))))).symm (fun y9 ey9 => ?_)
            refine sg_bv (t := (100 : Int32) * y9) rfl rfl (fun y10 ey10 => ?_)
            refine sg_bv (t := T.1 1 8) (ag_b hAg (j := 8) (by decide)).1 (ag_b hAg (j := 8) (by decide)).2 (fun y11 ey11 => ?_)
            have hn_y11 : Nn y11 20 := by rw [ey11]; exact hW.1.2.2.2.2
            refine sg_bv (t := Z6.1 30 1) rfl (hAg.2.2.2.1 _ _ (ext_l (ext_l (ext_l (one_in))))).symm (fun y12 ey12 => ?_)
            refine sg_bv (t := y11 * y12) rfl rfl (fun y13 ey13 => ?_)
            have Jj140 : ∀ (v14 : Int32), Sg Q ((F_X1_countVotes_j140 Z6 (nI k104) (F_X1_countVotes_l104 F_X1_countVotes_x104 n104)) v14) ((F_X1_countVotes_j140 Z6' (nI k104) (F_X1_countVotes_l104 F_X1_countVotes_x104 n104)) v14) := by
              intro v14
              unfold F_X1_countVotes_j140
              refine sg_bz (fun Z15 Z15' eZ15 eZ15' => ?_)
              have hAg : Ag B T rk (ext (ext (ext (one S 30 1) 31 4) 32 4) 33 (k104 + 1)) D Z15 Z15' := by rw [eZ15, eZ15']; exact ag_si hAg ⟨by decide, by decide⟩ (st_ext (by omega))
              rw [nIs]
              exact IH104 (k104 + 1) Z15 Z15' (by omega) (by omega) hAg
            refine sg_br (fun hc16 => ?_) (fun hc16 => ?_)
            · exact Jj140 (0 : Int32)
            · exact Jj140 (1 : Int32)
      exact L104 100 0 Z3 Z3' (by omega) (by omega) (ag_mono hAg (m_0 (m_id)) (m_id))
    have L38 : ∀ (n38 k38 : Nat)  (Z18 Z18' : Mem), k38 ≤ (ix (T.1 1 7)) → (ix (T.1 1 7)) < n38 + k38 → Ag B T rk (ext (ext (one S 30 1) 31 4) 32 4) D Z18 Z18' → Sg Q (F_X1_countVotes_l38 F_X1_countVotes_x38 n38 Z18 (nI k38)) (F_X1_countVotes_l38 F_X1_countVotes_x38 n38 Z18' (nI k38)) := by
      intro n38
      induction n38 with
      | zero =>
        intro k38 Z18 Z18' h1 h2
        exact absurd h2 (by omega)
      | succ n38 IH38 =>
        intro k38 Z18 Z18' hk38 hf38 hAg
        rw [F_X1_countVotes_l38]; try rw [F_X1_countVotes_l38]
        refine sg_bv (t := T.1 1 7) (ag_b hAg (j := 7) (by decide)).1 (ag_b hAg (j := 7) (by decide)).2 (fun y19 ey19 => ?_)
        have hn_y19 : Nn y19 24 := by rw [ey19]; exact hW.1.2.2.2.1
        refine sg_br (fun hc20 => ?_) (fun hc20 => ?_)
        · have hxhc20 := ct_le hn_y19.1 (Nat.le_trans hn_y19.2 (by decide)) (by omega) hc20
          rw [ey19] at hxhc20
          exact Jx38 Z18 Z18' hAg
        · have hxhc20 := ct_lt hn_y19.1 (Nat.le_trans hn_y19.2 (by decide)) (by omega) hc20
          rw [ey19] at hxhc20
          have hg21 : ¬ ((nI k38) < 0 ∨ 24 ≤ ix (nI k38)) := (in_nI (by omega) (by decide))
          refine sg_gd hg21 ?_
          have hk22 : ix (nI k38) < ix (T.1 1 7) := by rw [ix_nI (by omega)]; omega
          refine sg_bv (t := T.1 (39 + (ix (nI k38))) 5) (ag_s hAg hk22 (j := 5) ⟨by decide, fun h => absurd h (by decide), by decide⟩).1 (ag_s hAg hk22 (j := 5) ⟨by decide, fun h => absurd h (by decide), by decide⟩).2 (fun y23 ey23 => ?_)
          have hn_y23 : Nn y23 6 := by rw [ey23]; exact wf_len hW hk22
          refine sg_br (fun hc24 => ?_) (fun hc24 => ?_)
          · rw [nIs]
            exact IH38 (k38 + 1) Z18 Z18' (by omega) (by omega) hAg
          · have hl0hc24 : 0 < ix (T.1 (39 + (ix (nI k38))) 5) := by have h9 := len_pos hn_y23 (by decide) hc24; rwa [ey23] at h9
            refine sg_bv (t := T.1 (64 + (ix (nI k38))) (ix (0 : Int32))) (ag_l hAg hk22 (j := (ix (0 : Int32))) hl0hc24).1 (ag_l hAg hk22 (j := (ix (0 : Int32))) hl0hc24).2 (fun y25 ey25 => ?_)
            have hn_y25 : Nn y25 5 := by rw [ey25]; exact wf_l hW hk22 (j := (ix (0 : Int32))) (by decide)
            have hg26 : ¬ (y25 < 0 ∨ 6 ≤ ix y25) := (in_Nn hn_y25 (by decide) (by decide))
            refine sg_gd hg26 ?_
            refine sg_bv (t := T.1 2 (ix y25)) (ag_r hAg (i := 2) ⟨by decide, by decide⟩ (ix_in hg26)).1 (ag_r hAg (i := 2) ⟨by decide, by decide⟩ (ix_in hg26)).2 (fun y27 ey27 => ?_)
            have hn_y27 : Nn y27 3 := by rw [ey27]; exact hW.2.1 _ (ix_in hg26)
            have hg28 : ¬ (y27 < 0 ∨ 4 ≤ ix y27) := (in_Nn hn_y27 (by decide) (by decide))
            refine sg_gd hg28 ?_
            refine sg_bv (t := Z18.1 31 (ix y27)) rfl (hAg.2.2.2.1 _ _ (ext_l (ext_in (ix_in hg28)))).symm (fun y29 ey29 => ?_)
            refine sg_bv (t := T.1 (39 + (ix (nI k38))) 2) (ag_s hAg hk22 (j := 2) ⟨by decide, fun h => absurd h (by decide), by decide⟩).1 (ag_s hAg hk22 (j := 2) ⟨by decide, fun h => absurd h (by decide), by decide⟩).2 (fun y30 ey30 => ?_)
            have hn_y30 : Nn y30 500 := by rw [ey30]; exact wf_cnt hW hk22
            refine sg_bv (t := y29 + y30) rfl rfl (fun y31 ey31 => ?_)
            refine sg_bz (fun Z32 Z32' eZ32 eZ32' => ?_)
            have hAg : Ag B T rk (ext (ext (one S 30 1) 31 4) 32 4) D Z32 Z32' := by rw [eZ32, eZ32']; exact ag_si hAg ⟨by decide, by decide⟩ (st_id)
            refine sg_bv (t := Z32.1 30 1) rfl (hAg.2.2.2.1 _ _ (ext_l (ext_l (one_in)))).symm (fun y33 ey33 => ?_)
            refine sg_bv (t := T.1 (39 + (ix (nI k38))) 2) (ag_s hAg hk22 (j := 2) ⟨by decide, fun h => absurd h (by decide), by decide⟩).1 (ag_s hAg hk22 (j := 2) ⟨by decide, fun h => absurd h (by decide), by decide⟩).2 (fun y34 ey34 => ?_)
            have hn_y34 : Nn y34 500 := by rw [ey34]; exact wf_cnt hW hk22
            refine sg_bv (t := y33 + y34) rfl rfl (fun y35 ey35 => ?_)
            refine sg_bz (fun Z36 Z36' eZ36 eZ36' => ?_)
            have hAg : Ag B T rk (ext (ext (one S 30 1) 31 4) 32 4) D Z36 Z36' := by rw [eZ36, eZ36']; exact ag_si hAg ⟨by decide, by decide⟩ (st_id)
            rw [nIs]
            exact IH38 (k38 + 1) Z36 Z36' (by omega) (by omega) hAg
    exact L38 100 0 Z2 Z2' (by omega) (by omega) hAg
  have L7 : ∀ (n7 k7 : Nat)  (Z38 Z38' : Mem), k7 ≤ 4 → 4 < n7 + k7 → Ag B T rk (ext (ext (one S 30 1) 31 k7) 32 k7) D Z38 Z38' → Sg Q (F_X1_countVotes_l7 F_X1_countVotes_x7 n7 Z38 (nI k7)) (F_X1_countVotes_l7 F_X1_countVotes_x7 n7 Z38' (nI k7)) := by
    intro n7
    induction n7 with
    | zero =>
      intro k7 Z38 Z38' h1 h2
      exact absurd h2 (by omega)
    | succ n7 IH7 =>
      intro k7 Z38 Z38' hk7 hf7 hAg
      rw [F_X1_countVotes_l7]; try rw [F_X1_countVotes_l7]
      refine sg_br (fun hc39 => ?_) (fun hc39 => ?_)
      · have hxhc39 := ct_le (y := (4 : Int32)) (B := 4) rfl (by decide) (by omega) hc39
        obtain rfl : k7 = 4 := by omega
        exact Jx7 Z38 Z38' hAg
      · have hxhc39 := ct_lt (y := (4 : Int32)) (B := 4) rfl (by decide) (by omega) hc39
        have hg40 : ¬ ((nI k7) < 0 ∨ 4 ≤ ix (nI k7)) := (in_nI (by omega) (by decide))
        refine sg_gd hg40 ?_
        refine sg_bz (fun Z41 Z41' eZ41 eZ41' => ?_)
        have hAg : Ag B T rk (ext (ext (one S 30 1) 31 (k7 + 1)) 32 k7) D Z41 Z41' := by rw [eZ41, eZ41']; exact ag_si hAg ⟨by decide, by decide⟩ (st_cong (st_ext (by omega)))
        refine sg_calp (sp_X0_standingOf B T rk _ _  Z41 Z41' (nI k7)   hAg) (fun rr44 hp2 => ?_)
        refine sg_bz (fun Z45 Z45' eZ45 eZ45' => ?_)
        have hAg : Ag B T rk (ext (ext (one S 30 1) 31 (k7 + 1)) 32 (k7 + 1)) D Z45 Z45' := by rw [eZ45, eZ45']; exact ag_si hAg ⟨by decide, by decide⟩ (st_ext (by omega))
        rw [nIs]
        exact IH7 (k7 + 1) Z45 Z45' (by omega) (by omega) hAg
  exact L7 100 0 Z1 Z1' (by omega) (by omega) (ag_mono hAg (m_0 (m_0 (m_id))) (m_id))

set_option maxHeartbeats 4000000 in
theorem sp_X1_barredSet (B : Mem × Mem) (T : Mem) (rk : Prop) (S D : Nat → Nat → Prop)  (Z Z' : Mem)   (hS33 : ∀ j, j < 4 → S 33 j)   (hAg : Ag B T rk S D Z Z') : Sg (fun a b => a = b ∧ True) (F_X1_barredSet Z) (F_X1_barredSet Z') := by
  have hW := hAg.1
  have hb2 := hW.1.1.2
  have hb5 := hW.1.2.2.1.2
  have hb7 := hW.1.2.2.2.1.2
  unfold F_X1_barredSet
  refine sg_go (fun Q hQ => ?_)
  have Jx4 : ∀ (w1 : Int32), Sg Q (F_X1_barredSet_x4 w1) (F_X1_barredSet_x4 w1) := by
    intro w1
    unfold F_X1_barredSet_x4
    rw [hQ]
    exact sg_ret ⟨rfl, trivial⟩
  have L4 : ∀ (n4 k4 : Nat) (u2 : Int32), k4 ≤ 4 → 4 < n4 + k4 → Sg Q (F_X1_barredSet_l4 Z F_X1_barredSet_x4 n4 u2 (nI k4)) (F_X1_barredSet_l4 Z' F_X1_barredSet_x4 n4 u2 (nI k4)) := by
    intro n4
    induction n4 with
    | zero =>
      intro k4 u2 h1 h2
      exact absurd h2 (by omega)
    | succ n4 IH4 =>
      intro k4 u2 hk4 hf4 
      rw [F_X1_barredSet_l4]; try rw [F_X1_barredSet_l4]
      refine sg_br (fun hc4 => ?_) (fun hc4 => ?_)
      · have hxhc4 := ct_le (y := (4 : Int32)) (B := 4) rfl (by decide) (by omega) hc4
        exact Jx4 u2
      · have hxhc4 := ct_lt (y := (4 : Int32)) (B := 4) rfl (by decide) (by omega) hc4
        have hg5 : ¬ ((nI k4) < 0 ∨ 4 ≤ ix (nI k4)) := (in_nI (by omega) (by decide))
        refine sg_gd hg5 ?_
        refine sg_bv (t := Z.1 33 (ix (nI k4))) rfl (hAg.2.2.2.1 _ _ (hS33 _ (ix_in hg5))).symm (fun y6 ey6 => ?_)
        refine sg_br (fun hc7 => ?_) (fun hc7 => ?_)
        · rw [nIs]
          exact IH4 (k4 + 1) u2 (by omega) (by omega) 
        · refine sg_bv (t := (1 : Int32) <<< ((nI k4) &&& 31)) rfl rfl (fun y8 ey8 => ?_)
          refine sg_bv (t := u2 ||| y8) rfl rfl (fun y9 ey9 => ?_)
          rw [nIs]
          exact IH4 (k4 + 1) y9 (by omega) (by omega) 
  exact L4 100 0 (0 : Int32) (by omega) (by omega) 

set_option maxHeartbeats 4000000 in
theorem sp_X1_countVotesHere (B : Mem × Mem) (T : Mem) (rk : Prop) (S D : Nat → Nat → Prop)  (Z Z' : Mem)   (hS7 : ∀ j, j < 6 → S 7 j)   (hAg : Ag B T rk S D Z Z') : Sg (Qi (fun a b (r : Int32) => Ag B T rk (ext S 37 4) D a b ∧ True)) (F_X1_countVotesHere Z) (F_X1_countVotesHere Z') := by
  have hW := hAg.1
  have hb2 := hW.1.1.2
  have hb5 := hW.1.2.2.1.2
  have hb7 := hW.1.2.2.2.1.2
  unfold F_X1_countVotesHere
  refine sg_go (fun Q hQ => ?_)
  have Jx5 : ∀  (Z1 Z1' : Mem), Ag B T rk (ext S 37 4) D Z1 Z1' → Sg Q (F_X1_countVotesHere_x5 Z1) (F_X1_countVotesHere_x5 Z1') := by
    intro Z1 Z1' hAg
    unfold F_X1_countVotesHere_x5
    have Jx28 : ∀ (w2 : Int32) (Z3 Z3' : Mem), Ag B T rk (ext S 37 4) D Z3 Z3' → Sg Q (F_X1_countVotesHere_x28 Z3 w2) (F_X1_countVotesHere_x28 Z3' w2) := by
      intro w2 Z3 Z3' hAg
      unfold F_X1_countVotesHere_x28
      rw [hQ]
      exact sg_retm ⟨hAg, trivial⟩
    have L28 : ∀ (n28 k28 : Nat) (u4 : Int32) (Z6 Z6' : Mem), k28 ≤ (ix (T.1 1 2)) → (ix (T.1 1 2)) < n28 + k28 → Ag B T rk (ext S 37 4) D Z6 Z6' → Sg Q (F_X1_countVotesHere_l28 F_X1_countVotesHere_x28 n28 Z6 u4 (nI k28)) (F_X1_countVotesHere_l28 F_X1_countVotesHere_x28 n28 Z6' u4 (nI k28)) := by
      intro n28
      induction n28 with
      | zero =>
        intro k28 u4 Z6 Z6' h1 h2
        exact absurd h2 (by omega)
      | succ n28 IH28 =>
        intro k28 u4 Z6 Z6' hk28 hf28 hAg
        rw [F_X1_countVotesHere_l28]; try rw [F_X1_countVotesHere_l28]
        refine sg_bv (t := T.1 1 2) (ag_b hAg (j := 2) (by decide)).1 (ag_b hAg (j := 2) (by decide)).2 (fun y7 ey7 => ?_)
        have hn_y7 : Nn y7 6 := by rw [ey7]; exact hW.1.1
        refine sg_br (fun hc8 => ?_) (fun hc8 => ?_)
        · have hxhc8 := ct_le hn_y7.1 (Nat.le_trans hn_y7.2 (by decide)) (by omega) hc8
          rw [ey7] at hxhc8
          exact Jx28 u4 Z6 Z6' hAg
        · have hxhc8 := ct_lt hn_y7.1 (Nat.le_trans hn_y7.2 (by decide)) (by omega) hc8
          rw [ey7] at hxhc8
          have hg9 : ¬ ((nI k28) < 0 ∨ 6 ≤ ix (nI k28)) := (in_nI (by omega) (by decide))
          refine sg_gd hg9 ?_
          refine sg_bv (t := T.1 2 (ix (nI k28))) (ag_r hAg (i := 2) ⟨by decide, by decide⟩ (ix_in hg9)).1 (ag_r hAg (i := 2) ⟨by decide, by decide⟩ (ix_in hg9)).2 (fun y10 ey10 => ?_)
          have hn_y10 : Nn y10 3 := by rw [ey10]; exact hW.2.1 _ (ix_in hg9)
          have hg11 : ¬ (y10 < 0 ∨ 4 ≤ ix y10) := (in_Nn hn_y10 (by decide) (by decide))
          refine sg_gd hg11 ?_
          refine sg_bv (t := Z6.1 37 (ix y10)) rfl (hAg.2.2.2.1 _ _ (ext_in (ix_in hg11))).symm (fun y12 ey12 => ?_)
          refine sg_bv (t := Z6.1 7 (ix (nI k28))) rfl (hAg.2.2.2.1 _ _ (ext_l (hS7 _ (ix_in hg9)))).symm (fun y13 ey13 => ?_)
          refine sg_bv (t := y12 + y13) rfl rfl (fun y14 ey14 => ?_)
          refine sg_bz (fun Z15 Z15' eZ15 eZ15' => ?_)
          have hAg : Ag B T rk (ext S 37 4) D Z15 Z15' := by rw [eZ15, eZ15']; exact ag_si hAg ⟨by decide, by decide⟩ (st_id)
          refine sg_bv (t := Z15.1 7 (ix (nI k28))) rfl (hAg.2.2.2.1 _ _ (ext_l (hS7 _ (ix_in hg9)))).symm (fun y16 ey16 => ?_)
          refine sg_bv (t := u4 + y16) rfl rfl (fun y17 ey17 => ?_)
          rw [nIs]
          exact IH28 (k28 + 1) y17 Z15 Z15' (by omega) (by omega) hAg
    exact L28 100 0 (0 : Int32) Z1 Z1' (by omega) (by omega) hAg
  have L5 : ∀ (n5 k5 : Nat)  (Z19 Z19' : Mem), k5 ≤ 4 → 4 < n5 + k5 → Ag B T rk (ext S 37 k5) D Z19 Z19' → Sg Q (F_X1_countVotesHere_l5 F_X1_countVotesHere_x5 n5 Z19 (nI k5)) (F_X1_countVotesHere_l5 F_X1_countVotesHere_x5 n5 Z19' (nI k5)) := by
    intro n5
    induction n5 with
    | zero =>
      intro k5 Z19 Z19' h1 h2
      exact absurd h2 (by omega)
    | succ n5 IH5 =>
      intro k5 Z19 Z19' hk5 hf5 hAg
      rw [F_X1_countVotesHere_l5]; try rw [F_X1_countVotesHere_l5]
      refine sg_br (fun hc20 => ?_) (fun hc20 => ?_)
      · have hxhc20 := ct_le (y := (4 : Int32)) (B := 4) rfl (by decide) (by omega) hc20
        obtain rfl : k5 = 4 := by omega
        exact Jx5 Z19 Z19' hAg
      · have hxhc20 := ct_lt (y := (4 : Int32)) (B := 4) rfl (by decide) (by omega) hc20
        have hg21 : ¬ ((nI k5) < 0 ∨ 4 ≤ ix (nI k5)) := (in_nI (by omega) (by decide))
        refine sg_gd hg21 ?_
        refine sg_bz (fun Z22 Z22' eZ22 eZ22' => ?_)
        have hAg : Ag B T rk (ext S 37 (k5 + 1)) D Z22 Z22' := by rw [eZ22, eZ22']; exact ag_si hAg ⟨by decide, by decide⟩ (st_ext (by omega))
        rw [nIs]
        exact IH5 (k5 + 1) Z22 Z22' (by omega) (by omega) hAg
  exact L5 100 0 Z Z' (by omega) (by omega) (ag_mono hAg (m_0 (m_id)) (m_id))

set_option maxHeartbeats 4000000 in
theorem sp_X1_addWasted (B : Mem × Mem) (T : Mem) (rk : Prop) (S D : Nat → Nat → Prop)  (Z Z' : Mem) (xa : Int32) (xb : Int32)  (hS35 : ∀ j, j < 4 → S 35 j) (hS37 : ∀ j, j < 4 → S 37 j)   (hAg : Ag B T rk S D Z Z') : Sg (Qi (fun a b (r : Unit) => Ag B T rk S D a b ∧ True)) (F_X1_addWasted Z xa xb) (F_X1_addWasted Z' xa xb) := by
  have hW := hAg.1
  have hb2 := hW.1.1.2
  have hb5 := hW.1.2.2.1.2
  have hb7 := hW.1.2.2.2.1.2
  unfold F_X1_addWasted
  refine sg_go (fun Q hQ => ?_)
  refine sg_bv (t := xb / (2 : Int32)) rfl rfl (fun y1 ey1 => ?_)
  refine sg_bv (t := y1 + (1 : Int32)) rfl rfl (fun y2 ey2 => ?_)
  have Jx9 : ∀  (Z3 Z3' : Mem), Ag B T rk S D Z3 Z3' → Sg Q (F_X1_addWasted_x9 Z3) (F_X1_addWasted_x9 Z3') := by
    intro Z3 Z3' hAg
    unfold F_X1_addWasted_x9
    rw [hQ]
    exact sg_retm ⟨hAg, trivial⟩
  have L9 : ∀ (n9 k9 : Nat)  (Z5 Z5' : Mem), k9 ≤ 4 → 4 < n9 + k9 → Ag B T rk S D Z5 Z5' → Sg Q (F_X1_addWasted_l9 xa y2 F_X1_addWasted_x9 n9 Z5 (nI k9)) (F_X1_addWasted_l9 xa y2 F_X1_addWasted_x9 n9 Z5' (nI k9)) := by
    intro n9
    induction n9 with
    | zero =>
      intro k9 Z5 Z5' h1 h2
      exact absurd h2 (by omega)
    | succ n9 IH9 =>
      intro k9 Z5 Z5' hk9 hf9 hAg
      rw [F_X1_addWasted_l9]; try rw [F_X1_addWasted_l9]
      refine sg_br (fun hc6 => ?_) (fun hc6 => ?_)
      · have hxhc6 := ct_le (y := (4 : Int32)) (B := 4) rfl (by decide) (by omega) hc6
        exact Jx9 Z5 Z5' hAg
      · have hxhc6 := ct_lt (y := (4 : Int32)) (B := 4) rfl (by decide) (by omega) hc6
        have Jj44 : ∀ (v7 : Int32), Sg Q ((F_X1_addWasted_j44 Z5 (nI k9) (F_X1_addWasted_l9 xa y2 F_X1_addWasted_x9 n9)) v7) ((F_X1_addWasted_j44 Z5' (nI k9) (F_X1_addWasted_l9 xa y2 F_X1_addWasted_x9 n9)) v7) := by
          intro v7
          unfold F_X1_addWasted_j44
          have hg8 : ¬ ((nI k9) < 0 ∨ 4 ≤ ix (nI k9)) := (in_nI (by omega) (by decide))
          refine sg_gd hg8 ?_
          refine sg_bv (t := Z5.1 35 (ix (nI k9))) rfl (hAg.2.2.2.1 _ _ (hS35 _ (ix_in hg8))).symm (fun y9 ey9 => ?_)
          refine sg_bv (t := y9 + v7) rfl rfl (fun y10 ey10 => ?_)
          refine sg_bz (fun Z11 Z11' eZ11 eZ11' => ?_)
          have hAg : Ag B T rk S D Z11 Z11' := by rw [eZ11, eZ11']; exact ag_si hAg ⟨by decide, by decide⟩ (st_id)
          rw [nIs]
          exact IH9 (k9 + 1) Z11 Z11' (by omega) (by omega) hAg
        refine sg_brn (fun hc12 => ?_) (fun hc12 => ?_)
        · have hg13 : ¬ ((nI k9) < 0 ∨ 4 ≤ ix (nI k9)) := (in_nI (by omega) (by decide))
          refine sg_gd hg13 ?_
          refine sg_bv (t := Z5.1 37 (ix (nI k9))) rfl (hAg.2.2.2.1 _ _ (hS37 _ (ix_in hg13))).symm (fun y14 ey14 => ?_)
          exact Jj44 y14
        · have hg15 : ¬ ((nI k9) < 0 ∨ 4 ≤ ix (nI k9)) := (in_nI (by omega) (by decide))
          refine sg_gd hg15 ?_
          refine sg_bv (t := Z5.1 37 (ix (nI k9))) rfl (hAg.2.2.2.1 _ _ (hS37 _ (ix_in hg15))).symm (fun y16 ey16 => ?_)
          refine sg_bv (t := y16 - y2) rfl rfl (fun y17 ey17 => ?_)
          refine sg_bv (t := if y17 < (0 : Int32) then (0 : Int32) else y17) rfl rfl (fun y18 ey18 => ?_)
          exact Jj44 y18
  exact L9 100 0 Z Z' (by omega) (by omega) hAg

set_option maxHeartbeats 4000000 in
theorem sp_X1_countDistricts (B : Mem × Mem) (T : Mem) (rk : Prop) (S D : Nat → Nat → Prop)  (Z Z' : Mem)      (hAg : Ag B T rk S D Z Z') : Sg (Qi (fun a b (r : Unit) => Ag B T rk (ext (ext S 34 4) 35 4) D a b ∧ True)) (F_X1_countDistricts Z) (F_X1_countDistricts Z') := by
  have hW := hAg.1
  have hb2 := hW.1.1.2
  have hb5 := hW.1.2.2.1.2
  have hb7 := hW.1.2.2.2.1.2
  unfold F_X1_countDistricts
  refine sg_go (fun Q hQ => ?_)
  have Jx2 : ∀  (Z1 Z1' : Mem), Ag B T rk (ext (ext S 34 4) 35 4) D Z1 Z1' → Sg Q (F_X1_countDistricts_x2 Z1) (F_X1_countDistricts_x2 Z1') := by
    intro Z1 Z1' hAg
    unfold F_X1_countDistricts_x2
    have Jx29 : ∀  (Z2 Z2' : Mem), Ag B T rk (ext (ext S 34 4) 35 4) D Z2 Z2' → Sg Q (F_X1_countDistricts_x29 Z2) (F_X1_countDistricts_x29 Z2') := by
      intro Z2 Z2' hAg
      unfold F_X1_countDistricts_x29
      rw [hQ]
      exact sg_retm ⟨hAg, trivial⟩
    have L29 : ∀ (n29 k29 : Nat)  (Z4 Z4' : Mem), k29 ≤ (ix (T.1 1 5)) → (ix (T.1 1 5)) < n29 + k29 → Ag B T rk (ext (ext S 34 4) 35 4) D Z4 Z4' → Sg Q (F_X1_countDistricts_l29 F_X1_countDistricts_x29 n29 Z4 (nI k29)) (F_X1_countDistricts_l29 F_X1_countDistricts_x29 n29 Z4' (nI k29)) := by
      intro n29
      induction n29 with
      | zero =>
        intro k29 Z4 Z4' h1 h2
        exact absurd h2 (by omega)
      | succ n29 IH29 =>
        intro k29 Z4 Z4' hk29 hf29 hAg
        rw [F_X1_countDistricts_l29]; try rw [F_X1_countDistricts_l29]
        refine sg_bv (t := T.1 1 5) (ag_b hAg (j := 5) (by decide)).1 (ag_b hAg (j := 5) (by decide)).2 (fun y5 ey5 => ?_)
        have hn_y5 : Nn y5 4 := by rw [ey5]; exact hW.1.2.2.1
        refine sg_br (fun hc6 => ?_) (fun hc6 => ?_)
        · have hxhc6 := ct_le hn_y5.1 (Nat.le_trans hn_y5.2 (by decide)) (by omega) hc6
          rw [ey5] at hxhc6
          exact Jx29 Z4 Z4' hAg
        · have hxhc6 := ct_lt hn_y5.1 (Nat.le_trans hn_y5.2 (by decide)) (by omega) hc6
          rw [ey5] at hxhc6
          refine sg_cal (sp_X2_countFirsts B T rk _ _  Z4 Z4' (nI k29)   hAg) (fun Z8 Z8' _ hp5 => ?_)
          have hAg := hp5.1
          refine sg_calp (sp_X2_mostFirsts B T rk _ _  Z8 Z8'   (fun j9 hj9 => (ext_in hj9)) hAg) (fun rr12 hp6 => ?_)
          refine sg_br (fun hc13 => ?_) (fun hc13 => ?_)
          · rw [nIs]
            exact IH29 (k29 + 1) Z8 Z8' (by omega) (by omega) (ag_mono hAg (m_l (m_id)) (m_id))
          · have hg14 : ¬ (rr12 < 0 ∨ 6 ≤ ix rr12) := (in_Op hp6 hc13)
            refine sg_gd hg14 ?_
            refine sg_bv (t := Z8.1 7 (ix rr12)) rfl (hAg.2.2.2.1 _ _ (ext_in (ix_in hg14))).symm (fun y15 ey15 => ?_)
            refine sg_br (fun hc16 => ?_) (fun hc16 => ?_)
            · rw [nIs]
              exact IH29 (k29 + 1) Z8 Z8' (by omega) (by omega) (ag_mono hAg (m_l (m_id)) (m_id))
            · refine sg_bv (t := T.1 2 (ix rr12)) (ag_r hAg (i := 2) ⟨by decide, by decide⟩ (ix_in hg14)).1 (ag_r hAg (i := 2) ⟨by decide, by decide⟩ (ix_in hg14)).2 (fun y17 ey17 => ?_)
              have hn_y17 : Nn y17 3 := by rw [ey17]; exact hW.2.1 _ (ix_in hg14)
              have hg18 : ¬ (y17 < 0 ∨ 4 ≤ ix y17) := (in_Nn hn_y17 (by decide) (by decide))
              refine sg_gd hg18 ?_
              refine sg_bv (t := Z8.1 34 (ix y17)) rfl (hAg.2.2.2.1 _ _ (ext_l (ext_l (ext_in (ix_in hg18))))).symm (fun y19 ey19 => ?_)
              refine sg_bv (t := y19 + (1 : Int32)) rfl rfl (fun y20 ey20 => ?_)
              refine sg_bz (fun Z21 Z21' eZ21 eZ21' => ?_)
              have hAg : Ag B T rk (ext (ext (ext S 34 4) 35 4) 7 6) D Z21 Z21' := by rw [eZ21, eZ21']; exact ag_si hAg ⟨by decide, by decide⟩ (st_id)
              refine sg_cal (sp_X1_countVotesHere B T rk _ _  Z21 Z21'   (fun j9 hj9 => (ext_in hj9)) hAg) (fun Z24 Z24' rr25 hp7 => ?_)
              have hAg := hp7.1
              refine sg_cal (sp_X1_addWasted B T rk _ _  Z24 Z24' y17 rr25  (fun j9 hj9 => (ext_l (ext_l (ext_in hj9)))) (fun j9 hj9 => (ext_in hj9)) hAg) (fun Z27 Z27' _ hp8 => ?_)
              have hAg := hp8.1
              rw [nIs]
              exact IH29 (k29 + 1) Z27 Z27' (by omega) (by omega) (ag_mono hAg (m_l (m_l (m_id))) (m_id))
    exact L29 100 0 Z1 Z1' (by omega) (by omega) hAg
  have L2 : ∀ (n2 k2 : Nat)  (Z30 Z30' : Mem), k2 ≤ 4 → 4 < n2 + k2 → Ag B T rk (ext (ext S 34 k2) 35 k2) D Z30 Z30' → Sg Q (F_X1_countDistricts_l2 F_X1_countDistricts_x2 n2 Z30 (nI k2)) (F_X1_countDistricts_l2 F_X1_countDistricts_x2 n2 Z30' (nI k2)) := by
    intro n2
    induction n2 with
    | zero =>
      intro k2 Z30 Z30' h1 h2
      exact absurd h2 (by omega)
    | succ n2 IH2 =>
      intro k2 Z30 Z30' hk2 hf2 hAg
      rw [F_X1_countDistricts_l2]; try rw [F_X1_countDistricts_l2]
      refine sg_br (fun hc31 => ?_) (fun hc31 => ?_)
      · have hxhc31 := ct_le (y := (4 : Int32)) (B := 4) rfl (by decide) (by omega) hc31
        obtain rfl : k2 = 4 := by omega
        exact Jx2 Z30 Z30' hAg
      · have hxhc31 := ct_lt (y := (4 : Int32)) (B := 4) rfl (by decide) (by omega) hc31
        have hg32 : ¬ ((nI k2) < 0 ∨ 4 ≤ ix (nI k2)) := (in_nI (by omega) (by decide))
        refine sg_gd hg32 ?_
        refine sg_bz (fun Z33 Z33' eZ33 eZ33' => ?_)
        have hAg : Ag B T rk (ext (ext S 34 (k2 + 1)) 35 k2) D Z33 Z33' := by rw [eZ33, eZ33']; exact ag_si hAg ⟨by decide, by decide⟩ (st_cong (st_ext (by omega)))
        refine sg_bz (fun Z34 Z34' eZ34 eZ34' => ?_)
        have hAg : Ag B T rk (ext (ext S 34 (k2 + 1)) 35 (k2 + 1)) D Z34 Z34' := by rw [eZ34, eZ34']; exact ag_si hAg ⟨by decide, by decide⟩ (st_ext (by omega))
        rw [nIs]
        exact IH2 (k2 + 1) Z34 Z34' (by omega) (by omega) hAg
  exact L2 100 0 Z Z' (by omega) (by omega) (ag_mono hAg (m_0 (m_0 (m_id))) (m_id))

set_option maxHeartbeats 4000000 in
theorem sp_X1_figure (B : Mem × Mem) (T : Mem) (rk : Prop) (S D : Nat → Nat → Prop)  (Z Z' : Mem) (xa : Int32) (xb : Int32)  (hS31 : ∀ j, j < 4 → S 31 j) (hS32 : ∀ j, j < 4 → S 32 j) (hS34 : ∀ j, j < 4 → S 34 j) (hS35 : ∀ j, j < 4 → S 35 j) (hS33 : ∀ j, j < 4 → S 33 j) (hp_xa : ¬ (xa < 0 ∨ 4 ≤ ix xa))  (hAg : Ag B T rk S D Z Z') : Sg (fun a b => a = b ∧ True) (F_X1_figure Z xa xb) (F_X1_figure Z' xa xb) := by
  have hW := hAg.1
  have hb2 := hW.1.1.2
  have hb5 := hW.1.2.2.1.2
  have hb7 := hW.1.2.2.2.1.2
  unfold F_X1_figure
  refine sg_go (fun Q hQ => ?_)
  refine sg_br (fun hq1 => ?_) (fun hq1 => ?_)
  · have hg2 : ¬ (xa < 0 ∨ 4 ≤ ix xa) := hp_xa
    refine sg_gd hg2 ?_
    refine sg_bv (t := Z.1 31 (ix xa)) rfl (hAg.2.2.2.1 _ _ (hS31 _ (ix_in hg2))).symm (fun y3 ey3 => ?_)
    rw [hQ]
    exact sg_ret ⟨rfl, trivial⟩
  refine sg_br (fun hq4 => ?_) (fun hq4 => ?_)
  · have hg5 : ¬ (xa < 0 ∨ 4 ≤ ix xa) := hp_xa
    refine sg_gd hg5 ?_
    refine sg_bv (t := Z.1 32 (ix xa)) rfl (hAg.2.2.2.1 _ _ (hS32 _ (ix_in hg5))).symm (fun y6 ey6 => ?_)
    rw [hQ]
    exact sg_ret ⟨rfl, trivial⟩
  refine sg_br (fun hq7 => ?_) (fun hq7 => ?_)
  · have hg8 : ¬ (xa < 0 ∨ 4 ≤ ix xa) := hp_xa
    refine sg_gd hg8 ?_
    refine sg_bv (t := Z.1 34 (ix xa)) rfl (hAg.2.2.2.1 _ _ (hS34 _ (ix_in hg8))).symm (fun y9 ey9 => ?_)
    rw [hQ]
    exact sg_ret ⟨rfl, trivial⟩
  refine sg_br (fun hq10 => ?_) (fun hq10 => ?_)
  · have hg11 : ¬ (xa < 0 ∨ 4 ≤ ix xa) := hp_xa
    refine sg_gd hg11 ?_
    refine sg_bv (t := Z.1 35 (ix xa)) rfl (hAg.2.2.2.1 _ _ (hS35 _ (ix_in hg11))).symm (fun y12 ey12 => ?_)
    rw [hQ]
    exact sg_ret ⟨rfl, trivial⟩
  have hg13 : ¬ (xa < 0 ∨ 4 ≤ ix xa) := hp_xa
  refine sg_gd hg13 ?_
  refine sg_bv (t := Z.1 33 (ix xa)) rfl (hAg.2.2.2.1 _ _ (hS33 _ (ix_in hg13))).symm (fun y14 ey14 => ?_)
  refine sg_br (fun hc15 => ?_) (fun hc15 => ?_)
  · rw [hQ]
    exact sg_ret ⟨rfl, trivial⟩
  · rw [hQ]
    exact sg_ret ⟨rfl, trivial⟩

set_option maxHeartbeats 4000000 in
theorem sp_X1_takesPart (B : Mem × Mem) (T : Mem) (rk : Prop) (S D : Nat → Nat → Prop)  (Z Z' : Mem) (xa : Int32)  (hS31 : ∀ j, j < 4 → S 31 j) (hS33 : ∀ j, j < 4 → S 33 j) (hp_xa : ¬ (xa < 0 ∨ 4 ≤ ix xa))  (hAg : Ag B T rk S D Z Z') : Sg (fun a b => a = b ∧ (¬ a = 0 → Z.1 33 (ix xa) = 0)) (F_X1_takesPart Z xa) (F_X1_takesPart Z' xa) := by
  have hW := hAg.1
  have hb2 := hW.1.1.2
  have hb5 := hW.1.2.2.1.2
  have hb7 := hW.1.2.2.2.1.2
  unfold F_X1_takesPart
  refine sg_go (fun Q hQ => ?_)
  have hg1 : ¬ (xa < 0 ∨ 4 ≤ ix xa) := hp_xa
  refine sg_gd hg1 ?_
  refine sg_bv (t := Z.1 31 (ix xa)) rfl (hAg.2.2.2.1 _ _ (hS31 _ (ix_in hg1))).symm (fun y2 ey2 => ?_)
  refine sg_br (fun hc3 => ?_) (fun hc3 => ?_)
  · rw [hQ]
    exact sg_ret ⟨rfl, (by first | exact Or.inl rfl | exact Or.inr rfl | (intro h9; exact absurd rfl h9) | assumption | (intro _; assumption) | simp_all)⟩
  · refine sg_bv (t := Z.1 33 (ix xa)) rfl (hAg.2.2.2.1 _ _ (hS33 _ (ix_in hg1))).symm (fun y4 ey4 => ?_)
    refine sg_brn (fun hc5 => ?_) (fun hc5 => ?_)
    · rw [hQ]
      exact sg_ret ⟨rfl, (by first | exact Or.inl rfl | exact Or.inr rfl | (intro h9; exact absurd rfl h9) | assumption | (intro _; assumption) | simp_all)⟩
    · rw [hQ]
      exact sg_ret ⟨rfl, (fun _ => by first | (rw [← ey4]; assumption) | (rw [← ey5]; assumption) | simp_all)⟩

set_option maxHeartbeats 4000000 in
theorem sp_X1_shareByDivisors (B : Mem × Mem) (T : Mem) (rk : Prop) (S D : Nat → Nat → Prop)  (Z Z' : Mem) (xa : Int32) (xb : Int32)  (hS36 : ∀ j, j < 4 → S 36 j) (hS31 : ∀ j, j < 4 → S 31 j) (hS33 : ∀ j, j < 4 → S 33 j) (hp_xa : Nn xa 60) (hp_xb : (xb = 1 ∨ xb = 2)) (hx0 : Se 0 Z) (hAg : Ag B T rk S D Z Z') : Sg (Qi (fun a b (r : Unit) => Ag B T rk S D a b ∧ Se 99 a)) (F_X1_shareByDivisors Z xa xb) (F_X1_shareByDivisors Z' xa xb) := by
  have hW := hAg.1
  have hb2 := hW.1.1.2
  have hb5 := hW.1.2.2.1.2
  have hb7 := hW.1.2.2.2.1.2
  unfold F_X1_shareByDivisors
  refine sg_go (fun Q hQ => ?_)
  have hbl2 := Nat.le_trans hp_xa.2 (show 60 ≤ 99 by decide)
  have Jx2 : ∀  (Z1 Z1' : Mem), Ag B T rk S D Z1 Z1' → Se 99 Z1 → Sg Q (F_X1_shareByDivisors_x2 Z1) (F_X1_shareByDivisors_x2 Z1') := by
    intro Z1 Z1' hAg hX
    unfold F_X1_shareByDivisors_x2
    rw [hQ]
    exact sg_retm ⟨hAg, (se_mono hX (by omega))⟩
  have L2 : ∀ (n2 k2 : Nat)  (Z3 Z3' : Mem), k2 ≤ (ix xa) → (ix xa) < n2 + k2 → Ag B T rk S D Z3 Z3' → Se k2 Z3 → Sg Q (F_X1_shareByDivisors_l2 xa xb F_X1_shareByDivisors_x2 n2 Z3 (nI k2)) (F_X1_shareByDivisors_l2 xa xb F_X1_shareByDivisors_x2 n2 Z3' (nI k2)) := by
    intro n2
    induction n2 with
    | zero =>
      intro k2 Z3 Z3' h1 h2
      exact absurd h2 (by omega)
    | succ n2 IH2 =>
      intro k2 Z3 Z3' hk2 hf2 hAg hX
      rw [F_X1_shareByDivisors_l2]; try rw [F_X1_shareByDivisors_l2]
      refine sg_br (fun hc4 => ?_) (fun hc4 => ?_)
      · have hxhc4 := ct_le hp_xa.1 (Nat.le_trans hp_xa.2 (by decide)) (by omega) hc4
        exact Jx2 Z3 Z3' hAg (se_mono hX (by omega))
      · have hxhc4 := ct_lt hp_xa.1 (Nat.le_trans hp_xa.2 (by decide)) (by omega) hc4
        have Jx16 : ∀ (w5 : Int32), Op w5 4 → (¬ w5 = -1 → Z3.1 33 (ix w5) = 0) → Sg Q ((F_X1_shareByDivisors_x16 Z3 (nI k2) (F_X1_shareByDivisors_l2 xa xb F_X1_shareByDivisors_x2 n2)) w5) ((F_X1_shareByDivisors_x16 Z3' (nI k2) (F_X1_shareByDivisors_l2 xa xb F_X1_shareByDivisors_x2 n2)) w5) := by
          intro w5 hq_w5 hq1_w5
          unfold F_X1_shareByDivisors_x16
          refine sg_brn (fun hc6 => ?_) (fun hc6 => ?_)
          · have hihc6 := hq1_w5 hc6
            have hg7 : ¬ (w5 < 0 ∨ 4 ≤ ix w5) := (in_Op hq_w5 hc6)
            refine sg_gd hg7 ?_
            refine sg_bv (t := Z3.1 36 (ix w5)) rfl (hAg.2.2.2.1 _ _ (hS36 _ (ix_in hg7))).symm (fun y8 ey8 => ?_)
            refine sg_bv (t := y8 + (1 : Int32)) rfl rfl (fun y9 ey9 => ?_)
            refine sg_bz (fun Z10 Z10' eZ10 eZ10' => ?_)
            have hAg : Ag B T rk S D Z10 Z10' := by rw [eZ10, eZ10']; exact ag_si hAg ⟨by decide, by decide⟩ (st_id)
            have hX : Se (k2 + 1) Z10 := by rw [eZ10, ey9, ey8]; exact se_si hX (by omega) (by assumption) (hq1_w5 (by assumption))
            rw [nIs]
            exact IH2 (k2 + 1) Z10 Z10' (by omega) (by omega) hAg hX
          · rw [hQ]
            exact sg_retm ⟨hAg, (se_mono hX (by omega))⟩
        have L16 : ∀ (n16 k16 : Nat) (u11 : Int32) (u12 : UInt64), k16 ≤ 4 → 4 < n16 + k16 → Op u11 4 → (¬ u11 = -1 → Z3.1 33 (ix u11) = 0) → Sg Q (F_X1_shareByDivisors_l16 xb Z3 (F_X1_shareByDivisors_x16 Z3 (nI k2) (F_X1_shareByDivisors_l2 xa xb F_X1_shareByDivisors_x2 n2)) n16 u11 u12 (nI k16)) (F_X1_shareByDivisors_l16 xb Z3' (F_X1_shareByDivisors_x16 Z3' (nI k2) (F_X1_shareByDivisors_l2 xa xb F_X1_shareByDivisors_x2 n2)) n16 u11 u12 (nI k16)) := by
          intro n16
          induction n16 with
          | zero =>
            intro k16 u11 u12 h1 h2
            exact absurd h2 (by omega)
          | succ n16 IH16 =>
            intro k16 u11 u12 hk16 hf16 hq_u11 hq1_u11
            rw [F_X1_shareByDivisors_l16]; try rw [F_X1_shareByDivisors_l16]
            refine sg_br (fun hc14 => ?_) (fun hc14 => ?_)
            · have hxhc14 := ct_le (y := (4 : Int32)) (B := 4) rfl (by decide) (by omega) hc14
              exact Jx16 u11 hq_u11 hq1_u11
            · have hxhc14 := ct_lt (y := (4 : Int32)) (B := 4) rfl (by decide) (by omega) hc14
              have hg15 : ¬ ((nI k16) < 0 ∨ 4 ≤ ix (nI k16)) := (in_nI (by omega) (by decide))
              refine sg_gd hg15 ?_
              refine sg_bv (t := Z3.1 31 (ix (nI k16))) rfl (hAg.2.2.2.1 _ _ (hS31 _ (ix_in hg15))).symm (fun y16 ey16 => ?_)
              refine sg_bv (t := FP.i2d y16) rfl rfl (fun y17 ey17 => ?_)
              refine sg_bv (t := Z3.1 36 (ix (nI k16))) rfl (hAg.2.2.2.1 _ _ (hS36 _ (ix_in hg15))).symm (fun y18 ey18 => ?_)
              refine sg_bv (t := xb * y18) rfl rfl (fun y19 ey19 => ?_)
              refine sg_bv (t := (1 : Int32) + y19) rfl rfl (fun y20 ey20 => ?_)
              refine sg_bv (t := FP.i2d y20) rfl rfl (fun y21 ey21 => ?_)
              have hg22 : (FP.ddiv y17 y21) &&& 0x7fffffffffffffff ≤ 0x7ff0000000000000 := (by rw [ey17, ey21]; exact sh_g (dv_ne hp_xb (ey18 ▸ hX.1 _ (by rw [ix_nI (by omega)]; omega)) (by omega) ey19 ey20))
              refine sg_gd hg22 ?_
              refine sg_bv (t := FP.ddiv y17 y21) rfl rfl (fun y23 ey23 => ?_)
              refine sg_calp (sp_X1_takesPart B T rk _ _  Z3 Z3' (nI k16)  (fun j9 hj9 => (hS31 _ hj9)) (fun j9 hj9 => (hS33 _ hj9)) (in_nI (by omega) (by decide)) hAg) (fun rr26 hp2 => ?_)
              refine sg_br (fun hc27 => ?_) (fun hc27 => ?_)
              · rw [nIs]
                exact IH16 (k16 + 1) u11 u12 (by omega) (by omega) hq_u11 hq1_u11
              · have hdhp2 := hp2 hc27
                refine sg_br (fun hc28 => ?_) (fun hc28 => ?_)
                · rw [nIs]
                  exact IH16 (k16 + 1) (nI k16) y23 (by omega) (by omega) (Or.inr (in_nI (by omega) (by decide))) (by first | exact Or.inl rfl | exact Or.inr rfl | (intro h9; exact absurd rfl h9) | assumption | (intro _; assumption) | simp_all)
                · have hihc28 := hq1_u11 hc28
                  refine sg_bv (t := Op.cmpValue (FP.dcmp y23 u12) .l) rfl rfl (fun y29 ey29 => ?_)
                  refine sg_br (fun hc30 => ?_) (fun hc30 => ?_)
                  · rw [nIs]
                    exact IH16 (k16 + 1) (nI k16) y23 (by omega) (by omega) (Or.inr (in_nI (by omega) (by decide))) (by first | exact Or.inl rfl | exact Or.inr rfl | (intro h9; exact absurd rfl h9) | assumption | (intro _; assumption) | simp_all)
                  · refine sg_bv (t := Op.cmpValue (FP.dcmp y23 u12) .l) rfl rfl (fun y31 ey31 => ?_)
                    refine sg_brn (fun hc32 => ?_) (fun hc32 => ?_)
                    · rw [nIs]
                      exact IH16 (k16 + 1) u11 u12 (by omega) (by omega) hq_u11 hq1_u11
                    · refine sg_bv (t := Z3.1 31 (ix (nI k16))) rfl (hAg.2.2.2.1 _ _ (hS31 _ (ix_in hg15))).symm (fun y33 ey33 => ?_)
                      have hg34 : ¬ (u11 < 0 ∨ 4 ≤ ix u11) := (in_Op hq_u11 hc28)
                      refine sg_gd hg34 ?_
                      refine sg_bv (t := Z3.1 31 (ix u11)) rfl (hAg.2.2.2.1 _ _ (hS31 _ (ix_in hg34))).symm (fun y35 ey35 => ?_)
                      refine sg_br (fun hc36 => ?_) (fun hc36 => ?_)
                      · rw [nIs]
                        exact IH16 (k16 + 1) u11 u12 (by omega) (by omega) hq_u11 hq1_u11
                      · rw [nIs]
                        exact IH16 (k16 + 1) (nI k16) y23 (by omega) (by omega) (Or.inr (in_nI (by omega) (by decide))) (by first | exact Or.inl rfl | exact Or.inr rfl | (intro h9; exact absurd rfl h9) | assumption | (intro _; assumption) | simp_all)
        exact L16 100 0 ((-1) : Int32) FP.dconst0 (by omega) (by omega) (Or.inl rfl) (by first | exact Or.inl rfl | exact Or.inr rfl | (intro h9; exact absurd rfl h9) | assumption | (intro _; assumption) | simp_all)
  exact L2 100 0 Z Z' (by omega) (by omega) hAg hx0

set_option maxHeartbeats 4000000 in
theorem sp_X1_giveToGreatestRemainder (B : Mem × Mem) (T : Mem) (rk : Prop) (S D : Nat → Nat → Prop)  (Z Z' : Mem)   (hS36 : ∀ j, j < 4 → S 36 j) (hS38 : ∀ j, j < 4 → S 38 j) (hS31 : ∀ j, j < 4 → S 31 j)   (hAg : Ag B T rk S D Z Z') : Sg (Qi (fun a b (r : Unit) => Ag B T rk S D a b ∧ True)) (F_X1_giveToGreatestRemainder Z) (F_X1_giveToGreatestRemainder Z') := by
  have hW := hAg.1
  have hb2 := hW.1.1.2
  have hb5 := hW.1.2.2.1.2
  have hb7 := hW.1.2.2.2.1.2
  unfold F_X1_giveToGreatestRemainder
  refine sg_go (fun Q hQ => ?_)
  have Jx4 : ∀ (w1 : Int32), Op w1 4 → Sg Q ((F_X1_giveToGreatestRemainder_x4 Z) w1) ((F_X1_giveToGreatestRemainder_x4 Z') w1) := by
    intro w1 hq_w1
    unfold F_X1_giveToGreatestRemainder_x4
    refine sg_br (fun hc2 => ?_) (fun hc2 => ?_)
    · rw [hQ]
      exact sg_retm ⟨hAg, trivial⟩
    · have hg3 : ¬ (w1 < 0 ∨ 4 ≤ ix w1) := (in_Op hq_w1 hc2)
      refine sg_gd hg3 ?_
      refine sg_bv (t := Z.1 36 (ix w1)) rfl (hAg.2.2.2.1 _ _ (hS36 _ (ix_in hg3))).symm (fun y4 ey4 => ?_)
      refine sg_bv (t := y4 + (1 : Int32)) rfl rfl (fun y5 ey5 => ?_)
      refine sg_bz (fun Z6 Z6' eZ6 eZ6' => ?_)
      have hAg : Ag B T rk S D Z6 Z6' := by rw [eZ6, eZ6']; exact ag_si hAg ⟨by decide, by decide⟩ (st_id)
      refine sg_bz (fun Z7 Z7' eZ7 eZ7' => ?_)
      have hAg : Ag B T rk S D Z7 Z7' := by rw [eZ7, eZ7']; exact ag_si hAg ⟨by decide, by decide⟩ (st_id)
      rw [hQ]
      exact sg_retm ⟨hAg, trivial⟩
  have L4 : ∀ (n4 k4 : Nat) (u8 : Int32), k4 ≤ 4 → 4 < n4 + k4 → Op u8 4 → Sg Q (F_X1_giveToGreatestRemainder_l4 Z (F_X1_giveToGreatestRemainder_x4 Z) n4 u8 (nI k4)) (F_X1_giveToGreatestRemainder_l4 Z' (F_X1_giveToGreatestRemainder_x4 Z') n4 u8 (nI k4)) := by
    intro n4
    induction n4 with
    | zero =>
      intro k4 u8 h1 h2
      exact absurd h2 (by omega)
    | succ n4 IH4 =>
      intro k4 u8 hk4 hf4 hq_u8
      rw [F_X1_giveToGreatestRemainder_l4]; try rw [F_X1_giveToGreatestRemainder_l4]
      refine sg_br (fun hc10 => ?_) (fun hc10 => ?_)
      · have hxhc10 := ct_le (y := (4 : Int32)) (B := 4) rfl (by decide) (by omega) hc10
        exact Jx4 u8 hq_u8
      · have hxhc10 := ct_lt (y := (4 : Int32)) (B := 4) rfl (by decide) (by omega) hc10
        have hg11 : ¬ ((nI k4) < 0 ∨ 4 ≤ ix (nI k4)) := (in_nI (by omega) (by decide))
        refine sg_gd hg11 ?_
        refine sg_bv (t := Z.1 38 (ix (nI k4))) rfl (hAg.2.2.2.1 _ _ (hS38 _ (ix_in hg11))).symm (fun y12 ey12 => ?_)
        refine sg_br (fun hc13 => ?_) (fun hc13 => ?_)
        · rw [nIs]
          exact IH4 (k4 + 1) u8 (by omega) (by omega) hq_u8
        · refine sg_br (fun hc14 => ?_) (fun hc14 => ?_)
          · rw [nIs]
            exact IH4 (k4 + 1) (nI k4) (by omega) (by omega) (Or.inr (in_nI (by omega) (by decide)))
          · refine sg_bv (t := Z.1 38 (ix (nI k4))) rfl (hAg.2.2.2.1 _ _ (hS38 _ (ix_in hg11))).symm (fun y15 ey15 => ?_)
            have hg16 : ¬ (u8 < 0 ∨ 4 ≤ ix u8) := (in_Op hq_u8 hc14)
            refine sg_gd hg16 ?_
            refine sg_bv (t := Z.1 38 (ix u8)) rfl (hAg.2.2.2.1 _ _ (hS38 _ (ix_in hg16))).symm (fun y17 ey17 => ?_)
            refine sg_br (fun hc18 => ?_) (fun hc18 => ?_)
            · rw [nIs]
              exact IH4 (k4 + 1) (nI k4) (by omega) (by omega) (Or.inr (in_nI (by omega) (by decide)))
            · refine sg_bv (t := Z.1 38 (ix (nI k4))) rfl (hAg.2.2.2.1 _ _ (hS38 _ (ix_in hg11))).symm (fun y19 ey19 => ?_)
              refine sg_bv (t := Z.1 38 (ix u8)) rfl (hAg.2.2.2.1 _ _ (hS38 _ (ix_in hg16))).symm (fun y20 ey20 => ?_)
              refine sg_brn (fun hc21 => ?_) (fun hc21 => ?_)
              · rw [nIs]
                exact IH4 (k4 + 1) u8 (by omega) (by omega) hq_u8
              · refine sg_bv (t := Z.1 31 (ix (nI k4))) rfl (hAg.2.2.2.1 _ _ (hS31 _ (ix_in hg11))).symm (fun y22 ey22 => ?_)
                refine sg_bv (t := Z.1 31 (ix u8)) rfl (hAg.2.2.2.1 _ _ (hS31 _ (ix_in hg16))).symm (fun y23 ey23 => ?_)
                refine sg_br (fun hc24 => ?_) (fun hc24 => ?_)
                · rw [nIs]
                  exact IH4 (k4 + 1) u8 (by omega) (by omega) hq_u8
                · rw [nIs]
                  exact IH4 (k4 + 1) (nI k4) (by omega) (by omega) (Or.inr (in_nI (by omega) (by decide)))
  exact L4 100 0 ((-1) : Int32) (by omega) (by omega) (Or.inl rfl)

set_option maxHeartbeats 4000000 in
theorem sp_X1_shareByRemainders (B : Mem × Mem) (T : Mem) (rk : Prop) (S D : Nat → Nat → Prop)  (Z Z' : Mem) (xa : Int32)  (hS36 : ∀ j, j < 4 → S 36 j) (hS31 : ∀ j, j < 4 → S 31 j) (hS33 : ∀ j, j < 4 → S 33 j) (hp_xa : Nn xa 60)  (hAg : Ag B T rk S D Z Z') : Sg (Qi (fun a b (r : Unit) => Ag B T rk S D a b ∧ True)) (F_X1_shareByRemainders Z xa) (F_X1_shareByRemainders Z' xa) := by
  have hW := hAg.1
  have hb2 := hW.1.1.2
  have hb5 := hW.1.2.2.1.2
  have hb7 := hW.1.2.2.2.1.2
  unfold F_X1_shareByRemainders
  refine sg_go (fun Q hQ => ?_)
  have Jx4 : ∀ (w1 : Int32), Sg Q ((F_X1_shareByRemainders_x4 Z xa) w1) ((F_X1_shareByRemainders_x4 Z' xa) w1) := by
    intro w1
    unfold F_X1_shareByRemainders_x4
    refine sg_brn (fun hc2 => ?_) (fun hc2 => ?_)
    · have Jx46 : ∀ (w3 : Int32) (Z4 Z4' : Mem), Ag B T rk (ext S 38 4) D Z4 Z4' → Sg Q (F_X1_shareByRemainders_x46 Z4 w3) (F_X1_shareByRemainders_x46 Z4' w3) := by
        intro w3 Z4 Z4' hAg
        unfold F_X1_shareByRemainders_x46
        have hbl130 := ixlt w3
        rw [← bigN_eq] at hbl130
        have Jx130 : ∀  (Z5 Z5' : Mem), Ag B T rk (ext S 38 4) D Z5 Z5' → Sg Q (F_X1_shareByRemainders_x130 Z5) (F_X1_shareByRemainders_x130 Z5') := by
          intro Z5 Z5' hAg
          unfold F_X1_shareByRemainders_x130
          rw [hQ]
          exact sg_retm ⟨(ag_mono hAg (m_l (m_id)) (m_id)), trivial⟩
        have L130 : ∀ (n130 k130 : Nat)  (Z7 Z7' : Mem), k130 ≤ (ix w3) → (ix w3) < n130 + k130 → Ag B T rk (ext S 38 4) D Z7 Z7' → Sg Q (F_X1_shareByRemainders_l130 w3 F_X1_shareByRemainders_x130 n130 Z7 (nI k130)) (F_X1_shareByRemainders_l130 w3 F_X1_shareByRemainders_x130 n130 Z7' (nI k130)) := by
          intro n130
          induction n130 with
          | zero =>
            intro k130 Z7 Z7' h1 h2
            exact absurd h2 (by omega)
          | succ n130 IH130 =>
            intro k130 Z7 Z7' hk130 hf130 hAg
            rw [F_X1_shareByRemainders_l130]; try rw [F_X1_shareByRemainders_l130]
            refine sg_br (fun hc8 => ?_) (fun hc8 => ?_)
            · exact Jx130 Z7 Z7' hAg
            · have hbg := ixlt w3
              have hxhc8 := ct_ltg (by omega) hc8
              refine sg_cal (sp_X1_giveToGreatestRemainder B T rk _ _  Z7 Z7'   (fun j9 hj9 => (ext_l (hS36 _ hj9))) (fun j9 hj9 => (ext_in hj9)) (fun j9 hj9 => (ext_l (hS31 _ hj9))) hAg) (fun Z10 Z10' _ hp5 => ?_)
              have hAg := hp5.1
              rw [nIs]
              exact IH130 (k130 + 1) Z10 Z10' (by omega) (by omega) hAg
        exact L130 bigN 0 Z4 Z4' (by omega) (by omega) hAg
      have L46 : ∀ (n46 k46 : Nat) (u12 : Int32) (Z14 Z14' : Mem), k46 ≤ 4 → 4 < n46 + k46 → Ag B T rk (ext S 38 k46) D Z14 Z14' → Sg Q (F_X1_shareByRemainders_l46 xa w1 F_X1_shareByRemainders_x46 n46 Z14 u12 (nI k46)) (F_X1_shareByRemainders_l46 xa w1 F_X1_shareByRemainders_x46 n46 Z14' u12 (nI k46)) := by
        intro n46
        induction n46 with
        | zero =>
          intro k46 u12 Z14 Z14' h1 h2
          exact absurd h2 (by omega)
        | succ n46 IH46 =>
          intro k46 u12 Z14 Z14' hk46 hf46 hAg
          rw [F_X1_shareByRemainders_l46]; try rw [F_X1_shareByRemainders_l46]
          refine sg_br (fun hc15 => ?_) (fun hc15 => ?_)
          · have hxhc15 := ct_le (y := (4 : Int32)) (B := 4) rfl (by decide) (by omega) hc15
            obtain rfl : k46 = 4 := by omega
            exact Jx46 u12 Z14 Z14' hAg
          · have hxhc15 := ct_lt (y := (4 : Int32)) (B := 4) rfl (by decide) (by omega) hc15
            refine sg_calp (sp_X1_takesPart B T rk _ _  Z14 Z14' (nI k46)  (fun j9 hj9 => (ext_l (hS31 _ hj9))) (fun j9 hj9 => (ext_l (hS33 _ hj9))) (in_nI (by omega) (by decide)) hAg) (fun rr18 hp6 => ?_)
            have Jj74 : ∀ (v19 : Int32), Sg Q ((F_X1_shareByRemainders_j74 w1 Z14 u12 (nI k46) (F_X1_shareByRemainders_l46 xa w1 F_X1_shareByRemainders_x46 n46)) v19) ((F_X1_shareByRemainders_j74 w1 Z14' u12 (nI k46) (F_X1_shareByRemainders_l46 xa w1 F_X1_shareByRemainders_x46 n46)) v19) := by
              intro v19
              unfold F_X1_shareByRemainders_j74
              have hg20 : ¬ w1 = 0 := (by assumption)
              refine sg_gd hg20 ?_
              refine sg_bv (t := v19 / w1) rfl rfl (fun y21 ey21 => ?_)
              have hg22 : ¬ ((nI k46) < 0 ∨ 4 ≤ ix (nI k46)) := (in_nI (by omega) (by decide))
              refine sg_gd hg22 ?_
              refine sg_bz (fun Z23 Z23' eZ23 eZ23' => ?_)
              have hAg : Ag B T rk (ext S 38 k46) D Z23 Z23' := by rw [eZ23, eZ23']; exact ag_si hAg ⟨by decide, by decide⟩ (st_id)
              refine sg_calp (sp_X1_takesPart B T rk _ _  Z23 Z23' (nI k46)  (fun j9 hj9 => (ext_l (hS31 _ hj9))) (fun j9 hj9 => (ext_l (hS33 _ hj9))) (in_nI (by omega) (by decide)) hAg) (fun rr26 hp7 => ?_)
              have Jj110 : ∀ (v27 : Int32), Sg Q ((F_X1_shareByRemainders_j110 u12 (nI k46) (F_X1_shareByRemainders_l46 xa w1 F_X1_shareByRemainders_x46 n46) Z23) v27) ((F_X1_shareByRemainders_j110 u12 (nI k46) (F_X1_shareByRemainders_l46 xa w1 F_X1_shareByRemainders_x46 n46) Z23') v27) := by
                intro v27
                unfold F_X1_shareByRemainders_j110
                refine sg_bz (fun Z28 Z28' eZ28 eZ28' => ?_)
                have hAg : Ag B T rk (ext S 38 (k46 + 1)) D Z28 Z28' := by rw [eZ28, eZ28']; exact ag_si hAg ⟨by decide, by decide⟩ (st_ext (by omega))
                refine sg_bv (t := Z28.1 36 (ix (nI k46))) rfl (hAg.2.2.2.1 _ _ (ext_l (hS36 _ (ix_in hg22)))).symm (fun y29 ey29 => ?_)
                refine sg_bv (t := u12 - y29) rfl rfl (fun y30 ey30 => ?_)
                rw [nIs]
                exact IH46 (k46 + 1) y30 Z28 Z28' (by omega) (by omega) hAg
              refine sg_br (fun hc31 => ?_) (fun hc31 => ?_)
              · exact Jj110 ((-1) : Int32)
              · have hdhp7 := hp7 hc31
                have hg32 : ¬ w1 = 0 := (by assumption)
                refine sg_gd hg32 ?_
                refine sg_bv (t := v19 - v19 / w1 * w1) rfl rfl (fun y33 ey33 => ?_)
                exact Jj110 y33
            refine sg_br (fun hc34 => ?_) (fun hc34 => ?_)
            · exact Jj74 (0 : Int32)
            · have hdhp6 := hp6 hc34
              have hg35 : ¬ ((nI k46) < 0 ∨ 4 ≤ ix (nI k46)) := (in_nI (by omega) (by decide))
              refine sg_gd hg35 ?_
              refine sg_bv (t := Z14.1 31 (ix (nI k46))) rfl (hAg.2.2.2.1 _ _ (ext_l (hS31 _ (ix_in hg35)))).symm (fun y36 ey36 => ?_)
              refine sg_bv (t := xa * y36) rfl rfl (fun y37 ey37 => ?_)
              exact Jj74 y37
      exact L46 100 0 xa Z Z' (by omega) (by omega) (ag_mono hAg (m_0 (m_id)) (m_id))
    · rw [hQ]
      exact sg_retm ⟨hAg, trivial⟩
  have L4 : ∀ (n4 k4 : Nat) (u38 : Int32), k4 ≤ 4 → 4 < n4 + k4 → Sg Q (F_X1_shareByRemainders_l4 Z (F_X1_shareByRemainders_x4 Z xa) n4 u38 (nI k4)) (F_X1_shareByRemainders_l4 Z' (F_X1_shareByRemainders_x4 Z' xa) n4 u38 (nI k4)) := by
    intro n4
    induction n4 with
    | zero =>
      intro k4 u38 h1 h2
      exact absurd h2 (by omega)
    | succ n4 IH4 =>
      intro k4 u38 hk4 hf4 
      rw [F_X1_shareByRemainders_l4]; try rw [F_X1_shareByRemainders_l4]
      refine sg_br (fun hc40 => ?_) (fun hc40 => ?_)
      · have hxhc40 := ct_le (y := (4 : Int32)) (B := 4) rfl (by decide) (by omega) hc40
        exact Jx4 u38
      · have hxhc40 := ct_lt (y := (4 : Int32)) (B := 4) rfl (by decide) (by omega) hc40
        refine sg_calp (sp_X1_takesPart B T rk _ _  Z Z' (nI k4)  (fun j9 hj9 => (hS31 _ hj9)) (fun j9 hj9 => (hS33 _ hj9)) (in_nI (by omega) (by decide)) hAg) (fun rr43 hp8 => ?_)
        refine sg_br (fun hc44 => ?_) (fun hc44 => ?_)
        · refine sg_bv (t := u38 + (0 : Int32)) rfl rfl (fun y45 ey45 => ?_)
          rw [nIs]
          exact IH4 (k4 + 1) y45 (by omega) (by omega) 
        · have hdhp8 := hp8 hc44
          have hg46 : ¬ ((nI k4) < 0 ∨ 4 ≤ ix (nI k4)) := (in_nI (by omega) (by decide))
          refine sg_gd hg46 ?_
          refine sg_bv (t := Z.1 31 (ix (nI k4))) rfl (hAg.2.2.2.1 _ _ (hS31 _ (ix_in hg46))).symm (fun y47 ey47 => ?_)
          refine sg_bv (t := u38 + y47) rfl rfl (fun y48 ey48 => ?_)
          rw [nIs]
          exact IH4 (k4 + 1) y48 (by omega) (by omega) 
  exact L4 100 0 (0 : Int32) (by omega) (by omega) 

set_option maxHeartbeats 4000000 in
theorem sp_X1_shareSeats (B : Mem × Mem) (T : Mem) (rk : Prop) (S D : Nat → Nat → Prop)  (Z Z' : Mem) (xa : Int32) (xb : Int32)  (hS31 : ∀ j, j < 4 → S 31 j) (hS33 : ∀ j, j < 4 → S 33 j) (hp_xa : Nn xa 60)  (hAg : Ag B T rk S D Z Z') : Sg (Qi (fun a b (r : Unit) => Ag B T rk (ext S 36 4) D a b ∧ True)) (F_X1_shareSeats Z xa xb) (F_X1_shareSeats Z' xa xb) := by
  have hW := hAg.1
  have hb2 := hW.1.1.2
  have hb5 := hW.1.2.2.1.2
  have hb7 := hW.1.2.2.2.1.2
  unfold F_X1_shareSeats
  refine sg_go (fun Q hQ => ?_)
  have Jx2 : ∀  (Z1 Z1' : Mem), Ag B T rk (ext S 36 4) D Z1 Z1' → Zr 36 4 Z1 → Sg Q ((F_X1_shareSeats_x2 xa xb) Z1) ((F_X1_shareSeats_x2 xa xb) Z1') := by
    intro Z1 Z1' hAg hX
    unfold F_X1_shareSeats_x2
    refine sg_brn (fun hc2 => ?_) (fun hc2 => ?_)
    · have Jj45 : ∀ (v3 : Int32), ((v3 = 1 ∨ v3 = 2)) → Sg Q ((F_X1_shareSeats_j45 xa Z1) v3) ((F_X1_shareSeats_j45 xa Z1') v3) := by
        intro v3 hq_v3
        unfold F_X1_shareSeats_j45
        refine sg_cal (sp_X1_shareByDivisors B T rk _ _  Z1 Z1' xa v3  (fun j9 hj9 => (ext_in hj9)) (fun j9 hj9 => (ext_l (hS31 _ hj9))) (fun j9 hj9 => (ext_l (hS33 _ hj9))) hp_xa hq_v3 (se_0 hX) hAg) (fun Z5 Z5' _ hp3 => ?_)
        have hAg := hp3.1
        rw [hQ]
        exact sg_retm ⟨hAg, trivial⟩
      refine sg_brn (fun hc7 => ?_) (fun hc7 => ?_)
      · exact Jj45 (1 : Int32) (by first | exact Or.inl rfl | exact Or.inr rfl | (intro h9; exact absurd rfl h9) | assumption | (intro _; assumption) | simp_all)
      · exact Jj45 (2 : Int32) (by first | exact Or.inl rfl | exact Or.inr rfl | (intro h9; exact absurd rfl h9) | assumption | (intro _; assumption) | simp_all)
    · refine sg_cal (sp_X1_shareByRemainders B T rk _ _  Z1 Z1' xa  (fun j9 hj9 => (ext_in hj9)) (fun j9 hj9 => (ext_l (hS31 _ hj9))) (fun j9 hj9 => (ext_l (hS33 _ hj9))) hp_xa hAg) (fun Z9 Z9' _ hp4 => ?_)
      have hAg := hp4.1
      rw [hQ]
      exact sg_retm ⟨hAg, trivial⟩
  have L2 : ∀ (n2 k2 : Nat)  (Z12 Z12' : Mem), k2 ≤ 4 → 4 < n2 + k2 → Ag B T rk (ext S 36 k2) D Z12 Z12' → Zr 36 k2 Z12 → Sg Q (F_X1_shareSeats_l2 (F_X1_shareSeats_x2 xa xb) n2 Z12 (nI k2)) (F_X1_shareSeats_l2 (F_X1_shareSeats_x2 xa xb) n2 Z12' (nI k2)) := by
    intro n2
    induction n2 with
    | zero =>
      intro k2 Z12 Z12' h1 h2
      exact absurd h2 (by omega)
    | succ n2 IH2 =>
      intro k2 Z12 Z12' hk2 hf2 hAg hX
      rw [F_X1_shareSeats_l2]; try rw [F_X1_shareSeats_l2]
      refine sg_br (fun hc13 => ?_) (fun hc13 => ?_)
      · have hxhc13 := ct_le (y := (4 : Int32)) (B := 4) rfl (by decide) (by omega) hc13
        obtain rfl : k2 = 4 := by omega
        exact Jx2 Z12 Z12' hAg hX
      · have hxhc13 := ct_lt (y := (4 : Int32)) (B := 4) rfl (by decide) (by omega) hc13
        have hg14 : ¬ ((nI k2) < 0 ∨ 4 ≤ ix (nI k2)) := (in_nI (by omega) (by decide))
        refine sg_gd hg14 ?_
        refine sg_bz (fun Z15 Z15' eZ15 eZ15' => ?_)
        have hAg : Ag B T rk (ext S 36 (k2 + 1)) D Z15 Z15' := by rw [eZ15, eZ15']; exact ag_si hAg ⟨by decide, by decide⟩ (st_ext (by omega))
        have hX1 : Zr 36 (k2 + 1) Z15 := by rw [eZ15]; exact zr_si hX (by omega)
        rw [nIs]
        exact IH2 (k2 + 1) Z15 Z15' (by omega) (by omega) hAg hX1
  exact L2 100 0 Z Z' (by omega) (by omega) (ag_mono hAg (m_0 (m_id)) (m_id)) zr_0

set_option maxHeartbeats 4000000 in
theorem sp_X1_seatsTogether (B : Mem × Mem) (T : Mem) (rk : Prop) (S D : Nat → Nat → Prop)  (Z Z' : Mem) (xa : Int32)  (hS36 : ∀ j, j < 4 → S 36 j)   (hAg : Ag B T rk S D Z Z') : Sg (fun a b => a = b ∧ True) (F_X1_seatsTogether Z xa) (F_X1_seatsTogether Z' xa) := by
  have hW := hAg.1
  have hb2 := hW.1.1.2
  have hb5 := hW.1.2.2.1.2
  have hb7 := hW.1.2.2.2.1.2
  unfold F_X1_seatsTogether
  refine sg_go (fun Q hQ => ?_)
  have Jx4 : ∀ (w1 : Int32), Sg Q (F_X1_seatsTogether_x4 w1) (F_X1_seatsTogether_x4 w1) := by
    intro w1
    unfold F_X1_seatsTogether_x4
    rw [hQ]
    exact sg_ret ⟨rfl, trivial⟩
  have L4 : ∀ (n4 k4 : Nat) (u2 : Int32), k4 ≤ 4 → 4 < n4 + k4 → Sg Q (F_X1_seatsTogether_l4 Z xa F_X1_seatsTogether_x4 n4 u2 (nI k4)) (F_X1_seatsTogether_l4 Z' xa F_X1_seatsTogether_x4 n4 u2 (nI k4)) := by
    intro n4
    induction n4 with
    | zero =>
      intro k4 u2 h1 h2
      exact absurd h2 (by omega)
    | succ n4 IH4 =>
      intro k4 u2 hk4 hf4 
      rw [F_X1_seatsTogether_l4]; try rw [F_X1_seatsTogether_l4]
      refine sg_br (fun hc4 => ?_) (fun hc4 => ?_)
      · have hxhc4 := ct_le (y := (4 : Int32)) (B := 4) rfl (by decide) (by omega) hc4
        exact Jx4 u2
      · have hxhc4 := ct_lt (y := (4 : Int32)) (B := 4) rfl (by decide) (by omega) hc4
        refine sg_bv (t := (1 : Int32) <<< ((nI k4) &&& 31)) rfl rfl (fun y5 ey5 => ?_)
        refine sg_bv (t := xa &&& y5) rfl rfl (fun y6 ey6 => ?_)
        refine sg_br (fun hc7 => ?_) (fun hc7 => ?_)
        · rw [nIs]
          exact IH4 (k4 + 1) u2 (by omega) (by omega) 
        · have hg8 : ¬ ((nI k4) < 0 ∨ 4 ≤ ix (nI k4)) := (in_nI (by omega) (by decide))
          refine sg_gd hg8 ?_
          refine sg_bv (t := Z.1 36 (ix (nI k4))) rfl (hAg.2.2.2.1 _ _ (hS36 _ (ix_in hg8))).symm (fun y9 ey9 => ?_)
          refine sg_bv (t := u2 + y9) rfl rfl (fun y10 ey10 => ?_)
          rw [nIs]
          exact IH4 (k4 + 1) y10 (by omega) (by omega) 
  exact L4 100 0 (0 : Int32) (by omega) (by omega) 

set_option maxHeartbeats 4000000 in
theorem sp_X1_isRuling (B : Mem × Mem) (T : Mem) (rk : Prop) (S D : Nat → Nat → Prop)  (Z Z' : Mem) (xa : Int32) (xb : Int32)  (hS36 : ∀ j, j < 4 → S 36 j)   (hAg : Ag B T rk S D Z Z') : Sg (fun a b => a = b ∧ True) (F_X1_isRuling Z xa xb) (F_X1_isRuling Z' xa xb) := by
  have hW := hAg.1
  have hb2 := hW.1.1.2
  have hb5 := hW.1.2.2.1.2
  have hb7 := hW.1.2.2.2.1.2
  unfold F_X1_isRuling
  refine sg_go (fun Q hQ => ?_)
  refine sg_calp (sp_X1_seatsTogether B T rk _ _  Z Z' xa  (fun j9 hj9 => (hS36 _ hj9)) hAg) (fun rr3 hp2 => ?_)
  refine sg_bv (t := (2 : Int32) * rr3) rfl rfl (fun y4 ey4 => ?_)
  refine sg_br (fun hc5 => ?_) (fun hc5 => ?_)
  · rw [hQ]
    exact sg_ret ⟨rfl, trivial⟩
  · rw [hQ]
    exact sg_ret ⟨rfl, trivial⟩

set_option maxHeartbeats 4000000 in
theorem sp_X1_swingsOf (B : Mem × Mem) (T : Mem) (rk : Prop) (S D : Nat → Nat → Prop)  (Z Z' : Mem) (xa : Int32) (xb : Int32)  (hS36 : ∀ j, j < 4 → S 36 j)   (hAg : Ag B T rk S D Z Z') : Sg (fun a b => a = b ∧ True) (F_X1_swingsOf Z xa xb) (F_X1_swingsOf Z' xa xb) := by
  have hW := hAg.1
  have hb2 := hW.1.1.2
  have hb5 := hW.1.2.2.1.2
  have hb7 := hW.1.2.2.2.1.2
  unfold F_X1_swingsOf
  refine sg_go (fun Q hQ => ?_)
  refine sg_bv (t := (1 : Int32) <<< (xa &&& 31)) rfl rfl (fun y1 ey1 => ?_)
  have Jx10 : ∀ (w2 : Int32), Sg Q (F_X1_swingsOf_x10 w2) (F_X1_swingsOf_x10 w2) := by
    intro w2
    unfold F_X1_swingsOf_x10
    rw [hQ]
    exact sg_ret ⟨rfl, trivial⟩
  have L10 : ∀ (n10 k10 : Nat) (u3 : Int32), k10 ≤ 16 → 16 < n10 + k10 → Sg Q (F_X1_swingsOf_l10 Z xb y1 F_X1_swingsOf_x10 n10 u3 (nI k10)) (F_X1_swingsOf_l10 Z' xb y1 F_X1_swingsOf_x10 n10 u3 (nI k10)) := by
    intro n10
    induction n10 with
    | zero =>
      intro k10 u3 h1 h2
      exact absurd h2 (by omega)
    | succ n10 IH10 =>
      intro k10 u3 hk10 hf10 
      rw [F_X1_swingsOf_l10]; try rw [F_X1_swingsOf_l10]
      refine sg_br (fun hc5 => ?_) (fun hc5 => ?_)
      · have hxhc5 := ct_le (y := (16 : Int32)) (B := 16) rfl (by decide) (by omega) hc5
        exact Jx10 u3
      · have hxhc5 := ct_lt (y := (16 : Int32)) (B := 16) rfl (by decide) (by omega) hc5
        refine sg_bv (t := (nI k10) &&& y1) rfl rfl (fun y6 ey6 => ?_)
        refine sg_brn (fun hc7 => ?_) (fun hc7 => ?_)
        · rw [nIs]
          exact IH10 (k10 + 1) u3 (by omega) (by omega) 
        · refine sg_calp (sp_X1_isRuling B T rk _ _  Z Z' (nI k10) xb  (fun j9 hj9 => (hS36 _ hj9)) hAg) (fun rr10 hp3 => ?_)
          refine sg_brn (fun hc11 => ?_) (fun hc11 => ?_)
          · rw [nIs]
            exact IH10 (k10 + 1) u3 (by omega) (by omega) 
          · refine sg_bv (t := (nI k10) ||| y1) rfl rfl (fun y12 ey12 => ?_)
            refine sg_calp (sp_X1_isRuling B T rk _ _  Z Z' y12 xb  (fun j9 hj9 => (hS36 _ hj9)) hAg) (fun rr15 hp4 => ?_)
            refine sg_br (fun hc16 => ?_) (fun hc16 => ?_)
            · rw [nIs]
              exact IH10 (k10 + 1) u3 (by omega) (by omega) 
            · rw [nIs]
              exact IH10 (k10 + 1) (u3 + (1 : Int32)) (by omega) (by omega) 
  exact L10 100 0 (0 : Int32) (by omega) (by omega) 

set_option maxHeartbeats 4000000 in
theorem sp_X1_isLess (B : Mem × Mem) (T : Mem) (rk : Prop) (S D : Nat → Nat → Prop)  (Z Z' : Mem) (xa : Int32) (xb : Int32)  (hS36 : ∀ j, j < 4 → S 36 j)   (hAg : Ag B T rk S D Z Z') : Sg (fun a b => a = b ∧ True) (F_X1_isLess Z xa xb) (F_X1_isLess Z' xa xb) := by
  have hW := hAg.1
  have hb2 := hW.1.1.2
  have hb5 := hW.1.2.2.1.2
  have hb7 := hW.1.2.2.2.1.2
  unfold F_X1_isLess
  refine sg_go (fun Q hQ => ?_)
  refine sg_calp (sp_J6_bitCount_0f7a4 B T rk _ _  Z Z' xa   hAg) (fun rr3 hp5 => ?_)
  refine sg_calp (sp_J6_bitCount_0f7a4 B T rk _ _  Z Z' xb   hAg) (fun rr6 hp6 => ?_)
  refine sg_br (fun hc7 => ?_) (fun hc7 => ?_)
  · refine sg_calp (sp_X1_seatsTogether B T rk _ _  Z Z' xa  (fun j9 hj9 => (hS36 _ hj9)) hAg) (fun rr10 hp7 => ?_)
    refine sg_calp (sp_X1_seatsTogether B T rk _ _  Z Z' xb  (fun j9 hj9 => (hS36 _ hj9)) hAg) (fun rr13 hp8 => ?_)
    refine sg_br (fun hc14 => ?_) (fun hc14 => ?_)
    · rw [hQ]
      exact sg_ret ⟨rfl, trivial⟩
    · rw [hQ]
      exact sg_ret ⟨rfl, trivial⟩
  · refine sg_br (fun hc15 => ?_) (fun hc15 => ?_)
    · rw [hQ]
      exact sg_ret ⟨rfl, trivial⟩
    · rw [hQ]
      exact sg_ret ⟨rfl, trivial⟩

set_option maxHeartbeats 4000000 in
theorem sp_X1_leastRulers (B : Mem × Mem) (T : Mem) (rk : Prop) (S D : Nat → Nat → Prop)  (Z Z' : Mem) (xa : Int32)  (hS36 : ∀ j, j < 4 → S 36 j)   (hAg : Ag B T rk S D Z Z') : Sg (fun a b => a = b ∧ True) (F_X1_leastRulers Z xa) (F_X1_leastRulers Z' xa) := by
  have hW := hAg.1
  have hb2 := hW.1.1.2
  have hb5 := hW.1.2.2.1.2
  have hb7 := hW.1.2.2.2.1.2
  unfold F_X1_leastRulers
  refine sg_go (fun Q hQ => ?_)
  have Jx4 : ∀ (w1 : Int32), Sg Q (F_X1_leastRulers_x4 w1) (F_X1_leastRulers_x4 w1) := by
    intro w1
    unfold F_X1_leastRulers_x4
    rw [hQ]
    exact sg_ret ⟨rfl, trivial⟩
  have L4 : ∀ (n4 k4 : Nat) (u2 : Int32), k4 ≤ 16 → 16 < n4 + k4 → Sg Q (F_X1_leastRulers_l4 Z xa F_X1_leastRulers_x4 n4 u2 (nI k4)) (F_X1_leastRulers_l4 Z' xa F_X1_leastRulers_x4 n4 u2 (nI k4)) := by
    intro n4
    induction n4 with
    | zero =>
      intro k4 u2 h1 h2
      exact absurd h2 (by omega)
    | succ n4 IH4 =>
      intro k4 u2 hk4 hf4 
      rw [F_X1_leastRulers_l4]; try rw [F_X1_leastRulers_l4]
      refine sg_br (fun hc4 => ?_) (fun hc4 => ?_)
      · have hxhc4 := ct_le (y := (16 : Int32)) (B := 16) rfl (by decide) (by omega) hc4
        exact Jx4 u2
      · have hxhc4 := ct_lt (y := (16 : Int32)) (B := 16) rfl (by decide) (by omega) hc4
        refine sg_calp (sp_X1_isRuling B T rk _ _  Z Z' (nI k4) xa  (fun j9 hj9 => (hS36 _ hj9)) hAg) (fun rr7 hp3 => ?_)
        refine sg_br (fun hc8 => ?_) (fun hc8 => ?_)
        · rw [nIs]
          exact IH4 (k4 + 1) u2 (by omega) (by omega) 
        · refine sg_br (fun hc9 => ?_) (fun hc9 => ?_)
          · rw [nIs]
            exact IH4 (k4 + 1) (nI k4) (by omega) (by omega) 
          · refine sg_calp (sp_X1_isLess B T rk _ _  Z Z' (nI k4) u2  (fun j9 hj9 => (hS36 _ hj9)) hAg) (fun rr12 hp4 => ?_)
            refine sg_br (fun hc13 => ?_) (fun hc13 => ?_)
            · rw [nIs]
              exact IH4 (k4 + 1) u2 (by omega) (by omega) 
            · rw [nIs]
              exact IH4 (k4 + 1) (nI k4) (by omega) (by omega) 
  exact L4 100 1 (0 : Int32) (by omega) (by omega) 

set_option maxHeartbeats 4000000 in
theorem sp_X5_mix (B : Mem × Mem) (T : Mem) (rk : Prop) (S D : Nat → Nat → Prop)  (Z Z' : Mem) (xa : Int64) (xb : Int64)     (hAg : Ag B T rk S D Z Z') : Sg (fun a b => a = b ∧ True) (F_X5_mix Z xa xb) (F_X5_mix Z' xa xb) := by
  have hW := hAg.1
  have hb2 := hW.1.1.2
  have hb5 := hW.1.2.2.1.2
  have hb7 := hW.1.2.2.2.1.2
  unfold F_X5_mix
  refine sg_go (fun Q hQ => ?_)
  refine sg_bv (t := xa * (31 : Int64)) rfl rfl (fun y1 ey1 => ?_)
  refine sg_bv (t := y1 + xb) rfl rfl (fun y2 ey2 => ?_)
  rw [hQ]
  exact sg_ret ⟨rfl, trivial⟩

set_option maxHeartbeats 4000000 in
theorem sp_X5_mixStack (B : Mem × Mem) (T : Mem) (rk : Prop) (S D : Nat → Nat → Prop)  (Z Z' : Mem) (xa : Int64) (ka : Nat) (hka : ka < ix (T.1 1 7)) (hrk : rk) (hDs : D (39 + ka) 6)   (hAg : Ag B T rk S D Z Z') : Sg (fun a b => a = b ∧ True) (F_X5_mixStack Z xa ka) (F_X5_mixStack Z' xa ka) := by
  have hW := hAg.1
  have hb2 := hW.1.1.2
  have hb5 := hW.1.2.2.1.2
  have hb7 := hW.1.2.2.2.1.2
  unfold F_X5_mixStack
  refine sg_go (fun Q hQ => ?_)
  have Jx5 : ∀ (w1 : Int64), Sg Q ((F_X5_mixStack_x5 Z ka) w1) ((F_X5_mixStack_x5 Z' ka) w1) := by
    intro w1
    unfold F_X5_mixStack_x5
    refine sg_bv (t := Z.2 (39 + ka) 6) rfl (hAg.2.2.2.2 _ _ (hDs)).symm (fun y2 ey2 => ?_)
    have hg3 : (FP.dmul (4652218415073722368 : UInt64) y2) &&& 0x7fffffffffffffff ≤ 0x7ff0000000000000 := mg_g (mg_mul (K := 1034) (L := 1100) (mg_c (by decide +kernel)) (by rw [ey2]; exact hAg.2.2.1.1 _ (Nat.lt_of_lt_of_le hka (Nat.le_trans hb7 (by decide)))) (by decide) (by decide)) (by decide)
    refine sg_gd hg3 ?_
    refine sg_bv (t := FP.dmul (4652218415073722368 : UInt64) y2) rfl rfl (fun y4 ey4 => ?_)
    refine sg_bv (t := FP.d2l y4) rfl rfl (fun y5 ey5 => ?_)
    refine sg_calp (sp_X5_mix B T rk _ _  Z Z' w1 y5   hAg) (fun rr8 hp4 => ?_)
    rw [hQ]
    exact sg_ret ⟨rfl, trivial⟩
  have L5 : ∀ (n5 k5 : Nat) (u9 : Int64), k5 ≤ 6 → 6 < n5 + k5 → Sg Q (F_X5_mixStack_l5 Z ka (F_X5_mixStack_x5 Z ka) n5 u9 (nI k5)) (F_X5_mixStack_l5 Z' ka (F_X5_mixStack_x5 Z' ka) n5 u9 (nI k5)) := by
    intro n5
    induction n5 with
    | zero =>
      intro k5 u9 h1 h2
      exact absurd h2 (by omega)
    | succ n5 IH5 =>
      intro k5 u9 hk5 hf5 
      rw [F_X5_mixStack_l5]; try rw [F_X5_mixStack_l5]
      refine sg_br (fun hc11 => ?_) (fun hc11 => ?_)
      · have hxhc11 := ct_le9 (y := (5 : Int32)) (B := 5) rfl (by decide) (by omega) hc11
        exact Jx5 u9
      · have hxhc11 := ct_lt9 (y := (5 : Int32)) (B := 5) rfl (by decide) (by omega) hc11
        refine sg_calp (sp_X3_figure B T rk _ _  Z Z' ka (nI k5) hka hrk hAg) (fun rr14 hp5 => ?_)
        refine sg_bv (t := Int32.toInt64 rr14) rfl rfl (fun y15 ey15 => ?_)
        refine sg_calp (sp_X5_mix B T rk _ _  Z Z' u9 y15   hAg) (fun rr18 hp6 => ?_)
        rw [nIs]
        exact IH5 (k5 + 1) rr18 (by omega) (by omega) 
  exact L5 100 0 xa (by omega) (by omega) 

set_option maxHeartbeats 4000000 in
theorem sp_X5_mixDistrict (B : Mem × Mem) (T : Mem) (rk : Prop) (S D : Nat → Nat → Prop)  (Z Z' : Mem) (xa : Int64) (xb : Int32)   (hp_xb : ¬ (xb < 0 ∨ 4 ≤ ix xb))  (hAg : Ag B T rk S D Z Z') : Sg (Qi (fun a b (r : Int64) => Ag B T rk (ext (ext (ext (ext (ext (ext S 12 6) 11 6) 27 5) 28 6) 7 6) 7 6) (ext (vds (ext D 8 6) T xb (ix (T.1 1 7))) 8 6) a b ∧ True)) (F_X5_mixDistrict Z xa xb) (F_X5_mixDistrict Z' xa xb) := by
  have hW := hAg.1
  have hb2 := hW.1.1.2
  have hb5 := hW.1.2.2.1.2
  have hb7 := hW.1.2.2.2.1.2
  unfold F_X5_mixDistrict
  refine sg_go (fun Q hQ => ?_)
  have Jx6 : ∀ (w1 : Int64) (Z2 Z2' : Mem), Ag B T rk S D Z2 Z2' → Sg Q ((F_X5_mixDistrict_x6 xb) Z2 w1) ((F_X5_mixDistrict_x6 xb) Z2' w1) := by
    intro w1 Z2 Z2' hAg
    unfold F_X5_mixDistrict_x6
    refine sg_cal (sp_X2_goRounds B T rk _ _  Z2 Z2' xb   hAg) (fun Z5 Z5' rr6 hp13 => ?_)
    have hAg := hp13.1
    have Jx56 : ∀ (w7 : Int64), Sg Q ((F_X5_mixDistrict_x56 xb Z5) w7) ((F_X5_mixDistrict_x56 xb Z5') w7) := by
      intro w7
      unfold F_X5_mixDistrict_x56
      refine sg_cal (sp_X4_fillSeats B T rk _ _  Z5 Z5' xb  hp_xb hAg) (fun Z9 Z9' _ hp14 => ?_)
      have hAg := hp14.1
      have Jx102 : ∀ (w11 : Int64), Sg Q ((F_X5_mixDistrict_x102 xb Z9) w11) ((F_X5_mixDistrict_x102 xb Z9') w11) := by
        intro w11
        unfold F_X5_mixDistrict_x102
        refine sg_cal (sp_X2_leastShift B T rk _ _  Z9 Z9' xb   hAg) (fun Z14 Z14' rr15 hp15 => ?_)
        have hAg := hp15.1
        refine sg_bv (t := Int32.toInt64 rr15) rfl rfl (fun y16 ey16 => ?_)
        refine sg_calp (sp_X5_mix B T rk _ _  Z14 Z14' w11 y16   hAg) (fun rr19 hp16 => ?_)
        refine sg_cal (sp_X2_countFirsts B T rk _ _  Z14 Z14' xb   hAg) (fun Z21 Z21' _ hp17 => ?_)
        have hAg := hp17.1
        refine sg_cal (sp_X2_countPoints B T rk _ _  Z21 Z21' xb   hAg) (fun Z24 Z24' _ hp18 => ?_)
        have hAg := hp18.1
        have hPt := hp18.2
        have Jx179 : ∀ (w26 : Int64), Sg Q ((F_X5_mixDistrict_x179 Z24) w26) ((F_X5_mixDistrict_x179 Z24') w26) := by
          intro w26
          unfold F_X5_mixDistrict_x179
          rw [hQ]
          exact sg_retm ⟨hAg, trivial⟩
        have L179 : ∀ (n179 k179 : Nat) (u27 : Int64), k179 ≤ (ix (T.1 1 2)) → (ix (T.1 1 2)) < n179 + k179 → Sg Q (F_X5_mixDistrict_l179 Z24 (F_X5_mixDistrict_x179 Z24) n179 u27 (nI k179)) (F_X5_mixDistrict_l179 Z24' (F_X5_mixDistrict_x179 Z24') n179 u27 (nI k179)) := by
          intro n179
          induction n179 with
          | zero =>
            intro k179 u27 h1 h2
            exact absurd h2 (by omega)
          | succ n179 IH179 =>
            intro k179 u27 hk179 hf179 
            rw [F_X5_mixDistrict_l179]; try rw [F_X5_mixDistrict_l179]
            refine sg_bv (t := T.1 1 2) (ag_b hAg (j := 2) (by decide)).1 (ag_b hAg (j := 2) (by decide)).2 (fun y29 ey29 => ?_)
            have hn_y29 : Nn y29 6 := by rw [ey29]; exact hW.1.1
            refine sg_br (fun hc30 => ?_) (fun hc30 => ?_)
            · have hxhc30 := ct_le hn_y29.1 (Nat.le_trans hn_y29.2 (by decide)) (by omega) hc30
              rw [ey29] at hxhc30
              exact Jx179 u27
            · have hxhc30 := ct_lt hn_y29.1 (Nat.le_trans hn_y29.2 (by decide)) (by omega) hc30
              rw [ey29] at hxhc30
              have hg31 : ¬ ((nI k179) < 0 ∨ 6 ≤ ix (nI k179)) := (in_nI (by omega) (by decide))
              refine sg_gd hg31 ?_
              refine sg_bv (t := Z24.1 7 (ix (nI k179))) rfl (hAg.2.2.2.1 _ _ (ext_in (ix_in hg31))).symm (fun y32 ey32 => ?_)
              refine sg_bv (t := Int32.toInt64 y32) rfl rfl (fun y33 ey33 => ?_)
              refine sg_calp (sp_X5_mix B T rk _ _  Z24 Z24' u27 y33   hAg) (fun rr36 hp19 => ?_)
              refine sg_bv (t := Z24.2 8 (ix (nI k179))) rfl (hAg.2.2.2.2 _ _ (ext_in (ix_in hg31))).symm (fun y37 ey37 => ?_)
              have hg38 : (FP.dmul (4611686018427387904 : UInt64) y37) &&& 0x7fffffffffffffff ≤ 0x7ff0000000000000 := mg_g (mg_mul (K := 1025) (L := 1108) (mg_c (by decide +kernel)) (by rw [ey37]; exact hPt _ (ix_in (by assumption))) (by decide) (by decide)) (by decide)
              refine sg_gd hg38 ?_
              refine sg_bv (t := FP.dmul (4611686018427387904 : UInt64) y37) rfl rfl (fun y39 ey39 => ?_)
              refine sg_bv (t := FP.d2l y39) rfl rfl (fun y40 ey40 => ?_)
              refine sg_calp (sp_X5_mix B T rk _ _  Z24 Z24' rr36 y40   hAg) (fun rr43 hp20 => ?_)
              rw [nIs]
              exact IH179 (k179 + 1) rr43 (by omega) (by omega) 
        exact L179 100 0 rr19 (by omega) (by omega) 
      have L102 : ∀ (n102 k102 : Nat) (u44 : Int64), k102 ≤ 5 → 5 < n102 + k102 → Sg Q (F_X5_mixDistrict_l102 Z9 (F_X5_mixDistrict_x102 xb Z9) n102 u44 (nI k102)) (F_X5_mixDistrict_l102 Z9' (F_X5_mixDistrict_x102 xb Z9') n102 u44 (nI k102)) := by
        intro n102
        induction n102 with
        | zero =>
          intro k102 u44 h1 h2
          exact absurd h2 (by omega)
        | succ n102 IH102 =>
          intro k102 u44 hk102 hf102 
          rw [F_X5_mixDistrict_l102]; try rw [F_X5_mixDistrict_l102]
          refine sg_br (fun hc46 => ?_) (fun hc46 => ?_)
          · have hxhc46 := ct_le (y := (5 : Int32)) (B := 5) rfl (by decide) (by omega) hc46
            exact Jx102 u44
          · have hxhc46 := ct_lt (y := (5 : Int32)) (B := 5) rfl (by decide) (by omega) hc46
            have hg47 : ¬ ((nI k102) < 0 ∨ 5 ≤ ix (nI k102)) := (in_nI (by omega) (by decide))
            refine sg_gd hg47 ?_
            refine sg_bv (t := Z9.1 27 (ix (nI k102))) rfl (hAg.2.2.2.1 _ _ (ext_l (ext_in (ix_in hg47)))).symm (fun y48 ey48 => ?_)
            refine sg_bv (t := Int32.toInt64 y48) rfl rfl (fun y49 ey49 => ?_)
            refine sg_calp (sp_X5_mix B T rk _ _  Z9 Z9' u44 y49   hAg) (fun rr52 hp21 => ?_)
            rw [nIs]
            exact IH102 (k102 + 1) rr52 (by omega) (by omega) 
      exact L102 100 0 w7 (by omega) (by omega) 
    have L56 : ∀ (n56 k56 : Nat) (u53 : Int64), k56 ≤ 6 → 6 < n56 + k56 → Sg Q (F_X5_mixDistrict_l56 Z5 (F_X5_mixDistrict_x56 xb Z5) n56 u53 (nI k56)) (F_X5_mixDistrict_l56 Z5' (F_X5_mixDistrict_x56 xb Z5') n56 u53 (nI k56)) := by
      intro n56
      induction n56 with
      | zero =>
        intro k56 u53 h1 h2
        exact absurd h2 (by omega)
      | succ n56 IH56 =>
        intro k56 u53 hk56 hf56 
        rw [F_X5_mixDistrict_l56]; try rw [F_X5_mixDistrict_l56]
        refine sg_br (fun hc55 => ?_) (fun hc55 => ?_)
        · have hxhc55 := ct_le (y := (6 : Int32)) (B := 6) rfl (by decide) (by omega) hc55
          exact Jx56 u53
        · have hxhc55 := ct_lt (y := (6 : Int32)) (B := 6) rfl (by decide) (by omega) hc55
          have hg56 : ¬ ((nI k56) < 0 ∨ 6 ≤ ix (nI k56)) := (in_nI (by omega) (by decide))
          refine sg_gd hg56 ?_
          refine sg_bv (t := Z5.1 11 (ix (nI k56))) rfl (hAg.2.2.2.1 _ _ (ext_in (ix_in hg56))).symm (fun y57 ey57 => ?_)
          refine sg_bv (t := Int32.toInt64 y57) rfl rfl (fun y58 ey58 => ?_)
          refine sg_calp (sp_X5_mix B T rk _ _  Z5 Z5' u53 y58   hAg) (fun rr61 hp22 => ?_)
          rw [nIs]
          exact IH56 (k56 + 1) rr61 (by omega) (by omega) 
    exact L56 100 0 w1 (by omega) (by omega) 
  have L6 : ∀ (n6 k6 : Nat) (u62 : Int64) (Z64 Z64' : Mem), k6 ≤ 4 → 4 < n6 + k6 → Ag B T rk S D Z64 Z64' → Sg Q (F_X5_mixDistrict_l6 xb (F_X5_mixDistrict_x6 xb) n6 Z64 u62 (nI k6)) (F_X5_mixDistrict_l6 xb (F_X5_mixDistrict_x6 xb) n6 Z64' u62 (nI k6)) := by
    intro n6
    induction n6 with
    | zero =>
      intro k6 u62 Z64 Z64' h1 h2
      exact absurd h2 (by omega)
    | succ n6 IH6 =>
      intro k6 u62 Z64 Z64' hk6 hf6 hAg
      rw [F_X5_mixDistrict_l6]; try rw [F_X5_mixDistrict_l6]
      refine sg_br (fun hc65 => ?_) (fun hc65 => ?_)
      · have hxhc65 := ct_le9 (y := (3 : Int32)) (B := 3) rfl (by decide) (by omega) hc65
        exact Jx6 u62 Z64 Z64' hAg
      · have hxhc65 := ct_lt9 (y := (3 : Int32)) (B := 3) rfl (by decide) (by omega) hc65
        refine sg_cal (sp_X2_winnerBy B T rk _ _  Z64 Z64' xb (nI k6)   hAg) (fun Z68 Z68' rr69 hp23 => ?_)
        have hAg := hp23.1
        refine sg_bv (t := Int32.toInt64 rr69) rfl rfl (fun y70 ey70 => ?_)
        refine sg_calp (sp_X5_mix B T rk _ _  Z68 Z68' u62 y70   hAg) (fun rr73 hp24 => ?_)
        rw [nIs]
        exact IH6 (k6 + 1) rr73 Z68 Z68' (by omega) (by omega) hAg
  exact L6 100 0 xa Z Z' (by omega) (by omega) hAg

set_option maxHeartbeats 4000000 in
theorem sp_X5_mixParty (B : Mem × Mem) (T : Mem) (rk : Prop) (S D : Nat → Nat → Prop)  (Z Z' : Mem) (xa : Int64) (xb : Int32)  (hS31 : ∀ j, j < 4 → S 31 j) (hS33 : ∀ j, j < 4 → S 33 j) (hS32 : ∀ j, j < 4 → S 32 j) (hS34 : ∀ j, j < 4 → S 34 j) (hS35 : ∀ j, j < 4 → S 35 j) (hp_xb : ¬ (xb < 0 ∨ 4 ≤ ix xb))  (hAg : Ag B T rk S D Z Z') : Sg (Qi (fun a b (r : Int64) => Ag B T rk S D a b ∧ True)) (F_X5_mixParty Z xa xb) (F_X5_mixParty Z' xa xb) := by
  have hW := hAg.1
  have hb2 := hW.1.1.2
  have hb5 := hW.1.2.2.1.2
  have hb7 := hW.1.2.2.2.1.2
  unfold F_X5_mixParty
  refine sg_go (fun Q hQ => ?_)
  have Jx6 : ∀ (w1 : Int64), Sg Q ((F_X5_mixParty_x6 Z xb) w1) ((F_X5_mixParty_x6 Z' xb) w1) := by
    intro w1
    unfold F_X5_mixParty_x6
    have Jx39 : ∀ (w2 : Int64) (Z3 Z3' : Mem), Ag B T rk S D Z3 Z3' → Sg Q (F_X5_mixParty_x39 Z3 w2) (F_X5_mixParty_x39 Z3' w2) := by
      intro w2 Z3 Z3' hAg
      unfold F_X5_mixParty_x39
      rw [hQ]
      exact sg_retm ⟨hAg, trivial⟩
    have L39 : ∀ (n39 k39 : Nat) (u4 : Int64) (Z6 Z6' : Mem), k39 ≤ 3 → 3 < n39 + k39 → Ag B T rk S D Z6 Z6' → Sg Q (F_X5_mixParty_l39 xb F_X5_mixParty_x39 n39 Z6 u4 (nI k39)) (F_X5_mixParty_l39 xb F_X5_mixParty_x39 n39 Z6' u4 (nI k39)) := by
      intro n39
      induction n39 with
      | zero =>
        intro k39 u4 Z6 Z6' h1 h2
        exact absurd h2 (by omega)
      | succ n39 IH39 =>
        intro k39 u4 Z6 Z6' hk39 hf39 hAg
        rw [F_X5_mixParty_l39]; try rw [F_X5_mixParty_l39]
        refine sg_br (fun hc7 => ?_) (fun hc7 => ?_)
        · have hxhc7 := ct_le9 (y := (2 : Int32)) (B := 2) rfl (by decide) (by omega) hc7
          exact Jx39 u4 Z6 Z6' hAg
        · have hxhc7 := ct_lt9 (y := (2 : Int32)) (B := 2) rfl (by decide) (by omega) hc7
          refine sg_cal (sp_X1_shareSeats B T rk _ _  Z6 Z6' (20 : Int32) (nI k39)  (fun j9 hj9 => (hS31 _ hj9)) (fun j9 hj9 => (hS33 _ hj9)) ⟨by decide, by decide⟩ hAg) (fun Z9 Z9' _ hp7 => ?_)
          have hAg := hp7.1
          have hg11 : ¬ (xb < 0 ∨ 4 ≤ ix xb) := hp_xb
          refine sg_gd hg11 ?_
          refine sg_bv (t := Z9.1 36 (ix xb)) rfl (hAg.2.2.2.1 _ _ (ext_in (ix_in hg11))).symm (fun y12 ey12 => ?_)
          refine sg_bv (t := Int32.toInt64 y12) rfl rfl (fun y13 ey13 => ?_)
          refine sg_calp (sp_X5_mix B T rk _ _  Z9 Z9' u4 y13   hAg) (fun rr16 hp8 => ?_)
          refine sg_calp (sp_X1_swingsOf B T rk _ _  Z9 Z9' xb (20 : Int32)  (fun j9 hj9 => (ext_in hj9)) hAg) (fun rr19 hp9 => ?_)
          refine sg_bv (t := Int32.toInt64 rr19) rfl rfl (fun y20 ey20 => ?_)
          refine sg_calp (sp_X5_mix B T rk _ _  Z9 Z9' rr16 y20   hAg) (fun rr23 hp10 => ?_)
          rw [nIs]
          exact IH39 (k39 + 1) rr23 Z9 Z9' (by omega) (by omega) (ag_mono hAg (m_l (m_id)) (m_id))
    exact L39 100 0 w1 Z Z' (by omega) (by omega) hAg
  have L6 : ∀ (n6 k6 : Nat) (u24 : Int64), k6 ≤ 5 → 5 < n6 + k6 → Sg Q (F_X5_mixParty_l6 Z xb (F_X5_mixParty_x6 Z xb) n6 u24 (nI k6)) (F_X5_mixParty_l6 Z' xb (F_X5_mixParty_x6 Z' xb) n6 u24 (nI k6)) := by
    intro n6
    induction n6 with
    | zero =>
      intro k6 u24 h1 h2
      exact absurd h2 (by omega)
    | succ n6 IH6 =>
      intro k6 u24 hk6 hf6 
      rw [F_X5_mixParty_l6]; try rw [F_X5_mixParty_l6]
      refine sg_br (fun hc26 => ?_) (fun hc26 => ?_)
      · have hxhc26 := ct_le9 (y := (4 : Int32)) (B := 4) rfl (by decide) (by omega) hc26
        exact Jx6 u24
      · have hxhc26 := ct_lt9 (y := (4 : Int32)) (B := 4) rfl (by decide) (by omega) hc26
        refine sg_calp (sp_X1_figure B T rk _ _  Z Z' xb (nI k6)  (fun j9 hj9 => (hS31 _ hj9)) (fun j9 hj9 => (hS32 _ hj9)) (fun j9 hj9 => (hS34 _ hj9)) (fun j9 hj9 => (hS35 _ hj9)) (fun j9 hj9 => (hS33 _ hj9)) hp_xb hAg) (fun rr29 hp11 => ?_)
        refine sg_bv (t := Int32.toInt64 rr29) rfl rfl (fun y30 ey30 => ?_)
        refine sg_calp (sp_X5_mix B T rk _ _  Z Z' u24 y30   hAg) (fun rr33 hp12 => ?_)
        rw [nIs]
        exact IH6 (k6 + 1) rr33 (by omega) (by omega) 
  exact L6 100 0 xa (by omega) (by omega) 

set_option maxHeartbeats 4000000 in
theorem sp_X5_digest (B : Mem × Mem) (T : Mem) (rk : Prop) (S D : Nat → Nat → Prop)  (Z Z' : Mem)   (hrk : rk)    (hAg : Ag B T rk S D Z Z') : Sg (Qi (fun a b (r : Int64) => Ag B T rk (ext (ext (ext (ext (ext (one S 30 1) 31 4) 32 4) 33 4) 34 4) 35 4) (vall D T (ix (T.1 1 5))) a b ∧ True)) (F_X5_digest Z) (F_X5_digest Z') := by
  have hW := hAg.1
  have hb2 := hW.1.1.2
  have hb5 := hW.1.2.2.1.2
  have hb7 := hW.1.2.2.2.1.2
  unfold F_X5_digest
  refine sg_go (fun Q hQ => ?_)
  have Jx6 : ∀ (w1 : Int64), Sg Q ((F_X5_digest_x6 Z) w1) ((F_X5_digest_x6 Z') w1) := by
    intro w1
    unfold F_X5_digest_x6
    have Jx34 : ∀  (Z2 Z2' : Mem), Ag B T rk S (vall D T (ix (T.1 1 5))) Z2 Z2' → Sg Q ((F_X5_digest_x34 w1) Z2) ((F_X5_digest_x34 w1) Z2') := by
      intro Z2 Z2' hAg
      unfold F_X5_digest_x34
      have Jx65 : ∀ (w3 : Int64), Sg Q ((F_X5_digest_x65 Z2) w3) ((F_X5_digest_x65 Z2') w3) := by
        intro w3
        unfold F_X5_digest_x65
        have Jx98 : ∀ (w4 : Int64) (Z5 Z5' : Mem), Ag B T rk S (vall D T (ix (T.1 1 5))) Z5 Z5' → Sg Q (F_X5_digest_x98 Z5 w4) (F_X5_digest_x98 Z5' w4) := by
          intro w4 Z5 Z5' hAg
          unfold F_X5_digest_x98
          refine sg_cal (sp_X1_countVotes B T rk _ _  Z5 Z5'    hAg) (fun Z7 Z7' _ hp12 => ?_)
          have hAg := hp12.1
          refine sg_cal (sp_X1_countDistricts B T rk _ _  Z7 Z7'    hAg) (fun Z10 Z10' _ hp13 => ?_)
          have hAg := hp13.1
          have Jx150 : ∀ (w12 : Int64) (Z13 Z13' : Mem), Ag B T rk (ext (ext (ext (ext (ext (one S 30 1) 31 4) 32 4) 33 4) 34 4) 35 4) (vall D T (ix (T.1 1 5))) Z13 Z13' → Sg Q (F_X5_digest_x150 Z13 w12) (F_X5_digest_x150 Z13' w12) := by
            intro w12 Z13 Z13' hAg
            unfold F_X5_digest_x150
            have Jx170 : ∀ (w14 : Int64) (Z15 Z15' : Mem), Ag B T rk (ext (ext (ext (ext (ext (one S 30 1) 31 4) 32 4) 33 4) 34 4) 35 4) (vall D T (ix (T.1 1 5))) Z15 Z15' → Sg Q (F_X5_digest_x170 Z15 w14) (F_X5_digest_x170 Z15' w14) := by
              intro w14 Z15 Z15' hAg
              unfold F_X5_digest_x170
              rw [hQ]
              exact sg_retm ⟨hAg, trivial⟩
            have L170 : ∀ (n170 k170 : Nat) (u16 : Int64) (Z18 Z18' : Mem), k170 ≤ 3 → 3 < n170 + k170 → Ag B T rk (ext (ext (ext (ext (ext (one S 30 1) 31 4) 32 4) 33 4) 34 4) 35 4) (vall D T (ix (T.1 1 5))) Z18 Z18' → Sg Q (F_X5_digest_l170 F_X5_digest_x170 n170 Z18 u16 (nI k170)) (F_X5_digest_l170 F_X5_digest_x170 n170 Z18' u16 (nI k170)) := by
              intro n170
              induction n170 with
              | zero =>
                intro k170 u16 Z18 Z18' h1 h2
                exact absurd h2 (by omega)
              | succ n170 IH170 =>
                intro k170 u16 Z18 Z18' hk170 hf170 hAg
                rw [F_X5_digest_l170]; try rw [F_X5_digest_l170]
                refine sg_br (fun hc19 => ?_) (fun hc19 => ?_)
                · have hxhc19 := ct_le9 (y := (2 : Int32)) (B := 2) rfl (by decide) (by omega) hc19
                  exact Jx170 u16 Z18 Z18' hAg
                · have hxhc19 := ct_lt9 (y := (2 : Int32)) (B := 2) rfl (by decide) (by omega) hc19
                  refine sg_cal (sp_X1_shareSeats B T rk _ _  Z18 Z18' (20 : Int32) (nI k170)  (fun j9 hj9 => (ext_l (ext_l (ext_l (ext_l (ext_in hj9)))))) (fun j9 hj9 => (ext_l (ext_l (ext_in hj9)))) ⟨by decide, by decide⟩ hAg) (fun Z21 Z21' _ hp14 => ?_)
                  have hAg := hp14.1
                  refine sg_calp (sp_X1_leastRulers B T rk _ _  Z21 Z21' (20 : Int32)  (fun j9 hj9 => (ext_in hj9)) hAg) (fun rr25 hp15 => ?_)
                  refine sg_bv (t := Int32.toInt64 rr25) rfl rfl (fun y26 ey26 => ?_)
                  refine sg_calp (sp_X5_mix B T rk _ _  Z21 Z21' u16 y26   hAg) (fun rr29 hp16 => ?_)
                  rw [nIs]
                  exact IH170 (k170 + 1) rr29 Z21 Z21' (by omega) (by omega) (ag_mono hAg (m_l (m_id)) (m_id))
            exact L170 100 0 w12 Z13 Z13' (by omega) (by omega) hAg
          have L150 : ∀ (n150 k150 : Nat) (u30 : Int64) (Z32 Z32' : Mem), k150 ≤ 4 → 4 < n150 + k150 → Ag B T rk (ext (ext (ext (ext (ext (one S 30 1) 31 4) 32 4) 33 4) 34 4) 35 4) (vall D T (ix (T.1 1 5))) Z32 Z32' → Sg Q (F_X5_digest_l150 F_X5_digest_x150 n150 Z32 u30 (nI k150)) (F_X5_digest_l150 F_X5_digest_x150 n150 Z32' u30 (nI k150)) := by
            intro n150
            induction n150 with
            | zero =>
              intro k150 u30 Z32 Z32' h1 h2
              exact absurd h2 (by omega)
            | succ n150 IH150 =>
              intro k150 u30 Z32 Z32' hk150 hf150 hAg
              rw [F_X5_digest_l150]; try rw [F_X5_digest_l150]
              refine sg_br (fun hc33 => ?_) (fun hc33 => ?_)
              · have hxhc33 := ct_le (y := (4 : Int32)) (B := 4) rfl (by decide) (by omega) hc33
                exact Jx150 u30 Z32 Z32' hAg
              · have hxhc33 := ct_lt (y := (4 : Int32)) (B := 4) rfl (by decide) (by omega) hc33
                refine sg_cal (sp_X5_mixParty B T rk _ _  Z32 Z32' u30 (nI k150)  (fun j9 hj9 => (ext_l (ext_l (ext_l (ext_l (ext_in hj9)))))) (fun j9 hj9 => (ext_l (ext_l (ext_in hj9)))) (fun j9 hj9 => (ext_l (ext_l (ext_l (ext_in hj9))))) (fun j9 hj9 => (ext_l (ext_in hj9))) (fun j9 hj9 => (ext_in hj9)) (in_nI (by omega) (by decide)) hAg) (fun Z36 Z36' rr37 hp17 => ?_)
                have hAg := hp17.1
                rw [nIs]
                exact IH150 (k150 + 1) rr37 Z36 Z36' (by omega) (by omega) hAg
          exact L150 100 0 w4 Z10 Z10' (by omega) (by omega) hAg
        have L98 : ∀ (n98 k98 : Nat) (u38 : Int64) (Z40 Z40' : Mem), k98 ≤ (ix (T.1 1 5)) → (ix (T.1 1 5)) < n98 + k98 → Ag B T rk S (vall D T (ix (T.1 1 5))) Z40 Z40' → Sg Q (F_X5_digest_l98 F_X5_digest_x98 n98 Z40 u38 (nI k98)) (F_X5_digest_l98 F_X5_digest_x98 n98 Z40' u38 (nI k98)) := by
          intro n98
          induction n98 with
          | zero =>
            intro k98 u38 Z40 Z40' h1 h2
            exact absurd h2 (by omega)
          | succ n98 IH98 =>
            intro k98 u38 Z40 Z40' hk98 hf98 hAg
            rw [F_X5_digest_l98]; try rw [F_X5_digest_l98]
            refine sg_bv (t := T.1 1 5) (ag_b hAg (j := 5) (by decide)).1 (ag_b hAg (j := 5) (by decide)).2 (fun y41 ey41 => ?_)
            have hn_y41 : Nn y41 4 := by rw [ey41]; exact hW.1.2.2.1
            refine sg_br (fun hc42 => ?_) (fun hc42 => ?_)
            · have hxhc42 := ct_le hn_y41.1 (Nat.le_trans hn_y41.2 (by decide)) (by omega) hc42
              rw [ey41] at hxhc42
              exact Jx98 u38 Z40 Z40' hAg
            · have hxhc42 := ct_lt hn_y41.1 (Nat.le_trans hn_y41.2 (by decide)) (by omega) hc42
              rw [ey41] at hxhc42
              refine sg_cal (sp_X5_mixDistrict B T rk _ _  Z40 Z40' u38 (nI k98)  (in_nI (by omega) (by decide)) hAg) (fun Z45 Z45' rr46 hp18 => ?_)
              have hAg := hp18.1
              rw [nIs]
              exact IH98 (k98 + 1) rr46 Z45 Z45' (by omega) (by omega) (ag_mono hAg (m_l (m_l (m_l (m_l (m_l (m_l (m_id))))))) (m_l (m_lv (m_l (m_id)))))
        exact L98 100 0 w3 Z2 Z2' (by omega) (by omega) hAg
      have L65 : ∀ (n65 k65 : Nat) (u47 : Int64), k65 ≤ (ix (T.1 1 7)) → (ix (T.1 1 7)) < n65 + k65 → Sg Q (F_X5_digest_l65 Z2 (F_X5_digest_x65 Z2) n65 u47 (nI k65)) (F_X5_digest_l65 Z2' (F_X5_digest_x65 Z2') n65 u47 (nI k65)) := by
        intro n65
        induction n65 with
        | zero =>
          intro k65 u47 h1 h2
          exact absurd h2 (by omega)
        | succ n65 IH65 =>
          intro k65 u47 hk65 hf65 
          rw [F_X5_digest_l65]; try rw [F_X5_digest_l65]
          refine sg_bv (t := T.1 1 7) (ag_b hAg (j := 7) (by decide)).1 (ag_b hAg (j := 7) (by decide)).2 (fun y49 ey49 => ?_)
          have hn_y49 : Nn y49 24 := by rw [ey49]; exact hW.1.2.2.2.1
          refine sg_br (fun hc50 => ?_) (fun hc50 => ?_)
          · have hxhc50 := ct_le hn_y49.1 (Nat.le_trans hn_y49.2 (by decide)) (by omega) hc50
            rw [ey49] at hxhc50
            exact Jx65 u47
          · have hxhc50 := ct_lt hn_y49.1 (Nat.le_trans hn_y49.2 (by decide)) (by omega) hc50
            rw [ey49] at hxhc50
            have hg51 : ¬ ((nI k65) < 0 ∨ 24 ≤ ix (nI k65)) := (in_nI (by omega) (by decide))
            refine sg_gd hg51 ?_
            have hk52 : ix (nI k65) < ix (T.1 1 7) := by rw [ix_nI (by omega)]; omega
            refine sg_calp (sp_X5_mixStack B T rk _ _  Z2 Z2' u47 (ix (nI k65)) hk52 hrk (vall_in (by assumption) (hW.2.2.2.2 _ (by assumption)).2) hAg) (fun rr55 hp19 => ?_)
            rw [nIs]
            exact IH65 (k65 + 1) rr55 (by omega) (by omega) 
      exact L65 100 0 w1 (by omega) (by omega) 
    have L34 : ∀ (n34 k34 : Nat)  (Z57 Z57' : Mem), k34 ≤ (ix (T.1 1 5)) → (ix (T.1 1 5)) < n34 + k34 → Ag B T rk S (vall D T k34) Z57 Z57' → Sg Q (F_X5_digest_l34 (F_X5_digest_x34 w1) n34 Z57 (nI k34)) (F_X5_digest_l34 (F_X5_digest_x34 w1) n34 Z57' (nI k34)) := by
      intro n34
      induction n34 with
      | zero =>
        intro k34 Z57 Z57' h1 h2
        exact absurd h2 (by omega)
      | succ n34 IH34 =>
        intro k34 Z57 Z57' hk34 hf34 hAg
        rw [F_X5_digest_l34]; try rw [F_X5_digest_l34]
        refine sg_bv (t := T.1 1 5) (ag_b hAg (j := 5) (by decide)).1 (ag_b hAg (j := 5) (by decide)).2 (fun y58 ey58 => ?_)
        have hn_y58 : Nn y58 4 := by rw [ey58]; exact hW.1.2.2.1
        refine sg_br (fun hc59 => ?_) (fun hc59 => ?_)
        · have hxhc59 := ct_le hn_y58.1 (Nat.le_trans hn_y58.2 (by decide)) (by omega) hc59
          rw [ey58] at hxhc59
          obtain rfl : k34 = (ix (T.1 1 5)) := by omega
          exact Jx34 Z57 Z57' hAg
        · have hxhc59 := ct_lt hn_y58.1 (Nat.le_trans hn_y58.2 (by decide)) (by omega) hc59
          rw [ey58] at hxhc59
          refine sg_cal (sp_X4_fillSeats B T rk _ _  Z57 Z57' (nI k34)  (in_nI (by omega) (by decide)) hAg) (fun Z61 Z61' _ hp20 => ?_)
          have hAg := hp20.1
          rw [nIs]
          exact IH34 (k34 + 1) Z61 Z61' (by omega) (by omega) (ag_mono hAg (m_l (m_l (m_id))) (vall_s hW))
    exact L34 100 0 Z Z' (by omega) (by omega) (ag_mono hAg (m_id) (vall_0 (m_id)))
  have L6 : ∀ (n6 k6 : Nat) (u63 : Int64), k6 ≤ 10 → 10 < n6 + k6 → Sg Q (F_X5_digest_l6 Z (F_X5_digest_x6 Z) n6 u63 (nI k6)) (F_X5_digest_l6 Z' (F_X5_digest_x6 Z') n6 u63 (nI k6)) := by
    intro n6
    induction n6 with
    | zero =>
      intro k6 u63 h1 h2
      exact absurd h2 (by omega)
    | succ n6 IH6 =>
      intro k6 u63 hk6 hf6 
      rw [F_X5_digest_l6]; try rw [F_X5_digest_l6]
      refine sg_br (fun hc65 => ?_) (fun hc65 => ?_)
      · have hxhc65 := ct_le9 (y := (9 : Int32)) (B := 9) rfl (by decide) (by omega) hc65
        exact Jx6 u63
      · have hxhc65 := ct_lt9 (y := (9 : Int32)) (B := 9) rfl (by decide) (by omega) hc65
        refine sg_calp (sp_X0_figure B T rk _ _  Z Z' (nI k6)   hAg) (fun rr68 hp21 => ?_)
        refine sg_bv (t := Int32.toInt64 rr68) rfl rfl (fun y69 ey69 => ?_)
        refine sg_calp (sp_X5_mix B T rk _ _  Z Z' u63 y69   hAg) (fun rr72 hp22 => ?_)
        rw [nIs]
        exact IH6 (k6 + 1) rr72 (by omega) (by omega) 
  exact L6 100 0 (58308 : Int64) (by omega) (by omega) 
