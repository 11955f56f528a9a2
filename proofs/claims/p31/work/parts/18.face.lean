/-! p31: 18.face (laid by wip/gen31/bgen.py) -/
noncomputable def F_X5_candidate (Z : Mem) (xa : Int32) : Option (Mem × Int32) :=
  calp (F_X5_isParty Z xa) fun rr3 => br (rr3 = (0 : Int32)) (none) (bv (Z.1 1 2) fun y5 => br (y5 < (6 : Int32)) (cal (F_X0_addCandidate Z xa) fun Z9 rr10 => some (Z9, rr10)) (none))

set_option maxHeartbeats 4000000 in
set_option maxRecDepth 100000 in
theorem c_X5_candidate (l : Launch) (dC : Nat → ClassId) (dI : Nat → Nat → Nat) (q : Nat → ClassId) (aa : Nat → Nat) (Z : Mem) (xa : Int32)  (sz : Nat) (Zo : Mem) (ro : Int32) (hF : F_X5_candidate Z xa = some (Zo, ro)) : Met l yX5_candidate wsX5_candidate ({ frames := 3, cells := 0, slots := 0, locals := 62 }) (va_Pc [.ref (aa 0), .int xa] (pr_ dC dI (bw q aa Z) (bty q) sz)) (va_Qi (fun (r : Int32) (_ : Unit) => r = ro) (fun (_ : Unit) t => po_ dC dI (bw q aa Zo) (bty q) (va_A (bw q aa Z) sz) t) (va_A (bw q aa Z) sz)) 0 0 (va_A (bw q aa Z) sz) := by
  refine Met.ofW (cc := cX5_candidate) (maxL := 2) (ret := (some .int)) (by decide) rfl ?_
  intro p e s m args below meth c s₁ B hml hv
  obtain ⟨hargs, hsz, hP, hK, hD0⟩ := hv
  have hx := B.exec
  have hb := B.bytes
  have hr := B.returns
  have hts := atoms_spec (ws := wsX5_candidate) B.pre
  have hown : s.vm.findClass RX5 = some m.cls := findClass_of_methodNamed B.named
  have hlocks := B.notSynchronized
  subst hsz
  have hD := hD0.self (sz := s.heap.size)
  generalize hAe : va_A (bw q aa Z) s.heap.size = A at hD ⊢
  have hA : ∀ x : Nat, s.heap.size ≤ x → A x := fun x h => by rw [← hAe]; exact Or.inr h
  have hS : va_S A s.heap s.heap [] := va_S.rf
  have hinX0 : ∀ w ∈ u_ws RX0 TX0 11, w ∈ wsX5_candidate := by decide +kernel
  have hinX5 : ∀ w ∈ u_ws RX5 TX5 5, w ∈ wsX5_candidate := by decide +kernel
  have hl := lv_entry ([.ref (aa 0), .int xa]) (n := 2) (Nat.le_of_ble_eq_true rfl)
  refine w_ent hargs ?_
  rw [lg_entry_eq]
  generalize (lg_sl ([.ref (aa 0), .int xa]) ++ List.replicate (2 - (lg_sl ([.ref (aa 0), .int xa])).length) Slot.unset).toArray = ls at hl ⊢
  have hl : lv_has ls 2 [(0, .ref (aa 0)), (1, .int xa)] := hl
  unfold F_X5_candidate at hF
  refine w_go (fun Q hQ => ?_)
  refine lv_iload_n hx hb dX5_candidate_0 rfl (lv_at hl 1 rfl) ?_
  obtain ⟨r2, hC1, hF⟩ := calp_some hF
  have hFc := b_free (ws := bw q aa Z) hD hS hA
  refine va_calli (va_runS (As := [.int xa]) (rest := []) ⟨hx, hb, hml, hown, hts⟩ (c_X5_isParty l dC dI q aa Z xa  _ _  hC1) (va_cwS 1 hts gX5_candidate_X5_isParty rfl rfl rfl (by decide +kernel) ⟨Nat.le_of_ble_eq_true rfl, Nat.le_of_ble_eq_true rfl⟩) ⟨pr_blind, fun U hU hW => ⟨rfl, pr_mk hU hW hP hK hD⟩⟩ rfl rfl hl.1 rfl (lv_room (Nat.le_of_ble_eq_true rfl)) dX5_candidate_1 ⟨Nat.le_of_ble_eq_true rfl, Nat.le_of_ble_eq_true rfl⟩) hS (fun x _ h => hFc x h) hFc (fun rr3 u t H1 locs ht hvm hw hB hz1 hk1 hS => ?_)
  obtain ⟨hP, hK1, hD1⟩ := hB
  rw [ht] at hP
  have hD := hD1.weaken (fun _ q9 _ h9 => hFc q9.1 h9)
  clear hFc hD1 hK1 hvm hz1 hk1
  generalize H1 = H at hP hS ⊢
  refine W.widen (k := 0) (n := 0) (Nat.le_refl _) (Nat.le_refl _) ?_
  obtain rfl : rr3 = r2 := hw
  refine lv_if_ne (tgt := 17) hx hb dX5_candidate_4 (by decide) (fun hc4 => ?_) (fun hc4 => ?_)
  · have hF := br_neg hc4 hF
    refine lv_aload_n hx hb dX5_candidate_17 rfl (lv_at hl 0 rfl) ?_
    refine va_get (D := (dC, dI)) (ci := 7) (v := .ref (aa 1)) (C := RX5) (T := TX5) (N := 5) hx hb hts hinX5 hown hK hP 0 (bw_at (i := 0) (by decide) rfl) rfl 0 (by decide) (hts (.fieldLink RX5 10 "BallotLoom" "box" "LBallotLoom$Box;") (by decide +kernel)) (fun _ h9 => h9) rfl dX5_candidate_18 ?_
    refine va_get (D := (dC, dI)) (ci := 2) (v := .int (Z.1 1 2)) (C := RX0) (T := TX0) (N := 11) hx hb hts hinX0 hown hK hP 1 (bw_at (i := 1) (by decide) rfl) rfl 2 (by decide) (hts (.fieldLink RX5 55 "BallotLoom$Box" "candidates" "I") (by decide +kernel)) (fun _ h9 => h9) rfl dX5_candidate_21 ?_
    refine lv_topi (fun y5 ey5 => ?_)
    have hF := bv_at ey5 hF
    refine lv_bipush (v := 6) hx hb dX5_candidate_24 (by decide) ?_
    refine lv_icmp_lt (tgt := 39) hx hb dX5_candidate_26 (by decide) (fun hc6 => ?_) (fun hc6 => ?_)
    · have hF := br_pos hc6 hF
      refine lv_aload_n hx hb dX5_candidate_39 rfl (lv_at hl 0 rfl) ?_
      refine va_get (D := (dC, dI)) (ci := 7) (v := .ref (aa 1)) (C := RX5) (T := TX5) (N := 5) hx hb hts hinX5 hown hK hP 0 (bw_at (i := 0) (by decide) rfl) rfl 0 (by decide) (hts (.fieldLink RX5 10 "BallotLoom" "box" "LBallotLoom$Box;") (by decide +kernel)) (fun _ h9 => h9) rfl dX5_candidate_40 ?_
      refine lv_iload_n hx hb dX5_candidate_43 rfl (lv_at hl 1 rfl) ?_
      obtain ⟨Z9, r8, hC7, hF⟩ := cal_some hF
      have hFc := b_free (ws := bw q aa Z) hD hS hA
      refine va_calli (va_runV (As := [.int xa]) (rest := []) ⟨hx, hb, hml, hown, hts⟩ (c_X0_addCandidate l dC dI q aa Z xa  _ _ _  hC7) (cwV 1 hts gX5_candidate_X0_addCandidate rfl rfl rfl (by decide +kernel) ⟨Nat.le_of_ble_eq_true rfl, Nat.le_of_ble_eq_true rfl⟩) ⟨pr_blind, va_recv hK hP (ci := 2) (q0 := 1) rfl (bw_at (i := 1) (by decide) rfl), fun U hU hW => ⟨rfl, pr_mk hU hW hP hK hD⟩⟩ rfl rfl hl.1 rfl (lv_room (Nat.le_of_ble_eq_true rfl)) dX5_candidate_44 ⟨Nat.le_of_ble_eq_true rfl, Nat.le_of_ble_eq_true rfl⟩) hS (fun x _ h => hFc x h) hFc (fun rr10 u t H1 locs ht hvm hw hB hz1 hk1 hS => ?_)
      obtain ⟨hP, hK1, hD1⟩ := hB
      rw [ht] at hP
      have hD := hD1.weaken (fun _ q9 _ h9 => hFc q9.1 h9)
      clear hFc hD1 hK1 hvm hz1 hk1
      generalize H1 = H at hP hS ⊢
      refine W.widen (k := 0) (n := 0) (Nat.le_refl _) (Nat.le_refl _) ?_
      obtain rfl : rr10 = r8 := hw
      obtain ⟨e8, e9⟩ := some2 hF
      rw [← e8] at hP hD
      subst hQ
      exact W.iret (v := rr10) hx hb hr (fun t ht hW => ⟨⟨rr10, (), rfl, e9.symm, po_mk ht hW hP hK hD⟩, hS.F ht⟩) hS.2.2 dX5_candidate_47
    · have hF := br_neg hc6 hF
      cases hF
  · have hF := br_pos hc4 hF
    cases hF

noncomputable def F_X5_withdraw (Z : Mem) (xa : Int32) : Option (Mem × Int32) :=
  calp (F_X5_checkCandidate Z xa) fun _ => gd (¬ (xa < 0 ∨ 6 ≤ ix xa)) <| bv (Z.1 3 (ix xa)) fun y4 => br (y4 = (0 : Int32)) (none) (cal (F_X0_takeOff Z xa) fun Z7 _ => bv (Z7.1 1 3) fun y9 => some (Z7, y9))

set_option maxHeartbeats 4000000 in
set_option maxRecDepth 100000 in
theorem c_X5_withdraw (l : Launch) (dC : Nat → ClassId) (dI : Nat → Nat → Nat) (q : Nat → ClassId) (aa : Nat → Nat) (Z : Mem) (xa : Int32)  (sz : Nat) (Zo : Mem) (ro : Int32) (hF : F_X5_withdraw Z xa = some (Zo, ro)) : Met l yX5_withdraw wsX5_withdraw ({ frames := 5, cells := 0, slots := 0, locals := 107 }) (va_Pc [.ref (aa 0), .int xa] (pr_ dC dI (bw q aa Z) (bty q) sz)) (va_Qi (fun (r : Int32) (_ : Unit) => r = ro) (fun (_ : Unit) t => po_ dC dI (bw q aa Zo) (bty q) (va_A (bw q aa Z) sz) t) (va_A (bw q aa Z) sz)) 0 0 (va_A (bw q aa Z) sz) := by
  refine Met.ofW (cc := cX5_withdraw) (maxL := 2) (ret := (some .int)) (by decide) rfl ?_
  intro p e s m args below meth c s₁ B hml hv
  obtain ⟨hargs, hsz, hP, hK, hD0⟩ := hv
  have hx := B.exec
  have hb := B.bytes
  have hr := B.returns
  have hts := atoms_spec (ws := wsX5_withdraw) B.pre
  have hown : s.vm.findClass RX5 = some m.cls := findClass_of_methodNamed B.named
  have hlocks := B.notSynchronized
  subst hsz
  have hD := hD0.self (sz := s.heap.size)
  generalize hAe : va_A (bw q aa Z) s.heap.size = A at hD ⊢
  have hA : ∀ x : Nat, s.heap.size ≤ x → A x := fun x h => by rw [← hAe]; exact Or.inr h
  have hS : va_S A s.heap s.heap [] := va_S.rf
  have hinX0 : ∀ w ∈ u_ws RX0 TX0 11, w ∈ wsX5_withdraw := by decide +kernel
  have hinX5 : ∀ w ∈ u_ws RX5 TX5 5, w ∈ wsX5_withdraw := by decide +kernel
  have hl := lv_entry ([.ref (aa 0), .int xa]) (n := 2) (Nat.le_of_ble_eq_true rfl)
  refine w_ent hargs ?_
  rw [lg_entry_eq]
  generalize (lg_sl ([.ref (aa 0), .int xa]) ++ List.replicate (2 - (lg_sl ([.ref (aa 0), .int xa])).length) Slot.unset).toArray = ls at hl ⊢
  have hl : lv_has ls 2 [(0, .ref (aa 0)), (1, .int xa)] := hl
  unfold F_X5_withdraw at hF
  refine w_go (fun Q hQ => ?_)
  refine lv_aload_n hx hb dX5_withdraw_0 rfl (lv_at hl 0 rfl) ?_
  refine lv_iload_n hx hb dX5_withdraw_1 rfl (lv_at hl 1 rfl) ?_
  obtain ⟨_, hC1, hF⟩ := calp_some hF
  have hFc := b_free (ws := bw q aa Z) hD hS hA
  refine va_callv (va_runV (As := [.int xa]) (rest := []) ⟨hx, hb, hml, hown, hts⟩ (c_X5_checkCandidate l dC dI q aa Z xa  _ _  hC1) (cwV 1 hts gX5_withdraw_X5_checkCandidate rfl rfl rfl (by decide +kernel) ⟨Nat.le_of_ble_eq_true rfl, Nat.le_of_ble_eq_true rfl⟩) ⟨pr_blind, va_recv hK hP (ci := 7) (q0 := 0) rfl (bw_at (i := 0) (by decide) rfl), fun U hU hW => ⟨rfl, pr_mk hU hW hP hK hD⟩⟩ rfl rfl hl.1 rfl (lv_room (Nat.le_of_ble_eq_true rfl)) dX5_withdraw_2 ⟨Nat.le_of_ble_eq_true rfl, Nat.le_of_ble_eq_true rfl⟩) hS (fun x _ h => hFc x h) hFc (fun u t H1 locs ht hvm hw hB hz1 hk1 hS => ?_)
  obtain ⟨hP, hK1, hD1⟩ := hB
  rw [ht] at hP
  have hD := hD1.weaken (fun _ q9 _ h9 => hFc q9.1 h9)
  clear hFc hD1 hK1 hvm hz1 hk1
  generalize H1 = H at hP hS ⊢
  refine W.widen (k := 0) (n := 0) (Nat.le_refl _) (Nat.le_refl _) ?_
  refine lv_aload_n hx hb dX5_withdraw_5 rfl (lv_at hl 0 rfl) ?_
  refine va_get (D := (dC, dI)) (ci := 7) (v := .ref (aa 1)) (C := RX5) (T := TX5) (N := 5) hx hb hts hinX5 hown hK hP 0 (bw_at (i := 0) (by decide) rfl) rfl 0 (by decide) (hts (.fieldLink RX5 10 "BallotLoom" "box" "LBallotLoom$Box;") (by decide +kernel)) (fun _ h9 => h9) rfl dX5_withdraw_6 ?_
  refine va_get (D := (dC, dI)) (ci := 2) (v := .ref (aa 3)) (C := RX0) (T := TX0) (N := 11) hx hb hts hinX0 hown hK hP 1 (bw_at (i := 1) (by decide) rfl) rfl 1 (by decide) (hts (.fieldLink RX5 72 "BallotLoom$Box" "stands" "[Z") (by decide +kernel)) (fun _ h9 => h9) rfl dX5_withdraw_9 ?_
  refine lv_iload_n hx hb dX5_withdraw_12 rfl (lv_at hl 1 rfl) ?_
  obtain ⟨hg3, hF⟩ := gd_some hF
  refine va_zald hx hb hK hP 3 1 (at_i (by decide) (fun _ _ => rfl)) rfl hg3 dX5_withdraw_13 ?_
  refine lv_topi (fun y4 ey4 => ?_)
  have hF := bv_at ey4 hF
  refine lv_if_ne (tgt := 27) hx hb dX5_withdraw_14 (by decide) (fun hc5 => ?_) (fun hc5 => ?_)
  · have hF := br_neg hc5 hF
    refine lv_aload_n hx hb dX5_withdraw_27 rfl (lv_at hl 0 rfl) ?_
    refine va_get (D := (dC, dI)) (ci := 7) (v := .ref (aa 1)) (C := RX5) (T := TX5) (N := 5) hx hb hts hinX5 hown hK hP 0 (bw_at (i := 0) (by decide) rfl) rfl 0 (by decide) (hts (.fieldLink RX5 10 "BallotLoom" "box" "LBallotLoom$Box;") (by decide +kernel)) (fun _ h9 => h9) rfl dX5_withdraw_28 ?_
    refine lv_iload_n hx hb dX5_withdraw_31 rfl (lv_at hl 1 rfl) ?_
    obtain ⟨Z7, _, hC6, hF⟩ := cal_some hF
    have hFc := b_free (ws := bw q aa Z) hD hS hA
    refine va_callv (va_runV (As := [.int xa]) (rest := []) ⟨hx, hb, hml, hown, hts⟩ (c_X0_takeOff l dC dI q aa Z xa  _ _ _  hC6) (cwV 1 hts gX5_withdraw_X0_takeOff rfl rfl rfl (by decide +kernel) ⟨Nat.le_of_ble_eq_true rfl, Nat.le_of_ble_eq_true rfl⟩) ⟨pr_blind, va_recv hK hP (ci := 2) (q0 := 1) rfl (bw_at (i := 1) (by decide) rfl), fun U hU hW => ⟨rfl, pr_mk hU hW hP hK hD⟩⟩ rfl rfl hl.1 rfl (lv_room (Nat.le_of_ble_eq_true rfl)) dX5_withdraw_32 ⟨Nat.le_of_ble_eq_true rfl, Nat.le_of_ble_eq_true rfl⟩) hS (fun x _ h => hFc x h) hFc (fun u t H1 locs ht hvm hw hB hz1 hk1 hS => ?_)
    obtain ⟨hP, hK1, hD1⟩ := hB
    rw [ht] at hP
    have hD := hD1.weaken (fun _ q9 _ h9 => hFc q9.1 h9)
    clear hFc hD1 hK1 hvm hz1 hk1
    generalize H1 = H at hP hS ⊢
    refine W.widen (k := 0) (n := 0) (Nat.le_refl _) (Nat.le_refl _) ?_
    refine lv_aload_n hx hb dX5_withdraw_35 rfl (lv_at hl 0 rfl) ?_
    refine va_get (D := (dC, dI)) (ci := 7) (v := .ref (aa 1)) (C := RX5) (T := TX5) (N := 5) hx hb hts hinX5 hown hK hP 0 (bw_at (i := 0) (by decide) rfl) rfl 0 (by decide) (hts (.fieldLink RX5 10 "BallotLoom" "box" "LBallotLoom$Box;") (by decide +kernel)) (fun _ h9 => h9) rfl dX5_withdraw_36 ?_
    refine va_get (D := (dC, dI)) (ci := 2) (v := .int (Z7.1 1 3)) (C := RX0) (T := TX0) (N := 11) hx hb hts hinX0 hown hK hP 1 (bw_at (i := 1) (by decide) rfl) rfl 3 (by decide) (hts (.fieldLink RX5 81 "BallotLoom$Box" "standing" "I") (by decide +kernel)) (fun _ h9 => h9) rfl dX5_withdraw_39 ?_
    refine lv_topi (fun y9 ey9 => ?_)
    have hF := bv_at ey9 hF
    obtain ⟨e8, e9⟩ := some2 hF
    rw [← e8] at hP hD
    subst hQ
    exact W.iret (v := y9) hx hb hr (fun t ht hW => ⟨⟨y9, (), rfl, e9.symm, po_mk ht hW hP hK hD⟩, hS.F ht⟩) hS.2.2 dX5_withdraw_42
  · have hF := br_pos hc5 hF
    cases hF

noncomputable def F_X5_district (Z : Mem) (xa : Int32) : Option (Mem × Int32) :=
  br (xa < (1 : Int32)) (none) (br (xa ≤ (5 : Int32)) (bv (Z.1 1 5) fun y3 => br (y3 < (4 : Int32)) (cal (F_X0_addDistrict Z xa) fun Z7 rr8 => some (Z7, rr8)) (none)) (none))

set_option maxHeartbeats 4000000 in
set_option maxRecDepth 100000 in
theorem c_X5_district (l : Launch) (dC : Nat → ClassId) (dI : Nat → Nat → Nat) (q : Nat → ClassId) (aa : Nat → Nat) (Z : Mem) (xa : Int32)  (sz : Nat) (Zo : Mem) (ro : Int32) (hF : F_X5_district Z xa = some (Zo, ro)) : Met l yX5_district wsX5_district ({ frames := 3, cells := 0, slots := 0, locals := 62 }) (va_Pc [.ref (aa 0), .int xa] (pr_ dC dI (bw q aa Z) (bty q) sz)) (va_Qi (fun (r : Int32) (_ : Unit) => r = ro) (fun (_ : Unit) t => po_ dC dI (bw q aa Zo) (bty q) (va_A (bw q aa Z) sz) t) (va_A (bw q aa Z) sz)) 0 0 (va_A (bw q aa Z) sz) := by
  refine Met.ofW (cc := cX5_district) (maxL := 2) (ret := (some .int)) (by decide) rfl ?_
  intro p e s m args below meth c s₁ B hml hv
  obtain ⟨hargs, hsz, hP, hK, hD0⟩ := hv
  have hx := B.exec
  have hb := B.bytes
  have hr := B.returns
  have hts := atoms_spec (ws := wsX5_district) B.pre
  have hown : s.vm.findClass RX5 = some m.cls := findClass_of_methodNamed B.named
  have hlocks := B.notSynchronized
  subst hsz
  have hD := hD0.self (sz := s.heap.size)
  generalize hAe : va_A (bw q aa Z) s.heap.size = A at hD ⊢
  have hA : ∀ x : Nat, s.heap.size ≤ x → A x := fun x h => by rw [← hAe]; exact Or.inr h
  have hS : va_S A s.heap s.heap [] := va_S.rf
  have hinX0 : ∀ w ∈ u_ws RX0 TX0 11, w ∈ wsX5_district := by decide +kernel
  have hinX5 : ∀ w ∈ u_ws RX5 TX5 5, w ∈ wsX5_district := by decide +kernel
  have hl := lv_entry ([.ref (aa 0), .int xa]) (n := 2) (Nat.le_of_ble_eq_true rfl)
  refine w_ent hargs ?_
  rw [lg_entry_eq]
  generalize (lg_sl ([.ref (aa 0), .int xa]) ++ List.replicate (2 - (lg_sl ([.ref (aa 0), .int xa])).length) Slot.unset).toArray = ls at hl ⊢
  have hl : lv_has ls 2 [(0, .ref (aa 0)), (1, .int xa)] := hl
  unfold F_X5_district at hF
  refine w_go (fun Q hQ => ?_)
  refine lv_iload_n hx hb dX5_district_0 rfl (lv_at hl 1 rfl) ?_
  refine lv_iconst (v := 1) hx hb dX5_district_1 (by decide) ?_
  refine lv_icmp_lt (tgt := 10) hx hb dX5_district_2 (by decide) (fun hc1 => ?_) (fun hc1 => ?_)
  · have hF := br_pos hc1 hF
    cases hF
  · have hF := br_neg hc1 hF
    refine lv_iload_n hx hb dX5_district_5 rfl (lv_at hl 1 rfl) ?_
    refine lv_iconst (v := 5) hx hb dX5_district_6 (by decide) ?_
    refine lv_icmp_le (tgt := 20) hx hb dX5_district_7 (by decide) (fun hc2 => ?_) (fun hc2 => ?_)
    · have hF := br_pos hc2 hF
      refine lv_aload_n hx hb dX5_district_20 rfl (lv_at hl 0 rfl) ?_
      refine va_get (D := (dC, dI)) (ci := 7) (v := .ref (aa 1)) (C := RX5) (T := TX5) (N := 5) hx hb hts hinX5 hown hK hP 0 (bw_at (i := 0) (by decide) rfl) rfl 0 (by decide) (hts (.fieldLink RX5 10 "BallotLoom" "box" "LBallotLoom$Box;") (by decide +kernel)) (fun _ h9 => h9) rfl dX5_district_21 ?_
      refine va_get (D := (dC, dI)) (ci := 2) (v := .int (Z.1 1 5)) (C := RX0) (T := TX0) (N := 11) hx hb hts hinX0 hown hK hP 1 (bw_at (i := 1) (by decide) rfl) rfl 5 (by decide) (hts (.fieldLink RX5 86 "BallotLoom$Box" "districts" "I") (by decide +kernel)) (fun _ h9 => h9) rfl dX5_district_24 ?_
      refine lv_topi (fun y3 ey3 => ?_)
      have hF := bv_at ey3 hF
      refine lv_iconst (v := 4) hx hb dX5_district_27 (by decide) ?_
      refine lv_icmp_lt (tgt := 41) hx hb dX5_district_28 (by decide) (fun hc4 => ?_) (fun hc4 => ?_)
      · have hF := br_pos hc4 hF
        refine lv_aload_n hx hb dX5_district_41 rfl (lv_at hl 0 rfl) ?_
        refine va_get (D := (dC, dI)) (ci := 7) (v := .ref (aa 1)) (C := RX5) (T := TX5) (N := 5) hx hb hts hinX5 hown hK hP 0 (bw_at (i := 0) (by decide) rfl) rfl 0 (by decide) (hts (.fieldLink RX5 10 "BallotLoom" "box" "LBallotLoom$Box;") (by decide +kernel)) (fun _ h9 => h9) rfl dX5_district_42 ?_
        refine lv_iload_n hx hb dX5_district_45 rfl (lv_at hl 1 rfl) ?_
        obtain ⟨Z7, r6, hC5, hF⟩ := cal_some hF
        have hFc := b_free (ws := bw q aa Z) hD hS hA
        refine va_calli (va_runV (As := [.int xa]) (rest := []) ⟨hx, hb, hml, hown, hts⟩ (c_X0_addDistrict l dC dI q aa Z xa  _ _ _  hC5) (cwV 1 hts gX5_district_X0_addDistrict rfl rfl rfl (by decide +kernel) ⟨Nat.le_of_ble_eq_true rfl, Nat.le_of_ble_eq_true rfl⟩) ⟨pr_blind, va_recv hK hP (ci := 2) (q0 := 1) rfl (bw_at (i := 1) (by decide) rfl), fun U hU hW => ⟨rfl, pr_mk hU hW hP hK hD⟩⟩ rfl rfl hl.1 rfl (lv_room (Nat.le_of_ble_eq_true rfl)) dX5_district_46 ⟨Nat.le_of_ble_eq_true rfl, Nat.le_of_ble_eq_true rfl⟩) hS (fun x _ h => hFc x h) hFc (fun rr8 u t H1 locs ht hvm hw hB hz1 hk1 hS => ?_)
        obtain ⟨hP, hK1, hD1⟩ := hB
        rw [ht] at hP
        have hD := hD1.weaken (fun _ q9 _ h9 => hFc q9.1 h9)
        clear hFc hD1 hK1 hvm hz1 hk1
        generalize H1 = H at hP hS ⊢
        refine W.widen (k := 0) (n := 0) (Nat.le_refl _) (Nat.le_refl _) ?_
        obtain rfl : rr8 = r6 := hw
        obtain ⟨e8, e9⟩ := some2 hF
        rw [← e8] at hP hD
        subst hQ
        exact W.iret (v := rr8) hx hb hr (fun t ht hW => ⟨⟨rr8, (), rfl, e9.symm, po_mk ht hW hP hK hD⟩, hS.F ht⟩) hS.2.2 dX5_district_49
      · have hF := br_neg hc4 hF
        cases hF
    · have hF := br_neg hc2 hF
      cases hF

noncomputable def F_X5_cast (Z : Mem) (xa : Int32) (xb : Int32) (xc : Int32) : Option (Mem × Int32) :=
  calp (F_X5_checkDistrict Z xa) fun _ => calp (F_X5_checkRanks Z xb) fun _ => calp (F_X5_checkCount Z xc) fun _ => calp (F_X5_checkOpen Z ) fun _ => bv (Z.1 1 7) fun y9 => br (y9 < (24 : Int32)) (cal (F_X0_addStack Z xa xb xc) fun Z13 rr14 => some (Z13, rr14)) (none)

set_option maxHeartbeats 4000000 in
set_option maxRecDepth 100000 in
theorem c_X5_cast (l : Launch) (dC : Nat → ClassId) (dI : Nat → Nat → Nat) (q : Nat → ClassId) (aa : Nat → Nat) (Z : Mem) (xa : Int32) (xb : Int32) (xc : Int32)  (sz : Nat) (Zo : Mem) (ro : Int32) (hF : F_X5_cast Z xa xb xc = some (Zo, ro)) : Met l yX5_cast wsX5_cast ({ frames := 6, cells := 0, slots := 0, locals := 132 }) (va_Pc [.ref (aa 0), .int xa, .int xb, .int xc] (pr_ dC dI (bw q aa Z) (bty q) sz)) (va_Qi (fun (r : Int32) (_ : Unit) => r = ro) (fun (_ : Unit) t => po_ dC dI (bw q aa Zo) (bty q) (va_A (bw q aa Z) sz) t) (va_A (bw q aa Z) sz)) 0 0 (va_A (bw q aa Z) sz) := by
  refine Met.ofW (cc := cX5_cast) (maxL := 4) (ret := (some .int)) (by decide) rfl ?_
  intro p e s m args below meth c s₁ B hml hv
  obtain ⟨hargs, hsz, hP, hK, hD0⟩ := hv
  have hx := B.exec
  have hb := B.bytes
  have hr := B.returns
  have hts := atoms_spec (ws := wsX5_cast) B.pre
  have hown : s.vm.findClass RX5 = some m.cls := findClass_of_methodNamed B.named
  have hlocks := B.notSynchronized
  subst hsz
  have hD := hD0.self (sz := s.heap.size)
  generalize hAe : va_A (bw q aa Z) s.heap.size = A at hD ⊢
  have hA : ∀ x : Nat, s.heap.size ≤ x → A x := fun x h => by rw [← hAe]; exact Or.inr h
  have hS : va_S A s.heap s.heap [] := va_S.rf
  have hinX0 : ∀ w ∈ u_ws RX0 TX0 11, w ∈ wsX5_cast := by decide +kernel
  have hinX5 : ∀ w ∈ u_ws RX5 TX5 5, w ∈ wsX5_cast := by decide +kernel
  have hl := lv_entry ([.ref (aa 0), .int xa, .int xb, .int xc]) (n := 4) (Nat.le_of_ble_eq_true rfl)
  refine w_ent hargs ?_
  rw [lg_entry_eq]
  generalize (lg_sl ([.ref (aa 0), .int xa, .int xb, .int xc]) ++ List.replicate (4 - (lg_sl ([.ref (aa 0), .int xa, .int xb, .int xc])).length) Slot.unset).toArray = ls at hl ⊢
  have hl : lv_has ls 4 [(0, .ref (aa 0)), (1, .int xa), (2, .int xb), (3, .int xc)] := hl
  unfold F_X5_cast at hF
  refine w_go (fun Q hQ => ?_)
  refine lv_aload_n hx hb dX5_cast_0 rfl (lv_at hl 0 rfl) ?_
  refine lv_iload_n hx hb dX5_cast_1 rfl (lv_at hl 1 rfl) ?_
  obtain ⟨_, hC1, hF⟩ := calp_some hF
  have hFc := b_free (ws := bw q aa Z) hD hS hA
  refine va_callv (va_runV (As := [.int xa]) (rest := []) ⟨hx, hb, hml, hown, hts⟩ (c_X5_checkDistrict l dC dI q aa Z xa  _ _  hC1) (cwV 1 hts gX5_cast_X5_checkDistrict rfl rfl rfl (by decide +kernel) ⟨Nat.le_of_ble_eq_true rfl, Nat.le_of_ble_eq_true rfl⟩) ⟨pr_blind, va_recv hK hP (ci := 7) (q0 := 0) rfl (bw_at (i := 0) (by decide) rfl), fun U hU hW => ⟨rfl, pr_mk hU hW hP hK hD⟩⟩ rfl rfl hl.1 rfl (lv_room (Nat.le_of_ble_eq_true rfl)) dX5_cast_2 ⟨Nat.le_of_ble_eq_true rfl, Nat.le_of_ble_eq_true rfl⟩) hS (fun x _ h => hFc x h) hFc (fun u t H1 locs ht hvm hw hB hz1 hk1 hS => ?_)
  obtain ⟨hP, hK1, hD1⟩ := hB
  rw [ht] at hP
  have hD := hD1.weaken (fun _ q9 _ h9 => hFc q9.1 h9)
  clear hFc hD1 hK1 hvm hz1 hk1
  generalize H1 = H at hP hS ⊢
  refine W.widen (k := 0) (n := 0) (Nat.le_refl _) (Nat.le_refl _) ?_
  refine lv_iload_n hx hb dX5_cast_5 rfl (lv_at hl 2 rfl) ?_
  obtain ⟨_, hC3, hF⟩ := calp_some hF
  have hFc := b_free (ws := bw q aa Z) hD hS hA
  refine va_callv (va_runS (As := [.int xb]) (rest := []) ⟨hx, hb, hml, hown, hts⟩ (c_X5_checkRanks l dC dI q aa Z xb  _ _  hC3) (va_cwS 1 hts gX5_cast_X5_checkRanks rfl rfl rfl (by decide +kernel) ⟨Nat.le_of_ble_eq_true rfl, Nat.le_of_ble_eq_true rfl⟩) ⟨pr_blind, fun U hU hW => ⟨rfl, pr_mk hU hW hP hK hD⟩⟩ rfl rfl hl.1 rfl (lv_room (Nat.le_of_ble_eq_true rfl)) dX5_cast_6 ⟨Nat.le_of_ble_eq_true rfl, Nat.le_of_ble_eq_true rfl⟩) hS (fun x _ h => hFc x h) hFc (fun u t H1 locs ht hvm hw hB hz1 hk1 hS => ?_)
  obtain ⟨hP, hK1, hD1⟩ := hB
  rw [ht] at hP
  have hD := hD1.weaken (fun _ q9 _ h9 => hFc q9.1 h9)
  clear hFc hD1 hK1 hvm hz1 hk1
  generalize H1 = H at hP hS ⊢
  refine W.widen (k := 0) (n := 0) (Nat.le_refl _) (Nat.le_refl _) ?_
  refine lv_iload_n hx hb dX5_cast_9 rfl (lv_at hl 3 rfl) ?_
  obtain ⟨_, hC5, hF⟩ := calp_some hF
  have hFc := b_free (ws := bw q aa Z) hD hS hA
  refine va_callv (va_runS (As := [.int xc]) (rest := []) ⟨hx, hb, hml, hown, hts⟩ (c_X5_checkCount l dC dI q aa Z xc  _ _  hC5) (va_cwS 1 hts gX5_cast_X5_checkCount rfl rfl rfl (by decide +kernel) ⟨Nat.le_of_ble_eq_true rfl, Nat.le_of_ble_eq_true rfl⟩) ⟨pr_blind, fun U hU hW => ⟨rfl, pr_mk hU hW hP hK hD⟩⟩ rfl rfl hl.1 rfl (lv_room (Nat.le_of_ble_eq_true rfl)) dX5_cast_10 ⟨Nat.le_of_ble_eq_true rfl, Nat.le_of_ble_eq_true rfl⟩) hS (fun x _ h => hFc x h) hFc (fun u t H1 locs ht hvm hw hB hz1 hk1 hS => ?_)
  obtain ⟨hP, hK1, hD1⟩ := hB
  rw [ht] at hP
  have hD := hD1.weaken (fun _ q9 _ h9 => hFc q9.1 h9)
  clear hFc hD1 hK1 hvm hz1 hk1
  generalize H1 = H at hP hS ⊢
  refine W.widen (k := 0) (n := 0) (Nat.le_refl _) (Nat.le_refl _) ?_
  refine lv_aload_n hx hb dX5_cast_13 rfl (lv_at hl 0 rfl) ?_
  obtain ⟨_, hC7, hF⟩ := calp_some hF
  have hFc := b_free (ws := bw q aa Z) hD hS hA
  refine va_callv (va_runV (As := []) (rest := []) ⟨hx, hb, hml, hown, hts⟩ (c_X5_checkOpen l dC dI q aa Z   _ _  hC7) (cwV 0 hts gX5_cast_X5_checkOpen rfl rfl rfl (by decide +kernel) ⟨Nat.le_of_ble_eq_true rfl, Nat.le_of_ble_eq_true rfl⟩) ⟨pr_blind, va_recv hK hP (ci := 7) (q0 := 0) rfl (bw_at (i := 0) (by decide) rfl), fun U hU hW => ⟨rfl, pr_mk hU hW hP hK hD⟩⟩ rfl rfl hl.1 rfl (lv_room (Nat.le_of_ble_eq_true rfl)) dX5_cast_14 ⟨Nat.le_of_ble_eq_true rfl, Nat.le_of_ble_eq_true rfl⟩) hS (fun x _ h => hFc x h) hFc (fun u t H1 locs ht hvm hw hB hz1 hk1 hS => ?_)
  obtain ⟨hP, hK1, hD1⟩ := hB
  rw [ht] at hP
  have hD := hD1.weaken (fun _ q9 _ h9 => hFc q9.1 h9)
  clear hFc hD1 hK1 hvm hz1 hk1
  generalize H1 = H at hP hS ⊢
  refine W.widen (k := 0) (n := 0) (Nat.le_refl _) (Nat.le_refl _) ?_
  refine lv_aload_n hx hb dX5_cast_17 rfl (lv_at hl 0 rfl) ?_
  refine va_get (D := (dC, dI)) (ci := 7) (v := .ref (aa 1)) (C := RX5) (T := TX5) (N := 5) hx hb hts hinX5 hown hK hP 0 (bw_at (i := 0) (by decide) rfl) rfl 0 (by decide) (hts (.fieldLink RX5 10 "BallotLoom" "box" "LBallotLoom$Box;") (by decide +kernel)) (fun _ h9 => h9) rfl dX5_cast_18 ?_
  refine va_get (D := (dC, dI)) (ci := 2) (v := .int (Z.1 1 7)) (C := RX0) (T := TX0) (N := 11) hx hb hts hinX0 hown hK hP 1 (bw_at (i := 1) (by decide) rfl) rfl 7 (by decide) (hts (.fieldLink RX5 106 "BallotLoom$Box" "cast" "I") (by decide +kernel)) (fun _ h9 => h9) rfl dX5_cast_21 ?_
  refine lv_topi (fun y9 ey9 => ?_)
  have hF := bv_at ey9 hF
  refine lv_bipush (v := 24) hx hb dX5_cast_24 (by decide) ?_
  refine lv_icmp_lt (tgt := 39) hx hb dX5_cast_26 (by decide) (fun hc10 => ?_) (fun hc10 => ?_)
  · have hF := br_pos hc10 hF
    refine lv_aload_n hx hb dX5_cast_39 rfl (lv_at hl 0 rfl) ?_
    refine va_get (D := (dC, dI)) (ci := 7) (v := .ref (aa 1)) (C := RX5) (T := TX5) (N := 5) hx hb hts hinX5 hown hK hP 0 (bw_at (i := 0) (by decide) rfl) rfl 0 (by decide) (hts (.fieldLink RX5 10 "BallotLoom" "box" "LBallotLoom$Box;") (by decide +kernel)) (fun _ h9 => h9) rfl dX5_cast_40 ?_
    refine lv_iload_n hx hb dX5_cast_43 rfl (lv_at hl 1 rfl) ?_
    refine lv_iload_n hx hb dX5_cast_44 rfl (lv_at hl 2 rfl) ?_
    refine lv_iload_n hx hb dX5_cast_45 rfl (lv_at hl 3 rfl) ?_
    obtain ⟨Z13, r12, hC11, hF⟩ := cal_some hF
    have hFc := b_free (ws := bw q aa Z) hD hS hA
    refine va_calli (va_runV (As := [.int xa, .int xb, .int xc]) (rest := []) ⟨hx, hb, hml, hown, hts⟩ (c_X0_addStack l dC dI q aa Z xa xb xc  _ _ _  hC11) (cwV 3 hts gX5_cast_X0_addStack rfl rfl rfl (by decide +kernel) ⟨Nat.le_of_ble_eq_true rfl, Nat.le_of_ble_eq_true rfl⟩) ⟨pr_blind, va_recv hK hP (ci := 2) (q0 := 1) rfl (bw_at (i := 1) (by decide) rfl), fun U hU hW => ⟨rfl, pr_mk hU hW hP hK hD⟩⟩ rfl rfl hl.1 rfl (lv_room (Nat.le_of_ble_eq_true rfl)) dX5_cast_46 ⟨Nat.le_of_ble_eq_true rfl, Nat.le_of_ble_eq_true rfl⟩) hS (fun x _ h => hFc x h) hFc (fun rr14 u t H1 locs ht hvm hw hB hz1 hk1 hS => ?_)
    obtain ⟨hP, hK1, hD1⟩ := hB
    rw [ht] at hP
    have hD := hD1.weaken (fun _ q9 _ h9 => hFc q9.1 h9)
    clear hFc hD1 hK1 hvm hz1 hk1
    generalize H1 = H at hP hS ⊢
    refine W.widen (k := 0) (n := 0) (Nat.le_refl _) (Nat.le_refl _) ?_
    obtain rfl : rr14 = r12 := hw
    obtain ⟨e8, e9⟩ := some2 hF
    rw [← e8] at hP hD
    subst hQ
    exact W.iret (v := rr14) hx hb hr (fun t ht hW => ⟨⟨rr14, (), rfl, e9.symm, po_mk ht hW hP hK hD⟩, hS.F ht⟩) hS.2.2 dX5_cast_49
  · have hF := br_neg hc10 hF
    cases hF

noncomputable def F_X5_recount (Z : Mem) (xa : Int32) (xb : Int32) : Option (Mem × Int32) :=
  calp (F_X5_checkStack Z xa) fun _ => calp (F_X5_checkCount Z xb) fun _ => calp (F_X5_checkOpen Z ) fun _ => gd (¬ (xa < 0 ∨ 24 ≤ ix xa)) <| bv (Z.1 (39 + (ix xa)) 2) fun y9 => bv (si Z (39 + (ix xa)) 2 xb) fun Z10 => some (Z10, y9)

set_option maxHeartbeats 4000000 in
set_option maxRecDepth 100000 in
theorem c_X5_recount (l : Launch) (dC : Nat → ClassId) (dI : Nat → Nat → Nat) (q : Nat → ClassId) (aa : Nat → Nat) (Z : Mem) (xa : Int32) (xb : Int32)  (sz : Nat) (Zo : Mem) (ro : Int32) (hF : F_X5_recount Z xa xb = some (Zo, ro)) : Met l yX5_recount wsX5_recount ({ frames := 3, cells := 0, slots := 0, locals := 61 }) (va_Pc [.ref (aa 0), .int xa, .int xb] (pr_ dC dI (bw q aa Z) (bty q) sz)) (va_Qi (fun (r : Int32) (_ : Unit) => r = ro) (fun (_ : Unit) t => po_ dC dI (bw q aa Zo) (bty q) (va_A (bw q aa Z) sz) t) (va_A (bw q aa Z) sz)) 0 0 (va_A (bw q aa Z) sz) := by
  refine Met.ofW (cc := cX5_recount) (maxL := 5) (ret := (some .int)) (by decide) rfl ?_
  intro p e s m args below meth c s₁ B hml hv
  obtain ⟨hargs, hsz, hP, hK, hD0⟩ := hv
  have hx := B.exec
  have hb := B.bytes
  have hr := B.returns
  have hts := atoms_spec (ws := wsX5_recount) B.pre
  have hown : s.vm.findClass RX5 = some m.cls := findClass_of_methodNamed B.named
  have hlocks := B.notSynchronized
  subst hsz
  have hD := hD0.self (sz := s.heap.size)
  generalize hAe : va_A (bw q aa Z) s.heap.size = A at hD ⊢
  have hA : ∀ x : Nat, s.heap.size ≤ x → A x := fun x h => by rw [← hAe]; exact Or.inr h
  have hS : va_S A s.heap s.heap [] := va_S.rf
  have hinX0 : ∀ w ∈ u_ws RX0 TX0 11, w ∈ wsX5_recount := by decide +kernel
  have hinX3 : ∀ w ∈ u_ws RX3 TX3 7, w ∈ wsX5_recount := by decide +kernel
  have hinX5 : ∀ w ∈ u_ws RX5 TX5 5, w ∈ wsX5_recount := by decide +kernel
  have hl := lv_entry ([.ref (aa 0), .int xa, .int xb]) (n := 5) (Nat.le_of_ble_eq_true rfl)
  refine w_ent hargs ?_
  rw [lg_entry_eq]
  generalize (lg_sl ([.ref (aa 0), .int xa, .int xb]) ++ List.replicate (5 - (lg_sl ([.ref (aa 0), .int xa, .int xb])).length) Slot.unset).toArray = ls at hl ⊢
  have hl : lv_has ls 5 [(0, .ref (aa 0)), (1, .int xa), (2, .int xb)] := hl
  unfold F_X5_recount at hF
  refine w_go (fun Q hQ => ?_)
  refine lv_aload_n hx hb dX5_recount_0 rfl (lv_at hl 0 rfl) ?_
  refine lv_iload_n hx hb dX5_recount_1 rfl (lv_at hl 1 rfl) ?_
  obtain ⟨_, hC1, hF⟩ := calp_some hF
  have hFc := b_free (ws := bw q aa Z) hD hS hA
  refine va_callv (va_runV (As := [.int xa]) (rest := []) ⟨hx, hb, hml, hown, hts⟩ (c_X5_checkStack l dC dI q aa Z xa  _ _  hC1) (cwV 1 hts gX5_recount_X5_checkStack rfl rfl rfl (by decide +kernel) ⟨Nat.le_of_ble_eq_true rfl, Nat.le_of_ble_eq_true rfl⟩) ⟨pr_blind, va_recv hK hP (ci := 7) (q0 := 0) rfl (bw_at (i := 0) (by decide) rfl), fun U hU hW => ⟨rfl, pr_mk hU hW hP hK hD⟩⟩ rfl rfl hl.1 rfl (lv_room (Nat.le_of_ble_eq_true rfl)) dX5_recount_2 ⟨Nat.le_of_ble_eq_true rfl, Nat.le_of_ble_eq_true rfl⟩) hS (fun x _ h => hFc x h) hFc (fun u t H1 locs ht hvm hw hB hz1 hk1 hS => ?_)
  obtain ⟨hP, hK1, hD1⟩ := hB
  rw [ht] at hP
  have hD := hD1.weaken (fun _ q9 _ h9 => hFc q9.1 h9)
  clear hFc hD1 hK1 hvm hz1 hk1
  generalize H1 = H at hP hS ⊢
  refine W.widen (k := 0) (n := 0) (Nat.le_refl _) (Nat.le_refl _) ?_
  refine lv_iload_n hx hb dX5_recount_5 rfl (lv_at hl 2 rfl) ?_
  obtain ⟨_, hC3, hF⟩ := calp_some hF
  have hFc := b_free (ws := bw q aa Z) hD hS hA
  refine va_callv (va_runS (As := [.int xb]) (rest := []) ⟨hx, hb, hml, hown, hts⟩ (c_X5_checkCount l dC dI q aa Z xb  _ _  hC3) (va_cwS 1 hts gX5_recount_X5_checkCount rfl rfl rfl (by decide +kernel) ⟨Nat.le_of_ble_eq_true rfl, Nat.le_of_ble_eq_true rfl⟩) ⟨pr_blind, fun U hU hW => ⟨rfl, pr_mk hU hW hP hK hD⟩⟩ rfl rfl hl.1 rfl (lv_room (Nat.le_of_ble_eq_true rfl)) dX5_recount_6 ⟨Nat.le_of_ble_eq_true rfl, Nat.le_of_ble_eq_true rfl⟩) hS (fun x _ h => hFc x h) hFc (fun u t H1 locs ht hvm hw hB hz1 hk1 hS => ?_)
  obtain ⟨hP, hK1, hD1⟩ := hB
  rw [ht] at hP
  have hD := hD1.weaken (fun _ q9 _ h9 => hFc q9.1 h9)
  clear hFc hD1 hK1 hvm hz1 hk1
  generalize H1 = H at hP hS ⊢
  refine W.widen (k := 0) (n := 0) (Nat.le_refl _) (Nat.le_refl _) ?_
  refine lv_aload_n hx hb dX5_recount_9 rfl (lv_at hl 0 rfl) ?_
  obtain ⟨_, hC5, hF⟩ := calp_some hF
  have hFc := b_free (ws := bw q aa Z) hD hS hA
  refine va_callv (va_runV (As := []) (rest := []) ⟨hx, hb, hml, hown, hts⟩ (c_X5_checkOpen l dC dI q aa Z   _ _  hC5) (cwV 0 hts gX5_recount_X5_checkOpen rfl rfl rfl (by decide +kernel) ⟨Nat.le_of_ble_eq_true rfl, Nat.le_of_ble_eq_true rfl⟩) ⟨pr_blind, va_recv hK hP (ci := 7) (q0 := 0) rfl (bw_at (i := 0) (by decide) rfl), fun U hU hW => ⟨rfl, pr_mk hU hW hP hK hD⟩⟩ rfl rfl hl.1 rfl (lv_room (Nat.le_of_ble_eq_true rfl)) dX5_recount_10 ⟨Nat.le_of_ble_eq_true rfl, Nat.le_of_ble_eq_true rfl⟩) hS (fun x _ h => hFc x h) hFc (fun u t H1 locs ht hvm hw hB hz1 hk1 hS => ?_)
  obtain ⟨hP, hK1, hD1⟩ := hB
  rw [ht] at hP
  have hD := hD1.weaken (fun _ q9 _ h9 => hFc q9.1 h9)
  clear hFc hD1 hK1 hvm hz1 hk1
  generalize H1 = H at hP hS ⊢
  refine W.widen (k := 0) (n := 0) (Nat.le_refl _) (Nat.le_refl _) ?_
  refine lv_aload_n hx hb dX5_recount_13 rfl (lv_at hl 0 rfl) ?_
  refine va_get (D := (dC, dI)) (ci := 7) (v := .ref (aa 1)) (C := RX5) (T := TX5) (N := 5) hx hb hts hinX5 hown hK hP 0 (bw_at (i := 0) (by decide) rfl) rfl 0 (by decide) (hts (.fieldLink RX5 10 "BallotLoom" "box" "LBallotLoom$Box;") (by decide +kernel)) (fun _ h9 => h9) rfl dX5_recount_14 ?_
  refine va_get (D := (dC, dI)) (ci := 2) (v := .ref (aa 5)) (C := RX0) (T := TX0) (N := 11) hx hb hts hinX0 hown hK hP 1 (bw_at (i := 1) (by decide) rfl) rfl 6 (by decide) (hts (.fieldLink RX5 118 "BallotLoom$Box" "stacks" "[LBallotLoom$Stack;") (by decide +kernel)) (fun _ h9 => h9) rfl dX5_recount_17 ?_
  refine lv_iload_n hx hb dX5_recount_20 rfl (lv_at hl 1 rfl) ?_
  obtain ⟨hg7, hF⟩ := gd_some hF
  have hk8 : ix xa < 25 := in_lt hg7 (by decide)
  refine bq_ald (v := (aa (39 + (ix xa)))) (hty := rfl) hx hb hK hP 5 3 (at_q (by decide) (fun _ _ => rfl)) rfl hg7 (if_pos (in_lt hg7 (Nat.le_refl _))) dX5_recount_21 ?_
  refine lv_astore_n (lv' := [(3, .ref (aa (39 + (ix xa)))), (0, .ref (aa 0)), (1, .int xa), (2, .int xb)]) hx hb dX5_recount_22 rfl hl (by decide) rfl (fun ls hl => ?_)
  refine lv_aload_n hx hb dX5_recount_23 rfl (lv_at hl 0 rfl) ?_
  refine va_get (D := (dC, dI)) (ci := 5) (v := .int (Z.1 (39 + (ix xa)) 2)) (C := RX3) (T := TX3) (N := 7) hx hb hts hinX3 hown hK hP (39 + (ix xa)) (bw_at (i := 39 + (ix xa)) (by omega) (bk_stk hk8 _ _)) rfl 2 (by decide) (hts (.fieldLink RX5 122 "BallotLoom$Stack" "count" "I") (by decide +kernel)) (fun _ h9 => h9) rfl dX5_recount_24 ?_
  refine lv_topi (fun y9 ey9 => ?_)
  have hF := bv_at ey9 hF
  refine lv_istore (lv' := [(4, .int y9), (3, .ref (aa (39 + (ix xa)))), (0, .ref (aa 0)), (1, .int xa), (2, .int xb)]) hx hb dX5_recount_27 hl (by decide) rfl (fun ls hl => ?_)
  refine lv_aload_n hx hb dX5_recount_29 rfl (lv_at hl 1 rfl) ?_
  refine lv_iload_n hx hb dX5_recount_30 rfl (lv_at hl 4 rfl) ?_
  obtain ⟨Z10, eZ10, hF⟩ := bv_some hF
  refine va_put (D := (dC, dI)) (ci := 5) (v := .int xb) (ty := .int) (C := RX3) (T := TX3) (N := 7) hx hb hts hinX3 tyX3 tyX3_ok nmX3 hown hK hP hD hS (39 + (ix xa)) (bw_at (i := 39 + (ix xa)) (by omega) (bk_stk hk8 _ _)) rfl 2 (by decide) (hts (.fieldLink RX5 122 "BallotLoom$Stack" "count" "I") (by decide +kernel)) (fun _ h9 => h9) rfl (by decide +kernel) rfl rfl (Nat.le_of_ble_eq_true rfl) dX5_recount_31 (fun H locs hP hD hS => ?_)
  have eW := wz_o (q := q) (aa := aa) (i := (39 + (ix xa))) (ci := 5) (fs := [.int (Z.1 (39 + (ix xa)) 0), .int (Z.1 (39 + (ix xa)) 1), .int xb, .int (Z.1 (39 + (ix xa)) 3), .ref (aa (64 + (ix xa))), .int (Z.1 (39 + (ix xa)) 5), .double (Z.2 (39 + (ix xa)) 6)]) (bk_stk hk8 _ _) eZ10
  have hP : va_P (dC, dI) vwCl (bw q aa Z10) H := eW ▸ hP
  have hD : va_D A (bw q aa Z10) := eW ▸ hD
  clear eW
  refine lv_iload hx hb dX5_recount_34 (lv_at hl 0 rfl) ?_
  obtain ⟨e8, e9⟩ := some2 hF
  rw [← e8] at hP hD
  subst hQ
  exact W.iret (v := y9) hx hb hr (fun t ht hW => ⟨⟨y9, (), rfl, e9.symm, po_mk ht hW hP hK hD⟩, hS.F ht⟩) hS.2.2 dX5_recount_36

noncomputable def F_X5_move (Z : Mem) (xa : Int32) (xb : Int32) : Option (Mem × Int32) :=
  calp (F_X5_checkStack Z xa) fun _ => calp (F_X5_checkDistrict Z xb) fun _ => calp (F_X5_checkOpen Z ) fun _ => gd (¬ (xa < 0 ∨ 24 ≤ ix xa)) <| bv (Z.1 (39 + (ix xa)) 0) fun y9 => bv (si Z (39 + (ix xa)) 0 xb) fun Z10 => some (Z10, y9)

set_option maxHeartbeats 4000000 in
set_option maxRecDepth 100000 in
theorem c_X5_move (l : Launch) (dC : Nat → ClassId) (dI : Nat → Nat → Nat) (q : Nat → ClassId) (aa : Nat → Nat) (Z : Mem) (xa : Int32) (xb : Int32)  (sz : Nat) (Zo : Mem) (ro : Int32) (hF : F_X5_move Z xa xb = some (Zo, ro)) : Met l yX5_move wsX5_move ({ frames := 3, cells := 0, slots := 0, locals := 61 }) (va_Pc [.ref (aa 0), .int xa, .int xb] (pr_ dC dI (bw q aa Z) (bty q) sz)) (va_Qi (fun (r : Int32) (_ : Unit) => r = ro) (fun (_ : Unit) t => po_ dC dI (bw q aa Zo) (bty q) (va_A (bw q aa Z) sz) t) (va_A (bw q aa Z) sz)) 0 0 (va_A (bw q aa Z) sz) := by
  refine Met.ofW (cc := cX5_move) (maxL := 5) (ret := (some .int)) (by decide) rfl ?_
  intro p e s m args below meth c s₁ B hml hv
  obtain ⟨hargs, hsz, hP, hK, hD0⟩ := hv
  have hx := B.exec
  have hb := B.bytes
  have hr := B.returns
  have hts := atoms_spec (ws := wsX5_move) B.pre
  have hown : s.vm.findClass RX5 = some m.cls := findClass_of_methodNamed B.named
  have hlocks := B.notSynchronized
  subst hsz
  have hD := hD0.self (sz := s.heap.size)
  generalize hAe : va_A (bw q aa Z) s.heap.size = A at hD ⊢
  have hA : ∀ x : Nat, s.heap.size ≤ x → A x := fun x h => by rw [← hAe]; exact Or.inr h
  have hS : va_S A s.heap s.heap [] := va_S.rf
  have hinX0 : ∀ w ∈ u_ws RX0 TX0 11, w ∈ wsX5_move := by decide +kernel
  have hinX3 : ∀ w ∈ u_ws RX3 TX3 7, w ∈ wsX5_move := by decide +kernel
  have hinX5 : ∀ w ∈ u_ws RX5 TX5 5, w ∈ wsX5_move := by decide +kernel
  have hl := lv_entry ([.ref (aa 0), .int xa, .int xb]) (n := 5) (Nat.le_of_ble_eq_true rfl)
  refine w_ent hargs ?_
  rw [lg_entry_eq]
  generalize (lg_sl ([.ref (aa 0), .int xa, .int xb]) ++ List.replicate (5 - (lg_sl ([.ref (aa 0), .int xa, .int xb])).length) Slot.unset).toArray = ls at hl ⊢
  have hl : lv_has ls 5 [(0, .ref (aa 0)), (1, .int xa), (2, .int xb)] := hl
  unfold F_X5_move at hF
  refine w_go (fun Q hQ => ?_)
  refine lv_aload_n hx hb dX5_move_0 rfl (lv_at hl 0 rfl) ?_
  refine lv_iload_n hx hb dX5_move_1 rfl (lv_at hl 1 rfl) ?_
  obtain ⟨_, hC1, hF⟩ := calp_some hF
  have hFc := b_free (ws := bw q aa Z) hD hS hA
  refine va_callv (va_runV (As := [.int xa]) (rest := []) ⟨hx, hb, hml, hown, hts⟩ (c_X5_checkStack l dC dI q aa Z xa  _ _  hC1) (cwV 1 hts gX5_move_X5_checkStack rfl rfl rfl (by decide +kernel) ⟨Nat.le_of_ble_eq_true rfl, Nat.le_of_ble_eq_true rfl⟩) ⟨pr_blind, va_recv hK hP (ci := 7) (q0 := 0) rfl (bw_at (i := 0) (by decide) rfl), fun U hU hW => ⟨rfl, pr_mk hU hW hP hK hD⟩⟩ rfl rfl hl.1 rfl (lv_room (Nat.le_of_ble_eq_true rfl)) dX5_move_2 ⟨Nat.le_of_ble_eq_true rfl, Nat.le_of_ble_eq_true rfl⟩) hS (fun x _ h => hFc x h) hFc (fun u t H1 locs ht hvm hw hB hz1 hk1 hS => ?_)
  obtain ⟨hP, hK1, hD1⟩ := hB
  rw [ht] at hP
  have hD := hD1.weaken (fun _ q9 _ h9 => hFc q9.1 h9)
  clear hFc hD1 hK1 hvm hz1 hk1
  generalize H1 = H at hP hS ⊢
  refine W.widen (k := 0) (n := 0) (Nat.le_refl _) (Nat.le_refl _) ?_
  refine lv_aload_n hx hb dX5_move_5 rfl (lv_at hl 0 rfl) ?_
  refine lv_iload_n hx hb dX5_move_6 rfl (lv_at hl 2 rfl) ?_
  obtain ⟨_, hC3, hF⟩ := calp_some hF
  have hFc := b_free (ws := bw q aa Z) hD hS hA
  refine va_callv (va_runV (As := [.int xb]) (rest := []) ⟨hx, hb, hml, hown, hts⟩ (c_X5_checkDistrict l dC dI q aa Z xb  _ _  hC3) (cwV 1 hts gX5_move_X5_checkDistrict rfl rfl rfl (by decide +kernel) ⟨Nat.le_of_ble_eq_true rfl, Nat.le_of_ble_eq_true rfl⟩) ⟨pr_blind, va_recv hK hP (ci := 7) (q0 := 0) rfl (bw_at (i := 0) (by decide) rfl), fun U hU hW => ⟨rfl, pr_mk hU hW hP hK hD⟩⟩ rfl rfl hl.1 rfl (lv_room (Nat.le_of_ble_eq_true rfl)) dX5_move_7 ⟨Nat.le_of_ble_eq_true rfl, Nat.le_of_ble_eq_true rfl⟩) hS (fun x _ h => hFc x h) hFc (fun u t H1 locs ht hvm hw hB hz1 hk1 hS => ?_)
  obtain ⟨hP, hK1, hD1⟩ := hB
  rw [ht] at hP
  have hD := hD1.weaken (fun _ q9 _ h9 => hFc q9.1 h9)
  clear hFc hD1 hK1 hvm hz1 hk1
  generalize H1 = H at hP hS ⊢
  refine W.widen (k := 0) (n := 0) (Nat.le_refl _) (Nat.le_refl _) ?_
  refine lv_aload_n hx hb dX5_move_10 rfl (lv_at hl 0 rfl) ?_
  obtain ⟨_, hC5, hF⟩ := calp_some hF
  have hFc := b_free (ws := bw q aa Z) hD hS hA
  refine va_callv (va_runV (As := []) (rest := []) ⟨hx, hb, hml, hown, hts⟩ (c_X5_checkOpen l dC dI q aa Z   _ _  hC5) (cwV 0 hts gX5_move_X5_checkOpen rfl rfl rfl (by decide +kernel) ⟨Nat.le_of_ble_eq_true rfl, Nat.le_of_ble_eq_true rfl⟩) ⟨pr_blind, va_recv hK hP (ci := 7) (q0 := 0) rfl (bw_at (i := 0) (by decide) rfl), fun U hU hW => ⟨rfl, pr_mk hU hW hP hK hD⟩⟩ rfl rfl hl.1 rfl (lv_room (Nat.le_of_ble_eq_true rfl)) dX5_move_11 ⟨Nat.le_of_ble_eq_true rfl, Nat.le_of_ble_eq_true rfl⟩) hS (fun x _ h => hFc x h) hFc (fun u t H1 locs ht hvm hw hB hz1 hk1 hS => ?_)
  obtain ⟨hP, hK1, hD1⟩ := hB
  rw [ht] at hP
  have hD := hD1.weaken (fun _ q9 _ h9 => hFc q9.1 h9)
  clear hFc hD1 hK1 hvm hz1 hk1
  generalize H1 = H at hP hS ⊢
  refine W.widen (k := 0) (n := 0) (Nat.le_refl _) (Nat.le_refl _) ?_
  refine lv_aload_n hx hb dX5_move_14 rfl (lv_at hl 0 rfl) ?_
  refine va_get (D := (dC, dI)) (ci := 7) (v := .ref (aa 1)) (C := RX5) (T := TX5) (N := 5) hx hb hts hinX5 hown hK hP 0 (bw_at (i := 0) (by decide) rfl) rfl 0 (by decide) (hts (.fieldLink RX5 10 "BallotLoom" "box" "LBallotLoom$Box;") (by decide +kernel)) (fun _ h9 => h9) rfl dX5_move_15 ?_
  refine va_get (D := (dC, dI)) (ci := 2) (v := .ref (aa 5)) (C := RX0) (T := TX0) (N := 11) hx hb hts hinX0 hown hK hP 1 (bw_at (i := 1) (by decide) rfl) rfl 6 (by decide) (hts (.fieldLink RX5 118 "BallotLoom$Box" "stacks" "[LBallotLoom$Stack;") (by decide +kernel)) (fun _ h9 => h9) rfl dX5_move_18 ?_
  refine lv_iload_n hx hb dX5_move_21 rfl (lv_at hl 1 rfl) ?_
  obtain ⟨hg7, hF⟩ := gd_some hF
  have hk8 : ix xa < 25 := in_lt hg7 (by decide)
  refine bq_ald (v := (aa (39 + (ix xa)))) (hty := rfl) hx hb hK hP 5 3 (at_q (by decide) (fun _ _ => rfl)) rfl hg7 (if_pos (in_lt hg7 (Nat.le_refl _))) dX5_move_22 ?_
  refine lv_astore_n (lv' := [(3, .ref (aa (39 + (ix xa)))), (0, .ref (aa 0)), (1, .int xa), (2, .int xb)]) hx hb dX5_move_23 rfl hl (by decide) rfl (fun ls hl => ?_)
  refine lv_aload_n hx hb dX5_move_24 rfl (lv_at hl 0 rfl) ?_
  refine va_get (D := (dC, dI)) (ci := 5) (v := .int (Z.1 (39 + (ix xa)) 0)) (C := RX3) (T := TX3) (N := 7) hx hb hts hinX3 hown hK hP (39 + (ix xa)) (bw_at (i := 39 + (ix xa)) (by omega) (bk_stk hk8 _ _)) rfl 0 (by decide) (hts (.fieldLink RX5 125 "BallotLoom$Stack" "district" "I") (by decide +kernel)) (fun _ h9 => h9) rfl dX5_move_25 ?_
  refine lv_topi (fun y9 ey9 => ?_)
  have hF := bv_at ey9 hF
  refine lv_istore (lv' := [(4, .int y9), (3, .ref (aa (39 + (ix xa)))), (0, .ref (aa 0)), (1, .int xa), (2, .int xb)]) hx hb dX5_move_28 hl (by decide) rfl (fun ls hl => ?_)
  refine lv_aload_n hx hb dX5_move_30 rfl (lv_at hl 1 rfl) ?_
  refine lv_iload_n hx hb dX5_move_31 rfl (lv_at hl 4 rfl) ?_
  obtain ⟨Z10, eZ10, hF⟩ := bv_some hF
  refine va_put (D := (dC, dI)) (ci := 5) (v := .int xb) (ty := .int) (C := RX3) (T := TX3) (N := 7) hx hb hts hinX3 tyX3 tyX3_ok nmX3 hown hK hP hD hS (39 + (ix xa)) (bw_at (i := 39 + (ix xa)) (by omega) (bk_stk hk8 _ _)) rfl 0 (by decide) (hts (.fieldLink RX5 125 "BallotLoom$Stack" "district" "I") (by decide +kernel)) (fun _ h9 => h9) rfl (by decide +kernel) rfl rfl (Nat.le_of_ble_eq_true rfl) dX5_move_32 (fun H locs hP hD hS => ?_)
  have eW := wz_o (q := q) (aa := aa) (i := (39 + (ix xa))) (ci := 5) (fs := [.int xb, .int (Z.1 (39 + (ix xa)) 1), .int (Z.1 (39 + (ix xa)) 2), .int (Z.1 (39 + (ix xa)) 3), .ref (aa (64 + (ix xa))), .int (Z.1 (39 + (ix xa)) 5), .double (Z.2 (39 + (ix xa)) 6)]) (bk_stk hk8 _ _) eZ10
  have hP : va_P (dC, dI) vwCl (bw q aa Z10) H := eW ▸ hP
  have hD : va_D A (bw q aa Z10) := eW ▸ hD
  clear eW
  refine lv_iload hx hb dX5_move_35 (lv_at hl 0 rfl) ?_
  obtain ⟨e8, e9⟩ := some2 hF
  rw [← e8] at hP hD
  subst hQ
  exact W.iret (v := y9) hx hb hr (fun t ht hW => ⟨⟨y9, (), rfl, e9.symm, po_mk ht hW hP hK hD⟩, hS.F ht⟩) hS.2.2 dX5_move_37

noncomputable def F_X5_threshold (Z : Mem) (xa : Int32) : Option (Mem × Int32) :=
  br (xa < (0 : Int32)) (none) (br (xa ≤ (20 : Int32)) (bv (si Z 1 8 xa) fun Z3 => cal (F_X1_countVotes Z3 ) fun Z5 _ => calp (F_X1_barredSet Z5 ) fun rr9 => some (Z5, rr9)) (none))

set_option maxHeartbeats 4000000 in
set_option maxRecDepth 100000 in
theorem c_X5_threshold (l : Launch) (dC : Nat → ClassId) (dI : Nat → Nat → Nat) (q : Nat → ClassId) (aa : Nat → Nat) (Z : Mem) (xa : Int32)  (sz : Nat) (Zo : Mem) (ro : Int32) (hF : F_X5_threshold Z xa = some (Zo, ro)) : Met l yX5_threshold wsX5_threshold ({ frames := 4, cells := 0, slots := 0, locals := 86 }) (va_Pc [.ref (aa 0), .int xa] (pr_ dC dI (bw q aa Z) (bty q) sz)) (va_Qi (fun (r : Int32) (_ : Unit) => r = ro) (fun (_ : Unit) t => po_ dC dI (bw q aa Zo) (bty q) (va_A (bw q aa Z) sz) t) (va_A (bw q aa Z) sz)) 0 0 (va_A (bw q aa Z) sz) := by
  refine Met.ofW (cc := cX5_threshold) (maxL := 2) (ret := (some .int)) (by decide) rfl ?_
  intro p e s m args below meth c s₁ B hml hv
  obtain ⟨hargs, hsz, hP, hK, hD0⟩ := hv
  have hx := B.exec
  have hb := B.bytes
  have hr := B.returns
  have hts := atoms_spec (ws := wsX5_threshold) B.pre
  have hown : s.vm.findClass RX5 = some m.cls := findClass_of_methodNamed B.named
  have hlocks := B.notSynchronized
  subst hsz
  have hD := hD0.self (sz := s.heap.size)
  generalize hAe : va_A (bw q aa Z) s.heap.size = A at hD ⊢
  have hA : ∀ x : Nat, s.heap.size ≤ x → A x := fun x h => by rw [← hAe]; exact Or.inr h
  have hS : va_S A s.heap s.heap [] := va_S.rf
  have hinX0 : ∀ w ∈ u_ws RX0 TX0 11, w ∈ wsX5_threshold := by decide +kernel
  have hinX5 : ∀ w ∈ u_ws RX5 TX5 5, w ∈ wsX5_threshold := by decide +kernel
  have hl := lv_entry ([.ref (aa 0), .int xa]) (n := 2) (Nat.le_of_ble_eq_true rfl)
  refine w_ent hargs ?_
  rw [lg_entry_eq]
  generalize (lg_sl ([.ref (aa 0), .int xa]) ++ List.replicate (2 - (lg_sl ([.ref (aa 0), .int xa])).length) Slot.unset).toArray = ls at hl ⊢
  have hl : lv_has ls 2 [(0, .ref (aa 0)), (1, .int xa)] := hl
  unfold F_X5_threshold at hF
  refine w_go (fun Q hQ => ?_)
  refine lv_iload_n hx hb dX5_threshold_0 rfl (lv_at hl 1 rfl) ?_
  refine lv_if_lt (tgt := 10) hx hb dX5_threshold_1 (by decide) (fun hc1 => ?_) (fun hc1 => ?_)
  · have hF := br_pos hc1 hF
    cases hF
  · have hF := br_neg hc1 hF
    refine lv_iload_n hx hb dX5_threshold_4 rfl (lv_at hl 1 rfl) ?_
    refine lv_bipush (v := 20) hx hb dX5_threshold_5 (by decide) ?_
    refine lv_icmp_le (tgt := 20) hx hb dX5_threshold_7 (by decide) (fun hc2 => ?_) (fun hc2 => ?_)
    · have hF := br_pos hc2 hF
      refine lv_aload_n hx hb dX5_threshold_20 rfl (lv_at hl 0 rfl) ?_
      refine va_get (D := (dC, dI)) (ci := 7) (v := .ref (aa 1)) (C := RX5) (T := TX5) (N := 5) hx hb hts hinX5 hown hK hP 0 (bw_at (i := 0) (by decide) rfl) rfl 0 (by decide) (hts (.fieldLink RX5 10 "BallotLoom" "box" "LBallotLoom$Box;") (by decide +kernel)) (fun _ h9 => h9) rfl dX5_threshold_21 ?_
      refine lv_iload_n hx hb dX5_threshold_24 rfl (lv_at hl 1 rfl) ?_
      obtain ⟨Z3, eZ3, hF⟩ := bv_some hF
      refine va_put (D := (dC, dI)) (ci := 2) (v := .int xa) (ty := .int) (C := RX0) (T := TX0) (N := 11) hx hb hts hinX0 tyX0 tyX0_ok nmX0 hown hK hP hD hS 1 (bw_at (i := 1) (by decide) rfl) rfl 8 (by decide) (hts (.fieldLink RX5 130 "BallotLoom$Box" "percent" "I") (by decide +kernel)) (fun _ h9 => h9) rfl (by decide +kernel) rfl rfl (Nat.le_of_ble_eq_true rfl) dX5_threshold_25 (fun H locs hP hD hS => ?_)
      have eW := wz_o (q := q) (aa := aa) (i := 1) (ci := 2) (fs := [.ref (aa 2), .ref (aa 3), .int (Z.1 1 2), .int (Z.1 1 3), .ref (aa 4), .int (Z.1 1 5), .ref (aa 5), .int (Z.1 1 7), .int xa, .int (Z.1 1 9), .int (Z.1 1 10)]) rfl eZ3
      have hP : va_P (dC, dI) vwCl (bw q aa Z3) H := eW ▸ hP
      have hD : va_D A (bw q aa Z3) := eW ▸ hD
      clear eW
      refine lv_aload_n hx hb dX5_threshold_28 rfl (lv_at hl 0 rfl) ?_
      refine va_get (D := (dC, dI)) (ci := 7) (v := .ref (aa 30)) (C := RX5) (T := TX5) (N := 5) hx hb hts hinX5 hown hK hP 0 (bw_at (i := 0) (by decide) rfl) rfl 3 (by decide) (hts (.fieldLink RX5 33 "BallotLoom" "parties" "LBallotLoom$Parties;") (by decide +kernel)) (fun _ h9 => h9) rfl dX5_threshold_29 ?_
      refine lv_aload_n hx hb dX5_threshold_32 rfl (lv_at hl 0 rfl) ?_
      refine va_get (D := (dC, dI)) (ci := 7) (v := .ref (aa 1)) (C := RX5) (T := TX5) (N := 5) hx hb hts hinX5 hown hK hP 0 (bw_at (i := 0) (by decide) rfl) rfl 0 (by decide) (hts (.fieldLink RX5 10 "BallotLoom" "box" "LBallotLoom$Box;") (by decide +kernel)) (fun _ h9 => h9) rfl dX5_threshold_33 ?_
      obtain ⟨Z5, _, hC4, hF⟩ := cal_some hF
      have hFc := b_free (ws := bw q aa Z3) hD hS hA
      refine va_callv (va_runV (As := [.ref (aa 1)]) (rest := []) ⟨hx, hb, hml, hown, hts⟩ (c_X1_countVotes l dC dI q aa Z3   _ _ _  hC4) (cwV 1 hts gX5_threshold_X1_countVotes rfl rfl rfl (by decide +kernel) ⟨Nat.le_of_ble_eq_true rfl, Nat.le_of_ble_eq_true rfl⟩) ⟨pr_blind, va_recv hK hP (ci := 3) (q0 := 30) rfl (bw_at (i := 30) (by decide) rfl), fun U hU hW => ⟨rfl, pr_mk hU hW hP hK hD⟩⟩ rfl rfl hl.1 rfl (lv_room (Nat.le_of_ble_eq_true rfl)) dX5_threshold_36 ⟨Nat.le_of_ble_eq_true rfl, Nat.le_of_ble_eq_true rfl⟩) hS (fun x _ h => hFc x h) hFc (fun u t H1 locs ht hvm hw hB hz1 hk1 hS => ?_)
      obtain ⟨hP, hK1, hD1⟩ := hB
      rw [ht] at hP
      have hD := hD1.weaken (fun _ q9 _ h9 => hFc q9.1 h9)
      clear hFc hD1 hK1 hvm hz1 hk1
      generalize H1 = H at hP hS ⊢
      refine W.widen (k := 0) (n := 0) (Nat.le_refl _) (Nat.le_refl _) ?_
      refine lv_aload_n hx hb dX5_threshold_39 rfl (lv_at hl 0 rfl) ?_
      refine va_get (D := (dC, dI)) (ci := 7) (v := .ref (aa 30)) (C := RX5) (T := TX5) (N := 5) hx hb hts hinX5 hown hK hP 0 (bw_at (i := 0) (by decide) rfl) rfl 3 (by decide) (hts (.fieldLink RX5 33 "BallotLoom" "parties" "LBallotLoom$Parties;") (by decide +kernel)) (fun _ h9 => h9) rfl dX5_threshold_40 ?_
      obtain ⟨r8, hC7, hF⟩ := calp_some hF
      have hFc := b_free (ws := bw q aa Z5) hD hS hA
      refine va_calli (va_runV (As := []) (rest := []) ⟨hx, hb, hml, hown, hts⟩ (c_X1_barredSet l dC dI q aa Z5   _ _  hC7) (cwV 0 hts gX5_threshold_X1_barredSet rfl rfl rfl (by decide +kernel) ⟨Nat.le_of_ble_eq_true rfl, Nat.le_of_ble_eq_true rfl⟩) ⟨pr_blind, va_recv hK hP (ci := 3) (q0 := 30) rfl (bw_at (i := 30) (by decide) rfl), fun U hU hW => ⟨rfl, pr_mk hU hW hP hK hD⟩⟩ rfl rfl hl.1 rfl (lv_room (Nat.le_of_ble_eq_true rfl)) dX5_threshold_43 ⟨Nat.le_of_ble_eq_true rfl, Nat.le_of_ble_eq_true rfl⟩) hS (fun x _ h => hFc x h) hFc (fun rr9 u t H1 locs ht hvm hw hB hz1 hk1 hS => ?_)
      obtain ⟨hP, hK1, hD1⟩ := hB
      rw [ht] at hP
      have hD := hD1.weaken (fun _ q9 _ h9 => hFc q9.1 h9)
      clear hFc hD1 hK1 hvm hz1 hk1
      generalize H1 = H at hP hS ⊢
      refine W.widen (k := 0) (n := 0) (Nat.le_refl _) (Nat.le_refl _) ?_
      obtain rfl : rr9 = r8 := hw
      obtain ⟨e8, e9⟩ := some2 hF
      rw [← e8] at hP hD
      subst hQ
      exact W.iret (v := rr9) hx hb hr (fun t ht hW => ⟨⟨rr9, (), rfl, e9.symm, po_mk ht hW hP hK hD⟩, hS.F ht⟩) hS.2.2 dX5_threshold_46
    · have hF := br_neg hc2 hF
      cases hF

noncomputable def F_X5_seal (Z : Mem) (xa : Int32) : Option (Mem × Int32) :=
  bv (Z.1 1 9) fun y1 => gd (xa = 0 ∨ xa = 1) <| bv (si Z 1 9 xa) fun Z3 => gd (y1 = 0 ∨ y1 = 1) <| some (Z3, y1)

set_option maxHeartbeats 4000000 in
set_option maxRecDepth 100000 in
theorem c_X5_seal (l : Launch) (dC : Nat → ClassId) (dI : Nat → Nat → Nat) (q : Nat → ClassId) (aa : Nat → Nat) (Z : Mem) (xa : Int32)  (sz : Nat) (Zo : Mem) (ro : Int32) (hF : F_X5_seal Z xa = some (Zo, ro)) : Met l yX5_seal wsX5_seal ({ frames := 2, cells := 0, slots := 0, locals := 40 }) (va_Pc [.ref (aa 0), .int xa] (pr_ dC dI (bw q aa Z) (bty q) sz)) (va_Qi (fun (r : Int32) (_ : Unit) => r = ro) (fun (_ : Unit) t => po_ dC dI (bw q aa Zo) (bty q) (va_A (bw q aa Z) sz) t) (va_A (bw q aa Z) sz)) 0 0 (va_A (bw q aa Z) sz) := by
  refine Met.ofW (cc := cX5_seal) (maxL := 3) (ret := (some .boolean)) (by decide) rfl ?_
  intro p e s m args below meth c s₁ B hml hv
  obtain ⟨hargs, hsz, hP, hK, hD0⟩ := hv
  have hx := B.exec
  have hb := B.bytes
  have hr := B.returns
  have hts := atoms_spec (ws := wsX5_seal) B.pre
  have hown : s.vm.findClass RX5 = some m.cls := findClass_of_methodNamed B.named
  have hlocks := B.notSynchronized
  subst hsz
  have hD := hD0.self (sz := s.heap.size)
  generalize hAe : va_A (bw q aa Z) s.heap.size = A at hD ⊢
  have hA : ∀ x : Nat, s.heap.size ≤ x → A x := fun x h => by rw [← hAe]; exact Or.inr h
  have hS : va_S A s.heap s.heap [] := va_S.rf
  have hinX0 : ∀ w ∈ u_ws RX0 TX0 11, w ∈ wsX5_seal := by decide +kernel
  have hinX5 : ∀ w ∈ u_ws RX5 TX5 5, w ∈ wsX5_seal := by decide +kernel
  have hl := lv_entry ([.ref (aa 0), .int xa]) (n := 3) (Nat.le_of_ble_eq_true rfl)
  refine w_ent hargs ?_
  rw [lg_entry_eq]
  generalize (lg_sl ([.ref (aa 0), .int xa]) ++ List.replicate (3 - (lg_sl ([.ref (aa 0), .int xa])).length) Slot.unset).toArray = ls at hl ⊢
  have hl : lv_has ls 3 [(0, .ref (aa 0)), (1, .int xa)] := hl
  unfold F_X5_seal at hF
  refine w_go (fun Q hQ => ?_)
  refine lv_aload_n hx hb dX5_seal_0 rfl (lv_at hl 0 rfl) ?_
  refine va_get (D := (dC, dI)) (ci := 7) (v := .ref (aa 1)) (C := RX5) (T := TX5) (N := 5) hx hb hts hinX5 hown hK hP 0 (bw_at (i := 0) (by decide) rfl) rfl 0 (by decide) (hts (.fieldLink RX5 10 "BallotLoom" "box" "LBallotLoom$Box;") (by decide +kernel)) (fun _ h9 => h9) rfl dX5_seal_1 ?_
  refine va_get (D := (dC, dI)) (ci := 2) (v := .int (Z.1 1 9)) (C := RX0) (T := TX0) (N := 11) hx hb hts hinX0 hown hK hP 1 (bw_at (i := 1) (by decide) rfl) rfl 9 (by decide) (hts (.fieldLink RX5 141 "BallotLoom$Box" "isSealed" "Z") (by decide +kernel)) (fun _ h9 => h9) rfl dX5_seal_4 ?_
  refine lv_topi (fun y1 ey1 => ?_)
  have hF := bv_at ey1 hF
  refine lv_istore_n (lv' := [(2, .int y1), (0, .ref (aa 0)), (1, .int xa)]) hx hb dX5_seal_7 rfl hl (by decide) rfl (fun ls hl => ?_)
  refine lv_aload_n hx hb dX5_seal_8 rfl (lv_at hl 1 rfl) ?_
  refine va_get (D := (dC, dI)) (ci := 7) (v := .ref (aa 1)) (C := RX5) (T := TX5) (N := 5) hx hb hts hinX5 hown hK hP 0 (bw_at (i := 0) (by decide) rfl) rfl 0 (by decide) (hts (.fieldLink RX5 10 "BallotLoom" "box" "LBallotLoom$Box;") (by decide +kernel)) (fun _ h9 => h9) rfl dX5_seal_9 ?_
  refine lv_iload_n hx hb dX5_seal_12 rfl (lv_at hl 2 rfl) ?_
  obtain ⟨hg2, hF⟩ := gd_some hF
  obtain ⟨Z3, eZ3, hF⟩ := bv_some hF
  refine va_put (D := (dC, dI)) (ci := 2) (v := .int xa) (ty := .boolean) (C := RX0) (T := TX0) (N := 11) hx hb hts hinX0 tyX0 tyX0_ok nmX0 hown hK hP hD hS 1 (bw_at (i := 1) (by decide) rfl) rfl 9 (by decide) (hts (.fieldLink RX5 141 "BallotLoom$Box" "isSealed" "Z") (by decide +kernel)) (fun _ h9 => h9) rfl (by decide +kernel) (nar_b hg2) (fit_b hg2) (Nat.le_of_ble_eq_true rfl) dX5_seal_13 (fun H locs hP hD hS => ?_)
  have eW := wz_o (q := q) (aa := aa) (i := 1) (ci := 2) (fs := [.ref (aa 2), .ref (aa 3), .int (Z.1 1 2), .int (Z.1 1 3), .ref (aa 4), .int (Z.1 1 5), .ref (aa 5), .int (Z.1 1 7), .int (Z.1 1 8), .int xa, .int (Z.1 1 10)]) rfl eZ3
  have hP : va_P (dC, dI) vwCl (bw q aa Z3) H := eW ▸ hP
  have hD : va_D A (bw q aa Z3) := eW ▸ hD
  clear eW
  refine lv_iload_n hx hb dX5_seal_16 rfl (lv_at hl 0 rfl) ?_
  obtain ⟨hg4, hF⟩ := gd_some hF
  obtain ⟨e8, e9⟩ := some2 hF
  rw [← e8] at hP hD
  subst hQ
  exact W.zret (v := y1) hx hb hr (nar_b hg4) (fun t ht hW => ⟨⟨y1, (), rfl, e9.symm, po_mk ht hW hP hK hD⟩, hS.F ht⟩) hS.2.2 dX5_seal_17

noncomputable def F_X5_ofStack (Z : Mem) (xa : Int32) (xb : Int32) : Option Int32 :=
  calp (F_X5_checkStack Z xa) fun _ => calp (F_X5_checkWhat Z xb (5 : Int32)) fun _ => gd (¬ (xa < 0 ∨ 24 ≤ ix xa)) <| calp (F_X3_figure Z (ix xa) xb) fun rr9 => some rr9

set_option maxHeartbeats 4000000 in
set_option maxRecDepth 100000 in
theorem c_X5_ofStack (l : Launch) (dC : Nat → ClassId) (dI : Nat → Nat → Nat) (q : Nat → ClassId) (aa : Nat → Nat) (Z : Mem) (xa : Int32) (xb : Int32)  (sz : Nat) (ro : Int32) (hF : F_X5_ofStack Z xa xb = some ro) : Met l yX5_ofStack wsX5_ofStack ({ frames := 3, cells := 0, slots := 0, locals := 61 }) (va_Pc [.ref (aa 0), .int xa, .int xb] (pr_ dC dI (bw q aa Z) (bty q) sz)) (va_Qi (fun (r : Int32) (_ : Unit) => r = ro) (fun (_ : Unit) t => po_ dC dI (bw q aa Z) (bty q) (va_A (bw q aa Z) sz) t) (va_A (bw q aa Z) sz)) 0 0 (va_A (bw q aa Z) sz) := by
  refine Met.ofW (cc := cX5_ofStack) (maxL := 3) (ret := (some .int)) (by decide) rfl ?_
  intro p e s m args below meth c s₁ B hml hv
  obtain ⟨hargs, hsz, hP, hK, hD0⟩ := hv
  have hx := B.exec
  have hb := B.bytes
  have hr := B.returns
  have hts := atoms_spec (ws := wsX5_ofStack) B.pre
  have hown : s.vm.findClass RX5 = some m.cls := findClass_of_methodNamed B.named
  have hlocks := B.notSynchronized
  subst hsz
  have hD := hD0.self (sz := s.heap.size)
  generalize hAe : va_A (bw q aa Z) s.heap.size = A at hD ⊢
  have hA : ∀ x : Nat, s.heap.size ≤ x → A x := fun x h => by rw [← hAe]; exact Or.inr h
  have hS : va_S A s.heap s.heap [] := va_S.rf
  have hinX0 : ∀ w ∈ u_ws RX0 TX0 11, w ∈ wsX5_ofStack := by decide +kernel
  have hinX5 : ∀ w ∈ u_ws RX5 TX5 5, w ∈ wsX5_ofStack := by decide +kernel
  have hl := lv_entry ([.ref (aa 0), .int xa, .int xb]) (n := 3) (Nat.le_of_ble_eq_true rfl)
  refine w_ent hargs ?_
  rw [lg_entry_eq]
  generalize (lg_sl ([.ref (aa 0), .int xa, .int xb]) ++ List.replicate (3 - (lg_sl ([.ref (aa 0), .int xa, .int xb])).length) Slot.unset).toArray = ls at hl ⊢
  have hl : lv_has ls 3 [(0, .ref (aa 0)), (1, .int xa), (2, .int xb)] := hl
  unfold F_X5_ofStack at hF
  refine w_go (fun Q hQ => ?_)
  refine lv_aload_n hx hb dX5_ofStack_0 rfl (lv_at hl 0 rfl) ?_
  refine lv_iload_n hx hb dX5_ofStack_1 rfl (lv_at hl 1 rfl) ?_
  obtain ⟨_, hC1, hF⟩ := calp_some hF
  have hFc := b_free (ws := bw q aa Z) hD hS hA
  refine va_callv (va_runV (As := [.int xa]) (rest := []) ⟨hx, hb, hml, hown, hts⟩ (c_X5_checkStack l dC dI q aa Z xa  _ _  hC1) (cwV 1 hts gX5_ofStack_X5_checkStack rfl rfl rfl (by decide +kernel) ⟨Nat.le_of_ble_eq_true rfl, Nat.le_of_ble_eq_true rfl⟩) ⟨pr_blind, va_recv hK hP (ci := 7) (q0 := 0) rfl (bw_at (i := 0) (by decide) rfl), fun U hU hW => ⟨rfl, pr_mk hU hW hP hK hD⟩⟩ rfl rfl hl.1 rfl (lv_room (Nat.le_of_ble_eq_true rfl)) dX5_ofStack_2 ⟨Nat.le_of_ble_eq_true rfl, Nat.le_of_ble_eq_true rfl⟩) hS (fun x _ h => hFc x h) hFc (fun u t H1 locs ht hvm hw hB hz1 hk1 hS => ?_)
  obtain ⟨hP, hK1, hD1⟩ := hB
  rw [ht] at hP
  have hD := hD1.weaken (fun _ q9 _ h9 => hFc q9.1 h9)
  clear hFc hD1 hK1 hvm hz1 hk1
  generalize H1 = H at hP hS ⊢
  refine W.widen (k := 0) (n := 0) (Nat.le_refl _) (Nat.le_refl _) ?_
  refine lv_iload_n hx hb dX5_ofStack_5 rfl (lv_at hl 2 rfl) ?_
  refine lv_iconst (v := 5) hx hb dX5_ofStack_6 (by decide) ?_
  obtain ⟨_, hC3, hF⟩ := calp_some hF
  have hFc := b_free (ws := bw q aa Z) hD hS hA
  refine va_callv (va_runS (As := [.int xb, .int 5]) (rest := []) ⟨hx, hb, hml, hown, hts⟩ (c_X5_checkWhat l dC dI q aa Z xb (5 : Int32)  _ _  hC3) (va_cwS 2 hts gX5_ofStack_X5_checkWhat rfl rfl rfl (by decide +kernel) ⟨Nat.le_of_ble_eq_true rfl, Nat.le_of_ble_eq_true rfl⟩) ⟨pr_blind, fun U hU hW => ⟨rfl, pr_mk hU hW hP hK hD⟩⟩ rfl rfl hl.1 rfl (lv_room (Nat.le_of_ble_eq_true rfl)) dX5_ofStack_7 ⟨Nat.le_of_ble_eq_true rfl, Nat.le_of_ble_eq_true rfl⟩) hS (fun x _ h => hFc x h) hFc (fun u t H1 locs ht hvm hw hB hz1 hk1 hS => ?_)
  obtain ⟨hP, hK1, hD1⟩ := hB
  rw [ht] at hP
  have hD := hD1.weaken (fun _ q9 _ h9 => hFc q9.1 h9)
  clear hFc hD1 hK1 hvm hz1 hk1
  generalize H1 = H at hP hS ⊢
  refine W.widen (k := 0) (n := 0) (Nat.le_refl _) (Nat.le_refl _) ?_
  refine lv_aload_n hx hb dX5_ofStack_10 rfl (lv_at hl 0 rfl) ?_
  refine va_get (D := (dC, dI)) (ci := 7) (v := .ref (aa 1)) (C := RX5) (T := TX5) (N := 5) hx hb hts hinX5 hown hK hP 0 (bw_at (i := 0) (by decide) rfl) rfl 0 (by decide) (hts (.fieldLink RX5 10 "BallotLoom" "box" "LBallotLoom$Box;") (by decide +kernel)) (fun _ h9 => h9) rfl dX5_ofStack_11 ?_
  refine va_get (D := (dC, dI)) (ci := 2) (v := .ref (aa 5)) (C := RX0) (T := TX0) (N := 11) hx hb hts hinX0 hown hK hP 1 (bw_at (i := 1) (by decide) rfl) rfl 6 (by decide) (hts (.fieldLink RX5 118 "BallotLoom$Box" "stacks" "[LBallotLoom$Stack;") (by decide +kernel)) (fun _ h9 => h9) rfl dX5_ofStack_14 ?_
  refine lv_iload_n hx hb dX5_ofStack_17 rfl (lv_at hl 1 rfl) ?_
  obtain ⟨hg5, hF⟩ := gd_some hF
  have hk6 : ix xa < 25 := in_lt hg5 (by decide)
  refine bq_ald (v := (aa (39 + (ix xa)))) (hty := rfl) hx hb hK hP 5 3 (at_q (by decide) (fun _ _ => rfl)) rfl hg5 (if_pos (in_lt hg5 (Nat.le_refl _))) dX5_ofStack_18 ?_
  refine lv_iload_n hx hb dX5_ofStack_19 rfl (lv_at hl 2 rfl) ?_
  obtain ⟨r8, hC7, hF⟩ := calp_some hF
  have hFc := b_free (ws := bw q aa Z) hD hS hA
  refine va_calli (va_runV (As := [.int xb]) (rest := []) ⟨hx, hb, hml, hown, hts⟩ (c_X3_figure l dC dI q aa Z (ix xa) xb hk6 _ _  hC7) (cwV 1 hts gX5_ofStack_X3_figure rfl rfl rfl (by decide +kernel) ⟨Nat.le_of_ble_eq_true rfl, Nat.le_of_ble_eq_true rfl⟩) ⟨pr_blind, va_recv hK hP (ci := 5) (q0 := (39 + (ix xa))) rfl (bw_at (i := 39 + (ix xa)) (by omega) (bk_stk hk6 _ _)), fun U hU hW => ⟨rfl, pr_mk hU hW hP hK hD⟩⟩ rfl rfl hl.1 rfl (lv_room (Nat.le_of_ble_eq_true rfl)) dX5_ofStack_20 ⟨Nat.le_of_ble_eq_true rfl, Nat.le_of_ble_eq_true rfl⟩) hS (fun x _ h => hFc x h) hFc (fun rr9 u t H1 locs ht hvm hw hB hz1 hk1 hS => ?_)
  obtain ⟨hP, hK1, hD1⟩ := hB
  rw [ht] at hP
  have hD := hD1.weaken (fun _ q9 _ h9 => hFc q9.1 h9)
  clear hFc hD1 hK1 hvm hz1 hk1
  generalize H1 = H at hP hS ⊢
  refine W.widen (k := 0) (n := 0) (Nat.le_refl _) (Nat.le_refl _) ?_
  obtain rfl : rr9 = r8 := hw
  have e9 := some1 hF
  subst hQ
  exact W.iret (v := rr9) hx hb hr (fun t ht hW => ⟨⟨rr9, (), rfl, e9.symm, po_mk ht hW hP hK hD⟩, hS.F ht⟩) hS.2.2 dX5_ofStack_23

noncomputable def F_X5_winner (Z : Mem) (xa : Int32) (xb : Int32) : Option (Mem × Int32) :=
  calp (F_X5_checkDistrict Z xa) fun _ => calp (F_X5_checkWay Z xb) fun _ => cal (F_X2_winnerBy Z xa xb) fun Z7 rr8 => some (Z7, rr8)

set_option maxHeartbeats 4000000 in
set_option maxRecDepth 100000 in
theorem c_X5_winner (l : Launch) (dC : Nat → ClassId) (dI : Nat → Nat → Nat) (q : Nat → ClassId) (aa : Nat → Nat) (Z : Mem) (xa : Int32) (xb : Int32)  (sz : Nat) (Zo : Mem) (ro : Int32) (hF : F_X5_winner Z xa xb = some (Zo, ro)) : Met l yX5_winner wsX5_winner ({ frames := 7, cells := 0, slots := 0, locals := 161 }) (va_Pc [.ref (aa 0), .int xa, .int xb] (pr_ dC dI (bw q aa Z) (bty q) sz)) (va_Qi (fun (r : Int32) (_ : Unit) => r = ro) (fun (_ : Unit) t => po_ dC dI (bw q aa Zo) (bty q) (va_A (bw q aa Z) sz) t) (va_A (bw q aa Z) sz)) 0 0 (va_A (bw q aa Z) sz) := by
  refine Met.ofW (cc := cX5_winner) (maxL := 3) (ret := (some .int)) (by decide) rfl ?_
  intro p e s m args below meth c s₁ B hml hv
  obtain ⟨hargs, hsz, hP, hK, hD0⟩ := hv
  have hx := B.exec
  have hb := B.bytes
  have hr := B.returns
  have hts := atoms_spec (ws := wsX5_winner) B.pre
  have hown : s.vm.findClass RX5 = some m.cls := findClass_of_methodNamed B.named
  have hlocks := B.notSynchronized
  subst hsz
  have hD := hD0.self (sz := s.heap.size)
  generalize hAe : va_A (bw q aa Z) s.heap.size = A at hD ⊢
  have hA : ∀ x : Nat, s.heap.size ≤ x → A x := fun x h => by rw [← hAe]; exact Or.inr h
  have hS : va_S A s.heap s.heap [] := va_S.rf
  have hinX5 : ∀ w ∈ u_ws RX5 TX5 5, w ∈ wsX5_winner := by decide +kernel
  have hl := lv_entry ([.ref (aa 0), .int xa, .int xb]) (n := 3) (Nat.le_of_ble_eq_true rfl)
  refine w_ent hargs ?_
  rw [lg_entry_eq]
  generalize (lg_sl ([.ref (aa 0), .int xa, .int xb]) ++ List.replicate (3 - (lg_sl ([.ref (aa 0), .int xa, .int xb])).length) Slot.unset).toArray = ls at hl ⊢
  have hl : lv_has ls 3 [(0, .ref (aa 0)), (1, .int xa), (2, .int xb)] := hl
  unfold F_X5_winner at hF
  refine w_go (fun Q hQ => ?_)
  refine lv_aload_n hx hb dX5_winner_0 rfl (lv_at hl 0 rfl) ?_
  refine lv_iload_n hx hb dX5_winner_1 rfl (lv_at hl 1 rfl) ?_
  obtain ⟨_, hC1, hF⟩ := calp_some hF
  have hFc := b_free (ws := bw q aa Z) hD hS hA
  refine va_callv (va_runV (As := [.int xa]) (rest := []) ⟨hx, hb, hml, hown, hts⟩ (c_X5_checkDistrict l dC dI q aa Z xa  _ _  hC1) (cwV 1 hts gX5_winner_X5_checkDistrict rfl rfl rfl (by decide +kernel) ⟨Nat.le_of_ble_eq_true rfl, Nat.le_of_ble_eq_true rfl⟩) ⟨pr_blind, va_recv hK hP (ci := 7) (q0 := 0) rfl (bw_at (i := 0) (by decide) rfl), fun U hU hW => ⟨rfl, pr_mk hU hW hP hK hD⟩⟩ rfl rfl hl.1 rfl (lv_room (Nat.le_of_ble_eq_true rfl)) dX5_winner_2 ⟨Nat.le_of_ble_eq_true rfl, Nat.le_of_ble_eq_true rfl⟩) hS (fun x _ h => hFc x h) hFc (fun u t H1 locs ht hvm hw hB hz1 hk1 hS => ?_)
  obtain ⟨hP, hK1, hD1⟩ := hB
  rw [ht] at hP
  have hD := hD1.weaken (fun _ q9 _ h9 => hFc q9.1 h9)
  clear hFc hD1 hK1 hvm hz1 hk1
  generalize H1 = H at hP hS ⊢
  refine W.widen (k := 0) (n := 0) (Nat.le_refl _) (Nat.le_refl _) ?_
  refine lv_iload_n hx hb dX5_winner_5 rfl (lv_at hl 2 rfl) ?_
  obtain ⟨_, hC3, hF⟩ := calp_some hF
  have hFc := b_free (ws := bw q aa Z) hD hS hA
  refine va_callv (va_runS (As := [.int xb]) (rest := []) ⟨hx, hb, hml, hown, hts⟩ (c_X5_checkWay l dC dI q aa Z xb  _ _  hC3) (va_cwS 1 hts gX5_winner_X5_checkWay rfl rfl rfl (by decide +kernel) ⟨Nat.le_of_ble_eq_true rfl, Nat.le_of_ble_eq_true rfl⟩) ⟨pr_blind, fun U hU hW => ⟨rfl, pr_mk hU hW hP hK hD⟩⟩ rfl rfl hl.1 rfl (lv_room (Nat.le_of_ble_eq_true rfl)) dX5_winner_6 ⟨Nat.le_of_ble_eq_true rfl, Nat.le_of_ble_eq_true rfl⟩) hS (fun x _ h => hFc x h) hFc (fun u t H1 locs ht hvm hw hB hz1 hk1 hS => ?_)
  obtain ⟨hP, hK1, hD1⟩ := hB
  rw [ht] at hP
  have hD := hD1.weaken (fun _ q9 _ h9 => hFc q9.1 h9)
  clear hFc hD1 hK1 hvm hz1 hk1
  generalize H1 = H at hP hS ⊢
  refine W.widen (k := 0) (n := 0) (Nat.le_refl _) (Nat.le_refl _) ?_
  refine lv_aload_n hx hb dX5_winner_9 rfl (lv_at hl 0 rfl) ?_
  refine va_get (D := (dC, dI)) (ci := 7) (v := .ref (aa 6)) (C := RX5) (T := TX5) (N := 5) hx hb hts hinX5 hown hK hP 0 (bw_at (i := 0) (by decide) rfl) rfl 1 (by decide) (hts (.fieldLink RX5 19 "BallotLoom" "poll" "LBallotLoom$Poll;") (by decide +kernel)) (fun _ h9 => h9) rfl dX5_winner_10 ?_
  refine lv_aload_n hx hb dX5_winner_13 rfl (lv_at hl 0 rfl) ?_
  refine va_get (D := (dC, dI)) (ci := 7) (v := .ref (aa 1)) (C := RX5) (T := TX5) (N := 5) hx hb hts hinX5 hown hK hP 0 (bw_at (i := 0) (by decide) rfl) rfl 0 (by decide) (hts (.fieldLink RX5 10 "BallotLoom" "box" "LBallotLoom$Box;") (by decide +kernel)) (fun _ h9 => h9) rfl dX5_winner_14 ?_
  refine lv_iload_n hx hb dX5_winner_17 rfl (lv_at hl 1 rfl) ?_
  refine lv_iload_n hx hb dX5_winner_18 rfl (lv_at hl 2 rfl) ?_
  obtain ⟨Z7, r6, hC5, hF⟩ := cal_some hF
  have hFc := b_free (ws := bw q aa Z) hD hS hA
  refine va_calli (va_runV (As := [.ref (aa 1), .int xa, .int xb]) (rest := []) ⟨hx, hb, hml, hown, hts⟩ (c_X2_winnerBy l dC dI q aa Z xa xb  _ _ _  hC5) (cwV 3 hts gX5_winner_X2_winnerBy rfl rfl rfl (by decide +kernel) ⟨Nat.le_of_ble_eq_true rfl, Nat.le_of_ble_eq_true rfl⟩) ⟨pr_blind, va_recv hK hP (ci := 4) (q0 := 6) rfl (bw_at (i := 6) (by decide) rfl), fun U hU hW => ⟨rfl, pr_mk hU hW hP hK hD⟩⟩ rfl rfl hl.1 rfl (lv_room (Nat.le_of_ble_eq_true rfl)) dX5_winner_19 ⟨Nat.le_of_ble_eq_true rfl, Nat.le_of_ble_eq_true rfl⟩) hS (fun x _ h => hFc x h) hFc (fun rr8 u t H1 locs ht hvm hw hB hz1 hk1 hS => ?_)
  obtain ⟨hP, hK1, hD1⟩ := hB
  rw [ht] at hP
  have hD := hD1.weaken (fun _ q9 _ h9 => hFc q9.1 h9)
  clear hFc hD1 hK1 hvm hz1 hk1
  generalize H1 = H at hP hS ⊢
  refine W.widen (k := 0) (n := 0) (Nat.le_refl _) (Nat.le_refl _) ?_
  obtain rfl : rr8 = r6 := hw
  obtain ⟨e8, e9⟩ := some2 hF
  rw [← e8] at hP hD
  subst hQ
  exact W.iret (v := rr8) hx hb hr (fun t ht hW => ⟨⟨rr8, (), rfl, e9.symm, po_mk ht hW hP hK hD⟩, hS.F ht⟩) hS.2.2 dX5_winner_22

noncomputable def F_X5_ofParty (Z : Mem) (xa : Int32) (xb : Int32) : Option (Mem × Int32) :=
  calp (F_X5_checkParty Z xa) fun _ => calp (F_X5_checkWhat Z xb (4 : Int32)) fun _ => cal (F_X1_countVotes Z ) fun Z6 _ => cal (F_X1_countDistricts Z6 ) fun Z9 _ => calp (F_X1_figure Z9 xa xb) fun rr13 => some (Z9, rr13)

set_option maxHeartbeats 4000000 in
set_option maxRecDepth 100000 in
theorem c_X5_ofParty (l : Launch) (dC : Nat → ClassId) (dI : Nat → Nat → Nat) (q : Nat → ClassId) (aa : Nat → Nat) (Z : Mem) (xa : Int32) (xb : Int32)  (sz : Nat) (Zo : Mem) (ro : Int32) (hF : F_X5_ofParty Z xa xb = some (Zo, ro)) : Met l yX5_ofParty wsX5_ofParty ({ frames := 5, cells := 0, slots := 0, locals := 110 }) (va_Pc [.ref (aa 0), .int xa, .int xb] (pr_ dC dI (bw q aa Z) (bty q) sz)) (va_Qi (fun (r : Int32) (_ : Unit) => r = ro) (fun (_ : Unit) t => po_ dC dI (bw q aa Zo) (bty q) (va_A (bw q aa Z) sz) t) (va_A (bw q aa Z) sz)) 0 0 (va_A (bw q aa Z) sz) := by
  refine Met.ofW (cc := cX5_ofParty) (maxL := 3) (ret := (some .int)) (by decide) rfl ?_
  intro p e s m args below meth c s₁ B hml hv
  obtain ⟨hargs, hsz, hP, hK, hD0⟩ := hv
  have hx := B.exec
  have hb := B.bytes
  have hr := B.returns
  have hts := atoms_spec (ws := wsX5_ofParty) B.pre
  have hown : s.vm.findClass RX5 = some m.cls := findClass_of_methodNamed B.named
  have hlocks := B.notSynchronized
  subst hsz
  have hD := hD0.self (sz := s.heap.size)
  generalize hAe : va_A (bw q aa Z) s.heap.size = A at hD ⊢
  have hA : ∀ x : Nat, s.heap.size ≤ x → A x := fun x h => by rw [← hAe]; exact Or.inr h
  have hS : va_S A s.heap s.heap [] := va_S.rf
  have hinX5 : ∀ w ∈ u_ws RX5 TX5 5, w ∈ wsX5_ofParty := by decide +kernel
  have hl := lv_entry ([.ref (aa 0), .int xa, .int xb]) (n := 3) (Nat.le_of_ble_eq_true rfl)
  refine w_ent hargs ?_
  rw [lg_entry_eq]
  generalize (lg_sl ([.ref (aa 0), .int xa, .int xb]) ++ List.replicate (3 - (lg_sl ([.ref (aa 0), .int xa, .int xb])).length) Slot.unset).toArray = ls at hl ⊢
  have hl : lv_has ls 3 [(0, .ref (aa 0)), (1, .int xa), (2, .int xb)] := hl
  unfold F_X5_ofParty at hF
  refine w_go (fun Q hQ => ?_)
  refine lv_iload_n hx hb dX5_ofParty_0 rfl (lv_at hl 1 rfl) ?_
  obtain ⟨_, hC1, hF⟩ := calp_some hF
  have hFc := b_free (ws := bw q aa Z) hD hS hA
  refine va_callv (va_runS (As := [.int xa]) (rest := []) ⟨hx, hb, hml, hown, hts⟩ (c_X5_checkParty l dC dI q aa Z xa  _ _  hC1) (va_cwS 1 hts gX5_ofParty_X5_checkParty rfl rfl rfl (by decide +kernel) ⟨Nat.le_of_ble_eq_true rfl, Nat.le_of_ble_eq_true rfl⟩) ⟨pr_blind, fun U hU hW => ⟨rfl, pr_mk hU hW hP hK hD⟩⟩ rfl rfl hl.1 rfl (lv_room (Nat.le_of_ble_eq_true rfl)) dX5_ofParty_1 ⟨Nat.le_of_ble_eq_true rfl, Nat.le_of_ble_eq_true rfl⟩) hS (fun x _ h => hFc x h) hFc (fun u t H1 locs ht hvm hw hB hz1 hk1 hS => ?_)
  obtain ⟨hP, hK1, hD1⟩ := hB
  rw [ht] at hP
  have hD := hD1.weaken (fun _ q9 _ h9 => hFc q9.1 h9)
  clear hFc hD1 hK1 hvm hz1 hk1
  generalize H1 = H at hP hS ⊢
  refine W.widen (k := 0) (n := 0) (Nat.le_refl _) (Nat.le_refl _) ?_
  refine lv_iload_n hx hb dX5_ofParty_4 rfl (lv_at hl 2 rfl) ?_
  refine lv_iconst (v := 4) hx hb dX5_ofParty_5 (by decide) ?_
  obtain ⟨_, hC3, hF⟩ := calp_some hF
  have hFc := b_free (ws := bw q aa Z) hD hS hA
  refine va_callv (va_runS (As := [.int xb, .int 4]) (rest := []) ⟨hx, hb, hml, hown, hts⟩ (c_X5_checkWhat l dC dI q aa Z xb (4 : Int32)  _ _  hC3) (va_cwS 2 hts gX5_ofParty_X5_checkWhat rfl rfl rfl (by decide +kernel) ⟨Nat.le_of_ble_eq_true rfl, Nat.le_of_ble_eq_true rfl⟩) ⟨pr_blind, fun U hU hW => ⟨rfl, pr_mk hU hW hP hK hD⟩⟩ rfl rfl hl.1 rfl (lv_room (Nat.le_of_ble_eq_true rfl)) dX5_ofParty_6 ⟨Nat.le_of_ble_eq_true rfl, Nat.le_of_ble_eq_true rfl⟩) hS (fun x _ h => hFc x h) hFc (fun u t H1 locs ht hvm hw hB hz1 hk1 hS => ?_)
  obtain ⟨hP, hK1, hD1⟩ := hB
  rw [ht] at hP
  have hD := hD1.weaken (fun _ q9 _ h9 => hFc q9.1 h9)
  clear hFc hD1 hK1 hvm hz1 hk1
  generalize H1 = H at hP hS ⊢
  refine W.widen (k := 0) (n := 0) (Nat.le_refl _) (Nat.le_refl _) ?_
  refine lv_aload_n hx hb dX5_ofParty_9 rfl (lv_at hl 0 rfl) ?_
  refine va_get (D := (dC, dI)) (ci := 7) (v := .ref (aa 30)) (C := RX5) (T := TX5) (N := 5) hx hb hts hinX5 hown hK hP 0 (bw_at (i := 0) (by decide) rfl) rfl 3 (by decide) (hts (.fieldLink RX5 33 "BallotLoom" "parties" "LBallotLoom$Parties;") (by decide +kernel)) (fun _ h9 => h9) rfl dX5_ofParty_10 ?_
  refine lv_aload_n hx hb dX5_ofParty_13 rfl (lv_at hl 0 rfl) ?_
  refine va_get (D := (dC, dI)) (ci := 7) (v := .ref (aa 1)) (C := RX5) (T := TX5) (N := 5) hx hb hts hinX5 hown hK hP 0 (bw_at (i := 0) (by decide) rfl) rfl 0 (by decide) (hts (.fieldLink RX5 10 "BallotLoom" "box" "LBallotLoom$Box;") (by decide +kernel)) (fun _ h9 => h9) rfl dX5_ofParty_14 ?_
  obtain ⟨Z6, _, hC5, hF⟩ := cal_some hF
  have hFc := b_free (ws := bw q aa Z) hD hS hA
  refine va_callv (va_runV (As := [.ref (aa 1)]) (rest := []) ⟨hx, hb, hml, hown, hts⟩ (c_X1_countVotes l dC dI q aa Z   _ _ _  hC5) (cwV 1 hts gX5_ofParty_X1_countVotes rfl rfl rfl (by decide +kernel) ⟨Nat.le_of_ble_eq_true rfl, Nat.le_of_ble_eq_true rfl⟩) ⟨pr_blind, va_recv hK hP (ci := 3) (q0 := 30) rfl (bw_at (i := 30) (by decide) rfl), fun U hU hW => ⟨rfl, pr_mk hU hW hP hK hD⟩⟩ rfl rfl hl.1 rfl (lv_room (Nat.le_of_ble_eq_true rfl)) dX5_ofParty_17 ⟨Nat.le_of_ble_eq_true rfl, Nat.le_of_ble_eq_true rfl⟩) hS (fun x _ h => hFc x h) hFc (fun u t H1 locs ht hvm hw hB hz1 hk1 hS => ?_)
  obtain ⟨hP, hK1, hD1⟩ := hB
  rw [ht] at hP
  have hD := hD1.weaken (fun _ q9 _ h9 => hFc q9.1 h9)
  clear hFc hD1 hK1 hvm hz1 hk1
  generalize H1 = H at hP hS ⊢
  refine W.widen (k := 0) (n := 0) (Nat.le_refl _) (Nat.le_refl _) ?_
  refine lv_aload_n hx hb dX5_ofParty_20 rfl (lv_at hl 0 rfl) ?_
  refine va_get (D := (dC, dI)) (ci := 7) (v := .ref (aa 30)) (C := RX5) (T := TX5) (N := 5) hx hb hts hinX5 hown hK hP 0 (bw_at (i := 0) (by decide) rfl) rfl 3 (by decide) (hts (.fieldLink RX5 33 "BallotLoom" "parties" "LBallotLoom$Parties;") (by decide +kernel)) (fun _ h9 => h9) rfl dX5_ofParty_21 ?_
  refine lv_aload_n hx hb dX5_ofParty_24 rfl (lv_at hl 0 rfl) ?_
  refine va_get (D := (dC, dI)) (ci := 7) (v := .ref (aa 1)) (C := RX5) (T := TX5) (N := 5) hx hb hts hinX5 hown hK hP 0 (bw_at (i := 0) (by decide) rfl) rfl 0 (by decide) (hts (.fieldLink RX5 10 "BallotLoom" "box" "LBallotLoom$Box;") (by decide +kernel)) (fun _ h9 => h9) rfl dX5_ofParty_25 ?_
  refine lv_aload_n hx hb dX5_ofParty_28 rfl (lv_at hl 0 rfl) ?_
  refine va_get (D := (dC, dI)) (ci := 7) (v := .ref (aa 6)) (C := RX5) (T := TX5) (N := 5) hx hb hts hinX5 hown hK hP 0 (bw_at (i := 0) (by decide) rfl) rfl 1 (by decide) (hts (.fieldLink RX5 19 "BallotLoom" "poll" "LBallotLoom$Poll;") (by decide +kernel)) (fun _ h9 => h9) rfl dX5_ofParty_29 ?_
  obtain ⟨Z9, _, hC8, hF⟩ := cal_some hF
  have hFc := b_free (ws := bw q aa Z6) hD hS hA
  refine va_callv (va_runV (As := [.ref (aa 1), .ref (aa 6)]) (rest := []) ⟨hx, hb, hml, hown, hts⟩ (c_X1_countDistricts l dC dI q aa Z6   _ _ _  hC8) (cwV 2 hts gX5_ofParty_X1_countDistricts rfl rfl rfl (by decide +kernel) ⟨Nat.le_of_ble_eq_true rfl, Nat.le_of_ble_eq_true rfl⟩) ⟨pr_blind, va_recv hK hP (ci := 3) (q0 := 30) rfl (bw_at (i := 30) (by decide) rfl), fun U hU hW => ⟨rfl, pr_mk hU hW hP hK hD⟩⟩ rfl rfl hl.1 rfl (lv_room (Nat.le_of_ble_eq_true rfl)) dX5_ofParty_32 ⟨Nat.le_of_ble_eq_true rfl, Nat.le_of_ble_eq_true rfl⟩) hS (fun x _ h => hFc x h) hFc (fun u t H1 locs ht hvm hw hB hz1 hk1 hS => ?_)
  obtain ⟨hP, hK1, hD1⟩ := hB
  rw [ht] at hP
  have hD := hD1.weaken (fun _ q9 _ h9 => hFc q9.1 h9)
  clear hFc hD1 hK1 hvm hz1 hk1
  generalize H1 = H at hP hS ⊢
  refine W.widen (k := 0) (n := 0) (Nat.le_refl _) (Nat.le_refl _) ?_
  refine lv_aload_n hx hb dX5_ofParty_35 rfl (lv_at hl 0 rfl) ?_
  refine va_get (D := (dC, dI)) (ci := 7) (v := .ref (aa 30)) (C := RX5) (T := TX5) (N := 5) hx hb hts hinX5 hown hK hP 0 (bw_at (i := 0) (by decide) rfl) rfl 3 (by decide) (hts (.fieldLink RX5 33 "BallotLoom" "parties" "LBallotLoom$Parties;") (by decide +kernel)) (fun _ h9 => h9) rfl dX5_ofParty_36 ?_
  refine lv_iload_n hx hb dX5_ofParty_39 rfl (lv_at hl 1 rfl) ?_
  refine lv_iload_n hx hb dX5_ofParty_40 rfl (lv_at hl 2 rfl) ?_
  obtain ⟨r12, hC11, hF⟩ := calp_some hF
  have hFc := b_free (ws := bw q aa Z9) hD hS hA
  refine va_calli (va_runV (As := [.int xa, .int xb]) (rest := []) ⟨hx, hb, hml, hown, hts⟩ (c_X1_figure l dC dI q aa Z9 xa xb  _ _  hC11) (cwV 2 hts gX5_ofParty_X1_figure rfl rfl rfl (by decide +kernel) ⟨Nat.le_of_ble_eq_true rfl, Nat.le_of_ble_eq_true rfl⟩) ⟨pr_blind, va_recv hK hP (ci := 3) (q0 := 30) rfl (bw_at (i := 30) (by decide) rfl), fun U hU hW => ⟨rfl, pr_mk hU hW hP hK hD⟩⟩ rfl rfl hl.1 rfl (lv_room (Nat.le_of_ble_eq_true rfl)) dX5_ofParty_41 ⟨Nat.le_of_ble_eq_true rfl, Nat.le_of_ble_eq_true rfl⟩) hS (fun x _ h => hFc x h) hFc (fun rr13 u t H1 locs ht hvm hw hB hz1 hk1 hS => ?_)
  obtain ⟨hP, hK1, hD1⟩ := hB
  rw [ht] at hP
  have hD := hD1.weaken (fun _ q9 _ h9 => hFc q9.1 h9)
  clear hFc hD1 hK1 hvm hz1 hk1
  generalize H1 = H at hP hS ⊢
  refine W.widen (k := 0) (n := 0) (Nat.le_refl _) (Nat.le_refl _) ?_
  obtain rfl : rr13 = r12 := hw
  obtain ⟨e8, e9⟩ := some2 hF
  rw [← e8] at hP hD
  subst hQ
  exact W.iret (v := rr13) hx hb hr (fun t ht hW => ⟨⟨rr13, (), rfl, e9.symm, po_mk ht hW hP hK hD⟩, hS.F ht⟩) hS.2.2 dX5_ofParty_44

noncomputable def F_X5_share (Z : Mem) (xa : Int32) (xb : Int32) (xc : Int32) : Option (Mem × Int32) :=
  calp (F_X5_checkParty Z xa) fun _ => calp (F_X5_checkHouse Z xb) fun _ => calp (F_X5_checkRule Z xc) fun _ => cal (F_X5_shareHouse Z xb xc) fun Z8 _ => gd (¬ (xa < 0 ∨ 4 ≤ ix xa)) <| bv (Z8.1 36 (ix xa)) fun y11 => some (Z8, y11)

set_option maxHeartbeats 4000000 in
set_option maxRecDepth 100000 in
theorem c_X5_share (l : Launch) (dC : Nat → ClassId) (dI : Nat → Nat → Nat) (q : Nat → ClassId) (aa : Nat → Nat) (Z : Mem) (xa : Int32) (xb : Int32) (xc : Int32)  (sz : Nat) (Zo : Mem) (ro : Int32) (hF : F_X5_share Z xa xb xc = some (Zo, ro)) : Met l yX5_share wsX5_share ({ frames := 6, cells := 0, slots := 0, locals := 135 }) (va_Pc [.ref (aa 0), .int xa, .int xb, .int xc] (pr_ dC dI (bw q aa Z) (bty q) sz)) (va_Qi (fun (r : Int32) (_ : Unit) => r = ro) (fun (_ : Unit) t => po_ dC dI (bw q aa Zo) (bty q) (va_A (bw q aa Z) sz) t) (va_A (bw q aa Z) sz)) 0 0 (va_A (bw q aa Z) sz) := by
  refine Met.ofW (cc := cX5_share) (maxL := 4) (ret := (some .int)) (by decide) rfl ?_
  intro p e s m args below meth c s₁ B hml hv
  obtain ⟨hargs, hsz, hP, hK, hD0⟩ := hv
  have hx := B.exec
  have hb := B.bytes
  have hr := B.returns
  have hts := atoms_spec (ws := wsX5_share) B.pre
  have hown : s.vm.findClass RX5 = some m.cls := findClass_of_methodNamed B.named
  have hlocks := B.notSynchronized
  subst hsz
  have hD := hD0.self (sz := s.heap.size)
  generalize hAe : va_A (bw q aa Z) s.heap.size = A at hD ⊢
  have hA : ∀ x : Nat, s.heap.size ≤ x → A x := fun x h => by rw [← hAe]; exact Or.inr h
  have hS : va_S A s.heap s.heap [] := va_S.rf
  have hinX1 : ∀ w ∈ u_ws RX1 TX1 9, w ∈ wsX5_share := by decide +kernel
  have hinX5 : ∀ w ∈ u_ws RX5 TX5 5, w ∈ wsX5_share := by decide +kernel
  have hl := lv_entry ([.ref (aa 0), .int xa, .int xb, .int xc]) (n := 4) (Nat.le_of_ble_eq_true rfl)
  refine w_ent hargs ?_
  rw [lg_entry_eq]
  generalize (lg_sl ([.ref (aa 0), .int xa, .int xb, .int xc]) ++ List.replicate (4 - (lg_sl ([.ref (aa 0), .int xa, .int xb, .int xc])).length) Slot.unset).toArray = ls at hl ⊢
  have hl : lv_has ls 4 [(0, .ref (aa 0)), (1, .int xa), (2, .int xb), (3, .int xc)] := hl
  unfold F_X5_share at hF
  refine w_go (fun Q hQ => ?_)
  refine lv_iload_n hx hb dX5_share_0 rfl (lv_at hl 1 rfl) ?_
  obtain ⟨_, hC1, hF⟩ := calp_some hF
  have hFc := b_free (ws := bw q aa Z) hD hS hA
  refine va_callv (va_runS (As := [.int xa]) (rest := []) ⟨hx, hb, hml, hown, hts⟩ (c_X5_checkParty l dC dI q aa Z xa  _ _  hC1) (va_cwS 1 hts gX5_share_X5_checkParty rfl rfl rfl (by decide +kernel) ⟨Nat.le_of_ble_eq_true rfl, Nat.le_of_ble_eq_true rfl⟩) ⟨pr_blind, fun U hU hW => ⟨rfl, pr_mk hU hW hP hK hD⟩⟩ rfl rfl hl.1 rfl (lv_room (Nat.le_of_ble_eq_true rfl)) dX5_share_1 ⟨Nat.le_of_ble_eq_true rfl, Nat.le_of_ble_eq_true rfl⟩) hS (fun x _ h => hFc x h) hFc (fun u t H1 locs ht hvm hw hB hz1 hk1 hS => ?_)
  obtain ⟨hP, hK1, hD1⟩ := hB
  rw [ht] at hP
  have hD := hD1.weaken (fun _ q9 _ h9 => hFc q9.1 h9)
  clear hFc hD1 hK1 hvm hz1 hk1
  generalize H1 = H at hP hS ⊢
  refine W.widen (k := 0) (n := 0) (Nat.le_refl _) (Nat.le_refl _) ?_
  refine lv_iload_n hx hb dX5_share_4 rfl (lv_at hl 2 rfl) ?_
  obtain ⟨_, hC3, hF⟩ := calp_some hF
  have hFc := b_free (ws := bw q aa Z) hD hS hA
  refine va_callv (va_runS (As := [.int xb]) (rest := []) ⟨hx, hb, hml, hown, hts⟩ (c_X5_checkHouse l dC dI q aa Z xb  _ _  hC3) (va_cwS 1 hts gX5_share_X5_checkHouse rfl rfl rfl (by decide +kernel) ⟨Nat.le_of_ble_eq_true rfl, Nat.le_of_ble_eq_true rfl⟩) ⟨pr_blind, fun U hU hW => ⟨rfl, pr_mk hU hW hP hK hD⟩⟩ rfl rfl hl.1 rfl (lv_room (Nat.le_of_ble_eq_true rfl)) dX5_share_5 ⟨Nat.le_of_ble_eq_true rfl, Nat.le_of_ble_eq_true rfl⟩) hS (fun x _ h => hFc x h) hFc (fun u t H1 locs ht hvm hw hB hz1 hk1 hS => ?_)
  obtain ⟨hP, hK1, hD1⟩ := hB
  rw [ht] at hP
  have hD := hD1.weaken (fun _ q9 _ h9 => hFc q9.1 h9)
  clear hFc hD1 hK1 hvm hz1 hk1
  generalize H1 = H at hP hS ⊢
  refine W.widen (k := 0) (n := 0) (Nat.le_refl _) (Nat.le_refl _) ?_
  refine lv_iload_n hx hb dX5_share_8 rfl (lv_at hl 3 rfl) ?_
  obtain ⟨_, hC5, hF⟩ := calp_some hF
  have hFc := b_free (ws := bw q aa Z) hD hS hA
  refine va_callv (va_runS (As := [.int xc]) (rest := []) ⟨hx, hb, hml, hown, hts⟩ (c_X5_checkRule l dC dI q aa Z xc  _ _  hC5) (va_cwS 1 hts gX5_share_X5_checkRule rfl rfl rfl (by decide +kernel) ⟨Nat.le_of_ble_eq_true rfl, Nat.le_of_ble_eq_true rfl⟩) ⟨pr_blind, fun U hU hW => ⟨rfl, pr_mk hU hW hP hK hD⟩⟩ rfl rfl hl.1 rfl (lv_room (Nat.le_of_ble_eq_true rfl)) dX5_share_9 ⟨Nat.le_of_ble_eq_true rfl, Nat.le_of_ble_eq_true rfl⟩) hS (fun x _ h => hFc x h) hFc (fun u t H1 locs ht hvm hw hB hz1 hk1 hS => ?_)
  obtain ⟨hP, hK1, hD1⟩ := hB
  rw [ht] at hP
  have hD := hD1.weaken (fun _ q9 _ h9 => hFc q9.1 h9)
  clear hFc hD1 hK1 hvm hz1 hk1
  generalize H1 = H at hP hS ⊢
  refine W.widen (k := 0) (n := 0) (Nat.le_refl _) (Nat.le_refl _) ?_
  refine lv_aload_n hx hb dX5_share_12 rfl (lv_at hl 0 rfl) ?_
  refine lv_iload_n hx hb dX5_share_13 rfl (lv_at hl 2 rfl) ?_
  refine lv_iload_n hx hb dX5_share_14 rfl (lv_at hl 3 rfl) ?_
  obtain ⟨Z8, _, hC7, hF⟩ := cal_some hF
  have hFc := b_free (ws := bw q aa Z) hD hS hA
  refine va_callv (va_runV (As := [.int xb, .int xc]) (rest := []) ⟨hx, hb, hml, hown, hts⟩ (c_X5_shareHouse l dC dI q aa Z xb xc  _ _ _  hC7) (cwV 2 hts gX5_share_X5_shareHouse rfl rfl rfl (by decide +kernel) ⟨Nat.le_of_ble_eq_true rfl, Nat.le_of_ble_eq_true rfl⟩) ⟨pr_blind, va_recv hK hP (ci := 7) (q0 := 0) rfl (bw_at (i := 0) (by decide) rfl), fun U hU hW => ⟨rfl, pr_mk hU hW hP hK hD⟩⟩ rfl rfl hl.1 rfl (lv_room (Nat.le_of_ble_eq_true rfl)) dX5_share_15 ⟨Nat.le_of_ble_eq_true rfl, Nat.le_of_ble_eq_true rfl⟩) hS (fun x _ h => hFc x h) hFc (fun u t H1 locs ht hvm hw hB hz1 hk1 hS => ?_)
  obtain ⟨hP, hK1, hD1⟩ := hB
  rw [ht] at hP
  have hD := hD1.weaken (fun _ q9 _ h9 => hFc q9.1 h9)
  clear hFc hD1 hK1 hvm hz1 hk1
  generalize H1 = H at hP hS ⊢
  refine W.widen (k := 0) (n := 0) (Nat.le_refl _) (Nat.le_refl _) ?_
  refine lv_aload_n hx hb dX5_share_18 rfl (lv_at hl 0 rfl) ?_
  refine va_get (D := (dC, dI)) (ci := 7) (v := .ref (aa 30)) (C := RX5) (T := TX5) (N := 5) hx hb hts hinX5 hown hK hP 0 (bw_at (i := 0) (by decide) rfl) rfl 3 (by decide) (hts (.fieldLink RX5 33 "BallotLoom" "parties" "LBallotLoom$Parties;") (by decide +kernel)) (fun _ h9 => h9) rfl dX5_share_19 ?_
  refine va_get (D := (dC, dI)) (ci := 3) (v := .ref (aa 36)) (C := RX1) (T := TX1) (N := 9) hx hb hts hinX1 hown hK hP 30 (bw_at (i := 30) (by decide) rfl) rfl 6 (by decide) (hts (.fieldLink RX5 229 "BallotLoom$Parties" "seats" "[I") (by decide +kernel)) (fun _ h9 => h9) rfl dX5_share_22 ?_
  refine lv_iload_n hx hb dX5_share_25 rfl (lv_at hl 1 rfl) ?_
  obtain ⟨hg10, hF⟩ := gd_some hF
  refine va_iald hx hb hK hP 36 0 (at_i (by decide) (fun _ _ => rfl)) rfl hg10 dX5_share_26 ?_
  refine lv_topi (fun y11 ey11 => ?_)
  have hF := bv_at ey11 hF
  obtain ⟨e8, e9⟩ := some2 hF
  rw [← e8] at hP hD
  subst hQ
  exact W.iret (v := y11) hx hb hr (fun t ht hW => ⟨⟨y11, (), rfl, e9.symm, po_mk ht hW hP hK hD⟩, hS.F ht⟩) hS.2.2 dX5_share_27

noncomputable def F_X5_wouldWin (Z : Mem) (xa : Int32) (xb : Int32) (xc : Int32) : Option (Mem × Int32) :=
  calp (F_X5_checkStack Z xa) fun _ => calp (F_X5_checkRanks Z xb) fun _ => calp (F_X5_checkWay Z xc) fun _ => gd (¬ (xa < 0 ∨ 24 ≤ ix xa)) <| bv (Z.1 (39 + (ix xa)) 0) fun y9 => bv (si Z (39 + 24) 0 y9) fun Z10 => bv (Z10.1 (39 + (ix xa)) 2) fun y11 => bv (si Z10 (39 + 24) 2 y11) fun Z12 => cal (F_X3_setRanks Z12 24 xb) fun Z14 _ => bv (swz (ix xa) Z14) fun Z18 => bv (Z18.1 (39 + 24) 0) fun y19 => cal (F_X2_winnerBy Z18 y19 xc) fun Z22 rr23 => bv (swz (ix xa) Z22) fun Z26 => some (Z26, rr23)

set_option maxHeartbeats 4000000 in
set_option maxRecDepth 100000 in
theorem c_X5_wouldWin (l : Launch) (dC : Nat → ClassId) (dI : Nat → Nat → Nat) (q : Nat → ClassId) (aa : Nat → Nat) (Z : Mem) (xa : Int32) (xb : Int32) (xc : Int32)  (hsp : aa 100 = aa (39 + 24)) (sz : Nat) (Zo : Mem) (ro : Int32) (hF : F_X5_wouldWin Z xa xb xc = some (Zo, ro)) : Met l yX5_wouldWin wsX5_wouldWin ({ frames := 7, cells := 0, slots := 0, locals := 161 }) (va_Pc [.ref (aa 0), .int xa, .int xb, .int xc] (pr_ dC dI (bw q aa Z) (bty q) sz)) (va_Qi (fun (r : Int32) (_ : Unit) => r = ro) (fun (_ : Unit) t => po_ dC dI (bw q aa Zo) (bty q) (va_A (bw q aa Z) sz) t) (va_A (bw q aa Z) sz)) 0 0 (va_A (bw q aa Z) sz) := by
  refine Met.ofW (cc := cX5_wouldWin) (maxL := 6) (ret := (some .int)) (by decide) rfl ?_
  intro p e s m args below meth c s₁ B hml hv
  obtain ⟨hargs, hsz, hP, hK, hD0⟩ := hv
  have hx := B.exec
  have hb := B.bytes
  have hr := B.returns
  have hts := atoms_spec (ws := wsX5_wouldWin) B.pre
  have hown : s.vm.findClass RX5 = some m.cls := findClass_of_methodNamed B.named
  have hlocks := B.notSynchronized
  subst hsz
  have hD := hD0.self (sz := s.heap.size)
  generalize hAe : va_A (bw q aa Z) s.heap.size = A at hD ⊢
  have hA : ∀ x : Nat, s.heap.size ≤ x → A x := fun x h => by rw [← hAe]; exact Or.inr h
  have hS : va_S A s.heap s.heap [] := va_S.rf
  have hinX0 : ∀ w ∈ u_ws RX0 TX0 11, w ∈ wsX5_wouldWin := by decide +kernel
  have hinX3 : ∀ w ∈ u_ws RX3 TX3 7, w ∈ wsX5_wouldWin := by decide +kernel
  have hinX5 : ∀ w ∈ u_ws RX5 TX5 5, w ∈ wsX5_wouldWin := by decide +kernel
  have hl := lv_entry ([.ref (aa 0), .int xa, .int xb, .int xc]) (n := 6) (Nat.le_of_ble_eq_true rfl)
  refine w_ent hargs ?_
  rw [lg_entry_eq]
  generalize (lg_sl ([.ref (aa 0), .int xa, .int xb, .int xc]) ++ List.replicate (6 - (lg_sl ([.ref (aa 0), .int xa, .int xb, .int xc])).length) Slot.unset).toArray = ls at hl ⊢
  have hl : lv_has ls 6 [(0, .ref (aa 0)), (1, .int xa), (2, .int xb), (3, .int xc)] := hl
  have h24 : 24 < 25 := by decide
  unfold F_X5_wouldWin at hF
  refine w_go (fun Q hQ => ?_)
  refine lv_aload_n hx hb dX5_wouldWin_0 rfl (lv_at hl 0 rfl) ?_
  refine lv_iload_n hx hb dX5_wouldWin_1 rfl (lv_at hl 1 rfl) ?_
  obtain ⟨_, hC1, hF⟩ := calp_some hF
  have hFc := b_free (ws := bw q aa Z) hD hS hA
  refine va_callv (va_runV (As := [.int xa]) (rest := []) ⟨hx, hb, hml, hown, hts⟩ (c_X5_checkStack l dC dI q aa Z xa  _ _  hC1) (cwV 1 hts gX5_wouldWin_X5_checkStack rfl rfl rfl (by decide +kernel) ⟨Nat.le_of_ble_eq_true rfl, Nat.le_of_ble_eq_true rfl⟩) ⟨pr_blind, va_recv hK hP (ci := 7) (q0 := 0) rfl (bw_at (i := 0) (by decide) rfl), fun U hU hW => ⟨rfl, pr_mk hU hW hP hK hD⟩⟩ rfl rfl hl.1 rfl (lv_room (Nat.le_of_ble_eq_true rfl)) dX5_wouldWin_2 ⟨Nat.le_of_ble_eq_true rfl, Nat.le_of_ble_eq_true rfl⟩) hS (fun x _ h => hFc x h) hFc (fun u t H1 locs ht hvm hw hB hz1 hk1 hS => ?_)
  obtain ⟨hP, hK1, hD1⟩ := hB
  rw [ht] at hP
  have hD := hD1.weaken (fun _ q9 _ h9 => hFc q9.1 h9)
  clear hFc hD1 hK1 hvm hz1 hk1
  generalize H1 = H at hP hS ⊢
  refine W.widen (k := 0) (n := 0) (Nat.le_refl _) (Nat.le_refl _) ?_
  refine lv_iload_n hx hb dX5_wouldWin_5 rfl (lv_at hl 2 rfl) ?_
  obtain ⟨_, hC3, hF⟩ := calp_some hF
  have hFc := b_free (ws := bw q aa Z) hD hS hA
  refine va_callv (va_runS (As := [.int xb]) (rest := []) ⟨hx, hb, hml, hown, hts⟩ (c_X5_checkRanks l dC dI q aa Z xb  _ _  hC3) (va_cwS 1 hts gX5_wouldWin_X5_checkRanks rfl rfl rfl (by decide +kernel) ⟨Nat.le_of_ble_eq_true rfl, Nat.le_of_ble_eq_true rfl⟩) ⟨pr_blind, fun U hU hW => ⟨rfl, pr_mk hU hW hP hK hD⟩⟩ rfl rfl hl.1 rfl (lv_room (Nat.le_of_ble_eq_true rfl)) dX5_wouldWin_6 ⟨Nat.le_of_ble_eq_true rfl, Nat.le_of_ble_eq_true rfl⟩) hS (fun x _ h => hFc x h) hFc (fun u t H1 locs ht hvm hw hB hz1 hk1 hS => ?_)
  obtain ⟨hP, hK1, hD1⟩ := hB
  rw [ht] at hP
  have hD := hD1.weaken (fun _ q9 _ h9 => hFc q9.1 h9)
  clear hFc hD1 hK1 hvm hz1 hk1
  generalize H1 = H at hP hS ⊢
  refine W.widen (k := 0) (n := 0) (Nat.le_refl _) (Nat.le_refl _) ?_
  refine lv_iload_n hx hb dX5_wouldWin_9 rfl (lv_at hl 3 rfl) ?_
  obtain ⟨_, hC5, hF⟩ := calp_some hF
  have hFc := b_free (ws := bw q aa Z) hD hS hA
  refine va_callv (va_runS (As := [.int xc]) (rest := []) ⟨hx, hb, hml, hown, hts⟩ (c_X5_checkWay l dC dI q aa Z xc  _ _  hC5) (va_cwS 1 hts gX5_wouldWin_X5_checkWay rfl rfl rfl (by decide +kernel) ⟨Nat.le_of_ble_eq_true rfl, Nat.le_of_ble_eq_true rfl⟩) ⟨pr_blind, fun U hU hW => ⟨rfl, pr_mk hU hW hP hK hD⟩⟩ rfl rfl hl.1 rfl (lv_room (Nat.le_of_ble_eq_true rfl)) dX5_wouldWin_10 ⟨Nat.le_of_ble_eq_true rfl, Nat.le_of_ble_eq_true rfl⟩) hS (fun x _ h => hFc x h) hFc (fun u t H1 locs ht hvm hw hB hz1 hk1 hS => ?_)
  obtain ⟨hP, hK1, hD1⟩ := hB
  rw [ht] at hP
  have hD := hD1.weaken (fun _ q9 _ h9 => hFc q9.1 h9)
  clear hFc hD1 hK1 hvm hz1 hk1
  generalize H1 = H at hP hS ⊢
  refine W.widen (k := 0) (n := 0) (Nat.le_refl _) (Nat.le_refl _) ?_
  refine lv_aload_n hx hb dX5_wouldWin_13 rfl (lv_at hl 0 rfl) ?_
  refine va_get (D := (dC, dI)) (ci := 7) (v := .ref (aa 1)) (C := RX5) (T := TX5) (N := 5) hx hb hts hinX5 hown hK hP 0 (bw_at (i := 0) (by decide) rfl) rfl 0 (by decide) (hts (.fieldLink RX5 10 "BallotLoom" "box" "LBallotLoom$Box;") (by decide +kernel)) (fun _ h9 => h9) rfl dX5_wouldWin_14 ?_
  refine va_get (D := (dC, dI)) (ci := 2) (v := .ref (aa 5)) (C := RX0) (T := TX0) (N := 11) hx hb hts hinX0 hown hK hP 1 (bw_at (i := 1) (by decide) rfl) rfl 6 (by decide) (hts (.fieldLink RX5 118 "BallotLoom$Box" "stacks" "[LBallotLoom$Stack;") (by decide +kernel)) (fun _ h9 => h9) rfl dX5_wouldWin_17 ?_
  refine lv_iload_n hx hb dX5_wouldWin_20 rfl (lv_at hl 1 rfl) ?_
  obtain ⟨hg7, hF⟩ := gd_some hF
  have hk8 : ix xa < 25 := in_lt hg7 (by decide)
  refine bq_ald (v := (aa (39 + (ix xa)))) (hty := rfl) hx hb hK hP 5 3 (at_q (by decide) (fun _ _ => rfl)) rfl hg7 (if_pos (in_lt hg7 (Nat.le_refl _))) dX5_wouldWin_21 ?_
  refine lv_astore (lv' := [(4, .ref (aa (39 + (ix xa)))), (0, .ref (aa 0)), (1, .int xa), (2, .int xb), (3, .int xc)]) hx hb dX5_wouldWin_22 hl (by decide) rfl (fun ls hl => ?_)
  refine lv_aload_n hx hb dX5_wouldWin_24 rfl (lv_at hl 1 rfl) ?_
  refine va_get (D := (dC, dI)) (ci := 7) (v := .ref (aa 100)) (C := RX5) (T := TX5) (N := 5) hx hb hts hinX5 hown hK hP 0 (bw_at (i := 0) (by decide) rfl) rfl 4 (by decide) (hts (.fieldLink RX5 40 "BallotLoom" "spare" "LBallotLoom$Stack;") (by decide +kernel)) (fun _ h9 => h9) rfl dX5_wouldWin_25 ?_
  rw [hsp]
  refine lv_aload hx hb dX5_wouldWin_28 (lv_at hl 0 rfl) ?_
  refine va_get (D := (dC, dI)) (ci := 5) (v := .int (Z.1 (39 + (ix xa)) 0)) (C := RX3) (T := TX3) (N := 7) hx hb hts hinX3 hown hK hP (39 + (ix xa)) (bw_at (i := 39 + (ix xa)) (by omega) (bk_stk hk8 _ _)) rfl 0 (by decide) (hts (.fieldLink RX5 125 "BallotLoom$Stack" "district" "I") (by decide +kernel)) (fun _ h9 => h9) rfl dX5_wouldWin_30 ?_
  refine lv_topi (fun y9 ey9 => ?_)
  have hF := bv_at ey9 hF
  obtain ⟨Z10, eZ10, hF⟩ := bv_some hF
  refine va_put (D := (dC, dI)) (ci := 5) (v := .int y9) (ty := .int) (C := RX3) (T := TX3) (N := 7) hx hb hts hinX3 tyX3 tyX3_ok nmX3 hown hK hP hD hS (39 + 24) (bw_at (i := 39 + 24) (by omega) (bk_stk h24 _ _)) rfl 0 (by decide) (hts (.fieldLink RX5 125 "BallotLoom$Stack" "district" "I") (by decide +kernel)) (fun _ h9 => h9) rfl (by decide +kernel) rfl rfl (Nat.le_of_ble_eq_true rfl) dX5_wouldWin_33 (fun H locs hP hD hS => ?_)
  have eW := wz_o (q := q) (aa := aa) (i := (39 + 24)) (ci := 5) (fs := [.int y9, .int (Z.1 (39 + 24) 1), .int (Z.1 (39 + 24) 2), .int (Z.1 (39 + 24) 3), .ref (aa (64 + 24)), .int (Z.1 (39 + 24) 5), .double (Z.2 (39 + 24) 6)]) (bk_stk h24 _ _) eZ10
  have hP : va_P (dC, dI) vwCl (bw q aa Z10) H := eW ▸ hP
  have hD : va_D A (bw q aa Z10) := eW ▸ hD
  clear eW
  refine lv_aload_n hx hb dX5_wouldWin_36 rfl (lv_at hl 1 rfl) ?_
  refine va_get (D := (dC, dI)) (ci := 7) (v := .ref (aa 100)) (C := RX5) (T := TX5) (N := 5) hx hb hts hinX5 hown hK hP 0 (bw_at (i := 0) (by decide) rfl) rfl 4 (by decide) (hts (.fieldLink RX5 40 "BallotLoom" "spare" "LBallotLoom$Stack;") (by decide +kernel)) (fun _ h9 => h9) rfl dX5_wouldWin_37 ?_
  rw [hsp]
  refine lv_aload hx hb dX5_wouldWin_40 (lv_at hl 0 rfl) ?_
  refine va_get (D := (dC, dI)) (ci := 5) (v := .int (Z10.1 (39 + (ix xa)) 2)) (C := RX3) (T := TX3) (N := 7) hx hb hts hinX3 hown hK hP (39 + (ix xa)) (bw_at (i := 39 + (ix xa)) (by omega) (bk_stk hk8 _ _)) rfl 2 (by decide) (hts (.fieldLink RX5 122 "BallotLoom$Stack" "count" "I") (by decide +kernel)) (fun _ h9 => h9) rfl dX5_wouldWin_42 ?_
  refine lv_topi (fun y11 ey11 => ?_)
  have hF := bv_at ey11 hF
  obtain ⟨Z12, eZ12, hF⟩ := bv_some hF
  refine va_put (D := (dC, dI)) (ci := 5) (v := .int y11) (ty := .int) (C := RX3) (T := TX3) (N := 7) hx hb hts hinX3 tyX3 tyX3_ok nmX3 hown hK hP hD hS (39 + 24) (bw_at (i := 39 + 24) (by omega) (bk_stk h24 _ _)) rfl 2 (by decide) (hts (.fieldLink RX5 122 "BallotLoom$Stack" "count" "I") (by decide +kernel)) (fun _ h9 => h9) rfl (by decide +kernel) rfl rfl (Nat.le_of_ble_eq_true rfl) dX5_wouldWin_45 (fun H locs hP hD hS => ?_)
  have eW := wz_o (q := q) (aa := aa) (i := (39 + 24)) (ci := 5) (fs := [.int (Z10.1 (39 + 24) 0), .int (Z10.1 (39 + 24) 1), .int y11, .int (Z10.1 (39 + 24) 3), .ref (aa (64 + 24)), .int (Z10.1 (39 + 24) 5), .double (Z10.2 (39 + 24) 6)]) (bk_stk h24 _ _) eZ12
  have hP : va_P (dC, dI) vwCl (bw q aa Z12) H := eW ▸ hP
  have hD : va_D A (bw q aa Z12) := eW ▸ hD
  clear eW
  refine lv_aload_n hx hb dX5_wouldWin_48 rfl (lv_at hl 1 rfl) ?_
  refine va_get (D := (dC, dI)) (ci := 7) (v := .ref (aa 100)) (C := RX5) (T := TX5) (N := 5) hx hb hts hinX5 hown hK hP 0 (bw_at (i := 0) (by decide) rfl) rfl 4 (by decide) (hts (.fieldLink RX5 40 "BallotLoom" "spare" "LBallotLoom$Stack;") (by decide +kernel)) (fun _ h9 => h9) rfl dX5_wouldWin_49 ?_
  rw [hsp]
  refine lv_iload_n hx hb dX5_wouldWin_52 rfl (lv_at hl 3 rfl) ?_
  refine lv_aload_n hx hb dX5_wouldWin_53 rfl (lv_at hl 1 rfl) ?_
  refine va_get (D := (dC, dI)) (ci := 7) (v := .ref (aa 1)) (C := RX5) (T := TX5) (N := 5) hx hb hts hinX5 hown hK hP 0 (bw_at (i := 0) (by decide) rfl) rfl 0 (by decide) (hts (.fieldLink RX5 10 "BallotLoom" "box" "LBallotLoom$Box;") (by decide +kernel)) (fun _ h9 => h9) rfl dX5_wouldWin_54 ?_
  obtain ⟨Z14, _, hC13, hF⟩ := cal_some hF
  have hFc := b_free (ws := bw q aa Z12) hD hS hA
  refine va_callv (va_runV (As := [.int xb, .ref (aa 1)]) (rest := []) ⟨hx, hb, hml, hown, hts⟩ (c_X3_setRanks l dC dI q aa Z12 24 xb h24 _ _ _  hC13) (cwV 2 hts gX5_wouldWin_X3_setRanks rfl rfl rfl (by decide +kernel) ⟨Nat.le_of_ble_eq_true rfl, Nat.le_of_ble_eq_true rfl⟩) ⟨pr_blind, va_recv hK hP (ci := 5) (q0 := (39 + 24)) rfl (bw_at (i := 39 + 24) (by omega) (bk_stk h24 _ _)), fun U hU hW => ⟨rfl, pr_mk hU hW hP hK hD⟩⟩ rfl rfl hl.1 rfl (lv_room (Nat.le_of_ble_eq_true rfl)) dX5_wouldWin_57 ⟨Nat.le_of_ble_eq_true rfl, Nat.le_of_ble_eq_true rfl⟩) hS (fun x _ h => hFc x h) hFc (fun u t H1 locs ht hvm hw hB hz1 hk1 hS => ?_)
  obtain ⟨hP, hK1, hD1⟩ := hB
  rw [ht] at hP
  have hD := hD1.weaken (fun _ q9 _ h9 => hFc q9.1 h9)
  clear hFc hD1 hK1 hvm hz1 hk1
  generalize H1 = H at hP hS ⊢
  refine W.widen (k := 0) (n := 0) (Nat.le_refl _) (Nat.le_refl _) ?_
  refine lv_aload_n hx hb dX5_wouldWin_60 rfl (lv_at hl 1 rfl) ?_
  refine va_get (D := (dC, dI)) (ci := 7) (v := .ref (aa 1)) (C := RX5) (T := TX5) (N := 5) hx hb hts hinX5 hown hK hP 0 (bw_at (i := 0) (by decide) rfl) rfl 0 (by decide) (hts (.fieldLink RX5 10 "BallotLoom" "box" "LBallotLoom$Box;") (by decide +kernel)) (fun _ h9 => h9) rfl dX5_wouldWin_61 ?_
  refine va_get (D := (dC, dI)) (ci := 2) (v := .ref (aa 5)) (C := RX0) (T := TX0) (N := 11) hx hb hts hinX0 hown hK hP 1 (bw_at (i := 1) (by decide) rfl) rfl 6 (by decide) (hts (.fieldLink RX5 118 "BallotLoom$Box" "stacks" "[LBallotLoom$Stack;") (by decide +kernel)) (fun _ h9 => h9) rfl dX5_wouldWin_64 ?_
  refine lv_iload_n hx hb dX5_wouldWin_67 rfl (lv_at hl 2 rfl) ?_
  refine lv_aload_n hx hb dX5_wouldWin_68 rfl (lv_at hl 1 rfl) ?_
  refine va_get (D := (dC, dI)) (ci := 7) (v := .ref (aa 100)) (C := RX5) (T := TX5) (N := 5) hx hb hts hinX5 hown hK hP 0 (bw_at (i := 0) (by decide) rfl) rfl 4 (by decide) (hts (.fieldLink RX5 40 "BallotLoom" "spare" "LBallotLoom$Stack;") (by decide +kernel)) (fun _ h9 => h9) rfl dX5_wouldWin_69 ?_
  rw [hsp]
  have hk16 : (ix xa) < 24 := in_lt hg7 (Nat.le_refl _)
  have hk17 : (ix xa) < 25 := in_lt hg7 (by decide)
  obtain ⟨Z18, eZ18, hF⟩ := bv_some hF
  refine va_astq hx hb hK hP hD hS 5 3 (39 + 24) 5 (at_q (by decide) (fun _ _ => rfl)) rfl (bw_at (i := 39 + 24) (by omega) (bk_stk h24 _ _)) rfl hg7 dX5_wouldWin_72 (fun H locs hP hD hS => ?_)
  have hP := b_swap hk16 rfl hP
  have hD := b_swapD hk16 rfl hD
  rw [← eZ18] at hP hD
  have hl : lv_has ls 6 [(4, .ref ((sw (ix xa) aa) (39 + 24))), (0, .ref ((sw (ix xa) aa) 0)), (1, .int xa), (2, .int xb), (3, .int xc)] := by rw [sw_24 hk16, sw_lo hk16 (i := 0) (by decide)]; exact hl
  have hsp2 : (sw (ix xa) aa) 100 = (sw (ix xa) aa) (39 + (ix xa)) := by rw [sw_100 hk16, sw_k hk16]; exact hsp
  refine lv_aload_n hx hb dX5_wouldWin_73 rfl (lv_at hl 1 rfl) ?_
  refine va_get (D := (dC, dI)) (ci := 7) (v := .ref ((sw (ix xa) aa) 6)) (C := RX5) (T := TX5) (N := 5) hx hb hts hinX5 hown hK hP 0 (bw_at (i := 0) (by decide) rfl) rfl 1 (by decide) (hts (.fieldLink RX5 19 "BallotLoom" "poll" "LBallotLoom$Poll;") (by decide +kernel)) (fun _ h9 => h9) rfl dX5_wouldWin_74 ?_
  refine lv_aload_n hx hb dX5_wouldWin_77 rfl (lv_at hl 1 rfl) ?_
  refine va_get (D := (dC, dI)) (ci := 7) (v := .ref ((sw (ix xa) aa) 1)) (C := RX5) (T := TX5) (N := 5) hx hb hts hinX5 hown hK hP 0 (bw_at (i := 0) (by decide) rfl) rfl 0 (by decide) (hts (.fieldLink RX5 10 "BallotLoom" "box" "LBallotLoom$Box;") (by decide +kernel)) (fun _ h9 => h9) rfl dX5_wouldWin_78 ?_
  refine lv_aload hx hb dX5_wouldWin_81 (lv_at hl 0 rfl) ?_
  refine va_get (D := (dC, dI)) (ci := 5) (v := .int (Z18.1 (39 + 24) 0)) (C := RX3) (T := TX3) (N := 7) hx hb hts hinX3 hown hK hP (39 + 24) (bw_at (i := 39 + 24) (by omega) (bk_stk h24 _ _)) rfl 0 (by decide) (hts (.fieldLink RX5 125 "BallotLoom$Stack" "district" "I") (by decide +kernel)) (fun _ h9 => h9) rfl dX5_wouldWin_83 ?_
  refine lv_topi (fun y19 ey19 => ?_)
  have hF := bv_at ey19 hF
  refine lv_iload_n hx hb dX5_wouldWin_86 rfl (lv_at hl 4 rfl) ?_
  obtain ⟨Z22, r21, hC20, hF⟩ := cal_some hF
  have hFc := b_free (ws := bw q (sw (ix xa) aa) Z18) hD hS hA
  refine va_calli (va_runV (As := [.ref ((sw (ix xa) aa) 1), .int y19, .int xc]) (rest := []) ⟨hx, hb, hml, hown, hts⟩ (c_X2_winnerBy l dC dI q (sw (ix xa) aa) Z18 y19 xc  _ _ _  hC20) (cwV 3 hts gX5_wouldWin_X2_winnerBy rfl rfl rfl (by decide +kernel) ⟨Nat.le_of_ble_eq_true rfl, Nat.le_of_ble_eq_true rfl⟩) ⟨pr_blind, va_recv hK hP (ci := 4) (q0 := 6) rfl (bw_at (i := 6) (by decide) rfl), fun U hU hW => ⟨rfl, pr_mk hU hW hP hK hD⟩⟩ rfl rfl hl.1 rfl (lv_room (Nat.le_of_ble_eq_true rfl)) dX5_wouldWin_87 ⟨Nat.le_of_ble_eq_true rfl, Nat.le_of_ble_eq_true rfl⟩) hS (fun x _ h => hFc x h) hFc (fun rr23 u t H1 locs ht hvm hw hB hz1 hk1 hS => ?_)
  obtain ⟨hP, hK1, hD1⟩ := hB
  rw [ht] at hP
  have hD := hD1.weaken (fun _ q9 _ h9 => hFc q9.1 h9)
  clear hFc hD1 hK1 hvm hz1 hk1
  generalize H1 = H at hP hS ⊢
  refine W.widen (k := 0) (n := 0) (Nat.le_refl _) (Nat.le_refl _) ?_
  obtain rfl : rr23 = r21 := hw
  refine lv_istore (lv' := [(5, .int rr23), (4, .ref ((sw (ix xa) aa) (39 + 24))), (0, .ref ((sw (ix xa) aa) 0)), (1, .int xa), (2, .int xb), (3, .int xc)]) hx hb dX5_wouldWin_90 hl (by decide) rfl (fun ls hl => ?_)
  refine lv_aload_n hx hb dX5_wouldWin_92 rfl (lv_at hl 2 rfl) ?_
  refine va_get (D := (dC, dI)) (ci := 7) (v := .ref ((sw (ix xa) aa) 1)) (C := RX5) (T := TX5) (N := 5) hx hb hts hinX5 hown hK hP 0 (bw_at (i := 0) (by decide) rfl) rfl 0 (by decide) (hts (.fieldLink RX5 10 "BallotLoom" "box" "LBallotLoom$Box;") (by decide +kernel)) (fun _ h9 => h9) rfl dX5_wouldWin_93 ?_
  refine va_get (D := (dC, dI)) (ci := 2) (v := .ref ((sw (ix xa) aa) 5)) (C := RX0) (T := TX0) (N := 11) hx hb hts hinX0 hown hK hP 1 (bw_at (i := 1) (by decide) rfl) rfl 6 (by decide) (hts (.fieldLink RX5 118 "BallotLoom$Box" "stacks" "[LBallotLoom$Stack;") (by decide +kernel)) (fun _ h9 => h9) rfl dX5_wouldWin_96 ?_
  refine lv_iload_n hx hb dX5_wouldWin_99 rfl (lv_at hl 3 rfl) ?_
  refine lv_aload hx hb dX5_wouldWin_100 (lv_at hl 1 rfl) ?_
  have hk24 : (ix xa) < 24 := in_lt hg7 (Nat.le_refl _)
  have hk25 : (ix xa) < 25 := in_lt hg7 (by decide)
  obtain ⟨Z26, eZ26, hF⟩ := bv_some hF
  refine va_astq hx hb hK hP hD hS 5 3 (39 + 24) 5 (at_q (by decide) (fun _ _ => rfl)) rfl (bw_at (i := 39 + 24) (by omega) (bk_stk h24 _ _)) rfl hg7 dX5_wouldWin_102 (fun H locs hP hD hS => ?_)
  have hP := b_swap hk24 rfl hP
  have hD := b_swapD hk24 rfl hD
  rw [← eZ26, sw_sw hk24] at hP hD
  have hl : lv_has ls 6 [(5, .int rr23), (4, .ref (aa (39 + (ix xa)))), (0, .ref (aa 0)), (1, .int xa), (2, .int xb), (3, .int xc)] := by rw [← sw_24 hk24 (aa := aa), ← sw_lo hk24 (aa := aa) (i := 0) (by decide)]; exact hl
  refine lv_iload hx hb dX5_wouldWin_103 (lv_at hl 0 rfl) ?_
  obtain ⟨e8, e9⟩ := some2 hF
  rw [← e8] at hP hD
  subst hQ
  exact W.iret (v := rr23) hx hb hr (fun t ht hW => ⟨⟨rr23, (), rfl, e9.symm, po_mk ht hW hP hK hD⟩, hS.F ht⟩) hS.2.2 dX5_wouldWin_105

noncomputable def F_X5_lie_x82 (xa : Int32) (Z23 : Mem) (w22 : Int32) : Option (Mem × Int32) :=
  bv (swz (ix xa) Z23) fun Z26 => some (Z26, w22)

noncomputable def F_X5_lie_l82 (xa : Int32) (xb : Int32) (K_82 : Mem → Int32 → Option (Mem × Int32)) : Nat → Mem → Int32 → Int32 → Int32 → Option (Mem × Int32)
  | 0, _, _, _, _ => none
  | n82 + 1, Z30, u27, u28, u29 =>
  bv (Z30.1 (39 + 24) 5) fun y31 => br (y31 ≤ u29) (K_82 Z30 u27) (cal (F_X3_setListWithFirst Z30 (ix xa) 24 u29) fun Z34 _ => bv (Z34.1 (39 + 24) 0) fun y36 => cal (F_X2_winnerBy Z34 y36 xb) fun Z39 rr40 => calp (F_X3_placeOf Z39 24 rr40) fun rr43 => br (u28 ≤ rr43) ((F_X5_lie_l82 xa xb K_82 n82) Z39 u27 u28 (u29 + (1 : Int32))) (gd (¬ (u29 < 0 ∨ 6 ≤ ix u29)) <| bv (Z39.1 (64 + 24) (ix u29)) fun y46 => (F_X5_lie_l82 xa xb K_82 n82) Z39 y46 rr43 (u29 + (1 : Int32))))

noncomputable def F_X5_lie (Z : Mem) (xa : Int32) (xb : Int32) : Option (Mem × Int32) :=
  calp (F_X5_checkStack Z xa) fun _ => calp (F_X5_checkWay Z xb) fun _ => gd (¬ (xa < 0 ∨ 24 ≤ ix xa)) <| bv (Z.1 (39 + (ix xa)) 0) fun y7 => cal (F_X2_winnerBy Z y7 xb) fun Z10 rr11 => calp (F_X3_placeOf Z10 (ix xa) rr11) fun rr14 => bv (Z10.1 (39 + (ix xa)) 0) fun y15 => bv (si Z10 (39 + 24) 0 y15) fun Z16 => bv (Z16.1 (39 + (ix xa)) 2) fun y17 => bv (si Z16 (39 + 24) 2 y17) fun Z18 => bv (swz (ix xa) Z18) fun Z21 => F_X5_lie_l82 xa xb (F_X5_lie_x82 xa) 100 Z21 ((-1) : Int32) rr14 (0 : Int32)

set_option maxHeartbeats 4000000 in
set_option maxRecDepth 100000 in
theorem c_X5_lie (l : Launch) (dC : Nat → ClassId) (dI : Nat → Nat → Nat) (q : Nat → ClassId) (aa : Nat → Nat) (Z : Mem) (xa : Int32) (xb : Int32)  (hsp : aa 100 = aa (39 + 24)) (sz : Nat) (Zo : Mem) (ro : Int32) (hF : F_X5_lie Z xa xb = some (Zo, ro)) : Met l yX5_lie wsX5_lie ({ frames := 7, cells := 0, slots := 0, locals := 161 }) (va_Pc [.ref (aa 0), .int xa, .int xb] (pr_ dC dI (bw q aa Z) (bty q) sz)) (va_Qi (fun (r : Int32) (_ : Unit) => r = ro) (fun (_ : Unit) t => po_ dC dI (bw q aa Zo) (bty q) (va_A (bw q aa Z) sz) t) (va_A (bw q aa Z) sz)) 0 0 (va_A (bw q aa Z) sz) := by
  refine Met.ofW (cc := cX5_lie) (maxL := 8) (ret := (some .int)) (by decide) rfl ?_
  intro p e s m args below meth c s₁ B hml hv
  obtain ⟨hargs, hsz, hP, hK, hD0⟩ := hv
  have hx := B.exec
  have hb := B.bytes
  have hr := B.returns
  have hts := atoms_spec (ws := wsX5_lie) B.pre
  have hown : s.vm.findClass RX5 = some m.cls := findClass_of_methodNamed B.named
  have hlocks := B.notSynchronized
  subst hsz
  have hD := hD0.self (sz := s.heap.size)
  generalize hAe : va_A (bw q aa Z) s.heap.size = A at hD ⊢
  have hA : ∀ x : Nat, s.heap.size ≤ x → A x := fun x h => by rw [← hAe]; exact Or.inr h
  have hS : va_S A s.heap s.heap [] := va_S.rf
  have hinX0 : ∀ w ∈ u_ws RX0 TX0 11, w ∈ wsX5_lie := by decide +kernel
  have hinX3 : ∀ w ∈ u_ws RX3 TX3 7, w ∈ wsX5_lie := by decide +kernel
  have hinX5 : ∀ w ∈ u_ws RX5 TX5 5, w ∈ wsX5_lie := by decide +kernel
  have hl := lv_entry ([.ref (aa 0), .int xa, .int xb]) (n := 8) (Nat.le_of_ble_eq_true rfl)
  refine w_ent hargs ?_
  rw [lg_entry_eq]
  generalize (lg_sl ([.ref (aa 0), .int xa, .int xb]) ++ List.replicate (8 - (lg_sl ([.ref (aa 0), .int xa, .int xb])).length) Slot.unset).toArray = ls at hl ⊢
  have hl : lv_has ls 8 [(0, .ref (aa 0)), (1, .int xa), (2, .int xb)] := hl
  have h24 : 24 < 25 := by decide
  unfold F_X5_lie at hF
  refine w_go (fun Q hQ => ?_)
  refine lv_aload_n hx hb dX5_lie_0 rfl (lv_at hl 0 rfl) ?_
  refine lv_iload_n hx hb dX5_lie_1 rfl (lv_at hl 1 rfl) ?_
  obtain ⟨_, hC1, hF⟩ := calp_some hF
  have hFc := b_free (ws := bw q aa Z) hD hS hA
  refine va_callv (va_runV (As := [.int xa]) (rest := []) ⟨hx, hb, hml, hown, hts⟩ (c_X5_checkStack l dC dI q aa Z xa  _ _  hC1) (cwV 1 hts gX5_lie_X5_checkStack rfl rfl rfl (by decide +kernel) ⟨Nat.le_of_ble_eq_true rfl, Nat.le_of_ble_eq_true rfl⟩) ⟨pr_blind, va_recv hK hP (ci := 7) (q0 := 0) rfl (bw_at (i := 0) (by decide) rfl), fun U hU hW => ⟨rfl, pr_mk hU hW hP hK hD⟩⟩ rfl rfl hl.1 rfl (lv_room (Nat.le_of_ble_eq_true rfl)) dX5_lie_2 ⟨Nat.le_of_ble_eq_true rfl, Nat.le_of_ble_eq_true rfl⟩) hS (fun x _ h => hFc x h) hFc (fun u t H1 locs ht hvm hw hB hz1 hk1 hS => ?_)
  obtain ⟨hP, hK1, hD1⟩ := hB
  rw [ht] at hP
  have hD := hD1.weaken (fun _ q9 _ h9 => hFc q9.1 h9)
  clear hFc hD1 hK1 hvm hz1 hk1
  generalize H1 = H at hP hS ⊢
  refine W.widen (k := 0) (n := 0) (Nat.le_refl _) (Nat.le_refl _) ?_
  refine lv_iload_n hx hb dX5_lie_5 rfl (lv_at hl 2 rfl) ?_
  obtain ⟨_, hC3, hF⟩ := calp_some hF
  have hFc := b_free (ws := bw q aa Z) hD hS hA
  refine va_callv (va_runS (As := [.int xb]) (rest := []) ⟨hx, hb, hml, hown, hts⟩ (c_X5_checkWay l dC dI q aa Z xb  _ _  hC3) (va_cwS 1 hts gX5_lie_X5_checkWay rfl rfl rfl (by decide +kernel) ⟨Nat.le_of_ble_eq_true rfl, Nat.le_of_ble_eq_true rfl⟩) ⟨pr_blind, fun U hU hW => ⟨rfl, pr_mk hU hW hP hK hD⟩⟩ rfl rfl hl.1 rfl (lv_room (Nat.le_of_ble_eq_true rfl)) dX5_lie_6 ⟨Nat.le_of_ble_eq_true rfl, Nat.le_of_ble_eq_true rfl⟩) hS (fun x _ h => hFc x h) hFc (fun u t H1 locs ht hvm hw hB hz1 hk1 hS => ?_)
  obtain ⟨hP, hK1, hD1⟩ := hB
  rw [ht] at hP
  have hD := hD1.weaken (fun _ q9 _ h9 => hFc q9.1 h9)
  clear hFc hD1 hK1 hvm hz1 hk1
  generalize H1 = H at hP hS ⊢
  refine W.widen (k := 0) (n := 0) (Nat.le_refl _) (Nat.le_refl _) ?_
  refine lv_aload_n hx hb dX5_lie_9 rfl (lv_at hl 0 rfl) ?_
  refine va_get (D := (dC, dI)) (ci := 7) (v := .ref (aa 1)) (C := RX5) (T := TX5) (N := 5) hx hb hts hinX5 hown hK hP 0 (bw_at (i := 0) (by decide) rfl) rfl 0 (by decide) (hts (.fieldLink RX5 10 "BallotLoom" "box" "LBallotLoom$Box;") (by decide +kernel)) (fun _ h9 => h9) rfl dX5_lie_10 ?_
  refine va_get (D := (dC, dI)) (ci := 2) (v := .ref (aa 5)) (C := RX0) (T := TX0) (N := 11) hx hb hts hinX0 hown hK hP 1 (bw_at (i := 1) (by decide) rfl) rfl 6 (by decide) (hts (.fieldLink RX5 118 "BallotLoom$Box" "stacks" "[LBallotLoom$Stack;") (by decide +kernel)) (fun _ h9 => h9) rfl dX5_lie_13 ?_
  refine lv_iload_n hx hb dX5_lie_16 rfl (lv_at hl 1 rfl) ?_
  obtain ⟨hg5, hF⟩ := gd_some hF
  have hk6 : ix xa < 25 := in_lt hg5 (by decide)
  refine bq_ald (v := (aa (39 + (ix xa)))) (hty := rfl) hx hb hK hP 5 3 (at_q (by decide) (fun _ _ => rfl)) rfl hg5 (if_pos (in_lt hg5 (Nat.le_refl _))) dX5_lie_17 ?_
  refine lv_astore_n (lv' := [(3, .ref (aa (39 + (ix xa)))), (0, .ref (aa 0)), (1, .int xa), (2, .int xb)]) hx hb dX5_lie_18 rfl hl (by decide) rfl (fun ls hl => ?_)
  refine lv_iconst (v := (-1)) hx hb dX5_lie_19 (by decide) ?_
  refine lv_istore (lv' := [(4, .int (-1)), (3, .ref (aa (39 + (ix xa)))), (0, .ref (aa 0)), (1, .int xa), (2, .int xb)]) hx hb dX5_lie_20 hl (by decide) rfl (fun ls hl => ?_)
  refine lv_aload_n hx hb dX5_lie_22 rfl (lv_at hl 1 rfl) ?_
  refine lv_aload_n hx hb dX5_lie_23 rfl (lv_at hl 2 rfl) ?_
  refine va_get (D := (dC, dI)) (ci := 7) (v := .ref (aa 6)) (C := RX5) (T := TX5) (N := 5) hx hb hts hinX5 hown hK hP 0 (bw_at (i := 0) (by decide) rfl) rfl 1 (by decide) (hts (.fieldLink RX5 19 "BallotLoom" "poll" "LBallotLoom$Poll;") (by decide +kernel)) (fun _ h9 => h9) rfl dX5_lie_24 ?_
  refine lv_aload_n hx hb dX5_lie_27 rfl (lv_at hl 2 rfl) ?_
  refine va_get (D := (dC, dI)) (ci := 7) (v := .ref (aa 1)) (C := RX5) (T := TX5) (N := 5) hx hb hts hinX5 hown hK hP 0 (bw_at (i := 0) (by decide) rfl) rfl 0 (by decide) (hts (.fieldLink RX5 10 "BallotLoom" "box" "LBallotLoom$Box;") (by decide +kernel)) (fun _ h9 => h9) rfl dX5_lie_28 ?_
  refine lv_aload_n hx hb dX5_lie_31 rfl (lv_at hl 1 rfl) ?_
  refine va_get (D := (dC, dI)) (ci := 5) (v := .int (Z.1 (39 + (ix xa)) 0)) (C := RX3) (T := TX3) (N := 7) hx hb hts hinX3 hown hK hP (39 + (ix xa)) (bw_at (i := 39 + (ix xa)) (by omega) (bk_stk hk6 _ _)) rfl 0 (by decide) (hts (.fieldLink RX5 125 "BallotLoom$Stack" "district" "I") (by decide +kernel)) (fun _ h9 => h9) rfl dX5_lie_32 ?_
  refine lv_topi (fun y7 ey7 => ?_)
  have hF := bv_at ey7 hF
  refine lv_iload_n hx hb dX5_lie_35 rfl (lv_at hl 4 rfl) ?_
  obtain ⟨Z10, r9, hC8, hF⟩ := cal_some hF
  have hFc := b_free (ws := bw q aa Z) hD hS hA
  refine va_calli (va_runV (As := [.ref (aa 1), .int y7, .int xb]) (rest := [.ref (aa (39 + (ix xa)))]) ⟨hx, hb, hml, hown, hts⟩ (c_X2_winnerBy l dC dI q aa Z y7 xb  _ _ _  hC8) (cwV 3 hts gX5_lie_X2_winnerBy rfl rfl rfl (by decide +kernel) ⟨Nat.le_of_ble_eq_true rfl, Nat.le_of_ble_eq_true rfl⟩) ⟨pr_blind, va_recv hK hP (ci := 4) (q0 := 6) rfl (bw_at (i := 6) (by decide) rfl), fun U hU hW => ⟨rfl, pr_mk hU hW hP hK hD⟩⟩ rfl rfl hl.1 rfl (lv_room (Nat.le_of_ble_eq_true rfl)) dX5_lie_36 ⟨Nat.le_of_ble_eq_true rfl, Nat.le_of_ble_eq_true rfl⟩) hS (fun x _ h => hFc x h) hFc (fun rr11 u t H1 locs ht hvm hw hB hz1 hk1 hS => ?_)
  obtain ⟨hP, hK1, hD1⟩ := hB
  rw [ht] at hP
  have hD := hD1.weaken (fun _ q9 _ h9 => hFc q9.1 h9)
  clear hFc hD1 hK1 hvm hz1 hk1
  generalize H1 = H at hP hS ⊢
  refine W.widen (k := 0) (n := 0) (Nat.le_refl _) (Nat.le_refl _) ?_
  obtain rfl : rr11 = r9 := hw
  obtain ⟨r13, hC12, hF⟩ := calp_some hF
  have hFc := b_free (ws := bw q aa Z10) hD hS hA
  refine va_calli (va_runV (As := [.int rr11]) (rest := []) ⟨hx, hb, hml, hown, hts⟩ (c_X3_placeOf l dC dI q aa Z10 (ix xa) rr11 hk6 _ _  hC12) (cwV 1 hts gX5_lie_X3_placeOf rfl rfl rfl (by decide +kernel) ⟨Nat.le_of_ble_eq_true rfl, Nat.le_of_ble_eq_true rfl⟩) ⟨pr_blind, va_recv hK hP (ci := 5) (q0 := (39 + (ix xa))) rfl (bw_at (i := 39 + (ix xa)) (by omega) (bk_stk hk6 _ _)), fun U hU hW => ⟨rfl, pr_mk hU hW hP hK hD⟩⟩ rfl rfl hl.1 rfl (lv_room (Nat.le_of_ble_eq_true rfl)) dX5_lie_39 ⟨Nat.le_of_ble_eq_true rfl, Nat.le_of_ble_eq_true rfl⟩) hS (fun x _ h => hFc x h) hFc (fun rr14 u t H1 locs ht hvm hw hB hz1 hk1 hS => ?_)
  obtain ⟨hP, hK1, hD1⟩ := hB
  rw [ht] at hP
  have hD := hD1.weaken (fun _ q9 _ h9 => hFc q9.1 h9)
  clear hFc hD1 hK1 hvm hz1 hk1
  generalize H1 = H at hP hS ⊢
  refine W.widen (k := 0) (n := 0) (Nat.le_refl _) (Nat.le_refl _) ?_
  obtain rfl : rr14 = r13 := hw
  refine lv_istore (lv' := [(5, .int rr14), (4, .int (-1)), (3, .ref (aa (39 + (ix xa)))), (0, .ref (aa 0)), (1, .int xa), (2, .int xb)]) hx hb dX5_lie_42 hl (by decide) rfl (fun ls hl => ?_)
  refine lv_aload_n hx hb dX5_lie_44 rfl (lv_at hl 3 rfl) ?_
  refine va_get (D := (dC, dI)) (ci := 7) (v := .ref (aa 100)) (C := RX5) (T := TX5) (N := 5) hx hb hts hinX5 hown hK hP 0 (bw_at (i := 0) (by decide) rfl) rfl 4 (by decide) (hts (.fieldLink RX5 40 "BallotLoom" "spare" "LBallotLoom$Stack;") (by decide +kernel)) (fun _ h9 => h9) rfl dX5_lie_45 ?_
  rw [hsp]
  refine lv_aload_n hx hb dX5_lie_48 rfl (lv_at hl 2 rfl) ?_
  refine va_get (D := (dC, dI)) (ci := 5) (v := .int (Z10.1 (39 + (ix xa)) 0)) (C := RX3) (T := TX3) (N := 7) hx hb hts hinX3 hown hK hP (39 + (ix xa)) (bw_at (i := 39 + (ix xa)) (by omega) (bk_stk hk6 _ _)) rfl 0 (by decide) (hts (.fieldLink RX5 125 "BallotLoom$Stack" "district" "I") (by decide +kernel)) (fun _ h9 => h9) rfl dX5_lie_49 ?_
  refine lv_topi (fun y15 ey15 => ?_)
  have hF := bv_at ey15 hF
  obtain ⟨Z16, eZ16, hF⟩ := bv_some hF
  refine va_put (D := (dC, dI)) (ci := 5) (v := .int y15) (ty := .int) (C := RX3) (T := TX3) (N := 7) hx hb hts hinX3 tyX3 tyX3_ok nmX3 hown hK hP hD hS (39 + 24) (bw_at (i := 39 + 24) (by omega) (bk_stk h24 _ _)) rfl 0 (by decide) (hts (.fieldLink RX5 125 "BallotLoom$Stack" "district" "I") (by decide +kernel)) (fun _ h9 => h9) rfl (by decide +kernel) rfl rfl (Nat.le_of_ble_eq_true rfl) dX5_lie_52 (fun H locs hP hD hS => ?_)
  have eW := wz_o (q := q) (aa := aa) (i := (39 + 24)) (ci := 5) (fs := [.int y15, .int (Z10.1 (39 + 24) 1), .int (Z10.1 (39 + 24) 2), .int (Z10.1 (39 + 24) 3), .ref (aa (64 + 24)), .int (Z10.1 (39 + 24) 5), .double (Z10.2 (39 + 24) 6)]) (bk_stk h24 _ _) eZ16
  have hP : va_P (dC, dI) vwCl (bw q aa Z16) H := eW ▸ hP
  have hD : va_D A (bw q aa Z16) := eW ▸ hD
  clear eW
  refine lv_aload_n hx hb dX5_lie_55 rfl (lv_at hl 3 rfl) ?_
  refine va_get (D := (dC, dI)) (ci := 7) (v := .ref (aa 100)) (C := RX5) (T := TX5) (N := 5) hx hb hts hinX5 hown hK hP 0 (bw_at (i := 0) (by decide) rfl) rfl 4 (by decide) (hts (.fieldLink RX5 40 "BallotLoom" "spare" "LBallotLoom$Stack;") (by decide +kernel)) (fun _ h9 => h9) rfl dX5_lie_56 ?_
  rw [hsp]
  refine lv_aload_n hx hb dX5_lie_59 rfl (lv_at hl 2 rfl) ?_
  refine va_get (D := (dC, dI)) (ci := 5) (v := .int (Z16.1 (39 + (ix xa)) 2)) (C := RX3) (T := TX3) (N := 7) hx hb hts hinX3 hown hK hP (39 + (ix xa)) (bw_at (i := 39 + (ix xa)) (by omega) (bk_stk hk6 _ _)) rfl 2 (by decide) (hts (.fieldLink RX5 122 "BallotLoom$Stack" "count" "I") (by decide +kernel)) (fun _ h9 => h9) rfl dX5_lie_60 ?_
  refine lv_topi (fun y17 ey17 => ?_)
  have hF := bv_at ey17 hF
  obtain ⟨Z18, eZ18, hF⟩ := bv_some hF
  refine va_put (D := (dC, dI)) (ci := 5) (v := .int y17) (ty := .int) (C := RX3) (T := TX3) (N := 7) hx hb hts hinX3 tyX3 tyX3_ok nmX3 hown hK hP hD hS (39 + 24) (bw_at (i := 39 + 24) (by omega) (bk_stk h24 _ _)) rfl 2 (by decide) (hts (.fieldLink RX5 122 "BallotLoom$Stack" "count" "I") (by decide +kernel)) (fun _ h9 => h9) rfl (by decide +kernel) rfl rfl (Nat.le_of_ble_eq_true rfl) dX5_lie_63 (fun H locs hP hD hS => ?_)
  have eW := wz_o (q := q) (aa := aa) (i := (39 + 24)) (ci := 5) (fs := [.int (Z16.1 (39 + 24) 0), .int (Z16.1 (39 + 24) 1), .int y17, .int (Z16.1 (39 + 24) 3), .ref (aa (64 + 24)), .int (Z16.1 (39 + 24) 5), .double (Z16.2 (39 + 24) 6)]) (bk_stk h24 _ _) eZ18
  have hP : va_P (dC, dI) vwCl (bw q aa Z18) H := eW ▸ hP
  have hD : va_D A (bw q aa Z18) := eW ▸ hD
  clear eW
  refine lv_aload_n hx hb dX5_lie_66 rfl (lv_at hl 3 rfl) ?_
  refine va_get (D := (dC, dI)) (ci := 7) (v := .ref (aa 1)) (C := RX5) (T := TX5) (N := 5) hx hb hts hinX5 hown hK hP 0 (bw_at (i := 0) (by decide) rfl) rfl 0 (by decide) (hts (.fieldLink RX5 10 "BallotLoom" "box" "LBallotLoom$Box;") (by decide +kernel)) (fun _ h9 => h9) rfl dX5_lie_67 ?_
  refine va_get (D := (dC, dI)) (ci := 2) (v := .ref (aa 5)) (C := RX0) (T := TX0) (N := 11) hx hb hts hinX0 hown hK hP 1 (bw_at (i := 1) (by decide) rfl) rfl 6 (by decide) (hts (.fieldLink RX5 118 "BallotLoom$Box" "stacks" "[LBallotLoom$Stack;") (by decide +kernel)) (fun _ h9 => h9) rfl dX5_lie_70 ?_
  refine lv_iload_n hx hb dX5_lie_73 rfl (lv_at hl 4 rfl) ?_
  refine lv_aload_n hx hb dX5_lie_74 rfl (lv_at hl 3 rfl) ?_
  refine va_get (D := (dC, dI)) (ci := 7) (v := .ref (aa 100)) (C := RX5) (T := TX5) (N := 5) hx hb hts hinX5 hown hK hP 0 (bw_at (i := 0) (by decide) rfl) rfl 4 (by decide) (hts (.fieldLink RX5 40 "BallotLoom" "spare" "LBallotLoom$Stack;") (by decide +kernel)) (fun _ h9 => h9) rfl dX5_lie_75 ?_
  rw [hsp]
  have hk19 : (ix xa) < 24 := in_lt hg5 (Nat.le_refl _)
  have hk20 : (ix xa) < 25 := in_lt hg5 (by decide)
  obtain ⟨Z21, eZ21, hF⟩ := bv_some hF
  refine va_astq hx hb hK hP hD hS 5 3 (39 + 24) 5 (at_q (by decide) (fun _ _ => rfl)) rfl (bw_at (i := 39 + 24) (by omega) (bk_stk h24 _ _)) rfl hg5 dX5_lie_78 (fun H locs hP hD hS => ?_)
  have hP := b_swap hk19 rfl hP
  have hD := b_swapD hk19 rfl hD
  rw [← eZ21] at hP hD
  have hl : lv_has ls 8 [(5, .int rr14), (4, .int (-1)), (3, .ref ((sw (ix xa) aa) (39 + 24))), (0, .ref ((sw (ix xa) aa) 0)), (1, .int xa), (2, .int xb)] := by rw [sw_24 hk19, sw_lo hk19 (i := 0) (by decide)]; exact hl
  have hsp2 : (sw (ix xa) aa) 100 = (sw (ix xa) aa) (39 + (ix xa)) := by rw [sw_100 hk19, sw_k hk19]; exact hsp
  refine lv_iconst (v := 0) hx hb dX5_lie_79 (by decide) ?_
  refine lv_istore (lv' := [(6, .int 0), (5, .int rr14), (4, .int (-1)), (3, .ref ((sw (ix xa) aa) (39 + 24))), (0, .ref ((sw (ix xa) aa) 0)), (1, .int xa), (2, .int xb)]) hx hb dX5_lie_80 hl (by decide) rfl (fun ls hl => ?_)
  have Jx82 : ∀ (Z23 : Mem) (w22 : Int32) (H : Heap) (locs : List Loc) (ls : Array Slot), (F_X5_lie_x82 xa) Z23 w22 = some (Zo, ro) → va_P (dC, dI) vwCl (bw q (sw (ix xa) aa) Z23) H → va_D A (bw q (sw (ix xa) aa) Z23) → va_S A s.heap H locs → lv_has ls 8 [(4, .int w22), (3, .ref ((sw (ix xa) aa) (39 + 24))), (0, .ref ((sw (ix xa) aa) 0)), (1, .int xa)] → W p l e (headSpec wsX5_lie ({ frames := 7, cells := 0, slots := 0, locals := 161 } : Room)).room s m args below meth c H locs 0 0 Q (F0 m 149 ls []) := by
    intro Z23 w22 H locs ls hF hP hD hS hl
    unfold F_X5_lie_x82 at hF
    refine lv_aload_n hx hb dX5_lie_149 rfl (lv_at hl 2 rfl) ?_
    refine va_get (D := (dC, dI)) (ci := 7) (v := .ref ((sw (ix xa) aa) 1)) (C := RX5) (T := TX5) (N := 5) hx hb hts hinX5 hown hK hP 0 (bw_at (i := 0) (by decide) rfl) rfl 0 (by decide) (hts (.fieldLink RX5 10 "BallotLoom" "box" "LBallotLoom$Box;") (by decide +kernel)) (fun _ h9 => h9) rfl dX5_lie_150 ?_
    refine va_get (D := (dC, dI)) (ci := 2) (v := .ref ((sw (ix xa) aa) 5)) (C := RX0) (T := TX0) (N := 11) hx hb hts hinX0 hown hK hP 1 (bw_at (i := 1) (by decide) rfl) rfl 6 (by decide) (hts (.fieldLink RX5 118 "BallotLoom$Box" "stacks" "[LBallotLoom$Stack;") (by decide +kernel)) (fun _ h9 => h9) rfl dX5_lie_153 ?_
    refine lv_iload_n hx hb dX5_lie_156 rfl (lv_at hl 3 rfl) ?_
    refine lv_aload_n hx hb dX5_lie_157 rfl (lv_at hl 1 rfl) ?_
    have hk24 : (ix xa) < 24 := in_lt hg5 (Nat.le_refl _)
    have hk25 : (ix xa) < 25 := in_lt hg5 (by decide)
    obtain ⟨Z26, eZ26, hF⟩ := bv_some hF
    refine va_astq hx hb hK hP hD hS 5 3 (39 + 24) 5 (at_q (by decide) (fun _ _ => rfl)) rfl (bw_at (i := 39 + 24) (by omega) (bk_stk h24 _ _)) rfl hg5 dX5_lie_158 (fun H locs hP hD hS => ?_)
    have hP := b_swap hk24 rfl hP
    have hD := b_swapD hk24 rfl hD
    rw [← eZ26, sw_sw hk24] at hP hD
    have hl : lv_has ls 8 [(4, .int w22), (3, .ref (aa (39 + (ix xa)))), (0, .ref (aa 0)), (1, .int xa)] := by rw [← sw_24 hk24 (aa := aa), ← sw_lo hk24 (aa := aa) (i := 0) (by decide)]; exact hl
    refine lv_iload hx hb dX5_lie_159 (lv_at hl 0 rfl) ?_
    obtain ⟨e8, e9⟩ := some2 hF
    rw [← e8] at hP hD
    subst hQ
    exact W.iret (v := w22) hx hb hr (fun t ht hW => ⟨⟨w22, (), rfl, e9.symm, po_mk ht hW hP hK hD⟩, hS.F ht⟩) hS.2.2 dX5_lie_161
  have L82 : ∀ (n82 : Nat) (Z30 : Mem) (u27 : Int32) (u28 : Int32) (u29 : Int32) (H : Heap) (locs : List Loc) (ls : Array Slot), F_X5_lie_l82 xa xb (F_X5_lie_x82 xa) n82 Z30 u27 u28 u29 = some (Zo, ro) → va_P (dC, dI) vwCl (bw q (sw (ix xa) aa) Z30) H → va_D A (bw q (sw (ix xa) aa) Z30) → va_S A s.heap H locs → lv_has ls 8 [(6, .int u29), (5, .int u28), (4, .int u27), (3, .ref ((sw (ix xa) aa) (39 + 24))), (0, .ref ((sw (ix xa) aa) 0)), (1, .int xa), (2, .int xb)] → W p l e (headSpec wsX5_lie ({ frames := 7, cells := 0, slots := 0, locals := 161 } : Room)).room s m args below meth c H locs 0 0 Q (F0 m 82 ls []) := by
    intro n82
    induction n82 with
    | zero =>
      intro Z30 u27 u28 u29 H locs ls hF
      rw [F_X5_lie_l82] at hF
      cases hF
    | succ n82 IH82 =>
      intro Z30 u27 u28 u29 H locs ls hF hP hD hS hl
      rw [F_X5_lie_l82] at hF
      refine lv_iload hx hb dX5_lie_82 (lv_at hl 0 rfl) ?_
      refine lv_aload_n hx hb dX5_lie_84 rfl (lv_at hl 3 rfl) ?_
      refine va_get (D := (dC, dI)) (ci := 5) (v := .int (Z30.1 (39 + 24) 5)) (C := RX3) (T := TX3) (N := 7) hx hb hts hinX3 hown hK hP (39 + 24) (bw_at (i := 39 + 24) (by omega) (bk_stk h24 _ _)) rfl 5 (by decide) (hts (.fieldLink RX5 258 "BallotLoom$Stack" "length" "I") (by decide +kernel)) (fun _ h9 => h9) rfl dX5_lie_85 ?_
      refine lv_topi (fun y31 ey31 => ?_)
      have hF := bv_at ey31 hF
      refine lv_icmp_ge (tgt := 149) hx hb dX5_lie_88 (by decide) (fun hc32 => ?_) (fun hc32 => ?_)
      · have hF := br_pos hc32 hF
        exact Jx82 Z30 u27 _ _ _ hF hP hD hS (lv_sub hl [2, 3, 4, 5] rfl)
      · have hF := br_neg hc32 hF
        refine lv_aload_n hx hb dX5_lie_91 rfl (lv_at hl 4 rfl) ?_
        refine va_get (D := (dC, dI)) (ci := 7) (v := .ref ((sw (ix xa) aa) 100)) (C := RX5) (T := TX5) (N := 5) hx hb hts hinX5 hown hK hP 0 (bw_at (i := 0) (by decide) rfl) rfl 4 (by decide) (hts (.fieldLink RX5 40 "BallotLoom" "spare" "LBallotLoom$Stack;") (by decide +kernel)) (fun _ h9 => h9) rfl dX5_lie_92 ?_
        rw [hsp2]
        refine lv_aload_n hx hb dX5_lie_95 rfl (lv_at hl 3 rfl) ?_
        refine lv_iload hx hb dX5_lie_96 (lv_at hl 0 rfl) ?_
        obtain ⟨Z34, _, hC33, hF⟩ := cal_some hF
        have hFc := b_free (ws := bw q (sw (ix xa) aa) Z30) hD hS hA
        refine va_callv (va_runV (As := [.ref ((sw (ix xa) aa) (39 + 24)), .int u29]) (rest := []) ⟨hx, hb, hml, hown, hts⟩ (c_X3_setListWithFirst l dC dI q (sw (ix xa) aa) Z30 (ix xa) 24 u29 hk20 h24 _ _ _  hC33) (cwV 2 hts gX5_lie_X3_setListWithFirst rfl rfl rfl (by decide +kernel) ⟨Nat.le_of_ble_eq_true rfl, Nat.le_of_ble_eq_true rfl⟩) ⟨pr_blind, va_recv hK hP (ci := 5) (q0 := (39 + (ix xa))) rfl (bw_at (i := 39 + (ix xa)) (by omega) (bk_stk hk20 _ _)), fun U hU hW => ⟨rfl, pr_mk hU hW hP hK hD⟩⟩ rfl rfl hl.1 rfl (lv_room (Nat.le_of_ble_eq_true rfl)) dX5_lie_98 ⟨Nat.le_of_ble_eq_true rfl, Nat.le_of_ble_eq_true rfl⟩) hS (fun x _ h => hFc x h) hFc (fun u t H1 locs ht hvm hw hB hz1 hk1 hS => ?_)
        obtain ⟨hP, hK1, hD1⟩ := hB
        rw [ht] at hP
        have hD := hD1.weaken (fun _ q9 _ h9 => hFc q9.1 h9)
        clear hFc hD1 hK1 hvm hz1 hk1
        generalize H1 = H at hP hS ⊢
        refine W.widen (k := 0) (n := 0) (Nat.le_refl _) (Nat.le_refl _) ?_
        refine lv_aload_n hx hb dX5_lie_101 rfl (lv_at hl 3 rfl) ?_
        refine lv_aload_n hx hb dX5_lie_102 rfl (lv_at hl 4 rfl) ?_
        refine va_get (D := (dC, dI)) (ci := 7) (v := .ref ((sw (ix xa) aa) 6)) (C := RX5) (T := TX5) (N := 5) hx hb hts hinX5 hown hK hP 0 (bw_at (i := 0) (by decide) rfl) rfl 1 (by decide) (hts (.fieldLink RX5 19 "BallotLoom" "poll" "LBallotLoom$Poll;") (by decide +kernel)) (fun _ h9 => h9) rfl dX5_lie_103 ?_
        refine lv_aload_n hx hb dX5_lie_106 rfl (lv_at hl 4 rfl) ?_
        refine va_get (D := (dC, dI)) (ci := 7) (v := .ref ((sw (ix xa) aa) 1)) (C := RX5) (T := TX5) (N := 5) hx hb hts hinX5 hown hK hP 0 (bw_at (i := 0) (by decide) rfl) rfl 0 (by decide) (hts (.fieldLink RX5 10 "BallotLoom" "box" "LBallotLoom$Box;") (by decide +kernel)) (fun _ h9 => h9) rfl dX5_lie_107 ?_
        refine lv_aload_n hx hb dX5_lie_110 rfl (lv_at hl 3 rfl) ?_
        refine va_get (D := (dC, dI)) (ci := 5) (v := .int (Z34.1 (39 + 24) 0)) (C := RX3) (T := TX3) (N := 7) hx hb hts hinX3 hown hK hP (39 + 24) (bw_at (i := 39 + 24) (by omega) (bk_stk h24 _ _)) rfl 0 (by decide) (hts (.fieldLink RX5 125 "BallotLoom$Stack" "district" "I") (by decide +kernel)) (fun _ h9 => h9) rfl dX5_lie_111 ?_
        refine lv_topi (fun y36 ey36 => ?_)
        have hF := bv_at ey36 hF
        refine lv_iload_n hx hb dX5_lie_114 rfl (lv_at hl 6 rfl) ?_
        obtain ⟨Z39, r38, hC37, hF⟩ := cal_some hF
        have hFc := b_free (ws := bw q (sw (ix xa) aa) Z34) hD hS hA
        refine va_calli (va_runV (As := [.ref ((sw (ix xa) aa) 1), .int y36, .int xb]) (rest := [.ref ((sw (ix xa) aa) (39 + 24))]) ⟨hx, hb, hml, hown, hts⟩ (c_X2_winnerBy l dC dI q (sw (ix xa) aa) Z34 y36 xb  _ _ _  hC37) (cwV 3 hts gX5_lie_X2_winnerBy rfl rfl rfl (by decide +kernel) ⟨Nat.le_of_ble_eq_true rfl, Nat.le_of_ble_eq_true rfl⟩) ⟨pr_blind, va_recv hK hP (ci := 4) (q0 := 6) rfl (bw_at (i := 6) (by decide) rfl), fun U hU hW => ⟨rfl, pr_mk hU hW hP hK hD⟩⟩ rfl rfl hl.1 rfl (lv_room (Nat.le_of_ble_eq_true rfl)) dX5_lie_115 ⟨Nat.le_of_ble_eq_true rfl, Nat.le_of_ble_eq_true rfl⟩) hS (fun x _ h => hFc x h) hFc (fun rr40 u t H1 locs ht hvm hw hB hz1 hk1 hS => ?_)
        obtain ⟨hP, hK1, hD1⟩ := hB
        rw [ht] at hP
        have hD := hD1.weaken (fun _ q9 _ h9 => hFc q9.1 h9)
        clear hFc hD1 hK1 hvm hz1 hk1
        generalize H1 = H at hP hS ⊢
        refine W.widen (k := 0) (n := 0) (Nat.le_refl _) (Nat.le_refl _) ?_
        obtain rfl : rr40 = r38 := hw
        obtain ⟨r42, hC41, hF⟩ := calp_some hF
        have hFc := b_free (ws := bw q (sw (ix xa) aa) Z39) hD hS hA
        refine va_calli (va_runV (As := [.int rr40]) (rest := []) ⟨hx, hb, hml, hown, hts⟩ (c_X3_placeOf l dC dI q (sw (ix xa) aa) Z39 24 rr40 h24 _ _  hC41) (cwV 1 hts gX5_lie_X3_placeOf rfl rfl rfl (by decide +kernel) ⟨Nat.le_of_ble_eq_true rfl, Nat.le_of_ble_eq_true rfl⟩) ⟨pr_blind, va_recv hK hP (ci := 5) (q0 := (39 + 24)) rfl (bw_at (i := 39 + 24) (by omega) (bk_stk h24 _ _)), fun U hU hW => ⟨rfl, pr_mk hU hW hP hK hD⟩⟩ rfl rfl hl.1 rfl (lv_room (Nat.le_of_ble_eq_true rfl)) dX5_lie_118 ⟨Nat.le_of_ble_eq_true rfl, Nat.le_of_ble_eq_true rfl⟩) hS (fun x _ h => hFc x h) hFc (fun rr43 u t H1 locs ht hvm hw hB hz1 hk1 hS => ?_)
        obtain ⟨hP, hK1, hD1⟩ := hB
        rw [ht] at hP
        have hD := hD1.weaken (fun _ q9 _ h9 => hFc q9.1 h9)
        clear hFc hD1 hK1 hvm hz1 hk1
        generalize H1 = H at hP hS ⊢
        refine W.widen (k := 0) (n := 0) (Nat.le_refl _) (Nat.le_refl _) ?_
        obtain rfl : rr43 = r42 := hw
        refine lv_istore (lv' := [(7, .int rr43), (6, .int u29), (5, .int u28), (4, .int u27), (3, .ref ((sw (ix xa) aa) (39 + 24))), (0, .ref ((sw (ix xa) aa) 0)), (1, .int xa), (2, .int xb)]) hx hb dX5_lie_121 hl (by decide) rfl (fun ls hl => ?_)
        refine lv_iload hx hb dX5_lie_123 (lv_at hl 0 rfl) ?_
        refine lv_iload hx hb dX5_lie_125 (lv_at hl 2 rfl) ?_
        refine lv_icmp_ge (tgt := 143) hx hb dX5_lie_127 (by decide) (fun hc44 => ?_) (fun hc44 => ?_)
        · have hF := br_pos hc44 hF
          refine lv_iinc (k := 1) (v := (u29 + (1 : Int32))) (lv' := [(6, .int (u29 + (1 : Int32))), (7, .int rr43), (5, .int u28), (4, .int u27), (3, .ref ((sw (ix xa) aa) (39 + 24))), (0, .ref ((sw (ix xa) aa) 0)), (1, .int xa), (2, .int xb)]) hx hb dX5_lie_143 hl rfl (ii_ _ _ _ (by decide)) (by decide) rfl (fun ls hl => ?_)
          refine lv_goto (tgt := 82) hx hb dX5_lie_146 (by decide) ?_
          exact IH82 Z39 u27 u28 (u29 + (1 : Int32)) _ _ _ hF hP hD hS (lv_sub hl [0, 2, 3, 4, 5, 6, 7] rfl)
        · have hF := br_neg hc44 hF
          refine lv_aload_n hx hb dX5_lie_130 rfl (lv_at hl 4 rfl) ?_
          refine va_get (D := (dC, dI)) (ci := 5) (v := .ref ((sw (ix xa) aa) (64 + 24))) (C := RX3) (T := TX3) (N := 7) hx hb hts hinX3 hown hK hP (39 + 24) (bw_at (i := 39 + 24) (by omega) (bk_stk h24 _ _)) rfl 4 (by decide) (hts (.fieldLink RX5 265 "BallotLoom$Stack" "list" "[I") (by decide +kernel)) (fun _ h9 => h9) rfl dX5_lie_131 ?_
          refine lv_iload hx hb dX5_lie_134 (lv_at hl 1 rfl) ?_
          obtain ⟨hg45, hF⟩ := gd_some hF
          refine va_iald hx hb hK hP (64 + 24) 0 (at_i (by omega) (bk_lst h24)) rfl hg45 dX5_lie_136 ?_
          refine lv_topi (fun y46 ey46 => ?_)
          have hF := bv_at ey46 hF
          refine lv_istore (lv' := [(4, .int y46), (7, .int rr43), (6, .int u29), (5, .int u28), (3, .ref ((sw (ix xa) aa) (39 + 24))), (0, .ref ((sw (ix xa) aa) 0)), (1, .int xa), (2, .int xb)]) hx hb dX5_lie_137 hl (by decide) rfl (fun ls hl => ?_)
          refine lv_iload hx hb dX5_lie_139 (lv_at hl 1 rfl) ?_
          refine lv_istore (lv' := [(5, .int rr43), (4, .int y46), (7, .int rr43), (6, .int u29), (3, .ref ((sw (ix xa) aa) (39 + 24))), (0, .ref ((sw (ix xa) aa) 0)), (1, .int xa), (2, .int xb)]) hx hb dX5_lie_141 hl (by decide) rfl (fun ls hl => ?_)
          refine lv_iinc (k := 3) (v := (u29 + (1 : Int32))) (lv' := [(6, .int (u29 + (1 : Int32))), (5, .int rr43), (4, .int y46), (7, .int rr43), (3, .ref ((sw (ix xa) aa) (39 + 24))), (0, .ref ((sw (ix xa) aa) 0)), (1, .int xa), (2, .int xb)]) hx hb dX5_lie_143 hl rfl (ii_ _ _ _ (by decide)) (by decide) rfl (fun ls hl => ?_)
          refine lv_goto (tgt := 82) hx hb dX5_lie_146 (by decide) ?_
          exact IH82 Z39 y46 rr43 (u29 + (1 : Int32)) _ _ _ hF hP hD hS (lv_sub hl [0, 1, 2, 4, 5, 6, 7] rfl)
  exact L82 100 Z21 ((-1) : Int32) rr14 (0 : Int32) _ _ _ hF hP hD hS (lv_sub hl [0, 1, 2, 3, 4, 5, 6] rfl)
