/-! p31: candidates, districts, stacks. -/

noncomputable def F_X6_candidate (L : Nat) (xs : Nat → Int32) (Y : TS) : Option (TS × Int32) :=
  bv (nI (Y.1.1 1)) fun y1 => br (y1 ≤ (5 : Int32)) (calt (F_X6_draw L xs Y (4 : Int32)) fun Y5 ra6 => gd (Y5.1.1 1 ≤ 24) <| bv (tgr Y5 1 ra6) fun Y9 => cal (F_X5_candidate Y9.2 ra6) fun z13 ra15 => bv (tz Y9 z13) fun Y14 => bv (nI (Y14.1.1 1)) fun y16 => bv (y16 - (1 : Int32)) fun y17 => br (ra15 = y17) (some (Y14, (1 : Int32))) (some (Y14, (0 : Int32)))) (some (Y, (1 : Int32)))

set_option maxHeartbeats 4000000 in
set_option maxRecDepth 100000 in
theorem c_X6_candidate (l : Launch) (dC : Nat → ClassId) (dI : Nat → Nat → Nat) (q : Nat → ClassId) (ta aa : Nat → Nat) (sa : Nat) (L : Nat) (xs : Nat → Int32) (Y : TS)  (sz : Nat)  (Yo : TS) (ro : Int32) (hF : F_X6_candidate L xs Y = some (Yo, ro)) : Met l yX6_candidate wsX6_candidate ({ frames := 4, cells := 1, slots := 25, locals := 83 }) (va_Pc [.ref (ta 0)] (fun U => pr_ dC dI (ww q ta aa sa Y) (bty q) sz U ∧ tx_ (va_A (ww q ta aa sa Y) sz) sa L xs U)) (va_Qi (fun (r : Int32) (_ : (Nat → Nat)) => r = ro) (fun (u : Nat → Nat) t => u 0 = ta 0 ∧ po_ dC dI (ww q u aa sa Yo) (bty q) (va_A (ww q ta aa sa Y) sz) t) (va_A (ww q ta aa sa Y) sz)) 1 25 (va_A (ww q ta aa sa Y) sz) := by
  refine Met.ofW (cc := cX6_candidate) (maxL := 2) (ret := (some .boolean)) (by decide) rfl ?_
  intro p e s m args below meth c s₁ B hml hv
  obtain ⟨hargs, ⟨hsz, hP, hK, hD0⟩, hXs⟩ := hv
  have hx := B.exec
  have hb := B.bytes
  have hr := B.returns
  have hts := atoms_spec (ws := wsX6_candidate) B.pre
  have hown : s.vm.findClass RX6 = some m.cls := findClass_of_methodNamed B.named
  have hlocks := B.notSynchronized
  subst hsz
  have hD := hD0.self (sz := s.heap.size)
  generalize hAe : va_A (ww q ta aa sa Y) s.heap.size = A at hD hXs ⊢
  have hA : ∀ x : Nat, s.heap.size ≤ x → A x := fun x h => by rw [← hAe]; exact Or.inr h
  have hS : va_S A s.heap s.heap [] := va_S.rf
  have hinX6 : ∀ w ∈ u_ws RX6 TX6 9, w ∈ wsX6_candidate := by decide +kernel
  have hl := lv_entry ([.ref (ta 0)]) (n := 2) (Nat.le_of_ble_eq_true rfl)
  refine w_ent hargs ?_
  rw [lg_entry_eq]
  generalize (lg_sl ([.ref (ta 0)]) ++ List.replicate (2 - (lg_sl ([.ref (ta 0)])).length) Slot.unset).toArray = ls at hl ⊢
  have hl : lv_has ls 2 [(0, .ref (ta 0))] := hl
  unfold F_X6_candidate at hF
  refine w_go (fun Q hQ => ?_)
  refine lv_aload_n hx hb dX6_candidate_0 rfl (lv_at hl 0 rfl) ?_
  refine va_get (D := (dC, dI)) (ci := 8) (v := .ref (ta 1)) (C := RX6) (T := TX6) (N := 9) hx hb hts hinX6 hown hK hP 0 ww_0 rfl 3 (by decide) (hts (.fieldLink RX6 16 "BallotLoomLaw$Told" "parties" "[I") (by decide +kernel)) (fun _ h9 => h9) rfl dX6_candidate_1 ?_
  refine va_alen (v := nI (Y.1.1 1)) hx hb hK hP 1 0 ww_1 rfl rfl dX6_candidate_4 ?_
  refine lv_topi (fun y1 ey1 => ?_)
  have hF := bv_at ey1 hF
  refine lv_iconst (v := 5) hx hb dX6_candidate_5 (by decide) ?_
  refine lv_icmp_le (tgt := 11) hx hb dX6_candidate_6 (by decide) (fun hc2 => ?_) (fun hc2 => ?_)
  · have hF := br_pos hc2 hF
    refine lv_aload_n hx hb dX6_candidate_11 rfl (lv_at hl 0 rfl) ?_
    refine lv_iconst (v := 4) hx hb dX6_candidate_12 (by decide) ?_
    obtain ⟨Y5, rr4, hC3, hF⟩ := calt_some hF
    have hFc := b_free (ws := ww q ta aa sa Y) hD hS hA
    refine va_calli (va_runV (As := [.int 4]) (rest := []) ⟨hx, hb, hml, hown, hts⟩ (c_X6_draw l dC dI q ta aa sa L xs Y (4 : Int32) _  _ _ hC3) (cwV 1 hts gX6_candidate_X6_draw rfl rfl rfl (by decide +kernel) ⟨Nat.le_of_ble_eq_true rfl, Nat.le_of_ble_eq_true rfl⟩) ⟨pe_blind (sx_bl _ _ _ _), va_recv hK hP (ci := 8) (q0 := 0) rfl ww_0, fun U hU hW => ⟨rfl, pr_mk hU hW hP hK hD, sx_mk hU hW hS hFc hXs.1⟩⟩ rfl rfl hl.1 rfl (lv_room (Nat.le_of_ble_eq_true rfl)) dX6_candidate_13 ⟨Nat.le_of_ble_eq_true rfl, Nat.le_of_ble_eq_true rfl⟩) hS (fun x _ h => hFc x h) hFc (fun ra6 u t H1 locs ht hvm hw hB hz1 hk1 hS => ?_)
    obtain ⟨hP, hK1, hD1⟩ := hB
    rw [ht] at hP
    have hD := hD1.weaken (fun _ q9 _ h9 => hFc q9.1 h9)
    generalize H1 = H at hP hS ⊢
    refine W.widen (k := 0) (n := 0) (Nat.le_refl _) (Nat.le_refl _) ?_
    obtain rfl : ra6 = rr4 := hw
    refine lv_istore_n (lv' := [(1, .int ra6), (0, .ref (ta 0))]) hx hb dX6_candidate_16 rfl hl (by decide) rfl (fun ls hl => ?_)
    refine lv_aload_n hx hb dX6_candidate_17 rfl (lv_at hl 1 rfl) ?_
    refine lv_aload_n hx hb dX6_candidate_18 rfl (lv_at hl 1 rfl) ?_
    refine va_get (D := (dC, dI)) (ci := 8) (v := .ref (ta 1)) (C := RX6) (T := TX6) (N := 9) hx hb hts hinX6 hown hK hP 0 ww_0 rfl 3 (by decide) (hts (.fieldLink RX6 16 "BallotLoomLaw$Told" "parties" "[I") (by decide +kernel)) (fun _ h9 => h9) rfl dX6_candidate_19 ?_
    refine lv_iload_n hx hb dX6_candidate_22 rfl (lv_at hl 0 rfl) ?_
    obtain ⟨hg8, hF⟩ := gd_some hF
    have hPc := one_P hP ww_1
    have hDc := one_D hD ww_1
    have hKc : va_K (dC, dI) vwCl [(q 0, .int)] s := hK.sub [0] rfl
    have hFc := b_free (ws := [(ta 1, .inl (q 0, Y5.1.1 1, .inl (Y5.1.2 1)))]) hDc hS hA
    refine va_callr (va_runS (As := [.ref (ta 1), .int ra6]) (rest := [.ref (ta 0)]) ⟨hx, hb, hml, hown, hts⟩ (c_X6_plus l dC dI (ta 1) (q 0) (Y5.1.1 1) (Y5.1.2 1) ra6 _ hg8) (va_cwS 2 hts gX6_candidate_X6_plus rfl rfl rfl (by decide +kernel) ⟨Nat.le_of_ble_eq_true rfl, Nat.le_of_ble_eq_true rfl⟩) ⟨pr_blind, fun U hU hW => ⟨rfl, pr_mk hU hW hPc hKc hDc⟩⟩ rfl rfl hl.1 rfl (lv_room (Nat.le_of_ble_eq_true rfl)) dX6_candidate_23 ⟨Nat.le_of_ble_eq_true rfl, Nat.le_of_ble_eq_true rfl⟩) hS (fun x _ h => hFc x h) hFc (fun b7 RES t H1 locs ht hvm hw hB hz1 hk1 hS => ?_)
    obtain ⟨hR, hP1, hK1, hD1⟩ := hB
    rw [hR]
    rw [ht] at hP1
    have hb1 := new_b hD1
    obtain ⟨hP, hD⟩ := grow_J (C := [(ta 1, .inl (q 0, Y5.1.1 1, .inl (Y5.1.2 1)))]) (b := b7) (e := .inl (q 0, Y5.1.1 1 + 1, .inl (gro (Y5.1.2 1) (Y5.1.1 1) ra6))) hP hD (one_C ww_1) hk1 hFc (hP1.sub [0] rfl) (hP1.sub [1] rfl) hb1 (hFc _ (Or.inr hb1))
    generalize H1 = H at hP hS ⊢
    refine W.widen (k := 1) (n := 25) (Nat.le_refl _) (Nat.le_refl _) ?_
    obtain ⟨Y9, eY9, hF⟩ := bv_some hF
    refine va_put (D := (dC, dI)) (ci := 8) (v := .ref b7) (ty := (.array .int)) (C := RX6) (T := TX6) (N := 9) hx hb hts hinX6 tyX6 tyX6_ok nmX6 hown hK hP hD hS 0 ww_0a rfl 3 (by decide) (hts (.fieldLink RX6 16 "BallotLoomLaw$Told" "parties" "[I") (by decide +kernel)) (fun _ h9 => h9) rfl (by decide +kernel) rfl rfl (Nat.le_of_ble_eq_true rfl) dX6_candidate_26 (fun H locs hP hD hS => ?_)
    have hP := gr_P (Or.inl ⟨rfl, rfl⟩) hP
    have hD := gr_D (Or.inl ⟨rfl, rfl⟩) hD
    obtain ⟨ta10, eta10⟩ : ∃ x : Nat → Nat, x = nt ta 1 b7 := ⟨_, rfl⟩
    rw [← eta10, ← eY9] at hP hD
    have hu0 : ta10 0 = ta 0 := by rw [eta10]; exact rfl
    have et_ta10 : ta10 0 = ta 0 := hu0.trans (rfl)
    have hl := lv_sub hl [0, 1] (show _ = [(1, .int ra6), (0, .ref (ta 0))] from rfl)
    have hl : lv_has ls 2 [(1, .int ra6), (0, .ref (ta10 0))] := by rw [hu0]; exact hl
    refine lv_aload_n hx hb dX6_candidate_29 rfl (lv_at hl 1 rfl) ?_
    refine va_get (D := (dC, dI)) (ci := 8) (v := .ref (aa 0)) (C := RX6) (T := TX6) (N := 9) hx hb hts hinX6 hown hK hP 0 ww_0 rfl 0 (by decide) (hts (.fieldLink RX6 10 "BallotLoomLaw$Told" "m" "LBallotLoom;") (by decide +kernel)) (fun _ h9 => h9) rfl dX6_candidate_30 ?_
    refine lv_iload_n hx hb dX6_candidate_33 rfl (lv_at hl 0 rfl) ?_
    obtain ⟨z13, rr12, hC11, hF⟩ := cal_some hF
    obtain ⟨Y14, eY14, hF⟩ := bv_some hF
    have hPc := sf_P hP
    have hDc := sf_D hD
    have hFc := b_free (ws := bw q aa Y9.2) hDc hS hA
    refine va_calli (va_runV (As := [.int ra6]) (rest := []) ⟨hx, hb, hml, hown, hts⟩ (c_X5_candidate l dC dI q aa Y9.2 ra6 _ _ _ hC11) (cwV 1 hts gX6_candidate_X5_candidate rfl rfl rfl (by decide +kernel) ⟨Nat.le_of_ble_eq_true rfl, Nat.le_of_ble_eq_true rfl⟩) ⟨pr_blind, va_recv hK hPc (ci := 7) (q0 := 0) rfl (bw_at (i := 0) (by decide) rfl), fun U hU hW => ⟨rfl, pr_mk hU hW hPc hK hDc⟩⟩ rfl rfl hl.1 rfl (lv_room (Nat.le_of_ble_eq_true rfl)) dX6_candidate_34 ⟨Nat.le_of_ble_eq_true rfl, Nat.le_of_ble_eq_true rfl⟩) hS (fun x _ h => hFc x h) hFc (fun ra15 u t H1 locs ht hvm hw hB hz1 hk1 hS => ?_)
    obtain ⟨hP1, hK1, hD1⟩ := hB
    rw [ht] at hP1
    obtain ⟨hP, hD⟩ := sf_J hP hD hk1 hFc hP1 hD1
    have eW : twl q ta10 (aa 0) sa Y9.1 ++ bw q aa z13 = ww q ta10 aa sa Y14 := by rw [eY14]; rfl
    rw [eW] at hP hD
    clear eW
    generalize H1 = H at hP hS ⊢
    refine W.widen (k := 1) (n := 25) (Nat.le_refl _) (Nat.le_refl _) ?_
    obtain rfl : ra15 = rr12 := hw
    refine lv_aload_n hx hb dX6_candidate_37 rfl (lv_at hl 1 rfl) ?_
    refine va_get (D := (dC, dI)) (ci := 8) (v := .ref (ta10 1)) (C := RX6) (T := TX6) (N := 9) hx hb hts hinX6 hown hK hP 0 ww_0 rfl 3 (by decide) (hts (.fieldLink RX6 16 "BallotLoomLaw$Told" "parties" "[I") (by decide +kernel)) (fun _ h9 => h9) rfl dX6_candidate_38 ?_
    refine va_alen (v := nI (Y14.1.1 1)) hx hb hK hP 1 0 ww_1 rfl rfl dX6_candidate_41 ?_
    refine lv_topi (fun y16 ey16 => ?_)
    have hF := bv_at ey16 hF
    refine lv_iconst (v := 1) hx hb dX6_candidate_42 (by decide) ?_
    refine lv_isub hx hb dX6_candidate_43 ?_
    refine lv_topi (fun y17 ey17 => ?_)
    have hF := bv_at ey17 hF
    refine lv_icmp_ne (tgt := 51) hx hb dX6_candidate_44 (by decide) (fun hc18 => ?_) (fun hc18 => ?_)
    · have hF := br_neg hc18 hF
      refine lv_iconst (v := 0) hx hb dX6_candidate_51 (by decide) ?_
      obtain ⟨e8, e9⟩ := some2t hF
      rw [← e8] at hP hD
      subst hQ
      refine W.widen (k := 1) (n := 25) (Nat.le_of_ble_eq_true rfl) (Nat.le_of_ble_eq_true rfl) ?_
      exact W.zret (v := 0) hx hb hr rfl (fun t ht hW => ⟨⟨0, ta10, rfl, e9.symm, et_ta10, po_mk ht hW hP hK hD⟩, hS.F ht⟩) hS.2.2 dX6_candidate_52
    · have hF := br_pos hc18 hF
      refine lv_iconst (v := 1) hx hb dX6_candidate_47 (by decide) ?_
      refine lv_goto (tgt := 52) hx hb dX6_candidate_48 (by decide) ?_
      obtain ⟨e8, e9⟩ := some2t hF
      rw [← e8] at hP hD
      subst hQ
      refine W.widen (k := 1) (n := 25) (Nat.le_of_ble_eq_true rfl) (Nat.le_of_ble_eq_true rfl) ?_
      exact W.zret (v := 1) hx hb hr rfl (fun t ht hW => ⟨⟨1, ta10, rfl, e9.symm, et_ta10, po_mk ht hW hP hK hD⟩, hS.F ht⟩) hS.2.2 dX6_candidate_52
  · have hF := br_neg hc2 hF
    refine lv_iconst (v := 1) hx hb dX6_candidate_9 (by decide) ?_
    obtain ⟨e8, e9⟩ := some2t hF
    rw [← e8] at hP hD
    subst hQ
    refine W.widen (k := 1) (n := 25) (Nat.le_of_ble_eq_true rfl) (Nat.le_of_ble_eq_true rfl) ?_
    exact W.zret (v := 1) hx hb hr rfl (fun t ht hW => ⟨⟨1, ta, rfl, e9.symm, rfl, po_mk ht hW hP hK hD⟩, hS.F ht⟩) hS.2.2 dX6_candidate_10

noncomputable def F_X6_district (L : Nat) (xs : Nat → Int32) (Y : TS) : Option (TS × Int32) :=
  calt (F_X6_draw L xs Y (5 : Int32)) fun Y3 ra4 => bv ((1 : Int32) + ra4) fun y5 => gd (Y3.1.1 3 ≤ 24) <| bv (tgr Y3 3 y5) fun Y8 => cal (F_X5_district Y8.2 y5) fun z12 ra14 => bv (tz Y8 z12) fun Y13 => bv (nI (Y13.1.1 3)) fun y15 => bv (y15 - (1 : Int32)) fun y16 => br (ra14 = y16) (some (Y13, (1 : Int32))) (some (Y13, (0 : Int32)))

set_option maxHeartbeats 4000000 in
set_option maxRecDepth 100000 in
theorem c_X6_district (l : Launch) (dC : Nat → ClassId) (dI : Nat → Nat → Nat) (q : Nat → ClassId) (ta aa : Nat → Nat) (sa : Nat) (L : Nat) (xs : Nat → Int32) (Y : TS)  (sz : Nat)  (Yo : TS) (ro : Int32) (hF : F_X6_district L xs Y = some (Yo, ro)) : Met l yX6_district wsX6_district ({ frames := 4, cells := 1, slots := 25, locals := 83 }) (va_Pc [.ref (ta 0)] (fun U => pr_ dC dI (ww q ta aa sa Y) (bty q) sz U ∧ tx_ (va_A (ww q ta aa sa Y) sz) sa L xs U)) (va_Qi (fun (r : Int32) (_ : (Nat → Nat)) => r = ro) (fun (u : Nat → Nat) t => u 0 = ta 0 ∧ po_ dC dI (ww q u aa sa Yo) (bty q) (va_A (ww q ta aa sa Y) sz) t) (va_A (ww q ta aa sa Y) sz)) 1 25 (va_A (ww q ta aa sa Y) sz) := by
  refine Met.ofW (cc := cX6_district) (maxL := 2) (ret := (some .boolean)) (by decide) rfl ?_
  intro p e s m args below meth c s₁ B hml hv
  obtain ⟨hargs, ⟨hsz, hP, hK, hD0⟩, hXs⟩ := hv
  have hx := B.exec
  have hb := B.bytes
  have hr := B.returns
  have hts := atoms_spec (ws := wsX6_district) B.pre
  have hown : s.vm.findClass RX6 = some m.cls := findClass_of_methodNamed B.named
  have hlocks := B.notSynchronized
  subst hsz
  have hD := hD0.self (sz := s.heap.size)
  generalize hAe : va_A (ww q ta aa sa Y) s.heap.size = A at hD hXs ⊢
  have hA : ∀ x : Nat, s.heap.size ≤ x → A x := fun x h => by rw [← hAe]; exact Or.inr h
  have hS : va_S A s.heap s.heap [] := va_S.rf
  have hinX6 : ∀ w ∈ u_ws RX6 TX6 9, w ∈ wsX6_district := by decide +kernel
  have hl := lv_entry ([.ref (ta 0)]) (n := 2) (Nat.le_of_ble_eq_true rfl)
  refine w_ent hargs ?_
  rw [lg_entry_eq]
  generalize (lg_sl ([.ref (ta 0)]) ++ List.replicate (2 - (lg_sl ([.ref (ta 0)])).length) Slot.unset).toArray = ls at hl ⊢
  have hl : lv_has ls 2 [(0, .ref (ta 0))] := hl
  unfold F_X6_district at hF
  refine w_go (fun Q hQ => ?_)
  refine lv_iconst (v := 1) hx hb dX6_district_0 (by decide) ?_
  refine lv_aload_n hx hb dX6_district_1 rfl (lv_at hl 0 rfl) ?_
  refine lv_iconst (v := 5) hx hb dX6_district_2 (by decide) ?_
  obtain ⟨Y3, rr2, hC1, hF⟩ := calt_some hF
  have hFc := b_free (ws := ww q ta aa sa Y) hD hS hA
  refine va_calli (va_runV (As := [.int 5]) (rest := [.int 1]) ⟨hx, hb, hml, hown, hts⟩ (c_X6_draw l dC dI q ta aa sa L xs Y (5 : Int32) _  _ _ hC1) (cwV 1 hts gX6_district_X6_draw rfl rfl rfl (by decide +kernel) ⟨Nat.le_of_ble_eq_true rfl, Nat.le_of_ble_eq_true rfl⟩) ⟨pe_blind (sx_bl _ _ _ _), va_recv hK hP (ci := 8) (q0 := 0) rfl ww_0, fun U hU hW => ⟨rfl, pr_mk hU hW hP hK hD, sx_mk hU hW hS hFc hXs.1⟩⟩ rfl rfl hl.1 rfl (lv_room (Nat.le_of_ble_eq_true rfl)) dX6_district_3 ⟨Nat.le_of_ble_eq_true rfl, Nat.le_of_ble_eq_true rfl⟩) hS (fun x _ h => hFc x h) hFc (fun ra4 u t H1 locs ht hvm hw hB hz1 hk1 hS => ?_)
  obtain ⟨hP, hK1, hD1⟩ := hB
  rw [ht] at hP
  have hD := hD1.weaken (fun _ q9 _ h9 => hFc q9.1 h9)
  generalize H1 = H at hP hS ⊢
  refine W.widen (k := 0) (n := 0) (Nat.le_refl _) (Nat.le_refl _) ?_
  obtain rfl : ra4 = rr2 := hw
  refine lv_iadd hx hb dX6_district_6 ?_
  refine lv_topi (fun y5 ey5 => ?_)
  have hF := bv_at ey5 hF
  refine lv_istore_n (lv' := [(1, .int y5), (0, .ref (ta 0))]) hx hb dX6_district_7 rfl hl (by decide) rfl (fun ls hl => ?_)
  refine lv_aload_n hx hb dX6_district_8 rfl (lv_at hl 1 rfl) ?_
  refine lv_aload_n hx hb dX6_district_9 rfl (lv_at hl 1 rfl) ?_
  refine va_get (D := (dC, dI)) (ci := 8) (v := .ref (ta 3)) (C := RX6) (T := TX6) (N := 9) hx hb hts hinX6 hown hK hP 0 ww_0 rfl 5 (by decide) (hts (.fieldLink RX6 24 "BallotLoomLaw$Told" "seats" "[I") (by decide +kernel)) (fun _ h9 => h9) rfl dX6_district_10 ?_
  refine lv_iload_n hx hb dX6_district_13 rfl (lv_at hl 0 rfl) ?_
  obtain ⟨hg7, hF⟩ := gd_some hF
  have hPc := one_P hP ww_3
  have hDc := one_D hD ww_3
  have hKc : va_K (dC, dI) vwCl [(q 0, .int)] s := hK.sub [0] rfl
  have hFc := b_free (ws := [(ta 3, .inl (q 0, Y3.1.1 3, .inl (Y3.1.2 3)))]) hDc hS hA
  refine va_callr (va_runS (As := [.ref (ta 3), .int y5]) (rest := [.ref (ta 0)]) ⟨hx, hb, hml, hown, hts⟩ (c_X6_plus l dC dI (ta 3) (q 0) (Y3.1.1 3) (Y3.1.2 3) y5 _ hg7) (va_cwS 2 hts gX6_district_X6_plus rfl rfl rfl (by decide +kernel) ⟨Nat.le_of_ble_eq_true rfl, Nat.le_of_ble_eq_true rfl⟩) ⟨pr_blind, fun U hU hW => ⟨rfl, pr_mk hU hW hPc hKc hDc⟩⟩ rfl rfl hl.1 rfl (lv_room (Nat.le_of_ble_eq_true rfl)) dX6_district_14 ⟨Nat.le_of_ble_eq_true rfl, Nat.le_of_ble_eq_true rfl⟩) hS (fun x _ h => hFc x h) hFc (fun b6 RES t H1 locs ht hvm hw hB hz1 hk1 hS => ?_)
  obtain ⟨hR, hP1, hK1, hD1⟩ := hB
  rw [hR]
  rw [ht] at hP1
  have hb1 := new_b hD1
  obtain ⟨hP, hD⟩ := grow_J (C := [(ta 3, .inl (q 0, Y3.1.1 3, .inl (Y3.1.2 3)))]) (b := b6) (e := .inl (q 0, Y3.1.1 3 + 1, .inl (gro (Y3.1.2 3) (Y3.1.1 3) y5))) hP hD (one_C ww_3) hk1 hFc (hP1.sub [0] rfl) (hP1.sub [1] rfl) hb1 (hFc _ (Or.inr hb1))
  generalize H1 = H at hP hS ⊢
  refine W.widen (k := 1) (n := 25) (Nat.le_refl _) (Nat.le_refl _) ?_
  obtain ⟨Y8, eY8, hF⟩ := bv_some hF
  refine va_put (D := (dC, dI)) (ci := 8) (v := .ref b6) (ty := (.array .int)) (C := RX6) (T := TX6) (N := 9) hx hb hts hinX6 tyX6 tyX6_ok nmX6 hown hK hP hD hS 0 ww_0a rfl 5 (by decide) (hts (.fieldLink RX6 24 "BallotLoomLaw$Told" "seats" "[I") (by decide +kernel)) (fun _ h9 => h9) rfl (by decide +kernel) rfl rfl (Nat.le_of_ble_eq_true rfl) dX6_district_17 (fun H locs hP hD hS => ?_)
  have hP := gr_P (Or.inr ⟨rfl, rfl⟩) hP
  have hD := gr_D (Or.inr ⟨rfl, rfl⟩) hD
  obtain ⟨ta9, eta9⟩ : ∃ x : Nat → Nat, x = nt ta 3 b6 := ⟨_, rfl⟩
  rw [← eta9, ← eY8] at hP hD
  have hu0 : ta9 0 = ta 0 := by rw [eta9]; exact rfl
  have et_ta9 : ta9 0 = ta 0 := hu0.trans (rfl)
  have hl := lv_sub hl [0, 1] (show _ = [(1, .int y5), (0, .ref (ta 0))] from rfl)
  have hl : lv_has ls 2 [(1, .int y5), (0, .ref (ta9 0))] := by rw [hu0]; exact hl
  refine lv_aload_n hx hb dX6_district_20 rfl (lv_at hl 1 rfl) ?_
  refine va_get (D := (dC, dI)) (ci := 8) (v := .ref (aa 0)) (C := RX6) (T := TX6) (N := 9) hx hb hts hinX6 hown hK hP 0 ww_0 rfl 0 (by decide) (hts (.fieldLink RX6 10 "BallotLoomLaw$Told" "m" "LBallotLoom;") (by decide +kernel)) (fun _ h9 => h9) rfl dX6_district_21 ?_
  refine lv_iload_n hx hb dX6_district_24 rfl (lv_at hl 0 rfl) ?_
  obtain ⟨z12, rr11, hC10, hF⟩ := cal_some hF
  obtain ⟨Y13, eY13, hF⟩ := bv_some hF
  have hPc := sf_P hP
  have hDc := sf_D hD
  have hFc := b_free (ws := bw q aa Y8.2) hDc hS hA
  refine va_calli (va_runV (As := [.int y5]) (rest := []) ⟨hx, hb, hml, hown, hts⟩ (c_X5_district l dC dI q aa Y8.2 y5 _ _ _ hC10) (cwV 1 hts gX6_district_X5_district rfl rfl rfl (by decide +kernel) ⟨Nat.le_of_ble_eq_true rfl, Nat.le_of_ble_eq_true rfl⟩) ⟨pr_blind, va_recv hK hPc (ci := 7) (q0 := 0) rfl (bw_at (i := 0) (by decide) rfl), fun U hU hW => ⟨rfl, pr_mk hU hW hPc hK hDc⟩⟩ rfl rfl hl.1 rfl (lv_room (Nat.le_of_ble_eq_true rfl)) dX6_district_25 ⟨Nat.le_of_ble_eq_true rfl, Nat.le_of_ble_eq_true rfl⟩) hS (fun x _ h => hFc x h) hFc (fun ra14 u t H1 locs ht hvm hw hB hz1 hk1 hS => ?_)
  obtain ⟨hP1, hK1, hD1⟩ := hB
  rw [ht] at hP1
  obtain ⟨hP, hD⟩ := sf_J hP hD hk1 hFc hP1 hD1
  have eW : twl q ta9 (aa 0) sa Y8.1 ++ bw q aa z12 = ww q ta9 aa sa Y13 := by rw [eY13]; rfl
  rw [eW] at hP hD
  clear eW
  generalize H1 = H at hP hS ⊢
  refine W.widen (k := 1) (n := 25) (Nat.le_refl _) (Nat.le_refl _) ?_
  obtain rfl : ra14 = rr11 := hw
  refine lv_aload_n hx hb dX6_district_28 rfl (lv_at hl 1 rfl) ?_
  refine va_get (D := (dC, dI)) (ci := 8) (v := .ref (ta9 3)) (C := RX6) (T := TX6) (N := 9) hx hb hts hinX6 hown hK hP 0 ww_0 rfl 5 (by decide) (hts (.fieldLink RX6 24 "BallotLoomLaw$Told" "seats" "[I") (by decide +kernel)) (fun _ h9 => h9) rfl dX6_district_29 ?_
  refine va_alen (v := nI (Y13.1.1 3)) hx hb hK hP 3 0 ww_3 rfl rfl dX6_district_32 ?_
  refine lv_topi (fun y15 ey15 => ?_)
  have hF := bv_at ey15 hF
  refine lv_iconst (v := 1) hx hb dX6_district_33 (by decide) ?_
  refine lv_isub hx hb dX6_district_34 ?_
  refine lv_topi (fun y16 ey16 => ?_)
  have hF := bv_at ey16 hF
  refine lv_icmp_ne (tgt := 42) hx hb dX6_district_35 (by decide) (fun hc17 => ?_) (fun hc17 => ?_)
  · have hF := br_neg hc17 hF
    refine lv_iconst (v := 0) hx hb dX6_district_42 (by decide) ?_
    obtain ⟨e8, e9⟩ := some2t hF
    rw [← e8] at hP hD
    subst hQ
    refine W.widen (k := 1) (n := 25) (Nat.le_of_ble_eq_true rfl) (Nat.le_of_ble_eq_true rfl) ?_
    exact W.zret (v := 0) hx hb hr rfl (fun t ht hW => ⟨⟨0, ta9, rfl, e9.symm, et_ta9, po_mk ht hW hP hK hD⟩, hS.F ht⟩) hS.2.2 dX6_district_43
  · have hF := br_pos hc17 hF
    refine lv_iconst (v := 1) hx hb dX6_district_38 (by decide) ?_
    refine lv_goto (tgt := 43) hx hb dX6_district_39 (by decide) ?_
    obtain ⟨e8, e9⟩ := some2t hF
    rw [← e8] at hP hD
    subst hQ
    refine W.widen (k := 1) (n := 25) (Nat.le_of_ble_eq_true rfl) (Nat.le_of_ble_eq_true rfl) ?_
    exact W.zret (v := 1) hx hb hr rfl (fun t ht hW => ⟨⟨1, ta9, rfl, e9.symm, et_ta9, po_mk ht hW hP hK hD⟩, hS.F ht⟩) hS.2.2 dX6_district_43

noncomputable def F_X6_cast_j86 (ra9 : Int32) (ra13 : Int32) (Y22 : TS) (y24 : Int32) (v30 : Int32) : Option (TS × Int32) :=
  gd (Y22.1.1 4 ≤ 24) <| bv (trw Y22 (upd (upd (upd (upd (zi) (0 : Int32).toNatClampNeg ra9) (1 : Int32).toNatClampNeg ra13) (2 : Int32).toNatClampNeg y24) (3 : Int32).toNatClampNeg v30)) fun Y34 => cal (F_X5_cast Y34.2 ra9 ra13 y24) fun z38 ra40 => bv (tz Y34 z38) fun Y39 => bv (nI (Y39.1.1 4)) fun y41 => bv (y41 - (1 : Int32)) fun y42 => br (ra40 = y42) (some (Y39, (1 : Int32))) (some (Y39, (0 : Int32)))

noncomputable def F_X6_cast_j51 (L : Nat) (xs : Nat → Int32) (ra9 : Int32) (ra13 : Int32) (Y16 : TS) (v18 : Int32) : Option (TS × Int32) :=
  calt (F_X6_draw L xs Y16 v18) fun Y22 ra23 => bv ((1 : Int32) + ra23) fun y24 => calp (F_X6_isSpoiled L xs Y22 ra13) fun ra29 => br (ra29 = (0 : Int32)) ((F_X6_cast_j86 ra9 ra13 Y22 y24) (0 : Int32)) ((F_X6_cast_j86 ra9 ra13 Y22 y24) (1 : Int32))

noncomputable def F_X6_cast (L : Nat) (xs : Nat → Int32) (Y : TS) : Option (TS × Int32) :=
  bv (nI (Y.1.1 4)) fun y1 => br ((23 : Int32) < y1) (some (Y, (1 : Int32))) (bv (Y.1.2 0 8) fun y3 => br (y3 = (0 : Int32)) (bv (nI (Y.1.1 3)) fun y5 => calt (F_X6_draw L xs Y y5) fun Y8 ra9 => calt (F_X6_ranks L xs Y8 ) fun Y12 ra13 => calt (F_X6_draw L xs Y12 (3 : Int32)) fun Y16 ra17 => br (ra17 = (0 : Int32)) ((F_X6_cast_j51 L xs ra9 ra13 Y16) (60 : Int32)) ((F_X6_cast_j51 L xs ra9 ra13 Y16) (9 : Int32))) (some (Y, (1 : Int32))))

set_option maxHeartbeats 4000000 in
set_option maxRecDepth 100000 in
theorem c_X6_cast (l : Launch) (dC : Nat → ClassId) (dI : Nat → Nat → Nat) (q : Nat → ClassId) (ta aa : Nat → Nat) (sa : Nat) (L : Nat) (xs : Nat → Int32) (Y : TS)  (sz : Nat)  (Yo : TS) (ro : Int32) (hF : F_X6_cast L xs Y = some (Yo, ro)) : Met l yX6_cast wsX6_cast ({ frames := 12, cells := 8, slots := 89, locals := 264 }) (va_Pc [.ref (ta 0)] (fun U => pr_ dC dI (ww q ta aa sa Y) (bty q) sz U ∧ tx_ (va_A (ww q ta aa sa Y) sz) sa L xs U)) (va_Qi (fun (r : Int32) (_ : (Nat → Nat)) => r = ro) (fun (u : Nat → Nat) t => u 0 = ta 0 ∧ po_ dC dI (ww q u aa sa Yo) (bty q) (va_A (ww q ta aa sa Y) sz) t) (va_A (ww q ta aa sa Y) sz)) 8 89 (va_A (ww q ta aa sa Y) sz) := by
  refine Met.ofW (cc := cX6_cast) (maxL := 5) (ret := (some .boolean)) (by decide) rfl ?_
  intro p e s m args below meth c s₁ B hml hv
  obtain ⟨hargs, ⟨hsz, hP, hK, hD0⟩, hXs⟩ := hv
  have hx := B.exec
  have hb := B.bytes
  have hr := B.returns
  have hts := atoms_spec (ws := wsX6_cast) B.pre
  have hown : s.vm.findClass RX6 = some m.cls := findClass_of_methodNamed B.named
  have hlocks := B.notSynchronized
  subst hsz
  have hD := hD0.self (sz := s.heap.size)
  generalize hAe : va_A (ww q ta aa sa Y) s.heap.size = A at hD hXs ⊢
  have hA : ∀ x : Nat, s.heap.size ≤ x → A x := fun x h => by rw [← hAe]; exact Or.inr h
  have hS : va_S A s.heap s.heap [] := va_S.rf
  have hinX6 : ∀ w ∈ u_ws RX6 TX6 9, w ∈ wsX6_cast := by decide +kernel
  have hl := lv_entry ([.ref (ta 0)]) (n := 5) (Nat.le_of_ble_eq_true rfl)
  refine w_ent hargs ?_
  rw [lg_entry_eq]
  generalize (lg_sl ([.ref (ta 0)]) ++ List.replicate (5 - (lg_sl ([.ref (ta 0)])).length) Slot.unset).toArray = ls at hl ⊢
  have hl : lv_has ls 5 [(0, .ref (ta 0))] := hl
  unfold F_X6_cast at hF
  refine w_go (fun Q hQ => ?_)
  refine lv_aload_n hx hb dX6_cast_0 rfl (lv_at hl 0 rfl) ?_
  refine va_get (D := (dC, dI)) (ci := 8) (v := .ref (ta 4)) (C := RX6) (T := TX6) (N := 9) hx hb hts hinX6 hown hK hP 0 ww_0 rfl 6 (by decide) (hts (.fieldLink RX6 28 "BallotLoomLaw$Told" "stacks" "[[I") (by decide +kernel)) (fun _ h9 => h9) rfl dX6_cast_1 ?_
  refine va_alen (v := nI (Y.1.1 4)) hx hb hK hP 4 4 ww_4 rfl rfl dX6_cast_4 ?_
  refine lv_topi (fun y1 ey1 => ?_)
  have hF := bv_at ey1 hF
  refine lv_bipush (v := 23) hx hb dX6_cast_5 (by decide) ?_
  refine lv_icmp_gt (tgt := 17) hx hb dX6_cast_7 (by decide) (fun hc2 => ?_) (fun hc2 => ?_)
  · have hF := br_pos hc2 hF
    refine lv_iconst (v := 1) hx hb dX6_cast_17 (by decide) ?_
    obtain ⟨e8, e9⟩ := some2t hF
    rw [← e8] at hP hD
    subst hQ
    refine W.widen (k := 8) (n := 89) (Nat.le_of_ble_eq_true rfl) (Nat.le_of_ble_eq_true rfl) ?_
    exact W.zret (v := 1) hx hb hr rfl (fun t ht hW => ⟨⟨1, ta, rfl, e9.symm, rfl, po_mk ht hW hP hK hD⟩, hS.F ht⟩) hS.2.2 dX6_cast_18
  · have hF := br_neg hc2 hF
    refine lv_aload_n hx hb dX6_cast_10 rfl (lv_at hl 0 rfl) ?_
    refine va_get (D := (dC, dI)) (ci := 8) (v := .int (Y.1.2 0 8)) (C := RX6) (T := TX6) (N := 9) hx hb hts hinX6 hown hK hP 0 ww_0 rfl 8 (by decide) (hts (.fieldLink RX6 105 "BallotLoomLaw$Told" "isSealed" "Z") (by decide +kernel)) (fun _ h9 => h9) rfl dX6_cast_11 ?_
    refine lv_topi (fun y3 ey3 => ?_)
    have hF := bv_at ey3 hF
    refine lv_if_eq (tgt := 19) hx hb dX6_cast_14 (by decide) (fun hc4 => ?_) (fun hc4 => ?_)
    · have hF := br_pos hc4 hF
      refine lv_aload_n hx hb dX6_cast_19 rfl (lv_at hl 0 rfl) ?_
      refine lv_aload_n hx hb dX6_cast_20 rfl (lv_at hl 0 rfl) ?_
      refine va_get (D := (dC, dI)) (ci := 8) (v := .ref (ta 3)) (C := RX6) (T := TX6) (N := 9) hx hb hts hinX6 hown hK hP 0 ww_0 rfl 5 (by decide) (hts (.fieldLink RX6 24 "BallotLoomLaw$Told" "seats" "[I") (by decide +kernel)) (fun _ h9 => h9) rfl dX6_cast_21 ?_
      refine va_alen (v := nI (Y.1.1 3)) hx hb hK hP 3 0 ww_3 rfl rfl dX6_cast_24 ?_
      refine lv_topi (fun y5 ey5 => ?_)
      have hF := bv_at ey5 hF
      obtain ⟨Y8, rr7, hC6, hF⟩ := calt_some hF
      have hFc := b_free (ws := ww q ta aa sa Y) hD hS hA
      refine va_calli (va_runV (As := [.int y5]) (rest := []) ⟨hx, hb, hml, hown, hts⟩ (c_X6_draw l dC dI q ta aa sa L xs Y y5 _  _ _ hC6) (cwV 1 hts gX6_cast_X6_draw rfl rfl rfl (by decide +kernel) ⟨Nat.le_of_ble_eq_true rfl, Nat.le_of_ble_eq_true rfl⟩) ⟨pe_blind (sx_bl _ _ _ _), va_recv hK hP (ci := 8) (q0 := 0) rfl ww_0, fun U hU hW => ⟨rfl, pr_mk hU hW hP hK hD, sx_mk hU hW hS hFc hXs.1⟩⟩ rfl rfl hl.1 rfl (lv_room (Nat.le_of_ble_eq_true rfl)) dX6_cast_25 ⟨Nat.le_of_ble_eq_true rfl, Nat.le_of_ble_eq_true rfl⟩) hS (fun x _ h => hFc x h) hFc (fun ra9 u t H1 locs ht hvm hw hB hz1 hk1 hS => ?_)
      obtain ⟨hP, hK1, hD1⟩ := hB
      rw [ht] at hP
      have hD := hD1.weaken (fun _ q9 _ h9 => hFc q9.1 h9)
      generalize H1 = H at hP hS ⊢
      refine W.widen (k := 0) (n := 0) (Nat.le_refl _) (Nat.le_refl _) ?_
      obtain rfl : ra9 = rr7 := hw
      refine lv_istore_n (lv' := [(1, .int ra9), (0, .ref (ta 0))]) hx hb dX6_cast_28 rfl hl (by decide) rfl (fun ls hl => ?_)
      refine lv_aload_n hx hb dX6_cast_29 rfl (lv_at hl 1 rfl) ?_
      obtain ⟨Y12, rr11, hC10, hF⟩ := calt_some hF
      have hFc := b_free (ws := ww q ta aa sa Y8) hD hS hA
      refine va_calli (va_runV (As := []) (rest := []) ⟨hx, hb, hml, hown, hts⟩ (c_X6_ranks l dC dI q ta aa sa L xs Y8  _  _ _ hC10) (cwV 0 hts gX6_cast_X6_ranks rfl rfl rfl (by decide +kernel) ⟨Nat.le_of_ble_eq_true rfl, Nat.le_of_ble_eq_true rfl⟩) ⟨pe_blind (sx_bl _ _ _ _), va_recv hK hP (ci := 8) (q0 := 0) rfl ww_0, fun U hU hW => ⟨rfl, pr_mk hU hW hP hK hD, sx_mk hU hW hS hFc hXs.1⟩⟩ rfl rfl hl.1 rfl (lv_room (Nat.le_of_ble_eq_true rfl)) dX6_cast_30 ⟨Nat.le_of_ble_eq_true rfl, Nat.le_of_ble_eq_true rfl⟩) hS (fun x _ h => hFc x h) hFc (fun ra13 u t H1 locs ht hvm hw hB hz1 hk1 hS => ?_)
      obtain ⟨hP, hK1, hD1⟩ := hB
      rw [ht] at hP
      have hD := hD1.weaken (fun _ q9 _ h9 => hFc q9.1 h9)
      generalize H1 = H at hP hS ⊢
      refine W.widen (k := 0) (n := 0) (Nat.le_refl _) (Nat.le_refl _) ?_
      obtain rfl : ra13 = rr11 := hw
      refine lv_istore_n (lv' := [(2, .int ra13), (1, .int ra9), (0, .ref (ta 0))]) hx hb dX6_cast_33 rfl hl (by decide) rfl (fun ls hl => ?_)
      refine lv_iconst (v := 1) hx hb dX6_cast_34 (by decide) ?_
      refine lv_aload_n hx hb dX6_cast_35 rfl (lv_at hl 2 rfl) ?_
      refine lv_aload_n hx hb dX6_cast_36 rfl (lv_at hl 2 rfl) ?_
      refine lv_iconst (v := 3) hx hb dX6_cast_37 (by decide) ?_
      obtain ⟨Y16, rr15, hC14, hF⟩ := calt_some hF
      have hFc := b_free (ws := ww q ta aa sa Y12) hD hS hA
      refine va_calli (va_runV (As := [.int 3]) (rest := [.ref (ta 0), .int 1]) ⟨hx, hb, hml, hown, hts⟩ (c_X6_draw l dC dI q ta aa sa L xs Y12 (3 : Int32) _  _ _ hC14) (cwV 1 hts gX6_cast_X6_draw rfl rfl rfl (by decide +kernel) ⟨Nat.le_of_ble_eq_true rfl, Nat.le_of_ble_eq_true rfl⟩) ⟨pe_blind (sx_bl _ _ _ _), va_recv hK hP (ci := 8) (q0 := 0) rfl ww_0, fun U hU hW => ⟨rfl, pr_mk hU hW hP hK hD, sx_mk hU hW hS hFc hXs.1⟩⟩ rfl rfl hl.1 rfl (lv_room (Nat.le_of_ble_eq_true rfl)) dX6_cast_38 ⟨Nat.le_of_ble_eq_true rfl, Nat.le_of_ble_eq_true rfl⟩) hS (fun x _ h => hFc x h) hFc (fun ra17 u t H1 locs ht hvm hw hB hz1 hk1 hS => ?_)
      obtain ⟨hP, hK1, hD1⟩ := hB
      rw [ht] at hP
      have hD := hD1.weaken (fun _ q9 _ h9 => hFc q9.1 h9)
      generalize H1 = H at hP hS ⊢
      refine W.widen (k := 0) (n := 0) (Nat.le_refl _) (Nat.le_refl _) ?_
      obtain rfl : ra17 = rr15 := hw
      have Jj51 : ∀ (v18 : Int32) (ta19 : Nat → Nat) (H : Heap) (locs : List Loc) (ls : Array Slot), ta19 0 = ta 0 → (F_X6_cast_j51 L xs ra9 ra13 Y16) v18 = some (Yo, ro) → va_P (dC, dI) vwCl (ww q ta19 aa sa Y16) H → va_D A (ww q ta19 aa sa Y16) → va_S A s.heap H locs → lv_has ls 5 [(2, .int ra13), (1, .int ra9), (0, .ref (ta19 0))] → W p l e (headSpec wsX6_cast ({ frames := 12, cells := 8, slots := 89, locals := 264 } : Room)).room s m args below meth c H locs 0 0 Q (F0 m 51 ls [.int v18, .ref (ta19 0), .int 1]) := by
        intro v18 ta19 H locs ls hu9 hF hP hD hS hl
        unfold F_X6_cast_j51 at hF
        obtain ⟨Y22, rr21, hC20, hF⟩ := calt_some hF
        have hFc := b_free (ws := ww q ta19 aa sa Y16) hD hS hA
        refine va_calli (va_runV (As := [.int v18]) (rest := [.int 1]) ⟨hx, hb, hml, hown, hts⟩ (c_X6_draw l dC dI q ta19 aa sa L xs Y16 v18 _  _ _ hC20) (cwV 1 hts gX6_cast_X6_draw rfl rfl rfl (by decide +kernel) ⟨Nat.le_of_ble_eq_true rfl, Nat.le_of_ble_eq_true rfl⟩) ⟨pe_blind (sx_bl _ _ _ _), va_recv hK hP (ci := 8) (q0 := 0) rfl ww_0, fun U hU hW => ⟨rfl, pr_mk hU hW hP hK hD, sx_mk hU hW hS hFc hXs.1⟩⟩ rfl rfl hl.1 rfl (lv_room (Nat.le_of_ble_eq_true rfl)) dX6_cast_51 ⟨Nat.le_of_ble_eq_true rfl, Nat.le_of_ble_eq_true rfl⟩) hS (fun x _ h => hFc x h) hFc (fun ra23 u t H1 locs ht hvm hw hB hz1 hk1 hS => ?_)
        obtain ⟨hP, hK1, hD1⟩ := hB
        rw [ht] at hP
        have hD := hD1.weaken (fun _ q9 _ h9 => hFc q9.1 h9)
        generalize H1 = H at hP hS ⊢
        refine W.widen (k := 0) (n := 0) (Nat.le_refl _) (Nat.le_refl _) ?_
        obtain rfl : ra23 = rr21 := hw
        refine lv_iadd hx hb dX6_cast_54 ?_
        refine lv_topi (fun y24 ey24 => ?_)
        have hF := bv_at ey24 hF
        refine lv_istore_n (lv' := [(3, .int y24), (2, .int ra13), (1, .int ra9), (0, .ref (ta19 0))]) hx hb dX6_cast_55 rfl hl (by decide) rfl (fun ls hl => ?_)
        refine lv_iconst (v := 4) hx hb dX6_cast_56 (by decide) ?_
        refine va_newa (atype := .int) (ty := .int) (N' := 4) (a0 := (4, .inl zi)) hx hb (hts (.arrayClass (newarray.typeOf .int)) (by decide +kernel)) rfl hK hP hD hS hA (fun _ => rfl) (by decide) (by decide) (by decide) (Nat.le_of_ble_eq_true rfl) (Nat.le_of_ble_eq_true rfl) dX6_cast_57 (fun r25 c26 H hK9 hP hD hS => ?_)
        have hcc : c26 = q 0 := ty_one (t := .int) hK9 5 0 rfl rfl (fun _ h => FieldType.noConfusion h)
        rw [hcc] at hP hD
        clear hK9
        have hP := va_P.swap (a := []) hP
        have hD := va_D.swap (a := []) hD
        have hP : va_P (dC, dI) vwCl ([(r25, .inl (q 0, 4, .inl (zi)))] ++ ww q ta19 aa sa Y22) H := hP
        have hD : va_D A ([(r25, .inl (q 0, 4, .inl (zi)))] ++ ww q ta19 aa sa Y22) := hD
        refine W.widen (k := 1) (n := 4) (Nat.le_refl _) (Nat.le_refl _) ?_
        refine lv_dup hx hb dX6_cast_59 rfl ?_
        refine lv_iconst (v := 0) hx hb dX6_cast_60 (by decide) ?_
        refine lv_iload_n hx hb dX6_cast_61 rfl (lv_at hl 2 rfl) ?_
        refine va_iast hx hb hK hP hD hS 0 0 rfl rfl (by unfold vp_in; decide) dX6_cast_62 (fun H locs hP hD hS => ?_)
        have hP : va_P (dC, dI) vwCl ([(r25, .inl (q 0, 4, .inl (upd (zi) (0 : Int32).toNatClampNeg ra9)))] ++ ww q ta19 aa sa Y22) H := hP
        have hD : va_D A ([(r25, .inl (q 0, 4, .inl (upd (zi) (0 : Int32).toNatClampNeg ra9)))] ++ ww q ta19 aa sa Y22) := hD
        refine lv_dup hx hb dX6_cast_63 rfl ?_
        refine lv_iconst (v := 1) hx hb dX6_cast_64 (by decide) ?_
        refine lv_iload_n hx hb dX6_cast_65 rfl (lv_at hl 1 rfl) ?_
        refine va_iast hx hb hK hP hD hS 0 0 rfl rfl (by unfold vp_in; decide) dX6_cast_66 (fun H locs hP hD hS => ?_)
        have hP : va_P (dC, dI) vwCl ([(r25, .inl (q 0, 4, .inl (upd (upd (zi) (0 : Int32).toNatClampNeg ra9) (1 : Int32).toNatClampNeg ra13)))] ++ ww q ta19 aa sa Y22) H := hP
        have hD : va_D A ([(r25, .inl (q 0, 4, .inl (upd (upd (zi) (0 : Int32).toNatClampNeg ra9) (1 : Int32).toNatClampNeg ra13)))] ++ ww q ta19 aa sa Y22) := hD
        refine lv_dup hx hb dX6_cast_67 rfl ?_
        refine lv_iconst (v := 2) hx hb dX6_cast_68 (by decide) ?_
        refine lv_iload_n hx hb dX6_cast_69 rfl (lv_at hl 0 rfl) ?_
        refine va_iast hx hb hK hP hD hS 0 0 rfl rfl (by unfold vp_in; decide) dX6_cast_70 (fun H locs hP hD hS => ?_)
        have hP : va_P (dC, dI) vwCl ([(r25, .inl (q 0, 4, .inl (upd (upd (upd (zi) (0 : Int32).toNatClampNeg ra9) (1 : Int32).toNatClampNeg ra13) (2 : Int32).toNatClampNeg y24)))] ++ ww q ta19 aa sa Y22) H := hP
        have hD : va_D A ([(r25, .inl (q 0, 4, .inl (upd (upd (upd (zi) (0 : Int32).toNatClampNeg ra9) (1 : Int32).toNatClampNeg ra13) (2 : Int32).toNatClampNeg y24)))] ++ ww q ta19 aa sa Y22) := hD
        refine lv_dup hx hb dX6_cast_71 rfl ?_
        refine lv_iconst (v := 3) hx hb dX6_cast_72 (by decide) ?_
        refine lv_aload_n hx hb dX6_cast_73 rfl (lv_at hl 3 rfl) ?_
        refine lv_iload_n hx hb dX6_cast_74 rfl (lv_at hl 1 rfl) ?_
        obtain ⟨rr28, hC27, hF⟩ := calp_some hF
        have hPc := sf_P hP
        have hDc := sf_D hD
        have hFc := b_free (ws := ww q ta19 aa sa Y22) hDc hS hA
        refine va_calli (va_runV (As := [.int ra13]) (rest := [.int 3, .ref r25, .ref r25]) ⟨hx, hb, hml, hown, hts⟩ (c_X6_isSpoiled l dC dI q ta19 aa sa L xs Y22 ra13 _  _ hC27) (cwV 1 hts gX6_cast_X6_isSpoiled rfl rfl rfl (by decide +kernel) ⟨Nat.le_of_ble_eq_true rfl, Nat.le_of_ble_eq_true rfl⟩) ⟨pe_blind (tx_bl _ _ _ _), va_recv hK hPc (ci := 8) (q0 := 0) rfl ww_0, fun U hU hW => ⟨rfl, pr_mk hU hW hPc hK hDc, tx_mk hU hW hS hFc hXs⟩⟩ rfl rfl hl.1 rfl (lv_room (Nat.le_of_ble_eq_true rfl)) dX6_cast_75 ⟨Nat.le_of_ble_eq_true rfl, Nat.le_of_ble_eq_true rfl⟩) hS (fun x _ h => hFc x h) hFc (fun ra29 u t H1 locs ht hvm hw hB hz1 hk1 hS => ?_)
        obtain ⟨hP1, hK1, hD1⟩ := hB
        rw [ht] at hP1
        obtain ⟨hP, hD⟩ := sf_J hP hD hk1 hFc hP1 hD1
        generalize H1 = H at hP hS ⊢
        refine W.widen (k := 7) (n := 64) (Nat.le_refl _) (Nat.le_refl _) ?_
        obtain rfl : ra29 = rr28 := hw
        have Jj86 : ∀ (v30 : Int32) (ta31 : Nat → Nat) (H : Heap) (locs : List Loc) (ls : Array Slot), ta31 0 = ta 0 → (F_X6_cast_j86 ra9 ra13 Y22 y24) v30 = some (Yo, ro) → va_P (dC, dI) vwCl ([(r25, .inl (q 0, 4, .inl (upd (upd (upd (zi) (0 : Int32).toNatClampNeg ra9) (1 : Int32).toNatClampNeg ra13) (2 : Int32).toNatClampNeg y24)))] ++ ww q ta31 aa sa Y22) H → va_D A ([(r25, .inl (q 0, 4, .inl (upd (upd (upd (zi) (0 : Int32).toNatClampNeg ra9) (1 : Int32).toNatClampNeg ra13) (2 : Int32).toNatClampNeg y24)))] ++ ww q ta31 aa sa Y22) → va_S A s.heap H locs → lv_has ls 5 [(3, .int y24), (2, .int ra13), (1, .int ra9), (0, .ref (ta31 0))] → W p l e (headSpec wsX6_cast ({ frames := 12, cells := 8, slots := 89, locals := 264 } : Room)).room s m args below meth c H locs 7 64 Q (F0 m 86 ls [.int v30, .int 3, .ref r25, .ref r25]) := by
          intro v30 ta31 H locs ls hu9 hF hP hD hS hl
          unfold F_X6_cast_j86 at hF
          refine va_iast hx hb hK hP hD hS 0 0 rfl rfl (by unfold vp_in; decide) dX6_cast_86 (fun H locs hP hD hS => ?_)
          have hP : va_P (dC, dI) vwCl ([(r25, .inl (q 0, 4, .inl (upd (upd (upd (upd (zi) (0 : Int32).toNatClampNeg ra9) (1 : Int32).toNatClampNeg ra13) (2 : Int32).toNatClampNeg y24) (3 : Int32).toNatClampNeg v30)))] ++ ww q ta31 aa sa Y22) H := hP
          have hD : va_D A ([(r25, .inl (q 0, 4, .inl (upd (upd (upd (upd (zi) (0 : Int32).toNatClampNeg ra9) (1 : Int32).toNatClampNeg ra13) (2 : Int32).toNatClampNeg y24) (3 : Int32).toNatClampNeg v30)))] ++ ww q ta31 aa sa Y22) := hD
          refine lv_astore (lv' := [(4, .ref r25), (3, .int y24), (2, .int ra13), (1, .int ra9), (0, .ref (ta31 0))]) hx hb dX6_cast_87 hl (by decide) rfl (fun ls hl => ?_)
          refine lv_aload_n hx hb dX6_cast_89 rfl (lv_at hl 4 rfl) ?_
          refine lv_aload_n hx hb dX6_cast_90 rfl (lv_at hl 4 rfl) ?_
          refine va_get (D := (dC, dI)) (ci := 8) (v := .ref (ta31 4)) (C := RX6) (T := TX6) (N := 9) hx hb hts hinX6 hown hK hP 1 (fx ww_0) rfl 6 (by decide) (hts (.fieldLink RX6 28 "BallotLoomLaw$Told" "stacks" "[[I") (by decide +kernel)) (fun _ h9 => h9) rfl dX6_cast_91 ?_
          refine lv_aload hx hb dX6_cast_94 (lv_at hl 0 rfl) ?_
          obtain ⟨hg33, hF⟩ := gd_some hF
          have hPc := pw_P hP
          have hDc := pw_D hD
          have hKc : va_K (dC, dI) vwCl [(q 0, .int), (q 4, .array .int)] s := hK.sub [0, 4] rfl
          have hFc := b_free (ws := pw q ta31 r25 (upd (upd (upd (upd (zi) (0 : Int32).toNatClampNeg ra9) (1 : Int32).toNatClampNeg ra13) (2 : Int32).toNatClampNeg y24) (3 : Int32).toNatClampNeg v30) Y22) hDc hS hA
          refine va_callr (va_runS (As := [.ref (ta31 4), .ref r25]) (rest := [.ref (ta31 0)]) ⟨hx, hb, hml, hown, hts⟩ (c_X6_plus_ l dC dI (ta31 4) r25 (q 0) (q 4) (Y22.1.1 4) (fun k => if k < Y22.1.1 4 then some (ta31 (5 + k)) else none) (upd (upd (upd (upd (zi) (0 : Int32).toNatClampNeg ra9) (1 : Int32).toNatClampNeg ra13) (2 : Int32).toNatClampNeg y24) (3 : Int32).toNatClampNeg v30) (rwB q ta31 Y22.1) _ hg33 rwB_h) (va_cwS 2 hts gX6_cast_X6_plus_ rfl rfl rfl (by decide +kernel) ⟨Nat.le_of_ble_eq_true rfl, Nat.le_of_ble_eq_true rfl⟩) ⟨pe_blind qo_blm, fun U hU hW => ⟨rfl, pr_mk hU hW hPc hKc hDc, qo_mk hW hXs.2.1.2.1⟩⟩ rfl rfl hl.1 rfl (lv_room (Nat.le_of_ble_eq_true rfl)) dX6_cast_96 ⟨Nat.le_of_ble_eq_true rfl, Nat.le_of_ble_eq_true rfl⟩) hS (fun x _ h => hFc x h) hFc (fun b32 RES t H1 locs ht hvm hw hB hz1 hk1 hS => ?_)
          obtain ⟨hR, hP1, hK1, hD1⟩ := hB
          rw [hR]
          rw [ht] at hP1
          obtain ⟨hP, hD⟩ := pw_J hP hD hk1 hFc hP1 hD1
          generalize H1 = H at hP hS ⊢
          refine W.widen (k := 8) (n := 89) (Nat.le_refl _) (Nat.le_refl _) ?_
          obtain ⟨Y34, eY34, hF⟩ := bv_some hF
          refine va_put (D := (dC, dI)) (ci := 8) (v := .ref b32) (ty := (.array (.array .int))) (C := RX6) (T := TX6) (N := 9) hx hb hts hinX6 tyX6 tyX6_ok nmX6 hown hK hP hD hS 1 (fxa ww_0) rfl 6 (by decide) (hts (.fieldLink RX6 28 "BallotLoomLaw$Told" "stacks" "[[I") (by decide +kernel)) (fun _ h9 => h9) rfl (by decide +kernel) rfl rfl (Nat.le_of_ble_eq_true rfl) dX6_cast_99 (fun H locs hP hD hS => ?_)
          have hP := rw_P hP
          have hD := rw_D hD
          obtain ⟨ta35, eta35⟩ : ∃ x : Nat → Nat, x = nt (nt ta31 4 b32) (5 + Y22.1.1 4) r25 := ⟨_, rfl⟩
          rw [← eta35, ← eY34] at hP hD
          have hu0 : ta35 0 = ta31 0 := by rw [eta35]; exact nt_0
          have et_ta35 : ta35 0 = ta 0 := hu0.trans (hu9)
          have hl := lv_sub hl [0, 1, 2, 3, 4] (show _ = [(4, .ref r25), (3, .int y24), (2, .int ra13), (1, .int ra9), (0, .ref (ta31 0))] from rfl)
          have hl : lv_has ls 5 [(4, .ref r25), (3, .int y24), (2, .int ra13), (1, .int ra9), (0, .ref (ta35 0))] := by rw [hu0]; exact hl
          refine lv_aload_n hx hb dX6_cast_102 rfl (lv_at hl 4 rfl) ?_
          refine va_get (D := (dC, dI)) (ci := 8) (v := .ref (aa 0)) (C := RX6) (T := TX6) (N := 9) hx hb hts hinX6 hown hK hP 0 ww_0 rfl 0 (by decide) (hts (.fieldLink RX6 10 "BallotLoomLaw$Told" "m" "LBallotLoom;") (by decide +kernel)) (fun _ h9 => h9) rfl dX6_cast_103 ?_
          refine lv_iload_n hx hb dX6_cast_106 rfl (lv_at hl 3 rfl) ?_
          refine lv_iload_n hx hb dX6_cast_107 rfl (lv_at hl 2 rfl) ?_
          refine lv_iload_n hx hb dX6_cast_108 rfl (lv_at hl 1 rfl) ?_
          obtain ⟨z38, rr37, hC36, hF⟩ := cal_some hF
          obtain ⟨Y39, eY39, hF⟩ := bv_some hF
          have hPc := sf_P hP
          have hDc := sf_D hD
          have hFc := b_free (ws := bw q aa Y34.2) hDc hS hA
          refine va_calli (va_runV (As := [.int ra9, .int ra13, .int y24]) (rest := []) ⟨hx, hb, hml, hown, hts⟩ (c_X5_cast l dC dI q aa Y34.2 ra9 ra13 y24 _ _ _ hC36) (cwV 3 hts gX6_cast_X5_cast rfl rfl rfl (by decide +kernel) ⟨Nat.le_of_ble_eq_true rfl, Nat.le_of_ble_eq_true rfl⟩) ⟨pr_blind, va_recv hK hPc (ci := 7) (q0 := 0) rfl (bw_at (i := 0) (by decide) rfl), fun U hU hW => ⟨rfl, pr_mk hU hW hPc hK hDc⟩⟩ rfl rfl hl.1 rfl (lv_room (Nat.le_of_ble_eq_true rfl)) dX6_cast_109 ⟨Nat.le_of_ble_eq_true rfl, Nat.le_of_ble_eq_true rfl⟩) hS (fun x _ h => hFc x h) hFc (fun ra40 u t H1 locs ht hvm hw hB hz1 hk1 hS => ?_)
          obtain ⟨hP1, hK1, hD1⟩ := hB
          rw [ht] at hP1
          obtain ⟨hP, hD⟩ := sf_J hP hD hk1 hFc hP1 hD1
          have eW : twl q ta35 (aa 0) sa Y34.1 ++ bw q aa z38 = ww q ta35 aa sa Y39 := by rw [eY39]; rfl
          rw [eW] at hP hD
          clear eW
          generalize H1 = H at hP hS ⊢
          refine W.widen (k := 8) (n := 89) (Nat.le_refl _) (Nat.le_refl _) ?_
          obtain rfl : ra40 = rr37 := hw
          refine lv_aload_n hx hb dX6_cast_112 rfl (lv_at hl 4 rfl) ?_
          refine va_get (D := (dC, dI)) (ci := 8) (v := .ref (ta35 4)) (C := RX6) (T := TX6) (N := 9) hx hb hts hinX6 hown hK hP 0 ww_0 rfl 6 (by decide) (hts (.fieldLink RX6 28 "BallotLoomLaw$Told" "stacks" "[[I") (by decide +kernel)) (fun _ h9 => h9) rfl dX6_cast_113 ?_
          refine va_alen (v := nI (Y39.1.1 4)) hx hb hK hP 4 4 ww_4 rfl rfl dX6_cast_116 ?_
          refine lv_topi (fun y41 ey41 => ?_)
          have hF := bv_at ey41 hF
          refine lv_iconst (v := 1) hx hb dX6_cast_117 (by decide) ?_
          refine lv_isub hx hb dX6_cast_118 ?_
          refine lv_topi (fun y42 ey42 => ?_)
          have hF := bv_at ey42 hF
          refine lv_icmp_ne (tgt := 126) hx hb dX6_cast_119 (by decide) (fun hc43 => ?_) (fun hc43 => ?_)
          · have hF := br_neg hc43 hF
            refine lv_iconst (v := 0) hx hb dX6_cast_126 (by decide) ?_
            obtain ⟨e8, e9⟩ := some2t hF
            rw [← e8] at hP hD
            subst hQ
            refine W.widen (k := 8) (n := 89) (Nat.le_of_ble_eq_true rfl) (Nat.le_of_ble_eq_true rfl) ?_
            exact W.zret (v := 0) hx hb hr rfl (fun t ht hW => ⟨⟨0, ta35, rfl, e9.symm, et_ta35, po_mk ht hW hP hK hD⟩, hS.F ht⟩) hS.2.2 dX6_cast_127
          · have hF := br_pos hc43 hF
            refine lv_iconst (v := 1) hx hb dX6_cast_122 (by decide) ?_
            refine lv_goto (tgt := 127) hx hb dX6_cast_123 (by decide) ?_
            obtain ⟨e8, e9⟩ := some2t hF
            rw [← e8] at hP hD
            subst hQ
            refine W.widen (k := 8) (n := 89) (Nat.le_of_ble_eq_true rfl) (Nat.le_of_ble_eq_true rfl) ?_
            exact W.zret (v := 1) hx hb hr rfl (fun t ht hW => ⟨⟨1, ta35, rfl, e9.symm, et_ta35, po_mk ht hW hP hK hD⟩, hS.F ht⟩) hS.2.2 dX6_cast_127
        refine lv_if_eq (tgt := 85) hx hb dX6_cast_78 (by decide) (fun hc44 => ?_) (fun hc44 => ?_)
        · have hF := br_pos hc44 hF
          refine lv_iconst (v := 0) hx hb dX6_cast_85 (by decide) ?_
          exact Jj86 (0 : Int32) ta19 _ _ _ hu9 hF hP hD hS (lv_sub hl [0, 1, 2, 3] rfl)
        · have hF := br_neg hc44 hF
          refine lv_iconst (v := 1) hx hb dX6_cast_81 (by decide) ?_
          refine lv_goto (tgt := 86) hx hb dX6_cast_82 (by decide) ?_
          exact Jj86 (1 : Int32) ta19 _ _ _ hu9 hF hP hD hS (lv_sub hl [0, 1, 2, 3] rfl)
      refine lv_if_ne (tgt := 49) hx hb dX6_cast_41 (by decide) (fun hc45 => ?_) (fun hc45 => ?_)
      · have hF := br_neg hc45 hF
        refine lv_bipush (v := 9) hx hb dX6_cast_49 (by decide) ?_
        exact Jj51 (9 : Int32) ta _ _ _ rfl hF hP hD hS (lv_sub hl [0, 1, 2] rfl)
      · have hF := br_pos hc45 hF
        refine lv_bipush (v := 60) hx hb dX6_cast_44 (by decide) ?_
        refine lv_goto (tgt := 51) hx hb dX6_cast_46 (by decide) ?_
        exact Jj51 (60 : Int32) ta _ _ _ rfl hF hP hD hS (lv_sub hl [0, 1, 2] rfl)
    · have hF := br_neg hc4 hF
      refine lv_iconst (v := 1) hx hb dX6_cast_17 (by decide) ?_
      obtain ⟨e8, e9⟩ := some2t hF
      rw [← e8] at hP hD
      subst hQ
      refine W.widen (k := 8) (n := 89) (Nat.le_of_ble_eq_true rfl) (Nat.le_of_ble_eq_true rfl) ?_
      exact W.zret (v := 1) hx hb hr rfl (fun t ht hW => ⟨⟨1, ta, rfl, e9.symm, rfl, po_mk ht hW hP hK hD⟩, hS.F ht⟩) hS.2.2 dX6_cast_18

noncomputable def F_X6_founded_x73 (Y7 : TS) : Option (TS × Int32) :=
  some (Y7, (1 : Int32))

noncomputable def F_X6_founded_l73 (L : Nat) (xs : Nat → Int32) (xb : Int32) (K_73 : TS → Option (TS × Int32)) : Nat → TS → Int32 → Option (TS × Int32)
  | 0, _, _ => none
  | n73 + 1, Y10, u9 =>
  br (xb ≤ u9) (K_73 Y10) (calt (F_X6_cast L xs Y10 ) fun Y15 ra16 => br (ra16 = (0 : Int32)) (some (Y15, (0 : Int32))) ((F_X6_founded_l73 L xs xb K_73 n73) Y15 (u9 + (1 : Int32))))

noncomputable def F_X6_founded_x51 (L : Nat) (xs : Nat → Int32) (xb : Int32) (Y5 : TS) : Option (TS × Int32) :=
  F_X6_founded_l73 L xs xb F_X6_founded_x73 100 Y5 (0 : Int32)

noncomputable def F_X6_founded_l51 (L : Nat) (xs : Nat → Int32) (xa : Int32) (K_51 : TS → Option (TS × Int32)) : Nat → TS → Int32 → Option (TS × Int32)
  | 0, _, _ => none
  | n51 + 1, Y20, u19 =>
  br (xa ≤ u19) (K_51 Y20) (calt (F_X6_district L xs Y20 ) fun Y25 ra26 => br (ra26 = (0 : Int32)) (some (Y25, (0 : Int32))) ((F_X6_founded_l51 L xs xa K_51 n51) Y25 (u19 + (1 : Int32))))

noncomputable def F_X6_founded_x22 (L : Nat) (xs : Nat → Int32) (xa : Int32) (xb : Int32) (Y3 : TS) : Option (TS × Int32) :=
  F_X6_founded_l51 L xs xa (F_X6_founded_x51 L xs xb) 100 Y3 (0 : Int32)

noncomputable def F_X6_founded_l22 (L : Nat) (xs : Nat → Int32) (K_22 : TS → Option (TS × Int32)) : Nat → TS → Option (TS × Int32)
  | 0, _ => none
  | n22 + 1, Y29 =>
  bv (nI (Y29.1.1 1)) fun y31 => br ((6 : Int32) ≤ y31) (K_22 Y29) (calt (F_X6_draw L xs Y29 (4 : Int32)) fun Y35 ra36 => br (ra36 ≤ (0 : Int32)) (K_22 Y35) (calt (F_X6_candidate L xs Y35 ) fun Y40 ra41 => br (ra41 = (0 : Int32)) (some (Y40, (0 : Int32))) ((F_X6_founded_l22 L xs K_22 n22) Y40)))

noncomputable def F_X6_founded_x2 (L : Nat) (xs : Nat → Int32) (xa : Int32) (xb : Int32) (Y1 : TS) : Option (TS × Int32) :=
  F_X6_founded_l22 L xs (F_X6_founded_x22 L xs xa xb) 100 Y1

noncomputable def F_X6_founded_l2 (L : Nat) (xs : Nat → Int32) (K_2 : TS → Option (TS × Int32)) : Nat → TS → Int32 → Option (TS × Int32)
  | 0, _, _ => none
  | n2 + 1, Y45, u44 =>
  br ((3 : Int32) ≤ u44) (K_2 Y45) (calt (F_X6_candidate L xs Y45 ) fun Y50 ra51 => br (ra51 = (0 : Int32)) (some (Y50, (0 : Int32))) ((F_X6_founded_l2 L xs K_2 n2) Y50 (u44 + (1 : Int32))))

noncomputable def F_X6_founded (L : Nat) (xs : Nat → Int32) (Y : TS) (xa : Int32) (xb : Int32) : Option (TS × Int32) :=
  F_X6_founded_l2 L xs (F_X6_founded_x2 L xs xa xb) 100 Y (0 : Int32)

set_option maxHeartbeats 4000000 in
set_option maxRecDepth 100000 in
theorem c_X6_founded (l : Launch) (dC : Nat → ClassId) (dI : Nat → Nat → Nat) (q : Nat → ClassId) (ta aa : Nat → Nat) (sa : Nat) (L : Nat) (xs : Nat → Int32) (Y : TS) (xa : Int32) (xb : Int32) (sz : Nat)  (Yo : TS) (ro : Int32) (hF : F_X6_founded L xs Y xa xb = some (Yo, ro)) : Met l yX6_founded wsX6_founded ({ frames := 13, cells := 1100, slots := 16400, locals := 288 }) (va_Pc [.ref (ta 0), .int xa, .int xb] (fun U => pr_ dC dI (ww q ta aa sa Y) (bty q) sz U ∧ tx_ (va_A (ww q ta aa sa Y) sz) sa L xs U)) (va_Qi (fun (r : Int32) (_ : (Nat → Nat)) => r = ro) (fun (u : Nat → Nat) t => u 0 = ta 0 ∧ po_ dC dI (ww q u aa sa Yo) (bty q) (va_A (ww q ta aa sa Y) sz) t) (va_A (ww q ta aa sa Y) sz)) 1100 16400 (va_A (ww q ta aa sa Y) sz) := by
  refine Met.ofW (cc := cX6_founded) (maxL := 4) (ret := (some .boolean)) (by decide) rfl ?_
  intro p e s m args below meth c s₁ B hml hv
  obtain ⟨hargs, ⟨hsz, hP, hK, hD0⟩, hXs⟩ := hv
  have hx := B.exec
  have hb := B.bytes
  have hr := B.returns
  have hts := atoms_spec (ws := wsX6_founded) B.pre
  have hown : s.vm.findClass RX6 = some m.cls := findClass_of_methodNamed B.named
  have hlocks := B.notSynchronized
  subst hsz
  have hD := hD0.self (sz := s.heap.size)
  generalize hAe : va_A (ww q ta aa sa Y) s.heap.size = A at hD hXs ⊢
  have hA : ∀ x : Nat, s.heap.size ≤ x → A x := fun x h => by rw [← hAe]; exact Or.inr h
  have hS : va_S A s.heap s.heap [] := va_S.rf
  have hinX6 : ∀ w ∈ u_ws RX6 TX6 9, w ∈ wsX6_founded := by decide +kernel
  have hl := lv_entry ([.ref (ta 0), .int xa, .int xb]) (n := 4) (Nat.le_of_ble_eq_true rfl)
  refine w_ent hargs ?_
  rw [lg_entry_eq]
  generalize (lg_sl ([.ref (ta 0), .int xa, .int xb]) ++ List.replicate (4 - (lg_sl ([.ref (ta 0), .int xa, .int xb])).length) Slot.unset).toArray = ls at hl ⊢
  have hl : lv_has ls 4 [(0, .ref (ta 0)), (1, .int xa), (2, .int xb)] := hl
  unfold F_X6_founded at hF
  refine w_go (fun Q hQ => ?_)
  refine lv_iconst (v := 0) hx hb dX6_founded_0 (by decide) ?_
  refine lv_istore_n (lv' := [(3, .int 0), (0, .ref (ta 0)), (1, .int xa), (2, .int xb)]) hx hb dX6_founded_1 rfl hl (by decide) rfl (fun ls hl => ?_)
  have Jx2 : ∀ (Y1 : TS) (ta2 : Nat → Nat) (H : Heap) (locs : List Loc) (ls : Array Slot), ta2 0 = ta 0 → (F_X6_founded_x2 L xs xa xb) Y1 = some (Yo, ro) → va_P (dC, dI) vwCl (ww q ta2 aa sa Y1) H → va_D A (ww q ta2 aa sa Y1) → va_S A s.heap H locs → lv_has ls 4 [(0, .ref (ta2 0)), (1, .int xa), (2, .int xb)] → W p l e (headSpec wsX6_founded ({ frames := 13, cells := 1100, slots := 16400, locals := 288 } : Room)).room s m args below meth c H locs 100 2500 Q (F0 m 22 ls []) := by
    intro Y1 ta2 H locs ls hu9 hF hP hD hS hl
    unfold F_X6_founded_x2 at hF
    have Jx22 : ∀ (Y3 : TS) (ta4 : Nat → Nat) (H : Heap) (locs : List Loc) (ls : Array Slot), ta4 0 = ta 0 → (F_X6_founded_x22 L xs xa xb) Y3 = some (Yo, ro) → va_P (dC, dI) vwCl (ww q ta4 aa sa Y3) H → va_D A (ww q ta4 aa sa Y3) → va_S A s.heap H locs → lv_has ls 4 [(0, .ref (ta4 0)), (1, .int xa), (2, .int xb)] → W p l e (headSpec wsX6_founded ({ frames := 13, cells := 1100, slots := 16400, locals := 288 } : Room)).room s m args below meth c H locs 200 5000 Q (F0 m 49 ls []) := by
      intro Y3 ta4 H locs ls hu9 hF hP hD hS hl
      unfold F_X6_founded_x22 at hF
      refine lv_iconst (v := 0) hx hb dX6_founded_49 (by decide) ?_
      refine lv_istore_n (lv' := [(3, .int 0), (0, .ref (ta4 0)), (1, .int xa), (2, .int xb)]) hx hb dX6_founded_50 rfl hl (by decide) rfl (fun ls hl => ?_)
      have Jx51 : ∀ (Y5 : TS) (ta6 : Nat → Nat) (H : Heap) (locs : List Loc) (ls : Array Slot), ta6 0 = ta 0 → (F_X6_founded_x51 L xs xb) Y5 = some (Yo, ro) → va_P (dC, dI) vwCl (ww q ta6 aa sa Y5) H → va_D A (ww q ta6 aa sa Y5) → va_S A s.heap H locs → lv_has ls 4 [(0, .ref (ta6 0)), (2, .int xb)] → W p l e (headSpec wsX6_founded ({ frames := 13, cells := 1100, slots := 16400, locals := 288 } : Room)).room s m args below meth c H locs 300 7500 Q (F0 m 71 ls []) := by
        intro Y5 ta6 H locs ls hu9 hF hP hD hS hl
        unfold F_X6_founded_x51 at hF
        refine lv_iconst (v := 0) hx hb dX6_founded_71 (by decide) ?_
        refine lv_istore_n (lv' := [(3, .int 0), (0, .ref (ta6 0)), (2, .int xb)]) hx hb dX6_founded_72 rfl hl (by decide) rfl (fun ls hl => ?_)
        have Jx73 : ∀ (Y7 : TS) (ta8 : Nat → Nat) (H : Heap) (locs : List Loc) (ls : Array Slot), ta8 0 = ta 0 → F_X6_founded_x73 Y7 = some (Yo, ro) → va_P (dC, dI) vwCl (ww q ta8 aa sa Y7) H → va_D A (ww q ta8 aa sa Y7) → va_S A s.heap H locs → lv_has ls 4 [] → W p l e (headSpec wsX6_founded ({ frames := 13, cells := 1100, slots := 16400, locals := 288 } : Room)).room s m args below meth c H locs 1100 16400 Q (F0 m 93 ls []) := by
          intro Y7 ta8 H locs ls hu9 hF hP hD hS hl
          unfold F_X6_founded_x73 at hF
          refine lv_iconst (v := 1) hx hb dX6_founded_93 (by decide) ?_
          obtain ⟨e8, e9⟩ := some2t hF
          rw [← e8] at hP hD
          subst hQ
          refine W.widen (k := 1100) (n := 16400) (Nat.le_of_ble_eq_true rfl) (Nat.le_of_ble_eq_true rfl) ?_
          exact W.zret (v := 1) hx hb hr rfl (fun t ht hW => ⟨⟨1, ta8, rfl, e9.symm, hu9, po_mk ht hW hP hK hD⟩, hS.F ht⟩) hS.2.2 dX6_founded_94
        have L73 : ∀ (n73 : Nat) (cb73 sb73 : Nat) (Y10 : TS) (u9 : Int32) (ta11 : Nat → Nat) (H : Heap) (locs : List Loc) (ls : Array Slot), cb73 + 8 * n73 ≤ 1100 → sb73 + 89 * n73 ≤ 16400 → ta11 0 = ta 0 → F_X6_founded_l73 L xs xb F_X6_founded_x73 n73 Y10 u9 = some (Yo, ro) → va_P (dC, dI) vwCl (ww q ta11 aa sa Y10) H → va_D A (ww q ta11 aa sa Y10) → va_S A s.heap H locs → lv_has ls 4 [(3, .int u9), (0, .ref (ta11 0)), (2, .int xb)] → W p l e (headSpec wsX6_founded ({ frames := 13, cells := 1100, slots := 16400, locals := 288 } : Room)).room s m args below meth c H locs (cb73 + 0) (sb73 + 0) Q (F0 m 73 ls []) := by
          intro n73
          induction n73 with
          | zero =>
            intro cb73 sb73 Y10 u9 ta11 H locs ls hc9 hs9 hu9 hF
            rw [F_X6_founded_l73] at hF
            cases hF
          | succ n73 IH73 =>
            intro cb73 sb73 Y10 u9 ta11 H locs ls hc9 hs9 hu9 hF hP hD hS hl
            rw [F_X6_founded_l73] at hF
            refine W.widen (k := cb73 + 0) (n := sb73 + 0) (Nat.le_refl _) (Nat.le_refl _) ?_
            refine lv_iload_n hx hb dX6_founded_73 rfl (lv_at hl 0 rfl) ?_
            refine lv_iload_n hx hb dX6_founded_74 rfl (lv_at hl 2 rfl) ?_
            refine lv_icmp_ge (tgt := 93) hx hb dX6_founded_75 (by decide) (fun hc12 => ?_) (fun hc12 => ?_)
            · have hF := br_pos hc12 hF
              refine W.widen (k := 1100) (n := 16400) (by omega) (by omega) ?_
              exact Jx73 Y10 ta11 _ _ _ hu9 hF hP hD hS (lv_sub hl [] rfl)
            · have hF := br_neg hc12 hF
              refine lv_aload_n hx hb dX6_founded_78 rfl (lv_at hl 1 rfl) ?_
              obtain ⟨Y15, rr14, hC13, hF⟩ := calt_some hF
              have hFc := b_free (ws := ww q ta11 aa sa Y10) hD hS hA
              refine va_calli (va_runV (As := []) (rest := []) ⟨hx, hb, hml, hown, hts⟩ (c_X6_cast l dC dI q ta11 aa sa L xs Y10  _  _ _ hC13) (cwV 0 hts gX6_founded_X6_cast rfl rfl rfl (by decide +kernel) ⟨Nat.le_of_ble_eq_true rfl, Nat.le_of_ble_eq_true rfl⟩) ⟨pe_blind (tx_bl _ _ _ _), va_recv hK hP (ci := 8) (q0 := 0) rfl ww_0, fun U hU hW => ⟨rfl, pr_mk hU hW hP hK hD, tx_mk hU hW hS hFc hXs⟩⟩ rfl rfl hl.1 rfl (lv_room (Nat.le_of_ble_eq_true rfl)) dX6_founded_79 ⟨(show (cb73 + 0) + 8 ≤ 1100 from by omega), (show (sb73 + 0) + 89 ≤ 16400 from by omega)⟩) hS (fun x _ h => hFc x h) hFc (fun ra16 u t H1 locs ht hvm hw hB hz1 hk1 hS => ?_)
              obtain ⟨ta17, hu8⟩ : ∃ x : Nat → Nat, x = u := ⟨u, rfl⟩
              rw [← hu8] at hB
              obtain ⟨hu0, hP, hK1, hD1⟩ := hB
              rw [ht] at hP
              have hD := hD1.weaken (fun _ q9 _ h9 => hFc q9.1 h9)
              have et_ta17 : ta17 0 = ta 0 := hu0.trans (hu9)
              have hl := lv_sub hl [0, 1, 2] (show _ = [(3, .int u9), (0, .ref (ta11 0)), (2, .int xb)] from rfl)
              have hl : lv_has ls 4 [(3, .int u9), (0, .ref (ta17 0)), (2, .int xb)] := by rw [hu0]; exact hl
              generalize H1 = H at hP hS ⊢
              refine W.widen (k := (cb73 + 8)) (n := (sb73 + 89)) (show (cb73 + 0) + 8 ≤ (cb73 + 8) by omega) (show (sb73 + 0) + 89 ≤ (sb73 + 89) by omega) ?_
              obtain rfl : ra16 = rr14 := hw
              refine lv_if_ne (tgt := 87) hx hb dX6_founded_82 (by decide) (fun hc18 => ?_) (fun hc18 => ?_)
              · have hF := br_neg hc18 hF
                refine lv_iinc (k := 0) (v := (u9 + (1 : Int32))) (lv' := [(3, .int (u9 + (1 : Int32))), (0, .ref (ta17 0)), (2, .int xb)]) hx hb dX6_founded_87 hl rfl (ii_ _ _ _ (by decide)) (by decide) rfl (fun ls hl => ?_)
                refine lv_goto (tgt := 73) hx hb dX6_founded_90 (by decide) ?_
                refine W.widen (k := cb73 + 8) (n := sb73 + 89) (by omega) (by omega) ?_
                exact IH73 (cb73 + 8) (sb73 + 89) Y15 (u9 + (1 : Int32)) ta17 _ _ _ (by omega) (by omega) et_ta17 hF hP hD hS (lv_sub hl [0, 1, 2] rfl)
              · have hF := br_pos hc18 hF
                refine lv_iconst (v := 0) hx hb dX6_founded_85 (by decide) ?_
                obtain ⟨e8, e9⟩ := some2t hF
                rw [← e8] at hP hD
                subst hQ
                refine W.widen (k := 1100) (n := 16400) (show (cb73 + 8) ≤ 1100 by omega) (show (sb73 + 89) ≤ 16400 by omega) ?_
                exact W.zret (v := 0) hx hb hr rfl (fun t ht hW => ⟨⟨0, ta17, rfl, e9.symm, et_ta17, po_mk ht hW hP hK hD⟩, hS.F ht⟩) hS.2.2 dX6_founded_86
        exact L73 100 300 7500 Y5 (0 : Int32) ta6 _ _ _ (by decide) (by decide) hu9 hF hP hD hS (lv_sub hl [0, 1, 2] rfl)
      have L51 : ∀ (n51 : Nat) (cb51 sb51 : Nat) (Y20 : TS) (u19 : Int32) (ta21 : Nat → Nat) (H : Heap) (locs : List Loc) (ls : Array Slot), cb51 + 1 * n51 ≤ 300 → sb51 + 25 * n51 ≤ 7500 → ta21 0 = ta 0 → F_X6_founded_l51 L xs xa (F_X6_founded_x51 L xs xb) n51 Y20 u19 = some (Yo, ro) → va_P (dC, dI) vwCl (ww q ta21 aa sa Y20) H → va_D A (ww q ta21 aa sa Y20) → va_S A s.heap H locs → lv_has ls 4 [(3, .int u19), (0, .ref (ta21 0)), (1, .int xa), (2, .int xb)] → W p l e (headSpec wsX6_founded ({ frames := 13, cells := 1100, slots := 16400, locals := 288 } : Room)).room s m args below meth c H locs (cb51 + 0) (sb51 + 0) Q (F0 m 51 ls []) := by
        intro n51
        induction n51 with
        | zero =>
          intro cb51 sb51 Y20 u19 ta21 H locs ls hc9 hs9 hu9 hF
          rw [F_X6_founded_l51] at hF
          cases hF
        | succ n51 IH51 =>
          intro cb51 sb51 Y20 u19 ta21 H locs ls hc9 hs9 hu9 hF hP hD hS hl
          rw [F_X6_founded_l51] at hF
          refine W.widen (k := cb51 + 0) (n := sb51 + 0) (Nat.le_refl _) (Nat.le_refl _) ?_
          refine lv_iload_n hx hb dX6_founded_51 rfl (lv_at hl 0 rfl) ?_
          refine lv_iload_n hx hb dX6_founded_52 rfl (lv_at hl 2 rfl) ?_
          refine lv_icmp_ge (tgt := 71) hx hb dX6_founded_53 (by decide) (fun hc22 => ?_) (fun hc22 => ?_)
          · have hF := br_pos hc22 hF
            refine W.widen (k := 300) (n := 7500) (by omega) (by omega) ?_
            exact Jx51 Y20 ta21 _ _ _ hu9 hF hP hD hS (lv_sub hl [1, 3] rfl)
          · have hF := br_neg hc22 hF
            refine lv_aload_n hx hb dX6_founded_56 rfl (lv_at hl 1 rfl) ?_
            obtain ⟨Y25, rr24, hC23, hF⟩ := calt_some hF
            have hFc := b_free (ws := ww q ta21 aa sa Y20) hD hS hA
            refine va_calli (va_runV (As := []) (rest := []) ⟨hx, hb, hml, hown, hts⟩ (c_X6_district l dC dI q ta21 aa sa L xs Y20  _  _ _ hC23) (cwV 0 hts gX6_founded_X6_district rfl rfl rfl (by decide +kernel) ⟨Nat.le_of_ble_eq_true rfl, Nat.le_of_ble_eq_true rfl⟩) ⟨pe_blind (tx_bl _ _ _ _), va_recv hK hP (ci := 8) (q0 := 0) rfl ww_0, fun U hU hW => ⟨rfl, pr_mk hU hW hP hK hD, tx_mk hU hW hS hFc hXs⟩⟩ rfl rfl hl.1 rfl (lv_room (Nat.le_of_ble_eq_true rfl)) dX6_founded_57 ⟨(show (cb51 + 0) + 1 ≤ 1100 from by omega), (show (sb51 + 0) + 25 ≤ 16400 from by omega)⟩) hS (fun x _ h => hFc x h) hFc (fun ra26 u t H1 locs ht hvm hw hB hz1 hk1 hS => ?_)
            obtain ⟨ta27, hu8⟩ : ∃ x : Nat → Nat, x = u := ⟨u, rfl⟩
            rw [← hu8] at hB
            obtain ⟨hu0, hP, hK1, hD1⟩ := hB
            rw [ht] at hP
            have hD := hD1.weaken (fun _ q9 _ h9 => hFc q9.1 h9)
            have et_ta27 : ta27 0 = ta 0 := hu0.trans (hu9)
            have hl := lv_sub hl [0, 1, 2, 3] (show _ = [(3, .int u19), (0, .ref (ta21 0)), (1, .int xa), (2, .int xb)] from rfl)
            have hl : lv_has ls 4 [(3, .int u19), (0, .ref (ta27 0)), (1, .int xa), (2, .int xb)] := by rw [hu0]; exact hl
            generalize H1 = H at hP hS ⊢
            refine W.widen (k := (cb51 + 1)) (n := (sb51 + 25)) (show (cb51 + 0) + 1 ≤ (cb51 + 1) by omega) (show (sb51 + 0) + 25 ≤ (sb51 + 25) by omega) ?_
            obtain rfl : ra26 = rr24 := hw
            refine lv_if_ne (tgt := 65) hx hb dX6_founded_60 (by decide) (fun hc28 => ?_) (fun hc28 => ?_)
            · have hF := br_neg hc28 hF
              refine lv_iinc (k := 0) (v := (u19 + (1 : Int32))) (lv' := [(3, .int (u19 + (1 : Int32))), (0, .ref (ta27 0)), (1, .int xa), (2, .int xb)]) hx hb dX6_founded_65 hl rfl (ii_ _ _ _ (by decide)) (by decide) rfl (fun ls hl => ?_)
              refine lv_goto (tgt := 51) hx hb dX6_founded_68 (by decide) ?_
              refine W.widen (k := cb51 + 1) (n := sb51 + 25) (by omega) (by omega) ?_
              exact IH51 (cb51 + 1) (sb51 + 25) Y25 (u19 + (1 : Int32)) ta27 _ _ _ (by omega) (by omega) et_ta27 hF hP hD hS (lv_sub hl [0, 1, 2, 3] rfl)
            · have hF := br_pos hc28 hF
              refine lv_iconst (v := 0) hx hb dX6_founded_63 (by decide) ?_
              obtain ⟨e8, e9⟩ := some2t hF
              rw [← e8] at hP hD
              subst hQ
              refine W.widen (k := 1100) (n := 16400) (show (cb51 + 1) ≤ 1100 by omega) (show (sb51 + 25) ≤ 16400 by omega) ?_
              exact W.zret (v := 0) hx hb hr rfl (fun t ht hW => ⟨⟨0, ta27, rfl, e9.symm, et_ta27, po_mk ht hW hP hK hD⟩, hS.F ht⟩) hS.2.2 dX6_founded_64
      exact L51 100 200 5000 Y3 (0 : Int32) ta4 _ _ _ (by decide) (by decide) hu9 hF hP hD hS (lv_sub hl [0, 1, 2, 3] rfl)
    have L22 : ∀ (n22 : Nat) (cb22 sb22 : Nat) (Y29 : TS) (ta30 : Nat → Nat) (H : Heap) (locs : List Loc) (ls : Array Slot), cb22 + 1 * n22 ≤ 200 → sb22 + 25 * n22 ≤ 5000 → ta30 0 = ta 0 → F_X6_founded_l22 L xs (F_X6_founded_x22 L xs xa xb) n22 Y29 = some (Yo, ro) → va_P (dC, dI) vwCl (ww q ta30 aa sa Y29) H → va_D A (ww q ta30 aa sa Y29) → va_S A s.heap H locs → lv_has ls 4 [(0, .ref (ta30 0)), (1, .int xa), (2, .int xb)] → W p l e (headSpec wsX6_founded ({ frames := 13, cells := 1100, slots := 16400, locals := 288 } : Room)).room s m args below meth c H locs (cb22 + 0) (sb22 + 0) Q (F0 m 22 ls []) := by
      intro n22
      induction n22 with
      | zero =>
        intro cb22 sb22 Y29 ta30 H locs ls hc9 hs9 hu9 hF
        rw [F_X6_founded_l22] at hF
        cases hF
      | succ n22 IH22 =>
        intro cb22 sb22 Y29 ta30 H locs ls hc9 hs9 hu9 hF hP hD hS hl
        rw [F_X6_founded_l22] at hF
        refine W.widen (k := cb22 + 0) (n := sb22 + 0) (Nat.le_refl _) (Nat.le_refl _) ?_
        refine lv_aload_n hx hb dX6_founded_22 rfl (lv_at hl 0 rfl) ?_
        refine va_get (D := (dC, dI)) (ci := 8) (v := .ref (ta30 1)) (C := RX6) (T := TX6) (N := 9) hx hb hts hinX6 hown hK hP 0 ww_0 rfl 3 (by decide) (hts (.fieldLink RX6 16 "BallotLoomLaw$Told" "parties" "[I") (by decide +kernel)) (fun _ h9 => h9) rfl dX6_founded_23 ?_
        refine va_alen (v := nI (Y29.1.1 1)) hx hb hK hP 1 0 ww_1 rfl rfl dX6_founded_26 ?_
        refine lv_topi (fun y31 ey31 => ?_)
        have hF := bv_at ey31 hF
        refine lv_bipush (v := 6) hx hb dX6_founded_27 (by decide) ?_
        refine lv_icmp_ge (tgt := 49) hx hb dX6_founded_29 (by decide) (fun hc32 => ?_) (fun hc32 => ?_)
        · have hF := br_pos hc32 hF
          refine W.widen (k := 200) (n := 5000) (by omega) (by omega) ?_
          exact Jx22 Y29 ta30 _ _ _ hu9 hF hP hD hS (lv_sub hl [0, 1, 2] rfl)
        · have hF := br_neg hc32 hF
          refine lv_aload_n hx hb dX6_founded_32 rfl (lv_at hl 0 rfl) ?_
          refine lv_iconst (v := 4) hx hb dX6_founded_33 (by decide) ?_
          obtain ⟨Y35, rr34, hC33, hF⟩ := calt_some hF
          have hFc := b_free (ws := ww q ta30 aa sa Y29) hD hS hA
          refine va_calli (va_runV (As := [.int 4]) (rest := []) ⟨hx, hb, hml, hown, hts⟩ (c_X6_draw l dC dI q ta30 aa sa L xs Y29 (4 : Int32) _  _ _ hC33) (cwV 1 hts gX6_founded_X6_draw rfl rfl rfl (by decide +kernel) ⟨Nat.le_of_ble_eq_true rfl, Nat.le_of_ble_eq_true rfl⟩) ⟨pe_blind (sx_bl _ _ _ _), va_recv hK hP (ci := 8) (q0 := 0) rfl ww_0, fun U hU hW => ⟨rfl, pr_mk hU hW hP hK hD, sx_mk hU hW hS hFc hXs.1⟩⟩ rfl rfl hl.1 rfl (lv_room (Nat.le_of_ble_eq_true rfl)) dX6_founded_34 ⟨(show (cb22 + 0) + 0 ≤ 1100 from by omega), (show (sb22 + 0) + 0 ≤ 16400 from by omega)⟩) hS (fun x _ h => hFc x h) hFc (fun ra36 u t H1 locs ht hvm hw hB hz1 hk1 hS => ?_)
          obtain ⟨hP, hK1, hD1⟩ := hB
          rw [ht] at hP
          have hD := hD1.weaken (fun _ q9 _ h9 => hFc q9.1 h9)
          generalize H1 = H at hP hS ⊢
          refine W.widen (k := (cb22 + 0)) (n := (sb22 + 0)) (show (cb22 + 0) + 0 ≤ (cb22 + 0) by omega) (show (sb22 + 0) + 0 ≤ (sb22 + 0) by omega) ?_
          obtain rfl : ra36 = rr34 := hw
          refine lv_if_le (tgt := 49) hx hb dX6_founded_37 (by decide) (fun hc37 => ?_) (fun hc37 => ?_)
          · have hF := br_pos hc37 hF
            refine W.widen (k := 200) (n := 5000) (by omega) (by omega) ?_
            exact Jx22 Y35 ta30 _ _ _ hu9 hF hP hD hS (lv_sub hl [0, 1, 2] rfl)
          · have hF := br_neg hc37 hF
            refine lv_aload_n hx hb dX6_founded_40 rfl (lv_at hl 0 rfl) ?_
            obtain ⟨Y40, rr39, hC38, hF⟩ := calt_some hF
            have hFc := b_free (ws := ww q ta30 aa sa Y35) hD hS hA
            refine va_calli (va_runV (As := []) (rest := []) ⟨hx, hb, hml, hown, hts⟩ (c_X6_candidate l dC dI q ta30 aa sa L xs Y35  _  _ _ hC38) (cwV 0 hts gX6_founded_X6_candidate rfl rfl rfl (by decide +kernel) ⟨Nat.le_of_ble_eq_true rfl, Nat.le_of_ble_eq_true rfl⟩) ⟨pe_blind (tx_bl _ _ _ _), va_recv hK hP (ci := 8) (q0 := 0) rfl ww_0, fun U hU hW => ⟨rfl, pr_mk hU hW hP hK hD, tx_mk hU hW hS hFc hXs⟩⟩ rfl rfl hl.1 rfl (lv_room (Nat.le_of_ble_eq_true rfl)) dX6_founded_41 ⟨(show (cb22 + 0) + 1 ≤ 1100 from by omega), (show (sb22 + 0) + 25 ≤ 16400 from by omega)⟩) hS (fun x _ h => hFc x h) hFc (fun ra41 u t H1 locs ht hvm hw hB hz1 hk1 hS => ?_)
            obtain ⟨ta42, hu8⟩ : ∃ x : Nat → Nat, x = u := ⟨u, rfl⟩
            rw [← hu8] at hB
            obtain ⟨hu0, hP, hK1, hD1⟩ := hB
            rw [ht] at hP
            have hD := hD1.weaken (fun _ q9 _ h9 => hFc q9.1 h9)
            have et_ta42 : ta42 0 = ta 0 := hu0.trans (hu9)
            have hl := lv_sub hl [0, 1, 2] (show _ = [(0, .ref (ta30 0)), (1, .int xa), (2, .int xb)] from rfl)
            have hl : lv_has ls 4 [(0, .ref (ta42 0)), (1, .int xa), (2, .int xb)] := by rw [hu0]; exact hl
            generalize H1 = H at hP hS ⊢
            refine W.widen (k := (cb22 + 1)) (n := (sb22 + 25)) (show (cb22 + 0) + 1 ≤ (cb22 + 1) by omega) (show (sb22 + 0) + 25 ≤ (sb22 + 25) by omega) ?_
            obtain rfl : ra41 = rr39 := hw
            refine lv_if_ne (tgt := 22) hx hb dX6_founded_44 (by decide) (fun hc43 => ?_) (fun hc43 => ?_)
            · have hF := br_neg hc43 hF
              refine W.widen (k := cb22 + 1) (n := sb22 + 25) (by omega) (by omega) ?_
              exact IH22 (cb22 + 1) (sb22 + 25) Y40 ta42 _ _ _ (by omega) (by omega) et_ta42 hF hP hD hS (lv_sub hl [0, 1, 2] rfl)
            · have hF := br_pos hc43 hF
              refine lv_iconst (v := 0) hx hb dX6_founded_47 (by decide) ?_
              obtain ⟨e8, e9⟩ := some2t hF
              rw [← e8] at hP hD
              subst hQ
              refine W.widen (k := 1100) (n := 16400) (show (cb22 + 1) ≤ 1100 by omega) (show (sb22 + 25) ≤ 16400 by omega) ?_
              exact W.zret (v := 0) hx hb hr rfl (fun t ht hW => ⟨⟨0, ta42, rfl, e9.symm, et_ta42, po_mk ht hW hP hK hD⟩, hS.F ht⟩) hS.2.2 dX6_founded_48
    exact L22 100 100 2500 Y1 ta2 _ _ _ (by decide) (by decide) hu9 hF hP hD hS (lv_sub hl [0, 1, 2] rfl)
  have L2 : ∀ (n2 : Nat) (cb2 sb2 : Nat) (Y45 : TS) (u44 : Int32) (ta46 : Nat → Nat) (H : Heap) (locs : List Loc) (ls : Array Slot), cb2 + 1 * n2 ≤ 100 → sb2 + 25 * n2 ≤ 2500 → ta46 0 = ta 0 → F_X6_founded_l2 L xs (F_X6_founded_x2 L xs xa xb) n2 Y45 u44 = some (Yo, ro) → va_P (dC, dI) vwCl (ww q ta46 aa sa Y45) H → va_D A (ww q ta46 aa sa Y45) → va_S A s.heap H locs → lv_has ls 4 [(3, .int u44), (0, .ref (ta46 0)), (1, .int xa), (2, .int xb)] → W p l e (headSpec wsX6_founded ({ frames := 13, cells := 1100, slots := 16400, locals := 288 } : Room)).room s m args below meth c H locs (cb2 + 0) (sb2 + 0) Q (F0 m 2 ls []) := by
    intro n2
    induction n2 with
    | zero =>
      intro cb2 sb2 Y45 u44 ta46 H locs ls hc9 hs9 hu9 hF
      rw [F_X6_founded_l2] at hF
      cases hF
    | succ n2 IH2 =>
      intro cb2 sb2 Y45 u44 ta46 H locs ls hc9 hs9 hu9 hF hP hD hS hl
      rw [F_X6_founded_l2] at hF
      refine W.widen (k := cb2 + 0) (n := sb2 + 0) (Nat.le_refl _) (Nat.le_refl _) ?_
      refine lv_iload_n hx hb dX6_founded_2 rfl (lv_at hl 0 rfl) ?_
      refine lv_iconst (v := 3) hx hb dX6_founded_3 (by decide) ?_
      refine lv_icmp_ge (tgt := 22) hx hb dX6_founded_4 (by decide) (fun hc47 => ?_) (fun hc47 => ?_)
      · have hF := br_pos hc47 hF
        refine W.widen (k := 100) (n := 2500) (by omega) (by omega) ?_
        exact Jx2 Y45 ta46 _ _ _ hu9 hF hP hD hS (lv_sub hl [1, 2, 3] rfl)
      · have hF := br_neg hc47 hF
        refine lv_aload_n hx hb dX6_founded_7 rfl (lv_at hl 1 rfl) ?_
        obtain ⟨Y50, rr49, hC48, hF⟩ := calt_some hF
        have hFc := b_free (ws := ww q ta46 aa sa Y45) hD hS hA
        refine va_calli (va_runV (As := []) (rest := []) ⟨hx, hb, hml, hown, hts⟩ (c_X6_candidate l dC dI q ta46 aa sa L xs Y45  _  _ _ hC48) (cwV 0 hts gX6_founded_X6_candidate rfl rfl rfl (by decide +kernel) ⟨Nat.le_of_ble_eq_true rfl, Nat.le_of_ble_eq_true rfl⟩) ⟨pe_blind (tx_bl _ _ _ _), va_recv hK hP (ci := 8) (q0 := 0) rfl ww_0, fun U hU hW => ⟨rfl, pr_mk hU hW hP hK hD, tx_mk hU hW hS hFc hXs⟩⟩ rfl rfl hl.1 rfl (lv_room (Nat.le_of_ble_eq_true rfl)) dX6_founded_8 ⟨(show (cb2 + 0) + 1 ≤ 1100 from by omega), (show (sb2 + 0) + 25 ≤ 16400 from by omega)⟩) hS (fun x _ h => hFc x h) hFc (fun ra51 u t H1 locs ht hvm hw hB hz1 hk1 hS => ?_)
        obtain ⟨ta52, hu8⟩ : ∃ x : Nat → Nat, x = u := ⟨u, rfl⟩
        rw [← hu8] at hB
        obtain ⟨hu0, hP, hK1, hD1⟩ := hB
        rw [ht] at hP
        have hD := hD1.weaken (fun _ q9 _ h9 => hFc q9.1 h9)
        have et_ta52 : ta52 0 = ta 0 := hu0.trans (hu9)
        have hl := lv_sub hl [0, 1, 2, 3] (show _ = [(3, .int u44), (0, .ref (ta46 0)), (1, .int xa), (2, .int xb)] from rfl)
        have hl : lv_has ls 4 [(3, .int u44), (0, .ref (ta52 0)), (1, .int xa), (2, .int xb)] := by rw [hu0]; exact hl
        generalize H1 = H at hP hS ⊢
        refine W.widen (k := (cb2 + 1)) (n := (sb2 + 25)) (show (cb2 + 0) + 1 ≤ (cb2 + 1) by omega) (show (sb2 + 0) + 25 ≤ (sb2 + 25) by omega) ?_
        obtain rfl : ra51 = rr49 := hw
        refine lv_if_ne (tgt := 16) hx hb dX6_founded_11 (by decide) (fun hc53 => ?_) (fun hc53 => ?_)
        · have hF := br_neg hc53 hF
          refine lv_iinc (k := 0) (v := (u44 + (1 : Int32))) (lv' := [(3, .int (u44 + (1 : Int32))), (0, .ref (ta52 0)), (1, .int xa), (2, .int xb)]) hx hb dX6_founded_16 hl rfl (ii_ _ _ _ (by decide)) (by decide) rfl (fun ls hl => ?_)
          refine lv_goto (tgt := 2) hx hb dX6_founded_19 (by decide) ?_
          refine W.widen (k := cb2 + 1) (n := sb2 + 25) (by omega) (by omega) ?_
          exact IH2 (cb2 + 1) (sb2 + 25) Y50 (u44 + (1 : Int32)) ta52 _ _ _ (by omega) (by omega) et_ta52 hF hP hD hS (lv_sub hl [0, 1, 2, 3] rfl)
        · have hF := br_pos hc53 hF
          refine lv_iconst (v := 0) hx hb dX6_founded_14 (by decide) ?_
          obtain ⟨e8, e9⟩ := some2t hF
          rw [← e8] at hP hD
          subst hQ
          refine W.widen (k := 1100) (n := 16400) (show (cb2 + 1) ≤ 1100 by omega) (show (sb2 + 25) ≤ 16400 by omega) ?_
          exact W.zret (v := 0) hx hb hr rfl (fun t ht hW => ⟨⟨0, ta52, rfl, e9.symm, et_ta52, po_mk ht hW hP hK hD⟩, hS.F ht⟩) hS.2.2 dX6_founded_15
  exact L2 100 0 0 Y (0 : Int32) ta _ _ _ (by decide) (by decide) rfl hF hP hD hS (lv_sub hl [0, 1, 2, 3] rfl)
