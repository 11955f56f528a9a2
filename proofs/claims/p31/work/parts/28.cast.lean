/-! p31: isSpoiled (text): owed. -/
theorem c_X6_isSpoiled (l : Launch) (dC : Nat → ClassId) (dI : Nat → Nat → Nat) (q : Nat → ClassId) (ta aa : Nat → Nat) (sa : Nat) (L : Nat) (xs : Nat → Int32) (Y : TS) (xa : Int32) (sz : Nat) (ro : Int32) (hF : F_X6_isSpoiled L xs Y xa = some ro) : Met l yX6_isSpoiled wsX6_isSpoiled ({ frames := 11, cells := 6, slots := 60, locals := 240 }) (va_Pc [.ref (ta 0), .int xa] (fun U => pr_ dC dI (ww q ta aa sa Y) (bty q) sz U ∧ tx_ (va_A (ww q ta aa sa Y) sz) sa L xs U)) (va_Qi (fun (r : Int32) (_ : Unit) => r = ro) (fun (_ : Unit) t => po_ dC dI (ww q ta aa sa Y) (bty q) (va_A (ww q ta aa sa Y) sz) t) (va_A (ww q ta aa sa Y) sz)) 6 60 (va_A (ww q ta aa sa Y) sz) := by
  sorry

noncomputable def F_X6_candidate (L : Nat) (xs : Nat → Int32) (Y : TS) : Option (TS × Int32) :=
  bv (nI (Y.1.1 1)) fun y1 => br (y1 ≤ (5 : Int32)) (calt (F_X6_draw L xs Y (4 : Int32)) fun Y5 ra6 => gd (Y5.1.1 1 ≤ 24) <| bv (tgr Y5 1 ra6) fun Y9 => cal (F_X5_candidate Y9.2 ra6) fun z13 ra15 => bv (tz Y9 z13) fun Y14 => bv (nI (Y14.1.1 1)) fun y16 => bv (y16 - (1 : Int32)) fun y17 => br (ra15 = y17) (some (Y14, (1 : Int32))) (some (Y14, (0 : Int32)))) (some (Y, (1 : Int32)))

set_option maxHeartbeats 4000000 in
set_option maxRecDepth 100000 in
theorem c_X6_candidate (l : Launch) (dC : Nat → ClassId) (dI : Nat → Nat → Nat) (q : Nat → ClassId) (ta aa : Nat → Nat) (sa : Nat) (L : Nat) (xs : Nat → Int32) (Y : TS)  (sz : Nat)  (Yo : TS) (ro : Int32) (hF : F_X6_candidate L xs Y = some (Yo, ro)) : Met l yX6_candidate wsX6_candidate ({ frames := 4, cells := 1, slots := 25, locals := 83 }) (va_Pc [.ref (ta 0)] (fun U => pr_ dC dI (ww q ta aa sa Y) (bty q) sz U ∧ tx_ (va_A (ww q ta aa sa Y) sz) sa L xs U)) (va_Qi (fun (r : Int32) (_ : (Nat → Nat)) => r = ro) (fun (u : Nat → Nat) t => u 0 = ta 0 ∧ po_ dC dI (ww q u aa sa Yo) (bty q) (va_A (ww q ta aa sa Y) sz) t) (va_A (ww q ta aa sa Y) sz)) 1 25 (va_A (ww q ta aa sa Y) sz) := by
  refine Met.ofW (cc := cX6_candidate) (maxL := 2) (ret := (some .boolean)) (by decide) rfl ?_
  intro p e s m args below meth c s₁ B hml hv
  obtain ⟨hargs, ⟨hsz, hP, hK, hD0⟩, hXs⟩ := hv
  have hx := B.exec
  have hb := B.bytes
  have hr := B.returns
  have hts := atoms_spec (ws := wsX6_candidate) B.pre
  have hown : s.vm.findClass RX6 = some m.cls := findClass_of_methodNamed B.named
  have hlocks := B.notSynchronized
  subst hsz
  have hD := hD0.self (sz := s.heap.size)
  generalize hAe : va_A (ww q ta aa sa Y) s.heap.size = A at hD hXs ⊢
  have hA : ∀ x : Nat, s.heap.size ≤ x → A x := fun x h => by rw [← hAe]; exact Or.inr h
  have hS : va_S A s.heap s.heap [] := va_S.rf
  have hinX6 : ∀ w ∈ u_ws RX6 TX6 9, w ∈ wsX6_candidate := by decide +kernel
  have hl := lv_entry ([.ref (ta 0)]) (n := 2) (Nat.le_of_ble_eq_true rfl)
  refine w_ent hargs ?_
  rw [lg_entry_eq]
  generalize (lg_sl ([.ref (ta 0)]) ++ List.replicate (2 - (lg_sl ([.ref (ta 0)])).length) Slot.unset).toArray = ls at hl ⊢
  have hl : lv_has ls 2 [(0, .ref (ta 0))] := hl
  unfold F_X6_candidate at hF
  refine w_go (fun Q hQ => ?_)
  refine lv_aload_n hx hb dX6_candidate_0 rfl (lv_at hl 0 rfl) ?_
  refine va_get (D := (dC, dI)) (ci := 8) (v := .ref (ta 1)) (C := RX6) (T := TX6) (N := 9) hx hb hts hinX6 hown hK hP 0 ww_0 rfl 3 (by decide) (hts (.fieldLink RX6 16 "BallotLoomLaw$Told" "parties" "[I") (by decide +kernel)) (fun _ h9 => h9) rfl dX6_candidate_1 ?_
  refine va_alen (v := nI (Y.1.1 1)) hx hb hK hP 1 0 ww_1 rfl rfl dX6_candidate_4 ?_
  refine lv_topi (fun y1 ey1 => ?_)
  have hF := bv_at ey1 hF
  refine lv_iconst (v := 5) hx hb dX6_candidate_5 (by decide) ?_
  refine lv_icmp_le (tgt := 11) hx hb dX6_candidate_6 (by decide) (fun hc2 => ?_) (fun hc2 => ?_)
  · have hF := br_pos hc2 hF
    refine lv_aload_n hx hb dX6_candidate_11 rfl (lv_at hl 0 rfl) ?_
    refine lv_iconst (v := 4) hx hb dX6_candidate_12 (by decide) ?_
    obtain ⟨Y5, rr4, hC3, hF⟩ := calt_some hF
    have hFc := b_free (ws := ww q ta aa sa Y) hD hS hA
    refine va_calli (va_runV (As := [.int 4]) (rest := []) ⟨hx, hb, hml, hown, hts⟩ (c_X6_draw l dC dI q ta aa sa L xs Y (4 : Int32) _  _ _ hC3) (cwV 1 hts gX6_candidate_X6_draw rfl rfl rfl (by decide +kernel) ⟨Nat.le_of_ble_eq_true rfl, Nat.le_of_ble_eq_true rfl⟩) ⟨pe_blind (sx_bl _ _ _ _), va_recv hK hP (ci := 8) (q0 := 0) rfl ww_0, fun U hU hW => ⟨rfl, pr_mk hU hW hP hK hD, sx_mk hU hW hS hFc hXs.1⟩⟩ rfl rfl hl.1 rfl (lv_room (Nat.le_of_ble_eq_true rfl)) dX6_candidate_13 ⟨Nat.le_of_ble_eq_true rfl, Nat.le_of_ble_eq_true rfl⟩) hS (fun x _ h => hFc x h) hFc (fun ra6 u t H1 locs ht hvm hw hB hz1 hk1 hS => ?_)
    obtain ⟨hP, hK1, hD1⟩ := hB
    rw [ht] at hP
    have hD := hD1.weaken (fun _ q9 _ h9 => hFc q9.1 h9)
    generalize H1 = H at hP hS ⊢
    refine W.widen (k := 0) (n := 0) (Nat.le_refl _) (Nat.le_refl _) ?_
    obtain rfl : ra6 = rr4 := hw
    refine lv_istore_n (lv' := [(1, .int ra6), (0, .ref (ta 0))]) hx hb dX6_candidate_16 rfl hl (by decide) rfl (fun ls hl => ?_)
    refine lv_aload_n hx hb dX6_candidate_17 rfl (lv_at hl 1 rfl) ?_
    refine lv_aload_n hx hb dX6_candidate_18 rfl (lv_at hl 1 rfl) ?_
    refine va_get (D := (dC, dI)) (ci := 8) (v := .ref (ta 1)) (C := RX6) (T := TX6) (N := 9) hx hb hts hinX6 hown hK hP 0 ww_0 rfl 3 (by decide) (hts (.fieldLink RX6 16 "BallotLoomLaw$Told" "parties" "[I") (by decide +kernel)) (fun _ h9 => h9) rfl dX6_candidate_19 ?_
    refine lv_iload_n hx hb dX6_candidate_22 rfl (lv_at hl 0 rfl) ?_
    obtain ⟨hg8, hF⟩ := gd_some hF
    have hPc := one_P hP ww_1
    have hDc := one_D hD ww_1
    have hKc : va_K (dC, dI) vwCl [(q 0, .int)] s := hK.sub [0] rfl
    have hFc := b_free (ws := [(ta 1, .inl (q 0, Y5.1.1 1, .inl (Y5.1.2 1)))]) hDc hS hA
    refine va_callr (va_runS (As := [.ref (ta 1), .int ra6]) (rest := [.ref (ta 0)]) ⟨hx, hb, hml, hown, hts⟩ (c_X6_plus l dC dI (ta 1) (q 0) (Y5.1.1 1) (Y5.1.2 1) ra6 _ hg8) (va_cwS 2 hts gX6_candidate_X6_plus rfl rfl rfl (by decide +kernel) ⟨Nat.le_of_ble_eq_true rfl, Nat.le_of_ble_eq_true rfl⟩) ⟨pr_blind, fun U hU hW => ⟨rfl, pr_mk hU hW hPc hKc hDc⟩⟩ rfl rfl hl.1 rfl (lv_room (Nat.le_of_ble_eq_true rfl)) dX6_candidate_23 ⟨Nat.le_of_ble_eq_true rfl, Nat.le_of_ble_eq_true rfl⟩) hS (fun x _ h => hFc x h) hFc (fun b7 RES t H1 locs ht hvm hw hB hz1 hk1 hS => ?_)
    obtain ⟨hR, hP1, hK1, hD1⟩ := hB
    rw [hR]
    rw [ht] at hP1
    have hb1 := new_b hD1
    obtain ⟨hP, hD⟩ := grow_J (C := [(ta 1, .inl (q 0, Y5.1.1 1, .inl (Y5.1.2 1)))]) (b := b7) (e := .inl (q 0, Y5.1.1 1 + 1, .inl (gro (Y5.1.2 1) (Y5.1.1 1) ra6))) hP hD (one_C ww_1) hk1 hFc (hP1.sub [0] rfl) (hP1.sub [1] rfl) hb1 (hFc _ (Or.inr hb1))
    generalize H1 = H at hP hS ⊢
    refine W.widen (k := 1) (n := 25) (Nat.le_refl _) (Nat.le_refl _) ?_
    obtain ⟨Y9, eY9, hF⟩ := bv_some hF
    refine va_put (D := (dC, dI)) (ci := 8) (v := .ref b7) (ty := (.array .int)) (C := RX6) (T := TX6) (N := 9) hx hb hts hinX6 tyX6 tyX6_ok nmX6 hown hK hP hD hS 0 ww_0a rfl 3 (by decide) (hts (.fieldLink RX6 16 "BallotLoomLaw$Told" "parties" "[I") (by decide +kernel)) (fun _ h9 => h9) rfl (by decide +kernel) rfl rfl (Nat.le_of_ble_eq_true rfl) dX6_candidate_26 (fun H locs hP hD hS => ?_)
    have hP := gr_P (Or.inl ⟨rfl, rfl⟩) hP
    have hD := gr_D (Or.inl ⟨rfl, rfl⟩) hD
    obtain ⟨ta10, eta10⟩ : ∃ x : Nat → Nat, x = nt ta 1 b7 := ⟨_, rfl⟩
    rw [← eta10, ← eY9] at hP hD
    have hu0 : ta10 0 = ta 0 := by rw [eta10]; exact rfl
    have et_ta10 : ta10 0 = ta 0 := hu0.trans (rfl)
    have hl := lv_sub hl [0, 1] (show _ = [(1, .int ra6), (0, .ref (ta 0))] from rfl)
    have hl : lv_has ls 2 [(1, .int ra6), (0, .ref (ta10 0))] := by rw [hu0]; exact hl
    refine lv_aload_n hx hb dX6_candidate_29 rfl (lv_at hl 1 rfl) ?_
    refine va_get (D := (dC, dI)) (ci := 8) (v := .ref (aa 0)) (C := RX6) (T := TX6) (N := 9) hx hb hts hinX6 hown hK hP 0 ww_0 rfl 0 (by decide) (hts (.fieldLink RX6 10 "BallotLoomLaw$Told" "m" "LBallotLoom;") (by decide +kernel)) (fun _ h9 => h9) rfl dX6_candidate_30 ?_
    refine lv_iload_n hx hb dX6_candidate_33 rfl (lv_at hl 0 rfl) ?_
    obtain ⟨z13, rr12, hC11, hF⟩ := cal_some hF
    obtain ⟨Y14, eY14, hF⟩ := bv_some hF
    have hPc := sf_P hP
    have hDc := sf_D hD
    have hFc := b_free (ws := bw q aa Y9.2) hDc hS hA
    refine va_calli (va_runV (As := [.int ra6]) (rest := []) ⟨hx, hb, hml, hown, hts⟩ (c_X5_candidate l dC dI q aa Y9.2 ra6 _ _ _ hC11) (cwV 1 hts gX6_candidate_X5_candidate rfl rfl rfl (by decide +kernel) ⟨Nat.le_of_ble_eq_true rfl, Nat.le_of_ble_eq_true rfl⟩) ⟨pr_blind, va_recv hK hPc (ci := 7) (q0 := 0) rfl (bw_at (i := 0) (by decide) rfl), fun U hU hW => ⟨rfl, pr_mk hU hW hPc hK hDc⟩⟩ rfl rfl hl.1 rfl (lv_room (Nat.le_of_ble_eq_true rfl)) dX6_candidate_34 ⟨Nat.le_of_ble_eq_true rfl, Nat.le_of_ble_eq_true rfl⟩) hS (fun x _ h => hFc x h) hFc (fun ra15 u t H1 locs ht hvm hw hB hz1 hk1 hS => ?_)
    obtain ⟨hP1, hK1, hD1⟩ := hB
    rw [ht] at hP1
    obtain ⟨hP, hD⟩ := sf_J hP hD hk1 hFc hP1 hD1
    have eW : twl q ta10 (aa 0) sa Y9.1 ++ bw q aa z13 = ww q ta10 aa sa Y14 := by rw [eY14]; rfl
    rw [eW] at hP hD
    clear eW
    generalize H1 = H at hP hS ⊢
    refine W.widen (k := 1) (n := 25) (Nat.le_refl _) (Nat.le_refl _) ?_
    obtain rfl : ra15 = rr12 := hw
    refine lv_aload_n hx hb dX6_candidate_37 rfl (lv_at hl 1 rfl) ?_
    refine va_get (D := (dC, dI)) (ci := 8) (v := .ref (ta10 1)) (C := RX6) (T := TX6) (N := 9) hx hb hts hinX6 hown hK hP 0 ww_0 rfl 3 (by decide) (hts (.fieldLink RX6 16 "BallotLoomLaw$Told" "parties" "[I") (by decide +kernel)) (fun _ h9 => h9) rfl dX6_candidate_38 ?_
    refine va_alen (v := nI (Y14.1.1 1)) hx hb hK hP 1 0 ww_1 rfl rfl dX6_candidate_41 ?_
    refine lv_topi (fun y16 ey16 => ?_)
    have hF := bv_at ey16 hF
    refine lv_iconst (v := 1) hx hb dX6_candidate_42 (by decide) ?_
    refine lv_isub hx hb dX6_candidate_43 ?_
    refine lv_topi (fun y17 ey17 => ?_)
    have hF := bv_at ey17 hF
    refine lv_icmp_ne (tgt := 51) hx hb dX6_candidate_44 (by decide) (fun hc18 => ?_) (fun hc18 => ?_)
    · have hF := br_neg hc18 hF
      refine lv_iconst (v := 0) hx hb dX6_candidate_51 (by decide) ?_
      obtain ⟨e8, e9⟩ := some2t hF
      rw [← e8] at hP hD
      subst hQ
      refine W.widen (k := 1) (n := 25) (Nat.le_of_ble_eq_true rfl) (Nat.le_of_ble_eq_true rfl) ?_
      exact W.zret (v := 0) hx hb hr rfl (fun t ht hW => ⟨⟨0, ta10, rfl, e9.symm, et_ta10, po_mk ht hW hP hK hD⟩, hS.F ht⟩) hS.2.2 dX6_candidate_52
    · have hF := br_pos hc18 hF
      refine lv_iconst (v := 1) hx hb dX6_candidate_47 (by decide) ?_
      refine lv_goto (tgt := 52) hx hb dX6_candidate_48 (by decide) ?_
      obtain ⟨e8, e9⟩ := some2t hF
      rw [← e8] at hP hD
      subst hQ
      refine W.widen (k := 1) (n := 25) (Nat.le_of_ble_eq_true rfl) (Nat.le_of_ble_eq_true rfl) ?_
      exact W.zret (v := 1) hx hb hr rfl (fun t ht hW => ⟨⟨1, ta10, rfl, e9.symm, et_ta10, po_mk ht hW hP hK hD⟩, hS.F ht⟩) hS.2.2 dX6_candidate_52
  · have hF := br_neg hc2 hF
    refine lv_iconst (v := 1) hx hb dX6_candidate_9 (by decide) ?_
    obtain ⟨e8, e9⟩ := some2t hF
    rw [← e8] at hP hD
    subst hQ
    refine W.widen (k := 1) (n := 25) (Nat.le_of_ble_eq_true rfl) (Nat.le_of_ble_eq_true rfl) ?_
    exact W.zret (v := 1) hx hb hr rfl (fun t ht hW => ⟨⟨1, ta, rfl, e9.symm, rfl, po_mk ht hW hP hK hD⟩, hS.F ht⟩) hS.2.2 dX6_candidate_10

noncomputable def F_X6_district (L : Nat) (xs : Nat → Int32) (Y : TS) : Option (TS × Int32) :=
  calt (F_X6_draw L xs Y (5 : Int32)) fun Y3 ra4 => bv ((1 : Int32) + ra4) fun y5 => gd (Y3.1.1 3 ≤ 24) <| bv (tgr Y3 3 y5) fun Y8 => cal (F_X5_district Y8.2 y5) fun z12 ra14 => bv (tz Y8 z12) fun Y13 => bv (nI (Y13.1.1 3)) fun y15 => bv (y15 - (1 : Int32)) fun y16 => br (ra14 = y16) (some (Y13, (1 : Int32))) (some (Y13, (0 : Int32)))

set_option maxHeartbeats 4000000 in
set_option maxRecDepth 100000 in
theorem c_X6_district (l : Launch) (dC : Nat → ClassId) (dI : Nat → Nat → Nat) (q : Nat → ClassId) (ta aa : Nat → Nat) (sa : Nat) (L : Nat) (xs : Nat → Int32) (Y : TS)  (sz : Nat)  (Yo : TS) (ro : Int32) (hF : F_X6_district L xs Y = some (Yo, ro)) : Met l yX6_district wsX6_district ({ frames := 4, cells := 1, slots := 25, locals := 83 }) (va_Pc [.ref (ta 0)] (fun U => pr_ dC dI (ww q ta aa sa Y) (bty q) sz U ∧ tx_ (va_A (ww q ta aa sa Y) sz) sa L xs U)) (va_Qi (fun (r : Int32) (_ : (Nat → Nat)) => r = ro) (fun (u : Nat → Nat) t => u 0 = ta 0 ∧ po_ dC dI (ww q u aa sa Yo) (bty q) (va_A (ww q ta aa sa Y) sz) t) (va_A (ww q ta aa sa Y) sz)) 1 25 (va_A (ww q ta aa sa Y) sz) := by
  refine Met.ofW (cc := cX6_district) (maxL := 2) (ret := (some .boolean)) (by decide) rfl ?_
  intro p e s m args below meth c s₁ B hml hv
  obtain ⟨hargs, ⟨hsz, hP, hK, hD0⟩, hXs⟩ := hv
  have hx := B.exec
  have hb := B.bytes
  have hr := B.returns
  have hts := atoms_spec (ws := wsX6_district) B.pre
  have hown : s.vm.findClass RX6 = some m.cls := findClass_of_methodNamed B.named
  have hlocks := B.notSynchronized
  subst hsz
  have hD := hD0.self (sz := s.heap.size)
  generalize hAe : va_A (ww q ta aa sa Y) s.heap.size = A at hD hXs ⊢
  have hA : ∀ x : Nat, s.heap.size ≤ x → A x := fun x h => by rw [← hAe]; exact Or.inr h
  have hS : va_S A s.heap s.heap [] := va_S.rf
  have hinX6 : ∀ w ∈ u_ws RX6 TX6 9, w ∈ wsX6_district := by decide +kernel
  have hl := lv_entry ([.ref (ta 0)]) (n := 2) (Nat.le_of_ble_eq_true rfl)
  refine w_ent hargs ?_
  rw [lg_entry_eq]
  generalize (lg_sl ([.ref (ta 0)]) ++ List.replicate (2 - (lg_sl ([.ref (ta 0)])).length) Slot.unset).toArray = ls at hl ⊢
  have hl : lv_has ls 2 [(0, .ref (ta 0))] := hl
  unfold F_X6_district at hF
  refine w_go (fun Q hQ => ?_)
  refine lv_iconst (v := 1) hx hb dX6_district_0 (by decide) ?_
  refine lv_aload_n hx hb dX6_district_1 rfl (lv_at hl 0 rfl) ?_
  refine lv_iconst (v := 5) hx hb dX6_district_2 (by decide) ?_
  obtain ⟨Y3, rr2, hC1, hF⟩ := calt_some hF
  have hFc := b_free (ws := ww q ta aa sa Y) hD hS hA
  refine va_calli (va_runV (As := [.int 5]) (rest := [.int 1]) ⟨hx, hb, hml, hown, hts⟩ (c_X6_draw l dC dI q ta aa sa L xs Y (5 : Int32) _  _ _ hC1) (cwV 1 hts gX6_district_X6_draw rfl rfl rfl (by decide +kernel) ⟨Nat.le_of_ble_eq_true rfl, Nat.le_of_ble_eq_true rfl⟩) ⟨pe_blind (sx_bl _ _ _ _), va_recv hK hP (ci := 8) (q0 := 0) rfl ww_0, fun U hU hW => ⟨rfl, pr_mk hU hW hP hK hD, sx_mk hU hW hS hFc hXs.1⟩⟩ rfl rfl hl.1 rfl (lv_room (Nat.le_of_ble_eq_true rfl)) dX6_district_3 ⟨Nat.le_of_ble_eq_true rfl, Nat.le_of_ble_eq_true rfl⟩) hS (fun x _ h => hFc x h) hFc (fun ra4 u t H1 locs ht hvm hw hB hz1 hk1 hS => ?_)
  obtain ⟨hP, hK1, hD1⟩ := hB
  rw [ht] at hP
  have hD := hD1.weaken (fun _ q9 _ h9 => hFc q9.1 h9)
  generalize H1 = H at hP hS ⊢
  refine W.widen (k := 0) (n := 0) (Nat.le_refl _) (Nat.le_refl _) ?_
  obtain rfl : ra4 = rr2 := hw
  refine lv_iadd hx hb dX6_district_6 ?_
  refine lv_topi (fun y5 ey5 => ?_)
  have hF := bv_at ey5 hF
  refine lv_istore_n (lv' := [(1, .int y5), (0, .ref (ta 0))]) hx hb dX6_district_7 rfl hl (by decide) rfl (fun ls hl => ?_)
  refine lv_aload_n hx hb dX6_district_8 rfl (lv_at hl 1 rfl) ?_
  refine lv_aload_n hx hb dX6_district_9 rfl (lv_at hl 1 rfl) ?_
  refine va_get (D := (dC, dI)) (ci := 8) (v := .ref (ta 3)) (C := RX6) (T := TX6) (N := 9) hx hb hts hinX6 hown hK hP 0 ww_0 rfl 5 (by decide) (hts (.fieldLink RX6 24 "BallotLoomLaw$Told" "seats" "[I") (by decide +kernel)) (fun _ h9 => h9) rfl dX6_district_10 ?_
  refine lv_iload_n hx hb dX6_district_13 rfl (lv_at hl 0 rfl) ?_
  obtain ⟨hg7, hF⟩ := gd_some hF
  have hPc := one_P hP ww_3
  have hDc := one_D hD ww_3
  have hKc : va_K (dC, dI) vwCl [(q 0, .int)] s := hK.sub [0] rfl
  have hFc := b_free (ws := [(ta 3, .inl (q 0, Y3.1.1 3, .inl (Y3.1.2 3)))]) hDc hS hA
  refine va_callr (va_runS (As := [.ref (ta 3), .int y5]) (rest := [.ref (ta 0)]) ⟨hx, hb, hml, hown, hts⟩ (c_X6_plus l dC dI (ta 3) (q 0) (Y3.1.1 3) (Y3.1.2 3) y5 _ hg7) (va_cwS 2 hts gX6_district_X6_plus rfl rfl rfl (by decide +kernel) ⟨Nat.le_of_ble_eq_true rfl, Nat.le_of_ble_eq_true rfl⟩) ⟨pr_blind, fun U hU hW => ⟨rfl, pr_mk hU hW hPc hKc hDc⟩⟩ rfl rfl hl.1 rfl (lv_room (Nat.le_of_ble_eq_true rfl)) dX6_district_14 ⟨Nat.le_of_ble_eq_true rfl, Nat.le_of_ble_eq_true rfl⟩) hS (fun x _ h => hFc x h) hFc (fun b6 RES t H1 locs ht hvm hw hB hz1 hk1 hS => ?_)
  obtain ⟨hR, hP1, hK1, hD1⟩ := hB
  rw [hR]
  rw [ht] at hP1
  have hb1 := new_b hD1
  obtain ⟨hP, hD⟩ := grow_J (C := [(ta 3, .inl (q 0, Y3.1.1 3, .inl (Y3.1.2 3)))]) (b := b6) (e := .inl (q 0, Y3.1.1 3 + 1, .inl (gro (Y3.1.2 3) (Y3.1.1 3) y5))) hP hD (one_C ww_3) hk1 hFc (hP1.sub [0] rfl) (hP1.sub [1] rfl) hb1 (hFc _ (Or.inr hb1))
  generalize H1 = H at hP hS ⊢
  refine W.widen (k := 1) (n := 25) (Nat.le_refl _) (Nat.le_refl _) ?_
  obtain ⟨Y8, eY8, hF⟩ := bv_some hF
  refine va_put (D := (dC, dI)) (ci := 8) (v := .ref b6) (ty := (.array .int)) (C := RX6) (T := TX6) (N := 9) hx hb hts hinX6 tyX6 tyX6_ok nmX6 hown hK hP hD hS 0 ww_0a rfl 5 (by decide) (hts (.fieldLink RX6 24 "BallotLoomLaw$Told" "seats" "[I") (by decide +kernel)) (fun _ h9 => h9) rfl (by decide +kernel) rfl rfl (Nat.le_of_ble_eq_true rfl) dX6_district_17 (fun H locs hP hD hS => ?_)
  have hP := gr_P (Or.inr ⟨rfl, rfl⟩) hP
  have hD := gr_D (Or.inr ⟨rfl, rfl⟩) hD
  obtain ⟨ta9, eta9⟩ : ∃ x : Nat → Nat, x = nt ta 3 b6 := ⟨_, rfl⟩
  rw [← eta9, ← eY8] at hP hD
  have hu0 : ta9 0 = ta 0 := by rw [eta9]; exact rfl
  have et_ta9 : ta9 0 = ta 0 := hu0.trans (rfl)
  have hl := lv_sub hl [0, 1] (show _ = [(1, .int y5), (0, .ref (ta 0))] from rfl)
  have hl : lv_has ls 2 [(1, .int y5), (0, .ref (ta9 0))] := by rw [hu0]; exact hl
  refine lv_aload_n hx hb dX6_district_20 rfl (lv_at hl 1 rfl) ?_
  refine va_get (D := (dC, dI)) (ci := 8) (v := .ref (aa 0)) (C := RX6) (T := TX6) (N := 9) hx hb hts hinX6 hown hK hP 0 ww_0 rfl 0 (by decide) (hts (.fieldLink RX6 10 "BallotLoomLaw$Told" "m" "LBallotLoom;") (by decide +kernel)) (fun _ h9 => h9) rfl dX6_district_21 ?_
  refine lv_iload_n hx hb dX6_district_24 rfl (lv_at hl 0 rfl) ?_
  obtain ⟨z12, rr11, hC10, hF⟩ := cal_some hF
  obtain ⟨Y13, eY13, hF⟩ := bv_some hF
  have hPc := sf_P hP
  have hDc := sf_D hD
  have hFc := b_free (ws := bw q aa Y8.2) hDc hS hA
  refine va_calli (va_runV (As := [.int y5]) (rest := []) ⟨hx, hb, hml, hown, hts⟩ (c_X5_district l dC dI q aa Y8.2 y5 _ _ _ hC10) (cwV 1 hts gX6_district_X5_district rfl rfl rfl (by decide +kernel) ⟨Nat.le_of_ble_eq_true rfl, Nat.le_of_ble_eq_true rfl⟩) ⟨pr_blind, va_recv hK hPc (ci := 7) (q0 := 0) rfl (bw_at (i := 0) (by decide) rfl), fun U hU hW => ⟨rfl, pr_mk hU hW hPc hK hDc⟩⟩ rfl rfl hl.1 rfl (lv_room (Nat.le_of_ble_eq_true rfl)) dX6_district_25 ⟨Nat.le_of_ble_eq_true rfl, Nat.le_of_ble_eq_true rfl⟩) hS (fun x _ h => hFc x h) hFc (fun ra14 u t H1 locs ht hvm hw hB hz1 hk1 hS => ?_)
  obtain ⟨hP1, hK1, hD1⟩ := hB
  rw [ht] at hP1
  obtain ⟨hP, hD⟩ := sf_J hP hD hk1 hFc hP1 hD1
  have eW : twl q ta9 (aa 0) sa Y8.1 ++ bw q aa z12 = ww q ta9 aa sa Y13 := by rw [eY13]; rfl
  rw [eW] at hP hD
  clear eW
  generalize H1 = H at hP hS ⊢
  refine W.widen (k := 1) (n := 25) (Nat.le_refl _) (Nat.le_refl _) ?_
  obtain rfl : ra14 = rr11 := hw
  refine lv_aload_n hx hb dX6_district_28 rfl (lv_at hl 1 rfl) ?_
  refine va_get (D := (dC, dI)) (ci := 8) (v := .ref (ta9 3)) (C := RX6) (T := TX6) (N := 9) hx hb hts hinX6 hown hK hP 0 ww_0 rfl 5 (by decide) (hts (.fieldLink RX6 24 "BallotLoomLaw$Told" "seats" "[I") (by decide +kernel)) (fun _ h9 => h9) rfl dX6_district_29 ?_
  refine va_alen (v := nI (Y13.1.1 3)) hx hb hK hP 3 0 ww_3 rfl rfl dX6_district_32 ?_
  refine lv_topi (fun y15 ey15 => ?_)
  have hF := bv_at ey15 hF
  refine lv_iconst (v := 1) hx hb dX6_district_33 (by decide) ?_
  refine lv_isub hx hb dX6_district_34 ?_
  refine lv_topi (fun y16 ey16 => ?_)
  have hF := bv_at ey16 hF
  refine lv_icmp_ne (tgt := 42) hx hb dX6_district_35 (by decide) (fun hc17 => ?_) (fun hc17 => ?_)
  · have hF := br_neg hc17 hF
    refine lv_iconst (v := 0) hx hb dX6_district_42 (by decide) ?_
    obtain ⟨e8, e9⟩ := some2t hF
    rw [← e8] at hP hD
    subst hQ
    refine W.widen (k := 1) (n := 25) (Nat.le_of_ble_eq_true rfl) (Nat.le_of_ble_eq_true rfl) ?_
    exact W.zret (v := 0) hx hb hr rfl (fun t ht hW => ⟨⟨0, ta9, rfl, e9.symm, et_ta9, po_mk ht hW hP hK hD⟩, hS.F ht⟩) hS.2.2 dX6_district_43
  · have hF := br_pos hc17 hF
    refine lv_iconst (v := 1) hx hb dX6_district_38 (by decide) ?_
    refine lv_goto (tgt := 43) hx hb dX6_district_39 (by decide) ?_
    obtain ⟨e8, e9⟩ := some2t hF
    rw [← e8] at hP hD
    subst hQ
    refine W.widen (k := 1) (n := 25) (Nat.le_of_ble_eq_true rfl) (Nat.le_of_ble_eq_true rfl) ?_
    exact W.zret (v := 1) hx hb hr rfl (fun t ht hW => ⟨⟨1, ta9, rfl, e9.symm, et_ta9, po_mk ht hW hP hK hD⟩, hS.F ht⟩) hS.2.2 dX6_district_43

noncomputable def F_X6_cast_j86 (ra9 : Int32) (ra13 : Int32) (Y21 : TS) (y23 : Int32) (v29 : Int32) : Option (TS × Int32) :=
  gd (Y21.1.1 4 ≤ 24) <| bv (trw Y21 (upd (upd (upd (upd (zi) (0 : Int32).toNatClampNeg ra9) (1 : Int32).toNatClampNeg ra13) (2 : Int32).toNatClampNeg y23) (3 : Int32).toNatClampNeg v29)) fun Y32 => cal (F_X5_cast Y32.2 ra9 ra13 y23) fun z36 ra38 => bv (tz Y32 z36) fun Y37 => bv (nI (Y37.1.1 4)) fun y39 => bv (y39 - (1 : Int32)) fun y40 => br (ra38 = y40) (some (Y37, (1 : Int32))) (some (Y37, (0 : Int32)))

noncomputable def F_X6_cast_j51 (L : Nat) (xs : Nat → Int32) (ra9 : Int32) (ra13 : Int32) (Y16 : TS) (v18 : Int32) : Option (TS × Int32) :=
  calt (F_X6_draw L xs Y16 v18) fun Y21 ra22 => bv ((1 : Int32) + ra22) fun y23 => calp (F_X6_isSpoiled L xs Y21 ra13) fun ra28 => br (ra28 = (0 : Int32)) ((F_X6_cast_j86 ra9 ra13 Y21 y23) (0 : Int32)) ((F_X6_cast_j86 ra9 ra13 Y21 y23) (1 : Int32))

noncomputable def F_X6_cast (L : Nat) (xs : Nat → Int32) (Y : TS) : Option (TS × Int32) :=
  bv (nI (Y.1.1 4)) fun y1 => br ((23 : Int32) < y1) (some (Y, (1 : Int32))) (bv (Y.1.2 0 8) fun y3 => br (y3 = (0 : Int32)) (bv (nI (Y.1.1 3)) fun y5 => calt (F_X6_draw L xs Y y5) fun Y8 ra9 => calt (F_X6_ranks L xs Y8 ) fun Y12 ra13 => calt (F_X6_draw L xs Y12 (3 : Int32)) fun Y16 ra17 => br (ra17 = (0 : Int32)) ((F_X6_cast_j51 L xs ra9 ra13 Y16) (60 : Int32)) ((F_X6_cast_j51 L xs ra9 ra13 Y16) (9 : Int32))) (some (Y, (1 : Int32))))

set_option maxHeartbeats 4000000 in
set_option maxRecDepth 100000 in
theorem c_X6_cast (l : Launch) (dC : Nat → ClassId) (dI : Nat → Nat → Nat) (q : Nat → ClassId) (ta aa : Nat → Nat) (sa : Nat) (L : Nat) (xs : Nat → Int32) (Y : TS)  (sz : Nat)  (Yo : TS) (ro : Int32) (hF : F_X6_cast L xs Y = some (Yo, ro)) : Met l yX6_cast wsX6_cast ({ frames := 12, cells := 8, slots := 89, locals := 264 }) (va_Pc [.ref (ta 0)] (fun U => pr_ dC dI (ww q ta aa sa Y) (bty q) sz U ∧ tx_ (va_A (ww q ta aa sa Y) sz) sa L xs U)) (va_Qi (fun (r : Int32) (_ : (Nat → Nat)) => r = ro) (fun (u : Nat → Nat) t => u 0 = ta 0 ∧ po_ dC dI (ww q u aa sa Yo) (bty q) (va_A (ww q ta aa sa Y) sz) t) (va_A (ww q ta aa sa Y) sz)) 8 89 (va_A (ww q ta aa sa Y) sz) := by
  refine Met.ofW (cc := cX6_cast) (maxL := 5) (ret := (some .boolean)) (by decide) rfl ?_
  intro p e s m args below meth c s₁ B hml hv
  obtain ⟨hargs, ⟨hsz, hP, hK, hD0⟩, hXs⟩ := hv
  have hx := B.exec
  have hb := B.bytes
  have hr := B.returns
  have hts := atoms_spec (ws := wsX6_cast) B.pre
  have hown : s.vm.findClass RX6 = some m.cls := findClass_of_methodNamed B.named
  have hlocks := B.notSynchronized
  subst hsz
  have hD := hD0.self (sz := s.heap.size)
  generalize hAe : va_A (ww q ta aa sa Y) s.heap.size = A at hD hXs ⊢
  have hA : ∀ x : Nat, s.heap.size ≤ x → A x := fun x h => by rw [← hAe]; exact Or.inr h
  have hS : va_S A s.heap s.heap [] := va_S.rf
  have hinX6 : ∀ w ∈ u_ws RX6 TX6 9, w ∈ wsX6_cast := by decide +kernel
  have hl := lv_entry ([.ref (ta 0)]) (n := 5) (Nat.le_of_ble_eq_true rfl)
  refine w_ent hargs ?_
  rw [lg_entry_eq]
  generalize (lg_sl ([.ref (ta 0)]) ++ List.replicate (5 - (lg_sl ([.ref (ta 0)])).length) Slot.unset).toArray = ls at hl ⊢
  have hl : lv_has ls 5 [(0, .ref (ta 0))] := hl
  unfold F_X6_cast at hF
  refine w_go (fun Q hQ => ?_)
  refine lv_aload_n hx hb dX6_cast_0 rfl (lv_at hl 0 rfl) ?_
  refine va_get (D := (dC, dI)) (ci := 8) (v := .ref (ta 4)) (C := RX6) (T := TX6) (N := 9) hx hb hts hinX6 hown hK hP 0 ww_0 rfl 6 (by decide) (hts (.fieldLink RX6 28 "BallotLoomLaw$Told" "stacks" "[[I") (by decide +kernel)) (fun _ h9 => h9) rfl dX6_cast_1 ?_
  refine va_alen (v := nI (Y.1.1 4)) hx hb hK hP 4 4 ww_4 rfl rfl dX6_cast_4 ?_
  refine lv_topi (fun y1 ey1 => ?_)
  have hF := bv_at ey1 hF
  refine lv_bipush (v := 23) hx hb dX6_cast_5 (by decide) ?_
  refine lv_icmp_gt (tgt := 17) hx hb dX6_cast_7 (by decide) (fun hc2 => ?_) (fun hc2 => ?_)
  · have hF := br_pos hc2 hF
    refine lv_iconst (v := 1) hx hb dX6_cast_17 (by decide) ?_
    obtain ⟨e8, e9⟩ := some2t hF
    rw [← e8] at hP hD
    subst hQ
    refine W.widen (k := 8) (n := 89) (Nat.le_of_ble_eq_true rfl) (Nat.le_of_ble_eq_true rfl) ?_
    exact W.zret (v := 1) hx hb hr rfl (fun t ht hW => ⟨⟨1, ta, rfl, e9.symm, rfl, po_mk ht hW hP hK hD⟩, hS.F ht⟩) hS.2.2 dX6_cast_18
  · have hF := br_neg hc2 hF
    refine lv_aload_n hx hb dX6_cast_10 rfl (lv_at hl 0 rfl) ?_
    refine va_get (D := (dC, dI)) (ci := 8) (v := .int (Y.1.2 0 8)) (C := RX6) (T := TX6) (N := 9) hx hb hts hinX6 hown hK hP 0 ww_0 rfl 8 (by decide) (hts (.fieldLink RX6 105 "BallotLoomLaw$Told" "isSealed" "Z") (by decide +kernel)) (fun _ h9 => h9) rfl dX6_cast_11 ?_
    refine lv_topi (fun y3 ey3 => ?_)
    have hF := bv_at ey3 hF
    refine lv_if_eq (tgt := 19) hx hb dX6_cast_14 (by decide) (fun hc4 => ?_) (fun hc4 => ?_)
    · have hF := br_pos hc4 hF
      refine lv_aload_n hx hb dX6_cast_19 rfl (lv_at hl 0 rfl) ?_
      refine lv_aload_n hx hb dX6_cast_20 rfl (lv_at hl 0 rfl) ?_
      refine va_get (D := (dC, dI)) (ci := 8) (v := .ref (ta 3)) (C := RX6) (T := TX6) (N := 9) hx hb hts hinX6 hown hK hP 0 ww_0 rfl 5 (by decide) (hts (.fieldLink RX6 24 "BallotLoomLaw$Told" "seats" "[I") (by decide +kernel)) (fun _ h9 => h9) rfl dX6_cast_21 ?_
      refine va_alen (v := nI (Y.1.1 3)) hx hb hK hP 3 0 ww_3 rfl rfl dX6_cast_24 ?_
      refine lv_topi (fun y5 ey5 => ?_)
      have hF := bv_at ey5 hF
      obtain ⟨Y8, rr7, hC6, hF⟩ := calt_some hF
      have hFc := b_free (ws := ww q ta aa sa Y) hD hS hA
      refine va_calli (va_runV (As := [.int y5]) (rest := []) ⟨hx, hb, hml, hown, hts⟩ (c_X6_draw l dC dI q ta aa sa L xs Y y5 _  _ _ hC6) (cwV 1 hts gX6_cast_X6_draw rfl rfl rfl (by decide +kernel) ⟨Nat.le_of_ble_eq_true rfl, Nat.le_of_ble_eq_true rfl⟩) ⟨pe_blind (sx_bl _ _ _ _), va_recv hK hP (ci := 8) (q0 := 0) rfl ww_0, fun U hU hW => ⟨rfl, pr_mk hU hW hP hK hD, sx_mk hU hW hS hFc hXs.1⟩⟩ rfl rfl hl.1 rfl (lv_room (Nat.le_of_ble_eq_true rfl)) dX6_cast_25 ⟨Nat.le_of_ble_eq_true rfl, Nat.le_of_ble_eq_true rfl⟩) hS (fun x _ h => hFc x h) hFc (fun ra9 u t H1 locs ht hvm hw hB hz1 hk1 hS => ?_)
      obtain ⟨hP, hK1, hD1⟩ := hB
      rw [ht] at hP
      have hD := hD1.weaken (fun _ q9 _ h9 => hFc q9.1 h9)
      generalize H1 = H at hP hS ⊢
      refine W.widen (k := 0) (n := 0) (Nat.le_refl _) (Nat.le_refl _) ?_
      obtain rfl : ra9 = rr7 := hw
      refine lv_istore_n (lv' := [(1, .int ra9), (0, .ref (ta 0))]) hx hb dX6_cast_28 rfl hl (by decide) rfl (fun ls hl => ?_)
      refine lv_aload_n hx hb dX6_cast_29 rfl (lv_at hl 1 rfl) ?_
      obtain ⟨Y12, rr11, hC10, hF⟩ := calt_some hF
      have hFc := b_free (ws := ww q ta aa sa Y8) hD hS hA
      refine va_calli (va_runV (As := []) (rest := []) ⟨hx, hb, hml, hown, hts⟩ (c_X6_ranks l dC dI q ta aa sa L xs Y8  _  _ _ hC10) (cwV 0 hts gX6_cast_X6_ranks rfl rfl rfl (by decide +kernel) ⟨Nat.le_of_ble_eq_true rfl, Nat.le_of_ble_eq_true rfl⟩) ⟨pe_blind (sx_bl _ _ _ _), va_recv hK hP (ci := 8) (q0 := 0) rfl ww_0, fun U hU hW => ⟨rfl, pr_mk hU hW hP hK hD, sx_mk hU hW hS hFc hXs.1⟩⟩ rfl rfl hl.1 rfl (lv_room (Nat.le_of_ble_eq_true rfl)) dX6_cast_30 ⟨Nat.le_of_ble_eq_true rfl, Nat.le_of_ble_eq_true rfl⟩) hS (fun x _ h => hFc x h) hFc (fun ra13 u t H1 locs ht hvm hw hB hz1 hk1 hS => ?_)
      obtain ⟨hP, hK1, hD1⟩ := hB
      rw [ht] at hP
      have hD := hD1.weaken (fun _ q9 _ h9 => hFc q9.1 h9)
      generalize H1 = H at hP hS ⊢
      refine W.widen (k := 0) (n := 0) (Nat.le_refl _) (Nat.le_refl _) ?_
      obtain rfl : ra13 = rr11 := hw
      refine lv_istore_n (lv' := [(2, .int ra13), (1, .int ra9), (0, .ref (ta 0))]) hx hb dX6_cast_33 rfl hl (by decide) rfl (fun ls hl => ?_)
      refine lv_iconst (v := 1) hx hb dX6_cast_34 (by decide) ?_
      refine lv_aload_n hx hb dX6_cast_35 rfl (lv_at hl 2 rfl) ?_
      refine lv_aload_n hx hb dX6_cast_36 rfl (lv_at hl 2 rfl) ?_
      refine lv_iconst (v := 3) hx hb dX6_cast_37 (by decide) ?_
      obtain ⟨Y16, rr15, hC14, hF⟩ := calt_some hF
      have hFc := b_free (ws := ww q ta aa sa Y12) hD hS hA
      refine va_calli (va_runV (As := [.int 3]) (rest := [.ref (ta 0), .int 1]) ⟨hx, hb, hml, hown, hts⟩ (c_X6_draw l dC dI q ta aa sa L xs Y12 (3 : Int32) _  _ _ hC14) (cwV 1 hts gX6_cast_X6_draw rfl rfl rfl (by decide +kernel) ⟨Nat.le_of_ble_eq_true rfl, Nat.le_of_ble_eq_true rfl⟩) ⟨pe_blind (sx_bl _ _ _ _), va_recv hK hP (ci := 8) (q0 := 0) rfl ww_0, fun U hU hW => ⟨rfl, pr_mk hU hW hP hK hD, sx_mk hU hW hS hFc hXs.1⟩⟩ rfl rfl hl.1 rfl (lv_room (Nat.le_of_ble_eq_true rfl)) dX6_cast_38 ⟨Nat.le_of_ble_eq_true rfl, Nat.le_of_ble_eq_true rfl⟩) hS (fun x _ h => hFc x h) hFc (fun ra17 u t H1 locs ht hvm hw hB hz1 hk1 hS => ?_)
      obtain ⟨hP, hK1, hD1⟩ := hB
      rw [ht] at hP
      have hD := hD1.weaken (fun _ q9 _ h9 => hFc q9.1 h9)
      generalize H1 = H at hP hS ⊢
      refine W.widen (k := 0) (n := 0) (Nat.le_refl _) (Nat.le_refl _) ?_
      obtain rfl : ra17 = rr15 := hw
      have Jj51 : ∀ (v18 : Int32) (H : Heap) (locs : List Loc) (ls : Array Slot), (F_X6_cast_j51 L xs ra9 ra13 Y16) v18 = some (Yo, ro) → va_P (dC, dI) vwCl (ww q ta aa sa Y16) H → va_D A (ww q ta aa sa Y16) → va_S A s.heap H locs → lv_has ls 5 [(2, .int ra13), (1, .int ra9), (0, .ref (ta 0))] → W p l e (headSpec wsX6_cast ({ frames := 12, cells := 8, slots := 89, locals := 264 } : Room)).room s m args below meth c H locs 0 0 Q (F0 m 51 ls [.int v18, .ref (ta 0), .int 1]) := by
        intro v18 H locs ls hF hP hD hS hl
        unfold F_X6_cast_j51 at hF
        obtain ⟨Y21, rr20, hC19, hF⟩ := calt_some hF
        have hFc := b_free (ws := ww q ta aa sa Y16) hD hS hA
        refine va_calli (va_runV (As := [.int v18]) (rest := [.int 1]) ⟨hx, hb, hml, hown, hts⟩ (c_X6_draw l dC dI q ta aa sa L xs Y16 v18 _  _ _ hC19) (cwV 1 hts gX6_cast_X6_draw rfl rfl rfl (by decide +kernel) ⟨Nat.le_of_ble_eq_true rfl, Nat.le_of_ble_eq_true rfl⟩) ⟨pe_blind (sx_bl _ _ _ _), va_recv hK hP (ci := 8) (q0 := 0) rfl ww_0, fun U hU hW => ⟨rfl, pr_mk hU hW hP hK hD, sx_mk hU hW hS hFc hXs.1⟩⟩ rfl rfl hl.1 rfl (lv_room (Nat.le_of_ble_eq_true rfl)) dX6_cast_51 ⟨Nat.le_of_ble_eq_true rfl, Nat.le_of_ble_eq_true rfl⟩) hS (fun x _ h => hFc x h) hFc (fun ra22 u t H1 locs ht hvm hw hB hz1 hk1 hS => ?_)
        obtain ⟨hP, hK1, hD1⟩ := hB
        rw [ht] at hP
        have hD := hD1.weaken (fun _ q9 _ h9 => hFc q9.1 h9)
        generalize H1 = H at hP hS ⊢
        refine W.widen (k := 0) (n := 0) (Nat.le_refl _) (Nat.le_refl _) ?_
        obtain rfl : ra22 = rr20 := hw
        refine lv_iadd hx hb dX6_cast_54 ?_
        refine lv_topi (fun y23 ey23 => ?_)
        have hF := bv_at ey23 hF
        refine lv_istore_n (lv' := [(3, .int y23), (2, .int ra13), (1, .int ra9), (0, .ref (ta 0))]) hx hb dX6_cast_55 rfl hl (by decide) rfl (fun ls hl => ?_)
        refine lv_iconst (v := 4) hx hb dX6_cast_56 (by decide) ?_
        refine va_newa (atype := .int) (ty := .int) (N' := 4) (a0 := (4, .inl zi)) hx hb (hts (.arrayClass (newarray.typeOf .int)) (by decide +kernel)) rfl hK hP hD hS hA (fun _ => rfl) (by decide) (by decide) (by decide) (Nat.le_of_ble_eq_true rfl) (Nat.le_of_ble_eq_true rfl) dX6_cast_57 (fun r24 c25 H hK9 hP hD hS => ?_)
        have hcc : c25 = q 0 := ty_one (t := .int) hK9 5 0 rfl rfl (fun _ h => FieldType.noConfusion h)
        rw [hcc] at hP hD
        clear hK9
        have hP := va_P.swap (a := []) hP
        have hD := va_D.swap (a := []) hD
        have hP : va_P (dC, dI) vwCl ([(r24, .inl (q 0, 4, .inl (zi)))] ++ ww q ta aa sa Y21) H := hP
        have hD : va_D A ([(r24, .inl (q 0, 4, .inl (zi)))] ++ ww q ta aa sa Y21) := hD
        refine W.widen (k := 1) (n := 4) (Nat.le_refl _) (Nat.le_refl _) ?_
        refine lv_dup hx hb dX6_cast_59 rfl ?_
        refine lv_iconst (v := 0) hx hb dX6_cast_60 (by decide) ?_
        refine lv_iload_n hx hb dX6_cast_61 rfl (lv_at hl 2 rfl) ?_
        refine va_iast hx hb hK hP hD hS 0 0 rfl rfl (by unfold vp_in; decide) dX6_cast_62 (fun H locs hP hD hS => ?_)
        have hP : va_P (dC, dI) vwCl ([(r24, .inl (q 0, 4, .inl (upd (zi) (0 : Int32).toNatClampNeg ra9)))] ++ ww q ta aa sa Y21) H := hP
        have hD : va_D A ([(r24, .inl (q 0, 4, .inl (upd (zi) (0 : Int32).toNatClampNeg ra9)))] ++ ww q ta aa sa Y21) := hD
        refine lv_dup hx hb dX6_cast_63 rfl ?_
        refine lv_iconst (v := 1) hx hb dX6_cast_64 (by decide) ?_
        refine lv_iload_n hx hb dX6_cast_65 rfl (lv_at hl 1 rfl) ?_
        refine va_iast hx hb hK hP hD hS 0 0 rfl rfl (by unfold vp_in; decide) dX6_cast_66 (fun H locs hP hD hS => ?_)
        have hP : va_P (dC, dI) vwCl ([(r24, .inl (q 0, 4, .inl (upd (upd (zi) (0 : Int32).toNatClampNeg ra9) (1 : Int32).toNatClampNeg ra13)))] ++ ww q ta aa sa Y21) H := hP
        have hD : va_D A ([(r24, .inl (q 0, 4, .inl (upd (upd (zi) (0 : Int32).toNatClampNeg ra9) (1 : Int32).toNatClampNeg ra13)))] ++ ww q ta aa sa Y21) := hD
        refine lv_dup hx hb dX6_cast_67 rfl ?_
        refine lv_iconst (v := 2) hx hb dX6_cast_68 (by decide) ?_
        refine lv_iload_n hx hb dX6_cast_69 rfl (lv_at hl 0 rfl) ?_
        refine va_iast hx hb hK hP hD hS 0 0 rfl rfl (by unfold vp_in; decide) dX6_cast_70 (fun H locs hP hD hS => ?_)
        have hP : va_P (dC, dI) vwCl ([(r24, .inl (q 0, 4, .inl (upd (upd (upd (zi) (0 : Int32).toNatClampNeg ra9) (1 : Int32).toNatClampNeg ra13) (2 : Int32).toNatClampNeg y23)))] ++ ww q ta aa sa Y21) H := hP
        have hD : va_D A ([(r24, .inl (q 0, 4, .inl (upd (upd (upd (zi) (0 : Int32).toNatClampNeg ra9) (1 : Int32).toNatClampNeg ra13) (2 : Int32).toNatClampNeg y23)))] ++ ww q ta aa sa Y21) := hD
        refine lv_dup hx hb dX6_cast_71 rfl ?_
        refine lv_iconst (v := 3) hx hb dX6_cast_72 (by decide) ?_
        refine lv_aload_n hx hb dX6_cast_73 rfl (lv_at hl 3 rfl) ?_
        refine lv_iload_n hx hb dX6_cast_74 rfl (lv_at hl 1 rfl) ?_
        obtain ⟨rr27, hC26, hF⟩ := calp_some hF
        have hPc := sf_P hP
        have hDc := sf_D hD
        have hFc := b_free (ws := ww q ta aa sa Y21) hDc hS hA
        refine va_calli (va_runV (As := [.int ra13]) (rest := [.int 3, .ref r24, .ref r24]) ⟨hx, hb, hml, hown, hts⟩ (c_X6_isSpoiled l dC dI q ta aa sa L xs Y21 ra13 _  _ hC26) (cwV 1 hts gX6_cast_X6_isSpoiled rfl rfl rfl (by decide +kernel) ⟨Nat.le_of_ble_eq_true rfl, Nat.le_of_ble_eq_true rfl⟩) ⟨pe_blind (tx_bl _ _ _ _), va_recv hK hPc (ci := 8) (q0 := 0) rfl ww_0, fun U hU hW => ⟨rfl, pr_mk hU hW hPc hK hDc, tx_mk hU hW hS hFc hXs⟩⟩ rfl rfl hl.1 rfl (lv_room (Nat.le_of_ble_eq_true rfl)) dX6_cast_75 ⟨Nat.le_of_ble_eq_true rfl, Nat.le_of_ble_eq_true rfl⟩) hS (fun x _ h => hFc x h) hFc (fun ra28 u t H1 locs ht hvm hw hB hz1 hk1 hS => ?_)
        obtain ⟨hP1, hK1, hD1⟩ := hB
        rw [ht] at hP1
        obtain ⟨hP, hD⟩ := sf_J hP hD hk1 hFc hP1 hD1
        generalize H1 = H at hP hS ⊢
        refine W.widen (k := 7) (n := 64) (Nat.le_refl _) (Nat.le_refl _) ?_
        obtain rfl : ra28 = rr27 := hw
        have Jj86 : ∀ (v29 : Int32) (H : Heap) (locs : List Loc) (ls : Array Slot), (F_X6_cast_j86 ra9 ra13 Y21 y23) v29 = some (Yo, ro) → va_P (dC, dI) vwCl ([(r24, .inl (q 0, 4, .inl (upd (upd (upd (zi) (0 : Int32).toNatClampNeg ra9) (1 : Int32).toNatClampNeg ra13) (2 : Int32).toNatClampNeg y23)))] ++ ww q ta aa sa Y21) H → va_D A ([(r24, .inl (q 0, 4, .inl (upd (upd (upd (zi) (0 : Int32).toNatClampNeg ra9) (1 : Int32).toNatClampNeg ra13) (2 : Int32).toNatClampNeg y23)))] ++ ww q ta aa sa Y21) → va_S A s.heap H locs → lv_has ls 5 [(3, .int y23), (2, .int ra13), (1, .int ra9), (0, .ref (ta 0))] → W p l e (headSpec wsX6_cast ({ frames := 12, cells := 8, slots := 89, locals := 264 } : Room)).room s m args below meth c H locs 7 64 Q (F0 m 86 ls [.int v29, .int 3, .ref r24, .ref r24]) := by
          intro v29 H locs ls hF hP hD hS hl
          unfold F_X6_cast_j86 at hF
          refine va_iast hx hb hK hP hD hS 0 0 rfl rfl (by unfold vp_in; decide) dX6_cast_86 (fun H locs hP hD hS => ?_)
          have hP : va_P (dC, dI) vwCl ([(r24, .inl (q 0, 4, .inl (upd (upd (upd (upd (zi) (0 : Int32).toNatClampNeg ra9) (1 : Int32).toNatClampNeg ra13) (2 : Int32).toNatClampNeg y23) (3 : Int32).toNatClampNeg v29)))] ++ ww q ta aa sa Y21) H := hP
          have hD : va_D A ([(r24, .inl (q 0, 4, .inl (upd (upd (upd (upd (zi) (0 : Int32).toNatClampNeg ra9) (1 : Int32).toNatClampNeg ra13) (2 : Int32).toNatClampNeg y23) (3 : Int32).toNatClampNeg v29)))] ++ ww q ta aa sa Y21) := hD
          refine lv_astore (lv' := [(4, .ref r24), (3, .int y23), (2, .int ra13), (1, .int ra9), (0, .ref (ta 0))]) hx hb dX6_cast_87 hl (by decide) rfl (fun ls hl => ?_)
          refine lv_aload_n hx hb dX6_cast_89 rfl (lv_at hl 4 rfl) ?_
          refine lv_aload_n hx hb dX6_cast_90 rfl (lv_at hl 4 rfl) ?_
          refine va_get (D := (dC, dI)) (ci := 8) (v := .ref (ta 4)) (C := RX6) (T := TX6) (N := 9) hx hb hts hinX6 hown hK hP 1 (fx ww_0) rfl 6 (by decide) (hts (.fieldLink RX6 28 "BallotLoomLaw$Told" "stacks" "[[I") (by decide +kernel)) (fun _ h9 => h9) rfl dX6_cast_91 ?_
          refine lv_aload hx hb dX6_cast_94 (lv_at hl 0 rfl) ?_
          obtain ⟨hg31, hF⟩ := gd_some hF
          have hPc := pw_P hP
          have hDc := pw_D hD
          have hKc : va_K (dC, dI) vwCl [(q 0, .int), (q 4, .array .int)] s := hK.sub [0, 4] rfl
          have hFc := b_free (ws := pw q ta r24 (upd (upd (upd (upd (zi) (0 : Int32).toNatClampNeg ra9) (1 : Int32).toNatClampNeg ra13) (2 : Int32).toNatClampNeg y23) (3 : Int32).toNatClampNeg v29) Y21) hDc hS hA
          refine va_callr (va_runS (As := [.ref (ta 4), .ref r24]) (rest := [.ref (ta 0)]) ⟨hx, hb, hml, hown, hts⟩ (c_X6_plus_ l dC dI (ta 4) r24 (q 0) (q 4) (Y21.1.1 4) (fun k => if k < Y21.1.1 4 then some (ta (5 + k)) else none) (upd (upd (upd (upd (zi) (0 : Int32).toNatClampNeg ra9) (1 : Int32).toNatClampNeg ra13) (2 : Int32).toNatClampNeg y23) (3 : Int32).toNatClampNeg v29) (rwB q ta Y21.1) _ hg31 rwB_h) (va_cwS 2 hts gX6_cast_X6_plus_ rfl rfl rfl (by decide +kernel) ⟨Nat.le_of_ble_eq_true rfl, Nat.le_of_ble_eq_true rfl⟩) ⟨pe_blind qo_blm, fun U hU hW => ⟨rfl, pr_mk hU hW hPc hKc hDc, qo_mk hW hXs.2.2.1⟩⟩ rfl rfl hl.1 rfl (lv_room (Nat.le_of_ble_eq_true rfl)) dX6_cast_96 ⟨Nat.le_of_ble_eq_true rfl, Nat.le_of_ble_eq_true rfl⟩) hS (fun x _ h => hFc x h) hFc (fun b30 RES t H1 locs ht hvm hw hB hz1 hk1 hS => ?_)
          obtain ⟨hR, hP1, hK1, hD1⟩ := hB
          rw [hR]
          rw [ht] at hP1
          obtain ⟨hP, hD⟩ := pw_J hP hD hk1 hFc hP1 hD1
          generalize H1 = H at hP hS ⊢
          refine W.widen (k := 8) (n := 89) (Nat.le_refl _) (Nat.le_refl _) ?_
          obtain ⟨Y32, eY32, hF⟩ := bv_some hF
          refine va_put (D := (dC, dI)) (ci := 8) (v := .ref b30) (ty := (.array (.array .int))) (C := RX6) (T := TX6) (N := 9) hx hb hts hinX6 tyX6 tyX6_ok nmX6 hown hK hP hD hS 1 (fxa ww_0) rfl 6 (by decide) (hts (.fieldLink RX6 28 "BallotLoomLaw$Told" "stacks" "[[I") (by decide +kernel)) (fun _ h9 => h9) rfl (by decide +kernel) rfl rfl (Nat.le_of_ble_eq_true rfl) dX6_cast_99 (fun H locs hP hD hS => ?_)
          have hP := rw_P hP
          have hD := rw_D hD
          obtain ⟨ta33, eta33⟩ : ∃ x : Nat → Nat, x = nt (nt ta 4 b30) (5 + Y21.1.1 4) r24 := ⟨_, rfl⟩
          rw [← eta33, ← eY32] at hP hD
          have hu0 : ta33 0 = ta 0 := by rw [eta33]; exact nt_0
          have et_ta33 : ta33 0 = ta 0 := hu0.trans (rfl)
          have hl := lv_sub hl [0, 1, 2, 3, 4] (show _ = [(4, .ref r24), (3, .int y23), (2, .int ra13), (1, .int ra9), (0, .ref (ta 0))] from rfl)
          have hl : lv_has ls 5 [(4, .ref r24), (3, .int y23), (2, .int ra13), (1, .int ra9), (0, .ref (ta33 0))] := by rw [hu0]; exact hl
          refine lv_aload_n hx hb dX6_cast_102 rfl (lv_at hl 4 rfl) ?_
          refine va_get (D := (dC, dI)) (ci := 8) (v := .ref (aa 0)) (C := RX6) (T := TX6) (N := 9) hx hb hts hinX6 hown hK hP 0 ww_0 rfl 0 (by decide) (hts (.fieldLink RX6 10 "BallotLoomLaw$Told" "m" "LBallotLoom;") (by decide +kernel)) (fun _ h9 => h9) rfl dX6_cast_103 ?_
          refine lv_iload_n hx hb dX6_cast_106 rfl (lv_at hl 3 rfl) ?_
          refine lv_iload_n hx hb dX6_cast_107 rfl (lv_at hl 2 rfl) ?_
          refine lv_iload_n hx hb dX6_cast_108 rfl (lv_at hl 1 rfl) ?_
          obtain ⟨z36, rr35, hC34, hF⟩ := cal_some hF
          obtain ⟨Y37, eY37, hF⟩ := bv_some hF
          have hPc := sf_P hP
          have hDc := sf_D hD
          have hFc := b_free (ws := bw q aa Y32.2) hDc hS hA
          refine va_calli (va_runV (As := [.int ra9, .int ra13, .int y23]) (rest := []) ⟨hx, hb, hml, hown, hts⟩ (c_X5_cast l dC dI q aa Y32.2 ra9 ra13 y23 _ _ _ hC34) (cwV 3 hts gX6_cast_X5_cast rfl rfl rfl (by decide +kernel) ⟨Nat.le_of_ble_eq_true rfl, Nat.le_of_ble_eq_true rfl⟩) ⟨pr_blind, va_recv hK hPc (ci := 7) (q0 := 0) rfl (bw_at (i := 0) (by decide) rfl), fun U hU hW => ⟨rfl, pr_mk hU hW hPc hK hDc⟩⟩ rfl rfl hl.1 rfl (lv_room (Nat.le_of_ble_eq_true rfl)) dX6_cast_109 ⟨Nat.le_of_ble_eq_true rfl, Nat.le_of_ble_eq_true rfl⟩) hS (fun x _ h => hFc x h) hFc (fun ra38 u t H1 locs ht hvm hw hB hz1 hk1 hS => ?_)
          obtain ⟨hP1, hK1, hD1⟩ := hB
          rw [ht] at hP1
          obtain ⟨hP, hD⟩ := sf_J hP hD hk1 hFc hP1 hD1
          have eW : twl q ta33 (aa 0) sa Y32.1 ++ bw q aa z36 = ww q ta33 aa sa Y37 := by rw [eY37]; rfl
          rw [eW] at hP hD
          clear eW
          generalize H1 = H at hP hS ⊢
          refine W.widen (k := 8) (n := 89) (Nat.le_refl _) (Nat.le_refl _) ?_
          obtain rfl : ra38 = rr35 := hw
          refine lv_aload_n hx hb dX6_cast_112 rfl (lv_at hl 4 rfl) ?_
          refine va_get (D := (dC, dI)) (ci := 8) (v := .ref (ta33 4)) (C := RX6) (T := TX6) (N := 9) hx hb hts hinX6 hown hK hP 0 ww_0 rfl 6 (by decide) (hts (.fieldLink RX6 28 "BallotLoomLaw$Told" "stacks" "[[I") (by decide +kernel)) (fun _ h9 => h9) rfl dX6_cast_113 ?_
          refine va_alen (v := nI (Y37.1.1 4)) hx hb hK hP 4 4 ww_4 rfl rfl dX6_cast_116 ?_
          refine lv_topi (fun y39 ey39 => ?_)
          have hF := bv_at ey39 hF
          refine lv_iconst (v := 1) hx hb dX6_cast_117 (by decide) ?_
          refine lv_isub hx hb dX6_cast_118 ?_
          refine lv_topi (fun y40 ey40 => ?_)
          have hF := bv_at ey40 hF
          refine lv_icmp_ne (tgt := 126) hx hb dX6_cast_119 (by decide) (fun hc41 => ?_) (fun hc41 => ?_)
          · have hF := br_neg hc41 hF
            refine lv_iconst (v := 0) hx hb dX6_cast_126 (by decide) ?_
            obtain ⟨e8, e9⟩ := some2t hF
            rw [← e8] at hP hD
            subst hQ
            refine W.widen (k := 8) (n := 89) (Nat.le_of_ble_eq_true rfl) (Nat.le_of_ble_eq_true rfl) ?_
            exact W.zret (v := 0) hx hb hr rfl (fun t ht hW => ⟨⟨0, ta33, rfl, e9.symm, et_ta33, po_mk ht hW hP hK hD⟩, hS.F ht⟩) hS.2.2 dX6_cast_127
          · have hF := br_pos hc41 hF
            refine lv_iconst (v := 1) hx hb dX6_cast_122 (by decide) ?_
            refine lv_goto (tgt := 127) hx hb dX6_cast_123 (by decide) ?_
            obtain ⟨e8, e9⟩ := some2t hF
            rw [← e8] at hP hD
            subst hQ
            refine W.widen (k := 8) (n := 89) (Nat.le_of_ble_eq_true rfl) (Nat.le_of_ble_eq_true rfl) ?_
            exact W.zret (v := 1) hx hb hr rfl (fun t ht hW => ⟨⟨1, ta33, rfl, e9.symm, et_ta33, po_mk ht hW hP hK hD⟩, hS.F ht⟩) hS.2.2 dX6_cast_127
        refine lv_if_eq (tgt := 85) hx hb dX6_cast_78 (by decide) (fun hc42 => ?_) (fun hc42 => ?_)
        · have hF := br_pos hc42 hF
          refine lv_iconst (v := 0) hx hb dX6_cast_85 (by decide) ?_
          exact Jj86 (0 : Int32) _ _ _ hF hP hD hS (lv_sub hl [0, 1, 2, 3] rfl)
        · have hF := br_neg hc42 hF
          refine lv_iconst (v := 1) hx hb dX6_cast_81 (by decide) ?_
          refine lv_goto (tgt := 86) hx hb dX6_cast_82 (by decide) ?_
          exact Jj86 (1 : Int32) _ _ _ hF hP hD hS (lv_sub hl [0, 1, 2, 3] rfl)
      refine lv_if_ne (tgt := 49) hx hb dX6_cast_41 (by decide) (fun hc43 => ?_) (fun hc43 => ?_)
      · have hF := br_neg hc43 hF
        refine lv_bipush (v := 9) hx hb dX6_cast_49 (by decide) ?_
        exact Jj51 (9 : Int32) _ _ _ hF hP hD hS (lv_sub hl [0, 1, 2] rfl)
      · have hF := br_pos hc43 hF
        refine lv_bipush (v := 60) hx hb dX6_cast_44 (by decide) ?_
        refine lv_goto (tgt := 51) hx hb dX6_cast_46 (by decide) ?_
        exact Jj51 (60 : Int32) _ _ _ hF hP hD hS (lv_sub hl [0, 1, 2] rfl)
    · have hF := br_neg hc4 hF
      refine lv_iconst (v := 1) hx hb dX6_cast_17 (by decide) ?_
      obtain ⟨e8, e9⟩ := some2t hF
      rw [← e8] at hP hD
      subst hQ
      refine W.widen (k := 8) (n := 89) (Nat.le_of_ble_eq_true rfl) (Nat.le_of_ble_eq_true rfl) ?_
      exact W.zret (v := 1) hx hb hr rfl (fun t ht hW => ⟨⟨1, ta, rfl, e9.symm, rfl, po_mk ht hW hP hK hD⟩, hS.F ht⟩) hS.2.2 dX6_cast_18
