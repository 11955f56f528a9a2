/-! p31: what is sealed stays. -/
noncomputable def F_L_isSealed (L : Nat) (xs : Nat → Int32) (Y : TS) : Option (TS × Int32) :=
  bv (nI (Y.1.1 4)) fun y1 => calt (F_X6_draw L xs Y y1) fun Y4 ra5 => cal (F_X5_seal Y4.2 (1 : Int32)) fun z8 ra10 => bv (tz Y4 z8) fun Y9 => br (ra10 = (0 : Int32)) (cal (F_X5_seal Y9.2 (1 : Int32)) fun z14 ra16 => bv (tz Y9 z14) fun Y15 => br (ra16 = (0 : Int32)) (some (Y15, (0 : Int32))) (calp (F_X5_ofStack Y15.2 ra5 (2 : Int32)) fun ra20 => cal (F_X5_digest Y15.2 ) fun z23 ra25 => bv (tz Y15 z23) fun Y24 => calp (F_xX5_cast Y24.2 (0 : Int32) (1 : Int32) (1 : Int32)) fun _ => bv (ra20 - ra20 / (500 : Int32) * (500 : Int32)) fun y28 => bv ((1 : Int32) + y28) fun y29 => calp (F_xX5_recount Y24.2 ra5 y29) fun _ => calp (F_X5_ofStack Y24.2 ra5 (0 : Int32)) fun ra34 => bv ((1 : Int32) - ra34) fun y35 => calp (F_xX5_move Y24.2 ra5 y35) fun _ => cal (F_X5_digest Y24.2 ) fun z40 ra42 => bv (tz Y24 z40) fun Y41 => bv (lg_cmp ra42 ra25) fun y43 => br (y43 = (0 : Int32)) (cal (F_X5_seal Y41.2 (0 : Int32)) fun z47 ra49 => bv (tz Y41 z47) fun Y48 => br (ra49 = (0 : Int32)) (some (Y48, (0 : Int32))) (some (Y48, (1 : Int32)))) (some (Y41, (0 : Int32))))) (some (Y9, (0 : Int32)))

set_option maxHeartbeats 4000000 in
set_option maxRecDepth 100000 in
theorem c_L_isSealed (l : Launch) (hfl : l.stackTraces = false) (dC : Nat → ClassId) (dI : Nat → Nat → Nat) (q : Nat → ClassId) (ta aa : Nat → Nat) (sa : Nat) (L : Nat) (xs : Nat → Int32) (Y : TS) (tx : String) (sc : Nat) (sz : Nat) (Yo : TS) (ro : Int32) (hF : F_L_isSealed L xs Y = some (Yo, ro)) : Met l yL_isSealed wsL_isSealed ({ frames := 9, cells := 3, slots := 18, locals := 210 }) (va_Pc [.ref (ta 0)] (fun U => pr_ dC dI (ww q ta aa sa Y) (bty q) sz U ∧ sx_ (va_A (ww q ta aa sa Y) sz) sa L xs U ∧ xs_ (va_A (ww q ta aa sa Y) sz) 316 tx sc "java/lang/IllegalStateException" U)) (va_Qi (fun (r : Int32) (_ : Unit) => r = ro) (fun (_ : Unit) t => po_ dC dI (ww q ta aa sa Yo) (bty q) (va_A (ww q ta aa sa Y) sz) t) (va_A (ww q ta aa sa Y) sz)) 3 18 (va_A (ww q ta aa sa Y) sz) := by
  refine va_MetW (cc := cL_isSealed) (maxL := 9) (ret := (some .boolean)) (by decide) rfl ?_
  intro p e s m args below meth c s₁ B hml hv
  obtain ⟨hargs, ⟨hsz, hP, hK, hD0⟩, hXs⟩ := hv
  have hx := B.exec
  have hb := B.bytes
  have hr := B.returns
  have hts := atoms_spec (ws := wsL_isSealed) B.pre
  have htb : c.exceptionTable.toList = tableOf [(58, 121, 122, 123)] := vx_table (x := yL_isSealed) B (hts _ List.mem_cons_self)
  have hown : s.vm.findClass RL = some m.cls := findClass_of_methodNamed B.named
  have hlocks := B.notSynchronized
  subst hsz
  have hD := hD0.self (sz := s.heap.size)
  generalize hAe : va_A (ww q ta aa sa Y) s.heap.size = A at hD hXs ⊢
  have hA : ∀ x : Nat, s.heap.size ≤ x → A x := fun x h => by rw [← hAe]; exact Or.inr h
  have hS : va_S A s.heap s.heap [] := va_S.rf
  have hinX6 : ∀ w ∈ u_ws RX6 TX6 9, w ∈ wsL_isSealed := by decide +kernel
  have hl := lv_entry ([.ref (ta 0)]) (n := 9) (Nat.le_of_ble_eq_true rfl)
  refine w_ent hargs ?_
  rw [lg_entry_eq]
  generalize (lg_sl ([.ref (ta 0)]) ++ List.replicate (9 - (lg_sl ([.ref (ta 0)])).length) Slot.unset).toArray = ls at hl ⊢
  have hl : lv_has ls 9 [(0, .ref (ta 0))] := hl
  unfold F_L_isSealed at hF
  refine w_go (fun Q hQ => ?_)
  refine lv_aload_n hx hb dL_isSealed_0 rfl (lv_at hl 0 rfl) ?_
  refine va_get (D := (dC, dI)) (ci := 8) (v := .ref (aa 0)) (C := RX6) (T := TX6) (N := 9) hx hb hts hinX6 hown hK hP 0 ww_0 rfl 0 (by decide) (hts (.fieldLink RL 14 "BallotLoomLaw$Told" "m" "LBallotLoom;") (by decide +kernel)) (fun _ h9 => h9) rfl dL_isSealed_1 ?_
  refine lv_astore_n (lv' := [(1, .ref (aa 0)), (0, .ref (ta 0))]) hx hb dL_isSealed_4 rfl hl (by decide) rfl (fun ls hl => ?_)
  refine lv_aload_n hx hb dL_isSealed_5 rfl (lv_at hl 1 rfl) ?_
  refine lv_aload_n hx hb dL_isSealed_6 rfl (lv_at hl 1 rfl) ?_
  refine va_get (D := (dC, dI)) (ci := 8) (v := .ref (ta 4)) (C := RX6) (T := TX6) (N := 9) hx hb hts hinX6 hown hK hP 0 ww_0 rfl 6 (by decide) (hts (.fieldLink RL 29 "BallotLoomLaw$Told" "stacks" "[[I") (by decide +kernel)) (fun _ h9 => h9) rfl dL_isSealed_7 ?_
  refine va_alen (v := nI (Y.1.1 4)) hx hb hK hP 4 4 ww_4 rfl rfl dL_isSealed_10 ?_
  refine lv_topi (fun y1 ey1 => ?_)
  have hF := bv_at ey1 hF
  obtain ⟨Y4, rr3, hC2, hF⟩ := calt_some hF
  have hFc := b_free (ws := ww q ta aa sa Y) hD hS hA
  refine va_calli (va_runV (As := [.int y1]) (rest := []) ⟨hx, hb, hml, hown, hts⟩ (c_X6_draw l dC dI q ta aa sa L xs Y y1 _  _ _ hC2) (cwV 1 hts gL_isSealed_X6_draw rfl rfl rfl (by decide +kernel) ⟨Nat.le_of_ble_eq_true rfl, Nat.le_of_ble_eq_true rfl⟩) ⟨pe_blind (sx_bl _ _ _ _), va_recv hK hP (ci := 8) (q0 := 0) rfl ww_0, fun U hU hW => ⟨rfl, pr_mk hU hW hP hK hD, sx_mk hU hW hS hFc hXs.1⟩⟩ rfl rfl hl.1 rfl (lv_room (Nat.le_of_ble_eq_true rfl)) dL_isSealed_11 ⟨Nat.le_of_ble_eq_true rfl, Nat.le_of_ble_eq_true rfl⟩) hS (fun x _ h => hFc x h) hFc (fun ra5 u t H1 locs ht hvm hw hB hz1 hk1 hS => ?_)
  obtain ⟨hP, hK1, hD1⟩ := hB
  rw [ht] at hP
  have hD := hD1.weaken (fun _ q9 _ h9 => hFc q9.1 h9)
  generalize H1 = H at hP hS ⊢
  refine W.widen (k := 0) (n := 0) (Nat.le_refl _) (Nat.le_refl _) ?_
  obtain rfl : ra5 = rr3 := hw
  refine lv_istore_n (lv' := [(2, .int ra5), (1, .ref (aa 0)), (0, .ref (ta 0))]) hx hb dL_isSealed_14 rfl hl (by decide) rfl (fun ls hl => ?_)
  refine lv_iconst (v := 0) hx hb dL_isSealed_15 (by decide) ?_
  refine lv_istore_n (lv' := [(3, .int 0), (2, .int ra5), (1, .ref (aa 0)), (0, .ref (ta 0))]) hx hb dL_isSealed_16 rfl hl (by decide) rfl (fun ls hl => ?_)
  refine lv_aload_n hx hb dL_isSealed_17 rfl (lv_at hl 2 rfl) ?_
  refine lv_iconst (v := 1) hx hb dL_isSealed_18 (by decide) ?_
  obtain ⟨z8, rr7, hC6, hF⟩ := cal_some hF
  obtain ⟨Y9, eY9, hF⟩ := bv_some hF
  have hPc := sf_P hP
  have hDc := sf_D hD
  have hFc := b_free (ws := bw q aa Y4.2) hDc hS hA
  refine va_calli (va_runV (As := [.int 1]) (rest := []) ⟨hx, hb, hml, hown, hts⟩ (c_X5_seal l dC dI q aa Y4.2 (1 : Int32) _ _ _ hC6) (cwV 1 hts gL_isSealed_X5_seal rfl rfl rfl (by decide +kernel) ⟨Nat.le_of_ble_eq_true rfl, Nat.le_of_ble_eq_true rfl⟩) ⟨pr_blind, va_recv hK hPc (ci := 7) (q0 := 0) rfl (bw_at (i := 0) (by decide) rfl), fun U hU hW => ⟨rfl, pr_mk hU hW hPc hK hDc⟩⟩ rfl rfl hl.1 rfl (lv_room (Nat.le_of_ble_eq_true rfl)) dL_isSealed_19 ⟨Nat.le_of_ble_eq_true rfl, Nat.le_of_ble_eq_true rfl⟩) hS (fun x _ h => hFc x h) hFc (fun ra10 u t H1 locs ht hvm hw hB hz1 hk1 hS => ?_)
  obtain ⟨hP1, hK1, hD1⟩ := hB
  rw [ht] at hP1
  obtain ⟨hP, hD⟩ := sf_J hP hD hk1 hFc hP1 hD1
  have eW : twl q ta (aa 0) sa Y4.1 ++ bw q aa z8 = ww q ta aa sa Y9 := by rw [eY9]; rfl
  rw [eW] at hP hD
  clear eW
  generalize H1 = H at hP hS ⊢
  refine W.widen (k := 0) (n := 0) (Nat.le_refl _) (Nat.le_refl _) ?_
  obtain rfl : ra10 = rr7 := hw
  refine lv_if_ne (tgt := 33) hx hb dL_isSealed_22 (by decide) (fun hc11 => ?_) (fun hc11 => ?_)
  · have hF := br_neg hc11 hF
    refine lv_iconst (v := 0) hx hb dL_isSealed_33 (by decide) ?_
    obtain ⟨e8, e9⟩ := some2t hF
    rw [← e8] at hP hD
    subst hQ
    refine W.widen (k := 3) (n := 18) (Nat.le_of_ble_eq_true rfl) (Nat.le_of_ble_eq_true rfl) ?_
    exact W.zret (v := 0) hx hb hr rfl (fun t ht hW => ⟨⟨0, (), rfl, e9.symm, po_mk ht hW hP hK hD⟩, hS.F ht⟩) hS.2.2 dL_isSealed_34
  · have hF := br_pos hc11 hF
    refine lv_aload_n hx hb dL_isSealed_25 rfl (lv_at hl 2 rfl) ?_
    refine lv_iconst (v := 1) hx hb dL_isSealed_26 (by decide) ?_
    obtain ⟨z14, rr13, hC12, hF⟩ := cal_some hF
    obtain ⟨Y15, eY15, hF⟩ := bv_some hF
    have hPc := sf_P hP
    have hDc := sf_D hD
    have hFc := b_free (ws := bw q aa Y9.2) hDc hS hA
    refine va_calli (va_runV (As := [.int 1]) (rest := []) ⟨hx, hb, hml, hown, hts⟩ (c_X5_seal l dC dI q aa Y9.2 (1 : Int32) _ _ _ hC12) (cwV 1 hts gL_isSealed_X5_seal rfl rfl rfl (by decide +kernel) ⟨Nat.le_of_ble_eq_true rfl, Nat.le_of_ble_eq_true rfl⟩) ⟨pr_blind, va_recv hK hPc (ci := 7) (q0 := 0) rfl (bw_at (i := 0) (by decide) rfl), fun U hU hW => ⟨rfl, pr_mk hU hW hPc hK hDc⟩⟩ rfl rfl hl.1 rfl (lv_room (Nat.le_of_ble_eq_true rfl)) dL_isSealed_27 ⟨Nat.le_of_ble_eq_true rfl, Nat.le_of_ble_eq_true rfl⟩) hS (fun x _ h => hFc x h) hFc (fun ra16 u t H1 locs ht hvm hw hB hz1 hk1 hS => ?_)
    obtain ⟨hP1, hK1, hD1⟩ := hB
    rw [ht] at hP1
    obtain ⟨hP, hD⟩ := sf_J hP hD hk1 hFc hP1 hD1
    have eW : twl q ta (aa 0) sa Y9.1 ++ bw q aa z14 = ww q ta aa sa Y15 := by rw [eY15]; rfl
    rw [eW] at hP hD
    clear eW
    generalize H1 = H at hP hS ⊢
    refine W.widen (k := 0) (n := 0) (Nat.le_refl _) (Nat.le_refl _) ?_
    obtain rfl : ra16 = rr13 := hw
    refine lv_if_ne (tgt := 35) hx hb dL_isSealed_30 (by decide) (fun hc17 => ?_) (fun hc17 => ?_)
    · have hF := br_neg hc17 hF
      refine lv_aload_n hx hb dL_isSealed_35 rfl (lv_at hl 2 rfl) ?_
      refine lv_iload_n hx hb dL_isSealed_36 rfl (lv_at hl 1 rfl) ?_
      refine lv_iconst (v := 2) hx hb dL_isSealed_37 (by decide) ?_
      obtain ⟨rr19, hC18, hF⟩ := calp_some hF
      have hPc := sf_P hP
      have hDc := sf_D hD
      have hFc := b_free (ws := bw q aa Y15.2) hDc hS hA
      refine va_calli (va_runV (As := [.int ra5, .int 2]) (rest := []) ⟨hx, hb, hml, hown, hts⟩ (c_X5_ofStack l dC dI q aa Y15.2 ra5 (2 : Int32) _ _ hC18) (cwV 2 hts gL_isSealed_X5_ofStack rfl rfl rfl (by decide +kernel) ⟨Nat.le_of_ble_eq_true rfl, Nat.le_of_ble_eq_true rfl⟩) ⟨pr_blind, va_recv hK hPc (ci := 7) (q0 := 0) rfl (bw_at (i := 0) (by decide) rfl), fun U hU hW => ⟨rfl, pr_mk hU hW hPc hK hDc⟩⟩ rfl rfl hl.1 rfl (lv_room (Nat.le_of_ble_eq_true rfl)) dL_isSealed_38 ⟨Nat.le_of_ble_eq_true rfl, Nat.le_of_ble_eq_true rfl⟩) hS (fun x _ h => hFc x h) hFc (fun ra20 u t H1 locs ht hvm hw hB hz1 hk1 hS => ?_)
      obtain ⟨hP1, hK1, hD1⟩ := hB
      rw [ht] at hP1
      obtain ⟨hP, hD⟩ := sf_J hP hD hk1 hFc hP1 hD1
      generalize H1 = H at hP hS ⊢
      refine W.widen (k := 0) (n := 0) (Nat.le_refl _) (Nat.le_refl _) ?_
      obtain rfl : ra20 = rr19 := hw
      refine lv_istore (lv' := [(4, .int ra20), (3, .int 0), (2, .int ra5), (1, .ref (aa 0)), (0, .ref (ta 0))]) hx hb dL_isSealed_41 hl (by decide) rfl (fun ls hl => ?_)
      refine lv_aload_n hx hb dL_isSealed_43 rfl (lv_at hl 3 rfl) ?_
      obtain ⟨z23, rr22, hC21, hF⟩ := cal_some hF
      obtain ⟨Y24, eY24, hF⟩ := bv_some hF
      have hPc := sf_P hP
      have hDc := sf_D hD
      have hFc := b_free (ws := bw q aa Y15.2) hDc hS hA
      refine va_calll (va_runV (As := []) (rest := []) ⟨hx, hb, hml, hown, hts⟩ (c_X5_digest l dC dI q aa Y15.2  _ _ _ hC21) (cwV 0 hts gL_isSealed_X5_digest rfl rfl rfl (by decide +kernel) ⟨Nat.le_of_ble_eq_true rfl, Nat.le_of_ble_eq_true rfl⟩) ⟨pr_blind, va_recv hK hPc (ci := 7) (q0 := 0) rfl (bw_at (i := 0) (by decide) rfl), fun U hU hW => ⟨rfl, pr_mk hU hW hPc hK hDc⟩⟩ rfl rfl hl.1 rfl (lv_room (Nat.le_of_ble_eq_true rfl)) dL_isSealed_44 ⟨Nat.le_of_ble_eq_true rfl, Nat.le_of_ble_eq_true rfl⟩) hS (fun x _ h => hFc x h) hFc (fun ra25 u t H1 locs ht hvm hw hB hz1 hk1 hS => ?_)
      obtain ⟨hP1, hK1, hD1⟩ := hB
      rw [ht] at hP1
      obtain ⟨hP, hD⟩ := sf_J hP hD hk1 hFc hP1 hD1
      have eW : twl q ta (aa 0) sa Y15.1 ++ bw q aa z23 = ww q ta aa sa Y24 := by rw [eY24]; rfl
      rw [eW] at hP hD
      clear eW
      generalize H1 = H at hP hS ⊢
      refine W.widen (k := 0) (n := 0) (Nat.le_refl _) (Nat.le_refl _) ?_
      obtain rfl : ra25 = rr22 := hw
      refine lv_lstore (lv' := [(5, .long ra25), (4, .int ra20), (3, .int 0), (2, .int ra5), (1, .ref (aa 0)), (0, .ref (ta 0))]) hx hb dL_isSealed_47 hl (by decide) rfl (fun ls hl => ?_)
      refine lv_iconst (v := 0) hx hb dL_isSealed_49 (by decide) ?_
      refine lv_istore (lv' := [(7, .int 0), (5, .long ra25), (4, .int ra20), (3, .int 0), (2, .int ra5), (1, .ref (aa 0)), (0, .ref (ta 0))]) hx hb dL_isSealed_50 hl (by decide) rfl (fun ls hl => ?_)
      refine lv_iload hx hb dL_isSealed_52 (lv_at hl 0 rfl) ?_
      refine lv_iconst (v := 3) hx hb dL_isSealed_54 (by decide) ?_
      refine lv_icmp_ge (tgt := 133) hx hb dL_isSealed_55 (by decide) (fun h9 => absurd h9 (by decide)) (fun _ => ?_)
      refine lv_iload hx hb dL_isSealed_58 (lv_at hl 0 rfl) ?_
      refine lv_if_ne (tgt := 73) hx hb dL_isSealed_60 (by decide) (fun h9 => absurd h9 (by decide)) (fun _ => ?_)
      refine lv_aload_n hx hb dL_isSealed_63 rfl (lv_at hl 5 rfl) ?_
      refine lv_iconst (v := 0) hx hb dL_isSealed_64 (by decide) ?_
      refine lv_iconst (v := 1) hx hb dL_isSealed_65 (by decide) ?_
      refine lv_iconst (v := 1) hx hb dL_isSealed_66 (by decide) ?_
      obtain ⟨_, hC26, hF⟩ := calp_some hF
      have hPc := sf_P hP
      have hDc := sf_D hD
      have hFc := b_free (ws := bw q aa Y24.2) hDc hS hA
      refine vx_calli (vx_runV (As := [.int 0, .int 1, .int 1]) (rest := []) ⟨hx, hb, hml, hown, hts⟩ (cx_X5_cast l hfl dC dI q aa Y24.2 (0 : Int32) (1 : Int32) (1 : Int32) tx sc _ _ hC26) (cwV 3 hts gL_isSealed_X5_cast rfl rfl rfl (by decide +kernel) ⟨Nat.le_of_ble_eq_true rfl, Nat.le_of_ble_eq_true rfl⟩) ⟨px_blind, va_recv hK hPc (ci := 7) (q0 := 0) rfl (bw_at (i := 0) (by decide) rfl), fun U hU hW => ⟨rfl, pr_mk hU hW hPc hK hDc, xs_mk hU hW hS hFc hXs.2⟩⟩ rfl rfl hl.1 rfl (lv_room (Nat.le_of_ble_eq_true rfl)) dL_isSealed_67 ⟨Nat.le_of_ble_eq_true rfl, Nat.le_of_ble_eq_true rfl⟩) hS (fun q _ h => hFc q h) hFc (fun q _ h => hFc q h) (fun E ce qe27 u t H1 locs1 ht hvm hpx hB hz1 hk1 hS1 hce hcv hcl => ?_) (fun r u t H1 locs1 ht hvm hw hB hz1 hk1 hS1 => hw.elim)
      obtain ⟨rfl, hP1, hK1, hD1⟩ := hB
      rw [ht] at hP1
      obtain ⟨hP, hD⟩ := sf_J hP hD hk1 hFc hP1 hD1
      refine vx_catch (own := RL) (name := "java/lang/IllegalStateException") hown [] ⟨58, 121, 122, 123⟩ [] (htb.trans rfl) (fun _ hz => nomatch hz) (by decide) (by decide) (hts (.classLink RL 123 "java/lang/IllegalStateException") (by decide +kernel)) (va_Nw.use rfl hXs.2.2.2.2.1) hce hcv hcl ?_
      have hS := hS1
      clear hce hcv hcl hk1 hz1 hvm hS1
      generalize H1 = H at hP hS ⊢
      refine W.widen (k := 1) (n := 6) (Nat.le_refl _) (Nat.le_refl _) ?_
      refine lv_astore (lv' := [(8, .ref qe27), (7, .int 0), (5, .long ra25), (4, .int ra20), (3, .int 0), (2, .int ra5), (1, .ref (aa 0)), (0, .ref (ta 0))]) hx hb dL_isSealed_122 hl (by decide) rfl (fun ls hl => ?_)
      refine lv_iinc (k := 4) (v := 1) (lv' := [(3, .int 1), (8, .ref qe27), (7, .int 0), (5, .long ra25), (4, .int ra20), (2, .int ra5), (1, .ref (aa 0)), (0, .ref (ta 0))]) hx hb dL_isSealed_124 hl rfl (by decide) (by decide) rfl (fun ls hl => ?_)
      refine lv_iinc (k := 2) (v := 1) (lv' := [(7, .int 1), (3, .int 1), (8, .ref qe27), (5, .long ra25), (4, .int ra20), (2, .int ra5), (1, .ref (aa 0)), (0, .ref (ta 0))]) hx hb dL_isSealed_127 hl rfl (by decide) (by decide) rfl (fun ls hl => ?_)
      refine lv_goto (tgt := 52) hx hb dL_isSealed_130 (by decide) ?_
      refine lv_iload hx hb dL_isSealed_52 (lv_at hl 0 rfl) ?_
      refine lv_iconst (v := 3) hx hb dL_isSealed_54 (by decide) ?_
      refine lv_icmp_ge (tgt := 133) hx hb dL_isSealed_55 (by decide) (fun h9 => absurd h9 (by decide)) (fun _ => ?_)
      refine lv_iload hx hb dL_isSealed_58 (lv_at hl 0 rfl) ?_
      refine lv_if_ne (tgt := 73) hx hb dL_isSealed_60 (by decide) (fun _ => ?_) (fun h9 => absurd h9 (by decide))
      refine lv_iload hx hb dL_isSealed_73 (lv_at hl 0 rfl) ?_
      refine lv_iconst (v := 1) hx hb dL_isSealed_75 (by decide) ?_
      refine lv_icmp_ne (tgt := 95) hx hb dL_isSealed_76 (by decide) (fun h9 => absurd h9 (by decide)) (fun _ => ?_)
      refine lv_aload_n hx hb dL_isSealed_79 rfl (lv_at hl 6 rfl) ?_
      refine lv_iload_n hx hb dL_isSealed_80 rfl (lv_at hl 5 rfl) ?_
      refine lv_iconst (v := 1) hx hb dL_isSealed_81 (by decide) ?_
      refine lv_iload hx hb dL_isSealed_82 (lv_at hl 4 rfl) ?_
      refine lv_sipush (v := 500) hx hb dL_isSealed_84 (by decide) ?_
      refine lv_irem hx hb dL_isSealed_87 (by decide) ?_
      refine lv_topi (fun y28 ey28 => ?_)
      have hF := bv_at ey28 hF
      refine lv_iadd hx hb dL_isSealed_88 ?_
      refine lv_topi (fun y29 ey29 => ?_)
      have hF := bv_at ey29 hF
      obtain ⟨_, hC30, hF⟩ := calp_some hF
      have hPc := sf_P hP
      have hDc := sf_D hD
      have hFc := b_free (ws := bw q aa Y24.2) hDc hS hA
      refine vx_calli (vx_runV (As := [.int ra5, .int y29]) (rest := []) ⟨hx, hb, hml, hown, hts⟩ (cx_X5_recount l hfl dC dI q aa Y24.2 ra5 y29 tx sc _ _ hC30) (cwV 2 hts gL_isSealed_X5_recount rfl rfl rfl (by decide +kernel) ⟨Nat.le_of_ble_eq_true rfl, Nat.le_of_ble_eq_true rfl⟩) ⟨px_blind, va_recv hK hPc (ci := 7) (q0 := 0) rfl (bw_at (i := 0) (by decide) rfl), fun U hU hW => ⟨rfl, pr_mk hU hW hPc hK hDc, xs_mk hU hW hS hFc hXs.2⟩⟩ rfl rfl hl.1 rfl (lv_room (Nat.le_of_ble_eq_true rfl)) dL_isSealed_89 ⟨Nat.le_of_ble_eq_true rfl, Nat.le_of_ble_eq_true rfl⟩) hS (fun q _ h => hFc q h) hFc (fun q _ h => hFc q h) (fun E ce qe31 u t H1 locs1 ht hvm hpx hB hz1 hk1 hS1 hce hcv hcl => ?_) (fun r u t H1 locs1 ht hvm hw hB hz1 hk1 hS1 => hw.elim)
      obtain ⟨rfl, hP1, hK1, hD1⟩ := hB
      rw [ht] at hP1
      obtain ⟨hP, hD⟩ := sf_J hP hD hk1 hFc hP1 hD1
      refine vx_catch (own := RL) (name := "java/lang/IllegalStateException") hown [] ⟨58, 121, 122, 123⟩ [] (htb.trans rfl) (fun _ hz => nomatch hz) (by decide) (by decide) (hts (.classLink RL 123 "java/lang/IllegalStateException") (by decide +kernel)) (va_Nw.use rfl hXs.2.2.2.2.1) hce hcv hcl ?_
      have hS := hS1
      clear hce hcv hcl hk1 hz1 hvm hS1
      generalize H1 = H at hP hS ⊢
      refine W.widen (k := 2) (n := 12) (Nat.le_refl _) (Nat.le_refl _) ?_
      refine lv_astore (lv' := [(8, .ref qe31), (7, .int 1), (3, .int 1), (5, .long ra25), (4, .int ra20), (2, .int ra5), (1, .ref (aa 0)), (0, .ref (ta 0))]) hx hb dL_isSealed_122 hl (by decide) rfl (fun ls hl => ?_)
      refine lv_iinc (k := 2) (v := 2) (lv' := [(3, .int 2), (8, .ref qe31), (7, .int 1), (5, .long ra25), (4, .int ra20), (2, .int ra5), (1, .ref (aa 0)), (0, .ref (ta 0))]) hx hb dL_isSealed_124 hl rfl (by decide) (by decide) rfl (fun ls hl => ?_)
      refine lv_iinc (k := 2) (v := 2) (lv' := [(7, .int 2), (3, .int 2), (8, .ref qe31), (5, .long ra25), (4, .int ra20), (2, .int ra5), (1, .ref (aa 0)), (0, .ref (ta 0))]) hx hb dL_isSealed_127 hl rfl (by decide) (by decide) rfl (fun ls hl => ?_)
      refine lv_goto (tgt := 52) hx hb dL_isSealed_130 (by decide) ?_
      refine lv_iload hx hb dL_isSealed_52 (lv_at hl 0 rfl) ?_
      refine lv_iconst (v := 3) hx hb dL_isSealed_54 (by decide) ?_
      refine lv_icmp_ge (tgt := 133) hx hb dL_isSealed_55 (by decide) (fun h9 => absurd h9 (by decide)) (fun _ => ?_)
      refine lv_iload hx hb dL_isSealed_58 (lv_at hl 0 rfl) ?_
      refine lv_if_ne (tgt := 73) hx hb dL_isSealed_60 (by decide) (fun _ => ?_) (fun h9 => absurd h9 (by decide))
      refine lv_iload hx hb dL_isSealed_73 (lv_at hl 0 rfl) ?_
      refine lv_iconst (v := 1) hx hb dL_isSealed_75 (by decide) ?_
      refine lv_icmp_ne (tgt := 95) hx hb dL_isSealed_76 (by decide) (fun _ => ?_) (fun h9 => absurd h9 (by decide))
      refine lv_aload_n hx hb dL_isSealed_95 rfl (lv_at hl 6 rfl) ?_
      refine lv_iload_n hx hb dL_isSealed_96 rfl (lv_at hl 5 rfl) ?_
      refine lv_iconst (v := 1) hx hb dL_isSealed_97 (by decide) ?_
      refine lv_aload_n hx hb dL_isSealed_98 rfl (lv_at hl 6 rfl) ?_
      refine lv_iload_n hx hb dL_isSealed_99 rfl (lv_at hl 5 rfl) ?_
      refine lv_iconst (v := 0) hx hb dL_isSealed_100 (by decide) ?_
      obtain ⟨rr33, hC32, hF⟩ := calp_some hF
      have hPc := sf_P hP
      have hDc := sf_D hD
      have hFc := b_free (ws := bw q aa Y24.2) hDc hS hA
      refine va_calli (va_runV (As := [.int ra5, .int 0]) (rest := [.int 1, .int ra5, .ref (aa 0)]) ⟨hx, hb, hml, hown, hts⟩ (c_X5_ofStack l dC dI q aa Y24.2 ra5 (0 : Int32) _ _ hC32) (cwV 2 hts gL_isSealed_X5_ofStack rfl rfl rfl (by decide +kernel) ⟨Nat.le_of_ble_eq_true rfl, Nat.le_of_ble_eq_true rfl⟩) ⟨pr_blind, va_recv hK hPc (ci := 7) (q0 := 0) rfl (bw_at (i := 0) (by decide) rfl), fun U hU hW => ⟨rfl, pr_mk hU hW hPc hK hDc⟩⟩ rfl rfl hl.1 rfl (lv_room (Nat.le_of_ble_eq_true rfl)) dL_isSealed_101 ⟨Nat.le_of_ble_eq_true rfl, Nat.le_of_ble_eq_true rfl⟩) hS (fun x _ h => hFc x h) hFc (fun ra34 u t H1 locs ht hvm hw hB hz1 hk1 hS => ?_)
      obtain ⟨hP1, hK1, hD1⟩ := hB
      rw [ht] at hP1
      obtain ⟨hP, hD⟩ := sf_J hP hD hk1 hFc hP1 hD1
      generalize H1 = H at hP hS ⊢
      refine W.widen (k := 2) (n := 12) (Nat.le_refl _) (Nat.le_refl _) ?_
      obtain rfl : ra34 = rr33 := hw
      refine lv_isub hx hb dL_isSealed_104 ?_
      refine lv_topi (fun y35 ey35 => ?_)
      have hF := bv_at ey35 hF
      obtain ⟨_, hC36, hF⟩ := calp_some hF
      have hPc := sf_P hP
      have hDc := sf_D hD
      have hFc := b_free (ws := bw q aa Y24.2) hDc hS hA
      refine vx_calli (vx_runV (As := [.int ra5, .int y35]) (rest := []) ⟨hx, hb, hml, hown, hts⟩ (cx_X5_move l hfl dC dI q aa Y24.2 ra5 y35 tx sc _ _ hC36) (cwV 2 hts gL_isSealed_X5_move rfl rfl rfl (by decide +kernel) ⟨Nat.le_of_ble_eq_true rfl, Nat.le_of_ble_eq_true rfl⟩) ⟨px_blind, va_recv hK hPc (ci := 7) (q0 := 0) rfl (bw_at (i := 0) (by decide) rfl), fun U hU hW => ⟨rfl, pr_mk hU hW hPc hK hDc, xs_mk hU hW hS hFc hXs.2⟩⟩ rfl rfl hl.1 rfl (lv_room (Nat.le_of_ble_eq_true rfl)) dL_isSealed_105 ⟨Nat.le_of_ble_eq_true rfl, Nat.le_of_ble_eq_true rfl⟩) hS (fun q _ h => hFc q h) hFc (fun q _ h => hFc q h) (fun E ce qe37 u t H1 locs1 ht hvm hpx hB hz1 hk1 hS1 hce hcv hcl => ?_) (fun r u t H1 locs1 ht hvm hw hB hz1 hk1 hS1 => hw.elim)
      obtain ⟨rfl, hP1, hK1, hD1⟩ := hB
      rw [ht] at hP1
      obtain ⟨hP, hD⟩ := sf_J hP hD hk1 hFc hP1 hD1
      refine vx_catch (own := RL) (name := "java/lang/IllegalStateException") hown [] ⟨58, 121, 122, 123⟩ [] (htb.trans rfl) (fun _ hz => nomatch hz) (by decide) (by decide) (hts (.classLink RL 123 "java/lang/IllegalStateException") (by decide +kernel)) (va_Nw.use rfl hXs.2.2.2.2.1) hce hcv hcl ?_
      have hS := hS1
      clear hce hcv hcl hk1 hz1 hvm hS1
      generalize H1 = H at hP hS ⊢
      refine W.widen (k := 3) (n := 18) (Nat.le_refl _) (Nat.le_refl _) ?_
      refine lv_astore (lv' := [(8, .ref qe37), (7, .int 2), (3, .int 2), (5, .long ra25), (4, .int ra20), (2, .int ra5), (1, .ref (aa 0)), (0, .ref (ta 0))]) hx hb dL_isSealed_122 hl (by decide) rfl (fun ls hl => ?_)
      refine lv_iinc (k := 2) (v := 3) (lv' := [(3, .int 3), (8, .ref qe37), (7, .int 2), (5, .long ra25), (4, .int ra20), (2, .int ra5), (1, .ref (aa 0)), (0, .ref (ta 0))]) hx hb dL_isSealed_124 hl rfl (by decide) (by decide) rfl (fun ls hl => ?_)
      refine lv_iinc (k := 2) (v := 3) (lv' := [(7, .int 3), (3, .int 3), (8, .ref qe37), (5, .long ra25), (4, .int ra20), (2, .int ra5), (1, .ref (aa 0)), (0, .ref (ta 0))]) hx hb dL_isSealed_127 hl rfl (by decide) (by decide) rfl (fun ls hl => ?_)
      refine lv_goto (tgt := 52) hx hb dL_isSealed_130 (by decide) ?_
      refine lv_iload hx hb dL_isSealed_52 (lv_at hl 0 rfl) ?_
      refine lv_iconst (v := 3) hx hb dL_isSealed_54 (by decide) ?_
      refine lv_icmp_ge (tgt := 133) hx hb dL_isSealed_55 (by decide) (fun _ => ?_) (fun h9 => absurd h9 (by decide))
      refine lv_iload_n hx hb dL_isSealed_133 rfl (lv_at hl 1 rfl) ?_
      refine lv_iconst (v := 3) hx hb dL_isSealed_134 (by decide) ?_
      refine lv_icmp_ne (tgt := 160) hx hb dL_isSealed_135 (by decide) (fun h9 => absurd h9 (by decide)) (fun _ => ?_)
      refine lv_aload_n hx hb dL_isSealed_138 rfl (lv_at hl 6 rfl) ?_
      obtain ⟨z40, rr39, hC38, hF⟩ := cal_some hF
      obtain ⟨Y41, eY41, hF⟩ := bv_some hF
      have hPc := sf_P hP
      have hDc := sf_D hD
      have hFc := b_free (ws := bw q aa Y24.2) hDc hS hA
      refine va_calll (va_runV (As := []) (rest := []) ⟨hx, hb, hml, hown, hts⟩ (c_X5_digest l dC dI q aa Y24.2  _ _ _ hC38) (cwV 0 hts gL_isSealed_X5_digest rfl rfl rfl (by decide +kernel) ⟨Nat.le_of_ble_eq_true rfl, Nat.le_of_ble_eq_true rfl⟩) ⟨pr_blind, va_recv hK hPc (ci := 7) (q0 := 0) rfl (bw_at (i := 0) (by decide) rfl), fun U hU hW => ⟨rfl, pr_mk hU hW hPc hK hDc⟩⟩ rfl rfl hl.1 rfl (lv_room (Nat.le_of_ble_eq_true rfl)) dL_isSealed_139 ⟨Nat.le_of_ble_eq_true rfl, Nat.le_of_ble_eq_true rfl⟩) hS (fun x _ h => hFc x h) hFc (fun ra42 u t H1 locs ht hvm hw hB hz1 hk1 hS => ?_)
      obtain ⟨hP1, hK1, hD1⟩ := hB
      rw [ht] at hP1
      obtain ⟨hP, hD⟩ := sf_J hP hD hk1 hFc hP1 hD1
      have eW : twl q ta (aa 0) sa Y24.1 ++ bw q aa z40 = ww q ta aa sa Y41 := by rw [eY41]; rfl
      rw [eW] at hP hD
      clear eW
      generalize H1 = H at hP hS ⊢
      refine W.widen (k := 3) (n := 18) (Nat.le_refl _) (Nat.le_refl _) ?_
      obtain rfl : ra42 = rr39 := hw
      refine lv_lload hx hb dL_isSealed_142 (lv_at hl 3 rfl) ?_
      refine W.lcmp hx hb dL_isSealed_144 ?_
      refine lv_topi (fun y43 ey43 => ?_)
      have hF := bv_at ey43 hF
      refine lv_if_ne (tgt := 160) hx hb dL_isSealed_145 (by decide) (fun hc44 => ?_) (fun hc44 => ?_)
      · have hF := br_neg hc44 hF
        refine lv_iconst (v := 0) hx hb dL_isSealed_160 (by decide) ?_
        obtain ⟨e8, e9⟩ := some2t hF
        rw [← e8] at hP hD
        subst hQ
        refine W.widen (k := 3) (n := 18) (Nat.le_of_ble_eq_true rfl) (Nat.le_of_ble_eq_true rfl) ?_
        exact W.zret (v := 0) hx hb hr rfl (fun t ht hW => ⟨⟨0, (), rfl, e9.symm, po_mk ht hW hP hK hD⟩, hS.F ht⟩) hS.2.2 dL_isSealed_161
      · have hF := br_pos hc44 hF
        refine lv_aload_n hx hb dL_isSealed_148 rfl (lv_at hl 6 rfl) ?_
        refine lv_iconst (v := 0) hx hb dL_isSealed_149 (by decide) ?_
        obtain ⟨z47, rr46, hC45, hF⟩ := cal_some hF
        obtain ⟨Y48, eY48, hF⟩ := bv_some hF
        have hPc := sf_P hP
        have hDc := sf_D hD
        have hFc := b_free (ws := bw q aa Y41.2) hDc hS hA
        refine va_calli (va_runV (As := [.int 0]) (rest := []) ⟨hx, hb, hml, hown, hts⟩ (c_X5_seal l dC dI q aa Y41.2 (0 : Int32) _ _ _ hC45) (cwV 1 hts gL_isSealed_X5_seal rfl rfl rfl (by decide +kernel) ⟨Nat.le_of_ble_eq_true rfl, Nat.le_of_ble_eq_true rfl⟩) ⟨pr_blind, va_recv hK hPc (ci := 7) (q0 := 0) rfl (bw_at (i := 0) (by decide) rfl), fun U hU hW => ⟨rfl, pr_mk hU hW hPc hK hDc⟩⟩ rfl rfl hl.1 rfl (lv_room (Nat.le_of_ble_eq_true rfl)) dL_isSealed_150 ⟨Nat.le_of_ble_eq_true rfl, Nat.le_of_ble_eq_true rfl⟩) hS (fun x _ h => hFc x h) hFc (fun ra49 u t H1 locs ht hvm hw hB hz1 hk1 hS => ?_)
        obtain ⟨hP1, hK1, hD1⟩ := hB
        rw [ht] at hP1
        obtain ⟨hP, hD⟩ := sf_J hP hD hk1 hFc hP1 hD1
        have eW : twl q ta (aa 0) sa Y41.1 ++ bw q aa z47 = ww q ta aa sa Y48 := by rw [eY48]; rfl
        rw [eW] at hP hD
        clear eW
        generalize H1 = H at hP hS ⊢
        refine W.widen (k := 3) (n := 18) (Nat.le_refl _) (Nat.le_refl _) ?_
        obtain rfl : ra49 = rr46 := hw
        refine lv_if_eq (tgt := 160) hx hb dL_isSealed_153 (by decide) (fun hc50 => ?_) (fun hc50 => ?_)
        · have hF := br_pos hc50 hF
          refine lv_iconst (v := 0) hx hb dL_isSealed_160 (by decide) ?_
          obtain ⟨e8, e9⟩ := some2t hF
          rw [← e8] at hP hD
          subst hQ
          refine W.widen (k := 3) (n := 18) (Nat.le_of_ble_eq_true rfl) (Nat.le_of_ble_eq_true rfl) ?_
          exact W.zret (v := 0) hx hb hr rfl (fun t ht hW => ⟨⟨0, (), rfl, e9.symm, po_mk ht hW hP hK hD⟩, hS.F ht⟩) hS.2.2 dL_isSealed_161
        · have hF := br_neg hc50 hF
          refine lv_iconst (v := 1) hx hb dL_isSealed_156 (by decide) ?_
          refine lv_goto (tgt := 161) hx hb dL_isSealed_157 (by decide) ?_
          obtain ⟨e8, e9⟩ := some2t hF
          rw [← e8] at hP hD
          subst hQ
          refine W.widen (k := 3) (n := 18) (Nat.le_of_ble_eq_true rfl) (Nat.le_of_ble_eq_true rfl) ?_
          exact W.zret (v := 1) hx hb hr rfl (fun t ht hW => ⟨⟨1, (), rfl, e9.symm, po_mk ht hW hP hK hD⟩, hS.F ht⟩) hS.2.2 dL_isSealed_161
    · have hF := br_pos hc17 hF
      refine lv_iconst (v := 0) hx hb dL_isSealed_33 (by decide) ?_
      obtain ⟨e8, e9⟩ := some2t hF
      rw [← e8] at hP hD
      subst hQ
      refine W.widen (k := 3) (n := 18) (Nat.le_of_ble_eq_true rfl) (Nat.le_of_ble_eq_true rfl) ?_
      exact W.zret (v := 0) hx hb hr rfl (fun t ht hW => ⟨⟨0, (), rfl, e9.symm, po_mk ht hW hP hK hD⟩, hS.F ht⟩) hS.2.2 dL_isSealed_34
