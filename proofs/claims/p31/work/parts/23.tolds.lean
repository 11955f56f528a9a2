noncomputable def F_L_below (xa : Int32) (xb : Int32) : Option Int32 :=
  bv (xa &&& (2147483647 : Int32)) fun y1 => gd (¬ xb = 0) <| bv (y1 - y1 / xb * xb) fun y3 => some y3

set_option maxHeartbeats 4000000 in
set_option maxRecDepth 100000 in
theorem c_L_below (l : Launch) (dC : Nat → ClassId) (dI : Nat → Nat → Nat)  (xa : Int32) (xb : Int32) (sz : Nat)  (ro : Int32) (hF : F_L_below xa xb = some ro) : Met l yL_below wsL_below ({ frames := 2, cells := 0, slots := 0, locals := 40 }) (va_Pc [.int xa, .int xb] (pr_ dC dI ([]) [] sz)) (va_Qi (fun (r : Int32) (_ : Unit) => r = ro) (fun (_ : Unit) t => po_ dC dI ([]) [] (va_A ([]) sz) t) (va_A ([]) sz)) 0 0 (va_A ([]) sz) := by
  refine Met.ofW (cc := cL_below) (maxL := 2) (ret := (some .int)) (by decide) rfl ?_
  intro p e s m args below meth c s₁ B hml hv
  obtain ⟨hargs, hsz, hP, hK, hD0⟩ := hv
  have hx := B.exec
  have hb := B.bytes
  have hr := B.returns
  have hts := atoms_spec (ws := wsL_below) B.pre
  have hown : s.vm.findClass RL = some m.cls := findClass_of_methodNamed B.named
  have hlocks := B.notSynchronized
  subst hsz
  have hD := hD0.self (sz := s.heap.size)
  generalize hAe : va_A ([]) s.heap.size = A at hD ⊢
  have hA : ∀ x : Nat, s.heap.size ≤ x → A x := fun x h => by rw [← hAe]; exact Or.inr h
  have hS : va_S A s.heap s.heap [] := va_S.rf
  have hl := lv_entry ([.int xa, .int xb]) (n := 2) (Nat.le_of_ble_eq_true rfl)
  refine w_ent hargs ?_
  rw [lg_entry_eq]
  generalize (lg_sl ([.int xa, .int xb]) ++ List.replicate (2 - (lg_sl ([.int xa, .int xb])).length) Slot.unset).toArray = ls at hl ⊢
  have hl : lv_has ls 2 [(0, .int xa), (1, .int xb)] := hl
  unfold F_L_below at hF
  refine w_go (fun Q hQ => ?_)
  refine lv_iload_n hx hb dL_below_0 rfl (lv_at hl 0 rfl) ?_
  refine lv_ldc (v := 2147483647) hx hb hown (hts (.constant RL 7 2147483647) (by decide +kernel)) dL_below_1 ?_
  refine lv_iand hx hb dL_below_3 ?_
  refine lv_topi (fun y1 ey1 => ?_)
  have hF := bv_at ey1 hF
  refine lv_iload_n hx hb dL_below_4 rfl (lv_at hl 1 rfl) ?_
  obtain ⟨hg2, hF⟩ := gd_some hF
  refine lv_irem hx hb dL_below_5 hg2 ?_
  refine lv_topi (fun y3 ey3 => ?_)
  have hF := bv_at ey3 hF
  have e9 := some1 hF
  subst hQ
  exact W.iret (v := y3) hx hb hr (fun t ht hW => ⟨⟨y3, (), rfl, e9.symm, po_mk ht hW hP hK hD⟩, hS.F ht⟩) hS.2.2 dL_below_6

noncomputable def F_L_cell (L : Nat) (xs : Nat → Int32) (xa : Int32) : Option Int32 :=
  bv (nI L) fun y1 => br (y1 ≤ xa) (bv (xa + (3 : Int32)) fun y3 => bv ((790386105 : Int32) * y3) fun y4 => some y4) (gd (¬ (xa < 0 ∨ L ≤ ix xa)) <| bv (xs (ix xa)) fun y6 => some y6)

set_option maxHeartbeats 4000000 in
set_option maxRecDepth 100000 in
theorem c_L_cell (l : Launch) (dC : Nat → ClassId) (dI : Nat → Nat → Nat) (sa : Nat) (L : Nat) (xs : Nat → Int32) (xa : Int32) (sz : Nat)  (ro : Int32) (hF : F_L_cell L xs xa = some ro) : Met l yL_cell wsL_cell ({ frames := 2, cells := 0, slots := 0, locals := 40 }) (va_Pc [.ref sa, .int xa] (fun U => pr_ dC dI ([]) [] sz U ∧ sx_ (va_A ([]) sz) sa L xs U)) (va_Qi (fun (r : Int32) (_ : Unit) => r = ro) (fun (_ : Unit) t => po_ dC dI ([]) [] (va_A ([]) sz) t) (va_A ([]) sz)) 0 0 (va_A ([]) sz) := by
  refine Met.ofW (cc := cL_cell) (maxL := 2) (ret := (some .int)) (by decide) rfl ?_
  intro p e s m args below meth c s₁ B hml hv
  obtain ⟨hargs, ⟨hsz, hP, hK, hD0⟩, hXs⟩ := hv
  have hx := B.exec
  have hb := B.bytes
  have hr := B.returns
  have hts := atoms_spec (ws := wsL_cell) B.pre
  have hown : s.vm.findClass RL = some m.cls := findClass_of_methodNamed B.named
  have hlocks := B.notSynchronized
  subst hsz
  have hD := hD0.self (sz := s.heap.size)
  generalize hAe : va_A ([]) s.heap.size = A at hD hXs ⊢
  have hA : ∀ x : Nat, s.heap.size ≤ x → A x := fun x h => by rw [← hAe]; exact Or.inr h
  have hS : va_S A s.heap s.heap [] := va_S.rf
  have hl := lv_entry ([.ref sa, .int xa]) (n := 2) (Nat.le_of_ble_eq_true rfl)
  refine w_ent hargs ?_
  rw [lg_entry_eq]
  generalize (lg_sl ([.ref sa, .int xa]) ++ List.replicate (2 - (lg_sl ([.ref sa, .int xa])).length) Slot.unset).toArray = ls at hl ⊢
  have hl : lv_has ls 2 [(0, .ref sa), (1, .int xa)] := hl
  unfold F_L_cell at hF
  refine w_go (fun Q hQ => ?_)
  refine lv_iload_n hx hb dL_cell_0 rfl (lv_at hl 1 rfl) ?_
  refine lv_aload_n hx hb dL_cell_1 rfl (lv_at hl 0 rfl) ?_
  refine va_slen hx hb hXs.1 hXs.2.1 hXs.2.2.1 hS dL_cell_2 ?_
  refine lv_topi (fun y1 ey1 => ?_)
  have hF := bv_at ey1 hF
  refine lv_icmp_ge (tgt := 12) hx hb dL_cell_3 (by decide) (fun hc2 => ?_) (fun hc2 => ?_)
  · have hF := br_pos hc2 hF
    refine lv_ldc (v := 790386105) hx hb hown (hts (.constant RL 8 790386105) (by decide +kernel)) dL_cell_12 ?_
    refine lv_iload_n hx hb dL_cell_14 rfl (lv_at hl 1 rfl) ?_
    refine lv_iconst (v := 3) hx hb dL_cell_15 (by decide) ?_
    refine lv_iadd hx hb dL_cell_16 ?_
    refine lv_topi (fun y3 ey3 => ?_)
    have hF := bv_at ey3 hF
    refine lv_imul hx hb dL_cell_17 ?_
    refine lv_topi (fun y4 ey4 => ?_)
    have hF := bv_at ey4 hF
    have e9 := some1 hF
    subst hQ
    exact W.iret (v := y4) hx hb hr (fun t ht hW => ⟨⟨y4, (), rfl, e9.symm, po_mk ht hW hP hK hD⟩, hS.F ht⟩) hS.2.2 dL_cell_18
  · have hF := br_neg hc2 hF
    refine lv_aload_n hx hb dL_cell_6 rfl (lv_at hl 0 rfl) ?_
    refine lv_iload_n hx hb dL_cell_7 rfl (lv_at hl 1 rfl) ?_
    obtain ⟨hg5, hF⟩ := gd_some hF
    refine va_sld hx hb hXs.1 hXs.2.1 hXs.2.2.1 hS hg5 dL_cell_8 ?_
    refine lv_topi (fun y6 ey6 => ?_)
    have hF := bv_at ey6 hF
    refine lv_goto (tgt := 18) hx hb dL_cell_9 (by decide) ?_
    have e9 := some1 hF
    subst hQ
    exact W.iret (v := y6) hx hb hr (fun t ht hW => ⟨⟨y6, (), rfl, e9.symm, po_mk ht hW hP hK hD⟩, hS.F ht⟩) hS.2.2 dL_cell_18

noncomputable def F_X6_draw (L : Nat) (xs : Nat → Int32) (Y : TS) (xa : Int32) : Option (TS × Int32) :=
  bv (Y.1.2 0 2) fun y1 => bv (y1 - y1 / (24 : Int32) * (24 : Int32)) fun y2 => calp (F_L_cell L xs y2) fun ra5 => bv (Y.1.2 0 2) fun y6 => bv (y6 / (24 : Int32)) fun y7 => bv (y7 - y7 / (8 : Int32) * (8 : Int32)) fun y8 => bv (ra5 >>> (y8 &&& 31)) fun y9 => bv (Y.1.2 0 2) fun y10 => bv ((421 : Int32) * y10) fun y11 => bv (y9 + y11) fun y12 => calp (F_L_below  y12 xa) fun ra15 => bv (Y.1.2 0 2) fun y16 => bv (y16 + (1 : Int32)) fun y17 => bv (tsi Y 0 2 y17) fun Y18 => some (Y18, ra15)

set_option maxHeartbeats 4000000 in
set_option maxRecDepth 100000 in
theorem c_X6_draw (l : Launch) (dC : Nat → ClassId) (dI : Nat → Nat → Nat) (q : Nat → ClassId) (ta aa : Nat → Nat) (sa : Nat) (L : Nat) (xs : Nat → Int32) (Y : TS) (xa : Int32) (sz : Nat)  (Yo : TS) (ro : Int32) (hF : F_X6_draw L xs Y xa = some (Yo, ro)) : Met l yX6_draw wsX6_draw ({ frames := 3, cells := 0, slots := 0, locals := 61 }) (va_Pc [.ref (ta 0), .int xa] (fun U => pr_ dC dI (ww q ta aa sa Y) (bty q) sz U ∧ sx_ (va_A (ww q ta aa sa Y) sz) sa L xs U)) (va_Qi (fun (r : Int32) (_ : Unit) => r = ro) (fun (_ : Unit) t => po_ dC dI (ww q ta aa sa Yo) (bty q) (va_A (ww q ta aa sa Y) sz) t) (va_A (ww q ta aa sa Y) sz)) 0 0 (va_A (ww q ta aa sa Y) sz) := by
  refine Met.ofW (cc := cX6_draw) (maxL := 3) (ret := (some .int)) (by decide) rfl ?_
  intro p e s m args below meth c s₁ B hml hv
  obtain ⟨hargs, ⟨hsz, hP, hK, hD0⟩, hXs⟩ := hv
  have hx := B.exec
  have hb := B.bytes
  have hr := B.returns
  have hts := atoms_spec (ws := wsX6_draw) B.pre
  have hown : s.vm.findClass RX6 = some m.cls := findClass_of_methodNamed B.named
  have hlocks := B.notSynchronized
  subst hsz
  have hD := hD0.self (sz := s.heap.size)
  generalize hAe : va_A (ww q ta aa sa Y) s.heap.size = A at hD hXs ⊢
  have hA : ∀ x : Nat, s.heap.size ≤ x → A x := fun x h => by rw [← hAe]; exact Or.inr h
  have hS : va_S A s.heap s.heap [] := va_S.rf
  have hinX6 : ∀ w ∈ u_ws RX6 TX6 9, w ∈ wsX6_draw := by decide +kernel
  have hl := lv_entry ([.ref (ta 0), .int xa]) (n := 3) (Nat.le_of_ble_eq_true rfl)
  refine w_ent hargs ?_
  rw [lg_entry_eq]
  generalize (lg_sl ([.ref (ta 0), .int xa]) ++ List.replicate (3 - (lg_sl ([.ref (ta 0), .int xa])).length) Slot.unset).toArray = ls at hl ⊢
  have hl : lv_has ls 3 [(0, .ref (ta 0)), (1, .int xa)] := hl
  unfold F_X6_draw at hF
  refine w_go (fun Q hQ => ?_)
  refine lv_aload_n hx hb dX6_draw_0 rfl (lv_at hl 0 rfl) ?_
  refine va_get (D := (dC, dI)) (ci := 8) (v := .ref sa) (C := RX6) (T := TX6) (N := 9) hx hb hts hinX6 hown hK hP 0 ww_0 rfl 1 (by decide) (hts (.fieldLink RX6 32 "BallotLoomLaw$Told" "s" "[I") (by decide +kernel)) (fun _ h9 => h9) rfl dX6_draw_1 ?_
  refine lv_aload_n hx hb dX6_draw_4 rfl (lv_at hl 0 rfl) ?_
  refine va_get (D := (dC, dI)) (ci := 8) (v := .int (Y.1.2 0 2)) (C := RX6) (T := TX6) (N := 9) hx hb hts hinX6 hown hK hP 0 ww_0 rfl 2 (by decide) (hts (.fieldLink RX6 35 "BallotLoomLaw$Told" "draws" "I") (by decide +kernel)) (fun _ h9 => h9) rfl dX6_draw_5 ?_
  refine lv_topi (fun y1 ey1 => ?_)
  have hF := bv_at ey1 hF
  refine lv_bipush (v := 24) hx hb dX6_draw_8 (by decide) ?_
  refine lv_irem hx hb dX6_draw_10 (by decide) ?_
  refine lv_topi (fun y2 ey2 => ?_)
  have hF := bv_at ey2 hF
  obtain ⟨rr4, hC3, hF⟩ := calp_some hF
  have hFc := nil_F hS hA
  refine va_calli (va_runSN (As := [.ref sa, .int y2]) (rest := []) ⟨hx, hb, hml, hown, hts⟩ (c_L_cell l dC dI sa L xs y2 _  _ hC3) ⟨va_cnB 2 hts gX6_draw_L_cell_n39 rfl rfl rfl hXs.2.2.2.1 (hts (.initialized RL) (by decide +kernel)) (by decide +kernel) ⟨Nat.le_of_ble_eq_true rfl, Nat.le_of_ble_eq_true rfl⟩, hts (.static yL_cell) (by decide +kernel), trivial⟩ ⟨pe_blind (sx_bl _ _ _ _), fun U hU hW => ⟨rfl, pr_mk hU hW (va_Pn (D := (dC, dI)) (cl := vwCl) _) (hK.sub (tys' := []) [] rfl) (va_Dn A), sx_mk hU hW hS hFc hXs⟩⟩ rfl rfl hl.1 rfl (lv_room (Nat.le_of_ble_eq_true rfl)) dX6_draw_11 ⟨Nat.le_of_ble_eq_true rfl, Nat.le_of_ble_eq_true rfl⟩) hS (fun x _ h => hFc x h) hFc (fun ra5 u t H1 locs ht hvm hw hB hz1 hk1 hS => ?_)
  have hP := nil_J (A := A) hP hk1
  generalize H1 = H at hP hS ⊢
  refine W.widen (k := 0) (n := 0) (Nat.le_refl _) (Nat.le_refl _) ?_
  obtain rfl : ra5 = rr4 := hw
  refine lv_aload_n hx hb dX6_draw_14 rfl (lv_at hl 0 rfl) ?_
  refine va_get (D := (dC, dI)) (ci := 8) (v := .int (Y.1.2 0 2)) (C := RX6) (T := TX6) (N := 9) hx hb hts hinX6 hown hK hP 0 ww_0 rfl 2 (by decide) (hts (.fieldLink RX6 35 "BallotLoomLaw$Told" "draws" "I") (by decide +kernel)) (fun _ h9 => h9) rfl dX6_draw_15 ?_
  refine lv_topi (fun y6 ey6 => ?_)
  have hF := bv_at ey6 hF
  refine lv_bipush (v := 24) hx hb dX6_draw_18 (by decide) ?_
  refine lv_idiv hx hb dX6_draw_20 (by decide) ?_
  refine lv_topi (fun y7 ey7 => ?_)
  have hF := bv_at ey7 hF
  refine lv_bipush (v := 8) hx hb dX6_draw_21 (by decide) ?_
  refine lv_irem hx hb dX6_draw_23 (by decide) ?_
  refine lv_topi (fun y8 ey8 => ?_)
  have hF := bv_at ey8 hF
  refine lv_ishr hx hb dX6_draw_24 ?_
  refine lv_topi (fun y9 ey9 => ?_)
  have hF := bv_at ey9 hF
  refine lv_sipush (v := 421) hx hb dX6_draw_25 (by decide) ?_
  refine lv_aload_n hx hb dX6_draw_28 rfl (lv_at hl 0 rfl) ?_
  refine va_get (D := (dC, dI)) (ci := 8) (v := .int (Y.1.2 0 2)) (C := RX6) (T := TX6) (N := 9) hx hb hts hinX6 hown hK hP 0 ww_0 rfl 2 (by decide) (hts (.fieldLink RX6 35 "BallotLoomLaw$Told" "draws" "I") (by decide +kernel)) (fun _ h9 => h9) rfl dX6_draw_29 ?_
  refine lv_topi (fun y10 ey10 => ?_)
  have hF := bv_at ey10 hF
  refine lv_imul hx hb dX6_draw_32 ?_
  refine lv_topi (fun y11 ey11 => ?_)
  have hF := bv_at ey11 hF
  refine lv_iadd hx hb dX6_draw_33 ?_
  refine lv_topi (fun y12 ey12 => ?_)
  have hF := bv_at ey12 hF
  refine lv_iload_n hx hb dX6_draw_34 rfl (lv_at hl 1 rfl) ?_
  obtain ⟨rr14, hC13, hF⟩ := calp_some hF
  have hFc := nil_F hS hA
  refine va_calli (va_runSN (As := [.int y12, .int xa]) (rest := []) ⟨hx, hb, hml, hown, hts⟩ (c_L_below l dC dI  y12 xa _  _ hC13) ⟨va_cnB 2 hts gX6_draw_L_below_n45 rfl rfl rfl hXs.2.2.2.2 (hts (.initialized RL) (by decide +kernel)) (by decide +kernel) ⟨Nat.le_of_ble_eq_true rfl, Nat.le_of_ble_eq_true rfl⟩, hts (.static yL_below) (by decide +kernel), trivial⟩ ⟨pr_blind, fun U hU hW => ⟨rfl, pr_mk hU hW (va_Pn (D := (dC, dI)) (cl := vwCl) _) (hK.sub (tys' := []) [] rfl) (va_Dn A)⟩⟩ rfl rfl hl.1 rfl (lv_room (Nat.le_of_ble_eq_true rfl)) dX6_draw_35 ⟨Nat.le_of_ble_eq_true rfl, Nat.le_of_ble_eq_true rfl⟩) hS (fun x _ h => hFc x h) hFc (fun ra15 u t H1 locs ht hvm hw hB hz1 hk1 hS => ?_)
  have hP := nil_J (A := A) hP hk1
  generalize H1 = H at hP hS ⊢
  refine W.widen (k := 0) (n := 0) (Nat.le_refl _) (Nat.le_refl _) ?_
  obtain rfl : ra15 = rr14 := hw
  refine lv_istore_n (lv' := [(2, .int ra15), (0, .ref (ta 0)), (1, .int xa)]) hx hb dX6_draw_38 rfl hl (by decide) rfl (fun ls hl => ?_)
  refine lv_aload_n hx hb dX6_draw_39 rfl (lv_at hl 1 rfl) ?_
  refine lv_dup hx hb dX6_draw_40 rfl ?_
  refine va_get (D := (dC, dI)) (ci := 8) (v := .int (Y.1.2 0 2)) (C := RX6) (T := TX6) (N := 9) hx hb hts hinX6 hown hK hP 0 ww_0 rfl 2 (by decide) (hts (.fieldLink RX6 35 "BallotLoomLaw$Told" "draws" "I") (by decide +kernel)) (fun _ h9 => h9) rfl dX6_draw_41 ?_
  refine lv_topi (fun y16 ey16 => ?_)
  have hF := bv_at ey16 hF
  refine lv_iconst (v := 1) hx hb dX6_draw_44 (by decide) ?_
  refine lv_iadd hx hb dX6_draw_45 ?_
  refine lv_topi (fun y17 ey17 => ?_)
  have hF := bv_at ey17 hF
  obtain ⟨Y18, eY18, hF⟩ := bv_some hF
  refine va_put (D := (dC, dI)) (ci := 8) (v := .int y17) (ty := .int) (C := RX6) (T := TX6) (N := 9) hx hb hts hinX6 tyX6 tyX6_ok nmX6 hown hK hP hD hS 0 ww_0 rfl 2 (by decide) (hts (.fieldLink RX6 35 "BallotLoomLaw$Told" "draws" "I") (by decide +kernel)) (fun _ h9 => h9) rfl (by decide +kernel) rfl rfl (Nat.le_of_ble_eq_true rfl) dX6_draw_46 (fun H locs hP hD hS => ?_)
  have eW := wt_o (q := q) (ta := ta) (aa := aa) (sa := sa) (fs := [.ref (aa 0), .ref sa, .int y17, .ref (ta 1), .ref (ta 2), .ref (ta 3), .ref (ta 4), .int (Y.1.2 0 7), .int (Y.1.2 0 8)]) rfl eY18
  have hP : va_P (dC, dI) vwCl (ww q ta aa sa Y18) H := eW ▸ hP
  have hD : va_D A (ww q ta aa sa Y18) := eW ▸ hD
  clear eW
  refine lv_iload_n hx hb dX6_draw_49 rfl (lv_at hl 0 rfl) ?_
  obtain ⟨e8, e9⟩ := some2t hF
  rw [← e8] at hP hD
  subst hQ
  exact W.iret (v := ra15) hx hb hr (fun t ht hW => ⟨⟨ra15, (), rfl, e9.symm, po_mk ht hW hP hK hD⟩, hS.F ht⟩) hS.2.2 dX6_draw_50

noncomputable def F_X6_standing_x4 (w1 : Int32) : Option Int32 :=
  some w1

noncomputable def F_X6_standing_l4 (Y : TS) (K_4 : Int32 → Option Int32) : Nat → Int32 → Int32 → Option Int32
  | 0, _, _ => none
  | n4 + 1, u2, u3 =>
  bv (nI (Y.1.1 1)) fun y4 => br (y4 ≤ u3) (K_4 u2) (gd (¬ (u3 < 0 ∨ 6 ≤ ix u3)) <| bv (Y.1.2 2 (ix u3)) fun y7 => br (y7 = (0 : Int32)) (bv (u2 + (1 : Int32)) fun y9 => (F_X6_standing_l4 Y K_4 n4) y9 (u3 + (1 : Int32))) (bv (u2 + (0 : Int32)) fun y10 => (F_X6_standing_l4 Y K_4 n4) y10 (u3 + (1 : Int32))))

noncomputable def F_X6_standing (L : Nat) (xs : Nat → Int32) (Y : TS) : Option Int32 :=
  F_X6_standing_l4 Y F_X6_standing_x4 100 (0 : Int32) (0 : Int32)

set_option maxHeartbeats 4000000 in
set_option maxRecDepth 100000 in
theorem c_X6_standing (l : Launch) (dC : Nat → ClassId) (dI : Nat → Nat → Nat) (q : Nat → ClassId) (ta aa : Nat → Nat) (sa : Nat) (L : Nat) (xs : Nat → Int32) (Y : TS)  (sz : Nat)  (ro : Int32) (hF : F_X6_standing L xs Y = some ro) : Met l yX6_standing wsX6_standing ({ frames := 2, cells := 0, slots := 0, locals := 40 }) (va_Pc [.ref (ta 0)] (fun U => pr_ dC dI (ww q ta aa sa Y) (bty q) sz U ∧ sx_ (va_A (ww q ta aa sa Y) sz) sa L xs U)) (va_Qi (fun (r : Int32) (_ : Unit) => r = ro) (fun (_ : Unit) t => po_ dC dI (ww q ta aa sa Y) (bty q) (va_A (ww q ta aa sa Y) sz) t) (va_A (ww q ta aa sa Y) sz)) 0 0 (va_A (ww q ta aa sa Y) sz) := by
  refine Met.ofW (cc := cX6_standing) (maxL := 3) (ret := (some .int)) (by decide) rfl ?_
  intro p e s m args below meth c s₁ B hml hv
  obtain ⟨hargs, ⟨hsz, hP, hK, hD0⟩, hXs⟩ := hv
  have hx := B.exec
  have hb := B.bytes
  have hr := B.returns
  have hts := atoms_spec (ws := wsX6_standing) B.pre
  have hown : s.vm.findClass RX6 = some m.cls := findClass_of_methodNamed B.named
  have hlocks := B.notSynchronized
  subst hsz
  have hD := hD0.self (sz := s.heap.size)
  generalize hAe : va_A (ww q ta aa sa Y) s.heap.size = A at hD hXs ⊢
  have hA : ∀ x : Nat, s.heap.size ≤ x → A x := fun x h => by rw [← hAe]; exact Or.inr h
  have hS : va_S A s.heap s.heap [] := va_S.rf
  have hinX6 : ∀ w ∈ u_ws RX6 TX6 9, w ∈ wsX6_standing := by decide +kernel
  have hl := lv_entry ([.ref (ta 0)]) (n := 3) (Nat.le_of_ble_eq_true rfl)
  refine w_ent hargs ?_
  rw [lg_entry_eq]
  generalize (lg_sl ([.ref (ta 0)]) ++ List.replicate (3 - (lg_sl ([.ref (ta 0)])).length) Slot.unset).toArray = ls at hl ⊢
  have hl : lv_has ls 3 [(0, .ref (ta 0))] := hl
  unfold F_X6_standing at hF
  refine w_go (fun Q hQ => ?_)
  refine lv_iconst (v := 0) hx hb dX6_standing_0 (by decide) ?_
  refine lv_istore_n (lv' := [(1, .int 0), (0, .ref (ta 0))]) hx hb dX6_standing_1 rfl hl (by decide) rfl (fun ls hl => ?_)
  refine lv_iconst (v := 0) hx hb dX6_standing_2 (by decide) ?_
  refine lv_istore_n (lv' := [(2, .int 0), (1, .int 0), (0, .ref (ta 0))]) hx hb dX6_standing_3 rfl hl (by decide) rfl (fun ls hl => ?_)
  have Jx4 : ∀ (w1 : Int32) (H : Heap) (locs : List Loc) (ls : Array Slot), F_X6_standing_x4 w1 = some ro → va_P (dC, dI) vwCl (ww q ta aa sa Y) H → va_D A (ww q ta aa sa Y) → va_S A s.heap H locs → lv_has ls 3 [(1, .int w1)] → W p l e (headSpec wsX6_standing ({ frames := 2, cells := 0, slots := 0, locals := 40 } : Room)).room s m args below meth c H locs 0 0 Q (F0 m 36 ls []) := by
    intro w1 H locs ls hF hP hD hS hl
    unfold F_X6_standing_x4 at hF
    refine lv_iload_n hx hb dX6_standing_36 rfl (lv_at hl 0 rfl) ?_
    have e9 := some1 hF
    subst hQ
    exact W.iret (v := w1) hx hb hr (fun t ht hW => ⟨⟨w1, (), rfl, e9.symm, po_mk ht hW hP hK hD⟩, hS.F ht⟩) hS.2.2 dX6_standing_37
  have L4 : ∀ (n4 : Nat) (u2 : Int32) (u3 : Int32) (H : Heap) (locs : List Loc) (ls : Array Slot), F_X6_standing_l4 Y F_X6_standing_x4 n4 u2 u3 = some ro → va_P (dC, dI) vwCl (ww q ta aa sa Y) H → va_D A (ww q ta aa sa Y) → va_S A s.heap H locs → lv_has ls 3 [(2, .int u3), (1, .int u2), (0, .ref (ta 0))] → W p l e (headSpec wsX6_standing ({ frames := 2, cells := 0, slots := 0, locals := 40 } : Room)).room s m args below meth c H locs 0 0 Q (F0 m 4 ls []) := by
    intro n4
    induction n4 with
    | zero =>
      intro u2 u3 H locs ls hF
      rw [F_X6_standing_l4] at hF
      cases hF
    | succ n4 IH4 =>
      intro u2 u3 H locs ls hF hP hD hS hl
      rw [F_X6_standing_l4] at hF
      refine lv_iload_n hx hb dX6_standing_4 rfl (lv_at hl 0 rfl) ?_
      refine lv_aload_n hx hb dX6_standing_5 rfl (lv_at hl 2 rfl) ?_
      refine va_get (D := (dC, dI)) (ci := 8) (v := .ref (ta 1)) (C := RX6) (T := TX6) (N := 9) hx hb hts hinX6 hown hK hP 0 ww_0 rfl 3 (by decide) (hts (.fieldLink RX6 16 "BallotLoomLaw$Told" "parties" "[I") (by decide +kernel)) (fun _ h9 => h9) rfl dX6_standing_6 ?_
      refine va_alen (v := nI (Y.1.1 1)) hx hb hK hP 1 0 ww_1 rfl rfl dX6_standing_9 ?_
      refine lv_topi (fun y4 ey4 => ?_)
      have hF := bv_at ey4 hF
      refine lv_icmp_ge (tgt := 36) hx hb dX6_standing_10 (by decide) (fun hc5 => ?_) (fun hc5 => ?_)
      · have hF := br_pos hc5 hF
        exact Jx4 u2 _ _ _ hF hP hD hS (lv_sub hl [1] rfl)
      · have hF := br_neg hc5 hF
        refine lv_iload_n hx hb dX6_standing_13 rfl (lv_at hl 1 rfl) ?_
        refine lv_aload_n hx hb dX6_standing_14 rfl (lv_at hl 2 rfl) ?_
        refine va_get (D := (dC, dI)) (ci := 8) (v := .ref (ta 2)) (C := RX6) (T := TX6) (N := 9) hx hb hts hinX6 hown hK hP 0 ww_0 rfl 4 (by decide) (hts (.fieldLink RX6 20 "BallotLoomLaw$Told" "gone" "[Z") (by decide +kernel)) (fun _ h9 => h9) rfl dX6_standing_15 ?_
        refine lv_iload_n hx hb dX6_standing_18 rfl (lv_at hl 0 rfl) ?_
        obtain ⟨hg6, hF⟩ := gd_some hF
        refine va_zald hx hb hK hP 2 1 ww_2 rfl hg6 dX6_standing_19 ?_
        refine lv_topi (fun y7 ey7 => ?_)
        have hF := bv_at ey7 hF
        refine lv_if_eq (tgt := 27) hx hb dX6_standing_20 (by decide) (fun hc8 => ?_) (fun hc8 => ?_)
        · have hF := br_pos hc8 hF
          refine lv_iconst (v := 1) hx hb dX6_standing_27 (by decide) ?_
          refine lv_iadd hx hb dX6_standing_28 ?_
          refine lv_topi (fun y9 ey9 => ?_)
          have hF := bv_at ey9 hF
          refine lv_istore_n (lv' := [(1, .int y9), (2, .int u3), (0, .ref (ta 0))]) hx hb dX6_standing_29 rfl hl (by decide) rfl (fun ls hl => ?_)
          refine lv_iinc (k := 1) (v := (u3 + (1 : Int32))) (lv' := [(2, .int (u3 + (1 : Int32))), (1, .int y9), (0, .ref (ta 0))]) hx hb dX6_standing_30 hl rfl (ii_ _ _ _ (by decide)) (by decide) rfl (fun ls hl => ?_)
          refine lv_goto (tgt := 4) hx hb dX6_standing_33 (by decide) ?_
          exact IH4 y9 (u3 + (1 : Int32)) _ _ _ hF hP hD hS (lv_sub hl [0, 1, 2] rfl)
        · have hF := br_neg hc8 hF
          refine lv_iconst (v := 0) hx hb dX6_standing_23 (by decide) ?_
          refine lv_goto (tgt := 28) hx hb dX6_standing_24 (by decide) ?_
          refine lv_iadd hx hb dX6_standing_28 ?_
          refine lv_topi (fun y10 ey10 => ?_)
          have hF := bv_at ey10 hF
          refine lv_istore_n (lv' := [(1, .int y10), (2, .int u3), (0, .ref (ta 0))]) hx hb dX6_standing_29 rfl hl (by decide) rfl (fun ls hl => ?_)
          refine lv_iinc (k := 1) (v := (u3 + (1 : Int32))) (lv' := [(2, .int (u3 + (1 : Int32))), (1, .int y10), (0, .ref (ta 0))]) hx hb dX6_standing_30 hl rfl (ii_ _ _ _ (by decide)) (by decide) rfl (fun ls hl => ?_)
          refine lv_goto (tgt := 4) hx hb dX6_standing_33 (by decide) ?_
          exact IH4 y10 (u3 + (1 : Int32)) _ _ _ hF hP hD hS (lv_sub hl [0, 1, 2] rfl)
  exact L4 100 (0 : Int32) (0 : Int32) _ _ _ hF hP hD hS (lv_sub hl [0, 1, 2] rfl)

noncomputable def F_X6_place_x4 (w1 : Int32) : Option Int32 :=
  some w1

noncomputable def F_X6_place_l4 (xb : Int32) (K_4 : Int32 → Option Int32) : Nat → Int32 → Int32 → Option Int32
  | 0, _, _ => none
  | n4 + 1, u2, u3 =>
  br (u3 ≤ (0 : Int32)) (K_4 u2) (bv (u3 - u3 / (10 : Int32) * (10 : Int32)) fun y5 => bv (xb + (1 : Int32)) fun y6 => br (y5 = y6) (K_4 u2) (bv (u3 / (10 : Int32)) fun y8 => (F_X6_place_l4 xb K_4 n4) (u2 + (1 : Int32)) y8))

noncomputable def F_X6_place (xa : Int32) (xb : Int32) : Option Int32 :=
  F_X6_place_l4 xb F_X6_place_x4 100 (0 : Int32) xa

set_option maxHeartbeats 4000000 in
set_option maxRecDepth 100000 in
theorem c_X6_place (l : Launch) (dC : Nat → ClassId) (dI : Nat → Nat → Nat)  (xa : Int32) (xb : Int32) (sz : Nat)  (ro : Int32) (hF : F_X6_place xa xb = some ro) : Met l yX6_place wsX6_place ({ frames := 2, cells := 0, slots := 0, locals := 40 }) (va_Pc [.int xa, .int xb] (pr_ dC dI ([]) [] sz)) (va_Qi (fun (r : Int32) (_ : Unit) => r = ro) (fun (_ : Unit) t => po_ dC dI ([]) [] (va_A ([]) sz) t) (va_A ([]) sz)) 0 0 (va_A ([]) sz) := by
  refine Met.ofW (cc := cX6_place) (maxL := 4) (ret := (some .int)) (by decide) rfl ?_
  intro p e s m args below meth c s₁ B hml hv
  obtain ⟨hargs, hsz, hP, hK, hD0⟩ := hv
  have hx := B.exec
  have hb := B.bytes
  have hr := B.returns
  have hts := atoms_spec (ws := wsX6_place) B.pre
  have hown : s.vm.findClass RX6 = some m.cls := findClass_of_methodNamed B.named
  have hlocks := B.notSynchronized
  subst hsz
  have hD := hD0.self (sz := s.heap.size)
  generalize hAe : va_A ([]) s.heap.size = A at hD ⊢
  have hA : ∀ x : Nat, s.heap.size ≤ x → A x := fun x h => by rw [← hAe]; exact Or.inr h
  have hS : va_S A s.heap s.heap [] := va_S.rf
  have hl := lv_entry ([.int xa, .int xb]) (n := 4) (Nat.le_of_ble_eq_true rfl)
  refine w_ent hargs ?_
  rw [lg_entry_eq]
  generalize (lg_sl ([.int xa, .int xb]) ++ List.replicate (4 - (lg_sl ([.int xa, .int xb])).length) Slot.unset).toArray = ls at hl ⊢
  have hl : lv_has ls 4 [(0, .int xa), (1, .int xb)] := hl
  unfold F_X6_place at hF
  refine w_go (fun Q hQ => ?_)
  refine lv_iconst (v := 0) hx hb dX6_place_0 (by decide) ?_
  refine lv_istore_n (lv' := [(2, .int 0), (0, .int xa), (1, .int xb)]) hx hb dX6_place_1 rfl hl (by decide) rfl (fun ls hl => ?_)
  refine lv_iload_n hx hb dX6_place_2 rfl (lv_at hl 1 rfl) ?_
  refine lv_istore_n (lv' := [(3, .int xa), (2, .int 0), (0, .int xa), (1, .int xb)]) hx hb dX6_place_3 rfl hl (by decide) rfl (fun ls hl => ?_)
  have Jx4 : ∀ (w1 : Int32) (H : Heap) (locs : List Loc) (ls : Array Slot), F_X6_place_x4 w1 = some ro → va_P (dC, dI) vwCl ([]) H → va_D A ([]) → va_S A s.heap H locs → lv_has ls 4 [(2, .int w1)] → W p l e (headSpec wsX6_place ({ frames := 2, cells := 0, slots := 0, locals := 40 } : Room)).room s m args below meth c H locs 0 0 Q (F0 m 29 ls []) := by
    intro w1 H locs ls hF hP hD hS hl
    unfold F_X6_place_x4 at hF
    refine lv_iload_n hx hb dX6_place_29 rfl (lv_at hl 0 rfl) ?_
    have e9 := some1 hF
    subst hQ
    exact W.iret (v := w1) hx hb hr (fun t ht hW => ⟨⟨w1, (), rfl, e9.symm, po_mk ht hW hP hK hD⟩, hS.F ht⟩) hS.2.2 dX6_place_30
  have L4 : ∀ (n4 : Nat) (u2 : Int32) (u3 : Int32) (H : Heap) (locs : List Loc) (ls : Array Slot), F_X6_place_l4 xb F_X6_place_x4 n4 u2 u3 = some ro → va_P (dC, dI) vwCl ([]) H → va_D A ([]) → va_S A s.heap H locs → lv_has ls 4 [(3, .int u3), (2, .int u2), (1, .int xb)] → W p l e (headSpec wsX6_place ({ frames := 2, cells := 0, slots := 0, locals := 40 } : Room)).room s m args below meth c H locs 0 0 Q (F0 m 4 ls []) := by
    intro n4
    induction n4 with
    | zero =>
      intro u2 u3 H locs ls hF
      rw [F_X6_place_l4] at hF
      cases hF
    | succ n4 IH4 =>
      intro u2 u3 H locs ls hF hP hD hS hl
      rw [F_X6_place_l4] at hF
      refine lv_iload_n hx hb dX6_place_4 rfl (lv_at hl 0 rfl) ?_
      refine lv_if_le (tgt := 29) hx hb dX6_place_5 (by decide) (fun hc4 => ?_) (fun hc4 => ?_)
      · have hF := br_pos hc4 hF
        exact Jx4 u2 _ _ _ hF hP hD hS (lv_sub hl [1] rfl)
      · have hF := br_neg hc4 hF
        refine lv_iload_n hx hb dX6_place_8 rfl (lv_at hl 0 rfl) ?_
        refine lv_bipush (v := 10) hx hb dX6_place_9 (by decide) ?_
        refine lv_irem hx hb dX6_place_11 (by decide) ?_
        refine lv_topi (fun y5 ey5 => ?_)
        have hF := bv_at ey5 hF
        refine lv_iload_n hx hb dX6_place_12 rfl (lv_at hl 2 rfl) ?_
        refine lv_iconst (v := 1) hx hb dX6_place_13 (by decide) ?_
        refine lv_iadd hx hb dX6_place_14 ?_
        refine lv_topi (fun y6 ey6 => ?_)
        have hF := bv_at ey6 hF
        refine lv_icmp_eq (tgt := 29) hx hb dX6_place_15 (by decide) (fun hc7 => ?_) (fun hc7 => ?_)
        · have hF := br_pos hc7 hF
          exact Jx4 u2 _ _ _ hF hP hD hS (lv_sub hl [1] rfl)
        · have hF := br_neg hc7 hF
          refine lv_iinc (k := 1) (v := (u2 + (1 : Int32))) (lv' := [(2, .int (u2 + (1 : Int32))), (3, .int u3), (1, .int xb)]) hx hb dX6_place_18 hl rfl (ii_ _ _ _ (by decide)) (by decide) rfl (fun ls hl => ?_)
          refine lv_iload_n hx hb dX6_place_21 rfl (lv_at hl 1 rfl) ?_
          refine lv_bipush (v := 10) hx hb dX6_place_22 (by decide) ?_
          refine lv_idiv hx hb dX6_place_24 (by decide) ?_
          refine lv_topi (fun y8 ey8 => ?_)
          have hF := bv_at ey8 hF
          refine lv_istore_n (lv' := [(3, .int y8), (2, .int (u2 + (1 : Int32))), (1, .int xb)]) hx hb dX6_place_25 rfl hl (by decide) rfl (fun ls hl => ?_)
          refine lv_goto (tgt := 4) hx hb dX6_place_26 (by decide) ?_
          exact IH4 (u2 + (1 : Int32)) y8 _ _ _ hF hP hD hS (lv_sub hl [0, 1, 2] rfl)
  exact L4 100 (0 : Int32) xa _ _ _ hF hP hD hS (lv_sub hl [0, 1, 3] rfl)

noncomputable def F_X6_firstOf_x10 (w2 : Int32) : Option Int32 :=
  some w2

noncomputable def F_X6_firstOf_j44 (u5 : Int32) (B_10 : Int32 → Int32 → Int32 → Option Int32) (v9 : Int32) (v10 : Int32) : Option Int32 :=
  bv (u5 / (10 : Int32)) fun y11 => B_10 v9 v10 y11

noncomputable def F_X6_firstOf_l10 (xb : Int32) (K_10 : Int32 → Option Int32) : Nat → Int32 → Int32 → Int32 → Option Int32
  | 0, _, _, _ => none
  | n10 + 1, u3, u4, u5 =>
  br (u5 ≤ (0 : Int32)) (K_10 u3) (bv (u5 - u5 / (10 : Int32) * (10 : Int32)) fun y7 => bv (xb + (1 : Int32)) fun y8 => br (y7 = y8) ((F_X6_firstOf_j44 u5 (F_X6_firstOf_l10 xb K_10 n10)) u3 u4) (bv (u5 - u5 / (10 : Int32) * (10 : Int32)) fun y13 => bv (y13 * u4) fun y14 => bv (u3 + y14) fun y15 => bv (u4 * (10 : Int32)) fun y16 => (F_X6_firstOf_j44 u5 (F_X6_firstOf_l10 xb K_10 n10)) y15 y16))

noncomputable def F_X6_firstOf (xa : Int32) (xb : Int32) : Option Int32 :=
  bv (xb + (1 : Int32)) fun y1 => F_X6_firstOf_l10 xb F_X6_firstOf_x10 100 y1 (10 : Int32) xa

set_option maxHeartbeats 4000000 in
set_option maxRecDepth 100000 in
theorem c_X6_firstOf (l : Launch) (dC : Nat → ClassId) (dI : Nat → Nat → Nat)  (xa : Int32) (xb : Int32) (sz : Nat)  (ro : Int32) (hF : F_X6_firstOf xa xb = some ro) : Met l yX6_firstOf wsX6_firstOf ({ frames := 2, cells := 0, slots := 0, locals := 40 }) (va_Pc [.int xa, .int xb] (pr_ dC dI ([]) [] sz)) (va_Qi (fun (r : Int32) (_ : Unit) => r = ro) (fun (_ : Unit) t => po_ dC dI ([]) [] (va_A ([]) sz) t) (va_A ([]) sz)) 0 0 (va_A ([]) sz) := by
  refine Met.ofW (cc := cX6_firstOf) (maxL := 5) (ret := (some .int)) (by decide) rfl ?_
  intro p e s m args below meth c s₁ B hml hv
  obtain ⟨hargs, hsz, hP, hK, hD0⟩ := hv
  have hx := B.exec
  have hb := B.bytes
  have hr := B.returns
  have hts := atoms_spec (ws := wsX6_firstOf) B.pre
  have hown : s.vm.findClass RX6 = some m.cls := findClass_of_methodNamed B.named
  have hlocks := B.notSynchronized
  subst hsz
  have hD := hD0.self (sz := s.heap.size)
  generalize hAe : va_A ([]) s.heap.size = A at hD ⊢
  have hA : ∀ x : Nat, s.heap.size ≤ x → A x := fun x h => by rw [← hAe]; exact Or.inr h
  have hS : va_S A s.heap s.heap [] := va_S.rf
  have hl := lv_entry ([.int xa, .int xb]) (n := 5) (Nat.le_of_ble_eq_true rfl)
  refine w_ent hargs ?_
  rw [lg_entry_eq]
  generalize (lg_sl ([.int xa, .int xb]) ++ List.replicate (5 - (lg_sl ([.int xa, .int xb])).length) Slot.unset).toArray = ls at hl ⊢
  have hl : lv_has ls 5 [(0, .int xa), (1, .int xb)] := hl
  unfold F_X6_firstOf at hF
  refine w_go (fun Q hQ => ?_)
  refine lv_iload_n hx hb dX6_firstOf_0 rfl (lv_at hl 1 rfl) ?_
  refine lv_iconst (v := 1) hx hb dX6_firstOf_1 (by decide) ?_
  refine lv_iadd hx hb dX6_firstOf_2 ?_
  refine lv_topi (fun y1 ey1 => ?_)
  have hF := bv_at ey1 hF
  refine lv_istore_n (lv' := [(2, .int y1), (0, .int xa), (1, .int xb)]) hx hb dX6_firstOf_3 rfl hl (by decide) rfl (fun ls hl => ?_)
  refine lv_bipush (v := 10) hx hb dX6_firstOf_4 (by decide) ?_
  refine lv_istore_n (lv' := [(3, .int 10), (2, .int y1), (0, .int xa), (1, .int xb)]) hx hb dX6_firstOf_6 rfl hl (by decide) rfl (fun ls hl => ?_)
  refine lv_iload_n hx hb dX6_firstOf_7 rfl (lv_at hl 2 rfl) ?_
  refine lv_istore (lv' := [(4, .int xa), (3, .int 10), (2, .int y1), (0, .int xa), (1, .int xb)]) hx hb dX6_firstOf_8 hl (by decide) rfl (fun ls hl => ?_)
  have Jx10 : ∀ (w2 : Int32) (H : Heap) (locs : List Loc) (ls : Array Slot), F_X6_firstOf_x10 w2 = some ro → va_P (dC, dI) vwCl ([]) H → va_D A ([]) → va_S A s.heap H locs → lv_has ls 5 [(2, .int w2)] → W p l e (headSpec wsX6_firstOf ({ frames := 2, cells := 0, slots := 0, locals := 40 } : Room)).room s m args below meth c H locs 0 0 Q (F0 m 54 ls []) := by
    intro w2 H locs ls hF hP hD hS hl
    unfold F_X6_firstOf_x10 at hF
    refine lv_iload_n hx hb dX6_firstOf_54 rfl (lv_at hl 0 rfl) ?_
    have e9 := some1 hF
    subst hQ
    exact W.iret (v := w2) hx hb hr (fun t ht hW => ⟨⟨w2, (), rfl, e9.symm, po_mk ht hW hP hK hD⟩, hS.F ht⟩) hS.2.2 dX6_firstOf_55
  have L10 : ∀ (n10 : Nat) (u3 : Int32) (u4 : Int32) (u5 : Int32) (H : Heap) (locs : List Loc) (ls : Array Slot), F_X6_firstOf_l10 xb F_X6_firstOf_x10 n10 u3 u4 u5 = some ro → va_P (dC, dI) vwCl ([]) H → va_D A ([]) → va_S A s.heap H locs → lv_has ls 5 [(4, .int u5), (3, .int u4), (2, .int u3), (1, .int xb)] → W p l e (headSpec wsX6_firstOf ({ frames := 2, cells := 0, slots := 0, locals := 40 } : Room)).room s m args below meth c H locs 0 0 Q (F0 m 10 ls []) := by
    intro n10
    induction n10 with
    | zero =>
      intro u3 u4 u5 H locs ls hF
      rw [F_X6_firstOf_l10] at hF
      cases hF
    | succ n10 IH10 =>
      intro u3 u4 u5 H locs ls hF hP hD hS hl
      rw [F_X6_firstOf_l10] at hF
      refine lv_iload hx hb dX6_firstOf_10 (lv_at hl 0 rfl) ?_
      refine lv_if_le (tgt := 54) hx hb dX6_firstOf_12 (by decide) (fun hc6 => ?_) (fun hc6 => ?_)
      · have hF := br_pos hc6 hF
        exact Jx10 u3 _ _ _ hF hP hD hS (lv_sub hl [2] rfl)
      · have hF := br_neg hc6 hF
        refine lv_iload hx hb dX6_firstOf_15 (lv_at hl 0 rfl) ?_
        refine lv_bipush (v := 10) hx hb dX6_firstOf_17 (by decide) ?_
        refine lv_irem hx hb dX6_firstOf_19 (by decide) ?_
        refine lv_topi (fun y7 ey7 => ?_)
        have hF := bv_at ey7 hF
        refine lv_iload_n hx hb dX6_firstOf_20 rfl (lv_at hl 3 rfl) ?_
        refine lv_iconst (v := 1) hx hb dX6_firstOf_21 (by decide) ?_
        refine lv_iadd hx hb dX6_firstOf_22 ?_
        refine lv_topi (fun y8 ey8 => ?_)
        have hF := bv_at ey8 hF
        have Jj44 : ∀ (v9 : Int32) (v10 : Int32) (H : Heap) (locs : List Loc) (ls : Array Slot), (F_X6_firstOf_j44 u5 (F_X6_firstOf_l10 xb F_X6_firstOf_x10 n10)) v9 v10 = some ro → va_P (dC, dI) vwCl ([]) H → va_D A ([]) → va_S A s.heap H locs → lv_has ls 5 [(4, .int u5), (3, .int v10), (2, .int v9), (1, .int xb)] → W p l e (headSpec wsX6_firstOf ({ frames := 2, cells := 0, slots := 0, locals := 40 } : Room)).room s m args below meth c H locs 0 0 Q (F0 m 44 ls []) := by
          intro v9 v10 H locs ls hF hP hD hS hl
          unfold F_X6_firstOf_j44 at hF
          refine lv_iload hx hb dX6_firstOf_44 (lv_at hl 0 rfl) ?_
          refine lv_bipush (v := 10) hx hb dX6_firstOf_46 (by decide) ?_
          refine lv_idiv hx hb dX6_firstOf_48 (by decide) ?_
          refine lv_topi (fun y11 ey11 => ?_)
          have hF := bv_at ey11 hF
          refine lv_istore (lv' := [(4, .int y11), (3, .int v10), (2, .int v9), (1, .int xb)]) hx hb dX6_firstOf_49 hl (by decide) rfl (fun ls hl => ?_)
          refine lv_goto (tgt := 10) hx hb dX6_firstOf_51 (by decide) ?_
          exact IH10 v9 v10 y11 _ _ _ hF hP hD hS (lv_sub hl [0, 1, 2, 3] rfl)
        refine lv_icmp_ne (tgt := 29) hx hb dX6_firstOf_23 (by decide) (fun hc12 => ?_) (fun hc12 => ?_)
        · have hF := br_neg hc12 hF
          refine lv_iload_n hx hb dX6_firstOf_29 rfl (lv_at hl 2 rfl) ?_
          refine lv_iload hx hb dX6_firstOf_30 (lv_at hl 0 rfl) ?_
          refine lv_bipush (v := 10) hx hb dX6_firstOf_32 (by decide) ?_
          refine lv_irem hx hb dX6_firstOf_34 (by decide) ?_
          refine lv_topi (fun y13 ey13 => ?_)
          have hF := bv_at ey13 hF
          refine lv_iload_n hx hb dX6_firstOf_35 rfl (lv_at hl 1 rfl) ?_
          refine lv_imul hx hb dX6_firstOf_36 ?_
          refine lv_topi (fun y14 ey14 => ?_)
          have hF := bv_at ey14 hF
          refine lv_iadd hx hb dX6_firstOf_37 ?_
          refine lv_topi (fun y15 ey15 => ?_)
          have hF := bv_at ey15 hF
          refine lv_istore_n (lv' := [(2, .int y15), (4, .int u5), (3, .int u4), (1, .int xb)]) hx hb dX6_firstOf_38 rfl hl (by decide) rfl (fun ls hl => ?_)
          refine lv_iload_n hx hb dX6_firstOf_39 rfl (lv_at hl 2 rfl) ?_
          refine lv_bipush (v := 10) hx hb dX6_firstOf_40 (by decide) ?_
          refine lv_imul hx hb dX6_firstOf_42 ?_
          refine lv_topi (fun y16 ey16 => ?_)
          have hF := bv_at ey16 hF
          refine lv_istore_n (lv' := [(3, .int y16), (2, .int y15), (4, .int u5), (1, .int xb)]) hx hb dX6_firstOf_43 rfl hl (by decide) rfl (fun ls hl => ?_)
          exact Jj44 y15 y16 _ _ _ hF hP hD hS (lv_sub hl [2, 0, 1, 3] rfl)
        · have hF := br_pos hc12 hF
          refine lv_goto (tgt := 44) hx hb dX6_firstOf_26 (by decide) ?_
          exact Jj44 u3 u4 _ _ _ hF hP hD hS (lv_sub hl [0, 1, 2, 3] rfl)
  exact L10 100 y1 (10 : Int32) xa _ _ _ hF hP hD hS (lv_sub hl [0, 1, 2, 4] rfl)

noncomputable def F_X6_list_x20 (w3 : Int32) : Option Int32 :=
  some w3

noncomputable def F_X6_list_j58 (u6 : Int32) (B_20 : Int32 → Int32 → Int32 → Option Int32) (v12 : Int32) (v13 : Int32) : Option Int32 :=
  bv (u6 / (10 : Int32)) fun y14 => B_20 v12 v13 y14

noncomputable def F_X6_list_l20 (Y : TS) (K_20 : Int32 → Option Int32) : Nat → Int32 → Int32 → Int32 → Option Int32
  | 0, _, _, _ => none
  | n20 + 1, u4, u5, u6 =>
  br (u6 ≤ (0 : Int32)) (K_20 u4) (bv (u6 - u6 / (10 : Int32) * (10 : Int32)) fun y8 => bv (y8 - (1 : Int32)) fun y9 => gd (¬ (y9 < 0 ∨ 6 ≤ ix y9)) <| bv (Y.1.2 2 (ix y9)) fun y11 => br (y11 = (0 : Int32)) (bv (u6 - u6 / (10 : Int32) * (10 : Int32)) fun y16 => bv (y16 * u5) fun y17 => bv (u4 + y17) fun y18 => bv (u5 * (10 : Int32)) fun y19 => (F_X6_list_j58 u6 (F_X6_list_l20 Y K_20 n20)) y18 y19) ((F_X6_list_j58 u6 (F_X6_list_l20 Y K_20 n20)) u4 u5))

noncomputable def F_X6_list_j18 (Y : TS) (v2 : Int32) : Option Int32 :=
  F_X6_list_l20 Y F_X6_list_x20 100 (0 : Int32) (1 : Int32) v2

noncomputable def F_X6_list (L : Nat) (xs : Nat → Int32) (Y : TS) (ka : Nat) : Option Int32 :=
  bv (Y.1.2 (5 + ka) (ix (3 : Int32))) fun y1 => br (y1 = (1 : Int32)) ((F_X6_list_j18 Y) (0 : Int32)) (bv (Y.1.2 (5 + ka) (ix (1 : Int32))) fun y21 => (F_X6_list_j18 Y) y21)

set_option maxHeartbeats 4000000 in
set_option maxRecDepth 100000 in
theorem c_X6_list (l : Launch) (dC : Nat → ClassId) (dI : Nat → Nat → Nat) (q : Nat → ClassId) (ta aa : Nat → Nat) (sa : Nat) (L : Nat) (xs : Nat → Int32) (Y : TS) (ka : Nat) (sz : Nat) (hka : ka < Y.1.1 4) (ro : Int32) (hF : F_X6_list L xs Y ka = some ro) : Met l yX6_list wsX6_list ({ frames := 2, cells := 0, slots := 0, locals := 40 }) (va_Pc [.ref (ta 0), .ref (ta (5 + ka))] (fun U => pr_ dC dI (ww q ta aa sa Y) (bty q) sz U ∧ sx_ (va_A (ww q ta aa sa Y) sz) sa L xs U)) (va_Qi (fun (r : Int32) (_ : Unit) => r = ro) (fun (_ : Unit) t => po_ dC dI (ww q ta aa sa Y) (bty q) (va_A (ww q ta aa sa Y) sz) t) (va_A (ww q ta aa sa Y) sz)) 0 0 (va_A (ww q ta aa sa Y) sz) := by
  refine Met.ofW (cc := cX6_list) (maxL := 5) (ret := (some .int)) (by decide) rfl ?_
  intro p e s m args below meth c s₁ B hml hv
  obtain ⟨hargs, ⟨hsz, hP, hK, hD0⟩, hXs⟩ := hv
  have hx := B.exec
  have hb := B.bytes
  have hr := B.returns
  have hts := atoms_spec (ws := wsX6_list) B.pre
  have hown : s.vm.findClass RX6 = some m.cls := findClass_of_methodNamed B.named
  have hlocks := B.notSynchronized
  subst hsz
  have hD := hD0.self (sz := s.heap.size)
  generalize hAe : va_A (ww q ta aa sa Y) s.heap.size = A at hD hXs ⊢
  have hA : ∀ x : Nat, s.heap.size ≤ x → A x := fun x h => by rw [← hAe]; exact Or.inr h
  have hS : va_S A s.heap s.heap [] := va_S.rf
  have hinX6 : ∀ w ∈ u_ws RX6 TX6 9, w ∈ wsX6_list := by decide +kernel
  have hl := lv_entry ([.ref (ta 0), .ref (ta (5 + ka))]) (n := 5) (Nat.le_of_ble_eq_true rfl)
  refine w_ent hargs ?_
  rw [lg_entry_eq]
  generalize (lg_sl ([.ref (ta 0), .ref (ta (5 + ka))]) ++ List.replicate (5 - (lg_sl ([.ref (ta 0), .ref (ta (5 + ka))])).length) Slot.unset).toArray = ls at hl ⊢
  have hl : lv_has ls 5 [(0, .ref (ta 0)), (1, .ref (ta (5 + ka)))] := hl
  unfold F_X6_list at hF
  refine w_go (fun Q hQ => ?_)
  refine lv_iconst (v := 0) hx hb dX6_list_0 (by decide) ?_
  refine lv_istore_n (lv' := [(2, .int 0), (0, .ref (ta 0)), (1, .ref (ta (5 + ka)))]) hx hb dX6_list_1 rfl hl (by decide) rfl (fun ls hl => ?_)
  refine lv_iconst (v := 1) hx hb dX6_list_2 (by decide) ?_
  refine lv_istore_n (lv' := [(3, .int 1), (2, .int 0), (0, .ref (ta 0)), (1, .ref (ta (5 + ka)))]) hx hb dX6_list_3 rfl hl (by decide) rfl (fun ls hl => ?_)
  refine lv_aload_n hx hb dX6_list_4 rfl (lv_at hl 3 rfl) ?_
  refine lv_iconst (v := 3) hx hb dX6_list_5 (by decide) ?_
  refine va_iald hx hb hK hP (5 + ka) 0 (ww_r hka) rfl (by unfold vp_in; decide) dX6_list_6 ?_
  refine lv_topi (fun y1 ey1 => ?_)
  have hF := bv_at ey1 hF
  refine lv_iconst (v := 1) hx hb dX6_list_7 (by decide) ?_
  have Jj18 : ∀ (v2 : Int32) (H : Heap) (locs : List Loc) (ls : Array Slot), (F_X6_list_j18 Y) v2 = some ro → va_P (dC, dI) vwCl (ww q ta aa sa Y) H → va_D A (ww q ta aa sa Y) → va_S A s.heap H locs → lv_has ls 5 [(3, .int 1), (2, .int 0), (0, .ref (ta 0))] → W p l e (headSpec wsX6_list ({ frames := 2, cells := 0, slots := 0, locals := 40 } : Room)).room s m args below meth c H locs 0 0 Q (F0 m 18 ls [.int v2]) := by
    intro v2 H locs ls hF hP hD hS hl
    unfold F_X6_list_j18 at hF
    refine lv_istore (lv' := [(4, .int v2), (3, .int 1), (2, .int 0), (0, .ref (ta 0))]) hx hb dX6_list_18 hl (by decide) rfl (fun ls hl => ?_)
    have Jx20 : ∀ (w3 : Int32) (H : Heap) (locs : List Loc) (ls : Array Slot), F_X6_list_x20 w3 = some ro → va_P (dC, dI) vwCl (ww q ta aa sa Y) H → va_D A (ww q ta aa sa Y) → va_S A s.heap H locs → lv_has ls 5 [(2, .int w3)] → W p l e (headSpec wsX6_list ({ frames := 2, cells := 0, slots := 0, locals := 40 } : Room)).room s m args below meth c H locs 0 0 Q (F0 m 68 ls []) := by
      intro w3 H locs ls hF hP hD hS hl
      unfold F_X6_list_x20 at hF
      refine lv_iload_n hx hb dX6_list_68 rfl (lv_at hl 0 rfl) ?_
      have e9 := some1 hF
      subst hQ
      exact W.iret (v := w3) hx hb hr (fun t ht hW => ⟨⟨w3, (), rfl, e9.symm, po_mk ht hW hP hK hD⟩, hS.F ht⟩) hS.2.2 dX6_list_69
    have L20 : ∀ (n20 : Nat) (u4 : Int32) (u5 : Int32) (u6 : Int32) (H : Heap) (locs : List Loc) (ls : Array Slot), F_X6_list_l20 Y F_X6_list_x20 n20 u4 u5 u6 = some ro → va_P (dC, dI) vwCl (ww q ta aa sa Y) H → va_D A (ww q ta aa sa Y) → va_S A s.heap H locs → lv_has ls 5 [(4, .int u6), (3, .int u5), (2, .int u4), (0, .ref (ta 0))] → W p l e (headSpec wsX6_list ({ frames := 2, cells := 0, slots := 0, locals := 40 } : Room)).room s m args below meth c H locs 0 0 Q (F0 m 20 ls []) := by
      intro n20
      induction n20 with
      | zero =>
        intro u4 u5 u6 H locs ls hF
        rw [F_X6_list_l20] at hF
        cases hF
      | succ n20 IH20 =>
        intro u4 u5 u6 H locs ls hF hP hD hS hl
        rw [F_X6_list_l20] at hF
        refine lv_iload hx hb dX6_list_20 (lv_at hl 0 rfl) ?_
        refine lv_if_le (tgt := 68) hx hb dX6_list_22 (by decide) (fun hc7 => ?_) (fun hc7 => ?_)
        · have hF := br_pos hc7 hF
          exact Jx20 u4 _ _ _ hF hP hD hS (lv_sub hl [2] rfl)
        · have hF := br_neg hc7 hF
          refine lv_aload_n hx hb dX6_list_25 rfl (lv_at hl 3 rfl) ?_
          refine va_get (D := (dC, dI)) (ci := 8) (v := .ref (ta 2)) (C := RX6) (T := TX6) (N := 9) hx hb hts hinX6 hown hK hP 0 ww_0 rfl 4 (by decide) (hts (.fieldLink RX6 20 "BallotLoomLaw$Told" "gone" "[Z") (by decide +kernel)) (fun _ h9 => h9) rfl dX6_list_26 ?_
          refine lv_iload hx hb dX6_list_29 (lv_at hl 0 rfl) ?_
          refine lv_bipush (v := 10) hx hb dX6_list_31 (by decide) ?_
          refine lv_irem hx hb dX6_list_33 (by decide) ?_
          refine lv_topi (fun y8 ey8 => ?_)
          have hF := bv_at ey8 hF
          refine lv_iconst (v := 1) hx hb dX6_list_34 (by decide) ?_
          refine lv_isub hx hb dX6_list_35 ?_
          refine lv_topi (fun y9 ey9 => ?_)
          have hF := bv_at ey9 hF
          obtain ⟨hg10, hF⟩ := gd_some hF
          refine va_zald hx hb hK hP 2 1 ww_2 rfl hg10 dX6_list_36 ?_
          refine lv_topi (fun y11 ey11 => ?_)
          have hF := bv_at ey11 hF
          have Jj58 : ∀ (v12 : Int32) (v13 : Int32) (H : Heap) (locs : List Loc) (ls : Array Slot), (F_X6_list_j58 u6 (F_X6_list_l20 Y F_X6_list_x20 n20)) v12 v13 = some ro → va_P (dC, dI) vwCl (ww q ta aa sa Y) H → va_D A (ww q ta aa sa Y) → va_S A s.heap H locs → lv_has ls 5 [(4, .int u6), (3, .int v13), (2, .int v12), (0, .ref (ta 0))] → W p l e (headSpec wsX6_list ({ frames := 2, cells := 0, slots := 0, locals := 40 } : Room)).room s m args below meth c H locs 0 0 Q (F0 m 58 ls []) := by
            intro v12 v13 H locs ls hF hP hD hS hl
            unfold F_X6_list_j58 at hF
            refine lv_iload hx hb dX6_list_58 (lv_at hl 0 rfl) ?_
            refine lv_bipush (v := 10) hx hb dX6_list_60 (by decide) ?_
            refine lv_idiv hx hb dX6_list_62 (by decide) ?_
            refine lv_topi (fun y14 ey14 => ?_)
            have hF := bv_at ey14 hF
            refine lv_istore (lv' := [(4, .int y14), (3, .int v13), (2, .int v12), (0, .ref (ta 0))]) hx hb dX6_list_63 hl (by decide) rfl (fun ls hl => ?_)
            refine lv_goto (tgt := 20) hx hb dX6_list_65 (by decide) ?_
            exact IH20 v12 v13 y14 _ _ _ hF hP hD hS (lv_sub hl [0, 1, 2, 3] rfl)
          refine lv_if_eq (tgt := 43) hx hb dX6_list_37 (by decide) (fun hc15 => ?_) (fun hc15 => ?_)
          · have hF := br_pos hc15 hF
            refine lv_iload_n hx hb dX6_list_43 rfl (lv_at hl 2 rfl) ?_
            refine lv_iload hx hb dX6_list_44 (lv_at hl 0 rfl) ?_
            refine lv_bipush (v := 10) hx hb dX6_list_46 (by decide) ?_
            refine lv_irem hx hb dX6_list_48 (by decide) ?_
            refine lv_topi (fun y16 ey16 => ?_)
            have hF := bv_at ey16 hF
            refine lv_iload_n hx hb dX6_list_49 rfl (lv_at hl 1 rfl) ?_
            refine lv_imul hx hb dX6_list_50 ?_
            refine lv_topi (fun y17 ey17 => ?_)
            have hF := bv_at ey17 hF
            refine lv_iadd hx hb dX6_list_51 ?_
            refine lv_topi (fun y18 ey18 => ?_)
            have hF := bv_at ey18 hF
            refine lv_istore_n (lv' := [(2, .int y18), (4, .int u6), (3, .int u5), (0, .ref (ta 0))]) hx hb dX6_list_52 rfl hl (by decide) rfl (fun ls hl => ?_)
            refine lv_iload_n hx hb dX6_list_53 rfl (lv_at hl 2 rfl) ?_
            refine lv_bipush (v := 10) hx hb dX6_list_54 (by decide) ?_
            refine lv_imul hx hb dX6_list_56 ?_
            refine lv_topi (fun y19 ey19 => ?_)
            have hF := bv_at ey19 hF
            refine lv_istore_n (lv' := [(3, .int y19), (2, .int y18), (4, .int u6), (0, .ref (ta 0))]) hx hb dX6_list_57 rfl hl (by decide) rfl (fun ls hl => ?_)
            exact Jj58 y18 y19 _ _ _ hF hP hD hS (lv_sub hl [2, 0, 1, 3] rfl)
          · have hF := br_neg hc15 hF
            refine lv_goto (tgt := 58) hx hb dX6_list_40 (by decide) ?_
            exact Jj58 u4 u5 _ _ _ hF hP hD hS (lv_sub hl [0, 1, 2, 3] rfl)
    exact L20 100 (0 : Int32) (1 : Int32) v2 _ _ _ hF hP hD hS (lv_sub hl [0, 1, 2, 3] rfl)
  refine lv_icmp_ne (tgt := 15) hx hb dX6_list_8 (by decide) (fun hc20 => ?_) (fun hc20 => ?_)
  · have hF := br_neg hc20 hF
    refine lv_aload_n hx hb dX6_list_15 rfl (lv_at hl 3 rfl) ?_
    refine lv_iconst (v := 1) hx hb dX6_list_16 (by decide) ?_
    refine va_iald hx hb hK hP (5 + ka) 0 (ww_r hka) rfl (by unfold vp_in; decide) dX6_list_17 ?_
    refine lv_topi (fun y21 ey21 => ?_)
    have hF := bv_at ey21 hF
    exact Jj18 y21 _ _ _ hF hP hD hS (lv_sub hl [0, 1, 2] rfl)
  · have hF := br_pos hc20 hF
    refine lv_iconst (v := 0) hx hb dX6_list_11 (by decide) ?_
    refine lv_goto (tgt := 18) hx hb dX6_list_12 (by decide) ?_
    exact Jj18 (0 : Int32) _ _ _ hF hP hD hS (lv_sub hl [0, 1, 2] rfl)

noncomputable def F_X6_withdraw (L : Nat) (xs : Nat → Int32) (Y : TS) : Option (TS × Int32) :=
  bv (nI (Y.1.1 1)) fun y1 => calt (F_X6_draw L xs Y y1) fun Y4 ra5 => gd (¬ (ra5 < 0 ∨ 6 ≤ ix ra5)) <| bv (Y4.1.2 2 (ix ra5)) fun y7 => br (y7 = (0 : Int32)) (calp (F_X6_standing L xs Y4 ) fun ra11 => br ((3 : Int32) ≤ ra11) (bv (tsi Y4 2 (ix ra5) (vp_nar .boolean (1 : Int32))) fun Y13 => cal (F_X5_withdraw Y13.2 ra5) fun z16 ra18 => bv (tz Y13 z16) fun Y17 => calp (F_X6_standing L xs Y17 ) fun ra21 => br (ra18 = ra21) (some (Y17, (1 : Int32))) (some (Y17, (0 : Int32)))) (some (Y4, (1 : Int32)))) (some (Y4, (1 : Int32)))

set_option maxHeartbeats 4000000 in
set_option maxRecDepth 100000 in
theorem c_X6_withdraw (l : Launch) (dC : Nat → ClassId) (dI : Nat → Nat → Nat) (q : Nat → ClassId) (ta aa : Nat → Nat) (sa : Nat) (L : Nat) (xs : Nat → Int32) (Y : TS)  (sz : Nat)  (Yo : TS) (ro : Int32) (hF : F_X6_withdraw L xs Y = some (Yo, ro)) : Met l yX6_withdraw wsX6_withdraw ({ frames := 6, cells := 0, slots := 0, locals := 128 }) (va_Pc [.ref (ta 0)] (fun U => pr_ dC dI (ww q ta aa sa Y) (bty q) sz U ∧ sx_ (va_A (ww q ta aa sa Y) sz) sa L xs U)) (va_Qi (fun (r : Int32) (_ : Unit) => r = ro) (fun (_ : Unit) t => po_ dC dI (ww q ta aa sa Yo) (bty q) (va_A (ww q ta aa sa Y) sz) t) (va_A (ww q ta aa sa Y) sz)) 0 0 (va_A (ww q ta aa sa Y) sz) := by
  refine Met.ofW (cc := cX6_withdraw) (maxL := 2) (ret := (some .boolean)) (by decide) rfl ?_
  intro p e s m args below meth c s₁ B hml hv
  obtain ⟨hargs, ⟨hsz, hP, hK, hD0⟩, hXs⟩ := hv
  have hx := B.exec
  have hb := B.bytes
  have hr := B.returns
  have hts := atoms_spec (ws := wsX6_withdraw) B.pre
  have hown : s.vm.findClass RX6 = some m.cls := findClass_of_methodNamed B.named
  have hlocks := B.notSynchronized
  subst hsz
  have hD := hD0.self (sz := s.heap.size)
  generalize hAe : va_A (ww q ta aa sa Y) s.heap.size = A at hD hXs ⊢
  have hA : ∀ x : Nat, s.heap.size ≤ x → A x := fun x h => by rw [← hAe]; exact Or.inr h
  have hS : va_S A s.heap s.heap [] := va_S.rf
  have hinX6 : ∀ w ∈ u_ws RX6 TX6 9, w ∈ wsX6_withdraw := by decide +kernel
  have hl := lv_entry ([.ref (ta 0)]) (n := 2) (Nat.le_of_ble_eq_true rfl)
  refine w_ent hargs ?_
  rw [lg_entry_eq]
  generalize (lg_sl ([.ref (ta 0)]) ++ List.replicate (2 - (lg_sl ([.ref (ta 0)])).length) Slot.unset).toArray = ls at hl ⊢
  have hl : lv_has ls 2 [(0, .ref (ta 0))] := hl
  unfold F_X6_withdraw at hF
  refine w_go (fun Q hQ => ?_)
  refine lv_aload_n hx hb dX6_withdraw_0 rfl (lv_at hl 0 rfl) ?_
  refine lv_aload_n hx hb dX6_withdraw_1 rfl (lv_at hl 0 rfl) ?_
  refine va_get (D := (dC, dI)) (ci := 8) (v := .ref (ta 1)) (C := RX6) (T := TX6) (N := 9) hx hb hts hinX6 hown hK hP 0 ww_0 rfl 3 (by decide) (hts (.fieldLink RX6 16 "BallotLoomLaw$Told" "parties" "[I") (by decide +kernel)) (fun _ h9 => h9) rfl dX6_withdraw_2 ?_
  refine va_alen (v := nI (Y.1.1 1)) hx hb hK hP 1 0 ww_1 rfl rfl dX6_withdraw_5 ?_
  refine lv_topi (fun y1 ey1 => ?_)
  have hF := bv_at ey1 hF
  obtain ⟨Y4, rr3, hC2, hF⟩ := calt_some hF
  have hFc := b_free (ws := ww q ta aa sa Y) hD hS hA
  refine va_calli (va_runV (As := [.int y1]) (rest := []) ⟨hx, hb, hml, hown, hts⟩ (c_X6_draw l dC dI q ta aa sa L xs Y y1 _  _ _ hC2) (cwV 1 hts gX6_withdraw_X6_draw rfl rfl rfl (by decide +kernel) ⟨Nat.le_of_ble_eq_true rfl, Nat.le_of_ble_eq_true rfl⟩) ⟨pe_blind (sx_bl _ _ _ _), va_recv hK hP (ci := 8) (q0 := 0) rfl ww_0, fun U hU hW => ⟨rfl, pr_mk hU hW hP hK hD, sx_mk hU hW hS hFc hXs⟩⟩ rfl rfl hl.1 rfl (lv_room (Nat.le_of_ble_eq_true rfl)) dX6_withdraw_6 ⟨Nat.le_of_ble_eq_true rfl, Nat.le_of_ble_eq_true rfl⟩) hS (fun x _ h => hFc x h) hFc (fun ra5 u t H1 locs ht hvm hw hB hz1 hk1 hS => ?_)
  obtain ⟨hP, hK1, hD1⟩ := hB
  rw [ht] at hP
  have hD := hD1.weaken (fun _ q9 _ h9 => hFc q9.1 h9)
  generalize H1 = H at hP hS ⊢
  refine W.widen (k := 0) (n := 0) (Nat.le_refl _) (Nat.le_refl _) ?_
  obtain rfl : ra5 = rr3 := hw
  refine lv_istore_n (lv' := [(1, .int ra5), (0, .ref (ta 0))]) hx hb dX6_withdraw_9 rfl hl (by decide) rfl (fun ls hl => ?_)
  refine lv_aload_n hx hb dX6_withdraw_10 rfl (lv_at hl 1 rfl) ?_
  refine va_get (D := (dC, dI)) (ci := 8) (v := .ref (ta 2)) (C := RX6) (T := TX6) (N := 9) hx hb hts hinX6 hown hK hP 0 ww_0 rfl 4 (by decide) (hts (.fieldLink RX6 20 "BallotLoomLaw$Told" "gone" "[Z") (by decide +kernel)) (fun _ h9 => h9) rfl dX6_withdraw_11 ?_
  refine lv_iload_n hx hb dX6_withdraw_14 rfl (lv_at hl 0 rfl) ?_
  obtain ⟨hg6, hF⟩ := gd_some hF
  refine va_zald hx hb hK hP 2 1 ww_2 rfl hg6 dX6_withdraw_15 ?_
  refine lv_topi (fun y7 ey7 => ?_)
  have hF := bv_at ey7 hF
  refine lv_if_ne (tgt := 27) hx hb dX6_withdraw_16 (by decide) (fun hc8 => ?_) (fun hc8 => ?_)
  · have hF := br_neg hc8 hF
    refine lv_iconst (v := 1) hx hb dX6_withdraw_27 (by decide) ?_
    obtain ⟨e8, e9⟩ := some2t hF
    rw [← e8] at hP hD
    subst hQ
    exact W.zret (v := 1) hx hb hr rfl (fun t ht hW => ⟨⟨1, (), rfl, e9.symm, po_mk ht hW hP hK hD⟩, hS.F ht⟩) hS.2.2 dX6_withdraw_28
  · have hF := br_pos hc8 hF
    refine lv_aload_n hx hb dX6_withdraw_19 rfl (lv_at hl 1 rfl) ?_
    obtain ⟨rr10, hC9, hF⟩ := calp_some hF
    have hFc := b_free (ws := ww q ta aa sa Y4) hD hS hA
    refine va_calli (va_runV (As := []) (rest := []) ⟨hx, hb, hml, hown, hts⟩ (c_X6_standing l dC dI q ta aa sa L xs Y4  _  _ hC9) (cwV 0 hts gX6_withdraw_X6_standing rfl rfl rfl (by decide +kernel) ⟨Nat.le_of_ble_eq_true rfl, Nat.le_of_ble_eq_true rfl⟩) ⟨pe_blind (sx_bl _ _ _ _), va_recv hK hP (ci := 8) (q0 := 0) rfl ww_0, fun U hU hW => ⟨rfl, pr_mk hU hW hP hK hD, sx_mk hU hW hS hFc hXs⟩⟩ rfl rfl hl.1 rfl (lv_room (Nat.le_of_ble_eq_true rfl)) dX6_withdraw_20 ⟨Nat.le_of_ble_eq_true rfl, Nat.le_of_ble_eq_true rfl⟩) hS (fun x _ h => hFc x h) hFc (fun ra11 u t H1 locs ht hvm hw hB hz1 hk1 hS => ?_)
    obtain ⟨hP, hK1, hD1⟩ := hB
    rw [ht] at hP
    have hD := hD1.weaken (fun _ q9 _ h9 => hFc q9.1 h9)
    generalize H1 = H at hP hS ⊢
    refine W.widen (k := 0) (n := 0) (Nat.le_refl _) (Nat.le_refl _) ?_
    obtain rfl : ra11 = rr10 := hw
    refine lv_iconst (v := 3) hx hb dX6_withdraw_23 (by decide) ?_
    refine lv_icmp_ge (tgt := 29) hx hb dX6_withdraw_24 (by decide) (fun hc12 => ?_) (fun hc12 => ?_)
    · have hF := br_pos hc12 hF
      refine lv_aload_n hx hb dX6_withdraw_29 rfl (lv_at hl 1 rfl) ?_
      refine va_get (D := (dC, dI)) (ci := 8) (v := .ref (ta 2)) (C := RX6) (T := TX6) (N := 9) hx hb hts hinX6 hown hK hP 0 ww_0 rfl 4 (by decide) (hts (.fieldLink RX6 20 "BallotLoomLaw$Told" "gone" "[Z") (by decide +kernel)) (fun _ h9 => h9) rfl dX6_withdraw_30 ?_
      refine lv_iload_n hx hb dX6_withdraw_33 rfl (lv_at hl 0 rfl) ?_
      refine lv_iconst (v := 1) hx hb dX6_withdraw_34 (by decide) ?_
      obtain ⟨Y13, eY13, hF⟩ := bv_some hF
      refine va_zast hx hb hK hP hD hS 2 1 ww_2 rfl hg6 dX6_withdraw_35 (fun H locs hP hD hS => ?_)
      have eW := wt_i (q := q) (ta := ta) (aa := aa) (sa := sa) (i := 2) (by omega) (fun _ => rfl) eY13
      have hP : va_P (dC, dI) vwCl (ww q ta aa sa Y13) H := eW ▸ hP
      have hD : va_D A (ww q ta aa sa Y13) := eW ▸ hD
      clear eW
      refine lv_aload_n hx hb dX6_withdraw_36 rfl (lv_at hl 1 rfl) ?_
      refine va_get (D := (dC, dI)) (ci := 8) (v := .ref (aa 0)) (C := RX6) (T := TX6) (N := 9) hx hb hts hinX6 hown hK hP 0 ww_0 rfl 0 (by decide) (hts (.fieldLink RX6 10 "BallotLoomLaw$Told" "m" "LBallotLoom;") (by decide +kernel)) (fun _ h9 => h9) rfl dX6_withdraw_37 ?_
      refine lv_iload_n hx hb dX6_withdraw_40 rfl (lv_at hl 0 rfl) ?_
      obtain ⟨z16, rr15, hC14, hF⟩ := cal_some hF
      obtain ⟨Y17, eY17, hF⟩ := bv_some hF
      have hPc := sf_P hP
      have hDc := sf_D hD
      have hFc := b_free (ws := bw q aa Y13.2) hDc hS hA
      refine va_calli (va_runV (As := [.int ra5]) (rest := []) ⟨hx, hb, hml, hown, hts⟩ (c_X5_withdraw l dC dI q aa Y13.2 ra5 _ _ _ hC14) (cwV 1 hts gX6_withdraw_X5_withdraw rfl rfl rfl (by decide +kernel) ⟨Nat.le_of_ble_eq_true rfl, Nat.le_of_ble_eq_true rfl⟩) ⟨pr_blind, va_recv hK hPc (ci := 7) (q0 := 0) rfl (bw_at (i := 0) (by decide) rfl), fun U hU hW => ⟨rfl, pr_mk hU hW hPc hK hDc⟩⟩ rfl rfl hl.1 rfl (lv_room (Nat.le_of_ble_eq_true rfl)) dX6_withdraw_41 ⟨Nat.le_of_ble_eq_true rfl, Nat.le_of_ble_eq_true rfl⟩) hS (fun x _ h => hFc x h) hFc (fun ra18 u t H1 locs ht hvm hw hB hz1 hk1 hS => ?_)
      obtain ⟨hP1, hK1, hD1⟩ := hB
      rw [ht] at hP1
      obtain ⟨hP, hD⟩ := sf_J hP hD hk1 hFc hP1 hD1
      have eW : twl q ta (aa 0) sa Y13.1 ++ bw q aa z16 = ww q ta aa sa Y17 := by rw [eY17]; rfl
      rw [eW] at hP hD
      clear eW
      generalize H1 = H at hP hS ⊢
      refine W.widen (k := 0) (n := 0) (Nat.le_refl _) (Nat.le_refl _) ?_
      obtain rfl : ra18 = rr15 := hw
      refine lv_aload_n hx hb dX6_withdraw_44 rfl (lv_at hl 1 rfl) ?_
      obtain ⟨rr20, hC19, hF⟩ := calp_some hF
      have hFc := b_free (ws := ww q ta aa sa Y17) hD hS hA
      refine va_calli (va_runV (As := []) (rest := [.int ra18]) ⟨hx, hb, hml, hown, hts⟩ (c_X6_standing l dC dI q ta aa sa L xs Y17  _  _ hC19) (cwV 0 hts gX6_withdraw_X6_standing rfl rfl rfl (by decide +kernel) ⟨Nat.le_of_ble_eq_true rfl, Nat.le_of_ble_eq_true rfl⟩) ⟨pe_blind (sx_bl _ _ _ _), va_recv hK hP (ci := 8) (q0 := 0) rfl ww_0, fun U hU hW => ⟨rfl, pr_mk hU hW hP hK hD, sx_mk hU hW hS hFc hXs⟩⟩ rfl rfl hl.1 rfl (lv_room (Nat.le_of_ble_eq_true rfl)) dX6_withdraw_45 ⟨Nat.le_of_ble_eq_true rfl, Nat.le_of_ble_eq_true rfl⟩) hS (fun x _ h => hFc x h) hFc (fun ra21 u t H1 locs ht hvm hw hB hz1 hk1 hS => ?_)
      obtain ⟨hP, hK1, hD1⟩ := hB
      rw [ht] at hP
      have hD := hD1.weaken (fun _ q9 _ h9 => hFc q9.1 h9)
      generalize H1 = H at hP hS ⊢
      refine W.widen (k := 0) (n := 0) (Nat.le_refl _) (Nat.le_refl _) ?_
      obtain rfl : ra21 = rr20 := hw
      refine lv_icmp_ne (tgt := 55) hx hb dX6_withdraw_48 (by decide) (fun hc22 => ?_) (fun hc22 => ?_)
      · have hF := br_neg hc22 hF
        refine lv_iconst (v := 0) hx hb dX6_withdraw_55 (by decide) ?_
        obtain ⟨e8, e9⟩ := some2t hF
        rw [← e8] at hP hD
        subst hQ
        exact W.zret (v := 0) hx hb hr rfl (fun t ht hW => ⟨⟨0, (), rfl, e9.symm, po_mk ht hW hP hK hD⟩, hS.F ht⟩) hS.2.2 dX6_withdraw_56
      · have hF := br_pos hc22 hF
        refine lv_iconst (v := 1) hx hb dX6_withdraw_51 (by decide) ?_
        refine lv_goto (tgt := 56) hx hb dX6_withdraw_52 (by decide) ?_
        obtain ⟨e8, e9⟩ := some2t hF
        rw [← e8] at hP hD
        subst hQ
        exact W.zret (v := 1) hx hb hr rfl (fun t ht hW => ⟨⟨1, (), rfl, e9.symm, po_mk ht hW hP hK hD⟩, hS.F ht⟩) hS.2.2 dX6_withdraw_56
    · have hF := br_neg hc12 hF
      refine lv_iconst (v := 1) hx hb dX6_withdraw_27 (by decide) ?_
      obtain ⟨e8, e9⟩ := some2t hF
      rw [← e8] at hP hD
      subst hQ
      exact W.zret (v := 1) hx hb hr rfl (fun t ht hW => ⟨⟨1, (), rfl, e9.symm, po_mk ht hW hP hK hD⟩, hS.F ht⟩) hS.2.2 dX6_withdraw_28

noncomputable def F_X6_ranks_j131 (Y14 : TS) (v13 : Int32) : Option (TS × Int32) :=
  br (v13 = (0 : Int32)) (some (Y14, (1 : Int32))) (some (Y14, v13))

noncomputable def F_X6_ranks_j130 (Y21 : TS) (v22 : Int32) : Option (TS × Int32) :=
  F_X6_ranks_j131 Y21 v22

noncomputable def F_X6_ranks_x19 (L : Nat) (xs : Nat → Int32) (Y8 : TS) (w7 : Int32) : Option (TS × Int32) :=
  calt (F_X6_draw L xs Y8 (8 : Int32)) fun Y11 ra12 => br (ra12 = (0 : Int32)) (calt (F_X6_draw L xs Y11 (2 : Int32)) fun Y19 ra20 => br (ra20 = (0 : Int32)) (br ((100000 : Int32) ≤ w7) (bv (w7 / (10 : Int32)) fun y33 => bv (y33 * (10 : Int32)) fun y34 => bv (y34 + (1 : Int32)) fun y35 => calt (F_X6_draw L xs Y19 (9 : Int32)) fun Y38 ra39 => bv (y35 + ra39) fun y40 => F_X6_ranks_j130 Y38 y40) (bv (w7 * (10 : Int32)) fun y41 => F_X6_ranks_j130 Y19 y41)) (bv (w7 / (10 : Int32)) fun y24 => bv (y24 * (10 : Int32)) fun y25 => bv (y25 + (1 : Int32)) fun y26 => calt (F_X6_draw L xs Y19 (9 : Int32)) fun Y29 ra30 => bv (y26 + ra30) fun y31 => F_X6_ranks_j130 Y29 y31)) (F_X6_ranks_j131 Y11 w7)

noncomputable def F_X6_ranks_x36 (u42 : Int32) (u43 : Int32) (u44 : Int32) (B_19 : TS → Int32 → Int32 → Int32 → Option (TS × Int32)) (Y50 : TS) (w52 : Int32) : Option (TS × Int32) :=
  bv ((1 : Int32) <<< (w52 &&& 31)) fun y53 => bv (u43 ||| y53) fun y54 => bv ((10 : Int32) * u42) fun y55 => bv (y55 + w52) fun y56 => bv (y56 + (1 : Int32)) fun y57 => B_19 Y50 y57 y54 (u44 + (1 : Int32))

noncomputable def F_X6_ranks_l36 (u43 : Int32) (Y50 : TS) (K_36 : Int32 → Option (TS × Int32)) : Nat → Int32 → Option (TS × Int32)
  | 0, _ => none
  | n36 + 1, u58 =>
  bv (u43 >>> (u58 &&& 31)) fun y59 => bv (y59 &&& (1 : Int32)) fun y60 => br (y60 = (1 : Int32)) (bv (u58 + (1 : Int32)) fun y62 => bv (nI (Y50.1.1 1)) fun y63 => gd (¬ y63 = 0) <| bv (y62 - y62 / y63 * y63) fun y65 => (F_X6_ranks_l36 u43 Y50 K_36 n36) y65) (K_36 u58)

noncomputable def F_X6_ranks_l19 (L : Nat) (xs : Nat → Int32) (y6 : Int32) (K_19 : TS → Int32 → Option (TS × Int32)) : Nat → TS → Int32 → Int32 → Int32 → Option (TS × Int32)
  | 0, _, _, _, _ => none
  | n19 + 1, Y45, u42, u43, u44 =>
  br (y6 ≤ u44) (K_19 Y45 u42) (bv (nI (Y45.1.1 1)) fun y47 => calt (F_X6_draw L xs Y45 y47) fun Y50 ra51 => F_X6_ranks_l36 u43 Y50 (F_X6_ranks_x36 u42 u43 u44 (F_X6_ranks_l19 L xs y6 K_19 n19) Y50) 100 ra51)

noncomputable def F_X6_ranks (L : Nat) (xs : Nat → Int32) (Y : TS) : Option (TS × Int32) :=
  bv (nI (Y.1.1 1)) fun y1 => calt (F_X6_draw L xs Y y1) fun Y4 ra5 => bv ((1 : Int32) + ra5) fun y6 => F_X6_ranks_l19 L xs y6 (F_X6_ranks_x19 L xs) 100 Y4 (0 : Int32) (0 : Int32) (0 : Int32)

set_option maxHeartbeats 4000000 in
set_option maxRecDepth 100000 in
theorem c_X6_ranks (l : Launch) (dC : Nat → ClassId) (dI : Nat → Nat → Nat) (q : Nat → ClassId) (ta aa : Nat → Nat) (sa : Nat) (L : Nat) (xs : Nat → Int32) (Y : TS)  (sz : Nat)  (Yo : TS) (ro : Int32) (hF : F_X6_ranks L xs Y = some (Yo, ro)) : Met l yX6_ranks wsX6_ranks ({ frames := 4, cells := 0, slots := 0, locals := 83 }) (va_Pc [.ref (ta 0)] (fun U => pr_ dC dI (ww q ta aa sa Y) (bty q) sz U ∧ sx_ (va_A (ww q ta aa sa Y) sz) sa L xs U)) (va_Qi (fun (r : Int32) (_ : Unit) => r = ro) (fun (_ : Unit) t => po_ dC dI (ww q ta aa sa Yo) (bty q) (va_A (ww q ta aa sa Y) sz) t) (va_A (ww q ta aa sa Y) sz)) 0 0 (va_A (ww q ta aa sa Y) sz) := by
  refine Met.ofW (cc := cX6_ranks) (maxL := 6) (ret := (some .int)) (by decide) rfl ?_
  intro p e s m args below meth c s₁ B hml hv
  obtain ⟨hargs, ⟨hsz, hP, hK, hD0⟩, hXs⟩ := hv
  have hx := B.exec
  have hb := B.bytes
  have hr := B.returns
  have hts := atoms_spec (ws := wsX6_ranks) B.pre
  have hown : s.vm.findClass RX6 = some m.cls := findClass_of_methodNamed B.named
  have hlocks := B.notSynchronized
  subst hsz
  have hD := hD0.self (sz := s.heap.size)
  generalize hAe : va_A (ww q ta aa sa Y) s.heap.size = A at hD hXs ⊢
  have hA : ∀ x : Nat, s.heap.size ≤ x → A x := fun x h => by rw [← hAe]; exact Or.inr h
  have hS : va_S A s.heap s.heap [] := va_S.rf
  have hinX6 : ∀ w ∈ u_ws RX6 TX6 9, w ∈ wsX6_ranks := by decide +kernel
  have hl := lv_entry ([.ref (ta 0)]) (n := 6) (Nat.le_of_ble_eq_true rfl)
  refine w_ent hargs ?_
  rw [lg_entry_eq]
  generalize (lg_sl ([.ref (ta 0)]) ++ List.replicate (6 - (lg_sl ([.ref (ta 0)])).length) Slot.unset).toArray = ls at hl ⊢
  have hl : lv_has ls 6 [(0, .ref (ta 0))] := hl
  unfold F_X6_ranks at hF
  refine w_go (fun Q hQ => ?_)
  refine lv_iconst (v := 0) hx hb dX6_ranks_0 (by decide) ?_
  refine lv_istore_n (lv' := [(1, .int 0), (0, .ref (ta 0))]) hx hb dX6_ranks_1 rfl hl (by decide) rfl (fun ls hl => ?_)
  refine lv_iconst (v := 0) hx hb dX6_ranks_2 (by decide) ?_
  refine lv_istore_n (lv' := [(2, .int 0), (1, .int 0), (0, .ref (ta 0))]) hx hb dX6_ranks_3 rfl hl (by decide) rfl (fun ls hl => ?_)
  refine lv_iconst (v := 1) hx hb dX6_ranks_4 (by decide) ?_
  refine lv_aload_n hx hb dX6_ranks_5 rfl (lv_at hl 2 rfl) ?_
  refine lv_aload_n hx hb dX6_ranks_6 rfl (lv_at hl 2 rfl) ?_
  refine va_get (D := (dC, dI)) (ci := 8) (v := .ref (ta 1)) (C := RX6) (T := TX6) (N := 9) hx hb hts hinX6 hown hK hP 0 ww_0 rfl 3 (by decide) (hts (.fieldLink RX6 16 "BallotLoomLaw$Told" "parties" "[I") (by decide +kernel)) (fun _ h9 => h9) rfl dX6_ranks_7 ?_
  refine va_alen (v := nI (Y.1.1 1)) hx hb hK hP 1 0 ww_1 rfl rfl dX6_ranks_10 ?_
  refine lv_topi (fun y1 ey1 => ?_)
  have hF := bv_at ey1 hF
  obtain ⟨Y4, rr3, hC2, hF⟩ := calt_some hF
  have hFc := b_free (ws := ww q ta aa sa Y) hD hS hA
  refine va_calli (va_runV (As := [.int y1]) (rest := [.int 1]) ⟨hx, hb, hml, hown, hts⟩ (c_X6_draw l dC dI q ta aa sa L xs Y y1 _  _ _ hC2) (cwV 1 hts gX6_ranks_X6_draw rfl rfl rfl (by decide +kernel) ⟨Nat.le_of_ble_eq_true rfl, Nat.le_of_ble_eq_true rfl⟩) ⟨pe_blind (sx_bl _ _ _ _), va_recv hK hP (ci := 8) (q0 := 0) rfl ww_0, fun U hU hW => ⟨rfl, pr_mk hU hW hP hK hD, sx_mk hU hW hS hFc hXs⟩⟩ rfl rfl hl.1 rfl (lv_room (Nat.le_of_ble_eq_true rfl)) dX6_ranks_11 ⟨Nat.le_of_ble_eq_true rfl, Nat.le_of_ble_eq_true rfl⟩) hS (fun x _ h => hFc x h) hFc (fun ra5 u t H1 locs ht hvm hw hB hz1 hk1 hS => ?_)
  obtain ⟨hP, hK1, hD1⟩ := hB
  rw [ht] at hP
  have hD := hD1.weaken (fun _ q9 _ h9 => hFc q9.1 h9)
  generalize H1 = H at hP hS ⊢
  refine W.widen (k := 0) (n := 0) (Nat.le_refl _) (Nat.le_refl _) ?_
  obtain rfl : ra5 = rr3 := hw
  refine lv_iadd hx hb dX6_ranks_14 ?_
  refine lv_topi (fun y6 ey6 => ?_)
  have hF := bv_at ey6 hF
  refine lv_istore_n (lv' := [(3, .int y6), (2, .int 0), (1, .int 0), (0, .ref (ta 0))]) hx hb dX6_ranks_15 rfl hl (by decide) rfl (fun ls hl => ?_)
  refine lv_iconst (v := 0) hx hb dX6_ranks_16 (by decide) ?_
  refine lv_istore (lv' := [(4, .int 0), (3, .int y6), (2, .int 0), (1, .int 0), (0, .ref (ta 0))]) hx hb dX6_ranks_17 hl (by decide) rfl (fun ls hl => ?_)
  have Jx19 : ∀ (Y8 : TS) (w7 : Int32) (H : Heap) (locs : List Loc) (ls : Array Slot), (F_X6_ranks_x19 L xs) Y8 w7 = some (Yo, ro) → va_P (dC, dI) vwCl (ww q ta aa sa Y8) H → va_D A (ww q ta aa sa Y8) → va_S A s.heap H locs → lv_has ls 6 [(1, .int w7), (0, .ref (ta 0))] → W p l e (headSpec wsX6_ranks ({ frames := 4, cells := 0, slots := 0, locals := 83 } : Room)).room s m args below meth c H locs 0 0 Q (F0 m 84 ls []) := by
    intro Y8 w7 H locs ls hF hP hD hS hl
    unfold F_X6_ranks_x19 at hF
    refine lv_aload_n hx hb dX6_ranks_84 rfl (lv_at hl 1 rfl) ?_
    refine lv_bipush (v := 8) hx hb dX6_ranks_85 (by decide) ?_
    obtain ⟨Y11, rr10, hC9, hF⟩ := calt_some hF
    have hFc := b_free (ws := ww q ta aa sa Y8) hD hS hA
    refine va_calli (va_runV (As := [.int 8]) (rest := []) ⟨hx, hb, hml, hown, hts⟩ (c_X6_draw l dC dI q ta aa sa L xs Y8 (8 : Int32) _  _ _ hC9) (cwV 1 hts gX6_ranks_X6_draw rfl rfl rfl (by decide +kernel) ⟨Nat.le_of_ble_eq_true rfl, Nat.le_of_ble_eq_true rfl⟩) ⟨pe_blind (sx_bl _ _ _ _), va_recv hK hP (ci := 8) (q0 := 0) rfl ww_0, fun U hU hW => ⟨rfl, pr_mk hU hW hP hK hD, sx_mk hU hW hS hFc hXs⟩⟩ rfl rfl hl.1 rfl (lv_room (Nat.le_of_ble_eq_true rfl)) dX6_ranks_87 ⟨Nat.le_of_ble_eq_true rfl, Nat.le_of_ble_eq_true rfl⟩) hS (fun x _ h => hFc x h) hFc (fun ra12 u t H1 locs ht hvm hw hB hz1 hk1 hS => ?_)
    obtain ⟨hP, hK1, hD1⟩ := hB
    rw [ht] at hP
    have hD := hD1.weaken (fun _ q9 _ h9 => hFc q9.1 h9)
    generalize H1 = H at hP hS ⊢
    refine W.widen (k := 0) (n := 0) (Nat.le_refl _) (Nat.le_refl _) ?_
    obtain rfl : ra12 = rr10 := hw
    have Jj131 : ∀ (Y14 : TS) (v13 : Int32) (H : Heap) (locs : List Loc) (ls : Array Slot), F_X6_ranks_j131 Y14 v13 = some (Yo, ro) → va_P (dC, dI) vwCl (ww q ta aa sa Y14) H → va_D A (ww q ta aa sa Y14) → va_S A s.heap H locs → lv_has ls 6 [(1, .int v13)] → W p l e (headSpec wsX6_ranks ({ frames := 4, cells := 0, slots := 0, locals := 83 } : Room)).room s m args below meth c H locs 0 0 Q (F0 m 131 ls []) := by
      intro Y14 v13 H locs ls hF hP hD hS hl
      unfold F_X6_ranks_j131 at hF
      refine lv_iload_n hx hb dX6_ranks_131 rfl (lv_at hl 0 rfl) ?_
      refine lv_if_ne (tgt := 139) hx hb dX6_ranks_132 (by decide) (fun hc15 => ?_) (fun hc15 => ?_)
      · have hF := br_neg hc15 hF
        refine lv_iload_n hx hb dX6_ranks_139 rfl (lv_at hl 0 rfl) ?_
        obtain ⟨e8, e9⟩ := some2t hF
        rw [← e8] at hP hD
        subst hQ
        exact W.iret (v := v13) hx hb hr (fun t ht hW => ⟨⟨v13, (), rfl, e9.symm, po_mk ht hW hP hK hD⟩, hS.F ht⟩) hS.2.2 dX6_ranks_140
      · have hF := br_pos hc15 hF
        refine lv_iconst (v := 1) hx hb dX6_ranks_135 (by decide) ?_
        refine lv_goto (tgt := 140) hx hb dX6_ranks_136 (by decide) ?_
        obtain ⟨e8, e9⟩ := some2t hF
        rw [← e8] at hP hD
        subst hQ
        exact W.iret (v := 1) hx hb hr (fun t ht hW => ⟨⟨1, (), rfl, e9.symm, po_mk ht hW hP hK hD⟩, hS.F ht⟩) hS.2.2 dX6_ranks_140
    refine lv_if_ne (tgt := 131) hx hb dX6_ranks_90 (by decide) (fun hc16 => ?_) (fun hc16 => ?_)
    · have hF := br_neg hc16 hF
      exact Jj131 Y11 w7 _ _ _ hF hP hD hS (lv_sub hl [0] rfl)
    · have hF := br_pos hc16 hF
      refine lv_aload_n hx hb dX6_ranks_93 rfl (lv_at hl 1 rfl) ?_
      refine lv_iconst (v := 2) hx hb dX6_ranks_94 (by decide) ?_
      obtain ⟨Y19, rr18, hC17, hF⟩ := calt_some hF
      have hFc := b_free (ws := ww q ta aa sa Y11) hD hS hA
      refine va_calli (va_runV (As := [.int 2]) (rest := []) ⟨hx, hb, hml, hown, hts⟩ (c_X6_draw l dC dI q ta aa sa L xs Y11 (2 : Int32) _  _ _ hC17) (cwV 1 hts gX6_ranks_X6_draw rfl rfl rfl (by decide +kernel) ⟨Nat.le_of_ble_eq_true rfl, Nat.le_of_ble_eq_true rfl⟩) ⟨pe_blind (sx_bl _ _ _ _), va_recv hK hP (ci := 8) (q0 := 0) rfl ww_0, fun U hU hW => ⟨rfl, pr_mk hU hW hP hK hD, sx_mk hU hW hS hFc hXs⟩⟩ rfl rfl hl.1 rfl (lv_room (Nat.le_of_ble_eq_true rfl)) dX6_ranks_95 ⟨Nat.le_of_ble_eq_true rfl, Nat.le_of_ble_eq_true rfl⟩) hS (fun x _ h => hFc x h) hFc (fun ra20 u t H1 locs ht hvm hw hB hz1 hk1 hS => ?_)
      obtain ⟨hP, hK1, hD1⟩ := hB
      rw [ht] at hP
      have hD := hD1.weaken (fun _ q9 _ h9 => hFc q9.1 h9)
      generalize H1 = H at hP hS ⊢
      refine W.widen (k := 0) (n := 0) (Nat.le_refl _) (Nat.le_refl _) ?_
      obtain rfl : ra20 = rr18 := hw
      have Jj130 : ∀ (Y21 : TS) (v22 : Int32) (H : Heap) (locs : List Loc) (ls : Array Slot), F_X6_ranks_j130 Y21 v22 = some (Yo, ro) → va_P (dC, dI) vwCl (ww q ta aa sa Y21) H → va_D A (ww q ta aa sa Y21) → va_S A s.heap H locs → lv_has ls 6 [] → W p l e (headSpec wsX6_ranks ({ frames := 4, cells := 0, slots := 0, locals := 83 } : Room)).room s m args below meth c H locs 0 0 Q (F0 m 130 ls [.int v22]) := by
        intro Y21 v22 H locs ls hF hP hD hS hl
        unfold F_X6_ranks_j130 at hF
        refine lv_istore_n (lv' := [(1, .int v22)]) hx hb dX6_ranks_130 rfl hl (by decide) rfl (fun ls hl => ?_)
        exact Jj131 Y21 v22 _ _ _ hF hP hD hS (lv_sub hl [0] rfl)
      refine lv_if_ne (tgt := 114) hx hb dX6_ranks_98 (by decide) (fun hc23 => ?_) (fun hc23 => ?_)
      · have hF := br_neg hc23 hF
        refine lv_iload_n hx hb dX6_ranks_114 rfl (lv_at hl 0 rfl) ?_
        refine lv_bipush (v := 10) hx hb dX6_ranks_115 (by decide) ?_
        refine lv_idiv hx hb dX6_ranks_117 (by decide) ?_
        refine lv_topi (fun y24 ey24 => ?_)
        have hF := bv_at ey24 hF
        refine lv_bipush (v := 10) hx hb dX6_ranks_118 (by decide) ?_
        refine lv_imul hx hb dX6_ranks_120 ?_
        refine lv_topi (fun y25 ey25 => ?_)
        have hF := bv_at ey25 hF
        refine lv_iconst (v := 1) hx hb dX6_ranks_121 (by decide) ?_
        refine lv_iadd hx hb dX6_ranks_122 ?_
        refine lv_topi (fun y26 ey26 => ?_)
        have hF := bv_at ey26 hF
        refine lv_aload_n hx hb dX6_ranks_123 rfl (lv_at hl 1 rfl) ?_
        refine lv_bipush (v := 9) hx hb dX6_ranks_124 (by decide) ?_
        obtain ⟨Y29, rr28, hC27, hF⟩ := calt_some hF
        have hFc := b_free (ws := ww q ta aa sa Y19) hD hS hA
        refine va_calli (va_runV (As := [.int 9]) (rest := [.int y26]) ⟨hx, hb, hml, hown, hts⟩ (c_X6_draw l dC dI q ta aa sa L xs Y19 (9 : Int32) _  _ _ hC27) (cwV 1 hts gX6_ranks_X6_draw rfl rfl rfl (by decide +kernel) ⟨Nat.le_of_ble_eq_true rfl, Nat.le_of_ble_eq_true rfl⟩) ⟨pe_blind (sx_bl _ _ _ _), va_recv hK hP (ci := 8) (q0 := 0) rfl ww_0, fun U hU hW => ⟨rfl, pr_mk hU hW hP hK hD, sx_mk hU hW hS hFc hXs⟩⟩ rfl rfl hl.1 rfl (lv_room (Nat.le_of_ble_eq_true rfl)) dX6_ranks_126 ⟨Nat.le_of_ble_eq_true rfl, Nat.le_of_ble_eq_true rfl⟩) hS (fun x _ h => hFc x h) hFc (fun ra30 u t H1 locs ht hvm hw hB hz1 hk1 hS => ?_)
        obtain ⟨hP, hK1, hD1⟩ := hB
        rw [ht] at hP
        have hD := hD1.weaken (fun _ q9 _ h9 => hFc q9.1 h9)
        generalize H1 = H at hP hS ⊢
        refine W.widen (k := 0) (n := 0) (Nat.le_refl _) (Nat.le_refl _) ?_
        obtain rfl : ra30 = rr28 := hw
        refine lv_iadd hx hb dX6_ranks_129 ?_
        refine lv_topi (fun y31 ey31 => ?_)
        have hF := bv_at ey31 hF
        exact Jj130 Y29 y31 _ _ _ hF hP hD hS (lv_sub hl [] rfl)
      · have hF := br_pos hc23 hF
        refine lv_iload_n hx hb dX6_ranks_101 rfl (lv_at hl 0 rfl) ?_
        refine lv_ldc (v := 100000) hx hb hown (hts (.constant RX6 76 100000) (by decide +kernel)) dX6_ranks_102 ?_
        refine lv_icmp_ge (tgt := 114) hx hb dX6_ranks_104 (by decide) (fun hc32 => ?_) (fun hc32 => ?_)
        · have hF := br_pos hc32 hF
          refine lv_iload_n hx hb dX6_ranks_114 rfl (lv_at hl 0 rfl) ?_
          refine lv_bipush (v := 10) hx hb dX6_ranks_115 (by decide) ?_
          refine lv_idiv hx hb dX6_ranks_117 (by decide) ?_
          refine lv_topi (fun y33 ey33 => ?_)
          have hF := bv_at ey33 hF
          refine lv_bipush (v := 10) hx hb dX6_ranks_118 (by decide) ?_
          refine lv_imul hx hb dX6_ranks_120 ?_
          refine lv_topi (fun y34 ey34 => ?_)
          have hF := bv_at ey34 hF
          refine lv_iconst (v := 1) hx hb dX6_ranks_121 (by decide) ?_
          refine lv_iadd hx hb dX6_ranks_122 ?_
          refine lv_topi (fun y35 ey35 => ?_)
          have hF := bv_at ey35 hF
          refine lv_aload_n hx hb dX6_ranks_123 rfl (lv_at hl 1 rfl) ?_
          refine lv_bipush (v := 9) hx hb dX6_ranks_124 (by decide) ?_
          obtain ⟨Y38, rr37, hC36, hF⟩ := calt_some hF
          have hFc := b_free (ws := ww q ta aa sa Y19) hD hS hA
          refine va_calli (va_runV (As := [.int 9]) (rest := [.int y35]) ⟨hx, hb, hml, hown, hts⟩ (c_X6_draw l dC dI q ta aa sa L xs Y19 (9 : Int32) _  _ _ hC36) (cwV 1 hts gX6_ranks_X6_draw rfl rfl rfl (by decide +kernel) ⟨Nat.le_of_ble_eq_true rfl, Nat.le_of_ble_eq_true rfl⟩) ⟨pe_blind (sx_bl _ _ _ _), va_recv hK hP (ci := 8) (q0 := 0) rfl ww_0, fun U hU hW => ⟨rfl, pr_mk hU hW hP hK hD, sx_mk hU hW hS hFc hXs⟩⟩ rfl rfl hl.1 rfl (lv_room (Nat.le_of_ble_eq_true rfl)) dX6_ranks_126 ⟨Nat.le_of_ble_eq_true rfl, Nat.le_of_ble_eq_true rfl⟩) hS (fun x _ h => hFc x h) hFc (fun ra39 u t H1 locs ht hvm hw hB hz1 hk1 hS => ?_)
          obtain ⟨hP, hK1, hD1⟩ := hB
          rw [ht] at hP
          have hD := hD1.weaken (fun _ q9 _ h9 => hFc q9.1 h9)
          generalize H1 = H at hP hS ⊢
          refine W.widen (k := 0) (n := 0) (Nat.le_refl _) (Nat.le_refl _) ?_
          obtain rfl : ra39 = rr37 := hw
          refine lv_iadd hx hb dX6_ranks_129 ?_
          refine lv_topi (fun y40 ey40 => ?_)
          have hF := bv_at ey40 hF
          exact Jj130 Y38 y40 _ _ _ hF hP hD hS (lv_sub hl [] rfl)
        · have hF := br_neg hc32 hF
          refine lv_iload_n hx hb dX6_ranks_107 rfl (lv_at hl 0 rfl) ?_
          refine lv_bipush (v := 10) hx hb dX6_ranks_108 (by decide) ?_
          refine lv_imul hx hb dX6_ranks_110 ?_
          refine lv_topi (fun y41 ey41 => ?_)
          have hF := bv_at ey41 hF
          refine lv_goto (tgt := 130) hx hb dX6_ranks_111 (by decide) ?_
          exact Jj130 Y19 y41 _ _ _ hF hP hD hS (lv_sub hl [] rfl)
  have L19 : ∀ (n19 : Nat) (Y45 : TS) (u42 : Int32) (u43 : Int32) (u44 : Int32) (H : Heap) (locs : List Loc) (ls : Array Slot), F_X6_ranks_l19 L xs y6 (F_X6_ranks_x19 L xs) n19 Y45 u42 u43 u44 = some (Yo, ro) → va_P (dC, dI) vwCl (ww q ta aa sa Y45) H → va_D A (ww q ta aa sa Y45) → va_S A s.heap H locs → lv_has ls 6 [(4, .int u44), (3, .int y6), (2, .int u43), (1, .int u42), (0, .ref (ta 0))] → W p l e (headSpec wsX6_ranks ({ frames := 4, cells := 0, slots := 0, locals := 83 } : Room)).room s m args below meth c H locs 0 0 Q (F0 m 19 ls []) := by
    intro n19
    induction n19 with
    | zero =>
      intro Y45 u42 u43 u44 H locs ls hF
      rw [F_X6_ranks_l19] at hF
      cases hF
    | succ n19 IH19 =>
      intro Y45 u42 u43 u44 H locs ls hF hP hD hS hl
      rw [F_X6_ranks_l19] at hF
      refine lv_iload hx hb dX6_ranks_19 (lv_at hl 0 rfl) ?_
      refine lv_iload_n hx hb dX6_ranks_21 rfl (lv_at hl 1 rfl) ?_
      refine lv_icmp_ge (tgt := 84) hx hb dX6_ranks_22 (by decide) (fun hc46 => ?_) (fun hc46 => ?_)
      · have hF := br_pos hc46 hF
        exact Jx19 Y45 u42 _ _ _ hF hP hD hS (lv_sub hl [3, 4] rfl)
      · have hF := br_neg hc46 hF
        refine lv_aload_n hx hb dX6_ranks_25 rfl (lv_at hl 4 rfl) ?_
        refine lv_aload_n hx hb dX6_ranks_26 rfl (lv_at hl 4 rfl) ?_
        refine va_get (D := (dC, dI)) (ci := 8) (v := .ref (ta 1)) (C := RX6) (T := TX6) (N := 9) hx hb hts hinX6 hown hK hP 0 ww_0 rfl 3 (by decide) (hts (.fieldLink RX6 16 "BallotLoomLaw$Told" "parties" "[I") (by decide +kernel)) (fun _ h9 => h9) rfl dX6_ranks_27 ?_
        refine va_alen (v := nI (Y45.1.1 1)) hx hb hK hP 1 0 ww_1 rfl rfl dX6_ranks_30 ?_
        refine lv_topi (fun y47 ey47 => ?_)
        have hF := bv_at ey47 hF
        obtain ⟨Y50, rr49, hC48, hF⟩ := calt_some hF
        have hFc := b_free (ws := ww q ta aa sa Y45) hD hS hA
        refine va_calli (va_runV (As := [.int y47]) (rest := []) ⟨hx, hb, hml, hown, hts⟩ (c_X6_draw l dC dI q ta aa sa L xs Y45 y47 _  _ _ hC48) (cwV 1 hts gX6_ranks_X6_draw rfl rfl rfl (by decide +kernel) ⟨Nat.le_of_ble_eq_true rfl, Nat.le_of_ble_eq_true rfl⟩) ⟨pe_blind (sx_bl _ _ _ _), va_recv hK hP (ci := 8) (q0 := 0) rfl ww_0, fun U hU hW => ⟨rfl, pr_mk hU hW hP hK hD, sx_mk hU hW hS hFc hXs⟩⟩ rfl rfl hl.1 rfl (lv_room (Nat.le_of_ble_eq_true rfl)) dX6_ranks_31 ⟨Nat.le_of_ble_eq_true rfl, Nat.le_of_ble_eq_true rfl⟩) hS (fun x _ h => hFc x h) hFc (fun ra51 u t H1 locs ht hvm hw hB hz1 hk1 hS => ?_)
        obtain ⟨hP, hK1, hD1⟩ := hB
        rw [ht] at hP
        have hD := hD1.weaken (fun _ q9 _ h9 => hFc q9.1 h9)
        generalize H1 = H at hP hS ⊢
        refine W.widen (k := 0) (n := 0) (Nat.le_refl _) (Nat.le_refl _) ?_
        obtain rfl : ra51 = rr49 := hw
        refine lv_istore (lv' := [(5, .int ra51), (4, .int u44), (3, .int y6), (2, .int u43), (1, .int u42), (0, .ref (ta 0))]) hx hb dX6_ranks_34 hl (by decide) rfl (fun ls hl => ?_)
        have Jx36 : ∀ (w52 : Int32) (H : Heap) (locs : List Loc) (ls : Array Slot), (F_X6_ranks_x36 u42 u43 u44 (F_X6_ranks_l19 L xs y6 (F_X6_ranks_x19 L xs) n19) Y50) w52 = some (Yo, ro) → va_P (dC, dI) vwCl (ww q ta aa sa Y50) H → va_D A (ww q ta aa sa Y50) → va_S A s.heap H locs → lv_has ls 6 [(5, .int w52), (4, .int u44), (3, .int y6), (2, .int u43), (1, .int u42), (0, .ref (ta 0))] → W p l e (headSpec wsX6_ranks ({ frames := 4, cells := 0, slots := 0, locals := 83 } : Room)).room s m args below meth c H locs 0 0 Q (F0 m 61 ls []) := by
          intro w52 H locs ls hF hP hD hS hl
          unfold F_X6_ranks_x36 at hF
          refine lv_iload_n hx hb dX6_ranks_61 rfl (lv_at hl 3 rfl) ?_
          refine lv_iconst (v := 1) hx hb dX6_ranks_62 (by decide) ?_
          refine lv_iload hx hb dX6_ranks_63 (lv_at hl 0 rfl) ?_
          refine lv_ishl hx hb dX6_ranks_65 ?_
          refine lv_topi (fun y53 ey53 => ?_)
          have hF := bv_at ey53 hF
          refine lv_ior hx hb dX6_ranks_66 ?_
          refine lv_topi (fun y54 ey54 => ?_)
          have hF := bv_at ey54 hF
          refine lv_istore_n (lv' := [(2, .int y54), (5, .int w52), (4, .int u44), (3, .int y6), (1, .int u42), (0, .ref (ta 0))]) hx hb dX6_ranks_67 rfl hl (by decide) rfl (fun ls hl => ?_)
          refine lv_bipush (v := 10) hx hb dX6_ranks_68 (by decide) ?_
          refine lv_iload_n hx hb dX6_ranks_70 rfl (lv_at hl 4 rfl) ?_
          refine lv_imul hx hb dX6_ranks_71 ?_
          refine lv_topi (fun y55 ey55 => ?_)
          have hF := bv_at ey55 hF
          refine lv_iload hx hb dX6_ranks_72 (lv_at hl 1 rfl) ?_
          refine lv_iadd hx hb dX6_ranks_74 ?_
          refine lv_topi (fun y56 ey56 => ?_)
          have hF := bv_at ey56 hF
          refine lv_iconst (v := 1) hx hb dX6_ranks_75 (by decide) ?_
          refine lv_iadd hx hb dX6_ranks_76 ?_
          refine lv_topi (fun y57 ey57 => ?_)
          have hF := bv_at ey57 hF
          refine lv_istore_n (lv' := [(1, .int y57), (2, .int y54), (5, .int w52), (4, .int u44), (3, .int y6), (0, .ref (ta 0))]) hx hb dX6_ranks_77 rfl hl (by decide) rfl (fun ls hl => ?_)
          refine lv_iinc (k := 3) (v := (u44 + (1 : Int32))) (lv' := [(4, .int (u44 + (1 : Int32))), (1, .int y57), (2, .int y54), (5, .int w52), (3, .int y6), (0, .ref (ta 0))]) hx hb dX6_ranks_78 hl rfl (ii_ _ _ _ (by decide)) (by decide) rfl (fun ls hl => ?_)
          refine lv_goto (tgt := 19) hx hb dX6_ranks_81 (by decide) ?_
          exact IH19 Y50 y57 y54 (u44 + (1 : Int32)) _ _ _ hF hP hD hS (lv_sub hl [0, 4, 2, 1, 5] rfl)
        have L36 : ∀ (n36 : Nat) (u58 : Int32) (H : Heap) (locs : List Loc) (ls : Array Slot), F_X6_ranks_l36 u43 Y50 (F_X6_ranks_x36 u42 u43 u44 (F_X6_ranks_l19 L xs y6 (F_X6_ranks_x19 L xs) n19) Y50) n36 u58 = some (Yo, ro) → va_P (dC, dI) vwCl (ww q ta aa sa Y50) H → va_D A (ww q ta aa sa Y50) → va_S A s.heap H locs → lv_has ls 6 [(5, .int u58), (4, .int u44), (3, .int y6), (2, .int u43), (1, .int u42), (0, .ref (ta 0))] → W p l e (headSpec wsX6_ranks ({ frames := 4, cells := 0, slots := 0, locals := 83 } : Room)).room s m args below meth c H locs 0 0 Q (F0 m 36 ls []) := by
          intro n36
          induction n36 with
          | zero =>
            intro u58 H locs ls hF
            rw [F_X6_ranks_l36] at hF
            cases hF
          | succ n36 IH36 =>
            intro u58 H locs ls hF hP hD hS hl
            rw [F_X6_ranks_l36] at hF
            refine lv_iload_n hx hb dX6_ranks_36 rfl (lv_at hl 3 rfl) ?_
            refine lv_iload hx hb dX6_ranks_37 (lv_at hl 0 rfl) ?_
            refine lv_ishr hx hb dX6_ranks_39 ?_
            refine lv_topi (fun y59 ey59 => ?_)
            have hF := bv_at ey59 hF
            refine lv_iconst (v := 1) hx hb dX6_ranks_40 (by decide) ?_
            refine lv_iand hx hb dX6_ranks_41 ?_
            refine lv_topi (fun y60 ey60 => ?_)
            have hF := bv_at ey60 hF
            refine lv_iconst (v := 1) hx hb dX6_ranks_42 (by decide) ?_
            refine lv_icmp_ne (tgt := 61) hx hb dX6_ranks_43 (by decide) (fun hc61 => ?_) (fun hc61 => ?_)
            · have hF := br_neg hc61 hF
              exact Jx36 u58 _ _ _ hF hP hD hS (lv_sub hl [0, 1, 2, 3, 4, 5] rfl)
            · have hF := br_pos hc61 hF
              refine lv_iload hx hb dX6_ranks_46 (lv_at hl 0 rfl) ?_
              refine lv_iconst (v := 1) hx hb dX6_ranks_48 (by decide) ?_
              refine lv_iadd hx hb dX6_ranks_49 ?_
              refine lv_topi (fun y62 ey62 => ?_)
              have hF := bv_at ey62 hF
              refine lv_aload_n hx hb dX6_ranks_50 rfl (lv_at hl 5 rfl) ?_
              refine va_get (D := (dC, dI)) (ci := 8) (v := .ref (ta 1)) (C := RX6) (T := TX6) (N := 9) hx hb hts hinX6 hown hK hP 0 ww_0 rfl 3 (by decide) (hts (.fieldLink RX6 16 "BallotLoomLaw$Told" "parties" "[I") (by decide +kernel)) (fun _ h9 => h9) rfl dX6_ranks_51 ?_
              refine va_alen (v := nI (Y50.1.1 1)) hx hb hK hP 1 0 ww_1 rfl rfl dX6_ranks_54 ?_
              refine lv_topi (fun y63 ey63 => ?_)
              have hF := bv_at ey63 hF
              obtain ⟨hg64, hF⟩ := gd_some hF
              refine lv_irem hx hb dX6_ranks_55 hg64 ?_
              refine lv_topi (fun y65 ey65 => ?_)
              have hF := bv_at ey65 hF
              refine lv_istore (lv' := [(5, .int y65), (4, .int u44), (3, .int y6), (2, .int u43), (1, .int u42), (0, .ref (ta 0))]) hx hb dX6_ranks_56 hl (by decide) rfl (fun ls hl => ?_)
              refine lv_goto (tgt := 36) hx hb dX6_ranks_58 (by decide) ?_
              exact IH36 y65 _ _ _ hF hP hD hS (lv_sub hl [0, 1, 2, 3, 4, 5] rfl)
        exact L36 100 ra51 _ _ _ hF hP hD hS (lv_sub hl [0, 1, 2, 3, 4, 5] rfl)
  exact L19 100 Y4 (0 : Int32) (0 : Int32) (0 : Int32) _ _ _ hF hP hD hS (lv_sub hl [0, 1, 2, 3, 4] rfl)

noncomputable def F_X6_change_j82 (ra9 : Int32) (v14 : Int32) (y18 : Int32) (Y20 : TS) (v21 : Int32) : Option (TS × Int32) :=
  gd ((ix ra9) < Y20.1.1 4) <| bv (tsi Y20 (5 + (ix ra9)) (ix v14) v21) fun Y23 => br (v14 = (2 : Int32)) (gd (¬ (ra9 < 0 ∨ Y23.1.1 4 ≤ ix ra9)) <| bv (Y23.1.2 (5 + (ix ra9)) (ix (2 : Int32))) fun y36 => cal (F_X5_recount Y23.2 ra9 y36) fun z39 ra41 => bv (tz Y23 z39) fun Y40 => br (ra41 = y18) (some (Y40, (1 : Int32))) (some (Y40, (0 : Int32)))) (gd (¬ (ra9 < 0 ∨ Y23.1.1 4 ≤ ix ra9)) <| bv (Y23.1.2 (5 + (ix ra9)) (ix (0 : Int32))) fun y27 => cal (F_X5_move Y23.2 ra9 y27) fun z30 ra32 => bv (tz Y23 z30) fun Y31 => br (ra32 = y18) (some (Y31, (1 : Int32))) (some (Y31, (0 : Int32))))

noncomputable def F_X6_change_j40 (L : Nat) (xs : Nat → Int32) (ra9 : Int32) (Y12 : TS) (v14 : Int32) : Option (TS × Int32) :=
  gd (¬ (ra9 < 0 ∨ Y12.1.1 4 ≤ ix ra9)) <| gd (¬ (v14 < 0 ∨ 4 ≤ ix v14)) <| bv (Y12.1.2 (5 + (ix ra9)) (ix v14)) fun y18 => br (v14 = (2 : Int32)) (calt (F_X6_draw L xs Y12 (80 : Int32)) fun Y51 ra52 => bv ((1 : Int32) + ra52) fun y53 => (F_X6_change_j82 ra9 v14 y18) Y51 y53) (bv (nI (Y12.1.1 3)) fun y44 => calt (F_X6_draw L xs Y12 y44) fun Y47 ra48 => (F_X6_change_j82 ra9 v14 y18) Y47 ra48)

noncomputable def F_X6_change (L : Nat) (xs : Nat → Int32) (Y : TS) : Option (TS × Int32) :=
  bv (nI (Y.1.1 4)) fun y1 => br (y1 = (0 : Int32)) (some (Y, (1 : Int32))) (bv (Y.1.2 0 8) fun y3 => br (y3 = (0 : Int32)) (bv (nI (Y.1.1 4)) fun y5 => calt (F_X6_draw L xs Y y5) fun Y8 ra9 => calt (F_X6_draw L xs Y8 (2 : Int32)) fun Y12 ra13 => br (ra13 = (0 : Int32)) ((F_X6_change_j40 L xs ra9 Y12) (2 : Int32)) ((F_X6_change_j40 L xs ra9 Y12) (0 : Int32))) (some (Y, (1 : Int32))))

set_option maxHeartbeats 4000000 in
set_option maxRecDepth 100000 in
theorem c_X6_change (l : Launch) (dC : Nat → ClassId) (dI : Nat → Nat → Nat) (q : Nat → ClassId) (ta aa : Nat → Nat) (sa : Nat) (L : Nat) (xs : Nat → Int32) (Y : TS)  (sz : Nat)  (Yo : TS) (ro : Int32) (hF : F_X6_change L xs Y = some (Yo, ro)) : Met l yX6_change wsX6_change ({ frames := 4, cells := 0, slots := 0, locals := 85 }) (va_Pc [.ref (ta 0)] (fun U => pr_ dC dI (ww q ta aa sa Y) (bty q) sz U ∧ sx_ (va_A (ww q ta aa sa Y) sz) sa L xs U)) (va_Qi (fun (r : Int32) (_ : Unit) => r = ro) (fun (_ : Unit) t => po_ dC dI (ww q ta aa sa Yo) (bty q) (va_A (ww q ta aa sa Y) sz) t) (va_A (ww q ta aa sa Y) sz)) 0 0 (va_A (ww q ta aa sa Y) sz) := by
  refine Met.ofW (cc := cX6_change) (maxL := 4) (ret := (some .boolean)) (by decide) rfl ?_
  intro p e s m args below meth c s₁ B hml hv
  obtain ⟨hargs, ⟨hsz, hP, hK, hD0⟩, hXs⟩ := hv
  have hx := B.exec
  have hb := B.bytes
  have hr := B.returns
  have hts := atoms_spec (ws := wsX6_change) B.pre
  have hown : s.vm.findClass RX6 = some m.cls := findClass_of_methodNamed B.named
  have hlocks := B.notSynchronized
  subst hsz
  have hD := hD0.self (sz := s.heap.size)
  generalize hAe : va_A (ww q ta aa sa Y) s.heap.size = A at hD hXs ⊢
  have hA : ∀ x : Nat, s.heap.size ≤ x → A x := fun x h => by rw [← hAe]; exact Or.inr h
  have hS : va_S A s.heap s.heap [] := va_S.rf
  have hinX6 : ∀ w ∈ u_ws RX6 TX6 9, w ∈ wsX6_change := by decide +kernel
  have hl := lv_entry ([.ref (ta 0)]) (n := 4) (Nat.le_of_ble_eq_true rfl)
  refine w_ent hargs ?_
  rw [lg_entry_eq]
  generalize (lg_sl ([.ref (ta 0)]) ++ List.replicate (4 - (lg_sl ([.ref (ta 0)])).length) Slot.unset).toArray = ls at hl ⊢
  have hl : lv_has ls 4 [(0, .ref (ta 0))] := hl
  unfold F_X6_change at hF
  refine w_go (fun Q hQ => ?_)
  refine lv_aload_n hx hb dX6_change_0 rfl (lv_at hl 0 rfl) ?_
  refine va_get (D := (dC, dI)) (ci := 8) (v := .ref (ta 4)) (C := RX6) (T := TX6) (N := 9) hx hb hts hinX6 hown hK hP 0 ww_0 rfl 6 (by decide) (hts (.fieldLink RX6 28 "BallotLoomLaw$Told" "stacks" "[[I") (by decide +kernel)) (fun _ h9 => h9) rfl dX6_change_1 ?_
  refine va_alen (v := nI (Y.1.1 4)) hx hb hK hP 4 4 ww_4 rfl rfl dX6_change_4 ?_
  refine lv_topi (fun y1 ey1 => ?_)
  have hF := bv_at ey1 hF
  refine lv_if_eq (tgt := 15) hx hb dX6_change_5 (by decide) (fun hc2 => ?_) (fun hc2 => ?_)
  · have hF := br_pos hc2 hF
    refine lv_iconst (v := 1) hx hb dX6_change_15 (by decide) ?_
    obtain ⟨e8, e9⟩ := some2t hF
    rw [← e8] at hP hD
    subst hQ
    exact W.zret (v := 1) hx hb hr rfl (fun t ht hW => ⟨⟨1, (), rfl, e9.symm, po_mk ht hW hP hK hD⟩, hS.F ht⟩) hS.2.2 dX6_change_16
  · have hF := br_neg hc2 hF
    refine lv_aload_n hx hb dX6_change_8 rfl (lv_at hl 0 rfl) ?_
    refine va_get (D := (dC, dI)) (ci := 8) (v := .int (Y.1.2 0 8)) (C := RX6) (T := TX6) (N := 9) hx hb hts hinX6 hown hK hP 0 ww_0 rfl 8 (by decide) (hts (.fieldLink RX6 105 "BallotLoomLaw$Told" "isSealed" "Z") (by decide +kernel)) (fun _ h9 => h9) rfl dX6_change_9 ?_
    refine lv_topi (fun y3 ey3 => ?_)
    have hF := bv_at ey3 hF
    refine lv_if_eq (tgt := 17) hx hb dX6_change_12 (by decide) (fun hc4 => ?_) (fun hc4 => ?_)
    · have hF := br_pos hc4 hF
      refine lv_aload_n hx hb dX6_change_17 rfl (lv_at hl 0 rfl) ?_
      refine lv_aload_n hx hb dX6_change_18 rfl (lv_at hl 0 rfl) ?_
      refine va_get (D := (dC, dI)) (ci := 8) (v := .ref (ta 4)) (C := RX6) (T := TX6) (N := 9) hx hb hts hinX6 hown hK hP 0 ww_0 rfl 6 (by decide) (hts (.fieldLink RX6 28 "BallotLoomLaw$Told" "stacks" "[[I") (by decide +kernel)) (fun _ h9 => h9) rfl dX6_change_19 ?_
      refine va_alen (v := nI (Y.1.1 4)) hx hb hK hP 4 4 ww_4 rfl rfl dX6_change_22 ?_
      refine lv_topi (fun y5 ey5 => ?_)
      have hF := bv_at ey5 hF
      obtain ⟨Y8, rr7, hC6, hF⟩ := calt_some hF
      have hFc := b_free (ws := ww q ta aa sa Y) hD hS hA
      refine va_calli (va_runV (As := [.int y5]) (rest := []) ⟨hx, hb, hml, hown, hts⟩ (c_X6_draw l dC dI q ta aa sa L xs Y y5 _  _ _ hC6) (cwV 1 hts gX6_change_X6_draw rfl rfl rfl (by decide +kernel) ⟨Nat.le_of_ble_eq_true rfl, Nat.le_of_ble_eq_true rfl⟩) ⟨pe_blind (sx_bl _ _ _ _), va_recv hK hP (ci := 8) (q0 := 0) rfl ww_0, fun U hU hW => ⟨rfl, pr_mk hU hW hP hK hD, sx_mk hU hW hS hFc hXs⟩⟩ rfl rfl hl.1 rfl (lv_room (Nat.le_of_ble_eq_true rfl)) dX6_change_23 ⟨Nat.le_of_ble_eq_true rfl, Nat.le_of_ble_eq_true rfl⟩) hS (fun x _ h => hFc x h) hFc (fun ra9 u t H1 locs ht hvm hw hB hz1 hk1 hS => ?_)
      obtain ⟨hP, hK1, hD1⟩ := hB
      rw [ht] at hP
      have hD := hD1.weaken (fun _ q9 _ h9 => hFc q9.1 h9)
      generalize H1 = H at hP hS ⊢
      refine W.widen (k := 0) (n := 0) (Nat.le_refl _) (Nat.le_refl _) ?_
      obtain rfl : ra9 = rr7 := hw
      refine lv_istore_n (lv' := [(1, .int ra9), (0, .ref (ta 0))]) hx hb dX6_change_26 rfl hl (by decide) rfl (fun ls hl => ?_)
      refine lv_aload_n hx hb dX6_change_27 rfl (lv_at hl 1 rfl) ?_
      refine lv_iconst (v := 2) hx hb dX6_change_28 (by decide) ?_
      obtain ⟨Y12, rr11, hC10, hF⟩ := calt_some hF
      have hFc := b_free (ws := ww q ta aa sa Y8) hD hS hA
      refine va_calli (va_runV (As := [.int 2]) (rest := []) ⟨hx, hb, hml, hown, hts⟩ (c_X6_draw l dC dI q ta aa sa L xs Y8 (2 : Int32) _  _ _ hC10) (cwV 1 hts gX6_change_X6_draw rfl rfl rfl (by decide +kernel) ⟨Nat.le_of_ble_eq_true rfl, Nat.le_of_ble_eq_true rfl⟩) ⟨pe_blind (sx_bl _ _ _ _), va_recv hK hP (ci := 8) (q0 := 0) rfl ww_0, fun U hU hW => ⟨rfl, pr_mk hU hW hP hK hD, sx_mk hU hW hS hFc hXs⟩⟩ rfl rfl hl.1 rfl (lv_room (Nat.le_of_ble_eq_true rfl)) dX6_change_29 ⟨Nat.le_of_ble_eq_true rfl, Nat.le_of_ble_eq_true rfl⟩) hS (fun x _ h => hFc x h) hFc (fun ra13 u t H1 locs ht hvm hw hB hz1 hk1 hS => ?_)
      obtain ⟨hP, hK1, hD1⟩ := hB
      rw [ht] at hP
      have hD := hD1.weaken (fun _ q9 _ h9 => hFc q9.1 h9)
      generalize H1 = H at hP hS ⊢
      refine W.widen (k := 0) (n := 0) (Nat.le_refl _) (Nat.le_refl _) ?_
      obtain rfl : ra13 = rr11 := hw
      have Jj40 : ∀ (v14 : Int32) (H : Heap) (locs : List Loc) (ls : Array Slot), (F_X6_change_j40 L xs ra9 Y12) v14 = some (Yo, ro) → va_P (dC, dI) vwCl (ww q ta aa sa Y12) H → va_D A (ww q ta aa sa Y12) → va_S A s.heap H locs → lv_has ls 4 [(1, .int ra9), (0, .ref (ta 0))] → W p l e (headSpec wsX6_change ({ frames := 4, cells := 0, slots := 0, locals := 85 } : Room)).room s m args below meth c H locs 0 0 Q (F0 m 40 ls [.int v14]) := by
        intro v14 H locs ls hF hP hD hS hl
        unfold F_X6_change_j40 at hF
        refine lv_istore_n (lv' := [(2, .int v14), (1, .int ra9), (0, .ref (ta 0))]) hx hb dX6_change_40 rfl hl (by decide) rfl (fun ls hl => ?_)
        refine lv_aload_n hx hb dX6_change_41 rfl (lv_at hl 2 rfl) ?_
        refine va_get (D := (dC, dI)) (ci := 8) (v := .ref (ta 4)) (C := RX6) (T := TX6) (N := 9) hx hb hts hinX6 hown hK hP 0 ww_0 rfl 6 (by decide) (hts (.fieldLink RX6 28 "BallotLoomLaw$Told" "stacks" "[[I") (by decide +kernel)) (fun _ h9 => h9) rfl dX6_change_42 ?_
        refine lv_iload_n hx hb dX6_change_45 rfl (lv_at hl 1 rfl) ?_
        obtain ⟨hg15, hF⟩ := gd_some hF
        have hk16 : ix ra9 < Y12.1.1 4 := tx_in hg15
        refine bq_ald (v := (ta (5 + (ix ra9)))) (hty := rfl) hx hb hK hP 4 4 ww_4 rfl hg15 (if_pos hk16) dX6_change_46 ?_
        refine lv_iload_n hx hb dX6_change_47 rfl (lv_at hl 0 rfl) ?_
        obtain ⟨hg17, hF⟩ := gd_some hF
        refine va_iald hx hb hK hP (5 + (ix ra9)) 0 (ww_r hk16) rfl hg17 dX6_change_48 ?_
        refine lv_topi (fun y18 ey18 => ?_)
        have hF := bv_at ey18 hF
        refine lv_istore_n (lv' := [(3, .int y18), (2, .int v14), (1, .int ra9), (0, .ref (ta 0))]) hx hb dX6_change_49 rfl hl (by decide) rfl (fun ls hl => ?_)
        refine lv_aload_n hx hb dX6_change_50 rfl (lv_at hl 3 rfl) ?_
        refine va_get (D := (dC, dI)) (ci := 8) (v := .ref (ta 4)) (C := RX6) (T := TX6) (N := 9) hx hb hts hinX6 hown hK hP 0 ww_0 rfl 6 (by decide) (hts (.fieldLink RX6 28 "BallotLoomLaw$Told" "stacks" "[[I") (by decide +kernel)) (fun _ h9 => h9) rfl dX6_change_51 ?_
        refine lv_iload_n hx hb dX6_change_54 rfl (lv_at hl 2 rfl) ?_
        have hk19 : ix ra9 < Y12.1.1 4 := tx_in hg15
        refine bq_ald (v := (ta (5 + (ix ra9)))) (hty := rfl) hx hb hK hP 4 4 ww_4 rfl hg15 (if_pos hk19) dX6_change_55 ?_
        refine lv_iload_n hx hb dX6_change_56 rfl (lv_at hl 1 rfl) ?_
        refine lv_iload_n hx hb dX6_change_57 rfl (lv_at hl 1 rfl) ?_
        refine lv_iconst (v := 2) hx hb dX6_change_58 (by decide) ?_
        have Jj82 : ∀ (Y20 : TS) (v21 : Int32) (H : Heap) (locs : List Loc) (ls : Array Slot), (F_X6_change_j82 ra9 v14 y18) Y20 v21 = some (Yo, ro) → va_P (dC, dI) vwCl (ww q ta aa sa Y20) H → va_D A (ww q ta aa sa Y20) → va_S A s.heap H locs → lv_has ls 4 [(3, .int y18), (2, .int v14), (1, .int ra9), (0, .ref (ta 0))] → W p l e (headSpec wsX6_change ({ frames := 4, cells := 0, slots := 0, locals := 85 } : Room)).room s m args below meth c H locs 0 0 Q (F0 m 82 ls [.int v21, .int v14, .ref (ta (5 + (ix ra9)))]) := by
          intro Y20 v21 H locs ls hF hP hD hS hl
          unfold F_X6_change_j82 at hF
          obtain ⟨hg22, hF⟩ := gd_some hF
          obtain ⟨Y23, eY23, hF⟩ := bv_some hF
          refine va_iast hx hb hK hP hD hS (5 + (ix ra9)) 0 (ww_r hg22) rfl hg17 dX6_change_82 (fun H locs hP hD hS => ?_)
          have eW := wt_i (q := q) (ta := ta) (aa := aa) (sa := sa) (i := (5 + (ix ra9))) (by have := hg22; omega) (fun _ => twc_r) eY23
          have hP : va_P (dC, dI) vwCl (ww q ta aa sa Y23) H := eW ▸ hP
          have hD : va_D A (ww q ta aa sa Y23) := eW ▸ hD
          clear eW
          refine lv_iload_n hx hb dX6_change_83 rfl (lv_at hl 1 rfl) ?_
          refine lv_iconst (v := 2) hx hb dX6_change_84 (by decide) ?_
          refine lv_icmp_ne (tgt := 116) hx hb dX6_change_85 (by decide) (fun hc24 => ?_) (fun hc24 => ?_)
          · have hF := br_neg hc24 hF
            refine lv_aload_n hx hb dX6_change_116 rfl (lv_at hl 3 rfl) ?_
            refine va_get (D := (dC, dI)) (ci := 8) (v := .ref (aa 0)) (C := RX6) (T := TX6) (N := 9) hx hb hts hinX6 hown hK hP 0 ww_0 rfl 0 (by decide) (hts (.fieldLink RX6 10 "BallotLoomLaw$Told" "m" "LBallotLoom;") (by decide +kernel)) (fun _ h9 => h9) rfl dX6_change_117 ?_
            refine lv_iload_n hx hb dX6_change_120 rfl (lv_at hl 2 rfl) ?_
            refine lv_aload_n hx hb dX6_change_121 rfl (lv_at hl 3 rfl) ?_
            refine va_get (D := (dC, dI)) (ci := 8) (v := .ref (ta 4)) (C := RX6) (T := TX6) (N := 9) hx hb hts hinX6 hown hK hP 0 ww_0 rfl 6 (by decide) (hts (.fieldLink RX6 28 "BallotLoomLaw$Told" "stacks" "[[I") (by decide +kernel)) (fun _ h9 => h9) rfl dX6_change_122 ?_
            refine lv_iload_n hx hb dX6_change_125 rfl (lv_at hl 2 rfl) ?_
            obtain ⟨hg25, hF⟩ := gd_some hF
            have hk26 : ix ra9 < Y23.1.1 4 := tx_in hg25
            refine bq_ald (v := (ta (5 + (ix ra9)))) (hty := rfl) hx hb hK hP 4 4 ww_4 rfl hg25 (if_pos hk26) dX6_change_126 ?_
            refine lv_iconst (v := 0) hx hb dX6_change_127 (by decide) ?_
            refine va_iald hx hb hK hP (5 + (ix ra9)) 0 (ww_r hk26) rfl (by unfold vp_in; decide) dX6_change_128 ?_
            refine lv_topi (fun y27 ey27 => ?_)
            have hF := bv_at ey27 hF
            obtain ⟨z30, rr29, hC28, hF⟩ := cal_some hF
            obtain ⟨Y31, eY31, hF⟩ := bv_some hF
            have hPc := sf_P hP
            have hDc := sf_D hD
            have hFc := b_free (ws := bw q aa Y23.2) hDc hS hA
            refine va_calli (va_runV (As := [.int ra9, .int y27]) (rest := []) ⟨hx, hb, hml, hown, hts⟩ (c_X5_move l dC dI q aa Y23.2 ra9 y27 _ _ _ hC28) (cwV 2 hts gX6_change_X5_move rfl rfl rfl (by decide +kernel) ⟨Nat.le_of_ble_eq_true rfl, Nat.le_of_ble_eq_true rfl⟩) ⟨pr_blind, va_recv hK hPc (ci := 7) (q0 := 0) rfl (bw_at (i := 0) (by decide) rfl), fun U hU hW => ⟨rfl, pr_mk hU hW hPc hK hDc⟩⟩ rfl rfl hl.1 rfl (lv_room (Nat.le_of_ble_eq_true rfl)) dX6_change_129 ⟨Nat.le_of_ble_eq_true rfl, Nat.le_of_ble_eq_true rfl⟩) hS (fun x _ h => hFc x h) hFc (fun ra32 u t H1 locs ht hvm hw hB hz1 hk1 hS => ?_)
            obtain ⟨hP1, hK1, hD1⟩ := hB
            rw [ht] at hP1
            obtain ⟨hP, hD⟩ := sf_J hP hD hk1 hFc hP1 hD1
            have eW : twl q ta (aa 0) sa Y23.1 ++ bw q aa z30 = ww q ta aa sa Y31 := by rw [eY31]; rfl
            rw [eW] at hP hD
            clear eW
            generalize H1 = H at hP hS ⊢
            refine W.widen (k := 0) (n := 0) (Nat.le_refl _) (Nat.le_refl _) ?_
            obtain rfl : ra32 = rr29 := hw
            refine lv_iload_n hx hb dX6_change_132 rfl (lv_at hl 0 rfl) ?_
            refine lv_icmp_ne (tgt := 140) hx hb dX6_change_133 (by decide) (fun hc33 => ?_) (fun hc33 => ?_)
            · have hF := br_neg hc33 hF
              refine lv_iconst (v := 0) hx hb dX6_change_140 (by decide) ?_
              obtain ⟨e8, e9⟩ := some2t hF
              rw [← e8] at hP hD
              subst hQ
              exact W.zret (v := 0) hx hb hr rfl (fun t ht hW => ⟨⟨0, (), rfl, e9.symm, po_mk ht hW hP hK hD⟩, hS.F ht⟩) hS.2.2 dX6_change_141
            · have hF := br_pos hc33 hF
              refine lv_iconst (v := 1) hx hb dX6_change_136 (by decide) ?_
              refine lv_goto (tgt := 141) hx hb dX6_change_137 (by decide) ?_
              obtain ⟨e8, e9⟩ := some2t hF
              rw [← e8] at hP hD
              subst hQ
              exact W.zret (v := 1) hx hb hr rfl (fun t ht hW => ⟨⟨1, (), rfl, e9.symm, po_mk ht hW hP hK hD⟩, hS.F ht⟩) hS.2.2 dX6_change_141
          · have hF := br_pos hc24 hF
            refine lv_aload_n hx hb dX6_change_88 rfl (lv_at hl 3 rfl) ?_
            refine va_get (D := (dC, dI)) (ci := 8) (v := .ref (aa 0)) (C := RX6) (T := TX6) (N := 9) hx hb hts hinX6 hown hK hP 0 ww_0 rfl 0 (by decide) (hts (.fieldLink RX6 10 "BallotLoomLaw$Told" "m" "LBallotLoom;") (by decide +kernel)) (fun _ h9 => h9) rfl dX6_change_89 ?_
            refine lv_iload_n hx hb dX6_change_92 rfl (lv_at hl 2 rfl) ?_
            refine lv_aload_n hx hb dX6_change_93 rfl (lv_at hl 3 rfl) ?_
            refine va_get (D := (dC, dI)) (ci := 8) (v := .ref (ta 4)) (C := RX6) (T := TX6) (N := 9) hx hb hts hinX6 hown hK hP 0 ww_0 rfl 6 (by decide) (hts (.fieldLink RX6 28 "BallotLoomLaw$Told" "stacks" "[[I") (by decide +kernel)) (fun _ h9 => h9) rfl dX6_change_94 ?_
            refine lv_iload_n hx hb dX6_change_97 rfl (lv_at hl 2 rfl) ?_
            obtain ⟨hg34, hF⟩ := gd_some hF
            have hk35 : ix ra9 < Y23.1.1 4 := tx_in hg34
            refine bq_ald (v := (ta (5 + (ix ra9)))) (hty := rfl) hx hb hK hP 4 4 ww_4 rfl hg34 (if_pos hk35) dX6_change_98 ?_
            refine lv_iconst (v := 2) hx hb dX6_change_99 (by decide) ?_
            refine va_iald hx hb hK hP (5 + (ix ra9)) 0 (ww_r hk35) rfl (by unfold vp_in; decide) dX6_change_100 ?_
            refine lv_topi (fun y36 ey36 => ?_)
            have hF := bv_at ey36 hF
            obtain ⟨z39, rr38, hC37, hF⟩ := cal_some hF
            obtain ⟨Y40, eY40, hF⟩ := bv_some hF
            have hPc := sf_P hP
            have hDc := sf_D hD
            have hFc := b_free (ws := bw q aa Y23.2) hDc hS hA
            refine va_calli (va_runV (As := [.int ra9, .int y36]) (rest := []) ⟨hx, hb, hml, hown, hts⟩ (c_X5_recount l dC dI q aa Y23.2 ra9 y36 _ _ _ hC37) (cwV 2 hts gX6_change_X5_recount rfl rfl rfl (by decide +kernel) ⟨Nat.le_of_ble_eq_true rfl, Nat.le_of_ble_eq_true rfl⟩) ⟨pr_blind, va_recv hK hPc (ci := 7) (q0 := 0) rfl (bw_at (i := 0) (by decide) rfl), fun U hU hW => ⟨rfl, pr_mk hU hW hPc hK hDc⟩⟩ rfl rfl hl.1 rfl (lv_room (Nat.le_of_ble_eq_true rfl)) dX6_change_101 ⟨Nat.le_of_ble_eq_true rfl, Nat.le_of_ble_eq_true rfl⟩) hS (fun x _ h => hFc x h) hFc (fun ra41 u t H1 locs ht hvm hw hB hz1 hk1 hS => ?_)
            obtain ⟨hP1, hK1, hD1⟩ := hB
            rw [ht] at hP1
            obtain ⟨hP, hD⟩ := sf_J hP hD hk1 hFc hP1 hD1
            have eW : twl q ta (aa 0) sa Y23.1 ++ bw q aa z39 = ww q ta aa sa Y40 := by rw [eY40]; rfl
            rw [eW] at hP hD
            clear eW
            generalize H1 = H at hP hS ⊢
            refine W.widen (k := 0) (n := 0) (Nat.le_refl _) (Nat.le_refl _) ?_
            obtain rfl : ra41 = rr38 := hw
            refine lv_iload_n hx hb dX6_change_104 rfl (lv_at hl 0 rfl) ?_
            refine lv_icmp_ne (tgt := 112) hx hb dX6_change_105 (by decide) (fun hc42 => ?_) (fun hc42 => ?_)
            · have hF := br_neg hc42 hF
              refine lv_iconst (v := 0) hx hb dX6_change_112 (by decide) ?_
              refine lv_goto (tgt := 141) hx hb dX6_change_113 (by decide) ?_
              obtain ⟨e8, e9⟩ := some2t hF
              rw [← e8] at hP hD
              subst hQ
              exact W.zret (v := 0) hx hb hr rfl (fun t ht hW => ⟨⟨0, (), rfl, e9.symm, po_mk ht hW hP hK hD⟩, hS.F ht⟩) hS.2.2 dX6_change_141
            · have hF := br_pos hc42 hF
              refine lv_iconst (v := 1) hx hb dX6_change_108 (by decide) ?_
              refine lv_goto (tgt := 141) hx hb dX6_change_109 (by decide) ?_
              obtain ⟨e8, e9⟩ := some2t hF
              rw [← e8] at hP hD
              subst hQ
              exact W.zret (v := 1) hx hb hr rfl (fun t ht hW => ⟨⟨1, (), rfl, e9.symm, po_mk ht hW hP hK hD⟩, hS.F ht⟩) hS.2.2 dX6_change_141
        refine lv_icmp_ne (tgt := 73) hx hb dX6_change_59 (by decide) (fun hc43 => ?_) (fun hc43 => ?_)
        · have hF := br_neg hc43 hF
          refine lv_aload_n hx hb dX6_change_73 rfl (lv_at hl 3 rfl) ?_
          refine lv_aload_n hx hb dX6_change_74 rfl (lv_at hl 3 rfl) ?_
          refine va_get (D := (dC, dI)) (ci := 8) (v := .ref (ta 3)) (C := RX6) (T := TX6) (N := 9) hx hb hts hinX6 hown hK hP 0 ww_0 rfl 5 (by decide) (hts (.fieldLink RX6 24 "BallotLoomLaw$Told" "seats" "[I") (by decide +kernel)) (fun _ h9 => h9) rfl dX6_change_75 ?_
          refine va_alen (v := nI (Y12.1.1 3)) hx hb hK hP 3 0 ww_3 rfl rfl dX6_change_78 ?_
          refine lv_topi (fun y44 ey44 => ?_)
          have hF := bv_at ey44 hF
          obtain ⟨Y47, rr46, hC45, hF⟩ := calt_some hF
          have hFc := b_free (ws := ww q ta aa sa Y12) hD hS hA
          refine va_calli (va_runV (As := [.int y44]) (rest := [.int v14, .ref (ta (5 + (ix ra9)))]) ⟨hx, hb, hml, hown, hts⟩ (c_X6_draw l dC dI q ta aa sa L xs Y12 y44 _  _ _ hC45) (cwV 1 hts gX6_change_X6_draw rfl rfl rfl (by decide +kernel) ⟨Nat.le_of_ble_eq_true rfl, Nat.le_of_ble_eq_true rfl⟩) ⟨pe_blind (sx_bl _ _ _ _), va_recv hK hP (ci := 8) (q0 := 0) rfl ww_0, fun U hU hW => ⟨rfl, pr_mk hU hW hP hK hD, sx_mk hU hW hS hFc hXs⟩⟩ rfl rfl hl.1 rfl (lv_room (Nat.le_of_ble_eq_true rfl)) dX6_change_79 ⟨Nat.le_of_ble_eq_true rfl, Nat.le_of_ble_eq_true rfl⟩) hS (fun x _ h => hFc x h) hFc (fun ra48 u t H1 locs ht hvm hw hB hz1 hk1 hS => ?_)
          obtain ⟨hP, hK1, hD1⟩ := hB
          rw [ht] at hP
          have hD := hD1.weaken (fun _ q9 _ h9 => hFc q9.1 h9)
          generalize H1 = H at hP hS ⊢
          refine W.widen (k := 0) (n := 0) (Nat.le_refl _) (Nat.le_refl _) ?_
          obtain rfl : ra48 = rr46 := hw
          exact Jj82 Y47 ra48 _ _ _ hF hP hD hS (lv_sub hl [0, 1, 2, 3] rfl)
        · have hF := br_pos hc43 hF
          refine lv_iconst (v := 1) hx hb dX6_change_62 (by decide) ?_
          refine lv_aload_n hx hb dX6_change_63 rfl (lv_at hl 3 rfl) ?_
          refine lv_bipush (v := 80) hx hb dX6_change_64 (by decide) ?_
          obtain ⟨Y51, rr50, hC49, hF⟩ := calt_some hF
          have hFc := b_free (ws := ww q ta aa sa Y12) hD hS hA
          refine va_calli (va_runV (As := [.int 80]) (rest := [.int 1, .int v14, .ref (ta (5 + (ix ra9)))]) ⟨hx, hb, hml, hown, hts⟩ (c_X6_draw l dC dI q ta aa sa L xs Y12 (80 : Int32) _  _ _ hC49) (cwV 1 hts gX6_change_X6_draw rfl rfl rfl (by decide +kernel) ⟨Nat.le_of_ble_eq_true rfl, Nat.le_of_ble_eq_true rfl⟩) ⟨pe_blind (sx_bl _ _ _ _), va_recv hK hP (ci := 8) (q0 := 0) rfl ww_0, fun U hU hW => ⟨rfl, pr_mk hU hW hP hK hD, sx_mk hU hW hS hFc hXs⟩⟩ rfl rfl hl.1 rfl (lv_room (Nat.le_of_ble_eq_true rfl)) dX6_change_66 ⟨Nat.le_of_ble_eq_true rfl, Nat.le_of_ble_eq_true rfl⟩) hS (fun x _ h => hFc x h) hFc (fun ra52 u t H1 locs ht hvm hw hB hz1 hk1 hS => ?_)
          obtain ⟨hP, hK1, hD1⟩ := hB
          rw [ht] at hP
          have hD := hD1.weaken (fun _ q9 _ h9 => hFc q9.1 h9)
          generalize H1 = H at hP hS ⊢
          refine W.widen (k := 0) (n := 0) (Nat.le_refl _) (Nat.le_refl _) ?_
          obtain rfl : ra52 = rr50 := hw
          refine lv_iadd hx hb dX6_change_69 ?_
          refine lv_topi (fun y53 ey53 => ?_)
          have hF := bv_at ey53 hF
          refine lv_goto (tgt := 82) hx hb dX6_change_70 (by decide) ?_
          exact Jj82 Y51 y53 _ _ _ hF hP hD hS (lv_sub hl [0, 1, 2, 3] rfl)
      refine lv_if_ne (tgt := 39) hx hb dX6_change_32 (by decide) (fun hc54 => ?_) (fun hc54 => ?_)
      · have hF := br_neg hc54 hF
        refine lv_iconst (v := 0) hx hb dX6_change_39 (by decide) ?_
        exact Jj40 (0 : Int32) _ _ _ hF hP hD hS (lv_sub hl [0, 1] rfl)
      · have hF := br_pos hc54 hF
        refine lv_iconst (v := 2) hx hb dX6_change_35 (by decide) ?_
        refine lv_goto (tgt := 40) hx hb dX6_change_36 (by decide) ?_
        exact Jj40 (2 : Int32) _ _ _ hF hP hD hS (lv_sub hl [0, 1] rfl)
    · have hF := br_neg hc4 hF
      refine lv_iconst (v := 1) hx hb dX6_change_15 (by decide) ?_
      obtain ⟨e8, e9⟩ := some2t hF
      rw [← e8] at hP hD
      subst hQ
      exact W.zret (v := 1) hx hb hr rfl (fun t ht hW => ⟨⟨1, (), rfl, e9.symm, po_mk ht hW hP hK hD⟩, hS.F ht⟩) hS.2.2 dX6_change_16
