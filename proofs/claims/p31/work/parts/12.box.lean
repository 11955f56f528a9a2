/-! p31: 12.box (laid by wip/gen31/bgen.py) -/
noncomputable def F_X0_addCandidate (Z : Mem) (xa : Int32) : Option (Mem × Int32) :=
  bv (Z.1 1 2) fun y1 => gd (¬ (y1 < 0 ∨ 6 ≤ ix y1)) <| bv (si Z 2 (ix y1) xa) fun Z3 => bv (si Z3 3 (ix y1) (vp_nar .boolean (1 : Int32))) fun Z4 => bv (Z4.1 1 2) fun y5 => bv (y5 + (1 : Int32)) fun y6 => bv (si Z4 1 2 y6) fun Z7 => bv (Z7.1 1 3) fun y8 => bv (y8 + (1 : Int32)) fun y9 => bv (si Z7 1 3 y9) fun Z10 => some (Z10, y1)

set_option maxHeartbeats 4000000 in
set_option maxRecDepth 100000 in
theorem c_X0_addCandidate (l : Launch) (dC : Nat → ClassId) (dI : Nat → Nat → Nat) (q : Nat → ClassId) (aa : Nat → Nat) (Z : Mem) (xa : Int32)  (sz : Nat) (Zo : Mem) (ro : Int32) (hF : F_X0_addCandidate Z xa = some (Zo, ro)) : Met l yX0_addCandidate wsX0_addCandidate ({ frames := 2, cells := 0, slots := 0, locals := 40 }) (va_Pc [.ref (aa 1), .int xa] (pr_ dC dI (bw q aa Z) (bty q) sz)) (va_Qi (fun (r : Int32) (_ : Unit) => r = ro) (fun (_ : Unit) t => po_ dC dI (bw q aa Zo) (bty q) (va_A (bw q aa Z) sz) t) (va_A (bw q aa Z) sz)) 0 0 (va_A (bw q aa Z) sz) := by
  refine Met.ofW (cc := cX0_addCandidate) (maxL := 3) (ret := (some .int)) (by decide) rfl ?_
  intro p e s m args below meth c s₁ B hml hv
  obtain ⟨hargs, hsz, hP, hK, hD0⟩ := hv
  have hx := B.exec
  have hb := B.bytes
  have hr := B.returns
  have hts := atoms_spec (ws := wsX0_addCandidate) B.pre
  have hown : s.vm.findClass RX0 = some m.cls := findClass_of_methodNamed B.named
  have hlocks := B.notSynchronized
  subst hsz
  have hD := hD0.self (sz := s.heap.size)
  generalize hAe : va_A (bw q aa Z) s.heap.size = A at hD ⊢
  have hA : ∀ x : Nat, s.heap.size ≤ x → A x := fun x h => by rw [← hAe]; exact Or.inr h
  have hS : va_S A s.heap s.heap [] := va_S.rf
  have hinX0 : ∀ w ∈ u_ws RX0 TX0 11, w ∈ wsX0_addCandidate := by decide +kernel
  have hl := lv_entry ([.ref (aa 1), .int xa]) (n := 3) (Nat.le_of_ble_eq_true rfl)
  refine w_ent hargs ?_
  rw [lg_entry_eq]
  generalize (lg_sl ([.ref (aa 1), .int xa]) ++ List.replicate (3 - (lg_sl ([.ref (aa 1), .int xa])).length) Slot.unset).toArray = ls at hl ⊢
  have hl : lv_has ls 3 [(0, .ref (aa 1)), (1, .int xa)] := hl
  unfold F_X0_addCandidate at hF
  refine w_go (fun Q hQ => ?_)
  refine lv_aload_n hx hb dX0_addCandidate_0 rfl (lv_at hl 0 rfl) ?_
  refine va_get (D := (dC, dI)) (ci := 2) (v := .int (Z.1 1 2)) (C := RX0) (T := TX0) (N := 11) hx hb hts hinX0 hown hK hP 1 (bw_at (i := 1) (by decide) rfl) rfl 2 (by decide) (hts (.fieldLink RX0 29 "BallotLoom$Box" "candidates" "I") (by decide +kernel)) (fun _ h9 => h9) rfl dX0_addCandidate_1 ?_
  refine lv_topi (fun y1 ey1 => ?_)
  have hF := bv_at ey1 hF
  refine lv_istore_n (lv' := [(2, .int y1), (0, .ref (aa 1)), (1, .int xa)]) hx hb dX0_addCandidate_4 rfl hl (by decide) rfl (fun ls hl => ?_)
  refine lv_aload_n hx hb dX0_addCandidate_5 rfl (lv_at hl 1 rfl) ?_
  refine va_get (D := (dC, dI)) (ci := 2) (v := .ref (aa 2)) (C := RX0) (T := TX0) (N := 11) hx hb hts hinX0 hown hK hP 1 (bw_at (i := 1) (by decide) rfl) rfl 0 (by decide) (hts (.fieldLink RX0 9 "BallotLoom$Box" "partyOf" "[I") (by decide +kernel)) (fun _ h9 => h9) rfl dX0_addCandidate_6 ?_
  refine lv_iload_n hx hb dX0_addCandidate_9 rfl (lv_at hl 0 rfl) ?_
  refine lv_iload_n hx hb dX0_addCandidate_10 rfl (lv_at hl 2 rfl) ?_
  obtain ⟨hg2, hF⟩ := gd_some hF
  obtain ⟨Z3, eZ3, hF⟩ := bv_some hF
  refine va_iast hx hb hK hP hD hS 2 0 (at_i (by decide) (fun _ _ => rfl)) rfl hg2 dX0_addCandidate_11 (fun H locs hP hD hS => ?_)
  have eW := wz_i (q := q) (aa := aa) (i := 2) (fun _ _ => rfl) eZ3
  have hP : va_P (dC, dI) vwCl (bw q aa Z3) H := eW ▸ hP
  have hD : va_D A (bw q aa Z3) := eW ▸ hD
  clear eW
  refine lv_aload_n hx hb dX0_addCandidate_12 rfl (lv_at hl 1 rfl) ?_
  refine va_get (D := (dC, dI)) (ci := 2) (v := .ref (aa 3)) (C := RX0) (T := TX0) (N := 11) hx hb hts hinX0 hown hK hP 1 (bw_at (i := 1) (by decide) rfl) rfl 1 (by decide) (hts (.fieldLink RX0 15 "BallotLoom$Box" "stands" "[Z") (by decide +kernel)) (fun _ h9 => h9) rfl dX0_addCandidate_13 ?_
  refine lv_iload_n hx hb dX0_addCandidate_16 rfl (lv_at hl 0 rfl) ?_
  refine lv_iconst (v := 1) hx hb dX0_addCandidate_17 (by decide) ?_
  obtain ⟨Z4, eZ4, hF⟩ := bv_some hF
  refine va_zast hx hb hK hP hD hS 3 1 (at_i (by decide) (fun _ _ => rfl)) rfl hg2 dX0_addCandidate_18 (fun H locs hP hD hS => ?_)
  have eW := wz_i (q := q) (aa := aa) (i := 3) (fun _ _ => rfl) eZ4
  have hP : va_P (dC, dI) vwCl (bw q aa Z4) H := eW ▸ hP
  have hD : va_D A (bw q aa Z4) := eW ▸ hD
  clear eW
  refine lv_aload_n hx hb dX0_addCandidate_19 rfl (lv_at hl 1 rfl) ?_
  refine lv_dup hx hb dX0_addCandidate_20 rfl ?_
  refine va_get (D := (dC, dI)) (ci := 2) (v := .int (Z4.1 1 2)) (C := RX0) (T := TX0) (N := 11) hx hb hts hinX0 hown hK hP 1 (bw_at (i := 1) (by decide) rfl) rfl 2 (by decide) (hts (.fieldLink RX0 29 "BallotLoom$Box" "candidates" "I") (by decide +kernel)) (fun _ h9 => h9) rfl dX0_addCandidate_21 ?_
  refine lv_topi (fun y5 ey5 => ?_)
  have hF := bv_at ey5 hF
  refine lv_iconst (v := 1) hx hb dX0_addCandidate_24 (by decide) ?_
  refine lv_iadd hx hb dX0_addCandidate_25 ?_
  refine lv_topi (fun y6 ey6 => ?_)
  have hF := bv_at ey6 hF
  obtain ⟨Z7, eZ7, hF⟩ := bv_some hF
  refine va_put (D := (dC, dI)) (ci := 2) (v := .int y6) (ty := .int) (C := RX0) (T := TX0) (N := 11) hx hb hts hinX0 tyX0 tyX0_ok nmX0 hown hK hP hD hS 1 (bw_at (i := 1) (by decide) rfl) rfl 2 (by decide) (hts (.fieldLink RX0 29 "BallotLoom$Box" "candidates" "I") (by decide +kernel)) (fun _ h9 => h9) rfl (by decide +kernel) rfl rfl (Nat.le_of_ble_eq_true rfl) dX0_addCandidate_26 (fun H locs hP hD hS => ?_)
  have eW := wz_o (q := q) (aa := aa) (i := 1) (ci := 2) (fs := [.ref (aa 2), .ref (aa 3), .int y6, .int (Z4.1 1 3), .ref (aa 4), .int (Z4.1 1 5), .ref (aa 5), .int (Z4.1 1 7), .int (Z4.1 1 8), .int (Z4.1 1 9), .int (Z4.1 1 10)]) rfl eZ7
  have hP : va_P (dC, dI) vwCl (bw q aa Z7) H := eW ▸ hP
  have hD : va_D A (bw q aa Z7) := eW ▸ hD
  clear eW
  refine lv_aload_n hx hb dX0_addCandidate_29 rfl (lv_at hl 1 rfl) ?_
  refine lv_dup hx hb dX0_addCandidate_30 rfl ?_
  refine va_get (D := (dC, dI)) (ci := 2) (v := .int (Z7.1 1 3)) (C := RX0) (T := TX0) (N := 11) hx hb hts hinX0 hown hK hP 1 (bw_at (i := 1) (by decide) rfl) rfl 3 (by decide) (hts (.fieldLink RX0 33 "BallotLoom$Box" "standing" "I") (by decide +kernel)) (fun _ h9 => h9) rfl dX0_addCandidate_31 ?_
  refine lv_topi (fun y8 ey8 => ?_)
  have hF := bv_at ey8 hF
  refine lv_iconst (v := 1) hx hb dX0_addCandidate_34 (by decide) ?_
  refine lv_iadd hx hb dX0_addCandidate_35 ?_
  refine lv_topi (fun y9 ey9 => ?_)
  have hF := bv_at ey9 hF
  obtain ⟨Z10, eZ10, hF⟩ := bv_some hF
  refine va_put (D := (dC, dI)) (ci := 2) (v := .int y9) (ty := .int) (C := RX0) (T := TX0) (N := 11) hx hb hts hinX0 tyX0 tyX0_ok nmX0 hown hK hP hD hS 1 (bw_at (i := 1) (by decide) rfl) rfl 3 (by decide) (hts (.fieldLink RX0 33 "BallotLoom$Box" "standing" "I") (by decide +kernel)) (fun _ h9 => h9) rfl (by decide +kernel) rfl rfl (Nat.le_of_ble_eq_true rfl) dX0_addCandidate_36 (fun H locs hP hD hS => ?_)
  have eW := wz_o (q := q) (aa := aa) (i := 1) (ci := 2) (fs := [.ref (aa 2), .ref (aa 3), .int (Z7.1 1 2), .int y9, .ref (aa 4), .int (Z7.1 1 5), .ref (aa 5), .int (Z7.1 1 7), .int (Z7.1 1 8), .int (Z7.1 1 9), .int (Z7.1 1 10)]) rfl eZ10
  have hP : va_P (dC, dI) vwCl (bw q aa Z10) H := eW ▸ hP
  have hD : va_D A (bw q aa Z10) := eW ▸ hD
  clear eW
  refine lv_iload_n hx hb dX0_addCandidate_39 rfl (lv_at hl 0 rfl) ?_
  obtain ⟨e8, e9⟩ := some2 hF
  rw [← e8] at hP hD
  subst hQ
  exact W.iret (v := y1) hx hb hr (fun t ht hW => ⟨⟨y1, (), rfl, e9.symm, po_mk ht hW hP hK hD⟩, hS.F ht⟩) hS.2.2 dX0_addCandidate_40

noncomputable def F_X0_addDistrict (Z : Mem) (xa : Int32) : Option (Mem × Int32) :=
  bv (Z.1 1 5) fun y1 => gd (¬ (y1 < 0 ∨ 4 ≤ ix y1)) <| bv (si Z 4 (ix y1) xa) fun Z3 => bv (Z3.1 1 5) fun y4 => bv (y4 + (1 : Int32)) fun y5 => bv (si Z3 1 5 y5) fun Z6 => some (Z6, y1)

set_option maxHeartbeats 4000000 in
set_option maxRecDepth 100000 in
theorem c_X0_addDistrict (l : Launch) (dC : Nat → ClassId) (dI : Nat → Nat → Nat) (q : Nat → ClassId) (aa : Nat → Nat) (Z : Mem) (xa : Int32)  (sz : Nat) (Zo : Mem) (ro : Int32) (hF : F_X0_addDistrict Z xa = some (Zo, ro)) : Met l yX0_addDistrict wsX0_addDistrict ({ frames := 2, cells := 0, slots := 0, locals := 40 }) (va_Pc [.ref (aa 1), .int xa] (pr_ dC dI (bw q aa Z) (bty q) sz)) (va_Qi (fun (r : Int32) (_ : Unit) => r = ro) (fun (_ : Unit) t => po_ dC dI (bw q aa Zo) (bty q) (va_A (bw q aa Z) sz) t) (va_A (bw q aa Z) sz)) 0 0 (va_A (bw q aa Z) sz) := by
  refine Met.ofW (cc := cX0_addDistrict) (maxL := 3) (ret := (some .int)) (by decide) rfl ?_
  intro p e s m args below meth c s₁ B hml hv
  obtain ⟨hargs, hsz, hP, hK, hD0⟩ := hv
  have hx := B.exec
  have hb := B.bytes
  have hr := B.returns
  have hts := atoms_spec (ws := wsX0_addDistrict) B.pre
  have hown : s.vm.findClass RX0 = some m.cls := findClass_of_methodNamed B.named
  have hlocks := B.notSynchronized
  subst hsz
  have hD := hD0.self (sz := s.heap.size)
  generalize hAe : va_A (bw q aa Z) s.heap.size = A at hD ⊢
  have hA : ∀ x : Nat, s.heap.size ≤ x → A x := fun x h => by rw [← hAe]; exact Or.inr h
  have hS : va_S A s.heap s.heap [] := va_S.rf
  have hinX0 : ∀ w ∈ u_ws RX0 TX0 11, w ∈ wsX0_addDistrict := by decide +kernel
  have hl := lv_entry ([.ref (aa 1), .int xa]) (n := 3) (Nat.le_of_ble_eq_true rfl)
  refine w_ent hargs ?_
  rw [lg_entry_eq]
  generalize (lg_sl ([.ref (aa 1), .int xa]) ++ List.replicate (3 - (lg_sl ([.ref (aa 1), .int xa])).length) Slot.unset).toArray = ls at hl ⊢
  have hl : lv_has ls 3 [(0, .ref (aa 1)), (1, .int xa)] := hl
  unfold F_X0_addDistrict at hF
  refine w_go (fun Q hQ => ?_)
  refine lv_aload_n hx hb dX0_addDistrict_0 rfl (lv_at hl 0 rfl) ?_
  refine va_get (D := (dC, dI)) (ci := 2) (v := .int (Z.1 1 5)) (C := RX0) (T := TX0) (N := 11) hx hb hts hinX0 hown hK hP 1 (bw_at (i := 1) (by decide) rfl) rfl 5 (by decide) (hts (.fieldLink RX0 36 "BallotLoom$Box" "districts" "I") (by decide +kernel)) (fun _ h9 => h9) rfl dX0_addDistrict_1 ?_
  refine lv_topi (fun y1 ey1 => ?_)
  have hF := bv_at ey1 hF
  refine lv_istore_n (lv' := [(2, .int y1), (0, .ref (aa 1)), (1, .int xa)]) hx hb dX0_addDistrict_4 rfl hl (by decide) rfl (fun ls hl => ?_)
  refine lv_aload_n hx hb dX0_addDistrict_5 rfl (lv_at hl 1 rfl) ?_
  refine va_get (D := (dC, dI)) (ci := 2) (v := .ref (aa 4)) (C := RX0) (T := TX0) (N := 11) hx hb hts hinX0 hown hK hP 1 (bw_at (i := 1) (by decide) rfl) rfl 4 (by decide) (hts (.fieldLink RX0 19 "BallotLoom$Box" "seatsOf" "[I") (by decide +kernel)) (fun _ h9 => h9) rfl dX0_addDistrict_6 ?_
  refine lv_iload_n hx hb dX0_addDistrict_9 rfl (lv_at hl 0 rfl) ?_
  refine lv_iload_n hx hb dX0_addDistrict_10 rfl (lv_at hl 2 rfl) ?_
  obtain ⟨hg2, hF⟩ := gd_some hF
  obtain ⟨Z3, eZ3, hF⟩ := bv_some hF
  refine va_iast hx hb hK hP hD hS 4 0 (at_i (by decide) (fun _ _ => rfl)) rfl hg2 dX0_addDistrict_11 (fun H locs hP hD hS => ?_)
  have eW := wz_i (q := q) (aa := aa) (i := 4) (fun _ _ => rfl) eZ3
  have hP : va_P (dC, dI) vwCl (bw q aa Z3) H := eW ▸ hP
  have hD : va_D A (bw q aa Z3) := eW ▸ hD
  clear eW
  refine lv_aload_n hx hb dX0_addDistrict_12 rfl (lv_at hl 1 rfl) ?_
  refine lv_dup hx hb dX0_addDistrict_13 rfl ?_
  refine va_get (D := (dC, dI)) (ci := 2) (v := .int (Z3.1 1 5)) (C := RX0) (T := TX0) (N := 11) hx hb hts hinX0 hown hK hP 1 (bw_at (i := 1) (by decide) rfl) rfl 5 (by decide) (hts (.fieldLink RX0 36 "BallotLoom$Box" "districts" "I") (by decide +kernel)) (fun _ h9 => h9) rfl dX0_addDistrict_14 ?_
  refine lv_topi (fun y4 ey4 => ?_)
  have hF := bv_at ey4 hF
  refine lv_iconst (v := 1) hx hb dX0_addDistrict_17 (by decide) ?_
  refine lv_iadd hx hb dX0_addDistrict_18 ?_
  refine lv_topi (fun y5 ey5 => ?_)
  have hF := bv_at ey5 hF
  obtain ⟨Z6, eZ6, hF⟩ := bv_some hF
  refine va_put (D := (dC, dI)) (ci := 2) (v := .int y5) (ty := .int) (C := RX0) (T := TX0) (N := 11) hx hb hts hinX0 tyX0 tyX0_ok nmX0 hown hK hP hD hS 1 (bw_at (i := 1) (by decide) rfl) rfl 5 (by decide) (hts (.fieldLink RX0 36 "BallotLoom$Box" "districts" "I") (by decide +kernel)) (fun _ h9 => h9) rfl (by decide +kernel) rfl rfl (Nat.le_of_ble_eq_true rfl) dX0_addDistrict_19 (fun H locs hP hD hS => ?_)
  have eW := wz_o (q := q) (aa := aa) (i := 1) (ci := 2) (fs := [.ref (aa 2), .ref (aa 3), .int (Z3.1 1 2), .int (Z3.1 1 3), .ref (aa 4), .int y5, .ref (aa 5), .int (Z3.1 1 7), .int (Z3.1 1 8), .int (Z3.1 1 9), .int (Z3.1 1 10)]) rfl eZ6
  have hP : va_P (dC, dI) vwCl (bw q aa Z6) H := eW ▸ hP
  have hD : va_D A (bw q aa Z6) := eW ▸ hD
  clear eW
  refine lv_iload_n hx hb dX0_addDistrict_22 rfl (lv_at hl 0 rfl) ?_
  obtain ⟨e8, e9⟩ := some2 hF
  rw [← e8] at hP hD
  subst hQ
  exact W.iret (v := y1) hx hb hr (fun t ht hW => ⟨⟨y1, (), rfl, e9.symm, po_mk ht hW hP hK hD⟩, hS.F ht⟩) hS.2.2 dX0_addDistrict_23

noncomputable def F_X0_addStack (Z : Mem) (xa : Int32) (xb : Int32) (xc : Int32) : Option (Mem × Int32) :=
  bv (Z.1 1 7) fun y1 => gd (¬ (y1 < 0 ∨ 24 ≤ ix y1)) <| bv (si Z (39 + (ix y1)) 0 xa) fun Z4 => bv (si Z4 (39 + (ix y1)) 2 xc) fun Z5 => cal (F_X3_setRanks Z5 (ix y1) xb) fun Z7 _ => bv (Z7.1 1 7) fun y9 => bv (y9 + (1 : Int32)) fun y10 => bv (si Z7 1 7 y10) fun Z11 => some (Z11, y1)

set_option maxHeartbeats 4000000 in
set_option maxRecDepth 100000 in
theorem c_X0_addStack (l : Launch) (dC : Nat → ClassId) (dI : Nat → Nat → Nat) (q : Nat → ClassId) (aa : Nat → Nat) (Z : Mem) (xa : Int32) (xb : Int32) (xc : Int32)  (sz : Nat) (Zo : Mem) (ro : Int32) (hF : F_X0_addStack Z xa xb xc = some (Zo, ro)) : Met l yX0_addStack wsX0_addStack ({ frames := 5, cells := 0, slots := 0, locals := 107 }) (va_Pc [.ref (aa 1), .int xa, .int xb, .int xc] (pr_ dC dI (bw q aa Z) (bty q) sz)) (va_Qi (fun (r : Int32) (_ : Unit) => r = ro) (fun (_ : Unit) t => po_ dC dI (bw q aa Zo) (bty q) (va_A (bw q aa Z) sz) t) (va_A (bw q aa Z) sz)) 0 0 (va_A (bw q aa Z) sz) := by
  refine Met.ofW (cc := cX0_addStack) (maxL := 6) (ret := (some .int)) (by decide) rfl ?_
  intro p e s m args below meth c s₁ B hml hv
  obtain ⟨hargs, hsz, hP, hK, hD0⟩ := hv
  have hx := B.exec
  have hb := B.bytes
  have hr := B.returns
  have hts := atoms_spec (ws := wsX0_addStack) B.pre
  have hown : s.vm.findClass RX0 = some m.cls := findClass_of_methodNamed B.named
  have hlocks := B.notSynchronized
  subst hsz
  have hD := hD0.self (sz := s.heap.size)
  generalize hAe : va_A (bw q aa Z) s.heap.size = A at hD ⊢
  have hA : ∀ x : Nat, s.heap.size ≤ x → A x := fun x h => by rw [← hAe]; exact Or.inr h
  have hS : va_S A s.heap s.heap [] := va_S.rf
  have hinX0 : ∀ w ∈ u_ws RX0 TX0 11, w ∈ wsX0_addStack := by decide +kernel
  have hinX3 : ∀ w ∈ u_ws RX3 TX3 7, w ∈ wsX0_addStack := by decide +kernel
  have hl := lv_entry ([.ref (aa 1), .int xa, .int xb, .int xc]) (n := 6) (Nat.le_of_ble_eq_true rfl)
  refine w_ent hargs ?_
  rw [lg_entry_eq]
  generalize (lg_sl ([.ref (aa 1), .int xa, .int xb, .int xc]) ++ List.replicate (6 - (lg_sl ([.ref (aa 1), .int xa, .int xb, .int xc])).length) Slot.unset).toArray = ls at hl ⊢
  have hl : lv_has ls 6 [(0, .ref (aa 1)), (1, .int xa), (2, .int xb), (3, .int xc)] := hl
  unfold F_X0_addStack at hF
  refine w_go (fun Q hQ => ?_)
  refine lv_aload_n hx hb dX0_addStack_0 rfl (lv_at hl 0 rfl) ?_
  refine va_get (D := (dC, dI)) (ci := 2) (v := .int (Z.1 1 7)) (C := RX0) (T := TX0) (N := 11) hx hb hts hinX0 hown hK hP 1 (bw_at (i := 1) (by decide) rfl) rfl 7 (by decide) (hts (.fieldLink RX0 39 "BallotLoom$Box" "cast" "I") (by decide +kernel)) (fun _ h9 => h9) rfl dX0_addStack_1 ?_
  refine lv_topi (fun y1 ey1 => ?_)
  have hF := bv_at ey1 hF
  refine lv_istore (lv' := [(4, .int y1), (0, .ref (aa 1)), (1, .int xa), (2, .int xb), (3, .int xc)]) hx hb dX0_addStack_4 hl (by decide) rfl (fun ls hl => ?_)
  refine lv_aload_n hx hb dX0_addStack_6 rfl (lv_at hl 1 rfl) ?_
  refine va_get (D := (dC, dI)) (ci := 2) (v := .ref (aa 5)) (C := RX0) (T := TX0) (N := 11) hx hb hts hinX0 hown hK hP 1 (bw_at (i := 1) (by decide) rfl) rfl 6 (by decide) (hts (.fieldLink RX0 24 "BallotLoom$Box" "stacks" "[LBallotLoom$Stack;") (by decide +kernel)) (fun _ h9 => h9) rfl dX0_addStack_7 ?_
  refine lv_iload hx hb dX0_addStack_10 (lv_at hl 0 rfl) ?_
  obtain ⟨hg2, hF⟩ := gd_some hF
  have hk3 : ix y1 < 25 := in_lt hg2 (by decide)
  refine bq_ald (v := (aa (39 + (ix y1)))) (hty := rfl) hx hb hK hP 5 3 (at_q (by decide) (fun _ _ => rfl)) rfl hg2 (if_pos (in_lt hg2 (Nat.le_refl _))) dX0_addStack_12 ?_
  refine lv_astore (lv' := [(5, .ref (aa (39 + (ix y1)))), (4, .int y1), (0, .ref (aa 1)), (1, .int xa), (2, .int xb), (3, .int xc)]) hx hb dX0_addStack_13 hl (by decide) rfl (fun ls hl => ?_)
  refine lv_aload hx hb dX0_addStack_15 (lv_at hl 0 rfl) ?_
  refine lv_iload_n hx hb dX0_addStack_17 rfl (lv_at hl 3 rfl) ?_
  obtain ⟨Z4, eZ4, hF⟩ := bv_some hF
  refine va_put (D := (dC, dI)) (ci := 5) (v := .int xa) (ty := .int) (C := RX3) (T := TX3) (N := 7) hx hb hts hinX3 tyX3 tyX3_ok nmX3 hown hK hP hD hS (39 + (ix y1)) (bw_at (i := 39 + (ix y1)) (by omega) (bk_stk hk3 _ _)) rfl 0 (by decide) (hts (.fieldLink RX0 42 "BallotLoom$Stack" "district" "I") (by decide +kernel)) (fun _ h9 => h9) rfl (by decide +kernel) rfl rfl (Nat.le_of_ble_eq_true rfl) dX0_addStack_18 (fun H locs hP hD hS => ?_)
  have eW := wz_o (q := q) (aa := aa) (i := (39 + (ix y1))) (ci := 5) (fs := [.int xa, .int (Z.1 (39 + (ix y1)) 1), .int (Z.1 (39 + (ix y1)) 2), .int (Z.1 (39 + (ix y1)) 3), .ref (aa (64 + (ix y1))), .int (Z.1 (39 + (ix y1)) 5), .double (Z.2 (39 + (ix y1)) 6)]) (bk_stk hk3 _ _) eZ4
  have hP : va_P (dC, dI) vwCl (bw q aa Z4) H := eW ▸ hP
  have hD : va_D A (bw q aa Z4) := eW ▸ hD
  clear eW
  refine lv_aload hx hb dX0_addStack_21 (lv_at hl 0 rfl) ?_
  refine lv_iload_n hx hb dX0_addStack_23 rfl (lv_at hl 5 rfl) ?_
  obtain ⟨Z5, eZ5, hF⟩ := bv_some hF
  refine va_put (D := (dC, dI)) (ci := 5) (v := .int xc) (ty := .int) (C := RX3) (T := TX3) (N := 7) hx hb hts hinX3 tyX3 tyX3_ok nmX3 hown hK hP hD hS (39 + (ix y1)) (bw_at (i := 39 + (ix y1)) (by omega) (bk_stk hk3 _ _)) rfl 2 (by decide) (hts (.fieldLink RX0 45 "BallotLoom$Stack" "count" "I") (by decide +kernel)) (fun _ h9 => h9) rfl (by decide +kernel) rfl rfl (Nat.le_of_ble_eq_true rfl) dX0_addStack_24 (fun H locs hP hD hS => ?_)
  have eW := wz_o (q := q) (aa := aa) (i := (39 + (ix y1))) (ci := 5) (fs := [.int (Z4.1 (39 + (ix y1)) 0), .int (Z4.1 (39 + (ix y1)) 1), .int xc, .int (Z4.1 (39 + (ix y1)) 3), .ref (aa (64 + (ix y1))), .int (Z4.1 (39 + (ix y1)) 5), .double (Z4.2 (39 + (ix y1)) 6)]) (bk_stk hk3 _ _) eZ5
  have hP : va_P (dC, dI) vwCl (bw q aa Z5) H := eW ▸ hP
  have hD : va_D A (bw q aa Z5) := eW ▸ hD
  clear eW
  refine lv_aload hx hb dX0_addStack_27 (lv_at hl 0 rfl) ?_
  refine lv_iload_n hx hb dX0_addStack_29 rfl (lv_at hl 4 rfl) ?_
  refine lv_aload_n hx hb dX0_addStack_30 rfl (lv_at hl 2 rfl) ?_
  obtain ⟨Z7, _, hC6, hF⟩ := cal_some hF
  have hFc := b_free (ws := bw q aa Z5) hD hS hA
  refine va_callv (va_runV (As := [.int xb, .ref (aa 1)]) (rest := []) ⟨hx, hb, hml, hown, hts⟩ (c_X3_setRanks l dC dI q aa Z5 (ix y1) xb hk3 _ _ _  hC6) (cwV 2 hts gX0_addStack_X3_setRanks rfl rfl rfl (by decide +kernel) ⟨Nat.le_of_ble_eq_true rfl, Nat.le_of_ble_eq_true rfl⟩) ⟨pr_blind, va_recv hK hP (ci := 5) (q0 := (39 + (ix y1))) rfl (bw_at (i := 39 + (ix y1)) (by omega) (bk_stk hk3 _ _)), fun U hU hW => ⟨rfl, pr_mk hU hW hP hK hD⟩⟩ rfl rfl hl.1 rfl (lv_room (Nat.le_of_ble_eq_true rfl)) dX0_addStack_31 ⟨Nat.le_of_ble_eq_true rfl, Nat.le_of_ble_eq_true rfl⟩) hS (fun x _ h => hFc x h) hFc (fun u t H1 locs ht hvm hw hB hz1 hk1 hS => ?_)
  obtain ⟨hP, hK1, hD1⟩ := hB
  rw [ht] at hP
  have hD := hD1.weaken (fun _ q9 _ h9 => hFc q9.1 h9)
  clear hFc hD1 hK1 hvm hz1 hk1
  generalize H1 = H at hP hS ⊢
  refine W.widen (k := 0) (n := 0) (Nat.le_refl _) (Nat.le_refl _) ?_
  refine lv_aload_n hx hb dX0_addStack_34 rfl (lv_at hl 2 rfl) ?_
  refine lv_dup hx hb dX0_addStack_35 rfl ?_
  refine va_get (D := (dC, dI)) (ci := 2) (v := .int (Z7.1 1 7)) (C := RX0) (T := TX0) (N := 11) hx hb hts hinX0 hown hK hP 1 (bw_at (i := 1) (by decide) rfl) rfl 7 (by decide) (hts (.fieldLink RX0 39 "BallotLoom$Box" "cast" "I") (by decide +kernel)) (fun _ h9 => h9) rfl dX0_addStack_36 ?_
  refine lv_topi (fun y9 ey9 => ?_)
  have hF := bv_at ey9 hF
  refine lv_iconst (v := 1) hx hb dX0_addStack_39 (by decide) ?_
  refine lv_iadd hx hb dX0_addStack_40 ?_
  refine lv_topi (fun y10 ey10 => ?_)
  have hF := bv_at ey10 hF
  obtain ⟨Z11, eZ11, hF⟩ := bv_some hF
  refine va_put (D := (dC, dI)) (ci := 2) (v := .int y10) (ty := .int) (C := RX0) (T := TX0) (N := 11) hx hb hts hinX0 tyX0 tyX0_ok nmX0 hown hK hP hD hS 1 (bw_at (i := 1) (by decide) rfl) rfl 7 (by decide) (hts (.fieldLink RX0 39 "BallotLoom$Box" "cast" "I") (by decide +kernel)) (fun _ h9 => h9) rfl (by decide +kernel) rfl rfl (Nat.le_of_ble_eq_true rfl) dX0_addStack_41 (fun H locs hP hD hS => ?_)
  have eW := wz_o (q := q) (aa := aa) (i := 1) (ci := 2) (fs := [.ref (aa 2), .ref (aa 3), .int (Z7.1 1 2), .int (Z7.1 1 3), .ref (aa 4), .int (Z7.1 1 5), .ref (aa 5), .int y10, .int (Z7.1 1 8), .int (Z7.1 1 9), .int (Z7.1 1 10)]) rfl eZ11
  have hP : va_P (dC, dI) vwCl (bw q aa Z11) H := eW ▸ hP
  have hD : va_D A (bw q aa Z11) := eW ▸ hD
  clear eW
  refine lv_iload hx hb dX0_addStack_44 (lv_at hl 1 rfl) ?_
  obtain ⟨e8, e9⟩ := some2 hF
  rw [← e8] at hP hD
  subst hQ
  exact W.iret (v := y1) hx hb hr (fun t ht hW => ⟨⟨y1, (), rfl, e9.symm, po_mk ht hW hP hK hD⟩, hS.F ht⟩) hS.2.2 dX0_addStack_46

noncomputable def F_X0_takeOff_x19 (Z6 : Mem) : Option (Mem × Unit) :=
  some (Z6, ())

noncomputable def F_X0_takeOff_l19 (K_19 : Mem → Option (Mem × Unit)) : Nat → Mem → Int32 → Option (Mem × Unit)
  | 0, _, _ => none
  | n19 + 1, Z8, u7 =>
  bv (Z8.1 1 7) fun y9 => br (y9 ≤ u7) (K_19 Z8) (gd (¬ (u7 < 0 ∨ 24 ≤ ix u7)) <| cal (F_X3_makeList Z8 (ix u7)) fun Z14 _ => (F_X0_takeOff_l19 K_19 n19) Z14 (u7 + (1 : Int32)))

noncomputable def F_X0_takeOff (Z : Mem) (xa : Int32) : Option (Mem × Unit) :=
  gd (¬ (xa < 0 ∨ 6 ≤ ix xa)) <| bv (si Z 3 (ix xa) (vp_nar .boolean (0 : Int32))) fun Z2 => bv (Z2.1 1 3) fun y3 => bv (y3 - (1 : Int32)) fun y4 => bv (si Z2 1 3 y4) fun Z5 => F_X0_takeOff_l19 F_X0_takeOff_x19 100 Z5 (0 : Int32)

set_option maxHeartbeats 4000000 in
set_option maxRecDepth 100000 in
theorem c_X0_takeOff (l : Launch) (dC : Nat → ClassId) (dI : Nat → Nat → Nat) (q : Nat → ClassId) (aa : Nat → Nat) (Z : Mem) (xa : Int32)  (sz : Nat) (Zo : Mem) (ro : Unit) (hF : F_X0_takeOff Z xa = some (Zo, ro)) : Met l yX0_takeOff wsX0_takeOff ({ frames := 4, cells := 0, slots := 0, locals := 85 }) (va_Pc [.ref (aa 1), .int xa] (pr_ dC dI (bw q aa Z) (bty q) sz)) (va_Qv (fun (_ : Unit) => True) (fun (_ : Unit) t => po_ dC dI (bw q aa Zo) (bty q) (va_A (bw q aa Z) sz) t) (va_A (bw q aa Z) sz)) 0 0 (va_A (bw q aa Z) sz) := by
  refine Met.ofW (cc := cX0_takeOff) (maxL := 3) (ret := none) (by decide) rfl ?_
  intro p e s m args below meth c s₁ B hml hv
  obtain ⟨hargs, hsz, hP, hK, hD0⟩ := hv
  have hx := B.exec
  have hb := B.bytes
  have hr := B.returns
  have hts := atoms_spec (ws := wsX0_takeOff) B.pre
  have hown : s.vm.findClass RX0 = some m.cls := findClass_of_methodNamed B.named
  have hlocks := B.notSynchronized
  subst hsz
  have hD := hD0.self (sz := s.heap.size)
  generalize hAe : va_A (bw q aa Z) s.heap.size = A at hD ⊢
  have hA : ∀ x : Nat, s.heap.size ≤ x → A x := fun x h => by rw [← hAe]; exact Or.inr h
  have hS : va_S A s.heap s.heap [] := va_S.rf
  have hinX0 : ∀ w ∈ u_ws RX0 TX0 11, w ∈ wsX0_takeOff := by decide +kernel
  have hl := lv_entry ([.ref (aa 1), .int xa]) (n := 3) (Nat.le_of_ble_eq_true rfl)
  refine w_ent hargs ?_
  rw [lg_entry_eq]
  generalize (lg_sl ([.ref (aa 1), .int xa]) ++ List.replicate (3 - (lg_sl ([.ref (aa 1), .int xa])).length) Slot.unset).toArray = ls at hl ⊢
  have hl : lv_has ls 3 [(0, .ref (aa 1)), (1, .int xa)] := hl
  unfold F_X0_takeOff at hF
  refine w_go (fun Q hQ => ?_)
  refine lv_aload_n hx hb dX0_takeOff_0 rfl (lv_at hl 0 rfl) ?_
  refine va_get (D := (dC, dI)) (ci := 2) (v := .ref (aa 3)) (C := RX0) (T := TX0) (N := 11) hx hb hts hinX0 hown hK hP 1 (bw_at (i := 1) (by decide) rfl) rfl 1 (by decide) (hts (.fieldLink RX0 15 "BallotLoom$Box" "stands" "[Z") (by decide +kernel)) (fun _ h9 => h9) rfl dX0_takeOff_1 ?_
  refine lv_iload_n hx hb dX0_takeOff_4 rfl (lv_at hl 1 rfl) ?_
  refine lv_iconst (v := 0) hx hb dX0_takeOff_5 (by decide) ?_
  obtain ⟨hg1, hF⟩ := gd_some hF
  obtain ⟨Z2, eZ2, hF⟩ := bv_some hF
  refine va_zast hx hb hK hP hD hS 3 1 (at_i (by decide) (fun _ _ => rfl)) rfl hg1 dX0_takeOff_6 (fun H locs hP hD hS => ?_)
  have eW := wz_i (q := q) (aa := aa) (i := 3) (fun _ _ => rfl) eZ2
  have hP : va_P (dC, dI) vwCl (bw q aa Z2) H := eW ▸ hP
  have hD : va_D A (bw q aa Z2) := eW ▸ hD
  clear eW
  refine lv_aload_n hx hb dX0_takeOff_7 rfl (lv_at hl 0 rfl) ?_
  refine lv_dup hx hb dX0_takeOff_8 rfl ?_
  refine va_get (D := (dC, dI)) (ci := 2) (v := .int (Z2.1 1 3)) (C := RX0) (T := TX0) (N := 11) hx hb hts hinX0 hown hK hP 1 (bw_at (i := 1) (by decide) rfl) rfl 3 (by decide) (hts (.fieldLink RX0 33 "BallotLoom$Box" "standing" "I") (by decide +kernel)) (fun _ h9 => h9) rfl dX0_takeOff_9 ?_
  refine lv_topi (fun y3 ey3 => ?_)
  have hF := bv_at ey3 hF
  refine lv_iconst (v := 1) hx hb dX0_takeOff_12 (by decide) ?_
  refine lv_isub hx hb dX0_takeOff_13 ?_
  refine lv_topi (fun y4 ey4 => ?_)
  have hF := bv_at ey4 hF
  obtain ⟨Z5, eZ5, hF⟩ := bv_some hF
  refine va_put (D := (dC, dI)) (ci := 2) (v := .int y4) (ty := .int) (C := RX0) (T := TX0) (N := 11) hx hb hts hinX0 tyX0 tyX0_ok nmX0 hown hK hP hD hS 1 (bw_at (i := 1) (by decide) rfl) rfl 3 (by decide) (hts (.fieldLink RX0 33 "BallotLoom$Box" "standing" "I") (by decide +kernel)) (fun _ h9 => h9) rfl (by decide +kernel) rfl rfl (Nat.le_of_ble_eq_true rfl) dX0_takeOff_14 (fun H locs hP hD hS => ?_)
  have eW := wz_o (q := q) (aa := aa) (i := 1) (ci := 2) (fs := [.ref (aa 2), .ref (aa 3), .int (Z2.1 1 2), .int y4, .ref (aa 4), .int (Z2.1 1 5), .ref (aa 5), .int (Z2.1 1 7), .int (Z2.1 1 8), .int (Z2.1 1 9), .int (Z2.1 1 10)]) rfl eZ5
  have hP : va_P (dC, dI) vwCl (bw q aa Z5) H := eW ▸ hP
  have hD : va_D A (bw q aa Z5) := eW ▸ hD
  clear eW
  refine lv_iconst (v := 0) hx hb dX0_takeOff_17 (by decide) ?_
  refine lv_istore_n (lv' := [(2, .int 0), (0, .ref (aa 1)), (1, .int xa)]) hx hb dX0_takeOff_18 rfl hl (by decide) rfl (fun ls hl => ?_)
  have Jx19 : ∀ (Z6 : Mem) (H : Heap) (locs : List Loc) (ls : Array Slot), F_X0_takeOff_x19 Z6 = some (Zo, ro) → va_P (dC, dI) vwCl (bw q aa Z6) H → va_D A (bw q aa Z6) → va_S A s.heap H locs → lv_has ls 3 [] → W p l e (headSpec wsX0_takeOff ({ frames := 4, cells := 0, slots := 0, locals := 85 } : Room)).room s m args below meth c H locs 0 0 Q (F0 m 43 ls []) := by
    intro Z6 H locs ls hF hP hD hS hl
    unfold F_X0_takeOff_x19 at hF
    obtain ⟨e8, e9⟩ := some2 hF
    rw [← e8] at hP hD
    subst hQ
    exact W.vret hx hb hr (fun t ht hW => ⟨⟨(), rfl, trivial, po_mk ht hW hP hK hD⟩, hS.F ht⟩) hS.2.2 dX0_takeOff_43
  have L19 : ∀ (n19 : Nat) (Z8 : Mem) (u7 : Int32) (H : Heap) (locs : List Loc) (ls : Array Slot), F_X0_takeOff_l19 F_X0_takeOff_x19 n19 Z8 u7 = some (Zo, ro) → va_P (dC, dI) vwCl (bw q aa Z8) H → va_D A (bw q aa Z8) → va_S A s.heap H locs → lv_has ls 3 [(2, .int u7), (0, .ref (aa 1))] → W p l e (headSpec wsX0_takeOff ({ frames := 4, cells := 0, slots := 0, locals := 85 } : Room)).room s m args below meth c H locs 0 0 Q (F0 m 19 ls []) := by
    intro n19
    induction n19 with
    | zero =>
      intro Z8 u7 H locs ls hF
      rw [F_X0_takeOff_l19] at hF
      cases hF
    | succ n19 IH19 =>
      intro Z8 u7 H locs ls hF hP hD hS hl
      rw [F_X0_takeOff_l19] at hF
      refine lv_iload_n hx hb dX0_takeOff_19 rfl (lv_at hl 0 rfl) ?_
      refine lv_aload_n hx hb dX0_takeOff_20 rfl (lv_at hl 1 rfl) ?_
      refine va_get (D := (dC, dI)) (ci := 2) (v := .int (Z8.1 1 7)) (C := RX0) (T := TX0) (N := 11) hx hb hts hinX0 hown hK hP 1 (bw_at (i := 1) (by decide) rfl) rfl 7 (by decide) (hts (.fieldLink RX0 39 "BallotLoom$Box" "cast" "I") (by decide +kernel)) (fun _ h9 => h9) rfl dX0_takeOff_21 ?_
      refine lv_topi (fun y9 ey9 => ?_)
      have hF := bv_at ey9 hF
      refine lv_icmp_ge (tgt := 43) hx hb dX0_takeOff_24 (by decide) (fun hc10 => ?_) (fun hc10 => ?_)
      · have hF := br_pos hc10 hF
        exact Jx19 Z8 _ _ _ hF hP hD hS (lv_sub hl [] rfl)
      · have hF := br_neg hc10 hF
        refine lv_aload_n hx hb dX0_takeOff_27 rfl (lv_at hl 1 rfl) ?_
        refine va_get (D := (dC, dI)) (ci := 2) (v := .ref (aa 5)) (C := RX0) (T := TX0) (N := 11) hx hb hts hinX0 hown hK hP 1 (bw_at (i := 1) (by decide) rfl) rfl 6 (by decide) (hts (.fieldLink RX0 24 "BallotLoom$Box" "stacks" "[LBallotLoom$Stack;") (by decide +kernel)) (fun _ h9 => h9) rfl dX0_takeOff_28 ?_
        refine lv_iload_n hx hb dX0_takeOff_31 rfl (lv_at hl 0 rfl) ?_
        obtain ⟨hg11, hF⟩ := gd_some hF
        have hk12 : ix u7 < 25 := in_lt hg11 (by decide)
        refine bq_ald (v := (aa (39 + (ix u7)))) (hty := rfl) hx hb hK hP 5 3 (at_q (by decide) (fun _ _ => rfl)) rfl hg11 (if_pos (in_lt hg11 (Nat.le_refl _))) dX0_takeOff_32 ?_
        refine lv_aload_n hx hb dX0_takeOff_33 rfl (lv_at hl 1 rfl) ?_
        obtain ⟨Z14, _, hC13, hF⟩ := cal_some hF
        have hFc := b_free (ws := bw q aa Z8) hD hS hA
        refine va_callv (va_runV (As := [.ref (aa 1)]) (rest := []) ⟨hx, hb, hml, hown, hts⟩ (c_X3_makeList l dC dI q aa Z8 (ix u7) hk12 _ _ _  hC13) (cwV 1 hts gX0_takeOff_X3_makeList rfl rfl rfl (by decide +kernel) ⟨Nat.le_of_ble_eq_true rfl, Nat.le_of_ble_eq_true rfl⟩) ⟨pr_blind, va_recv hK hP (ci := 5) (q0 := (39 + (ix u7))) rfl (bw_at (i := 39 + (ix u7)) (by omega) (bk_stk hk12 _ _)), fun U hU hW => ⟨rfl, pr_mk hU hW hP hK hD⟩⟩ rfl rfl hl.1 rfl (lv_room (Nat.le_of_ble_eq_true rfl)) dX0_takeOff_34 ⟨Nat.le_of_ble_eq_true rfl, Nat.le_of_ble_eq_true rfl⟩) hS (fun x _ h => hFc x h) hFc (fun u t H1 locs ht hvm hw hB hz1 hk1 hS => ?_)
        obtain ⟨hP, hK1, hD1⟩ := hB
        rw [ht] at hP
        have hD := hD1.weaken (fun _ q9 _ h9 => hFc q9.1 h9)
        clear hFc hD1 hK1 hvm hz1 hk1
        generalize H1 = H at hP hS ⊢
        refine W.widen (k := 0) (n := 0) (Nat.le_refl _) (Nat.le_refl _) ?_
        refine lv_iinc (k := 0) (v := (u7 + (1 : Int32))) (lv' := [(2, .int (u7 + (1 : Int32))), (0, .ref (aa 1))]) hx hb dX0_takeOff_37 hl rfl (ii_ _ _ _ (by decide)) (by decide) rfl (fun ls hl => ?_)
        refine lv_goto (tgt := 19) hx hb dX0_takeOff_40 (by decide) ?_
        exact IH19 Z14 (u7 + (1 : Int32)) _ _ _ hF hP hD hS (lv_sub hl [0, 1] rfl)
  exact L19 100 Z5 (0 : Int32) _ _ _ hF hP hD hS (lv_sub hl [0, 1] rfl)

noncomputable def F_X0_standingOf_x4 (w1 : Int32) : Option Int32 :=
  some w1

noncomputable def F_X0_standingOf_l4 (Z : Mem) (xa : Int32) (K_4 : Int32 → Option Int32) : Nat → Int32 → Int32 → Option Int32
  | 0, _, _ => none
  | n4 + 1, u2, u3 =>
  bv (Z.1 1 2) fun y4 => br (y4 ≤ u3) (K_4 u2) (gd (¬ (u3 < 0 ∨ 6 ≤ ix u3)) <| bv (Z.1 3 (ix u3)) fun y7 => br (y7 = (0 : Int32)) ((F_X0_standingOf_l4 Z xa K_4 n4) u2 (u3 + (1 : Int32))) (bv (Z.1 2 (ix u3)) fun y9 => br (y9 = xa) ((F_X0_standingOf_l4 Z xa K_4 n4) (u2 + (1 : Int32)) (u3 + (1 : Int32))) ((F_X0_standingOf_l4 Z xa K_4 n4) u2 (u3 + (1 : Int32)))))

noncomputable def F_X0_standingOf (Z : Mem) (xa : Int32) : Option Int32 :=
  F_X0_standingOf_l4 Z xa F_X0_standingOf_x4 100 (0 : Int32) (0 : Int32)

set_option maxHeartbeats 4000000 in
set_option maxRecDepth 100000 in
theorem c_X0_standingOf (l : Launch) (dC : Nat → ClassId) (dI : Nat → Nat → Nat) (q : Nat → ClassId) (aa : Nat → Nat) (Z : Mem) (xa : Int32)  (sz : Nat) (ro : Int32) (hF : F_X0_standingOf Z xa = some ro) : Met l yX0_standingOf wsX0_standingOf ({ frames := 2, cells := 0, slots := 0, locals := 40 }) (va_Pc [.ref (aa 1), .int xa] (pr_ dC dI (bw q aa Z) (bty q) sz)) (va_Qi (fun (r : Int32) (_ : Unit) => r = ro) (fun (_ : Unit) t => po_ dC dI (bw q aa Z) (bty q) (va_A (bw q aa Z) sz) t) (va_A (bw q aa Z) sz)) 0 0 (va_A (bw q aa Z) sz) := by
  refine Met.ofW (cc := cX0_standingOf) (maxL := 4) (ret := (some .int)) (by decide) rfl ?_
  intro p e s m args below meth c s₁ B hml hv
  obtain ⟨hargs, hsz, hP, hK, hD0⟩ := hv
  have hx := B.exec
  have hb := B.bytes
  have hr := B.returns
  have hts := atoms_spec (ws := wsX0_standingOf) B.pre
  have hown : s.vm.findClass RX0 = some m.cls := findClass_of_methodNamed B.named
  have hlocks := B.notSynchronized
  subst hsz
  have hD := hD0.self (sz := s.heap.size)
  generalize hAe : va_A (bw q aa Z) s.heap.size = A at hD ⊢
  have hA : ∀ x : Nat, s.heap.size ≤ x → A x := fun x h => by rw [← hAe]; exact Or.inr h
  have hS : va_S A s.heap s.heap [] := va_S.rf
  have hinX0 : ∀ w ∈ u_ws RX0 TX0 11, w ∈ wsX0_standingOf := by decide +kernel
  have hl := lv_entry ([.ref (aa 1), .int xa]) (n := 4) (Nat.le_of_ble_eq_true rfl)
  refine w_ent hargs ?_
  rw [lg_entry_eq]
  generalize (lg_sl ([.ref (aa 1), .int xa]) ++ List.replicate (4 - (lg_sl ([.ref (aa 1), .int xa])).length) Slot.unset).toArray = ls at hl ⊢
  have hl : lv_has ls 4 [(0, .ref (aa 1)), (1, .int xa)] := hl
  unfold F_X0_standingOf at hF
  refine w_go (fun Q hQ => ?_)
  refine lv_iconst (v := 0) hx hb dX0_standingOf_0 (by decide) ?_
  refine lv_istore_n (lv' := [(2, .int 0), (0, .ref (aa 1)), (1, .int xa)]) hx hb dX0_standingOf_1 rfl hl (by decide) rfl (fun ls hl => ?_)
  refine lv_iconst (v := 0) hx hb dX0_standingOf_2 (by decide) ?_
  refine lv_istore_n (lv' := [(3, .int 0), (2, .int 0), (0, .ref (aa 1)), (1, .int xa)]) hx hb dX0_standingOf_3 rfl hl (by decide) rfl (fun ls hl => ?_)
  have Jx4 : ∀ (w1 : Int32) (H : Heap) (locs : List Loc) (ls : Array Slot), F_X0_standingOf_x4 w1 = some ro → va_P (dC, dI) vwCl (bw q aa Z) H → va_D A (bw q aa Z) → va_S A s.heap H locs → lv_has ls 4 [(2, .int w1)] → W p l e (headSpec wsX0_standingOf ({ frames := 2, cells := 0, slots := 0, locals := 40 } : Room)).room s m args below meth c H locs 0 0 Q (F0 m 40 ls []) := by
    intro w1 H locs ls hF hP hD hS hl
    unfold F_X0_standingOf_x4 at hF
    refine lv_iload_n hx hb dX0_standingOf_40 rfl (lv_at hl 0 rfl) ?_
    have e9 := some1 hF
    subst hQ
    exact W.iret (v := w1) hx hb hr (fun t ht hW => ⟨⟨w1, (), rfl, e9.symm, po_mk ht hW hP hK hD⟩, hS.F ht⟩) hS.2.2 dX0_standingOf_41
  have L4 : ∀ (n4 : Nat) (u2 : Int32) (u3 : Int32) (H : Heap) (locs : List Loc) (ls : Array Slot), F_X0_standingOf_l4 Z xa F_X0_standingOf_x4 n4 u2 u3 = some ro → va_P (dC, dI) vwCl (bw q aa Z) H → va_D A (bw q aa Z) → va_S A s.heap H locs → lv_has ls 4 [(3, .int u3), (2, .int u2), (0, .ref (aa 1)), (1, .int xa)] → W p l e (headSpec wsX0_standingOf ({ frames := 2, cells := 0, slots := 0, locals := 40 } : Room)).room s m args below meth c H locs 0 0 Q (F0 m 4 ls []) := by
    intro n4
    induction n4 with
    | zero =>
      intro u2 u3 H locs ls hF
      rw [F_X0_standingOf_l4] at hF
      cases hF
    | succ n4 IH4 =>
      intro u2 u3 H locs ls hF hP hD hS hl
      rw [F_X0_standingOf_l4] at hF
      refine lv_iload_n hx hb dX0_standingOf_4 rfl (lv_at hl 0 rfl) ?_
      refine lv_aload_n hx hb dX0_standingOf_5 rfl (lv_at hl 2 rfl) ?_
      refine va_get (D := (dC, dI)) (ci := 2) (v := .int (Z.1 1 2)) (C := RX0) (T := TX0) (N := 11) hx hb hts hinX0 hown hK hP 1 (bw_at (i := 1) (by decide) rfl) rfl 2 (by decide) (hts (.fieldLink RX0 29 "BallotLoom$Box" "candidates" "I") (by decide +kernel)) (fun _ h9 => h9) rfl dX0_standingOf_6 ?_
      refine lv_topi (fun y4 ey4 => ?_)
      have hF := bv_at ey4 hF
      refine lv_icmp_ge (tgt := 40) hx hb dX0_standingOf_9 (by decide) (fun hc5 => ?_) (fun hc5 => ?_)
      · have hF := br_pos hc5 hF
        exact Jx4 u2 _ _ _ hF hP hD hS (lv_sub hl [1] rfl)
      · have hF := br_neg hc5 hF
        refine lv_aload_n hx hb dX0_standingOf_12 rfl (lv_at hl 2 rfl) ?_
        refine va_get (D := (dC, dI)) (ci := 2) (v := .ref (aa 3)) (C := RX0) (T := TX0) (N := 11) hx hb hts hinX0 hown hK hP 1 (bw_at (i := 1) (by decide) rfl) rfl 1 (by decide) (hts (.fieldLink RX0 15 "BallotLoom$Box" "stands" "[Z") (by decide +kernel)) (fun _ h9 => h9) rfl dX0_standingOf_13 ?_
        refine lv_iload_n hx hb dX0_standingOf_16 rfl (lv_at hl 0 rfl) ?_
        obtain ⟨hg6, hF⟩ := gd_some hF
        refine va_zald hx hb hK hP 3 1 (at_i (by decide) (fun _ _ => rfl)) rfl hg6 dX0_standingOf_17 ?_
        refine lv_topi (fun y7 ey7 => ?_)
        have hF := bv_at ey7 hF
        refine lv_if_eq (tgt := 34) hx hb dX0_standingOf_18 (by decide) (fun hc8 => ?_) (fun hc8 => ?_)
        · have hF := br_pos hc8 hF
          refine lv_iinc (k := 0) (v := (u3 + (1 : Int32))) (lv' := [(3, .int (u3 + (1 : Int32))), (2, .int u2), (0, .ref (aa 1)), (1, .int xa)]) hx hb dX0_standingOf_34 hl rfl (ii_ _ _ _ (by decide)) (by decide) rfl (fun ls hl => ?_)
          refine lv_goto (tgt := 4) hx hb dX0_standingOf_37 (by decide) ?_
          exact IH4 u2 (u3 + (1 : Int32)) _ _ _ hF hP hD hS (lv_sub hl [0, 1, 2, 3] rfl)
        · have hF := br_neg hc8 hF
          refine lv_aload_n hx hb dX0_standingOf_21 rfl (lv_at hl 2 rfl) ?_
          refine va_get (D := (dC, dI)) (ci := 2) (v := .ref (aa 2)) (C := RX0) (T := TX0) (N := 11) hx hb hts hinX0 hown hK hP 1 (bw_at (i := 1) (by decide) rfl) rfl 0 (by decide) (hts (.fieldLink RX0 9 "BallotLoom$Box" "partyOf" "[I") (by decide +kernel)) (fun _ h9 => h9) rfl dX0_standingOf_22 ?_
          refine lv_iload_n hx hb dX0_standingOf_25 rfl (lv_at hl 0 rfl) ?_
          refine va_iald hx hb hK hP 2 0 (at_i (by decide) (fun _ _ => rfl)) rfl hg6 dX0_standingOf_26 ?_
          refine lv_topi (fun y9 ey9 => ?_)
          have hF := bv_at ey9 hF
          refine lv_iload_n hx hb dX0_standingOf_27 rfl (lv_at hl 3 rfl) ?_
          refine lv_icmp_ne (tgt := 34) hx hb dX0_standingOf_28 (by decide) (fun hc10 => ?_) (fun hc10 => ?_)
          · have hF := br_neg hc10 hF
            refine lv_iinc (k := 0) (v := (u3 + (1 : Int32))) (lv' := [(3, .int (u3 + (1 : Int32))), (2, .int u2), (0, .ref (aa 1)), (1, .int xa)]) hx hb dX0_standingOf_34 hl rfl (ii_ _ _ _ (by decide)) (by decide) rfl (fun ls hl => ?_)
            refine lv_goto (tgt := 4) hx hb dX0_standingOf_37 (by decide) ?_
            exact IH4 u2 (u3 + (1 : Int32)) _ _ _ hF hP hD hS (lv_sub hl [0, 1, 2, 3] rfl)
          · have hF := br_pos hc10 hF
            refine lv_iinc (k := 1) (v := (u2 + (1 : Int32))) (lv' := [(2, .int (u2 + (1 : Int32))), (3, .int u3), (0, .ref (aa 1)), (1, .int xa)]) hx hb dX0_standingOf_31 hl rfl (ii_ _ _ _ (by decide)) (by decide) rfl (fun ls hl => ?_)
            refine lv_iinc (k := 1) (v := (u3 + (1 : Int32))) (lv' := [(3, .int (u3 + (1 : Int32))), (2, .int (u2 + (1 : Int32))), (0, .ref (aa 1)), (1, .int xa)]) hx hb dX0_standingOf_34 hl rfl (ii_ _ _ _ (by decide)) (by decide) rfl (fun ls hl => ?_)
            refine lv_goto (tgt := 4) hx hb dX0_standingOf_37 (by decide) ?_
            exact IH4 (u2 + (1 : Int32)) (u3 + (1 : Int32)) _ _ _ hF hP hD hS (lv_sub hl [0, 1, 2, 3] rfl)
  exact L4 100 (0 : Int32) (0 : Int32) _ _ _ hF hP hD hS (lv_sub hl [0, 1, 2, 3] rfl)

noncomputable def F_X0_spoiledStacks_x4 (w1 : Int32) : Option Int32 :=
  some w1

noncomputable def F_X0_spoiledStacks_l4 (Z : Mem) (K_4 : Int32 → Option Int32) : Nat → Int32 → Int32 → Option Int32
  | 0, _, _ => none
  | n4 + 1, u2, u3 =>
  bv (Z.1 1 7) fun y4 => br (y4 ≤ u3) (K_4 u2) (gd (¬ (u3 < 0 ∨ 24 ≤ ix u3)) <| bv (Z.1 (39 + (ix u3)) 3) fun y8 => br (y8 = (0 : Int32)) ((F_X0_spoiledStacks_l4 Z K_4 n4) u2 (u3 + (1 : Int32))) ((F_X0_spoiledStacks_l4 Z K_4 n4) (u2 + (1 : Int32)) (u3 + (1 : Int32))))

noncomputable def F_X0_spoiledStacks (Z : Mem) : Option Int32 :=
  F_X0_spoiledStacks_l4 Z F_X0_spoiledStacks_x4 100 (0 : Int32) (0 : Int32)

set_option maxHeartbeats 4000000 in
set_option maxRecDepth 100000 in
theorem c_X0_spoiledStacks (l : Launch) (dC : Nat → ClassId) (dI : Nat → Nat → Nat) (q : Nat → ClassId) (aa : Nat → Nat) (Z : Mem)   (sz : Nat) (ro : Int32) (hF : F_X0_spoiledStacks Z  = some ro) : Met l yX0_spoiledStacks wsX0_spoiledStacks ({ frames := 2, cells := 0, slots := 0, locals := 40 }) (va_Pc [.ref (aa 1)] (pr_ dC dI (bw q aa Z) (bty q) sz)) (va_Qi (fun (r : Int32) (_ : Unit) => r = ro) (fun (_ : Unit) t => po_ dC dI (bw q aa Z) (bty q) (va_A (bw q aa Z) sz) t) (va_A (bw q aa Z) sz)) 0 0 (va_A (bw q aa Z) sz) := by
  refine Met.ofW (cc := cX0_spoiledStacks) (maxL := 3) (ret := (some .int)) (by decide) rfl ?_
  intro p e s m args below meth c s₁ B hml hv
  obtain ⟨hargs, hsz, hP, hK, hD0⟩ := hv
  have hx := B.exec
  have hb := B.bytes
  have hr := B.returns
  have hts := atoms_spec (ws := wsX0_spoiledStacks) B.pre
  have hown : s.vm.findClass RX0 = some m.cls := findClass_of_methodNamed B.named
  have hlocks := B.notSynchronized
  subst hsz
  have hD := hD0.self (sz := s.heap.size)
  generalize hAe : va_A (bw q aa Z) s.heap.size = A at hD ⊢
  have hA : ∀ x : Nat, s.heap.size ≤ x → A x := fun x h => by rw [← hAe]; exact Or.inr h
  have hS : va_S A s.heap s.heap [] := va_S.rf
  have hinX0 : ∀ w ∈ u_ws RX0 TX0 11, w ∈ wsX0_spoiledStacks := by decide +kernel
  have hinX3 : ∀ w ∈ u_ws RX3 TX3 7, w ∈ wsX0_spoiledStacks := by decide +kernel
  have hl := lv_entry ([.ref (aa 1)]) (n := 3) (Nat.le_of_ble_eq_true rfl)
  refine w_ent hargs ?_
  rw [lg_entry_eq]
  generalize (lg_sl ([.ref (aa 1)]) ++ List.replicate (3 - (lg_sl ([.ref (aa 1)])).length) Slot.unset).toArray = ls at hl ⊢
  have hl : lv_has ls 3 [(0, .ref (aa 1))] := hl
  unfold F_X0_spoiledStacks at hF
  refine w_go (fun Q hQ => ?_)
  refine lv_iconst (v := 0) hx hb dX0_spoiledStacks_0 (by decide) ?_
  refine lv_istore_n (lv' := [(1, .int 0), (0, .ref (aa 1))]) hx hb dX0_spoiledStacks_1 rfl hl (by decide) rfl (fun ls hl => ?_)
  refine lv_iconst (v := 0) hx hb dX0_spoiledStacks_2 (by decide) ?_
  refine lv_istore_n (lv' := [(2, .int 0), (1, .int 0), (0, .ref (aa 1))]) hx hb dX0_spoiledStacks_3 rfl hl (by decide) rfl (fun ls hl => ?_)
  have Jx4 : ∀ (w1 : Int32) (H : Heap) (locs : List Loc) (ls : Array Slot), F_X0_spoiledStacks_x4 w1 = some ro → va_P (dC, dI) vwCl (bw q aa Z) H → va_D A (bw q aa Z) → va_S A s.heap H locs → lv_has ls 3 [(1, .int w1)] → W p l e (headSpec wsX0_spoiledStacks ({ frames := 2, cells := 0, slots := 0, locals := 40 } : Room)).room s m args below meth c H locs 0 0 Q (F0 m 33 ls []) := by
    intro w1 H locs ls hF hP hD hS hl
    unfold F_X0_spoiledStacks_x4 at hF
    refine lv_iload_n hx hb dX0_spoiledStacks_33 rfl (lv_at hl 0 rfl) ?_
    have e9 := some1 hF
    subst hQ
    exact W.iret (v := w1) hx hb hr (fun t ht hW => ⟨⟨w1, (), rfl, e9.symm, po_mk ht hW hP hK hD⟩, hS.F ht⟩) hS.2.2 dX0_spoiledStacks_34
  have L4 : ∀ (n4 : Nat) (u2 : Int32) (u3 : Int32) (H : Heap) (locs : List Loc) (ls : Array Slot), F_X0_spoiledStacks_l4 Z F_X0_spoiledStacks_x4 n4 u2 u3 = some ro → va_P (dC, dI) vwCl (bw q aa Z) H → va_D A (bw q aa Z) → va_S A s.heap H locs → lv_has ls 3 [(2, .int u3), (1, .int u2), (0, .ref (aa 1))] → W p l e (headSpec wsX0_spoiledStacks ({ frames := 2, cells := 0, slots := 0, locals := 40 } : Room)).room s m args below meth c H locs 0 0 Q (F0 m 4 ls []) := by
    intro n4
    induction n4 with
    | zero =>
      intro u2 u3 H locs ls hF
      rw [F_X0_spoiledStacks_l4] at hF
      cases hF
    | succ n4 IH4 =>
      intro u2 u3 H locs ls hF hP hD hS hl
      rw [F_X0_spoiledStacks_l4] at hF
      refine lv_iload_n hx hb dX0_spoiledStacks_4 rfl (lv_at hl 0 rfl) ?_
      refine lv_aload_n hx hb dX0_spoiledStacks_5 rfl (lv_at hl 2 rfl) ?_
      refine va_get (D := (dC, dI)) (ci := 2) (v := .int (Z.1 1 7)) (C := RX0) (T := TX0) (N := 11) hx hb hts hinX0 hown hK hP 1 (bw_at (i := 1) (by decide) rfl) rfl 7 (by decide) (hts (.fieldLink RX0 39 "BallotLoom$Box" "cast" "I") (by decide +kernel)) (fun _ h9 => h9) rfl dX0_spoiledStacks_6 ?_
      refine lv_topi (fun y4 ey4 => ?_)
      have hF := bv_at ey4 hF
      refine lv_icmp_ge (tgt := 33) hx hb dX0_spoiledStacks_9 (by decide) (fun hc5 => ?_) (fun hc5 => ?_)
      · have hF := br_pos hc5 hF
        exact Jx4 u2 _ _ _ hF hP hD hS (lv_sub hl [1] rfl)
      · have hF := br_neg hc5 hF
        refine lv_aload_n hx hb dX0_spoiledStacks_12 rfl (lv_at hl 2 rfl) ?_
        refine va_get (D := (dC, dI)) (ci := 2) (v := .ref (aa 5)) (C := RX0) (T := TX0) (N := 11) hx hb hts hinX0 hown hK hP 1 (bw_at (i := 1) (by decide) rfl) rfl 6 (by decide) (hts (.fieldLink RX0 24 "BallotLoom$Box" "stacks" "[LBallotLoom$Stack;") (by decide +kernel)) (fun _ h9 => h9) rfl dX0_spoiledStacks_13 ?_
        refine lv_iload_n hx hb dX0_spoiledStacks_16 rfl (lv_at hl 0 rfl) ?_
        obtain ⟨hg6, hF⟩ := gd_some hF
        have hk7 : ix u3 < 25 := in_lt hg6 (by decide)
        refine bq_ald (v := (aa (39 + (ix u3)))) (hty := rfl) hx hb hK hP 5 3 (at_q (by decide) (fun _ _ => rfl)) rfl hg6 (if_pos (in_lt hg6 (Nat.le_refl _))) dX0_spoiledStacks_17 ?_
        refine va_get (D := (dC, dI)) (ci := 5) (v := .int (Z.1 (39 + (ix u3)) 3)) (C := RX3) (T := TX3) (N := 7) hx hb hts hinX3 hown hK hP (39 + (ix u3)) (bw_at (i := 39 + (ix u3)) (by omega) (bk_stk hk7 _ _)) rfl 3 (by decide) (hts (.fieldLink RX0 56 "BallotLoom$Stack" "isSpoiled" "Z") (by decide +kernel)) (fun _ h9 => h9) rfl dX0_spoiledStacks_18 ?_
        refine lv_topi (fun y8 ey8 => ?_)
        have hF := bv_at ey8 hF
        refine lv_if_eq (tgt := 27) hx hb dX0_spoiledStacks_21 (by decide) (fun hc9 => ?_) (fun hc9 => ?_)
        · have hF := br_pos hc9 hF
          refine lv_iinc (k := 0) (v := (u3 + (1 : Int32))) (lv' := [(2, .int (u3 + (1 : Int32))), (1, .int u2), (0, .ref (aa 1))]) hx hb dX0_spoiledStacks_27 hl rfl (ii_ _ _ _ (by decide)) (by decide) rfl (fun ls hl => ?_)
          refine lv_goto (tgt := 4) hx hb dX0_spoiledStacks_30 (by decide) ?_
          exact IH4 u2 (u3 + (1 : Int32)) _ _ _ hF hP hD hS (lv_sub hl [0, 1, 2] rfl)
        · have hF := br_neg hc9 hF
          refine lv_iinc (k := 1) (v := (u2 + (1 : Int32))) (lv' := [(1, .int (u2 + (1 : Int32))), (2, .int u3), (0, .ref (aa 1))]) hx hb dX0_spoiledStacks_24 hl rfl (ii_ _ _ _ (by decide)) (by decide) rfl (fun ls hl => ?_)
          refine lv_iinc (k := 1) (v := (u3 + (1 : Int32))) (lv' := [(2, .int (u3 + (1 : Int32))), (1, .int (u2 + (1 : Int32))), (0, .ref (aa 1))]) hx hb dX0_spoiledStacks_27 hl rfl (ii_ _ _ _ (by decide)) (by decide) rfl (fun ls hl => ?_)
          refine lv_goto (tgt := 4) hx hb dX0_spoiledStacks_30 (by decide) ?_
          exact IH4 (u2 + (1 : Int32)) (u3 + (1 : Int32)) _ _ _ hF hP hD hS (lv_sub hl [0, 1, 2] rfl)
  exact L4 100 (0 : Int32) (0 : Int32) _ _ _ hF hP hD hS (lv_sub hl [0, 1, 2] rfl)

noncomputable def F_X0_allCounts_x4 (w1 : Int32) : Option Int32 :=
  some w1

noncomputable def F_X0_allCounts_l4 (Z : Mem) (K_4 : Int32 → Option Int32) : Nat → Int32 → Int32 → Option Int32
  | 0, _, _ => none
  | n4 + 1, u2, u3 =>
  bv (Z.1 1 7) fun y4 => br (y4 ≤ u3) (K_4 u2) (gd (¬ (u3 < 0 ∨ 24 ≤ ix u3)) <| bv (Z.1 (39 + (ix u3)) 2) fun y8 => bv (u2 + y8) fun y9 => (F_X0_allCounts_l4 Z K_4 n4) y9 (u3 + (1 : Int32)))

noncomputable def F_X0_allCounts (Z : Mem) : Option Int32 :=
  F_X0_allCounts_l4 Z F_X0_allCounts_x4 100 (0 : Int32) (0 : Int32)

set_option maxHeartbeats 4000000 in
set_option maxRecDepth 100000 in
theorem c_X0_allCounts (l : Launch) (dC : Nat → ClassId) (dI : Nat → Nat → Nat) (q : Nat → ClassId) (aa : Nat → Nat) (Z : Mem)   (sz : Nat) (ro : Int32) (hF : F_X0_allCounts Z  = some ro) : Met l yX0_allCounts wsX0_allCounts ({ frames := 2, cells := 0, slots := 0, locals := 40 }) (va_Pc [.ref (aa 1)] (pr_ dC dI (bw q aa Z) (bty q) sz)) (va_Qi (fun (r : Int32) (_ : Unit) => r = ro) (fun (_ : Unit) t => po_ dC dI (bw q aa Z) (bty q) (va_A (bw q aa Z) sz) t) (va_A (bw q aa Z) sz)) 0 0 (va_A (bw q aa Z) sz) := by
  refine Met.ofW (cc := cX0_allCounts) (maxL := 3) (ret := (some .int)) (by decide) rfl ?_
  intro p e s m args below meth c s₁ B hml hv
  obtain ⟨hargs, hsz, hP, hK, hD0⟩ := hv
  have hx := B.exec
  have hb := B.bytes
  have hr := B.returns
  have hts := atoms_spec (ws := wsX0_allCounts) B.pre
  have hown : s.vm.findClass RX0 = some m.cls := findClass_of_methodNamed B.named
  have hlocks := B.notSynchronized
  subst hsz
  have hD := hD0.self (sz := s.heap.size)
  generalize hAe : va_A (bw q aa Z) s.heap.size = A at hD ⊢
  have hA : ∀ x : Nat, s.heap.size ≤ x → A x := fun x h => by rw [← hAe]; exact Or.inr h
  have hS : va_S A s.heap s.heap [] := va_S.rf
  have hinX0 : ∀ w ∈ u_ws RX0 TX0 11, w ∈ wsX0_allCounts := by decide +kernel
  have hinX3 : ∀ w ∈ u_ws RX3 TX3 7, w ∈ wsX0_allCounts := by decide +kernel
  have hl := lv_entry ([.ref (aa 1)]) (n := 3) (Nat.le_of_ble_eq_true rfl)
  refine w_ent hargs ?_
  rw [lg_entry_eq]
  generalize (lg_sl ([.ref (aa 1)]) ++ List.replicate (3 - (lg_sl ([.ref (aa 1)])).length) Slot.unset).toArray = ls at hl ⊢
  have hl : lv_has ls 3 [(0, .ref (aa 1))] := hl
  unfold F_X0_allCounts at hF
  refine w_go (fun Q hQ => ?_)
  refine lv_iconst (v := 0) hx hb dX0_allCounts_0 (by decide) ?_
  refine lv_istore_n (lv' := [(1, .int 0), (0, .ref (aa 1))]) hx hb dX0_allCounts_1 rfl hl (by decide) rfl (fun ls hl => ?_)
  refine lv_iconst (v := 0) hx hb dX0_allCounts_2 (by decide) ?_
  refine lv_istore_n (lv' := [(2, .int 0), (1, .int 0), (0, .ref (aa 1))]) hx hb dX0_allCounts_3 rfl hl (by decide) rfl (fun ls hl => ?_)
  have Jx4 : ∀ (w1 : Int32) (H : Heap) (locs : List Loc) (ls : Array Slot), F_X0_allCounts_x4 w1 = some ro → va_P (dC, dI) vwCl (bw q aa Z) H → va_D A (bw q aa Z) → va_S A s.heap H locs → lv_has ls 3 [(1, .int w1)] → W p l e (headSpec wsX0_allCounts ({ frames := 2, cells := 0, slots := 0, locals := 40 } : Room)).room s m args below meth c H locs 0 0 Q (F0 m 30 ls []) := by
    intro w1 H locs ls hF hP hD hS hl
    unfold F_X0_allCounts_x4 at hF
    refine lv_iload_n hx hb dX0_allCounts_30 rfl (lv_at hl 0 rfl) ?_
    have e9 := some1 hF
    subst hQ
    exact W.iret (v := w1) hx hb hr (fun t ht hW => ⟨⟨w1, (), rfl, e9.symm, po_mk ht hW hP hK hD⟩, hS.F ht⟩) hS.2.2 dX0_allCounts_31
  have L4 : ∀ (n4 : Nat) (u2 : Int32) (u3 : Int32) (H : Heap) (locs : List Loc) (ls : Array Slot), F_X0_allCounts_l4 Z F_X0_allCounts_x4 n4 u2 u3 = some ro → va_P (dC, dI) vwCl (bw q aa Z) H → va_D A (bw q aa Z) → va_S A s.heap H locs → lv_has ls 3 [(2, .int u3), (1, .int u2), (0, .ref (aa 1))] → W p l e (headSpec wsX0_allCounts ({ frames := 2, cells := 0, slots := 0, locals := 40 } : Room)).room s m args below meth c H locs 0 0 Q (F0 m 4 ls []) := by
    intro n4
    induction n4 with
    | zero =>
      intro u2 u3 H locs ls hF
      rw [F_X0_allCounts_l4] at hF
      cases hF
    | succ n4 IH4 =>
      intro u2 u3 H locs ls hF hP hD hS hl
      rw [F_X0_allCounts_l4] at hF
      refine lv_iload_n hx hb dX0_allCounts_4 rfl (lv_at hl 0 rfl) ?_
      refine lv_aload_n hx hb dX0_allCounts_5 rfl (lv_at hl 2 rfl) ?_
      refine va_get (D := (dC, dI)) (ci := 2) (v := .int (Z.1 1 7)) (C := RX0) (T := TX0) (N := 11) hx hb hts hinX0 hown hK hP 1 (bw_at (i := 1) (by decide) rfl) rfl 7 (by decide) (hts (.fieldLink RX0 39 "BallotLoom$Box" "cast" "I") (by decide +kernel)) (fun _ h9 => h9) rfl dX0_allCounts_6 ?_
      refine lv_topi (fun y4 ey4 => ?_)
      have hF := bv_at ey4 hF
      refine lv_icmp_ge (tgt := 30) hx hb dX0_allCounts_9 (by decide) (fun hc5 => ?_) (fun hc5 => ?_)
      · have hF := br_pos hc5 hF
        exact Jx4 u2 _ _ _ hF hP hD hS (lv_sub hl [1] rfl)
      · have hF := br_neg hc5 hF
        refine lv_iload_n hx hb dX0_allCounts_12 rfl (lv_at hl 1 rfl) ?_
        refine lv_aload_n hx hb dX0_allCounts_13 rfl (lv_at hl 2 rfl) ?_
        refine va_get (D := (dC, dI)) (ci := 2) (v := .ref (aa 5)) (C := RX0) (T := TX0) (N := 11) hx hb hts hinX0 hown hK hP 1 (bw_at (i := 1) (by decide) rfl) rfl 6 (by decide) (hts (.fieldLink RX0 24 "BallotLoom$Box" "stacks" "[LBallotLoom$Stack;") (by decide +kernel)) (fun _ h9 => h9) rfl dX0_allCounts_14 ?_
        refine lv_iload_n hx hb dX0_allCounts_17 rfl (lv_at hl 0 rfl) ?_
        obtain ⟨hg6, hF⟩ := gd_some hF
        have hk7 : ix u3 < 25 := in_lt hg6 (by decide)
        refine bq_ald (v := (aa (39 + (ix u3)))) (hty := rfl) hx hb hK hP 5 3 (at_q (by decide) (fun _ _ => rfl)) rfl hg6 (if_pos (in_lt hg6 (Nat.le_refl _))) dX0_allCounts_18 ?_
        refine va_get (D := (dC, dI)) (ci := 5) (v := .int (Z.1 (39 + (ix u3)) 2)) (C := RX3) (T := TX3) (N := 7) hx hb hts hinX3 hown hK hP (39 + (ix u3)) (bw_at (i := 39 + (ix u3)) (by omega) (bk_stk hk7 _ _)) rfl 2 (by decide) (hts (.fieldLink RX0 45 "BallotLoom$Stack" "count" "I") (by decide +kernel)) (fun _ h9 => h9) rfl dX0_allCounts_19 ?_
        refine lv_topi (fun y8 ey8 => ?_)
        have hF := bv_at ey8 hF
        refine lv_iadd hx hb dX0_allCounts_22 ?_
        refine lv_topi (fun y9 ey9 => ?_)
        have hF := bv_at ey9 hF
        refine lv_istore_n (lv' := [(1, .int y9), (2, .int u3), (0, .ref (aa 1))]) hx hb dX0_allCounts_23 rfl hl (by decide) rfl (fun ls hl => ?_)
        refine lv_iinc (k := 1) (v := (u3 + (1 : Int32))) (lv' := [(2, .int (u3 + (1 : Int32))), (1, .int y9), (0, .ref (aa 1))]) hx hb dX0_allCounts_24 hl rfl (ii_ _ _ _ (by decide)) (by decide) rfl (fun ls hl => ?_)
        refine lv_goto (tgt := 4) hx hb dX0_allCounts_27 (by decide) ?_
        exact IH4 y9 (u3 + (1 : Int32)) _ _ _ hF hP hD hS (lv_sub hl [0, 1, 2] rfl)
  exact L4 100 (0 : Int32) (0 : Int32) _ _ _ hF hP hD hS (lv_sub hl [0, 1, 2] rfl)

noncomputable def F_X0_countsOfListsIn_x4 (w1 : Int32) : Option Int32 :=
  some w1

noncomputable def F_X0_countsOfListsIn_l4 (Z : Mem) (xa : Int32) (K_4 : Int32 → Option Int32) : Nat → Int32 → Int32 → Option Int32
  | 0, _, _ => none
  | n4 + 1, u2, u3 =>
  bv (Z.1 1 7) fun y4 => br (y4 ≤ u3) (K_4 u2) (gd (¬ (u3 < 0 ∨ 24 ≤ ix u3)) <| calp (F_X3_countsIn Z (ix u3) xa) fun rr10 => br (rr10 = (0 : Int32)) ((F_X0_countsOfListsIn_l4 Z xa K_4 n4) u2 (u3 + (1 : Int32))) (bv (Z.1 (39 + (ix u3)) 5) fun y13 => br (y13 ≤ (0 : Int32)) ((F_X0_countsOfListsIn_l4 Z xa K_4 n4) u2 (u3 + (1 : Int32))) (bv (Z.1 (39 + (ix u3)) 2) fun y16 => bv (u2 + y16) fun y17 => (F_X0_countsOfListsIn_l4 Z xa K_4 n4) y17 (u3 + (1 : Int32)))))

noncomputable def F_X0_countsOfListsIn (Z : Mem) (xa : Int32) : Option Int32 :=
  F_X0_countsOfListsIn_l4 Z xa F_X0_countsOfListsIn_x4 100 (0 : Int32) (0 : Int32)

set_option maxHeartbeats 4000000 in
set_option maxRecDepth 100000 in
theorem c_X0_countsOfListsIn (l : Launch) (dC : Nat → ClassId) (dI : Nat → Nat → Nat) (q : Nat → ClassId) (aa : Nat → Nat) (Z : Mem) (xa : Int32)  (sz : Nat) (ro : Int32) (hF : F_X0_countsOfListsIn Z xa = some ro) : Met l yX0_countsOfListsIn wsX0_countsOfListsIn ({ frames := 3, cells := 0, slots := 0, locals := 61 }) (va_Pc [.ref (aa 1), .int xa] (pr_ dC dI (bw q aa Z) (bty q) sz)) (va_Qi (fun (r : Int32) (_ : Unit) => r = ro) (fun (_ : Unit) t => po_ dC dI (bw q aa Z) (bty q) (va_A (bw q aa Z) sz) t) (va_A (bw q aa Z) sz)) 0 0 (va_A (bw q aa Z) sz) := by
  refine Met.ofW (cc := cX0_countsOfListsIn) (maxL := 4) (ret := (some .int)) (by decide) rfl ?_
  intro p e s m args below meth c s₁ B hml hv
  obtain ⟨hargs, hsz, hP, hK, hD0⟩ := hv
  have hx := B.exec
  have hb := B.bytes
  have hr := B.returns
  have hts := atoms_spec (ws := wsX0_countsOfListsIn) B.pre
  have hown : s.vm.findClass RX0 = some m.cls := findClass_of_methodNamed B.named
  have hlocks := B.notSynchronized
  subst hsz
  have hD := hD0.self (sz := s.heap.size)
  generalize hAe : va_A (bw q aa Z) s.heap.size = A at hD ⊢
  have hA : ∀ x : Nat, s.heap.size ≤ x → A x := fun x h => by rw [← hAe]; exact Or.inr h
  have hS : va_S A s.heap s.heap [] := va_S.rf
  have hinX0 : ∀ w ∈ u_ws RX0 TX0 11, w ∈ wsX0_countsOfListsIn := by decide +kernel
  have hinX3 : ∀ w ∈ u_ws RX3 TX3 7, w ∈ wsX0_countsOfListsIn := by decide +kernel
  have hl := lv_entry ([.ref (aa 1), .int xa]) (n := 4) (Nat.le_of_ble_eq_true rfl)
  refine w_ent hargs ?_
  rw [lg_entry_eq]
  generalize (lg_sl ([.ref (aa 1), .int xa]) ++ List.replicate (4 - (lg_sl ([.ref (aa 1), .int xa])).length) Slot.unset).toArray = ls at hl ⊢
  have hl : lv_has ls 4 [(0, .ref (aa 1)), (1, .int xa)] := hl
  unfold F_X0_countsOfListsIn at hF
  refine w_go (fun Q hQ => ?_)
  refine lv_iconst (v := 0) hx hb dX0_countsOfListsIn_0 (by decide) ?_
  refine lv_istore_n (lv' := [(2, .int 0), (0, .ref (aa 1)), (1, .int xa)]) hx hb dX0_countsOfListsIn_1 rfl hl (by decide) rfl (fun ls hl => ?_)
  refine lv_iconst (v := 0) hx hb dX0_countsOfListsIn_2 (by decide) ?_
  refine lv_istore_n (lv' := [(3, .int 0), (2, .int 0), (0, .ref (aa 1)), (1, .int xa)]) hx hb dX0_countsOfListsIn_3 rfl hl (by decide) rfl (fun ls hl => ?_)
  have Jx4 : ∀ (w1 : Int32) (H : Heap) (locs : List Loc) (ls : Array Slot), F_X0_countsOfListsIn_x4 w1 = some ro → va_P (dC, dI) vwCl (bw q aa Z) H → va_D A (bw q aa Z) → va_S A s.heap H locs → lv_has ls 4 [(2, .int w1)] → W p l e (headSpec wsX0_countsOfListsIn ({ frames := 3, cells := 0, slots := 0, locals := 61 } : Room)).room s m args below meth c H locs 0 0 Q (F0 m 55 ls []) := by
    intro w1 H locs ls hF hP hD hS hl
    unfold F_X0_countsOfListsIn_x4 at hF
    refine lv_iload_n hx hb dX0_countsOfListsIn_55 rfl (lv_at hl 0 rfl) ?_
    have e9 := some1 hF
    subst hQ
    exact W.iret (v := w1) hx hb hr (fun t ht hW => ⟨⟨w1, (), rfl, e9.symm, po_mk ht hW hP hK hD⟩, hS.F ht⟩) hS.2.2 dX0_countsOfListsIn_56
  have L4 : ∀ (n4 : Nat) (u2 : Int32) (u3 : Int32) (H : Heap) (locs : List Loc) (ls : Array Slot), F_X0_countsOfListsIn_l4 Z xa F_X0_countsOfListsIn_x4 n4 u2 u3 = some ro → va_P (dC, dI) vwCl (bw q aa Z) H → va_D A (bw q aa Z) → va_S A s.heap H locs → lv_has ls 4 [(3, .int u3), (2, .int u2), (0, .ref (aa 1)), (1, .int xa)] → W p l e (headSpec wsX0_countsOfListsIn ({ frames := 3, cells := 0, slots := 0, locals := 61 } : Room)).room s m args below meth c H locs 0 0 Q (F0 m 4 ls []) := by
    intro n4
    induction n4 with
    | zero =>
      intro u2 u3 H locs ls hF
      rw [F_X0_countsOfListsIn_l4] at hF
      cases hF
    | succ n4 IH4 =>
      intro u2 u3 H locs ls hF hP hD hS hl
      rw [F_X0_countsOfListsIn_l4] at hF
      refine lv_iload_n hx hb dX0_countsOfListsIn_4 rfl (lv_at hl 0 rfl) ?_
      refine lv_aload_n hx hb dX0_countsOfListsIn_5 rfl (lv_at hl 2 rfl) ?_
      refine va_get (D := (dC, dI)) (ci := 2) (v := .int (Z.1 1 7)) (C := RX0) (T := TX0) (N := 11) hx hb hts hinX0 hown hK hP 1 (bw_at (i := 1) (by decide) rfl) rfl 7 (by decide) (hts (.fieldLink RX0 39 "BallotLoom$Box" "cast" "I") (by decide +kernel)) (fun _ h9 => h9) rfl dX0_countsOfListsIn_6 ?_
      refine lv_topi (fun y4 ey4 => ?_)
      have hF := bv_at ey4 hF
      refine lv_icmp_ge (tgt := 55) hx hb dX0_countsOfListsIn_9 (by decide) (fun hc5 => ?_) (fun hc5 => ?_)
      · have hF := br_pos hc5 hF
        exact Jx4 u2 _ _ _ hF hP hD hS (lv_sub hl [1] rfl)
      · have hF := br_neg hc5 hF
        refine lv_aload_n hx hb dX0_countsOfListsIn_12 rfl (lv_at hl 2 rfl) ?_
        refine va_get (D := (dC, dI)) (ci := 2) (v := .ref (aa 5)) (C := RX0) (T := TX0) (N := 11) hx hb hts hinX0 hown hK hP 1 (bw_at (i := 1) (by decide) rfl) rfl 6 (by decide) (hts (.fieldLink RX0 24 "BallotLoom$Box" "stacks" "[LBallotLoom$Stack;") (by decide +kernel)) (fun _ h9 => h9) rfl dX0_countsOfListsIn_13 ?_
        refine lv_iload_n hx hb dX0_countsOfListsIn_16 rfl (lv_at hl 0 rfl) ?_
        obtain ⟨hg6, hF⟩ := gd_some hF
        have hk7 : ix u3 < 25 := in_lt hg6 (by decide)
        refine bq_ald (v := (aa (39 + (ix u3)))) (hty := rfl) hx hb hK hP 5 3 (at_q (by decide) (fun _ _ => rfl)) rfl hg6 (if_pos (in_lt hg6 (Nat.le_refl _))) dX0_countsOfListsIn_17 ?_
        refine lv_iload_n hx hb dX0_countsOfListsIn_18 rfl (lv_at hl 3 rfl) ?_
        obtain ⟨r9, hC8, hF⟩ := calp_some hF
        have hFc := b_free (ws := bw q aa Z) hD hS hA
        refine va_calli (va_runV (As := [.int xa]) (rest := []) ⟨hx, hb, hml, hown, hts⟩ (c_X3_countsIn l dC dI q aa Z (ix u3) xa hk7 _ _  hC8) (cwV 1 hts gX0_countsOfListsIn_X3_countsIn rfl rfl rfl (by decide +kernel) ⟨Nat.le_of_ble_eq_true rfl, Nat.le_of_ble_eq_true rfl⟩) ⟨pr_blind, va_recv hK hP (ci := 5) (q0 := (39 + (ix u3))) rfl (bw_at (i := 39 + (ix u3)) (by omega) (bk_stk hk7 _ _)), fun U hU hW => ⟨rfl, pr_mk hU hW hP hK hD⟩⟩ rfl rfl hl.1 rfl (lv_room (Nat.le_of_ble_eq_true rfl)) dX0_countsOfListsIn_19 ⟨Nat.le_of_ble_eq_true rfl, Nat.le_of_ble_eq_true rfl⟩) hS (fun x _ h => hFc x h) hFc (fun rr10 u t H1 locs ht hvm hw hB hz1 hk1 hS => ?_)
        obtain ⟨hP, hK1, hD1⟩ := hB
        rw [ht] at hP
        have hD := hD1.weaken (fun _ q9 _ h9 => hFc q9.1 h9)
        clear hFc hD1 hK1 hvm hz1 hk1
        generalize H1 = H at hP hS ⊢
        refine W.widen (k := 0) (n := 0) (Nat.le_refl _) (Nat.le_refl _) ?_
        obtain rfl : rr10 = r9 := hw
        refine lv_if_eq (tgt := 49) hx hb dX0_countsOfListsIn_22 (by decide) (fun hc11 => ?_) (fun hc11 => ?_)
        · have hF := br_pos hc11 hF
          refine lv_iinc (k := 0) (v := (u3 + (1 : Int32))) (lv' := [(3, .int (u3 + (1 : Int32))), (2, .int u2), (0, .ref (aa 1)), (1, .int xa)]) hx hb dX0_countsOfListsIn_49 hl rfl (ii_ _ _ _ (by decide)) (by decide) rfl (fun ls hl => ?_)
          refine lv_goto (tgt := 4) hx hb dX0_countsOfListsIn_52 (by decide) ?_
          exact IH4 u2 (u3 + (1 : Int32)) _ _ _ hF hP hD hS (lv_sub hl [0, 1, 2, 3] rfl)
        · have hF := br_neg hc11 hF
          refine lv_aload_n hx hb dX0_countsOfListsIn_25 rfl (lv_at hl 2 rfl) ?_
          refine va_get (D := (dC, dI)) (ci := 2) (v := .ref (aa 5)) (C := RX0) (T := TX0) (N := 11) hx hb hts hinX0 hown hK hP 1 (bw_at (i := 1) (by decide) rfl) rfl 6 (by decide) (hts (.fieldLink RX0 24 "BallotLoom$Box" "stacks" "[LBallotLoom$Stack;") (by decide +kernel)) (fun _ h9 => h9) rfl dX0_countsOfListsIn_26 ?_
          refine lv_iload_n hx hb dX0_countsOfListsIn_29 rfl (lv_at hl 0 rfl) ?_
          have hk12 : ix u3 < 25 := in_lt hg6 (by decide)
          refine bq_ald (v := (aa (39 + (ix u3)))) (hty := rfl) hx hb hK hP 5 3 (at_q (by decide) (fun _ _ => rfl)) rfl hg6 (if_pos (in_lt hg6 (Nat.le_refl _))) dX0_countsOfListsIn_30 ?_
          refine va_get (D := (dC, dI)) (ci := 5) (v := .int (Z.1 (39 + (ix u3)) 5)) (C := RX3) (T := TX3) (N := 7) hx hb hts hinX3 hown hK hP (39 + (ix u3)) (bw_at (i := 39 + (ix u3)) (by omega) (bk_stk hk12 _ _)) rfl 5 (by decide) (hts (.fieldLink RX0 68 "BallotLoom$Stack" "length" "I") (by decide +kernel)) (fun _ h9 => h9) rfl dX0_countsOfListsIn_31 ?_
          refine lv_topi (fun y13 ey13 => ?_)
          have hF := bv_at ey13 hF
          refine lv_if_le (tgt := 49) hx hb dX0_countsOfListsIn_34 (by decide) (fun hc14 => ?_) (fun hc14 => ?_)
          · have hF := br_pos hc14 hF
            refine lv_iinc (k := 0) (v := (u3 + (1 : Int32))) (lv' := [(3, .int (u3 + (1 : Int32))), (2, .int u2), (0, .ref (aa 1)), (1, .int xa)]) hx hb dX0_countsOfListsIn_49 hl rfl (ii_ _ _ _ (by decide)) (by decide) rfl (fun ls hl => ?_)
            refine lv_goto (tgt := 4) hx hb dX0_countsOfListsIn_52 (by decide) ?_
            exact IH4 u2 (u3 + (1 : Int32)) _ _ _ hF hP hD hS (lv_sub hl [0, 1, 2, 3] rfl)
          · have hF := br_neg hc14 hF
            refine lv_iload_n hx hb dX0_countsOfListsIn_37 rfl (lv_at hl 1 rfl) ?_
            refine lv_aload_n hx hb dX0_countsOfListsIn_38 rfl (lv_at hl 2 rfl) ?_
            refine va_get (D := (dC, dI)) (ci := 2) (v := .ref (aa 5)) (C := RX0) (T := TX0) (N := 11) hx hb hts hinX0 hown hK hP 1 (bw_at (i := 1) (by decide) rfl) rfl 6 (by decide) (hts (.fieldLink RX0 24 "BallotLoom$Box" "stacks" "[LBallotLoom$Stack;") (by decide +kernel)) (fun _ h9 => h9) rfl dX0_countsOfListsIn_39 ?_
            refine lv_iload_n hx hb dX0_countsOfListsIn_42 rfl (lv_at hl 0 rfl) ?_
            have hk15 : ix u3 < 25 := in_lt hg6 (by decide)
            refine bq_ald (v := (aa (39 + (ix u3)))) (hty := rfl) hx hb hK hP 5 3 (at_q (by decide) (fun _ _ => rfl)) rfl hg6 (if_pos (in_lt hg6 (Nat.le_refl _))) dX0_countsOfListsIn_43 ?_
            refine va_get (D := (dC, dI)) (ci := 5) (v := .int (Z.1 (39 + (ix u3)) 2)) (C := RX3) (T := TX3) (N := 7) hx hb hts hinX3 hown hK hP (39 + (ix u3)) (bw_at (i := 39 + (ix u3)) (by omega) (bk_stk hk15 _ _)) rfl 2 (by decide) (hts (.fieldLink RX0 45 "BallotLoom$Stack" "count" "I") (by decide +kernel)) (fun _ h9 => h9) rfl dX0_countsOfListsIn_44 ?_
            refine lv_topi (fun y16 ey16 => ?_)
            have hF := bv_at ey16 hF
            refine lv_iadd hx hb dX0_countsOfListsIn_47 ?_
            refine lv_topi (fun y17 ey17 => ?_)
            have hF := bv_at ey17 hF
            refine lv_istore_n (lv' := [(2, .int y17), (3, .int u3), (0, .ref (aa 1)), (1, .int xa)]) hx hb dX0_countsOfListsIn_48 rfl hl (by decide) rfl (fun ls hl => ?_)
            refine lv_iinc (k := 1) (v := (u3 + (1 : Int32))) (lv' := [(3, .int (u3 + (1 : Int32))), (2, .int y17), (0, .ref (aa 1)), (1, .int xa)]) hx hb dX0_countsOfListsIn_49 hl rfl (ii_ _ _ _ (by decide)) (by decide) rfl (fun ls hl => ?_)
            refine lv_goto (tgt := 4) hx hb dX0_countsOfListsIn_52 (by decide) ?_
            exact IH4 y17 (u3 + (1 : Int32)) _ _ _ hF hP hD hS (lv_sub hl [0, 1, 2, 3] rfl)
  exact L4 100 (0 : Int32) (0 : Int32) _ _ _ hF hP hD hS (lv_sub hl [0, 1, 2, 3] rfl)

noncomputable def F_X0_countsOfLists_x4 (w1 : Int32) : Option Int32 :=
  some w1

noncomputable def F_X0_countsOfLists_l4 (Z : Mem) (K_4 : Int32 → Option Int32) : Nat → Int32 → Int32 → Option Int32
  | 0, _, _ => none
  | n4 + 1, u2, u3 =>
  bv (Z.1 1 5) fun y4 => br (y4 ≤ u3) (K_4 u2) (calp (F_X0_countsOfListsIn Z u3) fun rr8 => bv (u2 + rr8) fun y9 => (F_X0_countsOfLists_l4 Z K_4 n4) y9 (u3 + (1 : Int32)))

noncomputable def F_X0_countsOfLists (Z : Mem) : Option Int32 :=
  F_X0_countsOfLists_l4 Z F_X0_countsOfLists_x4 100 (0 : Int32) (0 : Int32)

set_option maxHeartbeats 4000000 in
set_option maxRecDepth 100000 in
theorem c_X0_countsOfLists (l : Launch) (dC : Nat → ClassId) (dI : Nat → Nat → Nat) (q : Nat → ClassId) (aa : Nat → Nat) (Z : Mem)   (sz : Nat) (ro : Int32) (hF : F_X0_countsOfLists Z  = some ro) : Met l yX0_countsOfLists wsX0_countsOfLists ({ frames := 4, cells := 0, slots := 0, locals := 84 }) (va_Pc [.ref (aa 1)] (pr_ dC dI (bw q aa Z) (bty q) sz)) (va_Qi (fun (r : Int32) (_ : Unit) => r = ro) (fun (_ : Unit) t => po_ dC dI (bw q aa Z) (bty q) (va_A (bw q aa Z) sz) t) (va_A (bw q aa Z) sz)) 0 0 (va_A (bw q aa Z) sz) := by
  refine Met.ofW (cc := cX0_countsOfLists) (maxL := 3) (ret := (some .int)) (by decide) rfl ?_
  intro p e s m args below meth c s₁ B hml hv
  obtain ⟨hargs, hsz, hP, hK, hD0⟩ := hv
  have hx := B.exec
  have hb := B.bytes
  have hr := B.returns
  have hts := atoms_spec (ws := wsX0_countsOfLists) B.pre
  have hown : s.vm.findClass RX0 = some m.cls := findClass_of_methodNamed B.named
  have hlocks := B.notSynchronized
  subst hsz
  have hD := hD0.self (sz := s.heap.size)
  generalize hAe : va_A (bw q aa Z) s.heap.size = A at hD ⊢
  have hA : ∀ x : Nat, s.heap.size ≤ x → A x := fun x h => by rw [← hAe]; exact Or.inr h
  have hS : va_S A s.heap s.heap [] := va_S.rf
  have hinX0 : ∀ w ∈ u_ws RX0 TX0 11, w ∈ wsX0_countsOfLists := by decide +kernel
  have hl := lv_entry ([.ref (aa 1)]) (n := 3) (Nat.le_of_ble_eq_true rfl)
  refine w_ent hargs ?_
  rw [lg_entry_eq]
  generalize (lg_sl ([.ref (aa 1)]) ++ List.replicate (3 - (lg_sl ([.ref (aa 1)])).length) Slot.unset).toArray = ls at hl ⊢
  have hl : lv_has ls 3 [(0, .ref (aa 1))] := hl
  unfold F_X0_countsOfLists at hF
  refine w_go (fun Q hQ => ?_)
  refine lv_iconst (v := 0) hx hb dX0_countsOfLists_0 (by decide) ?_
  refine lv_istore_n (lv' := [(1, .int 0), (0, .ref (aa 1))]) hx hb dX0_countsOfLists_1 rfl hl (by decide) rfl (fun ls hl => ?_)
  refine lv_iconst (v := 0) hx hb dX0_countsOfLists_2 (by decide) ?_
  refine lv_istore_n (lv' := [(2, .int 0), (1, .int 0), (0, .ref (aa 1))]) hx hb dX0_countsOfLists_3 rfl hl (by decide) rfl (fun ls hl => ?_)
  have Jx4 : ∀ (w1 : Int32) (H : Heap) (locs : List Loc) (ls : Array Slot), F_X0_countsOfLists_x4 w1 = some ro → va_P (dC, dI) vwCl (bw q aa Z) H → va_D A (bw q aa Z) → va_S A s.heap H locs → lv_has ls 3 [(1, .int w1)] → W p l e (headSpec wsX0_countsOfLists ({ frames := 4, cells := 0, slots := 0, locals := 84 } : Room)).room s m args below meth c H locs 0 0 Q (F0 m 26 ls []) := by
    intro w1 H locs ls hF hP hD hS hl
    unfold F_X0_countsOfLists_x4 at hF
    refine lv_iload_n hx hb dX0_countsOfLists_26 rfl (lv_at hl 0 rfl) ?_
    have e9 := some1 hF
    subst hQ
    exact W.iret (v := w1) hx hb hr (fun t ht hW => ⟨⟨w1, (), rfl, e9.symm, po_mk ht hW hP hK hD⟩, hS.F ht⟩) hS.2.2 dX0_countsOfLists_27
  have L4 : ∀ (n4 : Nat) (u2 : Int32) (u3 : Int32) (H : Heap) (locs : List Loc) (ls : Array Slot), F_X0_countsOfLists_l4 Z F_X0_countsOfLists_x4 n4 u2 u3 = some ro → va_P (dC, dI) vwCl (bw q aa Z) H → va_D A (bw q aa Z) → va_S A s.heap H locs → lv_has ls 3 [(2, .int u3), (1, .int u2), (0, .ref (aa 1))] → W p l e (headSpec wsX0_countsOfLists ({ frames := 4, cells := 0, slots := 0, locals := 84 } : Room)).room s m args below meth c H locs 0 0 Q (F0 m 4 ls []) := by
    intro n4
    induction n4 with
    | zero =>
      intro u2 u3 H locs ls hF
      rw [F_X0_countsOfLists_l4] at hF
      cases hF
    | succ n4 IH4 =>
      intro u2 u3 H locs ls hF hP hD hS hl
      rw [F_X0_countsOfLists_l4] at hF
      refine lv_iload_n hx hb dX0_countsOfLists_4 rfl (lv_at hl 0 rfl) ?_
      refine lv_aload_n hx hb dX0_countsOfLists_5 rfl (lv_at hl 2 rfl) ?_
      refine va_get (D := (dC, dI)) (ci := 2) (v := .int (Z.1 1 5)) (C := RX0) (T := TX0) (N := 11) hx hb hts hinX0 hown hK hP 1 (bw_at (i := 1) (by decide) rfl) rfl 5 (by decide) (hts (.fieldLink RX0 36 "BallotLoom$Box" "districts" "I") (by decide +kernel)) (fun _ h9 => h9) rfl dX0_countsOfLists_6 ?_
      refine lv_topi (fun y4 ey4 => ?_)
      have hF := bv_at ey4 hF
      refine lv_icmp_ge (tgt := 26) hx hb dX0_countsOfLists_9 (by decide) (fun hc5 => ?_) (fun hc5 => ?_)
      · have hF := br_pos hc5 hF
        exact Jx4 u2 _ _ _ hF hP hD hS (lv_sub hl [1] rfl)
      · have hF := br_neg hc5 hF
        refine lv_iload_n hx hb dX0_countsOfLists_12 rfl (lv_at hl 1 rfl) ?_
        refine lv_aload_n hx hb dX0_countsOfLists_13 rfl (lv_at hl 2 rfl) ?_
        refine lv_iload_n hx hb dX0_countsOfLists_14 rfl (lv_at hl 0 rfl) ?_
        obtain ⟨r7, hC6, hF⟩ := calp_some hF
        have hFc := b_free (ws := bw q aa Z) hD hS hA
        refine va_calli (va_runV (As := [.int u3]) (rest := [.int u2]) ⟨hx, hb, hml, hown, hts⟩ (c_X0_countsOfListsIn l dC dI q aa Z u3  _ _  hC6) (cwV 1 hts gX0_countsOfLists_X0_countsOfListsIn rfl rfl rfl (by decide +kernel) ⟨Nat.le_of_ble_eq_true rfl, Nat.le_of_ble_eq_true rfl⟩) ⟨pr_blind, va_recv hK hP (ci := 2) (q0 := 1) rfl (bw_at (i := 1) (by decide) rfl), fun U hU hW => ⟨rfl, pr_mk hU hW hP hK hD⟩⟩ rfl rfl hl.1 rfl (lv_room (Nat.le_of_ble_eq_true rfl)) dX0_countsOfLists_15 ⟨Nat.le_of_ble_eq_true rfl, Nat.le_of_ble_eq_true rfl⟩) hS (fun x _ h => hFc x h) hFc (fun rr8 u t H1 locs ht hvm hw hB hz1 hk1 hS => ?_)
        obtain ⟨hP, hK1, hD1⟩ := hB
        rw [ht] at hP
        have hD := hD1.weaken (fun _ q9 _ h9 => hFc q9.1 h9)
        clear hFc hD1 hK1 hvm hz1 hk1
        generalize H1 = H at hP hS ⊢
        refine W.widen (k := 0) (n := 0) (Nat.le_refl _) (Nat.le_refl _) ?_
        obtain rfl : rr8 = r7 := hw
        refine lv_iadd hx hb dX0_countsOfLists_18 ?_
        refine lv_topi (fun y9 ey9 => ?_)
        have hF := bv_at ey9 hF
        refine lv_istore_n (lv' := [(1, .int y9), (2, .int u3), (0, .ref (aa 1))]) hx hb dX0_countsOfLists_19 rfl hl (by decide) rfl (fun ls hl => ?_)
        refine lv_iinc (k := 1) (v := (u3 + (1 : Int32))) (lv' := [(2, .int (u3 + (1 : Int32))), (1, .int y9), (0, .ref (aa 1))]) hx hb dX0_countsOfLists_20 hl rfl (ii_ _ _ _ (by decide)) (by decide) rfl (fun ls hl => ?_)
        refine lv_goto (tgt := 4) hx hb dX0_countsOfLists_23 (by decide) ?_
        exact IH4 y9 (u3 + (1 : Int32)) _ _ _ hF hP hD hS (lv_sub hl [0, 1, 2] rfl)
  exact L4 100 (0 : Int32) (0 : Int32) _ _ _ hF hP hD hS (lv_sub hl [0, 1, 2] rfl)

noncomputable def F_X0_figure (Z : Mem) (xa : Int32) : Option Int32 :=
  br (xa = 0) (bv (Z.1 1 2) fun y2 => some y2) (br (xa = 1) (bv (Z.1 1 3) fun y4 => some y4) (br (xa = 2) (bv (Z.1 1 5) fun y6 => some y6) (br (xa = 3) (bv (Z.1 1 7) fun y8 => some y8) (br (xa = 4) (calp (F_X0_spoiledStacks Z ) fun rr12 => some rr12) (br (xa = 5) (calp (F_X0_allCounts Z ) fun rr16 => some rr16) (br (xa = 6) (calp (F_X0_countsOfLists Z ) fun rr20 => some rr20) (br (xa = 7) (bv (Z.1 1 8) fun y22 => some y22) (br (xa = 8) (bv (Z.1 1 9) fun y24 => br (y24 = (0 : Int32)) (some (0 : Int32)) (some (1 : Int32))) (bv (Z.1 1 10) fun y26 => some y26)))))))))

set_option maxHeartbeats 4000000 in
set_option maxRecDepth 100000 in
theorem c_X0_figure (l : Launch) (dC : Nat → ClassId) (dI : Nat → Nat → Nat) (q : Nat → ClassId) (aa : Nat → Nat) (Z : Mem) (xa : Int32)  (sz : Nat) (ro : Int32) (hF : F_X0_figure Z xa = some ro) : Met l yX0_figure wsX0_figure ({ frames := 5, cells := 0, slots := 0, locals := 106 }) (va_Pc [.ref (aa 1), .int xa] (pr_ dC dI (bw q aa Z) (bty q) sz)) (va_Qi (fun (r : Int32) (_ : Unit) => r = ro) (fun (_ : Unit) t => po_ dC dI (bw q aa Z) (bty q) (va_A (bw q aa Z) sz) t) (va_A (bw q aa Z) sz)) 0 0 (va_A (bw q aa Z) sz) := by
  refine Met.ofW (cc := cX0_figure) (maxL := 2) (ret := (some .int)) (by decide) rfl ?_
  intro p e s m args below meth c s₁ B hml hv
  obtain ⟨hargs, hsz, hP, hK, hD0⟩ := hv
  have hx := B.exec
  have hb := B.bytes
  have hr := B.returns
  have hts := atoms_spec (ws := wsX0_figure) B.pre
  have hown : s.vm.findClass RX0 = some m.cls := findClass_of_methodNamed B.named
  have hlocks := B.notSynchronized
  subst hsz
  have hD := hD0.self (sz := s.heap.size)
  generalize hAe : va_A (bw q aa Z) s.heap.size = A at hD ⊢
  have hA : ∀ x : Nat, s.heap.size ≤ x → A x := fun x h => by rw [← hAe]; exact Or.inr h
  have hS : va_S A s.heap s.heap [] := va_S.rf
  have hinX0 : ∀ w ∈ u_ws RX0 TX0 11, w ∈ wsX0_figure := by decide +kernel
  have hl := lv_entry ([.ref (aa 1), .int xa]) (n := 2) (Nat.le_of_ble_eq_true rfl)
  refine w_ent hargs ?_
  rw [lg_entry_eq]
  generalize (lg_sl ([.ref (aa 1), .int xa]) ++ List.replicate (2 - (lg_sl ([.ref (aa 1), .int xa])).length) Slot.unset).toArray = ls at hl ⊢
  have hl : lv_has ls 2 [(0, .ref (aa 1)), (1, .int xa)] := hl
  unfold F_X0_figure at hF
  refine w_go (fun Q hQ => ?_)
  refine lv_iload_n hx hb dX0_figure_0 rfl (lv_at hl 1 rfl) ?_
  by_cases hq1 : xa = 0
  · have hF := br_pos hq1 hF
    refine lv_tableIn (off := 51) (tgt := 52) hx hb dX0_figure_1 (by rw [hq1]; decide) (by rw [hq1]; decide) (by rw [hq1]; rfl) (by decide) ?_
    refine lv_aload_n hx hb dX0_figure_52 rfl (lv_at hl 0 rfl) ?_
    refine va_get (D := (dC, dI)) (ci := 2) (v := .int (Z.1 1 2)) (C := RX0) (T := TX0) (N := 11) hx hb hts hinX0 hown hK hP 1 (bw_at (i := 1) (by decide) rfl) rfl 2 (by decide) (hts (.fieldLink RX0 29 "BallotLoom$Box" "candidates" "I") (by decide +kernel)) (fun _ h9 => h9) rfl dX0_figure_53 ?_
    refine lv_topi (fun y2 ey2 => ?_)
    have hF := bv_at ey2 hF
    have e9 := some1 hF
    subst hQ
    exact W.iret (v := y2) hx hb hr (fun t ht hW => ⟨⟨y2, (), rfl, e9.symm, po_mk ht hW hP hK hD⟩, hS.F ht⟩) hS.2.2 dX0_figure_56
  have hF := br_neg hq1 hF
  by_cases hq3 : xa = 1
  · have hF := br_pos hq3 hF
    refine lv_tableIn (off := 56) (tgt := 57) hx hb dX0_figure_1 (by rw [hq3]; decide) (by rw [hq3]; decide) (by rw [hq3]; rfl) (by decide) ?_
    refine lv_aload_n hx hb dX0_figure_57 rfl (lv_at hl 0 rfl) ?_
    refine va_get (D := (dC, dI)) (ci := 2) (v := .int (Z.1 1 3)) (C := RX0) (T := TX0) (N := 11) hx hb hts hinX0 hown hK hP 1 (bw_at (i := 1) (by decide) rfl) rfl 3 (by decide) (hts (.fieldLink RX0 33 "BallotLoom$Box" "standing" "I") (by decide +kernel)) (fun _ h9 => h9) rfl dX0_figure_58 ?_
    refine lv_topi (fun y4 ey4 => ?_)
    have hF := bv_at ey4 hF
    have e9 := some1 hF
    subst hQ
    exact W.iret (v := y4) hx hb hr (fun t ht hW => ⟨⟨y4, (), rfl, e9.symm, po_mk ht hW hP hK hD⟩, hS.F ht⟩) hS.2.2 dX0_figure_61
  have hF := br_neg hq3 hF
  by_cases hq5 : xa = 2
  · have hF := br_pos hq5 hF
    refine lv_tableIn (off := 61) (tgt := 62) hx hb dX0_figure_1 (by rw [hq5]; decide) (by rw [hq5]; decide) (by rw [hq5]; rfl) (by decide) ?_
    refine lv_aload_n hx hb dX0_figure_62 rfl (lv_at hl 0 rfl) ?_
    refine va_get (D := (dC, dI)) (ci := 2) (v := .int (Z.1 1 5)) (C := RX0) (T := TX0) (N := 11) hx hb hts hinX0 hown hK hP 1 (bw_at (i := 1) (by decide) rfl) rfl 5 (by decide) (hts (.fieldLink RX0 36 "BallotLoom$Box" "districts" "I") (by decide +kernel)) (fun _ h9 => h9) rfl dX0_figure_63 ?_
    refine lv_topi (fun y6 ey6 => ?_)
    have hF := bv_at ey6 hF
    have e9 := some1 hF
    subst hQ
    exact W.iret (v := y6) hx hb hr (fun t ht hW => ⟨⟨y6, (), rfl, e9.symm, po_mk ht hW hP hK hD⟩, hS.F ht⟩) hS.2.2 dX0_figure_66
  have hF := br_neg hq5 hF
  by_cases hq7 : xa = 3
  · have hF := br_pos hq7 hF
    refine lv_tableIn (off := 66) (tgt := 67) hx hb dX0_figure_1 (by rw [hq7]; decide) (by rw [hq7]; decide) (by rw [hq7]; rfl) (by decide) ?_
    refine lv_aload_n hx hb dX0_figure_67 rfl (lv_at hl 0 rfl) ?_
    refine va_get (D := (dC, dI)) (ci := 2) (v := .int (Z.1 1 7)) (C := RX0) (T := TX0) (N := 11) hx hb hts hinX0 hown hK hP 1 (bw_at (i := 1) (by decide) rfl) rfl 7 (by decide) (hts (.fieldLink RX0 39 "BallotLoom$Box" "cast" "I") (by decide +kernel)) (fun _ h9 => h9) rfl dX0_figure_68 ?_
    refine lv_topi (fun y8 ey8 => ?_)
    have hF := bv_at ey8 hF
    have e9 := some1 hF
    subst hQ
    exact W.iret (v := y8) hx hb hr (fun t ht hW => ⟨⟨y8, (), rfl, e9.symm, po_mk ht hW hP hK hD⟩, hS.F ht⟩) hS.2.2 dX0_figure_71
  have hF := br_neg hq7 hF
  by_cases hq9 : xa = 4
  · have hF := br_pos hq9 hF
    refine lv_tableIn (off := 71) (tgt := 72) hx hb dX0_figure_1 (by rw [hq9]; decide) (by rw [hq9]; decide) (by rw [hq9]; rfl) (by decide) ?_
    refine lv_aload_n hx hb dX0_figure_72 rfl (lv_at hl 0 rfl) ?_
    obtain ⟨r11, hC10, hF⟩ := calp_some hF
    have hFc := b_free (ws := bw q aa Z) hD hS hA
    refine va_calli (va_runV (As := []) (rest := []) ⟨hx, hb, hml, hown, hts⟩ (c_X0_spoiledStacks l dC dI q aa Z   _ _  hC10) (cwV 0 hts gX0_figure_X0_spoiledStacks rfl rfl rfl (by decide +kernel) ⟨Nat.le_of_ble_eq_true rfl, Nat.le_of_ble_eq_true rfl⟩) ⟨pr_blind, va_recv hK hP (ci := 2) (q0 := 1) rfl (bw_at (i := 1) (by decide) rfl), fun U hU hW => ⟨rfl, pr_mk hU hW hP hK hD⟩⟩ rfl rfl hl.1 rfl (lv_room (Nat.le_of_ble_eq_true rfl)) dX0_figure_73 ⟨Nat.le_of_ble_eq_true rfl, Nat.le_of_ble_eq_true rfl⟩) hS (fun x _ h => hFc x h) hFc (fun rr12 u t H1 locs ht hvm hw hB hz1 hk1 hS => ?_)
    obtain ⟨hP, hK1, hD1⟩ := hB
    rw [ht] at hP
    have hD := hD1.weaken (fun _ q9 _ h9 => hFc q9.1 h9)
    clear hFc hD1 hK1 hvm hz1 hk1
    generalize H1 = H at hP hS ⊢
    refine W.widen (k := 0) (n := 0) (Nat.le_refl _) (Nat.le_refl _) ?_
    obtain rfl : rr12 = r11 := hw
    have e9 := some1 hF
    subst hQ
    exact W.iret (v := rr12) hx hb hr (fun t ht hW => ⟨⟨rr12, (), rfl, e9.symm, po_mk ht hW hP hK hD⟩, hS.F ht⟩) hS.2.2 dX0_figure_76
  have hF := br_neg hq9 hF
  by_cases hq13 : xa = 5
  · have hF := br_pos hq13 hF
    refine lv_tableIn (off := 76) (tgt := 77) hx hb dX0_figure_1 (by rw [hq13]; decide) (by rw [hq13]; decide) (by rw [hq13]; rfl) (by decide) ?_
    refine lv_aload_n hx hb dX0_figure_77 rfl (lv_at hl 0 rfl) ?_
    obtain ⟨r15, hC14, hF⟩ := calp_some hF
    have hFc := b_free (ws := bw q aa Z) hD hS hA
    refine va_calli (va_runV (As := []) (rest := []) ⟨hx, hb, hml, hown, hts⟩ (c_X0_allCounts l dC dI q aa Z   _ _  hC14) (cwV 0 hts gX0_figure_X0_allCounts rfl rfl rfl (by decide +kernel) ⟨Nat.le_of_ble_eq_true rfl, Nat.le_of_ble_eq_true rfl⟩) ⟨pr_blind, va_recv hK hP (ci := 2) (q0 := 1) rfl (bw_at (i := 1) (by decide) rfl), fun U hU hW => ⟨rfl, pr_mk hU hW hP hK hD⟩⟩ rfl rfl hl.1 rfl (lv_room (Nat.le_of_ble_eq_true rfl)) dX0_figure_78 ⟨Nat.le_of_ble_eq_true rfl, Nat.le_of_ble_eq_true rfl⟩) hS (fun x _ h => hFc x h) hFc (fun rr16 u t H1 locs ht hvm hw hB hz1 hk1 hS => ?_)
    obtain ⟨hP, hK1, hD1⟩ := hB
    rw [ht] at hP
    have hD := hD1.weaken (fun _ q9 _ h9 => hFc q9.1 h9)
    clear hFc hD1 hK1 hvm hz1 hk1
    generalize H1 = H at hP hS ⊢
    refine W.widen (k := 0) (n := 0) (Nat.le_refl _) (Nat.le_refl _) ?_
    obtain rfl : rr16 = r15 := hw
    have e9 := some1 hF
    subst hQ
    exact W.iret (v := rr16) hx hb hr (fun t ht hW => ⟨⟨rr16, (), rfl, e9.symm, po_mk ht hW hP hK hD⟩, hS.F ht⟩) hS.2.2 dX0_figure_81
  have hF := br_neg hq13 hF
  by_cases hq17 : xa = 6
  · have hF := br_pos hq17 hF
    refine lv_tableIn (off := 81) (tgt := 82) hx hb dX0_figure_1 (by rw [hq17]; decide) (by rw [hq17]; decide) (by rw [hq17]; rfl) (by decide) ?_
    refine lv_aload_n hx hb dX0_figure_82 rfl (lv_at hl 0 rfl) ?_
    obtain ⟨r19, hC18, hF⟩ := calp_some hF
    have hFc := b_free (ws := bw q aa Z) hD hS hA
    refine va_calli (va_runV (As := []) (rest := []) ⟨hx, hb, hml, hown, hts⟩ (c_X0_countsOfLists l dC dI q aa Z   _ _  hC18) (cwV 0 hts gX0_figure_X0_countsOfLists rfl rfl rfl (by decide +kernel) ⟨Nat.le_of_ble_eq_true rfl, Nat.le_of_ble_eq_true rfl⟩) ⟨pr_blind, va_recv hK hP (ci := 2) (q0 := 1) rfl (bw_at (i := 1) (by decide) rfl), fun U hU hW => ⟨rfl, pr_mk hU hW hP hK hD⟩⟩ rfl rfl hl.1 rfl (lv_room (Nat.le_of_ble_eq_true rfl)) dX0_figure_83 ⟨Nat.le_of_ble_eq_true rfl, Nat.le_of_ble_eq_true rfl⟩) hS (fun x _ h => hFc x h) hFc (fun rr20 u t H1 locs ht hvm hw hB hz1 hk1 hS => ?_)
    obtain ⟨hP, hK1, hD1⟩ := hB
    rw [ht] at hP
    have hD := hD1.weaken (fun _ q9 _ h9 => hFc q9.1 h9)
    clear hFc hD1 hK1 hvm hz1 hk1
    generalize H1 = H at hP hS ⊢
    refine W.widen (k := 0) (n := 0) (Nat.le_refl _) (Nat.le_refl _) ?_
    obtain rfl : rr20 = r19 := hw
    have e9 := some1 hF
    subst hQ
    exact W.iret (v := rr20) hx hb hr (fun t ht hW => ⟨⟨rr20, (), rfl, e9.symm, po_mk ht hW hP hK hD⟩, hS.F ht⟩) hS.2.2 dX0_figure_86
  have hF := br_neg hq17 hF
  by_cases hq21 : xa = 7
  · have hF := br_pos hq21 hF
    refine lv_tableIn (off := 86) (tgt := 87) hx hb dX0_figure_1 (by rw [hq21]; decide) (by rw [hq21]; decide) (by rw [hq21]; rfl) (by decide) ?_
    refine lv_aload_n hx hb dX0_figure_87 rfl (lv_at hl 0 rfl) ?_
    refine va_get (D := (dC, dI)) (ci := 2) (v := .int (Z.1 1 8)) (C := RX0) (T := TX0) (N := 11) hx hb hts hinX0 hown hK hP 1 (bw_at (i := 1) (by decide) rfl) rfl 8 (by decide) (hts (.fieldLink RX0 81 "BallotLoom$Box" "percent" "I") (by decide +kernel)) (fun _ h9 => h9) rfl dX0_figure_88 ?_
    refine lv_topi (fun y22 ey22 => ?_)
    have hF := bv_at ey22 hF
    have e9 := some1 hF
    subst hQ
    exact W.iret (v := y22) hx hb hr (fun t ht hW => ⟨⟨y22, (), rfl, e9.symm, po_mk ht hW hP hK hD⟩, hS.F ht⟩) hS.2.2 dX0_figure_91
  have hF := br_neg hq21 hF
  by_cases hq23 : xa = 8
  · have hF := br_pos hq23 hF
    refine lv_tableIn (off := 91) (tgt := 92) hx hb dX0_figure_1 (by rw [hq23]; decide) (by rw [hq23]; decide) (by rw [hq23]; rfl) (by decide) ?_
    refine lv_aload_n hx hb dX0_figure_92 rfl (lv_at hl 0 rfl) ?_
    refine va_get (D := (dC, dI)) (ci := 2) (v := .int (Z.1 1 9)) (C := RX0) (T := TX0) (N := 11) hx hb hts hinX0 hown hK hP 1 (bw_at (i := 1) (by decide) rfl) rfl 9 (by decide) (hts (.fieldLink RX0 84 "BallotLoom$Box" "isSealed" "Z") (by decide +kernel)) (fun _ h9 => h9) rfl dX0_figure_93 ?_
    refine lv_topi (fun y24 ey24 => ?_)
    have hF := bv_at ey24 hF
    refine lv_if_eq (tgt := 103) hx hb dX0_figure_96 (by decide) (fun hc25 => ?_) (fun hc25 => ?_)
    · have hF := br_pos hc25 hF
      refine lv_iconst (v := 0) hx hb dX0_figure_103 (by decide) ?_
      have e9 := some1 hF
      subst hQ
      exact W.iret (v := 0) hx hb hr (fun t ht hW => ⟨⟨0, (), rfl, e9.symm, po_mk ht hW hP hK hD⟩, hS.F ht⟩) hS.2.2 dX0_figure_104
    · have hF := br_neg hc25 hF
      refine lv_iconst (v := 1) hx hb dX0_figure_99 (by decide) ?_
      refine lv_goto (tgt := 104) hx hb dX0_figure_100 (by decide) ?_
      have e9 := some1 hF
      subst hQ
      exact W.iret (v := 1) hx hb hr (fun t ht hW => ⟨⟨1, (), rfl, e9.symm, po_mk ht hW hP hK hD⟩, hS.F ht⟩) hS.2.2 dX0_figure_104
  have hF := br_neg hq23 hF
  refine lv_tableOut (tgt := 105) hx hb dX0_figure_1 (sw_out 8 (by intro k h0 _; have h2 : k = 0 ∨ k = 1 ∨ k = 2 ∨ k = 3 ∨ k = 4 ∨ k = 5 ∨ k = 6 ∨ k = 7 ∨ k = 8 := (by omega); rcases h2 with rfl | rfl | rfl | rfl | rfl | rfl | rfl | rfl | rfl; exact hq1; exact hq3; exact hq5; exact hq7; exact hq9; exact hq13; exact hq17; exact hq21; exact hq23)) (by decide) ?_
  refine lv_aload_n hx hb dX0_figure_105 rfl (lv_at hl 0 rfl) ?_
  refine va_get (D := (dC, dI)) (ci := 2) (v := .int (Z.1 1 10)) (C := RX0) (T := TX0) (N := 11) hx hb hts hinX0 hown hK hP 1 (bw_at (i := 1) (by decide) rfl) rfl 10 (by decide) (hts (.fieldLink RX0 87 "BallotLoom$Box" "refused" "I") (by decide +kernel)) (fun _ h9 => h9) rfl dX0_figure_106 ?_
  refine lv_topi (fun y26 ey26 => ?_)
  have hF := bv_at ey26 hF
  have e9 := some1 hF
  subst hQ
  exact W.iret (v := y26) hx hb hr (fun t ht hW => ⟨⟨y26, (), rfl, e9.symm, po_mk ht hW hP hK hD⟩, hS.F ht⟩) hS.2.2 dX0_figure_109
