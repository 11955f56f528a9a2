/-! p31: 11.stack (laid by wip/gen31/bgen.py) -/
noncomputable def F_J6_bitCount_0f7a4 (Z : Mem) (xa : Int32) : Option Int32 :=
  bv ((xa.toUInt32 >>> ((1 : Int32).toUInt32 &&& Int32.toUInt32 31)).toInt32) fun y1 => bv (y1 &&& (1431655765 : Int32)) fun y2 => bv (xa - y2) fun y3 => bv (y3 &&& (858993459 : Int32)) fun y4 => bv ((y3.toUInt32 >>> ((2 : Int32).toUInt32 &&& Int32.toUInt32 31)).toInt32) fun y5 => bv (y5 &&& (858993459 : Int32)) fun y6 => bv (y4 + y6) fun y7 => bv ((y7.toUInt32 >>> ((4 : Int32).toUInt32 &&& Int32.toUInt32 31)).toInt32) fun y8 => bv (y7 + y8) fun y9 => bv (y9 &&& (252645135 : Int32)) fun y10 => bv ((y10.toUInt32 >>> ((8 : Int32).toUInt32 &&& Int32.toUInt32 31)).toInt32) fun y11 => bv (y10 + y11) fun y12 => bv ((y12.toUInt32 >>> ((16 : Int32).toUInt32 &&& Int32.toUInt32 31)).toInt32) fun y13 => bv (y12 + y13) fun y14 => bv (y14 &&& (63 : Int32)) fun y15 => some y15

set_option maxHeartbeats 4000000 in
set_option maxRecDepth 100000 in
theorem c_J6_bitCount_0f7a4 (l : Launch) (dC : Nat → ClassId) (dI : Nat → Nat → Nat) (q : Nat → ClassId) (aa : Nat → Nat) (Z : Mem) (xa : Int32)  (sz : Nat) (ro : Int32) (hF : F_J6_bitCount_0f7a4 Z xa = some ro) : Met l yJ6_bitCount_0f7a4 wsJ6_bitCount_0f7a4 ({ frames := 2, cells := 0, slots := 0, locals := 40 }) (va_Pc [.int xa] (pr_ dC dI (bw q aa Z) (bty q) sz)) (va_Qi (fun (r : Int32) (_ : Unit) => r = ro) (fun (_ : Unit) t => po_ dC dI (bw q aa Z) (bty q) (va_A (bw q aa Z) sz) t) (va_A (bw q aa Z) sz)) 0 0 (va_A (bw q aa Z) sz) := by
  refine Met.ofW (cc := cJ6_bitCount_0f7a4) (maxL := 1) (ret := (some .int)) (by decide) rfl ?_
  intro p e s m args below meth c s₁ B hml hv
  obtain ⟨hargs, hsz, hP, hK, hD0⟩ := hv
  have hx := B.exec
  have hb := B.bytes
  have hr := B.returns
  have hts := atoms_spec (ws := wsJ6_bitCount_0f7a4) B.pre
  have hown : s.vm.findClass RJ6 = some m.cls := findClass_of_methodNamed B.named
  have hlocks := B.notSynchronized
  subst hsz
  have hD := hD0.self (sz := s.heap.size)
  generalize hAe : va_A (bw q aa Z) s.heap.size = A at hD ⊢
  have hA : ∀ x : Nat, s.heap.size ≤ x → A x := fun x h => by rw [← hAe]; exact Or.inr h
  have hS : va_S A s.heap s.heap [] := va_S.rf
  have hl := lv_entry ([.int xa]) (n := 1) (Nat.le_of_ble_eq_true rfl)
  refine w_ent hargs ?_
  rw [lg_entry_eq]
  generalize (lg_sl ([.int xa]) ++ List.replicate (1 - (lg_sl ([.int xa])).length) Slot.unset).toArray = ls at hl ⊢
  have hl : lv_has ls 1 [(0, .int xa)] := hl
  unfold F_J6_bitCount_0f7a4 at hF
  refine w_go (fun Q hQ => ?_)
  refine lv_iload_n hx hb dJ6_bitCount_0f7a4_0 rfl (lv_at hl 0 rfl) ?_
  refine lv_iload_n hx hb dJ6_bitCount_0f7a4_1 rfl (lv_at hl 0 rfl) ?_
  refine lv_iconst (v := 1) hx hb dJ6_bitCount_0f7a4_2 (by decide) ?_
  refine lv_iushr hx hb dJ6_bitCount_0f7a4_3 rfl ?_
  refine lv_topi (fun y1 ey1 => ?_)
  have hF := bv_at ey1 hF
  refine lv_ldcw (v := 1431655765) hx hb hown (hts (.constant RJ6 265 1431655765) (by decide +kernel)) dJ6_bitCount_0f7a4_4 ?_
  refine lv_iand hx hb dJ6_bitCount_0f7a4_7 ?_
  refine lv_topi (fun y2 ey2 => ?_)
  have hF := bv_at ey2 hF
  refine lv_isub hx hb dJ6_bitCount_0f7a4_8 ?_
  refine lv_topi (fun y3 ey3 => ?_)
  have hF := bv_at ey3 hF
  refine lv_istore_n (lv' := [(0, .int y3)]) hx hb dJ6_bitCount_0f7a4_9 rfl hl (by decide) rfl (fun ls hl => ?_)
  refine lv_iload_n hx hb dJ6_bitCount_0f7a4_10 rfl (lv_at hl 0 rfl) ?_
  refine lv_ldcw (v := 858993459) hx hb hown (hts (.constant RJ6 266 858993459) (by decide +kernel)) dJ6_bitCount_0f7a4_11 ?_
  refine lv_iand hx hb dJ6_bitCount_0f7a4_14 ?_
  refine lv_topi (fun y4 ey4 => ?_)
  have hF := bv_at ey4 hF
  refine lv_iload_n hx hb dJ6_bitCount_0f7a4_15 rfl (lv_at hl 0 rfl) ?_
  refine lv_iconst (v := 2) hx hb dJ6_bitCount_0f7a4_16 (by decide) ?_
  refine lv_iushr hx hb dJ6_bitCount_0f7a4_17 rfl ?_
  refine lv_topi (fun y5 ey5 => ?_)
  have hF := bv_at ey5 hF
  refine lv_ldcw (v := 858993459) hx hb hown (hts (.constant RJ6 266 858993459) (by decide +kernel)) dJ6_bitCount_0f7a4_18 ?_
  refine lv_iand hx hb dJ6_bitCount_0f7a4_21 ?_
  refine lv_topi (fun y6 ey6 => ?_)
  have hF := bv_at ey6 hF
  refine lv_iadd hx hb dJ6_bitCount_0f7a4_22 ?_
  refine lv_topi (fun y7 ey7 => ?_)
  have hF := bv_at ey7 hF
  refine lv_istore_n (lv' := [(0, .int y7)]) hx hb dJ6_bitCount_0f7a4_23 rfl hl (by decide) rfl (fun ls hl => ?_)
  refine lv_iload_n hx hb dJ6_bitCount_0f7a4_24 rfl (lv_at hl 0 rfl) ?_
  refine lv_iload_n hx hb dJ6_bitCount_0f7a4_25 rfl (lv_at hl 0 rfl) ?_
  refine lv_iconst (v := 4) hx hb dJ6_bitCount_0f7a4_26 (by decide) ?_
  refine lv_iushr hx hb dJ6_bitCount_0f7a4_27 rfl ?_
  refine lv_topi (fun y8 ey8 => ?_)
  have hF := bv_at ey8 hF
  refine lv_iadd hx hb dJ6_bitCount_0f7a4_28 ?_
  refine lv_topi (fun y9 ey9 => ?_)
  have hF := bv_at ey9 hF
  refine lv_ldcw (v := 252645135) hx hb hown (hts (.constant RJ6 267 252645135) (by decide +kernel)) dJ6_bitCount_0f7a4_29 ?_
  refine lv_iand hx hb dJ6_bitCount_0f7a4_32 ?_
  refine lv_topi (fun y10 ey10 => ?_)
  have hF := bv_at ey10 hF
  refine lv_istore_n (lv' := [(0, .int y10)]) hx hb dJ6_bitCount_0f7a4_33 rfl hl (by decide) rfl (fun ls hl => ?_)
  refine lv_iload_n hx hb dJ6_bitCount_0f7a4_34 rfl (lv_at hl 0 rfl) ?_
  refine lv_iload_n hx hb dJ6_bitCount_0f7a4_35 rfl (lv_at hl 0 rfl) ?_
  refine lv_bipush (v := 8) hx hb dJ6_bitCount_0f7a4_36 (by decide) ?_
  refine lv_iushr hx hb dJ6_bitCount_0f7a4_38 rfl ?_
  refine lv_topi (fun y11 ey11 => ?_)
  have hF := bv_at ey11 hF
  refine lv_iadd hx hb dJ6_bitCount_0f7a4_39 ?_
  refine lv_topi (fun y12 ey12 => ?_)
  have hF := bv_at ey12 hF
  refine lv_istore_n (lv' := [(0, .int y12)]) hx hb dJ6_bitCount_0f7a4_40 rfl hl (by decide) rfl (fun ls hl => ?_)
  refine lv_iload_n hx hb dJ6_bitCount_0f7a4_41 rfl (lv_at hl 0 rfl) ?_
  refine lv_iload_n hx hb dJ6_bitCount_0f7a4_42 rfl (lv_at hl 0 rfl) ?_
  refine lv_bipush (v := 16) hx hb dJ6_bitCount_0f7a4_43 (by decide) ?_
  refine lv_iushr hx hb dJ6_bitCount_0f7a4_45 rfl ?_
  refine lv_topi (fun y13 ey13 => ?_)
  have hF := bv_at ey13 hF
  refine lv_iadd hx hb dJ6_bitCount_0f7a4_46 ?_
  refine lv_topi (fun y14 ey14 => ?_)
  have hF := bv_at ey14 hF
  refine lv_istore_n (lv' := [(0, .int y14)]) hx hb dJ6_bitCount_0f7a4_47 rfl hl (by decide) rfl (fun ls hl => ?_)
  refine lv_iload_n hx hb dJ6_bitCount_0f7a4_48 rfl (lv_at hl 0 rfl) ?_
  refine lv_bipush (v := 63) hx hb dJ6_bitCount_0f7a4_49 (by decide) ?_
  refine lv_iand hx hb dJ6_bitCount_0f7a4_51 ?_
  refine lv_topi (fun y15 ey15 => ?_)
  have hF := bv_at ey15 hF
  have e9 := some1 hF
  subst hQ
  exact W.iret (v := y15) hx hb hr (fun t ht hW => ⟨⟨y15, (), rfl, e9.symm, po_mk ht hW hP hK hD⟩, hS.F ht⟩) hS.2.2 dJ6_bitCount_0f7a4_52

noncomputable def F_X3_countsIn (Z : Mem) (ka : Nat) (xa : Int32) : Option Int32 :=
  bv (Z.1 (39 + ka) 0) fun y1 => br (y1 = xa) (bv (Z.1 (39 + ka) 3) fun y3 => br (y3 = (0 : Int32)) (some (1 : Int32)) (some (0 : Int32))) (some (0 : Int32))

set_option maxHeartbeats 4000000 in
set_option maxRecDepth 100000 in
theorem c_X3_countsIn (l : Launch) (dC : Nat → ClassId) (dI : Nat → Nat → Nat) (q : Nat → ClassId) (aa : Nat → Nat) (Z : Mem) (ka : Nat) (xa : Int32) (hka : ka < 25) (sz : Nat) (ro : Int32) (hF : F_X3_countsIn Z ka xa = some ro) : Met l yX3_countsIn wsX3_countsIn ({ frames := 2, cells := 0, slots := 0, locals := 40 }) (va_Pc [.ref (aa (39 + ka)), .int xa] (pr_ dC dI (bw q aa Z) (bty q) sz)) (va_Qi (fun (r : Int32) (_ : Unit) => r = ro) (fun (_ : Unit) t => po_ dC dI (bw q aa Z) (bty q) (va_A (bw q aa Z) sz) t) (va_A (bw q aa Z) sz)) 0 0 (va_A (bw q aa Z) sz) := by
  refine Met.ofW (cc := cX3_countsIn) (maxL := 2) (ret := (some .boolean)) (by decide) rfl ?_
  intro p e s m args below meth c s₁ B hml hv
  obtain ⟨hargs, hsz, hP, hK, hD0⟩ := hv
  have hx := B.exec
  have hb := B.bytes
  have hr := B.returns
  have hts := atoms_spec (ws := wsX3_countsIn) B.pre
  have hown : s.vm.findClass RX3 = some m.cls := findClass_of_methodNamed B.named
  have hlocks := B.notSynchronized
  subst hsz
  have hD := hD0.self (sz := s.heap.size)
  generalize hAe : va_A (bw q aa Z) s.heap.size = A at hD ⊢
  have hA : ∀ x : Nat, s.heap.size ≤ x → A x := fun x h => by rw [← hAe]; exact Or.inr h
  have hS : va_S A s.heap s.heap [] := va_S.rf
  have hinX3 : ∀ w ∈ u_ws RX3 TX3 7, w ∈ wsX3_countsIn := by decide +kernel
  have hl := lv_entry ([.ref (aa (39 + ka)), .int xa]) (n := 2) (Nat.le_of_ble_eq_true rfl)
  refine w_ent hargs ?_
  rw [lg_entry_eq]
  generalize (lg_sl ([.ref (aa (39 + ka)), .int xa]) ++ List.replicate (2 - (lg_sl ([.ref (aa (39 + ka)), .int xa])).length) Slot.unset).toArray = ls at hl ⊢
  have hl : lv_has ls 2 [(0, .ref (aa (39 + ka))), (1, .int xa)] := hl
  unfold F_X3_countsIn at hF
  refine w_go (fun Q hQ => ?_)
  refine lv_aload_n hx hb dX3_countsIn_0 rfl (lv_at hl 0 rfl) ?_
  refine va_get (D := (dC, dI)) (ci := 5) (v := .int (Z.1 (39 + ka) 0)) (C := RX3) (T := TX3) (N := 7) hx hb hts hinX3 hown hK hP (39 + ka) (bw_at (i := 39 + ka) (by omega) (bk_stk hka _ _)) rfl 0 (by decide) (hts (.fieldLink RX3 43 "BallotLoom$Stack" "district" "I") (by decide +kernel)) (fun _ h9 => h9) rfl dX3_countsIn_1 ?_
  refine lv_topi (fun y1 ey1 => ?_)
  have hF := bv_at ey1 hF
  refine lv_iload_n hx hb dX3_countsIn_4 rfl (lv_at hl 1 rfl) ?_
  refine lv_icmp_ne (tgt := 19) hx hb dX3_countsIn_5 (by decide) (fun hc2 => ?_) (fun hc2 => ?_)
  · have hF := br_neg hc2 hF
    refine lv_iconst (v := 0) hx hb dX3_countsIn_19 (by decide) ?_
    have e9 := some1 hF
    subst hQ
    exact W.zret (v := 0) hx hb hr rfl (fun t ht hW => ⟨⟨0, (), rfl, e9.symm, po_mk ht hW hP hK hD⟩, hS.F ht⟩) hS.2.2 dX3_countsIn_20
  · have hF := br_pos hc2 hF
    refine lv_aload_n hx hb dX3_countsIn_8 rfl (lv_at hl 0 rfl) ?_
    refine va_get (D := (dC, dI)) (ci := 5) (v := .int (Z.1 (39 + ka) 3)) (C := RX3) (T := TX3) (N := 7) hx hb hts hinX3 hown hK hP (39 + ka) (bw_at (i := 39 + ka) (by omega) (bk_stk hka _ _)) rfl 3 (by decide) (hts (.fieldLink RX3 28 "BallotLoom$Stack" "isSpoiled" "Z") (by decide +kernel)) (fun _ h9 => h9) rfl dX3_countsIn_9 ?_
    refine lv_topi (fun y3 ey3 => ?_)
    have hF := bv_at ey3 hF
    refine lv_if_ne (tgt := 19) hx hb dX3_countsIn_12 (by decide) (fun hc4 => ?_) (fun hc4 => ?_)
    · have hF := br_neg hc4 hF
      refine lv_iconst (v := 0) hx hb dX3_countsIn_19 (by decide) ?_
      have e9 := some1 hF
      subst hQ
      exact W.zret (v := 0) hx hb hr rfl (fun t ht hW => ⟨⟨0, (), rfl, e9.symm, po_mk ht hW hP hK hD⟩, hS.F ht⟩) hS.2.2 dX3_countsIn_20
    · have hF := br_pos hc4 hF
      refine lv_iconst (v := 1) hx hb dX3_countsIn_15 (by decide) ?_
      refine lv_goto (tgt := 20) hx hb dX3_countsIn_16 (by decide) ?_
      have e9 := some1 hF
      subst hQ
      exact W.zret (v := 1) hx hb hr rfl (fun t ht hW => ⟨⟨1, (), rfl, e9.symm, po_mk ht hW hP hK hD⟩, hS.F ht⟩) hS.2.2 dX3_countsIn_20

noncomputable def F_X3_placeOf_x2 (Z : Mem) (ka : Nat) : Option Int32 :=
  bv (Z.1 (39 + ka) 5) fun y1 => some y1

noncomputable def F_X3_placeOf_l2 (Z : Mem) (ka : Nat) (xa : Int32) (K_2 : Option Int32) : Nat → Int32 → Option Int32
  | 0, _ => none
  | n2 + 1, u2 =>
  bv (Z.1 (39 + ka) 5) fun y3 => br (y3 ≤ u2) (K_2) (gd (¬ (u2 < 0 ∨ 6 ≤ ix u2)) <| bv (Z.1 (64 + ka) (ix u2)) fun y6 => br (y6 = xa) (some u2) ((F_X3_placeOf_l2 Z ka xa K_2 n2) (u2 + (1 : Int32))))

noncomputable def F_X3_placeOf (Z : Mem) (ka : Nat) (xa : Int32) : Option Int32 :=
  F_X3_placeOf_l2 Z ka xa (F_X3_placeOf_x2 Z ka) 100 (0 : Int32)

set_option maxHeartbeats 4000000 in
set_option maxRecDepth 100000 in
theorem c_X3_placeOf (l : Launch) (dC : Nat → ClassId) (dI : Nat → Nat → Nat) (q : Nat → ClassId) (aa : Nat → Nat) (Z : Mem) (ka : Nat) (xa : Int32) (hka : ka < 25) (sz : Nat) (ro : Int32) (hF : F_X3_placeOf Z ka xa = some ro) : Met l yX3_placeOf wsX3_placeOf ({ frames := 2, cells := 0, slots := 0, locals := 40 }) (va_Pc [.ref (aa (39 + ka)), .int xa] (pr_ dC dI (bw q aa Z) (bty q) sz)) (va_Qi (fun (r : Int32) (_ : Unit) => r = ro) (fun (_ : Unit) t => po_ dC dI (bw q aa Z) (bty q) (va_A (bw q aa Z) sz) t) (va_A (bw q aa Z) sz)) 0 0 (va_A (bw q aa Z) sz) := by
  refine Met.ofW (cc := cX3_placeOf) (maxL := 3) (ret := (some .int)) (by decide) rfl ?_
  intro p e s m args below meth c s₁ B hml hv
  obtain ⟨hargs, hsz, hP, hK, hD0⟩ := hv
  have hx := B.exec
  have hb := B.bytes
  have hr := B.returns
  have hts := atoms_spec (ws := wsX3_placeOf) B.pre
  have hown : s.vm.findClass RX3 = some m.cls := findClass_of_methodNamed B.named
  have hlocks := B.notSynchronized
  subst hsz
  have hD := hD0.self (sz := s.heap.size)
  generalize hAe : va_A (bw q aa Z) s.heap.size = A at hD ⊢
  have hA : ∀ x : Nat, s.heap.size ≤ x → A x := fun x h => by rw [← hAe]; exact Or.inr h
  have hS : va_S A s.heap s.heap [] := va_S.rf
  have hinX3 : ∀ w ∈ u_ws RX3 TX3 7, w ∈ wsX3_placeOf := by decide +kernel
  have hl := lv_entry ([.ref (aa (39 + ka)), .int xa]) (n := 3) (Nat.le_of_ble_eq_true rfl)
  refine w_ent hargs ?_
  rw [lg_entry_eq]
  generalize (lg_sl ([.ref (aa (39 + ka)), .int xa]) ++ List.replicate (3 - (lg_sl ([.ref (aa (39 + ka)), .int xa])).length) Slot.unset).toArray = ls at hl ⊢
  have hl : lv_has ls 3 [(0, .ref (aa (39 + ka))), (1, .int xa)] := hl
  unfold F_X3_placeOf at hF
  refine w_go (fun Q hQ => ?_)
  refine lv_iconst (v := 0) hx hb dX3_placeOf_0 (by decide) ?_
  refine lv_istore_n (lv' := [(2, .int 0), (0, .ref (aa (39 + ka))), (1, .int xa)]) hx hb dX3_placeOf_1 rfl hl (by decide) rfl (fun ls hl => ?_)
  have Jx2 : ∀  (H : Heap) (locs : List Loc) (ls : Array Slot), (F_X3_placeOf_x2 Z ka) = some ro → va_P (dC, dI) vwCl (bw q aa Z) H → va_D A (bw q aa Z) → va_S A s.heap H locs → lv_has ls 3 [(0, .ref (aa (39 + ka)))] → W p l e (headSpec wsX3_placeOf ({ frames := 2, cells := 0, slots := 0, locals := 40 } : Room)).room s m args below meth c H locs 0 0 Q (F0 m 28 ls []) := by
    intro  H locs ls hF hP hD hS hl
    unfold F_X3_placeOf_x2 at hF
    refine lv_aload_n hx hb dX3_placeOf_28 rfl (lv_at hl 0 rfl) ?_
    refine va_get (D := (dC, dI)) (ci := 5) (v := .int (Z.1 (39 + ka) 5)) (C := RX3) (T := TX3) (N := 7) hx hb hts hinX3 hown hK hP (39 + ka) (bw_at (i := 39 + ka) (by omega) (bk_stk hka _ _)) rfl 5 (by decide) (hts (.fieldLink RX3 36 "BallotLoom$Stack" "length" "I") (by decide +kernel)) (fun _ h9 => h9) rfl dX3_placeOf_29 ?_
    refine lv_topi (fun y1 ey1 => ?_)
    have hF := bv_at ey1 hF
    have e9 := some1 hF
    subst hQ
    exact W.iret (v := y1) hx hb hr (fun t ht hW => ⟨⟨y1, (), rfl, e9.symm, po_mk ht hW hP hK hD⟩, hS.F ht⟩) hS.2.2 dX3_placeOf_32
  have L2 : ∀ (n2 : Nat) (u2 : Int32) (H : Heap) (locs : List Loc) (ls : Array Slot), F_X3_placeOf_l2 Z ka xa (F_X3_placeOf_x2 Z ka) n2 u2 = some ro → va_P (dC, dI) vwCl (bw q aa Z) H → va_D A (bw q aa Z) → va_S A s.heap H locs → lv_has ls 3 [(2, .int u2), (0, .ref (aa (39 + ka))), (1, .int xa)] → W p l e (headSpec wsX3_placeOf ({ frames := 2, cells := 0, slots := 0, locals := 40 } : Room)).room s m args below meth c H locs 0 0 Q (F0 m 2 ls []) := by
    intro n2
    induction n2 with
    | zero =>
      intro u2 H locs ls hF
      rw [F_X3_placeOf_l2] at hF
      cases hF
    | succ n2 IH2 =>
      intro u2 H locs ls hF hP hD hS hl
      rw [F_X3_placeOf_l2] at hF
      refine lv_iload_n hx hb dX3_placeOf_2 rfl (lv_at hl 0 rfl) ?_
      refine lv_aload_n hx hb dX3_placeOf_3 rfl (lv_at hl 1 rfl) ?_
      refine va_get (D := (dC, dI)) (ci := 5) (v := .int (Z.1 (39 + ka) 5)) (C := RX3) (T := TX3) (N := 7) hx hb hts hinX3 hown hK hP (39 + ka) (bw_at (i := 39 + ka) (by omega) (bk_stk hka _ _)) rfl 5 (by decide) (hts (.fieldLink RX3 36 "BallotLoom$Stack" "length" "I") (by decide +kernel)) (fun _ h9 => h9) rfl dX3_placeOf_4 ?_
      refine lv_topi (fun y3 ey3 => ?_)
      have hF := bv_at ey3 hF
      refine lv_icmp_ge (tgt := 28) hx hb dX3_placeOf_7 (by decide) (fun hc4 => ?_) (fun hc4 => ?_)
      · have hF := br_pos hc4 hF
        exact Jx2  _ _ _ hF hP hD hS (lv_sub hl [1] rfl)
      · have hF := br_neg hc4 hF
        refine lv_aload_n hx hb dX3_placeOf_10 rfl (lv_at hl 1 rfl) ?_
        refine va_get (D := (dC, dI)) (ci := 5) (v := .ref (aa (64 + ka))) (C := RX3) (T := TX3) (N := 7) hx hb hts hinX3 hown hK hP (39 + ka) (bw_at (i := 39 + ka) (by omega) (bk_stk hka _ _)) rfl 4 (by decide) (hts (.fieldLink RX3 9 "BallotLoom$Stack" "list" "[I") (by decide +kernel)) (fun _ h9 => h9) rfl dX3_placeOf_11 ?_
        refine lv_iload_n hx hb dX3_placeOf_14 rfl (lv_at hl 0 rfl) ?_
        obtain ⟨hg5, hF⟩ := gd_some hF
        refine va_iald hx hb hK hP (64 + ka) 0 (at_i (by omega) (bk_lst hka)) rfl hg5 dX3_placeOf_15 ?_
        refine lv_topi (fun y6 ey6 => ?_)
        have hF := bv_at ey6 hF
        refine lv_iload_n hx hb dX3_placeOf_16 rfl (lv_at hl 2 rfl) ?_
        refine lv_icmp_ne (tgt := 22) hx hb dX3_placeOf_17 (by decide) (fun hc7 => ?_) (fun hc7 => ?_)
        · have hF := br_neg hc7 hF
          refine lv_iinc (k := 0) (v := (u2 + (1 : Int32))) (lv' := [(2, .int (u2 + (1 : Int32))), (0, .ref (aa (39 + ka))), (1, .int xa)]) hx hb dX3_placeOf_22 hl rfl (ii_ _ _ _ (by decide)) (by decide) rfl (fun ls hl => ?_)
          refine lv_goto (tgt := 2) hx hb dX3_placeOf_25 (by decide) ?_
          exact IH2 (u2 + (1 : Int32)) _ _ _ hF hP hD hS (lv_sub hl [0, 1, 2] rfl)
        · have hF := br_pos hc7 hF
          refine lv_iload_n hx hb dX3_placeOf_20 rfl (lv_at hl 0 rfl) ?_
          have e9 := some1 hF
          subst hQ
          exact W.iret (v := u2) hx hb hr (fun t ht hW => ⟨⟨u2, (), rfl, e9.symm, po_mk ht hW hP hK hD⟩, hS.F ht⟩) hS.2.2 dX3_placeOf_21
  exact L2 100 (0 : Int32) _ _ _ hF hP hD hS (lv_sub hl [0, 1, 2] rfl)

noncomputable def F_X3_firstOf_12_x2  : Option Int32 :=
  some ((-1) : Int32)

noncomputable def F_X3_firstOf_12_l2 (Z : Mem) (ka : Nat) (K_2 : Option Int32) : Nat → Int32 → Option Int32
  | 0, _ => none
  | n2 + 1, u1 =>
  bv (Z.1 (39 + ka) 5) fun y2 => br (y2 ≤ u1) (K_2) (gd (¬ (u1 < 0 ∨ 6 ≤ ix u1)) <| bv (Z.1 (64 + ka) (ix u1)) fun y5 => gd (¬ (y5 < 0 ∨ 6 ≤ ix y5)) <| bv (Z.1 12 (ix y5)) fun y7 => br (y7 = (0 : Int32)) ((F_X3_firstOf_12_l2 Z ka K_2 n2) (u1 + (1 : Int32))) (bv (Z.1 (64 + ka) (ix u1)) fun y9 => some y9))

noncomputable def F_X3_firstOf_12 (Z : Mem) (ka : Nat) : Option Int32 :=
  F_X3_firstOf_12_l2 Z ka F_X3_firstOf_12_x2 100 (0 : Int32)

set_option maxHeartbeats 4000000 in
set_option maxRecDepth 100000 in
theorem c_X3_firstOf_12 (l : Launch) (dC : Nat → ClassId) (dI : Nat → Nat → Nat) (q : Nat → ClassId) (aa : Nat → Nat) (Z : Mem) (ka : Nat) (hka : ka < 25) (sz : Nat) (ro : Int32) (hF : F_X3_firstOf_12 Z ka = some ro) : Met l yX3_firstOf wsX3_firstOf ({ frames := 2, cells := 0, slots := 0, locals := 40 }) (va_Pc [.ref (aa (39 + ka)), .ref (aa 12)] (pr_ dC dI (bw q aa Z) (bty q) sz)) (va_Qi (fun (r : Int32) (_ : Unit) => r = ro) (fun (_ : Unit) t => po_ dC dI (bw q aa Z) (bty q) (va_A (bw q aa Z) sz) t) (va_A (bw q aa Z) sz)) 0 0 (va_A (bw q aa Z) sz) := by
  refine Met.ofW (cc := cX3_firstOf) (maxL := 3) (ret := (some .int)) (by decide) rfl ?_
  intro p e s m args below meth c s₁ B hml hv
  obtain ⟨hargs, hsz, hP, hK, hD0⟩ := hv
  have hx := B.exec
  have hb := B.bytes
  have hr := B.returns
  have hts := atoms_spec (ws := wsX3_firstOf) B.pre
  have hown : s.vm.findClass RX3 = some m.cls := findClass_of_methodNamed B.named
  have hlocks := B.notSynchronized
  subst hsz
  have hD := hD0.self (sz := s.heap.size)
  generalize hAe : va_A (bw q aa Z) s.heap.size = A at hD ⊢
  have hA : ∀ x : Nat, s.heap.size ≤ x → A x := fun x h => by rw [← hAe]; exact Or.inr h
  have hS : va_S A s.heap s.heap [] := va_S.rf
  have hinX3 : ∀ w ∈ u_ws RX3 TX3 7, w ∈ wsX3_firstOf := by decide +kernel
  have hl := lv_entry ([.ref (aa (39 + ka)), .ref (aa 12)]) (n := 3) (Nat.le_of_ble_eq_true rfl)
  refine w_ent hargs ?_
  rw [lg_entry_eq]
  generalize (lg_sl ([.ref (aa (39 + ka)), .ref (aa 12)]) ++ List.replicate (3 - (lg_sl ([.ref (aa (39 + ka)), .ref (aa 12)])).length) Slot.unset).toArray = ls at hl ⊢
  have hl : lv_has ls 3 [(0, .ref (aa (39 + ka))), (1, .ref (aa 12))] := hl
  unfold F_X3_firstOf_12 at hF
  refine w_go (fun Q hQ => ?_)
  refine lv_iconst (v := 0) hx hb dX3_firstOf_0 (by decide) ?_
  refine lv_istore_n (lv' := [(2, .int 0), (0, .ref (aa (39 + ka))), (1, .ref (aa 12))]) hx hb dX3_firstOf_1 rfl hl (by decide) rfl (fun ls hl => ?_)
  have Jx2 : ∀  (H : Heap) (locs : List Loc) (ls : Array Slot), F_X3_firstOf_12_x2 = some ro → va_P (dC, dI) vwCl (bw q aa Z) H → va_D A (bw q aa Z) → va_S A s.heap H locs → lv_has ls 3 [] → W p l e (headSpec wsX3_firstOf ({ frames := 2, cells := 0, slots := 0, locals := 40 } : Room)).room s m args below meth c H locs 0 0 Q (F0 m 34 ls []) := by
    intro  H locs ls hF hP hD hS hl
    unfold F_X3_firstOf_12_x2 at hF
    refine lv_iconst (v := (-1)) hx hb dX3_firstOf_34 (by decide) ?_
    have e9 := some1 hF
    subst hQ
    exact W.iret (v := (-1)) hx hb hr (fun t ht hW => ⟨⟨(-1), (), rfl, e9.symm, po_mk ht hW hP hK hD⟩, hS.F ht⟩) hS.2.2 dX3_firstOf_35
  have L2 : ∀ (n2 : Nat) (u1 : Int32) (H : Heap) (locs : List Loc) (ls : Array Slot), F_X3_firstOf_12_l2 Z ka F_X3_firstOf_12_x2 n2 u1 = some ro → va_P (dC, dI) vwCl (bw q aa Z) H → va_D A (bw q aa Z) → va_S A s.heap H locs → lv_has ls 3 [(2, .int u1), (0, .ref (aa (39 + ka))), (1, .ref (aa 12))] → W p l e (headSpec wsX3_firstOf ({ frames := 2, cells := 0, slots := 0, locals := 40 } : Room)).room s m args below meth c H locs 0 0 Q (F0 m 2 ls []) := by
    intro n2
    induction n2 with
    | zero =>
      intro u1 H locs ls hF
      rw [F_X3_firstOf_12_l2] at hF
      cases hF
    | succ n2 IH2 =>
      intro u1 H locs ls hF hP hD hS hl
      rw [F_X3_firstOf_12_l2] at hF
      refine lv_iload_n hx hb dX3_firstOf_2 rfl (lv_at hl 0 rfl) ?_
      refine lv_aload_n hx hb dX3_firstOf_3 rfl (lv_at hl 1 rfl) ?_
      refine va_get (D := (dC, dI)) (ci := 5) (v := .int (Z.1 (39 + ka) 5)) (C := RX3) (T := TX3) (N := 7) hx hb hts hinX3 hown hK hP (39 + ka) (bw_at (i := 39 + ka) (by omega) (bk_stk hka _ _)) rfl 5 (by decide) (hts (.fieldLink RX3 36 "BallotLoom$Stack" "length" "I") (by decide +kernel)) (fun _ h9 => h9) rfl dX3_firstOf_4 ?_
      refine lv_topi (fun y2 ey2 => ?_)
      have hF := bv_at ey2 hF
      refine lv_icmp_ge (tgt := 34) hx hb dX3_firstOf_7 (by decide) (fun hc3 => ?_) (fun hc3 => ?_)
      · have hF := br_pos hc3 hF
        exact Jx2  _ _ _ hF hP hD hS (lv_sub hl [] rfl)
      · have hF := br_neg hc3 hF
        refine lv_aload_n hx hb dX3_firstOf_10 rfl (lv_at hl 2 rfl) ?_
        refine lv_aload_n hx hb dX3_firstOf_11 rfl (lv_at hl 1 rfl) ?_
        refine va_get (D := (dC, dI)) (ci := 5) (v := .ref (aa (64 + ka))) (C := RX3) (T := TX3) (N := 7) hx hb hts hinX3 hown hK hP (39 + ka) (bw_at (i := 39 + ka) (by omega) (bk_stk hka _ _)) rfl 4 (by decide) (hts (.fieldLink RX3 9 "BallotLoom$Stack" "list" "[I") (by decide +kernel)) (fun _ h9 => h9) rfl dX3_firstOf_12 ?_
        refine lv_iload_n hx hb dX3_firstOf_15 rfl (lv_at hl 0 rfl) ?_
        obtain ⟨hg4, hF⟩ := gd_some hF
        refine va_iald hx hb hK hP (64 + ka) 0 (at_i (by omega) (bk_lst hka)) rfl hg4 dX3_firstOf_16 ?_
        refine lv_topi (fun y5 ey5 => ?_)
        have hF := bv_at ey5 hF
        obtain ⟨hg6, hF⟩ := gd_some hF
        refine va_zald hx hb hK hP 12 1 (at_i (by decide) (fun _ _ => rfl)) rfl hg6 dX3_firstOf_17 ?_
        refine lv_topi (fun y7 ey7 => ?_)
        have hF := bv_at ey7 hF
        refine lv_if_eq (tgt := 28) hx hb dX3_firstOf_18 (by decide) (fun hc8 => ?_) (fun hc8 => ?_)
        · have hF := br_pos hc8 hF
          refine lv_iinc (k := 0) (v := (u1 + (1 : Int32))) (lv' := [(2, .int (u1 + (1 : Int32))), (0, .ref (aa (39 + ka))), (1, .ref (aa 12))]) hx hb dX3_firstOf_28 hl rfl (ii_ _ _ _ (by decide)) (by decide) rfl (fun ls hl => ?_)
          refine lv_goto (tgt := 2) hx hb dX3_firstOf_31 (by decide) ?_
          exact IH2 (u1 + (1 : Int32)) _ _ _ hF hP hD hS (lv_sub hl [0, 1, 2] rfl)
        · have hF := br_neg hc8 hF
          refine lv_aload_n hx hb dX3_firstOf_21 rfl (lv_at hl 1 rfl) ?_
          refine va_get (D := (dC, dI)) (ci := 5) (v := .ref (aa (64 + ka))) (C := RX3) (T := TX3) (N := 7) hx hb hts hinX3 hown hK hP (39 + ka) (bw_at (i := 39 + ka) (by omega) (bk_stk hka _ _)) rfl 4 (by decide) (hts (.fieldLink RX3 9 "BallotLoom$Stack" "list" "[I") (by decide +kernel)) (fun _ h9 => h9) rfl dX3_firstOf_22 ?_
          refine lv_iload_n hx hb dX3_firstOf_25 rfl (lv_at hl 0 rfl) ?_
          refine va_iald hx hb hK hP (64 + ka) 0 (at_i (by omega) (bk_lst hka)) rfl hg4 dX3_firstOf_26 ?_
          refine lv_topi (fun y9 ey9 => ?_)
          have hF := bv_at ey9 hF
          have e9 := some1 hF
          subst hQ
          exact W.iret (v := y9) hx hb hr (fun t ht hW => ⟨⟨y9, (), rfl, e9.symm, po_mk ht hW hP hK hD⟩, hS.F ht⟩) hS.2.2 dX3_firstOf_27
  exact L2 100 (0 : Int32) _ _ _ hF hP hD hS (lv_sub hl [0, 1, 2] rfl)

noncomputable def F_X3_firstOf_28_x2  : Option Int32 :=
  some ((-1) : Int32)

noncomputable def F_X3_firstOf_28_l2 (Z : Mem) (ka : Nat) (K_2 : Option Int32) : Nat → Int32 → Option Int32
  | 0, _ => none
  | n2 + 1, u1 =>
  bv (Z.1 (39 + ka) 5) fun y2 => br (y2 ≤ u1) (K_2) (gd (¬ (u1 < 0 ∨ 6 ≤ ix u1)) <| bv (Z.1 (64 + ka) (ix u1)) fun y5 => gd (¬ (y5 < 0 ∨ 6 ≤ ix y5)) <| bv (Z.1 28 (ix y5)) fun y7 => br (y7 = (0 : Int32)) ((F_X3_firstOf_28_l2 Z ka K_2 n2) (u1 + (1 : Int32))) (bv (Z.1 (64 + ka) (ix u1)) fun y9 => some y9))

noncomputable def F_X3_firstOf_28 (Z : Mem) (ka : Nat) : Option Int32 :=
  F_X3_firstOf_28_l2 Z ka F_X3_firstOf_28_x2 100 (0 : Int32)

set_option maxHeartbeats 4000000 in
set_option maxRecDepth 100000 in
theorem c_X3_firstOf_28 (l : Launch) (dC : Nat → ClassId) (dI : Nat → Nat → Nat) (q : Nat → ClassId) (aa : Nat → Nat) (Z : Mem) (ka : Nat) (hka : ka < 25) (sz : Nat) (ro : Int32) (hF : F_X3_firstOf_28 Z ka = some ro) : Met l yX3_firstOf wsX3_firstOf ({ frames := 2, cells := 0, slots := 0, locals := 40 }) (va_Pc [.ref (aa (39 + ka)), .ref (aa 28)] (pr_ dC dI (bw q aa Z) (bty q) sz)) (va_Qi (fun (r : Int32) (_ : Unit) => r = ro) (fun (_ : Unit) t => po_ dC dI (bw q aa Z) (bty q) (va_A (bw q aa Z) sz) t) (va_A (bw q aa Z) sz)) 0 0 (va_A (bw q aa Z) sz) := by
  refine Met.ofW (cc := cX3_firstOf) (maxL := 3) (ret := (some .int)) (by decide) rfl ?_
  intro p e s m args below meth c s₁ B hml hv
  obtain ⟨hargs, hsz, hP, hK, hD0⟩ := hv
  have hx := B.exec
  have hb := B.bytes
  have hr := B.returns
  have hts := atoms_spec (ws := wsX3_firstOf) B.pre
  have hown : s.vm.findClass RX3 = some m.cls := findClass_of_methodNamed B.named
  have hlocks := B.notSynchronized
  subst hsz
  have hD := hD0.self (sz := s.heap.size)
  generalize hAe : va_A (bw q aa Z) s.heap.size = A at hD ⊢
  have hA : ∀ x : Nat, s.heap.size ≤ x → A x := fun x h => by rw [← hAe]; exact Or.inr h
  have hS : va_S A s.heap s.heap [] := va_S.rf
  have hinX3 : ∀ w ∈ u_ws RX3 TX3 7, w ∈ wsX3_firstOf := by decide +kernel
  have hl := lv_entry ([.ref (aa (39 + ka)), .ref (aa 28)]) (n := 3) (Nat.le_of_ble_eq_true rfl)
  refine w_ent hargs ?_
  rw [lg_entry_eq]
  generalize (lg_sl ([.ref (aa (39 + ka)), .ref (aa 28)]) ++ List.replicate (3 - (lg_sl ([.ref (aa (39 + ka)), .ref (aa 28)])).length) Slot.unset).toArray = ls at hl ⊢
  have hl : lv_has ls 3 [(0, .ref (aa (39 + ka))), (1, .ref (aa 28))] := hl
  unfold F_X3_firstOf_28 at hF
  refine w_go (fun Q hQ => ?_)
  refine lv_iconst (v := 0) hx hb dX3_firstOf_0 (by decide) ?_
  refine lv_istore_n (lv' := [(2, .int 0), (0, .ref (aa (39 + ka))), (1, .ref (aa 28))]) hx hb dX3_firstOf_1 rfl hl (by decide) rfl (fun ls hl => ?_)
  have Jx2 : ∀  (H : Heap) (locs : List Loc) (ls : Array Slot), F_X3_firstOf_28_x2 = some ro → va_P (dC, dI) vwCl (bw q aa Z) H → va_D A (bw q aa Z) → va_S A s.heap H locs → lv_has ls 3 [] → W p l e (headSpec wsX3_firstOf ({ frames := 2, cells := 0, slots := 0, locals := 40 } : Room)).room s m args below meth c H locs 0 0 Q (F0 m 34 ls []) := by
    intro  H locs ls hF hP hD hS hl
    unfold F_X3_firstOf_28_x2 at hF
    refine lv_iconst (v := (-1)) hx hb dX3_firstOf_34 (by decide) ?_
    have e9 := some1 hF
    subst hQ
    exact W.iret (v := (-1)) hx hb hr (fun t ht hW => ⟨⟨(-1), (), rfl, e9.symm, po_mk ht hW hP hK hD⟩, hS.F ht⟩) hS.2.2 dX3_firstOf_35
  have L2 : ∀ (n2 : Nat) (u1 : Int32) (H : Heap) (locs : List Loc) (ls : Array Slot), F_X3_firstOf_28_l2 Z ka F_X3_firstOf_28_x2 n2 u1 = some ro → va_P (dC, dI) vwCl (bw q aa Z) H → va_D A (bw q aa Z) → va_S A s.heap H locs → lv_has ls 3 [(2, .int u1), (0, .ref (aa (39 + ka))), (1, .ref (aa 28))] → W p l e (headSpec wsX3_firstOf ({ frames := 2, cells := 0, slots := 0, locals := 40 } : Room)).room s m args below meth c H locs 0 0 Q (F0 m 2 ls []) := by
    intro n2
    induction n2 with
    | zero =>
      intro u1 H locs ls hF
      rw [F_X3_firstOf_28_l2] at hF
      cases hF
    | succ n2 IH2 =>
      intro u1 H locs ls hF hP hD hS hl
      rw [F_X3_firstOf_28_l2] at hF
      refine lv_iload_n hx hb dX3_firstOf_2 rfl (lv_at hl 0 rfl) ?_
      refine lv_aload_n hx hb dX3_firstOf_3 rfl (lv_at hl 1 rfl) ?_
      refine va_get (D := (dC, dI)) (ci := 5) (v := .int (Z.1 (39 + ka) 5)) (C := RX3) (T := TX3) (N := 7) hx hb hts hinX3 hown hK hP (39 + ka) (bw_at (i := 39 + ka) (by omega) (bk_stk hka _ _)) rfl 5 (by decide) (hts (.fieldLink RX3 36 "BallotLoom$Stack" "length" "I") (by decide +kernel)) (fun _ h9 => h9) rfl dX3_firstOf_4 ?_
      refine lv_topi (fun y2 ey2 => ?_)
      have hF := bv_at ey2 hF
      refine lv_icmp_ge (tgt := 34) hx hb dX3_firstOf_7 (by decide) (fun hc3 => ?_) (fun hc3 => ?_)
      · have hF := br_pos hc3 hF
        exact Jx2  _ _ _ hF hP hD hS (lv_sub hl [] rfl)
      · have hF := br_neg hc3 hF
        refine lv_aload_n hx hb dX3_firstOf_10 rfl (lv_at hl 2 rfl) ?_
        refine lv_aload_n hx hb dX3_firstOf_11 rfl (lv_at hl 1 rfl) ?_
        refine va_get (D := (dC, dI)) (ci := 5) (v := .ref (aa (64 + ka))) (C := RX3) (T := TX3) (N := 7) hx hb hts hinX3 hown hK hP (39 + ka) (bw_at (i := 39 + ka) (by omega) (bk_stk hka _ _)) rfl 4 (by decide) (hts (.fieldLink RX3 9 "BallotLoom$Stack" "list" "[I") (by decide +kernel)) (fun _ h9 => h9) rfl dX3_firstOf_12 ?_
        refine lv_iload_n hx hb dX3_firstOf_15 rfl (lv_at hl 0 rfl) ?_
        obtain ⟨hg4, hF⟩ := gd_some hF
        refine va_iald hx hb hK hP (64 + ka) 0 (at_i (by omega) (bk_lst hka)) rfl hg4 dX3_firstOf_16 ?_
        refine lv_topi (fun y5 ey5 => ?_)
        have hF := bv_at ey5 hF
        obtain ⟨hg6, hF⟩ := gd_some hF
        refine va_zald hx hb hK hP 28 1 (at_i (by decide) (fun _ _ => rfl)) rfl hg6 dX3_firstOf_17 ?_
        refine lv_topi (fun y7 ey7 => ?_)
        have hF := bv_at ey7 hF
        refine lv_if_eq (tgt := 28) hx hb dX3_firstOf_18 (by decide) (fun hc8 => ?_) (fun hc8 => ?_)
        · have hF := br_pos hc8 hF
          refine lv_iinc (k := 0) (v := (u1 + (1 : Int32))) (lv' := [(2, .int (u1 + (1 : Int32))), (0, .ref (aa (39 + ka))), (1, .ref (aa 28))]) hx hb dX3_firstOf_28 hl rfl (ii_ _ _ _ (by decide)) (by decide) rfl (fun ls hl => ?_)
          refine lv_goto (tgt := 2) hx hb dX3_firstOf_31 (by decide) ?_
          exact IH2 (u1 + (1 : Int32)) _ _ _ hF hP hD hS (lv_sub hl [0, 1, 2] rfl)
        · have hF := br_neg hc8 hF
          refine lv_aload_n hx hb dX3_firstOf_21 rfl (lv_at hl 1 rfl) ?_
          refine va_get (D := (dC, dI)) (ci := 5) (v := .ref (aa (64 + ka))) (C := RX3) (T := TX3) (N := 7) hx hb hts hinX3 hown hK hP (39 + ka) (bw_at (i := 39 + ka) (by omega) (bk_stk hka _ _)) rfl 4 (by decide) (hts (.fieldLink RX3 9 "BallotLoom$Stack" "list" "[I") (by decide +kernel)) (fun _ h9 => h9) rfl dX3_firstOf_22 ?_
          refine lv_iload_n hx hb dX3_firstOf_25 rfl (lv_at hl 0 rfl) ?_
          refine va_iald hx hb hK hP (64 + ka) 0 (at_i (by omega) (bk_lst hka)) rfl hg4 dX3_firstOf_26 ?_
          refine lv_topi (fun y9 ey9 => ?_)
          have hF := bv_at ey9 hF
          have e9 := some1 hF
          subst hQ
          exact W.iret (v := y9) hx hb hr (fun t ht hW => ⟨⟨y9, (), rfl, e9.symm, po_mk ht hW hP hK hD⟩, hS.F ht⟩) hS.2.2 dX3_firstOf_27
  exact L2 100 (0 : Int32) _ _ _ hF hP hD hS (lv_sub hl [0, 1, 2] rfl)

noncomputable def F_X3_figure (Z : Mem) (ka : Nat) (xa : Int32) : Option Int32 :=
  br (xa = 0) (bv (Z.1 (39 + ka) 0) fun y2 => some y2) (br (xa = 1) (bv (Z.1 (39 + ka) 1) fun y4 => some y4) (br (xa = 2) (bv (Z.1 (39 + ka) 2) fun y6 => some y6) (br (xa = 3) (bv (Z.1 (39 + ka) 3) fun y8 => br (y8 = (0 : Int32)) (some (0 : Int32)) (some (1 : Int32))) (br (xa = 4) (bv (Z.1 (39 + ka) 5) fun y11 => some y11) (bv (Z.1 (39 + ka) 5) fun y12 => br (y12 ≤ (0 : Int32)) (some ((-1) : Int32)) (bv (Z.1 (64 + ka) (ix (0 : Int32))) fun y14 => some y14))))))

set_option maxHeartbeats 4000000 in
set_option maxRecDepth 100000 in
theorem c_X3_figure (l : Launch) (dC : Nat → ClassId) (dI : Nat → Nat → Nat) (q : Nat → ClassId) (aa : Nat → Nat) (Z : Mem) (ka : Nat) (xa : Int32) (hka : ka < 25) (sz : Nat) (ro : Int32) (hF : F_X3_figure Z ka xa = some ro) : Met l yX3_figure wsX3_figure ({ frames := 2, cells := 0, slots := 0, locals := 40 }) (va_Pc [.ref (aa (39 + ka)), .int xa] (pr_ dC dI (bw q aa Z) (bty q) sz)) (va_Qi (fun (r : Int32) (_ : Unit) => r = ro) (fun (_ : Unit) t => po_ dC dI (bw q aa Z) (bty q) (va_A (bw q aa Z) sz) t) (va_A (bw q aa Z) sz)) 0 0 (va_A (bw q aa Z) sz) := by
  refine Met.ofW (cc := cX3_figure) (maxL := 2) (ret := (some .int)) (by decide) rfl ?_
  intro p e s m args below meth c s₁ B hml hv
  obtain ⟨hargs, hsz, hP, hK, hD0⟩ := hv
  have hx := B.exec
  have hb := B.bytes
  have hr := B.returns
  have hts := atoms_spec (ws := wsX3_figure) B.pre
  have hown : s.vm.findClass RX3 = some m.cls := findClass_of_methodNamed B.named
  have hlocks := B.notSynchronized
  subst hsz
  have hD := hD0.self (sz := s.heap.size)
  generalize hAe : va_A (bw q aa Z) s.heap.size = A at hD ⊢
  have hA : ∀ x : Nat, s.heap.size ≤ x → A x := fun x h => by rw [← hAe]; exact Or.inr h
  have hS : va_S A s.heap s.heap [] := va_S.rf
  have hinX3 : ∀ w ∈ u_ws RX3 TX3 7, w ∈ wsX3_figure := by decide +kernel
  have hl := lv_entry ([.ref (aa (39 + ka)), .int xa]) (n := 2) (Nat.le_of_ble_eq_true rfl)
  refine w_ent hargs ?_
  rw [lg_entry_eq]
  generalize (lg_sl ([.ref (aa (39 + ka)), .int xa]) ++ List.replicate (2 - (lg_sl ([.ref (aa (39 + ka)), .int xa])).length) Slot.unset).toArray = ls at hl ⊢
  have hl : lv_has ls 2 [(0, .ref (aa (39 + ka))), (1, .int xa)] := hl
  unfold F_X3_figure at hF
  refine w_go (fun Q hQ => ?_)
  refine lv_iload_n hx hb dX3_figure_0 rfl (lv_at hl 1 rfl) ?_
  by_cases hq1 : xa = 0
  · have hF := br_pos hq1 hF
    refine lv_tableIn (off := 35) (tgt := 36) hx hb dX3_figure_1 (by rw [hq1]; decide) (by rw [hq1]; decide) (by rw [hq1]; rfl) (by decide) ?_
    refine lv_aload_n hx hb dX3_figure_36 rfl (lv_at hl 0 rfl) ?_
    refine va_get (D := (dC, dI)) (ci := 5) (v := .int (Z.1 (39 + ka) 0)) (C := RX3) (T := TX3) (N := 7) hx hb hts hinX3 hown hK hP (39 + ka) (bw_at (i := 39 + ka) (by omega) (bk_stk hka _ _)) rfl 0 (by decide) (hts (.fieldLink RX3 43 "BallotLoom$Stack" "district" "I") (by decide +kernel)) (fun _ h9 => h9) rfl dX3_figure_37 ?_
    refine lv_topi (fun y2 ey2 => ?_)
    have hF := bv_at ey2 hF
    have e9 := some1 hF
    subst hQ
    exact W.iret (v := y2) hx hb hr (fun t ht hW => ⟨⟨y2, (), rfl, e9.symm, po_mk ht hW hP hK hD⟩, hS.F ht⟩) hS.2.2 dX3_figure_40
  have hF := br_neg hq1 hF
  by_cases hq3 : xa = 1
  · have hF := br_pos hq3 hF
    refine lv_tableIn (off := 40) (tgt := 41) hx hb dX3_figure_1 (by rw [hq3]; decide) (by rw [hq3]; decide) (by rw [hq3]; rfl) (by decide) ?_
    refine lv_aload_n hx hb dX3_figure_41 rfl (lv_at hl 0 rfl) ?_
    refine va_get (D := (dC, dI)) (ci := 5) (v := .int (Z.1 (39 + ka) 1)) (C := RX3) (T := TX3) (N := 7) hx hb hts hinX3 hown hK hP (39 + ka) (bw_at (i := 39 + ka) (by omega) (bk_stk hka _ _)) rfl 1 (by decide) (hts (.fieldLink RX3 15 "BallotLoom$Stack" "ranks" "I") (by decide +kernel)) (fun _ h9 => h9) rfl dX3_figure_42 ?_
    refine lv_topi (fun y4 ey4 => ?_)
    have hF := bv_at ey4 hF
    have e9 := some1 hF
    subst hQ
    exact W.iret (v := y4) hx hb hr (fun t ht hW => ⟨⟨y4, (), rfl, e9.symm, po_mk ht hW hP hK hD⟩, hS.F ht⟩) hS.2.2 dX3_figure_45
  have hF := br_neg hq3 hF
  by_cases hq5 : xa = 2
  · have hF := br_pos hq5 hF
    refine lv_tableIn (off := 45) (tgt := 46) hx hb dX3_figure_1 (by rw [hq5]; decide) (by rw [hq5]; decide) (by rw [hq5]; rfl) (by decide) ?_
    refine lv_aload_n hx hb dX3_figure_46 rfl (lv_at hl 0 rfl) ?_
    refine va_get (D := (dC, dI)) (ci := 5) (v := .int (Z.1 (39 + ka) 2)) (C := RX3) (T := TX3) (N := 7) hx hb hts hinX3 hown hK hP (39 + ka) (bw_at (i := 39 + ka) (by omega) (bk_stk hka _ _)) rfl 2 (by decide) (hts (.fieldLink RX3 46 "BallotLoom$Stack" "count" "I") (by decide +kernel)) (fun _ h9 => h9) rfl dX3_figure_47 ?_
    refine lv_topi (fun y6 ey6 => ?_)
    have hF := bv_at ey6 hF
    have e9 := some1 hF
    subst hQ
    exact W.iret (v := y6) hx hb hr (fun t ht hW => ⟨⟨y6, (), rfl, e9.symm, po_mk ht hW hP hK hD⟩, hS.F ht⟩) hS.2.2 dX3_figure_50
  have hF := br_neg hq5 hF
  by_cases hq7 : xa = 3
  · have hF := br_pos hq7 hF
    refine lv_tableIn (off := 50) (tgt := 51) hx hb dX3_figure_1 (by rw [hq7]; decide) (by rw [hq7]; decide) (by rw [hq7]; rfl) (by decide) ?_
    refine lv_aload_n hx hb dX3_figure_51 rfl (lv_at hl 0 rfl) ?_
    refine va_get (D := (dC, dI)) (ci := 5) (v := .int (Z.1 (39 + ka) 3)) (C := RX3) (T := TX3) (N := 7) hx hb hts hinX3 hown hK hP (39 + ka) (bw_at (i := 39 + ka) (by omega) (bk_stk hka _ _)) rfl 3 (by decide) (hts (.fieldLink RX3 28 "BallotLoom$Stack" "isSpoiled" "Z") (by decide +kernel)) (fun _ h9 => h9) rfl dX3_figure_52 ?_
    refine lv_topi (fun y8 ey8 => ?_)
    have hF := bv_at ey8 hF
    refine lv_if_eq (tgt := 62) hx hb dX3_figure_55 (by decide) (fun hc9 => ?_) (fun hc9 => ?_)
    · have hF := br_pos hc9 hF
      refine lv_iconst (v := 0) hx hb dX3_figure_62 (by decide) ?_
      have e9 := some1 hF
      subst hQ
      exact W.iret (v := 0) hx hb hr (fun t ht hW => ⟨⟨0, (), rfl, e9.symm, po_mk ht hW hP hK hD⟩, hS.F ht⟩) hS.2.2 dX3_figure_63
    · have hF := br_neg hc9 hF
      refine lv_iconst (v := 1) hx hb dX3_figure_58 (by decide) ?_
      refine lv_goto (tgt := 63) hx hb dX3_figure_59 (by decide) ?_
      have e9 := some1 hF
      subst hQ
      exact W.iret (v := 1) hx hb hr (fun t ht hW => ⟨⟨1, (), rfl, e9.symm, po_mk ht hW hP hK hD⟩, hS.F ht⟩) hS.2.2 dX3_figure_63
  have hF := br_neg hq7 hF
  by_cases hq10 : xa = 4
  · have hF := br_pos hq10 hF
    refine lv_tableIn (off := 63) (tgt := 64) hx hb dX3_figure_1 (by rw [hq10]; decide) (by rw [hq10]; decide) (by rw [hq10]; rfl) (by decide) ?_
    refine lv_aload_n hx hb dX3_figure_64 rfl (lv_at hl 0 rfl) ?_
    refine va_get (D := (dC, dI)) (ci := 5) (v := .int (Z.1 (39 + ka) 5)) (C := RX3) (T := TX3) (N := 7) hx hb hts hinX3 hown hK hP (39 + ka) (bw_at (i := 39 + ka) (by omega) (bk_stk hka _ _)) rfl 5 (by decide) (hts (.fieldLink RX3 36 "BallotLoom$Stack" "length" "I") (by decide +kernel)) (fun _ h9 => h9) rfl dX3_figure_65 ?_
    refine lv_topi (fun y11 ey11 => ?_)
    have hF := bv_at ey11 hF
    have e9 := some1 hF
    subst hQ
    exact W.iret (v := y11) hx hb hr (fun t ht hW => ⟨⟨y11, (), rfl, e9.symm, po_mk ht hW hP hK hD⟩, hS.F ht⟩) hS.2.2 dX3_figure_68
  have hF := br_neg hq10 hF
  refine lv_tableOut (tgt := 69) hx hb dX3_figure_1 (sw_out 4 (by intro k h0 _; have h2 : k = 0 ∨ k = 1 ∨ k = 2 ∨ k = 3 ∨ k = 4 := (by omega); rcases h2 with rfl | rfl | rfl | rfl | rfl; exact hq1; exact hq3; exact hq5; exact hq7; exact hq10)) (by decide) ?_
  refine lv_aload_n hx hb dX3_figure_69 rfl (lv_at hl 0 rfl) ?_
  refine va_get (D := (dC, dI)) (ci := 5) (v := .int (Z.1 (39 + ka) 5)) (C := RX3) (T := TX3) (N := 7) hx hb hts hinX3 hown hK hP (39 + ka) (bw_at (i := 39 + ka) (by omega) (bk_stk hka _ _)) rfl 5 (by decide) (hts (.fieldLink RX3 36 "BallotLoom$Stack" "length" "I") (by decide +kernel)) (fun _ h9 => h9) rfl dX3_figure_70 ?_
  refine lv_topi (fun y12 ey12 => ?_)
  have hF := bv_at ey12 hF
  refine lv_if_le (tgt := 85) hx hb dX3_figure_73 (by decide) (fun hc13 => ?_) (fun hc13 => ?_)
  · have hF := br_pos hc13 hF
    refine lv_iconst (v := (-1)) hx hb dX3_figure_85 (by decide) ?_
    have e9 := some1 hF
    subst hQ
    exact W.iret (v := (-1)) hx hb hr (fun t ht hW => ⟨⟨(-1), (), rfl, e9.symm, po_mk ht hW hP hK hD⟩, hS.F ht⟩) hS.2.2 dX3_figure_86
  · have hF := br_neg hc13 hF
    refine lv_aload_n hx hb dX3_figure_76 rfl (lv_at hl 0 rfl) ?_
    refine va_get (D := (dC, dI)) (ci := 5) (v := .ref (aa (64 + ka))) (C := RX3) (T := TX3) (N := 7) hx hb hts hinX3 hown hK hP (39 + ka) (bw_at (i := 39 + ka) (by omega) (bk_stk hka _ _)) rfl 4 (by decide) (hts (.fieldLink RX3 9 "BallotLoom$Stack" "list" "[I") (by decide +kernel)) (fun _ h9 => h9) rfl dX3_figure_77 ?_
    refine lv_iconst (v := 0) hx hb dX3_figure_80 (by decide) ?_
    refine va_iald hx hb hK hP (64 + ka) 0 (at_i (by omega) (bk_lst hka)) rfl (by unfold vp_in; decide) dX3_figure_81 ?_
    refine lv_topi (fun y14 ey14 => ?_)
    have hF := bv_at ey14 hF
    refine lv_goto (tgt := 86) hx hb dX3_figure_82 (by decide) ?_
    have e9 := some1 hF
    subst hQ
    exact W.iret (v := y14) hx hb hr (fun t ht hW => ⟨⟨y14, (), rfl, e9.symm, po_mk ht hW hP hK hD⟩, hS.F ht⟩) hS.2.2 dX3_figure_86

noncomputable def F_X3_isSpoiling_x7  : Option Int32 :=
  some (0 : Int32)

noncomputable def F_X3_isSpoiling_l7 (xb : Int32) (K_7 : Option Int32) : Nat → Int32 → Int32 → Int32 → Option Int32
  | 0, _, _, _ => none
  | n7 + 1, u1, u2, u3 =>
  br ((6 : Int32) ≤ u3) (K_7) (br (u2 ≤ (0 : Int32)) (K_7) (bv (u2 - u2 / (10 : Int32) * (10 : Int32)) fun y6 => bv ((1 : Int32) <<< (y6 &&& 31)) fun y7 => br (y6 = (0 : Int32)) (some (1 : Int32)) (br (xb < y6) (some (1 : Int32)) (bv (u1 &&& y7) fun y10 => br (y10 = (0 : Int32)) (bv (u1 ||| y7) fun y12 => bv (u2 / (10 : Int32)) fun y13 => (F_X3_isSpoiling_l7 xb K_7 n7) y12 y13 (u3 + (1 : Int32))) (some (1 : Int32))))))

noncomputable def F_X3_isSpoiling (Z : Mem) (xa : Int32) (xb : Int32) : Option Int32 :=
  F_X3_isSpoiling_l7 xb F_X3_isSpoiling_x7 100 (0 : Int32) xa (0 : Int32)

set_option maxHeartbeats 4000000 in
set_option maxRecDepth 100000 in
theorem c_X3_isSpoiling (l : Launch) (dC : Nat → ClassId) (dI : Nat → Nat → Nat) (q : Nat → ClassId) (aa : Nat → Nat) (Z : Mem) (xa : Int32) (xb : Int32)  (sz : Nat) (ro : Int32) (hF : F_X3_isSpoiling Z xa xb = some ro) : Met l yX3_isSpoiling wsX3_isSpoiling ({ frames := 2, cells := 0, slots := 0, locals := 40 }) (va_Pc [.int xa, .int xb] (pr_ dC dI (bw q aa Z) (bty q) sz)) (va_Qi (fun (r : Int32) (_ : Unit) => r = ro) (fun (_ : Unit) t => po_ dC dI (bw q aa Z) (bty q) (va_A (bw q aa Z) sz) t) (va_A (bw q aa Z) sz)) 0 0 (va_A (bw q aa Z) sz) := by
  refine Met.ofW (cc := cX3_isSpoiling) (maxL := 7) (ret := (some .boolean)) (by decide) rfl ?_
  intro p e s m args below meth c s₁ B hml hv
  obtain ⟨hargs, hsz, hP, hK, hD0⟩ := hv
  have hx := B.exec
  have hb := B.bytes
  have hr := B.returns
  have hts := atoms_spec (ws := wsX3_isSpoiling) B.pre
  have hown : s.vm.findClass RX3 = some m.cls := findClass_of_methodNamed B.named
  have hlocks := B.notSynchronized
  subst hsz
  have hD := hD0.self (sz := s.heap.size)
  generalize hAe : va_A (bw q aa Z) s.heap.size = A at hD ⊢
  have hA : ∀ x : Nat, s.heap.size ≤ x → A x := fun x h => by rw [← hAe]; exact Or.inr h
  have hS : va_S A s.heap s.heap [] := va_S.rf
  have hl := lv_entry ([.int xa, .int xb]) (n := 7) (Nat.le_of_ble_eq_true rfl)
  refine w_ent hargs ?_
  rw [lg_entry_eq]
  generalize (lg_sl ([.int xa, .int xb]) ++ List.replicate (7 - (lg_sl ([.int xa, .int xb])).length) Slot.unset).toArray = ls at hl ⊢
  have hl : lv_has ls 7 [(0, .int xa), (1, .int xb)] := hl
  unfold F_X3_isSpoiling at hF
  refine w_go (fun Q hQ => ?_)
  refine lv_iconst (v := 0) hx hb dX3_isSpoiling_0 (by decide) ?_
  refine lv_istore_n (lv' := [(2, .int 0), (0, .int xa), (1, .int xb)]) hx hb dX3_isSpoiling_1 rfl hl (by decide) rfl (fun ls hl => ?_)
  refine lv_iload_n hx hb dX3_isSpoiling_2 rfl (lv_at hl 1 rfl) ?_
  refine lv_istore_n (lv' := [(3, .int xa), (2, .int 0), (0, .int xa), (1, .int xb)]) hx hb dX3_isSpoiling_3 rfl hl (by decide) rfl (fun ls hl => ?_)
  refine lv_iconst (v := 0) hx hb dX3_isSpoiling_4 (by decide) ?_
  refine lv_istore (lv' := [(4, .int 0), (3, .int xa), (2, .int 0), (0, .int xa), (1, .int xb)]) hx hb dX3_isSpoiling_5 hl (by decide) rfl (fun ls hl => ?_)
  have Jx7 : ∀  (H : Heap) (locs : List Loc) (ls : Array Slot), F_X3_isSpoiling_x7 = some ro → va_P (dC, dI) vwCl (bw q aa Z) H → va_D A (bw q aa Z) → va_S A s.heap H locs → lv_has ls 7 [] → W p l e (headSpec wsX3_isSpoiling ({ frames := 2, cells := 0, slots := 0, locals := 40 } : Room)).room s m args below meth c H locs 0 0 Q (F0 m 66 ls []) := by
    intro  H locs ls hF hP hD hS hl
    unfold F_X3_isSpoiling_x7 at hF
    refine lv_iconst (v := 0) hx hb dX3_isSpoiling_66 (by decide) ?_
    have e9 := some1 hF
    subst hQ
    exact W.zret (v := 0) hx hb hr rfl (fun t ht hW => ⟨⟨0, (), rfl, e9.symm, po_mk ht hW hP hK hD⟩, hS.F ht⟩) hS.2.2 dX3_isSpoiling_67
  have L7 : ∀ (n7 : Nat) (u1 : Int32) (u2 : Int32) (u3 : Int32) (H : Heap) (locs : List Loc) (ls : Array Slot), F_X3_isSpoiling_l7 xb F_X3_isSpoiling_x7 n7 u1 u2 u3 = some ro → va_P (dC, dI) vwCl (bw q aa Z) H → va_D A (bw q aa Z) → va_S A s.heap H locs → lv_has ls 7 [(4, .int u3), (3, .int u2), (2, .int u1), (1, .int xb)] → W p l e (headSpec wsX3_isSpoiling ({ frames := 2, cells := 0, slots := 0, locals := 40 } : Room)).room s m args below meth c H locs 0 0 Q (F0 m 7 ls []) := by
    intro n7
    induction n7 with
    | zero =>
      intro u1 u2 u3 H locs ls hF
      rw [F_X3_isSpoiling_l7] at hF
      cases hF
    | succ n7 IH7 =>
      intro u1 u2 u3 H locs ls hF hP hD hS hl
      rw [F_X3_isSpoiling_l7] at hF
      refine lv_iload hx hb dX3_isSpoiling_7 (lv_at hl 0 rfl) ?_
      refine lv_bipush (v := 6) hx hb dX3_isSpoiling_9 (by decide) ?_
      refine lv_icmp_ge (tgt := 66) hx hb dX3_isSpoiling_11 (by decide) (fun hc4 => ?_) (fun hc4 => ?_)
      · have hF := br_pos hc4 hF
        exact Jx7  _ _ _ hF hP hD hS (lv_sub hl [] rfl)
      · have hF := br_neg hc4 hF
        refine lv_iload_n hx hb dX3_isSpoiling_14 rfl (lv_at hl 1 rfl) ?_
        refine lv_if_le (tgt := 66) hx hb dX3_isSpoiling_15 (by decide) (fun hc5 => ?_) (fun hc5 => ?_)
        · have hF := br_pos hc5 hF
          exact Jx7  _ _ _ hF hP hD hS (lv_sub hl [] rfl)
        · have hF := br_neg hc5 hF
          refine lv_iload_n hx hb dX3_isSpoiling_18 rfl (lv_at hl 1 rfl) ?_
          refine lv_bipush (v := 10) hx hb dX3_isSpoiling_19 (by decide) ?_
          refine lv_irem hx hb dX3_isSpoiling_21 (by decide) ?_
          refine lv_topi (fun y6 ey6 => ?_)
          have hF := bv_at ey6 hF
          refine lv_istore (lv' := [(5, .int y6), (4, .int u3), (3, .int u2), (2, .int u1), (1, .int xb)]) hx hb dX3_isSpoiling_22 hl (by decide) rfl (fun ls hl => ?_)
          refine lv_iconst (v := 1) hx hb dX3_isSpoiling_24 (by decide) ?_
          refine lv_iload hx hb dX3_isSpoiling_25 (lv_at hl 0 rfl) ?_
          refine lv_ishl hx hb dX3_isSpoiling_27 ?_
          refine lv_topi (fun y7 ey7 => ?_)
          have hF := bv_at ey7 hF
          refine lv_istore (lv' := [(6, .int y7), (5, .int y6), (4, .int u3), (3, .int u2), (2, .int u1), (1, .int xb)]) hx hb dX3_isSpoiling_28 hl (by decide) rfl (fun ls hl => ?_)
          refine lv_iload hx hb dX3_isSpoiling_30 (lv_at hl 1 rfl) ?_
          refine lv_if_eq (tgt := 48) hx hb dX3_isSpoiling_32 (by decide) (fun hc8 => ?_) (fun hc8 => ?_)
          · have hF := br_pos hc8 hF
            refine lv_iconst (v := 1) hx hb dX3_isSpoiling_48 (by decide) ?_
            have e9 := some1 hF
            subst hQ
            exact W.zret (v := 1) hx hb hr rfl (fun t ht hW => ⟨⟨1, (), rfl, e9.symm, po_mk ht hW hP hK hD⟩, hS.F ht⟩) hS.2.2 dX3_isSpoiling_49
          · have hF := br_neg hc8 hF
            refine lv_iload hx hb dX3_isSpoiling_35 (lv_at hl 1 rfl) ?_
            refine lv_iload_n hx hb dX3_isSpoiling_37 rfl (lv_at hl 5 rfl) ?_
            refine lv_icmp_gt (tgt := 48) hx hb dX3_isSpoiling_38 (by decide) (fun hc9 => ?_) (fun hc9 => ?_)
            · have hF := br_pos hc9 hF
              refine lv_iconst (v := 1) hx hb dX3_isSpoiling_48 (by decide) ?_
              have e9 := some1 hF
              subst hQ
              exact W.zret (v := 1) hx hb hr rfl (fun t ht hW => ⟨⟨1, (), rfl, e9.symm, po_mk ht hW hP hK hD⟩, hS.F ht⟩) hS.2.2 dX3_isSpoiling_49
            · have hF := br_neg hc9 hF
              refine lv_iload_n hx hb dX3_isSpoiling_41 rfl (lv_at hl 4 rfl) ?_
              refine lv_iload hx hb dX3_isSpoiling_42 (lv_at hl 0 rfl) ?_
              refine lv_iand hx hb dX3_isSpoiling_44 ?_
              refine lv_topi (fun y10 ey10 => ?_)
              have hF := bv_at ey10 hF
              refine lv_if_eq (tgt := 50) hx hb dX3_isSpoiling_45 (by decide) (fun hc11 => ?_) (fun hc11 => ?_)
              · have hF := br_pos hc11 hF
                refine lv_iload_n hx hb dX3_isSpoiling_50 rfl (lv_at hl 4 rfl) ?_
                refine lv_iload hx hb dX3_isSpoiling_51 (lv_at hl 0 rfl) ?_
                refine lv_ior hx hb dX3_isSpoiling_53 ?_
                refine lv_topi (fun y12 ey12 => ?_)
                have hF := bv_at ey12 hF
                refine lv_istore_n (lv' := [(2, .int y12), (6, .int y7), (5, .int y6), (4, .int u3), (3, .int u2), (1, .int xb)]) hx hb dX3_isSpoiling_54 rfl hl (by decide) rfl (fun ls hl => ?_)
                refine lv_iload_n hx hb dX3_isSpoiling_55 rfl (lv_at hl 4 rfl) ?_
                refine lv_bipush (v := 10) hx hb dX3_isSpoiling_56 (by decide) ?_
                refine lv_idiv hx hb dX3_isSpoiling_58 (by decide) ?_
                refine lv_topi (fun y13 ey13 => ?_)
                have hF := bv_at ey13 hF
                refine lv_istore_n (lv' := [(3, .int y13), (2, .int y12), (6, .int y7), (5, .int y6), (4, .int u3), (1, .int xb)]) hx hb dX3_isSpoiling_59 rfl hl (by decide) rfl (fun ls hl => ?_)
                refine lv_iinc (k := 4) (v := (u3 + (1 : Int32))) (lv' := [(4, .int (u3 + (1 : Int32))), (3, .int y13), (2, .int y12), (6, .int y7), (5, .int y6), (1, .int xb)]) hx hb dX3_isSpoiling_60 hl rfl (ii_ _ _ _ (by decide)) (by decide) rfl (fun ls hl => ?_)
                refine lv_goto (tgt := 7) hx hb dX3_isSpoiling_63 (by decide) ?_
                exact IH7 y12 y13 (u3 + (1 : Int32)) _ _ _ hF hP hD hS (lv_sub hl [0, 1, 2, 5] rfl)
              · have hF := br_neg hc11 hF
                refine lv_iconst (v := 1) hx hb dX3_isSpoiling_48 (by decide) ?_
                have e9 := some1 hF
                subst hQ
                exact W.zret (v := 1) hx hb hr rfl (fun t ht hW => ⟨⟨1, (), rfl, e9.symm, po_mk ht hW hP hK hD⟩, hS.F ht⟩) hS.2.2 dX3_isSpoiling_49
  exact L7 100 (0 : Int32) xa (0 : Int32) _ _ _ hF hP hD hS (lv_sub hl [0, 1, 2, 4] rfl)

noncomputable def F_X0_isStanding (Z : Mem) (xa : Int32) : Option Int32 :=
  br (xa < (0 : Int32)) (some (0 : Int32)) (bv (Z.1 1 2) fun y2 => br (y2 ≤ xa) (some (0 : Int32)) (gd (¬ (xa < 0 ∨ 6 ≤ ix xa)) <| bv (Z.1 3 (ix xa)) fun y5 => br (y5 = (0 : Int32)) (some (0 : Int32)) (some (1 : Int32))))

set_option maxHeartbeats 4000000 in
set_option maxRecDepth 100000 in
theorem c_X0_isStanding (l : Launch) (dC : Nat → ClassId) (dI : Nat → Nat → Nat) (q : Nat → ClassId) (aa : Nat → Nat) (Z : Mem) (xa : Int32)  (sz : Nat) (ro : Int32) (hF : F_X0_isStanding Z xa = some ro) : Met l yX0_isStanding wsX0_isStanding ({ frames := 2, cells := 0, slots := 0, locals := 40 }) (va_Pc [.ref (aa 1), .int xa] (pr_ dC dI (bw q aa Z) (bty q) sz)) (va_Qi (fun (r : Int32) (_ : Unit) => r = ro) (fun (_ : Unit) t => po_ dC dI (bw q aa Z) (bty q) (va_A (bw q aa Z) sz) t) (va_A (bw q aa Z) sz)) 0 0 (va_A (bw q aa Z) sz) := by
  refine Met.ofW (cc := cX0_isStanding) (maxL := 2) (ret := (some .boolean)) (by decide) rfl ?_
  intro p e s m args below meth c s₁ B hml hv
  obtain ⟨hargs, hsz, hP, hK, hD0⟩ := hv
  have hx := B.exec
  have hb := B.bytes
  have hr := B.returns
  have hts := atoms_spec (ws := wsX0_isStanding) B.pre
  have hown : s.vm.findClass RX0 = some m.cls := findClass_of_methodNamed B.named
  have hlocks := B.notSynchronized
  subst hsz
  have hD := hD0.self (sz := s.heap.size)
  generalize hAe : va_A (bw q aa Z) s.heap.size = A at hD ⊢
  have hA : ∀ x : Nat, s.heap.size ≤ x → A x := fun x h => by rw [← hAe]; exact Or.inr h
  have hS : va_S A s.heap s.heap [] := va_S.rf
  have hinX0 : ∀ w ∈ u_ws RX0 TX0 11, w ∈ wsX0_isStanding := by decide +kernel
  have hl := lv_entry ([.ref (aa 1), .int xa]) (n := 2) (Nat.le_of_ble_eq_true rfl)
  refine w_ent hargs ?_
  rw [lg_entry_eq]
  generalize (lg_sl ([.ref (aa 1), .int xa]) ++ List.replicate (2 - (lg_sl ([.ref (aa 1), .int xa])).length) Slot.unset).toArray = ls at hl ⊢
  have hl : lv_has ls 2 [(0, .ref (aa 1)), (1, .int xa)] := hl
  unfold F_X0_isStanding at hF
  refine w_go (fun Q hQ => ?_)
  refine lv_iload_n hx hb dX0_isStanding_0 rfl (lv_at hl 1 rfl) ?_
  refine lv_if_lt (tgt := 25) hx hb dX0_isStanding_1 (by decide) (fun hc1 => ?_) (fun hc1 => ?_)
  · have hF := br_pos hc1 hF
    refine lv_iconst (v := 0) hx hb dX0_isStanding_25 (by decide) ?_
    have e9 := some1 hF
    subst hQ
    exact W.zret (v := 0) hx hb hr rfl (fun t ht hW => ⟨⟨0, (), rfl, e9.symm, po_mk ht hW hP hK hD⟩, hS.F ht⟩) hS.2.2 dX0_isStanding_26
  · have hF := br_neg hc1 hF
    refine lv_iload_n hx hb dX0_isStanding_4 rfl (lv_at hl 1 rfl) ?_
    refine lv_aload_n hx hb dX0_isStanding_5 rfl (lv_at hl 0 rfl) ?_
    refine va_get (D := (dC, dI)) (ci := 2) (v := .int (Z.1 1 2)) (C := RX0) (T := TX0) (N := 11) hx hb hts hinX0 hown hK hP 1 (bw_at (i := 1) (by decide) rfl) rfl 2 (by decide) (hts (.fieldLink RX0 29 "BallotLoom$Box" "candidates" "I") (by decide +kernel)) (fun _ h9 => h9) rfl dX0_isStanding_6 ?_
    refine lv_topi (fun y2 ey2 => ?_)
    have hF := bv_at ey2 hF
    refine lv_icmp_ge (tgt := 25) hx hb dX0_isStanding_9 (by decide) (fun hc3 => ?_) (fun hc3 => ?_)
    · have hF := br_pos hc3 hF
      refine lv_iconst (v := 0) hx hb dX0_isStanding_25 (by decide) ?_
      have e9 := some1 hF
      subst hQ
      exact W.zret (v := 0) hx hb hr rfl (fun t ht hW => ⟨⟨0, (), rfl, e9.symm, po_mk ht hW hP hK hD⟩, hS.F ht⟩) hS.2.2 dX0_isStanding_26
    · have hF := br_neg hc3 hF
      refine lv_aload_n hx hb dX0_isStanding_12 rfl (lv_at hl 0 rfl) ?_
      refine va_get (D := (dC, dI)) (ci := 2) (v := .ref (aa 3)) (C := RX0) (T := TX0) (N := 11) hx hb hts hinX0 hown hK hP 1 (bw_at (i := 1) (by decide) rfl) rfl 1 (by decide) (hts (.fieldLink RX0 15 "BallotLoom$Box" "stands" "[Z") (by decide +kernel)) (fun _ h9 => h9) rfl dX0_isStanding_13 ?_
      refine lv_iload_n hx hb dX0_isStanding_16 rfl (lv_at hl 1 rfl) ?_
      obtain ⟨hg4, hF⟩ := gd_some hF
      refine va_zald hx hb hK hP 3 1 (at_i (by decide) (fun _ _ => rfl)) rfl hg4 dX0_isStanding_17 ?_
      refine lv_topi (fun y5 ey5 => ?_)
      have hF := bv_at ey5 hF
      refine lv_if_eq (tgt := 25) hx hb dX0_isStanding_18 (by decide) (fun hc6 => ?_) (fun hc6 => ?_)
      · have hF := br_pos hc6 hF
        refine lv_iconst (v := 0) hx hb dX0_isStanding_25 (by decide) ?_
        have e9 := some1 hF
        subst hQ
        exact W.zret (v := 0) hx hb hr rfl (fun t ht hW => ⟨⟨0, (), rfl, e9.symm, po_mk ht hW hP hK hD⟩, hS.F ht⟩) hS.2.2 dX0_isStanding_26
      · have hF := br_neg hc6 hF
        refine lv_iconst (v := 1) hx hb dX0_isStanding_21 (by decide) ?_
        refine lv_goto (tgt := 26) hx hb dX0_isStanding_22 (by decide) ?_
        have e9 := some1 hF
        subst hQ
        exact W.zret (v := 1) hx hb hr rfl (fun t ht hW => ⟨⟨1, (), rfl, e9.symm, po_mk ht hW hP hK hD⟩, hS.F ht⟩) hS.2.2 dX0_isStanding_26

noncomputable def F_X3_makeList_x20 (Z5 : Mem) : Option (Mem × Unit) :=
  some (Z5, ())

noncomputable def F_X3_makeList_j68 (u6 : Int32) (u7 : Int32) (B_20 : Mem → Int32 → Int32 → Option (Mem × Unit)) (Z16 : Mem) : Option (Mem × Unit) :=
  bv (u6 / (10 : Int32)) fun y17 => B_20 Z16 y17 (u7 + (1 : Int32))

noncomputable def F_X3_makeList_l20 (ka : Nat) (K_20 : Mem → Option (Mem × Unit)) : Nat → Mem → Int32 → Int32 → Option (Mem × Unit)
  | 0, _, _, _ => none
  | n20 + 1, Z8, u6, u7 =>
  br ((6 : Int32) ≤ u7) (K_20 Z8) (br (u6 ≤ (0 : Int32)) (K_20 Z8) (bv (u6 - u6 / (10 : Int32) * (10 : Int32)) fun y11 => bv (y11 - (1 : Int32)) fun y12 => calp (F_X0_isStanding Z8 y12) fun rr15 => br (rr15 = (0 : Int32)) ((F_X3_makeList_j68 u6 u7 (F_X3_makeList_l20 ka K_20 n20)) Z8) (bv (Z8.1 (39 + ka) 5) fun y19 => gd (¬ (y19 < 0 ∨ 6 ≤ ix y19)) <| bv (si Z8 (64 + ka) (ix y19) y12) fun Z21 => bv (Z21.1 (39 + ka) 5) fun y22 => bv (y22 + (1 : Int32)) fun y23 => bv (si Z21 (39 + ka) 5 y23) fun Z24 => (F_X3_makeList_j68 u6 u7 (F_X3_makeList_l20 ka K_20 n20)) Z24)))

noncomputable def F_X3_makeList (Z : Mem) (ka : Nat) : Option (Mem × Unit) :=
  bv (si Z (39 + ka) 5 (0 : Int32)) fun Z1 => bv (Z1.1 (39 + ka) 3) fun y2 => br (y2 = (0 : Int32)) (bv (Z1.1 (39 + ka) 1) fun y4 => F_X3_makeList_l20 ka F_X3_makeList_x20 100 Z1 y4 (0 : Int32)) (some (Z1, ()))

set_option maxHeartbeats 4000000 in
set_option maxRecDepth 100000 in
theorem c_X3_makeList (l : Launch) (dC : Nat → ClassId) (dI : Nat → Nat → Nat) (q : Nat → ClassId) (aa : Nat → Nat) (Z : Mem) (ka : Nat) (hka : ka < 25) (sz : Nat) (Zo : Mem) (ro : Unit) (hF : F_X3_makeList Z ka = some (Zo, ro)) : Met l yX3_makeList wsX3_makeList ({ frames := 3, cells := 0, slots := 0, locals := 61 }) (va_Pc [.ref (aa (39 + ka)), .ref (aa 1)] (pr_ dC dI (bw q aa Z) (bty q) sz)) (va_Qv (fun (_ : Unit) => True) (fun (_ : Unit) t => po_ dC dI (bw q aa Zo) (bty q) (va_A (bw q aa Z) sz) t) (va_A (bw q aa Z) sz)) 0 0 (va_A (bw q aa Z) sz) := by
  refine Met.ofW (cc := cX3_makeList) (maxL := 5) (ret := none) (by decide) rfl ?_
  intro p e s m args below meth c s₁ B hml hv
  obtain ⟨hargs, hsz, hP, hK, hD0⟩ := hv
  have hx := B.exec
  have hb := B.bytes
  have hr := B.returns
  have hts := atoms_spec (ws := wsX3_makeList) B.pre
  have hown : s.vm.findClass RX3 = some m.cls := findClass_of_methodNamed B.named
  have hlocks := B.notSynchronized
  subst hsz
  have hD := hD0.self (sz := s.heap.size)
  generalize hAe : va_A (bw q aa Z) s.heap.size = A at hD ⊢
  have hA : ∀ x : Nat, s.heap.size ≤ x → A x := fun x h => by rw [← hAe]; exact Or.inr h
  have hS : va_S A s.heap s.heap [] := va_S.rf
  have hinX3 : ∀ w ∈ u_ws RX3 TX3 7, w ∈ wsX3_makeList := by decide +kernel
  have hl := lv_entry ([.ref (aa (39 + ka)), .ref (aa 1)]) (n := 5) (Nat.le_of_ble_eq_true rfl)
  refine w_ent hargs ?_
  rw [lg_entry_eq]
  generalize (lg_sl ([.ref (aa (39 + ka)), .ref (aa 1)]) ++ List.replicate (5 - (lg_sl ([.ref (aa (39 + ka)), .ref (aa 1)])).length) Slot.unset).toArray = ls at hl ⊢
  have hl : lv_has ls 5 [(0, .ref (aa (39 + ka))), (1, .ref (aa 1))] := hl
  unfold F_X3_makeList at hF
  refine w_go (fun Q hQ => ?_)
  refine lv_aload_n hx hb dX3_makeList_0 rfl (lv_at hl 0 rfl) ?_
  refine lv_iconst (v := 0) hx hb dX3_makeList_1 (by decide) ?_
  obtain ⟨Z1, eZ1, hF⟩ := bv_some hF
  refine va_put (D := (dC, dI)) (ci := 5) (v := .int 0) (ty := .int) (C := RX3) (T := TX3) (N := 7) hx hb hts hinX3 tyX3 tyX3_ok nmX3 hown hK hP hD hS (39 + ka) (bw_at (i := 39 + ka) (by omega) (bk_stk hka _ _)) rfl 5 (by decide) (hts (.fieldLink RX3 36 "BallotLoom$Stack" "length" "I") (by decide +kernel)) (fun _ h9 => h9) rfl (by decide +kernel) rfl rfl (Nat.le_of_ble_eq_true rfl) dX3_makeList_2 (fun H locs hP hD hS => ?_)
  have eW := wz_o (q := q) (aa := aa) (i := (39 + ka)) (ci := 5) (fs := [.int (Z.1 (39 + ka) 0), .int (Z.1 (39 + ka) 1), .int (Z.1 (39 + ka) 2), .int (Z.1 (39 + ka) 3), .ref (aa (64 + ka)), .int 0, .double (Z.2 (39 + ka) 6)]) (bk_stk hka _ _) eZ1
  have hP : va_P (dC, dI) vwCl (bw q aa Z1) H := eW ▸ hP
  have hD : va_D A (bw q aa Z1) := eW ▸ hD
  clear eW
  refine lv_aload_n hx hb dX3_makeList_5 rfl (lv_at hl 0 rfl) ?_
  refine va_get (D := (dC, dI)) (ci := 5) (v := .int (Z1.1 (39 + ka) 3)) (C := RX3) (T := TX3) (N := 7) hx hb hts hinX3 hown hK hP (39 + ka) (bw_at (i := 39 + ka) (by omega) (bk_stk hka _ _)) rfl 3 (by decide) (hts (.fieldLink RX3 28 "BallotLoom$Stack" "isSpoiled" "Z") (by decide +kernel)) (fun _ h9 => h9) rfl dX3_makeList_6 ?_
  refine lv_topi (fun y2 ey2 => ?_)
  have hF := bv_at ey2 hF
  refine lv_if_eq (tgt := 13) hx hb dX3_makeList_9 (by decide) (fun hc3 => ?_) (fun hc3 => ?_)
  · have hF := br_pos hc3 hF
    refine lv_aload_n hx hb dX3_makeList_13 rfl (lv_at hl 0 rfl) ?_
    refine va_get (D := (dC, dI)) (ci := 5) (v := .int (Z1.1 (39 + ka) 1)) (C := RX3) (T := TX3) (N := 7) hx hb hts hinX3 hown hK hP (39 + ka) (bw_at (i := 39 + ka) (by omega) (bk_stk hka _ _)) rfl 1 (by decide) (hts (.fieldLink RX3 15 "BallotLoom$Stack" "ranks" "I") (by decide +kernel)) (fun _ h9 => h9) rfl dX3_makeList_14 ?_
    refine lv_topi (fun y4 ey4 => ?_)
    have hF := bv_at ey4 hF
    refine lv_istore_n (lv' := [(2, .int y4), (0, .ref (aa (39 + ka))), (1, .ref (aa 1))]) hx hb dX3_makeList_17 rfl hl (by decide) rfl (fun ls hl => ?_)
    refine lv_iconst (v := 0) hx hb dX3_makeList_18 (by decide) ?_
    refine lv_istore_n (lv' := [(3, .int 0), (2, .int y4), (0, .ref (aa (39 + ka))), (1, .ref (aa 1))]) hx hb dX3_makeList_19 rfl hl (by decide) rfl (fun ls hl => ?_)
    have Jx20 : ∀ (Z5 : Mem) (H : Heap) (locs : List Loc) (ls : Array Slot), F_X3_makeList_x20 Z5 = some (Zo, ro) → va_P (dC, dI) vwCl (bw q aa Z5) H → va_D A (bw q aa Z5) → va_S A s.heap H locs → lv_has ls 5 [] → W p l e (headSpec wsX3_makeList ({ frames := 3, cells := 0, slots := 0, locals := 61 } : Room)).room s m args below meth c H locs 0 0 Q (F0 m 79 ls []) := by
      intro Z5 H locs ls hF hP hD hS hl
      unfold F_X3_makeList_x20 at hF
      obtain ⟨e8, e9⟩ := some2 hF
      rw [← e8] at hP hD
      subst hQ
      exact W.vret hx hb hr (fun t ht hW => ⟨⟨(), rfl, trivial, po_mk ht hW hP hK hD⟩, hS.F ht⟩) hS.2.2 dX3_makeList_79
    have L20 : ∀ (n20 : Nat) (Z8 : Mem) (u6 : Int32) (u7 : Int32) (H : Heap) (locs : List Loc) (ls : Array Slot), F_X3_makeList_l20 ka F_X3_makeList_x20 n20 Z8 u6 u7 = some (Zo, ro) → va_P (dC, dI) vwCl (bw q aa Z8) H → va_D A (bw q aa Z8) → va_S A s.heap H locs → lv_has ls 5 [(3, .int u7), (2, .int u6), (0, .ref (aa (39 + ka))), (1, .ref (aa 1))] → W p l e (headSpec wsX3_makeList ({ frames := 3, cells := 0, slots := 0, locals := 61 } : Room)).room s m args below meth c H locs 0 0 Q (F0 m 20 ls []) := by
      intro n20
      induction n20 with
      | zero =>
        intro Z8 u6 u7 H locs ls hF
        rw [F_X3_makeList_l20] at hF
        cases hF
      | succ n20 IH20 =>
        intro Z8 u6 u7 H locs ls hF hP hD hS hl
        rw [F_X3_makeList_l20] at hF
        refine lv_iload_n hx hb dX3_makeList_20 rfl (lv_at hl 0 rfl) ?_
        refine lv_bipush (v := 6) hx hb dX3_makeList_21 (by decide) ?_
        refine lv_icmp_ge (tgt := 79) hx hb dX3_makeList_23 (by decide) (fun hc9 => ?_) (fun hc9 => ?_)
        · have hF := br_pos hc9 hF
          exact Jx20 Z8 _ _ _ hF hP hD hS (lv_sub hl [] rfl)
        · have hF := br_neg hc9 hF
          refine lv_iload_n hx hb dX3_makeList_26 rfl (lv_at hl 1 rfl) ?_
          refine lv_if_le (tgt := 79) hx hb dX3_makeList_27 (by decide) (fun hc10 => ?_) (fun hc10 => ?_)
          · have hF := br_pos hc10 hF
            exact Jx20 Z8 _ _ _ hF hP hD hS (lv_sub hl [] rfl)
          · have hF := br_neg hc10 hF
            refine lv_iload_n hx hb dX3_makeList_30 rfl (lv_at hl 1 rfl) ?_
            refine lv_bipush (v := 10) hx hb dX3_makeList_31 (by decide) ?_
            refine lv_irem hx hb dX3_makeList_33 (by decide) ?_
            refine lv_topi (fun y11 ey11 => ?_)
            have hF := bv_at ey11 hF
            refine lv_iconst (v := 1) hx hb dX3_makeList_34 (by decide) ?_
            refine lv_isub hx hb dX3_makeList_35 ?_
            refine lv_topi (fun y12 ey12 => ?_)
            have hF := bv_at ey12 hF
            refine lv_istore (lv' := [(4, .int y12), (3, .int u7), (2, .int u6), (0, .ref (aa (39 + ka))), (1, .ref (aa 1))]) hx hb dX3_makeList_36 hl (by decide) rfl (fun ls hl => ?_)
            refine lv_aload_n hx hb dX3_makeList_38 rfl (lv_at hl 4 rfl) ?_
            refine lv_iload hx hb dX3_makeList_39 (lv_at hl 0 rfl) ?_
            obtain ⟨r14, hC13, hF⟩ := calp_some hF
            have hFc := b_free (ws := bw q aa Z8) hD hS hA
            refine va_calli (va_runV (As := [.int y12]) (rest := []) ⟨hx, hb, hml, hown, hts⟩ (c_X0_isStanding l dC dI q aa Z8 y12  _ _  hC13) (cwV 1 hts gX3_makeList_X0_isStanding rfl rfl rfl (by decide +kernel) ⟨Nat.le_of_ble_eq_true rfl, Nat.le_of_ble_eq_true rfl⟩) ⟨pr_blind, va_recv hK hP (ci := 2) (q0 := 1) rfl (bw_at (i := 1) (by decide) rfl), fun U hU hW => ⟨rfl, pr_mk hU hW hP hK hD⟩⟩ rfl rfl hl.1 rfl (lv_room (Nat.le_of_ble_eq_true rfl)) dX3_makeList_41 ⟨Nat.le_of_ble_eq_true rfl, Nat.le_of_ble_eq_true rfl⟩) hS (fun x _ h => hFc x h) hFc (fun rr15 u t H1 locs ht hvm hw hB hz1 hk1 hS => ?_)
            obtain ⟨hP, hK1, hD1⟩ := hB
            rw [ht] at hP
            have hD := hD1.weaken (fun _ q9 _ h9 => hFc q9.1 h9)
            clear hFc hD1 hK1 hvm hz1 hk1
            generalize H1 = H at hP hS ⊢
            refine W.widen (k := 0) (n := 0) (Nat.le_refl _) (Nat.le_refl _) ?_
            obtain rfl : rr15 = r14 := hw
            have Jj68 : ∀ (Z16 : Mem) (H : Heap) (locs : List Loc) (ls : Array Slot), (F_X3_makeList_j68 u6 u7 (F_X3_makeList_l20 ka F_X3_makeList_x20 n20)) Z16 = some (Zo, ro) → va_P (dC, dI) vwCl (bw q aa Z16) H → va_D A (bw q aa Z16) → va_S A s.heap H locs → lv_has ls 5 [(3, .int u7), (2, .int u6), (0, .ref (aa (39 + ka))), (1, .ref (aa 1))] → W p l e (headSpec wsX3_makeList ({ frames := 3, cells := 0, slots := 0, locals := 61 } : Room)).room s m args below meth c H locs 0 0 Q (F0 m 68 ls []) := by
              intro Z16 H locs ls hF hP hD hS hl
              unfold F_X3_makeList_j68 at hF
              refine lv_iload_n hx hb dX3_makeList_68 rfl (lv_at hl 1 rfl) ?_
              refine lv_bipush (v := 10) hx hb dX3_makeList_69 (by decide) ?_
              refine lv_idiv hx hb dX3_makeList_71 (by decide) ?_
              refine lv_topi (fun y17 ey17 => ?_)
              have hF := bv_at ey17 hF
              refine lv_istore_n (lv' := [(2, .int y17), (3, .int u7), (0, .ref (aa (39 + ka))), (1, .ref (aa 1))]) hx hb dX3_makeList_72 rfl hl (by decide) rfl (fun ls hl => ?_)
              refine lv_iinc (k := 1) (v := (u7 + (1 : Int32))) (lv' := [(3, .int (u7 + (1 : Int32))), (2, .int y17), (0, .ref (aa (39 + ka))), (1, .ref (aa 1))]) hx hb dX3_makeList_73 hl rfl (ii_ _ _ _ (by decide)) (by decide) rfl (fun ls hl => ?_)
              refine lv_goto (tgt := 20) hx hb dX3_makeList_76 (by decide) ?_
              exact IH20 Z16 y17 (u7 + (1 : Int32)) _ _ _ hF hP hD hS (lv_sub hl [0, 1, 2, 3] rfl)
            refine lv_if_eq (tgt := 68) hx hb dX3_makeList_44 (by decide) (fun hc18 => ?_) (fun hc18 => ?_)
            · have hF := br_pos hc18 hF
              exact Jj68 Z8 _ _ _ hF hP hD hS (lv_sub hl [1, 2, 3, 4] rfl)
            · have hF := br_neg hc18 hF
              refine lv_aload_n hx hb dX3_makeList_47 rfl (lv_at hl 3 rfl) ?_
              refine va_get (D := (dC, dI)) (ci := 5) (v := .ref (aa (64 + ka))) (C := RX3) (T := TX3) (N := 7) hx hb hts hinX3 hown hK hP (39 + ka) (bw_at (i := 39 + ka) (by omega) (bk_stk hka _ _)) rfl 4 (by decide) (hts (.fieldLink RX3 9 "BallotLoom$Stack" "list" "[I") (by decide +kernel)) (fun _ h9 => h9) rfl dX3_makeList_48 ?_
              refine lv_aload_n hx hb dX3_makeList_51 rfl (lv_at hl 3 rfl) ?_
              refine va_get (D := (dC, dI)) (ci := 5) (v := .int (Z8.1 (39 + ka) 5)) (C := RX3) (T := TX3) (N := 7) hx hb hts hinX3 hown hK hP (39 + ka) (bw_at (i := 39 + ka) (by omega) (bk_stk hka _ _)) rfl 5 (by decide) (hts (.fieldLink RX3 36 "BallotLoom$Stack" "length" "I") (by decide +kernel)) (fun _ h9 => h9) rfl dX3_makeList_52 ?_
              refine lv_topi (fun y19 ey19 => ?_)
              have hF := bv_at ey19 hF
              refine lv_iload hx hb dX3_makeList_55 (lv_at hl 0 rfl) ?_
              obtain ⟨hg20, hF⟩ := gd_some hF
              obtain ⟨Z21, eZ21, hF⟩ := bv_some hF
              refine va_iast hx hb hK hP hD hS (64 + ka) 0 (at_i (by omega) (bk_lst hka)) rfl hg20 dX3_makeList_57 (fun H locs hP hD hS => ?_)
              have eW := wz_i (q := q) (aa := aa) (i := (64 + ka)) (bk_lst hka) eZ21
              have hP : va_P (dC, dI) vwCl (bw q aa Z21) H := eW ▸ hP
              have hD : va_D A (bw q aa Z21) := eW ▸ hD
              clear eW
              refine lv_aload_n hx hb dX3_makeList_58 rfl (lv_at hl 3 rfl) ?_
              refine lv_dup hx hb dX3_makeList_59 rfl ?_
              refine va_get (D := (dC, dI)) (ci := 5) (v := .int (Z21.1 (39 + ka) 5)) (C := RX3) (T := TX3) (N := 7) hx hb hts hinX3 hown hK hP (39 + ka) (bw_at (i := 39 + ka) (by omega) (bk_stk hka _ _)) rfl 5 (by decide) (hts (.fieldLink RX3 36 "BallotLoom$Stack" "length" "I") (by decide +kernel)) (fun _ h9 => h9) rfl dX3_makeList_60 ?_
              refine lv_topi (fun y22 ey22 => ?_)
              have hF := bv_at ey22 hF
              refine lv_iconst (v := 1) hx hb dX3_makeList_63 (by decide) ?_
              refine lv_iadd hx hb dX3_makeList_64 ?_
              refine lv_topi (fun y23 ey23 => ?_)
              have hF := bv_at ey23 hF
              obtain ⟨Z24, eZ24, hF⟩ := bv_some hF
              refine va_put (D := (dC, dI)) (ci := 5) (v := .int y23) (ty := .int) (C := RX3) (T := TX3) (N := 7) hx hb hts hinX3 tyX3 tyX3_ok nmX3 hown hK hP hD hS (39 + ka) (bw_at (i := 39 + ka) (by omega) (bk_stk hka _ _)) rfl 5 (by decide) (hts (.fieldLink RX3 36 "BallotLoom$Stack" "length" "I") (by decide +kernel)) (fun _ h9 => h9) rfl (by decide +kernel) rfl rfl (Nat.le_of_ble_eq_true rfl) dX3_makeList_65 (fun H locs hP hD hS => ?_)
              have eW := wz_o (q := q) (aa := aa) (i := (39 + ka)) (ci := 5) (fs := [.int (Z21.1 (39 + ka) 0), .int (Z21.1 (39 + ka) 1), .int (Z21.1 (39 + ka) 2), .int (Z21.1 (39 + ka) 3), .ref (aa (64 + ka)), .int y23, .double (Z21.2 (39 + ka) 6)]) (bk_stk hka _ _) eZ24
              have hP : va_P (dC, dI) vwCl (bw q aa Z24) H := eW ▸ hP
              have hD : va_D A (bw q aa Z24) := eW ▸ hD
              clear eW
              exact Jj68 Z24 _ _ _ hF hP hD hS (lv_sub hl [1, 2, 3, 4] rfl)
    exact L20 100 Z1 y4 (0 : Int32) _ _ _ hF hP hD hS (lv_sub hl [0, 1, 2, 3] rfl)
  · have hF := br_neg hc3 hF
    obtain ⟨e8, e9⟩ := some2 hF
    rw [← e8] at hP hD
    subst hQ
    exact W.vret hx hb hr (fun t ht hW => ⟨⟨(), rfl, trivial, po_mk ht hW hP hK hD⟩, hS.F ht⟩) hS.2.2 dX3_makeList_12

noncomputable def F_X3_setRanks (Z : Mem) (ka : Nat) (xa : Int32) : Option (Mem × Unit) :=
  bv (si Z (39 + ka) 1 xa) fun Z1 => bv (Z1.1 1 2) fun y2 => calp (F_X3_isSpoiling Z1 xa y2) fun rr5 => gd (rr5 = 0 ∨ rr5 = 1) <| bv (si Z1 (39 + ka) 3 rr5) fun Z7 => cal (F_X3_makeList Z7 ka) fun Z9 _ => some (Z9, ())

set_option maxHeartbeats 4000000 in
set_option maxRecDepth 100000 in
theorem c_X3_setRanks (l : Launch) (dC : Nat → ClassId) (dI : Nat → Nat → Nat) (q : Nat → ClassId) (aa : Nat → Nat) (Z : Mem) (ka : Nat) (xa : Int32) (hka : ka < 25) (sz : Nat) (Zo : Mem) (ro : Unit) (hF : F_X3_setRanks Z ka xa = some (Zo, ro)) : Met l yX3_setRanks wsX3_setRanks ({ frames := 4, cells := 0, slots := 0, locals := 85 }) (va_Pc [.ref (aa (39 + ka)), .int xa, .ref (aa 1)] (pr_ dC dI (bw q aa Z) (bty q) sz)) (va_Qv (fun (_ : Unit) => True) (fun (_ : Unit) t => po_ dC dI (bw q aa Zo) (bty q) (va_A (bw q aa Z) sz) t) (va_A (bw q aa Z) sz)) 0 0 (va_A (bw q aa Z) sz) := by
  refine Met.ofW (cc := cX3_setRanks) (maxL := 3) (ret := none) (by decide) rfl ?_
  intro p e s m args below meth c s₁ B hml hv
  obtain ⟨hargs, hsz, hP, hK, hD0⟩ := hv
  have hx := B.exec
  have hb := B.bytes
  have hr := B.returns
  have hts := atoms_spec (ws := wsX3_setRanks) B.pre
  have hown : s.vm.findClass RX3 = some m.cls := findClass_of_methodNamed B.named
  have hlocks := B.notSynchronized
  subst hsz
  have hD := hD0.self (sz := s.heap.size)
  generalize hAe : va_A (bw q aa Z) s.heap.size = A at hD ⊢
  have hA : ∀ x : Nat, s.heap.size ≤ x → A x := fun x h => by rw [← hAe]; exact Or.inr h
  have hS : va_S A s.heap s.heap [] := va_S.rf
  have hinX0 : ∀ w ∈ u_ws RX0 TX0 11, w ∈ wsX3_setRanks := by decide +kernel
  have hinX3 : ∀ w ∈ u_ws RX3 TX3 7, w ∈ wsX3_setRanks := by decide +kernel
  have hl := lv_entry ([.ref (aa (39 + ka)), .int xa, .ref (aa 1)]) (n := 3) (Nat.le_of_ble_eq_true rfl)
  refine w_ent hargs ?_
  rw [lg_entry_eq]
  generalize (lg_sl ([.ref (aa (39 + ka)), .int xa, .ref (aa 1)]) ++ List.replicate (3 - (lg_sl ([.ref (aa (39 + ka)), .int xa, .ref (aa 1)])).length) Slot.unset).toArray = ls at hl ⊢
  have hl : lv_has ls 3 [(0, .ref (aa (39 + ka))), (1, .int xa), (2, .ref (aa 1))] := hl
  unfold F_X3_setRanks at hF
  refine w_go (fun Q hQ => ?_)
  refine lv_aload_n hx hb dX3_setRanks_0 rfl (lv_at hl 0 rfl) ?_
  refine lv_iload_n hx hb dX3_setRanks_1 rfl (lv_at hl 1 rfl) ?_
  obtain ⟨Z1, eZ1, hF⟩ := bv_some hF
  refine va_put (D := (dC, dI)) (ci := 5) (v := .int xa) (ty := .int) (C := RX3) (T := TX3) (N := 7) hx hb hts hinX3 tyX3 tyX3_ok nmX3 hown hK hP hD hS (39 + ka) (bw_at (i := 39 + ka) (by omega) (bk_stk hka _ _)) rfl 1 (by decide) (hts (.fieldLink RX3 15 "BallotLoom$Stack" "ranks" "I") (by decide +kernel)) (fun _ h9 => h9) rfl (by decide +kernel) rfl rfl (Nat.le_of_ble_eq_true rfl) dX3_setRanks_2 (fun H locs hP hD hS => ?_)
  have eW := wz_o (q := q) (aa := aa) (i := (39 + ka)) (ci := 5) (fs := [.int (Z.1 (39 + ka) 0), .int xa, .int (Z.1 (39 + ka) 2), .int (Z.1 (39 + ka) 3), .ref (aa (64 + ka)), .int (Z.1 (39 + ka) 5), .double (Z.2 (39 + ka) 6)]) (bk_stk hka _ _) eZ1
  have hP : va_P (dC, dI) vwCl (bw q aa Z1) H := eW ▸ hP
  have hD : va_D A (bw q aa Z1) := eW ▸ hD
  clear eW
  refine lv_aload_n hx hb dX3_setRanks_5 rfl (lv_at hl 0 rfl) ?_
  refine lv_iload_n hx hb dX3_setRanks_6 rfl (lv_at hl 1 rfl) ?_
  refine lv_aload_n hx hb dX3_setRanks_7 rfl (lv_at hl 2 rfl) ?_
  refine va_get (D := (dC, dI)) (ci := 2) (v := .int (Z1.1 1 2)) (C := RX0) (T := TX0) (N := 11) hx hb hts hinX0 hown hK hP 1 (bw_at (i := 1) (by decide) rfl) rfl 2 (by decide) (hts (.fieldLink RX3 19 "BallotLoom$Box" "candidates" "I") (by decide +kernel)) (fun _ h9 => h9) rfl dX3_setRanks_8 ?_
  refine lv_topi (fun y2 ey2 => ?_)
  have hF := bv_at ey2 hF
  obtain ⟨r4, hC3, hF⟩ := calp_some hF
  have hFc := b_free (ws := bw q aa Z1) hD hS hA
  refine va_calli (va_runS (As := [.int xa, .int y2]) (rest := [.ref (aa (39 + ka))]) ⟨hx, hb, hml, hown, hts⟩ (c_X3_isSpoiling l dC dI q aa Z1 xa y2  _ _  hC3) (va_cwS 2 hts gX3_setRanks_X3_isSpoiling rfl rfl rfl (by decide +kernel) ⟨Nat.le_of_ble_eq_true rfl, Nat.le_of_ble_eq_true rfl⟩) ⟨pr_blind, fun U hU hW => ⟨rfl, pr_mk hU hW hP hK hD⟩⟩ rfl rfl hl.1 rfl (lv_room (Nat.le_of_ble_eq_true rfl)) dX3_setRanks_11 ⟨Nat.le_of_ble_eq_true rfl, Nat.le_of_ble_eq_true rfl⟩) hS (fun x _ h => hFc x h) hFc (fun rr5 u t H1 locs ht hvm hw hB hz1 hk1 hS => ?_)
  obtain ⟨hP, hK1, hD1⟩ := hB
  rw [ht] at hP
  have hD := hD1.weaken (fun _ q9 _ h9 => hFc q9.1 h9)
  clear hFc hD1 hK1 hvm hz1 hk1
  generalize H1 = H at hP hS ⊢
  refine W.widen (k := 0) (n := 0) (Nat.le_refl _) (Nat.le_refl _) ?_
  obtain rfl : rr5 = r4 := hw
  obtain ⟨hg6, hF⟩ := gd_some hF
  obtain ⟨Z7, eZ7, hF⟩ := bv_some hF
  refine va_put (D := (dC, dI)) (ci := 5) (v := .int rr5) (ty := .boolean) (C := RX3) (T := TX3) (N := 7) hx hb hts hinX3 tyX3 tyX3_ok nmX3 hown hK hP hD hS (39 + ka) (bw_at (i := 39 + ka) (by omega) (bk_stk hka _ _)) rfl 3 (by decide) (hts (.fieldLink RX3 28 "BallotLoom$Stack" "isSpoiled" "Z") (by decide +kernel)) (fun _ h9 => h9) rfl (by decide +kernel) (nar_b hg6) (fit_b hg6) (Nat.le_of_ble_eq_true rfl) dX3_setRanks_14 (fun H locs hP hD hS => ?_)
  have eW := wz_o (q := q) (aa := aa) (i := (39 + ka)) (ci := 5) (fs := [.int (Z1.1 (39 + ka) 0), .int (Z1.1 (39 + ka) 1), .int (Z1.1 (39 + ka) 2), .int rr5, .ref (aa (64 + ka)), .int (Z1.1 (39 + ka) 5), .double (Z1.2 (39 + ka) 6)]) (bk_stk hka _ _) eZ7
  have hP : va_P (dC, dI) vwCl (bw q aa Z7) H := eW ▸ hP
  have hD : va_D A (bw q aa Z7) := eW ▸ hD
  clear eW
  refine lv_aload_n hx hb dX3_setRanks_17 rfl (lv_at hl 0 rfl) ?_
  refine lv_aload_n hx hb dX3_setRanks_18 rfl (lv_at hl 2 rfl) ?_
  obtain ⟨Z9, _, hC8, hF⟩ := cal_some hF
  have hFc := b_free (ws := bw q aa Z7) hD hS hA
  refine va_callv (va_runV (As := [.ref (aa 1)]) (rest := []) ⟨hx, hb, hml, hown, hts⟩ (c_X3_makeList l dC dI q aa Z7 ka hka _ _ _  hC8) (cwV 1 hts gX3_setRanks_X3_makeList rfl rfl rfl (by decide +kernel) ⟨Nat.le_of_ble_eq_true rfl, Nat.le_of_ble_eq_true rfl⟩) ⟨pr_blind, va_recv hK hP (ci := 5) (q0 := (39 + ka)) rfl (bw_at (i := 39 + ka) (by omega) (bk_stk hka _ _)), fun U hU hW => ⟨rfl, pr_mk hU hW hP hK hD⟩⟩ rfl rfl hl.1 rfl (lv_room (Nat.le_of_ble_eq_true rfl)) dX3_setRanks_19 ⟨Nat.le_of_ble_eq_true rfl, Nat.le_of_ble_eq_true rfl⟩) hS (fun x _ h => hFc x h) hFc (fun u t H1 locs ht hvm hw hB hz1 hk1 hS => ?_)
  obtain ⟨hP, hK1, hD1⟩ := hB
  rw [ht] at hP
  have hD := hD1.weaken (fun _ q9 _ h9 => hFc q9.1 h9)
  clear hFc hD1 hK1 hvm hz1 hk1
  generalize H1 = H at hP hS ⊢
  refine W.widen (k := 0) (n := 0) (Nat.le_refl _) (Nat.le_refl _) ?_
  obtain ⟨e8, e9⟩ := some2 hF
  rw [← e8] at hP hD
  subst hQ
  exact W.vret hx hb hr (fun t ht hW => ⟨⟨(), rfl, trivial, po_mk ht hW hP hK hD⟩, hS.F ht⟩) hS.2.2 dX3_setRanks_22

noncomputable def F_X3_setListWithFirst_x15 (Z5 : Mem) : Option (Mem × Unit) :=
  some (Z5, ())

noncomputable def F_X3_setListWithFirst_j43 (ka : Nat) (kb : Nat) (Z7 : Mem) (u6 : Int32) (B_15 : Mem → Int32 → Option (Mem × Unit)) (v10 : Int32) : Option (Mem × Unit) :=
  bv (Z7.1 (39 + ka) 5) fun y11 => gd (¬ (v10 < 0 ∨ 6 ≤ ix v10)) <| bv (Z7.1 (64 + kb) (ix v10)) fun y13 => gd (¬ (y11 < 0 ∨ 6 ≤ ix y11)) <| bv (si Z7 (64 + ka) (ix y11) y13) fun Z15 => bv (Z15.1 (39 + ka) 5) fun y16 => bv (y16 + (1 : Int32)) fun y17 => bv (si Z15 (39 + ka) 5 y17) fun Z18 => B_15 Z18 (u6 + (1 : Int32))

noncomputable def F_X3_setListWithFirst_l15 (ka : Nat) (kb : Nat) (xa : Int32) (K_15 : Mem → Option (Mem × Unit)) : Nat → Mem → Int32 → Option (Mem × Unit)
  | 0, _, _ => none
  | n15 + 1, Z7, u6 =>
  bv (Z7.1 (39 + kb) 5) fun y8 => br (y8 ≤ u6) (K_15 Z7) (br (u6 = (0 : Int32)) ((F_X3_setListWithFirst_j43 ka kb Z7 u6 (F_X3_setListWithFirst_l15 ka kb xa K_15 n15)) xa) (br (xa < u6) ((F_X3_setListWithFirst_j43 ka kb Z7 u6 (F_X3_setListWithFirst_l15 ka kb xa K_15 n15)) u6) (bv (u6 - (1 : Int32)) fun y21 => (F_X3_setListWithFirst_j43 ka kb Z7 u6 (F_X3_setListWithFirst_l15 ka kb xa K_15 n15)) y21)))

noncomputable def F_X3_setListWithFirst (Z : Mem) (ka : Nat) (kb : Nat) (xa : Int32) : Option (Mem × Unit) :=
  bv (Z.1 (39 + kb) 3) fun y1 => gd (y1 = 0 ∨ y1 = 1) <| bv (si Z (39 + ka) 3 y1) fun Z3 => bv (si Z3 (39 + ka) 5 (0 : Int32)) fun Z4 => F_X3_setListWithFirst_l15 ka kb xa F_X3_setListWithFirst_x15 100 Z4 (0 : Int32)

set_option maxHeartbeats 4000000 in
set_option maxRecDepth 100000 in
theorem c_X3_setListWithFirst (l : Launch) (dC : Nat → ClassId) (dI : Nat → Nat → Nat) (q : Nat → ClassId) (aa : Nat → Nat) (Z : Mem) (ka : Nat) (kb : Nat) (xa : Int32) (hka : ka < 25) (hkb : kb < 25) (sz : Nat) (Zo : Mem) (ro : Unit) (hF : F_X3_setListWithFirst Z ka kb xa = some (Zo, ro)) : Met l yX3_setListWithFirst wsX3_setListWithFirst ({ frames := 2, cells := 0, slots := 0, locals := 40 }) (va_Pc [.ref (aa (39 + ka)), .ref (aa (39 + kb)), .int xa] (pr_ dC dI (bw q aa Z) (bty q) sz)) (va_Qv (fun (_ : Unit) => True) (fun (_ : Unit) t => po_ dC dI (bw q aa Zo) (bty q) (va_A (bw q aa Z) sz) t) (va_A (bw q aa Z) sz)) 0 0 (va_A (bw q aa Z) sz) := by
  refine Met.ofW (cc := cX3_setListWithFirst) (maxL := 5) (ret := none) (by decide) rfl ?_
  intro p e s m args below meth c s₁ B hml hv
  obtain ⟨hargs, hsz, hP, hK, hD0⟩ := hv
  have hx := B.exec
  have hb := B.bytes
  have hr := B.returns
  have hts := atoms_spec (ws := wsX3_setListWithFirst) B.pre
  have hown : s.vm.findClass RX3 = some m.cls := findClass_of_methodNamed B.named
  have hlocks := B.notSynchronized
  subst hsz
  have hD := hD0.self (sz := s.heap.size)
  generalize hAe : va_A (bw q aa Z) s.heap.size = A at hD ⊢
  have hA : ∀ x : Nat, s.heap.size ≤ x → A x := fun x h => by rw [← hAe]; exact Or.inr h
  have hS : va_S A s.heap s.heap [] := va_S.rf
  have hinX3 : ∀ w ∈ u_ws RX3 TX3 7, w ∈ wsX3_setListWithFirst := by decide +kernel
  have hl := lv_entry ([.ref (aa (39 + ka)), .ref (aa (39 + kb)), .int xa]) (n := 5) (Nat.le_of_ble_eq_true rfl)
  refine w_ent hargs ?_
  rw [lg_entry_eq]
  generalize (lg_sl ([.ref (aa (39 + ka)), .ref (aa (39 + kb)), .int xa]) ++ List.replicate (5 - (lg_sl ([.ref (aa (39 + ka)), .ref (aa (39 + kb)), .int xa])).length) Slot.unset).toArray = ls at hl ⊢
  have hl : lv_has ls 5 [(0, .ref (aa (39 + ka))), (1, .ref (aa (39 + kb))), (2, .int xa)] := hl
  unfold F_X3_setListWithFirst at hF
  refine w_go (fun Q hQ => ?_)
  refine lv_aload_n hx hb dX3_setListWithFirst_0 rfl (lv_at hl 0 rfl) ?_
  refine lv_aload_n hx hb dX3_setListWithFirst_1 rfl (lv_at hl 1 rfl) ?_
  refine va_get (D := (dC, dI)) (ci := 5) (v := .int (Z.1 (39 + kb) 3)) (C := RX3) (T := TX3) (N := 7) hx hb hts hinX3 hown hK hP (39 + kb) (bw_at (i := 39 + kb) (by omega) (bk_stk hkb _ _)) rfl 3 (by decide) (hts (.fieldLink RX3 28 "BallotLoom$Stack" "isSpoiled" "Z") (by decide +kernel)) (fun _ h9 => h9) rfl dX3_setListWithFirst_2 ?_
  refine lv_topi (fun y1 ey1 => ?_)
  have hF := bv_at ey1 hF
  obtain ⟨hg2, hF⟩ := gd_some hF
  obtain ⟨Z3, eZ3, hF⟩ := bv_some hF
  refine va_put (D := (dC, dI)) (ci := 5) (v := .int y1) (ty := .boolean) (C := RX3) (T := TX3) (N := 7) hx hb hts hinX3 tyX3 tyX3_ok nmX3 hown hK hP hD hS (39 + ka) (bw_at (i := 39 + ka) (by omega) (bk_stk hka _ _)) rfl 3 (by decide) (hts (.fieldLink RX3 28 "BallotLoom$Stack" "isSpoiled" "Z") (by decide +kernel)) (fun _ h9 => h9) rfl (by decide +kernel) (nar_b hg2) (fit_b hg2) (Nat.le_of_ble_eq_true rfl) dX3_setListWithFirst_5 (fun H locs hP hD hS => ?_)
  have eW := wz_o (q := q) (aa := aa) (i := (39 + ka)) (ci := 5) (fs := [.int (Z.1 (39 + ka) 0), .int (Z.1 (39 + ka) 1), .int (Z.1 (39 + ka) 2), .int y1, .ref (aa (64 + ka)), .int (Z.1 (39 + ka) 5), .double (Z.2 (39 + ka) 6)]) (bk_stk hka _ _) eZ3
  have hP : va_P (dC, dI) vwCl (bw q aa Z3) H := eW ▸ hP
  have hD : va_D A (bw q aa Z3) := eW ▸ hD
  clear eW
  refine lv_aload_n hx hb dX3_setListWithFirst_8 rfl (lv_at hl 0 rfl) ?_
  refine lv_iconst (v := 0) hx hb dX3_setListWithFirst_9 (by decide) ?_
  obtain ⟨Z4, eZ4, hF⟩ := bv_some hF
  refine va_put (D := (dC, dI)) (ci := 5) (v := .int 0) (ty := .int) (C := RX3) (T := TX3) (N := 7) hx hb hts hinX3 tyX3 tyX3_ok nmX3 hown hK hP hD hS (39 + ka) (bw_at (i := 39 + ka) (by omega) (bk_stk hka _ _)) rfl 5 (by decide) (hts (.fieldLink RX3 36 "BallotLoom$Stack" "length" "I") (by decide +kernel)) (fun _ h9 => h9) rfl (by decide +kernel) rfl rfl (Nat.le_of_ble_eq_true rfl) dX3_setListWithFirst_10 (fun H locs hP hD hS => ?_)
  have eW := wz_o (q := q) (aa := aa) (i := (39 + ka)) (ci := 5) (fs := [.int (Z3.1 (39 + ka) 0), .int (Z3.1 (39 + ka) 1), .int (Z3.1 (39 + ka) 2), .int (Z3.1 (39 + ka) 3), .ref (aa (64 + ka)), .int 0, .double (Z3.2 (39 + ka) 6)]) (bk_stk hka _ _) eZ4
  have hP : va_P (dC, dI) vwCl (bw q aa Z4) H := eW ▸ hP
  have hD : va_D A (bw q aa Z4) := eW ▸ hD
  clear eW
  refine lv_iconst (v := 0) hx hb dX3_setListWithFirst_13 (by decide) ?_
  refine lv_istore_n (lv' := [(3, .int 0), (0, .ref (aa (39 + ka))), (1, .ref (aa (39 + kb))), (2, .int xa)]) hx hb dX3_setListWithFirst_14 rfl hl (by decide) rfl (fun ls hl => ?_)
  have Jx15 : ∀ (Z5 : Mem) (H : Heap) (locs : List Loc) (ls : Array Slot), F_X3_setListWithFirst_x15 Z5 = some (Zo, ro) → va_P (dC, dI) vwCl (bw q aa Z5) H → va_D A (bw q aa Z5) → va_S A s.heap H locs → lv_has ls 5 [] → W p l e (headSpec wsX3_setListWithFirst ({ frames := 2, cells := 0, slots := 0, locals := 40 } : Room)).room s m args below meth c H locs 0 0 Q (F0 m 77 ls []) := by
    intro Z5 H locs ls hF hP hD hS hl
    unfold F_X3_setListWithFirst_x15 at hF
    obtain ⟨e8, e9⟩ := some2 hF
    rw [← e8] at hP hD
    subst hQ
    exact W.vret hx hb hr (fun t ht hW => ⟨⟨(), rfl, trivial, po_mk ht hW hP hK hD⟩, hS.F ht⟩) hS.2.2 dX3_setListWithFirst_77
  have L15 : ∀ (n15 : Nat) (Z7 : Mem) (u6 : Int32) (H : Heap) (locs : List Loc) (ls : Array Slot), F_X3_setListWithFirst_l15 ka kb xa F_X3_setListWithFirst_x15 n15 Z7 u6 = some (Zo, ro) → va_P (dC, dI) vwCl (bw q aa Z7) H → va_D A (bw q aa Z7) → va_S A s.heap H locs → lv_has ls 5 [(3, .int u6), (0, .ref (aa (39 + ka))), (1, .ref (aa (39 + kb))), (2, .int xa)] → W p l e (headSpec wsX3_setListWithFirst ({ frames := 2, cells := 0, slots := 0, locals := 40 } : Room)).room s m args below meth c H locs 0 0 Q (F0 m 15 ls []) := by
    intro n15
    induction n15 with
    | zero =>
      intro Z7 u6 H locs ls hF
      rw [F_X3_setListWithFirst_l15] at hF
      cases hF
    | succ n15 IH15 =>
      intro Z7 u6 H locs ls hF hP hD hS hl
      rw [F_X3_setListWithFirst_l15] at hF
      refine lv_iload_n hx hb dX3_setListWithFirst_15 rfl (lv_at hl 0 rfl) ?_
      refine lv_aload_n hx hb dX3_setListWithFirst_16 rfl (lv_at hl 2 rfl) ?_
      refine va_get (D := (dC, dI)) (ci := 5) (v := .int (Z7.1 (39 + kb) 5)) (C := RX3) (T := TX3) (N := 7) hx hb hts hinX3 hown hK hP (39 + kb) (bw_at (i := 39 + kb) (by omega) (bk_stk hkb _ _)) rfl 5 (by decide) (hts (.fieldLink RX3 36 "BallotLoom$Stack" "length" "I") (by decide +kernel)) (fun _ h9 => h9) rfl dX3_setListWithFirst_17 ?_
      refine lv_topi (fun y8 ey8 => ?_)
      have hF := bv_at ey8 hF
      refine lv_icmp_ge (tgt := 77) hx hb dX3_setListWithFirst_20 (by decide) (fun hc9 => ?_) (fun hc9 => ?_)
      · have hF := br_pos hc9 hF
        exact Jx15 Z7 _ _ _ hF hP hD hS (lv_sub hl [] rfl)
      · have hF := br_neg hc9 hF
        refine lv_iload_n hx hb dX3_setListWithFirst_23 rfl (lv_at hl 0 rfl) ?_
        have Jj43 : ∀ (v10 : Int32) (H : Heap) (locs : List Loc) (ls : Array Slot), (F_X3_setListWithFirst_j43 ka kb Z7 u6 (F_X3_setListWithFirst_l15 ka kb xa F_X3_setListWithFirst_x15 n15)) v10 = some (Zo, ro) → va_P (dC, dI) vwCl (bw q aa Z7) H → va_D A (bw q aa Z7) → va_S A s.heap H locs → lv_has ls 5 [(3, .int u6), (0, .ref (aa (39 + ka))), (1, .ref (aa (39 + kb))), (2, .int xa)] → W p l e (headSpec wsX3_setListWithFirst ({ frames := 2, cells := 0, slots := 0, locals := 40 } : Room)).room s m args below meth c H locs 0 0 Q (F0 m 43 ls [.int v10]) := by
          intro v10 H locs ls hF hP hD hS hl
          unfold F_X3_setListWithFirst_j43 at hF
          refine lv_istore (lv' := [(4, .int v10), (3, .int u6), (0, .ref (aa (39 + ka))), (1, .ref (aa (39 + kb))), (2, .int xa)]) hx hb dX3_setListWithFirst_43 hl (by decide) rfl (fun ls hl => ?_)
          refine lv_aload_n hx hb dX3_setListWithFirst_45 rfl (lv_at hl 2 rfl) ?_
          refine va_get (D := (dC, dI)) (ci := 5) (v := .ref (aa (64 + ka))) (C := RX3) (T := TX3) (N := 7) hx hb hts hinX3 hown hK hP (39 + ka) (bw_at (i := 39 + ka) (by omega) (bk_stk hka _ _)) rfl 4 (by decide) (hts (.fieldLink RX3 9 "BallotLoom$Stack" "list" "[I") (by decide +kernel)) (fun _ h9 => h9) rfl dX3_setListWithFirst_46 ?_
          refine lv_aload_n hx hb dX3_setListWithFirst_49 rfl (lv_at hl 2 rfl) ?_
          refine va_get (D := (dC, dI)) (ci := 5) (v := .int (Z7.1 (39 + ka) 5)) (C := RX3) (T := TX3) (N := 7) hx hb hts hinX3 hown hK hP (39 + ka) (bw_at (i := 39 + ka) (by omega) (bk_stk hka _ _)) rfl 5 (by decide) (hts (.fieldLink RX3 36 "BallotLoom$Stack" "length" "I") (by decide +kernel)) (fun _ h9 => h9) rfl dX3_setListWithFirst_50 ?_
          refine lv_topi (fun y11 ey11 => ?_)
          have hF := bv_at ey11 hF
          refine lv_aload_n hx hb dX3_setListWithFirst_53 rfl (lv_at hl 3 rfl) ?_
          refine va_get (D := (dC, dI)) (ci := 5) (v := .ref (aa (64 + kb))) (C := RX3) (T := TX3) (N := 7) hx hb hts hinX3 hown hK hP (39 + kb) (bw_at (i := 39 + kb) (by omega) (bk_stk hkb _ _)) rfl 4 (by decide) (hts (.fieldLink RX3 9 "BallotLoom$Stack" "list" "[I") (by decide +kernel)) (fun _ h9 => h9) rfl dX3_setListWithFirst_54 ?_
          refine lv_iload hx hb dX3_setListWithFirst_57 (lv_at hl 0 rfl) ?_
          obtain ⟨hg12, hF⟩ := gd_some hF
          refine va_iald hx hb hK hP (64 + kb) 0 (at_i (by omega) (bk_lst hkb)) rfl hg12 dX3_setListWithFirst_59 ?_
          refine lv_topi (fun y13 ey13 => ?_)
          have hF := bv_at ey13 hF
          obtain ⟨hg14, hF⟩ := gd_some hF
          obtain ⟨Z15, eZ15, hF⟩ := bv_some hF
          refine va_iast hx hb hK hP hD hS (64 + ka) 0 (at_i (by omega) (bk_lst hka)) rfl hg14 dX3_setListWithFirst_60 (fun H locs hP hD hS => ?_)
          have eW := wz_i (q := q) (aa := aa) (i := (64 + ka)) (bk_lst hka) eZ15
          have hP : va_P (dC, dI) vwCl (bw q aa Z15) H := eW ▸ hP
          have hD : va_D A (bw q aa Z15) := eW ▸ hD
          clear eW
          refine lv_aload_n hx hb dX3_setListWithFirst_61 rfl (lv_at hl 2 rfl) ?_
          refine lv_dup hx hb dX3_setListWithFirst_62 rfl ?_
          refine va_get (D := (dC, dI)) (ci := 5) (v := .int (Z15.1 (39 + ka) 5)) (C := RX3) (T := TX3) (N := 7) hx hb hts hinX3 hown hK hP (39 + ka) (bw_at (i := 39 + ka) (by omega) (bk_stk hka _ _)) rfl 5 (by decide) (hts (.fieldLink RX3 36 "BallotLoom$Stack" "length" "I") (by decide +kernel)) (fun _ h9 => h9) rfl dX3_setListWithFirst_63 ?_
          refine lv_topi (fun y16 ey16 => ?_)
          have hF := bv_at ey16 hF
          refine lv_iconst (v := 1) hx hb dX3_setListWithFirst_66 (by decide) ?_
          refine lv_iadd hx hb dX3_setListWithFirst_67 ?_
          refine lv_topi (fun y17 ey17 => ?_)
          have hF := bv_at ey17 hF
          obtain ⟨Z18, eZ18, hF⟩ := bv_some hF
          refine va_put (D := (dC, dI)) (ci := 5) (v := .int y17) (ty := .int) (C := RX3) (T := TX3) (N := 7) hx hb hts hinX3 tyX3 tyX3_ok nmX3 hown hK hP hD hS (39 + ka) (bw_at (i := 39 + ka) (by omega) (bk_stk hka _ _)) rfl 5 (by decide) (hts (.fieldLink RX3 36 "BallotLoom$Stack" "length" "I") (by decide +kernel)) (fun _ h9 => h9) rfl (by decide +kernel) rfl rfl (Nat.le_of_ble_eq_true rfl) dX3_setListWithFirst_68 (fun H locs hP hD hS => ?_)
          have eW := wz_o (q := q) (aa := aa) (i := (39 + ka)) (ci := 5) (fs := [.int (Z15.1 (39 + ka) 0), .int (Z15.1 (39 + ka) 1), .int (Z15.1 (39 + ka) 2), .int (Z15.1 (39 + ka) 3), .ref (aa (64 + ka)), .int y17, .double (Z15.2 (39 + ka) 6)]) (bk_stk hka _ _) eZ18
          have hP : va_P (dC, dI) vwCl (bw q aa Z18) H := eW ▸ hP
          have hD : va_D A (bw q aa Z18) := eW ▸ hD
          clear eW
          refine lv_iinc (k := 1) (v := (u6 + (1 : Int32))) (lv' := [(3, .int (u6 + (1 : Int32))), (4, .int v10), (0, .ref (aa (39 + ka))), (1, .ref (aa (39 + kb))), (2, .int xa)]) hx hb dX3_setListWithFirst_71 hl rfl (ii_ _ _ _ (by decide)) (by decide) rfl (fun ls hl => ?_)
          refine lv_goto (tgt := 15) hx hb dX3_setListWithFirst_74 (by decide) ?_
          exact IH15 Z18 (u6 + (1 : Int32)) _ _ _ hF hP hD hS (lv_sub hl [0, 2, 3, 4] rfl)
        refine lv_if_ne (tgt := 31) hx hb dX3_setListWithFirst_24 (by decide) (fun hc19 => ?_) (fun hc19 => ?_)
        · have hF := br_neg hc19 hF
          refine lv_iload_n hx hb dX3_setListWithFirst_31 rfl (lv_at hl 0 rfl) ?_
          refine lv_iload_n hx hb dX3_setListWithFirst_32 rfl (lv_at hl 3 rfl) ?_
          refine lv_icmp_gt (tgt := 42) hx hb dX3_setListWithFirst_33 (by decide) (fun hc20 => ?_) (fun hc20 => ?_)
          · have hF := br_pos hc20 hF
            refine lv_iload_n hx hb dX3_setListWithFirst_42 rfl (lv_at hl 0 rfl) ?_
            exact Jj43 u6 _ _ _ hF hP hD hS (lv_sub hl [0, 1, 2, 3] rfl)
          · have hF := br_neg hc20 hF
            refine lv_iload_n hx hb dX3_setListWithFirst_36 rfl (lv_at hl 0 rfl) ?_
            refine lv_iconst (v := 1) hx hb dX3_setListWithFirst_37 (by decide) ?_
            refine lv_isub hx hb dX3_setListWithFirst_38 ?_
            refine lv_topi (fun y21 ey21 => ?_)
            have hF := bv_at ey21 hF
            refine lv_goto (tgt := 43) hx hb dX3_setListWithFirst_39 (by decide) ?_
            exact Jj43 y21 _ _ _ hF hP hD hS (lv_sub hl [0, 1, 2, 3] rfl)
        · have hF := br_pos hc19 hF
          refine lv_iload_n hx hb dX3_setListWithFirst_27 rfl (lv_at hl 3 rfl) ?_
          refine lv_goto (tgt := 43) hx hb dX3_setListWithFirst_28 (by decide) ?_
          exact Jj43 xa _ _ _ hF hP hD hS (lv_sub hl [0, 1, 2, 3] rfl)
  exact L15 100 Z4 (0 : Int32) _ _ _ hF hP hD hS (lv_sub hl [0, 1, 2, 3] rfl)
