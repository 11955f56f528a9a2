/-! p31: 17.digest (laid by wip/gen31/bgen.py) -/
noncomputable def F_X5_mix (Z : Mem) (xa : Int64) (xb : Int64) : Option Int64 :=
  bv (xa * (31 : Int64)) fun y1 => bv (y1 + xb) fun y2 => some y2

set_option maxHeartbeats 4000000 in
set_option maxRecDepth 100000 in
theorem c_X5_mix (l : Launch) (dC : Nat → ClassId) (dI : Nat → Nat → Nat) (q : Nat → ClassId) (aa : Nat → Nat) (Z : Mem) (xa : Int64) (xb : Int64)  (sz : Nat) (ro : Int64) (hF : F_X5_mix Z xa xb = some ro) : Met l yX5_mix wsX5_mix ({ frames := 2, cells := 0, slots := 0, locals := 40 }) (va_Pc [.long xa, .long xb] (pr_ dC dI (bw q aa Z) (bty q) sz)) (va_Ql (fun (r : Int64) (_ : Unit) => r = ro) (fun (_ : Unit) t => po_ dC dI (bw q aa Z) (bty q) (va_A (bw q aa Z) sz) t) (va_A (bw q aa Z) sz)) 0 0 (va_A (bw q aa Z) sz) := by
  refine Met.ofW (cc := cX5_mix) (maxL := 4) (ret := (some .long)) (by decide) rfl ?_
  intro p e s m args below meth c s₁ B hml hv
  obtain ⟨hargs, hsz, hP, hK, hD0⟩ := hv
  have hx := B.exec
  have hb := B.bytes
  have hr := B.returns
  have hts := atoms_spec (ws := wsX5_mix) B.pre
  have hown : s.vm.findClass RX5 = some m.cls := findClass_of_methodNamed B.named
  have hlocks := B.notSynchronized
  subst hsz
  have hD := hD0.self (sz := s.heap.size)
  generalize hAe : va_A (bw q aa Z) s.heap.size = A at hD ⊢
  have hA : ∀ x : Nat, s.heap.size ≤ x → A x := fun x h => by rw [← hAe]; exact Or.inr h
  have hS : va_S A s.heap s.heap [] := va_S.rf
  have hl := lv_entry ([.long xa, .long xb]) (n := 4) (Nat.le_of_ble_eq_true rfl)
  refine w_ent hargs ?_
  rw [lg_entry_eq]
  generalize (lg_sl ([.long xa, .long xb]) ++ List.replicate (4 - (lg_sl ([.long xa, .long xb])).length) Slot.unset).toArray = ls at hl ⊢
  have hl : lv_has ls 4 [(0, .long xa), (2, .long xb)] := hl
  unfold F_X5_mix at hF
  refine w_go (fun Q hQ => ?_)
  refine lv_lload_n hx hb dX5_mix_0 rfl (lv_at hl 0 rfl) ?_
  refine lv_ldc2 (v := 31) hx hb hown (hts (.constantLong RX5 288 31) (by decide +kernel)) dX5_mix_1 ?_
  refine lv_lmul hx hb dX5_mix_4 ?_
  refine lv_topl (fun y1 ey1 => ?_)
  have hF := bv_at ey1 hF
  refine lv_lload_n hx hb dX5_mix_5 rfl (lv_at hl 1 rfl) ?_
  refine lv_ladd hx hb dX5_mix_6 ?_
  refine lv_topl (fun y2 ey2 => ?_)
  have hF := bv_at ey2 hF
  have e9 := some1 hF
  subst hQ
  exact W.lret (v := y2) hx hb hr (fun t ht hW => ⟨⟨y2, (), rfl, e9.symm, po_mk ht hW hP hK hD⟩, hS.F ht⟩) hS.2.2 dX5_mix_7

noncomputable def F_X5_mixStack_x5 (Z : Mem) (ka : Nat) (w1 : Int64) : Option Int64 :=
  bv (Z.2 (39 + ka) 6) fun y2 => gd ((FP.dmul (4652218415073722368 : UInt64) y2) &&& 0x7fffffffffffffff ≤ 0x7ff0000000000000) <| bv (FP.dmul (4652218415073722368 : UInt64) y2) fun y4 => bv (FP.d2l y4) fun y5 => calp (F_X5_mix Z w1 y5) fun rr8 => some rr8

noncomputable def F_X5_mixStack_l5 (Z : Mem) (ka : Nat) (K_5 : Int64 → Option Int64) : Nat → Int64 → Int32 → Option Int64
  | 0, _, _ => none
  | n5 + 1, u9, u10 =>
  br ((5 : Int32) < u10) (K_5 u9) (calp (F_X3_figure Z ka u10) fun rr14 => bv (Int32.toInt64 rr14) fun y15 => calp (F_X5_mix Z u9 y15) fun rr18 => (F_X5_mixStack_l5 Z ka K_5 n5) rr18 (u10 + (1 : Int32)))

noncomputable def F_X5_mixStack (Z : Mem) (xa : Int64) (ka : Nat) : Option Int64 :=
  F_X5_mixStack_l5 Z ka (F_X5_mixStack_x5 Z ka) 100 xa (0 : Int32)

set_option maxHeartbeats 4000000 in
set_option maxRecDepth 100000 in
theorem c_X5_mixStack (l : Launch) (dC : Nat → ClassId) (dI : Nat → Nat → Nat) (q : Nat → ClassId) (aa : Nat → Nat) (Z : Mem) (xa : Int64) (ka : Nat) (hka : ka < 25) (sz : Nat) (ro : Int64) (hF : F_X5_mixStack Z xa ka = some ro) : Met l yX5_mixStack wsX5_mixStack ({ frames := 3, cells := 0, slots := 0, locals := 63 }) (va_Pc [.long xa, .ref (aa (39 + ka))] (pr_ dC dI (bw q aa Z) (bty q) sz)) (va_Ql (fun (r : Int64) (_ : Unit) => r = ro) (fun (_ : Unit) t => po_ dC dI (bw q aa Z) (bty q) (va_A (bw q aa Z) sz) t) (va_A (bw q aa Z) sz)) 0 0 (va_A (bw q aa Z) sz) := by
  refine Met.ofW (cc := cX5_mixStack) (maxL := 6) (ret := (some .long)) (by decide) rfl ?_
  intro p e s m args below meth c s₁ B hml hv
  obtain ⟨hargs, hsz, hP, hK, hD0⟩ := hv
  have hx := B.exec
  have hb := B.bytes
  have hr := B.returns
  have hts := atoms_spec (ws := wsX5_mixStack) B.pre
  have hown : s.vm.findClass RX5 = some m.cls := findClass_of_methodNamed B.named
  have hlocks := B.notSynchronized
  subst hsz
  have hD := hD0.self (sz := s.heap.size)
  generalize hAe : va_A (bw q aa Z) s.heap.size = A at hD ⊢
  have hA : ∀ x : Nat, s.heap.size ≤ x → A x := fun x h => by rw [← hAe]; exact Or.inr h
  have hS : va_S A s.heap s.heap [] := va_S.rf
  have hinX3 : ∀ w ∈ u_ws RX3 TX3 7, w ∈ wsX5_mixStack := by decide +kernel
  have hl := lv_entry ([.long xa, .ref (aa (39 + ka))]) (n := 6) (Nat.le_of_ble_eq_true rfl)
  refine w_ent hargs ?_
  rw [lg_entry_eq]
  generalize (lg_sl ([.long xa, .ref (aa (39 + ka))]) ++ List.replicate (6 - (lg_sl ([.long xa, .ref (aa (39 + ka))])).length) Slot.unset).toArray = ls at hl ⊢
  have hl : lv_has ls 6 [(0, .long xa), (2, .ref (aa (39 + ka)))] := hl
  unfold F_X5_mixStack at hF
  refine w_go (fun Q hQ => ?_)
  refine lv_lload_n hx hb dX5_mixStack_0 rfl (lv_at hl 0 rfl) ?_
  refine lv_lstore_n (lv' := [(3, .long xa), (0, .long xa), (2, .ref (aa (39 + ka)))]) hx hb dX5_mixStack_1 rfl hl (by decide) rfl (fun ls hl => ?_)
  refine lv_iconst (v := 0) hx hb dX5_mixStack_2 (by decide) ?_
  refine lv_istore (lv' := [(5, .int 0), (3, .long xa), (0, .long xa), (2, .ref (aa (39 + ka)))]) hx hb dX5_mixStack_3 hl (by decide) rfl (fun ls hl => ?_)
  have Jx5 : ∀ (w1 : Int64) (H : Heap) (locs : List Loc) (ls : Array Slot), (F_X5_mixStack_x5 Z ka) w1 = some ro → va_P (dC, dI) vwCl (bw q aa Z) H → va_D A (bw q aa Z) → va_S A s.heap H locs → lv_has ls 6 [(3, .long w1), (2, .ref (aa (39 + ka)))] → W p l e (headSpec wsX5_mixStack ({ frames := 3, cells := 0, slots := 0, locals := 63 } : Room)).room s m args below meth c H locs 0 0 Q (F0 m 29 ls []) := by
    intro w1 H locs ls hF hP hD hS hl
    unfold F_X5_mixStack_x5 at hF
    refine lv_lload_n hx hb dX5_mixStack_29 rfl (lv_at hl 0 rfl) ?_
    refine lv_ldc2d (v := 4652218415073722368) hx hb hown (hts (.constantDouble RX5 290 (4652218415073722368)) (by decide +kernel)) dX5_mixStack_30 ?_
    refine lv_aload_n hx hb dX5_mixStack_33 rfl (lv_at hl 1 rfl) ?_
    refine va_get (D := (dC, dI)) (ci := 5) (v := .double (Z.2 (39 + ka) 6)) (C := RX3) (T := TX3) (N := 7) hx hb hts hinX3 hown hK hP (39 + ka) (bw_at (i := 39 + ka) (by omega) (bk_stk hka _ _)) rfl 6 (by decide) (hts (.fieldLink RX5 206 "BallotLoom$Stack" "value" "D") (by decide +kernel)) (fun _ h9 => h9) rfl dX5_mixStack_34 ?_
    refine lv_topd (fun y2 ey2 => ?_)
    have hF := bv_at ey2 hF
    obtain ⟨hg3, hF⟩ := gd_some hF
    refine lv_dmul hx hb dX5_mixStack_37 hg3 ?_
    refine lv_topd (fun y4 ey4 => ?_)
    have hF := bv_at ey4 hF
    refine lv_d2l hx hb dX5_mixStack_38 ?_
    refine lv_topl (fun y5 ey5 => ?_)
    have hF := bv_at ey5 hF
    obtain ⟨r7, hC6, hF⟩ := calp_some hF
    have hFc := b_free (ws := bw q aa Z) hD hS hA
    refine va_calll (va_runS (As := [.long w1, .long y5]) (rest := []) ⟨hx, hb, hml, hown, hts⟩ (c_X5_mix l dC dI q aa Z w1 y5  _ _  hC6) (va_cwS 2 hts gX5_mixStack_X5_mix rfl rfl rfl (by decide +kernel) ⟨Nat.le_of_ble_eq_true rfl, Nat.le_of_ble_eq_true rfl⟩) ⟨pr_blind, fun U hU hW => ⟨rfl, pr_mk hU hW hP hK hD⟩⟩ rfl rfl hl.1 rfl (lv_room (Nat.le_of_ble_eq_true rfl)) dX5_mixStack_39 ⟨Nat.le_of_ble_eq_true rfl, Nat.le_of_ble_eq_true rfl⟩) hS (fun x _ h => hFc x h) hFc (fun rr8 u t H1 locs ht hvm hw hB hz1 hk1 hS => ?_)
    obtain ⟨hP, hK1, hD1⟩ := hB
    rw [ht] at hP
    have hD := hD1.weaken (fun _ q9 _ h9 => hFc q9.1 h9)
    clear hFc hD1 hK1 hvm hz1 hk1
    generalize H1 = H at hP hS ⊢
    refine W.widen (k := 0) (n := 0) (Nat.le_refl _) (Nat.le_refl _) ?_
    obtain rfl : rr8 = r7 := hw
    have e9 := some1 hF
    subst hQ
    exact W.lret (v := rr8) hx hb hr (fun t ht hW => ⟨⟨rr8, (), rfl, e9.symm, po_mk ht hW hP hK hD⟩, hS.F ht⟩) hS.2.2 dX5_mixStack_42
  have L5 : ∀ (n5 : Nat) (u9 : Int64) (u10 : Int32) (H : Heap) (locs : List Loc) (ls : Array Slot), F_X5_mixStack_l5 Z ka (F_X5_mixStack_x5 Z ka) n5 u9 u10 = some ro → va_P (dC, dI) vwCl (bw q aa Z) H → va_D A (bw q aa Z) → va_S A s.heap H locs → lv_has ls 6 [(5, .int u10), (3, .long u9), (2, .ref (aa (39 + ka)))] → W p l e (headSpec wsX5_mixStack ({ frames := 3, cells := 0, slots := 0, locals := 63 } : Room)).room s m args below meth c H locs 0 0 Q (F0 m 5 ls []) := by
    intro n5
    induction n5 with
    | zero =>
      intro u9 u10 H locs ls hF
      rw [F_X5_mixStack_l5] at hF
      cases hF
    | succ n5 IH5 =>
      intro u9 u10 H locs ls hF hP hD hS hl
      rw [F_X5_mixStack_l5] at hF
      refine lv_iload hx hb dX5_mixStack_5 (lv_at hl 0 rfl) ?_
      refine lv_iconst (v := 5) hx hb dX5_mixStack_7 (by decide) ?_
      refine lv_icmp_gt (tgt := 29) hx hb dX5_mixStack_8 (by decide) (fun hc11 => ?_) (fun hc11 => ?_)
      · have hF := br_pos hc11 hF
        exact Jx5 u9 _ _ _ hF hP hD hS (lv_sub hl [1, 2] rfl)
      · have hF := br_neg hc11 hF
        refine lv_lload_n hx hb dX5_mixStack_11 rfl (lv_at hl 1 rfl) ?_
        refine lv_aload_n hx hb dX5_mixStack_12 rfl (lv_at hl 2 rfl) ?_
        refine lv_iload hx hb dX5_mixStack_13 (lv_at hl 0 rfl) ?_
        obtain ⟨r13, hC12, hF⟩ := calp_some hF
        have hFc := b_free (ws := bw q aa Z) hD hS hA
        refine va_calli (va_runV (As := [.int u10]) (rest := [.long u9]) ⟨hx, hb, hml, hown, hts⟩ (c_X3_figure l dC dI q aa Z ka u10 hka _ _  hC12) (cwV 1 hts gX5_mixStack_X3_figure rfl rfl rfl (by decide +kernel) ⟨Nat.le_of_ble_eq_true rfl, Nat.le_of_ble_eq_true rfl⟩) ⟨pr_blind, va_recv hK hP (ci := 5) (q0 := (39 + ka)) rfl (bw_at (i := 39 + ka) (by omega) (bk_stk hka _ _)), fun U hU hW => ⟨rfl, pr_mk hU hW hP hK hD⟩⟩ rfl rfl hl.1 rfl (lv_room (Nat.le_of_ble_eq_true rfl)) dX5_mixStack_15 ⟨Nat.le_of_ble_eq_true rfl, Nat.le_of_ble_eq_true rfl⟩) hS (fun x _ h => hFc x h) hFc (fun rr14 u t H1 locs ht hvm hw hB hz1 hk1 hS => ?_)
        obtain ⟨hP, hK1, hD1⟩ := hB
        rw [ht] at hP
        have hD := hD1.weaken (fun _ q9 _ h9 => hFc q9.1 h9)
        clear hFc hD1 hK1 hvm hz1 hk1
        generalize H1 = H at hP hS ⊢
        refine W.widen (k := 0) (n := 0) (Nat.le_refl _) (Nat.le_refl _) ?_
        obtain rfl : rr14 = r13 := hw
        refine lv_i2l hx hb dX5_mixStack_18 rfl ?_
        refine lv_topl (fun y15 ey15 => ?_)
        have hF := bv_at ey15 hF
        obtain ⟨r17, hC16, hF⟩ := calp_some hF
        have hFc := b_free (ws := bw q aa Z) hD hS hA
        refine va_calll (va_runS (As := [.long u9, .long y15]) (rest := []) ⟨hx, hb, hml, hown, hts⟩ (c_X5_mix l dC dI q aa Z u9 y15  _ _  hC16) (va_cwS 2 hts gX5_mixStack_X5_mix rfl rfl rfl (by decide +kernel) ⟨Nat.le_of_ble_eq_true rfl, Nat.le_of_ble_eq_true rfl⟩) ⟨pr_blind, fun U hU hW => ⟨rfl, pr_mk hU hW hP hK hD⟩⟩ rfl rfl hl.1 rfl (lv_room (Nat.le_of_ble_eq_true rfl)) dX5_mixStack_19 ⟨Nat.le_of_ble_eq_true rfl, Nat.le_of_ble_eq_true rfl⟩) hS (fun x _ h => hFc x h) hFc (fun rr18 u t H1 locs ht hvm hw hB hz1 hk1 hS => ?_)
        obtain ⟨hP, hK1, hD1⟩ := hB
        rw [ht] at hP
        have hD := hD1.weaken (fun _ q9 _ h9 => hFc q9.1 h9)
        clear hFc hD1 hK1 hvm hz1 hk1
        generalize H1 = H at hP hS ⊢
        refine W.widen (k := 0) (n := 0) (Nat.le_refl _) (Nat.le_refl _) ?_
        obtain rfl : rr18 = r17 := hw
        refine lv_lstore_n (lv' := [(3, .long rr18), (5, .int u10), (2, .ref (aa (39 + ka)))]) hx hb dX5_mixStack_22 rfl hl (by decide) rfl (fun ls hl => ?_)
        refine lv_iinc (k := 1) (v := (u10 + (1 : Int32))) (lv' := [(5, .int (u10 + (1 : Int32))), (3, .long rr18), (2, .ref (aa (39 + ka)))]) hx hb dX5_mixStack_23 hl rfl (ii_ _ _ _ (by decide)) (by decide) rfl (fun ls hl => ?_)
        refine lv_goto (tgt := 5) hx hb dX5_mixStack_26 (by decide) ?_
        exact IH5 rr18 (u10 + (1 : Int32)) _ _ _ hF hP hD hS (lv_sub hl [0, 1, 2] rfl)
  exact L5 100 xa (0 : Int32) _ _ _ hF hP hD hS (lv_sub hl [0, 1, 3] rfl)

noncomputable def F_X5_mixDistrict_x179 (Z24 : Mem) (w26 : Int64) : Option (Mem × Int64) :=
  some (Z24, w26)

noncomputable def F_X5_mixDistrict_l179 (Z24 : Mem) (K_179 : Int64 → Option (Mem × Int64)) : Nat → Int64 → Int32 → Option (Mem × Int64)
  | 0, _, _ => none
  | n179 + 1, u27, u28 =>
  bv (Z24.1 1 2) fun y29 => br (y29 ≤ u28) (K_179 u27) (gd (¬ (u28 < 0 ∨ 6 ≤ ix u28)) <| bv (Z24.1 7 (ix u28)) fun y32 => bv (Int32.toInt64 y32) fun y33 => calp (F_X5_mix Z24 u27 y33) fun rr36 => bv (Z24.2 8 (ix u28)) fun y37 => gd ((FP.dmul (4611686018427387904 : UInt64) y37) &&& 0x7fffffffffffffff ≤ 0x7ff0000000000000) <| bv (FP.dmul (4611686018427387904 : UInt64) y37) fun y39 => bv (FP.d2l y39) fun y40 => calp (F_X5_mix Z24 rr36 y40) fun rr43 => (F_X5_mixDistrict_l179 Z24 K_179 n179) rr43 (u28 + (1 : Int32)))

noncomputable def F_X5_mixDistrict_x102 (xb : Int32) (Z9 : Mem) (w11 : Int64) : Option (Mem × Int64) :=
  cal (F_X2_leastShift Z9 xb) fun Z14 rr15 => bv (Int32.toInt64 rr15) fun y16 => calp (F_X5_mix Z14 w11 y16) fun rr19 => cal (F_X2_countFirsts Z14 xb) fun Z21 _ => cal (F_X2_countPoints Z21 xb) fun Z24 _ => F_X5_mixDistrict_l179 Z24 (F_X5_mixDistrict_x179 Z24) 100 rr19 (0 : Int32)

noncomputable def F_X5_mixDistrict_l102 (Z9 : Mem) (K_102 : Int64 → Option (Mem × Int64)) : Nat → Int64 → Int32 → Option (Mem × Int64)
  | 0, _, _ => none
  | n102 + 1, u44, u45 =>
  br ((5 : Int32) ≤ u45) (K_102 u44) (gd (¬ (u45 < 0 ∨ 5 ≤ ix u45)) <| bv (Z9.1 27 (ix u45)) fun y48 => bv (Int32.toInt64 y48) fun y49 => calp (F_X5_mix Z9 u44 y49) fun rr52 => (F_X5_mixDistrict_l102 Z9 K_102 n102) rr52 (u45 + (1 : Int32)))

noncomputable def F_X5_mixDistrict_x56 (xb : Int32) (Z5 : Mem) (w7 : Int64) : Option (Mem × Int64) :=
  cal (F_X4_fillSeats Z5 xb) fun Z9 _ => F_X5_mixDistrict_l102 Z9 (F_X5_mixDistrict_x102 xb Z9) 100 w7 (0 : Int32)

noncomputable def F_X5_mixDistrict_l56 (Z5 : Mem) (K_56 : Int64 → Option (Mem × Int64)) : Nat → Int64 → Int32 → Option (Mem × Int64)
  | 0, _, _ => none
  | n56 + 1, u53, u54 =>
  br ((6 : Int32) ≤ u54) (K_56 u53) (gd (¬ (u54 < 0 ∨ 6 ≤ ix u54)) <| bv (Z5.1 11 (ix u54)) fun y57 => bv (Int32.toInt64 y57) fun y58 => calp (F_X5_mix Z5 u53 y58) fun rr61 => (F_X5_mixDistrict_l56 Z5 K_56 n56) rr61 (u54 + (1 : Int32)))

noncomputable def F_X5_mixDistrict_x6 (xb : Int32) (Z2 : Mem) (w1 : Int64) : Option (Mem × Int64) :=
  cal (F_X2_goRounds Z2 xb) fun Z5 rr6 => F_X5_mixDistrict_l56 Z5 (F_X5_mixDistrict_x56 xb Z5) 100 w1 (0 : Int32)

noncomputable def F_X5_mixDistrict_l6 (xb : Int32) (K_6 : Mem → Int64 → Option (Mem × Int64)) : Nat → Mem → Int64 → Int32 → Option (Mem × Int64)
  | 0, _, _, _ => none
  | n6 + 1, Z64, u62, u63 =>
  br ((3 : Int32) < u63) (K_6 Z64 u62) (cal (F_X2_winnerBy Z64 xb u63) fun Z68 rr69 => bv (Int32.toInt64 rr69) fun y70 => calp (F_X5_mix Z68 u62 y70) fun rr73 => (F_X5_mixDistrict_l6 xb K_6 n6) Z68 rr73 (u63 + (1 : Int32)))

noncomputable def F_X5_mixDistrict (Z : Mem) (xa : Int64) (xb : Int32) : Option (Mem × Int64) :=
  F_X5_mixDistrict_l6 xb (F_X5_mixDistrict_x6 xb) 100 Z xa (0 : Int32)

set_option maxHeartbeats 4000000 in
set_option maxRecDepth 100000 in
theorem c_X5_mixDistrict (l : Launch) (dC : Nat → ClassId) (dI : Nat → Nat → Nat) (q : Nat → ClassId) (aa : Nat → Nat) (Z : Mem) (xa : Int64) (xb : Int32)  (sz : Nat) (Zo : Mem) (ro : Int64) (hF : F_X5_mixDistrict Z xa xb = some (Zo, ro)) : Met l yX5_mixDistrict wsX5_mixDistrict ({ frames := 7, cells := 0, slots := 0, locals := 161 }) (va_Pc [.ref (aa 0), .long xa, .int xb] (pr_ dC dI (bw q aa Z) (bty q) sz)) (va_Ql (fun (r : Int64) (_ : Unit) => r = ro) (fun (_ : Unit) t => po_ dC dI (bw q aa Zo) (bty q) (va_A (bw q aa Z) sz) t) (va_A (bw q aa Z) sz)) 0 0 (va_A (bw q aa Z) sz) := by
  refine Met.ofW (cc := cX5_mixDistrict) (maxL := 7) (ret := (some .long)) (by decide) rfl ?_
  intro p e s m args below meth c s₁ B hml hv
  obtain ⟨hargs, hsz, hP, hK, hD0⟩ := hv
  have hx := B.exec
  have hb := B.bytes
  have hr := B.returns
  have hts := atoms_spec (ws := wsX5_mixDistrict) B.pre
  have hown : s.vm.findClass RX5 = some m.cls := findClass_of_methodNamed B.named
  have hlocks := B.notSynchronized
  subst hsz
  have hD := hD0.self (sz := s.heap.size)
  generalize hAe : va_A (bw q aa Z) s.heap.size = A at hD ⊢
  have hA : ∀ x : Nat, s.heap.size ≤ x → A x := fun x h => by rw [← hAe]; exact Or.inr h
  have hS : va_S A s.heap s.heap [] := va_S.rf
  have hinX0 : ∀ w ∈ u_ws RX0 TX0 11, w ∈ wsX5_mixDistrict := by decide +kernel
  have hinX2 : ∀ w ∈ u_ws RX2 TX2 7, w ∈ wsX5_mixDistrict := by decide +kernel
  have hinX4 : ∀ w ∈ u_ws RX4 TX4 3, w ∈ wsX5_mixDistrict := by decide +kernel
  have hinX5 : ∀ w ∈ u_ws RX5 TX5 5, w ∈ wsX5_mixDistrict := by decide +kernel
  have hl := lv_entry ([.ref (aa 0), .long xa, .int xb]) (n := 7) (Nat.le_of_ble_eq_true rfl)
  refine w_ent hargs ?_
  rw [lg_entry_eq]
  generalize (lg_sl ([.ref (aa 0), .long xa, .int xb]) ++ List.replicate (7 - (lg_sl ([.ref (aa 0), .long xa, .int xb])).length) Slot.unset).toArray = ls at hl ⊢
  have hl : lv_has ls 7 [(0, .ref (aa 0)), (1, .long xa), (3, .int xb)] := hl
  unfold F_X5_mixDistrict at hF
  refine w_go (fun Q hQ => ?_)
  refine lv_lload_n hx hb dX5_mixDistrict_0 rfl (lv_at hl 1 rfl) ?_
  refine lv_lstore (lv' := [(4, .long xa), (0, .ref (aa 0)), (1, .long xa), (3, .int xb)]) hx hb dX5_mixDistrict_1 hl (by decide) rfl (fun ls hl => ?_)
  refine lv_iconst (v := 0) hx hb dX5_mixDistrict_3 (by decide) ?_
  refine lv_istore (lv' := [(6, .int 0), (4, .long xa), (0, .ref (aa 0)), (1, .long xa), (3, .int xb)]) hx hb dX5_mixDistrict_4 hl (by decide) rfl (fun ls hl => ?_)
  have Jx6 : ∀ (Z2 : Mem) (w1 : Int64) (H : Heap) (locs : List Loc) (ls : Array Slot), (F_X5_mixDistrict_x6 xb) Z2 w1 = some (Zo, ro) → va_P (dC, dI) vwCl (bw q aa Z2) H → va_D A (bw q aa Z2) → va_S A s.heap H locs → lv_has ls 7 [(4, .long w1), (0, .ref (aa 0)), (3, .int xb)] → W p l e (headSpec wsX5_mixDistrict ({ frames := 7, cells := 0, slots := 0, locals := 161 } : Room)).room s m args below meth c H locs 0 0 Q (F0 m 40 ls []) := by
    intro Z2 w1 H locs ls hF hP hD hS hl
    unfold F_X5_mixDistrict_x6 at hF
    refine lv_aload_n hx hb dX5_mixDistrict_40 rfl (lv_at hl 1 rfl) ?_
    refine va_get (D := (dC, dI)) (ci := 7) (v := .ref (aa 6)) (C := RX5) (T := TX5) (N := 5) hx hb hts hinX5 hown hK hP 0 (bw_at (i := 0) (by decide) rfl) rfl 1 (by decide) (hts (.fieldLink RX5 19 "BallotLoom" "poll" "LBallotLoom$Poll;") (by decide +kernel)) (fun _ h9 => h9) rfl dX5_mixDistrict_41 ?_
    refine lv_aload_n hx hb dX5_mixDistrict_44 rfl (lv_at hl 1 rfl) ?_
    refine va_get (D := (dC, dI)) (ci := 7) (v := .ref (aa 1)) (C := RX5) (T := TX5) (N := 5) hx hb hts hinX5 hown hK hP 0 (bw_at (i := 0) (by decide) rfl) rfl 0 (by decide) (hts (.fieldLink RX5 10 "BallotLoom" "box" "LBallotLoom$Box;") (by decide +kernel)) (fun _ h9 => h9) rfl dX5_mixDistrict_45 ?_
    refine lv_iload_n hx hb dX5_mixDistrict_48 rfl (lv_at hl 2 rfl) ?_
    obtain ⟨Z5, r4, hC3, hF⟩ := cal_some hF
    have hFc := b_free (ws := bw q aa Z2) hD hS hA
    refine va_calli (va_runV (As := [.ref (aa 1), .int xb]) (rest := []) ⟨hx, hb, hml, hown, hts⟩ (c_X2_goRounds l dC dI q aa Z2 xb  _ _ _  hC3) (cwV 2 hts gX5_mixDistrict_X2_goRounds rfl rfl rfl (by decide +kernel) ⟨Nat.le_of_ble_eq_true rfl, Nat.le_of_ble_eq_true rfl⟩) ⟨pr_blind, va_recv hK hP (ci := 4) (q0 := 6) rfl (bw_at (i := 6) (by decide) rfl), fun U hU hW => ⟨rfl, pr_mk hU hW hP hK hD⟩⟩ rfl rfl hl.1 rfl (lv_room (Nat.le_of_ble_eq_true rfl)) dX5_mixDistrict_49 ⟨Nat.le_of_ble_eq_true rfl, Nat.le_of_ble_eq_true rfl⟩) hS (fun x _ h => hFc x h) hFc (fun rr6 u t H1 locs ht hvm hw hB hz1 hk1 hS => ?_)
    obtain ⟨hP, hK1, hD1⟩ := hB
    rw [ht] at hP
    have hD := hD1.weaken (fun _ q9 _ h9 => hFc q9.1 h9)
    clear hFc hD1 hK1 hvm hz1 hk1
    generalize H1 = H at hP hS ⊢
    refine W.widen (k := 0) (n := 0) (Nat.le_refl _) (Nat.le_refl _) ?_
    obtain rfl : rr6 = r4 := hw
    refine lv_pop hx hb dX5_mixDistrict_52 rfl ?_
    refine lv_iconst (v := 0) hx hb dX5_mixDistrict_53 (by decide) ?_
    refine lv_istore (lv' := [(6, .int 0), (4, .long w1), (0, .ref (aa 0)), (3, .int xb)]) hx hb dX5_mixDistrict_54 hl (by decide) rfl (fun ls hl => ?_)
    have Jx56 : ∀ (w7 : Int64) (H : Heap) (locs : List Loc) (ls : Array Slot), (F_X5_mixDistrict_x56 xb Z5) w7 = some (Zo, ro) → va_P (dC, dI) vwCl (bw q aa Z5) H → va_D A (bw q aa Z5) → va_S A s.heap H locs → lv_has ls 7 [(4, .long w7), (0, .ref (aa 0)), (3, .int xb)] → W p l e (headSpec wsX5_mixDistrict ({ frames := 7, cells := 0, slots := 0, locals := 161 } : Room)).room s m args below meth c H locs 0 0 Q (F0 m 87 ls []) := by
      intro w7 H locs ls hF hP hD hS hl
      unfold F_X5_mixDistrict_x56 at hF
      refine lv_aload_n hx hb dX5_mixDistrict_87 rfl (lv_at hl 1 rfl) ?_
      refine va_get (D := (dC, dI)) (ci := 7) (v := .ref (aa 26)) (C := RX5) (T := TX5) (N := 5) hx hb hts hinX5 hown hK hP 0 (bw_at (i := 0) (by decide) rfl) rfl 2 (by decide) (hts (.fieldLink RX5 26 "BallotLoom" "transfers" "LBallotLoom$Transfers;") (by decide +kernel)) (fun _ h9 => h9) rfl dX5_mixDistrict_88 ?_
      refine lv_aload_n hx hb dX5_mixDistrict_91 rfl (lv_at hl 1 rfl) ?_
      refine va_get (D := (dC, dI)) (ci := 7) (v := .ref (aa 1)) (C := RX5) (T := TX5) (N := 5) hx hb hts hinX5 hown hK hP 0 (bw_at (i := 0) (by decide) rfl) rfl 0 (by decide) (hts (.fieldLink RX5 10 "BallotLoom" "box" "LBallotLoom$Box;") (by decide +kernel)) (fun _ h9 => h9) rfl dX5_mixDistrict_92 ?_
      refine lv_iload_n hx hb dX5_mixDistrict_95 rfl (lv_at hl 2 rfl) ?_
      obtain ⟨Z9, _, hC8, hF⟩ := cal_some hF
      have hFc := b_free (ws := bw q aa Z5) hD hS hA
      refine va_callv (va_runV (As := [.ref (aa 1), .int xb]) (rest := []) ⟨hx, hb, hml, hown, hts⟩ (c_X4_fillSeats l dC dI q aa Z5 xb  _ _ _  hC8) (cwV 2 hts gX5_mixDistrict_X4_fillSeats rfl rfl rfl (by decide +kernel) ⟨Nat.le_of_ble_eq_true rfl, Nat.le_of_ble_eq_true rfl⟩) ⟨pr_blind, va_recv hK hP (ci := 6) (q0 := 26) rfl (bw_at (i := 26) (by decide) rfl), fun U hU hW => ⟨rfl, pr_mk hU hW hP hK hD⟩⟩ rfl rfl hl.1 rfl (lv_room (Nat.le_of_ble_eq_true rfl)) dX5_mixDistrict_96 ⟨Nat.le_of_ble_eq_true rfl, Nat.le_of_ble_eq_true rfl⟩) hS (fun x _ h => hFc x h) hFc (fun u t H1 locs ht hvm hw hB hz1 hk1 hS => ?_)
      obtain ⟨hP, hK1, hD1⟩ := hB
      rw [ht] at hP
      have hD := hD1.weaken (fun _ q9 _ h9 => hFc q9.1 h9)
      clear hFc hD1 hK1 hvm hz1 hk1
      generalize H1 = H at hP hS ⊢
      refine W.widen (k := 0) (n := 0) (Nat.le_refl _) (Nat.le_refl _) ?_
      refine lv_iconst (v := 0) hx hb dX5_mixDistrict_99 (by decide) ?_
      refine lv_istore (lv' := [(6, .int 0), (4, .long w7), (0, .ref (aa 0)), (3, .int xb)]) hx hb dX5_mixDistrict_100 hl (by decide) rfl (fun ls hl => ?_)
      have Jx102 : ∀ (w11 : Int64) (H : Heap) (locs : List Loc) (ls : Array Slot), (F_X5_mixDistrict_x102 xb Z9) w11 = some (Zo, ro) → va_P (dC, dI) vwCl (bw q aa Z9) H → va_D A (bw q aa Z9) → va_S A s.heap H locs → lv_has ls 7 [(4, .long w11), (0, .ref (aa 0)), (3, .int xb)] → W p l e (headSpec wsX5_mixDistrict ({ frames := 7, cells := 0, slots := 0, locals := 161 } : Room)).room s m args below meth c H locs 0 0 Q (F0 m 132 ls []) := by
        intro w11 H locs ls hF hP hD hS hl
        unfold F_X5_mixDistrict_x102 at hF
        refine lv_lload hx hb dX5_mixDistrict_132 (lv_at hl 0 rfl) ?_
        refine lv_aload_n hx hb dX5_mixDistrict_134 rfl (lv_at hl 1 rfl) ?_
        refine va_get (D := (dC, dI)) (ci := 7) (v := .ref (aa 6)) (C := RX5) (T := TX5) (N := 5) hx hb hts hinX5 hown hK hP 0 (bw_at (i := 0) (by decide) rfl) rfl 1 (by decide) (hts (.fieldLink RX5 19 "BallotLoom" "poll" "LBallotLoom$Poll;") (by decide +kernel)) (fun _ h9 => h9) rfl dX5_mixDistrict_135 ?_
        refine lv_aload_n hx hb dX5_mixDistrict_138 rfl (lv_at hl 1 rfl) ?_
        refine va_get (D := (dC, dI)) (ci := 7) (v := .ref (aa 1)) (C := RX5) (T := TX5) (N := 5) hx hb hts hinX5 hown hK hP 0 (bw_at (i := 0) (by decide) rfl) rfl 0 (by decide) (hts (.fieldLink RX5 10 "BallotLoom" "box" "LBallotLoom$Box;") (by decide +kernel)) (fun _ h9 => h9) rfl dX5_mixDistrict_139 ?_
        refine lv_iload_n hx hb dX5_mixDistrict_142 rfl (lv_at hl 2 rfl) ?_
        obtain ⟨Z14, r13, hC12, hF⟩ := cal_some hF
        have hFc := b_free (ws := bw q aa Z9) hD hS hA
        refine va_calli (va_runV (As := [.ref (aa 1), .int xb]) (rest := [.long w11]) ⟨hx, hb, hml, hown, hts⟩ (c_X2_leastShift l dC dI q aa Z9 xb  _ _ _  hC12) (cwV 2 hts gX5_mixDistrict_X2_leastShift rfl rfl rfl (by decide +kernel) ⟨Nat.le_of_ble_eq_true rfl, Nat.le_of_ble_eq_true rfl⟩) ⟨pr_blind, va_recv hK hP (ci := 4) (q0 := 6) rfl (bw_at (i := 6) (by decide) rfl), fun U hU hW => ⟨rfl, pr_mk hU hW hP hK hD⟩⟩ rfl rfl hl.1 rfl (lv_room (Nat.le_of_ble_eq_true rfl)) dX5_mixDistrict_143 ⟨Nat.le_of_ble_eq_true rfl, Nat.le_of_ble_eq_true rfl⟩) hS (fun x _ h => hFc x h) hFc (fun rr15 u t H1 locs ht hvm hw hB hz1 hk1 hS => ?_)
        obtain ⟨hP, hK1, hD1⟩ := hB
        rw [ht] at hP
        have hD := hD1.weaken (fun _ q9 _ h9 => hFc q9.1 h9)
        clear hFc hD1 hK1 hvm hz1 hk1
        generalize H1 = H at hP hS ⊢
        refine W.widen (k := 0) (n := 0) (Nat.le_refl _) (Nat.le_refl _) ?_
        obtain rfl : rr15 = r13 := hw
        refine lv_i2l hx hb dX5_mixDistrict_146 rfl ?_
        refine lv_topl (fun y16 ey16 => ?_)
        have hF := bv_at ey16 hF
        obtain ⟨r18, hC17, hF⟩ := calp_some hF
        have hFc := b_free (ws := bw q aa Z14) hD hS hA
        refine va_calll (va_runS (As := [.long w11, .long y16]) (rest := []) ⟨hx, hb, hml, hown, hts⟩ (c_X5_mix l dC dI q aa Z14 w11 y16  _ _  hC17) (va_cwS 2 hts gX5_mixDistrict_X5_mix rfl rfl rfl (by decide +kernel) ⟨Nat.le_of_ble_eq_true rfl, Nat.le_of_ble_eq_true rfl⟩) ⟨pr_blind, fun U hU hW => ⟨rfl, pr_mk hU hW hP hK hD⟩⟩ rfl rfl hl.1 rfl (lv_room (Nat.le_of_ble_eq_true rfl)) dX5_mixDistrict_147 ⟨Nat.le_of_ble_eq_true rfl, Nat.le_of_ble_eq_true rfl⟩) hS (fun x _ h => hFc x h) hFc (fun rr19 u t H1 locs ht hvm hw hB hz1 hk1 hS => ?_)
        obtain ⟨hP, hK1, hD1⟩ := hB
        rw [ht] at hP
        have hD := hD1.weaken (fun _ q9 _ h9 => hFc q9.1 h9)
        clear hFc hD1 hK1 hvm hz1 hk1
        generalize H1 = H at hP hS ⊢
        refine W.widen (k := 0) (n := 0) (Nat.le_refl _) (Nat.le_refl _) ?_
        obtain rfl : rr19 = r18 := hw
        refine lv_lstore (lv' := [(4, .long rr19), (0, .ref (aa 0)), (3, .int xb)]) hx hb dX5_mixDistrict_150 hl (by decide) rfl (fun ls hl => ?_)
        refine lv_aload_n hx hb dX5_mixDistrict_152 rfl (lv_at hl 1 rfl) ?_
        refine va_get (D := (dC, dI)) (ci := 7) (v := .ref (aa 6)) (C := RX5) (T := TX5) (N := 5) hx hb hts hinX5 hown hK hP 0 (bw_at (i := 0) (by decide) rfl) rfl 1 (by decide) (hts (.fieldLink RX5 19 "BallotLoom" "poll" "LBallotLoom$Poll;") (by decide +kernel)) (fun _ h9 => h9) rfl dX5_mixDistrict_153 ?_
        refine lv_aload_n hx hb dX5_mixDistrict_156 rfl (lv_at hl 1 rfl) ?_
        refine va_get (D := (dC, dI)) (ci := 7) (v := .ref (aa 1)) (C := RX5) (T := TX5) (N := 5) hx hb hts hinX5 hown hK hP 0 (bw_at (i := 0) (by decide) rfl) rfl 0 (by decide) (hts (.fieldLink RX5 10 "BallotLoom" "box" "LBallotLoom$Box;") (by decide +kernel)) (fun _ h9 => h9) rfl dX5_mixDistrict_157 ?_
        refine lv_iload_n hx hb dX5_mixDistrict_160 rfl (lv_at hl 2 rfl) ?_
        obtain ⟨Z21, _, hC20, hF⟩ := cal_some hF
        have hFc := b_free (ws := bw q aa Z14) hD hS hA
        refine va_callv (va_runV (As := [.ref (aa 1), .int xb]) (rest := []) ⟨hx, hb, hml, hown, hts⟩ (c_X2_countFirsts l dC dI q aa Z14 xb  _ _ _  hC20) (cwV 2 hts gX5_mixDistrict_X2_countFirsts rfl rfl rfl (by decide +kernel) ⟨Nat.le_of_ble_eq_true rfl, Nat.le_of_ble_eq_true rfl⟩) ⟨pr_blind, va_recv hK hP (ci := 4) (q0 := 6) rfl (bw_at (i := 6) (by decide) rfl), fun U hU hW => ⟨rfl, pr_mk hU hW hP hK hD⟩⟩ rfl rfl hl.1 rfl (lv_room (Nat.le_of_ble_eq_true rfl)) dX5_mixDistrict_161 ⟨Nat.le_of_ble_eq_true rfl, Nat.le_of_ble_eq_true rfl⟩) hS (fun x _ h => hFc x h) hFc (fun u t H1 locs ht hvm hw hB hz1 hk1 hS => ?_)
        obtain ⟨hP, hK1, hD1⟩ := hB
        rw [ht] at hP
        have hD := hD1.weaken (fun _ q9 _ h9 => hFc q9.1 h9)
        clear hFc hD1 hK1 hvm hz1 hk1
        generalize H1 = H at hP hS ⊢
        refine W.widen (k := 0) (n := 0) (Nat.le_refl _) (Nat.le_refl _) ?_
        refine lv_aload_n hx hb dX5_mixDistrict_164 rfl (lv_at hl 1 rfl) ?_
        refine va_get (D := (dC, dI)) (ci := 7) (v := .ref (aa 6)) (C := RX5) (T := TX5) (N := 5) hx hb hts hinX5 hown hK hP 0 (bw_at (i := 0) (by decide) rfl) rfl 1 (by decide) (hts (.fieldLink RX5 19 "BallotLoom" "poll" "LBallotLoom$Poll;") (by decide +kernel)) (fun _ h9 => h9) rfl dX5_mixDistrict_165 ?_
        refine lv_aload_n hx hb dX5_mixDistrict_168 rfl (lv_at hl 1 rfl) ?_
        refine va_get (D := (dC, dI)) (ci := 7) (v := .ref (aa 1)) (C := RX5) (T := TX5) (N := 5) hx hb hts hinX5 hown hK hP 0 (bw_at (i := 0) (by decide) rfl) rfl 0 (by decide) (hts (.fieldLink RX5 10 "BallotLoom" "box" "LBallotLoom$Box;") (by decide +kernel)) (fun _ h9 => h9) rfl dX5_mixDistrict_169 ?_
        refine lv_iload_n hx hb dX5_mixDistrict_172 rfl (lv_at hl 2 rfl) ?_
        obtain ⟨Z24, _, hC23, hF⟩ := cal_some hF
        have hFc := b_free (ws := bw q aa Z21) hD hS hA
        refine va_callv (va_runV (As := [.ref (aa 1), .int xb]) (rest := []) ⟨hx, hb, hml, hown, hts⟩ (c_X2_countPoints l dC dI q aa Z21 xb  _ _ _  hC23) (cwV 2 hts gX5_mixDistrict_X2_countPoints rfl rfl rfl (by decide +kernel) ⟨Nat.le_of_ble_eq_true rfl, Nat.le_of_ble_eq_true rfl⟩) ⟨pr_blind, va_recv hK hP (ci := 4) (q0 := 6) rfl (bw_at (i := 6) (by decide) rfl), fun U hU hW => ⟨rfl, pr_mk hU hW hP hK hD⟩⟩ rfl rfl hl.1 rfl (lv_room (Nat.le_of_ble_eq_true rfl)) dX5_mixDistrict_173 ⟨Nat.le_of_ble_eq_true rfl, Nat.le_of_ble_eq_true rfl⟩) hS (fun x _ h => hFc x h) hFc (fun u t H1 locs ht hvm hw hB hz1 hk1 hS => ?_)
        obtain ⟨hP, hK1, hD1⟩ := hB
        rw [ht] at hP
        have hD := hD1.weaken (fun _ q9 _ h9 => hFc q9.1 h9)
        clear hFc hD1 hK1 hvm hz1 hk1
        generalize H1 = H at hP hS ⊢
        refine W.widen (k := 0) (n := 0) (Nat.le_refl _) (Nat.le_refl _) ?_
        refine lv_iconst (v := 0) hx hb dX5_mixDistrict_176 (by decide) ?_
        refine lv_istore (lv' := [(6, .int 0), (4, .long rr19), (0, .ref (aa 0)), (3, .int xb)]) hx hb dX5_mixDistrict_177 hl (by decide) rfl (fun ls hl => ?_)
        have Jx179 : ∀ (w26 : Int64) (H : Heap) (locs : List Loc) (ls : Array Slot), (F_X5_mixDistrict_x179 Z24) w26 = some (Zo, ro) → va_P (dC, dI) vwCl (bw q aa Z24) H → va_D A (bw q aa Z24) → va_S A s.heap H locs → lv_has ls 7 [(4, .long w26)] → W p l e (headSpec wsX5_mixDistrict ({ frames := 7, cells := 0, slots := 0, locals := 161 } : Room)).room s m args below meth c H locs 0 0 Q (F0 m 237 ls []) := by
          intro w26 H locs ls hF hP hD hS hl
          unfold F_X5_mixDistrict_x179 at hF
          refine lv_lload hx hb dX5_mixDistrict_237 (lv_at hl 0 rfl) ?_
          obtain ⟨e8, e9⟩ := some2 hF
          rw [← e8] at hP hD
          subst hQ
          exact W.lret (v := w26) hx hb hr (fun t ht hW => ⟨⟨w26, (), rfl, e9.symm, po_mk ht hW hP hK hD⟩, hS.F ht⟩) hS.2.2 dX5_mixDistrict_239
        have L179 : ∀ (n179 : Nat) (u27 : Int64) (u28 : Int32) (H : Heap) (locs : List Loc) (ls : Array Slot), F_X5_mixDistrict_l179 Z24 (F_X5_mixDistrict_x179 Z24) n179 u27 u28 = some (Zo, ro) → va_P (dC, dI) vwCl (bw q aa Z24) H → va_D A (bw q aa Z24) → va_S A s.heap H locs → lv_has ls 7 [(6, .int u28), (4, .long u27), (0, .ref (aa 0))] → W p l e (headSpec wsX5_mixDistrict ({ frames := 7, cells := 0, slots := 0, locals := 161 } : Room)).room s m args below meth c H locs 0 0 Q (F0 m 179 ls []) := by
          intro n179
          induction n179 with
          | zero =>
            intro u27 u28 H locs ls hF
            rw [F_X5_mixDistrict_l179] at hF
            cases hF
          | succ n179 IH179 =>
            intro u27 u28 H locs ls hF hP hD hS hl
            rw [F_X5_mixDistrict_l179] at hF
            refine lv_iload hx hb dX5_mixDistrict_179 (lv_at hl 0 rfl) ?_
            refine lv_aload_n hx hb dX5_mixDistrict_181 rfl (lv_at hl 2 rfl) ?_
            refine va_get (D := (dC, dI)) (ci := 7) (v := .ref (aa 1)) (C := RX5) (T := TX5) (N := 5) hx hb hts hinX5 hown hK hP 0 (bw_at (i := 0) (by decide) rfl) rfl 0 (by decide) (hts (.fieldLink RX5 10 "BallotLoom" "box" "LBallotLoom$Box;") (by decide +kernel)) (fun _ h9 => h9) rfl dX5_mixDistrict_182 ?_
            refine va_get (D := (dC, dI)) (ci := 2) (v := .int (Z24.1 1 2)) (C := RX0) (T := TX0) (N := 11) hx hb hts hinX0 hown hK hP 1 (bw_at (i := 1) (by decide) rfl) rfl 2 (by decide) (hts (.fieldLink RX5 55 "BallotLoom$Box" "candidates" "I") (by decide +kernel)) (fun _ h9 => h9) rfl dX5_mixDistrict_185 ?_
            refine lv_topi (fun y29 ey29 => ?_)
            have hF := bv_at ey29 hF
            refine lv_icmp_ge (tgt := 237) hx hb dX5_mixDistrict_188 (by decide) (fun hc30 => ?_) (fun hc30 => ?_)
            · have hF := br_pos hc30 hF
              exact Jx179 u27 _ _ _ hF hP hD hS (lv_sub hl [1] rfl)
            · have hF := br_neg hc30 hF
              refine lv_lload hx hb dX5_mixDistrict_191 (lv_at hl 1 rfl) ?_
              refine lv_aload_n hx hb dX5_mixDistrict_193 rfl (lv_at hl 2 rfl) ?_
              refine va_get (D := (dC, dI)) (ci := 7) (v := .ref (aa 6)) (C := RX5) (T := TX5) (N := 5) hx hb hts hinX5 hown hK hP 0 (bw_at (i := 0) (by decide) rfl) rfl 1 (by decide) (hts (.fieldLink RX5 19 "BallotLoom" "poll" "LBallotLoom$Poll;") (by decide +kernel)) (fun _ h9 => h9) rfl dX5_mixDistrict_194 ?_
              refine va_get (D := (dC, dI)) (ci := 4) (v := .ref (aa 7)) (C := RX2) (T := TX2) (N := 7) hx hb hts hinX2 hown hK hP 6 (bw_at (i := 6) (by decide) rfl) rfl 0 (by decide) (hts (.fieldLink RX5 159 "BallotLoom$Poll" "firsts" "[I") (by decide +kernel)) (fun _ h9 => h9) rfl dX5_mixDistrict_197 ?_
              refine lv_iload hx hb dX5_mixDistrict_200 (lv_at hl 0 rfl) ?_
              obtain ⟨hg31, hF⟩ := gd_some hF
              refine va_iald hx hb hK hP 7 0 (at_i (by decide) (fun _ _ => rfl)) rfl hg31 dX5_mixDistrict_202 ?_
              refine lv_topi (fun y32 ey32 => ?_)
              have hF := bv_at ey32 hF
              refine lv_i2l hx hb dX5_mixDistrict_203 rfl ?_
              refine lv_topl (fun y33 ey33 => ?_)
              have hF := bv_at ey33 hF
              obtain ⟨r35, hC34, hF⟩ := calp_some hF
              have hFc := b_free (ws := bw q aa Z24) hD hS hA
              refine va_calll (va_runS (As := [.long u27, .long y33]) (rest := []) ⟨hx, hb, hml, hown, hts⟩ (c_X5_mix l dC dI q aa Z24 u27 y33  _ _  hC34) (va_cwS 2 hts gX5_mixDistrict_X5_mix rfl rfl rfl (by decide +kernel) ⟨Nat.le_of_ble_eq_true rfl, Nat.le_of_ble_eq_true rfl⟩) ⟨pr_blind, fun U hU hW => ⟨rfl, pr_mk hU hW hP hK hD⟩⟩ rfl rfl hl.1 rfl (lv_room (Nat.le_of_ble_eq_true rfl)) dX5_mixDistrict_204 ⟨Nat.le_of_ble_eq_true rfl, Nat.le_of_ble_eq_true rfl⟩) hS (fun x _ h => hFc x h) hFc (fun rr36 u t H1 locs ht hvm hw hB hz1 hk1 hS => ?_)
              obtain ⟨hP, hK1, hD1⟩ := hB
              rw [ht] at hP
              have hD := hD1.weaken (fun _ q9 _ h9 => hFc q9.1 h9)
              clear hFc hD1 hK1 hvm hz1 hk1
              generalize H1 = H at hP hS ⊢
              refine W.widen (k := 0) (n := 0) (Nat.le_refl _) (Nat.le_refl _) ?_
              obtain rfl : rr36 = r35 := hw
              refine lv_lstore (lv' := [(4, .long rr36), (6, .int u28), (0, .ref (aa 0))]) hx hb dX5_mixDistrict_207 hl (by decide) rfl (fun ls hl => ?_)
              refine lv_lload hx hb dX5_mixDistrict_209 (lv_at hl 0 rfl) ?_
              refine lv_ldc2d (v := 4611686018427387904) hx hb hown (hts (.constantDouble RX5 292 (4611686018427387904)) (by decide +kernel)) dX5_mixDistrict_211 ?_
              refine lv_aload_n hx hb dX5_mixDistrict_214 rfl (lv_at hl 2 rfl) ?_
              refine va_get (D := (dC, dI)) (ci := 7) (v := .ref (aa 6)) (C := RX5) (T := TX5) (N := 5) hx hb hts hinX5 hown hK hP 0 (bw_at (i := 0) (by decide) rfl) rfl 1 (by decide) (hts (.fieldLink RX5 19 "BallotLoom" "poll" "LBallotLoom$Poll;") (by decide +kernel)) (fun _ h9 => h9) rfl dX5_mixDistrict_215 ?_
              refine va_get (D := (dC, dI)) (ci := 4) (v := .ref (aa 8)) (C := RX2) (T := TX2) (N := 7) hx hb hts hinX2 hown hK hP 6 (bw_at (i := 6) (by decide) rfl) rfl 1 (by decide) (hts (.fieldLink RX5 166 "BallotLoom$Poll" "points" "[D") (by decide +kernel)) (fun _ h9 => h9) rfl dX5_mixDistrict_218 ?_
              refine lv_iload hx hb dX5_mixDistrict_221 (lv_at hl 1 rfl) ?_
              refine va_dald hx hb hK hP 8 2 (at_d (by decide) (fun _ _ => rfl)) rfl hg31 dX5_mixDistrict_223 ?_
              refine lv_topd (fun y37 ey37 => ?_)
              have hF := bv_at ey37 hF
              obtain ⟨hg38, hF⟩ := gd_some hF
              refine lv_dmul hx hb dX5_mixDistrict_224 hg38 ?_
              refine lv_topd (fun y39 ey39 => ?_)
              have hF := bv_at ey39 hF
              refine lv_d2l hx hb dX5_mixDistrict_225 ?_
              refine lv_topl (fun y40 ey40 => ?_)
              have hF := bv_at ey40 hF
              obtain ⟨r42, hC41, hF⟩ := calp_some hF
              have hFc := b_free (ws := bw q aa Z24) hD hS hA
              refine va_calll (va_runS (As := [.long rr36, .long y40]) (rest := []) ⟨hx, hb, hml, hown, hts⟩ (c_X5_mix l dC dI q aa Z24 rr36 y40  _ _  hC41) (va_cwS 2 hts gX5_mixDistrict_X5_mix rfl rfl rfl (by decide +kernel) ⟨Nat.le_of_ble_eq_true rfl, Nat.le_of_ble_eq_true rfl⟩) ⟨pr_blind, fun U hU hW => ⟨rfl, pr_mk hU hW hP hK hD⟩⟩ rfl rfl hl.1 rfl (lv_room (Nat.le_of_ble_eq_true rfl)) dX5_mixDistrict_226 ⟨Nat.le_of_ble_eq_true rfl, Nat.le_of_ble_eq_true rfl⟩) hS (fun x _ h => hFc x h) hFc (fun rr43 u t H1 locs ht hvm hw hB hz1 hk1 hS => ?_)
              obtain ⟨hP, hK1, hD1⟩ := hB
              rw [ht] at hP
              have hD := hD1.weaken (fun _ q9 _ h9 => hFc q9.1 h9)
              clear hFc hD1 hK1 hvm hz1 hk1
              generalize H1 = H at hP hS ⊢
              refine W.widen (k := 0) (n := 0) (Nat.le_refl _) (Nat.le_refl _) ?_
              obtain rfl : rr43 = r42 := hw
              refine lv_lstore (lv' := [(4, .long rr43), (6, .int u28), (0, .ref (aa 0))]) hx hb dX5_mixDistrict_229 hl (by decide) rfl (fun ls hl => ?_)
              refine lv_iinc (k := 1) (v := (u28 + (1 : Int32))) (lv' := [(6, .int (u28 + (1 : Int32))), (4, .long rr43), (0, .ref (aa 0))]) hx hb dX5_mixDistrict_231 hl rfl (ii_ _ _ _ (by decide)) (by decide) rfl (fun ls hl => ?_)
              refine lv_goto (tgt := 179) hx hb dX5_mixDistrict_234 (by decide) ?_
              exact IH179 rr43 (u28 + (1 : Int32)) _ _ _ hF hP hD hS (lv_sub hl [0, 1, 2] rfl)
        exact L179 100 rr19 (0 : Int32) _ _ _ hF hP hD hS (lv_sub hl [0, 1, 2] rfl)
      have L102 : ∀ (n102 : Nat) (u44 : Int64) (u45 : Int32) (H : Heap) (locs : List Loc) (ls : Array Slot), F_X5_mixDistrict_l102 Z9 (F_X5_mixDistrict_x102 xb Z9) n102 u44 u45 = some (Zo, ro) → va_P (dC, dI) vwCl (bw q aa Z9) H → va_D A (bw q aa Z9) → va_S A s.heap H locs → lv_has ls 7 [(6, .int u45), (4, .long u44), (0, .ref (aa 0)), (3, .int xb)] → W p l e (headSpec wsX5_mixDistrict ({ frames := 7, cells := 0, slots := 0, locals := 161 } : Room)).room s m args below meth c H locs 0 0 Q (F0 m 102 ls []) := by
        intro n102
        induction n102 with
        | zero =>
          intro u44 u45 H locs ls hF
          rw [F_X5_mixDistrict_l102] at hF
          cases hF
        | succ n102 IH102 =>
          intro u44 u45 H locs ls hF hP hD hS hl
          rw [F_X5_mixDistrict_l102] at hF
          refine lv_iload hx hb dX5_mixDistrict_102 (lv_at hl 0 rfl) ?_
          refine lv_iconst (v := 5) hx hb dX5_mixDistrict_104 (by decide) ?_
          refine lv_icmp_ge (tgt := 132) hx hb dX5_mixDistrict_105 (by decide) (fun hc46 => ?_) (fun hc46 => ?_)
          · have hF := br_pos hc46 hF
            exact Jx102 u44 _ _ _ hF hP hD hS (lv_sub hl [1, 2, 3] rfl)
          · have hF := br_neg hc46 hF
            refine lv_lload hx hb dX5_mixDistrict_108 (lv_at hl 1 rfl) ?_
            refine lv_aload_n hx hb dX5_mixDistrict_110 rfl (lv_at hl 2 rfl) ?_
            refine va_get (D := (dC, dI)) (ci := 7) (v := .ref (aa 26)) (C := RX5) (T := TX5) (N := 5) hx hb hts hinX5 hown hK hP 0 (bw_at (i := 0) (by decide) rfl) rfl 2 (by decide) (hts (.fieldLink RX5 26 "BallotLoom" "transfers" "LBallotLoom$Transfers;") (by decide +kernel)) (fun _ h9 => h9) rfl dX5_mixDistrict_111 ?_
            refine va_get (D := (dC, dI)) (ci := 6) (v := .ref (aa 27)) (C := RX4) (T := TX4) (N := 3) hx hb hts hinX4 hown hK hP 26 (bw_at (i := 26) (by decide) rfl) rfl 0 (by decide) (hts (.fieldLink RX5 203 "BallotLoom$Transfers" "chosen" "[I") (by decide +kernel)) (fun _ h9 => h9) rfl dX5_mixDistrict_114 ?_
            refine lv_iload hx hb dX5_mixDistrict_117 (lv_at hl 0 rfl) ?_
            obtain ⟨hg47, hF⟩ := gd_some hF
            refine va_iald hx hb hK hP 27 0 (at_i (by decide) (fun _ _ => rfl)) rfl hg47 dX5_mixDistrict_119 ?_
            refine lv_topi (fun y48 ey48 => ?_)
            have hF := bv_at ey48 hF
            refine lv_i2l hx hb dX5_mixDistrict_120 rfl ?_
            refine lv_topl (fun y49 ey49 => ?_)
            have hF := bv_at ey49 hF
            obtain ⟨r51, hC50, hF⟩ := calp_some hF
            have hFc := b_free (ws := bw q aa Z9) hD hS hA
            refine va_calll (va_runS (As := [.long u44, .long y49]) (rest := []) ⟨hx, hb, hml, hown, hts⟩ (c_X5_mix l dC dI q aa Z9 u44 y49  _ _  hC50) (va_cwS 2 hts gX5_mixDistrict_X5_mix rfl rfl rfl (by decide +kernel) ⟨Nat.le_of_ble_eq_true rfl, Nat.le_of_ble_eq_true rfl⟩) ⟨pr_blind, fun U hU hW => ⟨rfl, pr_mk hU hW hP hK hD⟩⟩ rfl rfl hl.1 rfl (lv_room (Nat.le_of_ble_eq_true rfl)) dX5_mixDistrict_121 ⟨Nat.le_of_ble_eq_true rfl, Nat.le_of_ble_eq_true rfl⟩) hS (fun x _ h => hFc x h) hFc (fun rr52 u t H1 locs ht hvm hw hB hz1 hk1 hS => ?_)
            obtain ⟨hP, hK1, hD1⟩ := hB
            rw [ht] at hP
            have hD := hD1.weaken (fun _ q9 _ h9 => hFc q9.1 h9)
            clear hFc hD1 hK1 hvm hz1 hk1
            generalize H1 = H at hP hS ⊢
            refine W.widen (k := 0) (n := 0) (Nat.le_refl _) (Nat.le_refl _) ?_
            obtain rfl : rr52 = r51 := hw
            refine lv_lstore (lv' := [(4, .long rr52), (6, .int u45), (0, .ref (aa 0)), (3, .int xb)]) hx hb dX5_mixDistrict_124 hl (by decide) rfl (fun ls hl => ?_)
            refine lv_iinc (k := 1) (v := (u45 + (1 : Int32))) (lv' := [(6, .int (u45 + (1 : Int32))), (4, .long rr52), (0, .ref (aa 0)), (3, .int xb)]) hx hb dX5_mixDistrict_126 hl rfl (ii_ _ _ _ (by decide)) (by decide) rfl (fun ls hl => ?_)
            refine lv_goto (tgt := 102) hx hb dX5_mixDistrict_129 (by decide) ?_
            exact IH102 rr52 (u45 + (1 : Int32)) _ _ _ hF hP hD hS (lv_sub hl [0, 1, 2, 3] rfl)
      exact L102 100 w7 (0 : Int32) _ _ _ hF hP hD hS (lv_sub hl [0, 1, 2, 3] rfl)
    have L56 : ∀ (n56 : Nat) (u53 : Int64) (u54 : Int32) (H : Heap) (locs : List Loc) (ls : Array Slot), F_X5_mixDistrict_l56 Z5 (F_X5_mixDistrict_x56 xb Z5) n56 u53 u54 = some (Zo, ro) → va_P (dC, dI) vwCl (bw q aa Z5) H → va_D A (bw q aa Z5) → va_S A s.heap H locs → lv_has ls 7 [(6, .int u54), (4, .long u53), (0, .ref (aa 0)), (3, .int xb)] → W p l e (headSpec wsX5_mixDistrict ({ frames := 7, cells := 0, slots := 0, locals := 161 } : Room)).room s m args below meth c H locs 0 0 Q (F0 m 56 ls []) := by
      intro n56
      induction n56 with
      | zero =>
        intro u53 u54 H locs ls hF
        rw [F_X5_mixDistrict_l56] at hF
        cases hF
      | succ n56 IH56 =>
        intro u53 u54 H locs ls hF hP hD hS hl
        rw [F_X5_mixDistrict_l56] at hF
        refine lv_iload hx hb dX5_mixDistrict_56 (lv_at hl 0 rfl) ?_
        refine lv_bipush (v := 6) hx hb dX5_mixDistrict_58 (by decide) ?_
        refine lv_icmp_ge (tgt := 87) hx hb dX5_mixDistrict_60 (by decide) (fun hc55 => ?_) (fun hc55 => ?_)
        · have hF := br_pos hc55 hF
          exact Jx56 u53 _ _ _ hF hP hD hS (lv_sub hl [1, 2, 3] rfl)
        · have hF := br_neg hc55 hF
          refine lv_lload hx hb dX5_mixDistrict_63 (lv_at hl 1 rfl) ?_
          refine lv_aload_n hx hb dX5_mixDistrict_65 rfl (lv_at hl 2 rfl) ?_
          refine va_get (D := (dC, dI)) (ci := 7) (v := .ref (aa 6)) (C := RX5) (T := TX5) (N := 5) hx hb hts hinX5 hown hK hP 0 (bw_at (i := 0) (by decide) rfl) rfl 1 (by decide) (hts (.fieldLink RX5 19 "BallotLoom" "poll" "LBallotLoom$Poll;") (by decide +kernel)) (fun _ h9 => h9) rfl dX5_mixDistrict_66 ?_
          refine va_get (D := (dC, dI)) (ci := 4) (v := .ref (aa 11)) (C := RX2) (T := TX2) (N := 7) hx hb hts hinX2 hown hK hP 6 (bw_at (i := 6) (by decide) rfl) rfl 4 (by decide) (hts (.fieldLink RX5 195 "BallotLoom$Poll" "goneOut" "[I") (by decide +kernel)) (fun _ h9 => h9) rfl dX5_mixDistrict_69 ?_
          refine lv_iload hx hb dX5_mixDistrict_72 (lv_at hl 0 rfl) ?_
          obtain ⟨hg56, hF⟩ := gd_some hF
          refine va_iald hx hb hK hP 11 0 (at_i (by decide) (fun _ _ => rfl)) rfl hg56 dX5_mixDistrict_74 ?_
          refine lv_topi (fun y57 ey57 => ?_)
          have hF := bv_at ey57 hF
          refine lv_i2l hx hb dX5_mixDistrict_75 rfl ?_
          refine lv_topl (fun y58 ey58 => ?_)
          have hF := bv_at ey58 hF
          obtain ⟨r60, hC59, hF⟩ := calp_some hF
          have hFc := b_free (ws := bw q aa Z5) hD hS hA
          refine va_calll (va_runS (As := [.long u53, .long y58]) (rest := []) ⟨hx, hb, hml, hown, hts⟩ (c_X5_mix l dC dI q aa Z5 u53 y58  _ _  hC59) (va_cwS 2 hts gX5_mixDistrict_X5_mix rfl rfl rfl (by decide +kernel) ⟨Nat.le_of_ble_eq_true rfl, Nat.le_of_ble_eq_true rfl⟩) ⟨pr_blind, fun U hU hW => ⟨rfl, pr_mk hU hW hP hK hD⟩⟩ rfl rfl hl.1 rfl (lv_room (Nat.le_of_ble_eq_true rfl)) dX5_mixDistrict_76 ⟨Nat.le_of_ble_eq_true rfl, Nat.le_of_ble_eq_true rfl⟩) hS (fun x _ h => hFc x h) hFc (fun rr61 u t H1 locs ht hvm hw hB hz1 hk1 hS => ?_)
          obtain ⟨hP, hK1, hD1⟩ := hB
          rw [ht] at hP
          have hD := hD1.weaken (fun _ q9 _ h9 => hFc q9.1 h9)
          clear hFc hD1 hK1 hvm hz1 hk1
          generalize H1 = H at hP hS ⊢
          refine W.widen (k := 0) (n := 0) (Nat.le_refl _) (Nat.le_refl _) ?_
          obtain rfl : rr61 = r60 := hw
          refine lv_lstore (lv' := [(4, .long rr61), (6, .int u54), (0, .ref (aa 0)), (3, .int xb)]) hx hb dX5_mixDistrict_79 hl (by decide) rfl (fun ls hl => ?_)
          refine lv_iinc (k := 1) (v := (u54 + (1 : Int32))) (lv' := [(6, .int (u54 + (1 : Int32))), (4, .long rr61), (0, .ref (aa 0)), (3, .int xb)]) hx hb dX5_mixDistrict_81 hl rfl (ii_ _ _ _ (by decide)) (by decide) rfl (fun ls hl => ?_)
          refine lv_goto (tgt := 56) hx hb dX5_mixDistrict_84 (by decide) ?_
          exact IH56 rr61 (u54 + (1 : Int32)) _ _ _ hF hP hD hS (lv_sub hl [0, 1, 2, 3] rfl)
    exact L56 100 w1 (0 : Int32) _ _ _ hF hP hD hS (lv_sub hl [0, 1, 2, 3] rfl)
  have L6 : ∀ (n6 : Nat) (Z64 : Mem) (u62 : Int64) (u63 : Int32) (H : Heap) (locs : List Loc) (ls : Array Slot), F_X5_mixDistrict_l6 xb (F_X5_mixDistrict_x6 xb) n6 Z64 u62 u63 = some (Zo, ro) → va_P (dC, dI) vwCl (bw q aa Z64) H → va_D A (bw q aa Z64) → va_S A s.heap H locs → lv_has ls 7 [(6, .int u63), (4, .long u62), (0, .ref (aa 0)), (3, .int xb)] → W p l e (headSpec wsX5_mixDistrict ({ frames := 7, cells := 0, slots := 0, locals := 161 } : Room)).room s m args below meth c H locs 0 0 Q (F0 m 6 ls []) := by
    intro n6
    induction n6 with
    | zero =>
      intro Z64 u62 u63 H locs ls hF
      rw [F_X5_mixDistrict_l6] at hF
      cases hF
    | succ n6 IH6 =>
      intro Z64 u62 u63 H locs ls hF hP hD hS hl
      rw [F_X5_mixDistrict_l6] at hF
      refine lv_iload hx hb dX5_mixDistrict_6 (lv_at hl 0 rfl) ?_
      refine lv_iconst (v := 3) hx hb dX5_mixDistrict_8 (by decide) ?_
      refine lv_icmp_gt (tgt := 40) hx hb dX5_mixDistrict_9 (by decide) (fun hc65 => ?_) (fun hc65 => ?_)
      · have hF := br_pos hc65 hF
        exact Jx6 Z64 u62 _ _ _ hF hP hD hS (lv_sub hl [1, 2, 3] rfl)
      · have hF := br_neg hc65 hF
        refine lv_lload hx hb dX5_mixDistrict_12 (lv_at hl 1 rfl) ?_
        refine lv_aload_n hx hb dX5_mixDistrict_14 rfl (lv_at hl 2 rfl) ?_
        refine va_get (D := (dC, dI)) (ci := 7) (v := .ref (aa 6)) (C := RX5) (T := TX5) (N := 5) hx hb hts hinX5 hown hK hP 0 (bw_at (i := 0) (by decide) rfl) rfl 1 (by decide) (hts (.fieldLink RX5 19 "BallotLoom" "poll" "LBallotLoom$Poll;") (by decide +kernel)) (fun _ h9 => h9) rfl dX5_mixDistrict_15 ?_
        refine lv_aload_n hx hb dX5_mixDistrict_18 rfl (lv_at hl 2 rfl) ?_
        refine va_get (D := (dC, dI)) (ci := 7) (v := .ref (aa 1)) (C := RX5) (T := TX5) (N := 5) hx hb hts hinX5 hown hK hP 0 (bw_at (i := 0) (by decide) rfl) rfl 0 (by decide) (hts (.fieldLink RX5 10 "BallotLoom" "box" "LBallotLoom$Box;") (by decide +kernel)) (fun _ h9 => h9) rfl dX5_mixDistrict_19 ?_
        refine lv_iload_n hx hb dX5_mixDistrict_22 rfl (lv_at hl 3 rfl) ?_
        refine lv_iload hx hb dX5_mixDistrict_23 (lv_at hl 0 rfl) ?_
        obtain ⟨Z68, r67, hC66, hF⟩ := cal_some hF
        have hFc := b_free (ws := bw q aa Z64) hD hS hA
        refine va_calli (va_runV (As := [.ref (aa 1), .int xb, .int u63]) (rest := [.long u62]) ⟨hx, hb, hml, hown, hts⟩ (c_X2_winnerBy l dC dI q aa Z64 xb u63  _ _ _  hC66) (cwV 3 hts gX5_mixDistrict_X2_winnerBy rfl rfl rfl (by decide +kernel) ⟨Nat.le_of_ble_eq_true rfl, Nat.le_of_ble_eq_true rfl⟩) ⟨pr_blind, va_recv hK hP (ci := 4) (q0 := 6) rfl (bw_at (i := 6) (by decide) rfl), fun U hU hW => ⟨rfl, pr_mk hU hW hP hK hD⟩⟩ rfl rfl hl.1 rfl (lv_room (Nat.le_of_ble_eq_true rfl)) dX5_mixDistrict_25 ⟨Nat.le_of_ble_eq_true rfl, Nat.le_of_ble_eq_true rfl⟩) hS (fun x _ h => hFc x h) hFc (fun rr69 u t H1 locs ht hvm hw hB hz1 hk1 hS => ?_)
        obtain ⟨hP, hK1, hD1⟩ := hB
        rw [ht] at hP
        have hD := hD1.weaken (fun _ q9 _ h9 => hFc q9.1 h9)
        clear hFc hD1 hK1 hvm hz1 hk1
        generalize H1 = H at hP hS ⊢
        refine W.widen (k := 0) (n := 0) (Nat.le_refl _) (Nat.le_refl _) ?_
        obtain rfl : rr69 = r67 := hw
        refine lv_i2l hx hb dX5_mixDistrict_28 rfl ?_
        refine lv_topl (fun y70 ey70 => ?_)
        have hF := bv_at ey70 hF
        obtain ⟨r72, hC71, hF⟩ := calp_some hF
        have hFc := b_free (ws := bw q aa Z68) hD hS hA
        refine va_calll (va_runS (As := [.long u62, .long y70]) (rest := []) ⟨hx, hb, hml, hown, hts⟩ (c_X5_mix l dC dI q aa Z68 u62 y70  _ _  hC71) (va_cwS 2 hts gX5_mixDistrict_X5_mix rfl rfl rfl (by decide +kernel) ⟨Nat.le_of_ble_eq_true rfl, Nat.le_of_ble_eq_true rfl⟩) ⟨pr_blind, fun U hU hW => ⟨rfl, pr_mk hU hW hP hK hD⟩⟩ rfl rfl hl.1 rfl (lv_room (Nat.le_of_ble_eq_true rfl)) dX5_mixDistrict_29 ⟨Nat.le_of_ble_eq_true rfl, Nat.le_of_ble_eq_true rfl⟩) hS (fun x _ h => hFc x h) hFc (fun rr73 u t H1 locs ht hvm hw hB hz1 hk1 hS => ?_)
        obtain ⟨hP, hK1, hD1⟩ := hB
        rw [ht] at hP
        have hD := hD1.weaken (fun _ q9 _ h9 => hFc q9.1 h9)
        clear hFc hD1 hK1 hvm hz1 hk1
        generalize H1 = H at hP hS ⊢
        refine W.widen (k := 0) (n := 0) (Nat.le_refl _) (Nat.le_refl _) ?_
        obtain rfl : rr73 = r72 := hw
        refine lv_lstore (lv' := [(4, .long rr73), (6, .int u63), (0, .ref (aa 0)), (3, .int xb)]) hx hb dX5_mixDistrict_32 hl (by decide) rfl (fun ls hl => ?_)
        refine lv_iinc (k := 1) (v := (u63 + (1 : Int32))) (lv' := [(6, .int (u63 + (1 : Int32))), (4, .long rr73), (0, .ref (aa 0)), (3, .int xb)]) hx hb dX5_mixDistrict_34 hl rfl (ii_ _ _ _ (by decide)) (by decide) rfl (fun ls hl => ?_)
        refine lv_goto (tgt := 6) hx hb dX5_mixDistrict_37 (by decide) ?_
        exact IH6 Z68 rr73 (u63 + (1 : Int32)) _ _ _ hF hP hD hS (lv_sub hl [0, 1, 2, 3] rfl)
  exact L6 100 Z xa (0 : Int32) _ _ _ hF hP hD hS (lv_sub hl [0, 1, 2, 4] rfl)

noncomputable def F_X5_mixParty_x39 (Z3 : Mem) (w2 : Int64) : Option (Mem × Int64) :=
  some (Z3, w2)

noncomputable def F_X5_mixParty_l39 (xb : Int32) (K_39 : Mem → Int64 → Option (Mem × Int64)) : Nat → Mem → Int64 → Int32 → Option (Mem × Int64)
  | 0, _, _, _ => none
  | n39 + 1, Z6, u4, u5 =>
  br ((2 : Int32) < u5) (K_39 Z6 u4) (cal (F_X1_shareSeats Z6 (20 : Int32) u5) fun Z9 _ => gd (¬ (xb < 0 ∨ 4 ≤ ix xb)) <| bv (Z9.1 36 (ix xb)) fun y12 => bv (Int32.toInt64 y12) fun y13 => calp (F_X5_mix Z9 u4 y13) fun rr16 => calp (F_X1_swingsOf Z9 xb (20 : Int32)) fun rr19 => bv (Int32.toInt64 rr19) fun y20 => calp (F_X5_mix Z9 rr16 y20) fun rr23 => (F_X5_mixParty_l39 xb K_39 n39) Z9 rr23 (u5 + (1 : Int32)))

noncomputable def F_X5_mixParty_x6 (Z : Mem) (xb : Int32) (w1 : Int64) : Option (Mem × Int64) :=
  F_X5_mixParty_l39 xb F_X5_mixParty_x39 100 Z w1 (0 : Int32)

noncomputable def F_X5_mixParty_l6 (Z : Mem) (xb : Int32) (K_6 : Int64 → Option (Mem × Int64)) : Nat → Int64 → Int32 → Option (Mem × Int64)
  | 0, _, _ => none
  | n6 + 1, u24, u25 =>
  br ((4 : Int32) < u25) (K_6 u24) (calp (F_X1_figure Z xb u25) fun rr29 => bv (Int32.toInt64 rr29) fun y30 => calp (F_X5_mix Z u24 y30) fun rr33 => (F_X5_mixParty_l6 Z xb K_6 n6) rr33 (u25 + (1 : Int32)))

noncomputable def F_X5_mixParty (Z : Mem) (xa : Int64) (xb : Int32) : Option (Mem × Int64) :=
  F_X5_mixParty_l6 Z xb (F_X5_mixParty_x6 Z xb) 100 xa (0 : Int32)

set_option maxHeartbeats 4000000 in
set_option maxRecDepth 100000 in
theorem c_X5_mixParty (l : Launch) (dC : Nat → ClassId) (dI : Nat → Nat → Nat) (q : Nat → ClassId) (aa : Nat → Nat) (Z : Mem) (xa : Int64) (xb : Int32)  (sz : Nat) (Zo : Mem) (ro : Int64) (hF : F_X5_mixParty Z xa xb = some (Zo, ro)) : Met l yX5_mixParty wsX5_mixParty ({ frames := 5, cells := 0, slots := 0, locals := 113 }) (va_Pc [.ref (aa 0), .long xa, .int xb] (pr_ dC dI (bw q aa Z) (bty q) sz)) (va_Ql (fun (r : Int64) (_ : Unit) => r = ro) (fun (_ : Unit) t => po_ dC dI (bw q aa Zo) (bty q) (va_A (bw q aa Z) sz) t) (va_A (bw q aa Z) sz)) 0 0 (va_A (bw q aa Z) sz) := by
  refine Met.ofW (cc := cX5_mixParty) (maxL := 7) (ret := (some .long)) (by decide) rfl ?_
  intro p e s m args below meth c s₁ B hml hv
  obtain ⟨hargs, hsz, hP, hK, hD0⟩ := hv
  have hx := B.exec
  have hb := B.bytes
  have hr := B.returns
  have hts := atoms_spec (ws := wsX5_mixParty) B.pre
  have hown : s.vm.findClass RX5 = some m.cls := findClass_of_methodNamed B.named
  have hlocks := B.notSynchronized
  subst hsz
  have hD := hD0.self (sz := s.heap.size)
  generalize hAe : va_A (bw q aa Z) s.heap.size = A at hD ⊢
  have hA : ∀ x : Nat, s.heap.size ≤ x → A x := fun x h => by rw [← hAe]; exact Or.inr h
  have hS : va_S A s.heap s.heap [] := va_S.rf
  have hinX1 : ∀ w ∈ u_ws RX1 TX1 9, w ∈ wsX5_mixParty := by decide +kernel
  have hinX5 : ∀ w ∈ u_ws RX5 TX5 5, w ∈ wsX5_mixParty := by decide +kernel
  have hl := lv_entry ([.ref (aa 0), .long xa, .int xb]) (n := 7) (Nat.le_of_ble_eq_true rfl)
  refine w_ent hargs ?_
  rw [lg_entry_eq]
  generalize (lg_sl ([.ref (aa 0), .long xa, .int xb]) ++ List.replicate (7 - (lg_sl ([.ref (aa 0), .long xa, .int xb])).length) Slot.unset).toArray = ls at hl ⊢
  have hl : lv_has ls 7 [(0, .ref (aa 0)), (1, .long xa), (3, .int xb)] := hl
  unfold F_X5_mixParty at hF
  refine w_go (fun Q hQ => ?_)
  refine lv_lload_n hx hb dX5_mixParty_0 rfl (lv_at hl 1 rfl) ?_
  refine lv_lstore (lv' := [(4, .long xa), (0, .ref (aa 0)), (1, .long xa), (3, .int xb)]) hx hb dX5_mixParty_1 hl (by decide) rfl (fun ls hl => ?_)
  refine lv_iconst (v := 0) hx hb dX5_mixParty_3 (by decide) ?_
  refine lv_istore (lv' := [(6, .int 0), (4, .long xa), (0, .ref (aa 0)), (1, .long xa), (3, .int xb)]) hx hb dX5_mixParty_4 hl (by decide) rfl (fun ls hl => ?_)
  have Jx6 : ∀ (w1 : Int64) (H : Heap) (locs : List Loc) (ls : Array Slot), (F_X5_mixParty_x6 Z xb) w1 = some (Zo, ro) → va_P (dC, dI) vwCl (bw q aa Z) H → va_D A (bw q aa Z) → va_S A s.heap H locs → lv_has ls 7 [(4, .long w1), (0, .ref (aa 0)), (3, .int xb)] → W p l e (headSpec wsX5_mixParty ({ frames := 5, cells := 0, slots := 0, locals := 113 } : Room)).room s m args below meth c H locs 0 0 Q (F0 m 36 ls []) := by
    intro w1 H locs ls hF hP hD hS hl
    unfold F_X5_mixParty_x6 at hF
    refine lv_iconst (v := 0) hx hb dX5_mixParty_36 (by decide) ?_
    refine lv_istore (lv' := [(6, .int 0), (4, .long w1), (0, .ref (aa 0)), (3, .int xb)]) hx hb dX5_mixParty_37 hl (by decide) rfl (fun ls hl => ?_)
    have Jx39 : ∀ (Z3 : Mem) (w2 : Int64) (H : Heap) (locs : List Loc) (ls : Array Slot), F_X5_mixParty_x39 Z3 w2 = some (Zo, ro) → va_P (dC, dI) vwCl (bw q aa Z3) H → va_D A (bw q aa Z3) → va_S A s.heap H locs → lv_has ls 7 [(4, .long w2)] → W p l e (headSpec wsX5_mixParty ({ frames := 5, cells := 0, slots := 0, locals := 113 } : Room)).room s m args below meth c H locs 0 0 Q (F0 m 97 ls []) := by
      intro Z3 w2 H locs ls hF hP hD hS hl
      unfold F_X5_mixParty_x39 at hF
      refine lv_lload hx hb dX5_mixParty_97 (lv_at hl 0 rfl) ?_
      obtain ⟨e8, e9⟩ := some2 hF
      rw [← e8] at hP hD
      subst hQ
      exact W.lret (v := w2) hx hb hr (fun t ht hW => ⟨⟨w2, (), rfl, e9.symm, po_mk ht hW hP hK hD⟩, hS.F ht⟩) hS.2.2 dX5_mixParty_99
    have L39 : ∀ (n39 : Nat) (Z6 : Mem) (u4 : Int64) (u5 : Int32) (H : Heap) (locs : List Loc) (ls : Array Slot), F_X5_mixParty_l39 xb F_X5_mixParty_x39 n39 Z6 u4 u5 = some (Zo, ro) → va_P (dC, dI) vwCl (bw q aa Z6) H → va_D A (bw q aa Z6) → va_S A s.heap H locs → lv_has ls 7 [(6, .int u5), (4, .long u4), (0, .ref (aa 0)), (3, .int xb)] → W p l e (headSpec wsX5_mixParty ({ frames := 5, cells := 0, slots := 0, locals := 113 } : Room)).room s m args below meth c H locs 0 0 Q (F0 m 39 ls []) := by
      intro n39
      induction n39 with
      | zero =>
        intro Z6 u4 u5 H locs ls hF
        rw [F_X5_mixParty_l39] at hF
        cases hF
      | succ n39 IH39 =>
        intro Z6 u4 u5 H locs ls hF hP hD hS hl
        rw [F_X5_mixParty_l39] at hF
        refine lv_iload hx hb dX5_mixParty_39 (lv_at hl 0 rfl) ?_
        refine lv_iconst (v := 2) hx hb dX5_mixParty_41 (by decide) ?_
        refine lv_icmp_gt (tgt := 97) hx hb dX5_mixParty_42 (by decide) (fun hc7 => ?_) (fun hc7 => ?_)
        · have hF := br_pos hc7 hF
          exact Jx39 Z6 u4 _ _ _ hF hP hD hS (lv_sub hl [1] rfl)
        · have hF := br_neg hc7 hF
          refine lv_aload_n hx hb dX5_mixParty_45 rfl (lv_at hl 2 rfl) ?_
          refine va_get (D := (dC, dI)) (ci := 7) (v := .ref (aa 30)) (C := RX5) (T := TX5) (N := 5) hx hb hts hinX5 hown hK hP 0 (bw_at (i := 0) (by decide) rfl) rfl 3 (by decide) (hts (.fieldLink RX5 33 "BallotLoom" "parties" "LBallotLoom$Parties;") (by decide +kernel)) (fun _ h9 => h9) rfl dX5_mixParty_46 ?_
          refine lv_bipush (v := 20) hx hb dX5_mixParty_49 (by decide) ?_
          refine lv_iload hx hb dX5_mixParty_51 (lv_at hl 0 rfl) ?_
          obtain ⟨Z9, _, hC8, hF⟩ := cal_some hF
          have hFc := b_free (ws := bw q aa Z6) hD hS hA
          refine va_callv (va_runV (As := [.int 20, .int u5]) (rest := []) ⟨hx, hb, hml, hown, hts⟩ (c_X1_shareSeats l dC dI q aa Z6 (20 : Int32) u5  _ _ _  hC8) (cwV 2 hts gX5_mixParty_X1_shareSeats rfl rfl rfl (by decide +kernel) ⟨Nat.le_of_ble_eq_true rfl, Nat.le_of_ble_eq_true rfl⟩) ⟨pr_blind, va_recv hK hP (ci := 3) (q0 := 30) rfl (bw_at (i := 30) (by decide) rfl), fun U hU hW => ⟨rfl, pr_mk hU hW hP hK hD⟩⟩ rfl rfl hl.1 rfl (lv_room (Nat.le_of_ble_eq_true rfl)) dX5_mixParty_53 ⟨Nat.le_of_ble_eq_true rfl, Nat.le_of_ble_eq_true rfl⟩) hS (fun x _ h => hFc x h) hFc (fun u t H1 locs ht hvm hw hB hz1 hk1 hS => ?_)
          obtain ⟨hP, hK1, hD1⟩ := hB
          rw [ht] at hP
          have hD := hD1.weaken (fun _ q9 _ h9 => hFc q9.1 h9)
          clear hFc hD1 hK1 hvm hz1 hk1
          generalize H1 = H at hP hS ⊢
          refine W.widen (k := 0) (n := 0) (Nat.le_refl _) (Nat.le_refl _) ?_
          refine lv_lload hx hb dX5_mixParty_56 (lv_at hl 1 rfl) ?_
          refine lv_aload_n hx hb dX5_mixParty_58 rfl (lv_at hl 2 rfl) ?_
          refine va_get (D := (dC, dI)) (ci := 7) (v := .ref (aa 30)) (C := RX5) (T := TX5) (N := 5) hx hb hts hinX5 hown hK hP 0 (bw_at (i := 0) (by decide) rfl) rfl 3 (by decide) (hts (.fieldLink RX5 33 "BallotLoom" "parties" "LBallotLoom$Parties;") (by decide +kernel)) (fun _ h9 => h9) rfl dX5_mixParty_59 ?_
          refine va_get (D := (dC, dI)) (ci := 3) (v := .ref (aa 36)) (C := RX1) (T := TX1) (N := 9) hx hb hts hinX1 hown hK hP 30 (bw_at (i := 30) (by decide) rfl) rfl 6 (by decide) (hts (.fieldLink RX5 229 "BallotLoom$Parties" "seats" "[I") (by decide +kernel)) (fun _ h9 => h9) rfl dX5_mixParty_62 ?_
          refine lv_iload_n hx hb dX5_mixParty_65 rfl (lv_at hl 3 rfl) ?_
          obtain ⟨hg11, hF⟩ := gd_some hF
          refine va_iald hx hb hK hP 36 0 (at_i (by decide) (fun _ _ => rfl)) rfl hg11 dX5_mixParty_66 ?_
          refine lv_topi (fun y12 ey12 => ?_)
          have hF := bv_at ey12 hF
          refine lv_i2l hx hb dX5_mixParty_67 rfl ?_
          refine lv_topl (fun y13 ey13 => ?_)
          have hF := bv_at ey13 hF
          obtain ⟨r15, hC14, hF⟩ := calp_some hF
          have hFc := b_free (ws := bw q aa Z9) hD hS hA
          refine va_calll (va_runS (As := [.long u4, .long y13]) (rest := []) ⟨hx, hb, hml, hown, hts⟩ (c_X5_mix l dC dI q aa Z9 u4 y13  _ _  hC14) (va_cwS 2 hts gX5_mixParty_X5_mix rfl rfl rfl (by decide +kernel) ⟨Nat.le_of_ble_eq_true rfl, Nat.le_of_ble_eq_true rfl⟩) ⟨pr_blind, fun U hU hW => ⟨rfl, pr_mk hU hW hP hK hD⟩⟩ rfl rfl hl.1 rfl (lv_room (Nat.le_of_ble_eq_true rfl)) dX5_mixParty_68 ⟨Nat.le_of_ble_eq_true rfl, Nat.le_of_ble_eq_true rfl⟩) hS (fun x _ h => hFc x h) hFc (fun rr16 u t H1 locs ht hvm hw hB hz1 hk1 hS => ?_)
          obtain ⟨hP, hK1, hD1⟩ := hB
          rw [ht] at hP
          have hD := hD1.weaken (fun _ q9 _ h9 => hFc q9.1 h9)
          clear hFc hD1 hK1 hvm hz1 hk1
          generalize H1 = H at hP hS ⊢
          refine W.widen (k := 0) (n := 0) (Nat.le_refl _) (Nat.le_refl _) ?_
          obtain rfl : rr16 = r15 := hw
          refine lv_lstore (lv' := [(4, .long rr16), (6, .int u5), (0, .ref (aa 0)), (3, .int xb)]) hx hb dX5_mixParty_71 hl (by decide) rfl (fun ls hl => ?_)
          refine lv_lload hx hb dX5_mixParty_73 (lv_at hl 0 rfl) ?_
          refine lv_aload_n hx hb dX5_mixParty_75 rfl (lv_at hl 2 rfl) ?_
          refine va_get (D := (dC, dI)) (ci := 7) (v := .ref (aa 30)) (C := RX5) (T := TX5) (N := 5) hx hb hts hinX5 hown hK hP 0 (bw_at (i := 0) (by decide) rfl) rfl 3 (by decide) (hts (.fieldLink RX5 33 "BallotLoom" "parties" "LBallotLoom$Parties;") (by decide +kernel)) (fun _ h9 => h9) rfl dX5_mixParty_76 ?_
          refine lv_iload_n hx hb dX5_mixParty_79 rfl (lv_at hl 3 rfl) ?_
          refine lv_bipush (v := 20) hx hb dX5_mixParty_80 (by decide) ?_
          obtain ⟨r18, hC17, hF⟩ := calp_some hF
          have hFc := b_free (ws := bw q aa Z9) hD hS hA
          refine va_calli (va_runV (As := [.int xb, .int 20]) (rest := [.long rr16]) ⟨hx, hb, hml, hown, hts⟩ (c_X1_swingsOf l dC dI q aa Z9 xb (20 : Int32)  _ _  hC17) (cwV 2 hts gX5_mixParty_X1_swingsOf rfl rfl rfl (by decide +kernel) ⟨Nat.le_of_ble_eq_true rfl, Nat.le_of_ble_eq_true rfl⟩) ⟨pr_blind, va_recv hK hP (ci := 3) (q0 := 30) rfl (bw_at (i := 30) (by decide) rfl), fun U hU hW => ⟨rfl, pr_mk hU hW hP hK hD⟩⟩ rfl rfl hl.1 rfl (lv_room (Nat.le_of_ble_eq_true rfl)) dX5_mixParty_82 ⟨Nat.le_of_ble_eq_true rfl, Nat.le_of_ble_eq_true rfl⟩) hS (fun x _ h => hFc x h) hFc (fun rr19 u t H1 locs ht hvm hw hB hz1 hk1 hS => ?_)
          obtain ⟨hP, hK1, hD1⟩ := hB
          rw [ht] at hP
          have hD := hD1.weaken (fun _ q9 _ h9 => hFc q9.1 h9)
          clear hFc hD1 hK1 hvm hz1 hk1
          generalize H1 = H at hP hS ⊢
          refine W.widen (k := 0) (n := 0) (Nat.le_refl _) (Nat.le_refl _) ?_
          obtain rfl : rr19 = r18 := hw
          refine lv_i2l hx hb dX5_mixParty_85 rfl ?_
          refine lv_topl (fun y20 ey20 => ?_)
          have hF := bv_at ey20 hF
          obtain ⟨r22, hC21, hF⟩ := calp_some hF
          have hFc := b_free (ws := bw q aa Z9) hD hS hA
          refine va_calll (va_runS (As := [.long rr16, .long y20]) (rest := []) ⟨hx, hb, hml, hown, hts⟩ (c_X5_mix l dC dI q aa Z9 rr16 y20  _ _  hC21) (va_cwS 2 hts gX5_mixParty_X5_mix rfl rfl rfl (by decide +kernel) ⟨Nat.le_of_ble_eq_true rfl, Nat.le_of_ble_eq_true rfl⟩) ⟨pr_blind, fun U hU hW => ⟨rfl, pr_mk hU hW hP hK hD⟩⟩ rfl rfl hl.1 rfl (lv_room (Nat.le_of_ble_eq_true rfl)) dX5_mixParty_86 ⟨Nat.le_of_ble_eq_true rfl, Nat.le_of_ble_eq_true rfl⟩) hS (fun x _ h => hFc x h) hFc (fun rr23 u t H1 locs ht hvm hw hB hz1 hk1 hS => ?_)
          obtain ⟨hP, hK1, hD1⟩ := hB
          rw [ht] at hP
          have hD := hD1.weaken (fun _ q9 _ h9 => hFc q9.1 h9)
          clear hFc hD1 hK1 hvm hz1 hk1
          generalize H1 = H at hP hS ⊢
          refine W.widen (k := 0) (n := 0) (Nat.le_refl _) (Nat.le_refl _) ?_
          obtain rfl : rr23 = r22 := hw
          refine lv_lstore (lv' := [(4, .long rr23), (6, .int u5), (0, .ref (aa 0)), (3, .int xb)]) hx hb dX5_mixParty_89 hl (by decide) rfl (fun ls hl => ?_)
          refine lv_iinc (k := 1) (v := (u5 + (1 : Int32))) (lv' := [(6, .int (u5 + (1 : Int32))), (4, .long rr23), (0, .ref (aa 0)), (3, .int xb)]) hx hb dX5_mixParty_91 hl rfl (ii_ _ _ _ (by decide)) (by decide) rfl (fun ls hl => ?_)
          refine lv_goto (tgt := 39) hx hb dX5_mixParty_94 (by decide) ?_
          exact IH39 Z9 rr23 (u5 + (1 : Int32)) _ _ _ hF hP hD hS (lv_sub hl [0, 1, 2, 3] rfl)
    exact L39 100 Z w1 (0 : Int32) _ _ _ hF hP hD hS (lv_sub hl [0, 1, 2, 3] rfl)
  have L6 : ∀ (n6 : Nat) (u24 : Int64) (u25 : Int32) (H : Heap) (locs : List Loc) (ls : Array Slot), F_X5_mixParty_l6 Z xb (F_X5_mixParty_x6 Z xb) n6 u24 u25 = some (Zo, ro) → va_P (dC, dI) vwCl (bw q aa Z) H → va_D A (bw q aa Z) → va_S A s.heap H locs → lv_has ls 7 [(6, .int u25), (4, .long u24), (0, .ref (aa 0)), (3, .int xb)] → W p l e (headSpec wsX5_mixParty ({ frames := 5, cells := 0, slots := 0, locals := 113 } : Room)).room s m args below meth c H locs 0 0 Q (F0 m 6 ls []) := by
    intro n6
    induction n6 with
    | zero =>
      intro u24 u25 H locs ls hF
      rw [F_X5_mixParty_l6] at hF
      cases hF
    | succ n6 IH6 =>
      intro u24 u25 H locs ls hF hP hD hS hl
      rw [F_X5_mixParty_l6] at hF
      refine lv_iload hx hb dX5_mixParty_6 (lv_at hl 0 rfl) ?_
      refine lv_iconst (v := 4) hx hb dX5_mixParty_8 (by decide) ?_
      refine lv_icmp_gt (tgt := 36) hx hb dX5_mixParty_9 (by decide) (fun hc26 => ?_) (fun hc26 => ?_)
      · have hF := br_pos hc26 hF
        exact Jx6 u24 _ _ _ hF hP hD hS (lv_sub hl [1, 2, 3] rfl)
      · have hF := br_neg hc26 hF
        refine lv_lload hx hb dX5_mixParty_12 (lv_at hl 1 rfl) ?_
        refine lv_aload_n hx hb dX5_mixParty_14 rfl (lv_at hl 2 rfl) ?_
        refine va_get (D := (dC, dI)) (ci := 7) (v := .ref (aa 30)) (C := RX5) (T := TX5) (N := 5) hx hb hts hinX5 hown hK hP 0 (bw_at (i := 0) (by decide) rfl) rfl 3 (by decide) (hts (.fieldLink RX5 33 "BallotLoom" "parties" "LBallotLoom$Parties;") (by decide +kernel)) (fun _ h9 => h9) rfl dX5_mixParty_15 ?_
        refine lv_iload_n hx hb dX5_mixParty_18 rfl (lv_at hl 3 rfl) ?_
        refine lv_iload hx hb dX5_mixParty_19 (lv_at hl 0 rfl) ?_
        obtain ⟨r28, hC27, hF⟩ := calp_some hF
        have hFc := b_free (ws := bw q aa Z) hD hS hA
        refine va_calli (va_runV (As := [.int xb, .int u25]) (rest := [.long u24]) ⟨hx, hb, hml, hown, hts⟩ (c_X1_figure l dC dI q aa Z xb u25  _ _  hC27) (cwV 2 hts gX5_mixParty_X1_figure rfl rfl rfl (by decide +kernel) ⟨Nat.le_of_ble_eq_true rfl, Nat.le_of_ble_eq_true rfl⟩) ⟨pr_blind, va_recv hK hP (ci := 3) (q0 := 30) rfl (bw_at (i := 30) (by decide) rfl), fun U hU hW => ⟨rfl, pr_mk hU hW hP hK hD⟩⟩ rfl rfl hl.1 rfl (lv_room (Nat.le_of_ble_eq_true rfl)) dX5_mixParty_21 ⟨Nat.le_of_ble_eq_true rfl, Nat.le_of_ble_eq_true rfl⟩) hS (fun x _ h => hFc x h) hFc (fun rr29 u t H1 locs ht hvm hw hB hz1 hk1 hS => ?_)
        obtain ⟨hP, hK1, hD1⟩ := hB
        rw [ht] at hP
        have hD := hD1.weaken (fun _ q9 _ h9 => hFc q9.1 h9)
        clear hFc hD1 hK1 hvm hz1 hk1
        generalize H1 = H at hP hS ⊢
        refine W.widen (k := 0) (n := 0) (Nat.le_refl _) (Nat.le_refl _) ?_
        obtain rfl : rr29 = r28 := hw
        refine lv_i2l hx hb dX5_mixParty_24 rfl ?_
        refine lv_topl (fun y30 ey30 => ?_)
        have hF := bv_at ey30 hF
        obtain ⟨r32, hC31, hF⟩ := calp_some hF
        have hFc := b_free (ws := bw q aa Z) hD hS hA
        refine va_calll (va_runS (As := [.long u24, .long y30]) (rest := []) ⟨hx, hb, hml, hown, hts⟩ (c_X5_mix l dC dI q aa Z u24 y30  _ _  hC31) (va_cwS 2 hts gX5_mixParty_X5_mix rfl rfl rfl (by decide +kernel) ⟨Nat.le_of_ble_eq_true rfl, Nat.le_of_ble_eq_true rfl⟩) ⟨pr_blind, fun U hU hW => ⟨rfl, pr_mk hU hW hP hK hD⟩⟩ rfl rfl hl.1 rfl (lv_room (Nat.le_of_ble_eq_true rfl)) dX5_mixParty_25 ⟨Nat.le_of_ble_eq_true rfl, Nat.le_of_ble_eq_true rfl⟩) hS (fun x _ h => hFc x h) hFc (fun rr33 u t H1 locs ht hvm hw hB hz1 hk1 hS => ?_)
        obtain ⟨hP, hK1, hD1⟩ := hB
        rw [ht] at hP
        have hD := hD1.weaken (fun _ q9 _ h9 => hFc q9.1 h9)
        clear hFc hD1 hK1 hvm hz1 hk1
        generalize H1 = H at hP hS ⊢
        refine W.widen (k := 0) (n := 0) (Nat.le_refl _) (Nat.le_refl _) ?_
        obtain rfl : rr33 = r32 := hw
        refine lv_lstore (lv' := [(4, .long rr33), (6, .int u25), (0, .ref (aa 0)), (3, .int xb)]) hx hb dX5_mixParty_28 hl (by decide) rfl (fun ls hl => ?_)
        refine lv_iinc (k := 1) (v := (u25 + (1 : Int32))) (lv' := [(6, .int (u25 + (1 : Int32))), (4, .long rr33), (0, .ref (aa 0)), (3, .int xb)]) hx hb dX5_mixParty_30 hl rfl (ii_ _ _ _ (by decide)) (by decide) rfl (fun ls hl => ?_)
        refine lv_goto (tgt := 6) hx hb dX5_mixParty_33 (by decide) ?_
        exact IH6 rr33 (u25 + (1 : Int32)) _ _ _ hF hP hD hS (lv_sub hl [0, 1, 2, 3] rfl)
  exact L6 100 xa (0 : Int32) _ _ _ hF hP hD hS (lv_sub hl [0, 1, 2, 4] rfl)

noncomputable def F_X5_digest_x170 (Z15 : Mem) (w14 : Int64) : Option (Mem × Int64) :=
  some (Z15, w14)

noncomputable def F_X5_digest_l170 (K_170 : Mem → Int64 → Option (Mem × Int64)) : Nat → Mem → Int64 → Int32 → Option (Mem × Int64)
  | 0, _, _, _ => none
  | n170 + 1, Z18, u16, u17 =>
  br ((2 : Int32) < u17) (K_170 Z18 u16) (cal (F_X1_shareSeats Z18 (20 : Int32) u17) fun Z21 _ => calp (F_X1_leastRulers Z21 (20 : Int32)) fun rr25 => bv (Int32.toInt64 rr25) fun y26 => calp (F_X5_mix Z21 u16 y26) fun rr29 => (F_X5_digest_l170 K_170 n170) Z21 rr29 (u17 + (1 : Int32)))

noncomputable def F_X5_digest_x150 (Z13 : Mem) (w12 : Int64) : Option (Mem × Int64) :=
  F_X5_digest_l170 F_X5_digest_x170 100 Z13 w12 (0 : Int32)

noncomputable def F_X5_digest_l150 (K_150 : Mem → Int64 → Option (Mem × Int64)) : Nat → Mem → Int64 → Int32 → Option (Mem × Int64)
  | 0, _, _, _ => none
  | n150 + 1, Z32, u30, u31 =>
  br ((4 : Int32) ≤ u31) (K_150 Z32 u30) (cal (F_X5_mixParty Z32 u30 u31) fun Z36 rr37 => (F_X5_digest_l150 K_150 n150) Z36 rr37 (u31 + (1 : Int32)))

noncomputable def F_X5_digest_x98 (Z5 : Mem) (w4 : Int64) : Option (Mem × Int64) :=
  cal (F_X1_countVotes Z5 ) fun Z7 _ => cal (F_X1_countDistricts Z7 ) fun Z10 _ => F_X5_digest_l150 F_X5_digest_x150 100 Z10 w4 (0 : Int32)

noncomputable def F_X5_digest_l98 (K_98 : Mem → Int64 → Option (Mem × Int64)) : Nat → Mem → Int64 → Int32 → Option (Mem × Int64)
  | 0, _, _, _ => none
  | n98 + 1, Z40, u38, u39 =>
  bv (Z40.1 1 5) fun y41 => br (y41 ≤ u39) (K_98 Z40 u38) (cal (F_X5_mixDistrict Z40 u38 u39) fun Z45 rr46 => (F_X5_digest_l98 K_98 n98) Z45 rr46 (u39 + (1 : Int32)))

noncomputable def F_X5_digest_x65 (Z2 : Mem) (w3 : Int64) : Option (Mem × Int64) :=
  F_X5_digest_l98 F_X5_digest_x98 100 Z2 w3 (0 : Int32)

noncomputable def F_X5_digest_l65 (Z2 : Mem) (K_65 : Int64 → Option (Mem × Int64)) : Nat → Int64 → Int32 → Option (Mem × Int64)
  | 0, _, _ => none
  | n65 + 1, u47, u48 =>
  bv (Z2.1 1 7) fun y49 => br (y49 ≤ u48) (K_65 u47) (gd (¬ (u48 < 0 ∨ 24 ≤ ix u48)) <| calp (F_X5_mixStack Z2 u47 (ix u48)) fun rr55 => (F_X5_digest_l65 Z2 K_65 n65) rr55 (u48 + (1 : Int32)))

noncomputable def F_X5_digest_x34 (w1 : Int64) (Z2 : Mem) : Option (Mem × Int64) :=
  F_X5_digest_l65 Z2 (F_X5_digest_x65 Z2) 100 w1 (0 : Int32)

noncomputable def F_X5_digest_l34 (K_34 : Mem → Option (Mem × Int64)) : Nat → Mem → Int32 → Option (Mem × Int64)
  | 0, _, _ => none
  | n34 + 1, Z57, u56 =>
  bv (Z57.1 1 5) fun y58 => br (y58 ≤ u56) (K_34 Z57) (cal (F_X4_fillSeats Z57 u56) fun Z61 _ => (F_X5_digest_l34 K_34 n34) Z61 (u56 + (1 : Int32)))

noncomputable def F_X5_digest_x6 (Z : Mem) (w1 : Int64) : Option (Mem × Int64) :=
  F_X5_digest_l34 (F_X5_digest_x34 w1) 100 Z (0 : Int32)

noncomputable def F_X5_digest_l6 (Z : Mem) (K_6 : Int64 → Option (Mem × Int64)) : Nat → Int64 → Int32 → Option (Mem × Int64)
  | 0, _, _ => none
  | n6 + 1, u63, u64 =>
  br ((9 : Int32) < u64) (K_6 u63) (calp (F_X0_figure Z u64) fun rr68 => bv (Int32.toInt64 rr68) fun y69 => calp (F_X5_mix Z u63 y69) fun rr72 => (F_X5_digest_l6 Z K_6 n6) rr72 (u64 + (1 : Int32)))

noncomputable def F_X5_digest (Z : Mem) : Option (Mem × Int64) :=
  F_X5_digest_l6 Z (F_X5_digest_x6 Z) 100 (58308 : Int64) (0 : Int32)

set_option maxHeartbeats 4000000 in
set_option maxRecDepth 100000 in
theorem c_X5_digest (l : Launch) (dC : Nat → ClassId) (dI : Nat → Nat → Nat) (q : Nat → ClassId) (aa : Nat → Nat) (Z : Mem)   (sz : Nat) (Zo : Mem) (ro : Int64) (hF : F_X5_digest Z  = some (Zo, ro)) : Met l yX5_digest wsX5_digest ({ frames := 8, cells := 0, slots := 0, locals := 187 }) (va_Pc [.ref (aa 0)] (pr_ dC dI (bw q aa Z) (bty q) sz)) (va_Ql (fun (r : Int64) (_ : Unit) => r = ro) (fun (_ : Unit) t => po_ dC dI (bw q aa Zo) (bty q) (va_A (bw q aa Z) sz) t) (va_A (bw q aa Z) sz)) 0 0 (va_A (bw q aa Z) sz) := by
  refine Met.ofW (cc := cX5_digest) (maxL := 4) (ret := (some .long)) (by decide) rfl ?_
  intro p e s m args below meth c s₁ B hml hv
  obtain ⟨hargs, hsz, hP, hK, hD0⟩ := hv
  have hx := B.exec
  have hb := B.bytes
  have hr := B.returns
  have hts := atoms_spec (ws := wsX5_digest) B.pre
  have hown : s.vm.findClass RX5 = some m.cls := findClass_of_methodNamed B.named
  have hlocks := B.notSynchronized
  subst hsz
  have hD := hD0.self (sz := s.heap.size)
  generalize hAe : va_A (bw q aa Z) s.heap.size = A at hD ⊢
  have hA : ∀ x : Nat, s.heap.size ≤ x → A x := fun x h => by rw [← hAe]; exact Or.inr h
  have hS : va_S A s.heap s.heap [] := va_S.rf
  have hinX0 : ∀ w ∈ u_ws RX0 TX0 11, w ∈ wsX5_digest := by decide +kernel
  have hinX5 : ∀ w ∈ u_ws RX5 TX5 5, w ∈ wsX5_digest := by decide +kernel
  have hl := lv_entry ([.ref (aa 0)]) (n := 4) (Nat.le_of_ble_eq_true rfl)
  refine w_ent hargs ?_
  rw [lg_entry_eq]
  generalize (lg_sl ([.ref (aa 0)]) ++ List.replicate (4 - (lg_sl ([.ref (aa 0)])).length) Slot.unset).toArray = ls at hl ⊢
  have hl : lv_has ls 4 [(0, .ref (aa 0))] := hl
  unfold F_X5_digest at hF
  refine w_go (fun Q hQ => ?_)
  refine lv_ldc2 (v := 58308) hx hb hown (hts (.constantLong RX5 268 58308) (by decide +kernel)) dX5_digest_0 ?_
  refine lv_lstore_n (lv' := [(1, .long 58308), (0, .ref (aa 0))]) hx hb dX5_digest_3 rfl hl (by decide) rfl (fun ls hl => ?_)
  refine lv_iconst (v := 0) hx hb dX5_digest_4 (by decide) ?_
  refine lv_istore_n (lv' := [(3, .int 0), (1, .long 58308), (0, .ref (aa 0))]) hx hb dX5_digest_5 rfl hl (by decide) rfl (fun ls hl => ?_)
  have Jx6 : ∀ (w1 : Int64) (H : Heap) (locs : List Loc) (ls : Array Slot), (F_X5_digest_x6 Z) w1 = some (Zo, ro) → va_P (dC, dI) vwCl (bw q aa Z) H → va_D A (bw q aa Z) → va_S A s.heap H locs → lv_has ls 4 [(1, .long w1), (0, .ref (aa 0))] → W p l e (headSpec wsX5_digest ({ frames := 8, cells := 0, slots := 0, locals := 187 } : Room)).room s m args below meth c H locs 0 0 Q (F0 m 32 ls []) := by
    intro w1 H locs ls hF hP hD hS hl
    unfold F_X5_digest_x6 at hF
    refine lv_iconst (v := 0) hx hb dX5_digest_32 (by decide) ?_
    refine lv_istore_n (lv' := [(3, .int 0), (1, .long w1), (0, .ref (aa 0))]) hx hb dX5_digest_33 rfl hl (by decide) rfl (fun ls hl => ?_)
    have Jx34 : ∀ (Z2 : Mem) (H : Heap) (locs : List Loc) (ls : Array Slot), (F_X5_digest_x34 w1) Z2 = some (Zo, ro) → va_P (dC, dI) vwCl (bw q aa Z2) H → va_D A (bw q aa Z2) → va_S A s.heap H locs → lv_has ls 4 [(1, .long w1), (0, .ref (aa 0))] → W p l e (headSpec wsX5_digest ({ frames := 8, cells := 0, slots := 0, locals := 187 } : Room)).room s m args below meth c H locs 0 0 Q (F0 m 63 ls []) := by
      intro Z2 H locs ls hF hP hD hS hl
      unfold F_X5_digest_x34 at hF
      refine lv_iconst (v := 0) hx hb dX5_digest_63 (by decide) ?_
      refine lv_istore_n (lv' := [(3, .int 0), (1, .long w1), (0, .ref (aa 0))]) hx hb dX5_digest_64 rfl hl (by decide) rfl (fun ls hl => ?_)
      have Jx65 : ∀ (w3 : Int64) (H : Heap) (locs : List Loc) (ls : Array Slot), (F_X5_digest_x65 Z2) w3 = some (Zo, ro) → va_P (dC, dI) vwCl (bw q aa Z2) H → va_D A (bw q aa Z2) → va_S A s.heap H locs → lv_has ls 4 [(1, .long w3), (0, .ref (aa 0))] → W p l e (headSpec wsX5_digest ({ frames := 8, cells := 0, slots := 0, locals := 187 } : Room)).room s m args below meth c H locs 0 0 Q (F0 m 96 ls []) := by
        intro w3 H locs ls hF hP hD hS hl
        unfold F_X5_digest_x65 at hF
        refine lv_iconst (v := 0) hx hb dX5_digest_96 (by decide) ?_
        refine lv_istore_n (lv' := [(3, .int 0), (1, .long w3), (0, .ref (aa 0))]) hx hb dX5_digest_97 rfl hl (by decide) rfl (fun ls hl => ?_)
        have Jx98 : ∀ (Z5 : Mem) (w4 : Int64) (H : Heap) (locs : List Loc) (ls : Array Slot), F_X5_digest_x98 Z5 w4 = some (Zo, ro) → va_P (dC, dI) vwCl (bw q aa Z5) H → va_D A (bw q aa Z5) → va_S A s.heap H locs → lv_has ls 4 [(1, .long w4), (0, .ref (aa 0))] → W p l e (headSpec wsX5_digest ({ frames := 8, cells := 0, slots := 0, locals := 187 } : Room)).room s m args below meth c H locs 0 0 Q (F0 m 122 ls []) := by
          intro Z5 w4 H locs ls hF hP hD hS hl
          unfold F_X5_digest_x98 at hF
          refine lv_aload_n hx hb dX5_digest_122 rfl (lv_at hl 1 rfl) ?_
          refine va_get (D := (dC, dI)) (ci := 7) (v := .ref (aa 30)) (C := RX5) (T := TX5) (N := 5) hx hb hts hinX5 hown hK hP 0 (bw_at (i := 0) (by decide) rfl) rfl 3 (by decide) (hts (.fieldLink RX5 33 "BallotLoom" "parties" "LBallotLoom$Parties;") (by decide +kernel)) (fun _ h9 => h9) rfl dX5_digest_123 ?_
          refine lv_aload_n hx hb dX5_digest_126 rfl (lv_at hl 1 rfl) ?_
          refine va_get (D := (dC, dI)) (ci := 7) (v := .ref (aa 1)) (C := RX5) (T := TX5) (N := 5) hx hb hts hinX5 hown hK hP 0 (bw_at (i := 0) (by decide) rfl) rfl 0 (by decide) (hts (.fieldLink RX5 10 "BallotLoom" "box" "LBallotLoom$Box;") (by decide +kernel)) (fun _ h9 => h9) rfl dX5_digest_127 ?_
          obtain ⟨Z7, _, hC6, hF⟩ := cal_some hF
          have hFc := b_free (ws := bw q aa Z5) hD hS hA
          refine va_callv (va_runV (As := [.ref (aa 1)]) (rest := []) ⟨hx, hb, hml, hown, hts⟩ (c_X1_countVotes l dC dI q aa Z5   _ _ _  hC6) (cwV 1 hts gX5_digest_X1_countVotes rfl rfl rfl (by decide +kernel) ⟨Nat.le_of_ble_eq_true rfl, Nat.le_of_ble_eq_true rfl⟩) ⟨pr_blind, va_recv hK hP (ci := 3) (q0 := 30) rfl (bw_at (i := 30) (by decide) rfl), fun U hU hW => ⟨rfl, pr_mk hU hW hP hK hD⟩⟩ rfl rfl hl.1 rfl (lv_room (Nat.le_of_ble_eq_true rfl)) dX5_digest_130 ⟨Nat.le_of_ble_eq_true rfl, Nat.le_of_ble_eq_true rfl⟩) hS (fun x _ h => hFc x h) hFc (fun u t H1 locs ht hvm hw hB hz1 hk1 hS => ?_)
          obtain ⟨hP, hK1, hD1⟩ := hB
          rw [ht] at hP
          have hD := hD1.weaken (fun _ q9 _ h9 => hFc q9.1 h9)
          clear hFc hD1 hK1 hvm hz1 hk1
          generalize H1 = H at hP hS ⊢
          refine W.widen (k := 0) (n := 0) (Nat.le_refl _) (Nat.le_refl _) ?_
          refine lv_aload_n hx hb dX5_digest_133 rfl (lv_at hl 1 rfl) ?_
          refine va_get (D := (dC, dI)) (ci := 7) (v := .ref (aa 30)) (C := RX5) (T := TX5) (N := 5) hx hb hts hinX5 hown hK hP 0 (bw_at (i := 0) (by decide) rfl) rfl 3 (by decide) (hts (.fieldLink RX5 33 "BallotLoom" "parties" "LBallotLoom$Parties;") (by decide +kernel)) (fun _ h9 => h9) rfl dX5_digest_134 ?_
          refine lv_aload_n hx hb dX5_digest_137 rfl (lv_at hl 1 rfl) ?_
          refine va_get (D := (dC, dI)) (ci := 7) (v := .ref (aa 1)) (C := RX5) (T := TX5) (N := 5) hx hb hts hinX5 hown hK hP 0 (bw_at (i := 0) (by decide) rfl) rfl 0 (by decide) (hts (.fieldLink RX5 10 "BallotLoom" "box" "LBallotLoom$Box;") (by decide +kernel)) (fun _ h9 => h9) rfl dX5_digest_138 ?_
          refine lv_aload_n hx hb dX5_digest_141 rfl (lv_at hl 1 rfl) ?_
          refine va_get (D := (dC, dI)) (ci := 7) (v := .ref (aa 6)) (C := RX5) (T := TX5) (N := 5) hx hb hts hinX5 hown hK hP 0 (bw_at (i := 0) (by decide) rfl) rfl 1 (by decide) (hts (.fieldLink RX5 19 "BallotLoom" "poll" "LBallotLoom$Poll;") (by decide +kernel)) (fun _ h9 => h9) rfl dX5_digest_142 ?_
          obtain ⟨Z10, _, hC9, hF⟩ := cal_some hF
          have hFc := b_free (ws := bw q aa Z7) hD hS hA
          refine va_callv (va_runV (As := [.ref (aa 1), .ref (aa 6)]) (rest := []) ⟨hx, hb, hml, hown, hts⟩ (c_X1_countDistricts l dC dI q aa Z7   _ _ _  hC9) (cwV 2 hts gX5_digest_X1_countDistricts rfl rfl rfl (by decide +kernel) ⟨Nat.le_of_ble_eq_true rfl, Nat.le_of_ble_eq_true rfl⟩) ⟨pr_blind, va_recv hK hP (ci := 3) (q0 := 30) rfl (bw_at (i := 30) (by decide) rfl), fun U hU hW => ⟨rfl, pr_mk hU hW hP hK hD⟩⟩ rfl rfl hl.1 rfl (lv_room (Nat.le_of_ble_eq_true rfl)) dX5_digest_145 ⟨Nat.le_of_ble_eq_true rfl, Nat.le_of_ble_eq_true rfl⟩) hS (fun x _ h => hFc x h) hFc (fun u t H1 locs ht hvm hw hB hz1 hk1 hS => ?_)
          obtain ⟨hP, hK1, hD1⟩ := hB
          rw [ht] at hP
          have hD := hD1.weaken (fun _ q9 _ h9 => hFc q9.1 h9)
          clear hFc hD1 hK1 hvm hz1 hk1
          generalize H1 = H at hP hS ⊢
          refine W.widen (k := 0) (n := 0) (Nat.le_refl _) (Nat.le_refl _) ?_
          refine lv_iconst (v := 0) hx hb dX5_digest_148 (by decide) ?_
          refine lv_istore_n (lv' := [(3, .int 0), (1, .long w4), (0, .ref (aa 0))]) hx hb dX5_digest_149 rfl hl (by decide) rfl (fun ls hl => ?_)
          have Jx150 : ∀ (Z13 : Mem) (w12 : Int64) (H : Heap) (locs : List Loc) (ls : Array Slot), F_X5_digest_x150 Z13 w12 = some (Zo, ro) → va_P (dC, dI) vwCl (bw q aa Z13) H → va_D A (bw q aa Z13) → va_S A s.heap H locs → lv_has ls 4 [(1, .long w12), (0, .ref (aa 0))] → W p l e (headSpec wsX5_digest ({ frames := 8, cells := 0, slots := 0, locals := 187 } : Room)).room s m args below meth c H locs 0 0 Q (F0 m 168 ls []) := by
            intro Z13 w12 H locs ls hF hP hD hS hl
            unfold F_X5_digest_x150 at hF
            refine lv_iconst (v := 0) hx hb dX5_digest_168 (by decide) ?_
            refine lv_istore_n (lv' := [(3, .int 0), (1, .long w12), (0, .ref (aa 0))]) hx hb dX5_digest_169 rfl hl (by decide) rfl (fun ls hl => ?_)
            have Jx170 : ∀ (Z15 : Mem) (w14 : Int64) (H : Heap) (locs : List Loc) (ls : Array Slot), F_X5_digest_x170 Z15 w14 = some (Zo, ro) → va_P (dC, dI) vwCl (bw q aa Z15) H → va_D A (bw q aa Z15) → va_S A s.heap H locs → lv_has ls 4 [(1, .long w14)] → W p l e (headSpec wsX5_digest ({ frames := 8, cells := 0, slots := 0, locals := 187 } : Room)).room s m args below meth c H locs 0 0 Q (F0 m 206 ls []) := by
              intro Z15 w14 H locs ls hF hP hD hS hl
              unfold F_X5_digest_x170 at hF
              refine lv_lload_n hx hb dX5_digest_206 rfl (lv_at hl 0 rfl) ?_
              obtain ⟨e8, e9⟩ := some2 hF
              rw [← e8] at hP hD
              subst hQ
              exact W.lret (v := w14) hx hb hr (fun t ht hW => ⟨⟨w14, (), rfl, e9.symm, po_mk ht hW hP hK hD⟩, hS.F ht⟩) hS.2.2 dX5_digest_207
            have L170 : ∀ (n170 : Nat) (Z18 : Mem) (u16 : Int64) (u17 : Int32) (H : Heap) (locs : List Loc) (ls : Array Slot), F_X5_digest_l170 F_X5_digest_x170 n170 Z18 u16 u17 = some (Zo, ro) → va_P (dC, dI) vwCl (bw q aa Z18) H → va_D A (bw q aa Z18) → va_S A s.heap H locs → lv_has ls 4 [(3, .int u17), (1, .long u16), (0, .ref (aa 0))] → W p l e (headSpec wsX5_digest ({ frames := 8, cells := 0, slots := 0, locals := 187 } : Room)).room s m args below meth c H locs 0 0 Q (F0 m 170 ls []) := by
              intro n170
              induction n170 with
              | zero =>
                intro Z18 u16 u17 H locs ls hF
                rw [F_X5_digest_l170] at hF
                cases hF
              | succ n170 IH170 =>
                intro Z18 u16 u17 H locs ls hF hP hD hS hl
                rw [F_X5_digest_l170] at hF
                refine lv_iload_n hx hb dX5_digest_170 rfl (lv_at hl 0 rfl) ?_
                refine lv_iconst (v := 2) hx hb dX5_digest_171 (by decide) ?_
                refine lv_icmp_gt (tgt := 206) hx hb dX5_digest_172 (by decide) (fun hc19 => ?_) (fun hc19 => ?_)
                · have hF := br_pos hc19 hF
                  exact Jx170 Z18 u16 _ _ _ hF hP hD hS (lv_sub hl [1] rfl)
                · have hF := br_neg hc19 hF
                  refine lv_aload_n hx hb dX5_digest_175 rfl (lv_at hl 2 rfl) ?_
                  refine va_get (D := (dC, dI)) (ci := 7) (v := .ref (aa 30)) (C := RX5) (T := TX5) (N := 5) hx hb hts hinX5 hown hK hP 0 (bw_at (i := 0) (by decide) rfl) rfl 3 (by decide) (hts (.fieldLink RX5 33 "BallotLoom" "parties" "LBallotLoom$Parties;") (by decide +kernel)) (fun _ h9 => h9) rfl dX5_digest_176 ?_
                  refine lv_bipush (v := 20) hx hb dX5_digest_179 (by decide) ?_
                  refine lv_iload_n hx hb dX5_digest_181 rfl (lv_at hl 0 rfl) ?_
                  obtain ⟨Z21, _, hC20, hF⟩ := cal_some hF
                  have hFc := b_free (ws := bw q aa Z18) hD hS hA
                  refine va_callv (va_runV (As := [.int 20, .int u17]) (rest := []) ⟨hx, hb, hml, hown, hts⟩ (c_X1_shareSeats l dC dI q aa Z18 (20 : Int32) u17  _ _ _  hC20) (cwV 2 hts gX5_digest_X1_shareSeats rfl rfl rfl (by decide +kernel) ⟨Nat.le_of_ble_eq_true rfl, Nat.le_of_ble_eq_true rfl⟩) ⟨pr_blind, va_recv hK hP (ci := 3) (q0 := 30) rfl (bw_at (i := 30) (by decide) rfl), fun U hU hW => ⟨rfl, pr_mk hU hW hP hK hD⟩⟩ rfl rfl hl.1 rfl (lv_room (Nat.le_of_ble_eq_true rfl)) dX5_digest_182 ⟨Nat.le_of_ble_eq_true rfl, Nat.le_of_ble_eq_true rfl⟩) hS (fun x _ h => hFc x h) hFc (fun u t H1 locs ht hvm hw hB hz1 hk1 hS => ?_)
                  obtain ⟨hP, hK1, hD1⟩ := hB
                  rw [ht] at hP
                  have hD := hD1.weaken (fun _ q9 _ h9 => hFc q9.1 h9)
                  clear hFc hD1 hK1 hvm hz1 hk1
                  generalize H1 = H at hP hS ⊢
                  refine W.widen (k := 0) (n := 0) (Nat.le_refl _) (Nat.le_refl _) ?_
                  refine lv_lload_n hx hb dX5_digest_185 rfl (lv_at hl 1 rfl) ?_
                  refine lv_aload_n hx hb dX5_digest_186 rfl (lv_at hl 2 rfl) ?_
                  refine va_get (D := (dC, dI)) (ci := 7) (v := .ref (aa 30)) (C := RX5) (T := TX5) (N := 5) hx hb hts hinX5 hown hK hP 0 (bw_at (i := 0) (by decide) rfl) rfl 3 (by decide) (hts (.fieldLink RX5 33 "BallotLoom" "parties" "LBallotLoom$Parties;") (by decide +kernel)) (fun _ h9 => h9) rfl dX5_digest_187 ?_
                  refine lv_bipush (v := 20) hx hb dX5_digest_190 (by decide) ?_
                  obtain ⟨r24, hC23, hF⟩ := calp_some hF
                  have hFc := b_free (ws := bw q aa Z21) hD hS hA
                  refine va_calli (va_runV (As := [.int 20]) (rest := [.long u16]) ⟨hx, hb, hml, hown, hts⟩ (c_X1_leastRulers l dC dI q aa Z21 (20 : Int32)  _ _  hC23) (cwV 1 hts gX5_digest_X1_leastRulers rfl rfl rfl (by decide +kernel) ⟨Nat.le_of_ble_eq_true rfl, Nat.le_of_ble_eq_true rfl⟩) ⟨pr_blind, va_recv hK hP (ci := 3) (q0 := 30) rfl (bw_at (i := 30) (by decide) rfl), fun U hU hW => ⟨rfl, pr_mk hU hW hP hK hD⟩⟩ rfl rfl hl.1 rfl (lv_room (Nat.le_of_ble_eq_true rfl)) dX5_digest_192 ⟨Nat.le_of_ble_eq_true rfl, Nat.le_of_ble_eq_true rfl⟩) hS (fun x _ h => hFc x h) hFc (fun rr25 u t H1 locs ht hvm hw hB hz1 hk1 hS => ?_)
                  obtain ⟨hP, hK1, hD1⟩ := hB
                  rw [ht] at hP
                  have hD := hD1.weaken (fun _ q9 _ h9 => hFc q9.1 h9)
                  clear hFc hD1 hK1 hvm hz1 hk1
                  generalize H1 = H at hP hS ⊢
                  refine W.widen (k := 0) (n := 0) (Nat.le_refl _) (Nat.le_refl _) ?_
                  obtain rfl : rr25 = r24 := hw
                  refine lv_i2l hx hb dX5_digest_195 rfl ?_
                  refine lv_topl (fun y26 ey26 => ?_)
                  have hF := bv_at ey26 hF
                  obtain ⟨r28, hC27, hF⟩ := calp_some hF
                  have hFc := b_free (ws := bw q aa Z21) hD hS hA
                  refine va_calll (va_runS (As := [.long u16, .long y26]) (rest := []) ⟨hx, hb, hml, hown, hts⟩ (c_X5_mix l dC dI q aa Z21 u16 y26  _ _  hC27) (va_cwS 2 hts gX5_digest_X5_mix rfl rfl rfl (by decide +kernel) ⟨Nat.le_of_ble_eq_true rfl, Nat.le_of_ble_eq_true rfl⟩) ⟨pr_blind, fun U hU hW => ⟨rfl, pr_mk hU hW hP hK hD⟩⟩ rfl rfl hl.1 rfl (lv_room (Nat.le_of_ble_eq_true rfl)) dX5_digest_196 ⟨Nat.le_of_ble_eq_true rfl, Nat.le_of_ble_eq_true rfl⟩) hS (fun x _ h => hFc x h) hFc (fun rr29 u t H1 locs ht hvm hw hB hz1 hk1 hS => ?_)
                  obtain ⟨hP, hK1, hD1⟩ := hB
                  rw [ht] at hP
                  have hD := hD1.weaken (fun _ q9 _ h9 => hFc q9.1 h9)
                  clear hFc hD1 hK1 hvm hz1 hk1
                  generalize H1 = H at hP hS ⊢
                  refine W.widen (k := 0) (n := 0) (Nat.le_refl _) (Nat.le_refl _) ?_
                  obtain rfl : rr29 = r28 := hw
                  refine lv_lstore_n (lv' := [(1, .long rr29), (3, .int u17), (0, .ref (aa 0))]) hx hb dX5_digest_199 rfl hl (by decide) rfl (fun ls hl => ?_)
                  refine lv_iinc (k := 1) (v := (u17 + (1 : Int32))) (lv' := [(3, .int (u17 + (1 : Int32))), (1, .long rr29), (0, .ref (aa 0))]) hx hb dX5_digest_200 hl rfl (ii_ _ _ _ (by decide)) (by decide) rfl (fun ls hl => ?_)
                  refine lv_goto (tgt := 170) hx hb dX5_digest_203 (by decide) ?_
                  exact IH170 Z21 rr29 (u17 + (1 : Int32)) _ _ _ hF hP hD hS (lv_sub hl [0, 1, 2] rfl)
            exact L170 100 Z13 w12 (0 : Int32) _ _ _ hF hP hD hS (lv_sub hl [0, 1, 2] rfl)
          have L150 : ∀ (n150 : Nat) (Z32 : Mem) (u30 : Int64) (u31 : Int32) (H : Heap) (locs : List Loc) (ls : Array Slot), F_X5_digest_l150 F_X5_digest_x150 n150 Z32 u30 u31 = some (Zo, ro) → va_P (dC, dI) vwCl (bw q aa Z32) H → va_D A (bw q aa Z32) → va_S A s.heap H locs → lv_has ls 4 [(3, .int u31), (1, .long u30), (0, .ref (aa 0))] → W p l e (headSpec wsX5_digest ({ frames := 8, cells := 0, slots := 0, locals := 187 } : Room)).room s m args below meth c H locs 0 0 Q (F0 m 150 ls []) := by
            intro n150
            induction n150 with
            | zero =>
              intro Z32 u30 u31 H locs ls hF
              rw [F_X5_digest_l150] at hF
              cases hF
            | succ n150 IH150 =>
              intro Z32 u30 u31 H locs ls hF hP hD hS hl
              rw [F_X5_digest_l150] at hF
              refine lv_iload_n hx hb dX5_digest_150 rfl (lv_at hl 0 rfl) ?_
              refine lv_iconst (v := 4) hx hb dX5_digest_151 (by decide) ?_
              refine lv_icmp_ge (tgt := 168) hx hb dX5_digest_152 (by decide) (fun hc33 => ?_) (fun hc33 => ?_)
              · have hF := br_pos hc33 hF
                exact Jx150 Z32 u30 _ _ _ hF hP hD hS (lv_sub hl [1, 2] rfl)
              · have hF := br_neg hc33 hF
                refine lv_aload_n hx hb dX5_digest_155 rfl (lv_at hl 2 rfl) ?_
                refine lv_lload_n hx hb dX5_digest_156 rfl (lv_at hl 1 rfl) ?_
                refine lv_iload_n hx hb dX5_digest_157 rfl (lv_at hl 0 rfl) ?_
                obtain ⟨Z36, r35, hC34, hF⟩ := cal_some hF
                have hFc := b_free (ws := bw q aa Z32) hD hS hA
                refine va_calll (va_runV (As := [.long u30, .int u31]) (rest := []) ⟨hx, hb, hml, hown, hts⟩ (c_X5_mixParty l dC dI q aa Z32 u30 u31  _ _ _  hC34) (cwV 2 hts gX5_digest_X5_mixParty rfl rfl rfl (by decide +kernel) ⟨Nat.le_of_ble_eq_true rfl, Nat.le_of_ble_eq_true rfl⟩) ⟨pr_blind, va_recv hK hP (ci := 7) (q0 := 0) rfl (bw_at (i := 0) (by decide) rfl), fun U hU hW => ⟨rfl, pr_mk hU hW hP hK hD⟩⟩ rfl rfl hl.1 rfl (lv_room (Nat.le_of_ble_eq_true rfl)) dX5_digest_158 ⟨Nat.le_of_ble_eq_true rfl, Nat.le_of_ble_eq_true rfl⟩) hS (fun x _ h => hFc x h) hFc (fun rr37 u t H1 locs ht hvm hw hB hz1 hk1 hS => ?_)
                obtain ⟨hP, hK1, hD1⟩ := hB
                rw [ht] at hP
                have hD := hD1.weaken (fun _ q9 _ h9 => hFc q9.1 h9)
                clear hFc hD1 hK1 hvm hz1 hk1
                generalize H1 = H at hP hS ⊢
                refine W.widen (k := 0) (n := 0) (Nat.le_refl _) (Nat.le_refl _) ?_
                obtain rfl : rr37 = r35 := hw
                refine lv_lstore_n (lv' := [(1, .long rr37), (3, .int u31), (0, .ref (aa 0))]) hx hb dX5_digest_161 rfl hl (by decide) rfl (fun ls hl => ?_)
                refine lv_iinc (k := 1) (v := (u31 + (1 : Int32))) (lv' := [(3, .int (u31 + (1 : Int32))), (1, .long rr37), (0, .ref (aa 0))]) hx hb dX5_digest_162 hl rfl (ii_ _ _ _ (by decide)) (by decide) rfl (fun ls hl => ?_)
                refine lv_goto (tgt := 150) hx hb dX5_digest_165 (by decide) ?_
                exact IH150 Z36 rr37 (u31 + (1 : Int32)) _ _ _ hF hP hD hS (lv_sub hl [0, 1, 2] rfl)
          exact L150 100 Z10 w4 (0 : Int32) _ _ _ hF hP hD hS (lv_sub hl [0, 1, 2] rfl)
        have L98 : ∀ (n98 : Nat) (Z40 : Mem) (u38 : Int64) (u39 : Int32) (H : Heap) (locs : List Loc) (ls : Array Slot), F_X5_digest_l98 F_X5_digest_x98 n98 Z40 u38 u39 = some (Zo, ro) → va_P (dC, dI) vwCl (bw q aa Z40) H → va_D A (bw q aa Z40) → va_S A s.heap H locs → lv_has ls 4 [(3, .int u39), (1, .long u38), (0, .ref (aa 0))] → W p l e (headSpec wsX5_digest ({ frames := 8, cells := 0, slots := 0, locals := 187 } : Room)).room s m args below meth c H locs 0 0 Q (F0 m 98 ls []) := by
          intro n98
          induction n98 with
          | zero =>
            intro Z40 u38 u39 H locs ls hF
            rw [F_X5_digest_l98] at hF
            cases hF
          | succ n98 IH98 =>
            intro Z40 u38 u39 H locs ls hF hP hD hS hl
            rw [F_X5_digest_l98] at hF
            refine lv_iload_n hx hb dX5_digest_98 rfl (lv_at hl 0 rfl) ?_
            refine lv_aload_n hx hb dX5_digest_99 rfl (lv_at hl 2 rfl) ?_
            refine va_get (D := (dC, dI)) (ci := 7) (v := .ref (aa 1)) (C := RX5) (T := TX5) (N := 5) hx hb hts hinX5 hown hK hP 0 (bw_at (i := 0) (by decide) rfl) rfl 0 (by decide) (hts (.fieldLink RX5 10 "BallotLoom" "box" "LBallotLoom$Box;") (by decide +kernel)) (fun _ h9 => h9) rfl dX5_digest_100 ?_
            refine va_get (D := (dC, dI)) (ci := 2) (v := .int (Z40.1 1 5)) (C := RX0) (T := TX0) (N := 11) hx hb hts hinX0 hown hK hP 1 (bw_at (i := 1) (by decide) rfl) rfl 5 (by decide) (hts (.fieldLink RX5 86 "BallotLoom$Box" "districts" "I") (by decide +kernel)) (fun _ h9 => h9) rfl dX5_digest_103 ?_
            refine lv_topi (fun y41 ey41 => ?_)
            have hF := bv_at ey41 hF
            refine lv_icmp_ge (tgt := 122) hx hb dX5_digest_106 (by decide) (fun hc42 => ?_) (fun hc42 => ?_)
            · have hF := br_pos hc42 hF
              exact Jx98 Z40 u38 _ _ _ hF hP hD hS (lv_sub hl [1, 2] rfl)
            · have hF := br_neg hc42 hF
              refine lv_aload_n hx hb dX5_digest_109 rfl (lv_at hl 2 rfl) ?_
              refine lv_lload_n hx hb dX5_digest_110 rfl (lv_at hl 1 rfl) ?_
              refine lv_iload_n hx hb dX5_digest_111 rfl (lv_at hl 0 rfl) ?_
              obtain ⟨Z45, r44, hC43, hF⟩ := cal_some hF
              have hFc := b_free (ws := bw q aa Z40) hD hS hA
              refine va_calll (va_runV (As := [.long u38, .int u39]) (rest := []) ⟨hx, hb, hml, hown, hts⟩ (c_X5_mixDistrict l dC dI q aa Z40 u38 u39  _ _ _  hC43) (cwV 2 hts gX5_digest_X5_mixDistrict rfl rfl rfl (by decide +kernel) ⟨Nat.le_of_ble_eq_true rfl, Nat.le_of_ble_eq_true rfl⟩) ⟨pr_blind, va_recv hK hP (ci := 7) (q0 := 0) rfl (bw_at (i := 0) (by decide) rfl), fun U hU hW => ⟨rfl, pr_mk hU hW hP hK hD⟩⟩ rfl rfl hl.1 rfl (lv_room (Nat.le_of_ble_eq_true rfl)) dX5_digest_112 ⟨Nat.le_of_ble_eq_true rfl, Nat.le_of_ble_eq_true rfl⟩) hS (fun x _ h => hFc x h) hFc (fun rr46 u t H1 locs ht hvm hw hB hz1 hk1 hS => ?_)
              obtain ⟨hP, hK1, hD1⟩ := hB
              rw [ht] at hP
              have hD := hD1.weaken (fun _ q9 _ h9 => hFc q9.1 h9)
              clear hFc hD1 hK1 hvm hz1 hk1
              generalize H1 = H at hP hS ⊢
              refine W.widen (k := 0) (n := 0) (Nat.le_refl _) (Nat.le_refl _) ?_
              obtain rfl : rr46 = r44 := hw
              refine lv_lstore_n (lv' := [(1, .long rr46), (3, .int u39), (0, .ref (aa 0))]) hx hb dX5_digest_115 rfl hl (by decide) rfl (fun ls hl => ?_)
              refine lv_iinc (k := 1) (v := (u39 + (1 : Int32))) (lv' := [(3, .int (u39 + (1 : Int32))), (1, .long rr46), (0, .ref (aa 0))]) hx hb dX5_digest_116 hl rfl (ii_ _ _ _ (by decide)) (by decide) rfl (fun ls hl => ?_)
              refine lv_goto (tgt := 98) hx hb dX5_digest_119 (by decide) ?_
              exact IH98 Z45 rr46 (u39 + (1 : Int32)) _ _ _ hF hP hD hS (lv_sub hl [0, 1, 2] rfl)
        exact L98 100 Z2 w3 (0 : Int32) _ _ _ hF hP hD hS (lv_sub hl [0, 1, 2] rfl)
      have L65 : ∀ (n65 : Nat) (u47 : Int64) (u48 : Int32) (H : Heap) (locs : List Loc) (ls : Array Slot), F_X5_digest_l65 Z2 (F_X5_digest_x65 Z2) n65 u47 u48 = some (Zo, ro) → va_P (dC, dI) vwCl (bw q aa Z2) H → va_D A (bw q aa Z2) → va_S A s.heap H locs → lv_has ls 4 [(3, .int u48), (1, .long u47), (0, .ref (aa 0))] → W p l e (headSpec wsX5_digest ({ frames := 8, cells := 0, slots := 0, locals := 187 } : Room)).room s m args below meth c H locs 0 0 Q (F0 m 65 ls []) := by
        intro n65
        induction n65 with
        | zero =>
          intro u47 u48 H locs ls hF
          rw [F_X5_digest_l65] at hF
          cases hF
        | succ n65 IH65 =>
          intro u47 u48 H locs ls hF hP hD hS hl
          rw [F_X5_digest_l65] at hF
          refine lv_iload_n hx hb dX5_digest_65 rfl (lv_at hl 0 rfl) ?_
          refine lv_aload_n hx hb dX5_digest_66 rfl (lv_at hl 2 rfl) ?_
          refine va_get (D := (dC, dI)) (ci := 7) (v := .ref (aa 1)) (C := RX5) (T := TX5) (N := 5) hx hb hts hinX5 hown hK hP 0 (bw_at (i := 0) (by decide) rfl) rfl 0 (by decide) (hts (.fieldLink RX5 10 "BallotLoom" "box" "LBallotLoom$Box;") (by decide +kernel)) (fun _ h9 => h9) rfl dX5_digest_67 ?_
          refine va_get (D := (dC, dI)) (ci := 2) (v := .int (Z2.1 1 7)) (C := RX0) (T := TX0) (N := 11) hx hb hts hinX0 hown hK hP 1 (bw_at (i := 1) (by decide) rfl) rfl 7 (by decide) (hts (.fieldLink RX5 106 "BallotLoom$Box" "cast" "I") (by decide +kernel)) (fun _ h9 => h9) rfl dX5_digest_70 ?_
          refine lv_topi (fun y49 ey49 => ?_)
          have hF := bv_at ey49 hF
          refine lv_icmp_ge (tgt := 96) hx hb dX5_digest_73 (by decide) (fun hc50 => ?_) (fun hc50 => ?_)
          · have hF := br_pos hc50 hF
            exact Jx65 u47 _ _ _ hF hP hD hS (lv_sub hl [1, 2] rfl)
          · have hF := br_neg hc50 hF
            refine lv_lload_n hx hb dX5_digest_76 rfl (lv_at hl 1 rfl) ?_
            refine lv_aload_n hx hb dX5_digest_77 rfl (lv_at hl 2 rfl) ?_
            refine va_get (D := (dC, dI)) (ci := 7) (v := .ref (aa 1)) (C := RX5) (T := TX5) (N := 5) hx hb hts hinX5 hown hK hP 0 (bw_at (i := 0) (by decide) rfl) rfl 0 (by decide) (hts (.fieldLink RX5 10 "BallotLoom" "box" "LBallotLoom$Box;") (by decide +kernel)) (fun _ h9 => h9) rfl dX5_digest_78 ?_
            refine va_get (D := (dC, dI)) (ci := 2) (v := .ref (aa 5)) (C := RX0) (T := TX0) (N := 11) hx hb hts hinX0 hown hK hP 1 (bw_at (i := 1) (by decide) rfl) rfl 6 (by decide) (hts (.fieldLink RX5 118 "BallotLoom$Box" "stacks" "[LBallotLoom$Stack;") (by decide +kernel)) (fun _ h9 => h9) rfl dX5_digest_81 ?_
            refine lv_iload_n hx hb dX5_digest_84 rfl (lv_at hl 0 rfl) ?_
            obtain ⟨hg51, hF⟩ := gd_some hF
            have hk52 : ix u48 < 25 := in_lt hg51 (by decide)
            refine bq_ald (v := (aa (39 + (ix u48)))) (hty := rfl) hx hb hK hP 5 3 (at_q (by decide) (fun _ _ => rfl)) rfl hg51 (if_pos (in_lt hg51 (Nat.le_refl _))) dX5_digest_85 ?_
            obtain ⟨r54, hC53, hF⟩ := calp_some hF
            have hFc := b_free (ws := bw q aa Z2) hD hS hA
            refine va_calll (va_runS (As := [.long u47, .ref (aa (39 + (ix u48)))]) (rest := []) ⟨hx, hb, hml, hown, hts⟩ (c_X5_mixStack l dC dI q aa Z2 u47 (ix u48) hk52 _ _  hC53) (va_cwS 2 hts gX5_digest_X5_mixStack rfl rfl rfl (by decide +kernel) ⟨Nat.le_of_ble_eq_true rfl, Nat.le_of_ble_eq_true rfl⟩) ⟨pr_blind, fun U hU hW => ⟨rfl, pr_mk hU hW hP hK hD⟩⟩ rfl rfl hl.1 rfl (lv_room (Nat.le_of_ble_eq_true rfl)) dX5_digest_86 ⟨Nat.le_of_ble_eq_true rfl, Nat.le_of_ble_eq_true rfl⟩) hS (fun x _ h => hFc x h) hFc (fun rr55 u t H1 locs ht hvm hw hB hz1 hk1 hS => ?_)
            obtain ⟨hP, hK1, hD1⟩ := hB
            rw [ht] at hP
            have hD := hD1.weaken (fun _ q9 _ h9 => hFc q9.1 h9)
            clear hFc hD1 hK1 hvm hz1 hk1
            generalize H1 = H at hP hS ⊢
            refine W.widen (k := 0) (n := 0) (Nat.le_refl _) (Nat.le_refl _) ?_
            obtain rfl : rr55 = r54 := hw
            refine lv_lstore_n (lv' := [(1, .long rr55), (3, .int u48), (0, .ref (aa 0))]) hx hb dX5_digest_89 rfl hl (by decide) rfl (fun ls hl => ?_)
            refine lv_iinc (k := 1) (v := (u48 + (1 : Int32))) (lv' := [(3, .int (u48 + (1 : Int32))), (1, .long rr55), (0, .ref (aa 0))]) hx hb dX5_digest_90 hl rfl (ii_ _ _ _ (by decide)) (by decide) rfl (fun ls hl => ?_)
            refine lv_goto (tgt := 65) hx hb dX5_digest_93 (by decide) ?_
            exact IH65 rr55 (u48 + (1 : Int32)) _ _ _ hF hP hD hS (lv_sub hl [0, 1, 2] rfl)
      exact L65 100 w1 (0 : Int32) _ _ _ hF hP hD hS (lv_sub hl [0, 1, 2] rfl)
    have L34 : ∀ (n34 : Nat) (Z57 : Mem) (u56 : Int32) (H : Heap) (locs : List Loc) (ls : Array Slot), F_X5_digest_l34 (F_X5_digest_x34 w1) n34 Z57 u56 = some (Zo, ro) → va_P (dC, dI) vwCl (bw q aa Z57) H → va_D A (bw q aa Z57) → va_S A s.heap H locs → lv_has ls 4 [(3, .int u56), (1, .long w1), (0, .ref (aa 0))] → W p l e (headSpec wsX5_digest ({ frames := 8, cells := 0, slots := 0, locals := 187 } : Room)).room s m args below meth c H locs 0 0 Q (F0 m 34 ls []) := by
      intro n34
      induction n34 with
      | zero =>
        intro Z57 u56 H locs ls hF
        rw [F_X5_digest_l34] at hF
        cases hF
      | succ n34 IH34 =>
        intro Z57 u56 H locs ls hF hP hD hS hl
        rw [F_X5_digest_l34] at hF
        refine lv_iload_n hx hb dX5_digest_34 rfl (lv_at hl 0 rfl) ?_
        refine lv_aload_n hx hb dX5_digest_35 rfl (lv_at hl 2 rfl) ?_
        refine va_get (D := (dC, dI)) (ci := 7) (v := .ref (aa 1)) (C := RX5) (T := TX5) (N := 5) hx hb hts hinX5 hown hK hP 0 (bw_at (i := 0) (by decide) rfl) rfl 0 (by decide) (hts (.fieldLink RX5 10 "BallotLoom" "box" "LBallotLoom$Box;") (by decide +kernel)) (fun _ h9 => h9) rfl dX5_digest_36 ?_
        refine va_get (D := (dC, dI)) (ci := 2) (v := .int (Z57.1 1 5)) (C := RX0) (T := TX0) (N := 11) hx hb hts hinX0 hown hK hP 1 (bw_at (i := 1) (by decide) rfl) rfl 5 (by decide) (hts (.fieldLink RX5 86 "BallotLoom$Box" "districts" "I") (by decide +kernel)) (fun _ h9 => h9) rfl dX5_digest_39 ?_
        refine lv_topi (fun y58 ey58 => ?_)
        have hF := bv_at ey58 hF
        refine lv_icmp_ge (tgt := 63) hx hb dX5_digest_42 (by decide) (fun hc59 => ?_) (fun hc59 => ?_)
        · have hF := br_pos hc59 hF
          exact Jx34 Z57 _ _ _ hF hP hD hS (lv_sub hl [1, 2] rfl)
        · have hF := br_neg hc59 hF
          refine lv_aload_n hx hb dX5_digest_45 rfl (lv_at hl 2 rfl) ?_
          refine va_get (D := (dC, dI)) (ci := 7) (v := .ref (aa 26)) (C := RX5) (T := TX5) (N := 5) hx hb hts hinX5 hown hK hP 0 (bw_at (i := 0) (by decide) rfl) rfl 2 (by decide) (hts (.fieldLink RX5 26 "BallotLoom" "transfers" "LBallotLoom$Transfers;") (by decide +kernel)) (fun _ h9 => h9) rfl dX5_digest_46 ?_
          refine lv_aload_n hx hb dX5_digest_49 rfl (lv_at hl 2 rfl) ?_
          refine va_get (D := (dC, dI)) (ci := 7) (v := .ref (aa 1)) (C := RX5) (T := TX5) (N := 5) hx hb hts hinX5 hown hK hP 0 (bw_at (i := 0) (by decide) rfl) rfl 0 (by decide) (hts (.fieldLink RX5 10 "BallotLoom" "box" "LBallotLoom$Box;") (by decide +kernel)) (fun _ h9 => h9) rfl dX5_digest_50 ?_
          refine lv_iload_n hx hb dX5_digest_53 rfl (lv_at hl 0 rfl) ?_
          obtain ⟨Z61, _, hC60, hF⟩ := cal_some hF
          have hFc := b_free (ws := bw q aa Z57) hD hS hA
          refine va_callv (va_runV (As := [.ref (aa 1), .int u56]) (rest := []) ⟨hx, hb, hml, hown, hts⟩ (c_X4_fillSeats l dC dI q aa Z57 u56  _ _ _  hC60) (cwV 2 hts gX5_digest_X4_fillSeats rfl rfl rfl (by decide +kernel) ⟨Nat.le_of_ble_eq_true rfl, Nat.le_of_ble_eq_true rfl⟩) ⟨pr_blind, va_recv hK hP (ci := 6) (q0 := 26) rfl (bw_at (i := 26) (by decide) rfl), fun U hU hW => ⟨rfl, pr_mk hU hW hP hK hD⟩⟩ rfl rfl hl.1 rfl (lv_room (Nat.le_of_ble_eq_true rfl)) dX5_digest_54 ⟨Nat.le_of_ble_eq_true rfl, Nat.le_of_ble_eq_true rfl⟩) hS (fun x _ h => hFc x h) hFc (fun u t H1 locs ht hvm hw hB hz1 hk1 hS => ?_)
          obtain ⟨hP, hK1, hD1⟩ := hB
          rw [ht] at hP
          have hD := hD1.weaken (fun _ q9 _ h9 => hFc q9.1 h9)
          clear hFc hD1 hK1 hvm hz1 hk1
          generalize H1 = H at hP hS ⊢
          refine W.widen (k := 0) (n := 0) (Nat.le_refl _) (Nat.le_refl _) ?_
          refine lv_iinc (k := 0) (v := (u56 + (1 : Int32))) (lv' := [(3, .int (u56 + (1 : Int32))), (1, .long w1), (0, .ref (aa 0))]) hx hb dX5_digest_57 hl rfl (ii_ _ _ _ (by decide)) (by decide) rfl (fun ls hl => ?_)
          refine lv_goto (tgt := 34) hx hb dX5_digest_60 (by decide) ?_
          exact IH34 Z61 (u56 + (1 : Int32)) _ _ _ hF hP hD hS (lv_sub hl [0, 1, 2] rfl)
    exact L34 100 Z (0 : Int32) _ _ _ hF hP hD hS (lv_sub hl [0, 1, 2] rfl)
  have L6 : ∀ (n6 : Nat) (u63 : Int64) (u64 : Int32) (H : Heap) (locs : List Loc) (ls : Array Slot), F_X5_digest_l6 Z (F_X5_digest_x6 Z) n6 u63 u64 = some (Zo, ro) → va_P (dC, dI) vwCl (bw q aa Z) H → va_D A (bw q aa Z) → va_S A s.heap H locs → lv_has ls 4 [(3, .int u64), (1, .long u63), (0, .ref (aa 0))] → W p l e (headSpec wsX5_digest ({ frames := 8, cells := 0, slots := 0, locals := 187 } : Room)).room s m args below meth c H locs 0 0 Q (F0 m 6 ls []) := by
    intro n6
    induction n6 with
    | zero =>
      intro u63 u64 H locs ls hF
      rw [F_X5_digest_l6] at hF
      cases hF
    | succ n6 IH6 =>
      intro u63 u64 H locs ls hF hP hD hS hl
      rw [F_X5_digest_l6] at hF
      refine lv_iload_n hx hb dX5_digest_6 rfl (lv_at hl 0 rfl) ?_
      refine lv_bipush (v := 9) hx hb dX5_digest_7 (by decide) ?_
      refine lv_icmp_gt (tgt := 32) hx hb dX5_digest_9 (by decide) (fun hc65 => ?_) (fun hc65 => ?_)
      · have hF := br_pos hc65 hF
        exact Jx6 u63 _ _ _ hF hP hD hS (lv_sub hl [1, 2] rfl)
      · have hF := br_neg hc65 hF
        refine lv_lload_n hx hb dX5_digest_12 rfl (lv_at hl 1 rfl) ?_
        refine lv_aload_n hx hb dX5_digest_13 rfl (lv_at hl 2 rfl) ?_
        refine va_get (D := (dC, dI)) (ci := 7) (v := .ref (aa 1)) (C := RX5) (T := TX5) (N := 5) hx hb hts hinX5 hown hK hP 0 (bw_at (i := 0) (by decide) rfl) rfl 0 (by decide) (hts (.fieldLink RX5 10 "BallotLoom" "box" "LBallotLoom$Box;") (by decide +kernel)) (fun _ h9 => h9) rfl dX5_digest_14 ?_
        refine lv_iload_n hx hb dX5_digest_17 rfl (lv_at hl 0 rfl) ?_
        obtain ⟨r67, hC66, hF⟩ := calp_some hF
        have hFc := b_free (ws := bw q aa Z) hD hS hA
        refine va_calli (va_runV (As := [.int u64]) (rest := [.long u63]) ⟨hx, hb, hml, hown, hts⟩ (c_X0_figure l dC dI q aa Z u64  _ _  hC66) (cwV 1 hts gX5_digest_X0_figure rfl rfl rfl (by decide +kernel) ⟨Nat.le_of_ble_eq_true rfl, Nat.le_of_ble_eq_true rfl⟩) ⟨pr_blind, va_recv hK hP (ci := 2) (q0 := 1) rfl (bw_at (i := 1) (by decide) rfl), fun U hU hW => ⟨rfl, pr_mk hU hW hP hK hD⟩⟩ rfl rfl hl.1 rfl (lv_room (Nat.le_of_ble_eq_true rfl)) dX5_digest_18 ⟨Nat.le_of_ble_eq_true rfl, Nat.le_of_ble_eq_true rfl⟩) hS (fun x _ h => hFc x h) hFc (fun rr68 u t H1 locs ht hvm hw hB hz1 hk1 hS => ?_)
        obtain ⟨hP, hK1, hD1⟩ := hB
        rw [ht] at hP
        have hD := hD1.weaken (fun _ q9 _ h9 => hFc q9.1 h9)
        clear hFc hD1 hK1 hvm hz1 hk1
        generalize H1 = H at hP hS ⊢
        refine W.widen (k := 0) (n := 0) (Nat.le_refl _) (Nat.le_refl _) ?_
        obtain rfl : rr68 = r67 := hw
        refine lv_i2l hx hb dX5_digest_21 rfl ?_
        refine lv_topl (fun y69 ey69 => ?_)
        have hF := bv_at ey69 hF
        obtain ⟨r71, hC70, hF⟩ := calp_some hF
        have hFc := b_free (ws := bw q aa Z) hD hS hA
        refine va_calll (va_runS (As := [.long u63, .long y69]) (rest := []) ⟨hx, hb, hml, hown, hts⟩ (c_X5_mix l dC dI q aa Z u63 y69  _ _  hC70) (va_cwS 2 hts gX5_digest_X5_mix rfl rfl rfl (by decide +kernel) ⟨Nat.le_of_ble_eq_true rfl, Nat.le_of_ble_eq_true rfl⟩) ⟨pr_blind, fun U hU hW => ⟨rfl, pr_mk hU hW hP hK hD⟩⟩ rfl rfl hl.1 rfl (lv_room (Nat.le_of_ble_eq_true rfl)) dX5_digest_22 ⟨Nat.le_of_ble_eq_true rfl, Nat.le_of_ble_eq_true rfl⟩) hS (fun x _ h => hFc x h) hFc (fun rr72 u t H1 locs ht hvm hw hB hz1 hk1 hS => ?_)
        obtain ⟨hP, hK1, hD1⟩ := hB
        rw [ht] at hP
        have hD := hD1.weaken (fun _ q9 _ h9 => hFc q9.1 h9)
        clear hFc hD1 hK1 hvm hz1 hk1
        generalize H1 = H at hP hS ⊢
        refine W.widen (k := 0) (n := 0) (Nat.le_refl _) (Nat.le_refl _) ?_
        obtain rfl : rr72 = r71 := hw
        refine lv_lstore_n (lv' := [(1, .long rr72), (3, .int u64), (0, .ref (aa 0))]) hx hb dX5_digest_25 rfl hl (by decide) rfl (fun ls hl => ?_)
        refine lv_iinc (k := 1) (v := (u64 + (1 : Int32))) (lv' := [(3, .int (u64 + (1 : Int32))), (1, .long rr72), (0, .ref (aa 0))]) hx hb dX5_digest_26 hl rfl (ii_ _ _ _ (by decide)) (by decide) rfl (fun ls hl => ?_)
        refine lv_goto (tgt := 6) hx hb dX5_digest_29 (by decide) ?_
        exact IH6 rr72 (u64 + (1 : Int32)) _ _ _ hF hP hD hS (lv_sub hl [0, 1, 2] rfl)
  exact L6 100 (58308 : Int64) (0 : Int32) _ _ _ hF hP hD hS (lv_sub hl [0, 1, 2] rfl)

noncomputable def F_X5_shareHouse (Z : Mem) (xa : Int32) (xb : Int32) : Option (Mem × Unit) :=
  cal (F_X1_countVotes Z ) fun Z2 _ => cal (F_X1_shareSeats Z2 xa xb) fun Z5 _ => some (Z5, ())

set_option maxHeartbeats 4000000 in
set_option maxRecDepth 100000 in
theorem c_X5_shareHouse (l : Launch) (dC : Nat → ClassId) (dI : Nat → Nat → Nat) (q : Nat → ClassId) (aa : Nat → Nat) (Z : Mem) (xa : Int32) (xb : Int32)  (sz : Nat) (Zo : Mem) (ro : Unit) (hF : F_X5_shareHouse Z xa xb = some (Zo, ro)) : Met l yX5_shareHouse wsX5_shareHouse ({ frames := 5, cells := 0, slots := 0, locals := 113 }) (va_Pc [.ref (aa 0), .int xa, .int xb] (pr_ dC dI (bw q aa Z) (bty q) sz)) (va_Qv (fun (_ : Unit) => True) (fun (_ : Unit) t => po_ dC dI (bw q aa Zo) (bty q) (va_A (bw q aa Z) sz) t) (va_A (bw q aa Z) sz)) 0 0 (va_A (bw q aa Z) sz) := by
  refine Met.ofW (cc := cX5_shareHouse) (maxL := 3) (ret := none) (by decide) rfl ?_
  intro p e s m args below meth c s₁ B hml hv
  obtain ⟨hargs, hsz, hP, hK, hD0⟩ := hv
  have hx := B.exec
  have hb := B.bytes
  have hr := B.returns
  have hts := atoms_spec (ws := wsX5_shareHouse) B.pre
  have hown : s.vm.findClass RX5 = some m.cls := findClass_of_methodNamed B.named
  have hlocks := B.notSynchronized
  subst hsz
  have hD := hD0.self (sz := s.heap.size)
  generalize hAe : va_A (bw q aa Z) s.heap.size = A at hD ⊢
  have hA : ∀ x : Nat, s.heap.size ≤ x → A x := fun x h => by rw [← hAe]; exact Or.inr h
  have hS : va_S A s.heap s.heap [] := va_S.rf
  have hinX5 : ∀ w ∈ u_ws RX5 TX5 5, w ∈ wsX5_shareHouse := by decide +kernel
  have hl := lv_entry ([.ref (aa 0), .int xa, .int xb]) (n := 3) (Nat.le_of_ble_eq_true rfl)
  refine w_ent hargs ?_
  rw [lg_entry_eq]
  generalize (lg_sl ([.ref (aa 0), .int xa, .int xb]) ++ List.replicate (3 - (lg_sl ([.ref (aa 0), .int xa, .int xb])).length) Slot.unset).toArray = ls at hl ⊢
  have hl : lv_has ls 3 [(0, .ref (aa 0)), (1, .int xa), (2, .int xb)] := hl
  unfold F_X5_shareHouse at hF
  refine w_go (fun Q hQ => ?_)
  refine lv_aload_n hx hb dX5_shareHouse_0 rfl (lv_at hl 0 rfl) ?_
  refine va_get (D := (dC, dI)) (ci := 7) (v := .ref (aa 30)) (C := RX5) (T := TX5) (N := 5) hx hb hts hinX5 hown hK hP 0 (bw_at (i := 0) (by decide) rfl) rfl 3 (by decide) (hts (.fieldLink RX5 33 "BallotLoom" "parties" "LBallotLoom$Parties;") (by decide +kernel)) (fun _ h9 => h9) rfl dX5_shareHouse_1 ?_
  refine lv_aload_n hx hb dX5_shareHouse_4 rfl (lv_at hl 0 rfl) ?_
  refine va_get (D := (dC, dI)) (ci := 7) (v := .ref (aa 1)) (C := RX5) (T := TX5) (N := 5) hx hb hts hinX5 hown hK hP 0 (bw_at (i := 0) (by decide) rfl) rfl 0 (by decide) (hts (.fieldLink RX5 10 "BallotLoom" "box" "LBallotLoom$Box;") (by decide +kernel)) (fun _ h9 => h9) rfl dX5_shareHouse_5 ?_
  obtain ⟨Z2, _, hC1, hF⟩ := cal_some hF
  have hFc := b_free (ws := bw q aa Z) hD hS hA
  refine va_callv (va_runV (As := [.ref (aa 1)]) (rest := []) ⟨hx, hb, hml, hown, hts⟩ (c_X1_countVotes l dC dI q aa Z   _ _ _  hC1) (cwV 1 hts gX5_shareHouse_X1_countVotes rfl rfl rfl (by decide +kernel) ⟨Nat.le_of_ble_eq_true rfl, Nat.le_of_ble_eq_true rfl⟩) ⟨pr_blind, va_recv hK hP (ci := 3) (q0 := 30) rfl (bw_at (i := 30) (by decide) rfl), fun U hU hW => ⟨rfl, pr_mk hU hW hP hK hD⟩⟩ rfl rfl hl.1 rfl (lv_room (Nat.le_of_ble_eq_true rfl)) dX5_shareHouse_8 ⟨Nat.le_of_ble_eq_true rfl, Nat.le_of_ble_eq_true rfl⟩) hS (fun x _ h => hFc x h) hFc (fun u t H1 locs ht hvm hw hB hz1 hk1 hS => ?_)
  obtain ⟨hP, hK1, hD1⟩ := hB
  rw [ht] at hP
  have hD := hD1.weaken (fun _ q9 _ h9 => hFc q9.1 h9)
  clear hFc hD1 hK1 hvm hz1 hk1
  generalize H1 = H at hP hS ⊢
  refine W.widen (k := 0) (n := 0) (Nat.le_refl _) (Nat.le_refl _) ?_
  refine lv_aload_n hx hb dX5_shareHouse_11 rfl (lv_at hl 0 rfl) ?_
  refine va_get (D := (dC, dI)) (ci := 7) (v := .ref (aa 30)) (C := RX5) (T := TX5) (N := 5) hx hb hts hinX5 hown hK hP 0 (bw_at (i := 0) (by decide) rfl) rfl 3 (by decide) (hts (.fieldLink RX5 33 "BallotLoom" "parties" "LBallotLoom$Parties;") (by decide +kernel)) (fun _ h9 => h9) rfl dX5_shareHouse_12 ?_
  refine lv_iload_n hx hb dX5_shareHouse_15 rfl (lv_at hl 1 rfl) ?_
  refine lv_iload_n hx hb dX5_shareHouse_16 rfl (lv_at hl 2 rfl) ?_
  obtain ⟨Z5, _, hC4, hF⟩ := cal_some hF
  have hFc := b_free (ws := bw q aa Z2) hD hS hA
  refine va_callv (va_runV (As := [.int xa, .int xb]) (rest := []) ⟨hx, hb, hml, hown, hts⟩ (c_X1_shareSeats l dC dI q aa Z2 xa xb  _ _ _  hC4) (cwV 2 hts gX5_shareHouse_X1_shareSeats rfl rfl rfl (by decide +kernel) ⟨Nat.le_of_ble_eq_true rfl, Nat.le_of_ble_eq_true rfl⟩) ⟨pr_blind, va_recv hK hP (ci := 3) (q0 := 30) rfl (bw_at (i := 30) (by decide) rfl), fun U hU hW => ⟨rfl, pr_mk hU hW hP hK hD⟩⟩ rfl rfl hl.1 rfl (lv_room (Nat.le_of_ble_eq_true rfl)) dX5_shareHouse_17 ⟨Nat.le_of_ble_eq_true rfl, Nat.le_of_ble_eq_true rfl⟩) hS (fun x _ h => hFc x h) hFc (fun u t H1 locs ht hvm hw hB hz1 hk1 hS => ?_)
  obtain ⟨hP, hK1, hD1⟩ := hB
  rw [ht] at hP
  have hD := hD1.weaken (fun _ q9 _ h9 => hFc q9.1 h9)
  clear hFc hD1 hK1 hvm hz1 hk1
  generalize H1 = H at hP hS ⊢
  refine W.widen (k := 0) (n := 0) (Nat.le_refl _) (Nat.le_refl _) ?_
  obtain ⟨e8, e9⟩ := some2 hF
  rw [← e8] at hP hD
  subst hQ
  exact W.vret hx hb hr (fun t ht hW => ⟨⟨(), rfl, trivial, po_mk ht hW hP hK hD⟩, hS.F ht⟩) hS.2.2 dX5_shareHouse_20

noncomputable def F_X5_isParty (Z : Mem) (xa : Int32) : Option Int32 :=
  br (xa < (0 : Int32)) (some (0 : Int32)) (br ((4 : Int32) ≤ xa) (some (0 : Int32)) (some (1 : Int32)))

set_option maxHeartbeats 4000000 in
set_option maxRecDepth 100000 in
theorem c_X5_isParty (l : Launch) (dC : Nat → ClassId) (dI : Nat → Nat → Nat) (q : Nat → ClassId) (aa : Nat → Nat) (Z : Mem) (xa : Int32)  (sz : Nat) (ro : Int32) (hF : F_X5_isParty Z xa = some ro) : Met l yX5_isParty wsX5_isParty ({ frames := 2, cells := 0, slots := 0, locals := 40 }) (va_Pc [.int xa] (pr_ dC dI (bw q aa Z) (bty q) sz)) (va_Qi (fun (r : Int32) (_ : Unit) => r = ro) (fun (_ : Unit) t => po_ dC dI (bw q aa Z) (bty q) (va_A (bw q aa Z) sz) t) (va_A (bw q aa Z) sz)) 0 0 (va_A (bw q aa Z) sz) := by
  refine Met.ofW (cc := cX5_isParty) (maxL := 1) (ret := (some .boolean)) (by decide) rfl ?_
  intro p e s m args below meth c s₁ B hml hv
  obtain ⟨hargs, hsz, hP, hK, hD0⟩ := hv
  have hx := B.exec
  have hb := B.bytes
  have hr := B.returns
  have hts := atoms_spec (ws := wsX5_isParty) B.pre
  have hown : s.vm.findClass RX5 = some m.cls := findClass_of_methodNamed B.named
  have hlocks := B.notSynchronized
  subst hsz
  have hD := hD0.self (sz := s.heap.size)
  generalize hAe : va_A (bw q aa Z) s.heap.size = A at hD ⊢
  have hA : ∀ x : Nat, s.heap.size ≤ x → A x := fun x h => by rw [← hAe]; exact Or.inr h
  have hS : va_S A s.heap s.heap [] := va_S.rf
  have hl := lv_entry ([.int xa]) (n := 1) (Nat.le_of_ble_eq_true rfl)
  refine w_ent hargs ?_
  rw [lg_entry_eq]
  generalize (lg_sl ([.int xa]) ++ List.replicate (1 - (lg_sl ([.int xa])).length) Slot.unset).toArray = ls at hl ⊢
  have hl : lv_has ls 1 [(0, .int xa)] := hl
  unfold F_X5_isParty at hF
  refine w_go (fun Q hQ => ?_)
  refine lv_iload_n hx hb dX5_isParty_0 rfl (lv_at hl 0 rfl) ?_
  refine lv_if_lt (tgt := 13) hx hb dX5_isParty_1 (by decide) (fun hc1 => ?_) (fun hc1 => ?_)
  · have hF := br_pos hc1 hF
    refine lv_iconst (v := 0) hx hb dX5_isParty_13 (by decide) ?_
    have e9 := some1 hF
    subst hQ
    exact W.zret (v := 0) hx hb hr rfl (fun t ht hW => ⟨⟨0, (), rfl, e9.symm, po_mk ht hW hP hK hD⟩, hS.F ht⟩) hS.2.2 dX5_isParty_14
  · have hF := br_neg hc1 hF
    refine lv_iload_n hx hb dX5_isParty_4 rfl (lv_at hl 0 rfl) ?_
    refine lv_iconst (v := 4) hx hb dX5_isParty_5 (by decide) ?_
    refine lv_icmp_ge (tgt := 13) hx hb dX5_isParty_6 (by decide) (fun hc2 => ?_) (fun hc2 => ?_)
    · have hF := br_pos hc2 hF
      refine lv_iconst (v := 0) hx hb dX5_isParty_13 (by decide) ?_
      have e9 := some1 hF
      subst hQ
      exact W.zret (v := 0) hx hb hr rfl (fun t ht hW => ⟨⟨0, (), rfl, e9.symm, po_mk ht hW hP hK hD⟩, hS.F ht⟩) hS.2.2 dX5_isParty_14
    · have hF := br_neg hc2 hF
      refine lv_iconst (v := 1) hx hb dX5_isParty_9 (by decide) ?_
      refine lv_goto (tgt := 14) hx hb dX5_isParty_10 (by decide) ?_
      have e9 := some1 hF
      subst hQ
      exact W.zret (v := 1) hx hb hr rfl (fun t ht hW => ⟨⟨1, (), rfl, e9.symm, po_mk ht hW hP hK hD⟩, hS.F ht⟩) hS.2.2 dX5_isParty_14

noncomputable def F_X5_checkCandidate (Z : Mem) (xa : Int32) : Option Unit :=
  br (xa < (0 : Int32)) (none) (bv (Z.1 1 2) fun y2 => br (xa < y2) (some ()) (none))

set_option maxHeartbeats 4000000 in
set_option maxRecDepth 100000 in
theorem c_X5_checkCandidate (l : Launch) (dC : Nat → ClassId) (dI : Nat → Nat → Nat) (q : Nat → ClassId) (aa : Nat → Nat) (Z : Mem) (xa : Int32)  (sz : Nat) (ro : Unit) (hF : F_X5_checkCandidate Z xa = some ro) : Met l yX5_checkCandidate wsX5_checkCandidate ({ frames := 2, cells := 0, slots := 0, locals := 40 }) (va_Pc [.ref (aa 0), .int xa] (pr_ dC dI (bw q aa Z) (bty q) sz)) (va_Qv (fun (_ : Unit) => True) (fun (_ : Unit) t => po_ dC dI (bw q aa Z) (bty q) (va_A (bw q aa Z) sz) t) (va_A (bw q aa Z) sz)) 0 0 (va_A (bw q aa Z) sz) := by
  refine Met.ofW (cc := cX5_checkCandidate) (maxL := 2) (ret := none) (by decide) rfl ?_
  intro p e s m args below meth c s₁ B hml hv
  obtain ⟨hargs, hsz, hP, hK, hD0⟩ := hv
  have hx := B.exec
  have hb := B.bytes
  have hr := B.returns
  have hts := atoms_spec (ws := wsX5_checkCandidate) B.pre
  have hown : s.vm.findClass RX5 = some m.cls := findClass_of_methodNamed B.named
  have hlocks := B.notSynchronized
  subst hsz
  have hD := hD0.self (sz := s.heap.size)
  generalize hAe : va_A (bw q aa Z) s.heap.size = A at hD ⊢
  have hA : ∀ x : Nat, s.heap.size ≤ x → A x := fun x h => by rw [← hAe]; exact Or.inr h
  have hS : va_S A s.heap s.heap [] := va_S.rf
  have hinX0 : ∀ w ∈ u_ws RX0 TX0 11, w ∈ wsX5_checkCandidate := by decide +kernel
  have hinX5 : ∀ w ∈ u_ws RX5 TX5 5, w ∈ wsX5_checkCandidate := by decide +kernel
  have hl := lv_entry ([.ref (aa 0), .int xa]) (n := 2) (Nat.le_of_ble_eq_true rfl)
  refine w_ent hargs ?_
  rw [lg_entry_eq]
  generalize (lg_sl ([.ref (aa 0), .int xa]) ++ List.replicate (2 - (lg_sl ([.ref (aa 0), .int xa])).length) Slot.unset).toArray = ls at hl ⊢
  have hl : lv_has ls 2 [(0, .ref (aa 0)), (1, .int xa)] := hl
  unfold F_X5_checkCandidate at hF
  refine w_go (fun Q hQ => ?_)
  refine lv_iload_n hx hb dX5_checkCandidate_0 rfl (lv_at hl 1 rfl) ?_
  refine lv_if_lt (tgt := 15) hx hb dX5_checkCandidate_1 (by decide) (fun hc1 => ?_) (fun hc1 => ?_)
  · have hF := br_pos hc1 hF
    cases hF
  · have hF := br_neg hc1 hF
    refine lv_iload_n hx hb dX5_checkCandidate_4 rfl (lv_at hl 1 rfl) ?_
    refine lv_aload_n hx hb dX5_checkCandidate_5 rfl (lv_at hl 0 rfl) ?_
    refine va_get (D := (dC, dI)) (ci := 7) (v := .ref (aa 1)) (C := RX5) (T := TX5) (N := 5) hx hb hts hinX5 hown hK hP 0 (bw_at (i := 0) (by decide) rfl) rfl 0 (by decide) (hts (.fieldLink RX5 10 "BallotLoom" "box" "LBallotLoom$Box;") (by decide +kernel)) (fun _ h9 => h9) rfl dX5_checkCandidate_6 ?_
    refine va_get (D := (dC, dI)) (ci := 2) (v := .int (Z.1 1 2)) (C := RX0) (T := TX0) (N := 11) hx hb hts hinX0 hown hK hP 1 (bw_at (i := 1) (by decide) rfl) rfl 2 (by decide) (hts (.fieldLink RX5 55 "BallotLoom$Box" "candidates" "I") (by decide +kernel)) (fun _ h9 => h9) rfl dX5_checkCandidate_9 ?_
    refine lv_topi (fun y2 ey2 => ?_)
    have hF := bv_at ey2 hF
    refine lv_icmp_lt (tgt := 26) hx hb dX5_checkCandidate_12 (by decide) (fun hc3 => ?_) (fun hc3 => ?_)
    · have hF := br_pos hc3 hF
      subst hQ
      exact W.vret hx hb hr (fun t ht hW => ⟨⟨(), rfl, trivial, po_mk ht hW hP hK hD⟩, hS.F ht⟩) hS.2.2 dX5_checkCandidate_26
    · have hF := br_neg hc3 hF
      cases hF

noncomputable def F_X5_checkDistrict (Z : Mem) (xa : Int32) : Option Unit :=
  br (xa < (0 : Int32)) (none) (bv (Z.1 1 5) fun y2 => br (xa < y2) (some ()) (none))

set_option maxHeartbeats 4000000 in
set_option maxRecDepth 100000 in
theorem c_X5_checkDistrict (l : Launch) (dC : Nat → ClassId) (dI : Nat → Nat → Nat) (q : Nat → ClassId) (aa : Nat → Nat) (Z : Mem) (xa : Int32)  (sz : Nat) (ro : Unit) (hF : F_X5_checkDistrict Z xa = some ro) : Met l yX5_checkDistrict wsX5_checkDistrict ({ frames := 2, cells := 0, slots := 0, locals := 40 }) (va_Pc [.ref (aa 0), .int xa] (pr_ dC dI (bw q aa Z) (bty q) sz)) (va_Qv (fun (_ : Unit) => True) (fun (_ : Unit) t => po_ dC dI (bw q aa Z) (bty q) (va_A (bw q aa Z) sz) t) (va_A (bw q aa Z) sz)) 0 0 (va_A (bw q aa Z) sz) := by
  refine Met.ofW (cc := cX5_checkDistrict) (maxL := 2) (ret := none) (by decide) rfl ?_
  intro p e s m args below meth c s₁ B hml hv
  obtain ⟨hargs, hsz, hP, hK, hD0⟩ := hv
  have hx := B.exec
  have hb := B.bytes
  have hr := B.returns
  have hts := atoms_spec (ws := wsX5_checkDistrict) B.pre
  have hown : s.vm.findClass RX5 = some m.cls := findClass_of_methodNamed B.named
  have hlocks := B.notSynchronized
  subst hsz
  have hD := hD0.self (sz := s.heap.size)
  generalize hAe : va_A (bw q aa Z) s.heap.size = A at hD ⊢
  have hA : ∀ x : Nat, s.heap.size ≤ x → A x := fun x h => by rw [← hAe]; exact Or.inr h
  have hS : va_S A s.heap s.heap [] := va_S.rf
  have hinX0 : ∀ w ∈ u_ws RX0 TX0 11, w ∈ wsX5_checkDistrict := by decide +kernel
  have hinX5 : ∀ w ∈ u_ws RX5 TX5 5, w ∈ wsX5_checkDistrict := by decide +kernel
  have hl := lv_entry ([.ref (aa 0), .int xa]) (n := 2) (Nat.le_of_ble_eq_true rfl)
  refine w_ent hargs ?_
  rw [lg_entry_eq]
  generalize (lg_sl ([.ref (aa 0), .int xa]) ++ List.replicate (2 - (lg_sl ([.ref (aa 0), .int xa])).length) Slot.unset).toArray = ls at hl ⊢
  have hl : lv_has ls 2 [(0, .ref (aa 0)), (1, .int xa)] := hl
  unfold F_X5_checkDistrict at hF
  refine w_go (fun Q hQ => ?_)
  refine lv_iload_n hx hb dX5_checkDistrict_0 rfl (lv_at hl 1 rfl) ?_
  refine lv_if_lt (tgt := 15) hx hb dX5_checkDistrict_1 (by decide) (fun hc1 => ?_) (fun hc1 => ?_)
  · have hF := br_pos hc1 hF
    cases hF
  · have hF := br_neg hc1 hF
    refine lv_iload_n hx hb dX5_checkDistrict_4 rfl (lv_at hl 1 rfl) ?_
    refine lv_aload_n hx hb dX5_checkDistrict_5 rfl (lv_at hl 0 rfl) ?_
    refine va_get (D := (dC, dI)) (ci := 7) (v := .ref (aa 1)) (C := RX5) (T := TX5) (N := 5) hx hb hts hinX5 hown hK hP 0 (bw_at (i := 0) (by decide) rfl) rfl 0 (by decide) (hts (.fieldLink RX5 10 "BallotLoom" "box" "LBallotLoom$Box;") (by decide +kernel)) (fun _ h9 => h9) rfl dX5_checkDistrict_6 ?_
    refine va_get (D := (dC, dI)) (ci := 2) (v := .int (Z.1 1 5)) (C := RX0) (T := TX0) (N := 11) hx hb hts hinX0 hown hK hP 1 (bw_at (i := 1) (by decide) rfl) rfl 5 (by decide) (hts (.fieldLink RX5 86 "BallotLoom$Box" "districts" "I") (by decide +kernel)) (fun _ h9 => h9) rfl dX5_checkDistrict_9 ?_
    refine lv_topi (fun y2 ey2 => ?_)
    have hF := bv_at ey2 hF
    refine lv_icmp_lt (tgt := 26) hx hb dX5_checkDistrict_12 (by decide) (fun hc3 => ?_) (fun hc3 => ?_)
    · have hF := br_pos hc3 hF
      subst hQ
      exact W.vret hx hb hr (fun t ht hW => ⟨⟨(), rfl, trivial, po_mk ht hW hP hK hD⟩, hS.F ht⟩) hS.2.2 dX5_checkDistrict_26
    · have hF := br_neg hc3 hF
      cases hF

noncomputable def F_X5_checkStack (Z : Mem) (xa : Int32) : Option Unit :=
  br (xa < (0 : Int32)) (none) (bv (Z.1 1 7) fun y2 => br (xa < y2) (some ()) (none))

set_option maxHeartbeats 4000000 in
set_option maxRecDepth 100000 in
theorem c_X5_checkStack (l : Launch) (dC : Nat → ClassId) (dI : Nat → Nat → Nat) (q : Nat → ClassId) (aa : Nat → Nat) (Z : Mem) (xa : Int32)  (sz : Nat) (ro : Unit) (hF : F_X5_checkStack Z xa = some ro) : Met l yX5_checkStack wsX5_checkStack ({ frames := 2, cells := 0, slots := 0, locals := 40 }) (va_Pc [.ref (aa 0), .int xa] (pr_ dC dI (bw q aa Z) (bty q) sz)) (va_Qv (fun (_ : Unit) => True) (fun (_ : Unit) t => po_ dC dI (bw q aa Z) (bty q) (va_A (bw q aa Z) sz) t) (va_A (bw q aa Z) sz)) 0 0 (va_A (bw q aa Z) sz) := by
  refine Met.ofW (cc := cX5_checkStack) (maxL := 2) (ret := none) (by decide) rfl ?_
  intro p e s m args below meth c s₁ B hml hv
  obtain ⟨hargs, hsz, hP, hK, hD0⟩ := hv
  have hx := B.exec
  have hb := B.bytes
  have hr := B.returns
  have hts := atoms_spec (ws := wsX5_checkStack) B.pre
  have hown : s.vm.findClass RX5 = some m.cls := findClass_of_methodNamed B.named
  have hlocks := B.notSynchronized
  subst hsz
  have hD := hD0.self (sz := s.heap.size)
  generalize hAe : va_A (bw q aa Z) s.heap.size = A at hD ⊢
  have hA : ∀ x : Nat, s.heap.size ≤ x → A x := fun x h => by rw [← hAe]; exact Or.inr h
  have hS : va_S A s.heap s.heap [] := va_S.rf
  have hinX0 : ∀ w ∈ u_ws RX0 TX0 11, w ∈ wsX5_checkStack := by decide +kernel
  have hinX5 : ∀ w ∈ u_ws RX5 TX5 5, w ∈ wsX5_checkStack := by decide +kernel
  have hl := lv_entry ([.ref (aa 0), .int xa]) (n := 2) (Nat.le_of_ble_eq_true rfl)
  refine w_ent hargs ?_
  rw [lg_entry_eq]
  generalize (lg_sl ([.ref (aa 0), .int xa]) ++ List.replicate (2 - (lg_sl ([.ref (aa 0), .int xa])).length) Slot.unset).toArray = ls at hl ⊢
  have hl : lv_has ls 2 [(0, .ref (aa 0)), (1, .int xa)] := hl
  unfold F_X5_checkStack at hF
  refine w_go (fun Q hQ => ?_)
  refine lv_iload_n hx hb dX5_checkStack_0 rfl (lv_at hl 1 rfl) ?_
  refine lv_if_lt (tgt := 15) hx hb dX5_checkStack_1 (by decide) (fun hc1 => ?_) (fun hc1 => ?_)
  · have hF := br_pos hc1 hF
    cases hF
  · have hF := br_neg hc1 hF
    refine lv_iload_n hx hb dX5_checkStack_4 rfl (lv_at hl 1 rfl) ?_
    refine lv_aload_n hx hb dX5_checkStack_5 rfl (lv_at hl 0 rfl) ?_
    refine va_get (D := (dC, dI)) (ci := 7) (v := .ref (aa 1)) (C := RX5) (T := TX5) (N := 5) hx hb hts hinX5 hown hK hP 0 (bw_at (i := 0) (by decide) rfl) rfl 0 (by decide) (hts (.fieldLink RX5 10 "BallotLoom" "box" "LBallotLoom$Box;") (by decide +kernel)) (fun _ h9 => h9) rfl dX5_checkStack_6 ?_
    refine va_get (D := (dC, dI)) (ci := 2) (v := .int (Z.1 1 7)) (C := RX0) (T := TX0) (N := 11) hx hb hts hinX0 hown hK hP 1 (bw_at (i := 1) (by decide) rfl) rfl 7 (by decide) (hts (.fieldLink RX5 106 "BallotLoom$Box" "cast" "I") (by decide +kernel)) (fun _ h9 => h9) rfl dX5_checkStack_9 ?_
    refine lv_topi (fun y2 ey2 => ?_)
    have hF := bv_at ey2 hF
    refine lv_icmp_lt (tgt := 26) hx hb dX5_checkStack_12 (by decide) (fun hc3 => ?_) (fun hc3 => ?_)
    · have hF := br_pos hc3 hF
      subst hQ
      exact W.vret hx hb hr (fun t ht hW => ⟨⟨(), rfl, trivial, po_mk ht hW hP hK hD⟩, hS.F ht⟩) hS.2.2 dX5_checkStack_26
    · have hF := br_neg hc3 hF
      cases hF

noncomputable def F_X5_checkParty (Z : Mem) (xa : Int32) : Option Unit :=
  calp (F_X5_isParty Z xa) fun rr3 => br (rr3 = (0 : Int32)) (none) (some ())

set_option maxHeartbeats 4000000 in
set_option maxRecDepth 100000 in
theorem c_X5_checkParty (l : Launch) (dC : Nat → ClassId) (dI : Nat → Nat → Nat) (q : Nat → ClassId) (aa : Nat → Nat) (Z : Mem) (xa : Int32)  (sz : Nat) (ro : Unit) (hF : F_X5_checkParty Z xa = some ro) : Met l yX5_checkParty wsX5_checkParty ({ frames := 3, cells := 0, slots := 0, locals := 60 }) (va_Pc [.int xa] (pr_ dC dI (bw q aa Z) (bty q) sz)) (va_Qv (fun (_ : Unit) => True) (fun (_ : Unit) t => po_ dC dI (bw q aa Z) (bty q) (va_A (bw q aa Z) sz) t) (va_A (bw q aa Z) sz)) 0 0 (va_A (bw q aa Z) sz) := by
  refine Met.ofW (cc := cX5_checkParty) (maxL := 1) (ret := none) (by decide) rfl ?_
  intro p e s m args below meth c s₁ B hml hv
  obtain ⟨hargs, hsz, hP, hK, hD0⟩ := hv
  have hx := B.exec
  have hb := B.bytes
  have hr := B.returns
  have hts := atoms_spec (ws := wsX5_checkParty) B.pre
  have hown : s.vm.findClass RX5 = some m.cls := findClass_of_methodNamed B.named
  have hlocks := B.notSynchronized
  subst hsz
  have hD := hD0.self (sz := s.heap.size)
  generalize hAe : va_A (bw q aa Z) s.heap.size = A at hD ⊢
  have hA : ∀ x : Nat, s.heap.size ≤ x → A x := fun x h => by rw [← hAe]; exact Or.inr h
  have hS : va_S A s.heap s.heap [] := va_S.rf
  have hl := lv_entry ([.int xa]) (n := 1) (Nat.le_of_ble_eq_true rfl)
  refine w_ent hargs ?_
  rw [lg_entry_eq]
  generalize (lg_sl ([.int xa]) ++ List.replicate (1 - (lg_sl ([.int xa])).length) Slot.unset).toArray = ls at hl ⊢
  have hl : lv_has ls 1 [(0, .int xa)] := hl
  unfold F_X5_checkParty at hF
  refine w_go (fun Q hQ => ?_)
  refine lv_iload_n hx hb dX5_checkParty_0 rfl (lv_at hl 0 rfl) ?_
  obtain ⟨r2, hC1, hF⟩ := calp_some hF
  have hFc := b_free (ws := bw q aa Z) hD hS hA
  refine va_calli (va_runS (As := [.int xa]) (rest := []) ⟨hx, hb, hml, hown, hts⟩ (c_X5_isParty l dC dI q aa Z xa  _ _  hC1) (va_cwS 1 hts gX5_checkParty_X5_isParty rfl rfl rfl (by decide +kernel) ⟨Nat.le_of_ble_eq_true rfl, Nat.le_of_ble_eq_true rfl⟩) ⟨pr_blind, fun U hU hW => ⟨rfl, pr_mk hU hW hP hK hD⟩⟩ rfl rfl hl.1 rfl (lv_room (Nat.le_of_ble_eq_true rfl)) dX5_checkParty_1 ⟨Nat.le_of_ble_eq_true rfl, Nat.le_of_ble_eq_true rfl⟩) hS (fun x _ h => hFc x h) hFc (fun rr3 u t H1 locs ht hvm hw hB hz1 hk1 hS => ?_)
  obtain ⟨hP, hK1, hD1⟩ := hB
  rw [ht] at hP
  have hD := hD1.weaken (fun _ q9 _ h9 => hFc q9.1 h9)
  clear hFc hD1 hK1 hvm hz1 hk1
  generalize H1 = H at hP hS ⊢
  refine W.widen (k := 0) (n := 0) (Nat.le_refl _) (Nat.le_refl _) ?_
  obtain rfl : rr3 = r2 := hw
  refine lv_if_ne (tgt := 17) hx hb dX5_checkParty_4 (by decide) (fun hc4 => ?_) (fun hc4 => ?_)
  · have hF := br_neg hc4 hF
    subst hQ
    exact W.vret hx hb hr (fun t ht hW => ⟨⟨(), rfl, trivial, po_mk ht hW hP hK hD⟩, hS.F ht⟩) hS.2.2 dX5_checkParty_17
  · have hF := br_pos hc4 hF
    cases hF

noncomputable def F_X5_checkRanks (Z : Mem) (xa : Int32) : Option Unit :=
  br (xa < (1 : Int32)) (none) (br (xa ≤ (999999 : Int32)) (some ()) (none))

set_option maxHeartbeats 4000000 in
set_option maxRecDepth 100000 in
theorem c_X5_checkRanks (l : Launch) (dC : Nat → ClassId) (dI : Nat → Nat → Nat) (q : Nat → ClassId) (aa : Nat → Nat) (Z : Mem) (xa : Int32)  (sz : Nat) (ro : Unit) (hF : F_X5_checkRanks Z xa = some ro) : Met l yX5_checkRanks wsX5_checkRanks ({ frames := 2, cells := 0, slots := 0, locals := 40 }) (va_Pc [.int xa] (pr_ dC dI (bw q aa Z) (bty q) sz)) (va_Qv (fun (_ : Unit) => True) (fun (_ : Unit) t => po_ dC dI (bw q aa Z) (bty q) (va_A (bw q aa Z) sz) t) (va_A (bw q aa Z) sz)) 0 0 (va_A (bw q aa Z) sz) := by
  refine Met.ofW (cc := cX5_checkRanks) (maxL := 1) (ret := none) (by decide) rfl ?_
  intro p e s m args below meth c s₁ B hml hv
  obtain ⟨hargs, hsz, hP, hK, hD0⟩ := hv
  have hx := B.exec
  have hb := B.bytes
  have hr := B.returns
  have hts := atoms_spec (ws := wsX5_checkRanks) B.pre
  have hown : s.vm.findClass RX5 = some m.cls := findClass_of_methodNamed B.named
  have hlocks := B.notSynchronized
  subst hsz
  have hD := hD0.self (sz := s.heap.size)
  generalize hAe : va_A (bw q aa Z) s.heap.size = A at hD ⊢
  have hA : ∀ x : Nat, s.heap.size ≤ x → A x := fun x h => by rw [← hAe]; exact Or.inr h
  have hS : va_S A s.heap s.heap [] := va_S.rf
  have hl := lv_entry ([.int xa]) (n := 1) (Nat.le_of_ble_eq_true rfl)
  refine w_ent hargs ?_
  rw [lg_entry_eq]
  generalize (lg_sl ([.int xa]) ++ List.replicate (1 - (lg_sl ([.int xa])).length) Slot.unset).toArray = ls at hl ⊢
  have hl : lv_has ls 1 [(0, .int xa)] := hl
  unfold F_X5_checkRanks at hF
  refine w_go (fun Q hQ => ?_)
  refine lv_iload_n hx hb dX5_checkRanks_0 rfl (lv_at hl 0 rfl) ?_
  refine lv_iconst (v := 1) hx hb dX5_checkRanks_1 (by decide) ?_
  refine lv_icmp_lt (tgt := 12) hx hb dX5_checkRanks_2 (by decide) (fun hc1 => ?_) (fun hc1 => ?_)
  · have hF := br_pos hc1 hF
    cases hF
  · have hF := br_neg hc1 hF
    refine lv_iload_n hx hb dX5_checkRanks_5 rfl (lv_at hl 0 rfl) ?_
    refine lv_ldcw (v := 999999) hx hb hown (hts (.constant RX5 303 999999) (by decide +kernel)) dX5_checkRanks_6 ?_
    refine lv_icmp_le (tgt := 23) hx hb dX5_checkRanks_9 (by decide) (fun hc2 => ?_) (fun hc2 => ?_)
    · have hF := br_pos hc2 hF
      subst hQ
      exact W.vret hx hb hr (fun t ht hW => ⟨⟨(), rfl, trivial, po_mk ht hW hP hK hD⟩, hS.F ht⟩) hS.2.2 dX5_checkRanks_23
    · have hF := br_neg hc2 hF
      cases hF

noncomputable def F_X5_checkCount (Z : Mem) (xa : Int32) : Option Unit :=
  br (xa < (1 : Int32)) (none) (br (xa ≤ (500 : Int32)) (some ()) (none))

set_option maxHeartbeats 4000000 in
set_option maxRecDepth 100000 in
theorem c_X5_checkCount (l : Launch) (dC : Nat → ClassId) (dI : Nat → Nat → Nat) (q : Nat → ClassId) (aa : Nat → Nat) (Z : Mem) (xa : Int32)  (sz : Nat) (ro : Unit) (hF : F_X5_checkCount Z xa = some ro) : Met l yX5_checkCount wsX5_checkCount ({ frames := 2, cells := 0, slots := 0, locals := 40 }) (va_Pc [.int xa] (pr_ dC dI (bw q aa Z) (bty q) sz)) (va_Qv (fun (_ : Unit) => True) (fun (_ : Unit) t => po_ dC dI (bw q aa Z) (bty q) (va_A (bw q aa Z) sz) t) (va_A (bw q aa Z) sz)) 0 0 (va_A (bw q aa Z) sz) := by
  refine Met.ofW (cc := cX5_checkCount) (maxL := 1) (ret := none) (by decide) rfl ?_
  intro p e s m args below meth c s₁ B hml hv
  obtain ⟨hargs, hsz, hP, hK, hD0⟩ := hv
  have hx := B.exec
  have hb := B.bytes
  have hr := B.returns
  have hts := atoms_spec (ws := wsX5_checkCount) B.pre
  have hown : s.vm.findClass RX5 = some m.cls := findClass_of_methodNamed B.named
  have hlocks := B.notSynchronized
  subst hsz
  have hD := hD0.self (sz := s.heap.size)
  generalize hAe : va_A (bw q aa Z) s.heap.size = A at hD ⊢
  have hA : ∀ x : Nat, s.heap.size ≤ x → A x := fun x h => by rw [← hAe]; exact Or.inr h
  have hS : va_S A s.heap s.heap [] := va_S.rf
  have hl := lv_entry ([.int xa]) (n := 1) (Nat.le_of_ble_eq_true rfl)
  refine w_ent hargs ?_
  rw [lg_entry_eq]
  generalize (lg_sl ([.int xa]) ++ List.replicate (1 - (lg_sl ([.int xa])).length) Slot.unset).toArray = ls at hl ⊢
  have hl : lv_has ls 1 [(0, .int xa)] := hl
  unfold F_X5_checkCount at hF
  refine w_go (fun Q hQ => ?_)
  refine lv_iload_n hx hb dX5_checkCount_0 rfl (lv_at hl 0 rfl) ?_
  refine lv_iconst (v := 1) hx hb dX5_checkCount_1 (by decide) ?_
  refine lv_icmp_lt (tgt := 12) hx hb dX5_checkCount_2 (by decide) (fun hc1 => ?_) (fun hc1 => ?_)
  · have hF := br_pos hc1 hF
    cases hF
  · have hF := br_neg hc1 hF
    refine lv_iload_n hx hb dX5_checkCount_5 rfl (lv_at hl 0 rfl) ?_
    refine lv_sipush (v := 500) hx hb dX5_checkCount_6 (by decide) ?_
    refine lv_icmp_le (tgt := 23) hx hb dX5_checkCount_9 (by decide) (fun hc2 => ?_) (fun hc2 => ?_)
    · have hF := br_pos hc2 hF
      subst hQ
      exact W.vret hx hb hr (fun t ht hW => ⟨⟨(), rfl, trivial, po_mk ht hW hP hK hD⟩, hS.F ht⟩) hS.2.2 dX5_checkCount_23
    · have hF := br_neg hc2 hF
      cases hF

noncomputable def F_X5_checkWhat (Z : Mem) (xa : Int32) (xb : Int32) : Option Unit :=
  br (xa < (0 : Int32)) (none) (br (xa ≤ xb) (some ()) (none))

set_option maxHeartbeats 4000000 in
set_option maxRecDepth 100000 in
theorem c_X5_checkWhat (l : Launch) (dC : Nat → ClassId) (dI : Nat → Nat → Nat) (q : Nat → ClassId) (aa : Nat → Nat) (Z : Mem) (xa : Int32) (xb : Int32)  (sz : Nat) (ro : Unit) (hF : F_X5_checkWhat Z xa xb = some ro) : Met l yX5_checkWhat wsX5_checkWhat ({ frames := 2, cells := 0, slots := 0, locals := 40 }) (va_Pc [.int xa, .int xb] (pr_ dC dI (bw q aa Z) (bty q) sz)) (va_Qv (fun (_ : Unit) => True) (fun (_ : Unit) t => po_ dC dI (bw q aa Z) (bty q) (va_A (bw q aa Z) sz) t) (va_A (bw q aa Z) sz)) 0 0 (va_A (bw q aa Z) sz) := by
  refine Met.ofW (cc := cX5_checkWhat) (maxL := 2) (ret := none) (by decide) rfl ?_
  intro p e s m args below meth c s₁ B hml hv
  obtain ⟨hargs, hsz, hP, hK, hD0⟩ := hv
  have hx := B.exec
  have hb := B.bytes
  have hr := B.returns
  have hts := atoms_spec (ws := wsX5_checkWhat) B.pre
  have hown : s.vm.findClass RX5 = some m.cls := findClass_of_methodNamed B.named
  have hlocks := B.notSynchronized
  subst hsz
  have hD := hD0.self (sz := s.heap.size)
  generalize hAe : va_A (bw q aa Z) s.heap.size = A at hD ⊢
  have hA : ∀ x : Nat, s.heap.size ≤ x → A x := fun x h => by rw [← hAe]; exact Or.inr h
  have hS : va_S A s.heap s.heap [] := va_S.rf
  have hl := lv_entry ([.int xa, .int xb]) (n := 2) (Nat.le_of_ble_eq_true rfl)
  refine w_ent hargs ?_
  rw [lg_entry_eq]
  generalize (lg_sl ([.int xa, .int xb]) ++ List.replicate (2 - (lg_sl ([.int xa, .int xb])).length) Slot.unset).toArray = ls at hl ⊢
  have hl : lv_has ls 2 [(0, .int xa), (1, .int xb)] := hl
  unfold F_X5_checkWhat at hF
  refine w_go (fun Q hQ => ?_)
  refine lv_iload_n hx hb dX5_checkWhat_0 rfl (lv_at hl 0 rfl) ?_
  refine lv_if_lt (tgt := 9) hx hb dX5_checkWhat_1 (by decide) (fun hc1 => ?_) (fun hc1 => ?_)
  · have hF := br_pos hc1 hF
    cases hF
  · have hF := br_neg hc1 hF
    refine lv_iload_n hx hb dX5_checkWhat_4 rfl (lv_at hl 0 rfl) ?_
    refine lv_iload_n hx hb dX5_checkWhat_5 rfl (lv_at hl 1 rfl) ?_
    refine lv_icmp_le (tgt := 20) hx hb dX5_checkWhat_6 (by decide) (fun hc2 => ?_) (fun hc2 => ?_)
    · have hF := br_pos hc2 hF
      subst hQ
      exact W.vret hx hb hr (fun t ht hW => ⟨⟨(), rfl, trivial, po_mk ht hW hP hK hD⟩, hS.F ht⟩) hS.2.2 dX5_checkWhat_20
    · have hF := br_neg hc2 hF
      cases hF

noncomputable def F_X5_checkWay (Z : Mem) (xa : Int32) : Option Unit :=
  br (xa < (0 : Int32)) (none) (br (xa ≤ (3 : Int32)) (some ()) (none))

set_option maxHeartbeats 4000000 in
set_option maxRecDepth 100000 in
theorem c_X5_checkWay (l : Launch) (dC : Nat → ClassId) (dI : Nat → Nat → Nat) (q : Nat → ClassId) (aa : Nat → Nat) (Z : Mem) (xa : Int32)  (sz : Nat) (ro : Unit) (hF : F_X5_checkWay Z xa = some ro) : Met l yX5_checkWay wsX5_checkWay ({ frames := 2, cells := 0, slots := 0, locals := 40 }) (va_Pc [.int xa] (pr_ dC dI (bw q aa Z) (bty q) sz)) (va_Qv (fun (_ : Unit) => True) (fun (_ : Unit) t => po_ dC dI (bw q aa Z) (bty q) (va_A (bw q aa Z) sz) t) (va_A (bw q aa Z) sz)) 0 0 (va_A (bw q aa Z) sz) := by
  refine Met.ofW (cc := cX5_checkWay) (maxL := 1) (ret := none) (by decide) rfl ?_
  intro p e s m args below meth c s₁ B hml hv
  obtain ⟨hargs, hsz, hP, hK, hD0⟩ := hv
  have hx := B.exec
  have hb := B.bytes
  have hr := B.returns
  have hts := atoms_spec (ws := wsX5_checkWay) B.pre
  have hown : s.vm.findClass RX5 = some m.cls := findClass_of_methodNamed B.named
  have hlocks := B.notSynchronized
  subst hsz
  have hD := hD0.self (sz := s.heap.size)
  generalize hAe : va_A (bw q aa Z) s.heap.size = A at hD ⊢
  have hA : ∀ x : Nat, s.heap.size ≤ x → A x := fun x h => by rw [← hAe]; exact Or.inr h
  have hS : va_S A s.heap s.heap [] := va_S.rf
  have hl := lv_entry ([.int xa]) (n := 1) (Nat.le_of_ble_eq_true rfl)
  refine w_ent hargs ?_
  rw [lg_entry_eq]
  generalize (lg_sl ([.int xa]) ++ List.replicate (1 - (lg_sl ([.int xa])).length) Slot.unset).toArray = ls at hl ⊢
  have hl : lv_has ls 1 [(0, .int xa)] := hl
  unfold F_X5_checkWay at hF
  refine w_go (fun Q hQ => ?_)
  refine lv_iload_n hx hb dX5_checkWay_0 rfl (lv_at hl 0 rfl) ?_
  refine lv_if_lt (tgt := 9) hx hb dX5_checkWay_1 (by decide) (fun hc1 => ?_) (fun hc1 => ?_)
  · have hF := br_pos hc1 hF
    cases hF
  · have hF := br_neg hc1 hF
    refine lv_iload_n hx hb dX5_checkWay_4 rfl (lv_at hl 0 rfl) ?_
    refine lv_iconst (v := 3) hx hb dX5_checkWay_5 (by decide) ?_
    refine lv_icmp_le (tgt := 20) hx hb dX5_checkWay_6 (by decide) (fun hc2 => ?_) (fun hc2 => ?_)
    · have hF := br_pos hc2 hF
      subst hQ
      exact W.vret hx hb hr (fun t ht hW => ⟨⟨(), rfl, trivial, po_mk ht hW hP hK hD⟩, hS.F ht⟩) hS.2.2 dX5_checkWay_20
    · have hF := br_neg hc2 hF
      cases hF

noncomputable def F_X5_checkHouse (Z : Mem) (xa : Int32) : Option Unit :=
  br (xa < (1 : Int32)) (none) (br (xa ≤ (60 : Int32)) (some ()) (none))

set_option maxHeartbeats 4000000 in
set_option maxRecDepth 100000 in
theorem c_X5_checkHouse (l : Launch) (dC : Nat → ClassId) (dI : Nat → Nat → Nat) (q : Nat → ClassId) (aa : Nat → Nat) (Z : Mem) (xa : Int32)  (sz : Nat) (ro : Unit) (hF : F_X5_checkHouse Z xa = some ro) : Met l yX5_checkHouse wsX5_checkHouse ({ frames := 2, cells := 0, slots := 0, locals := 40 }) (va_Pc [.int xa] (pr_ dC dI (bw q aa Z) (bty q) sz)) (va_Qv (fun (_ : Unit) => True) (fun (_ : Unit) t => po_ dC dI (bw q aa Z) (bty q) (va_A (bw q aa Z) sz) t) (va_A (bw q aa Z) sz)) 0 0 (va_A (bw q aa Z) sz) := by
  refine Met.ofW (cc := cX5_checkHouse) (maxL := 1) (ret := none) (by decide) rfl ?_
  intro p e s m args below meth c s₁ B hml hv
  obtain ⟨hargs, hsz, hP, hK, hD0⟩ := hv
  have hx := B.exec
  have hb := B.bytes
  have hr := B.returns
  have hts := atoms_spec (ws := wsX5_checkHouse) B.pre
  have hown : s.vm.findClass RX5 = some m.cls := findClass_of_methodNamed B.named
  have hlocks := B.notSynchronized
  subst hsz
  have hD := hD0.self (sz := s.heap.size)
  generalize hAe : va_A (bw q aa Z) s.heap.size = A at hD ⊢
  have hA : ∀ x : Nat, s.heap.size ≤ x → A x := fun x h => by rw [← hAe]; exact Or.inr h
  have hS : va_S A s.heap s.heap [] := va_S.rf
  have hl := lv_entry ([.int xa]) (n := 1) (Nat.le_of_ble_eq_true rfl)
  refine w_ent hargs ?_
  rw [lg_entry_eq]
  generalize (lg_sl ([.int xa]) ++ List.replicate (1 - (lg_sl ([.int xa])).length) Slot.unset).toArray = ls at hl ⊢
  have hl : lv_has ls 1 [(0, .int xa)] := hl
  unfold F_X5_checkHouse at hF
  refine w_go (fun Q hQ => ?_)
  refine lv_iload_n hx hb dX5_checkHouse_0 rfl (lv_at hl 0 rfl) ?_
  refine lv_iconst (v := 1) hx hb dX5_checkHouse_1 (by decide) ?_
  refine lv_icmp_lt (tgt := 11) hx hb dX5_checkHouse_2 (by decide) (fun hc1 => ?_) (fun hc1 => ?_)
  · have hF := br_pos hc1 hF
    cases hF
  · have hF := br_neg hc1 hF
    refine lv_iload_n hx hb dX5_checkHouse_5 rfl (lv_at hl 0 rfl) ?_
    refine lv_bipush (v := 60) hx hb dX5_checkHouse_6 (by decide) ?_
    refine lv_icmp_le (tgt := 22) hx hb dX5_checkHouse_8 (by decide) (fun hc2 => ?_) (fun hc2 => ?_)
    · have hF := br_pos hc2 hF
      subst hQ
      exact W.vret hx hb hr (fun t ht hW => ⟨⟨(), rfl, trivial, po_mk ht hW hP hK hD⟩, hS.F ht⟩) hS.2.2 dX5_checkHouse_22
    · have hF := br_neg hc2 hF
      cases hF

noncomputable def F_X5_checkRule (Z : Mem) (xa : Int32) : Option Unit :=
  br (xa < (0 : Int32)) (none) (br (xa ≤ (2 : Int32)) (some ()) (none))

set_option maxHeartbeats 4000000 in
set_option maxRecDepth 100000 in
theorem c_X5_checkRule (l : Launch) (dC : Nat → ClassId) (dI : Nat → Nat → Nat) (q : Nat → ClassId) (aa : Nat → Nat) (Z : Mem) (xa : Int32)  (sz : Nat) (ro : Unit) (hF : F_X5_checkRule Z xa = some ro) : Met l yX5_checkRule wsX5_checkRule ({ frames := 2, cells := 0, slots := 0, locals := 40 }) (va_Pc [.int xa] (pr_ dC dI (bw q aa Z) (bty q) sz)) (va_Qv (fun (_ : Unit) => True) (fun (_ : Unit) t => po_ dC dI (bw q aa Z) (bty q) (va_A (bw q aa Z) sz) t) (va_A (bw q aa Z) sz)) 0 0 (va_A (bw q aa Z) sz) := by
  refine Met.ofW (cc := cX5_checkRule) (maxL := 1) (ret := none) (by decide) rfl ?_
  intro p e s m args below meth c s₁ B hml hv
  obtain ⟨hargs, hsz, hP, hK, hD0⟩ := hv
  have hx := B.exec
  have hb := B.bytes
  have hr := B.returns
  have hts := atoms_spec (ws := wsX5_checkRule) B.pre
  have hown : s.vm.findClass RX5 = some m.cls := findClass_of_methodNamed B.named
  have hlocks := B.notSynchronized
  subst hsz
  have hD := hD0.self (sz := s.heap.size)
  generalize hAe : va_A (bw q aa Z) s.heap.size = A at hD ⊢
  have hA : ∀ x : Nat, s.heap.size ≤ x → A x := fun x h => by rw [← hAe]; exact Or.inr h
  have hS : va_S A s.heap s.heap [] := va_S.rf
  have hl := lv_entry ([.int xa]) (n := 1) (Nat.le_of_ble_eq_true rfl)
  refine w_ent hargs ?_
  rw [lg_entry_eq]
  generalize (lg_sl ([.int xa]) ++ List.replicate (1 - (lg_sl ([.int xa])).length) Slot.unset).toArray = ls at hl ⊢
  have hl : lv_has ls 1 [(0, .int xa)] := hl
  unfold F_X5_checkRule at hF
  refine w_go (fun Q hQ => ?_)
  refine lv_iload_n hx hb dX5_checkRule_0 rfl (lv_at hl 0 rfl) ?_
  refine lv_if_lt (tgt := 9) hx hb dX5_checkRule_1 (by decide) (fun hc1 => ?_) (fun hc1 => ?_)
  · have hF := br_pos hc1 hF
    cases hF
  · have hF := br_neg hc1 hF
    refine lv_iload_n hx hb dX5_checkRule_4 rfl (lv_at hl 0 rfl) ?_
    refine lv_iconst (v := 2) hx hb dX5_checkRule_5 (by decide) ?_
    refine lv_icmp_le (tgt := 20) hx hb dX5_checkRule_6 (by decide) (fun hc2 => ?_) (fun hc2 => ?_)
    · have hF := br_pos hc2 hF
      subst hQ
      exact W.vret hx hb hr (fun t ht hW => ⟨⟨(), rfl, trivial, po_mk ht hW hP hK hD⟩, hS.F ht⟩) hS.2.2 dX5_checkRule_20
    · have hF := br_neg hc2 hF
      cases hF

noncomputable def F_X5_checkOpen (Z : Mem) : Option Unit :=
  bv (Z.1 1 9) fun y1 => br (y1 = (0 : Int32)) (some ()) (none)

set_option maxHeartbeats 4000000 in
set_option maxRecDepth 100000 in
theorem c_X5_checkOpen (l : Launch) (dC : Nat → ClassId) (dI : Nat → Nat → Nat) (q : Nat → ClassId) (aa : Nat → Nat) (Z : Mem)   (sz : Nat) (ro : Unit) (hF : F_X5_checkOpen Z  = some ro) : Met l yX5_checkOpen wsX5_checkOpen ({ frames := 2, cells := 0, slots := 0, locals := 40 }) (va_Pc [.ref (aa 0)] (pr_ dC dI (bw q aa Z) (bty q) sz)) (va_Qv (fun (_ : Unit) => True) (fun (_ : Unit) t => po_ dC dI (bw q aa Z) (bty q) (va_A (bw q aa Z) sz) t) (va_A (bw q aa Z) sz)) 0 0 (va_A (bw q aa Z) sz) := by
  refine Met.ofW (cc := cX5_checkOpen) (maxL := 1) (ret := none) (by decide) rfl ?_
  intro p e s m args below meth c s₁ B hml hv
  obtain ⟨hargs, hsz, hP, hK, hD0⟩ := hv
  have hx := B.exec
  have hb := B.bytes
  have hr := B.returns
  have hts := atoms_spec (ws := wsX5_checkOpen) B.pre
  have hown : s.vm.findClass RX5 = some m.cls := findClass_of_methodNamed B.named
  have hlocks := B.notSynchronized
  subst hsz
  have hD := hD0.self (sz := s.heap.size)
  generalize hAe : va_A (bw q aa Z) s.heap.size = A at hD ⊢
  have hA : ∀ x : Nat, s.heap.size ≤ x → A x := fun x h => by rw [← hAe]; exact Or.inr h
  have hS : va_S A s.heap s.heap [] := va_S.rf
  have hinX0 : ∀ w ∈ u_ws RX0 TX0 11, w ∈ wsX5_checkOpen := by decide +kernel
  have hinX5 : ∀ w ∈ u_ws RX5 TX5 5, w ∈ wsX5_checkOpen := by decide +kernel
  have hl := lv_entry ([.ref (aa 0)]) (n := 1) (Nat.le_of_ble_eq_true rfl)
  refine w_ent hargs ?_
  rw [lg_entry_eq]
  generalize (lg_sl ([.ref (aa 0)]) ++ List.replicate (1 - (lg_sl ([.ref (aa 0)])).length) Slot.unset).toArray = ls at hl ⊢
  have hl : lv_has ls 1 [(0, .ref (aa 0))] := hl
  unfold F_X5_checkOpen at hF
  refine w_go (fun Q hQ => ?_)
  refine lv_aload_n hx hb dX5_checkOpen_0 rfl (lv_at hl 0 rfl) ?_
  refine va_get (D := (dC, dI)) (ci := 7) (v := .ref (aa 1)) (C := RX5) (T := TX5) (N := 5) hx hb hts hinX5 hown hK hP 0 (bw_at (i := 0) (by decide) rfl) rfl 0 (by decide) (hts (.fieldLink RX5 10 "BallotLoom" "box" "LBallotLoom$Box;") (by decide +kernel)) (fun _ h9 => h9) rfl dX5_checkOpen_1 ?_
  refine va_get (D := (dC, dI)) (ci := 2) (v := .int (Z.1 1 9)) (C := RX0) (T := TX0) (N := 11) hx hb hts hinX0 hown hK hP 1 (bw_at (i := 1) (by decide) rfl) rfl 9 (by decide) (hts (.fieldLink RX5 141 "BallotLoom$Box" "isSealed" "Z") (by decide +kernel)) (fun _ h9 => h9) rfl dX5_checkOpen_4 ?_
  refine lv_topi (fun y1 ey1 => ?_)
  have hF := bv_at ey1 hF
  refine lv_if_eq (tgt := 21) hx hb dX5_checkOpen_7 (by decide) (fun hc2 => ?_) (fun hc2 => ?_)
  · have hF := br_pos hc2 hF
    subst hQ
    exact W.vret hx hb hr (fun t ht hW => ⟨⟨(), rfl, trivial, po_mk ht hW hP hK hD⟩, hS.F ht⟩) hS.2.2 dX5_checkOpen_21
  · have hF := br_neg hc2 hF
    cases hF
