/-! p31: 14.rounds (laid by wip/gen31/bgen.py) -/
noncomputable def F_X2_countBehind_x26 (Z3 : Mem) (w2 : Int32) : Option (Mem × Int32) :=
  some (Z3, w2)

noncomputable def F_X2_countBehind_j66 (Z6 : Mem) (u4 : Int32) (u5 : Int32) (B_26 : Mem → Int32 → Int32 → Option (Mem × Int32)) (v14 : Int32) : Option (Mem × Int32) :=
  br (v14 = ((-1) : Int32)) (B_26 Z6 u4 (u5 + (1 : Int32))) (gd (¬ (v14 < 0 ∨ 6 ≤ ix v14)) <| bv (Z6.1 13 (ix v14)) fun y17 => bv (Z6.1 (39 + (ix u5)) 2) fun y18 => bv (y17 + y18) fun y19 => bv (si Z6 13 (ix v14) y19) fun Z20 => bv (Z20.1 (39 + (ix u5)) 2) fun y21 => bv (u4 + y21) fun y22 => B_26 Z20 y22 (u5 + (1 : Int32)))

noncomputable def F_X2_countBehind_l26 (xa : Int32) (K_26 : Mem → Int32 → Option (Mem × Int32)) : Nat → Mem → Int32 → Int32 → Option (Mem × Int32)
  | 0, _, _, _ => none
  | n26 + 1, Z6, u4, u5 =>
  bv (Z6.1 1 7) fun y7 => br (y7 ≤ u5) (K_26 Z6 u4) (gd (¬ (u5 < 0 ∨ 24 ≤ ix u5)) <| calp (F_X3_countsIn Z6 (ix u5) xa) fun rr13 => br (rr13 = (0 : Int32)) ((F_X2_countBehind_j66 Z6 u4 u5 (F_X2_countBehind_l26 xa K_26 n26)) ((-1) : Int32)) (calp (F_X3_firstOf_12 Z6 (ix u5)) fun rr26 => (F_X2_countBehind_j66 Z6 u4 u5 (F_X2_countBehind_l26 xa K_26 n26)) rr26))

noncomputable def F_X2_countBehind_x2 (xa : Int32) (Z1 : Mem) : Option (Mem × Int32) :=
  F_X2_countBehind_l26 xa F_X2_countBehind_x26 100 Z1 (0 : Int32) (0 : Int32)

noncomputable def F_X2_countBehind_l2 (K_2 : Mem → Option (Mem × Int32)) : Nat → Mem → Int32 → Option (Mem × Int32)
  | 0, _, _ => none
  | n2 + 1, Z28, u27 =>
  br ((6 : Int32) ≤ u27) (K_2 Z28) (gd (¬ (u27 < 0 ∨ 6 ≤ ix u27)) <| bv (si Z28 13 (ix u27) (0 : Int32)) fun Z31 => (F_X2_countBehind_l2 K_2 n2) Z31 (u27 + (1 : Int32)))

noncomputable def F_X2_countBehind (Z : Mem) (xa : Int32) : Option (Mem × Int32) :=
  F_X2_countBehind_l2 (F_X2_countBehind_x2 xa) 100 Z (0 : Int32)

set_option maxHeartbeats 4000000 in
set_option maxRecDepth 100000 in
theorem c_X2_countBehind (l : Launch) (dC : Nat → ClassId) (dI : Nat → Nat → Nat) (q : Nat → ClassId) (aa : Nat → Nat) (Z : Mem) (xa : Int32)  (sz : Nat) (Zo : Mem) (ro : Int32) (hF : F_X2_countBehind Z xa = some (Zo, ro)) : Met l yX2_countBehind wsX2_countBehind ({ frames := 3, cells := 0, slots := 0, locals := 62 }) (va_Pc [.ref (aa 6), .ref (aa 1), .int xa] (pr_ dC dI (bw q aa Z) (bty q) sz)) (va_Qi (fun (r : Int32) (_ : Unit) => r = ro) (fun (_ : Unit) t => po_ dC dI (bw q aa Zo) (bty q) (va_A (bw q aa Z) sz) t) (va_A (bw q aa Z) sz)) 0 0 (va_A (bw q aa Z) sz) := by
  refine Met.ofW (cc := cX2_countBehind) (maxL := 7) (ret := (some .int)) (by decide) rfl ?_
  intro p e s m args below meth c s₁ B hml hv
  obtain ⟨hargs, hsz, hP, hK, hD0⟩ := hv
  have hx := B.exec
  have hb := B.bytes
  have hr := B.returns
  have hts := atoms_spec (ws := wsX2_countBehind) B.pre
  have hown : s.vm.findClass RX2 = some m.cls := findClass_of_methodNamed B.named
  have hlocks := B.notSynchronized
  subst hsz
  have hD := hD0.self (sz := s.heap.size)
  generalize hAe : va_A (bw q aa Z) s.heap.size = A at hD ⊢
  have hA : ∀ x : Nat, s.heap.size ≤ x → A x := fun x h => by rw [← hAe]; exact Or.inr h
  have hS : va_S A s.heap s.heap [] := va_S.rf
  have hinX0 : ∀ w ∈ u_ws RX0 TX0 11, w ∈ wsX2_countBehind := by decide +kernel
  have hinX2 : ∀ w ∈ u_ws RX2 TX2 7, w ∈ wsX2_countBehind := by decide +kernel
  have hinX3 : ∀ w ∈ u_ws RX3 TX3 7, w ∈ wsX2_countBehind := by decide +kernel
  have hl := lv_entry ([.ref (aa 6), .ref (aa 1), .int xa]) (n := 7) (Nat.le_of_ble_eq_true rfl)
  refine w_ent hargs ?_
  rw [lg_entry_eq]
  generalize (lg_sl ([.ref (aa 6), .ref (aa 1), .int xa]) ++ List.replicate (7 - (lg_sl ([.ref (aa 6), .ref (aa 1), .int xa])).length) Slot.unset).toArray = ls at hl ⊢
  have hl : lv_has ls 7 [(0, .ref (aa 6)), (1, .ref (aa 1)), (2, .int xa)] := hl
  unfold F_X2_countBehind at hF
  refine w_go (fun Q hQ => ?_)
  refine lv_iconst (v := 0) hx hb dX2_countBehind_0 (by decide) ?_
  refine lv_istore_n (lv' := [(3, .int 0), (0, .ref (aa 6)), (1, .ref (aa 1)), (2, .int xa)]) hx hb dX2_countBehind_1 rfl hl (by decide) rfl (fun ls hl => ?_)
  have Jx2 : ∀ (Z1 : Mem) (H : Heap) (locs : List Loc) (ls : Array Slot), (F_X2_countBehind_x2 xa) Z1 = some (Zo, ro) → va_P (dC, dI) vwCl (bw q aa Z1) H → va_D A (bw q aa Z1) → va_S A s.heap H locs → lv_has ls 7 [(0, .ref (aa 6)), (1, .ref (aa 1)), (2, .int xa)] → W p l e (headSpec wsX2_countBehind ({ frames := 3, cells := 0, slots := 0, locals := 62 } : Room)).room s m args below meth c H locs 0 0 Q (F0 m 21 ls []) := by
    intro Z1 H locs ls hF hP hD hS hl
    unfold F_X2_countBehind_x2 at hF
    refine lv_iconst (v := 0) hx hb dX2_countBehind_21 (by decide) ?_
    refine lv_istore_n (lv' := [(3, .int 0), (0, .ref (aa 6)), (1, .ref (aa 1)), (2, .int xa)]) hx hb dX2_countBehind_22 rfl hl (by decide) rfl (fun ls hl => ?_)
    refine lv_iconst (v := 0) hx hb dX2_countBehind_23 (by decide) ?_
    refine lv_istore (lv' := [(4, .int 0), (3, .int 0), (0, .ref (aa 6)), (1, .ref (aa 1)), (2, .int xa)]) hx hb dX2_countBehind_24 hl (by decide) rfl (fun ls hl => ?_)
    have Jx26 : ∀ (Z3 : Mem) (w2 : Int32) (H : Heap) (locs : List Loc) (ls : Array Slot), F_X2_countBehind_x26 Z3 w2 = some (Zo, ro) → va_P (dC, dI) vwCl (bw q aa Z3) H → va_D A (bw q aa Z3) → va_S A s.heap H locs → lv_has ls 7 [(3, .int w2)] → W p l e (headSpec wsX2_countBehind ({ frames := 3, cells := 0, slots := 0, locals := 62 } : Room)).room s m args below meth c H locs 0 0 Q (F0 m 103 ls []) := by
      intro Z3 w2 H locs ls hF hP hD hS hl
      unfold F_X2_countBehind_x26 at hF
      refine lv_iload_n hx hb dX2_countBehind_103 rfl (lv_at hl 0 rfl) ?_
      obtain ⟨e8, e9⟩ := some2 hF
      rw [← e8] at hP hD
      subst hQ
      exact W.iret (v := w2) hx hb hr (fun t ht hW => ⟨⟨w2, (), rfl, e9.symm, po_mk ht hW hP hK hD⟩, hS.F ht⟩) hS.2.2 dX2_countBehind_104
    have L26 : ∀ (n26 : Nat) (Z6 : Mem) (u4 : Int32) (u5 : Int32) (H : Heap) (locs : List Loc) (ls : Array Slot), F_X2_countBehind_l26 xa F_X2_countBehind_x26 n26 Z6 u4 u5 = some (Zo, ro) → va_P (dC, dI) vwCl (bw q aa Z6) H → va_D A (bw q aa Z6) → va_S A s.heap H locs → lv_has ls 7 [(4, .int u5), (3, .int u4), (0, .ref (aa 6)), (1, .ref (aa 1)), (2, .int xa)] → W p l e (headSpec wsX2_countBehind ({ frames := 3, cells := 0, slots := 0, locals := 62 } : Room)).room s m args below meth c H locs 0 0 Q (F0 m 26 ls []) := by
      intro n26
      induction n26 with
      | zero =>
        intro Z6 u4 u5 H locs ls hF
        rw [F_X2_countBehind_l26] at hF
        cases hF
      | succ n26 IH26 =>
        intro Z6 u4 u5 H locs ls hF hP hD hS hl
        rw [F_X2_countBehind_l26] at hF
        refine lv_iload hx hb dX2_countBehind_26 (lv_at hl 0 rfl) ?_
        refine lv_aload_n hx hb dX2_countBehind_28 rfl (lv_at hl 3 rfl) ?_
        refine va_get (D := (dC, dI)) (ci := 2) (v := .int (Z6.1 1 7)) (C := RX0) (T := TX0) (N := 11) hx hb hts hinX0 hown hK hP 1 (bw_at (i := 1) (by decide) rfl) rfl 7 (by decide) (hts (.fieldLink RX2 61 "BallotLoom$Box" "cast" "I") (by decide +kernel)) (fun _ h9 => h9) rfl dX2_countBehind_29 ?_
        refine lv_topi (fun y7 ey7 => ?_)
        have hF := bv_at ey7 hF
        refine lv_icmp_ge (tgt := 103) hx hb dX2_countBehind_32 (by decide) (fun hc8 => ?_) (fun hc8 => ?_)
        · have hF := br_pos hc8 hF
          exact Jx26 Z6 u4 _ _ _ hF hP hD hS (lv_sub hl [1] rfl)
        · have hF := br_neg hc8 hF
          refine lv_aload_n hx hb dX2_countBehind_35 rfl (lv_at hl 3 rfl) ?_
          refine va_get (D := (dC, dI)) (ci := 2) (v := .ref (aa 5)) (C := RX0) (T := TX0) (N := 11) hx hb hts hinX0 hown hK hP 1 (bw_at (i := 1) (by decide) rfl) rfl 6 (by decide) (hts (.fieldLink RX2 67 "BallotLoom$Box" "stacks" "[LBallotLoom$Stack;") (by decide +kernel)) (fun _ h9 => h9) rfl dX2_countBehind_36 ?_
          refine lv_iload hx hb dX2_countBehind_39 (lv_at hl 0 rfl) ?_
          obtain ⟨hg9, hF⟩ := gd_some hF
          have hk10 : ix u5 < 25 := in_lt hg9 (by decide)
          refine bq_ald (v := (aa (39 + (ix u5)))) (hty := rfl) hx hb hK hP 5 3 (at_q (by decide) (fun _ _ => rfl)) rfl hg9 (if_pos (in_lt hg9 (Nat.le_refl _))) dX2_countBehind_41 ?_
          refine lv_astore (lv' := [(5, .ref (aa (39 + (ix u5)))), (4, .int u5), (3, .int u4), (0, .ref (aa 6)), (1, .ref (aa 1)), (2, .int xa)]) hx hb dX2_countBehind_42 hl (by decide) rfl (fun ls hl => ?_)
          refine lv_aload hx hb dX2_countBehind_44 (lv_at hl 0 rfl) ?_
          refine lv_iload_n hx hb dX2_countBehind_46 rfl (lv_at hl 5 rfl) ?_
          obtain ⟨r12, hC11, hF⟩ := calp_some hF
          have hFc := b_free (ws := bw q aa Z6) hD hS hA
          refine va_calli (va_runV (As := [.int xa]) (rest := []) ⟨hx, hb, hml, hown, hts⟩ (c_X3_countsIn l dC dI q aa Z6 (ix u5) xa hk10 _ _  hC11) (cwV 1 hts gX2_countBehind_X3_countsIn rfl rfl rfl (by decide +kernel) ⟨Nat.le_of_ble_eq_true rfl, Nat.le_of_ble_eq_true rfl⟩) ⟨pr_blind, va_recv hK hP (ci := 5) (q0 := (39 + (ix u5))) rfl (bw_at (i := 39 + (ix u5)) (by omega) (bk_stk hk10 _ _)), fun U hU hW => ⟨rfl, pr_mk hU hW hP hK hD⟩⟩ rfl rfl hl.1 rfl (lv_room (Nat.le_of_ble_eq_true rfl)) dX2_countBehind_47 ⟨Nat.le_of_ble_eq_true rfl, Nat.le_of_ble_eq_true rfl⟩) hS (fun x _ h => hFc x h) hFc (fun rr13 u t H1 locs ht hvm hw hB hz1 hk1 hS => ?_)
          obtain ⟨hP, hK1, hD1⟩ := hB
          rw [ht] at hP
          have hD := hD1.weaken (fun _ q9 _ h9 => hFc q9.1 h9)
          clear hFc hD1 hK1 hvm hz1 hk1
          generalize H1 = H at hP hS ⊢
          refine W.widen (k := 0) (n := 0) (Nat.le_refl _) (Nat.le_refl _) ?_
          obtain rfl : rr13 = r12 := hw
          have Jj66 : ∀ (v14 : Int32) (H : Heap) (locs : List Loc) (ls : Array Slot), (F_X2_countBehind_j66 Z6 u4 u5 (F_X2_countBehind_l26 xa F_X2_countBehind_x26 n26)) v14 = some (Zo, ro) → va_P (dC, dI) vwCl (bw q aa Z6) H → va_D A (bw q aa Z6) → va_S A s.heap H locs → lv_has ls 7 [(5, .ref (aa (39 + (ix u5)))), (4, .int u5), (3, .int u4), (0, .ref (aa 6)), (1, .ref (aa 1)), (2, .int xa)] → W p l e (headSpec wsX2_countBehind ({ frames := 3, cells := 0, slots := 0, locals := 62 } : Room)).room s m args below meth c H locs 0 0 Q (F0 m 66 ls [.int v14]) := by
            intro v14 H locs ls hF hP hD hS hl
            unfold F_X2_countBehind_j66 at hF
            refine lv_istore (lv' := [(6, .int v14), (5, .ref (aa (39 + (ix u5)))), (4, .int u5), (3, .int u4), (0, .ref (aa 6)), (1, .ref (aa 1)), (2, .int xa)]) hx hb dX2_countBehind_66 hl (by decide) rfl (fun ls hl => ?_)
            refine lv_iload hx hb dX2_countBehind_68 (lv_at hl 0 rfl) ?_
            refine lv_iconst (v := (-1)) hx hb dX2_countBehind_70 (by decide) ?_
            refine lv_icmp_eq (tgt := 97) hx hb dX2_countBehind_71 (by decide) (fun hc15 => ?_) (fun hc15 => ?_)
            · have hF := br_pos hc15 hF
              refine lv_iinc (k := 2) (v := (u5 + (1 : Int32))) (lv' := [(4, .int (u5 + (1 : Int32))), (6, .int v14), (5, .ref (aa (39 + (ix u5)))), (3, .int u4), (0, .ref (aa 6)), (1, .ref (aa 1)), (2, .int xa)]) hx hb dX2_countBehind_97 hl rfl (ii_ _ _ _ (by decide)) (by decide) rfl (fun ls hl => ?_)
              refine lv_goto (tgt := 26) hx hb dX2_countBehind_100 (by decide) ?_
              exact IH26 Z6 u4 (u5 + (1 : Int32)) _ _ _ hF hP hD hS (lv_sub hl [0, 3, 4, 5, 6] rfl)
            · have hF := br_neg hc15 hF
              refine lv_aload_n hx hb dX2_countBehind_74 rfl (lv_at hl 4 rfl) ?_
              refine va_get (D := (dC, dI)) (ci := 4) (v := .ref (aa 13)) (C := RX2) (T := TX2) (N := 7) hx hb hts hinX2 hown hK hP 6 (bw_at (i := 6) (by decide) rfl) rfl 6 (by decide) (hts (.fieldLink RX2 34 "BallotLoom$Poll" "behind" "[I") (by decide +kernel)) (fun _ h9 => h9) rfl dX2_countBehind_75 ?_
              refine lv_iload hx hb dX2_countBehind_78 (lv_at hl 0 rfl) ?_
              refine lv_dup2_11 hx hb dX2_countBehind_80 rfl rfl ?_
              obtain ⟨hg16, hF⟩ := gd_some hF
              refine va_iald hx hb hK hP 13 0 (at_i (by decide) (fun _ _ => rfl)) rfl hg16 dX2_countBehind_81 ?_
              refine lv_topi (fun y17 ey17 => ?_)
              have hF := bv_at ey17 hF
              refine lv_aload hx hb dX2_countBehind_82 (lv_at hl 1 rfl) ?_
              refine va_get (D := (dC, dI)) (ci := 5) (v := .int (Z6.1 (39 + (ix u5)) 2)) (C := RX3) (T := TX3) (N := 7) hx hb hts hinX3 hown hK hP (39 + (ix u5)) (bw_at (i := 39 + (ix u5)) (by omega) (bk_stk hk10 _ _)) rfl 2 (by decide) (hts (.fieldLink RX2 83 "BallotLoom$Stack" "count" "I") (by decide +kernel)) (fun _ h9 => h9) rfl dX2_countBehind_84 ?_
              refine lv_topi (fun y18 ey18 => ?_)
              have hF := bv_at ey18 hF
              refine lv_iadd hx hb dX2_countBehind_87 ?_
              refine lv_topi (fun y19 ey19 => ?_)
              have hF := bv_at ey19 hF
              obtain ⟨Z20, eZ20, hF⟩ := bv_some hF
              refine va_iast hx hb hK hP hD hS 13 0 (at_i (by decide) (fun _ _ => rfl)) rfl hg16 dX2_countBehind_88 (fun H locs hP hD hS => ?_)
              have eW := wz_i (q := q) (aa := aa) (i := 13) (fun _ _ => rfl) eZ20
              have hP : va_P (dC, dI) vwCl (bw q aa Z20) H := eW ▸ hP
              have hD : va_D A (bw q aa Z20) := eW ▸ hD
              clear eW
              refine lv_iload_n hx hb dX2_countBehind_89 rfl (lv_at hl 3 rfl) ?_
              refine lv_aload hx hb dX2_countBehind_90 (lv_at hl 1 rfl) ?_
              refine va_get (D := (dC, dI)) (ci := 5) (v := .int (Z20.1 (39 + (ix u5)) 2)) (C := RX3) (T := TX3) (N := 7) hx hb hts hinX3 hown hK hP (39 + (ix u5)) (bw_at (i := 39 + (ix u5)) (by omega) (bk_stk hk10 _ _)) rfl 2 (by decide) (hts (.fieldLink RX2 83 "BallotLoom$Stack" "count" "I") (by decide +kernel)) (fun _ h9 => h9) rfl dX2_countBehind_92 ?_
              refine lv_topi (fun y21 ey21 => ?_)
              have hF := bv_at ey21 hF
              refine lv_iadd hx hb dX2_countBehind_95 ?_
              refine lv_topi (fun y22 ey22 => ?_)
              have hF := bv_at ey22 hF
              refine lv_istore_n (lv' := [(3, .int y22), (6, .int v14), (5, .ref (aa (39 + (ix u5)))), (4, .int u5), (0, .ref (aa 6)), (1, .ref (aa 1)), (2, .int xa)]) hx hb dX2_countBehind_96 rfl hl (by decide) rfl (fun ls hl => ?_)
              refine lv_iinc (k := 3) (v := (u5 + (1 : Int32))) (lv' := [(4, .int (u5 + (1 : Int32))), (3, .int y22), (6, .int v14), (5, .ref (aa (39 + (ix u5)))), (0, .ref (aa 6)), (1, .ref (aa 1)), (2, .int xa)]) hx hb dX2_countBehind_97 hl rfl (ii_ _ _ _ (by decide)) (by decide) rfl (fun ls hl => ?_)
              refine lv_goto (tgt := 26) hx hb dX2_countBehind_100 (by decide) ?_
              exact IH26 Z20 y22 (u5 + (1 : Int32)) _ _ _ hF hP hD hS (lv_sub hl [0, 1, 4, 5, 6] rfl)
          refine lv_if_eq (tgt := 65) hx hb dX2_countBehind_50 (by decide) (fun hc23 => ?_) (fun hc23 => ?_)
          · have hF := br_pos hc23 hF
            refine lv_iconst (v := (-1)) hx hb dX2_countBehind_65 (by decide) ?_
            exact Jj66 ((-1) : Int32) _ _ _ hF hP hD hS (lv_sub hl [0, 1, 2, 3, 4, 5] rfl)
          · have hF := br_neg hc23 hF
            refine lv_aload hx hb dX2_countBehind_53 (lv_at hl 0 rfl) ?_
            refine lv_aload_n hx hb dX2_countBehind_55 rfl (lv_at hl 3 rfl) ?_
            refine va_get (D := (dC, dI)) (ci := 4) (v := .ref (aa 12)) (C := RX2) (T := TX2) (N := 7) hx hb hts hinX2 hown hK hP 6 (bw_at (i := 6) (by decide) rfl) rfl 5 (by decide) (hts (.fieldLink RX2 30 "BallotLoom$Poll" "isIn" "[Z") (by decide +kernel)) (fun _ h9 => h9) rfl dX2_countBehind_56 ?_
            obtain ⟨r25, hC24, hF⟩ := calp_some hF
            have hFc := b_free (ws := bw q aa Z6) hD hS hA
            refine va_calli (va_runV (As := [.ref (aa 12)]) (rest := []) ⟨hx, hb, hml, hown, hts⟩ (c_X3_firstOf_12 l dC dI q aa Z6 (ix u5) hk10 _ _  hC24) (cwV 1 hts gX2_countBehind_X3_firstOf rfl rfl rfl (by decide +kernel) ⟨Nat.le_of_ble_eq_true rfl, Nat.le_of_ble_eq_true rfl⟩) ⟨pr_blind, va_recv hK hP (ci := 5) (q0 := (39 + (ix u5))) rfl (bw_at (i := 39 + (ix u5)) (by omega) (bk_stk hk10 _ _)), fun U hU hW => ⟨rfl, pr_mk hU hW hP hK hD⟩⟩ rfl rfl hl.1 rfl (lv_room (Nat.le_of_ble_eq_true rfl)) dX2_countBehind_59 ⟨Nat.le_of_ble_eq_true rfl, Nat.le_of_ble_eq_true rfl⟩) hS (fun x _ h => hFc x h) hFc (fun rr26 u t H1 locs ht hvm hw hB hz1 hk1 hS => ?_)
            obtain ⟨hP, hK1, hD1⟩ := hB
            rw [ht] at hP
            have hD := hD1.weaken (fun _ q9 _ h9 => hFc q9.1 h9)
            clear hFc hD1 hK1 hvm hz1 hk1
            generalize H1 = H at hP hS ⊢
            refine W.widen (k := 0) (n := 0) (Nat.le_refl _) (Nat.le_refl _) ?_
            obtain rfl : rr26 = r25 := hw
            refine lv_goto (tgt := 66) hx hb dX2_countBehind_62 (by decide) ?_
            exact Jj66 rr26 _ _ _ hF hP hD hS (lv_sub hl [0, 1, 2, 3, 4, 5] rfl)
    exact L26 100 Z1 (0 : Int32) (0 : Int32) _ _ _ hF hP hD hS (lv_sub hl [0, 1, 2, 3, 4] rfl)
  have L2 : ∀ (n2 : Nat) (Z28 : Mem) (u27 : Int32) (H : Heap) (locs : List Loc) (ls : Array Slot), F_X2_countBehind_l2 (F_X2_countBehind_x2 xa) n2 Z28 u27 = some (Zo, ro) → va_P (dC, dI) vwCl (bw q aa Z28) H → va_D A (bw q aa Z28) → va_S A s.heap H locs → lv_has ls 7 [(3, .int u27), (0, .ref (aa 6)), (1, .ref (aa 1)), (2, .int xa)] → W p l e (headSpec wsX2_countBehind ({ frames := 3, cells := 0, slots := 0, locals := 62 } : Room)).room s m args below meth c H locs 0 0 Q (F0 m 2 ls []) := by
    intro n2
    induction n2 with
    | zero =>
      intro Z28 u27 H locs ls hF
      rw [F_X2_countBehind_l2] at hF
      cases hF
    | succ n2 IH2 =>
      intro Z28 u27 H locs ls hF hP hD hS hl
      rw [F_X2_countBehind_l2] at hF
      refine lv_iload_n hx hb dX2_countBehind_2 rfl (lv_at hl 0 rfl) ?_
      refine lv_bipush (v := 6) hx hb dX2_countBehind_3 (by decide) ?_
      refine lv_icmp_ge (tgt := 21) hx hb dX2_countBehind_5 (by decide) (fun hc29 => ?_) (fun hc29 => ?_)
      · have hF := br_pos hc29 hF
        exact Jx2 Z28 _ _ _ hF hP hD hS (lv_sub hl [1, 2, 3] rfl)
      · have hF := br_neg hc29 hF
        refine lv_aload_n hx hb dX2_countBehind_8 rfl (lv_at hl 1 rfl) ?_
        refine va_get (D := (dC, dI)) (ci := 4) (v := .ref (aa 13)) (C := RX2) (T := TX2) (N := 7) hx hb hts hinX2 hown hK hP 6 (bw_at (i := 6) (by decide) rfl) rfl 6 (by decide) (hts (.fieldLink RX2 34 "BallotLoom$Poll" "behind" "[I") (by decide +kernel)) (fun _ h9 => h9) rfl dX2_countBehind_9 ?_
        refine lv_iload_n hx hb dX2_countBehind_12 rfl (lv_at hl 0 rfl) ?_
        refine lv_iconst (v := 0) hx hb dX2_countBehind_13 (by decide) ?_
        obtain ⟨hg30, hF⟩ := gd_some hF
        obtain ⟨Z31, eZ31, hF⟩ := bv_some hF
        refine va_iast hx hb hK hP hD hS 13 0 (at_i (by decide) (fun _ _ => rfl)) rfl hg30 dX2_countBehind_14 (fun H locs hP hD hS => ?_)
        have eW := wz_i (q := q) (aa := aa) (i := 13) (fun _ _ => rfl) eZ31
        have hP : va_P (dC, dI) vwCl (bw q aa Z31) H := eW ▸ hP
        have hD : va_D A (bw q aa Z31) := eW ▸ hD
        clear eW
        refine lv_iinc (k := 0) (v := (u27 + (1 : Int32))) (lv' := [(3, .int (u27 + (1 : Int32))), (0, .ref (aa 6)), (1, .ref (aa 1)), (2, .int xa)]) hx hb dX2_countBehind_15 hl rfl (ii_ _ _ _ (by decide)) (by decide) rfl (fun ls hl => ?_)
        refine lv_goto (tgt := 2) hx hb dX2_countBehind_18 (by decide) ?_
        exact IH2 Z31 (u27 + (1 : Int32)) _ _ _ hF hP hD hS (lv_sub hl [0, 1, 2, 3] rfl)
  exact L2 100 Z (0 : Int32) _ _ _ hF hP hD hS (lv_sub hl [0, 1, 2, 3] rfl)

noncomputable def F_X2_mostBehind_x4 (w1 : Int32) : Option Int32 :=
  some w1

noncomputable def F_X2_mostBehind_l4 (Z : Mem) (K_4 : Int32 → Option Int32) : Nat → Int32 → Int32 → Option Int32
  | 0, _, _ => none
  | n4 + 1, u2, u3 =>
  br ((6 : Int32) ≤ u3) (K_4 u2) (gd (¬ (u3 < 0 ∨ 6 ≤ ix u3)) <| bv (Z.1 12 (ix u3)) fun y6 => br (y6 = (0 : Int32)) ((F_X2_mostBehind_l4 Z K_4 n4) u2 (u3 + (1 : Int32))) (br (u2 = ((-1) : Int32)) ((F_X2_mostBehind_l4 Z K_4 n4) u3 (u3 + (1 : Int32))) (bv (Z.1 13 (ix u3)) fun y9 => gd (¬ (u2 < 0 ∨ 6 ≤ ix u2)) <| bv (Z.1 13 (ix u2)) fun y11 => br (y9 ≤ y11) ((F_X2_mostBehind_l4 Z K_4 n4) u2 (u3 + (1 : Int32))) ((F_X2_mostBehind_l4 Z K_4 n4) u3 (u3 + (1 : Int32))))))

noncomputable def F_X2_mostBehind (Z : Mem) : Option Int32 :=
  F_X2_mostBehind_l4 Z F_X2_mostBehind_x4 100 ((-1) : Int32) (0 : Int32)

set_option maxHeartbeats 4000000 in
set_option maxRecDepth 100000 in
theorem c_X2_mostBehind (l : Launch) (dC : Nat → ClassId) (dI : Nat → Nat → Nat) (q : Nat → ClassId) (aa : Nat → Nat) (Z : Mem)   (sz : Nat) (ro : Int32) (hF : F_X2_mostBehind Z  = some ro) : Met l yX2_mostBehind wsX2_mostBehind ({ frames := 2, cells := 0, slots := 0, locals := 40 }) (va_Pc [.ref (aa 6)] (pr_ dC dI (bw q aa Z) (bty q) sz)) (va_Qi (fun (r : Int32) (_ : Unit) => r = ro) (fun (_ : Unit) t => po_ dC dI (bw q aa Z) (bty q) (va_A (bw q aa Z) sz) t) (va_A (bw q aa Z) sz)) 0 0 (va_A (bw q aa Z) sz) := by
  refine Met.ofW (cc := cX2_mostBehind) (maxL := 3) (ret := (some .int)) (by decide) rfl ?_
  intro p e s m args below meth c s₁ B hml hv
  obtain ⟨hargs, hsz, hP, hK, hD0⟩ := hv
  have hx := B.exec
  have hb := B.bytes
  have hr := B.returns
  have hts := atoms_spec (ws := wsX2_mostBehind) B.pre
  have hown : s.vm.findClass RX2 = some m.cls := findClass_of_methodNamed B.named
  have hlocks := B.notSynchronized
  subst hsz
  have hD := hD0.self (sz := s.heap.size)
  generalize hAe : va_A (bw q aa Z) s.heap.size = A at hD ⊢
  have hA : ∀ x : Nat, s.heap.size ≤ x → A x := fun x h => by rw [← hAe]; exact Or.inr h
  have hS : va_S A s.heap s.heap [] := va_S.rf
  have hinX2 : ∀ w ∈ u_ws RX2 TX2 7, w ∈ wsX2_mostBehind := by decide +kernel
  have hl := lv_entry ([.ref (aa 6)]) (n := 3) (Nat.le_of_ble_eq_true rfl)
  refine w_ent hargs ?_
  rw [lg_entry_eq]
  generalize (lg_sl ([.ref (aa 6)]) ++ List.replicate (3 - (lg_sl ([.ref (aa 6)])).length) Slot.unset).toArray = ls at hl ⊢
  have hl : lv_has ls 3 [(0, .ref (aa 6))] := hl
  unfold F_X2_mostBehind at hF
  refine w_go (fun Q hQ => ?_)
  refine lv_iconst (v := (-1)) hx hb dX2_mostBehind_0 (by decide) ?_
  refine lv_istore_n (lv' := [(1, .int (-1)), (0, .ref (aa 6))]) hx hb dX2_mostBehind_1 rfl hl (by decide) rfl (fun ls hl => ?_)
  refine lv_iconst (v := 0) hx hb dX2_mostBehind_2 (by decide) ?_
  refine lv_istore_n (lv' := [(2, .int 0), (1, .int (-1)), (0, .ref (aa 6))]) hx hb dX2_mostBehind_3 rfl hl (by decide) rfl (fun ls hl => ?_)
  have Jx4 : ∀ (w1 : Int32) (H : Heap) (locs : List Loc) (ls : Array Slot), F_X2_mostBehind_x4 w1 = some ro → va_P (dC, dI) vwCl (bw q aa Z) H → va_D A (bw q aa Z) → va_S A s.heap H locs → lv_has ls 3 [(1, .int w1)] → W p l e (headSpec wsX2_mostBehind ({ frames := 2, cells := 0, slots := 0, locals := 40 } : Room)).room s m args below meth c H locs 0 0 Q (F0 m 47 ls []) := by
    intro w1 H locs ls hF hP hD hS hl
    unfold F_X2_mostBehind_x4 at hF
    refine lv_iload_n hx hb dX2_mostBehind_47 rfl (lv_at hl 0 rfl) ?_
    have e9 := some1 hF
    subst hQ
    exact W.iret (v := w1) hx hb hr (fun t ht hW => ⟨⟨w1, (), rfl, e9.symm, po_mk ht hW hP hK hD⟩, hS.F ht⟩) hS.2.2 dX2_mostBehind_48
  have L4 : ∀ (n4 : Nat) (u2 : Int32) (u3 : Int32) (H : Heap) (locs : List Loc) (ls : Array Slot), F_X2_mostBehind_l4 Z F_X2_mostBehind_x4 n4 u2 u3 = some ro → va_P (dC, dI) vwCl (bw q aa Z) H → va_D A (bw q aa Z) → va_S A s.heap H locs → lv_has ls 3 [(2, .int u3), (1, .int u2), (0, .ref (aa 6))] → W p l e (headSpec wsX2_mostBehind ({ frames := 2, cells := 0, slots := 0, locals := 40 } : Room)).room s m args below meth c H locs 0 0 Q (F0 m 4 ls []) := by
    intro n4
    induction n4 with
    | zero =>
      intro u2 u3 H locs ls hF
      rw [F_X2_mostBehind_l4] at hF
      cases hF
    | succ n4 IH4 =>
      intro u2 u3 H locs ls hF hP hD hS hl
      rw [F_X2_mostBehind_l4] at hF
      refine lv_iload_n hx hb dX2_mostBehind_4 rfl (lv_at hl 0 rfl) ?_
      refine lv_bipush (v := 6) hx hb dX2_mostBehind_5 (by decide) ?_
      refine lv_icmp_ge (tgt := 47) hx hb dX2_mostBehind_7 (by decide) (fun hc4 => ?_) (fun hc4 => ?_)
      · have hF := br_pos hc4 hF
        exact Jx4 u2 _ _ _ hF hP hD hS (lv_sub hl [1] rfl)
      · have hF := br_neg hc4 hF
        refine lv_aload_n hx hb dX2_mostBehind_10 rfl (lv_at hl 2 rfl) ?_
        refine va_get (D := (dC, dI)) (ci := 4) (v := .ref (aa 12)) (C := RX2) (T := TX2) (N := 7) hx hb hts hinX2 hown hK hP 6 (bw_at (i := 6) (by decide) rfl) rfl 5 (by decide) (hts (.fieldLink RX2 30 "BallotLoom$Poll" "isIn" "[Z") (by decide +kernel)) (fun _ h9 => h9) rfl dX2_mostBehind_11 ?_
        refine lv_iload_n hx hb dX2_mostBehind_14 rfl (lv_at hl 0 rfl) ?_
        obtain ⟨hg5, hF⟩ := gd_some hF
        refine va_zald hx hb hK hP 12 1 (at_i (by decide) (fun _ _ => rfl)) rfl hg5 dX2_mostBehind_15 ?_
        refine lv_topi (fun y6 ey6 => ?_)
        have hF := bv_at ey6 hF
        refine lv_if_eq (tgt := 41) hx hb dX2_mostBehind_16 (by decide) (fun hc7 => ?_) (fun hc7 => ?_)
        · have hF := br_pos hc7 hF
          refine lv_iinc (k := 0) (v := (u3 + (1 : Int32))) (lv' := [(2, .int (u3 + (1 : Int32))), (1, .int u2), (0, .ref (aa 6))]) hx hb dX2_mostBehind_41 hl rfl (ii_ _ _ _ (by decide)) (by decide) rfl (fun ls hl => ?_)
          refine lv_goto (tgt := 4) hx hb dX2_mostBehind_44 (by decide) ?_
          exact IH4 u2 (u3 + (1 : Int32)) _ _ _ hF hP hD hS (lv_sub hl [0, 1, 2] rfl)
        · have hF := br_neg hc7 hF
          refine lv_iload_n hx hb dX2_mostBehind_19 rfl (lv_at hl 1 rfl) ?_
          refine lv_iconst (v := (-1)) hx hb dX2_mostBehind_20 (by decide) ?_
          refine lv_icmp_eq (tgt := 39) hx hb dX2_mostBehind_21 (by decide) (fun hc8 => ?_) (fun hc8 => ?_)
          · have hF := br_pos hc8 hF
            refine lv_iload_n hx hb dX2_mostBehind_39 rfl (lv_at hl 0 rfl) ?_
            refine lv_istore_n (lv' := [(1, .int u3), (2, .int u3), (0, .ref (aa 6))]) hx hb dX2_mostBehind_40 rfl hl (by decide) rfl (fun ls hl => ?_)
            refine lv_iinc (k := 1) (v := (u3 + (1 : Int32))) (lv' := [(2, .int (u3 + (1 : Int32))), (1, .int u3), (0, .ref (aa 6))]) hx hb dX2_mostBehind_41 hl rfl (ii_ _ _ _ (by decide)) (by decide) rfl (fun ls hl => ?_)
            refine lv_goto (tgt := 4) hx hb dX2_mostBehind_44 (by decide) ?_
            exact IH4 u3 (u3 + (1 : Int32)) _ _ _ hF hP hD hS (lv_sub hl [0, 1, 2] rfl)
          · have hF := br_neg hc8 hF
            refine lv_aload_n hx hb dX2_mostBehind_24 rfl (lv_at hl 2 rfl) ?_
            refine va_get (D := (dC, dI)) (ci := 4) (v := .ref (aa 13)) (C := RX2) (T := TX2) (N := 7) hx hb hts hinX2 hown hK hP 6 (bw_at (i := 6) (by decide) rfl) rfl 6 (by decide) (hts (.fieldLink RX2 34 "BallotLoom$Poll" "behind" "[I") (by decide +kernel)) (fun _ h9 => h9) rfl dX2_mostBehind_25 ?_
            refine lv_iload_n hx hb dX2_mostBehind_28 rfl (lv_at hl 0 rfl) ?_
            refine va_iald hx hb hK hP 13 0 (at_i (by decide) (fun _ _ => rfl)) rfl hg5 dX2_mostBehind_29 ?_
            refine lv_topi (fun y9 ey9 => ?_)
            have hF := bv_at ey9 hF
            refine lv_aload_n hx hb dX2_mostBehind_30 rfl (lv_at hl 2 rfl) ?_
            refine va_get (D := (dC, dI)) (ci := 4) (v := .ref (aa 13)) (C := RX2) (T := TX2) (N := 7) hx hb hts hinX2 hown hK hP 6 (bw_at (i := 6) (by decide) rfl) rfl 6 (by decide) (hts (.fieldLink RX2 34 "BallotLoom$Poll" "behind" "[I") (by decide +kernel)) (fun _ h9 => h9) rfl dX2_mostBehind_31 ?_
            refine lv_iload_n hx hb dX2_mostBehind_34 rfl (lv_at hl 1 rfl) ?_
            obtain ⟨hg10, hF⟩ := gd_some hF
            refine va_iald hx hb hK hP 13 0 (at_i (by decide) (fun _ _ => rfl)) rfl hg10 dX2_mostBehind_35 ?_
            refine lv_topi (fun y11 ey11 => ?_)
            have hF := bv_at ey11 hF
            refine lv_icmp_le (tgt := 41) hx hb dX2_mostBehind_36 (by decide) (fun hc12 => ?_) (fun hc12 => ?_)
            · have hF := br_pos hc12 hF
              refine lv_iinc (k := 0) (v := (u3 + (1 : Int32))) (lv' := [(2, .int (u3 + (1 : Int32))), (1, .int u2), (0, .ref (aa 6))]) hx hb dX2_mostBehind_41 hl rfl (ii_ _ _ _ (by decide)) (by decide) rfl (fun ls hl => ?_)
              refine lv_goto (tgt := 4) hx hb dX2_mostBehind_44 (by decide) ?_
              exact IH4 u2 (u3 + (1 : Int32)) _ _ _ hF hP hD hS (lv_sub hl [0, 1, 2] rfl)
            · have hF := br_neg hc12 hF
              refine lv_iload_n hx hb dX2_mostBehind_39 rfl (lv_at hl 0 rfl) ?_
              refine lv_istore_n (lv' := [(1, .int u3), (2, .int u3), (0, .ref (aa 6))]) hx hb dX2_mostBehind_40 rfl hl (by decide) rfl (fun ls hl => ?_)
              refine lv_iinc (k := 1) (v := (u3 + (1 : Int32))) (lv' := [(2, .int (u3 + (1 : Int32))), (1, .int u3), (0, .ref (aa 6))]) hx hb dX2_mostBehind_41 hl rfl (ii_ _ _ _ (by decide)) (by decide) rfl (fun ls hl => ?_)
              refine lv_goto (tgt := 4) hx hb dX2_mostBehind_44 (by decide) ?_
              exact IH4 u3 (u3 + (1 : Int32)) _ _ _ hF hP hD hS (lv_sub hl [0, 1, 2] rfl)
  exact L4 100 ((-1) : Int32) (0 : Int32) _ _ _ hF hP hD hS (lv_sub hl [0, 1, 2] rfl)

noncomputable def F_X2_isNoStronger (Z : Mem) (xa : Int32) (xb : Int32) : Option Int32 :=
  gd (¬ (xa < 0 ∨ 6 ≤ ix xa)) <| bv (Z.1 13 (ix xa)) fun y2 => gd (¬ (xb < 0 ∨ 6 ≤ ix xb)) <| bv (Z.1 13 (ix xb)) fun y4 => br (y2 = y4) (bv (Z.2 8 (ix xa)) fun y6 => bv (Z.2 8 (ix xb)) fun y7 => bv (Op.cmpValue (FP.dcmp y6 y7) .g) fun y8 => br ((0 : Int32) < y8) (some (0 : Int32)) (some (1 : Int32))) (bv (Z.1 13 (ix xa)) fun y10 => bv (Z.1 13 (ix xb)) fun y11 => br (y11 ≤ y10) (some (0 : Int32)) (some (1 : Int32)))

set_option maxHeartbeats 4000000 in
set_option maxRecDepth 100000 in
theorem c_X2_isNoStronger (l : Launch) (dC : Nat → ClassId) (dI : Nat → Nat → Nat) (q : Nat → ClassId) (aa : Nat → Nat) (Z : Mem) (xa : Int32) (xb : Int32)  (sz : Nat) (ro : Int32) (hF : F_X2_isNoStronger Z xa xb = some ro) : Met l yX2_isNoStronger wsX2_isNoStronger ({ frames := 2, cells := 0, slots := 0, locals := 40 }) (va_Pc [.ref (aa 6), .int xa, .int xb] (pr_ dC dI (bw q aa Z) (bty q) sz)) (va_Qi (fun (r : Int32) (_ : Unit) => r = ro) (fun (_ : Unit) t => po_ dC dI (bw q aa Z) (bty q) (va_A (bw q aa Z) sz) t) (va_A (bw q aa Z) sz)) 0 0 (va_A (bw q aa Z) sz) := by
  refine Met.ofW (cc := cX2_isNoStronger) (maxL := 3) (ret := (some .boolean)) (by decide) rfl ?_
  intro p e s m args below meth c s₁ B hml hv
  obtain ⟨hargs, hsz, hP, hK, hD0⟩ := hv
  have hx := B.exec
  have hb := B.bytes
  have hr := B.returns
  have hts := atoms_spec (ws := wsX2_isNoStronger) B.pre
  have hown : s.vm.findClass RX2 = some m.cls := findClass_of_methodNamed B.named
  have hlocks := B.notSynchronized
  subst hsz
  have hD := hD0.self (sz := s.heap.size)
  generalize hAe : va_A (bw q aa Z) s.heap.size = A at hD ⊢
  have hA : ∀ x : Nat, s.heap.size ≤ x → A x := fun x h => by rw [← hAe]; exact Or.inr h
  have hS : va_S A s.heap s.heap [] := va_S.rf
  have hinX2 : ∀ w ∈ u_ws RX2 TX2 7, w ∈ wsX2_isNoStronger := by decide +kernel
  have hl := lv_entry ([.ref (aa 6), .int xa, .int xb]) (n := 3) (Nat.le_of_ble_eq_true rfl)
  refine w_ent hargs ?_
  rw [lg_entry_eq]
  generalize (lg_sl ([.ref (aa 6), .int xa, .int xb]) ++ List.replicate (3 - (lg_sl ([.ref (aa 6), .int xa, .int xb])).length) Slot.unset).toArray = ls at hl ⊢
  have hl : lv_has ls 3 [(0, .ref (aa 6)), (1, .int xa), (2, .int xb)] := hl
  unfold F_X2_isNoStronger at hF
  refine w_go (fun Q hQ => ?_)
  refine lv_aload_n hx hb dX2_isNoStronger_0 rfl (lv_at hl 0 rfl) ?_
  refine va_get (D := (dC, dI)) (ci := 4) (v := .ref (aa 13)) (C := RX2) (T := TX2) (N := 7) hx hb hts hinX2 hown hK hP 6 (bw_at (i := 6) (by decide) rfl) rfl 6 (by decide) (hts (.fieldLink RX2 34 "BallotLoom$Poll" "behind" "[I") (by decide +kernel)) (fun _ h9 => h9) rfl dX2_isNoStronger_1 ?_
  refine lv_iload_n hx hb dX2_isNoStronger_4 rfl (lv_at hl 1 rfl) ?_
  obtain ⟨hg1, hF⟩ := gd_some hF
  refine va_iald hx hb hK hP 13 0 (at_i (by decide) (fun _ _ => rfl)) rfl hg1 dX2_isNoStronger_5 ?_
  refine lv_topi (fun y2 ey2 => ?_)
  have hF := bv_at ey2 hF
  refine lv_aload_n hx hb dX2_isNoStronger_6 rfl (lv_at hl 0 rfl) ?_
  refine va_get (D := (dC, dI)) (ci := 4) (v := .ref (aa 13)) (C := RX2) (T := TX2) (N := 7) hx hb hts hinX2 hown hK hP 6 (bw_at (i := 6) (by decide) rfl) rfl 6 (by decide) (hts (.fieldLink RX2 34 "BallotLoom$Poll" "behind" "[I") (by decide +kernel)) (fun _ h9 => h9) rfl dX2_isNoStronger_7 ?_
  refine lv_iload_n hx hb dX2_isNoStronger_10 rfl (lv_at hl 2 rfl) ?_
  obtain ⟨hg3, hF⟩ := gd_some hF
  refine va_iald hx hb hK hP 13 0 (at_i (by decide) (fun _ _ => rfl)) rfl hg3 dX2_isNoStronger_11 ?_
  refine lv_topi (fun y4 ey4 => ?_)
  have hF := bv_at ey4 hF
  refine lv_icmp_eq (tgt := 36) hx hb dX2_isNoStronger_12 (by decide) (fun hc5 => ?_) (fun hc5 => ?_)
  · have hF := br_pos hc5 hF
    refine lv_aload_n hx hb dX2_isNoStronger_36 rfl (lv_at hl 0 rfl) ?_
    refine va_get (D := (dC, dI)) (ci := 4) (v := .ref (aa 8)) (C := RX2) (T := TX2) (N := 7) hx hb hts hinX2 hown hK hP 6 (bw_at (i := 6) (by decide) rfl) rfl 1 (by decide) (hts (.fieldLink RX2 15 "BallotLoom$Poll" "points" "[D") (by decide +kernel)) (fun _ h9 => h9) rfl dX2_isNoStronger_37 ?_
    refine lv_iload_n hx hb dX2_isNoStronger_40 rfl (lv_at hl 1 rfl) ?_
    refine va_dald hx hb hK hP 8 2 (at_d (by decide) (fun _ _ => rfl)) rfl hg1 dX2_isNoStronger_41 ?_
    refine lv_topd (fun y6 ey6 => ?_)
    have hF := bv_at ey6 hF
    refine lv_aload_n hx hb dX2_isNoStronger_42 rfl (lv_at hl 0 rfl) ?_
    refine va_get (D := (dC, dI)) (ci := 4) (v := .ref (aa 8)) (C := RX2) (T := TX2) (N := 7) hx hb hts hinX2 hown hK hP 6 (bw_at (i := 6) (by decide) rfl) rfl 1 (by decide) (hts (.fieldLink RX2 15 "BallotLoom$Poll" "points" "[D") (by decide +kernel)) (fun _ h9 => h9) rfl dX2_isNoStronger_43 ?_
    refine lv_iload_n hx hb dX2_isNoStronger_46 rfl (lv_at hl 2 rfl) ?_
    refine va_dald hx hb hK hP 8 2 (at_d (by decide) (fun _ _ => rfl)) rfl hg3 dX2_isNoStronger_47 ?_
    refine lv_topd (fun y7 ey7 => ?_)
    have hF := bv_at ey7 hF
    refine lv_dcmp hx hb dX2_isNoStronger_48 ?_
    refine lv_topi (fun y8 ey8 => ?_)
    have hF := bv_at ey8 hF
    refine lv_if_gt (tgt := 56) hx hb dX2_isNoStronger_49 (by decide) (fun hc9 => ?_) (fun hc9 => ?_)
    · have hF := br_pos hc9 hF
      refine lv_iconst (v := 0) hx hb dX2_isNoStronger_56 (by decide) ?_
      have e9 := some1 hF
      subst hQ
      exact W.zret (v := 0) hx hb hr rfl (fun t ht hW => ⟨⟨0, (), rfl, e9.symm, po_mk ht hW hP hK hD⟩, hS.F ht⟩) hS.2.2 dX2_isNoStronger_57
    · have hF := br_neg hc9 hF
      refine lv_iconst (v := 1) hx hb dX2_isNoStronger_52 (by decide) ?_
      refine lv_goto (tgt := 57) hx hb dX2_isNoStronger_53 (by decide) ?_
      have e9 := some1 hF
      subst hQ
      exact W.zret (v := 1) hx hb hr rfl (fun t ht hW => ⟨⟨1, (), rfl, e9.symm, po_mk ht hW hP hK hD⟩, hS.F ht⟩) hS.2.2 dX2_isNoStronger_57
  · have hF := br_neg hc5 hF
    refine lv_aload_n hx hb dX2_isNoStronger_15 rfl (lv_at hl 0 rfl) ?_
    refine va_get (D := (dC, dI)) (ci := 4) (v := .ref (aa 13)) (C := RX2) (T := TX2) (N := 7) hx hb hts hinX2 hown hK hP 6 (bw_at (i := 6) (by decide) rfl) rfl 6 (by decide) (hts (.fieldLink RX2 34 "BallotLoom$Poll" "behind" "[I") (by decide +kernel)) (fun _ h9 => h9) rfl dX2_isNoStronger_16 ?_
    refine lv_iload_n hx hb dX2_isNoStronger_19 rfl (lv_at hl 1 rfl) ?_
    refine va_iald hx hb hK hP 13 0 (at_i (by decide) (fun _ _ => rfl)) rfl hg1 dX2_isNoStronger_20 ?_
    refine lv_topi (fun y10 ey10 => ?_)
    have hF := bv_at ey10 hF
    refine lv_aload_n hx hb dX2_isNoStronger_21 rfl (lv_at hl 0 rfl) ?_
    refine va_get (D := (dC, dI)) (ci := 4) (v := .ref (aa 13)) (C := RX2) (T := TX2) (N := 7) hx hb hts hinX2 hown hK hP 6 (bw_at (i := 6) (by decide) rfl) rfl 6 (by decide) (hts (.fieldLink RX2 34 "BallotLoom$Poll" "behind" "[I") (by decide +kernel)) (fun _ h9 => h9) rfl dX2_isNoStronger_22 ?_
    refine lv_iload_n hx hb dX2_isNoStronger_25 rfl (lv_at hl 2 rfl) ?_
    refine va_iald hx hb hK hP 13 0 (at_i (by decide) (fun _ _ => rfl)) rfl hg3 dX2_isNoStronger_26 ?_
    refine lv_topi (fun y11 ey11 => ?_)
    have hF := bv_at ey11 hF
    refine lv_icmp_ge (tgt := 34) hx hb dX2_isNoStronger_27 (by decide) (fun hc12 => ?_) (fun hc12 => ?_)
    · have hF := br_pos hc12 hF
      refine lv_iconst (v := 0) hx hb dX2_isNoStronger_34 (by decide) ?_
      have e9 := some1 hF
      subst hQ
      exact W.zret (v := 0) hx hb hr rfl (fun t ht hW => ⟨⟨0, (), rfl, e9.symm, po_mk ht hW hP hK hD⟩, hS.F ht⟩) hS.2.2 dX2_isNoStronger_35
    · have hF := br_neg hc12 hF
      refine lv_iconst (v := 1) hx hb dX2_isNoStronger_30 (by decide) ?_
      refine lv_goto (tgt := 35) hx hb dX2_isNoStronger_31 (by decide) ?_
      have e9 := some1 hF
      subst hQ
      exact W.zret (v := 1) hx hb hr rfl (fun t ht hW => ⟨⟨1, (), rfl, e9.symm, po_mk ht hW hP hK hD⟩, hS.F ht⟩) hS.2.2 dX2_isNoStronger_35

noncomputable def F_X2_leastBehind_x4 (w1 : Int32) : Option Int32 :=
  some w1

noncomputable def F_X2_leastBehind_l4 (Z : Mem) (K_4 : Int32 → Option Int32) : Nat → Int32 → Int32 → Option Int32
  | 0, _, _ => none
  | n4 + 1, u2, u3 =>
  br ((6 : Int32) ≤ u3) (K_4 u2) (gd (¬ (u3 < 0 ∨ 6 ≤ ix u3)) <| bv (Z.1 12 (ix u3)) fun y6 => br (y6 = (0 : Int32)) ((F_X2_leastBehind_l4 Z K_4 n4) u2 (u3 + (1 : Int32))) (calp (F_X2_isNoStronger Z u3 u2) fun rr10 => br (rr10 = (0 : Int32)) ((F_X2_leastBehind_l4 Z K_4 n4) u2 (u3 + (1 : Int32))) ((F_X2_leastBehind_l4 Z K_4 n4) u3 (u3 + (1 : Int32)))))

noncomputable def F_X2_leastBehind (Z : Mem) (xa : Int32) : Option Int32 :=
  F_X2_leastBehind_l4 Z F_X2_leastBehind_x4 100 xa (0 : Int32)

set_option maxHeartbeats 4000000 in
set_option maxRecDepth 100000 in
theorem c_X2_leastBehind (l : Launch) (dC : Nat → ClassId) (dI : Nat → Nat → Nat) (q : Nat → ClassId) (aa : Nat → Nat) (Z : Mem) (xa : Int32)  (sz : Nat) (ro : Int32) (hF : F_X2_leastBehind Z xa = some ro) : Met l yX2_leastBehind wsX2_leastBehind ({ frames := 3, cells := 0, slots := 0, locals := 62 }) (va_Pc [.ref (aa 6), .int xa] (pr_ dC dI (bw q aa Z) (bty q) sz)) (va_Qi (fun (r : Int32) (_ : Unit) => r = ro) (fun (_ : Unit) t => po_ dC dI (bw q aa Z) (bty q) (va_A (bw q aa Z) sz) t) (va_A (bw q aa Z) sz)) 0 0 (va_A (bw q aa Z) sz) := by
  refine Met.ofW (cc := cX2_leastBehind) (maxL := 4) (ret := (some .int)) (by decide) rfl ?_
  intro p e s m args below meth c s₁ B hml hv
  obtain ⟨hargs, hsz, hP, hK, hD0⟩ := hv
  have hx := B.exec
  have hb := B.bytes
  have hr := B.returns
  have hts := atoms_spec (ws := wsX2_leastBehind) B.pre
  have hown : s.vm.findClass RX2 = some m.cls := findClass_of_methodNamed B.named
  have hlocks := B.notSynchronized
  subst hsz
  have hD := hD0.self (sz := s.heap.size)
  generalize hAe : va_A (bw q aa Z) s.heap.size = A at hD ⊢
  have hA : ∀ x : Nat, s.heap.size ≤ x → A x := fun x h => by rw [← hAe]; exact Or.inr h
  have hS : va_S A s.heap s.heap [] := va_S.rf
  have hinX2 : ∀ w ∈ u_ws RX2 TX2 7, w ∈ wsX2_leastBehind := by decide +kernel
  have hl := lv_entry ([.ref (aa 6), .int xa]) (n := 4) (Nat.le_of_ble_eq_true rfl)
  refine w_ent hargs ?_
  rw [lg_entry_eq]
  generalize (lg_sl ([.ref (aa 6), .int xa]) ++ List.replicate (4 - (lg_sl ([.ref (aa 6), .int xa])).length) Slot.unset).toArray = ls at hl ⊢
  have hl : lv_has ls 4 [(0, .ref (aa 6)), (1, .int xa)] := hl
  unfold F_X2_leastBehind at hF
  refine w_go (fun Q hQ => ?_)
  refine lv_iload_n hx hb dX2_leastBehind_0 rfl (lv_at hl 1 rfl) ?_
  refine lv_istore_n (lv' := [(2, .int xa), (0, .ref (aa 6)), (1, .int xa)]) hx hb dX2_leastBehind_1 rfl hl (by decide) rfl (fun ls hl => ?_)
  refine lv_iconst (v := 0) hx hb dX2_leastBehind_2 (by decide) ?_
  refine lv_istore_n (lv' := [(3, .int 0), (2, .int xa), (0, .ref (aa 6)), (1, .int xa)]) hx hb dX2_leastBehind_3 rfl hl (by decide) rfl (fun ls hl => ?_)
  have Jx4 : ∀ (w1 : Int32) (H : Heap) (locs : List Loc) (ls : Array Slot), F_X2_leastBehind_x4 w1 = some ro → va_P (dC, dI) vwCl (bw q aa Z) H → va_D A (bw q aa Z) → va_S A s.heap H locs → lv_has ls 4 [(2, .int w1)] → W p l e (headSpec wsX2_leastBehind ({ frames := 3, cells := 0, slots := 0, locals := 62 } : Room)).room s m args below meth c H locs 0 0 Q (F0 m 36 ls []) := by
    intro w1 H locs ls hF hP hD hS hl
    unfold F_X2_leastBehind_x4 at hF
    refine lv_iload_n hx hb dX2_leastBehind_36 rfl (lv_at hl 0 rfl) ?_
    have e9 := some1 hF
    subst hQ
    exact W.iret (v := w1) hx hb hr (fun t ht hW => ⟨⟨w1, (), rfl, e9.symm, po_mk ht hW hP hK hD⟩, hS.F ht⟩) hS.2.2 dX2_leastBehind_37
  have L4 : ∀ (n4 : Nat) (u2 : Int32) (u3 : Int32) (H : Heap) (locs : List Loc) (ls : Array Slot), F_X2_leastBehind_l4 Z F_X2_leastBehind_x4 n4 u2 u3 = some ro → va_P (dC, dI) vwCl (bw q aa Z) H → va_D A (bw q aa Z) → va_S A s.heap H locs → lv_has ls 4 [(3, .int u3), (2, .int u2), (0, .ref (aa 6))] → W p l e (headSpec wsX2_leastBehind ({ frames := 3, cells := 0, slots := 0, locals := 62 } : Room)).room s m args below meth c H locs 0 0 Q (F0 m 4 ls []) := by
    intro n4
    induction n4 with
    | zero =>
      intro u2 u3 H locs ls hF
      rw [F_X2_leastBehind_l4] at hF
      cases hF
    | succ n4 IH4 =>
      intro u2 u3 H locs ls hF hP hD hS hl
      rw [F_X2_leastBehind_l4] at hF
      refine lv_iload_n hx hb dX2_leastBehind_4 rfl (lv_at hl 0 rfl) ?_
      refine lv_bipush (v := 6) hx hb dX2_leastBehind_5 (by decide) ?_
      refine lv_icmp_ge (tgt := 36) hx hb dX2_leastBehind_7 (by decide) (fun hc4 => ?_) (fun hc4 => ?_)
      · have hF := br_pos hc4 hF
        exact Jx4 u2 _ _ _ hF hP hD hS (lv_sub hl [1] rfl)
      · have hF := br_neg hc4 hF
        refine lv_aload_n hx hb dX2_leastBehind_10 rfl (lv_at hl 2 rfl) ?_
        refine va_get (D := (dC, dI)) (ci := 4) (v := .ref (aa 12)) (C := RX2) (T := TX2) (N := 7) hx hb hts hinX2 hown hK hP 6 (bw_at (i := 6) (by decide) rfl) rfl 5 (by decide) (hts (.fieldLink RX2 30 "BallotLoom$Poll" "isIn" "[Z") (by decide +kernel)) (fun _ h9 => h9) rfl dX2_leastBehind_11 ?_
        refine lv_iload_n hx hb dX2_leastBehind_14 rfl (lv_at hl 0 rfl) ?_
        obtain ⟨hg5, hF⟩ := gd_some hF
        refine va_zald hx hb hK hP 12 1 (at_i (by decide) (fun _ _ => rfl)) rfl hg5 dX2_leastBehind_15 ?_
        refine lv_topi (fun y6 ey6 => ?_)
        have hF := bv_at ey6 hF
        refine lv_if_eq (tgt := 30) hx hb dX2_leastBehind_16 (by decide) (fun hc7 => ?_) (fun hc7 => ?_)
        · have hF := br_pos hc7 hF
          refine lv_iinc (k := 0) (v := (u3 + (1 : Int32))) (lv' := [(3, .int (u3 + (1 : Int32))), (2, .int u2), (0, .ref (aa 6))]) hx hb dX2_leastBehind_30 hl rfl (ii_ _ _ _ (by decide)) (by decide) rfl (fun ls hl => ?_)
          refine lv_goto (tgt := 4) hx hb dX2_leastBehind_33 (by decide) ?_
          exact IH4 u2 (u3 + (1 : Int32)) _ _ _ hF hP hD hS (lv_sub hl [0, 1, 2] rfl)
        · have hF := br_neg hc7 hF
          refine lv_aload_n hx hb dX2_leastBehind_19 rfl (lv_at hl 2 rfl) ?_
          refine lv_iload_n hx hb dX2_leastBehind_20 rfl (lv_at hl 0 rfl) ?_
          refine lv_iload_n hx hb dX2_leastBehind_21 rfl (lv_at hl 1 rfl) ?_
          obtain ⟨r9, hC8, hF⟩ := calp_some hF
          have hFc := b_free (ws := bw q aa Z) hD hS hA
          refine va_calli (va_runV (As := [.int u3, .int u2]) (rest := []) ⟨hx, hb, hml, hown, hts⟩ (c_X2_isNoStronger l dC dI q aa Z u3 u2  _ _  hC8) (cwV 2 hts gX2_leastBehind_X2_isNoStronger rfl rfl rfl (by decide +kernel) ⟨Nat.le_of_ble_eq_true rfl, Nat.le_of_ble_eq_true rfl⟩) ⟨pr_blind, va_recv hK hP (ci := 4) (q0 := 6) rfl (bw_at (i := 6) (by decide) rfl), fun U hU hW => ⟨rfl, pr_mk hU hW hP hK hD⟩⟩ rfl rfl hl.1 rfl (lv_room (Nat.le_of_ble_eq_true rfl)) dX2_leastBehind_22 ⟨Nat.le_of_ble_eq_true rfl, Nat.le_of_ble_eq_true rfl⟩) hS (fun x _ h => hFc x h) hFc (fun rr10 u t H1 locs ht hvm hw hB hz1 hk1 hS => ?_)
          obtain ⟨hP, hK1, hD1⟩ := hB
          rw [ht] at hP
          have hD := hD1.weaken (fun _ q9 _ h9 => hFc q9.1 h9)
          clear hFc hD1 hK1 hvm hz1 hk1
          generalize H1 = H at hP hS ⊢
          refine W.widen (k := 0) (n := 0) (Nat.le_refl _) (Nat.le_refl _) ?_
          obtain rfl : rr10 = r9 := hw
          refine lv_if_eq (tgt := 30) hx hb dX2_leastBehind_25 (by decide) (fun hc11 => ?_) (fun hc11 => ?_)
          · have hF := br_pos hc11 hF
            refine lv_iinc (k := 0) (v := (u3 + (1 : Int32))) (lv' := [(3, .int (u3 + (1 : Int32))), (2, .int u2), (0, .ref (aa 6))]) hx hb dX2_leastBehind_30 hl rfl (ii_ _ _ _ (by decide)) (by decide) rfl (fun ls hl => ?_)
            refine lv_goto (tgt := 4) hx hb dX2_leastBehind_33 (by decide) ?_
            exact IH4 u2 (u3 + (1 : Int32)) _ _ _ hF hP hD hS (lv_sub hl [0, 1, 2] rfl)
          · have hF := br_neg hc11 hF
            refine lv_iload_n hx hb dX2_leastBehind_28 rfl (lv_at hl 0 rfl) ?_
            refine lv_istore_n (lv' := [(2, .int u3), (3, .int u3), (0, .ref (aa 6))]) hx hb dX2_leastBehind_29 rfl hl (by decide) rfl (fun ls hl => ?_)
            refine lv_iinc (k := 1) (v := (u3 + (1 : Int32))) (lv' := [(3, .int (u3 + (1 : Int32))), (2, .int u3), (0, .ref (aa 6))]) hx hb dX2_leastBehind_30 hl rfl (ii_ _ _ _ (by decide)) (by decide) rfl (fun ls hl => ?_)
            refine lv_goto (tgt := 4) hx hb dX2_leastBehind_33 (by decide) ?_
            exact IH4 u3 (u3 + (1 : Int32)) _ _ _ hF hP hD hS (lv_sub hl [0, 1, 2] rfl)
  exact L4 100 xa (0 : Int32) _ _ _ hF hP hD hS (lv_sub hl [0, 1, 2] rfl)

noncomputable def F_X2_goRounds_x40 (Z5 : Mem) : Option (Mem × Int32) :=
  some (Z5, ((-1) : Int32))

noncomputable def F_X2_goRounds_j83 (u6 : Int32) (B_40 : Mem → Int32 → Option (Mem × Int32)) (Z11 : Mem) (rr12 : Int32) (rr15 : Int32) (v19 : Int32) : Option (Mem × Int32) :=
  br (v19 = (0 : Int32)) (gd (¬ (rr15 < 0 ∨ 6 ≤ ix rr15)) <| bv (Z11.1 13 (ix rr15)) fun y22 => bv ((2 : Int32) * y22) fun y23 => br (y23 ≤ rr12) (calp (F_X2_leastBehind Z11 rr15) fun rr27 => gd (¬ (rr27 < 0 ∨ 6 ≤ ix rr27)) <| bv (si Z11 12 (ix rr27) (vp_nar .boolean (0 : Int32))) fun Z29 => gd (¬ (u6 < 0 ∨ 6 ≤ ix u6)) <| bv (si Z29 11 (ix u6) rr27) fun Z31 => B_40 Z31 (u6 + (1 : Int32))) (some (Z11, rr15))) (some (Z11, rr15))

noncomputable def F_X2_goRounds_l40 (xa : Int32) (K_40 : Mem → Option (Mem × Int32)) : Nat → Mem → Int32 → Option (Mem × Int32)
  | 0, _, _ => none
  | n40 + 1, Z7, u6 =>
  br ((6 : Int32) ≤ u6) (K_40 Z7) (cal (F_X2_countBehind Z7 xa) fun Z11 rr12 => calp (F_X2_mostBehind Z11 ) fun rr15 => br (rr15 = ((-1) : Int32)) (some (Z11, ((-1) : Int32))) (bv (Z11.1 1 3) fun y17 => bv (y17 - u6) fun y18 => br (y18 = (1 : Int32)) ((F_X2_goRounds_j83 u6 (F_X2_goRounds_l40 xa K_40 n40) Z11 rr12 rr15) (1 : Int32)) ((F_X2_goRounds_j83 u6 (F_X2_goRounds_l40 xa K_40 n40) Z11 rr12 rr15) (0 : Int32))))

noncomputable def F_X2_goRounds_x8 (xa : Int32) (Z4 : Mem) : Option (Mem × Int32) :=
  F_X2_goRounds_l40 xa F_X2_goRounds_x40 100 Z4 (0 : Int32)

noncomputable def F_X2_goRounds_l8 (K_8 : Mem → Option (Mem × Int32)) : Nat → Mem → Int32 → Option (Mem × Int32)
  | 0, _, _ => none
  | n8 + 1, Z34, u33 =>
  br ((6 : Int32) ≤ u33) (K_8 Z34) (calp (F_X0_isStanding Z34 u33) fun rr38 => gd (¬ (u33 < 0 ∨ 6 ≤ ix u33)) <| bv (si Z34 12 (ix u33) (vp_nar .boolean rr38)) fun Z40 => bv (si Z40 11 (ix u33) ((-1) : Int32)) fun Z41 => (F_X2_goRounds_l8 K_8 n8) Z41 (u33 + (1 : Int32)))

noncomputable def F_X2_goRounds (Z : Mem) (xa : Int32) : Option (Mem × Int32) :=
  cal (F_X2_countPoints Z xa) fun Z2 _ => F_X2_goRounds_l8 (F_X2_goRounds_x8 xa) 100 Z2 (0 : Int32)

set_option maxHeartbeats 4000000 in
set_option maxRecDepth 100000 in
theorem c_X2_goRounds (l : Launch) (dC : Nat → ClassId) (dI : Nat → Nat → Nat) (q : Nat → ClassId) (aa : Nat → Nat) (Z : Mem) (xa : Int32)  (sz : Nat) (Zo : Mem) (ro : Int32) (hF : F_X2_goRounds Z xa = some (Zo, ro)) : Met l yX2_goRounds wsX2_goRounds ({ frames := 5, cells := 0, slots := 0, locals := 111 }) (va_Pc [.ref (aa 6), .ref (aa 1), .int xa] (pr_ dC dI (bw q aa Z) (bty q) sz)) (va_Qi (fun (r : Int32) (_ : Unit) => r = ro) (fun (_ : Unit) t => po_ dC dI (bw q aa Zo) (bty q) (va_A (bw q aa Z) sz) t) (va_A (bw q aa Z) sz)) 0 0 (va_A (bw q aa Z) sz) := by
  refine Met.ofW (cc := cX2_goRounds) (maxL := 8) (ret := (some .int)) (by decide) rfl ?_
  intro p e s m args below meth c s₁ B hml hv
  obtain ⟨hargs, hsz, hP, hK, hD0⟩ := hv
  have hx := B.exec
  have hb := B.bytes
  have hr := B.returns
  have hts := atoms_spec (ws := wsX2_goRounds) B.pre
  have hown : s.vm.findClass RX2 = some m.cls := findClass_of_methodNamed B.named
  have hlocks := B.notSynchronized
  subst hsz
  have hD := hD0.self (sz := s.heap.size)
  generalize hAe : va_A (bw q aa Z) s.heap.size = A at hD ⊢
  have hA : ∀ x : Nat, s.heap.size ≤ x → A x := fun x h => by rw [← hAe]; exact Or.inr h
  have hS : va_S A s.heap s.heap [] := va_S.rf
  have hinX0 : ∀ w ∈ u_ws RX0 TX0 11, w ∈ wsX2_goRounds := by decide +kernel
  have hinX2 : ∀ w ∈ u_ws RX2 TX2 7, w ∈ wsX2_goRounds := by decide +kernel
  have hl := lv_entry ([.ref (aa 6), .ref (aa 1), .int xa]) (n := 8) (Nat.le_of_ble_eq_true rfl)
  refine w_ent hargs ?_
  rw [lg_entry_eq]
  generalize (lg_sl ([.ref (aa 6), .ref (aa 1), .int xa]) ++ List.replicate (8 - (lg_sl ([.ref (aa 6), .ref (aa 1), .int xa])).length) Slot.unset).toArray = ls at hl ⊢
  have hl : lv_has ls 8 [(0, .ref (aa 6)), (1, .ref (aa 1)), (2, .int xa)] := hl
  unfold F_X2_goRounds at hF
  refine w_go (fun Q hQ => ?_)
  refine lv_aload_n hx hb dX2_goRounds_0 rfl (lv_at hl 0 rfl) ?_
  refine lv_aload_n hx hb dX2_goRounds_1 rfl (lv_at hl 1 rfl) ?_
  refine lv_iload_n hx hb dX2_goRounds_2 rfl (lv_at hl 2 rfl) ?_
  obtain ⟨Z2, _, hC1, hF⟩ := cal_some hF
  have hFc := b_free (ws := bw q aa Z) hD hS hA
  refine va_callv (va_runV (As := [.ref (aa 1), .int xa]) (rest := []) ⟨hx, hb, hml, hown, hts⟩ (c_X2_countPoints l dC dI q aa Z xa  _ _ _  hC1) (cwV 2 hts gX2_goRounds_X2_countPoints rfl rfl rfl (by decide +kernel) ⟨Nat.le_of_ble_eq_true rfl, Nat.le_of_ble_eq_true rfl⟩) ⟨pr_blind, va_recv hK hP (ci := 4) (q0 := 6) rfl (bw_at (i := 6) (by decide) rfl), fun U hU hW => ⟨rfl, pr_mk hU hW hP hK hD⟩⟩ rfl rfl hl.1 rfl (lv_room (Nat.le_of_ble_eq_true rfl)) dX2_goRounds_3 ⟨Nat.le_of_ble_eq_true rfl, Nat.le_of_ble_eq_true rfl⟩) hS (fun x _ h => hFc x h) hFc (fun u t H1 locs ht hvm hw hB hz1 hk1 hS => ?_)
  obtain ⟨hP, hK1, hD1⟩ := hB
  rw [ht] at hP
  have hD := hD1.weaken (fun _ q9 _ h9 => hFc q9.1 h9)
  clear hFc hD1 hK1 hvm hz1 hk1
  generalize H1 = H at hP hS ⊢
  refine W.widen (k := 0) (n := 0) (Nat.le_refl _) (Nat.le_refl _) ?_
  refine lv_iconst (v := 0) hx hb dX2_goRounds_6 (by decide) ?_
  refine lv_istore_n (lv' := [(3, .int 0), (0, .ref (aa 6)), (1, .ref (aa 1)), (2, .int xa)]) hx hb dX2_goRounds_7 rfl hl (by decide) rfl (fun ls hl => ?_)
  have Jx8 : ∀ (Z4 : Mem) (H : Heap) (locs : List Loc) (ls : Array Slot), (F_X2_goRounds_x8 xa) Z4 = some (Zo, ro) → va_P (dC, dI) vwCl (bw q aa Z4) H → va_D A (bw q aa Z4) → va_S A s.heap H locs → lv_has ls 8 [(0, .ref (aa 6)), (1, .ref (aa 1)), (2, .int xa)] → W p l e (headSpec wsX2_goRounds ({ frames := 5, cells := 0, slots := 0, locals := 111 } : Room)).room s m args below meth c H locs 0 0 Q (F0 m 38 ls []) := by
    intro Z4 H locs ls hF hP hD hS hl
    unfold F_X2_goRounds_x8 at hF
    refine lv_iconst (v := 0) hx hb dX2_goRounds_38 (by decide) ?_
    refine lv_istore_n (lv' := [(3, .int 0), (0, .ref (aa 6)), (1, .ref (aa 1)), (2, .int xa)]) hx hb dX2_goRounds_39 rfl hl (by decide) rfl (fun ls hl => ?_)
    have Jx40 : ∀ (Z5 : Mem) (H : Heap) (locs : List Loc) (ls : Array Slot), F_X2_goRounds_x40 Z5 = some (Zo, ro) → va_P (dC, dI) vwCl (bw q aa Z5) H → va_D A (bw q aa Z5) → va_S A s.heap H locs → lv_has ls 8 [] → W p l e (headSpec wsX2_goRounds ({ frames := 5, cells := 0, slots := 0, locals := 111 } : Room)).room s m args below meth c H locs 0 0 Q (F0 m 137 ls []) := by
      intro Z5 H locs ls hF hP hD hS hl
      unfold F_X2_goRounds_x40 at hF
      refine lv_iconst (v := (-1)) hx hb dX2_goRounds_137 (by decide) ?_
      obtain ⟨e8, e9⟩ := some2 hF
      rw [← e8] at hP hD
      subst hQ
      exact W.iret (v := (-1)) hx hb hr (fun t ht hW => ⟨⟨(-1), (), rfl, e9.symm, po_mk ht hW hP hK hD⟩, hS.F ht⟩) hS.2.2 dX2_goRounds_138
    have L40 : ∀ (n40 : Nat) (Z7 : Mem) (u6 : Int32) (H : Heap) (locs : List Loc) (ls : Array Slot), F_X2_goRounds_l40 xa F_X2_goRounds_x40 n40 Z7 u6 = some (Zo, ro) → va_P (dC, dI) vwCl (bw q aa Z7) H → va_D A (bw q aa Z7) → va_S A s.heap H locs → lv_has ls 8 [(3, .int u6), (0, .ref (aa 6)), (1, .ref (aa 1)), (2, .int xa)] → W p l e (headSpec wsX2_goRounds ({ frames := 5, cells := 0, slots := 0, locals := 111 } : Room)).room s m args below meth c H locs 0 0 Q (F0 m 40 ls []) := by
      intro n40
      induction n40 with
      | zero =>
        intro Z7 u6 H locs ls hF
        rw [F_X2_goRounds_l40] at hF
        cases hF
      | succ n40 IH40 =>
        intro Z7 u6 H locs ls hF hP hD hS hl
        rw [F_X2_goRounds_l40] at hF
        refine lv_iload_n hx hb dX2_goRounds_40 rfl (lv_at hl 0 rfl) ?_
        refine lv_bipush (v := 6) hx hb dX2_goRounds_41 (by decide) ?_
        refine lv_icmp_ge (tgt := 137) hx hb dX2_goRounds_43 (by decide) (fun hc8 => ?_) (fun hc8 => ?_)
        · have hF := br_pos hc8 hF
          exact Jx40 Z7 _ _ _ hF hP hD hS (lv_sub hl [] rfl)
        · have hF := br_neg hc8 hF
          refine lv_aload_n hx hb dX2_goRounds_46 rfl (lv_at hl 1 rfl) ?_
          refine lv_aload_n hx hb dX2_goRounds_47 rfl (lv_at hl 2 rfl) ?_
          refine lv_iload_n hx hb dX2_goRounds_48 rfl (lv_at hl 3 rfl) ?_
          obtain ⟨Z11, r10, hC9, hF⟩ := cal_some hF
          have hFc := b_free (ws := bw q aa Z7) hD hS hA
          refine va_calli (va_runV (As := [.ref (aa 1), .int xa]) (rest := []) ⟨hx, hb, hml, hown, hts⟩ (c_X2_countBehind l dC dI q aa Z7 xa  _ _ _  hC9) (cwV 2 hts gX2_goRounds_X2_countBehind rfl rfl rfl (by decide +kernel) ⟨Nat.le_of_ble_eq_true rfl, Nat.le_of_ble_eq_true rfl⟩) ⟨pr_blind, va_recv hK hP (ci := 4) (q0 := 6) rfl (bw_at (i := 6) (by decide) rfl), fun U hU hW => ⟨rfl, pr_mk hU hW hP hK hD⟩⟩ rfl rfl hl.1 rfl (lv_room (Nat.le_of_ble_eq_true rfl)) dX2_goRounds_49 ⟨Nat.le_of_ble_eq_true rfl, Nat.le_of_ble_eq_true rfl⟩) hS (fun x _ h => hFc x h) hFc (fun rr12 u t H1 locs ht hvm hw hB hz1 hk1 hS => ?_)
          obtain ⟨hP, hK1, hD1⟩ := hB
          rw [ht] at hP
          have hD := hD1.weaken (fun _ q9 _ h9 => hFc q9.1 h9)
          clear hFc hD1 hK1 hvm hz1 hk1
          generalize H1 = H at hP hS ⊢
          refine W.widen (k := 0) (n := 0) (Nat.le_refl _) (Nat.le_refl _) ?_
          obtain rfl : rr12 = r10 := hw
          refine lv_istore (lv' := [(4, .int rr12), (3, .int u6), (0, .ref (aa 6)), (1, .ref (aa 1)), (2, .int xa)]) hx hb dX2_goRounds_52 hl (by decide) rfl (fun ls hl => ?_)
          refine lv_aload_n hx hb dX2_goRounds_54 rfl (lv_at hl 2 rfl) ?_
          obtain ⟨r14, hC13, hF⟩ := calp_some hF
          have hFc := b_free (ws := bw q aa Z11) hD hS hA
          refine va_calli (va_runV (As := []) (rest := []) ⟨hx, hb, hml, hown, hts⟩ (c_X2_mostBehind l dC dI q aa Z11   _ _  hC13) (cwV 0 hts gX2_goRounds_X2_mostBehind rfl rfl rfl (by decide +kernel) ⟨Nat.le_of_ble_eq_true rfl, Nat.le_of_ble_eq_true rfl⟩) ⟨pr_blind, va_recv hK hP (ci := 4) (q0 := 6) rfl (bw_at (i := 6) (by decide) rfl), fun U hU hW => ⟨rfl, pr_mk hU hW hP hK hD⟩⟩ rfl rfl hl.1 rfl (lv_room (Nat.le_of_ble_eq_true rfl)) dX2_goRounds_55 ⟨Nat.le_of_ble_eq_true rfl, Nat.le_of_ble_eq_true rfl⟩) hS (fun x _ h => hFc x h) hFc (fun rr15 u t H1 locs ht hvm hw hB hz1 hk1 hS => ?_)
          obtain ⟨hP, hK1, hD1⟩ := hB
          rw [ht] at hP
          have hD := hD1.weaken (fun _ q9 _ h9 => hFc q9.1 h9)
          clear hFc hD1 hK1 hvm hz1 hk1
          generalize H1 = H at hP hS ⊢
          refine W.widen (k := 0) (n := 0) (Nat.le_refl _) (Nat.le_refl _) ?_
          obtain rfl : rr15 = r14 := hw
          refine lv_istore (lv' := [(5, .int rr15), (4, .int rr12), (3, .int u6), (0, .ref (aa 6)), (1, .ref (aa 1)), (2, .int xa)]) hx hb dX2_goRounds_58 hl (by decide) rfl (fun ls hl => ?_)
          refine lv_iload hx hb dX2_goRounds_60 (lv_at hl 0 rfl) ?_
          refine lv_iconst (v := (-1)) hx hb dX2_goRounds_62 (by decide) ?_
          refine lv_icmp_ne (tgt := 68) hx hb dX2_goRounds_63 (by decide) (fun hc16 => ?_) (fun hc16 => ?_)
          · have hF := br_neg hc16 hF
            refine lv_aload_n hx hb dX2_goRounds_68 rfl (lv_at hl 4 rfl) ?_
            refine va_get (D := (dC, dI)) (ci := 2) (v := .int (Z11.1 1 3)) (C := RX0) (T := TX0) (N := 11) hx hb hts hinX0 hown hK hP 1 (bw_at (i := 1) (by decide) rfl) rfl 3 (by decide) (hts (.fieldLink RX2 101 "BallotLoom$Box" "standing" "I") (by decide +kernel)) (fun _ h9 => h9) rfl dX2_goRounds_69 ?_
            refine lv_topi (fun y17 ey17 => ?_)
            have hF := bv_at ey17 hF
            refine lv_iload_n hx hb dX2_goRounds_72 rfl (lv_at hl 2 rfl) ?_
            refine lv_isub hx hb dX2_goRounds_73 ?_
            refine lv_topi (fun y18 ey18 => ?_)
            have hF := bv_at ey18 hF
            refine lv_iconst (v := 1) hx hb dX2_goRounds_74 (by decide) ?_
            have Jj83 : ∀ (v19 : Int32) (H : Heap) (locs : List Loc) (ls : Array Slot), (F_X2_goRounds_j83 u6 (F_X2_goRounds_l40 xa F_X2_goRounds_x40 n40) Z11 rr12 rr15) v19 = some (Zo, ro) → va_P (dC, dI) vwCl (bw q aa Z11) H → va_D A (bw q aa Z11) → va_S A s.heap H locs → lv_has ls 8 [(5, .int rr15), (4, .int rr12), (3, .int u6), (0, .ref (aa 6)), (1, .ref (aa 1)), (2, .int xa)] → W p l e (headSpec wsX2_goRounds ({ frames := 5, cells := 0, slots := 0, locals := 111 } : Room)).room s m args below meth c H locs 0 0 Q (F0 m 83 ls [.int v19]) := by
              intro v19 H locs ls hF hP hD hS hl
              unfold F_X2_goRounds_j83 at hF
              refine lv_istore (lv' := [(6, .int v19), (5, .int rr15), (4, .int rr12), (3, .int u6), (0, .ref (aa 6)), (1, .ref (aa 1)), (2, .int xa)]) hx hb dX2_goRounds_83 hl (by decide) rfl (fun ls hl => ?_)
              refine lv_iload hx hb dX2_goRounds_85 (lv_at hl 0 rfl) ?_
              refine lv_if_ne (tgt := 104) hx hb dX2_goRounds_87 (by decide) (fun hc20 => ?_) (fun hc20 => ?_)
              · have hF := br_neg hc20 hF
                refine lv_iload hx hb dX2_goRounds_104 (lv_at hl 1 rfl) ?_
                obtain ⟨e8, e9⟩ := some2 hF
                rw [← e8] at hP hD
                subst hQ
                exact W.iret (v := rr15) hx hb hr (fun t ht hW => ⟨⟨rr15, (), rfl, e9.symm, po_mk ht hW hP hK hD⟩, hS.F ht⟩) hS.2.2 dX2_goRounds_106
              · have hF := br_pos hc20 hF
                refine lv_iconst (v := 2) hx hb dX2_goRounds_90 (by decide) ?_
                refine lv_aload_n hx hb dX2_goRounds_91 rfl (lv_at hl 4 rfl) ?_
                refine va_get (D := (dC, dI)) (ci := 4) (v := .ref (aa 13)) (C := RX2) (T := TX2) (N := 7) hx hb hts hinX2 hown hK hP 6 (bw_at (i := 6) (by decide) rfl) rfl 6 (by decide) (hts (.fieldLink RX2 34 "BallotLoom$Poll" "behind" "[I") (by decide +kernel)) (fun _ h9 => h9) rfl dX2_goRounds_92 ?_
                refine lv_iload hx hb dX2_goRounds_95 (lv_at hl 1 rfl) ?_
                obtain ⟨hg21, hF⟩ := gd_some hF
                refine va_iald hx hb hK hP 13 0 (at_i (by decide) (fun _ _ => rfl)) rfl hg21 dX2_goRounds_97 ?_
                refine lv_topi (fun y22 ey22 => ?_)
                have hF := bv_at ey22 hF
                refine lv_imul hx hb dX2_goRounds_98 ?_
                refine lv_topi (fun y23 ey23 => ?_)
                have hF := bv_at ey23 hF
                refine lv_iload hx hb dX2_goRounds_99 (lv_at hl 2 rfl) ?_
                refine lv_icmp_le (tgt := 107) hx hb dX2_goRounds_101 (by decide) (fun hc24 => ?_) (fun hc24 => ?_)
                · have hF := br_pos hc24 hF
                  refine lv_aload_n hx hb dX2_goRounds_107 rfl (lv_at hl 4 rfl) ?_
                  refine lv_iload hx hb dX2_goRounds_108 (lv_at hl 1 rfl) ?_
                  obtain ⟨r26, hC25, hF⟩ := calp_some hF
                  have hFc := b_free (ws := bw q aa Z11) hD hS hA
                  refine va_calli (va_runV (As := [.int rr15]) (rest := []) ⟨hx, hb, hml, hown, hts⟩ (c_X2_leastBehind l dC dI q aa Z11 rr15  _ _  hC25) (cwV 1 hts gX2_goRounds_X2_leastBehind rfl rfl rfl (by decide +kernel) ⟨Nat.le_of_ble_eq_true rfl, Nat.le_of_ble_eq_true rfl⟩) ⟨pr_blind, va_recv hK hP (ci := 4) (q0 := 6) rfl (bw_at (i := 6) (by decide) rfl), fun U hU hW => ⟨rfl, pr_mk hU hW hP hK hD⟩⟩ rfl rfl hl.1 rfl (lv_room (Nat.le_of_ble_eq_true rfl)) dX2_goRounds_110 ⟨Nat.le_of_ble_eq_true rfl, Nat.le_of_ble_eq_true rfl⟩) hS (fun x _ h => hFc x h) hFc (fun rr27 u t H1 locs ht hvm hw hB hz1 hk1 hS => ?_)
                  obtain ⟨hP, hK1, hD1⟩ := hB
                  rw [ht] at hP
                  have hD := hD1.weaken (fun _ q9 _ h9 => hFc q9.1 h9)
                  clear hFc hD1 hK1 hvm hz1 hk1
                  generalize H1 = H at hP hS ⊢
                  refine W.widen (k := 0) (n := 0) (Nat.le_refl _) (Nat.le_refl _) ?_
                  obtain rfl : rr27 = r26 := hw
                  refine lv_istore (lv' := [(7, .int rr27), (6, .int v19), (5, .int rr15), (4, .int rr12), (3, .int u6), (0, .ref (aa 6)), (1, .ref (aa 1)), (2, .int xa)]) hx hb dX2_goRounds_113 hl (by decide) rfl (fun ls hl => ?_)
                  refine lv_aload_n hx hb dX2_goRounds_115 rfl (lv_at hl 5 rfl) ?_
                  refine va_get (D := (dC, dI)) (ci := 4) (v := .ref (aa 12)) (C := RX2) (T := TX2) (N := 7) hx hb hts hinX2 hown hK hP 6 (bw_at (i := 6) (by decide) rfl) rfl 5 (by decide) (hts (.fieldLink RX2 30 "BallotLoom$Poll" "isIn" "[Z") (by decide +kernel)) (fun _ h9 => h9) rfl dX2_goRounds_116 ?_
                  refine lv_iload hx hb dX2_goRounds_119 (lv_at hl 0 rfl) ?_
                  refine lv_iconst (v := 0) hx hb dX2_goRounds_121 (by decide) ?_
                  obtain ⟨hg28, hF⟩ := gd_some hF
                  obtain ⟨Z29, eZ29, hF⟩ := bv_some hF
                  refine va_zast hx hb hK hP hD hS 12 1 (at_i (by decide) (fun _ _ => rfl)) rfl hg28 dX2_goRounds_122 (fun H locs hP hD hS => ?_)
                  have eW := wz_i (q := q) (aa := aa) (i := 12) (fun _ _ => rfl) eZ29
                  have hP : va_P (dC, dI) vwCl (bw q aa Z29) H := eW ▸ hP
                  have hD : va_D A (bw q aa Z29) := eW ▸ hD
                  clear eW
                  refine lv_aload_n hx hb dX2_goRounds_123 rfl (lv_at hl 5 rfl) ?_
                  refine va_get (D := (dC, dI)) (ci := 4) (v := .ref (aa 11)) (C := RX2) (T := TX2) (N := 7) hx hb hts hinX2 hown hK hP 6 (bw_at (i := 6) (by decide) rfl) rfl 4 (by decide) (hts (.fieldLink RX2 27 "BallotLoom$Poll" "goneOut" "[I") (by decide +kernel)) (fun _ h9 => h9) rfl dX2_goRounds_124 ?_
                  refine lv_iload_n hx hb dX2_goRounds_127 rfl (lv_at hl 4 rfl) ?_
                  refine lv_iload hx hb dX2_goRounds_128 (lv_at hl 0 rfl) ?_
                  obtain ⟨hg30, hF⟩ := gd_some hF
                  obtain ⟨Z31, eZ31, hF⟩ := bv_some hF
                  refine va_iast hx hb hK hP hD hS 11 0 (at_i (by decide) (fun _ _ => rfl)) rfl hg30 dX2_goRounds_130 (fun H locs hP hD hS => ?_)
                  have eW := wz_i (q := q) (aa := aa) (i := 11) (fun _ _ => rfl) eZ31
                  have hP : va_P (dC, dI) vwCl (bw q aa Z31) H := eW ▸ hP
                  have hD : va_D A (bw q aa Z31) := eW ▸ hD
                  clear eW
                  refine lv_iinc (k := 4) (v := (u6 + (1 : Int32))) (lv' := [(3, .int (u6 + (1 : Int32))), (7, .int rr27), (6, .int v19), (5, .int rr15), (4, .int rr12), (0, .ref (aa 6)), (1, .ref (aa 1)), (2, .int xa)]) hx hb dX2_goRounds_131 hl rfl (ii_ _ _ _ (by decide)) (by decide) rfl (fun ls hl => ?_)
                  refine lv_goto (tgt := 40) hx hb dX2_goRounds_134 (by decide) ?_
                  exact IH40 Z31 (u6 + (1 : Int32)) _ _ _ hF hP hD hS (lv_sub hl [0, 5, 6, 7] rfl)
                · have hF := br_neg hc24 hF
                  refine lv_iload hx hb dX2_goRounds_104 (lv_at hl 1 rfl) ?_
                  obtain ⟨e8, e9⟩ := some2 hF
                  rw [← e8] at hP hD
                  subst hQ
                  exact W.iret (v := rr15) hx hb hr (fun t ht hW => ⟨⟨rr15, (), rfl, e9.symm, po_mk ht hW hP hK hD⟩, hS.F ht⟩) hS.2.2 dX2_goRounds_106
            refine lv_icmp_ne (tgt := 82) hx hb dX2_goRounds_75 (by decide) (fun hc32 => ?_) (fun hc32 => ?_)
            · have hF := br_neg hc32 hF
              refine lv_iconst (v := 0) hx hb dX2_goRounds_82 (by decide) ?_
              exact Jj83 (0 : Int32) _ _ _ hF hP hD hS (lv_sub hl [0, 1, 2, 3, 4, 5] rfl)
            · have hF := br_pos hc32 hF
              refine lv_iconst (v := 1) hx hb dX2_goRounds_78 (by decide) ?_
              refine lv_goto (tgt := 83) hx hb dX2_goRounds_79 (by decide) ?_
              exact Jj83 (1 : Int32) _ _ _ hF hP hD hS (lv_sub hl [0, 1, 2, 3, 4, 5] rfl)
          · have hF := br_pos hc16 hF
            refine lv_iconst (v := (-1)) hx hb dX2_goRounds_66 (by decide) ?_
            obtain ⟨e8, e9⟩ := some2 hF
            rw [← e8] at hP hD
            subst hQ
            exact W.iret (v := (-1)) hx hb hr (fun t ht hW => ⟨⟨(-1), (), rfl, e9.symm, po_mk ht hW hP hK hD⟩, hS.F ht⟩) hS.2.2 dX2_goRounds_67
    exact L40 100 Z4 (0 : Int32) _ _ _ hF hP hD hS (lv_sub hl [0, 1, 2, 3] rfl)
  have L8 : ∀ (n8 : Nat) (Z34 : Mem) (u33 : Int32) (H : Heap) (locs : List Loc) (ls : Array Slot), F_X2_goRounds_l8 (F_X2_goRounds_x8 xa) n8 Z34 u33 = some (Zo, ro) → va_P (dC, dI) vwCl (bw q aa Z34) H → va_D A (bw q aa Z34) → va_S A s.heap H locs → lv_has ls 8 [(3, .int u33), (0, .ref (aa 6)), (1, .ref (aa 1)), (2, .int xa)] → W p l e (headSpec wsX2_goRounds ({ frames := 5, cells := 0, slots := 0, locals := 111 } : Room)).room s m args below meth c H locs 0 0 Q (F0 m 8 ls []) := by
    intro n8
    induction n8 with
    | zero =>
      intro Z34 u33 H locs ls hF
      rw [F_X2_goRounds_l8] at hF
      cases hF
    | succ n8 IH8 =>
      intro Z34 u33 H locs ls hF hP hD hS hl
      rw [F_X2_goRounds_l8] at hF
      refine lv_iload_n hx hb dX2_goRounds_8 rfl (lv_at hl 0 rfl) ?_
      refine lv_bipush (v := 6) hx hb dX2_goRounds_9 (by decide) ?_
      refine lv_icmp_ge (tgt := 38) hx hb dX2_goRounds_11 (by decide) (fun hc35 => ?_) (fun hc35 => ?_)
      · have hF := br_pos hc35 hF
        exact Jx8 Z34 _ _ _ hF hP hD hS (lv_sub hl [1, 2, 3] rfl)
      · have hF := br_neg hc35 hF
        refine lv_aload_n hx hb dX2_goRounds_14 rfl (lv_at hl 1 rfl) ?_
        refine va_get (D := (dC, dI)) (ci := 4) (v := .ref (aa 12)) (C := RX2) (T := TX2) (N := 7) hx hb hts hinX2 hown hK hP 6 (bw_at (i := 6) (by decide) rfl) rfl 5 (by decide) (hts (.fieldLink RX2 30 "BallotLoom$Poll" "isIn" "[Z") (by decide +kernel)) (fun _ h9 => h9) rfl dX2_goRounds_15 ?_
        refine lv_iload_n hx hb dX2_goRounds_18 rfl (lv_at hl 0 rfl) ?_
        refine lv_aload_n hx hb dX2_goRounds_19 rfl (lv_at hl 2 rfl) ?_
        refine lv_iload_n hx hb dX2_goRounds_20 rfl (lv_at hl 0 rfl) ?_
        obtain ⟨r37, hC36, hF⟩ := calp_some hF
        have hFc := b_free (ws := bw q aa Z34) hD hS hA
        refine va_calli (va_runV (As := [.int u33]) (rest := [.int u33, .ref (aa 12)]) ⟨hx, hb, hml, hown, hts⟩ (c_X0_isStanding l dC dI q aa Z34 u33  _ _  hC36) (cwV 1 hts gX2_goRounds_X0_isStanding rfl rfl rfl (by decide +kernel) ⟨Nat.le_of_ble_eq_true rfl, Nat.le_of_ble_eq_true rfl⟩) ⟨pr_blind, va_recv hK hP (ci := 2) (q0 := 1) rfl (bw_at (i := 1) (by decide) rfl), fun U hU hW => ⟨rfl, pr_mk hU hW hP hK hD⟩⟩ rfl rfl hl.1 rfl (lv_room (Nat.le_of_ble_eq_true rfl)) dX2_goRounds_21 ⟨Nat.le_of_ble_eq_true rfl, Nat.le_of_ble_eq_true rfl⟩) hS (fun x _ h => hFc x h) hFc (fun rr38 u t H1 locs ht hvm hw hB hz1 hk1 hS => ?_)
        obtain ⟨hP, hK1, hD1⟩ := hB
        rw [ht] at hP
        have hD := hD1.weaken (fun _ q9 _ h9 => hFc q9.1 h9)
        clear hFc hD1 hK1 hvm hz1 hk1
        generalize H1 = H at hP hS ⊢
        refine W.widen (k := 0) (n := 0) (Nat.le_refl _) (Nat.le_refl _) ?_
        obtain rfl : rr38 = r37 := hw
        obtain ⟨hg39, hF⟩ := gd_some hF
        obtain ⟨Z40, eZ40, hF⟩ := bv_some hF
        refine va_zast hx hb hK hP hD hS 12 1 (at_i (by decide) (fun _ _ => rfl)) rfl hg39 dX2_goRounds_24 (fun H locs hP hD hS => ?_)
        have eW := wz_i (q := q) (aa := aa) (i := 12) (fun _ _ => rfl) eZ40
        have hP : va_P (dC, dI) vwCl (bw q aa Z40) H := eW ▸ hP
        have hD : va_D A (bw q aa Z40) := eW ▸ hD
        clear eW
        refine lv_aload_n hx hb dX2_goRounds_25 rfl (lv_at hl 1 rfl) ?_
        refine va_get (D := (dC, dI)) (ci := 4) (v := .ref (aa 11)) (C := RX2) (T := TX2) (N := 7) hx hb hts hinX2 hown hK hP 6 (bw_at (i := 6) (by decide) rfl) rfl 4 (by decide) (hts (.fieldLink RX2 27 "BallotLoom$Poll" "goneOut" "[I") (by decide +kernel)) (fun _ h9 => h9) rfl dX2_goRounds_26 ?_
        refine lv_iload_n hx hb dX2_goRounds_29 rfl (lv_at hl 0 rfl) ?_
        refine lv_iconst (v := (-1)) hx hb dX2_goRounds_30 (by decide) ?_
        obtain ⟨Z41, eZ41, hF⟩ := bv_some hF
        refine va_iast hx hb hK hP hD hS 11 0 (at_i (by decide) (fun _ _ => rfl)) rfl hg39 dX2_goRounds_31 (fun H locs hP hD hS => ?_)
        have eW := wz_i (q := q) (aa := aa) (i := 11) (fun _ _ => rfl) eZ41
        have hP : va_P (dC, dI) vwCl (bw q aa Z41) H := eW ▸ hP
        have hD : va_D A (bw q aa Z41) := eW ▸ hD
        clear eW
        refine lv_iinc (k := 0) (v := (u33 + (1 : Int32))) (lv' := [(3, .int (u33 + (1 : Int32))), (0, .ref (aa 6)), (1, .ref (aa 1)), (2, .int xa)]) hx hb dX2_goRounds_32 hl rfl (ii_ _ _ _ (by decide)) (by decide) rfl (fun ls hl => ?_)
        refine lv_goto (tgt := 8) hx hb dX2_goRounds_35 (by decide) ?_
        exact IH8 Z41 (u33 + (1 : Int32)) _ _ _ hF hP hD hS (lv_sub hl [0, 1, 2, 3] rfl)
  exact L8 100 Z2 (0 : Int32) _ _ _ hF hP hD hS (lv_sub hl [0, 1, 2, 3] rfl)

noncomputable def F_X2_winnerBy (Z : Mem) (xa : Int32) (xb : Int32) : Option (Mem × Int32) :=
  br (xb = 0) (cal (F_X2_countFirsts Z xa) fun Z3 _ => calp (F_X2_mostFirsts Z3 ) fun rr7 => some (Z3, rr7)) (br (xb = 1) (cal (F_X2_countPoints Z xa) fun Z10 _ => calp (F_X2_mostPoints Z10 ) fun rr14 => some (Z10, rr14)) (br (xb = 2) (cal (F_X2_countPairs Z xa) fun Z17 _ => calp (F_X2_widestPaths Z17 ) fun rr21 => some (Z17, rr21)) (cal (F_X2_goRounds Z xa) fun Z24 rr25 => some (Z24, rr25))))

set_option maxHeartbeats 4000000 in
set_option maxRecDepth 100000 in
theorem c_X2_winnerBy (l : Launch) (dC : Nat → ClassId) (dI : Nat → Nat → Nat) (q : Nat → ClassId) (aa : Nat → Nat) (Z : Mem) (xa : Int32) (xb : Int32)  (sz : Nat) (Zo : Mem) (ro : Int32) (hF : F_X2_winnerBy Z xa xb = some (Zo, ro)) : Met l yX2_winnerBy wsX2_winnerBy ({ frames := 6, cells := 0, slots := 0, locals := 138 }) (va_Pc [.ref (aa 6), .ref (aa 1), .int xa, .int xb] (pr_ dC dI (bw q aa Z) (bty q) sz)) (va_Qi (fun (r : Int32) (_ : Unit) => r = ro) (fun (_ : Unit) t => po_ dC dI (bw q aa Zo) (bty q) (va_A (bw q aa Z) sz) t) (va_A (bw q aa Z) sz)) 0 0 (va_A (bw q aa Z) sz) := by
  refine Met.ofW (cc := cX2_winnerBy) (maxL := 4) (ret := (some .int)) (by decide) rfl ?_
  intro p e s m args below meth c s₁ B hml hv
  obtain ⟨hargs, hsz, hP, hK, hD0⟩ := hv
  have hx := B.exec
  have hb := B.bytes
  have hr := B.returns
  have hts := atoms_spec (ws := wsX2_winnerBy) B.pre
  have hown : s.vm.findClass RX2 = some m.cls := findClass_of_methodNamed B.named
  have hlocks := B.notSynchronized
  subst hsz
  have hD := hD0.self (sz := s.heap.size)
  generalize hAe : va_A (bw q aa Z) s.heap.size = A at hD ⊢
  have hA : ∀ x : Nat, s.heap.size ≤ x → A x := fun x h => by rw [← hAe]; exact Or.inr h
  have hS : va_S A s.heap s.heap [] := va_S.rf
  have hl := lv_entry ([.ref (aa 6), .ref (aa 1), .int xa, .int xb]) (n := 4) (Nat.le_of_ble_eq_true rfl)
  refine w_ent hargs ?_
  rw [lg_entry_eq]
  generalize (lg_sl ([.ref (aa 6), .ref (aa 1), .int xa, .int xb]) ++ List.replicate (4 - (lg_sl ([.ref (aa 6), .ref (aa 1), .int xa, .int xb])).length) Slot.unset).toArray = ls at hl ⊢
  have hl : lv_has ls 4 [(0, .ref (aa 6)), (1, .ref (aa 1)), (2, .int xa), (3, .int xb)] := hl
  unfold F_X2_winnerBy at hF
  refine w_go (fun Q hQ => ?_)
  refine lv_iload_n hx hb dX2_winnerBy_0 rfl (lv_at hl 3 rfl) ?_
  by_cases hq1 : xb = 0
  · have hF := br_pos hq1 hF
    refine lv_tableIn (off := 27) (tgt := 28) hx hb dX2_winnerBy_1 (by rw [hq1]; decide) (by rw [hq1]; decide) (by rw [hq1]; rfl) (by decide) ?_
    refine lv_aload_n hx hb dX2_winnerBy_28 rfl (lv_at hl 0 rfl) ?_
    refine lv_aload_n hx hb dX2_winnerBy_29 rfl (lv_at hl 1 rfl) ?_
    refine lv_iload_n hx hb dX2_winnerBy_30 rfl (lv_at hl 2 rfl) ?_
    obtain ⟨Z3, _, hC2, hF⟩ := cal_some hF
    have hFc := b_free (ws := bw q aa Z) hD hS hA
    refine va_callv (va_runV (As := [.ref (aa 1), .int xa]) (rest := []) ⟨hx, hb, hml, hown, hts⟩ (c_X2_countFirsts l dC dI q aa Z xa  _ _ _  hC2) (cwV 2 hts gX2_winnerBy_X2_countFirsts rfl rfl rfl (by decide +kernel) ⟨Nat.le_of_ble_eq_true rfl, Nat.le_of_ble_eq_true rfl⟩) ⟨pr_blind, va_recv hK hP (ci := 4) (q0 := 6) rfl (bw_at (i := 6) (by decide) rfl), fun U hU hW => ⟨rfl, pr_mk hU hW hP hK hD⟩⟩ rfl rfl hl.1 rfl (lv_room (Nat.le_of_ble_eq_true rfl)) dX2_winnerBy_31 ⟨Nat.le_of_ble_eq_true rfl, Nat.le_of_ble_eq_true rfl⟩) hS (fun x _ h => hFc x h) hFc (fun u t H1 locs ht hvm hw hB hz1 hk1 hS => ?_)
    obtain ⟨hP, hK1, hD1⟩ := hB
    rw [ht] at hP
    have hD := hD1.weaken (fun _ q9 _ h9 => hFc q9.1 h9)
    clear hFc hD1 hK1 hvm hz1 hk1
    generalize H1 = H at hP hS ⊢
    refine W.widen (k := 0) (n := 0) (Nat.le_refl _) (Nat.le_refl _) ?_
    refine lv_aload_n hx hb dX2_winnerBy_34 rfl (lv_at hl 0 rfl) ?_
    refine lv_aload_n hx hb dX2_winnerBy_35 rfl (lv_at hl 1 rfl) ?_
    obtain ⟨r6, hC5, hF⟩ := calp_some hF
    have hFc := b_free (ws := bw q aa Z3) hD hS hA
    refine va_calli (va_runV (As := [.ref (aa 1)]) (rest := []) ⟨hx, hb, hml, hown, hts⟩ (c_X2_mostFirsts l dC dI q aa Z3   _ _  hC5) (cwV 1 hts gX2_winnerBy_X2_mostFirsts rfl rfl rfl (by decide +kernel) ⟨Nat.le_of_ble_eq_true rfl, Nat.le_of_ble_eq_true rfl⟩) ⟨pr_blind, va_recv hK hP (ci := 4) (q0 := 6) rfl (bw_at (i := 6) (by decide) rfl), fun U hU hW => ⟨rfl, pr_mk hU hW hP hK hD⟩⟩ rfl rfl hl.1 rfl (lv_room (Nat.le_of_ble_eq_true rfl)) dX2_winnerBy_36 ⟨Nat.le_of_ble_eq_true rfl, Nat.le_of_ble_eq_true rfl⟩) hS (fun x _ h => hFc x h) hFc (fun rr7 u t H1 locs ht hvm hw hB hz1 hk1 hS => ?_)
    obtain ⟨hP, hK1, hD1⟩ := hB
    rw [ht] at hP
    have hD := hD1.weaken (fun _ q9 _ h9 => hFc q9.1 h9)
    clear hFc hD1 hK1 hvm hz1 hk1
    generalize H1 = H at hP hS ⊢
    refine W.widen (k := 0) (n := 0) (Nat.le_refl _) (Nat.le_refl _) ?_
    obtain rfl : rr7 = r6 := hw
    obtain ⟨e8, e9⟩ := some2 hF
    rw [← e8] at hP hD
    subst hQ
    exact W.iret (v := rr7) hx hb hr (fun t ht hW => ⟨⟨rr7, (), rfl, e9.symm, po_mk ht hW hP hK hD⟩, hS.F ht⟩) hS.2.2 dX2_winnerBy_39
  have hF := br_neg hq1 hF
  by_cases hq8 : xb = 1
  · have hF := br_pos hq8 hF
    refine lv_tableIn (off := 39) (tgt := 40) hx hb dX2_winnerBy_1 (by rw [hq8]; decide) (by rw [hq8]; decide) (by rw [hq8]; rfl) (by decide) ?_
    refine lv_aload_n hx hb dX2_winnerBy_40 rfl (lv_at hl 0 rfl) ?_
    refine lv_aload_n hx hb dX2_winnerBy_41 rfl (lv_at hl 1 rfl) ?_
    refine lv_iload_n hx hb dX2_winnerBy_42 rfl (lv_at hl 2 rfl) ?_
    obtain ⟨Z10, _, hC9, hF⟩ := cal_some hF
    have hFc := b_free (ws := bw q aa Z) hD hS hA
    refine va_callv (va_runV (As := [.ref (aa 1), .int xa]) (rest := []) ⟨hx, hb, hml, hown, hts⟩ (c_X2_countPoints l dC dI q aa Z xa  _ _ _  hC9) (cwV 2 hts gX2_winnerBy_X2_countPoints rfl rfl rfl (by decide +kernel) ⟨Nat.le_of_ble_eq_true rfl, Nat.le_of_ble_eq_true rfl⟩) ⟨pr_blind, va_recv hK hP (ci := 4) (q0 := 6) rfl (bw_at (i := 6) (by decide) rfl), fun U hU hW => ⟨rfl, pr_mk hU hW hP hK hD⟩⟩ rfl rfl hl.1 rfl (lv_room (Nat.le_of_ble_eq_true rfl)) dX2_winnerBy_43 ⟨Nat.le_of_ble_eq_true rfl, Nat.le_of_ble_eq_true rfl⟩) hS (fun x _ h => hFc x h) hFc (fun u t H1 locs ht hvm hw hB hz1 hk1 hS => ?_)
    obtain ⟨hP, hK1, hD1⟩ := hB
    rw [ht] at hP
    have hD := hD1.weaken (fun _ q9 _ h9 => hFc q9.1 h9)
    clear hFc hD1 hK1 hvm hz1 hk1
    generalize H1 = H at hP hS ⊢
    refine W.widen (k := 0) (n := 0) (Nat.le_refl _) (Nat.le_refl _) ?_
    refine lv_aload_n hx hb dX2_winnerBy_46 rfl (lv_at hl 0 rfl) ?_
    refine lv_aload_n hx hb dX2_winnerBy_47 rfl (lv_at hl 1 rfl) ?_
    obtain ⟨r13, hC12, hF⟩ := calp_some hF
    have hFc := b_free (ws := bw q aa Z10) hD hS hA
    refine va_calli (va_runV (As := [.ref (aa 1)]) (rest := []) ⟨hx, hb, hml, hown, hts⟩ (c_X2_mostPoints l dC dI q aa Z10   _ _  hC12) (cwV 1 hts gX2_winnerBy_X2_mostPoints rfl rfl rfl (by decide +kernel) ⟨Nat.le_of_ble_eq_true rfl, Nat.le_of_ble_eq_true rfl⟩) ⟨pr_blind, va_recv hK hP (ci := 4) (q0 := 6) rfl (bw_at (i := 6) (by decide) rfl), fun U hU hW => ⟨rfl, pr_mk hU hW hP hK hD⟩⟩ rfl rfl hl.1 rfl (lv_room (Nat.le_of_ble_eq_true rfl)) dX2_winnerBy_48 ⟨Nat.le_of_ble_eq_true rfl, Nat.le_of_ble_eq_true rfl⟩) hS (fun x _ h => hFc x h) hFc (fun rr14 u t H1 locs ht hvm hw hB hz1 hk1 hS => ?_)
    obtain ⟨hP, hK1, hD1⟩ := hB
    rw [ht] at hP
    have hD := hD1.weaken (fun _ q9 _ h9 => hFc q9.1 h9)
    clear hFc hD1 hK1 hvm hz1 hk1
    generalize H1 = H at hP hS ⊢
    refine W.widen (k := 0) (n := 0) (Nat.le_refl _) (Nat.le_refl _) ?_
    obtain rfl : rr14 = r13 := hw
    obtain ⟨e8, e9⟩ := some2 hF
    rw [← e8] at hP hD
    subst hQ
    exact W.iret (v := rr14) hx hb hr (fun t ht hW => ⟨⟨rr14, (), rfl, e9.symm, po_mk ht hW hP hK hD⟩, hS.F ht⟩) hS.2.2 dX2_winnerBy_51
  have hF := br_neg hq8 hF
  by_cases hq15 : xb = 2
  · have hF := br_pos hq15 hF
    refine lv_tableIn (off := 51) (tgt := 52) hx hb dX2_winnerBy_1 (by rw [hq15]; decide) (by rw [hq15]; decide) (by rw [hq15]; rfl) (by decide) ?_
    refine lv_aload_n hx hb dX2_winnerBy_52 rfl (lv_at hl 0 rfl) ?_
    refine lv_aload_n hx hb dX2_winnerBy_53 rfl (lv_at hl 1 rfl) ?_
    refine lv_iload_n hx hb dX2_winnerBy_54 rfl (lv_at hl 2 rfl) ?_
    obtain ⟨Z17, _, hC16, hF⟩ := cal_some hF
    have hFc := b_free (ws := bw q aa Z) hD hS hA
    refine va_callv (va_runV (As := [.ref (aa 1), .int xa]) (rest := []) ⟨hx, hb, hml, hown, hts⟩ (c_X2_countPairs l dC dI q aa Z xa  _ _ _  hC16) (cwV 2 hts gX2_winnerBy_X2_countPairs rfl rfl rfl (by decide +kernel) ⟨Nat.le_of_ble_eq_true rfl, Nat.le_of_ble_eq_true rfl⟩) ⟨pr_blind, va_recv hK hP (ci := 4) (q0 := 6) rfl (bw_at (i := 6) (by decide) rfl), fun U hU hW => ⟨rfl, pr_mk hU hW hP hK hD⟩⟩ rfl rfl hl.1 rfl (lv_room (Nat.le_of_ble_eq_true rfl)) dX2_winnerBy_55 ⟨Nat.le_of_ble_eq_true rfl, Nat.le_of_ble_eq_true rfl⟩) hS (fun x _ h => hFc x h) hFc (fun u t H1 locs ht hvm hw hB hz1 hk1 hS => ?_)
    obtain ⟨hP, hK1, hD1⟩ := hB
    rw [ht] at hP
    have hD := hD1.weaken (fun _ q9 _ h9 => hFc q9.1 h9)
    clear hFc hD1 hK1 hvm hz1 hk1
    generalize H1 = H at hP hS ⊢
    refine W.widen (k := 0) (n := 0) (Nat.le_refl _) (Nat.le_refl _) ?_
    refine lv_aload_n hx hb dX2_winnerBy_58 rfl (lv_at hl 0 rfl) ?_
    refine lv_aload_n hx hb dX2_winnerBy_59 rfl (lv_at hl 1 rfl) ?_
    obtain ⟨r20, hC19, hF⟩ := calp_some hF
    have hFc := b_free (ws := bw q aa Z17) hD hS hA
    refine va_calli (va_runV (As := [.ref (aa 1)]) (rest := []) ⟨hx, hb, hml, hown, hts⟩ (c_X2_widestPaths l dC dI q aa Z17   _ _  hC19) (cwV 1 hts gX2_winnerBy_X2_widestPaths rfl rfl rfl (by decide +kernel) ⟨Nat.le_of_ble_eq_true rfl, Nat.le_of_ble_eq_true rfl⟩) ⟨pr_blind, va_recv hK hP (ci := 4) (q0 := 6) rfl (bw_at (i := 6) (by decide) rfl), fun U hU hW => ⟨rfl, pr_mk hU hW hP hK hD⟩⟩ rfl rfl hl.1 rfl (lv_room (Nat.le_of_ble_eq_true rfl)) dX2_winnerBy_60 ⟨Nat.le_of_ble_eq_true rfl, Nat.le_of_ble_eq_true rfl⟩) hS (fun x _ h => hFc x h) hFc (fun rr21 u t H1 locs ht hvm hw hB hz1 hk1 hS => ?_)
    obtain ⟨hP, hK1, hD1⟩ := hB
    rw [ht] at hP
    have hD := hD1.weaken (fun _ q9 _ h9 => hFc q9.1 h9)
    clear hFc hD1 hK1 hvm hz1 hk1
    generalize H1 = H at hP hS ⊢
    refine W.widen (k := 0) (n := 0) (Nat.le_refl _) (Nat.le_refl _) ?_
    obtain rfl : rr21 = r20 := hw
    obtain ⟨e8, e9⟩ := some2 hF
    rw [← e8] at hP hD
    subst hQ
    exact W.iret (v := rr21) hx hb hr (fun t ht hW => ⟨⟨rr21, (), rfl, e9.symm, po_mk ht hW hP hK hD⟩, hS.F ht⟩) hS.2.2 dX2_winnerBy_63
  have hF := br_neg hq15 hF
  refine lv_tableOut (tgt := 64) hx hb dX2_winnerBy_1 (sw_out 2 (by intro k h0 _; have h2 : k = 0 ∨ k = 1 ∨ k = 2 := (by omega); rcases h2 with rfl | rfl | rfl; exact hq1; exact hq8; exact hq15)) (by decide) ?_
  refine lv_aload_n hx hb dX2_winnerBy_64 rfl (lv_at hl 0 rfl) ?_
  refine lv_aload_n hx hb dX2_winnerBy_65 rfl (lv_at hl 1 rfl) ?_
  refine lv_iload_n hx hb dX2_winnerBy_66 rfl (lv_at hl 2 rfl) ?_
  obtain ⟨Z24, r23, hC22, hF⟩ := cal_some hF
  have hFc := b_free (ws := bw q aa Z) hD hS hA
  refine va_calli (va_runV (As := [.ref (aa 1), .int xa]) (rest := []) ⟨hx, hb, hml, hown, hts⟩ (c_X2_goRounds l dC dI q aa Z xa  _ _ _  hC22) (cwV 2 hts gX2_winnerBy_X2_goRounds rfl rfl rfl (by decide +kernel) ⟨Nat.le_of_ble_eq_true rfl, Nat.le_of_ble_eq_true rfl⟩) ⟨pr_blind, va_recv hK hP (ci := 4) (q0 := 6) rfl (bw_at (i := 6) (by decide) rfl), fun U hU hW => ⟨rfl, pr_mk hU hW hP hK hD⟩⟩ rfl rfl hl.1 rfl (lv_room (Nat.le_of_ble_eq_true rfl)) dX2_winnerBy_67 ⟨Nat.le_of_ble_eq_true rfl, Nat.le_of_ble_eq_true rfl⟩) hS (fun x _ h => hFc x h) hFc (fun rr25 u t H1 locs ht hvm hw hB hz1 hk1 hS => ?_)
  obtain ⟨hP, hK1, hD1⟩ := hB
  rw [ht] at hP
  have hD := hD1.weaken (fun _ q9 _ h9 => hFc q9.1 h9)
  clear hFc hD1 hK1 hvm hz1 hk1
  generalize H1 = H at hP hS ⊢
  refine W.widen (k := 0) (n := 0) (Nat.le_refl _) (Nat.le_refl _) ?_
  obtain rfl : rr25 = r23 := hw
  obtain ⟨e8, e9⟩ := some2 hF
  rw [← e8] at hP hD
  subst hQ
  exact W.iret (v := rr25) hx hb hr (fun t ht hW => ⟨⟨rr25, (), rfl, e9.symm, po_mk ht hW hP hK hD⟩, hS.F ht⟩) hS.2.2 dX2_winnerBy_70

noncomputable def F_X2_shiftTo (Z : Mem) (xa : Int32) (xb : Int32) : Option Int32 :=
  gd (¬ (xa < 0 ∨ 6 ≤ ix xa)) <| bv (Z.1 7 (ix xa)) fun y2 => gd (¬ (xb < 0 ∨ 6 ≤ ix xb)) <| bv (Z.1 7 (ix xb)) fun y4 => bv (y2 - y4) fun y5 => br (xa ≤ xb) (bv (y5 / (2 : Int32)) fun y7 => bv (y7 + (1 : Int32)) fun y8 => some y8) (bv (y5 + (1 : Int32)) fun y9 => bv (y9 / (2 : Int32)) fun y10 => some y10)

set_option maxHeartbeats 4000000 in
set_option maxRecDepth 100000 in
theorem c_X2_shiftTo (l : Launch) (dC : Nat → ClassId) (dI : Nat → Nat → Nat) (q : Nat → ClassId) (aa : Nat → Nat) (Z : Mem) (xa : Int32) (xb : Int32)  (sz : Nat) (ro : Int32) (hF : F_X2_shiftTo Z xa xb = some ro) : Met l yX2_shiftTo wsX2_shiftTo ({ frames := 2, cells := 0, slots := 0, locals := 40 }) (va_Pc [.ref (aa 6), .int xa, .int xb] (pr_ dC dI (bw q aa Z) (bty q) sz)) (va_Qi (fun (r : Int32) (_ : Unit) => r = ro) (fun (_ : Unit) t => po_ dC dI (bw q aa Z) (bty q) (va_A (bw q aa Z) sz) t) (va_A (bw q aa Z) sz)) 0 0 (va_A (bw q aa Z) sz) := by
  refine Met.ofW (cc := cX2_shiftTo) (maxL := 4) (ret := (some .int)) (by decide) rfl ?_
  intro p e s m args below meth c s₁ B hml hv
  obtain ⟨hargs, hsz, hP, hK, hD0⟩ := hv
  have hx := B.exec
  have hb := B.bytes
  have hr := B.returns
  have hts := atoms_spec (ws := wsX2_shiftTo) B.pre
  have hown : s.vm.findClass RX2 = some m.cls := findClass_of_methodNamed B.named
  have hlocks := B.notSynchronized
  subst hsz
  have hD := hD0.self (sz := s.heap.size)
  generalize hAe : va_A (bw q aa Z) s.heap.size = A at hD ⊢
  have hA : ∀ x : Nat, s.heap.size ≤ x → A x := fun x h => by rw [← hAe]; exact Or.inr h
  have hS : va_S A s.heap s.heap [] := va_S.rf
  have hinX2 : ∀ w ∈ u_ws RX2 TX2 7, w ∈ wsX2_shiftTo := by decide +kernel
  have hl := lv_entry ([.ref (aa 6), .int xa, .int xb]) (n := 4) (Nat.le_of_ble_eq_true rfl)
  refine w_ent hargs ?_
  rw [lg_entry_eq]
  generalize (lg_sl ([.ref (aa 6), .int xa, .int xb]) ++ List.replicate (4 - (lg_sl ([.ref (aa 6), .int xa, .int xb])).length) Slot.unset).toArray = ls at hl ⊢
  have hl : lv_has ls 4 [(0, .ref (aa 6)), (1, .int xa), (2, .int xb)] := hl
  unfold F_X2_shiftTo at hF
  refine w_go (fun Q hQ => ?_)
  refine lv_aload_n hx hb dX2_shiftTo_0 rfl (lv_at hl 0 rfl) ?_
  refine va_get (D := (dC, dI)) (ci := 4) (v := .ref (aa 7)) (C := RX2) (T := TX2) (N := 7) hx hb hts hinX2 hown hK hP 6 (bw_at (i := 6) (by decide) rfl) rfl 0 (by decide) (hts (.fieldLink RX2 9 "BallotLoom$Poll" "firsts" "[I") (by decide +kernel)) (fun _ h9 => h9) rfl dX2_shiftTo_1 ?_
  refine lv_iload_n hx hb dX2_shiftTo_4 rfl (lv_at hl 1 rfl) ?_
  obtain ⟨hg1, hF⟩ := gd_some hF
  refine va_iald hx hb hK hP 7 0 (at_i (by decide) (fun _ _ => rfl)) rfl hg1 dX2_shiftTo_5 ?_
  refine lv_topi (fun y2 ey2 => ?_)
  have hF := bv_at ey2 hF
  refine lv_aload_n hx hb dX2_shiftTo_6 rfl (lv_at hl 0 rfl) ?_
  refine va_get (D := (dC, dI)) (ci := 4) (v := .ref (aa 7)) (C := RX2) (T := TX2) (N := 7) hx hb hts hinX2 hown hK hP 6 (bw_at (i := 6) (by decide) rfl) rfl 0 (by decide) (hts (.fieldLink RX2 9 "BallotLoom$Poll" "firsts" "[I") (by decide +kernel)) (fun _ h9 => h9) rfl dX2_shiftTo_7 ?_
  refine lv_iload_n hx hb dX2_shiftTo_10 rfl (lv_at hl 2 rfl) ?_
  obtain ⟨hg3, hF⟩ := gd_some hF
  refine va_iald hx hb hK hP 7 0 (at_i (by decide) (fun _ _ => rfl)) rfl hg3 dX2_shiftTo_11 ?_
  refine lv_topi (fun y4 ey4 => ?_)
  have hF := bv_at ey4 hF
  refine lv_isub hx hb dX2_shiftTo_12 ?_
  refine lv_topi (fun y5 ey5 => ?_)
  have hF := bv_at ey5 hF
  refine lv_istore_n (lv' := [(3, .int y5), (0, .ref (aa 6)), (1, .int xa), (2, .int xb)]) hx hb dX2_shiftTo_13 rfl hl (by decide) rfl (fun ls hl => ?_)
  refine lv_iload_n hx hb dX2_shiftTo_14 rfl (lv_at hl 3 rfl) ?_
  refine lv_iload_n hx hb dX2_shiftTo_15 rfl (lv_at hl 2 rfl) ?_
  refine lv_icmp_ge (tgt := 27) hx hb dX2_shiftTo_16 (by decide) (fun hc6 => ?_) (fun hc6 => ?_)
  · have hF := br_pos hc6 hF
    refine lv_iload_n hx hb dX2_shiftTo_27 rfl (lv_at hl 0 rfl) ?_
    refine lv_iconst (v := 2) hx hb dX2_shiftTo_28 (by decide) ?_
    refine lv_idiv hx hb dX2_shiftTo_29 (by decide) ?_
    refine lv_topi (fun y7 ey7 => ?_)
    have hF := bv_at ey7 hF
    refine lv_iconst (v := 1) hx hb dX2_shiftTo_30 (by decide) ?_
    refine lv_iadd hx hb dX2_shiftTo_31 ?_
    refine lv_topi (fun y8 ey8 => ?_)
    have hF := bv_at ey8 hF
    have e9 := some1 hF
    subst hQ
    exact W.iret (v := y8) hx hb hr (fun t ht hW => ⟨⟨y8, (), rfl, e9.symm, po_mk ht hW hP hK hD⟩, hS.F ht⟩) hS.2.2 dX2_shiftTo_32
  · have hF := br_neg hc6 hF
    refine lv_iload_n hx hb dX2_shiftTo_19 rfl (lv_at hl 0 rfl) ?_
    refine lv_iconst (v := 1) hx hb dX2_shiftTo_20 (by decide) ?_
    refine lv_iadd hx hb dX2_shiftTo_21 ?_
    refine lv_topi (fun y9 ey9 => ?_)
    have hF := bv_at ey9 hF
    refine lv_iconst (v := 2) hx hb dX2_shiftTo_22 (by decide) ?_
    refine lv_idiv hx hb dX2_shiftTo_23 (by decide) ?_
    refine lv_topi (fun y10 ey10 => ?_)
    have hF := bv_at ey10 hF
    refine lv_goto (tgt := 32) hx hb dX2_shiftTo_24 (by decide) ?_
    have e9 := some1 hF
    subst hQ
    exact W.iret (v := y10) hx hb hr (fun t ht hW => ⟨⟨y10, (), rfl, e9.symm, po_mk ht hW hP hK hD⟩, hS.F ht⟩) hS.2.2 dX2_shiftTo_32

noncomputable def F_X2_leastShift_x34 (Z2 : Mem) (w11 : Int32) : Option (Mem × Int32) :=
  some (Z2, w11)

noncomputable def F_X2_leastShift_l34 (Z2 : Mem) (rr6 : Int32) (K_34 : Int32 → Option (Mem × Int32)) : Nat → Int32 → Int32 → Option (Mem × Int32)
  | 0, _, _ => none
  | n34 + 1, u12, u13 =>
  bv (Z2.1 1 2) fun y14 => br (y14 ≤ u13) (K_34 u12) (gd (¬ (u13 < 0 ∨ 6 ≤ ix u13)) <| bv (Z2.1 3 (ix u13)) fun y17 => br (y17 = (0 : Int32)) ((F_X2_leastShift_l34 Z2 rr6 K_34 n34) u12 (u13 + (1 : Int32))) (br (u13 = rr6) ((F_X2_leastShift_l34 Z2 rr6 K_34 n34) u12 (u13 + (1 : Int32))) (calp (F_X2_shiftTo Z2 rr6 u13) fun rr22 => br (u12 = ((-1) : Int32)) ((F_X2_leastShift_l34 Z2 rr6 K_34 n34) rr22 (u13 + (1 : Int32))) (bv (if rr22 < u12 then rr22 else u12) fun y24 => (F_X2_leastShift_l34 Z2 rr6 K_34 n34) y24 (u13 + (1 : Int32))))))

noncomputable def F_X2_leastShift (Z : Mem) (xa : Int32) : Option (Mem × Int32) :=
  cal (F_X2_countFirsts Z xa) fun Z2 _ => calp (F_X2_mostFirsts Z2 ) fun rr6 => br (rr6 = ((-1) : Int32)) (some (Z2, ((-1) : Int32))) (gd (¬ (rr6 < 0 ∨ 6 ≤ ix rr6)) <| bv (Z2.1 7 (ix rr6)) fun y9 => br (y9 = (0 : Int32)) (some (Z2, ((-1) : Int32))) (F_X2_leastShift_l34 Z2 rr6 (F_X2_leastShift_x34 Z2) 100 ((-1) : Int32) (0 : Int32)))

set_option maxHeartbeats 4000000 in
set_option maxRecDepth 100000 in
theorem c_X2_leastShift (l : Launch) (dC : Nat → ClassId) (dI : Nat → Nat → Nat) (q : Nat → ClassId) (aa : Nat → Nat) (Z : Mem) (xa : Int32)  (sz : Nat) (Zo : Mem) (ro : Int32) (hF : F_X2_leastShift Z xa = some (Zo, ro)) : Met l yX2_leastShift wsX2_leastShift ({ frames := 4, cells := 0, slots := 0, locals := 85 }) (va_Pc [.ref (aa 6), .ref (aa 1), .int xa] (pr_ dC dI (bw q aa Z) (bty q) sz)) (va_Qi (fun (r : Int32) (_ : Unit) => r = ro) (fun (_ : Unit) t => po_ dC dI (bw q aa Zo) (bty q) (va_A (bw q aa Z) sz) t) (va_A (bw q aa Z) sz)) 0 0 (va_A (bw q aa Z) sz) := by
  refine Met.ofW (cc := cX2_leastShift) (maxL := 7) (ret := (some .int)) (by decide) rfl ?_
  intro p e s m args below meth c s₁ B hml hv
  obtain ⟨hargs, hsz, hP, hK, hD0⟩ := hv
  have hx := B.exec
  have hb := B.bytes
  have hr := B.returns
  have hts := atoms_spec (ws := wsX2_leastShift) B.pre
  have hown : s.vm.findClass RX2 = some m.cls := findClass_of_methodNamed B.named
  have hlocks := B.notSynchronized
  subst hsz
  have hD := hD0.self (sz := s.heap.size)
  generalize hAe : va_A (bw q aa Z) s.heap.size = A at hD ⊢
  have hA : ∀ x : Nat, s.heap.size ≤ x → A x := fun x h => by rw [← hAe]; exact Or.inr h
  have hS : va_S A s.heap s.heap [] := va_S.rf
  have hinX0 : ∀ w ∈ u_ws RX0 TX0 11, w ∈ wsX2_leastShift := by decide +kernel
  have hinX2 : ∀ w ∈ u_ws RX2 TX2 7, w ∈ wsX2_leastShift := by decide +kernel
  have hl := lv_entry ([.ref (aa 6), .ref (aa 1), .int xa]) (n := 7) (Nat.le_of_ble_eq_true rfl)
  refine w_ent hargs ?_
  rw [lg_entry_eq]
  generalize (lg_sl ([.ref (aa 6), .ref (aa 1), .int xa]) ++ List.replicate (7 - (lg_sl ([.ref (aa 6), .ref (aa 1), .int xa])).length) Slot.unset).toArray = ls at hl ⊢
  have hl : lv_has ls 7 [(0, .ref (aa 6)), (1, .ref (aa 1)), (2, .int xa)] := hl
  unfold F_X2_leastShift at hF
  refine w_go (fun Q hQ => ?_)
  refine lv_aload_n hx hb dX2_leastShift_0 rfl (lv_at hl 0 rfl) ?_
  refine lv_aload_n hx hb dX2_leastShift_1 rfl (lv_at hl 1 rfl) ?_
  refine lv_iload_n hx hb dX2_leastShift_2 rfl (lv_at hl 2 rfl) ?_
  obtain ⟨Z2, _, hC1, hF⟩ := cal_some hF
  have hFc := b_free (ws := bw q aa Z) hD hS hA
  refine va_callv (va_runV (As := [.ref (aa 1), .int xa]) (rest := []) ⟨hx, hb, hml, hown, hts⟩ (c_X2_countFirsts l dC dI q aa Z xa  _ _ _  hC1) (cwV 2 hts gX2_leastShift_X2_countFirsts rfl rfl rfl (by decide +kernel) ⟨Nat.le_of_ble_eq_true rfl, Nat.le_of_ble_eq_true rfl⟩) ⟨pr_blind, va_recv hK hP (ci := 4) (q0 := 6) rfl (bw_at (i := 6) (by decide) rfl), fun U hU hW => ⟨rfl, pr_mk hU hW hP hK hD⟩⟩ rfl rfl hl.1 rfl (lv_room (Nat.le_of_ble_eq_true rfl)) dX2_leastShift_3 ⟨Nat.le_of_ble_eq_true rfl, Nat.le_of_ble_eq_true rfl⟩) hS (fun x _ h => hFc x h) hFc (fun u t H1 locs ht hvm hw hB hz1 hk1 hS => ?_)
  obtain ⟨hP, hK1, hD1⟩ := hB
  rw [ht] at hP
  have hD := hD1.weaken (fun _ q9 _ h9 => hFc q9.1 h9)
  clear hFc hD1 hK1 hvm hz1 hk1
  generalize H1 = H at hP hS ⊢
  refine W.widen (k := 0) (n := 0) (Nat.le_refl _) (Nat.le_refl _) ?_
  refine lv_aload_n hx hb dX2_leastShift_6 rfl (lv_at hl 0 rfl) ?_
  refine lv_aload_n hx hb dX2_leastShift_7 rfl (lv_at hl 1 rfl) ?_
  obtain ⟨r5, hC4, hF⟩ := calp_some hF
  have hFc := b_free (ws := bw q aa Z2) hD hS hA
  refine va_calli (va_runV (As := [.ref (aa 1)]) (rest := []) ⟨hx, hb, hml, hown, hts⟩ (c_X2_mostFirsts l dC dI q aa Z2   _ _  hC4) (cwV 1 hts gX2_leastShift_X2_mostFirsts rfl rfl rfl (by decide +kernel) ⟨Nat.le_of_ble_eq_true rfl, Nat.le_of_ble_eq_true rfl⟩) ⟨pr_blind, va_recv hK hP (ci := 4) (q0 := 6) rfl (bw_at (i := 6) (by decide) rfl), fun U hU hW => ⟨rfl, pr_mk hU hW hP hK hD⟩⟩ rfl rfl hl.1 rfl (lv_room (Nat.le_of_ble_eq_true rfl)) dX2_leastShift_8 ⟨Nat.le_of_ble_eq_true rfl, Nat.le_of_ble_eq_true rfl⟩) hS (fun x _ h => hFc x h) hFc (fun rr6 u t H1 locs ht hvm hw hB hz1 hk1 hS => ?_)
  obtain ⟨hP, hK1, hD1⟩ := hB
  rw [ht] at hP
  have hD := hD1.weaken (fun _ q9 _ h9 => hFc q9.1 h9)
  clear hFc hD1 hK1 hvm hz1 hk1
  generalize H1 = H at hP hS ⊢
  refine W.widen (k := 0) (n := 0) (Nat.le_refl _) (Nat.le_refl _) ?_
  obtain rfl : rr6 = r5 := hw
  refine lv_istore_n (lv' := [(3, .int rr6), (0, .ref (aa 6)), (1, .ref (aa 1)), (2, .int xa)]) hx hb dX2_leastShift_11 rfl hl (by decide) rfl (fun ls hl => ?_)
  refine lv_iload_n hx hb dX2_leastShift_12 rfl (lv_at hl 0 rfl) ?_
  refine lv_iconst (v := (-1)) hx hb dX2_leastShift_13 (by decide) ?_
  refine lv_icmp_eq (tgt := 26) hx hb dX2_leastShift_14 (by decide) (fun hc7 => ?_) (fun hc7 => ?_)
  · have hF := br_pos hc7 hF
    refine lv_iconst (v := (-1)) hx hb dX2_leastShift_26 (by decide) ?_
    obtain ⟨e8, e9⟩ := some2 hF
    rw [← e8] at hP hD
    subst hQ
    exact W.iret (v := (-1)) hx hb hr (fun t ht hW => ⟨⟨(-1), (), rfl, e9.symm, po_mk ht hW hP hK hD⟩, hS.F ht⟩) hS.2.2 dX2_leastShift_27
  · have hF := br_neg hc7 hF
    refine lv_aload_n hx hb dX2_leastShift_17 rfl (lv_at hl 1 rfl) ?_
    refine va_get (D := (dC, dI)) (ci := 4) (v := .ref (aa 7)) (C := RX2) (T := TX2) (N := 7) hx hb hts hinX2 hown hK hP 6 (bw_at (i := 6) (by decide) rfl) rfl 0 (by decide) (hts (.fieldLink RX2 9 "BallotLoom$Poll" "firsts" "[I") (by decide +kernel)) (fun _ h9 => h9) rfl dX2_leastShift_18 ?_
    refine lv_iload_n hx hb dX2_leastShift_21 rfl (lv_at hl 0 rfl) ?_
    obtain ⟨hg8, hF⟩ := gd_some hF
    refine va_iald hx hb hK hP 7 0 (at_i (by decide) (fun _ _ => rfl)) rfl hg8 dX2_leastShift_22 ?_
    refine lv_topi (fun y9 ey9 => ?_)
    have hF := bv_at ey9 hF
    refine lv_if_ne (tgt := 28) hx hb dX2_leastShift_23 (by decide) (fun hc10 => ?_) (fun hc10 => ?_)
    · have hF := br_neg hc10 hF
      refine lv_iconst (v := (-1)) hx hb dX2_leastShift_28 (by decide) ?_
      refine lv_istore (lv' := [(4, .int (-1)), (3, .int rr6), (0, .ref (aa 6)), (1, .ref (aa 1)), (2, .int xa)]) hx hb dX2_leastShift_29 hl (by decide) rfl (fun ls hl => ?_)
      refine lv_iconst (v := 0) hx hb dX2_leastShift_31 (by decide) ?_
      refine lv_istore (lv' := [(5, .int 0), (4, .int (-1)), (3, .int rr6), (0, .ref (aa 6)), (1, .ref (aa 1)), (2, .int xa)]) hx hb dX2_leastShift_32 hl (by decide) rfl (fun ls hl => ?_)
      have Jx34 : ∀ (w11 : Int32) (H : Heap) (locs : List Loc) (ls : Array Slot), (F_X2_leastShift_x34 Z2) w11 = some (Zo, ro) → va_P (dC, dI) vwCl (bw q aa Z2) H → va_D A (bw q aa Z2) → va_S A s.heap H locs → lv_has ls 7 [(4, .int w11)] → W p l e (headSpec wsX2_leastShift ({ frames := 4, cells := 0, slots := 0, locals := 85 } : Room)).room s m args below meth c H locs 0 0 Q (F0 m 94 ls []) := by
        intro w11 H locs ls hF hP hD hS hl
        unfold F_X2_leastShift_x34 at hF
        refine lv_iload hx hb dX2_leastShift_94 (lv_at hl 0 rfl) ?_
        obtain ⟨e8, e9⟩ := some2 hF
        rw [← e8] at hP hD
        subst hQ
        exact W.iret (v := w11) hx hb hr (fun t ht hW => ⟨⟨w11, (), rfl, e9.symm, po_mk ht hW hP hK hD⟩, hS.F ht⟩) hS.2.2 dX2_leastShift_96
      have L34 : ∀ (n34 : Nat) (u12 : Int32) (u13 : Int32) (H : Heap) (locs : List Loc) (ls : Array Slot), F_X2_leastShift_l34 Z2 rr6 (F_X2_leastShift_x34 Z2) n34 u12 u13 = some (Zo, ro) → va_P (dC, dI) vwCl (bw q aa Z2) H → va_D A (bw q aa Z2) → va_S A s.heap H locs → lv_has ls 7 [(5, .int u13), (4, .int u12), (3, .int rr6), (0, .ref (aa 6)), (1, .ref (aa 1))] → W p l e (headSpec wsX2_leastShift ({ frames := 4, cells := 0, slots := 0, locals := 85 } : Room)).room s m args below meth c H locs 0 0 Q (F0 m 34 ls []) := by
        intro n34
        induction n34 with
        | zero =>
          intro u12 u13 H locs ls hF
          rw [F_X2_leastShift_l34] at hF
          cases hF
        | succ n34 IH34 =>
          intro u12 u13 H locs ls hF hP hD hS hl
          rw [F_X2_leastShift_l34] at hF
          refine lv_iload hx hb dX2_leastShift_34 (lv_at hl 0 rfl) ?_
          refine lv_aload_n hx hb dX2_leastShift_36 rfl (lv_at hl 4 rfl) ?_
          refine va_get (D := (dC, dI)) (ci := 2) (v := .int (Z2.1 1 2)) (C := RX0) (T := TX0) (N := 11) hx hb hts hinX0 hown hK hP 1 (bw_at (i := 1) (by decide) rfl) rfl 2 (by decide) (hts (.fieldLink RX2 86 "BallotLoom$Box" "candidates" "I") (by decide +kernel)) (fun _ h9 => h9) rfl dX2_leastShift_37 ?_
          refine lv_topi (fun y14 ey14 => ?_)
          have hF := bv_at ey14 hF
          refine lv_icmp_ge (tgt := 94) hx hb dX2_leastShift_40 (by decide) (fun hc15 => ?_) (fun hc15 => ?_)
          · have hF := br_pos hc15 hF
            exact Jx34 u12 _ _ _ hF hP hD hS (lv_sub hl [1] rfl)
          · have hF := br_neg hc15 hF
            refine lv_aload_n hx hb dX2_leastShift_43 rfl (lv_at hl 4 rfl) ?_
            refine va_get (D := (dC, dI)) (ci := 2) (v := .ref (aa 3)) (C := RX0) (T := TX0) (N := 11) hx hb hts hinX0 hown hK hP 1 (bw_at (i := 1) (by decide) rfl) rfl 1 (by decide) (hts (.fieldLink RX2 89 "BallotLoom$Box" "stands" "[Z") (by decide +kernel)) (fun _ h9 => h9) rfl dX2_leastShift_44 ?_
            refine lv_iload hx hb dX2_leastShift_47 (lv_at hl 0 rfl) ?_
            obtain ⟨hg16, hF⟩ := gd_some hF
            refine va_zald hx hb hK hP 3 1 (at_i (by decide) (fun _ _ => rfl)) rfl hg16 dX2_leastShift_49 ?_
            refine lv_topi (fun y17 ey17 => ?_)
            have hF := bv_at ey17 hF
            refine lv_if_eq (tgt := 88) hx hb dX2_leastShift_50 (by decide) (fun hc18 => ?_) (fun hc18 => ?_)
            · have hF := br_pos hc18 hF
              refine lv_iinc (k := 0) (v := (u13 + (1 : Int32))) (lv' := [(5, .int (u13 + (1 : Int32))), (4, .int u12), (3, .int rr6), (0, .ref (aa 6)), (1, .ref (aa 1))]) hx hb dX2_leastShift_88 hl rfl (ii_ _ _ _ (by decide)) (by decide) rfl (fun ls hl => ?_)
              refine lv_goto (tgt := 34) hx hb dX2_leastShift_91 (by decide) ?_
              exact IH34 u12 (u13 + (1 : Int32)) _ _ _ hF hP hD hS (lv_sub hl [0, 1, 2, 3, 4] rfl)
            · have hF := br_neg hc18 hF
              refine lv_iload hx hb dX2_leastShift_53 (lv_at hl 0 rfl) ?_
              refine lv_iload_n hx hb dX2_leastShift_55 rfl (lv_at hl 2 rfl) ?_
              refine lv_icmp_eq (tgt := 88) hx hb dX2_leastShift_56 (by decide) (fun hc19 => ?_) (fun hc19 => ?_)
              · have hF := br_pos hc19 hF
                refine lv_iinc (k := 0) (v := (u13 + (1 : Int32))) (lv' := [(5, .int (u13 + (1 : Int32))), (4, .int u12), (3, .int rr6), (0, .ref (aa 6)), (1, .ref (aa 1))]) hx hb dX2_leastShift_88 hl rfl (ii_ _ _ _ (by decide)) (by decide) rfl (fun ls hl => ?_)
                refine lv_goto (tgt := 34) hx hb dX2_leastShift_91 (by decide) ?_
                exact IH34 u12 (u13 + (1 : Int32)) _ _ _ hF hP hD hS (lv_sub hl [0, 1, 2, 3, 4] rfl)
              · have hF := br_neg hc19 hF
                refine lv_aload_n hx hb dX2_leastShift_59 rfl (lv_at hl 3 rfl) ?_
                refine lv_iload_n hx hb dX2_leastShift_60 rfl (lv_at hl 2 rfl) ?_
                refine lv_iload hx hb dX2_leastShift_61 (lv_at hl 0 rfl) ?_
                obtain ⟨r21, hC20, hF⟩ := calp_some hF
                have hFc := b_free (ws := bw q aa Z2) hD hS hA
                refine va_calli (va_runV (As := [.int rr6, .int u13]) (rest := []) ⟨hx, hb, hml, hown, hts⟩ (c_X2_shiftTo l dC dI q aa Z2 rr6 u13  _ _  hC20) (cwV 2 hts gX2_leastShift_X2_shiftTo rfl rfl rfl (by decide +kernel) ⟨Nat.le_of_ble_eq_true rfl, Nat.le_of_ble_eq_true rfl⟩) ⟨pr_blind, va_recv hK hP (ci := 4) (q0 := 6) rfl (bw_at (i := 6) (by decide) rfl), fun U hU hW => ⟨rfl, pr_mk hU hW hP hK hD⟩⟩ rfl rfl hl.1 rfl (lv_room (Nat.le_of_ble_eq_true rfl)) dX2_leastShift_63 ⟨Nat.le_of_ble_eq_true rfl, Nat.le_of_ble_eq_true rfl⟩) hS (fun x _ h => hFc x h) hFc (fun rr22 u t H1 locs ht hvm hw hB hz1 hk1 hS => ?_)
                obtain ⟨hP, hK1, hD1⟩ := hB
                rw [ht] at hP
                have hD := hD1.weaken (fun _ q9 _ h9 => hFc q9.1 h9)
                clear hFc hD1 hK1 hvm hz1 hk1
                generalize H1 = H at hP hS ⊢
                refine W.widen (k := 0) (n := 0) (Nat.le_refl _) (Nat.le_refl _) ?_
                obtain rfl : rr22 = r21 := hw
                refine lv_istore (lv' := [(6, .int rr22), (5, .int u13), (4, .int u12), (3, .int rr6), (0, .ref (aa 6)), (1, .ref (aa 1))]) hx hb dX2_leastShift_66 hl (by decide) rfl (fun ls hl => ?_)
                refine lv_iload hx hb dX2_leastShift_68 (lv_at hl 2 rfl) ?_
                refine lv_iconst (v := (-1)) hx hb dX2_leastShift_70 (by decide) ?_
                refine lv_icmp_ne (tgt := 79) hx hb dX2_leastShift_71 (by decide) (fun hc23 => ?_) (fun hc23 => ?_)
                · have hF := br_neg hc23 hF
                  refine lv_iload hx hb dX2_leastShift_79 (lv_at hl 2 rfl) ?_
                  refine lv_iload hx hb dX2_leastShift_81 (lv_at hl 0 rfl) ?_
                  refine va_mmin hx hb (by rw [hml]; exact hl.1.symm) hown (hts (.methodLink RX2 116 Lib.Math.min.name) (by decide +kernel)) (hts (.static Lib.Math.min.name) (by decide +kernel)) (hts (.initialized "java/lang/Math") (by decide +kernel)) (hts (.code Lib.Math.min.name Lib.Math.min.code 2 (some .int)) (by decide +kernel)) (Nat.le_of_ble_eq_true rfl) (Nat.le_of_ble_eq_true rfl) (Nat.le_of_ble_eq_true rfl) (Nat.le_of_ble_eq_true rfl) dX2_leastShift_83 ?_
                  refine lv_topi (fun y24 ey24 => ?_)
                  have hF := bv_at ey24 hF
                  refine lv_istore (lv' := [(4, .int y24), (6, .int rr22), (5, .int u13), (3, .int rr6), (0, .ref (aa 6)), (1, .ref (aa 1))]) hx hb dX2_leastShift_86 hl (by decide) rfl (fun ls hl => ?_)
                  refine lv_iinc (k := 2) (v := (u13 + (1 : Int32))) (lv' := [(5, .int (u13 + (1 : Int32))), (4, .int y24), (6, .int rr22), (3, .int rr6), (0, .ref (aa 6)), (1, .ref (aa 1))]) hx hb dX2_leastShift_88 hl rfl (ii_ _ _ _ (by decide)) (by decide) rfl (fun ls hl => ?_)
                  refine lv_goto (tgt := 34) hx hb dX2_leastShift_91 (by decide) ?_
                  exact IH34 y24 (u13 + (1 : Int32)) _ _ _ hF hP hD hS (lv_sub hl [0, 1, 3, 4, 5] rfl)
                · have hF := br_pos hc23 hF
                  refine lv_iload hx hb dX2_leastShift_74 (lv_at hl 0 rfl) ?_
                  refine lv_goto (tgt := 86) hx hb dX2_leastShift_76 (by decide) ?_
                  refine lv_istore (lv' := [(4, .int rr22), (6, .int rr22), (5, .int u13), (3, .int rr6), (0, .ref (aa 6)), (1, .ref (aa 1))]) hx hb dX2_leastShift_86 hl (by decide) rfl (fun ls hl => ?_)
                  refine lv_iinc (k := 2) (v := (u13 + (1 : Int32))) (lv' := [(5, .int (u13 + (1 : Int32))), (4, .int rr22), (6, .int rr22), (3, .int rr6), (0, .ref (aa 6)), (1, .ref (aa 1))]) hx hb dX2_leastShift_88 hl rfl (ii_ _ _ _ (by decide)) (by decide) rfl (fun ls hl => ?_)
                  refine lv_goto (tgt := 34) hx hb dX2_leastShift_91 (by decide) ?_
                  exact IH34 rr22 (u13 + (1 : Int32)) _ _ _ hF hP hD hS (lv_sub hl [0, 1, 3, 4, 5] rfl)
      exact L34 100 ((-1) : Int32) (0 : Int32) _ _ _ hF hP hD hS (lv_sub hl [0, 1, 2, 3, 4] rfl)
    · have hF := br_pos hc10 hF
      refine lv_iconst (v := (-1)) hx hb dX2_leastShift_26 (by decide) ?_
      obtain ⟨e8, e9⟩ := some2 hF
      rw [← e8] at hP hD
      subst hQ
      exact W.iret (v := (-1)) hx hb hr (fun t ht hW => ⟨⟨(-1), (), rfl, e9.symm, po_mk ht hW hP hK hD⟩, hS.F ht⟩) hS.2.2 dX2_leastShift_27
