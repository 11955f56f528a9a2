/-! p31: 13.poll (laid by wip/gen31/bgen.py) -/
noncomputable def F_X2_countFirsts_x23 (Z2 : Mem) : Option (Mem × Unit) :=
  some (Z2, ())

noncomputable def F_X2_countFirsts_l23 (xa : Int32) (K_23 : Mem → Option (Mem × Unit)) : Nat → Mem → Int32 → Option (Mem × Unit)
  | 0, _, _ => none
  | n23 + 1, Z4, u3 =>
  bv (Z4.1 1 7) fun y5 => br (y5 ≤ u3) (K_23 Z4) (gd (¬ (u3 < 0 ∨ 24 ≤ ix u3)) <| calp (F_X3_countsIn Z4 (ix u3) xa) fun rr11 => br (rr11 = (0 : Int32)) ((F_X2_countFirsts_l23 xa K_23 n23) Z4 (u3 + (1 : Int32))) (bv (Z4.1 (39 + (ix u3)) 5) fun y13 => br (y13 ≤ (0 : Int32)) ((F_X2_countFirsts_l23 xa K_23 n23) Z4 (u3 + (1 : Int32))) (bv (Z4.1 (64 + (ix u3)) (ix (0 : Int32))) fun y15 => gd (¬ (y15 < 0 ∨ 6 ≤ ix y15)) <| bv (Z4.1 7 (ix y15)) fun y17 => bv (Z4.1 (39 + (ix u3)) 2) fun y18 => bv (y17 + y18) fun y19 => bv (si Z4 7 (ix y15) y19) fun Z20 => (F_X2_countFirsts_l23 xa K_23 n23) Z20 (u3 + (1 : Int32)))))

noncomputable def F_X2_countFirsts_x2 (xa : Int32) (Z1 : Mem) : Option (Mem × Unit) :=
  F_X2_countFirsts_l23 xa F_X2_countFirsts_x23 100 Z1 (0 : Int32)

noncomputable def F_X2_countFirsts_l2 (K_2 : Mem → Option (Mem × Unit)) : Nat → Mem → Int32 → Option (Mem × Unit)
  | 0, _, _ => none
  | n2 + 1, Z22, u21 =>
  br ((6 : Int32) ≤ u21) (K_2 Z22) (gd (¬ (u21 < 0 ∨ 6 ≤ ix u21)) <| bv (si Z22 7 (ix u21) (0 : Int32)) fun Z25 => (F_X2_countFirsts_l2 K_2 n2) Z25 (u21 + (1 : Int32)))

noncomputable def F_X2_countFirsts (Z : Mem) (xa : Int32) : Option (Mem × Unit) :=
  F_X2_countFirsts_l2 (F_X2_countFirsts_x2 xa) 100 Z (0 : Int32)

set_option maxHeartbeats 4000000 in
set_option maxRecDepth 100000 in
theorem c_X2_countFirsts (l : Launch) (dC : Nat → ClassId) (dI : Nat → Nat → Nat) (q : Nat → ClassId) (aa : Nat → Nat) (Z : Mem) (xa : Int32)  (sz : Nat) (Zo : Mem) (ro : Unit) (hF : F_X2_countFirsts Z xa = some (Zo, ro)) : Met l yX2_countFirsts wsX2_countFirsts ({ frames := 3, cells := 0, slots := 0, locals := 61 }) (va_Pc [.ref (aa 6), .ref (aa 1), .int xa] (pr_ dC dI (bw q aa Z) (bty q) sz)) (va_Qv (fun (_ : Unit) => True) (fun (_ : Unit) t => po_ dC dI (bw q aa Zo) (bty q) (va_A (bw q aa Z) sz) t) (va_A (bw q aa Z) sz)) 0 0 (va_A (bw q aa Z) sz) := by
  refine Met.ofW (cc := cX2_countFirsts) (maxL := 5) (ret := none) (by decide) rfl ?_
  intro p e s m args below meth c s₁ B hml hv
  obtain ⟨hargs, hsz, hP, hK, hD0⟩ := hv
  have hx := B.exec
  have hb := B.bytes
  have hr := B.returns
  have hts := atoms_spec (ws := wsX2_countFirsts) B.pre
  have hown : s.vm.findClass RX2 = some m.cls := findClass_of_methodNamed B.named
  have hlocks := B.notSynchronized
  subst hsz
  have hD := hD0.self (sz := s.heap.size)
  generalize hAe : va_A (bw q aa Z) s.heap.size = A at hD ⊢
  have hA : ∀ x : Nat, s.heap.size ≤ x → A x := fun x h => by rw [← hAe]; exact Or.inr h
  have hS : va_S A s.heap s.heap [] := va_S.rf
  have hinX0 : ∀ w ∈ u_ws RX0 TX0 11, w ∈ wsX2_countFirsts := by decide +kernel
  have hinX2 : ∀ w ∈ u_ws RX2 TX2 7, w ∈ wsX2_countFirsts := by decide +kernel
  have hinX3 : ∀ w ∈ u_ws RX3 TX3 7, w ∈ wsX2_countFirsts := by decide +kernel
  have hl := lv_entry ([.ref (aa 6), .ref (aa 1), .int xa]) (n := 5) (Nat.le_of_ble_eq_true rfl)
  refine w_ent hargs ?_
  rw [lg_entry_eq]
  generalize (lg_sl ([.ref (aa 6), .ref (aa 1), .int xa]) ++ List.replicate (5 - (lg_sl ([.ref (aa 6), .ref (aa 1), .int xa])).length) Slot.unset).toArray = ls at hl ⊢
  have hl : lv_has ls 5 [(0, .ref (aa 6)), (1, .ref (aa 1)), (2, .int xa)] := hl
  unfold F_X2_countFirsts at hF
  refine w_go (fun Q hQ => ?_)
  refine lv_iconst (v := 0) hx hb dX2_countFirsts_0 (by decide) ?_
  refine lv_istore_n (lv' := [(3, .int 0), (0, .ref (aa 6)), (1, .ref (aa 1)), (2, .int xa)]) hx hb dX2_countFirsts_1 rfl hl (by decide) rfl (fun ls hl => ?_)
  have Jx2 : ∀ (Z1 : Mem) (H : Heap) (locs : List Loc) (ls : Array Slot), (F_X2_countFirsts_x2 xa) Z1 = some (Zo, ro) → va_P (dC, dI) vwCl (bw q aa Z1) H → va_D A (bw q aa Z1) → va_S A s.heap H locs → lv_has ls 5 [(0, .ref (aa 6)), (1, .ref (aa 1)), (2, .int xa)] → W p l e (headSpec wsX2_countFirsts ({ frames := 3, cells := 0, slots := 0, locals := 61 } : Room)).room s m args below meth c H locs 0 0 Q (F0 m 21 ls []) := by
    intro Z1 H locs ls hF hP hD hS hl
    unfold F_X2_countFirsts_x2 at hF
    refine lv_iconst (v := 0) hx hb dX2_countFirsts_21 (by decide) ?_
    refine lv_istore_n (lv' := [(3, .int 0), (0, .ref (aa 6)), (1, .ref (aa 1)), (2, .int xa)]) hx hb dX2_countFirsts_22 rfl hl (by decide) rfl (fun ls hl => ?_)
    have Jx23 : ∀ (Z2 : Mem) (H : Heap) (locs : List Loc) (ls : Array Slot), F_X2_countFirsts_x23 Z2 = some (Zo, ro) → va_P (dC, dI) vwCl (bw q aa Z2) H → va_D A (bw q aa Z2) → va_S A s.heap H locs → lv_has ls 5 [] → W p l e (headSpec wsX2_countFirsts ({ frames := 3, cells := 0, slots := 0, locals := 61 } : Room)).room s m args below meth c H locs 0 0 Q (F0 m 82 ls []) := by
      intro Z2 H locs ls hF hP hD hS hl
      unfold F_X2_countFirsts_x23 at hF
      obtain ⟨e8, e9⟩ := some2 hF
      rw [← e8] at hP hD
      subst hQ
      exact W.vret hx hb hr (fun t ht hW => ⟨⟨(), rfl, trivial, po_mk ht hW hP hK hD⟩, hS.F ht⟩) hS.2.2 dX2_countFirsts_82
    have L23 : ∀ (n23 : Nat) (Z4 : Mem) (u3 : Int32) (H : Heap) (locs : List Loc) (ls : Array Slot), F_X2_countFirsts_l23 xa F_X2_countFirsts_x23 n23 Z4 u3 = some (Zo, ro) → va_P (dC, dI) vwCl (bw q aa Z4) H → va_D A (bw q aa Z4) → va_S A s.heap H locs → lv_has ls 5 [(3, .int u3), (0, .ref (aa 6)), (1, .ref (aa 1)), (2, .int xa)] → W p l e (headSpec wsX2_countFirsts ({ frames := 3, cells := 0, slots := 0, locals := 61 } : Room)).room s m args below meth c H locs 0 0 Q (F0 m 23 ls []) := by
      intro n23
      induction n23 with
      | zero =>
        intro Z4 u3 H locs ls hF
        rw [F_X2_countFirsts_l23] at hF
        cases hF
      | succ n23 IH23 =>
        intro Z4 u3 H locs ls hF hP hD hS hl
        rw [F_X2_countFirsts_l23] at hF
        refine lv_iload_n hx hb dX2_countFirsts_23 rfl (lv_at hl 0 rfl) ?_
        refine lv_aload_n hx hb dX2_countFirsts_24 rfl (lv_at hl 2 rfl) ?_
        refine va_get (D := (dC, dI)) (ci := 2) (v := .int (Z4.1 1 7)) (C := RX0) (T := TX0) (N := 11) hx hb hts hinX0 hown hK hP 1 (bw_at (i := 1) (by decide) rfl) rfl 7 (by decide) (hts (.fieldLink RX2 61 "BallotLoom$Box" "cast" "I") (by decide +kernel)) (fun _ h9 => h9) rfl dX2_countFirsts_25 ?_
        refine lv_topi (fun y5 ey5 => ?_)
        have hF := bv_at ey5 hF
        refine lv_icmp_ge (tgt := 82) hx hb dX2_countFirsts_28 (by decide) (fun hc6 => ?_) (fun hc6 => ?_)
        · have hF := br_pos hc6 hF
          exact Jx23 Z4 _ _ _ hF hP hD hS (lv_sub hl [] rfl)
        · have hF := br_neg hc6 hF
          refine lv_aload_n hx hb dX2_countFirsts_31 rfl (lv_at hl 2 rfl) ?_
          refine va_get (D := (dC, dI)) (ci := 2) (v := .ref (aa 5)) (C := RX0) (T := TX0) (N := 11) hx hb hts hinX0 hown hK hP 1 (bw_at (i := 1) (by decide) rfl) rfl 6 (by decide) (hts (.fieldLink RX2 67 "BallotLoom$Box" "stacks" "[LBallotLoom$Stack;") (by decide +kernel)) (fun _ h9 => h9) rfl dX2_countFirsts_32 ?_
          refine lv_iload_n hx hb dX2_countFirsts_35 rfl (lv_at hl 0 rfl) ?_
          obtain ⟨hg7, hF⟩ := gd_some hF
          have hk8 : ix u3 < 25 := in_lt hg7 (by decide)
          refine bq_ald (v := (aa (39 + (ix u3)))) (hty := rfl) hx hb hK hP 5 3 (at_q (by decide) (fun _ _ => rfl)) rfl hg7 (if_pos (in_lt hg7 (Nat.le_refl _))) dX2_countFirsts_36 ?_
          refine lv_astore (lv' := [(4, .ref (aa (39 + (ix u3)))), (3, .int u3), (0, .ref (aa 6)), (1, .ref (aa 1)), (2, .int xa)]) hx hb dX2_countFirsts_37 hl (by decide) rfl (fun ls hl => ?_)
          refine lv_aload hx hb dX2_countFirsts_39 (lv_at hl 0 rfl) ?_
          refine lv_iload_n hx hb dX2_countFirsts_41 rfl (lv_at hl 4 rfl) ?_
          obtain ⟨r10, hC9, hF⟩ := calp_some hF
          have hFc := b_free (ws := bw q aa Z4) hD hS hA
          refine va_calli (va_runV (As := [.int xa]) (rest := []) ⟨hx, hb, hml, hown, hts⟩ (c_X3_countsIn l dC dI q aa Z4 (ix u3) xa hk8 _ _  hC9) (cwV 1 hts gX2_countFirsts_X3_countsIn rfl rfl rfl (by decide +kernel) ⟨Nat.le_of_ble_eq_true rfl, Nat.le_of_ble_eq_true rfl⟩) ⟨pr_blind, va_recv hK hP (ci := 5) (q0 := (39 + (ix u3))) rfl (bw_at (i := 39 + (ix u3)) (by omega) (bk_stk hk8 _ _)), fun U hU hW => ⟨rfl, pr_mk hU hW hP hK hD⟩⟩ rfl rfl hl.1 rfl (lv_room (Nat.le_of_ble_eq_true rfl)) dX2_countFirsts_42 ⟨Nat.le_of_ble_eq_true rfl, Nat.le_of_ble_eq_true rfl⟩) hS (fun x _ h => hFc x h) hFc (fun rr11 u t H1 locs ht hvm hw hB hz1 hk1 hS => ?_)
          obtain ⟨hP, hK1, hD1⟩ := hB
          rw [ht] at hP
          have hD := hD1.weaken (fun _ q9 _ h9 => hFc q9.1 h9)
          clear hFc hD1 hK1 hvm hz1 hk1
          generalize H1 = H at hP hS ⊢
          refine W.widen (k := 0) (n := 0) (Nat.le_refl _) (Nat.le_refl _) ?_
          obtain rfl : rr11 = r10 := hw
          refine lv_if_eq (tgt := 76) hx hb dX2_countFirsts_45 (by decide) (fun hc12 => ?_) (fun hc12 => ?_)
          · have hF := br_pos hc12 hF
            refine lv_iinc (k := 1) (v := (u3 + (1 : Int32))) (lv' := [(3, .int (u3 + (1 : Int32))), (4, .ref (aa (39 + (ix u3)))), (0, .ref (aa 6)), (1, .ref (aa 1)), (2, .int xa)]) hx hb dX2_countFirsts_76 hl rfl (ii_ _ _ _ (by decide)) (by decide) rfl (fun ls hl => ?_)
            refine lv_goto (tgt := 23) hx hb dX2_countFirsts_79 (by decide) ?_
            exact IH23 Z4 (u3 + (1 : Int32)) _ _ _ hF hP hD hS (lv_sub hl [0, 2, 3, 4] rfl)
          · have hF := br_neg hc12 hF
            refine lv_aload hx hb dX2_countFirsts_48 (lv_at hl 0 rfl) ?_
            refine va_get (D := (dC, dI)) (ci := 5) (v := .int (Z4.1 (39 + (ix u3)) 5)) (C := RX3) (T := TX3) (N := 7) hx hb hts hinX3 hown hK hP (39 + (ix u3)) (bw_at (i := 39 + (ix u3)) (by omega) (bk_stk hk8 _ _)) rfl 5 (by decide) (hts (.fieldLink RX2 77 "BallotLoom$Stack" "length" "I") (by decide +kernel)) (fun _ h9 => h9) rfl dX2_countFirsts_50 ?_
            refine lv_topi (fun y13 ey13 => ?_)
            have hF := bv_at ey13 hF
            refine lv_if_le (tgt := 76) hx hb dX2_countFirsts_53 (by decide) (fun hc14 => ?_) (fun hc14 => ?_)
            · have hF := br_pos hc14 hF
              refine lv_iinc (k := 1) (v := (u3 + (1 : Int32))) (lv' := [(3, .int (u3 + (1 : Int32))), (4, .ref (aa (39 + (ix u3)))), (0, .ref (aa 6)), (1, .ref (aa 1)), (2, .int xa)]) hx hb dX2_countFirsts_76 hl rfl (ii_ _ _ _ (by decide)) (by decide) rfl (fun ls hl => ?_)
              refine lv_goto (tgt := 23) hx hb dX2_countFirsts_79 (by decide) ?_
              exact IH23 Z4 (u3 + (1 : Int32)) _ _ _ hF hP hD hS (lv_sub hl [0, 2, 3, 4] rfl)
            · have hF := br_neg hc14 hF
              refine lv_aload_n hx hb dX2_countFirsts_56 rfl (lv_at hl 2 rfl) ?_
              refine va_get (D := (dC, dI)) (ci := 4) (v := .ref (aa 7)) (C := RX2) (T := TX2) (N := 7) hx hb hts hinX2 hown hK hP 6 (bw_at (i := 6) (by decide) rfl) rfl 0 (by decide) (hts (.fieldLink RX2 9 "BallotLoom$Poll" "firsts" "[I") (by decide +kernel)) (fun _ h9 => h9) rfl dX2_countFirsts_57 ?_
              refine lv_aload hx hb dX2_countFirsts_60 (lv_at hl 0 rfl) ?_
              refine va_get (D := (dC, dI)) (ci := 5) (v := .ref (aa (64 + (ix u3)))) (C := RX3) (T := TX3) (N := 7) hx hb hts hinX3 hown hK hP (39 + (ix u3)) (bw_at (i := 39 + (ix u3)) (by omega) (bk_stk hk8 _ _)) rfl 4 (by decide) (hts (.fieldLink RX2 80 "BallotLoom$Stack" "list" "[I") (by decide +kernel)) (fun _ h9 => h9) rfl dX2_countFirsts_62 ?_
              refine lv_iconst (v := 0) hx hb dX2_countFirsts_65 (by decide) ?_
              refine va_iald hx hb hK hP (64 + (ix u3)) 0 (at_i (by omega) (bk_lst hk8)) rfl (by unfold vp_in; decide) dX2_countFirsts_66 ?_
              refine lv_topi (fun y15 ey15 => ?_)
              have hF := bv_at ey15 hF
              refine lv_dup2_11 hx hb dX2_countFirsts_67 rfl rfl ?_
              obtain ⟨hg16, hF⟩ := gd_some hF
              refine va_iald hx hb hK hP 7 0 (at_i (by decide) (fun _ _ => rfl)) rfl hg16 dX2_countFirsts_68 ?_
              refine lv_topi (fun y17 ey17 => ?_)
              have hF := bv_at ey17 hF
              refine lv_aload hx hb dX2_countFirsts_69 (lv_at hl 0 rfl) ?_
              refine va_get (D := (dC, dI)) (ci := 5) (v := .int (Z4.1 (39 + (ix u3)) 2)) (C := RX3) (T := TX3) (N := 7) hx hb hts hinX3 hown hK hP (39 + (ix u3)) (bw_at (i := 39 + (ix u3)) (by omega) (bk_stk hk8 _ _)) rfl 2 (by decide) (hts (.fieldLink RX2 83 "BallotLoom$Stack" "count" "I") (by decide +kernel)) (fun _ h9 => h9) rfl dX2_countFirsts_71 ?_
              refine lv_topi (fun y18 ey18 => ?_)
              have hF := bv_at ey18 hF
              refine lv_iadd hx hb dX2_countFirsts_74 ?_
              refine lv_topi (fun y19 ey19 => ?_)
              have hF := bv_at ey19 hF
              obtain ⟨Z20, eZ20, hF⟩ := bv_some hF
              refine va_iast hx hb hK hP hD hS 7 0 (at_i (by decide) (fun _ _ => rfl)) rfl hg16 dX2_countFirsts_75 (fun H locs hP hD hS => ?_)
              have eW := wz_i (q := q) (aa := aa) (i := 7) (fun _ _ => rfl) eZ20
              have hP : va_P (dC, dI) vwCl (bw q aa Z20) H := eW ▸ hP
              have hD : va_D A (bw q aa Z20) := eW ▸ hD
              clear eW
              refine lv_iinc (k := 1) (v := (u3 + (1 : Int32))) (lv' := [(3, .int (u3 + (1 : Int32))), (4, .ref (aa (39 + (ix u3)))), (0, .ref (aa 6)), (1, .ref (aa 1)), (2, .int xa)]) hx hb dX2_countFirsts_76 hl rfl (ii_ _ _ _ (by decide)) (by decide) rfl (fun ls hl => ?_)
              refine lv_goto (tgt := 23) hx hb dX2_countFirsts_79 (by decide) ?_
              exact IH23 Z20 (u3 + (1 : Int32)) _ _ _ hF hP hD hS (lv_sub hl [0, 2, 3, 4] rfl)
    exact L23 100 Z1 (0 : Int32) _ _ _ hF hP hD hS (lv_sub hl [0, 1, 2, 3] rfl)
  have L2 : ∀ (n2 : Nat) (Z22 : Mem) (u21 : Int32) (H : Heap) (locs : List Loc) (ls : Array Slot), F_X2_countFirsts_l2 (F_X2_countFirsts_x2 xa) n2 Z22 u21 = some (Zo, ro) → va_P (dC, dI) vwCl (bw q aa Z22) H → va_D A (bw q aa Z22) → va_S A s.heap H locs → lv_has ls 5 [(3, .int u21), (0, .ref (aa 6)), (1, .ref (aa 1)), (2, .int xa)] → W p l e (headSpec wsX2_countFirsts ({ frames := 3, cells := 0, slots := 0, locals := 61 } : Room)).room s m args below meth c H locs 0 0 Q (F0 m 2 ls []) := by
    intro n2
    induction n2 with
    | zero =>
      intro Z22 u21 H locs ls hF
      rw [F_X2_countFirsts_l2] at hF
      cases hF
    | succ n2 IH2 =>
      intro Z22 u21 H locs ls hF hP hD hS hl
      rw [F_X2_countFirsts_l2] at hF
      refine lv_iload_n hx hb dX2_countFirsts_2 rfl (lv_at hl 0 rfl) ?_
      refine lv_bipush (v := 6) hx hb dX2_countFirsts_3 (by decide) ?_
      refine lv_icmp_ge (tgt := 21) hx hb dX2_countFirsts_5 (by decide) (fun hc23 => ?_) (fun hc23 => ?_)
      · have hF := br_pos hc23 hF
        exact Jx2 Z22 _ _ _ hF hP hD hS (lv_sub hl [1, 2, 3] rfl)
      · have hF := br_neg hc23 hF
        refine lv_aload_n hx hb dX2_countFirsts_8 rfl (lv_at hl 1 rfl) ?_
        refine va_get (D := (dC, dI)) (ci := 4) (v := .ref (aa 7)) (C := RX2) (T := TX2) (N := 7) hx hb hts hinX2 hown hK hP 6 (bw_at (i := 6) (by decide) rfl) rfl 0 (by decide) (hts (.fieldLink RX2 9 "BallotLoom$Poll" "firsts" "[I") (by decide +kernel)) (fun _ h9 => h9) rfl dX2_countFirsts_9 ?_
        refine lv_iload_n hx hb dX2_countFirsts_12 rfl (lv_at hl 0 rfl) ?_
        refine lv_iconst (v := 0) hx hb dX2_countFirsts_13 (by decide) ?_
        obtain ⟨hg24, hF⟩ := gd_some hF
        obtain ⟨Z25, eZ25, hF⟩ := bv_some hF
        refine va_iast hx hb hK hP hD hS 7 0 (at_i (by decide) (fun _ _ => rfl)) rfl hg24 dX2_countFirsts_14 (fun H locs hP hD hS => ?_)
        have eW := wz_i (q := q) (aa := aa) (i := 7) (fun _ _ => rfl) eZ25
        have hP : va_P (dC, dI) vwCl (bw q aa Z25) H := eW ▸ hP
        have hD : va_D A (bw q aa Z25) := eW ▸ hD
        clear eW
        refine lv_iinc (k := 0) (v := (u21 + (1 : Int32))) (lv' := [(3, .int (u21 + (1 : Int32))), (0, .ref (aa 6)), (1, .ref (aa 1)), (2, .int xa)]) hx hb dX2_countFirsts_15 hl rfl (ii_ _ _ _ (by decide)) (by decide) rfl (fun ls hl => ?_)
        refine lv_goto (tgt := 2) hx hb dX2_countFirsts_18 (by decide) ?_
        exact IH2 Z25 (u21 + (1 : Int32)) _ _ _ hF hP hD hS (lv_sub hl [0, 1, 2, 3] rfl)
  exact L2 100 Z (0 : Int32) _ _ _ hF hP hD hS (lv_sub hl [0, 1, 2, 3] rfl)

noncomputable def F_X2_mostFirsts_x4 (w1 : Int32) : Option Int32 :=
  some w1

noncomputable def F_X2_mostFirsts_l4 (Z : Mem) (K_4 : Int32 → Option Int32) : Nat → Int32 → Int32 → Option Int32
  | 0, _, _ => none
  | n4 + 1, u2, u3 =>
  bv (Z.1 1 2) fun y4 => br (y4 ≤ u3) (K_4 u2) (gd (¬ (u3 < 0 ∨ 6 ≤ ix u3)) <| bv (Z.1 3 (ix u3)) fun y7 => br (y7 = (0 : Int32)) ((F_X2_mostFirsts_l4 Z K_4 n4) u2 (u3 + (1 : Int32))) (br (u2 = ((-1) : Int32)) ((F_X2_mostFirsts_l4 Z K_4 n4) u3 (u3 + (1 : Int32))) (bv (Z.1 7 (ix u3)) fun y10 => gd (¬ (u2 < 0 ∨ 6 ≤ ix u2)) <| bv (Z.1 7 (ix u2)) fun y12 => br (y10 ≤ y12) ((F_X2_mostFirsts_l4 Z K_4 n4) u2 (u3 + (1 : Int32))) ((F_X2_mostFirsts_l4 Z K_4 n4) u3 (u3 + (1 : Int32))))))

noncomputable def F_X2_mostFirsts (Z : Mem) : Option Int32 :=
  F_X2_mostFirsts_l4 Z F_X2_mostFirsts_x4 100 ((-1) : Int32) (0 : Int32)

set_option maxHeartbeats 4000000 in
set_option maxRecDepth 100000 in
theorem c_X2_mostFirsts (l : Launch) (dC : Nat → ClassId) (dI : Nat → Nat → Nat) (q : Nat → ClassId) (aa : Nat → Nat) (Z : Mem)   (sz : Nat) (ro : Int32) (hF : F_X2_mostFirsts Z  = some ro) : Met l yX2_mostFirsts wsX2_mostFirsts ({ frames := 2, cells := 0, slots := 0, locals := 40 }) (va_Pc [.ref (aa 6), .ref (aa 1)] (pr_ dC dI (bw q aa Z) (bty q) sz)) (va_Qi (fun (r : Int32) (_ : Unit) => r = ro) (fun (_ : Unit) t => po_ dC dI (bw q aa Z) (bty q) (va_A (bw q aa Z) sz) t) (va_A (bw q aa Z) sz)) 0 0 (va_A (bw q aa Z) sz) := by
  refine Met.ofW (cc := cX2_mostFirsts) (maxL := 4) (ret := (some .int)) (by decide) rfl ?_
  intro p e s m args below meth c s₁ B hml hv
  obtain ⟨hargs, hsz, hP, hK, hD0⟩ := hv
  have hx := B.exec
  have hb := B.bytes
  have hr := B.returns
  have hts := atoms_spec (ws := wsX2_mostFirsts) B.pre
  have hown : s.vm.findClass RX2 = some m.cls := findClass_of_methodNamed B.named
  have hlocks := B.notSynchronized
  subst hsz
  have hD := hD0.self (sz := s.heap.size)
  generalize hAe : va_A (bw q aa Z) s.heap.size = A at hD ⊢
  have hA : ∀ x : Nat, s.heap.size ≤ x → A x := fun x h => by rw [← hAe]; exact Or.inr h
  have hS : va_S A s.heap s.heap [] := va_S.rf
  have hinX0 : ∀ w ∈ u_ws RX0 TX0 11, w ∈ wsX2_mostFirsts := by decide +kernel
  have hinX2 : ∀ w ∈ u_ws RX2 TX2 7, w ∈ wsX2_mostFirsts := by decide +kernel
  have hl := lv_entry ([.ref (aa 6), .ref (aa 1)]) (n := 4) (Nat.le_of_ble_eq_true rfl)
  refine w_ent hargs ?_
  rw [lg_entry_eq]
  generalize (lg_sl ([.ref (aa 6), .ref (aa 1)]) ++ List.replicate (4 - (lg_sl ([.ref (aa 6), .ref (aa 1)])).length) Slot.unset).toArray = ls at hl ⊢
  have hl : lv_has ls 4 [(0, .ref (aa 6)), (1, .ref (aa 1))] := hl
  unfold F_X2_mostFirsts at hF
  refine w_go (fun Q hQ => ?_)
  refine lv_iconst (v := (-1)) hx hb dX2_mostFirsts_0 (by decide) ?_
  refine lv_istore_n (lv' := [(2, .int (-1)), (0, .ref (aa 6)), (1, .ref (aa 1))]) hx hb dX2_mostFirsts_1 rfl hl (by decide) rfl (fun ls hl => ?_)
  refine lv_iconst (v := 0) hx hb dX2_mostFirsts_2 (by decide) ?_
  refine lv_istore_n (lv' := [(3, .int 0), (2, .int (-1)), (0, .ref (aa 6)), (1, .ref (aa 1))]) hx hb dX2_mostFirsts_3 rfl hl (by decide) rfl (fun ls hl => ?_)
  have Jx4 : ∀ (w1 : Int32) (H : Heap) (locs : List Loc) (ls : Array Slot), F_X2_mostFirsts_x4 w1 = some ro → va_P (dC, dI) vwCl (bw q aa Z) H → va_D A (bw q aa Z) → va_S A s.heap H locs → lv_has ls 4 [(2, .int w1)] → W p l e (headSpec wsX2_mostFirsts ({ frames := 2, cells := 0, slots := 0, locals := 40 } : Room)).room s m args below meth c H locs 0 0 Q (F0 m 49 ls []) := by
    intro w1 H locs ls hF hP hD hS hl
    unfold F_X2_mostFirsts_x4 at hF
    refine lv_iload_n hx hb dX2_mostFirsts_49 rfl (lv_at hl 0 rfl) ?_
    have e9 := some1 hF
    subst hQ
    exact W.iret (v := w1) hx hb hr (fun t ht hW => ⟨⟨w1, (), rfl, e9.symm, po_mk ht hW hP hK hD⟩, hS.F ht⟩) hS.2.2 dX2_mostFirsts_50
  have L4 : ∀ (n4 : Nat) (u2 : Int32) (u3 : Int32) (H : Heap) (locs : List Loc) (ls : Array Slot), F_X2_mostFirsts_l4 Z F_X2_mostFirsts_x4 n4 u2 u3 = some ro → va_P (dC, dI) vwCl (bw q aa Z) H → va_D A (bw q aa Z) → va_S A s.heap H locs → lv_has ls 4 [(3, .int u3), (2, .int u2), (0, .ref (aa 6)), (1, .ref (aa 1))] → W p l e (headSpec wsX2_mostFirsts ({ frames := 2, cells := 0, slots := 0, locals := 40 } : Room)).room s m args below meth c H locs 0 0 Q (F0 m 4 ls []) := by
    intro n4
    induction n4 with
    | zero =>
      intro u2 u3 H locs ls hF
      rw [F_X2_mostFirsts_l4] at hF
      cases hF
    | succ n4 IH4 =>
      intro u2 u3 H locs ls hF hP hD hS hl
      rw [F_X2_mostFirsts_l4] at hF
      refine lv_iload_n hx hb dX2_mostFirsts_4 rfl (lv_at hl 0 rfl) ?_
      refine lv_aload_n hx hb dX2_mostFirsts_5 rfl (lv_at hl 3 rfl) ?_
      refine va_get (D := (dC, dI)) (ci := 2) (v := .int (Z.1 1 2)) (C := RX0) (T := TX0) (N := 11) hx hb hts hinX0 hown hK hP 1 (bw_at (i := 1) (by decide) rfl) rfl 2 (by decide) (hts (.fieldLink RX2 86 "BallotLoom$Box" "candidates" "I") (by decide +kernel)) (fun _ h9 => h9) rfl dX2_mostFirsts_6 ?_
      refine lv_topi (fun y4 ey4 => ?_)
      have hF := bv_at ey4 hF
      refine lv_icmp_ge (tgt := 49) hx hb dX2_mostFirsts_9 (by decide) (fun hc5 => ?_) (fun hc5 => ?_)
      · have hF := br_pos hc5 hF
        exact Jx4 u2 _ _ _ hF hP hD hS (lv_sub hl [1] rfl)
      · have hF := br_neg hc5 hF
        refine lv_aload_n hx hb dX2_mostFirsts_12 rfl (lv_at hl 3 rfl) ?_
        refine va_get (D := (dC, dI)) (ci := 2) (v := .ref (aa 3)) (C := RX0) (T := TX0) (N := 11) hx hb hts hinX0 hown hK hP 1 (bw_at (i := 1) (by decide) rfl) rfl 1 (by decide) (hts (.fieldLink RX2 89 "BallotLoom$Box" "stands" "[Z") (by decide +kernel)) (fun _ h9 => h9) rfl dX2_mostFirsts_13 ?_
        refine lv_iload_n hx hb dX2_mostFirsts_16 rfl (lv_at hl 0 rfl) ?_
        obtain ⟨hg6, hF⟩ := gd_some hF
        refine va_zald hx hb hK hP 3 1 (at_i (by decide) (fun _ _ => rfl)) rfl hg6 dX2_mostFirsts_17 ?_
        refine lv_topi (fun y7 ey7 => ?_)
        have hF := bv_at ey7 hF
        refine lv_if_eq (tgt := 43) hx hb dX2_mostFirsts_18 (by decide) (fun hc8 => ?_) (fun hc8 => ?_)
        · have hF := br_pos hc8 hF
          refine lv_iinc (k := 0) (v := (u3 + (1 : Int32))) (lv' := [(3, .int (u3 + (1 : Int32))), (2, .int u2), (0, .ref (aa 6)), (1, .ref (aa 1))]) hx hb dX2_mostFirsts_43 hl rfl (ii_ _ _ _ (by decide)) (by decide) rfl (fun ls hl => ?_)
          refine lv_goto (tgt := 4) hx hb dX2_mostFirsts_46 (by decide) ?_
          exact IH4 u2 (u3 + (1 : Int32)) _ _ _ hF hP hD hS (lv_sub hl [0, 1, 2, 3] rfl)
        · have hF := br_neg hc8 hF
          refine lv_iload_n hx hb dX2_mostFirsts_21 rfl (lv_at hl 1 rfl) ?_
          refine lv_iconst (v := (-1)) hx hb dX2_mostFirsts_22 (by decide) ?_
          refine lv_icmp_eq (tgt := 41) hx hb dX2_mostFirsts_23 (by decide) (fun hc9 => ?_) (fun hc9 => ?_)
          · have hF := br_pos hc9 hF
            refine lv_iload_n hx hb dX2_mostFirsts_41 rfl (lv_at hl 0 rfl) ?_
            refine lv_istore_n (lv' := [(2, .int u3), (3, .int u3), (0, .ref (aa 6)), (1, .ref (aa 1))]) hx hb dX2_mostFirsts_42 rfl hl (by decide) rfl (fun ls hl => ?_)
            refine lv_iinc (k := 1) (v := (u3 + (1 : Int32))) (lv' := [(3, .int (u3 + (1 : Int32))), (2, .int u3), (0, .ref (aa 6)), (1, .ref (aa 1))]) hx hb dX2_mostFirsts_43 hl rfl (ii_ _ _ _ (by decide)) (by decide) rfl (fun ls hl => ?_)
            refine lv_goto (tgt := 4) hx hb dX2_mostFirsts_46 (by decide) ?_
            exact IH4 u3 (u3 + (1 : Int32)) _ _ _ hF hP hD hS (lv_sub hl [0, 1, 2, 3] rfl)
          · have hF := br_neg hc9 hF
            refine lv_aload_n hx hb dX2_mostFirsts_26 rfl (lv_at hl 2 rfl) ?_
            refine va_get (D := (dC, dI)) (ci := 4) (v := .ref (aa 7)) (C := RX2) (T := TX2) (N := 7) hx hb hts hinX2 hown hK hP 6 (bw_at (i := 6) (by decide) rfl) rfl 0 (by decide) (hts (.fieldLink RX2 9 "BallotLoom$Poll" "firsts" "[I") (by decide +kernel)) (fun _ h9 => h9) rfl dX2_mostFirsts_27 ?_
            refine lv_iload_n hx hb dX2_mostFirsts_30 rfl (lv_at hl 0 rfl) ?_
            refine va_iald hx hb hK hP 7 0 (at_i (by decide) (fun _ _ => rfl)) rfl hg6 dX2_mostFirsts_31 ?_
            refine lv_topi (fun y10 ey10 => ?_)
            have hF := bv_at ey10 hF
            refine lv_aload_n hx hb dX2_mostFirsts_32 rfl (lv_at hl 2 rfl) ?_
            refine va_get (D := (dC, dI)) (ci := 4) (v := .ref (aa 7)) (C := RX2) (T := TX2) (N := 7) hx hb hts hinX2 hown hK hP 6 (bw_at (i := 6) (by decide) rfl) rfl 0 (by decide) (hts (.fieldLink RX2 9 "BallotLoom$Poll" "firsts" "[I") (by decide +kernel)) (fun _ h9 => h9) rfl dX2_mostFirsts_33 ?_
            refine lv_iload_n hx hb dX2_mostFirsts_36 rfl (lv_at hl 1 rfl) ?_
            obtain ⟨hg11, hF⟩ := gd_some hF
            refine va_iald hx hb hK hP 7 0 (at_i (by decide) (fun _ _ => rfl)) rfl hg11 dX2_mostFirsts_37 ?_
            refine lv_topi (fun y12 ey12 => ?_)
            have hF := bv_at ey12 hF
            refine lv_icmp_le (tgt := 43) hx hb dX2_mostFirsts_38 (by decide) (fun hc13 => ?_) (fun hc13 => ?_)
            · have hF := br_pos hc13 hF
              refine lv_iinc (k := 0) (v := (u3 + (1 : Int32))) (lv' := [(3, .int (u3 + (1 : Int32))), (2, .int u2), (0, .ref (aa 6)), (1, .ref (aa 1))]) hx hb dX2_mostFirsts_43 hl rfl (ii_ _ _ _ (by decide)) (by decide) rfl (fun ls hl => ?_)
              refine lv_goto (tgt := 4) hx hb dX2_mostFirsts_46 (by decide) ?_
              exact IH4 u2 (u3 + (1 : Int32)) _ _ _ hF hP hD hS (lv_sub hl [0, 1, 2, 3] rfl)
            · have hF := br_neg hc13 hF
              refine lv_iload_n hx hb dX2_mostFirsts_41 rfl (lv_at hl 0 rfl) ?_
              refine lv_istore_n (lv' := [(2, .int u3), (3, .int u3), (0, .ref (aa 6)), (1, .ref (aa 1))]) hx hb dX2_mostFirsts_42 rfl hl (by decide) rfl (fun ls hl => ?_)
              refine lv_iinc (k := 1) (v := (u3 + (1 : Int32))) (lv' := [(3, .int (u3 + (1 : Int32))), (2, .int u3), (0, .ref (aa 6)), (1, .ref (aa 1))]) hx hb dX2_mostFirsts_43 hl rfl (ii_ _ _ _ (by decide)) (by decide) rfl (fun ls hl => ?_)
              refine lv_goto (tgt := 4) hx hb dX2_mostFirsts_46 (by decide) ?_
              exact IH4 u3 (u3 + (1 : Int32)) _ _ _ hF hP hD hS (lv_sub hl [0, 1, 2, 3] rfl)
  exact L4 100 ((-1) : Int32) (0 : Int32) _ _ _ hF hP hD hS (lv_sub hl [0, 1, 2, 3] rfl)

noncomputable def F_X2_addPoints_x13 (Z4 : Mem) : Option (Mem × Unit) :=
  some (Z4, ())

noncomputable def F_X2_addPoints_l13 (ka : Nat) (y3 : Int32) (K_13 : Mem → Option (Mem × Unit)) : Nat → Mem → Int32 → Option (Mem × Unit)
  | 0, _, _ => none
  | n13 + 1, Z6, u5 =>
  bv (Z6.1 1 2) fun y7 => br (y7 ≤ u5) (K_13 Z6) (calp (F_X3_placeOf Z6 ka u5) fun rr11 => gd (¬ (u5 < 0 ∨ 6 ≤ ix u5)) <| bv (Z6.1 3 (ix u5)) fun y13 => br (y13 = (0 : Int32)) ((F_X2_addPoints_l13 ka y3 K_13 n13) Z6 (u5 + (1 : Int32))) (bv (Z6.1 (39 + ka) 5) fun y15 => br (y15 ≤ rr11) (bv (Z6.2 8 (ix u5)) fun y17 => bv (Z6.1 (39 + ka) 2) fun y18 => bv (y3 - (1 : Int32)) fun y19 => bv (y18 * y19) fun y20 => bv (FP.i2d y20) fun y21 => gd ((FP.ddiv y21 (4611686018427387904 : UInt64)) &&& 0x7fffffffffffffff ≤ 0x7ff0000000000000) <| bv (FP.ddiv y21 (4611686018427387904 : UInt64)) fun y23 => gd ((FP.dadd y17 y23) &&& 0x7fffffffffffffff ≤ 0x7ff0000000000000) <| bv (FP.dadd y17 y23) fun y25 => bv (sd Z6 8 (ix u5) y25) fun Z26 => (F_X2_addPoints_l13 ka y3 K_13 n13) Z26 (u5 + (1 : Int32))) (bv (Z6.2 8 (ix u5)) fun y27 => bv (Z6.1 (39 + ka) 2) fun y28 => bv (Z6.1 1 3) fun y29 => bv (y29 - (1 : Int32)) fun y30 => bv (y30 - rr11) fun y31 => bv (y28 * y31) fun y32 => bv (FP.i2d y32) fun y33 => gd ((FP.dadd y27 y33) &&& 0x7fffffffffffffff ≤ 0x7ff0000000000000) <| bv (FP.dadd y27 y33) fun y35 => bv (sd Z6 8 (ix u5) y35) fun Z36 => (F_X2_addPoints_l13 ka y3 K_13 n13) Z36 (u5 + (1 : Int32)))))

noncomputable def F_X2_addPoints (Z : Mem) (ka : Nat) : Option (Mem × Unit) :=
  bv (Z.1 1 3) fun y1 => bv (Z.1 (39 + ka) 5) fun y2 => bv (y1 - y2) fun y3 => F_X2_addPoints_l13 ka y3 F_X2_addPoints_x13 100 Z (0 : Int32)

set_option maxHeartbeats 4000000 in
set_option maxRecDepth 100000 in
theorem c_X2_addPoints (l : Launch) (dC : Nat → ClassId) (dI : Nat → Nat → Nat) (q : Nat → ClassId) (aa : Nat → Nat) (Z : Mem) (ka : Nat) (hka : ka < 25) (sz : Nat) (Zo : Mem) (ro : Unit) (hF : F_X2_addPoints Z ka = some (Zo, ro)) : Met l yX2_addPoints wsX2_addPoints ({ frames := 3, cells := 0, slots := 0, locals := 62 }) (va_Pc [.ref (aa 6), .ref (aa 1), .ref (aa (39 + ka))] (pr_ dC dI (bw q aa Z) (bty q) sz)) (va_Qv (fun (_ : Unit) => True) (fun (_ : Unit) t => po_ dC dI (bw q aa Zo) (bty q) (va_A (bw q aa Z) sz) t) (va_A (bw q aa Z) sz)) 0 0 (va_A (bw q aa Z) sz) := by
  refine Met.ofW (cc := cX2_addPoints) (maxL := 6) (ret := none) (by decide) rfl ?_
  intro p e s m args below meth c s₁ B hml hv
  obtain ⟨hargs, hsz, hP, hK, hD0⟩ := hv
  have hx := B.exec
  have hb := B.bytes
  have hr := B.returns
  have hts := atoms_spec (ws := wsX2_addPoints) B.pre
  have hown : s.vm.findClass RX2 = some m.cls := findClass_of_methodNamed B.named
  have hlocks := B.notSynchronized
  subst hsz
  have hD := hD0.self (sz := s.heap.size)
  generalize hAe : va_A (bw q aa Z) s.heap.size = A at hD ⊢
  have hA : ∀ x : Nat, s.heap.size ≤ x → A x := fun x h => by rw [← hAe]; exact Or.inr h
  have hS : va_S A s.heap s.heap [] := va_S.rf
  have hinX0 : ∀ w ∈ u_ws RX0 TX0 11, w ∈ wsX2_addPoints := by decide +kernel
  have hinX2 : ∀ w ∈ u_ws RX2 TX2 7, w ∈ wsX2_addPoints := by decide +kernel
  have hinX3 : ∀ w ∈ u_ws RX3 TX3 7, w ∈ wsX2_addPoints := by decide +kernel
  have hl := lv_entry ([.ref (aa 6), .ref (aa 1), .ref (aa (39 + ka))]) (n := 6) (Nat.le_of_ble_eq_true rfl)
  refine w_ent hargs ?_
  rw [lg_entry_eq]
  generalize (lg_sl ([.ref (aa 6), .ref (aa 1), .ref (aa (39 + ka))]) ++ List.replicate (6 - (lg_sl ([.ref (aa 6), .ref (aa 1), .ref (aa (39 + ka))])).length) Slot.unset).toArray = ls at hl ⊢
  have hl : lv_has ls 6 [(0, .ref (aa 6)), (1, .ref (aa 1)), (2, .ref (aa (39 + ka)))] := hl
  unfold F_X2_addPoints at hF
  refine w_go (fun Q hQ => ?_)
  refine lv_aload_n hx hb dX2_addPoints_0 rfl (lv_at hl 1 rfl) ?_
  refine va_get (D := (dC, dI)) (ci := 2) (v := .int (Z.1 1 3)) (C := RX0) (T := TX0) (N := 11) hx hb hts hinX0 hown hK hP 1 (bw_at (i := 1) (by decide) rfl) rfl 3 (by decide) (hts (.fieldLink RX2 101 "BallotLoom$Box" "standing" "I") (by decide +kernel)) (fun _ h9 => h9) rfl dX2_addPoints_1 ?_
  refine lv_topi (fun y1 ey1 => ?_)
  have hF := bv_at ey1 hF
  refine lv_aload_n hx hb dX2_addPoints_4 rfl (lv_at hl 2 rfl) ?_
  refine va_get (D := (dC, dI)) (ci := 5) (v := .int (Z.1 (39 + ka) 5)) (C := RX3) (T := TX3) (N := 7) hx hb hts hinX3 hown hK hP (39 + ka) (bw_at (i := 39 + ka) (by omega) (bk_stk hka _ _)) rfl 5 (by decide) (hts (.fieldLink RX2 77 "BallotLoom$Stack" "length" "I") (by decide +kernel)) (fun _ h9 => h9) rfl dX2_addPoints_5 ?_
  refine lv_topi (fun y2 ey2 => ?_)
  have hF := bv_at ey2 hF
  refine lv_isub hx hb dX2_addPoints_8 ?_
  refine lv_topi (fun y3 ey3 => ?_)
  have hF := bv_at ey3 hF
  refine lv_istore_n (lv' := [(3, .int y3), (0, .ref (aa 6)), (1, .ref (aa 1)), (2, .ref (aa (39 + ka)))]) hx hb dX2_addPoints_9 rfl hl (by decide) rfl (fun ls hl => ?_)
  refine lv_iconst (v := 0) hx hb dX2_addPoints_10 (by decide) ?_
  refine lv_istore (lv' := [(4, .int 0), (3, .int y3), (0, .ref (aa 6)), (1, .ref (aa 1)), (2, .ref (aa (39 + ka)))]) hx hb dX2_addPoints_11 hl (by decide) rfl (fun ls hl => ?_)
  have Jx13 : ∀ (Z4 : Mem) (H : Heap) (locs : List Loc) (ls : Array Slot), F_X2_addPoints_x13 Z4 = some (Zo, ro) → va_P (dC, dI) vwCl (bw q aa Z4) H → va_D A (bw q aa Z4) → va_S A s.heap H locs → lv_has ls 6 [] → W p l e (headSpec wsX2_addPoints ({ frames := 3, cells := 0, slots := 0, locals := 62 } : Room)).room s m args below meth c H locs 0 0 Q (F0 m 109 ls []) := by
    intro Z4 H locs ls hF hP hD hS hl
    unfold F_X2_addPoints_x13 at hF
    obtain ⟨e8, e9⟩ := some2 hF
    rw [← e8] at hP hD
    subst hQ
    exact W.vret hx hb hr (fun t ht hW => ⟨⟨(), rfl, trivial, po_mk ht hW hP hK hD⟩, hS.F ht⟩) hS.2.2 dX2_addPoints_109
  have L13 : ∀ (n13 : Nat) (Z6 : Mem) (u5 : Int32) (H : Heap) (locs : List Loc) (ls : Array Slot), F_X2_addPoints_l13 ka y3 F_X2_addPoints_x13 n13 Z6 u5 = some (Zo, ro) → va_P (dC, dI) vwCl (bw q aa Z6) H → va_D A (bw q aa Z6) → va_S A s.heap H locs → lv_has ls 6 [(4, .int u5), (3, .int y3), (0, .ref (aa 6)), (1, .ref (aa 1)), (2, .ref (aa (39 + ka)))] → W p l e (headSpec wsX2_addPoints ({ frames := 3, cells := 0, slots := 0, locals := 62 } : Room)).room s m args below meth c H locs 0 0 Q (F0 m 13 ls []) := by
    intro n13
    induction n13 with
    | zero =>
      intro Z6 u5 H locs ls hF
      rw [F_X2_addPoints_l13] at hF
      cases hF
    | succ n13 IH13 =>
      intro Z6 u5 H locs ls hF hP hD hS hl
      rw [F_X2_addPoints_l13] at hF
      refine lv_iload hx hb dX2_addPoints_13 (lv_at hl 0 rfl) ?_
      refine lv_aload_n hx hb dX2_addPoints_15 rfl (lv_at hl 3 rfl) ?_
      refine va_get (D := (dC, dI)) (ci := 2) (v := .int (Z6.1 1 2)) (C := RX0) (T := TX0) (N := 11) hx hb hts hinX0 hown hK hP 1 (bw_at (i := 1) (by decide) rfl) rfl 2 (by decide) (hts (.fieldLink RX2 86 "BallotLoom$Box" "candidates" "I") (by decide +kernel)) (fun _ h9 => h9) rfl dX2_addPoints_16 ?_
      refine lv_topi (fun y7 ey7 => ?_)
      have hF := bv_at ey7 hF
      refine lv_icmp_ge (tgt := 109) hx hb dX2_addPoints_19 (by decide) (fun hc8 => ?_) (fun hc8 => ?_)
      · have hF := br_pos hc8 hF
        exact Jx13 Z6 _ _ _ hF hP hD hS (lv_sub hl [] rfl)
      · have hF := br_neg hc8 hF
        refine lv_aload_n hx hb dX2_addPoints_22 rfl (lv_at hl 4 rfl) ?_
        refine lv_iload hx hb dX2_addPoints_23 (lv_at hl 0 rfl) ?_
        obtain ⟨r10, hC9, hF⟩ := calp_some hF
        have hFc := b_free (ws := bw q aa Z6) hD hS hA
        refine va_calli (va_runV (As := [.int u5]) (rest := []) ⟨hx, hb, hml, hown, hts⟩ (c_X3_placeOf l dC dI q aa Z6 ka u5 hka _ _  hC9) (cwV 1 hts gX2_addPoints_X3_placeOf rfl rfl rfl (by decide +kernel) ⟨Nat.le_of_ble_eq_true rfl, Nat.le_of_ble_eq_true rfl⟩) ⟨pr_blind, va_recv hK hP (ci := 5) (q0 := (39 + ka)) rfl (bw_at (i := 39 + ka) (by omega) (bk_stk hka _ _)), fun U hU hW => ⟨rfl, pr_mk hU hW hP hK hD⟩⟩ rfl rfl hl.1 rfl (lv_room (Nat.le_of_ble_eq_true rfl)) dX2_addPoints_25 ⟨Nat.le_of_ble_eq_true rfl, Nat.le_of_ble_eq_true rfl⟩) hS (fun x _ h => hFc x h) hFc (fun rr11 u t H1 locs ht hvm hw hB hz1 hk1 hS => ?_)
        obtain ⟨hP, hK1, hD1⟩ := hB
        rw [ht] at hP
        have hD := hD1.weaken (fun _ q9 _ h9 => hFc q9.1 h9)
        clear hFc hD1 hK1 hvm hz1 hk1
        generalize H1 = H at hP hS ⊢
        refine W.widen (k := 0) (n := 0) (Nat.le_refl _) (Nat.le_refl _) ?_
        obtain rfl : rr11 = r10 := hw
        refine lv_istore (lv' := [(5, .int rr11), (4, .int u5), (3, .int y3), (0, .ref (aa 6)), (1, .ref (aa 1)), (2, .ref (aa (39 + ka)))]) hx hb dX2_addPoints_28 hl (by decide) rfl (fun ls hl => ?_)
        refine lv_aload_n hx hb dX2_addPoints_30 rfl (lv_at hl 4 rfl) ?_
        refine va_get (D := (dC, dI)) (ci := 2) (v := .ref (aa 3)) (C := RX0) (T := TX0) (N := 11) hx hb hts hinX0 hown hK hP 1 (bw_at (i := 1) (by decide) rfl) rfl 1 (by decide) (hts (.fieldLink RX2 89 "BallotLoom$Box" "stands" "[Z") (by decide +kernel)) (fun _ h9 => h9) rfl dX2_addPoints_31 ?_
        refine lv_iload hx hb dX2_addPoints_34 (lv_at hl 1 rfl) ?_
        obtain ⟨hg12, hF⟩ := gd_some hF
        refine va_zald hx hb hK hP 3 1 (at_i (by decide) (fun _ _ => rfl)) rfl hg12 dX2_addPoints_36 ?_
        refine lv_topi (fun y13 ey13 => ?_)
        have hF := bv_at ey13 hF
        refine lv_if_ne (tgt := 43) hx hb dX2_addPoints_37 (by decide) (fun hc14 => ?_) (fun hc14 => ?_)
        · have hF := br_neg hc14 hF
          refine lv_iload hx hb dX2_addPoints_43 (lv_at hl 0 rfl) ?_
          refine lv_aload_n hx hb dX2_addPoints_45 rfl (lv_at hl 5 rfl) ?_
          refine va_get (D := (dC, dI)) (ci := 5) (v := .int (Z6.1 (39 + ka) 5)) (C := RX3) (T := TX3) (N := 7) hx hb hts hinX3 hown hK hP (39 + ka) (bw_at (i := 39 + ka) (by omega) (bk_stk hka _ _)) rfl 5 (by decide) (hts (.fieldLink RX2 77 "BallotLoom$Stack" "length" "I") (by decide +kernel)) (fun _ h9 => h9) rfl dX2_addPoints_46 ?_
          refine lv_topi (fun y15 ey15 => ?_)
          have hF := bv_at ey15 hF
          refine lv_icmp_ge (tgt := 80) hx hb dX2_addPoints_49 (by decide) (fun hc16 => ?_) (fun hc16 => ?_)
          · have hF := br_pos hc16 hF
            refine lv_aload_n hx hb dX2_addPoints_80 rfl (lv_at hl 3 rfl) ?_
            refine va_get (D := (dC, dI)) (ci := 4) (v := .ref (aa 8)) (C := RX2) (T := TX2) (N := 7) hx hb hts hinX2 hown hK hP 6 (bw_at (i := 6) (by decide) rfl) rfl 1 (by decide) (hts (.fieldLink RX2 15 "BallotLoom$Poll" "points" "[D") (by decide +kernel)) (fun _ h9 => h9) rfl dX2_addPoints_81 ?_
            refine lv_iload hx hb dX2_addPoints_84 (lv_at hl 1 rfl) ?_
            refine lv_dup2_11 hx hb dX2_addPoints_86 rfl rfl ?_
            refine va_dald hx hb hK hP 8 2 (at_d (by decide) (fun _ _ => rfl)) rfl hg12 dX2_addPoints_87 ?_
            refine lv_topd (fun y17 ey17 => ?_)
            have hF := bv_at ey17 hF
            refine lv_aload_n hx hb dX2_addPoints_88 rfl (lv_at hl 5 rfl) ?_
            refine va_get (D := (dC, dI)) (ci := 5) (v := .int (Z6.1 (39 + ka) 2)) (C := RX3) (T := TX3) (N := 7) hx hb hts hinX3 hown hK hP (39 + ka) (bw_at (i := 39 + ka) (by omega) (bk_stk hka _ _)) rfl 2 (by decide) (hts (.fieldLink RX2 83 "BallotLoom$Stack" "count" "I") (by decide +kernel)) (fun _ h9 => h9) rfl dX2_addPoints_89 ?_
            refine lv_topi (fun y18 ey18 => ?_)
            have hF := bv_at ey18 hF
            refine lv_iload_n hx hb dX2_addPoints_92 rfl (lv_at hl 2 rfl) ?_
            refine lv_iconst (v := 1) hx hb dX2_addPoints_93 (by decide) ?_
            refine lv_isub hx hb dX2_addPoints_94 ?_
            refine lv_topi (fun y19 ey19 => ?_)
            have hF := bv_at ey19 hF
            refine lv_imul hx hb dX2_addPoints_95 ?_
            refine lv_topi (fun y20 ey20 => ?_)
            have hF := bv_at ey20 hF
            refine lv_i2d hx hb dX2_addPoints_96 ?_
            refine lv_topd (fun y21 ey21 => ?_)
            have hF := bv_at ey21 hF
            refine lv_ldc2d (v := 4611686018427387904) hx hb hown (hts (.constantDouble RX2 108 (4611686018427387904)) (by decide +kernel)) dX2_addPoints_97 ?_
            obtain ⟨hg22, hF⟩ := gd_some hF
            refine lv_ddiv hx hb dX2_addPoints_100 hg22 ?_
            refine lv_topd (fun y23 ey23 => ?_)
            have hF := bv_at ey23 hF
            obtain ⟨hg24, hF⟩ := gd_some hF
            refine lv_dadd hx hb dX2_addPoints_101 hg24 ?_
            refine lv_topd (fun y25 ey25 => ?_)
            have hF := bv_at ey25 hF
            obtain ⟨Z26, eZ26, hF⟩ := bv_some hF
            refine va_dast hx hb hK hP hD hS 8 2 (at_d (by decide) (fun _ _ => rfl)) rfl hg12 dX2_addPoints_102 (fun H locs hP hD hS => ?_)
            have eW := wz_d (q := q) (aa := aa) (i := 8) (fun _ _ => rfl) eZ26
            have hP : va_P (dC, dI) vwCl (bw q aa Z26) H := eW ▸ hP
            have hD : va_D A (bw q aa Z26) := eW ▸ hD
            clear eW
            refine lv_iinc (k := 1) (v := (u5 + (1 : Int32))) (lv' := [(4, .int (u5 + (1 : Int32))), (5, .int rr11), (3, .int y3), (0, .ref (aa 6)), (1, .ref (aa 1)), (2, .ref (aa (39 + ka)))]) hx hb dX2_addPoints_103 hl rfl (ii_ _ _ _ (by decide)) (by decide) rfl (fun ls hl => ?_)
            refine lv_goto (tgt := 13) hx hb dX2_addPoints_106 (by decide) ?_
            exact IH13 Z26 (u5 + (1 : Int32)) _ _ _ hF hP hD hS (lv_sub hl [0, 2, 3, 4, 5] rfl)
          · have hF := br_neg hc16 hF
            refine lv_aload_n hx hb dX2_addPoints_52 rfl (lv_at hl 3 rfl) ?_
            refine va_get (D := (dC, dI)) (ci := 4) (v := .ref (aa 8)) (C := RX2) (T := TX2) (N := 7) hx hb hts hinX2 hown hK hP 6 (bw_at (i := 6) (by decide) rfl) rfl 1 (by decide) (hts (.fieldLink RX2 15 "BallotLoom$Poll" "points" "[D") (by decide +kernel)) (fun _ h9 => h9) rfl dX2_addPoints_53 ?_
            refine lv_iload hx hb dX2_addPoints_56 (lv_at hl 1 rfl) ?_
            refine lv_dup2_11 hx hb dX2_addPoints_58 rfl rfl ?_
            refine va_dald hx hb hK hP 8 2 (at_d (by decide) (fun _ _ => rfl)) rfl hg12 dX2_addPoints_59 ?_
            refine lv_topd (fun y27 ey27 => ?_)
            have hF := bv_at ey27 hF
            refine lv_aload_n hx hb dX2_addPoints_60 rfl (lv_at hl 5 rfl) ?_
            refine va_get (D := (dC, dI)) (ci := 5) (v := .int (Z6.1 (39 + ka) 2)) (C := RX3) (T := TX3) (N := 7) hx hb hts hinX3 hown hK hP (39 + ka) (bw_at (i := 39 + ka) (by omega) (bk_stk hka _ _)) rfl 2 (by decide) (hts (.fieldLink RX2 83 "BallotLoom$Stack" "count" "I") (by decide +kernel)) (fun _ h9 => h9) rfl dX2_addPoints_61 ?_
            refine lv_topi (fun y28 ey28 => ?_)
            have hF := bv_at ey28 hF
            refine lv_aload_n hx hb dX2_addPoints_64 rfl (lv_at hl 4 rfl) ?_
            refine va_get (D := (dC, dI)) (ci := 2) (v := .int (Z6.1 1 3)) (C := RX0) (T := TX0) (N := 11) hx hb hts hinX0 hown hK hP 1 (bw_at (i := 1) (by decide) rfl) rfl 3 (by decide) (hts (.fieldLink RX2 101 "BallotLoom$Box" "standing" "I") (by decide +kernel)) (fun _ h9 => h9) rfl dX2_addPoints_65 ?_
            refine lv_topi (fun y29 ey29 => ?_)
            have hF := bv_at ey29 hF
            refine lv_iconst (v := 1) hx hb dX2_addPoints_68 (by decide) ?_
            refine lv_isub hx hb dX2_addPoints_69 ?_
            refine lv_topi (fun y30 ey30 => ?_)
            have hF := bv_at ey30 hF
            refine lv_iload hx hb dX2_addPoints_70 (lv_at hl 0 rfl) ?_
            refine lv_isub hx hb dX2_addPoints_72 ?_
            refine lv_topi (fun y31 ey31 => ?_)
            have hF := bv_at ey31 hF
            refine lv_imul hx hb dX2_addPoints_73 ?_
            refine lv_topi (fun y32 ey32 => ?_)
            have hF := bv_at ey32 hF
            refine lv_i2d hx hb dX2_addPoints_74 ?_
            refine lv_topd (fun y33 ey33 => ?_)
            have hF := bv_at ey33 hF
            obtain ⟨hg34, hF⟩ := gd_some hF
            refine lv_dadd hx hb dX2_addPoints_75 hg34 ?_
            refine lv_topd (fun y35 ey35 => ?_)
            have hF := bv_at ey35 hF
            obtain ⟨Z36, eZ36, hF⟩ := bv_some hF
            refine va_dast hx hb hK hP hD hS 8 2 (at_d (by decide) (fun _ _ => rfl)) rfl hg12 dX2_addPoints_76 (fun H locs hP hD hS => ?_)
            have eW := wz_d (q := q) (aa := aa) (i := 8) (fun _ _ => rfl) eZ36
            have hP : va_P (dC, dI) vwCl (bw q aa Z36) H := eW ▸ hP
            have hD : va_D A (bw q aa Z36) := eW ▸ hD
            clear eW
            refine lv_goto (tgt := 103) hx hb dX2_addPoints_77 (by decide) ?_
            refine lv_iinc (k := 1) (v := (u5 + (1 : Int32))) (lv' := [(4, .int (u5 + (1 : Int32))), (5, .int rr11), (3, .int y3), (0, .ref (aa 6)), (1, .ref (aa 1)), (2, .ref (aa (39 + ka)))]) hx hb dX2_addPoints_103 hl rfl (ii_ _ _ _ (by decide)) (by decide) rfl (fun ls hl => ?_)
            refine lv_goto (tgt := 13) hx hb dX2_addPoints_106 (by decide) ?_
            exact IH13 Z36 (u5 + (1 : Int32)) _ _ _ hF hP hD hS (lv_sub hl [0, 2, 3, 4, 5] rfl)
        · have hF := br_pos hc14 hF
          refine lv_goto (tgt := 103) hx hb dX2_addPoints_40 (by decide) ?_
          refine lv_iinc (k := 1) (v := (u5 + (1 : Int32))) (lv' := [(4, .int (u5 + (1 : Int32))), (5, .int rr11), (3, .int y3), (0, .ref (aa 6)), (1, .ref (aa 1)), (2, .ref (aa (39 + ka)))]) hx hb dX2_addPoints_103 hl rfl (ii_ _ _ _ (by decide)) (by decide) rfl (fun ls hl => ?_)
          refine lv_goto (tgt := 13) hx hb dX2_addPoints_106 (by decide) ?_
          exact IH13 Z6 (u5 + (1 : Int32)) _ _ _ hF hP hD hS (lv_sub hl [0, 2, 3, 4, 5] rfl)
  exact L13 100 Z (0 : Int32) _ _ _ hF hP hD hS (lv_sub hl [0, 1, 2, 3, 4] rfl)

noncomputable def F_X2_countPoints_x37 (Z2 : Mem) : Option (Mem × Unit) :=
  some (Z2, ())

noncomputable def F_X2_countPoints_l37 (xa : Int32) (K_37 : Mem → Option (Mem × Unit)) : Nat → Mem → Int32 → Option (Mem × Unit)
  | 0, _, _ => none
  | n37 + 1, Z4, u3 =>
  bv (Z4.1 1 7) fun y5 => br (y5 ≤ u3) (K_37 Z4) (gd (¬ (u3 < 0 ∨ 24 ≤ ix u3)) <| calp (F_X3_countsIn Z4 (ix u3) xa) fun rr11 => br (rr11 = (0 : Int32)) ((F_X2_countPoints_l37 xa K_37 n37) Z4 (u3 + (1 : Int32))) (cal (F_X2_addPoints Z4 (ix u3)) fun Z14 _ => (F_X2_countPoints_l37 xa K_37 n37) Z14 (u3 + (1 : Int32))))

noncomputable def F_X2_countPoints_x2 (xa : Int32) (Z1 : Mem) : Option (Mem × Unit) :=
  F_X2_countPoints_l37 xa F_X2_countPoints_x37 100 Z1 (0 : Int32)

noncomputable def F_X2_countPoints_j28 (Z17 : Mem) (u16 : Int32) (B_2 : Mem → Int32 → Option (Mem × Unit)) (v22 : UInt64) : Option (Mem × Unit) :=
  gd (¬ (u16 < 0 ∨ 6 ≤ ix u16)) <| bv (sd Z17 8 (ix u16) v22) fun Z24 => B_2 Z24 (u16 + (1 : Int32))

noncomputable def F_X2_countPoints_l2 (K_2 : Mem → Option (Mem × Unit)) : Nat → Mem → Int32 → Option (Mem × Unit)
  | 0, _, _ => none
  | n2 + 1, Z17, u16 =>
  br ((6 : Int32) ≤ u16) (K_2 Z17) (calp (F_X0_isStanding Z17 u16) fun rr21 => br (rr21 = (0 : Int32)) ((F_X2_countPoints_j28 Z17 u16 (F_X2_countPoints_l2 K_2 n2)) (13830554455654793216 : UInt64)) ((F_X2_countPoints_j28 Z17 u16 (F_X2_countPoints_l2 K_2 n2)) FP.dconst0))

noncomputable def F_X2_countPoints (Z : Mem) (xa : Int32) : Option (Mem × Unit) :=
  F_X2_countPoints_l2 (F_X2_countPoints_x2 xa) 100 Z (0 : Int32)

set_option maxHeartbeats 4000000 in
set_option maxRecDepth 100000 in
theorem c_X2_countPoints (l : Launch) (dC : Nat → ClassId) (dI : Nat → Nat → Nat) (q : Nat → ClassId) (aa : Nat → Nat) (Z : Mem) (xa : Int32)  (sz : Nat) (Zo : Mem) (ro : Unit) (hF : F_X2_countPoints Z xa = some (Zo, ro)) : Met l yX2_countPoints wsX2_countPoints ({ frames := 4, cells := 0, slots := 0, locals := 87 }) (va_Pc [.ref (aa 6), .ref (aa 1), .int xa] (pr_ dC dI (bw q aa Z) (bty q) sz)) (va_Qv (fun (_ : Unit) => True) (fun (_ : Unit) t => po_ dC dI (bw q aa Zo) (bty q) (va_A (bw q aa Z) sz) t) (va_A (bw q aa Z) sz)) 0 0 (va_A (bw q aa Z) sz) := by
  refine Met.ofW (cc := cX2_countPoints) (maxL := 5) (ret := none) (by decide) rfl ?_
  intro p e s m args below meth c s₁ B hml hv
  obtain ⟨hargs, hsz, hP, hK, hD0⟩ := hv
  have hx := B.exec
  have hb := B.bytes
  have hr := B.returns
  have hts := atoms_spec (ws := wsX2_countPoints) B.pre
  have hown : s.vm.findClass RX2 = some m.cls := findClass_of_methodNamed B.named
  have hlocks := B.notSynchronized
  subst hsz
  have hD := hD0.self (sz := s.heap.size)
  generalize hAe : va_A (bw q aa Z) s.heap.size = A at hD ⊢
  have hA : ∀ x : Nat, s.heap.size ≤ x → A x := fun x h => by rw [← hAe]; exact Or.inr h
  have hS : va_S A s.heap s.heap [] := va_S.rf
  have hinX0 : ∀ w ∈ u_ws RX0 TX0 11, w ∈ wsX2_countPoints := by decide +kernel
  have hinX2 : ∀ w ∈ u_ws RX2 TX2 7, w ∈ wsX2_countPoints := by decide +kernel
  have hl := lv_entry ([.ref (aa 6), .ref (aa 1), .int xa]) (n := 5) (Nat.le_of_ble_eq_true rfl)
  refine w_ent hargs ?_
  rw [lg_entry_eq]
  generalize (lg_sl ([.ref (aa 6), .ref (aa 1), .int xa]) ++ List.replicate (5 - (lg_sl ([.ref (aa 6), .ref (aa 1), .int xa])).length) Slot.unset).toArray = ls at hl ⊢
  have hl : lv_has ls 5 [(0, .ref (aa 6)), (1, .ref (aa 1)), (2, .int xa)] := hl
  unfold F_X2_countPoints at hF
  refine w_go (fun Q hQ => ?_)
  refine lv_iconst (v := 0) hx hb dX2_countPoints_0 (by decide) ?_
  refine lv_istore_n (lv' := [(3, .int 0), (0, .ref (aa 6)), (1, .ref (aa 1)), (2, .int xa)]) hx hb dX2_countPoints_1 rfl hl (by decide) rfl (fun ls hl => ?_)
  have Jx2 : ∀ (Z1 : Mem) (H : Heap) (locs : List Loc) (ls : Array Slot), (F_X2_countPoints_x2 xa) Z1 = some (Zo, ro) → va_P (dC, dI) vwCl (bw q aa Z1) H → va_D A (bw q aa Z1) → va_S A s.heap H locs → lv_has ls 5 [(0, .ref (aa 6)), (1, .ref (aa 1)), (2, .int xa)] → W p l e (headSpec wsX2_countPoints ({ frames := 4, cells := 0, slots := 0, locals := 87 } : Room)).room s m args below meth c H locs 0 0 Q (F0 m 35 ls []) := by
    intro Z1 H locs ls hF hP hD hS hl
    unfold F_X2_countPoints_x2 at hF
    refine lv_iconst (v := 0) hx hb dX2_countPoints_35 (by decide) ?_
    refine lv_istore_n (lv' := [(3, .int 0), (0, .ref (aa 6)), (1, .ref (aa 1)), (2, .int xa)]) hx hb dX2_countPoints_36 rfl hl (by decide) rfl (fun ls hl => ?_)
    have Jx37 : ∀ (Z2 : Mem) (H : Heap) (locs : List Loc) (ls : Array Slot), F_X2_countPoints_x37 Z2 = some (Zo, ro) → va_P (dC, dI) vwCl (bw q aa Z2) H → va_D A (bw q aa Z2) → va_S A s.heap H locs → lv_has ls 5 [] → W p l e (headSpec wsX2_countPoints ({ frames := 4, cells := 0, slots := 0, locals := 87 } : Room)).room s m args below meth c H locs 0 0 Q (F0 m 75 ls []) := by
      intro Z2 H locs ls hF hP hD hS hl
      unfold F_X2_countPoints_x37 at hF
      obtain ⟨e8, e9⟩ := some2 hF
      rw [← e8] at hP hD
      subst hQ
      exact W.vret hx hb hr (fun t ht hW => ⟨⟨(), rfl, trivial, po_mk ht hW hP hK hD⟩, hS.F ht⟩) hS.2.2 dX2_countPoints_75
    have L37 : ∀ (n37 : Nat) (Z4 : Mem) (u3 : Int32) (H : Heap) (locs : List Loc) (ls : Array Slot), F_X2_countPoints_l37 xa F_X2_countPoints_x37 n37 Z4 u3 = some (Zo, ro) → va_P (dC, dI) vwCl (bw q aa Z4) H → va_D A (bw q aa Z4) → va_S A s.heap H locs → lv_has ls 5 [(3, .int u3), (0, .ref (aa 6)), (1, .ref (aa 1)), (2, .int xa)] → W p l e (headSpec wsX2_countPoints ({ frames := 4, cells := 0, slots := 0, locals := 87 } : Room)).room s m args below meth c H locs 0 0 Q (F0 m 37 ls []) := by
      intro n37
      induction n37 with
      | zero =>
        intro Z4 u3 H locs ls hF
        rw [F_X2_countPoints_l37] at hF
        cases hF
      | succ n37 IH37 =>
        intro Z4 u3 H locs ls hF hP hD hS hl
        rw [F_X2_countPoints_l37] at hF
        refine lv_iload_n hx hb dX2_countPoints_37 rfl (lv_at hl 0 rfl) ?_
        refine lv_aload_n hx hb dX2_countPoints_38 rfl (lv_at hl 2 rfl) ?_
        refine va_get (D := (dC, dI)) (ci := 2) (v := .int (Z4.1 1 7)) (C := RX0) (T := TX0) (N := 11) hx hb hts hinX0 hown hK hP 1 (bw_at (i := 1) (by decide) rfl) rfl 7 (by decide) (hts (.fieldLink RX2 61 "BallotLoom$Box" "cast" "I") (by decide +kernel)) (fun _ h9 => h9) rfl dX2_countPoints_39 ?_
        refine lv_topi (fun y5 ey5 => ?_)
        have hF := bv_at ey5 hF
        refine lv_icmp_ge (tgt := 75) hx hb dX2_countPoints_42 (by decide) (fun hc6 => ?_) (fun hc6 => ?_)
        · have hF := br_pos hc6 hF
          exact Jx37 Z4 _ _ _ hF hP hD hS (lv_sub hl [] rfl)
        · have hF := br_neg hc6 hF
          refine lv_aload_n hx hb dX2_countPoints_45 rfl (lv_at hl 2 rfl) ?_
          refine va_get (D := (dC, dI)) (ci := 2) (v := .ref (aa 5)) (C := RX0) (T := TX0) (N := 11) hx hb hts hinX0 hown hK hP 1 (bw_at (i := 1) (by decide) rfl) rfl 6 (by decide) (hts (.fieldLink RX2 67 "BallotLoom$Box" "stacks" "[LBallotLoom$Stack;") (by decide +kernel)) (fun _ h9 => h9) rfl dX2_countPoints_46 ?_
          refine lv_iload_n hx hb dX2_countPoints_49 rfl (lv_at hl 0 rfl) ?_
          obtain ⟨hg7, hF⟩ := gd_some hF
          have hk8 : ix u3 < 25 := in_lt hg7 (by decide)
          refine bq_ald (v := (aa (39 + (ix u3)))) (hty := rfl) hx hb hK hP 5 3 (at_q (by decide) (fun _ _ => rfl)) rfl hg7 (if_pos (in_lt hg7 (Nat.le_refl _))) dX2_countPoints_50 ?_
          refine lv_astore (lv' := [(4, .ref (aa (39 + (ix u3)))), (3, .int u3), (0, .ref (aa 6)), (1, .ref (aa 1)), (2, .int xa)]) hx hb dX2_countPoints_51 hl (by decide) rfl (fun ls hl => ?_)
          refine lv_aload hx hb dX2_countPoints_53 (lv_at hl 0 rfl) ?_
          refine lv_iload_n hx hb dX2_countPoints_55 rfl (lv_at hl 4 rfl) ?_
          obtain ⟨r10, hC9, hF⟩ := calp_some hF
          have hFc := b_free (ws := bw q aa Z4) hD hS hA
          refine va_calli (va_runV (As := [.int xa]) (rest := []) ⟨hx, hb, hml, hown, hts⟩ (c_X3_countsIn l dC dI q aa Z4 (ix u3) xa hk8 _ _  hC9) (cwV 1 hts gX2_countPoints_X3_countsIn rfl rfl rfl (by decide +kernel) ⟨Nat.le_of_ble_eq_true rfl, Nat.le_of_ble_eq_true rfl⟩) ⟨pr_blind, va_recv hK hP (ci := 5) (q0 := (39 + (ix u3))) rfl (bw_at (i := 39 + (ix u3)) (by omega) (bk_stk hk8 _ _)), fun U hU hW => ⟨rfl, pr_mk hU hW hP hK hD⟩⟩ rfl rfl hl.1 rfl (lv_room (Nat.le_of_ble_eq_true rfl)) dX2_countPoints_56 ⟨Nat.le_of_ble_eq_true rfl, Nat.le_of_ble_eq_true rfl⟩) hS (fun x _ h => hFc x h) hFc (fun rr11 u t H1 locs ht hvm hw hB hz1 hk1 hS => ?_)
          obtain ⟨hP, hK1, hD1⟩ := hB
          rw [ht] at hP
          have hD := hD1.weaken (fun _ q9 _ h9 => hFc q9.1 h9)
          clear hFc hD1 hK1 hvm hz1 hk1
          generalize H1 = H at hP hS ⊢
          refine W.widen (k := 0) (n := 0) (Nat.le_refl _) (Nat.le_refl _) ?_
          obtain rfl : rr11 = r10 := hw
          refine lv_if_eq (tgt := 69) hx hb dX2_countPoints_59 (by decide) (fun hc12 => ?_) (fun hc12 => ?_)
          · have hF := br_pos hc12 hF
            refine lv_iinc (k := 1) (v := (u3 + (1 : Int32))) (lv' := [(3, .int (u3 + (1 : Int32))), (4, .ref (aa (39 + (ix u3)))), (0, .ref (aa 6)), (1, .ref (aa 1)), (2, .int xa)]) hx hb dX2_countPoints_69 hl rfl (ii_ _ _ _ (by decide)) (by decide) rfl (fun ls hl => ?_)
            refine lv_goto (tgt := 37) hx hb dX2_countPoints_72 (by decide) ?_
            exact IH37 Z4 (u3 + (1 : Int32)) _ _ _ hF hP hD hS (lv_sub hl [0, 2, 3, 4] rfl)
          · have hF := br_neg hc12 hF
            refine lv_aload_n hx hb dX2_countPoints_62 rfl (lv_at hl 2 rfl) ?_
            refine lv_aload_n hx hb dX2_countPoints_63 rfl (lv_at hl 3 rfl) ?_
            refine lv_aload hx hb dX2_countPoints_64 (lv_at hl 0 rfl) ?_
            obtain ⟨Z14, _, hC13, hF⟩ := cal_some hF
            have hFc := b_free (ws := bw q aa Z4) hD hS hA
            refine va_callv (va_runV (As := [.ref (aa 1), .ref (aa (39 + (ix u3)))]) (rest := []) ⟨hx, hb, hml, hown, hts⟩ (c_X2_addPoints l dC dI q aa Z4 (ix u3) hk8 _ _ _  hC13) (cwV 2 hts gX2_countPoints_X2_addPoints rfl rfl rfl (by decide +kernel) ⟨Nat.le_of_ble_eq_true rfl, Nat.le_of_ble_eq_true rfl⟩) ⟨pr_blind, va_recv hK hP (ci := 4) (q0 := 6) rfl (bw_at (i := 6) (by decide) rfl), fun U hU hW => ⟨rfl, pr_mk hU hW hP hK hD⟩⟩ rfl rfl hl.1 rfl (lv_room (Nat.le_of_ble_eq_true rfl)) dX2_countPoints_66 ⟨Nat.le_of_ble_eq_true rfl, Nat.le_of_ble_eq_true rfl⟩) hS (fun x _ h => hFc x h) hFc (fun u t H1 locs ht hvm hw hB hz1 hk1 hS => ?_)
            obtain ⟨hP, hK1, hD1⟩ := hB
            rw [ht] at hP
            have hD := hD1.weaken (fun _ q9 _ h9 => hFc q9.1 h9)
            clear hFc hD1 hK1 hvm hz1 hk1
            generalize H1 = H at hP hS ⊢
            refine W.widen (k := 0) (n := 0) (Nat.le_refl _) (Nat.le_refl _) ?_
            refine lv_iinc (k := 1) (v := (u3 + (1 : Int32))) (lv' := [(3, .int (u3 + (1 : Int32))), (4, .ref (aa (39 + (ix u3)))), (0, .ref (aa 6)), (1, .ref (aa 1)), (2, .int xa)]) hx hb dX2_countPoints_69 hl rfl (ii_ _ _ _ (by decide)) (by decide) rfl (fun ls hl => ?_)
            refine lv_goto (tgt := 37) hx hb dX2_countPoints_72 (by decide) ?_
            exact IH37 Z14 (u3 + (1 : Int32)) _ _ _ hF hP hD hS (lv_sub hl [0, 2, 3, 4] rfl)
    exact L37 100 Z1 (0 : Int32) _ _ _ hF hP hD hS (lv_sub hl [0, 1, 2, 3] rfl)
  have L2 : ∀ (n2 : Nat) (Z17 : Mem) (u16 : Int32) (H : Heap) (locs : List Loc) (ls : Array Slot), F_X2_countPoints_l2 (F_X2_countPoints_x2 xa) n2 Z17 u16 = some (Zo, ro) → va_P (dC, dI) vwCl (bw q aa Z17) H → va_D A (bw q aa Z17) → va_S A s.heap H locs → lv_has ls 5 [(3, .int u16), (0, .ref (aa 6)), (1, .ref (aa 1)), (2, .int xa)] → W p l e (headSpec wsX2_countPoints ({ frames := 4, cells := 0, slots := 0, locals := 87 } : Room)).room s m args below meth c H locs 0 0 Q (F0 m 2 ls []) := by
    intro n2
    induction n2 with
    | zero =>
      intro Z17 u16 H locs ls hF
      rw [F_X2_countPoints_l2] at hF
      cases hF
    | succ n2 IH2 =>
      intro Z17 u16 H locs ls hF hP hD hS hl
      rw [F_X2_countPoints_l2] at hF
      refine lv_iload_n hx hb dX2_countPoints_2 rfl (lv_at hl 0 rfl) ?_
      refine lv_bipush (v := 6) hx hb dX2_countPoints_3 (by decide) ?_
      refine lv_icmp_ge (tgt := 35) hx hb dX2_countPoints_5 (by decide) (fun hc18 => ?_) (fun hc18 => ?_)
      · have hF := br_pos hc18 hF
        exact Jx2 Z17 _ _ _ hF hP hD hS (lv_sub hl [1, 2, 3] rfl)
      · have hF := br_neg hc18 hF
        refine lv_aload_n hx hb dX2_countPoints_8 rfl (lv_at hl 1 rfl) ?_
        refine va_get (D := (dC, dI)) (ci := 4) (v := .ref (aa 8)) (C := RX2) (T := TX2) (N := 7) hx hb hts hinX2 hown hK hP 6 (bw_at (i := 6) (by decide) rfl) rfl 1 (by decide) (hts (.fieldLink RX2 15 "BallotLoom$Poll" "points" "[D") (by decide +kernel)) (fun _ h9 => h9) rfl dX2_countPoints_9 ?_
        refine lv_iload_n hx hb dX2_countPoints_12 rfl (lv_at hl 0 rfl) ?_
        refine lv_aload_n hx hb dX2_countPoints_13 rfl (lv_at hl 2 rfl) ?_
        refine lv_iload_n hx hb dX2_countPoints_14 rfl (lv_at hl 0 rfl) ?_
        obtain ⟨r20, hC19, hF⟩ := calp_some hF
        have hFc := b_free (ws := bw q aa Z17) hD hS hA
        refine va_calli (va_runV (As := [.int u16]) (rest := [.int u16, .ref (aa 8)]) ⟨hx, hb, hml, hown, hts⟩ (c_X0_isStanding l dC dI q aa Z17 u16  _ _  hC19) (cwV 1 hts gX2_countPoints_X0_isStanding rfl rfl rfl (by decide +kernel) ⟨Nat.le_of_ble_eq_true rfl, Nat.le_of_ble_eq_true rfl⟩) ⟨pr_blind, va_recv hK hP (ci := 2) (q0 := 1) rfl (bw_at (i := 1) (by decide) rfl), fun U hU hW => ⟨rfl, pr_mk hU hW hP hK hD⟩⟩ rfl rfl hl.1 rfl (lv_room (Nat.le_of_ble_eq_true rfl)) dX2_countPoints_15 ⟨Nat.le_of_ble_eq_true rfl, Nat.le_of_ble_eq_true rfl⟩) hS (fun x _ h => hFc x h) hFc (fun rr21 u t H1 locs ht hvm hw hB hz1 hk1 hS => ?_)
        obtain ⟨hP, hK1, hD1⟩ := hB
        rw [ht] at hP
        have hD := hD1.weaken (fun _ q9 _ h9 => hFc q9.1 h9)
        clear hFc hD1 hK1 hvm hz1 hk1
        generalize H1 = H at hP hS ⊢
        refine W.widen (k := 0) (n := 0) (Nat.le_refl _) (Nat.le_refl _) ?_
        obtain rfl : rr21 = r20 := hw
        have Jj28 : ∀ (v22 : UInt64) (H : Heap) (locs : List Loc) (ls : Array Slot), (F_X2_countPoints_j28 Z17 u16 (F_X2_countPoints_l2 (F_X2_countPoints_x2 xa) n2)) v22 = some (Zo, ro) → va_P (dC, dI) vwCl (bw q aa Z17) H → va_D A (bw q aa Z17) → va_S A s.heap H locs → lv_has ls 5 [(3, .int u16), (0, .ref (aa 6)), (1, .ref (aa 1)), (2, .int xa)] → W p l e (headSpec wsX2_countPoints ({ frames := 4, cells := 0, slots := 0, locals := 87 } : Room)).room s m args below meth c H locs 0 0 Q (F0 m 28 ls [.double v22, .int u16, .ref (aa 8)]) := by
          intro v22 H locs ls hF hP hD hS hl
          unfold F_X2_countPoints_j28 at hF
          obtain ⟨hg23, hF⟩ := gd_some hF
          obtain ⟨Z24, eZ24, hF⟩ := bv_some hF
          refine va_dast hx hb hK hP hD hS 8 2 (at_d (by decide) (fun _ _ => rfl)) rfl hg23 dX2_countPoints_28 (fun H locs hP hD hS => ?_)
          have eW := wz_d (q := q) (aa := aa) (i := 8) (fun _ _ => rfl) eZ24
          have hP : va_P (dC, dI) vwCl (bw q aa Z24) H := eW ▸ hP
          have hD : va_D A (bw q aa Z24) := eW ▸ hD
          clear eW
          refine lv_iinc (k := 0) (v := (u16 + (1 : Int32))) (lv' := [(3, .int (u16 + (1 : Int32))), (0, .ref (aa 6)), (1, .ref (aa 1)), (2, .int xa)]) hx hb dX2_countPoints_29 hl rfl (ii_ _ _ _ (by decide)) (by decide) rfl (fun ls hl => ?_)
          refine lv_goto (tgt := 2) hx hb dX2_countPoints_32 (by decide) ?_
          exact IH2 Z24 (u16 + (1 : Int32)) _ _ _ hF hP hD hS (lv_sub hl [0, 1, 2, 3] rfl)
        refine lv_if_eq (tgt := 25) hx hb dX2_countPoints_18 (by decide) (fun hc25 => ?_) (fun hc25 => ?_)
        · have hF := br_pos hc25 hF
          refine lv_ldc2d (v := 13830554455654793216) hx hb hown (hts (.constantDouble RX2 95 (13830554455654793216)) (by decide +kernel)) dX2_countPoints_25 ?_
          exact Jj28 (13830554455654793216 : UInt64) _ _ _ hF hP hD hS (lv_sub hl [0, 1, 2, 3] rfl)
        · have hF := br_neg hc25 hF
          refine lv_dconst0 hx hb dX2_countPoints_21 ?_
          refine lv_goto (tgt := 28) hx hb dX2_countPoints_22 (by decide) ?_
          exact Jj28 FP.dconst0 _ _ _ hF hP hD hS (lv_sub hl [0, 1, 2, 3] rfl)
  exact L2 100 Z (0 : Int32) _ _ _ hF hP hD hS (lv_sub hl [0, 1, 2, 3] rfl)

noncomputable def F_X2_mostPoints_x4 (w1 : Int32) : Option Int32 :=
  some w1

noncomputable def F_X2_mostPoints_l4 (Z : Mem) (K_4 : Int32 → Option Int32) : Nat → Int32 → Int32 → Option Int32
  | 0, _, _ => none
  | n4 + 1, u2, u3 =>
  bv (Z.1 1 2) fun y4 => br (y4 ≤ u3) (K_4 u2) (gd (¬ (u3 < 0 ∨ 6 ≤ ix u3)) <| bv (Z.1 3 (ix u3)) fun y7 => br (y7 = (0 : Int32)) ((F_X2_mostPoints_l4 Z K_4 n4) u2 (u3 + (1 : Int32))) (br (u2 = ((-1) : Int32)) ((F_X2_mostPoints_l4 Z K_4 n4) u3 (u3 + (1 : Int32))) (bv (Z.2 8 (ix u3)) fun y10 => gd (¬ (u2 < 0 ∨ 6 ≤ ix u2)) <| bv (Z.2 8 (ix u2)) fun y12 => bv (Op.cmpValue (FP.dcmp y10 y12) .l) fun y13 => br (y13 ≤ (0 : Int32)) ((F_X2_mostPoints_l4 Z K_4 n4) u2 (u3 + (1 : Int32))) ((F_X2_mostPoints_l4 Z K_4 n4) u3 (u3 + (1 : Int32))))))

noncomputable def F_X2_mostPoints (Z : Mem) : Option Int32 :=
  F_X2_mostPoints_l4 Z F_X2_mostPoints_x4 100 ((-1) : Int32) (0 : Int32)

set_option maxHeartbeats 4000000 in
set_option maxRecDepth 100000 in
theorem c_X2_mostPoints (l : Launch) (dC : Nat → ClassId) (dI : Nat → Nat → Nat) (q : Nat → ClassId) (aa : Nat → Nat) (Z : Mem)   (sz : Nat) (ro : Int32) (hF : F_X2_mostPoints Z  = some ro) : Met l yX2_mostPoints wsX2_mostPoints ({ frames := 2, cells := 0, slots := 0, locals := 40 }) (va_Pc [.ref (aa 6), .ref (aa 1)] (pr_ dC dI (bw q aa Z) (bty q) sz)) (va_Qi (fun (r : Int32) (_ : Unit) => r = ro) (fun (_ : Unit) t => po_ dC dI (bw q aa Z) (bty q) (va_A (bw q aa Z) sz) t) (va_A (bw q aa Z) sz)) 0 0 (va_A (bw q aa Z) sz) := by
  refine Met.ofW (cc := cX2_mostPoints) (maxL := 4) (ret := (some .int)) (by decide) rfl ?_
  intro p e s m args below meth c s₁ B hml hv
  obtain ⟨hargs, hsz, hP, hK, hD0⟩ := hv
  have hx := B.exec
  have hb := B.bytes
  have hr := B.returns
  have hts := atoms_spec (ws := wsX2_mostPoints) B.pre
  have hown : s.vm.findClass RX2 = some m.cls := findClass_of_methodNamed B.named
  have hlocks := B.notSynchronized
  subst hsz
  have hD := hD0.self (sz := s.heap.size)
  generalize hAe : va_A (bw q aa Z) s.heap.size = A at hD ⊢
  have hA : ∀ x : Nat, s.heap.size ≤ x → A x := fun x h => by rw [← hAe]; exact Or.inr h
  have hS : va_S A s.heap s.heap [] := va_S.rf
  have hinX0 : ∀ w ∈ u_ws RX0 TX0 11, w ∈ wsX2_mostPoints := by decide +kernel
  have hinX2 : ∀ w ∈ u_ws RX2 TX2 7, w ∈ wsX2_mostPoints := by decide +kernel
  have hl := lv_entry ([.ref (aa 6), .ref (aa 1)]) (n := 4) (Nat.le_of_ble_eq_true rfl)
  refine w_ent hargs ?_
  rw [lg_entry_eq]
  generalize (lg_sl ([.ref (aa 6), .ref (aa 1)]) ++ List.replicate (4 - (lg_sl ([.ref (aa 6), .ref (aa 1)])).length) Slot.unset).toArray = ls at hl ⊢
  have hl : lv_has ls 4 [(0, .ref (aa 6)), (1, .ref (aa 1))] := hl
  unfold F_X2_mostPoints at hF
  refine w_go (fun Q hQ => ?_)
  refine lv_iconst (v := (-1)) hx hb dX2_mostPoints_0 (by decide) ?_
  refine lv_istore_n (lv' := [(2, .int (-1)), (0, .ref (aa 6)), (1, .ref (aa 1))]) hx hb dX2_mostPoints_1 rfl hl (by decide) rfl (fun ls hl => ?_)
  refine lv_iconst (v := 0) hx hb dX2_mostPoints_2 (by decide) ?_
  refine lv_istore_n (lv' := [(3, .int 0), (2, .int (-1)), (0, .ref (aa 6)), (1, .ref (aa 1))]) hx hb dX2_mostPoints_3 rfl hl (by decide) rfl (fun ls hl => ?_)
  have Jx4 : ∀ (w1 : Int32) (H : Heap) (locs : List Loc) (ls : Array Slot), F_X2_mostPoints_x4 w1 = some ro → va_P (dC, dI) vwCl (bw q aa Z) H → va_D A (bw q aa Z) → va_S A s.heap H locs → lv_has ls 4 [(2, .int w1)] → W p l e (headSpec wsX2_mostPoints ({ frames := 2, cells := 0, slots := 0, locals := 40 } : Room)).room s m args below meth c H locs 0 0 Q (F0 m 50 ls []) := by
    intro w1 H locs ls hF hP hD hS hl
    unfold F_X2_mostPoints_x4 at hF
    refine lv_iload_n hx hb dX2_mostPoints_50 rfl (lv_at hl 0 rfl) ?_
    have e9 := some1 hF
    subst hQ
    exact W.iret (v := w1) hx hb hr (fun t ht hW => ⟨⟨w1, (), rfl, e9.symm, po_mk ht hW hP hK hD⟩, hS.F ht⟩) hS.2.2 dX2_mostPoints_51
  have L4 : ∀ (n4 : Nat) (u2 : Int32) (u3 : Int32) (H : Heap) (locs : List Loc) (ls : Array Slot), F_X2_mostPoints_l4 Z F_X2_mostPoints_x4 n4 u2 u3 = some ro → va_P (dC, dI) vwCl (bw q aa Z) H → va_D A (bw q aa Z) → va_S A s.heap H locs → lv_has ls 4 [(3, .int u3), (2, .int u2), (0, .ref (aa 6)), (1, .ref (aa 1))] → W p l e (headSpec wsX2_mostPoints ({ frames := 2, cells := 0, slots := 0, locals := 40 } : Room)).room s m args below meth c H locs 0 0 Q (F0 m 4 ls []) := by
    intro n4
    induction n4 with
    | zero =>
      intro u2 u3 H locs ls hF
      rw [F_X2_mostPoints_l4] at hF
      cases hF
    | succ n4 IH4 =>
      intro u2 u3 H locs ls hF hP hD hS hl
      rw [F_X2_mostPoints_l4] at hF
      refine lv_iload_n hx hb dX2_mostPoints_4 rfl (lv_at hl 0 rfl) ?_
      refine lv_aload_n hx hb dX2_mostPoints_5 rfl (lv_at hl 3 rfl) ?_
      refine va_get (D := (dC, dI)) (ci := 2) (v := .int (Z.1 1 2)) (C := RX0) (T := TX0) (N := 11) hx hb hts hinX0 hown hK hP 1 (bw_at (i := 1) (by decide) rfl) rfl 2 (by decide) (hts (.fieldLink RX2 86 "BallotLoom$Box" "candidates" "I") (by decide +kernel)) (fun _ h9 => h9) rfl dX2_mostPoints_6 ?_
      refine lv_topi (fun y4 ey4 => ?_)
      have hF := bv_at ey4 hF
      refine lv_icmp_ge (tgt := 50) hx hb dX2_mostPoints_9 (by decide) (fun hc5 => ?_) (fun hc5 => ?_)
      · have hF := br_pos hc5 hF
        exact Jx4 u2 _ _ _ hF hP hD hS (lv_sub hl [1] rfl)
      · have hF := br_neg hc5 hF
        refine lv_aload_n hx hb dX2_mostPoints_12 rfl (lv_at hl 3 rfl) ?_
        refine va_get (D := (dC, dI)) (ci := 2) (v := .ref (aa 3)) (C := RX0) (T := TX0) (N := 11) hx hb hts hinX0 hown hK hP 1 (bw_at (i := 1) (by decide) rfl) rfl 1 (by decide) (hts (.fieldLink RX2 89 "BallotLoom$Box" "stands" "[Z") (by decide +kernel)) (fun _ h9 => h9) rfl dX2_mostPoints_13 ?_
        refine lv_iload_n hx hb dX2_mostPoints_16 rfl (lv_at hl 0 rfl) ?_
        obtain ⟨hg6, hF⟩ := gd_some hF
        refine va_zald hx hb hK hP 3 1 (at_i (by decide) (fun _ _ => rfl)) rfl hg6 dX2_mostPoints_17 ?_
        refine lv_topi (fun y7 ey7 => ?_)
        have hF := bv_at ey7 hF
        refine lv_if_eq (tgt := 44) hx hb dX2_mostPoints_18 (by decide) (fun hc8 => ?_) (fun hc8 => ?_)
        · have hF := br_pos hc8 hF
          refine lv_iinc (k := 0) (v := (u3 + (1 : Int32))) (lv' := [(3, .int (u3 + (1 : Int32))), (2, .int u2), (0, .ref (aa 6)), (1, .ref (aa 1))]) hx hb dX2_mostPoints_44 hl rfl (ii_ _ _ _ (by decide)) (by decide) rfl (fun ls hl => ?_)
          refine lv_goto (tgt := 4) hx hb dX2_mostPoints_47 (by decide) ?_
          exact IH4 u2 (u3 + (1 : Int32)) _ _ _ hF hP hD hS (lv_sub hl [0, 1, 2, 3] rfl)
        · have hF := br_neg hc8 hF
          refine lv_iload_n hx hb dX2_mostPoints_21 rfl (lv_at hl 1 rfl) ?_
          refine lv_iconst (v := (-1)) hx hb dX2_mostPoints_22 (by decide) ?_
          refine lv_icmp_eq (tgt := 42) hx hb dX2_mostPoints_23 (by decide) (fun hc9 => ?_) (fun hc9 => ?_)
          · have hF := br_pos hc9 hF
            refine lv_iload_n hx hb dX2_mostPoints_42 rfl (lv_at hl 0 rfl) ?_
            refine lv_istore_n (lv' := [(2, .int u3), (3, .int u3), (0, .ref (aa 6)), (1, .ref (aa 1))]) hx hb dX2_mostPoints_43 rfl hl (by decide) rfl (fun ls hl => ?_)
            refine lv_iinc (k := 1) (v := (u3 + (1 : Int32))) (lv' := [(3, .int (u3 + (1 : Int32))), (2, .int u3), (0, .ref (aa 6)), (1, .ref (aa 1))]) hx hb dX2_mostPoints_44 hl rfl (ii_ _ _ _ (by decide)) (by decide) rfl (fun ls hl => ?_)
            refine lv_goto (tgt := 4) hx hb dX2_mostPoints_47 (by decide) ?_
            exact IH4 u3 (u3 + (1 : Int32)) _ _ _ hF hP hD hS (lv_sub hl [0, 1, 2, 3] rfl)
          · have hF := br_neg hc9 hF
            refine lv_aload_n hx hb dX2_mostPoints_26 rfl (lv_at hl 2 rfl) ?_
            refine va_get (D := (dC, dI)) (ci := 4) (v := .ref (aa 8)) (C := RX2) (T := TX2) (N := 7) hx hb hts hinX2 hown hK hP 6 (bw_at (i := 6) (by decide) rfl) rfl 1 (by decide) (hts (.fieldLink RX2 15 "BallotLoom$Poll" "points" "[D") (by decide +kernel)) (fun _ h9 => h9) rfl dX2_mostPoints_27 ?_
            refine lv_iload_n hx hb dX2_mostPoints_30 rfl (lv_at hl 0 rfl) ?_
            refine va_dald hx hb hK hP 8 2 (at_d (by decide) (fun _ _ => rfl)) rfl hg6 dX2_mostPoints_31 ?_
            refine lv_topd (fun y10 ey10 => ?_)
            have hF := bv_at ey10 hF
            refine lv_aload_n hx hb dX2_mostPoints_32 rfl (lv_at hl 2 rfl) ?_
            refine va_get (D := (dC, dI)) (ci := 4) (v := .ref (aa 8)) (C := RX2) (T := TX2) (N := 7) hx hb hts hinX2 hown hK hP 6 (bw_at (i := 6) (by decide) rfl) rfl 1 (by decide) (hts (.fieldLink RX2 15 "BallotLoom$Poll" "points" "[D") (by decide +kernel)) (fun _ h9 => h9) rfl dX2_mostPoints_33 ?_
            refine lv_iload_n hx hb dX2_mostPoints_36 rfl (lv_at hl 1 rfl) ?_
            obtain ⟨hg11, hF⟩ := gd_some hF
            refine va_dald hx hb hK hP 8 2 (at_d (by decide) (fun _ _ => rfl)) rfl hg11 dX2_mostPoints_37 ?_
            refine lv_topd (fun y12 ey12 => ?_)
            have hF := bv_at ey12 hF
            refine lv_dcmp hx hb dX2_mostPoints_38 ?_
            refine lv_topi (fun y13 ey13 => ?_)
            have hF := bv_at ey13 hF
            refine lv_if_le (tgt := 44) hx hb dX2_mostPoints_39 (by decide) (fun hc14 => ?_) (fun hc14 => ?_)
            · have hF := br_pos hc14 hF
              refine lv_iinc (k := 0) (v := (u3 + (1 : Int32))) (lv' := [(3, .int (u3 + (1 : Int32))), (2, .int u2), (0, .ref (aa 6)), (1, .ref (aa 1))]) hx hb dX2_mostPoints_44 hl rfl (ii_ _ _ _ (by decide)) (by decide) rfl (fun ls hl => ?_)
              refine lv_goto (tgt := 4) hx hb dX2_mostPoints_47 (by decide) ?_
              exact IH4 u2 (u3 + (1 : Int32)) _ _ _ hF hP hD hS (lv_sub hl [0, 1, 2, 3] rfl)
            · have hF := br_neg hc14 hF
              refine lv_iload_n hx hb dX2_mostPoints_42 rfl (lv_at hl 0 rfl) ?_
              refine lv_istore_n (lv' := [(2, .int u3), (3, .int u3), (0, .ref (aa 6)), (1, .ref (aa 1))]) hx hb dX2_mostPoints_43 rfl hl (by decide) rfl (fun ls hl => ?_)
              refine lv_iinc (k := 1) (v := (u3 + (1 : Int32))) (lv' := [(3, .int (u3 + (1 : Int32))), (2, .int u3), (0, .ref (aa 6)), (1, .ref (aa 1))]) hx hb dX2_mostPoints_44 hl rfl (ii_ _ _ _ (by decide)) (by decide) rfl (fun ls hl => ?_)
              refine lv_goto (tgt := 4) hx hb dX2_mostPoints_47 (by decide) ?_
              exact IH4 u3 (u3 + (1 : Int32)) _ _ _ hF hP hD hS (lv_sub hl [0, 1, 2, 3] rfl)
  exact L4 100 ((-1) : Int32) (0 : Int32) _ _ _ hF hP hD hS (lv_sub hl [0, 1, 2, 3] rfl)

noncomputable def F_X2_addBeats_x2 (Z1 : Mem) : Option (Mem × Unit) :=
  some (Z1, ())

noncomputable def F_X2_addBeats_x21 (u2 : Int32) (B_2 : Mem → Int32 → Option (Mem × Unit)) (Z8 : Mem) : Option (Mem × Unit) :=
  B_2 Z8 (u2 + (1 : Int32))

noncomputable def F_X2_addBeats_l21 (ka : Nat) (u2 : Int32) (y7 : Int32) (K_21 : Mem → Option (Mem × Unit)) : Nat → Mem → Int32 → Option (Mem × Unit)
  | 0, _, _ => none
  | n21 + 1, Z10, u9 =>
  bv (Z10.1 1 2) fun y11 => br (y11 ≤ u9) (K_21 Z10) (gd (¬ (u9 < 0 ∨ 6 ≤ ix u9)) <| bv (Z10.1 3 (ix u9)) fun y14 => br (y14 = (0 : Int32)) ((F_X2_addBeats_l21 ka u2 y7 K_21 n21) Z10 (u9 + (1 : Int32))) (calp (F_X3_placeOf Z10 ka u9) fun rr18 => br (rr18 ≤ u2) ((F_X2_addBeats_l21 ka u2 y7 K_21 n21) Z10 (u9 + (1 : Int32))) (gd (¬ (y7 < 0 ∨ 6 ≤ ix y7)) <| bv (Z10.1 (14 + (ix y7)) (ix u9)) fun y22 => bv (Z10.1 (39 + ka) 2) fun y23 => bv (y22 + y23) fun y24 => bv (si Z10 (14 + (ix y7)) (ix u9) y24) fun Z25 => (F_X2_addBeats_l21 ka u2 y7 K_21 n21) Z25 (u9 + (1 : Int32)))))

noncomputable def F_X2_addBeats_l2 (ka : Nat) (K_2 : Mem → Option (Mem × Unit)) : Nat → Mem → Int32 → Option (Mem × Unit)
  | 0, _, _ => none
  | n2 + 1, Z3, u2 =>
  bv (Z3.1 (39 + ka) 5) fun y4 => br (y4 ≤ u2) (K_2 Z3) (gd (¬ (u2 < 0 ∨ 6 ≤ ix u2)) <| bv (Z3.1 (64 + ka) (ix u2)) fun y7 => F_X2_addBeats_l21 ka u2 y7 (F_X2_addBeats_x21 u2 (F_X2_addBeats_l2 ka K_2 n2)) 100 Z3 (0 : Int32))

noncomputable def F_X2_addBeats (Z : Mem) (ka : Nat) : Option (Mem × Unit) :=
  F_X2_addBeats_l2 ka F_X2_addBeats_x2 100 Z (0 : Int32)

set_option maxHeartbeats 4000000 in
set_option maxRecDepth 100000 in
theorem c_X2_addBeats (l : Launch) (dC : Nat → ClassId) (dI : Nat → Nat → Nat) (q : Nat → ClassId) (aa : Nat → Nat) (Z : Mem) (ka : Nat) (hka : ka < 25) (sz : Nat) (Zo : Mem) (ro : Unit) (hF : F_X2_addBeats Z ka = some (Zo, ro)) : Met l yX2_addBeats wsX2_addBeats ({ frames := 3, cells := 0, slots := 0, locals := 62 }) (va_Pc [.ref (aa 6), .ref (aa 1), .ref (aa (39 + ka))] (pr_ dC dI (bw q aa Z) (bty q) sz)) (va_Qv (fun (_ : Unit) => True) (fun (_ : Unit) t => po_ dC dI (bw q aa Zo) (bty q) (va_A (bw q aa Z) sz) t) (va_A (bw q aa Z) sz)) 0 0 (va_A (bw q aa Z) sz) := by
  refine Met.ofW (cc := cX2_addBeats) (maxL := 6) (ret := none) (by decide) rfl ?_
  intro p e s m args below meth c s₁ B hml hv
  obtain ⟨hargs, hsz, hP, hK, hD0⟩ := hv
  have hx := B.exec
  have hb := B.bytes
  have hr := B.returns
  have hts := atoms_spec (ws := wsX2_addBeats) B.pre
  have hown : s.vm.findClass RX2 = some m.cls := findClass_of_methodNamed B.named
  have hlocks := B.notSynchronized
  subst hsz
  have hD := hD0.self (sz := s.heap.size)
  generalize hAe : va_A (bw q aa Z) s.heap.size = A at hD ⊢
  have hA : ∀ x : Nat, s.heap.size ≤ x → A x := fun x h => by rw [← hAe]; exact Or.inr h
  have hS : va_S A s.heap s.heap [] := va_S.rf
  have hinX0 : ∀ w ∈ u_ws RX0 TX0 11, w ∈ wsX2_addBeats := by decide +kernel
  have hinX2 : ∀ w ∈ u_ws RX2 TX2 7, w ∈ wsX2_addBeats := by decide +kernel
  have hinX3 : ∀ w ∈ u_ws RX3 TX3 7, w ∈ wsX2_addBeats := by decide +kernel
  have hl := lv_entry ([.ref (aa 6), .ref (aa 1), .ref (aa (39 + ka))]) (n := 6) (Nat.le_of_ble_eq_true rfl)
  refine w_ent hargs ?_
  rw [lg_entry_eq]
  generalize (lg_sl ([.ref (aa 6), .ref (aa 1), .ref (aa (39 + ka))]) ++ List.replicate (6 - (lg_sl ([.ref (aa 6), .ref (aa 1), .ref (aa (39 + ka))])).length) Slot.unset).toArray = ls at hl ⊢
  have hl : lv_has ls 6 [(0, .ref (aa 6)), (1, .ref (aa 1)), (2, .ref (aa (39 + ka)))] := hl
  unfold F_X2_addBeats at hF
  refine w_go (fun Q hQ => ?_)
  refine lv_iconst (v := 0) hx hb dX2_addBeats_0 (by decide) ?_
  refine lv_istore_n (lv' := [(3, .int 0), (0, .ref (aa 6)), (1, .ref (aa 1)), (2, .ref (aa (39 + ka)))]) hx hb dX2_addBeats_1 rfl hl (by decide) rfl (fun ls hl => ?_)
  have Jx2 : ∀ (Z1 : Mem) (H : Heap) (locs : List Loc) (ls : Array Slot), F_X2_addBeats_x2 Z1 = some (Zo, ro) → va_P (dC, dI) vwCl (bw q aa Z1) H → va_D A (bw q aa Z1) → va_S A s.heap H locs → lv_has ls 6 [] → W p l e (headSpec wsX2_addBeats ({ frames := 3, cells := 0, slots := 0, locals := 62 } : Room)).room s m args below meth c H locs 0 0 Q (F0 m 79 ls []) := by
    intro Z1 H locs ls hF hP hD hS hl
    unfold F_X2_addBeats_x2 at hF
    obtain ⟨e8, e9⟩ := some2 hF
    rw [← e8] at hP hD
    subst hQ
    exact W.vret hx hb hr (fun t ht hW => ⟨⟨(), rfl, trivial, po_mk ht hW hP hK hD⟩, hS.F ht⟩) hS.2.2 dX2_addBeats_79
  have L2 : ∀ (n2 : Nat) (Z3 : Mem) (u2 : Int32) (H : Heap) (locs : List Loc) (ls : Array Slot), F_X2_addBeats_l2 ka F_X2_addBeats_x2 n2 Z3 u2 = some (Zo, ro) → va_P (dC, dI) vwCl (bw q aa Z3) H → va_D A (bw q aa Z3) → va_S A s.heap H locs → lv_has ls 6 [(3, .int u2), (0, .ref (aa 6)), (1, .ref (aa 1)), (2, .ref (aa (39 + ka)))] → W p l e (headSpec wsX2_addBeats ({ frames := 3, cells := 0, slots := 0, locals := 62 } : Room)).room s m args below meth c H locs 0 0 Q (F0 m 2 ls []) := by
    intro n2
    induction n2 with
    | zero =>
      intro Z3 u2 H locs ls hF
      rw [F_X2_addBeats_l2] at hF
      cases hF
    | succ n2 IH2 =>
      intro Z3 u2 H locs ls hF hP hD hS hl
      rw [F_X2_addBeats_l2] at hF
      refine lv_iload_n hx hb dX2_addBeats_2 rfl (lv_at hl 0 rfl) ?_
      refine lv_aload_n hx hb dX2_addBeats_3 rfl (lv_at hl 3 rfl) ?_
      refine va_get (D := (dC, dI)) (ci := 5) (v := .int (Z3.1 (39 + ka) 5)) (C := RX3) (T := TX3) (N := 7) hx hb hts hinX3 hown hK hP (39 + ka) (bw_at (i := 39 + ka) (by omega) (bk_stk hka _ _)) rfl 5 (by decide) (hts (.fieldLink RX2 77 "BallotLoom$Stack" "length" "I") (by decide +kernel)) (fun _ h9 => h9) rfl dX2_addBeats_4 ?_
      refine lv_topi (fun y4 ey4 => ?_)
      have hF := bv_at ey4 hF
      refine lv_icmp_ge (tgt := 79) hx hb dX2_addBeats_7 (by decide) (fun hc5 => ?_) (fun hc5 => ?_)
      · have hF := br_pos hc5 hF
        exact Jx2 Z3 _ _ _ hF hP hD hS (lv_sub hl [] rfl)
      · have hF := br_neg hc5 hF
        refine lv_aload_n hx hb dX2_addBeats_10 rfl (lv_at hl 3 rfl) ?_
        refine va_get (D := (dC, dI)) (ci := 5) (v := .ref (aa (64 + ka))) (C := RX3) (T := TX3) (N := 7) hx hb hts hinX3 hown hK hP (39 + ka) (bw_at (i := 39 + ka) (by omega) (bk_stk hka _ _)) rfl 4 (by decide) (hts (.fieldLink RX2 80 "BallotLoom$Stack" "list" "[I") (by decide +kernel)) (fun _ h9 => h9) rfl dX2_addBeats_11 ?_
        refine lv_iload_n hx hb dX2_addBeats_14 rfl (lv_at hl 0 rfl) ?_
        obtain ⟨hg6, hF⟩ := gd_some hF
        refine va_iald hx hb hK hP (64 + ka) 0 (at_i (by omega) (bk_lst hka)) rfl hg6 dX2_addBeats_15 ?_
        refine lv_topi (fun y7 ey7 => ?_)
        have hF := bv_at ey7 hF
        refine lv_istore (lv' := [(4, .int y7), (3, .int u2), (0, .ref (aa 6)), (1, .ref (aa 1)), (2, .ref (aa (39 + ka)))]) hx hb dX2_addBeats_16 hl (by decide) rfl (fun ls hl => ?_)
        refine lv_iconst (v := 0) hx hb dX2_addBeats_18 (by decide) ?_
        refine lv_istore (lv' := [(5, .int 0), (4, .int y7), (3, .int u2), (0, .ref (aa 6)), (1, .ref (aa 1)), (2, .ref (aa (39 + ka)))]) hx hb dX2_addBeats_19 hl (by decide) rfl (fun ls hl => ?_)
        have Jx21 : ∀ (Z8 : Mem) (H : Heap) (locs : List Loc) (ls : Array Slot), (F_X2_addBeats_x21 u2 (F_X2_addBeats_l2 ka F_X2_addBeats_x2 n2)) Z8 = some (Zo, ro) → va_P (dC, dI) vwCl (bw q aa Z8) H → va_D A (bw q aa Z8) → va_S A s.heap H locs → lv_has ls 6 [(3, .int u2), (0, .ref (aa 6)), (1, .ref (aa 1)), (2, .ref (aa (39 + ka)))] → W p l e (headSpec wsX2_addBeats ({ frames := 3, cells := 0, slots := 0, locals := 62 } : Room)).room s m args below meth c H locs 0 0 Q (F0 m 73 ls []) := by
          intro Z8 H locs ls hF hP hD hS hl
          unfold F_X2_addBeats_x21 at hF
          refine lv_iinc (k := 0) (v := (u2 + (1 : Int32))) (lv' := [(3, .int (u2 + (1 : Int32))), (0, .ref (aa 6)), (1, .ref (aa 1)), (2, .ref (aa (39 + ka)))]) hx hb dX2_addBeats_73 hl rfl (ii_ _ _ _ (by decide)) (by decide) rfl (fun ls hl => ?_)
          refine lv_goto (tgt := 2) hx hb dX2_addBeats_76 (by decide) ?_
          exact IH2 Z8 (u2 + (1 : Int32)) _ _ _ hF hP hD hS (lv_sub hl [0, 1, 2, 3] rfl)
        have L21 : ∀ (n21 : Nat) (Z10 : Mem) (u9 : Int32) (H : Heap) (locs : List Loc) (ls : Array Slot), F_X2_addBeats_l21 ka u2 y7 (F_X2_addBeats_x21 u2 (F_X2_addBeats_l2 ka F_X2_addBeats_x2 n2)) n21 Z10 u9 = some (Zo, ro) → va_P (dC, dI) vwCl (bw q aa Z10) H → va_D A (bw q aa Z10) → va_S A s.heap H locs → lv_has ls 6 [(5, .int u9), (4, .int y7), (3, .int u2), (0, .ref (aa 6)), (1, .ref (aa 1)), (2, .ref (aa (39 + ka)))] → W p l e (headSpec wsX2_addBeats ({ frames := 3, cells := 0, slots := 0, locals := 62 } : Room)).room s m args below meth c H locs 0 0 Q (F0 m 21 ls []) := by
          intro n21
          induction n21 with
          | zero =>
            intro Z10 u9 H locs ls hF
            rw [F_X2_addBeats_l21] at hF
            cases hF
          | succ n21 IH21 =>
            intro Z10 u9 H locs ls hF hP hD hS hl
            rw [F_X2_addBeats_l21] at hF
            refine lv_iload hx hb dX2_addBeats_21 (lv_at hl 0 rfl) ?_
            refine lv_aload_n hx hb dX2_addBeats_23 rfl (lv_at hl 4 rfl) ?_
            refine va_get (D := (dC, dI)) (ci := 2) (v := .int (Z10.1 1 2)) (C := RX0) (T := TX0) (N := 11) hx hb hts hinX0 hown hK hP 1 (bw_at (i := 1) (by decide) rfl) rfl 2 (by decide) (hts (.fieldLink RX2 86 "BallotLoom$Box" "candidates" "I") (by decide +kernel)) (fun _ h9 => h9) rfl dX2_addBeats_24 ?_
            refine lv_topi (fun y11 ey11 => ?_)
            have hF := bv_at ey11 hF
            refine lv_icmp_ge (tgt := 73) hx hb dX2_addBeats_27 (by decide) (fun hc12 => ?_) (fun hc12 => ?_)
            · have hF := br_pos hc12 hF
              exact Jx21 Z10 _ _ _ hF hP hD hS (lv_sub hl [2, 3, 4, 5] rfl)
            · have hF := br_neg hc12 hF
              refine lv_aload_n hx hb dX2_addBeats_30 rfl (lv_at hl 4 rfl) ?_
              refine va_get (D := (dC, dI)) (ci := 2) (v := .ref (aa 3)) (C := RX0) (T := TX0) (N := 11) hx hb hts hinX0 hown hK hP 1 (bw_at (i := 1) (by decide) rfl) rfl 1 (by decide) (hts (.fieldLink RX2 89 "BallotLoom$Box" "stands" "[Z") (by decide +kernel)) (fun _ h9 => h9) rfl dX2_addBeats_31 ?_
              refine lv_iload hx hb dX2_addBeats_34 (lv_at hl 0 rfl) ?_
              obtain ⟨hg13, hF⟩ := gd_some hF
              refine va_zald hx hb hK hP 3 1 (at_i (by decide) (fun _ _ => rfl)) rfl hg13 dX2_addBeats_36 ?_
              refine lv_topi (fun y14 ey14 => ?_)
              have hF := bv_at ey14 hF
              refine lv_if_eq (tgt := 67) hx hb dX2_addBeats_37 (by decide) (fun hc15 => ?_) (fun hc15 => ?_)
              · have hF := br_pos hc15 hF
                refine lv_iinc (k := 0) (v := (u9 + (1 : Int32))) (lv' := [(5, .int (u9 + (1 : Int32))), (4, .int y7), (3, .int u2), (0, .ref (aa 6)), (1, .ref (aa 1)), (2, .ref (aa (39 + ka)))]) hx hb dX2_addBeats_67 hl rfl (ii_ _ _ _ (by decide)) (by decide) rfl (fun ls hl => ?_)
                refine lv_goto (tgt := 21) hx hb dX2_addBeats_70 (by decide) ?_
                exact IH21 Z10 (u9 + (1 : Int32)) _ _ _ hF hP hD hS (lv_sub hl [0, 1, 2, 3, 4, 5] rfl)
              · have hF := br_neg hc15 hF
                refine lv_aload_n hx hb dX2_addBeats_40 rfl (lv_at hl 5 rfl) ?_
                refine lv_iload hx hb dX2_addBeats_41 (lv_at hl 0 rfl) ?_
                obtain ⟨r17, hC16, hF⟩ := calp_some hF
                have hFc := b_free (ws := bw q aa Z10) hD hS hA
                refine va_calli (va_runV (As := [.int u9]) (rest := []) ⟨hx, hb, hml, hown, hts⟩ (c_X3_placeOf l dC dI q aa Z10 ka u9 hka _ _  hC16) (cwV 1 hts gX2_addBeats_X3_placeOf rfl rfl rfl (by decide +kernel) ⟨Nat.le_of_ble_eq_true rfl, Nat.le_of_ble_eq_true rfl⟩) ⟨pr_blind, va_recv hK hP (ci := 5) (q0 := (39 + ka)) rfl (bw_at (i := 39 + ka) (by omega) (bk_stk hka _ _)), fun U hU hW => ⟨rfl, pr_mk hU hW hP hK hD⟩⟩ rfl rfl hl.1 rfl (lv_room (Nat.le_of_ble_eq_true rfl)) dX2_addBeats_43 ⟨Nat.le_of_ble_eq_true rfl, Nat.le_of_ble_eq_true rfl⟩) hS (fun x _ h => hFc x h) hFc (fun rr18 u t H1 locs ht hvm hw hB hz1 hk1 hS => ?_)
                obtain ⟨hP, hK1, hD1⟩ := hB
                rw [ht] at hP
                have hD := hD1.weaken (fun _ q9 _ h9 => hFc q9.1 h9)
                clear hFc hD1 hK1 hvm hz1 hk1
                generalize H1 = H at hP hS ⊢
                refine W.widen (k := 0) (n := 0) (Nat.le_refl _) (Nat.le_refl _) ?_
                obtain rfl : rr18 = r17 := hw
                refine lv_iload_n hx hb dX2_addBeats_46 rfl (lv_at hl 2 rfl) ?_
                refine lv_icmp_le (tgt := 67) hx hb dX2_addBeats_47 (by decide) (fun hc19 => ?_) (fun hc19 => ?_)
                · have hF := br_pos hc19 hF
                  refine lv_iinc (k := 0) (v := (u9 + (1 : Int32))) (lv' := [(5, .int (u9 + (1 : Int32))), (4, .int y7), (3, .int u2), (0, .ref (aa 6)), (1, .ref (aa 1)), (2, .ref (aa (39 + ka)))]) hx hb dX2_addBeats_67 hl rfl (ii_ _ _ _ (by decide)) (by decide) rfl (fun ls hl => ?_)
                  refine lv_goto (tgt := 21) hx hb dX2_addBeats_70 (by decide) ?_
                  exact IH21 Z10 (u9 + (1 : Int32)) _ _ _ hF hP hD hS (lv_sub hl [0, 1, 2, 3, 4, 5] rfl)
                · have hF := br_neg hc19 hF
                  refine lv_aload_n hx hb dX2_addBeats_50 rfl (lv_at hl 3 rfl) ?_
                  refine va_get (D := (dC, dI)) (ci := 4) (v := .ref (aa 9)) (C := RX2) (T := TX2) (N := 7) hx hb hts hinX2 hown hK hP 6 (bw_at (i := 6) (by decide) rfl) rfl 2 (by decide) (hts (.fieldLink RX2 21 "BallotLoom$Poll" "beats" "[[I") (by decide +kernel)) (fun _ h9 => h9) rfl dX2_addBeats_51 ?_
                  refine lv_iload hx hb dX2_addBeats_54 (lv_at hl 1 rfl) ?_
                  obtain ⟨hg20, hF⟩ := gd_some hF
                  have hk21 : ix y7 < 6 := in_lt hg20 (by decide)
                  refine bq_ald (v := (aa (14 + (ix y7)))) (hty := rfl) hx hb hK hP 9 4 (at_q (by decide) (fun _ _ => rfl)) rfl hg20 (if_pos (in_lt hg20 (Nat.le_refl _))) dX2_addBeats_56 ?_
                  refine lv_iload hx hb dX2_addBeats_57 (lv_at hl 0 rfl) ?_
                  refine lv_dup2_11 hx hb dX2_addBeats_59 rfl rfl ?_
                  refine va_iald hx hb hK hP (14 + (ix y7)) 0 (at_i (by omega) (bk_row (by decide) hk21)) rfl hg13 dX2_addBeats_60 ?_
                  refine lv_topi (fun y22 ey22 => ?_)
                  have hF := bv_at ey22 hF
                  refine lv_aload_n hx hb dX2_addBeats_61 rfl (lv_at hl 5 rfl) ?_
                  refine va_get (D := (dC, dI)) (ci := 5) (v := .int (Z10.1 (39 + ka) 2)) (C := RX3) (T := TX3) (N := 7) hx hb hts hinX3 hown hK hP (39 + ka) (bw_at (i := 39 + ka) (by omega) (bk_stk hka _ _)) rfl 2 (by decide) (hts (.fieldLink RX2 83 "BallotLoom$Stack" "count" "I") (by decide +kernel)) (fun _ h9 => h9) rfl dX2_addBeats_62 ?_
                  refine lv_topi (fun y23 ey23 => ?_)
                  have hF := bv_at ey23 hF
                  refine lv_iadd hx hb dX2_addBeats_65 ?_
                  refine lv_topi (fun y24 ey24 => ?_)
                  have hF := bv_at ey24 hF
                  obtain ⟨Z25, eZ25, hF⟩ := bv_some hF
                  refine va_iast hx hb hK hP hD hS (14 + (ix y7)) 0 (at_i (by omega) (bk_row (by decide) hk21)) rfl hg13 dX2_addBeats_66 (fun H locs hP hD hS => ?_)
                  have eW := wz_i (q := q) (aa := aa) (i := (14 + (ix y7))) (bk_row (by decide) hk21) eZ25
                  have hP : va_P (dC, dI) vwCl (bw q aa Z25) H := eW ▸ hP
                  have hD : va_D A (bw q aa Z25) := eW ▸ hD
                  clear eW
                  refine lv_iinc (k := 0) (v := (u9 + (1 : Int32))) (lv' := [(5, .int (u9 + (1 : Int32))), (4, .int y7), (3, .int u2), (0, .ref (aa 6)), (1, .ref (aa 1)), (2, .ref (aa (39 + ka)))]) hx hb dX2_addBeats_67 hl rfl (ii_ _ _ _ (by decide)) (by decide) rfl (fun ls hl => ?_)
                  refine lv_goto (tgt := 21) hx hb dX2_addBeats_70 (by decide) ?_
                  exact IH21 Z25 (u9 + (1 : Int32)) _ _ _ hF hP hD hS (lv_sub hl [0, 1, 2, 3, 4, 5] rfl)
        exact L21 100 Z3 (0 : Int32) _ _ _ hF hP hD hS (lv_sub hl [0, 1, 2, 3, 4, 5] rfl)
  exact L2 100 Z (0 : Int32) _ _ _ hF hP hD hS (lv_sub hl [0, 1, 2, 3] rfl)

noncomputable def F_X2_findPaths_x64 (Z2 : Mem) : Option (Mem × Unit) :=
  some (Z2, ())

noncomputable def F_X2_findPaths_x72 (u3 : Int32) (B_64 : Mem → Int32 → Option (Mem × Unit)) (Z6 : Mem) : Option (Mem × Unit) :=
  B_64 Z6 (u3 + (1 : Int32))

noncomputable def F_X2_findPaths_x80 (u7 : Int32) (B_72 : Mem → Int32 → Option (Mem × Unit)) (Z10 : Mem) : Option (Mem × Unit) :=
  B_72 Z10 (u7 + (1 : Int32))

noncomputable def F_X2_findPaths_l80 (u3 : Int32) (u7 : Int32) (K_80 : Mem → Option (Mem × Unit)) : Nat → Mem → Int32 → Option (Mem × Unit)
  | 0, _, _ => none
  | n80 + 1, Z12, u11 =>
  br ((6 : Int32) ≤ u11) (K_80 Z12) (gd (¬ (u7 < 0 ∨ 6 ≤ ix u7)) <| gd (¬ (u3 < 0 ∨ 6 ≤ ix u3)) <| bv (Z12.1 (20 + (ix u7)) (ix u3)) fun y17 => gd (¬ (u11 < 0 ∨ 6 ≤ ix u11)) <| bv (Z12.1 (20 + (ix u3)) (ix u11)) fun y20 => bv (if y20 < y17 then y20 else y17) fun y21 => bv (Z12.1 (20 + (ix u7)) (ix u11)) fun y24 => bv (if y24 < y21 then y21 else y24) fun y25 => bv (si Z12 (20 + (ix u7)) (ix u11) y25) fun Z26 => (F_X2_findPaths_l80 u3 u7 K_80 n80) Z26 (u11 + (1 : Int32)))

noncomputable def F_X2_findPaths_l72 (u3 : Int32) (K_72 : Mem → Option (Mem × Unit)) : Nat → Mem → Int32 → Option (Mem × Unit)
  | 0, _, _ => none
  | n72 + 1, Z8, u7 =>
  br ((6 : Int32) ≤ u7) (K_72 Z8) (F_X2_findPaths_l80 u3 u7 (F_X2_findPaths_x80 u7 (F_X2_findPaths_l72 u3 K_72 n72)) 100 Z8 (0 : Int32))

noncomputable def F_X2_findPaths_l64 (K_64 : Mem → Option (Mem × Unit)) : Nat → Mem → Int32 → Option (Mem × Unit)
  | 0, _, _ => none
  | n64 + 1, Z4, u3 =>
  br ((6 : Int32) ≤ u3) (K_64 Z4) (F_X2_findPaths_l72 u3 (F_X2_findPaths_x72 u3 (F_X2_findPaths_l64 K_64 n64)) 100 Z4 (0 : Int32))

noncomputable def F_X2_findPaths_x2 (Z1 : Mem) : Option (Mem × Unit) :=
  F_X2_findPaths_l64 F_X2_findPaths_x64 100 Z1 (0 : Int32)

noncomputable def F_X2_findPaths_x10 (u27 : Int32) (B_2 : Mem → Int32 → Option (Mem × Unit)) (Z30 : Mem) : Option (Mem × Unit) :=
  B_2 Z30 (u27 + (1 : Int32))

noncomputable def F_X2_findPaths_j49 (u27 : Int32) (Z32 : Mem) (u31 : Int32) (B_10 : Mem → Int32 → Option (Mem × Unit)) (v41 : Int32) : Option (Mem × Unit) :=
  bv (si Z32 (20 + (ix u27)) (ix u31) v41) fun Z42 => B_10 Z42 (u31 + (1 : Int32))

noncomputable def F_X2_findPaths_l10 (u27 : Int32) (K_10 : Mem → Option (Mem × Unit)) : Nat → Mem → Int32 → Option (Mem × Unit)
  | 0, _, _ => none
  | n10 + 1, Z32, u31 =>
  br ((6 : Int32) ≤ u31) (K_10 Z32) (gd (¬ (u27 < 0 ∨ 6 ≤ ix u27)) <| gd (¬ (u31 < 0 ∨ 6 ≤ ix u31)) <| bv (Z32.1 (14 + (ix u27)) (ix u31)) fun y37 => bv (Z32.1 (14 + (ix u31)) (ix u27)) fun y40 => br (y37 ≤ y40) ((F_X2_findPaths_j49 u27 Z32 u31 (F_X2_findPaths_l10 u27 K_10 n10)) (0 : Int32)) ((F_X2_findPaths_j49 u27 Z32 u31 (F_X2_findPaths_l10 u27 K_10 n10)) y37))

noncomputable def F_X2_findPaths_l2 (K_2 : Mem → Option (Mem × Unit)) : Nat → Mem → Int32 → Option (Mem × Unit)
  | 0, _, _ => none
  | n2 + 1, Z28, u27 =>
  br ((6 : Int32) ≤ u27) (K_2 Z28) (F_X2_findPaths_l10 u27 (F_X2_findPaths_x10 u27 (F_X2_findPaths_l2 K_2 n2)) 100 Z28 (0 : Int32))

noncomputable def F_X2_findPaths (Z : Mem) : Option (Mem × Unit) :=
  F_X2_findPaths_l2 F_X2_findPaths_x2 100 Z (0 : Int32)

set_option maxHeartbeats 4000000 in
set_option maxRecDepth 100000 in
theorem c_X2_findPaths (l : Launch) (dC : Nat → ClassId) (dI : Nat → Nat → Nat) (q : Nat → ClassId) (aa : Nat → Nat) (Z : Mem)   (sz : Nat) (Zo : Mem) (ro : Unit) (hF : F_X2_findPaths Z  = some (Zo, ro)) : Met l yX2_findPaths wsX2_findPaths ({ frames := 2, cells := 0, slots := 0, locals := 40 }) (va_Pc [.ref (aa 6)] (pr_ dC dI (bw q aa Z) (bty q) sz)) (va_Qv (fun (_ : Unit) => True) (fun (_ : Unit) t => po_ dC dI (bw q aa Zo) (bty q) (va_A (bw q aa Z) sz) t) (va_A (bw q aa Z) sz)) 0 0 (va_A (bw q aa Z) sz) := by
  refine Met.ofW (cc := cX2_findPaths) (maxL := 5) (ret := none) (by decide) rfl ?_
  intro p e s m args below meth c s₁ B hml hv
  obtain ⟨hargs, hsz, hP, hK, hD0⟩ := hv
  have hx := B.exec
  have hb := B.bytes
  have hr := B.returns
  have hts := atoms_spec (ws := wsX2_findPaths) B.pre
  have hown : s.vm.findClass RX2 = some m.cls := findClass_of_methodNamed B.named
  have hlocks := B.notSynchronized
  subst hsz
  have hD := hD0.self (sz := s.heap.size)
  generalize hAe : va_A (bw q aa Z) s.heap.size = A at hD ⊢
  have hA : ∀ x : Nat, s.heap.size ≤ x → A x := fun x h => by rw [← hAe]; exact Or.inr h
  have hS : va_S A s.heap s.heap [] := va_S.rf
  have hinX2 : ∀ w ∈ u_ws RX2 TX2 7, w ∈ wsX2_findPaths := by decide +kernel
  have hl := lv_entry ([.ref (aa 6)]) (n := 5) (Nat.le_of_ble_eq_true rfl)
  refine w_ent hargs ?_
  rw [lg_entry_eq]
  generalize (lg_sl ([.ref (aa 6)]) ++ List.replicate (5 - (lg_sl ([.ref (aa 6)])).length) Slot.unset).toArray = ls at hl ⊢
  have hl : lv_has ls 5 [(0, .ref (aa 6))] := hl
  unfold F_X2_findPaths at hF
  refine w_go (fun Q hQ => ?_)
  refine lv_iconst (v := 0) hx hb dX2_findPaths_0 (by decide) ?_
  refine lv_istore_n (lv' := [(1, .int 0), (0, .ref (aa 6))]) hx hb dX2_findPaths_1 rfl hl (by decide) rfl (fun ls hl => ?_)
  have Jx2 : ∀ (Z1 : Mem) (H : Heap) (locs : List Loc) (ls : Array Slot), F_X2_findPaths_x2 Z1 = some (Zo, ro) → va_P (dC, dI) vwCl (bw q aa Z1) H → va_D A (bw q aa Z1) → va_S A s.heap H locs → lv_has ls 5 [(0, .ref (aa 6))] → W p l e (headSpec wsX2_findPaths ({ frames := 2, cells := 0, slots := 0, locals := 40 } : Room)).room s m args below meth c H locs 0 0 Q (F0 m 62 ls []) := by
    intro Z1 H locs ls hF hP hD hS hl
    unfold F_X2_findPaths_x2 at hF
    refine lv_iconst (v := 0) hx hb dX2_findPaths_62 (by decide) ?_
    refine lv_istore_n (lv' := [(1, .int 0), (0, .ref (aa 6))]) hx hb dX2_findPaths_63 rfl hl (by decide) rfl (fun ls hl => ?_)
    have Jx64 : ∀ (Z2 : Mem) (H : Heap) (locs : List Loc) (ls : Array Slot), F_X2_findPaths_x64 Z2 = some (Zo, ro) → va_P (dC, dI) vwCl (bw q aa Z2) H → va_D A (bw q aa Z2) → va_S A s.heap H locs → lv_has ls 5 [] → W p l e (headSpec wsX2_findPaths ({ frames := 2, cells := 0, slots := 0, locals := 40 } : Room)).room s m args below meth c H locs 0 0 Q (F0 m 146 ls []) := by
      intro Z2 H locs ls hF hP hD hS hl
      unfold F_X2_findPaths_x64 at hF
      obtain ⟨e8, e9⟩ := some2 hF
      rw [← e8] at hP hD
      subst hQ
      exact W.vret hx hb hr (fun t ht hW => ⟨⟨(), rfl, trivial, po_mk ht hW hP hK hD⟩, hS.F ht⟩) hS.2.2 dX2_findPaths_146
    have L64 : ∀ (n64 : Nat) (Z4 : Mem) (u3 : Int32) (H : Heap) (locs : List Loc) (ls : Array Slot), F_X2_findPaths_l64 F_X2_findPaths_x64 n64 Z4 u3 = some (Zo, ro) → va_P (dC, dI) vwCl (bw q aa Z4) H → va_D A (bw q aa Z4) → va_S A s.heap H locs → lv_has ls 5 [(1, .int u3), (0, .ref (aa 6))] → W p l e (headSpec wsX2_findPaths ({ frames := 2, cells := 0, slots := 0, locals := 40 } : Room)).room s m args below meth c H locs 0 0 Q (F0 m 64 ls []) := by
      intro n64
      induction n64 with
      | zero =>
        intro Z4 u3 H locs ls hF
        rw [F_X2_findPaths_l64] at hF
        cases hF
      | succ n64 IH64 =>
        intro Z4 u3 H locs ls hF hP hD hS hl
        rw [F_X2_findPaths_l64] at hF
        refine lv_iload_n hx hb dX2_findPaths_64 rfl (lv_at hl 0 rfl) ?_
        refine lv_bipush (v := 6) hx hb dX2_findPaths_65 (by decide) ?_
        refine lv_icmp_ge (tgt := 146) hx hb dX2_findPaths_67 (by decide) (fun hc5 => ?_) (fun hc5 => ?_)
        · have hF := br_pos hc5 hF
          exact Jx64 Z4 _ _ _ hF hP hD hS (lv_sub hl [] rfl)
        · have hF := br_neg hc5 hF
          refine lv_iconst (v := 0) hx hb dX2_findPaths_70 (by decide) ?_
          refine lv_istore_n (lv' := [(2, .int 0), (1, .int u3), (0, .ref (aa 6))]) hx hb dX2_findPaths_71 rfl hl (by decide) rfl (fun ls hl => ?_)
          have Jx72 : ∀ (Z6 : Mem) (H : Heap) (locs : List Loc) (ls : Array Slot), (F_X2_findPaths_x72 u3 (F_X2_findPaths_l64 F_X2_findPaths_x64 n64)) Z6 = some (Zo, ro) → va_P (dC, dI) vwCl (bw q aa Z6) H → va_D A (bw q aa Z6) → va_S A s.heap H locs → lv_has ls 5 [(1, .int u3), (0, .ref (aa 6))] → W p l e (headSpec wsX2_findPaths ({ frames := 2, cells := 0, slots := 0, locals := 40 } : Room)).room s m args below meth c H locs 0 0 Q (F0 m 140 ls []) := by
            intro Z6 H locs ls hF hP hD hS hl
            unfold F_X2_findPaths_x72 at hF
            refine lv_iinc (k := 0) (v := (u3 + (1 : Int32))) (lv' := [(1, .int (u3 + (1 : Int32))), (0, .ref (aa 6))]) hx hb dX2_findPaths_140 hl rfl (ii_ _ _ _ (by decide)) (by decide) rfl (fun ls hl => ?_)
            refine lv_goto (tgt := 64) hx hb dX2_findPaths_143 (by decide) ?_
            exact IH64 Z6 (u3 + (1 : Int32)) _ _ _ hF hP hD hS (lv_sub hl [0, 1] rfl)
          have L72 : ∀ (n72 : Nat) (Z8 : Mem) (u7 : Int32) (H : Heap) (locs : List Loc) (ls : Array Slot), F_X2_findPaths_l72 u3 (F_X2_findPaths_x72 u3 (F_X2_findPaths_l64 F_X2_findPaths_x64 n64)) n72 Z8 u7 = some (Zo, ro) → va_P (dC, dI) vwCl (bw q aa Z8) H → va_D A (bw q aa Z8) → va_S A s.heap H locs → lv_has ls 5 [(2, .int u7), (1, .int u3), (0, .ref (aa 6))] → W p l e (headSpec wsX2_findPaths ({ frames := 2, cells := 0, slots := 0, locals := 40 } : Room)).room s m args below meth c H locs 0 0 Q (F0 m 72 ls []) := by
            intro n72
            induction n72 with
            | zero =>
              intro Z8 u7 H locs ls hF
              rw [F_X2_findPaths_l72] at hF
              cases hF
            | succ n72 IH72 =>
              intro Z8 u7 H locs ls hF hP hD hS hl
              rw [F_X2_findPaths_l72] at hF
              refine lv_iload_n hx hb dX2_findPaths_72 rfl (lv_at hl 0 rfl) ?_
              refine lv_bipush (v := 6) hx hb dX2_findPaths_73 (by decide) ?_
              refine lv_icmp_ge (tgt := 140) hx hb dX2_findPaths_75 (by decide) (fun hc9 => ?_) (fun hc9 => ?_)
              · have hF := br_pos hc9 hF
                exact Jx72 Z8 _ _ _ hF hP hD hS (lv_sub hl [1, 2] rfl)
              · have hF := br_neg hc9 hF
                refine lv_iconst (v := 0) hx hb dX2_findPaths_78 (by decide) ?_
                refine lv_istore_n (lv' := [(3, .int 0), (2, .int u7), (1, .int u3), (0, .ref (aa 6))]) hx hb dX2_findPaths_79 rfl hl (by decide) rfl (fun ls hl => ?_)
                have Jx80 : ∀ (Z10 : Mem) (H : Heap) (locs : List Loc) (ls : Array Slot), (F_X2_findPaths_x80 u7 (F_X2_findPaths_l72 u3 (F_X2_findPaths_x72 u3 (F_X2_findPaths_l64 F_X2_findPaths_x64 n64)) n72)) Z10 = some (Zo, ro) → va_P (dC, dI) vwCl (bw q aa Z10) H → va_D A (bw q aa Z10) → va_S A s.heap H locs → lv_has ls 5 [(2, .int u7), (1, .int u3), (0, .ref (aa 6))] → W p l e (headSpec wsX2_findPaths ({ frames := 2, cells := 0, slots := 0, locals := 40 } : Room)).room s m args below meth c H locs 0 0 Q (F0 m 134 ls []) := by
                  intro Z10 H locs ls hF hP hD hS hl
                  unfold F_X2_findPaths_x80 at hF
                  refine lv_iinc (k := 0) (v := (u7 + (1 : Int32))) (lv' := [(2, .int (u7 + (1 : Int32))), (1, .int u3), (0, .ref (aa 6))]) hx hb dX2_findPaths_134 hl rfl (ii_ _ _ _ (by decide)) (by decide) rfl (fun ls hl => ?_)
                  refine lv_goto (tgt := 72) hx hb dX2_findPaths_137 (by decide) ?_
                  exact IH72 Z10 (u7 + (1 : Int32)) _ _ _ hF hP hD hS (lv_sub hl [0, 1, 2] rfl)
                have L80 : ∀ (n80 : Nat) (Z12 : Mem) (u11 : Int32) (H : Heap) (locs : List Loc) (ls : Array Slot), F_X2_findPaths_l80 u3 u7 (F_X2_findPaths_x80 u7 (F_X2_findPaths_l72 u3 (F_X2_findPaths_x72 u3 (F_X2_findPaths_l64 F_X2_findPaths_x64 n64)) n72)) n80 Z12 u11 = some (Zo, ro) → va_P (dC, dI) vwCl (bw q aa Z12) H → va_D A (bw q aa Z12) → va_S A s.heap H locs → lv_has ls 5 [(3, .int u11), (2, .int u7), (1, .int u3), (0, .ref (aa 6))] → W p l e (headSpec wsX2_findPaths ({ frames := 2, cells := 0, slots := 0, locals := 40 } : Room)).room s m args below meth c H locs 0 0 Q (F0 m 80 ls []) := by
                  intro n80
                  induction n80 with
                  | zero =>
                    intro Z12 u11 H locs ls hF
                    rw [F_X2_findPaths_l80] at hF
                    cases hF
                  | succ n80 IH80 =>
                    intro Z12 u11 H locs ls hF hP hD hS hl
                    rw [F_X2_findPaths_l80] at hF
                    refine lv_iload_n hx hb dX2_findPaths_80 rfl (lv_at hl 0 rfl) ?_
                    refine lv_bipush (v := 6) hx hb dX2_findPaths_81 (by decide) ?_
                    refine lv_icmp_ge (tgt := 134) hx hb dX2_findPaths_83 (by decide) (fun hc13 => ?_) (fun hc13 => ?_)
                    · have hF := br_pos hc13 hF
                      exact Jx80 Z12 _ _ _ hF hP hD hS (lv_sub hl [1, 2, 3] rfl)
                    · have hF := br_neg hc13 hF
                      refine lv_aload_n hx hb dX2_findPaths_86 rfl (lv_at hl 3 rfl) ?_
                      refine va_get (D := (dC, dI)) (ci := 4) (v := .ref (aa 10)) (C := RX2) (T := TX2) (N := 7) hx hb hts hinX2 hown hK hP 6 (bw_at (i := 6) (by decide) rfl) rfl 3 (by decide) (hts (.fieldLink RX2 24 "BallotLoom$Poll" "paths" "[[I") (by decide +kernel)) (fun _ h9 => h9) rfl dX2_findPaths_87 ?_
                      refine lv_iload_n hx hb dX2_findPaths_90 rfl (lv_at hl 1 rfl) ?_
                      obtain ⟨hg14, hF⟩ := gd_some hF
                      have hk15 : ix u7 < 6 := in_lt hg14 (by decide)
                      refine bq_ald (v := (aa (20 + (ix u7)))) (hty := rfl) hx hb hK hP 10 4 (at_q (by decide) (fun _ _ => rfl)) rfl hg14 (if_pos (in_lt hg14 (Nat.le_refl _))) dX2_findPaths_91 ?_
                      refine lv_iload_n hx hb dX2_findPaths_92 rfl (lv_at hl 2 rfl) ?_
                      obtain ⟨hg16, hF⟩ := gd_some hF
                      refine va_iald hx hb hK hP (20 + (ix u7)) 0 (at_i (by omega) (bk_row (by decide) hk15)) rfl hg16 dX2_findPaths_93 ?_
                      refine lv_topi (fun y17 ey17 => ?_)
                      have hF := bv_at ey17 hF
                      refine lv_aload_n hx hb dX2_findPaths_94 rfl (lv_at hl 3 rfl) ?_
                      refine va_get (D := (dC, dI)) (ci := 4) (v := .ref (aa 10)) (C := RX2) (T := TX2) (N := 7) hx hb hts hinX2 hown hK hP 6 (bw_at (i := 6) (by decide) rfl) rfl 3 (by decide) (hts (.fieldLink RX2 24 "BallotLoom$Poll" "paths" "[[I") (by decide +kernel)) (fun _ h9 => h9) rfl dX2_findPaths_95 ?_
                      refine lv_iload_n hx hb dX2_findPaths_98 rfl (lv_at hl 2 rfl) ?_
                      have hk18 : ix u3 < 6 := in_lt hg16 (by decide)
                      refine bq_ald (v := (aa (20 + (ix u3)))) (hty := rfl) hx hb hK hP 10 4 (at_q (by decide) (fun _ _ => rfl)) rfl hg16 (if_pos (in_lt hg16 (Nat.le_refl _))) dX2_findPaths_99 ?_
                      refine lv_iload_n hx hb dX2_findPaths_100 rfl (lv_at hl 0 rfl) ?_
                      obtain ⟨hg19, hF⟩ := gd_some hF
                      refine va_iald hx hb hK hP (20 + (ix u3)) 0 (at_i (by omega) (bk_row (by decide) hk18)) rfl hg19 dX2_findPaths_101 ?_
                      refine lv_topi (fun y20 ey20 => ?_)
                      have hF := bv_at ey20 hF
                      refine va_mmin hx hb (by rw [hml]; exact hl.1.symm) hown (hts (.methodLink RX2 116 Lib.Math.min.name) (by decide +kernel)) (hts (.static Lib.Math.min.name) (by decide +kernel)) (hts (.initialized "java/lang/Math") (by decide +kernel)) (hts (.code Lib.Math.min.name Lib.Math.min.code 2 (some .int)) (by decide +kernel)) (Nat.le_of_ble_eq_true rfl) (Nat.le_of_ble_eq_true rfl) (Nat.le_of_ble_eq_true rfl) (Nat.le_of_ble_eq_true rfl) dX2_findPaths_102 ?_
                      refine lv_topi (fun y21 ey21 => ?_)
                      have hF := bv_at ey21 hF
                      refine lv_istore (lv' := [(4, .int y21), (3, .int u11), (2, .int u7), (1, .int u3), (0, .ref (aa 6))]) hx hb dX2_findPaths_105 hl (by decide) rfl (fun ls hl => ?_)
                      refine lv_aload_n hx hb dX2_findPaths_107 rfl (lv_at hl 4 rfl) ?_
                      refine va_get (D := (dC, dI)) (ci := 4) (v := .ref (aa 10)) (C := RX2) (T := TX2) (N := 7) hx hb hts hinX2 hown hK hP 6 (bw_at (i := 6) (by decide) rfl) rfl 3 (by decide) (hts (.fieldLink RX2 24 "BallotLoom$Poll" "paths" "[[I") (by decide +kernel)) (fun _ h9 => h9) rfl dX2_findPaths_108 ?_
                      refine lv_iload_n hx hb dX2_findPaths_111 rfl (lv_at hl 2 rfl) ?_
                      have hk22 : ix u7 < 6 := in_lt hg14 (by decide)
                      refine bq_ald (v := (aa (20 + (ix u7)))) (hty := rfl) hx hb hK hP 10 4 (at_q (by decide) (fun _ _ => rfl)) rfl hg14 (if_pos (in_lt hg14 (Nat.le_refl _))) dX2_findPaths_112 ?_
                      refine lv_iload_n hx hb dX2_findPaths_113 rfl (lv_at hl 1 rfl) ?_
                      refine lv_aload_n hx hb dX2_findPaths_114 rfl (lv_at hl 4 rfl) ?_
                      refine va_get (D := (dC, dI)) (ci := 4) (v := .ref (aa 10)) (C := RX2) (T := TX2) (N := 7) hx hb hts hinX2 hown hK hP 6 (bw_at (i := 6) (by decide) rfl) rfl 3 (by decide) (hts (.fieldLink RX2 24 "BallotLoom$Poll" "paths" "[[I") (by decide +kernel)) (fun _ h9 => h9) rfl dX2_findPaths_115 ?_
                      refine lv_iload_n hx hb dX2_findPaths_118 rfl (lv_at hl 2 rfl) ?_
                      have hk23 : ix u7 < 6 := in_lt hg14 (by decide)
                      refine bq_ald (v := (aa (20 + (ix u7)))) (hty := rfl) hx hb hK hP 10 4 (at_q (by decide) (fun _ _ => rfl)) rfl hg14 (if_pos (in_lt hg14 (Nat.le_refl _))) dX2_findPaths_119 ?_
                      refine lv_iload_n hx hb dX2_findPaths_120 rfl (lv_at hl 1 rfl) ?_
                      refine va_iald hx hb hK hP (20 + (ix u7)) 0 (at_i (by omega) (bk_row (by decide) hk23)) rfl hg19 dX2_findPaths_121 ?_
                      refine lv_topi (fun y24 ey24 => ?_)
                      have hF := bv_at ey24 hF
                      refine lv_iload hx hb dX2_findPaths_122 (lv_at hl 0 rfl) ?_
                      refine va_mmax hx hb (by rw [hml]; exact hl.1.symm) hown (hts (.methodLink RX2 122 Lib.Math.max.name) (by decide +kernel)) (hts (.static Lib.Math.max.name) (by decide +kernel)) (hts (.initialized "java/lang/Math") (by decide +kernel)) (hts (.code Lib.Math.max.name Lib.Math.max.code 2 (some .int)) (by decide +kernel)) (Nat.le_of_ble_eq_true rfl) (Nat.le_of_ble_eq_true rfl) (Nat.le_of_ble_eq_true rfl) (Nat.le_of_ble_eq_true rfl) dX2_findPaths_124 ?_
                      refine lv_topi (fun y25 ey25 => ?_)
                      have hF := bv_at ey25 hF
                      obtain ⟨Z26, eZ26, hF⟩ := bv_some hF
                      refine va_iast hx hb hK hP hD hS (20 + (ix u7)) 0 (at_i (by omega) (bk_row (by decide) hk22)) rfl hg19 dX2_findPaths_127 (fun H locs hP hD hS => ?_)
                      have eW := wz_i (q := q) (aa := aa) (i := (20 + (ix u7))) (bk_row (by decide) hk22) eZ26
                      have hP : va_P (dC, dI) vwCl (bw q aa Z26) H := eW ▸ hP
                      have hD : va_D A (bw q aa Z26) := eW ▸ hD
                      clear eW
                      refine lv_iinc (k := 1) (v := (u11 + (1 : Int32))) (lv' := [(3, .int (u11 + (1 : Int32))), (4, .int y21), (2, .int u7), (1, .int u3), (0, .ref (aa 6))]) hx hb dX2_findPaths_128 hl rfl (ii_ _ _ _ (by decide)) (by decide) rfl (fun ls hl => ?_)
                      refine lv_goto (tgt := 80) hx hb dX2_findPaths_131 (by decide) ?_
                      exact IH80 Z26 (u11 + (1 : Int32)) _ _ _ hF hP hD hS (lv_sub hl [0, 2, 3, 4] rfl)
                exact L80 100 Z8 (0 : Int32) _ _ _ hF hP hD hS (lv_sub hl [0, 1, 2, 3] rfl)
          exact L72 100 Z4 (0 : Int32) _ _ _ hF hP hD hS (lv_sub hl [0, 1, 2] rfl)
    exact L64 100 Z1 (0 : Int32) _ _ _ hF hP hD hS (lv_sub hl [0, 1] rfl)
  have L2 : ∀ (n2 : Nat) (Z28 : Mem) (u27 : Int32) (H : Heap) (locs : List Loc) (ls : Array Slot), F_X2_findPaths_l2 F_X2_findPaths_x2 n2 Z28 u27 = some (Zo, ro) → va_P (dC, dI) vwCl (bw q aa Z28) H → va_D A (bw q aa Z28) → va_S A s.heap H locs → lv_has ls 5 [(1, .int u27), (0, .ref (aa 6))] → W p l e (headSpec wsX2_findPaths ({ frames := 2, cells := 0, slots := 0, locals := 40 } : Room)).room s m args below meth c H locs 0 0 Q (F0 m 2 ls []) := by
    intro n2
    induction n2 with
    | zero =>
      intro Z28 u27 H locs ls hF
      rw [F_X2_findPaths_l2] at hF
      cases hF
    | succ n2 IH2 =>
      intro Z28 u27 H locs ls hF hP hD hS hl
      rw [F_X2_findPaths_l2] at hF
      refine lv_iload_n hx hb dX2_findPaths_2 rfl (lv_at hl 0 rfl) ?_
      refine lv_bipush (v := 6) hx hb dX2_findPaths_3 (by decide) ?_
      refine lv_icmp_ge (tgt := 62) hx hb dX2_findPaths_5 (by decide) (fun hc29 => ?_) (fun hc29 => ?_)
      · have hF := br_pos hc29 hF
        exact Jx2 Z28 _ _ _ hF hP hD hS (lv_sub hl [1] rfl)
      · have hF := br_neg hc29 hF
        refine lv_iconst (v := 0) hx hb dX2_findPaths_8 (by decide) ?_
        refine lv_istore_n (lv' := [(2, .int 0), (1, .int u27), (0, .ref (aa 6))]) hx hb dX2_findPaths_9 rfl hl (by decide) rfl (fun ls hl => ?_)
        have Jx10 : ∀ (Z30 : Mem) (H : Heap) (locs : List Loc) (ls : Array Slot), (F_X2_findPaths_x10 u27 (F_X2_findPaths_l2 F_X2_findPaths_x2 n2)) Z30 = some (Zo, ro) → va_P (dC, dI) vwCl (bw q aa Z30) H → va_D A (bw q aa Z30) → va_S A s.heap H locs → lv_has ls 5 [(1, .int u27), (0, .ref (aa 6))] → W p l e (headSpec wsX2_findPaths ({ frames := 2, cells := 0, slots := 0, locals := 40 } : Room)).room s m args below meth c H locs 0 0 Q (F0 m 56 ls []) := by
          intro Z30 H locs ls hF hP hD hS hl
          unfold F_X2_findPaths_x10 at hF
          refine lv_iinc (k := 0) (v := (u27 + (1 : Int32))) (lv' := [(1, .int (u27 + (1 : Int32))), (0, .ref (aa 6))]) hx hb dX2_findPaths_56 hl rfl (ii_ _ _ _ (by decide)) (by decide) rfl (fun ls hl => ?_)
          refine lv_goto (tgt := 2) hx hb dX2_findPaths_59 (by decide) ?_
          exact IH2 Z30 (u27 + (1 : Int32)) _ _ _ hF hP hD hS (lv_sub hl [0, 1] rfl)
        have L10 : ∀ (n10 : Nat) (Z32 : Mem) (u31 : Int32) (H : Heap) (locs : List Loc) (ls : Array Slot), F_X2_findPaths_l10 u27 (F_X2_findPaths_x10 u27 (F_X2_findPaths_l2 F_X2_findPaths_x2 n2)) n10 Z32 u31 = some (Zo, ro) → va_P (dC, dI) vwCl (bw q aa Z32) H → va_D A (bw q aa Z32) → va_S A s.heap H locs → lv_has ls 5 [(2, .int u31), (1, .int u27), (0, .ref (aa 6))] → W p l e (headSpec wsX2_findPaths ({ frames := 2, cells := 0, slots := 0, locals := 40 } : Room)).room s m args below meth c H locs 0 0 Q (F0 m 10 ls []) := by
          intro n10
          induction n10 with
          | zero =>
            intro Z32 u31 H locs ls hF
            rw [F_X2_findPaths_l10] at hF
            cases hF
          | succ n10 IH10 =>
            intro Z32 u31 H locs ls hF hP hD hS hl
            rw [F_X2_findPaths_l10] at hF
            refine lv_iload_n hx hb dX2_findPaths_10 rfl (lv_at hl 0 rfl) ?_
            refine lv_bipush (v := 6) hx hb dX2_findPaths_11 (by decide) ?_
            refine lv_icmp_ge (tgt := 56) hx hb dX2_findPaths_13 (by decide) (fun hc33 => ?_) (fun hc33 => ?_)
            · have hF := br_pos hc33 hF
              exact Jx10 Z32 _ _ _ hF hP hD hS (lv_sub hl [1, 2] rfl)
            · have hF := br_neg hc33 hF
              refine lv_aload_n hx hb dX2_findPaths_16 rfl (lv_at hl 2 rfl) ?_
              refine va_get (D := (dC, dI)) (ci := 4) (v := .ref (aa 9)) (C := RX2) (T := TX2) (N := 7) hx hb hts hinX2 hown hK hP 6 (bw_at (i := 6) (by decide) rfl) rfl 2 (by decide) (hts (.fieldLink RX2 21 "BallotLoom$Poll" "beats" "[[I") (by decide +kernel)) (fun _ h9 => h9) rfl dX2_findPaths_17 ?_
              refine lv_iload_n hx hb dX2_findPaths_20 rfl (lv_at hl 1 rfl) ?_
              obtain ⟨hg34, hF⟩ := gd_some hF
              have hk35 : ix u27 < 6 := in_lt hg34 (by decide)
              refine bq_ald (v := (aa (14 + (ix u27)))) (hty := rfl) hx hb hK hP 9 4 (at_q (by decide) (fun _ _ => rfl)) rfl hg34 (if_pos (in_lt hg34 (Nat.le_refl _))) dX2_findPaths_21 ?_
              refine lv_iload_n hx hb dX2_findPaths_22 rfl (lv_at hl 0 rfl) ?_
              obtain ⟨hg36, hF⟩ := gd_some hF
              refine va_iald hx hb hK hP (14 + (ix u27)) 0 (at_i (by omega) (bk_row (by decide) hk35)) rfl hg36 dX2_findPaths_23 ?_
              refine lv_topi (fun y37 ey37 => ?_)
              have hF := bv_at ey37 hF
              refine lv_istore_n (lv' := [(3, .int y37), (2, .int u31), (1, .int u27), (0, .ref (aa 6))]) hx hb dX2_findPaths_24 rfl hl (by decide) rfl (fun ls hl => ?_)
              refine lv_aload_n hx hb dX2_findPaths_25 rfl (lv_at hl 3 rfl) ?_
              refine va_get (D := (dC, dI)) (ci := 4) (v := .ref (aa 10)) (C := RX2) (T := TX2) (N := 7) hx hb hts hinX2 hown hK hP 6 (bw_at (i := 6) (by decide) rfl) rfl 3 (by decide) (hts (.fieldLink RX2 24 "BallotLoom$Poll" "paths" "[[I") (by decide +kernel)) (fun _ h9 => h9) rfl dX2_findPaths_26 ?_
              refine lv_iload_n hx hb dX2_findPaths_29 rfl (lv_at hl 2 rfl) ?_
              have hk38 : ix u27 < 6 := in_lt hg34 (by decide)
              refine bq_ald (v := (aa (20 + (ix u27)))) (hty := rfl) hx hb hK hP 10 4 (at_q (by decide) (fun _ _ => rfl)) rfl hg34 (if_pos (in_lt hg34 (Nat.le_refl _))) dX2_findPaths_30 ?_
              refine lv_iload_n hx hb dX2_findPaths_31 rfl (lv_at hl 1 rfl) ?_
              refine lv_iload_n hx hb dX2_findPaths_32 rfl (lv_at hl 0 rfl) ?_
              refine lv_aload_n hx hb dX2_findPaths_33 rfl (lv_at hl 3 rfl) ?_
              refine va_get (D := (dC, dI)) (ci := 4) (v := .ref (aa 9)) (C := RX2) (T := TX2) (N := 7) hx hb hts hinX2 hown hK hP 6 (bw_at (i := 6) (by decide) rfl) rfl 2 (by decide) (hts (.fieldLink RX2 21 "BallotLoom$Poll" "beats" "[[I") (by decide +kernel)) (fun _ h9 => h9) rfl dX2_findPaths_34 ?_
              refine lv_iload_n hx hb dX2_findPaths_37 rfl (lv_at hl 1 rfl) ?_
              have hk39 : ix u31 < 6 := in_lt hg36 (by decide)
              refine bq_ald (v := (aa (14 + (ix u31)))) (hty := rfl) hx hb hK hP 9 4 (at_q (by decide) (fun _ _ => rfl)) rfl hg36 (if_pos (in_lt hg36 (Nat.le_refl _))) dX2_findPaths_38 ?_
              refine lv_iload_n hx hb dX2_findPaths_39 rfl (lv_at hl 2 rfl) ?_
              refine va_iald hx hb hK hP (14 + (ix u31)) 0 (at_i (by omega) (bk_row (by decide) hk39)) rfl hg34 dX2_findPaths_40 ?_
              refine lv_topi (fun y40 ey40 => ?_)
              have hF := bv_at ey40 hF
              have Jj49 : ∀ (v41 : Int32) (H : Heap) (locs : List Loc) (ls : Array Slot), (F_X2_findPaths_j49 u27 Z32 u31 (F_X2_findPaths_l10 u27 (F_X2_findPaths_x10 u27 (F_X2_findPaths_l2 F_X2_findPaths_x2 n2)) n10)) v41 = some (Zo, ro) → va_P (dC, dI) vwCl (bw q aa Z32) H → va_D A (bw q aa Z32) → va_S A s.heap H locs → lv_has ls 5 [(2, .int u31), (1, .int u27), (0, .ref (aa 6))] → W p l e (headSpec wsX2_findPaths ({ frames := 2, cells := 0, slots := 0, locals := 40 } : Room)).room s m args below meth c H locs 0 0 Q (F0 m 49 ls [.int v41, .int u31, .ref (aa (20 + (ix u27)))]) := by
                intro v41 H locs ls hF hP hD hS hl
                unfold F_X2_findPaths_j49 at hF
                obtain ⟨Z42, eZ42, hF⟩ := bv_some hF
                refine va_iast hx hb hK hP hD hS (20 + (ix u27)) 0 (at_i (by omega) (bk_row (by decide) hk38)) rfl hg36 dX2_findPaths_49 (fun H locs hP hD hS => ?_)
                have eW := wz_i (q := q) (aa := aa) (i := (20 + (ix u27))) (bk_row (by decide) hk38) eZ42
                have hP : va_P (dC, dI) vwCl (bw q aa Z42) H := eW ▸ hP
                have hD : va_D A (bw q aa Z42) := eW ▸ hD
                clear eW
                refine lv_iinc (k := 0) (v := (u31 + (1 : Int32))) (lv' := [(2, .int (u31 + (1 : Int32))), (1, .int u27), (0, .ref (aa 6))]) hx hb dX2_findPaths_50 hl rfl (ii_ _ _ _ (by decide)) (by decide) rfl (fun ls hl => ?_)
                refine lv_goto (tgt := 10) hx hb dX2_findPaths_53 (by decide) ?_
                exact IH10 Z42 (u31 + (1 : Int32)) _ _ _ hF hP hD hS (lv_sub hl [0, 1, 2] rfl)
              refine lv_icmp_le (tgt := 48) hx hb dX2_findPaths_41 (by decide) (fun hc43 => ?_) (fun hc43 => ?_)
              · have hF := br_pos hc43 hF
                refine lv_iconst (v := 0) hx hb dX2_findPaths_48 (by decide) ?_
                exact Jj49 (0 : Int32) _ _ _ hF hP hD hS (lv_sub hl [1, 2, 3] rfl)
              · have hF := br_neg hc43 hF
                refine lv_iload_n hx hb dX2_findPaths_44 rfl (lv_at hl 0 rfl) ?_
                refine lv_goto (tgt := 49) hx hb dX2_findPaths_45 (by decide) ?_
                exact Jj49 y37 _ _ _ hF hP hD hS (lv_sub hl [1, 2, 3] rfl)
        exact L10 100 Z28 (0 : Int32) _ _ _ hF hP hD hS (lv_sub hl [0, 1, 2] rfl)
  exact L2 100 Z (0 : Int32) _ _ _ hF hP hD hS (lv_sub hl [0, 1] rfl)

noncomputable def F_X2_countPairs_x42 (Z2 : Mem) : Option (Mem × Unit) :=
  cal (F_X2_findPaths Z2 ) fun Z4 _ => some (Z4, ())

noncomputable def F_X2_countPairs_l42 (xa : Int32) (K_42 : Mem → Option (Mem × Unit)) : Nat → Mem → Int32 → Option (Mem × Unit)
  | 0, _, _ => none
  | n42 + 1, Z7, u6 =>
  bv (Z7.1 1 7) fun y8 => br (y8 ≤ u6) (K_42 Z7) (gd (¬ (u6 < 0 ∨ 24 ≤ ix u6)) <| calp (F_X3_countsIn Z7 (ix u6) xa) fun rr14 => br (rr14 = (0 : Int32)) ((F_X2_countPairs_l42 xa K_42 n42) Z7 (u6 + (1 : Int32))) (cal (F_X2_addBeats Z7 (ix u6)) fun Z17 _ => (F_X2_countPairs_l42 xa K_42 n42) Z17 (u6 + (1 : Int32))))

noncomputable def F_X2_countPairs_x2 (xa : Int32) (Z1 : Mem) : Option (Mem × Unit) :=
  F_X2_countPairs_l42 xa F_X2_countPairs_x42 100 Z1 (0 : Int32)

noncomputable def F_X2_countPairs_x11 (u19 : Int32) (B_2 : Mem → Int32 → Option (Mem × Unit)) (Z22 : Mem) : Option (Mem × Unit) :=
  B_2 Z22 (u19 + (1 : Int32))

noncomputable def F_X2_countPairs_l11 (u19 : Int32) (K_11 : Mem → Option (Mem × Unit)) : Nat → Mem → Int32 → Option (Mem × Unit)
  | 0, _, _ => none
  | n11 + 1, Z24, u23 =>
  br ((6 : Int32) ≤ u23) (K_11 Z24) (gd (¬ (u19 < 0 ∨ 6 ≤ ix u19)) <| gd (¬ (u23 < 0 ∨ 6 ≤ ix u23)) <| bv (si Z24 (14 + (ix u19)) (ix u23) (0 : Int32)) fun Z29 => (F_X2_countPairs_l11 u19 K_11 n11) Z29 (u23 + (1 : Int32)))

noncomputable def F_X2_countPairs_l2 (K_2 : Mem → Option (Mem × Unit)) : Nat → Mem → Int32 → Option (Mem × Unit)
  | 0, _, _ => none
  | n2 + 1, Z20, u19 =>
  br ((6 : Int32) ≤ u19) (K_2 Z20) (F_X2_countPairs_l11 u19 (F_X2_countPairs_x11 u19 (F_X2_countPairs_l2 K_2 n2)) 100 Z20 (0 : Int32))

noncomputable def F_X2_countPairs (Z : Mem) (xa : Int32) : Option (Mem × Unit) :=
  F_X2_countPairs_l2 (F_X2_countPairs_x2 xa) 100 Z (0 : Int32)

set_option maxHeartbeats 4000000 in
set_option maxRecDepth 100000 in
theorem c_X2_countPairs (l : Launch) (dC : Nat → ClassId) (dI : Nat → Nat → Nat) (q : Nat → ClassId) (aa : Nat → Nat) (Z : Mem) (xa : Int32)  (sz : Nat) (Zo : Mem) (ro : Unit) (hF : F_X2_countPairs Z xa = some (Zo, ro)) : Met l yX2_countPairs wsX2_countPairs ({ frames := 4, cells := 0, slots := 0, locals := 87 }) (va_Pc [.ref (aa 6), .ref (aa 1), .int xa] (pr_ dC dI (bw q aa Z) (bty q) sz)) (va_Qv (fun (_ : Unit) => True) (fun (_ : Unit) t => po_ dC dI (bw q aa Zo) (bty q) (va_A (bw q aa Z) sz) t) (va_A (bw q aa Z) sz)) 0 0 (va_A (bw q aa Z) sz) := by
  refine Met.ofW (cc := cX2_countPairs) (maxL := 5) (ret := none) (by decide) rfl ?_
  intro p e s m args below meth c s₁ B hml hv
  obtain ⟨hargs, hsz, hP, hK, hD0⟩ := hv
  have hx := B.exec
  have hb := B.bytes
  have hr := B.returns
  have hts := atoms_spec (ws := wsX2_countPairs) B.pre
  have hown : s.vm.findClass RX2 = some m.cls := findClass_of_methodNamed B.named
  have hlocks := B.notSynchronized
  subst hsz
  have hD := hD0.self (sz := s.heap.size)
  generalize hAe : va_A (bw q aa Z) s.heap.size = A at hD ⊢
  have hA : ∀ x : Nat, s.heap.size ≤ x → A x := fun x h => by rw [← hAe]; exact Or.inr h
  have hS : va_S A s.heap s.heap [] := va_S.rf
  have hinX0 : ∀ w ∈ u_ws RX0 TX0 11, w ∈ wsX2_countPairs := by decide +kernel
  have hinX2 : ∀ w ∈ u_ws RX2 TX2 7, w ∈ wsX2_countPairs := by decide +kernel
  have hl := lv_entry ([.ref (aa 6), .ref (aa 1), .int xa]) (n := 5) (Nat.le_of_ble_eq_true rfl)
  refine w_ent hargs ?_
  rw [lg_entry_eq]
  generalize (lg_sl ([.ref (aa 6), .ref (aa 1), .int xa]) ++ List.replicate (5 - (lg_sl ([.ref (aa 6), .ref (aa 1), .int xa])).length) Slot.unset).toArray = ls at hl ⊢
  have hl : lv_has ls 5 [(0, .ref (aa 6)), (1, .ref (aa 1)), (2, .int xa)] := hl
  unfold F_X2_countPairs at hF
  refine w_go (fun Q hQ => ?_)
  refine lv_iconst (v := 0) hx hb dX2_countPairs_0 (by decide) ?_
  refine lv_istore_n (lv' := [(3, .int 0), (0, .ref (aa 6)), (1, .ref (aa 1)), (2, .int xa)]) hx hb dX2_countPairs_1 rfl hl (by decide) rfl (fun ls hl => ?_)
  have Jx2 : ∀ (Z1 : Mem) (H : Heap) (locs : List Loc) (ls : Array Slot), (F_X2_countPairs_x2 xa) Z1 = some (Zo, ro) → va_P (dC, dI) vwCl (bw q aa Z1) H → va_D A (bw q aa Z1) → va_S A s.heap H locs → lv_has ls 5 [(0, .ref (aa 6)), (1, .ref (aa 1)), (2, .int xa)] → W p l e (headSpec wsX2_countPairs ({ frames := 4, cells := 0, slots := 0, locals := 87 } : Room)).room s m args below meth c H locs 0 0 Q (F0 m 40 ls []) := by
    intro Z1 H locs ls hF hP hD hS hl
    unfold F_X2_countPairs_x2 at hF
    refine lv_iconst (v := 0) hx hb dX2_countPairs_40 (by decide) ?_
    refine lv_istore_n (lv' := [(3, .int 0), (0, .ref (aa 6)), (1, .ref (aa 1)), (2, .int xa)]) hx hb dX2_countPairs_41 rfl hl (by decide) rfl (fun ls hl => ?_)
    have Jx42 : ∀ (Z2 : Mem) (H : Heap) (locs : List Loc) (ls : Array Slot), F_X2_countPairs_x42 Z2 = some (Zo, ro) → va_P (dC, dI) vwCl (bw q aa Z2) H → va_D A (bw q aa Z2) → va_S A s.heap H locs → lv_has ls 5 [(0, .ref (aa 6))] → W p l e (headSpec wsX2_countPairs ({ frames := 4, cells := 0, slots := 0, locals := 87 } : Room)).room s m args below meth c H locs 0 0 Q (F0 m 80 ls []) := by
      intro Z2 H locs ls hF hP hD hS hl
      unfold F_X2_countPairs_x42 at hF
      refine lv_aload_n hx hb dX2_countPairs_80 rfl (lv_at hl 0 rfl) ?_
      obtain ⟨Z4, _, hC3, hF⟩ := cal_some hF
      have hFc := b_free (ws := bw q aa Z2) hD hS hA
      refine va_callv (va_runV (As := []) (rest := []) ⟨hx, hb, hml, hown, hts⟩ (c_X2_findPaths l dC dI q aa Z2   _ _ _  hC3) (cwV 0 hts gX2_countPairs_X2_findPaths rfl rfl rfl (by decide +kernel) ⟨Nat.le_of_ble_eq_true rfl, Nat.le_of_ble_eq_true rfl⟩) ⟨pr_blind, va_recv hK hP (ci := 4) (q0 := 6) rfl (bw_at (i := 6) (by decide) rfl), fun U hU hW => ⟨rfl, pr_mk hU hW hP hK hD⟩⟩ rfl rfl hl.1 rfl (lv_room (Nat.le_of_ble_eq_true rfl)) dX2_countPairs_81 ⟨Nat.le_of_ble_eq_true rfl, Nat.le_of_ble_eq_true rfl⟩) hS (fun x _ h => hFc x h) hFc (fun u t H1 locs ht hvm hw hB hz1 hk1 hS => ?_)
      obtain ⟨hP, hK1, hD1⟩ := hB
      rw [ht] at hP
      have hD := hD1.weaken (fun _ q9 _ h9 => hFc q9.1 h9)
      clear hFc hD1 hK1 hvm hz1 hk1
      generalize H1 = H at hP hS ⊢
      refine W.widen (k := 0) (n := 0) (Nat.le_refl _) (Nat.le_refl _) ?_
      obtain ⟨e8, e9⟩ := some2 hF
      rw [← e8] at hP hD
      subst hQ
      exact W.vret hx hb hr (fun t ht hW => ⟨⟨(), rfl, trivial, po_mk ht hW hP hK hD⟩, hS.F ht⟩) hS.2.2 dX2_countPairs_84
    have L42 : ∀ (n42 : Nat) (Z7 : Mem) (u6 : Int32) (H : Heap) (locs : List Loc) (ls : Array Slot), F_X2_countPairs_l42 xa F_X2_countPairs_x42 n42 Z7 u6 = some (Zo, ro) → va_P (dC, dI) vwCl (bw q aa Z7) H → va_D A (bw q aa Z7) → va_S A s.heap H locs → lv_has ls 5 [(3, .int u6), (0, .ref (aa 6)), (1, .ref (aa 1)), (2, .int xa)] → W p l e (headSpec wsX2_countPairs ({ frames := 4, cells := 0, slots := 0, locals := 87 } : Room)).room s m args below meth c H locs 0 0 Q (F0 m 42 ls []) := by
      intro n42
      induction n42 with
      | zero =>
        intro Z7 u6 H locs ls hF
        rw [F_X2_countPairs_l42] at hF
        cases hF
      | succ n42 IH42 =>
        intro Z7 u6 H locs ls hF hP hD hS hl
        rw [F_X2_countPairs_l42] at hF
        refine lv_iload_n hx hb dX2_countPairs_42 rfl (lv_at hl 0 rfl) ?_
        refine lv_aload_n hx hb dX2_countPairs_43 rfl (lv_at hl 2 rfl) ?_
        refine va_get (D := (dC, dI)) (ci := 2) (v := .int (Z7.1 1 7)) (C := RX0) (T := TX0) (N := 11) hx hb hts hinX0 hown hK hP 1 (bw_at (i := 1) (by decide) rfl) rfl 7 (by decide) (hts (.fieldLink RX2 61 "BallotLoom$Box" "cast" "I") (by decide +kernel)) (fun _ h9 => h9) rfl dX2_countPairs_44 ?_
        refine lv_topi (fun y8 ey8 => ?_)
        have hF := bv_at ey8 hF
        refine lv_icmp_ge (tgt := 80) hx hb dX2_countPairs_47 (by decide) (fun hc9 => ?_) (fun hc9 => ?_)
        · have hF := br_pos hc9 hF
          exact Jx42 Z7 _ _ _ hF hP hD hS (lv_sub hl [1] rfl)
        · have hF := br_neg hc9 hF
          refine lv_aload_n hx hb dX2_countPairs_50 rfl (lv_at hl 2 rfl) ?_
          refine va_get (D := (dC, dI)) (ci := 2) (v := .ref (aa 5)) (C := RX0) (T := TX0) (N := 11) hx hb hts hinX0 hown hK hP 1 (bw_at (i := 1) (by decide) rfl) rfl 6 (by decide) (hts (.fieldLink RX2 67 "BallotLoom$Box" "stacks" "[LBallotLoom$Stack;") (by decide +kernel)) (fun _ h9 => h9) rfl dX2_countPairs_51 ?_
          refine lv_iload_n hx hb dX2_countPairs_54 rfl (lv_at hl 0 rfl) ?_
          obtain ⟨hg10, hF⟩ := gd_some hF
          have hk11 : ix u6 < 25 := in_lt hg10 (by decide)
          refine bq_ald (v := (aa (39 + (ix u6)))) (hty := rfl) hx hb hK hP 5 3 (at_q (by decide) (fun _ _ => rfl)) rfl hg10 (if_pos (in_lt hg10 (Nat.le_refl _))) dX2_countPairs_55 ?_
          refine lv_astore (lv' := [(4, .ref (aa (39 + (ix u6)))), (3, .int u6), (0, .ref (aa 6)), (1, .ref (aa 1)), (2, .int xa)]) hx hb dX2_countPairs_56 hl (by decide) rfl (fun ls hl => ?_)
          refine lv_aload hx hb dX2_countPairs_58 (lv_at hl 0 rfl) ?_
          refine lv_iload_n hx hb dX2_countPairs_60 rfl (lv_at hl 4 rfl) ?_
          obtain ⟨r13, hC12, hF⟩ := calp_some hF
          have hFc := b_free (ws := bw q aa Z7) hD hS hA
          refine va_calli (va_runV (As := [.int xa]) (rest := []) ⟨hx, hb, hml, hown, hts⟩ (c_X3_countsIn l dC dI q aa Z7 (ix u6) xa hk11 _ _  hC12) (cwV 1 hts gX2_countPairs_X3_countsIn rfl rfl rfl (by decide +kernel) ⟨Nat.le_of_ble_eq_true rfl, Nat.le_of_ble_eq_true rfl⟩) ⟨pr_blind, va_recv hK hP (ci := 5) (q0 := (39 + (ix u6))) rfl (bw_at (i := 39 + (ix u6)) (by omega) (bk_stk hk11 _ _)), fun U hU hW => ⟨rfl, pr_mk hU hW hP hK hD⟩⟩ rfl rfl hl.1 rfl (lv_room (Nat.le_of_ble_eq_true rfl)) dX2_countPairs_61 ⟨Nat.le_of_ble_eq_true rfl, Nat.le_of_ble_eq_true rfl⟩) hS (fun x _ h => hFc x h) hFc (fun rr14 u t H1 locs ht hvm hw hB hz1 hk1 hS => ?_)
          obtain ⟨hP, hK1, hD1⟩ := hB
          rw [ht] at hP
          have hD := hD1.weaken (fun _ q9 _ h9 => hFc q9.1 h9)
          clear hFc hD1 hK1 hvm hz1 hk1
          generalize H1 = H at hP hS ⊢
          refine W.widen (k := 0) (n := 0) (Nat.le_refl _) (Nat.le_refl _) ?_
          obtain rfl : rr14 = r13 := hw
          refine lv_if_eq (tgt := 74) hx hb dX2_countPairs_64 (by decide) (fun hc15 => ?_) (fun hc15 => ?_)
          · have hF := br_pos hc15 hF
            refine lv_iinc (k := 1) (v := (u6 + (1 : Int32))) (lv' := [(3, .int (u6 + (1 : Int32))), (4, .ref (aa (39 + (ix u6)))), (0, .ref (aa 6)), (1, .ref (aa 1)), (2, .int xa)]) hx hb dX2_countPairs_74 hl rfl (ii_ _ _ _ (by decide)) (by decide) rfl (fun ls hl => ?_)
            refine lv_goto (tgt := 42) hx hb dX2_countPairs_77 (by decide) ?_
            exact IH42 Z7 (u6 + (1 : Int32)) _ _ _ hF hP hD hS (lv_sub hl [0, 2, 3, 4] rfl)
          · have hF := br_neg hc15 hF
            refine lv_aload_n hx hb dX2_countPairs_67 rfl (lv_at hl 2 rfl) ?_
            refine lv_aload_n hx hb dX2_countPairs_68 rfl (lv_at hl 3 rfl) ?_
            refine lv_aload hx hb dX2_countPairs_69 (lv_at hl 0 rfl) ?_
            obtain ⟨Z17, _, hC16, hF⟩ := cal_some hF
            have hFc := b_free (ws := bw q aa Z7) hD hS hA
            refine va_callv (va_runV (As := [.ref (aa 1), .ref (aa (39 + (ix u6)))]) (rest := []) ⟨hx, hb, hml, hown, hts⟩ (c_X2_addBeats l dC dI q aa Z7 (ix u6) hk11 _ _ _  hC16) (cwV 2 hts gX2_countPairs_X2_addBeats rfl rfl rfl (by decide +kernel) ⟨Nat.le_of_ble_eq_true rfl, Nat.le_of_ble_eq_true rfl⟩) ⟨pr_blind, va_recv hK hP (ci := 4) (q0 := 6) rfl (bw_at (i := 6) (by decide) rfl), fun U hU hW => ⟨rfl, pr_mk hU hW hP hK hD⟩⟩ rfl rfl hl.1 rfl (lv_room (Nat.le_of_ble_eq_true rfl)) dX2_countPairs_71 ⟨Nat.le_of_ble_eq_true rfl, Nat.le_of_ble_eq_true rfl⟩) hS (fun x _ h => hFc x h) hFc (fun u t H1 locs ht hvm hw hB hz1 hk1 hS => ?_)
            obtain ⟨hP, hK1, hD1⟩ := hB
            rw [ht] at hP
            have hD := hD1.weaken (fun _ q9 _ h9 => hFc q9.1 h9)
            clear hFc hD1 hK1 hvm hz1 hk1
            generalize H1 = H at hP hS ⊢
            refine W.widen (k := 0) (n := 0) (Nat.le_refl _) (Nat.le_refl _) ?_
            refine lv_iinc (k := 1) (v := (u6 + (1 : Int32))) (lv' := [(3, .int (u6 + (1 : Int32))), (4, .ref (aa (39 + (ix u6)))), (0, .ref (aa 6)), (1, .ref (aa 1)), (2, .int xa)]) hx hb dX2_countPairs_74 hl rfl (ii_ _ _ _ (by decide)) (by decide) rfl (fun ls hl => ?_)
            refine lv_goto (tgt := 42) hx hb dX2_countPairs_77 (by decide) ?_
            exact IH42 Z17 (u6 + (1 : Int32)) _ _ _ hF hP hD hS (lv_sub hl [0, 2, 3, 4] rfl)
    exact L42 100 Z1 (0 : Int32) _ _ _ hF hP hD hS (lv_sub hl [0, 1, 2, 3] rfl)
  have L2 : ∀ (n2 : Nat) (Z20 : Mem) (u19 : Int32) (H : Heap) (locs : List Loc) (ls : Array Slot), F_X2_countPairs_l2 (F_X2_countPairs_x2 xa) n2 Z20 u19 = some (Zo, ro) → va_P (dC, dI) vwCl (bw q aa Z20) H → va_D A (bw q aa Z20) → va_S A s.heap H locs → lv_has ls 5 [(3, .int u19), (0, .ref (aa 6)), (1, .ref (aa 1)), (2, .int xa)] → W p l e (headSpec wsX2_countPairs ({ frames := 4, cells := 0, slots := 0, locals := 87 } : Room)).room s m args below meth c H locs 0 0 Q (F0 m 2 ls []) := by
    intro n2
    induction n2 with
    | zero =>
      intro Z20 u19 H locs ls hF
      rw [F_X2_countPairs_l2] at hF
      cases hF
    | succ n2 IH2 =>
      intro Z20 u19 H locs ls hF hP hD hS hl
      rw [F_X2_countPairs_l2] at hF
      refine lv_iload_n hx hb dX2_countPairs_2 rfl (lv_at hl 0 rfl) ?_
      refine lv_bipush (v := 6) hx hb dX2_countPairs_3 (by decide) ?_
      refine lv_icmp_ge (tgt := 40) hx hb dX2_countPairs_5 (by decide) (fun hc21 => ?_) (fun hc21 => ?_)
      · have hF := br_pos hc21 hF
        exact Jx2 Z20 _ _ _ hF hP hD hS (lv_sub hl [1, 2, 3] rfl)
      · have hF := br_neg hc21 hF
        refine lv_iconst (v := 0) hx hb dX2_countPairs_8 (by decide) ?_
        refine lv_istore (lv' := [(4, .int 0), (3, .int u19), (0, .ref (aa 6)), (1, .ref (aa 1)), (2, .int xa)]) hx hb dX2_countPairs_9 hl (by decide) rfl (fun ls hl => ?_)
        have Jx11 : ∀ (Z22 : Mem) (H : Heap) (locs : List Loc) (ls : Array Slot), (F_X2_countPairs_x11 u19 (F_X2_countPairs_l2 (F_X2_countPairs_x2 xa) n2)) Z22 = some (Zo, ro) → va_P (dC, dI) vwCl (bw q aa Z22) H → va_D A (bw q aa Z22) → va_S A s.heap H locs → lv_has ls 5 [(3, .int u19), (0, .ref (aa 6)), (1, .ref (aa 1)), (2, .int xa)] → W p l e (headSpec wsX2_countPairs ({ frames := 4, cells := 0, slots := 0, locals := 87 } : Room)).room s m args below meth c H locs 0 0 Q (F0 m 34 ls []) := by
          intro Z22 H locs ls hF hP hD hS hl
          unfold F_X2_countPairs_x11 at hF
          refine lv_iinc (k := 0) (v := (u19 + (1 : Int32))) (lv' := [(3, .int (u19 + (1 : Int32))), (0, .ref (aa 6)), (1, .ref (aa 1)), (2, .int xa)]) hx hb dX2_countPairs_34 hl rfl (ii_ _ _ _ (by decide)) (by decide) rfl (fun ls hl => ?_)
          refine lv_goto (tgt := 2) hx hb dX2_countPairs_37 (by decide) ?_
          exact IH2 Z22 (u19 + (1 : Int32)) _ _ _ hF hP hD hS (lv_sub hl [0, 1, 2, 3] rfl)
        have L11 : ∀ (n11 : Nat) (Z24 : Mem) (u23 : Int32) (H : Heap) (locs : List Loc) (ls : Array Slot), F_X2_countPairs_l11 u19 (F_X2_countPairs_x11 u19 (F_X2_countPairs_l2 (F_X2_countPairs_x2 xa) n2)) n11 Z24 u23 = some (Zo, ro) → va_P (dC, dI) vwCl (bw q aa Z24) H → va_D A (bw q aa Z24) → va_S A s.heap H locs → lv_has ls 5 [(4, .int u23), (3, .int u19), (0, .ref (aa 6)), (1, .ref (aa 1)), (2, .int xa)] → W p l e (headSpec wsX2_countPairs ({ frames := 4, cells := 0, slots := 0, locals := 87 } : Room)).room s m args below meth c H locs 0 0 Q (F0 m 11 ls []) := by
          intro n11
          induction n11 with
          | zero =>
            intro Z24 u23 H locs ls hF
            rw [F_X2_countPairs_l11] at hF
            cases hF
          | succ n11 IH11 =>
            intro Z24 u23 H locs ls hF hP hD hS hl
            rw [F_X2_countPairs_l11] at hF
            refine lv_iload hx hb dX2_countPairs_11 (lv_at hl 0 rfl) ?_
            refine lv_bipush (v := 6) hx hb dX2_countPairs_13 (by decide) ?_
            refine lv_icmp_ge (tgt := 34) hx hb dX2_countPairs_15 (by decide) (fun hc25 => ?_) (fun hc25 => ?_)
            · have hF := br_pos hc25 hF
              exact Jx11 Z24 _ _ _ hF hP hD hS (lv_sub hl [1, 2, 3, 4] rfl)
            · have hF := br_neg hc25 hF
              refine lv_aload_n hx hb dX2_countPairs_18 rfl (lv_at hl 2 rfl) ?_
              refine va_get (D := (dC, dI)) (ci := 4) (v := .ref (aa 9)) (C := RX2) (T := TX2) (N := 7) hx hb hts hinX2 hown hK hP 6 (bw_at (i := 6) (by decide) rfl) rfl 2 (by decide) (hts (.fieldLink RX2 21 "BallotLoom$Poll" "beats" "[[I") (by decide +kernel)) (fun _ h9 => h9) rfl dX2_countPairs_19 ?_
              refine lv_iload_n hx hb dX2_countPairs_22 rfl (lv_at hl 1 rfl) ?_
              obtain ⟨hg26, hF⟩ := gd_some hF
              have hk27 : ix u19 < 6 := in_lt hg26 (by decide)
              refine bq_ald (v := (aa (14 + (ix u19)))) (hty := rfl) hx hb hK hP 9 4 (at_q (by decide) (fun _ _ => rfl)) rfl hg26 (if_pos (in_lt hg26 (Nat.le_refl _))) dX2_countPairs_23 ?_
              refine lv_iload hx hb dX2_countPairs_24 (lv_at hl 0 rfl) ?_
              refine lv_iconst (v := 0) hx hb dX2_countPairs_26 (by decide) ?_
              obtain ⟨hg28, hF⟩ := gd_some hF
              obtain ⟨Z29, eZ29, hF⟩ := bv_some hF
              refine va_iast hx hb hK hP hD hS (14 + (ix u19)) 0 (at_i (by omega) (bk_row (by decide) hk27)) rfl hg28 dX2_countPairs_27 (fun H locs hP hD hS => ?_)
              have eW := wz_i (q := q) (aa := aa) (i := (14 + (ix u19))) (bk_row (by decide) hk27) eZ29
              have hP : va_P (dC, dI) vwCl (bw q aa Z29) H := eW ▸ hP
              have hD : va_D A (bw q aa Z29) := eW ▸ hD
              clear eW
              refine lv_iinc (k := 0) (v := (u23 + (1 : Int32))) (lv' := [(4, .int (u23 + (1 : Int32))), (3, .int u19), (0, .ref (aa 6)), (1, .ref (aa 1)), (2, .int xa)]) hx hb dX2_countPairs_28 hl rfl (ii_ _ _ _ (by decide)) (by decide) rfl (fun ls hl => ?_)
              refine lv_goto (tgt := 11) hx hb dX2_countPairs_31 (by decide) ?_
              exact IH11 Z29 (u23 + (1 : Int32)) _ _ _ hF hP hD hS (lv_sub hl [0, 1, 2, 3, 4] rfl)
        exact L11 100 Z20 (0 : Int32) _ _ _ hF hP hD hS (lv_sub hl [0, 1, 2, 3, 4] rfl)
  exact L2 100 Z (0 : Int32) _ _ _ hF hP hD hS (lv_sub hl [0, 1, 2, 3] rfl)

noncomputable def F_X2_isNowhereNarrower_x2  : Option Int32 :=
  some (1 : Int32)

noncomputable def F_X2_isNowhereNarrower_l2 (Z : Mem) (xa : Int32) (K_2 : Option Int32) : Nat → Int32 → Option Int32
  | 0, _ => none
  | n2 + 1, u1 =>
  bv (Z.1 1 2) fun y2 => br (y2 ≤ u1) (K_2) (gd (¬ (u1 < 0 ∨ 6 ≤ ix u1)) <| bv (Z.1 3 (ix u1)) fun y5 => br (y5 = (0 : Int32)) ((F_X2_isNowhereNarrower_l2 Z xa K_2 n2) (u1 + (1 : Int32))) (gd (¬ (xa < 0 ∨ 6 ≤ ix xa)) <| bv (Z.1 (20 + (ix xa)) (ix u1)) fun y9 => bv (Z.1 (20 + (ix u1)) (ix xa)) fun y11 => br (y11 ≤ y9) ((F_X2_isNowhereNarrower_l2 Z xa K_2 n2) (u1 + (1 : Int32))) (some (0 : Int32))))

noncomputable def F_X2_isNowhereNarrower (Z : Mem) (xa : Int32) : Option Int32 :=
  F_X2_isNowhereNarrower_l2 Z xa F_X2_isNowhereNarrower_x2 100 (0 : Int32)

set_option maxHeartbeats 4000000 in
set_option maxRecDepth 100000 in
theorem c_X2_isNowhereNarrower (l : Launch) (dC : Nat → ClassId) (dI : Nat → Nat → Nat) (q : Nat → ClassId) (aa : Nat → Nat) (Z : Mem) (xa : Int32)  (sz : Nat) (ro : Int32) (hF : F_X2_isNowhereNarrower Z xa = some ro) : Met l yX2_isNowhereNarrower wsX2_isNowhereNarrower ({ frames := 2, cells := 0, slots := 0, locals := 40 }) (va_Pc [.ref (aa 6), .ref (aa 1), .int xa] (pr_ dC dI (bw q aa Z) (bty q) sz)) (va_Qi (fun (r : Int32) (_ : Unit) => r = ro) (fun (_ : Unit) t => po_ dC dI (bw q aa Z) (bty q) (va_A (bw q aa Z) sz) t) (va_A (bw q aa Z) sz)) 0 0 (va_A (bw q aa Z) sz) := by
  refine Met.ofW (cc := cX2_isNowhereNarrower) (maxL := 4) (ret := (some .boolean)) (by decide) rfl ?_
  intro p e s m args below meth c s₁ B hml hv
  obtain ⟨hargs, hsz, hP, hK, hD0⟩ := hv
  have hx := B.exec
  have hb := B.bytes
  have hr := B.returns
  have hts := atoms_spec (ws := wsX2_isNowhereNarrower) B.pre
  have hown : s.vm.findClass RX2 = some m.cls := findClass_of_methodNamed B.named
  have hlocks := B.notSynchronized
  subst hsz
  have hD := hD0.self (sz := s.heap.size)
  generalize hAe : va_A (bw q aa Z) s.heap.size = A at hD ⊢
  have hA : ∀ x : Nat, s.heap.size ≤ x → A x := fun x h => by rw [← hAe]; exact Or.inr h
  have hS : va_S A s.heap s.heap [] := va_S.rf
  have hinX0 : ∀ w ∈ u_ws RX0 TX0 11, w ∈ wsX2_isNowhereNarrower := by decide +kernel
  have hinX2 : ∀ w ∈ u_ws RX2 TX2 7, w ∈ wsX2_isNowhereNarrower := by decide +kernel
  have hl := lv_entry ([.ref (aa 6), .ref (aa 1), .int xa]) (n := 4) (Nat.le_of_ble_eq_true rfl)
  refine w_ent hargs ?_
  rw [lg_entry_eq]
  generalize (lg_sl ([.ref (aa 6), .ref (aa 1), .int xa]) ++ List.replicate (4 - (lg_sl ([.ref (aa 6), .ref (aa 1), .int xa])).length) Slot.unset).toArray = ls at hl ⊢
  have hl : lv_has ls 4 [(0, .ref (aa 6)), (1, .ref (aa 1)), (2, .int xa)] := hl
  unfold F_X2_isNowhereNarrower at hF
  refine w_go (fun Q hQ => ?_)
  refine lv_iconst (v := 0) hx hb dX2_isNowhereNarrower_0 (by decide) ?_
  refine lv_istore_n (lv' := [(3, .int 0), (0, .ref (aa 6)), (1, .ref (aa 1)), (2, .int xa)]) hx hb dX2_isNowhereNarrower_1 rfl hl (by decide) rfl (fun ls hl => ?_)
  have Jx2 : ∀  (H : Heap) (locs : List Loc) (ls : Array Slot), F_X2_isNowhereNarrower_x2 = some ro → va_P (dC, dI) vwCl (bw q aa Z) H → va_D A (bw q aa Z) → va_S A s.heap H locs → lv_has ls 4 [] → W p l e (headSpec wsX2_isNowhereNarrower ({ frames := 2, cells := 0, slots := 0, locals := 40 } : Room)).room s m args below meth c H locs 0 0 Q (F0 m 46 ls []) := by
    intro  H locs ls hF hP hD hS hl
    unfold F_X2_isNowhereNarrower_x2 at hF
    refine lv_iconst (v := 1) hx hb dX2_isNowhereNarrower_46 (by decide) ?_
    have e9 := some1 hF
    subst hQ
    exact W.zret (v := 1) hx hb hr rfl (fun t ht hW => ⟨⟨1, (), rfl, e9.symm, po_mk ht hW hP hK hD⟩, hS.F ht⟩) hS.2.2 dX2_isNowhereNarrower_47
  have L2 : ∀ (n2 : Nat) (u1 : Int32) (H : Heap) (locs : List Loc) (ls : Array Slot), F_X2_isNowhereNarrower_l2 Z xa F_X2_isNowhereNarrower_x2 n2 u1 = some ro → va_P (dC, dI) vwCl (bw q aa Z) H → va_D A (bw q aa Z) → va_S A s.heap H locs → lv_has ls 4 [(3, .int u1), (0, .ref (aa 6)), (1, .ref (aa 1)), (2, .int xa)] → W p l e (headSpec wsX2_isNowhereNarrower ({ frames := 2, cells := 0, slots := 0, locals := 40 } : Room)).room s m args below meth c H locs 0 0 Q (F0 m 2 ls []) := by
    intro n2
    induction n2 with
    | zero =>
      intro u1 H locs ls hF
      rw [F_X2_isNowhereNarrower_l2] at hF
      cases hF
    | succ n2 IH2 =>
      intro u1 H locs ls hF hP hD hS hl
      rw [F_X2_isNowhereNarrower_l2] at hF
      refine lv_iload_n hx hb dX2_isNowhereNarrower_2 rfl (lv_at hl 0 rfl) ?_
      refine lv_aload_n hx hb dX2_isNowhereNarrower_3 rfl (lv_at hl 2 rfl) ?_
      refine va_get (D := (dC, dI)) (ci := 2) (v := .int (Z.1 1 2)) (C := RX0) (T := TX0) (N := 11) hx hb hts hinX0 hown hK hP 1 (bw_at (i := 1) (by decide) rfl) rfl 2 (by decide) (hts (.fieldLink RX2 86 "BallotLoom$Box" "candidates" "I") (by decide +kernel)) (fun _ h9 => h9) rfl dX2_isNowhereNarrower_4 ?_
      refine lv_topi (fun y2 ey2 => ?_)
      have hF := bv_at ey2 hF
      refine lv_icmp_ge (tgt := 46) hx hb dX2_isNowhereNarrower_7 (by decide) (fun hc3 => ?_) (fun hc3 => ?_)
      · have hF := br_pos hc3 hF
        exact Jx2  _ _ _ hF hP hD hS (lv_sub hl [] rfl)
      · have hF := br_neg hc3 hF
        refine lv_aload_n hx hb dX2_isNowhereNarrower_10 rfl (lv_at hl 2 rfl) ?_
        refine va_get (D := (dC, dI)) (ci := 2) (v := .ref (aa 3)) (C := RX0) (T := TX0) (N := 11) hx hb hts hinX0 hown hK hP 1 (bw_at (i := 1) (by decide) rfl) rfl 1 (by decide) (hts (.fieldLink RX2 89 "BallotLoom$Box" "stands" "[Z") (by decide +kernel)) (fun _ h9 => h9) rfl dX2_isNowhereNarrower_11 ?_
        refine lv_iload_n hx hb dX2_isNowhereNarrower_14 rfl (lv_at hl 0 rfl) ?_
        obtain ⟨hg4, hF⟩ := gd_some hF
        refine va_zald hx hb hK hP 3 1 (at_i (by decide) (fun _ _ => rfl)) rfl hg4 dX2_isNowhereNarrower_15 ?_
        refine lv_topi (fun y5 ey5 => ?_)
        have hF := bv_at ey5 hF
        refine lv_if_eq (tgt := 40) hx hb dX2_isNowhereNarrower_16 (by decide) (fun hc6 => ?_) (fun hc6 => ?_)
        · have hF := br_pos hc6 hF
          refine lv_iinc (k := 0) (v := (u1 + (1 : Int32))) (lv' := [(3, .int (u1 + (1 : Int32))), (0, .ref (aa 6)), (1, .ref (aa 1)), (2, .int xa)]) hx hb dX2_isNowhereNarrower_40 hl rfl (ii_ _ _ _ (by decide)) (by decide) rfl (fun ls hl => ?_)
          refine lv_goto (tgt := 2) hx hb dX2_isNowhereNarrower_43 (by decide) ?_
          exact IH2 (u1 + (1 : Int32)) _ _ _ hF hP hD hS (lv_sub hl [0, 1, 2, 3] rfl)
        · have hF := br_neg hc6 hF
          refine lv_aload_n hx hb dX2_isNowhereNarrower_19 rfl (lv_at hl 1 rfl) ?_
          refine va_get (D := (dC, dI)) (ci := 4) (v := .ref (aa 10)) (C := RX2) (T := TX2) (N := 7) hx hb hts hinX2 hown hK hP 6 (bw_at (i := 6) (by decide) rfl) rfl 3 (by decide) (hts (.fieldLink RX2 24 "BallotLoom$Poll" "paths" "[[I") (by decide +kernel)) (fun _ h9 => h9) rfl dX2_isNowhereNarrower_20 ?_
          refine lv_iload_n hx hb dX2_isNowhereNarrower_23 rfl (lv_at hl 3 rfl) ?_
          obtain ⟨hg7, hF⟩ := gd_some hF
          have hk8 : ix xa < 6 := in_lt hg7 (by decide)
          refine bq_ald (v := (aa (20 + (ix xa)))) (hty := rfl) hx hb hK hP 10 4 (at_q (by decide) (fun _ _ => rfl)) rfl hg7 (if_pos (in_lt hg7 (Nat.le_refl _))) dX2_isNowhereNarrower_24 ?_
          refine lv_iload_n hx hb dX2_isNowhereNarrower_25 rfl (lv_at hl 0 rfl) ?_
          refine va_iald hx hb hK hP (20 + (ix xa)) 0 (at_i (by omega) (bk_row (by decide) hk8)) rfl hg4 dX2_isNowhereNarrower_26 ?_
          refine lv_topi (fun y9 ey9 => ?_)
          have hF := bv_at ey9 hF
          refine lv_aload_n hx hb dX2_isNowhereNarrower_27 rfl (lv_at hl 1 rfl) ?_
          refine va_get (D := (dC, dI)) (ci := 4) (v := .ref (aa 10)) (C := RX2) (T := TX2) (N := 7) hx hb hts hinX2 hown hK hP 6 (bw_at (i := 6) (by decide) rfl) rfl 3 (by decide) (hts (.fieldLink RX2 24 "BallotLoom$Poll" "paths" "[[I") (by decide +kernel)) (fun _ h9 => h9) rfl dX2_isNowhereNarrower_28 ?_
          refine lv_iload_n hx hb dX2_isNowhereNarrower_31 rfl (lv_at hl 0 rfl) ?_
          have hk10 : ix u1 < 6 := in_lt hg4 (by decide)
          refine bq_ald (v := (aa (20 + (ix u1)))) (hty := rfl) hx hb hK hP 10 4 (at_q (by decide) (fun _ _ => rfl)) rfl hg4 (if_pos (in_lt hg4 (Nat.le_refl _))) dX2_isNowhereNarrower_32 ?_
          refine lv_iload_n hx hb dX2_isNowhereNarrower_33 rfl (lv_at hl 3 rfl) ?_
          refine va_iald hx hb hK hP (20 + (ix u1)) 0 (at_i (by omega) (bk_row (by decide) hk10)) rfl hg7 dX2_isNowhereNarrower_34 ?_
          refine lv_topi (fun y11 ey11 => ?_)
          have hF := bv_at ey11 hF
          refine lv_icmp_ge (tgt := 40) hx hb dX2_isNowhereNarrower_35 (by decide) (fun hc12 => ?_) (fun hc12 => ?_)
          · have hF := br_pos hc12 hF
            refine lv_iinc (k := 0) (v := (u1 + (1 : Int32))) (lv' := [(3, .int (u1 + (1 : Int32))), (0, .ref (aa 6)), (1, .ref (aa 1)), (2, .int xa)]) hx hb dX2_isNowhereNarrower_40 hl rfl (ii_ _ _ _ (by decide)) (by decide) rfl (fun ls hl => ?_)
            refine lv_goto (tgt := 2) hx hb dX2_isNowhereNarrower_43 (by decide) ?_
            exact IH2 (u1 + (1 : Int32)) _ _ _ hF hP hD hS (lv_sub hl [0, 1, 2, 3] rfl)
          · have hF := br_neg hc12 hF
            refine lv_iconst (v := 0) hx hb dX2_isNowhereNarrower_38 (by decide) ?_
            have e9 := some1 hF
            subst hQ
            exact W.zret (v := 0) hx hb hr rfl (fun t ht hW => ⟨⟨0, (), rfl, e9.symm, po_mk ht hW hP hK hD⟩, hS.F ht⟩) hS.2.2 dX2_isNowhereNarrower_39
  exact L2 100 (0 : Int32) _ _ _ hF hP hD hS (lv_sub hl [0, 1, 2, 3] rfl)

noncomputable def F_X2_widestPaths_x2  : Option Int32 :=
  some ((-1) : Int32)

noncomputable def F_X2_widestPaths_l2 (Z : Mem) (K_2 : Option Int32) : Nat → Int32 → Option Int32
  | 0, _ => none
  | n2 + 1, u1 =>
  bv (Z.1 1 2) fun y2 => br (y2 ≤ u1) (K_2) (gd (¬ (u1 < 0 ∨ 6 ≤ ix u1)) <| bv (Z.1 3 (ix u1)) fun y5 => br (y5 = (0 : Int32)) ((F_X2_widestPaths_l2 Z K_2 n2) (u1 + (1 : Int32))) (calp (F_X2_isNowhereNarrower Z u1) fun rr9 => br (rr9 = (0 : Int32)) ((F_X2_widestPaths_l2 Z K_2 n2) (u1 + (1 : Int32))) (some u1)))

noncomputable def F_X2_widestPaths (Z : Mem) : Option Int32 :=
  F_X2_widestPaths_l2 Z F_X2_widestPaths_x2 100 (0 : Int32)

set_option maxHeartbeats 4000000 in
set_option maxRecDepth 100000 in
theorem c_X2_widestPaths (l : Launch) (dC : Nat → ClassId) (dI : Nat → Nat → Nat) (q : Nat → ClassId) (aa : Nat → Nat) (Z : Mem)   (sz : Nat) (ro : Int32) (hF : F_X2_widestPaths Z  = some ro) : Met l yX2_widestPaths wsX2_widestPaths ({ frames := 3, cells := 0, slots := 0, locals := 63 }) (va_Pc [.ref (aa 6), .ref (aa 1)] (pr_ dC dI (bw q aa Z) (bty q) sz)) (va_Qi (fun (r : Int32) (_ : Unit) => r = ro) (fun (_ : Unit) t => po_ dC dI (bw q aa Z) (bty q) (va_A (bw q aa Z) sz) t) (va_A (bw q aa Z) sz)) 0 0 (va_A (bw q aa Z) sz) := by
  refine Met.ofW (cc := cX2_widestPaths) (maxL := 3) (ret := (some .int)) (by decide) rfl ?_
  intro p e s m args below meth c s₁ B hml hv
  obtain ⟨hargs, hsz, hP, hK, hD0⟩ := hv
  have hx := B.exec
  have hb := B.bytes
  have hr := B.returns
  have hts := atoms_spec (ws := wsX2_widestPaths) B.pre
  have hown : s.vm.findClass RX2 = some m.cls := findClass_of_methodNamed B.named
  have hlocks := B.notSynchronized
  subst hsz
  have hD := hD0.self (sz := s.heap.size)
  generalize hAe : va_A (bw q aa Z) s.heap.size = A at hD ⊢
  have hA : ∀ x : Nat, s.heap.size ≤ x → A x := fun x h => by rw [← hAe]; exact Or.inr h
  have hS : va_S A s.heap s.heap [] := va_S.rf
  have hinX0 : ∀ w ∈ u_ws RX0 TX0 11, w ∈ wsX2_widestPaths := by decide +kernel
  have hl := lv_entry ([.ref (aa 6), .ref (aa 1)]) (n := 3) (Nat.le_of_ble_eq_true rfl)
  refine w_ent hargs ?_
  rw [lg_entry_eq]
  generalize (lg_sl ([.ref (aa 6), .ref (aa 1)]) ++ List.replicate (3 - (lg_sl ([.ref (aa 6), .ref (aa 1)])).length) Slot.unset).toArray = ls at hl ⊢
  have hl : lv_has ls 3 [(0, .ref (aa 6)), (1, .ref (aa 1))] := hl
  unfold F_X2_widestPaths at hF
  refine w_go (fun Q hQ => ?_)
  refine lv_iconst (v := 0) hx hb dX2_widestPaths_0 (by decide) ?_
  refine lv_istore_n (lv' := [(2, .int 0), (0, .ref (aa 6)), (1, .ref (aa 1))]) hx hb dX2_widestPaths_1 rfl hl (by decide) rfl (fun ls hl => ?_)
  have Jx2 : ∀  (H : Heap) (locs : List Loc) (ls : Array Slot), F_X2_widestPaths_x2 = some ro → va_P (dC, dI) vwCl (bw q aa Z) H → va_D A (bw q aa Z) → va_S A s.heap H locs → lv_has ls 3 [] → W p l e (headSpec wsX2_widestPaths ({ frames := 3, cells := 0, slots := 0, locals := 63 } : Room)).room s m args below meth c H locs 0 0 Q (F0 m 36 ls []) := by
    intro  H locs ls hF hP hD hS hl
    unfold F_X2_widestPaths_x2 at hF
    refine lv_iconst (v := (-1)) hx hb dX2_widestPaths_36 (by decide) ?_
    have e9 := some1 hF
    subst hQ
    exact W.iret (v := (-1)) hx hb hr (fun t ht hW => ⟨⟨(-1), (), rfl, e9.symm, po_mk ht hW hP hK hD⟩, hS.F ht⟩) hS.2.2 dX2_widestPaths_37
  have L2 : ∀ (n2 : Nat) (u1 : Int32) (H : Heap) (locs : List Loc) (ls : Array Slot), F_X2_widestPaths_l2 Z F_X2_widestPaths_x2 n2 u1 = some ro → va_P (dC, dI) vwCl (bw q aa Z) H → va_D A (bw q aa Z) → va_S A s.heap H locs → lv_has ls 3 [(2, .int u1), (0, .ref (aa 6)), (1, .ref (aa 1))] → W p l e (headSpec wsX2_widestPaths ({ frames := 3, cells := 0, slots := 0, locals := 63 } : Room)).room s m args below meth c H locs 0 0 Q (F0 m 2 ls []) := by
    intro n2
    induction n2 with
    | zero =>
      intro u1 H locs ls hF
      rw [F_X2_widestPaths_l2] at hF
      cases hF
    | succ n2 IH2 =>
      intro u1 H locs ls hF hP hD hS hl
      rw [F_X2_widestPaths_l2] at hF
      refine lv_iload_n hx hb dX2_widestPaths_2 rfl (lv_at hl 0 rfl) ?_
      refine lv_aload_n hx hb dX2_widestPaths_3 rfl (lv_at hl 2 rfl) ?_
      refine va_get (D := (dC, dI)) (ci := 2) (v := .int (Z.1 1 2)) (C := RX0) (T := TX0) (N := 11) hx hb hts hinX0 hown hK hP 1 (bw_at (i := 1) (by decide) rfl) rfl 2 (by decide) (hts (.fieldLink RX2 86 "BallotLoom$Box" "candidates" "I") (by decide +kernel)) (fun _ h9 => h9) rfl dX2_widestPaths_4 ?_
      refine lv_topi (fun y2 ey2 => ?_)
      have hF := bv_at ey2 hF
      refine lv_icmp_ge (tgt := 36) hx hb dX2_widestPaths_7 (by decide) (fun hc3 => ?_) (fun hc3 => ?_)
      · have hF := br_pos hc3 hF
        exact Jx2  _ _ _ hF hP hD hS (lv_sub hl [] rfl)
      · have hF := br_neg hc3 hF
        refine lv_aload_n hx hb dX2_widestPaths_10 rfl (lv_at hl 2 rfl) ?_
        refine va_get (D := (dC, dI)) (ci := 2) (v := .ref (aa 3)) (C := RX0) (T := TX0) (N := 11) hx hb hts hinX0 hown hK hP 1 (bw_at (i := 1) (by decide) rfl) rfl 1 (by decide) (hts (.fieldLink RX2 89 "BallotLoom$Box" "stands" "[Z") (by decide +kernel)) (fun _ h9 => h9) rfl dX2_widestPaths_11 ?_
        refine lv_iload_n hx hb dX2_widestPaths_14 rfl (lv_at hl 0 rfl) ?_
        obtain ⟨hg4, hF⟩ := gd_some hF
        refine va_zald hx hb hK hP 3 1 (at_i (by decide) (fun _ _ => rfl)) rfl hg4 dX2_widestPaths_15 ?_
        refine lv_topi (fun y5 ey5 => ?_)
        have hF := bv_at ey5 hF
        refine lv_if_eq (tgt := 30) hx hb dX2_widestPaths_16 (by decide) (fun hc6 => ?_) (fun hc6 => ?_)
        · have hF := br_pos hc6 hF
          refine lv_iinc (k := 0) (v := (u1 + (1 : Int32))) (lv' := [(2, .int (u1 + (1 : Int32))), (0, .ref (aa 6)), (1, .ref (aa 1))]) hx hb dX2_widestPaths_30 hl rfl (ii_ _ _ _ (by decide)) (by decide) rfl (fun ls hl => ?_)
          refine lv_goto (tgt := 2) hx hb dX2_widestPaths_33 (by decide) ?_
          exact IH2 (u1 + (1 : Int32)) _ _ _ hF hP hD hS (lv_sub hl [0, 1, 2] rfl)
        · have hF := br_neg hc6 hF
          refine lv_aload_n hx hb dX2_widestPaths_19 rfl (lv_at hl 1 rfl) ?_
          refine lv_aload_n hx hb dX2_widestPaths_20 rfl (lv_at hl 2 rfl) ?_
          refine lv_iload_n hx hb dX2_widestPaths_21 rfl (lv_at hl 0 rfl) ?_
          obtain ⟨r8, hC7, hF⟩ := calp_some hF
          have hFc := b_free (ws := bw q aa Z) hD hS hA
          refine va_calli (va_runV (As := [.ref (aa 1), .int u1]) (rest := []) ⟨hx, hb, hml, hown, hts⟩ (c_X2_isNowhereNarrower l dC dI q aa Z u1  _ _  hC7) (cwV 2 hts gX2_widestPaths_X2_isNowhereNarrower rfl rfl rfl (by decide +kernel) ⟨Nat.le_of_ble_eq_true rfl, Nat.le_of_ble_eq_true rfl⟩) ⟨pr_blind, va_recv hK hP (ci := 4) (q0 := 6) rfl (bw_at (i := 6) (by decide) rfl), fun U hU hW => ⟨rfl, pr_mk hU hW hP hK hD⟩⟩ rfl rfl hl.1 rfl (lv_room (Nat.le_of_ble_eq_true rfl)) dX2_widestPaths_22 ⟨Nat.le_of_ble_eq_true rfl, Nat.le_of_ble_eq_true rfl⟩) hS (fun x _ h => hFc x h) hFc (fun rr9 u t H1 locs ht hvm hw hB hz1 hk1 hS => ?_)
          obtain ⟨hP, hK1, hD1⟩ := hB
          rw [ht] at hP
          have hD := hD1.weaken (fun _ q9 _ h9 => hFc q9.1 h9)
          clear hFc hD1 hK1 hvm hz1 hk1
          generalize H1 = H at hP hS ⊢
          refine W.widen (k := 0) (n := 0) (Nat.le_refl _) (Nat.le_refl _) ?_
          obtain rfl : rr9 = r8 := hw
          refine lv_if_eq (tgt := 30) hx hb dX2_widestPaths_25 (by decide) (fun hc10 => ?_) (fun hc10 => ?_)
          · have hF := br_pos hc10 hF
            refine lv_iinc (k := 0) (v := (u1 + (1 : Int32))) (lv' := [(2, .int (u1 + (1 : Int32))), (0, .ref (aa 6)), (1, .ref (aa 1))]) hx hb dX2_widestPaths_30 hl rfl (ii_ _ _ _ (by decide)) (by decide) rfl (fun ls hl => ?_)
            refine lv_goto (tgt := 2) hx hb dX2_widestPaths_33 (by decide) ?_
            exact IH2 (u1 + (1 : Int32)) _ _ _ hF hP hD hS (lv_sub hl [0, 1, 2] rfl)
          · have hF := br_neg hc10 hF
            refine lv_iload_n hx hb dX2_widestPaths_28 rfl (lv_at hl 0 rfl) ?_
            have e9 := some1 hF
            subst hQ
            exact W.iret (v := u1) hx hb hr (fun t ht hW => ⟨⟨u1, (), rfl, e9.symm, po_mk ht hW hP hK hD⟩, hS.F ht⟩) hS.2.2 dX2_widestPaths_29
  exact L2 100 (0 : Int32) _ _ _ hF hP hD hS (lv_sub hl [0, 1, 2] rfl)
