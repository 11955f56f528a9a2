/-! p31: 15.transfers (laid by wip/gen31/bgen.py) -/
noncomputable def F_X4_start_x47 (Z3 : Mem) : Option (Mem × Unit) :=
  some (Z3, ())

noncomputable def F_X4_start_j92 (Z5 : Mem) (u4 : Int32) (B_47 : Mem → Int32 → Option (Mem × Unit)) (v13 : UInt64) : Option (Mem × Unit) :=
  bv (sd Z5 (39 + (ix u4)) 6 v13) fun Z14 => B_47 Z14 (u4 + (1 : Int32))

noncomputable def F_X4_start_l47 (xa : Int32) (K_47 : Mem → Option (Mem × Unit)) : Nat → Mem → Int32 → Option (Mem × Unit)
  | 0, _, _ => none
  | n47 + 1, Z5, u4 =>
  bv (Z5.1 1 7) fun y6 => br (y6 ≤ u4) (K_47 Z5) (gd (¬ (u4 < 0 ∨ 24 ≤ ix u4)) <| bv (Z5.1 (39 + (ix u4)) 0) fun y10 => br (y10 = xa) (bv (Z5.1 (39 + (ix u4)) 3) fun y12 => br (y12 = (0 : Int32)) (bv (Z5.1 (39 + (ix u4)) 2) fun y16 => bv (FP.i2d y16) fun y17 => (F_X4_start_j92 Z5 u4 (F_X4_start_l47 xa K_47 n47)) y17) ((F_X4_start_j92 Z5 u4 (F_X4_start_l47 xa K_47 n47)) FP.dconst0)) ((F_X4_start_l47 xa K_47 n47) Z5 (u4 + (1 : Int32))))

noncomputable def F_X4_start_x22 (xa : Int32) (Z2 : Mem) : Option (Mem × Unit) :=
  F_X4_start_l47 xa F_X4_start_x47 100 Z2 (0 : Int32)

noncomputable def F_X4_start_l22 (K_22 : Mem → Option (Mem × Unit)) : Nat → Mem → Int32 → Option (Mem × Unit)
  | 0, _, _ => none
  | n22 + 1, Z19, u18 =>
  br ((6 : Int32) ≤ u18) (K_22 Z19) (calp (F_X0_isStanding Z19 u18) fun rr23 => gd (¬ (u18 < 0 ∨ 6 ≤ ix u18)) <| bv (si Z19 28 (ix u18) (vp_nar .boolean rr23)) fun Z25 => (F_X4_start_l22 K_22 n22) Z25 (u18 + (1 : Int32)))

noncomputable def F_X4_start_x2 (xa : Int32) (Z1 : Mem) : Option (Mem × Unit) :=
  F_X4_start_l22 (F_X4_start_x22 xa) 100 Z1 (0 : Int32)

noncomputable def F_X4_start_l2 (K_2 : Mem → Option (Mem × Unit)) : Nat → Mem → Int32 → Option (Mem × Unit)
  | 0, _, _ => none
  | n2 + 1, Z27, u26 =>
  br ((5 : Int32) ≤ u26) (K_2 Z27) (gd (¬ (u26 < 0 ∨ 5 ≤ ix u26)) <| bv (si Z27 27 (ix u26) ((-1) : Int32)) fun Z30 => (F_X4_start_l2 K_2 n2) Z30 (u26 + (1 : Int32)))

noncomputable def F_X4_start (Z : Mem) (xa : Int32) : Option (Mem × Unit) :=
  F_X4_start_l2 (F_X4_start_x2 xa) 100 Z (0 : Int32)

set_option maxHeartbeats 4000000 in
set_option maxRecDepth 100000 in
theorem c_X4_start (l : Launch) (dC : Nat → ClassId) (dI : Nat → Nat → Nat) (q : Nat → ClassId) (aa : Nat → Nat) (Z : Mem) (xa : Int32)  (sz : Nat) (Zo : Mem) (ro : Unit) (hF : F_X4_start Z xa = some (Zo, ro)) : Met l yX4_start wsX4_start ({ frames := 3, cells := 0, slots := 0, locals := 61 }) (va_Pc [.ref (aa 26), .ref (aa 1), .int xa] (pr_ dC dI (bw q aa Z) (bty q) sz)) (va_Qv (fun (_ : Unit) => True) (fun (_ : Unit) t => po_ dC dI (bw q aa Zo) (bty q) (va_A (bw q aa Z) sz) t) (va_A (bw q aa Z) sz)) 0 0 (va_A (bw q aa Z) sz) := by
  refine Met.ofW (cc := cX4_start) (maxL := 5) (ret := none) (by decide) rfl ?_
  intro p e s m args below meth c s₁ B hml hv
  obtain ⟨hargs, hsz, hP, hK, hD0⟩ := hv
  have hx := B.exec
  have hb := B.bytes
  have hr := B.returns
  have hts := atoms_spec (ws := wsX4_start) B.pre
  have hown : s.vm.findClass RX4 = some m.cls := findClass_of_methodNamed B.named
  have hlocks := B.notSynchronized
  subst hsz
  have hD := hD0.self (sz := s.heap.size)
  generalize hAe : va_A (bw q aa Z) s.heap.size = A at hD ⊢
  have hA : ∀ x : Nat, s.heap.size ≤ x → A x := fun x h => by rw [← hAe]; exact Or.inr h
  have hS : va_S A s.heap s.heap [] := va_S.rf
  have hinX0 : ∀ w ∈ u_ws RX0 TX0 11, w ∈ wsX4_start := by decide +kernel
  have hinX3 : ∀ w ∈ u_ws RX3 TX3 7, w ∈ wsX4_start := by decide +kernel
  have hinX4 : ∀ w ∈ u_ws RX4 TX4 3, w ∈ wsX4_start := by decide +kernel
  have hl := lv_entry ([.ref (aa 26), .ref (aa 1), .int xa]) (n := 5) (Nat.le_of_ble_eq_true rfl)
  refine w_ent hargs ?_
  rw [lg_entry_eq]
  generalize (lg_sl ([.ref (aa 26), .ref (aa 1), .int xa]) ++ List.replicate (5 - (lg_sl ([.ref (aa 26), .ref (aa 1), .int xa])).length) Slot.unset).toArray = ls at hl ⊢
  have hl : lv_has ls 5 [(0, .ref (aa 26)), (1, .ref (aa 1)), (2, .int xa)] := hl
  unfold F_X4_start at hF
  refine w_go (fun Q hQ => ?_)
  refine lv_iconst (v := 0) hx hb dX4_start_0 (by decide) ?_
  refine lv_istore_n (lv' := [(3, .int 0), (0, .ref (aa 26)), (1, .ref (aa 1)), (2, .int xa)]) hx hb dX4_start_1 rfl hl (by decide) rfl (fun ls hl => ?_)
  have Jx2 : ∀ (Z1 : Mem) (H : Heap) (locs : List Loc) (ls : Array Slot), (F_X4_start_x2 xa) Z1 = some (Zo, ro) → va_P (dC, dI) vwCl (bw q aa Z1) H → va_D A (bw q aa Z1) → va_S A s.heap H locs → lv_has ls 5 [(0, .ref (aa 26)), (1, .ref (aa 1)), (2, .int xa)] → W p l e (headSpec wsX4_start ({ frames := 3, cells := 0, slots := 0, locals := 61 } : Room)).room s m args below meth c H locs 0 0 Q (F0 m 20 ls []) := by
    intro Z1 H locs ls hF hP hD hS hl
    unfold F_X4_start_x2 at hF
    refine lv_iconst (v := 0) hx hb dX4_start_20 (by decide) ?_
    refine lv_istore_n (lv' := [(3, .int 0), (0, .ref (aa 26)), (1, .ref (aa 1)), (2, .int xa)]) hx hb dX4_start_21 rfl hl (by decide) rfl (fun ls hl => ?_)
    have Jx22 : ∀ (Z2 : Mem) (H : Heap) (locs : List Loc) (ls : Array Slot), (F_X4_start_x22 xa) Z2 = some (Zo, ro) → va_P (dC, dI) vwCl (bw q aa Z2) H → va_D A (bw q aa Z2) → va_S A s.heap H locs → lv_has ls 5 [(1, .ref (aa 1)), (2, .int xa)] → W p l e (headSpec wsX4_start ({ frames := 3, cells := 0, slots := 0, locals := 61 } : Room)).room s m args below meth c H locs 0 0 Q (F0 m 45 ls []) := by
      intro Z2 H locs ls hF hP hD hS hl
      unfold F_X4_start_x22 at hF
      refine lv_iconst (v := 0) hx hb dX4_start_45 (by decide) ?_
      refine lv_istore_n (lv' := [(3, .int 0), (1, .ref (aa 1)), (2, .int xa)]) hx hb dX4_start_46 rfl hl (by decide) rfl (fun ls hl => ?_)
      have Jx47 : ∀ (Z3 : Mem) (H : Heap) (locs : List Loc) (ls : Array Slot), F_X4_start_x47 Z3 = some (Zo, ro) → va_P (dC, dI) vwCl (bw q aa Z3) H → va_D A (bw q aa Z3) → va_S A s.heap H locs → lv_has ls 5 [] → W p l e (headSpec wsX4_start ({ frames := 3, cells := 0, slots := 0, locals := 61 } : Room)).room s m args below meth c H locs 0 0 Q (F0 m 101 ls []) := by
        intro Z3 H locs ls hF hP hD hS hl
        unfold F_X4_start_x47 at hF
        obtain ⟨e8, e9⟩ := some2 hF
        rw [← e8] at hP hD
        subst hQ
        exact W.vret hx hb hr (fun t ht hW => ⟨⟨(), rfl, trivial, po_mk ht hW hP hK hD⟩, hS.F ht⟩) hS.2.2 dX4_start_101
      have L47 : ∀ (n47 : Nat) (Z5 : Mem) (u4 : Int32) (H : Heap) (locs : List Loc) (ls : Array Slot), F_X4_start_l47 xa F_X4_start_x47 n47 Z5 u4 = some (Zo, ro) → va_P (dC, dI) vwCl (bw q aa Z5) H → va_D A (bw q aa Z5) → va_S A s.heap H locs → lv_has ls 5 [(3, .int u4), (1, .ref (aa 1)), (2, .int xa)] → W p l e (headSpec wsX4_start ({ frames := 3, cells := 0, slots := 0, locals := 61 } : Room)).room s m args below meth c H locs 0 0 Q (F0 m 47 ls []) := by
        intro n47
        induction n47 with
        | zero =>
          intro Z5 u4 H locs ls hF
          rw [F_X4_start_l47] at hF
          cases hF
        | succ n47 IH47 =>
          intro Z5 u4 H locs ls hF hP hD hS hl
          rw [F_X4_start_l47] at hF
          refine lv_iload_n hx hb dX4_start_47 rfl (lv_at hl 0 rfl) ?_
          refine lv_aload_n hx hb dX4_start_48 rfl (lv_at hl 1 rfl) ?_
          refine va_get (D := (dC, dI)) (ci := 2) (v := .int (Z5.1 1 7)) (C := RX0) (T := TX0) (N := 11) hx hb hts hinX0 hown hK hP 1 (bw_at (i := 1) (by decide) rfl) rfl 7 (by decide) (hts (.fieldLink RX4 58 "BallotLoom$Box" "cast" "I") (by decide +kernel)) (fun _ h9 => h9) rfl dX4_start_49 ?_
          refine lv_topi (fun y6 ey6 => ?_)
          have hF := bv_at ey6 hF
          refine lv_icmp_ge (tgt := 101) hx hb dX4_start_52 (by decide) (fun hc7 => ?_) (fun hc7 => ?_)
          · have hF := br_pos hc7 hF
            exact Jx47 Z5 _ _ _ hF hP hD hS (lv_sub hl [] rfl)
          · have hF := br_neg hc7 hF
            refine lv_aload_n hx hb dX4_start_55 rfl (lv_at hl 1 rfl) ?_
            refine va_get (D := (dC, dI)) (ci := 2) (v := .ref (aa 5)) (C := RX0) (T := TX0) (N := 11) hx hb hts hinX0 hown hK hP 1 (bw_at (i := 1) (by decide) rfl) rfl 6 (by decide) (hts (.fieldLink RX4 61 "BallotLoom$Box" "stacks" "[LBallotLoom$Stack;") (by decide +kernel)) (fun _ h9 => h9) rfl dX4_start_56 ?_
            refine lv_iload_n hx hb dX4_start_59 rfl (lv_at hl 0 rfl) ?_
            obtain ⟨hg8, hF⟩ := gd_some hF
            have hk9 : ix u4 < 25 := in_lt hg8 (by decide)
            refine bq_ald (v := (aa (39 + (ix u4)))) (hty := rfl) hx hb hK hP 5 3 (at_q (by decide) (fun _ _ => rfl)) rfl hg8 (if_pos (in_lt hg8 (Nat.le_refl _))) dX4_start_60 ?_
            refine lv_astore (lv' := [(4, .ref (aa (39 + (ix u4)))), (3, .int u4), (1, .ref (aa 1)), (2, .int xa)]) hx hb dX4_start_61 hl (by decide) rfl (fun ls hl => ?_)
            refine lv_aload hx hb dX4_start_63 (lv_at hl 0 rfl) ?_
            refine va_get (D := (dC, dI)) (ci := 5) (v := .int (Z5.1 (39 + (ix u4)) 0)) (C := RX3) (T := TX3) (N := 7) hx hb hts hinX3 hown hK hP (39 + (ix u4)) (bw_at (i := 39 + (ix u4)) (by omega) (bk_stk hk9 _ _)) rfl 0 (by decide) (hts (.fieldLink RX4 65 "BallotLoom$Stack" "district" "I") (by decide +kernel)) (fun _ h9 => h9) rfl dX4_start_65 ?_
            refine lv_topi (fun y10 ey10 => ?_)
            have hF := bv_at ey10 hF
            refine lv_iload_n hx hb dX4_start_68 rfl (lv_at hl 3 rfl) ?_
            refine lv_icmp_ne (tgt := 95) hx hb dX4_start_69 (by decide) (fun hc11 => ?_) (fun hc11 => ?_)
            · have hF := br_neg hc11 hF
              refine lv_iinc (k := 1) (v := (u4 + (1 : Int32))) (lv' := [(3, .int (u4 + (1 : Int32))), (4, .ref (aa (39 + (ix u4)))), (1, .ref (aa 1)), (2, .int xa)]) hx hb dX4_start_95 hl rfl (ii_ _ _ _ (by decide)) (by decide) rfl (fun ls hl => ?_)
              refine lv_goto (tgt := 47) hx hb dX4_start_98 (by decide) ?_
              exact IH47 Z5 (u4 + (1 : Int32)) _ _ _ hF hP hD hS (lv_sub hl [0, 2, 3] rfl)
            · have hF := br_pos hc11 hF
              refine lv_aload hx hb dX4_start_72 (lv_at hl 0 rfl) ?_
              refine lv_aload hx hb dX4_start_74 (lv_at hl 0 rfl) ?_
              refine va_get (D := (dC, dI)) (ci := 5) (v := .int (Z5.1 (39 + (ix u4)) 3)) (C := RX3) (T := TX3) (N := 7) hx hb hts hinX3 hown hK hP (39 + (ix u4)) (bw_at (i := 39 + (ix u4)) (by omega) (bk_stk hk9 _ _)) rfl 3 (by decide) (hts (.fieldLink RX4 70 "BallotLoom$Stack" "isSpoiled" "Z") (by decide +kernel)) (fun _ h9 => h9) rfl dX4_start_76 ?_
              refine lv_topi (fun y12 ey12 => ?_)
              have hF := bv_at ey12 hF
              have Jj92 : ∀ (v13 : UInt64) (H : Heap) (locs : List Loc) (ls : Array Slot), (F_X4_start_j92 Z5 u4 (F_X4_start_l47 xa F_X4_start_x47 n47)) v13 = some (Zo, ro) → va_P (dC, dI) vwCl (bw q aa Z5) H → va_D A (bw q aa Z5) → va_S A s.heap H locs → lv_has ls 5 [(3, .int u4), (1, .ref (aa 1)), (2, .int xa)] → W p l e (headSpec wsX4_start ({ frames := 3, cells := 0, slots := 0, locals := 61 } : Room)).room s m args below meth c H locs 0 0 Q (F0 m 92 ls [.double v13, .ref (aa (39 + (ix u4)))]) := by
                intro v13 H locs ls hF hP hD hS hl
                unfold F_X4_start_j92 at hF
                obtain ⟨Z14, eZ14, hF⟩ := bv_some hF
                refine va_put (D := (dC, dI)) (ci := 5) (v := .double v13) (ty := .double) (C := RX3) (T := TX3) (N := 7) hx hb hts hinX3 tyX3 tyX3_ok nmX3 hown hK hP hD hS (39 + (ix u4)) (bw_at (i := 39 + (ix u4)) (by omega) (bk_stk hk9 _ _)) rfl 6 (by decide) (hts (.fieldLink RX4 77 "BallotLoom$Stack" "value" "D") (by decide +kernel)) (fun _ h9 => h9) rfl (by decide +kernel) rfl rfl (Nat.le_of_ble_eq_true rfl) dX4_start_92 (fun H locs hP hD hS => ?_)
                have eW := wz_od (q := q) (aa := aa) (i := (39 + (ix u4))) (ci := 5) (fs := [.int (Z5.1 (39 + (ix u4)) 0), .int (Z5.1 (39 + (ix u4)) 1), .int (Z5.1 (39 + (ix u4)) 2), .int (Z5.1 (39 + (ix u4)) 3), .ref (aa (64 + (ix u4))), .int (Z5.1 (39 + (ix u4)) 5), .double v13]) (bk_stk hk9 _ _) eZ14
                have hP : va_P (dC, dI) vwCl (bw q aa Z14) H := eW ▸ hP
                have hD : va_D A (bw q aa Z14) := eW ▸ hD
                clear eW
                refine lv_iinc (k := 0) (v := (u4 + (1 : Int32))) (lv' := [(3, .int (u4 + (1 : Int32))), (1, .ref (aa 1)), (2, .int xa)]) hx hb dX4_start_95 hl rfl (ii_ _ _ _ (by decide)) (by decide) rfl (fun ls hl => ?_)
                refine lv_goto (tgt := 47) hx hb dX4_start_98 (by decide) ?_
                exact IH47 Z14 (u4 + (1 : Int32)) _ _ _ hF hP hD hS (lv_sub hl [0, 1, 2] rfl)
              refine lv_if_eq (tgt := 86) hx hb dX4_start_79 (by decide) (fun hc15 => ?_) (fun hc15 => ?_)
              · have hF := br_pos hc15 hF
                refine lv_aload hx hb dX4_start_86 (lv_at hl 0 rfl) ?_
                refine va_get (D := (dC, dI)) (ci := 5) (v := .int (Z5.1 (39 + (ix u4)) 2)) (C := RX3) (T := TX3) (N := 7) hx hb hts hinX3 hown hK hP (39 + (ix u4)) (bw_at (i := 39 + (ix u4)) (by omega) (bk_stk hk9 _ _)) rfl 2 (by decide) (hts (.fieldLink RX4 74 "BallotLoom$Stack" "count" "I") (by decide +kernel)) (fun _ h9 => h9) rfl dX4_start_88 ?_
                refine lv_topi (fun y16 ey16 => ?_)
                have hF := bv_at ey16 hF
                refine lv_i2d hx hb dX4_start_91 ?_
                refine lv_topd (fun y17 ey17 => ?_)
                have hF := bv_at ey17 hF
                exact Jj92 y17 _ _ _ hF hP hD hS (lv_sub hl [1, 2, 3] rfl)
              · have hF := br_neg hc15 hF
                refine lv_dconst0 hx hb dX4_start_82 ?_
                refine lv_goto (tgt := 92) hx hb dX4_start_83 (by decide) ?_
                exact Jj92 FP.dconst0 _ _ _ hF hP hD hS (lv_sub hl [1, 2, 3] rfl)
      exact L47 100 Z2 (0 : Int32) _ _ _ hF hP hD hS (lv_sub hl [0, 1, 2] rfl)
    have L22 : ∀ (n22 : Nat) (Z19 : Mem) (u18 : Int32) (H : Heap) (locs : List Loc) (ls : Array Slot), F_X4_start_l22 (F_X4_start_x22 xa) n22 Z19 u18 = some (Zo, ro) → va_P (dC, dI) vwCl (bw q aa Z19) H → va_D A (bw q aa Z19) → va_S A s.heap H locs → lv_has ls 5 [(3, .int u18), (0, .ref (aa 26)), (1, .ref (aa 1)), (2, .int xa)] → W p l e (headSpec wsX4_start ({ frames := 3, cells := 0, slots := 0, locals := 61 } : Room)).room s m args below meth c H locs 0 0 Q (F0 m 22 ls []) := by
      intro n22
      induction n22 with
      | zero =>
        intro Z19 u18 H locs ls hF
        rw [F_X4_start_l22] at hF
        cases hF
      | succ n22 IH22 =>
        intro Z19 u18 H locs ls hF hP hD hS hl
        rw [F_X4_start_l22] at hF
        refine lv_iload_n hx hb dX4_start_22 rfl (lv_at hl 0 rfl) ?_
        refine lv_bipush (v := 6) hx hb dX4_start_23 (by decide) ?_
        refine lv_icmp_ge (tgt := 45) hx hb dX4_start_25 (by decide) (fun hc20 => ?_) (fun hc20 => ?_)
        · have hF := br_pos hc20 hF
          exact Jx22 Z19 _ _ _ hF hP hD hS (lv_sub hl [2, 3] rfl)
        · have hF := br_neg hc20 hF
          refine lv_aload_n hx hb dX4_start_28 rfl (lv_at hl 1 rfl) ?_
          refine va_get (D := (dC, dI)) (ci := 6) (v := .ref (aa 28)) (C := RX4) (T := TX4) (N := 3) hx hb hts hinX4 hown hK hP 26 (bw_at (i := 26) (by decide) rfl) rfl 1 (by decide) (hts (.fieldLink RX4 15 "BallotLoom$Transfers" "isIn" "[Z") (by decide +kernel)) (fun _ h9 => h9) rfl dX4_start_29 ?_
          refine lv_iload_n hx hb dX4_start_32 rfl (lv_at hl 0 rfl) ?_
          refine lv_aload_n hx hb dX4_start_33 rfl (lv_at hl 2 rfl) ?_
          refine lv_iload_n hx hb dX4_start_34 rfl (lv_at hl 0 rfl) ?_
          obtain ⟨r22, hC21, hF⟩ := calp_some hF
          have hFc := b_free (ws := bw q aa Z19) hD hS hA
          refine va_calli (va_runV (As := [.int u18]) (rest := [.int u18, .ref (aa 28)]) ⟨hx, hb, hml, hown, hts⟩ (c_X0_isStanding l dC dI q aa Z19 u18  _ _  hC21) (cwV 1 hts gX4_start_X0_isStanding rfl rfl rfl (by decide +kernel) ⟨Nat.le_of_ble_eq_true rfl, Nat.le_of_ble_eq_true rfl⟩) ⟨pr_blind, va_recv hK hP (ci := 2) (q0 := 1) rfl (bw_at (i := 1) (by decide) rfl), fun U hU hW => ⟨rfl, pr_mk hU hW hP hK hD⟩⟩ rfl rfl hl.1 rfl (lv_room (Nat.le_of_ble_eq_true rfl)) dX4_start_35 ⟨Nat.le_of_ble_eq_true rfl, Nat.le_of_ble_eq_true rfl⟩) hS (fun x _ h => hFc x h) hFc (fun rr23 u t H1 locs ht hvm hw hB hz1 hk1 hS => ?_)
          obtain ⟨hP, hK1, hD1⟩ := hB
          rw [ht] at hP
          have hD := hD1.weaken (fun _ q9 _ h9 => hFc q9.1 h9)
          clear hFc hD1 hK1 hvm hz1 hk1
          generalize H1 = H at hP hS ⊢
          refine W.widen (k := 0) (n := 0) (Nat.le_refl _) (Nat.le_refl _) ?_
          obtain rfl : rr23 = r22 := hw
          obtain ⟨hg24, hF⟩ := gd_some hF
          obtain ⟨Z25, eZ25, hF⟩ := bv_some hF
          refine va_zast hx hb hK hP hD hS 28 1 (at_i (by decide) (fun _ _ => rfl)) rfl hg24 dX4_start_38 (fun H locs hP hD hS => ?_)
          have eW := wz_i (q := q) (aa := aa) (i := 28) (fun _ _ => rfl) eZ25
          have hP : va_P (dC, dI) vwCl (bw q aa Z25) H := eW ▸ hP
          have hD : va_D A (bw q aa Z25) := eW ▸ hD
          clear eW
          refine lv_iinc (k := 0) (v := (u18 + (1 : Int32))) (lv' := [(3, .int (u18 + (1 : Int32))), (0, .ref (aa 26)), (1, .ref (aa 1)), (2, .int xa)]) hx hb dX4_start_39 hl rfl (ii_ _ _ _ (by decide)) (by decide) rfl (fun ls hl => ?_)
          refine lv_goto (tgt := 22) hx hb dX4_start_42 (by decide) ?_
          exact IH22 Z25 (u18 + (1 : Int32)) _ _ _ hF hP hD hS (lv_sub hl [0, 1, 2, 3] rfl)
    exact L22 100 Z1 (0 : Int32) _ _ _ hF hP hD hS (lv_sub hl [0, 1, 2, 3] rfl)
  have L2 : ∀ (n2 : Nat) (Z27 : Mem) (u26 : Int32) (H : Heap) (locs : List Loc) (ls : Array Slot), F_X4_start_l2 (F_X4_start_x2 xa) n2 Z27 u26 = some (Zo, ro) → va_P (dC, dI) vwCl (bw q aa Z27) H → va_D A (bw q aa Z27) → va_S A s.heap H locs → lv_has ls 5 [(3, .int u26), (0, .ref (aa 26)), (1, .ref (aa 1)), (2, .int xa)] → W p l e (headSpec wsX4_start ({ frames := 3, cells := 0, slots := 0, locals := 61 } : Room)).room s m args below meth c H locs 0 0 Q (F0 m 2 ls []) := by
    intro n2
    induction n2 with
    | zero =>
      intro Z27 u26 H locs ls hF
      rw [F_X4_start_l2] at hF
      cases hF
    | succ n2 IH2 =>
      intro Z27 u26 H locs ls hF hP hD hS hl
      rw [F_X4_start_l2] at hF
      refine lv_iload_n hx hb dX4_start_2 rfl (lv_at hl 0 rfl) ?_
      refine lv_iconst (v := 5) hx hb dX4_start_3 (by decide) ?_
      refine lv_icmp_ge (tgt := 20) hx hb dX4_start_4 (by decide) (fun hc28 => ?_) (fun hc28 => ?_)
      · have hF := br_pos hc28 hF
        exact Jx2 Z27 _ _ _ hF hP hD hS (lv_sub hl [1, 2, 3] rfl)
      · have hF := br_neg hc28 hF
        refine lv_aload_n hx hb dX4_start_7 rfl (lv_at hl 1 rfl) ?_
        refine va_get (D := (dC, dI)) (ci := 6) (v := .ref (aa 27)) (C := RX4) (T := TX4) (N := 3) hx hb hts hinX4 hown hK hP 26 (bw_at (i := 26) (by decide) rfl) rfl 0 (by decide) (hts (.fieldLink RX4 9 "BallotLoom$Transfers" "chosen" "[I") (by decide +kernel)) (fun _ h9 => h9) rfl dX4_start_8 ?_
        refine lv_iload_n hx hb dX4_start_11 rfl (lv_at hl 0 rfl) ?_
        refine lv_iconst (v := (-1)) hx hb dX4_start_12 (by decide) ?_
        obtain ⟨hg29, hF⟩ := gd_some hF
        obtain ⟨Z30, eZ30, hF⟩ := bv_some hF
        refine va_iast hx hb hK hP hD hS 27 0 (at_i (by decide) (fun _ _ => rfl)) rfl hg29 dX4_start_13 (fun H locs hP hD hS => ?_)
        have eW := wz_i (q := q) (aa := aa) (i := 27) (fun _ _ => rfl) eZ30
        have hP : va_P (dC, dI) vwCl (bw q aa Z30) H := eW ▸ hP
        have hD : va_D A (bw q aa Z30) := eW ▸ hD
        clear eW
        refine lv_iinc (k := 0) (v := (u26 + (1 : Int32))) (lv' := [(3, .int (u26 + (1 : Int32))), (0, .ref (aa 26)), (1, .ref (aa 1)), (2, .int xa)]) hx hb dX4_start_14 hl rfl (ii_ _ _ _ (by decide)) (by decide) rfl (fun ls hl => ?_)
        refine lv_goto (tgt := 2) hx hb dX4_start_17 (by decide) ?_
        exact IH2 Z30 (u26 + (1 : Int32)) _ _ _ hF hP hD hS (lv_sub hl [0, 1, 2, 3] rfl)
  exact L2 100 Z (0 : Int32) _ _ _ hF hP hD hS (lv_sub hl [0, 1, 2, 3] rfl)

noncomputable def F_X4_countHeld_x23 (Z2 : Mem) : Option (Mem × Unit) :=
  some (Z2, ())

noncomputable def F_X4_countHeld_j61 (Z4 : Mem) (u3 : Int32) (B_23 : Mem → Int32 → Option (Mem × Unit)) (v12 : Int32) : Option (Mem × Unit) :=
  br (v12 = ((-1) : Int32)) (B_23 Z4 (u3 + (1 : Int32))) (gd (¬ (v12 < 0 ∨ 6 ≤ ix v12)) <| bv (Z4.2 29 (ix v12)) fun y15 => bv (Z4.2 (39 + (ix u3)) 6) fun y16 => gd ((FP.dadd y15 y16) &&& 0x7fffffffffffffff ≤ 0x7ff0000000000000) <| bv (FP.dadd y15 y16) fun y18 => bv (sd Z4 29 (ix v12) y18) fun Z19 => B_23 Z19 (u3 + (1 : Int32)))

noncomputable def F_X4_countHeld_l23 (xa : Int32) (K_23 : Mem → Option (Mem × Unit)) : Nat → Mem → Int32 → Option (Mem × Unit)
  | 0, _, _ => none
  | n23 + 1, Z4, u3 =>
  bv (Z4.1 1 7) fun y5 => br (y5 ≤ u3) (K_23 Z4) (gd (¬ (u3 < 0 ∨ 24 ≤ ix u3)) <| calp (F_X3_countsIn Z4 (ix u3) xa) fun rr11 => br (rr11 = (0 : Int32)) ((F_X4_countHeld_j61 Z4 u3 (F_X4_countHeld_l23 xa K_23 n23)) ((-1) : Int32)) (calp (F_X3_firstOf_28 Z4 (ix u3)) fun rr23 => (F_X4_countHeld_j61 Z4 u3 (F_X4_countHeld_l23 xa K_23 n23)) rr23))

noncomputable def F_X4_countHeld_x2 (xa : Int32) (Z1 : Mem) : Option (Mem × Unit) :=
  F_X4_countHeld_l23 xa F_X4_countHeld_x23 100 Z1 (0 : Int32)

noncomputable def F_X4_countHeld_l2 (K_2 : Mem → Option (Mem × Unit)) : Nat → Mem → Int32 → Option (Mem × Unit)
  | 0, _, _ => none
  | n2 + 1, Z25, u24 =>
  br ((6 : Int32) ≤ u24) (K_2 Z25) (gd (¬ (u24 < 0 ∨ 6 ≤ ix u24)) <| bv (sd Z25 29 (ix u24) FP.dconst0) fun Z28 => (F_X4_countHeld_l2 K_2 n2) Z28 (u24 + (1 : Int32)))

noncomputable def F_X4_countHeld (Z : Mem) (xa : Int32) : Option (Mem × Unit) :=
  F_X4_countHeld_l2 (F_X4_countHeld_x2 xa) 100 Z (0 : Int32)

set_option maxHeartbeats 4000000 in
set_option maxRecDepth 100000 in
theorem c_X4_countHeld (l : Launch) (dC : Nat → ClassId) (dI : Nat → Nat → Nat) (q : Nat → ClassId) (aa : Nat → Nat) (Z : Mem) (xa : Int32)  (sz : Nat) (Zo : Mem) (ro : Unit) (hF : F_X4_countHeld Z xa = some (Zo, ro)) : Met l yX4_countHeld wsX4_countHeld ({ frames := 3, cells := 0, slots := 0, locals := 62 }) (va_Pc [.ref (aa 26), .ref (aa 1), .int xa] (pr_ dC dI (bw q aa Z) (bty q) sz)) (va_Qv (fun (_ : Unit) => True) (fun (_ : Unit) t => po_ dC dI (bw q aa Zo) (bty q) (va_A (bw q aa Z) sz) t) (va_A (bw q aa Z) sz)) 0 0 (va_A (bw q aa Z) sz) := by
  refine Met.ofW (cc := cX4_countHeld) (maxL := 6) (ret := none) (by decide) rfl ?_
  intro p e s m args below meth c s₁ B hml hv
  obtain ⟨hargs, hsz, hP, hK, hD0⟩ := hv
  have hx := B.exec
  have hb := B.bytes
  have hr := B.returns
  have hts := atoms_spec (ws := wsX4_countHeld) B.pre
  have hown : s.vm.findClass RX4 = some m.cls := findClass_of_methodNamed B.named
  have hlocks := B.notSynchronized
  subst hsz
  have hD := hD0.self (sz := s.heap.size)
  generalize hAe : va_A (bw q aa Z) s.heap.size = A at hD ⊢
  have hA : ∀ x : Nat, s.heap.size ≤ x → A x := fun x h => by rw [← hAe]; exact Or.inr h
  have hS : va_S A s.heap s.heap [] := va_S.rf
  have hinX0 : ∀ w ∈ u_ws RX0 TX0 11, w ∈ wsX4_countHeld := by decide +kernel
  have hinX3 : ∀ w ∈ u_ws RX3 TX3 7, w ∈ wsX4_countHeld := by decide +kernel
  have hinX4 : ∀ w ∈ u_ws RX4 TX4 3, w ∈ wsX4_countHeld := by decide +kernel
  have hl := lv_entry ([.ref (aa 26), .ref (aa 1), .int xa]) (n := 6) (Nat.le_of_ble_eq_true rfl)
  refine w_ent hargs ?_
  rw [lg_entry_eq]
  generalize (lg_sl ([.ref (aa 26), .ref (aa 1), .int xa]) ++ List.replicate (6 - (lg_sl ([.ref (aa 26), .ref (aa 1), .int xa])).length) Slot.unset).toArray = ls at hl ⊢
  have hl : lv_has ls 6 [(0, .ref (aa 26)), (1, .ref (aa 1)), (2, .int xa)] := hl
  unfold F_X4_countHeld at hF
  refine w_go (fun Q hQ => ?_)
  refine lv_iconst (v := 0) hx hb dX4_countHeld_0 (by decide) ?_
  refine lv_istore_n (lv' := [(3, .int 0), (0, .ref (aa 26)), (1, .ref (aa 1)), (2, .int xa)]) hx hb dX4_countHeld_1 rfl hl (by decide) rfl (fun ls hl => ?_)
  have Jx2 : ∀ (Z1 : Mem) (H : Heap) (locs : List Loc) (ls : Array Slot), (F_X4_countHeld_x2 xa) Z1 = some (Zo, ro) → va_P (dC, dI) vwCl (bw q aa Z1) H → va_D A (bw q aa Z1) → va_S A s.heap H locs → lv_has ls 6 [(0, .ref (aa 26)), (1, .ref (aa 1)), (2, .int xa)] → W p l e (headSpec wsX4_countHeld ({ frames := 3, cells := 0, slots := 0, locals := 62 } : Room)).room s m args below meth c H locs 0 0 Q (F0 m 21 ls []) := by
    intro Z1 H locs ls hF hP hD hS hl
    unfold F_X4_countHeld_x2 at hF
    refine lv_iconst (v := 0) hx hb dX4_countHeld_21 (by decide) ?_
    refine lv_istore_n (lv' := [(3, .int 0), (0, .ref (aa 26)), (1, .ref (aa 1)), (2, .int xa)]) hx hb dX4_countHeld_22 rfl hl (by decide) rfl (fun ls hl => ?_)
    have Jx23 : ∀ (Z2 : Mem) (H : Heap) (locs : List Loc) (ls : Array Slot), F_X4_countHeld_x23 Z2 = some (Zo, ro) → va_P (dC, dI) vwCl (bw q aa Z2) H → va_D A (bw q aa Z2) → va_S A s.heap H locs → lv_has ls 6 [] → W p l e (headSpec wsX4_countHeld ({ frames := 3, cells := 0, slots := 0, locals := 62 } : Room)).room s m args below meth c H locs 0 0 Q (F0 m 90 ls []) := by
      intro Z2 H locs ls hF hP hD hS hl
      unfold F_X4_countHeld_x23 at hF
      obtain ⟨e8, e9⟩ := some2 hF
      rw [← e8] at hP hD
      subst hQ
      exact W.vret hx hb hr (fun t ht hW => ⟨⟨(), rfl, trivial, po_mk ht hW hP hK hD⟩, hS.F ht⟩) hS.2.2 dX4_countHeld_90
    have L23 : ∀ (n23 : Nat) (Z4 : Mem) (u3 : Int32) (H : Heap) (locs : List Loc) (ls : Array Slot), F_X4_countHeld_l23 xa F_X4_countHeld_x23 n23 Z4 u3 = some (Zo, ro) → va_P (dC, dI) vwCl (bw q aa Z4) H → va_D A (bw q aa Z4) → va_S A s.heap H locs → lv_has ls 6 [(3, .int u3), (0, .ref (aa 26)), (1, .ref (aa 1)), (2, .int xa)] → W p l e (headSpec wsX4_countHeld ({ frames := 3, cells := 0, slots := 0, locals := 62 } : Room)).room s m args below meth c H locs 0 0 Q (F0 m 23 ls []) := by
      intro n23
      induction n23 with
      | zero =>
        intro Z4 u3 H locs ls hF
        rw [F_X4_countHeld_l23] at hF
        cases hF
      | succ n23 IH23 =>
        intro Z4 u3 H locs ls hF hP hD hS hl
        rw [F_X4_countHeld_l23] at hF
        refine lv_iload_n hx hb dX4_countHeld_23 rfl (lv_at hl 0 rfl) ?_
        refine lv_aload_n hx hb dX4_countHeld_24 rfl (lv_at hl 2 rfl) ?_
        refine va_get (D := (dC, dI)) (ci := 2) (v := .int (Z4.1 1 7)) (C := RX0) (T := TX0) (N := 11) hx hb hts hinX0 hown hK hP 1 (bw_at (i := 1) (by decide) rfl) rfl 7 (by decide) (hts (.fieldLink RX4 58 "BallotLoom$Box" "cast" "I") (by decide +kernel)) (fun _ h9 => h9) rfl dX4_countHeld_25 ?_
        refine lv_topi (fun y5 ey5 => ?_)
        have hF := bv_at ey5 hF
        refine lv_icmp_ge (tgt := 90) hx hb dX4_countHeld_28 (by decide) (fun hc6 => ?_) (fun hc6 => ?_)
        · have hF := br_pos hc6 hF
          exact Jx23 Z4 _ _ _ hF hP hD hS (lv_sub hl [] rfl)
        · have hF := br_neg hc6 hF
          refine lv_aload_n hx hb dX4_countHeld_31 rfl (lv_at hl 2 rfl) ?_
          refine va_get (D := (dC, dI)) (ci := 2) (v := .ref (aa 5)) (C := RX0) (T := TX0) (N := 11) hx hb hts hinX0 hown hK hP 1 (bw_at (i := 1) (by decide) rfl) rfl 6 (by decide) (hts (.fieldLink RX4 61 "BallotLoom$Box" "stacks" "[LBallotLoom$Stack;") (by decide +kernel)) (fun _ h9 => h9) rfl dX4_countHeld_32 ?_
          refine lv_iload_n hx hb dX4_countHeld_35 rfl (lv_at hl 0 rfl) ?_
          obtain ⟨hg7, hF⟩ := gd_some hF
          have hk8 : ix u3 < 25 := in_lt hg7 (by decide)
          refine bq_ald (v := (aa (39 + (ix u3)))) (hty := rfl) hx hb hK hP 5 3 (at_q (by decide) (fun _ _ => rfl)) rfl hg7 (if_pos (in_lt hg7 (Nat.le_refl _))) dX4_countHeld_36 ?_
          refine lv_astore (lv' := [(4, .ref (aa (39 + (ix u3)))), (3, .int u3), (0, .ref (aa 26)), (1, .ref (aa 1)), (2, .int xa)]) hx hb dX4_countHeld_37 hl (by decide) rfl (fun ls hl => ?_)
          refine lv_aload hx hb dX4_countHeld_39 (lv_at hl 0 rfl) ?_
          refine lv_iload_n hx hb dX4_countHeld_41 rfl (lv_at hl 4 rfl) ?_
          obtain ⟨r10, hC9, hF⟩ := calp_some hF
          have hFc := b_free (ws := bw q aa Z4) hD hS hA
          refine va_calli (va_runV (As := [.int xa]) (rest := []) ⟨hx, hb, hml, hown, hts⟩ (c_X3_countsIn l dC dI q aa Z4 (ix u3) xa hk8 _ _  hC9) (cwV 1 hts gX4_countHeld_X3_countsIn rfl rfl rfl (by decide +kernel) ⟨Nat.le_of_ble_eq_true rfl, Nat.le_of_ble_eq_true rfl⟩) ⟨pr_blind, va_recv hK hP (ci := 5) (q0 := (39 + (ix u3))) rfl (bw_at (i := 39 + (ix u3)) (by omega) (bk_stk hk8 _ _)), fun U hU hW => ⟨rfl, pr_mk hU hW hP hK hD⟩⟩ rfl rfl hl.1 rfl (lv_room (Nat.le_of_ble_eq_true rfl)) dX4_countHeld_42 ⟨Nat.le_of_ble_eq_true rfl, Nat.le_of_ble_eq_true rfl⟩) hS (fun x _ h => hFc x h) hFc (fun rr11 u t H1 locs ht hvm hw hB hz1 hk1 hS => ?_)
          obtain ⟨hP, hK1, hD1⟩ := hB
          rw [ht] at hP
          have hD := hD1.weaken (fun _ q9 _ h9 => hFc q9.1 h9)
          clear hFc hD1 hK1 hvm hz1 hk1
          generalize H1 = H at hP hS ⊢
          refine W.widen (k := 0) (n := 0) (Nat.le_refl _) (Nat.le_refl _) ?_
          obtain rfl : rr11 = r10 := hw
          have Jj61 : ∀ (v12 : Int32) (H : Heap) (locs : List Loc) (ls : Array Slot), (F_X4_countHeld_j61 Z4 u3 (F_X4_countHeld_l23 xa F_X4_countHeld_x23 n23)) v12 = some (Zo, ro) → va_P (dC, dI) vwCl (bw q aa Z4) H → va_D A (bw q aa Z4) → va_S A s.heap H locs → lv_has ls 6 [(4, .ref (aa (39 + (ix u3)))), (3, .int u3), (0, .ref (aa 26)), (1, .ref (aa 1)), (2, .int xa)] → W p l e (headSpec wsX4_countHeld ({ frames := 3, cells := 0, slots := 0, locals := 62 } : Room)).room s m args below meth c H locs 0 0 Q (F0 m 61 ls [.int v12]) := by
            intro v12 H locs ls hF hP hD hS hl
            unfold F_X4_countHeld_j61 at hF
            refine lv_istore (lv' := [(5, .int v12), (4, .ref (aa (39 + (ix u3)))), (3, .int u3), (0, .ref (aa 26)), (1, .ref (aa 1)), (2, .int xa)]) hx hb dX4_countHeld_61 hl (by decide) rfl (fun ls hl => ?_)
            refine lv_iload hx hb dX4_countHeld_63 (lv_at hl 0 rfl) ?_
            refine lv_iconst (v := (-1)) hx hb dX4_countHeld_65 (by decide) ?_
            refine lv_icmp_eq (tgt := 84) hx hb dX4_countHeld_66 (by decide) (fun hc13 => ?_) (fun hc13 => ?_)
            · have hF := br_pos hc13 hF
              refine lv_iinc (k := 2) (v := (u3 + (1 : Int32))) (lv' := [(3, .int (u3 + (1 : Int32))), (5, .int v12), (4, .ref (aa (39 + (ix u3)))), (0, .ref (aa 26)), (1, .ref (aa 1)), (2, .int xa)]) hx hb dX4_countHeld_84 hl rfl (ii_ _ _ _ (by decide)) (by decide) rfl (fun ls hl => ?_)
              refine lv_goto (tgt := 23) hx hb dX4_countHeld_87 (by decide) ?_
              exact IH23 Z4 (u3 + (1 : Int32)) _ _ _ hF hP hD hS (lv_sub hl [0, 3, 4, 5] rfl)
            · have hF := br_neg hc13 hF
              refine lv_aload_n hx hb dX4_countHeld_69 rfl (lv_at hl 3 rfl) ?_
              refine va_get (D := (dC, dI)) (ci := 6) (v := .ref (aa 29)) (C := RX4) (T := TX4) (N := 3) hx hb hts hinX4 hown hK hP 26 (bw_at (i := 26) (by decide) rfl) rfl 2 (by decide) (hts (.fieldLink RX4 19 "BallotLoom$Transfers" "held" "[D") (by decide +kernel)) (fun _ h9 => h9) rfl dX4_countHeld_70 ?_
              refine lv_iload hx hb dX4_countHeld_73 (lv_at hl 0 rfl) ?_
              refine lv_dup2_11 hx hb dX4_countHeld_75 rfl rfl ?_
              obtain ⟨hg14, hF⟩ := gd_some hF
              refine va_dald hx hb hK hP 29 2 (at_d (by decide) (fun _ _ => rfl)) rfl hg14 dX4_countHeld_76 ?_
              refine lv_topd (fun y15 ey15 => ?_)
              have hF := bv_at ey15 hF
              refine lv_aload hx hb dX4_countHeld_77 (lv_at hl 1 rfl) ?_
              refine va_get (D := (dC, dI)) (ci := 5) (v := .double (Z4.2 (39 + (ix u3)) 6)) (C := RX3) (T := TX3) (N := 7) hx hb hts hinX3 hown hK hP (39 + (ix u3)) (bw_at (i := 39 + (ix u3)) (by omega) (bk_stk hk8 _ _)) rfl 6 (by decide) (hts (.fieldLink RX4 77 "BallotLoom$Stack" "value" "D") (by decide +kernel)) (fun _ h9 => h9) rfl dX4_countHeld_79 ?_
              refine lv_topd (fun y16 ey16 => ?_)
              have hF := bv_at ey16 hF
              obtain ⟨hg17, hF⟩ := gd_some hF
              refine lv_dadd hx hb dX4_countHeld_82 hg17 ?_
              refine lv_topd (fun y18 ey18 => ?_)
              have hF := bv_at ey18 hF
              obtain ⟨Z19, eZ19, hF⟩ := bv_some hF
              refine va_dast hx hb hK hP hD hS 29 2 (at_d (by decide) (fun _ _ => rfl)) rfl hg14 dX4_countHeld_83 (fun H locs hP hD hS => ?_)
              have eW := wz_d (q := q) (aa := aa) (i := 29) (fun _ _ => rfl) eZ19
              have hP : va_P (dC, dI) vwCl (bw q aa Z19) H := eW ▸ hP
              have hD : va_D A (bw q aa Z19) := eW ▸ hD
              clear eW
              refine lv_iinc (k := 2) (v := (u3 + (1 : Int32))) (lv' := [(3, .int (u3 + (1 : Int32))), (5, .int v12), (4, .ref (aa (39 + (ix u3)))), (0, .ref (aa 26)), (1, .ref (aa 1)), (2, .int xa)]) hx hb dX4_countHeld_84 hl rfl (ii_ _ _ _ (by decide)) (by decide) rfl (fun ls hl => ?_)
              refine lv_goto (tgt := 23) hx hb dX4_countHeld_87 (by decide) ?_
              exact IH23 Z19 (u3 + (1 : Int32)) _ _ _ hF hP hD hS (lv_sub hl [0, 3, 4, 5] rfl)
          refine lv_if_eq (tgt := 60) hx hb dX4_countHeld_45 (by decide) (fun hc20 => ?_) (fun hc20 => ?_)
          · have hF := br_pos hc20 hF
            refine lv_iconst (v := (-1)) hx hb dX4_countHeld_60 (by decide) ?_
            exact Jj61 ((-1) : Int32) _ _ _ hF hP hD hS (lv_sub hl [0, 1, 2, 3, 4] rfl)
          · have hF := br_neg hc20 hF
            refine lv_aload hx hb dX4_countHeld_48 (lv_at hl 0 rfl) ?_
            refine lv_aload_n hx hb dX4_countHeld_50 rfl (lv_at hl 2 rfl) ?_
            refine va_get (D := (dC, dI)) (ci := 6) (v := .ref (aa 28)) (C := RX4) (T := TX4) (N := 3) hx hb hts hinX4 hown hK hP 26 (bw_at (i := 26) (by decide) rfl) rfl 1 (by decide) (hts (.fieldLink RX4 15 "BallotLoom$Transfers" "isIn" "[Z") (by decide +kernel)) (fun _ h9 => h9) rfl dX4_countHeld_51 ?_
            obtain ⟨r22, hC21, hF⟩ := calp_some hF
            have hFc := b_free (ws := bw q aa Z4) hD hS hA
            refine va_calli (va_runV (As := [.ref (aa 28)]) (rest := []) ⟨hx, hb, hml, hown, hts⟩ (c_X3_firstOf_28 l dC dI q aa Z4 (ix u3) hk8 _ _  hC21) (cwV 1 hts gX4_countHeld_X3_firstOf rfl rfl rfl (by decide +kernel) ⟨Nat.le_of_ble_eq_true rfl, Nat.le_of_ble_eq_true rfl⟩) ⟨pr_blind, va_recv hK hP (ci := 5) (q0 := (39 + (ix u3))) rfl (bw_at (i := 39 + (ix u3)) (by omega) (bk_stk hk8 _ _)), fun U hU hW => ⟨rfl, pr_mk hU hW hP hK hD⟩⟩ rfl rfl hl.1 rfl (lv_room (Nat.le_of_ble_eq_true rfl)) dX4_countHeld_54 ⟨Nat.le_of_ble_eq_true rfl, Nat.le_of_ble_eq_true rfl⟩) hS (fun x _ h => hFc x h) hFc (fun rr23 u t H1 locs ht hvm hw hB hz1 hk1 hS => ?_)
            obtain ⟨hP, hK1, hD1⟩ := hB
            rw [ht] at hP
            have hD := hD1.weaken (fun _ q9 _ h9 => hFc q9.1 h9)
            clear hFc hD1 hK1 hvm hz1 hk1
            generalize H1 = H at hP hS ⊢
            refine W.widen (k := 0) (n := 0) (Nat.le_refl _) (Nat.le_refl _) ?_
            obtain rfl : rr23 = r22 := hw
            refine lv_goto (tgt := 61) hx hb dX4_countHeld_57 (by decide) ?_
            exact Jj61 rr23 _ _ _ hF hP hD hS (lv_sub hl [0, 1, 2, 3, 4] rfl)
    exact L23 100 Z1 (0 : Int32) _ _ _ hF hP hD hS (lv_sub hl [0, 1, 2, 3] rfl)
  have L2 : ∀ (n2 : Nat) (Z25 : Mem) (u24 : Int32) (H : Heap) (locs : List Loc) (ls : Array Slot), F_X4_countHeld_l2 (F_X4_countHeld_x2 xa) n2 Z25 u24 = some (Zo, ro) → va_P (dC, dI) vwCl (bw q aa Z25) H → va_D A (bw q aa Z25) → va_S A s.heap H locs → lv_has ls 6 [(3, .int u24), (0, .ref (aa 26)), (1, .ref (aa 1)), (2, .int xa)] → W p l e (headSpec wsX4_countHeld ({ frames := 3, cells := 0, slots := 0, locals := 62 } : Room)).room s m args below meth c H locs 0 0 Q (F0 m 2 ls []) := by
    intro n2
    induction n2 with
    | zero =>
      intro Z25 u24 H locs ls hF
      rw [F_X4_countHeld_l2] at hF
      cases hF
    | succ n2 IH2 =>
      intro Z25 u24 H locs ls hF hP hD hS hl
      rw [F_X4_countHeld_l2] at hF
      refine lv_iload_n hx hb dX4_countHeld_2 rfl (lv_at hl 0 rfl) ?_
      refine lv_bipush (v := 6) hx hb dX4_countHeld_3 (by decide) ?_
      refine lv_icmp_ge (tgt := 21) hx hb dX4_countHeld_5 (by decide) (fun hc26 => ?_) (fun hc26 => ?_)
      · have hF := br_pos hc26 hF
        exact Jx2 Z25 _ _ _ hF hP hD hS (lv_sub hl [1, 2, 3] rfl)
      · have hF := br_neg hc26 hF
        refine lv_aload_n hx hb dX4_countHeld_8 rfl (lv_at hl 1 rfl) ?_
        refine va_get (D := (dC, dI)) (ci := 6) (v := .ref (aa 29)) (C := RX4) (T := TX4) (N := 3) hx hb hts hinX4 hown hK hP 26 (bw_at (i := 26) (by decide) rfl) rfl 2 (by decide) (hts (.fieldLink RX4 19 "BallotLoom$Transfers" "held" "[D") (by decide +kernel)) (fun _ h9 => h9) rfl dX4_countHeld_9 ?_
        refine lv_iload_n hx hb dX4_countHeld_12 rfl (lv_at hl 0 rfl) ?_
        refine lv_dconst0 hx hb dX4_countHeld_13 ?_
        obtain ⟨hg27, hF⟩ := gd_some hF
        obtain ⟨Z28, eZ28, hF⟩ := bv_some hF
        refine va_dast hx hb hK hP hD hS 29 2 (at_d (by decide) (fun _ _ => rfl)) rfl hg27 dX4_countHeld_14 (fun H locs hP hD hS => ?_)
        have eW := wz_d (q := q) (aa := aa) (i := 29) (fun _ _ => rfl) eZ28
        have hP : va_P (dC, dI) vwCl (bw q aa Z28) H := eW ▸ hP
        have hD : va_D A (bw q aa Z28) := eW ▸ hD
        clear eW
        refine lv_iinc (k := 0) (v := (u24 + (1 : Int32))) (lv' := [(3, .int (u24 + (1 : Int32))), (0, .ref (aa 26)), (1, .ref (aa 1)), (2, .int xa)]) hx hb dX4_countHeld_15 hl rfl (ii_ _ _ _ (by decide)) (by decide) rfl (fun ls hl => ?_)
        refine lv_goto (tgt := 2) hx hb dX4_countHeld_18 (by decide) ?_
        exact IH2 Z28 (u24 + (1 : Int32)) _ _ _ hF hP hD hS (lv_sub hl [0, 1, 2, 3] rfl)
  exact L2 100 Z (0 : Int32) _ _ _ hF hP hD hS (lv_sub hl [0, 1, 2, 3] rfl)

noncomputable def F_X4_mostHeld_x4 (w1 : Int32) : Option Int32 :=
  some w1

noncomputable def F_X4_mostHeld_l4 (Z : Mem) (K_4 : Int32 → Option Int32) : Nat → Int32 → Int32 → Option Int32
  | 0, _, _ => none
  | n4 + 1, u2, u3 =>
  br ((6 : Int32) ≤ u3) (K_4 u2) (gd (¬ (u3 < 0 ∨ 6 ≤ ix u3)) <| bv (Z.1 28 (ix u3)) fun y6 => br (y6 = (0 : Int32)) ((F_X4_mostHeld_l4 Z K_4 n4) u2 (u3 + (1 : Int32))) (br (u2 = ((-1) : Int32)) ((F_X4_mostHeld_l4 Z K_4 n4) u3 (u3 + (1 : Int32))) (bv (Z.2 29 (ix u3)) fun y9 => gd (¬ (u2 < 0 ∨ 6 ≤ ix u2)) <| bv (Z.2 29 (ix u2)) fun y11 => bv (Op.cmpValue (FP.dcmp y9 y11) .l) fun y12 => br (y12 ≤ (0 : Int32)) ((F_X4_mostHeld_l4 Z K_4 n4) u2 (u3 + (1 : Int32))) ((F_X4_mostHeld_l4 Z K_4 n4) u3 (u3 + (1 : Int32))))))

noncomputable def F_X4_mostHeld (Z : Mem) : Option Int32 :=
  F_X4_mostHeld_l4 Z F_X4_mostHeld_x4 100 ((-1) : Int32) (0 : Int32)

set_option maxHeartbeats 4000000 in
set_option maxRecDepth 100000 in
theorem c_X4_mostHeld (l : Launch) (dC : Nat → ClassId) (dI : Nat → Nat → Nat) (q : Nat → ClassId) (aa : Nat → Nat) (Z : Mem)   (sz : Nat) (ro : Int32) (hF : F_X4_mostHeld Z  = some ro) : Met l yX4_mostHeld wsX4_mostHeld ({ frames := 2, cells := 0, slots := 0, locals := 40 }) (va_Pc [.ref (aa 26)] (pr_ dC dI (bw q aa Z) (bty q) sz)) (va_Qi (fun (r : Int32) (_ : Unit) => r = ro) (fun (_ : Unit) t => po_ dC dI (bw q aa Z) (bty q) (va_A (bw q aa Z) sz) t) (va_A (bw q aa Z) sz)) 0 0 (va_A (bw q aa Z) sz) := by
  refine Met.ofW (cc := cX4_mostHeld) (maxL := 3) (ret := (some .int)) (by decide) rfl ?_
  intro p e s m args below meth c s₁ B hml hv
  obtain ⟨hargs, hsz, hP, hK, hD0⟩ := hv
  have hx := B.exec
  have hb := B.bytes
  have hr := B.returns
  have hts := atoms_spec (ws := wsX4_mostHeld) B.pre
  have hown : s.vm.findClass RX4 = some m.cls := findClass_of_methodNamed B.named
  have hlocks := B.notSynchronized
  subst hsz
  have hD := hD0.self (sz := s.heap.size)
  generalize hAe : va_A (bw q aa Z) s.heap.size = A at hD ⊢
  have hA : ∀ x : Nat, s.heap.size ≤ x → A x := fun x h => by rw [← hAe]; exact Or.inr h
  have hS : va_S A s.heap s.heap [] := va_S.rf
  have hinX4 : ∀ w ∈ u_ws RX4 TX4 3, w ∈ wsX4_mostHeld := by decide +kernel
  have hl := lv_entry ([.ref (aa 26)]) (n := 3) (Nat.le_of_ble_eq_true rfl)
  refine w_ent hargs ?_
  rw [lg_entry_eq]
  generalize (lg_sl ([.ref (aa 26)]) ++ List.replicate (3 - (lg_sl ([.ref (aa 26)])).length) Slot.unset).toArray = ls at hl ⊢
  have hl : lv_has ls 3 [(0, .ref (aa 26))] := hl
  unfold F_X4_mostHeld at hF
  refine w_go (fun Q hQ => ?_)
  refine lv_iconst (v := (-1)) hx hb dX4_mostHeld_0 (by decide) ?_
  refine lv_istore_n (lv' := [(1, .int (-1)), (0, .ref (aa 26))]) hx hb dX4_mostHeld_1 rfl hl (by decide) rfl (fun ls hl => ?_)
  refine lv_iconst (v := 0) hx hb dX4_mostHeld_2 (by decide) ?_
  refine lv_istore_n (lv' := [(2, .int 0), (1, .int (-1)), (0, .ref (aa 26))]) hx hb dX4_mostHeld_3 rfl hl (by decide) rfl (fun ls hl => ?_)
  have Jx4 : ∀ (w1 : Int32) (H : Heap) (locs : List Loc) (ls : Array Slot), F_X4_mostHeld_x4 w1 = some ro → va_P (dC, dI) vwCl (bw q aa Z) H → va_D A (bw q aa Z) → va_S A s.heap H locs → lv_has ls 3 [(1, .int w1)] → W p l e (headSpec wsX4_mostHeld ({ frames := 2, cells := 0, slots := 0, locals := 40 } : Room)).room s m args below meth c H locs 0 0 Q (F0 m 48 ls []) := by
    intro w1 H locs ls hF hP hD hS hl
    unfold F_X4_mostHeld_x4 at hF
    refine lv_iload_n hx hb dX4_mostHeld_48 rfl (lv_at hl 0 rfl) ?_
    have e9 := some1 hF
    subst hQ
    exact W.iret (v := w1) hx hb hr (fun t ht hW => ⟨⟨w1, (), rfl, e9.symm, po_mk ht hW hP hK hD⟩, hS.F ht⟩) hS.2.2 dX4_mostHeld_49
  have L4 : ∀ (n4 : Nat) (u2 : Int32) (u3 : Int32) (H : Heap) (locs : List Loc) (ls : Array Slot), F_X4_mostHeld_l4 Z F_X4_mostHeld_x4 n4 u2 u3 = some ro → va_P (dC, dI) vwCl (bw q aa Z) H → va_D A (bw q aa Z) → va_S A s.heap H locs → lv_has ls 3 [(2, .int u3), (1, .int u2), (0, .ref (aa 26))] → W p l e (headSpec wsX4_mostHeld ({ frames := 2, cells := 0, slots := 0, locals := 40 } : Room)).room s m args below meth c H locs 0 0 Q (F0 m 4 ls []) := by
    intro n4
    induction n4 with
    | zero =>
      intro u2 u3 H locs ls hF
      rw [F_X4_mostHeld_l4] at hF
      cases hF
    | succ n4 IH4 =>
      intro u2 u3 H locs ls hF hP hD hS hl
      rw [F_X4_mostHeld_l4] at hF
      refine lv_iload_n hx hb dX4_mostHeld_4 rfl (lv_at hl 0 rfl) ?_
      refine lv_bipush (v := 6) hx hb dX4_mostHeld_5 (by decide) ?_
      refine lv_icmp_ge (tgt := 48) hx hb dX4_mostHeld_7 (by decide) (fun hc4 => ?_) (fun hc4 => ?_)
      · have hF := br_pos hc4 hF
        exact Jx4 u2 _ _ _ hF hP hD hS (lv_sub hl [1] rfl)
      · have hF := br_neg hc4 hF
        refine lv_aload_n hx hb dX4_mostHeld_10 rfl (lv_at hl 2 rfl) ?_
        refine va_get (D := (dC, dI)) (ci := 6) (v := .ref (aa 28)) (C := RX4) (T := TX4) (N := 3) hx hb hts hinX4 hown hK hP 26 (bw_at (i := 26) (by decide) rfl) rfl 1 (by decide) (hts (.fieldLink RX4 15 "BallotLoom$Transfers" "isIn" "[Z") (by decide +kernel)) (fun _ h9 => h9) rfl dX4_mostHeld_11 ?_
        refine lv_iload_n hx hb dX4_mostHeld_14 rfl (lv_at hl 0 rfl) ?_
        obtain ⟨hg5, hF⟩ := gd_some hF
        refine va_zald hx hb hK hP 28 1 (at_i (by decide) (fun _ _ => rfl)) rfl hg5 dX4_mostHeld_15 ?_
        refine lv_topi (fun y6 ey6 => ?_)
        have hF := bv_at ey6 hF
        refine lv_if_eq (tgt := 42) hx hb dX4_mostHeld_16 (by decide) (fun hc7 => ?_) (fun hc7 => ?_)
        · have hF := br_pos hc7 hF
          refine lv_iinc (k := 0) (v := (u3 + (1 : Int32))) (lv' := [(2, .int (u3 + (1 : Int32))), (1, .int u2), (0, .ref (aa 26))]) hx hb dX4_mostHeld_42 hl rfl (ii_ _ _ _ (by decide)) (by decide) rfl (fun ls hl => ?_)
          refine lv_goto (tgt := 4) hx hb dX4_mostHeld_45 (by decide) ?_
          exact IH4 u2 (u3 + (1 : Int32)) _ _ _ hF hP hD hS (lv_sub hl [0, 1, 2] rfl)
        · have hF := br_neg hc7 hF
          refine lv_iload_n hx hb dX4_mostHeld_19 rfl (lv_at hl 1 rfl) ?_
          refine lv_iconst (v := (-1)) hx hb dX4_mostHeld_20 (by decide) ?_
          refine lv_icmp_eq (tgt := 40) hx hb dX4_mostHeld_21 (by decide) (fun hc8 => ?_) (fun hc8 => ?_)
          · have hF := br_pos hc8 hF
            refine lv_iload_n hx hb dX4_mostHeld_40 rfl (lv_at hl 0 rfl) ?_
            refine lv_istore_n (lv' := [(1, .int u3), (2, .int u3), (0, .ref (aa 26))]) hx hb dX4_mostHeld_41 rfl hl (by decide) rfl (fun ls hl => ?_)
            refine lv_iinc (k := 1) (v := (u3 + (1 : Int32))) (lv' := [(2, .int (u3 + (1 : Int32))), (1, .int u3), (0, .ref (aa 26))]) hx hb dX4_mostHeld_42 hl rfl (ii_ _ _ _ (by decide)) (by decide) rfl (fun ls hl => ?_)
            refine lv_goto (tgt := 4) hx hb dX4_mostHeld_45 (by decide) ?_
            exact IH4 u3 (u3 + (1 : Int32)) _ _ _ hF hP hD hS (lv_sub hl [0, 1, 2] rfl)
          · have hF := br_neg hc8 hF
            refine lv_aload_n hx hb dX4_mostHeld_24 rfl (lv_at hl 2 rfl) ?_
            refine va_get (D := (dC, dI)) (ci := 6) (v := .ref (aa 29)) (C := RX4) (T := TX4) (N := 3) hx hb hts hinX4 hown hK hP 26 (bw_at (i := 26) (by decide) rfl) rfl 2 (by decide) (hts (.fieldLink RX4 19 "BallotLoom$Transfers" "held" "[D") (by decide +kernel)) (fun _ h9 => h9) rfl dX4_mostHeld_25 ?_
            refine lv_iload_n hx hb dX4_mostHeld_28 rfl (lv_at hl 0 rfl) ?_
            refine va_dald hx hb hK hP 29 2 (at_d (by decide) (fun _ _ => rfl)) rfl hg5 dX4_mostHeld_29 ?_
            refine lv_topd (fun y9 ey9 => ?_)
            have hF := bv_at ey9 hF
            refine lv_aload_n hx hb dX4_mostHeld_30 rfl (lv_at hl 2 rfl) ?_
            refine va_get (D := (dC, dI)) (ci := 6) (v := .ref (aa 29)) (C := RX4) (T := TX4) (N := 3) hx hb hts hinX4 hown hK hP 26 (bw_at (i := 26) (by decide) rfl) rfl 2 (by decide) (hts (.fieldLink RX4 19 "BallotLoom$Transfers" "held" "[D") (by decide +kernel)) (fun _ h9 => h9) rfl dX4_mostHeld_31 ?_
            refine lv_iload_n hx hb dX4_mostHeld_34 rfl (lv_at hl 1 rfl) ?_
            obtain ⟨hg10, hF⟩ := gd_some hF
            refine va_dald hx hb hK hP 29 2 (at_d (by decide) (fun _ _ => rfl)) rfl hg10 dX4_mostHeld_35 ?_
            refine lv_topd (fun y11 ey11 => ?_)
            have hF := bv_at ey11 hF
            refine lv_dcmp hx hb dX4_mostHeld_36 ?_
            refine lv_topi (fun y12 ey12 => ?_)
            have hF := bv_at ey12 hF
            refine lv_if_le (tgt := 42) hx hb dX4_mostHeld_37 (by decide) (fun hc13 => ?_) (fun hc13 => ?_)
            · have hF := br_pos hc13 hF
              refine lv_iinc (k := 0) (v := (u3 + (1 : Int32))) (lv' := [(2, .int (u3 + (1 : Int32))), (1, .int u2), (0, .ref (aa 26))]) hx hb dX4_mostHeld_42 hl rfl (ii_ _ _ _ (by decide)) (by decide) rfl (fun ls hl => ?_)
              refine lv_goto (tgt := 4) hx hb dX4_mostHeld_45 (by decide) ?_
              exact IH4 u2 (u3 + (1 : Int32)) _ _ _ hF hP hD hS (lv_sub hl [0, 1, 2] rfl)
            · have hF := br_neg hc13 hF
              refine lv_iload_n hx hb dX4_mostHeld_40 rfl (lv_at hl 0 rfl) ?_
              refine lv_istore_n (lv' := [(1, .int u3), (2, .int u3), (0, .ref (aa 26))]) hx hb dX4_mostHeld_41 rfl hl (by decide) rfl (fun ls hl => ?_)
              refine lv_iinc (k := 1) (v := (u3 + (1 : Int32))) (lv' := [(2, .int (u3 + (1 : Int32))), (1, .int u3), (0, .ref (aa 26))]) hx hb dX4_mostHeld_42 hl rfl (ii_ _ _ _ (by decide)) (by decide) rfl (fun ls hl => ?_)
              refine lv_goto (tgt := 4) hx hb dX4_mostHeld_45 (by decide) ?_
              exact IH4 u3 (u3 + (1 : Int32)) _ _ _ hF hP hD hS (lv_sub hl [0, 1, 2] rfl)
  exact L4 100 ((-1) : Int32) (0 : Int32) _ _ _ hF hP hD hS (lv_sub hl [0, 1, 2] rfl)

noncomputable def F_X4_leastHeld_x4 (w1 : Int32) : Option Int32 :=
  some w1

noncomputable def F_X4_leastHeld_l4 (Z : Mem) (K_4 : Int32 → Option Int32) : Nat → Int32 → Int32 → Option Int32
  | 0, _, _ => none
  | n4 + 1, u2, u3 =>
  br ((6 : Int32) ≤ u3) (K_4 u2) (gd (¬ (u3 < 0 ∨ 6 ≤ ix u3)) <| bv (Z.1 28 (ix u3)) fun y6 => br (y6 = (0 : Int32)) ((F_X4_leastHeld_l4 Z K_4 n4) u2 (u3 + (1 : Int32))) (bv (Z.2 29 (ix u3)) fun y8 => gd (¬ (u2 < 0 ∨ 6 ≤ ix u2)) <| bv (Z.2 29 (ix u2)) fun y10 => bv (Op.cmpValue (FP.dcmp y8 y10) .g) fun y11 => br ((0 : Int32) < y11) ((F_X4_leastHeld_l4 Z K_4 n4) u2 (u3 + (1 : Int32))) ((F_X4_leastHeld_l4 Z K_4 n4) u3 (u3 + (1 : Int32)))))

noncomputable def F_X4_leastHeld (Z : Mem) (xa : Int32) : Option Int32 :=
  F_X4_leastHeld_l4 Z F_X4_leastHeld_x4 100 xa (0 : Int32)

set_option maxHeartbeats 4000000 in
set_option maxRecDepth 100000 in
theorem c_X4_leastHeld (l : Launch) (dC : Nat → ClassId) (dI : Nat → Nat → Nat) (q : Nat → ClassId) (aa : Nat → Nat) (Z : Mem) (xa : Int32)  (sz : Nat) (ro : Int32) (hF : F_X4_leastHeld Z xa = some ro) : Met l yX4_leastHeld wsX4_leastHeld ({ frames := 2, cells := 0, slots := 0, locals := 40 }) (va_Pc [.ref (aa 26), .int xa] (pr_ dC dI (bw q aa Z) (bty q) sz)) (va_Qi (fun (r : Int32) (_ : Unit) => r = ro) (fun (_ : Unit) t => po_ dC dI (bw q aa Z) (bty q) (va_A (bw q aa Z) sz) t) (va_A (bw q aa Z) sz)) 0 0 (va_A (bw q aa Z) sz) := by
  refine Met.ofW (cc := cX4_leastHeld) (maxL := 4) (ret := (some .int)) (by decide) rfl ?_
  intro p e s m args below meth c s₁ B hml hv
  obtain ⟨hargs, hsz, hP, hK, hD0⟩ := hv
  have hx := B.exec
  have hb := B.bytes
  have hr := B.returns
  have hts := atoms_spec (ws := wsX4_leastHeld) B.pre
  have hown : s.vm.findClass RX4 = some m.cls := findClass_of_methodNamed B.named
  have hlocks := B.notSynchronized
  subst hsz
  have hD := hD0.self (sz := s.heap.size)
  generalize hAe : va_A (bw q aa Z) s.heap.size = A at hD ⊢
  have hA : ∀ x : Nat, s.heap.size ≤ x → A x := fun x h => by rw [← hAe]; exact Or.inr h
  have hS : va_S A s.heap s.heap [] := va_S.rf
  have hinX4 : ∀ w ∈ u_ws RX4 TX4 3, w ∈ wsX4_leastHeld := by decide +kernel
  have hl := lv_entry ([.ref (aa 26), .int xa]) (n := 4) (Nat.le_of_ble_eq_true rfl)
  refine w_ent hargs ?_
  rw [lg_entry_eq]
  generalize (lg_sl ([.ref (aa 26), .int xa]) ++ List.replicate (4 - (lg_sl ([.ref (aa 26), .int xa])).length) Slot.unset).toArray = ls at hl ⊢
  have hl : lv_has ls 4 [(0, .ref (aa 26)), (1, .int xa)] := hl
  unfold F_X4_leastHeld at hF
  refine w_go (fun Q hQ => ?_)
  refine lv_iload_n hx hb dX4_leastHeld_0 rfl (lv_at hl 1 rfl) ?_
  refine lv_istore_n (lv' := [(2, .int xa), (0, .ref (aa 26)), (1, .int xa)]) hx hb dX4_leastHeld_1 rfl hl (by decide) rfl (fun ls hl => ?_)
  refine lv_iconst (v := 0) hx hb dX4_leastHeld_2 (by decide) ?_
  refine lv_istore_n (lv' := [(3, .int 0), (2, .int xa), (0, .ref (aa 26)), (1, .int xa)]) hx hb dX4_leastHeld_3 rfl hl (by decide) rfl (fun ls hl => ?_)
  have Jx4 : ∀ (w1 : Int32) (H : Heap) (locs : List Loc) (ls : Array Slot), F_X4_leastHeld_x4 w1 = some ro → va_P (dC, dI) vwCl (bw q aa Z) H → va_D A (bw q aa Z) → va_S A s.heap H locs → lv_has ls 4 [(2, .int w1)] → W p l e (headSpec wsX4_leastHeld ({ frames := 2, cells := 0, slots := 0, locals := 40 } : Room)).room s m args below meth c H locs 0 0 Q (F0 m 43 ls []) := by
    intro w1 H locs ls hF hP hD hS hl
    unfold F_X4_leastHeld_x4 at hF
    refine lv_iload_n hx hb dX4_leastHeld_43 rfl (lv_at hl 0 rfl) ?_
    have e9 := some1 hF
    subst hQ
    exact W.iret (v := w1) hx hb hr (fun t ht hW => ⟨⟨w1, (), rfl, e9.symm, po_mk ht hW hP hK hD⟩, hS.F ht⟩) hS.2.2 dX4_leastHeld_44
  have L4 : ∀ (n4 : Nat) (u2 : Int32) (u3 : Int32) (H : Heap) (locs : List Loc) (ls : Array Slot), F_X4_leastHeld_l4 Z F_X4_leastHeld_x4 n4 u2 u3 = some ro → va_P (dC, dI) vwCl (bw q aa Z) H → va_D A (bw q aa Z) → va_S A s.heap H locs → lv_has ls 4 [(3, .int u3), (2, .int u2), (0, .ref (aa 26))] → W p l e (headSpec wsX4_leastHeld ({ frames := 2, cells := 0, slots := 0, locals := 40 } : Room)).room s m args below meth c H locs 0 0 Q (F0 m 4 ls []) := by
    intro n4
    induction n4 with
    | zero =>
      intro u2 u3 H locs ls hF
      rw [F_X4_leastHeld_l4] at hF
      cases hF
    | succ n4 IH4 =>
      intro u2 u3 H locs ls hF hP hD hS hl
      rw [F_X4_leastHeld_l4] at hF
      refine lv_iload_n hx hb dX4_leastHeld_4 rfl (lv_at hl 0 rfl) ?_
      refine lv_bipush (v := 6) hx hb dX4_leastHeld_5 (by decide) ?_
      refine lv_icmp_ge (tgt := 43) hx hb dX4_leastHeld_7 (by decide) (fun hc4 => ?_) (fun hc4 => ?_)
      · have hF := br_pos hc4 hF
        exact Jx4 u2 _ _ _ hF hP hD hS (lv_sub hl [1] rfl)
      · have hF := br_neg hc4 hF
        refine lv_aload_n hx hb dX4_leastHeld_10 rfl (lv_at hl 2 rfl) ?_
        refine va_get (D := (dC, dI)) (ci := 6) (v := .ref (aa 28)) (C := RX4) (T := TX4) (N := 3) hx hb hts hinX4 hown hK hP 26 (bw_at (i := 26) (by decide) rfl) rfl 1 (by decide) (hts (.fieldLink RX4 15 "BallotLoom$Transfers" "isIn" "[Z") (by decide +kernel)) (fun _ h9 => h9) rfl dX4_leastHeld_11 ?_
        refine lv_iload_n hx hb dX4_leastHeld_14 rfl (lv_at hl 0 rfl) ?_
        obtain ⟨hg5, hF⟩ := gd_some hF
        refine va_zald hx hb hK hP 28 1 (at_i (by decide) (fun _ _ => rfl)) rfl hg5 dX4_leastHeld_15 ?_
        refine lv_topi (fun y6 ey6 => ?_)
        have hF := bv_at ey6 hF
        refine lv_if_eq (tgt := 37) hx hb dX4_leastHeld_16 (by decide) (fun hc7 => ?_) (fun hc7 => ?_)
        · have hF := br_pos hc7 hF
          refine lv_iinc (k := 0) (v := (u3 + (1 : Int32))) (lv' := [(3, .int (u3 + (1 : Int32))), (2, .int u2), (0, .ref (aa 26))]) hx hb dX4_leastHeld_37 hl rfl (ii_ _ _ _ (by decide)) (by decide) rfl (fun ls hl => ?_)
          refine lv_goto (tgt := 4) hx hb dX4_leastHeld_40 (by decide) ?_
          exact IH4 u2 (u3 + (1 : Int32)) _ _ _ hF hP hD hS (lv_sub hl [0, 1, 2] rfl)
        · have hF := br_neg hc7 hF
          refine lv_aload_n hx hb dX4_leastHeld_19 rfl (lv_at hl 2 rfl) ?_
          refine va_get (D := (dC, dI)) (ci := 6) (v := .ref (aa 29)) (C := RX4) (T := TX4) (N := 3) hx hb hts hinX4 hown hK hP 26 (bw_at (i := 26) (by decide) rfl) rfl 2 (by decide) (hts (.fieldLink RX4 19 "BallotLoom$Transfers" "held" "[D") (by decide +kernel)) (fun _ h9 => h9) rfl dX4_leastHeld_20 ?_
          refine lv_iload_n hx hb dX4_leastHeld_23 rfl (lv_at hl 0 rfl) ?_
          refine va_dald hx hb hK hP 29 2 (at_d (by decide) (fun _ _ => rfl)) rfl hg5 dX4_leastHeld_24 ?_
          refine lv_topd (fun y8 ey8 => ?_)
          have hF := bv_at ey8 hF
          refine lv_aload_n hx hb dX4_leastHeld_25 rfl (lv_at hl 2 rfl) ?_
          refine va_get (D := (dC, dI)) (ci := 6) (v := .ref (aa 29)) (C := RX4) (T := TX4) (N := 3) hx hb hts hinX4 hown hK hP 26 (bw_at (i := 26) (by decide) rfl) rfl 2 (by decide) (hts (.fieldLink RX4 19 "BallotLoom$Transfers" "held" "[D") (by decide +kernel)) (fun _ h9 => h9) rfl dX4_leastHeld_26 ?_
          refine lv_iload_n hx hb dX4_leastHeld_29 rfl (lv_at hl 1 rfl) ?_
          obtain ⟨hg9, hF⟩ := gd_some hF
          refine va_dald hx hb hK hP 29 2 (at_d (by decide) (fun _ _ => rfl)) rfl hg9 dX4_leastHeld_30 ?_
          refine lv_topd (fun y10 ey10 => ?_)
          have hF := bv_at ey10 hF
          refine lv_dcmp hx hb dX4_leastHeld_31 ?_
          refine lv_topi (fun y11 ey11 => ?_)
          have hF := bv_at ey11 hF
          refine lv_if_gt (tgt := 37) hx hb dX4_leastHeld_32 (by decide) (fun hc12 => ?_) (fun hc12 => ?_)
          · have hF := br_pos hc12 hF
            refine lv_iinc (k := 0) (v := (u3 + (1 : Int32))) (lv' := [(3, .int (u3 + (1 : Int32))), (2, .int u2), (0, .ref (aa 26))]) hx hb dX4_leastHeld_37 hl rfl (ii_ _ _ _ (by decide)) (by decide) rfl (fun ls hl => ?_)
            refine lv_goto (tgt := 4) hx hb dX4_leastHeld_40 (by decide) ?_
            exact IH4 u2 (u3 + (1 : Int32)) _ _ _ hF hP hD hS (lv_sub hl [0, 1, 2] rfl)
          · have hF := br_neg hc12 hF
            refine lv_iload_n hx hb dX4_leastHeld_35 rfl (lv_at hl 0 rfl) ?_
            refine lv_istore_n (lv' := [(2, .int u3), (3, .int u3), (0, .ref (aa 26))]) hx hb dX4_leastHeld_36 rfl hl (by decide) rfl (fun ls hl => ?_)
            refine lv_iinc (k := 1) (v := (u3 + (1 : Int32))) (lv' := [(3, .int (u3 + (1 : Int32))), (2, .int u3), (0, .ref (aa 26))]) hx hb dX4_leastHeld_37 hl rfl (ii_ _ _ _ (by decide)) (by decide) rfl (fun ls hl => ?_)
            refine lv_goto (tgt := 4) hx hb dX4_leastHeld_40 (by decide) ?_
            exact IH4 u3 (u3 + (1 : Int32)) _ _ _ hF hP hD hS (lv_sub hl [0, 1, 2] rfl)
  exact L4 100 xa (0 : Int32) _ _ _ hF hP hD hS (lv_sub hl [0, 1, 2] rfl)

noncomputable def F_X4_loweredValue (Z : Mem) (xa : UInt64) (xb : UInt64) (xc : Int32) : Option UInt64 :=
  bv (FP.i2d xc) fun y1 => bv (Op.cmpValue (FP.dcmp xb y1) .g) fun y2 => br (y2 < (0 : Int32)) (some FP.dconst0) (bv (Op.cmpValue (FP.dcmp xb FP.dconst0) .g) fun y4 => br ((0 : Int32) < y4) (gd ((FP.dmul (4652218415073722368 : UInt64) xa) &&& 0x7fffffffffffffff ≤ 0x7ff0000000000000) <| bv (FP.dmul (4652218415073722368 : UInt64) xa) fun y7 => bv (FP.i2d xc) fun y8 => gd ((FP.dsub xb y8) &&& 0x7fffffffffffffff ≤ 0x7ff0000000000000) <| bv (FP.dsub xb y8) fun y10 => gd ((FP.dmul y7 y10) &&& 0x7fffffffffffffff ≤ 0x7ff0000000000000) <| bv (FP.dmul y7 y10) fun y12 => gd ((FP.ddiv y12 xb) &&& 0x7fffffffffffffff ≤ 0x7ff0000000000000) <| bv (FP.ddiv y12 xb) fun y14 => bv (FP.d2l y14) fun y15 => bv (FP.l2d y15) fun y16 => gd ((FP.ddiv y16 (4652218415073722368 : UInt64)) &&& 0x7fffffffffffffff ≤ 0x7ff0000000000000) <| bv (FP.ddiv y16 (4652218415073722368 : UInt64)) fun y18 => some y18) (some FP.dconst0))

set_option maxHeartbeats 4000000 in
set_option maxRecDepth 100000 in
theorem c_X4_loweredValue (l : Launch) (dC : Nat → ClassId) (dI : Nat → Nat → Nat) (q : Nat → ClassId) (aa : Nat → Nat) (Z : Mem) (xa : UInt64) (xb : UInt64) (xc : Int32)  (sz : Nat) (ro : UInt64) (hF : F_X4_loweredValue Z xa xb xc = some ro) : Met l yX4_loweredValue wsX4_loweredValue ({ frames := 2, cells := 0, slots := 0, locals := 40 }) (va_Pc [.double xa, .double xb, .int xc] (pr_ dC dI (bw q aa Z) (bty q) sz)) (va_Qd (fun (r : UInt64) (_ : Unit) => r = ro) (fun (_ : Unit) t => po_ dC dI (bw q aa Z) (bty q) (va_A (bw q aa Z) sz) t) (va_A (bw q aa Z) sz)) 0 0 (va_A (bw q aa Z) sz) := by
  refine Met.ofW (cc := cX4_loweredValue) (maxL := 7) (ret := (some .double)) (by decide) rfl ?_
  intro p e s m args below meth c s₁ B hml hv
  obtain ⟨hargs, hsz, hP, hK, hD0⟩ := hv
  have hx := B.exec
  have hb := B.bytes
  have hr := B.returns
  have hts := atoms_spec (ws := wsX4_loweredValue) B.pre
  have hown : s.vm.findClass RX4 = some m.cls := findClass_of_methodNamed B.named
  have hlocks := B.notSynchronized
  subst hsz
  have hD := hD0.self (sz := s.heap.size)
  generalize hAe : va_A (bw q aa Z) s.heap.size = A at hD ⊢
  have hA : ∀ x : Nat, s.heap.size ≤ x → A x := fun x h => by rw [← hAe]; exact Or.inr h
  have hS : va_S A s.heap s.heap [] := va_S.rf
  have hl := lv_entry ([.double xa, .double xb, .int xc]) (n := 7) (Nat.le_of_ble_eq_true rfl)
  refine w_ent hargs ?_
  rw [lg_entry_eq]
  generalize (lg_sl ([.double xa, .double xb, .int xc]) ++ List.replicate (7 - (lg_sl ([.double xa, .double xb, .int xc])).length) Slot.unset).toArray = ls at hl ⊢
  have hl : lv_has ls 7 [(0, .double xa), (2, .double xb), (4, .int xc)] := hl
  unfold F_X4_loweredValue at hF
  refine w_go (fun Q hQ => ?_)
  refine lv_dload_n hx hb dX4_loweredValue_0 rfl (lv_at hl 1 rfl) ?_
  refine lv_iload hx hb dX4_loweredValue_1 (lv_at hl 2 rfl) ?_
  refine lv_i2d hx hb dX4_loweredValue_3 ?_
  refine lv_topd (fun y1 ey1 => ?_)
  have hF := bv_at ey1 hF
  refine lv_dcmp hx hb dX4_loweredValue_4 ?_
  refine lv_topi (fun y2 ey2 => ?_)
  have hF := bv_at ey2 hF
  refine lv_if_lt (tgt := 14) hx hb dX4_loweredValue_5 (by decide) (fun hc3 => ?_) (fun hc3 => ?_)
  · have hF := br_pos hc3 hF
    refine lv_dconst0 hx hb dX4_loweredValue_14 ?_
    have e9 := some1 hF
    subst hQ
    exact W.dret (v := FP.dconst0) hx hb hr (fun t ht hW => ⟨⟨FP.dconst0, (), rfl, e9.symm, po_mk ht hW hP hK hD⟩, hS.F ht⟩) hS.2.2 dX4_loweredValue_15
  · have hF := br_neg hc3 hF
    refine lv_dload_n hx hb dX4_loweredValue_8 rfl (lv_at hl 1 rfl) ?_
    refine lv_dconst0 hx hb dX4_loweredValue_9 ?_
    refine lv_dcmp hx hb dX4_loweredValue_10 ?_
    refine lv_topi (fun y4 ey4 => ?_)
    have hF := bv_at ey4 hF
    refine lv_if_gt (tgt := 16) hx hb dX4_loweredValue_11 (by decide) (fun hc5 => ?_) (fun hc5 => ?_)
    · have hF := br_pos hc5 hF
      refine lv_ldc2d (v := 4652218415073722368) hx hb hown (hts (.constantDouble RX4 92 (4652218415073722368)) (by decide +kernel)) dX4_loweredValue_16 ?_
      refine lv_dload_n hx hb dX4_loweredValue_19 rfl (lv_at hl 0 rfl) ?_
      obtain ⟨hg6, hF⟩ := gd_some hF
      refine lv_dmul hx hb dX4_loweredValue_20 hg6 ?_
      refine lv_topd (fun y7 ey7 => ?_)
      have hF := bv_at ey7 hF
      refine lv_dload_n hx hb dX4_loweredValue_21 rfl (lv_at hl 1 rfl) ?_
      refine lv_iload hx hb dX4_loweredValue_22 (lv_at hl 2 rfl) ?_
      refine lv_i2d hx hb dX4_loweredValue_24 ?_
      refine lv_topd (fun y8 ey8 => ?_)
      have hF := bv_at ey8 hF
      obtain ⟨hg9, hF⟩ := gd_some hF
      refine lv_dsub hx hb dX4_loweredValue_25 hg9 ?_
      refine lv_topd (fun y10 ey10 => ?_)
      have hF := bv_at ey10 hF
      obtain ⟨hg11, hF⟩ := gd_some hF
      refine lv_dmul hx hb dX4_loweredValue_26 hg11 ?_
      refine lv_topd (fun y12 ey12 => ?_)
      have hF := bv_at ey12 hF
      refine lv_dload_n hx hb dX4_loweredValue_27 rfl (lv_at hl 1 rfl) ?_
      obtain ⟨hg13, hF⟩ := gd_some hF
      refine lv_ddiv hx hb dX4_loweredValue_28 hg13 ?_
      refine lv_topd (fun y14 ey14 => ?_)
      have hF := bv_at ey14 hF
      refine lv_dstore (lv' := [(5, .double y14), (0, .double xa), (2, .double xb), (4, .int xc)]) hx hb dX4_loweredValue_29 hl (by decide) rfl (fun ls hl => ?_)
      refine lv_dload hx hb dX4_loweredValue_31 (lv_at hl 0 rfl) ?_
      refine lv_d2l hx hb dX4_loweredValue_33 ?_
      refine lv_topl (fun y15 ey15 => ?_)
      have hF := bv_at ey15 hF
      refine lv_l2d hx hb dX4_loweredValue_34 ?_
      refine lv_topd (fun y16 ey16 => ?_)
      have hF := bv_at ey16 hF
      refine lv_ldc2d (v := 4652218415073722368) hx hb hown (hts (.constantDouble RX4 92 (4652218415073722368)) (by decide +kernel)) dX4_loweredValue_35 ?_
      obtain ⟨hg17, hF⟩ := gd_some hF
      refine lv_ddiv hx hb dX4_loweredValue_38 hg17 ?_
      refine lv_topd (fun y18 ey18 => ?_)
      have hF := bv_at ey18 hF
      have e9 := some1 hF
      subst hQ
      exact W.dret (v := y18) hx hb hr (fun t ht hW => ⟨⟨y18, (), rfl, e9.symm, po_mk ht hW hP hK hD⟩, hS.F ht⟩) hS.2.2 dX4_loweredValue_39
    · have hF := br_neg hc5 hF
      refine lv_dconst0 hx hb dX4_loweredValue_14 ?_
      have e9 := some1 hF
      subst hQ
      exact W.dret (v := FP.dconst0) hx hb hr (fun t ht hW => ⟨⟨FP.dconst0, (), rfl, e9.symm, po_mk ht hW hP hK hD⟩, hS.F ht⟩) hS.2.2 dX4_loweredValue_15

noncomputable def F_X4_lowerValues_x3 (Z1 : Mem) : Option (Mem × Unit) :=
  some (Z1, ())

noncomputable def F_X4_lowerValues_l3 (xa : Int32) (xb : Int32) (xc : Int32) (K_3 : Mem → Option (Mem × Unit)) : Nat → Mem → Int32 → Option (Mem × Unit)
  | 0, _, _ => none
  | n3 + 1, Z3, u2 =>
  bv (Z3.1 1 7) fun y4 => br (y4 ≤ u2) (K_3 Z3) (gd (¬ (u2 < 0 ∨ 24 ≤ ix u2)) <| calp (F_X3_countsIn Z3 (ix u2) xa) fun rr10 => br (rr10 = (0 : Int32)) ((F_X4_lowerValues_l3 xa xb xc K_3 n3) Z3 (u2 + (1 : Int32))) (calp (F_X3_firstOf_28 Z3 (ix u2)) fun rr14 => br (rr14 = xb) (bv (Z3.2 (39 + (ix u2)) 6) fun y16 => gd (¬ (xb < 0 ∨ 6 ≤ ix xb)) <| bv (Z3.2 29 (ix xb)) fun y18 => calp (F_X4_loweredValue Z3 y16 y18 xc) fun rr21 => bv (sd Z3 (39 + (ix u2)) 6 rr21) fun Z22 => (F_X4_lowerValues_l3 xa xb xc K_3 n3) Z22 (u2 + (1 : Int32))) ((F_X4_lowerValues_l3 xa xb xc K_3 n3) Z3 (u2 + (1 : Int32)))))

noncomputable def F_X4_lowerValues (Z : Mem) (xa : Int32) (xb : Int32) (xc : Int32) : Option (Mem × Unit) :=
  F_X4_lowerValues_l3 xa xb xc F_X4_lowerValues_x3 100 Z (0 : Int32)

set_option maxHeartbeats 4000000 in
set_option maxRecDepth 100000 in
theorem c_X4_lowerValues (l : Launch) (dC : Nat → ClassId) (dI : Nat → Nat → Nat) (q : Nat → ClassId) (aa : Nat → Nat) (Z : Mem) (xa : Int32) (xb : Int32) (xc : Int32)  (sz : Nat) (Zo : Mem) (ro : Unit) (hF : F_X4_lowerValues Z xa xb xc = some (Zo, ro)) : Met l yX4_lowerValues wsX4_lowerValues ({ frames := 3, cells := 0, slots := 0, locals := 66 }) (va_Pc [.ref (aa 26), .ref (aa 1), .int xa, .int xb, .int xc] (pr_ dC dI (bw q aa Z) (bty q) sz)) (va_Qv (fun (_ : Unit) => True) (fun (_ : Unit) t => po_ dC dI (bw q aa Zo) (bty q) (va_A (bw q aa Z) sz) t) (va_A (bw q aa Z) sz)) 0 0 (va_A (bw q aa Z) sz) := by
  refine Met.ofW (cc := cX4_lowerValues) (maxL := 7) (ret := none) (by decide) rfl ?_
  intro p e s m args below meth c s₁ B hml hv
  obtain ⟨hargs, hsz, hP, hK, hD0⟩ := hv
  have hx := B.exec
  have hb := B.bytes
  have hr := B.returns
  have hts := atoms_spec (ws := wsX4_lowerValues) B.pre
  have hown : s.vm.findClass RX4 = some m.cls := findClass_of_methodNamed B.named
  have hlocks := B.notSynchronized
  subst hsz
  have hD := hD0.self (sz := s.heap.size)
  generalize hAe : va_A (bw q aa Z) s.heap.size = A at hD ⊢
  have hA : ∀ x : Nat, s.heap.size ≤ x → A x := fun x h => by rw [← hAe]; exact Or.inr h
  have hS : va_S A s.heap s.heap [] := va_S.rf
  have hinX0 : ∀ w ∈ u_ws RX0 TX0 11, w ∈ wsX4_lowerValues := by decide +kernel
  have hinX3 : ∀ w ∈ u_ws RX3 TX3 7, w ∈ wsX4_lowerValues := by decide +kernel
  have hinX4 : ∀ w ∈ u_ws RX4 TX4 3, w ∈ wsX4_lowerValues := by decide +kernel
  have hl := lv_entry ([.ref (aa 26), .ref (aa 1), .int xa, .int xb, .int xc]) (n := 7) (Nat.le_of_ble_eq_true rfl)
  refine w_ent hargs ?_
  rw [lg_entry_eq]
  generalize (lg_sl ([.ref (aa 26), .ref (aa 1), .int xa, .int xb, .int xc]) ++ List.replicate (7 - (lg_sl ([.ref (aa 26), .ref (aa 1), .int xa, .int xb, .int xc])).length) Slot.unset).toArray = ls at hl ⊢
  have hl : lv_has ls 7 [(0, .ref (aa 26)), (1, .ref (aa 1)), (2, .int xa), (3, .int xb), (4, .int xc)] := hl
  unfold F_X4_lowerValues at hF
  refine w_go (fun Q hQ => ?_)
  refine lv_iconst (v := 0) hx hb dX4_lowerValues_0 (by decide) ?_
  refine lv_istore (lv' := [(5, .int 0), (0, .ref (aa 26)), (1, .ref (aa 1)), (2, .int xa), (3, .int xb), (4, .int xc)]) hx hb dX4_lowerValues_1 hl (by decide) rfl (fun ls hl => ?_)
  have Jx3 : ∀ (Z1 : Mem) (H : Heap) (locs : List Loc) (ls : Array Slot), F_X4_lowerValues_x3 Z1 = some (Zo, ro) → va_P (dC, dI) vwCl (bw q aa Z1) H → va_D A (bw q aa Z1) → va_S A s.heap H locs → lv_has ls 7 [] → W p l e (headSpec wsX4_lowerValues ({ frames := 3, cells := 0, slots := 0, locals := 66 } : Room)).room s m args below meth c H locs 0 0 Q (F0 m 70 ls []) := by
    intro Z1 H locs ls hF hP hD hS hl
    unfold F_X4_lowerValues_x3 at hF
    obtain ⟨e8, e9⟩ := some2 hF
    rw [← e8] at hP hD
    subst hQ
    exact W.vret hx hb hr (fun t ht hW => ⟨⟨(), rfl, trivial, po_mk ht hW hP hK hD⟩, hS.F ht⟩) hS.2.2 dX4_lowerValues_70
  have L3 : ∀ (n3 : Nat) (Z3 : Mem) (u2 : Int32) (H : Heap) (locs : List Loc) (ls : Array Slot), F_X4_lowerValues_l3 xa xb xc F_X4_lowerValues_x3 n3 Z3 u2 = some (Zo, ro) → va_P (dC, dI) vwCl (bw q aa Z3) H → va_D A (bw q aa Z3) → va_S A s.heap H locs → lv_has ls 7 [(5, .int u2), (0, .ref (aa 26)), (1, .ref (aa 1)), (2, .int xa), (3, .int xb), (4, .int xc)] → W p l e (headSpec wsX4_lowerValues ({ frames := 3, cells := 0, slots := 0, locals := 66 } : Room)).room s m args below meth c H locs 0 0 Q (F0 m 3 ls []) := by
    intro n3
    induction n3 with
    | zero =>
      intro Z3 u2 H locs ls hF
      rw [F_X4_lowerValues_l3] at hF
      cases hF
    | succ n3 IH3 =>
      intro Z3 u2 H locs ls hF hP hD hS hl
      rw [F_X4_lowerValues_l3] at hF
      refine lv_iload hx hb dX4_lowerValues_3 (lv_at hl 0 rfl) ?_
      refine lv_aload_n hx hb dX4_lowerValues_5 rfl (lv_at hl 2 rfl) ?_
      refine va_get (D := (dC, dI)) (ci := 2) (v := .int (Z3.1 1 7)) (C := RX0) (T := TX0) (N := 11) hx hb hts hinX0 hown hK hP 1 (bw_at (i := 1) (by decide) rfl) rfl 7 (by decide) (hts (.fieldLink RX4 58 "BallotLoom$Box" "cast" "I") (by decide +kernel)) (fun _ h9 => h9) rfl dX4_lowerValues_6 ?_
      refine lv_topi (fun y4 ey4 => ?_)
      have hF := bv_at ey4 hF
      refine lv_icmp_ge (tgt := 70) hx hb dX4_lowerValues_9 (by decide) (fun hc5 => ?_) (fun hc5 => ?_)
      · have hF := br_pos hc5 hF
        exact Jx3 Z3 _ _ _ hF hP hD hS (lv_sub hl [] rfl)
      · have hF := br_neg hc5 hF
        refine lv_aload_n hx hb dX4_lowerValues_12 rfl (lv_at hl 2 rfl) ?_
        refine va_get (D := (dC, dI)) (ci := 2) (v := .ref (aa 5)) (C := RX0) (T := TX0) (N := 11) hx hb hts hinX0 hown hK hP 1 (bw_at (i := 1) (by decide) rfl) rfl 6 (by decide) (hts (.fieldLink RX4 61 "BallotLoom$Box" "stacks" "[LBallotLoom$Stack;") (by decide +kernel)) (fun _ h9 => h9) rfl dX4_lowerValues_13 ?_
        refine lv_iload hx hb dX4_lowerValues_16 (lv_at hl 0 rfl) ?_
        obtain ⟨hg6, hF⟩ := gd_some hF
        have hk7 : ix u2 < 25 := in_lt hg6 (by decide)
        refine bq_ald (v := (aa (39 + (ix u2)))) (hty := rfl) hx hb hK hP 5 3 (at_q (by decide) (fun _ _ => rfl)) rfl hg6 (if_pos (in_lt hg6 (Nat.le_refl _))) dX4_lowerValues_18 ?_
        refine lv_astore (lv' := [(6, .ref (aa (39 + (ix u2)))), (5, .int u2), (0, .ref (aa 26)), (1, .ref (aa 1)), (2, .int xa), (3, .int xb), (4, .int xc)]) hx hb dX4_lowerValues_19 hl (by decide) rfl (fun ls hl => ?_)
        refine lv_aload hx hb dX4_lowerValues_21 (lv_at hl 0 rfl) ?_
        refine lv_iload_n hx hb dX4_lowerValues_23 rfl (lv_at hl 4 rfl) ?_
        obtain ⟨r9, hC8, hF⟩ := calp_some hF
        have hFc := b_free (ws := bw q aa Z3) hD hS hA
        refine va_calli (va_runV (As := [.int xa]) (rest := []) ⟨hx, hb, hml, hown, hts⟩ (c_X3_countsIn l dC dI q aa Z3 (ix u2) xa hk7 _ _  hC8) (cwV 1 hts gX4_lowerValues_X3_countsIn rfl rfl rfl (by decide +kernel) ⟨Nat.le_of_ble_eq_true rfl, Nat.le_of_ble_eq_true rfl⟩) ⟨pr_blind, va_recv hK hP (ci := 5) (q0 := (39 + (ix u2))) rfl (bw_at (i := 39 + (ix u2)) (by omega) (bk_stk hk7 _ _)), fun U hU hW => ⟨rfl, pr_mk hU hW hP hK hD⟩⟩ rfl rfl hl.1 rfl (lv_room (Nat.le_of_ble_eq_true rfl)) dX4_lowerValues_24 ⟨Nat.le_of_ble_eq_true rfl, Nat.le_of_ble_eq_true rfl⟩) hS (fun x _ h => hFc x h) hFc (fun rr10 u t H1 locs ht hvm hw hB hz1 hk1 hS => ?_)
        obtain ⟨hP, hK1, hD1⟩ := hB
        rw [ht] at hP
        have hD := hD1.weaken (fun _ q9 _ h9 => hFc q9.1 h9)
        clear hFc hD1 hK1 hvm hz1 hk1
        generalize H1 = H at hP hS ⊢
        refine W.widen (k := 0) (n := 0) (Nat.le_refl _) (Nat.le_refl _) ?_
        obtain rfl : rr10 = r9 := hw
        refine lv_if_eq (tgt := 64) hx hb dX4_lowerValues_27 (by decide) (fun hc11 => ?_) (fun hc11 => ?_)
        · have hF := br_pos hc11 hF
          refine lv_iinc (k := 1) (v := (u2 + (1 : Int32))) (lv' := [(5, .int (u2 + (1 : Int32))), (6, .ref (aa (39 + (ix u2)))), (0, .ref (aa 26)), (1, .ref (aa 1)), (2, .int xa), (3, .int xb), (4, .int xc)]) hx hb dX4_lowerValues_64 hl rfl (ii_ _ _ _ (by decide)) (by decide) rfl (fun ls hl => ?_)
          refine lv_goto (tgt := 3) hx hb dX4_lowerValues_67 (by decide) ?_
          exact IH3 Z3 (u2 + (1 : Int32)) _ _ _ hF hP hD hS (lv_sub hl [0, 2, 3, 4, 5, 6] rfl)
        · have hF := br_neg hc11 hF
          refine lv_aload hx hb dX4_lowerValues_30 (lv_at hl 0 rfl) ?_
          refine lv_aload_n hx hb dX4_lowerValues_32 rfl (lv_at hl 2 rfl) ?_
          refine va_get (D := (dC, dI)) (ci := 6) (v := .ref (aa 28)) (C := RX4) (T := TX4) (N := 3) hx hb hts hinX4 hown hK hP 26 (bw_at (i := 26) (by decide) rfl) rfl 1 (by decide) (hts (.fieldLink RX4 15 "BallotLoom$Transfers" "isIn" "[Z") (by decide +kernel)) (fun _ h9 => h9) rfl dX4_lowerValues_33 ?_
          obtain ⟨r13, hC12, hF⟩ := calp_some hF
          have hFc := b_free (ws := bw q aa Z3) hD hS hA
          refine va_calli (va_runV (As := [.ref (aa 28)]) (rest := []) ⟨hx, hb, hml, hown, hts⟩ (c_X3_firstOf_28 l dC dI q aa Z3 (ix u2) hk7 _ _  hC12) (cwV 1 hts gX4_lowerValues_X3_firstOf rfl rfl rfl (by decide +kernel) ⟨Nat.le_of_ble_eq_true rfl, Nat.le_of_ble_eq_true rfl⟩) ⟨pr_blind, va_recv hK hP (ci := 5) (q0 := (39 + (ix u2))) rfl (bw_at (i := 39 + (ix u2)) (by omega) (bk_stk hk7 _ _)), fun U hU hW => ⟨rfl, pr_mk hU hW hP hK hD⟩⟩ rfl rfl hl.1 rfl (lv_room (Nat.le_of_ble_eq_true rfl)) dX4_lowerValues_36 ⟨Nat.le_of_ble_eq_true rfl, Nat.le_of_ble_eq_true rfl⟩) hS (fun x _ h => hFc x h) hFc (fun rr14 u t H1 locs ht hvm hw hB hz1 hk1 hS => ?_)
          obtain ⟨hP, hK1, hD1⟩ := hB
          rw [ht] at hP
          have hD := hD1.weaken (fun _ q9 _ h9 => hFc q9.1 h9)
          clear hFc hD1 hK1 hvm hz1 hk1
          generalize H1 = H at hP hS ⊢
          refine W.widen (k := 0) (n := 0) (Nat.le_refl _) (Nat.le_refl _) ?_
          obtain rfl : rr14 = r13 := hw
          refine lv_iload_n hx hb dX4_lowerValues_39 rfl (lv_at hl 5 rfl) ?_
          refine lv_icmp_ne (tgt := 64) hx hb dX4_lowerValues_40 (by decide) (fun hc15 => ?_) (fun hc15 => ?_)
          · have hF := br_neg hc15 hF
            refine lv_iinc (k := 1) (v := (u2 + (1 : Int32))) (lv' := [(5, .int (u2 + (1 : Int32))), (6, .ref (aa (39 + (ix u2)))), (0, .ref (aa 26)), (1, .ref (aa 1)), (2, .int xa), (3, .int xb), (4, .int xc)]) hx hb dX4_lowerValues_64 hl rfl (ii_ _ _ _ (by decide)) (by decide) rfl (fun ls hl => ?_)
            refine lv_goto (tgt := 3) hx hb dX4_lowerValues_67 (by decide) ?_
            exact IH3 Z3 (u2 + (1 : Int32)) _ _ _ hF hP hD hS (lv_sub hl [0, 2, 3, 4, 5, 6] rfl)
          · have hF := br_pos hc15 hF
            refine lv_aload hx hb dX4_lowerValues_43 (lv_at hl 0 rfl) ?_
            refine lv_aload hx hb dX4_lowerValues_45 (lv_at hl 0 rfl) ?_
            refine va_get (D := (dC, dI)) (ci := 5) (v := .double (Z3.2 (39 + (ix u2)) 6)) (C := RX3) (T := TX3) (N := 7) hx hb hts hinX3 hown hK hP (39 + (ix u2)) (bw_at (i := 39 + (ix u2)) (by omega) (bk_stk hk7 _ _)) rfl 6 (by decide) (hts (.fieldLink RX4 77 "BallotLoom$Stack" "value" "D") (by decide +kernel)) (fun _ h9 => h9) rfl dX4_lowerValues_47 ?_
            refine lv_topd (fun y16 ey16 => ?_)
            have hF := bv_at ey16 hF
            refine lv_aload_n hx hb dX4_lowerValues_50 rfl (lv_at hl 2 rfl) ?_
            refine va_get (D := (dC, dI)) (ci := 6) (v := .ref (aa 29)) (C := RX4) (T := TX4) (N := 3) hx hb hts hinX4 hown hK hP 26 (bw_at (i := 26) (by decide) rfl) rfl 2 (by decide) (hts (.fieldLink RX4 19 "BallotLoom$Transfers" "held" "[D") (by decide +kernel)) (fun _ h9 => h9) rfl dX4_lowerValues_51 ?_
            refine lv_iload_n hx hb dX4_lowerValues_54 rfl (lv_at hl 5 rfl) ?_
            obtain ⟨hg17, hF⟩ := gd_some hF
            refine va_dald hx hb hK hP 29 2 (at_d (by decide) (fun _ _ => rfl)) rfl hg17 dX4_lowerValues_55 ?_
            refine lv_topd (fun y18 ey18 => ?_)
            have hF := bv_at ey18 hF
            refine lv_iload hx hb dX4_lowerValues_56 (lv_at hl 6 rfl) ?_
            obtain ⟨r20, hC19, hF⟩ := calp_some hF
            have hFc := b_free (ws := bw q aa Z3) hD hS hA
            refine va_calld (va_runS (As := [.double y16, .double y18, .int xc]) (rest := [.ref (aa (39 + (ix u2)))]) ⟨hx, hb, hml, hown, hts⟩ (c_X4_loweredValue l dC dI q aa Z3 y16 y18 xc  _ _  hC19) (va_cwS 3 hts gX4_lowerValues_X4_loweredValue rfl rfl rfl (by decide +kernel) ⟨Nat.le_of_ble_eq_true rfl, Nat.le_of_ble_eq_true rfl⟩) ⟨pr_blind, fun U hU hW => ⟨rfl, pr_mk hU hW hP hK hD⟩⟩ rfl rfl hl.1 rfl (lv_room (Nat.le_of_ble_eq_true rfl)) dX4_lowerValues_58 ⟨Nat.le_of_ble_eq_true rfl, Nat.le_of_ble_eq_true rfl⟩) hS (fun x _ h => hFc x h) hFc (fun rr21 u t H1 locs ht hvm hw hB hz1 hk1 hS => ?_)
            obtain ⟨hP, hK1, hD1⟩ := hB
            rw [ht] at hP
            have hD := hD1.weaken (fun _ q9 _ h9 => hFc q9.1 h9)
            clear hFc hD1 hK1 hvm hz1 hk1
            generalize H1 = H at hP hS ⊢
            refine W.widen (k := 0) (n := 0) (Nat.le_refl _) (Nat.le_refl _) ?_
            obtain rfl : rr21 = r20 := hw
            obtain ⟨Z22, eZ22, hF⟩ := bv_some hF
            refine va_put (D := (dC, dI)) (ci := 5) (v := .double rr21) (ty := .double) (C := RX3) (T := TX3) (N := 7) hx hb hts hinX3 tyX3 tyX3_ok nmX3 hown hK hP hD hS (39 + (ix u2)) (bw_at (i := 39 + (ix u2)) (by omega) (bk_stk hk7 _ _)) rfl 6 (by decide) (hts (.fieldLink RX4 77 "BallotLoom$Stack" "value" "D") (by decide +kernel)) (fun _ h9 => h9) rfl (by decide +kernel) rfl rfl (Nat.le_of_ble_eq_true rfl) dX4_lowerValues_61 (fun H locs hP hD hS => ?_)
            have eW := wz_od (q := q) (aa := aa) (i := (39 + (ix u2))) (ci := 5) (fs := [.int (Z3.1 (39 + (ix u2)) 0), .int (Z3.1 (39 + (ix u2)) 1), .int (Z3.1 (39 + (ix u2)) 2), .int (Z3.1 (39 + (ix u2)) 3), .ref (aa (64 + (ix u2))), .int (Z3.1 (39 + (ix u2)) 5), .double rr21]) (bk_stk hk7 _ _) eZ22
            have hP : va_P (dC, dI) vwCl (bw q aa Z22) H := eW ▸ hP
            have hD : va_D A (bw q aa Z22) := eW ▸ hD
            clear eW
            refine lv_iinc (k := 1) (v := (u2 + (1 : Int32))) (lv' := [(5, .int (u2 + (1 : Int32))), (6, .ref (aa (39 + (ix u2)))), (0, .ref (aa 26)), (1, .ref (aa 1)), (2, .int xa), (3, .int xb), (4, .int xc)]) hx hb dX4_lowerValues_64 hl rfl (ii_ _ _ _ (by decide)) (by decide) rfl (fun ls hl => ?_)
            refine lv_goto (tgt := 3) hx hb dX4_lowerValues_67 (by decide) ?_
            exact IH3 Z22 (u2 + (1 : Int32)) _ _ _ hF hP hD hS (lv_sub hl [0, 2, 3, 4, 5, 6] rfl)
  exact L3 100 Z (0 : Int32) _ _ _ hF hP hD hS (lv_sub hl [0, 1, 2, 3, 4, 5] rfl)

noncomputable def F_X4_fillSeats_x32 (Z13 : Mem) : Option (Mem × Unit) :=
  some (Z13, ())

noncomputable def F_X4_fillSeats_j83 (xa : Int32) (y12 : Int32) (u14 : Int32) (u15 : Int32) (B_32 : Mem → Int32 → Int32 → Option (Mem × Unit)) (Z20 : Mem) (rr24 : Int32) (v29 : Int32) : Option (Mem × Unit) :=
  br (v29 = (0 : Int32)) (gd (¬ (rr24 < 0 ∨ 6 ≤ ix rr24)) <| bv (Z20.2 29 (ix rr24)) fun y39 => bv (FP.i2d y12) fun y40 => bv (Op.cmpValue (FP.dcmp y39 y40) .l) fun y41 => br (y41 < (0 : Int32)) (calp (F_X4_leastHeld Z20 rr24) fun rr45 => gd (¬ (rr45 < 0 ∨ 6 ≤ ix rr45)) <| bv (si Z20 28 (ix rr45) (vp_nar .boolean (0 : Int32))) fun Z47 => B_32 Z47 u14 (u15 + (1 : Int32))) (cal (F_X4_lowerValues Z20 xa rr24 y12) fun Z49 _ => bv (si Z49 28 (ix rr24) (vp_nar .boolean (0 : Int32))) fun Z51 => gd (¬ (u14 < 0 ∨ 5 ≤ ix u14)) <| bv (si Z51 27 (ix u14) rr24) fun Z53 => B_32 Z53 (u14 + (1 : Int32)) (u15 + (1 : Int32)))) (cal (F_X4_lowerValues Z20 xa rr24 y12) fun Z32 _ => gd (¬ (rr24 < 0 ∨ 6 ≤ ix rr24)) <| bv (si Z32 28 (ix rr24) (vp_nar .boolean (0 : Int32))) fun Z35 => gd (¬ (u14 < 0 ∨ 5 ≤ ix u14)) <| bv (si Z35 27 (ix u14) rr24) fun Z37 => B_32 Z37 (u14 + (1 : Int32)) (u15 + (1 : Int32)))

noncomputable def F_X4_fillSeats_l32 (xa : Int32) (y5 : Int32) (y12 : Int32) (K_32 : Mem → Option (Mem × Unit)) : Nat → Mem → Int32 → Int32 → Option (Mem × Unit)
  | 0, _, _, _ => none
  | n32 + 1, Z16, u14, u15 =>
  br ((6 : Int32) ≤ u15) (K_32 Z16) (br (y5 ≤ u14) (K_32 Z16) (cal (F_X4_countHeld Z16 xa) fun Z20 _ => calp (F_X4_mostHeld Z20 ) fun rr24 => br (rr24 = ((-1) : Int32)) (some (Z20, ())) (bv (Z20.1 1 3) fun y26 => bv (y26 - u15) fun y27 => bv (y5 - u14) fun y28 => br (y28 < y27) ((F_X4_fillSeats_j83 xa y12 u14 u15 (F_X4_fillSeats_l32 xa y5 y12 K_32 n32) Z20 rr24) (0 : Int32)) ((F_X4_fillSeats_j83 xa y12 u14 u15 (F_X4_fillSeats_l32 xa y5 y12 K_32 n32) Z20 rr24) (1 : Int32)))))

noncomputable def F_X4_fillSeats (Z : Mem) (xa : Int32) : Option (Mem × Unit) :=
  cal (F_X4_start Z xa) fun Z2 _ => gd (¬ (xa < 0 ∨ 4 ≤ ix xa)) <| bv (Z2.1 4 (ix xa)) fun y5 => calp (F_X0_countsOfListsIn Z2 xa) fun rr8 => bv (y5 + (1 : Int32)) fun y9 => gd (¬ y9 = 0) <| bv (rr8 / y9) fun y11 => bv (y11 + (1 : Int32)) fun y12 => F_X4_fillSeats_l32 xa y5 y12 F_X4_fillSeats_x32 100 Z2 (0 : Int32) (0 : Int32)

set_option maxHeartbeats 4000000 in
set_option maxRecDepth 100000 in
theorem c_X4_fillSeats (l : Launch) (dC : Nat → ClassId) (dI : Nat → Nat → Nat) (q : Nat → ClassId) (aa : Nat → Nat) (Z : Mem) (xa : Int32)  (sz : Nat) (Zo : Mem) (ro : Unit) (hF : F_X4_fillSeats Z xa = some (Zo, ro)) : Met l yX4_fillSeats wsX4_fillSeats ({ frames := 4, cells := 0, slots := 0, locals := 92 }) (va_Pc [.ref (aa 26), .ref (aa 1), .int xa] (pr_ dC dI (bw q aa Z) (bty q) sz)) (va_Qv (fun (_ : Unit) => True) (fun (_ : Unit) t => po_ dC dI (bw q aa Zo) (bty q) (va_A (bw q aa Z) sz) t) (va_A (bw q aa Z) sz)) 0 0 (va_A (bw q aa Z) sz) := by
  refine Met.ofW (cc := cX4_fillSeats) (maxL := 9) (ret := none) (by decide) rfl ?_
  intro p e s m args below meth c s₁ B hml hv
  obtain ⟨hargs, hsz, hP, hK, hD0⟩ := hv
  have hx := B.exec
  have hb := B.bytes
  have hr := B.returns
  have hts := atoms_spec (ws := wsX4_fillSeats) B.pre
  have hown : s.vm.findClass RX4 = some m.cls := findClass_of_methodNamed B.named
  have hlocks := B.notSynchronized
  subst hsz
  have hD := hD0.self (sz := s.heap.size)
  generalize hAe : va_A (bw q aa Z) s.heap.size = A at hD ⊢
  have hA : ∀ x : Nat, s.heap.size ≤ x → A x := fun x h => by rw [← hAe]; exact Or.inr h
  have hS : va_S A s.heap s.heap [] := va_S.rf
  have hinX0 : ∀ w ∈ u_ws RX0 TX0 11, w ∈ wsX4_fillSeats := by decide +kernel
  have hinX4 : ∀ w ∈ u_ws RX4 TX4 3, w ∈ wsX4_fillSeats := by decide +kernel
  have hl := lv_entry ([.ref (aa 26), .ref (aa 1), .int xa]) (n := 9) (Nat.le_of_ble_eq_true rfl)
  refine w_ent hargs ?_
  rw [lg_entry_eq]
  generalize (lg_sl ([.ref (aa 26), .ref (aa 1), .int xa]) ++ List.replicate (9 - (lg_sl ([.ref (aa 26), .ref (aa 1), .int xa])).length) Slot.unset).toArray = ls at hl ⊢
  have hl : lv_has ls 9 [(0, .ref (aa 26)), (1, .ref (aa 1)), (2, .int xa)] := hl
  unfold F_X4_fillSeats at hF
  refine w_go (fun Q hQ => ?_)
  refine lv_aload_n hx hb dX4_fillSeats_0 rfl (lv_at hl 0 rfl) ?_
  refine lv_aload_n hx hb dX4_fillSeats_1 rfl (lv_at hl 1 rfl) ?_
  refine lv_iload_n hx hb dX4_fillSeats_2 rfl (lv_at hl 2 rfl) ?_
  obtain ⟨Z2, _, hC1, hF⟩ := cal_some hF
  have hFc := b_free (ws := bw q aa Z) hD hS hA
  refine va_callv (va_runV (As := [.ref (aa 1), .int xa]) (rest := []) ⟨hx, hb, hml, hown, hts⟩ (c_X4_start l dC dI q aa Z xa  _ _ _  hC1) (cwV 2 hts gX4_fillSeats_X4_start rfl rfl rfl (by decide +kernel) ⟨Nat.le_of_ble_eq_true rfl, Nat.le_of_ble_eq_true rfl⟩) ⟨pr_blind, va_recv hK hP (ci := 6) (q0 := 26) rfl (bw_at (i := 26) (by decide) rfl), fun U hU hW => ⟨rfl, pr_mk hU hW hP hK hD⟩⟩ rfl rfl hl.1 rfl (lv_room (Nat.le_of_ble_eq_true rfl)) dX4_fillSeats_3 ⟨Nat.le_of_ble_eq_true rfl, Nat.le_of_ble_eq_true rfl⟩) hS (fun x _ h => hFc x h) hFc (fun u t H1 locs ht hvm hw hB hz1 hk1 hS => ?_)
  obtain ⟨hP, hK1, hD1⟩ := hB
  rw [ht] at hP
  have hD := hD1.weaken (fun _ q9 _ h9 => hFc q9.1 h9)
  clear hFc hD1 hK1 hvm hz1 hk1
  generalize H1 = H at hP hS ⊢
  refine W.widen (k := 0) (n := 0) (Nat.le_refl _) (Nat.le_refl _) ?_
  refine lv_aload_n hx hb dX4_fillSeats_6 rfl (lv_at hl 1 rfl) ?_
  refine va_get (D := (dC, dI)) (ci := 2) (v := .ref (aa 4)) (C := RX0) (T := TX0) (N := 11) hx hb hts hinX0 hown hK hP 1 (bw_at (i := 1) (by decide) rfl) rfl 4 (by decide) (hts (.fieldLink RX4 27 "BallotLoom$Box" "seatsOf" "[I") (by decide +kernel)) (fun _ h9 => h9) rfl dX4_fillSeats_7 ?_
  refine lv_iload_n hx hb dX4_fillSeats_10 rfl (lv_at hl 2 rfl) ?_
  obtain ⟨hg4, hF⟩ := gd_some hF
  refine va_iald hx hb hK hP 4 0 (at_i (by decide) (fun _ _ => rfl)) rfl hg4 dX4_fillSeats_11 ?_
  refine lv_topi (fun y5 ey5 => ?_)
  have hF := bv_at ey5 hF
  refine lv_istore_n (lv' := [(3, .int y5), (0, .ref (aa 26)), (1, .ref (aa 1)), (2, .int xa)]) hx hb dX4_fillSeats_12 rfl hl (by decide) rfl (fun ls hl => ?_)
  refine lv_aload_n hx hb dX4_fillSeats_13 rfl (lv_at hl 2 rfl) ?_
  refine lv_iload_n hx hb dX4_fillSeats_14 rfl (lv_at hl 3 rfl) ?_
  obtain ⟨r7, hC6, hF⟩ := calp_some hF
  have hFc := b_free (ws := bw q aa Z2) hD hS hA
  refine va_calli (va_runV (As := [.int xa]) (rest := []) ⟨hx, hb, hml, hown, hts⟩ (c_X0_countsOfListsIn l dC dI q aa Z2 xa  _ _  hC6) (cwV 1 hts gX4_fillSeats_X0_countsOfListsIn rfl rfl rfl (by decide +kernel) ⟨Nat.le_of_ble_eq_true rfl, Nat.le_of_ble_eq_true rfl⟩) ⟨pr_blind, va_recv hK hP (ci := 2) (q0 := 1) rfl (bw_at (i := 1) (by decide) rfl), fun U hU hW => ⟨rfl, pr_mk hU hW hP hK hD⟩⟩ rfl rfl hl.1 rfl (lv_room (Nat.le_of_ble_eq_true rfl)) dX4_fillSeats_15 ⟨Nat.le_of_ble_eq_true rfl, Nat.le_of_ble_eq_true rfl⟩) hS (fun x _ h => hFc x h) hFc (fun rr8 u t H1 locs ht hvm hw hB hz1 hk1 hS => ?_)
  obtain ⟨hP, hK1, hD1⟩ := hB
  rw [ht] at hP
  have hD := hD1.weaken (fun _ q9 _ h9 => hFc q9.1 h9)
  clear hFc hD1 hK1 hvm hz1 hk1
  generalize H1 = H at hP hS ⊢
  refine W.widen (k := 0) (n := 0) (Nat.le_refl _) (Nat.le_refl _) ?_
  obtain rfl : rr8 = r7 := hw
  refine lv_iload_n hx hb dX4_fillSeats_18 rfl (lv_at hl 0 rfl) ?_
  refine lv_iconst (v := 1) hx hb dX4_fillSeats_19 (by decide) ?_
  refine lv_iadd hx hb dX4_fillSeats_20 ?_
  refine lv_topi (fun y9 ey9 => ?_)
  have hF := bv_at ey9 hF
  obtain ⟨hg10, hF⟩ := gd_some hF
  refine lv_idiv hx hb dX4_fillSeats_21 hg10 ?_
  refine lv_topi (fun y11 ey11 => ?_)
  have hF := bv_at ey11 hF
  refine lv_iconst (v := 1) hx hb dX4_fillSeats_22 (by decide) ?_
  refine lv_iadd hx hb dX4_fillSeats_23 ?_
  refine lv_topi (fun y12 ey12 => ?_)
  have hF := bv_at ey12 hF
  refine lv_istore (lv' := [(4, .int y12), (3, .int y5), (0, .ref (aa 26)), (1, .ref (aa 1)), (2, .int xa)]) hx hb dX4_fillSeats_24 hl (by decide) rfl (fun ls hl => ?_)
  refine lv_iconst (v := 0) hx hb dX4_fillSeats_26 (by decide) ?_
  refine lv_istore (lv' := [(5, .int 0), (4, .int y12), (3, .int y5), (0, .ref (aa 26)), (1, .ref (aa 1)), (2, .int xa)]) hx hb dX4_fillSeats_27 hl (by decide) rfl (fun ls hl => ?_)
  refine lv_iconst (v := 0) hx hb dX4_fillSeats_29 (by decide) ?_
  refine lv_istore (lv' := [(6, .int 0), (5, .int 0), (4, .int y12), (3, .int y5), (0, .ref (aa 26)), (1, .ref (aa 1)), (2, .int xa)]) hx hb dX4_fillSeats_30 hl (by decide) rfl (fun ls hl => ?_)
  have Jx32 : ∀ (Z13 : Mem) (H : Heap) (locs : List Loc) (ls : Array Slot), F_X4_fillSeats_x32 Z13 = some (Zo, ro) → va_P (dC, dI) vwCl (bw q aa Z13) H → va_D A (bw q aa Z13) → va_S A s.heap H locs → lv_has ls 9 [] → W p l e (headSpec wsX4_fillSeats ({ frames := 4, cells := 0, slots := 0, locals := 92 } : Room)).room s m args below meth c H locs 0 0 Q (F0 m 155 ls []) := by
    intro Z13 H locs ls hF hP hD hS hl
    unfold F_X4_fillSeats_x32 at hF
    obtain ⟨e8, e9⟩ := some2 hF
    rw [← e8] at hP hD
    subst hQ
    exact W.vret hx hb hr (fun t ht hW => ⟨⟨(), rfl, trivial, po_mk ht hW hP hK hD⟩, hS.F ht⟩) hS.2.2 dX4_fillSeats_155
  have L32 : ∀ (n32 : Nat) (Z16 : Mem) (u14 : Int32) (u15 : Int32) (H : Heap) (locs : List Loc) (ls : Array Slot), F_X4_fillSeats_l32 xa y5 y12 F_X4_fillSeats_x32 n32 Z16 u14 u15 = some (Zo, ro) → va_P (dC, dI) vwCl (bw q aa Z16) H → va_D A (bw q aa Z16) → va_S A s.heap H locs → lv_has ls 9 [(6, .int u15), (5, .int u14), (4, .int y12), (3, .int y5), (0, .ref (aa 26)), (1, .ref (aa 1)), (2, .int xa)] → W p l e (headSpec wsX4_fillSeats ({ frames := 4, cells := 0, slots := 0, locals := 92 } : Room)).room s m args below meth c H locs 0 0 Q (F0 m 32 ls []) := by
    intro n32
    induction n32 with
    | zero =>
      intro Z16 u14 u15 H locs ls hF
      rw [F_X4_fillSeats_l32] at hF
      cases hF
    | succ n32 IH32 =>
      intro Z16 u14 u15 H locs ls hF hP hD hS hl
      rw [F_X4_fillSeats_l32] at hF
      refine lv_iload hx hb dX4_fillSeats_32 (lv_at hl 0 rfl) ?_
      refine lv_bipush (v := 6) hx hb dX4_fillSeats_34 (by decide) ?_
      refine lv_icmp_ge (tgt := 155) hx hb dX4_fillSeats_36 (by decide) (fun hc17 => ?_) (fun hc17 => ?_)
      · have hF := br_pos hc17 hF
        exact Jx32 Z16 _ _ _ hF hP hD hS (lv_sub hl [] rfl)
      · have hF := br_neg hc17 hF
        refine lv_iload hx hb dX4_fillSeats_39 (lv_at hl 1 rfl) ?_
        refine lv_iload_n hx hb dX4_fillSeats_41 rfl (lv_at hl 3 rfl) ?_
        refine lv_icmp_ge (tgt := 155) hx hb dX4_fillSeats_42 (by decide) (fun hc18 => ?_) (fun hc18 => ?_)
        · have hF := br_pos hc18 hF
          exact Jx32 Z16 _ _ _ hF hP hD hS (lv_sub hl [] rfl)
        · have hF := br_neg hc18 hF
          refine lv_aload_n hx hb dX4_fillSeats_45 rfl (lv_at hl 4 rfl) ?_
          refine lv_aload_n hx hb dX4_fillSeats_46 rfl (lv_at hl 5 rfl) ?_
          refine lv_iload_n hx hb dX4_fillSeats_47 rfl (lv_at hl 6 rfl) ?_
          obtain ⟨Z20, _, hC19, hF⟩ := cal_some hF
          have hFc := b_free (ws := bw q aa Z16) hD hS hA
          refine va_callv (va_runV (As := [.ref (aa 1), .int xa]) (rest := []) ⟨hx, hb, hml, hown, hts⟩ (c_X4_countHeld l dC dI q aa Z16 xa  _ _ _  hC19) (cwV 2 hts gX4_fillSeats_X4_countHeld rfl rfl rfl (by decide +kernel) ⟨Nat.le_of_ble_eq_true rfl, Nat.le_of_ble_eq_true rfl⟩) ⟨pr_blind, va_recv hK hP (ci := 6) (q0 := 26) rfl (bw_at (i := 26) (by decide) rfl), fun U hU hW => ⟨rfl, pr_mk hU hW hP hK hD⟩⟩ rfl rfl hl.1 rfl (lv_room (Nat.le_of_ble_eq_true rfl)) dX4_fillSeats_48 ⟨Nat.le_of_ble_eq_true rfl, Nat.le_of_ble_eq_true rfl⟩) hS (fun x _ h => hFc x h) hFc (fun u t H1 locs ht hvm hw hB hz1 hk1 hS => ?_)
          obtain ⟨hP, hK1, hD1⟩ := hB
          rw [ht] at hP
          have hD := hD1.weaken (fun _ q9 _ h9 => hFc q9.1 h9)
          clear hFc hD1 hK1 hvm hz1 hk1
          generalize H1 = H at hP hS ⊢
          refine W.widen (k := 0) (n := 0) (Nat.le_refl _) (Nat.le_refl _) ?_
          refine lv_aload_n hx hb dX4_fillSeats_51 rfl (lv_at hl 4 rfl) ?_
          obtain ⟨r23, hC22, hF⟩ := calp_some hF
          have hFc := b_free (ws := bw q aa Z20) hD hS hA
          refine va_calli (va_runV (As := []) (rest := []) ⟨hx, hb, hml, hown, hts⟩ (c_X4_mostHeld l dC dI q aa Z20   _ _  hC22) (cwV 0 hts gX4_fillSeats_X4_mostHeld rfl rfl rfl (by decide +kernel) ⟨Nat.le_of_ble_eq_true rfl, Nat.le_of_ble_eq_true rfl⟩) ⟨pr_blind, va_recv hK hP (ci := 6) (q0 := 26) rfl (bw_at (i := 26) (by decide) rfl), fun U hU hW => ⟨rfl, pr_mk hU hW hP hK hD⟩⟩ rfl rfl hl.1 rfl (lv_room (Nat.le_of_ble_eq_true rfl)) dX4_fillSeats_52 ⟨Nat.le_of_ble_eq_true rfl, Nat.le_of_ble_eq_true rfl⟩) hS (fun x _ h => hFc x h) hFc (fun rr24 u t H1 locs ht hvm hw hB hz1 hk1 hS => ?_)
          obtain ⟨hP, hK1, hD1⟩ := hB
          rw [ht] at hP
          have hD := hD1.weaken (fun _ q9 _ h9 => hFc q9.1 h9)
          clear hFc hD1 hK1 hvm hz1 hk1
          generalize H1 = H at hP hS ⊢
          refine W.widen (k := 0) (n := 0) (Nat.le_refl _) (Nat.le_refl _) ?_
          obtain rfl : rr24 = r23 := hw
          refine lv_istore (lv' := [(7, .int rr24), (6, .int u15), (5, .int u14), (4, .int y12), (3, .int y5), (0, .ref (aa 26)), (1, .ref (aa 1)), (2, .int xa)]) hx hb dX4_fillSeats_55 hl (by decide) rfl (fun ls hl => ?_)
          refine lv_iload hx hb dX4_fillSeats_57 (lv_at hl 0 rfl) ?_
          refine lv_iconst (v := (-1)) hx hb dX4_fillSeats_59 (by decide) ?_
          refine lv_icmp_ne (tgt := 64) hx hb dX4_fillSeats_60 (by decide) (fun hc25 => ?_) (fun hc25 => ?_)
          · have hF := br_neg hc25 hF
            refine lv_aload_n hx hb dX4_fillSeats_64 rfl (lv_at hl 6 rfl) ?_
            refine va_get (D := (dC, dI)) (ci := 2) (v := .int (Z20.1 1 3)) (C := RX0) (T := TX0) (N := 11) hx hb hts hinX0 hown hK hP 1 (bw_at (i := 1) (by decide) rfl) rfl 3 (by decide) (hts (.fieldLink RX4 43 "BallotLoom$Box" "standing" "I") (by decide +kernel)) (fun _ h9 => h9) rfl dX4_fillSeats_65 ?_
            refine lv_topi (fun y26 ey26 => ?_)
            have hF := bv_at ey26 hF
            refine lv_iload hx hb dX4_fillSeats_68 (lv_at hl 1 rfl) ?_
            refine lv_isub hx hb dX4_fillSeats_70 ?_
            refine lv_topi (fun y27 ey27 => ?_)
            have hF := bv_at ey27 hF
            refine lv_iload_n hx hb dX4_fillSeats_71 rfl (lv_at hl 4 rfl) ?_
            refine lv_iload hx hb dX4_fillSeats_72 (lv_at hl 2 rfl) ?_
            refine lv_isub hx hb dX4_fillSeats_74 ?_
            refine lv_topi (fun y28 ey28 => ?_)
            have hF := bv_at ey28 hF
            have Jj83 : ∀ (v29 : Int32) (H : Heap) (locs : List Loc) (ls : Array Slot), (F_X4_fillSeats_j83 xa y12 u14 u15 (F_X4_fillSeats_l32 xa y5 y12 F_X4_fillSeats_x32 n32) Z20 rr24) v29 = some (Zo, ro) → va_P (dC, dI) vwCl (bw q aa Z20) H → va_D A (bw q aa Z20) → va_S A s.heap H locs → lv_has ls 9 [(7, .int rr24), (6, .int u15), (5, .int u14), (4, .int y12), (3, .int y5), (0, .ref (aa 26)), (1, .ref (aa 1)), (2, .int xa)] → W p l e (headSpec wsX4_fillSeats ({ frames := 4, cells := 0, slots := 0, locals := 92 } : Room)).room s m args below meth c H locs 0 0 Q (F0 m 83 ls [.int v29]) := by
              intro v29 H locs ls hF hP hD hS hl
              unfold F_X4_fillSeats_j83 at hF
              refine lv_istore (lv' := [(8, .int v29), (7, .int rr24), (6, .int u15), (5, .int u14), (4, .int y12), (3, .int y5), (0, .ref (aa 26)), (1, .ref (aa 1)), (2, .int xa)]) hx hb dX4_fillSeats_83 hl (by decide) rfl (fun ls hl => ?_)
              refine lv_iload hx hb dX4_fillSeats_85 (lv_at hl 0 rfl) ?_
              refine lv_if_ne (tgt := 104) hx hb dX4_fillSeats_87 (by decide) (fun hc30 => ?_) (fun hc30 => ?_)
              · have hF := br_neg hc30 hF
                refine lv_aload_n hx hb dX4_fillSeats_104 rfl (lv_at hl 6 rfl) ?_
                refine lv_aload_n hx hb dX4_fillSeats_105 rfl (lv_at hl 7 rfl) ?_
                refine lv_iload_n hx hb dX4_fillSeats_106 rfl (lv_at hl 8 rfl) ?_
                refine lv_iload hx hb dX4_fillSeats_107 (lv_at hl 1 rfl) ?_
                refine lv_iload hx hb dX4_fillSeats_109 (lv_at hl 4 rfl) ?_
                obtain ⟨Z32, _, hC31, hF⟩ := cal_some hF
                have hFc := b_free (ws := bw q aa Z20) hD hS hA
                refine va_callv (va_runV (As := [.ref (aa 1), .int xa, .int rr24, .int y12]) (rest := []) ⟨hx, hb, hml, hown, hts⟩ (c_X4_lowerValues l dC dI q aa Z20 xa rr24 y12  _ _ _  hC31) (cwV 4 hts gX4_fillSeats_X4_lowerValues rfl rfl rfl (by decide +kernel) ⟨Nat.le_of_ble_eq_true rfl, Nat.le_of_ble_eq_true rfl⟩) ⟨pr_blind, va_recv hK hP (ci := 6) (q0 := 26) rfl (bw_at (i := 26) (by decide) rfl), fun U hU hW => ⟨rfl, pr_mk hU hW hP hK hD⟩⟩ rfl rfl hl.1 rfl (lv_room (Nat.le_of_ble_eq_true rfl)) dX4_fillSeats_111 ⟨Nat.le_of_ble_eq_true rfl, Nat.le_of_ble_eq_true rfl⟩) hS (fun x _ h => hFc x h) hFc (fun u t H1 locs ht hvm hw hB hz1 hk1 hS => ?_)
                obtain ⟨hP, hK1, hD1⟩ := hB
                rw [ht] at hP
                have hD := hD1.weaken (fun _ q9 _ h9 => hFc q9.1 h9)
                clear hFc hD1 hK1 hvm hz1 hk1
                generalize H1 = H at hP hS ⊢
                refine W.widen (k := 0) (n := 0) (Nat.le_refl _) (Nat.le_refl _) ?_
                refine lv_aload_n hx hb dX4_fillSeats_114 rfl (lv_at hl 6 rfl) ?_
                refine va_get (D := (dC, dI)) (ci := 6) (v := .ref (aa 28)) (C := RX4) (T := TX4) (N := 3) hx hb hts hinX4 hown hK hP 26 (bw_at (i := 26) (by decide) rfl) rfl 1 (by decide) (hts (.fieldLink RX4 15 "BallotLoom$Transfers" "isIn" "[Z") (by decide +kernel)) (fun _ h9 => h9) rfl dX4_fillSeats_115 ?_
                refine lv_iload hx hb dX4_fillSeats_118 (lv_at hl 1 rfl) ?_
                refine lv_iconst (v := 0) hx hb dX4_fillSeats_120 (by decide) ?_
                obtain ⟨hg34, hF⟩ := gd_some hF
                obtain ⟨Z35, eZ35, hF⟩ := bv_some hF
                refine va_zast hx hb hK hP hD hS 28 1 (at_i (by decide) (fun _ _ => rfl)) rfl hg34 dX4_fillSeats_121 (fun H locs hP hD hS => ?_)
                have eW := wz_i (q := q) (aa := aa) (i := 28) (fun _ _ => rfl) eZ35
                have hP : va_P (dC, dI) vwCl (bw q aa Z35) H := eW ▸ hP
                have hD : va_D A (bw q aa Z35) := eW ▸ hD
                clear eW
                refine lv_aload_n hx hb dX4_fillSeats_122 rfl (lv_at hl 6 rfl) ?_
                refine va_get (D := (dC, dI)) (ci := 6) (v := .ref (aa 27)) (C := RX4) (T := TX4) (N := 3) hx hb hts hinX4 hown hK hP 26 (bw_at (i := 26) (by decide) rfl) rfl 0 (by decide) (hts (.fieldLink RX4 9 "BallotLoom$Transfers" "chosen" "[I") (by decide +kernel)) (fun _ h9 => h9) rfl dX4_fillSeats_123 ?_
                refine lv_iload hx hb dX4_fillSeats_126 (lv_at hl 3 rfl) ?_
                refine lv_iload hx hb dX4_fillSeats_128 (lv_at hl 1 rfl) ?_
                obtain ⟨hg36, hF⟩ := gd_some hF
                obtain ⟨Z37, eZ37, hF⟩ := bv_some hF
                refine va_iast hx hb hK hP hD hS 27 0 (at_i (by decide) (fun _ _ => rfl)) rfl hg36 dX4_fillSeats_130 (fun H locs hP hD hS => ?_)
                have eW := wz_i (q := q) (aa := aa) (i := 27) (fun _ _ => rfl) eZ37
                have hP : va_P (dC, dI) vwCl (bw q aa Z37) H := eW ▸ hP
                have hD : va_D A (bw q aa Z37) := eW ▸ hD
                clear eW
                refine lv_iinc (k := 3) (v := (u14 + (1 : Int32))) (lv' := [(5, .int (u14 + (1 : Int32))), (8, .int v29), (7, .int rr24), (6, .int u15), (4, .int y12), (3, .int y5), (0, .ref (aa 26)), (1, .ref (aa 1)), (2, .int xa)]) hx hb dX4_fillSeats_131 hl rfl (ii_ _ _ _ (by decide)) (by decide) rfl (fun ls hl => ?_)
                refine lv_goto (tgt := 149) hx hb dX4_fillSeats_134 (by decide) ?_
                refine lv_iinc (k := 3) (v := (u15 + (1 : Int32))) (lv' := [(6, .int (u15 + (1 : Int32))), (5, .int (u14 + (1 : Int32))), (8, .int v29), (7, .int rr24), (4, .int y12), (3, .int y5), (0, .ref (aa 26)), (1, .ref (aa 1)), (2, .int xa)]) hx hb dX4_fillSeats_149 hl rfl (ii_ _ _ _ (by decide)) (by decide) rfl (fun ls hl => ?_)
                refine lv_goto (tgt := 32) hx hb dX4_fillSeats_152 (by decide) ?_
                exact IH32 Z37 (u14 + (1 : Int32)) (u15 + (1 : Int32)) _ _ _ hF hP hD hS (lv_sub hl [0, 1, 4, 5, 6, 7, 8] rfl)
              · have hF := br_pos hc30 hF
                refine lv_aload_n hx hb dX4_fillSeats_90 rfl (lv_at hl 6 rfl) ?_
                refine va_get (D := (dC, dI)) (ci := 6) (v := .ref (aa 29)) (C := RX4) (T := TX4) (N := 3) hx hb hts hinX4 hown hK hP 26 (bw_at (i := 26) (by decide) rfl) rfl 2 (by decide) (hts (.fieldLink RX4 19 "BallotLoom$Transfers" "held" "[D") (by decide +kernel)) (fun _ h9 => h9) rfl dX4_fillSeats_91 ?_
                refine lv_iload hx hb dX4_fillSeats_94 (lv_at hl 1 rfl) ?_
                obtain ⟨hg38, hF⟩ := gd_some hF
                refine va_dald hx hb hK hP 29 2 (at_d (by decide) (fun _ _ => rfl)) rfl hg38 dX4_fillSeats_96 ?_
                refine lv_topd (fun y39 ey39 => ?_)
                have hF := bv_at ey39 hF
                refine lv_iload hx hb dX4_fillSeats_97 (lv_at hl 4 rfl) ?_
                refine lv_i2d hx hb dX4_fillSeats_99 ?_
                refine lv_topd (fun y40 ey40 => ?_)
                have hF := bv_at ey40 hF
                refine lv_dcmp hx hb dX4_fillSeats_100 ?_
                refine lv_topi (fun y41 ey41 => ?_)
                have hF := bv_at ey41 hF
                refine lv_if_lt (tgt := 137) hx hb dX4_fillSeats_101 (by decide) (fun hc42 => ?_) (fun hc42 => ?_)
                · have hF := br_pos hc42 hF
                  refine lv_aload_n hx hb dX4_fillSeats_137 rfl (lv_at hl 6 rfl) ?_
                  refine va_get (D := (dC, dI)) (ci := 6) (v := .ref (aa 28)) (C := RX4) (T := TX4) (N := 3) hx hb hts hinX4 hown hK hP 26 (bw_at (i := 26) (by decide) rfl) rfl 1 (by decide) (hts (.fieldLink RX4 15 "BallotLoom$Transfers" "isIn" "[Z") (by decide +kernel)) (fun _ h9 => h9) rfl dX4_fillSeats_138 ?_
                  refine lv_aload_n hx hb dX4_fillSeats_141 rfl (lv_at hl 6 rfl) ?_
                  refine lv_iload hx hb dX4_fillSeats_142 (lv_at hl 1 rfl) ?_
                  obtain ⟨r44, hC43, hF⟩ := calp_some hF
                  have hFc := b_free (ws := bw q aa Z20) hD hS hA
                  refine va_calli (va_runV (As := [.int rr24]) (rest := [.ref (aa 28)]) ⟨hx, hb, hml, hown, hts⟩ (c_X4_leastHeld l dC dI q aa Z20 rr24  _ _  hC43) (cwV 1 hts gX4_fillSeats_X4_leastHeld rfl rfl rfl (by decide +kernel) ⟨Nat.le_of_ble_eq_true rfl, Nat.le_of_ble_eq_true rfl⟩) ⟨pr_blind, va_recv hK hP (ci := 6) (q0 := 26) rfl (bw_at (i := 26) (by decide) rfl), fun U hU hW => ⟨rfl, pr_mk hU hW hP hK hD⟩⟩ rfl rfl hl.1 rfl (lv_room (Nat.le_of_ble_eq_true rfl)) dX4_fillSeats_144 ⟨Nat.le_of_ble_eq_true rfl, Nat.le_of_ble_eq_true rfl⟩) hS (fun x _ h => hFc x h) hFc (fun rr45 u t H1 locs ht hvm hw hB hz1 hk1 hS => ?_)
                  obtain ⟨hP, hK1, hD1⟩ := hB
                  rw [ht] at hP
                  have hD := hD1.weaken (fun _ q9 _ h9 => hFc q9.1 h9)
                  clear hFc hD1 hK1 hvm hz1 hk1
                  generalize H1 = H at hP hS ⊢
                  refine W.widen (k := 0) (n := 0) (Nat.le_refl _) (Nat.le_refl _) ?_
                  obtain rfl : rr45 = r44 := hw
                  refine lv_iconst (v := 0) hx hb dX4_fillSeats_147 (by decide) ?_
                  obtain ⟨hg46, hF⟩ := gd_some hF
                  obtain ⟨Z47, eZ47, hF⟩ := bv_some hF
                  refine va_zast hx hb hK hP hD hS 28 1 (at_i (by decide) (fun _ _ => rfl)) rfl hg46 dX4_fillSeats_148 (fun H locs hP hD hS => ?_)
                  have eW := wz_i (q := q) (aa := aa) (i := 28) (fun _ _ => rfl) eZ47
                  have hP : va_P (dC, dI) vwCl (bw q aa Z47) H := eW ▸ hP
                  have hD : va_D A (bw q aa Z47) := eW ▸ hD
                  clear eW
                  refine lv_iinc (k := 2) (v := (u15 + (1 : Int32))) (lv' := [(6, .int (u15 + (1 : Int32))), (8, .int v29), (7, .int rr24), (5, .int u14), (4, .int y12), (3, .int y5), (0, .ref (aa 26)), (1, .ref (aa 1)), (2, .int xa)]) hx hb dX4_fillSeats_149 hl rfl (ii_ _ _ _ (by decide)) (by decide) rfl (fun ls hl => ?_)
                  refine lv_goto (tgt := 32) hx hb dX4_fillSeats_152 (by decide) ?_
                  exact IH32 Z47 u14 (u15 + (1 : Int32)) _ _ _ hF hP hD hS (lv_sub hl [0, 3, 4, 5, 6, 7, 8] rfl)
                · have hF := br_neg hc42 hF
                  refine lv_aload_n hx hb dX4_fillSeats_104 rfl (lv_at hl 6 rfl) ?_
                  refine lv_aload_n hx hb dX4_fillSeats_105 rfl (lv_at hl 7 rfl) ?_
                  refine lv_iload_n hx hb dX4_fillSeats_106 rfl (lv_at hl 8 rfl) ?_
                  refine lv_iload hx hb dX4_fillSeats_107 (lv_at hl 1 rfl) ?_
                  refine lv_iload hx hb dX4_fillSeats_109 (lv_at hl 4 rfl) ?_
                  obtain ⟨Z49, _, hC48, hF⟩ := cal_some hF
                  have hFc := b_free (ws := bw q aa Z20) hD hS hA
                  refine va_callv (va_runV (As := [.ref (aa 1), .int xa, .int rr24, .int y12]) (rest := []) ⟨hx, hb, hml, hown, hts⟩ (c_X4_lowerValues l dC dI q aa Z20 xa rr24 y12  _ _ _  hC48) (cwV 4 hts gX4_fillSeats_X4_lowerValues rfl rfl rfl (by decide +kernel) ⟨Nat.le_of_ble_eq_true rfl, Nat.le_of_ble_eq_true rfl⟩) ⟨pr_blind, va_recv hK hP (ci := 6) (q0 := 26) rfl (bw_at (i := 26) (by decide) rfl), fun U hU hW => ⟨rfl, pr_mk hU hW hP hK hD⟩⟩ rfl rfl hl.1 rfl (lv_room (Nat.le_of_ble_eq_true rfl)) dX4_fillSeats_111 ⟨Nat.le_of_ble_eq_true rfl, Nat.le_of_ble_eq_true rfl⟩) hS (fun x _ h => hFc x h) hFc (fun u t H1 locs ht hvm hw hB hz1 hk1 hS => ?_)
                  obtain ⟨hP, hK1, hD1⟩ := hB
                  rw [ht] at hP
                  have hD := hD1.weaken (fun _ q9 _ h9 => hFc q9.1 h9)
                  clear hFc hD1 hK1 hvm hz1 hk1
                  generalize H1 = H at hP hS ⊢
                  refine W.widen (k := 0) (n := 0) (Nat.le_refl _) (Nat.le_refl _) ?_
                  refine lv_aload_n hx hb dX4_fillSeats_114 rfl (lv_at hl 6 rfl) ?_
                  refine va_get (D := (dC, dI)) (ci := 6) (v := .ref (aa 28)) (C := RX4) (T := TX4) (N := 3) hx hb hts hinX4 hown hK hP 26 (bw_at (i := 26) (by decide) rfl) rfl 1 (by decide) (hts (.fieldLink RX4 15 "BallotLoom$Transfers" "isIn" "[Z") (by decide +kernel)) (fun _ h9 => h9) rfl dX4_fillSeats_115 ?_
                  refine lv_iload hx hb dX4_fillSeats_118 (lv_at hl 1 rfl) ?_
                  refine lv_iconst (v := 0) hx hb dX4_fillSeats_120 (by decide) ?_
                  obtain ⟨Z51, eZ51, hF⟩ := bv_some hF
                  refine va_zast hx hb hK hP hD hS 28 1 (at_i (by decide) (fun _ _ => rfl)) rfl hg38 dX4_fillSeats_121 (fun H locs hP hD hS => ?_)
                  have eW := wz_i (q := q) (aa := aa) (i := 28) (fun _ _ => rfl) eZ51
                  have hP : va_P (dC, dI) vwCl (bw q aa Z51) H := eW ▸ hP
                  have hD : va_D A (bw q aa Z51) := eW ▸ hD
                  clear eW
                  refine lv_aload_n hx hb dX4_fillSeats_122 rfl (lv_at hl 6 rfl) ?_
                  refine va_get (D := (dC, dI)) (ci := 6) (v := .ref (aa 27)) (C := RX4) (T := TX4) (N := 3) hx hb hts hinX4 hown hK hP 26 (bw_at (i := 26) (by decide) rfl) rfl 0 (by decide) (hts (.fieldLink RX4 9 "BallotLoom$Transfers" "chosen" "[I") (by decide +kernel)) (fun _ h9 => h9) rfl dX4_fillSeats_123 ?_
                  refine lv_iload hx hb dX4_fillSeats_126 (lv_at hl 3 rfl) ?_
                  refine lv_iload hx hb dX4_fillSeats_128 (lv_at hl 1 rfl) ?_
                  obtain ⟨hg52, hF⟩ := gd_some hF
                  obtain ⟨Z53, eZ53, hF⟩ := bv_some hF
                  refine va_iast hx hb hK hP hD hS 27 0 (at_i (by decide) (fun _ _ => rfl)) rfl hg52 dX4_fillSeats_130 (fun H locs hP hD hS => ?_)
                  have eW := wz_i (q := q) (aa := aa) (i := 27) (fun _ _ => rfl) eZ53
                  have hP : va_P (dC, dI) vwCl (bw q aa Z53) H := eW ▸ hP
                  have hD : va_D A (bw q aa Z53) := eW ▸ hD
                  clear eW
                  refine lv_iinc (k := 3) (v := (u14 + (1 : Int32))) (lv' := [(5, .int (u14 + (1 : Int32))), (8, .int v29), (7, .int rr24), (6, .int u15), (4, .int y12), (3, .int y5), (0, .ref (aa 26)), (1, .ref (aa 1)), (2, .int xa)]) hx hb dX4_fillSeats_131 hl rfl (ii_ _ _ _ (by decide)) (by decide) rfl (fun ls hl => ?_)
                  refine lv_goto (tgt := 149) hx hb dX4_fillSeats_134 (by decide) ?_
                  refine lv_iinc (k := 3) (v := (u15 + (1 : Int32))) (lv' := [(6, .int (u15 + (1 : Int32))), (5, .int (u14 + (1 : Int32))), (8, .int v29), (7, .int rr24), (4, .int y12), (3, .int y5), (0, .ref (aa 26)), (1, .ref (aa 1)), (2, .int xa)]) hx hb dX4_fillSeats_149 hl rfl (ii_ _ _ _ (by decide)) (by decide) rfl (fun ls hl => ?_)
                  refine lv_goto (tgt := 32) hx hb dX4_fillSeats_152 (by decide) ?_
                  exact IH32 Z53 (u14 + (1 : Int32)) (u15 + (1 : Int32)) _ _ _ hF hP hD hS (lv_sub hl [0, 1, 4, 5, 6, 7, 8] rfl)
            refine lv_icmp_gt (tgt := 82) hx hb dX4_fillSeats_75 (by decide) (fun hc54 => ?_) (fun hc54 => ?_)
            · have hF := br_pos hc54 hF
              refine lv_iconst (v := 0) hx hb dX4_fillSeats_82 (by decide) ?_
              exact Jj83 (0 : Int32) _ _ _ hF hP hD hS (lv_sub hl [0, 1, 2, 3, 4, 5, 6, 7] rfl)
            · have hF := br_neg hc54 hF
              refine lv_iconst (v := 1) hx hb dX4_fillSeats_78 (by decide) ?_
              refine lv_goto (tgt := 83) hx hb dX4_fillSeats_79 (by decide) ?_
              exact Jj83 (1 : Int32) _ _ _ hF hP hD hS (lv_sub hl [0, 1, 2, 3, 4, 5, 6, 7] rfl)
          · have hF := br_pos hc25 hF
            obtain ⟨e8, e9⟩ := some2 hF
            rw [← e8] at hP hD
            subst hQ
            exact W.vret hx hb hr (fun t ht hW => ⟨⟨(), rfl, trivial, po_mk ht hW hP hK hD⟩, hS.F ht⟩) hS.2.2 dX4_fillSeats_63
  exact L32 100 Z2 (0 : Int32) (0 : Int32) _ _ _ hF hP hD hS (lv_sub hl [0, 1, 2, 3, 4, 5, 6] rfl)
