/-! p31: 16.parties (laid by wip/gen31/bgen.py) -/
noncomputable def F_X1_countVotes_x104 (Z4 : Mem) : Option (Mem × Unit) :=
  some (Z4, ())

noncomputable def F_X1_countVotes_j140 (Z6 : Mem) (u5 : Int32) (B_104 : Mem → Int32 → Option (Mem × Unit)) (v14 : Int32) : Option (Mem × Unit) :=
  bv (si Z6 33 (ix u5) (vp_nar .boolean v14)) fun Z15 => B_104 Z15 (u5 + (1 : Int32))

noncomputable def F_X1_countVotes_l104 (K_104 : Mem → Option (Mem × Unit)) : Nat → Mem → Int32 → Option (Mem × Unit)
  | 0, _, _ => none
  | n104 + 1, Z6, u5 =>
  br ((4 : Int32) ≤ u5) (K_104 Z6) (gd (¬ (u5 < 0 ∨ 4 ≤ ix u5)) <| bv (Z6.1 31 (ix u5)) fun y9 => bv ((100 : Int32) * y9) fun y10 => bv (Z6.1 1 8) fun y11 => bv (Z6.1 30 1) fun y12 => bv (y11 * y12) fun y13 => br (y13 ≤ y10) ((F_X1_countVotes_j140 Z6 u5 (F_X1_countVotes_l104 K_104 n104)) (0 : Int32)) ((F_X1_countVotes_j140 Z6 u5 (F_X1_countVotes_l104 K_104 n104)) (1 : Int32)))

noncomputable def F_X1_countVotes_x38 (Z3 : Mem) : Option (Mem × Unit) :=
  F_X1_countVotes_l104 F_X1_countVotes_x104 100 Z3 (0 : Int32)

noncomputable def F_X1_countVotes_l38 (K_38 : Mem → Option (Mem × Unit)) : Nat → Mem → Int32 → Option (Mem × Unit)
  | 0, _, _ => none
  | n38 + 1, Z18, u17 =>
  bv (Z18.1 1 7) fun y19 => br (y19 ≤ u17) (K_38 Z18) (gd (¬ (u17 < 0 ∨ 24 ≤ ix u17)) <| bv (Z18.1 (39 + (ix u17)) 5) fun y23 => br (y23 ≤ (0 : Int32)) ((F_X1_countVotes_l38 K_38 n38) Z18 (u17 + (1 : Int32))) (bv (Z18.1 (64 + (ix u17)) (ix (0 : Int32))) fun y25 => gd (¬ (y25 < 0 ∨ 6 ≤ ix y25)) <| bv (Z18.1 2 (ix y25)) fun y27 => gd (¬ (y27 < 0 ∨ 4 ≤ ix y27)) <| bv (Z18.1 31 (ix y27)) fun y29 => bv (Z18.1 (39 + (ix u17)) 2) fun y30 => bv (y29 + y30) fun y31 => bv (si Z18 31 (ix y27) y31) fun Z32 => bv (Z32.1 30 1) fun y33 => bv (Z32.1 (39 + (ix u17)) 2) fun y34 => bv (y33 + y34) fun y35 => bv (si Z32 30 1 y35) fun Z36 => (F_X1_countVotes_l38 K_38 n38) Z36 (u17 + (1 : Int32))))

noncomputable def F_X1_countVotes_x7 (Z2 : Mem) : Option (Mem × Unit) :=
  F_X1_countVotes_l38 F_X1_countVotes_x38 100 Z2 (0 : Int32)

noncomputable def F_X1_countVotes_l7 (K_7 : Mem → Option (Mem × Unit)) : Nat → Mem → Int32 → Option (Mem × Unit)
  | 0, _, _ => none
  | n7 + 1, Z38, u37 =>
  br ((4 : Int32) ≤ u37) (K_7 Z38) (gd (¬ (u37 < 0 ∨ 4 ≤ ix u37)) <| bv (si Z38 31 (ix u37) (0 : Int32)) fun Z41 => calp (F_X0_standingOf Z41 u37) fun rr44 => bv (si Z41 32 (ix u37) rr44) fun Z45 => (F_X1_countVotes_l7 K_7 n7) Z45 (u37 + (1 : Int32)))

noncomputable def F_X1_countVotes (Z : Mem) : Option (Mem × Unit) :=
  bv (si Z 30 1 (0 : Int32)) fun Z1 => F_X1_countVotes_l7 F_X1_countVotes_x7 100 Z1 (0 : Int32)

set_option maxHeartbeats 4000000 in
set_option maxRecDepth 100000 in
theorem c_X1_countVotes (l : Launch) (dC : Nat → ClassId) (dI : Nat → Nat → Nat) (q : Nat → ClassId) (aa : Nat → Nat) (Z : Mem)   (sz : Nat) (Zo : Mem) (ro : Unit) (hF : F_X1_countVotes Z  = some (Zo, ro)) : Met l yX1_countVotes wsX1_countVotes ({ frames := 3, cells := 0, slots := 0, locals := 63 }) (va_Pc [.ref (aa 30), .ref (aa 1)] (pr_ dC dI (bw q aa Z) (bty q) sz)) (va_Qv (fun (_ : Unit) => True) (fun (_ : Unit) t => po_ dC dI (bw q aa Zo) (bty q) (va_A (bw q aa Z) sz) t) (va_A (bw q aa Z) sz)) 0 0 (va_A (bw q aa Z) sz) := by
  refine Met.ofW (cc := cX1_countVotes) (maxL := 4) (ret := none) (by decide) rfl ?_
  intro p e s m args below meth c s₁ B hml hv
  obtain ⟨hargs, hsz, hP, hK, hD0⟩ := hv
  have hx := B.exec
  have hb := B.bytes
  have hr := B.returns
  have hts := atoms_spec (ws := wsX1_countVotes) B.pre
  have hown : s.vm.findClass RX1 = some m.cls := findClass_of_methodNamed B.named
  have hlocks := B.notSynchronized
  subst hsz
  have hD := hD0.self (sz := s.heap.size)
  generalize hAe : va_A (bw q aa Z) s.heap.size = A at hD ⊢
  have hA : ∀ x : Nat, s.heap.size ≤ x → A x := fun x h => by rw [← hAe]; exact Or.inr h
  have hS : va_S A s.heap s.heap [] := va_S.rf
  have hinX0 : ∀ w ∈ u_ws RX0 TX0 11, w ∈ wsX1_countVotes := by decide +kernel
  have hinX1 : ∀ w ∈ u_ws RX1 TX1 9, w ∈ wsX1_countVotes := by decide +kernel
  have hinX3 : ∀ w ∈ u_ws RX3 TX3 7, w ∈ wsX1_countVotes := by decide +kernel
  have hl := lv_entry ([.ref (aa 30), .ref (aa 1)]) (n := 4) (Nat.le_of_ble_eq_true rfl)
  refine w_ent hargs ?_
  rw [lg_entry_eq]
  generalize (lg_sl ([.ref (aa 30), .ref (aa 1)]) ++ List.replicate (4 - (lg_sl ([.ref (aa 30), .ref (aa 1)])).length) Slot.unset).toArray = ls at hl ⊢
  have hl : lv_has ls 4 [(0, .ref (aa 30)), (1, .ref (aa 1))] := hl
  unfold F_X1_countVotes at hF
  refine w_go (fun Q hQ => ?_)
  refine lv_aload_n hx hb dX1_countVotes_0 rfl (lv_at hl 0 rfl) ?_
  refine lv_iconst (v := 0) hx hb dX1_countVotes_1 (by decide) ?_
  obtain ⟨Z1, eZ1, hF⟩ := bv_some hF
  refine va_put (D := (dC, dI)) (ci := 3) (v := .int 0) (ty := .int) (C := RX1) (T := TX1) (N := 9) hx hb hts hinX1 tyX1 tyX1_ok nmX1 hown hK hP hD hS 30 (bw_at (i := 30) (by decide) rfl) rfl 1 (by decide) (hts (.fieldLink RX1 37 "BallotLoom$Parties" "allVotes" "I") (by decide +kernel)) (fun _ h9 => h9) rfl (by decide +kernel) rfl rfl (Nat.le_of_ble_eq_true rfl) dX1_countVotes_2 (fun H locs hP hD hS => ?_)
  have eW := wz_o (q := q) (aa := aa) (i := 30) (ci := 3) (fs := [.ref (aa 31), .int 0, .ref (aa 32), .ref (aa 33), .ref (aa 34), .ref (aa 35), .ref (aa 36), .ref (aa 37), .ref (aa 38)]) rfl eZ1
  have hP : va_P (dC, dI) vwCl (bw q aa Z1) H := eW ▸ hP
  have hD : va_D A (bw q aa Z1) := eW ▸ hD
  clear eW
  refine lv_iconst (v := 0) hx hb dX1_countVotes_5 (by decide) ?_
  refine lv_istore_n (lv' := [(2, .int 0), (0, .ref (aa 30)), (1, .ref (aa 1))]) hx hb dX1_countVotes_6 rfl hl (by decide) rfl (fun ls hl => ?_)
  have Jx7 : ∀ (Z2 : Mem) (H : Heap) (locs : List Loc) (ls : Array Slot), F_X1_countVotes_x7 Z2 = some (Zo, ro) → va_P (dC, dI) vwCl (bw q aa Z2) H → va_D A (bw q aa Z2) → va_S A s.heap H locs → lv_has ls 4 [(0, .ref (aa 30)), (1, .ref (aa 1))] → W p l e (headSpec wsX1_countVotes ({ frames := 3, cells := 0, slots := 0, locals := 63 } : Room)).room s m args below meth c H locs 0 0 Q (F0 m 36 ls []) := by
    intro Z2 H locs ls hF hP hD hS hl
    unfold F_X1_countVotes_x7 at hF
    refine lv_iconst (v := 0) hx hb dX1_countVotes_36 (by decide) ?_
    refine lv_istore_n (lv' := [(2, .int 0), (0, .ref (aa 30)), (1, .ref (aa 1))]) hx hb dX1_countVotes_37 rfl hl (by decide) rfl (fun ls hl => ?_)
    have Jx38 : ∀ (Z3 : Mem) (H : Heap) (locs : List Loc) (ls : Array Slot), F_X1_countVotes_x38 Z3 = some (Zo, ro) → va_P (dC, dI) vwCl (bw q aa Z3) H → va_D A (bw q aa Z3) → va_S A s.heap H locs → lv_has ls 4 [(0, .ref (aa 30)), (1, .ref (aa 1))] → W p l e (headSpec wsX1_countVotes ({ frames := 3, cells := 0, slots := 0, locals := 63 } : Room)).room s m args below meth c H locs 0 0 Q (F0 m 102 ls []) := by
      intro Z3 H locs ls hF hP hD hS hl
      unfold F_X1_countVotes_x38 at hF
      refine lv_iconst (v := 0) hx hb dX1_countVotes_102 (by decide) ?_
      refine lv_istore_n (lv' := [(2, .int 0), (0, .ref (aa 30)), (1, .ref (aa 1))]) hx hb dX1_countVotes_103 rfl hl (by decide) rfl (fun ls hl => ?_)
      have Jx104 : ∀ (Z4 : Mem) (H : Heap) (locs : List Loc) (ls : Array Slot), F_X1_countVotes_x104 Z4 = some (Zo, ro) → va_P (dC, dI) vwCl (bw q aa Z4) H → va_D A (bw q aa Z4) → va_S A s.heap H locs → lv_has ls 4 [] → W p l e (headSpec wsX1_countVotes ({ frames := 3, cells := 0, slots := 0, locals := 63 } : Room)).room s m args below meth c H locs 0 0 Q (F0 m 147 ls []) := by
        intro Z4 H locs ls hF hP hD hS hl
        unfold F_X1_countVotes_x104 at hF
        obtain ⟨e8, e9⟩ := some2 hF
        rw [← e8] at hP hD
        subst hQ
        exact W.vret hx hb hr (fun t ht hW => ⟨⟨(), rfl, trivial, po_mk ht hW hP hK hD⟩, hS.F ht⟩) hS.2.2 dX1_countVotes_147
      have L104 : ∀ (n104 : Nat) (Z6 : Mem) (u5 : Int32) (H : Heap) (locs : List Loc) (ls : Array Slot), F_X1_countVotes_l104 F_X1_countVotes_x104 n104 Z6 u5 = some (Zo, ro) → va_P (dC, dI) vwCl (bw q aa Z6) H → va_D A (bw q aa Z6) → va_S A s.heap H locs → lv_has ls 4 [(2, .int u5), (0, .ref (aa 30)), (1, .ref (aa 1))] → W p l e (headSpec wsX1_countVotes ({ frames := 3, cells := 0, slots := 0, locals := 63 } : Room)).room s m args below meth c H locs 0 0 Q (F0 m 104 ls []) := by
        intro n104
        induction n104 with
        | zero =>
          intro Z6 u5 H locs ls hF
          rw [F_X1_countVotes_l104] at hF
          cases hF
        | succ n104 IH104 =>
          intro Z6 u5 H locs ls hF hP hD hS hl
          rw [F_X1_countVotes_l104] at hF
          refine lv_iload_n hx hb dX1_countVotes_104 rfl (lv_at hl 0 rfl) ?_
          refine lv_iconst (v := 4) hx hb dX1_countVotes_105 (by decide) ?_
          refine lv_icmp_ge (tgt := 147) hx hb dX1_countVotes_106 (by decide) (fun hc7 => ?_) (fun hc7 => ?_)
          · have hF := br_pos hc7 hF
            exact Jx104 Z6 _ _ _ hF hP hD hS (lv_sub hl [] rfl)
          · have hF := br_neg hc7 hF
            refine lv_aload_n hx hb dX1_countVotes_109 rfl (lv_at hl 1 rfl) ?_
            refine va_get (D := (dC, dI)) (ci := 3) (v := .ref (aa 33)) (C := RX1) (T := TX1) (N := 9) hx hb hts hinX1 hown hK hP 30 (bw_at (i := 30) (by decide) rfl) rfl 3 (by decide) (hts (.fieldLink RX1 18 "BallotLoom$Parties" "isBarred" "[Z") (by decide +kernel)) (fun _ h9 => h9) rfl dX1_countVotes_110 ?_
            refine lv_iload_n hx hb dX1_countVotes_113 rfl (lv_at hl 0 rfl) ?_
            refine lv_bipush (v := 100) hx hb dX1_countVotes_114 (by decide) ?_
            refine lv_aload_n hx hb dX1_countVotes_116 rfl (lv_at hl 1 rfl) ?_
            refine va_get (D := (dC, dI)) (ci := 3) (v := .ref (aa 31)) (C := RX1) (T := TX1) (N := 9) hx hb hts hinX1 hown hK hP 30 (bw_at (i := 30) (by decide) rfl) rfl 0 (by decide) (hts (.fieldLink RX1 9 "BallotLoom$Parties" "votes" "[I") (by decide +kernel)) (fun _ h9 => h9) rfl dX1_countVotes_117 ?_
            refine lv_iload_n hx hb dX1_countVotes_120 rfl (lv_at hl 0 rfl) ?_
            obtain ⟨hg8, hF⟩ := gd_some hF
            refine va_iald hx hb hK hP 31 0 (at_i (by decide) (fun _ _ => rfl)) rfl hg8 dX1_countVotes_121 ?_
            refine lv_topi (fun y9 ey9 => ?_)
            have hF := bv_at ey9 hF
            refine lv_imul hx hb dX1_countVotes_122 ?_
            refine lv_topi (fun y10 ey10 => ?_)
            have hF := bv_at ey10 hF
            refine lv_aload_n hx hb dX1_countVotes_123 rfl (lv_at hl 2 rfl) ?_
            refine va_get (D := (dC, dI)) (ci := 2) (v := .int (Z6.1 1 8)) (C := RX0) (T := TX0) (N := 11) hx hb hts hinX0 hown hK hP 1 (bw_at (i := 1) (by decide) rfl) rfl 8 (by decide) (hts (.fieldLink RX1 68 "BallotLoom$Box" "percent" "I") (by decide +kernel)) (fun _ h9 => h9) rfl dX1_countVotes_124 ?_
            refine lv_topi (fun y11 ey11 => ?_)
            have hF := bv_at ey11 hF
            refine lv_aload_n hx hb dX1_countVotes_127 rfl (lv_at hl 1 rfl) ?_
            refine va_get (D := (dC, dI)) (ci := 3) (v := .int (Z6.1 30 1)) (C := RX1) (T := TX1) (N := 9) hx hb hts hinX1 hown hK hP 30 (bw_at (i := 30) (by decide) rfl) rfl 1 (by decide) (hts (.fieldLink RX1 37 "BallotLoom$Parties" "allVotes" "I") (by decide +kernel)) (fun _ h9 => h9) rfl dX1_countVotes_128 ?_
            refine lv_topi (fun y12 ey12 => ?_)
            have hF := bv_at ey12 hF
            refine lv_imul hx hb dX1_countVotes_131 ?_
            refine lv_topi (fun y13 ey13 => ?_)
            have hF := bv_at ey13 hF
            have Jj140 : ∀ (v14 : Int32) (H : Heap) (locs : List Loc) (ls : Array Slot), (F_X1_countVotes_j140 Z6 u5 (F_X1_countVotes_l104 F_X1_countVotes_x104 n104)) v14 = some (Zo, ro) → va_P (dC, dI) vwCl (bw q aa Z6) H → va_D A (bw q aa Z6) → va_S A s.heap H locs → lv_has ls 4 [(2, .int u5), (0, .ref (aa 30)), (1, .ref (aa 1))] → W p l e (headSpec wsX1_countVotes ({ frames := 3, cells := 0, slots := 0, locals := 63 } : Room)).room s m args below meth c H locs 0 0 Q (F0 m 140 ls [.int v14, .int u5, .ref (aa 33)]) := by
              intro v14 H locs ls hF hP hD hS hl
              unfold F_X1_countVotes_j140 at hF
              obtain ⟨Z15, eZ15, hF⟩ := bv_some hF
              refine va_zast hx hb hK hP hD hS 33 1 (at_i (by decide) (fun _ _ => rfl)) rfl hg8 dX1_countVotes_140 (fun H locs hP hD hS => ?_)
              have eW := wz_i (q := q) (aa := aa) (i := 33) (fun _ _ => rfl) eZ15
              have hP : va_P (dC, dI) vwCl (bw q aa Z15) H := eW ▸ hP
              have hD : va_D A (bw q aa Z15) := eW ▸ hD
              clear eW
              refine lv_iinc (k := 0) (v := (u5 + (1 : Int32))) (lv' := [(2, .int (u5 + (1 : Int32))), (0, .ref (aa 30)), (1, .ref (aa 1))]) hx hb dX1_countVotes_141 hl rfl (ii_ _ _ _ (by decide)) (by decide) rfl (fun ls hl => ?_)
              refine lv_goto (tgt := 104) hx hb dX1_countVotes_144 (by decide) ?_
              exact IH104 Z15 (u5 + (1 : Int32)) _ _ _ hF hP hD hS (lv_sub hl [0, 1, 2] rfl)
            refine lv_icmp_ge (tgt := 139) hx hb dX1_countVotes_132 (by decide) (fun hc16 => ?_) (fun hc16 => ?_)
            · have hF := br_pos hc16 hF
              refine lv_iconst (v := 0) hx hb dX1_countVotes_139 (by decide) ?_
              exact Jj140 (0 : Int32) _ _ _ hF hP hD hS (lv_sub hl [0, 1, 2] rfl)
            · have hF := br_neg hc16 hF
              refine lv_iconst (v := 1) hx hb dX1_countVotes_135 (by decide) ?_
              refine lv_goto (tgt := 140) hx hb dX1_countVotes_136 (by decide) ?_
              exact Jj140 (1 : Int32) _ _ _ hF hP hD hS (lv_sub hl [0, 1, 2] rfl)
      exact L104 100 Z3 (0 : Int32) _ _ _ hF hP hD hS (lv_sub hl [0, 1, 2] rfl)
    have L38 : ∀ (n38 : Nat) (Z18 : Mem) (u17 : Int32) (H : Heap) (locs : List Loc) (ls : Array Slot), F_X1_countVotes_l38 F_X1_countVotes_x38 n38 Z18 u17 = some (Zo, ro) → va_P (dC, dI) vwCl (bw q aa Z18) H → va_D A (bw q aa Z18) → va_S A s.heap H locs → lv_has ls 4 [(2, .int u17), (0, .ref (aa 30)), (1, .ref (aa 1))] → W p l e (headSpec wsX1_countVotes ({ frames := 3, cells := 0, slots := 0, locals := 63 } : Room)).room s m args below meth c H locs 0 0 Q (F0 m 38 ls []) := by
      intro n38
      induction n38 with
      | zero =>
        intro Z18 u17 H locs ls hF
        rw [F_X1_countVotes_l38] at hF
        cases hF
      | succ n38 IH38 =>
        intro Z18 u17 H locs ls hF hP hD hS hl
        rw [F_X1_countVotes_l38] at hF
        refine lv_iload_n hx hb dX1_countVotes_38 rfl (lv_at hl 0 rfl) ?_
        refine lv_aload_n hx hb dX1_countVotes_39 rfl (lv_at hl 2 rfl) ?_
        refine va_get (D := (dC, dI)) (ci := 2) (v := .int (Z18.1 1 7)) (C := RX0) (T := TX0) (N := 11) hx hb hts hinX0 hown hK hP 1 (bw_at (i := 1) (by decide) rfl) rfl 7 (by decide) (hts (.fieldLink RX1 47 "BallotLoom$Box" "cast" "I") (by decide +kernel)) (fun _ h9 => h9) rfl dX1_countVotes_40 ?_
        refine lv_topi (fun y19 ey19 => ?_)
        have hF := bv_at ey19 hF
        refine lv_icmp_ge (tgt := 102) hx hb dX1_countVotes_43 (by decide) (fun hc20 => ?_) (fun hc20 => ?_)
        · have hF := br_pos hc20 hF
          exact Jx38 Z18 _ _ _ hF hP hD hS (lv_sub hl [1, 2] rfl)
        · have hF := br_neg hc20 hF
          refine lv_aload_n hx hb dX1_countVotes_46 rfl (lv_at hl 2 rfl) ?_
          refine va_get (D := (dC, dI)) (ci := 2) (v := .ref (aa 5)) (C := RX0) (T := TX0) (N := 11) hx hb hts hinX0 hown hK hP 1 (bw_at (i := 1) (by decide) rfl) rfl 6 (by decide) (hts (.fieldLink RX1 50 "BallotLoom$Box" "stacks" "[LBallotLoom$Stack;") (by decide +kernel)) (fun _ h9 => h9) rfl dX1_countVotes_47 ?_
          refine lv_iload_n hx hb dX1_countVotes_50 rfl (lv_at hl 0 rfl) ?_
          obtain ⟨hg21, hF⟩ := gd_some hF
          have hk22 : ix u17 < 25 := in_lt hg21 (by decide)
          refine bq_ald (v := (aa (39 + (ix u17)))) (hty := rfl) hx hb hK hP 5 3 (at_q (by decide) (fun _ _ => rfl)) rfl hg21 (if_pos (in_lt hg21 (Nat.le_refl _))) dX1_countVotes_51 ?_
          refine lv_astore_n (lv' := [(3, .ref (aa (39 + (ix u17)))), (2, .int u17), (0, .ref (aa 30)), (1, .ref (aa 1))]) hx hb dX1_countVotes_52 rfl hl (by decide) rfl (fun ls hl => ?_)
          refine lv_aload_n hx hb dX1_countVotes_53 rfl (lv_at hl 0 rfl) ?_
          refine va_get (D := (dC, dI)) (ci := 5) (v := .int (Z18.1 (39 + (ix u17)) 5)) (C := RX3) (T := TX3) (N := 7) hx hb hts hinX3 hown hK hP (39 + (ix u17)) (bw_at (i := 39 + (ix u17)) (by omega) (bk_stk hk22 _ _)) rfl 5 (by decide) (hts (.fieldLink RX1 54 "BallotLoom$Stack" "length" "I") (by decide +kernel)) (fun _ h9 => h9) rfl dX1_countVotes_54 ?_
          refine lv_topi (fun y23 ey23 => ?_)
          have hF := bv_at ey23 hF
          refine lv_if_le (tgt := 96) hx hb dX1_countVotes_57 (by decide) (fun hc24 => ?_) (fun hc24 => ?_)
          · have hF := br_pos hc24 hF
            refine lv_iinc (k := 1) (v := (u17 + (1 : Int32))) (lv' := [(2, .int (u17 + (1 : Int32))), (3, .ref (aa (39 + (ix u17)))), (0, .ref (aa 30)), (1, .ref (aa 1))]) hx hb dX1_countVotes_96 hl rfl (ii_ _ _ _ (by decide)) (by decide) rfl (fun ls hl => ?_)
            refine lv_goto (tgt := 38) hx hb dX1_countVotes_99 (by decide) ?_
            exact IH38 Z18 (u17 + (1 : Int32)) _ _ _ hF hP hD hS (lv_sub hl [0, 2, 3] rfl)
          · have hF := br_neg hc24 hF
            refine lv_aload_n hx hb dX1_countVotes_60 rfl (lv_at hl 2 rfl) ?_
            refine va_get (D := (dC, dI)) (ci := 3) (v := .ref (aa 31)) (C := RX1) (T := TX1) (N := 9) hx hb hts hinX1 hown hK hP 30 (bw_at (i := 30) (by decide) rfl) rfl 0 (by decide) (hts (.fieldLink RX1 9 "BallotLoom$Parties" "votes" "[I") (by decide +kernel)) (fun _ h9 => h9) rfl dX1_countVotes_61 ?_
            refine lv_aload_n hx hb dX1_countVotes_64 rfl (lv_at hl 3 rfl) ?_
            refine va_get (D := (dC, dI)) (ci := 2) (v := .ref (aa 2)) (C := RX0) (T := TX0) (N := 11) hx hb hts hinX0 hown hK hP 1 (bw_at (i := 1) (by decide) rfl) rfl 0 (by decide) (hts (.fieldLink RX1 59 "BallotLoom$Box" "partyOf" "[I") (by decide +kernel)) (fun _ h9 => h9) rfl dX1_countVotes_65 ?_
            refine lv_aload_n hx hb dX1_countVotes_68 rfl (lv_at hl 0 rfl) ?_
            refine va_get (D := (dC, dI)) (ci := 5) (v := .ref (aa (64 + (ix u17)))) (C := RX3) (T := TX3) (N := 7) hx hb hts hinX3 hown hK hP (39 + (ix u17)) (bw_at (i := 39 + (ix u17)) (by omega) (bk_stk hk22 _ _)) rfl 4 (by decide) (hts (.fieldLink RX1 62 "BallotLoom$Stack" "list" "[I") (by decide +kernel)) (fun _ h9 => h9) rfl dX1_countVotes_69 ?_
            refine lv_iconst (v := 0) hx hb dX1_countVotes_72 (by decide) ?_
            refine va_iald hx hb hK hP (64 + (ix u17)) 0 (at_i (by omega) (bk_lst hk22)) rfl (by unfold vp_in; decide) dX1_countVotes_73 ?_
            refine lv_topi (fun y25 ey25 => ?_)
            have hF := bv_at ey25 hF
            obtain ⟨hg26, hF⟩ := gd_some hF
            refine va_iald hx hb hK hP 2 0 (at_i (by decide) (fun _ _ => rfl)) rfl hg26 dX1_countVotes_74 ?_
            refine lv_topi (fun y27 ey27 => ?_)
            have hF := bv_at ey27 hF
            refine lv_dup2_11 hx hb dX1_countVotes_75 rfl rfl ?_
            obtain ⟨hg28, hF⟩ := gd_some hF
            refine va_iald hx hb hK hP 31 0 (at_i (by decide) (fun _ _ => rfl)) rfl hg28 dX1_countVotes_76 ?_
            refine lv_topi (fun y29 ey29 => ?_)
            have hF := bv_at ey29 hF
            refine lv_aload_n hx hb dX1_countVotes_77 rfl (lv_at hl 0 rfl) ?_
            refine va_get (D := (dC, dI)) (ci := 5) (v := .int (Z18.1 (39 + (ix u17)) 2)) (C := RX3) (T := TX3) (N := 7) hx hb hts hinX3 hown hK hP (39 + (ix u17)) (bw_at (i := 39 + (ix u17)) (by omega) (bk_stk hk22 _ _)) rfl 2 (by decide) (hts (.fieldLink RX1 65 "BallotLoom$Stack" "count" "I") (by decide +kernel)) (fun _ h9 => h9) rfl dX1_countVotes_78 ?_
            refine lv_topi (fun y30 ey30 => ?_)
            have hF := bv_at ey30 hF
            refine lv_iadd hx hb dX1_countVotes_81 ?_
            refine lv_topi (fun y31 ey31 => ?_)
            have hF := bv_at ey31 hF
            obtain ⟨Z32, eZ32, hF⟩ := bv_some hF
            refine va_iast hx hb hK hP hD hS 31 0 (at_i (by decide) (fun _ _ => rfl)) rfl hg28 dX1_countVotes_82 (fun H locs hP hD hS => ?_)
            have eW := wz_i (q := q) (aa := aa) (i := 31) (fun _ _ => rfl) eZ32
            have hP : va_P (dC, dI) vwCl (bw q aa Z32) H := eW ▸ hP
            have hD : va_D A (bw q aa Z32) := eW ▸ hD
            clear eW
            refine lv_aload_n hx hb dX1_countVotes_83 rfl (lv_at hl 2 rfl) ?_
            refine lv_dup hx hb dX1_countVotes_84 rfl ?_
            refine va_get (D := (dC, dI)) (ci := 3) (v := .int (Z32.1 30 1)) (C := RX1) (T := TX1) (N := 9) hx hb hts hinX1 hown hK hP 30 (bw_at (i := 30) (by decide) rfl) rfl 1 (by decide) (hts (.fieldLink RX1 37 "BallotLoom$Parties" "allVotes" "I") (by decide +kernel)) (fun _ h9 => h9) rfl dX1_countVotes_85 ?_
            refine lv_topi (fun y33 ey33 => ?_)
            have hF := bv_at ey33 hF
            refine lv_aload_n hx hb dX1_countVotes_88 rfl (lv_at hl 0 rfl) ?_
            refine va_get (D := (dC, dI)) (ci := 5) (v := .int (Z32.1 (39 + (ix u17)) 2)) (C := RX3) (T := TX3) (N := 7) hx hb hts hinX3 hown hK hP (39 + (ix u17)) (bw_at (i := 39 + (ix u17)) (by omega) (bk_stk hk22 _ _)) rfl 2 (by decide) (hts (.fieldLink RX1 65 "BallotLoom$Stack" "count" "I") (by decide +kernel)) (fun _ h9 => h9) rfl dX1_countVotes_89 ?_
            refine lv_topi (fun y34 ey34 => ?_)
            have hF := bv_at ey34 hF
            refine lv_iadd hx hb dX1_countVotes_92 ?_
            refine lv_topi (fun y35 ey35 => ?_)
            have hF := bv_at ey35 hF
            obtain ⟨Z36, eZ36, hF⟩ := bv_some hF
            refine va_put (D := (dC, dI)) (ci := 3) (v := .int y35) (ty := .int) (C := RX1) (T := TX1) (N := 9) hx hb hts hinX1 tyX1 tyX1_ok nmX1 hown hK hP hD hS 30 (bw_at (i := 30) (by decide) rfl) rfl 1 (by decide) (hts (.fieldLink RX1 37 "BallotLoom$Parties" "allVotes" "I") (by decide +kernel)) (fun _ h9 => h9) rfl (by decide +kernel) rfl rfl (Nat.le_of_ble_eq_true rfl) dX1_countVotes_93 (fun H locs hP hD hS => ?_)
            have eW := wz_o (q := q) (aa := aa) (i := 30) (ci := 3) (fs := [.ref (aa 31), .int y35, .ref (aa 32), .ref (aa 33), .ref (aa 34), .ref (aa 35), .ref (aa 36), .ref (aa 37), .ref (aa 38)]) rfl eZ36
            have hP : va_P (dC, dI) vwCl (bw q aa Z36) H := eW ▸ hP
            have hD : va_D A (bw q aa Z36) := eW ▸ hD
            clear eW
            refine lv_iinc (k := 1) (v := (u17 + (1 : Int32))) (lv' := [(2, .int (u17 + (1 : Int32))), (3, .ref (aa (39 + (ix u17)))), (0, .ref (aa 30)), (1, .ref (aa 1))]) hx hb dX1_countVotes_96 hl rfl (ii_ _ _ _ (by decide)) (by decide) rfl (fun ls hl => ?_)
            refine lv_goto (tgt := 38) hx hb dX1_countVotes_99 (by decide) ?_
            exact IH38 Z36 (u17 + (1 : Int32)) _ _ _ hF hP hD hS (lv_sub hl [0, 2, 3] rfl)
    exact L38 100 Z2 (0 : Int32) _ _ _ hF hP hD hS (lv_sub hl [0, 1, 2] rfl)
  have L7 : ∀ (n7 : Nat) (Z38 : Mem) (u37 : Int32) (H : Heap) (locs : List Loc) (ls : Array Slot), F_X1_countVotes_l7 F_X1_countVotes_x7 n7 Z38 u37 = some (Zo, ro) → va_P (dC, dI) vwCl (bw q aa Z38) H → va_D A (bw q aa Z38) → va_S A s.heap H locs → lv_has ls 4 [(2, .int u37), (0, .ref (aa 30)), (1, .ref (aa 1))] → W p l e (headSpec wsX1_countVotes ({ frames := 3, cells := 0, slots := 0, locals := 63 } : Room)).room s m args below meth c H locs 0 0 Q (F0 m 7 ls []) := by
    intro n7
    induction n7 with
    | zero =>
      intro Z38 u37 H locs ls hF
      rw [F_X1_countVotes_l7] at hF
      cases hF
    | succ n7 IH7 =>
      intro Z38 u37 H locs ls hF hP hD hS hl
      rw [F_X1_countVotes_l7] at hF
      refine lv_iload_n hx hb dX1_countVotes_7 rfl (lv_at hl 0 rfl) ?_
      refine lv_iconst (v := 4) hx hb dX1_countVotes_8 (by decide) ?_
      refine lv_icmp_ge (tgt := 36) hx hb dX1_countVotes_9 (by decide) (fun hc39 => ?_) (fun hc39 => ?_)
      · have hF := br_pos hc39 hF
        exact Jx7 Z38 _ _ _ hF hP hD hS (lv_sub hl [1, 2] rfl)
      · have hF := br_neg hc39 hF
        refine lv_aload_n hx hb dX1_countVotes_12 rfl (lv_at hl 1 rfl) ?_
        refine va_get (D := (dC, dI)) (ci := 3) (v := .ref (aa 31)) (C := RX1) (T := TX1) (N := 9) hx hb hts hinX1 hown hK hP 30 (bw_at (i := 30) (by decide) rfl) rfl 0 (by decide) (hts (.fieldLink RX1 9 "BallotLoom$Parties" "votes" "[I") (by decide +kernel)) (fun _ h9 => h9) rfl dX1_countVotes_13 ?_
        refine lv_iload_n hx hb dX1_countVotes_16 rfl (lv_at hl 0 rfl) ?_
        refine lv_iconst (v := 0) hx hb dX1_countVotes_17 (by decide) ?_
        obtain ⟨hg40, hF⟩ := gd_some hF
        obtain ⟨Z41, eZ41, hF⟩ := bv_some hF
        refine va_iast hx hb hK hP hD hS 31 0 (at_i (by decide) (fun _ _ => rfl)) rfl hg40 dX1_countVotes_18 (fun H locs hP hD hS => ?_)
        have eW := wz_i (q := q) (aa := aa) (i := 31) (fun _ _ => rfl) eZ41
        have hP : va_P (dC, dI) vwCl (bw q aa Z41) H := eW ▸ hP
        have hD : va_D A (bw q aa Z41) := eW ▸ hD
        clear eW
        refine lv_aload_n hx hb dX1_countVotes_19 rfl (lv_at hl 1 rfl) ?_
        refine va_get (D := (dC, dI)) (ci := 3) (v := .ref (aa 32)) (C := RX1) (T := TX1) (N := 9) hx hb hts hinX1 hown hK hP 30 (bw_at (i := 30) (by decide) rfl) rfl 2 (by decide) (hts (.fieldLink RX1 15 "BallotLoom$Parties" "standing" "[I") (by decide +kernel)) (fun _ h9 => h9) rfl dX1_countVotes_20 ?_
        refine lv_iload_n hx hb dX1_countVotes_23 rfl (lv_at hl 0 rfl) ?_
        refine lv_aload_n hx hb dX1_countVotes_24 rfl (lv_at hl 2 rfl) ?_
        refine lv_iload_n hx hb dX1_countVotes_25 rfl (lv_at hl 0 rfl) ?_
        obtain ⟨r43, hC42, hF⟩ := calp_some hF
        have hFc := b_free (ws := bw q aa Z41) hD hS hA
        refine va_calli (va_runV (As := [.int u37]) (rest := [.int u37, .ref (aa 32)]) ⟨hx, hb, hml, hown, hts⟩ (c_X0_standingOf l dC dI q aa Z41 u37  _ _  hC42) (cwV 1 hts gX1_countVotes_X0_standingOf rfl rfl rfl (by decide +kernel) ⟨Nat.le_of_ble_eq_true rfl, Nat.le_of_ble_eq_true rfl⟩) ⟨pr_blind, va_recv hK hP (ci := 2) (q0 := 1) rfl (bw_at (i := 1) (by decide) rfl), fun U hU hW => ⟨rfl, pr_mk hU hW hP hK hD⟩⟩ rfl rfl hl.1 rfl (lv_room (Nat.le_of_ble_eq_true rfl)) dX1_countVotes_26 ⟨Nat.le_of_ble_eq_true rfl, Nat.le_of_ble_eq_true rfl⟩) hS (fun x _ h => hFc x h) hFc (fun rr44 u t H1 locs ht hvm hw hB hz1 hk1 hS => ?_)
        obtain ⟨hP, hK1, hD1⟩ := hB
        rw [ht] at hP
        have hD := hD1.weaken (fun _ q9 _ h9 => hFc q9.1 h9)
        clear hFc hD1 hK1 hvm hz1 hk1
        generalize H1 = H at hP hS ⊢
        refine W.widen (k := 0) (n := 0) (Nat.le_refl _) (Nat.le_refl _) ?_
        obtain rfl : rr44 = r43 := hw
        obtain ⟨Z45, eZ45, hF⟩ := bv_some hF
        refine va_iast hx hb hK hP hD hS 32 0 (at_i (by decide) (fun _ _ => rfl)) rfl hg40 dX1_countVotes_29 (fun H locs hP hD hS => ?_)
        have eW := wz_i (q := q) (aa := aa) (i := 32) (fun _ _ => rfl) eZ45
        have hP : va_P (dC, dI) vwCl (bw q aa Z45) H := eW ▸ hP
        have hD : va_D A (bw q aa Z45) := eW ▸ hD
        clear eW
        refine lv_iinc (k := 0) (v := (u37 + (1 : Int32))) (lv' := [(2, .int (u37 + (1 : Int32))), (0, .ref (aa 30)), (1, .ref (aa 1))]) hx hb dX1_countVotes_30 hl rfl (ii_ _ _ _ (by decide)) (by decide) rfl (fun ls hl => ?_)
        refine lv_goto (tgt := 7) hx hb dX1_countVotes_33 (by decide) ?_
        exact IH7 Z45 (u37 + (1 : Int32)) _ _ _ hF hP hD hS (lv_sub hl [0, 1, 2] rfl)
  exact L7 100 Z1 (0 : Int32) _ _ _ hF hP hD hS (lv_sub hl [0, 1, 2] rfl)

noncomputable def F_X1_barredSet_x4 (w1 : Int32) : Option Int32 :=
  some w1

noncomputable def F_X1_barredSet_l4 (Z : Mem) (K_4 : Int32 → Option Int32) : Nat → Int32 → Int32 → Option Int32
  | 0, _, _ => none
  | n4 + 1, u2, u3 =>
  br ((4 : Int32) ≤ u3) (K_4 u2) (gd (¬ (u3 < 0 ∨ 4 ≤ ix u3)) <| bv (Z.1 33 (ix u3)) fun y6 => br (y6 = (0 : Int32)) ((F_X1_barredSet_l4 Z K_4 n4) u2 (u3 + (1 : Int32))) (bv ((1 : Int32) <<< (u3 &&& 31)) fun y8 => bv (u2 ||| y8) fun y9 => (F_X1_barredSet_l4 Z K_4 n4) y9 (u3 + (1 : Int32))))

noncomputable def F_X1_barredSet (Z : Mem) : Option Int32 :=
  F_X1_barredSet_l4 Z F_X1_barredSet_x4 100 (0 : Int32) (0 : Int32)

set_option maxHeartbeats 4000000 in
set_option maxRecDepth 100000 in
theorem c_X1_barredSet (l : Launch) (dC : Nat → ClassId) (dI : Nat → Nat → Nat) (q : Nat → ClassId) (aa : Nat → Nat) (Z : Mem)   (sz : Nat) (ro : Int32) (hF : F_X1_barredSet Z  = some ro) : Met l yX1_barredSet wsX1_barredSet ({ frames := 2, cells := 0, slots := 0, locals := 40 }) (va_Pc [.ref (aa 30)] (pr_ dC dI (bw q aa Z) (bty q) sz)) (va_Qi (fun (r : Int32) (_ : Unit) => r = ro) (fun (_ : Unit) t => po_ dC dI (bw q aa Z) (bty q) (va_A (bw q aa Z) sz) t) (va_A (bw q aa Z) sz)) 0 0 (va_A (bw q aa Z) sz) := by
  refine Met.ofW (cc := cX1_barredSet) (maxL := 3) (ret := (some .int)) (by decide) rfl ?_
  intro p e s m args below meth c s₁ B hml hv
  obtain ⟨hargs, hsz, hP, hK, hD0⟩ := hv
  have hx := B.exec
  have hb := B.bytes
  have hr := B.returns
  have hts := atoms_spec (ws := wsX1_barredSet) B.pre
  have hown : s.vm.findClass RX1 = some m.cls := findClass_of_methodNamed B.named
  have hlocks := B.notSynchronized
  subst hsz
  have hD := hD0.self (sz := s.heap.size)
  generalize hAe : va_A (bw q aa Z) s.heap.size = A at hD ⊢
  have hA : ∀ x : Nat, s.heap.size ≤ x → A x := fun x h => by rw [← hAe]; exact Or.inr h
  have hS : va_S A s.heap s.heap [] := va_S.rf
  have hinX1 : ∀ w ∈ u_ws RX1 TX1 9, w ∈ wsX1_barredSet := by decide +kernel
  have hl := lv_entry ([.ref (aa 30)]) (n := 3) (Nat.le_of_ble_eq_true rfl)
  refine w_ent hargs ?_
  rw [lg_entry_eq]
  generalize (lg_sl ([.ref (aa 30)]) ++ List.replicate (3 - (lg_sl ([.ref (aa 30)])).length) Slot.unset).toArray = ls at hl ⊢
  have hl : lv_has ls 3 [(0, .ref (aa 30))] := hl
  unfold F_X1_barredSet at hF
  refine w_go (fun Q hQ => ?_)
  refine lv_iconst (v := 0) hx hb dX1_barredSet_0 (by decide) ?_
  refine lv_istore_n (lv' := [(1, .int 0), (0, .ref (aa 30))]) hx hb dX1_barredSet_1 rfl hl (by decide) rfl (fun ls hl => ?_)
  refine lv_iconst (v := 0) hx hb dX1_barredSet_2 (by decide) ?_
  refine lv_istore_n (lv' := [(2, .int 0), (1, .int 0), (0, .ref (aa 30))]) hx hb dX1_barredSet_3 rfl hl (by decide) rfl (fun ls hl => ?_)
  have Jx4 : ∀ (w1 : Int32) (H : Heap) (locs : List Loc) (ls : Array Slot), F_X1_barredSet_x4 w1 = some ro → va_P (dC, dI) vwCl (bw q aa Z) H → va_D A (bw q aa Z) → va_S A s.heap H locs → lv_has ls 3 [(1, .int w1)] → W p l e (headSpec wsX1_barredSet ({ frames := 2, cells := 0, slots := 0, locals := 40 } : Room)).room s m args below meth c H locs 0 0 Q (F0 m 30 ls []) := by
    intro w1 H locs ls hF hP hD hS hl
    unfold F_X1_barredSet_x4 at hF
    refine lv_iload_n hx hb dX1_barredSet_30 rfl (lv_at hl 0 rfl) ?_
    have e9 := some1 hF
    subst hQ
    exact W.iret (v := w1) hx hb hr (fun t ht hW => ⟨⟨w1, (), rfl, e9.symm, po_mk ht hW hP hK hD⟩, hS.F ht⟩) hS.2.2 dX1_barredSet_31
  have L4 : ∀ (n4 : Nat) (u2 : Int32) (u3 : Int32) (H : Heap) (locs : List Loc) (ls : Array Slot), F_X1_barredSet_l4 Z F_X1_barredSet_x4 n4 u2 u3 = some ro → va_P (dC, dI) vwCl (bw q aa Z) H → va_D A (bw q aa Z) → va_S A s.heap H locs → lv_has ls 3 [(2, .int u3), (1, .int u2), (0, .ref (aa 30))] → W p l e (headSpec wsX1_barredSet ({ frames := 2, cells := 0, slots := 0, locals := 40 } : Room)).room s m args below meth c H locs 0 0 Q (F0 m 4 ls []) := by
    intro n4
    induction n4 with
    | zero =>
      intro u2 u3 H locs ls hF
      rw [F_X1_barredSet_l4] at hF
      cases hF
    | succ n4 IH4 =>
      intro u2 u3 H locs ls hF hP hD hS hl
      rw [F_X1_barredSet_l4] at hF
      refine lv_iload_n hx hb dX1_barredSet_4 rfl (lv_at hl 0 rfl) ?_
      refine lv_iconst (v := 4) hx hb dX1_barredSet_5 (by decide) ?_
      refine lv_icmp_ge (tgt := 30) hx hb dX1_barredSet_6 (by decide) (fun hc4 => ?_) (fun hc4 => ?_)
      · have hF := br_pos hc4 hF
        exact Jx4 u2 _ _ _ hF hP hD hS (lv_sub hl [1] rfl)
      · have hF := br_neg hc4 hF
        refine lv_aload_n hx hb dX1_barredSet_9 rfl (lv_at hl 2 rfl) ?_
        refine va_get (D := (dC, dI)) (ci := 3) (v := .ref (aa 33)) (C := RX1) (T := TX1) (N := 9) hx hb hts hinX1 hown hK hP 30 (bw_at (i := 30) (by decide) rfl) rfl 3 (by decide) (hts (.fieldLink RX1 18 "BallotLoom$Parties" "isBarred" "[Z") (by decide +kernel)) (fun _ h9 => h9) rfl dX1_barredSet_10 ?_
        refine lv_iload_n hx hb dX1_barredSet_13 rfl (lv_at hl 0 rfl) ?_
        obtain ⟨hg5, hF⟩ := gd_some hF
        refine va_zald hx hb hK hP 33 1 (at_i (by decide) (fun _ _ => rfl)) rfl hg5 dX1_barredSet_14 ?_
        refine lv_topi (fun y6 ey6 => ?_)
        have hF := bv_at ey6 hF
        refine lv_if_eq (tgt := 24) hx hb dX1_barredSet_15 (by decide) (fun hc7 => ?_) (fun hc7 => ?_)
        · have hF := br_pos hc7 hF
          refine lv_iinc (k := 0) (v := (u3 + (1 : Int32))) (lv' := [(2, .int (u3 + (1 : Int32))), (1, .int u2), (0, .ref (aa 30))]) hx hb dX1_barredSet_24 hl rfl (ii_ _ _ _ (by decide)) (by decide) rfl (fun ls hl => ?_)
          refine lv_goto (tgt := 4) hx hb dX1_barredSet_27 (by decide) ?_
          exact IH4 u2 (u3 + (1 : Int32)) _ _ _ hF hP hD hS (lv_sub hl [0, 1, 2] rfl)
        · have hF := br_neg hc7 hF
          refine lv_iload_n hx hb dX1_barredSet_18 rfl (lv_at hl 1 rfl) ?_
          refine lv_iconst (v := 1) hx hb dX1_barredSet_19 (by decide) ?_
          refine lv_iload_n hx hb dX1_barredSet_20 rfl (lv_at hl 0 rfl) ?_
          refine lv_ishl hx hb dX1_barredSet_21 ?_
          refine lv_topi (fun y8 ey8 => ?_)
          have hF := bv_at ey8 hF
          refine lv_ior hx hb dX1_barredSet_22 ?_
          refine lv_topi (fun y9 ey9 => ?_)
          have hF := bv_at ey9 hF
          refine lv_istore_n (lv' := [(1, .int y9), (2, .int u3), (0, .ref (aa 30))]) hx hb dX1_barredSet_23 rfl hl (by decide) rfl (fun ls hl => ?_)
          refine lv_iinc (k := 1) (v := (u3 + (1 : Int32))) (lv' := [(2, .int (u3 + (1 : Int32))), (1, .int y9), (0, .ref (aa 30))]) hx hb dX1_barredSet_24 hl rfl (ii_ _ _ _ (by decide)) (by decide) rfl (fun ls hl => ?_)
          refine lv_goto (tgt := 4) hx hb dX1_barredSet_27 (by decide) ?_
          exact IH4 y9 (u3 + (1 : Int32)) _ _ _ hF hP hD hS (lv_sub hl [0, 1, 2] rfl)
  exact L4 100 (0 : Int32) (0 : Int32) _ _ _ hF hP hD hS (lv_sub hl [0, 1, 2] rfl)

noncomputable def F_X1_countVotesHere_x28 (Z3 : Mem) (w2 : Int32) : Option (Mem × Int32) :=
  some (Z3, w2)

noncomputable def F_X1_countVotesHere_l28 (K_28 : Mem → Int32 → Option (Mem × Int32)) : Nat → Mem → Int32 → Int32 → Option (Mem × Int32)
  | 0, _, _, _ => none
  | n28 + 1, Z6, u4, u5 =>
  bv (Z6.1 1 2) fun y7 => br (y7 ≤ u5) (K_28 Z6 u4) (gd (¬ (u5 < 0 ∨ 6 ≤ ix u5)) <| bv (Z6.1 2 (ix u5)) fun y10 => gd (¬ (y10 < 0 ∨ 4 ≤ ix y10)) <| bv (Z6.1 37 (ix y10)) fun y12 => bv (Z6.1 7 (ix u5)) fun y13 => bv (y12 + y13) fun y14 => bv (si Z6 37 (ix y10) y14) fun Z15 => bv (Z15.1 7 (ix u5)) fun y16 => bv (u4 + y16) fun y17 => (F_X1_countVotesHere_l28 K_28 n28) Z15 y17 (u5 + (1 : Int32)))

noncomputable def F_X1_countVotesHere_x5 (Z1 : Mem) : Option (Mem × Int32) :=
  F_X1_countVotesHere_l28 F_X1_countVotesHere_x28 100 Z1 (0 : Int32) (0 : Int32)

noncomputable def F_X1_countVotesHere_l5 (K_5 : Mem → Option (Mem × Int32)) : Nat → Mem → Int32 → Option (Mem × Int32)
  | 0, _, _ => none
  | n5 + 1, Z19, u18 =>
  br ((4 : Int32) ≤ u18) (K_5 Z19) (gd (¬ (u18 < 0 ∨ 4 ≤ ix u18)) <| bv (si Z19 37 (ix u18) (0 : Int32)) fun Z22 => (F_X1_countVotesHere_l5 K_5 n5) Z22 (u18 + (1 : Int32)))

noncomputable def F_X1_countVotesHere (Z : Mem) : Option (Mem × Int32) :=
  F_X1_countVotesHere_l5 F_X1_countVotesHere_x5 100 Z (0 : Int32)

set_option maxHeartbeats 4000000 in
set_option maxRecDepth 100000 in
theorem c_X1_countVotesHere (l : Launch) (dC : Nat → ClassId) (dI : Nat → Nat → Nat) (q : Nat → ClassId) (aa : Nat → Nat) (Z : Mem)   (sz : Nat) (Zo : Mem) (ro : Int32) (hF : F_X1_countVotesHere Z  = some (Zo, ro)) : Met l yX1_countVotesHere wsX1_countVotesHere ({ frames := 2, cells := 0, slots := 0, locals := 40 }) (va_Pc [.ref (aa 30), .ref (aa 1), .ref (aa 6)] (pr_ dC dI (bw q aa Z) (bty q) sz)) (va_Qi (fun (r : Int32) (_ : Unit) => r = ro) (fun (_ : Unit) t => po_ dC dI (bw q aa Zo) (bty q) (va_A (bw q aa Z) sz) t) (va_A (bw q aa Z) sz)) 0 0 (va_A (bw q aa Z) sz) := by
  refine Met.ofW (cc := cX1_countVotesHere) (maxL := 5) (ret := (some .int)) (by decide) rfl ?_
  intro p e s m args below meth c s₁ B hml hv
  obtain ⟨hargs, hsz, hP, hK, hD0⟩ := hv
  have hx := B.exec
  have hb := B.bytes
  have hr := B.returns
  have hts := atoms_spec (ws := wsX1_countVotesHere) B.pre
  have hown : s.vm.findClass RX1 = some m.cls := findClass_of_methodNamed B.named
  have hlocks := B.notSynchronized
  subst hsz
  have hD := hD0.self (sz := s.heap.size)
  generalize hAe : va_A (bw q aa Z) s.heap.size = A at hD ⊢
  have hA : ∀ x : Nat, s.heap.size ≤ x → A x := fun x h => by rw [← hAe]; exact Or.inr h
  have hS : va_S A s.heap s.heap [] := va_S.rf
  have hinX0 : ∀ w ∈ u_ws RX0 TX0 11, w ∈ wsX1_countVotesHere := by decide +kernel
  have hinX1 : ∀ w ∈ u_ws RX1 TX1 9, w ∈ wsX1_countVotesHere := by decide +kernel
  have hinX2 : ∀ w ∈ u_ws RX2 TX2 7, w ∈ wsX1_countVotesHere := by decide +kernel
  have hl := lv_entry ([.ref (aa 30), .ref (aa 1), .ref (aa 6)]) (n := 5) (Nat.le_of_ble_eq_true rfl)
  refine w_ent hargs ?_
  rw [lg_entry_eq]
  generalize (lg_sl ([.ref (aa 30), .ref (aa 1), .ref (aa 6)]) ++ List.replicate (5 - (lg_sl ([.ref (aa 30), .ref (aa 1), .ref (aa 6)])).length) Slot.unset).toArray = ls at hl ⊢
  have hl : lv_has ls 5 [(0, .ref (aa 30)), (1, .ref (aa 1)), (2, .ref (aa 6))] := hl
  unfold F_X1_countVotesHere at hF
  refine w_go (fun Q hQ => ?_)
  refine lv_iconst (v := 0) hx hb dX1_countVotesHere_0 (by decide) ?_
  refine lv_istore_n (lv' := [(3, .int 0), (0, .ref (aa 30)), (1, .ref (aa 1)), (2, .ref (aa 6))]) hx hb dX1_countVotesHere_1 rfl hl (by decide) rfl (fun ls hl => ?_)
  refine lv_iconst (v := 0) hx hb dX1_countVotesHere_2 (by decide) ?_
  refine lv_istore (lv' := [(4, .int 0), (3, .int 0), (0, .ref (aa 30)), (1, .ref (aa 1)), (2, .ref (aa 6))]) hx hb dX1_countVotesHere_3 hl (by decide) rfl (fun ls hl => ?_)
  have Jx5 : ∀ (Z1 : Mem) (H : Heap) (locs : List Loc) (ls : Array Slot), F_X1_countVotesHere_x5 Z1 = some (Zo, ro) → va_P (dC, dI) vwCl (bw q aa Z1) H → va_D A (bw q aa Z1) → va_S A s.heap H locs → lv_has ls 5 [(3, .int 0), (0, .ref (aa 30)), (1, .ref (aa 1)), (2, .ref (aa 6))] → W p l e (headSpec wsX1_countVotesHere ({ frames := 2, cells := 0, slots := 0, locals := 40 } : Room)).room s m args below meth c H locs 0 0 Q (F0 m 25 ls []) := by
    intro Z1 H locs ls hF hP hD hS hl
    unfold F_X1_countVotesHere_x5 at hF
    refine lv_iconst (v := 0) hx hb dX1_countVotesHere_25 (by decide) ?_
    refine lv_istore (lv' := [(4, .int 0), (3, .int 0), (0, .ref (aa 30)), (1, .ref (aa 1)), (2, .ref (aa 6))]) hx hb dX1_countVotesHere_26 hl (by decide) rfl (fun ls hl => ?_)
    have Jx28 : ∀ (Z3 : Mem) (w2 : Int32) (H : Heap) (locs : List Loc) (ls : Array Slot), F_X1_countVotesHere_x28 Z3 w2 = some (Zo, ro) → va_P (dC, dI) vwCl (bw q aa Z3) H → va_D A (bw q aa Z3) → va_S A s.heap H locs → lv_has ls 5 [(3, .int w2)] → W p l e (headSpec wsX1_countVotesHere ({ frames := 2, cells := 0, slots := 0, locals := 40 } : Room)).room s m args below meth c H locs 0 0 Q (F0 m 75 ls []) := by
      intro Z3 w2 H locs ls hF hP hD hS hl
      unfold F_X1_countVotesHere_x28 at hF
      refine lv_iload_n hx hb dX1_countVotesHere_75 rfl (lv_at hl 0 rfl) ?_
      obtain ⟨e8, e9⟩ := some2 hF
      rw [← e8] at hP hD
      subst hQ
      exact W.iret (v := w2) hx hb hr (fun t ht hW => ⟨⟨w2, (), rfl, e9.symm, po_mk ht hW hP hK hD⟩, hS.F ht⟩) hS.2.2 dX1_countVotesHere_76
    have L28 : ∀ (n28 : Nat) (Z6 : Mem) (u4 : Int32) (u5 : Int32) (H : Heap) (locs : List Loc) (ls : Array Slot), F_X1_countVotesHere_l28 F_X1_countVotesHere_x28 n28 Z6 u4 u5 = some (Zo, ro) → va_P (dC, dI) vwCl (bw q aa Z6) H → va_D A (bw q aa Z6) → va_S A s.heap H locs → lv_has ls 5 [(4, .int u5), (3, .int u4), (0, .ref (aa 30)), (1, .ref (aa 1)), (2, .ref (aa 6))] → W p l e (headSpec wsX1_countVotesHere ({ frames := 2, cells := 0, slots := 0, locals := 40 } : Room)).room s m args below meth c H locs 0 0 Q (F0 m 28 ls []) := by
      intro n28
      induction n28 with
      | zero =>
        intro Z6 u4 u5 H locs ls hF
        rw [F_X1_countVotesHere_l28] at hF
        cases hF
      | succ n28 IH28 =>
        intro Z6 u4 u5 H locs ls hF hP hD hS hl
        rw [F_X1_countVotesHere_l28] at hF
        refine lv_iload hx hb dX1_countVotesHere_28 (lv_at hl 0 rfl) ?_
        refine lv_aload_n hx hb dX1_countVotesHere_30 rfl (lv_at hl 3 rfl) ?_
        refine va_get (D := (dC, dI)) (ci := 2) (v := .int (Z6.1 1 2)) (C := RX0) (T := TX0) (N := 11) hx hb hts hinX0 hown hK hP 1 (bw_at (i := 1) (by decide) rfl) rfl 2 (by decide) (hts (.fieldLink RX1 95 "BallotLoom$Box" "candidates" "I") (by decide +kernel)) (fun _ h9 => h9) rfl dX1_countVotesHere_31 ?_
        refine lv_topi (fun y7 ey7 => ?_)
        have hF := bv_at ey7 hF
        refine lv_icmp_ge (tgt := 75) hx hb dX1_countVotesHere_34 (by decide) (fun hc8 => ?_) (fun hc8 => ?_)
        · have hF := br_pos hc8 hF
          exact Jx28 Z6 u4 _ _ _ hF hP hD hS (lv_sub hl [1] rfl)
        · have hF := br_neg hc8 hF
          refine lv_aload_n hx hb dX1_countVotesHere_37 rfl (lv_at hl 2 rfl) ?_
          refine va_get (D := (dC, dI)) (ci := 3) (v := .ref (aa 37)) (C := RX1) (T := TX1) (N := 9) hx hb hts hinX1 hown hK hP 30 (bw_at (i := 30) (by decide) rfl) rfl 7 (by decide) (hts (.fieldLink RX1 31 "BallotLoom$Parties" "votesHere" "[I") (by decide +kernel)) (fun _ h9 => h9) rfl dX1_countVotesHere_38 ?_
          refine lv_aload_n hx hb dX1_countVotesHere_41 rfl (lv_at hl 3 rfl) ?_
          refine va_get (D := (dC, dI)) (ci := 2) (v := .ref (aa 2)) (C := RX0) (T := TX0) (N := 11) hx hb hts hinX0 hown hK hP 1 (bw_at (i := 1) (by decide) rfl) rfl 0 (by decide) (hts (.fieldLink RX1 59 "BallotLoom$Box" "partyOf" "[I") (by decide +kernel)) (fun _ h9 => h9) rfl dX1_countVotesHere_42 ?_
          refine lv_iload hx hb dX1_countVotesHere_45 (lv_at hl 0 rfl) ?_
          obtain ⟨hg9, hF⟩ := gd_some hF
          refine va_iald hx hb hK hP 2 0 (at_i (by decide) (fun _ _ => rfl)) rfl hg9 dX1_countVotesHere_47 ?_
          refine lv_topi (fun y10 ey10 => ?_)
          have hF := bv_at ey10 hF
          refine lv_dup2_11 hx hb dX1_countVotesHere_48 rfl rfl ?_
          obtain ⟨hg11, hF⟩ := gd_some hF
          refine va_iald hx hb hK hP 37 0 (at_i (by decide) (fun _ _ => rfl)) rfl hg11 dX1_countVotesHere_49 ?_
          refine lv_topi (fun y12 ey12 => ?_)
          have hF := bv_at ey12 hF
          refine lv_aload_n hx hb dX1_countVotesHere_50 rfl (lv_at hl 4 rfl) ?_
          refine va_get (D := (dC, dI)) (ci := 4) (v := .ref (aa 7)) (C := RX2) (T := TX2) (N := 7) hx hb hts hinX2 hown hK hP 6 (bw_at (i := 6) (by decide) rfl) rfl 0 (by decide) (hts (.fieldLink RX1 84 "BallotLoom$Poll" "firsts" "[I") (by decide +kernel)) (fun _ h9 => h9) rfl dX1_countVotesHere_51 ?_
          refine lv_iload hx hb dX1_countVotesHere_54 (lv_at hl 0 rfl) ?_
          refine va_iald hx hb hK hP 7 0 (at_i (by decide) (fun _ _ => rfl)) rfl hg9 dX1_countVotesHere_56 ?_
          refine lv_topi (fun y13 ey13 => ?_)
          have hF := bv_at ey13 hF
          refine lv_iadd hx hb dX1_countVotesHere_57 ?_
          refine lv_topi (fun y14 ey14 => ?_)
          have hF := bv_at ey14 hF
          obtain ⟨Z15, eZ15, hF⟩ := bv_some hF
          refine va_iast hx hb hK hP hD hS 37 0 (at_i (by decide) (fun _ _ => rfl)) rfl hg11 dX1_countVotesHere_58 (fun H locs hP hD hS => ?_)
          have eW := wz_i (q := q) (aa := aa) (i := 37) (fun _ _ => rfl) eZ15
          have hP : va_P (dC, dI) vwCl (bw q aa Z15) H := eW ▸ hP
          have hD : va_D A (bw q aa Z15) := eW ▸ hD
          clear eW
          refine lv_iload_n hx hb dX1_countVotesHere_59 rfl (lv_at hl 1 rfl) ?_
          refine lv_aload_n hx hb dX1_countVotesHere_60 rfl (lv_at hl 4 rfl) ?_
          refine va_get (D := (dC, dI)) (ci := 4) (v := .ref (aa 7)) (C := RX2) (T := TX2) (N := 7) hx hb hts hinX2 hown hK hP 6 (bw_at (i := 6) (by decide) rfl) rfl 0 (by decide) (hts (.fieldLink RX1 84 "BallotLoom$Poll" "firsts" "[I") (by decide +kernel)) (fun _ h9 => h9) rfl dX1_countVotesHere_61 ?_
          refine lv_iload hx hb dX1_countVotesHere_64 (lv_at hl 0 rfl) ?_
          refine va_iald hx hb hK hP 7 0 (at_i (by decide) (fun _ _ => rfl)) rfl hg9 dX1_countVotesHere_66 ?_
          refine lv_topi (fun y16 ey16 => ?_)
          have hF := bv_at ey16 hF
          refine lv_iadd hx hb dX1_countVotesHere_67 ?_
          refine lv_topi (fun y17 ey17 => ?_)
          have hF := bv_at ey17 hF
          refine lv_istore_n (lv' := [(3, .int y17), (4, .int u5), (0, .ref (aa 30)), (1, .ref (aa 1)), (2, .ref (aa 6))]) hx hb dX1_countVotesHere_68 rfl hl (by decide) rfl (fun ls hl => ?_)
          refine lv_iinc (k := 1) (v := (u5 + (1 : Int32))) (lv' := [(4, .int (u5 + (1 : Int32))), (3, .int y17), (0, .ref (aa 30)), (1, .ref (aa 1)), (2, .ref (aa 6))]) hx hb dX1_countVotesHere_69 hl rfl (ii_ _ _ _ (by decide)) (by decide) rfl (fun ls hl => ?_)
          refine lv_goto (tgt := 28) hx hb dX1_countVotesHere_72 (by decide) ?_
          exact IH28 Z15 y17 (u5 + (1 : Int32)) _ _ _ hF hP hD hS (lv_sub hl [0, 1, 2, 3, 4] rfl)
    exact L28 100 Z1 (0 : Int32) (0 : Int32) _ _ _ hF hP hD hS (lv_sub hl [0, 1, 2, 3, 4] rfl)
  have L5 : ∀ (n5 : Nat) (Z19 : Mem) (u18 : Int32) (H : Heap) (locs : List Loc) (ls : Array Slot), F_X1_countVotesHere_l5 F_X1_countVotesHere_x5 n5 Z19 u18 = some (Zo, ro) → va_P (dC, dI) vwCl (bw q aa Z19) H → va_D A (bw q aa Z19) → va_S A s.heap H locs → lv_has ls 5 [(4, .int u18), (3, .int 0), (0, .ref (aa 30)), (1, .ref (aa 1)), (2, .ref (aa 6))] → W p l e (headSpec wsX1_countVotesHere ({ frames := 2, cells := 0, slots := 0, locals := 40 } : Room)).room s m args below meth c H locs 0 0 Q (F0 m 5 ls []) := by
    intro n5
    induction n5 with
    | zero =>
      intro Z19 u18 H locs ls hF
      rw [F_X1_countVotesHere_l5] at hF
      cases hF
    | succ n5 IH5 =>
      intro Z19 u18 H locs ls hF hP hD hS hl
      rw [F_X1_countVotesHere_l5] at hF
      refine lv_iload hx hb dX1_countVotesHere_5 (lv_at hl 0 rfl) ?_
      refine lv_iconst (v := 4) hx hb dX1_countVotesHere_7 (by decide) ?_
      refine lv_icmp_ge (tgt := 25) hx hb dX1_countVotesHere_8 (by decide) (fun hc20 => ?_) (fun hc20 => ?_)
      · have hF := br_pos hc20 hF
        exact Jx5 Z19 _ _ _ hF hP hD hS (lv_sub hl [1, 2, 3, 4] rfl)
      · have hF := br_neg hc20 hF
        refine lv_aload_n hx hb dX1_countVotesHere_11 rfl (lv_at hl 2 rfl) ?_
        refine va_get (D := (dC, dI)) (ci := 3) (v := .ref (aa 37)) (C := RX1) (T := TX1) (N := 9) hx hb hts hinX1 hown hK hP 30 (bw_at (i := 30) (by decide) rfl) rfl 7 (by decide) (hts (.fieldLink RX1 31 "BallotLoom$Parties" "votesHere" "[I") (by decide +kernel)) (fun _ h9 => h9) rfl dX1_countVotesHere_12 ?_
        refine lv_iload hx hb dX1_countVotesHere_15 (lv_at hl 0 rfl) ?_
        refine lv_iconst (v := 0) hx hb dX1_countVotesHere_17 (by decide) ?_
        obtain ⟨hg21, hF⟩ := gd_some hF
        obtain ⟨Z22, eZ22, hF⟩ := bv_some hF
        refine va_iast hx hb hK hP hD hS 37 0 (at_i (by decide) (fun _ _ => rfl)) rfl hg21 dX1_countVotesHere_18 (fun H locs hP hD hS => ?_)
        have eW := wz_i (q := q) (aa := aa) (i := 37) (fun _ _ => rfl) eZ22
        have hP : va_P (dC, dI) vwCl (bw q aa Z22) H := eW ▸ hP
        have hD : va_D A (bw q aa Z22) := eW ▸ hD
        clear eW
        refine lv_iinc (k := 0) (v := (u18 + (1 : Int32))) (lv' := [(4, .int (u18 + (1 : Int32))), (3, .int 0), (0, .ref (aa 30)), (1, .ref (aa 1)), (2, .ref (aa 6))]) hx hb dX1_countVotesHere_19 hl rfl (ii_ _ _ _ (by decide)) (by decide) rfl (fun ls hl => ?_)
        refine lv_goto (tgt := 5) hx hb dX1_countVotesHere_22 (by decide) ?_
        exact IH5 Z22 (u18 + (1 : Int32)) _ _ _ hF hP hD hS (lv_sub hl [0, 1, 2, 3, 4] rfl)
  exact L5 100 Z (0 : Int32) _ _ _ hF hP hD hS (lv_sub hl [0, 1, 2, 3, 4] rfl)

noncomputable def F_X1_addWasted_x9 (Z3 : Mem) : Option (Mem × Unit) :=
  some (Z3, ())

noncomputable def F_X1_addWasted_j44 (Z5 : Mem) (u4 : Int32) (B_9 : Mem → Int32 → Option (Mem × Unit)) (v7 : Int32) : Option (Mem × Unit) :=
  gd (¬ (u4 < 0 ∨ 4 ≤ ix u4)) <| bv (Z5.1 35 (ix u4)) fun y9 => bv (y9 + v7) fun y10 => bv (si Z5 35 (ix u4) y10) fun Z11 => B_9 Z11 (u4 + (1 : Int32))

noncomputable def F_X1_addWasted_l9 (xa : Int32) (y2 : Int32) (K_9 : Mem → Option (Mem × Unit)) : Nat → Mem → Int32 → Option (Mem × Unit)
  | 0, _, _ => none
  | n9 + 1, Z5, u4 =>
  br ((4 : Int32) ≤ u4) (K_9 Z5) (br (u4 = xa) (gd (¬ (u4 < 0 ∨ 4 ≤ ix u4)) <| bv (Z5.1 37 (ix u4)) fun y16 => bv (y16 - y2) fun y17 => bv (if y17 < (0 : Int32) then (0 : Int32) else y17) fun y18 => (F_X1_addWasted_j44 Z5 u4 (F_X1_addWasted_l9 xa y2 K_9 n9)) y18) (gd (¬ (u4 < 0 ∨ 4 ≤ ix u4)) <| bv (Z5.1 37 (ix u4)) fun y14 => (F_X1_addWasted_j44 Z5 u4 (F_X1_addWasted_l9 xa y2 K_9 n9)) y14))

noncomputable def F_X1_addWasted (Z : Mem) (xa : Int32) (xb : Int32) : Option (Mem × Unit) :=
  bv (xb / (2 : Int32)) fun y1 => bv (y1 + (1 : Int32)) fun y2 => F_X1_addWasted_l9 xa y2 F_X1_addWasted_x9 100 Z (0 : Int32)

set_option maxHeartbeats 4000000 in
set_option maxRecDepth 100000 in
theorem c_X1_addWasted (l : Launch) (dC : Nat → ClassId) (dI : Nat → Nat → Nat) (q : Nat → ClassId) (aa : Nat → Nat) (Z : Mem) (xa : Int32) (xb : Int32)  (sz : Nat) (Zo : Mem) (ro : Unit) (hF : F_X1_addWasted Z xa xb = some (Zo, ro)) : Met l yX1_addWasted wsX1_addWasted ({ frames := 2, cells := 0, slots := 0, locals := 40 }) (va_Pc [.ref (aa 30), .int xa, .int xb] (pr_ dC dI (bw q aa Z) (bty q) sz)) (va_Qv (fun (_ : Unit) => True) (fun (_ : Unit) t => po_ dC dI (bw q aa Zo) (bty q) (va_A (bw q aa Z) sz) t) (va_A (bw q aa Z) sz)) 0 0 (va_A (bw q aa Z) sz) := by
  refine Met.ofW (cc := cX1_addWasted) (maxL := 6) (ret := none) (by decide) rfl ?_
  intro p e s m args below meth c s₁ B hml hv
  obtain ⟨hargs, hsz, hP, hK, hD0⟩ := hv
  have hx := B.exec
  have hb := B.bytes
  have hr := B.returns
  have hts := atoms_spec (ws := wsX1_addWasted) B.pre
  have hown : s.vm.findClass RX1 = some m.cls := findClass_of_methodNamed B.named
  have hlocks := B.notSynchronized
  subst hsz
  have hD := hD0.self (sz := s.heap.size)
  generalize hAe : va_A (bw q aa Z) s.heap.size = A at hD ⊢
  have hA : ∀ x : Nat, s.heap.size ≤ x → A x := fun x h => by rw [← hAe]; exact Or.inr h
  have hS : va_S A s.heap s.heap [] := va_S.rf
  have hinX1 : ∀ w ∈ u_ws RX1 TX1 9, w ∈ wsX1_addWasted := by decide +kernel
  have hl := lv_entry ([.ref (aa 30), .int xa, .int xb]) (n := 6) (Nat.le_of_ble_eq_true rfl)
  refine w_ent hargs ?_
  rw [lg_entry_eq]
  generalize (lg_sl ([.ref (aa 30), .int xa, .int xb]) ++ List.replicate (6 - (lg_sl ([.ref (aa 30), .int xa, .int xb])).length) Slot.unset).toArray = ls at hl ⊢
  have hl : lv_has ls 6 [(0, .ref (aa 30)), (1, .int xa), (2, .int xb)] := hl
  unfold F_X1_addWasted at hF
  refine w_go (fun Q hQ => ?_)
  refine lv_iload_n hx hb dX1_addWasted_0 rfl (lv_at hl 2 rfl) ?_
  refine lv_iconst (v := 2) hx hb dX1_addWasted_1 (by decide) ?_
  refine lv_idiv hx hb dX1_addWasted_2 (by decide) ?_
  refine lv_topi (fun y1 ey1 => ?_)
  have hF := bv_at ey1 hF
  refine lv_iconst (v := 1) hx hb dX1_addWasted_3 (by decide) ?_
  refine lv_iadd hx hb dX1_addWasted_4 ?_
  refine lv_topi (fun y2 ey2 => ?_)
  have hF := bv_at ey2 hF
  refine lv_istore_n (lv' := [(3, .int y2), (0, .ref (aa 30)), (1, .int xa), (2, .int xb)]) hx hb dX1_addWasted_5 rfl hl (by decide) rfl (fun ls hl => ?_)
  refine lv_iconst (v := 0) hx hb dX1_addWasted_6 (by decide) ?_
  refine lv_istore (lv' := [(4, .int 0), (3, .int y2), (0, .ref (aa 30)), (1, .int xa), (2, .int xb)]) hx hb dX1_addWasted_7 hl (by decide) rfl (fun ls hl => ?_)
  have Jx9 : ∀ (Z3 : Mem) (H : Heap) (locs : List Loc) (ls : Array Slot), F_X1_addWasted_x9 Z3 = some (Zo, ro) → va_P (dC, dI) vwCl (bw q aa Z3) H → va_D A (bw q aa Z3) → va_S A s.heap H locs → lv_has ls 6 [] → W p l e (headSpec wsX1_addWasted ({ frames := 2, cells := 0, slots := 0, locals := 40 } : Room)).room s m args below meth c H locs 0 0 Q (F0 m 64 ls []) := by
    intro Z3 H locs ls hF hP hD hS hl
    unfold F_X1_addWasted_x9 at hF
    obtain ⟨e8, e9⟩ := some2 hF
    rw [← e8] at hP hD
    subst hQ
    exact W.vret hx hb hr (fun t ht hW => ⟨⟨(), rfl, trivial, po_mk ht hW hP hK hD⟩, hS.F ht⟩) hS.2.2 dX1_addWasted_64
  have L9 : ∀ (n9 : Nat) (Z5 : Mem) (u4 : Int32) (H : Heap) (locs : List Loc) (ls : Array Slot), F_X1_addWasted_l9 xa y2 F_X1_addWasted_x9 n9 Z5 u4 = some (Zo, ro) → va_P (dC, dI) vwCl (bw q aa Z5) H → va_D A (bw q aa Z5) → va_S A s.heap H locs → lv_has ls 6 [(4, .int u4), (3, .int y2), (0, .ref (aa 30)), (1, .int xa)] → W p l e (headSpec wsX1_addWasted ({ frames := 2, cells := 0, slots := 0, locals := 40 } : Room)).room s m args below meth c H locs 0 0 Q (F0 m 9 ls []) := by
    intro n9
    induction n9 with
    | zero =>
      intro Z5 u4 H locs ls hF
      rw [F_X1_addWasted_l9] at hF
      cases hF
    | succ n9 IH9 =>
      intro Z5 u4 H locs ls hF hP hD hS hl
      rw [F_X1_addWasted_l9] at hF
      refine lv_iload hx hb dX1_addWasted_9 (lv_at hl 0 rfl) ?_
      refine lv_iconst (v := 4) hx hb dX1_addWasted_11 (by decide) ?_
      refine lv_icmp_ge (tgt := 64) hx hb dX1_addWasted_12 (by decide) (fun hc6 => ?_) (fun hc6 => ?_)
      · have hF := br_pos hc6 hF
        exact Jx9 Z5 _ _ _ hF hP hD hS (lv_sub hl [] rfl)
      · have hF := br_neg hc6 hF
        refine lv_iload hx hb dX1_addWasted_15 (lv_at hl 0 rfl) ?_
        refine lv_iload_n hx hb dX1_addWasted_17 rfl (lv_at hl 3 rfl) ?_
        have Jj44 : ∀ (v7 : Int32) (H : Heap) (locs : List Loc) (ls : Array Slot), (F_X1_addWasted_j44 Z5 u4 (F_X1_addWasted_l9 xa y2 F_X1_addWasted_x9 n9)) v7 = some (Zo, ro) → va_P (dC, dI) vwCl (bw q aa Z5) H → va_D A (bw q aa Z5) → va_S A s.heap H locs → lv_has ls 6 [(4, .int u4), (3, .int y2), (0, .ref (aa 30)), (1, .int xa)] → W p l e (headSpec wsX1_addWasted ({ frames := 2, cells := 0, slots := 0, locals := 40 } : Room)).room s m args below meth c H locs 0 0 Q (F0 m 44 ls [.int v7]) := by
          intro v7 H locs ls hF hP hD hS hl
          unfold F_X1_addWasted_j44 at hF
          refine lv_istore (lv' := [(5, .int v7), (4, .int u4), (3, .int y2), (0, .ref (aa 30)), (1, .int xa)]) hx hb dX1_addWasted_44 hl (by decide) rfl (fun ls hl => ?_)
          refine lv_aload_n hx hb dX1_addWasted_46 rfl (lv_at hl 3 rfl) ?_
          refine va_get (D := (dC, dI)) (ci := 3) (v := .ref (aa 35)) (C := RX1) (T := TX1) (N := 9) hx hb hts hinX1 hown hK hP 30 (bw_at (i := 30) (by decide) rfl) rfl 5 (by decide) (hts (.fieldLink RX1 25 "BallotLoom$Parties" "wasted" "[I") (by decide +kernel)) (fun _ h9 => h9) rfl dX1_addWasted_47 ?_
          refine lv_iload hx hb dX1_addWasted_50 (lv_at hl 1 rfl) ?_
          refine lv_dup2_11 hx hb dX1_addWasted_52 rfl rfl ?_
          obtain ⟨hg8, hF⟩ := gd_some hF
          refine va_iald hx hb hK hP 35 0 (at_i (by decide) (fun _ _ => rfl)) rfl hg8 dX1_addWasted_53 ?_
          refine lv_topi (fun y9 ey9 => ?_)
          have hF := bv_at ey9 hF
          refine lv_iload hx hb dX1_addWasted_54 (lv_at hl 0 rfl) ?_
          refine lv_iadd hx hb dX1_addWasted_56 ?_
          refine lv_topi (fun y10 ey10 => ?_)
          have hF := bv_at ey10 hF
          obtain ⟨Z11, eZ11, hF⟩ := bv_some hF
          refine va_iast hx hb hK hP hD hS 35 0 (at_i (by decide) (fun _ _ => rfl)) rfl hg8 dX1_addWasted_57 (fun H locs hP hD hS => ?_)
          have eW := wz_i (q := q) (aa := aa) (i := 35) (fun _ _ => rfl) eZ11
          have hP : va_P (dC, dI) vwCl (bw q aa Z11) H := eW ▸ hP
          have hD : va_D A (bw q aa Z11) := eW ▸ hD
          clear eW
          refine lv_iinc (k := 1) (v := (u4 + (1 : Int32))) (lv' := [(4, .int (u4 + (1 : Int32))), (5, .int v7), (3, .int y2), (0, .ref (aa 30)), (1, .int xa)]) hx hb dX1_addWasted_58 hl rfl (ii_ _ _ _ (by decide)) (by decide) rfl (fun ls hl => ?_)
          refine lv_goto (tgt := 9) hx hb dX1_addWasted_61 (by decide) ?_
          exact IH9 Z11 (u4 + (1 : Int32)) _ _ _ hF hP hD hS (lv_sub hl [0, 2, 3, 4] rfl)
        refine lv_icmp_ne (tgt := 37) hx hb dX1_addWasted_18 (by decide) (fun hc12 => ?_) (fun hc12 => ?_)
        · have hF := br_neg hc12 hF
          refine lv_aload_n hx hb dX1_addWasted_37 rfl (lv_at hl 2 rfl) ?_
          refine va_get (D := (dC, dI)) (ci := 3) (v := .ref (aa 37)) (C := RX1) (T := TX1) (N := 9) hx hb hts hinX1 hown hK hP 30 (bw_at (i := 30) (by decide) rfl) rfl 7 (by decide) (hts (.fieldLink RX1 31 "BallotLoom$Parties" "votesHere" "[I") (by decide +kernel)) (fun _ h9 => h9) rfl dX1_addWasted_38 ?_
          refine lv_iload hx hb dX1_addWasted_41 (lv_at hl 0 rfl) ?_
          obtain ⟨hg13, hF⟩ := gd_some hF
          refine va_iald hx hb hK hP 37 0 (at_i (by decide) (fun _ _ => rfl)) rfl hg13 dX1_addWasted_43 ?_
          refine lv_topi (fun y14 ey14 => ?_)
          have hF := bv_at ey14 hF
          exact Jj44 y14 _ _ _ hF hP hD hS (lv_sub hl [0, 1, 2, 3] rfl)
        · have hF := br_pos hc12 hF
          refine lv_aload_n hx hb dX1_addWasted_21 rfl (lv_at hl 2 rfl) ?_
          refine va_get (D := (dC, dI)) (ci := 3) (v := .ref (aa 37)) (C := RX1) (T := TX1) (N := 9) hx hb hts hinX1 hown hK hP 30 (bw_at (i := 30) (by decide) rfl) rfl 7 (by decide) (hts (.fieldLink RX1 31 "BallotLoom$Parties" "votesHere" "[I") (by decide +kernel)) (fun _ h9 => h9) rfl dX1_addWasted_22 ?_
          refine lv_iload hx hb dX1_addWasted_25 (lv_at hl 0 rfl) ?_
          obtain ⟨hg15, hF⟩ := gd_some hF
          refine va_iald hx hb hK hP 37 0 (at_i (by decide) (fun _ _ => rfl)) rfl hg15 dX1_addWasted_27 ?_
          refine lv_topi (fun y16 ey16 => ?_)
          have hF := bv_at ey16 hF
          refine lv_iload_n hx hb dX1_addWasted_28 rfl (lv_at hl 1 rfl) ?_
          refine lv_isub hx hb dX1_addWasted_29 ?_
          refine lv_topi (fun y17 ey17 => ?_)
          have hF := bv_at ey17 hF
          refine lv_iconst (v := 0) hx hb dX1_addWasted_30 (by decide) ?_
          refine va_mmax hx hb (by rw [hml]; exact hl.1.symm) hown (hts (.methodLink RX1 98 Lib.Math.max.name) (by decide +kernel)) (hts (.static Lib.Math.max.name) (by decide +kernel)) (hts (.initialized "java/lang/Math") (by decide +kernel)) (hts (.code Lib.Math.max.name Lib.Math.max.code 2 (some .int)) (by decide +kernel)) (Nat.le_of_ble_eq_true rfl) (Nat.le_of_ble_eq_true rfl) (Nat.le_of_ble_eq_true rfl) (Nat.le_of_ble_eq_true rfl) dX1_addWasted_31 ?_
          refine lv_topi (fun y18 ey18 => ?_)
          have hF := bv_at ey18 hF
          refine lv_goto (tgt := 44) hx hb dX1_addWasted_34 (by decide) ?_
          exact Jj44 y18 _ _ _ hF hP hD hS (lv_sub hl [0, 1, 2, 3] rfl)
  exact L9 100 Z (0 : Int32) _ _ _ hF hP hD hS (lv_sub hl [0, 1, 2, 3] rfl)

noncomputable def F_X1_countDistricts_x29 (Z2 : Mem) : Option (Mem × Unit) :=
  some (Z2, ())

noncomputable def F_X1_countDistricts_l29 (K_29 : Mem → Option (Mem × Unit)) : Nat → Mem → Int32 → Option (Mem × Unit)
  | 0, _, _ => none
  | n29 + 1, Z4, u3 =>
  bv (Z4.1 1 5) fun y5 => br (y5 ≤ u3) (K_29 Z4) (cal (F_X2_countFirsts Z4 u3) fun Z8 _ => calp (F_X2_mostFirsts Z8 ) fun rr12 => br (rr12 = ((-1) : Int32)) ((F_X1_countDistricts_l29 K_29 n29) Z8 (u3 + (1 : Int32))) (gd (¬ (rr12 < 0 ∨ 6 ≤ ix rr12)) <| bv (Z8.1 7 (ix rr12)) fun y15 => br (y15 ≤ (0 : Int32)) ((F_X1_countDistricts_l29 K_29 n29) Z8 (u3 + (1 : Int32))) (bv (Z8.1 2 (ix rr12)) fun y17 => gd (¬ (y17 < 0 ∨ 4 ≤ ix y17)) <| bv (Z8.1 34 (ix y17)) fun y19 => bv (y19 + (1 : Int32)) fun y20 => bv (si Z8 34 (ix y17) y20) fun Z21 => cal (F_X1_countVotesHere Z21 ) fun Z24 rr25 => cal (F_X1_addWasted Z24 y17 rr25) fun Z27 _ => (F_X1_countDistricts_l29 K_29 n29) Z27 (u3 + (1 : Int32)))))

noncomputable def F_X1_countDistricts_x2 (Z1 : Mem) : Option (Mem × Unit) :=
  F_X1_countDistricts_l29 F_X1_countDistricts_x29 100 Z1 (0 : Int32)

noncomputable def F_X1_countDistricts_l2 (K_2 : Mem → Option (Mem × Unit)) : Nat → Mem → Int32 → Option (Mem × Unit)
  | 0, _, _ => none
  | n2 + 1, Z30, u29 =>
  br ((4 : Int32) ≤ u29) (K_2 Z30) (gd (¬ (u29 < 0 ∨ 4 ≤ ix u29)) <| bv (si Z30 34 (ix u29) (0 : Int32)) fun Z33 => bv (si Z33 35 (ix u29) (0 : Int32)) fun Z34 => (F_X1_countDistricts_l2 K_2 n2) Z34 (u29 + (1 : Int32)))

noncomputable def F_X1_countDistricts (Z : Mem) : Option (Mem × Unit) :=
  F_X1_countDistricts_l2 F_X1_countDistricts_x2 100 Z (0 : Int32)

set_option maxHeartbeats 4000000 in
set_option maxRecDepth 100000 in
theorem c_X1_countDistricts (l : Launch) (dC : Nat → ClassId) (dI : Nat → Nat → Nat) (q : Nat → ClassId) (aa : Nat → Nat) (Z : Mem)   (sz : Nat) (Zo : Mem) (ro : Unit) (hF : F_X1_countDistricts Z  = some (Zo, ro)) : Met l yX1_countDistricts wsX1_countDistricts ({ frames := 4, cells := 0, slots := 0, locals := 85 }) (va_Pc [.ref (aa 30), .ref (aa 1), .ref (aa 6)] (pr_ dC dI (bw q aa Z) (bty q) sz)) (va_Qv (fun (_ : Unit) => True) (fun (_ : Unit) t => po_ dC dI (bw q aa Zo) (bty q) (va_A (bw q aa Z) sz) t) (va_A (bw q aa Z) sz)) 0 0 (va_A (bw q aa Z) sz) := by
  refine Met.ofW (cc := cX1_countDistricts) (maxL := 6) (ret := none) (by decide) rfl ?_
  intro p e s m args below meth c s₁ B hml hv
  obtain ⟨hargs, hsz, hP, hK, hD0⟩ := hv
  have hx := B.exec
  have hb := B.bytes
  have hr := B.returns
  have hts := atoms_spec (ws := wsX1_countDistricts) B.pre
  have hown : s.vm.findClass RX1 = some m.cls := findClass_of_methodNamed B.named
  have hlocks := B.notSynchronized
  subst hsz
  have hD := hD0.self (sz := s.heap.size)
  generalize hAe : va_A (bw q aa Z) s.heap.size = A at hD ⊢
  have hA : ∀ x : Nat, s.heap.size ≤ x → A x := fun x h => by rw [← hAe]; exact Or.inr h
  have hS : va_S A s.heap s.heap [] := va_S.rf
  have hinX0 : ∀ w ∈ u_ws RX0 TX0 11, w ∈ wsX1_countDistricts := by decide +kernel
  have hinX1 : ∀ w ∈ u_ws RX1 TX1 9, w ∈ wsX1_countDistricts := by decide +kernel
  have hinX2 : ∀ w ∈ u_ws RX2 TX2 7, w ∈ wsX1_countDistricts := by decide +kernel
  have hl := lv_entry ([.ref (aa 30), .ref (aa 1), .ref (aa 6)]) (n := 6) (Nat.le_of_ble_eq_true rfl)
  refine w_ent hargs ?_
  rw [lg_entry_eq]
  generalize (lg_sl ([.ref (aa 30), .ref (aa 1), .ref (aa 6)]) ++ List.replicate (6 - (lg_sl ([.ref (aa 30), .ref (aa 1), .ref (aa 6)])).length) Slot.unset).toArray = ls at hl ⊢
  have hl : lv_has ls 6 [(0, .ref (aa 30)), (1, .ref (aa 1)), (2, .ref (aa 6))] := hl
  unfold F_X1_countDistricts at hF
  refine w_go (fun Q hQ => ?_)
  refine lv_iconst (v := 0) hx hb dX1_countDistricts_0 (by decide) ?_
  refine lv_istore_n (lv' := [(3, .int 0), (0, .ref (aa 30)), (1, .ref (aa 1)), (2, .ref (aa 6))]) hx hb dX1_countDistricts_1 rfl hl (by decide) rfl (fun ls hl => ?_)
  have Jx2 : ∀ (Z1 : Mem) (H : Heap) (locs : List Loc) (ls : Array Slot), F_X1_countDistricts_x2 Z1 = some (Zo, ro) → va_P (dC, dI) vwCl (bw q aa Z1) H → va_D A (bw q aa Z1) → va_S A s.heap H locs → lv_has ls 6 [(0, .ref (aa 30)), (1, .ref (aa 1)), (2, .ref (aa 6))] → W p l e (headSpec wsX1_countDistricts ({ frames := 4, cells := 0, slots := 0, locals := 85 } : Room)).room s m args below meth c H locs 0 0 Q (F0 m 27 ls []) := by
    intro Z1 H locs ls hF hP hD hS hl
    unfold F_X1_countDistricts_x2 at hF
    refine lv_iconst (v := 0) hx hb dX1_countDistricts_27 (by decide) ?_
    refine lv_istore_n (lv' := [(3, .int 0), (0, .ref (aa 30)), (1, .ref (aa 1)), (2, .ref (aa 6))]) hx hb dX1_countDistricts_28 rfl hl (by decide) rfl (fun ls hl => ?_)
    have Jx29 : ∀ (Z2 : Mem) (H : Heap) (locs : List Loc) (ls : Array Slot), F_X1_countDistricts_x29 Z2 = some (Zo, ro) → va_P (dC, dI) vwCl (bw q aa Z2) H → va_D A (bw q aa Z2) → va_S A s.heap H locs → lv_has ls 6 [] → W p l e (headSpec wsX1_countDistricts ({ frames := 4, cells := 0, slots := 0, locals := 85 } : Room)).room s m args below meth c H locs 0 0 Q (F0 m 104 ls []) := by
      intro Z2 H locs ls hF hP hD hS hl
      unfold F_X1_countDistricts_x29 at hF
      obtain ⟨e8, e9⟩ := some2 hF
      rw [← e8] at hP hD
      subst hQ
      exact W.vret hx hb hr (fun t ht hW => ⟨⟨(), rfl, trivial, po_mk ht hW hP hK hD⟩, hS.F ht⟩) hS.2.2 dX1_countDistricts_104
    have L29 : ∀ (n29 : Nat) (Z4 : Mem) (u3 : Int32) (H : Heap) (locs : List Loc) (ls : Array Slot), F_X1_countDistricts_l29 F_X1_countDistricts_x29 n29 Z4 u3 = some (Zo, ro) → va_P (dC, dI) vwCl (bw q aa Z4) H → va_D A (bw q aa Z4) → va_S A s.heap H locs → lv_has ls 6 [(3, .int u3), (0, .ref (aa 30)), (1, .ref (aa 1)), (2, .ref (aa 6))] → W p l e (headSpec wsX1_countDistricts ({ frames := 4, cells := 0, slots := 0, locals := 85 } : Room)).room s m args below meth c H locs 0 0 Q (F0 m 29 ls []) := by
      intro n29
      induction n29 with
      | zero =>
        intro Z4 u3 H locs ls hF
        rw [F_X1_countDistricts_l29] at hF
        cases hF
      | succ n29 IH29 =>
        intro Z4 u3 H locs ls hF hP hD hS hl
        rw [F_X1_countDistricts_l29] at hF
        refine lv_iload_n hx hb dX1_countDistricts_29 rfl (lv_at hl 0 rfl) ?_
        refine lv_aload_n hx hb dX1_countDistricts_30 rfl (lv_at hl 2 rfl) ?_
        refine va_get (D := (dC, dI)) (ci := 2) (v := .int (Z4.1 1 5)) (C := RX0) (T := TX0) (N := 11) hx hb hts hinX0 hown hK hP 1 (bw_at (i := 1) (by decide) rfl) rfl 5 (by decide) (hts (.fieldLink RX1 71 "BallotLoom$Box" "districts" "I") (by decide +kernel)) (fun _ h9 => h9) rfl dX1_countDistricts_31 ?_
        refine lv_topi (fun y5 ey5 => ?_)
        have hF := bv_at ey5 hF
        refine lv_icmp_ge (tgt := 104) hx hb dX1_countDistricts_34 (by decide) (fun hc6 => ?_) (fun hc6 => ?_)
        · have hF := br_pos hc6 hF
          exact Jx29 Z4 _ _ _ hF hP hD hS (lv_sub hl [] rfl)
        · have hF := br_neg hc6 hF
          refine lv_aload_n hx hb dX1_countDistricts_37 rfl (lv_at hl 3 rfl) ?_
          refine lv_aload_n hx hb dX1_countDistricts_38 rfl (lv_at hl 2 rfl) ?_
          refine lv_iload_n hx hb dX1_countDistricts_39 rfl (lv_at hl 0 rfl) ?_
          obtain ⟨Z8, _, hC7, hF⟩ := cal_some hF
          have hFc := b_free (ws := bw q aa Z4) hD hS hA
          refine va_callv (va_runV (As := [.ref (aa 1), .int u3]) (rest := []) ⟨hx, hb, hml, hown, hts⟩ (c_X2_countFirsts l dC dI q aa Z4 u3  _ _ _  hC7) (cwV 2 hts gX1_countDistricts_X2_countFirsts rfl rfl rfl (by decide +kernel) ⟨Nat.le_of_ble_eq_true rfl, Nat.le_of_ble_eq_true rfl⟩) ⟨pr_blind, va_recv hK hP (ci := 4) (q0 := 6) rfl (bw_at (i := 6) (by decide) rfl), fun U hU hW => ⟨rfl, pr_mk hU hW hP hK hD⟩⟩ rfl rfl hl.1 rfl (lv_room (Nat.le_of_ble_eq_true rfl)) dX1_countDistricts_40 ⟨Nat.le_of_ble_eq_true rfl, Nat.le_of_ble_eq_true rfl⟩) hS (fun x _ h => hFc x h) hFc (fun u t H1 locs ht hvm hw hB hz1 hk1 hS => ?_)
          obtain ⟨hP, hK1, hD1⟩ := hB
          rw [ht] at hP
          have hD := hD1.weaken (fun _ q9 _ h9 => hFc q9.1 h9)
          clear hFc hD1 hK1 hvm hz1 hk1
          generalize H1 = H at hP hS ⊢
          refine W.widen (k := 0) (n := 0) (Nat.le_refl _) (Nat.le_refl _) ?_
          refine lv_aload_n hx hb dX1_countDistricts_43 rfl (lv_at hl 3 rfl) ?_
          refine lv_aload_n hx hb dX1_countDistricts_44 rfl (lv_at hl 2 rfl) ?_
          obtain ⟨r11, hC10, hF⟩ := calp_some hF
          have hFc := b_free (ws := bw q aa Z8) hD hS hA
          refine va_calli (va_runV (As := [.ref (aa 1)]) (rest := []) ⟨hx, hb, hml, hown, hts⟩ (c_X2_mostFirsts l dC dI q aa Z8   _ _  hC10) (cwV 1 hts gX1_countDistricts_X2_mostFirsts rfl rfl rfl (by decide +kernel) ⟨Nat.le_of_ble_eq_true rfl, Nat.le_of_ble_eq_true rfl⟩) ⟨pr_blind, va_recv hK hP (ci := 4) (q0 := 6) rfl (bw_at (i := 6) (by decide) rfl), fun U hU hW => ⟨rfl, pr_mk hU hW hP hK hD⟩⟩ rfl rfl hl.1 rfl (lv_room (Nat.le_of_ble_eq_true rfl)) dX1_countDistricts_45 ⟨Nat.le_of_ble_eq_true rfl, Nat.le_of_ble_eq_true rfl⟩) hS (fun x _ h => hFc x h) hFc (fun rr12 u t H1 locs ht hvm hw hB hz1 hk1 hS => ?_)
          obtain ⟨hP, hK1, hD1⟩ := hB
          rw [ht] at hP
          have hD := hD1.weaken (fun _ q9 _ h9 => hFc q9.1 h9)
          clear hFc hD1 hK1 hvm hz1 hk1
          generalize H1 = H at hP hS ⊢
          refine W.widen (k := 0) (n := 0) (Nat.le_refl _) (Nat.le_refl _) ?_
          obtain rfl : rr12 = r11 := hw
          refine lv_istore (lv' := [(4, .int rr12), (3, .int u3), (0, .ref (aa 30)), (1, .ref (aa 1)), (2, .ref (aa 6))]) hx hb dX1_countDistricts_48 hl (by decide) rfl (fun ls hl => ?_)
          refine lv_iload hx hb dX1_countDistricts_50 (lv_at hl 0 rfl) ?_
          refine lv_iconst (v := (-1)) hx hb dX1_countDistricts_52 (by decide) ?_
          refine lv_icmp_eq (tgt := 98) hx hb dX1_countDistricts_53 (by decide) (fun hc13 => ?_) (fun hc13 => ?_)
          · have hF := br_pos hc13 hF
            refine lv_iinc (k := 1) (v := (u3 + (1 : Int32))) (lv' := [(3, .int (u3 + (1 : Int32))), (4, .int rr12), (0, .ref (aa 30)), (1, .ref (aa 1)), (2, .ref (aa 6))]) hx hb dX1_countDistricts_98 hl rfl (ii_ _ _ _ (by decide)) (by decide) rfl (fun ls hl => ?_)
            refine lv_goto (tgt := 29) hx hb dX1_countDistricts_101 (by decide) ?_
            exact IH29 Z8 (u3 + (1 : Int32)) _ _ _ hF hP hD hS (lv_sub hl [0, 2, 3, 4] rfl)
          · have hF := br_neg hc13 hF
            refine lv_aload_n hx hb dX1_countDistricts_56 rfl (lv_at hl 4 rfl) ?_
            refine va_get (D := (dC, dI)) (ci := 4) (v := .ref (aa 7)) (C := RX2) (T := TX2) (N := 7) hx hb hts hinX2 hown hK hP 6 (bw_at (i := 6) (by decide) rfl) rfl 0 (by decide) (hts (.fieldLink RX1 84 "BallotLoom$Poll" "firsts" "[I") (by decide +kernel)) (fun _ h9 => h9) rfl dX1_countDistricts_57 ?_
            refine lv_iload hx hb dX1_countDistricts_60 (lv_at hl 0 rfl) ?_
            obtain ⟨hg14, hF⟩ := gd_some hF
            refine va_iald hx hb hK hP 7 0 (at_i (by decide) (fun _ _ => rfl)) rfl hg14 dX1_countDistricts_62 ?_
            refine lv_topi (fun y15 ey15 => ?_)
            have hF := bv_at ey15 hF
            refine lv_if_le (tgt := 98) hx hb dX1_countDistricts_63 (by decide) (fun hc16 => ?_) (fun hc16 => ?_)
            · have hF := br_pos hc16 hF
              refine lv_iinc (k := 1) (v := (u3 + (1 : Int32))) (lv' := [(3, .int (u3 + (1 : Int32))), (4, .int rr12), (0, .ref (aa 30)), (1, .ref (aa 1)), (2, .ref (aa 6))]) hx hb dX1_countDistricts_98 hl rfl (ii_ _ _ _ (by decide)) (by decide) rfl (fun ls hl => ?_)
              refine lv_goto (tgt := 29) hx hb dX1_countDistricts_101 (by decide) ?_
              exact IH29 Z8 (u3 + (1 : Int32)) _ _ _ hF hP hD hS (lv_sub hl [0, 2, 3, 4] rfl)
            · have hF := br_neg hc16 hF
              refine lv_aload_n hx hb dX1_countDistricts_66 rfl (lv_at hl 3 rfl) ?_
              refine va_get (D := (dC, dI)) (ci := 2) (v := .ref (aa 2)) (C := RX0) (T := TX0) (N := 11) hx hb hts hinX0 hown hK hP 1 (bw_at (i := 1) (by decide) rfl) rfl 0 (by decide) (hts (.fieldLink RX1 59 "BallotLoom$Box" "partyOf" "[I") (by decide +kernel)) (fun _ h9 => h9) rfl dX1_countDistricts_67 ?_
              refine lv_iload hx hb dX1_countDistricts_70 (lv_at hl 0 rfl) ?_
              refine va_iald hx hb hK hP 2 0 (at_i (by decide) (fun _ _ => rfl)) rfl hg14 dX1_countDistricts_72 ?_
              refine lv_topi (fun y17 ey17 => ?_)
              have hF := bv_at ey17 hF
              refine lv_istore (lv' := [(5, .int y17), (4, .int rr12), (3, .int u3), (0, .ref (aa 30)), (1, .ref (aa 1)), (2, .ref (aa 6))]) hx hb dX1_countDistricts_73 hl (by decide) rfl (fun ls hl => ?_)
              refine lv_aload_n hx hb dX1_countDistricts_75 rfl (lv_at hl 3 rfl) ?_
              refine va_get (D := (dC, dI)) (ci := 3) (v := .ref (aa 34)) (C := RX1) (T := TX1) (N := 9) hx hb hts hinX1 hown hK hP 30 (bw_at (i := 30) (by decide) rfl) rfl 4 (by decide) (hts (.fieldLink RX1 22 "BallotLoom$Parties" "direct" "[I") (by decide +kernel)) (fun _ h9 => h9) rfl dX1_countDistricts_76 ?_
              refine lv_iload hx hb dX1_countDistricts_79 (lv_at hl 0 rfl) ?_
              refine lv_dup2_11 hx hb dX1_countDistricts_81 rfl rfl ?_
              obtain ⟨hg18, hF⟩ := gd_some hF
              refine va_iald hx hb hK hP 34 0 (at_i (by decide) (fun _ _ => rfl)) rfl hg18 dX1_countDistricts_82 ?_
              refine lv_topi (fun y19 ey19 => ?_)
              have hF := bv_at ey19 hF
              refine lv_iconst (v := 1) hx hb dX1_countDistricts_83 (by decide) ?_
              refine lv_iadd hx hb dX1_countDistricts_84 ?_
              refine lv_topi (fun y20 ey20 => ?_)
              have hF := bv_at ey20 hF
              obtain ⟨Z21, eZ21, hF⟩ := bv_some hF
              refine va_iast hx hb hK hP hD hS 34 0 (at_i (by decide) (fun _ _ => rfl)) rfl hg18 dX1_countDistricts_85 (fun H locs hP hD hS => ?_)
              have eW := wz_i (q := q) (aa := aa) (i := 34) (fun _ _ => rfl) eZ21
              have hP : va_P (dC, dI) vwCl (bw q aa Z21) H := eW ▸ hP
              have hD : va_D A (bw q aa Z21) := eW ▸ hD
              clear eW
              refine lv_aload_n hx hb dX1_countDistricts_86 rfl (lv_at hl 3 rfl) ?_
              refine lv_iload hx hb dX1_countDistricts_87 (lv_at hl 0 rfl) ?_
              refine lv_aload_n hx hb dX1_countDistricts_89 rfl (lv_at hl 3 rfl) ?_
              refine lv_aload_n hx hb dX1_countDistricts_90 rfl (lv_at hl 4 rfl) ?_
              refine lv_aload_n hx hb dX1_countDistricts_91 rfl (lv_at hl 5 rfl) ?_
              obtain ⟨Z24, r23, hC22, hF⟩ := cal_some hF
              have hFc := b_free (ws := bw q aa Z21) hD hS hA
              refine va_calli (va_runV (As := [.ref (aa 1), .ref (aa 6)]) (rest := [.int y17, .ref (aa 30)]) ⟨hx, hb, hml, hown, hts⟩ (c_X1_countVotesHere l dC dI q aa Z21   _ _ _  hC22) (cwV 2 hts gX1_countDistricts_X1_countVotesHere rfl rfl rfl (by decide +kernel) ⟨Nat.le_of_ble_eq_true rfl, Nat.le_of_ble_eq_true rfl⟩) ⟨pr_blind, va_recv hK hP (ci := 3) (q0 := 30) rfl (bw_at (i := 30) (by decide) rfl), fun U hU hW => ⟨rfl, pr_mk hU hW hP hK hD⟩⟩ rfl rfl hl.1 rfl (lv_room (Nat.le_of_ble_eq_true rfl)) dX1_countDistricts_92 ⟨Nat.le_of_ble_eq_true rfl, Nat.le_of_ble_eq_true rfl⟩) hS (fun x _ h => hFc x h) hFc (fun rr25 u t H1 locs ht hvm hw hB hz1 hk1 hS => ?_)
              obtain ⟨hP, hK1, hD1⟩ := hB
              rw [ht] at hP
              have hD := hD1.weaken (fun _ q9 _ h9 => hFc q9.1 h9)
              clear hFc hD1 hK1 hvm hz1 hk1
              generalize H1 = H at hP hS ⊢
              refine W.widen (k := 0) (n := 0) (Nat.le_refl _) (Nat.le_refl _) ?_
              obtain rfl : rr25 = r23 := hw
              obtain ⟨Z27, _, hC26, hF⟩ := cal_some hF
              have hFc := b_free (ws := bw q aa Z24) hD hS hA
              refine va_callv (va_runV (As := [.int y17, .int rr25]) (rest := []) ⟨hx, hb, hml, hown, hts⟩ (c_X1_addWasted l dC dI q aa Z24 y17 rr25  _ _ _  hC26) (cwV 2 hts gX1_countDistricts_X1_addWasted rfl rfl rfl (by decide +kernel) ⟨Nat.le_of_ble_eq_true rfl, Nat.le_of_ble_eq_true rfl⟩) ⟨pr_blind, va_recv hK hP (ci := 3) (q0 := 30) rfl (bw_at (i := 30) (by decide) rfl), fun U hU hW => ⟨rfl, pr_mk hU hW hP hK hD⟩⟩ rfl rfl hl.1 rfl (lv_room (Nat.le_of_ble_eq_true rfl)) dX1_countDistricts_95 ⟨Nat.le_of_ble_eq_true rfl, Nat.le_of_ble_eq_true rfl⟩) hS (fun x _ h => hFc x h) hFc (fun u t H1 locs ht hvm hw hB hz1 hk1 hS => ?_)
              obtain ⟨hP, hK1, hD1⟩ := hB
              rw [ht] at hP
              have hD := hD1.weaken (fun _ q9 _ h9 => hFc q9.1 h9)
              clear hFc hD1 hK1 hvm hz1 hk1
              generalize H1 = H at hP hS ⊢
              refine W.widen (k := 0) (n := 0) (Nat.le_refl _) (Nat.le_refl _) ?_
              refine lv_iinc (k := 2) (v := (u3 + (1 : Int32))) (lv' := [(3, .int (u3 + (1 : Int32))), (5, .int y17), (4, .int rr12), (0, .ref (aa 30)), (1, .ref (aa 1)), (2, .ref (aa 6))]) hx hb dX1_countDistricts_98 hl rfl (ii_ _ _ _ (by decide)) (by decide) rfl (fun ls hl => ?_)
              refine lv_goto (tgt := 29) hx hb dX1_countDistricts_101 (by decide) ?_
              exact IH29 Z27 (u3 + (1 : Int32)) _ _ _ hF hP hD hS (lv_sub hl [0, 3, 4, 5] rfl)
    exact L29 100 Z1 (0 : Int32) _ _ _ hF hP hD hS (lv_sub hl [0, 1, 2, 3] rfl)
  have L2 : ∀ (n2 : Nat) (Z30 : Mem) (u29 : Int32) (H : Heap) (locs : List Loc) (ls : Array Slot), F_X1_countDistricts_l2 F_X1_countDistricts_x2 n2 Z30 u29 = some (Zo, ro) → va_P (dC, dI) vwCl (bw q aa Z30) H → va_D A (bw q aa Z30) → va_S A s.heap H locs → lv_has ls 6 [(3, .int u29), (0, .ref (aa 30)), (1, .ref (aa 1)), (2, .ref (aa 6))] → W p l e (headSpec wsX1_countDistricts ({ frames := 4, cells := 0, slots := 0, locals := 85 } : Room)).room s m args below meth c H locs 0 0 Q (F0 m 2 ls []) := by
    intro n2
    induction n2 with
    | zero =>
      intro Z30 u29 H locs ls hF
      rw [F_X1_countDistricts_l2] at hF
      cases hF
    | succ n2 IH2 =>
      intro Z30 u29 H locs ls hF hP hD hS hl
      rw [F_X1_countDistricts_l2] at hF
      refine lv_iload_n hx hb dX1_countDistricts_2 rfl (lv_at hl 0 rfl) ?_
      refine lv_iconst (v := 4) hx hb dX1_countDistricts_3 (by decide) ?_
      refine lv_icmp_ge (tgt := 27) hx hb dX1_countDistricts_4 (by decide) (fun hc31 => ?_) (fun hc31 => ?_)
      · have hF := br_pos hc31 hF
        exact Jx2 Z30 _ _ _ hF hP hD hS (lv_sub hl [1, 2, 3] rfl)
      · have hF := br_neg hc31 hF
        refine lv_aload_n hx hb dX1_countDistricts_7 rfl (lv_at hl 1 rfl) ?_
        refine va_get (D := (dC, dI)) (ci := 3) (v := .ref (aa 34)) (C := RX1) (T := TX1) (N := 9) hx hb hts hinX1 hown hK hP 30 (bw_at (i := 30) (by decide) rfl) rfl 4 (by decide) (hts (.fieldLink RX1 22 "BallotLoom$Parties" "direct" "[I") (by decide +kernel)) (fun _ h9 => h9) rfl dX1_countDistricts_8 ?_
        refine lv_iload_n hx hb dX1_countDistricts_11 rfl (lv_at hl 0 rfl) ?_
        refine lv_iconst (v := 0) hx hb dX1_countDistricts_12 (by decide) ?_
        obtain ⟨hg32, hF⟩ := gd_some hF
        obtain ⟨Z33, eZ33, hF⟩ := bv_some hF
        refine va_iast hx hb hK hP hD hS 34 0 (at_i (by decide) (fun _ _ => rfl)) rfl hg32 dX1_countDistricts_13 (fun H locs hP hD hS => ?_)
        have eW := wz_i (q := q) (aa := aa) (i := 34) (fun _ _ => rfl) eZ33
        have hP : va_P (dC, dI) vwCl (bw q aa Z33) H := eW ▸ hP
        have hD : va_D A (bw q aa Z33) := eW ▸ hD
        clear eW
        refine lv_aload_n hx hb dX1_countDistricts_14 rfl (lv_at hl 1 rfl) ?_
        refine va_get (D := (dC, dI)) (ci := 3) (v := .ref (aa 35)) (C := RX1) (T := TX1) (N := 9) hx hb hts hinX1 hown hK hP 30 (bw_at (i := 30) (by decide) rfl) rfl 5 (by decide) (hts (.fieldLink RX1 25 "BallotLoom$Parties" "wasted" "[I") (by decide +kernel)) (fun _ h9 => h9) rfl dX1_countDistricts_15 ?_
        refine lv_iload_n hx hb dX1_countDistricts_18 rfl (lv_at hl 0 rfl) ?_
        refine lv_iconst (v := 0) hx hb dX1_countDistricts_19 (by decide) ?_
        obtain ⟨Z34, eZ34, hF⟩ := bv_some hF
        refine va_iast hx hb hK hP hD hS 35 0 (at_i (by decide) (fun _ _ => rfl)) rfl hg32 dX1_countDistricts_20 (fun H locs hP hD hS => ?_)
        have eW := wz_i (q := q) (aa := aa) (i := 35) (fun _ _ => rfl) eZ34
        have hP : va_P (dC, dI) vwCl (bw q aa Z34) H := eW ▸ hP
        have hD : va_D A (bw q aa Z34) := eW ▸ hD
        clear eW
        refine lv_iinc (k := 0) (v := (u29 + (1 : Int32))) (lv' := [(3, .int (u29 + (1 : Int32))), (0, .ref (aa 30)), (1, .ref (aa 1)), (2, .ref (aa 6))]) hx hb dX1_countDistricts_21 hl rfl (ii_ _ _ _ (by decide)) (by decide) rfl (fun ls hl => ?_)
        refine lv_goto (tgt := 2) hx hb dX1_countDistricts_24 (by decide) ?_
        exact IH2 Z34 (u29 + (1 : Int32)) _ _ _ hF hP hD hS (lv_sub hl [0, 1, 2, 3] rfl)
  exact L2 100 Z (0 : Int32) _ _ _ hF hP hD hS (lv_sub hl [0, 1, 2, 3] rfl)

noncomputable def F_X1_figure (Z : Mem) (xa : Int32) (xb : Int32) : Option Int32 :=
  br (xb = 0) (gd (¬ (xa < 0 ∨ 4 ≤ ix xa)) <| bv (Z.1 31 (ix xa)) fun y3 => some y3) (br (xb = 1) (gd (¬ (xa < 0 ∨ 4 ≤ ix xa)) <| bv (Z.1 32 (ix xa)) fun y6 => some y6) (br (xb = 2) (gd (¬ (xa < 0 ∨ 4 ≤ ix xa)) <| bv (Z.1 34 (ix xa)) fun y9 => some y9) (br (xb = 3) (gd (¬ (xa < 0 ∨ 4 ≤ ix xa)) <| bv (Z.1 35 (ix xa)) fun y12 => some y12) (gd (¬ (xa < 0 ∨ 4 ≤ ix xa)) <| bv (Z.1 33 (ix xa)) fun y14 => br (y14 = (0 : Int32)) (some (0 : Int32)) (some (1 : Int32))))))

set_option maxHeartbeats 4000000 in
set_option maxRecDepth 100000 in
theorem c_X1_figure (l : Launch) (dC : Nat → ClassId) (dI : Nat → Nat → Nat) (q : Nat → ClassId) (aa : Nat → Nat) (Z : Mem) (xa : Int32) (xb : Int32)  (sz : Nat) (ro : Int32) (hF : F_X1_figure Z xa xb = some ro) : Met l yX1_figure wsX1_figure ({ frames := 2, cells := 0, slots := 0, locals := 40 }) (va_Pc [.ref (aa 30), .int xa, .int xb] (pr_ dC dI (bw q aa Z) (bty q) sz)) (va_Qi (fun (r : Int32) (_ : Unit) => r = ro) (fun (_ : Unit) t => po_ dC dI (bw q aa Z) (bty q) (va_A (bw q aa Z) sz) t) (va_A (bw q aa Z) sz)) 0 0 (va_A (bw q aa Z) sz) := by
  refine Met.ofW (cc := cX1_figure) (maxL := 3) (ret := (some .int)) (by decide) rfl ?_
  intro p e s m args below meth c s₁ B hml hv
  obtain ⟨hargs, hsz, hP, hK, hD0⟩ := hv
  have hx := B.exec
  have hb := B.bytes
  have hr := B.returns
  have hts := atoms_spec (ws := wsX1_figure) B.pre
  have hown : s.vm.findClass RX1 = some m.cls := findClass_of_methodNamed B.named
  have hlocks := B.notSynchronized
  subst hsz
  have hD := hD0.self (sz := s.heap.size)
  generalize hAe : va_A (bw q aa Z) s.heap.size = A at hD ⊢
  have hA : ∀ x : Nat, s.heap.size ≤ x → A x := fun x h => by rw [← hAe]; exact Or.inr h
  have hS : va_S A s.heap s.heap [] := va_S.rf
  have hinX1 : ∀ w ∈ u_ws RX1 TX1 9, w ∈ wsX1_figure := by decide +kernel
  have hl := lv_entry ([.ref (aa 30), .int xa, .int xb]) (n := 3) (Nat.le_of_ble_eq_true rfl)
  refine w_ent hargs ?_
  rw [lg_entry_eq]
  generalize (lg_sl ([.ref (aa 30), .int xa, .int xb]) ++ List.replicate (3 - (lg_sl ([.ref (aa 30), .int xa, .int xb])).length) Slot.unset).toArray = ls at hl ⊢
  have hl : lv_has ls 3 [(0, .ref (aa 30)), (1, .int xa), (2, .int xb)] := hl
  unfold F_X1_figure at hF
  refine w_go (fun Q hQ => ?_)
  refine lv_iload_n hx hb dX1_figure_0 rfl (lv_at hl 2 rfl) ?_
  by_cases hq1 : xb = 0
  · have hF := br_pos hq1 hF
    refine lv_tableIn (off := 31) (tgt := 32) hx hb dX1_figure_1 (by rw [hq1]; decide) (by rw [hq1]; decide) (by rw [hq1]; rfl) (by decide) ?_
    refine lv_aload_n hx hb dX1_figure_32 rfl (lv_at hl 0 rfl) ?_
    refine va_get (D := (dC, dI)) (ci := 3) (v := .ref (aa 31)) (C := RX1) (T := TX1) (N := 9) hx hb hts hinX1 hown hK hP 30 (bw_at (i := 30) (by decide) rfl) rfl 0 (by decide) (hts (.fieldLink RX1 9 "BallotLoom$Parties" "votes" "[I") (by decide +kernel)) (fun _ h9 => h9) rfl dX1_figure_33 ?_
    refine lv_iload_n hx hb dX1_figure_36 rfl (lv_at hl 1 rfl) ?_
    obtain ⟨hg2, hF⟩ := gd_some hF
    refine va_iald hx hb hK hP 31 0 (at_i (by decide) (fun _ _ => rfl)) rfl hg2 dX1_figure_37 ?_
    refine lv_topi (fun y3 ey3 => ?_)
    have hF := bv_at ey3 hF
    have e9 := some1 hF
    subst hQ
    exact W.iret (v := y3) hx hb hr (fun t ht hW => ⟨⟨y3, (), rfl, e9.symm, po_mk ht hW hP hK hD⟩, hS.F ht⟩) hS.2.2 dX1_figure_38
  have hF := br_neg hq1 hF
  by_cases hq4 : xb = 1
  · have hF := br_pos hq4 hF
    refine lv_tableIn (off := 38) (tgt := 39) hx hb dX1_figure_1 (by rw [hq4]; decide) (by rw [hq4]; decide) (by rw [hq4]; rfl) (by decide) ?_
    refine lv_aload_n hx hb dX1_figure_39 rfl (lv_at hl 0 rfl) ?_
    refine va_get (D := (dC, dI)) (ci := 3) (v := .ref (aa 32)) (C := RX1) (T := TX1) (N := 9) hx hb hts hinX1 hown hK hP 30 (bw_at (i := 30) (by decide) rfl) rfl 2 (by decide) (hts (.fieldLink RX1 15 "BallotLoom$Parties" "standing" "[I") (by decide +kernel)) (fun _ h9 => h9) rfl dX1_figure_40 ?_
    refine lv_iload_n hx hb dX1_figure_43 rfl (lv_at hl 1 rfl) ?_
    obtain ⟨hg5, hF⟩ := gd_some hF
    refine va_iald hx hb hK hP 32 0 (at_i (by decide) (fun _ _ => rfl)) rfl hg5 dX1_figure_44 ?_
    refine lv_topi (fun y6 ey6 => ?_)
    have hF := bv_at ey6 hF
    have e9 := some1 hF
    subst hQ
    exact W.iret (v := y6) hx hb hr (fun t ht hW => ⟨⟨y6, (), rfl, e9.symm, po_mk ht hW hP hK hD⟩, hS.F ht⟩) hS.2.2 dX1_figure_45
  have hF := br_neg hq4 hF
  by_cases hq7 : xb = 2
  · have hF := br_pos hq7 hF
    refine lv_tableIn (off := 45) (tgt := 46) hx hb dX1_figure_1 (by rw [hq7]; decide) (by rw [hq7]; decide) (by rw [hq7]; rfl) (by decide) ?_
    refine lv_aload_n hx hb dX1_figure_46 rfl (lv_at hl 0 rfl) ?_
    refine va_get (D := (dC, dI)) (ci := 3) (v := .ref (aa 34)) (C := RX1) (T := TX1) (N := 9) hx hb hts hinX1 hown hK hP 30 (bw_at (i := 30) (by decide) rfl) rfl 4 (by decide) (hts (.fieldLink RX1 22 "BallotLoom$Parties" "direct" "[I") (by decide +kernel)) (fun _ h9 => h9) rfl dX1_figure_47 ?_
    refine lv_iload_n hx hb dX1_figure_50 rfl (lv_at hl 1 rfl) ?_
    obtain ⟨hg8, hF⟩ := gd_some hF
    refine va_iald hx hb hK hP 34 0 (at_i (by decide) (fun _ _ => rfl)) rfl hg8 dX1_figure_51 ?_
    refine lv_topi (fun y9 ey9 => ?_)
    have hF := bv_at ey9 hF
    have e9 := some1 hF
    subst hQ
    exact W.iret (v := y9) hx hb hr (fun t ht hW => ⟨⟨y9, (), rfl, e9.symm, po_mk ht hW hP hK hD⟩, hS.F ht⟩) hS.2.2 dX1_figure_52
  have hF := br_neg hq7 hF
  by_cases hq10 : xb = 3
  · have hF := br_pos hq10 hF
    refine lv_tableIn (off := 52) (tgt := 53) hx hb dX1_figure_1 (by rw [hq10]; decide) (by rw [hq10]; decide) (by rw [hq10]; rfl) (by decide) ?_
    refine lv_aload_n hx hb dX1_figure_53 rfl (lv_at hl 0 rfl) ?_
    refine va_get (D := (dC, dI)) (ci := 3) (v := .ref (aa 35)) (C := RX1) (T := TX1) (N := 9) hx hb hts hinX1 hown hK hP 30 (bw_at (i := 30) (by decide) rfl) rfl 5 (by decide) (hts (.fieldLink RX1 25 "BallotLoom$Parties" "wasted" "[I") (by decide +kernel)) (fun _ h9 => h9) rfl dX1_figure_54 ?_
    refine lv_iload_n hx hb dX1_figure_57 rfl (lv_at hl 1 rfl) ?_
    obtain ⟨hg11, hF⟩ := gd_some hF
    refine va_iald hx hb hK hP 35 0 (at_i (by decide) (fun _ _ => rfl)) rfl hg11 dX1_figure_58 ?_
    refine lv_topi (fun y12 ey12 => ?_)
    have hF := bv_at ey12 hF
    have e9 := some1 hF
    subst hQ
    exact W.iret (v := y12) hx hb hr (fun t ht hW => ⟨⟨y12, (), rfl, e9.symm, po_mk ht hW hP hK hD⟩, hS.F ht⟩) hS.2.2 dX1_figure_59
  have hF := br_neg hq10 hF
  refine lv_tableOut (tgt := 60) hx hb dX1_figure_1 (sw_out 3 (by intro k h0 _; have h2 : k = 0 ∨ k = 1 ∨ k = 2 ∨ k = 3 := (by omega); rcases h2 with rfl | rfl | rfl | rfl; exact hq1; exact hq4; exact hq7; exact hq10)) (by decide) ?_
  refine lv_aload_n hx hb dX1_figure_60 rfl (lv_at hl 0 rfl) ?_
  refine va_get (D := (dC, dI)) (ci := 3) (v := .ref (aa 33)) (C := RX1) (T := TX1) (N := 9) hx hb hts hinX1 hown hK hP 30 (bw_at (i := 30) (by decide) rfl) rfl 3 (by decide) (hts (.fieldLink RX1 18 "BallotLoom$Parties" "isBarred" "[Z") (by decide +kernel)) (fun _ h9 => h9) rfl dX1_figure_61 ?_
  refine lv_iload_n hx hb dX1_figure_64 rfl (lv_at hl 1 rfl) ?_
  obtain ⟨hg13, hF⟩ := gd_some hF
  refine va_zald hx hb hK hP 33 1 (at_i (by decide) (fun _ _ => rfl)) rfl hg13 dX1_figure_65 ?_
  refine lv_topi (fun y14 ey14 => ?_)
  have hF := bv_at ey14 hF
  refine lv_if_eq (tgt := 73) hx hb dX1_figure_66 (by decide) (fun hc15 => ?_) (fun hc15 => ?_)
  · have hF := br_pos hc15 hF
    refine lv_iconst (v := 0) hx hb dX1_figure_73 (by decide) ?_
    have e9 := some1 hF
    subst hQ
    exact W.iret (v := 0) hx hb hr (fun t ht hW => ⟨⟨0, (), rfl, e9.symm, po_mk ht hW hP hK hD⟩, hS.F ht⟩) hS.2.2 dX1_figure_74
  · have hF := br_neg hc15 hF
    refine lv_iconst (v := 1) hx hb dX1_figure_69 (by decide) ?_
    refine lv_goto (tgt := 74) hx hb dX1_figure_70 (by decide) ?_
    have e9 := some1 hF
    subst hQ
    exact W.iret (v := 1) hx hb hr (fun t ht hW => ⟨⟨1, (), rfl, e9.symm, po_mk ht hW hP hK hD⟩, hS.F ht⟩) hS.2.2 dX1_figure_74

noncomputable def F_X1_takesPart (Z : Mem) (xa : Int32) : Option Int32 :=
  gd (¬ (xa < 0 ∨ 4 ≤ ix xa)) <| bv (Z.1 31 (ix xa)) fun y2 => br (y2 ≤ (0 : Int32)) (some (0 : Int32)) (bv (Z.1 33 (ix xa)) fun y4 => br (y4 = (0 : Int32)) (some (1 : Int32)) (some (0 : Int32)))

set_option maxHeartbeats 4000000 in
set_option maxRecDepth 100000 in
theorem c_X1_takesPart (l : Launch) (dC : Nat → ClassId) (dI : Nat → Nat → Nat) (q : Nat → ClassId) (aa : Nat → Nat) (Z : Mem) (xa : Int32)  (sz : Nat) (ro : Int32) (hF : F_X1_takesPart Z xa = some ro) : Met l yX1_takesPart wsX1_takesPart ({ frames := 2, cells := 0, slots := 0, locals := 40 }) (va_Pc [.ref (aa 30), .int xa] (pr_ dC dI (bw q aa Z) (bty q) sz)) (va_Qi (fun (r : Int32) (_ : Unit) => r = ro) (fun (_ : Unit) t => po_ dC dI (bw q aa Z) (bty q) (va_A (bw q aa Z) sz) t) (va_A (bw q aa Z) sz)) 0 0 (va_A (bw q aa Z) sz) := by
  refine Met.ofW (cc := cX1_takesPart) (maxL := 2) (ret := (some .boolean)) (by decide) rfl ?_
  intro p e s m args below meth c s₁ B hml hv
  obtain ⟨hargs, hsz, hP, hK, hD0⟩ := hv
  have hx := B.exec
  have hb := B.bytes
  have hr := B.returns
  have hts := atoms_spec (ws := wsX1_takesPart) B.pre
  have hown : s.vm.findClass RX1 = some m.cls := findClass_of_methodNamed B.named
  have hlocks := B.notSynchronized
  subst hsz
  have hD := hD0.self (sz := s.heap.size)
  generalize hAe : va_A (bw q aa Z) s.heap.size = A at hD ⊢
  have hA : ∀ x : Nat, s.heap.size ≤ x → A x := fun x h => by rw [← hAe]; exact Or.inr h
  have hS : va_S A s.heap s.heap [] := va_S.rf
  have hinX1 : ∀ w ∈ u_ws RX1 TX1 9, w ∈ wsX1_takesPart := by decide +kernel
  have hl := lv_entry ([.ref (aa 30), .int xa]) (n := 2) (Nat.le_of_ble_eq_true rfl)
  refine w_ent hargs ?_
  rw [lg_entry_eq]
  generalize (lg_sl ([.ref (aa 30), .int xa]) ++ List.replicate (2 - (lg_sl ([.ref (aa 30), .int xa])).length) Slot.unset).toArray = ls at hl ⊢
  have hl : lv_has ls 2 [(0, .ref (aa 30)), (1, .int xa)] := hl
  unfold F_X1_takesPart at hF
  refine w_go (fun Q hQ => ?_)
  refine lv_aload_n hx hb dX1_takesPart_0 rfl (lv_at hl 0 rfl) ?_
  refine va_get (D := (dC, dI)) (ci := 3) (v := .ref (aa 31)) (C := RX1) (T := TX1) (N := 9) hx hb hts hinX1 hown hK hP 30 (bw_at (i := 30) (by decide) rfl) rfl 0 (by decide) (hts (.fieldLink RX1 9 "BallotLoom$Parties" "votes" "[I") (by decide +kernel)) (fun _ h9 => h9) rfl dX1_takesPart_1 ?_
  refine lv_iload_n hx hb dX1_takesPart_4 rfl (lv_at hl 1 rfl) ?_
  obtain ⟨hg1, hF⟩ := gd_some hF
  refine va_iald hx hb hK hP 31 0 (at_i (by decide) (fun _ _ => rfl)) rfl hg1 dX1_takesPart_5 ?_
  refine lv_topi (fun y2 ey2 => ?_)
  have hF := bv_at ey2 hF
  refine lv_if_le (tgt := 22) hx hb dX1_takesPart_6 (by decide) (fun hc3 => ?_) (fun hc3 => ?_)
  · have hF := br_pos hc3 hF
    refine lv_iconst (v := 0) hx hb dX1_takesPart_22 (by decide) ?_
    have e9 := some1 hF
    subst hQ
    exact W.zret (v := 0) hx hb hr rfl (fun t ht hW => ⟨⟨0, (), rfl, e9.symm, po_mk ht hW hP hK hD⟩, hS.F ht⟩) hS.2.2 dX1_takesPart_23
  · have hF := br_neg hc3 hF
    refine lv_aload_n hx hb dX1_takesPart_9 rfl (lv_at hl 0 rfl) ?_
    refine va_get (D := (dC, dI)) (ci := 3) (v := .ref (aa 33)) (C := RX1) (T := TX1) (N := 9) hx hb hts hinX1 hown hK hP 30 (bw_at (i := 30) (by decide) rfl) rfl 3 (by decide) (hts (.fieldLink RX1 18 "BallotLoom$Parties" "isBarred" "[Z") (by decide +kernel)) (fun _ h9 => h9) rfl dX1_takesPart_10 ?_
    refine lv_iload_n hx hb dX1_takesPart_13 rfl (lv_at hl 1 rfl) ?_
    refine va_zald hx hb hK hP 33 1 (at_i (by decide) (fun _ _ => rfl)) rfl hg1 dX1_takesPart_14 ?_
    refine lv_topi (fun y4 ey4 => ?_)
    have hF := bv_at ey4 hF
    refine lv_if_ne (tgt := 22) hx hb dX1_takesPart_15 (by decide) (fun hc5 => ?_) (fun hc5 => ?_)
    · have hF := br_neg hc5 hF
      refine lv_iconst (v := 0) hx hb dX1_takesPart_22 (by decide) ?_
      have e9 := some1 hF
      subst hQ
      exact W.zret (v := 0) hx hb hr rfl (fun t ht hW => ⟨⟨0, (), rfl, e9.symm, po_mk ht hW hP hK hD⟩, hS.F ht⟩) hS.2.2 dX1_takesPart_23
    · have hF := br_pos hc5 hF
      refine lv_iconst (v := 1) hx hb dX1_takesPart_18 (by decide) ?_
      refine lv_goto (tgt := 23) hx hb dX1_takesPart_19 (by decide) ?_
      have e9 := some1 hF
      subst hQ
      exact W.zret (v := 1) hx hb hr rfl (fun t ht hW => ⟨⟨1, (), rfl, e9.symm, po_mk ht hW hP hK hD⟩, hS.F ht⟩) hS.2.2 dX1_takesPart_23

noncomputable def F_X1_shareByDivisors_x2 (Z1 : Mem) : Option (Mem × Unit) :=
  some (Z1, ())

noncomputable def F_X1_shareByDivisors_x16 (Z3 : Mem) (u2 : Int32) (B_2 : Mem → Int32 → Option (Mem × Unit)) (w5 : Int32) : Option (Mem × Unit) :=
  br (w5 = ((-1) : Int32)) (some (Z3, ())) (gd (¬ (w5 < 0 ∨ 4 ≤ ix w5)) <| bv (Z3.1 36 (ix w5)) fun y8 => bv (y8 + (1 : Int32)) fun y9 => bv (si Z3 36 (ix w5) y9) fun Z10 => B_2 Z10 (u2 + (1 : Int32)))

noncomputable def F_X1_shareByDivisors_l16 (xb : Int32) (Z3 : Mem) (K_16 : Int32 → Option (Mem × Unit)) : Nat → Int32 → UInt64 → Int32 → Option (Mem × Unit)
  | 0, _, _, _ => none
  | n16 + 1, u11, u12, u13 =>
  br ((4 : Int32) ≤ u13) (K_16 u11) (gd (¬ (u13 < 0 ∨ 4 ≤ ix u13)) <| bv (Z3.1 31 (ix u13)) fun y16 => bv (FP.i2d y16) fun y17 => bv (Z3.1 36 (ix u13)) fun y18 => bv (xb * y18) fun y19 => bv ((1 : Int32) + y19) fun y20 => bv (FP.i2d y20) fun y21 => gd ((FP.ddiv y17 y21) &&& 0x7fffffffffffffff ≤ 0x7ff0000000000000) <| bv (FP.ddiv y17 y21) fun y23 => calp (F_X1_takesPart Z3 u13) fun rr26 => br (rr26 = (0 : Int32)) ((F_X1_shareByDivisors_l16 xb Z3 K_16 n16) u11 u12 (u13 + (1 : Int32))) (br (u11 = ((-1) : Int32)) ((F_X1_shareByDivisors_l16 xb Z3 K_16 n16) u13 y23 (u13 + (1 : Int32))) (bv (Op.cmpValue (FP.dcmp y23 u12) .l) fun y29 => br ((0 : Int32) < y29) ((F_X1_shareByDivisors_l16 xb Z3 K_16 n16) u13 y23 (u13 + (1 : Int32))) (bv (Op.cmpValue (FP.dcmp y23 u12) .l) fun y31 => br (y31 = (0 : Int32)) (bv (Z3.1 31 (ix u13)) fun y33 => gd (¬ (u11 < 0 ∨ 4 ≤ ix u11)) <| bv (Z3.1 31 (ix u11)) fun y35 => br (y33 ≤ y35) ((F_X1_shareByDivisors_l16 xb Z3 K_16 n16) u11 u12 (u13 + (1 : Int32))) ((F_X1_shareByDivisors_l16 xb Z3 K_16 n16) u13 y23 (u13 + (1 : Int32)))) ((F_X1_shareByDivisors_l16 xb Z3 K_16 n16) u11 u12 (u13 + (1 : Int32)))))))

noncomputable def F_X1_shareByDivisors_l2 (xa : Int32) (xb : Int32) (K_2 : Mem → Option (Mem × Unit)) : Nat → Mem → Int32 → Option (Mem × Unit)
  | 0, _, _ => none
  | n2 + 1, Z3, u2 =>
  br (xa ≤ u2) (K_2 Z3) (F_X1_shareByDivisors_l16 xb Z3 (F_X1_shareByDivisors_x16 Z3 u2 (F_X1_shareByDivisors_l2 xa xb K_2 n2)) 100 ((-1) : Int32) FP.dconst0 (0 : Int32))

noncomputable def F_X1_shareByDivisors (Z : Mem) (xa : Int32) (xb : Int32) : Option (Mem × Unit) :=
  F_X1_shareByDivisors_l2 xa xb F_X1_shareByDivisors_x2 100 Z (0 : Int32)

set_option maxHeartbeats 4000000 in
set_option maxRecDepth 100000 in
theorem c_X1_shareByDivisors (l : Launch) (dC : Nat → ClassId) (dI : Nat → Nat → Nat) (q : Nat → ClassId) (aa : Nat → Nat) (Z : Mem) (xa : Int32) (xb : Int32)  (sz : Nat) (Zo : Mem) (ro : Unit) (hF : F_X1_shareByDivisors Z xa xb = some (Zo, ro)) : Met l yX1_shareByDivisors wsX1_shareByDivisors ({ frames := 3, cells := 0, slots := 0, locals := 61 }) (va_Pc [.ref (aa 30), .int xa, .int xb] (pr_ dC dI (bw q aa Z) (bty q) sz)) (va_Qv (fun (_ : Unit) => True) (fun (_ : Unit) t => po_ dC dI (bw q aa Zo) (bty q) (va_A (bw q aa Z) sz) t) (va_A (bw q aa Z) sz)) 0 0 (va_A (bw q aa Z) sz) := by
  refine Met.ofW (cc := cX1_shareByDivisors) (maxL := 10) (ret := none) (by decide) rfl ?_
  intro p e s m args below meth c s₁ B hml hv
  obtain ⟨hargs, hsz, hP, hK, hD0⟩ := hv
  have hx := B.exec
  have hb := B.bytes
  have hr := B.returns
  have hts := atoms_spec (ws := wsX1_shareByDivisors) B.pre
  have hown : s.vm.findClass RX1 = some m.cls := findClass_of_methodNamed B.named
  have hlocks := B.notSynchronized
  subst hsz
  have hD := hD0.self (sz := s.heap.size)
  generalize hAe : va_A (bw q aa Z) s.heap.size = A at hD ⊢
  have hA : ∀ x : Nat, s.heap.size ≤ x → A x := fun x h => by rw [← hAe]; exact Or.inr h
  have hS : va_S A s.heap s.heap [] := va_S.rf
  have hinX1 : ∀ w ∈ u_ws RX1 TX1 9, w ∈ wsX1_shareByDivisors := by decide +kernel
  have hl := lv_entry ([.ref (aa 30), .int xa, .int xb]) (n := 10) (Nat.le_of_ble_eq_true rfl)
  refine w_ent hargs ?_
  rw [lg_entry_eq]
  generalize (lg_sl ([.ref (aa 30), .int xa, .int xb]) ++ List.replicate (10 - (lg_sl ([.ref (aa 30), .int xa, .int xb])).length) Slot.unset).toArray = ls at hl ⊢
  have hl : lv_has ls 10 [(0, .ref (aa 30)), (1, .int xa), (2, .int xb)] := hl
  unfold F_X1_shareByDivisors at hF
  refine w_go (fun Q hQ => ?_)
  refine lv_iconst (v := 0) hx hb dX1_shareByDivisors_0 (by decide) ?_
  refine lv_istore_n (lv' := [(3, .int 0), (0, .ref (aa 30)), (1, .int xa), (2, .int xb)]) hx hb dX1_shareByDivisors_1 rfl hl (by decide) rfl (fun ls hl => ?_)
  have Jx2 : ∀ (Z1 : Mem) (H : Heap) (locs : List Loc) (ls : Array Slot), F_X1_shareByDivisors_x2 Z1 = some (Zo, ro) → va_P (dC, dI) vwCl (bw q aa Z1) H → va_D A (bw q aa Z1) → va_S A s.heap H locs → lv_has ls 10 [] → W p l e (headSpec wsX1_shareByDivisors ({ frames := 3, cells := 0, slots := 0, locals := 61 } : Room)).room s m args below meth c H locs 0 0 Q (F0 m 131 ls []) := by
    intro Z1 H locs ls hF hP hD hS hl
    unfold F_X1_shareByDivisors_x2 at hF
    obtain ⟨e8, e9⟩ := some2 hF
    rw [← e8] at hP hD
    subst hQ
    exact W.vret hx hb hr (fun t ht hW => ⟨⟨(), rfl, trivial, po_mk ht hW hP hK hD⟩, hS.F ht⟩) hS.2.2 dX1_shareByDivisors_131
  have L2 : ∀ (n2 : Nat) (Z3 : Mem) (u2 : Int32) (H : Heap) (locs : List Loc) (ls : Array Slot), F_X1_shareByDivisors_l2 xa xb F_X1_shareByDivisors_x2 n2 Z3 u2 = some (Zo, ro) → va_P (dC, dI) vwCl (bw q aa Z3) H → va_D A (bw q aa Z3) → va_S A s.heap H locs → lv_has ls 10 [(3, .int u2), (0, .ref (aa 30)), (1, .int xa), (2, .int xb)] → W p l e (headSpec wsX1_shareByDivisors ({ frames := 3, cells := 0, slots := 0, locals := 61 } : Room)).room s m args below meth c H locs 0 0 Q (F0 m 2 ls []) := by
    intro n2
    induction n2 with
    | zero =>
      intro Z3 u2 H locs ls hF
      rw [F_X1_shareByDivisors_l2] at hF
      cases hF
    | succ n2 IH2 =>
      intro Z3 u2 H locs ls hF hP hD hS hl
      rw [F_X1_shareByDivisors_l2] at hF
      refine lv_iload_n hx hb dX1_shareByDivisors_2 rfl (lv_at hl 0 rfl) ?_
      refine lv_iload_n hx hb dX1_shareByDivisors_3 rfl (lv_at hl 2 rfl) ?_
      refine lv_icmp_ge (tgt := 131) hx hb dX1_shareByDivisors_4 (by decide) (fun hc4 => ?_) (fun hc4 => ?_)
      · have hF := br_pos hc4 hF
        exact Jx2 Z3 _ _ _ hF hP hD hS (lv_sub hl [] rfl)
      · have hF := br_neg hc4 hF
        refine lv_iconst (v := (-1)) hx hb dX1_shareByDivisors_7 (by decide) ?_
        refine lv_istore (lv' := [(4, .int (-1)), (3, .int u2), (0, .ref (aa 30)), (1, .int xa), (2, .int xb)]) hx hb dX1_shareByDivisors_8 hl (by decide) rfl (fun ls hl => ?_)
        refine lv_dconst0 hx hb dX1_shareByDivisors_10 ?_
        refine lv_dstore (lv' := [(5, .double FP.dconst0), (4, .int (-1)), (3, .int u2), (0, .ref (aa 30)), (1, .int xa), (2, .int xb)]) hx hb dX1_shareByDivisors_11 hl (by decide) rfl (fun ls hl => ?_)
        refine lv_iconst (v := 0) hx hb dX1_shareByDivisors_13 (by decide) ?_
        refine lv_istore (lv' := [(7, .int 0), (5, .double FP.dconst0), (4, .int (-1)), (3, .int u2), (0, .ref (aa 30)), (1, .int xa), (2, .int xb)]) hx hb dX1_shareByDivisors_14 hl (by decide) rfl (fun ls hl => ?_)
        have Jx16 : ∀ (w5 : Int32) (H : Heap) (locs : List Loc) (ls : Array Slot), (F_X1_shareByDivisors_x16 Z3 u2 (F_X1_shareByDivisors_l2 xa xb F_X1_shareByDivisors_x2 n2)) w5 = some (Zo, ro) → va_P (dC, dI) vwCl (bw q aa Z3) H → va_D A (bw q aa Z3) → va_S A s.heap H locs → lv_has ls 10 [(4, .int w5), (3, .int u2), (0, .ref (aa 30)), (1, .int xa), (2, .int xb)] → W p l e (headSpec wsX1_shareByDivisors ({ frames := 3, cells := 0, slots := 0, locals := 61 } : Room)).room s m args below meth c H locs 0 0 Q (F0 m 107 ls []) := by
          intro w5 H locs ls hF hP hD hS hl
          unfold F_X1_shareByDivisors_x16 at hF
          refine lv_iload hx hb dX1_shareByDivisors_107 (lv_at hl 0 rfl) ?_
          refine lv_iconst (v := (-1)) hx hb dX1_shareByDivisors_109 (by decide) ?_
          refine lv_icmp_ne (tgt := 114) hx hb dX1_shareByDivisors_110 (by decide) (fun hc6 => ?_) (fun hc6 => ?_)
          · have hF := br_neg hc6 hF
            refine lv_aload_n hx hb dX1_shareByDivisors_114 rfl (lv_at hl 2 rfl) ?_
            refine va_get (D := (dC, dI)) (ci := 3) (v := .ref (aa 36)) (C := RX1) (T := TX1) (N := 9) hx hb hts hinX1 hown hK hP 30 (bw_at (i := 30) (by decide) rfl) rfl 6 (by decide) (hts (.fieldLink RX1 28 "BallotLoom$Parties" "seats" "[I") (by decide +kernel)) (fun _ h9 => h9) rfl dX1_shareByDivisors_115 ?_
            refine lv_iload hx hb dX1_shareByDivisors_118 (lv_at hl 0 rfl) ?_
            refine lv_dup2_11 hx hb dX1_shareByDivisors_120 rfl rfl ?_
            obtain ⟨hg7, hF⟩ := gd_some hF
            refine va_iald hx hb hK hP 36 0 (at_i (by decide) (fun _ _ => rfl)) rfl hg7 dX1_shareByDivisors_121 ?_
            refine lv_topi (fun y8 ey8 => ?_)
            have hF := bv_at ey8 hF
            refine lv_iconst (v := 1) hx hb dX1_shareByDivisors_122 (by decide) ?_
            refine lv_iadd hx hb dX1_shareByDivisors_123 ?_
            refine lv_topi (fun y9 ey9 => ?_)
            have hF := bv_at ey9 hF
            obtain ⟨Z10, eZ10, hF⟩ := bv_some hF
            refine va_iast hx hb hK hP hD hS 36 0 (at_i (by decide) (fun _ _ => rfl)) rfl hg7 dX1_shareByDivisors_124 (fun H locs hP hD hS => ?_)
            have eW := wz_i (q := q) (aa := aa) (i := 36) (fun _ _ => rfl) eZ10
            have hP : va_P (dC, dI) vwCl (bw q aa Z10) H := eW ▸ hP
            have hD : va_D A (bw q aa Z10) := eW ▸ hD
            clear eW
            refine lv_iinc (k := 1) (v := (u2 + (1 : Int32))) (lv' := [(3, .int (u2 + (1 : Int32))), (4, .int w5), (0, .ref (aa 30)), (1, .int xa), (2, .int xb)]) hx hb dX1_shareByDivisors_125 hl rfl (ii_ _ _ _ (by decide)) (by decide) rfl (fun ls hl => ?_)
            refine lv_goto (tgt := 2) hx hb dX1_shareByDivisors_128 (by decide) ?_
            exact IH2 Z10 (u2 + (1 : Int32)) _ _ _ hF hP hD hS (lv_sub hl [0, 2, 3, 4] rfl)
          · have hF := br_pos hc6 hF
            obtain ⟨e8, e9⟩ := some2 hF
            rw [← e8] at hP hD
            subst hQ
            exact W.vret hx hb hr (fun t ht hW => ⟨⟨(), rfl, trivial, po_mk ht hW hP hK hD⟩, hS.F ht⟩) hS.2.2 dX1_shareByDivisors_113
        have L16 : ∀ (n16 : Nat) (u11 : Int32) (u12 : UInt64) (u13 : Int32) (H : Heap) (locs : List Loc) (ls : Array Slot), F_X1_shareByDivisors_l16 xb Z3 (F_X1_shareByDivisors_x16 Z3 u2 (F_X1_shareByDivisors_l2 xa xb F_X1_shareByDivisors_x2 n2)) n16 u11 u12 u13 = some (Zo, ro) → va_P (dC, dI) vwCl (bw q aa Z3) H → va_D A (bw q aa Z3) → va_S A s.heap H locs → lv_has ls 10 [(7, .int u13), (5, .double u12), (4, .int u11), (3, .int u2), (0, .ref (aa 30)), (1, .int xa), (2, .int xb)] → W p l e (headSpec wsX1_shareByDivisors ({ frames := 3, cells := 0, slots := 0, locals := 61 } : Room)).room s m args below meth c H locs 0 0 Q (F0 m 16 ls []) := by
          intro n16
          induction n16 with
          | zero =>
            intro u11 u12 u13 H locs ls hF
            rw [F_X1_shareByDivisors_l16] at hF
            cases hF
          | succ n16 IH16 =>
            intro u11 u12 u13 H locs ls hF hP hD hS hl
            rw [F_X1_shareByDivisors_l16] at hF
            refine lv_iload hx hb dX1_shareByDivisors_16 (lv_at hl 0 rfl) ?_
            refine lv_iconst (v := 4) hx hb dX1_shareByDivisors_18 (by decide) ?_
            refine lv_icmp_ge (tgt := 107) hx hb dX1_shareByDivisors_19 (by decide) (fun hc14 => ?_) (fun hc14 => ?_)
            · have hF := br_pos hc14 hF
              exact Jx16 u11 _ _ _ hF hP hD hS (lv_sub hl [2, 3, 4, 5, 6] rfl)
            · have hF := br_neg hc14 hF
              refine lv_aload_n hx hb dX1_shareByDivisors_22 rfl (lv_at hl 4 rfl) ?_
              refine va_get (D := (dC, dI)) (ci := 3) (v := .ref (aa 31)) (C := RX1) (T := TX1) (N := 9) hx hb hts hinX1 hown hK hP 30 (bw_at (i := 30) (by decide) rfl) rfl 0 (by decide) (hts (.fieldLink RX1 9 "BallotLoom$Parties" "votes" "[I") (by decide +kernel)) (fun _ h9 => h9) rfl dX1_shareByDivisors_23 ?_
              refine lv_iload hx hb dX1_shareByDivisors_26 (lv_at hl 0 rfl) ?_
              obtain ⟨hg15, hF⟩ := gd_some hF
              refine va_iald hx hb hK hP 31 0 (at_i (by decide) (fun _ _ => rfl)) rfl hg15 dX1_shareByDivisors_28 ?_
              refine lv_topi (fun y16 ey16 => ?_)
              have hF := bv_at ey16 hF
              refine lv_i2d hx hb dX1_shareByDivisors_29 ?_
              refine lv_topd (fun y17 ey17 => ?_)
              have hF := bv_at ey17 hF
              refine lv_iconst (v := 1) hx hb dX1_shareByDivisors_30 (by decide) ?_
              refine lv_iload_n hx hb dX1_shareByDivisors_31 rfl (lv_at hl 6 rfl) ?_
              refine lv_aload_n hx hb dX1_shareByDivisors_32 rfl (lv_at hl 4 rfl) ?_
              refine va_get (D := (dC, dI)) (ci := 3) (v := .ref (aa 36)) (C := RX1) (T := TX1) (N := 9) hx hb hts hinX1 hown hK hP 30 (bw_at (i := 30) (by decide) rfl) rfl 6 (by decide) (hts (.fieldLink RX1 28 "BallotLoom$Parties" "seats" "[I") (by decide +kernel)) (fun _ h9 => h9) rfl dX1_shareByDivisors_33 ?_
              refine lv_iload hx hb dX1_shareByDivisors_36 (lv_at hl 0 rfl) ?_
              refine va_iald hx hb hK hP 36 0 (at_i (by decide) (fun _ _ => rfl)) rfl hg15 dX1_shareByDivisors_38 ?_
              refine lv_topi (fun y18 ey18 => ?_)
              have hF := bv_at ey18 hF
              refine lv_imul hx hb dX1_shareByDivisors_39 ?_
              refine lv_topi (fun y19 ey19 => ?_)
              have hF := bv_at ey19 hF
              refine lv_iadd hx hb dX1_shareByDivisors_40 ?_
              refine lv_topi (fun y20 ey20 => ?_)
              have hF := bv_at ey20 hF
              refine lv_i2d hx hb dX1_shareByDivisors_41 ?_
              refine lv_topd (fun y21 ey21 => ?_)
              have hF := bv_at ey21 hF
              obtain ⟨hg22, hF⟩ := gd_some hF
              refine lv_ddiv hx hb dX1_shareByDivisors_42 hg22 ?_
              refine lv_topd (fun y23 ey23 => ?_)
              have hF := bv_at ey23 hF
              refine lv_dstore (lv' := [(8, .double y23), (7, .int u13), (5, .double u12), (4, .int u11), (3, .int u2), (0, .ref (aa 30)), (1, .int xa), (2, .int xb)]) hx hb dX1_shareByDivisors_43 hl (by decide) rfl (fun ls hl => ?_)
              refine lv_aload_n hx hb dX1_shareByDivisors_45 rfl (lv_at hl 5 rfl) ?_
              refine lv_iload hx hb dX1_shareByDivisors_46 (lv_at hl 1 rfl) ?_
              obtain ⟨r25, hC24, hF⟩ := calp_some hF
              have hFc := b_free (ws := bw q aa Z3) hD hS hA
              refine va_calli (va_runV (As := [.int u13]) (rest := []) ⟨hx, hb, hml, hown, hts⟩ (c_X1_takesPart l dC dI q aa Z3 u13  _ _  hC24) (cwV 1 hts gX1_shareByDivisors_X1_takesPart rfl rfl rfl (by decide +kernel) ⟨Nat.le_of_ble_eq_true rfl, Nat.le_of_ble_eq_true rfl⟩) ⟨pr_blind, va_recv hK hP (ci := 3) (q0 := 30) rfl (bw_at (i := 30) (by decide) rfl), fun U hU hW => ⟨rfl, pr_mk hU hW hP hK hD⟩⟩ rfl rfl hl.1 rfl (lv_room (Nat.le_of_ble_eq_true rfl)) dX1_shareByDivisors_48 ⟨Nat.le_of_ble_eq_true rfl, Nat.le_of_ble_eq_true rfl⟩) hS (fun x _ h => hFc x h) hFc (fun rr26 u t H1 locs ht hvm hw hB hz1 hk1 hS => ?_)
              obtain ⟨hP, hK1, hD1⟩ := hB
              rw [ht] at hP
              have hD := hD1.weaken (fun _ q9 _ h9 => hFc q9.1 h9)
              clear hFc hD1 hK1 hvm hz1 hk1
              generalize H1 = H at hP hS ⊢
              refine W.widen (k := 0) (n := 0) (Nat.le_refl _) (Nat.le_refl _) ?_
              obtain rfl : rr26 = r25 := hw
              refine lv_if_eq (tgt := 101) hx hb dX1_shareByDivisors_51 (by decide) (fun hc27 => ?_) (fun hc27 => ?_)
              · have hF := br_pos hc27 hF
                refine lv_iinc (k := 1) (v := (u13 + (1 : Int32))) (lv' := [(7, .int (u13 + (1 : Int32))), (8, .double y23), (5, .double u12), (4, .int u11), (3, .int u2), (0, .ref (aa 30)), (1, .int xa), (2, .int xb)]) hx hb dX1_shareByDivisors_101 hl rfl (ii_ _ _ _ (by decide)) (by decide) rfl (fun ls hl => ?_)
                refine lv_goto (tgt := 16) hx hb dX1_shareByDivisors_104 (by decide) ?_
                exact IH16 u11 u12 (u13 + (1 : Int32)) _ _ _ hF hP hD hS (lv_sub hl [0, 2, 3, 4, 5, 6, 7] rfl)
              · have hF := br_neg hc27 hF
                refine lv_iload hx hb dX1_shareByDivisors_54 (lv_at hl 3 rfl) ?_
                refine lv_iconst (v := (-1)) hx hb dX1_shareByDivisors_56 (by decide) ?_
                refine lv_icmp_eq (tgt := 93) hx hb dX1_shareByDivisors_57 (by decide) (fun hc28 => ?_) (fun hc28 => ?_)
                · have hF := br_pos hc28 hF
                  refine lv_iload hx hb dX1_shareByDivisors_93 (lv_at hl 1 rfl) ?_
                  refine lv_istore (lv' := [(4, .int u13), (8, .double y23), (7, .int u13), (5, .double u12), (3, .int u2), (0, .ref (aa 30)), (1, .int xa), (2, .int xb)]) hx hb dX1_shareByDivisors_95 hl (by decide) rfl (fun ls hl => ?_)
                  refine lv_dload hx hb dX1_shareByDivisors_97 (lv_at hl 1 rfl) ?_
                  refine lv_dstore (lv' := [(5, .double y23), (4, .int u13), (8, .double y23), (7, .int u13), (3, .int u2), (0, .ref (aa 30)), (1, .int xa), (2, .int xb)]) hx hb dX1_shareByDivisors_99 hl (by decide) rfl (fun ls hl => ?_)
                  refine lv_iinc (k := 3) (v := (u13 + (1 : Int32))) (lv' := [(7, .int (u13 + (1 : Int32))), (5, .double y23), (4, .int u13), (8, .double y23), (3, .int u2), (0, .ref (aa 30)), (1, .int xa), (2, .int xb)]) hx hb dX1_shareByDivisors_101 hl rfl (ii_ _ _ _ (by decide)) (by decide) rfl (fun ls hl => ?_)
                  refine lv_goto (tgt := 16) hx hb dX1_shareByDivisors_104 (by decide) ?_
                  exact IH16 u13 y23 (u13 + (1 : Int32)) _ _ _ hF hP hD hS (lv_sub hl [0, 1, 2, 4, 5, 6, 7] rfl)
                · have hF := br_neg hc28 hF
                  refine lv_dload hx hb dX1_shareByDivisors_60 (lv_at hl 0 rfl) ?_
                  refine lv_dload hx hb dX1_shareByDivisors_62 (lv_at hl 2 rfl) ?_
                  refine lv_dcmp hx hb dX1_shareByDivisors_64 ?_
                  refine lv_topi (fun y29 ey29 => ?_)
                  have hF := bv_at ey29 hF
                  refine lv_if_gt (tgt := 93) hx hb dX1_shareByDivisors_65 (by decide) (fun hc30 => ?_) (fun hc30 => ?_)
                  · have hF := br_pos hc30 hF
                    refine lv_iload hx hb dX1_shareByDivisors_93 (lv_at hl 1 rfl) ?_
                    refine lv_istore (lv' := [(4, .int u13), (8, .double y23), (7, .int u13), (5, .double u12), (3, .int u2), (0, .ref (aa 30)), (1, .int xa), (2, .int xb)]) hx hb dX1_shareByDivisors_95 hl (by decide) rfl (fun ls hl => ?_)
                    refine lv_dload hx hb dX1_shareByDivisors_97 (lv_at hl 1 rfl) ?_
                    refine lv_dstore (lv' := [(5, .double y23), (4, .int u13), (8, .double y23), (7, .int u13), (3, .int u2), (0, .ref (aa 30)), (1, .int xa), (2, .int xb)]) hx hb dX1_shareByDivisors_99 hl (by decide) rfl (fun ls hl => ?_)
                    refine lv_iinc (k := 3) (v := (u13 + (1 : Int32))) (lv' := [(7, .int (u13 + (1 : Int32))), (5, .double y23), (4, .int u13), (8, .double y23), (3, .int u2), (0, .ref (aa 30)), (1, .int xa), (2, .int xb)]) hx hb dX1_shareByDivisors_101 hl rfl (ii_ _ _ _ (by decide)) (by decide) rfl (fun ls hl => ?_)
                    refine lv_goto (tgt := 16) hx hb dX1_shareByDivisors_104 (by decide) ?_
                    exact IH16 u13 y23 (u13 + (1 : Int32)) _ _ _ hF hP hD hS (lv_sub hl [0, 1, 2, 4, 5, 6, 7] rfl)
                  · have hF := br_neg hc30 hF
                    refine lv_dload hx hb dX1_shareByDivisors_68 (lv_at hl 0 rfl) ?_
                    refine lv_dload hx hb dX1_shareByDivisors_70 (lv_at hl 2 rfl) ?_
                    refine lv_dcmp hx hb dX1_shareByDivisors_72 ?_
                    refine lv_topi (fun y31 ey31 => ?_)
                    have hF := bv_at ey31 hF
                    refine lv_if_ne (tgt := 101) hx hb dX1_shareByDivisors_73 (by decide) (fun hc32 => ?_) (fun hc32 => ?_)
                    · have hF := br_neg hc32 hF
                      refine lv_iinc (k := 1) (v := (u13 + (1 : Int32))) (lv' := [(7, .int (u13 + (1 : Int32))), (8, .double y23), (5, .double u12), (4, .int u11), (3, .int u2), (0, .ref (aa 30)), (1, .int xa), (2, .int xb)]) hx hb dX1_shareByDivisors_101 hl rfl (ii_ _ _ _ (by decide)) (by decide) rfl (fun ls hl => ?_)
                      refine lv_goto (tgt := 16) hx hb dX1_shareByDivisors_104 (by decide) ?_
                      exact IH16 u11 u12 (u13 + (1 : Int32)) _ _ _ hF hP hD hS (lv_sub hl [0, 2, 3, 4, 5, 6, 7] rfl)
                    · have hF := br_pos hc32 hF
                      refine lv_aload_n hx hb dX1_shareByDivisors_76 rfl (lv_at hl 5 rfl) ?_
                      refine va_get (D := (dC, dI)) (ci := 3) (v := .ref (aa 31)) (C := RX1) (T := TX1) (N := 9) hx hb hts hinX1 hown hK hP 30 (bw_at (i := 30) (by decide) rfl) rfl 0 (by decide) (hts (.fieldLink RX1 9 "BallotLoom$Parties" "votes" "[I") (by decide +kernel)) (fun _ h9 => h9) rfl dX1_shareByDivisors_77 ?_
                      refine lv_iload hx hb dX1_shareByDivisors_80 (lv_at hl 1 rfl) ?_
                      refine va_iald hx hb hK hP 31 0 (at_i (by decide) (fun _ _ => rfl)) rfl hg15 dX1_shareByDivisors_82 ?_
                      refine lv_topi (fun y33 ey33 => ?_)
                      have hF := bv_at ey33 hF
                      refine lv_aload_n hx hb dX1_shareByDivisors_83 rfl (lv_at hl 5 rfl) ?_
                      refine va_get (D := (dC, dI)) (ci := 3) (v := .ref (aa 31)) (C := RX1) (T := TX1) (N := 9) hx hb hts hinX1 hown hK hP 30 (bw_at (i := 30) (by decide) rfl) rfl 0 (by decide) (hts (.fieldLink RX1 9 "BallotLoom$Parties" "votes" "[I") (by decide +kernel)) (fun _ h9 => h9) rfl dX1_shareByDivisors_84 ?_
                      refine lv_iload hx hb dX1_shareByDivisors_87 (lv_at hl 3 rfl) ?_
                      obtain ⟨hg34, hF⟩ := gd_some hF
                      refine va_iald hx hb hK hP 31 0 (at_i (by decide) (fun _ _ => rfl)) rfl hg34 dX1_shareByDivisors_89 ?_
                      refine lv_topi (fun y35 ey35 => ?_)
                      have hF := bv_at ey35 hF
                      refine lv_icmp_le (tgt := 101) hx hb dX1_shareByDivisors_90 (by decide) (fun hc36 => ?_) (fun hc36 => ?_)
                      · have hF := br_pos hc36 hF
                        refine lv_iinc (k := 1) (v := (u13 + (1 : Int32))) (lv' := [(7, .int (u13 + (1 : Int32))), (8, .double y23), (5, .double u12), (4, .int u11), (3, .int u2), (0, .ref (aa 30)), (1, .int xa), (2, .int xb)]) hx hb dX1_shareByDivisors_101 hl rfl (ii_ _ _ _ (by decide)) (by decide) rfl (fun ls hl => ?_)
                        refine lv_goto (tgt := 16) hx hb dX1_shareByDivisors_104 (by decide) ?_
                        exact IH16 u11 u12 (u13 + (1 : Int32)) _ _ _ hF hP hD hS (lv_sub hl [0, 2, 3, 4, 5, 6, 7] rfl)
                      · have hF := br_neg hc36 hF
                        refine lv_iload hx hb dX1_shareByDivisors_93 (lv_at hl 1 rfl) ?_
                        refine lv_istore (lv' := [(4, .int u13), (8, .double y23), (7, .int u13), (5, .double u12), (3, .int u2), (0, .ref (aa 30)), (1, .int xa), (2, .int xb)]) hx hb dX1_shareByDivisors_95 hl (by decide) rfl (fun ls hl => ?_)
                        refine lv_dload hx hb dX1_shareByDivisors_97 (lv_at hl 1 rfl) ?_
                        refine lv_dstore (lv' := [(5, .double y23), (4, .int u13), (8, .double y23), (7, .int u13), (3, .int u2), (0, .ref (aa 30)), (1, .int xa), (2, .int xb)]) hx hb dX1_shareByDivisors_99 hl (by decide) rfl (fun ls hl => ?_)
                        refine lv_iinc (k := 3) (v := (u13 + (1 : Int32))) (lv' := [(7, .int (u13 + (1 : Int32))), (5, .double y23), (4, .int u13), (8, .double y23), (3, .int u2), (0, .ref (aa 30)), (1, .int xa), (2, .int xb)]) hx hb dX1_shareByDivisors_101 hl rfl (ii_ _ _ _ (by decide)) (by decide) rfl (fun ls hl => ?_)
                        refine lv_goto (tgt := 16) hx hb dX1_shareByDivisors_104 (by decide) ?_
                        exact IH16 u13 y23 (u13 + (1 : Int32)) _ _ _ hF hP hD hS (lv_sub hl [0, 1, 2, 4, 5, 6, 7] rfl)
        exact L16 100 ((-1) : Int32) FP.dconst0 (0 : Int32) _ _ _ hF hP hD hS (lv_sub hl [0, 1, 2, 3, 4, 5, 6] rfl)
  exact L2 100 Z (0 : Int32) _ _ _ hF hP hD hS (lv_sub hl [0, 1, 2, 3] rfl)

noncomputable def F_X1_giveToGreatestRemainder_x4 (Z : Mem) (w1 : Int32) : Option (Mem × Unit) :=
  br (w1 = ((-1) : Int32)) (some (Z, ())) (gd (¬ (w1 < 0 ∨ 4 ≤ ix w1)) <| bv (Z.1 36 (ix w1)) fun y4 => bv (y4 + (1 : Int32)) fun y5 => bv (si Z 36 (ix w1) y5) fun Z6 => bv (si Z6 38 (ix w1) ((-1) : Int32)) fun Z7 => some (Z7, ()))

noncomputable def F_X1_giveToGreatestRemainder_l4 (Z : Mem) (K_4 : Int32 → Option (Mem × Unit)) : Nat → Int32 → Int32 → Option (Mem × Unit)
  | 0, _, _ => none
  | n4 + 1, u8, u9 =>
  br ((4 : Int32) ≤ u9) (K_4 u8) (gd (¬ (u9 < 0 ∨ 4 ≤ ix u9)) <| bv (Z.1 38 (ix u9)) fun y12 => br (y12 = ((-1) : Int32)) ((F_X1_giveToGreatestRemainder_l4 Z K_4 n4) u8 (u9 + (1 : Int32))) (br (u8 = ((-1) : Int32)) ((F_X1_giveToGreatestRemainder_l4 Z K_4 n4) u9 (u9 + (1 : Int32))) (bv (Z.1 38 (ix u9)) fun y15 => gd (¬ (u8 < 0 ∨ 4 ≤ ix u8)) <| bv (Z.1 38 (ix u8)) fun y17 => br (y17 < y15) ((F_X1_giveToGreatestRemainder_l4 Z K_4 n4) u9 (u9 + (1 : Int32))) (bv (Z.1 38 (ix u9)) fun y19 => bv (Z.1 38 (ix u8)) fun y20 => br (y19 = y20) (bv (Z.1 31 (ix u9)) fun y22 => bv (Z.1 31 (ix u8)) fun y23 => br (y22 ≤ y23) ((F_X1_giveToGreatestRemainder_l4 Z K_4 n4) u8 (u9 + (1 : Int32))) ((F_X1_giveToGreatestRemainder_l4 Z K_4 n4) u9 (u9 + (1 : Int32)))) ((F_X1_giveToGreatestRemainder_l4 Z K_4 n4) u8 (u9 + (1 : Int32)))))))

noncomputable def F_X1_giveToGreatestRemainder (Z : Mem) : Option (Mem × Unit) :=
  F_X1_giveToGreatestRemainder_l4 Z (F_X1_giveToGreatestRemainder_x4 Z) 100 ((-1) : Int32) (0 : Int32)

set_option maxHeartbeats 4000000 in
set_option maxRecDepth 100000 in
theorem c_X1_giveToGreatestRemainder (l : Launch) (dC : Nat → ClassId) (dI : Nat → Nat → Nat) (q : Nat → ClassId) (aa : Nat → Nat) (Z : Mem)   (sz : Nat) (Zo : Mem) (ro : Unit) (hF : F_X1_giveToGreatestRemainder Z  = some (Zo, ro)) : Met l yX1_giveToGreatestRemainder wsX1_giveToGreatestRemainder ({ frames := 2, cells := 0, slots := 0, locals := 40 }) (va_Pc [.ref (aa 30)] (pr_ dC dI (bw q aa Z) (bty q) sz)) (va_Qv (fun (_ : Unit) => True) (fun (_ : Unit) t => po_ dC dI (bw q aa Zo) (bty q) (va_A (bw q aa Z) sz) t) (va_A (bw q aa Z) sz)) 0 0 (va_A (bw q aa Z) sz) := by
  refine Met.ofW (cc := cX1_giveToGreatestRemainder) (maxL := 3) (ret := none) (by decide) rfl ?_
  intro p e s m args below meth c s₁ B hml hv
  obtain ⟨hargs, hsz, hP, hK, hD0⟩ := hv
  have hx := B.exec
  have hb := B.bytes
  have hr := B.returns
  have hts := atoms_spec (ws := wsX1_giveToGreatestRemainder) B.pre
  have hown : s.vm.findClass RX1 = some m.cls := findClass_of_methodNamed B.named
  have hlocks := B.notSynchronized
  subst hsz
  have hD := hD0.self (sz := s.heap.size)
  generalize hAe : va_A (bw q aa Z) s.heap.size = A at hD ⊢
  have hA : ∀ x : Nat, s.heap.size ≤ x → A x := fun x h => by rw [← hAe]; exact Or.inr h
  have hS : va_S A s.heap s.heap [] := va_S.rf
  have hinX1 : ∀ w ∈ u_ws RX1 TX1 9, w ∈ wsX1_giveToGreatestRemainder := by decide +kernel
  have hl := lv_entry ([.ref (aa 30)]) (n := 3) (Nat.le_of_ble_eq_true rfl)
  refine w_ent hargs ?_
  rw [lg_entry_eq]
  generalize (lg_sl ([.ref (aa 30)]) ++ List.replicate (3 - (lg_sl ([.ref (aa 30)])).length) Slot.unset).toArray = ls at hl ⊢
  have hl : lv_has ls 3 [(0, .ref (aa 30))] := hl
  unfold F_X1_giveToGreatestRemainder at hF
  refine w_go (fun Q hQ => ?_)
  refine lv_iconst (v := (-1)) hx hb dX1_giveToGreatestRemainder_0 (by decide) ?_
  refine lv_istore_n (lv' := [(1, .int (-1)), (0, .ref (aa 30))]) hx hb dX1_giveToGreatestRemainder_1 rfl hl (by decide) rfl (fun ls hl => ?_)
  refine lv_iconst (v := 0) hx hb dX1_giveToGreatestRemainder_2 (by decide) ?_
  refine lv_istore_n (lv' := [(2, .int 0), (1, .int (-1)), (0, .ref (aa 30))]) hx hb dX1_giveToGreatestRemainder_3 rfl hl (by decide) rfl (fun ls hl => ?_)
  have Jx4 : ∀ (w1 : Int32) (H : Heap) (locs : List Loc) (ls : Array Slot), (F_X1_giveToGreatestRemainder_x4 Z) w1 = some (Zo, ro) → va_P (dC, dI) vwCl (bw q aa Z) H → va_D A (bw q aa Z) → va_S A s.heap H locs → lv_has ls 3 [(1, .int w1), (0, .ref (aa 30))] → W p l e (headSpec wsX1_giveToGreatestRemainder ({ frames := 2, cells := 0, slots := 0, locals := 40 } : Room)).room s m args below meth c H locs 0 0 Q (F0 m 77 ls []) := by
    intro w1 H locs ls hF hP hD hS hl
    unfold F_X1_giveToGreatestRemainder_x4 at hF
    refine lv_iload_n hx hb dX1_giveToGreatestRemainder_77 rfl (lv_at hl 0 rfl) ?_
    refine lv_iconst (v := (-1)) hx hb dX1_giveToGreatestRemainder_78 (by decide) ?_
    refine lv_icmp_eq (tgt := 99) hx hb dX1_giveToGreatestRemainder_79 (by decide) (fun hc2 => ?_) (fun hc2 => ?_)
    · have hF := br_pos hc2 hF
      obtain ⟨e8, e9⟩ := some2 hF
      rw [← e8] at hP hD
      subst hQ
      exact W.vret hx hb hr (fun t ht hW => ⟨⟨(), rfl, trivial, po_mk ht hW hP hK hD⟩, hS.F ht⟩) hS.2.2 dX1_giveToGreatestRemainder_99
    · have hF := br_neg hc2 hF
      refine lv_aload_n hx hb dX1_giveToGreatestRemainder_82 rfl (lv_at hl 1 rfl) ?_
      refine va_get (D := (dC, dI)) (ci := 3) (v := .ref (aa 36)) (C := RX1) (T := TX1) (N := 9) hx hb hts hinX1 hown hK hP 30 (bw_at (i := 30) (by decide) rfl) rfl 6 (by decide) (hts (.fieldLink RX1 28 "BallotLoom$Parties" "seats" "[I") (by decide +kernel)) (fun _ h9 => h9) rfl dX1_giveToGreatestRemainder_83 ?_
      refine lv_iload_n hx hb dX1_giveToGreatestRemainder_86 rfl (lv_at hl 0 rfl) ?_
      refine lv_dup2_11 hx hb dX1_giveToGreatestRemainder_87 rfl rfl ?_
      obtain ⟨hg3, hF⟩ := gd_some hF
      refine va_iald hx hb hK hP 36 0 (at_i (by decide) (fun _ _ => rfl)) rfl hg3 dX1_giveToGreatestRemainder_88 ?_
      refine lv_topi (fun y4 ey4 => ?_)
      have hF := bv_at ey4 hF
      refine lv_iconst (v := 1) hx hb dX1_giveToGreatestRemainder_89 (by decide) ?_
      refine lv_iadd hx hb dX1_giveToGreatestRemainder_90 ?_
      refine lv_topi (fun y5 ey5 => ?_)
      have hF := bv_at ey5 hF
      obtain ⟨Z6, eZ6, hF⟩ := bv_some hF
      refine va_iast hx hb hK hP hD hS 36 0 (at_i (by decide) (fun _ _ => rfl)) rfl hg3 dX1_giveToGreatestRemainder_91 (fun H locs hP hD hS => ?_)
      have eW := wz_i (q := q) (aa := aa) (i := 36) (fun _ _ => rfl) eZ6
      have hP : va_P (dC, dI) vwCl (bw q aa Z6) H := eW ▸ hP
      have hD : va_D A (bw q aa Z6) := eW ▸ hD
      clear eW
      refine lv_aload_n hx hb dX1_giveToGreatestRemainder_92 rfl (lv_at hl 1 rfl) ?_
      refine va_get (D := (dC, dI)) (ci := 3) (v := .ref (aa 38)) (C := RX1) (T := TX1) (N := 9) hx hb hts hinX1 hown hK hP 30 (bw_at (i := 30) (by decide) rfl) rfl 8 (by decide) (hts (.fieldLink RX1 34 "BallotLoom$Parties" "remainders" "[I") (by decide +kernel)) (fun _ h9 => h9) rfl dX1_giveToGreatestRemainder_93 ?_
      refine lv_iload_n hx hb dX1_giveToGreatestRemainder_96 rfl (lv_at hl 0 rfl) ?_
      refine lv_iconst (v := (-1)) hx hb dX1_giveToGreatestRemainder_97 (by decide) ?_
      obtain ⟨Z7, eZ7, hF⟩ := bv_some hF
      refine va_iast hx hb hK hP hD hS 38 0 (at_i (by decide) (fun _ _ => rfl)) rfl hg3 dX1_giveToGreatestRemainder_98 (fun H locs hP hD hS => ?_)
      have eW := wz_i (q := q) (aa := aa) (i := 38) (fun _ _ => rfl) eZ7
      have hP : va_P (dC, dI) vwCl (bw q aa Z7) H := eW ▸ hP
      have hD : va_D A (bw q aa Z7) := eW ▸ hD
      clear eW
      obtain ⟨e8, e9⟩ := some2 hF
      rw [← e8] at hP hD
      subst hQ
      exact W.vret hx hb hr (fun t ht hW => ⟨⟨(), rfl, trivial, po_mk ht hW hP hK hD⟩, hS.F ht⟩) hS.2.2 dX1_giveToGreatestRemainder_99
  have L4 : ∀ (n4 : Nat) (u8 : Int32) (u9 : Int32) (H : Heap) (locs : List Loc) (ls : Array Slot), F_X1_giveToGreatestRemainder_l4 Z (F_X1_giveToGreatestRemainder_x4 Z) n4 u8 u9 = some (Zo, ro) → va_P (dC, dI) vwCl (bw q aa Z) H → va_D A (bw q aa Z) → va_S A s.heap H locs → lv_has ls 3 [(2, .int u9), (1, .int u8), (0, .ref (aa 30))] → W p l e (headSpec wsX1_giveToGreatestRemainder ({ frames := 2, cells := 0, slots := 0, locals := 40 } : Room)).room s m args below meth c H locs 0 0 Q (F0 m 4 ls []) := by
    intro n4
    induction n4 with
    | zero =>
      intro u8 u9 H locs ls hF
      rw [F_X1_giveToGreatestRemainder_l4] at hF
      cases hF
    | succ n4 IH4 =>
      intro u8 u9 H locs ls hF hP hD hS hl
      rw [F_X1_giveToGreatestRemainder_l4] at hF
      refine lv_iload_n hx hb dX1_giveToGreatestRemainder_4 rfl (lv_at hl 0 rfl) ?_
      refine lv_iconst (v := 4) hx hb dX1_giveToGreatestRemainder_5 (by decide) ?_
      refine lv_icmp_ge (tgt := 77) hx hb dX1_giveToGreatestRemainder_6 (by decide) (fun hc10 => ?_) (fun hc10 => ?_)
      · have hF := br_pos hc10 hF
        exact Jx4 u8 _ _ _ hF hP hD hS (lv_sub hl [1, 2] rfl)
      · have hF := br_neg hc10 hF
        refine lv_aload_n hx hb dX1_giveToGreatestRemainder_9 rfl (lv_at hl 2 rfl) ?_
        refine va_get (D := (dC, dI)) (ci := 3) (v := .ref (aa 38)) (C := RX1) (T := TX1) (N := 9) hx hb hts hinX1 hown hK hP 30 (bw_at (i := 30) (by decide) rfl) rfl 8 (by decide) (hts (.fieldLink RX1 34 "BallotLoom$Parties" "remainders" "[I") (by decide +kernel)) (fun _ h9 => h9) rfl dX1_giveToGreatestRemainder_10 ?_
        refine lv_iload_n hx hb dX1_giveToGreatestRemainder_13 rfl (lv_at hl 0 rfl) ?_
        obtain ⟨hg11, hF⟩ := gd_some hF
        refine va_iald hx hb hK hP 38 0 (at_i (by decide) (fun _ _ => rfl)) rfl hg11 dX1_giveToGreatestRemainder_14 ?_
        refine lv_topi (fun y12 ey12 => ?_)
        have hF := bv_at ey12 hF
        refine lv_iconst (v := (-1)) hx hb dX1_giveToGreatestRemainder_15 (by decide) ?_
        refine lv_icmp_eq (tgt := 71) hx hb dX1_giveToGreatestRemainder_16 (by decide) (fun hc13 => ?_) (fun hc13 => ?_)
        · have hF := br_pos hc13 hF
          refine lv_iinc (k := 0) (v := (u9 + (1 : Int32))) (lv' := [(2, .int (u9 + (1 : Int32))), (1, .int u8), (0, .ref (aa 30))]) hx hb dX1_giveToGreatestRemainder_71 hl rfl (ii_ _ _ _ (by decide)) (by decide) rfl (fun ls hl => ?_)
          refine lv_goto (tgt := 4) hx hb dX1_giveToGreatestRemainder_74 (by decide) ?_
          exact IH4 u8 (u9 + (1 : Int32)) _ _ _ hF hP hD hS (lv_sub hl [0, 1, 2] rfl)
        · have hF := br_neg hc13 hF
          refine lv_iload_n hx hb dX1_giveToGreatestRemainder_19 rfl (lv_at hl 1 rfl) ?_
          refine lv_iconst (v := (-1)) hx hb dX1_giveToGreatestRemainder_20 (by decide) ?_
          refine lv_icmp_eq (tgt := 69) hx hb dX1_giveToGreatestRemainder_21 (by decide) (fun hc14 => ?_) (fun hc14 => ?_)
          · have hF := br_pos hc14 hF
            refine lv_iload_n hx hb dX1_giveToGreatestRemainder_69 rfl (lv_at hl 0 rfl) ?_
            refine lv_istore_n (lv' := [(1, .int u9), (2, .int u9), (0, .ref (aa 30))]) hx hb dX1_giveToGreatestRemainder_70 rfl hl (by decide) rfl (fun ls hl => ?_)
            refine lv_iinc (k := 1) (v := (u9 + (1 : Int32))) (lv' := [(2, .int (u9 + (1 : Int32))), (1, .int u9), (0, .ref (aa 30))]) hx hb dX1_giveToGreatestRemainder_71 hl rfl (ii_ _ _ _ (by decide)) (by decide) rfl (fun ls hl => ?_)
            refine lv_goto (tgt := 4) hx hb dX1_giveToGreatestRemainder_74 (by decide) ?_
            exact IH4 u9 (u9 + (1 : Int32)) _ _ _ hF hP hD hS (lv_sub hl [0, 1, 2] rfl)
          · have hF := br_neg hc14 hF
            refine lv_aload_n hx hb dX1_giveToGreatestRemainder_24 rfl (lv_at hl 2 rfl) ?_
            refine va_get (D := (dC, dI)) (ci := 3) (v := .ref (aa 38)) (C := RX1) (T := TX1) (N := 9) hx hb hts hinX1 hown hK hP 30 (bw_at (i := 30) (by decide) rfl) rfl 8 (by decide) (hts (.fieldLink RX1 34 "BallotLoom$Parties" "remainders" "[I") (by decide +kernel)) (fun _ h9 => h9) rfl dX1_giveToGreatestRemainder_25 ?_
            refine lv_iload_n hx hb dX1_giveToGreatestRemainder_28 rfl (lv_at hl 0 rfl) ?_
            refine va_iald hx hb hK hP 38 0 (at_i (by decide) (fun _ _ => rfl)) rfl hg11 dX1_giveToGreatestRemainder_29 ?_
            refine lv_topi (fun y15 ey15 => ?_)
            have hF := bv_at ey15 hF
            refine lv_aload_n hx hb dX1_giveToGreatestRemainder_30 rfl (lv_at hl 2 rfl) ?_
            refine va_get (D := (dC, dI)) (ci := 3) (v := .ref (aa 38)) (C := RX1) (T := TX1) (N := 9) hx hb hts hinX1 hown hK hP 30 (bw_at (i := 30) (by decide) rfl) rfl 8 (by decide) (hts (.fieldLink RX1 34 "BallotLoom$Parties" "remainders" "[I") (by decide +kernel)) (fun _ h9 => h9) rfl dX1_giveToGreatestRemainder_31 ?_
            refine lv_iload_n hx hb dX1_giveToGreatestRemainder_34 rfl (lv_at hl 1 rfl) ?_
            obtain ⟨hg16, hF⟩ := gd_some hF
            refine va_iald hx hb hK hP 38 0 (at_i (by decide) (fun _ _ => rfl)) rfl hg16 dX1_giveToGreatestRemainder_35 ?_
            refine lv_topi (fun y17 ey17 => ?_)
            have hF := bv_at ey17 hF
            refine lv_icmp_gt (tgt := 69) hx hb dX1_giveToGreatestRemainder_36 (by decide) (fun hc18 => ?_) (fun hc18 => ?_)
            · have hF := br_pos hc18 hF
              refine lv_iload_n hx hb dX1_giveToGreatestRemainder_69 rfl (lv_at hl 0 rfl) ?_
              refine lv_istore_n (lv' := [(1, .int u9), (2, .int u9), (0, .ref (aa 30))]) hx hb dX1_giveToGreatestRemainder_70 rfl hl (by decide) rfl (fun ls hl => ?_)
              refine lv_iinc (k := 1) (v := (u9 + (1 : Int32))) (lv' := [(2, .int (u9 + (1 : Int32))), (1, .int u9), (0, .ref (aa 30))]) hx hb dX1_giveToGreatestRemainder_71 hl rfl (ii_ _ _ _ (by decide)) (by decide) rfl (fun ls hl => ?_)
              refine lv_goto (tgt := 4) hx hb dX1_giveToGreatestRemainder_74 (by decide) ?_
              exact IH4 u9 (u9 + (1 : Int32)) _ _ _ hF hP hD hS (lv_sub hl [0, 1, 2] rfl)
            · have hF := br_neg hc18 hF
              refine lv_aload_n hx hb dX1_giveToGreatestRemainder_39 rfl (lv_at hl 2 rfl) ?_
              refine va_get (D := (dC, dI)) (ci := 3) (v := .ref (aa 38)) (C := RX1) (T := TX1) (N := 9) hx hb hts hinX1 hown hK hP 30 (bw_at (i := 30) (by decide) rfl) rfl 8 (by decide) (hts (.fieldLink RX1 34 "BallotLoom$Parties" "remainders" "[I") (by decide +kernel)) (fun _ h9 => h9) rfl dX1_giveToGreatestRemainder_40 ?_
              refine lv_iload_n hx hb dX1_giveToGreatestRemainder_43 rfl (lv_at hl 0 rfl) ?_
              refine va_iald hx hb hK hP 38 0 (at_i (by decide) (fun _ _ => rfl)) rfl hg11 dX1_giveToGreatestRemainder_44 ?_
              refine lv_topi (fun y19 ey19 => ?_)
              have hF := bv_at ey19 hF
              refine lv_aload_n hx hb dX1_giveToGreatestRemainder_45 rfl (lv_at hl 2 rfl) ?_
              refine va_get (D := (dC, dI)) (ci := 3) (v := .ref (aa 38)) (C := RX1) (T := TX1) (N := 9) hx hb hts hinX1 hown hK hP 30 (bw_at (i := 30) (by decide) rfl) rfl 8 (by decide) (hts (.fieldLink RX1 34 "BallotLoom$Parties" "remainders" "[I") (by decide +kernel)) (fun _ h9 => h9) rfl dX1_giveToGreatestRemainder_46 ?_
              refine lv_iload_n hx hb dX1_giveToGreatestRemainder_49 rfl (lv_at hl 1 rfl) ?_
              refine va_iald hx hb hK hP 38 0 (at_i (by decide) (fun _ _ => rfl)) rfl hg16 dX1_giveToGreatestRemainder_50 ?_
              refine lv_topi (fun y20 ey20 => ?_)
              have hF := bv_at ey20 hF
              refine lv_icmp_ne (tgt := 71) hx hb dX1_giveToGreatestRemainder_51 (by decide) (fun hc21 => ?_) (fun hc21 => ?_)
              · have hF := br_neg hc21 hF
                refine lv_iinc (k := 0) (v := (u9 + (1 : Int32))) (lv' := [(2, .int (u9 + (1 : Int32))), (1, .int u8), (0, .ref (aa 30))]) hx hb dX1_giveToGreatestRemainder_71 hl rfl (ii_ _ _ _ (by decide)) (by decide) rfl (fun ls hl => ?_)
                refine lv_goto (tgt := 4) hx hb dX1_giveToGreatestRemainder_74 (by decide) ?_
                exact IH4 u8 (u9 + (1 : Int32)) _ _ _ hF hP hD hS (lv_sub hl [0, 1, 2] rfl)
              · have hF := br_pos hc21 hF
                refine lv_aload_n hx hb dX1_giveToGreatestRemainder_54 rfl (lv_at hl 2 rfl) ?_
                refine va_get (D := (dC, dI)) (ci := 3) (v := .ref (aa 31)) (C := RX1) (T := TX1) (N := 9) hx hb hts hinX1 hown hK hP 30 (bw_at (i := 30) (by decide) rfl) rfl 0 (by decide) (hts (.fieldLink RX1 9 "BallotLoom$Parties" "votes" "[I") (by decide +kernel)) (fun _ h9 => h9) rfl dX1_giveToGreatestRemainder_55 ?_
                refine lv_iload_n hx hb dX1_giveToGreatestRemainder_58 rfl (lv_at hl 0 rfl) ?_
                refine va_iald hx hb hK hP 31 0 (at_i (by decide) (fun _ _ => rfl)) rfl hg11 dX1_giveToGreatestRemainder_59 ?_
                refine lv_topi (fun y22 ey22 => ?_)
                have hF := bv_at ey22 hF
                refine lv_aload_n hx hb dX1_giveToGreatestRemainder_60 rfl (lv_at hl 2 rfl) ?_
                refine va_get (D := (dC, dI)) (ci := 3) (v := .ref (aa 31)) (C := RX1) (T := TX1) (N := 9) hx hb hts hinX1 hown hK hP 30 (bw_at (i := 30) (by decide) rfl) rfl 0 (by decide) (hts (.fieldLink RX1 9 "BallotLoom$Parties" "votes" "[I") (by decide +kernel)) (fun _ h9 => h9) rfl dX1_giveToGreatestRemainder_61 ?_
                refine lv_iload_n hx hb dX1_giveToGreatestRemainder_64 rfl (lv_at hl 1 rfl) ?_
                refine va_iald hx hb hK hP 31 0 (at_i (by decide) (fun _ _ => rfl)) rfl hg16 dX1_giveToGreatestRemainder_65 ?_
                refine lv_topi (fun y23 ey23 => ?_)
                have hF := bv_at ey23 hF
                refine lv_icmp_le (tgt := 71) hx hb dX1_giveToGreatestRemainder_66 (by decide) (fun hc24 => ?_) (fun hc24 => ?_)
                · have hF := br_pos hc24 hF
                  refine lv_iinc (k := 0) (v := (u9 + (1 : Int32))) (lv' := [(2, .int (u9 + (1 : Int32))), (1, .int u8), (0, .ref (aa 30))]) hx hb dX1_giveToGreatestRemainder_71 hl rfl (ii_ _ _ _ (by decide)) (by decide) rfl (fun ls hl => ?_)
                  refine lv_goto (tgt := 4) hx hb dX1_giveToGreatestRemainder_74 (by decide) ?_
                  exact IH4 u8 (u9 + (1 : Int32)) _ _ _ hF hP hD hS (lv_sub hl [0, 1, 2] rfl)
                · have hF := br_neg hc24 hF
                  refine lv_iload_n hx hb dX1_giveToGreatestRemainder_69 rfl (lv_at hl 0 rfl) ?_
                  refine lv_istore_n (lv' := [(1, .int u9), (2, .int u9), (0, .ref (aa 30))]) hx hb dX1_giveToGreatestRemainder_70 rfl hl (by decide) rfl (fun ls hl => ?_)
                  refine lv_iinc (k := 1) (v := (u9 + (1 : Int32))) (lv' := [(2, .int (u9 + (1 : Int32))), (1, .int u9), (0, .ref (aa 30))]) hx hb dX1_giveToGreatestRemainder_71 hl rfl (ii_ _ _ _ (by decide)) (by decide) rfl (fun ls hl => ?_)
                  refine lv_goto (tgt := 4) hx hb dX1_giveToGreatestRemainder_74 (by decide) ?_
                  exact IH4 u9 (u9 + (1 : Int32)) _ _ _ hF hP hD hS (lv_sub hl [0, 1, 2] rfl)
  exact L4 100 ((-1) : Int32) (0 : Int32) _ _ _ hF hP hD hS (lv_sub hl [0, 1, 2] rfl)

noncomputable def F_X1_shareByRemainders_x130 (Z5 : Mem) : Option (Mem × Unit) :=
  some (Z5, ())

noncomputable def F_X1_shareByRemainders_l130 (w3 : Int32) (K_130 : Mem → Option (Mem × Unit)) : Nat → Mem → Int32 → Option (Mem × Unit)
  | 0, _, _ => none
  | n130 + 1, Z7, u6 =>
  br (w3 ≤ u6) (K_130 Z7) (cal (F_X1_giveToGreatestRemainder Z7 ) fun Z10 _ => (F_X1_shareByRemainders_l130 w3 K_130 n130) Z10 (u6 + (1 : Int32)))

noncomputable def F_X1_shareByRemainders_x46 (Z4 : Mem) (w3 : Int32) : Option (Mem × Unit) :=
  F_X1_shareByRemainders_l130 w3 F_X1_shareByRemainders_x130 bigN Z4 (0 : Int32)

noncomputable def F_X1_shareByRemainders_j110 (u12 : Int32) (u13 : Int32) (B_46 : Mem → Int32 → Int32 → Option (Mem × Unit)) (Z23 : Mem) (v27 : Int32) : Option (Mem × Unit) :=
  bv (si Z23 38 (ix u13) v27) fun Z28 => bv (Z28.1 36 (ix u13)) fun y29 => bv (u12 - y29) fun y30 => B_46 Z28 y30 (u13 + (1 : Int32))

noncomputable def F_X1_shareByRemainders_j74 (w1 : Int32) (Z14 : Mem) (u12 : Int32) (u13 : Int32) (B_46 : Mem → Int32 → Int32 → Option (Mem × Unit)) (v19 : Int32) : Option (Mem × Unit) :=
  gd (¬ w1 = 0) <| bv (v19 / w1) fun y21 => gd (¬ (u13 < 0 ∨ 4 ≤ ix u13)) <| bv (si Z14 36 (ix u13) y21) fun Z23 => calp (F_X1_takesPart Z23 u13) fun rr26 => br (rr26 = (0 : Int32)) ((F_X1_shareByRemainders_j110 u12 u13 B_46 Z23) ((-1) : Int32)) (gd (¬ w1 = 0) <| bv (v19 - v19 / w1 * w1) fun y33 => (F_X1_shareByRemainders_j110 u12 u13 B_46 Z23) y33)

noncomputable def F_X1_shareByRemainders_l46 (xa : Int32) (w1 : Int32) (K_46 : Mem → Int32 → Option (Mem × Unit)) : Nat → Mem → Int32 → Int32 → Option (Mem × Unit)
  | 0, _, _, _ => none
  | n46 + 1, Z14, u12, u13 =>
  br ((4 : Int32) ≤ u13) (K_46 Z14 u12) (calp (F_X1_takesPart Z14 u13) fun rr18 => br (rr18 = (0 : Int32)) ((F_X1_shareByRemainders_j74 w1 Z14 u12 u13 (F_X1_shareByRemainders_l46 xa w1 K_46 n46)) (0 : Int32)) (gd (¬ (u13 < 0 ∨ 4 ≤ ix u13)) <| bv (Z14.1 31 (ix u13)) fun y36 => bv (xa * y36) fun y37 => (F_X1_shareByRemainders_j74 w1 Z14 u12 u13 (F_X1_shareByRemainders_l46 xa w1 K_46 n46)) y37))

noncomputable def F_X1_shareByRemainders_x4 (Z : Mem) (xa : Int32) (w1 : Int32) : Option (Mem × Unit) :=
  br (w1 = (0 : Int32)) (some (Z, ())) (F_X1_shareByRemainders_l46 xa w1 F_X1_shareByRemainders_x46 100 Z xa (0 : Int32))

noncomputable def F_X1_shareByRemainders_l4 (Z : Mem) (K_4 : Int32 → Option (Mem × Unit)) : Nat → Int32 → Int32 → Option (Mem × Unit)
  | 0, _, _ => none
  | n4 + 1, u38, u39 =>
  br ((4 : Int32) ≤ u39) (K_4 u38) (calp (F_X1_takesPart Z u39) fun rr43 => br (rr43 = (0 : Int32)) (bv (u38 + (0 : Int32)) fun y45 => (F_X1_shareByRemainders_l4 Z K_4 n4) y45 (u39 + (1 : Int32))) (gd (¬ (u39 < 0 ∨ 4 ≤ ix u39)) <| bv (Z.1 31 (ix u39)) fun y47 => bv (u38 + y47) fun y48 => (F_X1_shareByRemainders_l4 Z K_4 n4) y48 (u39 + (1 : Int32))))

noncomputable def F_X1_shareByRemainders (Z : Mem) (xa : Int32) : Option (Mem × Unit) :=
  F_X1_shareByRemainders_l4 Z (F_X1_shareByRemainders_x4 Z xa) 100 (0 : Int32) (0 : Int32)

set_option maxHeartbeats 4000000 in
set_option maxRecDepth 100000 in
theorem c_X1_shareByRemainders (l : Launch) (dC : Nat → ClassId) (dI : Nat → Nat → Nat) (q : Nat → ClassId) (aa : Nat → Nat) (Z : Mem) (xa : Int32)  (sz : Nat) (Zo : Mem) (ro : Unit) (hF : F_X1_shareByRemainders Z xa = some (Zo, ro)) : Met l yX1_shareByRemainders wsX1_shareByRemainders ({ frames := 3, cells := 0, slots := 0, locals := 62 }) (va_Pc [.ref (aa 30), .int xa] (pr_ dC dI (bw q aa Z) (bty q) sz)) (va_Qv (fun (_ : Unit) => True) (fun (_ : Unit) t => po_ dC dI (bw q aa Zo) (bty q) (va_A (bw q aa Z) sz) t) (va_A (bw q aa Z) sz)) 0 0 (va_A (bw q aa Z) sz) := by
  refine Met.ofW (cc := cX1_shareByRemainders) (maxL := 6) (ret := none) (by decide) rfl ?_
  intro p e s m args below meth c s₁ B hml hv
  obtain ⟨hargs, hsz, hP, hK, hD0⟩ := hv
  have hx := B.exec
  have hb := B.bytes
  have hr := B.returns
  have hts := atoms_spec (ws := wsX1_shareByRemainders) B.pre
  have hown : s.vm.findClass RX1 = some m.cls := findClass_of_methodNamed B.named
  have hlocks := B.notSynchronized
  subst hsz
  have hD := hD0.self (sz := s.heap.size)
  generalize hAe : va_A (bw q aa Z) s.heap.size = A at hD ⊢
  have hA : ∀ x : Nat, s.heap.size ≤ x → A x := fun x h => by rw [← hAe]; exact Or.inr h
  have hS : va_S A s.heap s.heap [] := va_S.rf
  have hinX1 : ∀ w ∈ u_ws RX1 TX1 9, w ∈ wsX1_shareByRemainders := by decide +kernel
  have hl := lv_entry ([.ref (aa 30), .int xa]) (n := 6) (Nat.le_of_ble_eq_true rfl)
  refine w_ent hargs ?_
  rw [lg_entry_eq]
  generalize (lg_sl ([.ref (aa 30), .int xa]) ++ List.replicate (6 - (lg_sl ([.ref (aa 30), .int xa])).length) Slot.unset).toArray = ls at hl ⊢
  have hl : lv_has ls 6 [(0, .ref (aa 30)), (1, .int xa)] := hl
  unfold F_X1_shareByRemainders at hF
  refine w_go (fun Q hQ => ?_)
  refine lv_iconst (v := 0) hx hb dX1_shareByRemainders_0 (by decide) ?_
  refine lv_istore_n (lv' := [(2, .int 0), (0, .ref (aa 30)), (1, .int xa)]) hx hb dX1_shareByRemainders_1 rfl hl (by decide) rfl (fun ls hl => ?_)
  refine lv_iconst (v := 0) hx hb dX1_shareByRemainders_2 (by decide) ?_
  refine lv_istore_n (lv' := [(3, .int 0), (2, .int 0), (0, .ref (aa 30)), (1, .int xa)]) hx hb dX1_shareByRemainders_3 rfl hl (by decide) rfl (fun ls hl => ?_)
  have Jx4 : ∀ (w1 : Int32) (H : Heap) (locs : List Loc) (ls : Array Slot), (F_X1_shareByRemainders_x4 Z xa) w1 = some (Zo, ro) → va_P (dC, dI) vwCl (bw q aa Z) H → va_D A (bw q aa Z) → va_S A s.heap H locs → lv_has ls 6 [(2, .int w1), (0, .ref (aa 30)), (1, .int xa)] → W p l e (headSpec wsX1_shareByRemainders ({ frames := 3, cells := 0, slots := 0, locals := 62 } : Room)).room s m args below meth c H locs 0 0 Q (F0 m 36 ls []) := by
    intro w1 H locs ls hF hP hD hS hl
    unfold F_X1_shareByRemainders_x4 at hF
    refine lv_iload_n hx hb dX1_shareByRemainders_36 rfl (lv_at hl 0 rfl) ?_
    refine lv_if_ne (tgt := 41) hx hb dX1_shareByRemainders_37 (by decide) (fun hc2 => ?_) (fun hc2 => ?_)
    · have hF := br_neg hc2 hF
      refine lv_iload_n hx hb dX1_shareByRemainders_41 rfl (lv_at hl 2 rfl) ?_
      refine lv_istore_n (lv' := [(3, .int xa), (2, .int w1), (0, .ref (aa 30)), (1, .int xa)]) hx hb dX1_shareByRemainders_42 rfl hl (by decide) rfl (fun ls hl => ?_)
      refine lv_iconst (v := 0) hx hb dX1_shareByRemainders_43 (by decide) ?_
      refine lv_istore (lv' := [(4, .int 0), (3, .int xa), (2, .int w1), (0, .ref (aa 30)), (1, .int xa)]) hx hb dX1_shareByRemainders_44 hl (by decide) rfl (fun ls hl => ?_)
      have Jx46 : ∀ (Z4 : Mem) (w3 : Int32) (H : Heap) (locs : List Loc) (ls : Array Slot), F_X1_shareByRemainders_x46 Z4 w3 = some (Zo, ro) → va_P (dC, dI) vwCl (bw q aa Z4) H → va_D A (bw q aa Z4) → va_S A s.heap H locs → lv_has ls 6 [(3, .int w3), (0, .ref (aa 30))] → W p l e (headSpec wsX1_shareByRemainders ({ frames := 3, cells := 0, slots := 0, locals := 62 } : Room)).room s m args below meth c H locs 0 0 Q (F0 m 127 ls []) := by
        intro Z4 w3 H locs ls hF hP hD hS hl
        unfold F_X1_shareByRemainders_x46 at hF
        refine lv_iconst (v := 0) hx hb dX1_shareByRemainders_127 (by decide) ?_
        refine lv_istore (lv' := [(4, .int 0), (3, .int w3), (0, .ref (aa 30))]) hx hb dX1_shareByRemainders_128 hl (by decide) rfl (fun ls hl => ?_)
        have Jx130 : ∀ (Z5 : Mem) (H : Heap) (locs : List Loc) (ls : Array Slot), F_X1_shareByRemainders_x130 Z5 = some (Zo, ro) → va_P (dC, dI) vwCl (bw q aa Z5) H → va_D A (bw q aa Z5) → va_S A s.heap H locs → lv_has ls 6 [] → W p l e (headSpec wsX1_shareByRemainders ({ frames := 3, cells := 0, slots := 0, locals := 62 } : Room)).room s m args below meth c H locs 0 0 Q (F0 m 146 ls []) := by
          intro Z5 H locs ls hF hP hD hS hl
          unfold F_X1_shareByRemainders_x130 at hF
          obtain ⟨e8, e9⟩ := some2 hF
          rw [← e8] at hP hD
          subst hQ
          exact W.vret hx hb hr (fun t ht hW => ⟨⟨(), rfl, trivial, po_mk ht hW hP hK hD⟩, hS.F ht⟩) hS.2.2 dX1_shareByRemainders_146
        have L130 : ∀ (n130 : Nat) (Z7 : Mem) (u6 : Int32) (H : Heap) (locs : List Loc) (ls : Array Slot), F_X1_shareByRemainders_l130 w3 F_X1_shareByRemainders_x130 n130 Z7 u6 = some (Zo, ro) → va_P (dC, dI) vwCl (bw q aa Z7) H → va_D A (bw q aa Z7) → va_S A s.heap H locs → lv_has ls 6 [(4, .int u6), (3, .int w3), (0, .ref (aa 30))] → W p l e (headSpec wsX1_shareByRemainders ({ frames := 3, cells := 0, slots := 0, locals := 62 } : Room)).room s m args below meth c H locs 0 0 Q (F0 m 130 ls []) := by
          intro n130
          induction n130 with
          | zero =>
            intro Z7 u6 H locs ls hF
            rw [F_X1_shareByRemainders_l130] at hF
            cases hF
          | succ n130 IH130 =>
            intro Z7 u6 H locs ls hF hP hD hS hl
            rw [F_X1_shareByRemainders_l130] at hF
            refine lv_iload hx hb dX1_shareByRemainders_130 (lv_at hl 0 rfl) ?_
            refine lv_iload_n hx hb dX1_shareByRemainders_132 rfl (lv_at hl 1 rfl) ?_
            refine lv_icmp_ge (tgt := 146) hx hb dX1_shareByRemainders_133 (by decide) (fun hc8 => ?_) (fun hc8 => ?_)
            · have hF := br_pos hc8 hF
              exact Jx130 Z7 _ _ _ hF hP hD hS (lv_sub hl [] rfl)
            · have hF := br_neg hc8 hF
              refine lv_aload_n hx hb dX1_shareByRemainders_136 rfl (lv_at hl 2 rfl) ?_
              obtain ⟨Z10, _, hC9, hF⟩ := cal_some hF
              have hFc := b_free (ws := bw q aa Z7) hD hS hA
              refine va_callv (va_runV (As := []) (rest := []) ⟨hx, hb, hml, hown, hts⟩ (c_X1_giveToGreatestRemainder l dC dI q aa Z7   _ _ _  hC9) (cwV 0 hts gX1_shareByRemainders_X1_giveToGreatestRemainder rfl rfl rfl (by decide +kernel) ⟨Nat.le_of_ble_eq_true rfl, Nat.le_of_ble_eq_true rfl⟩) ⟨pr_blind, va_recv hK hP (ci := 3) (q0 := 30) rfl (bw_at (i := 30) (by decide) rfl), fun U hU hW => ⟨rfl, pr_mk hU hW hP hK hD⟩⟩ rfl rfl hl.1 rfl (lv_room (Nat.le_of_ble_eq_true rfl)) dX1_shareByRemainders_137 ⟨Nat.le_of_ble_eq_true rfl, Nat.le_of_ble_eq_true rfl⟩) hS (fun x _ h => hFc x h) hFc (fun u t H1 locs ht hvm hw hB hz1 hk1 hS => ?_)
              obtain ⟨hP, hK1, hD1⟩ := hB
              rw [ht] at hP
              have hD := hD1.weaken (fun _ q9 _ h9 => hFc q9.1 h9)
              clear hFc hD1 hK1 hvm hz1 hk1
              generalize H1 = H at hP hS ⊢
              refine W.widen (k := 0) (n := 0) (Nat.le_refl _) (Nat.le_refl _) ?_
              refine lv_iinc (k := 0) (v := (u6 + (1 : Int32))) (lv' := [(4, .int (u6 + (1 : Int32))), (3, .int w3), (0, .ref (aa 30))]) hx hb dX1_shareByRemainders_140 hl rfl (ii_ _ _ _ (by decide)) (by decide) rfl (fun ls hl => ?_)
              refine lv_goto (tgt := 130) hx hb dX1_shareByRemainders_143 (by decide) ?_
              exact IH130 Z10 (u6 + (1 : Int32)) _ _ _ hF hP hD hS (lv_sub hl [0, 1, 2] rfl)
        exact L130 bigN Z4 (0 : Int32) _ _ _ hF hP hD hS (lv_sub hl [0, 1, 2] rfl)
      have L46 : ∀ (n46 : Nat) (Z14 : Mem) (u12 : Int32) (u13 : Int32) (H : Heap) (locs : List Loc) (ls : Array Slot), F_X1_shareByRemainders_l46 xa w1 F_X1_shareByRemainders_x46 n46 Z14 u12 u13 = some (Zo, ro) → va_P (dC, dI) vwCl (bw q aa Z14) H → va_D A (bw q aa Z14) → va_S A s.heap H locs → lv_has ls 6 [(4, .int u13), (3, .int u12), (2, .int w1), (0, .ref (aa 30)), (1, .int xa)] → W p l e (headSpec wsX1_shareByRemainders ({ frames := 3, cells := 0, slots := 0, locals := 62 } : Room)).room s m args below meth c H locs 0 0 Q (F0 m 46 ls []) := by
        intro n46
        induction n46 with
        | zero =>
          intro Z14 u12 u13 H locs ls hF
          rw [F_X1_shareByRemainders_l46] at hF
          cases hF
        | succ n46 IH46 =>
          intro Z14 u12 u13 H locs ls hF hP hD hS hl
          rw [F_X1_shareByRemainders_l46] at hF
          refine lv_iload hx hb dX1_shareByRemainders_46 (lv_at hl 0 rfl) ?_
          refine lv_iconst (v := 4) hx hb dX1_shareByRemainders_48 (by decide) ?_
          refine lv_icmp_ge (tgt := 127) hx hb dX1_shareByRemainders_49 (by decide) (fun hc15 => ?_) (fun hc15 => ?_)
          · have hF := br_pos hc15 hF
            exact Jx46 Z14 u12 _ _ _ hF hP hD hS (lv_sub hl [1, 3] rfl)
          · have hF := br_neg hc15 hF
            refine lv_aload_n hx hb dX1_shareByRemainders_52 rfl (lv_at hl 3 rfl) ?_
            refine lv_iload hx hb dX1_shareByRemainders_53 (lv_at hl 0 rfl) ?_
            obtain ⟨r17, hC16, hF⟩ := calp_some hF
            have hFc := b_free (ws := bw q aa Z14) hD hS hA
            refine va_calli (va_runV (As := [.int u13]) (rest := []) ⟨hx, hb, hml, hown, hts⟩ (c_X1_takesPart l dC dI q aa Z14 u13  _ _  hC16) (cwV 1 hts gX1_shareByRemainders_X1_takesPart rfl rfl rfl (by decide +kernel) ⟨Nat.le_of_ble_eq_true rfl, Nat.le_of_ble_eq_true rfl⟩) ⟨pr_blind, va_recv hK hP (ci := 3) (q0 := 30) rfl (bw_at (i := 30) (by decide) rfl), fun U hU hW => ⟨rfl, pr_mk hU hW hP hK hD⟩⟩ rfl rfl hl.1 rfl (lv_room (Nat.le_of_ble_eq_true rfl)) dX1_shareByRemainders_55 ⟨Nat.le_of_ble_eq_true rfl, Nat.le_of_ble_eq_true rfl⟩) hS (fun x _ h => hFc x h) hFc (fun rr18 u t H1 locs ht hvm hw hB hz1 hk1 hS => ?_)
            obtain ⟨hP, hK1, hD1⟩ := hB
            rw [ht] at hP
            have hD := hD1.weaken (fun _ q9 _ h9 => hFc q9.1 h9)
            clear hFc hD1 hK1 hvm hz1 hk1
            generalize H1 = H at hP hS ⊢
            refine W.widen (k := 0) (n := 0) (Nat.le_refl _) (Nat.le_refl _) ?_
            obtain rfl : rr18 = r17 := hw
            have Jj74 : ∀ (v19 : Int32) (H : Heap) (locs : List Loc) (ls : Array Slot), (F_X1_shareByRemainders_j74 w1 Z14 u12 u13 (F_X1_shareByRemainders_l46 xa w1 F_X1_shareByRemainders_x46 n46)) v19 = some (Zo, ro) → va_P (dC, dI) vwCl (bw q aa Z14) H → va_D A (bw q aa Z14) → va_S A s.heap H locs → lv_has ls 6 [(4, .int u13), (3, .int u12), (2, .int w1), (0, .ref (aa 30)), (1, .int xa)] → W p l e (headSpec wsX1_shareByRemainders ({ frames := 3, cells := 0, slots := 0, locals := 62 } : Room)).room s m args below meth c H locs 0 0 Q (F0 m 74 ls [.int v19]) := by
              intro v19 H locs ls hF hP hD hS hl
              unfold F_X1_shareByRemainders_j74 at hF
              refine lv_istore (lv' := [(5, .int v19), (4, .int u13), (3, .int u12), (2, .int w1), (0, .ref (aa 30)), (1, .int xa)]) hx hb dX1_shareByRemainders_74 hl (by decide) rfl (fun ls hl => ?_)
              refine lv_aload_n hx hb dX1_shareByRemainders_76 rfl (lv_at hl 4 rfl) ?_
              refine va_get (D := (dC, dI)) (ci := 3) (v := .ref (aa 36)) (C := RX1) (T := TX1) (N := 9) hx hb hts hinX1 hown hK hP 30 (bw_at (i := 30) (by decide) rfl) rfl 6 (by decide) (hts (.fieldLink RX1 28 "BallotLoom$Parties" "seats" "[I") (by decide +kernel)) (fun _ h9 => h9) rfl dX1_shareByRemainders_77 ?_
              refine lv_iload hx hb dX1_shareByRemainders_80 (lv_at hl 1 rfl) ?_
              refine lv_iload hx hb dX1_shareByRemainders_82 (lv_at hl 0 rfl) ?_
              refine lv_iload_n hx hb dX1_shareByRemainders_84 rfl (lv_at hl 3 rfl) ?_
              obtain ⟨hg20, hF⟩ := gd_some hF
              refine lv_idiv hx hb dX1_shareByRemainders_85 hg20 ?_
              refine lv_topi (fun y21 ey21 => ?_)
              have hF := bv_at ey21 hF
              obtain ⟨hg22, hF⟩ := gd_some hF
              obtain ⟨Z23, eZ23, hF⟩ := bv_some hF
              refine va_iast hx hb hK hP hD hS 36 0 (at_i (by decide) (fun _ _ => rfl)) rfl hg22 dX1_shareByRemainders_86 (fun H locs hP hD hS => ?_)
              have eW := wz_i (q := q) (aa := aa) (i := 36) (fun _ _ => rfl) eZ23
              have hP : va_P (dC, dI) vwCl (bw q aa Z23) H := eW ▸ hP
              have hD : va_D A (bw q aa Z23) := eW ▸ hD
              clear eW
              refine lv_aload_n hx hb dX1_shareByRemainders_87 rfl (lv_at hl 4 rfl) ?_
              refine va_get (D := (dC, dI)) (ci := 3) (v := .ref (aa 38)) (C := RX1) (T := TX1) (N := 9) hx hb hts hinX1 hown hK hP 30 (bw_at (i := 30) (by decide) rfl) rfl 8 (by decide) (hts (.fieldLink RX1 34 "BallotLoom$Parties" "remainders" "[I") (by decide +kernel)) (fun _ h9 => h9) rfl dX1_shareByRemainders_88 ?_
              refine lv_iload hx hb dX1_shareByRemainders_91 (lv_at hl 1 rfl) ?_
              refine lv_aload_n hx hb dX1_shareByRemainders_93 rfl (lv_at hl 4 rfl) ?_
              refine lv_iload hx hb dX1_shareByRemainders_94 (lv_at hl 1 rfl) ?_
              obtain ⟨r25, hC24, hF⟩ := calp_some hF
              have hFc := b_free (ws := bw q aa Z23) hD hS hA
              refine va_calli (va_runV (As := [.int u13]) (rest := [.int u13, .ref (aa 38)]) ⟨hx, hb, hml, hown, hts⟩ (c_X1_takesPart l dC dI q aa Z23 u13  _ _  hC24) (cwV 1 hts gX1_shareByRemainders_X1_takesPart rfl rfl rfl (by decide +kernel) ⟨Nat.le_of_ble_eq_true rfl, Nat.le_of_ble_eq_true rfl⟩) ⟨pr_blind, va_recv hK hP (ci := 3) (q0 := 30) rfl (bw_at (i := 30) (by decide) rfl), fun U hU hW => ⟨rfl, pr_mk hU hW hP hK hD⟩⟩ rfl rfl hl.1 rfl (lv_room (Nat.le_of_ble_eq_true rfl)) dX1_shareByRemainders_96 ⟨Nat.le_of_ble_eq_true rfl, Nat.le_of_ble_eq_true rfl⟩) hS (fun x _ h => hFc x h) hFc (fun rr26 u t H1 locs ht hvm hw hB hz1 hk1 hS => ?_)
              obtain ⟨hP, hK1, hD1⟩ := hB
              rw [ht] at hP
              have hD := hD1.weaken (fun _ q9 _ h9 => hFc q9.1 h9)
              clear hFc hD1 hK1 hvm hz1 hk1
              generalize H1 = H at hP hS ⊢
              refine W.widen (k := 0) (n := 0) (Nat.le_refl _) (Nat.le_refl _) ?_
              obtain rfl : rr26 = r25 := hw
              have Jj110 : ∀ (v27 : Int32) (H : Heap) (locs : List Loc) (ls : Array Slot), (F_X1_shareByRemainders_j110 u12 u13 (F_X1_shareByRemainders_l46 xa w1 F_X1_shareByRemainders_x46 n46) Z23) v27 = some (Zo, ro) → va_P (dC, dI) vwCl (bw q aa Z23) H → va_D A (bw q aa Z23) → va_S A s.heap H locs → lv_has ls 6 [(4, .int u13), (3, .int u12), (2, .int w1), (0, .ref (aa 30)), (1, .int xa)] → W p l e (headSpec wsX1_shareByRemainders ({ frames := 3, cells := 0, slots := 0, locals := 62 } : Room)).room s m args below meth c H locs 0 0 Q (F0 m 110 ls [.int v27, .int u13, .ref (aa 38)]) := by
                intro v27 H locs ls hF hP hD hS hl
                unfold F_X1_shareByRemainders_j110 at hF
                obtain ⟨Z28, eZ28, hF⟩ := bv_some hF
                refine va_iast hx hb hK hP hD hS 38 0 (at_i (by decide) (fun _ _ => rfl)) rfl hg22 dX1_shareByRemainders_110 (fun H locs hP hD hS => ?_)
                have eW := wz_i (q := q) (aa := aa) (i := 38) (fun _ _ => rfl) eZ28
                have hP : va_P (dC, dI) vwCl (bw q aa Z28) H := eW ▸ hP
                have hD : va_D A (bw q aa Z28) := eW ▸ hD
                clear eW
                refine lv_iload_n hx hb dX1_shareByRemainders_111 rfl (lv_at hl 1 rfl) ?_
                refine lv_aload_n hx hb dX1_shareByRemainders_112 rfl (lv_at hl 3 rfl) ?_
                refine va_get (D := (dC, dI)) (ci := 3) (v := .ref (aa 36)) (C := RX1) (T := TX1) (N := 9) hx hb hts hinX1 hown hK hP 30 (bw_at (i := 30) (by decide) rfl) rfl 6 (by decide) (hts (.fieldLink RX1 28 "BallotLoom$Parties" "seats" "[I") (by decide +kernel)) (fun _ h9 => h9) rfl dX1_shareByRemainders_113 ?_
                refine lv_iload hx hb dX1_shareByRemainders_116 (lv_at hl 0 rfl) ?_
                refine va_iald hx hb hK hP 36 0 (at_i (by decide) (fun _ _ => rfl)) rfl hg22 dX1_shareByRemainders_118 ?_
                refine lv_topi (fun y29 ey29 => ?_)
                have hF := bv_at ey29 hF
                refine lv_isub hx hb dX1_shareByRemainders_119 ?_
                refine lv_topi (fun y30 ey30 => ?_)
                have hF := bv_at ey30 hF
                refine lv_istore_n (lv' := [(3, .int y30), (4, .int u13), (2, .int w1), (0, .ref (aa 30)), (1, .int xa)]) hx hb dX1_shareByRemainders_120 rfl hl (by decide) rfl (fun ls hl => ?_)
                refine lv_iinc (k := 1) (v := (u13 + (1 : Int32))) (lv' := [(4, .int (u13 + (1 : Int32))), (3, .int y30), (2, .int w1), (0, .ref (aa 30)), (1, .int xa)]) hx hb dX1_shareByRemainders_121 hl rfl (ii_ _ _ _ (by decide)) (by decide) rfl (fun ls hl => ?_)
                refine lv_goto (tgt := 46) hx hb dX1_shareByRemainders_124 (by decide) ?_
                exact IH46 Z28 y30 (u13 + (1 : Int32)) _ _ _ hF hP hD hS (lv_sub hl [0, 1, 2, 3, 4] rfl)
              refine lv_if_eq (tgt := 109) hx hb dX1_shareByRemainders_99 (by decide) (fun hc31 => ?_) (fun hc31 => ?_)
              · have hF := br_pos hc31 hF
                refine lv_iconst (v := (-1)) hx hb dX1_shareByRemainders_109 (by decide) ?_
                exact Jj110 ((-1) : Int32) _ _ _ hF hP hD hS (lv_sub hl [1, 2, 3, 4, 5] rfl)
              · have hF := br_neg hc31 hF
                refine lv_iload hx hb dX1_shareByRemainders_102 (lv_at hl 0 rfl) ?_
                refine lv_iload_n hx hb dX1_shareByRemainders_104 rfl (lv_at hl 3 rfl) ?_
                obtain ⟨hg32, hF⟩ := gd_some hF
                refine lv_irem hx hb dX1_shareByRemainders_105 hg32 ?_
                refine lv_topi (fun y33 ey33 => ?_)
                have hF := bv_at ey33 hF
                refine lv_goto (tgt := 110) hx hb dX1_shareByRemainders_106 (by decide) ?_
                exact Jj110 y33 _ _ _ hF hP hD hS (lv_sub hl [1, 2, 3, 4, 5] rfl)
            refine lv_if_eq (tgt := 73) hx hb dX1_shareByRemainders_58 (by decide) (fun hc34 => ?_) (fun hc34 => ?_)
            · have hF := br_pos hc34 hF
              refine lv_iconst (v := 0) hx hb dX1_shareByRemainders_73 (by decide) ?_
              exact Jj74 (0 : Int32) _ _ _ hF hP hD hS (lv_sub hl [0, 1, 2, 3, 4] rfl)
            · have hF := br_neg hc34 hF
              refine lv_iload_n hx hb dX1_shareByRemainders_61 rfl (lv_at hl 4 rfl) ?_
              refine lv_aload_n hx hb dX1_shareByRemainders_62 rfl (lv_at hl 3 rfl) ?_
              refine va_get (D := (dC, dI)) (ci := 3) (v := .ref (aa 31)) (C := RX1) (T := TX1) (N := 9) hx hb hts hinX1 hown hK hP 30 (bw_at (i := 30) (by decide) rfl) rfl 0 (by decide) (hts (.fieldLink RX1 9 "BallotLoom$Parties" "votes" "[I") (by decide +kernel)) (fun _ h9 => h9) rfl dX1_shareByRemainders_63 ?_
              refine lv_iload hx hb dX1_shareByRemainders_66 (lv_at hl 0 rfl) ?_
              obtain ⟨hg35, hF⟩ := gd_some hF
              refine va_iald hx hb hK hP 31 0 (at_i (by decide) (fun _ _ => rfl)) rfl hg35 dX1_shareByRemainders_68 ?_
              refine lv_topi (fun y36 ey36 => ?_)
              have hF := bv_at ey36 hF
              refine lv_imul hx hb dX1_shareByRemainders_69 ?_
              refine lv_topi (fun y37 ey37 => ?_)
              have hF := bv_at ey37 hF
              refine lv_goto (tgt := 74) hx hb dX1_shareByRemainders_70 (by decide) ?_
              exact Jj74 y37 _ _ _ hF hP hD hS (lv_sub hl [0, 1, 2, 3, 4] rfl)
      exact L46 100 Z xa (0 : Int32) _ _ _ hF hP hD hS (lv_sub hl [0, 1, 2, 3, 4] rfl)
    · have hF := br_pos hc2 hF
      obtain ⟨e8, e9⟩ := some2 hF
      rw [← e8] at hP hD
      subst hQ
      exact W.vret hx hb hr (fun t ht hW => ⟨⟨(), rfl, trivial, po_mk ht hW hP hK hD⟩, hS.F ht⟩) hS.2.2 dX1_shareByRemainders_40
  have L4 : ∀ (n4 : Nat) (u38 : Int32) (u39 : Int32) (H : Heap) (locs : List Loc) (ls : Array Slot), F_X1_shareByRemainders_l4 Z (F_X1_shareByRemainders_x4 Z xa) n4 u38 u39 = some (Zo, ro) → va_P (dC, dI) vwCl (bw q aa Z) H → va_D A (bw q aa Z) → va_S A s.heap H locs → lv_has ls 6 [(3, .int u39), (2, .int u38), (0, .ref (aa 30)), (1, .int xa)] → W p l e (headSpec wsX1_shareByRemainders ({ frames := 3, cells := 0, slots := 0, locals := 62 } : Room)).room s m args below meth c H locs 0 0 Q (F0 m 4 ls []) := by
    intro n4
    induction n4 with
    | zero =>
      intro u38 u39 H locs ls hF
      rw [F_X1_shareByRemainders_l4] at hF
      cases hF
    | succ n4 IH4 =>
      intro u38 u39 H locs ls hF hP hD hS hl
      rw [F_X1_shareByRemainders_l4] at hF
      refine lv_iload_n hx hb dX1_shareByRemainders_4 rfl (lv_at hl 0 rfl) ?_
      refine lv_iconst (v := 4) hx hb dX1_shareByRemainders_5 (by decide) ?_
      refine lv_icmp_ge (tgt := 36) hx hb dX1_shareByRemainders_6 (by decide) (fun hc40 => ?_) (fun hc40 => ?_)
      · have hF := br_pos hc40 hF
        exact Jx4 u38 _ _ _ hF hP hD hS (lv_sub hl [1, 2, 3] rfl)
      · have hF := br_neg hc40 hF
        refine lv_iload_n hx hb dX1_shareByRemainders_9 rfl (lv_at hl 1 rfl) ?_
        refine lv_aload_n hx hb dX1_shareByRemainders_10 rfl (lv_at hl 2 rfl) ?_
        refine lv_iload_n hx hb dX1_shareByRemainders_11 rfl (lv_at hl 0 rfl) ?_
        obtain ⟨r42, hC41, hF⟩ := calp_some hF
        have hFc := b_free (ws := bw q aa Z) hD hS hA
        refine va_calli (va_runV (As := [.int u39]) (rest := [.int u38]) ⟨hx, hb, hml, hown, hts⟩ (c_X1_takesPart l dC dI q aa Z u39  _ _  hC41) (cwV 1 hts gX1_shareByRemainders_X1_takesPart rfl rfl rfl (by decide +kernel) ⟨Nat.le_of_ble_eq_true rfl, Nat.le_of_ble_eq_true rfl⟩) ⟨pr_blind, va_recv hK hP (ci := 3) (q0 := 30) rfl (bw_at (i := 30) (by decide) rfl), fun U hU hW => ⟨rfl, pr_mk hU hW hP hK hD⟩⟩ rfl rfl hl.1 rfl (lv_room (Nat.le_of_ble_eq_true rfl)) dX1_shareByRemainders_12 ⟨Nat.le_of_ble_eq_true rfl, Nat.le_of_ble_eq_true rfl⟩) hS (fun x _ h => hFc x h) hFc (fun rr43 u t H1 locs ht hvm hw hB hz1 hk1 hS => ?_)
        obtain ⟨hP, hK1, hD1⟩ := hB
        rw [ht] at hP
        have hD := hD1.weaken (fun _ q9 _ h9 => hFc q9.1 h9)
        clear hFc hD1 hK1 hvm hz1 hk1
        generalize H1 = H at hP hS ⊢
        refine W.widen (k := 0) (n := 0) (Nat.le_refl _) (Nat.le_refl _) ?_
        obtain rfl : rr43 = r42 := hw
        refine lv_if_eq (tgt := 27) hx hb dX1_shareByRemainders_15 (by decide) (fun hc44 => ?_) (fun hc44 => ?_)
        · have hF := br_pos hc44 hF
          refine lv_iconst (v := 0) hx hb dX1_shareByRemainders_27 (by decide) ?_
          refine lv_iadd hx hb dX1_shareByRemainders_28 ?_
          refine lv_topi (fun y45 ey45 => ?_)
          have hF := bv_at ey45 hF
          refine lv_istore_n (lv' := [(2, .int y45), (3, .int u39), (0, .ref (aa 30)), (1, .int xa)]) hx hb dX1_shareByRemainders_29 rfl hl (by decide) rfl (fun ls hl => ?_)
          refine lv_iinc (k := 1) (v := (u39 + (1 : Int32))) (lv' := [(3, .int (u39 + (1 : Int32))), (2, .int y45), (0, .ref (aa 30)), (1, .int xa)]) hx hb dX1_shareByRemainders_30 hl rfl (ii_ _ _ _ (by decide)) (by decide) rfl (fun ls hl => ?_)
          refine lv_goto (tgt := 4) hx hb dX1_shareByRemainders_33 (by decide) ?_
          exact IH4 y45 (u39 + (1 : Int32)) _ _ _ hF hP hD hS (lv_sub hl [0, 1, 2, 3] rfl)
        · have hF := br_neg hc44 hF
          refine lv_aload_n hx hb dX1_shareByRemainders_18 rfl (lv_at hl 2 rfl) ?_
          refine va_get (D := (dC, dI)) (ci := 3) (v := .ref (aa 31)) (C := RX1) (T := TX1) (N := 9) hx hb hts hinX1 hown hK hP 30 (bw_at (i := 30) (by decide) rfl) rfl 0 (by decide) (hts (.fieldLink RX1 9 "BallotLoom$Parties" "votes" "[I") (by decide +kernel)) (fun _ h9 => h9) rfl dX1_shareByRemainders_19 ?_
          refine lv_iload_n hx hb dX1_shareByRemainders_22 rfl (lv_at hl 0 rfl) ?_
          obtain ⟨hg46, hF⟩ := gd_some hF
          refine va_iald hx hb hK hP 31 0 (at_i (by decide) (fun _ _ => rfl)) rfl hg46 dX1_shareByRemainders_23 ?_
          refine lv_topi (fun y47 ey47 => ?_)
          have hF := bv_at ey47 hF
          refine lv_goto (tgt := 28) hx hb dX1_shareByRemainders_24 (by decide) ?_
          refine lv_iadd hx hb dX1_shareByRemainders_28 ?_
          refine lv_topi (fun y48 ey48 => ?_)
          have hF := bv_at ey48 hF
          refine lv_istore_n (lv' := [(2, .int y48), (3, .int u39), (0, .ref (aa 30)), (1, .int xa)]) hx hb dX1_shareByRemainders_29 rfl hl (by decide) rfl (fun ls hl => ?_)
          refine lv_iinc (k := 1) (v := (u39 + (1 : Int32))) (lv' := [(3, .int (u39 + (1 : Int32))), (2, .int y48), (0, .ref (aa 30)), (1, .int xa)]) hx hb dX1_shareByRemainders_30 hl rfl (ii_ _ _ _ (by decide)) (by decide) rfl (fun ls hl => ?_)
          refine lv_goto (tgt := 4) hx hb dX1_shareByRemainders_33 (by decide) ?_
          exact IH4 y48 (u39 + (1 : Int32)) _ _ _ hF hP hD hS (lv_sub hl [0, 1, 2, 3] rfl)
  exact L4 100 (0 : Int32) (0 : Int32) _ _ _ hF hP hD hS (lv_sub hl [0, 1, 2, 3] rfl)

noncomputable def F_X1_shareSeats_j45 (xa : Int32) (Z1 : Mem) (v3 : Int32) : Option (Mem × Unit) :=
  cal (F_X1_shareByDivisors Z1 xa v3) fun Z5 _ => some (Z5, ())

noncomputable def F_X1_shareSeats_x2 (xa : Int32) (xb : Int32) (Z1 : Mem) : Option (Mem × Unit) :=
  br (xb = (2 : Int32)) (cal (F_X1_shareByRemainders Z1 xa) fun Z9 _ => some (Z9, ())) (br (xb = (1 : Int32)) ((F_X1_shareSeats_j45 xa Z1) (2 : Int32)) ((F_X1_shareSeats_j45 xa Z1) (1 : Int32)))

noncomputable def F_X1_shareSeats_l2 (K_2 : Mem → Option (Mem × Unit)) : Nat → Mem → Int32 → Option (Mem × Unit)
  | 0, _, _ => none
  | n2 + 1, Z12, u11 =>
  br ((4 : Int32) ≤ u11) (K_2 Z12) (gd (¬ (u11 < 0 ∨ 4 ≤ ix u11)) <| bv (si Z12 36 (ix u11) (0 : Int32)) fun Z15 => (F_X1_shareSeats_l2 K_2 n2) Z15 (u11 + (1 : Int32)))

noncomputable def F_X1_shareSeats (Z : Mem) (xa : Int32) (xb : Int32) : Option (Mem × Unit) :=
  F_X1_shareSeats_l2 (F_X1_shareSeats_x2 xa xb) 100 Z (0 : Int32)

set_option maxHeartbeats 4000000 in
set_option maxRecDepth 100000 in
theorem c_X1_shareSeats (l : Launch) (dC : Nat → ClassId) (dI : Nat → Nat → Nat) (q : Nat → ClassId) (aa : Nat → Nat) (Z : Mem) (xa : Int32) (xb : Int32)  (sz : Nat) (Zo : Mem) (ro : Unit) (hF : F_X1_shareSeats Z xa xb = some (Zo, ro)) : Met l yX1_shareSeats wsX1_shareSeats ({ frames := 4, cells := 0, slots := 0, locals := 90 }) (va_Pc [.ref (aa 30), .int xa, .int xb] (pr_ dC dI (bw q aa Z) (bty q) sz)) (va_Qv (fun (_ : Unit) => True) (fun (_ : Unit) t => po_ dC dI (bw q aa Zo) (bty q) (va_A (bw q aa Z) sz) t) (va_A (bw q aa Z) sz)) 0 0 (va_A (bw q aa Z) sz) := by
  refine Met.ofW (cc := cX1_shareSeats) (maxL := 4) (ret := none) (by decide) rfl ?_
  intro p e s m args below meth c s₁ B hml hv
  obtain ⟨hargs, hsz, hP, hK, hD0⟩ := hv
  have hx := B.exec
  have hb := B.bytes
  have hr := B.returns
  have hts := atoms_spec (ws := wsX1_shareSeats) B.pre
  have hown : s.vm.findClass RX1 = some m.cls := findClass_of_methodNamed B.named
  have hlocks := B.notSynchronized
  subst hsz
  have hD := hD0.self (sz := s.heap.size)
  generalize hAe : va_A (bw q aa Z) s.heap.size = A at hD ⊢
  have hA : ∀ x : Nat, s.heap.size ≤ x → A x := fun x h => by rw [← hAe]; exact Or.inr h
  have hS : va_S A s.heap s.heap [] := va_S.rf
  have hinX1 : ∀ w ∈ u_ws RX1 TX1 9, w ∈ wsX1_shareSeats := by decide +kernel
  have hl := lv_entry ([.ref (aa 30), .int xa, .int xb]) (n := 4) (Nat.le_of_ble_eq_true rfl)
  refine w_ent hargs ?_
  rw [lg_entry_eq]
  generalize (lg_sl ([.ref (aa 30), .int xa, .int xb]) ++ List.replicate (4 - (lg_sl ([.ref (aa 30), .int xa, .int xb])).length) Slot.unset).toArray = ls at hl ⊢
  have hl : lv_has ls 4 [(0, .ref (aa 30)), (1, .int xa), (2, .int xb)] := hl
  unfold F_X1_shareSeats at hF
  refine w_go (fun Q hQ => ?_)
  refine lv_iconst (v := 0) hx hb dX1_shareSeats_0 (by decide) ?_
  refine lv_istore_n (lv' := [(3, .int 0), (0, .ref (aa 30)), (1, .int xa), (2, .int xb)]) hx hb dX1_shareSeats_1 rfl hl (by decide) rfl (fun ls hl => ?_)
  have Jx2 : ∀ (Z1 : Mem) (H : Heap) (locs : List Loc) (ls : Array Slot), (F_X1_shareSeats_x2 xa xb) Z1 = some (Zo, ro) → va_P (dC, dI) vwCl (bw q aa Z1) H → va_D A (bw q aa Z1) → va_S A s.heap H locs → lv_has ls 4 [(0, .ref (aa 30)), (1, .int xa), (2, .int xb)] → W p l e (headSpec wsX1_shareSeats ({ frames := 4, cells := 0, slots := 0, locals := 90 } : Room)).room s m args below meth c H locs 0 0 Q (F0 m 20 ls []) := by
    intro Z1 H locs ls hF hP hD hS hl
    unfold F_X1_shareSeats_x2 at hF
    refine lv_iload_n hx hb dX1_shareSeats_20 rfl (lv_at hl 2 rfl) ?_
    refine lv_iconst (v := 2) hx hb dX1_shareSeats_21 (by decide) ?_
    refine lv_icmp_ne (tgt := 33) hx hb dX1_shareSeats_22 (by decide) (fun hc2 => ?_) (fun hc2 => ?_)
    · have hF := br_neg hc2 hF
      refine lv_aload_n hx hb dX1_shareSeats_33 rfl (lv_at hl 0 rfl) ?_
      refine lv_iload_n hx hb dX1_shareSeats_34 rfl (lv_at hl 1 rfl) ?_
      refine lv_iload_n hx hb dX1_shareSeats_35 rfl (lv_at hl 2 rfl) ?_
      refine lv_iconst (v := 1) hx hb dX1_shareSeats_36 (by decide) ?_
      have Jj45 : ∀ (v3 : Int32) (H : Heap) (locs : List Loc) (ls : Array Slot), (F_X1_shareSeats_j45 xa Z1) v3 = some (Zo, ro) → va_P (dC, dI) vwCl (bw q aa Z1) H → va_D A (bw q aa Z1) → va_S A s.heap H locs → lv_has ls 4 [] → W p l e (headSpec wsX1_shareSeats ({ frames := 4, cells := 0, slots := 0, locals := 90 } : Room)).room s m args below meth c H locs 0 0 Q (F0 m 45 ls [.int v3, .int xa, .ref (aa 30)]) := by
        intro v3 H locs ls hF hP hD hS hl
        unfold F_X1_shareSeats_j45 at hF
        obtain ⟨Z5, _, hC4, hF⟩ := cal_some hF
        have hFc := b_free (ws := bw q aa Z1) hD hS hA
        refine va_callv (va_runV (As := [.int xa, .int v3]) (rest := []) ⟨hx, hb, hml, hown, hts⟩ (c_X1_shareByDivisors l dC dI q aa Z1 xa v3  _ _ _  hC4) (cwV 2 hts gX1_shareSeats_X1_shareByDivisors rfl rfl rfl (by decide +kernel) ⟨Nat.le_of_ble_eq_true rfl, Nat.le_of_ble_eq_true rfl⟩) ⟨pr_blind, va_recv hK hP (ci := 3) (q0 := 30) rfl (bw_at (i := 30) (by decide) rfl), fun U hU hW => ⟨rfl, pr_mk hU hW hP hK hD⟩⟩ rfl rfl hl.1 rfl (lv_room (Nat.le_of_ble_eq_true rfl)) dX1_shareSeats_45 ⟨Nat.le_of_ble_eq_true rfl, Nat.le_of_ble_eq_true rfl⟩) hS (fun x _ h => hFc x h) hFc (fun u t H1 locs ht hvm hw hB hz1 hk1 hS => ?_)
        obtain ⟨hP, hK1, hD1⟩ := hB
        rw [ht] at hP
        have hD := hD1.weaken (fun _ q9 _ h9 => hFc q9.1 h9)
        clear hFc hD1 hK1 hvm hz1 hk1
        generalize H1 = H at hP hS ⊢
        refine W.widen (k := 0) (n := 0) (Nat.le_refl _) (Nat.le_refl _) ?_
        obtain ⟨e8, e9⟩ := some2 hF
        rw [← e8] at hP hD
        subst hQ
        exact W.vret hx hb hr (fun t ht hW => ⟨⟨(), rfl, trivial, po_mk ht hW hP hK hD⟩, hS.F ht⟩) hS.2.2 dX1_shareSeats_48
      refine lv_icmp_ne (tgt := 44) hx hb dX1_shareSeats_37 (by decide) (fun hc7 => ?_) (fun hc7 => ?_)
      · have hF := br_neg hc7 hF
        refine lv_iconst (v := 1) hx hb dX1_shareSeats_44 (by decide) ?_
        exact Jj45 (1 : Int32) _ _ _ hF hP hD hS (lv_sub hl [] rfl)
      · have hF := br_pos hc7 hF
        refine lv_iconst (v := 2) hx hb dX1_shareSeats_40 (by decide) ?_
        refine lv_goto (tgt := 45) hx hb dX1_shareSeats_41 (by decide) ?_
        exact Jj45 (2 : Int32) _ _ _ hF hP hD hS (lv_sub hl [] rfl)
    · have hF := br_pos hc2 hF
      refine lv_aload_n hx hb dX1_shareSeats_25 rfl (lv_at hl 0 rfl) ?_
      refine lv_iload_n hx hb dX1_shareSeats_26 rfl (lv_at hl 1 rfl) ?_
      obtain ⟨Z9, _, hC8, hF⟩ := cal_some hF
      have hFc := b_free (ws := bw q aa Z1) hD hS hA
      refine va_callv (va_runV (As := [.int xa]) (rest := []) ⟨hx, hb, hml, hown, hts⟩ (c_X1_shareByRemainders l dC dI q aa Z1 xa  _ _ _  hC8) (cwV 1 hts gX1_shareSeats_X1_shareByRemainders rfl rfl rfl (by decide +kernel) ⟨Nat.le_of_ble_eq_true rfl, Nat.le_of_ble_eq_true rfl⟩) ⟨pr_blind, va_recv hK hP (ci := 3) (q0 := 30) rfl (bw_at (i := 30) (by decide) rfl), fun U hU hW => ⟨rfl, pr_mk hU hW hP hK hD⟩⟩ rfl rfl hl.1 rfl (lv_room (Nat.le_of_ble_eq_true rfl)) dX1_shareSeats_27 ⟨Nat.le_of_ble_eq_true rfl, Nat.le_of_ble_eq_true rfl⟩) hS (fun x _ h => hFc x h) hFc (fun u t H1 locs ht hvm hw hB hz1 hk1 hS => ?_)
      obtain ⟨hP, hK1, hD1⟩ := hB
      rw [ht] at hP
      have hD := hD1.weaken (fun _ q9 _ h9 => hFc q9.1 h9)
      clear hFc hD1 hK1 hvm hz1 hk1
      generalize H1 = H at hP hS ⊢
      refine W.widen (k := 0) (n := 0) (Nat.le_refl _) (Nat.le_refl _) ?_
      refine lv_goto (tgt := 48) hx hb dX1_shareSeats_30 (by decide) ?_
      obtain ⟨e8, e9⟩ := some2 hF
      rw [← e8] at hP hD
      subst hQ
      exact W.vret hx hb hr (fun t ht hW => ⟨⟨(), rfl, trivial, po_mk ht hW hP hK hD⟩, hS.F ht⟩) hS.2.2 dX1_shareSeats_48
  have L2 : ∀ (n2 : Nat) (Z12 : Mem) (u11 : Int32) (H : Heap) (locs : List Loc) (ls : Array Slot), F_X1_shareSeats_l2 (F_X1_shareSeats_x2 xa xb) n2 Z12 u11 = some (Zo, ro) → va_P (dC, dI) vwCl (bw q aa Z12) H → va_D A (bw q aa Z12) → va_S A s.heap H locs → lv_has ls 4 [(3, .int u11), (0, .ref (aa 30)), (1, .int xa), (2, .int xb)] → W p l e (headSpec wsX1_shareSeats ({ frames := 4, cells := 0, slots := 0, locals := 90 } : Room)).room s m args below meth c H locs 0 0 Q (F0 m 2 ls []) := by
    intro n2
    induction n2 with
    | zero =>
      intro Z12 u11 H locs ls hF
      rw [F_X1_shareSeats_l2] at hF
      cases hF
    | succ n2 IH2 =>
      intro Z12 u11 H locs ls hF hP hD hS hl
      rw [F_X1_shareSeats_l2] at hF
      refine lv_iload_n hx hb dX1_shareSeats_2 rfl (lv_at hl 0 rfl) ?_
      refine lv_iconst (v := 4) hx hb dX1_shareSeats_3 (by decide) ?_
      refine lv_icmp_ge (tgt := 20) hx hb dX1_shareSeats_4 (by decide) (fun hc13 => ?_) (fun hc13 => ?_)
      · have hF := br_pos hc13 hF
        exact Jx2 Z12 _ _ _ hF hP hD hS (lv_sub hl [1, 2, 3] rfl)
      · have hF := br_neg hc13 hF
        refine lv_aload_n hx hb dX1_shareSeats_7 rfl (lv_at hl 1 rfl) ?_
        refine va_get (D := (dC, dI)) (ci := 3) (v := .ref (aa 36)) (C := RX1) (T := TX1) (N := 9) hx hb hts hinX1 hown hK hP 30 (bw_at (i := 30) (by decide) rfl) rfl 6 (by decide) (hts (.fieldLink RX1 28 "BallotLoom$Parties" "seats" "[I") (by decide +kernel)) (fun _ h9 => h9) rfl dX1_shareSeats_8 ?_
        refine lv_iload_n hx hb dX1_shareSeats_11 rfl (lv_at hl 0 rfl) ?_
        refine lv_iconst (v := 0) hx hb dX1_shareSeats_12 (by decide) ?_
        obtain ⟨hg14, hF⟩ := gd_some hF
        obtain ⟨Z15, eZ15, hF⟩ := bv_some hF
        refine va_iast hx hb hK hP hD hS 36 0 (at_i (by decide) (fun _ _ => rfl)) rfl hg14 dX1_shareSeats_13 (fun H locs hP hD hS => ?_)
        have eW := wz_i (q := q) (aa := aa) (i := 36) (fun _ _ => rfl) eZ15
        have hP : va_P (dC, dI) vwCl (bw q aa Z15) H := eW ▸ hP
        have hD : va_D A (bw q aa Z15) := eW ▸ hD
        clear eW
        refine lv_iinc (k := 0) (v := (u11 + (1 : Int32))) (lv' := [(3, .int (u11 + (1 : Int32))), (0, .ref (aa 30)), (1, .int xa), (2, .int xb)]) hx hb dX1_shareSeats_14 hl rfl (ii_ _ _ _ (by decide)) (by decide) rfl (fun ls hl => ?_)
        refine lv_goto (tgt := 2) hx hb dX1_shareSeats_17 (by decide) ?_
        exact IH2 Z15 (u11 + (1 : Int32)) _ _ _ hF hP hD hS (lv_sub hl [0, 1, 2, 3] rfl)
  exact L2 100 Z (0 : Int32) _ _ _ hF hP hD hS (lv_sub hl [0, 1, 2, 3] rfl)

noncomputable def F_X1_seatsTogether_x4 (w1 : Int32) : Option Int32 :=
  some w1

noncomputable def F_X1_seatsTogether_l4 (Z : Mem) (xa : Int32) (K_4 : Int32 → Option Int32) : Nat → Int32 → Int32 → Option Int32
  | 0, _, _ => none
  | n4 + 1, u2, u3 =>
  br ((4 : Int32) ≤ u3) (K_4 u2) (bv ((1 : Int32) <<< (u3 &&& 31)) fun y5 => bv (xa &&& y5) fun y6 => br (y6 = (0 : Int32)) ((F_X1_seatsTogether_l4 Z xa K_4 n4) u2 (u3 + (1 : Int32))) (gd (¬ (u3 < 0 ∨ 4 ≤ ix u3)) <| bv (Z.1 36 (ix u3)) fun y9 => bv (u2 + y9) fun y10 => (F_X1_seatsTogether_l4 Z xa K_4 n4) y10 (u3 + (1 : Int32))))

noncomputable def F_X1_seatsTogether (Z : Mem) (xa : Int32) : Option Int32 :=
  F_X1_seatsTogether_l4 Z xa F_X1_seatsTogether_x4 100 (0 : Int32) (0 : Int32)

set_option maxHeartbeats 4000000 in
set_option maxRecDepth 100000 in
theorem c_X1_seatsTogether (l : Launch) (dC : Nat → ClassId) (dI : Nat → Nat → Nat) (q : Nat → ClassId) (aa : Nat → Nat) (Z : Mem) (xa : Int32)  (sz : Nat) (ro : Int32) (hF : F_X1_seatsTogether Z xa = some ro) : Met l yX1_seatsTogether wsX1_seatsTogether ({ frames := 2, cells := 0, slots := 0, locals := 40 }) (va_Pc [.ref (aa 30), .int xa] (pr_ dC dI (bw q aa Z) (bty q) sz)) (va_Qi (fun (r : Int32) (_ : Unit) => r = ro) (fun (_ : Unit) t => po_ dC dI (bw q aa Z) (bty q) (va_A (bw q aa Z) sz) t) (va_A (bw q aa Z) sz)) 0 0 (va_A (bw q aa Z) sz) := by
  refine Met.ofW (cc := cX1_seatsTogether) (maxL := 4) (ret := (some .int)) (by decide) rfl ?_
  intro p e s m args below meth c s₁ B hml hv
  obtain ⟨hargs, hsz, hP, hK, hD0⟩ := hv
  have hx := B.exec
  have hb := B.bytes
  have hr := B.returns
  have hts := atoms_spec (ws := wsX1_seatsTogether) B.pre
  have hown : s.vm.findClass RX1 = some m.cls := findClass_of_methodNamed B.named
  have hlocks := B.notSynchronized
  subst hsz
  have hD := hD0.self (sz := s.heap.size)
  generalize hAe : va_A (bw q aa Z) s.heap.size = A at hD ⊢
  have hA : ∀ x : Nat, s.heap.size ≤ x → A x := fun x h => by rw [← hAe]; exact Or.inr h
  have hS : va_S A s.heap s.heap [] := va_S.rf
  have hinX1 : ∀ w ∈ u_ws RX1 TX1 9, w ∈ wsX1_seatsTogether := by decide +kernel
  have hl := lv_entry ([.ref (aa 30), .int xa]) (n := 4) (Nat.le_of_ble_eq_true rfl)
  refine w_ent hargs ?_
  rw [lg_entry_eq]
  generalize (lg_sl ([.ref (aa 30), .int xa]) ++ List.replicate (4 - (lg_sl ([.ref (aa 30), .int xa])).length) Slot.unset).toArray = ls at hl ⊢
  have hl : lv_has ls 4 [(0, .ref (aa 30)), (1, .int xa)] := hl
  unfold F_X1_seatsTogether at hF
  refine w_go (fun Q hQ => ?_)
  refine lv_iconst (v := 0) hx hb dX1_seatsTogether_0 (by decide) ?_
  refine lv_istore_n (lv' := [(2, .int 0), (0, .ref (aa 30)), (1, .int xa)]) hx hb dX1_seatsTogether_1 rfl hl (by decide) rfl (fun ls hl => ?_)
  refine lv_iconst (v := 0) hx hb dX1_seatsTogether_2 (by decide) ?_
  refine lv_istore_n (lv' := [(3, .int 0), (2, .int 0), (0, .ref (aa 30)), (1, .int xa)]) hx hb dX1_seatsTogether_3 rfl hl (by decide) rfl (fun ls hl => ?_)
  have Jx4 : ∀ (w1 : Int32) (H : Heap) (locs : List Loc) (ls : Array Slot), F_X1_seatsTogether_x4 w1 = some ro → va_P (dC, dI) vwCl (bw q aa Z) H → va_D A (bw q aa Z) → va_S A s.heap H locs → lv_has ls 4 [(2, .int w1)] → W p l e (headSpec wsX1_seatsTogether ({ frames := 2, cells := 0, slots := 0, locals := 40 } : Room)).room s m args below meth c H locs 0 0 Q (F0 m 32 ls []) := by
    intro w1 H locs ls hF hP hD hS hl
    unfold F_X1_seatsTogether_x4 at hF
    refine lv_iload_n hx hb dX1_seatsTogether_32 rfl (lv_at hl 0 rfl) ?_
    have e9 := some1 hF
    subst hQ
    exact W.iret (v := w1) hx hb hr (fun t ht hW => ⟨⟨w1, (), rfl, e9.symm, po_mk ht hW hP hK hD⟩, hS.F ht⟩) hS.2.2 dX1_seatsTogether_33
  have L4 : ∀ (n4 : Nat) (u2 : Int32) (u3 : Int32) (H : Heap) (locs : List Loc) (ls : Array Slot), F_X1_seatsTogether_l4 Z xa F_X1_seatsTogether_x4 n4 u2 u3 = some ro → va_P (dC, dI) vwCl (bw q aa Z) H → va_D A (bw q aa Z) → va_S A s.heap H locs → lv_has ls 4 [(3, .int u3), (2, .int u2), (0, .ref (aa 30)), (1, .int xa)] → W p l e (headSpec wsX1_seatsTogether ({ frames := 2, cells := 0, slots := 0, locals := 40 } : Room)).room s m args below meth c H locs 0 0 Q (F0 m 4 ls []) := by
    intro n4
    induction n4 with
    | zero =>
      intro u2 u3 H locs ls hF
      rw [F_X1_seatsTogether_l4] at hF
      cases hF
    | succ n4 IH4 =>
      intro u2 u3 H locs ls hF hP hD hS hl
      rw [F_X1_seatsTogether_l4] at hF
      refine lv_iload_n hx hb dX1_seatsTogether_4 rfl (lv_at hl 0 rfl) ?_
      refine lv_iconst (v := 4) hx hb dX1_seatsTogether_5 (by decide) ?_
      refine lv_icmp_ge (tgt := 32) hx hb dX1_seatsTogether_6 (by decide) (fun hc4 => ?_) (fun hc4 => ?_)
      · have hF := br_pos hc4 hF
        exact Jx4 u2 _ _ _ hF hP hD hS (lv_sub hl [1] rfl)
      · have hF := br_neg hc4 hF
        refine lv_iload_n hx hb dX1_seatsTogether_9 rfl (lv_at hl 3 rfl) ?_
        refine lv_iconst (v := 1) hx hb dX1_seatsTogether_10 (by decide) ?_
        refine lv_iload_n hx hb dX1_seatsTogether_11 rfl (lv_at hl 0 rfl) ?_
        refine lv_ishl hx hb dX1_seatsTogether_12 ?_
        refine lv_topi (fun y5 ey5 => ?_)
        have hF := bv_at ey5 hF
        refine lv_iand hx hb dX1_seatsTogether_13 ?_
        refine lv_topi (fun y6 ey6 => ?_)
        have hF := bv_at ey6 hF
        refine lv_if_eq (tgt := 26) hx hb dX1_seatsTogether_14 (by decide) (fun hc7 => ?_) (fun hc7 => ?_)
        · have hF := br_pos hc7 hF
          refine lv_iinc (k := 0) (v := (u3 + (1 : Int32))) (lv' := [(3, .int (u3 + (1 : Int32))), (2, .int u2), (0, .ref (aa 30)), (1, .int xa)]) hx hb dX1_seatsTogether_26 hl rfl (ii_ _ _ _ (by decide)) (by decide) rfl (fun ls hl => ?_)
          refine lv_goto (tgt := 4) hx hb dX1_seatsTogether_29 (by decide) ?_
          exact IH4 u2 (u3 + (1 : Int32)) _ _ _ hF hP hD hS (lv_sub hl [0, 1, 2, 3] rfl)
        · have hF := br_neg hc7 hF
          refine lv_iload_n hx hb dX1_seatsTogether_17 rfl (lv_at hl 1 rfl) ?_
          refine lv_aload_n hx hb dX1_seatsTogether_18 rfl (lv_at hl 2 rfl) ?_
          refine va_get (D := (dC, dI)) (ci := 3) (v := .ref (aa 36)) (C := RX1) (T := TX1) (N := 9) hx hb hts hinX1 hown hK hP 30 (bw_at (i := 30) (by decide) rfl) rfl 6 (by decide) (hts (.fieldLink RX1 28 "BallotLoom$Parties" "seats" "[I") (by decide +kernel)) (fun _ h9 => h9) rfl dX1_seatsTogether_19 ?_
          refine lv_iload_n hx hb dX1_seatsTogether_22 rfl (lv_at hl 0 rfl) ?_
          obtain ⟨hg8, hF⟩ := gd_some hF
          refine va_iald hx hb hK hP 36 0 (at_i (by decide) (fun _ _ => rfl)) rfl hg8 dX1_seatsTogether_23 ?_
          refine lv_topi (fun y9 ey9 => ?_)
          have hF := bv_at ey9 hF
          refine lv_iadd hx hb dX1_seatsTogether_24 ?_
          refine lv_topi (fun y10 ey10 => ?_)
          have hF := bv_at ey10 hF
          refine lv_istore_n (lv' := [(2, .int y10), (3, .int u3), (0, .ref (aa 30)), (1, .int xa)]) hx hb dX1_seatsTogether_25 rfl hl (by decide) rfl (fun ls hl => ?_)
          refine lv_iinc (k := 1) (v := (u3 + (1 : Int32))) (lv' := [(3, .int (u3 + (1 : Int32))), (2, .int y10), (0, .ref (aa 30)), (1, .int xa)]) hx hb dX1_seatsTogether_26 hl rfl (ii_ _ _ _ (by decide)) (by decide) rfl (fun ls hl => ?_)
          refine lv_goto (tgt := 4) hx hb dX1_seatsTogether_29 (by decide) ?_
          exact IH4 y10 (u3 + (1 : Int32)) _ _ _ hF hP hD hS (lv_sub hl [0, 1, 2, 3] rfl)
  exact L4 100 (0 : Int32) (0 : Int32) _ _ _ hF hP hD hS (lv_sub hl [0, 1, 2, 3] rfl)

noncomputable def F_X1_isRuling (Z : Mem) (xa : Int32) (xb : Int32) : Option Int32 :=
  calp (F_X1_seatsTogether Z xa) fun rr3 => bv ((2 : Int32) * rr3) fun y4 => br (y4 ≤ xb) (some (0 : Int32)) (some (1 : Int32))

set_option maxHeartbeats 4000000 in
set_option maxRecDepth 100000 in
theorem c_X1_isRuling (l : Launch) (dC : Nat → ClassId) (dI : Nat → Nat → Nat) (q : Nat → ClassId) (aa : Nat → Nat) (Z : Mem) (xa : Int32) (xb : Int32)  (sz : Nat) (ro : Int32) (hF : F_X1_isRuling Z xa xb = some ro) : Met l yX1_isRuling wsX1_isRuling ({ frames := 3, cells := 0, slots := 0, locals := 63 }) (va_Pc [.ref (aa 30), .int xa, .int xb] (pr_ dC dI (bw q aa Z) (bty q) sz)) (va_Qi (fun (r : Int32) (_ : Unit) => r = ro) (fun (_ : Unit) t => po_ dC dI (bw q aa Z) (bty q) (va_A (bw q aa Z) sz) t) (va_A (bw q aa Z) sz)) 0 0 (va_A (bw q aa Z) sz) := by
  refine Met.ofW (cc := cX1_isRuling) (maxL := 3) (ret := (some .boolean)) (by decide) rfl ?_
  intro p e s m args below meth c s₁ B hml hv
  obtain ⟨hargs, hsz, hP, hK, hD0⟩ := hv
  have hx := B.exec
  have hb := B.bytes
  have hr := B.returns
  have hts := atoms_spec (ws := wsX1_isRuling) B.pre
  have hown : s.vm.findClass RX1 = some m.cls := findClass_of_methodNamed B.named
  have hlocks := B.notSynchronized
  subst hsz
  have hD := hD0.self (sz := s.heap.size)
  generalize hAe : va_A (bw q aa Z) s.heap.size = A at hD ⊢
  have hA : ∀ x : Nat, s.heap.size ≤ x → A x := fun x h => by rw [← hAe]; exact Or.inr h
  have hS : va_S A s.heap s.heap [] := va_S.rf
  have hl := lv_entry ([.ref (aa 30), .int xa, .int xb]) (n := 3) (Nat.le_of_ble_eq_true rfl)
  refine w_ent hargs ?_
  rw [lg_entry_eq]
  generalize (lg_sl ([.ref (aa 30), .int xa, .int xb]) ++ List.replicate (3 - (lg_sl ([.ref (aa 30), .int xa, .int xb])).length) Slot.unset).toArray = ls at hl ⊢
  have hl : lv_has ls 3 [(0, .ref (aa 30)), (1, .int xa), (2, .int xb)] := hl
  unfold F_X1_isRuling at hF
  refine w_go (fun Q hQ => ?_)
  refine lv_iconst (v := 2) hx hb dX1_isRuling_0 (by decide) ?_
  refine lv_aload_n hx hb dX1_isRuling_1 rfl (lv_at hl 0 rfl) ?_
  refine lv_iload_n hx hb dX1_isRuling_2 rfl (lv_at hl 1 rfl) ?_
  obtain ⟨r2, hC1, hF⟩ := calp_some hF
  have hFc := b_free (ws := bw q aa Z) hD hS hA
  refine va_calli (va_runV (As := [.int xa]) (rest := [.int 2]) ⟨hx, hb, hml, hown, hts⟩ (c_X1_seatsTogether l dC dI q aa Z xa  _ _  hC1) (cwV 1 hts gX1_isRuling_X1_seatsTogether rfl rfl rfl (by decide +kernel) ⟨Nat.le_of_ble_eq_true rfl, Nat.le_of_ble_eq_true rfl⟩) ⟨pr_blind, va_recv hK hP (ci := 3) (q0 := 30) rfl (bw_at (i := 30) (by decide) rfl), fun U hU hW => ⟨rfl, pr_mk hU hW hP hK hD⟩⟩ rfl rfl hl.1 rfl (lv_room (Nat.le_of_ble_eq_true rfl)) dX1_isRuling_3 ⟨Nat.le_of_ble_eq_true rfl, Nat.le_of_ble_eq_true rfl⟩) hS (fun x _ h => hFc x h) hFc (fun rr3 u t H1 locs ht hvm hw hB hz1 hk1 hS => ?_)
  obtain ⟨hP, hK1, hD1⟩ := hB
  rw [ht] at hP
  have hD := hD1.weaken (fun _ q9 _ h9 => hFc q9.1 h9)
  clear hFc hD1 hK1 hvm hz1 hk1
  generalize H1 = H at hP hS ⊢
  refine W.widen (k := 0) (n := 0) (Nat.le_refl _) (Nat.le_refl _) ?_
  obtain rfl : rr3 = r2 := hw
  refine lv_imul hx hb dX1_isRuling_6 ?_
  refine lv_topi (fun y4 ey4 => ?_)
  have hF := bv_at ey4 hF
  refine lv_iload_n hx hb dX1_isRuling_7 rfl (lv_at hl 2 rfl) ?_
  refine lv_icmp_le (tgt := 15) hx hb dX1_isRuling_8 (by decide) (fun hc5 => ?_) (fun hc5 => ?_)
  · have hF := br_pos hc5 hF
    refine lv_iconst (v := 0) hx hb dX1_isRuling_15 (by decide) ?_
    have e9 := some1 hF
    subst hQ
    exact W.zret (v := 0) hx hb hr rfl (fun t ht hW => ⟨⟨0, (), rfl, e9.symm, po_mk ht hW hP hK hD⟩, hS.F ht⟩) hS.2.2 dX1_isRuling_16
  · have hF := br_neg hc5 hF
    refine lv_iconst (v := 1) hx hb dX1_isRuling_11 (by decide) ?_
    refine lv_goto (tgt := 16) hx hb dX1_isRuling_12 (by decide) ?_
    have e9 := some1 hF
    subst hQ
    exact W.zret (v := 1) hx hb hr rfl (fun t ht hW => ⟨⟨1, (), rfl, e9.symm, po_mk ht hW hP hK hD⟩, hS.F ht⟩) hS.2.2 dX1_isRuling_16

noncomputable def F_X1_swingsOf_x10 (w2 : Int32) : Option Int32 :=
  some w2

noncomputable def F_X1_swingsOf_l10 (Z : Mem) (xb : Int32) (y1 : Int32) (K_10 : Int32 → Option Int32) : Nat → Int32 → Int32 → Option Int32
  | 0, _, _ => none
  | n10 + 1, u3, u4 =>
  br ((16 : Int32) ≤ u4) (K_10 u3) (bv (u4 &&& y1) fun y6 => br (y6 = (0 : Int32)) (calp (F_X1_isRuling Z u4 xb) fun rr10 => br (rr10 = (0 : Int32)) (bv (u4 ||| y1) fun y12 => calp (F_X1_isRuling Z y12 xb) fun rr15 => br (rr15 = (0 : Int32)) ((F_X1_swingsOf_l10 Z xb y1 K_10 n10) u3 (u4 + (1 : Int32))) ((F_X1_swingsOf_l10 Z xb y1 K_10 n10) (u3 + (1 : Int32)) (u4 + (1 : Int32)))) ((F_X1_swingsOf_l10 Z xb y1 K_10 n10) u3 (u4 + (1 : Int32)))) ((F_X1_swingsOf_l10 Z xb y1 K_10 n10) u3 (u4 + (1 : Int32))))

noncomputable def F_X1_swingsOf (Z : Mem) (xa : Int32) (xb : Int32) : Option Int32 :=
  bv ((1 : Int32) <<< (xa &&& 31)) fun y1 => F_X1_swingsOf_l10 Z xb y1 F_X1_swingsOf_x10 100 (0 : Int32) (0 : Int32)

set_option maxHeartbeats 4000000 in
set_option maxRecDepth 100000 in
theorem c_X1_swingsOf (l : Launch) (dC : Nat → ClassId) (dI : Nat → Nat → Nat) (q : Nat → ClassId) (aa : Nat → Nat) (Z : Mem) (xa : Int32) (xb : Int32)  (sz : Nat) (ro : Int32) (hF : F_X1_swingsOf Z xa xb = some ro) : Met l yX1_swingsOf wsX1_swingsOf ({ frames := 4, cells := 0, slots := 0, locals := 85 }) (va_Pc [.ref (aa 30), .int xa, .int xb] (pr_ dC dI (bw q aa Z) (bty q) sz)) (va_Qi (fun (r : Int32) (_ : Unit) => r = ro) (fun (_ : Unit) t => po_ dC dI (bw q aa Z) (bty q) (va_A (bw q aa Z) sz) t) (va_A (bw q aa Z) sz)) 0 0 (va_A (bw q aa Z) sz) := by
  refine Met.ofW (cc := cX1_swingsOf) (maxL := 6) (ret := (some .int)) (by decide) rfl ?_
  intro p e s m args below meth c s₁ B hml hv
  obtain ⟨hargs, hsz, hP, hK, hD0⟩ := hv
  have hx := B.exec
  have hb := B.bytes
  have hr := B.returns
  have hts := atoms_spec (ws := wsX1_swingsOf) B.pre
  have hown : s.vm.findClass RX1 = some m.cls := findClass_of_methodNamed B.named
  have hlocks := B.notSynchronized
  subst hsz
  have hD := hD0.self (sz := s.heap.size)
  generalize hAe : va_A (bw q aa Z) s.heap.size = A at hD ⊢
  have hA : ∀ x : Nat, s.heap.size ≤ x → A x := fun x h => by rw [← hAe]; exact Or.inr h
  have hS : va_S A s.heap s.heap [] := va_S.rf
  have hl := lv_entry ([.ref (aa 30), .int xa, .int xb]) (n := 6) (Nat.le_of_ble_eq_true rfl)
  refine w_ent hargs ?_
  rw [lg_entry_eq]
  generalize (lg_sl ([.ref (aa 30), .int xa, .int xb]) ++ List.replicate (6 - (lg_sl ([.ref (aa 30), .int xa, .int xb])).length) Slot.unset).toArray = ls at hl ⊢
  have hl : lv_has ls 6 [(0, .ref (aa 30)), (1, .int xa), (2, .int xb)] := hl
  unfold F_X1_swingsOf at hF
  refine w_go (fun Q hQ => ?_)
  refine lv_iconst (v := 1) hx hb dX1_swingsOf_0 (by decide) ?_
  refine lv_iload_n hx hb dX1_swingsOf_1 rfl (lv_at hl 1 rfl) ?_
  refine lv_ishl hx hb dX1_swingsOf_2 ?_
  refine lv_topi (fun y1 ey1 => ?_)
  have hF := bv_at ey1 hF
  refine lv_istore_n (lv' := [(3, .int y1), (0, .ref (aa 30)), (1, .int xa), (2, .int xb)]) hx hb dX1_swingsOf_3 rfl hl (by decide) rfl (fun ls hl => ?_)
  refine lv_iconst (v := 0) hx hb dX1_swingsOf_4 (by decide) ?_
  refine lv_istore (lv' := [(4, .int 0), (3, .int y1), (0, .ref (aa 30)), (1, .int xa), (2, .int xb)]) hx hb dX1_swingsOf_5 hl (by decide) rfl (fun ls hl => ?_)
  refine lv_iconst (v := 0) hx hb dX1_swingsOf_7 (by decide) ?_
  refine lv_istore (lv' := [(5, .int 0), (4, .int 0), (3, .int y1), (0, .ref (aa 30)), (1, .int xa), (2, .int xb)]) hx hb dX1_swingsOf_8 hl (by decide) rfl (fun ls hl => ?_)
  have Jx10 : ∀ (w2 : Int32) (H : Heap) (locs : List Loc) (ls : Array Slot), F_X1_swingsOf_x10 w2 = some ro → va_P (dC, dI) vwCl (bw q aa Z) H → va_D A (bw q aa Z) → va_S A s.heap H locs → lv_has ls 6 [(4, .int w2)] → W p l e (headSpec wsX1_swingsOf ({ frames := 4, cells := 0, slots := 0, locals := 85 } : Room)).room s m args below meth c H locs 0 0 Q (F0 m 55 ls []) := by
    intro w2 H locs ls hF hP hD hS hl
    unfold F_X1_swingsOf_x10 at hF
    refine lv_iload hx hb dX1_swingsOf_55 (lv_at hl 0 rfl) ?_
    have e9 := some1 hF
    subst hQ
    exact W.iret (v := w2) hx hb hr (fun t ht hW => ⟨⟨w2, (), rfl, e9.symm, po_mk ht hW hP hK hD⟩, hS.F ht⟩) hS.2.2 dX1_swingsOf_57
  have L10 : ∀ (n10 : Nat) (u3 : Int32) (u4 : Int32) (H : Heap) (locs : List Loc) (ls : Array Slot), F_X1_swingsOf_l10 Z xb y1 F_X1_swingsOf_x10 n10 u3 u4 = some ro → va_P (dC, dI) vwCl (bw q aa Z) H → va_D A (bw q aa Z) → va_S A s.heap H locs → lv_has ls 6 [(5, .int u4), (4, .int u3), (3, .int y1), (0, .ref (aa 30)), (2, .int xb)] → W p l e (headSpec wsX1_swingsOf ({ frames := 4, cells := 0, slots := 0, locals := 85 } : Room)).room s m args below meth c H locs 0 0 Q (F0 m 10 ls []) := by
    intro n10
    induction n10 with
    | zero =>
      intro u3 u4 H locs ls hF
      rw [F_X1_swingsOf_l10] at hF
      cases hF
    | succ n10 IH10 =>
      intro u3 u4 H locs ls hF hP hD hS hl
      rw [F_X1_swingsOf_l10] at hF
      refine lv_iload hx hb dX1_swingsOf_10 (lv_at hl 0 rfl) ?_
      refine lv_bipush (v := 16) hx hb dX1_swingsOf_12 (by decide) ?_
      refine lv_icmp_ge (tgt := 55) hx hb dX1_swingsOf_14 (by decide) (fun hc5 => ?_) (fun hc5 => ?_)
      · have hF := br_pos hc5 hF
        exact Jx10 u3 _ _ _ hF hP hD hS (lv_sub hl [1] rfl)
      · have hF := br_neg hc5 hF
        refine lv_iload hx hb dX1_swingsOf_17 (lv_at hl 0 rfl) ?_
        refine lv_iload_n hx hb dX1_swingsOf_19 rfl (lv_at hl 2 rfl) ?_
        refine lv_iand hx hb dX1_swingsOf_20 ?_
        refine lv_topi (fun y6 ey6 => ?_)
        have hF := bv_at ey6 hF
        refine lv_if_ne (tgt := 49) hx hb dX1_swingsOf_21 (by decide) (fun hc7 => ?_) (fun hc7 => ?_)
        · have hF := br_neg hc7 hF
          refine lv_iinc (k := 0) (v := (u4 + (1 : Int32))) (lv' := [(5, .int (u4 + (1 : Int32))), (4, .int u3), (3, .int y1), (0, .ref (aa 30)), (2, .int xb)]) hx hb dX1_swingsOf_49 hl rfl (ii_ _ _ _ (by decide)) (by decide) rfl (fun ls hl => ?_)
          refine lv_goto (tgt := 10) hx hb dX1_swingsOf_52 (by decide) ?_
          exact IH10 u3 (u4 + (1 : Int32)) _ _ _ hF hP hD hS (lv_sub hl [0, 1, 2, 3, 4] rfl)
        · have hF := br_pos hc7 hF
          refine lv_aload_n hx hb dX1_swingsOf_24 rfl (lv_at hl 3 rfl) ?_
          refine lv_iload hx hb dX1_swingsOf_25 (lv_at hl 0 rfl) ?_
          refine lv_iload_n hx hb dX1_swingsOf_27 rfl (lv_at hl 4 rfl) ?_
          obtain ⟨r9, hC8, hF⟩ := calp_some hF
          have hFc := b_free (ws := bw q aa Z) hD hS hA
          refine va_calli (va_runV (As := [.int u4, .int xb]) (rest := []) ⟨hx, hb, hml, hown, hts⟩ (c_X1_isRuling l dC dI q aa Z u4 xb  _ _  hC8) (cwV 2 hts gX1_swingsOf_X1_isRuling rfl rfl rfl (by decide +kernel) ⟨Nat.le_of_ble_eq_true rfl, Nat.le_of_ble_eq_true rfl⟩) ⟨pr_blind, va_recv hK hP (ci := 3) (q0 := 30) rfl (bw_at (i := 30) (by decide) rfl), fun U hU hW => ⟨rfl, pr_mk hU hW hP hK hD⟩⟩ rfl rfl hl.1 rfl (lv_room (Nat.le_of_ble_eq_true rfl)) dX1_swingsOf_28 ⟨Nat.le_of_ble_eq_true rfl, Nat.le_of_ble_eq_true rfl⟩) hS (fun x _ h => hFc x h) hFc (fun rr10 u t H1 locs ht hvm hw hB hz1 hk1 hS => ?_)
          obtain ⟨hP, hK1, hD1⟩ := hB
          rw [ht] at hP
          have hD := hD1.weaken (fun _ q9 _ h9 => hFc q9.1 h9)
          clear hFc hD1 hK1 hvm hz1 hk1
          generalize H1 = H at hP hS ⊢
          refine W.widen (k := 0) (n := 0) (Nat.le_refl _) (Nat.le_refl _) ?_
          obtain rfl : rr10 = r9 := hw
          refine lv_if_ne (tgt := 49) hx hb dX1_swingsOf_31 (by decide) (fun hc11 => ?_) (fun hc11 => ?_)
          · have hF := br_neg hc11 hF
            refine lv_iinc (k := 0) (v := (u4 + (1 : Int32))) (lv' := [(5, .int (u4 + (1 : Int32))), (4, .int u3), (3, .int y1), (0, .ref (aa 30)), (2, .int xb)]) hx hb dX1_swingsOf_49 hl rfl (ii_ _ _ _ (by decide)) (by decide) rfl (fun ls hl => ?_)
            refine lv_goto (tgt := 10) hx hb dX1_swingsOf_52 (by decide) ?_
            exact IH10 u3 (u4 + (1 : Int32)) _ _ _ hF hP hD hS (lv_sub hl [0, 1, 2, 3, 4] rfl)
          · have hF := br_pos hc11 hF
            refine lv_aload_n hx hb dX1_swingsOf_34 rfl (lv_at hl 3 rfl) ?_
            refine lv_iload hx hb dX1_swingsOf_35 (lv_at hl 0 rfl) ?_
            refine lv_iload_n hx hb dX1_swingsOf_37 rfl (lv_at hl 2 rfl) ?_
            refine lv_ior hx hb dX1_swingsOf_38 ?_
            refine lv_topi (fun y12 ey12 => ?_)
            have hF := bv_at ey12 hF
            refine lv_iload_n hx hb dX1_swingsOf_39 rfl (lv_at hl 4 rfl) ?_
            obtain ⟨r14, hC13, hF⟩ := calp_some hF
            have hFc := b_free (ws := bw q aa Z) hD hS hA
            refine va_calli (va_runV (As := [.int y12, .int xb]) (rest := []) ⟨hx, hb, hml, hown, hts⟩ (c_X1_isRuling l dC dI q aa Z y12 xb  _ _  hC13) (cwV 2 hts gX1_swingsOf_X1_isRuling rfl rfl rfl (by decide +kernel) ⟨Nat.le_of_ble_eq_true rfl, Nat.le_of_ble_eq_true rfl⟩) ⟨pr_blind, va_recv hK hP (ci := 3) (q0 := 30) rfl (bw_at (i := 30) (by decide) rfl), fun U hU hW => ⟨rfl, pr_mk hU hW hP hK hD⟩⟩ rfl rfl hl.1 rfl (lv_room (Nat.le_of_ble_eq_true rfl)) dX1_swingsOf_40 ⟨Nat.le_of_ble_eq_true rfl, Nat.le_of_ble_eq_true rfl⟩) hS (fun x _ h => hFc x h) hFc (fun rr15 u t H1 locs ht hvm hw hB hz1 hk1 hS => ?_)
            obtain ⟨hP, hK1, hD1⟩ := hB
            rw [ht] at hP
            have hD := hD1.weaken (fun _ q9 _ h9 => hFc q9.1 h9)
            clear hFc hD1 hK1 hvm hz1 hk1
            generalize H1 = H at hP hS ⊢
            refine W.widen (k := 0) (n := 0) (Nat.le_refl _) (Nat.le_refl _) ?_
            obtain rfl : rr15 = r14 := hw
            refine lv_if_eq (tgt := 49) hx hb dX1_swingsOf_43 (by decide) (fun hc16 => ?_) (fun hc16 => ?_)
            · have hF := br_pos hc16 hF
              refine lv_iinc (k := 0) (v := (u4 + (1 : Int32))) (lv' := [(5, .int (u4 + (1 : Int32))), (4, .int u3), (3, .int y1), (0, .ref (aa 30)), (2, .int xb)]) hx hb dX1_swingsOf_49 hl rfl (ii_ _ _ _ (by decide)) (by decide) rfl (fun ls hl => ?_)
              refine lv_goto (tgt := 10) hx hb dX1_swingsOf_52 (by decide) ?_
              exact IH10 u3 (u4 + (1 : Int32)) _ _ _ hF hP hD hS (lv_sub hl [0, 1, 2, 3, 4] rfl)
            · have hF := br_neg hc16 hF
              refine lv_iinc (k := 1) (v := (u3 + (1 : Int32))) (lv' := [(4, .int (u3 + (1 : Int32))), (5, .int u4), (3, .int y1), (0, .ref (aa 30)), (2, .int xb)]) hx hb dX1_swingsOf_46 hl rfl (ii_ _ _ _ (by decide)) (by decide) rfl (fun ls hl => ?_)
              refine lv_iinc (k := 1) (v := (u4 + (1 : Int32))) (lv' := [(5, .int (u4 + (1 : Int32))), (4, .int (u3 + (1 : Int32))), (3, .int y1), (0, .ref (aa 30)), (2, .int xb)]) hx hb dX1_swingsOf_49 hl rfl (ii_ _ _ _ (by decide)) (by decide) rfl (fun ls hl => ?_)
              refine lv_goto (tgt := 10) hx hb dX1_swingsOf_52 (by decide) ?_
              exact IH10 (u3 + (1 : Int32)) (u4 + (1 : Int32)) _ _ _ hF hP hD hS (lv_sub hl [0, 1, 2, 3, 4] rfl)
  exact L10 100 (0 : Int32) (0 : Int32) _ _ _ hF hP hD hS (lv_sub hl [0, 1, 2, 3, 5] rfl)

noncomputable def F_X1_isLess (Z : Mem) (xa : Int32) (xb : Int32) : Option Int32 :=
  calp (F_J6_bitCount_0f7a4 Z xa) fun rr3 => calp (F_J6_bitCount_0f7a4 Z xb) fun rr6 => br (rr3 = rr6) (calp (F_X1_seatsTogether Z xa) fun rr10 => calp (F_X1_seatsTogether Z xb) fun rr13 => br (rr13 ≤ rr10) (some (0 : Int32)) (some (1 : Int32))) (br (rr6 ≤ rr3) (some (0 : Int32)) (some (1 : Int32)))

set_option maxHeartbeats 4000000 in
set_option maxRecDepth 100000 in
theorem c_X1_isLess (l : Launch) (dC : Nat → ClassId) (dI : Nat → Nat → Nat) (q : Nat → ClassId) (aa : Nat → Nat) (Z : Mem) (xa : Int32) (xb : Int32)  (sz : Nat) (ro : Int32) (hF : F_X1_isLess Z xa xb = some ro) : Met l yX1_isLess wsX1_isLess ({ frames := 3, cells := 0, slots := 0, locals := 63 }) (va_Pc [.ref (aa 30), .int xa, .int xb] (pr_ dC dI (bw q aa Z) (bty q) sz)) (va_Qi (fun (r : Int32) (_ : Unit) => r = ro) (fun (_ : Unit) t => po_ dC dI (bw q aa Z) (bty q) (va_A (bw q aa Z) sz) t) (va_A (bw q aa Z) sz)) 0 0 (va_A (bw q aa Z) sz) := by
  refine Met.ofW (cc := cX1_isLess) (maxL := 5) (ret := (some .boolean)) (by decide) rfl ?_
  intro p e s m args below meth c s₁ B hml hv
  obtain ⟨hargs, hsz, hP, hK, hD0⟩ := hv
  have hx := B.exec
  have hb := B.bytes
  have hr := B.returns
  have hts := atoms_spec (ws := wsX1_isLess) B.pre
  have hown : s.vm.findClass RX1 = some m.cls := findClass_of_methodNamed B.named
  have hlocks := B.notSynchronized
  subst hsz
  have hD := hD0.self (sz := s.heap.size)
  generalize hAe : va_A (bw q aa Z) s.heap.size = A at hD ⊢
  have hA : ∀ x : Nat, s.heap.size ≤ x → A x := fun x h => by rw [← hAe]; exact Or.inr h
  have hS : va_S A s.heap s.heap [] := va_S.rf
  have hl := lv_entry ([.ref (aa 30), .int xa, .int xb]) (n := 5) (Nat.le_of_ble_eq_true rfl)
  refine w_ent hargs ?_
  rw [lg_entry_eq]
  generalize (lg_sl ([.ref (aa 30), .int xa, .int xb]) ++ List.replicate (5 - (lg_sl ([.ref (aa 30), .int xa, .int xb])).length) Slot.unset).toArray = ls at hl ⊢
  have hl : lv_has ls 5 [(0, .ref (aa 30)), (1, .int xa), (2, .int xb)] := hl
  unfold F_X1_isLess at hF
  refine w_go (fun Q hQ => ?_)
  refine lv_iload_n hx hb dX1_isLess_0 rfl (lv_at hl 1 rfl) ?_
  obtain ⟨r2, hC1, hF⟩ := calp_some hF
  have hFc := b_free (ws := bw q aa Z) hD hS hA
  refine va_calli (va_runS (As := [.int xa]) (rest := []) ⟨hx, hb, hml, hown, hts⟩ (c_J6_bitCount_0f7a4 l dC dI q aa Z xa  _ _  hC1) (va_cwS 1 hts gX1_isLess_J6_bitCount_0f7a4 rfl rfl rfl (by decide +kernel) ⟨Nat.le_of_ble_eq_true rfl, Nat.le_of_ble_eq_true rfl⟩) ⟨pr_blind, fun U hU hW => ⟨rfl, pr_mk hU hW hP hK hD⟩⟩ rfl rfl hl.1 rfl (lv_room (Nat.le_of_ble_eq_true rfl)) dX1_isLess_1 ⟨Nat.le_of_ble_eq_true rfl, Nat.le_of_ble_eq_true rfl⟩) hS (fun x _ h => hFc x h) hFc (fun rr3 u t H1 locs ht hvm hw hB hz1 hk1 hS => ?_)
  obtain ⟨hP, hK1, hD1⟩ := hB
  rw [ht] at hP
  have hD := hD1.weaken (fun _ q9 _ h9 => hFc q9.1 h9)
  clear hFc hD1 hK1 hvm hz1 hk1
  generalize H1 = H at hP hS ⊢
  refine W.widen (k := 0) (n := 0) (Nat.le_refl _) (Nat.le_refl _) ?_
  obtain rfl : rr3 = r2 := hw
  refine lv_istore_n (lv' := [(3, .int rr3), (0, .ref (aa 30)), (1, .int xa), (2, .int xb)]) hx hb dX1_isLess_4 rfl hl (by decide) rfl (fun ls hl => ?_)
  refine lv_iload_n hx hb dX1_isLess_5 rfl (lv_at hl 3 rfl) ?_
  obtain ⟨r5, hC4, hF⟩ := calp_some hF
  have hFc := b_free (ws := bw q aa Z) hD hS hA
  refine va_calli (va_runS (As := [.int xb]) (rest := []) ⟨hx, hb, hml, hown, hts⟩ (c_J6_bitCount_0f7a4 l dC dI q aa Z xb  _ _  hC4) (va_cwS 1 hts gX1_isLess_J6_bitCount_0f7a4 rfl rfl rfl (by decide +kernel) ⟨Nat.le_of_ble_eq_true rfl, Nat.le_of_ble_eq_true rfl⟩) ⟨pr_blind, fun U hU hW => ⟨rfl, pr_mk hU hW hP hK hD⟩⟩ rfl rfl hl.1 rfl (lv_room (Nat.le_of_ble_eq_true rfl)) dX1_isLess_6 ⟨Nat.le_of_ble_eq_true rfl, Nat.le_of_ble_eq_true rfl⟩) hS (fun x _ h => hFc x h) hFc (fun rr6 u t H1 locs ht hvm hw hB hz1 hk1 hS => ?_)
  obtain ⟨hP, hK1, hD1⟩ := hB
  rw [ht] at hP
  have hD := hD1.weaken (fun _ q9 _ h9 => hFc q9.1 h9)
  clear hFc hD1 hK1 hvm hz1 hk1
  generalize H1 = H at hP hS ⊢
  refine W.widen (k := 0) (n := 0) (Nat.le_refl _) (Nat.le_refl _) ?_
  obtain rfl : rr6 = r5 := hw
  refine lv_istore (lv' := [(4, .int rr6), (3, .int rr3), (0, .ref (aa 30)), (1, .int xa), (2, .int xb)]) hx hb dX1_isLess_9 hl (by decide) rfl (fun ls hl => ?_)
  refine lv_iload_n hx hb dX1_isLess_11 rfl (lv_at hl 1 rfl) ?_
  refine lv_iload hx hb dX1_isLess_12 (lv_at hl 0 rfl) ?_
  refine lv_icmp_eq (tgt := 29) hx hb dX1_isLess_14 (by decide) (fun hc7 => ?_) (fun hc7 => ?_)
  · have hF := br_pos hc7 hF
    refine lv_aload_n hx hb dX1_isLess_29 rfl (lv_at hl 2 rfl) ?_
    refine lv_iload_n hx hb dX1_isLess_30 rfl (lv_at hl 3 rfl) ?_
    obtain ⟨r9, hC8, hF⟩ := calp_some hF
    have hFc := b_free (ws := bw q aa Z) hD hS hA
    refine va_calli (va_runV (As := [.int xa]) (rest := []) ⟨hx, hb, hml, hown, hts⟩ (c_X1_seatsTogether l dC dI q aa Z xa  _ _  hC8) (cwV 1 hts gX1_isLess_X1_seatsTogether rfl rfl rfl (by decide +kernel) ⟨Nat.le_of_ble_eq_true rfl, Nat.le_of_ble_eq_true rfl⟩) ⟨pr_blind, va_recv hK hP (ci := 3) (q0 := 30) rfl (bw_at (i := 30) (by decide) rfl), fun U hU hW => ⟨rfl, pr_mk hU hW hP hK hD⟩⟩ rfl rfl hl.1 rfl (lv_room (Nat.le_of_ble_eq_true rfl)) dX1_isLess_31 ⟨Nat.le_of_ble_eq_true rfl, Nat.le_of_ble_eq_true rfl⟩) hS (fun x _ h => hFc x h) hFc (fun rr10 u t H1 locs ht hvm hw hB hz1 hk1 hS => ?_)
    obtain ⟨hP, hK1, hD1⟩ := hB
    rw [ht] at hP
    have hD := hD1.weaken (fun _ q9 _ h9 => hFc q9.1 h9)
    clear hFc hD1 hK1 hvm hz1 hk1
    generalize H1 = H at hP hS ⊢
    refine W.widen (k := 0) (n := 0) (Nat.le_refl _) (Nat.le_refl _) ?_
    obtain rfl : rr10 = r9 := hw
    refine lv_aload_n hx hb dX1_isLess_34 rfl (lv_at hl 2 rfl) ?_
    refine lv_iload_n hx hb dX1_isLess_35 rfl (lv_at hl 4 rfl) ?_
    obtain ⟨r12, hC11, hF⟩ := calp_some hF
    have hFc := b_free (ws := bw q aa Z) hD hS hA
    refine va_calli (va_runV (As := [.int xb]) (rest := [.int rr10]) ⟨hx, hb, hml, hown, hts⟩ (c_X1_seatsTogether l dC dI q aa Z xb  _ _  hC11) (cwV 1 hts gX1_isLess_X1_seatsTogether rfl rfl rfl (by decide +kernel) ⟨Nat.le_of_ble_eq_true rfl, Nat.le_of_ble_eq_true rfl⟩) ⟨pr_blind, va_recv hK hP (ci := 3) (q0 := 30) rfl (bw_at (i := 30) (by decide) rfl), fun U hU hW => ⟨rfl, pr_mk hU hW hP hK hD⟩⟩ rfl rfl hl.1 rfl (lv_room (Nat.le_of_ble_eq_true rfl)) dX1_isLess_36 ⟨Nat.le_of_ble_eq_true rfl, Nat.le_of_ble_eq_true rfl⟩) hS (fun x _ h => hFc x h) hFc (fun rr13 u t H1 locs ht hvm hw hB hz1 hk1 hS => ?_)
    obtain ⟨hP, hK1, hD1⟩ := hB
    rw [ht] at hP
    have hD := hD1.weaken (fun _ q9 _ h9 => hFc q9.1 h9)
    clear hFc hD1 hK1 hvm hz1 hk1
    generalize H1 = H at hP hS ⊢
    refine W.widen (k := 0) (n := 0) (Nat.le_refl _) (Nat.le_refl _) ?_
    obtain rfl : rr13 = r12 := hw
    refine lv_icmp_ge (tgt := 46) hx hb dX1_isLess_39 (by decide) (fun hc14 => ?_) (fun hc14 => ?_)
    · have hF := br_pos hc14 hF
      refine lv_iconst (v := 0) hx hb dX1_isLess_46 (by decide) ?_
      have e9 := some1 hF
      subst hQ
      exact W.zret (v := 0) hx hb hr rfl (fun t ht hW => ⟨⟨0, (), rfl, e9.symm, po_mk ht hW hP hK hD⟩, hS.F ht⟩) hS.2.2 dX1_isLess_47
    · have hF := br_neg hc14 hF
      refine lv_iconst (v := 1) hx hb dX1_isLess_42 (by decide) ?_
      refine lv_goto (tgt := 47) hx hb dX1_isLess_43 (by decide) ?_
      have e9 := some1 hF
      subst hQ
      exact W.zret (v := 1) hx hb hr rfl (fun t ht hW => ⟨⟨1, (), rfl, e9.symm, po_mk ht hW hP hK hD⟩, hS.F ht⟩) hS.2.2 dX1_isLess_47
  · have hF := br_neg hc7 hF
    refine lv_iload_n hx hb dX1_isLess_17 rfl (lv_at hl 1 rfl) ?_
    refine lv_iload hx hb dX1_isLess_18 (lv_at hl 0 rfl) ?_
    refine lv_icmp_ge (tgt := 27) hx hb dX1_isLess_20 (by decide) (fun hc15 => ?_) (fun hc15 => ?_)
    · have hF := br_pos hc15 hF
      refine lv_iconst (v := 0) hx hb dX1_isLess_27 (by decide) ?_
      have e9 := some1 hF
      subst hQ
      exact W.zret (v := 0) hx hb hr rfl (fun t ht hW => ⟨⟨0, (), rfl, e9.symm, po_mk ht hW hP hK hD⟩, hS.F ht⟩) hS.2.2 dX1_isLess_28
    · have hF := br_neg hc15 hF
      refine lv_iconst (v := 1) hx hb dX1_isLess_23 (by decide) ?_
      refine lv_goto (tgt := 28) hx hb dX1_isLess_24 (by decide) ?_
      have e9 := some1 hF
      subst hQ
      exact W.zret (v := 1) hx hb hr rfl (fun t ht hW => ⟨⟨1, (), rfl, e9.symm, po_mk ht hW hP hK hD⟩, hS.F ht⟩) hS.2.2 dX1_isLess_28

noncomputable def F_X1_leastRulers_x4 (w1 : Int32) : Option Int32 :=
  some w1

noncomputable def F_X1_leastRulers_l4 (Z : Mem) (xa : Int32) (K_4 : Int32 → Option Int32) : Nat → Int32 → Int32 → Option Int32
  | 0, _, _ => none
  | n4 + 1, u2, u3 =>
  br ((16 : Int32) ≤ u3) (K_4 u2) (calp (F_X1_isRuling Z u3 xa) fun rr7 => br (rr7 = (0 : Int32)) ((F_X1_leastRulers_l4 Z xa K_4 n4) u2 (u3 + (1 : Int32))) (br (u2 = (0 : Int32)) ((F_X1_leastRulers_l4 Z xa K_4 n4) u3 (u3 + (1 : Int32))) (calp (F_X1_isLess Z u3 u2) fun rr12 => br (rr12 = (0 : Int32)) ((F_X1_leastRulers_l4 Z xa K_4 n4) u2 (u3 + (1 : Int32))) ((F_X1_leastRulers_l4 Z xa K_4 n4) u3 (u3 + (1 : Int32))))))

noncomputable def F_X1_leastRulers (Z : Mem) (xa : Int32) : Option Int32 :=
  F_X1_leastRulers_l4 Z xa F_X1_leastRulers_x4 100 (0 : Int32) (1 : Int32)

set_option maxHeartbeats 4000000 in
set_option maxRecDepth 100000 in
theorem c_X1_leastRulers (l : Launch) (dC : Nat → ClassId) (dI : Nat → Nat → Nat) (q : Nat → ClassId) (aa : Nat → Nat) (Z : Mem) (xa : Int32)  (sz : Nat) (ro : Int32) (hF : F_X1_leastRulers Z xa = some ro) : Met l yX1_leastRulers wsX1_leastRulers ({ frames := 4, cells := 0, slots := 0, locals := 87 }) (va_Pc [.ref (aa 30), .int xa] (pr_ dC dI (bw q aa Z) (bty q) sz)) (va_Qi (fun (r : Int32) (_ : Unit) => r = ro) (fun (_ : Unit) t => po_ dC dI (bw q aa Z) (bty q) (va_A (bw q aa Z) sz) t) (va_A (bw q aa Z) sz)) 0 0 (va_A (bw q aa Z) sz) := by
  refine Met.ofW (cc := cX1_leastRulers) (maxL := 4) (ret := (some .int)) (by decide) rfl ?_
  intro p e s m args below meth c s₁ B hml hv
  obtain ⟨hargs, hsz, hP, hK, hD0⟩ := hv
  have hx := B.exec
  have hb := B.bytes
  have hr := B.returns
  have hts := atoms_spec (ws := wsX1_leastRulers) B.pre
  have hown : s.vm.findClass RX1 = some m.cls := findClass_of_methodNamed B.named
  have hlocks := B.notSynchronized
  subst hsz
  have hD := hD0.self (sz := s.heap.size)
  generalize hAe : va_A (bw q aa Z) s.heap.size = A at hD ⊢
  have hA : ∀ x : Nat, s.heap.size ≤ x → A x := fun x h => by rw [← hAe]; exact Or.inr h
  have hS : va_S A s.heap s.heap [] := va_S.rf
  have hl := lv_entry ([.ref (aa 30), .int xa]) (n := 4) (Nat.le_of_ble_eq_true rfl)
  refine w_ent hargs ?_
  rw [lg_entry_eq]
  generalize (lg_sl ([.ref (aa 30), .int xa]) ++ List.replicate (4 - (lg_sl ([.ref (aa 30), .int xa])).length) Slot.unset).toArray = ls at hl ⊢
  have hl : lv_has ls 4 [(0, .ref (aa 30)), (1, .int xa)] := hl
  unfold F_X1_leastRulers at hF
  refine w_go (fun Q hQ => ?_)
  refine lv_iconst (v := 0) hx hb dX1_leastRulers_0 (by decide) ?_
  refine lv_istore_n (lv' := [(2, .int 0), (0, .ref (aa 30)), (1, .int xa)]) hx hb dX1_leastRulers_1 rfl hl (by decide) rfl (fun ls hl => ?_)
  refine lv_iconst (v := 1) hx hb dX1_leastRulers_2 (by decide) ?_
  refine lv_istore_n (lv' := [(3, .int 1), (2, .int 0), (0, .ref (aa 30)), (1, .int xa)]) hx hb dX1_leastRulers_3 rfl hl (by decide) rfl (fun ls hl => ?_)
  have Jx4 : ∀ (w1 : Int32) (H : Heap) (locs : List Loc) (ls : Array Slot), F_X1_leastRulers_x4 w1 = some ro → va_P (dC, dI) vwCl (bw q aa Z) H → va_D A (bw q aa Z) → va_S A s.heap H locs → lv_has ls 4 [(2, .int w1)] → W p l e (headSpec wsX1_leastRulers ({ frames := 4, cells := 0, slots := 0, locals := 87 } : Room)).room s m args below meth c H locs 0 0 Q (F0 m 40 ls []) := by
    intro w1 H locs ls hF hP hD hS hl
    unfold F_X1_leastRulers_x4 at hF
    refine lv_iload_n hx hb dX1_leastRulers_40 rfl (lv_at hl 0 rfl) ?_
    have e9 := some1 hF
    subst hQ
    exact W.iret (v := w1) hx hb hr (fun t ht hW => ⟨⟨w1, (), rfl, e9.symm, po_mk ht hW hP hK hD⟩, hS.F ht⟩) hS.2.2 dX1_leastRulers_41
  have L4 : ∀ (n4 : Nat) (u2 : Int32) (u3 : Int32) (H : Heap) (locs : List Loc) (ls : Array Slot), F_X1_leastRulers_l4 Z xa F_X1_leastRulers_x4 n4 u2 u3 = some ro → va_P (dC, dI) vwCl (bw q aa Z) H → va_D A (bw q aa Z) → va_S A s.heap H locs → lv_has ls 4 [(3, .int u3), (2, .int u2), (0, .ref (aa 30)), (1, .int xa)] → W p l e (headSpec wsX1_leastRulers ({ frames := 4, cells := 0, slots := 0, locals := 87 } : Room)).room s m args below meth c H locs 0 0 Q (F0 m 4 ls []) := by
    intro n4
    induction n4 with
    | zero =>
      intro u2 u3 H locs ls hF
      rw [F_X1_leastRulers_l4] at hF
      cases hF
    | succ n4 IH4 =>
      intro u2 u3 H locs ls hF hP hD hS hl
      rw [F_X1_leastRulers_l4] at hF
      refine lv_iload_n hx hb dX1_leastRulers_4 rfl (lv_at hl 0 rfl) ?_
      refine lv_bipush (v := 16) hx hb dX1_leastRulers_5 (by decide) ?_
      refine lv_icmp_ge (tgt := 40) hx hb dX1_leastRulers_7 (by decide) (fun hc4 => ?_) (fun hc4 => ?_)
      · have hF := br_pos hc4 hF
        exact Jx4 u2 _ _ _ hF hP hD hS (lv_sub hl [1] rfl)
      · have hF := br_neg hc4 hF
        refine lv_aload_n hx hb dX1_leastRulers_10 rfl (lv_at hl 2 rfl) ?_
        refine lv_iload_n hx hb dX1_leastRulers_11 rfl (lv_at hl 0 rfl) ?_
        refine lv_iload_n hx hb dX1_leastRulers_12 rfl (lv_at hl 3 rfl) ?_
        obtain ⟨r6, hC5, hF⟩ := calp_some hF
        have hFc := b_free (ws := bw q aa Z) hD hS hA
        refine va_calli (va_runV (As := [.int u3, .int xa]) (rest := []) ⟨hx, hb, hml, hown, hts⟩ (c_X1_isRuling l dC dI q aa Z u3 xa  _ _  hC5) (cwV 2 hts gX1_leastRulers_X1_isRuling rfl rfl rfl (by decide +kernel) ⟨Nat.le_of_ble_eq_true rfl, Nat.le_of_ble_eq_true rfl⟩) ⟨pr_blind, va_recv hK hP (ci := 3) (q0 := 30) rfl (bw_at (i := 30) (by decide) rfl), fun U hU hW => ⟨rfl, pr_mk hU hW hP hK hD⟩⟩ rfl rfl hl.1 rfl (lv_room (Nat.le_of_ble_eq_true rfl)) dX1_leastRulers_13 ⟨Nat.le_of_ble_eq_true rfl, Nat.le_of_ble_eq_true rfl⟩) hS (fun x _ h => hFc x h) hFc (fun rr7 u t H1 locs ht hvm hw hB hz1 hk1 hS => ?_)
        obtain ⟨hP, hK1, hD1⟩ := hB
        rw [ht] at hP
        have hD := hD1.weaken (fun _ q9 _ h9 => hFc q9.1 h9)
        clear hFc hD1 hK1 hvm hz1 hk1
        generalize H1 = H at hP hS ⊢
        refine W.widen (k := 0) (n := 0) (Nat.le_refl _) (Nat.le_refl _) ?_
        obtain rfl : rr7 = r6 := hw
        refine lv_if_eq (tgt := 34) hx hb dX1_leastRulers_16 (by decide) (fun hc8 => ?_) (fun hc8 => ?_)
        · have hF := br_pos hc8 hF
          refine lv_iinc (k := 0) (v := (u3 + (1 : Int32))) (lv' := [(3, .int (u3 + (1 : Int32))), (2, .int u2), (0, .ref (aa 30)), (1, .int xa)]) hx hb dX1_leastRulers_34 hl rfl (ii_ _ _ _ (by decide)) (by decide) rfl (fun ls hl => ?_)
          refine lv_goto (tgt := 4) hx hb dX1_leastRulers_37 (by decide) ?_
          exact IH4 u2 (u3 + (1 : Int32)) _ _ _ hF hP hD hS (lv_sub hl [0, 1, 2, 3] rfl)
        · have hF := br_neg hc8 hF
          refine lv_iload_n hx hb dX1_leastRulers_19 rfl (lv_at hl 1 rfl) ?_
          refine lv_if_eq (tgt := 32) hx hb dX1_leastRulers_20 (by decide) (fun hc9 => ?_) (fun hc9 => ?_)
          · have hF := br_pos hc9 hF
            refine lv_iload_n hx hb dX1_leastRulers_32 rfl (lv_at hl 0 rfl) ?_
            refine lv_istore_n (lv' := [(2, .int u3), (3, .int u3), (0, .ref (aa 30)), (1, .int xa)]) hx hb dX1_leastRulers_33 rfl hl (by decide) rfl (fun ls hl => ?_)
            refine lv_iinc (k := 1) (v := (u3 + (1 : Int32))) (lv' := [(3, .int (u3 + (1 : Int32))), (2, .int u3), (0, .ref (aa 30)), (1, .int xa)]) hx hb dX1_leastRulers_34 hl rfl (ii_ _ _ _ (by decide)) (by decide) rfl (fun ls hl => ?_)
            refine lv_goto (tgt := 4) hx hb dX1_leastRulers_37 (by decide) ?_
            exact IH4 u3 (u3 + (1 : Int32)) _ _ _ hF hP hD hS (lv_sub hl [0, 1, 2, 3] rfl)
          · have hF := br_neg hc9 hF
            refine lv_aload_n hx hb dX1_leastRulers_23 rfl (lv_at hl 2 rfl) ?_
            refine lv_iload_n hx hb dX1_leastRulers_24 rfl (lv_at hl 0 rfl) ?_
            refine lv_iload_n hx hb dX1_leastRulers_25 rfl (lv_at hl 1 rfl) ?_
            obtain ⟨r11, hC10, hF⟩ := calp_some hF
            have hFc := b_free (ws := bw q aa Z) hD hS hA
            refine va_calli (va_runV (As := [.int u3, .int u2]) (rest := []) ⟨hx, hb, hml, hown, hts⟩ (c_X1_isLess l dC dI q aa Z u3 u2  _ _  hC10) (cwV 2 hts gX1_leastRulers_X1_isLess rfl rfl rfl (by decide +kernel) ⟨Nat.le_of_ble_eq_true rfl, Nat.le_of_ble_eq_true rfl⟩) ⟨pr_blind, va_recv hK hP (ci := 3) (q0 := 30) rfl (bw_at (i := 30) (by decide) rfl), fun U hU hW => ⟨rfl, pr_mk hU hW hP hK hD⟩⟩ rfl rfl hl.1 rfl (lv_room (Nat.le_of_ble_eq_true rfl)) dX1_leastRulers_26 ⟨Nat.le_of_ble_eq_true rfl, Nat.le_of_ble_eq_true rfl⟩) hS (fun x _ h => hFc x h) hFc (fun rr12 u t H1 locs ht hvm hw hB hz1 hk1 hS => ?_)
            obtain ⟨hP, hK1, hD1⟩ := hB
            rw [ht] at hP
            have hD := hD1.weaken (fun _ q9 _ h9 => hFc q9.1 h9)
            clear hFc hD1 hK1 hvm hz1 hk1
            generalize H1 = H at hP hS ⊢
            refine W.widen (k := 0) (n := 0) (Nat.le_refl _) (Nat.le_refl _) ?_
            obtain rfl : rr12 = r11 := hw
            refine lv_if_eq (tgt := 34) hx hb dX1_leastRulers_29 (by decide) (fun hc13 => ?_) (fun hc13 => ?_)
            · have hF := br_pos hc13 hF
              refine lv_iinc (k := 0) (v := (u3 + (1 : Int32))) (lv' := [(3, .int (u3 + (1 : Int32))), (2, .int u2), (0, .ref (aa 30)), (1, .int xa)]) hx hb dX1_leastRulers_34 hl rfl (ii_ _ _ _ (by decide)) (by decide) rfl (fun ls hl => ?_)
              refine lv_goto (tgt := 4) hx hb dX1_leastRulers_37 (by decide) ?_
              exact IH4 u2 (u3 + (1 : Int32)) _ _ _ hF hP hD hS (lv_sub hl [0, 1, 2, 3] rfl)
            · have hF := br_neg hc13 hF
              refine lv_iload_n hx hb dX1_leastRulers_32 rfl (lv_at hl 0 rfl) ?_
              refine lv_istore_n (lv' := [(2, .int u3), (3, .int u3), (0, .ref (aa 30)), (1, .int xa)]) hx hb dX1_leastRulers_33 rfl hl (by decide) rfl (fun ls hl => ?_)
              refine lv_iinc (k := 1) (v := (u3 + (1 : Int32))) (lv' := [(3, .int (u3 + (1 : Int32))), (2, .int u3), (0, .ref (aa 30)), (1, .int xa)]) hx hb dX1_leastRulers_34 hl rfl (ii_ _ _ _ (by decide)) (by decide) rfl (fun ls hl => ?_)
              refine lv_goto (tgt := 4) hx hb dX1_leastRulers_37 (by decide) ?_
              exact IH4 u3 (u3 + (1 : Int32)) _ _ _ hF hP hD hS (lv_sub hl [0, 1, 2, 3] rfl)
  exact L4 100 (0 : Int32) (1 : Int32) _ _ _ hF hP hD hS (lv_sub hl [0, 1, 2, 3] rfl)
