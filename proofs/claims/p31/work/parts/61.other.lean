/-! p31: the same box again, with one stack told otherwise. -/
theorem fxr {ws X : va_W} {e : Nat × va_E} {k : Nat} (h : ws[k]? = some e) : (ws ++ X)[k]? = some e := by
  rw [List.getElem?_append_left (List.getElem?_eq_some_iff.mp h).1]
  exact h
noncomputable def F_L_other_x161 (Z6 : Mem) : Option (Mem × Unit) :=
  some (Z6, ())

noncomputable def F_L_other_l161 (Y : TS) (K_161 : Mem → Option (Mem × Unit)) : Nat → Mem → Int32 → Option (Mem × Unit)
  | 0, _, _ => none
  | n161 + 1, Z8, u7 =>
  bv (nI (Y.1.1 1)) fun y9 => br (y9 ≤ u7) (K_161 Z8) (gd (¬ (u7 < 0 ∨ 6 ≤ ix u7)) <| bv (Y.1.2 2 (ix u7)) fun y12 => br (y12 = (0 : Int32)) ((F_L_other_l161 Y K_161 n161) Z8 (u7 + (1 : Int32))) (cal (F_X5_withdraw Z8 u7) fun Z16 ra17 => (F_L_other_l161 Y K_161 n161) Z16 (u7 + (1 : Int32))))

noncomputable def F_L_other_x93 (Y : TS) (Z5 : Mem) : Option (Mem × Unit) :=
  F_L_other_l161 Y F_L_other_x161 100 Z5 (0 : Int32)

noncomputable def F_L_other_j144 (Y : TS) (Z19 : Mem) (u18 : Int32) (B_93 : Mem → Int32 → Option (Mem × Unit)) (y24 : Int32) (v25 : Int32) : Option (Mem × Unit) :=
  bv (Y.1.2 (5 + (ix u18)) (ix (2 : Int32))) fun y26 => cal (F_X5_cast Z19 y24 v25 y26) fun Z29 ra30 => B_93 Z29 (u18 + (1 : Int32))

noncomputable def F_L_other_l93 (Y : TS) (xa : Int32) (xb : Int32) (K_93 : Mem → Option (Mem × Unit)) : Nat → Mem → Int32 → Option (Mem × Unit)
  | 0, _, _ => none
  | n93 + 1, Z19, u18 =>
  bv (nI (Y.1.1 4)) fun y20 => br (y20 ≤ u18) (K_93 Z19) (gd (¬ (u18 < 0 ∨ Y.1.1 4 ≤ ix u18)) <| bv (Y.1.2 (5 + (ix u18)) (ix (0 : Int32))) fun y24 => br (u18 = xa) ((F_L_other_j144 Y Z19 u18 (F_L_other_l93 Y xa xb K_93 n93) y24) xb) (bv (Y.1.2 (5 + (ix u18)) (ix (3 : Int32))) fun y32 => br (y32 = (1 : Int32)) ((F_L_other_j144 Y Z19 u18 (F_L_other_l93 Y xa xb K_93 n93) y24) (11 : Int32)) (bv (Y.1.2 (5 + (ix u18)) (ix (1 : Int32))) fun y34 => (F_L_other_j144 Y Z19 u18 (F_L_other_l93 Y xa xb K_93 n93) y24) y34)))

noncomputable def F_L_other_x63 (Y : TS) (xa : Int32) (xb : Int32) (Z4 : Mem) : Option (Mem × Unit) :=
  F_L_other_l93 Y xa xb (F_L_other_x93 Y) 100 Z4 (0 : Int32)

noncomputable def F_L_other_l63 (Y : TS) (y3 : Int32) (K_63 : Mem → Option (Mem × Unit)) : Nat → Mem → Int32 → Option (Mem × Unit)
  | 0, _, _ => none
  | n63 + 1, Z36, u35 =>
  br (y3 ≤ u35) (K_63 Z36) (gd (¬ (u35 < 0 ∨ Y.1.1 3 ≤ ix u35)) <| bv (Y.1.2 3 (ix u35)) fun y39 => cal (F_X5_district Z36 y39) fun Z42 ra43 => (F_L_other_l63 Y y3 K_63 n63) Z42 (u35 + (1 : Int32)))

noncomputable def F_L_other_x22 (Y : TS) (xa : Int32) (xb : Int32) (Z2 : Mem) : Option (Mem × Unit) :=
  bv (nI (Y.1.1 3)) fun y3 => F_L_other_l63 Y y3 (F_L_other_x63 Y xa xb) 100 Z2 (0 : Int32)

noncomputable def F_L_other_l22 (Y : TS) (y1 : Int32) (K_22 : Mem → Option (Mem × Unit)) : Nat → Mem → Int32 → Option (Mem × Unit)
  | 0, _, _ => none
  | n22 + 1, Z45, u44 =>
  br (y1 ≤ u44) (K_22 Z45) (gd (¬ (u44 < 0 ∨ Y.1.1 1 ≤ ix u44)) <| bv (Y.1.2 1 (ix u44)) fun y48 => cal (F_X5_candidate Z45 y48) fun Z51 ra52 => (F_L_other_l22 Y y1 K_22 n22) Z51 (u44 + (1 : Int32)))

noncomputable def F_L_other (Y : TS) (xa : Int32) (xb : Int32) : Option (Mem × Unit) :=
  bv (nI (Y.1.1 1)) fun y1 => F_L_other_l22 Y y1 (F_L_other_x22 Y xa xb) 100 Z0 (0 : Int32)

set_option maxHeartbeats 4000000 in
set_option maxRecDepth 100000 in
theorem c_L_other (l : Launch) (dC : Nat → ClassId) (dI : Nat → Nat → Nat) (q : Nat → ClassId) (ta aa : Nat → Nat) (sa : Nat) (Y : TS) (xa : Int32) (xb : Int32) (sz : Nat) (Zo : Mem) (hF : F_L_other Y xa xb = some (Zo, ())) : Met l yL_other wsL_other ({ frames := 7, cells := 91, slots := 585, locals := 155 }) (va_Pc [.ref (ta 0), .int xa, .int xb] (fun U => pr_ dC dI (ww q ta aa sa Y) (bty q) sz U ∧ ao_ U)) (va_Qr (fun (_ : (Nat → Nat) × (Nat → ClassId)) => True) (fun (u : (Nat → Nat) × (Nat → ClassId)) (RES : Nat) t => RES = u.1 0 ∧ po_ dC dI (ww q ta aa sa Y ++ bw u.2 u.1 Zo) (bty q ++ bty u.2) (va_A (ww q ta aa sa Y) sz) t) (va_A (ww q ta aa sa Y) sz)) 91 585 (va_A (ww q ta aa sa Y) sz) := by
  refine Met.ofW (cc := cL_other) (maxL := 8) (ret := (some (.object "BallotLoom"))) (by decide) rfl ?_
  intro p e s m args below meth c s₁ B hml hv
  obtain ⟨hargs, ⟨hsz, hP, hK, hD0⟩, hXs⟩ := hv
  have hx := B.exec
  have hb := B.bytes
  have hr := B.returns
  have hts := atoms_spec (ws := wsL_other) B.pre
  have hown : s.vm.findClass RL = some m.cls := findClass_of_methodNamed B.named
  have hlocks := B.notSynchronized
  subst hsz
  have hD := hD0.self (sz := s.heap.size)
  generalize hAe : va_A (ww q ta aa sa Y) s.heap.size = A at hD ⊢
  have hA : ∀ x : Nat, s.heap.size ≤ x → A x := fun x h => by rw [← hAe]; exact Or.inr h
  have hS : va_S A s.heap s.heap [] := va_S.rf
  have hinX5 : ∀ w ∈ u_ws RX5 TX5 5, w ∈ wsL_other := by decide +kernel
  have hinX6 : ∀ w ∈ u_ws RX6 TX6 9, w ∈ wsL_other := by decide +kernel
  have hl := lv_entry ([.ref (ta 0), .int xa, .int xb]) (n := 8) (Nat.le_of_ble_eq_true rfl)
  refine w_ent hargs ?_
  rw [lg_entry_eq]
  generalize (lg_sl ([.ref (ta 0), .int xa, .int xb]) ++ List.replicate (8 - (lg_sl ([.ref (ta 0), .int xa, .int xb])).length) Slot.unset).toArray = ls at hl ⊢
  have hl : lv_has ls 8 [(0, .ref (ta 0)), (1, .int xa), (2, .int xb)] := hl
  unfold F_L_other at hF
  refine w_go (fun Q hQ => ?_)
  refine va_new (ci := 7) (fs := [.null, .null, .null, .null, .null]) (C := RX5) (T := TX5) (N := 5) hx hb hts hinX5 tyX5 tyX5_ok hown (hts (.classLink RL 42 RX5) (by decide +kernel)) (hts (.instantiable RX5 5) (by decide +kernel)) (hts (.initialized RX5) (by decide +kernel)) hK hP hD hS hA rfl (by intro j hj; match j, hj with | 0, _ => rfl | 1, _ => rfl | 2, _ => rfl | 3, _ => rfl | 4, _ => rfl) (Nat.le_of_ble_eq_true rfl) (Nat.le_of_ble_eq_true rfl) dL_other_0 (fun o H hP hD hS => ?_)
  have hP : va_P (dC, dI) vwCl (ww q ta aa sa Y ++ [(o, .inr (7, [.null, .null, .null, .null, .null]))]) H := hP
  have hD : va_D A (ww q ta aa sa Y ++ [(o, .inr (7, [.null, .null, .null, .null, .null]))]) := hD
  refine W.widen (k := 1) (n := 5) (Nat.le_refl _) (Nat.le_refl _) ?_
  refine lv_dup hx hb dL_other_3 rfl ?_
  have hPc := sf_P hP
  have hDc := sf_D hD
  have hKc := hK.sub (tys' := []) [] rfl
  have hFc := b_free (ws := [(o, .inr (7, [.null, .null, .null, .null, .null]))]) hDc hS hA
  refine va_callv (va_runI (As := []) (rest := [.ref o]) ⟨hx, hb, hml, hown, hts⟩ (c_X5_init l dC dI o _) (cwI 0 hts gL_other_X5_init rfl rfl rfl (hts (.initialized RX5) (by decide +kernel)) (hts (.methodLink RL 87 yX5_init) (by decide +kernel)) (hts (.instanceMethod yX5_init) (by decide +kernel)) rfl (by decide +kernel) ⟨Nat.le_of_ble_eq_true rfl, Nat.le_of_ble_eq_true rfl⟩) ⟨pe_blind ao_bl, fun U hU hW => ⟨rfl, pr_mk hU hW hPc hKc hDc, ao_mk hW hXs⟩⟩ rfl rfl hl.1 rfl (lv_room (Nat.le_of_ble_eq_true rfl)) dL_other_4 ⟨Nat.le_of_ble_eq_true rfl, Nat.le_of_ble_eq_true rfl⟩) hS (fun x _ h => hFc x h) hFc (fun u t H1 locs ht hvm hw hB hz1 hk1 hS => ?_)
  obtain ⟨ab, q2⟩ := u
  obtain ⟨hu1, hu2, hP1, hK1, hD1⟩ := hB
  rw [ht] at hP1
  obtain ⟨hP, hD⟩ := sf_J hP hD hk1 hFc hP1 hD1
  have hK : va_K (dC, dI) vwCl (bty q ++ bty q2) s := hK.app (va_K.moved hvm.symm hK1)
  rw [← hu1]
  generalize H1 = H at hP hS ⊢
  refine W.widen (k := 91) (n := 585) (Nat.le_refl _) (Nat.le_refl _) ?_
  refine lv_astore_n (lv' := [(3, .ref (ab 0)), (0, .ref (ta 0)), (1, .int xa), (2, .int xb)]) hx hb dL_other_7 rfl hl (by decide) rfl (fun ls hl => ?_)
  refine lv_aload_n hx hb dL_other_8 rfl (lv_at hl 1 rfl) ?_
  refine va_get (D := (dC, dI)) (ci := 8) (v := .ref (ta 1)) (C := RX6) (T := TX6) (N := 9) hx hb hts hinX6 hown hK hP 0 (fxr ww_0) rfl 3 (by decide) (hts (.fieldLink RL 88 "BallotLoomLaw$Told" "parties" "[I") (by decide +kernel)) (fun _ h9 => h9) rfl dL_other_9 ?_
  refine lv_astore (lv' := [(4, .ref (ta 1)), (3, .ref (ab 0)), (0, .ref (ta 0)), (1, .int xa), (2, .int xb)]) hx hb dL_other_12 hl (by decide) rfl (fun ls hl => ?_)
  refine lv_aload hx hb dL_other_14 (lv_at hl 0 rfl) ?_
  refine va_alen (v := nI (Y.1.1 1)) hx hb hK hP 1 0 (fxr ww_1) rfl rfl dL_other_16 ?_
  refine lv_topi (fun y1 ey1 => ?_)
  have hF := bv_at ey1 hF
  refine lv_istore (lv' := [(5, .int y1), (4, .ref (ta 1)), (3, .ref (ab 0)), (0, .ref (ta 0)), (1, .int xa), (2, .int xb)]) hx hb dL_other_17 hl (by decide) rfl (fun ls hl => ?_)
  refine lv_iconst (v := 0) hx hb dL_other_19 (by decide) ?_
  refine lv_istore (lv' := [(6, .int 0), (5, .int y1), (4, .ref (ta 1)), (3, .ref (ab 0)), (0, .ref (ta 0)), (1, .int xa), (2, .int xb)]) hx hb dL_other_20 hl (by decide) rfl (fun ls hl => ?_)
  have Jx22 : ∀ (Z2 : Mem) (H : Heap) (locs : List Loc) (ls : Array Slot), (F_L_other_x22 Y xa xb) Z2 = some (Zo, ()) → va_P (dC, dI) vwCl (ww q ta aa sa Y ++ bw q2 ab Z2) H → va_D A (ww q ta aa sa Y ++ bw q2 ab Z2) → va_S A s.heap H locs → lv_has ls 8 [(3, .ref (ab 0)), (0, .ref (ta 0)), (1, .int xa), (2, .int xb)] → W p l e (headSpec wsL_other ({ frames := 7, cells := 91, slots := 585, locals := 155 } : Room)).room s m args below meth c H locs 91 585 Q (F0 m 49 ls []) := by
    intro Z2 H locs ls hF hP hD hS hl
    unfold F_L_other_x22 at hF
    refine lv_aload_n hx hb dL_other_49 rfl (lv_at hl 1 rfl) ?_
    refine va_get (D := (dC, dI)) (ci := 8) (v := .ref (ta 3)) (C := RX6) (T := TX6) (N := 9) hx hb hts hinX6 hown hK hP 0 (fxr ww_0) rfl 5 (by decide) (hts (.fieldLink RL 95 "BallotLoomLaw$Told" "seats" "[I") (by decide +kernel)) (fun _ h9 => h9) rfl dL_other_50 ?_
    refine lv_astore (lv' := [(4, .ref (ta 3)), (3, .ref (ab 0)), (0, .ref (ta 0)), (1, .int xa), (2, .int xb)]) hx hb dL_other_53 hl (by decide) rfl (fun ls hl => ?_)
    refine lv_aload hx hb dL_other_55 (lv_at hl 0 rfl) ?_
    refine va_alen (v := nI (Y.1.1 3)) hx hb hK hP 3 0 (fxr ww_3) rfl rfl dL_other_57 ?_
    refine lv_topi (fun y3 ey3 => ?_)
    have hF := bv_at ey3 hF
    refine lv_istore (lv' := [(5, .int y3), (4, .ref (ta 3)), (3, .ref (ab 0)), (0, .ref (ta 0)), (1, .int xa), (2, .int xb)]) hx hb dL_other_58 hl (by decide) rfl (fun ls hl => ?_)
    refine lv_iconst (v := 0) hx hb dL_other_60 (by decide) ?_
    refine lv_istore (lv' := [(6, .int 0), (5, .int y3), (4, .ref (ta 3)), (3, .ref (ab 0)), (0, .ref (ta 0)), (1, .int xa), (2, .int xb)]) hx hb dL_other_61 hl (by decide) rfl (fun ls hl => ?_)
    have Jx63 : ∀ (Z4 : Mem) (H : Heap) (locs : List Loc) (ls : Array Slot), (F_L_other_x63 Y xa xb) Z4 = some (Zo, ()) → va_P (dC, dI) vwCl (ww q ta aa sa Y ++ bw q2 ab Z4) H → va_D A (ww q ta aa sa Y ++ bw q2 ab Z4) → va_S A s.heap H locs → lv_has ls 8 [(3, .ref (ab 0)), (0, .ref (ta 0)), (1, .int xa), (2, .int xb)] → W p l e (headSpec wsL_other ({ frames := 7, cells := 91, slots := 585, locals := 155 } : Room)).room s m args below meth c H locs 91 585 Q (F0 m 90 ls []) := by
      intro Z4 H locs ls hF hP hD hS hl
      unfold F_L_other_x63 at hF
      refine lv_iconst (v := 0) hx hb dL_other_90 (by decide) ?_
      refine lv_istore (lv' := [(4, .int 0), (3, .ref (ab 0)), (0, .ref (ta 0)), (1, .int xa), (2, .int xb)]) hx hb dL_other_91 hl (by decide) rfl (fun ls hl => ?_)
      have Jx93 : ∀ (Z5 : Mem) (H : Heap) (locs : List Loc) (ls : Array Slot), (F_L_other_x93 Y) Z5 = some (Zo, ()) → va_P (dC, dI) vwCl (ww q ta aa sa Y ++ bw q2 ab Z5) H → va_D A (ww q ta aa sa Y ++ bw q2 ab Z5) → va_S A s.heap H locs → lv_has ls 8 [(3, .ref (ab 0)), (0, .ref (ta 0))] → W p l e (headSpec wsL_other ({ frames := 7, cells := 91, slots := 585, locals := 155 } : Room)).room s m args below meth c H locs 91 585 Q (F0 m 158 ls []) := by
        intro Z5 H locs ls hF hP hD hS hl
        unfold F_L_other_x93 at hF
        refine lv_iconst (v := 0) hx hb dL_other_158 (by decide) ?_
        refine lv_istore (lv' := [(4, .int 0), (3, .ref (ab 0)), (0, .ref (ta 0))]) hx hb dL_other_159 hl (by decide) rfl (fun ls hl => ?_)
        have Jx161 : ∀ (Z6 : Mem) (H : Heap) (locs : List Loc) (ls : Array Slot), F_L_other_x161 Z6 = some (Zo, ()) → va_P (dC, dI) vwCl (ww q ta aa sa Y ++ bw q2 ab Z6) H → va_D A (ww q ta aa sa Y ++ bw q2 ab Z6) → va_S A s.heap H locs → lv_has ls 8 [(3, .ref (ab 0))] → W p l e (headSpec wsL_other ({ frames := 7, cells := 91, slots := 585, locals := 155 } : Room)).room s m args below meth c H locs 91 585 Q (F0 m 194 ls []) := by
          intro Z6 H locs ls hF hP hD hS hl
          unfold F_L_other_x161 at hF
          refine lv_aload_n hx hb dL_other_194 rfl (lv_at hl 0 rfl) ?_
          obtain ⟨e8, e9⟩ := some2 hF
          rw [← e8] at hP hD
          subst hQ
          exact W.aret (v := .ref (ab 0)) (rt := (.object "BallotLoom")) hx hb hr (Or.inl ⟨_, rfl⟩) (Or.inr ⟨_, rfl⟩) (fun t ht hW => ⟨⟨⟨ab, q2⟩, ab 0, rfl, trivial, rfl, po_mk ht hW hP hK hD⟩, hS.F ht⟩) hS.2.2 dL_other_195
        have L161 : ∀ (n161 : Nat) (Z8 : Mem) (u7 : Int32) (H : Heap) (locs : List Loc) (ls : Array Slot), F_L_other_l161 Y F_L_other_x161 n161 Z8 u7 = some (Zo, ()) → va_P (dC, dI) vwCl (ww q ta aa sa Y ++ bw q2 ab Z8) H → va_D A (ww q ta aa sa Y ++ bw q2 ab Z8) → va_S A s.heap H locs → lv_has ls 8 [(4, .int u7), (3, .ref (ab 0)), (0, .ref (ta 0))] → W p l e (headSpec wsL_other ({ frames := 7, cells := 91, slots := 585, locals := 155 } : Room)).room s m args below meth c H locs 91 585 Q (F0 m 161 ls []) := by
          intro n161
          induction n161 with
          | zero =>
            intro Z8 u7 H locs ls hF
            rw [F_L_other_l161] at hF
            cases hF
          | succ n161 IH161 =>
            intro Z8 u7 H locs ls hF hP hD hS hl
            rw [F_L_other_l161] at hF
            refine lv_iload hx hb dL_other_161 (lv_at hl 0 rfl) ?_
            refine lv_aload_n hx hb dL_other_163 rfl (lv_at hl 2 rfl) ?_
            refine va_get (D := (dC, dI)) (ci := 8) (v := .ref (ta 1)) (C := RX6) (T := TX6) (N := 9) hx hb hts hinX6 hown hK hP 0 (fxr ww_0) rfl 3 (by decide) (hts (.fieldLink RL 88 "BallotLoomLaw$Told" "parties" "[I") (by decide +kernel)) (fun _ h9 => h9) rfl dL_other_164 ?_
            refine va_alen (v := nI (Y.1.1 1)) hx hb hK hP 1 0 (fxr ww_1) rfl rfl dL_other_167 ?_
            refine lv_topi (fun y9 ey9 => ?_)
            have hF := bv_at ey9 hF
            refine lv_icmp_ge (tgt := 194) hx hb dL_other_168 (by decide) (fun hc10 => ?_) (fun hc10 => ?_)
            · have hF := br_pos hc10 hF
              exact Jx161 Z8 _ _ _ hF hP hD hS (lv_sub hl [1] rfl)
            · have hF := br_neg hc10 hF
              refine lv_aload_n hx hb dL_other_171 rfl (lv_at hl 2 rfl) ?_
              refine va_get (D := (dC, dI)) (ci := 8) (v := .ref (ta 2)) (C := RX6) (T := TX6) (N := 9) hx hb hts hinX6 hown hK hP 0 (fxr ww_0) rfl 4 (by decide) (hts (.fieldLink RL 104 "BallotLoomLaw$Told" "gone" "[Z") (by decide +kernel)) (fun _ h9 => h9) rfl dL_other_172 ?_
              refine lv_iload hx hb dL_other_175 (lv_at hl 0 rfl) ?_
              obtain ⟨hg11, hF⟩ := gd_some hF
              refine va_zald hx hb hK hP 2 1 (fxr ww_2) rfl hg11 dL_other_177 ?_
              refine lv_topi (fun y12 ey12 => ?_)
              have hF := bv_at ey12 hF
              refine lv_if_eq (tgt := 188) hx hb dL_other_178 (by decide) (fun hc13 => ?_) (fun hc13 => ?_)
              · have hF := br_pos hc13 hF
                refine lv_iinc (k := 0) (v := (u7 + (1 : Int32))) (lv' := [(4, .int (u7 + (1 : Int32))), (3, .ref (ab 0)), (0, .ref (ta 0))]) hx hb dL_other_188 hl rfl (ii_ _ _ _ (by decide)) (by decide) rfl (fun ls hl => ?_)
                refine lv_goto (tgt := 161) hx hb dL_other_191 (by decide) ?_
                exact IH161 Z8 (u7 + (1 : Int32)) _ _ _ hF hP hD hS (lv_sub hl [0, 1, 2] rfl)
              · have hF := br_neg hc13 hF
                refine lv_aload_n hx hb dL_other_181 rfl (lv_at hl 1 rfl) ?_
                refine lv_iload hx hb dL_other_182 (lv_at hl 0 rfl) ?_
                obtain ⟨Z16, rr15, hC14, hF⟩ := cal_some hF
                have hPc := sf_P hP
                have hDc := sf_D hD
                have hKc : va_K (dC, dI) vwCl (bty q2) s := hK.sub [5, 6, 7, 8, 9] rfl
                have hFc := b_free (ws := bw q2 ab Z8) hDc hS hA
                refine va_calli (va_runV (As := [.int u7]) (rest := []) ⟨hx, hb, hml, hown, hts⟩ (c_X5_withdraw l dC dI q2 ab Z8 u7 _ _ _ hC14) (cwV 1 hts gL_other_X5_withdraw rfl rfl rfl (by decide +kernel) ⟨Nat.le_of_ble_eq_true rfl, Nat.le_of_ble_eq_true rfl⟩) ⟨pr_blind, va_recv hKc hPc (ci := 7) (q0 := 0) rfl (bw_at (i := 0) (by decide) rfl), fun U hU hW => ⟨rfl, pr_mk hU hW hPc hKc hDc⟩⟩ rfl rfl hl.1 rfl (lv_room (Nat.le_of_ble_eq_true rfl)) dL_other_184 ⟨Nat.le_of_ble_eq_true rfl, Nat.le_of_ble_eq_true rfl⟩) hS (fun x _ h => hFc x h) hFc (fun ra17 u t H1 locs ht hvm hw hB hz1 hk1 hS => ?_)
                obtain ⟨hP1, hK1, hD1⟩ := hB
                rw [ht] at hP1
                obtain ⟨hP, hD⟩ := sf_J hP hD hk1 hFc hP1 hD1
                generalize H1 = H at hP hS ⊢
                refine W.widen (k := 91) (n := 585) (Nat.le_refl _) (Nat.le_refl _) ?_
                obtain rfl : ra17 = rr15 := hw
                refine lv_pop hx hb dL_other_187 rfl ?_
                refine lv_iinc (k := 0) (v := (u7 + (1 : Int32))) (lv' := [(4, .int (u7 + (1 : Int32))), (3, .ref (ab 0)), (0, .ref (ta 0))]) hx hb dL_other_188 hl rfl (ii_ _ _ _ (by decide)) (by decide) rfl (fun ls hl => ?_)
                refine lv_goto (tgt := 161) hx hb dL_other_191 (by decide) ?_
                exact IH161 Z16 (u7 + (1 : Int32)) _ _ _ hF hP hD hS (lv_sub hl [0, 1, 2] rfl)
        exact L161 100 Z5 (0 : Int32) _ _ _ hF hP hD hS (lv_sub hl [0, 1, 2] rfl)
      have L93 : ∀ (n93 : Nat) (Z19 : Mem) (u18 : Int32) (H : Heap) (locs : List Loc) (ls : Array Slot), F_L_other_l93 Y xa xb (F_L_other_x93 Y) n93 Z19 u18 = some (Zo, ()) → va_P (dC, dI) vwCl (ww q ta aa sa Y ++ bw q2 ab Z19) H → va_D A (ww q ta aa sa Y ++ bw q2 ab Z19) → va_S A s.heap H locs → lv_has ls 8 [(4, .int u18), (3, .ref (ab 0)), (0, .ref (ta 0)), (1, .int xa), (2, .int xb)] → W p l e (headSpec wsL_other ({ frames := 7, cells := 91, slots := 585, locals := 155 } : Room)).room s m args below meth c H locs 91 585 Q (F0 m 93 ls []) := by
        intro n93
        induction n93 with
        | zero =>
          intro Z19 u18 H locs ls hF
          rw [F_L_other_l93] at hF
          cases hF
        | succ n93 IH93 =>
          intro Z19 u18 H locs ls hF hP hD hS hl
          rw [F_L_other_l93] at hF
          refine lv_iload hx hb dL_other_93 (lv_at hl 0 rfl) ?_
          refine lv_aload_n hx hb dL_other_95 rfl (lv_at hl 2 rfl) ?_
          refine va_get (D := (dC, dI)) (ci := 8) (v := .ref (ta 4)) (C := RX6) (T := TX6) (N := 9) hx hb hts hinX6 hown hK hP 0 (fxr ww_0) rfl 6 (by decide) (hts (.fieldLink RL 29 "BallotLoomLaw$Told" "stacks" "[[I") (by decide +kernel)) (fun _ h9 => h9) rfl dL_other_96 ?_
          refine va_alen (v := nI (Y.1.1 4)) hx hb hK hP 4 4 (fxr ww_4) rfl rfl dL_other_99 ?_
          refine lv_topi (fun y20 ey20 => ?_)
          have hF := bv_at ey20 hF
          refine lv_icmp_ge (tgt := 158) hx hb dL_other_100 (by decide) (fun hc21 => ?_) (fun hc21 => ?_)
          · have hF := br_pos hc21 hF
            exact Jx93 Z19 _ _ _ hF hP hD hS (lv_sub hl [1, 2] rfl)
          · have hF := br_neg hc21 hF
            refine lv_aload_n hx hb dL_other_103 rfl (lv_at hl 2 rfl) ?_
            refine va_get (D := (dC, dI)) (ci := 8) (v := .ref (ta 4)) (C := RX6) (T := TX6) (N := 9) hx hb hts hinX6 hown hK hP 0 (fxr ww_0) rfl 6 (by decide) (hts (.fieldLink RL 29 "BallotLoomLaw$Told" "stacks" "[[I") (by decide +kernel)) (fun _ h9 => h9) rfl dL_other_104 ?_
            refine lv_iload hx hb dL_other_107 (lv_at hl 0 rfl) ?_
            obtain ⟨hg22, hF⟩ := gd_some hF
            have hk23 : ix u18 < Y.1.1 4 := tx_in hg22
            refine bq_ald (v := (ta (5 + (ix u18)))) (hty := rfl) hx hb hK hP 4 4 (fxr ww_4) rfl hg22 (if_pos hk23) dL_other_109 ?_
            refine lv_astore (lv' := [(5, .ref (ta (5 + (ix u18)))), (4, .int u18), (3, .ref (ab 0)), (0, .ref (ta 0)), (1, .int xa), (2, .int xb)]) hx hb dL_other_110 hl (by decide) rfl (fun ls hl => ?_)
            refine lv_aload_n hx hb dL_other_112 rfl (lv_at hl 2 rfl) ?_
            refine lv_aload hx hb dL_other_113 (lv_at hl 0 rfl) ?_
            refine lv_iconst (v := 0) hx hb dL_other_115 (by decide) ?_
            refine va_iald hx hb hK hP (5 + (ix u18)) 0 (fxr (ww_r hk23)) rfl (by unfold vp_in; decide) dL_other_116 ?_
            refine lv_topi (fun y24 ey24 => ?_)
            have hF := bv_at ey24 hF
            refine lv_iload hx hb dL_other_117 (lv_at hl 1 rfl) ?_
            refine lv_iload_n hx hb dL_other_119 rfl (lv_at hl 4 rfl) ?_
            have Jj144 : ∀ (v25 : Int32) (H : Heap) (locs : List Loc) (ls : Array Slot), (F_L_other_j144 Y Z19 u18 (F_L_other_l93 Y xa xb (F_L_other_x93 Y) n93) y24) v25 = some (Zo, ()) → va_P (dC, dI) vwCl (ww q ta aa sa Y ++ bw q2 ab Z19) H → va_D A (ww q ta aa sa Y ++ bw q2 ab Z19) → va_S A s.heap H locs → lv_has ls 8 [(5, .ref (ta (5 + (ix u18)))), (4, .int u18), (3, .ref (ab 0)), (0, .ref (ta 0)), (1, .int xa), (2, .int xb)] → W p l e (headSpec wsL_other ({ frames := 7, cells := 91, slots := 585, locals := 155 } : Room)).room s m args below meth c H locs 91 585 Q (F0 m 144 ls [.int v25, .int y24, .ref (ab 0)]) := by
              intro v25 H locs ls hF hP hD hS hl
              unfold F_L_other_j144 at hF
              refine lv_aload hx hb dL_other_144 (lv_at hl 0 rfl) ?_
              refine lv_iconst (v := 2) hx hb dL_other_146 (by decide) ?_
              refine va_iald hx hb hK hP (5 + (ix u18)) 0 (fxr (ww_r hk23)) rfl (by unfold vp_in; decide) dL_other_147 ?_
              refine lv_topi (fun y26 ey26 => ?_)
              have hF := bv_at ey26 hF
              obtain ⟨Z29, rr28, hC27, hF⟩ := cal_some hF
              have hPc := sf_P hP
              have hDc := sf_D hD
              have hKc : va_K (dC, dI) vwCl (bty q2) s := hK.sub [5, 6, 7, 8, 9] rfl
              have hFc := b_free (ws := bw q2 ab Z19) hDc hS hA
              refine va_calli (va_runV (As := [.int y24, .int v25, .int y26]) (rest := []) ⟨hx, hb, hml, hown, hts⟩ (c_X5_cast l dC dI q2 ab Z19 y24 v25 y26 _ _ _ hC27) (cwV 3 hts gL_other_X5_cast rfl rfl rfl (by decide +kernel) ⟨Nat.le_of_ble_eq_true rfl, Nat.le_of_ble_eq_true rfl⟩) ⟨pr_blind, va_recv hKc hPc (ci := 7) (q0 := 0) rfl (bw_at (i := 0) (by decide) rfl), fun U hU hW => ⟨rfl, pr_mk hU hW hPc hKc hDc⟩⟩ rfl rfl hl.1 rfl (lv_room (Nat.le_of_ble_eq_true rfl)) dL_other_148 ⟨Nat.le_of_ble_eq_true rfl, Nat.le_of_ble_eq_true rfl⟩) hS (fun x _ h => hFc x h) hFc (fun ra30 u t H1 locs ht hvm hw hB hz1 hk1 hS => ?_)
              obtain ⟨hP1, hK1, hD1⟩ := hB
              rw [ht] at hP1
              obtain ⟨hP, hD⟩ := sf_J hP hD hk1 hFc hP1 hD1
              generalize H1 = H at hP hS ⊢
              refine W.widen (k := 91) (n := 585) (Nat.le_refl _) (Nat.le_refl _) ?_
              obtain rfl : ra30 = rr28 := hw
              refine lv_pop hx hb dL_other_151 rfl ?_
              refine lv_iinc (k := 1) (v := (u18 + (1 : Int32))) (lv' := [(4, .int (u18 + (1 : Int32))), (5, .ref (ta (5 + (ix u18)))), (3, .ref (ab 0)), (0, .ref (ta 0)), (1, .int xa), (2, .int xb)]) hx hb dL_other_152 hl rfl (ii_ _ _ _ (by decide)) (by decide) rfl (fun ls hl => ?_)
              refine lv_goto (tgt := 93) hx hb dL_other_155 (by decide) ?_
              exact IH93 Z29 (u18 + (1 : Int32)) _ _ _ hF hP hD hS (lv_sub hl [0, 2, 3, 4, 5] rfl)
            refine lv_icmp_ne (tgt := 127) hx hb dL_other_120 (by decide) (fun hc31 => ?_) (fun hc31 => ?_)
            · have hF := br_neg hc31 hF
              refine lv_aload hx hb dL_other_127 (lv_at hl 0 rfl) ?_
              refine lv_iconst (v := 3) hx hb dL_other_129 (by decide) ?_
              refine va_iald hx hb hK hP (5 + (ix u18)) 0 (fxr (ww_r hk23)) rfl (by unfold vp_in; decide) dL_other_130 ?_
              refine lv_topi (fun y32 ey32 => ?_)
              have hF := bv_at ey32 hF
              refine lv_iconst (v := 1) hx hb dL_other_131 (by decide) ?_
              refine lv_icmp_ne (tgt := 140) hx hb dL_other_132 (by decide) (fun hc33 => ?_) (fun hc33 => ?_)
              · have hF := br_neg hc33 hF
                refine lv_aload hx hb dL_other_140 (lv_at hl 0 rfl) ?_
                refine lv_iconst (v := 1) hx hb dL_other_142 (by decide) ?_
                refine va_iald hx hb hK hP (5 + (ix u18)) 0 (fxr (ww_r hk23)) rfl (by unfold vp_in; decide) dL_other_143 ?_
                refine lv_topi (fun y34 ey34 => ?_)
                have hF := bv_at ey34 hF
                exact Jj144 y34 _ _ _ hF hP hD hS (lv_sub hl [0, 1, 2, 3, 4, 5] rfl)
              · have hF := br_pos hc33 hF
                refine lv_bipush (v := 11) hx hb dL_other_135 (by decide) ?_
                refine lv_goto (tgt := 144) hx hb dL_other_137 (by decide) ?_
                exact Jj144 (11 : Int32) _ _ _ hF hP hD hS (lv_sub hl [0, 1, 2, 3, 4, 5] rfl)
            · have hF := br_pos hc31 hF
              refine lv_iload_n hx hb dL_other_123 rfl (lv_at hl 5 rfl) ?_
              refine lv_goto (tgt := 144) hx hb dL_other_124 (by decide) ?_
              exact Jj144 xb _ _ _ hF hP hD hS (lv_sub hl [0, 1, 2, 3, 4, 5] rfl)
      exact L93 100 Z4 (0 : Int32) _ _ _ hF hP hD hS (lv_sub hl [0, 1, 2, 3, 4] rfl)
    have L63 : ∀ (n63 : Nat) (Z36 : Mem) (u35 : Int32) (H : Heap) (locs : List Loc) (ls : Array Slot), F_L_other_l63 Y y3 (F_L_other_x63 Y xa xb) n63 Z36 u35 = some (Zo, ()) → va_P (dC, dI) vwCl (ww q ta aa sa Y ++ bw q2 ab Z36) H → va_D A (ww q ta aa sa Y ++ bw q2 ab Z36) → va_S A s.heap H locs → lv_has ls 8 [(6, .int u35), (5, .int y3), (4, .ref (ta 3)), (3, .ref (ab 0)), (0, .ref (ta 0)), (1, .int xa), (2, .int xb)] → W p l e (headSpec wsL_other ({ frames := 7, cells := 91, slots := 585, locals := 155 } : Room)).room s m args below meth c H locs 91 585 Q (F0 m 63 ls []) := by
      intro n63
      induction n63 with
      | zero =>
        intro Z36 u35 H locs ls hF
        rw [F_L_other_l63] at hF
        cases hF
      | succ n63 IH63 =>
        intro Z36 u35 H locs ls hF hP hD hS hl
        rw [F_L_other_l63] at hF
        refine lv_iload hx hb dL_other_63 (lv_at hl 0 rfl) ?_
        refine lv_iload hx hb dL_other_65 (lv_at hl 1 rfl) ?_
        refine lv_icmp_ge (tgt := 90) hx hb dL_other_67 (by decide) (fun hc37 => ?_) (fun hc37 => ?_)
        · have hF := br_pos hc37 hF
          exact Jx63 Z36 _ _ _ hF hP hD hS (lv_sub hl [3, 4, 5, 6] rfl)
        · have hF := br_neg hc37 hF
          refine lv_aload hx hb dL_other_70 (lv_at hl 2 rfl) ?_
          refine lv_iload hx hb dL_other_72 (lv_at hl 0 rfl) ?_
          obtain ⟨hg38, hF⟩ := gd_some hF
          refine va_iald hx hb hK hP 3 0 (fxr ww_3) rfl hg38 dL_other_74 ?_
          refine lv_topi (fun y39 ey39 => ?_)
          have hF := bv_at ey39 hF
          refine lv_istore (lv' := [(7, .int y39), (6, .int u35), (5, .int y3), (4, .ref (ta 3)), (3, .ref (ab 0)), (0, .ref (ta 0)), (1, .int xa), (2, .int xb)]) hx hb dL_other_75 hl (by decide) rfl (fun ls hl => ?_)
          refine lv_aload_n hx hb dL_other_77 rfl (lv_at hl 4 rfl) ?_
          refine lv_iload hx hb dL_other_78 (lv_at hl 0 rfl) ?_
          obtain ⟨Z42, rr41, hC40, hF⟩ := cal_some hF
          have hPc := sf_P hP
          have hDc := sf_D hD
          have hKc : va_K (dC, dI) vwCl (bty q2) s := hK.sub [5, 6, 7, 8, 9] rfl
          have hFc := b_free (ws := bw q2 ab Z36) hDc hS hA
          refine va_calli (va_runV (As := [.int y39]) (rest := []) ⟨hx, hb, hml, hown, hts⟩ (c_X5_district l dC dI q2 ab Z36 y39 _ _ _ hC40) (cwV 1 hts gL_other_X5_district rfl rfl rfl (by decide +kernel) ⟨Nat.le_of_ble_eq_true rfl, Nat.le_of_ble_eq_true rfl⟩) ⟨pr_blind, va_recv hKc hPc (ci := 7) (q0 := 0) rfl (bw_at (i := 0) (by decide) rfl), fun U hU hW => ⟨rfl, pr_mk hU hW hPc hKc hDc⟩⟩ rfl rfl hl.1 rfl (lv_room (Nat.le_of_ble_eq_true rfl)) dL_other_80 ⟨Nat.le_of_ble_eq_true rfl, Nat.le_of_ble_eq_true rfl⟩) hS (fun x _ h => hFc x h) hFc (fun ra43 u t H1 locs ht hvm hw hB hz1 hk1 hS => ?_)
          obtain ⟨hP1, hK1, hD1⟩ := hB
          rw [ht] at hP1
          obtain ⟨hP, hD⟩ := sf_J hP hD hk1 hFc hP1 hD1
          generalize H1 = H at hP hS ⊢
          refine W.widen (k := 91) (n := 585) (Nat.le_refl _) (Nat.le_refl _) ?_
          obtain rfl : ra43 = rr41 := hw
          refine lv_pop hx hb dL_other_83 rfl ?_
          refine lv_iinc (k := 1) (v := (u35 + (1 : Int32))) (lv' := [(6, .int (u35 + (1 : Int32))), (7, .int y39), (5, .int y3), (4, .ref (ta 3)), (3, .ref (ab 0)), (0, .ref (ta 0)), (1, .int xa), (2, .int xb)]) hx hb dL_other_84 hl rfl (ii_ _ _ _ (by decide)) (by decide) rfl (fun ls hl => ?_)
          refine lv_goto (tgt := 63) hx hb dL_other_87 (by decide) ?_
          exact IH63 Z42 (u35 + (1 : Int32)) _ _ _ hF hP hD hS (lv_sub hl [0, 2, 3, 4, 5, 6, 7] rfl)
    exact L63 100 Z2 (0 : Int32) _ _ _ hF hP hD hS (lv_sub hl [0, 1, 2, 3, 4, 5, 6] rfl)
  have L22 : ∀ (n22 : Nat) (Z45 : Mem) (u44 : Int32) (H : Heap) (locs : List Loc) (ls : Array Slot), F_L_other_l22 Y y1 (F_L_other_x22 Y xa xb) n22 Z45 u44 = some (Zo, ()) → va_P (dC, dI) vwCl (ww q ta aa sa Y ++ bw q2 ab Z45) H → va_D A (ww q ta aa sa Y ++ bw q2 ab Z45) → va_S A s.heap H locs → lv_has ls 8 [(6, .int u44), (5, .int y1), (4, .ref (ta 1)), (3, .ref (ab 0)), (0, .ref (ta 0)), (1, .int xa), (2, .int xb)] → W p l e (headSpec wsL_other ({ frames := 7, cells := 91, slots := 585, locals := 155 } : Room)).room s m args below meth c H locs 91 585 Q (F0 m 22 ls []) := by
    intro n22
    induction n22 with
    | zero =>
      intro Z45 u44 H locs ls hF
      rw [F_L_other_l22] at hF
      cases hF
    | succ n22 IH22 =>
      intro Z45 u44 H locs ls hF hP hD hS hl
      rw [F_L_other_l22] at hF
      refine lv_iload hx hb dL_other_22 (lv_at hl 0 rfl) ?_
      refine lv_iload hx hb dL_other_24 (lv_at hl 1 rfl) ?_
      refine lv_icmp_ge (tgt := 49) hx hb dL_other_26 (by decide) (fun hc46 => ?_) (fun hc46 => ?_)
      · have hF := br_pos hc46 hF
        exact Jx22 Z45 _ _ _ hF hP hD hS (lv_sub hl [3, 4, 5, 6] rfl)
      · have hF := br_neg hc46 hF
        refine lv_aload hx hb dL_other_29 (lv_at hl 2 rfl) ?_
        refine lv_iload hx hb dL_other_31 (lv_at hl 0 rfl) ?_
        obtain ⟨hg47, hF⟩ := gd_some hF
        refine va_iald hx hb hK hP 1 0 (fxr ww_1) rfl hg47 dL_other_33 ?_
        refine lv_topi (fun y48 ey48 => ?_)
        have hF := bv_at ey48 hF
        refine lv_istore (lv' := [(7, .int y48), (6, .int u44), (5, .int y1), (4, .ref (ta 1)), (3, .ref (ab 0)), (0, .ref (ta 0)), (1, .int xa), (2, .int xb)]) hx hb dL_other_34 hl (by decide) rfl (fun ls hl => ?_)
        refine lv_aload_n hx hb dL_other_36 rfl (lv_at hl 4 rfl) ?_
        refine lv_iload hx hb dL_other_37 (lv_at hl 0 rfl) ?_
        obtain ⟨Z51, rr50, hC49, hF⟩ := cal_some hF
        have hPc := sf_P hP
        have hDc := sf_D hD
        have hKc : va_K (dC, dI) vwCl (bty q2) s := hK.sub [5, 6, 7, 8, 9] rfl
        have hFc := b_free (ws := bw q2 ab Z45) hDc hS hA
        refine va_calli (va_runV (As := [.int y48]) (rest := []) ⟨hx, hb, hml, hown, hts⟩ (c_X5_candidate l dC dI q2 ab Z45 y48 _ _ _ hC49) (cwV 1 hts gL_other_X5_candidate rfl rfl rfl (by decide +kernel) ⟨Nat.le_of_ble_eq_true rfl, Nat.le_of_ble_eq_true rfl⟩) ⟨pr_blind, va_recv hKc hPc (ci := 7) (q0 := 0) rfl (bw_at (i := 0) (by decide) rfl), fun U hU hW => ⟨rfl, pr_mk hU hW hPc hKc hDc⟩⟩ rfl rfl hl.1 rfl (lv_room (Nat.le_of_ble_eq_true rfl)) dL_other_39 ⟨Nat.le_of_ble_eq_true rfl, Nat.le_of_ble_eq_true rfl⟩) hS (fun x _ h => hFc x h) hFc (fun ra52 u t H1 locs ht hvm hw hB hz1 hk1 hS => ?_)
        obtain ⟨hP1, hK1, hD1⟩ := hB
        rw [ht] at hP1
        obtain ⟨hP, hD⟩ := sf_J hP hD hk1 hFc hP1 hD1
        generalize H1 = H at hP hS ⊢
        refine W.widen (k := 91) (n := 585) (Nat.le_refl _) (Nat.le_refl _) ?_
        obtain rfl : ra52 = rr50 := hw
        refine lv_pop hx hb dL_other_42 rfl ?_
        refine lv_iinc (k := 1) (v := (u44 + (1 : Int32))) (lv' := [(6, .int (u44 + (1 : Int32))), (7, .int y48), (5, .int y1), (4, .ref (ta 1)), (3, .ref (ab 0)), (0, .ref (ta 0)), (1, .int xa), (2, .int xb)]) hx hb dL_other_43 hl rfl (ii_ _ _ _ (by decide)) (by decide) rfl (fun ls hl => ?_)
        refine lv_goto (tgt := 22) hx hb dL_other_46 (by decide) ?_
        exact IH22 Z51 (u44 + (1 : Int32)) _ _ _ hF hP hD hS (lv_sub hl [0, 2, 3, 4, 5, 6, 7] rfl)
  exact L22 100 Z0 (0 : Int32) _ _ _ hF hP hD hS (lv_sub hl [0, 1, 2, 3, 4, 5, 6] rfl)
