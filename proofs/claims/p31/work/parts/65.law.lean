/-! p31: the law's own walk. -/
theorem sf_F {D : va_G} {cl : List vw_C} {T X : va_W} {H : Heap} (h : va_P D cl (T ++ X) H) : va_P D cl T H := by
  intro k r hk
  exact h k r (by rw [List.getElem?_append_left (List.getElem?_eq_some_iff.mp hk).1]; exact hk)
theorem sf_FD {A : Nat → Prop} {T X : va_W} (h : va_D A (T ++ X)) : va_D A T := by
  refine ⟨fun i j p r hp hr e => ?_, fun k r hr => ?_⟩
  · exact h.1 i j p r (by rw [List.getElem?_append_left (List.getElem?_eq_some_iff.mp hp).1]; exact hp) (by rw [List.getElem?_append_left (List.getElem?_eq_some_iff.mp hr).1]; exact hr) e
  · exact h.2 k r (by rw [List.getElem?_append_left (List.getElem?_eq_some_iff.mp hr).1]; exact hr)
theorem xs_bl {A : Nat → Prop} {is sa : Nat} {tx E : String} (U : State) (g : JFrame) (mk : MethodId) (a : Array Value) (h : xs_ A is tx sa E U) : xs_ A is tx sa E (U.calling g mk a) := ⟨vx_Zq.moved (u := U) (U := U.calling g mk a) (Vm.Alike.refl U.vm) h.1, vx_Zq.moved (u := U) (U := U.calling g mk a) (Vm.Alike.refl U.vm) h.2.1, vk_R.same (u := U) (U := U.calling g mk a) rfl h.2.2.1, va_Nw.same (u := U) (U := U.calling g mk a) rfl rfl h.2.2.2.1, dn_bl U g mk a h.2.2.2.2⟩
noncomputable def F_L_law_x2  : Option Int32 :=
  some (1 : Int32)

noncomputable def F_L_law_x319 (u1 : Int32) (B_2 : Int32 → Option Int32) (Y42 : TS) : Option Int32 :=
  B_2 (u1 + (1 : Int32))

noncomputable def F_L_law_l319 (L : Nat) (xs : Nat → Int32) (ra36 : Int32) (y41 : Int32) (K_319 : TS → Option Int32) : Nat → TS → Int32 → Option Int32
  | 0, _, _ => none
  | n319 + 1, Y44, u43 =>
  br ((4 : Int32) ≤ u43) (K_319 Y44) (cal (F_X5_ofParty Y44.2 u43 (4 : Int32)) fun z48 ra50 => bv (tz Y44 z48) fun Y49 => bv (ra36 >>> (u43 &&& 31)) fun y51 => bv (y51 &&& (1 : Int32)) fun y52 => br (ra50 = y52) (cal (F_X5_ofParty Y49.2 u43 (4 : Int32)) fun z56 ra58 => bv (tz Y49 z56) fun Y57 => br (ra58 = (1 : Int32)) (calt (F_X6_draw L xs Y57 (3 : Int32)) fun Y62 ra63 => cal (F_X5_share Y62.2 u43 y41 ra63) fun z66 ra68 => bv (tz Y62 z66) fun Y67 => br (ra68 = (0 : Int32)) ((F_L_law_l319 L xs ra36 y41 K_319 n319) Y67 (u43 + (1 : Int32))) (some (0 : Int32))) ((F_L_law_l319 L xs ra36 y41 K_319 n319) Y57 (u43 + (1 : Int32)))) (some (0 : Int32)))

noncomputable def F_L_law_x57 (L : Nat) (xs : Nat → Int32) (u1 : Int32) (B_2 : Int32 → Option Int32) (Y22 : TS) : Option Int32 :=
  calt (F_L_isSealed L xs Y22) fun Y23 ra26 => br (ra26 = (0 : Int32)) (some (0 : Int32)) (calt (F_X6_draw L xs Y23 (21 : Int32)) fun Y30 ra31 => cal (F_X5_threshold Y30.2 ra31) fun z34 ra36 => bv (tz Y30 z34) fun Y35 => calt (F_X6_draw L xs Y35 (60 : Int32)) fun Y39 ra40 => bv ((1 : Int32) + ra40) fun y41 => F_L_law_l319 L xs ra36 y41 (F_L_law_x319 u1 B_2) 5 Y39 (0 : Int32))

noncomputable def F_L_law_x197 (u70 : Int32) (B_57 : TS → Int32 → Option Int32) (ra103 : Int32) (Y134 : TS) (w133 : Int32) : Option Int32 :=
  br (w133 = ra103) (B_57 Y134 (u70 + (1 : Int32))) (some (0 : Int32))

noncomputable def F_L_law_j256 (Y139 : TS) (u138 : Int32) (B_197 : TS → Int32 → Int32 → Int32 → Option Int32) (v157 : Int32) (v158 : Int32) : Option Int32 :=
  bv (u138 / (10 : Int32)) fun y159 => B_197 Y139 v157 v158 y159

noncomputable def F_L_law_l197 (ra77 : Int32) (y80 : Int32) (ra84 : Int32) (ra129 : Int32) (K_197 : TS → Int32 → Option Int32) : Nat → TS → Int32 → Int32 → Int32 → Option Int32
  | 0, _, _, _, _ => none
  | n197 + 1, Y139, u136, u137, u138 =>
  br (u138 ≤ (0 : Int32)) (K_197 Y139 u137) (bv (u138 - u138 / (10 : Int32) * (10 : Int32)) fun y141 => bv (y141 - (1 : Int32)) fun y142 => calp (F_X6_firstOf  ra129 y142) fun ra145 => cal (F_L_other Y139 ra77 ra145) fun Z146 _ => cal (F_X5_winner Z146 y80 ra84) fun z152 ra153 => calp (F_X6_place  ra129 ra153) fun ra156 => br (ra156 < u136) ((F_L_law_j256 Y139 u138 (F_L_law_l197 ra77 y80 ra84 ra129 K_197 n197)) ra156 y142) ((F_L_law_j256 Y139 u138 (F_L_law_l197 ra77 y80 ra84 ra129 K_197 n197)) u136 u137))

noncomputable def F_L_law_l57 (L : Nat) (xs : Nat → Int32) (K_57 : TS → Option Int32) : Nat → TS → Int32 → Option Int32
  | 0, _, _ => none
  | n57 + 1, Y71, u70 =>
  br ((3 : Int32) ≤ u70) (K_57 Y71) (bv (nI (Y71.1.1 4)) fun y73 => calt (F_X6_draw L xs Y71 y73) fun Y76 ra77 => gd (¬ (ra77 < 0 ∨ Y76.1.1 4 ≤ ix ra77)) <| bv (Y76.1.2 (5 + (ix ra77)) (ix (0 : Int32))) fun y80 => calt (F_X6_draw L xs Y76 (4 : Int32)) fun Y83 ra84 => calt (F_X6_ranks L xs Y83 ) fun Y87 ra88 => cal (F_X5_digest Y87.2 ) fun z91 ra93 => bv (tz Y87 z91) fun Y92 => cal (F_X5_wouldWin Y92.2 ra77 ra88 ra84) fun z96 ra98 => bv (tz Y92 z96) fun Y97 => cal (F_X5_lie Y97.2 ra77 ra84) fun z101 ra103 => bv (tz Y97 z101) fun Y102 => cal (F_X5_winner Y102.2 y80 ra84) fun z106 ra108 => bv (tz Y102 z106) fun Y107 => cal (F_X5_digest Y107.2 ) fun z111 ra113 => bv (tz Y107 z111) fun Y112 => bv (lg_cmp ra113 ra93) fun y114 => br (y114 = (0 : Int32)) (cal (F_L_other Y112 ra77 ra88) fun Z116 _ => cal (F_X5_winner Z116 y80 ra84) fun z122 ra123 => br (ra123 = ra98) (gd (¬ (ra77 < 0 ∨ Y112.1.1 4 ≤ ix ra77)) <| calp (F_X6_list L xs Y112 (ix ra77)) fun ra129 => calp (F_X6_place  ra129 ra108) fun ra132 => F_L_law_l197 ra77 y80 ra84 ra129 (F_L_law_x197 u70 (F_L_law_l57 L xs K_57 n57) ra103) 8 Y112 ra132 ((-1) : Int32) ra129) (some (0 : Int32))) (some (0 : Int32)))

noncomputable def F_L_law_l2 (L : Nat) (xs : Nat → Int32) (K_2 : Option Int32) : Nat → Int32 → Option Int32
  | 0, _ => none
  | n2 + 1, u1 =>
  br ((3 : Int32) ≤ u1) (K_2) (bv ((31 : Int32) * u1) fun y3 => bv (y3 + (7 : Int32)) fun y4 => bv (Yi y4) fun Y5 => calt (F_X6_founded L xs Y5 (2 : Int32) (9 : Int32)) fun Y8 ra9 => br (ra9 = (0 : Int32)) (some (0 : Int32)) (calt (F_X6_change L xs Y8 ) fun Y14 ra15 => br (ra15 = (0 : Int32)) (some (0 : Int32)) (calt (F_X6_withdraw L xs Y14 ) fun Y19 ra20 => br (ra20 = (0 : Int32)) (some (0 : Int32)) (F_L_law_l57 L xs (F_L_law_x57 L xs u1 (F_L_law_l2 L xs K_2 n2)) 4 Y19 (0 : Int32)))))

noncomputable def F_L_law (L : Nat) (xs : Nat → Int32) : Option Int32 :=
  F_L_law_l2 L xs F_L_law_x2 4 (0 : Int32)

set_option maxHeartbeats 8000000 in
set_option maxRecDepth 100000 in
theorem lw_body {p : Program} {e : Env} {s : State} {m : MethodId} {below : List Frame} {meth : Method} {c : Code} (l : Launch) (hfl : l.stackTraces = false) {sa L : Nat} {xs : Nat → Int32} (hF : F_L_law L xs = some 1) (C0 : lw_At p s m meth c sa L xs) : W p l e room_1 s m #[Value.ref sa] below meth c s.heap [] 0 0 (lw_Z below #[Value.ref sa] s) (entryFrame m ([Value.ref sa] : List Value).toArray 20) := by
  obtain ⟨hx, hb, hr, hml, hown0, hts0, hX, hbl, hlocks, hgv⟩ := id C0
  have hb : c.code = cL_law := hb
  have hown : s.vm.findClass RL = some m.cls := hown0
  have hts : ∀ w ∈ lw_tbl9, w.before #[Value.ref sa] s = true := lw_ex_ok hts0
  obtain ⟨hXs, tx, sc, hX2⟩ := lw_start C0
  obtain ⟨c0, iS0, hKn0⟩ := u_known (C := RJ0) (T := TJ0) (N := 4) (n := 4) hts inJ0 (hts (.instantiable RJ0 4) (by decide +kernel))
  obtain ⟨c1, iS1, hKn1⟩ := u_known (C := RJ4) (T := TJ4) (N := 4) (n := 4) hts inJ4 (hts (.instantiable RJ4 4) (by decide +kernel))
  obtain ⟨c2, iS2, hKn2⟩ := u_known (C := RX0) (T := TX0) (N := 11) (n := 11) hts inX0 (hts (.instantiable RX0 11) (by decide +kernel))
  obtain ⟨c3, iS3, hKn3⟩ := u_known (C := RX1) (T := TX1) (N := 9) (n := 9) hts inX1 (hts (.instantiable RX1 9) (by decide +kernel))
  obtain ⟨c4, iS4, hKn4⟩ := u_known (C := RX2) (T := TX2) (N := 7) (n := 7) hts inX2 (hts (.instantiable RX2 7) (by decide +kernel))
  obtain ⟨c5, iS5, hKn5⟩ := u_known (C := RX3) (T := TX3) (N := 7) (n := 7) hts inX3 (hts (.instantiable RX3 7) (by decide +kernel))
  obtain ⟨c6, iS6, hKn6⟩ := u_known (C := RX4) (T := TX4) (N := 3) (n := 3) hts inX4 (hts (.instantiable RX4 3) (by decide +kernel))
  obtain ⟨c7, iS7, hKn7⟩ := u_known (C := RX5) (T := TX5) (N := 5) (n := 5) hts inX5 (hts (.instantiable RX5 5) (by decide +kernel))
  obtain ⟨c8, iS8, hKn8⟩ := u_known (C := RX6) (T := TX6) (N := 9) (n := 9) hts inX6 (hts (.instantiable RX6 9) (by decide +kernel))
  obtain ⟨dC, dI, hKc⟩ : ∃ (dC : Nat → ClassId) (dI : Nat → Nat → Nat), ∀ (k : Nat) (q : vw_C), vwCl[k]? = some q → u_Kn s q.1 q.2.1 q.2.2 (dC k) (dI k) := by
    refine ⟨fun k => if k = 0 then c0 else if k = 1 then c1 else if k = 2 then c2 else if k = 3 then c3 else if k = 4 then c4 else if k = 5 then c5 else if k = 6 then c6 else if k = 7 then c7 else c8, fun k => if k = 0 then iS0 else if k = 1 then iS1 else if k = 2 then iS2 else if k = 3 then iS3 else if k = 4 then iS4 else if k = 5 then iS5 else if k = 6 then iS6 else if k = 7 then iS7 else iS8, ?_⟩
    intro k q hq
    match k, hq with
    | 0, hq => cases hq; exact hKn0
    | 1, hq => cases hq; exact hKn1
    | 2, hq => cases hq; exact hKn2
    | 3, hq => cases hq; exact hKn3
    | 4, hq => cases hq; exact hKn4
    | 5, hq => cases hq; exact hKn5
    | 6, hq => cases hq; exact hKn6
    | 7, hq => cases hq; exact hKn7
    | 8, hq => cases hq; exact hKn8
    | k + 9, hq => simp [vwCl] at hq
  have hA : ∀ x : Nat, s.heap.size ≤ x → (fun x : Nat => s.heap.size ≤ x) x := fun _ h => h
  have hS : va_S (fun x : Nat => s.heap.size ≤ x) s.heap s.heap [] := va_S.rf
  have hK : va_K (dC, dI) vwCl [] s := ⟨hKc, fun k q h => by simp at h⟩
  have hP : va_P (dC, dI) vwCl [] s.heap := va_Pn _
  have hD : va_D (fun x : Nat => s.heap.size ≤ x) [] := va_Dn _
  generalize hAe : (fun x : Nat => s.heap.size ≤ x) = A at hA hD hS hXs hX2
  have hinX6 : ∀ w ∈ u_ws RX6 TX6 9, w ∈ lw_tbl9 := inX6
  have hl := lv_entry ([.ref sa]) (n := 20) (Nat.le_of_ble_eq_true rfl)
  rw [lg_entry_eq]
  generalize (lg_sl ([.ref sa]) ++ List.replicate (20 - (lg_sl ([.ref sa])).length) Slot.unset).toArray = ls at hl ⊢
  have hl : lv_has ls 20 [(0, .ref sa)] := hl
  unfold F_L_law at hF
  refine w_go (fun Q hQ => ?_)
  refine lv_iconst (v := 0) hx hb dL_law_0 (by decide) ?_
  refine lv_istore_n (lv' := [(1, .int 0), (0, .ref sa)]) hx hb dL_law_1 rfl hl (by decide) rfl (fun ls hl => ?_)
  have Jx2 : ∀  (H : Heap) (locs : List Loc) (ls : Array Slot), F_L_law_x2 = some 1 → va_P (dC, dI) vwCl ([]) H → va_D A ([]) → va_S A s.heap H locs → lv_has ls 20 [] → W p l e room_1 s m #[Value.ref sa] below meth c H locs 17904 152348 Q (F0 m 383 ls []) := by
    intro  H locs ls hF hP hD hS hl
    unfold F_L_law_x2 at hF
    refine lv_iconst (v := 1) hx hb dL_law_383 (by decide) ?_
    subst hQ
    refine W.widen (k := 654152) (n := 7139168) (by omega) (by omega) ?_
    subst hAe
    refine va_forget (fun x hx9 => hS.2.2 x hx9) ?_
    exact lw_ret (d0 := s.drawn) (Drawn.sameBut.refl s.drawn lw_cs) hx hb hr hlocks dL_law_384
  have L2 : ∀ (n2 : Nat) (cb2 sb2 : Nat) (u1 : Int32) (H : Heap) (locs : List Loc) (ls : Array Slot), cb2 + 4476 * n2 ≤ 17904 → sb2 + 38087 * n2 ≤ 152348 → F_L_law_l2 L xs F_L_law_x2 n2 u1 = some 1 → va_P (dC, dI) vwCl ([]) H → va_D A ([]) → va_S A s.heap H locs → lv_has ls 20 [(1, .int u1), (0, .ref sa)] → W p l e room_1 s m #[Value.ref sa] below meth c H locs (cb2 + 0) (sb2 + 0) Q (F0 m 2 ls []) := by
    intro n2
    induction n2 with
    | zero =>
      intro cb2 sb2 u1 H locs ls hc2 hs2 hF
      rw [F_L_law_l2] at hF
      cases hF
    | succ n2 IH2 =>
      intro cb2 sb2 u1 H locs ls hc2 hs2 hF hP hD hS hl
      rw [F_L_law_l2] at hF
      refine W.widen (k := (cb2 + 0)) (n := (sb2 + 0)) (Nat.le_refl _) (Nat.le_refl _) ?_
      refine lv_iload_n hx hb dL_law_2 rfl (lv_at hl 0 rfl) ?_
      refine lv_iconst (v := 3) hx hb dL_law_3 (by decide) ?_
      refine lv_icmp_ge (tgt := 383) hx hb dL_law_4 (by decide) (fun hc2 => ?_) (fun hc2 => ?_)
      · have hF := br_pos hc2 hF
        refine W.widen (k := 17904) (n := 152348) (by omega) (by omega) ?_
        exact Jx2  _ _ _ hF hP hD hS (lv_sub hl [] rfl)
      · have hF := br_neg hc2 hF
        refine va_new (ci := 8) (fs := [.null, .null, .int 0, .null, .null, .null, .null, .int 0, .int 0]) (C := RX6) (T := TX6) (N := 9) hx hb hts hinX6 tyX6 tyX6_ok hown (hts (.classLink RL 9 RX6) (by decide +kernel)) (hts (.instantiable RX6 9) (by decide +kernel)) (hts (.initialized RX6) (by decide +kernel)) hK hP hD hS hA rfl (by intro j hj; match j, hj with | 0, _ => rfl | 1, _ => rfl | 2, _ => rfl | 3, _ => rfl | 4, _ => rfl | 5, _ => rfl | 6, _ => rfl | 7, _ => rfl | 8, _ => rfl) (show (cb2 + 0) + 1 ≤ 654152 from by omega) (show (sb2 + 0) + 9 ≤ 7139168 from by omega) dL_law_7 (fun o H hP hD hS => ?_)
        have hP : va_P (dC, dI) vwCl ([(o, .inr (8, [.null, .null, .int 0, .null, .null, .null, .null, .int 0, .int 0]))]) H := hP
        have hD : va_D A ([(o, .inr (8, [.null, .null, .int 0, .null, .null, .null, .null, .int 0, .int 0]))]) := hD
        refine W.widen (k := (cb2 + 1)) (n := (sb2 + 9)) (show (cb2 + 0) + 1 ≤ (cb2 + 1) by omega) (show (sb2 + 0) + 9 ≤ (sb2 + 9) by omega) ?_
        refine lv_dup hx hb dL_law_10 rfl ?_
        refine lv_aload_n hx hb dL_law_11 rfl (lv_at hl 1 rfl) ?_
        refine lv_bipush (v := 31) hx hb dL_law_12 (by decide) ?_
        refine lv_iload_n hx hb dL_law_14 rfl (lv_at hl 0 rfl) ?_
        refine lv_imul hx hb dL_law_15 ?_
        refine lv_topi (fun y3 ey3 => ?_)
        have hF := bv_at ey3 hF
        refine lv_bipush (v := 7) hx hb dL_law_16 (by decide) ?_
        refine lv_iadd hx hb dL_law_18 ?_
        refine lv_topi (fun y4 ey4 => ?_)
        have hF := bv_at ey4 hF
        obtain ⟨Y5, eY5, hF⟩ := bv_some hF
        have hKc := hK.sub (tys' := []) [] rfl
        have hFc := b_free (ws := [(o, .inr (8, [.null, .null, .int 0, .null, .null, .null, .null, .int 0, .int 0]))]) hD hS hA
        refine va_callv (va_runI (As := [.ref sa, .int y4]) (rest := [.ref o]) ⟨hx, hb, hml, hown, hts⟩ (c_X6_init l dC dI o sa y4 _) (cwI 2 hts gL_law_X6_init rfl rfl rfl (hts (.initialized RX6) (by decide +kernel)) (hts (.methodLink RL 11 yX6_init) (by decide +kernel)) (hts (.instanceMethod yX6_init) (by decide +kernel)) rfl (by decide +kernel) ⟨Nat.le_of_ble_eq_true rfl, Nat.le_of_ble_eq_true rfl⟩) ⟨pe_blind ao_bl, fun U hU hW => ⟨rfl, pr_mk hU hW hP hKc hD, ao_mk hW hXs.2.1⟩⟩ rfl rfl hl.1 rfl (lv_room (Nat.le_of_ble_eq_true rfl)) dL_law_19 ⟨(show (cb2 + 1) + 96 ≤ 654152 from by omega), (show (sb2 + 9) + 600 ≤ 7139168 from by omega)⟩) hS (fun x _ h => hFc x h) hFc (fun u t H1 locs ht hvm hw hB hz1 hk1 hS => ?_)
        obtain ⟨ta, aa, q⟩ := u
        obtain ⟨hu1, hsp, hP, hK1, hD1⟩ := hB
        rw [ht] at hP
        have hD := hD1.weaken (fun _ q9 _ h9 => hFc q9.1 h9)
        have hu1 : ta 0 = o := hu1
        have hsp : aa 100 = aa (39 + 24) := hsp
        have hK : va_K (dC, dI) vwCl (bty q) s := va_K.moved hvm.symm hK1
        rw [← hu1]
        rw [← eY5] at hP hD
        have hP : va_P (dC, dI) vwCl (ww q ta aa sa Y5) H1 := hP
        have hD : va_D A (ww q ta aa sa Y5) := hD
        clear hFc hD1 hK1 hz1 hk1
        generalize H1 = H at hP hS ⊢
        refine W.widen (k := (cb2 + 97)) (n := (sb2 + 609)) (show (cb2 + 1) + 96 ≤ (cb2 + 97) by omega) (show (sb2 + 9) + 600 ≤ (sb2 + 609) by omega) ?_
        refine lv_astore_n (lv' := [(2, .ref (ta 0)), (1, .int u1), (0, .ref sa)]) hx hb dL_law_22 rfl hl (by decide) rfl (fun ls hl => ?_)
        refine lv_aload_n hx hb dL_law_23 rfl (lv_at hl 0 rfl) ?_
        refine va_get (D := (dC, dI)) (ci := 8) (v := .ref (aa 0)) (C := RX6) (T := TX6) (N := 9) hx hb hts hinX6 hown hK hP 0 ww_0 rfl 0 (by decide) (hts (.fieldLink RL 14 "BallotLoomLaw$Told" "m" "LBallotLoom;") (by decide +kernel)) (fun _ h9 => h9) rfl dL_law_24 ?_
        refine lv_astore_n (lv' := [(3, .ref (aa 0)), (2, .ref (ta 0)), (1, .int u1), (0, .ref sa)]) hx hb dL_law_27 rfl hl (by decide) rfl (fun ls hl => ?_)
        refine lv_aload_n hx hb dL_law_28 rfl (lv_at hl 1 rfl) ?_
        refine lv_iconst (v := 2) hx hb dL_law_29 (by decide) ?_
        refine lv_bipush (v := 9) hx hb dL_law_30 (by decide) ?_
        obtain ⟨Y8, rr7, hC6, hF⟩ := calt_some hF
        have hFc := b_free (ws := ww q ta aa sa Y5) hD hS hA
        refine va_calli (va_runV (As := [.int 2, .int 9]) (rest := []) ⟨hx, hb, hml, hown, hts⟩ (c_X6_founded l dC dI q ta aa sa L xs Y5 (2 : Int32) (9 : Int32) _  _ _ hC6) (cwV 2 hts gL_law_X6_founded rfl rfl rfl (by decide +kernel) ⟨Nat.le_of_ble_eq_true rfl, Nat.le_of_ble_eq_true rfl⟩) ⟨pe_blind (tx_bl _ _ _ _), va_recv hK hP (ci := 8) (q0 := 0) rfl ww_0, fun U hU hW => ⟨rfl, pr_mk hU hW hP hK hD, tx_mk hU hW hS hFc hXs⟩⟩ rfl rfl hl.1 rfl (lv_room (Nat.le_of_ble_eq_true rfl)) dL_law_32 ⟨(show (cb2 + 97) + 1100 ≤ 654152 from by omega), (show (sb2 + 609) + 16400 ≤ 7139168 from by omega)⟩) hS (fun x _ h => hFc x h) hFc (fun ra9 u t H1 locs ht hvm hw hB hz1 hk1 hS => ?_)
        obtain ⟨ta10, hu8⟩ : ∃ x : Nat → Nat, x = u := ⟨u, rfl⟩
        rw [← hu8] at hB
        obtain ⟨hu0, hP, hK1, hD1⟩ := hB
        rw [ht] at hP
        have hD := hD1.weaken (fun _ q9 _ h9 => hFc q9.1 h9)
        have et_ta10 : ta10 0 = ta 0 := hu0.trans (rfl)
        have hl := lv_sub hl [0, 1, 2, 3] (show _ = [(3, .ref (aa 0)), (2, .ref (ta 0)), (1, .int u1), (0, .ref sa)] from rfl)
        have hl : lv_has ls 20 [(3, .ref (aa 0)), (2, .ref (ta10 0)), (1, .int u1), (0, .ref sa)] := by rw [hu0]; exact hl
        generalize H1 = H at hP hS ⊢
        refine W.widen (k := (cb2 + 1197)) (n := (sb2 + 17009)) (show (cb2 + 97) + 1100 ≤ (cb2 + 1197) by omega) (show (sb2 + 609) + 16400 ≤ (sb2 + 17009) by omega) ?_
        obtain rfl : ra9 = rr7 := hw
        refine lv_if_eq (tgt := 52) hx hb dL_law_35 (by decide) (fun hc11 => ?_) (fun hc11 => ?_)
        · have hF := br_pos hc11 hF
          refine lv_iconst (v := 0) hx hb dL_law_52 (by decide) ?_
          exact absurd (some1 hF) (by decide)
        · have hF := br_neg hc11 hF
          refine lv_aload_n hx hb dL_law_38 rfl (lv_at hl 1 rfl) ?_
          obtain ⟨Y14, rr13, hC12, hF⟩ := calt_some hF
          have hFc := b_free (ws := ww q ta10 aa sa Y8) hD hS hA
          refine va_calli (va_runV (As := []) (rest := []) ⟨hx, hb, hml, hown, hts⟩ (c_X6_change l dC dI q ta10 aa sa L xs Y8  _  _ _ hC12) (cwV 0 hts gL_law_X6_change rfl rfl rfl (by decide +kernel) ⟨Nat.le_of_ble_eq_true rfl, Nat.le_of_ble_eq_true rfl⟩) ⟨pe_blind (sx_bl _ _ _ _), va_recv hK hP (ci := 8) (q0 := 0) rfl ww_0, fun U hU hW => ⟨rfl, pr_mk hU hW hP hK hD, sx_mk hU hW hS hFc hXs.1⟩⟩ rfl rfl hl.1 rfl (lv_room (Nat.le_of_ble_eq_true rfl)) dL_law_39 ⟨(show (cb2 + 1197) + 0 ≤ 654152 from by omega), (show (sb2 + 17009) + 0 ≤ 7139168 from by omega)⟩) hS (fun x _ h => hFc x h) hFc (fun ra15 u t H1 locs ht hvm hw hB hz1 hk1 hS => ?_)
          obtain ⟨hP, hK1, hD1⟩ := hB
          rw [ht] at hP
          have hD := hD1.weaken (fun _ q9 _ h9 => hFc q9.1 h9)
          generalize H1 = H at hP hS ⊢
          refine W.widen (k := (cb2 + 1197)) (n := (sb2 + 17009)) (show (cb2 + 1197) + 0 ≤ (cb2 + 1197) by omega) (show (sb2 + 17009) + 0 ≤ (sb2 + 17009) by omega) ?_
          obtain rfl : ra15 = rr13 := hw
          refine lv_if_eq (tgt := 52) hx hb dL_law_42 (by decide) (fun hc16 => ?_) (fun hc16 => ?_)
          · have hF := br_pos hc16 hF
            refine lv_iconst (v := 0) hx hb dL_law_52 (by decide) ?_
            exact absurd (some1 hF) (by decide)
          · have hF := br_neg hc16 hF
            refine lv_aload_n hx hb dL_law_45 rfl (lv_at hl 1 rfl) ?_
            obtain ⟨Y19, rr18, hC17, hF⟩ := calt_some hF
            have hFc := b_free (ws := ww q ta10 aa sa Y14) hD hS hA
            refine va_calli (va_runV (As := []) (rest := []) ⟨hx, hb, hml, hown, hts⟩ (c_X6_withdraw l dC dI q ta10 aa sa L xs Y14  _  _ _ hC17) (cwV 0 hts gL_law_X6_withdraw rfl rfl rfl (by decide +kernel) ⟨Nat.le_of_ble_eq_true rfl, Nat.le_of_ble_eq_true rfl⟩) ⟨pe_blind (sx_bl _ _ _ _), va_recv hK hP (ci := 8) (q0 := 0) rfl ww_0, fun U hU hW => ⟨rfl, pr_mk hU hW hP hK hD, sx_mk hU hW hS hFc hXs.1⟩⟩ rfl rfl hl.1 rfl (lv_room (Nat.le_of_ble_eq_true rfl)) dL_law_46 ⟨(show (cb2 + 1197) + 0 ≤ 654152 from by omega), (show (sb2 + 17009) + 0 ≤ 7139168 from by omega)⟩) hS (fun x _ h => hFc x h) hFc (fun ra20 u t H1 locs ht hvm hw hB hz1 hk1 hS => ?_)
            obtain ⟨hP, hK1, hD1⟩ := hB
            rw [ht] at hP
            have hD := hD1.weaken (fun _ q9 _ h9 => hFc q9.1 h9)
            generalize H1 = H at hP hS ⊢
            refine W.widen (k := (cb2 + 1197)) (n := (sb2 + 17009)) (show (cb2 + 1197) + 0 ≤ (cb2 + 1197) by omega) (show (sb2 + 17009) + 0 ≤ (sb2 + 17009) by omega) ?_
            obtain rfl : ra20 = rr18 := hw
            refine lv_if_ne (tgt := 54) hx hb dL_law_49 (by decide) (fun hc21 => ?_) (fun hc21 => ?_)
            · have hF := br_neg hc21 hF
              refine lv_iconst (v := 0) hx hb dL_law_54 (by decide) ?_
              refine lv_istore (lv' := [(4, .int 0), (3, .ref (aa 0)), (2, .ref (ta10 0)), (1, .int u1), (0, .ref sa)]) hx hb dL_law_55 hl (by decide) rfl (fun ls hl => ?_)
              have Jx57 : ∀ (Y22 : TS) (H : Heap) (locs : List Loc) (ls : Array Slot), (F_L_law_x57 L xs u1 (F_L_law_l2 L xs F_L_law_x2 n2)) Y22 = some 1 → va_P (dC, dI) vwCl (ww q ta10 aa sa Y22) H → va_D A (ww q ta10 aa sa Y22) → va_S A s.heap H locs → lv_has ls 20 [(3, .ref (aa 0)), (2, .ref (ta10 0)), (1, .int u1), (0, .ref sa)] → W p l e room_1 s m #[Value.ref sa] below meth c H locs (cb2 + 4473) (sb2 + 38069) Q (F0 m 281 ls []) := by
                intro Y22 H locs ls hF hP hD hS hl
                unfold F_L_law_x57 at hF
                refine lv_aload_n hx hb dL_law_281 rfl (lv_at hl 1 rfl) ?_
                obtain ⟨Y23, rr25, hC24, hF⟩ := calt_some hF
                have hFc := b_free (ws := ww q ta10 aa sa Y22) hD hS hA
                refine va_calli (vx_runSW (As := [.ref (ta10 0)]) (rest := []) ⟨hx, hb, hml, hown, hts⟩ (c_L_isSealed l hfl dC dI q ta10 aa sa L xs Y22 tx sc _ _ _ hC24) (vx_cwSW 1 hts gL_law_L_isSealed rfl rfl rfl (by decide +kernel) ⟨Nat.le_of_ble_eq_true rfl, Nat.le_of_ble_eq_true rfl⟩) ⟨pe_blind (fun U g mk a h => ⟨sx_bl _ _ _ _ U g mk a h.1, xs_bl U g mk a h.2⟩), fun U hU hW => ⟨rfl, pr_mk hU hW hP hK hD, sx_mk hU hW hS hFc hXs.1, xs_mk hU hW hS hFc hX2⟩⟩ rfl rfl hl.1 rfl (lv_room (Nat.le_of_ble_eq_true rfl)) dL_law_282 ⟨(show (cb2 + 4473) + 3 ≤ 654152 from by omega), (show (sb2 + 38069) + 18 ≤ 7139168 from by omega)⟩) hS (fun x _ h => hFc x h) hFc (fun ra26 u t H1 locs ht hvm hw hB hz1 hk1 hS => ?_)
                obtain ⟨hP, hK1, hD1⟩ := hB
                rw [ht] at hP
                have hD := hD1.weaken (fun _ q9 _ h9 => hFc q9.1 h9)
                generalize H1 = H at hP hS ⊢
                refine W.widen (k := (cb2 + 4476)) (n := (sb2 + 38087)) (show (cb2 + 4473) + 3 ≤ (cb2 + 4476) by omega) (show (sb2 + 38069) + 18 ≤ (sb2 + 38087) by omega) ?_
                obtain rfl : ra26 = rr25 := hw
                refine lv_if_ne (tgt := 290) hx hb dL_law_285 (by decide) (fun hc27 => ?_) (fun hc27 => ?_)
                · have hF := br_neg hc27 hF
                  refine lv_aload_n hx hb dL_law_290 rfl (lv_at hl 1 rfl) ?_
                  refine lv_bipush (v := 21) hx hb dL_law_291 (by decide) ?_
                  obtain ⟨Y30, rr29, hC28, hF⟩ := calt_some hF
                  have hFc := b_free (ws := ww q ta10 aa sa Y23) hD hS hA
                  refine va_calli (va_runV (As := [.int 21]) (rest := []) ⟨hx, hb, hml, hown, hts⟩ (c_X6_draw l dC dI q ta10 aa sa L xs Y23 (21 : Int32) _  _ _ hC28) (cwV 1 hts gL_law_X6_draw rfl rfl rfl (by decide +kernel) ⟨Nat.le_of_ble_eq_true rfl, Nat.le_of_ble_eq_true rfl⟩) ⟨pe_blind (sx_bl _ _ _ _), va_recv hK hP (ci := 8) (q0 := 0) rfl ww_0, fun U hU hW => ⟨rfl, pr_mk hU hW hP hK hD, sx_mk hU hW hS hFc hXs.1⟩⟩ rfl rfl hl.1 rfl (lv_room (Nat.le_of_ble_eq_true rfl)) dL_law_293 ⟨(show (cb2 + 4476) + 0 ≤ 654152 from by omega), (show (sb2 + 38087) + 0 ≤ 7139168 from by omega)⟩) hS (fun x _ h => hFc x h) hFc (fun ra31 u t H1 locs ht hvm hw hB hz1 hk1 hS => ?_)
                  obtain ⟨hP, hK1, hD1⟩ := hB
                  rw [ht] at hP
                  have hD := hD1.weaken (fun _ q9 _ h9 => hFc q9.1 h9)
                  generalize H1 = H at hP hS ⊢
                  refine W.widen (k := (cb2 + 4476)) (n := (sb2 + 38087)) (show (cb2 + 4476) + 0 ≤ (cb2 + 4476) by omega) (show (sb2 + 38087) + 0 ≤ (sb2 + 38087) by omega) ?_
                  obtain rfl : ra31 = rr29 := hw
                  refine lv_istore (lv' := [(4, .int ra31), (3, .ref (aa 0)), (2, .ref (ta10 0)), (1, .int u1), (0, .ref sa)]) hx hb dL_law_296 hl (by decide) rfl (fun ls hl => ?_)
                  refine lv_aload_n hx hb dL_law_298 rfl (lv_at hl 1 rfl) ?_
                  refine lv_iload hx hb dL_law_299 (lv_at hl 0 rfl) ?_
                  obtain ⟨z34, rr33, hC32, hF⟩ := cal_some hF
                  obtain ⟨Y35, eY35, hF⟩ := bv_some hF
                  have hPc := sf_P hP
                  have hDc := sf_D hD
                  have hKc : va_K (dC, dI) vwCl (bty q) s := hK
                  have hFc := b_free (ws := bw q aa Y30.2) hDc hS hA
                  refine va_calli (va_runV (As := [.int ra31]) (rest := []) ⟨hx, hb, hml, hown, hts⟩ (c_X5_threshold l dC dI q aa Y30.2 ra31  _ _ _ hC32) (cwV 1 hts gL_law_X5_threshold rfl rfl rfl (by decide +kernel) ⟨Nat.le_of_ble_eq_true rfl, Nat.le_of_ble_eq_true rfl⟩) ⟨pr_blind, va_recv hKc hPc (ci := 7) (q0 := 0) rfl (bw_at (i := 0) (by decide) rfl), fun U hU hW => ⟨rfl, pr_mk hU hW hPc hKc hDc⟩⟩ rfl rfl hl.1 rfl (lv_room (Nat.le_of_ble_eq_true rfl)) dL_law_301 ⟨(show (cb2 + 4476) + 0 ≤ 654152 from by omega), (show (sb2 + 38087) + 0 ≤ 7139168 from by omega)⟩) hS (fun x _ h => hFc x h) hFc (fun ra36 u t H1 locs ht hvm hw hB hz1 hk1 hS => ?_)
                  obtain ⟨hP1, hK1, hD1⟩ := hB
                  rw [ht] at hP1
                  obtain ⟨hP, hD⟩ := sf_J hP hD hk1 hFc hP1 hD1
                  have eW : twl q ta10 (aa 0) sa Y30.1 ++ bw q aa z34 = ww q ta10 aa sa Y35 := by rw [eY35]; rfl
                  rw [eW] at hP hD
                  clear eW
                  clear hPc hDc hKc hFc hP1 hK1 hD1
                  generalize H1 = H at hP hS ⊢
                  refine W.widen (k := (cb2 + 4476)) (n := (sb2 + 38087)) (show (cb2 + 4476) + 0 ≤ (cb2 + 4476) by omega) (show (sb2 + 38087) + 0 ≤ (sb2 + 38087) by omega) ?_
                  obtain rfl : ra36 = rr33 := hw
                  refine lv_istore (lv' := [(5, .int ra36), (4, .int ra31), (3, .ref (aa 0)), (2, .ref (ta10 0)), (1, .int u1), (0, .ref sa)]) hx hb dL_law_304 hl (by decide) rfl (fun ls hl => ?_)
                  refine lv_iconst (v := 1) hx hb dL_law_306 (by decide) ?_
                  refine lv_aload_n hx hb dL_law_307 rfl (lv_at hl 3 rfl) ?_
                  refine lv_bipush (v := 60) hx hb dL_law_308 (by decide) ?_
                  obtain ⟨Y39, rr38, hC37, hF⟩ := calt_some hF
                  have hFc := b_free (ws := ww q ta10 aa sa Y35) hD hS hA
                  refine va_calli (va_runV (As := [.int 60]) (rest := [.int 1]) ⟨hx, hb, hml, hown, hts⟩ (c_X6_draw l dC dI q ta10 aa sa L xs Y35 (60 : Int32) _  _ _ hC37) (cwV 1 hts gL_law_X6_draw rfl rfl rfl (by decide +kernel) ⟨Nat.le_of_ble_eq_true rfl, Nat.le_of_ble_eq_true rfl⟩) ⟨pe_blind (sx_bl _ _ _ _), va_recv hK hP (ci := 8) (q0 := 0) rfl ww_0, fun U hU hW => ⟨rfl, pr_mk hU hW hP hK hD, sx_mk hU hW hS hFc hXs.1⟩⟩ rfl rfl hl.1 rfl (lv_room (Nat.le_of_ble_eq_true rfl)) dL_law_310 ⟨(show (cb2 + 4476) + 0 ≤ 654152 from by omega), (show (sb2 + 38087) + 0 ≤ 7139168 from by omega)⟩) hS (fun x _ h => hFc x h) hFc (fun ra40 u t H1 locs ht hvm hw hB hz1 hk1 hS => ?_)
                  obtain ⟨hP, hK1, hD1⟩ := hB
                  rw [ht] at hP
                  have hD := hD1.weaken (fun _ q9 _ h9 => hFc q9.1 h9)
                  generalize H1 = H at hP hS ⊢
                  refine W.widen (k := (cb2 + 4476)) (n := (sb2 + 38087)) (show (cb2 + 4476) + 0 ≤ (cb2 + 4476) by omega) (show (sb2 + 38087) + 0 ≤ (sb2 + 38087) by omega) ?_
                  obtain rfl : ra40 = rr38 := hw
                  refine lv_iadd hx hb dL_law_313 ?_
                  refine lv_topi (fun y41 ey41 => ?_)
                  have hF := bv_at ey41 hF
                  refine lv_istore (lv' := [(6, .int y41), (5, .int ra36), (4, .int ra31), (3, .ref (aa 0)), (2, .ref (ta10 0)), (1, .int u1), (0, .ref sa)]) hx hb dL_law_314 hl (by decide) rfl (fun ls hl => ?_)
                  refine lv_iconst (v := 0) hx hb dL_law_316 (by decide) ?_
                  refine lv_istore (lv' := [(7, .int 0), (6, .int y41), (5, .int ra36), (4, .int ra31), (3, .ref (aa 0)), (2, .ref (ta10 0)), (1, .int u1), (0, .ref sa)]) hx hb dL_law_317 hl (by decide) rfl (fun ls hl => ?_)
                  have Jx319 : ∀ (Y42 : TS) (H : Heap) (locs : List Loc) (ls : Array Slot), (F_L_law_x319 u1 (F_L_law_l2 L xs F_L_law_x2 n2)) Y42 = some 1 → va_P (dC, dI) vwCl (ww q ta10 aa sa Y42) H → va_D A (ww q ta10 aa sa Y42) → va_S A s.heap H locs → lv_has ls 20 [(1, .int u1), (0, .ref sa)] → W p l e room_1 s m #[Value.ref sa] below meth c H locs (cb2 + 4476) (sb2 + 38087) Q (F0 m 377 ls []) := by
                    intro Y42 H locs ls hF hP hD hS hl
                    unfold F_L_law_x319 at hF
                    refine lv_iinc (k := 0) (v := (u1 + (1 : Int32))) (lv' := [(1, .int (u1 + (1 : Int32))), (0, .ref sa)]) hx hb dL_law_377 hl rfl (ii_ _ _ _ (by decide)) (by decide) rfl (fun ls hl => ?_)
                    refine lv_goto (tgt := 2) hx hb dL_law_380 (by decide) ?_
                    refine W.widen (k := cb2 + 4476) (n := sb2 + 38087) (by omega) (by omega) ?_
                    have hP := va_Pn (D := (dC, dI)) (cl := vwCl) H
                    have hD := va_Dn A
                    exact IH2 (cb2 + 4476) (sb2 + 38087) (u1 + (1 : Int32)) _ _ _ (by omega) (by omega) hF hP hD hS (lv_sub hl [0, 1] rfl)
                  have L319 : ∀ (n319 : Nat) (cb319 sb319 : Nat) (Y44 : TS) (u43 : Int32) (H : Heap) (locs : List Loc) (ls : Array Slot), cb319 + 0 * n319 ≤ (cb2 + 4476) → sb319 + 0 * n319 ≤ (sb2 + 38087) → F_L_law_l319 L xs ra36 y41 (F_L_law_x319 u1 (F_L_law_l2 L xs F_L_law_x2 n2)) n319 Y44 u43 = some 1 → va_P (dC, dI) vwCl (ww q ta10 aa sa Y44) H → va_D A (ww q ta10 aa sa Y44) → va_S A s.heap H locs → lv_has ls 20 [(7, .int u43), (6, .int y41), (5, .int ra36), (3, .ref (aa 0)), (2, .ref (ta10 0)), (1, .int u1), (0, .ref sa)] → W p l e room_1 s m #[Value.ref sa] below meth c H locs (cb319 + 0) (sb319 + 0) Q (F0 m 319 ls []) := by
                    intro n319
                    induction n319 with
                    | zero =>
                      intro cb319 sb319 Y44 u43 H locs ls hc319 hs319 hF
                      rw [F_L_law_l319] at hF
                      cases hF
                    | succ n319 IH319 =>
                      intro cb319 sb319 Y44 u43 H locs ls hc319 hs319 hF hP hD hS hl
                      rw [F_L_law_l319] at hF
                      refine W.widen (k := (cb319 + 0)) (n := (sb319 + 0)) (Nat.le_refl _) (Nat.le_refl _) ?_
                      refine lv_iload hx hb dL_law_319 (lv_at hl 0 rfl) ?_
                      refine lv_iconst (v := 4) hx hb dL_law_321 (by decide) ?_
                      refine lv_icmp_ge (tgt := 377) hx hb dL_law_322 (by decide) (fun hc45 => ?_) (fun hc45 => ?_)
                      · have hF := br_pos hc45 hF
                        refine W.widen (k := (cb2 + 4476)) (n := (sb2 + 38087)) (by omega) (by omega) ?_
                        exact Jx319 Y44 _ _ _ hF hP hD hS (lv_sub hl [5, 6] rfl)
                      · have hF := br_neg hc45 hF
                        refine lv_aload_n hx hb dL_law_325 rfl (lv_at hl 3 rfl) ?_
                        refine lv_iload hx hb dL_law_326 (lv_at hl 0 rfl) ?_
                        refine lv_iconst (v := 4) hx hb dL_law_328 (by decide) ?_
                        obtain ⟨z48, rr47, hC46, hF⟩ := cal_some hF
                        obtain ⟨Y49, eY49, hF⟩ := bv_some hF
                        have hPc := sf_P hP
                        have hDc := sf_D hD
                        have hKc : va_K (dC, dI) vwCl (bty q) s := hK
                        have hFc := b_free (ws := bw q aa Y44.2) hDc hS hA
                        refine va_calli (va_runV (As := [.int u43, .int 4]) (rest := []) ⟨hx, hb, hml, hown, hts⟩ (c_X5_ofParty l dC dI q aa Y44.2 u43 (4 : Int32)  _ _ _ hC46) (cwV 2 hts gL_law_X5_ofParty rfl rfl rfl (by decide +kernel) ⟨Nat.le_of_ble_eq_true rfl, Nat.le_of_ble_eq_true rfl⟩) ⟨pr_blind, va_recv hKc hPc (ci := 7) (q0 := 0) rfl (bw_at (i := 0) (by decide) rfl), fun U hU hW => ⟨rfl, pr_mk hU hW hPc hKc hDc⟩⟩ rfl rfl hl.1 rfl (lv_room (Nat.le_of_ble_eq_true rfl)) dL_law_329 ⟨(show (cb319 + 0) + 0 ≤ 654152 from by omega), (show (sb319 + 0) + 0 ≤ 7139168 from by omega)⟩) hS (fun x _ h => hFc x h) hFc (fun ra50 u t H1 locs ht hvm hw hB hz1 hk1 hS => ?_)
                        obtain ⟨hP1, hK1, hD1⟩ := hB
                        rw [ht] at hP1
                        obtain ⟨hP, hD⟩ := sf_J hP hD hk1 hFc hP1 hD1
                        have eW : twl q ta10 (aa 0) sa Y44.1 ++ bw q aa z48 = ww q ta10 aa sa Y49 := by rw [eY49]; rfl
                        rw [eW] at hP hD
                        clear eW
                        clear hPc hDc hKc hFc hP1 hK1 hD1
                        generalize H1 = H at hP hS ⊢
                        refine W.widen (k := (cb319 + 0)) (n := (sb319 + 0)) (show (cb319 + 0) + 0 ≤ (cb319 + 0) by omega) (show (sb319 + 0) + 0 ≤ (sb319 + 0) by omega) ?_
                        obtain rfl : ra50 = rr47 := hw
                        refine lv_iload hx hb dL_law_332 (lv_at hl 2 rfl) ?_
                        refine lv_iload hx hb dL_law_334 (lv_at hl 0 rfl) ?_
                        refine lv_ishr hx hb dL_law_336 ?_
                        refine lv_topi (fun y51 ey51 => ?_)
                        have hF := bv_at ey51 hF
                        refine lv_iconst (v := 1) hx hb dL_law_337 (by decide) ?_
                        refine lv_iand hx hb dL_law_338 ?_
                        refine lv_topi (fun y52 ey52 => ?_)
                        have hF := bv_at ey52 hF
                        refine lv_icmp_ne (tgt := 369) hx hb dL_law_339 (by decide) (fun hc53 => ?_) (fun hc53 => ?_)
                        · have hF := br_neg hc53 hF
                          refine lv_iconst (v := 0) hx hb dL_law_369 (by decide) ?_
                          exact absurd (some1 hF) (by decide)
                        · have hF := br_pos hc53 hF
                          refine lv_aload_n hx hb dL_law_342 rfl (lv_at hl 3 rfl) ?_
                          refine lv_iload hx hb dL_law_343 (lv_at hl 0 rfl) ?_
                          refine lv_iconst (v := 4) hx hb dL_law_345 (by decide) ?_
                          obtain ⟨z56, rr55, hC54, hF⟩ := cal_some hF
                          obtain ⟨Y57, eY57, hF⟩ := bv_some hF
                          have hPc := sf_P hP
                          have hDc := sf_D hD
                          have hKc : va_K (dC, dI) vwCl (bty q) s := hK
                          have hFc := b_free (ws := bw q aa Y49.2) hDc hS hA
                          refine va_calli (va_runV (As := [.int u43, .int 4]) (rest := []) ⟨hx, hb, hml, hown, hts⟩ (c_X5_ofParty l dC dI q aa Y49.2 u43 (4 : Int32)  _ _ _ hC54) (cwV 2 hts gL_law_X5_ofParty rfl rfl rfl (by decide +kernel) ⟨Nat.le_of_ble_eq_true rfl, Nat.le_of_ble_eq_true rfl⟩) ⟨pr_blind, va_recv hKc hPc (ci := 7) (q0 := 0) rfl (bw_at (i := 0) (by decide) rfl), fun U hU hW => ⟨rfl, pr_mk hU hW hPc hKc hDc⟩⟩ rfl rfl hl.1 rfl (lv_room (Nat.le_of_ble_eq_true rfl)) dL_law_346 ⟨(show (cb319 + 0) + 0 ≤ 654152 from by omega), (show (sb319 + 0) + 0 ≤ 7139168 from by omega)⟩) hS (fun x _ h => hFc x h) hFc (fun ra58 u t H1 locs ht hvm hw hB hz1 hk1 hS => ?_)
                          obtain ⟨hP1, hK1, hD1⟩ := hB
                          rw [ht] at hP1
                          obtain ⟨hP, hD⟩ := sf_J hP hD hk1 hFc hP1 hD1
                          have eW : twl q ta10 (aa 0) sa Y49.1 ++ bw q aa z56 = ww q ta10 aa sa Y57 := by rw [eY57]; rfl
                          rw [eW] at hP hD
                          clear eW
                          clear hPc hDc hKc hFc hP1 hK1 hD1
                          generalize H1 = H at hP hS ⊢
                          refine W.widen (k := (cb319 + 0)) (n := (sb319 + 0)) (show (cb319 + 0) + 0 ≤ (cb319 + 0) by omega) (show (sb319 + 0) + 0 ≤ (sb319 + 0) by omega) ?_
                          obtain rfl : ra58 = rr55 := hw
                          refine lv_iconst (v := 1) hx hb dL_law_349 (by decide) ?_
                          refine lv_icmp_ne (tgt := 371) hx hb dL_law_350 (by decide) (fun hc59 => ?_) (fun hc59 => ?_)
                          · have hF := br_neg hc59 hF
                            refine lv_iinc (k := 0) (v := (u43 + (1 : Int32))) (lv' := [(7, .int (u43 + (1 : Int32))), (6, .int y41), (5, .int ra36), (3, .ref (aa 0)), (2, .ref (ta10 0)), (1, .int u1), (0, .ref sa)]) hx hb dL_law_371 hl rfl (ii_ _ _ _ (by decide)) (by decide) rfl (fun ls hl => ?_)
                            refine lv_goto (tgt := 319) hx hb dL_law_374 (by decide) ?_
                            refine W.widen (k := cb319 + 0) (n := sb319 + 0) (by omega) (by omega) ?_
                            exact IH319 (cb319 + 0) (sb319 + 0) Y57 (u43 + (1 : Int32)) _ _ _ (by omega) (by omega) hF hP hD hS (lv_sub hl [0, 1, 2, 3, 4, 5, 6] rfl)
                          · have hF := br_pos hc59 hF
                            refine lv_aload_n hx hb dL_law_353 rfl (lv_at hl 3 rfl) ?_
                            refine lv_iload hx hb dL_law_354 (lv_at hl 0 rfl) ?_
                            refine lv_iload hx hb dL_law_356 (lv_at hl 1 rfl) ?_
                            refine lv_aload_n hx hb dL_law_358 rfl (lv_at hl 4 rfl) ?_
                            refine lv_iconst (v := 3) hx hb dL_law_359 (by decide) ?_
                            obtain ⟨Y62, rr61, hC60, hF⟩ := calt_some hF
                            have hFc := b_free (ws := ww q ta10 aa sa Y57) hD hS hA
                            refine va_calli (va_runV (As := [.int 3]) (rest := [.int y41, .int u43, .ref (aa 0)]) ⟨hx, hb, hml, hown, hts⟩ (c_X6_draw l dC dI q ta10 aa sa L xs Y57 (3 : Int32) _  _ _ hC60) (cwV 1 hts gL_law_X6_draw rfl rfl rfl (by decide +kernel) ⟨Nat.le_of_ble_eq_true rfl, Nat.le_of_ble_eq_true rfl⟩) ⟨pe_blind (sx_bl _ _ _ _), va_recv hK hP (ci := 8) (q0 := 0) rfl ww_0, fun U hU hW => ⟨rfl, pr_mk hU hW hP hK hD, sx_mk hU hW hS hFc hXs.1⟩⟩ rfl rfl hl.1 rfl (lv_room (Nat.le_of_ble_eq_true rfl)) dL_law_360 ⟨(show (cb319 + 0) + 0 ≤ 654152 from by omega), (show (sb319 + 0) + 0 ≤ 7139168 from by omega)⟩) hS (fun x _ h => hFc x h) hFc (fun ra63 u t H1 locs ht hvm hw hB hz1 hk1 hS => ?_)
                            obtain ⟨hP, hK1, hD1⟩ := hB
                            rw [ht] at hP
                            have hD := hD1.weaken (fun _ q9 _ h9 => hFc q9.1 h9)
                            generalize H1 = H at hP hS ⊢
                            refine W.widen (k := (cb319 + 0)) (n := (sb319 + 0)) (show (cb319 + 0) + 0 ≤ (cb319 + 0) by omega) (show (sb319 + 0) + 0 ≤ (sb319 + 0) by omega) ?_
                            obtain rfl : ra63 = rr61 := hw
                            obtain ⟨z66, rr65, hC64, hF⟩ := cal_some hF
                            obtain ⟨Y67, eY67, hF⟩ := bv_some hF
                            have hPc := sf_P hP
                            have hDc := sf_D hD
                            have hKc : va_K (dC, dI) vwCl (bty q) s := hK
                            have hFc := b_free (ws := bw q aa Y62.2) hDc hS hA
                            refine va_calli (va_runV (As := [.int u43, .int y41, .int ra63]) (rest := []) ⟨hx, hb, hml, hown, hts⟩ (c_X5_share l dC dI q aa Y62.2 u43 y41 ra63  _ _ _ hC64) (cwV 3 hts gL_law_X5_share rfl rfl rfl (by decide +kernel) ⟨Nat.le_of_ble_eq_true rfl, Nat.le_of_ble_eq_true rfl⟩) ⟨pr_blind, va_recv hKc hPc (ci := 7) (q0 := 0) rfl (bw_at (i := 0) (by decide) rfl), fun U hU hW => ⟨rfl, pr_mk hU hW hPc hKc hDc⟩⟩ rfl rfl hl.1 rfl (lv_room (Nat.le_of_ble_eq_true rfl)) dL_law_363 ⟨(show (cb319 + 0) + 0 ≤ 654152 from by omega), (show (sb319 + 0) + 0 ≤ 7139168 from by omega)⟩) hS (fun x _ h => hFc x h) hFc (fun ra68 u t H1 locs ht hvm hw hB hz1 hk1 hS => ?_)
                            obtain ⟨hP1, hK1, hD1⟩ := hB
                            rw [ht] at hP1
                            obtain ⟨hP, hD⟩ := sf_J hP hD hk1 hFc hP1 hD1
                            have eW : twl q ta10 (aa 0) sa Y62.1 ++ bw q aa z66 = ww q ta10 aa sa Y67 := by rw [eY67]; rfl
                            rw [eW] at hP hD
                            clear eW
                            clear hPc hDc hKc hFc hP1 hK1 hD1
                            generalize H1 = H at hP hS ⊢
                            refine W.widen (k := (cb319 + 0)) (n := (sb319 + 0)) (show (cb319 + 0) + 0 ≤ (cb319 + 0) by omega) (show (sb319 + 0) + 0 ≤ (sb319 + 0) by omega) ?_
                            obtain rfl : ra68 = rr65 := hw
                            refine lv_if_eq (tgt := 371) hx hb dL_law_366 (by decide) (fun hc69 => ?_) (fun hc69 => ?_)
                            · have hF := br_pos hc69 hF
                              refine lv_iinc (k := 0) (v := (u43 + (1 : Int32))) (lv' := [(7, .int (u43 + (1 : Int32))), (6, .int y41), (5, .int ra36), (3, .ref (aa 0)), (2, .ref (ta10 0)), (1, .int u1), (0, .ref sa)]) hx hb dL_law_371 hl rfl (ii_ _ _ _ (by decide)) (by decide) rfl (fun ls hl => ?_)
                              refine lv_goto (tgt := 319) hx hb dL_law_374 (by decide) ?_
                              refine W.widen (k := cb319 + 0) (n := sb319 + 0) (by omega) (by omega) ?_
                              exact IH319 (cb319 + 0) (sb319 + 0) Y67 (u43 + (1 : Int32)) _ _ _ (by omega) (by omega) hF hP hD hS (lv_sub hl [0, 1, 2, 3, 4, 5, 6] rfl)
                            · have hF := br_neg hc69 hF
                              refine lv_iconst (v := 0) hx hb dL_law_369 (by decide) ?_
                              exact absurd (some1 hF) (by decide)
                  exact L319 5 (cb2 + 4476) (sb2 + 38087) Y39 (0 : Int32) _ _ _ (by omega) (by omega) hF hP hD hS (lv_sub hl [0, 1, 2, 4, 5, 6, 7] rfl)
                · have hF := br_pos hc27 hF
                  refine lv_iconst (v := 0) hx hb dL_law_288 (by decide) ?_
                  exact absurd (some1 hF) (by decide)
              have L57 : ∀ (n57 : Nat) (cb57 sb57 : Nat) (Y71 : TS) (u70 : Int32) (H : Heap) (locs : List Loc) (ls : Array Slot), cb57 + 819 * n57 ≤ (cb2 + 4473) → sb57 + 5265 * n57 ≤ (sb2 + 38069) → F_L_law_l57 L xs (F_L_law_x57 L xs u1 (F_L_law_l2 L xs F_L_law_x2 n2)) n57 Y71 u70 = some 1 → va_P (dC, dI) vwCl (ww q ta10 aa sa Y71) H → va_D A (ww q ta10 aa sa Y71) → va_S A s.heap H locs → lv_has ls 20 [(4, .int u70), (3, .ref (aa 0)), (2, .ref (ta10 0)), (1, .int u1), (0, .ref sa)] → W p l e room_1 s m #[Value.ref sa] below meth c H locs (cb57 + 0) (sb57 + 0) Q (F0 m 57 ls []) := by
                intro n57
                induction n57 with
                | zero =>
                  intro cb57 sb57 Y71 u70 H locs ls hc57 hs57 hF
                  rw [F_L_law_l57] at hF
                  cases hF
                | succ n57 IH57 =>
                  intro cb57 sb57 Y71 u70 H locs ls hc57 hs57 hF hP hD hS hl
                  rw [F_L_law_l57] at hF
                  refine W.widen (k := (cb57 + 0)) (n := (sb57 + 0)) (Nat.le_refl _) (Nat.le_refl _) ?_
                  refine lv_iload hx hb dL_law_57 (lv_at hl 0 rfl) ?_
                  refine lv_iconst (v := 3) hx hb dL_law_59 (by decide) ?_
                  refine lv_icmp_ge (tgt := 281) hx hb dL_law_60 (by decide) (fun hc72 => ?_) (fun hc72 => ?_)
                  · have hF := br_pos hc72 hF
                    refine W.widen (k := (cb2 + 4473)) (n := (sb2 + 38069)) (by omega) (by omega) ?_
                    exact Jx57 Y71 _ _ _ hF hP hD hS (lv_sub hl [1, 2, 3, 4] rfl)
                  · have hF := br_neg hc72 hF
                    refine lv_aload_n hx hb dL_law_63 rfl (lv_at hl 2 rfl) ?_
                    refine lv_aload_n hx hb dL_law_64 rfl (lv_at hl 2 rfl) ?_
                    refine va_get (D := (dC, dI)) (ci := 8) (v := .ref (ta10 4)) (C := RX6) (T := TX6) (N := 9) hx hb hts hinX6 hown hK hP 0 ww_0 rfl 6 (by decide) (hts (.fieldLink RL 29 "BallotLoomLaw$Told" "stacks" "[[I") (by decide +kernel)) (fun _ h9 => h9) rfl dL_law_65 ?_
                    refine va_alen (v := nI (Y71.1.1 4)) hx hb hK hP 4 4 ww_4 rfl rfl dL_law_68 ?_
                    refine lv_topi (fun y73 ey73 => ?_)
                    have hF := bv_at ey73 hF
                    obtain ⟨Y76, rr75, hC74, hF⟩ := calt_some hF
                    have hFc := b_free (ws := ww q ta10 aa sa Y71) hD hS hA
                    refine va_calli (va_runV (As := [.int y73]) (rest := []) ⟨hx, hb, hml, hown, hts⟩ (c_X6_draw l dC dI q ta10 aa sa L xs Y71 y73 _  _ _ hC74) (cwV 1 hts gL_law_X6_draw rfl rfl rfl (by decide +kernel) ⟨Nat.le_of_ble_eq_true rfl, Nat.le_of_ble_eq_true rfl⟩) ⟨pe_blind (sx_bl _ _ _ _), va_recv hK hP (ci := 8) (q0 := 0) rfl ww_0, fun U hU hW => ⟨rfl, pr_mk hU hW hP hK hD, sx_mk hU hW hS hFc hXs.1⟩⟩ rfl rfl hl.1 rfl (lv_room (Nat.le_of_ble_eq_true rfl)) dL_law_69 ⟨(show (cb57 + 0) + 0 ≤ 654152 from by omega), (show (sb57 + 0) + 0 ≤ 7139168 from by omega)⟩) hS (fun x _ h => hFc x h) hFc (fun ra77 u t H1 locs ht hvm hw hB hz1 hk1 hS => ?_)
                    obtain ⟨hP, hK1, hD1⟩ := hB
                    rw [ht] at hP
                    have hD := hD1.weaken (fun _ q9 _ h9 => hFc q9.1 h9)
                    generalize H1 = H at hP hS ⊢
                    refine W.widen (k := (cb57 + 0)) (n := (sb57 + 0)) (show (cb57 + 0) + 0 ≤ (cb57 + 0) by omega) (show (sb57 + 0) + 0 ≤ (sb57 + 0) by omega) ?_
                    obtain rfl : ra77 = rr75 := hw
                    refine lv_istore (lv' := [(5, .int ra77), (4, .int u70), (3, .ref (aa 0)), (2, .ref (ta10 0)), (1, .int u1), (0, .ref sa)]) hx hb dL_law_72 hl (by decide) rfl (fun ls hl => ?_)
                    refine lv_aload_n hx hb dL_law_74 rfl (lv_at hl 3 rfl) ?_
                    refine va_get (D := (dC, dI)) (ci := 8) (v := .ref (ta10 4)) (C := RX6) (T := TX6) (N := 9) hx hb hts hinX6 hown hK hP 0 ww_0 rfl 6 (by decide) (hts (.fieldLink RL 29 "BallotLoomLaw$Told" "stacks" "[[I") (by decide +kernel)) (fun _ h9 => h9) rfl dL_law_75 ?_
                    refine lv_iload hx hb dL_law_78 (lv_at hl 0 rfl) ?_
                    obtain ⟨hg78, hF⟩ := gd_some hF
                    have hk79 : ix ra77 < Y76.1.1 4 := tx_in hg78
                    refine bq_ald (v := (ta10 (5 + (ix ra77)))) (hty := rfl) hx hb hK hP 4 4 ww_4 rfl hg78 (if_pos hk79) dL_law_80 ?_
                    refine lv_iconst (v := 0) hx hb dL_law_81 (by decide) ?_
                    refine va_iald hx hb hK hP (5 + (ix ra77)) 0 (ww_r hk79) rfl (by unfold vp_in; decide) dL_law_82 ?_
                    refine lv_topi (fun y80 ey80 => ?_)
                    have hF := bv_at ey80 hF
                    refine lv_istore (lv' := [(6, .int y80), (5, .int ra77), (4, .int u70), (3, .ref (aa 0)), (2, .ref (ta10 0)), (1, .int u1), (0, .ref sa)]) hx hb dL_law_83 hl (by decide) rfl (fun ls hl => ?_)
                    refine lv_aload_n hx hb dL_law_85 rfl (lv_at hl 4 rfl) ?_
                    refine lv_iconst (v := 4) hx hb dL_law_86 (by decide) ?_
                    obtain ⟨Y83, rr82, hC81, hF⟩ := calt_some hF
                    have hFc := b_free (ws := ww q ta10 aa sa Y76) hD hS hA
                    refine va_calli (va_runV (As := [.int 4]) (rest := []) ⟨hx, hb, hml, hown, hts⟩ (c_X6_draw l dC dI q ta10 aa sa L xs Y76 (4 : Int32) _  _ _ hC81) (cwV 1 hts gL_law_X6_draw rfl rfl rfl (by decide +kernel) ⟨Nat.le_of_ble_eq_true rfl, Nat.le_of_ble_eq_true rfl⟩) ⟨pe_blind (sx_bl _ _ _ _), va_recv hK hP (ci := 8) (q0 := 0) rfl ww_0, fun U hU hW => ⟨rfl, pr_mk hU hW hP hK hD, sx_mk hU hW hS hFc hXs.1⟩⟩ rfl rfl hl.1 rfl (lv_room (Nat.le_of_ble_eq_true rfl)) dL_law_87 ⟨(show (cb57 + 0) + 0 ≤ 654152 from by omega), (show (sb57 + 0) + 0 ≤ 7139168 from by omega)⟩) hS (fun x _ h => hFc x h) hFc (fun ra84 u t H1 locs ht hvm hw hB hz1 hk1 hS => ?_)
                    obtain ⟨hP, hK1, hD1⟩ := hB
                    rw [ht] at hP
                    have hD := hD1.weaken (fun _ q9 _ h9 => hFc q9.1 h9)
                    generalize H1 = H at hP hS ⊢
                    refine W.widen (k := (cb57 + 0)) (n := (sb57 + 0)) (show (cb57 + 0) + 0 ≤ (cb57 + 0) by omega) (show (sb57 + 0) + 0 ≤ (sb57 + 0) by omega) ?_
                    obtain rfl : ra84 = rr82 := hw
                    refine lv_istore (lv' := [(7, .int ra84), (6, .int y80), (5, .int ra77), (4, .int u70), (3, .ref (aa 0)), (2, .ref (ta10 0)), (1, .int u1), (0, .ref sa)]) hx hb dL_law_90 hl (by decide) rfl (fun ls hl => ?_)
                    refine lv_aload_n hx hb dL_law_92 rfl (lv_at hl 5 rfl) ?_
                    obtain ⟨Y87, rr86, hC85, hF⟩ := calt_some hF
                    have hFc := b_free (ws := ww q ta10 aa sa Y83) hD hS hA
                    refine va_calli (va_runV (As := []) (rest := []) ⟨hx, hb, hml, hown, hts⟩ (c_X6_ranks l dC dI q ta10 aa sa L xs Y83  _  _ _ hC85) (cwV 0 hts gL_law_X6_ranks rfl rfl rfl (by decide +kernel) ⟨Nat.le_of_ble_eq_true rfl, Nat.le_of_ble_eq_true rfl⟩) ⟨pe_blind (sx_bl _ _ _ _), va_recv hK hP (ci := 8) (q0 := 0) rfl ww_0, fun U hU hW => ⟨rfl, pr_mk hU hW hP hK hD, sx_mk hU hW hS hFc hXs.1⟩⟩ rfl rfl hl.1 rfl (lv_room (Nat.le_of_ble_eq_true rfl)) dL_law_93 ⟨(show (cb57 + 0) + 0 ≤ 654152 from by omega), (show (sb57 + 0) + 0 ≤ 7139168 from by omega)⟩) hS (fun x _ h => hFc x h) hFc (fun ra88 u t H1 locs ht hvm hw hB hz1 hk1 hS => ?_)
                    obtain ⟨hP, hK1, hD1⟩ := hB
                    rw [ht] at hP
                    have hD := hD1.weaken (fun _ q9 _ h9 => hFc q9.1 h9)
                    generalize H1 = H at hP hS ⊢
                    refine W.widen (k := (cb57 + 0)) (n := (sb57 + 0)) (show (cb57 + 0) + 0 ≤ (cb57 + 0) by omega) (show (sb57 + 0) + 0 ≤ (sb57 + 0) by omega) ?_
                    obtain rfl : ra88 = rr86 := hw
                    refine lv_istore (lv' := [(8, .int ra88), (7, .int ra84), (6, .int y80), (5, .int ra77), (4, .int u70), (3, .ref (aa 0)), (2, .ref (ta10 0)), (1, .int u1), (0, .ref sa)]) hx hb dL_law_96 hl (by decide) rfl (fun ls hl => ?_)
                    refine lv_aload_n hx hb dL_law_98 rfl (lv_at hl 5 rfl) ?_
                    obtain ⟨z91, rr90, hC89, hF⟩ := cal_some hF
                    obtain ⟨Y92, eY92, hF⟩ := bv_some hF
                    have hPc := sf_P hP
                    have hDc := sf_D hD
                    have hKc : va_K (dC, dI) vwCl (bty q) s := hK
                    have hFc := b_free (ws := bw q aa Y87.2) hDc hS hA
                    refine va_calll (va_runV (As := []) (rest := []) ⟨hx, hb, hml, hown, hts⟩ (c_X5_digest l dC dI q aa Y87.2   _ _ _ hC89) (cwV 0 hts gL_law_X5_digest rfl rfl rfl (by decide +kernel) ⟨Nat.le_of_ble_eq_true rfl, Nat.le_of_ble_eq_true rfl⟩) ⟨pr_blind, va_recv hKc hPc (ci := 7) (q0 := 0) rfl (bw_at (i := 0) (by decide) rfl), fun U hU hW => ⟨rfl, pr_mk hU hW hPc hKc hDc⟩⟩ rfl rfl hl.1 rfl (lv_room (Nat.le_of_ble_eq_true rfl)) dL_law_99 ⟨(show (cb57 + 0) + 0 ≤ 654152 from by omega), (show (sb57 + 0) + 0 ≤ 7139168 from by omega)⟩) hS (fun x _ h => hFc x h) hFc (fun ra93 u t H1 locs ht hvm hw hB hz1 hk1 hS => ?_)
                    obtain ⟨hP1, hK1, hD1⟩ := hB
                    rw [ht] at hP1
                    obtain ⟨hP, hD⟩ := sf_J hP hD hk1 hFc hP1 hD1
                    have eW : twl q ta10 (aa 0) sa Y87.1 ++ bw q aa z91 = ww q ta10 aa sa Y92 := by rw [eY92]; rfl
                    rw [eW] at hP hD
                    clear eW
                    clear hPc hDc hKc hFc hP1 hK1 hD1
                    generalize H1 = H at hP hS ⊢
                    refine W.widen (k := (cb57 + 0)) (n := (sb57 + 0)) (show (cb57 + 0) + 0 ≤ (cb57 + 0) by omega) (show (sb57 + 0) + 0 ≤ (sb57 + 0) by omega) ?_
                    obtain rfl : ra93 = rr90 := hw
                    refine lv_lstore (lv' := [(9, .long ra93), (8, .int ra88), (7, .int ra84), (6, .int y80), (5, .int ra77), (4, .int u70), (3, .ref (aa 0)), (2, .ref (ta10 0)), (1, .int u1), (0, .ref sa)]) hx hb dL_law_102 hl (by decide) rfl (fun ls hl => ?_)
                    refine lv_aload_n hx hb dL_law_104 rfl (lv_at hl 6 rfl) ?_
                    refine lv_iload hx hb dL_law_105 (lv_at hl 4 rfl) ?_
                    refine lv_iload hx hb dL_law_107 (lv_at hl 1 rfl) ?_
                    refine lv_iload hx hb dL_law_109 (lv_at hl 2 rfl) ?_
                    obtain ⟨z96, rr95, hC94, hF⟩ := cal_some hF
                    obtain ⟨Y97, eY97, hF⟩ := bv_some hF
                    have hPc := sf_P hP
                    have hDc := sf_D hD
                    have hKc : va_K (dC, dI) vwCl (bty q) s := hK
                    have hFc := b_free (ws := bw q aa Y92.2) hDc hS hA
                    refine va_calli (va_runV (As := [.int ra77, .int ra88, .int ra84]) (rest := []) ⟨hx, hb, hml, hown, hts⟩ (c_X5_wouldWin l dC dI q aa Y92.2 ra77 ra88 ra84 hsp _ _ _ hC94) (cwV 3 hts gL_law_X5_wouldWin rfl rfl rfl (by decide +kernel) ⟨Nat.le_of_ble_eq_true rfl, Nat.le_of_ble_eq_true rfl⟩) ⟨pr_blind, va_recv hKc hPc (ci := 7) (q0 := 0) rfl (bw_at (i := 0) (by decide) rfl), fun U hU hW => ⟨rfl, pr_mk hU hW hPc hKc hDc⟩⟩ rfl rfl hl.1 rfl (lv_room (Nat.le_of_ble_eq_true rfl)) dL_law_111 ⟨(show (cb57 + 0) + 0 ≤ 654152 from by omega), (show (sb57 + 0) + 0 ≤ 7139168 from by omega)⟩) hS (fun x _ h => hFc x h) hFc (fun ra98 u t H1 locs ht hvm hw hB hz1 hk1 hS => ?_)
                    obtain ⟨hP1, hK1, hD1⟩ := hB
                    rw [ht] at hP1
                    obtain ⟨hP, hD⟩ := sf_J hP hD hk1 hFc hP1 hD1
                    have eW : twl q ta10 (aa 0) sa Y92.1 ++ bw q aa z96 = ww q ta10 aa sa Y97 := by rw [eY97]; rfl
                    rw [eW] at hP hD
                    clear eW
                    clear hPc hDc hKc hFc hP1 hK1 hD1
                    generalize H1 = H at hP hS ⊢
                    refine W.widen (k := (cb57 + 0)) (n := (sb57 + 0)) (show (cb57 + 0) + 0 ≤ (cb57 + 0) by omega) (show (sb57 + 0) + 0 ≤ (sb57 + 0) by omega) ?_
                    obtain rfl : ra98 = rr95 := hw
                    refine lv_istore (lv' := [(11, .int ra98), (9, .long ra93), (8, .int ra88), (7, .int ra84), (6, .int y80), (5, .int ra77), (4, .int u70), (3, .ref (aa 0)), (2, .ref (ta10 0)), (1, .int u1), (0, .ref sa)]) hx hb dL_law_114 hl (by decide) rfl (fun ls hl => ?_)
                    refine lv_aload_n hx hb dL_law_116 rfl (lv_at hl 7 rfl) ?_
                    refine lv_iload hx hb dL_law_117 (lv_at hl 5 rfl) ?_
                    refine lv_iload hx hb dL_law_119 (lv_at hl 3 rfl) ?_
                    obtain ⟨z101, rr100, hC99, hF⟩ := cal_some hF
                    obtain ⟨Y102, eY102, hF⟩ := bv_some hF
                    have hPc := sf_P hP
                    have hDc := sf_D hD
                    have hKc : va_K (dC, dI) vwCl (bty q) s := hK
                    have hFc := b_free (ws := bw q aa Y97.2) hDc hS hA
                    refine va_calli (va_runV (As := [.int ra77, .int ra84]) (rest := []) ⟨hx, hb, hml, hown, hts⟩ (c_X5_lie l dC dI q aa Y97.2 ra77 ra84 hsp _ _ _ hC99) (cwV 2 hts gL_law_X5_lie rfl rfl rfl (by decide +kernel) ⟨Nat.le_of_ble_eq_true rfl, Nat.le_of_ble_eq_true rfl⟩) ⟨pr_blind, va_recv hKc hPc (ci := 7) (q0 := 0) rfl (bw_at (i := 0) (by decide) rfl), fun U hU hW => ⟨rfl, pr_mk hU hW hPc hKc hDc⟩⟩ rfl rfl hl.1 rfl (lv_room (Nat.le_of_ble_eq_true rfl)) dL_law_121 ⟨(show (cb57 + 0) + 0 ≤ 654152 from by omega), (show (sb57 + 0) + 0 ≤ 7139168 from by omega)⟩) hS (fun x _ h => hFc x h) hFc (fun ra103 u t H1 locs ht hvm hw hB hz1 hk1 hS => ?_)
                    obtain ⟨hP1, hK1, hD1⟩ := hB
                    rw [ht] at hP1
                    obtain ⟨hP, hD⟩ := sf_J hP hD hk1 hFc hP1 hD1
                    have eW : twl q ta10 (aa 0) sa Y97.1 ++ bw q aa z101 = ww q ta10 aa sa Y102 := by rw [eY102]; rfl
                    rw [eW] at hP hD
                    clear eW
                    clear hPc hDc hKc hFc hP1 hK1 hD1
                    generalize H1 = H at hP hS ⊢
                    refine W.widen (k := (cb57 + 0)) (n := (sb57 + 0)) (show (cb57 + 0) + 0 ≤ (cb57 + 0) by omega) (show (sb57 + 0) + 0 ≤ (sb57 + 0) by omega) ?_
                    obtain rfl : ra103 = rr100 := hw
                    refine lv_istore (lv' := [(12, .int ra103), (11, .int ra98), (9, .long ra93), (8, .int ra88), (7, .int ra84), (6, .int y80), (5, .int ra77), (4, .int u70), (3, .ref (aa 0)), (2, .ref (ta10 0)), (1, .int u1), (0, .ref sa)]) hx hb dL_law_124 hl (by decide) rfl (fun ls hl => ?_)
                    refine lv_aload_n hx hb dL_law_126 rfl (lv_at hl 8 rfl) ?_
                    refine lv_iload hx hb dL_law_127 (lv_at hl 5 rfl) ?_
                    refine lv_iload hx hb dL_law_129 (lv_at hl 4 rfl) ?_
                    obtain ⟨z106, rr105, hC104, hF⟩ := cal_some hF
                    obtain ⟨Y107, eY107, hF⟩ := bv_some hF
                    have hPc := sf_P hP
                    have hDc := sf_D hD
                    have hKc : va_K (dC, dI) vwCl (bty q) s := hK
                    have hFc := b_free (ws := bw q aa Y102.2) hDc hS hA
                    refine va_calli (va_runV (As := [.int y80, .int ra84]) (rest := []) ⟨hx, hb, hml, hown, hts⟩ (c_X5_winner l dC dI q aa Y102.2 y80 ra84  _ _ _ hC104) (cwV 2 hts gL_law_X5_winner rfl rfl rfl (by decide +kernel) ⟨Nat.le_of_ble_eq_true rfl, Nat.le_of_ble_eq_true rfl⟩) ⟨pr_blind, va_recv hKc hPc (ci := 7) (q0 := 0) rfl (bw_at (i := 0) (by decide) rfl), fun U hU hW => ⟨rfl, pr_mk hU hW hPc hKc hDc⟩⟩ rfl rfl hl.1 rfl (lv_room (Nat.le_of_ble_eq_true rfl)) dL_law_131 ⟨(show (cb57 + 0) + 0 ≤ 654152 from by omega), (show (sb57 + 0) + 0 ≤ 7139168 from by omega)⟩) hS (fun x _ h => hFc x h) hFc (fun ra108 u t H1 locs ht hvm hw hB hz1 hk1 hS => ?_)
                    obtain ⟨hP1, hK1, hD1⟩ := hB
                    rw [ht] at hP1
                    obtain ⟨hP, hD⟩ := sf_J hP hD hk1 hFc hP1 hD1
                    have eW : twl q ta10 (aa 0) sa Y102.1 ++ bw q aa z106 = ww q ta10 aa sa Y107 := by rw [eY107]; rfl
                    rw [eW] at hP hD
                    clear eW
                    clear hPc hDc hKc hFc hP1 hK1 hD1
                    generalize H1 = H at hP hS ⊢
                    refine W.widen (k := (cb57 + 0)) (n := (sb57 + 0)) (show (cb57 + 0) + 0 ≤ (cb57 + 0) by omega) (show (sb57 + 0) + 0 ≤ (sb57 + 0) by omega) ?_
                    obtain rfl : ra108 = rr105 := hw
                    refine lv_istore (lv' := [(13, .int ra108), (12, .int ra103), (11, .int ra98), (9, .long ra93), (8, .int ra88), (7, .int ra84), (6, .int y80), (5, .int ra77), (4, .int u70), (3, .ref (aa 0)), (2, .ref (ta10 0)), (1, .int u1), (0, .ref sa)]) hx hb dL_law_134 hl (by decide) rfl (fun ls hl => ?_)
                    refine lv_aload_n hx hb dL_law_136 rfl (lv_at hl 9 rfl) ?_
                    obtain ⟨z111, rr110, hC109, hF⟩ := cal_some hF
                    obtain ⟨Y112, eY112, hF⟩ := bv_some hF
                    have hPc := sf_P hP
                    have hDc := sf_D hD
                    have hKc : va_K (dC, dI) vwCl (bty q) s := hK
                    have hFc := b_free (ws := bw q aa Y107.2) hDc hS hA
                    refine va_calll (va_runV (As := []) (rest := []) ⟨hx, hb, hml, hown, hts⟩ (c_X5_digest l dC dI q aa Y107.2   _ _ _ hC109) (cwV 0 hts gL_law_X5_digest rfl rfl rfl (by decide +kernel) ⟨Nat.le_of_ble_eq_true rfl, Nat.le_of_ble_eq_true rfl⟩) ⟨pr_blind, va_recv hKc hPc (ci := 7) (q0 := 0) rfl (bw_at (i := 0) (by decide) rfl), fun U hU hW => ⟨rfl, pr_mk hU hW hPc hKc hDc⟩⟩ rfl rfl hl.1 rfl (lv_room (Nat.le_of_ble_eq_true rfl)) dL_law_137 ⟨(show (cb57 + 0) + 0 ≤ 654152 from by omega), (show (sb57 + 0) + 0 ≤ 7139168 from by omega)⟩) hS (fun x _ h => hFc x h) hFc (fun ra113 u t H1 locs ht hvm hw hB hz1 hk1 hS => ?_)
                    obtain ⟨hP1, hK1, hD1⟩ := hB
                    rw [ht] at hP1
                    obtain ⟨hP, hD⟩ := sf_J hP hD hk1 hFc hP1 hD1
                    have eW : twl q ta10 (aa 0) sa Y107.1 ++ bw q aa z111 = ww q ta10 aa sa Y112 := by rw [eY112]; rfl
                    rw [eW] at hP hD
                    clear eW
                    clear hPc hDc hKc hFc hP1 hK1 hD1
                    generalize H1 = H at hP hS ⊢
                    refine W.widen (k := (cb57 + 0)) (n := (sb57 + 0)) (show (cb57 + 0) + 0 ≤ (cb57 + 0) by omega) (show (sb57 + 0) + 0 ≤ (sb57 + 0) by omega) ?_
                    obtain rfl : ra113 = rr110 := hw
                    refine lv_lload hx hb dL_law_140 (lv_at hl 3 rfl) ?_
                    refine W.lcmp hx hb dL_law_142 ?_
                    refine lv_topi (fun y114 ey114 => ?_)
                    have hF := bv_at ey114 hF
                    refine lv_if_ne (tgt := 166) hx hb dL_law_143 (by decide) (fun hc115 => ?_) (fun hc115 => ?_)
                    · have hF := br_neg hc115 hF
                      refine lv_iconst (v := 0) hx hb dL_law_166 (by decide) ?_
                      exact absurd (some1 hF) (by decide)
                    · have hF := br_pos hc115 hF
                      refine lv_aload_n hx hb dL_law_146 rfl (lv_at hl 10 rfl) ?_
                      refine lv_iload hx hb dL_law_147 (lv_at hl 7 rfl) ?_
                      refine lv_iload hx hb dL_law_149 (lv_at hl 4 rfl) ?_
                      obtain ⟨Z116, _, hC117, hF⟩ := cal_some hF
                      have hFc := b_free (ws := ww q ta10 aa sa Y112) hD hS hA
                      refine va_callr (va_runS (As := [.ref (ta10 0), .int ra77, .int ra88]) (rest := []) ⟨hx, hb, hml, hown, hts⟩ (c_L_other l dC dI q ta10 aa sa Y112 ra77 ra88 _ Z116 hC117) (va_cwS 3 hts gL_law_L_other rfl rfl rfl (by decide +kernel) ⟨Nat.le_of_ble_eq_true rfl, Nat.le_of_ble_eq_true rfl⟩) ⟨pe_blind ao_bl, fun U hU hW => ⟨rfl, pr_mk hU hW hP hK hD, ao_mk hW hXs.2.1⟩⟩ rfl rfl hl.1 rfl (lv_room (Nat.le_of_ble_eq_true rfl)) dL_law_151 ⟨(show (cb57 + 0) + 91 ≤ 654152 from by omega), (show (sb57 + 0) + 585 ≤ 7139168 from by omega)⟩) hS (fun x _ h => hFc x h) hFc (fun u RES t H1 locs ht hvm hw hB hz1 hk1 hS => ?_)
                      obtain ⟨ab118, qb119⟩ := u
                      obtain ⟨hR, hP, hK9, hD1⟩ := hB
                      rw [hR]
                      rw [ht] at hP
                      have hD := hD1.weaken (fun _ q9 _ h9 => hFc q9.1 h9)
                      have hK2 : va_K (dC, dI) vwCl (bty q ++ bty qb119) s := va_K.moved hvm.symm hK9
                      clear hFc hD1 hK9 hz1 hk1 hR
                      have hP : va_P (dC, dI) vwCl (ww q ta10 aa sa Y112 ++ bw qb119 ab118 Z116) H1 := hP
                      have hD : va_D A (ww q ta10 aa sa Y112 ++ bw qb119 ab118 Z116) := hD
                      generalize H1 = H at hP hS ⊢
                      refine W.widen (k := (cb57 + 91)) (n := (sb57 + 585)) (show (cb57 + 0) + 91 ≤ (cb57 + 91) by omega) (show (sb57 + 0) + 585 ≤ (sb57 + 585) by omega) ?_
                      refine lv_iload hx hb dL_law_154 (lv_at hl 6 rfl) ?_
                      refine lv_iload hx hb dL_law_156 (lv_at hl 5 rfl) ?_
                      obtain ⟨z122, rr121, hC120, hF⟩ := cal_some hF
                      have hPc := sf_P hP
                      have hDc := sf_D hD
                      have hKc : va_K (dC, dI) vwCl (bty qb119) s := hK2.sub [5, 6, 7, 8, 9] rfl
                      have hFc := b_free (ws := bw qb119 ab118 Z116) hDc hS hA
                      refine va_calli (va_runV (As := [.int y80, .int ra84]) (rest := []) ⟨hx, hb, hml, hown, hts⟩ (c_X5_winner l dC dI qb119 ab118 Z116 y80 ra84  _ _ _ hC120) (cwV 2 hts gL_law_X5_winner rfl rfl rfl (by decide +kernel) ⟨Nat.le_of_ble_eq_true rfl, Nat.le_of_ble_eq_true rfl⟩) ⟨pr_blind, va_recv hKc hPc (ci := 7) (q0 := 0) rfl (bw_at (i := 0) (by decide) rfl), fun U hU hW => ⟨rfl, pr_mk hU hW hPc hKc hDc⟩⟩ rfl rfl hl.1 rfl (lv_room (Nat.le_of_ble_eq_true rfl)) dL_law_158 ⟨(show (cb57 + 91) + 0 ≤ 654152 from by omega), (show (sb57 + 585) + 0 ≤ 7139168 from by omega)⟩) hS (fun x _ h => hFc x h) hFc (fun ra123 u t H1 locs ht hvm hw hB hz1 hk1 hS => ?_)
                      obtain ⟨hP1, hK1, hD1⟩ := hB
                      rw [ht] at hP1
                      obtain ⟨hP, hD⟩ := sf_J hP hD hk1 hFc hP1 hD1
                      have hP : va_P (dC, dI) vwCl (ww q ta10 aa sa Y112) H1 := sf_F hP
                      have hD : va_D A (ww q ta10 aa sa Y112) := sf_FD hD
                      clear hK2
                      clear hPc hDc hKc hFc hP1 hK1 hD1
                      generalize H1 = H at hP hS ⊢
                      refine W.widen (k := (cb57 + 91)) (n := (sb57 + 585)) (show (cb57 + 91) + 0 ≤ (cb57 + 91) by omega) (show (sb57 + 585) + 0 ≤ (sb57 + 585) by omega) ?_
                      obtain rfl : ra123 = rr121 := hw
                      refine lv_iload hx hb dL_law_161 (lv_at hl 2 rfl) ?_
                      refine lv_icmp_eq (tgt := 168) hx hb dL_law_163 (by decide) (fun hc124 => ?_) (fun hc124 => ?_)
                      · have hF := br_pos hc124 hF
                        refine lv_aload_n hx hb dL_law_168 rfl (lv_at hl 10 rfl) ?_
                        refine lv_aload_n hx hb dL_law_169 rfl (lv_at hl 10 rfl) ?_
                        refine va_get (D := (dC, dI)) (ci := 8) (v := .ref (ta10 4)) (C := RX6) (T := TX6) (N := 9) hx hb hts hinX6 hown hK hP 0 ww_0 rfl 6 (by decide) (hts (.fieldLink RL 29 "BallotLoomLaw$Told" "stacks" "[[I") (by decide +kernel)) (fun _ h9 => h9) rfl dL_law_170 ?_
                        refine lv_iload hx hb dL_law_173 (lv_at hl 7 rfl) ?_
                        obtain ⟨hg125, hF⟩ := gd_some hF
                        have hk126 : ix ra77 < Y112.1.1 4 := tx_in hg125
                        refine bq_ald (v := (ta10 (5 + (ix ra77)))) (hty := rfl) hx hb hK hP 4 4 ww_4 rfl hg125 (if_pos hk126) dL_law_175 ?_
                        obtain ⟨rr128, hC127, hF⟩ := calp_some hF
                        have hFc := b_free (ws := ww q ta10 aa sa Y112) hD hS hA
                        refine va_calli (va_runV (As := [.ref (ta10 (5 + (ix ra77)))]) (rest := []) ⟨hx, hb, hml, hown, hts⟩ (c_X6_list l dC dI q ta10 aa sa L xs Y112 (ix ra77) _ hk126 _ hC127) (cwV 1 hts gL_law_X6_list rfl rfl rfl (by decide +kernel) ⟨Nat.le_of_ble_eq_true rfl, Nat.le_of_ble_eq_true rfl⟩) ⟨pe_blind (sx_bl _ _ _ _), va_recv hK hP (ci := 8) (q0 := 0) rfl ww_0, fun U hU hW => ⟨rfl, pr_mk hU hW hP hK hD, sx_mk hU hW hS hFc hXs.1⟩⟩ rfl rfl hl.1 rfl (lv_room (Nat.le_of_ble_eq_true rfl)) dL_law_176 ⟨(show (cb57 + 91) + 0 ≤ 654152 from by omega), (show (sb57 + 585) + 0 ≤ 7139168 from by omega)⟩) hS (fun x _ h => hFc x h) hFc (fun ra129 u t H1 locs ht hvm hw hB hz1 hk1 hS => ?_)
                        obtain ⟨hP, hK1, hD1⟩ := hB
                        rw [ht] at hP
                        have hD := hD1.weaken (fun _ q9 _ h9 => hFc q9.1 h9)
                        generalize H1 = H at hP hS ⊢
                        refine W.widen (k := (cb57 + 91)) (n := (sb57 + 585)) (show (cb57 + 91) + 0 ≤ (cb57 + 91) by omega) (show (sb57 + 585) + 0 ≤ (sb57 + 585) by omega) ?_
                        obtain rfl : ra129 = rr128 := hw
                        refine lv_istore (lv' := [(14, .int ra129), (13, .int ra108), (12, .int ra103), (11, .int ra98), (9, .long ra93), (8, .int ra88), (7, .int ra84), (6, .int y80), (5, .int ra77), (4, .int u70), (3, .ref (aa 0)), (2, .ref (ta10 0)), (1, .int u1), (0, .ref sa)]) hx hb dL_law_179 hl (by decide) rfl (fun ls hl => ?_)
                        refine lv_iload hx hb dL_law_181 (lv_at hl 0 rfl) ?_
                        refine lv_iload hx hb dL_law_183 (lv_at hl 1 rfl) ?_
                        obtain ⟨rr131, hC130, hF⟩ := calp_some hF
                        have hFc := nil_F hS hA
                        refine va_calli (va_runS (As := [.int ra129, .int ra108]) (rest := []) ⟨hx, hb, hml, hown, hts⟩ (c_X6_place l dC dI  ra129 ra108 _  _ hC130) (va_cwS 2 hts gL_law_X6_place rfl rfl rfl (by decide +kernel) ⟨Nat.le_of_ble_eq_true rfl, Nat.le_of_ble_eq_true rfl⟩) ⟨pr_blind, fun U hU hW => ⟨rfl, pr_mk hU hW (va_Pn (D := (dC, dI)) (cl := vwCl) _) (hK.sub (tys' := []) [] rfl) (va_Dn A)⟩⟩ rfl rfl hl.1 rfl (lv_room (Nat.le_of_ble_eq_true rfl)) dL_law_185 ⟨(show (cb57 + 91) + 0 ≤ 654152 from by omega), (show (sb57 + 585) + 0 ≤ 7139168 from by omega)⟩) hS (fun x _ h => hFc x h) hFc (fun ra132 u t H1 locs ht hvm hw hB hz1 hk1 hS => ?_)
                        have hP := nil_J (A := A) hP hk1
                        generalize H1 = H at hP hS ⊢
                        refine W.widen (k := (cb57 + 91)) (n := (sb57 + 585)) (show (cb57 + 91) + 0 ≤ (cb57 + 91) by omega) (show (sb57 + 585) + 0 ≤ (sb57 + 585) by omega) ?_
                        obtain rfl : ra132 = rr131 := hw
                        refine lv_istore (lv' := [(15, .int ra132), (14, .int ra129), (13, .int ra108), (12, .int ra103), (11, .int ra98), (9, .long ra93), (8, .int ra88), (7, .int ra84), (6, .int y80), (5, .int ra77), (4, .int u70), (3, .ref (aa 0)), (2, .ref (ta10 0)), (1, .int u1), (0, .ref sa)]) hx hb dL_law_188 hl (by decide) rfl (fun ls hl => ?_)
                        refine lv_iconst (v := (-1)) hx hb dL_law_190 (by decide) ?_
                        refine lv_istore (lv' := [(16, .int (-1)), (15, .int ra132), (14, .int ra129), (13, .int ra108), (12, .int ra103), (11, .int ra98), (9, .long ra93), (8, .int ra88), (7, .int ra84), (6, .int y80), (5, .int ra77), (4, .int u70), (3, .ref (aa 0)), (2, .ref (ta10 0)), (1, .int u1), (0, .ref sa)]) hx hb dL_law_191 hl (by decide) rfl (fun ls hl => ?_)
                        refine lv_iload hx hb dL_law_193 (lv_at hl 2 rfl) ?_
                        refine lv_istore (lv' := [(17, .int ra129), (16, .int (-1)), (15, .int ra132), (14, .int ra129), (13, .int ra108), (12, .int ra103), (11, .int ra98), (9, .long ra93), (8, .int ra88), (7, .int ra84), (6, .int y80), (5, .int ra77), (4, .int u70), (3, .ref (aa 0)), (2, .ref (ta10 0)), (1, .int u1), (0, .ref sa)]) hx hb dL_law_195 hl (by decide) rfl (fun ls hl => ?_)
                        have Jx197 : ∀ (Y134 : TS) (w133 : Int32) (H : Heap) (locs : List Loc) (ls : Array Slot), (F_L_law_x197 u70 (F_L_law_l57 L xs (F_L_law_x57 L xs u1 (F_L_law_l2 L xs F_L_law_x2 n2)) n57) ra103) Y134 w133 = some 1 → va_P (dC, dI) vwCl (ww q ta10 aa sa Y134) H → va_D A (ww q ta10 aa sa Y134) → va_S A s.heap H locs → lv_has ls 20 [(16, .int w133), (12, .int ra103), (4, .int u70), (3, .ref (aa 0)), (2, .ref (ta10 0)), (1, .int u1), (0, .ref sa)] → W p l e room_1 s m #[Value.ref sa] below meth c H locs (cb57 + 819) (sb57 + 5265) Q (F0 m 266 ls []) := by
                          intro Y134 w133 H locs ls hF hP hD hS hl
                          unfold F_L_law_x197 at hF
                          refine lv_iload hx hb dL_law_266 (lv_at hl 0 rfl) ?_
                          refine lv_iload hx hb dL_law_268 (lv_at hl 1 rfl) ?_
                          refine lv_icmp_eq (tgt := 275) hx hb dL_law_270 (by decide) (fun hc135 => ?_) (fun hc135 => ?_)
                          · have hF := br_pos hc135 hF
                            refine lv_iinc (k := 2) (v := (u70 + (1 : Int32))) (lv' := [(4, .int (u70 + (1 : Int32))), (16, .int w133), (12, .int ra103), (3, .ref (aa 0)), (2, .ref (ta10 0)), (1, .int u1), (0, .ref sa)]) hx hb dL_law_275 hl rfl (ii_ _ _ _ (by decide)) (by decide) rfl (fun ls hl => ?_)
                            refine lv_goto (tgt := 57) hx hb dL_law_278 (by decide) ?_
                            refine W.widen (k := cb57 + 819) (n := sb57 + 5265) (by omega) (by omega) ?_
                            exact IH57 (cb57 + 819) (sb57 + 5265) Y134 (u70 + (1 : Int32)) _ _ _ (by omega) (by omega) hF hP hD hS (lv_sub hl [0, 3, 4, 5, 6] rfl)
                          · have hF := br_neg hc135 hF
                            refine lv_iconst (v := 0) hx hb dL_law_273 (by decide) ?_
                            exact absurd (some1 hF) (by decide)
                        have L197 : ∀ (n197 : Nat) (cb197 sb197 : Nat) (Y139 : TS) (u136 : Int32) (u137 : Int32) (u138 : Int32) (H : Heap) (locs : List Loc) (ls : Array Slot), cb197 + 91 * n197 ≤ (cb57 + 819) → sb197 + 585 * n197 ≤ (sb57 + 5265) → F_L_law_l197 ra77 y80 ra84 ra129 (F_L_law_x197 u70 (F_L_law_l57 L xs (F_L_law_x57 L xs u1 (F_L_law_l2 L xs F_L_law_x2 n2)) n57) ra103) n197 Y139 u136 u137 u138 = some 1 → va_P (dC, dI) vwCl (ww q ta10 aa sa Y139) H → va_D A (ww q ta10 aa sa Y139) → va_S A s.heap H locs → lv_has ls 20 [(17, .int u138), (16, .int u137), (15, .int u136), (14, .int ra129), (12, .int ra103), (7, .int ra84), (6, .int y80), (5, .int ra77), (4, .int u70), (3, .ref (aa 0)), (2, .ref (ta10 0)), (1, .int u1), (0, .ref sa)] → W p l e room_1 s m #[Value.ref sa] below meth c H locs (cb197 + 0) (sb197 + 0) Q (F0 m 197 ls []) := by
                          intro n197
                          induction n197 with
                          | zero =>
                            intro cb197 sb197 Y139 u136 u137 u138 H locs ls hc197 hs197 hF
                            rw [F_L_law_l197] at hF
                            cases hF
                          | succ n197 IH197 =>
                            intro cb197 sb197 Y139 u136 u137 u138 H locs ls hc197 hs197 hF hP hD hS hl
                            rw [F_L_law_l197] at hF
                            refine W.widen (k := (cb197 + 0)) (n := (sb197 + 0)) (Nat.le_refl _) (Nat.le_refl _) ?_
                            refine lv_iload hx hb dL_law_197 (lv_at hl 0 rfl) ?_
                            refine lv_if_le (tgt := 266) hx hb dL_law_199 (by decide) (fun hc140 => ?_) (fun hc140 => ?_)
                            · have hF := br_pos hc140 hF
                              refine W.widen (k := (cb57 + 819)) (n := (sb57 + 5265)) (by omega) (by omega) ?_
                              exact Jx197 Y139 u137 _ _ _ hF hP hD hS (lv_sub hl [1, 4, 8, 9, 10, 11, 12] rfl)
                            · have hF := br_neg hc140 hF
                              refine lv_iload hx hb dL_law_202 (lv_at hl 0 rfl) ?_
                              refine lv_bipush (v := 10) hx hb dL_law_204 (by decide) ?_
                              refine lv_irem hx hb dL_law_206 (by decide) ?_
                              refine lv_topi (fun y141 ey141 => ?_)
                              have hF := bv_at ey141 hF
                              refine lv_iconst (v := 1) hx hb dL_law_207 (by decide) ?_
                              refine lv_isub hx hb dL_law_208 ?_
                              refine lv_topi (fun y142 ey142 => ?_)
                              have hF := bv_at ey142 hF
                              refine lv_istore (lv' := [(18, .int y142), (17, .int u138), (16, .int u137), (15, .int u136), (14, .int ra129), (12, .int ra103), (7, .int ra84), (6, .int y80), (5, .int ra77), (4, .int u70), (3, .ref (aa 0)), (2, .ref (ta10 0)), (1, .int u1), (0, .ref sa)]) hx hb dL_law_209 hl (by decide) rfl (fun ls hl => ?_)
                              refine lv_iload hx hb dL_law_211 (lv_at hl 4 rfl) ?_
                              refine lv_aload_n hx hb dL_law_213 rfl (lv_at hl 11 rfl) ?_
                              refine lv_iload hx hb dL_law_214 (lv_at hl 8 rfl) ?_
                              refine lv_iload hx hb dL_law_216 (lv_at hl 4 rfl) ?_
                              refine lv_iload hx hb dL_law_218 (lv_at hl 0 rfl) ?_
                              obtain ⟨rr144, hC143, hF⟩ := calp_some hF
                              have hFc := nil_F hS hA
                              refine va_calli (va_runS (As := [.int ra129, .int y142]) (rest := [.int ra77, .ref (ta10 0), .int ra129]) ⟨hx, hb, hml, hown, hts⟩ (c_X6_firstOf l dC dI  ra129 y142 _  _ hC143) (va_cwS 2 hts gL_law_X6_firstOf rfl rfl rfl (by decide +kernel) ⟨Nat.le_of_ble_eq_true rfl, Nat.le_of_ble_eq_true rfl⟩) ⟨pr_blind, fun U hU hW => ⟨rfl, pr_mk hU hW (va_Pn (D := (dC, dI)) (cl := vwCl) _) (hK.sub (tys' := []) [] rfl) (va_Dn A)⟩⟩ rfl rfl hl.1 rfl (lv_room (Nat.le_of_ble_eq_true rfl)) dL_law_220 ⟨(show (cb197 + 0) + 0 ≤ 654152 from by omega), (show (sb197 + 0) + 0 ≤ 7139168 from by omega)⟩) hS (fun x _ h => hFc x h) hFc (fun ra145 u t H1 locs ht hvm hw hB hz1 hk1 hS => ?_)
                              have hP := nil_J (A := A) hP hk1
                              generalize H1 = H at hP hS ⊢
                              refine W.widen (k := (cb197 + 0)) (n := (sb197 + 0)) (show (cb197 + 0) + 0 ≤ (cb197 + 0) by omega) (show (sb197 + 0) + 0 ≤ (sb197 + 0) by omega) ?_
                              obtain rfl : ra145 = rr144 := hw
                              obtain ⟨Z146, _, hC147, hF⟩ := cal_some hF
                              have hFc := b_free (ws := ww q ta10 aa sa Y139) hD hS hA
                              refine va_callr (va_runS (As := [.ref (ta10 0), .int ra77, .int ra145]) (rest := [.int ra129]) ⟨hx, hb, hml, hown, hts⟩ (c_L_other l dC dI q ta10 aa sa Y139 ra77 ra145 _ Z146 hC147) (va_cwS 3 hts gL_law_L_other rfl rfl rfl (by decide +kernel) ⟨Nat.le_of_ble_eq_true rfl, Nat.le_of_ble_eq_true rfl⟩) ⟨pe_blind ao_bl, fun U hU hW => ⟨rfl, pr_mk hU hW hP hK hD, ao_mk hW hXs.2.1⟩⟩ rfl rfl hl.1 rfl (lv_room (Nat.le_of_ble_eq_true rfl)) dL_law_223 ⟨(show (cb197 + 0) + 91 ≤ 654152 from by omega), (show (sb197 + 0) + 585 ≤ 7139168 from by omega)⟩) hS (fun x _ h => hFc x h) hFc (fun u RES t H1 locs ht hvm hw hB hz1 hk1 hS => ?_)
                              obtain ⟨ab148, qb149⟩ := u
                              obtain ⟨hR, hP, hK9, hD1⟩ := hB
                              rw [hR]
                              rw [ht] at hP
                              have hD := hD1.weaken (fun _ q9 _ h9 => hFc q9.1 h9)
                              have hK2 : va_K (dC, dI) vwCl (bty q ++ bty qb149) s := va_K.moved hvm.symm hK9
                              clear hFc hD1 hK9 hz1 hk1 hR
                              have hP : va_P (dC, dI) vwCl (ww q ta10 aa sa Y139 ++ bw qb149 ab148 Z146) H1 := hP
                              have hD : va_D A (ww q ta10 aa sa Y139 ++ bw qb149 ab148 Z146) := hD
                              generalize H1 = H at hP hS ⊢
                              refine W.widen (k := (cb197 + 91)) (n := (sb197 + 585)) (show (cb197 + 0) + 91 ≤ (cb197 + 91) by omega) (show (sb197 + 0) + 585 ≤ (sb197 + 585) by omega) ?_
                              refine lv_iload hx hb dL_law_226 (lv_at hl 7 rfl) ?_
                              refine lv_iload hx hb dL_law_228 (lv_at hl 6 rfl) ?_
                              obtain ⟨z152, rr151, hC150, hF⟩ := cal_some hF
                              have hPc := sf_P hP
                              have hDc := sf_D hD
                              have hKc : va_K (dC, dI) vwCl (bty qb149) s := hK2.sub [5, 6, 7, 8, 9] rfl
                              have hFc := b_free (ws := bw qb149 ab148 Z146) hDc hS hA
                              refine va_calli (va_runV (As := [.int y80, .int ra84]) (rest := [.int ra129]) ⟨hx, hb, hml, hown, hts⟩ (c_X5_winner l dC dI qb149 ab148 Z146 y80 ra84  _ _ _ hC150) (cwV 2 hts gL_law_X5_winner rfl rfl rfl (by decide +kernel) ⟨Nat.le_of_ble_eq_true rfl, Nat.le_of_ble_eq_true rfl⟩) ⟨pr_blind, va_recv hKc hPc (ci := 7) (q0 := 0) rfl (bw_at (i := 0) (by decide) rfl), fun U hU hW => ⟨rfl, pr_mk hU hW hPc hKc hDc⟩⟩ rfl rfl hl.1 rfl (lv_room (Nat.le_of_ble_eq_true rfl)) dL_law_230 ⟨(show (cb197 + 91) + 0 ≤ 654152 from by omega), (show (sb197 + 585) + 0 ≤ 7139168 from by omega)⟩) hS (fun x _ h => hFc x h) hFc (fun ra153 u t H1 locs ht hvm hw hB hz1 hk1 hS => ?_)
                              obtain ⟨hP1, hK1, hD1⟩ := hB
                              rw [ht] at hP1
                              obtain ⟨hP, hD⟩ := sf_J hP hD hk1 hFc hP1 hD1
                              have hP : va_P (dC, dI) vwCl (ww q ta10 aa sa Y139) H1 := sf_F hP
                              have hD : va_D A (ww q ta10 aa sa Y139) := sf_FD hD
                              clear hK2
                              clear hPc hDc hKc hFc hP1 hK1 hD1
                              generalize H1 = H at hP hS ⊢
                              refine W.widen (k := (cb197 + 91)) (n := (sb197 + 585)) (show (cb197 + 91) + 0 ≤ (cb197 + 91) by omega) (show (sb197 + 585) + 0 ≤ (sb197 + 585) by omega) ?_
                              obtain rfl : ra153 = rr151 := hw
                              obtain ⟨rr155, hC154, hF⟩ := calp_some hF
                              have hFc := nil_F hS hA
                              refine va_calli (va_runS (As := [.int ra129, .int ra153]) (rest := []) ⟨hx, hb, hml, hown, hts⟩ (c_X6_place l dC dI  ra129 ra153 _  _ hC154) (va_cwS 2 hts gL_law_X6_place rfl rfl rfl (by decide +kernel) ⟨Nat.le_of_ble_eq_true rfl, Nat.le_of_ble_eq_true rfl⟩) ⟨pr_blind, fun U hU hW => ⟨rfl, pr_mk hU hW (va_Pn (D := (dC, dI)) (cl := vwCl) _) (hK.sub (tys' := []) [] rfl) (va_Dn A)⟩⟩ rfl rfl hl.1 rfl (lv_room (Nat.le_of_ble_eq_true rfl)) dL_law_233 ⟨(show (cb197 + 91) + 0 ≤ 654152 from by omega), (show (sb197 + 585) + 0 ≤ 7139168 from by omega)⟩) hS (fun x _ h => hFc x h) hFc (fun ra156 u t H1 locs ht hvm hw hB hz1 hk1 hS => ?_)
                              have hP := nil_J (A := A) hP hk1
                              generalize H1 = H at hP hS ⊢
                              refine W.widen (k := (cb197 + 91)) (n := (sb197 + 585)) (show (cb197 + 91) + 0 ≤ (cb197 + 91) by omega) (show (sb197 + 585) + 0 ≤ (sb197 + 585) by omega) ?_
                              obtain rfl : ra156 = rr155 := hw
                              refine lv_istore (lv' := [(19, .int ra156), (18, .int y142), (17, .int u138), (16, .int u137), (15, .int u136), (14, .int ra129), (12, .int ra103), (7, .int ra84), (6, .int y80), (5, .int ra77), (4, .int u70), (3, .ref (aa 0)), (2, .ref (ta10 0)), (1, .int u1), (0, .ref sa)]) hx hb dL_law_236 hl (by decide) rfl (fun ls hl => ?_)
                              refine lv_iload hx hb dL_law_238 (lv_at hl 0 rfl) ?_
                              refine lv_iload hx hb dL_law_240 (lv_at hl 4 rfl) ?_
                              have Jj256 : ∀ (v157 : Int32) (v158 : Int32) (H : Heap) (locs : List Loc) (ls : Array Slot), (F_L_law_j256 Y139 u138 (F_L_law_l197 ra77 y80 ra84 ra129 (F_L_law_x197 u70 (F_L_law_l57 L xs (F_L_law_x57 L xs u1 (F_L_law_l2 L xs F_L_law_x2 n2)) n57) ra103) n197)) v157 v158 = some 1 → va_P (dC, dI) vwCl (ww q ta10 aa sa Y139) H → va_D A (ww q ta10 aa sa Y139) → va_S A s.heap H locs → lv_has ls 20 [(17, .int u138), (16, .int v158), (15, .int v157), (14, .int ra129), (12, .int ra103), (7, .int ra84), (6, .int y80), (5, .int ra77), (4, .int u70), (3, .ref (aa 0)), (2, .ref (ta10 0)), (1, .int u1), (0, .ref sa)] → W p l e room_1 s m #[Value.ref sa] below meth c H locs (cb197 + 91) (sb197 + 585) Q (F0 m 256 ls []) := by
                                intro v157 v158 H locs ls hF hP hD hS hl
                                unfold F_L_law_j256 at hF
                                refine lv_iload hx hb dL_law_256 (lv_at hl 0 rfl) ?_
                                refine lv_bipush (v := 10) hx hb dL_law_258 (by decide) ?_
                                refine lv_idiv hx hb dL_law_260 (by decide) ?_
                                refine lv_topi (fun y159 ey159 => ?_)
                                have hF := bv_at ey159 hF
                                refine lv_istore (lv' := [(17, .int y159), (16, .int v158), (15, .int v157), (14, .int ra129), (12, .int ra103), (7, .int ra84), (6, .int y80), (5, .int ra77), (4, .int u70), (3, .ref (aa 0)), (2, .ref (ta10 0)), (1, .int u1), (0, .ref sa)]) hx hb dL_law_261 hl (by decide) rfl (fun ls hl => ?_)
                                refine lv_goto (tgt := 197) hx hb dL_law_263 (by decide) ?_
                                refine W.widen (k := cb197 + 91) (n := sb197 + 585) (by omega) (by omega) ?_
                                exact IH197 (cb197 + 91) (sb197 + 585) Y139 v157 v158 y159 _ _ _ (by omega) (by omega) hF hP hD hS (lv_sub hl [0, 1, 2, 3, 4, 5, 6, 7, 8, 9, 10, 11, 12] rfl)
                              refine lv_icmp_lt (tgt := 248) hx hb dL_law_242 (by decide) (fun hc160 => ?_) (fun hc160 => ?_)
                              · have hF := br_pos hc160 hF
                                refine lv_iload hx hb dL_law_248 (lv_at hl 1 rfl) ?_
                                refine lv_istore (lv' := [(16, .int y142), (19, .int ra156), (18, .int y142), (17, .int u138), (15, .int u136), (14, .int ra129), (12, .int ra103), (7, .int ra84), (6, .int y80), (5, .int ra77), (4, .int u70), (3, .ref (aa 0)), (2, .ref (ta10 0)), (1, .int u1), (0, .ref sa)]) hx hb dL_law_250 hl (by decide) rfl (fun ls hl => ?_)
                                refine lv_iload hx hb dL_law_252 (lv_at hl 1 rfl) ?_
                                refine lv_istore (lv' := [(15, .int ra156), (16, .int y142), (19, .int ra156), (18, .int y142), (17, .int u138), (14, .int ra129), (12, .int ra103), (7, .int ra84), (6, .int y80), (5, .int ra77), (4, .int u70), (3, .ref (aa 0)), (2, .ref (ta10 0)), (1, .int u1), (0, .ref sa)]) hx hb dL_law_254 hl (by decide) rfl (fun ls hl => ?_)
                                exact Jj256 ra156 y142 _ _ _ hF hP hD hS (lv_sub hl [4, 1, 0, 5, 6, 7, 8, 9, 10, 11, 12, 13, 14] rfl)
                              · have hF := br_neg hc160 hF
                                refine lv_goto (tgt := 256) hx hb dL_law_245 (by decide) ?_
                                exact Jj256 u136 u137 _ _ _ hF hP hD hS (lv_sub hl [2, 3, 4, 5, 6, 7, 8, 9, 10, 11, 12, 13, 14] rfl)
                        exact L197 8 (cb57 + 91) (sb57 + 585) Y112 ra132 ((-1) : Int32) ra129 _ _ _ (by omega) (by omega) hF hP hD hS (lv_sub hl [0, 1, 2, 3, 5, 9, 10, 11, 12, 13, 14, 15, 16] rfl)
                      · have hF := br_neg hc124 hF
                        refine lv_iconst (v := 0) hx hb dL_law_166 (by decide) ?_
                        exact absurd (some1 hF) (by decide)
              exact L57 4 (cb2 + 1197) (sb2 + 17009) Y19 (0 : Int32) _ _ _ (by omega) (by omega) hF hP hD hS (lv_sub hl [0, 1, 2, 3, 4] rfl)
            · have hF := br_pos hc21 hF
              refine lv_iconst (v := 0) hx hb dL_law_52 (by decide) ?_
              exact absurd (some1 hF) (by decide)
  exact L2 4 0 0 (0 : Int32) _ _ _ (by omega) (by omega) hF hP hD hS (lv_sub hl [0, 1] rfl)
