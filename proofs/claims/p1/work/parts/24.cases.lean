set_option maxHeartbeats 4000000 in
set_option maxRecDepth 100000 in
theorem case_out {p : Program} {e : Env} {s : State} {m : MethodId} {below : List Frame} {meth : Method} {c : Code} (l : Launch) (hfl : l.stackTraces = false) {b : Nat} {xs : Nat → Int32} (C0 : lw_At p s m meth c b 5 xs) {dz tc : Nat} {ad : Nat → Nat} (hLX : lx_ (fun q : Nat => s.heap.size ≤ q) dz tc ad s) (dC : Nat → ClassId) (dI : Nat → Nat → Nat) {x : Nat} {po : Nat} {tr : Nat} {sp : Nat} {bx : Nat} {b0 : Nat} {b1 : Nat} {b4 : Nat} {b6 : Nat} {pa : Nat} {p_v : Nat} {p_st : Nat} {p_ib : Nat} {p_di : Nat} {p_wa : Nat} {p_se : Nat} {p_vh : Nat} {p_re : Nat} {mm : Nat} {pl : Nat} {ig : Nat} {sl : Nat} {kl : Nat} {ou : Nat} {od : Nat} {cI : ClassId} {cZ : ClassId} {cJ : ClassId} {cD : ClassId} {H : Heap} {locs : List Loc} {ls : Array Slot} (hK : va_K (dC, dI) vwCl [(cI, .int), (cZ, .boolean), (cJ, .long), (cD, .double)] s) (hP : va_P (dC, dI) vwCl [(x, .inr (7, [.ref bx, .ref po, .ref tr, .ref pa, .ref sp])), (bx, .inr (2, [.ref b0, .ref b1, .int 0, .int 0, .ref b4, .int 0, .ref b6, .int 0, .int 0, .int 0, .int 0])), (pa, .inr (3, [.ref p_v, .int 0, .ref p_st, .ref p_ib, .ref p_di, .ref p_wa, .ref p_se, .ref p_vh, .ref p_re])), (b0, .inl (cI, 6, .inl zi)), (b1, .inl (cZ, 6, .inl zi)), (b4, .inl (cI, 4, .inl zi)), (p_v, .inl (cI, 4, .inl zi)), (p_st, .inl (cI, 4, .inl zi)), (p_ib, .inl (cZ, 4, .inl zi)), (p_di, .inl (cI, 4, .inl zi)), (p_wa, .inl (cI, 4, .inl zi)), (p_se, .inl (cI, 4, .inl zi)), (mm, .inr (10, [.int 0, .ref pl, .ref ig, .ref sl, .ref kl, .int 0, .int 0, .int 0])), (pl, .inr (1, [.int 0, .ref dz, .int 0])), (sl, .inr (1, [.int 0, .ref dz, .int 0])), (kl, .inr (1, [.int 0, .ref dz, .int 0])), (ou, .inl (cJ, 1, .inr (.inl zl))), (od, .inl (cD, 1, .inr (.inr (.inr (.inl zd)))))] H) (hD : va_D (fun q : Nat => s.heap.size ≤ q) [(x, .inr (7, [.ref bx, .ref po, .ref tr, .ref pa, .ref sp])), (bx, .inr (2, [.ref b0, .ref b1, .int 0, .int 0, .ref b4, .int 0, .ref b6, .int 0, .int 0, .int 0, .int 0])), (pa, .inr (3, [.ref p_v, .int 0, .ref p_st, .ref p_ib, .ref p_di, .ref p_wa, .ref p_se, .ref p_vh, .ref p_re])), (b0, .inl (cI, 6, .inl zi)), (b1, .inl (cZ, 6, .inl zi)), (b4, .inl (cI, 4, .inl zi)), (p_v, .inl (cI, 4, .inl zi)), (p_st, .inl (cI, 4, .inl zi)), (p_ib, .inl (cZ, 4, .inl zi)), (p_di, .inl (cI, 4, .inl zi)), (p_wa, .inl (cI, 4, .inl zi)), (p_se, .inl (cI, 4, .inl zi)), (mm, .inr (10, [.int 0, .ref pl, .ref ig, .ref sl, .ref kl, .int 0, .int 0, .int 0])), (pl, .inr (1, [.int 0, .ref dz, .int 0])), (sl, .inr (1, [.int 0, .ref dz, .int 0])), (kl, .inr (1, [.int 0, .ref dz, .int 0])), (ou, .inl (cJ, 1, .inr (.inl zl))), (od, .inl (cD, 1, .inr (.inr (.inr (.inl zd)))))]) (hS : va_S (fun q : Nat => s.heap.size ≤ q) s.heap H locs) (hl : lv_has ls 9 [(5, .int 0), (4, .ref od), (3, .ref ou), (2, .ref mm), (1, .ref x), (0, .ref b)]) : W p l e room_1 s m #[Value.ref b] below meth c H locs 118 750 (lw_Z below #[Value.ref b] s) (F0 m 1067 ls []) := by
  obtain ⟨hx, hb, hr, hml, hown, hts0, hX, hbl, hlocks, hgv⟩ := id C0
  have hts : ∀ w ∈ lw_tbl, w.before #[Value.ref b] s = true := hts0
  have hbA : ¬ (fun q : Nat => s.heap.size ≤ q) b := Nat.not_le.mpr hbl
  have hA : ∀ q : Nat, s.heap.size ≤ q → (fun q : Nat => s.heap.size ≤ q) q := fun _ h => h
  generalize hAe : (fun q : Nat => s.heap.size ≤ q) = A at hD hS hbA hA hLX
  obtain ⟨a1, h_a1⟩ : ∃ z, z = xs ((1 : Int32).toNatClampNeg) := ⟨_, rfl⟩
  obtain ⟨a2, h_a2⟩ : ∃ z, z = xs ((2 : Int32).toNatClampNeg) := ⟨_, rfl⟩
  obtain ⟨a3, h_a3⟩ : ∃ z, z = xs ((3 : Int32).toNatClampNeg) := ⟨_, rfl⟩
  obtain ⟨a4, h_a4⟩ : ∃ z, z = xs ((4 : Int32).toNatClampNeg) := ⟨_, rfl⟩
  refine lv_aload_n hx hb dL_law_1067 rfl (lv_at hl 4 rfl) ?_
  refine lv_aload_n hx hb dL_law_1068 rfl (lv_at hl 5 rfl) ?_
  refine lv_iload hx hb dL_law_1069 (lv_at hl 0 rfl) ?_
  refine lv_iconst (v := 1) hx hb dL_law_1071 (by decide) ?_
  refine lv_iadd hx hb dL_law_1072 ?_
  refine lv_topi (fun y_1 ey_1 => ?_)
  obtain rfl : y_1 = 1 := ey_1.trans (by decide)
  refine va_sld hx hb hX hbl hbA hS (by unfold vp_in; decide) dL_law_1073 ?_
  refine lv_topi (fun y_2 ey_2 => ?_)
  obtain rfl : a1 = y_2 := (ey_2.trans h_a1.symm).symm
  refine lv_aload_n hx hb dL_law_1074 rfl (lv_at hl 5 rfl) ?_
  refine lv_iload hx hb dL_law_1075 (lv_at hl 0 rfl) ?_
  refine lv_iconst (v := 2) hx hb dL_law_1077 (by decide) ?_
  refine lv_iadd hx hb dL_law_1078 ?_
  refine lv_topi (fun y_3 ey_3 => ?_)
  obtain rfl : y_3 = 2 := ey_3.trans (by decide)
  refine va_sld hx hb hX hbl hbA hS (by unfold vp_in; decide) dL_law_1079 ?_
  refine lv_topi (fun y_4 ey_4 => ?_)
  obtain rfl : a2 = y_4 := (ey_4.trans h_a2.symm).symm
  refine lv_aload_n hx hb dL_law_1080 rfl (lv_at hl 2 rfl) ?_
  have hPc := hP.sub (ws' := [(x, .inr (7, [.ref bx, .ref po, .ref tr, .ref pa, .ref sp])), (bx, .inr (2, [.ref b0, .ref b1, .int 0, .int 0, .ref b4, .int 0, .ref b6, .int 0, .int 0, .int 0, .int 0]))]) [0, 1] rfl
  have hDc := hD.sub (ws' := [(x, .inr (7, [.ref bx, .ref po, .ref tr, .ref pa, .ref sp])), (bx, .inr (2, [.ref b0, .ref b1, .int 0, .int 0, .ref b4, .int 0, .ref b6, .int 0, .int 0, .int 0, .int 0]))]) [0, 1] (by decide) rfl
  have hKc := hK.sub (tys' := []) [] rfl
  have hFc := va_free (wc := [(x, .inr (7, [.ref bx, .ref po, .ref tr, .ref pa, .ref sp])), (bx, .inr (2, [.ref b0, .ref b1, .int 0, .int 0, .ref b4, .int 0, .ref b6, .int 0, .int 0, .int 0, .int 0]))]) hD hS hA [0, 1] rfl
  refine va_calli (vx_runSW (As := [.ref x, .int a1, .int a2, .ref ou]) (rest := []) ⟨hx, hb, hml, hown, hts⟩ (h0_L_out l hfl dC dI x po tr sp pa bx b0 b1 b4 b6 a1 a2 ou ((lx_s299 hLX).choose) ((lx_s299 hLX).choose_spec.choose) _ ) (vx_cwSW 4 hts gL_law_L_out rfl rfl rfl (by decide +kernel) ⟨Nat.le_of_ble_eq_true rfl, Nat.le_of_ble_eq_true rfl⟩) ⟨pn_blind (fun _ _ _ _ h => h), fun U hU hW => ⟨rfl, pr_mk hU hW hPc hKc hDc, xs_mk hU hW hS hFc (lx_xo hLX (lx_s299 hLX).choose_spec.choose_spec), trivial⟩⟩ rfl rfl hl.1 rfl (lv_room (Nat.le_of_ble_eq_true rfl)) dL_law_1081 ⟨Nat.le_of_ble_eq_true rfl, Nat.le_of_ble_eq_true rfl⟩) hS (fun q _ h => hFc q h) hFc (fun r_6 u_5 t H1 locs ht hvm hw hB hz1 hk1 hS => ?_)
  obtain ⟨hP1, hK1, hD1⟩ := hB
  rw [ht] at hP1
  obtain ⟨hP, hD⟩ := va_join (wr := [(pa, .inr (3, [.ref p_v, .int 0, .ref p_st, .ref p_ib, .ref p_di, .ref p_wa, .ref p_se, .ref p_vh, .ref p_re])), (b0, .inl (cI, 6, .inl zi)), (b1, .inl (cZ, 6, .inl zi)), (b4, .inl (cI, 4, .inl zi)), (p_v, .inl (cI, 4, .inl zi)), (p_st, .inl (cI, 4, .inl zi)), (p_ib, .inl (cZ, 4, .inl zi)), (p_di, .inl (cI, 4, .inl zi)), (p_wa, .inl (cI, 4, .inl zi)), (p_se, .inl (cI, 4, .inl zi)), (mm, .inr (10, [.int 0, .ref pl, .ref ig, .ref sl, .ref kl, .int 0, .int 0, .int 0])), (pl, .inr (1, [.int 0, .ref dz, .int 0])), (sl, .inr (1, [.int 0, .ref dz, .int 0])), (kl, .inr (1, [.int 0, .ref dz, .int 0])), (ou, .inl (cJ, 1, .inr (.inl zl))), (od, .inl (cD, 1, .inr (.inr (.inr (.inl zd)))))]) (w1 := []) hP hD [0, 1] [2, 3, 4, 5, 6, 7, 8, 9, 10, 11, 12, 13, 14, 15, 16, 17] rfl rfl (by decide) (by decide) hk1 hFc hP1 hD1
  generalize H1 = H at hP hS ⊢
  have hP : va_P (dC, dI) vwCl [(pa, .inr (3, [.ref p_v, .int 0, .ref p_st, .ref p_ib, .ref p_di, .ref p_wa, .ref p_se, .ref p_vh, .ref p_re])), (b0, .inl (cI, 6, .inl zi)), (b1, .inl (cZ, 6, .inl zi)), (b4, .inl (cI, 4, .inl zi)), (p_v, .inl (cI, 4, .inl zi)), (p_st, .inl (cI, 4, .inl zi)), (p_ib, .inl (cZ, 4, .inl zi)), (p_di, .inl (cI, 4, .inl zi)), (p_wa, .inl (cI, 4, .inl zi)), (p_se, .inl (cI, 4, .inl zi)), (mm, .inr (10, [.int 0, .ref pl, .ref ig, .ref sl, .ref kl, .int 0, .int 0, .int 0])), (pl, .inr (1, [.int 0, .ref dz, .int 0])), (sl, .inr (1, [.int 0, .ref dz, .int 0])), (kl, .inr (1, [.int 0, .ref dz, .int 0])), (ou, .inl (cJ, 1, .inr (.inl zl))), (od, .inl (cD, 1, .inr (.inr (.inr (.inl zd)))))] H := hP
  have hD : va_D A [(pa, .inr (3, [.ref p_v, .int 0, .ref p_st, .ref p_ib, .ref p_di, .ref p_wa, .ref p_se, .ref p_vh, .ref p_re])), (b0, .inl (cI, 6, .inl zi)), (b1, .inl (cZ, 6, .inl zi)), (b4, .inl (cI, 4, .inl zi)), (p_v, .inl (cI, 4, .inl zi)), (p_st, .inl (cI, 4, .inl zi)), (p_ib, .inl (cZ, 4, .inl zi)), (p_di, .inl (cI, 4, .inl zi)), (p_wa, .inl (cI, 4, .inl zi)), (p_se, .inl (cI, 4, .inl zi)), (mm, .inr (10, [.int 0, .ref pl, .ref ig, .ref sl, .ref kl, .int 0, .int 0, .int 0])), (pl, .inr (1, [.int 0, .ref dz, .int 0])), (sl, .inr (1, [.int 0, .ref dz, .int 0])), (kl, .inr (1, [.int 0, .ref dz, .int 0])), (ou, .inl (cJ, 1, .inr (.inl zl))), (od, .inl (cD, 1, .inr (.inr (.inr (.inl zd)))))] := hD
  refine W.widen (k := 119) (n := 756) (Nat.le_of_ble_eq_true rfl) (Nat.le_of_ble_eq_true rfl) ?_
  have hw : r_6 = 1 := hw
  subst hw
  refine lv_istore (lv' := [(6, .int 1), (5, .int 0), (4, .ref od), (3, .ref ou), (2, .ref mm), (1, .ref x), (0, .ref b)]) hx hb dL_law_1084 hl (by decide) rfl (fun ls hl => ?_)
  refine lv_aload_n hx hb dL_law_1086 rfl (lv_at hl 4 rfl) ?_
  refine lv_aload_n hx hb dL_law_1087 rfl (lv_at hl 6 rfl) ?_
  refine lv_iload hx hb dL_law_1088 (lv_at hl 1 rfl) ?_
  refine lv_iconst (v := 1) hx hb dL_law_1090 (by decide) ?_
  refine lv_iadd hx hb dL_law_1091 ?_
  refine lv_topi (fun y_7 ey_7 => ?_)
  obtain rfl : y_7 = 1 := ey_7.trans (by decide)
  refine va_sld hx hb hX hbl hbA hS (by unfold vp_in; decide) dL_law_1092 ?_
  refine lv_topi (fun y_8 ey_8 => ?_)
  obtain rfl : a1 = y_8 := (ey_8.trans h_a1.symm).symm
  refine lv_aload_n hx hb dL_law_1093 rfl (lv_at hl 6 rfl) ?_
  refine lv_iload hx hb dL_law_1094 (lv_at hl 1 rfl) ?_
  refine lv_iconst (v := 2) hx hb dL_law_1096 (by decide) ?_
  refine lv_iadd hx hb dL_law_1097 ?_
  refine lv_topi (fun y_9 ey_9 => ?_)
  obtain rfl : y_9 = 2 := ey_9.trans (by decide)
  refine va_sld hx hb hX hbl hbA hS (by unfold vp_in; decide) dL_law_1098 ?_
  refine lv_topi (fun y_10 ey_10 => ?_)
  obtain rfl : a2 = y_10 := (ey_10.trans h_a2.symm).symm
  have hPc := hP.sub (ws' := [(mm, .inr (10, [.int 0, .ref pl, .ref ig, .ref sl, .ref kl, .int 0, .int 0, .int 0])), (pl, .inr (1, [.int 0, .ref dz, .int 0])), (sl, .inr (1, [.int 0, .ref dz, .int 0])), (kl, .inr (1, [.int 0, .ref dz, .int 0]))]) [10, 11, 12, 13] rfl
  have hDc := hD.sub (ws' := [(mm, .inr (10, [.int 0, .ref pl, .ref ig, .ref sl, .ref kl, .int 0, .int 0, .int 0])), (pl, .inr (1, [.int 0, .ref dz, .int 0])), (sl, .inr (1, [.int 0, .ref dz, .int 0])), (kl, .inr (1, [.int 0, .ref dz, .int 0]))]) [10, 11, 12, 13] (by decide) rfl
  have hKc := hK.sub (tys' := []) [] rfl
  have hFc := va_free (wc := [(mm, .inr (10, [.int 0, .ref pl, .ref ig, .ref sl, .ref kl, .int 0, .int 0, .int 0])), (pl, .inr (1, [.int 0, .ref dz, .int 0])), (sl, .inr (1, [.int 0, .ref dz, .int 0])), (kl, .inr (1, [.int 0, .ref dz, .int 0]))]) hD hS hA [10, 11, 12, 13] rfl
  refine va_calli (va_runV (As := [.int a1, .int a2]) (rest := []) ⟨hx, hb, hml, hown, hts⟩ (c_X8_out l dC dI mm pl ig sl kl dz a1 a2 _ ) (cwV 2 hts gL_law_X8_out rfl rfl rfl (by decide +kernel) ⟨Nat.le_of_ble_eq_true rfl, Nat.le_of_ble_eq_true rfl⟩) ⟨pe_blind mo_bl, va_recv hKc hPc (ci := 10) (q0 := 0) rfl rfl, fun U hU hW => ⟨rfl, pr_mk hU hW hPc hKc hDc, mo_mk hW (lx_m hLX)⟩⟩ rfl rfl hl.1 rfl (lv_room (Nat.le_of_ble_eq_true rfl)) dL_law_1099 ⟨Nat.le_of_ble_eq_true rfl, Nat.le_of_ble_eq_true rfl⟩) hS (fun q _ h => hFc q h) hFc (fun r_12 u_11 t H1 locs ht hvm hw hB hz1 hk1 hS => ?_)
  obtain ⟨hP1, hK1, hD1⟩ := hB
  rw [ht] at hP1
  obtain ⟨hP, hD⟩ := va_join (wr := [(pa, .inr (3, [.ref p_v, .int 0, .ref p_st, .ref p_ib, .ref p_di, .ref p_wa, .ref p_se, .ref p_vh, .ref p_re])), (b0, .inl (cI, 6, .inl zi)), (b1, .inl (cZ, 6, .inl zi)), (b4, .inl (cI, 4, .inl zi)), (p_v, .inl (cI, 4, .inl zi)), (p_st, .inl (cI, 4, .inl zi)), (p_ib, .inl (cZ, 4, .inl zi)), (p_di, .inl (cI, 4, .inl zi)), (p_wa, .inl (cI, 4, .inl zi)), (p_se, .inl (cI, 4, .inl zi)), (ou, .inl (cJ, 1, .inr (.inl zl))), (od, .inl (cD, 1, .inr (.inr (.inr (.inl zd)))))]) (w1 := [(mm, .inr (10, [.int 1, .ref pl, .ref ig, .ref sl, .ref kl, .int 0, .int 0, .int 0]))]) hP hD [10, 11, 12, 13] [0, 1, 2, 3, 4, 5, 6, 7, 8, 9, 14, 15] rfl rfl (by decide) (by decide) hk1 hFc hP1 hD1
  generalize H1 = H at hP hS ⊢
  have hP : va_P (dC, dI) vwCl [(pa, .inr (3, [.ref p_v, .int 0, .ref p_st, .ref p_ib, .ref p_di, .ref p_wa, .ref p_se, .ref p_vh, .ref p_re])), (b0, .inl (cI, 6, .inl zi)), (b1, .inl (cZ, 6, .inl zi)), (b4, .inl (cI, 4, .inl zi)), (p_v, .inl (cI, 4, .inl zi)), (p_st, .inl (cI, 4, .inl zi)), (p_ib, .inl (cZ, 4, .inl zi)), (p_di, .inl (cI, 4, .inl zi)), (p_wa, .inl (cI, 4, .inl zi)), (p_se, .inl (cI, 4, .inl zi)), (ou, .inl (cJ, 1, .inr (.inl zl))), (od, .inl (cD, 1, .inr (.inr (.inr (.inl zd))))), (mm, .inr (10, [.int 1, .ref pl, .ref ig, .ref sl, .ref kl, .int 0, .int 0, .int 0]))] H := hP
  have hD : va_D A [(pa, .inr (3, [.ref p_v, .int 0, .ref p_st, .ref p_ib, .ref p_di, .ref p_wa, .ref p_se, .ref p_vh, .ref p_re])), (b0, .inl (cI, 6, .inl zi)), (b1, .inl (cZ, 6, .inl zi)), (b4, .inl (cI, 4, .inl zi)), (p_v, .inl (cI, 4, .inl zi)), (p_st, .inl (cI, 4, .inl zi)), (p_ib, .inl (cZ, 4, .inl zi)), (p_di, .inl (cI, 4, .inl zi)), (p_wa, .inl (cI, 4, .inl zi)), (p_se, .inl (cI, 4, .inl zi)), (ou, .inl (cJ, 1, .inr (.inl zl))), (od, .inl (cD, 1, .inr (.inr (.inr (.inl zd))))), (mm, .inr (10, [.int 1, .ref pl, .ref ig, .ref sl, .ref kl, .int 0, .int 0, .int 0]))] := hD
  refine W.widen (k := 119) (n := 756) (Nat.le_refl _) (Nat.le_refl _) ?_
  have hw : r_12 = 0 := hw
  subst hw
  refine lv_istore (lv' := [(7, .int 0), (6, .int 1), (5, .int 0), (4, .ref od), (3, .ref ou), (2, .ref mm), (1, .ref x), (0, .ref b)]) hx hb dL_law_1102 hl (by decide) rfl (fun ls hl => ?_)
  refine lv_aload_n hx hb dL_law_1104 rfl (lv_at hl 5 rfl) ?_
  have hPc := hP.sub (ws' := [(mm, .inr (10, [.int 1, .ref pl, .ref ig, .ref sl, .ref kl, .int 0, .int 0, .int 0]))]) [12] rfl
  have hDc := hD.sub (ws' := [(mm, .inr (10, [.int 1, .ref pl, .ref ig, .ref sl, .ref kl, .int 0, .int 0, .int 0]))]) [12] (by decide) rfl
  have hKc := hK.sub (tys' := []) [] rfl
  have hFc := va_free (wc := [(mm, .inr (10, [.int 1, .ref pl, .ref ig, .ref sl, .ref kl, .int 0, .int 0, .int 0]))]) hD hS hA [12] rfl
  refine va_calli (va_runV (As := []) (rest := []) ⟨hx, hb, hml, hown, hts⟩ (c_X8_thrown l dC dI mm pl ig sl kl (1 : Int32) (0 : Int32) (0 : Int32) (0 : Int32) _ ) (cwV 0 hts gL_law_X8_thrown rfl rfl rfl (by decide +kernel) ⟨Nat.le_of_ble_eq_true rfl, Nat.le_of_ble_eq_true rfl⟩) ⟨pr_blind, va_recv hKc hPc (ci := 10) (q0 := 0) rfl rfl, fun U hU hW => ⟨rfl, pr_mk hU hW hPc hKc hDc⟩⟩ rfl rfl hl.1 rfl (lv_room (Nat.le_of_ble_eq_true rfl)) dL_law_1105 ⟨Nat.le_of_ble_eq_true rfl, Nat.le_of_ble_eq_true rfl⟩) hS (fun q _ h => hFc q h) hFc (fun r_14 u_13 t H1 locs ht hvm hw hB hz1 hk1 hS => ?_)
  obtain ⟨hP1, hK1, hD1⟩ := hB
  rw [ht] at hP1
  obtain ⟨hP, hD⟩ := va_join (wr := [(pa, .inr (3, [.ref p_v, .int 0, .ref p_st, .ref p_ib, .ref p_di, .ref p_wa, .ref p_se, .ref p_vh, .ref p_re])), (b0, .inl (cI, 6, .inl zi)), (b1, .inl (cZ, 6, .inl zi)), (b4, .inl (cI, 4, .inl zi)), (p_v, .inl (cI, 4, .inl zi)), (p_st, .inl (cI, 4, .inl zi)), (p_ib, .inl (cZ, 4, .inl zi)), (p_di, .inl (cI, 4, .inl zi)), (p_wa, .inl (cI, 4, .inl zi)), (p_se, .inl (cI, 4, .inl zi)), (ou, .inl (cJ, 1, .inr (.inl zl))), (od, .inl (cD, 1, .inr (.inr (.inr (.inl zd)))))]) (w1 := [(mm, .inr (10, [.int 1, .ref pl, .ref ig, .ref sl, .ref kl, .int 0, .int 0, .int 0]))]) hP hD [12] [0, 1, 2, 3, 4, 5, 6, 7, 8, 9, 10, 11] rfl rfl (by decide) (by decide) hk1 hFc hP1 hD1
  generalize H1 = H at hP hS ⊢
  have hP : va_P (dC, dI) vwCl [(pa, .inr (3, [.ref p_v, .int 0, .ref p_st, .ref p_ib, .ref p_di, .ref p_wa, .ref p_se, .ref p_vh, .ref p_re])), (b0, .inl (cI, 6, .inl zi)), (b1, .inl (cZ, 6, .inl zi)), (b4, .inl (cI, 4, .inl zi)), (p_v, .inl (cI, 4, .inl zi)), (p_st, .inl (cI, 4, .inl zi)), (p_ib, .inl (cZ, 4, .inl zi)), (p_di, .inl (cI, 4, .inl zi)), (p_wa, .inl (cI, 4, .inl zi)), (p_se, .inl (cI, 4, .inl zi)), (ou, .inl (cJ, 1, .inr (.inl zl))), (od, .inl (cD, 1, .inr (.inr (.inr (.inl zd))))), (mm, .inr (10, [.int 1, .ref pl, .ref ig, .ref sl, .ref kl, .int 0, .int 0, .int 0]))] H := hP
  have hD : va_D A [(pa, .inr (3, [.ref p_v, .int 0, .ref p_st, .ref p_ib, .ref p_di, .ref p_wa, .ref p_se, .ref p_vh, .ref p_re])), (b0, .inl (cI, 6, .inl zi)), (b1, .inl (cZ, 6, .inl zi)), (b4, .inl (cI, 4, .inl zi)), (p_v, .inl (cI, 4, .inl zi)), (p_st, .inl (cI, 4, .inl zi)), (p_ib, .inl (cZ, 4, .inl zi)), (p_di, .inl (cI, 4, .inl zi)), (p_wa, .inl (cI, 4, .inl zi)), (p_se, .inl (cI, 4, .inl zi)), (ou, .inl (cJ, 1, .inr (.inl zl))), (od, .inl (cD, 1, .inr (.inr (.inr (.inl zd))))), (mm, .inr (10, [.int 1, .ref pl, .ref ig, .ref sl, .ref kl, .int 0, .int 0, .int 0]))] := hD
  refine W.widen (k := 119) (n := 756) (Nat.le_refl _) (Nat.le_refl _) ?_
  have hw : r_14 = 1 := hw
  subst hw
  refine lv_iload hx hb dL_law_1108 (lv_at hl 1 rfl) ?_
  refine lv_icmp_eq (tgt := 1115) hx hb dL_law_1110 (by decide) (fun _ => ?_) (fun h9 => absurd h9 (by decide))
  refine lv_iload hx hb dL_law_1115 (lv_at hl 1 rfl) ?_
  refine lv_if_ne (tgt := 1132) hx hb dL_law_1117 (by decide) (fun _ => ?_) (fun h9 => absurd h9 (by decide))
  refine lv_goto (tgt := 2007) hx hb dL_law_1132 (by decide) ?_
  exact law_tail l C0 hAe hS (lv_sub hl [2, 7] rfl) (Nat.le_of_ble_eq_true rfl) (Nat.le_of_ble_eq_true rfl)

set_option maxHeartbeats 4000000 in
set_option maxRecDepth 100000 in
theorem case_elected {p : Program} {e : Env} {s : State} {m : MethodId} {below : List Frame} {meth : Method} {c : Code} (l : Launch) (hfl : l.stackTraces = false) {b : Nat} {xs : Nat → Int32} (C0 : lw_At p s m meth c b 5 xs) {dz tc : Nat} {ad : Nat → Nat} (hLX : lx_ (fun q : Nat => s.heap.size ≤ q) dz tc ad s) (dC : Nat → ClassId) (dI : Nat → Nat → Nat) {x : Nat} {po : Nat} {tr : Nat} {sp : Nat} {bx : Nat} {b0 : Nat} {b1 : Nat} {b4 : Nat} {b6 : Nat} {pa : Nat} {p_v : Nat} {p_st : Nat} {p_ib : Nat} {p_di : Nat} {p_wa : Nat} {p_se : Nat} {p_vh : Nat} {p_re : Nat} {mm : Nat} {pl : Nat} {ig : Nat} {sl : Nat} {kl : Nat} {ou : Nat} {od : Nat} {cI : ClassId} {cZ : ClassId} {cJ : ClassId} {cD : ClassId} {H : Heap} {locs : List Loc} {ls : Array Slot} (hK : va_K (dC, dI) vwCl [(cI, .int), (cZ, .boolean), (cJ, .long), (cD, .double)] s) (hP : va_P (dC, dI) vwCl [(x, .inr (7, [.ref bx, .ref po, .ref tr, .ref pa, .ref sp])), (bx, .inr (2, [.ref b0, .ref b1, .int 0, .int 0, .ref b4, .int 0, .ref b6, .int 0, .int 0, .int 0, .int 0])), (pa, .inr (3, [.ref p_v, .int 0, .ref p_st, .ref p_ib, .ref p_di, .ref p_wa, .ref p_se, .ref p_vh, .ref p_re])), (b0, .inl (cI, 6, .inl zi)), (b1, .inl (cZ, 6, .inl zi)), (b4, .inl (cI, 4, .inl zi)), (p_v, .inl (cI, 4, .inl zi)), (p_st, .inl (cI, 4, .inl zi)), (p_ib, .inl (cZ, 4, .inl zi)), (p_di, .inl (cI, 4, .inl zi)), (p_wa, .inl (cI, 4, .inl zi)), (p_se, .inl (cI, 4, .inl zi)), (mm, .inr (10, [.int 0, .ref pl, .ref ig, .ref sl, .ref kl, .int 0, .int 0, .int 0])), (pl, .inr (1, [.int 0, .ref dz, .int 0])), (sl, .inr (1, [.int 0, .ref dz, .int 0])), (kl, .inr (1, [.int 0, .ref dz, .int 0])), (ou, .inl (cJ, 1, .inr (.inl zl))), (od, .inl (cD, 1, .inr (.inr (.inr (.inl zd)))))] H) (hD : va_D (fun q : Nat => s.heap.size ≤ q) [(x, .inr (7, [.ref bx, .ref po, .ref tr, .ref pa, .ref sp])), (bx, .inr (2, [.ref b0, .ref b1, .int 0, .int 0, .ref b4, .int 0, .ref b6, .int 0, .int 0, .int 0, .int 0])), (pa, .inr (3, [.ref p_v, .int 0, .ref p_st, .ref p_ib, .ref p_di, .ref p_wa, .ref p_se, .ref p_vh, .ref p_re])), (b0, .inl (cI, 6, .inl zi)), (b1, .inl (cZ, 6, .inl zi)), (b4, .inl (cI, 4, .inl zi)), (p_v, .inl (cI, 4, .inl zi)), (p_st, .inl (cI, 4, .inl zi)), (p_ib, .inl (cZ, 4, .inl zi)), (p_di, .inl (cI, 4, .inl zi)), (p_wa, .inl (cI, 4, .inl zi)), (p_se, .inl (cI, 4, .inl zi)), (mm, .inr (10, [.int 0, .ref pl, .ref ig, .ref sl, .ref kl, .int 0, .int 0, .int 0])), (pl, .inr (1, [.int 0, .ref dz, .int 0])), (sl, .inr (1, [.int 0, .ref dz, .int 0])), (kl, .inr (1, [.int 0, .ref dz, .int 0])), (ou, .inl (cJ, 1, .inr (.inl zl))), (od, .inl (cD, 1, .inr (.inr (.inr (.inl zd)))))]) (hS : va_S (fun q : Nat => s.heap.size ≤ q) s.heap H locs) (hl : lv_has ls 9 [(5, .int 0), (4, .ref od), (3, .ref ou), (2, .ref mm), (1, .ref x), (0, .ref b)]) : W p l e room_1 s m #[Value.ref b] below meth c H locs 118 750 (lw_Z below #[Value.ref b] s) (F0 m 1135 ls []) := by
  obtain ⟨hx, hb, hr, hml, hown, hts0, hX, hbl, hlocks, hgv⟩ := id C0
  have hts : ∀ w ∈ lw_tbl, w.before #[Value.ref b] s = true := hts0
  have hbA : ¬ (fun q : Nat => s.heap.size ≤ q) b := Nat.not_le.mpr hbl
  have hA : ∀ q : Nat, s.heap.size ≤ q → (fun q : Nat => s.heap.size ≤ q) q := fun _ h => h
  generalize hAe : (fun q : Nat => s.heap.size ≤ q) = A at hD hS hbA hA hLX
  obtain ⟨a1, h_a1⟩ : ∃ z, z = xs ((1 : Int32).toNatClampNeg) := ⟨_, rfl⟩
  obtain ⟨a2, h_a2⟩ : ∃ z, z = xs ((2 : Int32).toNatClampNeg) := ⟨_, rfl⟩
  obtain ⟨a3, h_a3⟩ : ∃ z, z = xs ((3 : Int32).toNatClampNeg) := ⟨_, rfl⟩
  obtain ⟨a4, h_a4⟩ : ∃ z, z = xs ((4 : Int32).toNatClampNeg) := ⟨_, rfl⟩
  refine lv_aload_n hx hb dL_law_1135 rfl (lv_at hl 4 rfl) ?_
  refine lv_aload_n hx hb dL_law_1136 rfl (lv_at hl 5 rfl) ?_
  refine lv_iload hx hb dL_law_1137 (lv_at hl 0 rfl) ?_
  refine lv_iconst (v := 1) hx hb dL_law_1139 (by decide) ?_
  refine lv_iadd hx hb dL_law_1140 ?_
  refine lv_topi (fun y_1 ey_1 => ?_)
  obtain rfl : y_1 = 1 := ey_1.trans (by decide)
  refine va_sld hx hb hX hbl hbA hS (by unfold vp_in; decide) dL_law_1141 ?_
  refine lv_topi (fun y_2 ey_2 => ?_)
  obtain rfl : a1 = y_2 := (ey_2.trans h_a1.symm).symm
  refine lv_aload_n hx hb dL_law_1142 rfl (lv_at hl 5 rfl) ?_
  refine lv_iload hx hb dL_law_1143 (lv_at hl 0 rfl) ?_
  refine lv_iconst (v := 2) hx hb dL_law_1145 (by decide) ?_
  refine lv_iadd hx hb dL_law_1146 ?_
  refine lv_topi (fun y_3 ey_3 => ?_)
  obtain rfl : y_3 = 2 := ey_3.trans (by decide)
  refine va_sld hx hb hX hbl hbA hS (by unfold vp_in; decide) dL_law_1147 ?_
  refine lv_topi (fun y_4 ey_4 => ?_)
  obtain rfl : a2 = y_4 := (ey_4.trans h_a2.symm).symm
  refine lv_aload_n hx hb dL_law_1148 rfl (lv_at hl 2 rfl) ?_
  have hPc := hP.sub (ws' := [(x, .inr (7, [.ref bx, .ref po, .ref tr, .ref pa, .ref sp])), (bx, .inr (2, [.ref b0, .ref b1, .int 0, .int 0, .ref b4, .int 0, .ref b6, .int 0, .int 0, .int 0, .int 0]))]) [0, 1] rfl
  have hDc := hD.sub (ws' := [(x, .inr (7, [.ref bx, .ref po, .ref tr, .ref pa, .ref sp])), (bx, .inr (2, [.ref b0, .ref b1, .int 0, .int 0, .ref b4, .int 0, .ref b6, .int 0, .int 0, .int 0, .int 0]))]) [0, 1] (by decide) rfl
  have hKc := hK.sub (tys' := []) [] rfl
  have hFc := va_free (wc := [(x, .inr (7, [.ref bx, .ref po, .ref tr, .ref pa, .ref sp])), (bx, .inr (2, [.ref b0, .ref b1, .int 0, .int 0, .ref b4, .int 0, .ref b6, .int 0, .int 0, .int 0, .int 0]))]) hD hS hA [0, 1] rfl
  refine va_calli (vx_runSW (As := [.ref x, .int a1, .int a2, .ref ou]) (rest := []) ⟨hx, hb, hml, hown, hts⟩ (h0_L_elected l hfl dC dI x po tr sp pa bx b0 b1 b4 b6 a1 a2 ou ((lx_s299 hLX).choose) ((lx_s299 hLX).choose_spec.choose) _ ) (vx_cwSW 4 hts gL_law_L_elected rfl rfl rfl (by decide +kernel) ⟨Nat.le_of_ble_eq_true rfl, Nat.le_of_ble_eq_true rfl⟩) ⟨pn_blind (fun _ _ _ _ h => h), fun U hU hW => ⟨rfl, pr_mk hU hW hPc hKc hDc, xs_mk hU hW hS hFc (lx_xo hLX (lx_s299 hLX).choose_spec.choose_spec), trivial⟩⟩ rfl rfl hl.1 rfl (lv_room (Nat.le_of_ble_eq_true rfl)) dL_law_1149 ⟨Nat.le_of_ble_eq_true rfl, Nat.le_of_ble_eq_true rfl⟩) hS (fun q _ h => hFc q h) hFc (fun r_6 u_5 t H1 locs ht hvm hw hB hz1 hk1 hS => ?_)
  obtain ⟨hP1, hK1, hD1⟩ := hB
  rw [ht] at hP1
  obtain ⟨hP, hD⟩ := va_join (wr := [(pa, .inr (3, [.ref p_v, .int 0, .ref p_st, .ref p_ib, .ref p_di, .ref p_wa, .ref p_se, .ref p_vh, .ref p_re])), (b0, .inl (cI, 6, .inl zi)), (b1, .inl (cZ, 6, .inl zi)), (b4, .inl (cI, 4, .inl zi)), (p_v, .inl (cI, 4, .inl zi)), (p_st, .inl (cI, 4, .inl zi)), (p_ib, .inl (cZ, 4, .inl zi)), (p_di, .inl (cI, 4, .inl zi)), (p_wa, .inl (cI, 4, .inl zi)), (p_se, .inl (cI, 4, .inl zi)), (mm, .inr (10, [.int 0, .ref pl, .ref ig, .ref sl, .ref kl, .int 0, .int 0, .int 0])), (pl, .inr (1, [.int 0, .ref dz, .int 0])), (sl, .inr (1, [.int 0, .ref dz, .int 0])), (kl, .inr (1, [.int 0, .ref dz, .int 0])), (ou, .inl (cJ, 1, .inr (.inl zl))), (od, .inl (cD, 1, .inr (.inr (.inr (.inl zd)))))]) (w1 := []) hP hD [0, 1] [2, 3, 4, 5, 6, 7, 8, 9, 10, 11, 12, 13, 14, 15, 16, 17] rfl rfl (by decide) (by decide) hk1 hFc hP1 hD1
  generalize H1 = H at hP hS ⊢
  have hP : va_P (dC, dI) vwCl [(pa, .inr (3, [.ref p_v, .int 0, .ref p_st, .ref p_ib, .ref p_di, .ref p_wa, .ref p_se, .ref p_vh, .ref p_re])), (b0, .inl (cI, 6, .inl zi)), (b1, .inl (cZ, 6, .inl zi)), (b4, .inl (cI, 4, .inl zi)), (p_v, .inl (cI, 4, .inl zi)), (p_st, .inl (cI, 4, .inl zi)), (p_ib, .inl (cZ, 4, .inl zi)), (p_di, .inl (cI, 4, .inl zi)), (p_wa, .inl (cI, 4, .inl zi)), (p_se, .inl (cI, 4, .inl zi)), (mm, .inr (10, [.int 0, .ref pl, .ref ig, .ref sl, .ref kl, .int 0, .int 0, .int 0])), (pl, .inr (1, [.int 0, .ref dz, .int 0])), (sl, .inr (1, [.int 0, .ref dz, .int 0])), (kl, .inr (1, [.int 0, .ref dz, .int 0])), (ou, .inl (cJ, 1, .inr (.inl zl))), (od, .inl (cD, 1, .inr (.inr (.inr (.inl zd)))))] H := hP
  have hD : va_D A [(pa, .inr (3, [.ref p_v, .int 0, .ref p_st, .ref p_ib, .ref p_di, .ref p_wa, .ref p_se, .ref p_vh, .ref p_re])), (b0, .inl (cI, 6, .inl zi)), (b1, .inl (cZ, 6, .inl zi)), (b4, .inl (cI, 4, .inl zi)), (p_v, .inl (cI, 4, .inl zi)), (p_st, .inl (cI, 4, .inl zi)), (p_ib, .inl (cZ, 4, .inl zi)), (p_di, .inl (cI, 4, .inl zi)), (p_wa, .inl (cI, 4, .inl zi)), (p_se, .inl (cI, 4, .inl zi)), (mm, .inr (10, [.int 0, .ref pl, .ref ig, .ref sl, .ref kl, .int 0, .int 0, .int 0])), (pl, .inr (1, [.int 0, .ref dz, .int 0])), (sl, .inr (1, [.int 0, .ref dz, .int 0])), (kl, .inr (1, [.int 0, .ref dz, .int 0])), (ou, .inl (cJ, 1, .inr (.inl zl))), (od, .inl (cD, 1, .inr (.inr (.inr (.inl zd)))))] := hD
  refine W.widen (k := 119) (n := 756) (Nat.le_of_ble_eq_true rfl) (Nat.le_of_ble_eq_true rfl) ?_
  have hw : r_6 = 1 := hw
  subst hw
  refine lv_istore (lv' := [(6, .int 1), (5, .int 0), (4, .ref od), (3, .ref ou), (2, .ref mm), (1, .ref x), (0, .ref b)]) hx hb dL_law_1152 hl (by decide) rfl (fun ls hl => ?_)
  refine lv_aload_n hx hb dL_law_1154 rfl (lv_at hl 4 rfl) ?_
  refine lv_aload_n hx hb dL_law_1155 rfl (lv_at hl 6 rfl) ?_
  refine lv_iload hx hb dL_law_1156 (lv_at hl 1 rfl) ?_
  refine lv_iconst (v := 1) hx hb dL_law_1158 (by decide) ?_
  refine lv_iadd hx hb dL_law_1159 ?_
  refine lv_topi (fun y_7 ey_7 => ?_)
  obtain rfl : y_7 = 1 := ey_7.trans (by decide)
  refine va_sld hx hb hX hbl hbA hS (by unfold vp_in; decide) dL_law_1160 ?_
  refine lv_topi (fun y_8 ey_8 => ?_)
  obtain rfl : a1 = y_8 := (ey_8.trans h_a1.symm).symm
  refine lv_aload_n hx hb dL_law_1161 rfl (lv_at hl 6 rfl) ?_
  refine lv_iload hx hb dL_law_1162 (lv_at hl 1 rfl) ?_
  refine lv_iconst (v := 2) hx hb dL_law_1164 (by decide) ?_
  refine lv_iadd hx hb dL_law_1165 ?_
  refine lv_topi (fun y_9 ey_9 => ?_)
  obtain rfl : y_9 = 2 := ey_9.trans (by decide)
  refine va_sld hx hb hX hbl hbA hS (by unfold vp_in; decide) dL_law_1166 ?_
  refine lv_topi (fun y_10 ey_10 => ?_)
  obtain rfl : a2 = y_10 := (ey_10.trans h_a2.symm).symm
  have hPc := hP.sub (ws' := [(mm, .inr (10, [.int 0, .ref pl, .ref ig, .ref sl, .ref kl, .int 0, .int 0, .int 0])), (pl, .inr (1, [.int 0, .ref dz, .int 0])), (sl, .inr (1, [.int 0, .ref dz, .int 0])), (kl, .inr (1, [.int 0, .ref dz, .int 0]))]) [10, 11, 12, 13] rfl
  have hDc := hD.sub (ws' := [(mm, .inr (10, [.int 0, .ref pl, .ref ig, .ref sl, .ref kl, .int 0, .int 0, .int 0])), (pl, .inr (1, [.int 0, .ref dz, .int 0])), (sl, .inr (1, [.int 0, .ref dz, .int 0])), (kl, .inr (1, [.int 0, .ref dz, .int 0]))]) [10, 11, 12, 13] (by decide) rfl
  have hKc := hK.sub (tys' := []) [] rfl
  have hFc := va_free (wc := [(mm, .inr (10, [.int 0, .ref pl, .ref ig, .ref sl, .ref kl, .int 0, .int 0, .int 0])), (pl, .inr (1, [.int 0, .ref dz, .int 0])), (sl, .inr (1, [.int 0, .ref dz, .int 0])), (kl, .inr (1, [.int 0, .ref dz, .int 0]))]) hD hS hA [10, 11, 12, 13] rfl
  refine va_calli (va_runV (As := [.int a1, .int a2]) (rest := []) ⟨hx, hb, hml, hown, hts⟩ (c_X8_elected l dC dI mm pl ig sl kl dz a1 a2 _ ) (cwV 2 hts gL_law_X8_elected rfl rfl rfl (by decide +kernel) ⟨Nat.le_of_ble_eq_true rfl, Nat.le_of_ble_eq_true rfl⟩) ⟨pe_blind mo_bl, va_recv hKc hPc (ci := 10) (q0 := 0) rfl rfl, fun U hU hW => ⟨rfl, pr_mk hU hW hPc hKc hDc, mo_mk hW (lx_m hLX)⟩⟩ rfl rfl hl.1 rfl (lv_room (Nat.le_of_ble_eq_true rfl)) dL_law_1167 ⟨Nat.le_of_ble_eq_true rfl, Nat.le_of_ble_eq_true rfl⟩) hS (fun q _ h => hFc q h) hFc (fun r_12 u_11 t H1 locs ht hvm hw hB hz1 hk1 hS => ?_)
  obtain ⟨hP1, hK1, hD1⟩ := hB
  rw [ht] at hP1
  obtain ⟨hP, hD⟩ := va_join (wr := [(pa, .inr (3, [.ref p_v, .int 0, .ref p_st, .ref p_ib, .ref p_di, .ref p_wa, .ref p_se, .ref p_vh, .ref p_re])), (b0, .inl (cI, 6, .inl zi)), (b1, .inl (cZ, 6, .inl zi)), (b4, .inl (cI, 4, .inl zi)), (p_v, .inl (cI, 4, .inl zi)), (p_st, .inl (cI, 4, .inl zi)), (p_ib, .inl (cZ, 4, .inl zi)), (p_di, .inl (cI, 4, .inl zi)), (p_wa, .inl (cI, 4, .inl zi)), (p_se, .inl (cI, 4, .inl zi)), (ou, .inl (cJ, 1, .inr (.inl zl))), (od, .inl (cD, 1, .inr (.inr (.inr (.inl zd)))))]) (w1 := [(mm, .inr (10, [.int 1, .ref pl, .ref ig, .ref sl, .ref kl, .int 0, .int 0, .int 0]))]) hP hD [10, 11, 12, 13] [0, 1, 2, 3, 4, 5, 6, 7, 8, 9, 14, 15] rfl rfl (by decide) (by decide) hk1 hFc hP1 hD1
  generalize H1 = H at hP hS ⊢
  have hP : va_P (dC, dI) vwCl [(pa, .inr (3, [.ref p_v, .int 0, .ref p_st, .ref p_ib, .ref p_di, .ref p_wa, .ref p_se, .ref p_vh, .ref p_re])), (b0, .inl (cI, 6, .inl zi)), (b1, .inl (cZ, 6, .inl zi)), (b4, .inl (cI, 4, .inl zi)), (p_v, .inl (cI, 4, .inl zi)), (p_st, .inl (cI, 4, .inl zi)), (p_ib, .inl (cZ, 4, .inl zi)), (p_di, .inl (cI, 4, .inl zi)), (p_wa, .inl (cI, 4, .inl zi)), (p_se, .inl (cI, 4, .inl zi)), (ou, .inl (cJ, 1, .inr (.inl zl))), (od, .inl (cD, 1, .inr (.inr (.inr (.inl zd))))), (mm, .inr (10, [.int 1, .ref pl, .ref ig, .ref sl, .ref kl, .int 0, .int 0, .int 0]))] H := hP
  have hD : va_D A [(pa, .inr (3, [.ref p_v, .int 0, .ref p_st, .ref p_ib, .ref p_di, .ref p_wa, .ref p_se, .ref p_vh, .ref p_re])), (b0, .inl (cI, 6, .inl zi)), (b1, .inl (cZ, 6, .inl zi)), (b4, .inl (cI, 4, .inl zi)), (p_v, .inl (cI, 4, .inl zi)), (p_st, .inl (cI, 4, .inl zi)), (p_ib, .inl (cZ, 4, .inl zi)), (p_di, .inl (cI, 4, .inl zi)), (p_wa, .inl (cI, 4, .inl zi)), (p_se, .inl (cI, 4, .inl zi)), (ou, .inl (cJ, 1, .inr (.inl zl))), (od, .inl (cD, 1, .inr (.inr (.inr (.inl zd))))), (mm, .inr (10, [.int 1, .ref pl, .ref ig, .ref sl, .ref kl, .int 0, .int 0, .int 0]))] := hD
  refine W.widen (k := 119) (n := 756) (Nat.le_refl _) (Nat.le_refl _) ?_
  have hw : r_12 = 0 := hw
  subst hw
  refine lv_istore (lv' := [(7, .int 0), (6, .int 1), (5, .int 0), (4, .ref od), (3, .ref ou), (2, .ref mm), (1, .ref x), (0, .ref b)]) hx hb dL_law_1170 hl (by decide) rfl (fun ls hl => ?_)
  refine lv_aload_n hx hb dL_law_1172 rfl (lv_at hl 5 rfl) ?_
  have hPc := hP.sub (ws' := [(mm, .inr (10, [.int 1, .ref pl, .ref ig, .ref sl, .ref kl, .int 0, .int 0, .int 0]))]) [12] rfl
  have hDc := hD.sub (ws' := [(mm, .inr (10, [.int 1, .ref pl, .ref ig, .ref sl, .ref kl, .int 0, .int 0, .int 0]))]) [12] (by decide) rfl
  have hKc := hK.sub (tys' := []) [] rfl
  have hFc := va_free (wc := [(mm, .inr (10, [.int 1, .ref pl, .ref ig, .ref sl, .ref kl, .int 0, .int 0, .int 0]))]) hD hS hA [12] rfl
  refine va_calli (va_runV (As := []) (rest := []) ⟨hx, hb, hml, hown, hts⟩ (c_X8_thrown l dC dI mm pl ig sl kl (1 : Int32) (0 : Int32) (0 : Int32) (0 : Int32) _ ) (cwV 0 hts gL_law_X8_thrown rfl rfl rfl (by decide +kernel) ⟨Nat.le_of_ble_eq_true rfl, Nat.le_of_ble_eq_true rfl⟩) ⟨pr_blind, va_recv hKc hPc (ci := 10) (q0 := 0) rfl rfl, fun U hU hW => ⟨rfl, pr_mk hU hW hPc hKc hDc⟩⟩ rfl rfl hl.1 rfl (lv_room (Nat.le_of_ble_eq_true rfl)) dL_law_1173 ⟨Nat.le_of_ble_eq_true rfl, Nat.le_of_ble_eq_true rfl⟩) hS (fun q _ h => hFc q h) hFc (fun r_14 u_13 t H1 locs ht hvm hw hB hz1 hk1 hS => ?_)
  obtain ⟨hP1, hK1, hD1⟩ := hB
  rw [ht] at hP1
  obtain ⟨hP, hD⟩ := va_join (wr := [(pa, .inr (3, [.ref p_v, .int 0, .ref p_st, .ref p_ib, .ref p_di, .ref p_wa, .ref p_se, .ref p_vh, .ref p_re])), (b0, .inl (cI, 6, .inl zi)), (b1, .inl (cZ, 6, .inl zi)), (b4, .inl (cI, 4, .inl zi)), (p_v, .inl (cI, 4, .inl zi)), (p_st, .inl (cI, 4, .inl zi)), (p_ib, .inl (cZ, 4, .inl zi)), (p_di, .inl (cI, 4, .inl zi)), (p_wa, .inl (cI, 4, .inl zi)), (p_se, .inl (cI, 4, .inl zi)), (ou, .inl (cJ, 1, .inr (.inl zl))), (od, .inl (cD, 1, .inr (.inr (.inr (.inl zd)))))]) (w1 := [(mm, .inr (10, [.int 1, .ref pl, .ref ig, .ref sl, .ref kl, .int 0, .int 0, .int 0]))]) hP hD [12] [0, 1, 2, 3, 4, 5, 6, 7, 8, 9, 10, 11] rfl rfl (by decide) (by decide) hk1 hFc hP1 hD1
  generalize H1 = H at hP hS ⊢
  have hP : va_P (dC, dI) vwCl [(pa, .inr (3, [.ref p_v, .int 0, .ref p_st, .ref p_ib, .ref p_di, .ref p_wa, .ref p_se, .ref p_vh, .ref p_re])), (b0, .inl (cI, 6, .inl zi)), (b1, .inl (cZ, 6, .inl zi)), (b4, .inl (cI, 4, .inl zi)), (p_v, .inl (cI, 4, .inl zi)), (p_st, .inl (cI, 4, .inl zi)), (p_ib, .inl (cZ, 4, .inl zi)), (p_di, .inl (cI, 4, .inl zi)), (p_wa, .inl (cI, 4, .inl zi)), (p_se, .inl (cI, 4, .inl zi)), (ou, .inl (cJ, 1, .inr (.inl zl))), (od, .inl (cD, 1, .inr (.inr (.inr (.inl zd))))), (mm, .inr (10, [.int 1, .ref pl, .ref ig, .ref sl, .ref kl, .int 0, .int 0, .int 0]))] H := hP
  have hD : va_D A [(pa, .inr (3, [.ref p_v, .int 0, .ref p_st, .ref p_ib, .ref p_di, .ref p_wa, .ref p_se, .ref p_vh, .ref p_re])), (b0, .inl (cI, 6, .inl zi)), (b1, .inl (cZ, 6, .inl zi)), (b4, .inl (cI, 4, .inl zi)), (p_v, .inl (cI, 4, .inl zi)), (p_st, .inl (cI, 4, .inl zi)), (p_ib, .inl (cZ, 4, .inl zi)), (p_di, .inl (cI, 4, .inl zi)), (p_wa, .inl (cI, 4, .inl zi)), (p_se, .inl (cI, 4, .inl zi)), (ou, .inl (cJ, 1, .inr (.inl zl))), (od, .inl (cD, 1, .inr (.inr (.inr (.inl zd))))), (mm, .inr (10, [.int 1, .ref pl, .ref ig, .ref sl, .ref kl, .int 0, .int 0, .int 0]))] := hD
  refine W.widen (k := 119) (n := 756) (Nat.le_refl _) (Nat.le_refl _) ?_
  have hw : r_14 = 1 := hw
  subst hw
  refine lv_iload hx hb dL_law_1176 (lv_at hl 1 rfl) ?_
  refine lv_icmp_eq (tgt := 1183) hx hb dL_law_1178 (by decide) (fun _ => ?_) (fun h9 => absurd h9 (by decide))
  refine lv_iload hx hb dL_law_1183 (lv_at hl 1 rfl) ?_
  refine lv_if_ne (tgt := 1200) hx hb dL_law_1185 (by decide) (fun _ => ?_) (fun h9 => absurd h9 (by decide))
  refine lv_goto (tgt := 2007) hx hb dL_law_1200 (by decide) ?_
  exact law_tail l C0 hAe hS (lv_sub hl [2, 7] rfl) (Nat.le_of_ble_eq_true rfl) (Nat.le_of_ble_eq_true rfl)

set_option maxHeartbeats 4000000 in
set_option maxRecDepth 100000 in
theorem case_worth {p : Program} {e : Env} {s : State} {m : MethodId} {below : List Frame} {meth : Method} {c : Code} (l : Launch) (hfl : l.stackTraces = false) {b : Nat} {xs : Nat → Int32} (C0 : lw_At p s m meth c b 5 xs) {dz tc : Nat} {ad : Nat → Nat} (hLX : lx_ (fun q : Nat => s.heap.size ≤ q) dz tc ad s) (dC : Nat → ClassId) (dI : Nat → Nat → Nat) {x : Nat} {po : Nat} {tr : Nat} {sp : Nat} {bx : Nat} {b0 : Nat} {b1 : Nat} {b4 : Nat} {b6 : Nat} {pa : Nat} {p_v : Nat} {p_st : Nat} {p_ib : Nat} {p_di : Nat} {p_wa : Nat} {p_se : Nat} {p_vh : Nat} {p_re : Nat} {mm : Nat} {pl : Nat} {ig : Nat} {sl : Nat} {kl : Nat} {ou : Nat} {od : Nat} {cI : ClassId} {cZ : ClassId} {cJ : ClassId} {cD : ClassId} {H : Heap} {locs : List Loc} {ls : Array Slot} (hK : va_K (dC, dI) vwCl [(cI, .int), (cZ, .boolean), (cJ, .long), (cD, .double)] s) (hP : va_P (dC, dI) vwCl [(x, .inr (7, [.ref bx, .ref po, .ref tr, .ref pa, .ref sp])), (bx, .inr (2, [.ref b0, .ref b1, .int 0, .int 0, .ref b4, .int 0, .ref b6, .int 0, .int 0, .int 0, .int 0])), (pa, .inr (3, [.ref p_v, .int 0, .ref p_st, .ref p_ib, .ref p_di, .ref p_wa, .ref p_se, .ref p_vh, .ref p_re])), (b0, .inl (cI, 6, .inl zi)), (b1, .inl (cZ, 6, .inl zi)), (b4, .inl (cI, 4, .inl zi)), (p_v, .inl (cI, 4, .inl zi)), (p_st, .inl (cI, 4, .inl zi)), (p_ib, .inl (cZ, 4, .inl zi)), (p_di, .inl (cI, 4, .inl zi)), (p_wa, .inl (cI, 4, .inl zi)), (p_se, .inl (cI, 4, .inl zi)), (mm, .inr (10, [.int 0, .ref pl, .ref ig, .ref sl, .ref kl, .int 0, .int 0, .int 0])), (pl, .inr (1, [.int 0, .ref dz, .int 0])), (sl, .inr (1, [.int 0, .ref dz, .int 0])), (kl, .inr (1, [.int 0, .ref dz, .int 0])), (ou, .inl (cJ, 1, .inr (.inl zl))), (od, .inl (cD, 1, .inr (.inr (.inr (.inl zd)))))] H) (hD : va_D (fun q : Nat => s.heap.size ≤ q) [(x, .inr (7, [.ref bx, .ref po, .ref tr, .ref pa, .ref sp])), (bx, .inr (2, [.ref b0, .ref b1, .int 0, .int 0, .ref b4, .int 0, .ref b6, .int 0, .int 0, .int 0, .int 0])), (pa, .inr (3, [.ref p_v, .int 0, .ref p_st, .ref p_ib, .ref p_di, .ref p_wa, .ref p_se, .ref p_vh, .ref p_re])), (b0, .inl (cI, 6, .inl zi)), (b1, .inl (cZ, 6, .inl zi)), (b4, .inl (cI, 4, .inl zi)), (p_v, .inl (cI, 4, .inl zi)), (p_st, .inl (cI, 4, .inl zi)), (p_ib, .inl (cZ, 4, .inl zi)), (p_di, .inl (cI, 4, .inl zi)), (p_wa, .inl (cI, 4, .inl zi)), (p_se, .inl (cI, 4, .inl zi)), (mm, .inr (10, [.int 0, .ref pl, .ref ig, .ref sl, .ref kl, .int 0, .int 0, .int 0])), (pl, .inr (1, [.int 0, .ref dz, .int 0])), (sl, .inr (1, [.int 0, .ref dz, .int 0])), (kl, .inr (1, [.int 0, .ref dz, .int 0])), (ou, .inl (cJ, 1, .inr (.inl zl))), (od, .inl (cD, 1, .inr (.inr (.inr (.inl zd)))))]) (hS : va_S (fun q : Nat => s.heap.size ≤ q) s.heap H locs) (hl : lv_has ls 9 [(5, .int 0), (4, .ref od), (3, .ref ou), (2, .ref mm), (1, .ref x), (0, .ref b)]) : W p l e room_1 s m #[Value.ref b] below meth c H locs 118 750 (lw_Z below #[Value.ref b] s) (F0 m 1203 ls []) := by
  obtain ⟨hx, hb, hr, hml, hown, hts0, hX, hbl, hlocks, hgv⟩ := id C0
  have hts : ∀ w ∈ lw_tbl, w.before #[Value.ref b] s = true := hts0
  have hbA : ¬ (fun q : Nat => s.heap.size ≤ q) b := Nat.not_le.mpr hbl
  have hA : ∀ q : Nat, s.heap.size ≤ q → (fun q : Nat => s.heap.size ≤ q) q := fun _ h => h
  generalize hAe : (fun q : Nat => s.heap.size ≤ q) = A at hD hS hbA hA hLX
  obtain ⟨a1, h_a1⟩ : ∃ z, z = xs ((1 : Int32).toNatClampNeg) := ⟨_, rfl⟩
  obtain ⟨a2, h_a2⟩ : ∃ z, z = xs ((2 : Int32).toNatClampNeg) := ⟨_, rfl⟩
  obtain ⟨a3, h_a3⟩ : ∃ z, z = xs ((3 : Int32).toNatClampNeg) := ⟨_, rfl⟩
  obtain ⟨a4, h_a4⟩ : ∃ z, z = xs ((4 : Int32).toNatClampNeg) := ⟨_, rfl⟩
  refine lv_aload_n hx hb dL_law_1203 rfl (lv_at hl 4 rfl) ?_
  refine lv_aload_n hx hb dL_law_1204 rfl (lv_at hl 5 rfl) ?_
  refine lv_iload hx hb dL_law_1205 (lv_at hl 0 rfl) ?_
  refine lv_iconst (v := 1) hx hb dL_law_1207 (by decide) ?_
  refine lv_iadd hx hb dL_law_1208 ?_
  refine lv_topi (fun y_1 ey_1 => ?_)
  obtain rfl : y_1 = 1 := ey_1.trans (by decide)
  refine va_sld hx hb hX hbl hbA hS (by unfold vp_in; decide) dL_law_1209 ?_
  refine lv_topi (fun y_2 ey_2 => ?_)
  obtain rfl : a1 = y_2 := (ey_2.trans h_a1.symm).symm
  refine lv_aload hx hb dL_law_1210 (lv_at hl 1 rfl) ?_
  have hPc := hP.sub (ws' := [(x, .inr (7, [.ref bx, .ref po, .ref tr, .ref pa, .ref sp])), (bx, .inr (2, [.ref b0, .ref b1, .int 0, .int 0, .ref b4, .int 0, .ref b6, .int 0, .int 0, .int 0, .int 0]))]) [0, 1] rfl
  have hDc := hD.sub (ws' := [(x, .inr (7, [.ref bx, .ref po, .ref tr, .ref pa, .ref sp])), (bx, .inr (2, [.ref b0, .ref b1, .int 0, .int 0, .ref b4, .int 0, .ref b6, .int 0, .int 0, .int 0, .int 0]))]) [0, 1] (by decide) rfl
  have hKc := hK.sub (tys' := []) [] rfl
  have hFc := va_free (wc := [(x, .inr (7, [.ref bx, .ref po, .ref tr, .ref pa, .ref sp])), (bx, .inr (2, [.ref b0, .ref b1, .int 0, .int 0, .ref b4, .int 0, .ref b6, .int 0, .int 0, .int 0, .int 0]))]) hD hS hA [0, 1] rfl
  refine va_calli (vx_runSW (As := [.ref x, .int a1, .ref od]) (rest := []) ⟨hx, hb, hml, hown, hts⟩ (h0_L_worth l hfl dC dI x po tr sp pa bx b0 b1 b4 b6 a1 od ((lx_s301 hLX).choose) ((lx_s301 hLX).choose_spec.choose) _ ) (vx_cwSW 3 hts gL_law_L_worth rfl rfl rfl (by decide +kernel) ⟨Nat.le_of_ble_eq_true rfl, Nat.le_of_ble_eq_true rfl⟩) ⟨pn_blind (fun _ _ _ _ h => h), fun U hU hW => ⟨rfl, pr_mk hU hW hPc hKc hDc, xs_mk hU hW hS hFc (lx_xo hLX (lx_s301 hLX).choose_spec.choose_spec), trivial⟩⟩ rfl rfl hl.1 rfl (lv_room (Nat.le_of_ble_eq_true rfl)) dL_law_1212 ⟨Nat.le_of_ble_eq_true rfl, Nat.le_of_ble_eq_true rfl⟩) hS (fun q _ h => hFc q h) hFc (fun r_4 u_3 t H1 locs ht hvm hw hB hz1 hk1 hS => ?_)
  obtain ⟨hP1, hK1, hD1⟩ := hB
  rw [ht] at hP1
  obtain ⟨hP, hD⟩ := va_join (wr := [(pa, .inr (3, [.ref p_v, .int 0, .ref p_st, .ref p_ib, .ref p_di, .ref p_wa, .ref p_se, .ref p_vh, .ref p_re])), (b0, .inl (cI, 6, .inl zi)), (b1, .inl (cZ, 6, .inl zi)), (b4, .inl (cI, 4, .inl zi)), (p_v, .inl (cI, 4, .inl zi)), (p_st, .inl (cI, 4, .inl zi)), (p_ib, .inl (cZ, 4, .inl zi)), (p_di, .inl (cI, 4, .inl zi)), (p_wa, .inl (cI, 4, .inl zi)), (p_se, .inl (cI, 4, .inl zi)), (mm, .inr (10, [.int 0, .ref pl, .ref ig, .ref sl, .ref kl, .int 0, .int 0, .int 0])), (pl, .inr (1, [.int 0, .ref dz, .int 0])), (sl, .inr (1, [.int 0, .ref dz, .int 0])), (kl, .inr (1, [.int 0, .ref dz, .int 0])), (ou, .inl (cJ, 1, .inr (.inl zl))), (od, .inl (cD, 1, .inr (.inr (.inr (.inl zd)))))]) (w1 := []) hP hD [0, 1] [2, 3, 4, 5, 6, 7, 8, 9, 10, 11, 12, 13, 14, 15, 16, 17] rfl rfl (by decide) (by decide) hk1 hFc hP1 hD1
  generalize H1 = H at hP hS ⊢
  have hP : va_P (dC, dI) vwCl [(pa, .inr (3, [.ref p_v, .int 0, .ref p_st, .ref p_ib, .ref p_di, .ref p_wa, .ref p_se, .ref p_vh, .ref p_re])), (b0, .inl (cI, 6, .inl zi)), (b1, .inl (cZ, 6, .inl zi)), (b4, .inl (cI, 4, .inl zi)), (p_v, .inl (cI, 4, .inl zi)), (p_st, .inl (cI, 4, .inl zi)), (p_ib, .inl (cZ, 4, .inl zi)), (p_di, .inl (cI, 4, .inl zi)), (p_wa, .inl (cI, 4, .inl zi)), (p_se, .inl (cI, 4, .inl zi)), (mm, .inr (10, [.int 0, .ref pl, .ref ig, .ref sl, .ref kl, .int 0, .int 0, .int 0])), (pl, .inr (1, [.int 0, .ref dz, .int 0])), (sl, .inr (1, [.int 0, .ref dz, .int 0])), (kl, .inr (1, [.int 0, .ref dz, .int 0])), (ou, .inl (cJ, 1, .inr (.inl zl))), (od, .inl (cD, 1, .inr (.inr (.inr (.inl zd)))))] H := hP
  have hD : va_D A [(pa, .inr (3, [.ref p_v, .int 0, .ref p_st, .ref p_ib, .ref p_di, .ref p_wa, .ref p_se, .ref p_vh, .ref p_re])), (b0, .inl (cI, 6, .inl zi)), (b1, .inl (cZ, 6, .inl zi)), (b4, .inl (cI, 4, .inl zi)), (p_v, .inl (cI, 4, .inl zi)), (p_st, .inl (cI, 4, .inl zi)), (p_ib, .inl (cZ, 4, .inl zi)), (p_di, .inl (cI, 4, .inl zi)), (p_wa, .inl (cI, 4, .inl zi)), (p_se, .inl (cI, 4, .inl zi)), (mm, .inr (10, [.int 0, .ref pl, .ref ig, .ref sl, .ref kl, .int 0, .int 0, .int 0])), (pl, .inr (1, [.int 0, .ref dz, .int 0])), (sl, .inr (1, [.int 0, .ref dz, .int 0])), (kl, .inr (1, [.int 0, .ref dz, .int 0])), (ou, .inl (cJ, 1, .inr (.inl zl))), (od, .inl (cD, 1, .inr (.inr (.inr (.inl zd)))))] := hD
  refine W.widen (k := 119) (n := 756) (Nat.le_of_ble_eq_true rfl) (Nat.le_of_ble_eq_true rfl) ?_
  have hw : r_4 = 1 := hw
  subst hw
  refine lv_istore (lv' := [(6, .int 1), (5, .int 0), (4, .ref od), (3, .ref ou), (2, .ref mm), (1, .ref x), (0, .ref b)]) hx hb dL_law_1215 hl (by decide) rfl (fun ls hl => ?_)
  refine lv_aload_n hx hb dL_law_1217 rfl (lv_at hl 4 rfl) ?_
  refine lv_aload_n hx hb dL_law_1218 rfl (lv_at hl 6 rfl) ?_
  refine lv_iload hx hb dL_law_1219 (lv_at hl 1 rfl) ?_
  refine lv_iconst (v := 1) hx hb dL_law_1221 (by decide) ?_
  refine lv_iadd hx hb dL_law_1222 ?_
  refine lv_topi (fun y_5 ey_5 => ?_)
  obtain rfl : y_5 = 1 := ey_5.trans (by decide)
  refine va_sld hx hb hX hbl hbA hS (by unfold vp_in; decide) dL_law_1223 ?_
  refine lv_topi (fun y_6 ey_6 => ?_)
  obtain rfl : a1 = y_6 := (ey_6.trans h_a1.symm).symm
  have hPc := hP.sub (ws' := [(mm, .inr (10, [.int 0, .ref pl, .ref ig, .ref sl, .ref kl, .int 0, .int 0, .int 0])), (pl, .inr (1, [.int 0, .ref dz, .int 0])), (sl, .inr (1, [.int 0, .ref dz, .int 0])), (kl, .inr (1, [.int 0, .ref dz, .int 0]))]) [10, 11, 12, 13] rfl
  have hDc := hD.sub (ws' := [(mm, .inr (10, [.int 0, .ref pl, .ref ig, .ref sl, .ref kl, .int 0, .int 0, .int 0])), (pl, .inr (1, [.int 0, .ref dz, .int 0])), (sl, .inr (1, [.int 0, .ref dz, .int 0])), (kl, .inr (1, [.int 0, .ref dz, .int 0]))]) [10, 11, 12, 13] (by decide) rfl
  have hKc := hK.sub (tys' := []) [] rfl
  have hFc := va_free (wc := [(mm, .inr (10, [.int 0, .ref pl, .ref ig, .ref sl, .ref kl, .int 0, .int 0, .int 0])), (pl, .inr (1, [.int 0, .ref dz, .int 0])), (sl, .inr (1, [.int 0, .ref dz, .int 0])), (kl, .inr (1, [.int 0, .ref dz, .int 0]))]) hD hS hA [10, 11, 12, 13] rfl
  refine va_calld (va_runV (As := [.int a1]) (rest := []) ⟨hx, hb, hml, hown, hts⟩ (c_X8_worth l dC dI mm pl ig sl kl dz a1 _ ) (cwV 1 hts gL_law_X8_worth rfl rfl rfl (by decide +kernel) ⟨Nat.le_of_ble_eq_true rfl, Nat.le_of_ble_eq_true rfl⟩) ⟨pe_blind mo_bl, va_recv hKc hPc (ci := 10) (q0 := 0) rfl rfl, fun U hU hW => ⟨rfl, pr_mk hU hW hPc hKc hDc, mo_mk hW (lx_m hLX)⟩⟩ rfl rfl hl.1 rfl (lv_room (Nat.le_of_ble_eq_true rfl)) dL_law_1224 ⟨Nat.le_of_ble_eq_true rfl, Nat.le_of_ble_eq_true rfl⟩) hS (fun q _ h => hFc q h) hFc (fun r_8 u_7 t H1 locs ht hvm hw hB hz1 hk1 hS => ?_)
  obtain ⟨hP1, hK1, hD1⟩ := hB
  rw [ht] at hP1
  obtain ⟨hP, hD⟩ := va_join (wr := [(pa, .inr (3, [.ref p_v, .int 0, .ref p_st, .ref p_ib, .ref p_di, .ref p_wa, .ref p_se, .ref p_vh, .ref p_re])), (b0, .inl (cI, 6, .inl zi)), (b1, .inl (cZ, 6, .inl zi)), (b4, .inl (cI, 4, .inl zi)), (p_v, .inl (cI, 4, .inl zi)), (p_st, .inl (cI, 4, .inl zi)), (p_ib, .inl (cZ, 4, .inl zi)), (p_di, .inl (cI, 4, .inl zi)), (p_wa, .inl (cI, 4, .inl zi)), (p_se, .inl (cI, 4, .inl zi)), (ou, .inl (cJ, 1, .inr (.inl zl))), (od, .inl (cD, 1, .inr (.inr (.inr (.inl zd)))))]) (w1 := [(mm, .inr (10, [.int 1, .ref pl, .ref ig, .ref sl, .ref kl, .int 0, .int 0, .int 0]))]) hP hD [10, 11, 12, 13] [0, 1, 2, 3, 4, 5, 6, 7, 8, 9, 14, 15] rfl rfl (by decide) (by decide) hk1 hFc hP1 hD1
  generalize H1 = H at hP hS ⊢
  have hP : va_P (dC, dI) vwCl [(pa, .inr (3, [.ref p_v, .int 0, .ref p_st, .ref p_ib, .ref p_di, .ref p_wa, .ref p_se, .ref p_vh, .ref p_re])), (b0, .inl (cI, 6, .inl zi)), (b1, .inl (cZ, 6, .inl zi)), (b4, .inl (cI, 4, .inl zi)), (p_v, .inl (cI, 4, .inl zi)), (p_st, .inl (cI, 4, .inl zi)), (p_ib, .inl (cZ, 4, .inl zi)), (p_di, .inl (cI, 4, .inl zi)), (p_wa, .inl (cI, 4, .inl zi)), (p_se, .inl (cI, 4, .inl zi)), (ou, .inl (cJ, 1, .inr (.inl zl))), (od, .inl (cD, 1, .inr (.inr (.inr (.inl zd))))), (mm, .inr (10, [.int 1, .ref pl, .ref ig, .ref sl, .ref kl, .int 0, .int 0, .int 0]))] H := hP
  have hD : va_D A [(pa, .inr (3, [.ref p_v, .int 0, .ref p_st, .ref p_ib, .ref p_di, .ref p_wa, .ref p_se, .ref p_vh, .ref p_re])), (b0, .inl (cI, 6, .inl zi)), (b1, .inl (cZ, 6, .inl zi)), (b4, .inl (cI, 4, .inl zi)), (p_v, .inl (cI, 4, .inl zi)), (p_st, .inl (cI, 4, .inl zi)), (p_ib, .inl (cZ, 4, .inl zi)), (p_di, .inl (cI, 4, .inl zi)), (p_wa, .inl (cI, 4, .inl zi)), (p_se, .inl (cI, 4, .inl zi)), (ou, .inl (cJ, 1, .inr (.inl zl))), (od, .inl (cD, 1, .inr (.inr (.inr (.inl zd))))), (mm, .inr (10, [.int 1, .ref pl, .ref ig, .ref sl, .ref kl, .int 0, .int 0, .int 0]))] := hD
  refine W.widen (k := 119) (n := 756) (Nat.le_refl _) (Nat.le_refl _) ?_
  have hw : r_8 = (FP.i2d 0) := hw
  subst hw
  refine lv_dstore (lv' := [(7, .double (FP.i2d 0)), (6, .int 1), (5, .int 0), (4, .ref od), (3, .ref ou), (2, .ref mm), (1, .ref x), (0, .ref b)]) hx hb dL_law_1227 hl (by decide) rfl (fun ls hl => ?_)
  refine lv_aload_n hx hb dL_law_1229 rfl (lv_at hl 5 rfl) ?_
  have hPc := hP.sub (ws' := [(mm, .inr (10, [.int 1, .ref pl, .ref ig, .ref sl, .ref kl, .int 0, .int 0, .int 0]))]) [12] rfl
  have hDc := hD.sub (ws' := [(mm, .inr (10, [.int 1, .ref pl, .ref ig, .ref sl, .ref kl, .int 0, .int 0, .int 0]))]) [12] (by decide) rfl
  have hKc := hK.sub (tys' := []) [] rfl
  have hFc := va_free (wc := [(mm, .inr (10, [.int 1, .ref pl, .ref ig, .ref sl, .ref kl, .int 0, .int 0, .int 0]))]) hD hS hA [12] rfl
  refine va_calli (va_runV (As := []) (rest := []) ⟨hx, hb, hml, hown, hts⟩ (c_X8_thrown l dC dI mm pl ig sl kl (1 : Int32) (0 : Int32) (0 : Int32) (0 : Int32) _ ) (cwV 0 hts gL_law_X8_thrown rfl rfl rfl (by decide +kernel) ⟨Nat.le_of_ble_eq_true rfl, Nat.le_of_ble_eq_true rfl⟩) ⟨pr_blind, va_recv hKc hPc (ci := 10) (q0 := 0) rfl rfl, fun U hU hW => ⟨rfl, pr_mk hU hW hPc hKc hDc⟩⟩ rfl rfl hl.1 rfl (lv_room (Nat.le_of_ble_eq_true rfl)) dL_law_1230 ⟨Nat.le_of_ble_eq_true rfl, Nat.le_of_ble_eq_true rfl⟩) hS (fun q _ h => hFc q h) hFc (fun r_10 u_9 t H1 locs ht hvm hw hB hz1 hk1 hS => ?_)
  obtain ⟨hP1, hK1, hD1⟩ := hB
  rw [ht] at hP1
  obtain ⟨hP, hD⟩ := va_join (wr := [(pa, .inr (3, [.ref p_v, .int 0, .ref p_st, .ref p_ib, .ref p_di, .ref p_wa, .ref p_se, .ref p_vh, .ref p_re])), (b0, .inl (cI, 6, .inl zi)), (b1, .inl (cZ, 6, .inl zi)), (b4, .inl (cI, 4, .inl zi)), (p_v, .inl (cI, 4, .inl zi)), (p_st, .inl (cI, 4, .inl zi)), (p_ib, .inl (cZ, 4, .inl zi)), (p_di, .inl (cI, 4, .inl zi)), (p_wa, .inl (cI, 4, .inl zi)), (p_se, .inl (cI, 4, .inl zi)), (ou, .inl (cJ, 1, .inr (.inl zl))), (od, .inl (cD, 1, .inr (.inr (.inr (.inl zd)))))]) (w1 := [(mm, .inr (10, [.int 1, .ref pl, .ref ig, .ref sl, .ref kl, .int 0, .int 0, .int 0]))]) hP hD [12] [0, 1, 2, 3, 4, 5, 6, 7, 8, 9, 10, 11] rfl rfl (by decide) (by decide) hk1 hFc hP1 hD1
  generalize H1 = H at hP hS ⊢
  have hP : va_P (dC, dI) vwCl [(pa, .inr (3, [.ref p_v, .int 0, .ref p_st, .ref p_ib, .ref p_di, .ref p_wa, .ref p_se, .ref p_vh, .ref p_re])), (b0, .inl (cI, 6, .inl zi)), (b1, .inl (cZ, 6, .inl zi)), (b4, .inl (cI, 4, .inl zi)), (p_v, .inl (cI, 4, .inl zi)), (p_st, .inl (cI, 4, .inl zi)), (p_ib, .inl (cZ, 4, .inl zi)), (p_di, .inl (cI, 4, .inl zi)), (p_wa, .inl (cI, 4, .inl zi)), (p_se, .inl (cI, 4, .inl zi)), (ou, .inl (cJ, 1, .inr (.inl zl))), (od, .inl (cD, 1, .inr (.inr (.inr (.inl zd))))), (mm, .inr (10, [.int 1, .ref pl, .ref ig, .ref sl, .ref kl, .int 0, .int 0, .int 0]))] H := hP
  have hD : va_D A [(pa, .inr (3, [.ref p_v, .int 0, .ref p_st, .ref p_ib, .ref p_di, .ref p_wa, .ref p_se, .ref p_vh, .ref p_re])), (b0, .inl (cI, 6, .inl zi)), (b1, .inl (cZ, 6, .inl zi)), (b4, .inl (cI, 4, .inl zi)), (p_v, .inl (cI, 4, .inl zi)), (p_st, .inl (cI, 4, .inl zi)), (p_ib, .inl (cZ, 4, .inl zi)), (p_di, .inl (cI, 4, .inl zi)), (p_wa, .inl (cI, 4, .inl zi)), (p_se, .inl (cI, 4, .inl zi)), (ou, .inl (cJ, 1, .inr (.inl zl))), (od, .inl (cD, 1, .inr (.inr (.inr (.inl zd))))), (mm, .inr (10, [.int 1, .ref pl, .ref ig, .ref sl, .ref kl, .int 0, .int 0, .int 0]))] := hD
  refine W.widen (k := 119) (n := 756) (Nat.le_refl _) (Nat.le_refl _) ?_
  have hw : r_10 = 1 := hw
  subst hw
  refine lv_iload hx hb dL_law_1233 (lv_at hl 1 rfl) ?_
  refine lv_icmp_eq (tgt := 1240) hx hb dL_law_1235 (by decide) (fun _ => ?_) (fun h9 => absurd h9 (by decide))
  refine lv_iload hx hb dL_law_1240 (lv_at hl 1 rfl) ?_
  refine lv_if_ne (tgt := 1277) hx hb dL_law_1242 (by decide) (fun _ => ?_) (fun h9 => absurd h9 (by decide))
  refine lv_goto (tgt := 2007) hx hb dL_law_1277 (by decide) ?_
  exact law_tail l C0 hAe hS (lv_sub hl [2, 7] rfl) (Nat.le_of_ble_eq_true rfl) (Nat.le_of_ble_eq_true rfl)

set_option maxHeartbeats 4000000 in
set_option maxRecDepth 100000 in
theorem case_ofParty {p : Program} {e : Env} {s : State} {m : MethodId} {below : List Frame} {meth : Method} {c : Code} (l : Launch) (hfl : l.stackTraces = false) {b : Nat} {xs : Nat → Int32} (C0 : lw_At p s m meth c b 5 xs) {dz tc : Nat} {ad : Nat → Nat} (hLX : lx_ (fun q : Nat => s.heap.size ≤ q) dz tc ad s) (dC : Nat → ClassId) (dI : Nat → Nat → Nat) {x : Nat} {po : Nat} {tr : Nat} {sp : Nat} {bx : Nat} {b0 : Nat} {b1 : Nat} {b4 : Nat} {b6 : Nat} {pa : Nat} {p_v : Nat} {p_st : Nat} {p_ib : Nat} {p_di : Nat} {p_wa : Nat} {p_se : Nat} {p_vh : Nat} {p_re : Nat} {mm : Nat} {pl : Nat} {ig : Nat} {sl : Nat} {kl : Nat} {ou : Nat} {od : Nat} {cI : ClassId} {cZ : ClassId} {cJ : ClassId} {cD : ClassId} {H : Heap} {locs : List Loc} {ls : Array Slot} (hK : va_K (dC, dI) vwCl [(cI, .int), (cZ, .boolean), (cJ, .long), (cD, .double)] s) (hP : va_P (dC, dI) vwCl [(x, .inr (7, [.ref bx, .ref po, .ref tr, .ref pa, .ref sp])), (bx, .inr (2, [.ref b0, .ref b1, .int 0, .int 0, .ref b4, .int 0, .ref b6, .int 0, .int 0, .int 0, .int 0])), (pa, .inr (3, [.ref p_v, .int 0, .ref p_st, .ref p_ib, .ref p_di, .ref p_wa, .ref p_se, .ref p_vh, .ref p_re])), (b0, .inl (cI, 6, .inl zi)), (b1, .inl (cZ, 6, .inl zi)), (b4, .inl (cI, 4, .inl zi)), (p_v, .inl (cI, 4, .inl zi)), (p_st, .inl (cI, 4, .inl zi)), (p_ib, .inl (cZ, 4, .inl zi)), (p_di, .inl (cI, 4, .inl zi)), (p_wa, .inl (cI, 4, .inl zi)), (p_se, .inl (cI, 4, .inl zi)), (mm, .inr (10, [.int 0, .ref pl, .ref ig, .ref sl, .ref kl, .int 0, .int 0, .int 0])), (pl, .inr (1, [.int 0, .ref dz, .int 0])), (sl, .inr (1, [.int 0, .ref dz, .int 0])), (kl, .inr (1, [.int 0, .ref dz, .int 0])), (ou, .inl (cJ, 1, .inr (.inl zl))), (od, .inl (cD, 1, .inr (.inr (.inr (.inl zd)))))] H) (hD : va_D (fun q : Nat => s.heap.size ≤ q) [(x, .inr (7, [.ref bx, .ref po, .ref tr, .ref pa, .ref sp])), (bx, .inr (2, [.ref b0, .ref b1, .int 0, .int 0, .ref b4, .int 0, .ref b6, .int 0, .int 0, .int 0, .int 0])), (pa, .inr (3, [.ref p_v, .int 0, .ref p_st, .ref p_ib, .ref p_di, .ref p_wa, .ref p_se, .ref p_vh, .ref p_re])), (b0, .inl (cI, 6, .inl zi)), (b1, .inl (cZ, 6, .inl zi)), (b4, .inl (cI, 4, .inl zi)), (p_v, .inl (cI, 4, .inl zi)), (p_st, .inl (cI, 4, .inl zi)), (p_ib, .inl (cZ, 4, .inl zi)), (p_di, .inl (cI, 4, .inl zi)), (p_wa, .inl (cI, 4, .inl zi)), (p_se, .inl (cI, 4, .inl zi)), (mm, .inr (10, [.int 0, .ref pl, .ref ig, .ref sl, .ref kl, .int 0, .int 0, .int 0])), (pl, .inr (1, [.int 0, .ref dz, .int 0])), (sl, .inr (1, [.int 0, .ref dz, .int 0])), (kl, .inr (1, [.int 0, .ref dz, .int 0])), (ou, .inl (cJ, 1, .inr (.inl zl))), (od, .inl (cD, 1, .inr (.inr (.inr (.inl zd)))))]) (hS : va_S (fun q : Nat => s.heap.size ≤ q) s.heap H locs) (hl : lv_has ls 9 [(5, .int 0), (4, .ref od), (3, .ref ou), (2, .ref mm), (1, .ref x), (0, .ref b)]) : W p l e room_1 s m #[Value.ref b] below meth c H locs 118 750 (lw_Z below #[Value.ref b] s) (F0 m 1280 ls []) := by
  obtain ⟨hx, hb, hr, hml, hown, hts0, hX, hbl, hlocks, hgv⟩ := id C0
  have hts : ∀ w ∈ lw_tbl, w.before #[Value.ref b] s = true := hts0
  have hbA : ¬ (fun q : Nat => s.heap.size ≤ q) b := Nat.not_le.mpr hbl
  have hA : ∀ q : Nat, s.heap.size ≤ q → (fun q : Nat => s.heap.size ≤ q) q := fun _ h => h
  generalize hAe : (fun q : Nat => s.heap.size ≤ q) = A at hD hS hbA hA hLX
  obtain ⟨a1, h_a1⟩ : ∃ z, z = xs ((1 : Int32).toNatClampNeg) := ⟨_, rfl⟩
  obtain ⟨a2, h_a2⟩ : ∃ z, z = xs ((2 : Int32).toNatClampNeg) := ⟨_, rfl⟩
  obtain ⟨a3, h_a3⟩ : ∃ z, z = xs ((3 : Int32).toNatClampNeg) := ⟨_, rfl⟩
  obtain ⟨a4, h_a4⟩ : ∃ z, z = xs ((4 : Int32).toNatClampNeg) := ⟨_, rfl⟩
  by_cases hB0 : a1 < 0 ∨ 4 ≤ a1
  · have hM0 : a1 < 0 ∨ 3 < a1 := gP_b hB0
    refine lv_aload_n hx hb dL_law_1280 rfl (lv_at hl 4 rfl) ?_
    refine lv_aload_n hx hb dL_law_1281 rfl (lv_at hl 5 rfl) ?_
    refine lv_iload hx hb dL_law_1282 (lv_at hl 0 rfl) ?_
    refine lv_iconst (v := 1) hx hb dL_law_1284 (by decide) ?_
    refine lv_iadd hx hb dL_law_1285 ?_
    refine lv_topi (fun y_1 ey_1 => ?_)
    obtain rfl : y_1 = 1 := ey_1.trans (by decide)
    refine va_sld hx hb hX hbl hbA hS (by unfold vp_in; decide) dL_law_1286 ?_
    refine lv_topi (fun y_2 ey_2 => ?_)
    obtain rfl : a1 = y_2 := (ey_2.trans h_a1.symm).symm
    refine lv_aload_n hx hb dL_law_1287 rfl (lv_at hl 5 rfl) ?_
    refine lv_iload hx hb dL_law_1288 (lv_at hl 0 rfl) ?_
    refine lv_iconst (v := 2) hx hb dL_law_1290 (by decide) ?_
    refine lv_iadd hx hb dL_law_1291 ?_
    refine lv_topi (fun y_3 ey_3 => ?_)
    obtain rfl : y_3 = 2 := ey_3.trans (by decide)
    refine va_sld hx hb hX hbl hbA hS (by unfold vp_in; decide) dL_law_1292 ?_
    refine lv_topi (fun y_4 ey_4 => ?_)
    obtain rfl : a2 = y_4 := (ey_4.trans h_a2.symm).symm
    refine lv_aload_n hx hb dL_law_1293 rfl (lv_at hl 2 rfl) ?_
    have hPc := hP.sub (ws' := [(x, .inr (7, [.ref bx, .ref po, .ref tr, .ref pa, .ref sp])), (bx, .inr (2, [.ref b0, .ref b1, .int 0, .int 0, .ref b4, .int 0, .ref b6, .int 0, .int 0, .int 0, .int 0]))]) [0, 1] rfl
    have hDc := hD.sub (ws' := [(x, .inr (7, [.ref bx, .ref po, .ref tr, .ref pa, .ref sp])), (bx, .inr (2, [.ref b0, .ref b1, .int 0, .int 0, .ref b4, .int 0, .ref b6, .int 0, .int 0, .int 0, .int 0]))]) [0, 1] (by decide) rfl
    have hKc := hK.sub (tys' := []) [] rfl
    have hFc := va_free (wc := [(x, .inr (7, [.ref bx, .ref po, .ref tr, .ref pa, .ref sp])), (bx, .inr (2, [.ref b0, .ref b1, .int 0, .int 0, .ref b4, .int 0, .ref b6, .int 0, .int 0, .int 0, .int 0]))]) hD hS hA [0, 1] rfl
    refine va_calli (vx_runSW (As := [.ref x, .int a1, .int a2, .ref ou]) (rest := []) ⟨hx, hb, hml, hown, hts⟩ (h0_L_ofParty l hfl dC dI x po tr sp pa bx b0 b1 b4 b6 a1 a2 ou ((lx_s50 hLX).choose) ((lx_s50 hLX).choose_spec.choose) _ hB0) (vx_cwSW 4 hts gL_law_L_ofParty rfl rfl rfl (by decide +kernel) ⟨Nat.le_of_ble_eq_true rfl, Nat.le_of_ble_eq_true rfl⟩) ⟨pn_blind (fun _ _ _ _ h => h), fun U hU hW => ⟨rfl, pr_mk hU hW hPc hKc hDc, xs_mk hU hW hS hFc (lx_xo hLX (lx_s50 hLX).choose_spec.choose_spec), trivial⟩⟩ rfl rfl hl.1 rfl (lv_room (Nat.le_of_ble_eq_true rfl)) dL_law_1294 ⟨Nat.le_of_ble_eq_true rfl, Nat.le_of_ble_eq_true rfl⟩) hS (fun q _ h => hFc q h) hFc (fun r_6 u_5 t H1 locs ht hvm hw hB hz1 hk1 hS => ?_)
    obtain ⟨hP1, hK1, hD1⟩ := hB
    rw [ht] at hP1
    obtain ⟨hP, hD⟩ := va_join (wr := [(pa, .inr (3, [.ref p_v, .int 0, .ref p_st, .ref p_ib, .ref p_di, .ref p_wa, .ref p_se, .ref p_vh, .ref p_re])), (b0, .inl (cI, 6, .inl zi)), (b1, .inl (cZ, 6, .inl zi)), (b4, .inl (cI, 4, .inl zi)), (p_v, .inl (cI, 4, .inl zi)), (p_st, .inl (cI, 4, .inl zi)), (p_ib, .inl (cZ, 4, .inl zi)), (p_di, .inl (cI, 4, .inl zi)), (p_wa, .inl (cI, 4, .inl zi)), (p_se, .inl (cI, 4, .inl zi)), (mm, .inr (10, [.int 0, .ref pl, .ref ig, .ref sl, .ref kl, .int 0, .int 0, .int 0])), (pl, .inr (1, [.int 0, .ref dz, .int 0])), (sl, .inr (1, [.int 0, .ref dz, .int 0])), (kl, .inr (1, [.int 0, .ref dz, .int 0])), (ou, .inl (cJ, 1, .inr (.inl zl))), (od, .inl (cD, 1, .inr (.inr (.inr (.inl zd)))))]) (w1 := []) hP hD [0, 1] [2, 3, 4, 5, 6, 7, 8, 9, 10, 11, 12, 13, 14, 15, 16, 17] rfl rfl (by decide) (by decide) hk1 hFc hP1 hD1
    generalize H1 = H at hP hS ⊢
    have hP : va_P (dC, dI) vwCl [(pa, .inr (3, [.ref p_v, .int 0, .ref p_st, .ref p_ib, .ref p_di, .ref p_wa, .ref p_se, .ref p_vh, .ref p_re])), (b0, .inl (cI, 6, .inl zi)), (b1, .inl (cZ, 6, .inl zi)), (b4, .inl (cI, 4, .inl zi)), (p_v, .inl (cI, 4, .inl zi)), (p_st, .inl (cI, 4, .inl zi)), (p_ib, .inl (cZ, 4, .inl zi)), (p_di, .inl (cI, 4, .inl zi)), (p_wa, .inl (cI, 4, .inl zi)), (p_se, .inl (cI, 4, .inl zi)), (mm, .inr (10, [.int 0, .ref pl, .ref ig, .ref sl, .ref kl, .int 0, .int 0, .int 0])), (pl, .inr (1, [.int 0, .ref dz, .int 0])), (sl, .inr (1, [.int 0, .ref dz, .int 0])), (kl, .inr (1, [.int 0, .ref dz, .int 0])), (ou, .inl (cJ, 1, .inr (.inl zl))), (od, .inl (cD, 1, .inr (.inr (.inr (.inl zd)))))] H := hP
    have hD : va_D A [(pa, .inr (3, [.ref p_v, .int 0, .ref p_st, .ref p_ib, .ref p_di, .ref p_wa, .ref p_se, .ref p_vh, .ref p_re])), (b0, .inl (cI, 6, .inl zi)), (b1, .inl (cZ, 6, .inl zi)), (b4, .inl (cI, 4, .inl zi)), (p_v, .inl (cI, 4, .inl zi)), (p_st, .inl (cI, 4, .inl zi)), (p_ib, .inl (cZ, 4, .inl zi)), (p_di, .inl (cI, 4, .inl zi)), (p_wa, .inl (cI, 4, .inl zi)), (p_se, .inl (cI, 4, .inl zi)), (mm, .inr (10, [.int 0, .ref pl, .ref ig, .ref sl, .ref kl, .int 0, .int 0, .int 0])), (pl, .inr (1, [.int 0, .ref dz, .int 0])), (sl, .inr (1, [.int 0, .ref dz, .int 0])), (kl, .inr (1, [.int 0, .ref dz, .int 0])), (ou, .inl (cJ, 1, .inr (.inl zl))), (od, .inl (cD, 1, .inr (.inr (.inr (.inl zd)))))] := hD
    refine W.widen (k := 119) (n := 756) (Nat.le_of_ble_eq_true rfl) (Nat.le_of_ble_eq_true rfl) ?_
    have hw : r_6 = 1 := hw
    subst hw
    refine lv_istore (lv' := [(6, .int 1), (5, .int 0), (4, .ref od), (3, .ref ou), (2, .ref mm), (1, .ref x), (0, .ref b)]) hx hb dL_law_1297 hl (by decide) rfl (fun ls hl => ?_)
    refine lv_aload_n hx hb dL_law_1299 rfl (lv_at hl 4 rfl) ?_
    refine lv_aload_n hx hb dL_law_1300 rfl (lv_at hl 6 rfl) ?_
    refine lv_iload hx hb dL_law_1301 (lv_at hl 1 rfl) ?_
    refine lv_iconst (v := 1) hx hb dL_law_1303 (by decide) ?_
    refine lv_iadd hx hb dL_law_1304 ?_
    refine lv_topi (fun y_7 ey_7 => ?_)
    obtain rfl : y_7 = 1 := ey_7.trans (by decide)
    refine va_sld hx hb hX hbl hbA hS (by unfold vp_in; decide) dL_law_1305 ?_
    refine lv_topi (fun y_8 ey_8 => ?_)
    obtain rfl : a1 = y_8 := (ey_8.trans h_a1.symm).symm
    refine lv_aload_n hx hb dL_law_1306 rfl (lv_at hl 6 rfl) ?_
    refine lv_iload hx hb dL_law_1307 (lv_at hl 1 rfl) ?_
    refine lv_iconst (v := 2) hx hb dL_law_1309 (by decide) ?_
    refine lv_iadd hx hb dL_law_1310 ?_
    refine lv_topi (fun y_9 ey_9 => ?_)
    obtain rfl : y_9 = 2 := ey_9.trans (by decide)
    refine va_sld hx hb hX hbl hbA hS (by unfold vp_in; decide) dL_law_1311 ?_
    refine lv_topi (fun y_10 ey_10 => ?_)
    obtain rfl : a2 = y_10 := (ey_10.trans h_a2.symm).symm
    have hPc := hP.sub (ws' := [(mm, .inr (10, [.int 0, .ref pl, .ref ig, .ref sl, .ref kl, .int 0, .int 0, .int 0])), (pl, .inr (1, [.int 0, .ref dz, .int 0])), (sl, .inr (1, [.int 0, .ref dz, .int 0])), (kl, .inr (1, [.int 0, .ref dz, .int 0]))]) [10, 11, 12, 13] rfl
    have hDc := hD.sub (ws' := [(mm, .inr (10, [.int 0, .ref pl, .ref ig, .ref sl, .ref kl, .int 0, .int 0, .int 0])), (pl, .inr (1, [.int 0, .ref dz, .int 0])), (sl, .inr (1, [.int 0, .ref dz, .int 0])), (kl, .inr (1, [.int 0, .ref dz, .int 0]))]) [10, 11, 12, 13] (by decide) rfl
    have hKc := hK.sub (tys' := []) [] rfl
    have hFc := va_free (wc := [(mm, .inr (10, [.int 0, .ref pl, .ref ig, .ref sl, .ref kl, .int 0, .int 0, .int 0])), (pl, .inr (1, [.int 0, .ref dz, .int 0])), (sl, .inr (1, [.int 0, .ref dz, .int 0])), (kl, .inr (1, [.int 0, .ref dz, .int 0]))]) hD hS hA [10, 11, 12, 13] rfl
    refine va_calli (va_runV (As := [.int a1, .int a2]) (rest := []) ⟨hx, hb, hml, hown, hts⟩ (c0_X8_ofParty l dC dI mm pl ig sl kl dz a1 a2 _ hM0) (cwV 2 hts gL_law_X8_ofParty rfl rfl rfl (by decide +kernel) ⟨Nat.le_of_ble_eq_true rfl, Nat.le_of_ble_eq_true rfl⟩) ⟨pe_blind mo_bl, va_recv hKc hPc (ci := 10) (q0 := 0) rfl rfl, fun U hU hW => ⟨rfl, pr_mk hU hW hPc hKc hDc, mo_mk hW (lx_m hLX)⟩⟩ rfl rfl hl.1 rfl (lv_room (Nat.le_of_ble_eq_true rfl)) dL_law_1312 ⟨Nat.le_of_ble_eq_true rfl, Nat.le_of_ble_eq_true rfl⟩) hS (fun q _ h => hFc q h) hFc (fun r_12 u_11 t H1 locs ht hvm hw hB hz1 hk1 hS => ?_)
    obtain ⟨hP1, hK1, hD1⟩ := hB
    rw [ht] at hP1
    obtain ⟨hP, hD⟩ := va_join (wr := [(pa, .inr (3, [.ref p_v, .int 0, .ref p_st, .ref p_ib, .ref p_di, .ref p_wa, .ref p_se, .ref p_vh, .ref p_re])), (b0, .inl (cI, 6, .inl zi)), (b1, .inl (cZ, 6, .inl zi)), (b4, .inl (cI, 4, .inl zi)), (p_v, .inl (cI, 4, .inl zi)), (p_st, .inl (cI, 4, .inl zi)), (p_ib, .inl (cZ, 4, .inl zi)), (p_di, .inl (cI, 4, .inl zi)), (p_wa, .inl (cI, 4, .inl zi)), (p_se, .inl (cI, 4, .inl zi)), (ou, .inl (cJ, 1, .inr (.inl zl))), (od, .inl (cD, 1, .inr (.inr (.inr (.inl zd)))))]) (w1 := [(mm, .inr (10, [.int 1, .ref pl, .ref ig, .ref sl, .ref kl, .int 0, .int 0, .int 0]))]) hP hD [10, 11, 12, 13] [0, 1, 2, 3, 4, 5, 6, 7, 8, 9, 14, 15] rfl rfl (by decide) (by decide) hk1 hFc hP1 hD1
    generalize H1 = H at hP hS ⊢
    have hP : va_P (dC, dI) vwCl [(pa, .inr (3, [.ref p_v, .int 0, .ref p_st, .ref p_ib, .ref p_di, .ref p_wa, .ref p_se, .ref p_vh, .ref p_re])), (b0, .inl (cI, 6, .inl zi)), (b1, .inl (cZ, 6, .inl zi)), (b4, .inl (cI, 4, .inl zi)), (p_v, .inl (cI, 4, .inl zi)), (p_st, .inl (cI, 4, .inl zi)), (p_ib, .inl (cZ, 4, .inl zi)), (p_di, .inl (cI, 4, .inl zi)), (p_wa, .inl (cI, 4, .inl zi)), (p_se, .inl (cI, 4, .inl zi)), (ou, .inl (cJ, 1, .inr (.inl zl))), (od, .inl (cD, 1, .inr (.inr (.inr (.inl zd))))), (mm, .inr (10, [.int 1, .ref pl, .ref ig, .ref sl, .ref kl, .int 0, .int 0, .int 0]))] H := hP
    have hD : va_D A [(pa, .inr (3, [.ref p_v, .int 0, .ref p_st, .ref p_ib, .ref p_di, .ref p_wa, .ref p_se, .ref p_vh, .ref p_re])), (b0, .inl (cI, 6, .inl zi)), (b1, .inl (cZ, 6, .inl zi)), (b4, .inl (cI, 4, .inl zi)), (p_v, .inl (cI, 4, .inl zi)), (p_st, .inl (cI, 4, .inl zi)), (p_ib, .inl (cZ, 4, .inl zi)), (p_di, .inl (cI, 4, .inl zi)), (p_wa, .inl (cI, 4, .inl zi)), (p_se, .inl (cI, 4, .inl zi)), (ou, .inl (cJ, 1, .inr (.inl zl))), (od, .inl (cD, 1, .inr (.inr (.inr (.inl zd))))), (mm, .inr (10, [.int 1, .ref pl, .ref ig, .ref sl, .ref kl, .int 0, .int 0, .int 0]))] := hD
    refine W.widen (k := 119) (n := 756) (Nat.le_refl _) (Nat.le_refl _) ?_
    have hw : r_12 = 0 := hw
    subst hw
    refine lv_istore (lv' := [(7, .int 0), (6, .int 1), (5, .int 0), (4, .ref od), (3, .ref ou), (2, .ref mm), (1, .ref x), (0, .ref b)]) hx hb dL_law_1315 hl (by decide) rfl (fun ls hl => ?_)
    refine lv_aload_n hx hb dL_law_1317 rfl (lv_at hl 5 rfl) ?_
    have hPc := hP.sub (ws' := [(mm, .inr (10, [.int 1, .ref pl, .ref ig, .ref sl, .ref kl, .int 0, .int 0, .int 0]))]) [12] rfl
    have hDc := hD.sub (ws' := [(mm, .inr (10, [.int 1, .ref pl, .ref ig, .ref sl, .ref kl, .int 0, .int 0, .int 0]))]) [12] (by decide) rfl
    have hKc := hK.sub (tys' := []) [] rfl
    have hFc := va_free (wc := [(mm, .inr (10, [.int 1, .ref pl, .ref ig, .ref sl, .ref kl, .int 0, .int 0, .int 0]))]) hD hS hA [12] rfl
    refine va_calli (va_runV (As := []) (rest := []) ⟨hx, hb, hml, hown, hts⟩ (c_X8_thrown l dC dI mm pl ig sl kl (1 : Int32) (0 : Int32) (0 : Int32) (0 : Int32) _ ) (cwV 0 hts gL_law_X8_thrown rfl rfl rfl (by decide +kernel) ⟨Nat.le_of_ble_eq_true rfl, Nat.le_of_ble_eq_true rfl⟩) ⟨pr_blind, va_recv hKc hPc (ci := 10) (q0 := 0) rfl rfl, fun U hU hW => ⟨rfl, pr_mk hU hW hPc hKc hDc⟩⟩ rfl rfl hl.1 rfl (lv_room (Nat.le_of_ble_eq_true rfl)) dL_law_1318 ⟨Nat.le_of_ble_eq_true rfl, Nat.le_of_ble_eq_true rfl⟩) hS (fun q _ h => hFc q h) hFc (fun r_14 u_13 t H1 locs ht hvm hw hB hz1 hk1 hS => ?_)
    obtain ⟨hP1, hK1, hD1⟩ := hB
    rw [ht] at hP1
    obtain ⟨hP, hD⟩ := va_join (wr := [(pa, .inr (3, [.ref p_v, .int 0, .ref p_st, .ref p_ib, .ref p_di, .ref p_wa, .ref p_se, .ref p_vh, .ref p_re])), (b0, .inl (cI, 6, .inl zi)), (b1, .inl (cZ, 6, .inl zi)), (b4, .inl (cI, 4, .inl zi)), (p_v, .inl (cI, 4, .inl zi)), (p_st, .inl (cI, 4, .inl zi)), (p_ib, .inl (cZ, 4, .inl zi)), (p_di, .inl (cI, 4, .inl zi)), (p_wa, .inl (cI, 4, .inl zi)), (p_se, .inl (cI, 4, .inl zi)), (ou, .inl (cJ, 1, .inr (.inl zl))), (od, .inl (cD, 1, .inr (.inr (.inr (.inl zd)))))]) (w1 := [(mm, .inr (10, [.int 1, .ref pl, .ref ig, .ref sl, .ref kl, .int 0, .int 0, .int 0]))]) hP hD [12] [0, 1, 2, 3, 4, 5, 6, 7, 8, 9, 10, 11] rfl rfl (by decide) (by decide) hk1 hFc hP1 hD1
    generalize H1 = H at hP hS ⊢
    have hP : va_P (dC, dI) vwCl [(pa, .inr (3, [.ref p_v, .int 0, .ref p_st, .ref p_ib, .ref p_di, .ref p_wa, .ref p_se, .ref p_vh, .ref p_re])), (b0, .inl (cI, 6, .inl zi)), (b1, .inl (cZ, 6, .inl zi)), (b4, .inl (cI, 4, .inl zi)), (p_v, .inl (cI, 4, .inl zi)), (p_st, .inl (cI, 4, .inl zi)), (p_ib, .inl (cZ, 4, .inl zi)), (p_di, .inl (cI, 4, .inl zi)), (p_wa, .inl (cI, 4, .inl zi)), (p_se, .inl (cI, 4, .inl zi)), (ou, .inl (cJ, 1, .inr (.inl zl))), (od, .inl (cD, 1, .inr (.inr (.inr (.inl zd))))), (mm, .inr (10, [.int 1, .ref pl, .ref ig, .ref sl, .ref kl, .int 0, .int 0, .int 0]))] H := hP
    have hD : va_D A [(pa, .inr (3, [.ref p_v, .int 0, .ref p_st, .ref p_ib, .ref p_di, .ref p_wa, .ref p_se, .ref p_vh, .ref p_re])), (b0, .inl (cI, 6, .inl zi)), (b1, .inl (cZ, 6, .inl zi)), (b4, .inl (cI, 4, .inl zi)), (p_v, .inl (cI, 4, .inl zi)), (p_st, .inl (cI, 4, .inl zi)), (p_ib, .inl (cZ, 4, .inl zi)), (p_di, .inl (cI, 4, .inl zi)), (p_wa, .inl (cI, 4, .inl zi)), (p_se, .inl (cI, 4, .inl zi)), (ou, .inl (cJ, 1, .inr (.inl zl))), (od, .inl (cD, 1, .inr (.inr (.inr (.inl zd))))), (mm, .inr (10, [.int 1, .ref pl, .ref ig, .ref sl, .ref kl, .int 0, .int 0, .int 0]))] := hD
    refine W.widen (k := 119) (n := 756) (Nat.le_refl _) (Nat.le_refl _) ?_
    have hw : r_14 = 1 := hw
    subst hw
    refine lv_iload hx hb dL_law_1321 (lv_at hl 1 rfl) ?_
    refine lv_icmp_eq (tgt := 1328) hx hb dL_law_1323 (by decide) (fun _ => ?_) (fun h9 => absurd h9 (by decide))
    refine lv_iload hx hb dL_law_1328 (lv_at hl 1 rfl) ?_
    refine lv_if_ne (tgt := 1345) hx hb dL_law_1330 (by decide) (fun _ => ?_) (fun h9 => absurd h9 (by decide))
    refine lv_goto (tgt := 2007) hx hb dL_law_1345 (by decide) ?_
    exact law_tail l C0 hAe hS (lv_sub hl [2, 7] rfl) (Nat.le_of_ble_eq_true rfl) (Nat.le_of_ble_eq_true rfl)
  · have hG0 : ¬ a1 < 0 := fun h => hB0 (Or.inl h)
    have hH0 : ¬ 4 ≤ a1 := fun h => hB0 (Or.inr h)
    have hN0 : ¬ 3 < a1 := gP_g hH0
    by_cases hB1 : a2 < 0 ∨ ¬ a2 ≤ 4
    · have hM1 : a2 < 0 ∨ 4 < a2 := gN_b hB1
      refine lv_aload_n hx hb dL_law_1280 rfl (lv_at hl 4 rfl) ?_
      refine lv_aload_n hx hb dL_law_1281 rfl (lv_at hl 5 rfl) ?_
      refine lv_iload hx hb dL_law_1282 (lv_at hl 0 rfl) ?_
      refine lv_iconst (v := 1) hx hb dL_law_1284 (by decide) ?_
      refine lv_iadd hx hb dL_law_1285 ?_
      refine lv_topi (fun y_15 ey_15 => ?_)
      obtain rfl : y_15 = 1 := ey_15.trans (by decide)
      refine va_sld hx hb hX hbl hbA hS (by unfold vp_in; decide) dL_law_1286 ?_
      refine lv_topi (fun y_16 ey_16 => ?_)
      obtain rfl : a1 = y_16 := (ey_16.trans h_a1.symm).symm
      refine lv_aload_n hx hb dL_law_1287 rfl (lv_at hl 5 rfl) ?_
      refine lv_iload hx hb dL_law_1288 (lv_at hl 0 rfl) ?_
      refine lv_iconst (v := 2) hx hb dL_law_1290 (by decide) ?_
      refine lv_iadd hx hb dL_law_1291 ?_
      refine lv_topi (fun y_17 ey_17 => ?_)
      obtain rfl : y_17 = 2 := ey_17.trans (by decide)
      refine va_sld hx hb hX hbl hbA hS (by unfold vp_in; decide) dL_law_1292 ?_
      refine lv_topi (fun y_18 ey_18 => ?_)
      obtain rfl : a2 = y_18 := (ey_18.trans h_a2.symm).symm
      refine lv_aload_n hx hb dL_law_1293 rfl (lv_at hl 2 rfl) ?_
      have hPc := hP.sub (ws' := [(x, .inr (7, [.ref bx, .ref po, .ref tr, .ref pa, .ref sp])), (bx, .inr (2, [.ref b0, .ref b1, .int 0, .int 0, .ref b4, .int 0, .ref b6, .int 0, .int 0, .int 0, .int 0]))]) [0, 1] rfl
      have hDc := hD.sub (ws' := [(x, .inr (7, [.ref bx, .ref po, .ref tr, .ref pa, .ref sp])), (bx, .inr (2, [.ref b0, .ref b1, .int 0, .int 0, .ref b4, .int 0, .ref b6, .int 0, .int 0, .int 0, .int 0]))]) [0, 1] (by decide) rfl
      have hKc := hK.sub (tys' := []) [] rfl
      have hFc := va_free (wc := [(x, .inr (7, [.ref bx, .ref po, .ref tr, .ref pa, .ref sp])), (bx, .inr (2, [.ref b0, .ref b1, .int 0, .int 0, .ref b4, .int 0, .ref b6, .int 0, .int 0, .int 0, .int 0]))]) hD hS hA [0, 1] rfl
      refine va_calli (vx_runSW (As := [.ref x, .int a1, .int a2, .ref ou]) (rest := []) ⟨hx, hb, hml, hown, hts⟩ (h1_L_ofParty l hfl dC dI x po tr sp pa bx b0 b1 b4 b6 a1 a2 ou ((lx_s308 hLX).choose) ((lx_s308 hLX).choose_spec.choose) _ hG0 hH0 hB1) (vx_cwSW 4 hts gL_law_L_ofParty rfl rfl rfl (by decide +kernel) ⟨Nat.le_of_ble_eq_true rfl, Nat.le_of_ble_eq_true rfl⟩) ⟨pn_blind (fun U g mk a h => ⟨nc_bl U g mk a h.1, trivial⟩), fun U hU hW => ⟨rfl, pr_mk hU hW hPc hKc hDc, xs_mk hU hW hS hFc (lx_xa hLX (lx_s308 hLX).choose_spec.choose_spec), ⟨va_Nc.moved hW.alike (lx_n hLX), trivial⟩⟩⟩ rfl rfl hl.1 rfl (lv_room (Nat.le_of_ble_eq_true rfl)) dL_law_1294 ⟨Nat.le_of_ble_eq_true rfl, Nat.le_of_ble_eq_true rfl⟩) hS (fun q _ h => hFc q h) hFc (fun r_20 u_19 t H1 locs ht hvm hw hB hz1 hk1 hS => ?_)
      obtain ⟨hP1, hK1, hD1⟩ := hB
      rw [ht] at hP1
      obtain ⟨hP, hD⟩ := va_join (wr := [(pa, .inr (3, [.ref p_v, .int 0, .ref p_st, .ref p_ib, .ref p_di, .ref p_wa, .ref p_se, .ref p_vh, .ref p_re])), (b0, .inl (cI, 6, .inl zi)), (b1, .inl (cZ, 6, .inl zi)), (b4, .inl (cI, 4, .inl zi)), (p_v, .inl (cI, 4, .inl zi)), (p_st, .inl (cI, 4, .inl zi)), (p_ib, .inl (cZ, 4, .inl zi)), (p_di, .inl (cI, 4, .inl zi)), (p_wa, .inl (cI, 4, .inl zi)), (p_se, .inl (cI, 4, .inl zi)), (mm, .inr (10, [.int 0, .ref pl, .ref ig, .ref sl, .ref kl, .int 0, .int 0, .int 0])), (pl, .inr (1, [.int 0, .ref dz, .int 0])), (sl, .inr (1, [.int 0, .ref dz, .int 0])), (kl, .inr (1, [.int 0, .ref dz, .int 0])), (ou, .inl (cJ, 1, .inr (.inl zl))), (od, .inl (cD, 1, .inr (.inr (.inr (.inl zd)))))]) (w1 := []) hP hD [0, 1] [2, 3, 4, 5, 6, 7, 8, 9, 10, 11, 12, 13, 14, 15, 16, 17] rfl rfl (by decide) (by decide) hk1 hFc hP1 hD1
      generalize H1 = H at hP hS ⊢
      have hP : va_P (dC, dI) vwCl [(pa, .inr (3, [.ref p_v, .int 0, .ref p_st, .ref p_ib, .ref p_di, .ref p_wa, .ref p_se, .ref p_vh, .ref p_re])), (b0, .inl (cI, 6, .inl zi)), (b1, .inl (cZ, 6, .inl zi)), (b4, .inl (cI, 4, .inl zi)), (p_v, .inl (cI, 4, .inl zi)), (p_st, .inl (cI, 4, .inl zi)), (p_ib, .inl (cZ, 4, .inl zi)), (p_di, .inl (cI, 4, .inl zi)), (p_wa, .inl (cI, 4, .inl zi)), (p_se, .inl (cI, 4, .inl zi)), (mm, .inr (10, [.int 0, .ref pl, .ref ig, .ref sl, .ref kl, .int 0, .int 0, .int 0])), (pl, .inr (1, [.int 0, .ref dz, .int 0])), (sl, .inr (1, [.int 0, .ref dz, .int 0])), (kl, .inr (1, [.int 0, .ref dz, .int 0])), (ou, .inl (cJ, 1, .inr (.inl zl))), (od, .inl (cD, 1, .inr (.inr (.inr (.inl zd)))))] H := hP
      have hD : va_D A [(pa, .inr (3, [.ref p_v, .int 0, .ref p_st, .ref p_ib, .ref p_di, .ref p_wa, .ref p_se, .ref p_vh, .ref p_re])), (b0, .inl (cI, 6, .inl zi)), (b1, .inl (cZ, 6, .inl zi)), (b4, .inl (cI, 4, .inl zi)), (p_v, .inl (cI, 4, .inl zi)), (p_st, .inl (cI, 4, .inl zi)), (p_ib, .inl (cZ, 4, .inl zi)), (p_di, .inl (cI, 4, .inl zi)), (p_wa, .inl (cI, 4, .inl zi)), (p_se, .inl (cI, 4, .inl zi)), (mm, .inr (10, [.int 0, .ref pl, .ref ig, .ref sl, .ref kl, .int 0, .int 0, .int 0])), (pl, .inr (1, [.int 0, .ref dz, .int 0])), (sl, .inr (1, [.int 0, .ref dz, .int 0])), (kl, .inr (1, [.int 0, .ref dz, .int 0])), (ou, .inl (cJ, 1, .inr (.inl zl))), (od, .inl (cD, 1, .inr (.inr (.inr (.inl zd)))))] := hD
      refine W.widen (k := 119) (n := 756) (Nat.le_of_ble_eq_true rfl) (Nat.le_of_ble_eq_true rfl) ?_
      have hw : r_20 = 2 := hw
      subst hw
      refine lv_istore (lv' := [(6, .int 2), (5, .int 0), (4, .ref od), (3, .ref ou), (2, .ref mm), (1, .ref x), (0, .ref b)]) hx hb dL_law_1297 hl (by decide) rfl (fun ls hl => ?_)
      refine lv_aload_n hx hb dL_law_1299 rfl (lv_at hl 4 rfl) ?_
      refine lv_aload_n hx hb dL_law_1300 rfl (lv_at hl 6 rfl) ?_
      refine lv_iload hx hb dL_law_1301 (lv_at hl 1 rfl) ?_
      refine lv_iconst (v := 1) hx hb dL_law_1303 (by decide) ?_
      refine lv_iadd hx hb dL_law_1304 ?_
      refine lv_topi (fun y_21 ey_21 => ?_)
      obtain rfl : y_21 = 1 := ey_21.trans (by decide)
      refine va_sld hx hb hX hbl hbA hS (by unfold vp_in; decide) dL_law_1305 ?_
      refine lv_topi (fun y_22 ey_22 => ?_)
      obtain rfl : a1 = y_22 := (ey_22.trans h_a1.symm).symm
      refine lv_aload_n hx hb dL_law_1306 rfl (lv_at hl 6 rfl) ?_
      refine lv_iload hx hb dL_law_1307 (lv_at hl 1 rfl) ?_
      refine lv_iconst (v := 2) hx hb dL_law_1309 (by decide) ?_
      refine lv_iadd hx hb dL_law_1310 ?_
      refine lv_topi (fun y_23 ey_23 => ?_)
      obtain rfl : y_23 = 2 := ey_23.trans (by decide)
      refine va_sld hx hb hX hbl hbA hS (by unfold vp_in; decide) dL_law_1311 ?_
      refine lv_topi (fun y_24 ey_24 => ?_)
      obtain rfl : a2 = y_24 := (ey_24.trans h_a2.symm).symm
      have hPc := hP.sub (ws' := [(mm, .inr (10, [.int 0, .ref pl, .ref ig, .ref sl, .ref kl, .int 0, .int 0, .int 0])), (pl, .inr (1, [.int 0, .ref dz, .int 0])), (sl, .inr (1, [.int 0, .ref dz, .int 0])), (kl, .inr (1, [.int 0, .ref dz, .int 0]))]) [10, 11, 12, 13] rfl
      have hDc := hD.sub (ws' := [(mm, .inr (10, [.int 0, .ref pl, .ref ig, .ref sl, .ref kl, .int 0, .int 0, .int 0])), (pl, .inr (1, [.int 0, .ref dz, .int 0])), (sl, .inr (1, [.int 0, .ref dz, .int 0])), (kl, .inr (1, [.int 0, .ref dz, .int 0]))]) [10, 11, 12, 13] (by decide) rfl
      have hKc := hK.sub (tys' := []) [] rfl
      have hFc := va_free (wc := [(mm, .inr (10, [.int 0, .ref pl, .ref ig, .ref sl, .ref kl, .int 0, .int 0, .int 0])), (pl, .inr (1, [.int 0, .ref dz, .int 0])), (sl, .inr (1, [.int 0, .ref dz, .int 0])), (kl, .inr (1, [.int 0, .ref dz, .int 0]))]) hD hS hA [10, 11, 12, 13] rfl
      refine va_calli (va_runV (As := [.int a1, .int a2]) (rest := []) ⟨hx, hb, hml, hown, hts⟩ (c1_X8_ofParty l dC dI mm pl ig sl kl dz a1 a2 _ hG0 hN0 hM1) (cwV 2 hts gL_law_X8_ofParty rfl rfl rfl (by decide +kernel) ⟨Nat.le_of_ble_eq_true rfl, Nat.le_of_ble_eq_true rfl⟩) ⟨pe_blind mo_bl, va_recv hKc hPc (ci := 10) (q0 := 0) rfl rfl, fun U hU hW => ⟨rfl, pr_mk hU hW hPc hKc hDc, mo_mk hW (lx_m hLX)⟩⟩ rfl rfl hl.1 rfl (lv_room (Nat.le_of_ble_eq_true rfl)) dL_law_1312 ⟨Nat.le_of_ble_eq_true rfl, Nat.le_of_ble_eq_true rfl⟩) hS (fun q _ h => hFc q h) hFc (fun r_26 u_25 t H1 locs ht hvm hw hB hz1 hk1 hS => ?_)
      obtain ⟨hP1, hK1, hD1⟩ := hB
      rw [ht] at hP1
      obtain ⟨hP, hD⟩ := va_join (wr := [(pa, .inr (3, [.ref p_v, .int 0, .ref p_st, .ref p_ib, .ref p_di, .ref p_wa, .ref p_se, .ref p_vh, .ref p_re])), (b0, .inl (cI, 6, .inl zi)), (b1, .inl (cZ, 6, .inl zi)), (b4, .inl (cI, 4, .inl zi)), (p_v, .inl (cI, 4, .inl zi)), (p_st, .inl (cI, 4, .inl zi)), (p_ib, .inl (cZ, 4, .inl zi)), (p_di, .inl (cI, 4, .inl zi)), (p_wa, .inl (cI, 4, .inl zi)), (p_se, .inl (cI, 4, .inl zi)), (ou, .inl (cJ, 1, .inr (.inl zl))), (od, .inl (cD, 1, .inr (.inr (.inr (.inl zd)))))]) (w1 := [(mm, .inr (10, [.int 2, .ref pl, .ref ig, .ref sl, .ref kl, .int 0, .int 0, .int 0]))]) hP hD [10, 11, 12, 13] [0, 1, 2, 3, 4, 5, 6, 7, 8, 9, 14, 15] rfl rfl (by decide) (by decide) hk1 hFc hP1 hD1
      generalize H1 = H at hP hS ⊢
      have hP : va_P (dC, dI) vwCl [(pa, .inr (3, [.ref p_v, .int 0, .ref p_st, .ref p_ib, .ref p_di, .ref p_wa, .ref p_se, .ref p_vh, .ref p_re])), (b0, .inl (cI, 6, .inl zi)), (b1, .inl (cZ, 6, .inl zi)), (b4, .inl (cI, 4, .inl zi)), (p_v, .inl (cI, 4, .inl zi)), (p_st, .inl (cI, 4, .inl zi)), (p_ib, .inl (cZ, 4, .inl zi)), (p_di, .inl (cI, 4, .inl zi)), (p_wa, .inl (cI, 4, .inl zi)), (p_se, .inl (cI, 4, .inl zi)), (ou, .inl (cJ, 1, .inr (.inl zl))), (od, .inl (cD, 1, .inr (.inr (.inr (.inl zd))))), (mm, .inr (10, [.int 2, .ref pl, .ref ig, .ref sl, .ref kl, .int 0, .int 0, .int 0]))] H := hP
      have hD : va_D A [(pa, .inr (3, [.ref p_v, .int 0, .ref p_st, .ref p_ib, .ref p_di, .ref p_wa, .ref p_se, .ref p_vh, .ref p_re])), (b0, .inl (cI, 6, .inl zi)), (b1, .inl (cZ, 6, .inl zi)), (b4, .inl (cI, 4, .inl zi)), (p_v, .inl (cI, 4, .inl zi)), (p_st, .inl (cI, 4, .inl zi)), (p_ib, .inl (cZ, 4, .inl zi)), (p_di, .inl (cI, 4, .inl zi)), (p_wa, .inl (cI, 4, .inl zi)), (p_se, .inl (cI, 4, .inl zi)), (ou, .inl (cJ, 1, .inr (.inl zl))), (od, .inl (cD, 1, .inr (.inr (.inr (.inl zd))))), (mm, .inr (10, [.int 2, .ref pl, .ref ig, .ref sl, .ref kl, .int 0, .int 0, .int 0]))] := hD
      refine W.widen (k := 119) (n := 756) (Nat.le_refl _) (Nat.le_refl _) ?_
      have hw : r_26 = 0 := hw
      subst hw
      refine lv_istore (lv' := [(7, .int 0), (6, .int 2), (5, .int 0), (4, .ref od), (3, .ref ou), (2, .ref mm), (1, .ref x), (0, .ref b)]) hx hb dL_law_1315 hl (by decide) rfl (fun ls hl => ?_)
      refine lv_aload_n hx hb dL_law_1317 rfl (lv_at hl 5 rfl) ?_
      have hPc := hP.sub (ws' := [(mm, .inr (10, [.int 2, .ref pl, .ref ig, .ref sl, .ref kl, .int 0, .int 0, .int 0]))]) [12] rfl
      have hDc := hD.sub (ws' := [(mm, .inr (10, [.int 2, .ref pl, .ref ig, .ref sl, .ref kl, .int 0, .int 0, .int 0]))]) [12] (by decide) rfl
      have hKc := hK.sub (tys' := []) [] rfl
      have hFc := va_free (wc := [(mm, .inr (10, [.int 2, .ref pl, .ref ig, .ref sl, .ref kl, .int 0, .int 0, .int 0]))]) hD hS hA [12] rfl
      refine va_calli (va_runV (As := []) (rest := []) ⟨hx, hb, hml, hown, hts⟩ (c_X8_thrown l dC dI mm pl ig sl kl (2 : Int32) (0 : Int32) (0 : Int32) (0 : Int32) _ ) (cwV 0 hts gL_law_X8_thrown rfl rfl rfl (by decide +kernel) ⟨Nat.le_of_ble_eq_true rfl, Nat.le_of_ble_eq_true rfl⟩) ⟨pr_blind, va_recv hKc hPc (ci := 10) (q0 := 0) rfl rfl, fun U hU hW => ⟨rfl, pr_mk hU hW hPc hKc hDc⟩⟩ rfl rfl hl.1 rfl (lv_room (Nat.le_of_ble_eq_true rfl)) dL_law_1318 ⟨Nat.le_of_ble_eq_true rfl, Nat.le_of_ble_eq_true rfl⟩) hS (fun q _ h => hFc q h) hFc (fun r_28 u_27 t H1 locs ht hvm hw hB hz1 hk1 hS => ?_)
      obtain ⟨hP1, hK1, hD1⟩ := hB
      rw [ht] at hP1
      obtain ⟨hP, hD⟩ := va_join (wr := [(pa, .inr (3, [.ref p_v, .int 0, .ref p_st, .ref p_ib, .ref p_di, .ref p_wa, .ref p_se, .ref p_vh, .ref p_re])), (b0, .inl (cI, 6, .inl zi)), (b1, .inl (cZ, 6, .inl zi)), (b4, .inl (cI, 4, .inl zi)), (p_v, .inl (cI, 4, .inl zi)), (p_st, .inl (cI, 4, .inl zi)), (p_ib, .inl (cZ, 4, .inl zi)), (p_di, .inl (cI, 4, .inl zi)), (p_wa, .inl (cI, 4, .inl zi)), (p_se, .inl (cI, 4, .inl zi)), (ou, .inl (cJ, 1, .inr (.inl zl))), (od, .inl (cD, 1, .inr (.inr (.inr (.inl zd)))))]) (w1 := [(mm, .inr (10, [.int 2, .ref pl, .ref ig, .ref sl, .ref kl, .int 0, .int 0, .int 0]))]) hP hD [12] [0, 1, 2, 3, 4, 5, 6, 7, 8, 9, 10, 11] rfl rfl (by decide) (by decide) hk1 hFc hP1 hD1
      generalize H1 = H at hP hS ⊢
      have hP : va_P (dC, dI) vwCl [(pa, .inr (3, [.ref p_v, .int 0, .ref p_st, .ref p_ib, .ref p_di, .ref p_wa, .ref p_se, .ref p_vh, .ref p_re])), (b0, .inl (cI, 6, .inl zi)), (b1, .inl (cZ, 6, .inl zi)), (b4, .inl (cI, 4, .inl zi)), (p_v, .inl (cI, 4, .inl zi)), (p_st, .inl (cI, 4, .inl zi)), (p_ib, .inl (cZ, 4, .inl zi)), (p_di, .inl (cI, 4, .inl zi)), (p_wa, .inl (cI, 4, .inl zi)), (p_se, .inl (cI, 4, .inl zi)), (ou, .inl (cJ, 1, .inr (.inl zl))), (od, .inl (cD, 1, .inr (.inr (.inr (.inl zd))))), (mm, .inr (10, [.int 2, .ref pl, .ref ig, .ref sl, .ref kl, .int 0, .int 0, .int 0]))] H := hP
      have hD : va_D A [(pa, .inr (3, [.ref p_v, .int 0, .ref p_st, .ref p_ib, .ref p_di, .ref p_wa, .ref p_se, .ref p_vh, .ref p_re])), (b0, .inl (cI, 6, .inl zi)), (b1, .inl (cZ, 6, .inl zi)), (b4, .inl (cI, 4, .inl zi)), (p_v, .inl (cI, 4, .inl zi)), (p_st, .inl (cI, 4, .inl zi)), (p_ib, .inl (cZ, 4, .inl zi)), (p_di, .inl (cI, 4, .inl zi)), (p_wa, .inl (cI, 4, .inl zi)), (p_se, .inl (cI, 4, .inl zi)), (ou, .inl (cJ, 1, .inr (.inl zl))), (od, .inl (cD, 1, .inr (.inr (.inr (.inl zd))))), (mm, .inr (10, [.int 2, .ref pl, .ref ig, .ref sl, .ref kl, .int 0, .int 0, .int 0]))] := hD
      refine W.widen (k := 119) (n := 756) (Nat.le_refl _) (Nat.le_refl _) ?_
      have hw : r_28 = 2 := hw
      subst hw
      refine lv_iload hx hb dL_law_1321 (lv_at hl 1 rfl) ?_
      refine lv_icmp_eq (tgt := 1328) hx hb dL_law_1323 (by decide) (fun _ => ?_) (fun h9 => absurd h9 (by decide))
      refine lv_iload hx hb dL_law_1328 (lv_at hl 1 rfl) ?_
      refine lv_if_ne (tgt := 1345) hx hb dL_law_1330 (by decide) (fun _ => ?_) (fun h9 => absurd h9 (by decide))
      refine lv_goto (tgt := 2007) hx hb dL_law_1345 (by decide) ?_
      exact law_tail l C0 hAe hS (lv_sub hl [2, 7] rfl) (Nat.le_of_ble_eq_true rfl) (Nat.le_of_ble_eq_true rfl)
    · have hG1 : ¬ a2 < 0 := fun h => hB1 (Or.inl h)
      have hH1 : a2 ≤ 4 := Decidable.byContradiction (fun h => hB1 (Or.inr h))
      have hN1 : ¬ 4 < a2 := gN_g hH1
      refine lv_aload_n hx hb dL_law_1280 rfl (lv_at hl 4 rfl) ?_
      refine lv_aload_n hx hb dL_law_1281 rfl (lv_at hl 5 rfl) ?_
      refine lv_iload hx hb dL_law_1282 (lv_at hl 0 rfl) ?_
      refine lv_iconst (v := 1) hx hb dL_law_1284 (by decide) ?_
      refine lv_iadd hx hb dL_law_1285 ?_
      refine lv_topi (fun y_29 ey_29 => ?_)
      obtain rfl : y_29 = 1 := ey_29.trans (by decide)
      refine va_sld hx hb hX hbl hbA hS (by unfold vp_in; decide) dL_law_1286 ?_
      refine lv_topi (fun y_30 ey_30 => ?_)
      obtain rfl : a1 = y_30 := (ey_30.trans h_a1.symm).symm
      refine lv_aload_n hx hb dL_law_1287 rfl (lv_at hl 5 rfl) ?_
      refine lv_iload hx hb dL_law_1288 (lv_at hl 0 rfl) ?_
      refine lv_iconst (v := 2) hx hb dL_law_1290 (by decide) ?_
      refine lv_iadd hx hb dL_law_1291 ?_
      refine lv_topi (fun y_31 ey_31 => ?_)
      obtain rfl : y_31 = 2 := ey_31.trans (by decide)
      refine va_sld hx hb hX hbl hbA hS (by unfold vp_in; decide) dL_law_1292 ?_
      refine lv_topi (fun y_32 ey_32 => ?_)
      obtain rfl : a2 = y_32 := (ey_32.trans h_a2.symm).symm
      refine lv_aload_n hx hb dL_law_1293 rfl (lv_at hl 2 rfl) ?_
      have hPc := hP.sub (ws' := [(x, .inr (7, [.ref bx, .ref po, .ref tr, .ref pa, .ref sp])), (bx, .inr (2, [.ref b0, .ref b1, .int 0, .int 0, .ref b4, .int 0, .ref b6, .int 0, .int 0, .int 0, .int 0])), (pa, .inr (3, [.ref p_v, .int 0, .ref p_st, .ref p_ib, .ref p_di, .ref p_wa, .ref p_se, .ref p_vh, .ref p_re])), (p_v, .inl (cI, 4, .inl zi)), (p_st, .inl (cI, 4, .inl zi)), (p_ib, .inl (cZ, 4, .inl zi)), (p_di, .inl (cI, 4, .inl zi)), (p_wa, .inl (cI, 4, .inl zi)), (p_se, .inl (cI, 4, .inl zi)), (ou, .inl (cJ, 1, .inr (.inl zl)))]) [0, 1, 2, 6, 7, 8, 9, 10, 11, 16] rfl
      have hDc := hD.sub (ws' := [(x, .inr (7, [.ref bx, .ref po, .ref tr, .ref pa, .ref sp])), (bx, .inr (2, [.ref b0, .ref b1, .int 0, .int 0, .ref b4, .int 0, .ref b6, .int 0, .int 0, .int 0, .int 0])), (pa, .inr (3, [.ref p_v, .int 0, .ref p_st, .ref p_ib, .ref p_di, .ref p_wa, .ref p_se, .ref p_vh, .ref p_re])), (p_v, .inl (cI, 4, .inl zi)), (p_st, .inl (cI, 4, .inl zi)), (p_ib, .inl (cZ, 4, .inl zi)), (p_di, .inl (cI, 4, .inl zi)), (p_wa, .inl (cI, 4, .inl zi)), (p_se, .inl (cI, 4, .inl zi)), (ou, .inl (cJ, 1, .inr (.inl zl)))]) [0, 1, 2, 6, 7, 8, 9, 10, 11, 16] (by decide) rfl
      have hKc := hK.sub (tys' := [(cI, .int), (cZ, .boolean), (cJ, .long)]) [0, 1, 2] rfl
      have hFc := va_free (wc := [(x, .inr (7, [.ref bx, .ref po, .ref tr, .ref pa, .ref sp])), (bx, .inr (2, [.ref b0, .ref b1, .int 0, .int 0, .ref b4, .int 0, .ref b6, .int 0, .int 0, .int 0, .int 0])), (pa, .inr (3, [.ref p_v, .int 0, .ref p_st, .ref p_ib, .ref p_di, .ref p_wa, .ref p_se, .ref p_vh, .ref p_re])), (p_v, .inl (cI, 4, .inl zi)), (p_st, .inl (cI, 4, .inl zi)), (p_ib, .inl (cZ, 4, .inl zi)), (p_di, .inl (cI, 4, .inl zi)), (p_wa, .inl (cI, 4, .inl zi)), (p_se, .inl (cI, 4, .inl zi)), (ou, .inl (cJ, 1, .inr (.inl zl)))]) hD hS hA [0, 1, 2, 6, 7, 8, 9, 10, 11, 16] rfl
      refine va_calli (vx_runSW (As := [.ref x, .int a1, .int a2, .ref ou]) (rest := []) ⟨hx, hb, hml, hown, hts⟩ (h_L_ofParty l dC dI x po tr sp bx b0 b1 b4 b6 pa p_v p_st p_ib p_di p_wa p_se p_vh p_re cI cZ a1 a2 ou cJ _ hG0 hH0 hG1 hH1) (vx_cwSW 4 hts gL_law_L_ofParty rfl rfl rfl (by decide +kernel) ⟨Nat.le_of_ble_eq_true rfl, Nat.le_of_ble_eq_true rfl⟩) ⟨pr_blind, fun U hU hW => ⟨rfl, pr_mk hU hW hPc hKc hDc⟩⟩ rfl rfl hl.1 rfl (lv_room (Nat.le_of_ble_eq_true rfl)) dL_law_1294 ⟨Nat.le_of_ble_eq_true rfl, Nat.le_of_ble_eq_true rfl⟩) hS (fun q _ h => hFc q h) hFc (fun r_34 u_33 t H1 locs ht hvm hw hB hz1 hk1 hS => ?_)
      obtain ⟨hP1, hK1, hD1⟩ := hB
      rw [ht] at hP1
      obtain ⟨hP, hD⟩ := va_join (wr := [(b0, .inl (cI, 6, .inl zi)), (b1, .inl (cZ, 6, .inl zi)), (b4, .inl (cI, 4, .inl zi)), (mm, .inr (10, [.int 0, .ref pl, .ref ig, .ref sl, .ref kl, .int 0, .int 0, .int 0])), (pl, .inr (1, [.int 0, .ref dz, .int 0])), (sl, .inr (1, [.int 0, .ref dz, .int 0])), (kl, .inr (1, [.int 0, .ref dz, .int 0])), (od, .inl (cD, 1, .inr (.inr (.inr (.inl zd)))))]) (w1 := [(ou, .inl (cJ, 1, .inr (.inl zl)))]) hP hD [0, 1, 2, 6, 7, 8, 9, 10, 11, 16] [3, 4, 5, 12, 13, 14, 15, 17] rfl rfl (by decide) (by decide) hk1 hFc hP1 hD1
      generalize H1 = H at hP hS ⊢
      have hP : va_P (dC, dI) vwCl [(b0, .inl (cI, 6, .inl zi)), (b1, .inl (cZ, 6, .inl zi)), (b4, .inl (cI, 4, .inl zi)), (mm, .inr (10, [.int 0, .ref pl, .ref ig, .ref sl, .ref kl, .int 0, .int 0, .int 0])), (pl, .inr (1, [.int 0, .ref dz, .int 0])), (sl, .inr (1, [.int 0, .ref dz, .int 0])), (kl, .inr (1, [.int 0, .ref dz, .int 0])), (od, .inl (cD, 1, .inr (.inr (.inr (.inl zd))))), (ou, .inl (cJ, 1, .inr (.inl zl)))] H := hP
      have hD : va_D A [(b0, .inl (cI, 6, .inl zi)), (b1, .inl (cZ, 6, .inl zi)), (b4, .inl (cI, 4, .inl zi)), (mm, .inr (10, [.int 0, .ref pl, .ref ig, .ref sl, .ref kl, .int 0, .int 0, .int 0])), (pl, .inr (1, [.int 0, .ref dz, .int 0])), (sl, .inr (1, [.int 0, .ref dz, .int 0])), (kl, .inr (1, [.int 0, .ref dz, .int 0])), (od, .inl (cD, 1, .inr (.inr (.inr (.inl zd))))), (ou, .inl (cJ, 1, .inr (.inl zl)))] := hD
      refine W.widen (k := 118) (n := 750) (Nat.le_refl _) (Nat.le_refl _) ?_
      have hw : r_34 = 0 := hw
      subst hw
      refine lv_istore (lv' := [(6, .int 0), (5, .int 0), (4, .ref od), (3, .ref ou), (2, .ref mm), (1, .ref x), (0, .ref b)]) hx hb dL_law_1297 hl (by decide) rfl (fun ls hl => ?_)
      refine lv_aload_n hx hb dL_law_1299 rfl (lv_at hl 4 rfl) ?_
      refine lv_aload_n hx hb dL_law_1300 rfl (lv_at hl 6 rfl) ?_
      refine lv_iload hx hb dL_law_1301 (lv_at hl 1 rfl) ?_
      refine lv_iconst (v := 1) hx hb dL_law_1303 (by decide) ?_
      refine lv_iadd hx hb dL_law_1304 ?_
      refine lv_topi (fun y_35 ey_35 => ?_)
      obtain rfl : y_35 = 1 := ey_35.trans (by decide)
      refine va_sld hx hb hX hbl hbA hS (by unfold vp_in; decide) dL_law_1305 ?_
      refine lv_topi (fun y_36 ey_36 => ?_)
      obtain rfl : a1 = y_36 := (ey_36.trans h_a1.symm).symm
      refine lv_aload_n hx hb dL_law_1306 rfl (lv_at hl 6 rfl) ?_
      refine lv_iload hx hb dL_law_1307 (lv_at hl 1 rfl) ?_
      refine lv_iconst (v := 2) hx hb dL_law_1309 (by decide) ?_
      refine lv_iadd hx hb dL_law_1310 ?_
      refine lv_topi (fun y_37 ey_37 => ?_)
      obtain rfl : y_37 = 2 := ey_37.trans (by decide)
      refine va_sld hx hb hX hbl hbA hS (by unfold vp_in; decide) dL_law_1311 ?_
      refine lv_topi (fun y_38 ey_38 => ?_)
      obtain rfl : a2 = y_38 := (ey_38.trans h_a2.symm).symm
      have hPc := hP.sub (ws' := [(mm, .inr (10, [.int 0, .ref pl, .ref ig, .ref sl, .ref kl, .int 0, .int 0, .int 0])), (pl, .inr (1, [.int 0, .ref dz, .int 0])), (sl, .inr (1, [.int 0, .ref dz, .int 0])), (kl, .inr (1, [.int 0, .ref dz, .int 0]))]) [3, 4, 5, 6] rfl
      have hDc := hD.sub (ws' := [(mm, .inr (10, [.int 0, .ref pl, .ref ig, .ref sl, .ref kl, .int 0, .int 0, .int 0])), (pl, .inr (1, [.int 0, .ref dz, .int 0])), (sl, .inr (1, [.int 0, .ref dz, .int 0])), (kl, .inr (1, [.int 0, .ref dz, .int 0]))]) [3, 4, 5, 6] (by decide) rfl
      have hKc := hK.sub (tys' := []) [] rfl
      have hFc := va_free (wc := [(mm, .inr (10, [.int 0, .ref pl, .ref ig, .ref sl, .ref kl, .int 0, .int 0, .int 0])), (pl, .inr (1, [.int 0, .ref dz, .int 0])), (sl, .inr (1, [.int 0, .ref dz, .int 0])), (kl, .inr (1, [.int 0, .ref dz, .int 0]))]) hD hS hA [3, 4, 5, 6] rfl
      refine va_calli (va_runV (As := [.int a1, .int a2]) (rest := []) ⟨hx, hb, hml, hown, hts⟩ (c_X8_ofParty l dC dI mm pl ig sl kl dz a1 a2 _ hG0 hN0 hG1 hN1) (cwV 2 hts gL_law_X8_ofParty rfl rfl rfl (by decide +kernel) ⟨Nat.le_of_ble_eq_true rfl, Nat.le_of_ble_eq_true rfl⟩) ⟨pe_blind mo_bl, va_recv hKc hPc (ci := 10) (q0 := 0) rfl rfl, fun U hU hW => ⟨rfl, pr_mk hU hW hPc hKc hDc, mo_mk hW (lx_m hLX)⟩⟩ rfl rfl hl.1 rfl (lv_room (Nat.le_of_ble_eq_true rfl)) dL_law_1312 ⟨Nat.le_of_ble_eq_true rfl, Nat.le_of_ble_eq_true rfl⟩) hS (fun q _ h => hFc q h) hFc (fun r_40 u_39 t H1 locs ht hvm hw hB hz1 hk1 hS => ?_)
      obtain ⟨hP1, hK1, hD1⟩ := hB
      rw [ht] at hP1
      obtain ⟨hP, hD⟩ := va_join (wr := [(b0, .inl (cI, 6, .inl zi)), (b1, .inl (cZ, 6, .inl zi)), (b4, .inl (cI, 4, .inl zi)), (od, .inl (cD, 1, .inr (.inr (.inr (.inl zd))))), (ou, .inl (cJ, 1, .inr (.inl zl)))]) (w1 := [(mm, .inr (10, [.int 0, .ref pl, .ref ig, .ref sl, .ref kl, .int 0, .int 0, .int 0]))]) hP hD [3, 4, 5, 6] [0, 1, 2, 7, 8] rfl rfl (by decide) (by decide) hk1 hFc hP1 hD1
      generalize H1 = H at hP hS ⊢
      have hP : va_P (dC, dI) vwCl [(b0, .inl (cI, 6, .inl zi)), (b1, .inl (cZ, 6, .inl zi)), (b4, .inl (cI, 4, .inl zi)), (od, .inl (cD, 1, .inr (.inr (.inr (.inl zd))))), (ou, .inl (cJ, 1, .inr (.inl zl))), (mm, .inr (10, [.int 0, .ref pl, .ref ig, .ref sl, .ref kl, .int 0, .int 0, .int 0]))] H := hP
      have hD : va_D A [(b0, .inl (cI, 6, .inl zi)), (b1, .inl (cZ, 6, .inl zi)), (b4, .inl (cI, 4, .inl zi)), (od, .inl (cD, 1, .inr (.inr (.inr (.inl zd))))), (ou, .inl (cJ, 1, .inr (.inl zl))), (mm, .inr (10, [.int 0, .ref pl, .ref ig, .ref sl, .ref kl, .int 0, .int 0, .int 0]))] := hD
      refine W.widen (k := 122) (n := 770) (Nat.le_of_ble_eq_true rfl) (Nat.le_of_ble_eq_true rfl) ?_
      have hw : r_40 = 0 := hw
      subst hw
      refine lv_istore (lv' := [(7, .int 0), (6, .int 0), (5, .int 0), (4, .ref od), (3, .ref ou), (2, .ref mm), (1, .ref x), (0, .ref b)]) hx hb dL_law_1315 hl (by decide) rfl (fun ls hl => ?_)
      refine lv_aload_n hx hb dL_law_1317 rfl (lv_at hl 5 rfl) ?_
      have hPc := hP.sub (ws' := [(mm, .inr (10, [.int 0, .ref pl, .ref ig, .ref sl, .ref kl, .int 0, .int 0, .int 0]))]) [5] rfl
      have hDc := hD.sub (ws' := [(mm, .inr (10, [.int 0, .ref pl, .ref ig, .ref sl, .ref kl, .int 0, .int 0, .int 0]))]) [5] (by decide) rfl
      have hKc := hK.sub (tys' := []) [] rfl
      have hFc := va_free (wc := [(mm, .inr (10, [.int 0, .ref pl, .ref ig, .ref sl, .ref kl, .int 0, .int 0, .int 0]))]) hD hS hA [5] rfl
      refine va_calli (va_runV (As := []) (rest := []) ⟨hx, hb, hml, hown, hts⟩ (c_X8_thrown l dC dI mm pl ig sl kl (0 : Int32) (0 : Int32) (0 : Int32) (0 : Int32) _ ) (cwV 0 hts gL_law_X8_thrown rfl rfl rfl (by decide +kernel) ⟨Nat.le_of_ble_eq_true rfl, Nat.le_of_ble_eq_true rfl⟩) ⟨pr_blind, va_recv hKc hPc (ci := 10) (q0 := 0) rfl rfl, fun U hU hW => ⟨rfl, pr_mk hU hW hPc hKc hDc⟩⟩ rfl rfl hl.1 rfl (lv_room (Nat.le_of_ble_eq_true rfl)) dL_law_1318 ⟨Nat.le_of_ble_eq_true rfl, Nat.le_of_ble_eq_true rfl⟩) hS (fun q _ h => hFc q h) hFc (fun r_42 u_41 t H1 locs ht hvm hw hB hz1 hk1 hS => ?_)
      obtain ⟨hP1, hK1, hD1⟩ := hB
      rw [ht] at hP1
      obtain ⟨hP, hD⟩ := va_join (wr := [(b0, .inl (cI, 6, .inl zi)), (b1, .inl (cZ, 6, .inl zi)), (b4, .inl (cI, 4, .inl zi)), (od, .inl (cD, 1, .inr (.inr (.inr (.inl zd))))), (ou, .inl (cJ, 1, .inr (.inl zl)))]) (w1 := [(mm, .inr (10, [.int 0, .ref pl, .ref ig, .ref sl, .ref kl, .int 0, .int 0, .int 0]))]) hP hD [5] [0, 1, 2, 3, 4] rfl rfl (by decide) (by decide) hk1 hFc hP1 hD1
      generalize H1 = H at hP hS ⊢
      have hP : va_P (dC, dI) vwCl [(b0, .inl (cI, 6, .inl zi)), (b1, .inl (cZ, 6, .inl zi)), (b4, .inl (cI, 4, .inl zi)), (od, .inl (cD, 1, .inr (.inr (.inr (.inl zd))))), (ou, .inl (cJ, 1, .inr (.inl zl))), (mm, .inr (10, [.int 0, .ref pl, .ref ig, .ref sl, .ref kl, .int 0, .int 0, .int 0]))] H := hP
      have hD : va_D A [(b0, .inl (cI, 6, .inl zi)), (b1, .inl (cZ, 6, .inl zi)), (b4, .inl (cI, 4, .inl zi)), (od, .inl (cD, 1, .inr (.inr (.inr (.inl zd))))), (ou, .inl (cJ, 1, .inr (.inl zl))), (mm, .inr (10, [.int 0, .ref pl, .ref ig, .ref sl, .ref kl, .int 0, .int 0, .int 0]))] := hD
      refine W.widen (k := 122) (n := 770) (Nat.le_refl _) (Nat.le_refl _) ?_
      have hw : r_42 = 0 := hw
      subst hw
      refine lv_iload hx hb dL_law_1321 (lv_at hl 1 rfl) ?_
      refine lv_icmp_eq (tgt := 1328) hx hb dL_law_1323 (by decide) (fun _ => ?_) (fun h9 => absurd h9 (by decide))
      refine lv_iload hx hb dL_law_1328 (lv_at hl 1 rfl) ?_
      refine lv_if_ne (tgt := 1345) hx hb dL_law_1330 (by decide) (fun h9 => absurd h9 (by decide)) (fun _ => ?_)
      refine lv_aload_n hx hb dL_law_1333 rfl (lv_at hl 4 rfl) ?_
      refine lv_iconst (v := 0) hx hb dL_law_1334 (by decide) ?_
      refine va_lald hx hb hK hP 4 2 rfl rfl (by unfold vp_in; decide) dL_law_1335 ?_
      refine lv_topl (fun y_43 ey_43 => ?_)
      obtain rfl : y_43 = 0 := ey_43
      refine lv_iload hx hb dL_law_1336 (lv_at hl 0 rfl) ?_
      refine lv_i2l (v := 0) hx hb dL_law_1338 (by decide) ?_
      refine W.lcmp hx hb dL_law_1339 ?_
      refine lv_topi (fun y_44 ey_44 => ?_)
      obtain rfl : y_44 = 0 := ey_44.trans (lcmp_self _)
      refine lv_if_eq (tgt := 1345) hx hb dL_law_1340 (by decide) (fun _ => ?_) (fun h9 => absurd h9 (by decide))
      refine lv_goto (tgt := 2007) hx hb dL_law_1345 (by decide) ?_
      exact law_tail l C0 hAe hS (lv_sub hl [2, 7] rfl) (Nat.le_of_ble_eq_true rfl) (Nat.le_of_ble_eq_true rfl)

set_option maxHeartbeats 4000000 in
set_option maxRecDepth 100000 in
theorem case_share {p : Program} {e : Env} {s : State} {m : MethodId} {below : List Frame} {meth : Method} {c : Code} (l : Launch) (hfl : l.stackTraces = false) {b : Nat} {xs : Nat → Int32} (C0 : lw_At p s m meth c b 5 xs) {dz tc : Nat} {ad : Nat → Nat} (hLX : lx_ (fun q : Nat => s.heap.size ≤ q) dz tc ad s) (dC : Nat → ClassId) (dI : Nat → Nat → Nat) {x : Nat} {po : Nat} {tr : Nat} {sp : Nat} {bx : Nat} {b0 : Nat} {b1 : Nat} {b4 : Nat} {b6 : Nat} {pa : Nat} {p_v : Nat} {p_st : Nat} {p_ib : Nat} {p_di : Nat} {p_wa : Nat} {p_se : Nat} {p_vh : Nat} {p_re : Nat} {mm : Nat} {pl : Nat} {ig : Nat} {sl : Nat} {kl : Nat} {ou : Nat} {od : Nat} {cI : ClassId} {cZ : ClassId} {cJ : ClassId} {cD : ClassId} {H : Heap} {locs : List Loc} {ls : Array Slot} (hK : va_K (dC, dI) vwCl [(cI, .int), (cZ, .boolean), (cJ, .long), (cD, .double)] s) (hP : va_P (dC, dI) vwCl [(x, .inr (7, [.ref bx, .ref po, .ref tr, .ref pa, .ref sp])), (bx, .inr (2, [.ref b0, .ref b1, .int 0, .int 0, .ref b4, .int 0, .ref b6, .int 0, .int 0, .int 0, .int 0])), (pa, .inr (3, [.ref p_v, .int 0, .ref p_st, .ref p_ib, .ref p_di, .ref p_wa, .ref p_se, .ref p_vh, .ref p_re])), (b0, .inl (cI, 6, .inl zi)), (b1, .inl (cZ, 6, .inl zi)), (b4, .inl (cI, 4, .inl zi)), (p_v, .inl (cI, 4, .inl zi)), (p_st, .inl (cI, 4, .inl zi)), (p_ib, .inl (cZ, 4, .inl zi)), (p_di, .inl (cI, 4, .inl zi)), (p_wa, .inl (cI, 4, .inl zi)), (p_se, .inl (cI, 4, .inl zi)), (mm, .inr (10, [.int 0, .ref pl, .ref ig, .ref sl, .ref kl, .int 0, .int 0, .int 0])), (pl, .inr (1, [.int 0, .ref dz, .int 0])), (sl, .inr (1, [.int 0, .ref dz, .int 0])), (kl, .inr (1, [.int 0, .ref dz, .int 0])), (ou, .inl (cJ, 1, .inr (.inl zl))), (od, .inl (cD, 1, .inr (.inr (.inr (.inl zd)))))] H) (hD : va_D (fun q : Nat => s.heap.size ≤ q) [(x, .inr (7, [.ref bx, .ref po, .ref tr, .ref pa, .ref sp])), (bx, .inr (2, [.ref b0, .ref b1, .int 0, .int 0, .ref b4, .int 0, .ref b6, .int 0, .int 0, .int 0, .int 0])), (pa, .inr (3, [.ref p_v, .int 0, .ref p_st, .ref p_ib, .ref p_di, .ref p_wa, .ref p_se, .ref p_vh, .ref p_re])), (b0, .inl (cI, 6, .inl zi)), (b1, .inl (cZ, 6, .inl zi)), (b4, .inl (cI, 4, .inl zi)), (p_v, .inl (cI, 4, .inl zi)), (p_st, .inl (cI, 4, .inl zi)), (p_ib, .inl (cZ, 4, .inl zi)), (p_di, .inl (cI, 4, .inl zi)), (p_wa, .inl (cI, 4, .inl zi)), (p_se, .inl (cI, 4, .inl zi)), (mm, .inr (10, [.int 0, .ref pl, .ref ig, .ref sl, .ref kl, .int 0, .int 0, .int 0])), (pl, .inr (1, [.int 0, .ref dz, .int 0])), (sl, .inr (1, [.int 0, .ref dz, .int 0])), (kl, .inr (1, [.int 0, .ref dz, .int 0])), (ou, .inl (cJ, 1, .inr (.inl zl))), (od, .inl (cD, 1, .inr (.inr (.inr (.inl zd)))))]) (hS : va_S (fun q : Nat => s.heap.size ≤ q) s.heap H locs) (hl : lv_has ls 9 [(5, .int 0), (4, .ref od), (3, .ref ou), (2, .ref mm), (1, .ref x), (0, .ref b)]) : W p l e room_1 s m #[Value.ref b] below meth c H locs 118 750 (lw_Z below #[Value.ref b] s) (F0 m 1348 ls []) := by
  obtain ⟨hx, hb, hr, hml, hown, hts0, hX, hbl, hlocks, hgv⟩ := id C0
  have hts : ∀ w ∈ lw_tbl, w.before #[Value.ref b] s = true := hts0
  have hbA : ¬ (fun q : Nat => s.heap.size ≤ q) b := Nat.not_le.mpr hbl
  have hA : ∀ q : Nat, s.heap.size ≤ q → (fun q : Nat => s.heap.size ≤ q) q := fun _ h => h
  generalize hAe : (fun q : Nat => s.heap.size ≤ q) = A at hD hS hbA hA hLX
  obtain ⟨a1, h_a1⟩ : ∃ z, z = xs ((1 : Int32).toNatClampNeg) := ⟨_, rfl⟩
  obtain ⟨a2, h_a2⟩ : ∃ z, z = xs ((2 : Int32).toNatClampNeg) := ⟨_, rfl⟩
  obtain ⟨a3, h_a3⟩ : ∃ z, z = xs ((3 : Int32).toNatClampNeg) := ⟨_, rfl⟩
  obtain ⟨a4, h_a4⟩ : ∃ z, z = xs ((4 : Int32).toNatClampNeg) := ⟨_, rfl⟩
  by_cases hB0 : a1 < 0 ∨ 4 ≤ a1
  · have hM0 : a1 < 0 ∨ 3 < a1 := gP_b hB0
    refine lv_aload_n hx hb dL_law_1348 rfl (lv_at hl 4 rfl) ?_
    refine lv_aload_n hx hb dL_law_1349 rfl (lv_at hl 5 rfl) ?_
    refine lv_iload hx hb dL_law_1350 (lv_at hl 0 rfl) ?_
    refine lv_iconst (v := 1) hx hb dL_law_1352 (by decide) ?_
    refine lv_iadd hx hb dL_law_1353 ?_
    refine lv_topi (fun y_1 ey_1 => ?_)
    obtain rfl : y_1 = 1 := ey_1.trans (by decide)
    refine va_sld hx hb hX hbl hbA hS (by unfold vp_in; decide) dL_law_1354 ?_
    refine lv_topi (fun y_2 ey_2 => ?_)
    obtain rfl : a1 = y_2 := (ey_2.trans h_a1.symm).symm
    refine lv_aload_n hx hb dL_law_1355 rfl (lv_at hl 5 rfl) ?_
    refine lv_iload hx hb dL_law_1356 (lv_at hl 0 rfl) ?_
    refine lv_iconst (v := 2) hx hb dL_law_1358 (by decide) ?_
    refine lv_iadd hx hb dL_law_1359 ?_
    refine lv_topi (fun y_3 ey_3 => ?_)
    obtain rfl : y_3 = 2 := ey_3.trans (by decide)
    refine va_sld hx hb hX hbl hbA hS (by unfold vp_in; decide) dL_law_1360 ?_
    refine lv_topi (fun y_4 ey_4 => ?_)
    obtain rfl : a2 = y_4 := (ey_4.trans h_a2.symm).symm
    refine lv_aload_n hx hb dL_law_1361 rfl (lv_at hl 5 rfl) ?_
    refine lv_iload hx hb dL_law_1362 (lv_at hl 0 rfl) ?_
    refine lv_iconst (v := 3) hx hb dL_law_1364 (by decide) ?_
    refine lv_iadd hx hb dL_law_1365 ?_
    refine lv_topi (fun y_5 ey_5 => ?_)
    obtain rfl : y_5 = 3 := ey_5.trans (by decide)
    refine va_sld hx hb hX hbl hbA hS (by unfold vp_in; decide) dL_law_1366 ?_
    refine lv_topi (fun y_6 ey_6 => ?_)
    obtain rfl : a3 = y_6 := (ey_6.trans h_a3.symm).symm
    refine lv_aload_n hx hb dL_law_1367 rfl (lv_at hl 2 rfl) ?_
    have hPc := hP.sub (ws' := [(x, .inr (7, [.ref bx, .ref po, .ref tr, .ref pa, .ref sp])), (bx, .inr (2, [.ref b0, .ref b1, .int 0, .int 0, .ref b4, .int 0, .ref b6, .int 0, .int 0, .int 0, .int 0]))]) [0, 1] rfl
    have hDc := hD.sub (ws' := [(x, .inr (7, [.ref bx, .ref po, .ref tr, .ref pa, .ref sp])), (bx, .inr (2, [.ref b0, .ref b1, .int 0, .int 0, .ref b4, .int 0, .ref b6, .int 0, .int 0, .int 0, .int 0]))]) [0, 1] (by decide) rfl
    have hKc := hK.sub (tys' := []) [] rfl
    have hFc := va_free (wc := [(x, .inr (7, [.ref bx, .ref po, .ref tr, .ref pa, .ref sp])), (bx, .inr (2, [.ref b0, .ref b1, .int 0, .int 0, .ref b4, .int 0, .ref b6, .int 0, .int 0, .int 0, .int 0]))]) hD hS hA [0, 1] rfl
    refine va_calli (vx_runSW (As := [.ref x, .int a1, .int a2, .int a3, .ref ou]) (rest := []) ⟨hx, hb, hml, hown, hts⟩ (h0_L_share l hfl dC dI x po tr sp pa bx b0 b1 b4 b6 a1 a2 a3 ou ((lx_s50 hLX).choose) ((lx_s50 hLX).choose_spec.choose) _ hB0) (vx_cwSW 5 hts gL_law_L_share rfl rfl rfl (by decide +kernel) ⟨Nat.le_of_ble_eq_true rfl, Nat.le_of_ble_eq_true rfl⟩) ⟨pn_blind (fun _ _ _ _ h => h), fun U hU hW => ⟨rfl, pr_mk hU hW hPc hKc hDc, xs_mk hU hW hS hFc (lx_xo hLX (lx_s50 hLX).choose_spec.choose_spec), trivial⟩⟩ rfl rfl hl.1 rfl (lv_room (Nat.le_of_ble_eq_true rfl)) dL_law_1368 ⟨Nat.le_of_ble_eq_true rfl, Nat.le_of_ble_eq_true rfl⟩) hS (fun q _ h => hFc q h) hFc (fun r_8 u_7 t H1 locs ht hvm hw hB hz1 hk1 hS => ?_)
    obtain ⟨hP1, hK1, hD1⟩ := hB
    rw [ht] at hP1
    obtain ⟨hP, hD⟩ := va_join (wr := [(pa, .inr (3, [.ref p_v, .int 0, .ref p_st, .ref p_ib, .ref p_di, .ref p_wa, .ref p_se, .ref p_vh, .ref p_re])), (b0, .inl (cI, 6, .inl zi)), (b1, .inl (cZ, 6, .inl zi)), (b4, .inl (cI, 4, .inl zi)), (p_v, .inl (cI, 4, .inl zi)), (p_st, .inl (cI, 4, .inl zi)), (p_ib, .inl (cZ, 4, .inl zi)), (p_di, .inl (cI, 4, .inl zi)), (p_wa, .inl (cI, 4, .inl zi)), (p_se, .inl (cI, 4, .inl zi)), (mm, .inr (10, [.int 0, .ref pl, .ref ig, .ref sl, .ref kl, .int 0, .int 0, .int 0])), (pl, .inr (1, [.int 0, .ref dz, .int 0])), (sl, .inr (1, [.int 0, .ref dz, .int 0])), (kl, .inr (1, [.int 0, .ref dz, .int 0])), (ou, .inl (cJ, 1, .inr (.inl zl))), (od, .inl (cD, 1, .inr (.inr (.inr (.inl zd)))))]) (w1 := []) hP hD [0, 1] [2, 3, 4, 5, 6, 7, 8, 9, 10, 11, 12, 13, 14, 15, 16, 17] rfl rfl (by decide) (by decide) hk1 hFc hP1 hD1
    generalize H1 = H at hP hS ⊢
    have hP : va_P (dC, dI) vwCl [(pa, .inr (3, [.ref p_v, .int 0, .ref p_st, .ref p_ib, .ref p_di, .ref p_wa, .ref p_se, .ref p_vh, .ref p_re])), (b0, .inl (cI, 6, .inl zi)), (b1, .inl (cZ, 6, .inl zi)), (b4, .inl (cI, 4, .inl zi)), (p_v, .inl (cI, 4, .inl zi)), (p_st, .inl (cI, 4, .inl zi)), (p_ib, .inl (cZ, 4, .inl zi)), (p_di, .inl (cI, 4, .inl zi)), (p_wa, .inl (cI, 4, .inl zi)), (p_se, .inl (cI, 4, .inl zi)), (mm, .inr (10, [.int 0, .ref pl, .ref ig, .ref sl, .ref kl, .int 0, .int 0, .int 0])), (pl, .inr (1, [.int 0, .ref dz, .int 0])), (sl, .inr (1, [.int 0, .ref dz, .int 0])), (kl, .inr (1, [.int 0, .ref dz, .int 0])), (ou, .inl (cJ, 1, .inr (.inl zl))), (od, .inl (cD, 1, .inr (.inr (.inr (.inl zd)))))] H := hP
    have hD : va_D A [(pa, .inr (3, [.ref p_v, .int 0, .ref p_st, .ref p_ib, .ref p_di, .ref p_wa, .ref p_se, .ref p_vh, .ref p_re])), (b0, .inl (cI, 6, .inl zi)), (b1, .inl (cZ, 6, .inl zi)), (b4, .inl (cI, 4, .inl zi)), (p_v, .inl (cI, 4, .inl zi)), (p_st, .inl (cI, 4, .inl zi)), (p_ib, .inl (cZ, 4, .inl zi)), (p_di, .inl (cI, 4, .inl zi)), (p_wa, .inl (cI, 4, .inl zi)), (p_se, .inl (cI, 4, .inl zi)), (mm, .inr (10, [.int 0, .ref pl, .ref ig, .ref sl, .ref kl, .int 0, .int 0, .int 0])), (pl, .inr (1, [.int 0, .ref dz, .int 0])), (sl, .inr (1, [.int 0, .ref dz, .int 0])), (kl, .inr (1, [.int 0, .ref dz, .int 0])), (ou, .inl (cJ, 1, .inr (.inl zl))), (od, .inl (cD, 1, .inr (.inr (.inr (.inl zd)))))] := hD
    refine W.widen (k := 119) (n := 756) (Nat.le_of_ble_eq_true rfl) (Nat.le_of_ble_eq_true rfl) ?_
    have hw : r_8 = 1 := hw
    subst hw
    refine lv_istore (lv' := [(6, .int 1), (5, .int 0), (4, .ref od), (3, .ref ou), (2, .ref mm), (1, .ref x), (0, .ref b)]) hx hb dL_law_1371 hl (by decide) rfl (fun ls hl => ?_)
    refine lv_aload_n hx hb dL_law_1373 rfl (lv_at hl 4 rfl) ?_
    refine lv_aload_n hx hb dL_law_1374 rfl (lv_at hl 6 rfl) ?_
    refine lv_iload hx hb dL_law_1375 (lv_at hl 1 rfl) ?_
    refine lv_iconst (v := 1) hx hb dL_law_1377 (by decide) ?_
    refine lv_iadd hx hb dL_law_1378 ?_
    refine lv_topi (fun y_9 ey_9 => ?_)
    obtain rfl : y_9 = 1 := ey_9.trans (by decide)
    refine va_sld hx hb hX hbl hbA hS (by unfold vp_in; decide) dL_law_1379 ?_
    refine lv_topi (fun y_10 ey_10 => ?_)
    obtain rfl : a1 = y_10 := (ey_10.trans h_a1.symm).symm
    refine lv_aload_n hx hb dL_law_1380 rfl (lv_at hl 6 rfl) ?_
    refine lv_iload hx hb dL_law_1381 (lv_at hl 1 rfl) ?_
    refine lv_iconst (v := 2) hx hb dL_law_1383 (by decide) ?_
    refine lv_iadd hx hb dL_law_1384 ?_
    refine lv_topi (fun y_11 ey_11 => ?_)
    obtain rfl : y_11 = 2 := ey_11.trans (by decide)
    refine va_sld hx hb hX hbl hbA hS (by unfold vp_in; decide) dL_law_1385 ?_
    refine lv_topi (fun y_12 ey_12 => ?_)
    obtain rfl : a2 = y_12 := (ey_12.trans h_a2.symm).symm
    refine lv_aload_n hx hb dL_law_1386 rfl (lv_at hl 6 rfl) ?_
    refine lv_iload hx hb dL_law_1387 (lv_at hl 1 rfl) ?_
    refine lv_iconst (v := 3) hx hb dL_law_1389 (by decide) ?_
    refine lv_iadd hx hb dL_law_1390 ?_
    refine lv_topi (fun y_13 ey_13 => ?_)
    obtain rfl : y_13 = 3 := ey_13.trans (by decide)
    refine va_sld hx hb hX hbl hbA hS (by unfold vp_in; decide) dL_law_1391 ?_
    refine lv_topi (fun y_14 ey_14 => ?_)
    obtain rfl : a3 = y_14 := (ey_14.trans h_a3.symm).symm
    have hPc := hP.sub (ws' := [(mm, .inr (10, [.int 0, .ref pl, .ref ig, .ref sl, .ref kl, .int 0, .int 0, .int 0])), (pl, .inr (1, [.int 0, .ref dz, .int 0])), (sl, .inr (1, [.int 0, .ref dz, .int 0])), (kl, .inr (1, [.int 0, .ref dz, .int 0]))]) [10, 11, 12, 13] rfl
    have hDc := hD.sub (ws' := [(mm, .inr (10, [.int 0, .ref pl, .ref ig, .ref sl, .ref kl, .int 0, .int 0, .int 0])), (pl, .inr (1, [.int 0, .ref dz, .int 0])), (sl, .inr (1, [.int 0, .ref dz, .int 0])), (kl, .inr (1, [.int 0, .ref dz, .int 0]))]) [10, 11, 12, 13] (by decide) rfl
    have hKc := hK.sub (tys' := []) [] rfl
    have hFc := va_free (wc := [(mm, .inr (10, [.int 0, .ref pl, .ref ig, .ref sl, .ref kl, .int 0, .int 0, .int 0])), (pl, .inr (1, [.int 0, .ref dz, .int 0])), (sl, .inr (1, [.int 0, .ref dz, .int 0])), (kl, .inr (1, [.int 0, .ref dz, .int 0]))]) hD hS hA [10, 11, 12, 13] rfl
    refine va_calli (va_runV (As := [.int a1, .int a2, .int a3]) (rest := []) ⟨hx, hb, hml, hown, hts⟩ (c0_X8_share l dC dI mm pl ig sl kl dz a1 a2 a3 _ hM0) (cwV 3 hts gL_law_X8_share rfl rfl rfl (by decide +kernel) ⟨Nat.le_of_ble_eq_true rfl, Nat.le_of_ble_eq_true rfl⟩) ⟨pe_blind mo_bl, va_recv hKc hPc (ci := 10) (q0 := 0) rfl rfl, fun U hU hW => ⟨rfl, pr_mk hU hW hPc hKc hDc, mo_mk hW (lx_m hLX)⟩⟩ rfl rfl hl.1 rfl (lv_room (Nat.le_of_ble_eq_true rfl)) dL_law_1392 ⟨Nat.le_of_ble_eq_true rfl, Nat.le_of_ble_eq_true rfl⟩) hS (fun q _ h => hFc q h) hFc (fun r_16 u_15 t H1 locs ht hvm hw hB hz1 hk1 hS => ?_)
    obtain ⟨hP1, hK1, hD1⟩ := hB
    rw [ht] at hP1
    obtain ⟨hP, hD⟩ := va_join (wr := [(pa, .inr (3, [.ref p_v, .int 0, .ref p_st, .ref p_ib, .ref p_di, .ref p_wa, .ref p_se, .ref p_vh, .ref p_re])), (b0, .inl (cI, 6, .inl zi)), (b1, .inl (cZ, 6, .inl zi)), (b4, .inl (cI, 4, .inl zi)), (p_v, .inl (cI, 4, .inl zi)), (p_st, .inl (cI, 4, .inl zi)), (p_ib, .inl (cZ, 4, .inl zi)), (p_di, .inl (cI, 4, .inl zi)), (p_wa, .inl (cI, 4, .inl zi)), (p_se, .inl (cI, 4, .inl zi)), (ou, .inl (cJ, 1, .inr (.inl zl))), (od, .inl (cD, 1, .inr (.inr (.inr (.inl zd)))))]) (w1 := [(mm, .inr (10, [.int 1, .ref pl, .ref ig, .ref sl, .ref kl, .int 0, .int 0, .int 0]))]) hP hD [10, 11, 12, 13] [0, 1, 2, 3, 4, 5, 6, 7, 8, 9, 14, 15] rfl rfl (by decide) (by decide) hk1 hFc hP1 hD1
    generalize H1 = H at hP hS ⊢
    have hP : va_P (dC, dI) vwCl [(pa, .inr (3, [.ref p_v, .int 0, .ref p_st, .ref p_ib, .ref p_di, .ref p_wa, .ref p_se, .ref p_vh, .ref p_re])), (b0, .inl (cI, 6, .inl zi)), (b1, .inl (cZ, 6, .inl zi)), (b4, .inl (cI, 4, .inl zi)), (p_v, .inl (cI, 4, .inl zi)), (p_st, .inl (cI, 4, .inl zi)), (p_ib, .inl (cZ, 4, .inl zi)), (p_di, .inl (cI, 4, .inl zi)), (p_wa, .inl (cI, 4, .inl zi)), (p_se, .inl (cI, 4, .inl zi)), (ou, .inl (cJ, 1, .inr (.inl zl))), (od, .inl (cD, 1, .inr (.inr (.inr (.inl zd))))), (mm, .inr (10, [.int 1, .ref pl, .ref ig, .ref sl, .ref kl, .int 0, .int 0, .int 0]))] H := hP
    have hD : va_D A [(pa, .inr (3, [.ref p_v, .int 0, .ref p_st, .ref p_ib, .ref p_di, .ref p_wa, .ref p_se, .ref p_vh, .ref p_re])), (b0, .inl (cI, 6, .inl zi)), (b1, .inl (cZ, 6, .inl zi)), (b4, .inl (cI, 4, .inl zi)), (p_v, .inl (cI, 4, .inl zi)), (p_st, .inl (cI, 4, .inl zi)), (p_ib, .inl (cZ, 4, .inl zi)), (p_di, .inl (cI, 4, .inl zi)), (p_wa, .inl (cI, 4, .inl zi)), (p_se, .inl (cI, 4, .inl zi)), (ou, .inl (cJ, 1, .inr (.inl zl))), (od, .inl (cD, 1, .inr (.inr (.inr (.inl zd))))), (mm, .inr (10, [.int 1, .ref pl, .ref ig, .ref sl, .ref kl, .int 0, .int 0, .int 0]))] := hD
    refine W.widen (k := 119) (n := 756) (Nat.le_refl _) (Nat.le_refl _) ?_
    have hw : r_16 = 0 := hw
    subst hw
    refine lv_istore (lv' := [(7, .int 0), (6, .int 1), (5, .int 0), (4, .ref od), (3, .ref ou), (2, .ref mm), (1, .ref x), (0, .ref b)]) hx hb dL_law_1395 hl (by decide) rfl (fun ls hl => ?_)
    refine lv_aload_n hx hb dL_law_1397 rfl (lv_at hl 5 rfl) ?_
    have hPc := hP.sub (ws' := [(mm, .inr (10, [.int 1, .ref pl, .ref ig, .ref sl, .ref kl, .int 0, .int 0, .int 0]))]) [12] rfl
    have hDc := hD.sub (ws' := [(mm, .inr (10, [.int 1, .ref pl, .ref ig, .ref sl, .ref kl, .int 0, .int 0, .int 0]))]) [12] (by decide) rfl
    have hKc := hK.sub (tys' := []) [] rfl
    have hFc := va_free (wc := [(mm, .inr (10, [.int 1, .ref pl, .ref ig, .ref sl, .ref kl, .int 0, .int 0, .int 0]))]) hD hS hA [12] rfl
    refine va_calli (va_runV (As := []) (rest := []) ⟨hx, hb, hml, hown, hts⟩ (c_X8_thrown l dC dI mm pl ig sl kl (1 : Int32) (0 : Int32) (0 : Int32) (0 : Int32) _ ) (cwV 0 hts gL_law_X8_thrown rfl rfl rfl (by decide +kernel) ⟨Nat.le_of_ble_eq_true rfl, Nat.le_of_ble_eq_true rfl⟩) ⟨pr_blind, va_recv hKc hPc (ci := 10) (q0 := 0) rfl rfl, fun U hU hW => ⟨rfl, pr_mk hU hW hPc hKc hDc⟩⟩ rfl rfl hl.1 rfl (lv_room (Nat.le_of_ble_eq_true rfl)) dL_law_1398 ⟨Nat.le_of_ble_eq_true rfl, Nat.le_of_ble_eq_true rfl⟩) hS (fun q _ h => hFc q h) hFc (fun r_18 u_17 t H1 locs ht hvm hw hB hz1 hk1 hS => ?_)
    obtain ⟨hP1, hK1, hD1⟩ := hB
    rw [ht] at hP1
    obtain ⟨hP, hD⟩ := va_join (wr := [(pa, .inr (3, [.ref p_v, .int 0, .ref p_st, .ref p_ib, .ref p_di, .ref p_wa, .ref p_se, .ref p_vh, .ref p_re])), (b0, .inl (cI, 6, .inl zi)), (b1, .inl (cZ, 6, .inl zi)), (b4, .inl (cI, 4, .inl zi)), (p_v, .inl (cI, 4, .inl zi)), (p_st, .inl (cI, 4, .inl zi)), (p_ib, .inl (cZ, 4, .inl zi)), (p_di, .inl (cI, 4, .inl zi)), (p_wa, .inl (cI, 4, .inl zi)), (p_se, .inl (cI, 4, .inl zi)), (ou, .inl (cJ, 1, .inr (.inl zl))), (od, .inl (cD, 1, .inr (.inr (.inr (.inl zd)))))]) (w1 := [(mm, .inr (10, [.int 1, .ref pl, .ref ig, .ref sl, .ref kl, .int 0, .int 0, .int 0]))]) hP hD [12] [0, 1, 2, 3, 4, 5, 6, 7, 8, 9, 10, 11] rfl rfl (by decide) (by decide) hk1 hFc hP1 hD1
    generalize H1 = H at hP hS ⊢
    have hP : va_P (dC, dI) vwCl [(pa, .inr (3, [.ref p_v, .int 0, .ref p_st, .ref p_ib, .ref p_di, .ref p_wa, .ref p_se, .ref p_vh, .ref p_re])), (b0, .inl (cI, 6, .inl zi)), (b1, .inl (cZ, 6, .inl zi)), (b4, .inl (cI, 4, .inl zi)), (p_v, .inl (cI, 4, .inl zi)), (p_st, .inl (cI, 4, .inl zi)), (p_ib, .inl (cZ, 4, .inl zi)), (p_di, .inl (cI, 4, .inl zi)), (p_wa, .inl (cI, 4, .inl zi)), (p_se, .inl (cI, 4, .inl zi)), (ou, .inl (cJ, 1, .inr (.inl zl))), (od, .inl (cD, 1, .inr (.inr (.inr (.inl zd))))), (mm, .inr (10, [.int 1, .ref pl, .ref ig, .ref sl, .ref kl, .int 0, .int 0, .int 0]))] H := hP
    have hD : va_D A [(pa, .inr (3, [.ref p_v, .int 0, .ref p_st, .ref p_ib, .ref p_di, .ref p_wa, .ref p_se, .ref p_vh, .ref p_re])), (b0, .inl (cI, 6, .inl zi)), (b1, .inl (cZ, 6, .inl zi)), (b4, .inl (cI, 4, .inl zi)), (p_v, .inl (cI, 4, .inl zi)), (p_st, .inl (cI, 4, .inl zi)), (p_ib, .inl (cZ, 4, .inl zi)), (p_di, .inl (cI, 4, .inl zi)), (p_wa, .inl (cI, 4, .inl zi)), (p_se, .inl (cI, 4, .inl zi)), (ou, .inl (cJ, 1, .inr (.inl zl))), (od, .inl (cD, 1, .inr (.inr (.inr (.inl zd))))), (mm, .inr (10, [.int 1, .ref pl, .ref ig, .ref sl, .ref kl, .int 0, .int 0, .int 0]))] := hD
    refine W.widen (k := 119) (n := 756) (Nat.le_refl _) (Nat.le_refl _) ?_
    have hw : r_18 = 1 := hw
    subst hw
    refine lv_iload hx hb dL_law_1401 (lv_at hl 1 rfl) ?_
    refine lv_icmp_eq (tgt := 1408) hx hb dL_law_1403 (by decide) (fun _ => ?_) (fun h9 => absurd h9 (by decide))
    refine lv_iload hx hb dL_law_1408 (lv_at hl 1 rfl) ?_
    refine lv_if_ne (tgt := 1425) hx hb dL_law_1410 (by decide) (fun _ => ?_) (fun h9 => absurd h9 (by decide))
    refine lv_goto (tgt := 2007) hx hb dL_law_1425 (by decide) ?_
    exact law_tail l C0 hAe hS (lv_sub hl [2, 7] rfl) (Nat.le_of_ble_eq_true rfl) (Nat.le_of_ble_eq_true rfl)
  · have hG0 : ¬ a1 < 0 := fun h => hB0 (Or.inl h)
    have hH0 : ¬ 4 ≤ a1 := fun h => hB0 (Or.inr h)
    have hN0 : ¬ 3 < a1 := gP_g hH0
    by_cases hB1 : a2 < 1 ∨ ¬ a2 ≤ 60
    · have hM1 : a2 < 1 ∨ 60 < a2 := gN_b hB1
      refine lv_aload_n hx hb dL_law_1348 rfl (lv_at hl 4 rfl) ?_
      refine lv_aload_n hx hb dL_law_1349 rfl (lv_at hl 5 rfl) ?_
      refine lv_iload hx hb dL_law_1350 (lv_at hl 0 rfl) ?_
      refine lv_iconst (v := 1) hx hb dL_law_1352 (by decide) ?_
      refine lv_iadd hx hb dL_law_1353 ?_
      refine lv_topi (fun y_19 ey_19 => ?_)
      obtain rfl : y_19 = 1 := ey_19.trans (by decide)
      refine va_sld hx hb hX hbl hbA hS (by unfold vp_in; decide) dL_law_1354 ?_
      refine lv_topi (fun y_20 ey_20 => ?_)
      obtain rfl : a1 = y_20 := (ey_20.trans h_a1.symm).symm
      refine lv_aload_n hx hb dL_law_1355 rfl (lv_at hl 5 rfl) ?_
      refine lv_iload hx hb dL_law_1356 (lv_at hl 0 rfl) ?_
      refine lv_iconst (v := 2) hx hb dL_law_1358 (by decide) ?_
      refine lv_iadd hx hb dL_law_1359 ?_
      refine lv_topi (fun y_21 ey_21 => ?_)
      obtain rfl : y_21 = 2 := ey_21.trans (by decide)
      refine va_sld hx hb hX hbl hbA hS (by unfold vp_in; decide) dL_law_1360 ?_
      refine lv_topi (fun y_22 ey_22 => ?_)
      obtain rfl : a2 = y_22 := (ey_22.trans h_a2.symm).symm
      refine lv_aload_n hx hb dL_law_1361 rfl (lv_at hl 5 rfl) ?_
      refine lv_iload hx hb dL_law_1362 (lv_at hl 0 rfl) ?_
      refine lv_iconst (v := 3) hx hb dL_law_1364 (by decide) ?_
      refine lv_iadd hx hb dL_law_1365 ?_
      refine lv_topi (fun y_23 ey_23 => ?_)
      obtain rfl : y_23 = 3 := ey_23.trans (by decide)
      refine va_sld hx hb hX hbl hbA hS (by unfold vp_in; decide) dL_law_1366 ?_
      refine lv_topi (fun y_24 ey_24 => ?_)
      obtain rfl : a3 = y_24 := (ey_24.trans h_a3.symm).symm
      refine lv_aload_n hx hb dL_law_1367 rfl (lv_at hl 2 rfl) ?_
      have hPc := hP.sub (ws' := [(x, .inr (7, [.ref bx, .ref po, .ref tr, .ref pa, .ref sp])), (bx, .inr (2, [.ref b0, .ref b1, .int 0, .int 0, .ref b4, .int 0, .ref b6, .int 0, .int 0, .int 0, .int 0]))]) [0, 1] rfl
      have hDc := hD.sub (ws' := [(x, .inr (7, [.ref bx, .ref po, .ref tr, .ref pa, .ref sp])), (bx, .inr (2, [.ref b0, .ref b1, .int 0, .int 0, .ref b4, .int 0, .ref b6, .int 0, .int 0, .int 0, .int 0]))]) [0, 1] (by decide) rfl
      have hKc := hK.sub (tys' := []) [] rfl
      have hFc := va_free (wc := [(x, .inr (7, [.ref bx, .ref po, .ref tr, .ref pa, .ref sp])), (bx, .inr (2, [.ref b0, .ref b1, .int 0, .int 0, .ref b4, .int 0, .ref b6, .int 0, .int 0, .int 0, .int 0]))]) hD hS hA [0, 1] rfl
      refine va_calli (vx_runSW (As := [.ref x, .int a1, .int a2, .int a3, .ref ou]) (rest := []) ⟨hx, hb, hml, hown, hts⟩ (h1_L_share l hfl dC dI x po tr sp pa bx b0 b1 b4 b6 a1 a2 a3 ou ((lx_s312 hLX).choose) ((lx_s312 hLX).choose_spec.choose) _ hG0 hH0 hB1) (vx_cwSW 5 hts gL_law_L_share rfl rfl rfl (by decide +kernel) ⟨Nat.le_of_ble_eq_true rfl, Nat.le_of_ble_eq_true rfl⟩) ⟨pn_blind (fun U g mk a h => ⟨nc_bl U g mk a h.1, trivial⟩), fun U hU hW => ⟨rfl, pr_mk hU hW hPc hKc hDc, xs_mk hU hW hS hFc (lx_xa hLX (lx_s312 hLX).choose_spec.choose_spec), ⟨va_Nc.moved hW.alike (lx_n hLX), trivial⟩⟩⟩ rfl rfl hl.1 rfl (lv_room (Nat.le_of_ble_eq_true rfl)) dL_law_1368 ⟨Nat.le_of_ble_eq_true rfl, Nat.le_of_ble_eq_true rfl⟩) hS (fun q _ h => hFc q h) hFc (fun r_26 u_25 t H1 locs ht hvm hw hB hz1 hk1 hS => ?_)
      obtain ⟨hP1, hK1, hD1⟩ := hB
      rw [ht] at hP1
      obtain ⟨hP, hD⟩ := va_join (wr := [(pa, .inr (3, [.ref p_v, .int 0, .ref p_st, .ref p_ib, .ref p_di, .ref p_wa, .ref p_se, .ref p_vh, .ref p_re])), (b0, .inl (cI, 6, .inl zi)), (b1, .inl (cZ, 6, .inl zi)), (b4, .inl (cI, 4, .inl zi)), (p_v, .inl (cI, 4, .inl zi)), (p_st, .inl (cI, 4, .inl zi)), (p_ib, .inl (cZ, 4, .inl zi)), (p_di, .inl (cI, 4, .inl zi)), (p_wa, .inl (cI, 4, .inl zi)), (p_se, .inl (cI, 4, .inl zi)), (mm, .inr (10, [.int 0, .ref pl, .ref ig, .ref sl, .ref kl, .int 0, .int 0, .int 0])), (pl, .inr (1, [.int 0, .ref dz, .int 0])), (sl, .inr (1, [.int 0, .ref dz, .int 0])), (kl, .inr (1, [.int 0, .ref dz, .int 0])), (ou, .inl (cJ, 1, .inr (.inl zl))), (od, .inl (cD, 1, .inr (.inr (.inr (.inl zd)))))]) (w1 := []) hP hD [0, 1] [2, 3, 4, 5, 6, 7, 8, 9, 10, 11, 12, 13, 14, 15, 16, 17] rfl rfl (by decide) (by decide) hk1 hFc hP1 hD1
      generalize H1 = H at hP hS ⊢
      have hP : va_P (dC, dI) vwCl [(pa, .inr (3, [.ref p_v, .int 0, .ref p_st, .ref p_ib, .ref p_di, .ref p_wa, .ref p_se, .ref p_vh, .ref p_re])), (b0, .inl (cI, 6, .inl zi)), (b1, .inl (cZ, 6, .inl zi)), (b4, .inl (cI, 4, .inl zi)), (p_v, .inl (cI, 4, .inl zi)), (p_st, .inl (cI, 4, .inl zi)), (p_ib, .inl (cZ, 4, .inl zi)), (p_di, .inl (cI, 4, .inl zi)), (p_wa, .inl (cI, 4, .inl zi)), (p_se, .inl (cI, 4, .inl zi)), (mm, .inr (10, [.int 0, .ref pl, .ref ig, .ref sl, .ref kl, .int 0, .int 0, .int 0])), (pl, .inr (1, [.int 0, .ref dz, .int 0])), (sl, .inr (1, [.int 0, .ref dz, .int 0])), (kl, .inr (1, [.int 0, .ref dz, .int 0])), (ou, .inl (cJ, 1, .inr (.inl zl))), (od, .inl (cD, 1, .inr (.inr (.inr (.inl zd)))))] H := hP
      have hD : va_D A [(pa, .inr (3, [.ref p_v, .int 0, .ref p_st, .ref p_ib, .ref p_di, .ref p_wa, .ref p_se, .ref p_vh, .ref p_re])), (b0, .inl (cI, 6, .inl zi)), (b1, .inl (cZ, 6, .inl zi)), (b4, .inl (cI, 4, .inl zi)), (p_v, .inl (cI, 4, .inl zi)), (p_st, .inl (cI, 4, .inl zi)), (p_ib, .inl (cZ, 4, .inl zi)), (p_di, .inl (cI, 4, .inl zi)), (p_wa, .inl (cI, 4, .inl zi)), (p_se, .inl (cI, 4, .inl zi)), (mm, .inr (10, [.int 0, .ref pl, .ref ig, .ref sl, .ref kl, .int 0, .int 0, .int 0])), (pl, .inr (1, [.int 0, .ref dz, .int 0])), (sl, .inr (1, [.int 0, .ref dz, .int 0])), (kl, .inr (1, [.int 0, .ref dz, .int 0])), (ou, .inl (cJ, 1, .inr (.inl zl))), (od, .inl (cD, 1, .inr (.inr (.inr (.inl zd)))))] := hD
      refine W.widen (k := 119) (n := 756) (Nat.le_of_ble_eq_true rfl) (Nat.le_of_ble_eq_true rfl) ?_
      have hw : r_26 = 2 := hw
      subst hw
      refine lv_istore (lv' := [(6, .int 2), (5, .int 0), (4, .ref od), (3, .ref ou), (2, .ref mm), (1, .ref x), (0, .ref b)]) hx hb dL_law_1371 hl (by decide) rfl (fun ls hl => ?_)
      refine lv_aload_n hx hb dL_law_1373 rfl (lv_at hl 4 rfl) ?_
      refine lv_aload_n hx hb dL_law_1374 rfl (lv_at hl 6 rfl) ?_
      refine lv_iload hx hb dL_law_1375 (lv_at hl 1 rfl) ?_
      refine lv_iconst (v := 1) hx hb dL_law_1377 (by decide) ?_
      refine lv_iadd hx hb dL_law_1378 ?_
      refine lv_topi (fun y_27 ey_27 => ?_)
      obtain rfl : y_27 = 1 := ey_27.trans (by decide)
      refine va_sld hx hb hX hbl hbA hS (by unfold vp_in; decide) dL_law_1379 ?_
      refine lv_topi (fun y_28 ey_28 => ?_)
      obtain rfl : a1 = y_28 := (ey_28.trans h_a1.symm).symm
      refine lv_aload_n hx hb dL_law_1380 rfl (lv_at hl 6 rfl) ?_
      refine lv_iload hx hb dL_law_1381 (lv_at hl 1 rfl) ?_
      refine lv_iconst (v := 2) hx hb dL_law_1383 (by decide) ?_
      refine lv_iadd hx hb dL_law_1384 ?_
      refine lv_topi (fun y_29 ey_29 => ?_)
      obtain rfl : y_29 = 2 := ey_29.trans (by decide)
      refine va_sld hx hb hX hbl hbA hS (by unfold vp_in; decide) dL_law_1385 ?_
      refine lv_topi (fun y_30 ey_30 => ?_)
      obtain rfl : a2 = y_30 := (ey_30.trans h_a2.symm).symm
      refine lv_aload_n hx hb dL_law_1386 rfl (lv_at hl 6 rfl) ?_
      refine lv_iload hx hb dL_law_1387 (lv_at hl 1 rfl) ?_
      refine lv_iconst (v := 3) hx hb dL_law_1389 (by decide) ?_
      refine lv_iadd hx hb dL_law_1390 ?_
      refine lv_topi (fun y_31 ey_31 => ?_)
      obtain rfl : y_31 = 3 := ey_31.trans (by decide)
      refine va_sld hx hb hX hbl hbA hS (by unfold vp_in; decide) dL_law_1391 ?_
      refine lv_topi (fun y_32 ey_32 => ?_)
      obtain rfl : a3 = y_32 := (ey_32.trans h_a3.symm).symm
      have hPc := hP.sub (ws' := [(mm, .inr (10, [.int 0, .ref pl, .ref ig, .ref sl, .ref kl, .int 0, .int 0, .int 0])), (pl, .inr (1, [.int 0, .ref dz, .int 0])), (sl, .inr (1, [.int 0, .ref dz, .int 0])), (kl, .inr (1, [.int 0, .ref dz, .int 0]))]) [10, 11, 12, 13] rfl
      have hDc := hD.sub (ws' := [(mm, .inr (10, [.int 0, .ref pl, .ref ig, .ref sl, .ref kl, .int 0, .int 0, .int 0])), (pl, .inr (1, [.int 0, .ref dz, .int 0])), (sl, .inr (1, [.int 0, .ref dz, .int 0])), (kl, .inr (1, [.int 0, .ref dz, .int 0]))]) [10, 11, 12, 13] (by decide) rfl
      have hKc := hK.sub (tys' := []) [] rfl
      have hFc := va_free (wc := [(mm, .inr (10, [.int 0, .ref pl, .ref ig, .ref sl, .ref kl, .int 0, .int 0, .int 0])), (pl, .inr (1, [.int 0, .ref dz, .int 0])), (sl, .inr (1, [.int 0, .ref dz, .int 0])), (kl, .inr (1, [.int 0, .ref dz, .int 0]))]) hD hS hA [10, 11, 12, 13] rfl
      refine va_calli (va_runV (As := [.int a1, .int a2, .int a3]) (rest := []) ⟨hx, hb, hml, hown, hts⟩ (c1_X8_share l dC dI mm pl ig sl kl dz a1 a2 a3 _ hG0 hN0 hM1) (cwV 3 hts gL_law_X8_share rfl rfl rfl (by decide +kernel) ⟨Nat.le_of_ble_eq_true rfl, Nat.le_of_ble_eq_true rfl⟩) ⟨pe_blind mo_bl, va_recv hKc hPc (ci := 10) (q0 := 0) rfl rfl, fun U hU hW => ⟨rfl, pr_mk hU hW hPc hKc hDc, mo_mk hW (lx_m hLX)⟩⟩ rfl rfl hl.1 rfl (lv_room (Nat.le_of_ble_eq_true rfl)) dL_law_1392 ⟨Nat.le_of_ble_eq_true rfl, Nat.le_of_ble_eq_true rfl⟩) hS (fun q _ h => hFc q h) hFc (fun r_34 u_33 t H1 locs ht hvm hw hB hz1 hk1 hS => ?_)
      obtain ⟨hP1, hK1, hD1⟩ := hB
      rw [ht] at hP1
      obtain ⟨hP, hD⟩ := va_join (wr := [(pa, .inr (3, [.ref p_v, .int 0, .ref p_st, .ref p_ib, .ref p_di, .ref p_wa, .ref p_se, .ref p_vh, .ref p_re])), (b0, .inl (cI, 6, .inl zi)), (b1, .inl (cZ, 6, .inl zi)), (b4, .inl (cI, 4, .inl zi)), (p_v, .inl (cI, 4, .inl zi)), (p_st, .inl (cI, 4, .inl zi)), (p_ib, .inl (cZ, 4, .inl zi)), (p_di, .inl (cI, 4, .inl zi)), (p_wa, .inl (cI, 4, .inl zi)), (p_se, .inl (cI, 4, .inl zi)), (ou, .inl (cJ, 1, .inr (.inl zl))), (od, .inl (cD, 1, .inr (.inr (.inr (.inl zd)))))]) (w1 := [(mm, .inr (10, [.int 2, .ref pl, .ref ig, .ref sl, .ref kl, .int 0, .int 0, .int 0]))]) hP hD [10, 11, 12, 13] [0, 1, 2, 3, 4, 5, 6, 7, 8, 9, 14, 15] rfl rfl (by decide) (by decide) hk1 hFc hP1 hD1
      generalize H1 = H at hP hS ⊢
      have hP : va_P (dC, dI) vwCl [(pa, .inr (3, [.ref p_v, .int 0, .ref p_st, .ref p_ib, .ref p_di, .ref p_wa, .ref p_se, .ref p_vh, .ref p_re])), (b0, .inl (cI, 6, .inl zi)), (b1, .inl (cZ, 6, .inl zi)), (b4, .inl (cI, 4, .inl zi)), (p_v, .inl (cI, 4, .inl zi)), (p_st, .inl (cI, 4, .inl zi)), (p_ib, .inl (cZ, 4, .inl zi)), (p_di, .inl (cI, 4, .inl zi)), (p_wa, .inl (cI, 4, .inl zi)), (p_se, .inl (cI, 4, .inl zi)), (ou, .inl (cJ, 1, .inr (.inl zl))), (od, .inl (cD, 1, .inr (.inr (.inr (.inl zd))))), (mm, .inr (10, [.int 2, .ref pl, .ref ig, .ref sl, .ref kl, .int 0, .int 0, .int 0]))] H := hP
      have hD : va_D A [(pa, .inr (3, [.ref p_v, .int 0, .ref p_st, .ref p_ib, .ref p_di, .ref p_wa, .ref p_se, .ref p_vh, .ref p_re])), (b0, .inl (cI, 6, .inl zi)), (b1, .inl (cZ, 6, .inl zi)), (b4, .inl (cI, 4, .inl zi)), (p_v, .inl (cI, 4, .inl zi)), (p_st, .inl (cI, 4, .inl zi)), (p_ib, .inl (cZ, 4, .inl zi)), (p_di, .inl (cI, 4, .inl zi)), (p_wa, .inl (cI, 4, .inl zi)), (p_se, .inl (cI, 4, .inl zi)), (ou, .inl (cJ, 1, .inr (.inl zl))), (od, .inl (cD, 1, .inr (.inr (.inr (.inl zd))))), (mm, .inr (10, [.int 2, .ref pl, .ref ig, .ref sl, .ref kl, .int 0, .int 0, .int 0]))] := hD
      refine W.widen (k := 119) (n := 756) (Nat.le_refl _) (Nat.le_refl _) ?_
      have hw : r_34 = 0 := hw
      subst hw
      refine lv_istore (lv' := [(7, .int 0), (6, .int 2), (5, .int 0), (4, .ref od), (3, .ref ou), (2, .ref mm), (1, .ref x), (0, .ref b)]) hx hb dL_law_1395 hl (by decide) rfl (fun ls hl => ?_)
      refine lv_aload_n hx hb dL_law_1397 rfl (lv_at hl 5 rfl) ?_
      have hPc := hP.sub (ws' := [(mm, .inr (10, [.int 2, .ref pl, .ref ig, .ref sl, .ref kl, .int 0, .int 0, .int 0]))]) [12] rfl
      have hDc := hD.sub (ws' := [(mm, .inr (10, [.int 2, .ref pl, .ref ig, .ref sl, .ref kl, .int 0, .int 0, .int 0]))]) [12] (by decide) rfl
      have hKc := hK.sub (tys' := []) [] rfl
      have hFc := va_free (wc := [(mm, .inr (10, [.int 2, .ref pl, .ref ig, .ref sl, .ref kl, .int 0, .int 0, .int 0]))]) hD hS hA [12] rfl
      refine va_calli (va_runV (As := []) (rest := []) ⟨hx, hb, hml, hown, hts⟩ (c_X8_thrown l dC dI mm pl ig sl kl (2 : Int32) (0 : Int32) (0 : Int32) (0 : Int32) _ ) (cwV 0 hts gL_law_X8_thrown rfl rfl rfl (by decide +kernel) ⟨Nat.le_of_ble_eq_true rfl, Nat.le_of_ble_eq_true rfl⟩) ⟨pr_blind, va_recv hKc hPc (ci := 10) (q0 := 0) rfl rfl, fun U hU hW => ⟨rfl, pr_mk hU hW hPc hKc hDc⟩⟩ rfl rfl hl.1 rfl (lv_room (Nat.le_of_ble_eq_true rfl)) dL_law_1398 ⟨Nat.le_of_ble_eq_true rfl, Nat.le_of_ble_eq_true rfl⟩) hS (fun q _ h => hFc q h) hFc (fun r_36 u_35 t H1 locs ht hvm hw hB hz1 hk1 hS => ?_)
      obtain ⟨hP1, hK1, hD1⟩ := hB
      rw [ht] at hP1
      obtain ⟨hP, hD⟩ := va_join (wr := [(pa, .inr (3, [.ref p_v, .int 0, .ref p_st, .ref p_ib, .ref p_di, .ref p_wa, .ref p_se, .ref p_vh, .ref p_re])), (b0, .inl (cI, 6, .inl zi)), (b1, .inl (cZ, 6, .inl zi)), (b4, .inl (cI, 4, .inl zi)), (p_v, .inl (cI, 4, .inl zi)), (p_st, .inl (cI, 4, .inl zi)), (p_ib, .inl (cZ, 4, .inl zi)), (p_di, .inl (cI, 4, .inl zi)), (p_wa, .inl (cI, 4, .inl zi)), (p_se, .inl (cI, 4, .inl zi)), (ou, .inl (cJ, 1, .inr (.inl zl))), (od, .inl (cD, 1, .inr (.inr (.inr (.inl zd)))))]) (w1 := [(mm, .inr (10, [.int 2, .ref pl, .ref ig, .ref sl, .ref kl, .int 0, .int 0, .int 0]))]) hP hD [12] [0, 1, 2, 3, 4, 5, 6, 7, 8, 9, 10, 11] rfl rfl (by decide) (by decide) hk1 hFc hP1 hD1
      generalize H1 = H at hP hS ⊢
      have hP : va_P (dC, dI) vwCl [(pa, .inr (3, [.ref p_v, .int 0, .ref p_st, .ref p_ib, .ref p_di, .ref p_wa, .ref p_se, .ref p_vh, .ref p_re])), (b0, .inl (cI, 6, .inl zi)), (b1, .inl (cZ, 6, .inl zi)), (b4, .inl (cI, 4, .inl zi)), (p_v, .inl (cI, 4, .inl zi)), (p_st, .inl (cI, 4, .inl zi)), (p_ib, .inl (cZ, 4, .inl zi)), (p_di, .inl (cI, 4, .inl zi)), (p_wa, .inl (cI, 4, .inl zi)), (p_se, .inl (cI, 4, .inl zi)), (ou, .inl (cJ, 1, .inr (.inl zl))), (od, .inl (cD, 1, .inr (.inr (.inr (.inl zd))))), (mm, .inr (10, [.int 2, .ref pl, .ref ig, .ref sl, .ref kl, .int 0, .int 0, .int 0]))] H := hP
      have hD : va_D A [(pa, .inr (3, [.ref p_v, .int 0, .ref p_st, .ref p_ib, .ref p_di, .ref p_wa, .ref p_se, .ref p_vh, .ref p_re])), (b0, .inl (cI, 6, .inl zi)), (b1, .inl (cZ, 6, .inl zi)), (b4, .inl (cI, 4, .inl zi)), (p_v, .inl (cI, 4, .inl zi)), (p_st, .inl (cI, 4, .inl zi)), (p_ib, .inl (cZ, 4, .inl zi)), (p_di, .inl (cI, 4, .inl zi)), (p_wa, .inl (cI, 4, .inl zi)), (p_se, .inl (cI, 4, .inl zi)), (ou, .inl (cJ, 1, .inr (.inl zl))), (od, .inl (cD, 1, .inr (.inr (.inr (.inl zd))))), (mm, .inr (10, [.int 2, .ref pl, .ref ig, .ref sl, .ref kl, .int 0, .int 0, .int 0]))] := hD
      refine W.widen (k := 119) (n := 756) (Nat.le_refl _) (Nat.le_refl _) ?_
      have hw : r_36 = 2 := hw
      subst hw
      refine lv_iload hx hb dL_law_1401 (lv_at hl 1 rfl) ?_
      refine lv_icmp_eq (tgt := 1408) hx hb dL_law_1403 (by decide) (fun _ => ?_) (fun h9 => absurd h9 (by decide))
      refine lv_iload hx hb dL_law_1408 (lv_at hl 1 rfl) ?_
      refine lv_if_ne (tgt := 1425) hx hb dL_law_1410 (by decide) (fun _ => ?_) (fun h9 => absurd h9 (by decide))
      refine lv_goto (tgt := 2007) hx hb dL_law_1425 (by decide) ?_
      exact law_tail l C0 hAe hS (lv_sub hl [2, 7] rfl) (Nat.le_of_ble_eq_true rfl) (Nat.le_of_ble_eq_true rfl)
    · have hG1 : ¬ a2 < 1 := fun h => hB1 (Or.inl h)
      have hH1 : a2 ≤ 60 := Decidable.byContradiction (fun h => hB1 (Or.inr h))
      have hN1 : ¬ 60 < a2 := gN_g hH1
      by_cases hB2 : a3 < 0 ∨ ¬ a3 ≤ 2
      · have hM2 : a3 < 0 ∨ 2 < a3 := gN_b hB2
        refine lv_aload_n hx hb dL_law_1348 rfl (lv_at hl 4 rfl) ?_
        refine lv_aload_n hx hb dL_law_1349 rfl (lv_at hl 5 rfl) ?_
        refine lv_iload hx hb dL_law_1350 (lv_at hl 0 rfl) ?_
        refine lv_iconst (v := 1) hx hb dL_law_1352 (by decide) ?_
        refine lv_iadd hx hb dL_law_1353 ?_
        refine lv_topi (fun y_37 ey_37 => ?_)
        obtain rfl : y_37 = 1 := ey_37.trans (by decide)
        refine va_sld hx hb hX hbl hbA hS (by unfold vp_in; decide) dL_law_1354 ?_
        refine lv_topi (fun y_38 ey_38 => ?_)
        obtain rfl : a1 = y_38 := (ey_38.trans h_a1.symm).symm
        refine lv_aload_n hx hb dL_law_1355 rfl (lv_at hl 5 rfl) ?_
        refine lv_iload hx hb dL_law_1356 (lv_at hl 0 rfl) ?_
        refine lv_iconst (v := 2) hx hb dL_law_1358 (by decide) ?_
        refine lv_iadd hx hb dL_law_1359 ?_
        refine lv_topi (fun y_39 ey_39 => ?_)
        obtain rfl : y_39 = 2 := ey_39.trans (by decide)
        refine va_sld hx hb hX hbl hbA hS (by unfold vp_in; decide) dL_law_1360 ?_
        refine lv_topi (fun y_40 ey_40 => ?_)
        obtain rfl : a2 = y_40 := (ey_40.trans h_a2.symm).symm
        refine lv_aload_n hx hb dL_law_1361 rfl (lv_at hl 5 rfl) ?_
        refine lv_iload hx hb dL_law_1362 (lv_at hl 0 rfl) ?_
        refine lv_iconst (v := 3) hx hb dL_law_1364 (by decide) ?_
        refine lv_iadd hx hb dL_law_1365 ?_
        refine lv_topi (fun y_41 ey_41 => ?_)
        obtain rfl : y_41 = 3 := ey_41.trans (by decide)
        refine va_sld hx hb hX hbl hbA hS (by unfold vp_in; decide) dL_law_1366 ?_
        refine lv_topi (fun y_42 ey_42 => ?_)
        obtain rfl : a3 = y_42 := (ey_42.trans h_a3.symm).symm
        refine lv_aload_n hx hb dL_law_1367 rfl (lv_at hl 2 rfl) ?_
        have hPc := hP.sub (ws' := [(x, .inr (7, [.ref bx, .ref po, .ref tr, .ref pa, .ref sp])), (bx, .inr (2, [.ref b0, .ref b1, .int 0, .int 0, .ref b4, .int 0, .ref b6, .int 0, .int 0, .int 0, .int 0]))]) [0, 1] rfl
        have hDc := hD.sub (ws' := [(x, .inr (7, [.ref bx, .ref po, .ref tr, .ref pa, .ref sp])), (bx, .inr (2, [.ref b0, .ref b1, .int 0, .int 0, .ref b4, .int 0, .ref b6, .int 0, .int 0, .int 0, .int 0]))]) [0, 1] (by decide) rfl
        have hKc := hK.sub (tys' := []) [] rfl
        have hFc := va_free (wc := [(x, .inr (7, [.ref bx, .ref po, .ref tr, .ref pa, .ref sp])), (bx, .inr (2, [.ref b0, .ref b1, .int 0, .int 0, .ref b4, .int 0, .ref b6, .int 0, .int 0, .int 0, .int 0]))]) hD hS hA [0, 1] rfl
        refine va_calli (vx_runSW (As := [.ref x, .int a1, .int a2, .int a3, .ref ou]) (rest := []) ⟨hx, hb, hml, hown, hts⟩ (h2_L_share l hfl dC dI x po tr sp pa bx b0 b1 b4 b6 a1 a2 a3 ou ((lx_s314 hLX).choose) ((lx_s314 hLX).choose_spec.choose) _ hG0 hH0 hG1 hH1 hB2) (vx_cwSW 5 hts gL_law_L_share rfl rfl rfl (by decide +kernel) ⟨Nat.le_of_ble_eq_true rfl, Nat.le_of_ble_eq_true rfl⟩) ⟨pn_blind (fun U g mk a h => ⟨nc_bl U g mk a h.1, trivial⟩), fun U hU hW => ⟨rfl, pr_mk hU hW hPc hKc hDc, xs_mk hU hW hS hFc (lx_xa hLX (lx_s314 hLX).choose_spec.choose_spec), ⟨va_Nc.moved hW.alike (lx_n hLX), trivial⟩⟩⟩ rfl rfl hl.1 rfl (lv_room (Nat.le_of_ble_eq_true rfl)) dL_law_1368 ⟨Nat.le_of_ble_eq_true rfl, Nat.le_of_ble_eq_true rfl⟩) hS (fun q _ h => hFc q h) hFc (fun r_44 u_43 t H1 locs ht hvm hw hB hz1 hk1 hS => ?_)
        obtain ⟨hP1, hK1, hD1⟩ := hB
        rw [ht] at hP1
        obtain ⟨hP, hD⟩ := va_join (wr := [(pa, .inr (3, [.ref p_v, .int 0, .ref p_st, .ref p_ib, .ref p_di, .ref p_wa, .ref p_se, .ref p_vh, .ref p_re])), (b0, .inl (cI, 6, .inl zi)), (b1, .inl (cZ, 6, .inl zi)), (b4, .inl (cI, 4, .inl zi)), (p_v, .inl (cI, 4, .inl zi)), (p_st, .inl (cI, 4, .inl zi)), (p_ib, .inl (cZ, 4, .inl zi)), (p_di, .inl (cI, 4, .inl zi)), (p_wa, .inl (cI, 4, .inl zi)), (p_se, .inl (cI, 4, .inl zi)), (mm, .inr (10, [.int 0, .ref pl, .ref ig, .ref sl, .ref kl, .int 0, .int 0, .int 0])), (pl, .inr (1, [.int 0, .ref dz, .int 0])), (sl, .inr (1, [.int 0, .ref dz, .int 0])), (kl, .inr (1, [.int 0, .ref dz, .int 0])), (ou, .inl (cJ, 1, .inr (.inl zl))), (od, .inl (cD, 1, .inr (.inr (.inr (.inl zd)))))]) (w1 := []) hP hD [0, 1] [2, 3, 4, 5, 6, 7, 8, 9, 10, 11, 12, 13, 14, 15, 16, 17] rfl rfl (by decide) (by decide) hk1 hFc hP1 hD1
        generalize H1 = H at hP hS ⊢
        have hP : va_P (dC, dI) vwCl [(pa, .inr (3, [.ref p_v, .int 0, .ref p_st, .ref p_ib, .ref p_di, .ref p_wa, .ref p_se, .ref p_vh, .ref p_re])), (b0, .inl (cI, 6, .inl zi)), (b1, .inl (cZ, 6, .inl zi)), (b4, .inl (cI, 4, .inl zi)), (p_v, .inl (cI, 4, .inl zi)), (p_st, .inl (cI, 4, .inl zi)), (p_ib, .inl (cZ, 4, .inl zi)), (p_di, .inl (cI, 4, .inl zi)), (p_wa, .inl (cI, 4, .inl zi)), (p_se, .inl (cI, 4, .inl zi)), (mm, .inr (10, [.int 0, .ref pl, .ref ig, .ref sl, .ref kl, .int 0, .int 0, .int 0])), (pl, .inr (1, [.int 0, .ref dz, .int 0])), (sl, .inr (1, [.int 0, .ref dz, .int 0])), (kl, .inr (1, [.int 0, .ref dz, .int 0])), (ou, .inl (cJ, 1, .inr (.inl zl))), (od, .inl (cD, 1, .inr (.inr (.inr (.inl zd)))))] H := hP
        have hD : va_D A [(pa, .inr (3, [.ref p_v, .int 0, .ref p_st, .ref p_ib, .ref p_di, .ref p_wa, .ref p_se, .ref p_vh, .ref p_re])), (b0, .inl (cI, 6, .inl zi)), (b1, .inl (cZ, 6, .inl zi)), (b4, .inl (cI, 4, .inl zi)), (p_v, .inl (cI, 4, .inl zi)), (p_st, .inl (cI, 4, .inl zi)), (p_ib, .inl (cZ, 4, .inl zi)), (p_di, .inl (cI, 4, .inl zi)), (p_wa, .inl (cI, 4, .inl zi)), (p_se, .inl (cI, 4, .inl zi)), (mm, .inr (10, [.int 0, .ref pl, .ref ig, .ref sl, .ref kl, .int 0, .int 0, .int 0])), (pl, .inr (1, [.int 0, .ref dz, .int 0])), (sl, .inr (1, [.int 0, .ref dz, .int 0])), (kl, .inr (1, [.int 0, .ref dz, .int 0])), (ou, .inl (cJ, 1, .inr (.inl zl))), (od, .inl (cD, 1, .inr (.inr (.inr (.inl zd)))))] := hD
        refine W.widen (k := 119) (n := 756) (Nat.le_of_ble_eq_true rfl) (Nat.le_of_ble_eq_true rfl) ?_
        have hw : r_44 = 2 := hw
        subst hw
        refine lv_istore (lv' := [(6, .int 2), (5, .int 0), (4, .ref od), (3, .ref ou), (2, .ref mm), (1, .ref x), (0, .ref b)]) hx hb dL_law_1371 hl (by decide) rfl (fun ls hl => ?_)
        refine lv_aload_n hx hb dL_law_1373 rfl (lv_at hl 4 rfl) ?_
        refine lv_aload_n hx hb dL_law_1374 rfl (lv_at hl 6 rfl) ?_
        refine lv_iload hx hb dL_law_1375 (lv_at hl 1 rfl) ?_
        refine lv_iconst (v := 1) hx hb dL_law_1377 (by decide) ?_
        refine lv_iadd hx hb dL_law_1378 ?_
        refine lv_topi (fun y_45 ey_45 => ?_)
        obtain rfl : y_45 = 1 := ey_45.trans (by decide)
        refine va_sld hx hb hX hbl hbA hS (by unfold vp_in; decide) dL_law_1379 ?_
        refine lv_topi (fun y_46 ey_46 => ?_)
        obtain rfl : a1 = y_46 := (ey_46.trans h_a1.symm).symm
        refine lv_aload_n hx hb dL_law_1380 rfl (lv_at hl 6 rfl) ?_
        refine lv_iload hx hb dL_law_1381 (lv_at hl 1 rfl) ?_
        refine lv_iconst (v := 2) hx hb dL_law_1383 (by decide) ?_
        refine lv_iadd hx hb dL_law_1384 ?_
        refine lv_topi (fun y_47 ey_47 => ?_)
        obtain rfl : y_47 = 2 := ey_47.trans (by decide)
        refine va_sld hx hb hX hbl hbA hS (by unfold vp_in; decide) dL_law_1385 ?_
        refine lv_topi (fun y_48 ey_48 => ?_)
        obtain rfl : a2 = y_48 := (ey_48.trans h_a2.symm).symm
        refine lv_aload_n hx hb dL_law_1386 rfl (lv_at hl 6 rfl) ?_
        refine lv_iload hx hb dL_law_1387 (lv_at hl 1 rfl) ?_
        refine lv_iconst (v := 3) hx hb dL_law_1389 (by decide) ?_
        refine lv_iadd hx hb dL_law_1390 ?_
        refine lv_topi (fun y_49 ey_49 => ?_)
        obtain rfl : y_49 = 3 := ey_49.trans (by decide)
        refine va_sld hx hb hX hbl hbA hS (by unfold vp_in; decide) dL_law_1391 ?_
        refine lv_topi (fun y_50 ey_50 => ?_)
        obtain rfl : a3 = y_50 := (ey_50.trans h_a3.symm).symm
        have hPc := hP.sub (ws' := [(mm, .inr (10, [.int 0, .ref pl, .ref ig, .ref sl, .ref kl, .int 0, .int 0, .int 0])), (pl, .inr (1, [.int 0, .ref dz, .int 0])), (sl, .inr (1, [.int 0, .ref dz, .int 0])), (kl, .inr (1, [.int 0, .ref dz, .int 0]))]) [10, 11, 12, 13] rfl
        have hDc := hD.sub (ws' := [(mm, .inr (10, [.int 0, .ref pl, .ref ig, .ref sl, .ref kl, .int 0, .int 0, .int 0])), (pl, .inr (1, [.int 0, .ref dz, .int 0])), (sl, .inr (1, [.int 0, .ref dz, .int 0])), (kl, .inr (1, [.int 0, .ref dz, .int 0]))]) [10, 11, 12, 13] (by decide) rfl
        have hKc := hK.sub (tys' := []) [] rfl
        have hFc := va_free (wc := [(mm, .inr (10, [.int 0, .ref pl, .ref ig, .ref sl, .ref kl, .int 0, .int 0, .int 0])), (pl, .inr (1, [.int 0, .ref dz, .int 0])), (sl, .inr (1, [.int 0, .ref dz, .int 0])), (kl, .inr (1, [.int 0, .ref dz, .int 0]))]) hD hS hA [10, 11, 12, 13] rfl
        refine va_calli (va_runV (As := [.int a1, .int a2, .int a3]) (rest := []) ⟨hx, hb, hml, hown, hts⟩ (c2_X8_share l dC dI mm pl ig sl kl dz a1 a2 a3 _ hG0 hN0 hG1 hN1 hM2) (cwV 3 hts gL_law_X8_share rfl rfl rfl (by decide +kernel) ⟨Nat.le_of_ble_eq_true rfl, Nat.le_of_ble_eq_true rfl⟩) ⟨pe_blind mo_bl, va_recv hKc hPc (ci := 10) (q0 := 0) rfl rfl, fun U hU hW => ⟨rfl, pr_mk hU hW hPc hKc hDc, mo_mk hW (lx_m hLX)⟩⟩ rfl rfl hl.1 rfl (lv_room (Nat.le_of_ble_eq_true rfl)) dL_law_1392 ⟨Nat.le_of_ble_eq_true rfl, Nat.le_of_ble_eq_true rfl⟩) hS (fun q _ h => hFc q h) hFc (fun r_52 u_51 t H1 locs ht hvm hw hB hz1 hk1 hS => ?_)
        obtain ⟨hP1, hK1, hD1⟩ := hB
        rw [ht] at hP1
        obtain ⟨hP, hD⟩ := va_join (wr := [(pa, .inr (3, [.ref p_v, .int 0, .ref p_st, .ref p_ib, .ref p_di, .ref p_wa, .ref p_se, .ref p_vh, .ref p_re])), (b0, .inl (cI, 6, .inl zi)), (b1, .inl (cZ, 6, .inl zi)), (b4, .inl (cI, 4, .inl zi)), (p_v, .inl (cI, 4, .inl zi)), (p_st, .inl (cI, 4, .inl zi)), (p_ib, .inl (cZ, 4, .inl zi)), (p_di, .inl (cI, 4, .inl zi)), (p_wa, .inl (cI, 4, .inl zi)), (p_se, .inl (cI, 4, .inl zi)), (ou, .inl (cJ, 1, .inr (.inl zl))), (od, .inl (cD, 1, .inr (.inr (.inr (.inl zd)))))]) (w1 := [(mm, .inr (10, [.int 2, .ref pl, .ref ig, .ref sl, .ref kl, .int 0, .int 0, .int 0]))]) hP hD [10, 11, 12, 13] [0, 1, 2, 3, 4, 5, 6, 7, 8, 9, 14, 15] rfl rfl (by decide) (by decide) hk1 hFc hP1 hD1
        generalize H1 = H at hP hS ⊢
        have hP : va_P (dC, dI) vwCl [(pa, .inr (3, [.ref p_v, .int 0, .ref p_st, .ref p_ib, .ref p_di, .ref p_wa, .ref p_se, .ref p_vh, .ref p_re])), (b0, .inl (cI, 6, .inl zi)), (b1, .inl (cZ, 6, .inl zi)), (b4, .inl (cI, 4, .inl zi)), (p_v, .inl (cI, 4, .inl zi)), (p_st, .inl (cI, 4, .inl zi)), (p_ib, .inl (cZ, 4, .inl zi)), (p_di, .inl (cI, 4, .inl zi)), (p_wa, .inl (cI, 4, .inl zi)), (p_se, .inl (cI, 4, .inl zi)), (ou, .inl (cJ, 1, .inr (.inl zl))), (od, .inl (cD, 1, .inr (.inr (.inr (.inl zd))))), (mm, .inr (10, [.int 2, .ref pl, .ref ig, .ref sl, .ref kl, .int 0, .int 0, .int 0]))] H := hP
        have hD : va_D A [(pa, .inr (3, [.ref p_v, .int 0, .ref p_st, .ref p_ib, .ref p_di, .ref p_wa, .ref p_se, .ref p_vh, .ref p_re])), (b0, .inl (cI, 6, .inl zi)), (b1, .inl (cZ, 6, .inl zi)), (b4, .inl (cI, 4, .inl zi)), (p_v, .inl (cI, 4, .inl zi)), (p_st, .inl (cI, 4, .inl zi)), (p_ib, .inl (cZ, 4, .inl zi)), (p_di, .inl (cI, 4, .inl zi)), (p_wa, .inl (cI, 4, .inl zi)), (p_se, .inl (cI, 4, .inl zi)), (ou, .inl (cJ, 1, .inr (.inl zl))), (od, .inl (cD, 1, .inr (.inr (.inr (.inl zd))))), (mm, .inr (10, [.int 2, .ref pl, .ref ig, .ref sl, .ref kl, .int 0, .int 0, .int 0]))] := hD
        refine W.widen (k := 119) (n := 756) (Nat.le_refl _) (Nat.le_refl _) ?_
        have hw : r_52 = 0 := hw
        subst hw
        refine lv_istore (lv' := [(7, .int 0), (6, .int 2), (5, .int 0), (4, .ref od), (3, .ref ou), (2, .ref mm), (1, .ref x), (0, .ref b)]) hx hb dL_law_1395 hl (by decide) rfl (fun ls hl => ?_)
        refine lv_aload_n hx hb dL_law_1397 rfl (lv_at hl 5 rfl) ?_
        have hPc := hP.sub (ws' := [(mm, .inr (10, [.int 2, .ref pl, .ref ig, .ref sl, .ref kl, .int 0, .int 0, .int 0]))]) [12] rfl
        have hDc := hD.sub (ws' := [(mm, .inr (10, [.int 2, .ref pl, .ref ig, .ref sl, .ref kl, .int 0, .int 0, .int 0]))]) [12] (by decide) rfl
        have hKc := hK.sub (tys' := []) [] rfl
        have hFc := va_free (wc := [(mm, .inr (10, [.int 2, .ref pl, .ref ig, .ref sl, .ref kl, .int 0, .int 0, .int 0]))]) hD hS hA [12] rfl
        refine va_calli (va_runV (As := []) (rest := []) ⟨hx, hb, hml, hown, hts⟩ (c_X8_thrown l dC dI mm pl ig sl kl (2 : Int32) (0 : Int32) (0 : Int32) (0 : Int32) _ ) (cwV 0 hts gL_law_X8_thrown rfl rfl rfl (by decide +kernel) ⟨Nat.le_of_ble_eq_true rfl, Nat.le_of_ble_eq_true rfl⟩) ⟨pr_blind, va_recv hKc hPc (ci := 10) (q0 := 0) rfl rfl, fun U hU hW => ⟨rfl, pr_mk hU hW hPc hKc hDc⟩⟩ rfl rfl hl.1 rfl (lv_room (Nat.le_of_ble_eq_true rfl)) dL_law_1398 ⟨Nat.le_of_ble_eq_true rfl, Nat.le_of_ble_eq_true rfl⟩) hS (fun q _ h => hFc q h) hFc (fun r_54 u_53 t H1 locs ht hvm hw hB hz1 hk1 hS => ?_)
        obtain ⟨hP1, hK1, hD1⟩ := hB
        rw [ht] at hP1
        obtain ⟨hP, hD⟩ := va_join (wr := [(pa, .inr (3, [.ref p_v, .int 0, .ref p_st, .ref p_ib, .ref p_di, .ref p_wa, .ref p_se, .ref p_vh, .ref p_re])), (b0, .inl (cI, 6, .inl zi)), (b1, .inl (cZ, 6, .inl zi)), (b4, .inl (cI, 4, .inl zi)), (p_v, .inl (cI, 4, .inl zi)), (p_st, .inl (cI, 4, .inl zi)), (p_ib, .inl (cZ, 4, .inl zi)), (p_di, .inl (cI, 4, .inl zi)), (p_wa, .inl (cI, 4, .inl zi)), (p_se, .inl (cI, 4, .inl zi)), (ou, .inl (cJ, 1, .inr (.inl zl))), (od, .inl (cD, 1, .inr (.inr (.inr (.inl zd)))))]) (w1 := [(mm, .inr (10, [.int 2, .ref pl, .ref ig, .ref sl, .ref kl, .int 0, .int 0, .int 0]))]) hP hD [12] [0, 1, 2, 3, 4, 5, 6, 7, 8, 9, 10, 11] rfl rfl (by decide) (by decide) hk1 hFc hP1 hD1
        generalize H1 = H at hP hS ⊢
        have hP : va_P (dC, dI) vwCl [(pa, .inr (3, [.ref p_v, .int 0, .ref p_st, .ref p_ib, .ref p_di, .ref p_wa, .ref p_se, .ref p_vh, .ref p_re])), (b0, .inl (cI, 6, .inl zi)), (b1, .inl (cZ, 6, .inl zi)), (b4, .inl (cI, 4, .inl zi)), (p_v, .inl (cI, 4, .inl zi)), (p_st, .inl (cI, 4, .inl zi)), (p_ib, .inl (cZ, 4, .inl zi)), (p_di, .inl (cI, 4, .inl zi)), (p_wa, .inl (cI, 4, .inl zi)), (p_se, .inl (cI, 4, .inl zi)), (ou, .inl (cJ, 1, .inr (.inl zl))), (od, .inl (cD, 1, .inr (.inr (.inr (.inl zd))))), (mm, .inr (10, [.int 2, .ref pl, .ref ig, .ref sl, .ref kl, .int 0, .int 0, .int 0]))] H := hP
        have hD : va_D A [(pa, .inr (3, [.ref p_v, .int 0, .ref p_st, .ref p_ib, .ref p_di, .ref p_wa, .ref p_se, .ref p_vh, .ref p_re])), (b0, .inl (cI, 6, .inl zi)), (b1, .inl (cZ, 6, .inl zi)), (b4, .inl (cI, 4, .inl zi)), (p_v, .inl (cI, 4, .inl zi)), (p_st, .inl (cI, 4, .inl zi)), (p_ib, .inl (cZ, 4, .inl zi)), (p_di, .inl (cI, 4, .inl zi)), (p_wa, .inl (cI, 4, .inl zi)), (p_se, .inl (cI, 4, .inl zi)), (ou, .inl (cJ, 1, .inr (.inl zl))), (od, .inl (cD, 1, .inr (.inr (.inr (.inl zd))))), (mm, .inr (10, [.int 2, .ref pl, .ref ig, .ref sl, .ref kl, .int 0, .int 0, .int 0]))] := hD
        refine W.widen (k := 119) (n := 756) (Nat.le_refl _) (Nat.le_refl _) ?_
        have hw : r_54 = 2 := hw
        subst hw
        refine lv_iload hx hb dL_law_1401 (lv_at hl 1 rfl) ?_
        refine lv_icmp_eq (tgt := 1408) hx hb dL_law_1403 (by decide) (fun _ => ?_) (fun h9 => absurd h9 (by decide))
        refine lv_iload hx hb dL_law_1408 (lv_at hl 1 rfl) ?_
        refine lv_if_ne (tgt := 1425) hx hb dL_law_1410 (by decide) (fun _ => ?_) (fun h9 => absurd h9 (by decide))
        refine lv_goto (tgt := 2007) hx hb dL_law_1425 (by decide) ?_
        exact law_tail l C0 hAe hS (lv_sub hl [2, 7] rfl) (Nat.le_of_ble_eq_true rfl) (Nat.le_of_ble_eq_true rfl)
      · have hG2 : ¬ a3 < 0 := fun h => hB2 (Or.inl h)
        have hH2 : a3 ≤ 2 := Decidable.byContradiction (fun h => hB2 (Or.inr h))
        have hN2 : ¬ 2 < a3 := gN_g hH2
        refine lv_aload_n hx hb dL_law_1348 rfl (lv_at hl 4 rfl) ?_
        refine lv_aload_n hx hb dL_law_1349 rfl (lv_at hl 5 rfl) ?_
        refine lv_iload hx hb dL_law_1350 (lv_at hl 0 rfl) ?_
        refine lv_iconst (v := 1) hx hb dL_law_1352 (by decide) ?_
        refine lv_iadd hx hb dL_law_1353 ?_
        refine lv_topi (fun y_55 ey_55 => ?_)
        obtain rfl : y_55 = 1 := ey_55.trans (by decide)
        refine va_sld hx hb hX hbl hbA hS (by unfold vp_in; decide) dL_law_1354 ?_
        refine lv_topi (fun y_56 ey_56 => ?_)
        obtain rfl : a1 = y_56 := (ey_56.trans h_a1.symm).symm
        refine lv_aload_n hx hb dL_law_1355 rfl (lv_at hl 5 rfl) ?_
        refine lv_iload hx hb dL_law_1356 (lv_at hl 0 rfl) ?_
        refine lv_iconst (v := 2) hx hb dL_law_1358 (by decide) ?_
        refine lv_iadd hx hb dL_law_1359 ?_
        refine lv_topi (fun y_57 ey_57 => ?_)
        obtain rfl : y_57 = 2 := ey_57.trans (by decide)
        refine va_sld hx hb hX hbl hbA hS (by unfold vp_in; decide) dL_law_1360 ?_
        refine lv_topi (fun y_58 ey_58 => ?_)
        obtain rfl : a2 = y_58 := (ey_58.trans h_a2.symm).symm
        refine lv_aload_n hx hb dL_law_1361 rfl (lv_at hl 5 rfl) ?_
        refine lv_iload hx hb dL_law_1362 (lv_at hl 0 rfl) ?_
        refine lv_iconst (v := 3) hx hb dL_law_1364 (by decide) ?_
        refine lv_iadd hx hb dL_law_1365 ?_
        refine lv_topi (fun y_59 ey_59 => ?_)
        obtain rfl : y_59 = 3 := ey_59.trans (by decide)
        refine va_sld hx hb hX hbl hbA hS (by unfold vp_in; decide) dL_law_1366 ?_
        refine lv_topi (fun y_60 ey_60 => ?_)
        obtain rfl : a3 = y_60 := (ey_60.trans h_a3.symm).symm
        refine lv_aload_n hx hb dL_law_1367 rfl (lv_at hl 2 rfl) ?_
        have hPc := hP.sub (ws' := [(x, .inr (7, [.ref bx, .ref po, .ref tr, .ref pa, .ref sp])), (bx, .inr (2, [.ref b0, .ref b1, .int 0, .int 0, .ref b4, .int 0, .ref b6, .int 0, .int 0, .int 0, .int 0])), (pa, .inr (3, [.ref p_v, .int 0, .ref p_st, .ref p_ib, .ref p_di, .ref p_wa, .ref p_se, .ref p_vh, .ref p_re])), (p_v, .inl (cI, 4, .inl zi)), (p_st, .inl (cI, 4, .inl zi)), (p_ib, .inl (cZ, 4, .inl zi)), (p_di, .inl (cI, 4, .inl zi)), (p_wa, .inl (cI, 4, .inl zi)), (p_se, .inl (cI, 4, .inl zi)), (ou, .inl (cJ, 1, .inr (.inl zl)))]) [0, 1, 2, 6, 7, 8, 9, 10, 11, 16] rfl
        have hDc := hD.sub (ws' := [(x, .inr (7, [.ref bx, .ref po, .ref tr, .ref pa, .ref sp])), (bx, .inr (2, [.ref b0, .ref b1, .int 0, .int 0, .ref b4, .int 0, .ref b6, .int 0, .int 0, .int 0, .int 0])), (pa, .inr (3, [.ref p_v, .int 0, .ref p_st, .ref p_ib, .ref p_di, .ref p_wa, .ref p_se, .ref p_vh, .ref p_re])), (p_v, .inl (cI, 4, .inl zi)), (p_st, .inl (cI, 4, .inl zi)), (p_ib, .inl (cZ, 4, .inl zi)), (p_di, .inl (cI, 4, .inl zi)), (p_wa, .inl (cI, 4, .inl zi)), (p_se, .inl (cI, 4, .inl zi)), (ou, .inl (cJ, 1, .inr (.inl zl)))]) [0, 1, 2, 6, 7, 8, 9, 10, 11, 16] (by decide) rfl
        have hKc := hK.sub (tys' := [(cI, .int), (cZ, .boolean), (cJ, .long)]) [0, 1, 2] rfl
        have hFc := va_free (wc := [(x, .inr (7, [.ref bx, .ref po, .ref tr, .ref pa, .ref sp])), (bx, .inr (2, [.ref b0, .ref b1, .int 0, .int 0, .ref b4, .int 0, .ref b6, .int 0, .int 0, .int 0, .int 0])), (pa, .inr (3, [.ref p_v, .int 0, .ref p_st, .ref p_ib, .ref p_di, .ref p_wa, .ref p_se, .ref p_vh, .ref p_re])), (p_v, .inl (cI, 4, .inl zi)), (p_st, .inl (cI, 4, .inl zi)), (p_ib, .inl (cZ, 4, .inl zi)), (p_di, .inl (cI, 4, .inl zi)), (p_wa, .inl (cI, 4, .inl zi)), (p_se, .inl (cI, 4, .inl zi)), (ou, .inl (cJ, 1, .inr (.inl zl)))]) hD hS hA [0, 1, 2, 6, 7, 8, 9, 10, 11, 16] rfl
        refine va_calli (vx_runSW (As := [.ref x, .int a1, .int a2, .int a3, .ref ou]) (rest := []) ⟨hx, hb, hml, hown, hts⟩ (h_L_share l dC dI x po tr sp bx b0 b1 b4 b6 pa p_v p_st p_ib p_di p_wa p_se p_vh p_re cI cZ a1 a2 a3 ou cJ _ hG0 hH0 hG1 hH1 hG2 hH2) (vx_cwSW 5 hts gL_law_L_share rfl rfl rfl (by decide +kernel) ⟨Nat.le_of_ble_eq_true rfl, Nat.le_of_ble_eq_true rfl⟩) ⟨pr_blind, fun U hU hW => ⟨rfl, pr_mk hU hW hPc hKc hDc⟩⟩ rfl rfl hl.1 rfl (lv_room (Nat.le_of_ble_eq_true rfl)) dL_law_1368 ⟨Nat.le_of_ble_eq_true rfl, Nat.le_of_ble_eq_true rfl⟩) hS (fun q _ h => hFc q h) hFc (fun r_62 u_61 t H1 locs ht hvm hw hB hz1 hk1 hS => ?_)
        obtain ⟨hP1, hK1, hD1⟩ := hB
        rw [ht] at hP1
        obtain ⟨hP, hD⟩ := va_join (wr := [(b0, .inl (cI, 6, .inl zi)), (b1, .inl (cZ, 6, .inl zi)), (b4, .inl (cI, 4, .inl zi)), (mm, .inr (10, [.int 0, .ref pl, .ref ig, .ref sl, .ref kl, .int 0, .int 0, .int 0])), (pl, .inr (1, [.int 0, .ref dz, .int 0])), (sl, .inr (1, [.int 0, .ref dz, .int 0])), (kl, .inr (1, [.int 0, .ref dz, .int 0])), (od, .inl (cD, 1, .inr (.inr (.inr (.inl zd)))))]) (w1 := [(ou, .inl (cJ, 1, .inr (.inl zl)))]) hP hD [0, 1, 2, 6, 7, 8, 9, 10, 11, 16] [3, 4, 5, 12, 13, 14, 15, 17] rfl rfl (by decide) (by decide) hk1 hFc hP1 hD1
        generalize H1 = H at hP hS ⊢
        have hP : va_P (dC, dI) vwCl [(b0, .inl (cI, 6, .inl zi)), (b1, .inl (cZ, 6, .inl zi)), (b4, .inl (cI, 4, .inl zi)), (mm, .inr (10, [.int 0, .ref pl, .ref ig, .ref sl, .ref kl, .int 0, .int 0, .int 0])), (pl, .inr (1, [.int 0, .ref dz, .int 0])), (sl, .inr (1, [.int 0, .ref dz, .int 0])), (kl, .inr (1, [.int 0, .ref dz, .int 0])), (od, .inl (cD, 1, .inr (.inr (.inr (.inl zd))))), (ou, .inl (cJ, 1, .inr (.inl zl)))] H := hP
        have hD : va_D A [(b0, .inl (cI, 6, .inl zi)), (b1, .inl (cZ, 6, .inl zi)), (b4, .inl (cI, 4, .inl zi)), (mm, .inr (10, [.int 0, .ref pl, .ref ig, .ref sl, .ref kl, .int 0, .int 0, .int 0])), (pl, .inr (1, [.int 0, .ref dz, .int 0])), (sl, .inr (1, [.int 0, .ref dz, .int 0])), (kl, .inr (1, [.int 0, .ref dz, .int 0])), (od, .inl (cD, 1, .inr (.inr (.inr (.inl zd))))), (ou, .inl (cJ, 1, .inr (.inl zl)))] := hD
        refine W.widen (k := 118) (n := 750) (Nat.le_refl _) (Nat.le_refl _) ?_
        have hw : r_62 = 0 := hw
        subst hw
        refine lv_istore (lv' := [(6, .int 0), (5, .int 0), (4, .ref od), (3, .ref ou), (2, .ref mm), (1, .ref x), (0, .ref b)]) hx hb dL_law_1371 hl (by decide) rfl (fun ls hl => ?_)
        refine lv_aload_n hx hb dL_law_1373 rfl (lv_at hl 4 rfl) ?_
        refine lv_aload_n hx hb dL_law_1374 rfl (lv_at hl 6 rfl) ?_
        refine lv_iload hx hb dL_law_1375 (lv_at hl 1 rfl) ?_
        refine lv_iconst (v := 1) hx hb dL_law_1377 (by decide) ?_
        refine lv_iadd hx hb dL_law_1378 ?_
        refine lv_topi (fun y_63 ey_63 => ?_)
        obtain rfl : y_63 = 1 := ey_63.trans (by decide)
        refine va_sld hx hb hX hbl hbA hS (by unfold vp_in; decide) dL_law_1379 ?_
        refine lv_topi (fun y_64 ey_64 => ?_)
        obtain rfl : a1 = y_64 := (ey_64.trans h_a1.symm).symm
        refine lv_aload_n hx hb dL_law_1380 rfl (lv_at hl 6 rfl) ?_
        refine lv_iload hx hb dL_law_1381 (lv_at hl 1 rfl) ?_
        refine lv_iconst (v := 2) hx hb dL_law_1383 (by decide) ?_
        refine lv_iadd hx hb dL_law_1384 ?_
        refine lv_topi (fun y_65 ey_65 => ?_)
        obtain rfl : y_65 = 2 := ey_65.trans (by decide)
        refine va_sld hx hb hX hbl hbA hS (by unfold vp_in; decide) dL_law_1385 ?_
        refine lv_topi (fun y_66 ey_66 => ?_)
        obtain rfl : a2 = y_66 := (ey_66.trans h_a2.symm).symm
        refine lv_aload_n hx hb dL_law_1386 rfl (lv_at hl 6 rfl) ?_
        refine lv_iload hx hb dL_law_1387 (lv_at hl 1 rfl) ?_
        refine lv_iconst (v := 3) hx hb dL_law_1389 (by decide) ?_
        refine lv_iadd hx hb dL_law_1390 ?_
        refine lv_topi (fun y_67 ey_67 => ?_)
        obtain rfl : y_67 = 3 := ey_67.trans (by decide)
        refine va_sld hx hb hX hbl hbA hS (by unfold vp_in; decide) dL_law_1391 ?_
        refine lv_topi (fun y_68 ey_68 => ?_)
        obtain rfl : a3 = y_68 := (ey_68.trans h_a3.symm).symm
        have hPc := hP.sub (ws' := [(mm, .inr (10, [.int 0, .ref pl, .ref ig, .ref sl, .ref kl, .int 0, .int 0, .int 0])), (pl, .inr (1, [.int 0, .ref dz, .int 0])), (sl, .inr (1, [.int 0, .ref dz, .int 0])), (kl, .inr (1, [.int 0, .ref dz, .int 0]))]) [3, 4, 5, 6] rfl
        have hDc := hD.sub (ws' := [(mm, .inr (10, [.int 0, .ref pl, .ref ig, .ref sl, .ref kl, .int 0, .int 0, .int 0])), (pl, .inr (1, [.int 0, .ref dz, .int 0])), (sl, .inr (1, [.int 0, .ref dz, .int 0])), (kl, .inr (1, [.int 0, .ref dz, .int 0]))]) [3, 4, 5, 6] (by decide) rfl
        have hKc := hK.sub (tys' := []) [] rfl
        have hFc := va_free (wc := [(mm, .inr (10, [.int 0, .ref pl, .ref ig, .ref sl, .ref kl, .int 0, .int 0, .int 0])), (pl, .inr (1, [.int 0, .ref dz, .int 0])), (sl, .inr (1, [.int 0, .ref dz, .int 0])), (kl, .inr (1, [.int 0, .ref dz, .int 0]))]) hD hS hA [3, 4, 5, 6] rfl
        refine va_calli (va_runV (As := [.int a1, .int a2, .int a3]) (rest := []) ⟨hx, hb, hml, hown, hts⟩ (c_X8_share l dC dI mm pl ig sl kl dz a1 a2 a3 _ hG0 hN0 hG1 hN1 hG2 hN2) (cwV 3 hts gL_law_X8_share rfl rfl rfl (by decide +kernel) ⟨Nat.le_of_ble_eq_true rfl, Nat.le_of_ble_eq_true rfl⟩) ⟨pe_blind mo_bl, va_recv hKc hPc (ci := 10) (q0 := 0) rfl rfl, fun U hU hW => ⟨rfl, pr_mk hU hW hPc hKc hDc, mo_mk hW (lx_m hLX)⟩⟩ rfl rfl hl.1 rfl (lv_room (Nat.le_of_ble_eq_true rfl)) dL_law_1392 ⟨Nat.le_of_ble_eq_true rfl, Nat.le_of_ble_eq_true rfl⟩) hS (fun q _ h => hFc q h) hFc (fun r_70 u_69 t H1 locs ht hvm hw hB hz1 hk1 hS => ?_)
        obtain ⟨hP1, hK1, hD1⟩ := hB
        rw [ht] at hP1
        obtain ⟨hP, hD⟩ := va_join (wr := [(b0, .inl (cI, 6, .inl zi)), (b1, .inl (cZ, 6, .inl zi)), (b4, .inl (cI, 4, .inl zi)), (od, .inl (cD, 1, .inr (.inr (.inr (.inl zd))))), (ou, .inl (cJ, 1, .inr (.inl zl)))]) (w1 := [(mm, .inr (10, [.int 0, .ref pl, .ref ig, .ref sl, .ref kl, .int 0, .int 0, .int 0]))]) hP hD [3, 4, 5, 6] [0, 1, 2, 7, 8] rfl rfl (by decide) (by decide) hk1 hFc hP1 hD1
        generalize H1 = H at hP hS ⊢
        have hP : va_P (dC, dI) vwCl [(b0, .inl (cI, 6, .inl zi)), (b1, .inl (cZ, 6, .inl zi)), (b4, .inl (cI, 4, .inl zi)), (od, .inl (cD, 1, .inr (.inr (.inr (.inl zd))))), (ou, .inl (cJ, 1, .inr (.inl zl))), (mm, .inr (10, [.int 0, .ref pl, .ref ig, .ref sl, .ref kl, .int 0, .int 0, .int 0]))] H := hP
        have hD : va_D A [(b0, .inl (cI, 6, .inl zi)), (b1, .inl (cZ, 6, .inl zi)), (b4, .inl (cI, 4, .inl zi)), (od, .inl (cD, 1, .inr (.inr (.inr (.inl zd))))), (ou, .inl (cJ, 1, .inr (.inl zl))), (mm, .inr (10, [.int 0, .ref pl, .ref ig, .ref sl, .ref kl, .int 0, .int 0, .int 0]))] := hD
        refine W.widen (k := 122) (n := 770) (Nat.le_of_ble_eq_true rfl) (Nat.le_of_ble_eq_true rfl) ?_
        have hw : r_70 = 0 := hw
        subst hw
        refine lv_istore (lv' := [(7, .int 0), (6, .int 0), (5, .int 0), (4, .ref od), (3, .ref ou), (2, .ref mm), (1, .ref x), (0, .ref b)]) hx hb dL_law_1395 hl (by decide) rfl (fun ls hl => ?_)
        refine lv_aload_n hx hb dL_law_1397 rfl (lv_at hl 5 rfl) ?_
        have hPc := hP.sub (ws' := [(mm, .inr (10, [.int 0, .ref pl, .ref ig, .ref sl, .ref kl, .int 0, .int 0, .int 0]))]) [5] rfl
        have hDc := hD.sub (ws' := [(mm, .inr (10, [.int 0, .ref pl, .ref ig, .ref sl, .ref kl, .int 0, .int 0, .int 0]))]) [5] (by decide) rfl
        have hKc := hK.sub (tys' := []) [] rfl
        have hFc := va_free (wc := [(mm, .inr (10, [.int 0, .ref pl, .ref ig, .ref sl, .ref kl, .int 0, .int 0, .int 0]))]) hD hS hA [5] rfl
        refine va_calli (va_runV (As := []) (rest := []) ⟨hx, hb, hml, hown, hts⟩ (c_X8_thrown l dC dI mm pl ig sl kl (0 : Int32) (0 : Int32) (0 : Int32) (0 : Int32) _ ) (cwV 0 hts gL_law_X8_thrown rfl rfl rfl (by decide +kernel) ⟨Nat.le_of_ble_eq_true rfl, Nat.le_of_ble_eq_true rfl⟩) ⟨pr_blind, va_recv hKc hPc (ci := 10) (q0 := 0) rfl rfl, fun U hU hW => ⟨rfl, pr_mk hU hW hPc hKc hDc⟩⟩ rfl rfl hl.1 rfl (lv_room (Nat.le_of_ble_eq_true rfl)) dL_law_1398 ⟨Nat.le_of_ble_eq_true rfl, Nat.le_of_ble_eq_true rfl⟩) hS (fun q _ h => hFc q h) hFc (fun r_72 u_71 t H1 locs ht hvm hw hB hz1 hk1 hS => ?_)
        obtain ⟨hP1, hK1, hD1⟩ := hB
        rw [ht] at hP1
        obtain ⟨hP, hD⟩ := va_join (wr := [(b0, .inl (cI, 6, .inl zi)), (b1, .inl (cZ, 6, .inl zi)), (b4, .inl (cI, 4, .inl zi)), (od, .inl (cD, 1, .inr (.inr (.inr (.inl zd))))), (ou, .inl (cJ, 1, .inr (.inl zl)))]) (w1 := [(mm, .inr (10, [.int 0, .ref pl, .ref ig, .ref sl, .ref kl, .int 0, .int 0, .int 0]))]) hP hD [5] [0, 1, 2, 3, 4] rfl rfl (by decide) (by decide) hk1 hFc hP1 hD1
        generalize H1 = H at hP hS ⊢
        have hP : va_P (dC, dI) vwCl [(b0, .inl (cI, 6, .inl zi)), (b1, .inl (cZ, 6, .inl zi)), (b4, .inl (cI, 4, .inl zi)), (od, .inl (cD, 1, .inr (.inr (.inr (.inl zd))))), (ou, .inl (cJ, 1, .inr (.inl zl))), (mm, .inr (10, [.int 0, .ref pl, .ref ig, .ref sl, .ref kl, .int 0, .int 0, .int 0]))] H := hP
        have hD : va_D A [(b0, .inl (cI, 6, .inl zi)), (b1, .inl (cZ, 6, .inl zi)), (b4, .inl (cI, 4, .inl zi)), (od, .inl (cD, 1, .inr (.inr (.inr (.inl zd))))), (ou, .inl (cJ, 1, .inr (.inl zl))), (mm, .inr (10, [.int 0, .ref pl, .ref ig, .ref sl, .ref kl, .int 0, .int 0, .int 0]))] := hD
        refine W.widen (k := 122) (n := 770) (Nat.le_refl _) (Nat.le_refl _) ?_
        have hw : r_72 = 0 := hw
        subst hw
        refine lv_iload hx hb dL_law_1401 (lv_at hl 1 rfl) ?_
        refine lv_icmp_eq (tgt := 1408) hx hb dL_law_1403 (by decide) (fun _ => ?_) (fun h9 => absurd h9 (by decide))
        refine lv_iload hx hb dL_law_1408 (lv_at hl 1 rfl) ?_
        refine lv_if_ne (tgt := 1425) hx hb dL_law_1410 (by decide) (fun h9 => absurd h9 (by decide)) (fun _ => ?_)
        refine lv_aload_n hx hb dL_law_1413 rfl (lv_at hl 4 rfl) ?_
        refine lv_iconst (v := 0) hx hb dL_law_1414 (by decide) ?_
        refine va_lald hx hb hK hP 4 2 rfl rfl (by unfold vp_in; decide) dL_law_1415 ?_
        refine lv_topl (fun y_73 ey_73 => ?_)
        obtain rfl : y_73 = 0 := ey_73
        refine lv_iload hx hb dL_law_1416 (lv_at hl 0 rfl) ?_
        refine lv_i2l (v := 0) hx hb dL_law_1418 (by decide) ?_
        refine W.lcmp hx hb dL_law_1419 ?_
        refine lv_topi (fun y_74 ey_74 => ?_)
        obtain rfl : y_74 = 0 := ey_74.trans (lcmp_self _)
        refine lv_if_eq (tgt := 1425) hx hb dL_law_1420 (by decide) (fun _ => ?_) (fun h9 => absurd h9 (by decide))
        refine lv_goto (tgt := 2007) hx hb dL_law_1425 (by decide) ?_
        exact law_tail l C0 hAe hS (lv_sub hl [2, 7] rfl) (Nat.le_of_ble_eq_true rfl) (Nat.le_of_ble_eq_true rfl)

set_option maxHeartbeats 4000000 in
set_option maxRecDepth 100000 in
theorem case_overhang {p : Program} {e : Env} {s : State} {m : MethodId} {below : List Frame} {meth : Method} {c : Code} (l : Launch) (hfl : l.stackTraces = false) {b : Nat} {xs : Nat → Int32} (C0 : lw_At p s m meth c b 5 xs) {dz tc : Nat} {ad : Nat → Nat} (hLX : lx_ (fun q : Nat => s.heap.size ≤ q) dz tc ad s) (dC : Nat → ClassId) (dI : Nat → Nat → Nat) {x : Nat} {po : Nat} {tr : Nat} {sp : Nat} {bx : Nat} {b0 : Nat} {b1 : Nat} {b4 : Nat} {b6 : Nat} {pa : Nat} {p_v : Nat} {p_st : Nat} {p_ib : Nat} {p_di : Nat} {p_wa : Nat} {p_se : Nat} {p_vh : Nat} {p_re : Nat} {mm : Nat} {pl : Nat} {ig : Nat} {sl : Nat} {kl : Nat} {ou : Nat} {od : Nat} {cI : ClassId} {cZ : ClassId} {cJ : ClassId} {cD : ClassId} {H : Heap} {locs : List Loc} {ls : Array Slot} (hK : va_K (dC, dI) vwCl [(cI, .int), (cZ, .boolean), (cJ, .long), (cD, .double)] s) (hP : va_P (dC, dI) vwCl [(x, .inr (7, [.ref bx, .ref po, .ref tr, .ref pa, .ref sp])), (bx, .inr (2, [.ref b0, .ref b1, .int 0, .int 0, .ref b4, .int 0, .ref b6, .int 0, .int 0, .int 0, .int 0])), (pa, .inr (3, [.ref p_v, .int 0, .ref p_st, .ref p_ib, .ref p_di, .ref p_wa, .ref p_se, .ref p_vh, .ref p_re])), (b0, .inl (cI, 6, .inl zi)), (b1, .inl (cZ, 6, .inl zi)), (b4, .inl (cI, 4, .inl zi)), (p_v, .inl (cI, 4, .inl zi)), (p_st, .inl (cI, 4, .inl zi)), (p_ib, .inl (cZ, 4, .inl zi)), (p_di, .inl (cI, 4, .inl zi)), (p_wa, .inl (cI, 4, .inl zi)), (p_se, .inl (cI, 4, .inl zi)), (mm, .inr (10, [.int 0, .ref pl, .ref ig, .ref sl, .ref kl, .int 0, .int 0, .int 0])), (pl, .inr (1, [.int 0, .ref dz, .int 0])), (sl, .inr (1, [.int 0, .ref dz, .int 0])), (kl, .inr (1, [.int 0, .ref dz, .int 0])), (ou, .inl (cJ, 1, .inr (.inl zl))), (od, .inl (cD, 1, .inr (.inr (.inr (.inl zd)))))] H) (hD : va_D (fun q : Nat => s.heap.size ≤ q) [(x, .inr (7, [.ref bx, .ref po, .ref tr, .ref pa, .ref sp])), (bx, .inr (2, [.ref b0, .ref b1, .int 0, .int 0, .ref b4, .int 0, .ref b6, .int 0, .int 0, .int 0, .int 0])), (pa, .inr (3, [.ref p_v, .int 0, .ref p_st, .ref p_ib, .ref p_di, .ref p_wa, .ref p_se, .ref p_vh, .ref p_re])), (b0, .inl (cI, 6, .inl zi)), (b1, .inl (cZ, 6, .inl zi)), (b4, .inl (cI, 4, .inl zi)), (p_v, .inl (cI, 4, .inl zi)), (p_st, .inl (cI, 4, .inl zi)), (p_ib, .inl (cZ, 4, .inl zi)), (p_di, .inl (cI, 4, .inl zi)), (p_wa, .inl (cI, 4, .inl zi)), (p_se, .inl (cI, 4, .inl zi)), (mm, .inr (10, [.int 0, .ref pl, .ref ig, .ref sl, .ref kl, .int 0, .int 0, .int 0])), (pl, .inr (1, [.int 0, .ref dz, .int 0])), (sl, .inr (1, [.int 0, .ref dz, .int 0])), (kl, .inr (1, [.int 0, .ref dz, .int 0])), (ou, .inl (cJ, 1, .inr (.inl zl))), (od, .inl (cD, 1, .inr (.inr (.inr (.inl zd)))))]) (hS : va_S (fun q : Nat => s.heap.size ≤ q) s.heap H locs) (hl : lv_has ls 9 [(5, .int 0), (4, .ref od), (3, .ref ou), (2, .ref mm), (1, .ref x), (0, .ref b)]) : W p l e room_1 s m #[Value.ref b] below meth c H locs 118 750 (lw_Z below #[Value.ref b] s) (F0 m 1428 ls []) := by
  obtain ⟨hx, hb, hr, hml, hown, hts0, hX, hbl, hlocks, hgv⟩ := id C0
  have hts : ∀ w ∈ lw_tbl, w.before #[Value.ref b] s = true := hts0
  have hbA : ¬ (fun q : Nat => s.heap.size ≤ q) b := Nat.not_le.mpr hbl
  have hA : ∀ q : Nat, s.heap.size ≤ q → (fun q : Nat => s.heap.size ≤ q) q := fun _ h => h
  generalize hAe : (fun q : Nat => s.heap.size ≤ q) = A at hD hS hbA hA hLX
  obtain ⟨a1, h_a1⟩ : ∃ z, z = xs ((1 : Int32).toNatClampNeg) := ⟨_, rfl⟩
  obtain ⟨a2, h_a2⟩ : ∃ z, z = xs ((2 : Int32).toNatClampNeg) := ⟨_, rfl⟩
  obtain ⟨a3, h_a3⟩ : ∃ z, z = xs ((3 : Int32).toNatClampNeg) := ⟨_, rfl⟩
  obtain ⟨a4, h_a4⟩ : ∃ z, z = xs ((4 : Int32).toNatClampNeg) := ⟨_, rfl⟩
  by_cases hB0 : a1 < 1 ∨ ¬ a1 ≤ 60
  · have hM0 : a1 < 1 ∨ 60 < a1 := gN_b hB0
    refine lv_aload_n hx hb dL_law_1428 rfl (lv_at hl 4 rfl) ?_
    refine lv_aload_n hx hb dL_law_1429 rfl (lv_at hl 5 rfl) ?_
    refine lv_iload hx hb dL_law_1430 (lv_at hl 0 rfl) ?_
    refine lv_iconst (v := 1) hx hb dL_law_1432 (by decide) ?_
    refine lv_iadd hx hb dL_law_1433 ?_
    refine lv_topi (fun y_1 ey_1 => ?_)
    obtain rfl : y_1 = 1 := ey_1.trans (by decide)
    refine va_sld hx hb hX hbl hbA hS (by unfold vp_in; decide) dL_law_1434 ?_
    refine lv_topi (fun y_2 ey_2 => ?_)
    obtain rfl : a1 = y_2 := (ey_2.trans h_a1.symm).symm
    refine lv_aload_n hx hb dL_law_1435 rfl (lv_at hl 5 rfl) ?_
    refine lv_iload hx hb dL_law_1436 (lv_at hl 0 rfl) ?_
    refine lv_iconst (v := 2) hx hb dL_law_1438 (by decide) ?_
    refine lv_iadd hx hb dL_law_1439 ?_
    refine lv_topi (fun y_3 ey_3 => ?_)
    obtain rfl : y_3 = 2 := ey_3.trans (by decide)
    refine va_sld hx hb hX hbl hbA hS (by unfold vp_in; decide) dL_law_1440 ?_
    refine lv_topi (fun y_4 ey_4 => ?_)
    obtain rfl : a2 = y_4 := (ey_4.trans h_a2.symm).symm
    refine lv_aload_n hx hb dL_law_1441 rfl (lv_at hl 2 rfl) ?_
    have hPc := hP.sub (ws' := [(x, .inr (7, [.ref bx, .ref po, .ref tr, .ref pa, .ref sp])), (bx, .inr (2, [.ref b0, .ref b1, .int 0, .int 0, .ref b4, .int 0, .ref b6, .int 0, .int 0, .int 0, .int 0]))]) [0, 1] rfl
    have hDc := hD.sub (ws' := [(x, .inr (7, [.ref bx, .ref po, .ref tr, .ref pa, .ref sp])), (bx, .inr (2, [.ref b0, .ref b1, .int 0, .int 0, .ref b4, .int 0, .ref b6, .int 0, .int 0, .int 0, .int 0]))]) [0, 1] (by decide) rfl
    have hKc := hK.sub (tys' := []) [] rfl
    have hFc := va_free (wc := [(x, .inr (7, [.ref bx, .ref po, .ref tr, .ref pa, .ref sp])), (bx, .inr (2, [.ref b0, .ref b1, .int 0, .int 0, .ref b4, .int 0, .ref b6, .int 0, .int 0, .int 0, .int 0]))]) hD hS hA [0, 1] rfl
    refine va_calli (vx_runSW (As := [.ref x, .int a1, .int a2, .ref ou]) (rest := []) ⟨hx, hb, hml, hown, hts⟩ (h0_L_overhang l hfl dC dI x po tr sp pa bx b0 b1 b4 b6 a1 a2 ou ((lx_s312 hLX).choose) ((lx_s312 hLX).choose_spec.choose) _ hB0) (vx_cwSW 4 hts gL_law_L_overhang rfl rfl rfl (by decide +kernel) ⟨Nat.le_of_ble_eq_true rfl, Nat.le_of_ble_eq_true rfl⟩) ⟨pn_blind (fun _ _ _ _ h => h), fun U hU hW => ⟨rfl, pr_mk hU hW hPc hKc hDc, xs_mk hU hW hS hFc (lx_xa hLX (lx_s312 hLX).choose_spec.choose_spec), trivial⟩⟩ rfl rfl hl.1 rfl (lv_room (Nat.le_of_ble_eq_true rfl)) dL_law_1442 ⟨Nat.le_of_ble_eq_true rfl, Nat.le_of_ble_eq_true rfl⟩) hS (fun q _ h => hFc q h) hFc (fun r_6 u_5 t H1 locs ht hvm hw hB hz1 hk1 hS => ?_)
    obtain ⟨hP1, hK1, hD1⟩ := hB
    rw [ht] at hP1
    obtain ⟨hP, hD⟩ := va_join (wr := [(pa, .inr (3, [.ref p_v, .int 0, .ref p_st, .ref p_ib, .ref p_di, .ref p_wa, .ref p_se, .ref p_vh, .ref p_re])), (b0, .inl (cI, 6, .inl zi)), (b1, .inl (cZ, 6, .inl zi)), (b4, .inl (cI, 4, .inl zi)), (p_v, .inl (cI, 4, .inl zi)), (p_st, .inl (cI, 4, .inl zi)), (p_ib, .inl (cZ, 4, .inl zi)), (p_di, .inl (cI, 4, .inl zi)), (p_wa, .inl (cI, 4, .inl zi)), (p_se, .inl (cI, 4, .inl zi)), (mm, .inr (10, [.int 0, .ref pl, .ref ig, .ref sl, .ref kl, .int 0, .int 0, .int 0])), (pl, .inr (1, [.int 0, .ref dz, .int 0])), (sl, .inr (1, [.int 0, .ref dz, .int 0])), (kl, .inr (1, [.int 0, .ref dz, .int 0])), (ou, .inl (cJ, 1, .inr (.inl zl))), (od, .inl (cD, 1, .inr (.inr (.inr (.inl zd)))))]) (w1 := []) hP hD [0, 1] [2, 3, 4, 5, 6, 7, 8, 9, 10, 11, 12, 13, 14, 15, 16, 17] rfl rfl (by decide) (by decide) hk1 hFc hP1 hD1
    generalize H1 = H at hP hS ⊢
    have hP : va_P (dC, dI) vwCl [(pa, .inr (3, [.ref p_v, .int 0, .ref p_st, .ref p_ib, .ref p_di, .ref p_wa, .ref p_se, .ref p_vh, .ref p_re])), (b0, .inl (cI, 6, .inl zi)), (b1, .inl (cZ, 6, .inl zi)), (b4, .inl (cI, 4, .inl zi)), (p_v, .inl (cI, 4, .inl zi)), (p_st, .inl (cI, 4, .inl zi)), (p_ib, .inl (cZ, 4, .inl zi)), (p_di, .inl (cI, 4, .inl zi)), (p_wa, .inl (cI, 4, .inl zi)), (p_se, .inl (cI, 4, .inl zi)), (mm, .inr (10, [.int 0, .ref pl, .ref ig, .ref sl, .ref kl, .int 0, .int 0, .int 0])), (pl, .inr (1, [.int 0, .ref dz, .int 0])), (sl, .inr (1, [.int 0, .ref dz, .int 0])), (kl, .inr (1, [.int 0, .ref dz, .int 0])), (ou, .inl (cJ, 1, .inr (.inl zl))), (od, .inl (cD, 1, .inr (.inr (.inr (.inl zd)))))] H := hP
    have hD : va_D A [(pa, .inr (3, [.ref p_v, .int 0, .ref p_st, .ref p_ib, .ref p_di, .ref p_wa, .ref p_se, .ref p_vh, .ref p_re])), (b0, .inl (cI, 6, .inl zi)), (b1, .inl (cZ, 6, .inl zi)), (b4, .inl (cI, 4, .inl zi)), (p_v, .inl (cI, 4, .inl zi)), (p_st, .inl (cI, 4, .inl zi)), (p_ib, .inl (cZ, 4, .inl zi)), (p_di, .inl (cI, 4, .inl zi)), (p_wa, .inl (cI, 4, .inl zi)), (p_se, .inl (cI, 4, .inl zi)), (mm, .inr (10, [.int 0, .ref pl, .ref ig, .ref sl, .ref kl, .int 0, .int 0, .int 0])), (pl, .inr (1, [.int 0, .ref dz, .int 0])), (sl, .inr (1, [.int 0, .ref dz, .int 0])), (kl, .inr (1, [.int 0, .ref dz, .int 0])), (ou, .inl (cJ, 1, .inr (.inl zl))), (od, .inl (cD, 1, .inr (.inr (.inr (.inl zd)))))] := hD
    refine W.widen (k := 119) (n := 756) (Nat.le_of_ble_eq_true rfl) (Nat.le_of_ble_eq_true rfl) ?_
    have hw : r_6 = 1 := hw
    subst hw
    refine lv_istore (lv' := [(6, .int 1), (5, .int 0), (4, .ref od), (3, .ref ou), (2, .ref mm), (1, .ref x), (0, .ref b)]) hx hb dL_law_1445 hl (by decide) rfl (fun ls hl => ?_)
    refine lv_aload_n hx hb dL_law_1447 rfl (lv_at hl 4 rfl) ?_
    refine lv_aload_n hx hb dL_law_1448 rfl (lv_at hl 6 rfl) ?_
    refine lv_iload hx hb dL_law_1449 (lv_at hl 1 rfl) ?_
    refine lv_iconst (v := 1) hx hb dL_law_1451 (by decide) ?_
    refine lv_iadd hx hb dL_law_1452 ?_
    refine lv_topi (fun y_7 ey_7 => ?_)
    obtain rfl : y_7 = 1 := ey_7.trans (by decide)
    refine va_sld hx hb hX hbl hbA hS (by unfold vp_in; decide) dL_law_1453 ?_
    refine lv_topi (fun y_8 ey_8 => ?_)
    obtain rfl : a1 = y_8 := (ey_8.trans h_a1.symm).symm
    refine lv_aload_n hx hb dL_law_1454 rfl (lv_at hl 6 rfl) ?_
    refine lv_iload hx hb dL_law_1455 (lv_at hl 1 rfl) ?_
    refine lv_iconst (v := 2) hx hb dL_law_1457 (by decide) ?_
    refine lv_iadd hx hb dL_law_1458 ?_
    refine lv_topi (fun y_9 ey_9 => ?_)
    obtain rfl : y_9 = 2 := ey_9.trans (by decide)
    refine va_sld hx hb hX hbl hbA hS (by unfold vp_in; decide) dL_law_1459 ?_
    refine lv_topi (fun y_10 ey_10 => ?_)
    obtain rfl : a2 = y_10 := (ey_10.trans h_a2.symm).symm
    have hPc := hP.sub (ws' := [(mm, .inr (10, [.int 0, .ref pl, .ref ig, .ref sl, .ref kl, .int 0, .int 0, .int 0])), (pl, .inr (1, [.int 0, .ref dz, .int 0])), (sl, .inr (1, [.int 0, .ref dz, .int 0])), (kl, .inr (1, [.int 0, .ref dz, .int 0]))]) [10, 11, 12, 13] rfl
    have hDc := hD.sub (ws' := [(mm, .inr (10, [.int 0, .ref pl, .ref ig, .ref sl, .ref kl, .int 0, .int 0, .int 0])), (pl, .inr (1, [.int 0, .ref dz, .int 0])), (sl, .inr (1, [.int 0, .ref dz, .int 0])), (kl, .inr (1, [.int 0, .ref dz, .int 0]))]) [10, 11, 12, 13] (by decide) rfl
    have hKc := hK.sub (tys' := []) [] rfl
    have hFc := va_free (wc := [(mm, .inr (10, [.int 0, .ref pl, .ref ig, .ref sl, .ref kl, .int 0, .int 0, .int 0])), (pl, .inr (1, [.int 0, .ref dz, .int 0])), (sl, .inr (1, [.int 0, .ref dz, .int 0])), (kl, .inr (1, [.int 0, .ref dz, .int 0]))]) hD hS hA [10, 11, 12, 13] rfl
    refine va_calli (va_runV (As := [.int a1, .int a2]) (rest := []) ⟨hx, hb, hml, hown, hts⟩ (c0_X8_overhang l dC dI mm pl ig sl kl dz a1 a2 _ hM0) (cwV 2 hts gL_law_X8_overhang rfl rfl rfl (by decide +kernel) ⟨Nat.le_of_ble_eq_true rfl, Nat.le_of_ble_eq_true rfl⟩) ⟨pe_blind mo_bl, va_recv hKc hPc (ci := 10) (q0 := 0) rfl rfl, fun U hU hW => ⟨rfl, pr_mk hU hW hPc hKc hDc, mo_mk hW (lx_m hLX)⟩⟩ rfl rfl hl.1 rfl (lv_room (Nat.le_of_ble_eq_true rfl)) dL_law_1460 ⟨Nat.le_of_ble_eq_true rfl, Nat.le_of_ble_eq_true rfl⟩) hS (fun q _ h => hFc q h) hFc (fun r_12 u_11 t H1 locs ht hvm hw hB hz1 hk1 hS => ?_)
    obtain ⟨hP1, hK1, hD1⟩ := hB
    rw [ht] at hP1
    obtain ⟨hP, hD⟩ := va_join (wr := [(pa, .inr (3, [.ref p_v, .int 0, .ref p_st, .ref p_ib, .ref p_di, .ref p_wa, .ref p_se, .ref p_vh, .ref p_re])), (b0, .inl (cI, 6, .inl zi)), (b1, .inl (cZ, 6, .inl zi)), (b4, .inl (cI, 4, .inl zi)), (p_v, .inl (cI, 4, .inl zi)), (p_st, .inl (cI, 4, .inl zi)), (p_ib, .inl (cZ, 4, .inl zi)), (p_di, .inl (cI, 4, .inl zi)), (p_wa, .inl (cI, 4, .inl zi)), (p_se, .inl (cI, 4, .inl zi)), (ou, .inl (cJ, 1, .inr (.inl zl))), (od, .inl (cD, 1, .inr (.inr (.inr (.inl zd)))))]) (w1 := [(mm, .inr (10, [.int 1, .ref pl, .ref ig, .ref sl, .ref kl, .int 0, .int 0, .int 0]))]) hP hD [10, 11, 12, 13] [0, 1, 2, 3, 4, 5, 6, 7, 8, 9, 14, 15] rfl rfl (by decide) (by decide) hk1 hFc hP1 hD1
    generalize H1 = H at hP hS ⊢
    have hP : va_P (dC, dI) vwCl [(pa, .inr (3, [.ref p_v, .int 0, .ref p_st, .ref p_ib, .ref p_di, .ref p_wa, .ref p_se, .ref p_vh, .ref p_re])), (b0, .inl (cI, 6, .inl zi)), (b1, .inl (cZ, 6, .inl zi)), (b4, .inl (cI, 4, .inl zi)), (p_v, .inl (cI, 4, .inl zi)), (p_st, .inl (cI, 4, .inl zi)), (p_ib, .inl (cZ, 4, .inl zi)), (p_di, .inl (cI, 4, .inl zi)), (p_wa, .inl (cI, 4, .inl zi)), (p_se, .inl (cI, 4, .inl zi)), (ou, .inl (cJ, 1, .inr (.inl zl))), (od, .inl (cD, 1, .inr (.inr (.inr (.inl zd))))), (mm, .inr (10, [.int 1, .ref pl, .ref ig, .ref sl, .ref kl, .int 0, .int 0, .int 0]))] H := hP
    have hD : va_D A [(pa, .inr (3, [.ref p_v, .int 0, .ref p_st, .ref p_ib, .ref p_di, .ref p_wa, .ref p_se, .ref p_vh, .ref p_re])), (b0, .inl (cI, 6, .inl zi)), (b1, .inl (cZ, 6, .inl zi)), (b4, .inl (cI, 4, .inl zi)), (p_v, .inl (cI, 4, .inl zi)), (p_st, .inl (cI, 4, .inl zi)), (p_ib, .inl (cZ, 4, .inl zi)), (p_di, .inl (cI, 4, .inl zi)), (p_wa, .inl (cI, 4, .inl zi)), (p_se, .inl (cI, 4, .inl zi)), (ou, .inl (cJ, 1, .inr (.inl zl))), (od, .inl (cD, 1, .inr (.inr (.inr (.inl zd))))), (mm, .inr (10, [.int 1, .ref pl, .ref ig, .ref sl, .ref kl, .int 0, .int 0, .int 0]))] := hD
    refine W.widen (k := 119) (n := 756) (Nat.le_refl _) (Nat.le_refl _) ?_
    have hw : r_12 = 0 := hw
    subst hw
    refine lv_istore (lv' := [(7, .int 0), (6, .int 1), (5, .int 0), (4, .ref od), (3, .ref ou), (2, .ref mm), (1, .ref x), (0, .ref b)]) hx hb dL_law_1463 hl (by decide) rfl (fun ls hl => ?_)
    refine lv_aload_n hx hb dL_law_1465 rfl (lv_at hl 5 rfl) ?_
    have hPc := hP.sub (ws' := [(mm, .inr (10, [.int 1, .ref pl, .ref ig, .ref sl, .ref kl, .int 0, .int 0, .int 0]))]) [12] rfl
    have hDc := hD.sub (ws' := [(mm, .inr (10, [.int 1, .ref pl, .ref ig, .ref sl, .ref kl, .int 0, .int 0, .int 0]))]) [12] (by decide) rfl
    have hKc := hK.sub (tys' := []) [] rfl
    have hFc := va_free (wc := [(mm, .inr (10, [.int 1, .ref pl, .ref ig, .ref sl, .ref kl, .int 0, .int 0, .int 0]))]) hD hS hA [12] rfl
    refine va_calli (va_runV (As := []) (rest := []) ⟨hx, hb, hml, hown, hts⟩ (c_X8_thrown l dC dI mm pl ig sl kl (1 : Int32) (0 : Int32) (0 : Int32) (0 : Int32) _ ) (cwV 0 hts gL_law_X8_thrown rfl rfl rfl (by decide +kernel) ⟨Nat.le_of_ble_eq_true rfl, Nat.le_of_ble_eq_true rfl⟩) ⟨pr_blind, va_recv hKc hPc (ci := 10) (q0 := 0) rfl rfl, fun U hU hW => ⟨rfl, pr_mk hU hW hPc hKc hDc⟩⟩ rfl rfl hl.1 rfl (lv_room (Nat.le_of_ble_eq_true rfl)) dL_law_1466 ⟨Nat.le_of_ble_eq_true rfl, Nat.le_of_ble_eq_true rfl⟩) hS (fun q _ h => hFc q h) hFc (fun r_14 u_13 t H1 locs ht hvm hw hB hz1 hk1 hS => ?_)
    obtain ⟨hP1, hK1, hD1⟩ := hB
    rw [ht] at hP1
    obtain ⟨hP, hD⟩ := va_join (wr := [(pa, .inr (3, [.ref p_v, .int 0, .ref p_st, .ref p_ib, .ref p_di, .ref p_wa, .ref p_se, .ref p_vh, .ref p_re])), (b0, .inl (cI, 6, .inl zi)), (b1, .inl (cZ, 6, .inl zi)), (b4, .inl (cI, 4, .inl zi)), (p_v, .inl (cI, 4, .inl zi)), (p_st, .inl (cI, 4, .inl zi)), (p_ib, .inl (cZ, 4, .inl zi)), (p_di, .inl (cI, 4, .inl zi)), (p_wa, .inl (cI, 4, .inl zi)), (p_se, .inl (cI, 4, .inl zi)), (ou, .inl (cJ, 1, .inr (.inl zl))), (od, .inl (cD, 1, .inr (.inr (.inr (.inl zd)))))]) (w1 := [(mm, .inr (10, [.int 1, .ref pl, .ref ig, .ref sl, .ref kl, .int 0, .int 0, .int 0]))]) hP hD [12] [0, 1, 2, 3, 4, 5, 6, 7, 8, 9, 10, 11] rfl rfl (by decide) (by decide) hk1 hFc hP1 hD1
    generalize H1 = H at hP hS ⊢
    have hP : va_P (dC, dI) vwCl [(pa, .inr (3, [.ref p_v, .int 0, .ref p_st, .ref p_ib, .ref p_di, .ref p_wa, .ref p_se, .ref p_vh, .ref p_re])), (b0, .inl (cI, 6, .inl zi)), (b1, .inl (cZ, 6, .inl zi)), (b4, .inl (cI, 4, .inl zi)), (p_v, .inl (cI, 4, .inl zi)), (p_st, .inl (cI, 4, .inl zi)), (p_ib, .inl (cZ, 4, .inl zi)), (p_di, .inl (cI, 4, .inl zi)), (p_wa, .inl (cI, 4, .inl zi)), (p_se, .inl (cI, 4, .inl zi)), (ou, .inl (cJ, 1, .inr (.inl zl))), (od, .inl (cD, 1, .inr (.inr (.inr (.inl zd))))), (mm, .inr (10, [.int 1, .ref pl, .ref ig, .ref sl, .ref kl, .int 0, .int 0, .int 0]))] H := hP
    have hD : va_D A [(pa, .inr (3, [.ref p_v, .int 0, .ref p_st, .ref p_ib, .ref p_di, .ref p_wa, .ref p_se, .ref p_vh, .ref p_re])), (b0, .inl (cI, 6, .inl zi)), (b1, .inl (cZ, 6, .inl zi)), (b4, .inl (cI, 4, .inl zi)), (p_v, .inl (cI, 4, .inl zi)), (p_st, .inl (cI, 4, .inl zi)), (p_ib, .inl (cZ, 4, .inl zi)), (p_di, .inl (cI, 4, .inl zi)), (p_wa, .inl (cI, 4, .inl zi)), (p_se, .inl (cI, 4, .inl zi)), (ou, .inl (cJ, 1, .inr (.inl zl))), (od, .inl (cD, 1, .inr (.inr (.inr (.inl zd))))), (mm, .inr (10, [.int 1, .ref pl, .ref ig, .ref sl, .ref kl, .int 0, .int 0, .int 0]))] := hD
    refine W.widen (k := 119) (n := 756) (Nat.le_refl _) (Nat.le_refl _) ?_
    have hw : r_14 = 1 := hw
    subst hw
    refine lv_iload hx hb dL_law_1469 (lv_at hl 1 rfl) ?_
    refine lv_icmp_eq (tgt := 1476) hx hb dL_law_1471 (by decide) (fun _ => ?_) (fun h9 => absurd h9 (by decide))
    refine lv_iload hx hb dL_law_1476 (lv_at hl 1 rfl) ?_
    refine lv_if_ne (tgt := 1493) hx hb dL_law_1478 (by decide) (fun _ => ?_) (fun h9 => absurd h9 (by decide))
    refine lv_goto (tgt := 2007) hx hb dL_law_1493 (by decide) ?_
    exact law_tail l C0 hAe hS (lv_sub hl [2, 7] rfl) (Nat.le_of_ble_eq_true rfl) (Nat.le_of_ble_eq_true rfl)
  · have hG0 : ¬ a1 < 1 := fun h => hB0 (Or.inl h)
    have hH0 : a1 ≤ 60 := Decidable.byContradiction (fun h => hB0 (Or.inr h))
    have hN0 : ¬ 60 < a1 := gN_g hH0
    by_cases hB1 : a2 < 0 ∨ ¬ a2 ≤ 2
    · have hM1 : a2 < 0 ∨ 2 < a2 := gN_b hB1
      refine lv_aload_n hx hb dL_law_1428 rfl (lv_at hl 4 rfl) ?_
      refine lv_aload_n hx hb dL_law_1429 rfl (lv_at hl 5 rfl) ?_
      refine lv_iload hx hb dL_law_1430 (lv_at hl 0 rfl) ?_
      refine lv_iconst (v := 1) hx hb dL_law_1432 (by decide) ?_
      refine lv_iadd hx hb dL_law_1433 ?_
      refine lv_topi (fun y_15 ey_15 => ?_)
      obtain rfl : y_15 = 1 := ey_15.trans (by decide)
      refine va_sld hx hb hX hbl hbA hS (by unfold vp_in; decide) dL_law_1434 ?_
      refine lv_topi (fun y_16 ey_16 => ?_)
      obtain rfl : a1 = y_16 := (ey_16.trans h_a1.symm).symm
      refine lv_aload_n hx hb dL_law_1435 rfl (lv_at hl 5 rfl) ?_
      refine lv_iload hx hb dL_law_1436 (lv_at hl 0 rfl) ?_
      refine lv_iconst (v := 2) hx hb dL_law_1438 (by decide) ?_
      refine lv_iadd hx hb dL_law_1439 ?_
      refine lv_topi (fun y_17 ey_17 => ?_)
      obtain rfl : y_17 = 2 := ey_17.trans (by decide)
      refine va_sld hx hb hX hbl hbA hS (by unfold vp_in; decide) dL_law_1440 ?_
      refine lv_topi (fun y_18 ey_18 => ?_)
      obtain rfl : a2 = y_18 := (ey_18.trans h_a2.symm).symm
      refine lv_aload_n hx hb dL_law_1441 rfl (lv_at hl 2 rfl) ?_
      have hPc := hP.sub (ws' := [(x, .inr (7, [.ref bx, .ref po, .ref tr, .ref pa, .ref sp])), (bx, .inr (2, [.ref b0, .ref b1, .int 0, .int 0, .ref b4, .int 0, .ref b6, .int 0, .int 0, .int 0, .int 0]))]) [0, 1] rfl
      have hDc := hD.sub (ws' := [(x, .inr (7, [.ref bx, .ref po, .ref tr, .ref pa, .ref sp])), (bx, .inr (2, [.ref b0, .ref b1, .int 0, .int 0, .ref b4, .int 0, .ref b6, .int 0, .int 0, .int 0, .int 0]))]) [0, 1] (by decide) rfl
      have hKc := hK.sub (tys' := []) [] rfl
      have hFc := va_free (wc := [(x, .inr (7, [.ref bx, .ref po, .ref tr, .ref pa, .ref sp])), (bx, .inr (2, [.ref b0, .ref b1, .int 0, .int 0, .ref b4, .int 0, .ref b6, .int 0, .int 0, .int 0, .int 0]))]) hD hS hA [0, 1] rfl
      refine va_calli (vx_runSW (As := [.ref x, .int a1, .int a2, .ref ou]) (rest := []) ⟨hx, hb, hml, hown, hts⟩ (h1_L_overhang l hfl dC dI x po tr sp pa bx b0 b1 b4 b6 a1 a2 ou ((lx_s314 hLX).choose) ((lx_s314 hLX).choose_spec.choose) _ hG0 hH0 hB1) (vx_cwSW 4 hts gL_law_L_overhang rfl rfl rfl (by decide +kernel) ⟨Nat.le_of_ble_eq_true rfl, Nat.le_of_ble_eq_true rfl⟩) ⟨pn_blind (fun _ _ _ _ h => h), fun U hU hW => ⟨rfl, pr_mk hU hW hPc hKc hDc, xs_mk hU hW hS hFc (lx_xa hLX (lx_s314 hLX).choose_spec.choose_spec), trivial⟩⟩ rfl rfl hl.1 rfl (lv_room (Nat.le_of_ble_eq_true rfl)) dL_law_1442 ⟨Nat.le_of_ble_eq_true rfl, Nat.le_of_ble_eq_true rfl⟩) hS (fun q _ h => hFc q h) hFc (fun r_20 u_19 t H1 locs ht hvm hw hB hz1 hk1 hS => ?_)
      obtain ⟨hP1, hK1, hD1⟩ := hB
      rw [ht] at hP1
      obtain ⟨hP, hD⟩ := va_join (wr := [(pa, .inr (3, [.ref p_v, .int 0, .ref p_st, .ref p_ib, .ref p_di, .ref p_wa, .ref p_se, .ref p_vh, .ref p_re])), (b0, .inl (cI, 6, .inl zi)), (b1, .inl (cZ, 6, .inl zi)), (b4, .inl (cI, 4, .inl zi)), (p_v, .inl (cI, 4, .inl zi)), (p_st, .inl (cI, 4, .inl zi)), (p_ib, .inl (cZ, 4, .inl zi)), (p_di, .inl (cI, 4, .inl zi)), (p_wa, .inl (cI, 4, .inl zi)), (p_se, .inl (cI, 4, .inl zi)), (mm, .inr (10, [.int 0, .ref pl, .ref ig, .ref sl, .ref kl, .int 0, .int 0, .int 0])), (pl, .inr (1, [.int 0, .ref dz, .int 0])), (sl, .inr (1, [.int 0, .ref dz, .int 0])), (kl, .inr (1, [.int 0, .ref dz, .int 0])), (ou, .inl (cJ, 1, .inr (.inl zl))), (od, .inl (cD, 1, .inr (.inr (.inr (.inl zd)))))]) (w1 := []) hP hD [0, 1] [2, 3, 4, 5, 6, 7, 8, 9, 10, 11, 12, 13, 14, 15, 16, 17] rfl rfl (by decide) (by decide) hk1 hFc hP1 hD1
      generalize H1 = H at hP hS ⊢
      have hP : va_P (dC, dI) vwCl [(pa, .inr (3, [.ref p_v, .int 0, .ref p_st, .ref p_ib, .ref p_di, .ref p_wa, .ref p_se, .ref p_vh, .ref p_re])), (b0, .inl (cI, 6, .inl zi)), (b1, .inl (cZ, 6, .inl zi)), (b4, .inl (cI, 4, .inl zi)), (p_v, .inl (cI, 4, .inl zi)), (p_st, .inl (cI, 4, .inl zi)), (p_ib, .inl (cZ, 4, .inl zi)), (p_di, .inl (cI, 4, .inl zi)), (p_wa, .inl (cI, 4, .inl zi)), (p_se, .inl (cI, 4, .inl zi)), (mm, .inr (10, [.int 0, .ref pl, .ref ig, .ref sl, .ref kl, .int 0, .int 0, .int 0])), (pl, .inr (1, [.int 0, .ref dz, .int 0])), (sl, .inr (1, [.int 0, .ref dz, .int 0])), (kl, .inr (1, [.int 0, .ref dz, .int 0])), (ou, .inl (cJ, 1, .inr (.inl zl))), (od, .inl (cD, 1, .inr (.inr (.inr (.inl zd)))))] H := hP
      have hD : va_D A [(pa, .inr (3, [.ref p_v, .int 0, .ref p_st, .ref p_ib, .ref p_di, .ref p_wa, .ref p_se, .ref p_vh, .ref p_re])), (b0, .inl (cI, 6, .inl zi)), (b1, .inl (cZ, 6, .inl zi)), (b4, .inl (cI, 4, .inl zi)), (p_v, .inl (cI, 4, .inl zi)), (p_st, .inl (cI, 4, .inl zi)), (p_ib, .inl (cZ, 4, .inl zi)), (p_di, .inl (cI, 4, .inl zi)), (p_wa, .inl (cI, 4, .inl zi)), (p_se, .inl (cI, 4, .inl zi)), (mm, .inr (10, [.int 0, .ref pl, .ref ig, .ref sl, .ref kl, .int 0, .int 0, .int 0])), (pl, .inr (1, [.int 0, .ref dz, .int 0])), (sl, .inr (1, [.int 0, .ref dz, .int 0])), (kl, .inr (1, [.int 0, .ref dz, .int 0])), (ou, .inl (cJ, 1, .inr (.inl zl))), (od, .inl (cD, 1, .inr (.inr (.inr (.inl zd)))))] := hD
      refine W.widen (k := 119) (n := 756) (Nat.le_of_ble_eq_true rfl) (Nat.le_of_ble_eq_true rfl) ?_
      have hw : r_20 = 1 := hw
      subst hw
      refine lv_istore (lv' := [(6, .int 1), (5, .int 0), (4, .ref od), (3, .ref ou), (2, .ref mm), (1, .ref x), (0, .ref b)]) hx hb dL_law_1445 hl (by decide) rfl (fun ls hl => ?_)
      refine lv_aload_n hx hb dL_law_1447 rfl (lv_at hl 4 rfl) ?_
      refine lv_aload_n hx hb dL_law_1448 rfl (lv_at hl 6 rfl) ?_
      refine lv_iload hx hb dL_law_1449 (lv_at hl 1 rfl) ?_
      refine lv_iconst (v := 1) hx hb dL_law_1451 (by decide) ?_
      refine lv_iadd hx hb dL_law_1452 ?_
      refine lv_topi (fun y_21 ey_21 => ?_)
      obtain rfl : y_21 = 1 := ey_21.trans (by decide)
      refine va_sld hx hb hX hbl hbA hS (by unfold vp_in; decide) dL_law_1453 ?_
      refine lv_topi (fun y_22 ey_22 => ?_)
      obtain rfl : a1 = y_22 := (ey_22.trans h_a1.symm).symm
      refine lv_aload_n hx hb dL_law_1454 rfl (lv_at hl 6 rfl) ?_
      refine lv_iload hx hb dL_law_1455 (lv_at hl 1 rfl) ?_
      refine lv_iconst (v := 2) hx hb dL_law_1457 (by decide) ?_
      refine lv_iadd hx hb dL_law_1458 ?_
      refine lv_topi (fun y_23 ey_23 => ?_)
      obtain rfl : y_23 = 2 := ey_23.trans (by decide)
      refine va_sld hx hb hX hbl hbA hS (by unfold vp_in; decide) dL_law_1459 ?_
      refine lv_topi (fun y_24 ey_24 => ?_)
      obtain rfl : a2 = y_24 := (ey_24.trans h_a2.symm).symm
      have hPc := hP.sub (ws' := [(mm, .inr (10, [.int 0, .ref pl, .ref ig, .ref sl, .ref kl, .int 0, .int 0, .int 0])), (pl, .inr (1, [.int 0, .ref dz, .int 0])), (sl, .inr (1, [.int 0, .ref dz, .int 0])), (kl, .inr (1, [.int 0, .ref dz, .int 0]))]) [10, 11, 12, 13] rfl
      have hDc := hD.sub (ws' := [(mm, .inr (10, [.int 0, .ref pl, .ref ig, .ref sl, .ref kl, .int 0, .int 0, .int 0])), (pl, .inr (1, [.int 0, .ref dz, .int 0])), (sl, .inr (1, [.int 0, .ref dz, .int 0])), (kl, .inr (1, [.int 0, .ref dz, .int 0]))]) [10, 11, 12, 13] (by decide) rfl
      have hKc := hK.sub (tys' := []) [] rfl
      have hFc := va_free (wc := [(mm, .inr (10, [.int 0, .ref pl, .ref ig, .ref sl, .ref kl, .int 0, .int 0, .int 0])), (pl, .inr (1, [.int 0, .ref dz, .int 0])), (sl, .inr (1, [.int 0, .ref dz, .int 0])), (kl, .inr (1, [.int 0, .ref dz, .int 0]))]) hD hS hA [10, 11, 12, 13] rfl
      refine va_calli (va_runV (As := [.int a1, .int a2]) (rest := []) ⟨hx, hb, hml, hown, hts⟩ (c1_X8_overhang l dC dI mm pl ig sl kl dz a1 a2 _ hG0 hN0 hM1) (cwV 2 hts gL_law_X8_overhang rfl rfl rfl (by decide +kernel) ⟨Nat.le_of_ble_eq_true rfl, Nat.le_of_ble_eq_true rfl⟩) ⟨pe_blind mo_bl, va_recv hKc hPc (ci := 10) (q0 := 0) rfl rfl, fun U hU hW => ⟨rfl, pr_mk hU hW hPc hKc hDc, mo_mk hW (lx_m hLX)⟩⟩ rfl rfl hl.1 rfl (lv_room (Nat.le_of_ble_eq_true rfl)) dL_law_1460 ⟨Nat.le_of_ble_eq_true rfl, Nat.le_of_ble_eq_true rfl⟩) hS (fun q _ h => hFc q h) hFc (fun r_26 u_25 t H1 locs ht hvm hw hB hz1 hk1 hS => ?_)
      obtain ⟨hP1, hK1, hD1⟩ := hB
      rw [ht] at hP1
      obtain ⟨hP, hD⟩ := va_join (wr := [(pa, .inr (3, [.ref p_v, .int 0, .ref p_st, .ref p_ib, .ref p_di, .ref p_wa, .ref p_se, .ref p_vh, .ref p_re])), (b0, .inl (cI, 6, .inl zi)), (b1, .inl (cZ, 6, .inl zi)), (b4, .inl (cI, 4, .inl zi)), (p_v, .inl (cI, 4, .inl zi)), (p_st, .inl (cI, 4, .inl zi)), (p_ib, .inl (cZ, 4, .inl zi)), (p_di, .inl (cI, 4, .inl zi)), (p_wa, .inl (cI, 4, .inl zi)), (p_se, .inl (cI, 4, .inl zi)), (ou, .inl (cJ, 1, .inr (.inl zl))), (od, .inl (cD, 1, .inr (.inr (.inr (.inl zd)))))]) (w1 := [(mm, .inr (10, [.int 1, .ref pl, .ref ig, .ref sl, .ref kl, .int 0, .int 0, .int 0]))]) hP hD [10, 11, 12, 13] [0, 1, 2, 3, 4, 5, 6, 7, 8, 9, 14, 15] rfl rfl (by decide) (by decide) hk1 hFc hP1 hD1
      generalize H1 = H at hP hS ⊢
      have hP : va_P (dC, dI) vwCl [(pa, .inr (3, [.ref p_v, .int 0, .ref p_st, .ref p_ib, .ref p_di, .ref p_wa, .ref p_se, .ref p_vh, .ref p_re])), (b0, .inl (cI, 6, .inl zi)), (b1, .inl (cZ, 6, .inl zi)), (b4, .inl (cI, 4, .inl zi)), (p_v, .inl (cI, 4, .inl zi)), (p_st, .inl (cI, 4, .inl zi)), (p_ib, .inl (cZ, 4, .inl zi)), (p_di, .inl (cI, 4, .inl zi)), (p_wa, .inl (cI, 4, .inl zi)), (p_se, .inl (cI, 4, .inl zi)), (ou, .inl (cJ, 1, .inr (.inl zl))), (od, .inl (cD, 1, .inr (.inr (.inr (.inl zd))))), (mm, .inr (10, [.int 1, .ref pl, .ref ig, .ref sl, .ref kl, .int 0, .int 0, .int 0]))] H := hP
      have hD : va_D A [(pa, .inr (3, [.ref p_v, .int 0, .ref p_st, .ref p_ib, .ref p_di, .ref p_wa, .ref p_se, .ref p_vh, .ref p_re])), (b0, .inl (cI, 6, .inl zi)), (b1, .inl (cZ, 6, .inl zi)), (b4, .inl (cI, 4, .inl zi)), (p_v, .inl (cI, 4, .inl zi)), (p_st, .inl (cI, 4, .inl zi)), (p_ib, .inl (cZ, 4, .inl zi)), (p_di, .inl (cI, 4, .inl zi)), (p_wa, .inl (cI, 4, .inl zi)), (p_se, .inl (cI, 4, .inl zi)), (ou, .inl (cJ, 1, .inr (.inl zl))), (od, .inl (cD, 1, .inr (.inr (.inr (.inl zd))))), (mm, .inr (10, [.int 1, .ref pl, .ref ig, .ref sl, .ref kl, .int 0, .int 0, .int 0]))] := hD
      refine W.widen (k := 119) (n := 756) (Nat.le_refl _) (Nat.le_refl _) ?_
      have hw : r_26 = 0 := hw
      subst hw
      refine lv_istore (lv' := [(7, .int 0), (6, .int 1), (5, .int 0), (4, .ref od), (3, .ref ou), (2, .ref mm), (1, .ref x), (0, .ref b)]) hx hb dL_law_1463 hl (by decide) rfl (fun ls hl => ?_)
      refine lv_aload_n hx hb dL_law_1465 rfl (lv_at hl 5 rfl) ?_
      have hPc := hP.sub (ws' := [(mm, .inr (10, [.int 1, .ref pl, .ref ig, .ref sl, .ref kl, .int 0, .int 0, .int 0]))]) [12] rfl
      have hDc := hD.sub (ws' := [(mm, .inr (10, [.int 1, .ref pl, .ref ig, .ref sl, .ref kl, .int 0, .int 0, .int 0]))]) [12] (by decide) rfl
      have hKc := hK.sub (tys' := []) [] rfl
      have hFc := va_free (wc := [(mm, .inr (10, [.int 1, .ref pl, .ref ig, .ref sl, .ref kl, .int 0, .int 0, .int 0]))]) hD hS hA [12] rfl
      refine va_calli (va_runV (As := []) (rest := []) ⟨hx, hb, hml, hown, hts⟩ (c_X8_thrown l dC dI mm pl ig sl kl (1 : Int32) (0 : Int32) (0 : Int32) (0 : Int32) _ ) (cwV 0 hts gL_law_X8_thrown rfl rfl rfl (by decide +kernel) ⟨Nat.le_of_ble_eq_true rfl, Nat.le_of_ble_eq_true rfl⟩) ⟨pr_blind, va_recv hKc hPc (ci := 10) (q0 := 0) rfl rfl, fun U hU hW => ⟨rfl, pr_mk hU hW hPc hKc hDc⟩⟩ rfl rfl hl.1 rfl (lv_room (Nat.le_of_ble_eq_true rfl)) dL_law_1466 ⟨Nat.le_of_ble_eq_true rfl, Nat.le_of_ble_eq_true rfl⟩) hS (fun q _ h => hFc q h) hFc (fun r_28 u_27 t H1 locs ht hvm hw hB hz1 hk1 hS => ?_)
      obtain ⟨hP1, hK1, hD1⟩ := hB
      rw [ht] at hP1
      obtain ⟨hP, hD⟩ := va_join (wr := [(pa, .inr (3, [.ref p_v, .int 0, .ref p_st, .ref p_ib, .ref p_di, .ref p_wa, .ref p_se, .ref p_vh, .ref p_re])), (b0, .inl (cI, 6, .inl zi)), (b1, .inl (cZ, 6, .inl zi)), (b4, .inl (cI, 4, .inl zi)), (p_v, .inl (cI, 4, .inl zi)), (p_st, .inl (cI, 4, .inl zi)), (p_ib, .inl (cZ, 4, .inl zi)), (p_di, .inl (cI, 4, .inl zi)), (p_wa, .inl (cI, 4, .inl zi)), (p_se, .inl (cI, 4, .inl zi)), (ou, .inl (cJ, 1, .inr (.inl zl))), (od, .inl (cD, 1, .inr (.inr (.inr (.inl zd)))))]) (w1 := [(mm, .inr (10, [.int 1, .ref pl, .ref ig, .ref sl, .ref kl, .int 0, .int 0, .int 0]))]) hP hD [12] [0, 1, 2, 3, 4, 5, 6, 7, 8, 9, 10, 11] rfl rfl (by decide) (by decide) hk1 hFc hP1 hD1
      generalize H1 = H at hP hS ⊢
      have hP : va_P (dC, dI) vwCl [(pa, .inr (3, [.ref p_v, .int 0, .ref p_st, .ref p_ib, .ref p_di, .ref p_wa, .ref p_se, .ref p_vh, .ref p_re])), (b0, .inl (cI, 6, .inl zi)), (b1, .inl (cZ, 6, .inl zi)), (b4, .inl (cI, 4, .inl zi)), (p_v, .inl (cI, 4, .inl zi)), (p_st, .inl (cI, 4, .inl zi)), (p_ib, .inl (cZ, 4, .inl zi)), (p_di, .inl (cI, 4, .inl zi)), (p_wa, .inl (cI, 4, .inl zi)), (p_se, .inl (cI, 4, .inl zi)), (ou, .inl (cJ, 1, .inr (.inl zl))), (od, .inl (cD, 1, .inr (.inr (.inr (.inl zd))))), (mm, .inr (10, [.int 1, .ref pl, .ref ig, .ref sl, .ref kl, .int 0, .int 0, .int 0]))] H := hP
      have hD : va_D A [(pa, .inr (3, [.ref p_v, .int 0, .ref p_st, .ref p_ib, .ref p_di, .ref p_wa, .ref p_se, .ref p_vh, .ref p_re])), (b0, .inl (cI, 6, .inl zi)), (b1, .inl (cZ, 6, .inl zi)), (b4, .inl (cI, 4, .inl zi)), (p_v, .inl (cI, 4, .inl zi)), (p_st, .inl (cI, 4, .inl zi)), (p_ib, .inl (cZ, 4, .inl zi)), (p_di, .inl (cI, 4, .inl zi)), (p_wa, .inl (cI, 4, .inl zi)), (p_se, .inl (cI, 4, .inl zi)), (ou, .inl (cJ, 1, .inr (.inl zl))), (od, .inl (cD, 1, .inr (.inr (.inr (.inl zd))))), (mm, .inr (10, [.int 1, .ref pl, .ref ig, .ref sl, .ref kl, .int 0, .int 0, .int 0]))] := hD
      refine W.widen (k := 119) (n := 756) (Nat.le_refl _) (Nat.le_refl _) ?_
      have hw : r_28 = 1 := hw
      subst hw
      refine lv_iload hx hb dL_law_1469 (lv_at hl 1 rfl) ?_
      refine lv_icmp_eq (tgt := 1476) hx hb dL_law_1471 (by decide) (fun _ => ?_) (fun h9 => absurd h9 (by decide))
      refine lv_iload hx hb dL_law_1476 (lv_at hl 1 rfl) ?_
      refine lv_if_ne (tgt := 1493) hx hb dL_law_1478 (by decide) (fun _ => ?_) (fun h9 => absurd h9 (by decide))
      refine lv_goto (tgt := 2007) hx hb dL_law_1493 (by decide) ?_
      exact law_tail l C0 hAe hS (lv_sub hl [2, 7] rfl) (Nat.le_of_ble_eq_true rfl) (Nat.le_of_ble_eq_true rfl)
    · have hG1 : ¬ a2 < 0 := fun h => hB1 (Or.inl h)
      have hH1 : a2 ≤ 2 := Decidable.byContradiction (fun h => hB1 (Or.inr h))
      have hN1 : ¬ 2 < a2 := gN_g hH1
      refine lv_aload_n hx hb dL_law_1428 rfl (lv_at hl 4 rfl) ?_
      refine lv_aload_n hx hb dL_law_1429 rfl (lv_at hl 5 rfl) ?_
      refine lv_iload hx hb dL_law_1430 (lv_at hl 0 rfl) ?_
      refine lv_iconst (v := 1) hx hb dL_law_1432 (by decide) ?_
      refine lv_iadd hx hb dL_law_1433 ?_
      refine lv_topi (fun y_29 ey_29 => ?_)
      obtain rfl : y_29 = 1 := ey_29.trans (by decide)
      refine va_sld hx hb hX hbl hbA hS (by unfold vp_in; decide) dL_law_1434 ?_
      refine lv_topi (fun y_30 ey_30 => ?_)
      obtain rfl : a1 = y_30 := (ey_30.trans h_a1.symm).symm
      refine lv_aload_n hx hb dL_law_1435 rfl (lv_at hl 5 rfl) ?_
      refine lv_iload hx hb dL_law_1436 (lv_at hl 0 rfl) ?_
      refine lv_iconst (v := 2) hx hb dL_law_1438 (by decide) ?_
      refine lv_iadd hx hb dL_law_1439 ?_
      refine lv_topi (fun y_31 ey_31 => ?_)
      obtain rfl : y_31 = 2 := ey_31.trans (by decide)
      refine va_sld hx hb hX hbl hbA hS (by unfold vp_in; decide) dL_law_1440 ?_
      refine lv_topi (fun y_32 ey_32 => ?_)
      obtain rfl : a2 = y_32 := (ey_32.trans h_a2.symm).symm
      refine lv_aload_n hx hb dL_law_1441 rfl (lv_at hl 2 rfl) ?_
      have hPc := hP.sub (ws' := [(x, .inr (7, [.ref bx, .ref po, .ref tr, .ref pa, .ref sp])), (bx, .inr (2, [.ref b0, .ref b1, .int 0, .int 0, .ref b4, .int 0, .ref b6, .int 0, .int 0, .int 0, .int 0])), (pa, .inr (3, [.ref p_v, .int 0, .ref p_st, .ref p_ib, .ref p_di, .ref p_wa, .ref p_se, .ref p_vh, .ref p_re])), (p_v, .inl (cI, 4, .inl zi)), (p_st, .inl (cI, 4, .inl zi)), (p_ib, .inl (cZ, 4, .inl zi)), (p_di, .inl (cI, 4, .inl zi)), (p_wa, .inl (cI, 4, .inl zi)), (p_se, .inl (cI, 4, .inl zi)), (ou, .inl (cJ, 1, .inr (.inl zl)))]) [0, 1, 2, 6, 7, 8, 9, 10, 11, 16] rfl
      have hDc := hD.sub (ws' := [(x, .inr (7, [.ref bx, .ref po, .ref tr, .ref pa, .ref sp])), (bx, .inr (2, [.ref b0, .ref b1, .int 0, .int 0, .ref b4, .int 0, .ref b6, .int 0, .int 0, .int 0, .int 0])), (pa, .inr (3, [.ref p_v, .int 0, .ref p_st, .ref p_ib, .ref p_di, .ref p_wa, .ref p_se, .ref p_vh, .ref p_re])), (p_v, .inl (cI, 4, .inl zi)), (p_st, .inl (cI, 4, .inl zi)), (p_ib, .inl (cZ, 4, .inl zi)), (p_di, .inl (cI, 4, .inl zi)), (p_wa, .inl (cI, 4, .inl zi)), (p_se, .inl (cI, 4, .inl zi)), (ou, .inl (cJ, 1, .inr (.inl zl)))]) [0, 1, 2, 6, 7, 8, 9, 10, 11, 16] (by decide) rfl
      have hKc := hK.sub (tys' := [(cI, .int), (cZ, .boolean), (cJ, .long)]) [0, 1, 2] rfl
      have hFc := va_free (wc := [(x, .inr (7, [.ref bx, .ref po, .ref tr, .ref pa, .ref sp])), (bx, .inr (2, [.ref b0, .ref b1, .int 0, .int 0, .ref b4, .int 0, .ref b6, .int 0, .int 0, .int 0, .int 0])), (pa, .inr (3, [.ref p_v, .int 0, .ref p_st, .ref p_ib, .ref p_di, .ref p_wa, .ref p_se, .ref p_vh, .ref p_re])), (p_v, .inl (cI, 4, .inl zi)), (p_st, .inl (cI, 4, .inl zi)), (p_ib, .inl (cZ, 4, .inl zi)), (p_di, .inl (cI, 4, .inl zi)), (p_wa, .inl (cI, 4, .inl zi)), (p_se, .inl (cI, 4, .inl zi)), (ou, .inl (cJ, 1, .inr (.inl zl)))]) hD hS hA [0, 1, 2, 6, 7, 8, 9, 10, 11, 16] rfl
      refine va_calli (vx_runSW (As := [.ref x, .int a1, .int a2, .ref ou]) (rest := []) ⟨hx, hb, hml, hown, hts⟩ (h_L_overhang l dC dI x po tr sp bx b0 b1 b4 b6 pa p_v p_st p_ib p_di p_wa p_se p_vh p_re cI cZ a1 a2 ou cJ _ hG0 hH0 hG1 hH1) (vx_cwSW 4 hts gL_law_L_overhang rfl rfl rfl (by decide +kernel) ⟨Nat.le_of_ble_eq_true rfl, Nat.le_of_ble_eq_true rfl⟩) ⟨pr_blind, fun U hU hW => ⟨rfl, pr_mk hU hW hPc hKc hDc⟩⟩ rfl rfl hl.1 rfl (lv_room (Nat.le_of_ble_eq_true rfl)) dL_law_1442 ⟨Nat.le_of_ble_eq_true rfl, Nat.le_of_ble_eq_true rfl⟩) hS (fun q _ h => hFc q h) hFc (fun r_34 u_33 t H1 locs ht hvm hw hB hz1 hk1 hS => ?_)
      obtain ⟨hP1, hK1, hD1⟩ := hB
      rw [ht] at hP1
      obtain ⟨hP, hD⟩ := va_join (wr := [(b0, .inl (cI, 6, .inl zi)), (b1, .inl (cZ, 6, .inl zi)), (b4, .inl (cI, 4, .inl zi)), (mm, .inr (10, [.int 0, .ref pl, .ref ig, .ref sl, .ref kl, .int 0, .int 0, .int 0])), (pl, .inr (1, [.int 0, .ref dz, .int 0])), (sl, .inr (1, [.int 0, .ref dz, .int 0])), (kl, .inr (1, [.int 0, .ref dz, .int 0])), (od, .inl (cD, 1, .inr (.inr (.inr (.inl zd)))))]) (w1 := [(ou, .inl (cJ, 1, .inr (.inl zl)))]) hP hD [0, 1, 2, 6, 7, 8, 9, 10, 11, 16] [3, 4, 5, 12, 13, 14, 15, 17] rfl rfl (by decide) (by decide) hk1 hFc hP1 hD1
      generalize H1 = H at hP hS ⊢
      have hP : va_P (dC, dI) vwCl [(b0, .inl (cI, 6, .inl zi)), (b1, .inl (cZ, 6, .inl zi)), (b4, .inl (cI, 4, .inl zi)), (mm, .inr (10, [.int 0, .ref pl, .ref ig, .ref sl, .ref kl, .int 0, .int 0, .int 0])), (pl, .inr (1, [.int 0, .ref dz, .int 0])), (sl, .inr (1, [.int 0, .ref dz, .int 0])), (kl, .inr (1, [.int 0, .ref dz, .int 0])), (od, .inl (cD, 1, .inr (.inr (.inr (.inl zd))))), (ou, .inl (cJ, 1, .inr (.inl zl)))] H := hP
      have hD : va_D A [(b0, .inl (cI, 6, .inl zi)), (b1, .inl (cZ, 6, .inl zi)), (b4, .inl (cI, 4, .inl zi)), (mm, .inr (10, [.int 0, .ref pl, .ref ig, .ref sl, .ref kl, .int 0, .int 0, .int 0])), (pl, .inr (1, [.int 0, .ref dz, .int 0])), (sl, .inr (1, [.int 0, .ref dz, .int 0])), (kl, .inr (1, [.int 0, .ref dz, .int 0])), (od, .inl (cD, 1, .inr (.inr (.inr (.inl zd))))), (ou, .inl (cJ, 1, .inr (.inl zl)))] := hD
      refine W.widen (k := 118) (n := 750) (Nat.le_refl _) (Nat.le_refl _) ?_
      have hw : r_34 = 0 := hw
      subst hw
      refine lv_istore (lv' := [(6, .int 0), (5, .int 0), (4, .ref od), (3, .ref ou), (2, .ref mm), (1, .ref x), (0, .ref b)]) hx hb dL_law_1445 hl (by decide) rfl (fun ls hl => ?_)
      refine lv_aload_n hx hb dL_law_1447 rfl (lv_at hl 4 rfl) ?_
      refine lv_aload_n hx hb dL_law_1448 rfl (lv_at hl 6 rfl) ?_
      refine lv_iload hx hb dL_law_1449 (lv_at hl 1 rfl) ?_
      refine lv_iconst (v := 1) hx hb dL_law_1451 (by decide) ?_
      refine lv_iadd hx hb dL_law_1452 ?_
      refine lv_topi (fun y_35 ey_35 => ?_)
      obtain rfl : y_35 = 1 := ey_35.trans (by decide)
      refine va_sld hx hb hX hbl hbA hS (by unfold vp_in; decide) dL_law_1453 ?_
      refine lv_topi (fun y_36 ey_36 => ?_)
      obtain rfl : a1 = y_36 := (ey_36.trans h_a1.symm).symm
      refine lv_aload_n hx hb dL_law_1454 rfl (lv_at hl 6 rfl) ?_
      refine lv_iload hx hb dL_law_1455 (lv_at hl 1 rfl) ?_
      refine lv_iconst (v := 2) hx hb dL_law_1457 (by decide) ?_
      refine lv_iadd hx hb dL_law_1458 ?_
      refine lv_topi (fun y_37 ey_37 => ?_)
      obtain rfl : y_37 = 2 := ey_37.trans (by decide)
      refine va_sld hx hb hX hbl hbA hS (by unfold vp_in; decide) dL_law_1459 ?_
      refine lv_topi (fun y_38 ey_38 => ?_)
      obtain rfl : a2 = y_38 := (ey_38.trans h_a2.symm).symm
      have hPc := hP.sub (ws' := [(mm, .inr (10, [.int 0, .ref pl, .ref ig, .ref sl, .ref kl, .int 0, .int 0, .int 0])), (pl, .inr (1, [.int 0, .ref dz, .int 0])), (sl, .inr (1, [.int 0, .ref dz, .int 0])), (kl, .inr (1, [.int 0, .ref dz, .int 0]))]) [3, 4, 5, 6] rfl
      have hDc := hD.sub (ws' := [(mm, .inr (10, [.int 0, .ref pl, .ref ig, .ref sl, .ref kl, .int 0, .int 0, .int 0])), (pl, .inr (1, [.int 0, .ref dz, .int 0])), (sl, .inr (1, [.int 0, .ref dz, .int 0])), (kl, .inr (1, [.int 0, .ref dz, .int 0]))]) [3, 4, 5, 6] (by decide) rfl
      have hKc := hK.sub (tys' := []) [] rfl
      have hFc := va_free (wc := [(mm, .inr (10, [.int 0, .ref pl, .ref ig, .ref sl, .ref kl, .int 0, .int 0, .int 0])), (pl, .inr (1, [.int 0, .ref dz, .int 0])), (sl, .inr (1, [.int 0, .ref dz, .int 0])), (kl, .inr (1, [.int 0, .ref dz, .int 0]))]) hD hS hA [3, 4, 5, 6] rfl
      refine va_calli (va_runV (As := [.int a1, .int a2]) (rest := []) ⟨hx, hb, hml, hown, hts⟩ (c_X8_overhang l dC dI mm pl ig sl kl dz a1 a2 _ hG0 hN0 hG1 hN1) (cwV 2 hts gL_law_X8_overhang rfl rfl rfl (by decide +kernel) ⟨Nat.le_of_ble_eq_true rfl, Nat.le_of_ble_eq_true rfl⟩) ⟨pe_blind mo_bl, va_recv hKc hPc (ci := 10) (q0 := 0) rfl rfl, fun U hU hW => ⟨rfl, pr_mk hU hW hPc hKc hDc, mo_mk hW (lx_m hLX)⟩⟩ rfl rfl hl.1 rfl (lv_room (Nat.le_of_ble_eq_true rfl)) dL_law_1460 ⟨Nat.le_of_ble_eq_true rfl, Nat.le_of_ble_eq_true rfl⟩) hS (fun q _ h => hFc q h) hFc (fun r_40 u_39 t H1 locs ht hvm hw hB hz1 hk1 hS => ?_)
      obtain ⟨hP1, hK1, hD1⟩ := hB
      rw [ht] at hP1
      obtain ⟨hP, hD⟩ := va_join (wr := [(b0, .inl (cI, 6, .inl zi)), (b1, .inl (cZ, 6, .inl zi)), (b4, .inl (cI, 4, .inl zi)), (od, .inl (cD, 1, .inr (.inr (.inr (.inl zd))))), (ou, .inl (cJ, 1, .inr (.inl zl)))]) (w1 := [(mm, .inr (10, [.int 0, .ref pl, .ref ig, .ref sl, .ref kl, .int 0, .int 0, .int 0]))]) hP hD [3, 4, 5, 6] [0, 1, 2, 7, 8] rfl rfl (by decide) (by decide) hk1 hFc hP1 hD1
      generalize H1 = H at hP hS ⊢
      have hP : va_P (dC, dI) vwCl [(b0, .inl (cI, 6, .inl zi)), (b1, .inl (cZ, 6, .inl zi)), (b4, .inl (cI, 4, .inl zi)), (od, .inl (cD, 1, .inr (.inr (.inr (.inl zd))))), (ou, .inl (cJ, 1, .inr (.inl zl))), (mm, .inr (10, [.int 0, .ref pl, .ref ig, .ref sl, .ref kl, .int 0, .int 0, .int 0]))] H := hP
      have hD : va_D A [(b0, .inl (cI, 6, .inl zi)), (b1, .inl (cZ, 6, .inl zi)), (b4, .inl (cI, 4, .inl zi)), (od, .inl (cD, 1, .inr (.inr (.inr (.inl zd))))), (ou, .inl (cJ, 1, .inr (.inl zl))), (mm, .inr (10, [.int 0, .ref pl, .ref ig, .ref sl, .ref kl, .int 0, .int 0, .int 0]))] := hD
      refine W.widen (k := 122) (n := 770) (Nat.le_of_ble_eq_true rfl) (Nat.le_of_ble_eq_true rfl) ?_
      have hw : r_40 = 0 := hw
      subst hw
      refine lv_istore (lv' := [(7, .int 0), (6, .int 0), (5, .int 0), (4, .ref od), (3, .ref ou), (2, .ref mm), (1, .ref x), (0, .ref b)]) hx hb dL_law_1463 hl (by decide) rfl (fun ls hl => ?_)
      refine lv_aload_n hx hb dL_law_1465 rfl (lv_at hl 5 rfl) ?_
      have hPc := hP.sub (ws' := [(mm, .inr (10, [.int 0, .ref pl, .ref ig, .ref sl, .ref kl, .int 0, .int 0, .int 0]))]) [5] rfl
      have hDc := hD.sub (ws' := [(mm, .inr (10, [.int 0, .ref pl, .ref ig, .ref sl, .ref kl, .int 0, .int 0, .int 0]))]) [5] (by decide) rfl
      have hKc := hK.sub (tys' := []) [] rfl
      have hFc := va_free (wc := [(mm, .inr (10, [.int 0, .ref pl, .ref ig, .ref sl, .ref kl, .int 0, .int 0, .int 0]))]) hD hS hA [5] rfl
      refine va_calli (va_runV (As := []) (rest := []) ⟨hx, hb, hml, hown, hts⟩ (c_X8_thrown l dC dI mm pl ig sl kl (0 : Int32) (0 : Int32) (0 : Int32) (0 : Int32) _ ) (cwV 0 hts gL_law_X8_thrown rfl rfl rfl (by decide +kernel) ⟨Nat.le_of_ble_eq_true rfl, Nat.le_of_ble_eq_true rfl⟩) ⟨pr_blind, va_recv hKc hPc (ci := 10) (q0 := 0) rfl rfl, fun U hU hW => ⟨rfl, pr_mk hU hW hPc hKc hDc⟩⟩ rfl rfl hl.1 rfl (lv_room (Nat.le_of_ble_eq_true rfl)) dL_law_1466 ⟨Nat.le_of_ble_eq_true rfl, Nat.le_of_ble_eq_true rfl⟩) hS (fun q _ h => hFc q h) hFc (fun r_42 u_41 t H1 locs ht hvm hw hB hz1 hk1 hS => ?_)
      obtain ⟨hP1, hK1, hD1⟩ := hB
      rw [ht] at hP1
      obtain ⟨hP, hD⟩ := va_join (wr := [(b0, .inl (cI, 6, .inl zi)), (b1, .inl (cZ, 6, .inl zi)), (b4, .inl (cI, 4, .inl zi)), (od, .inl (cD, 1, .inr (.inr (.inr (.inl zd))))), (ou, .inl (cJ, 1, .inr (.inl zl)))]) (w1 := [(mm, .inr (10, [.int 0, .ref pl, .ref ig, .ref sl, .ref kl, .int 0, .int 0, .int 0]))]) hP hD [5] [0, 1, 2, 3, 4] rfl rfl (by decide) (by decide) hk1 hFc hP1 hD1
      generalize H1 = H at hP hS ⊢
      have hP : va_P (dC, dI) vwCl [(b0, .inl (cI, 6, .inl zi)), (b1, .inl (cZ, 6, .inl zi)), (b4, .inl (cI, 4, .inl zi)), (od, .inl (cD, 1, .inr (.inr (.inr (.inl zd))))), (ou, .inl (cJ, 1, .inr (.inl zl))), (mm, .inr (10, [.int 0, .ref pl, .ref ig, .ref sl, .ref kl, .int 0, .int 0, .int 0]))] H := hP
      have hD : va_D A [(b0, .inl (cI, 6, .inl zi)), (b1, .inl (cZ, 6, .inl zi)), (b4, .inl (cI, 4, .inl zi)), (od, .inl (cD, 1, .inr (.inr (.inr (.inl zd))))), (ou, .inl (cJ, 1, .inr (.inl zl))), (mm, .inr (10, [.int 0, .ref pl, .ref ig, .ref sl, .ref kl, .int 0, .int 0, .int 0]))] := hD
      refine W.widen (k := 122) (n := 770) (Nat.le_refl _) (Nat.le_refl _) ?_
      have hw : r_42 = 0 := hw
      subst hw
      refine lv_iload hx hb dL_law_1469 (lv_at hl 1 rfl) ?_
      refine lv_icmp_eq (tgt := 1476) hx hb dL_law_1471 (by decide) (fun _ => ?_) (fun h9 => absurd h9 (by decide))
      refine lv_iload hx hb dL_law_1476 (lv_at hl 1 rfl) ?_
      refine lv_if_ne (tgt := 1493) hx hb dL_law_1478 (by decide) (fun h9 => absurd h9 (by decide)) (fun _ => ?_)
      refine lv_aload_n hx hb dL_law_1481 rfl (lv_at hl 4 rfl) ?_
      refine lv_iconst (v := 0) hx hb dL_law_1482 (by decide) ?_
      refine va_lald hx hb hK hP 4 2 rfl rfl (by unfold vp_in; decide) dL_law_1483 ?_
      refine lv_topl (fun y_43 ey_43 => ?_)
      obtain rfl : y_43 = 0 := ey_43
      refine lv_iload hx hb dL_law_1484 (lv_at hl 0 rfl) ?_
      refine lv_i2l (v := 0) hx hb dL_law_1486 (by decide) ?_
      refine W.lcmp hx hb dL_law_1487 ?_
      refine lv_topi (fun y_44 ey_44 => ?_)
      obtain rfl : y_44 = 0 := ey_44.trans (lcmp_self _)
      refine lv_if_eq (tgt := 1493) hx hb dL_law_1488 (by decide) (fun _ => ?_) (fun h9 => absurd h9 (by decide))
      refine lv_goto (tgt := 2007) hx hb dL_law_1493 (by decide) ?_
      exact law_tail l C0 hAe hS (lv_sub hl [2, 7] rfl) (Nat.le_of_ble_eq_true rfl) (Nat.le_of_ble_eq_true rfl)

set_option maxHeartbeats 4000000 in
set_option maxRecDepth 100000 in
theorem case_swings {p : Program} {e : Env} {s : State} {m : MethodId} {below : List Frame} {meth : Method} {c : Code} (l : Launch) (hfl : l.stackTraces = false) {b : Nat} {xs : Nat → Int32} (C0 : lw_At p s m meth c b 5 xs) {dz tc : Nat} {ad : Nat → Nat} (hLX : lx_ (fun q : Nat => s.heap.size ≤ q) dz tc ad s) (dC : Nat → ClassId) (dI : Nat → Nat → Nat) {x : Nat} {po : Nat} {tr : Nat} {sp : Nat} {bx : Nat} {b0 : Nat} {b1 : Nat} {b4 : Nat} {b6 : Nat} {pa : Nat} {p_v : Nat} {p_st : Nat} {p_ib : Nat} {p_di : Nat} {p_wa : Nat} {p_se : Nat} {p_vh : Nat} {p_re : Nat} {mm : Nat} {pl : Nat} {ig : Nat} {sl : Nat} {kl : Nat} {ou : Nat} {od : Nat} {cI : ClassId} {cZ : ClassId} {cJ : ClassId} {cD : ClassId} {H : Heap} {locs : List Loc} {ls : Array Slot} (hK : va_K (dC, dI) vwCl [(cI, .int), (cZ, .boolean), (cJ, .long), (cD, .double)] s) (hP : va_P (dC, dI) vwCl [(x, .inr (7, [.ref bx, .ref po, .ref tr, .ref pa, .ref sp])), (bx, .inr (2, [.ref b0, .ref b1, .int 0, .int 0, .ref b4, .int 0, .ref b6, .int 0, .int 0, .int 0, .int 0])), (pa, .inr (3, [.ref p_v, .int 0, .ref p_st, .ref p_ib, .ref p_di, .ref p_wa, .ref p_se, .ref p_vh, .ref p_re])), (b0, .inl (cI, 6, .inl zi)), (b1, .inl (cZ, 6, .inl zi)), (b4, .inl (cI, 4, .inl zi)), (p_v, .inl (cI, 4, .inl zi)), (p_st, .inl (cI, 4, .inl zi)), (p_ib, .inl (cZ, 4, .inl zi)), (p_di, .inl (cI, 4, .inl zi)), (p_wa, .inl (cI, 4, .inl zi)), (p_se, .inl (cI, 4, .inl zi)), (mm, .inr (10, [.int 0, .ref pl, .ref ig, .ref sl, .ref kl, .int 0, .int 0, .int 0])), (pl, .inr (1, [.int 0, .ref dz, .int 0])), (sl, .inr (1, [.int 0, .ref dz, .int 0])), (kl, .inr (1, [.int 0, .ref dz, .int 0])), (ou, .inl (cJ, 1, .inr (.inl zl))), (od, .inl (cD, 1, .inr (.inr (.inr (.inl zd)))))] H) (hD : va_D (fun q : Nat => s.heap.size ≤ q) [(x, .inr (7, [.ref bx, .ref po, .ref tr, .ref pa, .ref sp])), (bx, .inr (2, [.ref b0, .ref b1, .int 0, .int 0, .ref b4, .int 0, .ref b6, .int 0, .int 0, .int 0, .int 0])), (pa, .inr (3, [.ref p_v, .int 0, .ref p_st, .ref p_ib, .ref p_di, .ref p_wa, .ref p_se, .ref p_vh, .ref p_re])), (b0, .inl (cI, 6, .inl zi)), (b1, .inl (cZ, 6, .inl zi)), (b4, .inl (cI, 4, .inl zi)), (p_v, .inl (cI, 4, .inl zi)), (p_st, .inl (cI, 4, .inl zi)), (p_ib, .inl (cZ, 4, .inl zi)), (p_di, .inl (cI, 4, .inl zi)), (p_wa, .inl (cI, 4, .inl zi)), (p_se, .inl (cI, 4, .inl zi)), (mm, .inr (10, [.int 0, .ref pl, .ref ig, .ref sl, .ref kl, .int 0, .int 0, .int 0])), (pl, .inr (1, [.int 0, .ref dz, .int 0])), (sl, .inr (1, [.int 0, .ref dz, .int 0])), (kl, .inr (1, [.int 0, .ref dz, .int 0])), (ou, .inl (cJ, 1, .inr (.inl zl))), (od, .inl (cD, 1, .inr (.inr (.inr (.inl zd)))))]) (hS : va_S (fun q : Nat => s.heap.size ≤ q) s.heap H locs) (hl : lv_has ls 9 [(5, .int 0), (4, .ref od), (3, .ref ou), (2, .ref mm), (1, .ref x), (0, .ref b)]) : W p l e room_1 s m #[Value.ref b] below meth c H locs 118 750 (lw_Z below #[Value.ref b] s) (F0 m 1496 ls []) := by
  obtain ⟨hx, hb, hr, hml, hown, hts0, hX, hbl, hlocks, hgv⟩ := id C0
  have hts : ∀ w ∈ lw_tbl, w.before #[Value.ref b] s = true := hts0
  have hbA : ¬ (fun q : Nat => s.heap.size ≤ q) b := Nat.not_le.mpr hbl
  have hA : ∀ q : Nat, s.heap.size ≤ q → (fun q : Nat => s.heap.size ≤ q) q := fun _ h => h
  generalize hAe : (fun q : Nat => s.heap.size ≤ q) = A at hD hS hbA hA hLX
  obtain ⟨a1, h_a1⟩ : ∃ z, z = xs ((1 : Int32).toNatClampNeg) := ⟨_, rfl⟩
  obtain ⟨a2, h_a2⟩ : ∃ z, z = xs ((2 : Int32).toNatClampNeg) := ⟨_, rfl⟩
  obtain ⟨a3, h_a3⟩ : ∃ z, z = xs ((3 : Int32).toNatClampNeg) := ⟨_, rfl⟩
  obtain ⟨a4, h_a4⟩ : ∃ z, z = xs ((4 : Int32).toNatClampNeg) := ⟨_, rfl⟩
  by_cases hB0 : a1 < 0 ∨ 4 ≤ a1
  · have hM0 : a1 < 0 ∨ 3 < a1 := gP_b hB0
    refine lv_aload_n hx hb dL_law_1496 rfl (lv_at hl 4 rfl) ?_
    refine lv_aload_n hx hb dL_law_1497 rfl (lv_at hl 5 rfl) ?_
    refine lv_iload hx hb dL_law_1498 (lv_at hl 0 rfl) ?_
    refine lv_iconst (v := 1) hx hb dL_law_1500 (by decide) ?_
    refine lv_iadd hx hb dL_law_1501 ?_
    refine lv_topi (fun y_1 ey_1 => ?_)
    obtain rfl : y_1 = 1 := ey_1.trans (by decide)
    refine va_sld hx hb hX hbl hbA hS (by unfold vp_in; decide) dL_law_1502 ?_
    refine lv_topi (fun y_2 ey_2 => ?_)
    obtain rfl : a1 = y_2 := (ey_2.trans h_a1.symm).symm
    refine lv_aload_n hx hb dL_law_1503 rfl (lv_at hl 5 rfl) ?_
    refine lv_iload hx hb dL_law_1504 (lv_at hl 0 rfl) ?_
    refine lv_iconst (v := 2) hx hb dL_law_1506 (by decide) ?_
    refine lv_iadd hx hb dL_law_1507 ?_
    refine lv_topi (fun y_3 ey_3 => ?_)
    obtain rfl : y_3 = 2 := ey_3.trans (by decide)
    refine va_sld hx hb hX hbl hbA hS (by unfold vp_in; decide) dL_law_1508 ?_
    refine lv_topi (fun y_4 ey_4 => ?_)
    obtain rfl : a2 = y_4 := (ey_4.trans h_a2.symm).symm
    refine lv_aload_n hx hb dL_law_1509 rfl (lv_at hl 5 rfl) ?_
    refine lv_iload hx hb dL_law_1510 (lv_at hl 0 rfl) ?_
    refine lv_iconst (v := 3) hx hb dL_law_1512 (by decide) ?_
    refine lv_iadd hx hb dL_law_1513 ?_
    refine lv_topi (fun y_5 ey_5 => ?_)
    obtain rfl : y_5 = 3 := ey_5.trans (by decide)
    refine va_sld hx hb hX hbl hbA hS (by unfold vp_in; decide) dL_law_1514 ?_
    refine lv_topi (fun y_6 ey_6 => ?_)
    obtain rfl : a3 = y_6 := (ey_6.trans h_a3.symm).symm
    refine lv_aload_n hx hb dL_law_1515 rfl (lv_at hl 2 rfl) ?_
    have hPc := hP.sub (ws' := [(x, .inr (7, [.ref bx, .ref po, .ref tr, .ref pa, .ref sp])), (bx, .inr (2, [.ref b0, .ref b1, .int 0, .int 0, .ref b4, .int 0, .ref b6, .int 0, .int 0, .int 0, .int 0]))]) [0, 1] rfl
    have hDc := hD.sub (ws' := [(x, .inr (7, [.ref bx, .ref po, .ref tr, .ref pa, .ref sp])), (bx, .inr (2, [.ref b0, .ref b1, .int 0, .int 0, .ref b4, .int 0, .ref b6, .int 0, .int 0, .int 0, .int 0]))]) [0, 1] (by decide) rfl
    have hKc := hK.sub (tys' := []) [] rfl
    have hFc := va_free (wc := [(x, .inr (7, [.ref bx, .ref po, .ref tr, .ref pa, .ref sp])), (bx, .inr (2, [.ref b0, .ref b1, .int 0, .int 0, .ref b4, .int 0, .ref b6, .int 0, .int 0, .int 0, .int 0]))]) hD hS hA [0, 1] rfl
    refine va_calli (vx_runSW (As := [.ref x, .int a1, .int a2, .int a3, .ref ou]) (rest := []) ⟨hx, hb, hml, hown, hts⟩ (h0_L_swings l hfl dC dI x po tr sp pa bx b0 b1 b4 b6 a1 a2 a3 ou ((lx_s50 hLX).choose) ((lx_s50 hLX).choose_spec.choose) _ hB0) (vx_cwSW 5 hts gL_law_L_swings rfl rfl rfl (by decide +kernel) ⟨Nat.le_of_ble_eq_true rfl, Nat.le_of_ble_eq_true rfl⟩) ⟨pn_blind (fun _ _ _ _ h => h), fun U hU hW => ⟨rfl, pr_mk hU hW hPc hKc hDc, xs_mk hU hW hS hFc (lx_xo hLX (lx_s50 hLX).choose_spec.choose_spec), trivial⟩⟩ rfl rfl hl.1 rfl (lv_room (Nat.le_of_ble_eq_true rfl)) dL_law_1516 ⟨Nat.le_of_ble_eq_true rfl, Nat.le_of_ble_eq_true rfl⟩) hS (fun q _ h => hFc q h) hFc (fun r_8 u_7 t H1 locs ht hvm hw hB hz1 hk1 hS => ?_)
    obtain ⟨hP1, hK1, hD1⟩ := hB
    rw [ht] at hP1
    obtain ⟨hP, hD⟩ := va_join (wr := [(pa, .inr (3, [.ref p_v, .int 0, .ref p_st, .ref p_ib, .ref p_di, .ref p_wa, .ref p_se, .ref p_vh, .ref p_re])), (b0, .inl (cI, 6, .inl zi)), (b1, .inl (cZ, 6, .inl zi)), (b4, .inl (cI, 4, .inl zi)), (p_v, .inl (cI, 4, .inl zi)), (p_st, .inl (cI, 4, .inl zi)), (p_ib, .inl (cZ, 4, .inl zi)), (p_di, .inl (cI, 4, .inl zi)), (p_wa, .inl (cI, 4, .inl zi)), (p_se, .inl (cI, 4, .inl zi)), (mm, .inr (10, [.int 0, .ref pl, .ref ig, .ref sl, .ref kl, .int 0, .int 0, .int 0])), (pl, .inr (1, [.int 0, .ref dz, .int 0])), (sl, .inr (1, [.int 0, .ref dz, .int 0])), (kl, .inr (1, [.int 0, .ref dz, .int 0])), (ou, .inl (cJ, 1, .inr (.inl zl))), (od, .inl (cD, 1, .inr (.inr (.inr (.inl zd)))))]) (w1 := []) hP hD [0, 1] [2, 3, 4, 5, 6, 7, 8, 9, 10, 11, 12, 13, 14, 15, 16, 17] rfl rfl (by decide) (by decide) hk1 hFc hP1 hD1
    generalize H1 = H at hP hS ⊢
    have hP : va_P (dC, dI) vwCl [(pa, .inr (3, [.ref p_v, .int 0, .ref p_st, .ref p_ib, .ref p_di, .ref p_wa, .ref p_se, .ref p_vh, .ref p_re])), (b0, .inl (cI, 6, .inl zi)), (b1, .inl (cZ, 6, .inl zi)), (b4, .inl (cI, 4, .inl zi)), (p_v, .inl (cI, 4, .inl zi)), (p_st, .inl (cI, 4, .inl zi)), (p_ib, .inl (cZ, 4, .inl zi)), (p_di, .inl (cI, 4, .inl zi)), (p_wa, .inl (cI, 4, .inl zi)), (p_se, .inl (cI, 4, .inl zi)), (mm, .inr (10, [.int 0, .ref pl, .ref ig, .ref sl, .ref kl, .int 0, .int 0, .int 0])), (pl, .inr (1, [.int 0, .ref dz, .int 0])), (sl, .inr (1, [.int 0, .ref dz, .int 0])), (kl, .inr (1, [.int 0, .ref dz, .int 0])), (ou, .inl (cJ, 1, .inr (.inl zl))), (od, .inl (cD, 1, .inr (.inr (.inr (.inl zd)))))] H := hP
    have hD : va_D A [(pa, .inr (3, [.ref p_v, .int 0, .ref p_st, .ref p_ib, .ref p_di, .ref p_wa, .ref p_se, .ref p_vh, .ref p_re])), (b0, .inl (cI, 6, .inl zi)), (b1, .inl (cZ, 6, .inl zi)), (b4, .inl (cI, 4, .inl zi)), (p_v, .inl (cI, 4, .inl zi)), (p_st, .inl (cI, 4, .inl zi)), (p_ib, .inl (cZ, 4, .inl zi)), (p_di, .inl (cI, 4, .inl zi)), (p_wa, .inl (cI, 4, .inl zi)), (p_se, .inl (cI, 4, .inl zi)), (mm, .inr (10, [.int 0, .ref pl, .ref ig, .ref sl, .ref kl, .int 0, .int 0, .int 0])), (pl, .inr (1, [.int 0, .ref dz, .int 0])), (sl, .inr (1, [.int 0, .ref dz, .int 0])), (kl, .inr (1, [.int 0, .ref dz, .int 0])), (ou, .inl (cJ, 1, .inr (.inl zl))), (od, .inl (cD, 1, .inr (.inr (.inr (.inl zd)))))] := hD
    refine W.widen (k := 119) (n := 756) (Nat.le_of_ble_eq_true rfl) (Nat.le_of_ble_eq_true rfl) ?_
    have hw : r_8 = 1 := hw
    subst hw
    refine lv_istore (lv' := [(6, .int 1), (5, .int 0), (4, .ref od), (3, .ref ou), (2, .ref mm), (1, .ref x), (0, .ref b)]) hx hb dL_law_1519 hl (by decide) rfl (fun ls hl => ?_)
    refine lv_aload_n hx hb dL_law_1521 rfl (lv_at hl 4 rfl) ?_
    refine lv_aload_n hx hb dL_law_1522 rfl (lv_at hl 6 rfl) ?_
    refine lv_iload hx hb dL_law_1523 (lv_at hl 1 rfl) ?_
    refine lv_iconst (v := 1) hx hb dL_law_1525 (by decide) ?_
    refine lv_iadd hx hb dL_law_1526 ?_
    refine lv_topi (fun y_9 ey_9 => ?_)
    obtain rfl : y_9 = 1 := ey_9.trans (by decide)
    refine va_sld hx hb hX hbl hbA hS (by unfold vp_in; decide) dL_law_1527 ?_
    refine lv_topi (fun y_10 ey_10 => ?_)
    obtain rfl : a1 = y_10 := (ey_10.trans h_a1.symm).symm
    refine lv_aload_n hx hb dL_law_1528 rfl (lv_at hl 6 rfl) ?_
    refine lv_iload hx hb dL_law_1529 (lv_at hl 1 rfl) ?_
    refine lv_iconst (v := 2) hx hb dL_law_1531 (by decide) ?_
    refine lv_iadd hx hb dL_law_1532 ?_
    refine lv_topi (fun y_11 ey_11 => ?_)
    obtain rfl : y_11 = 2 := ey_11.trans (by decide)
    refine va_sld hx hb hX hbl hbA hS (by unfold vp_in; decide) dL_law_1533 ?_
    refine lv_topi (fun y_12 ey_12 => ?_)
    obtain rfl : a2 = y_12 := (ey_12.trans h_a2.symm).symm
    refine lv_aload_n hx hb dL_law_1534 rfl (lv_at hl 6 rfl) ?_
    refine lv_iload hx hb dL_law_1535 (lv_at hl 1 rfl) ?_
    refine lv_iconst (v := 3) hx hb dL_law_1537 (by decide) ?_
    refine lv_iadd hx hb dL_law_1538 ?_
    refine lv_topi (fun y_13 ey_13 => ?_)
    obtain rfl : y_13 = 3 := ey_13.trans (by decide)
    refine va_sld hx hb hX hbl hbA hS (by unfold vp_in; decide) dL_law_1539 ?_
    refine lv_topi (fun y_14 ey_14 => ?_)
    obtain rfl : a3 = y_14 := (ey_14.trans h_a3.symm).symm
    have hPc := hP.sub (ws' := [(mm, .inr (10, [.int 0, .ref pl, .ref ig, .ref sl, .ref kl, .int 0, .int 0, .int 0])), (pl, .inr (1, [.int 0, .ref dz, .int 0])), (sl, .inr (1, [.int 0, .ref dz, .int 0])), (kl, .inr (1, [.int 0, .ref dz, .int 0]))]) [10, 11, 12, 13] rfl
    have hDc := hD.sub (ws' := [(mm, .inr (10, [.int 0, .ref pl, .ref ig, .ref sl, .ref kl, .int 0, .int 0, .int 0])), (pl, .inr (1, [.int 0, .ref dz, .int 0])), (sl, .inr (1, [.int 0, .ref dz, .int 0])), (kl, .inr (1, [.int 0, .ref dz, .int 0]))]) [10, 11, 12, 13] (by decide) rfl
    have hKc := hK.sub (tys' := []) [] rfl
    have hFc := va_free (wc := [(mm, .inr (10, [.int 0, .ref pl, .ref ig, .ref sl, .ref kl, .int 0, .int 0, .int 0])), (pl, .inr (1, [.int 0, .ref dz, .int 0])), (sl, .inr (1, [.int 0, .ref dz, .int 0])), (kl, .inr (1, [.int 0, .ref dz, .int 0]))]) hD hS hA [10, 11, 12, 13] rfl
    refine va_calli (va_runV (As := [.int a1, .int a2, .int a3]) (rest := []) ⟨hx, hb, hml, hown, hts⟩ (c0_X8_swings l dC dI mm pl ig sl kl dz a1 a2 a3 _ hM0) (cwV 3 hts gL_law_X8_swings rfl rfl rfl (by decide +kernel) ⟨Nat.le_of_ble_eq_true rfl, Nat.le_of_ble_eq_true rfl⟩) ⟨pe_blind mo_bl, va_recv hKc hPc (ci := 10) (q0 := 0) rfl rfl, fun U hU hW => ⟨rfl, pr_mk hU hW hPc hKc hDc, mo_mk hW (lx_m hLX)⟩⟩ rfl rfl hl.1 rfl (lv_room (Nat.le_of_ble_eq_true rfl)) dL_law_1540 ⟨Nat.le_of_ble_eq_true rfl, Nat.le_of_ble_eq_true rfl⟩) hS (fun q _ h => hFc q h) hFc (fun r_16 u_15 t H1 locs ht hvm hw hB hz1 hk1 hS => ?_)
    obtain ⟨hP1, hK1, hD1⟩ := hB
    rw [ht] at hP1
    obtain ⟨hP, hD⟩ := va_join (wr := [(pa, .inr (3, [.ref p_v, .int 0, .ref p_st, .ref p_ib, .ref p_di, .ref p_wa, .ref p_se, .ref p_vh, .ref p_re])), (b0, .inl (cI, 6, .inl zi)), (b1, .inl (cZ, 6, .inl zi)), (b4, .inl (cI, 4, .inl zi)), (p_v, .inl (cI, 4, .inl zi)), (p_st, .inl (cI, 4, .inl zi)), (p_ib, .inl (cZ, 4, .inl zi)), (p_di, .inl (cI, 4, .inl zi)), (p_wa, .inl (cI, 4, .inl zi)), (p_se, .inl (cI, 4, .inl zi)), (ou, .inl (cJ, 1, .inr (.inl zl))), (od, .inl (cD, 1, .inr (.inr (.inr (.inl zd)))))]) (w1 := [(mm, .inr (10, [.int 1, .ref pl, .ref ig, .ref sl, .ref kl, .int 0, .int 0, .int 0]))]) hP hD [10, 11, 12, 13] [0, 1, 2, 3, 4, 5, 6, 7, 8, 9, 14, 15] rfl rfl (by decide) (by decide) hk1 hFc hP1 hD1
    generalize H1 = H at hP hS ⊢
    have hP : va_P (dC, dI) vwCl [(pa, .inr (3, [.ref p_v, .int 0, .ref p_st, .ref p_ib, .ref p_di, .ref p_wa, .ref p_se, .ref p_vh, .ref p_re])), (b0, .inl (cI, 6, .inl zi)), (b1, .inl (cZ, 6, .inl zi)), (b4, .inl (cI, 4, .inl zi)), (p_v, .inl (cI, 4, .inl zi)), (p_st, .inl (cI, 4, .inl zi)), (p_ib, .inl (cZ, 4, .inl zi)), (p_di, .inl (cI, 4, .inl zi)), (p_wa, .inl (cI, 4, .inl zi)), (p_se, .inl (cI, 4, .inl zi)), (ou, .inl (cJ, 1, .inr (.inl zl))), (od, .inl (cD, 1, .inr (.inr (.inr (.inl zd))))), (mm, .inr (10, [.int 1, .ref pl, .ref ig, .ref sl, .ref kl, .int 0, .int 0, .int 0]))] H := hP
    have hD : va_D A [(pa, .inr (3, [.ref p_v, .int 0, .ref p_st, .ref p_ib, .ref p_di, .ref p_wa, .ref p_se, .ref p_vh, .ref p_re])), (b0, .inl (cI, 6, .inl zi)), (b1, .inl (cZ, 6, .inl zi)), (b4, .inl (cI, 4, .inl zi)), (p_v, .inl (cI, 4, .inl zi)), (p_st, .inl (cI, 4, .inl zi)), (p_ib, .inl (cZ, 4, .inl zi)), (p_di, .inl (cI, 4, .inl zi)), (p_wa, .inl (cI, 4, .inl zi)), (p_se, .inl (cI, 4, .inl zi)), (ou, .inl (cJ, 1, .inr (.inl zl))), (od, .inl (cD, 1, .inr (.inr (.inr (.inl zd))))), (mm, .inr (10, [.int 1, .ref pl, .ref ig, .ref sl, .ref kl, .int 0, .int 0, .int 0]))] := hD
    refine W.widen (k := 119) (n := 756) (Nat.le_refl _) (Nat.le_refl _) ?_
    have hw : r_16 = 0 := hw
    subst hw
    refine lv_istore (lv' := [(7, .int 0), (6, .int 1), (5, .int 0), (4, .ref od), (3, .ref ou), (2, .ref mm), (1, .ref x), (0, .ref b)]) hx hb dL_law_1543 hl (by decide) rfl (fun ls hl => ?_)
    refine lv_aload_n hx hb dL_law_1545 rfl (lv_at hl 5 rfl) ?_
    have hPc := hP.sub (ws' := [(mm, .inr (10, [.int 1, .ref pl, .ref ig, .ref sl, .ref kl, .int 0, .int 0, .int 0]))]) [12] rfl
    have hDc := hD.sub (ws' := [(mm, .inr (10, [.int 1, .ref pl, .ref ig, .ref sl, .ref kl, .int 0, .int 0, .int 0]))]) [12] (by decide) rfl
    have hKc := hK.sub (tys' := []) [] rfl
    have hFc := va_free (wc := [(mm, .inr (10, [.int 1, .ref pl, .ref ig, .ref sl, .ref kl, .int 0, .int 0, .int 0]))]) hD hS hA [12] rfl
    refine va_calli (va_runV (As := []) (rest := []) ⟨hx, hb, hml, hown, hts⟩ (c_X8_thrown l dC dI mm pl ig sl kl (1 : Int32) (0 : Int32) (0 : Int32) (0 : Int32) _ ) (cwV 0 hts gL_law_X8_thrown rfl rfl rfl (by decide +kernel) ⟨Nat.le_of_ble_eq_true rfl, Nat.le_of_ble_eq_true rfl⟩) ⟨pr_blind, va_recv hKc hPc (ci := 10) (q0 := 0) rfl rfl, fun U hU hW => ⟨rfl, pr_mk hU hW hPc hKc hDc⟩⟩ rfl rfl hl.1 rfl (lv_room (Nat.le_of_ble_eq_true rfl)) dL_law_1546 ⟨Nat.le_of_ble_eq_true rfl, Nat.le_of_ble_eq_true rfl⟩) hS (fun q _ h => hFc q h) hFc (fun r_18 u_17 t H1 locs ht hvm hw hB hz1 hk1 hS => ?_)
    obtain ⟨hP1, hK1, hD1⟩ := hB
    rw [ht] at hP1
    obtain ⟨hP, hD⟩ := va_join (wr := [(pa, .inr (3, [.ref p_v, .int 0, .ref p_st, .ref p_ib, .ref p_di, .ref p_wa, .ref p_se, .ref p_vh, .ref p_re])), (b0, .inl (cI, 6, .inl zi)), (b1, .inl (cZ, 6, .inl zi)), (b4, .inl (cI, 4, .inl zi)), (p_v, .inl (cI, 4, .inl zi)), (p_st, .inl (cI, 4, .inl zi)), (p_ib, .inl (cZ, 4, .inl zi)), (p_di, .inl (cI, 4, .inl zi)), (p_wa, .inl (cI, 4, .inl zi)), (p_se, .inl (cI, 4, .inl zi)), (ou, .inl (cJ, 1, .inr (.inl zl))), (od, .inl (cD, 1, .inr (.inr (.inr (.inl zd)))))]) (w1 := [(mm, .inr (10, [.int 1, .ref pl, .ref ig, .ref sl, .ref kl, .int 0, .int 0, .int 0]))]) hP hD [12] [0, 1, 2, 3, 4, 5, 6, 7, 8, 9, 10, 11] rfl rfl (by decide) (by decide) hk1 hFc hP1 hD1
    generalize H1 = H at hP hS ⊢
    have hP : va_P (dC, dI) vwCl [(pa, .inr (3, [.ref p_v, .int 0, .ref p_st, .ref p_ib, .ref p_di, .ref p_wa, .ref p_se, .ref p_vh, .ref p_re])), (b0, .inl (cI, 6, .inl zi)), (b1, .inl (cZ, 6, .inl zi)), (b4, .inl (cI, 4, .inl zi)), (p_v, .inl (cI, 4, .inl zi)), (p_st, .inl (cI, 4, .inl zi)), (p_ib, .inl (cZ, 4, .inl zi)), (p_di, .inl (cI, 4, .inl zi)), (p_wa, .inl (cI, 4, .inl zi)), (p_se, .inl (cI, 4, .inl zi)), (ou, .inl (cJ, 1, .inr (.inl zl))), (od, .inl (cD, 1, .inr (.inr (.inr (.inl zd))))), (mm, .inr (10, [.int 1, .ref pl, .ref ig, .ref sl, .ref kl, .int 0, .int 0, .int 0]))] H := hP
    have hD : va_D A [(pa, .inr (3, [.ref p_v, .int 0, .ref p_st, .ref p_ib, .ref p_di, .ref p_wa, .ref p_se, .ref p_vh, .ref p_re])), (b0, .inl (cI, 6, .inl zi)), (b1, .inl (cZ, 6, .inl zi)), (b4, .inl (cI, 4, .inl zi)), (p_v, .inl (cI, 4, .inl zi)), (p_st, .inl (cI, 4, .inl zi)), (p_ib, .inl (cZ, 4, .inl zi)), (p_di, .inl (cI, 4, .inl zi)), (p_wa, .inl (cI, 4, .inl zi)), (p_se, .inl (cI, 4, .inl zi)), (ou, .inl (cJ, 1, .inr (.inl zl))), (od, .inl (cD, 1, .inr (.inr (.inr (.inl zd))))), (mm, .inr (10, [.int 1, .ref pl, .ref ig, .ref sl, .ref kl, .int 0, .int 0, .int 0]))] := hD
    refine W.widen (k := 119) (n := 756) (Nat.le_refl _) (Nat.le_refl _) ?_
    have hw : r_18 = 1 := hw
    subst hw
    refine lv_iload hx hb dL_law_1549 (lv_at hl 1 rfl) ?_
    refine lv_icmp_eq (tgt := 1556) hx hb dL_law_1551 (by decide) (fun _ => ?_) (fun h9 => absurd h9 (by decide))
    refine lv_iload hx hb dL_law_1556 (lv_at hl 1 rfl) ?_
    refine lv_if_ne (tgt := 1573) hx hb dL_law_1558 (by decide) (fun _ => ?_) (fun h9 => absurd h9 (by decide))
    refine lv_goto (tgt := 2007) hx hb dL_law_1573 (by decide) ?_
    exact law_tail l C0 hAe hS (lv_sub hl [2, 7] rfl) (Nat.le_of_ble_eq_true rfl) (Nat.le_of_ble_eq_true rfl)
  · have hG0 : ¬ a1 < 0 := fun h => hB0 (Or.inl h)
    have hH0 : ¬ 4 ≤ a1 := fun h => hB0 (Or.inr h)
    have hN0 : ¬ 3 < a1 := gP_g hH0
    by_cases hB1 : a2 < 1 ∨ ¬ a2 ≤ 60
    · have hM1 : a2 < 1 ∨ 60 < a2 := gN_b hB1
      refine lv_aload_n hx hb dL_law_1496 rfl (lv_at hl 4 rfl) ?_
      refine lv_aload_n hx hb dL_law_1497 rfl (lv_at hl 5 rfl) ?_
      refine lv_iload hx hb dL_law_1498 (lv_at hl 0 rfl) ?_
      refine lv_iconst (v := 1) hx hb dL_law_1500 (by decide) ?_
      refine lv_iadd hx hb dL_law_1501 ?_
      refine lv_topi (fun y_19 ey_19 => ?_)
      obtain rfl : y_19 = 1 := ey_19.trans (by decide)
      refine va_sld hx hb hX hbl hbA hS (by unfold vp_in; decide) dL_law_1502 ?_
      refine lv_topi (fun y_20 ey_20 => ?_)
      obtain rfl : a1 = y_20 := (ey_20.trans h_a1.symm).symm
      refine lv_aload_n hx hb dL_law_1503 rfl (lv_at hl 5 rfl) ?_
      refine lv_iload hx hb dL_law_1504 (lv_at hl 0 rfl) ?_
      refine lv_iconst (v := 2) hx hb dL_law_1506 (by decide) ?_
      refine lv_iadd hx hb dL_law_1507 ?_
      refine lv_topi (fun y_21 ey_21 => ?_)
      obtain rfl : y_21 = 2 := ey_21.trans (by decide)
      refine va_sld hx hb hX hbl hbA hS (by unfold vp_in; decide) dL_law_1508 ?_
      refine lv_topi (fun y_22 ey_22 => ?_)
      obtain rfl : a2 = y_22 := (ey_22.trans h_a2.symm).symm
      refine lv_aload_n hx hb dL_law_1509 rfl (lv_at hl 5 rfl) ?_
      refine lv_iload hx hb dL_law_1510 (lv_at hl 0 rfl) ?_
      refine lv_iconst (v := 3) hx hb dL_law_1512 (by decide) ?_
      refine lv_iadd hx hb dL_law_1513 ?_
      refine lv_topi (fun y_23 ey_23 => ?_)
      obtain rfl : y_23 = 3 := ey_23.trans (by decide)
      refine va_sld hx hb hX hbl hbA hS (by unfold vp_in; decide) dL_law_1514 ?_
      refine lv_topi (fun y_24 ey_24 => ?_)
      obtain rfl : a3 = y_24 := (ey_24.trans h_a3.symm).symm
      refine lv_aload_n hx hb dL_law_1515 rfl (lv_at hl 2 rfl) ?_
      have hPc := hP.sub (ws' := [(x, .inr (7, [.ref bx, .ref po, .ref tr, .ref pa, .ref sp])), (bx, .inr (2, [.ref b0, .ref b1, .int 0, .int 0, .ref b4, .int 0, .ref b6, .int 0, .int 0, .int 0, .int 0]))]) [0, 1] rfl
      have hDc := hD.sub (ws' := [(x, .inr (7, [.ref bx, .ref po, .ref tr, .ref pa, .ref sp])), (bx, .inr (2, [.ref b0, .ref b1, .int 0, .int 0, .ref b4, .int 0, .ref b6, .int 0, .int 0, .int 0, .int 0]))]) [0, 1] (by decide) rfl
      have hKc := hK.sub (tys' := []) [] rfl
      have hFc := va_free (wc := [(x, .inr (7, [.ref bx, .ref po, .ref tr, .ref pa, .ref sp])), (bx, .inr (2, [.ref b0, .ref b1, .int 0, .int 0, .ref b4, .int 0, .ref b6, .int 0, .int 0, .int 0, .int 0]))]) hD hS hA [0, 1] rfl
      refine va_calli (vx_runSW (As := [.ref x, .int a1, .int a2, .int a3, .ref ou]) (rest := []) ⟨hx, hb, hml, hown, hts⟩ (h1_L_swings l hfl dC dI x po tr sp pa bx b0 b1 b4 b6 a1 a2 a3 ou ((lx_s312 hLX).choose) ((lx_s312 hLX).choose_spec.choose) _ hG0 hH0 hB1) (vx_cwSW 5 hts gL_law_L_swings rfl rfl rfl (by decide +kernel) ⟨Nat.le_of_ble_eq_true rfl, Nat.le_of_ble_eq_true rfl⟩) ⟨pn_blind (fun U g mk a h => ⟨nc_bl U g mk a h.1, trivial⟩), fun U hU hW => ⟨rfl, pr_mk hU hW hPc hKc hDc, xs_mk hU hW hS hFc (lx_xa hLX (lx_s312 hLX).choose_spec.choose_spec), ⟨va_Nc.moved hW.alike (lx_n hLX), trivial⟩⟩⟩ rfl rfl hl.1 rfl (lv_room (Nat.le_of_ble_eq_true rfl)) dL_law_1516 ⟨Nat.le_of_ble_eq_true rfl, Nat.le_of_ble_eq_true rfl⟩) hS (fun q _ h => hFc q h) hFc (fun r_26 u_25 t H1 locs ht hvm hw hB hz1 hk1 hS => ?_)
      obtain ⟨hP1, hK1, hD1⟩ := hB
      rw [ht] at hP1
      obtain ⟨hP, hD⟩ := va_join (wr := [(pa, .inr (3, [.ref p_v, .int 0, .ref p_st, .ref p_ib, .ref p_di, .ref p_wa, .ref p_se, .ref p_vh, .ref p_re])), (b0, .inl (cI, 6, .inl zi)), (b1, .inl (cZ, 6, .inl zi)), (b4, .inl (cI, 4, .inl zi)), (p_v, .inl (cI, 4, .inl zi)), (p_st, .inl (cI, 4, .inl zi)), (p_ib, .inl (cZ, 4, .inl zi)), (p_di, .inl (cI, 4, .inl zi)), (p_wa, .inl (cI, 4, .inl zi)), (p_se, .inl (cI, 4, .inl zi)), (mm, .inr (10, [.int 0, .ref pl, .ref ig, .ref sl, .ref kl, .int 0, .int 0, .int 0])), (pl, .inr (1, [.int 0, .ref dz, .int 0])), (sl, .inr (1, [.int 0, .ref dz, .int 0])), (kl, .inr (1, [.int 0, .ref dz, .int 0])), (ou, .inl (cJ, 1, .inr (.inl zl))), (od, .inl (cD, 1, .inr (.inr (.inr (.inl zd)))))]) (w1 := []) hP hD [0, 1] [2, 3, 4, 5, 6, 7, 8, 9, 10, 11, 12, 13, 14, 15, 16, 17] rfl rfl (by decide) (by decide) hk1 hFc hP1 hD1
      generalize H1 = H at hP hS ⊢
      have hP : va_P (dC, dI) vwCl [(pa, .inr (3, [.ref p_v, .int 0, .ref p_st, .ref p_ib, .ref p_di, .ref p_wa, .ref p_se, .ref p_vh, .ref p_re])), (b0, .inl (cI, 6, .inl zi)), (b1, .inl (cZ, 6, .inl zi)), (b4, .inl (cI, 4, .inl zi)), (p_v, .inl (cI, 4, .inl zi)), (p_st, .inl (cI, 4, .inl zi)), (p_ib, .inl (cZ, 4, .inl zi)), (p_di, .inl (cI, 4, .inl zi)), (p_wa, .inl (cI, 4, .inl zi)), (p_se, .inl (cI, 4, .inl zi)), (mm, .inr (10, [.int 0, .ref pl, .ref ig, .ref sl, .ref kl, .int 0, .int 0, .int 0])), (pl, .inr (1, [.int 0, .ref dz, .int 0])), (sl, .inr (1, [.int 0, .ref dz, .int 0])), (kl, .inr (1, [.int 0, .ref dz, .int 0])), (ou, .inl (cJ, 1, .inr (.inl zl))), (od, .inl (cD, 1, .inr (.inr (.inr (.inl zd)))))] H := hP
      have hD : va_D A [(pa, .inr (3, [.ref p_v, .int 0, .ref p_st, .ref p_ib, .ref p_di, .ref p_wa, .ref p_se, .ref p_vh, .ref p_re])), (b0, .inl (cI, 6, .inl zi)), (b1, .inl (cZ, 6, .inl zi)), (b4, .inl (cI, 4, .inl zi)), (p_v, .inl (cI, 4, .inl zi)), (p_st, .inl (cI, 4, .inl zi)), (p_ib, .inl (cZ, 4, .inl zi)), (p_di, .inl (cI, 4, .inl zi)), (p_wa, .inl (cI, 4, .inl zi)), (p_se, .inl (cI, 4, .inl zi)), (mm, .inr (10, [.int 0, .ref pl, .ref ig, .ref sl, .ref kl, .int 0, .int 0, .int 0])), (pl, .inr (1, [.int 0, .ref dz, .int 0])), (sl, .inr (1, [.int 0, .ref dz, .int 0])), (kl, .inr (1, [.int 0, .ref dz, .int 0])), (ou, .inl (cJ, 1, .inr (.inl zl))), (od, .inl (cD, 1, .inr (.inr (.inr (.inl zd)))))] := hD
      refine W.widen (k := 119) (n := 756) (Nat.le_of_ble_eq_true rfl) (Nat.le_of_ble_eq_true rfl) ?_
      have hw : r_26 = 2 := hw
      subst hw
      refine lv_istore (lv' := [(6, .int 2), (5, .int 0), (4, .ref od), (3, .ref ou), (2, .ref mm), (1, .ref x), (0, .ref b)]) hx hb dL_law_1519 hl (by decide) rfl (fun ls hl => ?_)
      refine lv_aload_n hx hb dL_law_1521 rfl (lv_at hl 4 rfl) ?_
      refine lv_aload_n hx hb dL_law_1522 rfl (lv_at hl 6 rfl) ?_
      refine lv_iload hx hb dL_law_1523 (lv_at hl 1 rfl) ?_
      refine lv_iconst (v := 1) hx hb dL_law_1525 (by decide) ?_
      refine lv_iadd hx hb dL_law_1526 ?_
      refine lv_topi (fun y_27 ey_27 => ?_)
      obtain rfl : y_27 = 1 := ey_27.trans (by decide)
      refine va_sld hx hb hX hbl hbA hS (by unfold vp_in; decide) dL_law_1527 ?_
      refine lv_topi (fun y_28 ey_28 => ?_)
      obtain rfl : a1 = y_28 := (ey_28.trans h_a1.symm).symm
      refine lv_aload_n hx hb dL_law_1528 rfl (lv_at hl 6 rfl) ?_
      refine lv_iload hx hb dL_law_1529 (lv_at hl 1 rfl) ?_
      refine lv_iconst (v := 2) hx hb dL_law_1531 (by decide) ?_
      refine lv_iadd hx hb dL_law_1532 ?_
      refine lv_topi (fun y_29 ey_29 => ?_)
      obtain rfl : y_29 = 2 := ey_29.trans (by decide)
      refine va_sld hx hb hX hbl hbA hS (by unfold vp_in; decide) dL_law_1533 ?_
      refine lv_topi (fun y_30 ey_30 => ?_)
      obtain rfl : a2 = y_30 := (ey_30.trans h_a2.symm).symm
      refine lv_aload_n hx hb dL_law_1534 rfl (lv_at hl 6 rfl) ?_
      refine lv_iload hx hb dL_law_1535 (lv_at hl 1 rfl) ?_
      refine lv_iconst (v := 3) hx hb dL_law_1537 (by decide) ?_
      refine lv_iadd hx hb dL_law_1538 ?_
      refine lv_topi (fun y_31 ey_31 => ?_)
      obtain rfl : y_31 = 3 := ey_31.trans (by decide)
      refine va_sld hx hb hX hbl hbA hS (by unfold vp_in; decide) dL_law_1539 ?_
      refine lv_topi (fun y_32 ey_32 => ?_)
      obtain rfl : a3 = y_32 := (ey_32.trans h_a3.symm).symm
      have hPc := hP.sub (ws' := [(mm, .inr (10, [.int 0, .ref pl, .ref ig, .ref sl, .ref kl, .int 0, .int 0, .int 0])), (pl, .inr (1, [.int 0, .ref dz, .int 0])), (sl, .inr (1, [.int 0, .ref dz, .int 0])), (kl, .inr (1, [.int 0, .ref dz, .int 0]))]) [10, 11, 12, 13] rfl
      have hDc := hD.sub (ws' := [(mm, .inr (10, [.int 0, .ref pl, .ref ig, .ref sl, .ref kl, .int 0, .int 0, .int 0])), (pl, .inr (1, [.int 0, .ref dz, .int 0])), (sl, .inr (1, [.int 0, .ref dz, .int 0])), (kl, .inr (1, [.int 0, .ref dz, .int 0]))]) [10, 11, 12, 13] (by decide) rfl
      have hKc := hK.sub (tys' := []) [] rfl
      have hFc := va_free (wc := [(mm, .inr (10, [.int 0, .ref pl, .ref ig, .ref sl, .ref kl, .int 0, .int 0, .int 0])), (pl, .inr (1, [.int 0, .ref dz, .int 0])), (sl, .inr (1, [.int 0, .ref dz, .int 0])), (kl, .inr (1, [.int 0, .ref dz, .int 0]))]) hD hS hA [10, 11, 12, 13] rfl
      refine va_calli (va_runV (As := [.int a1, .int a2, .int a3]) (rest := []) ⟨hx, hb, hml, hown, hts⟩ (c1_X8_swings l dC dI mm pl ig sl kl dz a1 a2 a3 _ hG0 hN0 hM1) (cwV 3 hts gL_law_X8_swings rfl rfl rfl (by decide +kernel) ⟨Nat.le_of_ble_eq_true rfl, Nat.le_of_ble_eq_true rfl⟩) ⟨pe_blind mo_bl, va_recv hKc hPc (ci := 10) (q0 := 0) rfl rfl, fun U hU hW => ⟨rfl, pr_mk hU hW hPc hKc hDc, mo_mk hW (lx_m hLX)⟩⟩ rfl rfl hl.1 rfl (lv_room (Nat.le_of_ble_eq_true rfl)) dL_law_1540 ⟨Nat.le_of_ble_eq_true rfl, Nat.le_of_ble_eq_true rfl⟩) hS (fun q _ h => hFc q h) hFc (fun r_34 u_33 t H1 locs ht hvm hw hB hz1 hk1 hS => ?_)
      obtain ⟨hP1, hK1, hD1⟩ := hB
      rw [ht] at hP1
      obtain ⟨hP, hD⟩ := va_join (wr := [(pa, .inr (3, [.ref p_v, .int 0, .ref p_st, .ref p_ib, .ref p_di, .ref p_wa, .ref p_se, .ref p_vh, .ref p_re])), (b0, .inl (cI, 6, .inl zi)), (b1, .inl (cZ, 6, .inl zi)), (b4, .inl (cI, 4, .inl zi)), (p_v, .inl (cI, 4, .inl zi)), (p_st, .inl (cI, 4, .inl zi)), (p_ib, .inl (cZ, 4, .inl zi)), (p_di, .inl (cI, 4, .inl zi)), (p_wa, .inl (cI, 4, .inl zi)), (p_se, .inl (cI, 4, .inl zi)), (ou, .inl (cJ, 1, .inr (.inl zl))), (od, .inl (cD, 1, .inr (.inr (.inr (.inl zd)))))]) (w1 := [(mm, .inr (10, [.int 2, .ref pl, .ref ig, .ref sl, .ref kl, .int 0, .int 0, .int 0]))]) hP hD [10, 11, 12, 13] [0, 1, 2, 3, 4, 5, 6, 7, 8, 9, 14, 15] rfl rfl (by decide) (by decide) hk1 hFc hP1 hD1
      generalize H1 = H at hP hS ⊢
      have hP : va_P (dC, dI) vwCl [(pa, .inr (3, [.ref p_v, .int 0, .ref p_st, .ref p_ib, .ref p_di, .ref p_wa, .ref p_se, .ref p_vh, .ref p_re])), (b0, .inl (cI, 6, .inl zi)), (b1, .inl (cZ, 6, .inl zi)), (b4, .inl (cI, 4, .inl zi)), (p_v, .inl (cI, 4, .inl zi)), (p_st, .inl (cI, 4, .inl zi)), (p_ib, .inl (cZ, 4, .inl zi)), (p_di, .inl (cI, 4, .inl zi)), (p_wa, .inl (cI, 4, .inl zi)), (p_se, .inl (cI, 4, .inl zi)), (ou, .inl (cJ, 1, .inr (.inl zl))), (od, .inl (cD, 1, .inr (.inr (.inr (.inl zd))))), (mm, .inr (10, [.int 2, .ref pl, .ref ig, .ref sl, .ref kl, .int 0, .int 0, .int 0]))] H := hP
      have hD : va_D A [(pa, .inr (3, [.ref p_v, .int 0, .ref p_st, .ref p_ib, .ref p_di, .ref p_wa, .ref p_se, .ref p_vh, .ref p_re])), (b0, .inl (cI, 6, .inl zi)), (b1, .inl (cZ, 6, .inl zi)), (b4, .inl (cI, 4, .inl zi)), (p_v, .inl (cI, 4, .inl zi)), (p_st, .inl (cI, 4, .inl zi)), (p_ib, .inl (cZ, 4, .inl zi)), (p_di, .inl (cI, 4, .inl zi)), (p_wa, .inl (cI, 4, .inl zi)), (p_se, .inl (cI, 4, .inl zi)), (ou, .inl (cJ, 1, .inr (.inl zl))), (od, .inl (cD, 1, .inr (.inr (.inr (.inl zd))))), (mm, .inr (10, [.int 2, .ref pl, .ref ig, .ref sl, .ref kl, .int 0, .int 0, .int 0]))] := hD
      refine W.widen (k := 119) (n := 756) (Nat.le_refl _) (Nat.le_refl _) ?_
      have hw : r_34 = 0 := hw
      subst hw
      refine lv_istore (lv' := [(7, .int 0), (6, .int 2), (5, .int 0), (4, .ref od), (3, .ref ou), (2, .ref mm), (1, .ref x), (0, .ref b)]) hx hb dL_law_1543 hl (by decide) rfl (fun ls hl => ?_)
      refine lv_aload_n hx hb dL_law_1545 rfl (lv_at hl 5 rfl) ?_
      have hPc := hP.sub (ws' := [(mm, .inr (10, [.int 2, .ref pl, .ref ig, .ref sl, .ref kl, .int 0, .int 0, .int 0]))]) [12] rfl
      have hDc := hD.sub (ws' := [(mm, .inr (10, [.int 2, .ref pl, .ref ig, .ref sl, .ref kl, .int 0, .int 0, .int 0]))]) [12] (by decide) rfl
      have hKc := hK.sub (tys' := []) [] rfl
      have hFc := va_free (wc := [(mm, .inr (10, [.int 2, .ref pl, .ref ig, .ref sl, .ref kl, .int 0, .int 0, .int 0]))]) hD hS hA [12] rfl
      refine va_calli (va_runV (As := []) (rest := []) ⟨hx, hb, hml, hown, hts⟩ (c_X8_thrown l dC dI mm pl ig sl kl (2 : Int32) (0 : Int32) (0 : Int32) (0 : Int32) _ ) (cwV 0 hts gL_law_X8_thrown rfl rfl rfl (by decide +kernel) ⟨Nat.le_of_ble_eq_true rfl, Nat.le_of_ble_eq_true rfl⟩) ⟨pr_blind, va_recv hKc hPc (ci := 10) (q0 := 0) rfl rfl, fun U hU hW => ⟨rfl, pr_mk hU hW hPc hKc hDc⟩⟩ rfl rfl hl.1 rfl (lv_room (Nat.le_of_ble_eq_true rfl)) dL_law_1546 ⟨Nat.le_of_ble_eq_true rfl, Nat.le_of_ble_eq_true rfl⟩) hS (fun q _ h => hFc q h) hFc (fun r_36 u_35 t H1 locs ht hvm hw hB hz1 hk1 hS => ?_)
      obtain ⟨hP1, hK1, hD1⟩ := hB
      rw [ht] at hP1
      obtain ⟨hP, hD⟩ := va_join (wr := [(pa, .inr (3, [.ref p_v, .int 0, .ref p_st, .ref p_ib, .ref p_di, .ref p_wa, .ref p_se, .ref p_vh, .ref p_re])), (b0, .inl (cI, 6, .inl zi)), (b1, .inl (cZ, 6, .inl zi)), (b4, .inl (cI, 4, .inl zi)), (p_v, .inl (cI, 4, .inl zi)), (p_st, .inl (cI, 4, .inl zi)), (p_ib, .inl (cZ, 4, .inl zi)), (p_di, .inl (cI, 4, .inl zi)), (p_wa, .inl (cI, 4, .inl zi)), (p_se, .inl (cI, 4, .inl zi)), (ou, .inl (cJ, 1, .inr (.inl zl))), (od, .inl (cD, 1, .inr (.inr (.inr (.inl zd)))))]) (w1 := [(mm, .inr (10, [.int 2, .ref pl, .ref ig, .ref sl, .ref kl, .int 0, .int 0, .int 0]))]) hP hD [12] [0, 1, 2, 3, 4, 5, 6, 7, 8, 9, 10, 11] rfl rfl (by decide) (by decide) hk1 hFc hP1 hD1
      generalize H1 = H at hP hS ⊢
      have hP : va_P (dC, dI) vwCl [(pa, .inr (3, [.ref p_v, .int 0, .ref p_st, .ref p_ib, .ref p_di, .ref p_wa, .ref p_se, .ref p_vh, .ref p_re])), (b0, .inl (cI, 6, .inl zi)), (b1, .inl (cZ, 6, .inl zi)), (b4, .inl (cI, 4, .inl zi)), (p_v, .inl (cI, 4, .inl zi)), (p_st, .inl (cI, 4, .inl zi)), (p_ib, .inl (cZ, 4, .inl zi)), (p_di, .inl (cI, 4, .inl zi)), (p_wa, .inl (cI, 4, .inl zi)), (p_se, .inl (cI, 4, .inl zi)), (ou, .inl (cJ, 1, .inr (.inl zl))), (od, .inl (cD, 1, .inr (.inr (.inr (.inl zd))))), (mm, .inr (10, [.int 2, .ref pl, .ref ig, .ref sl, .ref kl, .int 0, .int 0, .int 0]))] H := hP
      have hD : va_D A [(pa, .inr (3, [.ref p_v, .int 0, .ref p_st, .ref p_ib, .ref p_di, .ref p_wa, .ref p_se, .ref p_vh, .ref p_re])), (b0, .inl (cI, 6, .inl zi)), (b1, .inl (cZ, 6, .inl zi)), (b4, .inl (cI, 4, .inl zi)), (p_v, .inl (cI, 4, .inl zi)), (p_st, .inl (cI, 4, .inl zi)), (p_ib, .inl (cZ, 4, .inl zi)), (p_di, .inl (cI, 4, .inl zi)), (p_wa, .inl (cI, 4, .inl zi)), (p_se, .inl (cI, 4, .inl zi)), (ou, .inl (cJ, 1, .inr (.inl zl))), (od, .inl (cD, 1, .inr (.inr (.inr (.inl zd))))), (mm, .inr (10, [.int 2, .ref pl, .ref ig, .ref sl, .ref kl, .int 0, .int 0, .int 0]))] := hD
      refine W.widen (k := 119) (n := 756) (Nat.le_refl _) (Nat.le_refl _) ?_
      have hw : r_36 = 2 := hw
      subst hw
      refine lv_iload hx hb dL_law_1549 (lv_at hl 1 rfl) ?_
      refine lv_icmp_eq (tgt := 1556) hx hb dL_law_1551 (by decide) (fun _ => ?_) (fun h9 => absurd h9 (by decide))
      refine lv_iload hx hb dL_law_1556 (lv_at hl 1 rfl) ?_
      refine lv_if_ne (tgt := 1573) hx hb dL_law_1558 (by decide) (fun _ => ?_) (fun h9 => absurd h9 (by decide))
      refine lv_goto (tgt := 2007) hx hb dL_law_1573 (by decide) ?_
      exact law_tail l C0 hAe hS (lv_sub hl [2, 7] rfl) (Nat.le_of_ble_eq_true rfl) (Nat.le_of_ble_eq_true rfl)
    · have hG1 : ¬ a2 < 1 := fun h => hB1 (Or.inl h)
      have hH1 : a2 ≤ 60 := Decidable.byContradiction (fun h => hB1 (Or.inr h))
      have hN1 : ¬ 60 < a2 := gN_g hH1
      by_cases hB2 : a3 < 0 ∨ ¬ a3 ≤ 2
      · have hM2 : a3 < 0 ∨ 2 < a3 := gN_b hB2
        refine lv_aload_n hx hb dL_law_1496 rfl (lv_at hl 4 rfl) ?_
        refine lv_aload_n hx hb dL_law_1497 rfl (lv_at hl 5 rfl) ?_
        refine lv_iload hx hb dL_law_1498 (lv_at hl 0 rfl) ?_
        refine lv_iconst (v := 1) hx hb dL_law_1500 (by decide) ?_
        refine lv_iadd hx hb dL_law_1501 ?_
        refine lv_topi (fun y_37 ey_37 => ?_)
        obtain rfl : y_37 = 1 := ey_37.trans (by decide)
        refine va_sld hx hb hX hbl hbA hS (by unfold vp_in; decide) dL_law_1502 ?_
        refine lv_topi (fun y_38 ey_38 => ?_)
        obtain rfl : a1 = y_38 := (ey_38.trans h_a1.symm).symm
        refine lv_aload_n hx hb dL_law_1503 rfl (lv_at hl 5 rfl) ?_
        refine lv_iload hx hb dL_law_1504 (lv_at hl 0 rfl) ?_
        refine lv_iconst (v := 2) hx hb dL_law_1506 (by decide) ?_
        refine lv_iadd hx hb dL_law_1507 ?_
        refine lv_topi (fun y_39 ey_39 => ?_)
        obtain rfl : y_39 = 2 := ey_39.trans (by decide)
        refine va_sld hx hb hX hbl hbA hS (by unfold vp_in; decide) dL_law_1508 ?_
        refine lv_topi (fun y_40 ey_40 => ?_)
        obtain rfl : a2 = y_40 := (ey_40.trans h_a2.symm).symm
        refine lv_aload_n hx hb dL_law_1509 rfl (lv_at hl 5 rfl) ?_
        refine lv_iload hx hb dL_law_1510 (lv_at hl 0 rfl) ?_
        refine lv_iconst (v := 3) hx hb dL_law_1512 (by decide) ?_
        refine lv_iadd hx hb dL_law_1513 ?_
        refine lv_topi (fun y_41 ey_41 => ?_)
        obtain rfl : y_41 = 3 := ey_41.trans (by decide)
        refine va_sld hx hb hX hbl hbA hS (by unfold vp_in; decide) dL_law_1514 ?_
        refine lv_topi (fun y_42 ey_42 => ?_)
        obtain rfl : a3 = y_42 := (ey_42.trans h_a3.symm).symm
        refine lv_aload_n hx hb dL_law_1515 rfl (lv_at hl 2 rfl) ?_
        have hPc := hP.sub (ws' := [(x, .inr (7, [.ref bx, .ref po, .ref tr, .ref pa, .ref sp])), (bx, .inr (2, [.ref b0, .ref b1, .int 0, .int 0, .ref b4, .int 0, .ref b6, .int 0, .int 0, .int 0, .int 0]))]) [0, 1] rfl
        have hDc := hD.sub (ws' := [(x, .inr (7, [.ref bx, .ref po, .ref tr, .ref pa, .ref sp])), (bx, .inr (2, [.ref b0, .ref b1, .int 0, .int 0, .ref b4, .int 0, .ref b6, .int 0, .int 0, .int 0, .int 0]))]) [0, 1] (by decide) rfl
        have hKc := hK.sub (tys' := []) [] rfl
        have hFc := va_free (wc := [(x, .inr (7, [.ref bx, .ref po, .ref tr, .ref pa, .ref sp])), (bx, .inr (2, [.ref b0, .ref b1, .int 0, .int 0, .ref b4, .int 0, .ref b6, .int 0, .int 0, .int 0, .int 0]))]) hD hS hA [0, 1] rfl
        refine va_calli (vx_runSW (As := [.ref x, .int a1, .int a2, .int a3, .ref ou]) (rest := []) ⟨hx, hb, hml, hown, hts⟩ (h2_L_swings l hfl dC dI x po tr sp pa bx b0 b1 b4 b6 a1 a2 a3 ou ((lx_s314 hLX).choose) ((lx_s314 hLX).choose_spec.choose) _ hG0 hH0 hG1 hH1 hB2) (vx_cwSW 5 hts gL_law_L_swings rfl rfl rfl (by decide +kernel) ⟨Nat.le_of_ble_eq_true rfl, Nat.le_of_ble_eq_true rfl⟩) ⟨pn_blind (fun U g mk a h => ⟨nc_bl U g mk a h.1, trivial⟩), fun U hU hW => ⟨rfl, pr_mk hU hW hPc hKc hDc, xs_mk hU hW hS hFc (lx_xa hLX (lx_s314 hLX).choose_spec.choose_spec), ⟨va_Nc.moved hW.alike (lx_n hLX), trivial⟩⟩⟩ rfl rfl hl.1 rfl (lv_room (Nat.le_of_ble_eq_true rfl)) dL_law_1516 ⟨Nat.le_of_ble_eq_true rfl, Nat.le_of_ble_eq_true rfl⟩) hS (fun q _ h => hFc q h) hFc (fun r_44 u_43 t H1 locs ht hvm hw hB hz1 hk1 hS => ?_)
        obtain ⟨hP1, hK1, hD1⟩ := hB
        rw [ht] at hP1
        obtain ⟨hP, hD⟩ := va_join (wr := [(pa, .inr (3, [.ref p_v, .int 0, .ref p_st, .ref p_ib, .ref p_di, .ref p_wa, .ref p_se, .ref p_vh, .ref p_re])), (b0, .inl (cI, 6, .inl zi)), (b1, .inl (cZ, 6, .inl zi)), (b4, .inl (cI, 4, .inl zi)), (p_v, .inl (cI, 4, .inl zi)), (p_st, .inl (cI, 4, .inl zi)), (p_ib, .inl (cZ, 4, .inl zi)), (p_di, .inl (cI, 4, .inl zi)), (p_wa, .inl (cI, 4, .inl zi)), (p_se, .inl (cI, 4, .inl zi)), (mm, .inr (10, [.int 0, .ref pl, .ref ig, .ref sl, .ref kl, .int 0, .int 0, .int 0])), (pl, .inr (1, [.int 0, .ref dz, .int 0])), (sl, .inr (1, [.int 0, .ref dz, .int 0])), (kl, .inr (1, [.int 0, .ref dz, .int 0])), (ou, .inl (cJ, 1, .inr (.inl zl))), (od, .inl (cD, 1, .inr (.inr (.inr (.inl zd)))))]) (w1 := []) hP hD [0, 1] [2, 3, 4, 5, 6, 7, 8, 9, 10, 11, 12, 13, 14, 15, 16, 17] rfl rfl (by decide) (by decide) hk1 hFc hP1 hD1
        generalize H1 = H at hP hS ⊢
        have hP : va_P (dC, dI) vwCl [(pa, .inr (3, [.ref p_v, .int 0, .ref p_st, .ref p_ib, .ref p_di, .ref p_wa, .ref p_se, .ref p_vh, .ref p_re])), (b0, .inl (cI, 6, .inl zi)), (b1, .inl (cZ, 6, .inl zi)), (b4, .inl (cI, 4, .inl zi)), (p_v, .inl (cI, 4, .inl zi)), (p_st, .inl (cI, 4, .inl zi)), (p_ib, .inl (cZ, 4, .inl zi)), (p_di, .inl (cI, 4, .inl zi)), (p_wa, .inl (cI, 4, .inl zi)), (p_se, .inl (cI, 4, .inl zi)), (mm, .inr (10, [.int 0, .ref pl, .ref ig, .ref sl, .ref kl, .int 0, .int 0, .int 0])), (pl, .inr (1, [.int 0, .ref dz, .int 0])), (sl, .inr (1, [.int 0, .ref dz, .int 0])), (kl, .inr (1, [.int 0, .ref dz, .int 0])), (ou, .inl (cJ, 1, .inr (.inl zl))), (od, .inl (cD, 1, .inr (.inr (.inr (.inl zd)))))] H := hP
        have hD : va_D A [(pa, .inr (3, [.ref p_v, .int 0, .ref p_st, .ref p_ib, .ref p_di, .ref p_wa, .ref p_se, .ref p_vh, .ref p_re])), (b0, .inl (cI, 6, .inl zi)), (b1, .inl (cZ, 6, .inl zi)), (b4, .inl (cI, 4, .inl zi)), (p_v, .inl (cI, 4, .inl zi)), (p_st, .inl (cI, 4, .inl zi)), (p_ib, .inl (cZ, 4, .inl zi)), (p_di, .inl (cI, 4, .inl zi)), (p_wa, .inl (cI, 4, .inl zi)), (p_se, .inl (cI, 4, .inl zi)), (mm, .inr (10, [.int 0, .ref pl, .ref ig, .ref sl, .ref kl, .int 0, .int 0, .int 0])), (pl, .inr (1, [.int 0, .ref dz, .int 0])), (sl, .inr (1, [.int 0, .ref dz, .int 0])), (kl, .inr (1, [.int 0, .ref dz, .int 0])), (ou, .inl (cJ, 1, .inr (.inl zl))), (od, .inl (cD, 1, .inr (.inr (.inr (.inl zd)))))] := hD
        refine W.widen (k := 119) (n := 756) (Nat.le_of_ble_eq_true rfl) (Nat.le_of_ble_eq_true rfl) ?_
        have hw : r_44 = 2 := hw
        subst hw
        refine lv_istore (lv' := [(6, .int 2), (5, .int 0), (4, .ref od), (3, .ref ou), (2, .ref mm), (1, .ref x), (0, .ref b)]) hx hb dL_law_1519 hl (by decide) rfl (fun ls hl => ?_)
        refine lv_aload_n hx hb dL_law_1521 rfl (lv_at hl 4 rfl) ?_
        refine lv_aload_n hx hb dL_law_1522 rfl (lv_at hl 6 rfl) ?_
        refine lv_iload hx hb dL_law_1523 (lv_at hl 1 rfl) ?_
        refine lv_iconst (v := 1) hx hb dL_law_1525 (by decide) ?_
        refine lv_iadd hx hb dL_law_1526 ?_
        refine lv_topi (fun y_45 ey_45 => ?_)
        obtain rfl : y_45 = 1 := ey_45.trans (by decide)
        refine va_sld hx hb hX hbl hbA hS (by unfold vp_in; decide) dL_law_1527 ?_
        refine lv_topi (fun y_46 ey_46 => ?_)
        obtain rfl : a1 = y_46 := (ey_46.trans h_a1.symm).symm
        refine lv_aload_n hx hb dL_law_1528 rfl (lv_at hl 6 rfl) ?_
        refine lv_iload hx hb dL_law_1529 (lv_at hl 1 rfl) ?_
        refine lv_iconst (v := 2) hx hb dL_law_1531 (by decide) ?_
        refine lv_iadd hx hb dL_law_1532 ?_
        refine lv_topi (fun y_47 ey_47 => ?_)
        obtain rfl : y_47 = 2 := ey_47.trans (by decide)
        refine va_sld hx hb hX hbl hbA hS (by unfold vp_in; decide) dL_law_1533 ?_
        refine lv_topi (fun y_48 ey_48 => ?_)
        obtain rfl : a2 = y_48 := (ey_48.trans h_a2.symm).symm
        refine lv_aload_n hx hb dL_law_1534 rfl (lv_at hl 6 rfl) ?_
        refine lv_iload hx hb dL_law_1535 (lv_at hl 1 rfl) ?_
        refine lv_iconst (v := 3) hx hb dL_law_1537 (by decide) ?_
        refine lv_iadd hx hb dL_law_1538 ?_
        refine lv_topi (fun y_49 ey_49 => ?_)
        obtain rfl : y_49 = 3 := ey_49.trans (by decide)
        refine va_sld hx hb hX hbl hbA hS (by unfold vp_in; decide) dL_law_1539 ?_
        refine lv_topi (fun y_50 ey_50 => ?_)
        obtain rfl : a3 = y_50 := (ey_50.trans h_a3.symm).symm
        have hPc := hP.sub (ws' := [(mm, .inr (10, [.int 0, .ref pl, .ref ig, .ref sl, .ref kl, .int 0, .int 0, .int 0])), (pl, .inr (1, [.int 0, .ref dz, .int 0])), (sl, .inr (1, [.int 0, .ref dz, .int 0])), (kl, .inr (1, [.int 0, .ref dz, .int 0]))]) [10, 11, 12, 13] rfl
        have hDc := hD.sub (ws' := [(mm, .inr (10, [.int 0, .ref pl, .ref ig, .ref sl, .ref kl, .int 0, .int 0, .int 0])), (pl, .inr (1, [.int 0, .ref dz, .int 0])), (sl, .inr (1, [.int 0, .ref dz, .int 0])), (kl, .inr (1, [.int 0, .ref dz, .int 0]))]) [10, 11, 12, 13] (by decide) rfl
        have hKc := hK.sub (tys' := []) [] rfl
        have hFc := va_free (wc := [(mm, .inr (10, [.int 0, .ref pl, .ref ig, .ref sl, .ref kl, .int 0, .int 0, .int 0])), (pl, .inr (1, [.int 0, .ref dz, .int 0])), (sl, .inr (1, [.int 0, .ref dz, .int 0])), (kl, .inr (1, [.int 0, .ref dz, .int 0]))]) hD hS hA [10, 11, 12, 13] rfl
        refine va_calli (va_runV (As := [.int a1, .int a2, .int a3]) (rest := []) ⟨hx, hb, hml, hown, hts⟩ (c2_X8_swings l dC dI mm pl ig sl kl dz a1 a2 a3 _ hG0 hN0 hG1 hN1 hM2) (cwV 3 hts gL_law_X8_swings rfl rfl rfl (by decide +kernel) ⟨Nat.le_of_ble_eq_true rfl, Nat.le_of_ble_eq_true rfl⟩) ⟨pe_blind mo_bl, va_recv hKc hPc (ci := 10) (q0 := 0) rfl rfl, fun U hU hW => ⟨rfl, pr_mk hU hW hPc hKc hDc, mo_mk hW (lx_m hLX)⟩⟩ rfl rfl hl.1 rfl (lv_room (Nat.le_of_ble_eq_true rfl)) dL_law_1540 ⟨Nat.le_of_ble_eq_true rfl, Nat.le_of_ble_eq_true rfl⟩) hS (fun q _ h => hFc q h) hFc (fun r_52 u_51 t H1 locs ht hvm hw hB hz1 hk1 hS => ?_)
        obtain ⟨hP1, hK1, hD1⟩ := hB
        rw [ht] at hP1
        obtain ⟨hP, hD⟩ := va_join (wr := [(pa, .inr (3, [.ref p_v, .int 0, .ref p_st, .ref p_ib, .ref p_di, .ref p_wa, .ref p_se, .ref p_vh, .ref p_re])), (b0, .inl (cI, 6, .inl zi)), (b1, .inl (cZ, 6, .inl zi)), (b4, .inl (cI, 4, .inl zi)), (p_v, .inl (cI, 4, .inl zi)), (p_st, .inl (cI, 4, .inl zi)), (p_ib, .inl (cZ, 4, .inl zi)), (p_di, .inl (cI, 4, .inl zi)), (p_wa, .inl (cI, 4, .inl zi)), (p_se, .inl (cI, 4, .inl zi)), (ou, .inl (cJ, 1, .inr (.inl zl))), (od, .inl (cD, 1, .inr (.inr (.inr (.inl zd)))))]) (w1 := [(mm, .inr (10, [.int 2, .ref pl, .ref ig, .ref sl, .ref kl, .int 0, .int 0, .int 0]))]) hP hD [10, 11, 12, 13] [0, 1, 2, 3, 4, 5, 6, 7, 8, 9, 14, 15] rfl rfl (by decide) (by decide) hk1 hFc hP1 hD1
        generalize H1 = H at hP hS ⊢
        have hP : va_P (dC, dI) vwCl [(pa, .inr (3, [.ref p_v, .int 0, .ref p_st, .ref p_ib, .ref p_di, .ref p_wa, .ref p_se, .ref p_vh, .ref p_re])), (b0, .inl (cI, 6, .inl zi)), (b1, .inl (cZ, 6, .inl zi)), (b4, .inl (cI, 4, .inl zi)), (p_v, .inl (cI, 4, .inl zi)), (p_st, .inl (cI, 4, .inl zi)), (p_ib, .inl (cZ, 4, .inl zi)), (p_di, .inl (cI, 4, .inl zi)), (p_wa, .inl (cI, 4, .inl zi)), (p_se, .inl (cI, 4, .inl zi)), (ou, .inl (cJ, 1, .inr (.inl zl))), (od, .inl (cD, 1, .inr (.inr (.inr (.inl zd))))), (mm, .inr (10, [.int 2, .ref pl, .ref ig, .ref sl, .ref kl, .int 0, .int 0, .int 0]))] H := hP
        have hD : va_D A [(pa, .inr (3, [.ref p_v, .int 0, .ref p_st, .ref p_ib, .ref p_di, .ref p_wa, .ref p_se, .ref p_vh, .ref p_re])), (b0, .inl (cI, 6, .inl zi)), (b1, .inl (cZ, 6, .inl zi)), (b4, .inl (cI, 4, .inl zi)), (p_v, .inl (cI, 4, .inl zi)), (p_st, .inl (cI, 4, .inl zi)), (p_ib, .inl (cZ, 4, .inl zi)), (p_di, .inl (cI, 4, .inl zi)), (p_wa, .inl (cI, 4, .inl zi)), (p_se, .inl (cI, 4, .inl zi)), (ou, .inl (cJ, 1, .inr (.inl zl))), (od, .inl (cD, 1, .inr (.inr (.inr (.inl zd))))), (mm, .inr (10, [.int 2, .ref pl, .ref ig, .ref sl, .ref kl, .int 0, .int 0, .int 0]))] := hD
        refine W.widen (k := 119) (n := 756) (Nat.le_refl _) (Nat.le_refl _) ?_
        have hw : r_52 = 0 := hw
        subst hw
        refine lv_istore (lv' := [(7, .int 0), (6, .int 2), (5, .int 0), (4, .ref od), (3, .ref ou), (2, .ref mm), (1, .ref x), (0, .ref b)]) hx hb dL_law_1543 hl (by decide) rfl (fun ls hl => ?_)
        refine lv_aload_n hx hb dL_law_1545 rfl (lv_at hl 5 rfl) ?_
        have hPc := hP.sub (ws' := [(mm, .inr (10, [.int 2, .ref pl, .ref ig, .ref sl, .ref kl, .int 0, .int 0, .int 0]))]) [12] rfl
        have hDc := hD.sub (ws' := [(mm, .inr (10, [.int 2, .ref pl, .ref ig, .ref sl, .ref kl, .int 0, .int 0, .int 0]))]) [12] (by decide) rfl
        have hKc := hK.sub (tys' := []) [] rfl
        have hFc := va_free (wc := [(mm, .inr (10, [.int 2, .ref pl, .ref ig, .ref sl, .ref kl, .int 0, .int 0, .int 0]))]) hD hS hA [12] rfl
        refine va_calli (va_runV (As := []) (rest := []) ⟨hx, hb, hml, hown, hts⟩ (c_X8_thrown l dC dI mm pl ig sl kl (2 : Int32) (0 : Int32) (0 : Int32) (0 : Int32) _ ) (cwV 0 hts gL_law_X8_thrown rfl rfl rfl (by decide +kernel) ⟨Nat.le_of_ble_eq_true rfl, Nat.le_of_ble_eq_true rfl⟩) ⟨pr_blind, va_recv hKc hPc (ci := 10) (q0 := 0) rfl rfl, fun U hU hW => ⟨rfl, pr_mk hU hW hPc hKc hDc⟩⟩ rfl rfl hl.1 rfl (lv_room (Nat.le_of_ble_eq_true rfl)) dL_law_1546 ⟨Nat.le_of_ble_eq_true rfl, Nat.le_of_ble_eq_true rfl⟩) hS (fun q _ h => hFc q h) hFc (fun r_54 u_53 t H1 locs ht hvm hw hB hz1 hk1 hS => ?_)
        obtain ⟨hP1, hK1, hD1⟩ := hB
        rw [ht] at hP1
        obtain ⟨hP, hD⟩ := va_join (wr := [(pa, .inr (3, [.ref p_v, .int 0, .ref p_st, .ref p_ib, .ref p_di, .ref p_wa, .ref p_se, .ref p_vh, .ref p_re])), (b0, .inl (cI, 6, .inl zi)), (b1, .inl (cZ, 6, .inl zi)), (b4, .inl (cI, 4, .inl zi)), (p_v, .inl (cI, 4, .inl zi)), (p_st, .inl (cI, 4, .inl zi)), (p_ib, .inl (cZ, 4, .inl zi)), (p_di, .inl (cI, 4, .inl zi)), (p_wa, .inl (cI, 4, .inl zi)), (p_se, .inl (cI, 4, .inl zi)), (ou, .inl (cJ, 1, .inr (.inl zl))), (od, .inl (cD, 1, .inr (.inr (.inr (.inl zd)))))]) (w1 := [(mm, .inr (10, [.int 2, .ref pl, .ref ig, .ref sl, .ref kl, .int 0, .int 0, .int 0]))]) hP hD [12] [0, 1, 2, 3, 4, 5, 6, 7, 8, 9, 10, 11] rfl rfl (by decide) (by decide) hk1 hFc hP1 hD1
        generalize H1 = H at hP hS ⊢
        have hP : va_P (dC, dI) vwCl [(pa, .inr (3, [.ref p_v, .int 0, .ref p_st, .ref p_ib, .ref p_di, .ref p_wa, .ref p_se, .ref p_vh, .ref p_re])), (b0, .inl (cI, 6, .inl zi)), (b1, .inl (cZ, 6, .inl zi)), (b4, .inl (cI, 4, .inl zi)), (p_v, .inl (cI, 4, .inl zi)), (p_st, .inl (cI, 4, .inl zi)), (p_ib, .inl (cZ, 4, .inl zi)), (p_di, .inl (cI, 4, .inl zi)), (p_wa, .inl (cI, 4, .inl zi)), (p_se, .inl (cI, 4, .inl zi)), (ou, .inl (cJ, 1, .inr (.inl zl))), (od, .inl (cD, 1, .inr (.inr (.inr (.inl zd))))), (mm, .inr (10, [.int 2, .ref pl, .ref ig, .ref sl, .ref kl, .int 0, .int 0, .int 0]))] H := hP
        have hD : va_D A [(pa, .inr (3, [.ref p_v, .int 0, .ref p_st, .ref p_ib, .ref p_di, .ref p_wa, .ref p_se, .ref p_vh, .ref p_re])), (b0, .inl (cI, 6, .inl zi)), (b1, .inl (cZ, 6, .inl zi)), (b4, .inl (cI, 4, .inl zi)), (p_v, .inl (cI, 4, .inl zi)), (p_st, .inl (cI, 4, .inl zi)), (p_ib, .inl (cZ, 4, .inl zi)), (p_di, .inl (cI, 4, .inl zi)), (p_wa, .inl (cI, 4, .inl zi)), (p_se, .inl (cI, 4, .inl zi)), (ou, .inl (cJ, 1, .inr (.inl zl))), (od, .inl (cD, 1, .inr (.inr (.inr (.inl zd))))), (mm, .inr (10, [.int 2, .ref pl, .ref ig, .ref sl, .ref kl, .int 0, .int 0, .int 0]))] := hD
        refine W.widen (k := 119) (n := 756) (Nat.le_refl _) (Nat.le_refl _) ?_
        have hw : r_54 = 2 := hw
        subst hw
        refine lv_iload hx hb dL_law_1549 (lv_at hl 1 rfl) ?_
        refine lv_icmp_eq (tgt := 1556) hx hb dL_law_1551 (by decide) (fun _ => ?_) (fun h9 => absurd h9 (by decide))
        refine lv_iload hx hb dL_law_1556 (lv_at hl 1 rfl) ?_
        refine lv_if_ne (tgt := 1573) hx hb dL_law_1558 (by decide) (fun _ => ?_) (fun h9 => absurd h9 (by decide))
        refine lv_goto (tgt := 2007) hx hb dL_law_1573 (by decide) ?_
        exact law_tail l C0 hAe hS (lv_sub hl [2, 7] rfl) (Nat.le_of_ble_eq_true rfl) (Nat.le_of_ble_eq_true rfl)
      · have hG2 : ¬ a3 < 0 := fun h => hB2 (Or.inl h)
        have hH2 : a3 ≤ 2 := Decidable.byContradiction (fun h => hB2 (Or.inr h))
        have hN2 : ¬ 2 < a3 := gN_g hH2
        refine lv_aload_n hx hb dL_law_1496 rfl (lv_at hl 4 rfl) ?_
        refine lv_aload_n hx hb dL_law_1497 rfl (lv_at hl 5 rfl) ?_
        refine lv_iload hx hb dL_law_1498 (lv_at hl 0 rfl) ?_
        refine lv_iconst (v := 1) hx hb dL_law_1500 (by decide) ?_
        refine lv_iadd hx hb dL_law_1501 ?_
        refine lv_topi (fun y_55 ey_55 => ?_)
        obtain rfl : y_55 = 1 := ey_55.trans (by decide)
        refine va_sld hx hb hX hbl hbA hS (by unfold vp_in; decide) dL_law_1502 ?_
        refine lv_topi (fun y_56 ey_56 => ?_)
        obtain rfl : a1 = y_56 := (ey_56.trans h_a1.symm).symm
        refine lv_aload_n hx hb dL_law_1503 rfl (lv_at hl 5 rfl) ?_
        refine lv_iload hx hb dL_law_1504 (lv_at hl 0 rfl) ?_
        refine lv_iconst (v := 2) hx hb dL_law_1506 (by decide) ?_
        refine lv_iadd hx hb dL_law_1507 ?_
        refine lv_topi (fun y_57 ey_57 => ?_)
        obtain rfl : y_57 = 2 := ey_57.trans (by decide)
        refine va_sld hx hb hX hbl hbA hS (by unfold vp_in; decide) dL_law_1508 ?_
        refine lv_topi (fun y_58 ey_58 => ?_)
        obtain rfl : a2 = y_58 := (ey_58.trans h_a2.symm).symm
        refine lv_aload_n hx hb dL_law_1509 rfl (lv_at hl 5 rfl) ?_
        refine lv_iload hx hb dL_law_1510 (lv_at hl 0 rfl) ?_
        refine lv_iconst (v := 3) hx hb dL_law_1512 (by decide) ?_
        refine lv_iadd hx hb dL_law_1513 ?_
        refine lv_topi (fun y_59 ey_59 => ?_)
        obtain rfl : y_59 = 3 := ey_59.trans (by decide)
        refine va_sld hx hb hX hbl hbA hS (by unfold vp_in; decide) dL_law_1514 ?_
        refine lv_topi (fun y_60 ey_60 => ?_)
        obtain rfl : a3 = y_60 := (ey_60.trans h_a3.symm).symm
        refine lv_aload_n hx hb dL_law_1515 rfl (lv_at hl 2 rfl) ?_
        have hPc := hP.sub (ws' := [(x, .inr (7, [.ref bx, .ref po, .ref tr, .ref pa, .ref sp])), (bx, .inr (2, [.ref b0, .ref b1, .int 0, .int 0, .ref b4, .int 0, .ref b6, .int 0, .int 0, .int 0, .int 0])), (pa, .inr (3, [.ref p_v, .int 0, .ref p_st, .ref p_ib, .ref p_di, .ref p_wa, .ref p_se, .ref p_vh, .ref p_re])), (p_v, .inl (cI, 4, .inl zi)), (p_st, .inl (cI, 4, .inl zi)), (p_ib, .inl (cZ, 4, .inl zi)), (p_di, .inl (cI, 4, .inl zi)), (p_wa, .inl (cI, 4, .inl zi)), (p_se, .inl (cI, 4, .inl zi)), (ou, .inl (cJ, 1, .inr (.inl zl)))]) [0, 1, 2, 6, 7, 8, 9, 10, 11, 16] rfl
        have hDc := hD.sub (ws' := [(x, .inr (7, [.ref bx, .ref po, .ref tr, .ref pa, .ref sp])), (bx, .inr (2, [.ref b0, .ref b1, .int 0, .int 0, .ref b4, .int 0, .ref b6, .int 0, .int 0, .int 0, .int 0])), (pa, .inr (3, [.ref p_v, .int 0, .ref p_st, .ref p_ib, .ref p_di, .ref p_wa, .ref p_se, .ref p_vh, .ref p_re])), (p_v, .inl (cI, 4, .inl zi)), (p_st, .inl (cI, 4, .inl zi)), (p_ib, .inl (cZ, 4, .inl zi)), (p_di, .inl (cI, 4, .inl zi)), (p_wa, .inl (cI, 4, .inl zi)), (p_se, .inl (cI, 4, .inl zi)), (ou, .inl (cJ, 1, .inr (.inl zl)))]) [0, 1, 2, 6, 7, 8, 9, 10, 11, 16] (by decide) rfl
        have hKc := hK.sub (tys' := [(cI, .int), (cZ, .boolean), (cJ, .long)]) [0, 1, 2] rfl
        have hFc := va_free (wc := [(x, .inr (7, [.ref bx, .ref po, .ref tr, .ref pa, .ref sp])), (bx, .inr (2, [.ref b0, .ref b1, .int 0, .int 0, .ref b4, .int 0, .ref b6, .int 0, .int 0, .int 0, .int 0])), (pa, .inr (3, [.ref p_v, .int 0, .ref p_st, .ref p_ib, .ref p_di, .ref p_wa, .ref p_se, .ref p_vh, .ref p_re])), (p_v, .inl (cI, 4, .inl zi)), (p_st, .inl (cI, 4, .inl zi)), (p_ib, .inl (cZ, 4, .inl zi)), (p_di, .inl (cI, 4, .inl zi)), (p_wa, .inl (cI, 4, .inl zi)), (p_se, .inl (cI, 4, .inl zi)), (ou, .inl (cJ, 1, .inr (.inl zl)))]) hD hS hA [0, 1, 2, 6, 7, 8, 9, 10, 11, 16] rfl
        refine va_calli (vx_runSW (As := [.ref x, .int a1, .int a2, .int a3, .ref ou]) (rest := []) ⟨hx, hb, hml, hown, hts⟩ (h_L_swings l dC dI x po tr sp bx b0 b1 b4 b6 pa p_v p_st p_ib p_di p_wa p_se p_vh p_re cI cZ a1 a2 a3 ou cJ _ hG0 hH0 hG1 hH1 hG2 hH2) (vx_cwSW 5 hts gL_law_L_swings rfl rfl rfl (by decide +kernel) ⟨Nat.le_of_ble_eq_true rfl, Nat.le_of_ble_eq_true rfl⟩) ⟨pr_blind, fun U hU hW => ⟨rfl, pr_mk hU hW hPc hKc hDc⟩⟩ rfl rfl hl.1 rfl (lv_room (Nat.le_of_ble_eq_true rfl)) dL_law_1516 ⟨Nat.le_of_ble_eq_true rfl, Nat.le_of_ble_eq_true rfl⟩) hS (fun q _ h => hFc q h) hFc (fun r_62 u_61 t H1 locs ht hvm hw hB hz1 hk1 hS => ?_)
        obtain ⟨hP1, hK1, hD1⟩ := hB
        rw [ht] at hP1
        obtain ⟨hP, hD⟩ := va_join (wr := [(b0, .inl (cI, 6, .inl zi)), (b1, .inl (cZ, 6, .inl zi)), (b4, .inl (cI, 4, .inl zi)), (mm, .inr (10, [.int 0, .ref pl, .ref ig, .ref sl, .ref kl, .int 0, .int 0, .int 0])), (pl, .inr (1, [.int 0, .ref dz, .int 0])), (sl, .inr (1, [.int 0, .ref dz, .int 0])), (kl, .inr (1, [.int 0, .ref dz, .int 0])), (od, .inl (cD, 1, .inr (.inr (.inr (.inl zd)))))]) (w1 := [(ou, .inl (cJ, 1, .inr (.inl zl)))]) hP hD [0, 1, 2, 6, 7, 8, 9, 10, 11, 16] [3, 4, 5, 12, 13, 14, 15, 17] rfl rfl (by decide) (by decide) hk1 hFc hP1 hD1
        generalize H1 = H at hP hS ⊢
        have hP : va_P (dC, dI) vwCl [(b0, .inl (cI, 6, .inl zi)), (b1, .inl (cZ, 6, .inl zi)), (b4, .inl (cI, 4, .inl zi)), (mm, .inr (10, [.int 0, .ref pl, .ref ig, .ref sl, .ref kl, .int 0, .int 0, .int 0])), (pl, .inr (1, [.int 0, .ref dz, .int 0])), (sl, .inr (1, [.int 0, .ref dz, .int 0])), (kl, .inr (1, [.int 0, .ref dz, .int 0])), (od, .inl (cD, 1, .inr (.inr (.inr (.inl zd))))), (ou, .inl (cJ, 1, .inr (.inl zl)))] H := hP
        have hD : va_D A [(b0, .inl (cI, 6, .inl zi)), (b1, .inl (cZ, 6, .inl zi)), (b4, .inl (cI, 4, .inl zi)), (mm, .inr (10, [.int 0, .ref pl, .ref ig, .ref sl, .ref kl, .int 0, .int 0, .int 0])), (pl, .inr (1, [.int 0, .ref dz, .int 0])), (sl, .inr (1, [.int 0, .ref dz, .int 0])), (kl, .inr (1, [.int 0, .ref dz, .int 0])), (od, .inl (cD, 1, .inr (.inr (.inr (.inl zd))))), (ou, .inl (cJ, 1, .inr (.inl zl)))] := hD
        refine W.widen (k := 118) (n := 750) (Nat.le_refl _) (Nat.le_refl _) ?_
        have hw : r_62 = 0 := hw
        subst hw
        refine lv_istore (lv' := [(6, .int 0), (5, .int 0), (4, .ref od), (3, .ref ou), (2, .ref mm), (1, .ref x), (0, .ref b)]) hx hb dL_law_1519 hl (by decide) rfl (fun ls hl => ?_)
        refine lv_aload_n hx hb dL_law_1521 rfl (lv_at hl 4 rfl) ?_
        refine lv_aload_n hx hb dL_law_1522 rfl (lv_at hl 6 rfl) ?_
        refine lv_iload hx hb dL_law_1523 (lv_at hl 1 rfl) ?_
        refine lv_iconst (v := 1) hx hb dL_law_1525 (by decide) ?_
        refine lv_iadd hx hb dL_law_1526 ?_
        refine lv_topi (fun y_63 ey_63 => ?_)
        obtain rfl : y_63 = 1 := ey_63.trans (by decide)
        refine va_sld hx hb hX hbl hbA hS (by unfold vp_in; decide) dL_law_1527 ?_
        refine lv_topi (fun y_64 ey_64 => ?_)
        obtain rfl : a1 = y_64 := (ey_64.trans h_a1.symm).symm
        refine lv_aload_n hx hb dL_law_1528 rfl (lv_at hl 6 rfl) ?_
        refine lv_iload hx hb dL_law_1529 (lv_at hl 1 rfl) ?_
        refine lv_iconst (v := 2) hx hb dL_law_1531 (by decide) ?_
        refine lv_iadd hx hb dL_law_1532 ?_
        refine lv_topi (fun y_65 ey_65 => ?_)
        obtain rfl : y_65 = 2 := ey_65.trans (by decide)
        refine va_sld hx hb hX hbl hbA hS (by unfold vp_in; decide) dL_law_1533 ?_
        refine lv_topi (fun y_66 ey_66 => ?_)
        obtain rfl : a2 = y_66 := (ey_66.trans h_a2.symm).symm
        refine lv_aload_n hx hb dL_law_1534 rfl (lv_at hl 6 rfl) ?_
        refine lv_iload hx hb dL_law_1535 (lv_at hl 1 rfl) ?_
        refine lv_iconst (v := 3) hx hb dL_law_1537 (by decide) ?_
        refine lv_iadd hx hb dL_law_1538 ?_
        refine lv_topi (fun y_67 ey_67 => ?_)
        obtain rfl : y_67 = 3 := ey_67.trans (by decide)
        refine va_sld hx hb hX hbl hbA hS (by unfold vp_in; decide) dL_law_1539 ?_
        refine lv_topi (fun y_68 ey_68 => ?_)
        obtain rfl : a3 = y_68 := (ey_68.trans h_a3.symm).symm
        have hPc := hP.sub (ws' := [(mm, .inr (10, [.int 0, .ref pl, .ref ig, .ref sl, .ref kl, .int 0, .int 0, .int 0])), (pl, .inr (1, [.int 0, .ref dz, .int 0])), (sl, .inr (1, [.int 0, .ref dz, .int 0])), (kl, .inr (1, [.int 0, .ref dz, .int 0]))]) [3, 4, 5, 6] rfl
        have hDc := hD.sub (ws' := [(mm, .inr (10, [.int 0, .ref pl, .ref ig, .ref sl, .ref kl, .int 0, .int 0, .int 0])), (pl, .inr (1, [.int 0, .ref dz, .int 0])), (sl, .inr (1, [.int 0, .ref dz, .int 0])), (kl, .inr (1, [.int 0, .ref dz, .int 0]))]) [3, 4, 5, 6] (by decide) rfl
        have hKc := hK.sub (tys' := []) [] rfl
        have hFc := va_free (wc := [(mm, .inr (10, [.int 0, .ref pl, .ref ig, .ref sl, .ref kl, .int 0, .int 0, .int 0])), (pl, .inr (1, [.int 0, .ref dz, .int 0])), (sl, .inr (1, [.int 0, .ref dz, .int 0])), (kl, .inr (1, [.int 0, .ref dz, .int 0]))]) hD hS hA [3, 4, 5, 6] rfl
        refine va_calli (va_runV (As := [.int a1, .int a2, .int a3]) (rest := []) ⟨hx, hb, hml, hown, hts⟩ (c_X8_swings l dC dI mm pl ig sl kl dz a1 a2 a3 _ hG0 hN0 hG1 hN1 hG2 hN2) (cwV 3 hts gL_law_X8_swings rfl rfl rfl (by decide +kernel) ⟨Nat.le_of_ble_eq_true rfl, Nat.le_of_ble_eq_true rfl⟩) ⟨pe_blind mo_bl, va_recv hKc hPc (ci := 10) (q0 := 0) rfl rfl, fun U hU hW => ⟨rfl, pr_mk hU hW hPc hKc hDc, mo_mk hW (lx_m hLX)⟩⟩ rfl rfl hl.1 rfl (lv_room (Nat.le_of_ble_eq_true rfl)) dL_law_1540 ⟨Nat.le_of_ble_eq_true rfl, Nat.le_of_ble_eq_true rfl⟩) hS (fun q _ h => hFc q h) hFc (fun r_70 u_69 t H1 locs ht hvm hw hB hz1 hk1 hS => ?_)
        obtain ⟨hP1, hK1, hD1⟩ := hB
        rw [ht] at hP1
        obtain ⟨hP, hD⟩ := va_join (wr := [(b0, .inl (cI, 6, .inl zi)), (b1, .inl (cZ, 6, .inl zi)), (b4, .inl (cI, 4, .inl zi)), (od, .inl (cD, 1, .inr (.inr (.inr (.inl zd))))), (ou, .inl (cJ, 1, .inr (.inl zl)))]) (w1 := [(mm, .inr (10, [.int 0, .ref pl, .ref ig, .ref sl, .ref kl, .int 0, .int 0, .int 0]))]) hP hD [3, 4, 5, 6] [0, 1, 2, 7, 8] rfl rfl (by decide) (by decide) hk1 hFc hP1 hD1
        generalize H1 = H at hP hS ⊢
        have hP : va_P (dC, dI) vwCl [(b0, .inl (cI, 6, .inl zi)), (b1, .inl (cZ, 6, .inl zi)), (b4, .inl (cI, 4, .inl zi)), (od, .inl (cD, 1, .inr (.inr (.inr (.inl zd))))), (ou, .inl (cJ, 1, .inr (.inl zl))), (mm, .inr (10, [.int 0, .ref pl, .ref ig, .ref sl, .ref kl, .int 0, .int 0, .int 0]))] H := hP
        have hD : va_D A [(b0, .inl (cI, 6, .inl zi)), (b1, .inl (cZ, 6, .inl zi)), (b4, .inl (cI, 4, .inl zi)), (od, .inl (cD, 1, .inr (.inr (.inr (.inl zd))))), (ou, .inl (cJ, 1, .inr (.inl zl))), (mm, .inr (10, [.int 0, .ref pl, .ref ig, .ref sl, .ref kl, .int 0, .int 0, .int 0]))] := hD
        refine W.widen (k := 122) (n := 770) (Nat.le_of_ble_eq_true rfl) (Nat.le_of_ble_eq_true rfl) ?_
        have hw : r_70 = 0 := hw
        subst hw
        refine lv_istore (lv' := [(7, .int 0), (6, .int 0), (5, .int 0), (4, .ref od), (3, .ref ou), (2, .ref mm), (1, .ref x), (0, .ref b)]) hx hb dL_law_1543 hl (by decide) rfl (fun ls hl => ?_)
        refine lv_aload_n hx hb dL_law_1545 rfl (lv_at hl 5 rfl) ?_
        have hPc := hP.sub (ws' := [(mm, .inr (10, [.int 0, .ref pl, .ref ig, .ref sl, .ref kl, .int 0, .int 0, .int 0]))]) [5] rfl
        have hDc := hD.sub (ws' := [(mm, .inr (10, [.int 0, .ref pl, .ref ig, .ref sl, .ref kl, .int 0, .int 0, .int 0]))]) [5] (by decide) rfl
        have hKc := hK.sub (tys' := []) [] rfl
        have hFc := va_free (wc := [(mm, .inr (10, [.int 0, .ref pl, .ref ig, .ref sl, .ref kl, .int 0, .int 0, .int 0]))]) hD hS hA [5] rfl
        refine va_calli (va_runV (As := []) (rest := []) ⟨hx, hb, hml, hown, hts⟩ (c_X8_thrown l dC dI mm pl ig sl kl (0 : Int32) (0 : Int32) (0 : Int32) (0 : Int32) _ ) (cwV 0 hts gL_law_X8_thrown rfl rfl rfl (by decide +kernel) ⟨Nat.le_of_ble_eq_true rfl, Nat.le_of_ble_eq_true rfl⟩) ⟨pr_blind, va_recv hKc hPc (ci := 10) (q0 := 0) rfl rfl, fun U hU hW => ⟨rfl, pr_mk hU hW hPc hKc hDc⟩⟩ rfl rfl hl.1 rfl (lv_room (Nat.le_of_ble_eq_true rfl)) dL_law_1546 ⟨Nat.le_of_ble_eq_true rfl, Nat.le_of_ble_eq_true rfl⟩) hS (fun q _ h => hFc q h) hFc (fun r_72 u_71 t H1 locs ht hvm hw hB hz1 hk1 hS => ?_)
        obtain ⟨hP1, hK1, hD1⟩ := hB
        rw [ht] at hP1
        obtain ⟨hP, hD⟩ := va_join (wr := [(b0, .inl (cI, 6, .inl zi)), (b1, .inl (cZ, 6, .inl zi)), (b4, .inl (cI, 4, .inl zi)), (od, .inl (cD, 1, .inr (.inr (.inr (.inl zd))))), (ou, .inl (cJ, 1, .inr (.inl zl)))]) (w1 := [(mm, .inr (10, [.int 0, .ref pl, .ref ig, .ref sl, .ref kl, .int 0, .int 0, .int 0]))]) hP hD [5] [0, 1, 2, 3, 4] rfl rfl (by decide) (by decide) hk1 hFc hP1 hD1
        generalize H1 = H at hP hS ⊢
        have hP : va_P (dC, dI) vwCl [(b0, .inl (cI, 6, .inl zi)), (b1, .inl (cZ, 6, .inl zi)), (b4, .inl (cI, 4, .inl zi)), (od, .inl (cD, 1, .inr (.inr (.inr (.inl zd))))), (ou, .inl (cJ, 1, .inr (.inl zl))), (mm, .inr (10, [.int 0, .ref pl, .ref ig, .ref sl, .ref kl, .int 0, .int 0, .int 0]))] H := hP
        have hD : va_D A [(b0, .inl (cI, 6, .inl zi)), (b1, .inl (cZ, 6, .inl zi)), (b4, .inl (cI, 4, .inl zi)), (od, .inl (cD, 1, .inr (.inr (.inr (.inl zd))))), (ou, .inl (cJ, 1, .inr (.inl zl))), (mm, .inr (10, [.int 0, .ref pl, .ref ig, .ref sl, .ref kl, .int 0, .int 0, .int 0]))] := hD
        refine W.widen (k := 122) (n := 770) (Nat.le_refl _) (Nat.le_refl _) ?_
        have hw : r_72 = 0 := hw
        subst hw
        refine lv_iload hx hb dL_law_1549 (lv_at hl 1 rfl) ?_
        refine lv_icmp_eq (tgt := 1556) hx hb dL_law_1551 (by decide) (fun _ => ?_) (fun h9 => absurd h9 (by decide))
        refine lv_iload hx hb dL_law_1556 (lv_at hl 1 rfl) ?_
        refine lv_if_ne (tgt := 1573) hx hb dL_law_1558 (by decide) (fun h9 => absurd h9 (by decide)) (fun _ => ?_)
        refine lv_aload_n hx hb dL_law_1561 rfl (lv_at hl 4 rfl) ?_
        refine lv_iconst (v := 0) hx hb dL_law_1562 (by decide) ?_
        refine va_lald hx hb hK hP 4 2 rfl rfl (by unfold vp_in; decide) dL_law_1563 ?_
        refine lv_topl (fun y_73 ey_73 => ?_)
        obtain rfl : y_73 = 0 := ey_73
        refine lv_iload hx hb dL_law_1564 (lv_at hl 0 rfl) ?_
        refine lv_i2l (v := 0) hx hb dL_law_1566 (by decide) ?_
        refine W.lcmp hx hb dL_law_1567 ?_
        refine lv_topi (fun y_74 ey_74 => ?_)
        obtain rfl : y_74 = 0 := ey_74.trans (lcmp_self _)
        refine lv_if_eq (tgt := 1573) hx hb dL_law_1568 (by decide) (fun _ => ?_) (fun h9 => absurd h9 (by decide))
        refine lv_goto (tgt := 2007) hx hb dL_law_1573 (by decide) ?_
        exact law_tail l C0 hAe hS (lv_sub hl [2, 7] rfl) (Nat.le_of_ble_eq_true rfl) (Nat.le_of_ble_eq_true rfl)

set_option maxHeartbeats 4000000 in
set_option maxRecDepth 100000 in
theorem case_coalition {p : Program} {e : Env} {s : State} {m : MethodId} {below : List Frame} {meth : Method} {c : Code} (l : Launch) (hfl : l.stackTraces = false) {b : Nat} {xs : Nat → Int32} (C0 : lw_At p s m meth c b 5 xs) {dz tc : Nat} {ad : Nat → Nat} (hLX : lx_ (fun q : Nat => s.heap.size ≤ q) dz tc ad s) (dC : Nat → ClassId) (dI : Nat → Nat → Nat) {x : Nat} {po : Nat} {tr : Nat} {sp : Nat} {bx : Nat} {b0 : Nat} {b1 : Nat} {b4 : Nat} {b6 : Nat} {pa : Nat} {p_v : Nat} {p_st : Nat} {p_ib : Nat} {p_di : Nat} {p_wa : Nat} {p_se : Nat} {p_vh : Nat} {p_re : Nat} {mm : Nat} {pl : Nat} {ig : Nat} {sl : Nat} {kl : Nat} {ou : Nat} {od : Nat} {cI : ClassId} {cZ : ClassId} {cJ : ClassId} {cD : ClassId} {H : Heap} {locs : List Loc} {ls : Array Slot} (hK : va_K (dC, dI) vwCl [(cI, .int), (cZ, .boolean), (cJ, .long), (cD, .double)] s) (hP : va_P (dC, dI) vwCl [(x, .inr (7, [.ref bx, .ref po, .ref tr, .ref pa, .ref sp])), (bx, .inr (2, [.ref b0, .ref b1, .int 0, .int 0, .ref b4, .int 0, .ref b6, .int 0, .int 0, .int 0, .int 0])), (pa, .inr (3, [.ref p_v, .int 0, .ref p_st, .ref p_ib, .ref p_di, .ref p_wa, .ref p_se, .ref p_vh, .ref p_re])), (b0, .inl (cI, 6, .inl zi)), (b1, .inl (cZ, 6, .inl zi)), (b4, .inl (cI, 4, .inl zi)), (p_v, .inl (cI, 4, .inl zi)), (p_st, .inl (cI, 4, .inl zi)), (p_ib, .inl (cZ, 4, .inl zi)), (p_di, .inl (cI, 4, .inl zi)), (p_wa, .inl (cI, 4, .inl zi)), (p_se, .inl (cI, 4, .inl zi)), (mm, .inr (10, [.int 0, .ref pl, .ref ig, .ref sl, .ref kl, .int 0, .int 0, .int 0])), (pl, .inr (1, [.int 0, .ref dz, .int 0])), (sl, .inr (1, [.int 0, .ref dz, .int 0])), (kl, .inr (1, [.int 0, .ref dz, .int 0])), (ou, .inl (cJ, 1, .inr (.inl zl))), (od, .inl (cD, 1, .inr (.inr (.inr (.inl zd)))))] H) (hD : va_D (fun q : Nat => s.heap.size ≤ q) [(x, .inr (7, [.ref bx, .ref po, .ref tr, .ref pa, .ref sp])), (bx, .inr (2, [.ref b0, .ref b1, .int 0, .int 0, .ref b4, .int 0, .ref b6, .int 0, .int 0, .int 0, .int 0])), (pa, .inr (3, [.ref p_v, .int 0, .ref p_st, .ref p_ib, .ref p_di, .ref p_wa, .ref p_se, .ref p_vh, .ref p_re])), (b0, .inl (cI, 6, .inl zi)), (b1, .inl (cZ, 6, .inl zi)), (b4, .inl (cI, 4, .inl zi)), (p_v, .inl (cI, 4, .inl zi)), (p_st, .inl (cI, 4, .inl zi)), (p_ib, .inl (cZ, 4, .inl zi)), (p_di, .inl (cI, 4, .inl zi)), (p_wa, .inl (cI, 4, .inl zi)), (p_se, .inl (cI, 4, .inl zi)), (mm, .inr (10, [.int 0, .ref pl, .ref ig, .ref sl, .ref kl, .int 0, .int 0, .int 0])), (pl, .inr (1, [.int 0, .ref dz, .int 0])), (sl, .inr (1, [.int 0, .ref dz, .int 0])), (kl, .inr (1, [.int 0, .ref dz, .int 0])), (ou, .inl (cJ, 1, .inr (.inl zl))), (od, .inl (cD, 1, .inr (.inr (.inr (.inl zd)))))]) (hS : va_S (fun q : Nat => s.heap.size ≤ q) s.heap H locs) (hl : lv_has ls 9 [(5, .int 0), (4, .ref od), (3, .ref ou), (2, .ref mm), (1, .ref x), (0, .ref b)]) : W p l e room_1 s m #[Value.ref b] below meth c H locs 118 750 (lw_Z below #[Value.ref b] s) (F0 m 1576 ls []) := by
  obtain ⟨hx, hb, hr, hml, hown, hts0, hX, hbl, hlocks, hgv⟩ := id C0
  have hts : ∀ w ∈ lw_tbl, w.before #[Value.ref b] s = true := hts0
  have hbA : ¬ (fun q : Nat => s.heap.size ≤ q) b := Nat.not_le.mpr hbl
  have hA : ∀ q : Nat, s.heap.size ≤ q → (fun q : Nat => s.heap.size ≤ q) q := fun _ h => h
  generalize hAe : (fun q : Nat => s.heap.size ≤ q) = A at hD hS hbA hA hLX
  obtain ⟨a1, h_a1⟩ : ∃ z, z = xs ((1 : Int32).toNatClampNeg) := ⟨_, rfl⟩
  obtain ⟨a2, h_a2⟩ : ∃ z, z = xs ((2 : Int32).toNatClampNeg) := ⟨_, rfl⟩
  obtain ⟨a3, h_a3⟩ : ∃ z, z = xs ((3 : Int32).toNatClampNeg) := ⟨_, rfl⟩
  obtain ⟨a4, h_a4⟩ : ∃ z, z = xs ((4 : Int32).toNatClampNeg) := ⟨_, rfl⟩
  by_cases hB0 : a1 < 1 ∨ ¬ a1 ≤ 60
  · have hM0 : a1 < 1 ∨ 60 < a1 := gN_b hB0
    refine lv_aload_n hx hb dL_law_1576 rfl (lv_at hl 4 rfl) ?_
    refine lv_aload_n hx hb dL_law_1577 rfl (lv_at hl 5 rfl) ?_
    refine lv_iload hx hb dL_law_1578 (lv_at hl 0 rfl) ?_
    refine lv_iconst (v := 1) hx hb dL_law_1580 (by decide) ?_
    refine lv_iadd hx hb dL_law_1581 ?_
    refine lv_topi (fun y_1 ey_1 => ?_)
    obtain rfl : y_1 = 1 := ey_1.trans (by decide)
    refine va_sld hx hb hX hbl hbA hS (by unfold vp_in; decide) dL_law_1582 ?_
    refine lv_topi (fun y_2 ey_2 => ?_)
    obtain rfl : a1 = y_2 := (ey_2.trans h_a1.symm).symm
    refine lv_aload_n hx hb dL_law_1583 rfl (lv_at hl 5 rfl) ?_
    refine lv_iload hx hb dL_law_1584 (lv_at hl 0 rfl) ?_
    refine lv_iconst (v := 2) hx hb dL_law_1586 (by decide) ?_
    refine lv_iadd hx hb dL_law_1587 ?_
    refine lv_topi (fun y_3 ey_3 => ?_)
    obtain rfl : y_3 = 2 := ey_3.trans (by decide)
    refine va_sld hx hb hX hbl hbA hS (by unfold vp_in; decide) dL_law_1588 ?_
    refine lv_topi (fun y_4 ey_4 => ?_)
    obtain rfl : a2 = y_4 := (ey_4.trans h_a2.symm).symm
    refine lv_aload_n hx hb dL_law_1589 rfl (lv_at hl 2 rfl) ?_
    have hPc := hP.sub (ws' := [(x, .inr (7, [.ref bx, .ref po, .ref tr, .ref pa, .ref sp])), (bx, .inr (2, [.ref b0, .ref b1, .int 0, .int 0, .ref b4, .int 0, .ref b6, .int 0, .int 0, .int 0, .int 0]))]) [0, 1] rfl
    have hDc := hD.sub (ws' := [(x, .inr (7, [.ref bx, .ref po, .ref tr, .ref pa, .ref sp])), (bx, .inr (2, [.ref b0, .ref b1, .int 0, .int 0, .ref b4, .int 0, .ref b6, .int 0, .int 0, .int 0, .int 0]))]) [0, 1] (by decide) rfl
    have hKc := hK.sub (tys' := []) [] rfl
    have hFc := va_free (wc := [(x, .inr (7, [.ref bx, .ref po, .ref tr, .ref pa, .ref sp])), (bx, .inr (2, [.ref b0, .ref b1, .int 0, .int 0, .ref b4, .int 0, .ref b6, .int 0, .int 0, .int 0, .int 0]))]) hD hS hA [0, 1] rfl
    refine va_calli (vx_runSW (As := [.ref x, .int a1, .int a2, .ref ou]) (rest := []) ⟨hx, hb, hml, hown, hts⟩ (h0_L_coalition l hfl dC dI x po tr sp pa bx b0 b1 b4 b6 a1 a2 ou ((lx_s312 hLX).choose) ((lx_s312 hLX).choose_spec.choose) _ hB0) (vx_cwSW 4 hts gL_law_L_coalition rfl rfl rfl (by decide +kernel) ⟨Nat.le_of_ble_eq_true rfl, Nat.le_of_ble_eq_true rfl⟩) ⟨pn_blind (fun _ _ _ _ h => h), fun U hU hW => ⟨rfl, pr_mk hU hW hPc hKc hDc, xs_mk hU hW hS hFc (lx_xa hLX (lx_s312 hLX).choose_spec.choose_spec), trivial⟩⟩ rfl rfl hl.1 rfl (lv_room (Nat.le_of_ble_eq_true rfl)) dL_law_1590 ⟨Nat.le_of_ble_eq_true rfl, Nat.le_of_ble_eq_true rfl⟩) hS (fun q _ h => hFc q h) hFc (fun r_6 u_5 t H1 locs ht hvm hw hB hz1 hk1 hS => ?_)
    obtain ⟨hP1, hK1, hD1⟩ := hB
    rw [ht] at hP1
    obtain ⟨hP, hD⟩ := va_join (wr := [(pa, .inr (3, [.ref p_v, .int 0, .ref p_st, .ref p_ib, .ref p_di, .ref p_wa, .ref p_se, .ref p_vh, .ref p_re])), (b0, .inl (cI, 6, .inl zi)), (b1, .inl (cZ, 6, .inl zi)), (b4, .inl (cI, 4, .inl zi)), (p_v, .inl (cI, 4, .inl zi)), (p_st, .inl (cI, 4, .inl zi)), (p_ib, .inl (cZ, 4, .inl zi)), (p_di, .inl (cI, 4, .inl zi)), (p_wa, .inl (cI, 4, .inl zi)), (p_se, .inl (cI, 4, .inl zi)), (mm, .inr (10, [.int 0, .ref pl, .ref ig, .ref sl, .ref kl, .int 0, .int 0, .int 0])), (pl, .inr (1, [.int 0, .ref dz, .int 0])), (sl, .inr (1, [.int 0, .ref dz, .int 0])), (kl, .inr (1, [.int 0, .ref dz, .int 0])), (ou, .inl (cJ, 1, .inr (.inl zl))), (od, .inl (cD, 1, .inr (.inr (.inr (.inl zd)))))]) (w1 := []) hP hD [0, 1] [2, 3, 4, 5, 6, 7, 8, 9, 10, 11, 12, 13, 14, 15, 16, 17] rfl rfl (by decide) (by decide) hk1 hFc hP1 hD1
    generalize H1 = H at hP hS ⊢
    have hP : va_P (dC, dI) vwCl [(pa, .inr (3, [.ref p_v, .int 0, .ref p_st, .ref p_ib, .ref p_di, .ref p_wa, .ref p_se, .ref p_vh, .ref p_re])), (b0, .inl (cI, 6, .inl zi)), (b1, .inl (cZ, 6, .inl zi)), (b4, .inl (cI, 4, .inl zi)), (p_v, .inl (cI, 4, .inl zi)), (p_st, .inl (cI, 4, .inl zi)), (p_ib, .inl (cZ, 4, .inl zi)), (p_di, .inl (cI, 4, .inl zi)), (p_wa, .inl (cI, 4, .inl zi)), (p_se, .inl (cI, 4, .inl zi)), (mm, .inr (10, [.int 0, .ref pl, .ref ig, .ref sl, .ref kl, .int 0, .int 0, .int 0])), (pl, .inr (1, [.int 0, .ref dz, .int 0])), (sl, .inr (1, [.int 0, .ref dz, .int 0])), (kl, .inr (1, [.int 0, .ref dz, .int 0])), (ou, .inl (cJ, 1, .inr (.inl zl))), (od, .inl (cD, 1, .inr (.inr (.inr (.inl zd)))))] H := hP
    have hD : va_D A [(pa, .inr (3, [.ref p_v, .int 0, .ref p_st, .ref p_ib, .ref p_di, .ref p_wa, .ref p_se, .ref p_vh, .ref p_re])), (b0, .inl (cI, 6, .inl zi)), (b1, .inl (cZ, 6, .inl zi)), (b4, .inl (cI, 4, .inl zi)), (p_v, .inl (cI, 4, .inl zi)), (p_st, .inl (cI, 4, .inl zi)), (p_ib, .inl (cZ, 4, .inl zi)), (p_di, .inl (cI, 4, .inl zi)), (p_wa, .inl (cI, 4, .inl zi)), (p_se, .inl (cI, 4, .inl zi)), (mm, .inr (10, [.int 0, .ref pl, .ref ig, .ref sl, .ref kl, .int 0, .int 0, .int 0])), (pl, .inr (1, [.int 0, .ref dz, .int 0])), (sl, .inr (1, [.int 0, .ref dz, .int 0])), (kl, .inr (1, [.int 0, .ref dz, .int 0])), (ou, .inl (cJ, 1, .inr (.inl zl))), (od, .inl (cD, 1, .inr (.inr (.inr (.inl zd)))))] := hD
    refine W.widen (k := 119) (n := 756) (Nat.le_of_ble_eq_true rfl) (Nat.le_of_ble_eq_true rfl) ?_
    have hw : r_6 = 1 := hw
    subst hw
    refine lv_istore (lv' := [(6, .int 1), (5, .int 0), (4, .ref od), (3, .ref ou), (2, .ref mm), (1, .ref x), (0, .ref b)]) hx hb dL_law_1593 hl (by decide) rfl (fun ls hl => ?_)
    refine lv_aload_n hx hb dL_law_1595 rfl (lv_at hl 4 rfl) ?_
    refine lv_aload_n hx hb dL_law_1596 rfl (lv_at hl 6 rfl) ?_
    refine lv_iload hx hb dL_law_1597 (lv_at hl 1 rfl) ?_
    refine lv_iconst (v := 1) hx hb dL_law_1599 (by decide) ?_
    refine lv_iadd hx hb dL_law_1600 ?_
    refine lv_topi (fun y_7 ey_7 => ?_)
    obtain rfl : y_7 = 1 := ey_7.trans (by decide)
    refine va_sld hx hb hX hbl hbA hS (by unfold vp_in; decide) dL_law_1601 ?_
    refine lv_topi (fun y_8 ey_8 => ?_)
    obtain rfl : a1 = y_8 := (ey_8.trans h_a1.symm).symm
    refine lv_aload_n hx hb dL_law_1602 rfl (lv_at hl 6 rfl) ?_
    refine lv_iload hx hb dL_law_1603 (lv_at hl 1 rfl) ?_
    refine lv_iconst (v := 2) hx hb dL_law_1605 (by decide) ?_
    refine lv_iadd hx hb dL_law_1606 ?_
    refine lv_topi (fun y_9 ey_9 => ?_)
    obtain rfl : y_9 = 2 := ey_9.trans (by decide)
    refine va_sld hx hb hX hbl hbA hS (by unfold vp_in; decide) dL_law_1607 ?_
    refine lv_topi (fun y_10 ey_10 => ?_)
    obtain rfl : a2 = y_10 := (ey_10.trans h_a2.symm).symm
    have hPc := hP.sub (ws' := [(mm, .inr (10, [.int 0, .ref pl, .ref ig, .ref sl, .ref kl, .int 0, .int 0, .int 0])), (pl, .inr (1, [.int 0, .ref dz, .int 0])), (sl, .inr (1, [.int 0, .ref dz, .int 0])), (kl, .inr (1, [.int 0, .ref dz, .int 0]))]) [10, 11, 12, 13] rfl
    have hDc := hD.sub (ws' := [(mm, .inr (10, [.int 0, .ref pl, .ref ig, .ref sl, .ref kl, .int 0, .int 0, .int 0])), (pl, .inr (1, [.int 0, .ref dz, .int 0])), (sl, .inr (1, [.int 0, .ref dz, .int 0])), (kl, .inr (1, [.int 0, .ref dz, .int 0]))]) [10, 11, 12, 13] (by decide) rfl
    have hKc := hK.sub (tys' := []) [] rfl
    have hFc := va_free (wc := [(mm, .inr (10, [.int 0, .ref pl, .ref ig, .ref sl, .ref kl, .int 0, .int 0, .int 0])), (pl, .inr (1, [.int 0, .ref dz, .int 0])), (sl, .inr (1, [.int 0, .ref dz, .int 0])), (kl, .inr (1, [.int 0, .ref dz, .int 0]))]) hD hS hA [10, 11, 12, 13] rfl
    refine va_calli (va_runV (As := [.int a1, .int a2]) (rest := []) ⟨hx, hb, hml, hown, hts⟩ (c0_X8_coalition l dC dI mm pl ig sl kl dz a1 a2 _ hM0) (cwV 2 hts gL_law_X8_coalition rfl rfl rfl (by decide +kernel) ⟨Nat.le_of_ble_eq_true rfl, Nat.le_of_ble_eq_true rfl⟩) ⟨pe_blind mo_bl, va_recv hKc hPc (ci := 10) (q0 := 0) rfl rfl, fun U hU hW => ⟨rfl, pr_mk hU hW hPc hKc hDc, mo_mk hW (lx_m hLX)⟩⟩ rfl rfl hl.1 rfl (lv_room (Nat.le_of_ble_eq_true rfl)) dL_law_1608 ⟨Nat.le_of_ble_eq_true rfl, Nat.le_of_ble_eq_true rfl⟩) hS (fun q _ h => hFc q h) hFc (fun r_12 u_11 t H1 locs ht hvm hw hB hz1 hk1 hS => ?_)
    obtain ⟨hP1, hK1, hD1⟩ := hB
    rw [ht] at hP1
    obtain ⟨hP, hD⟩ := va_join (wr := [(pa, .inr (3, [.ref p_v, .int 0, .ref p_st, .ref p_ib, .ref p_di, .ref p_wa, .ref p_se, .ref p_vh, .ref p_re])), (b0, .inl (cI, 6, .inl zi)), (b1, .inl (cZ, 6, .inl zi)), (b4, .inl (cI, 4, .inl zi)), (p_v, .inl (cI, 4, .inl zi)), (p_st, .inl (cI, 4, .inl zi)), (p_ib, .inl (cZ, 4, .inl zi)), (p_di, .inl (cI, 4, .inl zi)), (p_wa, .inl (cI, 4, .inl zi)), (p_se, .inl (cI, 4, .inl zi)), (ou, .inl (cJ, 1, .inr (.inl zl))), (od, .inl (cD, 1, .inr (.inr (.inr (.inl zd)))))]) (w1 := [(mm, .inr (10, [.int 1, .ref pl, .ref ig, .ref sl, .ref kl, .int 0, .int 0, .int 0]))]) hP hD [10, 11, 12, 13] [0, 1, 2, 3, 4, 5, 6, 7, 8, 9, 14, 15] rfl rfl (by decide) (by decide) hk1 hFc hP1 hD1
    generalize H1 = H at hP hS ⊢
    have hP : va_P (dC, dI) vwCl [(pa, .inr (3, [.ref p_v, .int 0, .ref p_st, .ref p_ib, .ref p_di, .ref p_wa, .ref p_se, .ref p_vh, .ref p_re])), (b0, .inl (cI, 6, .inl zi)), (b1, .inl (cZ, 6, .inl zi)), (b4, .inl (cI, 4, .inl zi)), (p_v, .inl (cI, 4, .inl zi)), (p_st, .inl (cI, 4, .inl zi)), (p_ib, .inl (cZ, 4, .inl zi)), (p_di, .inl (cI, 4, .inl zi)), (p_wa, .inl (cI, 4, .inl zi)), (p_se, .inl (cI, 4, .inl zi)), (ou, .inl (cJ, 1, .inr (.inl zl))), (od, .inl (cD, 1, .inr (.inr (.inr (.inl zd))))), (mm, .inr (10, [.int 1, .ref pl, .ref ig, .ref sl, .ref kl, .int 0, .int 0, .int 0]))] H := hP
    have hD : va_D A [(pa, .inr (3, [.ref p_v, .int 0, .ref p_st, .ref p_ib, .ref p_di, .ref p_wa, .ref p_se, .ref p_vh, .ref p_re])), (b0, .inl (cI, 6, .inl zi)), (b1, .inl (cZ, 6, .inl zi)), (b4, .inl (cI, 4, .inl zi)), (p_v, .inl (cI, 4, .inl zi)), (p_st, .inl (cI, 4, .inl zi)), (p_ib, .inl (cZ, 4, .inl zi)), (p_di, .inl (cI, 4, .inl zi)), (p_wa, .inl (cI, 4, .inl zi)), (p_se, .inl (cI, 4, .inl zi)), (ou, .inl (cJ, 1, .inr (.inl zl))), (od, .inl (cD, 1, .inr (.inr (.inr (.inl zd))))), (mm, .inr (10, [.int 1, .ref pl, .ref ig, .ref sl, .ref kl, .int 0, .int 0, .int 0]))] := hD
    refine W.widen (k := 119) (n := 756) (Nat.le_refl _) (Nat.le_refl _) ?_
    have hw : r_12 = 0 := hw
    subst hw
    refine lv_istore (lv' := [(7, .int 0), (6, .int 1), (5, .int 0), (4, .ref od), (3, .ref ou), (2, .ref mm), (1, .ref x), (0, .ref b)]) hx hb dL_law_1611 hl (by decide) rfl (fun ls hl => ?_)
    refine lv_aload_n hx hb dL_law_1613 rfl (lv_at hl 5 rfl) ?_
    have hPc := hP.sub (ws' := [(mm, .inr (10, [.int 1, .ref pl, .ref ig, .ref sl, .ref kl, .int 0, .int 0, .int 0]))]) [12] rfl
    have hDc := hD.sub (ws' := [(mm, .inr (10, [.int 1, .ref pl, .ref ig, .ref sl, .ref kl, .int 0, .int 0, .int 0]))]) [12] (by decide) rfl
    have hKc := hK.sub (tys' := []) [] rfl
    have hFc := va_free (wc := [(mm, .inr (10, [.int 1, .ref pl, .ref ig, .ref sl, .ref kl, .int 0, .int 0, .int 0]))]) hD hS hA [12] rfl
    refine va_calli (va_runV (As := []) (rest := []) ⟨hx, hb, hml, hown, hts⟩ (c_X8_thrown l dC dI mm pl ig sl kl (1 : Int32) (0 : Int32) (0 : Int32) (0 : Int32) _ ) (cwV 0 hts gL_law_X8_thrown rfl rfl rfl (by decide +kernel) ⟨Nat.le_of_ble_eq_true rfl, Nat.le_of_ble_eq_true rfl⟩) ⟨pr_blind, va_recv hKc hPc (ci := 10) (q0 := 0) rfl rfl, fun U hU hW => ⟨rfl, pr_mk hU hW hPc hKc hDc⟩⟩ rfl rfl hl.1 rfl (lv_room (Nat.le_of_ble_eq_true rfl)) dL_law_1614 ⟨Nat.le_of_ble_eq_true rfl, Nat.le_of_ble_eq_true rfl⟩) hS (fun q _ h => hFc q h) hFc (fun r_14 u_13 t H1 locs ht hvm hw hB hz1 hk1 hS => ?_)
    obtain ⟨hP1, hK1, hD1⟩ := hB
    rw [ht] at hP1
    obtain ⟨hP, hD⟩ := va_join (wr := [(pa, .inr (3, [.ref p_v, .int 0, .ref p_st, .ref p_ib, .ref p_di, .ref p_wa, .ref p_se, .ref p_vh, .ref p_re])), (b0, .inl (cI, 6, .inl zi)), (b1, .inl (cZ, 6, .inl zi)), (b4, .inl (cI, 4, .inl zi)), (p_v, .inl (cI, 4, .inl zi)), (p_st, .inl (cI, 4, .inl zi)), (p_ib, .inl (cZ, 4, .inl zi)), (p_di, .inl (cI, 4, .inl zi)), (p_wa, .inl (cI, 4, .inl zi)), (p_se, .inl (cI, 4, .inl zi)), (ou, .inl (cJ, 1, .inr (.inl zl))), (od, .inl (cD, 1, .inr (.inr (.inr (.inl zd)))))]) (w1 := [(mm, .inr (10, [.int 1, .ref pl, .ref ig, .ref sl, .ref kl, .int 0, .int 0, .int 0]))]) hP hD [12] [0, 1, 2, 3, 4, 5, 6, 7, 8, 9, 10, 11] rfl rfl (by decide) (by decide) hk1 hFc hP1 hD1
    generalize H1 = H at hP hS ⊢
    have hP : va_P (dC, dI) vwCl [(pa, .inr (3, [.ref p_v, .int 0, .ref p_st, .ref p_ib, .ref p_di, .ref p_wa, .ref p_se, .ref p_vh, .ref p_re])), (b0, .inl (cI, 6, .inl zi)), (b1, .inl (cZ, 6, .inl zi)), (b4, .inl (cI, 4, .inl zi)), (p_v, .inl (cI, 4, .inl zi)), (p_st, .inl (cI, 4, .inl zi)), (p_ib, .inl (cZ, 4, .inl zi)), (p_di, .inl (cI, 4, .inl zi)), (p_wa, .inl (cI, 4, .inl zi)), (p_se, .inl (cI, 4, .inl zi)), (ou, .inl (cJ, 1, .inr (.inl zl))), (od, .inl (cD, 1, .inr (.inr (.inr (.inl zd))))), (mm, .inr (10, [.int 1, .ref pl, .ref ig, .ref sl, .ref kl, .int 0, .int 0, .int 0]))] H := hP
    have hD : va_D A [(pa, .inr (3, [.ref p_v, .int 0, .ref p_st, .ref p_ib, .ref p_di, .ref p_wa, .ref p_se, .ref p_vh, .ref p_re])), (b0, .inl (cI, 6, .inl zi)), (b1, .inl (cZ, 6, .inl zi)), (b4, .inl (cI, 4, .inl zi)), (p_v, .inl (cI, 4, .inl zi)), (p_st, .inl (cI, 4, .inl zi)), (p_ib, .inl (cZ, 4, .inl zi)), (p_di, .inl (cI, 4, .inl zi)), (p_wa, .inl (cI, 4, .inl zi)), (p_se, .inl (cI, 4, .inl zi)), (ou, .inl (cJ, 1, .inr (.inl zl))), (od, .inl (cD, 1, .inr (.inr (.inr (.inl zd))))), (mm, .inr (10, [.int 1, .ref pl, .ref ig, .ref sl, .ref kl, .int 0, .int 0, .int 0]))] := hD
    refine W.widen (k := 119) (n := 756) (Nat.le_refl _) (Nat.le_refl _) ?_
    have hw : r_14 = 1 := hw
    subst hw
    refine lv_iload hx hb dL_law_1617 (lv_at hl 1 rfl) ?_
    refine lv_icmp_eq (tgt := 1624) hx hb dL_law_1619 (by decide) (fun _ => ?_) (fun h9 => absurd h9 (by decide))
    refine lv_iload hx hb dL_law_1624 (lv_at hl 1 rfl) ?_
    refine lv_if_ne (tgt := 1641) hx hb dL_law_1626 (by decide) (fun _ => ?_) (fun h9 => absurd h9 (by decide))
    refine lv_goto (tgt := 2007) hx hb dL_law_1641 (by decide) ?_
    exact law_tail l C0 hAe hS (lv_sub hl [2, 7] rfl) (Nat.le_of_ble_eq_true rfl) (Nat.le_of_ble_eq_true rfl)
  · have hG0 : ¬ a1 < 1 := fun h => hB0 (Or.inl h)
    have hH0 : a1 ≤ 60 := Decidable.byContradiction (fun h => hB0 (Or.inr h))
    have hN0 : ¬ 60 < a1 := gN_g hH0
    by_cases hB1 : a2 < 0 ∨ ¬ a2 ≤ 2
    · have hM1 : a2 < 0 ∨ 2 < a2 := gN_b hB1
      refine lv_aload_n hx hb dL_law_1576 rfl (lv_at hl 4 rfl) ?_
      refine lv_aload_n hx hb dL_law_1577 rfl (lv_at hl 5 rfl) ?_
      refine lv_iload hx hb dL_law_1578 (lv_at hl 0 rfl) ?_
      refine lv_iconst (v := 1) hx hb dL_law_1580 (by decide) ?_
      refine lv_iadd hx hb dL_law_1581 ?_
      refine lv_topi (fun y_15 ey_15 => ?_)
      obtain rfl : y_15 = 1 := ey_15.trans (by decide)
      refine va_sld hx hb hX hbl hbA hS (by unfold vp_in; decide) dL_law_1582 ?_
      refine lv_topi (fun y_16 ey_16 => ?_)
      obtain rfl : a1 = y_16 := (ey_16.trans h_a1.symm).symm
      refine lv_aload_n hx hb dL_law_1583 rfl (lv_at hl 5 rfl) ?_
      refine lv_iload hx hb dL_law_1584 (lv_at hl 0 rfl) ?_
      refine lv_iconst (v := 2) hx hb dL_law_1586 (by decide) ?_
      refine lv_iadd hx hb dL_law_1587 ?_
      refine lv_topi (fun y_17 ey_17 => ?_)
      obtain rfl : y_17 = 2 := ey_17.trans (by decide)
      refine va_sld hx hb hX hbl hbA hS (by unfold vp_in; decide) dL_law_1588 ?_
      refine lv_topi (fun y_18 ey_18 => ?_)
      obtain rfl : a2 = y_18 := (ey_18.trans h_a2.symm).symm
      refine lv_aload_n hx hb dL_law_1589 rfl (lv_at hl 2 rfl) ?_
      have hPc := hP.sub (ws' := [(x, .inr (7, [.ref bx, .ref po, .ref tr, .ref pa, .ref sp])), (bx, .inr (2, [.ref b0, .ref b1, .int 0, .int 0, .ref b4, .int 0, .ref b6, .int 0, .int 0, .int 0, .int 0]))]) [0, 1] rfl
      have hDc := hD.sub (ws' := [(x, .inr (7, [.ref bx, .ref po, .ref tr, .ref pa, .ref sp])), (bx, .inr (2, [.ref b0, .ref b1, .int 0, .int 0, .ref b4, .int 0, .ref b6, .int 0, .int 0, .int 0, .int 0]))]) [0, 1] (by decide) rfl
      have hKc := hK.sub (tys' := []) [] rfl
      have hFc := va_free (wc := [(x, .inr (7, [.ref bx, .ref po, .ref tr, .ref pa, .ref sp])), (bx, .inr (2, [.ref b0, .ref b1, .int 0, .int 0, .ref b4, .int 0, .ref b6, .int 0, .int 0, .int 0, .int 0]))]) hD hS hA [0, 1] rfl
      refine va_calli (vx_runSW (As := [.ref x, .int a1, .int a2, .ref ou]) (rest := []) ⟨hx, hb, hml, hown, hts⟩ (h1_L_coalition l hfl dC dI x po tr sp pa bx b0 b1 b4 b6 a1 a2 ou ((lx_s314 hLX).choose) ((lx_s314 hLX).choose_spec.choose) _ hG0 hH0 hB1) (vx_cwSW 4 hts gL_law_L_coalition rfl rfl rfl (by decide +kernel) ⟨Nat.le_of_ble_eq_true rfl, Nat.le_of_ble_eq_true rfl⟩) ⟨pn_blind (fun _ _ _ _ h => h), fun U hU hW => ⟨rfl, pr_mk hU hW hPc hKc hDc, xs_mk hU hW hS hFc (lx_xa hLX (lx_s314 hLX).choose_spec.choose_spec), trivial⟩⟩ rfl rfl hl.1 rfl (lv_room (Nat.le_of_ble_eq_true rfl)) dL_law_1590 ⟨Nat.le_of_ble_eq_true rfl, Nat.le_of_ble_eq_true rfl⟩) hS (fun q _ h => hFc q h) hFc (fun r_20 u_19 t H1 locs ht hvm hw hB hz1 hk1 hS => ?_)
      obtain ⟨hP1, hK1, hD1⟩ := hB
      rw [ht] at hP1
      obtain ⟨hP, hD⟩ := va_join (wr := [(pa, .inr (3, [.ref p_v, .int 0, .ref p_st, .ref p_ib, .ref p_di, .ref p_wa, .ref p_se, .ref p_vh, .ref p_re])), (b0, .inl (cI, 6, .inl zi)), (b1, .inl (cZ, 6, .inl zi)), (b4, .inl (cI, 4, .inl zi)), (p_v, .inl (cI, 4, .inl zi)), (p_st, .inl (cI, 4, .inl zi)), (p_ib, .inl (cZ, 4, .inl zi)), (p_di, .inl (cI, 4, .inl zi)), (p_wa, .inl (cI, 4, .inl zi)), (p_se, .inl (cI, 4, .inl zi)), (mm, .inr (10, [.int 0, .ref pl, .ref ig, .ref sl, .ref kl, .int 0, .int 0, .int 0])), (pl, .inr (1, [.int 0, .ref dz, .int 0])), (sl, .inr (1, [.int 0, .ref dz, .int 0])), (kl, .inr (1, [.int 0, .ref dz, .int 0])), (ou, .inl (cJ, 1, .inr (.inl zl))), (od, .inl (cD, 1, .inr (.inr (.inr (.inl zd)))))]) (w1 := []) hP hD [0, 1] [2, 3, 4, 5, 6, 7, 8, 9, 10, 11, 12, 13, 14, 15, 16, 17] rfl rfl (by decide) (by decide) hk1 hFc hP1 hD1
      generalize H1 = H at hP hS ⊢
      have hP : va_P (dC, dI) vwCl [(pa, .inr (3, [.ref p_v, .int 0, .ref p_st, .ref p_ib, .ref p_di, .ref p_wa, .ref p_se, .ref p_vh, .ref p_re])), (b0, .inl (cI, 6, .inl zi)), (b1, .inl (cZ, 6, .inl zi)), (b4, .inl (cI, 4, .inl zi)), (p_v, .inl (cI, 4, .inl zi)), (p_st, .inl (cI, 4, .inl zi)), (p_ib, .inl (cZ, 4, .inl zi)), (p_di, .inl (cI, 4, .inl zi)), (p_wa, .inl (cI, 4, .inl zi)), (p_se, .inl (cI, 4, .inl zi)), (mm, .inr (10, [.int 0, .ref pl, .ref ig, .ref sl, .ref kl, .int 0, .int 0, .int 0])), (pl, .inr (1, [.int 0, .ref dz, .int 0])), (sl, .inr (1, [.int 0, .ref dz, .int 0])), (kl, .inr (1, [.int 0, .ref dz, .int 0])), (ou, .inl (cJ, 1, .inr (.inl zl))), (od, .inl (cD, 1, .inr (.inr (.inr (.inl zd)))))] H := hP
      have hD : va_D A [(pa, .inr (3, [.ref p_v, .int 0, .ref p_st, .ref p_ib, .ref p_di, .ref p_wa, .ref p_se, .ref p_vh, .ref p_re])), (b0, .inl (cI, 6, .inl zi)), (b1, .inl (cZ, 6, .inl zi)), (b4, .inl (cI, 4, .inl zi)), (p_v, .inl (cI, 4, .inl zi)), (p_st, .inl (cI, 4, .inl zi)), (p_ib, .inl (cZ, 4, .inl zi)), (p_di, .inl (cI, 4, .inl zi)), (p_wa, .inl (cI, 4, .inl zi)), (p_se, .inl (cI, 4, .inl zi)), (mm, .inr (10, [.int 0, .ref pl, .ref ig, .ref sl, .ref kl, .int 0, .int 0, .int 0])), (pl, .inr (1, [.int 0, .ref dz, .int 0])), (sl, .inr (1, [.int 0, .ref dz, .int 0])), (kl, .inr (1, [.int 0, .ref dz, .int 0])), (ou, .inl (cJ, 1, .inr (.inl zl))), (od, .inl (cD, 1, .inr (.inr (.inr (.inl zd)))))] := hD
      refine W.widen (k := 119) (n := 756) (Nat.le_of_ble_eq_true rfl) (Nat.le_of_ble_eq_true rfl) ?_
      have hw : r_20 = 1 := hw
      subst hw
      refine lv_istore (lv' := [(6, .int 1), (5, .int 0), (4, .ref od), (3, .ref ou), (2, .ref mm), (1, .ref x), (0, .ref b)]) hx hb dL_law_1593 hl (by decide) rfl (fun ls hl => ?_)
      refine lv_aload_n hx hb dL_law_1595 rfl (lv_at hl 4 rfl) ?_
      refine lv_aload_n hx hb dL_law_1596 rfl (lv_at hl 6 rfl) ?_
      refine lv_iload hx hb dL_law_1597 (lv_at hl 1 rfl) ?_
      refine lv_iconst (v := 1) hx hb dL_law_1599 (by decide) ?_
      refine lv_iadd hx hb dL_law_1600 ?_
      refine lv_topi (fun y_21 ey_21 => ?_)
      obtain rfl : y_21 = 1 := ey_21.trans (by decide)
      refine va_sld hx hb hX hbl hbA hS (by unfold vp_in; decide) dL_law_1601 ?_
      refine lv_topi (fun y_22 ey_22 => ?_)
      obtain rfl : a1 = y_22 := (ey_22.trans h_a1.symm).symm
      refine lv_aload_n hx hb dL_law_1602 rfl (lv_at hl 6 rfl) ?_
      refine lv_iload hx hb dL_law_1603 (lv_at hl 1 rfl) ?_
      refine lv_iconst (v := 2) hx hb dL_law_1605 (by decide) ?_
      refine lv_iadd hx hb dL_law_1606 ?_
      refine lv_topi (fun y_23 ey_23 => ?_)
      obtain rfl : y_23 = 2 := ey_23.trans (by decide)
      refine va_sld hx hb hX hbl hbA hS (by unfold vp_in; decide) dL_law_1607 ?_
      refine lv_topi (fun y_24 ey_24 => ?_)
      obtain rfl : a2 = y_24 := (ey_24.trans h_a2.symm).symm
      have hPc := hP.sub (ws' := [(mm, .inr (10, [.int 0, .ref pl, .ref ig, .ref sl, .ref kl, .int 0, .int 0, .int 0])), (pl, .inr (1, [.int 0, .ref dz, .int 0])), (sl, .inr (1, [.int 0, .ref dz, .int 0])), (kl, .inr (1, [.int 0, .ref dz, .int 0]))]) [10, 11, 12, 13] rfl
      have hDc := hD.sub (ws' := [(mm, .inr (10, [.int 0, .ref pl, .ref ig, .ref sl, .ref kl, .int 0, .int 0, .int 0])), (pl, .inr (1, [.int 0, .ref dz, .int 0])), (sl, .inr (1, [.int 0, .ref dz, .int 0])), (kl, .inr (1, [.int 0, .ref dz, .int 0]))]) [10, 11, 12, 13] (by decide) rfl
      have hKc := hK.sub (tys' := []) [] rfl
      have hFc := va_free (wc := [(mm, .inr (10, [.int 0, .ref pl, .ref ig, .ref sl, .ref kl, .int 0, .int 0, .int 0])), (pl, .inr (1, [.int 0, .ref dz, .int 0])), (sl, .inr (1, [.int 0, .ref dz, .int 0])), (kl, .inr (1, [.int 0, .ref dz, .int 0]))]) hD hS hA [10, 11, 12, 13] rfl
      refine va_calli (va_runV (As := [.int a1, .int a2]) (rest := []) ⟨hx, hb, hml, hown, hts⟩ (c1_X8_coalition l dC dI mm pl ig sl kl dz a1 a2 _ hG0 hN0 hM1) (cwV 2 hts gL_law_X8_coalition rfl rfl rfl (by decide +kernel) ⟨Nat.le_of_ble_eq_true rfl, Nat.le_of_ble_eq_true rfl⟩) ⟨pe_blind mo_bl, va_recv hKc hPc (ci := 10) (q0 := 0) rfl rfl, fun U hU hW => ⟨rfl, pr_mk hU hW hPc hKc hDc, mo_mk hW (lx_m hLX)⟩⟩ rfl rfl hl.1 rfl (lv_room (Nat.le_of_ble_eq_true rfl)) dL_law_1608 ⟨Nat.le_of_ble_eq_true rfl, Nat.le_of_ble_eq_true rfl⟩) hS (fun q _ h => hFc q h) hFc (fun r_26 u_25 t H1 locs ht hvm hw hB hz1 hk1 hS => ?_)
      obtain ⟨hP1, hK1, hD1⟩ := hB
      rw [ht] at hP1
      obtain ⟨hP, hD⟩ := va_join (wr := [(pa, .inr (3, [.ref p_v, .int 0, .ref p_st, .ref p_ib, .ref p_di, .ref p_wa, .ref p_se, .ref p_vh, .ref p_re])), (b0, .inl (cI, 6, .inl zi)), (b1, .inl (cZ, 6, .inl zi)), (b4, .inl (cI, 4, .inl zi)), (p_v, .inl (cI, 4, .inl zi)), (p_st, .inl (cI, 4, .inl zi)), (p_ib, .inl (cZ, 4, .inl zi)), (p_di, .inl (cI, 4, .inl zi)), (p_wa, .inl (cI, 4, .inl zi)), (p_se, .inl (cI, 4, .inl zi)), (ou, .inl (cJ, 1, .inr (.inl zl))), (od, .inl (cD, 1, .inr (.inr (.inr (.inl zd)))))]) (w1 := [(mm, .inr (10, [.int 1, .ref pl, .ref ig, .ref sl, .ref kl, .int 0, .int 0, .int 0]))]) hP hD [10, 11, 12, 13] [0, 1, 2, 3, 4, 5, 6, 7, 8, 9, 14, 15] rfl rfl (by decide) (by decide) hk1 hFc hP1 hD1
      generalize H1 = H at hP hS ⊢
      have hP : va_P (dC, dI) vwCl [(pa, .inr (3, [.ref p_v, .int 0, .ref p_st, .ref p_ib, .ref p_di, .ref p_wa, .ref p_se, .ref p_vh, .ref p_re])), (b0, .inl (cI, 6, .inl zi)), (b1, .inl (cZ, 6, .inl zi)), (b4, .inl (cI, 4, .inl zi)), (p_v, .inl (cI, 4, .inl zi)), (p_st, .inl (cI, 4, .inl zi)), (p_ib, .inl (cZ, 4, .inl zi)), (p_di, .inl (cI, 4, .inl zi)), (p_wa, .inl (cI, 4, .inl zi)), (p_se, .inl (cI, 4, .inl zi)), (ou, .inl (cJ, 1, .inr (.inl zl))), (od, .inl (cD, 1, .inr (.inr (.inr (.inl zd))))), (mm, .inr (10, [.int 1, .ref pl, .ref ig, .ref sl, .ref kl, .int 0, .int 0, .int 0]))] H := hP
      have hD : va_D A [(pa, .inr (3, [.ref p_v, .int 0, .ref p_st, .ref p_ib, .ref p_di, .ref p_wa, .ref p_se, .ref p_vh, .ref p_re])), (b0, .inl (cI, 6, .inl zi)), (b1, .inl (cZ, 6, .inl zi)), (b4, .inl (cI, 4, .inl zi)), (p_v, .inl (cI, 4, .inl zi)), (p_st, .inl (cI, 4, .inl zi)), (p_ib, .inl (cZ, 4, .inl zi)), (p_di, .inl (cI, 4, .inl zi)), (p_wa, .inl (cI, 4, .inl zi)), (p_se, .inl (cI, 4, .inl zi)), (ou, .inl (cJ, 1, .inr (.inl zl))), (od, .inl (cD, 1, .inr (.inr (.inr (.inl zd))))), (mm, .inr (10, [.int 1, .ref pl, .ref ig, .ref sl, .ref kl, .int 0, .int 0, .int 0]))] := hD
      refine W.widen (k := 119) (n := 756) (Nat.le_refl _) (Nat.le_refl _) ?_
      have hw : r_26 = 0 := hw
      subst hw
      refine lv_istore (lv' := [(7, .int 0), (6, .int 1), (5, .int 0), (4, .ref od), (3, .ref ou), (2, .ref mm), (1, .ref x), (0, .ref b)]) hx hb dL_law_1611 hl (by decide) rfl (fun ls hl => ?_)
      refine lv_aload_n hx hb dL_law_1613 rfl (lv_at hl 5 rfl) ?_
      have hPc := hP.sub (ws' := [(mm, .inr (10, [.int 1, .ref pl, .ref ig, .ref sl, .ref kl, .int 0, .int 0, .int 0]))]) [12] rfl
      have hDc := hD.sub (ws' := [(mm, .inr (10, [.int 1, .ref pl, .ref ig, .ref sl, .ref kl, .int 0, .int 0, .int 0]))]) [12] (by decide) rfl
      have hKc := hK.sub (tys' := []) [] rfl
      have hFc := va_free (wc := [(mm, .inr (10, [.int 1, .ref pl, .ref ig, .ref sl, .ref kl, .int 0, .int 0, .int 0]))]) hD hS hA [12] rfl
      refine va_calli (va_runV (As := []) (rest := []) ⟨hx, hb, hml, hown, hts⟩ (c_X8_thrown l dC dI mm pl ig sl kl (1 : Int32) (0 : Int32) (0 : Int32) (0 : Int32) _ ) (cwV 0 hts gL_law_X8_thrown rfl rfl rfl (by decide +kernel) ⟨Nat.le_of_ble_eq_true rfl, Nat.le_of_ble_eq_true rfl⟩) ⟨pr_blind, va_recv hKc hPc (ci := 10) (q0 := 0) rfl rfl, fun U hU hW => ⟨rfl, pr_mk hU hW hPc hKc hDc⟩⟩ rfl rfl hl.1 rfl (lv_room (Nat.le_of_ble_eq_true rfl)) dL_law_1614 ⟨Nat.le_of_ble_eq_true rfl, Nat.le_of_ble_eq_true rfl⟩) hS (fun q _ h => hFc q h) hFc (fun r_28 u_27 t H1 locs ht hvm hw hB hz1 hk1 hS => ?_)
      obtain ⟨hP1, hK1, hD1⟩ := hB
      rw [ht] at hP1
      obtain ⟨hP, hD⟩ := va_join (wr := [(pa, .inr (3, [.ref p_v, .int 0, .ref p_st, .ref p_ib, .ref p_di, .ref p_wa, .ref p_se, .ref p_vh, .ref p_re])), (b0, .inl (cI, 6, .inl zi)), (b1, .inl (cZ, 6, .inl zi)), (b4, .inl (cI, 4, .inl zi)), (p_v, .inl (cI, 4, .inl zi)), (p_st, .inl (cI, 4, .inl zi)), (p_ib, .inl (cZ, 4, .inl zi)), (p_di, .inl (cI, 4, .inl zi)), (p_wa, .inl (cI, 4, .inl zi)), (p_se, .inl (cI, 4, .inl zi)), (ou, .inl (cJ, 1, .inr (.inl zl))), (od, .inl (cD, 1, .inr (.inr (.inr (.inl zd)))))]) (w1 := [(mm, .inr (10, [.int 1, .ref pl, .ref ig, .ref sl, .ref kl, .int 0, .int 0, .int 0]))]) hP hD [12] [0, 1, 2, 3, 4, 5, 6, 7, 8, 9, 10, 11] rfl rfl (by decide) (by decide) hk1 hFc hP1 hD1
      generalize H1 = H at hP hS ⊢
      have hP : va_P (dC, dI) vwCl [(pa, .inr (3, [.ref p_v, .int 0, .ref p_st, .ref p_ib, .ref p_di, .ref p_wa, .ref p_se, .ref p_vh, .ref p_re])), (b0, .inl (cI, 6, .inl zi)), (b1, .inl (cZ, 6, .inl zi)), (b4, .inl (cI, 4, .inl zi)), (p_v, .inl (cI, 4, .inl zi)), (p_st, .inl (cI, 4, .inl zi)), (p_ib, .inl (cZ, 4, .inl zi)), (p_di, .inl (cI, 4, .inl zi)), (p_wa, .inl (cI, 4, .inl zi)), (p_se, .inl (cI, 4, .inl zi)), (ou, .inl (cJ, 1, .inr (.inl zl))), (od, .inl (cD, 1, .inr (.inr (.inr (.inl zd))))), (mm, .inr (10, [.int 1, .ref pl, .ref ig, .ref sl, .ref kl, .int 0, .int 0, .int 0]))] H := hP
      have hD : va_D A [(pa, .inr (3, [.ref p_v, .int 0, .ref p_st, .ref p_ib, .ref p_di, .ref p_wa, .ref p_se, .ref p_vh, .ref p_re])), (b0, .inl (cI, 6, .inl zi)), (b1, .inl (cZ, 6, .inl zi)), (b4, .inl (cI, 4, .inl zi)), (p_v, .inl (cI, 4, .inl zi)), (p_st, .inl (cI, 4, .inl zi)), (p_ib, .inl (cZ, 4, .inl zi)), (p_di, .inl (cI, 4, .inl zi)), (p_wa, .inl (cI, 4, .inl zi)), (p_se, .inl (cI, 4, .inl zi)), (ou, .inl (cJ, 1, .inr (.inl zl))), (od, .inl (cD, 1, .inr (.inr (.inr (.inl zd))))), (mm, .inr (10, [.int 1, .ref pl, .ref ig, .ref sl, .ref kl, .int 0, .int 0, .int 0]))] := hD
      refine W.widen (k := 119) (n := 756) (Nat.le_refl _) (Nat.le_refl _) ?_
      have hw : r_28 = 1 := hw
      subst hw
      refine lv_iload hx hb dL_law_1617 (lv_at hl 1 rfl) ?_
      refine lv_icmp_eq (tgt := 1624) hx hb dL_law_1619 (by decide) (fun _ => ?_) (fun h9 => absurd h9 (by decide))
      refine lv_iload hx hb dL_law_1624 (lv_at hl 1 rfl) ?_
      refine lv_if_ne (tgt := 1641) hx hb dL_law_1626 (by decide) (fun _ => ?_) (fun h9 => absurd h9 (by decide))
      refine lv_goto (tgt := 2007) hx hb dL_law_1641 (by decide) ?_
      exact law_tail l C0 hAe hS (lv_sub hl [2, 7] rfl) (Nat.le_of_ble_eq_true rfl) (Nat.le_of_ble_eq_true rfl)
    · have hG1 : ¬ a2 < 0 := fun h => hB1 (Or.inl h)
      have hH1 : a2 ≤ 2 := Decidable.byContradiction (fun h => hB1 (Or.inr h))
      have hN1 : ¬ 2 < a2 := gN_g hH1
      refine lv_aload_n hx hb dL_law_1576 rfl (lv_at hl 4 rfl) ?_
      refine lv_aload_n hx hb dL_law_1577 rfl (lv_at hl 5 rfl) ?_
      refine lv_iload hx hb dL_law_1578 (lv_at hl 0 rfl) ?_
      refine lv_iconst (v := 1) hx hb dL_law_1580 (by decide) ?_
      refine lv_iadd hx hb dL_law_1581 ?_
      refine lv_topi (fun y_29 ey_29 => ?_)
      obtain rfl : y_29 = 1 := ey_29.trans (by decide)
      refine va_sld hx hb hX hbl hbA hS (by unfold vp_in; decide) dL_law_1582 ?_
      refine lv_topi (fun y_30 ey_30 => ?_)
      obtain rfl : a1 = y_30 := (ey_30.trans h_a1.symm).symm
      refine lv_aload_n hx hb dL_law_1583 rfl (lv_at hl 5 rfl) ?_
      refine lv_iload hx hb dL_law_1584 (lv_at hl 0 rfl) ?_
      refine lv_iconst (v := 2) hx hb dL_law_1586 (by decide) ?_
      refine lv_iadd hx hb dL_law_1587 ?_
      refine lv_topi (fun y_31 ey_31 => ?_)
      obtain rfl : y_31 = 2 := ey_31.trans (by decide)
      refine va_sld hx hb hX hbl hbA hS (by unfold vp_in; decide) dL_law_1588 ?_
      refine lv_topi (fun y_32 ey_32 => ?_)
      obtain rfl : a2 = y_32 := (ey_32.trans h_a2.symm).symm
      refine lv_aload_n hx hb dL_law_1589 rfl (lv_at hl 2 rfl) ?_
      have hPc := hP.sub (ws' := [(x, .inr (7, [.ref bx, .ref po, .ref tr, .ref pa, .ref sp])), (bx, .inr (2, [.ref b0, .ref b1, .int 0, .int 0, .ref b4, .int 0, .ref b6, .int 0, .int 0, .int 0, .int 0])), (pa, .inr (3, [.ref p_v, .int 0, .ref p_st, .ref p_ib, .ref p_di, .ref p_wa, .ref p_se, .ref p_vh, .ref p_re])), (p_v, .inl (cI, 4, .inl zi)), (p_st, .inl (cI, 4, .inl zi)), (p_ib, .inl (cZ, 4, .inl zi)), (p_di, .inl (cI, 4, .inl zi)), (p_wa, .inl (cI, 4, .inl zi)), (p_se, .inl (cI, 4, .inl zi)), (ou, .inl (cJ, 1, .inr (.inl zl)))]) [0, 1, 2, 6, 7, 8, 9, 10, 11, 16] rfl
      have hDc := hD.sub (ws' := [(x, .inr (7, [.ref bx, .ref po, .ref tr, .ref pa, .ref sp])), (bx, .inr (2, [.ref b0, .ref b1, .int 0, .int 0, .ref b4, .int 0, .ref b6, .int 0, .int 0, .int 0, .int 0])), (pa, .inr (3, [.ref p_v, .int 0, .ref p_st, .ref p_ib, .ref p_di, .ref p_wa, .ref p_se, .ref p_vh, .ref p_re])), (p_v, .inl (cI, 4, .inl zi)), (p_st, .inl (cI, 4, .inl zi)), (p_ib, .inl (cZ, 4, .inl zi)), (p_di, .inl (cI, 4, .inl zi)), (p_wa, .inl (cI, 4, .inl zi)), (p_se, .inl (cI, 4, .inl zi)), (ou, .inl (cJ, 1, .inr (.inl zl)))]) [0, 1, 2, 6, 7, 8, 9, 10, 11, 16] (by decide) rfl
      have hKc := hK.sub (tys' := [(cI, .int), (cZ, .boolean), (cJ, .long)]) [0, 1, 2] rfl
      have hFc := va_free (wc := [(x, .inr (7, [.ref bx, .ref po, .ref tr, .ref pa, .ref sp])), (bx, .inr (2, [.ref b0, .ref b1, .int 0, .int 0, .ref b4, .int 0, .ref b6, .int 0, .int 0, .int 0, .int 0])), (pa, .inr (3, [.ref p_v, .int 0, .ref p_st, .ref p_ib, .ref p_di, .ref p_wa, .ref p_se, .ref p_vh, .ref p_re])), (p_v, .inl (cI, 4, .inl zi)), (p_st, .inl (cI, 4, .inl zi)), (p_ib, .inl (cZ, 4, .inl zi)), (p_di, .inl (cI, 4, .inl zi)), (p_wa, .inl (cI, 4, .inl zi)), (p_se, .inl (cI, 4, .inl zi)), (ou, .inl (cJ, 1, .inr (.inl zl)))]) hD hS hA [0, 1, 2, 6, 7, 8, 9, 10, 11, 16] rfl
      refine va_calli (vx_runSW (As := [.ref x, .int a1, .int a2, .ref ou]) (rest := []) ⟨hx, hb, hml, hown, hts⟩ (h_L_coalition l dC dI x po tr sp bx b0 b1 b4 b6 pa p_v p_st p_ib p_di p_wa p_se p_vh p_re cI cZ a1 a2 ou cJ _ hG0 hH0 hG1 hH1) (vx_cwSW 4 hts gL_law_L_coalition rfl rfl rfl (by decide +kernel) ⟨Nat.le_of_ble_eq_true rfl, Nat.le_of_ble_eq_true rfl⟩) ⟨pr_blind, fun U hU hW => ⟨rfl, pr_mk hU hW hPc hKc hDc⟩⟩ rfl rfl hl.1 rfl (lv_room (Nat.le_of_ble_eq_true rfl)) dL_law_1590 ⟨Nat.le_of_ble_eq_true rfl, Nat.le_of_ble_eq_true rfl⟩) hS (fun q _ h => hFc q h) hFc (fun r_34 u_33 t H1 locs ht hvm hw hB hz1 hk1 hS => ?_)
      obtain ⟨hP1, hK1, hD1⟩ := hB
      rw [ht] at hP1
      obtain ⟨hP, hD⟩ := va_join (wr := [(b0, .inl (cI, 6, .inl zi)), (b1, .inl (cZ, 6, .inl zi)), (b4, .inl (cI, 4, .inl zi)), (mm, .inr (10, [.int 0, .ref pl, .ref ig, .ref sl, .ref kl, .int 0, .int 0, .int 0])), (pl, .inr (1, [.int 0, .ref dz, .int 0])), (sl, .inr (1, [.int 0, .ref dz, .int 0])), (kl, .inr (1, [.int 0, .ref dz, .int 0])), (od, .inl (cD, 1, .inr (.inr (.inr (.inl zd)))))]) (w1 := [(ou, .inl (cJ, 1, .inr (.inl zl)))]) hP hD [0, 1, 2, 6, 7, 8, 9, 10, 11, 16] [3, 4, 5, 12, 13, 14, 15, 17] rfl rfl (by decide) (by decide) hk1 hFc hP1 hD1
      generalize H1 = H at hP hS ⊢
      have hP : va_P (dC, dI) vwCl [(b0, .inl (cI, 6, .inl zi)), (b1, .inl (cZ, 6, .inl zi)), (b4, .inl (cI, 4, .inl zi)), (mm, .inr (10, [.int 0, .ref pl, .ref ig, .ref sl, .ref kl, .int 0, .int 0, .int 0])), (pl, .inr (1, [.int 0, .ref dz, .int 0])), (sl, .inr (1, [.int 0, .ref dz, .int 0])), (kl, .inr (1, [.int 0, .ref dz, .int 0])), (od, .inl (cD, 1, .inr (.inr (.inr (.inl zd))))), (ou, .inl (cJ, 1, .inr (.inl zl)))] H := hP
      have hD : va_D A [(b0, .inl (cI, 6, .inl zi)), (b1, .inl (cZ, 6, .inl zi)), (b4, .inl (cI, 4, .inl zi)), (mm, .inr (10, [.int 0, .ref pl, .ref ig, .ref sl, .ref kl, .int 0, .int 0, .int 0])), (pl, .inr (1, [.int 0, .ref dz, .int 0])), (sl, .inr (1, [.int 0, .ref dz, .int 0])), (kl, .inr (1, [.int 0, .ref dz, .int 0])), (od, .inl (cD, 1, .inr (.inr (.inr (.inl zd))))), (ou, .inl (cJ, 1, .inr (.inl zl)))] := hD
      refine W.widen (k := 118) (n := 750) (Nat.le_refl _) (Nat.le_refl _) ?_
      have hw : r_34 = 0 := hw
      subst hw
      refine lv_istore (lv' := [(6, .int 0), (5, .int 0), (4, .ref od), (3, .ref ou), (2, .ref mm), (1, .ref x), (0, .ref b)]) hx hb dL_law_1593 hl (by decide) rfl (fun ls hl => ?_)
      refine lv_aload_n hx hb dL_law_1595 rfl (lv_at hl 4 rfl) ?_
      refine lv_aload_n hx hb dL_law_1596 rfl (lv_at hl 6 rfl) ?_
      refine lv_iload hx hb dL_law_1597 (lv_at hl 1 rfl) ?_
      refine lv_iconst (v := 1) hx hb dL_law_1599 (by decide) ?_
      refine lv_iadd hx hb dL_law_1600 ?_
      refine lv_topi (fun y_35 ey_35 => ?_)
      obtain rfl : y_35 = 1 := ey_35.trans (by decide)
      refine va_sld hx hb hX hbl hbA hS (by unfold vp_in; decide) dL_law_1601 ?_
      refine lv_topi (fun y_36 ey_36 => ?_)
      obtain rfl : a1 = y_36 := (ey_36.trans h_a1.symm).symm
      refine lv_aload_n hx hb dL_law_1602 rfl (lv_at hl 6 rfl) ?_
      refine lv_iload hx hb dL_law_1603 (lv_at hl 1 rfl) ?_
      refine lv_iconst (v := 2) hx hb dL_law_1605 (by decide) ?_
      refine lv_iadd hx hb dL_law_1606 ?_
      refine lv_topi (fun y_37 ey_37 => ?_)
      obtain rfl : y_37 = 2 := ey_37.trans (by decide)
      refine va_sld hx hb hX hbl hbA hS (by unfold vp_in; decide) dL_law_1607 ?_
      refine lv_topi (fun y_38 ey_38 => ?_)
      obtain rfl : a2 = y_38 := (ey_38.trans h_a2.symm).symm
      have hPc := hP.sub (ws' := [(mm, .inr (10, [.int 0, .ref pl, .ref ig, .ref sl, .ref kl, .int 0, .int 0, .int 0])), (pl, .inr (1, [.int 0, .ref dz, .int 0])), (sl, .inr (1, [.int 0, .ref dz, .int 0])), (kl, .inr (1, [.int 0, .ref dz, .int 0]))]) [3, 4, 5, 6] rfl
      have hDc := hD.sub (ws' := [(mm, .inr (10, [.int 0, .ref pl, .ref ig, .ref sl, .ref kl, .int 0, .int 0, .int 0])), (pl, .inr (1, [.int 0, .ref dz, .int 0])), (sl, .inr (1, [.int 0, .ref dz, .int 0])), (kl, .inr (1, [.int 0, .ref dz, .int 0]))]) [3, 4, 5, 6] (by decide) rfl
      have hKc := hK.sub (tys' := []) [] rfl
      have hFc := va_free (wc := [(mm, .inr (10, [.int 0, .ref pl, .ref ig, .ref sl, .ref kl, .int 0, .int 0, .int 0])), (pl, .inr (1, [.int 0, .ref dz, .int 0])), (sl, .inr (1, [.int 0, .ref dz, .int 0])), (kl, .inr (1, [.int 0, .ref dz, .int 0]))]) hD hS hA [3, 4, 5, 6] rfl
      refine va_calli (va_runV (As := [.int a1, .int a2]) (rest := []) ⟨hx, hb, hml, hown, hts⟩ (c_X8_coalition l dC dI mm pl ig sl kl dz a1 a2 _ hG0 hN0 hG1 hN1) (cwV 2 hts gL_law_X8_coalition rfl rfl rfl (by decide +kernel) ⟨Nat.le_of_ble_eq_true rfl, Nat.le_of_ble_eq_true rfl⟩) ⟨pe_blind mo_bl, va_recv hKc hPc (ci := 10) (q0 := 0) rfl rfl, fun U hU hW => ⟨rfl, pr_mk hU hW hPc hKc hDc, mo_mk hW (lx_m hLX)⟩⟩ rfl rfl hl.1 rfl (lv_room (Nat.le_of_ble_eq_true rfl)) dL_law_1608 ⟨Nat.le_of_ble_eq_true rfl, Nat.le_of_ble_eq_true rfl⟩) hS (fun q _ h => hFc q h) hFc (fun r_40 u_39 t H1 locs ht hvm hw hB hz1 hk1 hS => ?_)
      obtain ⟨hP1, hK1, hD1⟩ := hB
      rw [ht] at hP1
      obtain ⟨hP, hD⟩ := va_join (wr := [(b0, .inl (cI, 6, .inl zi)), (b1, .inl (cZ, 6, .inl zi)), (b4, .inl (cI, 4, .inl zi)), (od, .inl (cD, 1, .inr (.inr (.inr (.inl zd))))), (ou, .inl (cJ, 1, .inr (.inl zl)))]) (w1 := [(mm, .inr (10, [.int 0, .ref pl, .ref ig, .ref sl, .ref kl, .int 0, .int 0, .int 0]))]) hP hD [3, 4, 5, 6] [0, 1, 2, 7, 8] rfl rfl (by decide) (by decide) hk1 hFc hP1 hD1
      generalize H1 = H at hP hS ⊢
      have hP : va_P (dC, dI) vwCl [(b0, .inl (cI, 6, .inl zi)), (b1, .inl (cZ, 6, .inl zi)), (b4, .inl (cI, 4, .inl zi)), (od, .inl (cD, 1, .inr (.inr (.inr (.inl zd))))), (ou, .inl (cJ, 1, .inr (.inl zl))), (mm, .inr (10, [.int 0, .ref pl, .ref ig, .ref sl, .ref kl, .int 0, .int 0, .int 0]))] H := hP
      have hD : va_D A [(b0, .inl (cI, 6, .inl zi)), (b1, .inl (cZ, 6, .inl zi)), (b4, .inl (cI, 4, .inl zi)), (od, .inl (cD, 1, .inr (.inr (.inr (.inl zd))))), (ou, .inl (cJ, 1, .inr (.inl zl))), (mm, .inr (10, [.int 0, .ref pl, .ref ig, .ref sl, .ref kl, .int 0, .int 0, .int 0]))] := hD
      refine W.widen (k := 122) (n := 770) (Nat.le_of_ble_eq_true rfl) (Nat.le_of_ble_eq_true rfl) ?_
      have hw : r_40 = 0 := hw
      subst hw
      refine lv_istore (lv' := [(7, .int 0), (6, .int 0), (5, .int 0), (4, .ref od), (3, .ref ou), (2, .ref mm), (1, .ref x), (0, .ref b)]) hx hb dL_law_1611 hl (by decide) rfl (fun ls hl => ?_)
      refine lv_aload_n hx hb dL_law_1613 rfl (lv_at hl 5 rfl) ?_
      have hPc := hP.sub (ws' := [(mm, .inr (10, [.int 0, .ref pl, .ref ig, .ref sl, .ref kl, .int 0, .int 0, .int 0]))]) [5] rfl
      have hDc := hD.sub (ws' := [(mm, .inr (10, [.int 0, .ref pl, .ref ig, .ref sl, .ref kl, .int 0, .int 0, .int 0]))]) [5] (by decide) rfl
      have hKc := hK.sub (tys' := []) [] rfl
      have hFc := va_free (wc := [(mm, .inr (10, [.int 0, .ref pl, .ref ig, .ref sl, .ref kl, .int 0, .int 0, .int 0]))]) hD hS hA [5] rfl
      refine va_calli (va_runV (As := []) (rest := []) ⟨hx, hb, hml, hown, hts⟩ (c_X8_thrown l dC dI mm pl ig sl kl (0 : Int32) (0 : Int32) (0 : Int32) (0 : Int32) _ ) (cwV 0 hts gL_law_X8_thrown rfl rfl rfl (by decide +kernel) ⟨Nat.le_of_ble_eq_true rfl, Nat.le_of_ble_eq_true rfl⟩) ⟨pr_blind, va_recv hKc hPc (ci := 10) (q0 := 0) rfl rfl, fun U hU hW => ⟨rfl, pr_mk hU hW hPc hKc hDc⟩⟩ rfl rfl hl.1 rfl (lv_room (Nat.le_of_ble_eq_true rfl)) dL_law_1614 ⟨Nat.le_of_ble_eq_true rfl, Nat.le_of_ble_eq_true rfl⟩) hS (fun q _ h => hFc q h) hFc (fun r_42 u_41 t H1 locs ht hvm hw hB hz1 hk1 hS => ?_)
      obtain ⟨hP1, hK1, hD1⟩ := hB
      rw [ht] at hP1
      obtain ⟨hP, hD⟩ := va_join (wr := [(b0, .inl (cI, 6, .inl zi)), (b1, .inl (cZ, 6, .inl zi)), (b4, .inl (cI, 4, .inl zi)), (od, .inl (cD, 1, .inr (.inr (.inr (.inl zd))))), (ou, .inl (cJ, 1, .inr (.inl zl)))]) (w1 := [(mm, .inr (10, [.int 0, .ref pl, .ref ig, .ref sl, .ref kl, .int 0, .int 0, .int 0]))]) hP hD [5] [0, 1, 2, 3, 4] rfl rfl (by decide) (by decide) hk1 hFc hP1 hD1
      generalize H1 = H at hP hS ⊢
      have hP : va_P (dC, dI) vwCl [(b0, .inl (cI, 6, .inl zi)), (b1, .inl (cZ, 6, .inl zi)), (b4, .inl (cI, 4, .inl zi)), (od, .inl (cD, 1, .inr (.inr (.inr (.inl zd))))), (ou, .inl (cJ, 1, .inr (.inl zl))), (mm, .inr (10, [.int 0, .ref pl, .ref ig, .ref sl, .ref kl, .int 0, .int 0, .int 0]))] H := hP
      have hD : va_D A [(b0, .inl (cI, 6, .inl zi)), (b1, .inl (cZ, 6, .inl zi)), (b4, .inl (cI, 4, .inl zi)), (od, .inl (cD, 1, .inr (.inr (.inr (.inl zd))))), (ou, .inl (cJ, 1, .inr (.inl zl))), (mm, .inr (10, [.int 0, .ref pl, .ref ig, .ref sl, .ref kl, .int 0, .int 0, .int 0]))] := hD
      refine W.widen (k := 122) (n := 770) (Nat.le_refl _) (Nat.le_refl _) ?_
      have hw : r_42 = 0 := hw
      subst hw
      refine lv_iload hx hb dL_law_1617 (lv_at hl 1 rfl) ?_
      refine lv_icmp_eq (tgt := 1624) hx hb dL_law_1619 (by decide) (fun _ => ?_) (fun h9 => absurd h9 (by decide))
      refine lv_iload hx hb dL_law_1624 (lv_at hl 1 rfl) ?_
      refine lv_if_ne (tgt := 1641) hx hb dL_law_1626 (by decide) (fun h9 => absurd h9 (by decide)) (fun _ => ?_)
      refine lv_aload_n hx hb dL_law_1629 rfl (lv_at hl 4 rfl) ?_
      refine lv_iconst (v := 0) hx hb dL_law_1630 (by decide) ?_
      refine va_lald hx hb hK hP 4 2 rfl rfl (by unfold vp_in; decide) dL_law_1631 ?_
      refine lv_topl (fun y_43 ey_43 => ?_)
      obtain rfl : y_43 = 0 := ey_43
      refine lv_iload hx hb dL_law_1632 (lv_at hl 0 rfl) ?_
      refine lv_i2l (v := 0) hx hb dL_law_1634 (by decide) ?_
      refine W.lcmp hx hb dL_law_1635 ?_
      refine lv_topi (fun y_44 ey_44 => ?_)
      obtain rfl : y_44 = 0 := ey_44.trans (lcmp_self _)
      refine lv_if_eq (tgt := 1641) hx hb dL_law_1636 (by decide) (fun _ => ?_) (fun h9 => absurd h9 (by decide))
      refine lv_goto (tgt := 2007) hx hb dL_law_1641 (by decide) ?_
      exact law_tail l C0 hAe hS (lv_sub hl [2, 7] rfl) (Nat.le_of_ble_eq_true rfl) (Nat.le_of_ble_eq_true rfl)

set_option maxHeartbeats 4000000 in
set_option maxRecDepth 100000 in
theorem case_gap {p : Program} {e : Env} {s : State} {m : MethodId} {below : List Frame} {meth : Method} {c : Code} (l : Launch) (hfl : l.stackTraces = false) {b : Nat} {xs : Nat → Int32} (C0 : lw_At p s m meth c b 5 xs) {dz tc : Nat} {ad : Nat → Nat} (hLX : lx_ (fun q : Nat => s.heap.size ≤ q) dz tc ad s) (dC : Nat → ClassId) (dI : Nat → Nat → Nat) {x : Nat} {po : Nat} {tr : Nat} {sp : Nat} {bx : Nat} {b0 : Nat} {b1 : Nat} {b4 : Nat} {b6 : Nat} {pa : Nat} {p_v : Nat} {p_st : Nat} {p_ib : Nat} {p_di : Nat} {p_wa : Nat} {p_se : Nat} {p_vh : Nat} {p_re : Nat} {mm : Nat} {pl : Nat} {ig : Nat} {sl : Nat} {kl : Nat} {ou : Nat} {od : Nat} {cI : ClassId} {cZ : ClassId} {cJ : ClassId} {cD : ClassId} {H : Heap} {locs : List Loc} {ls : Array Slot} (hK : va_K (dC, dI) vwCl [(cI, .int), (cZ, .boolean), (cJ, .long), (cD, .double)] s) (hP : va_P (dC, dI) vwCl [(x, .inr (7, [.ref bx, .ref po, .ref tr, .ref pa, .ref sp])), (bx, .inr (2, [.ref b0, .ref b1, .int 0, .int 0, .ref b4, .int 0, .ref b6, .int 0, .int 0, .int 0, .int 0])), (pa, .inr (3, [.ref p_v, .int 0, .ref p_st, .ref p_ib, .ref p_di, .ref p_wa, .ref p_se, .ref p_vh, .ref p_re])), (b0, .inl (cI, 6, .inl zi)), (b1, .inl (cZ, 6, .inl zi)), (b4, .inl (cI, 4, .inl zi)), (p_v, .inl (cI, 4, .inl zi)), (p_st, .inl (cI, 4, .inl zi)), (p_ib, .inl (cZ, 4, .inl zi)), (p_di, .inl (cI, 4, .inl zi)), (p_wa, .inl (cI, 4, .inl zi)), (p_se, .inl (cI, 4, .inl zi)), (mm, .inr (10, [.int 0, .ref pl, .ref ig, .ref sl, .ref kl, .int 0, .int 0, .int 0])), (pl, .inr (1, [.int 0, .ref dz, .int 0])), (sl, .inr (1, [.int 0, .ref dz, .int 0])), (kl, .inr (1, [.int 0, .ref dz, .int 0])), (ou, .inl (cJ, 1, .inr (.inl zl))), (od, .inl (cD, 1, .inr (.inr (.inr (.inl zd)))))] H) (hD : va_D (fun q : Nat => s.heap.size ≤ q) [(x, .inr (7, [.ref bx, .ref po, .ref tr, .ref pa, .ref sp])), (bx, .inr (2, [.ref b0, .ref b1, .int 0, .int 0, .ref b4, .int 0, .ref b6, .int 0, .int 0, .int 0, .int 0])), (pa, .inr (3, [.ref p_v, .int 0, .ref p_st, .ref p_ib, .ref p_di, .ref p_wa, .ref p_se, .ref p_vh, .ref p_re])), (b0, .inl (cI, 6, .inl zi)), (b1, .inl (cZ, 6, .inl zi)), (b4, .inl (cI, 4, .inl zi)), (p_v, .inl (cI, 4, .inl zi)), (p_st, .inl (cI, 4, .inl zi)), (p_ib, .inl (cZ, 4, .inl zi)), (p_di, .inl (cI, 4, .inl zi)), (p_wa, .inl (cI, 4, .inl zi)), (p_se, .inl (cI, 4, .inl zi)), (mm, .inr (10, [.int 0, .ref pl, .ref ig, .ref sl, .ref kl, .int 0, .int 0, .int 0])), (pl, .inr (1, [.int 0, .ref dz, .int 0])), (sl, .inr (1, [.int 0, .ref dz, .int 0])), (kl, .inr (1, [.int 0, .ref dz, .int 0])), (ou, .inl (cJ, 1, .inr (.inl zl))), (od, .inl (cD, 1, .inr (.inr (.inr (.inl zd)))))]) (hS : va_S (fun q : Nat => s.heap.size ≤ q) s.heap H locs) (hl : lv_has ls 9 [(5, .int 0), (4, .ref od), (3, .ref ou), (2, .ref mm), (1, .ref x), (0, .ref b)]) : W p l e room_1 s m #[Value.ref b] below meth c H locs 118 750 (lw_Z below #[Value.ref b] s) (F0 m 1644 ls []) := by
  obtain ⟨hx, hb, hr, hml, hown, hts0, hX, hbl, hlocks, hgv⟩ := id C0
  have hts : ∀ w ∈ lw_tbl, w.before #[Value.ref b] s = true := hts0
  have hbA : ¬ (fun q : Nat => s.heap.size ≤ q) b := Nat.not_le.mpr hbl
  have hA : ∀ q : Nat, s.heap.size ≤ q → (fun q : Nat => s.heap.size ≤ q) q := fun _ h => h
  generalize hAe : (fun q : Nat => s.heap.size ≤ q) = A at hD hS hbA hA hLX
  obtain ⟨a1, h_a1⟩ : ∃ z, z = xs ((1 : Int32).toNatClampNeg) := ⟨_, rfl⟩
  obtain ⟨a2, h_a2⟩ : ∃ z, z = xs ((2 : Int32).toNatClampNeg) := ⟨_, rfl⟩
  obtain ⟨a3, h_a3⟩ : ∃ z, z = xs ((3 : Int32).toNatClampNeg) := ⟨_, rfl⟩
  obtain ⟨a4, h_a4⟩ : ∃ z, z = xs ((4 : Int32).toNatClampNeg) := ⟨_, rfl⟩
  by_cases hB0 : a1 < 0 ∨ 4 ≤ a1
  · have hM0 : a1 < 0 ∨ 3 < a1 := gP_b hB0
    refine lv_aload_n hx hb dL_law_1644 rfl (lv_at hl 4 rfl) ?_
    refine lv_aload_n hx hb dL_law_1645 rfl (lv_at hl 5 rfl) ?_
    refine lv_iload hx hb dL_law_1646 (lv_at hl 0 rfl) ?_
    refine lv_iconst (v := 1) hx hb dL_law_1648 (by decide) ?_
    refine lv_iadd hx hb dL_law_1649 ?_
    refine lv_topi (fun y_1 ey_1 => ?_)
    obtain rfl : y_1 = 1 := ey_1.trans (by decide)
    refine va_sld hx hb hX hbl hbA hS (by unfold vp_in; decide) dL_law_1650 ?_
    refine lv_topi (fun y_2 ey_2 => ?_)
    obtain rfl : a1 = y_2 := (ey_2.trans h_a1.symm).symm
    refine lv_aload_n hx hb dL_law_1651 rfl (lv_at hl 5 rfl) ?_
    refine lv_iload hx hb dL_law_1652 (lv_at hl 0 rfl) ?_
    refine lv_iconst (v := 2) hx hb dL_law_1654 (by decide) ?_
    refine lv_iadd hx hb dL_law_1655 ?_
    refine lv_topi (fun y_3 ey_3 => ?_)
    obtain rfl : y_3 = 2 := ey_3.trans (by decide)
    refine va_sld hx hb hX hbl hbA hS (by unfold vp_in; decide) dL_law_1656 ?_
    refine lv_topi (fun y_4 ey_4 => ?_)
    obtain rfl : a2 = y_4 := (ey_4.trans h_a2.symm).symm
    refine lv_aload hx hb dL_law_1657 (lv_at hl 1 rfl) ?_
    have hPc := hP.sub (ws' := [(x, .inr (7, [.ref bx, .ref po, .ref tr, .ref pa, .ref sp])), (bx, .inr (2, [.ref b0, .ref b1, .int 0, .int 0, .ref b4, .int 0, .ref b6, .int 0, .int 0, .int 0, .int 0]))]) [0, 1] rfl
    have hDc := hD.sub (ws' := [(x, .inr (7, [.ref bx, .ref po, .ref tr, .ref pa, .ref sp])), (bx, .inr (2, [.ref b0, .ref b1, .int 0, .int 0, .ref b4, .int 0, .ref b6, .int 0, .int 0, .int 0, .int 0]))]) [0, 1] (by decide) rfl
    have hKc := hK.sub (tys' := []) [] rfl
    have hFc := va_free (wc := [(x, .inr (7, [.ref bx, .ref po, .ref tr, .ref pa, .ref sp])), (bx, .inr (2, [.ref b0, .ref b1, .int 0, .int 0, .ref b4, .int 0, .ref b6, .int 0, .int 0, .int 0, .int 0]))]) hD hS hA [0, 1] rfl
    refine va_calli (vx_runSW (As := [.ref x, .int a1, .int a2, .ref od]) (rest := []) ⟨hx, hb, hml, hown, hts⟩ (h0_L_gap l hfl dC dI x po tr sp pa bx b0 b1 b4 b6 a1 a2 od ((lx_s50 hLX).choose) ((lx_s50 hLX).choose_spec.choose) _ hB0) (vx_cwSW 4 hts gL_law_L_gap rfl rfl rfl (by decide +kernel) ⟨Nat.le_of_ble_eq_true rfl, Nat.le_of_ble_eq_true rfl⟩) ⟨pn_blind (fun _ _ _ _ h => h), fun U hU hW => ⟨rfl, pr_mk hU hW hPc hKc hDc, xs_mk hU hW hS hFc (lx_xo hLX (lx_s50 hLX).choose_spec.choose_spec), trivial⟩⟩ rfl rfl hl.1 rfl (lv_room (Nat.le_of_ble_eq_true rfl)) dL_law_1659 ⟨Nat.le_of_ble_eq_true rfl, Nat.le_of_ble_eq_true rfl⟩) hS (fun q _ h => hFc q h) hFc (fun r_6 u_5 t H1 locs ht hvm hw hB hz1 hk1 hS => ?_)
    obtain ⟨hP1, hK1, hD1⟩ := hB
    rw [ht] at hP1
    obtain ⟨hP, hD⟩ := va_join (wr := [(pa, .inr (3, [.ref p_v, .int 0, .ref p_st, .ref p_ib, .ref p_di, .ref p_wa, .ref p_se, .ref p_vh, .ref p_re])), (b0, .inl (cI, 6, .inl zi)), (b1, .inl (cZ, 6, .inl zi)), (b4, .inl (cI, 4, .inl zi)), (p_v, .inl (cI, 4, .inl zi)), (p_st, .inl (cI, 4, .inl zi)), (p_ib, .inl (cZ, 4, .inl zi)), (p_di, .inl (cI, 4, .inl zi)), (p_wa, .inl (cI, 4, .inl zi)), (p_se, .inl (cI, 4, .inl zi)), (mm, .inr (10, [.int 0, .ref pl, .ref ig, .ref sl, .ref kl, .int 0, .int 0, .int 0])), (pl, .inr (1, [.int 0, .ref dz, .int 0])), (sl, .inr (1, [.int 0, .ref dz, .int 0])), (kl, .inr (1, [.int 0, .ref dz, .int 0])), (ou, .inl (cJ, 1, .inr (.inl zl))), (od, .inl (cD, 1, .inr (.inr (.inr (.inl zd)))))]) (w1 := []) hP hD [0, 1] [2, 3, 4, 5, 6, 7, 8, 9, 10, 11, 12, 13, 14, 15, 16, 17] rfl rfl (by decide) (by decide) hk1 hFc hP1 hD1
    generalize H1 = H at hP hS ⊢
    have hP : va_P (dC, dI) vwCl [(pa, .inr (3, [.ref p_v, .int 0, .ref p_st, .ref p_ib, .ref p_di, .ref p_wa, .ref p_se, .ref p_vh, .ref p_re])), (b0, .inl (cI, 6, .inl zi)), (b1, .inl (cZ, 6, .inl zi)), (b4, .inl (cI, 4, .inl zi)), (p_v, .inl (cI, 4, .inl zi)), (p_st, .inl (cI, 4, .inl zi)), (p_ib, .inl (cZ, 4, .inl zi)), (p_di, .inl (cI, 4, .inl zi)), (p_wa, .inl (cI, 4, .inl zi)), (p_se, .inl (cI, 4, .inl zi)), (mm, .inr (10, [.int 0, .ref pl, .ref ig, .ref sl, .ref kl, .int 0, .int 0, .int 0])), (pl, .inr (1, [.int 0, .ref dz, .int 0])), (sl, .inr (1, [.int 0, .ref dz, .int 0])), (kl, .inr (1, [.int 0, .ref dz, .int 0])), (ou, .inl (cJ, 1, .inr (.inl zl))), (od, .inl (cD, 1, .inr (.inr (.inr (.inl zd)))))] H := hP
    have hD : va_D A [(pa, .inr (3, [.ref p_v, .int 0, .ref p_st, .ref p_ib, .ref p_di, .ref p_wa, .ref p_se, .ref p_vh, .ref p_re])), (b0, .inl (cI, 6, .inl zi)), (b1, .inl (cZ, 6, .inl zi)), (b4, .inl (cI, 4, .inl zi)), (p_v, .inl (cI, 4, .inl zi)), (p_st, .inl (cI, 4, .inl zi)), (p_ib, .inl (cZ, 4, .inl zi)), (p_di, .inl (cI, 4, .inl zi)), (p_wa, .inl (cI, 4, .inl zi)), (p_se, .inl (cI, 4, .inl zi)), (mm, .inr (10, [.int 0, .ref pl, .ref ig, .ref sl, .ref kl, .int 0, .int 0, .int 0])), (pl, .inr (1, [.int 0, .ref dz, .int 0])), (sl, .inr (1, [.int 0, .ref dz, .int 0])), (kl, .inr (1, [.int 0, .ref dz, .int 0])), (ou, .inl (cJ, 1, .inr (.inl zl))), (od, .inl (cD, 1, .inr (.inr (.inr (.inl zd)))))] := hD
    refine W.widen (k := 119) (n := 756) (Nat.le_of_ble_eq_true rfl) (Nat.le_of_ble_eq_true rfl) ?_
    have hw : r_6 = 1 := hw
    subst hw
    refine lv_istore (lv' := [(6, .int 1), (5, .int 0), (4, .ref od), (3, .ref ou), (2, .ref mm), (1, .ref x), (0, .ref b)]) hx hb dL_law_1662 hl (by decide) rfl (fun ls hl => ?_)
    refine lv_aload_n hx hb dL_law_1664 rfl (lv_at hl 4 rfl) ?_
    refine lv_aload_n hx hb dL_law_1665 rfl (lv_at hl 6 rfl) ?_
    refine lv_iload hx hb dL_law_1666 (lv_at hl 1 rfl) ?_
    refine lv_iconst (v := 1) hx hb dL_law_1668 (by decide) ?_
    refine lv_iadd hx hb dL_law_1669 ?_
    refine lv_topi (fun y_7 ey_7 => ?_)
    obtain rfl : y_7 = 1 := ey_7.trans (by decide)
    refine va_sld hx hb hX hbl hbA hS (by unfold vp_in; decide) dL_law_1670 ?_
    refine lv_topi (fun y_8 ey_8 => ?_)
    obtain rfl : a1 = y_8 := (ey_8.trans h_a1.symm).symm
    refine lv_aload_n hx hb dL_law_1671 rfl (lv_at hl 6 rfl) ?_
    refine lv_iload hx hb dL_law_1672 (lv_at hl 1 rfl) ?_
    refine lv_iconst (v := 2) hx hb dL_law_1674 (by decide) ?_
    refine lv_iadd hx hb dL_law_1675 ?_
    refine lv_topi (fun y_9 ey_9 => ?_)
    obtain rfl : y_9 = 2 := ey_9.trans (by decide)
    refine va_sld hx hb hX hbl hbA hS (by unfold vp_in; decide) dL_law_1676 ?_
    refine lv_topi (fun y_10 ey_10 => ?_)
    obtain rfl : a2 = y_10 := (ey_10.trans h_a2.symm).symm
    have hPc := hP.sub (ws' := [(mm, .inr (10, [.int 0, .ref pl, .ref ig, .ref sl, .ref kl, .int 0, .int 0, .int 0])), (pl, .inr (1, [.int 0, .ref dz, .int 0])), (sl, .inr (1, [.int 0, .ref dz, .int 0])), (kl, .inr (1, [.int 0, .ref dz, .int 0]))]) [10, 11, 12, 13] rfl
    have hDc := hD.sub (ws' := [(mm, .inr (10, [.int 0, .ref pl, .ref ig, .ref sl, .ref kl, .int 0, .int 0, .int 0])), (pl, .inr (1, [.int 0, .ref dz, .int 0])), (sl, .inr (1, [.int 0, .ref dz, .int 0])), (kl, .inr (1, [.int 0, .ref dz, .int 0]))]) [10, 11, 12, 13] (by decide) rfl
    have hKc := hK.sub (tys' := []) [] rfl
    have hFc := va_free (wc := [(mm, .inr (10, [.int 0, .ref pl, .ref ig, .ref sl, .ref kl, .int 0, .int 0, .int 0])), (pl, .inr (1, [.int 0, .ref dz, .int 0])), (sl, .inr (1, [.int 0, .ref dz, .int 0])), (kl, .inr (1, [.int 0, .ref dz, .int 0]))]) hD hS hA [10, 11, 12, 13] rfl
    refine va_calld (va_runV (As := [.int a1, .int a2]) (rest := []) ⟨hx, hb, hml, hown, hts⟩ (c0_X8_gap l dC dI mm pl ig sl kl dz a1 a2 _ hM0) (cwV 2 hts gL_law_X8_gap rfl rfl rfl (by decide +kernel) ⟨Nat.le_of_ble_eq_true rfl, Nat.le_of_ble_eq_true rfl⟩) ⟨pe_blind mo_bl, va_recv hKc hPc (ci := 10) (q0 := 0) rfl rfl, fun U hU hW => ⟨rfl, pr_mk hU hW hPc hKc hDc, mo_mk hW (lx_m hLX)⟩⟩ rfl rfl hl.1 rfl (lv_room (Nat.le_of_ble_eq_true rfl)) dL_law_1677 ⟨Nat.le_of_ble_eq_true rfl, Nat.le_of_ble_eq_true rfl⟩) hS (fun q _ h => hFc q h) hFc (fun r_12 u_11 t H1 locs ht hvm hw hB hz1 hk1 hS => ?_)
    obtain ⟨hP1, hK1, hD1⟩ := hB
    rw [ht] at hP1
    obtain ⟨hP, hD⟩ := va_join (wr := [(pa, .inr (3, [.ref p_v, .int 0, .ref p_st, .ref p_ib, .ref p_di, .ref p_wa, .ref p_se, .ref p_vh, .ref p_re])), (b0, .inl (cI, 6, .inl zi)), (b1, .inl (cZ, 6, .inl zi)), (b4, .inl (cI, 4, .inl zi)), (p_v, .inl (cI, 4, .inl zi)), (p_st, .inl (cI, 4, .inl zi)), (p_ib, .inl (cZ, 4, .inl zi)), (p_di, .inl (cI, 4, .inl zi)), (p_wa, .inl (cI, 4, .inl zi)), (p_se, .inl (cI, 4, .inl zi)), (ou, .inl (cJ, 1, .inr (.inl zl))), (od, .inl (cD, 1, .inr (.inr (.inr (.inl zd)))))]) (w1 := [(mm, .inr (10, [.int 1, .ref pl, .ref ig, .ref sl, .ref kl, .int 0, .int 0, .int 0]))]) hP hD [10, 11, 12, 13] [0, 1, 2, 3, 4, 5, 6, 7, 8, 9, 14, 15] rfl rfl (by decide) (by decide) hk1 hFc hP1 hD1
    generalize H1 = H at hP hS ⊢
    have hP : va_P (dC, dI) vwCl [(pa, .inr (3, [.ref p_v, .int 0, .ref p_st, .ref p_ib, .ref p_di, .ref p_wa, .ref p_se, .ref p_vh, .ref p_re])), (b0, .inl (cI, 6, .inl zi)), (b1, .inl (cZ, 6, .inl zi)), (b4, .inl (cI, 4, .inl zi)), (p_v, .inl (cI, 4, .inl zi)), (p_st, .inl (cI, 4, .inl zi)), (p_ib, .inl (cZ, 4, .inl zi)), (p_di, .inl (cI, 4, .inl zi)), (p_wa, .inl (cI, 4, .inl zi)), (p_se, .inl (cI, 4, .inl zi)), (ou, .inl (cJ, 1, .inr (.inl zl))), (od, .inl (cD, 1, .inr (.inr (.inr (.inl zd))))), (mm, .inr (10, [.int 1, .ref pl, .ref ig, .ref sl, .ref kl, .int 0, .int 0, .int 0]))] H := hP
    have hD : va_D A [(pa, .inr (3, [.ref p_v, .int 0, .ref p_st, .ref p_ib, .ref p_di, .ref p_wa, .ref p_se, .ref p_vh, .ref p_re])), (b0, .inl (cI, 6, .inl zi)), (b1, .inl (cZ, 6, .inl zi)), (b4, .inl (cI, 4, .inl zi)), (p_v, .inl (cI, 4, .inl zi)), (p_st, .inl (cI, 4, .inl zi)), (p_ib, .inl (cZ, 4, .inl zi)), (p_di, .inl (cI, 4, .inl zi)), (p_wa, .inl (cI, 4, .inl zi)), (p_se, .inl (cI, 4, .inl zi)), (ou, .inl (cJ, 1, .inr (.inl zl))), (od, .inl (cD, 1, .inr (.inr (.inr (.inl zd))))), (mm, .inr (10, [.int 1, .ref pl, .ref ig, .ref sl, .ref kl, .int 0, .int 0, .int 0]))] := hD
    refine W.widen (k := 119) (n := 756) (Nat.le_refl _) (Nat.le_refl _) ?_
    have hw : r_12 = (FP.i2d 0) := hw
    subst hw
    refine lv_dstore (lv' := [(7, .double (FP.i2d 0)), (6, .int 1), (5, .int 0), (4, .ref od), (3, .ref ou), (2, .ref mm), (1, .ref x), (0, .ref b)]) hx hb dL_law_1680 hl (by decide) rfl (fun ls hl => ?_)
    refine lv_aload_n hx hb dL_law_1682 rfl (lv_at hl 5 rfl) ?_
    have hPc := hP.sub (ws' := [(mm, .inr (10, [.int 1, .ref pl, .ref ig, .ref sl, .ref kl, .int 0, .int 0, .int 0]))]) [12] rfl
    have hDc := hD.sub (ws' := [(mm, .inr (10, [.int 1, .ref pl, .ref ig, .ref sl, .ref kl, .int 0, .int 0, .int 0]))]) [12] (by decide) rfl
    have hKc := hK.sub (tys' := []) [] rfl
    have hFc := va_free (wc := [(mm, .inr (10, [.int 1, .ref pl, .ref ig, .ref sl, .ref kl, .int 0, .int 0, .int 0]))]) hD hS hA [12] rfl
    refine va_calli (va_runV (As := []) (rest := []) ⟨hx, hb, hml, hown, hts⟩ (c_X8_thrown l dC dI mm pl ig sl kl (1 : Int32) (0 : Int32) (0 : Int32) (0 : Int32) _ ) (cwV 0 hts gL_law_X8_thrown rfl rfl rfl (by decide +kernel) ⟨Nat.le_of_ble_eq_true rfl, Nat.le_of_ble_eq_true rfl⟩) ⟨pr_blind, va_recv hKc hPc (ci := 10) (q0 := 0) rfl rfl, fun U hU hW => ⟨rfl, pr_mk hU hW hPc hKc hDc⟩⟩ rfl rfl hl.1 rfl (lv_room (Nat.le_of_ble_eq_true rfl)) dL_law_1683 ⟨Nat.le_of_ble_eq_true rfl, Nat.le_of_ble_eq_true rfl⟩) hS (fun q _ h => hFc q h) hFc (fun r_14 u_13 t H1 locs ht hvm hw hB hz1 hk1 hS => ?_)
    obtain ⟨hP1, hK1, hD1⟩ := hB
    rw [ht] at hP1
    obtain ⟨hP, hD⟩ := va_join (wr := [(pa, .inr (3, [.ref p_v, .int 0, .ref p_st, .ref p_ib, .ref p_di, .ref p_wa, .ref p_se, .ref p_vh, .ref p_re])), (b0, .inl (cI, 6, .inl zi)), (b1, .inl (cZ, 6, .inl zi)), (b4, .inl (cI, 4, .inl zi)), (p_v, .inl (cI, 4, .inl zi)), (p_st, .inl (cI, 4, .inl zi)), (p_ib, .inl (cZ, 4, .inl zi)), (p_di, .inl (cI, 4, .inl zi)), (p_wa, .inl (cI, 4, .inl zi)), (p_se, .inl (cI, 4, .inl zi)), (ou, .inl (cJ, 1, .inr (.inl zl))), (od, .inl (cD, 1, .inr (.inr (.inr (.inl zd)))))]) (w1 := [(mm, .inr (10, [.int 1, .ref pl, .ref ig, .ref sl, .ref kl, .int 0, .int 0, .int 0]))]) hP hD [12] [0, 1, 2, 3, 4, 5, 6, 7, 8, 9, 10, 11] rfl rfl (by decide) (by decide) hk1 hFc hP1 hD1
    generalize H1 = H at hP hS ⊢
    have hP : va_P (dC, dI) vwCl [(pa, .inr (3, [.ref p_v, .int 0, .ref p_st, .ref p_ib, .ref p_di, .ref p_wa, .ref p_se, .ref p_vh, .ref p_re])), (b0, .inl (cI, 6, .inl zi)), (b1, .inl (cZ, 6, .inl zi)), (b4, .inl (cI, 4, .inl zi)), (p_v, .inl (cI, 4, .inl zi)), (p_st, .inl (cI, 4, .inl zi)), (p_ib, .inl (cZ, 4, .inl zi)), (p_di, .inl (cI, 4, .inl zi)), (p_wa, .inl (cI, 4, .inl zi)), (p_se, .inl (cI, 4, .inl zi)), (ou, .inl (cJ, 1, .inr (.inl zl))), (od, .inl (cD, 1, .inr (.inr (.inr (.inl zd))))), (mm, .inr (10, [.int 1, .ref pl, .ref ig, .ref sl, .ref kl, .int 0, .int 0, .int 0]))] H := hP
    have hD : va_D A [(pa, .inr (3, [.ref p_v, .int 0, .ref p_st, .ref p_ib, .ref p_di, .ref p_wa, .ref p_se, .ref p_vh, .ref p_re])), (b0, .inl (cI, 6, .inl zi)), (b1, .inl (cZ, 6, .inl zi)), (b4, .inl (cI, 4, .inl zi)), (p_v, .inl (cI, 4, .inl zi)), (p_st, .inl (cI, 4, .inl zi)), (p_ib, .inl (cZ, 4, .inl zi)), (p_di, .inl (cI, 4, .inl zi)), (p_wa, .inl (cI, 4, .inl zi)), (p_se, .inl (cI, 4, .inl zi)), (ou, .inl (cJ, 1, .inr (.inl zl))), (od, .inl (cD, 1, .inr (.inr (.inr (.inl zd))))), (mm, .inr (10, [.int 1, .ref pl, .ref ig, .ref sl, .ref kl, .int 0, .int 0, .int 0]))] := hD
    refine W.widen (k := 119) (n := 756) (Nat.le_refl _) (Nat.le_refl _) ?_
    have hw : r_14 = 1 := hw
    subst hw
    refine lv_iload hx hb dL_law_1686 (lv_at hl 1 rfl) ?_
    refine lv_icmp_eq (tgt := 1693) hx hb dL_law_1688 (by decide) (fun _ => ?_) (fun h9 => absurd h9 (by decide))
    refine lv_iload hx hb dL_law_1693 (lv_at hl 1 rfl) ?_
    refine lv_if_ne (tgt := 1730) hx hb dL_law_1695 (by decide) (fun _ => ?_) (fun h9 => absurd h9 (by decide))
    refine lv_goto (tgt := 2007) hx hb dL_law_1730 (by decide) ?_
    exact law_tail l C0 hAe hS (lv_sub hl [2, 7] rfl) (Nat.le_of_ble_eq_true rfl) (Nat.le_of_ble_eq_true rfl)
  · have hG0 : ¬ a1 < 0 := fun h => hB0 (Or.inl h)
    have hH0 : ¬ 4 ≤ a1 := fun h => hB0 (Or.inr h)
    have hN0 : ¬ 3 < a1 := gP_g hH0
    by_cases hB1 : a2 < 0 ∨ 4 ≤ a2
    · have hM1 : a2 < 0 ∨ 3 < a2 := gP_b hB1
      refine lv_aload_n hx hb dL_law_1644 rfl (lv_at hl 4 rfl) ?_
      refine lv_aload_n hx hb dL_law_1645 rfl (lv_at hl 5 rfl) ?_
      refine lv_iload hx hb dL_law_1646 (lv_at hl 0 rfl) ?_
      refine lv_iconst (v := 1) hx hb dL_law_1648 (by decide) ?_
      refine lv_iadd hx hb dL_law_1649 ?_
      refine lv_topi (fun y_15 ey_15 => ?_)
      obtain rfl : y_15 = 1 := ey_15.trans (by decide)
      refine va_sld hx hb hX hbl hbA hS (by unfold vp_in; decide) dL_law_1650 ?_
      refine lv_topi (fun y_16 ey_16 => ?_)
      obtain rfl : a1 = y_16 := (ey_16.trans h_a1.symm).symm
      refine lv_aload_n hx hb dL_law_1651 rfl (lv_at hl 5 rfl) ?_
      refine lv_iload hx hb dL_law_1652 (lv_at hl 0 rfl) ?_
      refine lv_iconst (v := 2) hx hb dL_law_1654 (by decide) ?_
      refine lv_iadd hx hb dL_law_1655 ?_
      refine lv_topi (fun y_17 ey_17 => ?_)
      obtain rfl : y_17 = 2 := ey_17.trans (by decide)
      refine va_sld hx hb hX hbl hbA hS (by unfold vp_in; decide) dL_law_1656 ?_
      refine lv_topi (fun y_18 ey_18 => ?_)
      obtain rfl : a2 = y_18 := (ey_18.trans h_a2.symm).symm
      refine lv_aload hx hb dL_law_1657 (lv_at hl 1 rfl) ?_
      have hPc := hP.sub (ws' := [(x, .inr (7, [.ref bx, .ref po, .ref tr, .ref pa, .ref sp])), (bx, .inr (2, [.ref b0, .ref b1, .int 0, .int 0, .ref b4, .int 0, .ref b6, .int 0, .int 0, .int 0, .int 0]))]) [0, 1] rfl
      have hDc := hD.sub (ws' := [(x, .inr (7, [.ref bx, .ref po, .ref tr, .ref pa, .ref sp])), (bx, .inr (2, [.ref b0, .ref b1, .int 0, .int 0, .ref b4, .int 0, .ref b6, .int 0, .int 0, .int 0, .int 0]))]) [0, 1] (by decide) rfl
      have hKc := hK.sub (tys' := []) [] rfl
      have hFc := va_free (wc := [(x, .inr (7, [.ref bx, .ref po, .ref tr, .ref pa, .ref sp])), (bx, .inr (2, [.ref b0, .ref b1, .int 0, .int 0, .ref b4, .int 0, .ref b6, .int 0, .int 0, .int 0, .int 0]))]) hD hS hA [0, 1] rfl
      refine va_calli (vx_runSW (As := [.ref x, .int a1, .int a2, .ref od]) (rest := []) ⟨hx, hb, hml, hown, hts⟩ (h1_L_gap l hfl dC dI x po tr sp pa bx b0 b1 b4 b6 a1 a2 od ((lx_s50 hLX).choose) ((lx_s50 hLX).choose_spec.choose) _ hG0 hH0 hB1) (vx_cwSW 4 hts gL_law_L_gap rfl rfl rfl (by decide +kernel) ⟨Nat.le_of_ble_eq_true rfl, Nat.le_of_ble_eq_true rfl⟩) ⟨pn_blind (fun _ _ _ _ h => h), fun U hU hW => ⟨rfl, pr_mk hU hW hPc hKc hDc, xs_mk hU hW hS hFc (lx_xo hLX (lx_s50 hLX).choose_spec.choose_spec), trivial⟩⟩ rfl rfl hl.1 rfl (lv_room (Nat.le_of_ble_eq_true rfl)) dL_law_1659 ⟨Nat.le_of_ble_eq_true rfl, Nat.le_of_ble_eq_true rfl⟩) hS (fun q _ h => hFc q h) hFc (fun r_20 u_19 t H1 locs ht hvm hw hB hz1 hk1 hS => ?_)
      obtain ⟨hP1, hK1, hD1⟩ := hB
      rw [ht] at hP1
      obtain ⟨hP, hD⟩ := va_join (wr := [(pa, .inr (3, [.ref p_v, .int 0, .ref p_st, .ref p_ib, .ref p_di, .ref p_wa, .ref p_se, .ref p_vh, .ref p_re])), (b0, .inl (cI, 6, .inl zi)), (b1, .inl (cZ, 6, .inl zi)), (b4, .inl (cI, 4, .inl zi)), (p_v, .inl (cI, 4, .inl zi)), (p_st, .inl (cI, 4, .inl zi)), (p_ib, .inl (cZ, 4, .inl zi)), (p_di, .inl (cI, 4, .inl zi)), (p_wa, .inl (cI, 4, .inl zi)), (p_se, .inl (cI, 4, .inl zi)), (mm, .inr (10, [.int 0, .ref pl, .ref ig, .ref sl, .ref kl, .int 0, .int 0, .int 0])), (pl, .inr (1, [.int 0, .ref dz, .int 0])), (sl, .inr (1, [.int 0, .ref dz, .int 0])), (kl, .inr (1, [.int 0, .ref dz, .int 0])), (ou, .inl (cJ, 1, .inr (.inl zl))), (od, .inl (cD, 1, .inr (.inr (.inr (.inl zd)))))]) (w1 := []) hP hD [0, 1] [2, 3, 4, 5, 6, 7, 8, 9, 10, 11, 12, 13, 14, 15, 16, 17] rfl rfl (by decide) (by decide) hk1 hFc hP1 hD1
      generalize H1 = H at hP hS ⊢
      have hP : va_P (dC, dI) vwCl [(pa, .inr (3, [.ref p_v, .int 0, .ref p_st, .ref p_ib, .ref p_di, .ref p_wa, .ref p_se, .ref p_vh, .ref p_re])), (b0, .inl (cI, 6, .inl zi)), (b1, .inl (cZ, 6, .inl zi)), (b4, .inl (cI, 4, .inl zi)), (p_v, .inl (cI, 4, .inl zi)), (p_st, .inl (cI, 4, .inl zi)), (p_ib, .inl (cZ, 4, .inl zi)), (p_di, .inl (cI, 4, .inl zi)), (p_wa, .inl (cI, 4, .inl zi)), (p_se, .inl (cI, 4, .inl zi)), (mm, .inr (10, [.int 0, .ref pl, .ref ig, .ref sl, .ref kl, .int 0, .int 0, .int 0])), (pl, .inr (1, [.int 0, .ref dz, .int 0])), (sl, .inr (1, [.int 0, .ref dz, .int 0])), (kl, .inr (1, [.int 0, .ref dz, .int 0])), (ou, .inl (cJ, 1, .inr (.inl zl))), (od, .inl (cD, 1, .inr (.inr (.inr (.inl zd)))))] H := hP
      have hD : va_D A [(pa, .inr (3, [.ref p_v, .int 0, .ref p_st, .ref p_ib, .ref p_di, .ref p_wa, .ref p_se, .ref p_vh, .ref p_re])), (b0, .inl (cI, 6, .inl zi)), (b1, .inl (cZ, 6, .inl zi)), (b4, .inl (cI, 4, .inl zi)), (p_v, .inl (cI, 4, .inl zi)), (p_st, .inl (cI, 4, .inl zi)), (p_ib, .inl (cZ, 4, .inl zi)), (p_di, .inl (cI, 4, .inl zi)), (p_wa, .inl (cI, 4, .inl zi)), (p_se, .inl (cI, 4, .inl zi)), (mm, .inr (10, [.int 0, .ref pl, .ref ig, .ref sl, .ref kl, .int 0, .int 0, .int 0])), (pl, .inr (1, [.int 0, .ref dz, .int 0])), (sl, .inr (1, [.int 0, .ref dz, .int 0])), (kl, .inr (1, [.int 0, .ref dz, .int 0])), (ou, .inl (cJ, 1, .inr (.inl zl))), (od, .inl (cD, 1, .inr (.inr (.inr (.inl zd)))))] := hD
      refine W.widen (k := 119) (n := 756) (Nat.le_of_ble_eq_true rfl) (Nat.le_of_ble_eq_true rfl) ?_
      have hw : r_20 = 1 := hw
      subst hw
      refine lv_istore (lv' := [(6, .int 1), (5, .int 0), (4, .ref od), (3, .ref ou), (2, .ref mm), (1, .ref x), (0, .ref b)]) hx hb dL_law_1662 hl (by decide) rfl (fun ls hl => ?_)
      refine lv_aload_n hx hb dL_law_1664 rfl (lv_at hl 4 rfl) ?_
      refine lv_aload_n hx hb dL_law_1665 rfl (lv_at hl 6 rfl) ?_
      refine lv_iload hx hb dL_law_1666 (lv_at hl 1 rfl) ?_
      refine lv_iconst (v := 1) hx hb dL_law_1668 (by decide) ?_
      refine lv_iadd hx hb dL_law_1669 ?_
      refine lv_topi (fun y_21 ey_21 => ?_)
      obtain rfl : y_21 = 1 := ey_21.trans (by decide)
      refine va_sld hx hb hX hbl hbA hS (by unfold vp_in; decide) dL_law_1670 ?_
      refine lv_topi (fun y_22 ey_22 => ?_)
      obtain rfl : a1 = y_22 := (ey_22.trans h_a1.symm).symm
      refine lv_aload_n hx hb dL_law_1671 rfl (lv_at hl 6 rfl) ?_
      refine lv_iload hx hb dL_law_1672 (lv_at hl 1 rfl) ?_
      refine lv_iconst (v := 2) hx hb dL_law_1674 (by decide) ?_
      refine lv_iadd hx hb dL_law_1675 ?_
      refine lv_topi (fun y_23 ey_23 => ?_)
      obtain rfl : y_23 = 2 := ey_23.trans (by decide)
      refine va_sld hx hb hX hbl hbA hS (by unfold vp_in; decide) dL_law_1676 ?_
      refine lv_topi (fun y_24 ey_24 => ?_)
      obtain rfl : a2 = y_24 := (ey_24.trans h_a2.symm).symm
      have hPc := hP.sub (ws' := [(mm, .inr (10, [.int 0, .ref pl, .ref ig, .ref sl, .ref kl, .int 0, .int 0, .int 0])), (pl, .inr (1, [.int 0, .ref dz, .int 0])), (sl, .inr (1, [.int 0, .ref dz, .int 0])), (kl, .inr (1, [.int 0, .ref dz, .int 0]))]) [10, 11, 12, 13] rfl
      have hDc := hD.sub (ws' := [(mm, .inr (10, [.int 0, .ref pl, .ref ig, .ref sl, .ref kl, .int 0, .int 0, .int 0])), (pl, .inr (1, [.int 0, .ref dz, .int 0])), (sl, .inr (1, [.int 0, .ref dz, .int 0])), (kl, .inr (1, [.int 0, .ref dz, .int 0]))]) [10, 11, 12, 13] (by decide) rfl
      have hKc := hK.sub (tys' := []) [] rfl
      have hFc := va_free (wc := [(mm, .inr (10, [.int 0, .ref pl, .ref ig, .ref sl, .ref kl, .int 0, .int 0, .int 0])), (pl, .inr (1, [.int 0, .ref dz, .int 0])), (sl, .inr (1, [.int 0, .ref dz, .int 0])), (kl, .inr (1, [.int 0, .ref dz, .int 0]))]) hD hS hA [10, 11, 12, 13] rfl
      refine va_calld (va_runV (As := [.int a1, .int a2]) (rest := []) ⟨hx, hb, hml, hown, hts⟩ (c1_X8_gap l dC dI mm pl ig sl kl dz a1 a2 _ hG0 hN0 hM1) (cwV 2 hts gL_law_X8_gap rfl rfl rfl (by decide +kernel) ⟨Nat.le_of_ble_eq_true rfl, Nat.le_of_ble_eq_true rfl⟩) ⟨pe_blind mo_bl, va_recv hKc hPc (ci := 10) (q0 := 0) rfl rfl, fun U hU hW => ⟨rfl, pr_mk hU hW hPc hKc hDc, mo_mk hW (lx_m hLX)⟩⟩ rfl rfl hl.1 rfl (lv_room (Nat.le_of_ble_eq_true rfl)) dL_law_1677 ⟨Nat.le_of_ble_eq_true rfl, Nat.le_of_ble_eq_true rfl⟩) hS (fun q _ h => hFc q h) hFc (fun r_26 u_25 t H1 locs ht hvm hw hB hz1 hk1 hS => ?_)
      obtain ⟨hP1, hK1, hD1⟩ := hB
      rw [ht] at hP1
      obtain ⟨hP, hD⟩ := va_join (wr := [(pa, .inr (3, [.ref p_v, .int 0, .ref p_st, .ref p_ib, .ref p_di, .ref p_wa, .ref p_se, .ref p_vh, .ref p_re])), (b0, .inl (cI, 6, .inl zi)), (b1, .inl (cZ, 6, .inl zi)), (b4, .inl (cI, 4, .inl zi)), (p_v, .inl (cI, 4, .inl zi)), (p_st, .inl (cI, 4, .inl zi)), (p_ib, .inl (cZ, 4, .inl zi)), (p_di, .inl (cI, 4, .inl zi)), (p_wa, .inl (cI, 4, .inl zi)), (p_se, .inl (cI, 4, .inl zi)), (ou, .inl (cJ, 1, .inr (.inl zl))), (od, .inl (cD, 1, .inr (.inr (.inr (.inl zd)))))]) (w1 := [(mm, .inr (10, [.int 1, .ref pl, .ref ig, .ref sl, .ref kl, .int 0, .int 0, .int 0]))]) hP hD [10, 11, 12, 13] [0, 1, 2, 3, 4, 5, 6, 7, 8, 9, 14, 15] rfl rfl (by decide) (by decide) hk1 hFc hP1 hD1
      generalize H1 = H at hP hS ⊢
      have hP : va_P (dC, dI) vwCl [(pa, .inr (3, [.ref p_v, .int 0, .ref p_st, .ref p_ib, .ref p_di, .ref p_wa, .ref p_se, .ref p_vh, .ref p_re])), (b0, .inl (cI, 6, .inl zi)), (b1, .inl (cZ, 6, .inl zi)), (b4, .inl (cI, 4, .inl zi)), (p_v, .inl (cI, 4, .inl zi)), (p_st, .inl (cI, 4, .inl zi)), (p_ib, .inl (cZ, 4, .inl zi)), (p_di, .inl (cI, 4, .inl zi)), (p_wa, .inl (cI, 4, .inl zi)), (p_se, .inl (cI, 4, .inl zi)), (ou, .inl (cJ, 1, .inr (.inl zl))), (od, .inl (cD, 1, .inr (.inr (.inr (.inl zd))))), (mm, .inr (10, [.int 1, .ref pl, .ref ig, .ref sl, .ref kl, .int 0, .int 0, .int 0]))] H := hP
      have hD : va_D A [(pa, .inr (3, [.ref p_v, .int 0, .ref p_st, .ref p_ib, .ref p_di, .ref p_wa, .ref p_se, .ref p_vh, .ref p_re])), (b0, .inl (cI, 6, .inl zi)), (b1, .inl (cZ, 6, .inl zi)), (b4, .inl (cI, 4, .inl zi)), (p_v, .inl (cI, 4, .inl zi)), (p_st, .inl (cI, 4, .inl zi)), (p_ib, .inl (cZ, 4, .inl zi)), (p_di, .inl (cI, 4, .inl zi)), (p_wa, .inl (cI, 4, .inl zi)), (p_se, .inl (cI, 4, .inl zi)), (ou, .inl (cJ, 1, .inr (.inl zl))), (od, .inl (cD, 1, .inr (.inr (.inr (.inl zd))))), (mm, .inr (10, [.int 1, .ref pl, .ref ig, .ref sl, .ref kl, .int 0, .int 0, .int 0]))] := hD
      refine W.widen (k := 119) (n := 756) (Nat.le_refl _) (Nat.le_refl _) ?_
      have hw : r_26 = (FP.i2d 0) := hw
      subst hw
      refine lv_dstore (lv' := [(7, .double (FP.i2d 0)), (6, .int 1), (5, .int 0), (4, .ref od), (3, .ref ou), (2, .ref mm), (1, .ref x), (0, .ref b)]) hx hb dL_law_1680 hl (by decide) rfl (fun ls hl => ?_)
      refine lv_aload_n hx hb dL_law_1682 rfl (lv_at hl 5 rfl) ?_
      have hPc := hP.sub (ws' := [(mm, .inr (10, [.int 1, .ref pl, .ref ig, .ref sl, .ref kl, .int 0, .int 0, .int 0]))]) [12] rfl
      have hDc := hD.sub (ws' := [(mm, .inr (10, [.int 1, .ref pl, .ref ig, .ref sl, .ref kl, .int 0, .int 0, .int 0]))]) [12] (by decide) rfl
      have hKc := hK.sub (tys' := []) [] rfl
      have hFc := va_free (wc := [(mm, .inr (10, [.int 1, .ref pl, .ref ig, .ref sl, .ref kl, .int 0, .int 0, .int 0]))]) hD hS hA [12] rfl
      refine va_calli (va_runV (As := []) (rest := []) ⟨hx, hb, hml, hown, hts⟩ (c_X8_thrown l dC dI mm pl ig sl kl (1 : Int32) (0 : Int32) (0 : Int32) (0 : Int32) _ ) (cwV 0 hts gL_law_X8_thrown rfl rfl rfl (by decide +kernel) ⟨Nat.le_of_ble_eq_true rfl, Nat.le_of_ble_eq_true rfl⟩) ⟨pr_blind, va_recv hKc hPc (ci := 10) (q0 := 0) rfl rfl, fun U hU hW => ⟨rfl, pr_mk hU hW hPc hKc hDc⟩⟩ rfl rfl hl.1 rfl (lv_room (Nat.le_of_ble_eq_true rfl)) dL_law_1683 ⟨Nat.le_of_ble_eq_true rfl, Nat.le_of_ble_eq_true rfl⟩) hS (fun q _ h => hFc q h) hFc (fun r_28 u_27 t H1 locs ht hvm hw hB hz1 hk1 hS => ?_)
      obtain ⟨hP1, hK1, hD1⟩ := hB
      rw [ht] at hP1
      obtain ⟨hP, hD⟩ := va_join (wr := [(pa, .inr (3, [.ref p_v, .int 0, .ref p_st, .ref p_ib, .ref p_di, .ref p_wa, .ref p_se, .ref p_vh, .ref p_re])), (b0, .inl (cI, 6, .inl zi)), (b1, .inl (cZ, 6, .inl zi)), (b4, .inl (cI, 4, .inl zi)), (p_v, .inl (cI, 4, .inl zi)), (p_st, .inl (cI, 4, .inl zi)), (p_ib, .inl (cZ, 4, .inl zi)), (p_di, .inl (cI, 4, .inl zi)), (p_wa, .inl (cI, 4, .inl zi)), (p_se, .inl (cI, 4, .inl zi)), (ou, .inl (cJ, 1, .inr (.inl zl))), (od, .inl (cD, 1, .inr (.inr (.inr (.inl zd)))))]) (w1 := [(mm, .inr (10, [.int 1, .ref pl, .ref ig, .ref sl, .ref kl, .int 0, .int 0, .int 0]))]) hP hD [12] [0, 1, 2, 3, 4, 5, 6, 7, 8, 9, 10, 11] rfl rfl (by decide) (by decide) hk1 hFc hP1 hD1
      generalize H1 = H at hP hS ⊢
      have hP : va_P (dC, dI) vwCl [(pa, .inr (3, [.ref p_v, .int 0, .ref p_st, .ref p_ib, .ref p_di, .ref p_wa, .ref p_se, .ref p_vh, .ref p_re])), (b0, .inl (cI, 6, .inl zi)), (b1, .inl (cZ, 6, .inl zi)), (b4, .inl (cI, 4, .inl zi)), (p_v, .inl (cI, 4, .inl zi)), (p_st, .inl (cI, 4, .inl zi)), (p_ib, .inl (cZ, 4, .inl zi)), (p_di, .inl (cI, 4, .inl zi)), (p_wa, .inl (cI, 4, .inl zi)), (p_se, .inl (cI, 4, .inl zi)), (ou, .inl (cJ, 1, .inr (.inl zl))), (od, .inl (cD, 1, .inr (.inr (.inr (.inl zd))))), (mm, .inr (10, [.int 1, .ref pl, .ref ig, .ref sl, .ref kl, .int 0, .int 0, .int 0]))] H := hP
      have hD : va_D A [(pa, .inr (3, [.ref p_v, .int 0, .ref p_st, .ref p_ib, .ref p_di, .ref p_wa, .ref p_se, .ref p_vh, .ref p_re])), (b0, .inl (cI, 6, .inl zi)), (b1, .inl (cZ, 6, .inl zi)), (b4, .inl (cI, 4, .inl zi)), (p_v, .inl (cI, 4, .inl zi)), (p_st, .inl (cI, 4, .inl zi)), (p_ib, .inl (cZ, 4, .inl zi)), (p_di, .inl (cI, 4, .inl zi)), (p_wa, .inl (cI, 4, .inl zi)), (p_se, .inl (cI, 4, .inl zi)), (ou, .inl (cJ, 1, .inr (.inl zl))), (od, .inl (cD, 1, .inr (.inr (.inr (.inl zd))))), (mm, .inr (10, [.int 1, .ref pl, .ref ig, .ref sl, .ref kl, .int 0, .int 0, .int 0]))] := hD
      refine W.widen (k := 119) (n := 756) (Nat.le_refl _) (Nat.le_refl _) ?_
      have hw : r_28 = 1 := hw
      subst hw
      refine lv_iload hx hb dL_law_1686 (lv_at hl 1 rfl) ?_
      refine lv_icmp_eq (tgt := 1693) hx hb dL_law_1688 (by decide) (fun _ => ?_) (fun h9 => absurd h9 (by decide))
      refine lv_iload hx hb dL_law_1693 (lv_at hl 1 rfl) ?_
      refine lv_if_ne (tgt := 1730) hx hb dL_law_1695 (by decide) (fun _ => ?_) (fun h9 => absurd h9 (by decide))
      refine lv_goto (tgt := 2007) hx hb dL_law_1730 (by decide) ?_
      exact law_tail l C0 hAe hS (lv_sub hl [2, 7] rfl) (Nat.le_of_ble_eq_true rfl) (Nat.le_of_ble_eq_true rfl)
    · have hG1 : ¬ a2 < 0 := fun h => hB1 (Or.inl h)
      have hH1 : ¬ 4 ≤ a2 := fun h => hB1 (Or.inr h)
      have hN1 : ¬ 3 < a2 := gP_g hH1
      refine lv_aload_n hx hb dL_law_1644 rfl (lv_at hl 4 rfl) ?_
      refine lv_aload_n hx hb dL_law_1645 rfl (lv_at hl 5 rfl) ?_
      refine lv_iload hx hb dL_law_1646 (lv_at hl 0 rfl) ?_
      refine lv_iconst (v := 1) hx hb dL_law_1648 (by decide) ?_
      refine lv_iadd hx hb dL_law_1649 ?_
      refine lv_topi (fun y_29 ey_29 => ?_)
      obtain rfl : y_29 = 1 := ey_29.trans (by decide)
      refine va_sld hx hb hX hbl hbA hS (by unfold vp_in; decide) dL_law_1650 ?_
      refine lv_topi (fun y_30 ey_30 => ?_)
      obtain rfl : a1 = y_30 := (ey_30.trans h_a1.symm).symm
      refine lv_aload_n hx hb dL_law_1651 rfl (lv_at hl 5 rfl) ?_
      refine lv_iload hx hb dL_law_1652 (lv_at hl 0 rfl) ?_
      refine lv_iconst (v := 2) hx hb dL_law_1654 (by decide) ?_
      refine lv_iadd hx hb dL_law_1655 ?_
      refine lv_topi (fun y_31 ey_31 => ?_)
      obtain rfl : y_31 = 2 := ey_31.trans (by decide)
      refine va_sld hx hb hX hbl hbA hS (by unfold vp_in; decide) dL_law_1656 ?_
      refine lv_topi (fun y_32 ey_32 => ?_)
      obtain rfl : a2 = y_32 := (ey_32.trans h_a2.symm).symm
      refine lv_aload hx hb dL_law_1657 (lv_at hl 1 rfl) ?_
      have hPc := hP.sub (ws' := [(x, .inr (7, [.ref bx, .ref po, .ref tr, .ref pa, .ref sp])), (bx, .inr (2, [.ref b0, .ref b1, .int 0, .int 0, .ref b4, .int 0, .ref b6, .int 0, .int 0, .int 0, .int 0])), (pa, .inr (3, [.ref p_v, .int 0, .ref p_st, .ref p_ib, .ref p_di, .ref p_wa, .ref p_se, .ref p_vh, .ref p_re])), (p_v, .inl (cI, 4, .inl zi)), (p_st, .inl (cI, 4, .inl zi)), (p_ib, .inl (cZ, 4, .inl zi)), (p_di, .inl (cI, 4, .inl zi)), (p_wa, .inl (cI, 4, .inl zi)), (p_se, .inl (cI, 4, .inl zi)), (od, .inl (cD, 1, .inr (.inr (.inr (.inl zd)))))]) [0, 1, 2, 6, 7, 8, 9, 10, 11, 17] rfl
      have hDc := hD.sub (ws' := [(x, .inr (7, [.ref bx, .ref po, .ref tr, .ref pa, .ref sp])), (bx, .inr (2, [.ref b0, .ref b1, .int 0, .int 0, .ref b4, .int 0, .ref b6, .int 0, .int 0, .int 0, .int 0])), (pa, .inr (3, [.ref p_v, .int 0, .ref p_st, .ref p_ib, .ref p_di, .ref p_wa, .ref p_se, .ref p_vh, .ref p_re])), (p_v, .inl (cI, 4, .inl zi)), (p_st, .inl (cI, 4, .inl zi)), (p_ib, .inl (cZ, 4, .inl zi)), (p_di, .inl (cI, 4, .inl zi)), (p_wa, .inl (cI, 4, .inl zi)), (p_se, .inl (cI, 4, .inl zi)), (od, .inl (cD, 1, .inr (.inr (.inr (.inl zd)))))]) [0, 1, 2, 6, 7, 8, 9, 10, 11, 17] (by decide) rfl
      have hKc := hK.sub (tys' := [(cI, .int), (cZ, .boolean), (cD, .double)]) [0, 1, 3] rfl
      have hFc := va_free (wc := [(x, .inr (7, [.ref bx, .ref po, .ref tr, .ref pa, .ref sp])), (bx, .inr (2, [.ref b0, .ref b1, .int 0, .int 0, .ref b4, .int 0, .ref b6, .int 0, .int 0, .int 0, .int 0])), (pa, .inr (3, [.ref p_v, .int 0, .ref p_st, .ref p_ib, .ref p_di, .ref p_wa, .ref p_se, .ref p_vh, .ref p_re])), (p_v, .inl (cI, 4, .inl zi)), (p_st, .inl (cI, 4, .inl zi)), (p_ib, .inl (cZ, 4, .inl zi)), (p_di, .inl (cI, 4, .inl zi)), (p_wa, .inl (cI, 4, .inl zi)), (p_se, .inl (cI, 4, .inl zi)), (od, .inl (cD, 1, .inr (.inr (.inr (.inl zd)))))]) hD hS hA [0, 1, 2, 6, 7, 8, 9, 10, 11, 17] rfl
      refine va_calli (vx_runSW (As := [.ref x, .int a1, .int a2, .ref od]) (rest := []) ⟨hx, hb, hml, hown, hts⟩ (h_L_gap l dC dI x po tr sp bx b0 b1 b4 b6 pa p_v p_st p_ib p_di p_wa p_se p_vh p_re cI cZ a1 a2 od cD _ hG0 hH0 hG1 hH1) (vx_cwSW 4 hts gL_law_L_gap rfl rfl rfl (by decide +kernel) ⟨Nat.le_of_ble_eq_true rfl, Nat.le_of_ble_eq_true rfl⟩) ⟨pr_blind, fun U hU hW => ⟨rfl, pr_mk hU hW hPc hKc hDc⟩⟩ rfl rfl hl.1 rfl (lv_room (Nat.le_of_ble_eq_true rfl)) dL_law_1659 ⟨Nat.le_of_ble_eq_true rfl, Nat.le_of_ble_eq_true rfl⟩) hS (fun q _ h => hFc q h) hFc (fun r_34 u_33 t H1 locs ht hvm hw hB hz1 hk1 hS => ?_)
      obtain ⟨hP1, hK1, hD1⟩ := hB
      rw [ht] at hP1
      obtain ⟨hP, hD⟩ := va_join (wr := [(b0, .inl (cI, 6, .inl zi)), (b1, .inl (cZ, 6, .inl zi)), (b4, .inl (cI, 4, .inl zi)), (mm, .inr (10, [.int 0, .ref pl, .ref ig, .ref sl, .ref kl, .int 0, .int 0, .int 0])), (pl, .inr (1, [.int 0, .ref dz, .int 0])), (sl, .inr (1, [.int 0, .ref dz, .int 0])), (kl, .inr (1, [.int 0, .ref dz, .int 0])), (ou, .inl (cJ, 1, .inr (.inl zl)))]) (w1 := [(od, .inl (cD, 1, .inr (.inr (.inr (.inl zd)))))]) hP hD [0, 1, 2, 6, 7, 8, 9, 10, 11, 17] [3, 4, 5, 12, 13, 14, 15, 16] rfl rfl (by decide) (by decide) hk1 hFc hP1 hD1
      generalize H1 = H at hP hS ⊢
      have hP : va_P (dC, dI) vwCl [(b0, .inl (cI, 6, .inl zi)), (b1, .inl (cZ, 6, .inl zi)), (b4, .inl (cI, 4, .inl zi)), (mm, .inr (10, [.int 0, .ref pl, .ref ig, .ref sl, .ref kl, .int 0, .int 0, .int 0])), (pl, .inr (1, [.int 0, .ref dz, .int 0])), (sl, .inr (1, [.int 0, .ref dz, .int 0])), (kl, .inr (1, [.int 0, .ref dz, .int 0])), (ou, .inl (cJ, 1, .inr (.inl zl))), (od, .inl (cD, 1, .inr (.inr (.inr (.inl zd)))))] H := hP
      have hD : va_D A [(b0, .inl (cI, 6, .inl zi)), (b1, .inl (cZ, 6, .inl zi)), (b4, .inl (cI, 4, .inl zi)), (mm, .inr (10, [.int 0, .ref pl, .ref ig, .ref sl, .ref kl, .int 0, .int 0, .int 0])), (pl, .inr (1, [.int 0, .ref dz, .int 0])), (sl, .inr (1, [.int 0, .ref dz, .int 0])), (kl, .inr (1, [.int 0, .ref dz, .int 0])), (ou, .inl (cJ, 1, .inr (.inl zl))), (od, .inl (cD, 1, .inr (.inr (.inr (.inl zd)))))] := hD
      refine W.widen (k := 118) (n := 750) (Nat.le_refl _) (Nat.le_refl _) ?_
      have hw : r_34 = 0 := hw
      subst hw
      refine lv_istore (lv' := [(6, .int 0), (5, .int 0), (4, .ref od), (3, .ref ou), (2, .ref mm), (1, .ref x), (0, .ref b)]) hx hb dL_law_1662 hl (by decide) rfl (fun ls hl => ?_)
      refine lv_aload_n hx hb dL_law_1664 rfl (lv_at hl 4 rfl) ?_
      refine lv_aload_n hx hb dL_law_1665 rfl (lv_at hl 6 rfl) ?_
      refine lv_iload hx hb dL_law_1666 (lv_at hl 1 rfl) ?_
      refine lv_iconst (v := 1) hx hb dL_law_1668 (by decide) ?_
      refine lv_iadd hx hb dL_law_1669 ?_
      refine lv_topi (fun y_35 ey_35 => ?_)
      obtain rfl : y_35 = 1 := ey_35.trans (by decide)
      refine va_sld hx hb hX hbl hbA hS (by unfold vp_in; decide) dL_law_1670 ?_
      refine lv_topi (fun y_36 ey_36 => ?_)
      obtain rfl : a1 = y_36 := (ey_36.trans h_a1.symm).symm
      refine lv_aload_n hx hb dL_law_1671 rfl (lv_at hl 6 rfl) ?_
      refine lv_iload hx hb dL_law_1672 (lv_at hl 1 rfl) ?_
      refine lv_iconst (v := 2) hx hb dL_law_1674 (by decide) ?_
      refine lv_iadd hx hb dL_law_1675 ?_
      refine lv_topi (fun y_37 ey_37 => ?_)
      obtain rfl : y_37 = 2 := ey_37.trans (by decide)
      refine va_sld hx hb hX hbl hbA hS (by unfold vp_in; decide) dL_law_1676 ?_
      refine lv_topi (fun y_38 ey_38 => ?_)
      obtain rfl : a2 = y_38 := (ey_38.trans h_a2.symm).symm
      have hPc := hP.sub (ws' := [(mm, .inr (10, [.int 0, .ref pl, .ref ig, .ref sl, .ref kl, .int 0, .int 0, .int 0])), (pl, .inr (1, [.int 0, .ref dz, .int 0])), (sl, .inr (1, [.int 0, .ref dz, .int 0])), (kl, .inr (1, [.int 0, .ref dz, .int 0]))]) [3, 4, 5, 6] rfl
      have hDc := hD.sub (ws' := [(mm, .inr (10, [.int 0, .ref pl, .ref ig, .ref sl, .ref kl, .int 0, .int 0, .int 0])), (pl, .inr (1, [.int 0, .ref dz, .int 0])), (sl, .inr (1, [.int 0, .ref dz, .int 0])), (kl, .inr (1, [.int 0, .ref dz, .int 0]))]) [3, 4, 5, 6] (by decide) rfl
      have hKc := hK.sub (tys' := []) [] rfl
      have hFc := va_free (wc := [(mm, .inr (10, [.int 0, .ref pl, .ref ig, .ref sl, .ref kl, .int 0, .int 0, .int 0])), (pl, .inr (1, [.int 0, .ref dz, .int 0])), (sl, .inr (1, [.int 0, .ref dz, .int 0])), (kl, .inr (1, [.int 0, .ref dz, .int 0]))]) hD hS hA [3, 4, 5, 6] rfl
      refine va_calld (va_runV (As := [.int a1, .int a2]) (rest := []) ⟨hx, hb, hml, hown, hts⟩ (c_X8_gap l dC dI mm pl ig sl kl dz a1 a2 _ hG0 hN0 hG1 hN1) (cwV 2 hts gL_law_X8_gap rfl rfl rfl (by decide +kernel) ⟨Nat.le_of_ble_eq_true rfl, Nat.le_of_ble_eq_true rfl⟩) ⟨pe_blind mo_bl, va_recv hKc hPc (ci := 10) (q0 := 0) rfl rfl, fun U hU hW => ⟨rfl, pr_mk hU hW hPc hKc hDc, mo_mk hW (lx_m hLX)⟩⟩ rfl rfl hl.1 rfl (lv_room (Nat.le_of_ble_eq_true rfl)) dL_law_1677 ⟨Nat.le_of_ble_eq_true rfl, Nat.le_of_ble_eq_true rfl⟩) hS (fun q _ h => hFc q h) hFc (fun r_40 u_39 t H1 locs ht hvm hw hB hz1 hk1 hS => ?_)
      obtain ⟨hP1, hK1, hD1⟩ := hB
      rw [ht] at hP1
      obtain ⟨hP, hD⟩ := va_join (wr := [(b0, .inl (cI, 6, .inl zi)), (b1, .inl (cZ, 6, .inl zi)), (b4, .inl (cI, 4, .inl zi)), (ou, .inl (cJ, 1, .inr (.inl zl))), (od, .inl (cD, 1, .inr (.inr (.inr (.inl zd)))))]) (w1 := [(mm, .inr (10, [.int 0, .ref pl, .ref ig, .ref sl, .ref kl, .int 0, .int 0, .int 0]))]) hP hD [3, 4, 5, 6] [0, 1, 2, 7, 8] rfl rfl (by decide) (by decide) hk1 hFc hP1 hD1
      generalize H1 = H at hP hS ⊢
      have hP : va_P (dC, dI) vwCl [(b0, .inl (cI, 6, .inl zi)), (b1, .inl (cZ, 6, .inl zi)), (b4, .inl (cI, 4, .inl zi)), (ou, .inl (cJ, 1, .inr (.inl zl))), (od, .inl (cD, 1, .inr (.inr (.inr (.inl zd))))), (mm, .inr (10, [.int 0, .ref pl, .ref ig, .ref sl, .ref kl, .int 0, .int 0, .int 0]))] H := hP
      have hD : va_D A [(b0, .inl (cI, 6, .inl zi)), (b1, .inl (cZ, 6, .inl zi)), (b4, .inl (cI, 4, .inl zi)), (ou, .inl (cJ, 1, .inr (.inl zl))), (od, .inl (cD, 1, .inr (.inr (.inr (.inl zd))))), (mm, .inr (10, [.int 0, .ref pl, .ref ig, .ref sl, .ref kl, .int 0, .int 0, .int 0]))] := hD
      refine W.widen (k := 122) (n := 770) (Nat.le_of_ble_eq_true rfl) (Nat.le_of_ble_eq_true rfl) ?_
      have hw : r_40 = FP.dconst0 := hw
      subst hw
      refine lv_dstore (lv' := [(7, .double FP.dconst0), (6, .int 0), (5, .int 0), (4, .ref od), (3, .ref ou), (2, .ref mm), (1, .ref x), (0, .ref b)]) hx hb dL_law_1680 hl (by decide) rfl (fun ls hl => ?_)
      refine lv_aload_n hx hb dL_law_1682 rfl (lv_at hl 5 rfl) ?_
      have hPc := hP.sub (ws' := [(mm, .inr (10, [.int 0, .ref pl, .ref ig, .ref sl, .ref kl, .int 0, .int 0, .int 0]))]) [5] rfl
      have hDc := hD.sub (ws' := [(mm, .inr (10, [.int 0, .ref pl, .ref ig, .ref sl, .ref kl, .int 0, .int 0, .int 0]))]) [5] (by decide) rfl
      have hKc := hK.sub (tys' := []) [] rfl
      have hFc := va_free (wc := [(mm, .inr (10, [.int 0, .ref pl, .ref ig, .ref sl, .ref kl, .int 0, .int 0, .int 0]))]) hD hS hA [5] rfl
      refine va_calli (va_runV (As := []) (rest := []) ⟨hx, hb, hml, hown, hts⟩ (c_X8_thrown l dC dI mm pl ig sl kl (0 : Int32) (0 : Int32) (0 : Int32) (0 : Int32) _ ) (cwV 0 hts gL_law_X8_thrown rfl rfl rfl (by decide +kernel) ⟨Nat.le_of_ble_eq_true rfl, Nat.le_of_ble_eq_true rfl⟩) ⟨pr_blind, va_recv hKc hPc (ci := 10) (q0 := 0) rfl rfl, fun U hU hW => ⟨rfl, pr_mk hU hW hPc hKc hDc⟩⟩ rfl rfl hl.1 rfl (lv_room (Nat.le_of_ble_eq_true rfl)) dL_law_1683 ⟨Nat.le_of_ble_eq_true rfl, Nat.le_of_ble_eq_true rfl⟩) hS (fun q _ h => hFc q h) hFc (fun r_42 u_41 t H1 locs ht hvm hw hB hz1 hk1 hS => ?_)
      obtain ⟨hP1, hK1, hD1⟩ := hB
      rw [ht] at hP1
      obtain ⟨hP, hD⟩ := va_join (wr := [(b0, .inl (cI, 6, .inl zi)), (b1, .inl (cZ, 6, .inl zi)), (b4, .inl (cI, 4, .inl zi)), (ou, .inl (cJ, 1, .inr (.inl zl))), (od, .inl (cD, 1, .inr (.inr (.inr (.inl zd)))))]) (w1 := [(mm, .inr (10, [.int 0, .ref pl, .ref ig, .ref sl, .ref kl, .int 0, .int 0, .int 0]))]) hP hD [5] [0, 1, 2, 3, 4] rfl rfl (by decide) (by decide) hk1 hFc hP1 hD1
      generalize H1 = H at hP hS ⊢
      have hP : va_P (dC, dI) vwCl [(b0, .inl (cI, 6, .inl zi)), (b1, .inl (cZ, 6, .inl zi)), (b4, .inl (cI, 4, .inl zi)), (ou, .inl (cJ, 1, .inr (.inl zl))), (od, .inl (cD, 1, .inr (.inr (.inr (.inl zd))))), (mm, .inr (10, [.int 0, .ref pl, .ref ig, .ref sl, .ref kl, .int 0, .int 0, .int 0]))] H := hP
      have hD : va_D A [(b0, .inl (cI, 6, .inl zi)), (b1, .inl (cZ, 6, .inl zi)), (b4, .inl (cI, 4, .inl zi)), (ou, .inl (cJ, 1, .inr (.inl zl))), (od, .inl (cD, 1, .inr (.inr (.inr (.inl zd))))), (mm, .inr (10, [.int 0, .ref pl, .ref ig, .ref sl, .ref kl, .int 0, .int 0, .int 0]))] := hD
      refine W.widen (k := 122) (n := 770) (Nat.le_refl _) (Nat.le_refl _) ?_
      have hw : r_42 = 0 := hw
      subst hw
      refine lv_iload hx hb dL_law_1686 (lv_at hl 1 rfl) ?_
      refine lv_icmp_eq (tgt := 1693) hx hb dL_law_1688 (by decide) (fun _ => ?_) (fun h9 => absurd h9 (by decide))
      refine lv_iload hx hb dL_law_1693 (lv_at hl 1 rfl) ?_
      refine lv_if_ne (tgt := 1730) hx hb dL_law_1695 (by decide) (fun h9 => absurd h9 (by decide)) (fun _ => ?_)
      refine lv_aload hx hb dL_law_1698 (lv_at hl 3 rfl) ?_
      refine lv_iconst (v := 0) hx hb dL_law_1700 (by decide) ?_
      refine va_dald hx hb hK hP 4 3 rfl rfl (by unfold vp_in; decide) dL_law_1701 ?_
      refine lv_topd (fun y_43 ey_43 => ?_)
      obtain rfl : y_43 = 0 := ey_43
      refine lv_dload hx hb dL_law_1702 (lv_at hl 0 rfl) ?_
      refine lv_dcmp hx hb dL_law_1704 ?_
      refine lv_topi (fun y_44 ey_44 => ?_)
      obtain rfl : y_44 = 0 := ey_44.trans (by decide +kernel)
      refine lv_if_eq (tgt := 1730) hx hb dL_law_1705 (by decide) (fun _ => ?_) (fun h9 => absurd h9 (by decide))
      refine lv_goto (tgt := 2007) hx hb dL_law_1730 (by decide) ?_
      exact law_tail l C0 hAe hS (lv_sub hl [2, 7] rfl) (Nat.le_of_ble_eq_true rfl) (Nat.le_of_ble_eq_true rfl)

set_option maxHeartbeats 4000000 in
set_option maxRecDepth 100000 in
theorem case_many {p : Program} {e : Env} {s : State} {m : MethodId} {below : List Frame} {meth : Method} {c : Code} (l : Launch) (hfl : l.stackTraces = false) {b : Nat} {xs : Nat → Int32} (C0 : lw_At p s m meth c b 5 xs) {dz tc : Nat} {ad : Nat → Nat} (hLX : lx_ (fun q : Nat => s.heap.size ≤ q) dz tc ad s) (dC : Nat → ClassId) (dI : Nat → Nat → Nat) {x : Nat} {po : Nat} {tr : Nat} {sp : Nat} {bx : Nat} {b0 : Nat} {b1 : Nat} {b4 : Nat} {b6 : Nat} {pa : Nat} {p_v : Nat} {p_st : Nat} {p_ib : Nat} {p_di : Nat} {p_wa : Nat} {p_se : Nat} {p_vh : Nat} {p_re : Nat} {mm : Nat} {pl : Nat} {ig : Nat} {sl : Nat} {kl : Nat} {ou : Nat} {od : Nat} {cI : ClassId} {cZ : ClassId} {cJ : ClassId} {cD : ClassId} {H : Heap} {locs : List Loc} {ls : Array Slot} (hK : va_K (dC, dI) vwCl [(cI, .int), (cZ, .boolean), (cJ, .long), (cD, .double)] s) (hP : va_P (dC, dI) vwCl [(x, .inr (7, [.ref bx, .ref po, .ref tr, .ref pa, .ref sp])), (bx, .inr (2, [.ref b0, .ref b1, .int 0, .int 0, .ref b4, .int 0, .ref b6, .int 0, .int 0, .int 0, .int 0])), (pa, .inr (3, [.ref p_v, .int 0, .ref p_st, .ref p_ib, .ref p_di, .ref p_wa, .ref p_se, .ref p_vh, .ref p_re])), (b0, .inl (cI, 6, .inl zi)), (b1, .inl (cZ, 6, .inl zi)), (b4, .inl (cI, 4, .inl zi)), (p_v, .inl (cI, 4, .inl zi)), (p_st, .inl (cI, 4, .inl zi)), (p_ib, .inl (cZ, 4, .inl zi)), (p_di, .inl (cI, 4, .inl zi)), (p_wa, .inl (cI, 4, .inl zi)), (p_se, .inl (cI, 4, .inl zi)), (mm, .inr (10, [.int 0, .ref pl, .ref ig, .ref sl, .ref kl, .int 0, .int 0, .int 0])), (pl, .inr (1, [.int 0, .ref dz, .int 0])), (sl, .inr (1, [.int 0, .ref dz, .int 0])), (kl, .inr (1, [.int 0, .ref dz, .int 0])), (ou, .inl (cJ, 1, .inr (.inl zl))), (od, .inl (cD, 1, .inr (.inr (.inr (.inl zd)))))] H) (hD : va_D (fun q : Nat => s.heap.size ≤ q) [(x, .inr (7, [.ref bx, .ref po, .ref tr, .ref pa, .ref sp])), (bx, .inr (2, [.ref b0, .ref b1, .int 0, .int 0, .ref b4, .int 0, .ref b6, .int 0, .int 0, .int 0, .int 0])), (pa, .inr (3, [.ref p_v, .int 0, .ref p_st, .ref p_ib, .ref p_di, .ref p_wa, .ref p_se, .ref p_vh, .ref p_re])), (b0, .inl (cI, 6, .inl zi)), (b1, .inl (cZ, 6, .inl zi)), (b4, .inl (cI, 4, .inl zi)), (p_v, .inl (cI, 4, .inl zi)), (p_st, .inl (cI, 4, .inl zi)), (p_ib, .inl (cZ, 4, .inl zi)), (p_di, .inl (cI, 4, .inl zi)), (p_wa, .inl (cI, 4, .inl zi)), (p_se, .inl (cI, 4, .inl zi)), (mm, .inr (10, [.int 0, .ref pl, .ref ig, .ref sl, .ref kl, .int 0, .int 0, .int 0])), (pl, .inr (1, [.int 0, .ref dz, .int 0])), (sl, .inr (1, [.int 0, .ref dz, .int 0])), (kl, .inr (1, [.int 0, .ref dz, .int 0])), (ou, .inl (cJ, 1, .inr (.inl zl))), (od, .inl (cD, 1, .inr (.inr (.inr (.inl zd)))))]) (hS : va_S (fun q : Nat => s.heap.size ≤ q) s.heap H locs) (hl : lv_has ls 9 [(5, .int 0), (4, .ref od), (3, .ref ou), (2, .ref mm), (1, .ref x), (0, .ref b)]) : W p l e room_1 s m #[Value.ref b] below meth c H locs 118 750 (lw_Z below #[Value.ref b] s) (F0 m 1733 ls []) := by
  obtain ⟨hx, hb, hr, hml, hown, hts0, hX, hbl, hlocks, hgv⟩ := id C0
  have hts : ∀ w ∈ lw_tbl, w.before #[Value.ref b] s = true := hts0
  have hbA : ¬ (fun q : Nat => s.heap.size ≤ q) b := Nat.not_le.mpr hbl
  have hA : ∀ q : Nat, s.heap.size ≤ q → (fun q : Nat => s.heap.size ≤ q) q := fun _ h => h
  generalize hAe : (fun q : Nat => s.heap.size ≤ q) = A at hD hS hbA hA hLX
  obtain ⟨a1, h_a1⟩ : ∃ z, z = xs ((1 : Int32).toNatClampNeg) := ⟨_, rfl⟩
  obtain ⟨a2, h_a2⟩ : ∃ z, z = xs ((2 : Int32).toNatClampNeg) := ⟨_, rfl⟩
  obtain ⟨a3, h_a3⟩ : ∃ z, z = xs ((3 : Int32).toNatClampNeg) := ⟨_, rfl⟩
  obtain ⟨a4, h_a4⟩ : ∃ z, z = xs ((4 : Int32).toNatClampNeg) := ⟨_, rfl⟩
  by_cases hB0 : a1 < 0 ∨ ¬ a1 ≤ 9
  · have hM0 : a1 < 0 ∨ 9 < a1 := gN_b hB0
    refine lv_aload_n hx hb dL_law_1733 rfl (lv_at hl 4 rfl) ?_
    refine lv_aload_n hx hb dL_law_1734 rfl (lv_at hl 5 rfl) ?_
    refine lv_iload hx hb dL_law_1735 (lv_at hl 0 rfl) ?_
    refine lv_iconst (v := 1) hx hb dL_law_1737 (by decide) ?_
    refine lv_iadd hx hb dL_law_1738 ?_
    refine lv_topi (fun y_1 ey_1 => ?_)
    obtain rfl : y_1 = 1 := ey_1.trans (by decide)
    refine va_sld hx hb hX hbl hbA hS (by unfold vp_in; decide) dL_law_1739 ?_
    refine lv_topi (fun y_2 ey_2 => ?_)
    obtain rfl : a1 = y_2 := (ey_2.trans h_a1.symm).symm
    refine lv_aload_n hx hb dL_law_1740 rfl (lv_at hl 2 rfl) ?_
    have hPc := hP.sub (ws' := [(x, .inr (7, [.ref bx, .ref po, .ref tr, .ref pa, .ref sp])), (bx, .inr (2, [.ref b0, .ref b1, .int 0, .int 0, .ref b4, .int 0, .ref b6, .int 0, .int 0, .int 0, .int 0]))]) [0, 1] rfl
    have hDc := hD.sub (ws' := [(x, .inr (7, [.ref bx, .ref po, .ref tr, .ref pa, .ref sp])), (bx, .inr (2, [.ref b0, .ref b1, .int 0, .int 0, .ref b4, .int 0, .ref b6, .int 0, .int 0, .int 0, .int 0]))]) [0, 1] (by decide) rfl
    have hKc := hK.sub (tys' := []) [] rfl
    have hFc := va_free (wc := [(x, .inr (7, [.ref bx, .ref po, .ref tr, .ref pa, .ref sp])), (bx, .inr (2, [.ref b0, .ref b1, .int 0, .int 0, .ref b4, .int 0, .ref b6, .int 0, .int 0, .int 0, .int 0]))]) hD hS hA [0, 1] rfl
    refine va_calli (vx_runSW (As := [.ref x, .int a1, .ref ou]) (rest := []) ⟨hx, hb, hml, hown, hts⟩ (h0_L_many l hfl dC dI x po tr sp pa bx b0 b1 b4 b6 a1 ou ((lx_s308 hLX).choose) ((lx_s308 hLX).choose_spec.choose) _ hB0) (vx_cwSW 3 hts gL_law_L_many rfl rfl rfl (by decide +kernel) ⟨Nat.le_of_ble_eq_true rfl, Nat.le_of_ble_eq_true rfl⟩) ⟨pn_blind (fun _ _ _ _ h => h), fun U hU hW => ⟨rfl, pr_mk hU hW hPc hKc hDc, xs_mk hU hW hS hFc (lx_xa hLX (lx_s308 hLX).choose_spec.choose_spec), trivial⟩⟩ rfl rfl hl.1 rfl (lv_room (Nat.le_of_ble_eq_true rfl)) dL_law_1741 ⟨Nat.le_of_ble_eq_true rfl, Nat.le_of_ble_eq_true rfl⟩) hS (fun q _ h => hFc q h) hFc (fun r_4 u_3 t H1 locs ht hvm hw hB hz1 hk1 hS => ?_)
    obtain ⟨hP1, hK1, hD1⟩ := hB
    rw [ht] at hP1
    obtain ⟨hP, hD⟩ := va_join (wr := [(pa, .inr (3, [.ref p_v, .int 0, .ref p_st, .ref p_ib, .ref p_di, .ref p_wa, .ref p_se, .ref p_vh, .ref p_re])), (b0, .inl (cI, 6, .inl zi)), (b1, .inl (cZ, 6, .inl zi)), (b4, .inl (cI, 4, .inl zi)), (p_v, .inl (cI, 4, .inl zi)), (p_st, .inl (cI, 4, .inl zi)), (p_ib, .inl (cZ, 4, .inl zi)), (p_di, .inl (cI, 4, .inl zi)), (p_wa, .inl (cI, 4, .inl zi)), (p_se, .inl (cI, 4, .inl zi)), (mm, .inr (10, [.int 0, .ref pl, .ref ig, .ref sl, .ref kl, .int 0, .int 0, .int 0])), (pl, .inr (1, [.int 0, .ref dz, .int 0])), (sl, .inr (1, [.int 0, .ref dz, .int 0])), (kl, .inr (1, [.int 0, .ref dz, .int 0])), (ou, .inl (cJ, 1, .inr (.inl zl))), (od, .inl (cD, 1, .inr (.inr (.inr (.inl zd)))))]) (w1 := []) hP hD [0, 1] [2, 3, 4, 5, 6, 7, 8, 9, 10, 11, 12, 13, 14, 15, 16, 17] rfl rfl (by decide) (by decide) hk1 hFc hP1 hD1
    generalize H1 = H at hP hS ⊢
    have hP : va_P (dC, dI) vwCl [(pa, .inr (3, [.ref p_v, .int 0, .ref p_st, .ref p_ib, .ref p_di, .ref p_wa, .ref p_se, .ref p_vh, .ref p_re])), (b0, .inl (cI, 6, .inl zi)), (b1, .inl (cZ, 6, .inl zi)), (b4, .inl (cI, 4, .inl zi)), (p_v, .inl (cI, 4, .inl zi)), (p_st, .inl (cI, 4, .inl zi)), (p_ib, .inl (cZ, 4, .inl zi)), (p_di, .inl (cI, 4, .inl zi)), (p_wa, .inl (cI, 4, .inl zi)), (p_se, .inl (cI, 4, .inl zi)), (mm, .inr (10, [.int 0, .ref pl, .ref ig, .ref sl, .ref kl, .int 0, .int 0, .int 0])), (pl, .inr (1, [.int 0, .ref dz, .int 0])), (sl, .inr (1, [.int 0, .ref dz, .int 0])), (kl, .inr (1, [.int 0, .ref dz, .int 0])), (ou, .inl (cJ, 1, .inr (.inl zl))), (od, .inl (cD, 1, .inr (.inr (.inr (.inl zd)))))] H := hP
    have hD : va_D A [(pa, .inr (3, [.ref p_v, .int 0, .ref p_st, .ref p_ib, .ref p_di, .ref p_wa, .ref p_se, .ref p_vh, .ref p_re])), (b0, .inl (cI, 6, .inl zi)), (b1, .inl (cZ, 6, .inl zi)), (b4, .inl (cI, 4, .inl zi)), (p_v, .inl (cI, 4, .inl zi)), (p_st, .inl (cI, 4, .inl zi)), (p_ib, .inl (cZ, 4, .inl zi)), (p_di, .inl (cI, 4, .inl zi)), (p_wa, .inl (cI, 4, .inl zi)), (p_se, .inl (cI, 4, .inl zi)), (mm, .inr (10, [.int 0, .ref pl, .ref ig, .ref sl, .ref kl, .int 0, .int 0, .int 0])), (pl, .inr (1, [.int 0, .ref dz, .int 0])), (sl, .inr (1, [.int 0, .ref dz, .int 0])), (kl, .inr (1, [.int 0, .ref dz, .int 0])), (ou, .inl (cJ, 1, .inr (.inl zl))), (od, .inl (cD, 1, .inr (.inr (.inr (.inl zd)))))] := hD
    refine W.widen (k := 119) (n := 756) (Nat.le_of_ble_eq_true rfl) (Nat.le_of_ble_eq_true rfl) ?_
    have hw : r_4 = 1 := hw
    subst hw
    refine lv_istore (lv' := [(6, .int 1), (5, .int 0), (4, .ref od), (3, .ref ou), (2, .ref mm), (1, .ref x), (0, .ref b)]) hx hb dL_law_1744 hl (by decide) rfl (fun ls hl => ?_)
    refine lv_aload_n hx hb dL_law_1746 rfl (lv_at hl 4 rfl) ?_
    refine lv_aload_n hx hb dL_law_1747 rfl (lv_at hl 6 rfl) ?_
    refine lv_iload hx hb dL_law_1748 (lv_at hl 1 rfl) ?_
    refine lv_iconst (v := 1) hx hb dL_law_1750 (by decide) ?_
    refine lv_iadd hx hb dL_law_1751 ?_
    refine lv_topi (fun y_5 ey_5 => ?_)
    obtain rfl : y_5 = 1 := ey_5.trans (by decide)
    refine va_sld hx hb hX hbl hbA hS (by unfold vp_in; decide) dL_law_1752 ?_
    refine lv_topi (fun y_6 ey_6 => ?_)
    obtain rfl : a1 = y_6 := (ey_6.trans h_a1.symm).symm
    have hPc := hP.sub (ws' := [(mm, .inr (10, [.int 0, .ref pl, .ref ig, .ref sl, .ref kl, .int 0, .int 0, .int 0])), (pl, .inr (1, [.int 0, .ref dz, .int 0])), (sl, .inr (1, [.int 0, .ref dz, .int 0])), (kl, .inr (1, [.int 0, .ref dz, .int 0]))]) [10, 11, 12, 13] rfl
    have hDc := hD.sub (ws' := [(mm, .inr (10, [.int 0, .ref pl, .ref ig, .ref sl, .ref kl, .int 0, .int 0, .int 0])), (pl, .inr (1, [.int 0, .ref dz, .int 0])), (sl, .inr (1, [.int 0, .ref dz, .int 0])), (kl, .inr (1, [.int 0, .ref dz, .int 0]))]) [10, 11, 12, 13] (by decide) rfl
    have hKc := hK.sub (tys' := []) [] rfl
    have hFc := va_free (wc := [(mm, .inr (10, [.int 0, .ref pl, .ref ig, .ref sl, .ref kl, .int 0, .int 0, .int 0])), (pl, .inr (1, [.int 0, .ref dz, .int 0])), (sl, .inr (1, [.int 0, .ref dz, .int 0])), (kl, .inr (1, [.int 0, .ref dz, .int 0]))]) hD hS hA [10, 11, 12, 13] rfl
    refine va_calli (va_runV (As := [.int a1]) (rest := []) ⟨hx, hb, hml, hown, hts⟩ (c0_X8_many l dC dI mm pl ig sl kl dz a1 _ hM0) (cwV 1 hts gL_law_X8_many rfl rfl rfl (by decide +kernel) ⟨Nat.le_of_ble_eq_true rfl, Nat.le_of_ble_eq_true rfl⟩) ⟨pe_blind mo_bl, va_recv hKc hPc (ci := 10) (q0 := 0) rfl rfl, fun U hU hW => ⟨rfl, pr_mk hU hW hPc hKc hDc, mo_mk hW (lx_m hLX)⟩⟩ rfl rfl hl.1 rfl (lv_room (Nat.le_of_ble_eq_true rfl)) dL_law_1753 ⟨Nat.le_of_ble_eq_true rfl, Nat.le_of_ble_eq_true rfl⟩) hS (fun q _ h => hFc q h) hFc (fun r_8 u_7 t H1 locs ht hvm hw hB hz1 hk1 hS => ?_)
    obtain ⟨hP1, hK1, hD1⟩ := hB
    rw [ht] at hP1
    obtain ⟨hP, hD⟩ := va_join (wr := [(pa, .inr (3, [.ref p_v, .int 0, .ref p_st, .ref p_ib, .ref p_di, .ref p_wa, .ref p_se, .ref p_vh, .ref p_re])), (b0, .inl (cI, 6, .inl zi)), (b1, .inl (cZ, 6, .inl zi)), (b4, .inl (cI, 4, .inl zi)), (p_v, .inl (cI, 4, .inl zi)), (p_st, .inl (cI, 4, .inl zi)), (p_ib, .inl (cZ, 4, .inl zi)), (p_di, .inl (cI, 4, .inl zi)), (p_wa, .inl (cI, 4, .inl zi)), (p_se, .inl (cI, 4, .inl zi)), (ou, .inl (cJ, 1, .inr (.inl zl))), (od, .inl (cD, 1, .inr (.inr (.inr (.inl zd)))))]) (w1 := [(mm, .inr (10, [.int 1, .ref pl, .ref ig, .ref sl, .ref kl, .int 0, .int 0, .int 0]))]) hP hD [10, 11, 12, 13] [0, 1, 2, 3, 4, 5, 6, 7, 8, 9, 14, 15] rfl rfl (by decide) (by decide) hk1 hFc hP1 hD1
    generalize H1 = H at hP hS ⊢
    have hP : va_P (dC, dI) vwCl [(pa, .inr (3, [.ref p_v, .int 0, .ref p_st, .ref p_ib, .ref p_di, .ref p_wa, .ref p_se, .ref p_vh, .ref p_re])), (b0, .inl (cI, 6, .inl zi)), (b1, .inl (cZ, 6, .inl zi)), (b4, .inl (cI, 4, .inl zi)), (p_v, .inl (cI, 4, .inl zi)), (p_st, .inl (cI, 4, .inl zi)), (p_ib, .inl (cZ, 4, .inl zi)), (p_di, .inl (cI, 4, .inl zi)), (p_wa, .inl (cI, 4, .inl zi)), (p_se, .inl (cI, 4, .inl zi)), (ou, .inl (cJ, 1, .inr (.inl zl))), (od, .inl (cD, 1, .inr (.inr (.inr (.inl zd))))), (mm, .inr (10, [.int 1, .ref pl, .ref ig, .ref sl, .ref kl, .int 0, .int 0, .int 0]))] H := hP
    have hD : va_D A [(pa, .inr (3, [.ref p_v, .int 0, .ref p_st, .ref p_ib, .ref p_di, .ref p_wa, .ref p_se, .ref p_vh, .ref p_re])), (b0, .inl (cI, 6, .inl zi)), (b1, .inl (cZ, 6, .inl zi)), (b4, .inl (cI, 4, .inl zi)), (p_v, .inl (cI, 4, .inl zi)), (p_st, .inl (cI, 4, .inl zi)), (p_ib, .inl (cZ, 4, .inl zi)), (p_di, .inl (cI, 4, .inl zi)), (p_wa, .inl (cI, 4, .inl zi)), (p_se, .inl (cI, 4, .inl zi)), (ou, .inl (cJ, 1, .inr (.inl zl))), (od, .inl (cD, 1, .inr (.inr (.inr (.inl zd))))), (mm, .inr (10, [.int 1, .ref pl, .ref ig, .ref sl, .ref kl, .int 0, .int 0, .int 0]))] := hD
    refine W.widen (k := 119) (n := 756) (Nat.le_refl _) (Nat.le_refl _) ?_
    have hw : r_8 = 0 := hw
    subst hw
    refine lv_istore (lv' := [(7, .int 0), (6, .int 1), (5, .int 0), (4, .ref od), (3, .ref ou), (2, .ref mm), (1, .ref x), (0, .ref b)]) hx hb dL_law_1756 hl (by decide) rfl (fun ls hl => ?_)
    refine lv_aload_n hx hb dL_law_1758 rfl (lv_at hl 5 rfl) ?_
    have hPc := hP.sub (ws' := [(mm, .inr (10, [.int 1, .ref pl, .ref ig, .ref sl, .ref kl, .int 0, .int 0, .int 0]))]) [12] rfl
    have hDc := hD.sub (ws' := [(mm, .inr (10, [.int 1, .ref pl, .ref ig, .ref sl, .ref kl, .int 0, .int 0, .int 0]))]) [12] (by decide) rfl
    have hKc := hK.sub (tys' := []) [] rfl
    have hFc := va_free (wc := [(mm, .inr (10, [.int 1, .ref pl, .ref ig, .ref sl, .ref kl, .int 0, .int 0, .int 0]))]) hD hS hA [12] rfl
    refine va_calli (va_runV (As := []) (rest := []) ⟨hx, hb, hml, hown, hts⟩ (c_X8_thrown l dC dI mm pl ig sl kl (1 : Int32) (0 : Int32) (0 : Int32) (0 : Int32) _ ) (cwV 0 hts gL_law_X8_thrown rfl rfl rfl (by decide +kernel) ⟨Nat.le_of_ble_eq_true rfl, Nat.le_of_ble_eq_true rfl⟩) ⟨pr_blind, va_recv hKc hPc (ci := 10) (q0 := 0) rfl rfl, fun U hU hW => ⟨rfl, pr_mk hU hW hPc hKc hDc⟩⟩ rfl rfl hl.1 rfl (lv_room (Nat.le_of_ble_eq_true rfl)) dL_law_1759 ⟨Nat.le_of_ble_eq_true rfl, Nat.le_of_ble_eq_true rfl⟩) hS (fun q _ h => hFc q h) hFc (fun r_10 u_9 t H1 locs ht hvm hw hB hz1 hk1 hS => ?_)
    obtain ⟨hP1, hK1, hD1⟩ := hB
    rw [ht] at hP1
    obtain ⟨hP, hD⟩ := va_join (wr := [(pa, .inr (3, [.ref p_v, .int 0, .ref p_st, .ref p_ib, .ref p_di, .ref p_wa, .ref p_se, .ref p_vh, .ref p_re])), (b0, .inl (cI, 6, .inl zi)), (b1, .inl (cZ, 6, .inl zi)), (b4, .inl (cI, 4, .inl zi)), (p_v, .inl (cI, 4, .inl zi)), (p_st, .inl (cI, 4, .inl zi)), (p_ib, .inl (cZ, 4, .inl zi)), (p_di, .inl (cI, 4, .inl zi)), (p_wa, .inl (cI, 4, .inl zi)), (p_se, .inl (cI, 4, .inl zi)), (ou, .inl (cJ, 1, .inr (.inl zl))), (od, .inl (cD, 1, .inr (.inr (.inr (.inl zd)))))]) (w1 := [(mm, .inr (10, [.int 1, .ref pl, .ref ig, .ref sl, .ref kl, .int 0, .int 0, .int 0]))]) hP hD [12] [0, 1, 2, 3, 4, 5, 6, 7, 8, 9, 10, 11] rfl rfl (by decide) (by decide) hk1 hFc hP1 hD1
    generalize H1 = H at hP hS ⊢
    have hP : va_P (dC, dI) vwCl [(pa, .inr (3, [.ref p_v, .int 0, .ref p_st, .ref p_ib, .ref p_di, .ref p_wa, .ref p_se, .ref p_vh, .ref p_re])), (b0, .inl (cI, 6, .inl zi)), (b1, .inl (cZ, 6, .inl zi)), (b4, .inl (cI, 4, .inl zi)), (p_v, .inl (cI, 4, .inl zi)), (p_st, .inl (cI, 4, .inl zi)), (p_ib, .inl (cZ, 4, .inl zi)), (p_di, .inl (cI, 4, .inl zi)), (p_wa, .inl (cI, 4, .inl zi)), (p_se, .inl (cI, 4, .inl zi)), (ou, .inl (cJ, 1, .inr (.inl zl))), (od, .inl (cD, 1, .inr (.inr (.inr (.inl zd))))), (mm, .inr (10, [.int 1, .ref pl, .ref ig, .ref sl, .ref kl, .int 0, .int 0, .int 0]))] H := hP
    have hD : va_D A [(pa, .inr (3, [.ref p_v, .int 0, .ref p_st, .ref p_ib, .ref p_di, .ref p_wa, .ref p_se, .ref p_vh, .ref p_re])), (b0, .inl (cI, 6, .inl zi)), (b1, .inl (cZ, 6, .inl zi)), (b4, .inl (cI, 4, .inl zi)), (p_v, .inl (cI, 4, .inl zi)), (p_st, .inl (cI, 4, .inl zi)), (p_ib, .inl (cZ, 4, .inl zi)), (p_di, .inl (cI, 4, .inl zi)), (p_wa, .inl (cI, 4, .inl zi)), (p_se, .inl (cI, 4, .inl zi)), (ou, .inl (cJ, 1, .inr (.inl zl))), (od, .inl (cD, 1, .inr (.inr (.inr (.inl zd))))), (mm, .inr (10, [.int 1, .ref pl, .ref ig, .ref sl, .ref kl, .int 0, .int 0, .int 0]))] := hD
    refine W.widen (k := 119) (n := 756) (Nat.le_refl _) (Nat.le_refl _) ?_
    have hw : r_10 = 1 := hw
    subst hw
    refine lv_iload hx hb dL_law_1762 (lv_at hl 1 rfl) ?_
    refine lv_icmp_eq (tgt := 1769) hx hb dL_law_1764 (by decide) (fun _ => ?_) (fun h9 => absurd h9 (by decide))
    refine lv_iload hx hb dL_law_1769 (lv_at hl 1 rfl) ?_
    refine lv_if_ne (tgt := 1786) hx hb dL_law_1771 (by decide) (fun _ => ?_) (fun h9 => absurd h9 (by decide))
    refine lv_goto (tgt := 2007) hx hb dL_law_1786 (by decide) ?_
    exact law_tail l C0 hAe hS (lv_sub hl [2, 7] rfl) (Nat.le_of_ble_eq_true rfl) (Nat.le_of_ble_eq_true rfl)
  · have hG0 : ¬ a1 < 0 := fun h => hB0 (Or.inl h)
    have hH0 : a1 ≤ 9 := Decidable.byContradiction (fun h => hB0 (Or.inr h))
    have hN0 : ¬ 9 < a1 := gN_g hH0
    refine lv_aload_n hx hb dL_law_1733 rfl (lv_at hl 4 rfl) ?_
    refine lv_aload_n hx hb dL_law_1734 rfl (lv_at hl 5 rfl) ?_
    refine lv_iload hx hb dL_law_1735 (lv_at hl 0 rfl) ?_
    refine lv_iconst (v := 1) hx hb dL_law_1737 (by decide) ?_
    refine lv_iadd hx hb dL_law_1738 ?_
    refine lv_topi (fun y_11 ey_11 => ?_)
    obtain rfl : y_11 = 1 := ey_11.trans (by decide)
    refine va_sld hx hb hX hbl hbA hS (by unfold vp_in; decide) dL_law_1739 ?_
    refine lv_topi (fun y_12 ey_12 => ?_)
    obtain rfl : a1 = y_12 := (ey_12.trans h_a1.symm).symm
    refine lv_aload_n hx hb dL_law_1740 rfl (lv_at hl 2 rfl) ?_
    have hPc := hP.sub (ws' := [(x, .inr (7, [.ref bx, .ref po, .ref tr, .ref pa, .ref sp])), (bx, .inr (2, [.ref b0, .ref b1, .int 0, .int 0, .ref b4, .int 0, .ref b6, .int 0, .int 0, .int 0, .int 0])), (ou, .inl (cJ, 1, .inr (.inl zl)))]) [0, 1, 16] rfl
    have hDc := hD.sub (ws' := [(x, .inr (7, [.ref bx, .ref po, .ref tr, .ref pa, .ref sp])), (bx, .inr (2, [.ref b0, .ref b1, .int 0, .int 0, .ref b4, .int 0, .ref b6, .int 0, .int 0, .int 0, .int 0])), (ou, .inl (cJ, 1, .inr (.inl zl)))]) [0, 1, 16] (by decide) rfl
    have hKc := hK.sub (tys' := [(cJ, .long)]) [2] rfl
    have hFc := va_free (wc := [(x, .inr (7, [.ref bx, .ref po, .ref tr, .ref pa, .ref sp])), (bx, .inr (2, [.ref b0, .ref b1, .int 0, .int 0, .ref b4, .int 0, .ref b6, .int 0, .int 0, .int 0, .int 0])), (ou, .inl (cJ, 1, .inr (.inl zl)))]) hD hS hA [0, 1, 16] rfl
    refine va_calli (vx_runSW (As := [.ref x, .int a1, .ref ou]) (rest := []) ⟨hx, hb, hml, hown, hts⟩ (h_L_many l dC dI x po tr sp bx b0 b1 b4 b6 pa a1 ou cJ _ hG0 hH0) (vx_cwSW 3 hts gL_law_L_many rfl rfl rfl (by decide +kernel) ⟨Nat.le_of_ble_eq_true rfl, Nat.le_of_ble_eq_true rfl⟩) ⟨pr_blind, fun U hU hW => ⟨rfl, pr_mk hU hW hPc hKc hDc⟩⟩ rfl rfl hl.1 rfl (lv_room (Nat.le_of_ble_eq_true rfl)) dL_law_1741 ⟨Nat.le_of_ble_eq_true rfl, Nat.le_of_ble_eq_true rfl⟩) hS (fun q _ h => hFc q h) hFc (fun r_14 u_13 t H1 locs ht hvm hw hB hz1 hk1 hS => ?_)
    obtain ⟨hP1, hK1, hD1⟩ := hB
    rw [ht] at hP1
    obtain ⟨hP, hD⟩ := va_join (wr := [(pa, .inr (3, [.ref p_v, .int 0, .ref p_st, .ref p_ib, .ref p_di, .ref p_wa, .ref p_se, .ref p_vh, .ref p_re])), (b0, .inl (cI, 6, .inl zi)), (b1, .inl (cZ, 6, .inl zi)), (b4, .inl (cI, 4, .inl zi)), (p_v, .inl (cI, 4, .inl zi)), (p_st, .inl (cI, 4, .inl zi)), (p_ib, .inl (cZ, 4, .inl zi)), (p_di, .inl (cI, 4, .inl zi)), (p_wa, .inl (cI, 4, .inl zi)), (p_se, .inl (cI, 4, .inl zi)), (mm, .inr (10, [.int 0, .ref pl, .ref ig, .ref sl, .ref kl, .int 0, .int 0, .int 0])), (pl, .inr (1, [.int 0, .ref dz, .int 0])), (sl, .inr (1, [.int 0, .ref dz, .int 0])), (kl, .inr (1, [.int 0, .ref dz, .int 0])), (od, .inl (cD, 1, .inr (.inr (.inr (.inl zd)))))]) (w1 := [(ou, .inl (cJ, 1, .inr (.inl zl)))]) hP hD [0, 1, 16] [2, 3, 4, 5, 6, 7, 8, 9, 10, 11, 12, 13, 14, 15, 17] rfl rfl (by decide) (by decide) hk1 hFc hP1 hD1
    generalize H1 = H at hP hS ⊢
    have hP : va_P (dC, dI) vwCl [(pa, .inr (3, [.ref p_v, .int 0, .ref p_st, .ref p_ib, .ref p_di, .ref p_wa, .ref p_se, .ref p_vh, .ref p_re])), (b0, .inl (cI, 6, .inl zi)), (b1, .inl (cZ, 6, .inl zi)), (b4, .inl (cI, 4, .inl zi)), (p_v, .inl (cI, 4, .inl zi)), (p_st, .inl (cI, 4, .inl zi)), (p_ib, .inl (cZ, 4, .inl zi)), (p_di, .inl (cI, 4, .inl zi)), (p_wa, .inl (cI, 4, .inl zi)), (p_se, .inl (cI, 4, .inl zi)), (mm, .inr (10, [.int 0, .ref pl, .ref ig, .ref sl, .ref kl, .int 0, .int 0, .int 0])), (pl, .inr (1, [.int 0, .ref dz, .int 0])), (sl, .inr (1, [.int 0, .ref dz, .int 0])), (kl, .inr (1, [.int 0, .ref dz, .int 0])), (od, .inl (cD, 1, .inr (.inr (.inr (.inl zd))))), (ou, .inl (cJ, 1, .inr (.inl zl)))] H := hP
    have hD : va_D A [(pa, .inr (3, [.ref p_v, .int 0, .ref p_st, .ref p_ib, .ref p_di, .ref p_wa, .ref p_se, .ref p_vh, .ref p_re])), (b0, .inl (cI, 6, .inl zi)), (b1, .inl (cZ, 6, .inl zi)), (b4, .inl (cI, 4, .inl zi)), (p_v, .inl (cI, 4, .inl zi)), (p_st, .inl (cI, 4, .inl zi)), (p_ib, .inl (cZ, 4, .inl zi)), (p_di, .inl (cI, 4, .inl zi)), (p_wa, .inl (cI, 4, .inl zi)), (p_se, .inl (cI, 4, .inl zi)), (mm, .inr (10, [.int 0, .ref pl, .ref ig, .ref sl, .ref kl, .int 0, .int 0, .int 0])), (pl, .inr (1, [.int 0, .ref dz, .int 0])), (sl, .inr (1, [.int 0, .ref dz, .int 0])), (kl, .inr (1, [.int 0, .ref dz, .int 0])), (od, .inl (cD, 1, .inr (.inr (.inr (.inl zd))))), (ou, .inl (cJ, 1, .inr (.inl zl)))] := hD
    refine W.widen (k := 118) (n := 750) (Nat.le_refl _) (Nat.le_refl _) ?_
    have hw : r_14 = 0 := hw
    subst hw
    refine lv_istore (lv' := [(6, .int 0), (5, .int 0), (4, .ref od), (3, .ref ou), (2, .ref mm), (1, .ref x), (0, .ref b)]) hx hb dL_law_1744 hl (by decide) rfl (fun ls hl => ?_)
    refine lv_aload_n hx hb dL_law_1746 rfl (lv_at hl 4 rfl) ?_
    refine lv_aload_n hx hb dL_law_1747 rfl (lv_at hl 6 rfl) ?_
    refine lv_iload hx hb dL_law_1748 (lv_at hl 1 rfl) ?_
    refine lv_iconst (v := 1) hx hb dL_law_1750 (by decide) ?_
    refine lv_iadd hx hb dL_law_1751 ?_
    refine lv_topi (fun y_15 ey_15 => ?_)
    obtain rfl : y_15 = 1 := ey_15.trans (by decide)
    refine va_sld hx hb hX hbl hbA hS (by unfold vp_in; decide) dL_law_1752 ?_
    refine lv_topi (fun y_16 ey_16 => ?_)
    obtain rfl : a1 = y_16 := (ey_16.trans h_a1.symm).symm
    have hPc := hP.sub (ws' := [(mm, .inr (10, [.int 0, .ref pl, .ref ig, .ref sl, .ref kl, .int 0, .int 0, .int 0])), (pl, .inr (1, [.int 0, .ref dz, .int 0])), (sl, .inr (1, [.int 0, .ref dz, .int 0])), (kl, .inr (1, [.int 0, .ref dz, .int 0]))]) [10, 11, 12, 13] rfl
    have hDc := hD.sub (ws' := [(mm, .inr (10, [.int 0, .ref pl, .ref ig, .ref sl, .ref kl, .int 0, .int 0, .int 0])), (pl, .inr (1, [.int 0, .ref dz, .int 0])), (sl, .inr (1, [.int 0, .ref dz, .int 0])), (kl, .inr (1, [.int 0, .ref dz, .int 0]))]) [10, 11, 12, 13] (by decide) rfl
    have hKc := hK.sub (tys' := []) [] rfl
    have hFc := va_free (wc := [(mm, .inr (10, [.int 0, .ref pl, .ref ig, .ref sl, .ref kl, .int 0, .int 0, .int 0])), (pl, .inr (1, [.int 0, .ref dz, .int 0])), (sl, .inr (1, [.int 0, .ref dz, .int 0])), (kl, .inr (1, [.int 0, .ref dz, .int 0]))]) hD hS hA [10, 11, 12, 13] rfl
    refine va_calli (va_runV (As := [.int a1]) (rest := []) ⟨hx, hb, hml, hown, hts⟩ (c_X8_many l dC dI mm pl ig sl kl dz a1 _ hG0 hN0) (cwV 1 hts gL_law_X8_many rfl rfl rfl (by decide +kernel) ⟨Nat.le_of_ble_eq_true rfl, Nat.le_of_ble_eq_true rfl⟩) ⟨pe_blind mo_bl, va_recv hKc hPc (ci := 10) (q0 := 0) rfl rfl, fun U hU hW => ⟨rfl, pr_mk hU hW hPc hKc hDc, mo_mk hW (lx_m hLX)⟩⟩ rfl rfl hl.1 rfl (lv_room (Nat.le_of_ble_eq_true rfl)) dL_law_1753 ⟨Nat.le_of_ble_eq_true rfl, Nat.le_of_ble_eq_true rfl⟩) hS (fun q _ h => hFc q h) hFc (fun r_18 u_17 t H1 locs ht hvm hw hB hz1 hk1 hS => ?_)
    obtain ⟨hP1, hK1, hD1⟩ := hB
    rw [ht] at hP1
    obtain ⟨hP, hD⟩ := va_join (wr := [(pa, .inr (3, [.ref p_v, .int 0, .ref p_st, .ref p_ib, .ref p_di, .ref p_wa, .ref p_se, .ref p_vh, .ref p_re])), (b0, .inl (cI, 6, .inl zi)), (b1, .inl (cZ, 6, .inl zi)), (b4, .inl (cI, 4, .inl zi)), (p_v, .inl (cI, 4, .inl zi)), (p_st, .inl (cI, 4, .inl zi)), (p_ib, .inl (cZ, 4, .inl zi)), (p_di, .inl (cI, 4, .inl zi)), (p_wa, .inl (cI, 4, .inl zi)), (p_se, .inl (cI, 4, .inl zi)), (od, .inl (cD, 1, .inr (.inr (.inr (.inl zd))))), (ou, .inl (cJ, 1, .inr (.inl zl)))]) (w1 := [(mm, .inr (10, [.int 0, .ref pl, .ref ig, .ref sl, .ref kl, .int 0, .int 0, .int 0]))]) hP hD [10, 11, 12, 13] [0, 1, 2, 3, 4, 5, 6, 7, 8, 9, 14, 15] rfl rfl (by decide) (by decide) hk1 hFc hP1 hD1
    generalize H1 = H at hP hS ⊢
    have hP : va_P (dC, dI) vwCl [(pa, .inr (3, [.ref p_v, .int 0, .ref p_st, .ref p_ib, .ref p_di, .ref p_wa, .ref p_se, .ref p_vh, .ref p_re])), (b0, .inl (cI, 6, .inl zi)), (b1, .inl (cZ, 6, .inl zi)), (b4, .inl (cI, 4, .inl zi)), (p_v, .inl (cI, 4, .inl zi)), (p_st, .inl (cI, 4, .inl zi)), (p_ib, .inl (cZ, 4, .inl zi)), (p_di, .inl (cI, 4, .inl zi)), (p_wa, .inl (cI, 4, .inl zi)), (p_se, .inl (cI, 4, .inl zi)), (od, .inl (cD, 1, .inr (.inr (.inr (.inl zd))))), (ou, .inl (cJ, 1, .inr (.inl zl))), (mm, .inr (10, [.int 0, .ref pl, .ref ig, .ref sl, .ref kl, .int 0, .int 0, .int 0]))] H := hP
    have hD : va_D A [(pa, .inr (3, [.ref p_v, .int 0, .ref p_st, .ref p_ib, .ref p_di, .ref p_wa, .ref p_se, .ref p_vh, .ref p_re])), (b0, .inl (cI, 6, .inl zi)), (b1, .inl (cZ, 6, .inl zi)), (b4, .inl (cI, 4, .inl zi)), (p_v, .inl (cI, 4, .inl zi)), (p_st, .inl (cI, 4, .inl zi)), (p_ib, .inl (cZ, 4, .inl zi)), (p_di, .inl (cI, 4, .inl zi)), (p_wa, .inl (cI, 4, .inl zi)), (p_se, .inl (cI, 4, .inl zi)), (od, .inl (cD, 1, .inr (.inr (.inr (.inl zd))))), (ou, .inl (cJ, 1, .inr (.inl zl))), (mm, .inr (10, [.int 0, .ref pl, .ref ig, .ref sl, .ref kl, .int 0, .int 0, .int 0]))] := hD
    refine W.widen (k := 122) (n := 770) (Nat.le_of_ble_eq_true rfl) (Nat.le_of_ble_eq_true rfl) ?_
    have hw : r_18 = 0 := hw
    subst hw
    refine lv_istore (lv' := [(7, .int 0), (6, .int 0), (5, .int 0), (4, .ref od), (3, .ref ou), (2, .ref mm), (1, .ref x), (0, .ref b)]) hx hb dL_law_1756 hl (by decide) rfl (fun ls hl => ?_)
    refine lv_aload_n hx hb dL_law_1758 rfl (lv_at hl 5 rfl) ?_
    have hPc := hP.sub (ws' := [(mm, .inr (10, [.int 0, .ref pl, .ref ig, .ref sl, .ref kl, .int 0, .int 0, .int 0]))]) [12] rfl
    have hDc := hD.sub (ws' := [(mm, .inr (10, [.int 0, .ref pl, .ref ig, .ref sl, .ref kl, .int 0, .int 0, .int 0]))]) [12] (by decide) rfl
    have hKc := hK.sub (tys' := []) [] rfl
    have hFc := va_free (wc := [(mm, .inr (10, [.int 0, .ref pl, .ref ig, .ref sl, .ref kl, .int 0, .int 0, .int 0]))]) hD hS hA [12] rfl
    refine va_calli (va_runV (As := []) (rest := []) ⟨hx, hb, hml, hown, hts⟩ (c_X8_thrown l dC dI mm pl ig sl kl (0 : Int32) (0 : Int32) (0 : Int32) (0 : Int32) _ ) (cwV 0 hts gL_law_X8_thrown rfl rfl rfl (by decide +kernel) ⟨Nat.le_of_ble_eq_true rfl, Nat.le_of_ble_eq_true rfl⟩) ⟨pr_blind, va_recv hKc hPc (ci := 10) (q0 := 0) rfl rfl, fun U hU hW => ⟨rfl, pr_mk hU hW hPc hKc hDc⟩⟩ rfl rfl hl.1 rfl (lv_room (Nat.le_of_ble_eq_true rfl)) dL_law_1759 ⟨Nat.le_of_ble_eq_true rfl, Nat.le_of_ble_eq_true rfl⟩) hS (fun q _ h => hFc q h) hFc (fun r_20 u_19 t H1 locs ht hvm hw hB hz1 hk1 hS => ?_)
    obtain ⟨hP1, hK1, hD1⟩ := hB
    rw [ht] at hP1
    obtain ⟨hP, hD⟩ := va_join (wr := [(pa, .inr (3, [.ref p_v, .int 0, .ref p_st, .ref p_ib, .ref p_di, .ref p_wa, .ref p_se, .ref p_vh, .ref p_re])), (b0, .inl (cI, 6, .inl zi)), (b1, .inl (cZ, 6, .inl zi)), (b4, .inl (cI, 4, .inl zi)), (p_v, .inl (cI, 4, .inl zi)), (p_st, .inl (cI, 4, .inl zi)), (p_ib, .inl (cZ, 4, .inl zi)), (p_di, .inl (cI, 4, .inl zi)), (p_wa, .inl (cI, 4, .inl zi)), (p_se, .inl (cI, 4, .inl zi)), (od, .inl (cD, 1, .inr (.inr (.inr (.inl zd))))), (ou, .inl (cJ, 1, .inr (.inl zl)))]) (w1 := [(mm, .inr (10, [.int 0, .ref pl, .ref ig, .ref sl, .ref kl, .int 0, .int 0, .int 0]))]) hP hD [12] [0, 1, 2, 3, 4, 5, 6, 7, 8, 9, 10, 11] rfl rfl (by decide) (by decide) hk1 hFc hP1 hD1
    generalize H1 = H at hP hS ⊢
    have hP : va_P (dC, dI) vwCl [(pa, .inr (3, [.ref p_v, .int 0, .ref p_st, .ref p_ib, .ref p_di, .ref p_wa, .ref p_se, .ref p_vh, .ref p_re])), (b0, .inl (cI, 6, .inl zi)), (b1, .inl (cZ, 6, .inl zi)), (b4, .inl (cI, 4, .inl zi)), (p_v, .inl (cI, 4, .inl zi)), (p_st, .inl (cI, 4, .inl zi)), (p_ib, .inl (cZ, 4, .inl zi)), (p_di, .inl (cI, 4, .inl zi)), (p_wa, .inl (cI, 4, .inl zi)), (p_se, .inl (cI, 4, .inl zi)), (od, .inl (cD, 1, .inr (.inr (.inr (.inl zd))))), (ou, .inl (cJ, 1, .inr (.inl zl))), (mm, .inr (10, [.int 0, .ref pl, .ref ig, .ref sl, .ref kl, .int 0, .int 0, .int 0]))] H := hP
    have hD : va_D A [(pa, .inr (3, [.ref p_v, .int 0, .ref p_st, .ref p_ib, .ref p_di, .ref p_wa, .ref p_se, .ref p_vh, .ref p_re])), (b0, .inl (cI, 6, .inl zi)), (b1, .inl (cZ, 6, .inl zi)), (b4, .inl (cI, 4, .inl zi)), (p_v, .inl (cI, 4, .inl zi)), (p_st, .inl (cI, 4, .inl zi)), (p_ib, .inl (cZ, 4, .inl zi)), (p_di, .inl (cI, 4, .inl zi)), (p_wa, .inl (cI, 4, .inl zi)), (p_se, .inl (cI, 4, .inl zi)), (od, .inl (cD, 1, .inr (.inr (.inr (.inl zd))))), (ou, .inl (cJ, 1, .inr (.inl zl))), (mm, .inr (10, [.int 0, .ref pl, .ref ig, .ref sl, .ref kl, .int 0, .int 0, .int 0]))] := hD
    refine W.widen (k := 122) (n := 770) (Nat.le_refl _) (Nat.le_refl _) ?_
    have hw : r_20 = 0 := hw
    subst hw
    refine lv_iload hx hb dL_law_1762 (lv_at hl 1 rfl) ?_
    refine lv_icmp_eq (tgt := 1769) hx hb dL_law_1764 (by decide) (fun _ => ?_) (fun h9 => absurd h9 (by decide))
    refine lv_iload hx hb dL_law_1769 (lv_at hl 1 rfl) ?_
    refine lv_if_ne (tgt := 1786) hx hb dL_law_1771 (by decide) (fun h9 => absurd h9 (by decide)) (fun _ => ?_)
    refine lv_aload_n hx hb dL_law_1774 rfl (lv_at hl 4 rfl) ?_
    refine lv_iconst (v := 0) hx hb dL_law_1775 (by decide) ?_
    refine va_lald hx hb hK hP 11 2 rfl rfl (by unfold vp_in; decide) dL_law_1776 ?_
    refine lv_topl (fun y_21 ey_21 => ?_)
    obtain rfl : y_21 = 0 := ey_21
    refine lv_iload hx hb dL_law_1777 (lv_at hl 0 rfl) ?_
    refine lv_i2l (v := 0) hx hb dL_law_1779 (by decide) ?_
    refine W.lcmp hx hb dL_law_1780 ?_
    refine lv_topi (fun y_22 ey_22 => ?_)
    obtain rfl : y_22 = 0 := ey_22.trans (lcmp_self _)
    refine lv_if_eq (tgt := 1786) hx hb dL_law_1781 (by decide) (fun _ => ?_) (fun h9 => absurd h9 (by decide))
    refine lv_goto (tgt := 2007) hx hb dL_law_1786 (by decide) ?_
    exact law_tail l C0 hAe hS (lv_sub hl [2, 7] rfl) (Nat.le_of_ble_eq_true rfl) (Nat.le_of_ble_eq_true rfl)

set_option maxHeartbeats 4000000 in
set_option maxRecDepth 100000 in
theorem case_margin {p : Program} {e : Env} {s : State} {m : MethodId} {below : List Frame} {meth : Method} {c : Code} (l : Launch) (hfl : l.stackTraces = false) {b : Nat} {xs : Nat → Int32} (C0 : lw_At p s m meth c b 5 xs) {dz tc : Nat} {ad : Nat → Nat} (hLX : lx_ (fun q : Nat => s.heap.size ≤ q) dz tc ad s) (dC : Nat → ClassId) (dI : Nat → Nat → Nat) {x : Nat} {po : Nat} {tr : Nat} {sp : Nat} {bx : Nat} {b0 : Nat} {b1 : Nat} {b4 : Nat} {b6 : Nat} {pa : Nat} {p_v : Nat} {p_st : Nat} {p_ib : Nat} {p_di : Nat} {p_wa : Nat} {p_se : Nat} {p_vh : Nat} {p_re : Nat} {mm : Nat} {pl : Nat} {ig : Nat} {sl : Nat} {kl : Nat} {ou : Nat} {od : Nat} {cI : ClassId} {cZ : ClassId} {cJ : ClassId} {cD : ClassId} {H : Heap} {locs : List Loc} {ls : Array Slot} (hK : va_K (dC, dI) vwCl [(cI, .int), (cZ, .boolean), (cJ, .long), (cD, .double)] s) (hP : va_P (dC, dI) vwCl [(x, .inr (7, [.ref bx, .ref po, .ref tr, .ref pa, .ref sp])), (bx, .inr (2, [.ref b0, .ref b1, .int 0, .int 0, .ref b4, .int 0, .ref b6, .int 0, .int 0, .int 0, .int 0])), (pa, .inr (3, [.ref p_v, .int 0, .ref p_st, .ref p_ib, .ref p_di, .ref p_wa, .ref p_se, .ref p_vh, .ref p_re])), (b0, .inl (cI, 6, .inl zi)), (b1, .inl (cZ, 6, .inl zi)), (b4, .inl (cI, 4, .inl zi)), (p_v, .inl (cI, 4, .inl zi)), (p_st, .inl (cI, 4, .inl zi)), (p_ib, .inl (cZ, 4, .inl zi)), (p_di, .inl (cI, 4, .inl zi)), (p_wa, .inl (cI, 4, .inl zi)), (p_se, .inl (cI, 4, .inl zi)), (mm, .inr (10, [.int 0, .ref pl, .ref ig, .ref sl, .ref kl, .int 0, .int 0, .int 0])), (pl, .inr (1, [.int 0, .ref dz, .int 0])), (sl, .inr (1, [.int 0, .ref dz, .int 0])), (kl, .inr (1, [.int 0, .ref dz, .int 0])), (ou, .inl (cJ, 1, .inr (.inl zl))), (od, .inl (cD, 1, .inr (.inr (.inr (.inl zd)))))] H) (hD : va_D (fun q : Nat => s.heap.size ≤ q) [(x, .inr (7, [.ref bx, .ref po, .ref tr, .ref pa, .ref sp])), (bx, .inr (2, [.ref b0, .ref b1, .int 0, .int 0, .ref b4, .int 0, .ref b6, .int 0, .int 0, .int 0, .int 0])), (pa, .inr (3, [.ref p_v, .int 0, .ref p_st, .ref p_ib, .ref p_di, .ref p_wa, .ref p_se, .ref p_vh, .ref p_re])), (b0, .inl (cI, 6, .inl zi)), (b1, .inl (cZ, 6, .inl zi)), (b4, .inl (cI, 4, .inl zi)), (p_v, .inl (cI, 4, .inl zi)), (p_st, .inl (cI, 4, .inl zi)), (p_ib, .inl (cZ, 4, .inl zi)), (p_di, .inl (cI, 4, .inl zi)), (p_wa, .inl (cI, 4, .inl zi)), (p_se, .inl (cI, 4, .inl zi)), (mm, .inr (10, [.int 0, .ref pl, .ref ig, .ref sl, .ref kl, .int 0, .int 0, .int 0])), (pl, .inr (1, [.int 0, .ref dz, .int 0])), (sl, .inr (1, [.int 0, .ref dz, .int 0])), (kl, .inr (1, [.int 0, .ref dz, .int 0])), (ou, .inl (cJ, 1, .inr (.inl zl))), (od, .inl (cD, 1, .inr (.inr (.inr (.inl zd)))))]) (hS : va_S (fun q : Nat => s.heap.size ≤ q) s.heap H locs) (hl : lv_has ls 9 [(5, .int 0), (4, .ref od), (3, .ref ou), (2, .ref mm), (1, .ref x), (0, .ref b)]) : W p l e room_1 s m #[Value.ref b] below meth c H locs 118 750 (lw_Z below #[Value.ref b] s) (F0 m 1789 ls []) := by
  obtain ⟨hx, hb, hr, hml, hown, hts0, hX, hbl, hlocks, hgv⟩ := id C0
  have hts : ∀ w ∈ lw_tbl, w.before #[Value.ref b] s = true := hts0
  have hbA : ¬ (fun q : Nat => s.heap.size ≤ q) b := Nat.not_le.mpr hbl
  have hA : ∀ q : Nat, s.heap.size ≤ q → (fun q : Nat => s.heap.size ≤ q) q := fun _ h => h
  generalize hAe : (fun q : Nat => s.heap.size ≤ q) = A at hD hS hbA hA hLX
  obtain ⟨a1, h_a1⟩ : ∃ z, z = xs ((1 : Int32).toNatClampNeg) := ⟨_, rfl⟩
  obtain ⟨a2, h_a2⟩ : ∃ z, z = xs ((2 : Int32).toNatClampNeg) := ⟨_, rfl⟩
  obtain ⟨a3, h_a3⟩ : ∃ z, z = xs ((3 : Int32).toNatClampNeg) := ⟨_, rfl⟩
  obtain ⟨a4, h_a4⟩ : ∃ z, z = xs ((4 : Int32).toNatClampNeg) := ⟨_, rfl⟩
  refine lv_aload_n hx hb dL_law_1789 rfl (lv_at hl 4 rfl) ?_
  refine lv_aload_n hx hb dL_law_1790 rfl (lv_at hl 5 rfl) ?_
  refine lv_iload hx hb dL_law_1791 (lv_at hl 0 rfl) ?_
  refine lv_iconst (v := 1) hx hb dL_law_1793 (by decide) ?_
  refine lv_iadd hx hb dL_law_1794 ?_
  refine lv_topi (fun y_1 ey_1 => ?_)
  obtain rfl : y_1 = 1 := ey_1.trans (by decide)
  refine va_sld hx hb hX hbl hbA hS (by unfold vp_in; decide) dL_law_1795 ?_
  refine lv_topi (fun y_2 ey_2 => ?_)
  obtain rfl : a1 = y_2 := (ey_2.trans h_a1.symm).symm
  refine lv_aload_n hx hb dL_law_1796 rfl (lv_at hl 2 rfl) ?_
  have hPc := hP.sub (ws' := [(x, .inr (7, [.ref bx, .ref po, .ref tr, .ref pa, .ref sp])), (bx, .inr (2, [.ref b0, .ref b1, .int 0, .int 0, .ref b4, .int 0, .ref b6, .int 0, .int 0, .int 0, .int 0]))]) [0, 1] rfl
  have hDc := hD.sub (ws' := [(x, .inr (7, [.ref bx, .ref po, .ref tr, .ref pa, .ref sp])), (bx, .inr (2, [.ref b0, .ref b1, .int 0, .int 0, .ref b4, .int 0, .ref b6, .int 0, .int 0, .int 0, .int 0]))]) [0, 1] (by decide) rfl
  have hKc := hK.sub (tys' := []) [] rfl
  have hFc := va_free (wc := [(x, .inr (7, [.ref bx, .ref po, .ref tr, .ref pa, .ref sp])), (bx, .inr (2, [.ref b0, .ref b1, .int 0, .int 0, .ref b4, .int 0, .ref b6, .int 0, .int 0, .int 0, .int 0]))]) hD hS hA [0, 1] rfl
  refine va_calli (vx_runSW (As := [.ref x, .int a1, .ref ou]) (rest := []) ⟨hx, hb, hml, hown, hts⟩ (h0_L_margin l hfl dC dI x po tr sp pa bx b0 b1 b4 b6 a1 ou ((lx_s299 hLX).choose) ((lx_s299 hLX).choose_spec.choose) _ ) (vx_cwSW 3 hts gL_law_L_margin rfl rfl rfl (by decide +kernel) ⟨Nat.le_of_ble_eq_true rfl, Nat.le_of_ble_eq_true rfl⟩) ⟨pn_blind (fun _ _ _ _ h => h), fun U hU hW => ⟨rfl, pr_mk hU hW hPc hKc hDc, xs_mk hU hW hS hFc (lx_xo hLX (lx_s299 hLX).choose_spec.choose_spec), trivial⟩⟩ rfl rfl hl.1 rfl (lv_room (Nat.le_of_ble_eq_true rfl)) dL_law_1797 ⟨Nat.le_of_ble_eq_true rfl, Nat.le_of_ble_eq_true rfl⟩) hS (fun q _ h => hFc q h) hFc (fun r_4 u_3 t H1 locs ht hvm hw hB hz1 hk1 hS => ?_)
  obtain ⟨hP1, hK1, hD1⟩ := hB
  rw [ht] at hP1
  obtain ⟨hP, hD⟩ := va_join (wr := [(pa, .inr (3, [.ref p_v, .int 0, .ref p_st, .ref p_ib, .ref p_di, .ref p_wa, .ref p_se, .ref p_vh, .ref p_re])), (b0, .inl (cI, 6, .inl zi)), (b1, .inl (cZ, 6, .inl zi)), (b4, .inl (cI, 4, .inl zi)), (p_v, .inl (cI, 4, .inl zi)), (p_st, .inl (cI, 4, .inl zi)), (p_ib, .inl (cZ, 4, .inl zi)), (p_di, .inl (cI, 4, .inl zi)), (p_wa, .inl (cI, 4, .inl zi)), (p_se, .inl (cI, 4, .inl zi)), (mm, .inr (10, [.int 0, .ref pl, .ref ig, .ref sl, .ref kl, .int 0, .int 0, .int 0])), (pl, .inr (1, [.int 0, .ref dz, .int 0])), (sl, .inr (1, [.int 0, .ref dz, .int 0])), (kl, .inr (1, [.int 0, .ref dz, .int 0])), (ou, .inl (cJ, 1, .inr (.inl zl))), (od, .inl (cD, 1, .inr (.inr (.inr (.inl zd)))))]) (w1 := []) hP hD [0, 1] [2, 3, 4, 5, 6, 7, 8, 9, 10, 11, 12, 13, 14, 15, 16, 17] rfl rfl (by decide) (by decide) hk1 hFc hP1 hD1
  generalize H1 = H at hP hS ⊢
  have hP : va_P (dC, dI) vwCl [(pa, .inr (3, [.ref p_v, .int 0, .ref p_st, .ref p_ib, .ref p_di, .ref p_wa, .ref p_se, .ref p_vh, .ref p_re])), (b0, .inl (cI, 6, .inl zi)), (b1, .inl (cZ, 6, .inl zi)), (b4, .inl (cI, 4, .inl zi)), (p_v, .inl (cI, 4, .inl zi)), (p_st, .inl (cI, 4, .inl zi)), (p_ib, .inl (cZ, 4, .inl zi)), (p_di, .inl (cI, 4, .inl zi)), (p_wa, .inl (cI, 4, .inl zi)), (p_se, .inl (cI, 4, .inl zi)), (mm, .inr (10, [.int 0, .ref pl, .ref ig, .ref sl, .ref kl, .int 0, .int 0, .int 0])), (pl, .inr (1, [.int 0, .ref dz, .int 0])), (sl, .inr (1, [.int 0, .ref dz, .int 0])), (kl, .inr (1, [.int 0, .ref dz, .int 0])), (ou, .inl (cJ, 1, .inr (.inl zl))), (od, .inl (cD, 1, .inr (.inr (.inr (.inl zd)))))] H := hP
  have hD : va_D A [(pa, .inr (3, [.ref p_v, .int 0, .ref p_st, .ref p_ib, .ref p_di, .ref p_wa, .ref p_se, .ref p_vh, .ref p_re])), (b0, .inl (cI, 6, .inl zi)), (b1, .inl (cZ, 6, .inl zi)), (b4, .inl (cI, 4, .inl zi)), (p_v, .inl (cI, 4, .inl zi)), (p_st, .inl (cI, 4, .inl zi)), (p_ib, .inl (cZ, 4, .inl zi)), (p_di, .inl (cI, 4, .inl zi)), (p_wa, .inl (cI, 4, .inl zi)), (p_se, .inl (cI, 4, .inl zi)), (mm, .inr (10, [.int 0, .ref pl, .ref ig, .ref sl, .ref kl, .int 0, .int 0, .int 0])), (pl, .inr (1, [.int 0, .ref dz, .int 0])), (sl, .inr (1, [.int 0, .ref dz, .int 0])), (kl, .inr (1, [.int 0, .ref dz, .int 0])), (ou, .inl (cJ, 1, .inr (.inl zl))), (od, .inl (cD, 1, .inr (.inr (.inr (.inl zd)))))] := hD
  refine W.widen (k := 119) (n := 756) (Nat.le_of_ble_eq_true rfl) (Nat.le_of_ble_eq_true rfl) ?_
  have hw : r_4 = 1 := hw
  subst hw
  refine lv_istore (lv' := [(6, .int 1), (5, .int 0), (4, .ref od), (3, .ref ou), (2, .ref mm), (1, .ref x), (0, .ref b)]) hx hb dL_law_1800 hl (by decide) rfl (fun ls hl => ?_)
  refine lv_aload_n hx hb dL_law_1802 rfl (lv_at hl 4 rfl) ?_
  refine lv_aload_n hx hb dL_law_1803 rfl (lv_at hl 6 rfl) ?_
  refine lv_iload hx hb dL_law_1804 (lv_at hl 1 rfl) ?_
  refine lv_iconst (v := 1) hx hb dL_law_1806 (by decide) ?_
  refine lv_iadd hx hb dL_law_1807 ?_
  refine lv_topi (fun y_5 ey_5 => ?_)
  obtain rfl : y_5 = 1 := ey_5.trans (by decide)
  refine va_sld hx hb hX hbl hbA hS (by unfold vp_in; decide) dL_law_1808 ?_
  refine lv_topi (fun y_6 ey_6 => ?_)
  obtain rfl : a1 = y_6 := (ey_6.trans h_a1.symm).symm
  have hPc := hP.sub (ws' := [(mm, .inr (10, [.int 0, .ref pl, .ref ig, .ref sl, .ref kl, .int 0, .int 0, .int 0])), (pl, .inr (1, [.int 0, .ref dz, .int 0])), (sl, .inr (1, [.int 0, .ref dz, .int 0])), (kl, .inr (1, [.int 0, .ref dz, .int 0]))]) [10, 11, 12, 13] rfl
  have hDc := hD.sub (ws' := [(mm, .inr (10, [.int 0, .ref pl, .ref ig, .ref sl, .ref kl, .int 0, .int 0, .int 0])), (pl, .inr (1, [.int 0, .ref dz, .int 0])), (sl, .inr (1, [.int 0, .ref dz, .int 0])), (kl, .inr (1, [.int 0, .ref dz, .int 0]))]) [10, 11, 12, 13] (by decide) rfl
  have hKc := hK.sub (tys' := []) [] rfl
  have hFc := va_free (wc := [(mm, .inr (10, [.int 0, .ref pl, .ref ig, .ref sl, .ref kl, .int 0, .int 0, .int 0])), (pl, .inr (1, [.int 0, .ref dz, .int 0])), (sl, .inr (1, [.int 0, .ref dz, .int 0])), (kl, .inr (1, [.int 0, .ref dz, .int 0]))]) hD hS hA [10, 11, 12, 13] rfl
  refine va_calli (va_runV (As := [.int a1]) (rest := []) ⟨hx, hb, hml, hown, hts⟩ (c_X8_margin l dC dI mm pl ig sl kl dz a1 _ ) (cwV 1 hts gL_law_X8_margin rfl rfl rfl (by decide +kernel) ⟨Nat.le_of_ble_eq_true rfl, Nat.le_of_ble_eq_true rfl⟩) ⟨pe_blind mo_bl, va_recv hKc hPc (ci := 10) (q0 := 0) rfl rfl, fun U hU hW => ⟨rfl, pr_mk hU hW hPc hKc hDc, mo_mk hW (lx_m hLX)⟩⟩ rfl rfl hl.1 rfl (lv_room (Nat.le_of_ble_eq_true rfl)) dL_law_1809 ⟨Nat.le_of_ble_eq_true rfl, Nat.le_of_ble_eq_true rfl⟩) hS (fun q _ h => hFc q h) hFc (fun r_8 u_7 t H1 locs ht hvm hw hB hz1 hk1 hS => ?_)
  obtain ⟨hP1, hK1, hD1⟩ := hB
  rw [ht] at hP1
  obtain ⟨hP, hD⟩ := va_join (wr := [(pa, .inr (3, [.ref p_v, .int 0, .ref p_st, .ref p_ib, .ref p_di, .ref p_wa, .ref p_se, .ref p_vh, .ref p_re])), (b0, .inl (cI, 6, .inl zi)), (b1, .inl (cZ, 6, .inl zi)), (b4, .inl (cI, 4, .inl zi)), (p_v, .inl (cI, 4, .inl zi)), (p_st, .inl (cI, 4, .inl zi)), (p_ib, .inl (cZ, 4, .inl zi)), (p_di, .inl (cI, 4, .inl zi)), (p_wa, .inl (cI, 4, .inl zi)), (p_se, .inl (cI, 4, .inl zi)), (ou, .inl (cJ, 1, .inr (.inl zl))), (od, .inl (cD, 1, .inr (.inr (.inr (.inl zd)))))]) (w1 := [(mm, .inr (10, [.int 1, .ref pl, .ref ig, .ref sl, .ref kl, .int 0, .int 0, .int 0]))]) hP hD [10, 11, 12, 13] [0, 1, 2, 3, 4, 5, 6, 7, 8, 9, 14, 15] rfl rfl (by decide) (by decide) hk1 hFc hP1 hD1
  generalize H1 = H at hP hS ⊢
  have hP : va_P (dC, dI) vwCl [(pa, .inr (3, [.ref p_v, .int 0, .ref p_st, .ref p_ib, .ref p_di, .ref p_wa, .ref p_se, .ref p_vh, .ref p_re])), (b0, .inl (cI, 6, .inl zi)), (b1, .inl (cZ, 6, .inl zi)), (b4, .inl (cI, 4, .inl zi)), (p_v, .inl (cI, 4, .inl zi)), (p_st, .inl (cI, 4, .inl zi)), (p_ib, .inl (cZ, 4, .inl zi)), (p_di, .inl (cI, 4, .inl zi)), (p_wa, .inl (cI, 4, .inl zi)), (p_se, .inl (cI, 4, .inl zi)), (ou, .inl (cJ, 1, .inr (.inl zl))), (od, .inl (cD, 1, .inr (.inr (.inr (.inl zd))))), (mm, .inr (10, [.int 1, .ref pl, .ref ig, .ref sl, .ref kl, .int 0, .int 0, .int 0]))] H := hP
  have hD : va_D A [(pa, .inr (3, [.ref p_v, .int 0, .ref p_st, .ref p_ib, .ref p_di, .ref p_wa, .ref p_se, .ref p_vh, .ref p_re])), (b0, .inl (cI, 6, .inl zi)), (b1, .inl (cZ, 6, .inl zi)), (b4, .inl (cI, 4, .inl zi)), (p_v, .inl (cI, 4, .inl zi)), (p_st, .inl (cI, 4, .inl zi)), (p_ib, .inl (cZ, 4, .inl zi)), (p_di, .inl (cI, 4, .inl zi)), (p_wa, .inl (cI, 4, .inl zi)), (p_se, .inl (cI, 4, .inl zi)), (ou, .inl (cJ, 1, .inr (.inl zl))), (od, .inl (cD, 1, .inr (.inr (.inr (.inl zd))))), (mm, .inr (10, [.int 1, .ref pl, .ref ig, .ref sl, .ref kl, .int 0, .int 0, .int 0]))] := hD
  refine W.widen (k := 119) (n := 756) (Nat.le_refl _) (Nat.le_refl _) ?_
  have hw : r_8 = 0 := hw
  subst hw
  refine lv_istore (lv' := [(7, .int 0), (6, .int 1), (5, .int 0), (4, .ref od), (3, .ref ou), (2, .ref mm), (1, .ref x), (0, .ref b)]) hx hb dL_law_1812 hl (by decide) rfl (fun ls hl => ?_)
  refine lv_aload_n hx hb dL_law_1814 rfl (lv_at hl 5 rfl) ?_
  have hPc := hP.sub (ws' := [(mm, .inr (10, [.int 1, .ref pl, .ref ig, .ref sl, .ref kl, .int 0, .int 0, .int 0]))]) [12] rfl
  have hDc := hD.sub (ws' := [(mm, .inr (10, [.int 1, .ref pl, .ref ig, .ref sl, .ref kl, .int 0, .int 0, .int 0]))]) [12] (by decide) rfl
  have hKc := hK.sub (tys' := []) [] rfl
  have hFc := va_free (wc := [(mm, .inr (10, [.int 1, .ref pl, .ref ig, .ref sl, .ref kl, .int 0, .int 0, .int 0]))]) hD hS hA [12] rfl
  refine va_calli (va_runV (As := []) (rest := []) ⟨hx, hb, hml, hown, hts⟩ (c_X8_thrown l dC dI mm pl ig sl kl (1 : Int32) (0 : Int32) (0 : Int32) (0 : Int32) _ ) (cwV 0 hts gL_law_X8_thrown rfl rfl rfl (by decide +kernel) ⟨Nat.le_of_ble_eq_true rfl, Nat.le_of_ble_eq_true rfl⟩) ⟨pr_blind, va_recv hKc hPc (ci := 10) (q0 := 0) rfl rfl, fun U hU hW => ⟨rfl, pr_mk hU hW hPc hKc hDc⟩⟩ rfl rfl hl.1 rfl (lv_room (Nat.le_of_ble_eq_true rfl)) dL_law_1815 ⟨Nat.le_of_ble_eq_true rfl, Nat.le_of_ble_eq_true rfl⟩) hS (fun q _ h => hFc q h) hFc (fun r_10 u_9 t H1 locs ht hvm hw hB hz1 hk1 hS => ?_)
  obtain ⟨hP1, hK1, hD1⟩ := hB
  rw [ht] at hP1
  obtain ⟨hP, hD⟩ := va_join (wr := [(pa, .inr (3, [.ref p_v, .int 0, .ref p_st, .ref p_ib, .ref p_di, .ref p_wa, .ref p_se, .ref p_vh, .ref p_re])), (b0, .inl (cI, 6, .inl zi)), (b1, .inl (cZ, 6, .inl zi)), (b4, .inl (cI, 4, .inl zi)), (p_v, .inl (cI, 4, .inl zi)), (p_st, .inl (cI, 4, .inl zi)), (p_ib, .inl (cZ, 4, .inl zi)), (p_di, .inl (cI, 4, .inl zi)), (p_wa, .inl (cI, 4, .inl zi)), (p_se, .inl (cI, 4, .inl zi)), (ou, .inl (cJ, 1, .inr (.inl zl))), (od, .inl (cD, 1, .inr (.inr (.inr (.inl zd)))))]) (w1 := [(mm, .inr (10, [.int 1, .ref pl, .ref ig, .ref sl, .ref kl, .int 0, .int 0, .int 0]))]) hP hD [12] [0, 1, 2, 3, 4, 5, 6, 7, 8, 9, 10, 11] rfl rfl (by decide) (by decide) hk1 hFc hP1 hD1
  generalize H1 = H at hP hS ⊢
  have hP : va_P (dC, dI) vwCl [(pa, .inr (3, [.ref p_v, .int 0, .ref p_st, .ref p_ib, .ref p_di, .ref p_wa, .ref p_se, .ref p_vh, .ref p_re])), (b0, .inl (cI, 6, .inl zi)), (b1, .inl (cZ, 6, .inl zi)), (b4, .inl (cI, 4, .inl zi)), (p_v, .inl (cI, 4, .inl zi)), (p_st, .inl (cI, 4, .inl zi)), (p_ib, .inl (cZ, 4, .inl zi)), (p_di, .inl (cI, 4, .inl zi)), (p_wa, .inl (cI, 4, .inl zi)), (p_se, .inl (cI, 4, .inl zi)), (ou, .inl (cJ, 1, .inr (.inl zl))), (od, .inl (cD, 1, .inr (.inr (.inr (.inl zd))))), (mm, .inr (10, [.int 1, .ref pl, .ref ig, .ref sl, .ref kl, .int 0, .int 0, .int 0]))] H := hP
  have hD : va_D A [(pa, .inr (3, [.ref p_v, .int 0, .ref p_st, .ref p_ib, .ref p_di, .ref p_wa, .ref p_se, .ref p_vh, .ref p_re])), (b0, .inl (cI, 6, .inl zi)), (b1, .inl (cZ, 6, .inl zi)), (b4, .inl (cI, 4, .inl zi)), (p_v, .inl (cI, 4, .inl zi)), (p_st, .inl (cI, 4, .inl zi)), (p_ib, .inl (cZ, 4, .inl zi)), (p_di, .inl (cI, 4, .inl zi)), (p_wa, .inl (cI, 4, .inl zi)), (p_se, .inl (cI, 4, .inl zi)), (ou, .inl (cJ, 1, .inr (.inl zl))), (od, .inl (cD, 1, .inr (.inr (.inr (.inl zd))))), (mm, .inr (10, [.int 1, .ref pl, .ref ig, .ref sl, .ref kl, .int 0, .int 0, .int 0]))] := hD
  refine W.widen (k := 119) (n := 756) (Nat.le_refl _) (Nat.le_refl _) ?_
  have hw : r_10 = 1 := hw
  subst hw
  refine lv_iload hx hb dL_law_1818 (lv_at hl 1 rfl) ?_
  refine lv_icmp_eq (tgt := 1825) hx hb dL_law_1820 (by decide) (fun _ => ?_) (fun h9 => absurd h9 (by decide))
  refine lv_iload hx hb dL_law_1825 (lv_at hl 1 rfl) ?_
  refine lv_if_ne (tgt := 1842) hx hb dL_law_1827 (by decide) (fun _ => ?_) (fun h9 => absurd h9 (by decide))
  refine lv_goto (tgt := 2007) hx hb dL_law_1842 (by decide) ?_
  exact law_tail l C0 hAe hS (lv_sub hl [2, 7] rfl) (Nat.le_of_ble_eq_true rfl) (Nat.le_of_ble_eq_true rfl)

set_option maxHeartbeats 4000000 in
set_option maxRecDepth 100000 in
theorem case_wouldWin {p : Program} {e : Env} {s : State} {m : MethodId} {below : List Frame} {meth : Method} {c : Code} (l : Launch) (hfl : l.stackTraces = false) {b : Nat} {xs : Nat → Int32} (C0 : lw_At p s m meth c b 5 xs) {dz tc : Nat} {ad : Nat → Nat} (hLX : lx_ (fun q : Nat => s.heap.size ≤ q) dz tc ad s) (dC : Nat → ClassId) (dI : Nat → Nat → Nat) {x : Nat} {po : Nat} {tr : Nat} {sp : Nat} {bx : Nat} {b0 : Nat} {b1 : Nat} {b4 : Nat} {b6 : Nat} {pa : Nat} {p_v : Nat} {p_st : Nat} {p_ib : Nat} {p_di : Nat} {p_wa : Nat} {p_se : Nat} {p_vh : Nat} {p_re : Nat} {mm : Nat} {pl : Nat} {ig : Nat} {sl : Nat} {kl : Nat} {ou : Nat} {od : Nat} {cI : ClassId} {cZ : ClassId} {cJ : ClassId} {cD : ClassId} {H : Heap} {locs : List Loc} {ls : Array Slot} (hK : va_K (dC, dI) vwCl [(cI, .int), (cZ, .boolean), (cJ, .long), (cD, .double)] s) (hP : va_P (dC, dI) vwCl [(x, .inr (7, [.ref bx, .ref po, .ref tr, .ref pa, .ref sp])), (bx, .inr (2, [.ref b0, .ref b1, .int 0, .int 0, .ref b4, .int 0, .ref b6, .int 0, .int 0, .int 0, .int 0])), (pa, .inr (3, [.ref p_v, .int 0, .ref p_st, .ref p_ib, .ref p_di, .ref p_wa, .ref p_se, .ref p_vh, .ref p_re])), (b0, .inl (cI, 6, .inl zi)), (b1, .inl (cZ, 6, .inl zi)), (b4, .inl (cI, 4, .inl zi)), (p_v, .inl (cI, 4, .inl zi)), (p_st, .inl (cI, 4, .inl zi)), (p_ib, .inl (cZ, 4, .inl zi)), (p_di, .inl (cI, 4, .inl zi)), (p_wa, .inl (cI, 4, .inl zi)), (p_se, .inl (cI, 4, .inl zi)), (mm, .inr (10, [.int 0, .ref pl, .ref ig, .ref sl, .ref kl, .int 0, .int 0, .int 0])), (pl, .inr (1, [.int 0, .ref dz, .int 0])), (sl, .inr (1, [.int 0, .ref dz, .int 0])), (kl, .inr (1, [.int 0, .ref dz, .int 0])), (ou, .inl (cJ, 1, .inr (.inl zl))), (od, .inl (cD, 1, .inr (.inr (.inr (.inl zd)))))] H) (hD : va_D (fun q : Nat => s.heap.size ≤ q) [(x, .inr (7, [.ref bx, .ref po, .ref tr, .ref pa, .ref sp])), (bx, .inr (2, [.ref b0, .ref b1, .int 0, .int 0, .ref b4, .int 0, .ref b6, .int 0, .int 0, .int 0, .int 0])), (pa, .inr (3, [.ref p_v, .int 0, .ref p_st, .ref p_ib, .ref p_di, .ref p_wa, .ref p_se, .ref p_vh, .ref p_re])), (b0, .inl (cI, 6, .inl zi)), (b1, .inl (cZ, 6, .inl zi)), (b4, .inl (cI, 4, .inl zi)), (p_v, .inl (cI, 4, .inl zi)), (p_st, .inl (cI, 4, .inl zi)), (p_ib, .inl (cZ, 4, .inl zi)), (p_di, .inl (cI, 4, .inl zi)), (p_wa, .inl (cI, 4, .inl zi)), (p_se, .inl (cI, 4, .inl zi)), (mm, .inr (10, [.int 0, .ref pl, .ref ig, .ref sl, .ref kl, .int 0, .int 0, .int 0])), (pl, .inr (1, [.int 0, .ref dz, .int 0])), (sl, .inr (1, [.int 0, .ref dz, .int 0])), (kl, .inr (1, [.int 0, .ref dz, .int 0])), (ou, .inl (cJ, 1, .inr (.inl zl))), (od, .inl (cD, 1, .inr (.inr (.inr (.inl zd)))))]) (hS : va_S (fun q : Nat => s.heap.size ≤ q) s.heap H locs) (hl : lv_has ls 9 [(5, .int 0), (4, .ref od), (3, .ref ou), (2, .ref mm), (1, .ref x), (0, .ref b)]) : W p l e room_1 s m #[Value.ref b] below meth c H locs 118 750 (lw_Z below #[Value.ref b] s) (F0 m 1845 ls []) := by
  obtain ⟨hx, hb, hr, hml, hown, hts0, hX, hbl, hlocks, hgv⟩ := id C0
  have hts : ∀ w ∈ lw_tbl, w.before #[Value.ref b] s = true := hts0
  have hbA : ¬ (fun q : Nat => s.heap.size ≤ q) b := Nat.not_le.mpr hbl
  have hA : ∀ q : Nat, s.heap.size ≤ q → (fun q : Nat => s.heap.size ≤ q) q := fun _ h => h
  generalize hAe : (fun q : Nat => s.heap.size ≤ q) = A at hD hS hbA hA hLX
  obtain ⟨a1, h_a1⟩ : ∃ z, z = xs ((1 : Int32).toNatClampNeg) := ⟨_, rfl⟩
  obtain ⟨a2, h_a2⟩ : ∃ z, z = xs ((2 : Int32).toNatClampNeg) := ⟨_, rfl⟩
  obtain ⟨a3, h_a3⟩ : ∃ z, z = xs ((3 : Int32).toNatClampNeg) := ⟨_, rfl⟩
  obtain ⟨a4, h_a4⟩ : ∃ z, z = xs ((4 : Int32).toNatClampNeg) := ⟨_, rfl⟩
  refine lv_aload_n hx hb dL_law_1845 rfl (lv_at hl 4 rfl) ?_
  refine lv_aload_n hx hb dL_law_1846 rfl (lv_at hl 5 rfl) ?_
  refine lv_iload hx hb dL_law_1847 (lv_at hl 0 rfl) ?_
  refine lv_iconst (v := 1) hx hb dL_law_1849 (by decide) ?_
  refine lv_iadd hx hb dL_law_1850 ?_
  refine lv_topi (fun y_1 ey_1 => ?_)
  obtain rfl : y_1 = 1 := ey_1.trans (by decide)
  refine va_sld hx hb hX hbl hbA hS (by unfold vp_in; decide) dL_law_1851 ?_
  refine lv_topi (fun y_2 ey_2 => ?_)
  obtain rfl : a1 = y_2 := (ey_2.trans h_a1.symm).symm
  refine lv_aload_n hx hb dL_law_1852 rfl (lv_at hl 5 rfl) ?_
  refine lv_iload hx hb dL_law_1853 (lv_at hl 0 rfl) ?_
  refine lv_iconst (v := 2) hx hb dL_law_1855 (by decide) ?_
  refine lv_iadd hx hb dL_law_1856 ?_
  refine lv_topi (fun y_3 ey_3 => ?_)
  obtain rfl : y_3 = 2 := ey_3.trans (by decide)
  refine va_sld hx hb hX hbl hbA hS (by unfold vp_in; decide) dL_law_1857 ?_
  refine lv_topi (fun y_4 ey_4 => ?_)
  obtain rfl : a2 = y_4 := (ey_4.trans h_a2.symm).symm
  refine lv_aload_n hx hb dL_law_1858 rfl (lv_at hl 5 rfl) ?_
  refine lv_iload hx hb dL_law_1859 (lv_at hl 0 rfl) ?_
  refine lv_iconst (v := 3) hx hb dL_law_1861 (by decide) ?_
  refine lv_iadd hx hb dL_law_1862 ?_
  refine lv_topi (fun y_5 ey_5 => ?_)
  obtain rfl : y_5 = 3 := ey_5.trans (by decide)
  refine va_sld hx hb hX hbl hbA hS (by unfold vp_in; decide) dL_law_1863 ?_
  refine lv_topi (fun y_6 ey_6 => ?_)
  obtain rfl : a3 = y_6 := (ey_6.trans h_a3.symm).symm
  refine lv_aload_n hx hb dL_law_1864 rfl (lv_at hl 2 rfl) ?_
  have hPc := hP.sub (ws' := [(x, .inr (7, [.ref bx, .ref po, .ref tr, .ref pa, .ref sp])), (bx, .inr (2, [.ref b0, .ref b1, .int 0, .int 0, .ref b4, .int 0, .ref b6, .int 0, .int 0, .int 0, .int 0]))]) [0, 1] rfl
  have hDc := hD.sub (ws' := [(x, .inr (7, [.ref bx, .ref po, .ref tr, .ref pa, .ref sp])), (bx, .inr (2, [.ref b0, .ref b1, .int 0, .int 0, .ref b4, .int 0, .ref b6, .int 0, .int 0, .int 0, .int 0]))]) [0, 1] (by decide) rfl
  have hKc := hK.sub (tys' := []) [] rfl
  have hFc := va_free (wc := [(x, .inr (7, [.ref bx, .ref po, .ref tr, .ref pa, .ref sp])), (bx, .inr (2, [.ref b0, .ref b1, .int 0, .int 0, .ref b4, .int 0, .ref b6, .int 0, .int 0, .int 0, .int 0]))]) hD hS hA [0, 1] rfl
  refine va_calli (vx_runSW (As := [.ref x, .int a1, .int a2, .int a3, .ref ou]) (rest := []) ⟨hx, hb, hml, hown, hts⟩ (h0_L_wouldWin l hfl dC dI x po tr sp pa bx b0 b1 b4 b6 a1 a2 a3 ou ((lx_s301 hLX).choose) ((lx_s301 hLX).choose_spec.choose) _ ) (vx_cwSW 5 hts gL_law_L_wouldWin rfl rfl rfl (by decide +kernel) ⟨Nat.le_of_ble_eq_true rfl, Nat.le_of_ble_eq_true rfl⟩) ⟨pn_blind (fun _ _ _ _ h => h), fun U hU hW => ⟨rfl, pr_mk hU hW hPc hKc hDc, xs_mk hU hW hS hFc (lx_xo hLX (lx_s301 hLX).choose_spec.choose_spec), trivial⟩⟩ rfl rfl hl.1 rfl (lv_room (Nat.le_of_ble_eq_true rfl)) dL_law_1865 ⟨Nat.le_of_ble_eq_true rfl, Nat.le_of_ble_eq_true rfl⟩) hS (fun q _ h => hFc q h) hFc (fun r_8 u_7 t H1 locs ht hvm hw hB hz1 hk1 hS => ?_)
  obtain ⟨hP1, hK1, hD1⟩ := hB
  rw [ht] at hP1
  obtain ⟨hP, hD⟩ := va_join (wr := [(pa, .inr (3, [.ref p_v, .int 0, .ref p_st, .ref p_ib, .ref p_di, .ref p_wa, .ref p_se, .ref p_vh, .ref p_re])), (b0, .inl (cI, 6, .inl zi)), (b1, .inl (cZ, 6, .inl zi)), (b4, .inl (cI, 4, .inl zi)), (p_v, .inl (cI, 4, .inl zi)), (p_st, .inl (cI, 4, .inl zi)), (p_ib, .inl (cZ, 4, .inl zi)), (p_di, .inl (cI, 4, .inl zi)), (p_wa, .inl (cI, 4, .inl zi)), (p_se, .inl (cI, 4, .inl zi)), (mm, .inr (10, [.int 0, .ref pl, .ref ig, .ref sl, .ref kl, .int 0, .int 0, .int 0])), (pl, .inr (1, [.int 0, .ref dz, .int 0])), (sl, .inr (1, [.int 0, .ref dz, .int 0])), (kl, .inr (1, [.int 0, .ref dz, .int 0])), (ou, .inl (cJ, 1, .inr (.inl zl))), (od, .inl (cD, 1, .inr (.inr (.inr (.inl zd)))))]) (w1 := []) hP hD [0, 1] [2, 3, 4, 5, 6, 7, 8, 9, 10, 11, 12, 13, 14, 15, 16, 17] rfl rfl (by decide) (by decide) hk1 hFc hP1 hD1
  generalize H1 = H at hP hS ⊢
  have hP : va_P (dC, dI) vwCl [(pa, .inr (3, [.ref p_v, .int 0, .ref p_st, .ref p_ib, .ref p_di, .ref p_wa, .ref p_se, .ref p_vh, .ref p_re])), (b0, .inl (cI, 6, .inl zi)), (b1, .inl (cZ, 6, .inl zi)), (b4, .inl (cI, 4, .inl zi)), (p_v, .inl (cI, 4, .inl zi)), (p_st, .inl (cI, 4, .inl zi)), (p_ib, .inl (cZ, 4, .inl zi)), (p_di, .inl (cI, 4, .inl zi)), (p_wa, .inl (cI, 4, .inl zi)), (p_se, .inl (cI, 4, .inl zi)), (mm, .inr (10, [.int 0, .ref pl, .ref ig, .ref sl, .ref kl, .int 0, .int 0, .int 0])), (pl, .inr (1, [.int 0, .ref dz, .int 0])), (sl, .inr (1, [.int 0, .ref dz, .int 0])), (kl, .inr (1, [.int 0, .ref dz, .int 0])), (ou, .inl (cJ, 1, .inr (.inl zl))), (od, .inl (cD, 1, .inr (.inr (.inr (.inl zd)))))] H := hP
  have hD : va_D A [(pa, .inr (3, [.ref p_v, .int 0, .ref p_st, .ref p_ib, .ref p_di, .ref p_wa, .ref p_se, .ref p_vh, .ref p_re])), (b0, .inl (cI, 6, .inl zi)), (b1, .inl (cZ, 6, .inl zi)), (b4, .inl (cI, 4, .inl zi)), (p_v, .inl (cI, 4, .inl zi)), (p_st, .inl (cI, 4, .inl zi)), (p_ib, .inl (cZ, 4, .inl zi)), (p_di, .inl (cI, 4, .inl zi)), (p_wa, .inl (cI, 4, .inl zi)), (p_se, .inl (cI, 4, .inl zi)), (mm, .inr (10, [.int 0, .ref pl, .ref ig, .ref sl, .ref kl, .int 0, .int 0, .int 0])), (pl, .inr (1, [.int 0, .ref dz, .int 0])), (sl, .inr (1, [.int 0, .ref dz, .int 0])), (kl, .inr (1, [.int 0, .ref dz, .int 0])), (ou, .inl (cJ, 1, .inr (.inl zl))), (od, .inl (cD, 1, .inr (.inr (.inr (.inl zd)))))] := hD
  refine W.widen (k := 119) (n := 756) (Nat.le_of_ble_eq_true rfl) (Nat.le_of_ble_eq_true rfl) ?_
  have hw : r_8 = 1 := hw
  subst hw
  refine lv_istore (lv' := [(6, .int 1), (5, .int 0), (4, .ref od), (3, .ref ou), (2, .ref mm), (1, .ref x), (0, .ref b)]) hx hb dL_law_1868 hl (by decide) rfl (fun ls hl => ?_)
  refine lv_aload_n hx hb dL_law_1870 rfl (lv_at hl 4 rfl) ?_
  refine lv_aload_n hx hb dL_law_1871 rfl (lv_at hl 6 rfl) ?_
  refine lv_iload hx hb dL_law_1872 (lv_at hl 1 rfl) ?_
  refine lv_iconst (v := 1) hx hb dL_law_1874 (by decide) ?_
  refine lv_iadd hx hb dL_law_1875 ?_
  refine lv_topi (fun y_9 ey_9 => ?_)
  obtain rfl : y_9 = 1 := ey_9.trans (by decide)
  refine va_sld hx hb hX hbl hbA hS (by unfold vp_in; decide) dL_law_1876 ?_
  refine lv_topi (fun y_10 ey_10 => ?_)
  obtain rfl : a1 = y_10 := (ey_10.trans h_a1.symm).symm
  refine lv_aload_n hx hb dL_law_1877 rfl (lv_at hl 6 rfl) ?_
  refine lv_iload hx hb dL_law_1878 (lv_at hl 1 rfl) ?_
  refine lv_iconst (v := 2) hx hb dL_law_1880 (by decide) ?_
  refine lv_iadd hx hb dL_law_1881 ?_
  refine lv_topi (fun y_11 ey_11 => ?_)
  obtain rfl : y_11 = 2 := ey_11.trans (by decide)
  refine va_sld hx hb hX hbl hbA hS (by unfold vp_in; decide) dL_law_1882 ?_
  refine lv_topi (fun y_12 ey_12 => ?_)
  obtain rfl : a2 = y_12 := (ey_12.trans h_a2.symm).symm
  refine lv_aload_n hx hb dL_law_1883 rfl (lv_at hl 6 rfl) ?_
  refine lv_iload hx hb dL_law_1884 (lv_at hl 1 rfl) ?_
  refine lv_iconst (v := 3) hx hb dL_law_1886 (by decide) ?_
  refine lv_iadd hx hb dL_law_1887 ?_
  refine lv_topi (fun y_13 ey_13 => ?_)
  obtain rfl : y_13 = 3 := ey_13.trans (by decide)
  refine va_sld hx hb hX hbl hbA hS (by unfold vp_in; decide) dL_law_1888 ?_
  refine lv_topi (fun y_14 ey_14 => ?_)
  obtain rfl : a3 = y_14 := (ey_14.trans h_a3.symm).symm
  have hPc := hP.sub (ws' := [(mm, .inr (10, [.int 0, .ref pl, .ref ig, .ref sl, .ref kl, .int 0, .int 0, .int 0])), (pl, .inr (1, [.int 0, .ref dz, .int 0])), (sl, .inr (1, [.int 0, .ref dz, .int 0])), (kl, .inr (1, [.int 0, .ref dz, .int 0]))]) [10, 11, 12, 13] rfl
  have hDc := hD.sub (ws' := [(mm, .inr (10, [.int 0, .ref pl, .ref ig, .ref sl, .ref kl, .int 0, .int 0, .int 0])), (pl, .inr (1, [.int 0, .ref dz, .int 0])), (sl, .inr (1, [.int 0, .ref dz, .int 0])), (kl, .inr (1, [.int 0, .ref dz, .int 0]))]) [10, 11, 12, 13] (by decide) rfl
  have hKc := hK.sub (tys' := []) [] rfl
  have hFc := va_free (wc := [(mm, .inr (10, [.int 0, .ref pl, .ref ig, .ref sl, .ref kl, .int 0, .int 0, .int 0])), (pl, .inr (1, [.int 0, .ref dz, .int 0])), (sl, .inr (1, [.int 0, .ref dz, .int 0])), (kl, .inr (1, [.int 0, .ref dz, .int 0]))]) hD hS hA [10, 11, 12, 13] rfl
  refine va_calli (va_runV (As := [.int a1, .int a2, .int a3]) (rest := []) ⟨hx, hb, hml, hown, hts⟩ (c_X8_wouldWin l dC dI mm pl ig sl kl dz a1 a2 a3 _ ) (cwV 3 hts gL_law_X8_wouldWin rfl rfl rfl (by decide +kernel) ⟨Nat.le_of_ble_eq_true rfl, Nat.le_of_ble_eq_true rfl⟩) ⟨pe_blind mo_bl, va_recv hKc hPc (ci := 10) (q0 := 0) rfl rfl, fun U hU hW => ⟨rfl, pr_mk hU hW hPc hKc hDc, mo_mk hW (lx_m hLX)⟩⟩ rfl rfl hl.1 rfl (lv_room (Nat.le_of_ble_eq_true rfl)) dL_law_1889 ⟨Nat.le_of_ble_eq_true rfl, Nat.le_of_ble_eq_true rfl⟩) hS (fun q _ h => hFc q h) hFc (fun r_16 u_15 t H1 locs ht hvm hw hB hz1 hk1 hS => ?_)
  obtain ⟨hP1, hK1, hD1⟩ := hB
  rw [ht] at hP1
  obtain ⟨hP, hD⟩ := va_join (wr := [(pa, .inr (3, [.ref p_v, .int 0, .ref p_st, .ref p_ib, .ref p_di, .ref p_wa, .ref p_se, .ref p_vh, .ref p_re])), (b0, .inl (cI, 6, .inl zi)), (b1, .inl (cZ, 6, .inl zi)), (b4, .inl (cI, 4, .inl zi)), (p_v, .inl (cI, 4, .inl zi)), (p_st, .inl (cI, 4, .inl zi)), (p_ib, .inl (cZ, 4, .inl zi)), (p_di, .inl (cI, 4, .inl zi)), (p_wa, .inl (cI, 4, .inl zi)), (p_se, .inl (cI, 4, .inl zi)), (ou, .inl (cJ, 1, .inr (.inl zl))), (od, .inl (cD, 1, .inr (.inr (.inr (.inl zd)))))]) (w1 := [(mm, .inr (10, [.int 1, .ref pl, .ref ig, .ref sl, .ref kl, .int 0, .int 0, .int 0]))]) hP hD [10, 11, 12, 13] [0, 1, 2, 3, 4, 5, 6, 7, 8, 9, 14, 15] rfl rfl (by decide) (by decide) hk1 hFc hP1 hD1
  generalize H1 = H at hP hS ⊢
  have hP : va_P (dC, dI) vwCl [(pa, .inr (3, [.ref p_v, .int 0, .ref p_st, .ref p_ib, .ref p_di, .ref p_wa, .ref p_se, .ref p_vh, .ref p_re])), (b0, .inl (cI, 6, .inl zi)), (b1, .inl (cZ, 6, .inl zi)), (b4, .inl (cI, 4, .inl zi)), (p_v, .inl (cI, 4, .inl zi)), (p_st, .inl (cI, 4, .inl zi)), (p_ib, .inl (cZ, 4, .inl zi)), (p_di, .inl (cI, 4, .inl zi)), (p_wa, .inl (cI, 4, .inl zi)), (p_se, .inl (cI, 4, .inl zi)), (ou, .inl (cJ, 1, .inr (.inl zl))), (od, .inl (cD, 1, .inr (.inr (.inr (.inl zd))))), (mm, .inr (10, [.int 1, .ref pl, .ref ig, .ref sl, .ref kl, .int 0, .int 0, .int 0]))] H := hP
  have hD : va_D A [(pa, .inr (3, [.ref p_v, .int 0, .ref p_st, .ref p_ib, .ref p_di, .ref p_wa, .ref p_se, .ref p_vh, .ref p_re])), (b0, .inl (cI, 6, .inl zi)), (b1, .inl (cZ, 6, .inl zi)), (b4, .inl (cI, 4, .inl zi)), (p_v, .inl (cI, 4, .inl zi)), (p_st, .inl (cI, 4, .inl zi)), (p_ib, .inl (cZ, 4, .inl zi)), (p_di, .inl (cI, 4, .inl zi)), (p_wa, .inl (cI, 4, .inl zi)), (p_se, .inl (cI, 4, .inl zi)), (ou, .inl (cJ, 1, .inr (.inl zl))), (od, .inl (cD, 1, .inr (.inr (.inr (.inl zd))))), (mm, .inr (10, [.int 1, .ref pl, .ref ig, .ref sl, .ref kl, .int 0, .int 0, .int 0]))] := hD
  refine W.widen (k := 119) (n := 756) (Nat.le_refl _) (Nat.le_refl _) ?_
  have hw : r_16 = 0 := hw
  subst hw
  refine lv_istore (lv' := [(7, .int 0), (6, .int 1), (5, .int 0), (4, .ref od), (3, .ref ou), (2, .ref mm), (1, .ref x), (0, .ref b)]) hx hb dL_law_1892 hl (by decide) rfl (fun ls hl => ?_)
  refine lv_aload_n hx hb dL_law_1894 rfl (lv_at hl 5 rfl) ?_
  have hPc := hP.sub (ws' := [(mm, .inr (10, [.int 1, .ref pl, .ref ig, .ref sl, .ref kl, .int 0, .int 0, .int 0]))]) [12] rfl
  have hDc := hD.sub (ws' := [(mm, .inr (10, [.int 1, .ref pl, .ref ig, .ref sl, .ref kl, .int 0, .int 0, .int 0]))]) [12] (by decide) rfl
  have hKc := hK.sub (tys' := []) [] rfl
  have hFc := va_free (wc := [(mm, .inr (10, [.int 1, .ref pl, .ref ig, .ref sl, .ref kl, .int 0, .int 0, .int 0]))]) hD hS hA [12] rfl
  refine va_calli (va_runV (As := []) (rest := []) ⟨hx, hb, hml, hown, hts⟩ (c_X8_thrown l dC dI mm pl ig sl kl (1 : Int32) (0 : Int32) (0 : Int32) (0 : Int32) _ ) (cwV 0 hts gL_law_X8_thrown rfl rfl rfl (by decide +kernel) ⟨Nat.le_of_ble_eq_true rfl, Nat.le_of_ble_eq_true rfl⟩) ⟨pr_blind, va_recv hKc hPc (ci := 10) (q0 := 0) rfl rfl, fun U hU hW => ⟨rfl, pr_mk hU hW hPc hKc hDc⟩⟩ rfl rfl hl.1 rfl (lv_room (Nat.le_of_ble_eq_true rfl)) dL_law_1895 ⟨Nat.le_of_ble_eq_true rfl, Nat.le_of_ble_eq_true rfl⟩) hS (fun q _ h => hFc q h) hFc (fun r_18 u_17 t H1 locs ht hvm hw hB hz1 hk1 hS => ?_)
  obtain ⟨hP1, hK1, hD1⟩ := hB
  rw [ht] at hP1
  obtain ⟨hP, hD⟩ := va_join (wr := [(pa, .inr (3, [.ref p_v, .int 0, .ref p_st, .ref p_ib, .ref p_di, .ref p_wa, .ref p_se, .ref p_vh, .ref p_re])), (b0, .inl (cI, 6, .inl zi)), (b1, .inl (cZ, 6, .inl zi)), (b4, .inl (cI, 4, .inl zi)), (p_v, .inl (cI, 4, .inl zi)), (p_st, .inl (cI, 4, .inl zi)), (p_ib, .inl (cZ, 4, .inl zi)), (p_di, .inl (cI, 4, .inl zi)), (p_wa, .inl (cI, 4, .inl zi)), (p_se, .inl (cI, 4, .inl zi)), (ou, .inl (cJ, 1, .inr (.inl zl))), (od, .inl (cD, 1, .inr (.inr (.inr (.inl zd)))))]) (w1 := [(mm, .inr (10, [.int 1, .ref pl, .ref ig, .ref sl, .ref kl, .int 0, .int 0, .int 0]))]) hP hD [12] [0, 1, 2, 3, 4, 5, 6, 7, 8, 9, 10, 11] rfl rfl (by decide) (by decide) hk1 hFc hP1 hD1
  generalize H1 = H at hP hS ⊢
  have hP : va_P (dC, dI) vwCl [(pa, .inr (3, [.ref p_v, .int 0, .ref p_st, .ref p_ib, .ref p_di, .ref p_wa, .ref p_se, .ref p_vh, .ref p_re])), (b0, .inl (cI, 6, .inl zi)), (b1, .inl (cZ, 6, .inl zi)), (b4, .inl (cI, 4, .inl zi)), (p_v, .inl (cI, 4, .inl zi)), (p_st, .inl (cI, 4, .inl zi)), (p_ib, .inl (cZ, 4, .inl zi)), (p_di, .inl (cI, 4, .inl zi)), (p_wa, .inl (cI, 4, .inl zi)), (p_se, .inl (cI, 4, .inl zi)), (ou, .inl (cJ, 1, .inr (.inl zl))), (od, .inl (cD, 1, .inr (.inr (.inr (.inl zd))))), (mm, .inr (10, [.int 1, .ref pl, .ref ig, .ref sl, .ref kl, .int 0, .int 0, .int 0]))] H := hP
  have hD : va_D A [(pa, .inr (3, [.ref p_v, .int 0, .ref p_st, .ref p_ib, .ref p_di, .ref p_wa, .ref p_se, .ref p_vh, .ref p_re])), (b0, .inl (cI, 6, .inl zi)), (b1, .inl (cZ, 6, .inl zi)), (b4, .inl (cI, 4, .inl zi)), (p_v, .inl (cI, 4, .inl zi)), (p_st, .inl (cI, 4, .inl zi)), (p_ib, .inl (cZ, 4, .inl zi)), (p_di, .inl (cI, 4, .inl zi)), (p_wa, .inl (cI, 4, .inl zi)), (p_se, .inl (cI, 4, .inl zi)), (ou, .inl (cJ, 1, .inr (.inl zl))), (od, .inl (cD, 1, .inr (.inr (.inr (.inl zd))))), (mm, .inr (10, [.int 1, .ref pl, .ref ig, .ref sl, .ref kl, .int 0, .int 0, .int 0]))] := hD
  refine W.widen (k := 119) (n := 756) (Nat.le_refl _) (Nat.le_refl _) ?_
  have hw : r_18 = 1 := hw
  subst hw
  refine lv_iload hx hb dL_law_1898 (lv_at hl 1 rfl) ?_
  refine lv_icmp_eq (tgt := 1905) hx hb dL_law_1900 (by decide) (fun _ => ?_) (fun h9 => absurd h9 (by decide))
  refine lv_iload hx hb dL_law_1905 (lv_at hl 1 rfl) ?_
  refine lv_if_ne (tgt := 1922) hx hb dL_law_1907 (by decide) (fun _ => ?_) (fun h9 => absurd h9 (by decide))
  refine lv_goto (tgt := 2007) hx hb dL_law_1922 (by decide) ?_
  exact law_tail l C0 hAe hS (lv_sub hl [2, 7] rfl) (Nat.le_of_ble_eq_true rfl) (Nat.le_of_ble_eq_true rfl)

set_option maxHeartbeats 4000000 in
set_option maxRecDepth 100000 in
theorem case_lie {p : Program} {e : Env} {s : State} {m : MethodId} {below : List Frame} {meth : Method} {c : Code} (l : Launch) (hfl : l.stackTraces = false) {b : Nat} {xs : Nat → Int32} (C0 : lw_At p s m meth c b 5 xs) {dz tc : Nat} {ad : Nat → Nat} (hLX : lx_ (fun q : Nat => s.heap.size ≤ q) dz tc ad s) (dC : Nat → ClassId) (dI : Nat → Nat → Nat) {x : Nat} {po : Nat} {tr : Nat} {sp : Nat} {bx : Nat} {b0 : Nat} {b1 : Nat} {b4 : Nat} {b6 : Nat} {pa : Nat} {p_v : Nat} {p_st : Nat} {p_ib : Nat} {p_di : Nat} {p_wa : Nat} {p_se : Nat} {p_vh : Nat} {p_re : Nat} {mm : Nat} {pl : Nat} {ig : Nat} {sl : Nat} {kl : Nat} {ou : Nat} {od : Nat} {cI : ClassId} {cZ : ClassId} {cJ : ClassId} {cD : ClassId} {H : Heap} {locs : List Loc} {ls : Array Slot} (hK : va_K (dC, dI) vwCl [(cI, .int), (cZ, .boolean), (cJ, .long), (cD, .double)] s) (hP : va_P (dC, dI) vwCl [(x, .inr (7, [.ref bx, .ref po, .ref tr, .ref pa, .ref sp])), (bx, .inr (2, [.ref b0, .ref b1, .int 0, .int 0, .ref b4, .int 0, .ref b6, .int 0, .int 0, .int 0, .int 0])), (pa, .inr (3, [.ref p_v, .int 0, .ref p_st, .ref p_ib, .ref p_di, .ref p_wa, .ref p_se, .ref p_vh, .ref p_re])), (b0, .inl (cI, 6, .inl zi)), (b1, .inl (cZ, 6, .inl zi)), (b4, .inl (cI, 4, .inl zi)), (p_v, .inl (cI, 4, .inl zi)), (p_st, .inl (cI, 4, .inl zi)), (p_ib, .inl (cZ, 4, .inl zi)), (p_di, .inl (cI, 4, .inl zi)), (p_wa, .inl (cI, 4, .inl zi)), (p_se, .inl (cI, 4, .inl zi)), (mm, .inr (10, [.int 0, .ref pl, .ref ig, .ref sl, .ref kl, .int 0, .int 0, .int 0])), (pl, .inr (1, [.int 0, .ref dz, .int 0])), (sl, .inr (1, [.int 0, .ref dz, .int 0])), (kl, .inr (1, [.int 0, .ref dz, .int 0])), (ou, .inl (cJ, 1, .inr (.inl zl))), (od, .inl (cD, 1, .inr (.inr (.inr (.inl zd)))))] H) (hD : va_D (fun q : Nat => s.heap.size ≤ q) [(x, .inr (7, [.ref bx, .ref po, .ref tr, .ref pa, .ref sp])), (bx, .inr (2, [.ref b0, .ref b1, .int 0, .int 0, .ref b4, .int 0, .ref b6, .int 0, .int 0, .int 0, .int 0])), (pa, .inr (3, [.ref p_v, .int 0, .ref p_st, .ref p_ib, .ref p_di, .ref p_wa, .ref p_se, .ref p_vh, .ref p_re])), (b0, .inl (cI, 6, .inl zi)), (b1, .inl (cZ, 6, .inl zi)), (b4, .inl (cI, 4, .inl zi)), (p_v, .inl (cI, 4, .inl zi)), (p_st, .inl (cI, 4, .inl zi)), (p_ib, .inl (cZ, 4, .inl zi)), (p_di, .inl (cI, 4, .inl zi)), (p_wa, .inl (cI, 4, .inl zi)), (p_se, .inl (cI, 4, .inl zi)), (mm, .inr (10, [.int 0, .ref pl, .ref ig, .ref sl, .ref kl, .int 0, .int 0, .int 0])), (pl, .inr (1, [.int 0, .ref dz, .int 0])), (sl, .inr (1, [.int 0, .ref dz, .int 0])), (kl, .inr (1, [.int 0, .ref dz, .int 0])), (ou, .inl (cJ, 1, .inr (.inl zl))), (od, .inl (cD, 1, .inr (.inr (.inr (.inl zd)))))]) (hS : va_S (fun q : Nat => s.heap.size ≤ q) s.heap H locs) (hl : lv_has ls 9 [(5, .int 0), (4, .ref od), (3, .ref ou), (2, .ref mm), (1, .ref x), (0, .ref b)]) : W p l e room_1 s m #[Value.ref b] below meth c H locs 118 750 (lw_Z below #[Value.ref b] s) (F0 m 1925 ls []) := by
  obtain ⟨hx, hb, hr, hml, hown, hts0, hX, hbl, hlocks, hgv⟩ := id C0
  have hts : ∀ w ∈ lw_tbl, w.before #[Value.ref b] s = true := hts0
  have hbA : ¬ (fun q : Nat => s.heap.size ≤ q) b := Nat.not_le.mpr hbl
  have hA : ∀ q : Nat, s.heap.size ≤ q → (fun q : Nat => s.heap.size ≤ q) q := fun _ h => h
  generalize hAe : (fun q : Nat => s.heap.size ≤ q) = A at hD hS hbA hA hLX
  obtain ⟨a1, h_a1⟩ : ∃ z, z = xs ((1 : Int32).toNatClampNeg) := ⟨_, rfl⟩
  obtain ⟨a2, h_a2⟩ : ∃ z, z = xs ((2 : Int32).toNatClampNeg) := ⟨_, rfl⟩
  obtain ⟨a3, h_a3⟩ : ∃ z, z = xs ((3 : Int32).toNatClampNeg) := ⟨_, rfl⟩
  obtain ⟨a4, h_a4⟩ : ∃ z, z = xs ((4 : Int32).toNatClampNeg) := ⟨_, rfl⟩
  refine lv_aload_n hx hb dL_law_1925 rfl (lv_at hl 4 rfl) ?_
  refine lv_aload_n hx hb dL_law_1926 rfl (lv_at hl 5 rfl) ?_
  refine lv_iload hx hb dL_law_1927 (lv_at hl 0 rfl) ?_
  refine lv_iconst (v := 1) hx hb dL_law_1929 (by decide) ?_
  refine lv_iadd hx hb dL_law_1930 ?_
  refine lv_topi (fun y_1 ey_1 => ?_)
  obtain rfl : y_1 = 1 := ey_1.trans (by decide)
  refine va_sld hx hb hX hbl hbA hS (by unfold vp_in; decide) dL_law_1931 ?_
  refine lv_topi (fun y_2 ey_2 => ?_)
  obtain rfl : a1 = y_2 := (ey_2.trans h_a1.symm).symm
  refine lv_aload_n hx hb dL_law_1932 rfl (lv_at hl 5 rfl) ?_
  refine lv_iload hx hb dL_law_1933 (lv_at hl 0 rfl) ?_
  refine lv_iconst (v := 2) hx hb dL_law_1935 (by decide) ?_
  refine lv_iadd hx hb dL_law_1936 ?_
  refine lv_topi (fun y_3 ey_3 => ?_)
  obtain rfl : y_3 = 2 := ey_3.trans (by decide)
  refine va_sld hx hb hX hbl hbA hS (by unfold vp_in; decide) dL_law_1937 ?_
  refine lv_topi (fun y_4 ey_4 => ?_)
  obtain rfl : a2 = y_4 := (ey_4.trans h_a2.symm).symm
  refine lv_aload_n hx hb dL_law_1938 rfl (lv_at hl 2 rfl) ?_
  have hPc := hP.sub (ws' := [(x, .inr (7, [.ref bx, .ref po, .ref tr, .ref pa, .ref sp])), (bx, .inr (2, [.ref b0, .ref b1, .int 0, .int 0, .ref b4, .int 0, .ref b6, .int 0, .int 0, .int 0, .int 0]))]) [0, 1] rfl
  have hDc := hD.sub (ws' := [(x, .inr (7, [.ref bx, .ref po, .ref tr, .ref pa, .ref sp])), (bx, .inr (2, [.ref b0, .ref b1, .int 0, .int 0, .ref b4, .int 0, .ref b6, .int 0, .int 0, .int 0, .int 0]))]) [0, 1] (by decide) rfl
  have hKc := hK.sub (tys' := []) [] rfl
  have hFc := va_free (wc := [(x, .inr (7, [.ref bx, .ref po, .ref tr, .ref pa, .ref sp])), (bx, .inr (2, [.ref b0, .ref b1, .int 0, .int 0, .ref b4, .int 0, .ref b6, .int 0, .int 0, .int 0, .int 0]))]) hD hS hA [0, 1] rfl
  refine va_calli (vx_runSW (As := [.ref x, .int a1, .int a2, .ref ou]) (rest := []) ⟨hx, hb, hml, hown, hts⟩ (h0_L_lie l hfl dC dI x po tr sp pa bx b0 b1 b4 b6 a1 a2 ou ((lx_s301 hLX).choose) ((lx_s301 hLX).choose_spec.choose) _ ) (vx_cwSW 4 hts gL_law_L_lie rfl rfl rfl (by decide +kernel) ⟨Nat.le_of_ble_eq_true rfl, Nat.le_of_ble_eq_true rfl⟩) ⟨pn_blind (fun _ _ _ _ h => h), fun U hU hW => ⟨rfl, pr_mk hU hW hPc hKc hDc, xs_mk hU hW hS hFc (lx_xo hLX (lx_s301 hLX).choose_spec.choose_spec), trivial⟩⟩ rfl rfl hl.1 rfl (lv_room (Nat.le_of_ble_eq_true rfl)) dL_law_1939 ⟨Nat.le_of_ble_eq_true rfl, Nat.le_of_ble_eq_true rfl⟩) hS (fun q _ h => hFc q h) hFc (fun r_6 u_5 t H1 locs ht hvm hw hB hz1 hk1 hS => ?_)
  obtain ⟨hP1, hK1, hD1⟩ := hB
  rw [ht] at hP1
  obtain ⟨hP, hD⟩ := va_join (wr := [(pa, .inr (3, [.ref p_v, .int 0, .ref p_st, .ref p_ib, .ref p_di, .ref p_wa, .ref p_se, .ref p_vh, .ref p_re])), (b0, .inl (cI, 6, .inl zi)), (b1, .inl (cZ, 6, .inl zi)), (b4, .inl (cI, 4, .inl zi)), (p_v, .inl (cI, 4, .inl zi)), (p_st, .inl (cI, 4, .inl zi)), (p_ib, .inl (cZ, 4, .inl zi)), (p_di, .inl (cI, 4, .inl zi)), (p_wa, .inl (cI, 4, .inl zi)), (p_se, .inl (cI, 4, .inl zi)), (mm, .inr (10, [.int 0, .ref pl, .ref ig, .ref sl, .ref kl, .int 0, .int 0, .int 0])), (pl, .inr (1, [.int 0, .ref dz, .int 0])), (sl, .inr (1, [.int 0, .ref dz, .int 0])), (kl, .inr (1, [.int 0, .ref dz, .int 0])), (ou, .inl (cJ, 1, .inr (.inl zl))), (od, .inl (cD, 1, .inr (.inr (.inr (.inl zd)))))]) (w1 := []) hP hD [0, 1] [2, 3, 4, 5, 6, 7, 8, 9, 10, 11, 12, 13, 14, 15, 16, 17] rfl rfl (by decide) (by decide) hk1 hFc hP1 hD1
  generalize H1 = H at hP hS ⊢
  have hP : va_P (dC, dI) vwCl [(pa, .inr (3, [.ref p_v, .int 0, .ref p_st, .ref p_ib, .ref p_di, .ref p_wa, .ref p_se, .ref p_vh, .ref p_re])), (b0, .inl (cI, 6, .inl zi)), (b1, .inl (cZ, 6, .inl zi)), (b4, .inl (cI, 4, .inl zi)), (p_v, .inl (cI, 4, .inl zi)), (p_st, .inl (cI, 4, .inl zi)), (p_ib, .inl (cZ, 4, .inl zi)), (p_di, .inl (cI, 4, .inl zi)), (p_wa, .inl (cI, 4, .inl zi)), (p_se, .inl (cI, 4, .inl zi)), (mm, .inr (10, [.int 0, .ref pl, .ref ig, .ref sl, .ref kl, .int 0, .int 0, .int 0])), (pl, .inr (1, [.int 0, .ref dz, .int 0])), (sl, .inr (1, [.int 0, .ref dz, .int 0])), (kl, .inr (1, [.int 0, .ref dz, .int 0])), (ou, .inl (cJ, 1, .inr (.inl zl))), (od, .inl (cD, 1, .inr (.inr (.inr (.inl zd)))))] H := hP
  have hD : va_D A [(pa, .inr (3, [.ref p_v, .int 0, .ref p_st, .ref p_ib, .ref p_di, .ref p_wa, .ref p_se, .ref p_vh, .ref p_re])), (b0, .inl (cI, 6, .inl zi)), (b1, .inl (cZ, 6, .inl zi)), (b4, .inl (cI, 4, .inl zi)), (p_v, .inl (cI, 4, .inl zi)), (p_st, .inl (cI, 4, .inl zi)), (p_ib, .inl (cZ, 4, .inl zi)), (p_di, .inl (cI, 4, .inl zi)), (p_wa, .inl (cI, 4, .inl zi)), (p_se, .inl (cI, 4, .inl zi)), (mm, .inr (10, [.int 0, .ref pl, .ref ig, .ref sl, .ref kl, .int 0, .int 0, .int 0])), (pl, .inr (1, [.int 0, .ref dz, .int 0])), (sl, .inr (1, [.int 0, .ref dz, .int 0])), (kl, .inr (1, [.int 0, .ref dz, .int 0])), (ou, .inl (cJ, 1, .inr (.inl zl))), (od, .inl (cD, 1, .inr (.inr (.inr (.inl zd)))))] := hD
  refine W.widen (k := 119) (n := 756) (Nat.le_of_ble_eq_true rfl) (Nat.le_of_ble_eq_true rfl) ?_
  have hw : r_6 = 1 := hw
  subst hw
  refine lv_istore (lv' := [(6, .int 1), (5, .int 0), (4, .ref od), (3, .ref ou), (2, .ref mm), (1, .ref x), (0, .ref b)]) hx hb dL_law_1942 hl (by decide) rfl (fun ls hl => ?_)
  refine lv_aload_n hx hb dL_law_1944 rfl (lv_at hl 4 rfl) ?_
  refine lv_aload_n hx hb dL_law_1945 rfl (lv_at hl 6 rfl) ?_
  refine lv_iload hx hb dL_law_1946 (lv_at hl 1 rfl) ?_
  refine lv_iconst (v := 1) hx hb dL_law_1948 (by decide) ?_
  refine lv_iadd hx hb dL_law_1949 ?_
  refine lv_topi (fun y_7 ey_7 => ?_)
  obtain rfl : y_7 = 1 := ey_7.trans (by decide)
  refine va_sld hx hb hX hbl hbA hS (by unfold vp_in; decide) dL_law_1950 ?_
  refine lv_topi (fun y_8 ey_8 => ?_)
  obtain rfl : a1 = y_8 := (ey_8.trans h_a1.symm).symm
  refine lv_aload_n hx hb dL_law_1951 rfl (lv_at hl 6 rfl) ?_
  refine lv_iload hx hb dL_law_1952 (lv_at hl 1 rfl) ?_
  refine lv_iconst (v := 2) hx hb dL_law_1954 (by decide) ?_
  refine lv_iadd hx hb dL_law_1955 ?_
  refine lv_topi (fun y_9 ey_9 => ?_)
  obtain rfl : y_9 = 2 := ey_9.trans (by decide)
  refine va_sld hx hb hX hbl hbA hS (by unfold vp_in; decide) dL_law_1956 ?_
  refine lv_topi (fun y_10 ey_10 => ?_)
  obtain rfl : a2 = y_10 := (ey_10.trans h_a2.symm).symm
  have hPc := hP.sub (ws' := [(mm, .inr (10, [.int 0, .ref pl, .ref ig, .ref sl, .ref kl, .int 0, .int 0, .int 0])), (pl, .inr (1, [.int 0, .ref dz, .int 0])), (sl, .inr (1, [.int 0, .ref dz, .int 0])), (kl, .inr (1, [.int 0, .ref dz, .int 0]))]) [10, 11, 12, 13] rfl
  have hDc := hD.sub (ws' := [(mm, .inr (10, [.int 0, .ref pl, .ref ig, .ref sl, .ref kl, .int 0, .int 0, .int 0])), (pl, .inr (1, [.int 0, .ref dz, .int 0])), (sl, .inr (1, [.int 0, .ref dz, .int 0])), (kl, .inr (1, [.int 0, .ref dz, .int 0]))]) [10, 11, 12, 13] (by decide) rfl
  have hKc := hK.sub (tys' := []) [] rfl
  have hFc := va_free (wc := [(mm, .inr (10, [.int 0, .ref pl, .ref ig, .ref sl, .ref kl, .int 0, .int 0, .int 0])), (pl, .inr (1, [.int 0, .ref dz, .int 0])), (sl, .inr (1, [.int 0, .ref dz, .int 0])), (kl, .inr (1, [.int 0, .ref dz, .int 0]))]) hD hS hA [10, 11, 12, 13] rfl
  refine va_calli (va_runV (As := [.int a1, .int a2]) (rest := []) ⟨hx, hb, hml, hown, hts⟩ (c_X8_lie l dC dI mm pl ig sl kl dz a1 a2 _ ) (cwV 2 hts gL_law_X8_lie rfl rfl rfl (by decide +kernel) ⟨Nat.le_of_ble_eq_true rfl, Nat.le_of_ble_eq_true rfl⟩) ⟨pe_blind mo_bl, va_recv hKc hPc (ci := 10) (q0 := 0) rfl rfl, fun U hU hW => ⟨rfl, pr_mk hU hW hPc hKc hDc, mo_mk hW (lx_m hLX)⟩⟩ rfl rfl hl.1 rfl (lv_room (Nat.le_of_ble_eq_true rfl)) dL_law_1957 ⟨Nat.le_of_ble_eq_true rfl, Nat.le_of_ble_eq_true rfl⟩) hS (fun q _ h => hFc q h) hFc (fun r_12 u_11 t H1 locs ht hvm hw hB hz1 hk1 hS => ?_)
  obtain ⟨hP1, hK1, hD1⟩ := hB
  rw [ht] at hP1
  obtain ⟨hP, hD⟩ := va_join (wr := [(pa, .inr (3, [.ref p_v, .int 0, .ref p_st, .ref p_ib, .ref p_di, .ref p_wa, .ref p_se, .ref p_vh, .ref p_re])), (b0, .inl (cI, 6, .inl zi)), (b1, .inl (cZ, 6, .inl zi)), (b4, .inl (cI, 4, .inl zi)), (p_v, .inl (cI, 4, .inl zi)), (p_st, .inl (cI, 4, .inl zi)), (p_ib, .inl (cZ, 4, .inl zi)), (p_di, .inl (cI, 4, .inl zi)), (p_wa, .inl (cI, 4, .inl zi)), (p_se, .inl (cI, 4, .inl zi)), (ou, .inl (cJ, 1, .inr (.inl zl))), (od, .inl (cD, 1, .inr (.inr (.inr (.inl zd)))))]) (w1 := [(mm, .inr (10, [.int 1, .ref pl, .ref ig, .ref sl, .ref kl, .int 0, .int 0, .int 0]))]) hP hD [10, 11, 12, 13] [0, 1, 2, 3, 4, 5, 6, 7, 8, 9, 14, 15] rfl rfl (by decide) (by decide) hk1 hFc hP1 hD1
  generalize H1 = H at hP hS ⊢
  have hP : va_P (dC, dI) vwCl [(pa, .inr (3, [.ref p_v, .int 0, .ref p_st, .ref p_ib, .ref p_di, .ref p_wa, .ref p_se, .ref p_vh, .ref p_re])), (b0, .inl (cI, 6, .inl zi)), (b1, .inl (cZ, 6, .inl zi)), (b4, .inl (cI, 4, .inl zi)), (p_v, .inl (cI, 4, .inl zi)), (p_st, .inl (cI, 4, .inl zi)), (p_ib, .inl (cZ, 4, .inl zi)), (p_di, .inl (cI, 4, .inl zi)), (p_wa, .inl (cI, 4, .inl zi)), (p_se, .inl (cI, 4, .inl zi)), (ou, .inl (cJ, 1, .inr (.inl zl))), (od, .inl (cD, 1, .inr (.inr (.inr (.inl zd))))), (mm, .inr (10, [.int 1, .ref pl, .ref ig, .ref sl, .ref kl, .int 0, .int 0, .int 0]))] H := hP
  have hD : va_D A [(pa, .inr (3, [.ref p_v, .int 0, .ref p_st, .ref p_ib, .ref p_di, .ref p_wa, .ref p_se, .ref p_vh, .ref p_re])), (b0, .inl (cI, 6, .inl zi)), (b1, .inl (cZ, 6, .inl zi)), (b4, .inl (cI, 4, .inl zi)), (p_v, .inl (cI, 4, .inl zi)), (p_st, .inl (cI, 4, .inl zi)), (p_ib, .inl (cZ, 4, .inl zi)), (p_di, .inl (cI, 4, .inl zi)), (p_wa, .inl (cI, 4, .inl zi)), (p_se, .inl (cI, 4, .inl zi)), (ou, .inl (cJ, 1, .inr (.inl zl))), (od, .inl (cD, 1, .inr (.inr (.inr (.inl zd))))), (mm, .inr (10, [.int 1, .ref pl, .ref ig, .ref sl, .ref kl, .int 0, .int 0, .int 0]))] := hD
  refine W.widen (k := 119) (n := 756) (Nat.le_refl _) (Nat.le_refl _) ?_
  have hw : r_12 = 0 := hw
  subst hw
  refine lv_istore (lv' := [(7, .int 0), (6, .int 1), (5, .int 0), (4, .ref od), (3, .ref ou), (2, .ref mm), (1, .ref x), (0, .ref b)]) hx hb dL_law_1960 hl (by decide) rfl (fun ls hl => ?_)
  refine lv_aload_n hx hb dL_law_1962 rfl (lv_at hl 5 rfl) ?_
  have hPc := hP.sub (ws' := [(mm, .inr (10, [.int 1, .ref pl, .ref ig, .ref sl, .ref kl, .int 0, .int 0, .int 0]))]) [12] rfl
  have hDc := hD.sub (ws' := [(mm, .inr (10, [.int 1, .ref pl, .ref ig, .ref sl, .ref kl, .int 0, .int 0, .int 0]))]) [12] (by decide) rfl
  have hKc := hK.sub (tys' := []) [] rfl
  have hFc := va_free (wc := [(mm, .inr (10, [.int 1, .ref pl, .ref ig, .ref sl, .ref kl, .int 0, .int 0, .int 0]))]) hD hS hA [12] rfl
  refine va_calli (va_runV (As := []) (rest := []) ⟨hx, hb, hml, hown, hts⟩ (c_X8_thrown l dC dI mm pl ig sl kl (1 : Int32) (0 : Int32) (0 : Int32) (0 : Int32) _ ) (cwV 0 hts gL_law_X8_thrown rfl rfl rfl (by decide +kernel) ⟨Nat.le_of_ble_eq_true rfl, Nat.le_of_ble_eq_true rfl⟩) ⟨pr_blind, va_recv hKc hPc (ci := 10) (q0 := 0) rfl rfl, fun U hU hW => ⟨rfl, pr_mk hU hW hPc hKc hDc⟩⟩ rfl rfl hl.1 rfl (lv_room (Nat.le_of_ble_eq_true rfl)) dL_law_1963 ⟨Nat.le_of_ble_eq_true rfl, Nat.le_of_ble_eq_true rfl⟩) hS (fun q _ h => hFc q h) hFc (fun r_14 u_13 t H1 locs ht hvm hw hB hz1 hk1 hS => ?_)
  obtain ⟨hP1, hK1, hD1⟩ := hB
  rw [ht] at hP1
  obtain ⟨hP, hD⟩ := va_join (wr := [(pa, .inr (3, [.ref p_v, .int 0, .ref p_st, .ref p_ib, .ref p_di, .ref p_wa, .ref p_se, .ref p_vh, .ref p_re])), (b0, .inl (cI, 6, .inl zi)), (b1, .inl (cZ, 6, .inl zi)), (b4, .inl (cI, 4, .inl zi)), (p_v, .inl (cI, 4, .inl zi)), (p_st, .inl (cI, 4, .inl zi)), (p_ib, .inl (cZ, 4, .inl zi)), (p_di, .inl (cI, 4, .inl zi)), (p_wa, .inl (cI, 4, .inl zi)), (p_se, .inl (cI, 4, .inl zi)), (ou, .inl (cJ, 1, .inr (.inl zl))), (od, .inl (cD, 1, .inr (.inr (.inr (.inl zd)))))]) (w1 := [(mm, .inr (10, [.int 1, .ref pl, .ref ig, .ref sl, .ref kl, .int 0, .int 0, .int 0]))]) hP hD [12] [0, 1, 2, 3, 4, 5, 6, 7, 8, 9, 10, 11] rfl rfl (by decide) (by decide) hk1 hFc hP1 hD1
  generalize H1 = H at hP hS ⊢
  have hP : va_P (dC, dI) vwCl [(pa, .inr (3, [.ref p_v, .int 0, .ref p_st, .ref p_ib, .ref p_di, .ref p_wa, .ref p_se, .ref p_vh, .ref p_re])), (b0, .inl (cI, 6, .inl zi)), (b1, .inl (cZ, 6, .inl zi)), (b4, .inl (cI, 4, .inl zi)), (p_v, .inl (cI, 4, .inl zi)), (p_st, .inl (cI, 4, .inl zi)), (p_ib, .inl (cZ, 4, .inl zi)), (p_di, .inl (cI, 4, .inl zi)), (p_wa, .inl (cI, 4, .inl zi)), (p_se, .inl (cI, 4, .inl zi)), (ou, .inl (cJ, 1, .inr (.inl zl))), (od, .inl (cD, 1, .inr (.inr (.inr (.inl zd))))), (mm, .inr (10, [.int 1, .ref pl, .ref ig, .ref sl, .ref kl, .int 0, .int 0, .int 0]))] H := hP
  have hD : va_D A [(pa, .inr (3, [.ref p_v, .int 0, .ref p_st, .ref p_ib, .ref p_di, .ref p_wa, .ref p_se, .ref p_vh, .ref p_re])), (b0, .inl (cI, 6, .inl zi)), (b1, .inl (cZ, 6, .inl zi)), (b4, .inl (cI, 4, .inl zi)), (p_v, .inl (cI, 4, .inl zi)), (p_st, .inl (cI, 4, .inl zi)), (p_ib, .inl (cZ, 4, .inl zi)), (p_di, .inl (cI, 4, .inl zi)), (p_wa, .inl (cI, 4, .inl zi)), (p_se, .inl (cI, 4, .inl zi)), (ou, .inl (cJ, 1, .inr (.inl zl))), (od, .inl (cD, 1, .inr (.inr (.inr (.inl zd))))), (mm, .inr (10, [.int 1, .ref pl, .ref ig, .ref sl, .ref kl, .int 0, .int 0, .int 0]))] := hD
  refine W.widen (k := 119) (n := 756) (Nat.le_refl _) (Nat.le_refl _) ?_
  have hw : r_14 = 1 := hw
  subst hw
  refine lv_iload hx hb dL_law_1966 (lv_at hl 1 rfl) ?_
  refine lv_icmp_eq (tgt := 1973) hx hb dL_law_1968 (by decide) (fun _ => ?_) (fun h9 => absurd h9 (by decide))
  refine lv_iload hx hb dL_law_1973 (lv_at hl 1 rfl) ?_
  refine lv_if_ne (tgt := 1990) hx hb dL_law_1975 (by decide) (fun _ => ?_) (fun h9 => absurd h9 (by decide))
  refine lv_goto (tgt := 2007) hx hb dL_law_1990 (by decide) ?_
  exact law_tail l C0 hAe hS (lv_sub hl [2, 7] rfl) (Nat.le_of_ble_eq_true rfl) (Nat.le_of_ble_eq_true rfl)

set_option maxHeartbeats 4000000 in
set_option maxRecDepth 100000 in
theorem case_digest {p : Program} {e : Env} {s : State} {m : MethodId} {below : List Frame} {meth : Method} {c : Code} (l : Launch) (hfl : l.stackTraces = false) {b : Nat} {xs : Nat → Int32} (C0 : lw_At p s m meth c b 5 xs) {dz tc : Nat} {ad : Nat → Nat} (hLX : lx_ (fun q : Nat => s.heap.size ≤ q) dz tc ad s) (dC : Nat → ClassId) (dI : Nat → Nat → Nat) {x : Nat} {po : Nat} {tr : Nat} {sp : Nat} {bx : Nat} {b0 : Nat} {b1 : Nat} {b4 : Nat} {b6 : Nat} {pa : Nat} {p_v : Nat} {p_st : Nat} {p_ib : Nat} {p_di : Nat} {p_wa : Nat} {p_se : Nat} {p_vh : Nat} {p_re : Nat} {mm : Nat} {pl : Nat} {ig : Nat} {sl : Nat} {kl : Nat} {ou : Nat} {od : Nat} {cI : ClassId} {cZ : ClassId} {cJ : ClassId} {cD : ClassId} {H : Heap} {locs : List Loc} {ls : Array Slot} (hK : va_K (dC, dI) vwCl [(cI, .int), (cZ, .boolean), (cJ, .long), (cD, .double)] s) (hP : va_P (dC, dI) vwCl [(x, .inr (7, [.ref bx, .ref po, .ref tr, .ref pa, .ref sp])), (bx, .inr (2, [.ref b0, .ref b1, .int 0, .int 0, .ref b4, .int 0, .ref b6, .int 0, .int 0, .int 0, .int 0])), (pa, .inr (3, [.ref p_v, .int 0, .ref p_st, .ref p_ib, .ref p_di, .ref p_wa, .ref p_se, .ref p_vh, .ref p_re])), (b0, .inl (cI, 6, .inl zi)), (b1, .inl (cZ, 6, .inl zi)), (b4, .inl (cI, 4, .inl zi)), (p_v, .inl (cI, 4, .inl zi)), (p_st, .inl (cI, 4, .inl zi)), (p_ib, .inl (cZ, 4, .inl zi)), (p_di, .inl (cI, 4, .inl zi)), (p_wa, .inl (cI, 4, .inl zi)), (p_se, .inl (cI, 4, .inl zi)), (mm, .inr (10, [.int 0, .ref pl, .ref ig, .ref sl, .ref kl, .int 0, .int 0, .int 0])), (pl, .inr (1, [.int 0, .ref dz, .int 0])), (sl, .inr (1, [.int 0, .ref dz, .int 0])), (kl, .inr (1, [.int 0, .ref dz, .int 0])), (ou, .inl (cJ, 1, .inr (.inl zl))), (od, .inl (cD, 1, .inr (.inr (.inr (.inl zd)))))] H) (hD : va_D (fun q : Nat => s.heap.size ≤ q) [(x, .inr (7, [.ref bx, .ref po, .ref tr, .ref pa, .ref sp])), (bx, .inr (2, [.ref b0, .ref b1, .int 0, .int 0, .ref b4, .int 0, .ref b6, .int 0, .int 0, .int 0, .int 0])), (pa, .inr (3, [.ref p_v, .int 0, .ref p_st, .ref p_ib, .ref p_di, .ref p_wa, .ref p_se, .ref p_vh, .ref p_re])), (b0, .inl (cI, 6, .inl zi)), (b1, .inl (cZ, 6, .inl zi)), (b4, .inl (cI, 4, .inl zi)), (p_v, .inl (cI, 4, .inl zi)), (p_st, .inl (cI, 4, .inl zi)), (p_ib, .inl (cZ, 4, .inl zi)), (p_di, .inl (cI, 4, .inl zi)), (p_wa, .inl (cI, 4, .inl zi)), (p_se, .inl (cI, 4, .inl zi)), (mm, .inr (10, [.int 0, .ref pl, .ref ig, .ref sl, .ref kl, .int 0, .int 0, .int 0])), (pl, .inr (1, [.int 0, .ref dz, .int 0])), (sl, .inr (1, [.int 0, .ref dz, .int 0])), (kl, .inr (1, [.int 0, .ref dz, .int 0])), (ou, .inl (cJ, 1, .inr (.inl zl))), (od, .inl (cD, 1, .inr (.inr (.inr (.inl zd)))))]) (hS : va_S (fun q : Nat => s.heap.size ≤ q) s.heap H locs) (hl : lv_has ls 9 [(5, .int 0), (4, .ref od), (3, .ref ou), (2, .ref mm), (1, .ref x), (0, .ref b)]) : W p l e room_1 s m #[Value.ref b] below meth c H locs 118 750 (lw_Z below #[Value.ref b] s) (F0 m 1993 ls []) := by
  obtain ⟨hx, hb, hr, hml, hown, hts0, hX, hbl, hlocks, hgv⟩ := id C0
  have hts : ∀ w ∈ lw_tbl, w.before #[Value.ref b] s = true := hts0
  have hbA : ¬ (fun q : Nat => s.heap.size ≤ q) b := Nat.not_le.mpr hbl
  have hA : ∀ q : Nat, s.heap.size ≤ q → (fun q : Nat => s.heap.size ≤ q) q := fun _ h => h
  generalize hAe : (fun q : Nat => s.heap.size ≤ q) = A at hD hS hbA hA hLX
  obtain ⟨a1, h_a1⟩ : ∃ z, z = xs ((1 : Int32).toNatClampNeg) := ⟨_, rfl⟩
  obtain ⟨a2, h_a2⟩ : ∃ z, z = xs ((2 : Int32).toNatClampNeg) := ⟨_, rfl⟩
  obtain ⟨a3, h_a3⟩ : ∃ z, z = xs ((3 : Int32).toNatClampNeg) := ⟨_, rfl⟩
  obtain ⟨a4, h_a4⟩ : ∃ z, z = xs ((4 : Int32).toNatClampNeg) := ⟨_, rfl⟩
  refine lv_aload_n hx hb dL_law_1993 rfl (lv_at hl 4 rfl) ?_
  have hPc := hP.sub (ws' := [(x, .inr (7, [.ref bx, .ref po, .ref tr, .ref pa, .ref sp])), (bx, .inr (2, [.ref b0, .ref b1, .int 0, .int 0, .ref b4, .int 0, .ref b6, .int 0, .int 0, .int 0, .int 0])), (pa, .inr (3, [.ref p_v, .int 0, .ref p_st, .ref p_ib, .ref p_di, .ref p_wa, .ref p_se, .ref p_vh, .ref p_re])), (p_v, .inl (cI, 4, .inl zi)), (p_st, .inl (cI, 4, .inl zi)), (p_ib, .inl (cZ, 4, .inl zi)), (p_di, .inl (cI, 4, .inl zi)), (p_wa, .inl (cI, 4, .inl zi)), (p_se, .inl (cI, 4, .inl zi))]) [0, 1, 2, 6, 7, 8, 9, 10, 11] rfl
  have hDc := hD.sub (ws' := [(x, .inr (7, [.ref bx, .ref po, .ref tr, .ref pa, .ref sp])), (bx, .inr (2, [.ref b0, .ref b1, .int 0, .int 0, .ref b4, .int 0, .ref b6, .int 0, .int 0, .int 0, .int 0])), (pa, .inr (3, [.ref p_v, .int 0, .ref p_st, .ref p_ib, .ref p_di, .ref p_wa, .ref p_se, .ref p_vh, .ref p_re])), (p_v, .inl (cI, 4, .inl zi)), (p_st, .inl (cI, 4, .inl zi)), (p_ib, .inl (cZ, 4, .inl zi)), (p_di, .inl (cI, 4, .inl zi)), (p_wa, .inl (cI, 4, .inl zi)), (p_se, .inl (cI, 4, .inl zi))]) [0, 1, 2, 6, 7, 8, 9, 10, 11] (by decide) rfl
  have hKc := hK.sub (tys' := [(cI, .int), (cZ, .boolean)]) [0, 1] rfl
  have hFc := va_free (wc := [(x, .inr (7, [.ref bx, .ref po, .ref tr, .ref pa, .ref sp])), (bx, .inr (2, [.ref b0, .ref b1, .int 0, .int 0, .ref b4, .int 0, .ref b6, .int 0, .int 0, .int 0, .int 0])), (pa, .inr (3, [.ref p_v, .int 0, .ref p_st, .ref p_ib, .ref p_di, .ref p_wa, .ref p_se, .ref p_vh, .ref p_re])), (p_v, .inl (cI, 4, .inl zi)), (p_st, .inl (cI, 4, .inl zi)), (p_ib, .inl (cZ, 4, .inl zi)), (p_di, .inl (cI, 4, .inl zi)), (p_wa, .inl (cI, 4, .inl zi)), (p_se, .inl (cI, 4, .inl zi))]) hD hS hA [0, 1, 2, 6, 7, 8, 9, 10, 11] rfl
  refine va_calll (va_runV (As := []) (rest := []) ⟨hx, hb, hml, hown, hts⟩ (c_X5_digest l dC dI x po tr sp bx b0 b1 b4 b6 pa p_v p_st p_ib p_di p_wa p_se p_vh p_re cI cZ _ ) (cwV 0 hts gL_law_X5_digest rfl rfl rfl (by decide +kernel) ⟨Nat.le_of_ble_eq_true rfl, Nat.le_of_ble_eq_true rfl⟩) ⟨pr_blind, va_recv hKc hPc (ci := 7) (q0 := 0) rfl rfl, fun U hU hW => ⟨rfl, pr_mk hU hW hPc hKc hDc⟩⟩ rfl rfl hl.1 rfl (lv_room (Nat.le_of_ble_eq_true rfl)) dL_law_1994 ⟨Nat.le_of_ble_eq_true rfl, Nat.le_of_ble_eq_true rfl⟩) hS (fun q _ h => hFc q h) hFc (fun r_2 u_1 t H1 locs ht hvm hw hB hz1 hk1 hS => ?_)
  obtain ⟨hP1, hK1, hD1⟩ := hB
  rw [ht] at hP1
  obtain ⟨hP, hD⟩ := va_join (wr := [(b0, .inl (cI, 6, .inl zi)), (b1, .inl (cZ, 6, .inl zi)), (b4, .inl (cI, 4, .inl zi)), (mm, .inr (10, [.int 0, .ref pl, .ref ig, .ref sl, .ref kl, .int 0, .int 0, .int 0])), (pl, .inr (1, [.int 0, .ref dz, .int 0])), (sl, .inr (1, [.int 0, .ref dz, .int 0])), (kl, .inr (1, [.int 0, .ref dz, .int 0])), (ou, .inl (cJ, 1, .inr (.inl zl))), (od, .inl (cD, 1, .inr (.inr (.inr (.inl zd)))))]) (w1 := []) hP hD [0, 1, 2, 6, 7, 8, 9, 10, 11] [3, 4, 5, 12, 13, 14, 15, 16, 17] rfl rfl (by decide) (by decide) hk1 hFc hP1 hD1
  generalize H1 = H at hP hS ⊢
  have hP : va_P (dC, dI) vwCl [(b0, .inl (cI, 6, .inl zi)), (b1, .inl (cZ, 6, .inl zi)), (b4, .inl (cI, 4, .inl zi)), (mm, .inr (10, [.int 0, .ref pl, .ref ig, .ref sl, .ref kl, .int 0, .int 0, .int 0])), (pl, .inr (1, [.int 0, .ref dz, .int 0])), (sl, .inr (1, [.int 0, .ref dz, .int 0])), (kl, .inr (1, [.int 0, .ref dz, .int 0])), (ou, .inl (cJ, 1, .inr (.inl zl))), (od, .inl (cD, 1, .inr (.inr (.inr (.inl zd)))))] H := hP
  have hD : va_D A [(b0, .inl (cI, 6, .inl zi)), (b1, .inl (cZ, 6, .inl zi)), (b4, .inl (cI, 4, .inl zi)), (mm, .inr (10, [.int 0, .ref pl, .ref ig, .ref sl, .ref kl, .int 0, .int 0, .int 0])), (pl, .inr (1, [.int 0, .ref dz, .int 0])), (sl, .inr (1, [.int 0, .ref dz, .int 0])), (kl, .inr (1, [.int 0, .ref dz, .int 0])), (ou, .inl (cJ, 1, .inr (.inl zl))), (od, .inl (cD, 1, .inr (.inr (.inr (.inl zd)))))] := hD
  refine W.widen (k := 118) (n := 750) (Nat.le_refl _) (Nat.le_refl _) ?_
  have hw : r_2 = mx 57 58308 := hw
  subst hw
  refine lv_aload_n hx hb dL_law_1997 rfl (lv_at hl 3 rfl) ?_
  have hPc := hP.sub (ws' := [(mm, .inr (10, [.int 0, .ref pl, .ref ig, .ref sl, .ref kl, .int 0, .int 0, .int 0])), (pl, .inr (1, [.int 0, .ref dz, .int 0])), (sl, .inr (1, [.int 0, .ref dz, .int 0])), (kl, .inr (1, [.int 0, .ref dz, .int 0]))]) [3, 4, 5, 6] rfl
  have hDc := hD.sub (ws' := [(mm, .inr (10, [.int 0, .ref pl, .ref ig, .ref sl, .ref kl, .int 0, .int 0, .int 0])), (pl, .inr (1, [.int 0, .ref dz, .int 0])), (sl, .inr (1, [.int 0, .ref dz, .int 0])), (kl, .inr (1, [.int 0, .ref dz, .int 0]))]) [3, 4, 5, 6] (by decide) rfl
  have hKc := hK.sub (tys' := []) [] rfl
  have hFc := va_free (wc := [(mm, .inr (10, [.int 0, .ref pl, .ref ig, .ref sl, .ref kl, .int 0, .int 0, .int 0])), (pl, .inr (1, [.int 0, .ref dz, .int 0])), (sl, .inr (1, [.int 0, .ref dz, .int 0])), (kl, .inr (1, [.int 0, .ref dz, .int 0]))]) hD hS hA [3, 4, 5, 6] rfl
  refine va_calll (va_runV (As := []) (rest := [.long (mx 57 58308)]) ⟨hx, hb, hml, hown, hts⟩ (c_X8_digest l dC dI mm pl ig sl kl dz _ ) (cwV 0 hts gL_law_X8_digest rfl rfl rfl (by decide +kernel) ⟨Nat.le_of_ble_eq_true rfl, Nat.le_of_ble_eq_true rfl⟩) ⟨pe_blind dg_bl, va_recv hKc hPc (ci := 10) (q0 := 0) rfl rfl, fun U hU hW => ⟨rfl, pr_mk hU hW hPc hKc hDc, dg_mk hU hW hS hFc (lx_d hLX)⟩⟩ rfl rfl hl.1 rfl (lv_room (Nat.le_of_ble_eq_true rfl)) dL_law_1998 ⟨Nat.le_of_ble_eq_true rfl, Nat.le_of_ble_eq_true rfl⟩) hS (fun q _ h => hFc q h) hFc (fun r_4 u_3 t H1 locs ht hvm hw hB hz1 hk1 hS => ?_)
  obtain ⟨hP1, hK1, hD1⟩ := hB
  rw [ht] at hP1
  obtain ⟨hP, hD⟩ := va_join (wr := [(b0, .inl (cI, 6, .inl zi)), (b1, .inl (cZ, 6, .inl zi)), (b4, .inl (cI, 4, .inl zi)), (ou, .inl (cJ, 1, .inr (.inl zl))), (od, .inl (cD, 1, .inr (.inr (.inr (.inl zd)))))]) (w1 := [(mm, .inr (10, [.int 0, .ref pl, .ref ig, .ref sl, .ref kl, .int 0, .int 0, .int 0]))]) hP hD [3, 4, 5, 6] [0, 1, 2, 7, 8] rfl rfl (by decide) (by decide) hk1 hFc hP1 hD1
  generalize H1 = H at hP hS ⊢
  have hP : va_P (dC, dI) vwCl [(b0, .inl (cI, 6, .inl zi)), (b1, .inl (cZ, 6, .inl zi)), (b4, .inl (cI, 4, .inl zi)), (ou, .inl (cJ, 1, .inr (.inl zl))), (od, .inl (cD, 1, .inr (.inr (.inr (.inl zd))))), (mm, .inr (10, [.int 0, .ref pl, .ref ig, .ref sl, .ref kl, .int 0, .int 0, .int 0]))] H := hP
  have hD : va_D A [(b0, .inl (cI, 6, .inl zi)), (b1, .inl (cZ, 6, .inl zi)), (b4, .inl (cI, 4, .inl zi)), (ou, .inl (cJ, 1, .inr (.inl zl))), (od, .inl (cD, 1, .inr (.inr (.inr (.inl zd))))), (mm, .inr (10, [.int 0, .ref pl, .ref ig, .ref sl, .ref kl, .int 0, .int 0, .int 0]))] := hD
  refine W.widen (k := 198) (n := 1150) (Nat.le_of_ble_eq_true rfl) (Nat.le_of_ble_eq_true rfl) ?_
  have hw : r_4 = mx 57 58308 := hw
  subst hw
  refine W.lcmp hx hb dL_law_2001 ?_
  refine lv_topi (fun y_5 ey_5 => ?_)
  obtain rfl : y_5 = 0 := ey_5.trans (lcmp_self _)
  refine lv_if_eq (tgt := 2007) hx hb dL_law_2002 (by decide) (fun _ => ?_) (fun h9 => absurd h9 (by decide))
  exact law_tail l C0 hAe hS (lv_sub hl [0, 5] rfl) (Nat.le_of_ble_eq_true rfl) (Nat.le_of_ble_eq_true rfl)
