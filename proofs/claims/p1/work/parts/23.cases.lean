set_option maxHeartbeats 4000000 in
set_option maxRecDepth 100000 in
theorem case_candidate {p : Program} {e : Env} {s : State} {m : MethodId} {below : List Frame} {meth : Method} {c : Code} (l : Launch) (hfl : l.stackTraces = false) {b : Nat} {xs : Nat → Int32} (C0 : lw_At p s m meth c b 5 xs) {dz tc : Nat} {ad : Nat → Nat} (hLX : lx_ (fun q : Nat => s.heap.size ≤ q) dz tc ad s) (dC : Nat → ClassId) (dI : Nat → Nat → Nat) {x : Nat} {po : Nat} {tr : Nat} {sp : Nat} {bx : Nat} {b0 : Nat} {b1 : Nat} {b4 : Nat} {b6 : Nat} {pa : Nat} {p_v : Nat} {p_st : Nat} {p_ib : Nat} {p_di : Nat} {p_wa : Nat} {p_se : Nat} {p_vh : Nat} {p_re : Nat} {mm : Nat} {pl : Nat} {ig : Nat} {sl : Nat} {kl : Nat} {ou : Nat} {od : Nat} {cI : ClassId} {cZ : ClassId} {cJ : ClassId} {cD : ClassId} {H : Heap} {locs : List Loc} {ls : Array Slot} (hK : va_K (dC, dI) vwCl [(cI, .int), (cZ, .boolean), (cJ, .long), (cD, .double)] s) (hP : va_P (dC, dI) vwCl [(x, .inr (7, [.ref bx, .ref po, .ref tr, .ref pa, .ref sp])), (bx, .inr (2, [.ref b0, .ref b1, .int 0, .int 0, .ref b4, .int 0, .ref b6, .int 0, .int 0, .int 0, .int 0])), (pa, .inr (3, [.ref p_v, .int 0, .ref p_st, .ref p_ib, .ref p_di, .ref p_wa, .ref p_se, .ref p_vh, .ref p_re])), (b0, .inl (cI, 6, .inl zi)), (b1, .inl (cZ, 6, .inl zi)), (b4, .inl (cI, 4, .inl zi)), (p_v, .inl (cI, 4, .inl zi)), (p_st, .inl (cI, 4, .inl zi)), (p_ib, .inl (cZ, 4, .inl zi)), (p_di, .inl (cI, 4, .inl zi)), (p_wa, .inl (cI, 4, .inl zi)), (p_se, .inl (cI, 4, .inl zi)), (mm, .inr (10, [.int 0, .ref pl, .ref ig, .ref sl, .ref kl, .int 0, .int 0, .int 0])), (pl, .inr (1, [.int 0, .ref dz, .int 0])), (sl, .inr (1, [.int 0, .ref dz, .int 0])), (kl, .inr (1, [.int 0, .ref dz, .int 0])), (ou, .inl (cJ, 1, .inr (.inl zl))), (od, .inl (cD, 1, .inr (.inr (.inr (.inl zd)))))] H) (hD : va_D (fun q : Nat => s.heap.size ≤ q) [(x, .inr (7, [.ref bx, .ref po, .ref tr, .ref pa, .ref sp])), (bx, .inr (2, [.ref b0, .ref b1, .int 0, .int 0, .ref b4, .int 0, .ref b6, .int 0, .int 0, .int 0, .int 0])), (pa, .inr (3, [.ref p_v, .int 0, .ref p_st, .ref p_ib, .ref p_di, .ref p_wa, .ref p_se, .ref p_vh, .ref p_re])), (b0, .inl (cI, 6, .inl zi)), (b1, .inl (cZ, 6, .inl zi)), (b4, .inl (cI, 4, .inl zi)), (p_v, .inl (cI, 4, .inl zi)), (p_st, .inl (cI, 4, .inl zi)), (p_ib, .inl (cZ, 4, .inl zi)), (p_di, .inl (cI, 4, .inl zi)), (p_wa, .inl (cI, 4, .inl zi)), (p_se, .inl (cI, 4, .inl zi)), (mm, .inr (10, [.int 0, .ref pl, .ref ig, .ref sl, .ref kl, .int 0, .int 0, .int 0])), (pl, .inr (1, [.int 0, .ref dz, .int 0])), (sl, .inr (1, [.int 0, .ref dz, .int 0])), (kl, .inr (1, [.int 0, .ref dz, .int 0])), (ou, .inl (cJ, 1, .inr (.inl zl))), (od, .inl (cD, 1, .inr (.inr (.inr (.inl zd)))))]) (hS : va_S (fun q : Nat => s.heap.size ≤ q) s.heap H locs) (hl : lv_has ls 9 [(5, .int 0), (4, .ref od), (3, .ref ou), (2, .ref mm), (1, .ref x), (0, .ref b)]) : W p l e room_1 s m #[Value.ref b] below meth c H locs 118 750 (lw_Z below #[Value.ref b] s) (F0 m 172 ls []) := by
  obtain ⟨hx, hb, hr, hml, hown, hts0, hX, hbl, hlocks, hgv⟩ := id C0
  have hts : ∀ w ∈ lw_tbl, w.before #[Value.ref b] s = true := hts0
  have hbA : ¬ (fun q : Nat => s.heap.size ≤ q) b := Nat.not_le.mpr hbl
  have hA : ∀ q : Nat, s.heap.size ≤ q → (fun q : Nat => s.heap.size ≤ q) q := fun _ h => h
  generalize hAe : (fun q : Nat => s.heap.size ≤ q) = A at hD hS hbA hA hLX
  obtain ⟨a1, h_a1⟩ : ∃ z, z = xs ((1 : Int32).toNatClampNeg) := ⟨_, rfl⟩
  obtain ⟨a2, h_a2⟩ : ∃ z, z = xs ((2 : Int32).toNatClampNeg) := ⟨_, rfl⟩
  obtain ⟨a3, h_a3⟩ : ∃ z, z = xs ((3 : Int32).toNatClampNeg) := ⟨_, rfl⟩
  obtain ⟨a4, h_a4⟩ : ∃ z, z = xs ((4 : Int32).toNatClampNeg) := ⟨_, rfl⟩
  by_cases hB0 : a1 < 0 ∨ 4 ≤ a1
  · have hM0 : a1 < 0 ∨ 3 < a1 := gP_b hB0
    refine lv_aload_n hx hb dL_law_172 rfl (lv_at hl 4 rfl) ?_
    refine lv_aload_n hx hb dL_law_173 rfl (lv_at hl 5 rfl) ?_
    refine lv_iload hx hb dL_law_174 (lv_at hl 0 rfl) ?_
    refine lv_iconst (v := 1) hx hb dL_law_176 (by decide) ?_
    refine lv_iadd hx hb dL_law_177 ?_
    refine lv_topi (fun y_1 ey_1 => ?_)
    obtain rfl : y_1 = 1 := ey_1.trans (by decide)
    refine va_sld hx hb hX hbl hbA hS (by unfold vp_in; decide) dL_law_178 ?_
    refine lv_topi (fun y_2 ey_2 => ?_)
    obtain rfl : a1 = y_2 := (ey_2.trans h_a1.symm).symm
    refine lv_aload_n hx hb dL_law_179 rfl (lv_at hl 2 rfl) ?_
    have hPc := hP.sub (ws' := [(x, .inr (7, [.ref bx, .ref po, .ref tr, .ref pa, .ref sp])), (bx, .inr (2, [.ref b0, .ref b1, .int 0, .int 0, .ref b4, .int 0, .ref b6, .int 0, .int 0, .int 0, .int 0]))]) [0, 1] rfl
    have hDc := hD.sub (ws' := [(x, .inr (7, [.ref bx, .ref po, .ref tr, .ref pa, .ref sp])), (bx, .inr (2, [.ref b0, .ref b1, .int 0, .int 0, .ref b4, .int 0, .ref b6, .int 0, .int 0, .int 0, .int 0]))]) [0, 1] (by decide) rfl
    have hKc := hK.sub (tys' := []) [] rfl
    have hFc := va_free (wc := [(x, .inr (7, [.ref bx, .ref po, .ref tr, .ref pa, .ref sp])), (bx, .inr (2, [.ref b0, .ref b1, .int 0, .int 0, .ref b4, .int 0, .ref b6, .int 0, .int 0, .int 0, .int 0]))]) hD hS hA [0, 1] rfl
    refine va_calli (vx_runSW (As := [.ref x, .int a1, .ref ou]) (rest := []) ⟨hx, hb, hml, hown, hts⟩ (h0_L_candidate l hfl dC dI x po tr sp pa bx b0 b1 b4 b6 a1 ou ((lx_s50 hLX).choose) ((lx_s50 hLX).choose_spec.choose) _ hB0) (vx_cwSW 3 hts gL_law_L_candidate rfl rfl rfl (by decide +kernel) ⟨Nat.le_of_ble_eq_true rfl, Nat.le_of_ble_eq_true rfl⟩) ⟨pn_blind (fun _ _ _ _ h => h), fun U hU hW => ⟨rfl, pr_mk hU hW hPc hKc hDc, xs_mk hU hW hS hFc (lx_xa hLX (lx_s50 hLX).choose_spec.choose_spec), trivial⟩⟩ rfl rfl hl.1 rfl (lv_room (Nat.le_of_ble_eq_true rfl)) dL_law_180 ⟨Nat.le_of_ble_eq_true rfl, Nat.le_of_ble_eq_true rfl⟩) hS (fun q _ h => hFc q h) hFc (fun r_4 u_3 t H1 locs ht hvm hw hB hz1 hk1 hS => ?_)
    obtain ⟨hP1, hK1, hD1⟩ := hB
    rw [ht] at hP1
    obtain ⟨hP, hD⟩ := va_join (wr := [(pa, .inr (3, [.ref p_v, .int 0, .ref p_st, .ref p_ib, .ref p_di, .ref p_wa, .ref p_se, .ref p_vh, .ref p_re])), (b0, .inl (cI, 6, .inl zi)), (b1, .inl (cZ, 6, .inl zi)), (b4, .inl (cI, 4, .inl zi)), (p_v, .inl (cI, 4, .inl zi)), (p_st, .inl (cI, 4, .inl zi)), (p_ib, .inl (cZ, 4, .inl zi)), (p_di, .inl (cI, 4, .inl zi)), (p_wa, .inl (cI, 4, .inl zi)), (p_se, .inl (cI, 4, .inl zi)), (mm, .inr (10, [.int 0, .ref pl, .ref ig, .ref sl, .ref kl, .int 0, .int 0, .int 0])), (pl, .inr (1, [.int 0, .ref dz, .int 0])), (sl, .inr (1, [.int 0, .ref dz, .int 0])), (kl, .inr (1, [.int 0, .ref dz, .int 0])), (ou, .inl (cJ, 1, .inr (.inl zl))), (od, .inl (cD, 1, .inr (.inr (.inr (.inl zd)))))]) (w1 := []) hP hD [0, 1] [2, 3, 4, 5, 6, 7, 8, 9, 10, 11, 12, 13, 14, 15, 16, 17] rfl rfl (by decide) (by decide) hk1 hFc hP1 hD1
    generalize H1 = H at hP hS ⊢
    have hP : va_P (dC, dI) vwCl [(pa, .inr (3, [.ref p_v, .int 0, .ref p_st, .ref p_ib, .ref p_di, .ref p_wa, .ref p_se, .ref p_vh, .ref p_re])), (b0, .inl (cI, 6, .inl zi)), (b1, .inl (cZ, 6, .inl zi)), (b4, .inl (cI, 4, .inl zi)), (p_v, .inl (cI, 4, .inl zi)), (p_st, .inl (cI, 4, .inl zi)), (p_ib, .inl (cZ, 4, .inl zi)), (p_di, .inl (cI, 4, .inl zi)), (p_wa, .inl (cI, 4, .inl zi)), (p_se, .inl (cI, 4, .inl zi)), (mm, .inr (10, [.int 0, .ref pl, .ref ig, .ref sl, .ref kl, .int 0, .int 0, .int 0])), (pl, .inr (1, [.int 0, .ref dz, .int 0])), (sl, .inr (1, [.int 0, .ref dz, .int 0])), (kl, .inr (1, [.int 0, .ref dz, .int 0])), (ou, .inl (cJ, 1, .inr (.inl zl))), (od, .inl (cD, 1, .inr (.inr (.inr (.inl zd)))))] H := hP
    have hD : va_D A [(pa, .inr (3, [.ref p_v, .int 0, .ref p_st, .ref p_ib, .ref p_di, .ref p_wa, .ref p_se, .ref p_vh, .ref p_re])), (b0, .inl (cI, 6, .inl zi)), (b1, .inl (cZ, 6, .inl zi)), (b4, .inl (cI, 4, .inl zi)), (p_v, .inl (cI, 4, .inl zi)), (p_st, .inl (cI, 4, .inl zi)), (p_ib, .inl (cZ, 4, .inl zi)), (p_di, .inl (cI, 4, .inl zi)), (p_wa, .inl (cI, 4, .inl zi)), (p_se, .inl (cI, 4, .inl zi)), (mm, .inr (10, [.int 0, .ref pl, .ref ig, .ref sl, .ref kl, .int 0, .int 0, .int 0])), (pl, .inr (1, [.int 0, .ref dz, .int 0])), (sl, .inr (1, [.int 0, .ref dz, .int 0])), (kl, .inr (1, [.int 0, .ref dz, .int 0])), (ou, .inl (cJ, 1, .inr (.inl zl))), (od, .inl (cD, 1, .inr (.inr (.inr (.inl zd)))))] := hD
    refine W.widen (k := 119) (n := 756) (Nat.le_of_ble_eq_true rfl) (Nat.le_of_ble_eq_true rfl) ?_
    have hw : r_4 = 1 := hw
    subst hw
    refine lv_istore (lv' := [(6, .int 1), (5, .int 0), (4, .ref od), (3, .ref ou), (2, .ref mm), (1, .ref x), (0, .ref b)]) hx hb dL_law_183 hl (by decide) rfl (fun ls hl => ?_)
    refine lv_aload_n hx hb dL_law_185 rfl (lv_at hl 4 rfl) ?_
    refine lv_aload_n hx hb dL_law_186 rfl (lv_at hl 6 rfl) ?_
    refine lv_iload hx hb dL_law_187 (lv_at hl 1 rfl) ?_
    refine lv_iconst (v := 1) hx hb dL_law_189 (by decide) ?_
    refine lv_iadd hx hb dL_law_190 ?_
    refine lv_topi (fun y_5 ey_5 => ?_)
    obtain rfl : y_5 = 1 := ey_5.trans (by decide)
    refine va_sld hx hb hX hbl hbA hS (by unfold vp_in; decide) dL_law_191 ?_
    refine lv_topi (fun y_6 ey_6 => ?_)
    obtain rfl : a1 = y_6 := (ey_6.trans h_a1.symm).symm
    have hPc := hP.sub (ws' := [(mm, .inr (10, [.int 0, .ref pl, .ref ig, .ref sl, .ref kl, .int 0, .int 0, .int 0])), (pl, .inr (1, [.int 0, .ref dz, .int 0])), (sl, .inr (1, [.int 0, .ref dz, .int 0])), (kl, .inr (1, [.int 0, .ref dz, .int 0]))]) [10, 11, 12, 13] rfl
    have hDc := hD.sub (ws' := [(mm, .inr (10, [.int 0, .ref pl, .ref ig, .ref sl, .ref kl, .int 0, .int 0, .int 0])), (pl, .inr (1, [.int 0, .ref dz, .int 0])), (sl, .inr (1, [.int 0, .ref dz, .int 0])), (kl, .inr (1, [.int 0, .ref dz, .int 0]))]) [10, 11, 12, 13] (by decide) rfl
    have hKc := hK.sub (tys' := []) [] rfl
    have hFc := va_free (wc := [(mm, .inr (10, [.int 0, .ref pl, .ref ig, .ref sl, .ref kl, .int 0, .int 0, .int 0])), (pl, .inr (1, [.int 0, .ref dz, .int 0])), (sl, .inr (1, [.int 0, .ref dz, .int 0])), (kl, .inr (1, [.int 0, .ref dz, .int 0]))]) hD hS hA [10, 11, 12, 13] rfl
    refine va_calli (va_runV (As := [.int a1]) (rest := []) ⟨hx, hb, hml, hown, hts⟩ (c0_X8_candidate l dC dI mm pl ig sl kl dz dz a1 _ hM0) (cwV 1 hts gL_law_X8_candidate rfl rfl rfl (by decide +kernel) ⟨Nat.le_of_ble_eq_true rfl, Nat.le_of_ble_eq_true rfl⟩) ⟨pr_blind, va_recv hKc hPc (ci := 10) (q0 := 0) rfl rfl, fun U hU hW => ⟨rfl, pr_mk hU hW hPc hKc hDc⟩⟩ rfl rfl hl.1 rfl (lv_room (Nat.le_of_ble_eq_true rfl)) dL_law_192 ⟨Nat.le_of_ble_eq_true rfl, Nat.le_of_ble_eq_true rfl⟩) hS (fun q _ h => hFc q h) hFc (fun r_8 u_7 t H1 locs ht hvm hw hB hz1 hk1 hS => ?_)
    obtain ⟨hP1, hK1, hD1⟩ := hB
    rw [ht] at hP1
    obtain ⟨hP, hD⟩ := va_join (wr := [(pa, .inr (3, [.ref p_v, .int 0, .ref p_st, .ref p_ib, .ref p_di, .ref p_wa, .ref p_se, .ref p_vh, .ref p_re])), (b0, .inl (cI, 6, .inl zi)), (b1, .inl (cZ, 6, .inl zi)), (b4, .inl (cI, 4, .inl zi)), (p_v, .inl (cI, 4, .inl zi)), (p_st, .inl (cI, 4, .inl zi)), (p_ib, .inl (cZ, 4, .inl zi)), (p_di, .inl (cI, 4, .inl zi)), (p_wa, .inl (cI, 4, .inl zi)), (p_se, .inl (cI, 4, .inl zi)), (ou, .inl (cJ, 1, .inr (.inl zl))), (od, .inl (cD, 1, .inr (.inr (.inr (.inl zd)))))]) (w1 := [(mm, .inr (10, [.int 1, .ref pl, .ref ig, .ref sl, .ref kl, .int 0, .int 0, .int 0]))]) hP hD [10, 11, 12, 13] [0, 1, 2, 3, 4, 5, 6, 7, 8, 9, 14, 15] rfl rfl (by decide) (by decide) hk1 hFc hP1 hD1
    generalize H1 = H at hP hS ⊢
    have hP : va_P (dC, dI) vwCl [(pa, .inr (3, [.ref p_v, .int 0, .ref p_st, .ref p_ib, .ref p_di, .ref p_wa, .ref p_se, .ref p_vh, .ref p_re])), (b0, .inl (cI, 6, .inl zi)), (b1, .inl (cZ, 6, .inl zi)), (b4, .inl (cI, 4, .inl zi)), (p_v, .inl (cI, 4, .inl zi)), (p_st, .inl (cI, 4, .inl zi)), (p_ib, .inl (cZ, 4, .inl zi)), (p_di, .inl (cI, 4, .inl zi)), (p_wa, .inl (cI, 4, .inl zi)), (p_se, .inl (cI, 4, .inl zi)), (ou, .inl (cJ, 1, .inr (.inl zl))), (od, .inl (cD, 1, .inr (.inr (.inr (.inl zd))))), (mm, .inr (10, [.int 1, .ref pl, .ref ig, .ref sl, .ref kl, .int 0, .int 0, .int 0]))] H := hP
    have hD : va_D A [(pa, .inr (3, [.ref p_v, .int 0, .ref p_st, .ref p_ib, .ref p_di, .ref p_wa, .ref p_se, .ref p_vh, .ref p_re])), (b0, .inl (cI, 6, .inl zi)), (b1, .inl (cZ, 6, .inl zi)), (b4, .inl (cI, 4, .inl zi)), (p_v, .inl (cI, 4, .inl zi)), (p_st, .inl (cI, 4, .inl zi)), (p_ib, .inl (cZ, 4, .inl zi)), (p_di, .inl (cI, 4, .inl zi)), (p_wa, .inl (cI, 4, .inl zi)), (p_se, .inl (cI, 4, .inl zi)), (ou, .inl (cJ, 1, .inr (.inl zl))), (od, .inl (cD, 1, .inr (.inr (.inr (.inl zd))))), (mm, .inr (10, [.int 1, .ref pl, .ref ig, .ref sl, .ref kl, .int 0, .int 0, .int 0]))] := hD
    refine W.widen (k := 119) (n := 756) (Nat.le_refl _) (Nat.le_refl _) ?_
    have hw : r_8 = 0 := hw
    subst hw
    refine lv_istore (lv' := [(7, .int 0), (6, .int 1), (5, .int 0), (4, .ref od), (3, .ref ou), (2, .ref mm), (1, .ref x), (0, .ref b)]) hx hb dL_law_195 hl (by decide) rfl (fun ls hl => ?_)
    refine lv_aload_n hx hb dL_law_197 rfl (lv_at hl 5 rfl) ?_
    have hPc := hP.sub (ws' := [(mm, .inr (10, [.int 1, .ref pl, .ref ig, .ref sl, .ref kl, .int 0, .int 0, .int 0]))]) [12] rfl
    have hDc := hD.sub (ws' := [(mm, .inr (10, [.int 1, .ref pl, .ref ig, .ref sl, .ref kl, .int 0, .int 0, .int 0]))]) [12] (by decide) rfl
    have hKc := hK.sub (tys' := []) [] rfl
    have hFc := va_free (wc := [(mm, .inr (10, [.int 1, .ref pl, .ref ig, .ref sl, .ref kl, .int 0, .int 0, .int 0]))]) hD hS hA [12] rfl
    refine va_calli (va_runV (As := []) (rest := []) ⟨hx, hb, hml, hown, hts⟩ (c_X8_thrown l dC dI mm pl ig sl kl (1 : Int32) (0 : Int32) (0 : Int32) (0 : Int32) _ ) (cwV 0 hts gL_law_X8_thrown rfl rfl rfl (by decide +kernel) ⟨Nat.le_of_ble_eq_true rfl, Nat.le_of_ble_eq_true rfl⟩) ⟨pr_blind, va_recv hKc hPc (ci := 10) (q0 := 0) rfl rfl, fun U hU hW => ⟨rfl, pr_mk hU hW hPc hKc hDc⟩⟩ rfl rfl hl.1 rfl (lv_room (Nat.le_of_ble_eq_true rfl)) dL_law_198 ⟨Nat.le_of_ble_eq_true rfl, Nat.le_of_ble_eq_true rfl⟩) hS (fun q _ h => hFc q h) hFc (fun r_10 u_9 t H1 locs ht hvm hw hB hz1 hk1 hS => ?_)
    obtain ⟨hP1, hK1, hD1⟩ := hB
    rw [ht] at hP1
    obtain ⟨hP, hD⟩ := va_join (wr := [(pa, .inr (3, [.ref p_v, .int 0, .ref p_st, .ref p_ib, .ref p_di, .ref p_wa, .ref p_se, .ref p_vh, .ref p_re])), (b0, .inl (cI, 6, .inl zi)), (b1, .inl (cZ, 6, .inl zi)), (b4, .inl (cI, 4, .inl zi)), (p_v, .inl (cI, 4, .inl zi)), (p_st, .inl (cI, 4, .inl zi)), (p_ib, .inl (cZ, 4, .inl zi)), (p_di, .inl (cI, 4, .inl zi)), (p_wa, .inl (cI, 4, .inl zi)), (p_se, .inl (cI, 4, .inl zi)), (ou, .inl (cJ, 1, .inr (.inl zl))), (od, .inl (cD, 1, .inr (.inr (.inr (.inl zd)))))]) (w1 := [(mm, .inr (10, [.int 1, .ref pl, .ref ig, .ref sl, .ref kl, .int 0, .int 0, .int 0]))]) hP hD [12] [0, 1, 2, 3, 4, 5, 6, 7, 8, 9, 10, 11] rfl rfl (by decide) (by decide) hk1 hFc hP1 hD1
    generalize H1 = H at hP hS ⊢
    have hP : va_P (dC, dI) vwCl [(pa, .inr (3, [.ref p_v, .int 0, .ref p_st, .ref p_ib, .ref p_di, .ref p_wa, .ref p_se, .ref p_vh, .ref p_re])), (b0, .inl (cI, 6, .inl zi)), (b1, .inl (cZ, 6, .inl zi)), (b4, .inl (cI, 4, .inl zi)), (p_v, .inl (cI, 4, .inl zi)), (p_st, .inl (cI, 4, .inl zi)), (p_ib, .inl (cZ, 4, .inl zi)), (p_di, .inl (cI, 4, .inl zi)), (p_wa, .inl (cI, 4, .inl zi)), (p_se, .inl (cI, 4, .inl zi)), (ou, .inl (cJ, 1, .inr (.inl zl))), (od, .inl (cD, 1, .inr (.inr (.inr (.inl zd))))), (mm, .inr (10, [.int 1, .ref pl, .ref ig, .ref sl, .ref kl, .int 0, .int 0, .int 0]))] H := hP
    have hD : va_D A [(pa, .inr (3, [.ref p_v, .int 0, .ref p_st, .ref p_ib, .ref p_di, .ref p_wa, .ref p_se, .ref p_vh, .ref p_re])), (b0, .inl (cI, 6, .inl zi)), (b1, .inl (cZ, 6, .inl zi)), (b4, .inl (cI, 4, .inl zi)), (p_v, .inl (cI, 4, .inl zi)), (p_st, .inl (cI, 4, .inl zi)), (p_ib, .inl (cZ, 4, .inl zi)), (p_di, .inl (cI, 4, .inl zi)), (p_wa, .inl (cI, 4, .inl zi)), (p_se, .inl (cI, 4, .inl zi)), (ou, .inl (cJ, 1, .inr (.inl zl))), (od, .inl (cD, 1, .inr (.inr (.inr (.inl zd))))), (mm, .inr (10, [.int 1, .ref pl, .ref ig, .ref sl, .ref kl, .int 0, .int 0, .int 0]))] := hD
    refine W.widen (k := 119) (n := 756) (Nat.le_refl _) (Nat.le_refl _) ?_
    have hw : r_10 = 1 := hw
    subst hw
    refine lv_iload hx hb dL_law_201 (lv_at hl 1 rfl) ?_
    refine lv_icmp_eq (tgt := 208) hx hb dL_law_203 (by decide) (fun _ => ?_) (fun h9 => absurd h9 (by decide))
    refine lv_iload hx hb dL_law_208 (lv_at hl 1 rfl) ?_
    refine lv_if_ne (tgt := 225) hx hb dL_law_210 (by decide) (fun _ => ?_) (fun h9 => absurd h9 (by decide))
    refine lv_goto (tgt := 2007) hx hb dL_law_225 (by decide) ?_
    exact law_tail l C0 hAe hS (lv_sub hl [2, 7] rfl) (Nat.le_of_ble_eq_true rfl) (Nat.le_of_ble_eq_true rfl)
  · have hG0 : ¬ a1 < 0 := fun h => hB0 (Or.inl h)
    have hH0 : ¬ 4 ≤ a1 := fun h => hB0 (Or.inr h)
    have hN0 : ¬ 3 < a1 := gP_g hH0
    refine lv_aload_n hx hb dL_law_172 rfl (lv_at hl 4 rfl) ?_
    refine lv_aload_n hx hb dL_law_173 rfl (lv_at hl 5 rfl) ?_
    refine lv_iload hx hb dL_law_174 (lv_at hl 0 rfl) ?_
    refine lv_iconst (v := 1) hx hb dL_law_176 (by decide) ?_
    refine lv_iadd hx hb dL_law_177 ?_
    refine lv_topi (fun y_11 ey_11 => ?_)
    obtain rfl : y_11 = 1 := ey_11.trans (by decide)
    refine va_sld hx hb hX hbl hbA hS (by unfold vp_in; decide) dL_law_178 ?_
    refine lv_topi (fun y_12 ey_12 => ?_)
    obtain rfl : a1 = y_12 := (ey_12.trans h_a1.symm).symm
    refine lv_aload_n hx hb dL_law_179 rfl (lv_at hl 2 rfl) ?_
    have hPc := hP.sub (ws' := [(x, .inr (7, [.ref bx, .ref po, .ref tr, .ref pa, .ref sp])), (bx, .inr (2, [.ref b0, .ref b1, .int 0, .int 0, .ref b4, .int 0, .ref b6, .int 0, .int 0, .int 0, .int 0])), (b0, .inl (cI, 6, .inl zi)), (b1, .inl (cZ, 6, .inl zi)), (ou, .inl (cJ, 1, .inr (.inl zl)))]) [0, 1, 3, 4, 16] rfl
    have hDc := hD.sub (ws' := [(x, .inr (7, [.ref bx, .ref po, .ref tr, .ref pa, .ref sp])), (bx, .inr (2, [.ref b0, .ref b1, .int 0, .int 0, .ref b4, .int 0, .ref b6, .int 0, .int 0, .int 0, .int 0])), (b0, .inl (cI, 6, .inl zi)), (b1, .inl (cZ, 6, .inl zi)), (ou, .inl (cJ, 1, .inr (.inl zl)))]) [0, 1, 3, 4, 16] (by decide) rfl
    have hKc := hK.sub (tys' := [(cI, .int), (cZ, .boolean), (cJ, .long)]) [0, 1, 2] rfl
    have hFc := va_free (wc := [(x, .inr (7, [.ref bx, .ref po, .ref tr, .ref pa, .ref sp])), (bx, .inr (2, [.ref b0, .ref b1, .int 0, .int 0, .ref b4, .int 0, .ref b6, .int 0, .int 0, .int 0, .int 0])), (b0, .inl (cI, 6, .inl zi)), (b1, .inl (cZ, 6, .inl zi)), (ou, .inl (cJ, 1, .inr (.inl zl)))]) hD hS hA [0, 1, 3, 4, 16] rfl
    refine va_calli (vx_runSW (As := [.ref x, .int a1, .ref ou]) (rest := []) ⟨hx, hb, hml, hown, hts⟩ (h_L_candidate l dC dI x po tr sp bx b0 b1 b4 b6 pa cI cZ a1 ou cJ _ hG0 hH0) (vx_cwSW 3 hts gL_law_L_candidate rfl rfl rfl (by decide +kernel) ⟨Nat.le_of_ble_eq_true rfl, Nat.le_of_ble_eq_true rfl⟩) ⟨pr_blind, fun U hU hW => ⟨rfl, pr_mk hU hW hPc hKc hDc⟩⟩ rfl rfl hl.1 rfl (lv_room (Nat.le_of_ble_eq_true rfl)) dL_law_180 ⟨Nat.le_of_ble_eq_true rfl, Nat.le_of_ble_eq_true rfl⟩) hS (fun q _ h => hFc q h) hFc (fun r_14 u_13 t H1 locs ht hvm hw hB hz1 hk1 hS => ?_)
    obtain ⟨hP1, hK1, hD1⟩ := hB
    rw [ht] at hP1
    obtain ⟨hP, hD⟩ := va_join (wr := [(pa, .inr (3, [.ref p_v, .int 0, .ref p_st, .ref p_ib, .ref p_di, .ref p_wa, .ref p_se, .ref p_vh, .ref p_re])), (b4, .inl (cI, 4, .inl zi)), (p_v, .inl (cI, 4, .inl zi)), (p_st, .inl (cI, 4, .inl zi)), (p_ib, .inl (cZ, 4, .inl zi)), (p_di, .inl (cI, 4, .inl zi)), (p_wa, .inl (cI, 4, .inl zi)), (p_se, .inl (cI, 4, .inl zi)), (mm, .inr (10, [.int 0, .ref pl, .ref ig, .ref sl, .ref kl, .int 0, .int 0, .int 0])), (pl, .inr (1, [.int 0, .ref dz, .int 0])), (sl, .inr (1, [.int 0, .ref dz, .int 0])), (kl, .inr (1, [.int 0, .ref dz, .int 0])), (od, .inl (cD, 1, .inr (.inr (.inr (.inl zd)))))]) (w1 := [(ou, .inl (cJ, 1, .inr (.inl zl)))]) hP hD [0, 1, 3, 4, 16] [2, 5, 6, 7, 8, 9, 10, 11, 12, 13, 14, 15, 17] rfl rfl (by decide) (by decide) hk1 hFc hP1 hD1
    generalize H1 = H at hP hS ⊢
    have hP : va_P (dC, dI) vwCl [(pa, .inr (3, [.ref p_v, .int 0, .ref p_st, .ref p_ib, .ref p_di, .ref p_wa, .ref p_se, .ref p_vh, .ref p_re])), (b4, .inl (cI, 4, .inl zi)), (p_v, .inl (cI, 4, .inl zi)), (p_st, .inl (cI, 4, .inl zi)), (p_ib, .inl (cZ, 4, .inl zi)), (p_di, .inl (cI, 4, .inl zi)), (p_wa, .inl (cI, 4, .inl zi)), (p_se, .inl (cI, 4, .inl zi)), (mm, .inr (10, [.int 0, .ref pl, .ref ig, .ref sl, .ref kl, .int 0, .int 0, .int 0])), (pl, .inr (1, [.int 0, .ref dz, .int 0])), (sl, .inr (1, [.int 0, .ref dz, .int 0])), (kl, .inr (1, [.int 0, .ref dz, .int 0])), (od, .inl (cD, 1, .inr (.inr (.inr (.inl zd))))), (ou, .inl (cJ, 1, .inr (.inl zl)))] H := hP
    have hD : va_D A [(pa, .inr (3, [.ref p_v, .int 0, .ref p_st, .ref p_ib, .ref p_di, .ref p_wa, .ref p_se, .ref p_vh, .ref p_re])), (b4, .inl (cI, 4, .inl zi)), (p_v, .inl (cI, 4, .inl zi)), (p_st, .inl (cI, 4, .inl zi)), (p_ib, .inl (cZ, 4, .inl zi)), (p_di, .inl (cI, 4, .inl zi)), (p_wa, .inl (cI, 4, .inl zi)), (p_se, .inl (cI, 4, .inl zi)), (mm, .inr (10, [.int 0, .ref pl, .ref ig, .ref sl, .ref kl, .int 0, .int 0, .int 0])), (pl, .inr (1, [.int 0, .ref dz, .int 0])), (sl, .inr (1, [.int 0, .ref dz, .int 0])), (kl, .inr (1, [.int 0, .ref dz, .int 0])), (od, .inl (cD, 1, .inr (.inr (.inr (.inl zd))))), (ou, .inl (cJ, 1, .inr (.inl zl)))] := hD
    refine W.widen (k := 118) (n := 750) (Nat.le_refl _) (Nat.le_refl _) ?_
    have hw : r_14 = 0 := hw
    subst hw
    refine lv_istore (lv' := [(6, .int 0), (5, .int 0), (4, .ref od), (3, .ref ou), (2, .ref mm), (1, .ref x), (0, .ref b)]) hx hb dL_law_183 hl (by decide) rfl (fun ls hl => ?_)
    refine lv_aload_n hx hb dL_law_185 rfl (lv_at hl 4 rfl) ?_
    refine lv_aload_n hx hb dL_law_186 rfl (lv_at hl 6 rfl) ?_
    refine lv_iload hx hb dL_law_187 (lv_at hl 1 rfl) ?_
    refine lv_iconst (v := 1) hx hb dL_law_189 (by decide) ?_
    refine lv_iadd hx hb dL_law_190 ?_
    refine lv_topi (fun y_15 ey_15 => ?_)
    obtain rfl : y_15 = 1 := ey_15.trans (by decide)
    refine va_sld hx hb hX hbl hbA hS (by unfold vp_in; decide) dL_law_191 ?_
    refine lv_topi (fun y_16 ey_16 => ?_)
    obtain rfl : a1 = y_16 := (ey_16.trans h_a1.symm).symm
    have hPc := hP.sub (ws' := [(mm, .inr (10, [.int 0, .ref pl, .ref ig, .ref sl, .ref kl, .int 0, .int 0, .int 0])), (pl, .inr (1, [.int 0, .ref dz, .int 0])), (sl, .inr (1, [.int 0, .ref dz, .int 0])), (kl, .inr (1, [.int 0, .ref dz, .int 0]))]) [8, 9, 10, 11] rfl
    have hDc := hD.sub (ws' := [(mm, .inr (10, [.int 0, .ref pl, .ref ig, .ref sl, .ref kl, .int 0, .int 0, .int 0])), (pl, .inr (1, [.int 0, .ref dz, .int 0])), (sl, .inr (1, [.int 0, .ref dz, .int 0])), (kl, .inr (1, [.int 0, .ref dz, .int 0]))]) [8, 9, 10, 11] (by decide) rfl
    have hKc := hK.sub (tys' := []) [] rfl
    have hFc := va_free (wc := [(mm, .inr (10, [.int 0, .ref pl, .ref ig, .ref sl, .ref kl, .int 0, .int 0, .int 0])), (pl, .inr (1, [.int 0, .ref dz, .int 0])), (sl, .inr (1, [.int 0, .ref dz, .int 0])), (kl, .inr (1, [.int 0, .ref dz, .int 0]))]) hD hS hA [8, 9, 10, 11] rfl
    refine va_calli (va_runV (As := [.int a1]) (rest := []) ⟨hx, hb, hml, hown, hts⟩ (c_X8_candidate l dC dI mm pl ig sl kl dz dz tc ad a1 _ (up3 hG0 hN0)) (cwV 1 hts gL_law_X8_candidate rfl rfl rfl (by decide +kernel) ⟨Nat.le_of_ble_eq_true rfl, Nat.le_of_ble_eq_true rfl⟩) ⟨pe_blind ca_bl, va_recv hKc hPc (ci := 10) (q0 := 0) rfl rfl, fun U hU hW => ⟨rfl, pr_mk hU hW hPc hKc hDc, ca_mk hU hW hS hFc (lx_c hLX)⟩⟩ rfl rfl hl.1 rfl (lv_room (Nat.le_of_ble_eq_true rfl)) dL_law_192 ⟨Nat.le_of_ble_eq_true rfl, Nat.le_of_ble_eq_true rfl⟩) hS (fun q _ h => hFc q h) hFc (fun r_18 u_17 t H1 locs ht hvm hw hB hz1 hk1 hS => ?_)
    obtain ⟨hP1, hK1, hD1⟩ := hB
    rw [ht] at hP1
    obtain ⟨hP, hD⟩ := va_join (wr := [(pa, .inr (3, [.ref p_v, .int 0, .ref p_st, .ref p_ib, .ref p_di, .ref p_wa, .ref p_se, .ref p_vh, .ref p_re])), (b4, .inl (cI, 4, .inl zi)), (p_v, .inl (cI, 4, .inl zi)), (p_st, .inl (cI, 4, .inl zi)), (p_ib, .inl (cZ, 4, .inl zi)), (p_di, .inl (cI, 4, .inl zi)), (p_wa, .inl (cI, 4, .inl zi)), (p_se, .inl (cI, 4, .inl zi)), (od, .inl (cD, 1, .inr (.inr (.inr (.inl zd))))), (ou, .inl (cJ, 1, .inr (.inl zl)))]) (w1 := [(mm, .inr (10, [.int 0, .ref pl, .ref ig, .ref sl, .ref kl, .int 0, .int 0, .int 0]))]) hP hD [8, 9, 10, 11] [0, 1, 2, 3, 4, 5, 6, 7, 12, 13] rfl rfl (by decide) (by decide) hk1 hFc hP1 hD1
    generalize H1 = H at hP hS ⊢
    have hP : va_P (dC, dI) vwCl [(pa, .inr (3, [.ref p_v, .int 0, .ref p_st, .ref p_ib, .ref p_di, .ref p_wa, .ref p_se, .ref p_vh, .ref p_re])), (b4, .inl (cI, 4, .inl zi)), (p_v, .inl (cI, 4, .inl zi)), (p_st, .inl (cI, 4, .inl zi)), (p_ib, .inl (cZ, 4, .inl zi)), (p_di, .inl (cI, 4, .inl zi)), (p_wa, .inl (cI, 4, .inl zi)), (p_se, .inl (cI, 4, .inl zi)), (od, .inl (cD, 1, .inr (.inr (.inr (.inl zd))))), (ou, .inl (cJ, 1, .inr (.inl zl))), (mm, .inr (10, [.int 0, .ref pl, .ref ig, .ref sl, .ref kl, .int 0, .int 0, .int 0]))] H := hP
    have hD : va_D A [(pa, .inr (3, [.ref p_v, .int 0, .ref p_st, .ref p_ib, .ref p_di, .ref p_wa, .ref p_se, .ref p_vh, .ref p_re])), (b4, .inl (cI, 4, .inl zi)), (p_v, .inl (cI, 4, .inl zi)), (p_st, .inl (cI, 4, .inl zi)), (p_ib, .inl (cZ, 4, .inl zi)), (p_di, .inl (cI, 4, .inl zi)), (p_wa, .inl (cI, 4, .inl zi)), (p_se, .inl (cI, 4, .inl zi)), (od, .inl (cD, 1, .inr (.inr (.inr (.inl zd))))), (ou, .inl (cJ, 1, .inr (.inl zl))), (mm, .inr (10, [.int 0, .ref pl, .ref ig, .ref sl, .ref kl, .int 0, .int 0, .int 0]))] := hD
    refine W.widen (k := 119) (n := 760) (Nat.le_of_ble_eq_true rfl) (Nat.le_of_ble_eq_true rfl) ?_
    have hw : r_18 = 0 := hw
    subst hw
    refine lv_istore (lv' := [(7, .int 0), (6, .int 0), (5, .int 0), (4, .ref od), (3, .ref ou), (2, .ref mm), (1, .ref x), (0, .ref b)]) hx hb dL_law_195 hl (by decide) rfl (fun ls hl => ?_)
    refine lv_aload_n hx hb dL_law_197 rfl (lv_at hl 5 rfl) ?_
    have hPc := hP.sub (ws' := [(mm, .inr (10, [.int 0, .ref pl, .ref ig, .ref sl, .ref kl, .int 0, .int 0, .int 0]))]) [10] rfl
    have hDc := hD.sub (ws' := [(mm, .inr (10, [.int 0, .ref pl, .ref ig, .ref sl, .ref kl, .int 0, .int 0, .int 0]))]) [10] (by decide) rfl
    have hKc := hK.sub (tys' := []) [] rfl
    have hFc := va_free (wc := [(mm, .inr (10, [.int 0, .ref pl, .ref ig, .ref sl, .ref kl, .int 0, .int 0, .int 0]))]) hD hS hA [10] rfl
    refine va_calli (va_runV (As := []) (rest := []) ⟨hx, hb, hml, hown, hts⟩ (c_X8_thrown l dC dI mm pl ig sl kl (0 : Int32) (0 : Int32) (0 : Int32) (0 : Int32) _ ) (cwV 0 hts gL_law_X8_thrown rfl rfl rfl (by decide +kernel) ⟨Nat.le_of_ble_eq_true rfl, Nat.le_of_ble_eq_true rfl⟩) ⟨pr_blind, va_recv hKc hPc (ci := 10) (q0 := 0) rfl rfl, fun U hU hW => ⟨rfl, pr_mk hU hW hPc hKc hDc⟩⟩ rfl rfl hl.1 rfl (lv_room (Nat.le_of_ble_eq_true rfl)) dL_law_198 ⟨Nat.le_of_ble_eq_true rfl, Nat.le_of_ble_eq_true rfl⟩) hS (fun q _ h => hFc q h) hFc (fun r_20 u_19 t H1 locs ht hvm hw hB hz1 hk1 hS => ?_)
    obtain ⟨hP1, hK1, hD1⟩ := hB
    rw [ht] at hP1
    obtain ⟨hP, hD⟩ := va_join (wr := [(pa, .inr (3, [.ref p_v, .int 0, .ref p_st, .ref p_ib, .ref p_di, .ref p_wa, .ref p_se, .ref p_vh, .ref p_re])), (b4, .inl (cI, 4, .inl zi)), (p_v, .inl (cI, 4, .inl zi)), (p_st, .inl (cI, 4, .inl zi)), (p_ib, .inl (cZ, 4, .inl zi)), (p_di, .inl (cI, 4, .inl zi)), (p_wa, .inl (cI, 4, .inl zi)), (p_se, .inl (cI, 4, .inl zi)), (od, .inl (cD, 1, .inr (.inr (.inr (.inl zd))))), (ou, .inl (cJ, 1, .inr (.inl zl)))]) (w1 := [(mm, .inr (10, [.int 0, .ref pl, .ref ig, .ref sl, .ref kl, .int 0, .int 0, .int 0]))]) hP hD [10] [0, 1, 2, 3, 4, 5, 6, 7, 8, 9] rfl rfl (by decide) (by decide) hk1 hFc hP1 hD1
    generalize H1 = H at hP hS ⊢
    have hP : va_P (dC, dI) vwCl [(pa, .inr (3, [.ref p_v, .int 0, .ref p_st, .ref p_ib, .ref p_di, .ref p_wa, .ref p_se, .ref p_vh, .ref p_re])), (b4, .inl (cI, 4, .inl zi)), (p_v, .inl (cI, 4, .inl zi)), (p_st, .inl (cI, 4, .inl zi)), (p_ib, .inl (cZ, 4, .inl zi)), (p_di, .inl (cI, 4, .inl zi)), (p_wa, .inl (cI, 4, .inl zi)), (p_se, .inl (cI, 4, .inl zi)), (od, .inl (cD, 1, .inr (.inr (.inr (.inl zd))))), (ou, .inl (cJ, 1, .inr (.inl zl))), (mm, .inr (10, [.int 0, .ref pl, .ref ig, .ref sl, .ref kl, .int 0, .int 0, .int 0]))] H := hP
    have hD : va_D A [(pa, .inr (3, [.ref p_v, .int 0, .ref p_st, .ref p_ib, .ref p_di, .ref p_wa, .ref p_se, .ref p_vh, .ref p_re])), (b4, .inl (cI, 4, .inl zi)), (p_v, .inl (cI, 4, .inl zi)), (p_st, .inl (cI, 4, .inl zi)), (p_ib, .inl (cZ, 4, .inl zi)), (p_di, .inl (cI, 4, .inl zi)), (p_wa, .inl (cI, 4, .inl zi)), (p_se, .inl (cI, 4, .inl zi)), (od, .inl (cD, 1, .inr (.inr (.inr (.inl zd))))), (ou, .inl (cJ, 1, .inr (.inl zl))), (mm, .inr (10, [.int 0, .ref pl, .ref ig, .ref sl, .ref kl, .int 0, .int 0, .int 0]))] := hD
    refine W.widen (k := 119) (n := 760) (Nat.le_refl _) (Nat.le_refl _) ?_
    have hw : r_20 = 0 := hw
    subst hw
    refine lv_iload hx hb dL_law_201 (lv_at hl 1 rfl) ?_
    refine lv_icmp_eq (tgt := 208) hx hb dL_law_203 (by decide) (fun _ => ?_) (fun h9 => absurd h9 (by decide))
    refine lv_iload hx hb dL_law_208 (lv_at hl 1 rfl) ?_
    refine lv_if_ne (tgt := 225) hx hb dL_law_210 (by decide) (fun h9 => absurd h9 (by decide)) (fun _ => ?_)
    refine lv_aload_n hx hb dL_law_213 rfl (lv_at hl 4 rfl) ?_
    refine lv_iconst (v := 0) hx hb dL_law_214 (by decide) ?_
    refine va_lald hx hb hK hP 9 2 rfl rfl (by unfold vp_in; decide) dL_law_215 ?_
    refine lv_topl (fun y_21 ey_21 => ?_)
    obtain rfl : y_21 = 0 := ey_21
    refine lv_iload hx hb dL_law_216 (lv_at hl 0 rfl) ?_
    refine lv_i2l (v := 0) hx hb dL_law_218 (by decide) ?_
    refine W.lcmp hx hb dL_law_219 ?_
    refine lv_topi (fun y_22 ey_22 => ?_)
    obtain rfl : y_22 = 0 := ey_22.trans (lcmp_self _)
    refine lv_if_eq (tgt := 225) hx hb dL_law_220 (by decide) (fun _ => ?_) (fun h9 => absurd h9 (by decide))
    refine lv_goto (tgt := 2007) hx hb dL_law_225 (by decide) ?_
    exact law_tail l C0 hAe hS (lv_sub hl [2, 7] rfl) (Nat.le_of_ble_eq_true rfl) (Nat.le_of_ble_eq_true rfl)

set_option maxHeartbeats 4000000 in
set_option maxRecDepth 100000 in
theorem case_withdraw {p : Program} {e : Env} {s : State} {m : MethodId} {below : List Frame} {meth : Method} {c : Code} (l : Launch) (hfl : l.stackTraces = false) {b : Nat} {xs : Nat → Int32} (C0 : lw_At p s m meth c b 5 xs) {dz tc : Nat} {ad : Nat → Nat} (hLX : lx_ (fun q : Nat => s.heap.size ≤ q) dz tc ad s) (dC : Nat → ClassId) (dI : Nat → Nat → Nat) {x : Nat} {po : Nat} {tr : Nat} {sp : Nat} {bx : Nat} {b0 : Nat} {b1 : Nat} {b4 : Nat} {b6 : Nat} {pa : Nat} {p_v : Nat} {p_st : Nat} {p_ib : Nat} {p_di : Nat} {p_wa : Nat} {p_se : Nat} {p_vh : Nat} {p_re : Nat} {mm : Nat} {pl : Nat} {ig : Nat} {sl : Nat} {kl : Nat} {ou : Nat} {od : Nat} {cI : ClassId} {cZ : ClassId} {cJ : ClassId} {cD : ClassId} {H : Heap} {locs : List Loc} {ls : Array Slot} (hK : va_K (dC, dI) vwCl [(cI, .int), (cZ, .boolean), (cJ, .long), (cD, .double)] s) (hP : va_P (dC, dI) vwCl [(x, .inr (7, [.ref bx, .ref po, .ref tr, .ref pa, .ref sp])), (bx, .inr (2, [.ref b0, .ref b1, .int 0, .int 0, .ref b4, .int 0, .ref b6, .int 0, .int 0, .int 0, .int 0])), (pa, .inr (3, [.ref p_v, .int 0, .ref p_st, .ref p_ib, .ref p_di, .ref p_wa, .ref p_se, .ref p_vh, .ref p_re])), (b0, .inl (cI, 6, .inl zi)), (b1, .inl (cZ, 6, .inl zi)), (b4, .inl (cI, 4, .inl zi)), (p_v, .inl (cI, 4, .inl zi)), (p_st, .inl (cI, 4, .inl zi)), (p_ib, .inl (cZ, 4, .inl zi)), (p_di, .inl (cI, 4, .inl zi)), (p_wa, .inl (cI, 4, .inl zi)), (p_se, .inl (cI, 4, .inl zi)), (mm, .inr (10, [.int 0, .ref pl, .ref ig, .ref sl, .ref kl, .int 0, .int 0, .int 0])), (pl, .inr (1, [.int 0, .ref dz, .int 0])), (sl, .inr (1, [.int 0, .ref dz, .int 0])), (kl, .inr (1, [.int 0, .ref dz, .int 0])), (ou, .inl (cJ, 1, .inr (.inl zl))), (od, .inl (cD, 1, .inr (.inr (.inr (.inl zd)))))] H) (hD : va_D (fun q : Nat => s.heap.size ≤ q) [(x, .inr (7, [.ref bx, .ref po, .ref tr, .ref pa, .ref sp])), (bx, .inr (2, [.ref b0, .ref b1, .int 0, .int 0, .ref b4, .int 0, .ref b6, .int 0, .int 0, .int 0, .int 0])), (pa, .inr (3, [.ref p_v, .int 0, .ref p_st, .ref p_ib, .ref p_di, .ref p_wa, .ref p_se, .ref p_vh, .ref p_re])), (b0, .inl (cI, 6, .inl zi)), (b1, .inl (cZ, 6, .inl zi)), (b4, .inl (cI, 4, .inl zi)), (p_v, .inl (cI, 4, .inl zi)), (p_st, .inl (cI, 4, .inl zi)), (p_ib, .inl (cZ, 4, .inl zi)), (p_di, .inl (cI, 4, .inl zi)), (p_wa, .inl (cI, 4, .inl zi)), (p_se, .inl (cI, 4, .inl zi)), (mm, .inr (10, [.int 0, .ref pl, .ref ig, .ref sl, .ref kl, .int 0, .int 0, .int 0])), (pl, .inr (1, [.int 0, .ref dz, .int 0])), (sl, .inr (1, [.int 0, .ref dz, .int 0])), (kl, .inr (1, [.int 0, .ref dz, .int 0])), (ou, .inl (cJ, 1, .inr (.inl zl))), (od, .inl (cD, 1, .inr (.inr (.inr (.inl zd)))))]) (hS : va_S (fun q : Nat => s.heap.size ≤ q) s.heap H locs) (hl : lv_has ls 9 [(5, .int 0), (4, .ref od), (3, .ref ou), (2, .ref mm), (1, .ref x), (0, .ref b)]) : W p l e room_1 s m #[Value.ref b] below meth c H locs 118 750 (lw_Z below #[Value.ref b] s) (F0 m 228 ls []) := by
  obtain ⟨hx, hb, hr, hml, hown, hts0, hX, hbl, hlocks, hgv⟩ := id C0
  have hts : ∀ w ∈ lw_tbl, w.before #[Value.ref b] s = true := hts0
  have hbA : ¬ (fun q : Nat => s.heap.size ≤ q) b := Nat.not_le.mpr hbl
  have hA : ∀ q : Nat, s.heap.size ≤ q → (fun q : Nat => s.heap.size ≤ q) q := fun _ h => h
  generalize hAe : (fun q : Nat => s.heap.size ≤ q) = A at hD hS hbA hA hLX
  obtain ⟨a1, h_a1⟩ : ∃ z, z = xs ((1 : Int32).toNatClampNeg) := ⟨_, rfl⟩
  obtain ⟨a2, h_a2⟩ : ∃ z, z = xs ((2 : Int32).toNatClampNeg) := ⟨_, rfl⟩
  obtain ⟨a3, h_a3⟩ : ∃ z, z = xs ((3 : Int32).toNatClampNeg) := ⟨_, rfl⟩
  obtain ⟨a4, h_a4⟩ : ∃ z, z = xs ((4 : Int32).toNatClampNeg) := ⟨_, rfl⟩
  refine lv_aload_n hx hb dL_law_228 rfl (lv_at hl 4 rfl) ?_
  refine lv_aload_n hx hb dL_law_229 rfl (lv_at hl 5 rfl) ?_
  refine lv_iload hx hb dL_law_230 (lv_at hl 0 rfl) ?_
  refine lv_iconst (v := 1) hx hb dL_law_232 (by decide) ?_
  refine lv_iadd hx hb dL_law_233 ?_
  refine lv_topi (fun y_1 ey_1 => ?_)
  obtain rfl : y_1 = 1 := ey_1.trans (by decide)
  refine va_sld hx hb hX hbl hbA hS (by unfold vp_in; decide) dL_law_234 ?_
  refine lv_topi (fun y_2 ey_2 => ?_)
  obtain rfl : a1 = y_2 := (ey_2.trans h_a1.symm).symm
  refine lv_aload_n hx hb dL_law_235 rfl (lv_at hl 2 rfl) ?_
  have hPc := hP.sub (ws' := [(x, .inr (7, [.ref bx, .ref po, .ref tr, .ref pa, .ref sp])), (bx, .inr (2, [.ref b0, .ref b1, .int 0, .int 0, .ref b4, .int 0, .ref b6, .int 0, .int 0, .int 0, .int 0]))]) [0, 1] rfl
  have hDc := hD.sub (ws' := [(x, .inr (7, [.ref bx, .ref po, .ref tr, .ref pa, .ref sp])), (bx, .inr (2, [.ref b0, .ref b1, .int 0, .int 0, .ref b4, .int 0, .ref b6, .int 0, .int 0, .int 0, .int 0]))]) [0, 1] (by decide) rfl
  have hKc := hK.sub (tys' := []) [] rfl
  have hFc := va_free (wc := [(x, .inr (7, [.ref bx, .ref po, .ref tr, .ref pa, .ref sp])), (bx, .inr (2, [.ref b0, .ref b1, .int 0, .int 0, .ref b4, .int 0, .ref b6, .int 0, .int 0, .int 0, .int 0]))]) hD hS hA [0, 1] rfl
  refine va_calli (vx_runSW (As := [.ref x, .int a1, .ref ou]) (rest := []) ⟨hx, hb, hml, hown, hts⟩ (h0_L_withdraw l hfl dC dI x po tr sp pa bx b0 b1 b4 b6 a1 ou ((lx_s296 hLX).choose) ((lx_s296 hLX).choose_spec.choose) _ ) (vx_cwSW 3 hts gL_law_L_withdraw rfl rfl rfl (by decide +kernel) ⟨Nat.le_of_ble_eq_true rfl, Nat.le_of_ble_eq_true rfl⟩) ⟨pn_blind (fun _ _ _ _ h => h), fun U hU hW => ⟨rfl, pr_mk hU hW hPc hKc hDc, xs_mk hU hW hS hFc (lx_xo hLX (lx_s296 hLX).choose_spec.choose_spec), trivial⟩⟩ rfl rfl hl.1 rfl (lv_room (Nat.le_of_ble_eq_true rfl)) dL_law_236 ⟨Nat.le_of_ble_eq_true rfl, Nat.le_of_ble_eq_true rfl⟩) hS (fun q _ h => hFc q h) hFc (fun r_4 u_3 t H1 locs ht hvm hw hB hz1 hk1 hS => ?_)
  obtain ⟨hP1, hK1, hD1⟩ := hB
  rw [ht] at hP1
  obtain ⟨hP, hD⟩ := va_join (wr := [(pa, .inr (3, [.ref p_v, .int 0, .ref p_st, .ref p_ib, .ref p_di, .ref p_wa, .ref p_se, .ref p_vh, .ref p_re])), (b0, .inl (cI, 6, .inl zi)), (b1, .inl (cZ, 6, .inl zi)), (b4, .inl (cI, 4, .inl zi)), (p_v, .inl (cI, 4, .inl zi)), (p_st, .inl (cI, 4, .inl zi)), (p_ib, .inl (cZ, 4, .inl zi)), (p_di, .inl (cI, 4, .inl zi)), (p_wa, .inl (cI, 4, .inl zi)), (p_se, .inl (cI, 4, .inl zi)), (mm, .inr (10, [.int 0, .ref pl, .ref ig, .ref sl, .ref kl, .int 0, .int 0, .int 0])), (pl, .inr (1, [.int 0, .ref dz, .int 0])), (sl, .inr (1, [.int 0, .ref dz, .int 0])), (kl, .inr (1, [.int 0, .ref dz, .int 0])), (ou, .inl (cJ, 1, .inr (.inl zl))), (od, .inl (cD, 1, .inr (.inr (.inr (.inl zd)))))]) (w1 := []) hP hD [0, 1] [2, 3, 4, 5, 6, 7, 8, 9, 10, 11, 12, 13, 14, 15, 16, 17] rfl rfl (by decide) (by decide) hk1 hFc hP1 hD1
  generalize H1 = H at hP hS ⊢
  have hP : va_P (dC, dI) vwCl [(pa, .inr (3, [.ref p_v, .int 0, .ref p_st, .ref p_ib, .ref p_di, .ref p_wa, .ref p_se, .ref p_vh, .ref p_re])), (b0, .inl (cI, 6, .inl zi)), (b1, .inl (cZ, 6, .inl zi)), (b4, .inl (cI, 4, .inl zi)), (p_v, .inl (cI, 4, .inl zi)), (p_st, .inl (cI, 4, .inl zi)), (p_ib, .inl (cZ, 4, .inl zi)), (p_di, .inl (cI, 4, .inl zi)), (p_wa, .inl (cI, 4, .inl zi)), (p_se, .inl (cI, 4, .inl zi)), (mm, .inr (10, [.int 0, .ref pl, .ref ig, .ref sl, .ref kl, .int 0, .int 0, .int 0])), (pl, .inr (1, [.int 0, .ref dz, .int 0])), (sl, .inr (1, [.int 0, .ref dz, .int 0])), (kl, .inr (1, [.int 0, .ref dz, .int 0])), (ou, .inl (cJ, 1, .inr (.inl zl))), (od, .inl (cD, 1, .inr (.inr (.inr (.inl zd)))))] H := hP
  have hD : va_D A [(pa, .inr (3, [.ref p_v, .int 0, .ref p_st, .ref p_ib, .ref p_di, .ref p_wa, .ref p_se, .ref p_vh, .ref p_re])), (b0, .inl (cI, 6, .inl zi)), (b1, .inl (cZ, 6, .inl zi)), (b4, .inl (cI, 4, .inl zi)), (p_v, .inl (cI, 4, .inl zi)), (p_st, .inl (cI, 4, .inl zi)), (p_ib, .inl (cZ, 4, .inl zi)), (p_di, .inl (cI, 4, .inl zi)), (p_wa, .inl (cI, 4, .inl zi)), (p_se, .inl (cI, 4, .inl zi)), (mm, .inr (10, [.int 0, .ref pl, .ref ig, .ref sl, .ref kl, .int 0, .int 0, .int 0])), (pl, .inr (1, [.int 0, .ref dz, .int 0])), (sl, .inr (1, [.int 0, .ref dz, .int 0])), (kl, .inr (1, [.int 0, .ref dz, .int 0])), (ou, .inl (cJ, 1, .inr (.inl zl))), (od, .inl (cD, 1, .inr (.inr (.inr (.inl zd)))))] := hD
  refine W.widen (k := 119) (n := 756) (Nat.le_of_ble_eq_true rfl) (Nat.le_of_ble_eq_true rfl) ?_
  have hw : r_4 = 1 := hw
  subst hw
  refine lv_istore (lv' := [(6, .int 1), (5, .int 0), (4, .ref od), (3, .ref ou), (2, .ref mm), (1, .ref x), (0, .ref b)]) hx hb dL_law_239 hl (by decide) rfl (fun ls hl => ?_)
  refine lv_aload_n hx hb dL_law_241 rfl (lv_at hl 4 rfl) ?_
  refine lv_aload_n hx hb dL_law_242 rfl (lv_at hl 6 rfl) ?_
  refine lv_iload hx hb dL_law_243 (lv_at hl 1 rfl) ?_
  refine lv_iconst (v := 1) hx hb dL_law_245 (by decide) ?_
  refine lv_iadd hx hb dL_law_246 ?_
  refine lv_topi (fun y_5 ey_5 => ?_)
  obtain rfl : y_5 = 1 := ey_5.trans (by decide)
  refine va_sld hx hb hX hbl hbA hS (by unfold vp_in; decide) dL_law_247 ?_
  refine lv_topi (fun y_6 ey_6 => ?_)
  obtain rfl : a1 = y_6 := (ey_6.trans h_a1.symm).symm
  have hPc := hP.sub (ws' := [(mm, .inr (10, [.int 0, .ref pl, .ref ig, .ref sl, .ref kl, .int 0, .int 0, .int 0])), (pl, .inr (1, [.int 0, .ref dz, .int 0])), (sl, .inr (1, [.int 0, .ref dz, .int 0])), (kl, .inr (1, [.int 0, .ref dz, .int 0]))]) [10, 11, 12, 13] rfl
  have hDc := hD.sub (ws' := [(mm, .inr (10, [.int 0, .ref pl, .ref ig, .ref sl, .ref kl, .int 0, .int 0, .int 0])), (pl, .inr (1, [.int 0, .ref dz, .int 0])), (sl, .inr (1, [.int 0, .ref dz, .int 0])), (kl, .inr (1, [.int 0, .ref dz, .int 0]))]) [10, 11, 12, 13] (by decide) rfl
  have hKc := hK.sub (tys' := []) [] rfl
  have hFc := va_free (wc := [(mm, .inr (10, [.int 0, .ref pl, .ref ig, .ref sl, .ref kl, .int 0, .int 0, .int 0])), (pl, .inr (1, [.int 0, .ref dz, .int 0])), (sl, .inr (1, [.int 0, .ref dz, .int 0])), (kl, .inr (1, [.int 0, .ref dz, .int 0]))]) hD hS hA [10, 11, 12, 13] rfl
  refine va_calli (va_runV (As := [.int a1]) (rest := []) ⟨hx, hb, hml, hown, hts⟩ (c_X8_withdraw l dC dI mm pl ig sl kl dz a1 _ ) (cwV 1 hts gL_law_X8_withdraw rfl rfl rfl (by decide +kernel) ⟨Nat.le_of_ble_eq_true rfl, Nat.le_of_ble_eq_true rfl⟩) ⟨pe_blind mo_bl, va_recv hKc hPc (ci := 10) (q0 := 0) rfl rfl, fun U hU hW => ⟨rfl, pr_mk hU hW hPc hKc hDc, mo_mk hW (lx_m hLX)⟩⟩ rfl rfl hl.1 rfl (lv_room (Nat.le_of_ble_eq_true rfl)) dL_law_248 ⟨Nat.le_of_ble_eq_true rfl, Nat.le_of_ble_eq_true rfl⟩) hS (fun q _ h => hFc q h) hFc (fun r_8 u_7 t H1 locs ht hvm hw hB hz1 hk1 hS => ?_)
  obtain ⟨hP1, hK1, hD1⟩ := hB
  rw [ht] at hP1
  obtain ⟨hP, hD⟩ := va_join (wr := [(pa, .inr (3, [.ref p_v, .int 0, .ref p_st, .ref p_ib, .ref p_di, .ref p_wa, .ref p_se, .ref p_vh, .ref p_re])), (b0, .inl (cI, 6, .inl zi)), (b1, .inl (cZ, 6, .inl zi)), (b4, .inl (cI, 4, .inl zi)), (p_v, .inl (cI, 4, .inl zi)), (p_st, .inl (cI, 4, .inl zi)), (p_ib, .inl (cZ, 4, .inl zi)), (p_di, .inl (cI, 4, .inl zi)), (p_wa, .inl (cI, 4, .inl zi)), (p_se, .inl (cI, 4, .inl zi)), (ou, .inl (cJ, 1, .inr (.inl zl))), (od, .inl (cD, 1, .inr (.inr (.inr (.inl zd)))))]) (w1 := [(mm, .inr (10, [.int 1, .ref pl, .ref ig, .ref sl, .ref kl, .int 0, .int 0, .int 0]))]) hP hD [10, 11, 12, 13] [0, 1, 2, 3, 4, 5, 6, 7, 8, 9, 14, 15] rfl rfl (by decide) (by decide) hk1 hFc hP1 hD1
  generalize H1 = H at hP hS ⊢
  have hP : va_P (dC, dI) vwCl [(pa, .inr (3, [.ref p_v, .int 0, .ref p_st, .ref p_ib, .ref p_di, .ref p_wa, .ref p_se, .ref p_vh, .ref p_re])), (b0, .inl (cI, 6, .inl zi)), (b1, .inl (cZ, 6, .inl zi)), (b4, .inl (cI, 4, .inl zi)), (p_v, .inl (cI, 4, .inl zi)), (p_st, .inl (cI, 4, .inl zi)), (p_ib, .inl (cZ, 4, .inl zi)), (p_di, .inl (cI, 4, .inl zi)), (p_wa, .inl (cI, 4, .inl zi)), (p_se, .inl (cI, 4, .inl zi)), (ou, .inl (cJ, 1, .inr (.inl zl))), (od, .inl (cD, 1, .inr (.inr (.inr (.inl zd))))), (mm, .inr (10, [.int 1, .ref pl, .ref ig, .ref sl, .ref kl, .int 0, .int 0, .int 0]))] H := hP
  have hD : va_D A [(pa, .inr (3, [.ref p_v, .int 0, .ref p_st, .ref p_ib, .ref p_di, .ref p_wa, .ref p_se, .ref p_vh, .ref p_re])), (b0, .inl (cI, 6, .inl zi)), (b1, .inl (cZ, 6, .inl zi)), (b4, .inl (cI, 4, .inl zi)), (p_v, .inl (cI, 4, .inl zi)), (p_st, .inl (cI, 4, .inl zi)), (p_ib, .inl (cZ, 4, .inl zi)), (p_di, .inl (cI, 4, .inl zi)), (p_wa, .inl (cI, 4, .inl zi)), (p_se, .inl (cI, 4, .inl zi)), (ou, .inl (cJ, 1, .inr (.inl zl))), (od, .inl (cD, 1, .inr (.inr (.inr (.inl zd))))), (mm, .inr (10, [.int 1, .ref pl, .ref ig, .ref sl, .ref kl, .int 0, .int 0, .int 0]))] := hD
  refine W.widen (k := 119) (n := 756) (Nat.le_refl _) (Nat.le_refl _) ?_
  have hw : r_8 = 0 := hw
  subst hw
  refine lv_istore (lv' := [(7, .int 0), (6, .int 1), (5, .int 0), (4, .ref od), (3, .ref ou), (2, .ref mm), (1, .ref x), (0, .ref b)]) hx hb dL_law_251 hl (by decide) rfl (fun ls hl => ?_)
  refine lv_aload_n hx hb dL_law_253 rfl (lv_at hl 5 rfl) ?_
  have hPc := hP.sub (ws' := [(mm, .inr (10, [.int 1, .ref pl, .ref ig, .ref sl, .ref kl, .int 0, .int 0, .int 0]))]) [12] rfl
  have hDc := hD.sub (ws' := [(mm, .inr (10, [.int 1, .ref pl, .ref ig, .ref sl, .ref kl, .int 0, .int 0, .int 0]))]) [12] (by decide) rfl
  have hKc := hK.sub (tys' := []) [] rfl
  have hFc := va_free (wc := [(mm, .inr (10, [.int 1, .ref pl, .ref ig, .ref sl, .ref kl, .int 0, .int 0, .int 0]))]) hD hS hA [12] rfl
  refine va_calli (va_runV (As := []) (rest := []) ⟨hx, hb, hml, hown, hts⟩ (c_X8_thrown l dC dI mm pl ig sl kl (1 : Int32) (0 : Int32) (0 : Int32) (0 : Int32) _ ) (cwV 0 hts gL_law_X8_thrown rfl rfl rfl (by decide +kernel) ⟨Nat.le_of_ble_eq_true rfl, Nat.le_of_ble_eq_true rfl⟩) ⟨pr_blind, va_recv hKc hPc (ci := 10) (q0 := 0) rfl rfl, fun U hU hW => ⟨rfl, pr_mk hU hW hPc hKc hDc⟩⟩ rfl rfl hl.1 rfl (lv_room (Nat.le_of_ble_eq_true rfl)) dL_law_254 ⟨Nat.le_of_ble_eq_true rfl, Nat.le_of_ble_eq_true rfl⟩) hS (fun q _ h => hFc q h) hFc (fun r_10 u_9 t H1 locs ht hvm hw hB hz1 hk1 hS => ?_)
  obtain ⟨hP1, hK1, hD1⟩ := hB
  rw [ht] at hP1
  obtain ⟨hP, hD⟩ := va_join (wr := [(pa, .inr (3, [.ref p_v, .int 0, .ref p_st, .ref p_ib, .ref p_di, .ref p_wa, .ref p_se, .ref p_vh, .ref p_re])), (b0, .inl (cI, 6, .inl zi)), (b1, .inl (cZ, 6, .inl zi)), (b4, .inl (cI, 4, .inl zi)), (p_v, .inl (cI, 4, .inl zi)), (p_st, .inl (cI, 4, .inl zi)), (p_ib, .inl (cZ, 4, .inl zi)), (p_di, .inl (cI, 4, .inl zi)), (p_wa, .inl (cI, 4, .inl zi)), (p_se, .inl (cI, 4, .inl zi)), (ou, .inl (cJ, 1, .inr (.inl zl))), (od, .inl (cD, 1, .inr (.inr (.inr (.inl zd)))))]) (w1 := [(mm, .inr (10, [.int 1, .ref pl, .ref ig, .ref sl, .ref kl, .int 0, .int 0, .int 0]))]) hP hD [12] [0, 1, 2, 3, 4, 5, 6, 7, 8, 9, 10, 11] rfl rfl (by decide) (by decide) hk1 hFc hP1 hD1
  generalize H1 = H at hP hS ⊢
  have hP : va_P (dC, dI) vwCl [(pa, .inr (3, [.ref p_v, .int 0, .ref p_st, .ref p_ib, .ref p_di, .ref p_wa, .ref p_se, .ref p_vh, .ref p_re])), (b0, .inl (cI, 6, .inl zi)), (b1, .inl (cZ, 6, .inl zi)), (b4, .inl (cI, 4, .inl zi)), (p_v, .inl (cI, 4, .inl zi)), (p_st, .inl (cI, 4, .inl zi)), (p_ib, .inl (cZ, 4, .inl zi)), (p_di, .inl (cI, 4, .inl zi)), (p_wa, .inl (cI, 4, .inl zi)), (p_se, .inl (cI, 4, .inl zi)), (ou, .inl (cJ, 1, .inr (.inl zl))), (od, .inl (cD, 1, .inr (.inr (.inr (.inl zd))))), (mm, .inr (10, [.int 1, .ref pl, .ref ig, .ref sl, .ref kl, .int 0, .int 0, .int 0]))] H := hP
  have hD : va_D A [(pa, .inr (3, [.ref p_v, .int 0, .ref p_st, .ref p_ib, .ref p_di, .ref p_wa, .ref p_se, .ref p_vh, .ref p_re])), (b0, .inl (cI, 6, .inl zi)), (b1, .inl (cZ, 6, .inl zi)), (b4, .inl (cI, 4, .inl zi)), (p_v, .inl (cI, 4, .inl zi)), (p_st, .inl (cI, 4, .inl zi)), (p_ib, .inl (cZ, 4, .inl zi)), (p_di, .inl (cI, 4, .inl zi)), (p_wa, .inl (cI, 4, .inl zi)), (p_se, .inl (cI, 4, .inl zi)), (ou, .inl (cJ, 1, .inr (.inl zl))), (od, .inl (cD, 1, .inr (.inr (.inr (.inl zd))))), (mm, .inr (10, [.int 1, .ref pl, .ref ig, .ref sl, .ref kl, .int 0, .int 0, .int 0]))] := hD
  refine W.widen (k := 119) (n := 756) (Nat.le_refl _) (Nat.le_refl _) ?_
  have hw : r_10 = 1 := hw
  subst hw
  refine lv_iload hx hb dL_law_257 (lv_at hl 1 rfl) ?_
  refine lv_icmp_eq (tgt := 264) hx hb dL_law_259 (by decide) (fun _ => ?_) (fun h9 => absurd h9 (by decide))
  refine lv_iload hx hb dL_law_264 (lv_at hl 1 rfl) ?_
  refine lv_if_ne (tgt := 281) hx hb dL_law_266 (by decide) (fun _ => ?_) (fun h9 => absurd h9 (by decide))
  refine lv_goto (tgt := 2007) hx hb dL_law_281 (by decide) ?_
  exact law_tail l C0 hAe hS (lv_sub hl [2, 7] rfl) (Nat.le_of_ble_eq_true rfl) (Nat.le_of_ble_eq_true rfl)

set_option maxHeartbeats 4000000 in
set_option maxRecDepth 100000 in
theorem case_district {p : Program} {e : Env} {s : State} {m : MethodId} {below : List Frame} {meth : Method} {c : Code} (l : Launch) (hfl : l.stackTraces = false) {b : Nat} {xs : Nat → Int32} (C0 : lw_At p s m meth c b 5 xs) {dz tc : Nat} {ad : Nat → Nat} (hLX : lx_ (fun q : Nat => s.heap.size ≤ q) dz tc ad s) (dC : Nat → ClassId) (dI : Nat → Nat → Nat) {x : Nat} {po : Nat} {tr : Nat} {sp : Nat} {bx : Nat} {b0 : Nat} {b1 : Nat} {b4 : Nat} {b6 : Nat} {pa : Nat} {p_v : Nat} {p_st : Nat} {p_ib : Nat} {p_di : Nat} {p_wa : Nat} {p_se : Nat} {p_vh : Nat} {p_re : Nat} {mm : Nat} {pl : Nat} {ig : Nat} {sl : Nat} {kl : Nat} {ou : Nat} {od : Nat} {cI : ClassId} {cZ : ClassId} {cJ : ClassId} {cD : ClassId} {H : Heap} {locs : List Loc} {ls : Array Slot} (hK : va_K (dC, dI) vwCl [(cI, .int), (cZ, .boolean), (cJ, .long), (cD, .double)] s) (hP : va_P (dC, dI) vwCl [(x, .inr (7, [.ref bx, .ref po, .ref tr, .ref pa, .ref sp])), (bx, .inr (2, [.ref b0, .ref b1, .int 0, .int 0, .ref b4, .int 0, .ref b6, .int 0, .int 0, .int 0, .int 0])), (pa, .inr (3, [.ref p_v, .int 0, .ref p_st, .ref p_ib, .ref p_di, .ref p_wa, .ref p_se, .ref p_vh, .ref p_re])), (b0, .inl (cI, 6, .inl zi)), (b1, .inl (cZ, 6, .inl zi)), (b4, .inl (cI, 4, .inl zi)), (p_v, .inl (cI, 4, .inl zi)), (p_st, .inl (cI, 4, .inl zi)), (p_ib, .inl (cZ, 4, .inl zi)), (p_di, .inl (cI, 4, .inl zi)), (p_wa, .inl (cI, 4, .inl zi)), (p_se, .inl (cI, 4, .inl zi)), (mm, .inr (10, [.int 0, .ref pl, .ref ig, .ref sl, .ref kl, .int 0, .int 0, .int 0])), (pl, .inr (1, [.int 0, .ref dz, .int 0])), (sl, .inr (1, [.int 0, .ref dz, .int 0])), (kl, .inr (1, [.int 0, .ref dz, .int 0])), (ou, .inl (cJ, 1, .inr (.inl zl))), (od, .inl (cD, 1, .inr (.inr (.inr (.inl zd)))))] H) (hD : va_D (fun q : Nat => s.heap.size ≤ q) [(x, .inr (7, [.ref bx, .ref po, .ref tr, .ref pa, .ref sp])), (bx, .inr (2, [.ref b0, .ref b1, .int 0, .int 0, .ref b4, .int 0, .ref b6, .int 0, .int 0, .int 0, .int 0])), (pa, .inr (3, [.ref p_v, .int 0, .ref p_st, .ref p_ib, .ref p_di, .ref p_wa, .ref p_se, .ref p_vh, .ref p_re])), (b0, .inl (cI, 6, .inl zi)), (b1, .inl (cZ, 6, .inl zi)), (b4, .inl (cI, 4, .inl zi)), (p_v, .inl (cI, 4, .inl zi)), (p_st, .inl (cI, 4, .inl zi)), (p_ib, .inl (cZ, 4, .inl zi)), (p_di, .inl (cI, 4, .inl zi)), (p_wa, .inl (cI, 4, .inl zi)), (p_se, .inl (cI, 4, .inl zi)), (mm, .inr (10, [.int 0, .ref pl, .ref ig, .ref sl, .ref kl, .int 0, .int 0, .int 0])), (pl, .inr (1, [.int 0, .ref dz, .int 0])), (sl, .inr (1, [.int 0, .ref dz, .int 0])), (kl, .inr (1, [.int 0, .ref dz, .int 0])), (ou, .inl (cJ, 1, .inr (.inl zl))), (od, .inl (cD, 1, .inr (.inr (.inr (.inl zd)))))]) (hS : va_S (fun q : Nat => s.heap.size ≤ q) s.heap H locs) (hl : lv_has ls 9 [(5, .int 0), (4, .ref od), (3, .ref ou), (2, .ref mm), (1, .ref x), (0, .ref b)]) : W p l e room_1 s m #[Value.ref b] below meth c H locs 118 750 (lw_Z below #[Value.ref b] s) (F0 m 284 ls []) := by
  obtain ⟨hx, hb, hr, hml, hown, hts0, hX, hbl, hlocks, hgv⟩ := id C0
  have hts : ∀ w ∈ lw_tbl, w.before #[Value.ref b] s = true := hts0
  have hbA : ¬ (fun q : Nat => s.heap.size ≤ q) b := Nat.not_le.mpr hbl
  have hA : ∀ q : Nat, s.heap.size ≤ q → (fun q : Nat => s.heap.size ≤ q) q := fun _ h => h
  generalize hAe : (fun q : Nat => s.heap.size ≤ q) = A at hD hS hbA hA hLX
  obtain ⟨a1, h_a1⟩ : ∃ z, z = xs ((1 : Int32).toNatClampNeg) := ⟨_, rfl⟩
  obtain ⟨a2, h_a2⟩ : ∃ z, z = xs ((2 : Int32).toNatClampNeg) := ⟨_, rfl⟩
  obtain ⟨a3, h_a3⟩ : ∃ z, z = xs ((3 : Int32).toNatClampNeg) := ⟨_, rfl⟩
  obtain ⟨a4, h_a4⟩ : ∃ z, z = xs ((4 : Int32).toNatClampNeg) := ⟨_, rfl⟩
  by_cases hB0 : a1 < 1 ∨ ¬ a1 ≤ 5
  · have hM0 : a1 < 1 ∨ 5 < a1 := gN_b hB0
    refine lv_aload_n hx hb dL_law_284 rfl (lv_at hl 4 rfl) ?_
    refine lv_aload_n hx hb dL_law_285 rfl (lv_at hl 5 rfl) ?_
    refine lv_iload hx hb dL_law_286 (lv_at hl 0 rfl) ?_
    refine lv_iconst (v := 1) hx hb dL_law_288 (by decide) ?_
    refine lv_iadd hx hb dL_law_289 ?_
    refine lv_topi (fun y_1 ey_1 => ?_)
    obtain rfl : y_1 = 1 := ey_1.trans (by decide)
    refine va_sld hx hb hX hbl hbA hS (by unfold vp_in; decide) dL_law_290 ?_
    refine lv_topi (fun y_2 ey_2 => ?_)
    obtain rfl : a1 = y_2 := (ey_2.trans h_a1.symm).symm
    refine lv_aload_n hx hb dL_law_291 rfl (lv_at hl 2 rfl) ?_
    have hPc := hP.sub (ws' := [(x, .inr (7, [.ref bx, .ref po, .ref tr, .ref pa, .ref sp])), (bx, .inr (2, [.ref b0, .ref b1, .int 0, .int 0, .ref b4, .int 0, .ref b6, .int 0, .int 0, .int 0, .int 0]))]) [0, 1] rfl
    have hDc := hD.sub (ws' := [(x, .inr (7, [.ref bx, .ref po, .ref tr, .ref pa, .ref sp])), (bx, .inr (2, [.ref b0, .ref b1, .int 0, .int 0, .ref b4, .int 0, .ref b6, .int 0, .int 0, .int 0, .int 0]))]) [0, 1] (by decide) rfl
    have hKc := hK.sub (tys' := []) [] rfl
    have hFc := va_free (wc := [(x, .inr (7, [.ref bx, .ref po, .ref tr, .ref pa, .ref sp])), (bx, .inr (2, [.ref b0, .ref b1, .int 0, .int 0, .ref b4, .int 0, .ref b6, .int 0, .int 0, .int 0, .int 0]))]) hD hS hA [0, 1] rfl
    refine va_calli (vx_runSW (As := [.ref x, .int a1, .ref ou]) (rest := []) ⟨hx, hb, hml, hown, hts⟩ (h0_L_district l hfl dC dI x po tr sp pa bx b0 b1 b4 b6 a1 ou ((lx_s84 hLX).choose) ((lx_s84 hLX).choose_spec.choose) _ hB0) (vx_cwSW 3 hts gL_law_L_district rfl rfl rfl (by decide +kernel) ⟨Nat.le_of_ble_eq_true rfl, Nat.le_of_ble_eq_true rfl⟩) ⟨pn_blind (fun _ _ _ _ h => h), fun U hU hW => ⟨rfl, pr_mk hU hW hPc hKc hDc, xs_mk hU hW hS hFc (lx_xa hLX (lx_s84 hLX).choose_spec.choose_spec), trivial⟩⟩ rfl rfl hl.1 rfl (lv_room (Nat.le_of_ble_eq_true rfl)) dL_law_292 ⟨Nat.le_of_ble_eq_true rfl, Nat.le_of_ble_eq_true rfl⟩) hS (fun q _ h => hFc q h) hFc (fun r_4 u_3 t H1 locs ht hvm hw hB hz1 hk1 hS => ?_)
    obtain ⟨hP1, hK1, hD1⟩ := hB
    rw [ht] at hP1
    obtain ⟨hP, hD⟩ := va_join (wr := [(pa, .inr (3, [.ref p_v, .int 0, .ref p_st, .ref p_ib, .ref p_di, .ref p_wa, .ref p_se, .ref p_vh, .ref p_re])), (b0, .inl (cI, 6, .inl zi)), (b1, .inl (cZ, 6, .inl zi)), (b4, .inl (cI, 4, .inl zi)), (p_v, .inl (cI, 4, .inl zi)), (p_st, .inl (cI, 4, .inl zi)), (p_ib, .inl (cZ, 4, .inl zi)), (p_di, .inl (cI, 4, .inl zi)), (p_wa, .inl (cI, 4, .inl zi)), (p_se, .inl (cI, 4, .inl zi)), (mm, .inr (10, [.int 0, .ref pl, .ref ig, .ref sl, .ref kl, .int 0, .int 0, .int 0])), (pl, .inr (1, [.int 0, .ref dz, .int 0])), (sl, .inr (1, [.int 0, .ref dz, .int 0])), (kl, .inr (1, [.int 0, .ref dz, .int 0])), (ou, .inl (cJ, 1, .inr (.inl zl))), (od, .inl (cD, 1, .inr (.inr (.inr (.inl zd)))))]) (w1 := []) hP hD [0, 1] [2, 3, 4, 5, 6, 7, 8, 9, 10, 11, 12, 13, 14, 15, 16, 17] rfl rfl (by decide) (by decide) hk1 hFc hP1 hD1
    generalize H1 = H at hP hS ⊢
    have hP : va_P (dC, dI) vwCl [(pa, .inr (3, [.ref p_v, .int 0, .ref p_st, .ref p_ib, .ref p_di, .ref p_wa, .ref p_se, .ref p_vh, .ref p_re])), (b0, .inl (cI, 6, .inl zi)), (b1, .inl (cZ, 6, .inl zi)), (b4, .inl (cI, 4, .inl zi)), (p_v, .inl (cI, 4, .inl zi)), (p_st, .inl (cI, 4, .inl zi)), (p_ib, .inl (cZ, 4, .inl zi)), (p_di, .inl (cI, 4, .inl zi)), (p_wa, .inl (cI, 4, .inl zi)), (p_se, .inl (cI, 4, .inl zi)), (mm, .inr (10, [.int 0, .ref pl, .ref ig, .ref sl, .ref kl, .int 0, .int 0, .int 0])), (pl, .inr (1, [.int 0, .ref dz, .int 0])), (sl, .inr (1, [.int 0, .ref dz, .int 0])), (kl, .inr (1, [.int 0, .ref dz, .int 0])), (ou, .inl (cJ, 1, .inr (.inl zl))), (od, .inl (cD, 1, .inr (.inr (.inr (.inl zd)))))] H := hP
    have hD : va_D A [(pa, .inr (3, [.ref p_v, .int 0, .ref p_st, .ref p_ib, .ref p_di, .ref p_wa, .ref p_se, .ref p_vh, .ref p_re])), (b0, .inl (cI, 6, .inl zi)), (b1, .inl (cZ, 6, .inl zi)), (b4, .inl (cI, 4, .inl zi)), (p_v, .inl (cI, 4, .inl zi)), (p_st, .inl (cI, 4, .inl zi)), (p_ib, .inl (cZ, 4, .inl zi)), (p_di, .inl (cI, 4, .inl zi)), (p_wa, .inl (cI, 4, .inl zi)), (p_se, .inl (cI, 4, .inl zi)), (mm, .inr (10, [.int 0, .ref pl, .ref ig, .ref sl, .ref kl, .int 0, .int 0, .int 0])), (pl, .inr (1, [.int 0, .ref dz, .int 0])), (sl, .inr (1, [.int 0, .ref dz, .int 0])), (kl, .inr (1, [.int 0, .ref dz, .int 0])), (ou, .inl (cJ, 1, .inr (.inl zl))), (od, .inl (cD, 1, .inr (.inr (.inr (.inl zd)))))] := hD
    refine W.widen (k := 119) (n := 756) (Nat.le_of_ble_eq_true rfl) (Nat.le_of_ble_eq_true rfl) ?_
    have hw : r_4 = 1 := hw
    subst hw
    refine lv_istore (lv' := [(6, .int 1), (5, .int 0), (4, .ref od), (3, .ref ou), (2, .ref mm), (1, .ref x), (0, .ref b)]) hx hb dL_law_295 hl (by decide) rfl (fun ls hl => ?_)
    refine lv_aload_n hx hb dL_law_297 rfl (lv_at hl 4 rfl) ?_
    refine lv_aload_n hx hb dL_law_298 rfl (lv_at hl 6 rfl) ?_
    refine lv_iload hx hb dL_law_299 (lv_at hl 1 rfl) ?_
    refine lv_iconst (v := 1) hx hb dL_law_301 (by decide) ?_
    refine lv_iadd hx hb dL_law_302 ?_
    refine lv_topi (fun y_5 ey_5 => ?_)
    obtain rfl : y_5 = 1 := ey_5.trans (by decide)
    refine va_sld hx hb hX hbl hbA hS (by unfold vp_in; decide) dL_law_303 ?_
    refine lv_topi (fun y_6 ey_6 => ?_)
    obtain rfl : a1 = y_6 := (ey_6.trans h_a1.symm).symm
    have hPc := hP.sub (ws' := [(mm, .inr (10, [.int 0, .ref pl, .ref ig, .ref sl, .ref kl, .int 0, .int 0, .int 0])), (pl, .inr (1, [.int 0, .ref dz, .int 0])), (sl, .inr (1, [.int 0, .ref dz, .int 0])), (kl, .inr (1, [.int 0, .ref dz, .int 0]))]) [10, 11, 12, 13] rfl
    have hDc := hD.sub (ws' := [(mm, .inr (10, [.int 0, .ref pl, .ref ig, .ref sl, .ref kl, .int 0, .int 0, .int 0])), (pl, .inr (1, [.int 0, .ref dz, .int 0])), (sl, .inr (1, [.int 0, .ref dz, .int 0])), (kl, .inr (1, [.int 0, .ref dz, .int 0]))]) [10, 11, 12, 13] (by decide) rfl
    have hKc := hK.sub (tys' := []) [] rfl
    have hFc := va_free (wc := [(mm, .inr (10, [.int 0, .ref pl, .ref ig, .ref sl, .ref kl, .int 0, .int 0, .int 0])), (pl, .inr (1, [.int 0, .ref dz, .int 0])), (sl, .inr (1, [.int 0, .ref dz, .int 0])), (kl, .inr (1, [.int 0, .ref dz, .int 0]))]) hD hS hA [10, 11, 12, 13] rfl
    refine va_calli (va_runV (As := [.int a1]) (rest := []) ⟨hx, hb, hml, hown, hts⟩ (c0_X8_district l dC dI mm pl ig sl kl dz dz a1 _ hM0) (cwV 1 hts gL_law_X8_district rfl rfl rfl (by decide +kernel) ⟨Nat.le_of_ble_eq_true rfl, Nat.le_of_ble_eq_true rfl⟩) ⟨pr_blind, va_recv hKc hPc (ci := 10) (q0 := 0) rfl rfl, fun U hU hW => ⟨rfl, pr_mk hU hW hPc hKc hDc⟩⟩ rfl rfl hl.1 rfl (lv_room (Nat.le_of_ble_eq_true rfl)) dL_law_304 ⟨Nat.le_of_ble_eq_true rfl, Nat.le_of_ble_eq_true rfl⟩) hS (fun q _ h => hFc q h) hFc (fun r_8 u_7 t H1 locs ht hvm hw hB hz1 hk1 hS => ?_)
    obtain ⟨hP1, hK1, hD1⟩ := hB
    rw [ht] at hP1
    obtain ⟨hP, hD⟩ := va_join (wr := [(pa, .inr (3, [.ref p_v, .int 0, .ref p_st, .ref p_ib, .ref p_di, .ref p_wa, .ref p_se, .ref p_vh, .ref p_re])), (b0, .inl (cI, 6, .inl zi)), (b1, .inl (cZ, 6, .inl zi)), (b4, .inl (cI, 4, .inl zi)), (p_v, .inl (cI, 4, .inl zi)), (p_st, .inl (cI, 4, .inl zi)), (p_ib, .inl (cZ, 4, .inl zi)), (p_di, .inl (cI, 4, .inl zi)), (p_wa, .inl (cI, 4, .inl zi)), (p_se, .inl (cI, 4, .inl zi)), (ou, .inl (cJ, 1, .inr (.inl zl))), (od, .inl (cD, 1, .inr (.inr (.inr (.inl zd)))))]) (w1 := [(mm, .inr (10, [.int 1, .ref pl, .ref ig, .ref sl, .ref kl, .int 0, .int 0, .int 0]))]) hP hD [10, 11, 12, 13] [0, 1, 2, 3, 4, 5, 6, 7, 8, 9, 14, 15] rfl rfl (by decide) (by decide) hk1 hFc hP1 hD1
    generalize H1 = H at hP hS ⊢
    have hP : va_P (dC, dI) vwCl [(pa, .inr (3, [.ref p_v, .int 0, .ref p_st, .ref p_ib, .ref p_di, .ref p_wa, .ref p_se, .ref p_vh, .ref p_re])), (b0, .inl (cI, 6, .inl zi)), (b1, .inl (cZ, 6, .inl zi)), (b4, .inl (cI, 4, .inl zi)), (p_v, .inl (cI, 4, .inl zi)), (p_st, .inl (cI, 4, .inl zi)), (p_ib, .inl (cZ, 4, .inl zi)), (p_di, .inl (cI, 4, .inl zi)), (p_wa, .inl (cI, 4, .inl zi)), (p_se, .inl (cI, 4, .inl zi)), (ou, .inl (cJ, 1, .inr (.inl zl))), (od, .inl (cD, 1, .inr (.inr (.inr (.inl zd))))), (mm, .inr (10, [.int 1, .ref pl, .ref ig, .ref sl, .ref kl, .int 0, .int 0, .int 0]))] H := hP
    have hD : va_D A [(pa, .inr (3, [.ref p_v, .int 0, .ref p_st, .ref p_ib, .ref p_di, .ref p_wa, .ref p_se, .ref p_vh, .ref p_re])), (b0, .inl (cI, 6, .inl zi)), (b1, .inl (cZ, 6, .inl zi)), (b4, .inl (cI, 4, .inl zi)), (p_v, .inl (cI, 4, .inl zi)), (p_st, .inl (cI, 4, .inl zi)), (p_ib, .inl (cZ, 4, .inl zi)), (p_di, .inl (cI, 4, .inl zi)), (p_wa, .inl (cI, 4, .inl zi)), (p_se, .inl (cI, 4, .inl zi)), (ou, .inl (cJ, 1, .inr (.inl zl))), (od, .inl (cD, 1, .inr (.inr (.inr (.inl zd))))), (mm, .inr (10, [.int 1, .ref pl, .ref ig, .ref sl, .ref kl, .int 0, .int 0, .int 0]))] := hD
    refine W.widen (k := 119) (n := 756) (Nat.le_refl _) (Nat.le_refl _) ?_
    have hw : r_8 = 0 := hw
    subst hw
    refine lv_istore (lv' := [(7, .int 0), (6, .int 1), (5, .int 0), (4, .ref od), (3, .ref ou), (2, .ref mm), (1, .ref x), (0, .ref b)]) hx hb dL_law_307 hl (by decide) rfl (fun ls hl => ?_)
    refine lv_aload_n hx hb dL_law_309 rfl (lv_at hl 5 rfl) ?_
    have hPc := hP.sub (ws' := [(mm, .inr (10, [.int 1, .ref pl, .ref ig, .ref sl, .ref kl, .int 0, .int 0, .int 0]))]) [12] rfl
    have hDc := hD.sub (ws' := [(mm, .inr (10, [.int 1, .ref pl, .ref ig, .ref sl, .ref kl, .int 0, .int 0, .int 0]))]) [12] (by decide) rfl
    have hKc := hK.sub (tys' := []) [] rfl
    have hFc := va_free (wc := [(mm, .inr (10, [.int 1, .ref pl, .ref ig, .ref sl, .ref kl, .int 0, .int 0, .int 0]))]) hD hS hA [12] rfl
    refine va_calli (va_runV (As := []) (rest := []) ⟨hx, hb, hml, hown, hts⟩ (c_X8_thrown l dC dI mm pl ig sl kl (1 : Int32) (0 : Int32) (0 : Int32) (0 : Int32) _ ) (cwV 0 hts gL_law_X8_thrown rfl rfl rfl (by decide +kernel) ⟨Nat.le_of_ble_eq_true rfl, Nat.le_of_ble_eq_true rfl⟩) ⟨pr_blind, va_recv hKc hPc (ci := 10) (q0 := 0) rfl rfl, fun U hU hW => ⟨rfl, pr_mk hU hW hPc hKc hDc⟩⟩ rfl rfl hl.1 rfl (lv_room (Nat.le_of_ble_eq_true rfl)) dL_law_310 ⟨Nat.le_of_ble_eq_true rfl, Nat.le_of_ble_eq_true rfl⟩) hS (fun q _ h => hFc q h) hFc (fun r_10 u_9 t H1 locs ht hvm hw hB hz1 hk1 hS => ?_)
    obtain ⟨hP1, hK1, hD1⟩ := hB
    rw [ht] at hP1
    obtain ⟨hP, hD⟩ := va_join (wr := [(pa, .inr (3, [.ref p_v, .int 0, .ref p_st, .ref p_ib, .ref p_di, .ref p_wa, .ref p_se, .ref p_vh, .ref p_re])), (b0, .inl (cI, 6, .inl zi)), (b1, .inl (cZ, 6, .inl zi)), (b4, .inl (cI, 4, .inl zi)), (p_v, .inl (cI, 4, .inl zi)), (p_st, .inl (cI, 4, .inl zi)), (p_ib, .inl (cZ, 4, .inl zi)), (p_di, .inl (cI, 4, .inl zi)), (p_wa, .inl (cI, 4, .inl zi)), (p_se, .inl (cI, 4, .inl zi)), (ou, .inl (cJ, 1, .inr (.inl zl))), (od, .inl (cD, 1, .inr (.inr (.inr (.inl zd)))))]) (w1 := [(mm, .inr (10, [.int 1, .ref pl, .ref ig, .ref sl, .ref kl, .int 0, .int 0, .int 0]))]) hP hD [12] [0, 1, 2, 3, 4, 5, 6, 7, 8, 9, 10, 11] rfl rfl (by decide) (by decide) hk1 hFc hP1 hD1
    generalize H1 = H at hP hS ⊢
    have hP : va_P (dC, dI) vwCl [(pa, .inr (3, [.ref p_v, .int 0, .ref p_st, .ref p_ib, .ref p_di, .ref p_wa, .ref p_se, .ref p_vh, .ref p_re])), (b0, .inl (cI, 6, .inl zi)), (b1, .inl (cZ, 6, .inl zi)), (b4, .inl (cI, 4, .inl zi)), (p_v, .inl (cI, 4, .inl zi)), (p_st, .inl (cI, 4, .inl zi)), (p_ib, .inl (cZ, 4, .inl zi)), (p_di, .inl (cI, 4, .inl zi)), (p_wa, .inl (cI, 4, .inl zi)), (p_se, .inl (cI, 4, .inl zi)), (ou, .inl (cJ, 1, .inr (.inl zl))), (od, .inl (cD, 1, .inr (.inr (.inr (.inl zd))))), (mm, .inr (10, [.int 1, .ref pl, .ref ig, .ref sl, .ref kl, .int 0, .int 0, .int 0]))] H := hP
    have hD : va_D A [(pa, .inr (3, [.ref p_v, .int 0, .ref p_st, .ref p_ib, .ref p_di, .ref p_wa, .ref p_se, .ref p_vh, .ref p_re])), (b0, .inl (cI, 6, .inl zi)), (b1, .inl (cZ, 6, .inl zi)), (b4, .inl (cI, 4, .inl zi)), (p_v, .inl (cI, 4, .inl zi)), (p_st, .inl (cI, 4, .inl zi)), (p_ib, .inl (cZ, 4, .inl zi)), (p_di, .inl (cI, 4, .inl zi)), (p_wa, .inl (cI, 4, .inl zi)), (p_se, .inl (cI, 4, .inl zi)), (ou, .inl (cJ, 1, .inr (.inl zl))), (od, .inl (cD, 1, .inr (.inr (.inr (.inl zd))))), (mm, .inr (10, [.int 1, .ref pl, .ref ig, .ref sl, .ref kl, .int 0, .int 0, .int 0]))] := hD
    refine W.widen (k := 119) (n := 756) (Nat.le_refl _) (Nat.le_refl _) ?_
    have hw : r_10 = 1 := hw
    subst hw
    refine lv_iload hx hb dL_law_313 (lv_at hl 1 rfl) ?_
    refine lv_icmp_eq (tgt := 320) hx hb dL_law_315 (by decide) (fun _ => ?_) (fun h9 => absurd h9 (by decide))
    refine lv_iload hx hb dL_law_320 (lv_at hl 1 rfl) ?_
    refine lv_if_ne (tgt := 337) hx hb dL_law_322 (by decide) (fun _ => ?_) (fun h9 => absurd h9 (by decide))
    refine lv_goto (tgt := 2007) hx hb dL_law_337 (by decide) ?_
    exact law_tail l C0 hAe hS (lv_sub hl [2, 7] rfl) (Nat.le_of_ble_eq_true rfl) (Nat.le_of_ble_eq_true rfl)
  · have hG0 : ¬ a1 < 1 := fun h => hB0 (Or.inl h)
    have hH0 : a1 ≤ 5 := Decidable.byContradiction (fun h => hB0 (Or.inr h))
    have hN0 : ¬ 5 < a1 := gN_g hH0
    refine lv_aload_n hx hb dL_law_284 rfl (lv_at hl 4 rfl) ?_
    refine lv_aload_n hx hb dL_law_285 rfl (lv_at hl 5 rfl) ?_
    refine lv_iload hx hb dL_law_286 (lv_at hl 0 rfl) ?_
    refine lv_iconst (v := 1) hx hb dL_law_288 (by decide) ?_
    refine lv_iadd hx hb dL_law_289 ?_
    refine lv_topi (fun y_11 ey_11 => ?_)
    obtain rfl : y_11 = 1 := ey_11.trans (by decide)
    refine va_sld hx hb hX hbl hbA hS (by unfold vp_in; decide) dL_law_290 ?_
    refine lv_topi (fun y_12 ey_12 => ?_)
    obtain rfl : a1 = y_12 := (ey_12.trans h_a1.symm).symm
    refine lv_aload_n hx hb dL_law_291 rfl (lv_at hl 2 rfl) ?_
    have hPc := hP.sub (ws' := [(x, .inr (7, [.ref bx, .ref po, .ref tr, .ref pa, .ref sp])), (bx, .inr (2, [.ref b0, .ref b1, .int 0, .int 0, .ref b4, .int 0, .ref b6, .int 0, .int 0, .int 0, .int 0])), (b4, .inl (cI, 4, .inl zi)), (ou, .inl (cJ, 1, .inr (.inl zl)))]) [0, 1, 5, 16] rfl
    have hDc := hD.sub (ws' := [(x, .inr (7, [.ref bx, .ref po, .ref tr, .ref pa, .ref sp])), (bx, .inr (2, [.ref b0, .ref b1, .int 0, .int 0, .ref b4, .int 0, .ref b6, .int 0, .int 0, .int 0, .int 0])), (b4, .inl (cI, 4, .inl zi)), (ou, .inl (cJ, 1, .inr (.inl zl)))]) [0, 1, 5, 16] (by decide) rfl
    have hKc := hK.sub (tys' := [(cI, .int), (cJ, .long)]) [0, 2] rfl
    have hFc := va_free (wc := [(x, .inr (7, [.ref bx, .ref po, .ref tr, .ref pa, .ref sp])), (bx, .inr (2, [.ref b0, .ref b1, .int 0, .int 0, .ref b4, .int 0, .ref b6, .int 0, .int 0, .int 0, .int 0])), (b4, .inl (cI, 4, .inl zi)), (ou, .inl (cJ, 1, .inr (.inl zl)))]) hD hS hA [0, 1, 5, 16] rfl
    refine va_calli (vx_runSW (As := [.ref x, .int a1, .ref ou]) (rest := []) ⟨hx, hb, hml, hown, hts⟩ (h_L_district l dC dI x po tr sp bx b0 b1 b4 b6 pa cI a1 ou cJ _ hG0 hH0) (vx_cwSW 3 hts gL_law_L_district rfl rfl rfl (by decide +kernel) ⟨Nat.le_of_ble_eq_true rfl, Nat.le_of_ble_eq_true rfl⟩) ⟨pr_blind, fun U hU hW => ⟨rfl, pr_mk hU hW hPc hKc hDc⟩⟩ rfl rfl hl.1 rfl (lv_room (Nat.le_of_ble_eq_true rfl)) dL_law_292 ⟨Nat.le_of_ble_eq_true rfl, Nat.le_of_ble_eq_true rfl⟩) hS (fun q _ h => hFc q h) hFc (fun r_14 u_13 t H1 locs ht hvm hw hB hz1 hk1 hS => ?_)
    obtain ⟨hP1, hK1, hD1⟩ := hB
    rw [ht] at hP1
    obtain ⟨hP, hD⟩ := va_join (wr := [(pa, .inr (3, [.ref p_v, .int 0, .ref p_st, .ref p_ib, .ref p_di, .ref p_wa, .ref p_se, .ref p_vh, .ref p_re])), (b0, .inl (cI, 6, .inl zi)), (b1, .inl (cZ, 6, .inl zi)), (p_v, .inl (cI, 4, .inl zi)), (p_st, .inl (cI, 4, .inl zi)), (p_ib, .inl (cZ, 4, .inl zi)), (p_di, .inl (cI, 4, .inl zi)), (p_wa, .inl (cI, 4, .inl zi)), (p_se, .inl (cI, 4, .inl zi)), (mm, .inr (10, [.int 0, .ref pl, .ref ig, .ref sl, .ref kl, .int 0, .int 0, .int 0])), (pl, .inr (1, [.int 0, .ref dz, .int 0])), (sl, .inr (1, [.int 0, .ref dz, .int 0])), (kl, .inr (1, [.int 0, .ref dz, .int 0])), (od, .inl (cD, 1, .inr (.inr (.inr (.inl zd)))))]) (w1 := [(ou, .inl (cJ, 1, .inr (.inl zl)))]) hP hD [0, 1, 5, 16] [2, 3, 4, 6, 7, 8, 9, 10, 11, 12, 13, 14, 15, 17] rfl rfl (by decide) (by decide) hk1 hFc hP1 hD1
    generalize H1 = H at hP hS ⊢
    have hP : va_P (dC, dI) vwCl [(pa, .inr (3, [.ref p_v, .int 0, .ref p_st, .ref p_ib, .ref p_di, .ref p_wa, .ref p_se, .ref p_vh, .ref p_re])), (b0, .inl (cI, 6, .inl zi)), (b1, .inl (cZ, 6, .inl zi)), (p_v, .inl (cI, 4, .inl zi)), (p_st, .inl (cI, 4, .inl zi)), (p_ib, .inl (cZ, 4, .inl zi)), (p_di, .inl (cI, 4, .inl zi)), (p_wa, .inl (cI, 4, .inl zi)), (p_se, .inl (cI, 4, .inl zi)), (mm, .inr (10, [.int 0, .ref pl, .ref ig, .ref sl, .ref kl, .int 0, .int 0, .int 0])), (pl, .inr (1, [.int 0, .ref dz, .int 0])), (sl, .inr (1, [.int 0, .ref dz, .int 0])), (kl, .inr (1, [.int 0, .ref dz, .int 0])), (od, .inl (cD, 1, .inr (.inr (.inr (.inl zd))))), (ou, .inl (cJ, 1, .inr (.inl zl)))] H := hP
    have hD : va_D A [(pa, .inr (3, [.ref p_v, .int 0, .ref p_st, .ref p_ib, .ref p_di, .ref p_wa, .ref p_se, .ref p_vh, .ref p_re])), (b0, .inl (cI, 6, .inl zi)), (b1, .inl (cZ, 6, .inl zi)), (p_v, .inl (cI, 4, .inl zi)), (p_st, .inl (cI, 4, .inl zi)), (p_ib, .inl (cZ, 4, .inl zi)), (p_di, .inl (cI, 4, .inl zi)), (p_wa, .inl (cI, 4, .inl zi)), (p_se, .inl (cI, 4, .inl zi)), (mm, .inr (10, [.int 0, .ref pl, .ref ig, .ref sl, .ref kl, .int 0, .int 0, .int 0])), (pl, .inr (1, [.int 0, .ref dz, .int 0])), (sl, .inr (1, [.int 0, .ref dz, .int 0])), (kl, .inr (1, [.int 0, .ref dz, .int 0])), (od, .inl (cD, 1, .inr (.inr (.inr (.inl zd))))), (ou, .inl (cJ, 1, .inr (.inl zl)))] := hD
    refine W.widen (k := 118) (n := 750) (Nat.le_refl _) (Nat.le_refl _) ?_
    have hw : r_14 = 0 := hw
    subst hw
    refine lv_istore (lv' := [(6, .int 0), (5, .int 0), (4, .ref od), (3, .ref ou), (2, .ref mm), (1, .ref x), (0, .ref b)]) hx hb dL_law_295 hl (by decide) rfl (fun ls hl => ?_)
    refine lv_aload_n hx hb dL_law_297 rfl (lv_at hl 4 rfl) ?_
    refine lv_aload_n hx hb dL_law_298 rfl (lv_at hl 6 rfl) ?_
    refine lv_iload hx hb dL_law_299 (lv_at hl 1 rfl) ?_
    refine lv_iconst (v := 1) hx hb dL_law_301 (by decide) ?_
    refine lv_iadd hx hb dL_law_302 ?_
    refine lv_topi (fun y_15 ey_15 => ?_)
    obtain rfl : y_15 = 1 := ey_15.trans (by decide)
    refine va_sld hx hb hX hbl hbA hS (by unfold vp_in; decide) dL_law_303 ?_
    refine lv_topi (fun y_16 ey_16 => ?_)
    obtain rfl : a1 = y_16 := (ey_16.trans h_a1.symm).symm
    have hPc := hP.sub (ws' := [(mm, .inr (10, [.int 0, .ref pl, .ref ig, .ref sl, .ref kl, .int 0, .int 0, .int 0])), (pl, .inr (1, [.int 0, .ref dz, .int 0])), (sl, .inr (1, [.int 0, .ref dz, .int 0])), (kl, .inr (1, [.int 0, .ref dz, .int 0]))]) [9, 10, 11, 12] rfl
    have hDc := hD.sub (ws' := [(mm, .inr (10, [.int 0, .ref pl, .ref ig, .ref sl, .ref kl, .int 0, .int 0, .int 0])), (pl, .inr (1, [.int 0, .ref dz, .int 0])), (sl, .inr (1, [.int 0, .ref dz, .int 0])), (kl, .inr (1, [.int 0, .ref dz, .int 0]))]) [9, 10, 11, 12] (by decide) rfl
    have hKc := hK.sub (tys' := []) [] rfl
    have hFc := va_free (wc := [(mm, .inr (10, [.int 0, .ref pl, .ref ig, .ref sl, .ref kl, .int 0, .int 0, .int 0])), (pl, .inr (1, [.int 0, .ref dz, .int 0])), (sl, .inr (1, [.int 0, .ref dz, .int 0])), (kl, .inr (1, [.int 0, .ref dz, .int 0]))]) hD hS hA [9, 10, 11, 12] rfl
    refine va_calli (va_runV (As := [.int a1]) (rest := []) ⟨hx, hb, hml, hown, hts⟩ (c_X8_district l dC dI mm pl ig sl kl dz dz tc ad a1 _ (up15 hG0 hN0)) (cwV 1 hts gL_law_X8_district rfl rfl rfl (by decide +kernel) ⟨Nat.le_of_ble_eq_true rfl, Nat.le_of_ble_eq_true rfl⟩) ⟨pe_blind ca_bl, va_recv hKc hPc (ci := 10) (q0 := 0) rfl rfl, fun U hU hW => ⟨rfl, pr_mk hU hW hPc hKc hDc, ca_mk hU hW hS hFc (lx_c hLX)⟩⟩ rfl rfl hl.1 rfl (lv_room (Nat.le_of_ble_eq_true rfl)) dL_law_304 ⟨Nat.le_of_ble_eq_true rfl, Nat.le_of_ble_eq_true rfl⟩) hS (fun q _ h => hFc q h) hFc (fun r_18 u_17 t H1 locs ht hvm hw hB hz1 hk1 hS => ?_)
    obtain ⟨hP1, hK1, hD1⟩ := hB
    rw [ht] at hP1
    obtain ⟨hP, hD⟩ := va_join (wr := [(pa, .inr (3, [.ref p_v, .int 0, .ref p_st, .ref p_ib, .ref p_di, .ref p_wa, .ref p_se, .ref p_vh, .ref p_re])), (b0, .inl (cI, 6, .inl zi)), (b1, .inl (cZ, 6, .inl zi)), (p_v, .inl (cI, 4, .inl zi)), (p_st, .inl (cI, 4, .inl zi)), (p_ib, .inl (cZ, 4, .inl zi)), (p_di, .inl (cI, 4, .inl zi)), (p_wa, .inl (cI, 4, .inl zi)), (p_se, .inl (cI, 4, .inl zi)), (od, .inl (cD, 1, .inr (.inr (.inr (.inl zd))))), (ou, .inl (cJ, 1, .inr (.inl zl)))]) (w1 := [(mm, .inr (10, [.int 0, .ref pl, .ref ig, .ref sl, .ref kl, .int 0, .int 0, .int 0]))]) hP hD [9, 10, 11, 12] [0, 1, 2, 3, 4, 5, 6, 7, 8, 13, 14] rfl rfl (by decide) (by decide) hk1 hFc hP1 hD1
    generalize H1 = H at hP hS ⊢
    have hP : va_P (dC, dI) vwCl [(pa, .inr (3, [.ref p_v, .int 0, .ref p_st, .ref p_ib, .ref p_di, .ref p_wa, .ref p_se, .ref p_vh, .ref p_re])), (b0, .inl (cI, 6, .inl zi)), (b1, .inl (cZ, 6, .inl zi)), (p_v, .inl (cI, 4, .inl zi)), (p_st, .inl (cI, 4, .inl zi)), (p_ib, .inl (cZ, 4, .inl zi)), (p_di, .inl (cI, 4, .inl zi)), (p_wa, .inl (cI, 4, .inl zi)), (p_se, .inl (cI, 4, .inl zi)), (od, .inl (cD, 1, .inr (.inr (.inr (.inl zd))))), (ou, .inl (cJ, 1, .inr (.inl zl))), (mm, .inr (10, [.int 0, .ref pl, .ref ig, .ref sl, .ref kl, .int 0, .int 0, .int 0]))] H := hP
    have hD : va_D A [(pa, .inr (3, [.ref p_v, .int 0, .ref p_st, .ref p_ib, .ref p_di, .ref p_wa, .ref p_se, .ref p_vh, .ref p_re])), (b0, .inl (cI, 6, .inl zi)), (b1, .inl (cZ, 6, .inl zi)), (p_v, .inl (cI, 4, .inl zi)), (p_st, .inl (cI, 4, .inl zi)), (p_ib, .inl (cZ, 4, .inl zi)), (p_di, .inl (cI, 4, .inl zi)), (p_wa, .inl (cI, 4, .inl zi)), (p_se, .inl (cI, 4, .inl zi)), (od, .inl (cD, 1, .inr (.inr (.inr (.inl zd))))), (ou, .inl (cJ, 1, .inr (.inl zl))), (mm, .inr (10, [.int 0, .ref pl, .ref ig, .ref sl, .ref kl, .int 0, .int 0, .int 0]))] := hD
    refine W.widen (k := 119) (n := 760) (Nat.le_of_ble_eq_true rfl) (Nat.le_of_ble_eq_true rfl) ?_
    have hw : r_18 = 0 := hw
    subst hw
    refine lv_istore (lv' := [(7, .int 0), (6, .int 0), (5, .int 0), (4, .ref od), (3, .ref ou), (2, .ref mm), (1, .ref x), (0, .ref b)]) hx hb dL_law_307 hl (by decide) rfl (fun ls hl => ?_)
    refine lv_aload_n hx hb dL_law_309 rfl (lv_at hl 5 rfl) ?_
    have hPc := hP.sub (ws' := [(mm, .inr (10, [.int 0, .ref pl, .ref ig, .ref sl, .ref kl, .int 0, .int 0, .int 0]))]) [11] rfl
    have hDc := hD.sub (ws' := [(mm, .inr (10, [.int 0, .ref pl, .ref ig, .ref sl, .ref kl, .int 0, .int 0, .int 0]))]) [11] (by decide) rfl
    have hKc := hK.sub (tys' := []) [] rfl
    have hFc := va_free (wc := [(mm, .inr (10, [.int 0, .ref pl, .ref ig, .ref sl, .ref kl, .int 0, .int 0, .int 0]))]) hD hS hA [11] rfl
    refine va_calli (va_runV (As := []) (rest := []) ⟨hx, hb, hml, hown, hts⟩ (c_X8_thrown l dC dI mm pl ig sl kl (0 : Int32) (0 : Int32) (0 : Int32) (0 : Int32) _ ) (cwV 0 hts gL_law_X8_thrown rfl rfl rfl (by decide +kernel) ⟨Nat.le_of_ble_eq_true rfl, Nat.le_of_ble_eq_true rfl⟩) ⟨pr_blind, va_recv hKc hPc (ci := 10) (q0 := 0) rfl rfl, fun U hU hW => ⟨rfl, pr_mk hU hW hPc hKc hDc⟩⟩ rfl rfl hl.1 rfl (lv_room (Nat.le_of_ble_eq_true rfl)) dL_law_310 ⟨Nat.le_of_ble_eq_true rfl, Nat.le_of_ble_eq_true rfl⟩) hS (fun q _ h => hFc q h) hFc (fun r_20 u_19 t H1 locs ht hvm hw hB hz1 hk1 hS => ?_)
    obtain ⟨hP1, hK1, hD1⟩ := hB
    rw [ht] at hP1
    obtain ⟨hP, hD⟩ := va_join (wr := [(pa, .inr (3, [.ref p_v, .int 0, .ref p_st, .ref p_ib, .ref p_di, .ref p_wa, .ref p_se, .ref p_vh, .ref p_re])), (b0, .inl (cI, 6, .inl zi)), (b1, .inl (cZ, 6, .inl zi)), (p_v, .inl (cI, 4, .inl zi)), (p_st, .inl (cI, 4, .inl zi)), (p_ib, .inl (cZ, 4, .inl zi)), (p_di, .inl (cI, 4, .inl zi)), (p_wa, .inl (cI, 4, .inl zi)), (p_se, .inl (cI, 4, .inl zi)), (od, .inl (cD, 1, .inr (.inr (.inr (.inl zd))))), (ou, .inl (cJ, 1, .inr (.inl zl)))]) (w1 := [(mm, .inr (10, [.int 0, .ref pl, .ref ig, .ref sl, .ref kl, .int 0, .int 0, .int 0]))]) hP hD [11] [0, 1, 2, 3, 4, 5, 6, 7, 8, 9, 10] rfl rfl (by decide) (by decide) hk1 hFc hP1 hD1
    generalize H1 = H at hP hS ⊢
    have hP : va_P (dC, dI) vwCl [(pa, .inr (3, [.ref p_v, .int 0, .ref p_st, .ref p_ib, .ref p_di, .ref p_wa, .ref p_se, .ref p_vh, .ref p_re])), (b0, .inl (cI, 6, .inl zi)), (b1, .inl (cZ, 6, .inl zi)), (p_v, .inl (cI, 4, .inl zi)), (p_st, .inl (cI, 4, .inl zi)), (p_ib, .inl (cZ, 4, .inl zi)), (p_di, .inl (cI, 4, .inl zi)), (p_wa, .inl (cI, 4, .inl zi)), (p_se, .inl (cI, 4, .inl zi)), (od, .inl (cD, 1, .inr (.inr (.inr (.inl zd))))), (ou, .inl (cJ, 1, .inr (.inl zl))), (mm, .inr (10, [.int 0, .ref pl, .ref ig, .ref sl, .ref kl, .int 0, .int 0, .int 0]))] H := hP
    have hD : va_D A [(pa, .inr (3, [.ref p_v, .int 0, .ref p_st, .ref p_ib, .ref p_di, .ref p_wa, .ref p_se, .ref p_vh, .ref p_re])), (b0, .inl (cI, 6, .inl zi)), (b1, .inl (cZ, 6, .inl zi)), (p_v, .inl (cI, 4, .inl zi)), (p_st, .inl (cI, 4, .inl zi)), (p_ib, .inl (cZ, 4, .inl zi)), (p_di, .inl (cI, 4, .inl zi)), (p_wa, .inl (cI, 4, .inl zi)), (p_se, .inl (cI, 4, .inl zi)), (od, .inl (cD, 1, .inr (.inr (.inr (.inl zd))))), (ou, .inl (cJ, 1, .inr (.inl zl))), (mm, .inr (10, [.int 0, .ref pl, .ref ig, .ref sl, .ref kl, .int 0, .int 0, .int 0]))] := hD
    refine W.widen (k := 119) (n := 760) (Nat.le_refl _) (Nat.le_refl _) ?_
    have hw : r_20 = 0 := hw
    subst hw
    refine lv_iload hx hb dL_law_313 (lv_at hl 1 rfl) ?_
    refine lv_icmp_eq (tgt := 320) hx hb dL_law_315 (by decide) (fun _ => ?_) (fun h9 => absurd h9 (by decide))
    refine lv_iload hx hb dL_law_320 (lv_at hl 1 rfl) ?_
    refine lv_if_ne (tgt := 337) hx hb dL_law_322 (by decide) (fun h9 => absurd h9 (by decide)) (fun _ => ?_)
    refine lv_aload_n hx hb dL_law_325 rfl (lv_at hl 4 rfl) ?_
    refine lv_iconst (v := 0) hx hb dL_law_326 (by decide) ?_
    refine va_lald hx hb hK hP 10 2 rfl rfl (by unfold vp_in; decide) dL_law_327 ?_
    refine lv_topl (fun y_21 ey_21 => ?_)
    obtain rfl : y_21 = 0 := ey_21
    refine lv_iload hx hb dL_law_328 (lv_at hl 0 rfl) ?_
    refine lv_i2l (v := 0) hx hb dL_law_330 (by decide) ?_
    refine W.lcmp hx hb dL_law_331 ?_
    refine lv_topi (fun y_22 ey_22 => ?_)
    obtain rfl : y_22 = 0 := ey_22.trans (lcmp_self _)
    refine lv_if_eq (tgt := 337) hx hb dL_law_332 (by decide) (fun _ => ?_) (fun h9 => absurd h9 (by decide))
    refine lv_goto (tgt := 2007) hx hb dL_law_337 (by decide) ?_
    exact law_tail l C0 hAe hS (lv_sub hl [2, 7] rfl) (Nat.le_of_ble_eq_true rfl) (Nat.le_of_ble_eq_true rfl)

set_option maxHeartbeats 4000000 in
set_option maxRecDepth 100000 in
theorem case_cast {p : Program} {e : Env} {s : State} {m : MethodId} {below : List Frame} {meth : Method} {c : Code} (l : Launch) (hfl : l.stackTraces = false) {b : Nat} {xs : Nat → Int32} (C0 : lw_At p s m meth c b 5 xs) {dz tc : Nat} {ad : Nat → Nat} (hLX : lx_ (fun q : Nat => s.heap.size ≤ q) dz tc ad s) (dC : Nat → ClassId) (dI : Nat → Nat → Nat) {x : Nat} {po : Nat} {tr : Nat} {sp : Nat} {bx : Nat} {b0 : Nat} {b1 : Nat} {b4 : Nat} {b6 : Nat} {pa : Nat} {p_v : Nat} {p_st : Nat} {p_ib : Nat} {p_di : Nat} {p_wa : Nat} {p_se : Nat} {p_vh : Nat} {p_re : Nat} {mm : Nat} {pl : Nat} {ig : Nat} {sl : Nat} {kl : Nat} {ou : Nat} {od : Nat} {cI : ClassId} {cZ : ClassId} {cJ : ClassId} {cD : ClassId} {H : Heap} {locs : List Loc} {ls : Array Slot} (hK : va_K (dC, dI) vwCl [(cI, .int), (cZ, .boolean), (cJ, .long), (cD, .double)] s) (hP : va_P (dC, dI) vwCl [(x, .inr (7, [.ref bx, .ref po, .ref tr, .ref pa, .ref sp])), (bx, .inr (2, [.ref b0, .ref b1, .int 0, .int 0, .ref b4, .int 0, .ref b6, .int 0, .int 0, .int 0, .int 0])), (pa, .inr (3, [.ref p_v, .int 0, .ref p_st, .ref p_ib, .ref p_di, .ref p_wa, .ref p_se, .ref p_vh, .ref p_re])), (b0, .inl (cI, 6, .inl zi)), (b1, .inl (cZ, 6, .inl zi)), (b4, .inl (cI, 4, .inl zi)), (p_v, .inl (cI, 4, .inl zi)), (p_st, .inl (cI, 4, .inl zi)), (p_ib, .inl (cZ, 4, .inl zi)), (p_di, .inl (cI, 4, .inl zi)), (p_wa, .inl (cI, 4, .inl zi)), (p_se, .inl (cI, 4, .inl zi)), (mm, .inr (10, [.int 0, .ref pl, .ref ig, .ref sl, .ref kl, .int 0, .int 0, .int 0])), (pl, .inr (1, [.int 0, .ref dz, .int 0])), (sl, .inr (1, [.int 0, .ref dz, .int 0])), (kl, .inr (1, [.int 0, .ref dz, .int 0])), (ou, .inl (cJ, 1, .inr (.inl zl))), (od, .inl (cD, 1, .inr (.inr (.inr (.inl zd)))))] H) (hD : va_D (fun q : Nat => s.heap.size ≤ q) [(x, .inr (7, [.ref bx, .ref po, .ref tr, .ref pa, .ref sp])), (bx, .inr (2, [.ref b0, .ref b1, .int 0, .int 0, .ref b4, .int 0, .ref b6, .int 0, .int 0, .int 0, .int 0])), (pa, .inr (3, [.ref p_v, .int 0, .ref p_st, .ref p_ib, .ref p_di, .ref p_wa, .ref p_se, .ref p_vh, .ref p_re])), (b0, .inl (cI, 6, .inl zi)), (b1, .inl (cZ, 6, .inl zi)), (b4, .inl (cI, 4, .inl zi)), (p_v, .inl (cI, 4, .inl zi)), (p_st, .inl (cI, 4, .inl zi)), (p_ib, .inl (cZ, 4, .inl zi)), (p_di, .inl (cI, 4, .inl zi)), (p_wa, .inl (cI, 4, .inl zi)), (p_se, .inl (cI, 4, .inl zi)), (mm, .inr (10, [.int 0, .ref pl, .ref ig, .ref sl, .ref kl, .int 0, .int 0, .int 0])), (pl, .inr (1, [.int 0, .ref dz, .int 0])), (sl, .inr (1, [.int 0, .ref dz, .int 0])), (kl, .inr (1, [.int 0, .ref dz, .int 0])), (ou, .inl (cJ, 1, .inr (.inl zl))), (od, .inl (cD, 1, .inr (.inr (.inr (.inl zd)))))]) (hS : va_S (fun q : Nat => s.heap.size ≤ q) s.heap H locs) (hl : lv_has ls 9 [(5, .int 0), (4, .ref od), (3, .ref ou), (2, .ref mm), (1, .ref x), (0, .ref b)]) : W p l e room_1 s m #[Value.ref b] below meth c H locs 118 750 (lw_Z below #[Value.ref b] s) (F0 m 340 ls []) := by
  obtain ⟨hx, hb, hr, hml, hown, hts0, hX, hbl, hlocks, hgv⟩ := id C0
  have hts : ∀ w ∈ lw_tbl, w.before #[Value.ref b] s = true := hts0
  have hbA : ¬ (fun q : Nat => s.heap.size ≤ q) b := Nat.not_le.mpr hbl
  have hA : ∀ q : Nat, s.heap.size ≤ q → (fun q : Nat => s.heap.size ≤ q) q := fun _ h => h
  generalize hAe : (fun q : Nat => s.heap.size ≤ q) = A at hD hS hbA hA hLX
  obtain ⟨a1, h_a1⟩ : ∃ z, z = xs ((1 : Int32).toNatClampNeg) := ⟨_, rfl⟩
  obtain ⟨a2, h_a2⟩ : ∃ z, z = xs ((2 : Int32).toNatClampNeg) := ⟨_, rfl⟩
  obtain ⟨a3, h_a3⟩ : ∃ z, z = xs ((3 : Int32).toNatClampNeg) := ⟨_, rfl⟩
  obtain ⟨a4, h_a4⟩ : ∃ z, z = xs ((4 : Int32).toNatClampNeg) := ⟨_, rfl⟩
  refine lv_aload_n hx hb dL_law_340 rfl (lv_at hl 4 rfl) ?_
  refine lv_aload_n hx hb dL_law_341 rfl (lv_at hl 5 rfl) ?_
  refine lv_iload hx hb dL_law_342 (lv_at hl 0 rfl) ?_
  refine lv_iconst (v := 1) hx hb dL_law_344 (by decide) ?_
  refine lv_iadd hx hb dL_law_345 ?_
  refine lv_topi (fun y_1 ey_1 => ?_)
  obtain rfl : y_1 = 1 := ey_1.trans (by decide)
  refine va_sld hx hb hX hbl hbA hS (by unfold vp_in; decide) dL_law_346 ?_
  refine lv_topi (fun y_2 ey_2 => ?_)
  obtain rfl : a1 = y_2 := (ey_2.trans h_a1.symm).symm
  refine lv_aload_n hx hb dL_law_347 rfl (lv_at hl 5 rfl) ?_
  refine lv_iload hx hb dL_law_348 (lv_at hl 0 rfl) ?_
  refine lv_iconst (v := 2) hx hb dL_law_350 (by decide) ?_
  refine lv_iadd hx hb dL_law_351 ?_
  refine lv_topi (fun y_3 ey_3 => ?_)
  obtain rfl : y_3 = 2 := ey_3.trans (by decide)
  refine va_sld hx hb hX hbl hbA hS (by unfold vp_in; decide) dL_law_352 ?_
  refine lv_topi (fun y_4 ey_4 => ?_)
  obtain rfl : a2 = y_4 := (ey_4.trans h_a2.symm).symm
  refine lv_aload_n hx hb dL_law_353 rfl (lv_at hl 5 rfl) ?_
  refine lv_iload hx hb dL_law_354 (lv_at hl 0 rfl) ?_
  refine lv_iconst (v := 3) hx hb dL_law_356 (by decide) ?_
  refine lv_iadd hx hb dL_law_357 ?_
  refine lv_topi (fun y_5 ey_5 => ?_)
  obtain rfl : y_5 = 3 := ey_5.trans (by decide)
  refine va_sld hx hb hX hbl hbA hS (by unfold vp_in; decide) dL_law_358 ?_
  refine lv_topi (fun y_6 ey_6 => ?_)
  obtain rfl : a3 = y_6 := (ey_6.trans h_a3.symm).symm
  refine lv_aload_n hx hb dL_law_359 rfl (lv_at hl 2 rfl) ?_
  have hPc := hP.sub (ws' := [(x, .inr (7, [.ref bx, .ref po, .ref tr, .ref pa, .ref sp])), (bx, .inr (2, [.ref b0, .ref b1, .int 0, .int 0, .ref b4, .int 0, .ref b6, .int 0, .int 0, .int 0, .int 0]))]) [0, 1] rfl
  have hDc := hD.sub (ws' := [(x, .inr (7, [.ref bx, .ref po, .ref tr, .ref pa, .ref sp])), (bx, .inr (2, [.ref b0, .ref b1, .int 0, .int 0, .ref b4, .int 0, .ref b6, .int 0, .int 0, .int 0, .int 0]))]) [0, 1] (by decide) rfl
  have hKc := hK.sub (tys' := []) [] rfl
  have hFc := va_free (wc := [(x, .inr (7, [.ref bx, .ref po, .ref tr, .ref pa, .ref sp])), (bx, .inr (2, [.ref b0, .ref b1, .int 0, .int 0, .ref b4, .int 0, .ref b6, .int 0, .int 0, .int 0, .int 0]))]) hD hS hA [0, 1] rfl
  refine va_calli (vx_runSW (As := [.ref x, .int a1, .int a2, .int a3, .ref ou]) (rest := []) ⟨hx, hb, hml, hown, hts⟩ (h0_L_cast l hfl dC dI x po tr sp pa bx b0 b1 b4 b6 a1 a2 a3 ou ((lx_s299 hLX).choose) ((lx_s299 hLX).choose_spec.choose) _ ) (vx_cwSW 5 hts gL_law_L_cast rfl rfl rfl (by decide +kernel) ⟨Nat.le_of_ble_eq_true rfl, Nat.le_of_ble_eq_true rfl⟩) ⟨pn_blind (fun _ _ _ _ h => h), fun U hU hW => ⟨rfl, pr_mk hU hW hPc hKc hDc, xs_mk hU hW hS hFc (lx_xo hLX (lx_s299 hLX).choose_spec.choose_spec), trivial⟩⟩ rfl rfl hl.1 rfl (lv_room (Nat.le_of_ble_eq_true rfl)) dL_law_360 ⟨Nat.le_of_ble_eq_true rfl, Nat.le_of_ble_eq_true rfl⟩) hS (fun q _ h => hFc q h) hFc (fun r_8 u_7 t H1 locs ht hvm hw hB hz1 hk1 hS => ?_)
  obtain ⟨hP1, hK1, hD1⟩ := hB
  rw [ht] at hP1
  obtain ⟨hP, hD⟩ := va_join (wr := [(pa, .inr (3, [.ref p_v, .int 0, .ref p_st, .ref p_ib, .ref p_di, .ref p_wa, .ref p_se, .ref p_vh, .ref p_re])), (b0, .inl (cI, 6, .inl zi)), (b1, .inl (cZ, 6, .inl zi)), (b4, .inl (cI, 4, .inl zi)), (p_v, .inl (cI, 4, .inl zi)), (p_st, .inl (cI, 4, .inl zi)), (p_ib, .inl (cZ, 4, .inl zi)), (p_di, .inl (cI, 4, .inl zi)), (p_wa, .inl (cI, 4, .inl zi)), (p_se, .inl (cI, 4, .inl zi)), (mm, .inr (10, [.int 0, .ref pl, .ref ig, .ref sl, .ref kl, .int 0, .int 0, .int 0])), (pl, .inr (1, [.int 0, .ref dz, .int 0])), (sl, .inr (1, [.int 0, .ref dz, .int 0])), (kl, .inr (1, [.int 0, .ref dz, .int 0])), (ou, .inl (cJ, 1, .inr (.inl zl))), (od, .inl (cD, 1, .inr (.inr (.inr (.inl zd)))))]) (w1 := []) hP hD [0, 1] [2, 3, 4, 5, 6, 7, 8, 9, 10, 11, 12, 13, 14, 15, 16, 17] rfl rfl (by decide) (by decide) hk1 hFc hP1 hD1
  generalize H1 = H at hP hS ⊢
  have hP : va_P (dC, dI) vwCl [(pa, .inr (3, [.ref p_v, .int 0, .ref p_st, .ref p_ib, .ref p_di, .ref p_wa, .ref p_se, .ref p_vh, .ref p_re])), (b0, .inl (cI, 6, .inl zi)), (b1, .inl (cZ, 6, .inl zi)), (b4, .inl (cI, 4, .inl zi)), (p_v, .inl (cI, 4, .inl zi)), (p_st, .inl (cI, 4, .inl zi)), (p_ib, .inl (cZ, 4, .inl zi)), (p_di, .inl (cI, 4, .inl zi)), (p_wa, .inl (cI, 4, .inl zi)), (p_se, .inl (cI, 4, .inl zi)), (mm, .inr (10, [.int 0, .ref pl, .ref ig, .ref sl, .ref kl, .int 0, .int 0, .int 0])), (pl, .inr (1, [.int 0, .ref dz, .int 0])), (sl, .inr (1, [.int 0, .ref dz, .int 0])), (kl, .inr (1, [.int 0, .ref dz, .int 0])), (ou, .inl (cJ, 1, .inr (.inl zl))), (od, .inl (cD, 1, .inr (.inr (.inr (.inl zd)))))] H := hP
  have hD : va_D A [(pa, .inr (3, [.ref p_v, .int 0, .ref p_st, .ref p_ib, .ref p_di, .ref p_wa, .ref p_se, .ref p_vh, .ref p_re])), (b0, .inl (cI, 6, .inl zi)), (b1, .inl (cZ, 6, .inl zi)), (b4, .inl (cI, 4, .inl zi)), (p_v, .inl (cI, 4, .inl zi)), (p_st, .inl (cI, 4, .inl zi)), (p_ib, .inl (cZ, 4, .inl zi)), (p_di, .inl (cI, 4, .inl zi)), (p_wa, .inl (cI, 4, .inl zi)), (p_se, .inl (cI, 4, .inl zi)), (mm, .inr (10, [.int 0, .ref pl, .ref ig, .ref sl, .ref kl, .int 0, .int 0, .int 0])), (pl, .inr (1, [.int 0, .ref dz, .int 0])), (sl, .inr (1, [.int 0, .ref dz, .int 0])), (kl, .inr (1, [.int 0, .ref dz, .int 0])), (ou, .inl (cJ, 1, .inr (.inl zl))), (od, .inl (cD, 1, .inr (.inr (.inr (.inl zd)))))] := hD
  refine W.widen (k := 119) (n := 756) (Nat.le_of_ble_eq_true rfl) (Nat.le_of_ble_eq_true rfl) ?_
  have hw : r_8 = 1 := hw
  subst hw
  refine lv_istore (lv' := [(6, .int 1), (5, .int 0), (4, .ref od), (3, .ref ou), (2, .ref mm), (1, .ref x), (0, .ref b)]) hx hb dL_law_363 hl (by decide) rfl (fun ls hl => ?_)
  refine lv_aload_n hx hb dL_law_365 rfl (lv_at hl 4 rfl) ?_
  refine lv_aload_n hx hb dL_law_366 rfl (lv_at hl 6 rfl) ?_
  refine lv_iload hx hb dL_law_367 (lv_at hl 1 rfl) ?_
  refine lv_iconst (v := 1) hx hb dL_law_369 (by decide) ?_
  refine lv_iadd hx hb dL_law_370 ?_
  refine lv_topi (fun y_9 ey_9 => ?_)
  obtain rfl : y_9 = 1 := ey_9.trans (by decide)
  refine va_sld hx hb hX hbl hbA hS (by unfold vp_in; decide) dL_law_371 ?_
  refine lv_topi (fun y_10 ey_10 => ?_)
  obtain rfl : a1 = y_10 := (ey_10.trans h_a1.symm).symm
  refine lv_aload_n hx hb dL_law_372 rfl (lv_at hl 6 rfl) ?_
  refine lv_iload hx hb dL_law_373 (lv_at hl 1 rfl) ?_
  refine lv_iconst (v := 2) hx hb dL_law_375 (by decide) ?_
  refine lv_iadd hx hb dL_law_376 ?_
  refine lv_topi (fun y_11 ey_11 => ?_)
  obtain rfl : y_11 = 2 := ey_11.trans (by decide)
  refine va_sld hx hb hX hbl hbA hS (by unfold vp_in; decide) dL_law_377 ?_
  refine lv_topi (fun y_12 ey_12 => ?_)
  obtain rfl : a2 = y_12 := (ey_12.trans h_a2.symm).symm
  refine lv_aload_n hx hb dL_law_378 rfl (lv_at hl 6 rfl) ?_
  refine lv_iload hx hb dL_law_379 (lv_at hl 1 rfl) ?_
  refine lv_iconst (v := 3) hx hb dL_law_381 (by decide) ?_
  refine lv_iadd hx hb dL_law_382 ?_
  refine lv_topi (fun y_13 ey_13 => ?_)
  obtain rfl : y_13 = 3 := ey_13.trans (by decide)
  refine va_sld hx hb hX hbl hbA hS (by unfold vp_in; decide) dL_law_383 ?_
  refine lv_topi (fun y_14 ey_14 => ?_)
  obtain rfl : a3 = y_14 := (ey_14.trans h_a3.symm).symm
  have hPc := hP.sub (ws' := [(mm, .inr (10, [.int 0, .ref pl, .ref ig, .ref sl, .ref kl, .int 0, .int 0, .int 0])), (pl, .inr (1, [.int 0, .ref dz, .int 0])), (sl, .inr (1, [.int 0, .ref dz, .int 0])), (kl, .inr (1, [.int 0, .ref dz, .int 0]))]) [10, 11, 12, 13] rfl
  have hDc := hD.sub (ws' := [(mm, .inr (10, [.int 0, .ref pl, .ref ig, .ref sl, .ref kl, .int 0, .int 0, .int 0])), (pl, .inr (1, [.int 0, .ref dz, .int 0])), (sl, .inr (1, [.int 0, .ref dz, .int 0])), (kl, .inr (1, [.int 0, .ref dz, .int 0]))]) [10, 11, 12, 13] (by decide) rfl
  have hKc := hK.sub (tys' := []) [] rfl
  have hFc := va_free (wc := [(mm, .inr (10, [.int 0, .ref pl, .ref ig, .ref sl, .ref kl, .int 0, .int 0, .int 0])), (pl, .inr (1, [.int 0, .ref dz, .int 0])), (sl, .inr (1, [.int 0, .ref dz, .int 0])), (kl, .inr (1, [.int 0, .ref dz, .int 0]))]) hD hS hA [10, 11, 12, 13] rfl
  refine va_calli (va_runV (As := [.int a1, .int a2, .int a3]) (rest := []) ⟨hx, hb, hml, hown, hts⟩ (c_X8_cast l dC dI mm pl ig sl kl dz a1 a2 a3 _ ) (cwV 3 hts gL_law_X8_cast rfl rfl rfl (by decide +kernel) ⟨Nat.le_of_ble_eq_true rfl, Nat.le_of_ble_eq_true rfl⟩) ⟨pe_blind mo_bl, va_recv hKc hPc (ci := 10) (q0 := 0) rfl rfl, fun U hU hW => ⟨rfl, pr_mk hU hW hPc hKc hDc, mo_mk hW (lx_m hLX)⟩⟩ rfl rfl hl.1 rfl (lv_room (Nat.le_of_ble_eq_true rfl)) dL_law_384 ⟨Nat.le_of_ble_eq_true rfl, Nat.le_of_ble_eq_true rfl⟩) hS (fun q _ h => hFc q h) hFc (fun r_16 u_15 t H1 locs ht hvm hw hB hz1 hk1 hS => ?_)
  obtain ⟨hP1, hK1, hD1⟩ := hB
  rw [ht] at hP1
  obtain ⟨hP, hD⟩ := va_join (wr := [(pa, .inr (3, [.ref p_v, .int 0, .ref p_st, .ref p_ib, .ref p_di, .ref p_wa, .ref p_se, .ref p_vh, .ref p_re])), (b0, .inl (cI, 6, .inl zi)), (b1, .inl (cZ, 6, .inl zi)), (b4, .inl (cI, 4, .inl zi)), (p_v, .inl (cI, 4, .inl zi)), (p_st, .inl (cI, 4, .inl zi)), (p_ib, .inl (cZ, 4, .inl zi)), (p_di, .inl (cI, 4, .inl zi)), (p_wa, .inl (cI, 4, .inl zi)), (p_se, .inl (cI, 4, .inl zi)), (ou, .inl (cJ, 1, .inr (.inl zl))), (od, .inl (cD, 1, .inr (.inr (.inr (.inl zd)))))]) (w1 := [(mm, .inr (10, [.int 1, .ref pl, .ref ig, .ref sl, .ref kl, .int 0, .int 0, .int 0]))]) hP hD [10, 11, 12, 13] [0, 1, 2, 3, 4, 5, 6, 7, 8, 9, 14, 15] rfl rfl (by decide) (by decide) hk1 hFc hP1 hD1
  generalize H1 = H at hP hS ⊢
  have hP : va_P (dC, dI) vwCl [(pa, .inr (3, [.ref p_v, .int 0, .ref p_st, .ref p_ib, .ref p_di, .ref p_wa, .ref p_se, .ref p_vh, .ref p_re])), (b0, .inl (cI, 6, .inl zi)), (b1, .inl (cZ, 6, .inl zi)), (b4, .inl (cI, 4, .inl zi)), (p_v, .inl (cI, 4, .inl zi)), (p_st, .inl (cI, 4, .inl zi)), (p_ib, .inl (cZ, 4, .inl zi)), (p_di, .inl (cI, 4, .inl zi)), (p_wa, .inl (cI, 4, .inl zi)), (p_se, .inl (cI, 4, .inl zi)), (ou, .inl (cJ, 1, .inr (.inl zl))), (od, .inl (cD, 1, .inr (.inr (.inr (.inl zd))))), (mm, .inr (10, [.int 1, .ref pl, .ref ig, .ref sl, .ref kl, .int 0, .int 0, .int 0]))] H := hP
  have hD : va_D A [(pa, .inr (3, [.ref p_v, .int 0, .ref p_st, .ref p_ib, .ref p_di, .ref p_wa, .ref p_se, .ref p_vh, .ref p_re])), (b0, .inl (cI, 6, .inl zi)), (b1, .inl (cZ, 6, .inl zi)), (b4, .inl (cI, 4, .inl zi)), (p_v, .inl (cI, 4, .inl zi)), (p_st, .inl (cI, 4, .inl zi)), (p_ib, .inl (cZ, 4, .inl zi)), (p_di, .inl (cI, 4, .inl zi)), (p_wa, .inl (cI, 4, .inl zi)), (p_se, .inl (cI, 4, .inl zi)), (ou, .inl (cJ, 1, .inr (.inl zl))), (od, .inl (cD, 1, .inr (.inr (.inr (.inl zd))))), (mm, .inr (10, [.int 1, .ref pl, .ref ig, .ref sl, .ref kl, .int 0, .int 0, .int 0]))] := hD
  refine W.widen (k := 119) (n := 756) (Nat.le_refl _) (Nat.le_refl _) ?_
  have hw : r_16 = 0 := hw
  subst hw
  refine lv_istore (lv' := [(7, .int 0), (6, .int 1), (5, .int 0), (4, .ref od), (3, .ref ou), (2, .ref mm), (1, .ref x), (0, .ref b)]) hx hb dL_law_387 hl (by decide) rfl (fun ls hl => ?_)
  refine lv_aload_n hx hb dL_law_389 rfl (lv_at hl 5 rfl) ?_
  have hPc := hP.sub (ws' := [(mm, .inr (10, [.int 1, .ref pl, .ref ig, .ref sl, .ref kl, .int 0, .int 0, .int 0]))]) [12] rfl
  have hDc := hD.sub (ws' := [(mm, .inr (10, [.int 1, .ref pl, .ref ig, .ref sl, .ref kl, .int 0, .int 0, .int 0]))]) [12] (by decide) rfl
  have hKc := hK.sub (tys' := []) [] rfl
  have hFc := va_free (wc := [(mm, .inr (10, [.int 1, .ref pl, .ref ig, .ref sl, .ref kl, .int 0, .int 0, .int 0]))]) hD hS hA [12] rfl
  refine va_calli (va_runV (As := []) (rest := []) ⟨hx, hb, hml, hown, hts⟩ (c_X8_thrown l dC dI mm pl ig sl kl (1 : Int32) (0 : Int32) (0 : Int32) (0 : Int32) _ ) (cwV 0 hts gL_law_X8_thrown rfl rfl rfl (by decide +kernel) ⟨Nat.le_of_ble_eq_true rfl, Nat.le_of_ble_eq_true rfl⟩) ⟨pr_blind, va_recv hKc hPc (ci := 10) (q0 := 0) rfl rfl, fun U hU hW => ⟨rfl, pr_mk hU hW hPc hKc hDc⟩⟩ rfl rfl hl.1 rfl (lv_room (Nat.le_of_ble_eq_true rfl)) dL_law_390 ⟨Nat.le_of_ble_eq_true rfl, Nat.le_of_ble_eq_true rfl⟩) hS (fun q _ h => hFc q h) hFc (fun r_18 u_17 t H1 locs ht hvm hw hB hz1 hk1 hS => ?_)
  obtain ⟨hP1, hK1, hD1⟩ := hB
  rw [ht] at hP1
  obtain ⟨hP, hD⟩ := va_join (wr := [(pa, .inr (3, [.ref p_v, .int 0, .ref p_st, .ref p_ib, .ref p_di, .ref p_wa, .ref p_se, .ref p_vh, .ref p_re])), (b0, .inl (cI, 6, .inl zi)), (b1, .inl (cZ, 6, .inl zi)), (b4, .inl (cI, 4, .inl zi)), (p_v, .inl (cI, 4, .inl zi)), (p_st, .inl (cI, 4, .inl zi)), (p_ib, .inl (cZ, 4, .inl zi)), (p_di, .inl (cI, 4, .inl zi)), (p_wa, .inl (cI, 4, .inl zi)), (p_se, .inl (cI, 4, .inl zi)), (ou, .inl (cJ, 1, .inr (.inl zl))), (od, .inl (cD, 1, .inr (.inr (.inr (.inl zd)))))]) (w1 := [(mm, .inr (10, [.int 1, .ref pl, .ref ig, .ref sl, .ref kl, .int 0, .int 0, .int 0]))]) hP hD [12] [0, 1, 2, 3, 4, 5, 6, 7, 8, 9, 10, 11] rfl rfl (by decide) (by decide) hk1 hFc hP1 hD1
  generalize H1 = H at hP hS ⊢
  have hP : va_P (dC, dI) vwCl [(pa, .inr (3, [.ref p_v, .int 0, .ref p_st, .ref p_ib, .ref p_di, .ref p_wa, .ref p_se, .ref p_vh, .ref p_re])), (b0, .inl (cI, 6, .inl zi)), (b1, .inl (cZ, 6, .inl zi)), (b4, .inl (cI, 4, .inl zi)), (p_v, .inl (cI, 4, .inl zi)), (p_st, .inl (cI, 4, .inl zi)), (p_ib, .inl (cZ, 4, .inl zi)), (p_di, .inl (cI, 4, .inl zi)), (p_wa, .inl (cI, 4, .inl zi)), (p_se, .inl (cI, 4, .inl zi)), (ou, .inl (cJ, 1, .inr (.inl zl))), (od, .inl (cD, 1, .inr (.inr (.inr (.inl zd))))), (mm, .inr (10, [.int 1, .ref pl, .ref ig, .ref sl, .ref kl, .int 0, .int 0, .int 0]))] H := hP
  have hD : va_D A [(pa, .inr (3, [.ref p_v, .int 0, .ref p_st, .ref p_ib, .ref p_di, .ref p_wa, .ref p_se, .ref p_vh, .ref p_re])), (b0, .inl (cI, 6, .inl zi)), (b1, .inl (cZ, 6, .inl zi)), (b4, .inl (cI, 4, .inl zi)), (p_v, .inl (cI, 4, .inl zi)), (p_st, .inl (cI, 4, .inl zi)), (p_ib, .inl (cZ, 4, .inl zi)), (p_di, .inl (cI, 4, .inl zi)), (p_wa, .inl (cI, 4, .inl zi)), (p_se, .inl (cI, 4, .inl zi)), (ou, .inl (cJ, 1, .inr (.inl zl))), (od, .inl (cD, 1, .inr (.inr (.inr (.inl zd))))), (mm, .inr (10, [.int 1, .ref pl, .ref ig, .ref sl, .ref kl, .int 0, .int 0, .int 0]))] := hD
  refine W.widen (k := 119) (n := 756) (Nat.le_refl _) (Nat.le_refl _) ?_
  have hw : r_18 = 1 := hw
  subst hw
  refine lv_iload hx hb dL_law_393 (lv_at hl 1 rfl) ?_
  refine lv_icmp_eq (tgt := 400) hx hb dL_law_395 (by decide) (fun _ => ?_) (fun h9 => absurd h9 (by decide))
  refine lv_iload hx hb dL_law_400 (lv_at hl 1 rfl) ?_
  refine lv_if_ne (tgt := 417) hx hb dL_law_402 (by decide) (fun _ => ?_) (fun h9 => absurd h9 (by decide))
  refine lv_goto (tgt := 2007) hx hb dL_law_417 (by decide) ?_
  exact law_tail l C0 hAe hS (lv_sub hl [2, 7] rfl) (Nat.le_of_ble_eq_true rfl) (Nat.le_of_ble_eq_true rfl)

set_option maxHeartbeats 4000000 in
set_option maxRecDepth 100000 in
theorem case_recount {p : Program} {e : Env} {s : State} {m : MethodId} {below : List Frame} {meth : Method} {c : Code} (l : Launch) (hfl : l.stackTraces = false) {b : Nat} {xs : Nat → Int32} (C0 : lw_At p s m meth c b 5 xs) {dz tc : Nat} {ad : Nat → Nat} (hLX : lx_ (fun q : Nat => s.heap.size ≤ q) dz tc ad s) (dC : Nat → ClassId) (dI : Nat → Nat → Nat) {x : Nat} {po : Nat} {tr : Nat} {sp : Nat} {bx : Nat} {b0 : Nat} {b1 : Nat} {b4 : Nat} {b6 : Nat} {pa : Nat} {p_v : Nat} {p_st : Nat} {p_ib : Nat} {p_di : Nat} {p_wa : Nat} {p_se : Nat} {p_vh : Nat} {p_re : Nat} {mm : Nat} {pl : Nat} {ig : Nat} {sl : Nat} {kl : Nat} {ou : Nat} {od : Nat} {cI : ClassId} {cZ : ClassId} {cJ : ClassId} {cD : ClassId} {H : Heap} {locs : List Loc} {ls : Array Slot} (hK : va_K (dC, dI) vwCl [(cI, .int), (cZ, .boolean), (cJ, .long), (cD, .double)] s) (hP : va_P (dC, dI) vwCl [(x, .inr (7, [.ref bx, .ref po, .ref tr, .ref pa, .ref sp])), (bx, .inr (2, [.ref b0, .ref b1, .int 0, .int 0, .ref b4, .int 0, .ref b6, .int 0, .int 0, .int 0, .int 0])), (pa, .inr (3, [.ref p_v, .int 0, .ref p_st, .ref p_ib, .ref p_di, .ref p_wa, .ref p_se, .ref p_vh, .ref p_re])), (b0, .inl (cI, 6, .inl zi)), (b1, .inl (cZ, 6, .inl zi)), (b4, .inl (cI, 4, .inl zi)), (p_v, .inl (cI, 4, .inl zi)), (p_st, .inl (cI, 4, .inl zi)), (p_ib, .inl (cZ, 4, .inl zi)), (p_di, .inl (cI, 4, .inl zi)), (p_wa, .inl (cI, 4, .inl zi)), (p_se, .inl (cI, 4, .inl zi)), (mm, .inr (10, [.int 0, .ref pl, .ref ig, .ref sl, .ref kl, .int 0, .int 0, .int 0])), (pl, .inr (1, [.int 0, .ref dz, .int 0])), (sl, .inr (1, [.int 0, .ref dz, .int 0])), (kl, .inr (1, [.int 0, .ref dz, .int 0])), (ou, .inl (cJ, 1, .inr (.inl zl))), (od, .inl (cD, 1, .inr (.inr (.inr (.inl zd)))))] H) (hD : va_D (fun q : Nat => s.heap.size ≤ q) [(x, .inr (7, [.ref bx, .ref po, .ref tr, .ref pa, .ref sp])), (bx, .inr (2, [.ref b0, .ref b1, .int 0, .int 0, .ref b4, .int 0, .ref b6, .int 0, .int 0, .int 0, .int 0])), (pa, .inr (3, [.ref p_v, .int 0, .ref p_st, .ref p_ib, .ref p_di, .ref p_wa, .ref p_se, .ref p_vh, .ref p_re])), (b0, .inl (cI, 6, .inl zi)), (b1, .inl (cZ, 6, .inl zi)), (b4, .inl (cI, 4, .inl zi)), (p_v, .inl (cI, 4, .inl zi)), (p_st, .inl (cI, 4, .inl zi)), (p_ib, .inl (cZ, 4, .inl zi)), (p_di, .inl (cI, 4, .inl zi)), (p_wa, .inl (cI, 4, .inl zi)), (p_se, .inl (cI, 4, .inl zi)), (mm, .inr (10, [.int 0, .ref pl, .ref ig, .ref sl, .ref kl, .int 0, .int 0, .int 0])), (pl, .inr (1, [.int 0, .ref dz, .int 0])), (sl, .inr (1, [.int 0, .ref dz, .int 0])), (kl, .inr (1, [.int 0, .ref dz, .int 0])), (ou, .inl (cJ, 1, .inr (.inl zl))), (od, .inl (cD, 1, .inr (.inr (.inr (.inl zd)))))]) (hS : va_S (fun q : Nat => s.heap.size ≤ q) s.heap H locs) (hl : lv_has ls 9 [(5, .int 0), (4, .ref od), (3, .ref ou), (2, .ref mm), (1, .ref x), (0, .ref b)]) : W p l e room_1 s m #[Value.ref b] below meth c H locs 118 750 (lw_Z below #[Value.ref b] s) (F0 m 420 ls []) := by
  obtain ⟨hx, hb, hr, hml, hown, hts0, hX, hbl, hlocks, hgv⟩ := id C0
  have hts : ∀ w ∈ lw_tbl, w.before #[Value.ref b] s = true := hts0
  have hbA : ¬ (fun q : Nat => s.heap.size ≤ q) b := Nat.not_le.mpr hbl
  have hA : ∀ q : Nat, s.heap.size ≤ q → (fun q : Nat => s.heap.size ≤ q) q := fun _ h => h
  generalize hAe : (fun q : Nat => s.heap.size ≤ q) = A at hD hS hbA hA hLX
  obtain ⟨a1, h_a1⟩ : ∃ z, z = xs ((1 : Int32).toNatClampNeg) := ⟨_, rfl⟩
  obtain ⟨a2, h_a2⟩ : ∃ z, z = xs ((2 : Int32).toNatClampNeg) := ⟨_, rfl⟩
  obtain ⟨a3, h_a3⟩ : ∃ z, z = xs ((3 : Int32).toNatClampNeg) := ⟨_, rfl⟩
  obtain ⟨a4, h_a4⟩ : ∃ z, z = xs ((4 : Int32).toNatClampNeg) := ⟨_, rfl⟩
  refine lv_aload_n hx hb dL_law_420 rfl (lv_at hl 4 rfl) ?_
  refine lv_aload_n hx hb dL_law_421 rfl (lv_at hl 5 rfl) ?_
  refine lv_iload hx hb dL_law_422 (lv_at hl 0 rfl) ?_
  refine lv_iconst (v := 1) hx hb dL_law_424 (by decide) ?_
  refine lv_iadd hx hb dL_law_425 ?_
  refine lv_topi (fun y_1 ey_1 => ?_)
  obtain rfl : y_1 = 1 := ey_1.trans (by decide)
  refine va_sld hx hb hX hbl hbA hS (by unfold vp_in; decide) dL_law_426 ?_
  refine lv_topi (fun y_2 ey_2 => ?_)
  obtain rfl : a1 = y_2 := (ey_2.trans h_a1.symm).symm
  refine lv_aload_n hx hb dL_law_427 rfl (lv_at hl 5 rfl) ?_
  refine lv_iload hx hb dL_law_428 (lv_at hl 0 rfl) ?_
  refine lv_iconst (v := 2) hx hb dL_law_430 (by decide) ?_
  refine lv_iadd hx hb dL_law_431 ?_
  refine lv_topi (fun y_3 ey_3 => ?_)
  obtain rfl : y_3 = 2 := ey_3.trans (by decide)
  refine va_sld hx hb hX hbl hbA hS (by unfold vp_in; decide) dL_law_432 ?_
  refine lv_topi (fun y_4 ey_4 => ?_)
  obtain rfl : a2 = y_4 := (ey_4.trans h_a2.symm).symm
  refine lv_aload_n hx hb dL_law_433 rfl (lv_at hl 2 rfl) ?_
  have hPc := hP.sub (ws' := [(x, .inr (7, [.ref bx, .ref po, .ref tr, .ref pa, .ref sp])), (bx, .inr (2, [.ref b0, .ref b1, .int 0, .int 0, .ref b4, .int 0, .ref b6, .int 0, .int 0, .int 0, .int 0]))]) [0, 1] rfl
  have hDc := hD.sub (ws' := [(x, .inr (7, [.ref bx, .ref po, .ref tr, .ref pa, .ref sp])), (bx, .inr (2, [.ref b0, .ref b1, .int 0, .int 0, .ref b4, .int 0, .ref b6, .int 0, .int 0, .int 0, .int 0]))]) [0, 1] (by decide) rfl
  have hKc := hK.sub (tys' := []) [] rfl
  have hFc := va_free (wc := [(x, .inr (7, [.ref bx, .ref po, .ref tr, .ref pa, .ref sp])), (bx, .inr (2, [.ref b0, .ref b1, .int 0, .int 0, .ref b4, .int 0, .ref b6, .int 0, .int 0, .int 0, .int 0]))]) hD hS hA [0, 1] rfl
  refine va_calli (vx_runSW (As := [.ref x, .int a1, .int a2, .ref ou]) (rest := []) ⟨hx, hb, hml, hown, hts⟩ (h0_L_recount l hfl dC dI x po tr sp pa bx b0 b1 b4 b6 a1 a2 ou ((lx_s301 hLX).choose) ((lx_s301 hLX).choose_spec.choose) _ ) (vx_cwSW 4 hts gL_law_L_recount rfl rfl rfl (by decide +kernel) ⟨Nat.le_of_ble_eq_true rfl, Nat.le_of_ble_eq_true rfl⟩) ⟨pn_blind (fun _ _ _ _ h => h), fun U hU hW => ⟨rfl, pr_mk hU hW hPc hKc hDc, xs_mk hU hW hS hFc (lx_xo hLX (lx_s301 hLX).choose_spec.choose_spec), trivial⟩⟩ rfl rfl hl.1 rfl (lv_room (Nat.le_of_ble_eq_true rfl)) dL_law_434 ⟨Nat.le_of_ble_eq_true rfl, Nat.le_of_ble_eq_true rfl⟩) hS (fun q _ h => hFc q h) hFc (fun r_6 u_5 t H1 locs ht hvm hw hB hz1 hk1 hS => ?_)
  obtain ⟨hP1, hK1, hD1⟩ := hB
  rw [ht] at hP1
  obtain ⟨hP, hD⟩ := va_join (wr := [(pa, .inr (3, [.ref p_v, .int 0, .ref p_st, .ref p_ib, .ref p_di, .ref p_wa, .ref p_se, .ref p_vh, .ref p_re])), (b0, .inl (cI, 6, .inl zi)), (b1, .inl (cZ, 6, .inl zi)), (b4, .inl (cI, 4, .inl zi)), (p_v, .inl (cI, 4, .inl zi)), (p_st, .inl (cI, 4, .inl zi)), (p_ib, .inl (cZ, 4, .inl zi)), (p_di, .inl (cI, 4, .inl zi)), (p_wa, .inl (cI, 4, .inl zi)), (p_se, .inl (cI, 4, .inl zi)), (mm, .inr (10, [.int 0, .ref pl, .ref ig, .ref sl, .ref kl, .int 0, .int 0, .int 0])), (pl, .inr (1, [.int 0, .ref dz, .int 0])), (sl, .inr (1, [.int 0, .ref dz, .int 0])), (kl, .inr (1, [.int 0, .ref dz, .int 0])), (ou, .inl (cJ, 1, .inr (.inl zl))), (od, .inl (cD, 1, .inr (.inr (.inr (.inl zd)))))]) (w1 := []) hP hD [0, 1] [2, 3, 4, 5, 6, 7, 8, 9, 10, 11, 12, 13, 14, 15, 16, 17] rfl rfl (by decide) (by decide) hk1 hFc hP1 hD1
  generalize H1 = H at hP hS ⊢
  have hP : va_P (dC, dI) vwCl [(pa, .inr (3, [.ref p_v, .int 0, .ref p_st, .ref p_ib, .ref p_di, .ref p_wa, .ref p_se, .ref p_vh, .ref p_re])), (b0, .inl (cI, 6, .inl zi)), (b1, .inl (cZ, 6, .inl zi)), (b4, .inl (cI, 4, .inl zi)), (p_v, .inl (cI, 4, .inl zi)), (p_st, .inl (cI, 4, .inl zi)), (p_ib, .inl (cZ, 4, .inl zi)), (p_di, .inl (cI, 4, .inl zi)), (p_wa, .inl (cI, 4, .inl zi)), (p_se, .inl (cI, 4, .inl zi)), (mm, .inr (10, [.int 0, .ref pl, .ref ig, .ref sl, .ref kl, .int 0, .int 0, .int 0])), (pl, .inr (1, [.int 0, .ref dz, .int 0])), (sl, .inr (1, [.int 0, .ref dz, .int 0])), (kl, .inr (1, [.int 0, .ref dz, .int 0])), (ou, .inl (cJ, 1, .inr (.inl zl))), (od, .inl (cD, 1, .inr (.inr (.inr (.inl zd)))))] H := hP
  have hD : va_D A [(pa, .inr (3, [.ref p_v, .int 0, .ref p_st, .ref p_ib, .ref p_di, .ref p_wa, .ref p_se, .ref p_vh, .ref p_re])), (b0, .inl (cI, 6, .inl zi)), (b1, .inl (cZ, 6, .inl zi)), (b4, .inl (cI, 4, .inl zi)), (p_v, .inl (cI, 4, .inl zi)), (p_st, .inl (cI, 4, .inl zi)), (p_ib, .inl (cZ, 4, .inl zi)), (p_di, .inl (cI, 4, .inl zi)), (p_wa, .inl (cI, 4, .inl zi)), (p_se, .inl (cI, 4, .inl zi)), (mm, .inr (10, [.int 0, .ref pl, .ref ig, .ref sl, .ref kl, .int 0, .int 0, .int 0])), (pl, .inr (1, [.int 0, .ref dz, .int 0])), (sl, .inr (1, [.int 0, .ref dz, .int 0])), (kl, .inr (1, [.int 0, .ref dz, .int 0])), (ou, .inl (cJ, 1, .inr (.inl zl))), (od, .inl (cD, 1, .inr (.inr (.inr (.inl zd)))))] := hD
  refine W.widen (k := 119) (n := 756) (Nat.le_of_ble_eq_true rfl) (Nat.le_of_ble_eq_true rfl) ?_
  have hw : r_6 = 1 := hw
  subst hw
  refine lv_istore (lv' := [(6, .int 1), (5, .int 0), (4, .ref od), (3, .ref ou), (2, .ref mm), (1, .ref x), (0, .ref b)]) hx hb dL_law_437 hl (by decide) rfl (fun ls hl => ?_)
  refine lv_aload_n hx hb dL_law_439 rfl (lv_at hl 4 rfl) ?_
  refine lv_aload_n hx hb dL_law_440 rfl (lv_at hl 6 rfl) ?_
  refine lv_iload hx hb dL_law_441 (lv_at hl 1 rfl) ?_
  refine lv_iconst (v := 1) hx hb dL_law_443 (by decide) ?_
  refine lv_iadd hx hb dL_law_444 ?_
  refine lv_topi (fun y_7 ey_7 => ?_)
  obtain rfl : y_7 = 1 := ey_7.trans (by decide)
  refine va_sld hx hb hX hbl hbA hS (by unfold vp_in; decide) dL_law_445 ?_
  refine lv_topi (fun y_8 ey_8 => ?_)
  obtain rfl : a1 = y_8 := (ey_8.trans h_a1.symm).symm
  refine lv_aload_n hx hb dL_law_446 rfl (lv_at hl 6 rfl) ?_
  refine lv_iload hx hb dL_law_447 (lv_at hl 1 rfl) ?_
  refine lv_iconst (v := 2) hx hb dL_law_449 (by decide) ?_
  refine lv_iadd hx hb dL_law_450 ?_
  refine lv_topi (fun y_9 ey_9 => ?_)
  obtain rfl : y_9 = 2 := ey_9.trans (by decide)
  refine va_sld hx hb hX hbl hbA hS (by unfold vp_in; decide) dL_law_451 ?_
  refine lv_topi (fun y_10 ey_10 => ?_)
  obtain rfl : a2 = y_10 := (ey_10.trans h_a2.symm).symm
  have hPc := hP.sub (ws' := [(mm, .inr (10, [.int 0, .ref pl, .ref ig, .ref sl, .ref kl, .int 0, .int 0, .int 0])), (pl, .inr (1, [.int 0, .ref dz, .int 0])), (sl, .inr (1, [.int 0, .ref dz, .int 0])), (kl, .inr (1, [.int 0, .ref dz, .int 0]))]) [10, 11, 12, 13] rfl
  have hDc := hD.sub (ws' := [(mm, .inr (10, [.int 0, .ref pl, .ref ig, .ref sl, .ref kl, .int 0, .int 0, .int 0])), (pl, .inr (1, [.int 0, .ref dz, .int 0])), (sl, .inr (1, [.int 0, .ref dz, .int 0])), (kl, .inr (1, [.int 0, .ref dz, .int 0]))]) [10, 11, 12, 13] (by decide) rfl
  have hKc := hK.sub (tys' := []) [] rfl
  have hFc := va_free (wc := [(mm, .inr (10, [.int 0, .ref pl, .ref ig, .ref sl, .ref kl, .int 0, .int 0, .int 0])), (pl, .inr (1, [.int 0, .ref dz, .int 0])), (sl, .inr (1, [.int 0, .ref dz, .int 0])), (kl, .inr (1, [.int 0, .ref dz, .int 0]))]) hD hS hA [10, 11, 12, 13] rfl
  refine va_calli (va_runV (As := [.int a1, .int a2]) (rest := []) ⟨hx, hb, hml, hown, hts⟩ (c_X8_recount l dC dI mm pl ig sl kl dz a1 a2 _ ) (cwV 2 hts gL_law_X8_recount rfl rfl rfl (by decide +kernel) ⟨Nat.le_of_ble_eq_true rfl, Nat.le_of_ble_eq_true rfl⟩) ⟨pe_blind mo_bl, va_recv hKc hPc (ci := 10) (q0 := 0) rfl rfl, fun U hU hW => ⟨rfl, pr_mk hU hW hPc hKc hDc, mo_mk hW (lx_m hLX)⟩⟩ rfl rfl hl.1 rfl (lv_room (Nat.le_of_ble_eq_true rfl)) dL_law_452 ⟨Nat.le_of_ble_eq_true rfl, Nat.le_of_ble_eq_true rfl⟩) hS (fun q _ h => hFc q h) hFc (fun r_12 u_11 t H1 locs ht hvm hw hB hz1 hk1 hS => ?_)
  obtain ⟨hP1, hK1, hD1⟩ := hB
  rw [ht] at hP1
  obtain ⟨hP, hD⟩ := va_join (wr := [(pa, .inr (3, [.ref p_v, .int 0, .ref p_st, .ref p_ib, .ref p_di, .ref p_wa, .ref p_se, .ref p_vh, .ref p_re])), (b0, .inl (cI, 6, .inl zi)), (b1, .inl (cZ, 6, .inl zi)), (b4, .inl (cI, 4, .inl zi)), (p_v, .inl (cI, 4, .inl zi)), (p_st, .inl (cI, 4, .inl zi)), (p_ib, .inl (cZ, 4, .inl zi)), (p_di, .inl (cI, 4, .inl zi)), (p_wa, .inl (cI, 4, .inl zi)), (p_se, .inl (cI, 4, .inl zi)), (ou, .inl (cJ, 1, .inr (.inl zl))), (od, .inl (cD, 1, .inr (.inr (.inr (.inl zd)))))]) (w1 := [(mm, .inr (10, [.int 1, .ref pl, .ref ig, .ref sl, .ref kl, .int 0, .int 0, .int 0]))]) hP hD [10, 11, 12, 13] [0, 1, 2, 3, 4, 5, 6, 7, 8, 9, 14, 15] rfl rfl (by decide) (by decide) hk1 hFc hP1 hD1
  generalize H1 = H at hP hS ⊢
  have hP : va_P (dC, dI) vwCl [(pa, .inr (3, [.ref p_v, .int 0, .ref p_st, .ref p_ib, .ref p_di, .ref p_wa, .ref p_se, .ref p_vh, .ref p_re])), (b0, .inl (cI, 6, .inl zi)), (b1, .inl (cZ, 6, .inl zi)), (b4, .inl (cI, 4, .inl zi)), (p_v, .inl (cI, 4, .inl zi)), (p_st, .inl (cI, 4, .inl zi)), (p_ib, .inl (cZ, 4, .inl zi)), (p_di, .inl (cI, 4, .inl zi)), (p_wa, .inl (cI, 4, .inl zi)), (p_se, .inl (cI, 4, .inl zi)), (ou, .inl (cJ, 1, .inr (.inl zl))), (od, .inl (cD, 1, .inr (.inr (.inr (.inl zd))))), (mm, .inr (10, [.int 1, .ref pl, .ref ig, .ref sl, .ref kl, .int 0, .int 0, .int 0]))] H := hP
  have hD : va_D A [(pa, .inr (3, [.ref p_v, .int 0, .ref p_st, .ref p_ib, .ref p_di, .ref p_wa, .ref p_se, .ref p_vh, .ref p_re])), (b0, .inl (cI, 6, .inl zi)), (b1, .inl (cZ, 6, .inl zi)), (b4, .inl (cI, 4, .inl zi)), (p_v, .inl (cI, 4, .inl zi)), (p_st, .inl (cI, 4, .inl zi)), (p_ib, .inl (cZ, 4, .inl zi)), (p_di, .inl (cI, 4, .inl zi)), (p_wa, .inl (cI, 4, .inl zi)), (p_se, .inl (cI, 4, .inl zi)), (ou, .inl (cJ, 1, .inr (.inl zl))), (od, .inl (cD, 1, .inr (.inr (.inr (.inl zd))))), (mm, .inr (10, [.int 1, .ref pl, .ref ig, .ref sl, .ref kl, .int 0, .int 0, .int 0]))] := hD
  refine W.widen (k := 119) (n := 756) (Nat.le_refl _) (Nat.le_refl _) ?_
  have hw : r_12 = 0 := hw
  subst hw
  refine lv_istore (lv' := [(7, .int 0), (6, .int 1), (5, .int 0), (4, .ref od), (3, .ref ou), (2, .ref mm), (1, .ref x), (0, .ref b)]) hx hb dL_law_455 hl (by decide) rfl (fun ls hl => ?_)
  refine lv_aload_n hx hb dL_law_457 rfl (lv_at hl 5 rfl) ?_
  have hPc := hP.sub (ws' := [(mm, .inr (10, [.int 1, .ref pl, .ref ig, .ref sl, .ref kl, .int 0, .int 0, .int 0]))]) [12] rfl
  have hDc := hD.sub (ws' := [(mm, .inr (10, [.int 1, .ref pl, .ref ig, .ref sl, .ref kl, .int 0, .int 0, .int 0]))]) [12] (by decide) rfl
  have hKc := hK.sub (tys' := []) [] rfl
  have hFc := va_free (wc := [(mm, .inr (10, [.int 1, .ref pl, .ref ig, .ref sl, .ref kl, .int 0, .int 0, .int 0]))]) hD hS hA [12] rfl
  refine va_calli (va_runV (As := []) (rest := []) ⟨hx, hb, hml, hown, hts⟩ (c_X8_thrown l dC dI mm pl ig sl kl (1 : Int32) (0 : Int32) (0 : Int32) (0 : Int32) _ ) (cwV 0 hts gL_law_X8_thrown rfl rfl rfl (by decide +kernel) ⟨Nat.le_of_ble_eq_true rfl, Nat.le_of_ble_eq_true rfl⟩) ⟨pr_blind, va_recv hKc hPc (ci := 10) (q0 := 0) rfl rfl, fun U hU hW => ⟨rfl, pr_mk hU hW hPc hKc hDc⟩⟩ rfl rfl hl.1 rfl (lv_room (Nat.le_of_ble_eq_true rfl)) dL_law_458 ⟨Nat.le_of_ble_eq_true rfl, Nat.le_of_ble_eq_true rfl⟩) hS (fun q _ h => hFc q h) hFc (fun r_14 u_13 t H1 locs ht hvm hw hB hz1 hk1 hS => ?_)
  obtain ⟨hP1, hK1, hD1⟩ := hB
  rw [ht] at hP1
  obtain ⟨hP, hD⟩ := va_join (wr := [(pa, .inr (3, [.ref p_v, .int 0, .ref p_st, .ref p_ib, .ref p_di, .ref p_wa, .ref p_se, .ref p_vh, .ref p_re])), (b0, .inl (cI, 6, .inl zi)), (b1, .inl (cZ, 6, .inl zi)), (b4, .inl (cI, 4, .inl zi)), (p_v, .inl (cI, 4, .inl zi)), (p_st, .inl (cI, 4, .inl zi)), (p_ib, .inl (cZ, 4, .inl zi)), (p_di, .inl (cI, 4, .inl zi)), (p_wa, .inl (cI, 4, .inl zi)), (p_se, .inl (cI, 4, .inl zi)), (ou, .inl (cJ, 1, .inr (.inl zl))), (od, .inl (cD, 1, .inr (.inr (.inr (.inl zd)))))]) (w1 := [(mm, .inr (10, [.int 1, .ref pl, .ref ig, .ref sl, .ref kl, .int 0, .int 0, .int 0]))]) hP hD [12] [0, 1, 2, 3, 4, 5, 6, 7, 8, 9, 10, 11] rfl rfl (by decide) (by decide) hk1 hFc hP1 hD1
  generalize H1 = H at hP hS ⊢
  have hP : va_P (dC, dI) vwCl [(pa, .inr (3, [.ref p_v, .int 0, .ref p_st, .ref p_ib, .ref p_di, .ref p_wa, .ref p_se, .ref p_vh, .ref p_re])), (b0, .inl (cI, 6, .inl zi)), (b1, .inl (cZ, 6, .inl zi)), (b4, .inl (cI, 4, .inl zi)), (p_v, .inl (cI, 4, .inl zi)), (p_st, .inl (cI, 4, .inl zi)), (p_ib, .inl (cZ, 4, .inl zi)), (p_di, .inl (cI, 4, .inl zi)), (p_wa, .inl (cI, 4, .inl zi)), (p_se, .inl (cI, 4, .inl zi)), (ou, .inl (cJ, 1, .inr (.inl zl))), (od, .inl (cD, 1, .inr (.inr (.inr (.inl zd))))), (mm, .inr (10, [.int 1, .ref pl, .ref ig, .ref sl, .ref kl, .int 0, .int 0, .int 0]))] H := hP
  have hD : va_D A [(pa, .inr (3, [.ref p_v, .int 0, .ref p_st, .ref p_ib, .ref p_di, .ref p_wa, .ref p_se, .ref p_vh, .ref p_re])), (b0, .inl (cI, 6, .inl zi)), (b1, .inl (cZ, 6, .inl zi)), (b4, .inl (cI, 4, .inl zi)), (p_v, .inl (cI, 4, .inl zi)), (p_st, .inl (cI, 4, .inl zi)), (p_ib, .inl (cZ, 4, .inl zi)), (p_di, .inl (cI, 4, .inl zi)), (p_wa, .inl (cI, 4, .inl zi)), (p_se, .inl (cI, 4, .inl zi)), (ou, .inl (cJ, 1, .inr (.inl zl))), (od, .inl (cD, 1, .inr (.inr (.inr (.inl zd))))), (mm, .inr (10, [.int 1, .ref pl, .ref ig, .ref sl, .ref kl, .int 0, .int 0, .int 0]))] := hD
  refine W.widen (k := 119) (n := 756) (Nat.le_refl _) (Nat.le_refl _) ?_
  have hw : r_14 = 1 := hw
  subst hw
  refine lv_iload hx hb dL_law_461 (lv_at hl 1 rfl) ?_
  refine lv_icmp_eq (tgt := 468) hx hb dL_law_463 (by decide) (fun _ => ?_) (fun h9 => absurd h9 (by decide))
  refine lv_iload hx hb dL_law_468 (lv_at hl 1 rfl) ?_
  refine lv_if_ne (tgt := 485) hx hb dL_law_470 (by decide) (fun _ => ?_) (fun h9 => absurd h9 (by decide))
  refine lv_goto (tgt := 2007) hx hb dL_law_485 (by decide) ?_
  exact law_tail l C0 hAe hS (lv_sub hl [2, 7] rfl) (Nat.le_of_ble_eq_true rfl) (Nat.le_of_ble_eq_true rfl)

set_option maxHeartbeats 4000000 in
set_option maxRecDepth 100000 in
theorem case_move {p : Program} {e : Env} {s : State} {m : MethodId} {below : List Frame} {meth : Method} {c : Code} (l : Launch) (hfl : l.stackTraces = false) {b : Nat} {xs : Nat → Int32} (C0 : lw_At p s m meth c b 5 xs) {dz tc : Nat} {ad : Nat → Nat} (hLX : lx_ (fun q : Nat => s.heap.size ≤ q) dz tc ad s) (dC : Nat → ClassId) (dI : Nat → Nat → Nat) {x : Nat} {po : Nat} {tr : Nat} {sp : Nat} {bx : Nat} {b0 : Nat} {b1 : Nat} {b4 : Nat} {b6 : Nat} {pa : Nat} {p_v : Nat} {p_st : Nat} {p_ib : Nat} {p_di : Nat} {p_wa : Nat} {p_se : Nat} {p_vh : Nat} {p_re : Nat} {mm : Nat} {pl : Nat} {ig : Nat} {sl : Nat} {kl : Nat} {ou : Nat} {od : Nat} {cI : ClassId} {cZ : ClassId} {cJ : ClassId} {cD : ClassId} {H : Heap} {locs : List Loc} {ls : Array Slot} (hK : va_K (dC, dI) vwCl [(cI, .int), (cZ, .boolean), (cJ, .long), (cD, .double)] s) (hP : va_P (dC, dI) vwCl [(x, .inr (7, [.ref bx, .ref po, .ref tr, .ref pa, .ref sp])), (bx, .inr (2, [.ref b0, .ref b1, .int 0, .int 0, .ref b4, .int 0, .ref b6, .int 0, .int 0, .int 0, .int 0])), (pa, .inr (3, [.ref p_v, .int 0, .ref p_st, .ref p_ib, .ref p_di, .ref p_wa, .ref p_se, .ref p_vh, .ref p_re])), (b0, .inl (cI, 6, .inl zi)), (b1, .inl (cZ, 6, .inl zi)), (b4, .inl (cI, 4, .inl zi)), (p_v, .inl (cI, 4, .inl zi)), (p_st, .inl (cI, 4, .inl zi)), (p_ib, .inl (cZ, 4, .inl zi)), (p_di, .inl (cI, 4, .inl zi)), (p_wa, .inl (cI, 4, .inl zi)), (p_se, .inl (cI, 4, .inl zi)), (mm, .inr (10, [.int 0, .ref pl, .ref ig, .ref sl, .ref kl, .int 0, .int 0, .int 0])), (pl, .inr (1, [.int 0, .ref dz, .int 0])), (sl, .inr (1, [.int 0, .ref dz, .int 0])), (kl, .inr (1, [.int 0, .ref dz, .int 0])), (ou, .inl (cJ, 1, .inr (.inl zl))), (od, .inl (cD, 1, .inr (.inr (.inr (.inl zd)))))] H) (hD : va_D (fun q : Nat => s.heap.size ≤ q) [(x, .inr (7, [.ref bx, .ref po, .ref tr, .ref pa, .ref sp])), (bx, .inr (2, [.ref b0, .ref b1, .int 0, .int 0, .ref b4, .int 0, .ref b6, .int 0, .int 0, .int 0, .int 0])), (pa, .inr (3, [.ref p_v, .int 0, .ref p_st, .ref p_ib, .ref p_di, .ref p_wa, .ref p_se, .ref p_vh, .ref p_re])), (b0, .inl (cI, 6, .inl zi)), (b1, .inl (cZ, 6, .inl zi)), (b4, .inl (cI, 4, .inl zi)), (p_v, .inl (cI, 4, .inl zi)), (p_st, .inl (cI, 4, .inl zi)), (p_ib, .inl (cZ, 4, .inl zi)), (p_di, .inl (cI, 4, .inl zi)), (p_wa, .inl (cI, 4, .inl zi)), (p_se, .inl (cI, 4, .inl zi)), (mm, .inr (10, [.int 0, .ref pl, .ref ig, .ref sl, .ref kl, .int 0, .int 0, .int 0])), (pl, .inr (1, [.int 0, .ref dz, .int 0])), (sl, .inr (1, [.int 0, .ref dz, .int 0])), (kl, .inr (1, [.int 0, .ref dz, .int 0])), (ou, .inl (cJ, 1, .inr (.inl zl))), (od, .inl (cD, 1, .inr (.inr (.inr (.inl zd)))))]) (hS : va_S (fun q : Nat => s.heap.size ≤ q) s.heap H locs) (hl : lv_has ls 9 [(5, .int 0), (4, .ref od), (3, .ref ou), (2, .ref mm), (1, .ref x), (0, .ref b)]) : W p l e room_1 s m #[Value.ref b] below meth c H locs 118 750 (lw_Z below #[Value.ref b] s) (F0 m 488 ls []) := by
  obtain ⟨hx, hb, hr, hml, hown, hts0, hX, hbl, hlocks, hgv⟩ := id C0
  have hts : ∀ w ∈ lw_tbl, w.before #[Value.ref b] s = true := hts0
  have hbA : ¬ (fun q : Nat => s.heap.size ≤ q) b := Nat.not_le.mpr hbl
  have hA : ∀ q : Nat, s.heap.size ≤ q → (fun q : Nat => s.heap.size ≤ q) q := fun _ h => h
  generalize hAe : (fun q : Nat => s.heap.size ≤ q) = A at hD hS hbA hA hLX
  obtain ⟨a1, h_a1⟩ : ∃ z, z = xs ((1 : Int32).toNatClampNeg) := ⟨_, rfl⟩
  obtain ⟨a2, h_a2⟩ : ∃ z, z = xs ((2 : Int32).toNatClampNeg) := ⟨_, rfl⟩
  obtain ⟨a3, h_a3⟩ : ∃ z, z = xs ((3 : Int32).toNatClampNeg) := ⟨_, rfl⟩
  obtain ⟨a4, h_a4⟩ : ∃ z, z = xs ((4 : Int32).toNatClampNeg) := ⟨_, rfl⟩
  refine lv_aload_n hx hb dL_law_488 rfl (lv_at hl 4 rfl) ?_
  refine lv_aload_n hx hb dL_law_489 rfl (lv_at hl 5 rfl) ?_
  refine lv_iload hx hb dL_law_490 (lv_at hl 0 rfl) ?_
  refine lv_iconst (v := 1) hx hb dL_law_492 (by decide) ?_
  refine lv_iadd hx hb dL_law_493 ?_
  refine lv_topi (fun y_1 ey_1 => ?_)
  obtain rfl : y_1 = 1 := ey_1.trans (by decide)
  refine va_sld hx hb hX hbl hbA hS (by unfold vp_in; decide) dL_law_494 ?_
  refine lv_topi (fun y_2 ey_2 => ?_)
  obtain rfl : a1 = y_2 := (ey_2.trans h_a1.symm).symm
  refine lv_aload_n hx hb dL_law_495 rfl (lv_at hl 5 rfl) ?_
  refine lv_iload hx hb dL_law_496 (lv_at hl 0 rfl) ?_
  refine lv_iconst (v := 2) hx hb dL_law_498 (by decide) ?_
  refine lv_iadd hx hb dL_law_499 ?_
  refine lv_topi (fun y_3 ey_3 => ?_)
  obtain rfl : y_3 = 2 := ey_3.trans (by decide)
  refine va_sld hx hb hX hbl hbA hS (by unfold vp_in; decide) dL_law_500 ?_
  refine lv_topi (fun y_4 ey_4 => ?_)
  obtain rfl : a2 = y_4 := (ey_4.trans h_a2.symm).symm
  refine lv_aload_n hx hb dL_law_501 rfl (lv_at hl 2 rfl) ?_
  have hPc := hP.sub (ws' := [(x, .inr (7, [.ref bx, .ref po, .ref tr, .ref pa, .ref sp])), (bx, .inr (2, [.ref b0, .ref b1, .int 0, .int 0, .ref b4, .int 0, .ref b6, .int 0, .int 0, .int 0, .int 0]))]) [0, 1] rfl
  have hDc := hD.sub (ws' := [(x, .inr (7, [.ref bx, .ref po, .ref tr, .ref pa, .ref sp])), (bx, .inr (2, [.ref b0, .ref b1, .int 0, .int 0, .ref b4, .int 0, .ref b6, .int 0, .int 0, .int 0, .int 0]))]) [0, 1] (by decide) rfl
  have hKc := hK.sub (tys' := []) [] rfl
  have hFc := va_free (wc := [(x, .inr (7, [.ref bx, .ref po, .ref tr, .ref pa, .ref sp])), (bx, .inr (2, [.ref b0, .ref b1, .int 0, .int 0, .ref b4, .int 0, .ref b6, .int 0, .int 0, .int 0, .int 0]))]) hD hS hA [0, 1] rfl
  refine va_calli (vx_runSW (As := [.ref x, .int a1, .int a2, .ref ou]) (rest := []) ⟨hx, hb, hml, hown, hts⟩ (h0_L_move l hfl dC dI x po tr sp pa bx b0 b1 b4 b6 a1 a2 ou ((lx_s301 hLX).choose) ((lx_s301 hLX).choose_spec.choose) _ ) (vx_cwSW 4 hts gL_law_L_move rfl rfl rfl (by decide +kernel) ⟨Nat.le_of_ble_eq_true rfl, Nat.le_of_ble_eq_true rfl⟩) ⟨pn_blind (fun _ _ _ _ h => h), fun U hU hW => ⟨rfl, pr_mk hU hW hPc hKc hDc, xs_mk hU hW hS hFc (lx_xo hLX (lx_s301 hLX).choose_spec.choose_spec), trivial⟩⟩ rfl rfl hl.1 rfl (lv_room (Nat.le_of_ble_eq_true rfl)) dL_law_502 ⟨Nat.le_of_ble_eq_true rfl, Nat.le_of_ble_eq_true rfl⟩) hS (fun q _ h => hFc q h) hFc (fun r_6 u_5 t H1 locs ht hvm hw hB hz1 hk1 hS => ?_)
  obtain ⟨hP1, hK1, hD1⟩ := hB
  rw [ht] at hP1
  obtain ⟨hP, hD⟩ := va_join (wr := [(pa, .inr (3, [.ref p_v, .int 0, .ref p_st, .ref p_ib, .ref p_di, .ref p_wa, .ref p_se, .ref p_vh, .ref p_re])), (b0, .inl (cI, 6, .inl zi)), (b1, .inl (cZ, 6, .inl zi)), (b4, .inl (cI, 4, .inl zi)), (p_v, .inl (cI, 4, .inl zi)), (p_st, .inl (cI, 4, .inl zi)), (p_ib, .inl (cZ, 4, .inl zi)), (p_di, .inl (cI, 4, .inl zi)), (p_wa, .inl (cI, 4, .inl zi)), (p_se, .inl (cI, 4, .inl zi)), (mm, .inr (10, [.int 0, .ref pl, .ref ig, .ref sl, .ref kl, .int 0, .int 0, .int 0])), (pl, .inr (1, [.int 0, .ref dz, .int 0])), (sl, .inr (1, [.int 0, .ref dz, .int 0])), (kl, .inr (1, [.int 0, .ref dz, .int 0])), (ou, .inl (cJ, 1, .inr (.inl zl))), (od, .inl (cD, 1, .inr (.inr (.inr (.inl zd)))))]) (w1 := []) hP hD [0, 1] [2, 3, 4, 5, 6, 7, 8, 9, 10, 11, 12, 13, 14, 15, 16, 17] rfl rfl (by decide) (by decide) hk1 hFc hP1 hD1
  generalize H1 = H at hP hS ⊢
  have hP : va_P (dC, dI) vwCl [(pa, .inr (3, [.ref p_v, .int 0, .ref p_st, .ref p_ib, .ref p_di, .ref p_wa, .ref p_se, .ref p_vh, .ref p_re])), (b0, .inl (cI, 6, .inl zi)), (b1, .inl (cZ, 6, .inl zi)), (b4, .inl (cI, 4, .inl zi)), (p_v, .inl (cI, 4, .inl zi)), (p_st, .inl (cI, 4, .inl zi)), (p_ib, .inl (cZ, 4, .inl zi)), (p_di, .inl (cI, 4, .inl zi)), (p_wa, .inl (cI, 4, .inl zi)), (p_se, .inl (cI, 4, .inl zi)), (mm, .inr (10, [.int 0, .ref pl, .ref ig, .ref sl, .ref kl, .int 0, .int 0, .int 0])), (pl, .inr (1, [.int 0, .ref dz, .int 0])), (sl, .inr (1, [.int 0, .ref dz, .int 0])), (kl, .inr (1, [.int 0, .ref dz, .int 0])), (ou, .inl (cJ, 1, .inr (.inl zl))), (od, .inl (cD, 1, .inr (.inr (.inr (.inl zd)))))] H := hP
  have hD : va_D A [(pa, .inr (3, [.ref p_v, .int 0, .ref p_st, .ref p_ib, .ref p_di, .ref p_wa, .ref p_se, .ref p_vh, .ref p_re])), (b0, .inl (cI, 6, .inl zi)), (b1, .inl (cZ, 6, .inl zi)), (b4, .inl (cI, 4, .inl zi)), (p_v, .inl (cI, 4, .inl zi)), (p_st, .inl (cI, 4, .inl zi)), (p_ib, .inl (cZ, 4, .inl zi)), (p_di, .inl (cI, 4, .inl zi)), (p_wa, .inl (cI, 4, .inl zi)), (p_se, .inl (cI, 4, .inl zi)), (mm, .inr (10, [.int 0, .ref pl, .ref ig, .ref sl, .ref kl, .int 0, .int 0, .int 0])), (pl, .inr (1, [.int 0, .ref dz, .int 0])), (sl, .inr (1, [.int 0, .ref dz, .int 0])), (kl, .inr (1, [.int 0, .ref dz, .int 0])), (ou, .inl (cJ, 1, .inr (.inl zl))), (od, .inl (cD, 1, .inr (.inr (.inr (.inl zd)))))] := hD
  refine W.widen (k := 119) (n := 756) (Nat.le_of_ble_eq_true rfl) (Nat.le_of_ble_eq_true rfl) ?_
  have hw : r_6 = 1 := hw
  subst hw
  refine lv_istore (lv' := [(6, .int 1), (5, .int 0), (4, .ref od), (3, .ref ou), (2, .ref mm), (1, .ref x), (0, .ref b)]) hx hb dL_law_505 hl (by decide) rfl (fun ls hl => ?_)
  refine lv_aload_n hx hb dL_law_507 rfl (lv_at hl 4 rfl) ?_
  refine lv_aload_n hx hb dL_law_508 rfl (lv_at hl 6 rfl) ?_
  refine lv_iload hx hb dL_law_509 (lv_at hl 1 rfl) ?_
  refine lv_iconst (v := 1) hx hb dL_law_511 (by decide) ?_
  refine lv_iadd hx hb dL_law_512 ?_
  refine lv_topi (fun y_7 ey_7 => ?_)
  obtain rfl : y_7 = 1 := ey_7.trans (by decide)
  refine va_sld hx hb hX hbl hbA hS (by unfold vp_in; decide) dL_law_513 ?_
  refine lv_topi (fun y_8 ey_8 => ?_)
  obtain rfl : a1 = y_8 := (ey_8.trans h_a1.symm).symm
  refine lv_aload_n hx hb dL_law_514 rfl (lv_at hl 6 rfl) ?_
  refine lv_iload hx hb dL_law_515 (lv_at hl 1 rfl) ?_
  refine lv_iconst (v := 2) hx hb dL_law_517 (by decide) ?_
  refine lv_iadd hx hb dL_law_518 ?_
  refine lv_topi (fun y_9 ey_9 => ?_)
  obtain rfl : y_9 = 2 := ey_9.trans (by decide)
  refine va_sld hx hb hX hbl hbA hS (by unfold vp_in; decide) dL_law_519 ?_
  refine lv_topi (fun y_10 ey_10 => ?_)
  obtain rfl : a2 = y_10 := (ey_10.trans h_a2.symm).symm
  have hPc := hP.sub (ws' := [(mm, .inr (10, [.int 0, .ref pl, .ref ig, .ref sl, .ref kl, .int 0, .int 0, .int 0])), (pl, .inr (1, [.int 0, .ref dz, .int 0])), (sl, .inr (1, [.int 0, .ref dz, .int 0])), (kl, .inr (1, [.int 0, .ref dz, .int 0]))]) [10, 11, 12, 13] rfl
  have hDc := hD.sub (ws' := [(mm, .inr (10, [.int 0, .ref pl, .ref ig, .ref sl, .ref kl, .int 0, .int 0, .int 0])), (pl, .inr (1, [.int 0, .ref dz, .int 0])), (sl, .inr (1, [.int 0, .ref dz, .int 0])), (kl, .inr (1, [.int 0, .ref dz, .int 0]))]) [10, 11, 12, 13] (by decide) rfl
  have hKc := hK.sub (tys' := []) [] rfl
  have hFc := va_free (wc := [(mm, .inr (10, [.int 0, .ref pl, .ref ig, .ref sl, .ref kl, .int 0, .int 0, .int 0])), (pl, .inr (1, [.int 0, .ref dz, .int 0])), (sl, .inr (1, [.int 0, .ref dz, .int 0])), (kl, .inr (1, [.int 0, .ref dz, .int 0]))]) hD hS hA [10, 11, 12, 13] rfl
  refine va_calli (va_runV (As := [.int a1, .int a2]) (rest := []) ⟨hx, hb, hml, hown, hts⟩ (c_X8_move l dC dI mm pl ig sl kl dz a1 a2 _ ) (cwV 2 hts gL_law_X8_move rfl rfl rfl (by decide +kernel) ⟨Nat.le_of_ble_eq_true rfl, Nat.le_of_ble_eq_true rfl⟩) ⟨pe_blind mo_bl, va_recv hKc hPc (ci := 10) (q0 := 0) rfl rfl, fun U hU hW => ⟨rfl, pr_mk hU hW hPc hKc hDc, mo_mk hW (lx_m hLX)⟩⟩ rfl rfl hl.1 rfl (lv_room (Nat.le_of_ble_eq_true rfl)) dL_law_520 ⟨Nat.le_of_ble_eq_true rfl, Nat.le_of_ble_eq_true rfl⟩) hS (fun q _ h => hFc q h) hFc (fun r_12 u_11 t H1 locs ht hvm hw hB hz1 hk1 hS => ?_)
  obtain ⟨hP1, hK1, hD1⟩ := hB
  rw [ht] at hP1
  obtain ⟨hP, hD⟩ := va_join (wr := [(pa, .inr (3, [.ref p_v, .int 0, .ref p_st, .ref p_ib, .ref p_di, .ref p_wa, .ref p_se, .ref p_vh, .ref p_re])), (b0, .inl (cI, 6, .inl zi)), (b1, .inl (cZ, 6, .inl zi)), (b4, .inl (cI, 4, .inl zi)), (p_v, .inl (cI, 4, .inl zi)), (p_st, .inl (cI, 4, .inl zi)), (p_ib, .inl (cZ, 4, .inl zi)), (p_di, .inl (cI, 4, .inl zi)), (p_wa, .inl (cI, 4, .inl zi)), (p_se, .inl (cI, 4, .inl zi)), (ou, .inl (cJ, 1, .inr (.inl zl))), (od, .inl (cD, 1, .inr (.inr (.inr (.inl zd)))))]) (w1 := [(mm, .inr (10, [.int 1, .ref pl, .ref ig, .ref sl, .ref kl, .int 0, .int 0, .int 0]))]) hP hD [10, 11, 12, 13] [0, 1, 2, 3, 4, 5, 6, 7, 8, 9, 14, 15] rfl rfl (by decide) (by decide) hk1 hFc hP1 hD1
  generalize H1 = H at hP hS ⊢
  have hP : va_P (dC, dI) vwCl [(pa, .inr (3, [.ref p_v, .int 0, .ref p_st, .ref p_ib, .ref p_di, .ref p_wa, .ref p_se, .ref p_vh, .ref p_re])), (b0, .inl (cI, 6, .inl zi)), (b1, .inl (cZ, 6, .inl zi)), (b4, .inl (cI, 4, .inl zi)), (p_v, .inl (cI, 4, .inl zi)), (p_st, .inl (cI, 4, .inl zi)), (p_ib, .inl (cZ, 4, .inl zi)), (p_di, .inl (cI, 4, .inl zi)), (p_wa, .inl (cI, 4, .inl zi)), (p_se, .inl (cI, 4, .inl zi)), (ou, .inl (cJ, 1, .inr (.inl zl))), (od, .inl (cD, 1, .inr (.inr (.inr (.inl zd))))), (mm, .inr (10, [.int 1, .ref pl, .ref ig, .ref sl, .ref kl, .int 0, .int 0, .int 0]))] H := hP
  have hD : va_D A [(pa, .inr (3, [.ref p_v, .int 0, .ref p_st, .ref p_ib, .ref p_di, .ref p_wa, .ref p_se, .ref p_vh, .ref p_re])), (b0, .inl (cI, 6, .inl zi)), (b1, .inl (cZ, 6, .inl zi)), (b4, .inl (cI, 4, .inl zi)), (p_v, .inl (cI, 4, .inl zi)), (p_st, .inl (cI, 4, .inl zi)), (p_ib, .inl (cZ, 4, .inl zi)), (p_di, .inl (cI, 4, .inl zi)), (p_wa, .inl (cI, 4, .inl zi)), (p_se, .inl (cI, 4, .inl zi)), (ou, .inl (cJ, 1, .inr (.inl zl))), (od, .inl (cD, 1, .inr (.inr (.inr (.inl zd))))), (mm, .inr (10, [.int 1, .ref pl, .ref ig, .ref sl, .ref kl, .int 0, .int 0, .int 0]))] := hD
  refine W.widen (k := 119) (n := 756) (Nat.le_refl _) (Nat.le_refl _) ?_
  have hw : r_12 = 0 := hw
  subst hw
  refine lv_istore (lv' := [(7, .int 0), (6, .int 1), (5, .int 0), (4, .ref od), (3, .ref ou), (2, .ref mm), (1, .ref x), (0, .ref b)]) hx hb dL_law_523 hl (by decide) rfl (fun ls hl => ?_)
  refine lv_aload_n hx hb dL_law_525 rfl (lv_at hl 5 rfl) ?_
  have hPc := hP.sub (ws' := [(mm, .inr (10, [.int 1, .ref pl, .ref ig, .ref sl, .ref kl, .int 0, .int 0, .int 0]))]) [12] rfl
  have hDc := hD.sub (ws' := [(mm, .inr (10, [.int 1, .ref pl, .ref ig, .ref sl, .ref kl, .int 0, .int 0, .int 0]))]) [12] (by decide) rfl
  have hKc := hK.sub (tys' := []) [] rfl
  have hFc := va_free (wc := [(mm, .inr (10, [.int 1, .ref pl, .ref ig, .ref sl, .ref kl, .int 0, .int 0, .int 0]))]) hD hS hA [12] rfl
  refine va_calli (va_runV (As := []) (rest := []) ⟨hx, hb, hml, hown, hts⟩ (c_X8_thrown l dC dI mm pl ig sl kl (1 : Int32) (0 : Int32) (0 : Int32) (0 : Int32) _ ) (cwV 0 hts gL_law_X8_thrown rfl rfl rfl (by decide +kernel) ⟨Nat.le_of_ble_eq_true rfl, Nat.le_of_ble_eq_true rfl⟩) ⟨pr_blind, va_recv hKc hPc (ci := 10) (q0 := 0) rfl rfl, fun U hU hW => ⟨rfl, pr_mk hU hW hPc hKc hDc⟩⟩ rfl rfl hl.1 rfl (lv_room (Nat.le_of_ble_eq_true rfl)) dL_law_526 ⟨Nat.le_of_ble_eq_true rfl, Nat.le_of_ble_eq_true rfl⟩) hS (fun q _ h => hFc q h) hFc (fun r_14 u_13 t H1 locs ht hvm hw hB hz1 hk1 hS => ?_)
  obtain ⟨hP1, hK1, hD1⟩ := hB
  rw [ht] at hP1
  obtain ⟨hP, hD⟩ := va_join (wr := [(pa, .inr (3, [.ref p_v, .int 0, .ref p_st, .ref p_ib, .ref p_di, .ref p_wa, .ref p_se, .ref p_vh, .ref p_re])), (b0, .inl (cI, 6, .inl zi)), (b1, .inl (cZ, 6, .inl zi)), (b4, .inl (cI, 4, .inl zi)), (p_v, .inl (cI, 4, .inl zi)), (p_st, .inl (cI, 4, .inl zi)), (p_ib, .inl (cZ, 4, .inl zi)), (p_di, .inl (cI, 4, .inl zi)), (p_wa, .inl (cI, 4, .inl zi)), (p_se, .inl (cI, 4, .inl zi)), (ou, .inl (cJ, 1, .inr (.inl zl))), (od, .inl (cD, 1, .inr (.inr (.inr (.inl zd)))))]) (w1 := [(mm, .inr (10, [.int 1, .ref pl, .ref ig, .ref sl, .ref kl, .int 0, .int 0, .int 0]))]) hP hD [12] [0, 1, 2, 3, 4, 5, 6, 7, 8, 9, 10, 11] rfl rfl (by decide) (by decide) hk1 hFc hP1 hD1
  generalize H1 = H at hP hS ⊢
  have hP : va_P (dC, dI) vwCl [(pa, .inr (3, [.ref p_v, .int 0, .ref p_st, .ref p_ib, .ref p_di, .ref p_wa, .ref p_se, .ref p_vh, .ref p_re])), (b0, .inl (cI, 6, .inl zi)), (b1, .inl (cZ, 6, .inl zi)), (b4, .inl (cI, 4, .inl zi)), (p_v, .inl (cI, 4, .inl zi)), (p_st, .inl (cI, 4, .inl zi)), (p_ib, .inl (cZ, 4, .inl zi)), (p_di, .inl (cI, 4, .inl zi)), (p_wa, .inl (cI, 4, .inl zi)), (p_se, .inl (cI, 4, .inl zi)), (ou, .inl (cJ, 1, .inr (.inl zl))), (od, .inl (cD, 1, .inr (.inr (.inr (.inl zd))))), (mm, .inr (10, [.int 1, .ref pl, .ref ig, .ref sl, .ref kl, .int 0, .int 0, .int 0]))] H := hP
  have hD : va_D A [(pa, .inr (3, [.ref p_v, .int 0, .ref p_st, .ref p_ib, .ref p_di, .ref p_wa, .ref p_se, .ref p_vh, .ref p_re])), (b0, .inl (cI, 6, .inl zi)), (b1, .inl (cZ, 6, .inl zi)), (b4, .inl (cI, 4, .inl zi)), (p_v, .inl (cI, 4, .inl zi)), (p_st, .inl (cI, 4, .inl zi)), (p_ib, .inl (cZ, 4, .inl zi)), (p_di, .inl (cI, 4, .inl zi)), (p_wa, .inl (cI, 4, .inl zi)), (p_se, .inl (cI, 4, .inl zi)), (ou, .inl (cJ, 1, .inr (.inl zl))), (od, .inl (cD, 1, .inr (.inr (.inr (.inl zd))))), (mm, .inr (10, [.int 1, .ref pl, .ref ig, .ref sl, .ref kl, .int 0, .int 0, .int 0]))] := hD
  refine W.widen (k := 119) (n := 756) (Nat.le_refl _) (Nat.le_refl _) ?_
  have hw : r_14 = 1 := hw
  subst hw
  refine lv_iload hx hb dL_law_529 (lv_at hl 1 rfl) ?_
  refine lv_icmp_eq (tgt := 536) hx hb dL_law_531 (by decide) (fun _ => ?_) (fun h9 => absurd h9 (by decide))
  refine lv_iload hx hb dL_law_536 (lv_at hl 1 rfl) ?_
  refine lv_if_ne (tgt := 553) hx hb dL_law_538 (by decide) (fun _ => ?_) (fun h9 => absurd h9 (by decide))
  refine lv_goto (tgt := 2007) hx hb dL_law_553 (by decide) ?_
  exact law_tail l C0 hAe hS (lv_sub hl [2, 7] rfl) (Nat.le_of_ble_eq_true rfl) (Nat.le_of_ble_eq_true rfl)

set_option maxHeartbeats 4000000 in
set_option maxRecDepth 100000 in
theorem case_threshold {p : Program} {e : Env} {s : State} {m : MethodId} {below : List Frame} {meth : Method} {c : Code} (l : Launch) (hfl : l.stackTraces = false) {b : Nat} {xs : Nat → Int32} (C0 : lw_At p s m meth c b 5 xs) {dz tc : Nat} {ad : Nat → Nat} (hLX : lx_ (fun q : Nat => s.heap.size ≤ q) dz tc ad s) (dC : Nat → ClassId) (dI : Nat → Nat → Nat) {x : Nat} {po : Nat} {tr : Nat} {sp : Nat} {bx : Nat} {b0 : Nat} {b1 : Nat} {b4 : Nat} {b6 : Nat} {pa : Nat} {p_v : Nat} {p_st : Nat} {p_ib : Nat} {p_di : Nat} {p_wa : Nat} {p_se : Nat} {p_vh : Nat} {p_re : Nat} {mm : Nat} {pl : Nat} {ig : Nat} {sl : Nat} {kl : Nat} {ou : Nat} {od : Nat} {cI : ClassId} {cZ : ClassId} {cJ : ClassId} {cD : ClassId} {H : Heap} {locs : List Loc} {ls : Array Slot} (hK : va_K (dC, dI) vwCl [(cI, .int), (cZ, .boolean), (cJ, .long), (cD, .double)] s) (hP : va_P (dC, dI) vwCl [(x, .inr (7, [.ref bx, .ref po, .ref tr, .ref pa, .ref sp])), (bx, .inr (2, [.ref b0, .ref b1, .int 0, .int 0, .ref b4, .int 0, .ref b6, .int 0, .int 0, .int 0, .int 0])), (pa, .inr (3, [.ref p_v, .int 0, .ref p_st, .ref p_ib, .ref p_di, .ref p_wa, .ref p_se, .ref p_vh, .ref p_re])), (b0, .inl (cI, 6, .inl zi)), (b1, .inl (cZ, 6, .inl zi)), (b4, .inl (cI, 4, .inl zi)), (p_v, .inl (cI, 4, .inl zi)), (p_st, .inl (cI, 4, .inl zi)), (p_ib, .inl (cZ, 4, .inl zi)), (p_di, .inl (cI, 4, .inl zi)), (p_wa, .inl (cI, 4, .inl zi)), (p_se, .inl (cI, 4, .inl zi)), (mm, .inr (10, [.int 0, .ref pl, .ref ig, .ref sl, .ref kl, .int 0, .int 0, .int 0])), (pl, .inr (1, [.int 0, .ref dz, .int 0])), (sl, .inr (1, [.int 0, .ref dz, .int 0])), (kl, .inr (1, [.int 0, .ref dz, .int 0])), (ou, .inl (cJ, 1, .inr (.inl zl))), (od, .inl (cD, 1, .inr (.inr (.inr (.inl zd)))))] H) (hD : va_D (fun q : Nat => s.heap.size ≤ q) [(x, .inr (7, [.ref bx, .ref po, .ref tr, .ref pa, .ref sp])), (bx, .inr (2, [.ref b0, .ref b1, .int 0, .int 0, .ref b4, .int 0, .ref b6, .int 0, .int 0, .int 0, .int 0])), (pa, .inr (3, [.ref p_v, .int 0, .ref p_st, .ref p_ib, .ref p_di, .ref p_wa, .ref p_se, .ref p_vh, .ref p_re])), (b0, .inl (cI, 6, .inl zi)), (b1, .inl (cZ, 6, .inl zi)), (b4, .inl (cI, 4, .inl zi)), (p_v, .inl (cI, 4, .inl zi)), (p_st, .inl (cI, 4, .inl zi)), (p_ib, .inl (cZ, 4, .inl zi)), (p_di, .inl (cI, 4, .inl zi)), (p_wa, .inl (cI, 4, .inl zi)), (p_se, .inl (cI, 4, .inl zi)), (mm, .inr (10, [.int 0, .ref pl, .ref ig, .ref sl, .ref kl, .int 0, .int 0, .int 0])), (pl, .inr (1, [.int 0, .ref dz, .int 0])), (sl, .inr (1, [.int 0, .ref dz, .int 0])), (kl, .inr (1, [.int 0, .ref dz, .int 0])), (ou, .inl (cJ, 1, .inr (.inl zl))), (od, .inl (cD, 1, .inr (.inr (.inr (.inl zd)))))]) (hS : va_S (fun q : Nat => s.heap.size ≤ q) s.heap H locs) (hl : lv_has ls 9 [(5, .int 0), (4, .ref od), (3, .ref ou), (2, .ref mm), (1, .ref x), (0, .ref b)]) : W p l e room_1 s m #[Value.ref b] below meth c H locs 118 750 (lw_Z below #[Value.ref b] s) (F0 m 556 ls []) := by
  obtain ⟨hx, hb, hr, hml, hown, hts0, hX, hbl, hlocks, hgv⟩ := id C0
  have hts : ∀ w ∈ lw_tbl, w.before #[Value.ref b] s = true := hts0
  have hbA : ¬ (fun q : Nat => s.heap.size ≤ q) b := Nat.not_le.mpr hbl
  have hA : ∀ q : Nat, s.heap.size ≤ q → (fun q : Nat => s.heap.size ≤ q) q := fun _ h => h
  generalize hAe : (fun q : Nat => s.heap.size ≤ q) = A at hD hS hbA hA hLX
  obtain ⟨a1, h_a1⟩ : ∃ z, z = xs ((1 : Int32).toNatClampNeg) := ⟨_, rfl⟩
  obtain ⟨a2, h_a2⟩ : ∃ z, z = xs ((2 : Int32).toNatClampNeg) := ⟨_, rfl⟩
  obtain ⟨a3, h_a3⟩ : ∃ z, z = xs ((3 : Int32).toNatClampNeg) := ⟨_, rfl⟩
  obtain ⟨a4, h_a4⟩ : ∃ z, z = xs ((4 : Int32).toNatClampNeg) := ⟨_, rfl⟩
  by_cases hB0 : a1 < 0 ∨ ¬ a1 ≤ 20
  · have hM0 : a1 < 0 ∨ 20 < a1 := gN_b hB0
    refine lv_aload_n hx hb dL_law_556 rfl (lv_at hl 4 rfl) ?_
    refine lv_aload_n hx hb dL_law_557 rfl (lv_at hl 5 rfl) ?_
    refine lv_iload hx hb dL_law_558 (lv_at hl 0 rfl) ?_
    refine lv_iconst (v := 1) hx hb dL_law_560 (by decide) ?_
    refine lv_iadd hx hb dL_law_561 ?_
    refine lv_topi (fun y_1 ey_1 => ?_)
    obtain rfl : y_1 = 1 := ey_1.trans (by decide)
    refine va_sld hx hb hX hbl hbA hS (by unfold vp_in; decide) dL_law_562 ?_
    refine lv_topi (fun y_2 ey_2 => ?_)
    obtain rfl : a1 = y_2 := (ey_2.trans h_a1.symm).symm
    refine lv_aload_n hx hb dL_law_563 rfl (lv_at hl 2 rfl) ?_
    have hPc := hP.sub (ws' := [(x, .inr (7, [.ref bx, .ref po, .ref tr, .ref pa, .ref sp])), (bx, .inr (2, [.ref b0, .ref b1, .int 0, .int 0, .ref b4, .int 0, .ref b6, .int 0, .int 0, .int 0, .int 0]))]) [0, 1] rfl
    have hDc := hD.sub (ws' := [(x, .inr (7, [.ref bx, .ref po, .ref tr, .ref pa, .ref sp])), (bx, .inr (2, [.ref b0, .ref b1, .int 0, .int 0, .ref b4, .int 0, .ref b6, .int 0, .int 0, .int 0, .int 0]))]) [0, 1] (by decide) rfl
    have hKc := hK.sub (tys' := []) [] rfl
    have hFc := va_free (wc := [(x, .inr (7, [.ref bx, .ref po, .ref tr, .ref pa, .ref sp])), (bx, .inr (2, [.ref b0, .ref b1, .int 0, .int 0, .ref b4, .int 0, .ref b6, .int 0, .int 0, .int 0, .int 0]))]) hD hS hA [0, 1] rfl
    refine va_calli (vx_runSW (As := [.ref x, .int a1, .ref ou]) (rest := []) ⟨hx, hb, hml, hown, hts⟩ (h0_L_threshold l hfl dC dI x po tr sp pa bx b0 b1 b4 b6 a1 ou ((lx_s128 hLX).choose) ((lx_s128 hLX).choose_spec.choose) _ hB0) (vx_cwSW 3 hts gL_law_L_threshold rfl rfl rfl (by decide +kernel) ⟨Nat.le_of_ble_eq_true rfl, Nat.le_of_ble_eq_true rfl⟩) ⟨pn_blind (fun _ _ _ _ h => h), fun U hU hW => ⟨rfl, pr_mk hU hW hPc hKc hDc, xs_mk hU hW hS hFc (lx_xa hLX (lx_s128 hLX).choose_spec.choose_spec), trivial⟩⟩ rfl rfl hl.1 rfl (lv_room (Nat.le_of_ble_eq_true rfl)) dL_law_564 ⟨Nat.le_of_ble_eq_true rfl, Nat.le_of_ble_eq_true rfl⟩) hS (fun q _ h => hFc q h) hFc (fun r_4 u_3 t H1 locs ht hvm hw hB hz1 hk1 hS => ?_)
    obtain ⟨hP1, hK1, hD1⟩ := hB
    rw [ht] at hP1
    obtain ⟨hP, hD⟩ := va_join (wr := [(pa, .inr (3, [.ref p_v, .int 0, .ref p_st, .ref p_ib, .ref p_di, .ref p_wa, .ref p_se, .ref p_vh, .ref p_re])), (b0, .inl (cI, 6, .inl zi)), (b1, .inl (cZ, 6, .inl zi)), (b4, .inl (cI, 4, .inl zi)), (p_v, .inl (cI, 4, .inl zi)), (p_st, .inl (cI, 4, .inl zi)), (p_ib, .inl (cZ, 4, .inl zi)), (p_di, .inl (cI, 4, .inl zi)), (p_wa, .inl (cI, 4, .inl zi)), (p_se, .inl (cI, 4, .inl zi)), (mm, .inr (10, [.int 0, .ref pl, .ref ig, .ref sl, .ref kl, .int 0, .int 0, .int 0])), (pl, .inr (1, [.int 0, .ref dz, .int 0])), (sl, .inr (1, [.int 0, .ref dz, .int 0])), (kl, .inr (1, [.int 0, .ref dz, .int 0])), (ou, .inl (cJ, 1, .inr (.inl zl))), (od, .inl (cD, 1, .inr (.inr (.inr (.inl zd)))))]) (w1 := []) hP hD [0, 1] [2, 3, 4, 5, 6, 7, 8, 9, 10, 11, 12, 13, 14, 15, 16, 17] rfl rfl (by decide) (by decide) hk1 hFc hP1 hD1
    generalize H1 = H at hP hS ⊢
    have hP : va_P (dC, dI) vwCl [(pa, .inr (3, [.ref p_v, .int 0, .ref p_st, .ref p_ib, .ref p_di, .ref p_wa, .ref p_se, .ref p_vh, .ref p_re])), (b0, .inl (cI, 6, .inl zi)), (b1, .inl (cZ, 6, .inl zi)), (b4, .inl (cI, 4, .inl zi)), (p_v, .inl (cI, 4, .inl zi)), (p_st, .inl (cI, 4, .inl zi)), (p_ib, .inl (cZ, 4, .inl zi)), (p_di, .inl (cI, 4, .inl zi)), (p_wa, .inl (cI, 4, .inl zi)), (p_se, .inl (cI, 4, .inl zi)), (mm, .inr (10, [.int 0, .ref pl, .ref ig, .ref sl, .ref kl, .int 0, .int 0, .int 0])), (pl, .inr (1, [.int 0, .ref dz, .int 0])), (sl, .inr (1, [.int 0, .ref dz, .int 0])), (kl, .inr (1, [.int 0, .ref dz, .int 0])), (ou, .inl (cJ, 1, .inr (.inl zl))), (od, .inl (cD, 1, .inr (.inr (.inr (.inl zd)))))] H := hP
    have hD : va_D A [(pa, .inr (3, [.ref p_v, .int 0, .ref p_st, .ref p_ib, .ref p_di, .ref p_wa, .ref p_se, .ref p_vh, .ref p_re])), (b0, .inl (cI, 6, .inl zi)), (b1, .inl (cZ, 6, .inl zi)), (b4, .inl (cI, 4, .inl zi)), (p_v, .inl (cI, 4, .inl zi)), (p_st, .inl (cI, 4, .inl zi)), (p_ib, .inl (cZ, 4, .inl zi)), (p_di, .inl (cI, 4, .inl zi)), (p_wa, .inl (cI, 4, .inl zi)), (p_se, .inl (cI, 4, .inl zi)), (mm, .inr (10, [.int 0, .ref pl, .ref ig, .ref sl, .ref kl, .int 0, .int 0, .int 0])), (pl, .inr (1, [.int 0, .ref dz, .int 0])), (sl, .inr (1, [.int 0, .ref dz, .int 0])), (kl, .inr (1, [.int 0, .ref dz, .int 0])), (ou, .inl (cJ, 1, .inr (.inl zl))), (od, .inl (cD, 1, .inr (.inr (.inr (.inl zd)))))] := hD
    refine W.widen (k := 119) (n := 756) (Nat.le_of_ble_eq_true rfl) (Nat.le_of_ble_eq_true rfl) ?_
    have hw : r_4 = 1 := hw
    subst hw
    refine lv_istore (lv' := [(6, .int 1), (5, .int 0), (4, .ref od), (3, .ref ou), (2, .ref mm), (1, .ref x), (0, .ref b)]) hx hb dL_law_567 hl (by decide) rfl (fun ls hl => ?_)
    refine lv_aload_n hx hb dL_law_569 rfl (lv_at hl 4 rfl) ?_
    refine lv_aload_n hx hb dL_law_570 rfl (lv_at hl 6 rfl) ?_
    refine lv_iload hx hb dL_law_571 (lv_at hl 1 rfl) ?_
    refine lv_iconst (v := 1) hx hb dL_law_573 (by decide) ?_
    refine lv_iadd hx hb dL_law_574 ?_
    refine lv_topi (fun y_5 ey_5 => ?_)
    obtain rfl : y_5 = 1 := ey_5.trans (by decide)
    refine va_sld hx hb hX hbl hbA hS (by unfold vp_in; decide) dL_law_575 ?_
    refine lv_topi (fun y_6 ey_6 => ?_)
    obtain rfl : a1 = y_6 := (ey_6.trans h_a1.symm).symm
    have hPc := hP.sub (ws' := [(mm, .inr (10, [.int 0, .ref pl, .ref ig, .ref sl, .ref kl, .int 0, .int 0, .int 0])), (pl, .inr (1, [.int 0, .ref dz, .int 0])), (sl, .inr (1, [.int 0, .ref dz, .int 0])), (kl, .inr (1, [.int 0, .ref dz, .int 0]))]) [10, 11, 12, 13] rfl
    have hDc := hD.sub (ws' := [(mm, .inr (10, [.int 0, .ref pl, .ref ig, .ref sl, .ref kl, .int 0, .int 0, .int 0])), (pl, .inr (1, [.int 0, .ref dz, .int 0])), (sl, .inr (1, [.int 0, .ref dz, .int 0])), (kl, .inr (1, [.int 0, .ref dz, .int 0]))]) [10, 11, 12, 13] (by decide) rfl
    have hKc := hK.sub (tys' := []) [] rfl
    have hFc := va_free (wc := [(mm, .inr (10, [.int 0, .ref pl, .ref ig, .ref sl, .ref kl, .int 0, .int 0, .int 0])), (pl, .inr (1, [.int 0, .ref dz, .int 0])), (sl, .inr (1, [.int 0, .ref dz, .int 0])), (kl, .inr (1, [.int 0, .ref dz, .int 0]))]) hD hS hA [10, 11, 12, 13] rfl
    refine va_calli (va_runV (As := [.int a1]) (rest := []) ⟨hx, hb, hml, hown, hts⟩ (c0_X8_threshold l dC dI mm pl ig sl kl dz a1 _ hM0) (cwV 1 hts gL_law_X8_threshold rfl rfl rfl (by decide +kernel) ⟨Nat.le_of_ble_eq_true rfl, Nat.le_of_ble_eq_true rfl⟩) ⟨pe_blind mo_bl, va_recv hKc hPc (ci := 10) (q0 := 0) rfl rfl, fun U hU hW => ⟨rfl, pr_mk hU hW hPc hKc hDc, mo_mk hW (lx_m hLX)⟩⟩ rfl rfl hl.1 rfl (lv_room (Nat.le_of_ble_eq_true rfl)) dL_law_576 ⟨Nat.le_of_ble_eq_true rfl, Nat.le_of_ble_eq_true rfl⟩) hS (fun q _ h => hFc q h) hFc (fun r_8 u_7 t H1 locs ht hvm hw hB hz1 hk1 hS => ?_)
    obtain ⟨hP1, hK1, hD1⟩ := hB
    rw [ht] at hP1
    obtain ⟨hP, hD⟩ := va_join (wr := [(pa, .inr (3, [.ref p_v, .int 0, .ref p_st, .ref p_ib, .ref p_di, .ref p_wa, .ref p_se, .ref p_vh, .ref p_re])), (b0, .inl (cI, 6, .inl zi)), (b1, .inl (cZ, 6, .inl zi)), (b4, .inl (cI, 4, .inl zi)), (p_v, .inl (cI, 4, .inl zi)), (p_st, .inl (cI, 4, .inl zi)), (p_ib, .inl (cZ, 4, .inl zi)), (p_di, .inl (cI, 4, .inl zi)), (p_wa, .inl (cI, 4, .inl zi)), (p_se, .inl (cI, 4, .inl zi)), (ou, .inl (cJ, 1, .inr (.inl zl))), (od, .inl (cD, 1, .inr (.inr (.inr (.inl zd)))))]) (w1 := [(mm, .inr (10, [.int 1, .ref pl, .ref ig, .ref sl, .ref kl, .int 0, .int 0, .int 0]))]) hP hD [10, 11, 12, 13] [0, 1, 2, 3, 4, 5, 6, 7, 8, 9, 14, 15] rfl rfl (by decide) (by decide) hk1 hFc hP1 hD1
    generalize H1 = H at hP hS ⊢
    have hP : va_P (dC, dI) vwCl [(pa, .inr (3, [.ref p_v, .int 0, .ref p_st, .ref p_ib, .ref p_di, .ref p_wa, .ref p_se, .ref p_vh, .ref p_re])), (b0, .inl (cI, 6, .inl zi)), (b1, .inl (cZ, 6, .inl zi)), (b4, .inl (cI, 4, .inl zi)), (p_v, .inl (cI, 4, .inl zi)), (p_st, .inl (cI, 4, .inl zi)), (p_ib, .inl (cZ, 4, .inl zi)), (p_di, .inl (cI, 4, .inl zi)), (p_wa, .inl (cI, 4, .inl zi)), (p_se, .inl (cI, 4, .inl zi)), (ou, .inl (cJ, 1, .inr (.inl zl))), (od, .inl (cD, 1, .inr (.inr (.inr (.inl zd))))), (mm, .inr (10, [.int 1, .ref pl, .ref ig, .ref sl, .ref kl, .int 0, .int 0, .int 0]))] H := hP
    have hD : va_D A [(pa, .inr (3, [.ref p_v, .int 0, .ref p_st, .ref p_ib, .ref p_di, .ref p_wa, .ref p_se, .ref p_vh, .ref p_re])), (b0, .inl (cI, 6, .inl zi)), (b1, .inl (cZ, 6, .inl zi)), (b4, .inl (cI, 4, .inl zi)), (p_v, .inl (cI, 4, .inl zi)), (p_st, .inl (cI, 4, .inl zi)), (p_ib, .inl (cZ, 4, .inl zi)), (p_di, .inl (cI, 4, .inl zi)), (p_wa, .inl (cI, 4, .inl zi)), (p_se, .inl (cI, 4, .inl zi)), (ou, .inl (cJ, 1, .inr (.inl zl))), (od, .inl (cD, 1, .inr (.inr (.inr (.inl zd))))), (mm, .inr (10, [.int 1, .ref pl, .ref ig, .ref sl, .ref kl, .int 0, .int 0, .int 0]))] := hD
    refine W.widen (k := 119) (n := 756) (Nat.le_refl _) (Nat.le_refl _) ?_
    have hw : r_8 = 0 := hw
    subst hw
    refine lv_istore (lv' := [(7, .int 0), (6, .int 1), (5, .int 0), (4, .ref od), (3, .ref ou), (2, .ref mm), (1, .ref x), (0, .ref b)]) hx hb dL_law_579 hl (by decide) rfl (fun ls hl => ?_)
    refine lv_aload_n hx hb dL_law_581 rfl (lv_at hl 5 rfl) ?_
    have hPc := hP.sub (ws' := [(mm, .inr (10, [.int 1, .ref pl, .ref ig, .ref sl, .ref kl, .int 0, .int 0, .int 0]))]) [12] rfl
    have hDc := hD.sub (ws' := [(mm, .inr (10, [.int 1, .ref pl, .ref ig, .ref sl, .ref kl, .int 0, .int 0, .int 0]))]) [12] (by decide) rfl
    have hKc := hK.sub (tys' := []) [] rfl
    have hFc := va_free (wc := [(mm, .inr (10, [.int 1, .ref pl, .ref ig, .ref sl, .ref kl, .int 0, .int 0, .int 0]))]) hD hS hA [12] rfl
    refine va_calli (va_runV (As := []) (rest := []) ⟨hx, hb, hml, hown, hts⟩ (c_X8_thrown l dC dI mm pl ig sl kl (1 : Int32) (0 : Int32) (0 : Int32) (0 : Int32) _ ) (cwV 0 hts gL_law_X8_thrown rfl rfl rfl (by decide +kernel) ⟨Nat.le_of_ble_eq_true rfl, Nat.le_of_ble_eq_true rfl⟩) ⟨pr_blind, va_recv hKc hPc (ci := 10) (q0 := 0) rfl rfl, fun U hU hW => ⟨rfl, pr_mk hU hW hPc hKc hDc⟩⟩ rfl rfl hl.1 rfl (lv_room (Nat.le_of_ble_eq_true rfl)) dL_law_582 ⟨Nat.le_of_ble_eq_true rfl, Nat.le_of_ble_eq_true rfl⟩) hS (fun q _ h => hFc q h) hFc (fun r_10 u_9 t H1 locs ht hvm hw hB hz1 hk1 hS => ?_)
    obtain ⟨hP1, hK1, hD1⟩ := hB
    rw [ht] at hP1
    obtain ⟨hP, hD⟩ := va_join (wr := [(pa, .inr (3, [.ref p_v, .int 0, .ref p_st, .ref p_ib, .ref p_di, .ref p_wa, .ref p_se, .ref p_vh, .ref p_re])), (b0, .inl (cI, 6, .inl zi)), (b1, .inl (cZ, 6, .inl zi)), (b4, .inl (cI, 4, .inl zi)), (p_v, .inl (cI, 4, .inl zi)), (p_st, .inl (cI, 4, .inl zi)), (p_ib, .inl (cZ, 4, .inl zi)), (p_di, .inl (cI, 4, .inl zi)), (p_wa, .inl (cI, 4, .inl zi)), (p_se, .inl (cI, 4, .inl zi)), (ou, .inl (cJ, 1, .inr (.inl zl))), (od, .inl (cD, 1, .inr (.inr (.inr (.inl zd)))))]) (w1 := [(mm, .inr (10, [.int 1, .ref pl, .ref ig, .ref sl, .ref kl, .int 0, .int 0, .int 0]))]) hP hD [12] [0, 1, 2, 3, 4, 5, 6, 7, 8, 9, 10, 11] rfl rfl (by decide) (by decide) hk1 hFc hP1 hD1
    generalize H1 = H at hP hS ⊢
    have hP : va_P (dC, dI) vwCl [(pa, .inr (3, [.ref p_v, .int 0, .ref p_st, .ref p_ib, .ref p_di, .ref p_wa, .ref p_se, .ref p_vh, .ref p_re])), (b0, .inl (cI, 6, .inl zi)), (b1, .inl (cZ, 6, .inl zi)), (b4, .inl (cI, 4, .inl zi)), (p_v, .inl (cI, 4, .inl zi)), (p_st, .inl (cI, 4, .inl zi)), (p_ib, .inl (cZ, 4, .inl zi)), (p_di, .inl (cI, 4, .inl zi)), (p_wa, .inl (cI, 4, .inl zi)), (p_se, .inl (cI, 4, .inl zi)), (ou, .inl (cJ, 1, .inr (.inl zl))), (od, .inl (cD, 1, .inr (.inr (.inr (.inl zd))))), (mm, .inr (10, [.int 1, .ref pl, .ref ig, .ref sl, .ref kl, .int 0, .int 0, .int 0]))] H := hP
    have hD : va_D A [(pa, .inr (3, [.ref p_v, .int 0, .ref p_st, .ref p_ib, .ref p_di, .ref p_wa, .ref p_se, .ref p_vh, .ref p_re])), (b0, .inl (cI, 6, .inl zi)), (b1, .inl (cZ, 6, .inl zi)), (b4, .inl (cI, 4, .inl zi)), (p_v, .inl (cI, 4, .inl zi)), (p_st, .inl (cI, 4, .inl zi)), (p_ib, .inl (cZ, 4, .inl zi)), (p_di, .inl (cI, 4, .inl zi)), (p_wa, .inl (cI, 4, .inl zi)), (p_se, .inl (cI, 4, .inl zi)), (ou, .inl (cJ, 1, .inr (.inl zl))), (od, .inl (cD, 1, .inr (.inr (.inr (.inl zd))))), (mm, .inr (10, [.int 1, .ref pl, .ref ig, .ref sl, .ref kl, .int 0, .int 0, .int 0]))] := hD
    refine W.widen (k := 119) (n := 756) (Nat.le_refl _) (Nat.le_refl _) ?_
    have hw : r_10 = 1 := hw
    subst hw
    refine lv_iload hx hb dL_law_585 (lv_at hl 1 rfl) ?_
    refine lv_icmp_eq (tgt := 592) hx hb dL_law_587 (by decide) (fun _ => ?_) (fun h9 => absurd h9 (by decide))
    refine lv_iload hx hb dL_law_592 (lv_at hl 1 rfl) ?_
    refine lv_if_ne (tgt := 609) hx hb dL_law_594 (by decide) (fun _ => ?_) (fun h9 => absurd h9 (by decide))
    refine lv_goto (tgt := 2007) hx hb dL_law_609 (by decide) ?_
    exact law_tail l C0 hAe hS (lv_sub hl [2, 7] rfl) (Nat.le_of_ble_eq_true rfl) (Nat.le_of_ble_eq_true rfl)
  · have hG0 : ¬ a1 < 0 := fun h => hB0 (Or.inl h)
    have hH0 : a1 ≤ 20 := Decidable.byContradiction (fun h => hB0 (Or.inr h))
    have hN0 : ¬ 20 < a1 := gN_g hH0
    refine lv_aload_n hx hb dL_law_556 rfl (lv_at hl 4 rfl) ?_
    refine lv_aload_n hx hb dL_law_557 rfl (lv_at hl 5 rfl) ?_
    refine lv_iload hx hb dL_law_558 (lv_at hl 0 rfl) ?_
    refine lv_iconst (v := 1) hx hb dL_law_560 (by decide) ?_
    refine lv_iadd hx hb dL_law_561 ?_
    refine lv_topi (fun y_11 ey_11 => ?_)
    obtain rfl : y_11 = 1 := ey_11.trans (by decide)
    refine va_sld hx hb hX hbl hbA hS (by unfold vp_in; decide) dL_law_562 ?_
    refine lv_topi (fun y_12 ey_12 => ?_)
    obtain rfl : a1 = y_12 := (ey_12.trans h_a1.symm).symm
    refine lv_aload_n hx hb dL_law_563 rfl (lv_at hl 2 rfl) ?_
    have hPc := hP.sub (ws' := [(x, .inr (7, [.ref bx, .ref po, .ref tr, .ref pa, .ref sp])), (bx, .inr (2, [.ref b0, .ref b1, .int 0, .int 0, .ref b4, .int 0, .ref b6, .int 0, .int 0, .int 0, .int 0])), (pa, .inr (3, [.ref p_v, .int 0, .ref p_st, .ref p_ib, .ref p_di, .ref p_wa, .ref p_se, .ref p_vh, .ref p_re])), (p_v, .inl (cI, 4, .inl zi)), (p_st, .inl (cI, 4, .inl zi)), (p_ib, .inl (cZ, 4, .inl zi)), (p_di, .inl (cI, 4, .inl zi)), (p_wa, .inl (cI, 4, .inl zi)), (p_se, .inl (cI, 4, .inl zi)), (ou, .inl (cJ, 1, .inr (.inl zl)))]) [0, 1, 2, 6, 7, 8, 9, 10, 11, 16] rfl
    have hDc := hD.sub (ws' := [(x, .inr (7, [.ref bx, .ref po, .ref tr, .ref pa, .ref sp])), (bx, .inr (2, [.ref b0, .ref b1, .int 0, .int 0, .ref b4, .int 0, .ref b6, .int 0, .int 0, .int 0, .int 0])), (pa, .inr (3, [.ref p_v, .int 0, .ref p_st, .ref p_ib, .ref p_di, .ref p_wa, .ref p_se, .ref p_vh, .ref p_re])), (p_v, .inl (cI, 4, .inl zi)), (p_st, .inl (cI, 4, .inl zi)), (p_ib, .inl (cZ, 4, .inl zi)), (p_di, .inl (cI, 4, .inl zi)), (p_wa, .inl (cI, 4, .inl zi)), (p_se, .inl (cI, 4, .inl zi)), (ou, .inl (cJ, 1, .inr (.inl zl)))]) [0, 1, 2, 6, 7, 8, 9, 10, 11, 16] (by decide) rfl
    have hKc := hK.sub (tys' := [(cI, .int), (cZ, .boolean), (cJ, .long)]) [0, 1, 2] rfl
    have hFc := va_free (wc := [(x, .inr (7, [.ref bx, .ref po, .ref tr, .ref pa, .ref sp])), (bx, .inr (2, [.ref b0, .ref b1, .int 0, .int 0, .ref b4, .int 0, .ref b6, .int 0, .int 0, .int 0, .int 0])), (pa, .inr (3, [.ref p_v, .int 0, .ref p_st, .ref p_ib, .ref p_di, .ref p_wa, .ref p_se, .ref p_vh, .ref p_re])), (p_v, .inl (cI, 4, .inl zi)), (p_st, .inl (cI, 4, .inl zi)), (p_ib, .inl (cZ, 4, .inl zi)), (p_di, .inl (cI, 4, .inl zi)), (p_wa, .inl (cI, 4, .inl zi)), (p_se, .inl (cI, 4, .inl zi)), (ou, .inl (cJ, 1, .inr (.inl zl)))]) hD hS hA [0, 1, 2, 6, 7, 8, 9, 10, 11, 16] rfl
    refine va_calli (vx_runSW (As := [.ref x, .int a1, .ref ou]) (rest := []) ⟨hx, hb, hml, hown, hts⟩ (h_L_threshold l dC dI x po tr sp bx b0 b1 b4 b6 pa p_v p_st p_ib p_di p_wa p_se p_vh p_re cI cZ a1 ou cJ _ hG0 hH0) (vx_cwSW 3 hts gL_law_L_threshold rfl rfl rfl (by decide +kernel) ⟨Nat.le_of_ble_eq_true rfl, Nat.le_of_ble_eq_true rfl⟩) ⟨pr_blind, fun U hU hW => ⟨rfl, pr_mk hU hW hPc hKc hDc⟩⟩ rfl rfl hl.1 rfl (lv_room (Nat.le_of_ble_eq_true rfl)) dL_law_564 ⟨Nat.le_of_ble_eq_true rfl, Nat.le_of_ble_eq_true rfl⟩) hS (fun q _ h => hFc q h) hFc (fun r_14 u_13 t H1 locs ht hvm hw hB hz1 hk1 hS => ?_)
    obtain ⟨hP1, hK1, hD1⟩ := hB
    rw [ht] at hP1
    obtain ⟨hP, hD⟩ := va_join (wr := [(b0, .inl (cI, 6, .inl zi)), (b1, .inl (cZ, 6, .inl zi)), (b4, .inl (cI, 4, .inl zi)), (mm, .inr (10, [.int 0, .ref pl, .ref ig, .ref sl, .ref kl, .int 0, .int 0, .int 0])), (pl, .inr (1, [.int 0, .ref dz, .int 0])), (sl, .inr (1, [.int 0, .ref dz, .int 0])), (kl, .inr (1, [.int 0, .ref dz, .int 0])), (od, .inl (cD, 1, .inr (.inr (.inr (.inl zd)))))]) (w1 := [(ou, .inl (cJ, 1, .inr (.inl zl)))]) hP hD [0, 1, 2, 6, 7, 8, 9, 10, 11, 16] [3, 4, 5, 12, 13, 14, 15, 17] rfl rfl (by decide) (by decide) hk1 hFc hP1 hD1
    generalize H1 = H at hP hS ⊢
    have hP : va_P (dC, dI) vwCl [(b0, .inl (cI, 6, .inl zi)), (b1, .inl (cZ, 6, .inl zi)), (b4, .inl (cI, 4, .inl zi)), (mm, .inr (10, [.int 0, .ref pl, .ref ig, .ref sl, .ref kl, .int 0, .int 0, .int 0])), (pl, .inr (1, [.int 0, .ref dz, .int 0])), (sl, .inr (1, [.int 0, .ref dz, .int 0])), (kl, .inr (1, [.int 0, .ref dz, .int 0])), (od, .inl (cD, 1, .inr (.inr (.inr (.inl zd))))), (ou, .inl (cJ, 1, .inr (.inl zl)))] H := hP
    have hD : va_D A [(b0, .inl (cI, 6, .inl zi)), (b1, .inl (cZ, 6, .inl zi)), (b4, .inl (cI, 4, .inl zi)), (mm, .inr (10, [.int 0, .ref pl, .ref ig, .ref sl, .ref kl, .int 0, .int 0, .int 0])), (pl, .inr (1, [.int 0, .ref dz, .int 0])), (sl, .inr (1, [.int 0, .ref dz, .int 0])), (kl, .inr (1, [.int 0, .ref dz, .int 0])), (od, .inl (cD, 1, .inr (.inr (.inr (.inl zd))))), (ou, .inl (cJ, 1, .inr (.inl zl)))] := hD
    refine W.widen (k := 118) (n := 750) (Nat.le_refl _) (Nat.le_refl _) ?_
    have hw : r_14 = 0 := hw
    subst hw
    refine lv_istore (lv' := [(6, .int 0), (5, .int 0), (4, .ref od), (3, .ref ou), (2, .ref mm), (1, .ref x), (0, .ref b)]) hx hb dL_law_567 hl (by decide) rfl (fun ls hl => ?_)
    refine lv_aload_n hx hb dL_law_569 rfl (lv_at hl 4 rfl) ?_
    refine lv_aload_n hx hb dL_law_570 rfl (lv_at hl 6 rfl) ?_
    refine lv_iload hx hb dL_law_571 (lv_at hl 1 rfl) ?_
    refine lv_iconst (v := 1) hx hb dL_law_573 (by decide) ?_
    refine lv_iadd hx hb dL_law_574 ?_
    refine lv_topi (fun y_15 ey_15 => ?_)
    obtain rfl : y_15 = 1 := ey_15.trans (by decide)
    refine va_sld hx hb hX hbl hbA hS (by unfold vp_in; decide) dL_law_575 ?_
    refine lv_topi (fun y_16 ey_16 => ?_)
    obtain rfl : a1 = y_16 := (ey_16.trans h_a1.symm).symm
    have hPc := hP.sub (ws' := [(mm, .inr (10, [.int 0, .ref pl, .ref ig, .ref sl, .ref kl, .int 0, .int 0, .int 0])), (pl, .inr (1, [.int 0, .ref dz, .int 0])), (sl, .inr (1, [.int 0, .ref dz, .int 0])), (kl, .inr (1, [.int 0, .ref dz, .int 0]))]) [3, 4, 5, 6] rfl
    have hDc := hD.sub (ws' := [(mm, .inr (10, [.int 0, .ref pl, .ref ig, .ref sl, .ref kl, .int 0, .int 0, .int 0])), (pl, .inr (1, [.int 0, .ref dz, .int 0])), (sl, .inr (1, [.int 0, .ref dz, .int 0])), (kl, .inr (1, [.int 0, .ref dz, .int 0]))]) [3, 4, 5, 6] (by decide) rfl
    have hKc := hK.sub (tys' := []) [] rfl
    have hFc := va_free (wc := [(mm, .inr (10, [.int 0, .ref pl, .ref ig, .ref sl, .ref kl, .int 0, .int 0, .int 0])), (pl, .inr (1, [.int 0, .ref dz, .int 0])), (sl, .inr (1, [.int 0, .ref dz, .int 0])), (kl, .inr (1, [.int 0, .ref dz, .int 0]))]) hD hS hA [3, 4, 5, 6] rfl
    refine va_calli (va_runV (As := [.int a1]) (rest := []) ⟨hx, hb, hml, hown, hts⟩ (c_X8_threshold l dC dI mm pl ig sl kl dz a1 _ hG0 hN0) (cwV 1 hts gL_law_X8_threshold rfl rfl rfl (by decide +kernel) ⟨Nat.le_of_ble_eq_true rfl, Nat.le_of_ble_eq_true rfl⟩) ⟨pe_blind mo_bl, va_recv hKc hPc (ci := 10) (q0 := 0) rfl rfl, fun U hU hW => ⟨rfl, pr_mk hU hW hPc hKc hDc, mo_mk hW (lx_m hLX)⟩⟩ rfl rfl hl.1 rfl (lv_room (Nat.le_of_ble_eq_true rfl)) dL_law_576 ⟨Nat.le_of_ble_eq_true rfl, Nat.le_of_ble_eq_true rfl⟩) hS (fun q _ h => hFc q h) hFc (fun r_18 u_17 t H1 locs ht hvm hw hB hz1 hk1 hS => ?_)
    obtain ⟨hP1, hK1, hD1⟩ := hB
    rw [ht] at hP1
    obtain ⟨hP, hD⟩ := va_join (wr := [(b0, .inl (cI, 6, .inl zi)), (b1, .inl (cZ, 6, .inl zi)), (b4, .inl (cI, 4, .inl zi)), (od, .inl (cD, 1, .inr (.inr (.inr (.inl zd))))), (ou, .inl (cJ, 1, .inr (.inl zl)))]) (w1 := [(mm, .inr (10, [.int 0, .ref pl, .ref ig, .ref sl, .ref kl, .int a1, .int 0, .int 0]))]) hP hD [3, 4, 5, 6] [0, 1, 2, 7, 8] rfl rfl (by decide) (by decide) hk1 hFc hP1 hD1
    generalize H1 = H at hP hS ⊢
    have hP : va_P (dC, dI) vwCl [(b0, .inl (cI, 6, .inl zi)), (b1, .inl (cZ, 6, .inl zi)), (b4, .inl (cI, 4, .inl zi)), (od, .inl (cD, 1, .inr (.inr (.inr (.inl zd))))), (ou, .inl (cJ, 1, .inr (.inl zl))), (mm, .inr (10, [.int 0, .ref pl, .ref ig, .ref sl, .ref kl, .int a1, .int 0, .int 0]))] H := hP
    have hD : va_D A [(b0, .inl (cI, 6, .inl zi)), (b1, .inl (cZ, 6, .inl zi)), (b4, .inl (cI, 4, .inl zi)), (od, .inl (cD, 1, .inr (.inr (.inr (.inl zd))))), (ou, .inl (cJ, 1, .inr (.inl zl))), (mm, .inr (10, [.int 0, .ref pl, .ref ig, .ref sl, .ref kl, .int a1, .int 0, .int 0]))] := hD
    refine W.widen (k := 119) (n := 755) (Nat.le_of_ble_eq_true rfl) (Nat.le_of_ble_eq_true rfl) ?_
    have hw : r_18 = 0 := hw
    subst hw
    refine lv_istore (lv' := [(7, .int 0), (6, .int 0), (5, .int 0), (4, .ref od), (3, .ref ou), (2, .ref mm), (1, .ref x), (0, .ref b)]) hx hb dL_law_579 hl (by decide) rfl (fun ls hl => ?_)
    refine lv_aload_n hx hb dL_law_581 rfl (lv_at hl 5 rfl) ?_
    have hPc := hP.sub (ws' := [(mm, .inr (10, [.int 0, .ref pl, .ref ig, .ref sl, .ref kl, .int a1, .int 0, .int 0]))]) [5] rfl
    have hDc := hD.sub (ws' := [(mm, .inr (10, [.int 0, .ref pl, .ref ig, .ref sl, .ref kl, .int a1, .int 0, .int 0]))]) [5] (by decide) rfl
    have hKc := hK.sub (tys' := []) [] rfl
    have hFc := va_free (wc := [(mm, .inr (10, [.int 0, .ref pl, .ref ig, .ref sl, .ref kl, .int a1, .int 0, .int 0]))]) hD hS hA [5] rfl
    refine va_calli (va_runV (As := []) (rest := []) ⟨hx, hb, hml, hown, hts⟩ (c_X8_thrown l dC dI mm pl ig sl kl (0 : Int32) a1 (0 : Int32) (0 : Int32) _ ) (cwV 0 hts gL_law_X8_thrown rfl rfl rfl (by decide +kernel) ⟨Nat.le_of_ble_eq_true rfl, Nat.le_of_ble_eq_true rfl⟩) ⟨pr_blind, va_recv hKc hPc (ci := 10) (q0 := 0) rfl rfl, fun U hU hW => ⟨rfl, pr_mk hU hW hPc hKc hDc⟩⟩ rfl rfl hl.1 rfl (lv_room (Nat.le_of_ble_eq_true rfl)) dL_law_582 ⟨Nat.le_of_ble_eq_true rfl, Nat.le_of_ble_eq_true rfl⟩) hS (fun q _ h => hFc q h) hFc (fun r_20 u_19 t H1 locs ht hvm hw hB hz1 hk1 hS => ?_)
    obtain ⟨hP1, hK1, hD1⟩ := hB
    rw [ht] at hP1
    obtain ⟨hP, hD⟩ := va_join (wr := [(b0, .inl (cI, 6, .inl zi)), (b1, .inl (cZ, 6, .inl zi)), (b4, .inl (cI, 4, .inl zi)), (od, .inl (cD, 1, .inr (.inr (.inr (.inl zd))))), (ou, .inl (cJ, 1, .inr (.inl zl)))]) (w1 := [(mm, .inr (10, [.int 0, .ref pl, .ref ig, .ref sl, .ref kl, .int a1, .int 0, .int 0]))]) hP hD [5] [0, 1, 2, 3, 4] rfl rfl (by decide) (by decide) hk1 hFc hP1 hD1
    generalize H1 = H at hP hS ⊢
    have hP : va_P (dC, dI) vwCl [(b0, .inl (cI, 6, .inl zi)), (b1, .inl (cZ, 6, .inl zi)), (b4, .inl (cI, 4, .inl zi)), (od, .inl (cD, 1, .inr (.inr (.inr (.inl zd))))), (ou, .inl (cJ, 1, .inr (.inl zl))), (mm, .inr (10, [.int 0, .ref pl, .ref ig, .ref sl, .ref kl, .int a1, .int 0, .int 0]))] H := hP
    have hD : va_D A [(b0, .inl (cI, 6, .inl zi)), (b1, .inl (cZ, 6, .inl zi)), (b4, .inl (cI, 4, .inl zi)), (od, .inl (cD, 1, .inr (.inr (.inr (.inl zd))))), (ou, .inl (cJ, 1, .inr (.inl zl))), (mm, .inr (10, [.int 0, .ref pl, .ref ig, .ref sl, .ref kl, .int a1, .int 0, .int 0]))] := hD
    refine W.widen (k := 119) (n := 755) (Nat.le_refl _) (Nat.le_refl _) ?_
    have hw : r_20 = 0 := hw
    subst hw
    refine lv_iload hx hb dL_law_585 (lv_at hl 1 rfl) ?_
    refine lv_icmp_eq (tgt := 592) hx hb dL_law_587 (by decide) (fun _ => ?_) (fun h9 => absurd h9 (by decide))
    refine lv_iload hx hb dL_law_592 (lv_at hl 1 rfl) ?_
    refine lv_if_ne (tgt := 609) hx hb dL_law_594 (by decide) (fun h9 => absurd h9 (by decide)) (fun _ => ?_)
    refine lv_aload_n hx hb dL_law_597 rfl (lv_at hl 4 rfl) ?_
    refine lv_iconst (v := 0) hx hb dL_law_598 (by decide) ?_
    refine va_lald hx hb hK hP 4 2 rfl rfl (by unfold vp_in; decide) dL_law_599 ?_
    refine lv_topl (fun y_21 ey_21 => ?_)
    obtain rfl : y_21 = 0 := ey_21
    refine lv_iload hx hb dL_law_600 (lv_at hl 0 rfl) ?_
    refine lv_i2l (v := 0) hx hb dL_law_602 (by decide) ?_
    refine W.lcmp hx hb dL_law_603 ?_
    refine lv_topi (fun y_22 ey_22 => ?_)
    obtain rfl : y_22 = 0 := ey_22.trans (lcmp_self _)
    refine lv_if_eq (tgt := 609) hx hb dL_law_604 (by decide) (fun _ => ?_) (fun h9 => absurd h9 (by decide))
    refine lv_goto (tgt := 2007) hx hb dL_law_609 (by decide) ?_
    exact law_tail l C0 hAe hS (lv_sub hl [2, 7] rfl) (Nat.le_of_ble_eq_true rfl) (Nat.le_of_ble_eq_true rfl)

set_option maxHeartbeats 4000000 in
set_option maxRecDepth 100000 in
theorem case_seal {p : Program} {e : Env} {s : State} {m : MethodId} {below : List Frame} {meth : Method} {c : Code} (l : Launch) (hfl : l.stackTraces = false) {b : Nat} {xs : Nat → Int32} (C0 : lw_At p s m meth c b 5 xs) {dz tc : Nat} {ad : Nat → Nat} (hLX : lx_ (fun q : Nat => s.heap.size ≤ q) dz tc ad s) (dC : Nat → ClassId) (dI : Nat → Nat → Nat) {x : Nat} {po : Nat} {tr : Nat} {sp : Nat} {bx : Nat} {b0 : Nat} {b1 : Nat} {b4 : Nat} {b6 : Nat} {pa : Nat} {p_v : Nat} {p_st : Nat} {p_ib : Nat} {p_di : Nat} {p_wa : Nat} {p_se : Nat} {p_vh : Nat} {p_re : Nat} {mm : Nat} {pl : Nat} {ig : Nat} {sl : Nat} {kl : Nat} {ou : Nat} {od : Nat} {cI : ClassId} {cZ : ClassId} {cJ : ClassId} {cD : ClassId} {H : Heap} {locs : List Loc} {ls : Array Slot} (hK : va_K (dC, dI) vwCl [(cI, .int), (cZ, .boolean), (cJ, .long), (cD, .double)] s) (hP : va_P (dC, dI) vwCl [(x, .inr (7, [.ref bx, .ref po, .ref tr, .ref pa, .ref sp])), (bx, .inr (2, [.ref b0, .ref b1, .int 0, .int 0, .ref b4, .int 0, .ref b6, .int 0, .int 0, .int 0, .int 0])), (pa, .inr (3, [.ref p_v, .int 0, .ref p_st, .ref p_ib, .ref p_di, .ref p_wa, .ref p_se, .ref p_vh, .ref p_re])), (b0, .inl (cI, 6, .inl zi)), (b1, .inl (cZ, 6, .inl zi)), (b4, .inl (cI, 4, .inl zi)), (p_v, .inl (cI, 4, .inl zi)), (p_st, .inl (cI, 4, .inl zi)), (p_ib, .inl (cZ, 4, .inl zi)), (p_di, .inl (cI, 4, .inl zi)), (p_wa, .inl (cI, 4, .inl zi)), (p_se, .inl (cI, 4, .inl zi)), (mm, .inr (10, [.int 0, .ref pl, .ref ig, .ref sl, .ref kl, .int 0, .int 0, .int 0])), (pl, .inr (1, [.int 0, .ref dz, .int 0])), (sl, .inr (1, [.int 0, .ref dz, .int 0])), (kl, .inr (1, [.int 0, .ref dz, .int 0])), (ou, .inl (cJ, 1, .inr (.inl zl))), (od, .inl (cD, 1, .inr (.inr (.inr (.inl zd)))))] H) (hD : va_D (fun q : Nat => s.heap.size ≤ q) [(x, .inr (7, [.ref bx, .ref po, .ref tr, .ref pa, .ref sp])), (bx, .inr (2, [.ref b0, .ref b1, .int 0, .int 0, .ref b4, .int 0, .ref b6, .int 0, .int 0, .int 0, .int 0])), (pa, .inr (3, [.ref p_v, .int 0, .ref p_st, .ref p_ib, .ref p_di, .ref p_wa, .ref p_se, .ref p_vh, .ref p_re])), (b0, .inl (cI, 6, .inl zi)), (b1, .inl (cZ, 6, .inl zi)), (b4, .inl (cI, 4, .inl zi)), (p_v, .inl (cI, 4, .inl zi)), (p_st, .inl (cI, 4, .inl zi)), (p_ib, .inl (cZ, 4, .inl zi)), (p_di, .inl (cI, 4, .inl zi)), (p_wa, .inl (cI, 4, .inl zi)), (p_se, .inl (cI, 4, .inl zi)), (mm, .inr (10, [.int 0, .ref pl, .ref ig, .ref sl, .ref kl, .int 0, .int 0, .int 0])), (pl, .inr (1, [.int 0, .ref dz, .int 0])), (sl, .inr (1, [.int 0, .ref dz, .int 0])), (kl, .inr (1, [.int 0, .ref dz, .int 0])), (ou, .inl (cJ, 1, .inr (.inl zl))), (od, .inl (cD, 1, .inr (.inr (.inr (.inl zd)))))]) (hS : va_S (fun q : Nat => s.heap.size ≤ q) s.heap H locs) (hl : lv_has ls 9 [(5, .int 0), (4, .ref od), (3, .ref ou), (2, .ref mm), (1, .ref x), (0, .ref b)]) : W p l e room_1 s m #[Value.ref b] below meth c H locs 118 750 (lw_Z below #[Value.ref b] s) (F0 m 612 ls []) := by
  obtain ⟨hx, hb, hr, hml, hown, hts0, hX, hbl, hlocks, hgv⟩ := id C0
  have hts : ∀ w ∈ lw_tbl, w.before #[Value.ref b] s = true := hts0
  have hbA : ¬ (fun q : Nat => s.heap.size ≤ q) b := Nat.not_le.mpr hbl
  have hA : ∀ q : Nat, s.heap.size ≤ q → (fun q : Nat => s.heap.size ≤ q) q := fun _ h => h
  generalize hAe : (fun q : Nat => s.heap.size ≤ q) = A at hD hS hbA hA hLX
  obtain ⟨a1, h_a1⟩ : ∃ z, z = xs ((1 : Int32).toNatClampNeg) := ⟨_, rfl⟩
  obtain ⟨a2, h_a2⟩ : ∃ z, z = xs ((2 : Int32).toNatClampNeg) := ⟨_, rfl⟩
  obtain ⟨a3, h_a3⟩ : ∃ z, z = xs ((3 : Int32).toNatClampNeg) := ⟨_, rfl⟩
  obtain ⟨a4, h_a4⟩ : ∃ z, z = xs ((4 : Int32).toNatClampNeg) := ⟨_, rfl⟩
  refine lv_aload_n hx hb dL_law_612 rfl (lv_at hl 4 rfl) ?_
  refine lv_aload_n hx hb dL_law_613 rfl (lv_at hl 5 rfl) ?_
  refine lv_iload hx hb dL_law_614 (lv_at hl 0 rfl) ?_
  refine lv_iconst (v := 1) hx hb dL_law_616 (by decide) ?_
  refine lv_iadd hx hb dL_law_617 ?_
  refine lv_topi (fun y_1 ey_1 => ?_)
  obtain rfl : y_1 = 1 := ey_1.trans (by decide)
  refine va_sld hx hb hX hbl hbA hS (by unfold vp_in; decide) dL_law_618 ?_
  refine lv_topi (fun y_2 ey_2 => ?_)
  obtain rfl : a1 = y_2 := (ey_2.trans h_a1.symm).symm
  refine lv_if_eq (tgt := 626) hx hb dL_law_619 (by decide) (fun hc_3 => ?_) (fun hc_3 => ?_)
  · refine lv_iconst (v := 0) hx hb dL_law_626 (by decide) ?_
    have hPc := hP.sub (ws' := [(x, .inr (7, [.ref bx, .ref po, .ref tr, .ref pa, .ref sp])), (bx, .inr (2, [.ref b0, .ref b1, .int 0, .int 0, .ref b4, .int 0, .ref b6, .int 0, .int 0, .int 0, .int 0]))]) [0, 1] rfl
    have hDc := hD.sub (ws' := [(x, .inr (7, [.ref bx, .ref po, .ref tr, .ref pa, .ref sp])), (bx, .inr (2, [.ref b0, .ref b1, .int 0, .int 0, .ref b4, .int 0, .ref b6, .int 0, .int 0, .int 0, .int 0]))]) [0, 1] (by decide) rfl
    have hKc := hK.sub (tys' := []) [] rfl
    have hFc := va_free (wc := [(x, .inr (7, [.ref bx, .ref po, .ref tr, .ref pa, .ref sp])), (bx, .inr (2, [.ref b0, .ref b1, .int 0, .int 0, .ref b4, .int 0, .ref b6, .int 0, .int 0, .int 0, .int 0]))]) hD hS hA [0, 1] rfl
    refine va_calli (va_runV (As := [.int 0]) (rest := []) ⟨hx, hb, hml, hown, hts⟩ (c_X5_seal l dC dI x po tr sp pa bx b0 b1 b4 b6 (0 : Int32) _ (by decide)) (cwV 1 hts gL_law_X5_seal rfl rfl rfl (by decide +kernel) ⟨Nat.le_of_ble_eq_true rfl, Nat.le_of_ble_eq_true rfl⟩) ⟨pr_blind, va_recv hKc hPc (ci := 7) (q0 := 0) rfl rfl, fun U hU hW => ⟨rfl, pr_mk hU hW hPc hKc hDc⟩⟩ rfl rfl hl.1 rfl (lv_room (Nat.le_of_ble_eq_true rfl)) dL_law_627 ⟨Nat.le_of_ble_eq_true rfl, Nat.le_of_ble_eq_true rfl⟩) hS (fun q _ h => hFc q h) hFc (fun r_5 u_4 t H1 locs ht hvm hw hB hz1 hk1 hS => ?_)
    obtain ⟨hP1, hK1, hD1⟩ := hB
    rw [ht] at hP1
    obtain ⟨hP, hD⟩ := va_join (wr := [(pa, .inr (3, [.ref p_v, .int 0, .ref p_st, .ref p_ib, .ref p_di, .ref p_wa, .ref p_se, .ref p_vh, .ref p_re])), (b0, .inl (cI, 6, .inl zi)), (b1, .inl (cZ, 6, .inl zi)), (b4, .inl (cI, 4, .inl zi)), (p_v, .inl (cI, 4, .inl zi)), (p_st, .inl (cI, 4, .inl zi)), (p_ib, .inl (cZ, 4, .inl zi)), (p_di, .inl (cI, 4, .inl zi)), (p_wa, .inl (cI, 4, .inl zi)), (p_se, .inl (cI, 4, .inl zi)), (mm, .inr (10, [.int 0, .ref pl, .ref ig, .ref sl, .ref kl, .int 0, .int 0, .int 0])), (pl, .inr (1, [.int 0, .ref dz, .int 0])), (sl, .inr (1, [.int 0, .ref dz, .int 0])), (kl, .inr (1, [.int 0, .ref dz, .int 0])), (ou, .inl (cJ, 1, .inr (.inl zl))), (od, .inl (cD, 1, .inr (.inr (.inr (.inl zd)))))]) (w1 := []) hP hD [0, 1] [2, 3, 4, 5, 6, 7, 8, 9, 10, 11, 12, 13, 14, 15, 16, 17] rfl rfl (by decide) (by decide) hk1 hFc hP1 hD1
    generalize H1 = H at hP hS ⊢
    have hP : va_P (dC, dI) vwCl [(pa, .inr (3, [.ref p_v, .int 0, .ref p_st, .ref p_ib, .ref p_di, .ref p_wa, .ref p_se, .ref p_vh, .ref p_re])), (b0, .inl (cI, 6, .inl zi)), (b1, .inl (cZ, 6, .inl zi)), (b4, .inl (cI, 4, .inl zi)), (p_v, .inl (cI, 4, .inl zi)), (p_st, .inl (cI, 4, .inl zi)), (p_ib, .inl (cZ, 4, .inl zi)), (p_di, .inl (cI, 4, .inl zi)), (p_wa, .inl (cI, 4, .inl zi)), (p_se, .inl (cI, 4, .inl zi)), (mm, .inr (10, [.int 0, .ref pl, .ref ig, .ref sl, .ref kl, .int 0, .int 0, .int 0])), (pl, .inr (1, [.int 0, .ref dz, .int 0])), (sl, .inr (1, [.int 0, .ref dz, .int 0])), (kl, .inr (1, [.int 0, .ref dz, .int 0])), (ou, .inl (cJ, 1, .inr (.inl zl))), (od, .inl (cD, 1, .inr (.inr (.inr (.inl zd)))))] H := hP
    have hD : va_D A [(pa, .inr (3, [.ref p_v, .int 0, .ref p_st, .ref p_ib, .ref p_di, .ref p_wa, .ref p_se, .ref p_vh, .ref p_re])), (b0, .inl (cI, 6, .inl zi)), (b1, .inl (cZ, 6, .inl zi)), (b4, .inl (cI, 4, .inl zi)), (p_v, .inl (cI, 4, .inl zi)), (p_st, .inl (cI, 4, .inl zi)), (p_ib, .inl (cZ, 4, .inl zi)), (p_di, .inl (cI, 4, .inl zi)), (p_wa, .inl (cI, 4, .inl zi)), (p_se, .inl (cI, 4, .inl zi)), (mm, .inr (10, [.int 0, .ref pl, .ref ig, .ref sl, .ref kl, .int 0, .int 0, .int 0])), (pl, .inr (1, [.int 0, .ref dz, .int 0])), (sl, .inr (1, [.int 0, .ref dz, .int 0])), (kl, .inr (1, [.int 0, .ref dz, .int 0])), (ou, .inl (cJ, 1, .inr (.inl zl))), (od, .inl (cD, 1, .inr (.inr (.inr (.inl zd)))))] := hD
    refine W.widen (k := 118) (n := 750) (Nat.le_refl _) (Nat.le_refl _) ?_
    have hw : r_5 = 0 := hw
    subst hw
    refine lv_aload_n hx hb dL_law_630 rfl (lv_at hl 3 rfl) ?_
    refine lv_aload_n hx hb dL_law_631 rfl (lv_at hl 5 rfl) ?_
    refine lv_iload hx hb dL_law_632 (lv_at hl 0 rfl) ?_
    refine lv_iconst (v := 1) hx hb dL_law_634 (by decide) ?_
    refine lv_iadd hx hb dL_law_635 ?_
    refine lv_topi (fun y_6 ey_6 => ?_)
    obtain rfl : y_6 = 1 := ey_6.trans (by decide)
    refine va_sld hx hb hX hbl hbA hS (by unfold vp_in; decide) dL_law_636 ?_
    refine lv_topi (fun y_7 ey_7 => ?_)
    obtain rfl : a1 = y_7 := (ey_7.trans h_a1.symm).symm
    refine lv_if_eq (tgt := 644) hx hb dL_law_637 (by decide) (fun _ => ?_) (fun h9 => (h9 hc_3).elim)
    refine lv_iconst (v := 0) hx hb dL_law_644 (by decide) ?_
    have hPc := hP.sub (ws' := [(mm, .inr (10, [.int 0, .ref pl, .ref ig, .ref sl, .ref kl, .int 0, .int 0, .int 0]))]) [10] rfl
    have hDc := hD.sub (ws' := [(mm, .inr (10, [.int 0, .ref pl, .ref ig, .ref sl, .ref kl, .int 0, .int 0, .int 0]))]) [10] (by decide) rfl
    have hKc := hK.sub (tys' := []) [] rfl
    have hFc := va_free (wc := [(mm, .inr (10, [.int 0, .ref pl, .ref ig, .ref sl, .ref kl, .int 0, .int 0, .int 0]))]) hD hS hA [10] rfl
    refine va_calli (va_runV (As := [.int 0]) (rest := [.int 0]) ⟨hx, hb, hml, hown, hts⟩ (c_X8_seal l dC dI mm pl ig sl kl (0 : Int32) _ (by decide)) (cwV 1 hts gL_law_X8_seal rfl rfl rfl (by decide +kernel) ⟨Nat.le_of_ble_eq_true rfl, Nat.le_of_ble_eq_true rfl⟩) ⟨pr_blind, va_recv hKc hPc (ci := 10) (q0 := 0) rfl rfl, fun U hU hW => ⟨rfl, pr_mk hU hW hPc hKc hDc⟩⟩ rfl rfl hl.1 rfl (lv_room (Nat.le_of_ble_eq_true rfl)) dL_law_645 ⟨Nat.le_of_ble_eq_true rfl, Nat.le_of_ble_eq_true rfl⟩) hS (fun q _ h => hFc q h) hFc (fun r_9 u_8 t H1 locs ht hvm hw hB hz1 hk1 hS => ?_)
    obtain ⟨hP1, hK1, hD1⟩ := hB
    rw [ht] at hP1
    obtain ⟨hP, hD⟩ := va_join (wr := [(pa, .inr (3, [.ref p_v, .int 0, .ref p_st, .ref p_ib, .ref p_di, .ref p_wa, .ref p_se, .ref p_vh, .ref p_re])), (b0, .inl (cI, 6, .inl zi)), (b1, .inl (cZ, 6, .inl zi)), (b4, .inl (cI, 4, .inl zi)), (p_v, .inl (cI, 4, .inl zi)), (p_st, .inl (cI, 4, .inl zi)), (p_ib, .inl (cZ, 4, .inl zi)), (p_di, .inl (cI, 4, .inl zi)), (p_wa, .inl (cI, 4, .inl zi)), (p_se, .inl (cI, 4, .inl zi)), (pl, .inr (1, [.int 0, .ref dz, .int 0])), (sl, .inr (1, [.int 0, .ref dz, .int 0])), (kl, .inr (1, [.int 0, .ref dz, .int 0])), (ou, .inl (cJ, 1, .inr (.inl zl))), (od, .inl (cD, 1, .inr (.inr (.inr (.inl zd)))))]) (w1 := []) hP hD [10] [0, 1, 2, 3, 4, 5, 6, 7, 8, 9, 11, 12, 13, 14, 15] rfl rfl (by decide) (by decide) hk1 hFc hP1 hD1
    generalize H1 = H at hP hS ⊢
    have hP : va_P (dC, dI) vwCl [(pa, .inr (3, [.ref p_v, .int 0, .ref p_st, .ref p_ib, .ref p_di, .ref p_wa, .ref p_se, .ref p_vh, .ref p_re])), (b0, .inl (cI, 6, .inl zi)), (b1, .inl (cZ, 6, .inl zi)), (b4, .inl (cI, 4, .inl zi)), (p_v, .inl (cI, 4, .inl zi)), (p_st, .inl (cI, 4, .inl zi)), (p_ib, .inl (cZ, 4, .inl zi)), (p_di, .inl (cI, 4, .inl zi)), (p_wa, .inl (cI, 4, .inl zi)), (p_se, .inl (cI, 4, .inl zi)), (pl, .inr (1, [.int 0, .ref dz, .int 0])), (sl, .inr (1, [.int 0, .ref dz, .int 0])), (kl, .inr (1, [.int 0, .ref dz, .int 0])), (ou, .inl (cJ, 1, .inr (.inl zl))), (od, .inl (cD, 1, .inr (.inr (.inr (.inl zd)))))] H := hP
    have hD : va_D A [(pa, .inr (3, [.ref p_v, .int 0, .ref p_st, .ref p_ib, .ref p_di, .ref p_wa, .ref p_se, .ref p_vh, .ref p_re])), (b0, .inl (cI, 6, .inl zi)), (b1, .inl (cZ, 6, .inl zi)), (b4, .inl (cI, 4, .inl zi)), (p_v, .inl (cI, 4, .inl zi)), (p_st, .inl (cI, 4, .inl zi)), (p_ib, .inl (cZ, 4, .inl zi)), (p_di, .inl (cI, 4, .inl zi)), (p_wa, .inl (cI, 4, .inl zi)), (p_se, .inl (cI, 4, .inl zi)), (pl, .inr (1, [.int 0, .ref dz, .int 0])), (sl, .inr (1, [.int 0, .ref dz, .int 0])), (kl, .inr (1, [.int 0, .ref dz, .int 0])), (ou, .inl (cJ, 1, .inr (.inl zl))), (od, .inl (cD, 1, .inr (.inr (.inr (.inl zd)))))] := hD
    refine W.widen (k := 118) (n := 750) (Nat.le_refl _) (Nat.le_refl _) ?_
    have hw : r_9 = 0 := hw
    subst hw
    refine lv_icmp_eq (tgt := 2007) hx hb dL_law_648 (by decide) (fun _ => ?_) (fun h9 => absurd h9 (by decide))
    exact law_tail l C0 hAe hS (lv_sub hl [0, 5] rfl) (Nat.le_of_ble_eq_true rfl) (Nat.le_of_ble_eq_true rfl)
  · refine lv_iconst (v := 1) hx hb dL_law_622 (by decide) ?_
    refine lv_goto (tgt := 627) hx hb dL_law_623 (by decide) ?_
    have hPc := hP.sub (ws' := [(x, .inr (7, [.ref bx, .ref po, .ref tr, .ref pa, .ref sp])), (bx, .inr (2, [.ref b0, .ref b1, .int 0, .int 0, .ref b4, .int 0, .ref b6, .int 0, .int 0, .int 0, .int 0]))]) [0, 1] rfl
    have hDc := hD.sub (ws' := [(x, .inr (7, [.ref bx, .ref po, .ref tr, .ref pa, .ref sp])), (bx, .inr (2, [.ref b0, .ref b1, .int 0, .int 0, .ref b4, .int 0, .ref b6, .int 0, .int 0, .int 0, .int 0]))]) [0, 1] (by decide) rfl
    have hKc := hK.sub (tys' := []) [] rfl
    have hFc := va_free (wc := [(x, .inr (7, [.ref bx, .ref po, .ref tr, .ref pa, .ref sp])), (bx, .inr (2, [.ref b0, .ref b1, .int 0, .int 0, .ref b4, .int 0, .ref b6, .int 0, .int 0, .int 0, .int 0]))]) hD hS hA [0, 1] rfl
    refine va_calli (va_runV (As := [.int 1]) (rest := []) ⟨hx, hb, hml, hown, hts⟩ (c_X5_seal l dC dI x po tr sp pa bx b0 b1 b4 b6 (1 : Int32) _ (by decide)) (cwV 1 hts gL_law_X5_seal rfl rfl rfl (by decide +kernel) ⟨Nat.le_of_ble_eq_true rfl, Nat.le_of_ble_eq_true rfl⟩) ⟨pr_blind, va_recv hKc hPc (ci := 7) (q0 := 0) rfl rfl, fun U hU hW => ⟨rfl, pr_mk hU hW hPc hKc hDc⟩⟩ rfl rfl hl.1 rfl (lv_room (Nat.le_of_ble_eq_true rfl)) dL_law_627 ⟨Nat.le_of_ble_eq_true rfl, Nat.le_of_ble_eq_true rfl⟩) hS (fun q _ h => hFc q h) hFc (fun r_11 u_10 t H1 locs ht hvm hw hB hz1 hk1 hS => ?_)
    obtain ⟨hP1, hK1, hD1⟩ := hB
    rw [ht] at hP1
    obtain ⟨hP, hD⟩ := va_join (wr := [(pa, .inr (3, [.ref p_v, .int 0, .ref p_st, .ref p_ib, .ref p_di, .ref p_wa, .ref p_se, .ref p_vh, .ref p_re])), (b0, .inl (cI, 6, .inl zi)), (b1, .inl (cZ, 6, .inl zi)), (b4, .inl (cI, 4, .inl zi)), (p_v, .inl (cI, 4, .inl zi)), (p_st, .inl (cI, 4, .inl zi)), (p_ib, .inl (cZ, 4, .inl zi)), (p_di, .inl (cI, 4, .inl zi)), (p_wa, .inl (cI, 4, .inl zi)), (p_se, .inl (cI, 4, .inl zi)), (mm, .inr (10, [.int 0, .ref pl, .ref ig, .ref sl, .ref kl, .int 0, .int 0, .int 0])), (pl, .inr (1, [.int 0, .ref dz, .int 0])), (sl, .inr (1, [.int 0, .ref dz, .int 0])), (kl, .inr (1, [.int 0, .ref dz, .int 0])), (ou, .inl (cJ, 1, .inr (.inl zl))), (od, .inl (cD, 1, .inr (.inr (.inr (.inl zd)))))]) (w1 := []) hP hD [0, 1] [2, 3, 4, 5, 6, 7, 8, 9, 10, 11, 12, 13, 14, 15, 16, 17] rfl rfl (by decide) (by decide) hk1 hFc hP1 hD1
    generalize H1 = H at hP hS ⊢
    have hP : va_P (dC, dI) vwCl [(pa, .inr (3, [.ref p_v, .int 0, .ref p_st, .ref p_ib, .ref p_di, .ref p_wa, .ref p_se, .ref p_vh, .ref p_re])), (b0, .inl (cI, 6, .inl zi)), (b1, .inl (cZ, 6, .inl zi)), (b4, .inl (cI, 4, .inl zi)), (p_v, .inl (cI, 4, .inl zi)), (p_st, .inl (cI, 4, .inl zi)), (p_ib, .inl (cZ, 4, .inl zi)), (p_di, .inl (cI, 4, .inl zi)), (p_wa, .inl (cI, 4, .inl zi)), (p_se, .inl (cI, 4, .inl zi)), (mm, .inr (10, [.int 0, .ref pl, .ref ig, .ref sl, .ref kl, .int 0, .int 0, .int 0])), (pl, .inr (1, [.int 0, .ref dz, .int 0])), (sl, .inr (1, [.int 0, .ref dz, .int 0])), (kl, .inr (1, [.int 0, .ref dz, .int 0])), (ou, .inl (cJ, 1, .inr (.inl zl))), (od, .inl (cD, 1, .inr (.inr (.inr (.inl zd)))))] H := hP
    have hD : va_D A [(pa, .inr (3, [.ref p_v, .int 0, .ref p_st, .ref p_ib, .ref p_di, .ref p_wa, .ref p_se, .ref p_vh, .ref p_re])), (b0, .inl (cI, 6, .inl zi)), (b1, .inl (cZ, 6, .inl zi)), (b4, .inl (cI, 4, .inl zi)), (p_v, .inl (cI, 4, .inl zi)), (p_st, .inl (cI, 4, .inl zi)), (p_ib, .inl (cZ, 4, .inl zi)), (p_di, .inl (cI, 4, .inl zi)), (p_wa, .inl (cI, 4, .inl zi)), (p_se, .inl (cI, 4, .inl zi)), (mm, .inr (10, [.int 0, .ref pl, .ref ig, .ref sl, .ref kl, .int 0, .int 0, .int 0])), (pl, .inr (1, [.int 0, .ref dz, .int 0])), (sl, .inr (1, [.int 0, .ref dz, .int 0])), (kl, .inr (1, [.int 0, .ref dz, .int 0])), (ou, .inl (cJ, 1, .inr (.inl zl))), (od, .inl (cD, 1, .inr (.inr (.inr (.inl zd)))))] := hD
    refine W.widen (k := 118) (n := 750) (Nat.le_refl _) (Nat.le_refl _) ?_
    have hw : r_11 = 0 := hw
    subst hw
    refine lv_aload_n hx hb dL_law_630 rfl (lv_at hl 3 rfl) ?_
    refine lv_aload_n hx hb dL_law_631 rfl (lv_at hl 5 rfl) ?_
    refine lv_iload hx hb dL_law_632 (lv_at hl 0 rfl) ?_
    refine lv_iconst (v := 1) hx hb dL_law_634 (by decide) ?_
    refine lv_iadd hx hb dL_law_635 ?_
    refine lv_topi (fun y_12 ey_12 => ?_)
    obtain rfl : y_12 = 1 := ey_12.trans (by decide)
    refine va_sld hx hb hX hbl hbA hS (by unfold vp_in; decide) dL_law_636 ?_
    refine lv_topi (fun y_13 ey_13 => ?_)
    obtain rfl : a1 = y_13 := (ey_13.trans h_a1.symm).symm
    refine lv_if_eq (tgt := 644) hx hb dL_law_637 (by decide) (fun h9 => (hc_3 h9).elim) (fun _ => ?_)
    refine lv_iconst (v := 1) hx hb dL_law_640 (by decide) ?_
    refine lv_goto (tgt := 645) hx hb dL_law_641 (by decide) ?_
    have hPc := hP.sub (ws' := [(mm, .inr (10, [.int 0, .ref pl, .ref ig, .ref sl, .ref kl, .int 0, .int 0, .int 0]))]) [10] rfl
    have hDc := hD.sub (ws' := [(mm, .inr (10, [.int 0, .ref pl, .ref ig, .ref sl, .ref kl, .int 0, .int 0, .int 0]))]) [10] (by decide) rfl
    have hKc := hK.sub (tys' := []) [] rfl
    have hFc := va_free (wc := [(mm, .inr (10, [.int 0, .ref pl, .ref ig, .ref sl, .ref kl, .int 0, .int 0, .int 0]))]) hD hS hA [10] rfl
    refine va_calli (va_runV (As := [.int 1]) (rest := [.int 0]) ⟨hx, hb, hml, hown, hts⟩ (c_X8_seal l dC dI mm pl ig sl kl (1 : Int32) _ (by decide)) (cwV 1 hts gL_law_X8_seal rfl rfl rfl (by decide +kernel) ⟨Nat.le_of_ble_eq_true rfl, Nat.le_of_ble_eq_true rfl⟩) ⟨pr_blind, va_recv hKc hPc (ci := 10) (q0 := 0) rfl rfl, fun U hU hW => ⟨rfl, pr_mk hU hW hPc hKc hDc⟩⟩ rfl rfl hl.1 rfl (lv_room (Nat.le_of_ble_eq_true rfl)) dL_law_645 ⟨Nat.le_of_ble_eq_true rfl, Nat.le_of_ble_eq_true rfl⟩) hS (fun q _ h => hFc q h) hFc (fun r_15 u_14 t H1 locs ht hvm hw hB hz1 hk1 hS => ?_)
    obtain ⟨hP1, hK1, hD1⟩ := hB
    rw [ht] at hP1
    obtain ⟨hP, hD⟩ := va_join (wr := [(pa, .inr (3, [.ref p_v, .int 0, .ref p_st, .ref p_ib, .ref p_di, .ref p_wa, .ref p_se, .ref p_vh, .ref p_re])), (b0, .inl (cI, 6, .inl zi)), (b1, .inl (cZ, 6, .inl zi)), (b4, .inl (cI, 4, .inl zi)), (p_v, .inl (cI, 4, .inl zi)), (p_st, .inl (cI, 4, .inl zi)), (p_ib, .inl (cZ, 4, .inl zi)), (p_di, .inl (cI, 4, .inl zi)), (p_wa, .inl (cI, 4, .inl zi)), (p_se, .inl (cI, 4, .inl zi)), (pl, .inr (1, [.int 0, .ref dz, .int 0])), (sl, .inr (1, [.int 0, .ref dz, .int 0])), (kl, .inr (1, [.int 0, .ref dz, .int 0])), (ou, .inl (cJ, 1, .inr (.inl zl))), (od, .inl (cD, 1, .inr (.inr (.inr (.inl zd)))))]) (w1 := []) hP hD [10] [0, 1, 2, 3, 4, 5, 6, 7, 8, 9, 11, 12, 13, 14, 15] rfl rfl (by decide) (by decide) hk1 hFc hP1 hD1
    generalize H1 = H at hP hS ⊢
    have hP : va_P (dC, dI) vwCl [(pa, .inr (3, [.ref p_v, .int 0, .ref p_st, .ref p_ib, .ref p_di, .ref p_wa, .ref p_se, .ref p_vh, .ref p_re])), (b0, .inl (cI, 6, .inl zi)), (b1, .inl (cZ, 6, .inl zi)), (b4, .inl (cI, 4, .inl zi)), (p_v, .inl (cI, 4, .inl zi)), (p_st, .inl (cI, 4, .inl zi)), (p_ib, .inl (cZ, 4, .inl zi)), (p_di, .inl (cI, 4, .inl zi)), (p_wa, .inl (cI, 4, .inl zi)), (p_se, .inl (cI, 4, .inl zi)), (pl, .inr (1, [.int 0, .ref dz, .int 0])), (sl, .inr (1, [.int 0, .ref dz, .int 0])), (kl, .inr (1, [.int 0, .ref dz, .int 0])), (ou, .inl (cJ, 1, .inr (.inl zl))), (od, .inl (cD, 1, .inr (.inr (.inr (.inl zd)))))] H := hP
    have hD : va_D A [(pa, .inr (3, [.ref p_v, .int 0, .ref p_st, .ref p_ib, .ref p_di, .ref p_wa, .ref p_se, .ref p_vh, .ref p_re])), (b0, .inl (cI, 6, .inl zi)), (b1, .inl (cZ, 6, .inl zi)), (b4, .inl (cI, 4, .inl zi)), (p_v, .inl (cI, 4, .inl zi)), (p_st, .inl (cI, 4, .inl zi)), (p_ib, .inl (cZ, 4, .inl zi)), (p_di, .inl (cI, 4, .inl zi)), (p_wa, .inl (cI, 4, .inl zi)), (p_se, .inl (cI, 4, .inl zi)), (pl, .inr (1, [.int 0, .ref dz, .int 0])), (sl, .inr (1, [.int 0, .ref dz, .int 0])), (kl, .inr (1, [.int 0, .ref dz, .int 0])), (ou, .inl (cJ, 1, .inr (.inl zl))), (od, .inl (cD, 1, .inr (.inr (.inr (.inl zd)))))] := hD
    refine W.widen (k := 118) (n := 750) (Nat.le_refl _) (Nat.le_refl _) ?_
    have hw : r_15 = 0 := hw
    subst hw
    refine lv_icmp_eq (tgt := 2007) hx hb dL_law_648 (by decide) (fun _ => ?_) (fun h9 => absurd h9 (by decide))
    exact law_tail l C0 hAe hS (lv_sub hl [0, 5] rfl) (Nat.le_of_ble_eq_true rfl) (Nat.le_of_ble_eq_true rfl)

set_option maxHeartbeats 4000000 in
set_option maxRecDepth 100000 in
theorem case_knock {p : Program} {e : Env} {s : State} {m : MethodId} {below : List Frame} {meth : Method} {c : Code} (l : Launch) (hfl : l.stackTraces = false) {b : Nat} {xs : Nat → Int32} (C0 : lw_At p s m meth c b 5 xs) {dz tc : Nat} {ad : Nat → Nat} (hLX : lx_ (fun q : Nat => s.heap.size ≤ q) dz tc ad s) (dC : Nat → ClassId) (dI : Nat → Nat → Nat) {x : Nat} {po : Nat} {tr : Nat} {sp : Nat} {bx : Nat} {b0 : Nat} {b1 : Nat} {b4 : Nat} {b6 : Nat} {pa : Nat} {p_v : Nat} {p_st : Nat} {p_ib : Nat} {p_di : Nat} {p_wa : Nat} {p_se : Nat} {p_vh : Nat} {p_re : Nat} {mm : Nat} {pl : Nat} {ig : Nat} {sl : Nat} {kl : Nat} {ou : Nat} {od : Nat} {cI : ClassId} {cZ : ClassId} {cJ : ClassId} {cD : ClassId} {H : Heap} {locs : List Loc} {ls : Array Slot} (hK : va_K (dC, dI) vwCl [(cI, .int), (cZ, .boolean), (cJ, .long), (cD, .double)] s) (hP : va_P (dC, dI) vwCl [(x, .inr (7, [.ref bx, .ref po, .ref tr, .ref pa, .ref sp])), (bx, .inr (2, [.ref b0, .ref b1, .int 0, .int 0, .ref b4, .int 0, .ref b6, .int 0, .int 0, .int 0, .int 0])), (pa, .inr (3, [.ref p_v, .int 0, .ref p_st, .ref p_ib, .ref p_di, .ref p_wa, .ref p_se, .ref p_vh, .ref p_re])), (b0, .inl (cI, 6, .inl zi)), (b1, .inl (cZ, 6, .inl zi)), (b4, .inl (cI, 4, .inl zi)), (p_v, .inl (cI, 4, .inl zi)), (p_st, .inl (cI, 4, .inl zi)), (p_ib, .inl (cZ, 4, .inl zi)), (p_di, .inl (cI, 4, .inl zi)), (p_wa, .inl (cI, 4, .inl zi)), (p_se, .inl (cI, 4, .inl zi)), (mm, .inr (10, [.int 0, .ref pl, .ref ig, .ref sl, .ref kl, .int 0, .int 0, .int 0])), (pl, .inr (1, [.int 0, .ref dz, .int 0])), (sl, .inr (1, [.int 0, .ref dz, .int 0])), (kl, .inr (1, [.int 0, .ref dz, .int 0])), (ou, .inl (cJ, 1, .inr (.inl zl))), (od, .inl (cD, 1, .inr (.inr (.inr (.inl zd)))))] H) (hD : va_D (fun q : Nat => s.heap.size ≤ q) [(x, .inr (7, [.ref bx, .ref po, .ref tr, .ref pa, .ref sp])), (bx, .inr (2, [.ref b0, .ref b1, .int 0, .int 0, .ref b4, .int 0, .ref b6, .int 0, .int 0, .int 0, .int 0])), (pa, .inr (3, [.ref p_v, .int 0, .ref p_st, .ref p_ib, .ref p_di, .ref p_wa, .ref p_se, .ref p_vh, .ref p_re])), (b0, .inl (cI, 6, .inl zi)), (b1, .inl (cZ, 6, .inl zi)), (b4, .inl (cI, 4, .inl zi)), (p_v, .inl (cI, 4, .inl zi)), (p_st, .inl (cI, 4, .inl zi)), (p_ib, .inl (cZ, 4, .inl zi)), (p_di, .inl (cI, 4, .inl zi)), (p_wa, .inl (cI, 4, .inl zi)), (p_se, .inl (cI, 4, .inl zi)), (mm, .inr (10, [.int 0, .ref pl, .ref ig, .ref sl, .ref kl, .int 0, .int 0, .int 0])), (pl, .inr (1, [.int 0, .ref dz, .int 0])), (sl, .inr (1, [.int 0, .ref dz, .int 0])), (kl, .inr (1, [.int 0, .ref dz, .int 0])), (ou, .inl (cJ, 1, .inr (.inl zl))), (od, .inl (cD, 1, .inr (.inr (.inr (.inl zd)))))]) (hS : va_S (fun q : Nat => s.heap.size ≤ q) s.heap H locs) (hl : lv_has ls 9 [(5, .int 0), (4, .ref od), (3, .ref ou), (2, .ref mm), (1, .ref x), (0, .ref b)]) : W p l e room_1 s m #[Value.ref b] below meth c H locs 118 750 (lw_Z below #[Value.ref b] s) (F0 m 653 ls []) := by
  obtain ⟨hx, hb, hr, hml, hown, hts0, hX, hbl, hlocks, hgv⟩ := id C0
  have hts : ∀ w ∈ lw_tbl, w.before #[Value.ref b] s = true := hts0
  have hbA : ¬ (fun q : Nat => s.heap.size ≤ q) b := Nat.not_le.mpr hbl
  have hA : ∀ q : Nat, s.heap.size ≤ q → (fun q : Nat => s.heap.size ≤ q) q := fun _ h => h
  generalize hAe : (fun q : Nat => s.heap.size ≤ q) = A at hD hS hbA hA hLX
  obtain ⟨a1, h_a1⟩ : ∃ z, z = xs ((1 : Int32).toNatClampNeg) := ⟨_, rfl⟩
  obtain ⟨a2, h_a2⟩ : ∃ z, z = xs ((2 : Int32).toNatClampNeg) := ⟨_, rfl⟩
  obtain ⟨a3, h_a3⟩ : ∃ z, z = xs ((3 : Int32).toNatClampNeg) := ⟨_, rfl⟩
  obtain ⟨a4, h_a4⟩ : ∃ z, z = xs ((4 : Int32).toNatClampNeg) := ⟨_, rfl⟩
  refine lv_aload_n hx hb dL_law_653 rfl (lv_at hl 4 rfl) ?_
  have hPc := hP.sub (ws' := [(x, .inr (7, [.ref bx, .ref po, .ref tr, .ref pa, .ref sp])), (bx, .inr (2, [.ref b0, .ref b1, .int 0, .int 0, .ref b4, .int 0, .ref b6, .int 0, .int 0, .int 0, .int 0]))]) [0, 1] rfl
  have hDc := hD.sub (ws' := [(x, .inr (7, [.ref bx, .ref po, .ref tr, .ref pa, .ref sp])), (bx, .inr (2, [.ref b0, .ref b1, .int 0, .int 0, .ref b4, .int 0, .ref b6, .int 0, .int 0, .int 0, .int 0]))]) [0, 1] (by decide) rfl
  have hKc := hK.sub (tys' := []) [] rfl
  have hFc := va_free (wc := [(x, .inr (7, [.ref bx, .ref po, .ref tr, .ref pa, .ref sp])), (bx, .inr (2, [.ref b0, .ref b1, .int 0, .int 0, .ref b4, .int 0, .ref b6, .int 0, .int 0, .int 0, .int 0]))]) hD hS hA [0, 1] rfl
  refine va_calli (va_runV (As := []) (rest := []) ⟨hx, hb, hml, hown, hts⟩ (c_X5_knock l dC dI x po tr sp pa bx b0 b1 b4 b6 _ ) (cwV 0 hts gL_law_X5_knock rfl rfl rfl (by decide +kernel) ⟨Nat.le_of_ble_eq_true rfl, Nat.le_of_ble_eq_true rfl⟩) ⟨pr_blind, va_recv hKc hPc (ci := 7) (q0 := 0) rfl rfl, fun U hU hW => ⟨rfl, pr_mk hU hW hPc hKc hDc⟩⟩ rfl rfl hl.1 rfl (lv_room (Nat.le_of_ble_eq_true rfl)) dL_law_654 ⟨Nat.le_of_ble_eq_true rfl, Nat.le_of_ble_eq_true rfl⟩) hS (fun q _ h => hFc q h) hFc (fun r_2 u_1 t H1 locs ht hvm hw hB hz1 hk1 hS => ?_)
  obtain ⟨hP1, hK1, hD1⟩ := hB
  rw [ht] at hP1
  obtain ⟨hP, hD⟩ := va_join (wr := [(pa, .inr (3, [.ref p_v, .int 0, .ref p_st, .ref p_ib, .ref p_di, .ref p_wa, .ref p_se, .ref p_vh, .ref p_re])), (b0, .inl (cI, 6, .inl zi)), (b1, .inl (cZ, 6, .inl zi)), (b4, .inl (cI, 4, .inl zi)), (p_v, .inl (cI, 4, .inl zi)), (p_st, .inl (cI, 4, .inl zi)), (p_ib, .inl (cZ, 4, .inl zi)), (p_di, .inl (cI, 4, .inl zi)), (p_wa, .inl (cI, 4, .inl zi)), (p_se, .inl (cI, 4, .inl zi)), (mm, .inr (10, [.int 0, .ref pl, .ref ig, .ref sl, .ref kl, .int 0, .int 0, .int 0])), (pl, .inr (1, [.int 0, .ref dz, .int 0])), (sl, .inr (1, [.int 0, .ref dz, .int 0])), (kl, .inr (1, [.int 0, .ref dz, .int 0])), (ou, .inl (cJ, 1, .inr (.inl zl))), (od, .inl (cD, 1, .inr (.inr (.inr (.inl zd)))))]) (w1 := []) hP hD [0, 1] [2, 3, 4, 5, 6, 7, 8, 9, 10, 11, 12, 13, 14, 15, 16, 17] rfl rfl (by decide) (by decide) hk1 hFc hP1 hD1
  generalize H1 = H at hP hS ⊢
  have hP : va_P (dC, dI) vwCl [(pa, .inr (3, [.ref p_v, .int 0, .ref p_st, .ref p_ib, .ref p_di, .ref p_wa, .ref p_se, .ref p_vh, .ref p_re])), (b0, .inl (cI, 6, .inl zi)), (b1, .inl (cZ, 6, .inl zi)), (b4, .inl (cI, 4, .inl zi)), (p_v, .inl (cI, 4, .inl zi)), (p_st, .inl (cI, 4, .inl zi)), (p_ib, .inl (cZ, 4, .inl zi)), (p_di, .inl (cI, 4, .inl zi)), (p_wa, .inl (cI, 4, .inl zi)), (p_se, .inl (cI, 4, .inl zi)), (mm, .inr (10, [.int 0, .ref pl, .ref ig, .ref sl, .ref kl, .int 0, .int 0, .int 0])), (pl, .inr (1, [.int 0, .ref dz, .int 0])), (sl, .inr (1, [.int 0, .ref dz, .int 0])), (kl, .inr (1, [.int 0, .ref dz, .int 0])), (ou, .inl (cJ, 1, .inr (.inl zl))), (od, .inl (cD, 1, .inr (.inr (.inr (.inl zd)))))] H := hP
  have hD : va_D A [(pa, .inr (3, [.ref p_v, .int 0, .ref p_st, .ref p_ib, .ref p_di, .ref p_wa, .ref p_se, .ref p_vh, .ref p_re])), (b0, .inl (cI, 6, .inl zi)), (b1, .inl (cZ, 6, .inl zi)), (b4, .inl (cI, 4, .inl zi)), (p_v, .inl (cI, 4, .inl zi)), (p_st, .inl (cI, 4, .inl zi)), (p_ib, .inl (cZ, 4, .inl zi)), (p_di, .inl (cI, 4, .inl zi)), (p_wa, .inl (cI, 4, .inl zi)), (p_se, .inl (cI, 4, .inl zi)), (mm, .inr (10, [.int 0, .ref pl, .ref ig, .ref sl, .ref kl, .int 0, .int 0, .int 0])), (pl, .inr (1, [.int 0, .ref dz, .int 0])), (sl, .inr (1, [.int 0, .ref dz, .int 0])), (kl, .inr (1, [.int 0, .ref dz, .int 0])), (ou, .inl (cJ, 1, .inr (.inl zl))), (od, .inl (cD, 1, .inr (.inr (.inr (.inl zd)))))] := hD
  refine W.widen (k := 118) (n := 750) (Nat.le_refl _) (Nat.le_refl _) ?_
  have hw : r_2 = 1 := hw
  subst hw
  refine lv_aload_n hx hb dL_law_657 rfl (lv_at hl 3 rfl) ?_
  have hPc := hP.sub (ws' := [(mm, .inr (10, [.int 0, .ref pl, .ref ig, .ref sl, .ref kl, .int 0, .int 0, .int 0]))]) [10] rfl
  have hDc := hD.sub (ws' := [(mm, .inr (10, [.int 0, .ref pl, .ref ig, .ref sl, .ref kl, .int 0, .int 0, .int 0]))]) [10] (by decide) rfl
  have hKc := hK.sub (tys' := []) [] rfl
  have hFc := va_free (wc := [(mm, .inr (10, [.int 0, .ref pl, .ref ig, .ref sl, .ref kl, .int 0, .int 0, .int 0]))]) hD hS hA [10] rfl
  refine va_calli (va_runV (As := []) (rest := [.int 1]) ⟨hx, hb, hml, hown, hts⟩ (c_X8_knock l dC dI mm pl ig sl kl _ ) (cwV 0 hts gL_law_X8_knock rfl rfl rfl (by decide +kernel) ⟨Nat.le_of_ble_eq_true rfl, Nat.le_of_ble_eq_true rfl⟩) ⟨pr_blind, va_recv hKc hPc (ci := 10) (q0 := 0) rfl rfl, fun U hU hW => ⟨rfl, pr_mk hU hW hPc hKc hDc⟩⟩ rfl rfl hl.1 rfl (lv_room (Nat.le_of_ble_eq_true rfl)) dL_law_658 ⟨Nat.le_of_ble_eq_true rfl, Nat.le_of_ble_eq_true rfl⟩) hS (fun q _ h => hFc q h) hFc (fun r_4 u_3 t H1 locs ht hvm hw hB hz1 hk1 hS => ?_)
  obtain ⟨hP1, hK1, hD1⟩ := hB
  rw [ht] at hP1
  obtain ⟨hP, hD⟩ := va_join (wr := [(pa, .inr (3, [.ref p_v, .int 0, .ref p_st, .ref p_ib, .ref p_di, .ref p_wa, .ref p_se, .ref p_vh, .ref p_re])), (b0, .inl (cI, 6, .inl zi)), (b1, .inl (cZ, 6, .inl zi)), (b4, .inl (cI, 4, .inl zi)), (p_v, .inl (cI, 4, .inl zi)), (p_st, .inl (cI, 4, .inl zi)), (p_ib, .inl (cZ, 4, .inl zi)), (p_di, .inl (cI, 4, .inl zi)), (p_wa, .inl (cI, 4, .inl zi)), (p_se, .inl (cI, 4, .inl zi)), (pl, .inr (1, [.int 0, .ref dz, .int 0])), (sl, .inr (1, [.int 0, .ref dz, .int 0])), (kl, .inr (1, [.int 0, .ref dz, .int 0])), (ou, .inl (cJ, 1, .inr (.inl zl))), (od, .inl (cD, 1, .inr (.inr (.inr (.inl zd)))))]) (w1 := [(mm, .inr (10, [.int 0, .ref pl, .ref ig, .ref sl, .ref kl, .int 0, .int 0, .int 1]))]) hP hD [10] [0, 1, 2, 3, 4, 5, 6, 7, 8, 9, 11, 12, 13, 14, 15] rfl rfl (by decide) (by decide) hk1 hFc hP1 hD1
  generalize H1 = H at hP hS ⊢
  have hP : va_P (dC, dI) vwCl [(pa, .inr (3, [.ref p_v, .int 0, .ref p_st, .ref p_ib, .ref p_di, .ref p_wa, .ref p_se, .ref p_vh, .ref p_re])), (b0, .inl (cI, 6, .inl zi)), (b1, .inl (cZ, 6, .inl zi)), (b4, .inl (cI, 4, .inl zi)), (p_v, .inl (cI, 4, .inl zi)), (p_st, .inl (cI, 4, .inl zi)), (p_ib, .inl (cZ, 4, .inl zi)), (p_di, .inl (cI, 4, .inl zi)), (p_wa, .inl (cI, 4, .inl zi)), (p_se, .inl (cI, 4, .inl zi)), (pl, .inr (1, [.int 0, .ref dz, .int 0])), (sl, .inr (1, [.int 0, .ref dz, .int 0])), (kl, .inr (1, [.int 0, .ref dz, .int 0])), (ou, .inl (cJ, 1, .inr (.inl zl))), (od, .inl (cD, 1, .inr (.inr (.inr (.inl zd))))), (mm, .inr (10, [.int 0, .ref pl, .ref ig, .ref sl, .ref kl, .int 0, .int 0, .int 1]))] H := hP
  have hD : va_D A [(pa, .inr (3, [.ref p_v, .int 0, .ref p_st, .ref p_ib, .ref p_di, .ref p_wa, .ref p_se, .ref p_vh, .ref p_re])), (b0, .inl (cI, 6, .inl zi)), (b1, .inl (cZ, 6, .inl zi)), (b4, .inl (cI, 4, .inl zi)), (p_v, .inl (cI, 4, .inl zi)), (p_st, .inl (cI, 4, .inl zi)), (p_ib, .inl (cZ, 4, .inl zi)), (p_di, .inl (cI, 4, .inl zi)), (p_wa, .inl (cI, 4, .inl zi)), (p_se, .inl (cI, 4, .inl zi)), (pl, .inr (1, [.int 0, .ref dz, .int 0])), (sl, .inr (1, [.int 0, .ref dz, .int 0])), (kl, .inr (1, [.int 0, .ref dz, .int 0])), (ou, .inl (cJ, 1, .inr (.inl zl))), (od, .inl (cD, 1, .inr (.inr (.inr (.inl zd))))), (mm, .inr (10, [.int 0, .ref pl, .ref ig, .ref sl, .ref kl, .int 0, .int 0, .int 1]))] := hD
  refine W.widen (k := 118) (n := 750) (Nat.le_refl _) (Nat.le_refl _) ?_
  have hw : r_4 = 1 := hw
  subst hw
  refine lv_icmp_eq (tgt := 2007) hx hb dL_law_661 (by decide) (fun _ => ?_) (fun h9 => absurd h9 (by decide))
  exact law_tail l C0 hAe hS (lv_sub hl [0, 5] rfl) (Nat.le_of_ble_eq_true rfl) (Nat.le_of_ble_eq_true rfl)

set_option maxHeartbeats 4000000 in
set_option maxRecDepth 100000 in
theorem case_ofStack {p : Program} {e : Env} {s : State} {m : MethodId} {below : List Frame} {meth : Method} {c : Code} (l : Launch) (hfl : l.stackTraces = false) {b : Nat} {xs : Nat → Int32} (C0 : lw_At p s m meth c b 5 xs) {dz tc : Nat} {ad : Nat → Nat} (hLX : lx_ (fun q : Nat => s.heap.size ≤ q) dz tc ad s) (dC : Nat → ClassId) (dI : Nat → Nat → Nat) {x : Nat} {po : Nat} {tr : Nat} {sp : Nat} {bx : Nat} {b0 : Nat} {b1 : Nat} {b4 : Nat} {b6 : Nat} {pa : Nat} {p_v : Nat} {p_st : Nat} {p_ib : Nat} {p_di : Nat} {p_wa : Nat} {p_se : Nat} {p_vh : Nat} {p_re : Nat} {mm : Nat} {pl : Nat} {ig : Nat} {sl : Nat} {kl : Nat} {ou : Nat} {od : Nat} {cI : ClassId} {cZ : ClassId} {cJ : ClassId} {cD : ClassId} {H : Heap} {locs : List Loc} {ls : Array Slot} (hK : va_K (dC, dI) vwCl [(cI, .int), (cZ, .boolean), (cJ, .long), (cD, .double)] s) (hP : va_P (dC, dI) vwCl [(x, .inr (7, [.ref bx, .ref po, .ref tr, .ref pa, .ref sp])), (bx, .inr (2, [.ref b0, .ref b1, .int 0, .int 0, .ref b4, .int 0, .ref b6, .int 0, .int 0, .int 0, .int 0])), (pa, .inr (3, [.ref p_v, .int 0, .ref p_st, .ref p_ib, .ref p_di, .ref p_wa, .ref p_se, .ref p_vh, .ref p_re])), (b0, .inl (cI, 6, .inl zi)), (b1, .inl (cZ, 6, .inl zi)), (b4, .inl (cI, 4, .inl zi)), (p_v, .inl (cI, 4, .inl zi)), (p_st, .inl (cI, 4, .inl zi)), (p_ib, .inl (cZ, 4, .inl zi)), (p_di, .inl (cI, 4, .inl zi)), (p_wa, .inl (cI, 4, .inl zi)), (p_se, .inl (cI, 4, .inl zi)), (mm, .inr (10, [.int 0, .ref pl, .ref ig, .ref sl, .ref kl, .int 0, .int 0, .int 0])), (pl, .inr (1, [.int 0, .ref dz, .int 0])), (sl, .inr (1, [.int 0, .ref dz, .int 0])), (kl, .inr (1, [.int 0, .ref dz, .int 0])), (ou, .inl (cJ, 1, .inr (.inl zl))), (od, .inl (cD, 1, .inr (.inr (.inr (.inl zd)))))] H) (hD : va_D (fun q : Nat => s.heap.size ≤ q) [(x, .inr (7, [.ref bx, .ref po, .ref tr, .ref pa, .ref sp])), (bx, .inr (2, [.ref b0, .ref b1, .int 0, .int 0, .ref b4, .int 0, .ref b6, .int 0, .int 0, .int 0, .int 0])), (pa, .inr (3, [.ref p_v, .int 0, .ref p_st, .ref p_ib, .ref p_di, .ref p_wa, .ref p_se, .ref p_vh, .ref p_re])), (b0, .inl (cI, 6, .inl zi)), (b1, .inl (cZ, 6, .inl zi)), (b4, .inl (cI, 4, .inl zi)), (p_v, .inl (cI, 4, .inl zi)), (p_st, .inl (cI, 4, .inl zi)), (p_ib, .inl (cZ, 4, .inl zi)), (p_di, .inl (cI, 4, .inl zi)), (p_wa, .inl (cI, 4, .inl zi)), (p_se, .inl (cI, 4, .inl zi)), (mm, .inr (10, [.int 0, .ref pl, .ref ig, .ref sl, .ref kl, .int 0, .int 0, .int 0])), (pl, .inr (1, [.int 0, .ref dz, .int 0])), (sl, .inr (1, [.int 0, .ref dz, .int 0])), (kl, .inr (1, [.int 0, .ref dz, .int 0])), (ou, .inl (cJ, 1, .inr (.inl zl))), (od, .inl (cD, 1, .inr (.inr (.inr (.inl zd)))))]) (hS : va_S (fun q : Nat => s.heap.size ≤ q) s.heap H locs) (hl : lv_has ls 9 [(5, .int 0), (4, .ref od), (3, .ref ou), (2, .ref mm), (1, .ref x), (0, .ref b)]) : W p l e room_1 s m #[Value.ref b] below meth c H locs 118 750 (lw_Z below #[Value.ref b] s) (F0 m 666 ls []) := by
  obtain ⟨hx, hb, hr, hml, hown, hts0, hX, hbl, hlocks, hgv⟩ := id C0
  have hts : ∀ w ∈ lw_tbl, w.before #[Value.ref b] s = true := hts0
  have hbA : ¬ (fun q : Nat => s.heap.size ≤ q) b := Nat.not_le.mpr hbl
  have hA : ∀ q : Nat, s.heap.size ≤ q → (fun q : Nat => s.heap.size ≤ q) q := fun _ h => h
  generalize hAe : (fun q : Nat => s.heap.size ≤ q) = A at hD hS hbA hA hLX
  obtain ⟨a1, h_a1⟩ : ∃ z, z = xs ((1 : Int32).toNatClampNeg) := ⟨_, rfl⟩
  obtain ⟨a2, h_a2⟩ : ∃ z, z = xs ((2 : Int32).toNatClampNeg) := ⟨_, rfl⟩
  obtain ⟨a3, h_a3⟩ : ∃ z, z = xs ((3 : Int32).toNatClampNeg) := ⟨_, rfl⟩
  obtain ⟨a4, h_a4⟩ : ∃ z, z = xs ((4 : Int32).toNatClampNeg) := ⟨_, rfl⟩
  refine lv_aload_n hx hb dL_law_666 rfl (lv_at hl 4 rfl) ?_
  refine lv_aload_n hx hb dL_law_667 rfl (lv_at hl 5 rfl) ?_
  refine lv_iload hx hb dL_law_668 (lv_at hl 0 rfl) ?_
  refine lv_iconst (v := 1) hx hb dL_law_670 (by decide) ?_
  refine lv_iadd hx hb dL_law_671 ?_
  refine lv_topi (fun y_1 ey_1 => ?_)
  obtain rfl : y_1 = 1 := ey_1.trans (by decide)
  refine va_sld hx hb hX hbl hbA hS (by unfold vp_in; decide) dL_law_672 ?_
  refine lv_topi (fun y_2 ey_2 => ?_)
  obtain rfl : a1 = y_2 := (ey_2.trans h_a1.symm).symm
  refine lv_aload_n hx hb dL_law_673 rfl (lv_at hl 5 rfl) ?_
  refine lv_iload hx hb dL_law_674 (lv_at hl 0 rfl) ?_
  refine lv_iconst (v := 2) hx hb dL_law_676 (by decide) ?_
  refine lv_iadd hx hb dL_law_677 ?_
  refine lv_topi (fun y_3 ey_3 => ?_)
  obtain rfl : y_3 = 2 := ey_3.trans (by decide)
  refine va_sld hx hb hX hbl hbA hS (by unfold vp_in; decide) dL_law_678 ?_
  refine lv_topi (fun y_4 ey_4 => ?_)
  obtain rfl : a2 = y_4 := (ey_4.trans h_a2.symm).symm
  refine lv_aload_n hx hb dL_law_679 rfl (lv_at hl 2 rfl) ?_
  have hPc := hP.sub (ws' := [(x, .inr (7, [.ref bx, .ref po, .ref tr, .ref pa, .ref sp])), (bx, .inr (2, [.ref b0, .ref b1, .int 0, .int 0, .ref b4, .int 0, .ref b6, .int 0, .int 0, .int 0, .int 0]))]) [0, 1] rfl
  have hDc := hD.sub (ws' := [(x, .inr (7, [.ref bx, .ref po, .ref tr, .ref pa, .ref sp])), (bx, .inr (2, [.ref b0, .ref b1, .int 0, .int 0, .ref b4, .int 0, .ref b6, .int 0, .int 0, .int 0, .int 0]))]) [0, 1] (by decide) rfl
  have hKc := hK.sub (tys' := []) [] rfl
  have hFc := va_free (wc := [(x, .inr (7, [.ref bx, .ref po, .ref tr, .ref pa, .ref sp])), (bx, .inr (2, [.ref b0, .ref b1, .int 0, .int 0, .ref b4, .int 0, .ref b6, .int 0, .int 0, .int 0, .int 0]))]) hD hS hA [0, 1] rfl
  refine va_calli (vx_runSW (As := [.ref x, .int a1, .int a2, .ref ou]) (rest := []) ⟨hx, hb, hml, hown, hts⟩ (h0_L_ofStack l hfl dC dI x po tr sp pa bx b0 b1 b4 b6 a1 a2 ou ((lx_s301 hLX).choose) ((lx_s301 hLX).choose_spec.choose) _ ) (vx_cwSW 4 hts gL_law_L_ofStack rfl rfl rfl (by decide +kernel) ⟨Nat.le_of_ble_eq_true rfl, Nat.le_of_ble_eq_true rfl⟩) ⟨pn_blind (fun _ _ _ _ h => h), fun U hU hW => ⟨rfl, pr_mk hU hW hPc hKc hDc, xs_mk hU hW hS hFc (lx_xo hLX (lx_s301 hLX).choose_spec.choose_spec), trivial⟩⟩ rfl rfl hl.1 rfl (lv_room (Nat.le_of_ble_eq_true rfl)) dL_law_680 ⟨Nat.le_of_ble_eq_true rfl, Nat.le_of_ble_eq_true rfl⟩) hS (fun q _ h => hFc q h) hFc (fun r_6 u_5 t H1 locs ht hvm hw hB hz1 hk1 hS => ?_)
  obtain ⟨hP1, hK1, hD1⟩ := hB
  rw [ht] at hP1
  obtain ⟨hP, hD⟩ := va_join (wr := [(pa, .inr (3, [.ref p_v, .int 0, .ref p_st, .ref p_ib, .ref p_di, .ref p_wa, .ref p_se, .ref p_vh, .ref p_re])), (b0, .inl (cI, 6, .inl zi)), (b1, .inl (cZ, 6, .inl zi)), (b4, .inl (cI, 4, .inl zi)), (p_v, .inl (cI, 4, .inl zi)), (p_st, .inl (cI, 4, .inl zi)), (p_ib, .inl (cZ, 4, .inl zi)), (p_di, .inl (cI, 4, .inl zi)), (p_wa, .inl (cI, 4, .inl zi)), (p_se, .inl (cI, 4, .inl zi)), (mm, .inr (10, [.int 0, .ref pl, .ref ig, .ref sl, .ref kl, .int 0, .int 0, .int 0])), (pl, .inr (1, [.int 0, .ref dz, .int 0])), (sl, .inr (1, [.int 0, .ref dz, .int 0])), (kl, .inr (1, [.int 0, .ref dz, .int 0])), (ou, .inl (cJ, 1, .inr (.inl zl))), (od, .inl (cD, 1, .inr (.inr (.inr (.inl zd)))))]) (w1 := []) hP hD [0, 1] [2, 3, 4, 5, 6, 7, 8, 9, 10, 11, 12, 13, 14, 15, 16, 17] rfl rfl (by decide) (by decide) hk1 hFc hP1 hD1
  generalize H1 = H at hP hS ⊢
  have hP : va_P (dC, dI) vwCl [(pa, .inr (3, [.ref p_v, .int 0, .ref p_st, .ref p_ib, .ref p_di, .ref p_wa, .ref p_se, .ref p_vh, .ref p_re])), (b0, .inl (cI, 6, .inl zi)), (b1, .inl (cZ, 6, .inl zi)), (b4, .inl (cI, 4, .inl zi)), (p_v, .inl (cI, 4, .inl zi)), (p_st, .inl (cI, 4, .inl zi)), (p_ib, .inl (cZ, 4, .inl zi)), (p_di, .inl (cI, 4, .inl zi)), (p_wa, .inl (cI, 4, .inl zi)), (p_se, .inl (cI, 4, .inl zi)), (mm, .inr (10, [.int 0, .ref pl, .ref ig, .ref sl, .ref kl, .int 0, .int 0, .int 0])), (pl, .inr (1, [.int 0, .ref dz, .int 0])), (sl, .inr (1, [.int 0, .ref dz, .int 0])), (kl, .inr (1, [.int 0, .ref dz, .int 0])), (ou, .inl (cJ, 1, .inr (.inl zl))), (od, .inl (cD, 1, .inr (.inr (.inr (.inl zd)))))] H := hP
  have hD : va_D A [(pa, .inr (3, [.ref p_v, .int 0, .ref p_st, .ref p_ib, .ref p_di, .ref p_wa, .ref p_se, .ref p_vh, .ref p_re])), (b0, .inl (cI, 6, .inl zi)), (b1, .inl (cZ, 6, .inl zi)), (b4, .inl (cI, 4, .inl zi)), (p_v, .inl (cI, 4, .inl zi)), (p_st, .inl (cI, 4, .inl zi)), (p_ib, .inl (cZ, 4, .inl zi)), (p_di, .inl (cI, 4, .inl zi)), (p_wa, .inl (cI, 4, .inl zi)), (p_se, .inl (cI, 4, .inl zi)), (mm, .inr (10, [.int 0, .ref pl, .ref ig, .ref sl, .ref kl, .int 0, .int 0, .int 0])), (pl, .inr (1, [.int 0, .ref dz, .int 0])), (sl, .inr (1, [.int 0, .ref dz, .int 0])), (kl, .inr (1, [.int 0, .ref dz, .int 0])), (ou, .inl (cJ, 1, .inr (.inl zl))), (od, .inl (cD, 1, .inr (.inr (.inr (.inl zd)))))] := hD
  refine W.widen (k := 119) (n := 756) (Nat.le_of_ble_eq_true rfl) (Nat.le_of_ble_eq_true rfl) ?_
  have hw : r_6 = 1 := hw
  subst hw
  refine lv_istore (lv' := [(6, .int 1), (5, .int 0), (4, .ref od), (3, .ref ou), (2, .ref mm), (1, .ref x), (0, .ref b)]) hx hb dL_law_683 hl (by decide) rfl (fun ls hl => ?_)
  refine lv_aload_n hx hb dL_law_685 rfl (lv_at hl 4 rfl) ?_
  refine lv_aload_n hx hb dL_law_686 rfl (lv_at hl 6 rfl) ?_
  refine lv_iload hx hb dL_law_687 (lv_at hl 1 rfl) ?_
  refine lv_iconst (v := 1) hx hb dL_law_689 (by decide) ?_
  refine lv_iadd hx hb dL_law_690 ?_
  refine lv_topi (fun y_7 ey_7 => ?_)
  obtain rfl : y_7 = 1 := ey_7.trans (by decide)
  refine va_sld hx hb hX hbl hbA hS (by unfold vp_in; decide) dL_law_691 ?_
  refine lv_topi (fun y_8 ey_8 => ?_)
  obtain rfl : a1 = y_8 := (ey_8.trans h_a1.symm).symm
  refine lv_aload_n hx hb dL_law_692 rfl (lv_at hl 6 rfl) ?_
  refine lv_iload hx hb dL_law_693 (lv_at hl 1 rfl) ?_
  refine lv_iconst (v := 2) hx hb dL_law_695 (by decide) ?_
  refine lv_iadd hx hb dL_law_696 ?_
  refine lv_topi (fun y_9 ey_9 => ?_)
  obtain rfl : y_9 = 2 := ey_9.trans (by decide)
  refine va_sld hx hb hX hbl hbA hS (by unfold vp_in; decide) dL_law_697 ?_
  refine lv_topi (fun y_10 ey_10 => ?_)
  obtain rfl : a2 = y_10 := (ey_10.trans h_a2.symm).symm
  have hPc := hP.sub (ws' := [(mm, .inr (10, [.int 0, .ref pl, .ref ig, .ref sl, .ref kl, .int 0, .int 0, .int 0])), (pl, .inr (1, [.int 0, .ref dz, .int 0])), (sl, .inr (1, [.int 0, .ref dz, .int 0])), (kl, .inr (1, [.int 0, .ref dz, .int 0]))]) [10, 11, 12, 13] rfl
  have hDc := hD.sub (ws' := [(mm, .inr (10, [.int 0, .ref pl, .ref ig, .ref sl, .ref kl, .int 0, .int 0, .int 0])), (pl, .inr (1, [.int 0, .ref dz, .int 0])), (sl, .inr (1, [.int 0, .ref dz, .int 0])), (kl, .inr (1, [.int 0, .ref dz, .int 0]))]) [10, 11, 12, 13] (by decide) rfl
  have hKc := hK.sub (tys' := []) [] rfl
  have hFc := va_free (wc := [(mm, .inr (10, [.int 0, .ref pl, .ref ig, .ref sl, .ref kl, .int 0, .int 0, .int 0])), (pl, .inr (1, [.int 0, .ref dz, .int 0])), (sl, .inr (1, [.int 0, .ref dz, .int 0])), (kl, .inr (1, [.int 0, .ref dz, .int 0]))]) hD hS hA [10, 11, 12, 13] rfl
  refine va_calli (va_runV (As := [.int a1, .int a2]) (rest := []) ⟨hx, hb, hml, hown, hts⟩ (c_X8_ofStack l dC dI mm pl ig sl kl dz a1 a2 _ ) (cwV 2 hts gL_law_X8_ofStack rfl rfl rfl (by decide +kernel) ⟨Nat.le_of_ble_eq_true rfl, Nat.le_of_ble_eq_true rfl⟩) ⟨pe_blind mo_bl, va_recv hKc hPc (ci := 10) (q0 := 0) rfl rfl, fun U hU hW => ⟨rfl, pr_mk hU hW hPc hKc hDc, mo_mk hW (lx_m hLX)⟩⟩ rfl rfl hl.1 rfl (lv_room (Nat.le_of_ble_eq_true rfl)) dL_law_698 ⟨Nat.le_of_ble_eq_true rfl, Nat.le_of_ble_eq_true rfl⟩) hS (fun q _ h => hFc q h) hFc (fun r_12 u_11 t H1 locs ht hvm hw hB hz1 hk1 hS => ?_)
  obtain ⟨hP1, hK1, hD1⟩ := hB
  rw [ht] at hP1
  obtain ⟨hP, hD⟩ := va_join (wr := [(pa, .inr (3, [.ref p_v, .int 0, .ref p_st, .ref p_ib, .ref p_di, .ref p_wa, .ref p_se, .ref p_vh, .ref p_re])), (b0, .inl (cI, 6, .inl zi)), (b1, .inl (cZ, 6, .inl zi)), (b4, .inl (cI, 4, .inl zi)), (p_v, .inl (cI, 4, .inl zi)), (p_st, .inl (cI, 4, .inl zi)), (p_ib, .inl (cZ, 4, .inl zi)), (p_di, .inl (cI, 4, .inl zi)), (p_wa, .inl (cI, 4, .inl zi)), (p_se, .inl (cI, 4, .inl zi)), (ou, .inl (cJ, 1, .inr (.inl zl))), (od, .inl (cD, 1, .inr (.inr (.inr (.inl zd)))))]) (w1 := [(mm, .inr (10, [.int 1, .ref pl, .ref ig, .ref sl, .ref kl, .int 0, .int 0, .int 0]))]) hP hD [10, 11, 12, 13] [0, 1, 2, 3, 4, 5, 6, 7, 8, 9, 14, 15] rfl rfl (by decide) (by decide) hk1 hFc hP1 hD1
  generalize H1 = H at hP hS ⊢
  have hP : va_P (dC, dI) vwCl [(pa, .inr (3, [.ref p_v, .int 0, .ref p_st, .ref p_ib, .ref p_di, .ref p_wa, .ref p_se, .ref p_vh, .ref p_re])), (b0, .inl (cI, 6, .inl zi)), (b1, .inl (cZ, 6, .inl zi)), (b4, .inl (cI, 4, .inl zi)), (p_v, .inl (cI, 4, .inl zi)), (p_st, .inl (cI, 4, .inl zi)), (p_ib, .inl (cZ, 4, .inl zi)), (p_di, .inl (cI, 4, .inl zi)), (p_wa, .inl (cI, 4, .inl zi)), (p_se, .inl (cI, 4, .inl zi)), (ou, .inl (cJ, 1, .inr (.inl zl))), (od, .inl (cD, 1, .inr (.inr (.inr (.inl zd))))), (mm, .inr (10, [.int 1, .ref pl, .ref ig, .ref sl, .ref kl, .int 0, .int 0, .int 0]))] H := hP
  have hD : va_D A [(pa, .inr (3, [.ref p_v, .int 0, .ref p_st, .ref p_ib, .ref p_di, .ref p_wa, .ref p_se, .ref p_vh, .ref p_re])), (b0, .inl (cI, 6, .inl zi)), (b1, .inl (cZ, 6, .inl zi)), (b4, .inl (cI, 4, .inl zi)), (p_v, .inl (cI, 4, .inl zi)), (p_st, .inl (cI, 4, .inl zi)), (p_ib, .inl (cZ, 4, .inl zi)), (p_di, .inl (cI, 4, .inl zi)), (p_wa, .inl (cI, 4, .inl zi)), (p_se, .inl (cI, 4, .inl zi)), (ou, .inl (cJ, 1, .inr (.inl zl))), (od, .inl (cD, 1, .inr (.inr (.inr (.inl zd))))), (mm, .inr (10, [.int 1, .ref pl, .ref ig, .ref sl, .ref kl, .int 0, .int 0, .int 0]))] := hD
  refine W.widen (k := 119) (n := 756) (Nat.le_refl _) (Nat.le_refl _) ?_
  have hw : r_12 = 0 := hw
  subst hw
  refine lv_istore (lv' := [(7, .int 0), (6, .int 1), (5, .int 0), (4, .ref od), (3, .ref ou), (2, .ref mm), (1, .ref x), (0, .ref b)]) hx hb dL_law_701 hl (by decide) rfl (fun ls hl => ?_)
  refine lv_aload_n hx hb dL_law_703 rfl (lv_at hl 5 rfl) ?_
  have hPc := hP.sub (ws' := [(mm, .inr (10, [.int 1, .ref pl, .ref ig, .ref sl, .ref kl, .int 0, .int 0, .int 0]))]) [12] rfl
  have hDc := hD.sub (ws' := [(mm, .inr (10, [.int 1, .ref pl, .ref ig, .ref sl, .ref kl, .int 0, .int 0, .int 0]))]) [12] (by decide) rfl
  have hKc := hK.sub (tys' := []) [] rfl
  have hFc := va_free (wc := [(mm, .inr (10, [.int 1, .ref pl, .ref ig, .ref sl, .ref kl, .int 0, .int 0, .int 0]))]) hD hS hA [12] rfl
  refine va_calli (va_runV (As := []) (rest := []) ⟨hx, hb, hml, hown, hts⟩ (c_X8_thrown l dC dI mm pl ig sl kl (1 : Int32) (0 : Int32) (0 : Int32) (0 : Int32) _ ) (cwV 0 hts gL_law_X8_thrown rfl rfl rfl (by decide +kernel) ⟨Nat.le_of_ble_eq_true rfl, Nat.le_of_ble_eq_true rfl⟩) ⟨pr_blind, va_recv hKc hPc (ci := 10) (q0 := 0) rfl rfl, fun U hU hW => ⟨rfl, pr_mk hU hW hPc hKc hDc⟩⟩ rfl rfl hl.1 rfl (lv_room (Nat.le_of_ble_eq_true rfl)) dL_law_704 ⟨Nat.le_of_ble_eq_true rfl, Nat.le_of_ble_eq_true rfl⟩) hS (fun q _ h => hFc q h) hFc (fun r_14 u_13 t H1 locs ht hvm hw hB hz1 hk1 hS => ?_)
  obtain ⟨hP1, hK1, hD1⟩ := hB
  rw [ht] at hP1
  obtain ⟨hP, hD⟩ := va_join (wr := [(pa, .inr (3, [.ref p_v, .int 0, .ref p_st, .ref p_ib, .ref p_di, .ref p_wa, .ref p_se, .ref p_vh, .ref p_re])), (b0, .inl (cI, 6, .inl zi)), (b1, .inl (cZ, 6, .inl zi)), (b4, .inl (cI, 4, .inl zi)), (p_v, .inl (cI, 4, .inl zi)), (p_st, .inl (cI, 4, .inl zi)), (p_ib, .inl (cZ, 4, .inl zi)), (p_di, .inl (cI, 4, .inl zi)), (p_wa, .inl (cI, 4, .inl zi)), (p_se, .inl (cI, 4, .inl zi)), (ou, .inl (cJ, 1, .inr (.inl zl))), (od, .inl (cD, 1, .inr (.inr (.inr (.inl zd)))))]) (w1 := [(mm, .inr (10, [.int 1, .ref pl, .ref ig, .ref sl, .ref kl, .int 0, .int 0, .int 0]))]) hP hD [12] [0, 1, 2, 3, 4, 5, 6, 7, 8, 9, 10, 11] rfl rfl (by decide) (by decide) hk1 hFc hP1 hD1
  generalize H1 = H at hP hS ⊢
  have hP : va_P (dC, dI) vwCl [(pa, .inr (3, [.ref p_v, .int 0, .ref p_st, .ref p_ib, .ref p_di, .ref p_wa, .ref p_se, .ref p_vh, .ref p_re])), (b0, .inl (cI, 6, .inl zi)), (b1, .inl (cZ, 6, .inl zi)), (b4, .inl (cI, 4, .inl zi)), (p_v, .inl (cI, 4, .inl zi)), (p_st, .inl (cI, 4, .inl zi)), (p_ib, .inl (cZ, 4, .inl zi)), (p_di, .inl (cI, 4, .inl zi)), (p_wa, .inl (cI, 4, .inl zi)), (p_se, .inl (cI, 4, .inl zi)), (ou, .inl (cJ, 1, .inr (.inl zl))), (od, .inl (cD, 1, .inr (.inr (.inr (.inl zd))))), (mm, .inr (10, [.int 1, .ref pl, .ref ig, .ref sl, .ref kl, .int 0, .int 0, .int 0]))] H := hP
  have hD : va_D A [(pa, .inr (3, [.ref p_v, .int 0, .ref p_st, .ref p_ib, .ref p_di, .ref p_wa, .ref p_se, .ref p_vh, .ref p_re])), (b0, .inl (cI, 6, .inl zi)), (b1, .inl (cZ, 6, .inl zi)), (b4, .inl (cI, 4, .inl zi)), (p_v, .inl (cI, 4, .inl zi)), (p_st, .inl (cI, 4, .inl zi)), (p_ib, .inl (cZ, 4, .inl zi)), (p_di, .inl (cI, 4, .inl zi)), (p_wa, .inl (cI, 4, .inl zi)), (p_se, .inl (cI, 4, .inl zi)), (ou, .inl (cJ, 1, .inr (.inl zl))), (od, .inl (cD, 1, .inr (.inr (.inr (.inl zd))))), (mm, .inr (10, [.int 1, .ref pl, .ref ig, .ref sl, .ref kl, .int 0, .int 0, .int 0]))] := hD
  refine W.widen (k := 119) (n := 756) (Nat.le_refl _) (Nat.le_refl _) ?_
  have hw : r_14 = 1 := hw
  subst hw
  refine lv_iload hx hb dL_law_707 (lv_at hl 1 rfl) ?_
  refine lv_icmp_eq (tgt := 714) hx hb dL_law_709 (by decide) (fun _ => ?_) (fun h9 => absurd h9 (by decide))
  refine lv_iload hx hb dL_law_714 (lv_at hl 1 rfl) ?_
  refine lv_if_ne (tgt := 731) hx hb dL_law_716 (by decide) (fun _ => ?_) (fun h9 => absurd h9 (by decide))
  refine lv_goto (tgt := 2007) hx hb dL_law_731 (by decide) ?_
  exact law_tail l C0 hAe hS (lv_sub hl [2, 7] rfl) (Nat.le_of_ble_eq_true rfl) (Nat.le_of_ble_eq_true rfl)

set_option maxHeartbeats 4000000 in
set_option maxRecDepth 100000 in
theorem case_firsts {p : Program} {e : Env} {s : State} {m : MethodId} {below : List Frame} {meth : Method} {c : Code} (l : Launch) (hfl : l.stackTraces = false) {b : Nat} {xs : Nat → Int32} (C0 : lw_At p s m meth c b 5 xs) {dz tc : Nat} {ad : Nat → Nat} (hLX : lx_ (fun q : Nat => s.heap.size ≤ q) dz tc ad s) (dC : Nat → ClassId) (dI : Nat → Nat → Nat) {x : Nat} {po : Nat} {tr : Nat} {sp : Nat} {bx : Nat} {b0 : Nat} {b1 : Nat} {b4 : Nat} {b6 : Nat} {pa : Nat} {p_v : Nat} {p_st : Nat} {p_ib : Nat} {p_di : Nat} {p_wa : Nat} {p_se : Nat} {p_vh : Nat} {p_re : Nat} {mm : Nat} {pl : Nat} {ig : Nat} {sl : Nat} {kl : Nat} {ou : Nat} {od : Nat} {cI : ClassId} {cZ : ClassId} {cJ : ClassId} {cD : ClassId} {H : Heap} {locs : List Loc} {ls : Array Slot} (hK : va_K (dC, dI) vwCl [(cI, .int), (cZ, .boolean), (cJ, .long), (cD, .double)] s) (hP : va_P (dC, dI) vwCl [(x, .inr (7, [.ref bx, .ref po, .ref tr, .ref pa, .ref sp])), (bx, .inr (2, [.ref b0, .ref b1, .int 0, .int 0, .ref b4, .int 0, .ref b6, .int 0, .int 0, .int 0, .int 0])), (pa, .inr (3, [.ref p_v, .int 0, .ref p_st, .ref p_ib, .ref p_di, .ref p_wa, .ref p_se, .ref p_vh, .ref p_re])), (b0, .inl (cI, 6, .inl zi)), (b1, .inl (cZ, 6, .inl zi)), (b4, .inl (cI, 4, .inl zi)), (p_v, .inl (cI, 4, .inl zi)), (p_st, .inl (cI, 4, .inl zi)), (p_ib, .inl (cZ, 4, .inl zi)), (p_di, .inl (cI, 4, .inl zi)), (p_wa, .inl (cI, 4, .inl zi)), (p_se, .inl (cI, 4, .inl zi)), (mm, .inr (10, [.int 0, .ref pl, .ref ig, .ref sl, .ref kl, .int 0, .int 0, .int 0])), (pl, .inr (1, [.int 0, .ref dz, .int 0])), (sl, .inr (1, [.int 0, .ref dz, .int 0])), (kl, .inr (1, [.int 0, .ref dz, .int 0])), (ou, .inl (cJ, 1, .inr (.inl zl))), (od, .inl (cD, 1, .inr (.inr (.inr (.inl zd)))))] H) (hD : va_D (fun q : Nat => s.heap.size ≤ q) [(x, .inr (7, [.ref bx, .ref po, .ref tr, .ref pa, .ref sp])), (bx, .inr (2, [.ref b0, .ref b1, .int 0, .int 0, .ref b4, .int 0, .ref b6, .int 0, .int 0, .int 0, .int 0])), (pa, .inr (3, [.ref p_v, .int 0, .ref p_st, .ref p_ib, .ref p_di, .ref p_wa, .ref p_se, .ref p_vh, .ref p_re])), (b0, .inl (cI, 6, .inl zi)), (b1, .inl (cZ, 6, .inl zi)), (b4, .inl (cI, 4, .inl zi)), (p_v, .inl (cI, 4, .inl zi)), (p_st, .inl (cI, 4, .inl zi)), (p_ib, .inl (cZ, 4, .inl zi)), (p_di, .inl (cI, 4, .inl zi)), (p_wa, .inl (cI, 4, .inl zi)), (p_se, .inl (cI, 4, .inl zi)), (mm, .inr (10, [.int 0, .ref pl, .ref ig, .ref sl, .ref kl, .int 0, .int 0, .int 0])), (pl, .inr (1, [.int 0, .ref dz, .int 0])), (sl, .inr (1, [.int 0, .ref dz, .int 0])), (kl, .inr (1, [.int 0, .ref dz, .int 0])), (ou, .inl (cJ, 1, .inr (.inl zl))), (od, .inl (cD, 1, .inr (.inr (.inr (.inl zd)))))]) (hS : va_S (fun q : Nat => s.heap.size ≤ q) s.heap H locs) (hl : lv_has ls 9 [(5, .int 0), (4, .ref od), (3, .ref ou), (2, .ref mm), (1, .ref x), (0, .ref b)]) : W p l e room_1 s m #[Value.ref b] below meth c H locs 118 750 (lw_Z below #[Value.ref b] s) (F0 m 734 ls []) := by
  obtain ⟨hx, hb, hr, hml, hown, hts0, hX, hbl, hlocks, hgv⟩ := id C0
  have hts : ∀ w ∈ lw_tbl, w.before #[Value.ref b] s = true := hts0
  have hbA : ¬ (fun q : Nat => s.heap.size ≤ q) b := Nat.not_le.mpr hbl
  have hA : ∀ q : Nat, s.heap.size ≤ q → (fun q : Nat => s.heap.size ≤ q) q := fun _ h => h
  generalize hAe : (fun q : Nat => s.heap.size ≤ q) = A at hD hS hbA hA hLX
  obtain ⟨a1, h_a1⟩ : ∃ z, z = xs ((1 : Int32).toNatClampNeg) := ⟨_, rfl⟩
  obtain ⟨a2, h_a2⟩ : ∃ z, z = xs ((2 : Int32).toNatClampNeg) := ⟨_, rfl⟩
  obtain ⟨a3, h_a3⟩ : ∃ z, z = xs ((3 : Int32).toNatClampNeg) := ⟨_, rfl⟩
  obtain ⟨a4, h_a4⟩ : ∃ z, z = xs ((4 : Int32).toNatClampNeg) := ⟨_, rfl⟩
  refine lv_aload_n hx hb dL_law_734 rfl (lv_at hl 4 rfl) ?_
  refine lv_aload_n hx hb dL_law_735 rfl (lv_at hl 5 rfl) ?_
  refine lv_iload hx hb dL_law_736 (lv_at hl 0 rfl) ?_
  refine lv_iconst (v := 1) hx hb dL_law_738 (by decide) ?_
  refine lv_iadd hx hb dL_law_739 ?_
  refine lv_topi (fun y_1 ey_1 => ?_)
  obtain rfl : y_1 = 1 := ey_1.trans (by decide)
  refine va_sld hx hb hX hbl hbA hS (by unfold vp_in; decide) dL_law_740 ?_
  refine lv_topi (fun y_2 ey_2 => ?_)
  obtain rfl : a1 = y_2 := (ey_2.trans h_a1.symm).symm
  refine lv_aload_n hx hb dL_law_741 rfl (lv_at hl 5 rfl) ?_
  refine lv_iload hx hb dL_law_742 (lv_at hl 0 rfl) ?_
  refine lv_iconst (v := 2) hx hb dL_law_744 (by decide) ?_
  refine lv_iadd hx hb dL_law_745 ?_
  refine lv_topi (fun y_3 ey_3 => ?_)
  obtain rfl : y_3 = 2 := ey_3.trans (by decide)
  refine va_sld hx hb hX hbl hbA hS (by unfold vp_in; decide) dL_law_746 ?_
  refine lv_topi (fun y_4 ey_4 => ?_)
  obtain rfl : a2 = y_4 := (ey_4.trans h_a2.symm).symm
  refine lv_aload_n hx hb dL_law_747 rfl (lv_at hl 2 rfl) ?_
  have hPc := hP.sub (ws' := [(x, .inr (7, [.ref bx, .ref po, .ref tr, .ref pa, .ref sp])), (bx, .inr (2, [.ref b0, .ref b1, .int 0, .int 0, .ref b4, .int 0, .ref b6, .int 0, .int 0, .int 0, .int 0]))]) [0, 1] rfl
  have hDc := hD.sub (ws' := [(x, .inr (7, [.ref bx, .ref po, .ref tr, .ref pa, .ref sp])), (bx, .inr (2, [.ref b0, .ref b1, .int 0, .int 0, .ref b4, .int 0, .ref b6, .int 0, .int 0, .int 0, .int 0]))]) [0, 1] (by decide) rfl
  have hKc := hK.sub (tys' := []) [] rfl
  have hFc := va_free (wc := [(x, .inr (7, [.ref bx, .ref po, .ref tr, .ref pa, .ref sp])), (bx, .inr (2, [.ref b0, .ref b1, .int 0, .int 0, .ref b4, .int 0, .ref b6, .int 0, .int 0, .int 0, .int 0]))]) hD hS hA [0, 1] rfl
  refine va_calli (vx_runSW (As := [.ref x, .int a1, .int a2, .ref ou]) (rest := []) ⟨hx, hb, hml, hown, hts⟩ (h0_L_firsts l hfl dC dI x po tr sp pa bx b0 b1 b4 b6 a1 a2 ou ((lx_s299 hLX).choose) ((lx_s299 hLX).choose_spec.choose) _ ) (vx_cwSW 4 hts gL_law_L_firsts rfl rfl rfl (by decide +kernel) ⟨Nat.le_of_ble_eq_true rfl, Nat.le_of_ble_eq_true rfl⟩) ⟨pn_blind (fun _ _ _ _ h => h), fun U hU hW => ⟨rfl, pr_mk hU hW hPc hKc hDc, xs_mk hU hW hS hFc (lx_xo hLX (lx_s299 hLX).choose_spec.choose_spec), trivial⟩⟩ rfl rfl hl.1 rfl (lv_room (Nat.le_of_ble_eq_true rfl)) dL_law_748 ⟨Nat.le_of_ble_eq_true rfl, Nat.le_of_ble_eq_true rfl⟩) hS (fun q _ h => hFc q h) hFc (fun r_6 u_5 t H1 locs ht hvm hw hB hz1 hk1 hS => ?_)
  obtain ⟨hP1, hK1, hD1⟩ := hB
  rw [ht] at hP1
  obtain ⟨hP, hD⟩ := va_join (wr := [(pa, .inr (3, [.ref p_v, .int 0, .ref p_st, .ref p_ib, .ref p_di, .ref p_wa, .ref p_se, .ref p_vh, .ref p_re])), (b0, .inl (cI, 6, .inl zi)), (b1, .inl (cZ, 6, .inl zi)), (b4, .inl (cI, 4, .inl zi)), (p_v, .inl (cI, 4, .inl zi)), (p_st, .inl (cI, 4, .inl zi)), (p_ib, .inl (cZ, 4, .inl zi)), (p_di, .inl (cI, 4, .inl zi)), (p_wa, .inl (cI, 4, .inl zi)), (p_se, .inl (cI, 4, .inl zi)), (mm, .inr (10, [.int 0, .ref pl, .ref ig, .ref sl, .ref kl, .int 0, .int 0, .int 0])), (pl, .inr (1, [.int 0, .ref dz, .int 0])), (sl, .inr (1, [.int 0, .ref dz, .int 0])), (kl, .inr (1, [.int 0, .ref dz, .int 0])), (ou, .inl (cJ, 1, .inr (.inl zl))), (od, .inl (cD, 1, .inr (.inr (.inr (.inl zd)))))]) (w1 := []) hP hD [0, 1] [2, 3, 4, 5, 6, 7, 8, 9, 10, 11, 12, 13, 14, 15, 16, 17] rfl rfl (by decide) (by decide) hk1 hFc hP1 hD1
  generalize H1 = H at hP hS ⊢
  have hP : va_P (dC, dI) vwCl [(pa, .inr (3, [.ref p_v, .int 0, .ref p_st, .ref p_ib, .ref p_di, .ref p_wa, .ref p_se, .ref p_vh, .ref p_re])), (b0, .inl (cI, 6, .inl zi)), (b1, .inl (cZ, 6, .inl zi)), (b4, .inl (cI, 4, .inl zi)), (p_v, .inl (cI, 4, .inl zi)), (p_st, .inl (cI, 4, .inl zi)), (p_ib, .inl (cZ, 4, .inl zi)), (p_di, .inl (cI, 4, .inl zi)), (p_wa, .inl (cI, 4, .inl zi)), (p_se, .inl (cI, 4, .inl zi)), (mm, .inr (10, [.int 0, .ref pl, .ref ig, .ref sl, .ref kl, .int 0, .int 0, .int 0])), (pl, .inr (1, [.int 0, .ref dz, .int 0])), (sl, .inr (1, [.int 0, .ref dz, .int 0])), (kl, .inr (1, [.int 0, .ref dz, .int 0])), (ou, .inl (cJ, 1, .inr (.inl zl))), (od, .inl (cD, 1, .inr (.inr (.inr (.inl zd)))))] H := hP
  have hD : va_D A [(pa, .inr (3, [.ref p_v, .int 0, .ref p_st, .ref p_ib, .ref p_di, .ref p_wa, .ref p_se, .ref p_vh, .ref p_re])), (b0, .inl (cI, 6, .inl zi)), (b1, .inl (cZ, 6, .inl zi)), (b4, .inl (cI, 4, .inl zi)), (p_v, .inl (cI, 4, .inl zi)), (p_st, .inl (cI, 4, .inl zi)), (p_ib, .inl (cZ, 4, .inl zi)), (p_di, .inl (cI, 4, .inl zi)), (p_wa, .inl (cI, 4, .inl zi)), (p_se, .inl (cI, 4, .inl zi)), (mm, .inr (10, [.int 0, .ref pl, .ref ig, .ref sl, .ref kl, .int 0, .int 0, .int 0])), (pl, .inr (1, [.int 0, .ref dz, .int 0])), (sl, .inr (1, [.int 0, .ref dz, .int 0])), (kl, .inr (1, [.int 0, .ref dz, .int 0])), (ou, .inl (cJ, 1, .inr (.inl zl))), (od, .inl (cD, 1, .inr (.inr (.inr (.inl zd)))))] := hD
  refine W.widen (k := 119) (n := 756) (Nat.le_of_ble_eq_true rfl) (Nat.le_of_ble_eq_true rfl) ?_
  have hw : r_6 = 1 := hw
  subst hw
  refine lv_istore (lv' := [(6, .int 1), (5, .int 0), (4, .ref od), (3, .ref ou), (2, .ref mm), (1, .ref x), (0, .ref b)]) hx hb dL_law_751 hl (by decide) rfl (fun ls hl => ?_)
  refine lv_aload_n hx hb dL_law_753 rfl (lv_at hl 4 rfl) ?_
  refine lv_aload_n hx hb dL_law_754 rfl (lv_at hl 6 rfl) ?_
  refine lv_iload hx hb dL_law_755 (lv_at hl 1 rfl) ?_
  refine lv_iconst (v := 1) hx hb dL_law_757 (by decide) ?_
  refine lv_iadd hx hb dL_law_758 ?_
  refine lv_topi (fun y_7 ey_7 => ?_)
  obtain rfl : y_7 = 1 := ey_7.trans (by decide)
  refine va_sld hx hb hX hbl hbA hS (by unfold vp_in; decide) dL_law_759 ?_
  refine lv_topi (fun y_8 ey_8 => ?_)
  obtain rfl : a1 = y_8 := (ey_8.trans h_a1.symm).symm
  refine lv_aload_n hx hb dL_law_760 rfl (lv_at hl 6 rfl) ?_
  refine lv_iload hx hb dL_law_761 (lv_at hl 1 rfl) ?_
  refine lv_iconst (v := 2) hx hb dL_law_763 (by decide) ?_
  refine lv_iadd hx hb dL_law_764 ?_
  refine lv_topi (fun y_9 ey_9 => ?_)
  obtain rfl : y_9 = 2 := ey_9.trans (by decide)
  refine va_sld hx hb hX hbl hbA hS (by unfold vp_in; decide) dL_law_765 ?_
  refine lv_topi (fun y_10 ey_10 => ?_)
  obtain rfl : a2 = y_10 := (ey_10.trans h_a2.symm).symm
  have hPc := hP.sub (ws' := [(mm, .inr (10, [.int 0, .ref pl, .ref ig, .ref sl, .ref kl, .int 0, .int 0, .int 0])), (pl, .inr (1, [.int 0, .ref dz, .int 0])), (sl, .inr (1, [.int 0, .ref dz, .int 0])), (kl, .inr (1, [.int 0, .ref dz, .int 0]))]) [10, 11, 12, 13] rfl
  have hDc := hD.sub (ws' := [(mm, .inr (10, [.int 0, .ref pl, .ref ig, .ref sl, .ref kl, .int 0, .int 0, .int 0])), (pl, .inr (1, [.int 0, .ref dz, .int 0])), (sl, .inr (1, [.int 0, .ref dz, .int 0])), (kl, .inr (1, [.int 0, .ref dz, .int 0]))]) [10, 11, 12, 13] (by decide) rfl
  have hKc := hK.sub (tys' := []) [] rfl
  have hFc := va_free (wc := [(mm, .inr (10, [.int 0, .ref pl, .ref ig, .ref sl, .ref kl, .int 0, .int 0, .int 0])), (pl, .inr (1, [.int 0, .ref dz, .int 0])), (sl, .inr (1, [.int 0, .ref dz, .int 0])), (kl, .inr (1, [.int 0, .ref dz, .int 0]))]) hD hS hA [10, 11, 12, 13] rfl
  refine va_calli (va_runV (As := [.int a1, .int a2]) (rest := []) ⟨hx, hb, hml, hown, hts⟩ (c_X8_firsts l dC dI mm pl ig sl kl dz a1 a2 _ ) (cwV 2 hts gL_law_X8_firsts rfl rfl rfl (by decide +kernel) ⟨Nat.le_of_ble_eq_true rfl, Nat.le_of_ble_eq_true rfl⟩) ⟨pe_blind mo_bl, va_recv hKc hPc (ci := 10) (q0 := 0) rfl rfl, fun U hU hW => ⟨rfl, pr_mk hU hW hPc hKc hDc, mo_mk hW (lx_m hLX)⟩⟩ rfl rfl hl.1 rfl (lv_room (Nat.le_of_ble_eq_true rfl)) dL_law_766 ⟨Nat.le_of_ble_eq_true rfl, Nat.le_of_ble_eq_true rfl⟩) hS (fun q _ h => hFc q h) hFc (fun r_12 u_11 t H1 locs ht hvm hw hB hz1 hk1 hS => ?_)
  obtain ⟨hP1, hK1, hD1⟩ := hB
  rw [ht] at hP1
  obtain ⟨hP, hD⟩ := va_join (wr := [(pa, .inr (3, [.ref p_v, .int 0, .ref p_st, .ref p_ib, .ref p_di, .ref p_wa, .ref p_se, .ref p_vh, .ref p_re])), (b0, .inl (cI, 6, .inl zi)), (b1, .inl (cZ, 6, .inl zi)), (b4, .inl (cI, 4, .inl zi)), (p_v, .inl (cI, 4, .inl zi)), (p_st, .inl (cI, 4, .inl zi)), (p_ib, .inl (cZ, 4, .inl zi)), (p_di, .inl (cI, 4, .inl zi)), (p_wa, .inl (cI, 4, .inl zi)), (p_se, .inl (cI, 4, .inl zi)), (ou, .inl (cJ, 1, .inr (.inl zl))), (od, .inl (cD, 1, .inr (.inr (.inr (.inl zd)))))]) (w1 := [(mm, .inr (10, [.int 1, .ref pl, .ref ig, .ref sl, .ref kl, .int 0, .int 0, .int 0]))]) hP hD [10, 11, 12, 13] [0, 1, 2, 3, 4, 5, 6, 7, 8, 9, 14, 15] rfl rfl (by decide) (by decide) hk1 hFc hP1 hD1
  generalize H1 = H at hP hS ⊢
  have hP : va_P (dC, dI) vwCl [(pa, .inr (3, [.ref p_v, .int 0, .ref p_st, .ref p_ib, .ref p_di, .ref p_wa, .ref p_se, .ref p_vh, .ref p_re])), (b0, .inl (cI, 6, .inl zi)), (b1, .inl (cZ, 6, .inl zi)), (b4, .inl (cI, 4, .inl zi)), (p_v, .inl (cI, 4, .inl zi)), (p_st, .inl (cI, 4, .inl zi)), (p_ib, .inl (cZ, 4, .inl zi)), (p_di, .inl (cI, 4, .inl zi)), (p_wa, .inl (cI, 4, .inl zi)), (p_se, .inl (cI, 4, .inl zi)), (ou, .inl (cJ, 1, .inr (.inl zl))), (od, .inl (cD, 1, .inr (.inr (.inr (.inl zd))))), (mm, .inr (10, [.int 1, .ref pl, .ref ig, .ref sl, .ref kl, .int 0, .int 0, .int 0]))] H := hP
  have hD : va_D A [(pa, .inr (3, [.ref p_v, .int 0, .ref p_st, .ref p_ib, .ref p_di, .ref p_wa, .ref p_se, .ref p_vh, .ref p_re])), (b0, .inl (cI, 6, .inl zi)), (b1, .inl (cZ, 6, .inl zi)), (b4, .inl (cI, 4, .inl zi)), (p_v, .inl (cI, 4, .inl zi)), (p_st, .inl (cI, 4, .inl zi)), (p_ib, .inl (cZ, 4, .inl zi)), (p_di, .inl (cI, 4, .inl zi)), (p_wa, .inl (cI, 4, .inl zi)), (p_se, .inl (cI, 4, .inl zi)), (ou, .inl (cJ, 1, .inr (.inl zl))), (od, .inl (cD, 1, .inr (.inr (.inr (.inl zd))))), (mm, .inr (10, [.int 1, .ref pl, .ref ig, .ref sl, .ref kl, .int 0, .int 0, .int 0]))] := hD
  refine W.widen (k := 119) (n := 756) (Nat.le_refl _) (Nat.le_refl _) ?_
  have hw : r_12 = 0 := hw
  subst hw
  refine lv_istore (lv' := [(7, .int 0), (6, .int 1), (5, .int 0), (4, .ref od), (3, .ref ou), (2, .ref mm), (1, .ref x), (0, .ref b)]) hx hb dL_law_769 hl (by decide) rfl (fun ls hl => ?_)
  refine lv_aload_n hx hb dL_law_771 rfl (lv_at hl 5 rfl) ?_
  have hPc := hP.sub (ws' := [(mm, .inr (10, [.int 1, .ref pl, .ref ig, .ref sl, .ref kl, .int 0, .int 0, .int 0]))]) [12] rfl
  have hDc := hD.sub (ws' := [(mm, .inr (10, [.int 1, .ref pl, .ref ig, .ref sl, .ref kl, .int 0, .int 0, .int 0]))]) [12] (by decide) rfl
  have hKc := hK.sub (tys' := []) [] rfl
  have hFc := va_free (wc := [(mm, .inr (10, [.int 1, .ref pl, .ref ig, .ref sl, .ref kl, .int 0, .int 0, .int 0]))]) hD hS hA [12] rfl
  refine va_calli (va_runV (As := []) (rest := []) ⟨hx, hb, hml, hown, hts⟩ (c_X8_thrown l dC dI mm pl ig sl kl (1 : Int32) (0 : Int32) (0 : Int32) (0 : Int32) _ ) (cwV 0 hts gL_law_X8_thrown rfl rfl rfl (by decide +kernel) ⟨Nat.le_of_ble_eq_true rfl, Nat.le_of_ble_eq_true rfl⟩) ⟨pr_blind, va_recv hKc hPc (ci := 10) (q0 := 0) rfl rfl, fun U hU hW => ⟨rfl, pr_mk hU hW hPc hKc hDc⟩⟩ rfl rfl hl.1 rfl (lv_room (Nat.le_of_ble_eq_true rfl)) dL_law_772 ⟨Nat.le_of_ble_eq_true rfl, Nat.le_of_ble_eq_true rfl⟩) hS (fun q _ h => hFc q h) hFc (fun r_14 u_13 t H1 locs ht hvm hw hB hz1 hk1 hS => ?_)
  obtain ⟨hP1, hK1, hD1⟩ := hB
  rw [ht] at hP1
  obtain ⟨hP, hD⟩ := va_join (wr := [(pa, .inr (3, [.ref p_v, .int 0, .ref p_st, .ref p_ib, .ref p_di, .ref p_wa, .ref p_se, .ref p_vh, .ref p_re])), (b0, .inl (cI, 6, .inl zi)), (b1, .inl (cZ, 6, .inl zi)), (b4, .inl (cI, 4, .inl zi)), (p_v, .inl (cI, 4, .inl zi)), (p_st, .inl (cI, 4, .inl zi)), (p_ib, .inl (cZ, 4, .inl zi)), (p_di, .inl (cI, 4, .inl zi)), (p_wa, .inl (cI, 4, .inl zi)), (p_se, .inl (cI, 4, .inl zi)), (ou, .inl (cJ, 1, .inr (.inl zl))), (od, .inl (cD, 1, .inr (.inr (.inr (.inl zd)))))]) (w1 := [(mm, .inr (10, [.int 1, .ref pl, .ref ig, .ref sl, .ref kl, .int 0, .int 0, .int 0]))]) hP hD [12] [0, 1, 2, 3, 4, 5, 6, 7, 8, 9, 10, 11] rfl rfl (by decide) (by decide) hk1 hFc hP1 hD1
  generalize H1 = H at hP hS ⊢
  have hP : va_P (dC, dI) vwCl [(pa, .inr (3, [.ref p_v, .int 0, .ref p_st, .ref p_ib, .ref p_di, .ref p_wa, .ref p_se, .ref p_vh, .ref p_re])), (b0, .inl (cI, 6, .inl zi)), (b1, .inl (cZ, 6, .inl zi)), (b4, .inl (cI, 4, .inl zi)), (p_v, .inl (cI, 4, .inl zi)), (p_st, .inl (cI, 4, .inl zi)), (p_ib, .inl (cZ, 4, .inl zi)), (p_di, .inl (cI, 4, .inl zi)), (p_wa, .inl (cI, 4, .inl zi)), (p_se, .inl (cI, 4, .inl zi)), (ou, .inl (cJ, 1, .inr (.inl zl))), (od, .inl (cD, 1, .inr (.inr (.inr (.inl zd))))), (mm, .inr (10, [.int 1, .ref pl, .ref ig, .ref sl, .ref kl, .int 0, .int 0, .int 0]))] H := hP
  have hD : va_D A [(pa, .inr (3, [.ref p_v, .int 0, .ref p_st, .ref p_ib, .ref p_di, .ref p_wa, .ref p_se, .ref p_vh, .ref p_re])), (b0, .inl (cI, 6, .inl zi)), (b1, .inl (cZ, 6, .inl zi)), (b4, .inl (cI, 4, .inl zi)), (p_v, .inl (cI, 4, .inl zi)), (p_st, .inl (cI, 4, .inl zi)), (p_ib, .inl (cZ, 4, .inl zi)), (p_di, .inl (cI, 4, .inl zi)), (p_wa, .inl (cI, 4, .inl zi)), (p_se, .inl (cI, 4, .inl zi)), (ou, .inl (cJ, 1, .inr (.inl zl))), (od, .inl (cD, 1, .inr (.inr (.inr (.inl zd))))), (mm, .inr (10, [.int 1, .ref pl, .ref ig, .ref sl, .ref kl, .int 0, .int 0, .int 0]))] := hD
  refine W.widen (k := 119) (n := 756) (Nat.le_refl _) (Nat.le_refl _) ?_
  have hw : r_14 = 1 := hw
  subst hw
  refine lv_iload hx hb dL_law_775 (lv_at hl 1 rfl) ?_
  refine lv_icmp_eq (tgt := 782) hx hb dL_law_777 (by decide) (fun _ => ?_) (fun h9 => absurd h9 (by decide))
  refine lv_iload hx hb dL_law_782 (lv_at hl 1 rfl) ?_
  refine lv_if_ne (tgt := 799) hx hb dL_law_784 (by decide) (fun _ => ?_) (fun h9 => absurd h9 (by decide))
  refine lv_goto (tgt := 2007) hx hb dL_law_799 (by decide) ?_
  exact law_tail l C0 hAe hS (lv_sub hl [2, 7] rfl) (Nat.le_of_ble_eq_true rfl) (Nat.le_of_ble_eq_true rfl)

set_option maxHeartbeats 4000000 in
set_option maxRecDepth 100000 in
theorem case_points {p : Program} {e : Env} {s : State} {m : MethodId} {below : List Frame} {meth : Method} {c : Code} (l : Launch) (hfl : l.stackTraces = false) {b : Nat} {xs : Nat → Int32} (C0 : lw_At p s m meth c b 5 xs) {dz tc : Nat} {ad : Nat → Nat} (hLX : lx_ (fun q : Nat => s.heap.size ≤ q) dz tc ad s) (dC : Nat → ClassId) (dI : Nat → Nat → Nat) {x : Nat} {po : Nat} {tr : Nat} {sp : Nat} {bx : Nat} {b0 : Nat} {b1 : Nat} {b4 : Nat} {b6 : Nat} {pa : Nat} {p_v : Nat} {p_st : Nat} {p_ib : Nat} {p_di : Nat} {p_wa : Nat} {p_se : Nat} {p_vh : Nat} {p_re : Nat} {mm : Nat} {pl : Nat} {ig : Nat} {sl : Nat} {kl : Nat} {ou : Nat} {od : Nat} {cI : ClassId} {cZ : ClassId} {cJ : ClassId} {cD : ClassId} {H : Heap} {locs : List Loc} {ls : Array Slot} (hK : va_K (dC, dI) vwCl [(cI, .int), (cZ, .boolean), (cJ, .long), (cD, .double)] s) (hP : va_P (dC, dI) vwCl [(x, .inr (7, [.ref bx, .ref po, .ref tr, .ref pa, .ref sp])), (bx, .inr (2, [.ref b0, .ref b1, .int 0, .int 0, .ref b4, .int 0, .ref b6, .int 0, .int 0, .int 0, .int 0])), (pa, .inr (3, [.ref p_v, .int 0, .ref p_st, .ref p_ib, .ref p_di, .ref p_wa, .ref p_se, .ref p_vh, .ref p_re])), (b0, .inl (cI, 6, .inl zi)), (b1, .inl (cZ, 6, .inl zi)), (b4, .inl (cI, 4, .inl zi)), (p_v, .inl (cI, 4, .inl zi)), (p_st, .inl (cI, 4, .inl zi)), (p_ib, .inl (cZ, 4, .inl zi)), (p_di, .inl (cI, 4, .inl zi)), (p_wa, .inl (cI, 4, .inl zi)), (p_se, .inl (cI, 4, .inl zi)), (mm, .inr (10, [.int 0, .ref pl, .ref ig, .ref sl, .ref kl, .int 0, .int 0, .int 0])), (pl, .inr (1, [.int 0, .ref dz, .int 0])), (sl, .inr (1, [.int 0, .ref dz, .int 0])), (kl, .inr (1, [.int 0, .ref dz, .int 0])), (ou, .inl (cJ, 1, .inr (.inl zl))), (od, .inl (cD, 1, .inr (.inr (.inr (.inl zd)))))] H) (hD : va_D (fun q : Nat => s.heap.size ≤ q) [(x, .inr (7, [.ref bx, .ref po, .ref tr, .ref pa, .ref sp])), (bx, .inr (2, [.ref b0, .ref b1, .int 0, .int 0, .ref b4, .int 0, .ref b6, .int 0, .int 0, .int 0, .int 0])), (pa, .inr (3, [.ref p_v, .int 0, .ref p_st, .ref p_ib, .ref p_di, .ref p_wa, .ref p_se, .ref p_vh, .ref p_re])), (b0, .inl (cI, 6, .inl zi)), (b1, .inl (cZ, 6, .inl zi)), (b4, .inl (cI, 4, .inl zi)), (p_v, .inl (cI, 4, .inl zi)), (p_st, .inl (cI, 4, .inl zi)), (p_ib, .inl (cZ, 4, .inl zi)), (p_di, .inl (cI, 4, .inl zi)), (p_wa, .inl (cI, 4, .inl zi)), (p_se, .inl (cI, 4, .inl zi)), (mm, .inr (10, [.int 0, .ref pl, .ref ig, .ref sl, .ref kl, .int 0, .int 0, .int 0])), (pl, .inr (1, [.int 0, .ref dz, .int 0])), (sl, .inr (1, [.int 0, .ref dz, .int 0])), (kl, .inr (1, [.int 0, .ref dz, .int 0])), (ou, .inl (cJ, 1, .inr (.inl zl))), (od, .inl (cD, 1, .inr (.inr (.inr (.inl zd)))))]) (hS : va_S (fun q : Nat => s.heap.size ≤ q) s.heap H locs) (hl : lv_has ls 9 [(5, .int 0), (4, .ref od), (3, .ref ou), (2, .ref mm), (1, .ref x), (0, .ref b)]) : W p l e room_1 s m #[Value.ref b] below meth c H locs 118 750 (lw_Z below #[Value.ref b] s) (F0 m 802 ls []) := by
  obtain ⟨hx, hb, hr, hml, hown, hts0, hX, hbl, hlocks, hgv⟩ := id C0
  have hts : ∀ w ∈ lw_tbl, w.before #[Value.ref b] s = true := hts0
  have hbA : ¬ (fun q : Nat => s.heap.size ≤ q) b := Nat.not_le.mpr hbl
  have hA : ∀ q : Nat, s.heap.size ≤ q → (fun q : Nat => s.heap.size ≤ q) q := fun _ h => h
  generalize hAe : (fun q : Nat => s.heap.size ≤ q) = A at hD hS hbA hA hLX
  obtain ⟨a1, h_a1⟩ : ∃ z, z = xs ((1 : Int32).toNatClampNeg) := ⟨_, rfl⟩
  obtain ⟨a2, h_a2⟩ : ∃ z, z = xs ((2 : Int32).toNatClampNeg) := ⟨_, rfl⟩
  obtain ⟨a3, h_a3⟩ : ∃ z, z = xs ((3 : Int32).toNatClampNeg) := ⟨_, rfl⟩
  obtain ⟨a4, h_a4⟩ : ∃ z, z = xs ((4 : Int32).toNatClampNeg) := ⟨_, rfl⟩
  refine lv_aload_n hx hb dL_law_802 rfl (lv_at hl 4 rfl) ?_
  refine lv_aload_n hx hb dL_law_803 rfl (lv_at hl 5 rfl) ?_
  refine lv_iload hx hb dL_law_804 (lv_at hl 0 rfl) ?_
  refine lv_iconst (v := 1) hx hb dL_law_806 (by decide) ?_
  refine lv_iadd hx hb dL_law_807 ?_
  refine lv_topi (fun y_1 ey_1 => ?_)
  obtain rfl : y_1 = 1 := ey_1.trans (by decide)
  refine va_sld hx hb hX hbl hbA hS (by unfold vp_in; decide) dL_law_808 ?_
  refine lv_topi (fun y_2 ey_2 => ?_)
  obtain rfl : a1 = y_2 := (ey_2.trans h_a1.symm).symm
  refine lv_aload_n hx hb dL_law_809 rfl (lv_at hl 5 rfl) ?_
  refine lv_iload hx hb dL_law_810 (lv_at hl 0 rfl) ?_
  refine lv_iconst (v := 2) hx hb dL_law_812 (by decide) ?_
  refine lv_iadd hx hb dL_law_813 ?_
  refine lv_topi (fun y_3 ey_3 => ?_)
  obtain rfl : y_3 = 2 := ey_3.trans (by decide)
  refine va_sld hx hb hX hbl hbA hS (by unfold vp_in; decide) dL_law_814 ?_
  refine lv_topi (fun y_4 ey_4 => ?_)
  obtain rfl : a2 = y_4 := (ey_4.trans h_a2.symm).symm
  refine lv_aload hx hb dL_law_815 (lv_at hl 1 rfl) ?_
  have hPc := hP.sub (ws' := [(x, .inr (7, [.ref bx, .ref po, .ref tr, .ref pa, .ref sp])), (bx, .inr (2, [.ref b0, .ref b1, .int 0, .int 0, .ref b4, .int 0, .ref b6, .int 0, .int 0, .int 0, .int 0]))]) [0, 1] rfl
  have hDc := hD.sub (ws' := [(x, .inr (7, [.ref bx, .ref po, .ref tr, .ref pa, .ref sp])), (bx, .inr (2, [.ref b0, .ref b1, .int 0, .int 0, .ref b4, .int 0, .ref b6, .int 0, .int 0, .int 0, .int 0]))]) [0, 1] (by decide) rfl
  have hKc := hK.sub (tys' := []) [] rfl
  have hFc := va_free (wc := [(x, .inr (7, [.ref bx, .ref po, .ref tr, .ref pa, .ref sp])), (bx, .inr (2, [.ref b0, .ref b1, .int 0, .int 0, .ref b4, .int 0, .ref b6, .int 0, .int 0, .int 0, .int 0]))]) hD hS hA [0, 1] rfl
  refine va_calli (vx_runSW (As := [.ref x, .int a1, .int a2, .ref od]) (rest := []) ⟨hx, hb, hml, hown, hts⟩ (h0_L_points l hfl dC dI x po tr sp pa bx b0 b1 b4 b6 a1 a2 od ((lx_s299 hLX).choose) ((lx_s299 hLX).choose_spec.choose) _ ) (vx_cwSW 4 hts gL_law_L_points rfl rfl rfl (by decide +kernel) ⟨Nat.le_of_ble_eq_true rfl, Nat.le_of_ble_eq_true rfl⟩) ⟨pn_blind (fun _ _ _ _ h => h), fun U hU hW => ⟨rfl, pr_mk hU hW hPc hKc hDc, xs_mk hU hW hS hFc (lx_xo hLX (lx_s299 hLX).choose_spec.choose_spec), trivial⟩⟩ rfl rfl hl.1 rfl (lv_room (Nat.le_of_ble_eq_true rfl)) dL_law_817 ⟨Nat.le_of_ble_eq_true rfl, Nat.le_of_ble_eq_true rfl⟩) hS (fun q _ h => hFc q h) hFc (fun r_6 u_5 t H1 locs ht hvm hw hB hz1 hk1 hS => ?_)
  obtain ⟨hP1, hK1, hD1⟩ := hB
  rw [ht] at hP1
  obtain ⟨hP, hD⟩ := va_join (wr := [(pa, .inr (3, [.ref p_v, .int 0, .ref p_st, .ref p_ib, .ref p_di, .ref p_wa, .ref p_se, .ref p_vh, .ref p_re])), (b0, .inl (cI, 6, .inl zi)), (b1, .inl (cZ, 6, .inl zi)), (b4, .inl (cI, 4, .inl zi)), (p_v, .inl (cI, 4, .inl zi)), (p_st, .inl (cI, 4, .inl zi)), (p_ib, .inl (cZ, 4, .inl zi)), (p_di, .inl (cI, 4, .inl zi)), (p_wa, .inl (cI, 4, .inl zi)), (p_se, .inl (cI, 4, .inl zi)), (mm, .inr (10, [.int 0, .ref pl, .ref ig, .ref sl, .ref kl, .int 0, .int 0, .int 0])), (pl, .inr (1, [.int 0, .ref dz, .int 0])), (sl, .inr (1, [.int 0, .ref dz, .int 0])), (kl, .inr (1, [.int 0, .ref dz, .int 0])), (ou, .inl (cJ, 1, .inr (.inl zl))), (od, .inl (cD, 1, .inr (.inr (.inr (.inl zd)))))]) (w1 := []) hP hD [0, 1] [2, 3, 4, 5, 6, 7, 8, 9, 10, 11, 12, 13, 14, 15, 16, 17] rfl rfl (by decide) (by decide) hk1 hFc hP1 hD1
  generalize H1 = H at hP hS ⊢
  have hP : va_P (dC, dI) vwCl [(pa, .inr (3, [.ref p_v, .int 0, .ref p_st, .ref p_ib, .ref p_di, .ref p_wa, .ref p_se, .ref p_vh, .ref p_re])), (b0, .inl (cI, 6, .inl zi)), (b1, .inl (cZ, 6, .inl zi)), (b4, .inl (cI, 4, .inl zi)), (p_v, .inl (cI, 4, .inl zi)), (p_st, .inl (cI, 4, .inl zi)), (p_ib, .inl (cZ, 4, .inl zi)), (p_di, .inl (cI, 4, .inl zi)), (p_wa, .inl (cI, 4, .inl zi)), (p_se, .inl (cI, 4, .inl zi)), (mm, .inr (10, [.int 0, .ref pl, .ref ig, .ref sl, .ref kl, .int 0, .int 0, .int 0])), (pl, .inr (1, [.int 0, .ref dz, .int 0])), (sl, .inr (1, [.int 0, .ref dz, .int 0])), (kl, .inr (1, [.int 0, .ref dz, .int 0])), (ou, .inl (cJ, 1, .inr (.inl zl))), (od, .inl (cD, 1, .inr (.inr (.inr (.inl zd)))))] H := hP
  have hD : va_D A [(pa, .inr (3, [.ref p_v, .int 0, .ref p_st, .ref p_ib, .ref p_di, .ref p_wa, .ref p_se, .ref p_vh, .ref p_re])), (b0, .inl (cI, 6, .inl zi)), (b1, .inl (cZ, 6, .inl zi)), (b4, .inl (cI, 4, .inl zi)), (p_v, .inl (cI, 4, .inl zi)), (p_st, .inl (cI, 4, .inl zi)), (p_ib, .inl (cZ, 4, .inl zi)), (p_di, .inl (cI, 4, .inl zi)), (p_wa, .inl (cI, 4, .inl zi)), (p_se, .inl (cI, 4, .inl zi)), (mm, .inr (10, [.int 0, .ref pl, .ref ig, .ref sl, .ref kl, .int 0, .int 0, .int 0])), (pl, .inr (1, [.int 0, .ref dz, .int 0])), (sl, .inr (1, [.int 0, .ref dz, .int 0])), (kl, .inr (1, [.int 0, .ref dz, .int 0])), (ou, .inl (cJ, 1, .inr (.inl zl))), (od, .inl (cD, 1, .inr (.inr (.inr (.inl zd)))))] := hD
  refine W.widen (k := 119) (n := 756) (Nat.le_of_ble_eq_true rfl) (Nat.le_of_ble_eq_true rfl) ?_
  have hw : r_6 = 1 := hw
  subst hw
  refine lv_istore (lv' := [(6, .int 1), (5, .int 0), (4, .ref od), (3, .ref ou), (2, .ref mm), (1, .ref x), (0, .ref b)]) hx hb dL_law_820 hl (by decide) rfl (fun ls hl => ?_)
  refine lv_aload_n hx hb dL_law_822 rfl (lv_at hl 4 rfl) ?_
  refine lv_aload_n hx hb dL_law_823 rfl (lv_at hl 6 rfl) ?_
  refine lv_iload hx hb dL_law_824 (lv_at hl 1 rfl) ?_
  refine lv_iconst (v := 1) hx hb dL_law_826 (by decide) ?_
  refine lv_iadd hx hb dL_law_827 ?_
  refine lv_topi (fun y_7 ey_7 => ?_)
  obtain rfl : y_7 = 1 := ey_7.trans (by decide)
  refine va_sld hx hb hX hbl hbA hS (by unfold vp_in; decide) dL_law_828 ?_
  refine lv_topi (fun y_8 ey_8 => ?_)
  obtain rfl : a1 = y_8 := (ey_8.trans h_a1.symm).symm
  refine lv_aload_n hx hb dL_law_829 rfl (lv_at hl 6 rfl) ?_
  refine lv_iload hx hb dL_law_830 (lv_at hl 1 rfl) ?_
  refine lv_iconst (v := 2) hx hb dL_law_832 (by decide) ?_
  refine lv_iadd hx hb dL_law_833 ?_
  refine lv_topi (fun y_9 ey_9 => ?_)
  obtain rfl : y_9 = 2 := ey_9.trans (by decide)
  refine va_sld hx hb hX hbl hbA hS (by unfold vp_in; decide) dL_law_834 ?_
  refine lv_topi (fun y_10 ey_10 => ?_)
  obtain rfl : a2 = y_10 := (ey_10.trans h_a2.symm).symm
  have hPc := hP.sub (ws' := [(mm, .inr (10, [.int 0, .ref pl, .ref ig, .ref sl, .ref kl, .int 0, .int 0, .int 0])), (pl, .inr (1, [.int 0, .ref dz, .int 0])), (sl, .inr (1, [.int 0, .ref dz, .int 0])), (kl, .inr (1, [.int 0, .ref dz, .int 0]))]) [10, 11, 12, 13] rfl
  have hDc := hD.sub (ws' := [(mm, .inr (10, [.int 0, .ref pl, .ref ig, .ref sl, .ref kl, .int 0, .int 0, .int 0])), (pl, .inr (1, [.int 0, .ref dz, .int 0])), (sl, .inr (1, [.int 0, .ref dz, .int 0])), (kl, .inr (1, [.int 0, .ref dz, .int 0]))]) [10, 11, 12, 13] (by decide) rfl
  have hKc := hK.sub (tys' := []) [] rfl
  have hFc := va_free (wc := [(mm, .inr (10, [.int 0, .ref pl, .ref ig, .ref sl, .ref kl, .int 0, .int 0, .int 0])), (pl, .inr (1, [.int 0, .ref dz, .int 0])), (sl, .inr (1, [.int 0, .ref dz, .int 0])), (kl, .inr (1, [.int 0, .ref dz, .int 0]))]) hD hS hA [10, 11, 12, 13] rfl
  refine va_calld (va_runV (As := [.int a1, .int a2]) (rest := []) ⟨hx, hb, hml, hown, hts⟩ (c_X8_points l dC dI mm pl ig sl kl dz a1 a2 _ ) (cwV 2 hts gL_law_X8_points rfl rfl rfl (by decide +kernel) ⟨Nat.le_of_ble_eq_true rfl, Nat.le_of_ble_eq_true rfl⟩) ⟨pe_blind mo_bl, va_recv hKc hPc (ci := 10) (q0 := 0) rfl rfl, fun U hU hW => ⟨rfl, pr_mk hU hW hPc hKc hDc, mo_mk hW (lx_m hLX)⟩⟩ rfl rfl hl.1 rfl (lv_room (Nat.le_of_ble_eq_true rfl)) dL_law_835 ⟨Nat.le_of_ble_eq_true rfl, Nat.le_of_ble_eq_true rfl⟩) hS (fun q _ h => hFc q h) hFc (fun r_12 u_11 t H1 locs ht hvm hw hB hz1 hk1 hS => ?_)
  obtain ⟨hP1, hK1, hD1⟩ := hB
  rw [ht] at hP1
  obtain ⟨hP, hD⟩ := va_join (wr := [(pa, .inr (3, [.ref p_v, .int 0, .ref p_st, .ref p_ib, .ref p_di, .ref p_wa, .ref p_se, .ref p_vh, .ref p_re])), (b0, .inl (cI, 6, .inl zi)), (b1, .inl (cZ, 6, .inl zi)), (b4, .inl (cI, 4, .inl zi)), (p_v, .inl (cI, 4, .inl zi)), (p_st, .inl (cI, 4, .inl zi)), (p_ib, .inl (cZ, 4, .inl zi)), (p_di, .inl (cI, 4, .inl zi)), (p_wa, .inl (cI, 4, .inl zi)), (p_se, .inl (cI, 4, .inl zi)), (ou, .inl (cJ, 1, .inr (.inl zl))), (od, .inl (cD, 1, .inr (.inr (.inr (.inl zd)))))]) (w1 := [(mm, .inr (10, [.int 1, .ref pl, .ref ig, .ref sl, .ref kl, .int 0, .int 0, .int 0]))]) hP hD [10, 11, 12, 13] [0, 1, 2, 3, 4, 5, 6, 7, 8, 9, 14, 15] rfl rfl (by decide) (by decide) hk1 hFc hP1 hD1
  generalize H1 = H at hP hS ⊢
  have hP : va_P (dC, dI) vwCl [(pa, .inr (3, [.ref p_v, .int 0, .ref p_st, .ref p_ib, .ref p_di, .ref p_wa, .ref p_se, .ref p_vh, .ref p_re])), (b0, .inl (cI, 6, .inl zi)), (b1, .inl (cZ, 6, .inl zi)), (b4, .inl (cI, 4, .inl zi)), (p_v, .inl (cI, 4, .inl zi)), (p_st, .inl (cI, 4, .inl zi)), (p_ib, .inl (cZ, 4, .inl zi)), (p_di, .inl (cI, 4, .inl zi)), (p_wa, .inl (cI, 4, .inl zi)), (p_se, .inl (cI, 4, .inl zi)), (ou, .inl (cJ, 1, .inr (.inl zl))), (od, .inl (cD, 1, .inr (.inr (.inr (.inl zd))))), (mm, .inr (10, [.int 1, .ref pl, .ref ig, .ref sl, .ref kl, .int 0, .int 0, .int 0]))] H := hP
  have hD : va_D A [(pa, .inr (3, [.ref p_v, .int 0, .ref p_st, .ref p_ib, .ref p_di, .ref p_wa, .ref p_se, .ref p_vh, .ref p_re])), (b0, .inl (cI, 6, .inl zi)), (b1, .inl (cZ, 6, .inl zi)), (b4, .inl (cI, 4, .inl zi)), (p_v, .inl (cI, 4, .inl zi)), (p_st, .inl (cI, 4, .inl zi)), (p_ib, .inl (cZ, 4, .inl zi)), (p_di, .inl (cI, 4, .inl zi)), (p_wa, .inl (cI, 4, .inl zi)), (p_se, .inl (cI, 4, .inl zi)), (ou, .inl (cJ, 1, .inr (.inl zl))), (od, .inl (cD, 1, .inr (.inr (.inr (.inl zd))))), (mm, .inr (10, [.int 1, .ref pl, .ref ig, .ref sl, .ref kl, .int 0, .int 0, .int 0]))] := hD
  refine W.widen (k := 119) (n := 756) (Nat.le_refl _) (Nat.le_refl _) ?_
  have hw : r_12 = (FP.i2d 0) := hw
  subst hw
  refine lv_dstore (lv' := [(7, .double (FP.i2d 0)), (6, .int 1), (5, .int 0), (4, .ref od), (3, .ref ou), (2, .ref mm), (1, .ref x), (0, .ref b)]) hx hb dL_law_838 hl (by decide) rfl (fun ls hl => ?_)
  refine lv_aload_n hx hb dL_law_840 rfl (lv_at hl 5 rfl) ?_
  have hPc := hP.sub (ws' := [(mm, .inr (10, [.int 1, .ref pl, .ref ig, .ref sl, .ref kl, .int 0, .int 0, .int 0]))]) [12] rfl
  have hDc := hD.sub (ws' := [(mm, .inr (10, [.int 1, .ref pl, .ref ig, .ref sl, .ref kl, .int 0, .int 0, .int 0]))]) [12] (by decide) rfl
  have hKc := hK.sub (tys' := []) [] rfl
  have hFc := va_free (wc := [(mm, .inr (10, [.int 1, .ref pl, .ref ig, .ref sl, .ref kl, .int 0, .int 0, .int 0]))]) hD hS hA [12] rfl
  refine va_calli (va_runV (As := []) (rest := []) ⟨hx, hb, hml, hown, hts⟩ (c_X8_thrown l dC dI mm pl ig sl kl (1 : Int32) (0 : Int32) (0 : Int32) (0 : Int32) _ ) (cwV 0 hts gL_law_X8_thrown rfl rfl rfl (by decide +kernel) ⟨Nat.le_of_ble_eq_true rfl, Nat.le_of_ble_eq_true rfl⟩) ⟨pr_blind, va_recv hKc hPc (ci := 10) (q0 := 0) rfl rfl, fun U hU hW => ⟨rfl, pr_mk hU hW hPc hKc hDc⟩⟩ rfl rfl hl.1 rfl (lv_room (Nat.le_of_ble_eq_true rfl)) dL_law_841 ⟨Nat.le_of_ble_eq_true rfl, Nat.le_of_ble_eq_true rfl⟩) hS (fun q _ h => hFc q h) hFc (fun r_14 u_13 t H1 locs ht hvm hw hB hz1 hk1 hS => ?_)
  obtain ⟨hP1, hK1, hD1⟩ := hB
  rw [ht] at hP1
  obtain ⟨hP, hD⟩ := va_join (wr := [(pa, .inr (3, [.ref p_v, .int 0, .ref p_st, .ref p_ib, .ref p_di, .ref p_wa, .ref p_se, .ref p_vh, .ref p_re])), (b0, .inl (cI, 6, .inl zi)), (b1, .inl (cZ, 6, .inl zi)), (b4, .inl (cI, 4, .inl zi)), (p_v, .inl (cI, 4, .inl zi)), (p_st, .inl (cI, 4, .inl zi)), (p_ib, .inl (cZ, 4, .inl zi)), (p_di, .inl (cI, 4, .inl zi)), (p_wa, .inl (cI, 4, .inl zi)), (p_se, .inl (cI, 4, .inl zi)), (ou, .inl (cJ, 1, .inr (.inl zl))), (od, .inl (cD, 1, .inr (.inr (.inr (.inl zd)))))]) (w1 := [(mm, .inr (10, [.int 1, .ref pl, .ref ig, .ref sl, .ref kl, .int 0, .int 0, .int 0]))]) hP hD [12] [0, 1, 2, 3, 4, 5, 6, 7, 8, 9, 10, 11] rfl rfl (by decide) (by decide) hk1 hFc hP1 hD1
  generalize H1 = H at hP hS ⊢
  have hP : va_P (dC, dI) vwCl [(pa, .inr (3, [.ref p_v, .int 0, .ref p_st, .ref p_ib, .ref p_di, .ref p_wa, .ref p_se, .ref p_vh, .ref p_re])), (b0, .inl (cI, 6, .inl zi)), (b1, .inl (cZ, 6, .inl zi)), (b4, .inl (cI, 4, .inl zi)), (p_v, .inl (cI, 4, .inl zi)), (p_st, .inl (cI, 4, .inl zi)), (p_ib, .inl (cZ, 4, .inl zi)), (p_di, .inl (cI, 4, .inl zi)), (p_wa, .inl (cI, 4, .inl zi)), (p_se, .inl (cI, 4, .inl zi)), (ou, .inl (cJ, 1, .inr (.inl zl))), (od, .inl (cD, 1, .inr (.inr (.inr (.inl zd))))), (mm, .inr (10, [.int 1, .ref pl, .ref ig, .ref sl, .ref kl, .int 0, .int 0, .int 0]))] H := hP
  have hD : va_D A [(pa, .inr (3, [.ref p_v, .int 0, .ref p_st, .ref p_ib, .ref p_di, .ref p_wa, .ref p_se, .ref p_vh, .ref p_re])), (b0, .inl (cI, 6, .inl zi)), (b1, .inl (cZ, 6, .inl zi)), (b4, .inl (cI, 4, .inl zi)), (p_v, .inl (cI, 4, .inl zi)), (p_st, .inl (cI, 4, .inl zi)), (p_ib, .inl (cZ, 4, .inl zi)), (p_di, .inl (cI, 4, .inl zi)), (p_wa, .inl (cI, 4, .inl zi)), (p_se, .inl (cI, 4, .inl zi)), (ou, .inl (cJ, 1, .inr (.inl zl))), (od, .inl (cD, 1, .inr (.inr (.inr (.inl zd))))), (mm, .inr (10, [.int 1, .ref pl, .ref ig, .ref sl, .ref kl, .int 0, .int 0, .int 0]))] := hD
  refine W.widen (k := 119) (n := 756) (Nat.le_refl _) (Nat.le_refl _) ?_
  have hw : r_14 = 1 := hw
  subst hw
  refine lv_iload hx hb dL_law_844 (lv_at hl 1 rfl) ?_
  refine lv_icmp_eq (tgt := 851) hx hb dL_law_846 (by decide) (fun _ => ?_) (fun h9 => absurd h9 (by decide))
  refine lv_iload hx hb dL_law_851 (lv_at hl 1 rfl) ?_
  refine lv_if_ne (tgt := 888) hx hb dL_law_853 (by decide) (fun _ => ?_) (fun h9 => absurd h9 (by decide))
  refine lv_goto (tgt := 2007) hx hb dL_law_888 (by decide) ?_
  exact law_tail l C0 hAe hS (lv_sub hl [2, 7] rfl) (Nat.le_of_ble_eq_true rfl) (Nat.le_of_ble_eq_true rfl)

set_option maxHeartbeats 4000000 in
set_option maxRecDepth 100000 in
theorem case_pair {p : Program} {e : Env} {s : State} {m : MethodId} {below : List Frame} {meth : Method} {c : Code} (l : Launch) (hfl : l.stackTraces = false) {b : Nat} {xs : Nat → Int32} (C0 : lw_At p s m meth c b 5 xs) {dz tc : Nat} {ad : Nat → Nat} (hLX : lx_ (fun q : Nat => s.heap.size ≤ q) dz tc ad s) (dC : Nat → ClassId) (dI : Nat → Nat → Nat) {x : Nat} {po : Nat} {tr : Nat} {sp : Nat} {bx : Nat} {b0 : Nat} {b1 : Nat} {b4 : Nat} {b6 : Nat} {pa : Nat} {p_v : Nat} {p_st : Nat} {p_ib : Nat} {p_di : Nat} {p_wa : Nat} {p_se : Nat} {p_vh : Nat} {p_re : Nat} {mm : Nat} {pl : Nat} {ig : Nat} {sl : Nat} {kl : Nat} {ou : Nat} {od : Nat} {cI : ClassId} {cZ : ClassId} {cJ : ClassId} {cD : ClassId} {H : Heap} {locs : List Loc} {ls : Array Slot} (hK : va_K (dC, dI) vwCl [(cI, .int), (cZ, .boolean), (cJ, .long), (cD, .double)] s) (hP : va_P (dC, dI) vwCl [(x, .inr (7, [.ref bx, .ref po, .ref tr, .ref pa, .ref sp])), (bx, .inr (2, [.ref b0, .ref b1, .int 0, .int 0, .ref b4, .int 0, .ref b6, .int 0, .int 0, .int 0, .int 0])), (pa, .inr (3, [.ref p_v, .int 0, .ref p_st, .ref p_ib, .ref p_di, .ref p_wa, .ref p_se, .ref p_vh, .ref p_re])), (b0, .inl (cI, 6, .inl zi)), (b1, .inl (cZ, 6, .inl zi)), (b4, .inl (cI, 4, .inl zi)), (p_v, .inl (cI, 4, .inl zi)), (p_st, .inl (cI, 4, .inl zi)), (p_ib, .inl (cZ, 4, .inl zi)), (p_di, .inl (cI, 4, .inl zi)), (p_wa, .inl (cI, 4, .inl zi)), (p_se, .inl (cI, 4, .inl zi)), (mm, .inr (10, [.int 0, .ref pl, .ref ig, .ref sl, .ref kl, .int 0, .int 0, .int 0])), (pl, .inr (1, [.int 0, .ref dz, .int 0])), (sl, .inr (1, [.int 0, .ref dz, .int 0])), (kl, .inr (1, [.int 0, .ref dz, .int 0])), (ou, .inl (cJ, 1, .inr (.inl zl))), (od, .inl (cD, 1, .inr (.inr (.inr (.inl zd)))))] H) (hD : va_D (fun q : Nat => s.heap.size ≤ q) [(x, .inr (7, [.ref bx, .ref po, .ref tr, .ref pa, .ref sp])), (bx, .inr (2, [.ref b0, .ref b1, .int 0, .int 0, .ref b4, .int 0, .ref b6, .int 0, .int 0, .int 0, .int 0])), (pa, .inr (3, [.ref p_v, .int 0, .ref p_st, .ref p_ib, .ref p_di, .ref p_wa, .ref p_se, .ref p_vh, .ref p_re])), (b0, .inl (cI, 6, .inl zi)), (b1, .inl (cZ, 6, .inl zi)), (b4, .inl (cI, 4, .inl zi)), (p_v, .inl (cI, 4, .inl zi)), (p_st, .inl (cI, 4, .inl zi)), (p_ib, .inl (cZ, 4, .inl zi)), (p_di, .inl (cI, 4, .inl zi)), (p_wa, .inl (cI, 4, .inl zi)), (p_se, .inl (cI, 4, .inl zi)), (mm, .inr (10, [.int 0, .ref pl, .ref ig, .ref sl, .ref kl, .int 0, .int 0, .int 0])), (pl, .inr (1, [.int 0, .ref dz, .int 0])), (sl, .inr (1, [.int 0, .ref dz, .int 0])), (kl, .inr (1, [.int 0, .ref dz, .int 0])), (ou, .inl (cJ, 1, .inr (.inl zl))), (od, .inl (cD, 1, .inr (.inr (.inr (.inl zd)))))]) (hS : va_S (fun q : Nat => s.heap.size ≤ q) s.heap H locs) (hl : lv_has ls 9 [(5, .int 0), (4, .ref od), (3, .ref ou), (2, .ref mm), (1, .ref x), (0, .ref b)]) : W p l e room_1 s m #[Value.ref b] below meth c H locs 118 750 (lw_Z below #[Value.ref b] s) (F0 m 891 ls []) := by
  obtain ⟨hx, hb, hr, hml, hown, hts0, hX, hbl, hlocks, hgv⟩ := id C0
  have hts : ∀ w ∈ lw_tbl, w.before #[Value.ref b] s = true := hts0
  have hbA : ¬ (fun q : Nat => s.heap.size ≤ q) b := Nat.not_le.mpr hbl
  have hA : ∀ q : Nat, s.heap.size ≤ q → (fun q : Nat => s.heap.size ≤ q) q := fun _ h => h
  generalize hAe : (fun q : Nat => s.heap.size ≤ q) = A at hD hS hbA hA hLX
  obtain ⟨a1, h_a1⟩ : ∃ z, z = xs ((1 : Int32).toNatClampNeg) := ⟨_, rfl⟩
  obtain ⟨a2, h_a2⟩ : ∃ z, z = xs ((2 : Int32).toNatClampNeg) := ⟨_, rfl⟩
  obtain ⟨a3, h_a3⟩ : ∃ z, z = xs ((3 : Int32).toNatClampNeg) := ⟨_, rfl⟩
  obtain ⟨a4, h_a4⟩ : ∃ z, z = xs ((4 : Int32).toNatClampNeg) := ⟨_, rfl⟩
  refine lv_aload_n hx hb dL_law_891 rfl (lv_at hl 4 rfl) ?_
  refine lv_aload_n hx hb dL_law_892 rfl (lv_at hl 5 rfl) ?_
  refine lv_iload hx hb dL_law_893 (lv_at hl 0 rfl) ?_
  refine lv_iconst (v := 1) hx hb dL_law_895 (by decide) ?_
  refine lv_iadd hx hb dL_law_896 ?_
  refine lv_topi (fun y_1 ey_1 => ?_)
  obtain rfl : y_1 = 1 := ey_1.trans (by decide)
  refine va_sld hx hb hX hbl hbA hS (by unfold vp_in; decide) dL_law_897 ?_
  refine lv_topi (fun y_2 ey_2 => ?_)
  obtain rfl : a1 = y_2 := (ey_2.trans h_a1.symm).symm
  refine lv_aload_n hx hb dL_law_898 rfl (lv_at hl 5 rfl) ?_
  refine lv_iload hx hb dL_law_899 (lv_at hl 0 rfl) ?_
  refine lv_iconst (v := 2) hx hb dL_law_901 (by decide) ?_
  refine lv_iadd hx hb dL_law_902 ?_
  refine lv_topi (fun y_3 ey_3 => ?_)
  obtain rfl : y_3 = 2 := ey_3.trans (by decide)
  refine va_sld hx hb hX hbl hbA hS (by unfold vp_in; decide) dL_law_903 ?_
  refine lv_topi (fun y_4 ey_4 => ?_)
  obtain rfl : a2 = y_4 := (ey_4.trans h_a2.symm).symm
  refine lv_aload_n hx hb dL_law_904 rfl (lv_at hl 5 rfl) ?_
  refine lv_iload hx hb dL_law_905 (lv_at hl 0 rfl) ?_
  refine lv_iconst (v := 3) hx hb dL_law_907 (by decide) ?_
  refine lv_iadd hx hb dL_law_908 ?_
  refine lv_topi (fun y_5 ey_5 => ?_)
  obtain rfl : y_5 = 3 := ey_5.trans (by decide)
  refine va_sld hx hb hX hbl hbA hS (by unfold vp_in; decide) dL_law_909 ?_
  refine lv_topi (fun y_6 ey_6 => ?_)
  obtain rfl : a3 = y_6 := (ey_6.trans h_a3.symm).symm
  refine lv_aload_n hx hb dL_law_910 rfl (lv_at hl 5 rfl) ?_
  refine lv_iload hx hb dL_law_911 (lv_at hl 0 rfl) ?_
  refine lv_iconst (v := 4) hx hb dL_law_913 (by decide) ?_
  refine lv_iadd hx hb dL_law_914 ?_
  refine lv_topi (fun y_7 ey_7 => ?_)
  obtain rfl : y_7 = 4 := ey_7.trans (by decide)
  refine va_sld hx hb hX hbl hbA hS (by unfold vp_in; decide) dL_law_915 ?_
  refine lv_topi (fun y_8 ey_8 => ?_)
  obtain rfl : a4 = y_8 := (ey_8.trans h_a4.symm).symm
  refine lv_if_eq (tgt := 923) hx hb dL_law_916 (by decide) (fun hc_9 => ?_) (fun hc_9 => ?_)
  · refine lv_iconst (v := 0) hx hb dL_law_923 (by decide) ?_
    refine lv_aload_n hx hb dL_law_924 rfl (lv_at hl 2 rfl) ?_
    have hPc := hP.sub (ws' := [(x, .inr (7, [.ref bx, .ref po, .ref tr, .ref pa, .ref sp])), (bx, .inr (2, [.ref b0, .ref b1, .int 0, .int 0, .ref b4, .int 0, .ref b6, .int 0, .int 0, .int 0, .int 0]))]) [0, 1] rfl
    have hDc := hD.sub (ws' := [(x, .inr (7, [.ref bx, .ref po, .ref tr, .ref pa, .ref sp])), (bx, .inr (2, [.ref b0, .ref b1, .int 0, .int 0, .ref b4, .int 0, .ref b6, .int 0, .int 0, .int 0, .int 0]))]) [0, 1] (by decide) rfl
    have hKc := hK.sub (tys' := []) [] rfl
    have hFc := va_free (wc := [(x, .inr (7, [.ref bx, .ref po, .ref tr, .ref pa, .ref sp])), (bx, .inr (2, [.ref b0, .ref b1, .int 0, .int 0, .ref b4, .int 0, .ref b6, .int 0, .int 0, .int 0, .int 0]))]) hD hS hA [0, 1] rfl
    refine va_calli (vx_runSW (As := [.ref x, .int a1, .int a2, .int a3, .int 0, .ref ou]) (rest := []) ⟨hx, hb, hml, hown, hts⟩ (h0_L_pair l hfl dC dI x po tr sp pa bx b0 b1 b4 b6 a1 a2 a3 (0 : Int32) ou ((lx_s299 hLX).choose) ((lx_s299 hLX).choose_spec.choose) _ ) (vx_cwSW 6 hts gL_law_L_pair rfl rfl rfl (by decide +kernel) ⟨Nat.le_of_ble_eq_true rfl, Nat.le_of_ble_eq_true rfl⟩) ⟨pn_blind (fun _ _ _ _ h => h), fun U hU hW => ⟨rfl, pr_mk hU hW hPc hKc hDc, xs_mk hU hW hS hFc (lx_xo hLX (lx_s299 hLX).choose_spec.choose_spec), trivial⟩⟩ rfl rfl hl.1 rfl (lv_room (Nat.le_of_ble_eq_true rfl)) dL_law_925 ⟨Nat.le_of_ble_eq_true rfl, Nat.le_of_ble_eq_true rfl⟩) hS (fun q _ h => hFc q h) hFc (fun r_11 u_10 t H1 locs ht hvm hw hB hz1 hk1 hS => ?_)
    obtain ⟨hP1, hK1, hD1⟩ := hB
    rw [ht] at hP1
    obtain ⟨hP, hD⟩ := va_join (wr := [(pa, .inr (3, [.ref p_v, .int 0, .ref p_st, .ref p_ib, .ref p_di, .ref p_wa, .ref p_se, .ref p_vh, .ref p_re])), (b0, .inl (cI, 6, .inl zi)), (b1, .inl (cZ, 6, .inl zi)), (b4, .inl (cI, 4, .inl zi)), (p_v, .inl (cI, 4, .inl zi)), (p_st, .inl (cI, 4, .inl zi)), (p_ib, .inl (cZ, 4, .inl zi)), (p_di, .inl (cI, 4, .inl zi)), (p_wa, .inl (cI, 4, .inl zi)), (p_se, .inl (cI, 4, .inl zi)), (mm, .inr (10, [.int 0, .ref pl, .ref ig, .ref sl, .ref kl, .int 0, .int 0, .int 0])), (pl, .inr (1, [.int 0, .ref dz, .int 0])), (sl, .inr (1, [.int 0, .ref dz, .int 0])), (kl, .inr (1, [.int 0, .ref dz, .int 0])), (ou, .inl (cJ, 1, .inr (.inl zl))), (od, .inl (cD, 1, .inr (.inr (.inr (.inl zd)))))]) (w1 := []) hP hD [0, 1] [2, 3, 4, 5, 6, 7, 8, 9, 10, 11, 12, 13, 14, 15, 16, 17] rfl rfl (by decide) (by decide) hk1 hFc hP1 hD1
    generalize H1 = H at hP hS ⊢
    have hP : va_P (dC, dI) vwCl [(pa, .inr (3, [.ref p_v, .int 0, .ref p_st, .ref p_ib, .ref p_di, .ref p_wa, .ref p_se, .ref p_vh, .ref p_re])), (b0, .inl (cI, 6, .inl zi)), (b1, .inl (cZ, 6, .inl zi)), (b4, .inl (cI, 4, .inl zi)), (p_v, .inl (cI, 4, .inl zi)), (p_st, .inl (cI, 4, .inl zi)), (p_ib, .inl (cZ, 4, .inl zi)), (p_di, .inl (cI, 4, .inl zi)), (p_wa, .inl (cI, 4, .inl zi)), (p_se, .inl (cI, 4, .inl zi)), (mm, .inr (10, [.int 0, .ref pl, .ref ig, .ref sl, .ref kl, .int 0, .int 0, .int 0])), (pl, .inr (1, [.int 0, .ref dz, .int 0])), (sl, .inr (1, [.int 0, .ref dz, .int 0])), (kl, .inr (1, [.int 0, .ref dz, .int 0])), (ou, .inl (cJ, 1, .inr (.inl zl))), (od, .inl (cD, 1, .inr (.inr (.inr (.inl zd)))))] H := hP
    have hD : va_D A [(pa, .inr (3, [.ref p_v, .int 0, .ref p_st, .ref p_ib, .ref p_di, .ref p_wa, .ref p_se, .ref p_vh, .ref p_re])), (b0, .inl (cI, 6, .inl zi)), (b1, .inl (cZ, 6, .inl zi)), (b4, .inl (cI, 4, .inl zi)), (p_v, .inl (cI, 4, .inl zi)), (p_st, .inl (cI, 4, .inl zi)), (p_ib, .inl (cZ, 4, .inl zi)), (p_di, .inl (cI, 4, .inl zi)), (p_wa, .inl (cI, 4, .inl zi)), (p_se, .inl (cI, 4, .inl zi)), (mm, .inr (10, [.int 0, .ref pl, .ref ig, .ref sl, .ref kl, .int 0, .int 0, .int 0])), (pl, .inr (1, [.int 0, .ref dz, .int 0])), (sl, .inr (1, [.int 0, .ref dz, .int 0])), (kl, .inr (1, [.int 0, .ref dz, .int 0])), (ou, .inl (cJ, 1, .inr (.inl zl))), (od, .inl (cD, 1, .inr (.inr (.inr (.inl zd)))))] := hD
    refine W.widen (k := 119) (n := 756) (Nat.le_of_ble_eq_true rfl) (Nat.le_of_ble_eq_true rfl) ?_
    have hw : r_11 = 1 := hw
    subst hw
    refine lv_istore (lv' := [(6, .int 1), (5, .int 0), (4, .ref od), (3, .ref ou), (2, .ref mm), (1, .ref x), (0, .ref b)]) hx hb dL_law_928 hl (by decide) rfl (fun ls hl => ?_)
    refine lv_aload_n hx hb dL_law_930 rfl (lv_at hl 4 rfl) ?_
    refine lv_aload_n hx hb dL_law_931 rfl (lv_at hl 6 rfl) ?_
    refine lv_iload hx hb dL_law_932 (lv_at hl 1 rfl) ?_
    refine lv_iconst (v := 1) hx hb dL_law_934 (by decide) ?_
    refine lv_iadd hx hb dL_law_935 ?_
    refine lv_topi (fun y_12 ey_12 => ?_)
    obtain rfl : y_12 = 1 := ey_12.trans (by decide)
    refine va_sld hx hb hX hbl hbA hS (by unfold vp_in; decide) dL_law_936 ?_
    refine lv_topi (fun y_13 ey_13 => ?_)
    obtain rfl : a1 = y_13 := (ey_13.trans h_a1.symm).symm
    refine lv_aload_n hx hb dL_law_937 rfl (lv_at hl 6 rfl) ?_
    refine lv_iload hx hb dL_law_938 (lv_at hl 1 rfl) ?_
    refine lv_iconst (v := 2) hx hb dL_law_940 (by decide) ?_
    refine lv_iadd hx hb dL_law_941 ?_
    refine lv_topi (fun y_14 ey_14 => ?_)
    obtain rfl : y_14 = 2 := ey_14.trans (by decide)
    refine va_sld hx hb hX hbl hbA hS (by unfold vp_in; decide) dL_law_942 ?_
    refine lv_topi (fun y_15 ey_15 => ?_)
    obtain rfl : a2 = y_15 := (ey_15.trans h_a2.symm).symm
    refine lv_aload_n hx hb dL_law_943 rfl (lv_at hl 6 rfl) ?_
    refine lv_iload hx hb dL_law_944 (lv_at hl 1 rfl) ?_
    refine lv_iconst (v := 3) hx hb dL_law_946 (by decide) ?_
    refine lv_iadd hx hb dL_law_947 ?_
    refine lv_topi (fun y_16 ey_16 => ?_)
    obtain rfl : y_16 = 3 := ey_16.trans (by decide)
    refine va_sld hx hb hX hbl hbA hS (by unfold vp_in; decide) dL_law_948 ?_
    refine lv_topi (fun y_17 ey_17 => ?_)
    obtain rfl : a3 = y_17 := (ey_17.trans h_a3.symm).symm
    refine lv_aload_n hx hb dL_law_949 rfl (lv_at hl 6 rfl) ?_
    refine lv_iload hx hb dL_law_950 (lv_at hl 1 rfl) ?_
    refine lv_iconst (v := 4) hx hb dL_law_952 (by decide) ?_
    refine lv_iadd hx hb dL_law_953 ?_
    refine lv_topi (fun y_18 ey_18 => ?_)
    obtain rfl : y_18 = 4 := ey_18.trans (by decide)
    refine va_sld hx hb hX hbl hbA hS (by unfold vp_in; decide) dL_law_954 ?_
    refine lv_topi (fun y_19 ey_19 => ?_)
    obtain rfl : a4 = y_19 := (ey_19.trans h_a4.symm).symm
    refine lv_if_eq (tgt := 962) hx hb dL_law_955 (by decide) (fun _ => ?_) (fun h9 => (h9 hc_9).elim)
    refine lv_iconst (v := 0) hx hb dL_law_962 (by decide) ?_
    have hPc := hP.sub (ws' := [(mm, .inr (10, [.int 0, .ref pl, .ref ig, .ref sl, .ref kl, .int 0, .int 0, .int 0])), (pl, .inr (1, [.int 0, .ref dz, .int 0])), (sl, .inr (1, [.int 0, .ref dz, .int 0])), (kl, .inr (1, [.int 0, .ref dz, .int 0]))]) [10, 11, 12, 13] rfl
    have hDc := hD.sub (ws' := [(mm, .inr (10, [.int 0, .ref pl, .ref ig, .ref sl, .ref kl, .int 0, .int 0, .int 0])), (pl, .inr (1, [.int 0, .ref dz, .int 0])), (sl, .inr (1, [.int 0, .ref dz, .int 0])), (kl, .inr (1, [.int 0, .ref dz, .int 0]))]) [10, 11, 12, 13] (by decide) rfl
    have hKc := hK.sub (tys' := []) [] rfl
    have hFc := va_free (wc := [(mm, .inr (10, [.int 0, .ref pl, .ref ig, .ref sl, .ref kl, .int 0, .int 0, .int 0])), (pl, .inr (1, [.int 0, .ref dz, .int 0])), (sl, .inr (1, [.int 0, .ref dz, .int 0])), (kl, .inr (1, [.int 0, .ref dz, .int 0]))]) hD hS hA [10, 11, 12, 13] rfl
    refine va_calli (va_runV (As := [.int a1, .int a2, .int a3, .int 0]) (rest := []) ⟨hx, hb, hml, hown, hts⟩ (c_X8_pair l dC dI mm pl ig sl kl dz a1 a2 a3 (0 : Int32) _ ) (cwV 4 hts gL_law_X8_pair rfl rfl rfl (by decide +kernel) ⟨Nat.le_of_ble_eq_true rfl, Nat.le_of_ble_eq_true rfl⟩) ⟨pe_blind mo_bl, va_recv hKc hPc (ci := 10) (q0 := 0) rfl rfl, fun U hU hW => ⟨rfl, pr_mk hU hW hPc hKc hDc, mo_mk hW (lx_m hLX)⟩⟩ rfl rfl hl.1 rfl (lv_room (Nat.le_of_ble_eq_true rfl)) dL_law_963 ⟨Nat.le_of_ble_eq_true rfl, Nat.le_of_ble_eq_true rfl⟩) hS (fun q _ h => hFc q h) hFc (fun r_21 u_20 t H1 locs ht hvm hw hB hz1 hk1 hS => ?_)
    obtain ⟨hP1, hK1, hD1⟩ := hB
    rw [ht] at hP1
    obtain ⟨hP, hD⟩ := va_join (wr := [(pa, .inr (3, [.ref p_v, .int 0, .ref p_st, .ref p_ib, .ref p_di, .ref p_wa, .ref p_se, .ref p_vh, .ref p_re])), (b0, .inl (cI, 6, .inl zi)), (b1, .inl (cZ, 6, .inl zi)), (b4, .inl (cI, 4, .inl zi)), (p_v, .inl (cI, 4, .inl zi)), (p_st, .inl (cI, 4, .inl zi)), (p_ib, .inl (cZ, 4, .inl zi)), (p_di, .inl (cI, 4, .inl zi)), (p_wa, .inl (cI, 4, .inl zi)), (p_se, .inl (cI, 4, .inl zi)), (ou, .inl (cJ, 1, .inr (.inl zl))), (od, .inl (cD, 1, .inr (.inr (.inr (.inl zd)))))]) (w1 := [(mm, .inr (10, [.int 1, .ref pl, .ref ig, .ref sl, .ref kl, .int 0, .int 0, .int 0]))]) hP hD [10, 11, 12, 13] [0, 1, 2, 3, 4, 5, 6, 7, 8, 9, 14, 15] rfl rfl (by decide) (by decide) hk1 hFc hP1 hD1
    generalize H1 = H at hP hS ⊢
    have hP : va_P (dC, dI) vwCl [(pa, .inr (3, [.ref p_v, .int 0, .ref p_st, .ref p_ib, .ref p_di, .ref p_wa, .ref p_se, .ref p_vh, .ref p_re])), (b0, .inl (cI, 6, .inl zi)), (b1, .inl (cZ, 6, .inl zi)), (b4, .inl (cI, 4, .inl zi)), (p_v, .inl (cI, 4, .inl zi)), (p_st, .inl (cI, 4, .inl zi)), (p_ib, .inl (cZ, 4, .inl zi)), (p_di, .inl (cI, 4, .inl zi)), (p_wa, .inl (cI, 4, .inl zi)), (p_se, .inl (cI, 4, .inl zi)), (ou, .inl (cJ, 1, .inr (.inl zl))), (od, .inl (cD, 1, .inr (.inr (.inr (.inl zd))))), (mm, .inr (10, [.int 1, .ref pl, .ref ig, .ref sl, .ref kl, .int 0, .int 0, .int 0]))] H := hP
    have hD : va_D A [(pa, .inr (3, [.ref p_v, .int 0, .ref p_st, .ref p_ib, .ref p_di, .ref p_wa, .ref p_se, .ref p_vh, .ref p_re])), (b0, .inl (cI, 6, .inl zi)), (b1, .inl (cZ, 6, .inl zi)), (b4, .inl (cI, 4, .inl zi)), (p_v, .inl (cI, 4, .inl zi)), (p_st, .inl (cI, 4, .inl zi)), (p_ib, .inl (cZ, 4, .inl zi)), (p_di, .inl (cI, 4, .inl zi)), (p_wa, .inl (cI, 4, .inl zi)), (p_se, .inl (cI, 4, .inl zi)), (ou, .inl (cJ, 1, .inr (.inl zl))), (od, .inl (cD, 1, .inr (.inr (.inr (.inl zd))))), (mm, .inr (10, [.int 1, .ref pl, .ref ig, .ref sl, .ref kl, .int 0, .int 0, .int 0]))] := hD
    refine W.widen (k := 119) (n := 756) (Nat.le_refl _) (Nat.le_refl _) ?_
    have hw : r_21 = 0 := hw
    subst hw
    refine lv_istore (lv' := [(7, .int 0), (6, .int 1), (5, .int 0), (4, .ref od), (3, .ref ou), (2, .ref mm), (1, .ref x), (0, .ref b)]) hx hb dL_law_966 hl (by decide) rfl (fun ls hl => ?_)
    refine lv_aload_n hx hb dL_law_968 rfl (lv_at hl 5 rfl) ?_
    have hPc := hP.sub (ws' := [(mm, .inr (10, [.int 1, .ref pl, .ref ig, .ref sl, .ref kl, .int 0, .int 0, .int 0]))]) [12] rfl
    have hDc := hD.sub (ws' := [(mm, .inr (10, [.int 1, .ref pl, .ref ig, .ref sl, .ref kl, .int 0, .int 0, .int 0]))]) [12] (by decide) rfl
    have hKc := hK.sub (tys' := []) [] rfl
    have hFc := va_free (wc := [(mm, .inr (10, [.int 1, .ref pl, .ref ig, .ref sl, .ref kl, .int 0, .int 0, .int 0]))]) hD hS hA [12] rfl
    refine va_calli (va_runV (As := []) (rest := []) ⟨hx, hb, hml, hown, hts⟩ (c_X8_thrown l dC dI mm pl ig sl kl (1 : Int32) (0 : Int32) (0 : Int32) (0 : Int32) _ ) (cwV 0 hts gL_law_X8_thrown rfl rfl rfl (by decide +kernel) ⟨Nat.le_of_ble_eq_true rfl, Nat.le_of_ble_eq_true rfl⟩) ⟨pr_blind, va_recv hKc hPc (ci := 10) (q0 := 0) rfl rfl, fun U hU hW => ⟨rfl, pr_mk hU hW hPc hKc hDc⟩⟩ rfl rfl hl.1 rfl (lv_room (Nat.le_of_ble_eq_true rfl)) dL_law_969 ⟨Nat.le_of_ble_eq_true rfl, Nat.le_of_ble_eq_true rfl⟩) hS (fun q _ h => hFc q h) hFc (fun r_23 u_22 t H1 locs ht hvm hw hB hz1 hk1 hS => ?_)
    obtain ⟨hP1, hK1, hD1⟩ := hB
    rw [ht] at hP1
    obtain ⟨hP, hD⟩ := va_join (wr := [(pa, .inr (3, [.ref p_v, .int 0, .ref p_st, .ref p_ib, .ref p_di, .ref p_wa, .ref p_se, .ref p_vh, .ref p_re])), (b0, .inl (cI, 6, .inl zi)), (b1, .inl (cZ, 6, .inl zi)), (b4, .inl (cI, 4, .inl zi)), (p_v, .inl (cI, 4, .inl zi)), (p_st, .inl (cI, 4, .inl zi)), (p_ib, .inl (cZ, 4, .inl zi)), (p_di, .inl (cI, 4, .inl zi)), (p_wa, .inl (cI, 4, .inl zi)), (p_se, .inl (cI, 4, .inl zi)), (ou, .inl (cJ, 1, .inr (.inl zl))), (od, .inl (cD, 1, .inr (.inr (.inr (.inl zd)))))]) (w1 := [(mm, .inr (10, [.int 1, .ref pl, .ref ig, .ref sl, .ref kl, .int 0, .int 0, .int 0]))]) hP hD [12] [0, 1, 2, 3, 4, 5, 6, 7, 8, 9, 10, 11] rfl rfl (by decide) (by decide) hk1 hFc hP1 hD1
    generalize H1 = H at hP hS ⊢
    have hP : va_P (dC, dI) vwCl [(pa, .inr (3, [.ref p_v, .int 0, .ref p_st, .ref p_ib, .ref p_di, .ref p_wa, .ref p_se, .ref p_vh, .ref p_re])), (b0, .inl (cI, 6, .inl zi)), (b1, .inl (cZ, 6, .inl zi)), (b4, .inl (cI, 4, .inl zi)), (p_v, .inl (cI, 4, .inl zi)), (p_st, .inl (cI, 4, .inl zi)), (p_ib, .inl (cZ, 4, .inl zi)), (p_di, .inl (cI, 4, .inl zi)), (p_wa, .inl (cI, 4, .inl zi)), (p_se, .inl (cI, 4, .inl zi)), (ou, .inl (cJ, 1, .inr (.inl zl))), (od, .inl (cD, 1, .inr (.inr (.inr (.inl zd))))), (mm, .inr (10, [.int 1, .ref pl, .ref ig, .ref sl, .ref kl, .int 0, .int 0, .int 0]))] H := hP
    have hD : va_D A [(pa, .inr (3, [.ref p_v, .int 0, .ref p_st, .ref p_ib, .ref p_di, .ref p_wa, .ref p_se, .ref p_vh, .ref p_re])), (b0, .inl (cI, 6, .inl zi)), (b1, .inl (cZ, 6, .inl zi)), (b4, .inl (cI, 4, .inl zi)), (p_v, .inl (cI, 4, .inl zi)), (p_st, .inl (cI, 4, .inl zi)), (p_ib, .inl (cZ, 4, .inl zi)), (p_di, .inl (cI, 4, .inl zi)), (p_wa, .inl (cI, 4, .inl zi)), (p_se, .inl (cI, 4, .inl zi)), (ou, .inl (cJ, 1, .inr (.inl zl))), (od, .inl (cD, 1, .inr (.inr (.inr (.inl zd))))), (mm, .inr (10, [.int 1, .ref pl, .ref ig, .ref sl, .ref kl, .int 0, .int 0, .int 0]))] := hD
    refine W.widen (k := 119) (n := 756) (Nat.le_refl _) (Nat.le_refl _) ?_
    have hw : r_23 = 1 := hw
    subst hw
    refine lv_iload hx hb dL_law_972 (lv_at hl 1 rfl) ?_
    refine lv_icmp_eq (tgt := 979) hx hb dL_law_974 (by decide) (fun _ => ?_) (fun h9 => absurd h9 (by decide))
    refine lv_iload hx hb dL_law_979 (lv_at hl 1 rfl) ?_
    refine lv_if_ne (tgt := 996) hx hb dL_law_981 (by decide) (fun _ => ?_) (fun h9 => absurd h9 (by decide))
    refine lv_goto (tgt := 2007) hx hb dL_law_996 (by decide) ?_
    exact law_tail l C0 hAe hS (lv_sub hl [2, 7] rfl) (Nat.le_of_ble_eq_true rfl) (Nat.le_of_ble_eq_true rfl)
  · refine lv_iconst (v := 1) hx hb dL_law_919 (by decide) ?_
    refine lv_goto (tgt := 924) hx hb dL_law_920 (by decide) ?_
    refine lv_aload_n hx hb dL_law_924 rfl (lv_at hl 2 rfl) ?_
    have hPc := hP.sub (ws' := [(x, .inr (7, [.ref bx, .ref po, .ref tr, .ref pa, .ref sp])), (bx, .inr (2, [.ref b0, .ref b1, .int 0, .int 0, .ref b4, .int 0, .ref b6, .int 0, .int 0, .int 0, .int 0]))]) [0, 1] rfl
    have hDc := hD.sub (ws' := [(x, .inr (7, [.ref bx, .ref po, .ref tr, .ref pa, .ref sp])), (bx, .inr (2, [.ref b0, .ref b1, .int 0, .int 0, .ref b4, .int 0, .ref b6, .int 0, .int 0, .int 0, .int 0]))]) [0, 1] (by decide) rfl
    have hKc := hK.sub (tys' := []) [] rfl
    have hFc := va_free (wc := [(x, .inr (7, [.ref bx, .ref po, .ref tr, .ref pa, .ref sp])), (bx, .inr (2, [.ref b0, .ref b1, .int 0, .int 0, .ref b4, .int 0, .ref b6, .int 0, .int 0, .int 0, .int 0]))]) hD hS hA [0, 1] rfl
    refine va_calli (vx_runSW (As := [.ref x, .int a1, .int a2, .int a3, .int 1, .ref ou]) (rest := []) ⟨hx, hb, hml, hown, hts⟩ (h0_L_pair l hfl dC dI x po tr sp pa bx b0 b1 b4 b6 a1 a2 a3 (1 : Int32) ou ((lx_s299 hLX).choose) ((lx_s299 hLX).choose_spec.choose) _ ) (vx_cwSW 6 hts gL_law_L_pair rfl rfl rfl (by decide +kernel) ⟨Nat.le_of_ble_eq_true rfl, Nat.le_of_ble_eq_true rfl⟩) ⟨pn_blind (fun _ _ _ _ h => h), fun U hU hW => ⟨rfl, pr_mk hU hW hPc hKc hDc, xs_mk hU hW hS hFc (lx_xo hLX (lx_s299 hLX).choose_spec.choose_spec), trivial⟩⟩ rfl rfl hl.1 rfl (lv_room (Nat.le_of_ble_eq_true rfl)) dL_law_925 ⟨Nat.le_of_ble_eq_true rfl, Nat.le_of_ble_eq_true rfl⟩) hS (fun q _ h => hFc q h) hFc (fun r_25 u_24 t H1 locs ht hvm hw hB hz1 hk1 hS => ?_)
    obtain ⟨hP1, hK1, hD1⟩ := hB
    rw [ht] at hP1
    obtain ⟨hP, hD⟩ := va_join (wr := [(pa, .inr (3, [.ref p_v, .int 0, .ref p_st, .ref p_ib, .ref p_di, .ref p_wa, .ref p_se, .ref p_vh, .ref p_re])), (b0, .inl (cI, 6, .inl zi)), (b1, .inl (cZ, 6, .inl zi)), (b4, .inl (cI, 4, .inl zi)), (p_v, .inl (cI, 4, .inl zi)), (p_st, .inl (cI, 4, .inl zi)), (p_ib, .inl (cZ, 4, .inl zi)), (p_di, .inl (cI, 4, .inl zi)), (p_wa, .inl (cI, 4, .inl zi)), (p_se, .inl (cI, 4, .inl zi)), (mm, .inr (10, [.int 0, .ref pl, .ref ig, .ref sl, .ref kl, .int 0, .int 0, .int 0])), (pl, .inr (1, [.int 0, .ref dz, .int 0])), (sl, .inr (1, [.int 0, .ref dz, .int 0])), (kl, .inr (1, [.int 0, .ref dz, .int 0])), (ou, .inl (cJ, 1, .inr (.inl zl))), (od, .inl (cD, 1, .inr (.inr (.inr (.inl zd)))))]) (w1 := []) hP hD [0, 1] [2, 3, 4, 5, 6, 7, 8, 9, 10, 11, 12, 13, 14, 15, 16, 17] rfl rfl (by decide) (by decide) hk1 hFc hP1 hD1
    generalize H1 = H at hP hS ⊢
    have hP : va_P (dC, dI) vwCl [(pa, .inr (3, [.ref p_v, .int 0, .ref p_st, .ref p_ib, .ref p_di, .ref p_wa, .ref p_se, .ref p_vh, .ref p_re])), (b0, .inl (cI, 6, .inl zi)), (b1, .inl (cZ, 6, .inl zi)), (b4, .inl (cI, 4, .inl zi)), (p_v, .inl (cI, 4, .inl zi)), (p_st, .inl (cI, 4, .inl zi)), (p_ib, .inl (cZ, 4, .inl zi)), (p_di, .inl (cI, 4, .inl zi)), (p_wa, .inl (cI, 4, .inl zi)), (p_se, .inl (cI, 4, .inl zi)), (mm, .inr (10, [.int 0, .ref pl, .ref ig, .ref sl, .ref kl, .int 0, .int 0, .int 0])), (pl, .inr (1, [.int 0, .ref dz, .int 0])), (sl, .inr (1, [.int 0, .ref dz, .int 0])), (kl, .inr (1, [.int 0, .ref dz, .int 0])), (ou, .inl (cJ, 1, .inr (.inl zl))), (od, .inl (cD, 1, .inr (.inr (.inr (.inl zd)))))] H := hP
    have hD : va_D A [(pa, .inr (3, [.ref p_v, .int 0, .ref p_st, .ref p_ib, .ref p_di, .ref p_wa, .ref p_se, .ref p_vh, .ref p_re])), (b0, .inl (cI, 6, .inl zi)), (b1, .inl (cZ, 6, .inl zi)), (b4, .inl (cI, 4, .inl zi)), (p_v, .inl (cI, 4, .inl zi)), (p_st, .inl (cI, 4, .inl zi)), (p_ib, .inl (cZ, 4, .inl zi)), (p_di, .inl (cI, 4, .inl zi)), (p_wa, .inl (cI, 4, .inl zi)), (p_se, .inl (cI, 4, .inl zi)), (mm, .inr (10, [.int 0, .ref pl, .ref ig, .ref sl, .ref kl, .int 0, .int 0, .int 0])), (pl, .inr (1, [.int 0, .ref dz, .int 0])), (sl, .inr (1, [.int 0, .ref dz, .int 0])), (kl, .inr (1, [.int 0, .ref dz, .int 0])), (ou, .inl (cJ, 1, .inr (.inl zl))), (od, .inl (cD, 1, .inr (.inr (.inr (.inl zd)))))] := hD
    refine W.widen (k := 119) (n := 756) (Nat.le_of_ble_eq_true rfl) (Nat.le_of_ble_eq_true rfl) ?_
    have hw : r_25 = 1 := hw
    subst hw
    refine lv_istore (lv' := [(6, .int 1), (5, .int 0), (4, .ref od), (3, .ref ou), (2, .ref mm), (1, .ref x), (0, .ref b)]) hx hb dL_law_928 hl (by decide) rfl (fun ls hl => ?_)
    refine lv_aload_n hx hb dL_law_930 rfl (lv_at hl 4 rfl) ?_
    refine lv_aload_n hx hb dL_law_931 rfl (lv_at hl 6 rfl) ?_
    refine lv_iload hx hb dL_law_932 (lv_at hl 1 rfl) ?_
    refine lv_iconst (v := 1) hx hb dL_law_934 (by decide) ?_
    refine lv_iadd hx hb dL_law_935 ?_
    refine lv_topi (fun y_26 ey_26 => ?_)
    obtain rfl : y_26 = 1 := ey_26.trans (by decide)
    refine va_sld hx hb hX hbl hbA hS (by unfold vp_in; decide) dL_law_936 ?_
    refine lv_topi (fun y_27 ey_27 => ?_)
    obtain rfl : a1 = y_27 := (ey_27.trans h_a1.symm).symm
    refine lv_aload_n hx hb dL_law_937 rfl (lv_at hl 6 rfl) ?_
    refine lv_iload hx hb dL_law_938 (lv_at hl 1 rfl) ?_
    refine lv_iconst (v := 2) hx hb dL_law_940 (by decide) ?_
    refine lv_iadd hx hb dL_law_941 ?_
    refine lv_topi (fun y_28 ey_28 => ?_)
    obtain rfl : y_28 = 2 := ey_28.trans (by decide)
    refine va_sld hx hb hX hbl hbA hS (by unfold vp_in; decide) dL_law_942 ?_
    refine lv_topi (fun y_29 ey_29 => ?_)
    obtain rfl : a2 = y_29 := (ey_29.trans h_a2.symm).symm
    refine lv_aload_n hx hb dL_law_943 rfl (lv_at hl 6 rfl) ?_
    refine lv_iload hx hb dL_law_944 (lv_at hl 1 rfl) ?_
    refine lv_iconst (v := 3) hx hb dL_law_946 (by decide) ?_
    refine lv_iadd hx hb dL_law_947 ?_
    refine lv_topi (fun y_30 ey_30 => ?_)
    obtain rfl : y_30 = 3 := ey_30.trans (by decide)
    refine va_sld hx hb hX hbl hbA hS (by unfold vp_in; decide) dL_law_948 ?_
    refine lv_topi (fun y_31 ey_31 => ?_)
    obtain rfl : a3 = y_31 := (ey_31.trans h_a3.symm).symm
    refine lv_aload_n hx hb dL_law_949 rfl (lv_at hl 6 rfl) ?_
    refine lv_iload hx hb dL_law_950 (lv_at hl 1 rfl) ?_
    refine lv_iconst (v := 4) hx hb dL_law_952 (by decide) ?_
    refine lv_iadd hx hb dL_law_953 ?_
    refine lv_topi (fun y_32 ey_32 => ?_)
    obtain rfl : y_32 = 4 := ey_32.trans (by decide)
    refine va_sld hx hb hX hbl hbA hS (by unfold vp_in; decide) dL_law_954 ?_
    refine lv_topi (fun y_33 ey_33 => ?_)
    obtain rfl : a4 = y_33 := (ey_33.trans h_a4.symm).symm
    refine lv_if_eq (tgt := 962) hx hb dL_law_955 (by decide) (fun h9 => (hc_9 h9).elim) (fun _ => ?_)
    refine lv_iconst (v := 1) hx hb dL_law_958 (by decide) ?_
    refine lv_goto (tgt := 963) hx hb dL_law_959 (by decide) ?_
    have hPc := hP.sub (ws' := [(mm, .inr (10, [.int 0, .ref pl, .ref ig, .ref sl, .ref kl, .int 0, .int 0, .int 0])), (pl, .inr (1, [.int 0, .ref dz, .int 0])), (sl, .inr (1, [.int 0, .ref dz, .int 0])), (kl, .inr (1, [.int 0, .ref dz, .int 0]))]) [10, 11, 12, 13] rfl
    have hDc := hD.sub (ws' := [(mm, .inr (10, [.int 0, .ref pl, .ref ig, .ref sl, .ref kl, .int 0, .int 0, .int 0])), (pl, .inr (1, [.int 0, .ref dz, .int 0])), (sl, .inr (1, [.int 0, .ref dz, .int 0])), (kl, .inr (1, [.int 0, .ref dz, .int 0]))]) [10, 11, 12, 13] (by decide) rfl
    have hKc := hK.sub (tys' := []) [] rfl
    have hFc := va_free (wc := [(mm, .inr (10, [.int 0, .ref pl, .ref ig, .ref sl, .ref kl, .int 0, .int 0, .int 0])), (pl, .inr (1, [.int 0, .ref dz, .int 0])), (sl, .inr (1, [.int 0, .ref dz, .int 0])), (kl, .inr (1, [.int 0, .ref dz, .int 0]))]) hD hS hA [10, 11, 12, 13] rfl
    refine va_calli (va_runV (As := [.int a1, .int a2, .int a3, .int 1]) (rest := []) ⟨hx, hb, hml, hown, hts⟩ (c_X8_pair l dC dI mm pl ig sl kl dz a1 a2 a3 (1 : Int32) _ ) (cwV 4 hts gL_law_X8_pair rfl rfl rfl (by decide +kernel) ⟨Nat.le_of_ble_eq_true rfl, Nat.le_of_ble_eq_true rfl⟩) ⟨pe_blind mo_bl, va_recv hKc hPc (ci := 10) (q0 := 0) rfl rfl, fun U hU hW => ⟨rfl, pr_mk hU hW hPc hKc hDc, mo_mk hW (lx_m hLX)⟩⟩ rfl rfl hl.1 rfl (lv_room (Nat.le_of_ble_eq_true rfl)) dL_law_963 ⟨Nat.le_of_ble_eq_true rfl, Nat.le_of_ble_eq_true rfl⟩) hS (fun q _ h => hFc q h) hFc (fun r_35 u_34 t H1 locs ht hvm hw hB hz1 hk1 hS => ?_)
    obtain ⟨hP1, hK1, hD1⟩ := hB
    rw [ht] at hP1
    obtain ⟨hP, hD⟩ := va_join (wr := [(pa, .inr (3, [.ref p_v, .int 0, .ref p_st, .ref p_ib, .ref p_di, .ref p_wa, .ref p_se, .ref p_vh, .ref p_re])), (b0, .inl (cI, 6, .inl zi)), (b1, .inl (cZ, 6, .inl zi)), (b4, .inl (cI, 4, .inl zi)), (p_v, .inl (cI, 4, .inl zi)), (p_st, .inl (cI, 4, .inl zi)), (p_ib, .inl (cZ, 4, .inl zi)), (p_di, .inl (cI, 4, .inl zi)), (p_wa, .inl (cI, 4, .inl zi)), (p_se, .inl (cI, 4, .inl zi)), (ou, .inl (cJ, 1, .inr (.inl zl))), (od, .inl (cD, 1, .inr (.inr (.inr (.inl zd)))))]) (w1 := [(mm, .inr (10, [.int 1, .ref pl, .ref ig, .ref sl, .ref kl, .int 0, .int 0, .int 0]))]) hP hD [10, 11, 12, 13] [0, 1, 2, 3, 4, 5, 6, 7, 8, 9, 14, 15] rfl rfl (by decide) (by decide) hk1 hFc hP1 hD1
    generalize H1 = H at hP hS ⊢
    have hP : va_P (dC, dI) vwCl [(pa, .inr (3, [.ref p_v, .int 0, .ref p_st, .ref p_ib, .ref p_di, .ref p_wa, .ref p_se, .ref p_vh, .ref p_re])), (b0, .inl (cI, 6, .inl zi)), (b1, .inl (cZ, 6, .inl zi)), (b4, .inl (cI, 4, .inl zi)), (p_v, .inl (cI, 4, .inl zi)), (p_st, .inl (cI, 4, .inl zi)), (p_ib, .inl (cZ, 4, .inl zi)), (p_di, .inl (cI, 4, .inl zi)), (p_wa, .inl (cI, 4, .inl zi)), (p_se, .inl (cI, 4, .inl zi)), (ou, .inl (cJ, 1, .inr (.inl zl))), (od, .inl (cD, 1, .inr (.inr (.inr (.inl zd))))), (mm, .inr (10, [.int 1, .ref pl, .ref ig, .ref sl, .ref kl, .int 0, .int 0, .int 0]))] H := hP
    have hD : va_D A [(pa, .inr (3, [.ref p_v, .int 0, .ref p_st, .ref p_ib, .ref p_di, .ref p_wa, .ref p_se, .ref p_vh, .ref p_re])), (b0, .inl (cI, 6, .inl zi)), (b1, .inl (cZ, 6, .inl zi)), (b4, .inl (cI, 4, .inl zi)), (p_v, .inl (cI, 4, .inl zi)), (p_st, .inl (cI, 4, .inl zi)), (p_ib, .inl (cZ, 4, .inl zi)), (p_di, .inl (cI, 4, .inl zi)), (p_wa, .inl (cI, 4, .inl zi)), (p_se, .inl (cI, 4, .inl zi)), (ou, .inl (cJ, 1, .inr (.inl zl))), (od, .inl (cD, 1, .inr (.inr (.inr (.inl zd))))), (mm, .inr (10, [.int 1, .ref pl, .ref ig, .ref sl, .ref kl, .int 0, .int 0, .int 0]))] := hD
    refine W.widen (k := 119) (n := 756) (Nat.le_refl _) (Nat.le_refl _) ?_
    have hw : r_35 = 0 := hw
    subst hw
    refine lv_istore (lv' := [(7, .int 0), (6, .int 1), (5, .int 0), (4, .ref od), (3, .ref ou), (2, .ref mm), (1, .ref x), (0, .ref b)]) hx hb dL_law_966 hl (by decide) rfl (fun ls hl => ?_)
    refine lv_aload_n hx hb dL_law_968 rfl (lv_at hl 5 rfl) ?_
    have hPc := hP.sub (ws' := [(mm, .inr (10, [.int 1, .ref pl, .ref ig, .ref sl, .ref kl, .int 0, .int 0, .int 0]))]) [12] rfl
    have hDc := hD.sub (ws' := [(mm, .inr (10, [.int 1, .ref pl, .ref ig, .ref sl, .ref kl, .int 0, .int 0, .int 0]))]) [12] (by decide) rfl
    have hKc := hK.sub (tys' := []) [] rfl
    have hFc := va_free (wc := [(mm, .inr (10, [.int 1, .ref pl, .ref ig, .ref sl, .ref kl, .int 0, .int 0, .int 0]))]) hD hS hA [12] rfl
    refine va_calli (va_runV (As := []) (rest := []) ⟨hx, hb, hml, hown, hts⟩ (c_X8_thrown l dC dI mm pl ig sl kl (1 : Int32) (0 : Int32) (0 : Int32) (0 : Int32) _ ) (cwV 0 hts gL_law_X8_thrown rfl rfl rfl (by decide +kernel) ⟨Nat.le_of_ble_eq_true rfl, Nat.le_of_ble_eq_true rfl⟩) ⟨pr_blind, va_recv hKc hPc (ci := 10) (q0 := 0) rfl rfl, fun U hU hW => ⟨rfl, pr_mk hU hW hPc hKc hDc⟩⟩ rfl rfl hl.1 rfl (lv_room (Nat.le_of_ble_eq_true rfl)) dL_law_969 ⟨Nat.le_of_ble_eq_true rfl, Nat.le_of_ble_eq_true rfl⟩) hS (fun q _ h => hFc q h) hFc (fun r_37 u_36 t H1 locs ht hvm hw hB hz1 hk1 hS => ?_)
    obtain ⟨hP1, hK1, hD1⟩ := hB
    rw [ht] at hP1
    obtain ⟨hP, hD⟩ := va_join (wr := [(pa, .inr (3, [.ref p_v, .int 0, .ref p_st, .ref p_ib, .ref p_di, .ref p_wa, .ref p_se, .ref p_vh, .ref p_re])), (b0, .inl (cI, 6, .inl zi)), (b1, .inl (cZ, 6, .inl zi)), (b4, .inl (cI, 4, .inl zi)), (p_v, .inl (cI, 4, .inl zi)), (p_st, .inl (cI, 4, .inl zi)), (p_ib, .inl (cZ, 4, .inl zi)), (p_di, .inl (cI, 4, .inl zi)), (p_wa, .inl (cI, 4, .inl zi)), (p_se, .inl (cI, 4, .inl zi)), (ou, .inl (cJ, 1, .inr (.inl zl))), (od, .inl (cD, 1, .inr (.inr (.inr (.inl zd)))))]) (w1 := [(mm, .inr (10, [.int 1, .ref pl, .ref ig, .ref sl, .ref kl, .int 0, .int 0, .int 0]))]) hP hD [12] [0, 1, 2, 3, 4, 5, 6, 7, 8, 9, 10, 11] rfl rfl (by decide) (by decide) hk1 hFc hP1 hD1
    generalize H1 = H at hP hS ⊢
    have hP : va_P (dC, dI) vwCl [(pa, .inr (3, [.ref p_v, .int 0, .ref p_st, .ref p_ib, .ref p_di, .ref p_wa, .ref p_se, .ref p_vh, .ref p_re])), (b0, .inl (cI, 6, .inl zi)), (b1, .inl (cZ, 6, .inl zi)), (b4, .inl (cI, 4, .inl zi)), (p_v, .inl (cI, 4, .inl zi)), (p_st, .inl (cI, 4, .inl zi)), (p_ib, .inl (cZ, 4, .inl zi)), (p_di, .inl (cI, 4, .inl zi)), (p_wa, .inl (cI, 4, .inl zi)), (p_se, .inl (cI, 4, .inl zi)), (ou, .inl (cJ, 1, .inr (.inl zl))), (od, .inl (cD, 1, .inr (.inr (.inr (.inl zd))))), (mm, .inr (10, [.int 1, .ref pl, .ref ig, .ref sl, .ref kl, .int 0, .int 0, .int 0]))] H := hP
    have hD : va_D A [(pa, .inr (3, [.ref p_v, .int 0, .ref p_st, .ref p_ib, .ref p_di, .ref p_wa, .ref p_se, .ref p_vh, .ref p_re])), (b0, .inl (cI, 6, .inl zi)), (b1, .inl (cZ, 6, .inl zi)), (b4, .inl (cI, 4, .inl zi)), (p_v, .inl (cI, 4, .inl zi)), (p_st, .inl (cI, 4, .inl zi)), (p_ib, .inl (cZ, 4, .inl zi)), (p_di, .inl (cI, 4, .inl zi)), (p_wa, .inl (cI, 4, .inl zi)), (p_se, .inl (cI, 4, .inl zi)), (ou, .inl (cJ, 1, .inr (.inl zl))), (od, .inl (cD, 1, .inr (.inr (.inr (.inl zd))))), (mm, .inr (10, [.int 1, .ref pl, .ref ig, .ref sl, .ref kl, .int 0, .int 0, .int 0]))] := hD
    refine W.widen (k := 119) (n := 756) (Nat.le_refl _) (Nat.le_refl _) ?_
    have hw : r_37 = 1 := hw
    subst hw
    refine lv_iload hx hb dL_law_972 (lv_at hl 1 rfl) ?_
    refine lv_icmp_eq (tgt := 979) hx hb dL_law_974 (by decide) (fun _ => ?_) (fun h9 => absurd h9 (by decide))
    refine lv_iload hx hb dL_law_979 (lv_at hl 1 rfl) ?_
    refine lv_if_ne (tgt := 996) hx hb dL_law_981 (by decide) (fun _ => ?_) (fun h9 => absurd h9 (by decide))
    refine lv_goto (tgt := 2007) hx hb dL_law_996 (by decide) ?_
    exact law_tail l C0 hAe hS (lv_sub hl [2, 7] rfl) (Nat.le_of_ble_eq_true rfl) (Nat.le_of_ble_eq_true rfl)

set_option maxHeartbeats 4000000 in
set_option maxRecDepth 100000 in
theorem case_winner {p : Program} {e : Env} {s : State} {m : MethodId} {below : List Frame} {meth : Method} {c : Code} (l : Launch) (hfl : l.stackTraces = false) {b : Nat} {xs : Nat → Int32} (C0 : lw_At p s m meth c b 5 xs) {dz tc : Nat} {ad : Nat → Nat} (hLX : lx_ (fun q : Nat => s.heap.size ≤ q) dz tc ad s) (dC : Nat → ClassId) (dI : Nat → Nat → Nat) {x : Nat} {po : Nat} {tr : Nat} {sp : Nat} {bx : Nat} {b0 : Nat} {b1 : Nat} {b4 : Nat} {b6 : Nat} {pa : Nat} {p_v : Nat} {p_st : Nat} {p_ib : Nat} {p_di : Nat} {p_wa : Nat} {p_se : Nat} {p_vh : Nat} {p_re : Nat} {mm : Nat} {pl : Nat} {ig : Nat} {sl : Nat} {kl : Nat} {ou : Nat} {od : Nat} {cI : ClassId} {cZ : ClassId} {cJ : ClassId} {cD : ClassId} {H : Heap} {locs : List Loc} {ls : Array Slot} (hK : va_K (dC, dI) vwCl [(cI, .int), (cZ, .boolean), (cJ, .long), (cD, .double)] s) (hP : va_P (dC, dI) vwCl [(x, .inr (7, [.ref bx, .ref po, .ref tr, .ref pa, .ref sp])), (bx, .inr (2, [.ref b0, .ref b1, .int 0, .int 0, .ref b4, .int 0, .ref b6, .int 0, .int 0, .int 0, .int 0])), (pa, .inr (3, [.ref p_v, .int 0, .ref p_st, .ref p_ib, .ref p_di, .ref p_wa, .ref p_se, .ref p_vh, .ref p_re])), (b0, .inl (cI, 6, .inl zi)), (b1, .inl (cZ, 6, .inl zi)), (b4, .inl (cI, 4, .inl zi)), (p_v, .inl (cI, 4, .inl zi)), (p_st, .inl (cI, 4, .inl zi)), (p_ib, .inl (cZ, 4, .inl zi)), (p_di, .inl (cI, 4, .inl zi)), (p_wa, .inl (cI, 4, .inl zi)), (p_se, .inl (cI, 4, .inl zi)), (mm, .inr (10, [.int 0, .ref pl, .ref ig, .ref sl, .ref kl, .int 0, .int 0, .int 0])), (pl, .inr (1, [.int 0, .ref dz, .int 0])), (sl, .inr (1, [.int 0, .ref dz, .int 0])), (kl, .inr (1, [.int 0, .ref dz, .int 0])), (ou, .inl (cJ, 1, .inr (.inl zl))), (od, .inl (cD, 1, .inr (.inr (.inr (.inl zd)))))] H) (hD : va_D (fun q : Nat => s.heap.size ≤ q) [(x, .inr (7, [.ref bx, .ref po, .ref tr, .ref pa, .ref sp])), (bx, .inr (2, [.ref b0, .ref b1, .int 0, .int 0, .ref b4, .int 0, .ref b6, .int 0, .int 0, .int 0, .int 0])), (pa, .inr (3, [.ref p_v, .int 0, .ref p_st, .ref p_ib, .ref p_di, .ref p_wa, .ref p_se, .ref p_vh, .ref p_re])), (b0, .inl (cI, 6, .inl zi)), (b1, .inl (cZ, 6, .inl zi)), (b4, .inl (cI, 4, .inl zi)), (p_v, .inl (cI, 4, .inl zi)), (p_st, .inl (cI, 4, .inl zi)), (p_ib, .inl (cZ, 4, .inl zi)), (p_di, .inl (cI, 4, .inl zi)), (p_wa, .inl (cI, 4, .inl zi)), (p_se, .inl (cI, 4, .inl zi)), (mm, .inr (10, [.int 0, .ref pl, .ref ig, .ref sl, .ref kl, .int 0, .int 0, .int 0])), (pl, .inr (1, [.int 0, .ref dz, .int 0])), (sl, .inr (1, [.int 0, .ref dz, .int 0])), (kl, .inr (1, [.int 0, .ref dz, .int 0])), (ou, .inl (cJ, 1, .inr (.inl zl))), (od, .inl (cD, 1, .inr (.inr (.inr (.inl zd)))))]) (hS : va_S (fun q : Nat => s.heap.size ≤ q) s.heap H locs) (hl : lv_has ls 9 [(5, .int 0), (4, .ref od), (3, .ref ou), (2, .ref mm), (1, .ref x), (0, .ref b)]) : W p l e room_1 s m #[Value.ref b] below meth c H locs 118 750 (lw_Z below #[Value.ref b] s) (F0 m 999 ls []) := by
  obtain ⟨hx, hb, hr, hml, hown, hts0, hX, hbl, hlocks, hgv⟩ := id C0
  have hts : ∀ w ∈ lw_tbl, w.before #[Value.ref b] s = true := hts0
  have hbA : ¬ (fun q : Nat => s.heap.size ≤ q) b := Nat.not_le.mpr hbl
  have hA : ∀ q : Nat, s.heap.size ≤ q → (fun q : Nat => s.heap.size ≤ q) q := fun _ h => h
  generalize hAe : (fun q : Nat => s.heap.size ≤ q) = A at hD hS hbA hA hLX
  obtain ⟨a1, h_a1⟩ : ∃ z, z = xs ((1 : Int32).toNatClampNeg) := ⟨_, rfl⟩
  obtain ⟨a2, h_a2⟩ : ∃ z, z = xs ((2 : Int32).toNatClampNeg) := ⟨_, rfl⟩
  obtain ⟨a3, h_a3⟩ : ∃ z, z = xs ((3 : Int32).toNatClampNeg) := ⟨_, rfl⟩
  obtain ⟨a4, h_a4⟩ : ∃ z, z = xs ((4 : Int32).toNatClampNeg) := ⟨_, rfl⟩
  refine lv_aload_n hx hb dL_law_999 rfl (lv_at hl 4 rfl) ?_
  refine lv_aload_n hx hb dL_law_1000 rfl (lv_at hl 5 rfl) ?_
  refine lv_iload hx hb dL_law_1001 (lv_at hl 0 rfl) ?_
  refine lv_iconst (v := 1) hx hb dL_law_1003 (by decide) ?_
  refine lv_iadd hx hb dL_law_1004 ?_
  refine lv_topi (fun y_1 ey_1 => ?_)
  obtain rfl : y_1 = 1 := ey_1.trans (by decide)
  refine va_sld hx hb hX hbl hbA hS (by unfold vp_in; decide) dL_law_1005 ?_
  refine lv_topi (fun y_2 ey_2 => ?_)
  obtain rfl : a1 = y_2 := (ey_2.trans h_a1.symm).symm
  refine lv_aload_n hx hb dL_law_1006 rfl (lv_at hl 5 rfl) ?_
  refine lv_iload hx hb dL_law_1007 (lv_at hl 0 rfl) ?_
  refine lv_iconst (v := 2) hx hb dL_law_1009 (by decide) ?_
  refine lv_iadd hx hb dL_law_1010 ?_
  refine lv_topi (fun y_3 ey_3 => ?_)
  obtain rfl : y_3 = 2 := ey_3.trans (by decide)
  refine va_sld hx hb hX hbl hbA hS (by unfold vp_in; decide) dL_law_1011 ?_
  refine lv_topi (fun y_4 ey_4 => ?_)
  obtain rfl : a2 = y_4 := (ey_4.trans h_a2.symm).symm
  refine lv_aload_n hx hb dL_law_1012 rfl (lv_at hl 2 rfl) ?_
  have hPc := hP.sub (ws' := [(x, .inr (7, [.ref bx, .ref po, .ref tr, .ref pa, .ref sp])), (bx, .inr (2, [.ref b0, .ref b1, .int 0, .int 0, .ref b4, .int 0, .ref b6, .int 0, .int 0, .int 0, .int 0]))]) [0, 1] rfl
  have hDc := hD.sub (ws' := [(x, .inr (7, [.ref bx, .ref po, .ref tr, .ref pa, .ref sp])), (bx, .inr (2, [.ref b0, .ref b1, .int 0, .int 0, .ref b4, .int 0, .ref b6, .int 0, .int 0, .int 0, .int 0]))]) [0, 1] (by decide) rfl
  have hKc := hK.sub (tys' := []) [] rfl
  have hFc := va_free (wc := [(x, .inr (7, [.ref bx, .ref po, .ref tr, .ref pa, .ref sp])), (bx, .inr (2, [.ref b0, .ref b1, .int 0, .int 0, .ref b4, .int 0, .ref b6, .int 0, .int 0, .int 0, .int 0]))]) hD hS hA [0, 1] rfl
  refine va_calli (vx_runSW (As := [.ref x, .int a1, .int a2, .ref ou]) (rest := []) ⟨hx, hb, hml, hown, hts⟩ (h0_L_winner l hfl dC dI x po tr sp pa bx b0 b1 b4 b6 a1 a2 ou ((lx_s299 hLX).choose) ((lx_s299 hLX).choose_spec.choose) _ ) (vx_cwSW 4 hts gL_law_L_winner rfl rfl rfl (by decide +kernel) ⟨Nat.le_of_ble_eq_true rfl, Nat.le_of_ble_eq_true rfl⟩) ⟨pn_blind (fun _ _ _ _ h => h), fun U hU hW => ⟨rfl, pr_mk hU hW hPc hKc hDc, xs_mk hU hW hS hFc (lx_xo hLX (lx_s299 hLX).choose_spec.choose_spec), trivial⟩⟩ rfl rfl hl.1 rfl (lv_room (Nat.le_of_ble_eq_true rfl)) dL_law_1013 ⟨Nat.le_of_ble_eq_true rfl, Nat.le_of_ble_eq_true rfl⟩) hS (fun q _ h => hFc q h) hFc (fun r_6 u_5 t H1 locs ht hvm hw hB hz1 hk1 hS => ?_)
  obtain ⟨hP1, hK1, hD1⟩ := hB
  rw [ht] at hP1
  obtain ⟨hP, hD⟩ := va_join (wr := [(pa, .inr (3, [.ref p_v, .int 0, .ref p_st, .ref p_ib, .ref p_di, .ref p_wa, .ref p_se, .ref p_vh, .ref p_re])), (b0, .inl (cI, 6, .inl zi)), (b1, .inl (cZ, 6, .inl zi)), (b4, .inl (cI, 4, .inl zi)), (p_v, .inl (cI, 4, .inl zi)), (p_st, .inl (cI, 4, .inl zi)), (p_ib, .inl (cZ, 4, .inl zi)), (p_di, .inl (cI, 4, .inl zi)), (p_wa, .inl (cI, 4, .inl zi)), (p_se, .inl (cI, 4, .inl zi)), (mm, .inr (10, [.int 0, .ref pl, .ref ig, .ref sl, .ref kl, .int 0, .int 0, .int 0])), (pl, .inr (1, [.int 0, .ref dz, .int 0])), (sl, .inr (1, [.int 0, .ref dz, .int 0])), (kl, .inr (1, [.int 0, .ref dz, .int 0])), (ou, .inl (cJ, 1, .inr (.inl zl))), (od, .inl (cD, 1, .inr (.inr (.inr (.inl zd)))))]) (w1 := []) hP hD [0, 1] [2, 3, 4, 5, 6, 7, 8, 9, 10, 11, 12, 13, 14, 15, 16, 17] rfl rfl (by decide) (by decide) hk1 hFc hP1 hD1
  generalize H1 = H at hP hS ⊢
  have hP : va_P (dC, dI) vwCl [(pa, .inr (3, [.ref p_v, .int 0, .ref p_st, .ref p_ib, .ref p_di, .ref p_wa, .ref p_se, .ref p_vh, .ref p_re])), (b0, .inl (cI, 6, .inl zi)), (b1, .inl (cZ, 6, .inl zi)), (b4, .inl (cI, 4, .inl zi)), (p_v, .inl (cI, 4, .inl zi)), (p_st, .inl (cI, 4, .inl zi)), (p_ib, .inl (cZ, 4, .inl zi)), (p_di, .inl (cI, 4, .inl zi)), (p_wa, .inl (cI, 4, .inl zi)), (p_se, .inl (cI, 4, .inl zi)), (mm, .inr (10, [.int 0, .ref pl, .ref ig, .ref sl, .ref kl, .int 0, .int 0, .int 0])), (pl, .inr (1, [.int 0, .ref dz, .int 0])), (sl, .inr (1, [.int 0, .ref dz, .int 0])), (kl, .inr (1, [.int 0, .ref dz, .int 0])), (ou, .inl (cJ, 1, .inr (.inl zl))), (od, .inl (cD, 1, .inr (.inr (.inr (.inl zd)))))] H := hP
  have hD : va_D A [(pa, .inr (3, [.ref p_v, .int 0, .ref p_st, .ref p_ib, .ref p_di, .ref p_wa, .ref p_se, .ref p_vh, .ref p_re])), (b0, .inl (cI, 6, .inl zi)), (b1, .inl (cZ, 6, .inl zi)), (b4, .inl (cI, 4, .inl zi)), (p_v, .inl (cI, 4, .inl zi)), (p_st, .inl (cI, 4, .inl zi)), (p_ib, .inl (cZ, 4, .inl zi)), (p_di, .inl (cI, 4, .inl zi)), (p_wa, .inl (cI, 4, .inl zi)), (p_se, .inl (cI, 4, .inl zi)), (mm, .inr (10, [.int 0, .ref pl, .ref ig, .ref sl, .ref kl, .int 0, .int 0, .int 0])), (pl, .inr (1, [.int 0, .ref dz, .int 0])), (sl, .inr (1, [.int 0, .ref dz, .int 0])), (kl, .inr (1, [.int 0, .ref dz, .int 0])), (ou, .inl (cJ, 1, .inr (.inl zl))), (od, .inl (cD, 1, .inr (.inr (.inr (.inl zd)))))] := hD
  refine W.widen (k := 119) (n := 756) (Nat.le_of_ble_eq_true rfl) (Nat.le_of_ble_eq_true rfl) ?_
  have hw : r_6 = 1 := hw
  subst hw
  refine lv_istore (lv' := [(6, .int 1), (5, .int 0), (4, .ref od), (3, .ref ou), (2, .ref mm), (1, .ref x), (0, .ref b)]) hx hb dL_law_1016 hl (by decide) rfl (fun ls hl => ?_)
  refine lv_aload_n hx hb dL_law_1018 rfl (lv_at hl 4 rfl) ?_
  refine lv_aload_n hx hb dL_law_1019 rfl (lv_at hl 6 rfl) ?_
  refine lv_iload hx hb dL_law_1020 (lv_at hl 1 rfl) ?_
  refine lv_iconst (v := 1) hx hb dL_law_1022 (by decide) ?_
  refine lv_iadd hx hb dL_law_1023 ?_
  refine lv_topi (fun y_7 ey_7 => ?_)
  obtain rfl : y_7 = 1 := ey_7.trans (by decide)
  refine va_sld hx hb hX hbl hbA hS (by unfold vp_in; decide) dL_law_1024 ?_
  refine lv_topi (fun y_8 ey_8 => ?_)
  obtain rfl : a1 = y_8 := (ey_8.trans h_a1.symm).symm
  refine lv_aload_n hx hb dL_law_1025 rfl (lv_at hl 6 rfl) ?_
  refine lv_iload hx hb dL_law_1026 (lv_at hl 1 rfl) ?_
  refine lv_iconst (v := 2) hx hb dL_law_1028 (by decide) ?_
  refine lv_iadd hx hb dL_law_1029 ?_
  refine lv_topi (fun y_9 ey_9 => ?_)
  obtain rfl : y_9 = 2 := ey_9.trans (by decide)
  refine va_sld hx hb hX hbl hbA hS (by unfold vp_in; decide) dL_law_1030 ?_
  refine lv_topi (fun y_10 ey_10 => ?_)
  obtain rfl : a2 = y_10 := (ey_10.trans h_a2.symm).symm
  have hPc := hP.sub (ws' := [(mm, .inr (10, [.int 0, .ref pl, .ref ig, .ref sl, .ref kl, .int 0, .int 0, .int 0])), (pl, .inr (1, [.int 0, .ref dz, .int 0])), (sl, .inr (1, [.int 0, .ref dz, .int 0])), (kl, .inr (1, [.int 0, .ref dz, .int 0]))]) [10, 11, 12, 13] rfl
  have hDc := hD.sub (ws' := [(mm, .inr (10, [.int 0, .ref pl, .ref ig, .ref sl, .ref kl, .int 0, .int 0, .int 0])), (pl, .inr (1, [.int 0, .ref dz, .int 0])), (sl, .inr (1, [.int 0, .ref dz, .int 0])), (kl, .inr (1, [.int 0, .ref dz, .int 0]))]) [10, 11, 12, 13] (by decide) rfl
  have hKc := hK.sub (tys' := []) [] rfl
  have hFc := va_free (wc := [(mm, .inr (10, [.int 0, .ref pl, .ref ig, .ref sl, .ref kl, .int 0, .int 0, .int 0])), (pl, .inr (1, [.int 0, .ref dz, .int 0])), (sl, .inr (1, [.int 0, .ref dz, .int 0])), (kl, .inr (1, [.int 0, .ref dz, .int 0]))]) hD hS hA [10, 11, 12, 13] rfl
  refine va_calli (va_runV (As := [.int a1, .int a2]) (rest := []) ⟨hx, hb, hml, hown, hts⟩ (c_X8_winner l dC dI mm pl ig sl kl dz a1 a2 _ ) (cwV 2 hts gL_law_X8_winner rfl rfl rfl (by decide +kernel) ⟨Nat.le_of_ble_eq_true rfl, Nat.le_of_ble_eq_true rfl⟩) ⟨pe_blind mo_bl, va_recv hKc hPc (ci := 10) (q0 := 0) rfl rfl, fun U hU hW => ⟨rfl, pr_mk hU hW hPc hKc hDc, mo_mk hW (lx_m hLX)⟩⟩ rfl rfl hl.1 rfl (lv_room (Nat.le_of_ble_eq_true rfl)) dL_law_1031 ⟨Nat.le_of_ble_eq_true rfl, Nat.le_of_ble_eq_true rfl⟩) hS (fun q _ h => hFc q h) hFc (fun r_12 u_11 t H1 locs ht hvm hw hB hz1 hk1 hS => ?_)
  obtain ⟨hP1, hK1, hD1⟩ := hB
  rw [ht] at hP1
  obtain ⟨hP, hD⟩ := va_join (wr := [(pa, .inr (3, [.ref p_v, .int 0, .ref p_st, .ref p_ib, .ref p_di, .ref p_wa, .ref p_se, .ref p_vh, .ref p_re])), (b0, .inl (cI, 6, .inl zi)), (b1, .inl (cZ, 6, .inl zi)), (b4, .inl (cI, 4, .inl zi)), (p_v, .inl (cI, 4, .inl zi)), (p_st, .inl (cI, 4, .inl zi)), (p_ib, .inl (cZ, 4, .inl zi)), (p_di, .inl (cI, 4, .inl zi)), (p_wa, .inl (cI, 4, .inl zi)), (p_se, .inl (cI, 4, .inl zi)), (ou, .inl (cJ, 1, .inr (.inl zl))), (od, .inl (cD, 1, .inr (.inr (.inr (.inl zd)))))]) (w1 := [(mm, .inr (10, [.int 1, .ref pl, .ref ig, .ref sl, .ref kl, .int 0, .int 0, .int 0]))]) hP hD [10, 11, 12, 13] [0, 1, 2, 3, 4, 5, 6, 7, 8, 9, 14, 15] rfl rfl (by decide) (by decide) hk1 hFc hP1 hD1
  generalize H1 = H at hP hS ⊢
  have hP : va_P (dC, dI) vwCl [(pa, .inr (3, [.ref p_v, .int 0, .ref p_st, .ref p_ib, .ref p_di, .ref p_wa, .ref p_se, .ref p_vh, .ref p_re])), (b0, .inl (cI, 6, .inl zi)), (b1, .inl (cZ, 6, .inl zi)), (b4, .inl (cI, 4, .inl zi)), (p_v, .inl (cI, 4, .inl zi)), (p_st, .inl (cI, 4, .inl zi)), (p_ib, .inl (cZ, 4, .inl zi)), (p_di, .inl (cI, 4, .inl zi)), (p_wa, .inl (cI, 4, .inl zi)), (p_se, .inl (cI, 4, .inl zi)), (ou, .inl (cJ, 1, .inr (.inl zl))), (od, .inl (cD, 1, .inr (.inr (.inr (.inl zd))))), (mm, .inr (10, [.int 1, .ref pl, .ref ig, .ref sl, .ref kl, .int 0, .int 0, .int 0]))] H := hP
  have hD : va_D A [(pa, .inr (3, [.ref p_v, .int 0, .ref p_st, .ref p_ib, .ref p_di, .ref p_wa, .ref p_se, .ref p_vh, .ref p_re])), (b0, .inl (cI, 6, .inl zi)), (b1, .inl (cZ, 6, .inl zi)), (b4, .inl (cI, 4, .inl zi)), (p_v, .inl (cI, 4, .inl zi)), (p_st, .inl (cI, 4, .inl zi)), (p_ib, .inl (cZ, 4, .inl zi)), (p_di, .inl (cI, 4, .inl zi)), (p_wa, .inl (cI, 4, .inl zi)), (p_se, .inl (cI, 4, .inl zi)), (ou, .inl (cJ, 1, .inr (.inl zl))), (od, .inl (cD, 1, .inr (.inr (.inr (.inl zd))))), (mm, .inr (10, [.int 1, .ref pl, .ref ig, .ref sl, .ref kl, .int 0, .int 0, .int 0]))] := hD
  refine W.widen (k := 119) (n := 756) (Nat.le_refl _) (Nat.le_refl _) ?_
  have hw : r_12 = 0 := hw
  subst hw
  refine lv_istore (lv' := [(7, .int 0), (6, .int 1), (5, .int 0), (4, .ref od), (3, .ref ou), (2, .ref mm), (1, .ref x), (0, .ref b)]) hx hb dL_law_1034 hl (by decide) rfl (fun ls hl => ?_)
  refine lv_aload_n hx hb dL_law_1036 rfl (lv_at hl 5 rfl) ?_
  have hPc := hP.sub (ws' := [(mm, .inr (10, [.int 1, .ref pl, .ref ig, .ref sl, .ref kl, .int 0, .int 0, .int 0]))]) [12] rfl
  have hDc := hD.sub (ws' := [(mm, .inr (10, [.int 1, .ref pl, .ref ig, .ref sl, .ref kl, .int 0, .int 0, .int 0]))]) [12] (by decide) rfl
  have hKc := hK.sub (tys' := []) [] rfl
  have hFc := va_free (wc := [(mm, .inr (10, [.int 1, .ref pl, .ref ig, .ref sl, .ref kl, .int 0, .int 0, .int 0]))]) hD hS hA [12] rfl
  refine va_calli (va_runV (As := []) (rest := []) ⟨hx, hb, hml, hown, hts⟩ (c_X8_thrown l dC dI mm pl ig sl kl (1 : Int32) (0 : Int32) (0 : Int32) (0 : Int32) _ ) (cwV 0 hts gL_law_X8_thrown rfl rfl rfl (by decide +kernel) ⟨Nat.le_of_ble_eq_true rfl, Nat.le_of_ble_eq_true rfl⟩) ⟨pr_blind, va_recv hKc hPc (ci := 10) (q0 := 0) rfl rfl, fun U hU hW => ⟨rfl, pr_mk hU hW hPc hKc hDc⟩⟩ rfl rfl hl.1 rfl (lv_room (Nat.le_of_ble_eq_true rfl)) dL_law_1037 ⟨Nat.le_of_ble_eq_true rfl, Nat.le_of_ble_eq_true rfl⟩) hS (fun q _ h => hFc q h) hFc (fun r_14 u_13 t H1 locs ht hvm hw hB hz1 hk1 hS => ?_)
  obtain ⟨hP1, hK1, hD1⟩ := hB
  rw [ht] at hP1
  obtain ⟨hP, hD⟩ := va_join (wr := [(pa, .inr (3, [.ref p_v, .int 0, .ref p_st, .ref p_ib, .ref p_di, .ref p_wa, .ref p_se, .ref p_vh, .ref p_re])), (b0, .inl (cI, 6, .inl zi)), (b1, .inl (cZ, 6, .inl zi)), (b4, .inl (cI, 4, .inl zi)), (p_v, .inl (cI, 4, .inl zi)), (p_st, .inl (cI, 4, .inl zi)), (p_ib, .inl (cZ, 4, .inl zi)), (p_di, .inl (cI, 4, .inl zi)), (p_wa, .inl (cI, 4, .inl zi)), (p_se, .inl (cI, 4, .inl zi)), (ou, .inl (cJ, 1, .inr (.inl zl))), (od, .inl (cD, 1, .inr (.inr (.inr (.inl zd)))))]) (w1 := [(mm, .inr (10, [.int 1, .ref pl, .ref ig, .ref sl, .ref kl, .int 0, .int 0, .int 0]))]) hP hD [12] [0, 1, 2, 3, 4, 5, 6, 7, 8, 9, 10, 11] rfl rfl (by decide) (by decide) hk1 hFc hP1 hD1
  generalize H1 = H at hP hS ⊢
  have hP : va_P (dC, dI) vwCl [(pa, .inr (3, [.ref p_v, .int 0, .ref p_st, .ref p_ib, .ref p_di, .ref p_wa, .ref p_se, .ref p_vh, .ref p_re])), (b0, .inl (cI, 6, .inl zi)), (b1, .inl (cZ, 6, .inl zi)), (b4, .inl (cI, 4, .inl zi)), (p_v, .inl (cI, 4, .inl zi)), (p_st, .inl (cI, 4, .inl zi)), (p_ib, .inl (cZ, 4, .inl zi)), (p_di, .inl (cI, 4, .inl zi)), (p_wa, .inl (cI, 4, .inl zi)), (p_se, .inl (cI, 4, .inl zi)), (ou, .inl (cJ, 1, .inr (.inl zl))), (od, .inl (cD, 1, .inr (.inr (.inr (.inl zd))))), (mm, .inr (10, [.int 1, .ref pl, .ref ig, .ref sl, .ref kl, .int 0, .int 0, .int 0]))] H := hP
  have hD : va_D A [(pa, .inr (3, [.ref p_v, .int 0, .ref p_st, .ref p_ib, .ref p_di, .ref p_wa, .ref p_se, .ref p_vh, .ref p_re])), (b0, .inl (cI, 6, .inl zi)), (b1, .inl (cZ, 6, .inl zi)), (b4, .inl (cI, 4, .inl zi)), (p_v, .inl (cI, 4, .inl zi)), (p_st, .inl (cI, 4, .inl zi)), (p_ib, .inl (cZ, 4, .inl zi)), (p_di, .inl (cI, 4, .inl zi)), (p_wa, .inl (cI, 4, .inl zi)), (p_se, .inl (cI, 4, .inl zi)), (ou, .inl (cJ, 1, .inr (.inl zl))), (od, .inl (cD, 1, .inr (.inr (.inr (.inl zd))))), (mm, .inr (10, [.int 1, .ref pl, .ref ig, .ref sl, .ref kl, .int 0, .int 0, .int 0]))] := hD
  refine W.widen (k := 119) (n := 756) (Nat.le_refl _) (Nat.le_refl _) ?_
  have hw : r_14 = 1 := hw
  subst hw
  refine lv_iload hx hb dL_law_1040 (lv_at hl 1 rfl) ?_
  refine lv_icmp_eq (tgt := 1047) hx hb dL_law_1042 (by decide) (fun _ => ?_) (fun h9 => absurd h9 (by decide))
  refine lv_iload hx hb dL_law_1047 (lv_at hl 1 rfl) ?_
  refine lv_if_ne (tgt := 1064) hx hb dL_law_1049 (by decide) (fun _ => ?_) (fun h9 => absurd h9 (by decide))
  refine lv_goto (tgt := 2007) hx hb dL_law_1064 (by decide) ?_
  exact law_tail l C0 hAe hS (lv_sub hl [2, 7] rfl) (Nat.le_of_ble_eq_true rfl) (Nat.le_of_ble_eq_true rfl)
