set_option maxHeartbeats 4000000 in
set_option maxRecDepth 100000 in
/-- Parties.countVotes of an empty box -/
theorem c_X1_countVotes (l : Launch) (dC : Nat → ClassId) (dI : Nat → Nat → Nat) (pa : Nat) (p_v : Nat) (p_st : Nat) (p_ib : Nat) (p_di : Nat) (p_wa : Nat) (p_se : Nat) (p_vh : Nat) (p_re : Nat) (bx : Nat) (b0 : Nat) (b1 : Nat) (b4 : Nat) (b6 : Nat) (pc : Int32) (cI : ClassId) (cZ : ClassId) (sz : Nat)  : Met l yX1_countVotes wsX1_countVotes ({ frames := 3, cells := 0, slots := 0, locals := 70 }) (va_Pc [.ref pa, .ref bx] (pr_ dC dI [(pa, .inr (3, [.ref p_v, .int 0, .ref p_st, .ref p_ib, .ref p_di, .ref p_wa, .ref p_se, .ref p_vh, .ref p_re])), (bx, .inr (2, [.ref b0, .ref b1, .int 0, .int 0, .ref b4, .int 0, .ref b6, .int 0, .int pc, .int 0, .int 0])), (p_v, .inl (cI, 4, .inl zi)), (p_st, .inl (cI, 4, .inl zi)), (p_ib, .inl (cZ, 4, .inl zi))] [(cI, .int), (cZ, .boolean)] sz)) (va_Qv (fun (_ : Unit) => True) (fun (_ : Unit) t => po_ dC dI [(pa, .inr (3, [.ref p_v, .int 0, .ref p_st, .ref p_ib, .ref p_di, .ref p_wa, .ref p_se, .ref p_vh, .ref p_re])), (bx, .inr (2, [.ref b0, .ref b1, .int 0, .int 0, .ref b4, .int 0, .ref b6, .int 0, .int pc, .int 0, .int 0])), (p_v, .inl (cI, 4, .inl zi)), (p_st, .inl (cI, 4, .inl zi)), (p_ib, .inl (cZ, 4, .inl zi))] [(cI, .int), (cZ, .boolean)] (va_A [(pa, .inr (3, [.ref p_v, .int 0, .ref p_st, .ref p_ib, .ref p_di, .ref p_wa, .ref p_se, .ref p_vh, .ref p_re])), (bx, .inr (2, [.ref b0, .ref b1, .int 0, .int 0, .ref b4, .int 0, .ref b6, .int 0, .int pc, .int 0, .int 0])), (p_v, .inl (cI, 4, .inl zi)), (p_st, .inl (cI, 4, .inl zi)), (p_ib, .inl (cZ, 4, .inl zi))] sz) t) (va_A [(pa, .inr (3, [.ref p_v, .int 0, .ref p_st, .ref p_ib, .ref p_di, .ref p_wa, .ref p_se, .ref p_vh, .ref p_re])), (bx, .inr (2, [.ref b0, .ref b1, .int 0, .int 0, .ref b4, .int 0, .ref b6, .int 0, .int pc, .int 0, .int 0])), (p_v, .inl (cI, 4, .inl zi)), (p_st, .inl (cI, 4, .inl zi)), (p_ib, .inl (cZ, 4, .inl zi))] sz)) 0 0 (va_A [(pa, .inr (3, [.ref p_v, .int 0, .ref p_st, .ref p_ib, .ref p_di, .ref p_wa, .ref p_se, .ref p_vh, .ref p_re])), (bx, .inr (2, [.ref b0, .ref b1, .int 0, .int 0, .ref b4, .int 0, .ref b6, .int 0, .int pc, .int 0, .int 0])), (p_v, .inl (cI, 4, .inl zi)), (p_st, .inl (cI, 4, .inl zi)), (p_ib, .inl (cZ, 4, .inl zi))] sz) := by
  refine Met.ofW (cc := cX1_countVotes) (maxL := 4) (ret := none) (by decide) rfl ?_
  intro p e s m args below meth c s₁ B hml hv
  obtain ⟨rfl, hsz, hP, hK, hD0⟩ := hv
  have hx := B.exec
  have hb := B.bytes
  have hr := B.returns
  have hts := atoms_spec (ws := wsX1_countVotes) B.pre
  have hown : s.vm.findClass RX1 = some m.cls := findClass_of_methodNamed B.named
  have hlocks := B.notSynchronized
  subst hsz
  have hD := hD0.self (sz := s.heap.size)
  generalize hAe : va_A [(pa, .inr (3, [.ref p_v, .int 0, .ref p_st, .ref p_ib, .ref p_di, .ref p_wa, .ref p_se, .ref p_vh, .ref p_re])), (bx, .inr (2, [.ref b0, .ref b1, .int 0, .int 0, .ref b4, .int 0, .ref b6, .int 0, .int pc, .int 0, .int 0])), (p_v, .inl (cI, 4, .inl zi)), (p_st, .inl (cI, 4, .inl zi)), (p_ib, .inl (cZ, 4, .inl zi))] s.heap.size = A at hD ⊢
  have hA : ∀ q : Nat, s.heap.size ≤ q → A q := fun q h => by rw [← hAe]; exact Or.inr h
  have hS : va_S A s.heap s.heap [] := va_S.rf
  have hP : va_P (dC, dI) vwCl [(pa, .inr (3, [.ref p_v, .int 0, .ref p_st, .ref p_ib, .ref p_di, .ref p_wa, .ref p_se, .ref p_vh, .ref p_re])), (bx, .inr (2, [.ref b0, .ref b1, .int 0, .int 0, .ref b4, .int 0, .ref b6, .int 0, .int pc, .int 0, .int 0])), (p_v, .inl (cI, 4, .inl zi)), (p_st, .inl (cI, 4, .inl zi)), (p_ib, .inl (cZ, 4, .inl zi))] s.heap := hP
  have hK : va_K (dC, dI) vwCl [(cI, .int), (cZ, .boolean)] s := hK
  have hl := lv_entry ([.ref pa, .ref bx]) (n := 4) (Nat.le_of_ble_eq_true rfl)
  rw [lg_entry_eq]
  generalize (lg_sl ([.ref pa, .ref bx]) ++ List.replicate (4 - (lg_sl ([.ref pa, .ref bx])).length) Slot.unset).toArray = ls at hl ⊢
  have hl : lv_has ls 4 [(0, .ref pa), (1, .ref bx)] := hl
  refine lv_aload_n hx hb dX1_countVotes_0 rfl (lv_at hl 0 rfl) ?_
  refine lv_iconst (v := 0) hx hb dX1_countVotes_1 (by decide) ?_
  have hinX1 : ∀ w ∈ u_ws RX1 TX1 9, w ∈ wsX1_countVotes := by decide +kernel
  refine va_put (D := (dC, dI)) (ci := 3) (v := .int 0) (ty := .int) (C := RX1) (T := TX1) (N := 9) hx hb hts hinX1 tyX1 tyX1_ok nmX1 hown hK hP hD hS 0 rfl rfl 1 (by decide) (hts (.fieldLink RX1 37 "BallotLoom$Parties" "allVotes" "I") (by decide +kernel)) (fun _ h9 => h9) rfl (by decide +kernel) rfl rfl (Nat.le_of_ble_eq_true rfl) dX1_countVotes_2 (fun H locs hP hD hS => ?_)
  have hP : va_P (dC, dI) vwCl [(pa, .inr (3, [.ref p_v, .int 0, .ref p_st, .ref p_ib, .ref p_di, .ref p_wa, .ref p_se, .ref p_vh, .ref p_re])), (bx, .inr (2, [.ref b0, .ref b1, .int 0, .int 0, .ref b4, .int 0, .ref b6, .int 0, .int pc, .int 0, .int 0])), (p_v, .inl (cI, 4, .inl zi)), (p_st, .inl (cI, 4, .inl zi)), (p_ib, .inl (cZ, 4, .inl zi))] H := hP
  have hD : va_D A [(pa, .inr (3, [.ref p_v, .int 0, .ref p_st, .ref p_ib, .ref p_di, .ref p_wa, .ref p_se, .ref p_vh, .ref p_re])), (bx, .inr (2, [.ref b0, .ref b1, .int 0, .int 0, .ref b4, .int 0, .ref b6, .int 0, .int pc, .int 0, .int 0])), (p_v, .inl (cI, 4, .inl zi)), (p_st, .inl (cI, 4, .inl zi)), (p_ib, .inl (cZ, 4, .inl zi))] := hD
  refine lv_iconst (v := 0) hx hb dX1_countVotes_5 (by decide) ?_
  refine lv_istore_n (lv' := [(2, .int 0), (0, .ref pa), (1, .ref bx)]) hx hb dX1_countVotes_6 rfl hl (by decide) rfl (fun ls hl => ?_)
  refine lv_iload_n hx hb dX1_countVotes_7 rfl (lv_at hl 0 rfl) ?_
  refine lv_iconst (v := 4) hx hb dX1_countVotes_8 (by decide) ?_
  refine lv_icmp_ge (tgt := 36) hx hb dX1_countVotes_9 (by decide) (fun h9 => absurd h9 (by decide)) (fun _ => ?_)
  refine lv_aload_n hx hb dX1_countVotes_12 rfl (lv_at hl 1 rfl) ?_
  refine va_get (D := (dC, dI)) (ci := 3) (v := .ref p_v) (C := RX1) (T := TX1) (N := 9) hx hb hts hinX1 hown hK hP 0 rfl rfl 0 (by decide) (hts (.fieldLink RX1 9 "BallotLoom$Parties" "votes" "[I") (by decide +kernel)) (fun _ h9 => h9) rfl dX1_countVotes_13 ?_
  refine lv_iload_n hx hb dX1_countVotes_16 rfl (lv_at hl 0 rfl) ?_
  refine lv_iconst (v := 0) hx hb dX1_countVotes_17 (by decide) ?_
  refine va_iast hx hb hK hP hD hS 2 0 rfl rfl (by unfold vp_in; decide) dX1_countVotes_18 (fun H locs hP hD hS => ?_)
  have hP : va_P (dC, dI) vwCl [(pa, .inr (3, [.ref p_v, .int 0, .ref p_st, .ref p_ib, .ref p_di, .ref p_wa, .ref p_se, .ref p_vh, .ref p_re])), (bx, .inr (2, [.ref b0, .ref b1, .int 0, .int 0, .ref b4, .int 0, .ref b6, .int 0, .int pc, .int 0, .int 0])), (p_v, .inl (cI, 4, .inl zi)), (p_st, .inl (cI, 4, .inl zi)), (p_ib, .inl (cZ, 4, .inl zi))] H := by have h9 := hP; rw [upd_zi] at h9; exact h9
  have hD : va_D A [(pa, .inr (3, [.ref p_v, .int 0, .ref p_st, .ref p_ib, .ref p_di, .ref p_wa, .ref p_se, .ref p_vh, .ref p_re])), (bx, .inr (2, [.ref b0, .ref b1, .int 0, .int 0, .ref b4, .int 0, .ref b6, .int 0, .int pc, .int 0, .int 0])), (p_v, .inl (cI, 4, .inl zi)), (p_st, .inl (cI, 4, .inl zi)), (p_ib, .inl (cZ, 4, .inl zi))] := by have h9 := hD; rw [upd_zi] at h9; exact h9
  refine lv_aload_n hx hb dX1_countVotes_19 rfl (lv_at hl 1 rfl) ?_
  refine va_get (D := (dC, dI)) (ci := 3) (v := .ref p_st) (C := RX1) (T := TX1) (N := 9) hx hb hts hinX1 hown hK hP 0 rfl rfl 2 (by decide) (hts (.fieldLink RX1 15 "BallotLoom$Parties" "standing" "[I") (by decide +kernel)) (fun _ h9 => h9) rfl dX1_countVotes_20 ?_
  refine lv_iload_n hx hb dX1_countVotes_23 rfl (lv_at hl 0 rfl) ?_
  refine lv_aload_n hx hb dX1_countVotes_24 rfl (lv_at hl 2 rfl) ?_
  refine lv_iload_n hx hb dX1_countVotes_25 rfl (lv_at hl 0 rfl) ?_
  have hPc := hP.sub (ws' := [(bx, .inr (2, [.ref b0, .ref b1, .int 0, .int 0, .ref b4, .int 0, .ref b6, .int 0, .int pc, .int 0, .int 0]))]) [1] rfl
  have hDc := hD.sub (ws' := [(bx, .inr (2, [.ref b0, .ref b1, .int 0, .int 0, .ref b4, .int 0, .ref b6, .int 0, .int pc, .int 0, .int 0]))]) [1] (by decide) rfl
  have hKc := hK.sub (tys' := []) [] rfl
  have hFc := va_free (wc := [(bx, .inr (2, [.ref b0, .ref b1, .int 0, .int 0, .ref b4, .int 0, .ref b6, .int 0, .int pc, .int 0, .int 0]))]) hD hS hA [1] rfl
  refine va_calli (va_runV (As := [.int 0]) (rest := [.int 0, .ref p_st]) ⟨hx, hb, hml, hown, hts⟩ (c_X0_standingOf l dC dI bx b0 b1 b4 b6 (0 : Int32) pc _ ) (cwV 1 hts gX1_countVotes_X0_standingOf rfl rfl rfl (by decide +kernel) ⟨Nat.le_of_ble_eq_true rfl, Nat.le_of_ble_eq_true rfl⟩) ⟨pr_blind, va_recv hKc hPc (ci := 2) (q0 := 0) rfl rfl, fun U hU hW => ⟨rfl, pr_mk hU hW hPc hKc hDc⟩⟩ rfl rfl hl.1 rfl (lv_room (Nat.le_of_ble_eq_true rfl)) dX1_countVotes_26 ⟨Nat.le_of_ble_eq_true rfl, Nat.le_of_ble_eq_true rfl⟩) hS (fun q _ h => hFc q h) hFc (fun r_2 u_1 t H1 locs ht hvm hw hB hz1 hk1 hS => ?_)
  obtain ⟨hP1, hK1, hD1⟩ := hB
  rw [ht] at hP1
  obtain ⟨hP, hD⟩ := va_join (wr := [(pa, .inr (3, [.ref p_v, .int 0, .ref p_st, .ref p_ib, .ref p_di, .ref p_wa, .ref p_se, .ref p_vh, .ref p_re])), (p_v, .inl (cI, 4, .inl zi)), (p_st, .inl (cI, 4, .inl zi)), (p_ib, .inl (cZ, 4, .inl zi))]) (w1 := [(bx, .inr (2, [.ref b0, .ref b1, .int 0, .int 0, .ref b4, .int 0, .ref b6, .int 0, .int pc, .int 0, .int 0]))]) hP hD [1] [0, 2, 3, 4] rfl rfl (by decide) (by decide) hk1 hFc hP1 hD1
  generalize H1 = H at hP hS ⊢
  have hP : va_P (dC, dI) vwCl [(pa, .inr (3, [.ref p_v, .int 0, .ref p_st, .ref p_ib, .ref p_di, .ref p_wa, .ref p_se, .ref p_vh, .ref p_re])), (p_v, .inl (cI, 4, .inl zi)), (p_st, .inl (cI, 4, .inl zi)), (p_ib, .inl (cZ, 4, .inl zi)), (bx, .inr (2, [.ref b0, .ref b1, .int 0, .int 0, .ref b4, .int 0, .ref b6, .int 0, .int pc, .int 0, .int 0]))] H := hP
  have hD : va_D A [(pa, .inr (3, [.ref p_v, .int 0, .ref p_st, .ref p_ib, .ref p_di, .ref p_wa, .ref p_se, .ref p_vh, .ref p_re])), (p_v, .inl (cI, 4, .inl zi)), (p_st, .inl (cI, 4, .inl zi)), (p_ib, .inl (cZ, 4, .inl zi)), (bx, .inr (2, [.ref b0, .ref b1, .int 0, .int 0, .ref b4, .int 0, .ref b6, .int 0, .int pc, .int 0, .int 0]))] := hD
  refine W.widen (k := 0) (n := 0) (Nat.le_refl _) (Nat.le_refl _) ?_
  have hw : r_2 = 0 := hw
  subst hw
  refine va_iast hx hb hK hP hD hS 2 0 rfl rfl (by unfold vp_in; decide) dX1_countVotes_29 (fun H locs hP hD hS => ?_)
  have hP : va_P (dC, dI) vwCl [(pa, .inr (3, [.ref p_v, .int 0, .ref p_st, .ref p_ib, .ref p_di, .ref p_wa, .ref p_se, .ref p_vh, .ref p_re])), (p_v, .inl (cI, 4, .inl zi)), (p_st, .inl (cI, 4, .inl zi)), (p_ib, .inl (cZ, 4, .inl zi)), (bx, .inr (2, [.ref b0, .ref b1, .int 0, .int 0, .ref b4, .int 0, .ref b6, .int 0, .int pc, .int 0, .int 0]))] H := by have h9 := hP; rw [upd_zi] at h9; exact h9
  have hD : va_D A [(pa, .inr (3, [.ref p_v, .int 0, .ref p_st, .ref p_ib, .ref p_di, .ref p_wa, .ref p_se, .ref p_vh, .ref p_re])), (p_v, .inl (cI, 4, .inl zi)), (p_st, .inl (cI, 4, .inl zi)), (p_ib, .inl (cZ, 4, .inl zi)), (bx, .inr (2, [.ref b0, .ref b1, .int 0, .int 0, .ref b4, .int 0, .ref b6, .int 0, .int pc, .int 0, .int 0]))] := by have h9 := hD; rw [upd_zi] at h9; exact h9
  refine lv_iinc (k := 0) (v := 1) (lv' := [(2, .int 1), (0, .ref pa), (1, .ref bx)]) hx hb dX1_countVotes_30 hl rfl (by decide) (by decide) rfl (fun ls hl => ?_)
  refine lv_goto (tgt := 7) hx hb dX1_countVotes_33 (by decide) ?_
  refine lv_iload_n hx hb dX1_countVotes_7 rfl (lv_at hl 0 rfl) ?_
  refine lv_iconst (v := 4) hx hb dX1_countVotes_8 (by decide) ?_
  refine lv_icmp_ge (tgt := 36) hx hb dX1_countVotes_9 (by decide) (fun h9 => absurd h9 (by decide)) (fun _ => ?_)
  refine lv_aload_n hx hb dX1_countVotes_12 rfl (lv_at hl 1 rfl) ?_
  refine va_get (D := (dC, dI)) (ci := 3) (v := .ref p_v) (C := RX1) (T := TX1) (N := 9) hx hb hts hinX1 hown hK hP 0 rfl rfl 0 (by decide) (hts (.fieldLink RX1 9 "BallotLoom$Parties" "votes" "[I") (by decide +kernel)) (fun _ h9 => h9) rfl dX1_countVotes_13 ?_
  refine lv_iload_n hx hb dX1_countVotes_16 rfl (lv_at hl 0 rfl) ?_
  refine lv_iconst (v := 0) hx hb dX1_countVotes_17 (by decide) ?_
  refine va_iast hx hb hK hP hD hS 1 0 rfl rfl (by unfold vp_in; decide) dX1_countVotes_18 (fun H locs hP hD hS => ?_)
  have hP : va_P (dC, dI) vwCl [(pa, .inr (3, [.ref p_v, .int 0, .ref p_st, .ref p_ib, .ref p_di, .ref p_wa, .ref p_se, .ref p_vh, .ref p_re])), (p_v, .inl (cI, 4, .inl zi)), (p_st, .inl (cI, 4, .inl zi)), (p_ib, .inl (cZ, 4, .inl zi)), (bx, .inr (2, [.ref b0, .ref b1, .int 0, .int 0, .ref b4, .int 0, .ref b6, .int 0, .int pc, .int 0, .int 0]))] H := by have h9 := hP; rw [upd_zi] at h9; exact h9
  have hD : va_D A [(pa, .inr (3, [.ref p_v, .int 0, .ref p_st, .ref p_ib, .ref p_di, .ref p_wa, .ref p_se, .ref p_vh, .ref p_re])), (p_v, .inl (cI, 4, .inl zi)), (p_st, .inl (cI, 4, .inl zi)), (p_ib, .inl (cZ, 4, .inl zi)), (bx, .inr (2, [.ref b0, .ref b1, .int 0, .int 0, .ref b4, .int 0, .ref b6, .int 0, .int pc, .int 0, .int 0]))] := by have h9 := hD; rw [upd_zi] at h9; exact h9
  refine lv_aload_n hx hb dX1_countVotes_19 rfl (lv_at hl 1 rfl) ?_
  refine va_get (D := (dC, dI)) (ci := 3) (v := .ref p_st) (C := RX1) (T := TX1) (N := 9) hx hb hts hinX1 hown hK hP 0 rfl rfl 2 (by decide) (hts (.fieldLink RX1 15 "BallotLoom$Parties" "standing" "[I") (by decide +kernel)) (fun _ h9 => h9) rfl dX1_countVotes_20 ?_
  refine lv_iload_n hx hb dX1_countVotes_23 rfl (lv_at hl 0 rfl) ?_
  refine lv_aload_n hx hb dX1_countVotes_24 rfl (lv_at hl 2 rfl) ?_
  refine lv_iload_n hx hb dX1_countVotes_25 rfl (lv_at hl 0 rfl) ?_
  have hPc := hP.sub (ws' := [(bx, .inr (2, [.ref b0, .ref b1, .int 0, .int 0, .ref b4, .int 0, .ref b6, .int 0, .int pc, .int 0, .int 0]))]) [4] rfl
  have hDc := hD.sub (ws' := [(bx, .inr (2, [.ref b0, .ref b1, .int 0, .int 0, .ref b4, .int 0, .ref b6, .int 0, .int pc, .int 0, .int 0]))]) [4] (by decide) rfl
  have hKc := hK.sub (tys' := []) [] rfl
  have hFc := va_free (wc := [(bx, .inr (2, [.ref b0, .ref b1, .int 0, .int 0, .ref b4, .int 0, .ref b6, .int 0, .int pc, .int 0, .int 0]))]) hD hS hA [4] rfl
  refine va_calli (va_runV (As := [.int 1]) (rest := [.int 1, .ref p_st]) ⟨hx, hb, hml, hown, hts⟩ (c_X0_standingOf l dC dI bx b0 b1 b4 b6 (1 : Int32) pc _ ) (cwV 1 hts gX1_countVotes_X0_standingOf rfl rfl rfl (by decide +kernel) ⟨Nat.le_of_ble_eq_true rfl, Nat.le_of_ble_eq_true rfl⟩) ⟨pr_blind, va_recv hKc hPc (ci := 2) (q0 := 0) rfl rfl, fun U hU hW => ⟨rfl, pr_mk hU hW hPc hKc hDc⟩⟩ rfl rfl hl.1 rfl (lv_room (Nat.le_of_ble_eq_true rfl)) dX1_countVotes_26 ⟨Nat.le_of_ble_eq_true rfl, Nat.le_of_ble_eq_true rfl⟩) hS (fun q _ h => hFc q h) hFc (fun r_4 u_3 t H1 locs ht hvm hw hB hz1 hk1 hS => ?_)
  obtain ⟨hP1, hK1, hD1⟩ := hB
  rw [ht] at hP1
  obtain ⟨hP, hD⟩ := va_join (wr := [(pa, .inr (3, [.ref p_v, .int 0, .ref p_st, .ref p_ib, .ref p_di, .ref p_wa, .ref p_se, .ref p_vh, .ref p_re])), (p_v, .inl (cI, 4, .inl zi)), (p_st, .inl (cI, 4, .inl zi)), (p_ib, .inl (cZ, 4, .inl zi))]) (w1 := [(bx, .inr (2, [.ref b0, .ref b1, .int 0, .int 0, .ref b4, .int 0, .ref b6, .int 0, .int pc, .int 0, .int 0]))]) hP hD [4] [0, 1, 2, 3] rfl rfl (by decide) (by decide) hk1 hFc hP1 hD1
  generalize H1 = H at hP hS ⊢
  have hP : va_P (dC, dI) vwCl [(pa, .inr (3, [.ref p_v, .int 0, .ref p_st, .ref p_ib, .ref p_di, .ref p_wa, .ref p_se, .ref p_vh, .ref p_re])), (p_v, .inl (cI, 4, .inl zi)), (p_st, .inl (cI, 4, .inl zi)), (p_ib, .inl (cZ, 4, .inl zi)), (bx, .inr (2, [.ref b0, .ref b1, .int 0, .int 0, .ref b4, .int 0, .ref b6, .int 0, .int pc, .int 0, .int 0]))] H := hP
  have hD : va_D A [(pa, .inr (3, [.ref p_v, .int 0, .ref p_st, .ref p_ib, .ref p_di, .ref p_wa, .ref p_se, .ref p_vh, .ref p_re])), (p_v, .inl (cI, 4, .inl zi)), (p_st, .inl (cI, 4, .inl zi)), (p_ib, .inl (cZ, 4, .inl zi)), (bx, .inr (2, [.ref b0, .ref b1, .int 0, .int 0, .ref b4, .int 0, .ref b6, .int 0, .int pc, .int 0, .int 0]))] := hD
  refine W.widen (k := 0) (n := 0) (Nat.le_refl _) (Nat.le_refl _) ?_
  have hw : r_4 = 0 := hw
  subst hw
  refine va_iast hx hb hK hP hD hS 2 0 rfl rfl (by unfold vp_in; decide) dX1_countVotes_29 (fun H locs hP hD hS => ?_)
  have hP : va_P (dC, dI) vwCl [(pa, .inr (3, [.ref p_v, .int 0, .ref p_st, .ref p_ib, .ref p_di, .ref p_wa, .ref p_se, .ref p_vh, .ref p_re])), (p_v, .inl (cI, 4, .inl zi)), (p_st, .inl (cI, 4, .inl zi)), (p_ib, .inl (cZ, 4, .inl zi)), (bx, .inr (2, [.ref b0, .ref b1, .int 0, .int 0, .ref b4, .int 0, .ref b6, .int 0, .int pc, .int 0, .int 0]))] H := by have h9 := hP; rw [upd_zi] at h9; exact h9
  have hD : va_D A [(pa, .inr (3, [.ref p_v, .int 0, .ref p_st, .ref p_ib, .ref p_di, .ref p_wa, .ref p_se, .ref p_vh, .ref p_re])), (p_v, .inl (cI, 4, .inl zi)), (p_st, .inl (cI, 4, .inl zi)), (p_ib, .inl (cZ, 4, .inl zi)), (bx, .inr (2, [.ref b0, .ref b1, .int 0, .int 0, .ref b4, .int 0, .ref b6, .int 0, .int pc, .int 0, .int 0]))] := by have h9 := hD; rw [upd_zi] at h9; exact h9
  refine lv_iinc (k := 0) (v := 2) (lv' := [(2, .int 2), (0, .ref pa), (1, .ref bx)]) hx hb dX1_countVotes_30 hl rfl (by decide) (by decide) rfl (fun ls hl => ?_)
  refine lv_goto (tgt := 7) hx hb dX1_countVotes_33 (by decide) ?_
  refine lv_iload_n hx hb dX1_countVotes_7 rfl (lv_at hl 0 rfl) ?_
  refine lv_iconst (v := 4) hx hb dX1_countVotes_8 (by decide) ?_
  refine lv_icmp_ge (tgt := 36) hx hb dX1_countVotes_9 (by decide) (fun h9 => absurd h9 (by decide)) (fun _ => ?_)
  refine lv_aload_n hx hb dX1_countVotes_12 rfl (lv_at hl 1 rfl) ?_
  refine va_get (D := (dC, dI)) (ci := 3) (v := .ref p_v) (C := RX1) (T := TX1) (N := 9) hx hb hts hinX1 hown hK hP 0 rfl rfl 0 (by decide) (hts (.fieldLink RX1 9 "BallotLoom$Parties" "votes" "[I") (by decide +kernel)) (fun _ h9 => h9) rfl dX1_countVotes_13 ?_
  refine lv_iload_n hx hb dX1_countVotes_16 rfl (lv_at hl 0 rfl) ?_
  refine lv_iconst (v := 0) hx hb dX1_countVotes_17 (by decide) ?_
  refine va_iast hx hb hK hP hD hS 1 0 rfl rfl (by unfold vp_in; decide) dX1_countVotes_18 (fun H locs hP hD hS => ?_)
  have hP : va_P (dC, dI) vwCl [(pa, .inr (3, [.ref p_v, .int 0, .ref p_st, .ref p_ib, .ref p_di, .ref p_wa, .ref p_se, .ref p_vh, .ref p_re])), (p_v, .inl (cI, 4, .inl zi)), (p_st, .inl (cI, 4, .inl zi)), (p_ib, .inl (cZ, 4, .inl zi)), (bx, .inr (2, [.ref b0, .ref b1, .int 0, .int 0, .ref b4, .int 0, .ref b6, .int 0, .int pc, .int 0, .int 0]))] H := by have h9 := hP; rw [upd_zi] at h9; exact h9
  have hD : va_D A [(pa, .inr (3, [.ref p_v, .int 0, .ref p_st, .ref p_ib, .ref p_di, .ref p_wa, .ref p_se, .ref p_vh, .ref p_re])), (p_v, .inl (cI, 4, .inl zi)), (p_st, .inl (cI, 4, .inl zi)), (p_ib, .inl (cZ, 4, .inl zi)), (bx, .inr (2, [.ref b0, .ref b1, .int 0, .int 0, .ref b4, .int 0, .ref b6, .int 0, .int pc, .int 0, .int 0]))] := by have h9 := hD; rw [upd_zi] at h9; exact h9
  refine lv_aload_n hx hb dX1_countVotes_19 rfl (lv_at hl 1 rfl) ?_
  refine va_get (D := (dC, dI)) (ci := 3) (v := .ref p_st) (C := RX1) (T := TX1) (N := 9) hx hb hts hinX1 hown hK hP 0 rfl rfl 2 (by decide) (hts (.fieldLink RX1 15 "BallotLoom$Parties" "standing" "[I") (by decide +kernel)) (fun _ h9 => h9) rfl dX1_countVotes_20 ?_
  refine lv_iload_n hx hb dX1_countVotes_23 rfl (lv_at hl 0 rfl) ?_
  refine lv_aload_n hx hb dX1_countVotes_24 rfl (lv_at hl 2 rfl) ?_
  refine lv_iload_n hx hb dX1_countVotes_25 rfl (lv_at hl 0 rfl) ?_
  have hPc := hP.sub (ws' := [(bx, .inr (2, [.ref b0, .ref b1, .int 0, .int 0, .ref b4, .int 0, .ref b6, .int 0, .int pc, .int 0, .int 0]))]) [4] rfl
  have hDc := hD.sub (ws' := [(bx, .inr (2, [.ref b0, .ref b1, .int 0, .int 0, .ref b4, .int 0, .ref b6, .int 0, .int pc, .int 0, .int 0]))]) [4] (by decide) rfl
  have hKc := hK.sub (tys' := []) [] rfl
  have hFc := va_free (wc := [(bx, .inr (2, [.ref b0, .ref b1, .int 0, .int 0, .ref b4, .int 0, .ref b6, .int 0, .int pc, .int 0, .int 0]))]) hD hS hA [4] rfl
  refine va_calli (va_runV (As := [.int 2]) (rest := [.int 2, .ref p_st]) ⟨hx, hb, hml, hown, hts⟩ (c_X0_standingOf l dC dI bx b0 b1 b4 b6 (2 : Int32) pc _ ) (cwV 1 hts gX1_countVotes_X0_standingOf rfl rfl rfl (by decide +kernel) ⟨Nat.le_of_ble_eq_true rfl, Nat.le_of_ble_eq_true rfl⟩) ⟨pr_blind, va_recv hKc hPc (ci := 2) (q0 := 0) rfl rfl, fun U hU hW => ⟨rfl, pr_mk hU hW hPc hKc hDc⟩⟩ rfl rfl hl.1 rfl (lv_room (Nat.le_of_ble_eq_true rfl)) dX1_countVotes_26 ⟨Nat.le_of_ble_eq_true rfl, Nat.le_of_ble_eq_true rfl⟩) hS (fun q _ h => hFc q h) hFc (fun r_6 u_5 t H1 locs ht hvm hw hB hz1 hk1 hS => ?_)
  obtain ⟨hP1, hK1, hD1⟩ := hB
  rw [ht] at hP1
  obtain ⟨hP, hD⟩ := va_join (wr := [(pa, .inr (3, [.ref p_v, .int 0, .ref p_st, .ref p_ib, .ref p_di, .ref p_wa, .ref p_se, .ref p_vh, .ref p_re])), (p_v, .inl (cI, 4, .inl zi)), (p_st, .inl (cI, 4, .inl zi)), (p_ib, .inl (cZ, 4, .inl zi))]) (w1 := [(bx, .inr (2, [.ref b0, .ref b1, .int 0, .int 0, .ref b4, .int 0, .ref b6, .int 0, .int pc, .int 0, .int 0]))]) hP hD [4] [0, 1, 2, 3] rfl rfl (by decide) (by decide) hk1 hFc hP1 hD1
  generalize H1 = H at hP hS ⊢
  have hP : va_P (dC, dI) vwCl [(pa, .inr (3, [.ref p_v, .int 0, .ref p_st, .ref p_ib, .ref p_di, .ref p_wa, .ref p_se, .ref p_vh, .ref p_re])), (p_v, .inl (cI, 4, .inl zi)), (p_st, .inl (cI, 4, .inl zi)), (p_ib, .inl (cZ, 4, .inl zi)), (bx, .inr (2, [.ref b0, .ref b1, .int 0, .int 0, .ref b4, .int 0, .ref b6, .int 0, .int pc, .int 0, .int 0]))] H := hP
  have hD : va_D A [(pa, .inr (3, [.ref p_v, .int 0, .ref p_st, .ref p_ib, .ref p_di, .ref p_wa, .ref p_se, .ref p_vh, .ref p_re])), (p_v, .inl (cI, 4, .inl zi)), (p_st, .inl (cI, 4, .inl zi)), (p_ib, .inl (cZ, 4, .inl zi)), (bx, .inr (2, [.ref b0, .ref b1, .int 0, .int 0, .ref b4, .int 0, .ref b6, .int 0, .int pc, .int 0, .int 0]))] := hD
  refine W.widen (k := 0) (n := 0) (Nat.le_refl _) (Nat.le_refl _) ?_
  have hw : r_6 = 0 := hw
  subst hw
  refine va_iast hx hb hK hP hD hS 2 0 rfl rfl (by unfold vp_in; decide) dX1_countVotes_29 (fun H locs hP hD hS => ?_)
  have hP : va_P (dC, dI) vwCl [(pa, .inr (3, [.ref p_v, .int 0, .ref p_st, .ref p_ib, .ref p_di, .ref p_wa, .ref p_se, .ref p_vh, .ref p_re])), (p_v, .inl (cI, 4, .inl zi)), (p_st, .inl (cI, 4, .inl zi)), (p_ib, .inl (cZ, 4, .inl zi)), (bx, .inr (2, [.ref b0, .ref b1, .int 0, .int 0, .ref b4, .int 0, .ref b6, .int 0, .int pc, .int 0, .int 0]))] H := by have h9 := hP; rw [upd_zi] at h9; exact h9
  have hD : va_D A [(pa, .inr (3, [.ref p_v, .int 0, .ref p_st, .ref p_ib, .ref p_di, .ref p_wa, .ref p_se, .ref p_vh, .ref p_re])), (p_v, .inl (cI, 4, .inl zi)), (p_st, .inl (cI, 4, .inl zi)), (p_ib, .inl (cZ, 4, .inl zi)), (bx, .inr (2, [.ref b0, .ref b1, .int 0, .int 0, .ref b4, .int 0, .ref b6, .int 0, .int pc, .int 0, .int 0]))] := by have h9 := hD; rw [upd_zi] at h9; exact h9
  refine lv_iinc (k := 0) (v := 3) (lv' := [(2, .int 3), (0, .ref pa), (1, .ref bx)]) hx hb dX1_countVotes_30 hl rfl (by decide) (by decide) rfl (fun ls hl => ?_)
  refine lv_goto (tgt := 7) hx hb dX1_countVotes_33 (by decide) ?_
  refine lv_iload_n hx hb dX1_countVotes_7 rfl (lv_at hl 0 rfl) ?_
  refine lv_iconst (v := 4) hx hb dX1_countVotes_8 (by decide) ?_
  refine lv_icmp_ge (tgt := 36) hx hb dX1_countVotes_9 (by decide) (fun h9 => absurd h9 (by decide)) (fun _ => ?_)
  refine lv_aload_n hx hb dX1_countVotes_12 rfl (lv_at hl 1 rfl) ?_
  refine va_get (D := (dC, dI)) (ci := 3) (v := .ref p_v) (C := RX1) (T := TX1) (N := 9) hx hb hts hinX1 hown hK hP 0 rfl rfl 0 (by decide) (hts (.fieldLink RX1 9 "BallotLoom$Parties" "votes" "[I") (by decide +kernel)) (fun _ h9 => h9) rfl dX1_countVotes_13 ?_
  refine lv_iload_n hx hb dX1_countVotes_16 rfl (lv_at hl 0 rfl) ?_
  refine lv_iconst (v := 0) hx hb dX1_countVotes_17 (by decide) ?_
  refine va_iast hx hb hK hP hD hS 1 0 rfl rfl (by unfold vp_in; decide) dX1_countVotes_18 (fun H locs hP hD hS => ?_)
  have hP : va_P (dC, dI) vwCl [(pa, .inr (3, [.ref p_v, .int 0, .ref p_st, .ref p_ib, .ref p_di, .ref p_wa, .ref p_se, .ref p_vh, .ref p_re])), (p_v, .inl (cI, 4, .inl zi)), (p_st, .inl (cI, 4, .inl zi)), (p_ib, .inl (cZ, 4, .inl zi)), (bx, .inr (2, [.ref b0, .ref b1, .int 0, .int 0, .ref b4, .int 0, .ref b6, .int 0, .int pc, .int 0, .int 0]))] H := by have h9 := hP; rw [upd_zi] at h9; exact h9
  have hD : va_D A [(pa, .inr (3, [.ref p_v, .int 0, .ref p_st, .ref p_ib, .ref p_di, .ref p_wa, .ref p_se, .ref p_vh, .ref p_re])), (p_v, .inl (cI, 4, .inl zi)), (p_st, .inl (cI, 4, .inl zi)), (p_ib, .inl (cZ, 4, .inl zi)), (bx, .inr (2, [.ref b0, .ref b1, .int 0, .int 0, .ref b4, .int 0, .ref b6, .int 0, .int pc, .int 0, .int 0]))] := by have h9 := hD; rw [upd_zi] at h9; exact h9
  refine lv_aload_n hx hb dX1_countVotes_19 rfl (lv_at hl 1 rfl) ?_
  refine va_get (D := (dC, dI)) (ci := 3) (v := .ref p_st) (C := RX1) (T := TX1) (N := 9) hx hb hts hinX1 hown hK hP 0 rfl rfl 2 (by decide) (hts (.fieldLink RX1 15 "BallotLoom$Parties" "standing" "[I") (by decide +kernel)) (fun _ h9 => h9) rfl dX1_countVotes_20 ?_
  refine lv_iload_n hx hb dX1_countVotes_23 rfl (lv_at hl 0 rfl) ?_
  refine lv_aload_n hx hb dX1_countVotes_24 rfl (lv_at hl 2 rfl) ?_
  refine lv_iload_n hx hb dX1_countVotes_25 rfl (lv_at hl 0 rfl) ?_
  have hPc := hP.sub (ws' := [(bx, .inr (2, [.ref b0, .ref b1, .int 0, .int 0, .ref b4, .int 0, .ref b6, .int 0, .int pc, .int 0, .int 0]))]) [4] rfl
  have hDc := hD.sub (ws' := [(bx, .inr (2, [.ref b0, .ref b1, .int 0, .int 0, .ref b4, .int 0, .ref b6, .int 0, .int pc, .int 0, .int 0]))]) [4] (by decide) rfl
  have hKc := hK.sub (tys' := []) [] rfl
  have hFc := va_free (wc := [(bx, .inr (2, [.ref b0, .ref b1, .int 0, .int 0, .ref b4, .int 0, .ref b6, .int 0, .int pc, .int 0, .int 0]))]) hD hS hA [4] rfl
  refine va_calli (va_runV (As := [.int 3]) (rest := [.int 3, .ref p_st]) ⟨hx, hb, hml, hown, hts⟩ (c_X0_standingOf l dC dI bx b0 b1 b4 b6 (3 : Int32) pc _ ) (cwV 1 hts gX1_countVotes_X0_standingOf rfl rfl rfl (by decide +kernel) ⟨Nat.le_of_ble_eq_true rfl, Nat.le_of_ble_eq_true rfl⟩) ⟨pr_blind, va_recv hKc hPc (ci := 2) (q0 := 0) rfl rfl, fun U hU hW => ⟨rfl, pr_mk hU hW hPc hKc hDc⟩⟩ rfl rfl hl.1 rfl (lv_room (Nat.le_of_ble_eq_true rfl)) dX1_countVotes_26 ⟨Nat.le_of_ble_eq_true rfl, Nat.le_of_ble_eq_true rfl⟩) hS (fun q _ h => hFc q h) hFc (fun r_8 u_7 t H1 locs ht hvm hw hB hz1 hk1 hS => ?_)
  obtain ⟨hP1, hK1, hD1⟩ := hB
  rw [ht] at hP1
  obtain ⟨hP, hD⟩ := va_join (wr := [(pa, .inr (3, [.ref p_v, .int 0, .ref p_st, .ref p_ib, .ref p_di, .ref p_wa, .ref p_se, .ref p_vh, .ref p_re])), (p_v, .inl (cI, 4, .inl zi)), (p_st, .inl (cI, 4, .inl zi)), (p_ib, .inl (cZ, 4, .inl zi))]) (w1 := [(bx, .inr (2, [.ref b0, .ref b1, .int 0, .int 0, .ref b4, .int 0, .ref b6, .int 0, .int pc, .int 0, .int 0]))]) hP hD [4] [0, 1, 2, 3] rfl rfl (by decide) (by decide) hk1 hFc hP1 hD1
  generalize H1 = H at hP hS ⊢
  have hP : va_P (dC, dI) vwCl [(pa, .inr (3, [.ref p_v, .int 0, .ref p_st, .ref p_ib, .ref p_di, .ref p_wa, .ref p_se, .ref p_vh, .ref p_re])), (p_v, .inl (cI, 4, .inl zi)), (p_st, .inl (cI, 4, .inl zi)), (p_ib, .inl (cZ, 4, .inl zi)), (bx, .inr (2, [.ref b0, .ref b1, .int 0, .int 0, .ref b4, .int 0, .ref b6, .int 0, .int pc, .int 0, .int 0]))] H := hP
  have hD : va_D A [(pa, .inr (3, [.ref p_v, .int 0, .ref p_st, .ref p_ib, .ref p_di, .ref p_wa, .ref p_se, .ref p_vh, .ref p_re])), (p_v, .inl (cI, 4, .inl zi)), (p_st, .inl (cI, 4, .inl zi)), (p_ib, .inl (cZ, 4, .inl zi)), (bx, .inr (2, [.ref b0, .ref b1, .int 0, .int 0, .ref b4, .int 0, .ref b6, .int 0, .int pc, .int 0, .int 0]))] := hD
  refine W.widen (k := 0) (n := 0) (Nat.le_refl _) (Nat.le_refl _) ?_
  have hw : r_8 = 0 := hw
  subst hw
  refine va_iast hx hb hK hP hD hS 2 0 rfl rfl (by unfold vp_in; decide) dX1_countVotes_29 (fun H locs hP hD hS => ?_)
  have hP : va_P (dC, dI) vwCl [(pa, .inr (3, [.ref p_v, .int 0, .ref p_st, .ref p_ib, .ref p_di, .ref p_wa, .ref p_se, .ref p_vh, .ref p_re])), (p_v, .inl (cI, 4, .inl zi)), (p_st, .inl (cI, 4, .inl zi)), (p_ib, .inl (cZ, 4, .inl zi)), (bx, .inr (2, [.ref b0, .ref b1, .int 0, .int 0, .ref b4, .int 0, .ref b6, .int 0, .int pc, .int 0, .int 0]))] H := by have h9 := hP; rw [upd_zi] at h9; exact h9
  have hD : va_D A [(pa, .inr (3, [.ref p_v, .int 0, .ref p_st, .ref p_ib, .ref p_di, .ref p_wa, .ref p_se, .ref p_vh, .ref p_re])), (p_v, .inl (cI, 4, .inl zi)), (p_st, .inl (cI, 4, .inl zi)), (p_ib, .inl (cZ, 4, .inl zi)), (bx, .inr (2, [.ref b0, .ref b1, .int 0, .int 0, .ref b4, .int 0, .ref b6, .int 0, .int pc, .int 0, .int 0]))] := by have h9 := hD; rw [upd_zi] at h9; exact h9
  refine lv_iinc (k := 0) (v := 4) (lv' := [(2, .int 4), (0, .ref pa), (1, .ref bx)]) hx hb dX1_countVotes_30 hl rfl (by decide) (by decide) rfl (fun ls hl => ?_)
  refine lv_goto (tgt := 7) hx hb dX1_countVotes_33 (by decide) ?_
  refine lv_iload_n hx hb dX1_countVotes_7 rfl (lv_at hl 0 rfl) ?_
  refine lv_iconst (v := 4) hx hb dX1_countVotes_8 (by decide) ?_
  refine lv_icmp_ge (tgt := 36) hx hb dX1_countVotes_9 (by decide) (fun _ => ?_) (fun h9 => absurd h9 (by decide))
  refine lv_iconst (v := 0) hx hb dX1_countVotes_36 (by decide) ?_
  refine lv_istore_n (lv' := [(2, .int 0), (0, .ref pa), (1, .ref bx)]) hx hb dX1_countVotes_37 rfl hl (by decide) rfl (fun ls hl => ?_)
  refine lv_iload_n hx hb dX1_countVotes_38 rfl (lv_at hl 0 rfl) ?_
  refine lv_aload_n hx hb dX1_countVotes_39 rfl (lv_at hl 2 rfl) ?_
  have hinX0 : ∀ w ∈ u_ws RX0 TX0 11, w ∈ wsX1_countVotes := by decide +kernel
  refine va_get (D := (dC, dI)) (ci := 2) (v := .int 0) (C := RX0) (T := TX0) (N := 11) hx hb hts hinX0 hown hK hP 4 rfl rfl 7 (by decide) (hts (.fieldLink RX1 47 "BallotLoom$Box" "cast" "I") (by decide +kernel)) (fun _ h9 => h9) rfl dX1_countVotes_40 ?_
  refine lv_icmp_ge (tgt := 102) hx hb dX1_countVotes_43 (by decide) (fun _ => ?_) (fun h9 => absurd h9 (by decide))
  refine lv_iconst (v := 0) hx hb dX1_countVotes_102 (by decide) ?_
  refine lv_istore_n (lv' := [(2, .int 0), (0, .ref pa), (1, .ref bx)]) hx hb dX1_countVotes_103 rfl hl (by decide) rfl (fun ls hl => ?_)
  refine lv_iload_n hx hb dX1_countVotes_104 rfl (lv_at hl 0 rfl) ?_
  refine lv_iconst (v := 4) hx hb dX1_countVotes_105 (by decide) ?_
  refine lv_icmp_ge (tgt := 147) hx hb dX1_countVotes_106 (by decide) (fun h9 => absurd h9 (by decide)) (fun _ => ?_)
  refine lv_aload_n hx hb dX1_countVotes_109 rfl (lv_at hl 1 rfl) ?_
  refine va_get (D := (dC, dI)) (ci := 3) (v := .ref p_ib) (C := RX1) (T := TX1) (N := 9) hx hb hts hinX1 hown hK hP 0 rfl rfl 3 (by decide) (hts (.fieldLink RX1 18 "BallotLoom$Parties" "isBarred" "[Z") (by decide +kernel)) (fun _ h9 => h9) rfl dX1_countVotes_110 ?_
  refine lv_iload_n hx hb dX1_countVotes_113 rfl (lv_at hl 0 rfl) ?_
  refine lv_bipush (v := 100) hx hb dX1_countVotes_114 (by decide) ?_
  refine lv_aload_n hx hb dX1_countVotes_116 rfl (lv_at hl 1 rfl) ?_
  refine va_get (D := (dC, dI)) (ci := 3) (v := .ref p_v) (C := RX1) (T := TX1) (N := 9) hx hb hts hinX1 hown hK hP 0 rfl rfl 0 (by decide) (hts (.fieldLink RX1 9 "BallotLoom$Parties" "votes" "[I") (by decide +kernel)) (fun _ h9 => h9) rfl dX1_countVotes_117 ?_
  refine lv_iload_n hx hb dX1_countVotes_120 rfl (lv_at hl 0 rfl) ?_
  refine va_iald hx hb hK hP 1 0 rfl rfl (by unfold vp_in; decide) dX1_countVotes_121 ?_
  refine lv_topi (fun y_9 ey_9 => ?_)
  obtain rfl : y_9 = 0 := ey_9.trans (by rfl)
  refine lv_imul hx hb dX1_countVotes_122 ?_
  refine lv_topi (fun y_10 ey_10 => ?_)
  obtain rfl : y_10 = 0 := ey_10.trans (by decide)
  refine lv_aload_n hx hb dX1_countVotes_123 rfl (lv_at hl 2 rfl) ?_
  refine va_get (D := (dC, dI)) (ci := 2) (v := .int pc) (C := RX0) (T := TX0) (N := 11) hx hb hts hinX0 hown hK hP 4 rfl rfl 8 (by decide) (hts (.fieldLink RX1 68 "BallotLoom$Box" "percent" "I") (by decide +kernel)) (fun _ h9 => h9) rfl dX1_countVotes_124 ?_
  refine lv_aload_n hx hb dX1_countVotes_127 rfl (lv_at hl 1 rfl) ?_
  refine va_get (D := (dC, dI)) (ci := 3) (v := .int 0) (C := RX1) (T := TX1) (N := 9) hx hb hts hinX1 hown hK hP 0 rfl rfl 1 (by decide) (hts (.fieldLink RX1 37 "BallotLoom$Parties" "allVotes" "I") (by decide +kernel)) (fun _ h9 => h9) rfl dX1_countVotes_128 ?_
  refine lv_imul hx hb dX1_countVotes_131 ?_
  refine lv_topi (fun y_11 ey_11 => ?_)
  obtain rfl : y_11 = 0 := ey_11.trans (by simp)
  refine lv_icmp_ge (tgt := 139) hx hb dX1_countVotes_132 (by decide) (fun _ => ?_) (fun h9 => absurd h9 (by decide))
  refine lv_iconst (v := 0) hx hb dX1_countVotes_139 (by decide) ?_
  refine va_zast hx hb hK hP hD hS 3 1 rfl rfl (by unfold vp_in; decide) dX1_countVotes_140 (fun H locs hP hD hS => ?_)
  have hP : va_P (dC, dI) vwCl [(pa, .inr (3, [.ref p_v, .int 0, .ref p_st, .ref p_ib, .ref p_di, .ref p_wa, .ref p_se, .ref p_vh, .ref p_re])), (p_v, .inl (cI, 4, .inl zi)), (p_st, .inl (cI, 4, .inl zi)), (p_ib, .inl (cZ, 4, .inl zi)), (bx, .inr (2, [.ref b0, .ref b1, .int 0, .int 0, .ref b4, .int 0, .ref b6, .int 0, .int pc, .int 0, .int 0]))] H := by have h9 := hP; rw [upd_zz] at h9; exact h9
  have hD : va_D A [(pa, .inr (3, [.ref p_v, .int 0, .ref p_st, .ref p_ib, .ref p_di, .ref p_wa, .ref p_se, .ref p_vh, .ref p_re])), (p_v, .inl (cI, 4, .inl zi)), (p_st, .inl (cI, 4, .inl zi)), (p_ib, .inl (cZ, 4, .inl zi)), (bx, .inr (2, [.ref b0, .ref b1, .int 0, .int 0, .ref b4, .int 0, .ref b6, .int 0, .int pc, .int 0, .int 0]))] := by have h9 := hD; rw [upd_zz] at h9; exact h9
  refine lv_iinc (k := 0) (v := 1) (lv' := [(2, .int 1), (0, .ref pa), (1, .ref bx)]) hx hb dX1_countVotes_141 hl rfl (by decide) (by decide) rfl (fun ls hl => ?_)
  refine lv_goto (tgt := 104) hx hb dX1_countVotes_144 (by decide) ?_
  refine lv_iload_n hx hb dX1_countVotes_104 rfl (lv_at hl 0 rfl) ?_
  refine lv_iconst (v := 4) hx hb dX1_countVotes_105 (by decide) ?_
  refine lv_icmp_ge (tgt := 147) hx hb dX1_countVotes_106 (by decide) (fun h9 => absurd h9 (by decide)) (fun _ => ?_)
  refine lv_aload_n hx hb dX1_countVotes_109 rfl (lv_at hl 1 rfl) ?_
  refine va_get (D := (dC, dI)) (ci := 3) (v := .ref p_ib) (C := RX1) (T := TX1) (N := 9) hx hb hts hinX1 hown hK hP 0 rfl rfl 3 (by decide) (hts (.fieldLink RX1 18 "BallotLoom$Parties" "isBarred" "[Z") (by decide +kernel)) (fun _ h9 => h9) rfl dX1_countVotes_110 ?_
  refine lv_iload_n hx hb dX1_countVotes_113 rfl (lv_at hl 0 rfl) ?_
  refine lv_bipush (v := 100) hx hb dX1_countVotes_114 (by decide) ?_
  refine lv_aload_n hx hb dX1_countVotes_116 rfl (lv_at hl 1 rfl) ?_
  refine va_get (D := (dC, dI)) (ci := 3) (v := .ref p_v) (C := RX1) (T := TX1) (N := 9) hx hb hts hinX1 hown hK hP 0 rfl rfl 0 (by decide) (hts (.fieldLink RX1 9 "BallotLoom$Parties" "votes" "[I") (by decide +kernel)) (fun _ h9 => h9) rfl dX1_countVotes_117 ?_
  refine lv_iload_n hx hb dX1_countVotes_120 rfl (lv_at hl 0 rfl) ?_
  refine va_iald hx hb hK hP 1 0 rfl rfl (by unfold vp_in; decide) dX1_countVotes_121 ?_
  refine lv_topi (fun y_12 ey_12 => ?_)
  obtain rfl : y_12 = 0 := ey_12.trans (by rfl)
  refine lv_imul hx hb dX1_countVotes_122 ?_
  refine lv_topi (fun y_13 ey_13 => ?_)
  obtain rfl : y_13 = 0 := ey_13.trans (by decide)
  refine lv_aload_n hx hb dX1_countVotes_123 rfl (lv_at hl 2 rfl) ?_
  refine va_get (D := (dC, dI)) (ci := 2) (v := .int pc) (C := RX0) (T := TX0) (N := 11) hx hb hts hinX0 hown hK hP 4 rfl rfl 8 (by decide) (hts (.fieldLink RX1 68 "BallotLoom$Box" "percent" "I") (by decide +kernel)) (fun _ h9 => h9) rfl dX1_countVotes_124 ?_
  refine lv_aload_n hx hb dX1_countVotes_127 rfl (lv_at hl 1 rfl) ?_
  refine va_get (D := (dC, dI)) (ci := 3) (v := .int 0) (C := RX1) (T := TX1) (N := 9) hx hb hts hinX1 hown hK hP 0 rfl rfl 1 (by decide) (hts (.fieldLink RX1 37 "BallotLoom$Parties" "allVotes" "I") (by decide +kernel)) (fun _ h9 => h9) rfl dX1_countVotes_128 ?_
  refine lv_imul hx hb dX1_countVotes_131 ?_
  refine lv_topi (fun y_14 ey_14 => ?_)
  obtain rfl : y_14 = 0 := ey_14.trans (by simp)
  refine lv_icmp_ge (tgt := 139) hx hb dX1_countVotes_132 (by decide) (fun _ => ?_) (fun h9 => absurd h9 (by decide))
  refine lv_iconst (v := 0) hx hb dX1_countVotes_139 (by decide) ?_
  refine va_zast hx hb hK hP hD hS 3 1 rfl rfl (by unfold vp_in; decide) dX1_countVotes_140 (fun H locs hP hD hS => ?_)
  have hP : va_P (dC, dI) vwCl [(pa, .inr (3, [.ref p_v, .int 0, .ref p_st, .ref p_ib, .ref p_di, .ref p_wa, .ref p_se, .ref p_vh, .ref p_re])), (p_v, .inl (cI, 4, .inl zi)), (p_st, .inl (cI, 4, .inl zi)), (p_ib, .inl (cZ, 4, .inl zi)), (bx, .inr (2, [.ref b0, .ref b1, .int 0, .int 0, .ref b4, .int 0, .ref b6, .int 0, .int pc, .int 0, .int 0]))] H := by have h9 := hP; rw [upd_zz] at h9; exact h9
  have hD : va_D A [(pa, .inr (3, [.ref p_v, .int 0, .ref p_st, .ref p_ib, .ref p_di, .ref p_wa, .ref p_se, .ref p_vh, .ref p_re])), (p_v, .inl (cI, 4, .inl zi)), (p_st, .inl (cI, 4, .inl zi)), (p_ib, .inl (cZ, 4, .inl zi)), (bx, .inr (2, [.ref b0, .ref b1, .int 0, .int 0, .ref b4, .int 0, .ref b6, .int 0, .int pc, .int 0, .int 0]))] := by have h9 := hD; rw [upd_zz] at h9; exact h9
  refine lv_iinc (k := 0) (v := 2) (lv' := [(2, .int 2), (0, .ref pa), (1, .ref bx)]) hx hb dX1_countVotes_141 hl rfl (by decide) (by decide) rfl (fun ls hl => ?_)
  refine lv_goto (tgt := 104) hx hb dX1_countVotes_144 (by decide) ?_
  refine lv_iload_n hx hb dX1_countVotes_104 rfl (lv_at hl 0 rfl) ?_
  refine lv_iconst (v := 4) hx hb dX1_countVotes_105 (by decide) ?_
  refine lv_icmp_ge (tgt := 147) hx hb dX1_countVotes_106 (by decide) (fun h9 => absurd h9 (by decide)) (fun _ => ?_)
  refine lv_aload_n hx hb dX1_countVotes_109 rfl (lv_at hl 1 rfl) ?_
  refine va_get (D := (dC, dI)) (ci := 3) (v := .ref p_ib) (C := RX1) (T := TX1) (N := 9) hx hb hts hinX1 hown hK hP 0 rfl rfl 3 (by decide) (hts (.fieldLink RX1 18 "BallotLoom$Parties" "isBarred" "[Z") (by decide +kernel)) (fun _ h9 => h9) rfl dX1_countVotes_110 ?_
  refine lv_iload_n hx hb dX1_countVotes_113 rfl (lv_at hl 0 rfl) ?_
  refine lv_bipush (v := 100) hx hb dX1_countVotes_114 (by decide) ?_
  refine lv_aload_n hx hb dX1_countVotes_116 rfl (lv_at hl 1 rfl) ?_
  refine va_get (D := (dC, dI)) (ci := 3) (v := .ref p_v) (C := RX1) (T := TX1) (N := 9) hx hb hts hinX1 hown hK hP 0 rfl rfl 0 (by decide) (hts (.fieldLink RX1 9 "BallotLoom$Parties" "votes" "[I") (by decide +kernel)) (fun _ h9 => h9) rfl dX1_countVotes_117 ?_
  refine lv_iload_n hx hb dX1_countVotes_120 rfl (lv_at hl 0 rfl) ?_
  refine va_iald hx hb hK hP 1 0 rfl rfl (by unfold vp_in; decide) dX1_countVotes_121 ?_
  refine lv_topi (fun y_15 ey_15 => ?_)
  obtain rfl : y_15 = 0 := ey_15.trans (by rfl)
  refine lv_imul hx hb dX1_countVotes_122 ?_
  refine lv_topi (fun y_16 ey_16 => ?_)
  obtain rfl : y_16 = 0 := ey_16.trans (by decide)
  refine lv_aload_n hx hb dX1_countVotes_123 rfl (lv_at hl 2 rfl) ?_
  refine va_get (D := (dC, dI)) (ci := 2) (v := .int pc) (C := RX0) (T := TX0) (N := 11) hx hb hts hinX0 hown hK hP 4 rfl rfl 8 (by decide) (hts (.fieldLink RX1 68 "BallotLoom$Box" "percent" "I") (by decide +kernel)) (fun _ h9 => h9) rfl dX1_countVotes_124 ?_
  refine lv_aload_n hx hb dX1_countVotes_127 rfl (lv_at hl 1 rfl) ?_
  refine va_get (D := (dC, dI)) (ci := 3) (v := .int 0) (C := RX1) (T := TX1) (N := 9) hx hb hts hinX1 hown hK hP 0 rfl rfl 1 (by decide) (hts (.fieldLink RX1 37 "BallotLoom$Parties" "allVotes" "I") (by decide +kernel)) (fun _ h9 => h9) rfl dX1_countVotes_128 ?_
  refine lv_imul hx hb dX1_countVotes_131 ?_
  refine lv_topi (fun y_17 ey_17 => ?_)
  obtain rfl : y_17 = 0 := ey_17.trans (by simp)
  refine lv_icmp_ge (tgt := 139) hx hb dX1_countVotes_132 (by decide) (fun _ => ?_) (fun h9 => absurd h9 (by decide))
  refine lv_iconst (v := 0) hx hb dX1_countVotes_139 (by decide) ?_
  refine va_zast hx hb hK hP hD hS 3 1 rfl rfl (by unfold vp_in; decide) dX1_countVotes_140 (fun H locs hP hD hS => ?_)
  have hP : va_P (dC, dI) vwCl [(pa, .inr (3, [.ref p_v, .int 0, .ref p_st, .ref p_ib, .ref p_di, .ref p_wa, .ref p_se, .ref p_vh, .ref p_re])), (p_v, .inl (cI, 4, .inl zi)), (p_st, .inl (cI, 4, .inl zi)), (p_ib, .inl (cZ, 4, .inl zi)), (bx, .inr (2, [.ref b0, .ref b1, .int 0, .int 0, .ref b4, .int 0, .ref b6, .int 0, .int pc, .int 0, .int 0]))] H := by have h9 := hP; rw [upd_zz] at h9; exact h9
  have hD : va_D A [(pa, .inr (3, [.ref p_v, .int 0, .ref p_st, .ref p_ib, .ref p_di, .ref p_wa, .ref p_se, .ref p_vh, .ref p_re])), (p_v, .inl (cI, 4, .inl zi)), (p_st, .inl (cI, 4, .inl zi)), (p_ib, .inl (cZ, 4, .inl zi)), (bx, .inr (2, [.ref b0, .ref b1, .int 0, .int 0, .ref b4, .int 0, .ref b6, .int 0, .int pc, .int 0, .int 0]))] := by have h9 := hD; rw [upd_zz] at h9; exact h9
  refine lv_iinc (k := 0) (v := 3) (lv' := [(2, .int 3), (0, .ref pa), (1, .ref bx)]) hx hb dX1_countVotes_141 hl rfl (by decide) (by decide) rfl (fun ls hl => ?_)
  refine lv_goto (tgt := 104) hx hb dX1_countVotes_144 (by decide) ?_
  refine lv_iload_n hx hb dX1_countVotes_104 rfl (lv_at hl 0 rfl) ?_
  refine lv_iconst (v := 4) hx hb dX1_countVotes_105 (by decide) ?_
  refine lv_icmp_ge (tgt := 147) hx hb dX1_countVotes_106 (by decide) (fun h9 => absurd h9 (by decide)) (fun _ => ?_)
  refine lv_aload_n hx hb dX1_countVotes_109 rfl (lv_at hl 1 rfl) ?_
  refine va_get (D := (dC, dI)) (ci := 3) (v := .ref p_ib) (C := RX1) (T := TX1) (N := 9) hx hb hts hinX1 hown hK hP 0 rfl rfl 3 (by decide) (hts (.fieldLink RX1 18 "BallotLoom$Parties" "isBarred" "[Z") (by decide +kernel)) (fun _ h9 => h9) rfl dX1_countVotes_110 ?_
  refine lv_iload_n hx hb dX1_countVotes_113 rfl (lv_at hl 0 rfl) ?_
  refine lv_bipush (v := 100) hx hb dX1_countVotes_114 (by decide) ?_
  refine lv_aload_n hx hb dX1_countVotes_116 rfl (lv_at hl 1 rfl) ?_
  refine va_get (D := (dC, dI)) (ci := 3) (v := .ref p_v) (C := RX1) (T := TX1) (N := 9) hx hb hts hinX1 hown hK hP 0 rfl rfl 0 (by decide) (hts (.fieldLink RX1 9 "BallotLoom$Parties" "votes" "[I") (by decide +kernel)) (fun _ h9 => h9) rfl dX1_countVotes_117 ?_
  refine lv_iload_n hx hb dX1_countVotes_120 rfl (lv_at hl 0 rfl) ?_
  refine va_iald hx hb hK hP 1 0 rfl rfl (by unfold vp_in; decide) dX1_countVotes_121 ?_
  refine lv_topi (fun y_18 ey_18 => ?_)
  obtain rfl : y_18 = 0 := ey_18.trans (by rfl)
  refine lv_imul hx hb dX1_countVotes_122 ?_
  refine lv_topi (fun y_19 ey_19 => ?_)
  obtain rfl : y_19 = 0 := ey_19.trans (by decide)
  refine lv_aload_n hx hb dX1_countVotes_123 rfl (lv_at hl 2 rfl) ?_
  refine va_get (D := (dC, dI)) (ci := 2) (v := .int pc) (C := RX0) (T := TX0) (N := 11) hx hb hts hinX0 hown hK hP 4 rfl rfl 8 (by decide) (hts (.fieldLink RX1 68 "BallotLoom$Box" "percent" "I") (by decide +kernel)) (fun _ h9 => h9) rfl dX1_countVotes_124 ?_
  refine lv_aload_n hx hb dX1_countVotes_127 rfl (lv_at hl 1 rfl) ?_
  refine va_get (D := (dC, dI)) (ci := 3) (v := .int 0) (C := RX1) (T := TX1) (N := 9) hx hb hts hinX1 hown hK hP 0 rfl rfl 1 (by decide) (hts (.fieldLink RX1 37 "BallotLoom$Parties" "allVotes" "I") (by decide +kernel)) (fun _ h9 => h9) rfl dX1_countVotes_128 ?_
  refine lv_imul hx hb dX1_countVotes_131 ?_
  refine lv_topi (fun y_20 ey_20 => ?_)
  obtain rfl : y_20 = 0 := ey_20.trans (by simp)
  refine lv_icmp_ge (tgt := 139) hx hb dX1_countVotes_132 (by decide) (fun _ => ?_) (fun h9 => absurd h9 (by decide))
  refine lv_iconst (v := 0) hx hb dX1_countVotes_139 (by decide) ?_
  refine va_zast hx hb hK hP hD hS 3 1 rfl rfl (by unfold vp_in; decide) dX1_countVotes_140 (fun H locs hP hD hS => ?_)
  have hP : va_P (dC, dI) vwCl [(pa, .inr (3, [.ref p_v, .int 0, .ref p_st, .ref p_ib, .ref p_di, .ref p_wa, .ref p_se, .ref p_vh, .ref p_re])), (p_v, .inl (cI, 4, .inl zi)), (p_st, .inl (cI, 4, .inl zi)), (p_ib, .inl (cZ, 4, .inl zi)), (bx, .inr (2, [.ref b0, .ref b1, .int 0, .int 0, .ref b4, .int 0, .ref b6, .int 0, .int pc, .int 0, .int 0]))] H := by have h9 := hP; rw [upd_zz] at h9; exact h9
  have hD : va_D A [(pa, .inr (3, [.ref p_v, .int 0, .ref p_st, .ref p_ib, .ref p_di, .ref p_wa, .ref p_se, .ref p_vh, .ref p_re])), (p_v, .inl (cI, 4, .inl zi)), (p_st, .inl (cI, 4, .inl zi)), (p_ib, .inl (cZ, 4, .inl zi)), (bx, .inr (2, [.ref b0, .ref b1, .int 0, .int 0, .ref b4, .int 0, .ref b6, .int 0, .int pc, .int 0, .int 0]))] := by have h9 := hD; rw [upd_zz] at h9; exact h9
  refine lv_iinc (k := 0) (v := 4) (lv' := [(2, .int 4), (0, .ref pa), (1, .ref bx)]) hx hb dX1_countVotes_141 hl rfl (by decide) (by decide) rfl (fun ls hl => ?_)
  refine lv_goto (tgt := 104) hx hb dX1_countVotes_144 (by decide) ?_
  refine lv_iload_n hx hb dX1_countVotes_104 rfl (lv_at hl 0 rfl) ?_
  refine lv_iconst (v := 4) hx hb dX1_countVotes_105 (by decide) ?_
  refine lv_icmp_ge (tgt := 147) hx hb dX1_countVotes_106 (by decide) (fun _ => ?_) (fun h9 => absurd h9 (by decide))
  have hP9 := hP.sub (ws' := [(pa, .inr (3, [.ref p_v, .int 0, .ref p_st, .ref p_ib, .ref p_di, .ref p_wa, .ref p_se, .ref p_vh, .ref p_re])), (bx, .inr (2, [.ref b0, .ref b1, .int 0, .int 0, .ref b4, .int 0, .ref b6, .int 0, .int pc, .int 0, .int 0])), (p_v, .inl (cI, 4, .inl zi)), (p_st, .inl (cI, 4, .inl zi)), (p_ib, .inl (cZ, 4, .inl zi))]) [0, 4, 1, 2, 3] rfl
  have hD9 := hD.sub (ws' := [(pa, .inr (3, [.ref p_v, .int 0, .ref p_st, .ref p_ib, .ref p_di, .ref p_wa, .ref p_se, .ref p_vh, .ref p_re])), (bx, .inr (2, [.ref b0, .ref b1, .int 0, .int 0, .ref b4, .int 0, .ref b6, .int 0, .int pc, .int 0, .int 0])), (p_v, .inl (cI, 4, .inl zi)), (p_st, .inl (cI, 4, .inl zi)), (p_ib, .inl (cZ, 4, .inl zi))]) [0, 4, 1, 2, 3] (by decide) rfl
  have hK9 := hK.sub (tys' := [(cI, .int), (cZ, .boolean)]) [0, 1] rfl
  refine W.widen (k := 0) (n := 0) (Nat.le_of_ble_eq_true rfl) (Nat.le_of_ble_eq_true rfl) ?_
  exact W.vret hx hb hr (fun t ht hW => ⟨⟨(), rfl, trivial, po_mk ht hW hP9 hK9 hD9⟩, hS.F ht⟩) hS.2.2 dX1_countVotes_147

set_option maxHeartbeats 4000000 in
set_option maxRecDepth 100000 in
theorem c_X1_barredSet (l : Launch) (dC : Nat → ClassId) (dI : Nat → Nat → Nat) (pa : Nat) (p_v : Nat) (p_st : Nat) (p_ib : Nat) (p_di : Nat) (p_wa : Nat) (p_se : Nat) (p_vh : Nat) (p_re : Nat) (cZ : ClassId) (sz : Nat)  : Met l yX1_barredSet wsX1_barredSet ({ frames := 2, cells := 0, slots := 0, locals := 40 }) (va_Pc [.ref pa] (pr_ dC dI [(pa, .inr (3, [.ref p_v, .int 0, .ref p_st, .ref p_ib, .ref p_di, .ref p_wa, .ref p_se, .ref p_vh, .ref p_re])), (p_ib, .inl (cZ, 4, .inl zi))] [(cZ, .boolean)] sz)) (va_Qi (fun (r : Int32) (_ : Unit) => r = 0) (fun (_ : Unit) t => po_ dC dI [(pa, .inr (3, [.ref p_v, .int 0, .ref p_st, .ref p_ib, .ref p_di, .ref p_wa, .ref p_se, .ref p_vh, .ref p_re])), (p_ib, .inl (cZ, 4, .inl zi))] [(cZ, .boolean)] (va_A [(pa, .inr (3, [.ref p_v, .int 0, .ref p_st, .ref p_ib, .ref p_di, .ref p_wa, .ref p_se, .ref p_vh, .ref p_re])), (p_ib, .inl (cZ, 4, .inl zi))] sz) t) (va_A [(pa, .inr (3, [.ref p_v, .int 0, .ref p_st, .ref p_ib, .ref p_di, .ref p_wa, .ref p_se, .ref p_vh, .ref p_re])), (p_ib, .inl (cZ, 4, .inl zi))] sz)) 0 0 (va_A [(pa, .inr (3, [.ref p_v, .int 0, .ref p_st, .ref p_ib, .ref p_di, .ref p_wa, .ref p_se, .ref p_vh, .ref p_re])), (p_ib, .inl (cZ, 4, .inl zi))] sz) := by
  refine Met.ofW (cc := cX1_barredSet) (maxL := 3) (ret := (some .int)) (by decide) rfl ?_
  intro p e s m args below meth c s₁ B hml hv
  obtain ⟨rfl, hsz, hP, hK, hD0⟩ := hv
  have hx := B.exec
  have hb := B.bytes
  have hr := B.returns
  have hts := atoms_spec (ws := wsX1_barredSet) B.pre
  have hown : s.vm.findClass RX1 = some m.cls := findClass_of_methodNamed B.named
  have hlocks := B.notSynchronized
  subst hsz
  have hD := hD0.self (sz := s.heap.size)
  generalize hAe : va_A [(pa, .inr (3, [.ref p_v, .int 0, .ref p_st, .ref p_ib, .ref p_di, .ref p_wa, .ref p_se, .ref p_vh, .ref p_re])), (p_ib, .inl (cZ, 4, .inl zi))] s.heap.size = A at hD ⊢
  have hA : ∀ q : Nat, s.heap.size ≤ q → A q := fun q h => by rw [← hAe]; exact Or.inr h
  have hS : va_S A s.heap s.heap [] := va_S.rf
  have hP : va_P (dC, dI) vwCl [(pa, .inr (3, [.ref p_v, .int 0, .ref p_st, .ref p_ib, .ref p_di, .ref p_wa, .ref p_se, .ref p_vh, .ref p_re])), (p_ib, .inl (cZ, 4, .inl zi))] s.heap := hP
  have hK : va_K (dC, dI) vwCl [(cZ, .boolean)] s := hK
  have hl := lv_entry ([.ref pa]) (n := 3) (Nat.le_of_ble_eq_true rfl)
  rw [lg_entry_eq]
  generalize (lg_sl ([.ref pa]) ++ List.replicate (3 - (lg_sl ([.ref pa])).length) Slot.unset).toArray = ls at hl ⊢
  have hl : lv_has ls 3 [(0, .ref pa)] := hl
  refine lv_iconst (v := 0) hx hb dX1_barredSet_0 (by decide) ?_
  refine lv_istore_n (lv' := [(1, .int 0), (0, .ref pa)]) hx hb dX1_barredSet_1 rfl hl (by decide) rfl (fun ls hl => ?_)
  refine lv_iconst (v := 0) hx hb dX1_barredSet_2 (by decide) ?_
  refine lv_istore_n (lv' := [(2, .int 0), (1, .int 0), (0, .ref pa)]) hx hb dX1_barredSet_3 rfl hl (by decide) rfl (fun ls hl => ?_)
  refine lv_iload_n hx hb dX1_barredSet_4 rfl (lv_at hl 0 rfl) ?_
  refine lv_iconst (v := 4) hx hb dX1_barredSet_5 (by decide) ?_
  refine lv_icmp_ge (tgt := 30) hx hb dX1_barredSet_6 (by decide) (fun h9 => absurd h9 (by decide)) (fun _ => ?_)
  refine lv_aload_n hx hb dX1_barredSet_9 rfl (lv_at hl 2 rfl) ?_
  have hinX1 : ∀ w ∈ u_ws RX1 TX1 9, w ∈ wsX1_barredSet := by decide +kernel
  refine va_get (D := (dC, dI)) (ci := 3) (v := .ref p_ib) (C := RX1) (T := TX1) (N := 9) hx hb hts hinX1 hown hK hP 0 rfl rfl 3 (by decide) (hts (.fieldLink RX1 18 "BallotLoom$Parties" "isBarred" "[Z") (by decide +kernel)) (fun _ h9 => h9) rfl dX1_barredSet_10 ?_
  refine lv_iload_n hx hb dX1_barredSet_13 rfl (lv_at hl 0 rfl) ?_
  refine va_zald hx hb hK hP 1 0 rfl rfl (by unfold vp_in; decide) dX1_barredSet_14 ?_
  refine lv_topi (fun y_1 ey_1 => ?_)
  obtain rfl : y_1 = 0 := ey_1.trans (by rfl)
  refine lv_if_eq (tgt := 24) hx hb dX1_barredSet_15 (by decide) (fun _ => ?_) (fun h9 => absurd h9 (by decide))
  refine lv_iinc (k := 0) (v := 1) (lv' := [(2, .int 1), (1, .int 0), (0, .ref pa)]) hx hb dX1_barredSet_24 hl rfl (by decide) (by decide) rfl (fun ls hl => ?_)
  refine lv_goto (tgt := 4) hx hb dX1_barredSet_27 (by decide) ?_
  refine lv_iload_n hx hb dX1_barredSet_4 rfl (lv_at hl 0 rfl) ?_
  refine lv_iconst (v := 4) hx hb dX1_barredSet_5 (by decide) ?_
  refine lv_icmp_ge (tgt := 30) hx hb dX1_barredSet_6 (by decide) (fun h9 => absurd h9 (by decide)) (fun _ => ?_)
  refine lv_aload_n hx hb dX1_barredSet_9 rfl (lv_at hl 2 rfl) ?_
  refine va_get (D := (dC, dI)) (ci := 3) (v := .ref p_ib) (C := RX1) (T := TX1) (N := 9) hx hb hts hinX1 hown hK hP 0 rfl rfl 3 (by decide) (hts (.fieldLink RX1 18 "BallotLoom$Parties" "isBarred" "[Z") (by decide +kernel)) (fun _ h9 => h9) rfl dX1_barredSet_10 ?_
  refine lv_iload_n hx hb dX1_barredSet_13 rfl (lv_at hl 0 rfl) ?_
  refine va_zald hx hb hK hP 1 0 rfl rfl (by unfold vp_in; decide) dX1_barredSet_14 ?_
  refine lv_topi (fun y_2 ey_2 => ?_)
  obtain rfl : y_2 = 0 := ey_2.trans (by rfl)
  refine lv_if_eq (tgt := 24) hx hb dX1_barredSet_15 (by decide) (fun _ => ?_) (fun h9 => absurd h9 (by decide))
  refine lv_iinc (k := 0) (v := 2) (lv' := [(2, .int 2), (1, .int 0), (0, .ref pa)]) hx hb dX1_barredSet_24 hl rfl (by decide) (by decide) rfl (fun ls hl => ?_)
  refine lv_goto (tgt := 4) hx hb dX1_barredSet_27 (by decide) ?_
  refine lv_iload_n hx hb dX1_barredSet_4 rfl (lv_at hl 0 rfl) ?_
  refine lv_iconst (v := 4) hx hb dX1_barredSet_5 (by decide) ?_
  refine lv_icmp_ge (tgt := 30) hx hb dX1_barredSet_6 (by decide) (fun h9 => absurd h9 (by decide)) (fun _ => ?_)
  refine lv_aload_n hx hb dX1_barredSet_9 rfl (lv_at hl 2 rfl) ?_
  refine va_get (D := (dC, dI)) (ci := 3) (v := .ref p_ib) (C := RX1) (T := TX1) (N := 9) hx hb hts hinX1 hown hK hP 0 rfl rfl 3 (by decide) (hts (.fieldLink RX1 18 "BallotLoom$Parties" "isBarred" "[Z") (by decide +kernel)) (fun _ h9 => h9) rfl dX1_barredSet_10 ?_
  refine lv_iload_n hx hb dX1_barredSet_13 rfl (lv_at hl 0 rfl) ?_
  refine va_zald hx hb hK hP 1 0 rfl rfl (by unfold vp_in; decide) dX1_barredSet_14 ?_
  refine lv_topi (fun y_3 ey_3 => ?_)
  obtain rfl : y_3 = 0 := ey_3.trans (by rfl)
  refine lv_if_eq (tgt := 24) hx hb dX1_barredSet_15 (by decide) (fun _ => ?_) (fun h9 => absurd h9 (by decide))
  refine lv_iinc (k := 0) (v := 3) (lv' := [(2, .int 3), (1, .int 0), (0, .ref pa)]) hx hb dX1_barredSet_24 hl rfl (by decide) (by decide) rfl (fun ls hl => ?_)
  refine lv_goto (tgt := 4) hx hb dX1_barredSet_27 (by decide) ?_
  refine lv_iload_n hx hb dX1_barredSet_4 rfl (lv_at hl 0 rfl) ?_
  refine lv_iconst (v := 4) hx hb dX1_barredSet_5 (by decide) ?_
  refine lv_icmp_ge (tgt := 30) hx hb dX1_barredSet_6 (by decide) (fun h9 => absurd h9 (by decide)) (fun _ => ?_)
  refine lv_aload_n hx hb dX1_barredSet_9 rfl (lv_at hl 2 rfl) ?_
  refine va_get (D := (dC, dI)) (ci := 3) (v := .ref p_ib) (C := RX1) (T := TX1) (N := 9) hx hb hts hinX1 hown hK hP 0 rfl rfl 3 (by decide) (hts (.fieldLink RX1 18 "BallotLoom$Parties" "isBarred" "[Z") (by decide +kernel)) (fun _ h9 => h9) rfl dX1_barredSet_10 ?_
  refine lv_iload_n hx hb dX1_barredSet_13 rfl (lv_at hl 0 rfl) ?_
  refine va_zald hx hb hK hP 1 0 rfl rfl (by unfold vp_in; decide) dX1_barredSet_14 ?_
  refine lv_topi (fun y_4 ey_4 => ?_)
  obtain rfl : y_4 = 0 := ey_4.trans (by rfl)
  refine lv_if_eq (tgt := 24) hx hb dX1_barredSet_15 (by decide) (fun _ => ?_) (fun h9 => absurd h9 (by decide))
  refine lv_iinc (k := 0) (v := 4) (lv' := [(2, .int 4), (1, .int 0), (0, .ref pa)]) hx hb dX1_barredSet_24 hl rfl (by decide) (by decide) rfl (fun ls hl => ?_)
  refine lv_goto (tgt := 4) hx hb dX1_barredSet_27 (by decide) ?_
  refine lv_iload_n hx hb dX1_barredSet_4 rfl (lv_at hl 0 rfl) ?_
  refine lv_iconst (v := 4) hx hb dX1_barredSet_5 (by decide) ?_
  refine lv_icmp_ge (tgt := 30) hx hb dX1_barredSet_6 (by decide) (fun _ => ?_) (fun h9 => absurd h9 (by decide))
  refine lv_iload_n hx hb dX1_barredSet_30 rfl (lv_at hl 1 rfl) ?_
  have hP9 := hP.sub (ws' := [(pa, .inr (3, [.ref p_v, .int 0, .ref p_st, .ref p_ib, .ref p_di, .ref p_wa, .ref p_se, .ref p_vh, .ref p_re])), (p_ib, .inl (cZ, 4, .inl zi))]) [0, 1] rfl
  have hD9 := hD.sub (ws' := [(pa, .inr (3, [.ref p_v, .int 0, .ref p_st, .ref p_ib, .ref p_di, .ref p_wa, .ref p_se, .ref p_vh, .ref p_re])), (p_ib, .inl (cZ, 4, .inl zi))]) [0, 1] (by decide) rfl
  have hK9 := hK.sub (tys' := [(cZ, .boolean)]) [0] rfl
  refine W.widen (k := 0) (n := 0) (Nat.le_of_ble_eq_true rfl) (Nat.le_of_ble_eq_true rfl) ?_
  exact W.iret (v := 0) hx hb hr (fun t ht hW => ⟨⟨0, (), rfl, rfl, po_mk ht hW hP9 hK9 hD9⟩, hS.F ht⟩) hS.2.2 dX1_barredSet_31

set_option maxHeartbeats 4000000 in
set_option maxRecDepth 100000 in
theorem c_X1_countDistricts (l : Launch) (dC : Nat → ClassId) (dI : Nat → Nat → Nat) (pa : Nat) (p_v : Nat) (p_st : Nat) (p_ib : Nat) (p_di : Nat) (p_wa : Nat) (p_se : Nat) (p_vh : Nat) (p_re : Nat) (bx : Nat) (b0 : Nat) (b1 : Nat) (b4 : Nat) (b6 : Nat) (po : Nat) (cI : ClassId) (sz : Nat)  : Met l yX1_countDistricts wsX1_countDistricts ({ frames := 2, cells := 0, slots := 0, locals := 40 }) (va_Pc [.ref pa, .ref bx, .ref po] (pr_ dC dI [(pa, .inr (3, [.ref p_v, .int 0, .ref p_st, .ref p_ib, .ref p_di, .ref p_wa, .ref p_se, .ref p_vh, .ref p_re])), (bx, .inr (2, [.ref b0, .ref b1, .int 0, .int 0, .ref b4, .int 0, .ref b6, .int 0, .int 0, .int 0, .int 0])), (p_di, .inl (cI, 4, .inl zi)), (p_wa, .inl (cI, 4, .inl zi))] [(cI, .int)] sz)) (va_Qv (fun (_ : Unit) => True) (fun (_ : Unit) t => po_ dC dI [(pa, .inr (3, [.ref p_v, .int 0, .ref p_st, .ref p_ib, .ref p_di, .ref p_wa, .ref p_se, .ref p_vh, .ref p_re])), (bx, .inr (2, [.ref b0, .ref b1, .int 0, .int 0, .ref b4, .int 0, .ref b6, .int 0, .int 0, .int 0, .int 0])), (p_di, .inl (cI, 4, .inl zi)), (p_wa, .inl (cI, 4, .inl zi))] [(cI, .int)] (va_A [(pa, .inr (3, [.ref p_v, .int 0, .ref p_st, .ref p_ib, .ref p_di, .ref p_wa, .ref p_se, .ref p_vh, .ref p_re])), (bx, .inr (2, [.ref b0, .ref b1, .int 0, .int 0, .ref b4, .int 0, .ref b6, .int 0, .int 0, .int 0, .int 0])), (p_di, .inl (cI, 4, .inl zi)), (p_wa, .inl (cI, 4, .inl zi))] sz) t) (va_A [(pa, .inr (3, [.ref p_v, .int 0, .ref p_st, .ref p_ib, .ref p_di, .ref p_wa, .ref p_se, .ref p_vh, .ref p_re])), (bx, .inr (2, [.ref b0, .ref b1, .int 0, .int 0, .ref b4, .int 0, .ref b6, .int 0, .int 0, .int 0, .int 0])), (p_di, .inl (cI, 4, .inl zi)), (p_wa, .inl (cI, 4, .inl zi))] sz)) 0 0 (va_A [(pa, .inr (3, [.ref p_v, .int 0, .ref p_st, .ref p_ib, .ref p_di, .ref p_wa, .ref p_se, .ref p_vh, .ref p_re])), (bx, .inr (2, [.ref b0, .ref b1, .int 0, .int 0, .ref b4, .int 0, .ref b6, .int 0, .int 0, .int 0, .int 0])), (p_di, .inl (cI, 4, .inl zi)), (p_wa, .inl (cI, 4, .inl zi))] sz) := by
  refine Met.ofW (cc := cX1_countDistricts) (maxL := 6) (ret := none) (by decide) rfl ?_
  intro p e s m args below meth c s₁ B hml hv
  obtain ⟨rfl, hsz, hP, hK, hD0⟩ := hv
  have hx := B.exec
  have hb := B.bytes
  have hr := B.returns
  have hts := atoms_spec (ws := wsX1_countDistricts) B.pre
  have hown : s.vm.findClass RX1 = some m.cls := findClass_of_methodNamed B.named
  have hlocks := B.notSynchronized
  subst hsz
  have hD := hD0.self (sz := s.heap.size)
  generalize hAe : va_A [(pa, .inr (3, [.ref p_v, .int 0, .ref p_st, .ref p_ib, .ref p_di, .ref p_wa, .ref p_se, .ref p_vh, .ref p_re])), (bx, .inr (2, [.ref b0, .ref b1, .int 0, .int 0, .ref b4, .int 0, .ref b6, .int 0, .int 0, .int 0, .int 0])), (p_di, .inl (cI, 4, .inl zi)), (p_wa, .inl (cI, 4, .inl zi))] s.heap.size = A at hD ⊢
  have hA : ∀ q : Nat, s.heap.size ≤ q → A q := fun q h => by rw [← hAe]; exact Or.inr h
  have hS : va_S A s.heap s.heap [] := va_S.rf
  have hP : va_P (dC, dI) vwCl [(pa, .inr (3, [.ref p_v, .int 0, .ref p_st, .ref p_ib, .ref p_di, .ref p_wa, .ref p_se, .ref p_vh, .ref p_re])), (bx, .inr (2, [.ref b0, .ref b1, .int 0, .int 0, .ref b4, .int 0, .ref b6, .int 0, .int 0, .int 0, .int 0])), (p_di, .inl (cI, 4, .inl zi)), (p_wa, .inl (cI, 4, .inl zi))] s.heap := hP
  have hK : va_K (dC, dI) vwCl [(cI, .int)] s := hK
  have hl := lv_entry ([.ref pa, .ref bx, .ref po]) (n := 6) (Nat.le_of_ble_eq_true rfl)
  rw [lg_entry_eq]
  generalize (lg_sl ([.ref pa, .ref bx, .ref po]) ++ List.replicate (6 - (lg_sl ([.ref pa, .ref bx, .ref po])).length) Slot.unset).toArray = ls at hl ⊢
  have hl : lv_has ls 6 [(0, .ref pa), (1, .ref bx), (2, .ref po)] := hl
  refine lv_iconst (v := 0) hx hb dX1_countDistricts_0 (by decide) ?_
  refine lv_istore_n (lv' := [(3, .int 0), (0, .ref pa), (1, .ref bx), (2, .ref po)]) hx hb dX1_countDistricts_1 rfl hl (by decide) rfl (fun ls hl => ?_)
  refine lv_iload_n hx hb dX1_countDistricts_2 rfl (lv_at hl 0 rfl) ?_
  refine lv_iconst (v := 4) hx hb dX1_countDistricts_3 (by decide) ?_
  refine lv_icmp_ge (tgt := 27) hx hb dX1_countDistricts_4 (by decide) (fun h9 => absurd h9 (by decide)) (fun _ => ?_)
  refine lv_aload_n hx hb dX1_countDistricts_7 rfl (lv_at hl 1 rfl) ?_
  have hinX1 : ∀ w ∈ u_ws RX1 TX1 9, w ∈ wsX1_countDistricts := by decide +kernel
  refine va_get (D := (dC, dI)) (ci := 3) (v := .ref p_di) (C := RX1) (T := TX1) (N := 9) hx hb hts hinX1 hown hK hP 0 rfl rfl 4 (by decide) (hts (.fieldLink RX1 22 "BallotLoom$Parties" "direct" "[I") (by decide +kernel)) (fun _ h9 => h9) rfl dX1_countDistricts_8 ?_
  refine lv_iload_n hx hb dX1_countDistricts_11 rfl (lv_at hl 0 rfl) ?_
  refine lv_iconst (v := 0) hx hb dX1_countDistricts_12 (by decide) ?_
  refine va_iast hx hb hK hP hD hS 2 0 rfl rfl (by unfold vp_in; decide) dX1_countDistricts_13 (fun H locs hP hD hS => ?_)
  have hP : va_P (dC, dI) vwCl [(pa, .inr (3, [.ref p_v, .int 0, .ref p_st, .ref p_ib, .ref p_di, .ref p_wa, .ref p_se, .ref p_vh, .ref p_re])), (bx, .inr (2, [.ref b0, .ref b1, .int 0, .int 0, .ref b4, .int 0, .ref b6, .int 0, .int 0, .int 0, .int 0])), (p_di, .inl (cI, 4, .inl zi)), (p_wa, .inl (cI, 4, .inl zi))] H := by have h9 := hP; rw [upd_zi] at h9; exact h9
  have hD : va_D A [(pa, .inr (3, [.ref p_v, .int 0, .ref p_st, .ref p_ib, .ref p_di, .ref p_wa, .ref p_se, .ref p_vh, .ref p_re])), (bx, .inr (2, [.ref b0, .ref b1, .int 0, .int 0, .ref b4, .int 0, .ref b6, .int 0, .int 0, .int 0, .int 0])), (p_di, .inl (cI, 4, .inl zi)), (p_wa, .inl (cI, 4, .inl zi))] := by have h9 := hD; rw [upd_zi] at h9; exact h9
  refine lv_aload_n hx hb dX1_countDistricts_14 rfl (lv_at hl 1 rfl) ?_
  refine va_get (D := (dC, dI)) (ci := 3) (v := .ref p_wa) (C := RX1) (T := TX1) (N := 9) hx hb hts hinX1 hown hK hP 0 rfl rfl 5 (by decide) (hts (.fieldLink RX1 25 "BallotLoom$Parties" "wasted" "[I") (by decide +kernel)) (fun _ h9 => h9) rfl dX1_countDistricts_15 ?_
  refine lv_iload_n hx hb dX1_countDistricts_18 rfl (lv_at hl 0 rfl) ?_
  refine lv_iconst (v := 0) hx hb dX1_countDistricts_19 (by decide) ?_
  refine va_iast hx hb hK hP hD hS 3 0 rfl rfl (by unfold vp_in; decide) dX1_countDistricts_20 (fun H locs hP hD hS => ?_)
  have hP : va_P (dC, dI) vwCl [(pa, .inr (3, [.ref p_v, .int 0, .ref p_st, .ref p_ib, .ref p_di, .ref p_wa, .ref p_se, .ref p_vh, .ref p_re])), (bx, .inr (2, [.ref b0, .ref b1, .int 0, .int 0, .ref b4, .int 0, .ref b6, .int 0, .int 0, .int 0, .int 0])), (p_di, .inl (cI, 4, .inl zi)), (p_wa, .inl (cI, 4, .inl zi))] H := by have h9 := hP; rw [upd_zi] at h9; exact h9
  have hD : va_D A [(pa, .inr (3, [.ref p_v, .int 0, .ref p_st, .ref p_ib, .ref p_di, .ref p_wa, .ref p_se, .ref p_vh, .ref p_re])), (bx, .inr (2, [.ref b0, .ref b1, .int 0, .int 0, .ref b4, .int 0, .ref b6, .int 0, .int 0, .int 0, .int 0])), (p_di, .inl (cI, 4, .inl zi)), (p_wa, .inl (cI, 4, .inl zi))] := by have h9 := hD; rw [upd_zi] at h9; exact h9
  refine lv_iinc (k := 0) (v := 1) (lv' := [(3, .int 1), (0, .ref pa), (1, .ref bx), (2, .ref po)]) hx hb dX1_countDistricts_21 hl rfl (by decide) (by decide) rfl (fun ls hl => ?_)
  refine lv_goto (tgt := 2) hx hb dX1_countDistricts_24 (by decide) ?_
  refine lv_iload_n hx hb dX1_countDistricts_2 rfl (lv_at hl 0 rfl) ?_
  refine lv_iconst (v := 4) hx hb dX1_countDistricts_3 (by decide) ?_
  refine lv_icmp_ge (tgt := 27) hx hb dX1_countDistricts_4 (by decide) (fun h9 => absurd h9 (by decide)) (fun _ => ?_)
  refine lv_aload_n hx hb dX1_countDistricts_7 rfl (lv_at hl 1 rfl) ?_
  refine va_get (D := (dC, dI)) (ci := 3) (v := .ref p_di) (C := RX1) (T := TX1) (N := 9) hx hb hts hinX1 hown hK hP 0 rfl rfl 4 (by decide) (hts (.fieldLink RX1 22 "BallotLoom$Parties" "direct" "[I") (by decide +kernel)) (fun _ h9 => h9) rfl dX1_countDistricts_8 ?_
  refine lv_iload_n hx hb dX1_countDistricts_11 rfl (lv_at hl 0 rfl) ?_
  refine lv_iconst (v := 0) hx hb dX1_countDistricts_12 (by decide) ?_
  refine va_iast hx hb hK hP hD hS 2 0 rfl rfl (by unfold vp_in; decide) dX1_countDistricts_13 (fun H locs hP hD hS => ?_)
  have hP : va_P (dC, dI) vwCl [(pa, .inr (3, [.ref p_v, .int 0, .ref p_st, .ref p_ib, .ref p_di, .ref p_wa, .ref p_se, .ref p_vh, .ref p_re])), (bx, .inr (2, [.ref b0, .ref b1, .int 0, .int 0, .ref b4, .int 0, .ref b6, .int 0, .int 0, .int 0, .int 0])), (p_di, .inl (cI, 4, .inl zi)), (p_wa, .inl (cI, 4, .inl zi))] H := by have h9 := hP; rw [upd_zi] at h9; exact h9
  have hD : va_D A [(pa, .inr (3, [.ref p_v, .int 0, .ref p_st, .ref p_ib, .ref p_di, .ref p_wa, .ref p_se, .ref p_vh, .ref p_re])), (bx, .inr (2, [.ref b0, .ref b1, .int 0, .int 0, .ref b4, .int 0, .ref b6, .int 0, .int 0, .int 0, .int 0])), (p_di, .inl (cI, 4, .inl zi)), (p_wa, .inl (cI, 4, .inl zi))] := by have h9 := hD; rw [upd_zi] at h9; exact h9
  refine lv_aload_n hx hb dX1_countDistricts_14 rfl (lv_at hl 1 rfl) ?_
  refine va_get (D := (dC, dI)) (ci := 3) (v := .ref p_wa) (C := RX1) (T := TX1) (N := 9) hx hb hts hinX1 hown hK hP 0 rfl rfl 5 (by decide) (hts (.fieldLink RX1 25 "BallotLoom$Parties" "wasted" "[I") (by decide +kernel)) (fun _ h9 => h9) rfl dX1_countDistricts_15 ?_
  refine lv_iload_n hx hb dX1_countDistricts_18 rfl (lv_at hl 0 rfl) ?_
  refine lv_iconst (v := 0) hx hb dX1_countDistricts_19 (by decide) ?_
  refine va_iast hx hb hK hP hD hS 3 0 rfl rfl (by unfold vp_in; decide) dX1_countDistricts_20 (fun H locs hP hD hS => ?_)
  have hP : va_P (dC, dI) vwCl [(pa, .inr (3, [.ref p_v, .int 0, .ref p_st, .ref p_ib, .ref p_di, .ref p_wa, .ref p_se, .ref p_vh, .ref p_re])), (bx, .inr (2, [.ref b0, .ref b1, .int 0, .int 0, .ref b4, .int 0, .ref b6, .int 0, .int 0, .int 0, .int 0])), (p_di, .inl (cI, 4, .inl zi)), (p_wa, .inl (cI, 4, .inl zi))] H := by have h9 := hP; rw [upd_zi] at h9; exact h9
  have hD : va_D A [(pa, .inr (3, [.ref p_v, .int 0, .ref p_st, .ref p_ib, .ref p_di, .ref p_wa, .ref p_se, .ref p_vh, .ref p_re])), (bx, .inr (2, [.ref b0, .ref b1, .int 0, .int 0, .ref b4, .int 0, .ref b6, .int 0, .int 0, .int 0, .int 0])), (p_di, .inl (cI, 4, .inl zi)), (p_wa, .inl (cI, 4, .inl zi))] := by have h9 := hD; rw [upd_zi] at h9; exact h9
  refine lv_iinc (k := 0) (v := 2) (lv' := [(3, .int 2), (0, .ref pa), (1, .ref bx), (2, .ref po)]) hx hb dX1_countDistricts_21 hl rfl (by decide) (by decide) rfl (fun ls hl => ?_)
  refine lv_goto (tgt := 2) hx hb dX1_countDistricts_24 (by decide) ?_
  refine lv_iload_n hx hb dX1_countDistricts_2 rfl (lv_at hl 0 rfl) ?_
  refine lv_iconst (v := 4) hx hb dX1_countDistricts_3 (by decide) ?_
  refine lv_icmp_ge (tgt := 27) hx hb dX1_countDistricts_4 (by decide) (fun h9 => absurd h9 (by decide)) (fun _ => ?_)
  refine lv_aload_n hx hb dX1_countDistricts_7 rfl (lv_at hl 1 rfl) ?_
  refine va_get (D := (dC, dI)) (ci := 3) (v := .ref p_di) (C := RX1) (T := TX1) (N := 9) hx hb hts hinX1 hown hK hP 0 rfl rfl 4 (by decide) (hts (.fieldLink RX1 22 "BallotLoom$Parties" "direct" "[I") (by decide +kernel)) (fun _ h9 => h9) rfl dX1_countDistricts_8 ?_
  refine lv_iload_n hx hb dX1_countDistricts_11 rfl (lv_at hl 0 rfl) ?_
  refine lv_iconst (v := 0) hx hb dX1_countDistricts_12 (by decide) ?_
  refine va_iast hx hb hK hP hD hS 2 0 rfl rfl (by unfold vp_in; decide) dX1_countDistricts_13 (fun H locs hP hD hS => ?_)
  have hP : va_P (dC, dI) vwCl [(pa, .inr (3, [.ref p_v, .int 0, .ref p_st, .ref p_ib, .ref p_di, .ref p_wa, .ref p_se, .ref p_vh, .ref p_re])), (bx, .inr (2, [.ref b0, .ref b1, .int 0, .int 0, .ref b4, .int 0, .ref b6, .int 0, .int 0, .int 0, .int 0])), (p_di, .inl (cI, 4, .inl zi)), (p_wa, .inl (cI, 4, .inl zi))] H := by have h9 := hP; rw [upd_zi] at h9; exact h9
  have hD : va_D A [(pa, .inr (3, [.ref p_v, .int 0, .ref p_st, .ref p_ib, .ref p_di, .ref p_wa, .ref p_se, .ref p_vh, .ref p_re])), (bx, .inr (2, [.ref b0, .ref b1, .int 0, .int 0, .ref b4, .int 0, .ref b6, .int 0, .int 0, .int 0, .int 0])), (p_di, .inl (cI, 4, .inl zi)), (p_wa, .inl (cI, 4, .inl zi))] := by have h9 := hD; rw [upd_zi] at h9; exact h9
  refine lv_aload_n hx hb dX1_countDistricts_14 rfl (lv_at hl 1 rfl) ?_
  refine va_get (D := (dC, dI)) (ci := 3) (v := .ref p_wa) (C := RX1) (T := TX1) (N := 9) hx hb hts hinX1 hown hK hP 0 rfl rfl 5 (by decide) (hts (.fieldLink RX1 25 "BallotLoom$Parties" "wasted" "[I") (by decide +kernel)) (fun _ h9 => h9) rfl dX1_countDistricts_15 ?_
  refine lv_iload_n hx hb dX1_countDistricts_18 rfl (lv_at hl 0 rfl) ?_
  refine lv_iconst (v := 0) hx hb dX1_countDistricts_19 (by decide) ?_
  refine va_iast hx hb hK hP hD hS 3 0 rfl rfl (by unfold vp_in; decide) dX1_countDistricts_20 (fun H locs hP hD hS => ?_)
  have hP : va_P (dC, dI) vwCl [(pa, .inr (3, [.ref p_v, .int 0, .ref p_st, .ref p_ib, .ref p_di, .ref p_wa, .ref p_se, .ref p_vh, .ref p_re])), (bx, .inr (2, [.ref b0, .ref b1, .int 0, .int 0, .ref b4, .int 0, .ref b6, .int 0, .int 0, .int 0, .int 0])), (p_di, .inl (cI, 4, .inl zi)), (p_wa, .inl (cI, 4, .inl zi))] H := by have h9 := hP; rw [upd_zi] at h9; exact h9
  have hD : va_D A [(pa, .inr (3, [.ref p_v, .int 0, .ref p_st, .ref p_ib, .ref p_di, .ref p_wa, .ref p_se, .ref p_vh, .ref p_re])), (bx, .inr (2, [.ref b0, .ref b1, .int 0, .int 0, .ref b4, .int 0, .ref b6, .int 0, .int 0, .int 0, .int 0])), (p_di, .inl (cI, 4, .inl zi)), (p_wa, .inl (cI, 4, .inl zi))] := by have h9 := hD; rw [upd_zi] at h9; exact h9
  refine lv_iinc (k := 0) (v := 3) (lv' := [(3, .int 3), (0, .ref pa), (1, .ref bx), (2, .ref po)]) hx hb dX1_countDistricts_21 hl rfl (by decide) (by decide) rfl (fun ls hl => ?_)
  refine lv_goto (tgt := 2) hx hb dX1_countDistricts_24 (by decide) ?_
  refine lv_iload_n hx hb dX1_countDistricts_2 rfl (lv_at hl 0 rfl) ?_
  refine lv_iconst (v := 4) hx hb dX1_countDistricts_3 (by decide) ?_
  refine lv_icmp_ge (tgt := 27) hx hb dX1_countDistricts_4 (by decide) (fun h9 => absurd h9 (by decide)) (fun _ => ?_)
  refine lv_aload_n hx hb dX1_countDistricts_7 rfl (lv_at hl 1 rfl) ?_
  refine va_get (D := (dC, dI)) (ci := 3) (v := .ref p_di) (C := RX1) (T := TX1) (N := 9) hx hb hts hinX1 hown hK hP 0 rfl rfl 4 (by decide) (hts (.fieldLink RX1 22 "BallotLoom$Parties" "direct" "[I") (by decide +kernel)) (fun _ h9 => h9) rfl dX1_countDistricts_8 ?_
  refine lv_iload_n hx hb dX1_countDistricts_11 rfl (lv_at hl 0 rfl) ?_
  refine lv_iconst (v := 0) hx hb dX1_countDistricts_12 (by decide) ?_
  refine va_iast hx hb hK hP hD hS 2 0 rfl rfl (by unfold vp_in; decide) dX1_countDistricts_13 (fun H locs hP hD hS => ?_)
  have hP : va_P (dC, dI) vwCl [(pa, .inr (3, [.ref p_v, .int 0, .ref p_st, .ref p_ib, .ref p_di, .ref p_wa, .ref p_se, .ref p_vh, .ref p_re])), (bx, .inr (2, [.ref b0, .ref b1, .int 0, .int 0, .ref b4, .int 0, .ref b6, .int 0, .int 0, .int 0, .int 0])), (p_di, .inl (cI, 4, .inl zi)), (p_wa, .inl (cI, 4, .inl zi))] H := by have h9 := hP; rw [upd_zi] at h9; exact h9
  have hD : va_D A [(pa, .inr (3, [.ref p_v, .int 0, .ref p_st, .ref p_ib, .ref p_di, .ref p_wa, .ref p_se, .ref p_vh, .ref p_re])), (bx, .inr (2, [.ref b0, .ref b1, .int 0, .int 0, .ref b4, .int 0, .ref b6, .int 0, .int 0, .int 0, .int 0])), (p_di, .inl (cI, 4, .inl zi)), (p_wa, .inl (cI, 4, .inl zi))] := by have h9 := hD; rw [upd_zi] at h9; exact h9
  refine lv_aload_n hx hb dX1_countDistricts_14 rfl (lv_at hl 1 rfl) ?_
  refine va_get (D := (dC, dI)) (ci := 3) (v := .ref p_wa) (C := RX1) (T := TX1) (N := 9) hx hb hts hinX1 hown hK hP 0 rfl rfl 5 (by decide) (hts (.fieldLink RX1 25 "BallotLoom$Parties" "wasted" "[I") (by decide +kernel)) (fun _ h9 => h9) rfl dX1_countDistricts_15 ?_
  refine lv_iload_n hx hb dX1_countDistricts_18 rfl (lv_at hl 0 rfl) ?_
  refine lv_iconst (v := 0) hx hb dX1_countDistricts_19 (by decide) ?_
  refine va_iast hx hb hK hP hD hS 3 0 rfl rfl (by unfold vp_in; decide) dX1_countDistricts_20 (fun H locs hP hD hS => ?_)
  have hP : va_P (dC, dI) vwCl [(pa, .inr (3, [.ref p_v, .int 0, .ref p_st, .ref p_ib, .ref p_di, .ref p_wa, .ref p_se, .ref p_vh, .ref p_re])), (bx, .inr (2, [.ref b0, .ref b1, .int 0, .int 0, .ref b4, .int 0, .ref b6, .int 0, .int 0, .int 0, .int 0])), (p_di, .inl (cI, 4, .inl zi)), (p_wa, .inl (cI, 4, .inl zi))] H := by have h9 := hP; rw [upd_zi] at h9; exact h9
  have hD : va_D A [(pa, .inr (3, [.ref p_v, .int 0, .ref p_st, .ref p_ib, .ref p_di, .ref p_wa, .ref p_se, .ref p_vh, .ref p_re])), (bx, .inr (2, [.ref b0, .ref b1, .int 0, .int 0, .ref b4, .int 0, .ref b6, .int 0, .int 0, .int 0, .int 0])), (p_di, .inl (cI, 4, .inl zi)), (p_wa, .inl (cI, 4, .inl zi))] := by have h9 := hD; rw [upd_zi] at h9; exact h9
  refine lv_iinc (k := 0) (v := 4) (lv' := [(3, .int 4), (0, .ref pa), (1, .ref bx), (2, .ref po)]) hx hb dX1_countDistricts_21 hl rfl (by decide) (by decide) rfl (fun ls hl => ?_)
  refine lv_goto (tgt := 2) hx hb dX1_countDistricts_24 (by decide) ?_
  refine lv_iload_n hx hb dX1_countDistricts_2 rfl (lv_at hl 0 rfl) ?_
  refine lv_iconst (v := 4) hx hb dX1_countDistricts_3 (by decide) ?_
  refine lv_icmp_ge (tgt := 27) hx hb dX1_countDistricts_4 (by decide) (fun _ => ?_) (fun h9 => absurd h9 (by decide))
  refine lv_iconst (v := 0) hx hb dX1_countDistricts_27 (by decide) ?_
  refine lv_istore_n (lv' := [(3, .int 0), (0, .ref pa), (1, .ref bx), (2, .ref po)]) hx hb dX1_countDistricts_28 rfl hl (by decide) rfl (fun ls hl => ?_)
  refine lv_iload_n hx hb dX1_countDistricts_29 rfl (lv_at hl 0 rfl) ?_
  refine lv_aload_n hx hb dX1_countDistricts_30 rfl (lv_at hl 2 rfl) ?_
  have hinX0 : ∀ w ∈ u_ws RX0 TX0 11, w ∈ wsX1_countDistricts := by decide +kernel
  refine va_get (D := (dC, dI)) (ci := 2) (v := .int 0) (C := RX0) (T := TX0) (N := 11) hx hb hts hinX0 hown hK hP 1 rfl rfl 5 (by decide) (hts (.fieldLink RX1 71 "BallotLoom$Box" "districts" "I") (by decide +kernel)) (fun _ h9 => h9) rfl dX1_countDistricts_31 ?_
  refine lv_icmp_ge (tgt := 104) hx hb dX1_countDistricts_34 (by decide) (fun _ => ?_) (fun h9 => absurd h9 (by decide))
  have hP9 := hP.sub (ws' := [(pa, .inr (3, [.ref p_v, .int 0, .ref p_st, .ref p_ib, .ref p_di, .ref p_wa, .ref p_se, .ref p_vh, .ref p_re])), (bx, .inr (2, [.ref b0, .ref b1, .int 0, .int 0, .ref b4, .int 0, .ref b6, .int 0, .int 0, .int 0, .int 0])), (p_di, .inl (cI, 4, .inl zi)), (p_wa, .inl (cI, 4, .inl zi))]) [0, 1, 2, 3] rfl
  have hD9 := hD.sub (ws' := [(pa, .inr (3, [.ref p_v, .int 0, .ref p_st, .ref p_ib, .ref p_di, .ref p_wa, .ref p_se, .ref p_vh, .ref p_re])), (bx, .inr (2, [.ref b0, .ref b1, .int 0, .int 0, .ref b4, .int 0, .ref b6, .int 0, .int 0, .int 0, .int 0])), (p_di, .inl (cI, 4, .inl zi)), (p_wa, .inl (cI, 4, .inl zi))]) [0, 1, 2, 3] (by decide) rfl
  have hK9 := hK.sub (tys' := [(cI, .int)]) [0] rfl
  refine W.widen (k := 0) (n := 0) (Nat.le_of_ble_eq_true rfl) (Nat.le_of_ble_eq_true rfl) ?_
  exact W.vret hx hb hr (fun t ht hW => ⟨⟨(), rfl, trivial, po_mk ht hW hP9 hK9 hD9⟩, hS.F ht⟩) hS.2.2 dX1_countDistricts_104

set_option maxHeartbeats 4000000 in
set_option maxRecDepth 100000 in
theorem c_X1_figure (l : Launch) (dC : Nat → ClassId) (dI : Nat → Nat → Nat) (pa : Nat) (p_v : Nat) (p_st : Nat) (p_ib : Nat) (p_di : Nat) (p_wa : Nat) (p_se : Nat) (p_vh : Nat) (p_re : Nat) (par : Int32) (wh : Int32) (cI : ClassId) (cZ : ClassId) (sz : Nat) (hpa : vp_in par 4) (hwh : wh = 0 ∨ wh = 1 ∨ wh = 2 ∨ wh = 3 ∨ wh = 4) : Met l yX1_figure wsX1_figure ({ frames := 2, cells := 0, slots := 0, locals := 40 }) (va_Pc [.ref pa, .int par, .int wh] (pr_ dC dI [(pa, .inr (3, [.ref p_v, .int 0, .ref p_st, .ref p_ib, .ref p_di, .ref p_wa, .ref p_se, .ref p_vh, .ref p_re])), (p_v, .inl (cI, 4, .inl zi)), (p_st, .inl (cI, 4, .inl zi)), (p_ib, .inl (cZ, 4, .inl zi)), (p_di, .inl (cI, 4, .inl zi)), (p_wa, .inl (cI, 4, .inl zi))] [(cI, .int), (cZ, .boolean)] sz)) (va_Qi (fun (r : Int32) (_ : Unit) => r = 0) (fun (_ : Unit) t => po_ dC dI [(pa, .inr (3, [.ref p_v, .int 0, .ref p_st, .ref p_ib, .ref p_di, .ref p_wa, .ref p_se, .ref p_vh, .ref p_re])), (p_v, .inl (cI, 4, .inl zi)), (p_st, .inl (cI, 4, .inl zi)), (p_ib, .inl (cZ, 4, .inl zi)), (p_di, .inl (cI, 4, .inl zi)), (p_wa, .inl (cI, 4, .inl zi))] [(cI, .int), (cZ, .boolean)] (va_A [(pa, .inr (3, [.ref p_v, .int 0, .ref p_st, .ref p_ib, .ref p_di, .ref p_wa, .ref p_se, .ref p_vh, .ref p_re])), (p_v, .inl (cI, 4, .inl zi)), (p_st, .inl (cI, 4, .inl zi)), (p_ib, .inl (cZ, 4, .inl zi)), (p_di, .inl (cI, 4, .inl zi)), (p_wa, .inl (cI, 4, .inl zi))] sz) t) (va_A [(pa, .inr (3, [.ref p_v, .int 0, .ref p_st, .ref p_ib, .ref p_di, .ref p_wa, .ref p_se, .ref p_vh, .ref p_re])), (p_v, .inl (cI, 4, .inl zi)), (p_st, .inl (cI, 4, .inl zi)), (p_ib, .inl (cZ, 4, .inl zi)), (p_di, .inl (cI, 4, .inl zi)), (p_wa, .inl (cI, 4, .inl zi))] sz)) 0 0 (va_A [(pa, .inr (3, [.ref p_v, .int 0, .ref p_st, .ref p_ib, .ref p_di, .ref p_wa, .ref p_se, .ref p_vh, .ref p_re])), (p_v, .inl (cI, 4, .inl zi)), (p_st, .inl (cI, 4, .inl zi)), (p_ib, .inl (cZ, 4, .inl zi)), (p_di, .inl (cI, 4, .inl zi)), (p_wa, .inl (cI, 4, .inl zi))] sz) := by
  have hcs : wh = 0 ∨ wh = 1 ∨ wh = 2 ∨ wh = 3 ∨ wh = 4 := hwh
  rcases hcs with rfl | rfl | rfl | rfl | rfl
  · refine Met.ofW (cc := cX1_figure) (maxL := 3) (ret := (some .int)) (by decide) rfl ?_
    intro p e s m args below meth c s₁ B hml hv
    obtain ⟨rfl, hsz, hP, hK, hD0⟩ := hv
    have hx := B.exec
    have hb := B.bytes
    have hr := B.returns
    have hts := atoms_spec (ws := wsX1_figure) B.pre
    have hown : s.vm.findClass RX1 = some m.cls := findClass_of_methodNamed B.named
    have hlocks := B.notSynchronized
    subst hsz
    have hD := hD0.self (sz := s.heap.size)
    generalize hAe : va_A [(pa, .inr (3, [.ref p_v, .int 0, .ref p_st, .ref p_ib, .ref p_di, .ref p_wa, .ref p_se, .ref p_vh, .ref p_re])), (p_v, .inl (cI, 4, .inl zi)), (p_st, .inl (cI, 4, .inl zi)), (p_ib, .inl (cZ, 4, .inl zi)), (p_di, .inl (cI, 4, .inl zi)), (p_wa, .inl (cI, 4, .inl zi))] s.heap.size = A at hD ⊢
    have hA : ∀ q : Nat, s.heap.size ≤ q → A q := fun q h => by rw [← hAe]; exact Or.inr h
    have hS : va_S A s.heap s.heap [] := va_S.rf
    have hP : va_P (dC, dI) vwCl [(pa, .inr (3, [.ref p_v, .int 0, .ref p_st, .ref p_ib, .ref p_di, .ref p_wa, .ref p_se, .ref p_vh, .ref p_re])), (p_v, .inl (cI, 4, .inl zi)), (p_st, .inl (cI, 4, .inl zi)), (p_ib, .inl (cZ, 4, .inl zi)), (p_di, .inl (cI, 4, .inl zi)), (p_wa, .inl (cI, 4, .inl zi))] s.heap := hP
    have hK : va_K (dC, dI) vwCl [(cI, .int), (cZ, .boolean)] s := hK
    have hl := lv_entry ([.ref pa, .int par, .int 0]) (n := 3) (Nat.le_of_ble_eq_true rfl)
    rw [lg_entry_eq]
    generalize (lg_sl ([.ref pa, .int par, .int 0]) ++ List.replicate (3 - (lg_sl ([.ref pa, .int par, .int 0])).length) Slot.unset).toArray = ls at hl ⊢
    have hl : lv_has ls 3 [(0, .ref pa), (1, .int par), (2, .int 0)] := hl
    refine lv_iload_n hx hb dX1_figure_0 rfl (lv_at hl 2 rfl) ?_
    refine lv_tableIn (off := 31) (tgt := 32) hx hb dX1_figure_1 (by decide) (by decide) rfl (by decide) ?_
    refine lv_aload_n hx hb dX1_figure_32 rfl (lv_at hl 0 rfl) ?_
    have hinX1 : ∀ w ∈ u_ws RX1 TX1 9, w ∈ wsX1_figure := by decide +kernel
    refine va_get (D := (dC, dI)) (ci := 3) (v := .ref p_v) (C := RX1) (T := TX1) (N := 9) hx hb hts hinX1 hown hK hP 0 rfl rfl 0 (by decide) (hts (.fieldLink RX1 9 "BallotLoom$Parties" "votes" "[I") (by decide +kernel)) (fun _ h9 => h9) rfl dX1_figure_33 ?_
    refine lv_iload_n hx hb dX1_figure_36 rfl (lv_at hl 1 rfl) ?_
    refine va_iald hx hb hK hP 1 0 rfl rfl hpa dX1_figure_37 ?_
    refine lv_topi (fun y_1 ey_1 => ?_)
    obtain rfl : y_1 = 0 := ey_1.trans (by rfl)
    have hP9 := hP.sub (ws' := [(pa, .inr (3, [.ref p_v, .int 0, .ref p_st, .ref p_ib, .ref p_di, .ref p_wa, .ref p_se, .ref p_vh, .ref p_re])), (p_v, .inl (cI, 4, .inl zi)), (p_st, .inl (cI, 4, .inl zi)), (p_ib, .inl (cZ, 4, .inl zi)), (p_di, .inl (cI, 4, .inl zi)), (p_wa, .inl (cI, 4, .inl zi))]) [0, 1, 2, 3, 4, 5] rfl
    have hD9 := hD.sub (ws' := [(pa, .inr (3, [.ref p_v, .int 0, .ref p_st, .ref p_ib, .ref p_di, .ref p_wa, .ref p_se, .ref p_vh, .ref p_re])), (p_v, .inl (cI, 4, .inl zi)), (p_st, .inl (cI, 4, .inl zi)), (p_ib, .inl (cZ, 4, .inl zi)), (p_di, .inl (cI, 4, .inl zi)), (p_wa, .inl (cI, 4, .inl zi))]) [0, 1, 2, 3, 4, 5] (by decide) rfl
    have hK9 := hK.sub (tys' := [(cI, .int), (cZ, .boolean)]) [0, 1] rfl
    refine W.widen (k := 0) (n := 0) (Nat.le_of_ble_eq_true rfl) (Nat.le_of_ble_eq_true rfl) ?_
    exact W.iret (v := 0) hx hb hr (fun t ht hW => ⟨⟨0, (), rfl, rfl, po_mk ht hW hP9 hK9 hD9⟩, hS.F ht⟩) hS.2.2 dX1_figure_38
  · refine Met.ofW (cc := cX1_figure) (maxL := 3) (ret := (some .int)) (by decide) rfl ?_
    intro p e s m args below meth c s₁ B hml hv
    obtain ⟨rfl, hsz, hP, hK, hD0⟩ := hv
    have hx := B.exec
    have hb := B.bytes
    have hr := B.returns
    have hts := atoms_spec (ws := wsX1_figure) B.pre
    have hown : s.vm.findClass RX1 = some m.cls := findClass_of_methodNamed B.named
    have hlocks := B.notSynchronized
    subst hsz
    have hD := hD0.self (sz := s.heap.size)
    generalize hAe : va_A [(pa, .inr (3, [.ref p_v, .int 0, .ref p_st, .ref p_ib, .ref p_di, .ref p_wa, .ref p_se, .ref p_vh, .ref p_re])), (p_v, .inl (cI, 4, .inl zi)), (p_st, .inl (cI, 4, .inl zi)), (p_ib, .inl (cZ, 4, .inl zi)), (p_di, .inl (cI, 4, .inl zi)), (p_wa, .inl (cI, 4, .inl zi))] s.heap.size = A at hD ⊢
    have hA : ∀ q : Nat, s.heap.size ≤ q → A q := fun q h => by rw [← hAe]; exact Or.inr h
    have hS : va_S A s.heap s.heap [] := va_S.rf
    have hP : va_P (dC, dI) vwCl [(pa, .inr (3, [.ref p_v, .int 0, .ref p_st, .ref p_ib, .ref p_di, .ref p_wa, .ref p_se, .ref p_vh, .ref p_re])), (p_v, .inl (cI, 4, .inl zi)), (p_st, .inl (cI, 4, .inl zi)), (p_ib, .inl (cZ, 4, .inl zi)), (p_di, .inl (cI, 4, .inl zi)), (p_wa, .inl (cI, 4, .inl zi))] s.heap := hP
    have hK : va_K (dC, dI) vwCl [(cI, .int), (cZ, .boolean)] s := hK
    have hl := lv_entry ([.ref pa, .int par, .int 1]) (n := 3) (Nat.le_of_ble_eq_true rfl)
    rw [lg_entry_eq]
    generalize (lg_sl ([.ref pa, .int par, .int 1]) ++ List.replicate (3 - (lg_sl ([.ref pa, .int par, .int 1])).length) Slot.unset).toArray = ls at hl ⊢
    have hl : lv_has ls 3 [(0, .ref pa), (1, .int par), (2, .int 1)] := hl
    refine lv_iload_n hx hb dX1_figure_0 rfl (lv_at hl 2 rfl) ?_
    refine lv_tableIn (off := 38) (tgt := 39) hx hb dX1_figure_1 (by decide) (by decide) rfl (by decide) ?_
    refine lv_aload_n hx hb dX1_figure_39 rfl (lv_at hl 0 rfl) ?_
    have hinX1 : ∀ w ∈ u_ws RX1 TX1 9, w ∈ wsX1_figure := by decide +kernel
    refine va_get (D := (dC, dI)) (ci := 3) (v := .ref p_st) (C := RX1) (T := TX1) (N := 9) hx hb hts hinX1 hown hK hP 0 rfl rfl 2 (by decide) (hts (.fieldLink RX1 15 "BallotLoom$Parties" "standing" "[I") (by decide +kernel)) (fun _ h9 => h9) rfl dX1_figure_40 ?_
    refine lv_iload_n hx hb dX1_figure_43 rfl (lv_at hl 1 rfl) ?_
    refine va_iald hx hb hK hP 2 0 rfl rfl hpa dX1_figure_44 ?_
    refine lv_topi (fun y_2 ey_2 => ?_)
    obtain rfl : y_2 = 0 := ey_2.trans (by rfl)
    have hP9 := hP.sub (ws' := [(pa, .inr (3, [.ref p_v, .int 0, .ref p_st, .ref p_ib, .ref p_di, .ref p_wa, .ref p_se, .ref p_vh, .ref p_re])), (p_v, .inl (cI, 4, .inl zi)), (p_st, .inl (cI, 4, .inl zi)), (p_ib, .inl (cZ, 4, .inl zi)), (p_di, .inl (cI, 4, .inl zi)), (p_wa, .inl (cI, 4, .inl zi))]) [0, 1, 2, 3, 4, 5] rfl
    have hD9 := hD.sub (ws' := [(pa, .inr (3, [.ref p_v, .int 0, .ref p_st, .ref p_ib, .ref p_di, .ref p_wa, .ref p_se, .ref p_vh, .ref p_re])), (p_v, .inl (cI, 4, .inl zi)), (p_st, .inl (cI, 4, .inl zi)), (p_ib, .inl (cZ, 4, .inl zi)), (p_di, .inl (cI, 4, .inl zi)), (p_wa, .inl (cI, 4, .inl zi))]) [0, 1, 2, 3, 4, 5] (by decide) rfl
    have hK9 := hK.sub (tys' := [(cI, .int), (cZ, .boolean)]) [0, 1] rfl
    refine W.widen (k := 0) (n := 0) (Nat.le_of_ble_eq_true rfl) (Nat.le_of_ble_eq_true rfl) ?_
    exact W.iret (v := 0) hx hb hr (fun t ht hW => ⟨⟨0, (), rfl, rfl, po_mk ht hW hP9 hK9 hD9⟩, hS.F ht⟩) hS.2.2 dX1_figure_45
  · refine Met.ofW (cc := cX1_figure) (maxL := 3) (ret := (some .int)) (by decide) rfl ?_
    intro p e s m args below meth c s₁ B hml hv
    obtain ⟨rfl, hsz, hP, hK, hD0⟩ := hv
    have hx := B.exec
    have hb := B.bytes
    have hr := B.returns
    have hts := atoms_spec (ws := wsX1_figure) B.pre
    have hown : s.vm.findClass RX1 = some m.cls := findClass_of_methodNamed B.named
    have hlocks := B.notSynchronized
    subst hsz
    have hD := hD0.self (sz := s.heap.size)
    generalize hAe : va_A [(pa, .inr (3, [.ref p_v, .int 0, .ref p_st, .ref p_ib, .ref p_di, .ref p_wa, .ref p_se, .ref p_vh, .ref p_re])), (p_v, .inl (cI, 4, .inl zi)), (p_st, .inl (cI, 4, .inl zi)), (p_ib, .inl (cZ, 4, .inl zi)), (p_di, .inl (cI, 4, .inl zi)), (p_wa, .inl (cI, 4, .inl zi))] s.heap.size = A at hD ⊢
    have hA : ∀ q : Nat, s.heap.size ≤ q → A q := fun q h => by rw [← hAe]; exact Or.inr h
    have hS : va_S A s.heap s.heap [] := va_S.rf
    have hP : va_P (dC, dI) vwCl [(pa, .inr (3, [.ref p_v, .int 0, .ref p_st, .ref p_ib, .ref p_di, .ref p_wa, .ref p_se, .ref p_vh, .ref p_re])), (p_v, .inl (cI, 4, .inl zi)), (p_st, .inl (cI, 4, .inl zi)), (p_ib, .inl (cZ, 4, .inl zi)), (p_di, .inl (cI, 4, .inl zi)), (p_wa, .inl (cI, 4, .inl zi))] s.heap := hP
    have hK : va_K (dC, dI) vwCl [(cI, .int), (cZ, .boolean)] s := hK
    have hl := lv_entry ([.ref pa, .int par, .int 2]) (n := 3) (Nat.le_of_ble_eq_true rfl)
    rw [lg_entry_eq]
    generalize (lg_sl ([.ref pa, .int par, .int 2]) ++ List.replicate (3 - (lg_sl ([.ref pa, .int par, .int 2])).length) Slot.unset).toArray = ls at hl ⊢
    have hl : lv_has ls 3 [(0, .ref pa), (1, .int par), (2, .int 2)] := hl
    refine lv_iload_n hx hb dX1_figure_0 rfl (lv_at hl 2 rfl) ?_
    refine lv_tableIn (off := 45) (tgt := 46) hx hb dX1_figure_1 (by decide) (by decide) rfl (by decide) ?_
    refine lv_aload_n hx hb dX1_figure_46 rfl (lv_at hl 0 rfl) ?_
    have hinX1 : ∀ w ∈ u_ws RX1 TX1 9, w ∈ wsX1_figure := by decide +kernel
    refine va_get (D := (dC, dI)) (ci := 3) (v := .ref p_di) (C := RX1) (T := TX1) (N := 9) hx hb hts hinX1 hown hK hP 0 rfl rfl 4 (by decide) (hts (.fieldLink RX1 22 "BallotLoom$Parties" "direct" "[I") (by decide +kernel)) (fun _ h9 => h9) rfl dX1_figure_47 ?_
    refine lv_iload_n hx hb dX1_figure_50 rfl (lv_at hl 1 rfl) ?_
    refine va_iald hx hb hK hP 4 0 rfl rfl hpa dX1_figure_51 ?_
    refine lv_topi (fun y_3 ey_3 => ?_)
    obtain rfl : y_3 = 0 := ey_3.trans (by rfl)
    have hP9 := hP.sub (ws' := [(pa, .inr (3, [.ref p_v, .int 0, .ref p_st, .ref p_ib, .ref p_di, .ref p_wa, .ref p_se, .ref p_vh, .ref p_re])), (p_v, .inl (cI, 4, .inl zi)), (p_st, .inl (cI, 4, .inl zi)), (p_ib, .inl (cZ, 4, .inl zi)), (p_di, .inl (cI, 4, .inl zi)), (p_wa, .inl (cI, 4, .inl zi))]) [0, 1, 2, 3, 4, 5] rfl
    have hD9 := hD.sub (ws' := [(pa, .inr (3, [.ref p_v, .int 0, .ref p_st, .ref p_ib, .ref p_di, .ref p_wa, .ref p_se, .ref p_vh, .ref p_re])), (p_v, .inl (cI, 4, .inl zi)), (p_st, .inl (cI, 4, .inl zi)), (p_ib, .inl (cZ, 4, .inl zi)), (p_di, .inl (cI, 4, .inl zi)), (p_wa, .inl (cI, 4, .inl zi))]) [0, 1, 2, 3, 4, 5] (by decide) rfl
    have hK9 := hK.sub (tys' := [(cI, .int), (cZ, .boolean)]) [0, 1] rfl
    refine W.widen (k := 0) (n := 0) (Nat.le_of_ble_eq_true rfl) (Nat.le_of_ble_eq_true rfl) ?_
    exact W.iret (v := 0) hx hb hr (fun t ht hW => ⟨⟨0, (), rfl, rfl, po_mk ht hW hP9 hK9 hD9⟩, hS.F ht⟩) hS.2.2 dX1_figure_52
  · refine Met.ofW (cc := cX1_figure) (maxL := 3) (ret := (some .int)) (by decide) rfl ?_
    intro p e s m args below meth c s₁ B hml hv
    obtain ⟨rfl, hsz, hP, hK, hD0⟩ := hv
    have hx := B.exec
    have hb := B.bytes
    have hr := B.returns
    have hts := atoms_spec (ws := wsX1_figure) B.pre
    have hown : s.vm.findClass RX1 = some m.cls := findClass_of_methodNamed B.named
    have hlocks := B.notSynchronized
    subst hsz
    have hD := hD0.self (sz := s.heap.size)
    generalize hAe : va_A [(pa, .inr (3, [.ref p_v, .int 0, .ref p_st, .ref p_ib, .ref p_di, .ref p_wa, .ref p_se, .ref p_vh, .ref p_re])), (p_v, .inl (cI, 4, .inl zi)), (p_st, .inl (cI, 4, .inl zi)), (p_ib, .inl (cZ, 4, .inl zi)), (p_di, .inl (cI, 4, .inl zi)), (p_wa, .inl (cI, 4, .inl zi))] s.heap.size = A at hD ⊢
    have hA : ∀ q : Nat, s.heap.size ≤ q → A q := fun q h => by rw [← hAe]; exact Or.inr h
    have hS : va_S A s.heap s.heap [] := va_S.rf
    have hP : va_P (dC, dI) vwCl [(pa, .inr (3, [.ref p_v, .int 0, .ref p_st, .ref p_ib, .ref p_di, .ref p_wa, .ref p_se, .ref p_vh, .ref p_re])), (p_v, .inl (cI, 4, .inl zi)), (p_st, .inl (cI, 4, .inl zi)), (p_ib, .inl (cZ, 4, .inl zi)), (p_di, .inl (cI, 4, .inl zi)), (p_wa, .inl (cI, 4, .inl zi))] s.heap := hP
    have hK : va_K (dC, dI) vwCl [(cI, .int), (cZ, .boolean)] s := hK
    have hl := lv_entry ([.ref pa, .int par, .int 3]) (n := 3) (Nat.le_of_ble_eq_true rfl)
    rw [lg_entry_eq]
    generalize (lg_sl ([.ref pa, .int par, .int 3]) ++ List.replicate (3 - (lg_sl ([.ref pa, .int par, .int 3])).length) Slot.unset).toArray = ls at hl ⊢
    have hl : lv_has ls 3 [(0, .ref pa), (1, .int par), (2, .int 3)] := hl
    refine lv_iload_n hx hb dX1_figure_0 rfl (lv_at hl 2 rfl) ?_
    refine lv_tableIn (off := 52) (tgt := 53) hx hb dX1_figure_1 (by decide) (by decide) rfl (by decide) ?_
    refine lv_aload_n hx hb dX1_figure_53 rfl (lv_at hl 0 rfl) ?_
    have hinX1 : ∀ w ∈ u_ws RX1 TX1 9, w ∈ wsX1_figure := by decide +kernel
    refine va_get (D := (dC, dI)) (ci := 3) (v := .ref p_wa) (C := RX1) (T := TX1) (N := 9) hx hb hts hinX1 hown hK hP 0 rfl rfl 5 (by decide) (hts (.fieldLink RX1 25 "BallotLoom$Parties" "wasted" "[I") (by decide +kernel)) (fun _ h9 => h9) rfl dX1_figure_54 ?_
    refine lv_iload_n hx hb dX1_figure_57 rfl (lv_at hl 1 rfl) ?_
    refine va_iald hx hb hK hP 5 0 rfl rfl hpa dX1_figure_58 ?_
    refine lv_topi (fun y_4 ey_4 => ?_)
    obtain rfl : y_4 = 0 := ey_4.trans (by rfl)
    have hP9 := hP.sub (ws' := [(pa, .inr (3, [.ref p_v, .int 0, .ref p_st, .ref p_ib, .ref p_di, .ref p_wa, .ref p_se, .ref p_vh, .ref p_re])), (p_v, .inl (cI, 4, .inl zi)), (p_st, .inl (cI, 4, .inl zi)), (p_ib, .inl (cZ, 4, .inl zi)), (p_di, .inl (cI, 4, .inl zi)), (p_wa, .inl (cI, 4, .inl zi))]) [0, 1, 2, 3, 4, 5] rfl
    have hD9 := hD.sub (ws' := [(pa, .inr (3, [.ref p_v, .int 0, .ref p_st, .ref p_ib, .ref p_di, .ref p_wa, .ref p_se, .ref p_vh, .ref p_re])), (p_v, .inl (cI, 4, .inl zi)), (p_st, .inl (cI, 4, .inl zi)), (p_ib, .inl (cZ, 4, .inl zi)), (p_di, .inl (cI, 4, .inl zi)), (p_wa, .inl (cI, 4, .inl zi))]) [0, 1, 2, 3, 4, 5] (by decide) rfl
    have hK9 := hK.sub (tys' := [(cI, .int), (cZ, .boolean)]) [0, 1] rfl
    refine W.widen (k := 0) (n := 0) (Nat.le_of_ble_eq_true rfl) (Nat.le_of_ble_eq_true rfl) ?_
    exact W.iret (v := 0) hx hb hr (fun t ht hW => ⟨⟨0, (), rfl, rfl, po_mk ht hW hP9 hK9 hD9⟩, hS.F ht⟩) hS.2.2 dX1_figure_59
  · refine Met.ofW (cc := cX1_figure) (maxL := 3) (ret := (some .int)) (by decide) rfl ?_
    intro p e s m args below meth c s₁ B hml hv
    obtain ⟨rfl, hsz, hP, hK, hD0⟩ := hv
    have hx := B.exec
    have hb := B.bytes
    have hr := B.returns
    have hts := atoms_spec (ws := wsX1_figure) B.pre
    have hown : s.vm.findClass RX1 = some m.cls := findClass_of_methodNamed B.named
    have hlocks := B.notSynchronized
    subst hsz
    have hD := hD0.self (sz := s.heap.size)
    generalize hAe : va_A [(pa, .inr (3, [.ref p_v, .int 0, .ref p_st, .ref p_ib, .ref p_di, .ref p_wa, .ref p_se, .ref p_vh, .ref p_re])), (p_v, .inl (cI, 4, .inl zi)), (p_st, .inl (cI, 4, .inl zi)), (p_ib, .inl (cZ, 4, .inl zi)), (p_di, .inl (cI, 4, .inl zi)), (p_wa, .inl (cI, 4, .inl zi))] s.heap.size = A at hD ⊢
    have hA : ∀ q : Nat, s.heap.size ≤ q → A q := fun q h => by rw [← hAe]; exact Or.inr h
    have hS : va_S A s.heap s.heap [] := va_S.rf
    have hP : va_P (dC, dI) vwCl [(pa, .inr (3, [.ref p_v, .int 0, .ref p_st, .ref p_ib, .ref p_di, .ref p_wa, .ref p_se, .ref p_vh, .ref p_re])), (p_v, .inl (cI, 4, .inl zi)), (p_st, .inl (cI, 4, .inl zi)), (p_ib, .inl (cZ, 4, .inl zi)), (p_di, .inl (cI, 4, .inl zi)), (p_wa, .inl (cI, 4, .inl zi))] s.heap := hP
    have hK : va_K (dC, dI) vwCl [(cI, .int), (cZ, .boolean)] s := hK
    have hl := lv_entry ([.ref pa, .int par, .int 4]) (n := 3) (Nat.le_of_ble_eq_true rfl)
    rw [lg_entry_eq]
    generalize (lg_sl ([.ref pa, .int par, .int 4]) ++ List.replicate (3 - (lg_sl ([.ref pa, .int par, .int 4])).length) Slot.unset).toArray = ls at hl ⊢
    have hl : lv_has ls 3 [(0, .ref pa), (1, .int par), (2, .int 4)] := hl
    refine lv_iload_n hx hb dX1_figure_0 rfl (lv_at hl 2 rfl) ?_
    refine lv_tableOut (tgt := 60) hx hb dX1_figure_1 (by decide) (by decide) ?_
    refine lv_aload_n hx hb dX1_figure_60 rfl (lv_at hl 0 rfl) ?_
    have hinX1 : ∀ w ∈ u_ws RX1 TX1 9, w ∈ wsX1_figure := by decide +kernel
    refine va_get (D := (dC, dI)) (ci := 3) (v := .ref p_ib) (C := RX1) (T := TX1) (N := 9) hx hb hts hinX1 hown hK hP 0 rfl rfl 3 (by decide) (hts (.fieldLink RX1 18 "BallotLoom$Parties" "isBarred" "[Z") (by decide +kernel)) (fun _ h9 => h9) rfl dX1_figure_61 ?_
    refine lv_iload_n hx hb dX1_figure_64 rfl (lv_at hl 1 rfl) ?_
    refine va_zald hx hb hK hP 3 1 rfl rfl hpa dX1_figure_65 ?_
    refine lv_topi (fun y_5 ey_5 => ?_)
    obtain rfl : y_5 = 0 := ey_5.trans (by rfl)
    refine lv_if_eq (tgt := 73) hx hb dX1_figure_66 (by decide) (fun _ => ?_) (fun h9 => absurd h9 (by decide))
    refine lv_iconst (v := 0) hx hb dX1_figure_73 (by decide) ?_
    have hP9 := hP.sub (ws' := [(pa, .inr (3, [.ref p_v, .int 0, .ref p_st, .ref p_ib, .ref p_di, .ref p_wa, .ref p_se, .ref p_vh, .ref p_re])), (p_v, .inl (cI, 4, .inl zi)), (p_st, .inl (cI, 4, .inl zi)), (p_ib, .inl (cZ, 4, .inl zi)), (p_di, .inl (cI, 4, .inl zi)), (p_wa, .inl (cI, 4, .inl zi))]) [0, 1, 2, 3, 4, 5] rfl
    have hD9 := hD.sub (ws' := [(pa, .inr (3, [.ref p_v, .int 0, .ref p_st, .ref p_ib, .ref p_di, .ref p_wa, .ref p_se, .ref p_vh, .ref p_re])), (p_v, .inl (cI, 4, .inl zi)), (p_st, .inl (cI, 4, .inl zi)), (p_ib, .inl (cZ, 4, .inl zi)), (p_di, .inl (cI, 4, .inl zi)), (p_wa, .inl (cI, 4, .inl zi))]) [0, 1, 2, 3, 4, 5] (by decide) rfl
    have hK9 := hK.sub (tys' := [(cI, .int), (cZ, .boolean)]) [0, 1] rfl
    refine W.widen (k := 0) (n := 0) (Nat.le_of_ble_eq_true rfl) (Nat.le_of_ble_eq_true rfl) ?_
    exact W.iret (v := 0) hx hb hr (fun t ht hW => ⟨⟨0, (), rfl, rfl, po_mk ht hW hP9 hK9 hD9⟩, hS.F ht⟩) hS.2.2 dX1_figure_74

set_option maxHeartbeats 4000000 in
set_option maxRecDepth 100000 in
theorem c_X1_takesPart (l : Launch) (dC : Nat → ClassId) (dI : Nat → Nat → Nat) (pa : Nat) (p_v : Nat) (p_st : Nat) (p_ib : Nat) (p_di : Nat) (p_wa : Nat) (p_se : Nat) (p_vh : Nat) (p_re : Nat) (par : Int32) (cI : ClassId) (cZ : ClassId) (sz : Nat) (hpa : vp_in par 4) : Met l yX1_takesPart wsX1_takesPart ({ frames := 2, cells := 0, slots := 0, locals := 40 }) (va_Pc [.ref pa, .int par] (pr_ dC dI [(pa, .inr (3, [.ref p_v, .int 0, .ref p_st, .ref p_ib, .ref p_di, .ref p_wa, .ref p_se, .ref p_vh, .ref p_re])), (p_v, .inl (cI, 4, .inl zi)), (p_ib, .inl (cZ, 4, .inl zi))] [(cI, .int), (cZ, .boolean)] sz)) (va_Qi (fun (r : Int32) (_ : Unit) => r = 0) (fun (_ : Unit) t => po_ dC dI [(pa, .inr (3, [.ref p_v, .int 0, .ref p_st, .ref p_ib, .ref p_di, .ref p_wa, .ref p_se, .ref p_vh, .ref p_re])), (p_v, .inl (cI, 4, .inl zi)), (p_ib, .inl (cZ, 4, .inl zi))] [(cI, .int), (cZ, .boolean)] (va_A [(pa, .inr (3, [.ref p_v, .int 0, .ref p_st, .ref p_ib, .ref p_di, .ref p_wa, .ref p_se, .ref p_vh, .ref p_re])), (p_v, .inl (cI, 4, .inl zi)), (p_ib, .inl (cZ, 4, .inl zi))] sz) t) (va_A [(pa, .inr (3, [.ref p_v, .int 0, .ref p_st, .ref p_ib, .ref p_di, .ref p_wa, .ref p_se, .ref p_vh, .ref p_re])), (p_v, .inl (cI, 4, .inl zi)), (p_ib, .inl (cZ, 4, .inl zi))] sz)) 0 0 (va_A [(pa, .inr (3, [.ref p_v, .int 0, .ref p_st, .ref p_ib, .ref p_di, .ref p_wa, .ref p_se, .ref p_vh, .ref p_re])), (p_v, .inl (cI, 4, .inl zi)), (p_ib, .inl (cZ, 4, .inl zi))] sz) := by
  refine Met.ofW (cc := cX1_takesPart) (maxL := 2) (ret := (some .boolean)) (by decide) rfl ?_
  intro p e s m args below meth c s₁ B hml hv
  obtain ⟨rfl, hsz, hP, hK, hD0⟩ := hv
  have hx := B.exec
  have hb := B.bytes
  have hr := B.returns
  have hts := atoms_spec (ws := wsX1_takesPart) B.pre
  have hown : s.vm.findClass RX1 = some m.cls := findClass_of_methodNamed B.named
  have hlocks := B.notSynchronized
  subst hsz
  have hD := hD0.self (sz := s.heap.size)
  generalize hAe : va_A [(pa, .inr (3, [.ref p_v, .int 0, .ref p_st, .ref p_ib, .ref p_di, .ref p_wa, .ref p_se, .ref p_vh, .ref p_re])), (p_v, .inl (cI, 4, .inl zi)), (p_ib, .inl (cZ, 4, .inl zi))] s.heap.size = A at hD ⊢
  have hA : ∀ q : Nat, s.heap.size ≤ q → A q := fun q h => by rw [← hAe]; exact Or.inr h
  have hS : va_S A s.heap s.heap [] := va_S.rf
  have hP : va_P (dC, dI) vwCl [(pa, .inr (3, [.ref p_v, .int 0, .ref p_st, .ref p_ib, .ref p_di, .ref p_wa, .ref p_se, .ref p_vh, .ref p_re])), (p_v, .inl (cI, 4, .inl zi)), (p_ib, .inl (cZ, 4, .inl zi))] s.heap := hP
  have hK : va_K (dC, dI) vwCl [(cI, .int), (cZ, .boolean)] s := hK
  have hl := lv_entry ([.ref pa, .int par]) (n := 2) (Nat.le_of_ble_eq_true rfl)
  rw [lg_entry_eq]
  generalize (lg_sl ([.ref pa, .int par]) ++ List.replicate (2 - (lg_sl ([.ref pa, .int par])).length) Slot.unset).toArray = ls at hl ⊢
  have hl : lv_has ls 2 [(0, .ref pa), (1, .int par)] := hl
  refine lv_aload_n hx hb dX1_takesPart_0 rfl (lv_at hl 0 rfl) ?_
  have hinX1 : ∀ w ∈ u_ws RX1 TX1 9, w ∈ wsX1_takesPart := by decide +kernel
  refine va_get (D := (dC, dI)) (ci := 3) (v := .ref p_v) (C := RX1) (T := TX1) (N := 9) hx hb hts hinX1 hown hK hP 0 rfl rfl 0 (by decide) (hts (.fieldLink RX1 9 "BallotLoom$Parties" "votes" "[I") (by decide +kernel)) (fun _ h9 => h9) rfl dX1_takesPart_1 ?_
  refine lv_iload_n hx hb dX1_takesPart_4 rfl (lv_at hl 1 rfl) ?_
  refine va_iald hx hb hK hP 1 0 rfl rfl hpa dX1_takesPart_5 ?_
  refine lv_topi (fun y_1 ey_1 => ?_)
  obtain rfl : y_1 = 0 := ey_1.trans (by rfl)
  refine lv_if_le (tgt := 22) hx hb dX1_takesPart_6 (by decide) (fun _ => ?_) (fun h9 => absurd h9 (by decide))
  refine lv_iconst (v := 0) hx hb dX1_takesPart_22 (by decide) ?_
  have hP9 := hP.sub (ws' := [(pa, .inr (3, [.ref p_v, .int 0, .ref p_st, .ref p_ib, .ref p_di, .ref p_wa, .ref p_se, .ref p_vh, .ref p_re])), (p_v, .inl (cI, 4, .inl zi)), (p_ib, .inl (cZ, 4, .inl zi))]) [0, 1, 2] rfl
  have hD9 := hD.sub (ws' := [(pa, .inr (3, [.ref p_v, .int 0, .ref p_st, .ref p_ib, .ref p_di, .ref p_wa, .ref p_se, .ref p_vh, .ref p_re])), (p_v, .inl (cI, 4, .inl zi)), (p_ib, .inl (cZ, 4, .inl zi))]) [0, 1, 2] (by decide) rfl
  have hK9 := hK.sub (tys' := [(cI, .int), (cZ, .boolean)]) [0, 1] rfl
  refine W.widen (k := 0) (n := 0) (Nat.le_of_ble_eq_true rfl) (Nat.le_of_ble_eq_true rfl) ?_
  exact W.zret (v := 0) hx hb hr rfl (fun t ht hW => ⟨⟨0, (), rfl, rfl, po_mk ht hW hP9 hK9 hD9⟩, hS.F ht⟩) hS.2.2 dX1_takesPart_23

set_option maxHeartbeats 4000000 in
set_option maxRecDepth 100000 in
theorem c_X1_shareByDivisors (l : Launch) (dC : Nat → ClassId) (dI : Nat → Nat → Nat) (pa : Nat) (p_v : Nat) (p_st : Nat) (p_ib : Nat) (p_di : Nat) (p_wa : Nat) (p_se : Nat) (p_vh : Nat) (p_re : Nat) (ho : Int32) (sp : Int32) (cI : ClassId) (cZ : ClassId) (sz : Nat) (hh1 : ¬ ho ≤ 0) : Met l yX1_shareByDivisors wsX1_shareByDivisors ({ frames := 3, cells := 0, slots := 0, locals := 70 }) (va_Pc [.ref pa, .int ho, .int sp] (pr_ dC dI [(pa, .inr (3, [.ref p_v, .int 0, .ref p_st, .ref p_ib, .ref p_di, .ref p_wa, .ref p_se, .ref p_vh, .ref p_re])), (p_v, .inl (cI, 4, .inl zi)), (p_ib, .inl (cZ, 4, .inl zi)), (p_se, .inl (cI, 4, .inl zi))] [(cI, .int), (cZ, .boolean)] sz)) (va_Qv (fun (_ : Unit) => True) (fun (_ : Unit) t => po_ dC dI [(pa, .inr (3, [.ref p_v, .int 0, .ref p_st, .ref p_ib, .ref p_di, .ref p_wa, .ref p_se, .ref p_vh, .ref p_re])), (p_v, .inl (cI, 4, .inl zi)), (p_ib, .inl (cZ, 4, .inl zi)), (p_se, .inl (cI, 4, .inl zi))] [(cI, .int), (cZ, .boolean)] (va_A [(pa, .inr (3, [.ref p_v, .int 0, .ref p_st, .ref p_ib, .ref p_di, .ref p_wa, .ref p_se, .ref p_vh, .ref p_re])), (p_v, .inl (cI, 4, .inl zi)), (p_ib, .inl (cZ, 4, .inl zi)), (p_se, .inl (cI, 4, .inl zi))] sz) t) (va_A [(pa, .inr (3, [.ref p_v, .int 0, .ref p_st, .ref p_ib, .ref p_di, .ref p_wa, .ref p_se, .ref p_vh, .ref p_re])), (p_v, .inl (cI, 4, .inl zi)), (p_ib, .inl (cZ, 4, .inl zi)), (p_se, .inl (cI, 4, .inl zi))] sz)) 0 0 (va_A [(pa, .inr (3, [.ref p_v, .int 0, .ref p_st, .ref p_ib, .ref p_di, .ref p_wa, .ref p_se, .ref p_vh, .ref p_re])), (p_v, .inl (cI, 4, .inl zi)), (p_ib, .inl (cZ, 4, .inl zi)), (p_se, .inl (cI, 4, .inl zi))] sz) := by
  refine Met.ofW (cc := cX1_shareByDivisors) (maxL := 10) (ret := none) (by decide) rfl ?_
  intro p e s m args below meth c s₁ B hml hv
  obtain ⟨rfl, hsz, hP, hK, hD0⟩ := hv
  have hx := B.exec
  have hb := B.bytes
  have hr := B.returns
  have hts := atoms_spec (ws := wsX1_shareByDivisors) B.pre
  have hown : s.vm.findClass RX1 = some m.cls := findClass_of_methodNamed B.named
  have hlocks := B.notSynchronized
  subst hsz
  have hD := hD0.self (sz := s.heap.size)
  generalize hAe : va_A [(pa, .inr (3, [.ref p_v, .int 0, .ref p_st, .ref p_ib, .ref p_di, .ref p_wa, .ref p_se, .ref p_vh, .ref p_re])), (p_v, .inl (cI, 4, .inl zi)), (p_ib, .inl (cZ, 4, .inl zi)), (p_se, .inl (cI, 4, .inl zi))] s.heap.size = A at hD ⊢
  have hA : ∀ q : Nat, s.heap.size ≤ q → A q := fun q h => by rw [← hAe]; exact Or.inr h
  have hS : va_S A s.heap s.heap [] := va_S.rf
  have hP : va_P (dC, dI) vwCl [(pa, .inr (3, [.ref p_v, .int 0, .ref p_st, .ref p_ib, .ref p_di, .ref p_wa, .ref p_se, .ref p_vh, .ref p_re])), (p_v, .inl (cI, 4, .inl zi)), (p_ib, .inl (cZ, 4, .inl zi)), (p_se, .inl (cI, 4, .inl zi))] s.heap := hP
  have hK : va_K (dC, dI) vwCl [(cI, .int), (cZ, .boolean)] s := hK
  have hl := lv_entry ([.ref pa, .int ho, .int sp]) (n := 10) (Nat.le_of_ble_eq_true rfl)
  rw [lg_entry_eq]
  generalize (lg_sl ([.ref pa, .int ho, .int sp]) ++ List.replicate (10 - (lg_sl ([.ref pa, .int ho, .int sp])).length) Slot.unset).toArray = ls at hl ⊢
  have hl : lv_has ls 10 [(0, .ref pa), (1, .int ho), (2, .int sp)] := hl
  refine lv_iconst (v := 0) hx hb dX1_shareByDivisors_0 (by decide) ?_
  refine lv_istore_n (lv' := [(3, .int 0), (0, .ref pa), (1, .int ho), (2, .int sp)]) hx hb dX1_shareByDivisors_1 rfl hl (by decide) rfl (fun ls hl => ?_)
  refine lv_iload_n hx hb dX1_shareByDivisors_2 rfl (lv_at hl 0 rfl) ?_
  refine lv_iload_n hx hb dX1_shareByDivisors_3 rfl (lv_at hl 2 rfl) ?_
  refine lv_icmp_ge (tgt := 131) hx hb dX1_shareByDivisors_4 (by decide) (fun h9 => (hh1 h9).elim) (fun _ => ?_)
  refine lv_iconst (v := (-1)) hx hb dX1_shareByDivisors_7 (by decide) ?_
  refine lv_istore (lv' := [(4, .int (-1)), (3, .int 0), (0, .ref pa), (1, .int ho), (2, .int sp)]) hx hb dX1_shareByDivisors_8 hl (by decide) rfl (fun ls hl => ?_)
  refine lv_dconst0 hx hb dX1_shareByDivisors_10 ?_
  refine lv_dstore (lv' := [(5, .double FP.dconst0), (4, .int (-1)), (3, .int 0), (0, .ref pa), (1, .int ho), (2, .int sp)]) hx hb dX1_shareByDivisors_11 hl (by decide) rfl (fun ls hl => ?_)
  refine lv_iconst (v := 0) hx hb dX1_shareByDivisors_13 (by decide) ?_
  refine lv_istore (lv' := [(7, .int 0), (5, .double FP.dconst0), (4, .int (-1)), (3, .int 0), (0, .ref pa), (1, .int ho), (2, .int sp)]) hx hb dX1_shareByDivisors_14 hl (by decide) rfl (fun ls hl => ?_)
  refine lv_iload hx hb dX1_shareByDivisors_16 (lv_at hl 0 rfl) ?_
  refine lv_iconst (v := 4) hx hb dX1_shareByDivisors_18 (by decide) ?_
  refine lv_icmp_ge (tgt := 107) hx hb dX1_shareByDivisors_19 (by decide) (fun h9 => absurd h9 (by decide)) (fun _ => ?_)
  refine lv_aload_n hx hb dX1_shareByDivisors_22 rfl (lv_at hl 4 rfl) ?_
  have hinX1 : ∀ w ∈ u_ws RX1 TX1 9, w ∈ wsX1_shareByDivisors := by decide +kernel
  refine va_get (D := (dC, dI)) (ci := 3) (v := .ref p_v) (C := RX1) (T := TX1) (N := 9) hx hb hts hinX1 hown hK hP 0 rfl rfl 0 (by decide) (hts (.fieldLink RX1 9 "BallotLoom$Parties" "votes" "[I") (by decide +kernel)) (fun _ h9 => h9) rfl dX1_shareByDivisors_23 ?_
  refine lv_iload hx hb dX1_shareByDivisors_26 (lv_at hl 0 rfl) ?_
  refine va_iald hx hb hK hP 1 0 rfl rfl (by unfold vp_in; decide) dX1_shareByDivisors_28 ?_
  refine lv_topi (fun y_1 ey_1 => ?_)
  obtain rfl : y_1 = 0 := ey_1.trans (by rfl)
  refine lv_i2d hx hb dX1_shareByDivisors_29 ?_
  refine lv_iconst (v := 1) hx hb dX1_shareByDivisors_30 (by decide) ?_
  refine lv_iload_n hx hb dX1_shareByDivisors_31 rfl (lv_at hl 6 rfl) ?_
  refine lv_aload_n hx hb dX1_shareByDivisors_32 rfl (lv_at hl 4 rfl) ?_
  refine va_get (D := (dC, dI)) (ci := 3) (v := .ref p_se) (C := RX1) (T := TX1) (N := 9) hx hb hts hinX1 hown hK hP 0 rfl rfl 6 (by decide) (hts (.fieldLink RX1 28 "BallotLoom$Parties" "seats" "[I") (by decide +kernel)) (fun _ h9 => h9) rfl dX1_shareByDivisors_33 ?_
  refine lv_iload hx hb dX1_shareByDivisors_36 (lv_at hl 0 rfl) ?_
  refine va_iald hx hb hK hP 3 0 rfl rfl (by unfold vp_in; decide) dX1_shareByDivisors_38 ?_
  refine lv_topi (fun y_2 ey_2 => ?_)
  obtain rfl : y_2 = 0 := ey_2.trans (by rfl)
  refine lv_imul hx hb dX1_shareByDivisors_39 ?_
  refine lv_topi (fun y_3 ey_3 => ?_)
  obtain rfl : y_3 = 0 := ey_3.trans (by simp)
  refine lv_iadd hx hb dX1_shareByDivisors_40 ?_
  refine lv_topi (fun y_4 ey_4 => ?_)
  obtain rfl : y_4 = 1 := ey_4.trans (by decide)
  refine lv_i2d hx hb dX1_shareByDivisors_41 ?_
  refine lv_ddiv hx hb dX1_shareByDivisors_42 (by unfold vf_n64; decide +kernel) ?_
  refine lv_dstore (lv' := [(8, .double (FP.ddiv (FP.i2d 0) (FP.i2d 1))), (7, .int 0), (5, .double FP.dconst0), (4, .int (-1)), (3, .int 0), (0, .ref pa), (1, .int ho), (2, .int sp)]) hx hb dX1_shareByDivisors_43 hl (by decide) rfl (fun ls hl => ?_)
  refine lv_aload_n hx hb dX1_shareByDivisors_45 rfl (lv_at hl 5 rfl) ?_
  refine lv_iload hx hb dX1_shareByDivisors_46 (lv_at hl 1 rfl) ?_
  have hPc := hP.sub (ws' := [(pa, .inr (3, [.ref p_v, .int 0, .ref p_st, .ref p_ib, .ref p_di, .ref p_wa, .ref p_se, .ref p_vh, .ref p_re])), (p_v, .inl (cI, 4, .inl zi)), (p_ib, .inl (cZ, 4, .inl zi))]) [0, 1, 2] rfl
  have hDc := hD.sub (ws' := [(pa, .inr (3, [.ref p_v, .int 0, .ref p_st, .ref p_ib, .ref p_di, .ref p_wa, .ref p_se, .ref p_vh, .ref p_re])), (p_v, .inl (cI, 4, .inl zi)), (p_ib, .inl (cZ, 4, .inl zi))]) [0, 1, 2] (by decide) rfl
  have hKc := hK.sub (tys' := [(cI, .int), (cZ, .boolean)]) [0, 1] rfl
  have hFc := va_free (wc := [(pa, .inr (3, [.ref p_v, .int 0, .ref p_st, .ref p_ib, .ref p_di, .ref p_wa, .ref p_se, .ref p_vh, .ref p_re])), (p_v, .inl (cI, 4, .inl zi)), (p_ib, .inl (cZ, 4, .inl zi))]) hD hS hA [0, 1, 2] rfl
  refine va_calli (va_runV (As := [.int 0]) (rest := []) ⟨hx, hb, hml, hown, hts⟩ (c_X1_takesPart l dC dI pa p_v p_st p_ib p_di p_wa p_se p_vh p_re (0 : Int32) cI cZ _ (by unfold vp_in; decide)) (cwV 1 hts gX1_shareByDivisors_X1_takesPart rfl rfl rfl (by decide +kernel) ⟨Nat.le_of_ble_eq_true rfl, Nat.le_of_ble_eq_true rfl⟩) ⟨pr_blind, va_recv hKc hPc (ci := 3) (q0 := 0) rfl rfl, fun U hU hW => ⟨rfl, pr_mk hU hW hPc hKc hDc⟩⟩ rfl rfl hl.1 rfl (lv_room (Nat.le_of_ble_eq_true rfl)) dX1_shareByDivisors_48 ⟨Nat.le_of_ble_eq_true rfl, Nat.le_of_ble_eq_true rfl⟩) hS (fun q _ h => hFc q h) hFc (fun r_6 u_5 t H1 locs ht hvm hw hB hz1 hk1 hS => ?_)
  obtain ⟨hP1, hK1, hD1⟩ := hB
  rw [ht] at hP1
  obtain ⟨hP, hD⟩ := va_join (wr := [(p_se, .inl (cI, 4, .inl zi))]) (w1 := [(pa, .inr (3, [.ref p_v, .int 0, .ref p_st, .ref p_ib, .ref p_di, .ref p_wa, .ref p_se, .ref p_vh, .ref p_re])), (p_v, .inl (cI, 4, .inl zi)), (p_ib, .inl (cZ, 4, .inl zi))]) hP hD [0, 1, 2] [3] rfl rfl (by decide) (by decide) hk1 hFc hP1 hD1
  generalize H1 = H at hP hS ⊢
  have hP : va_P (dC, dI) vwCl [(p_se, .inl (cI, 4, .inl zi)), (pa, .inr (3, [.ref p_v, .int 0, .ref p_st, .ref p_ib, .ref p_di, .ref p_wa, .ref p_se, .ref p_vh, .ref p_re])), (p_v, .inl (cI, 4, .inl zi)), (p_ib, .inl (cZ, 4, .inl zi))] H := hP
  have hD : va_D A [(p_se, .inl (cI, 4, .inl zi)), (pa, .inr (3, [.ref p_v, .int 0, .ref p_st, .ref p_ib, .ref p_di, .ref p_wa, .ref p_se, .ref p_vh, .ref p_re])), (p_v, .inl (cI, 4, .inl zi)), (p_ib, .inl (cZ, 4, .inl zi))] := hD
  refine W.widen (k := 0) (n := 0) (Nat.le_refl _) (Nat.le_refl _) ?_
  have hw : r_6 = 0 := hw
  subst hw
  refine lv_if_eq (tgt := 101) hx hb dX1_shareByDivisors_51 (by decide) (fun _ => ?_) (fun h9 => absurd h9 (by decide))
  refine lv_iinc (k := 1) (v := 1) (lv' := [(7, .int 1), (8, .double (FP.ddiv (FP.i2d 0) (FP.i2d 1))), (5, .double FP.dconst0), (4, .int (-1)), (3, .int 0), (0, .ref pa), (1, .int ho), (2, .int sp)]) hx hb dX1_shareByDivisors_101 hl rfl (by decide) (by decide) rfl (fun ls hl => ?_)
  refine lv_goto (tgt := 16) hx hb dX1_shareByDivisors_104 (by decide) ?_
  refine lv_iload hx hb dX1_shareByDivisors_16 (lv_at hl 0 rfl) ?_
  refine lv_iconst (v := 4) hx hb dX1_shareByDivisors_18 (by decide) ?_
  refine lv_icmp_ge (tgt := 107) hx hb dX1_shareByDivisors_19 (by decide) (fun h9 => absurd h9 (by decide)) (fun _ => ?_)
  refine lv_aload_n hx hb dX1_shareByDivisors_22 rfl (lv_at hl 5 rfl) ?_
  refine va_get (D := (dC, dI)) (ci := 3) (v := .ref p_v) (C := RX1) (T := TX1) (N := 9) hx hb hts hinX1 hown hK hP 1 rfl rfl 0 (by decide) (hts (.fieldLink RX1 9 "BallotLoom$Parties" "votes" "[I") (by decide +kernel)) (fun _ h9 => h9) rfl dX1_shareByDivisors_23 ?_
  refine lv_iload hx hb dX1_shareByDivisors_26 (lv_at hl 0 rfl) ?_
  refine va_iald hx hb hK hP 2 0 rfl rfl (by unfold vp_in; decide) dX1_shareByDivisors_28 ?_
  refine lv_topi (fun y_7 ey_7 => ?_)
  obtain rfl : y_7 = 0 := ey_7.trans (by rfl)
  refine lv_i2d hx hb dX1_shareByDivisors_29 ?_
  refine lv_iconst (v := 1) hx hb dX1_shareByDivisors_30 (by decide) ?_
  refine lv_iload_n hx hb dX1_shareByDivisors_31 rfl (lv_at hl 7 rfl) ?_
  refine lv_aload_n hx hb dX1_shareByDivisors_32 rfl (lv_at hl 5 rfl) ?_
  refine va_get (D := (dC, dI)) (ci := 3) (v := .ref p_se) (C := RX1) (T := TX1) (N := 9) hx hb hts hinX1 hown hK hP 1 rfl rfl 6 (by decide) (hts (.fieldLink RX1 28 "BallotLoom$Parties" "seats" "[I") (by decide +kernel)) (fun _ h9 => h9) rfl dX1_shareByDivisors_33 ?_
  refine lv_iload hx hb dX1_shareByDivisors_36 (lv_at hl 0 rfl) ?_
  refine va_iald hx hb hK hP 0 0 rfl rfl (by unfold vp_in; decide) dX1_shareByDivisors_38 ?_
  refine lv_topi (fun y_8 ey_8 => ?_)
  obtain rfl : y_8 = 0 := ey_8.trans (by rfl)
  refine lv_imul hx hb dX1_shareByDivisors_39 ?_
  refine lv_topi (fun y_9 ey_9 => ?_)
  obtain rfl : y_9 = 0 := ey_9.trans (by simp)
  refine lv_iadd hx hb dX1_shareByDivisors_40 ?_
  refine lv_topi (fun y_10 ey_10 => ?_)
  obtain rfl : y_10 = 1 := ey_10.trans (by decide)
  refine lv_i2d hx hb dX1_shareByDivisors_41 ?_
  refine lv_ddiv hx hb dX1_shareByDivisors_42 (by unfold vf_n64; decide +kernel) ?_
  refine lv_dstore (lv' := [(8, .double (FP.ddiv (FP.i2d 0) (FP.i2d 1))), (7, .int 1), (5, .double FP.dconst0), (4, .int (-1)), (3, .int 0), (0, .ref pa), (1, .int ho), (2, .int sp)]) hx hb dX1_shareByDivisors_43 hl (by decide) rfl (fun ls hl => ?_)
  refine lv_aload_n hx hb dX1_shareByDivisors_45 rfl (lv_at hl 5 rfl) ?_
  refine lv_iload hx hb dX1_shareByDivisors_46 (lv_at hl 1 rfl) ?_
  have hPc := hP.sub (ws' := [(pa, .inr (3, [.ref p_v, .int 0, .ref p_st, .ref p_ib, .ref p_di, .ref p_wa, .ref p_se, .ref p_vh, .ref p_re])), (p_v, .inl (cI, 4, .inl zi)), (p_ib, .inl (cZ, 4, .inl zi))]) [1, 2, 3] rfl
  have hDc := hD.sub (ws' := [(pa, .inr (3, [.ref p_v, .int 0, .ref p_st, .ref p_ib, .ref p_di, .ref p_wa, .ref p_se, .ref p_vh, .ref p_re])), (p_v, .inl (cI, 4, .inl zi)), (p_ib, .inl (cZ, 4, .inl zi))]) [1, 2, 3] (by decide) rfl
  have hKc := hK.sub (tys' := [(cI, .int), (cZ, .boolean)]) [0, 1] rfl
  have hFc := va_free (wc := [(pa, .inr (3, [.ref p_v, .int 0, .ref p_st, .ref p_ib, .ref p_di, .ref p_wa, .ref p_se, .ref p_vh, .ref p_re])), (p_v, .inl (cI, 4, .inl zi)), (p_ib, .inl (cZ, 4, .inl zi))]) hD hS hA [1, 2, 3] rfl
  refine va_calli (va_runV (As := [.int 1]) (rest := []) ⟨hx, hb, hml, hown, hts⟩ (c_X1_takesPart l dC dI pa p_v p_st p_ib p_di p_wa p_se p_vh p_re (1 : Int32) cI cZ _ (by unfold vp_in; decide)) (cwV 1 hts gX1_shareByDivisors_X1_takesPart rfl rfl rfl (by decide +kernel) ⟨Nat.le_of_ble_eq_true rfl, Nat.le_of_ble_eq_true rfl⟩) ⟨pr_blind, va_recv hKc hPc (ci := 3) (q0 := 0) rfl rfl, fun U hU hW => ⟨rfl, pr_mk hU hW hPc hKc hDc⟩⟩ rfl rfl hl.1 rfl (lv_room (Nat.le_of_ble_eq_true rfl)) dX1_shareByDivisors_48 ⟨Nat.le_of_ble_eq_true rfl, Nat.le_of_ble_eq_true rfl⟩) hS (fun q _ h => hFc q h) hFc (fun r_12 u_11 t H1 locs ht hvm hw hB hz1 hk1 hS => ?_)
  obtain ⟨hP1, hK1, hD1⟩ := hB
  rw [ht] at hP1
  obtain ⟨hP, hD⟩ := va_join (wr := [(p_se, .inl (cI, 4, .inl zi))]) (w1 := [(pa, .inr (3, [.ref p_v, .int 0, .ref p_st, .ref p_ib, .ref p_di, .ref p_wa, .ref p_se, .ref p_vh, .ref p_re])), (p_v, .inl (cI, 4, .inl zi)), (p_ib, .inl (cZ, 4, .inl zi))]) hP hD [1, 2, 3] [0] rfl rfl (by decide) (by decide) hk1 hFc hP1 hD1
  generalize H1 = H at hP hS ⊢
  have hP : va_P (dC, dI) vwCl [(p_se, .inl (cI, 4, .inl zi)), (pa, .inr (3, [.ref p_v, .int 0, .ref p_st, .ref p_ib, .ref p_di, .ref p_wa, .ref p_se, .ref p_vh, .ref p_re])), (p_v, .inl (cI, 4, .inl zi)), (p_ib, .inl (cZ, 4, .inl zi))] H := hP
  have hD : va_D A [(p_se, .inl (cI, 4, .inl zi)), (pa, .inr (3, [.ref p_v, .int 0, .ref p_st, .ref p_ib, .ref p_di, .ref p_wa, .ref p_se, .ref p_vh, .ref p_re])), (p_v, .inl (cI, 4, .inl zi)), (p_ib, .inl (cZ, 4, .inl zi))] := hD
  refine W.widen (k := 0) (n := 0) (Nat.le_refl _) (Nat.le_refl _) ?_
  have hw : r_12 = 0 := hw
  subst hw
  refine lv_if_eq (tgt := 101) hx hb dX1_shareByDivisors_51 (by decide) (fun _ => ?_) (fun h9 => absurd h9 (by decide))
  refine lv_iinc (k := 1) (v := 2) (lv' := [(7, .int 2), (8, .double (FP.ddiv (FP.i2d 0) (FP.i2d 1))), (5, .double FP.dconst0), (4, .int (-1)), (3, .int 0), (0, .ref pa), (1, .int ho), (2, .int sp)]) hx hb dX1_shareByDivisors_101 hl rfl (by decide) (by decide) rfl (fun ls hl => ?_)
  refine lv_goto (tgt := 16) hx hb dX1_shareByDivisors_104 (by decide) ?_
  refine lv_iload hx hb dX1_shareByDivisors_16 (lv_at hl 0 rfl) ?_
  refine lv_iconst (v := 4) hx hb dX1_shareByDivisors_18 (by decide) ?_
  refine lv_icmp_ge (tgt := 107) hx hb dX1_shareByDivisors_19 (by decide) (fun h9 => absurd h9 (by decide)) (fun _ => ?_)
  refine lv_aload_n hx hb dX1_shareByDivisors_22 rfl (lv_at hl 5 rfl) ?_
  refine va_get (D := (dC, dI)) (ci := 3) (v := .ref p_v) (C := RX1) (T := TX1) (N := 9) hx hb hts hinX1 hown hK hP 1 rfl rfl 0 (by decide) (hts (.fieldLink RX1 9 "BallotLoom$Parties" "votes" "[I") (by decide +kernel)) (fun _ h9 => h9) rfl dX1_shareByDivisors_23 ?_
  refine lv_iload hx hb dX1_shareByDivisors_26 (lv_at hl 0 rfl) ?_
  refine va_iald hx hb hK hP 2 0 rfl rfl (by unfold vp_in; decide) dX1_shareByDivisors_28 ?_
  refine lv_topi (fun y_13 ey_13 => ?_)
  obtain rfl : y_13 = 0 := ey_13.trans (by rfl)
  refine lv_i2d hx hb dX1_shareByDivisors_29 ?_
  refine lv_iconst (v := 1) hx hb dX1_shareByDivisors_30 (by decide) ?_
  refine lv_iload_n hx hb dX1_shareByDivisors_31 rfl (lv_at hl 7 rfl) ?_
  refine lv_aload_n hx hb dX1_shareByDivisors_32 rfl (lv_at hl 5 rfl) ?_
  refine va_get (D := (dC, dI)) (ci := 3) (v := .ref p_se) (C := RX1) (T := TX1) (N := 9) hx hb hts hinX1 hown hK hP 1 rfl rfl 6 (by decide) (hts (.fieldLink RX1 28 "BallotLoom$Parties" "seats" "[I") (by decide +kernel)) (fun _ h9 => h9) rfl dX1_shareByDivisors_33 ?_
  refine lv_iload hx hb dX1_shareByDivisors_36 (lv_at hl 0 rfl) ?_
  refine va_iald hx hb hK hP 0 0 rfl rfl (by unfold vp_in; decide) dX1_shareByDivisors_38 ?_
  refine lv_topi (fun y_14 ey_14 => ?_)
  obtain rfl : y_14 = 0 := ey_14.trans (by rfl)
  refine lv_imul hx hb dX1_shareByDivisors_39 ?_
  refine lv_topi (fun y_15 ey_15 => ?_)
  obtain rfl : y_15 = 0 := ey_15.trans (by simp)
  refine lv_iadd hx hb dX1_shareByDivisors_40 ?_
  refine lv_topi (fun y_16 ey_16 => ?_)
  obtain rfl : y_16 = 1 := ey_16.trans (by decide)
  refine lv_i2d hx hb dX1_shareByDivisors_41 ?_
  refine lv_ddiv hx hb dX1_shareByDivisors_42 (by unfold vf_n64; decide +kernel) ?_
  refine lv_dstore (lv' := [(8, .double (FP.ddiv (FP.i2d 0) (FP.i2d 1))), (7, .int 2), (5, .double FP.dconst0), (4, .int (-1)), (3, .int 0), (0, .ref pa), (1, .int ho), (2, .int sp)]) hx hb dX1_shareByDivisors_43 hl (by decide) rfl (fun ls hl => ?_)
  refine lv_aload_n hx hb dX1_shareByDivisors_45 rfl (lv_at hl 5 rfl) ?_
  refine lv_iload hx hb dX1_shareByDivisors_46 (lv_at hl 1 rfl) ?_
  have hPc := hP.sub (ws' := [(pa, .inr (3, [.ref p_v, .int 0, .ref p_st, .ref p_ib, .ref p_di, .ref p_wa, .ref p_se, .ref p_vh, .ref p_re])), (p_v, .inl (cI, 4, .inl zi)), (p_ib, .inl (cZ, 4, .inl zi))]) [1, 2, 3] rfl
  have hDc := hD.sub (ws' := [(pa, .inr (3, [.ref p_v, .int 0, .ref p_st, .ref p_ib, .ref p_di, .ref p_wa, .ref p_se, .ref p_vh, .ref p_re])), (p_v, .inl (cI, 4, .inl zi)), (p_ib, .inl (cZ, 4, .inl zi))]) [1, 2, 3] (by decide) rfl
  have hKc := hK.sub (tys' := [(cI, .int), (cZ, .boolean)]) [0, 1] rfl
  have hFc := va_free (wc := [(pa, .inr (3, [.ref p_v, .int 0, .ref p_st, .ref p_ib, .ref p_di, .ref p_wa, .ref p_se, .ref p_vh, .ref p_re])), (p_v, .inl (cI, 4, .inl zi)), (p_ib, .inl (cZ, 4, .inl zi))]) hD hS hA [1, 2, 3] rfl
  refine va_calli (va_runV (As := [.int 2]) (rest := []) ⟨hx, hb, hml, hown, hts⟩ (c_X1_takesPart l dC dI pa p_v p_st p_ib p_di p_wa p_se p_vh p_re (2 : Int32) cI cZ _ (by unfold vp_in; decide)) (cwV 1 hts gX1_shareByDivisors_X1_takesPart rfl rfl rfl (by decide +kernel) ⟨Nat.le_of_ble_eq_true rfl, Nat.le_of_ble_eq_true rfl⟩) ⟨pr_blind, va_recv hKc hPc (ci := 3) (q0 := 0) rfl rfl, fun U hU hW => ⟨rfl, pr_mk hU hW hPc hKc hDc⟩⟩ rfl rfl hl.1 rfl (lv_room (Nat.le_of_ble_eq_true rfl)) dX1_shareByDivisors_48 ⟨Nat.le_of_ble_eq_true rfl, Nat.le_of_ble_eq_true rfl⟩) hS (fun q _ h => hFc q h) hFc (fun r_18 u_17 t H1 locs ht hvm hw hB hz1 hk1 hS => ?_)
  obtain ⟨hP1, hK1, hD1⟩ := hB
  rw [ht] at hP1
  obtain ⟨hP, hD⟩ := va_join (wr := [(p_se, .inl (cI, 4, .inl zi))]) (w1 := [(pa, .inr (3, [.ref p_v, .int 0, .ref p_st, .ref p_ib, .ref p_di, .ref p_wa, .ref p_se, .ref p_vh, .ref p_re])), (p_v, .inl (cI, 4, .inl zi)), (p_ib, .inl (cZ, 4, .inl zi))]) hP hD [1, 2, 3] [0] rfl rfl (by decide) (by decide) hk1 hFc hP1 hD1
  generalize H1 = H at hP hS ⊢
  have hP : va_P (dC, dI) vwCl [(p_se, .inl (cI, 4, .inl zi)), (pa, .inr (3, [.ref p_v, .int 0, .ref p_st, .ref p_ib, .ref p_di, .ref p_wa, .ref p_se, .ref p_vh, .ref p_re])), (p_v, .inl (cI, 4, .inl zi)), (p_ib, .inl (cZ, 4, .inl zi))] H := hP
  have hD : va_D A [(p_se, .inl (cI, 4, .inl zi)), (pa, .inr (3, [.ref p_v, .int 0, .ref p_st, .ref p_ib, .ref p_di, .ref p_wa, .ref p_se, .ref p_vh, .ref p_re])), (p_v, .inl (cI, 4, .inl zi)), (p_ib, .inl (cZ, 4, .inl zi))] := hD
  refine W.widen (k := 0) (n := 0) (Nat.le_refl _) (Nat.le_refl _) ?_
  have hw : r_18 = 0 := hw
  subst hw
  refine lv_if_eq (tgt := 101) hx hb dX1_shareByDivisors_51 (by decide) (fun _ => ?_) (fun h9 => absurd h9 (by decide))
  refine lv_iinc (k := 1) (v := 3) (lv' := [(7, .int 3), (8, .double (FP.ddiv (FP.i2d 0) (FP.i2d 1))), (5, .double FP.dconst0), (4, .int (-1)), (3, .int 0), (0, .ref pa), (1, .int ho), (2, .int sp)]) hx hb dX1_shareByDivisors_101 hl rfl (by decide) (by decide) rfl (fun ls hl => ?_)
  refine lv_goto (tgt := 16) hx hb dX1_shareByDivisors_104 (by decide) ?_
  refine lv_iload hx hb dX1_shareByDivisors_16 (lv_at hl 0 rfl) ?_
  refine lv_iconst (v := 4) hx hb dX1_shareByDivisors_18 (by decide) ?_
  refine lv_icmp_ge (tgt := 107) hx hb dX1_shareByDivisors_19 (by decide) (fun h9 => absurd h9 (by decide)) (fun _ => ?_)
  refine lv_aload_n hx hb dX1_shareByDivisors_22 rfl (lv_at hl 5 rfl) ?_
  refine va_get (D := (dC, dI)) (ci := 3) (v := .ref p_v) (C := RX1) (T := TX1) (N := 9) hx hb hts hinX1 hown hK hP 1 rfl rfl 0 (by decide) (hts (.fieldLink RX1 9 "BallotLoom$Parties" "votes" "[I") (by decide +kernel)) (fun _ h9 => h9) rfl dX1_shareByDivisors_23 ?_
  refine lv_iload hx hb dX1_shareByDivisors_26 (lv_at hl 0 rfl) ?_
  refine va_iald hx hb hK hP 2 0 rfl rfl (by unfold vp_in; decide) dX1_shareByDivisors_28 ?_
  refine lv_topi (fun y_19 ey_19 => ?_)
  obtain rfl : y_19 = 0 := ey_19.trans (by rfl)
  refine lv_i2d hx hb dX1_shareByDivisors_29 ?_
  refine lv_iconst (v := 1) hx hb dX1_shareByDivisors_30 (by decide) ?_
  refine lv_iload_n hx hb dX1_shareByDivisors_31 rfl (lv_at hl 7 rfl) ?_
  refine lv_aload_n hx hb dX1_shareByDivisors_32 rfl (lv_at hl 5 rfl) ?_
  refine va_get (D := (dC, dI)) (ci := 3) (v := .ref p_se) (C := RX1) (T := TX1) (N := 9) hx hb hts hinX1 hown hK hP 1 rfl rfl 6 (by decide) (hts (.fieldLink RX1 28 "BallotLoom$Parties" "seats" "[I") (by decide +kernel)) (fun _ h9 => h9) rfl dX1_shareByDivisors_33 ?_
  refine lv_iload hx hb dX1_shareByDivisors_36 (lv_at hl 0 rfl) ?_
  refine va_iald hx hb hK hP 0 0 rfl rfl (by unfold vp_in; decide) dX1_shareByDivisors_38 ?_
  refine lv_topi (fun y_20 ey_20 => ?_)
  obtain rfl : y_20 = 0 := ey_20.trans (by rfl)
  refine lv_imul hx hb dX1_shareByDivisors_39 ?_
  refine lv_topi (fun y_21 ey_21 => ?_)
  obtain rfl : y_21 = 0 := ey_21.trans (by simp)
  refine lv_iadd hx hb dX1_shareByDivisors_40 ?_
  refine lv_topi (fun y_22 ey_22 => ?_)
  obtain rfl : y_22 = 1 := ey_22.trans (by decide)
  refine lv_i2d hx hb dX1_shareByDivisors_41 ?_
  refine lv_ddiv hx hb dX1_shareByDivisors_42 (by unfold vf_n64; decide +kernel) ?_
  refine lv_dstore (lv' := [(8, .double (FP.ddiv (FP.i2d 0) (FP.i2d 1))), (7, .int 3), (5, .double FP.dconst0), (4, .int (-1)), (3, .int 0), (0, .ref pa), (1, .int ho), (2, .int sp)]) hx hb dX1_shareByDivisors_43 hl (by decide) rfl (fun ls hl => ?_)
  refine lv_aload_n hx hb dX1_shareByDivisors_45 rfl (lv_at hl 5 rfl) ?_
  refine lv_iload hx hb dX1_shareByDivisors_46 (lv_at hl 1 rfl) ?_
  have hPc := hP.sub (ws' := [(pa, .inr (3, [.ref p_v, .int 0, .ref p_st, .ref p_ib, .ref p_di, .ref p_wa, .ref p_se, .ref p_vh, .ref p_re])), (p_v, .inl (cI, 4, .inl zi)), (p_ib, .inl (cZ, 4, .inl zi))]) [1, 2, 3] rfl
  have hDc := hD.sub (ws' := [(pa, .inr (3, [.ref p_v, .int 0, .ref p_st, .ref p_ib, .ref p_di, .ref p_wa, .ref p_se, .ref p_vh, .ref p_re])), (p_v, .inl (cI, 4, .inl zi)), (p_ib, .inl (cZ, 4, .inl zi))]) [1, 2, 3] (by decide) rfl
  have hKc := hK.sub (tys' := [(cI, .int), (cZ, .boolean)]) [0, 1] rfl
  have hFc := va_free (wc := [(pa, .inr (3, [.ref p_v, .int 0, .ref p_st, .ref p_ib, .ref p_di, .ref p_wa, .ref p_se, .ref p_vh, .ref p_re])), (p_v, .inl (cI, 4, .inl zi)), (p_ib, .inl (cZ, 4, .inl zi))]) hD hS hA [1, 2, 3] rfl
  refine va_calli (va_runV (As := [.int 3]) (rest := []) ⟨hx, hb, hml, hown, hts⟩ (c_X1_takesPart l dC dI pa p_v p_st p_ib p_di p_wa p_se p_vh p_re (3 : Int32) cI cZ _ (by unfold vp_in; decide)) (cwV 1 hts gX1_shareByDivisors_X1_takesPart rfl rfl rfl (by decide +kernel) ⟨Nat.le_of_ble_eq_true rfl, Nat.le_of_ble_eq_true rfl⟩) ⟨pr_blind, va_recv hKc hPc (ci := 3) (q0 := 0) rfl rfl, fun U hU hW => ⟨rfl, pr_mk hU hW hPc hKc hDc⟩⟩ rfl rfl hl.1 rfl (lv_room (Nat.le_of_ble_eq_true rfl)) dX1_shareByDivisors_48 ⟨Nat.le_of_ble_eq_true rfl, Nat.le_of_ble_eq_true rfl⟩) hS (fun q _ h => hFc q h) hFc (fun r_24 u_23 t H1 locs ht hvm hw hB hz1 hk1 hS => ?_)
  obtain ⟨hP1, hK1, hD1⟩ := hB
  rw [ht] at hP1
  obtain ⟨hP, hD⟩ := va_join (wr := [(p_se, .inl (cI, 4, .inl zi))]) (w1 := [(pa, .inr (3, [.ref p_v, .int 0, .ref p_st, .ref p_ib, .ref p_di, .ref p_wa, .ref p_se, .ref p_vh, .ref p_re])), (p_v, .inl (cI, 4, .inl zi)), (p_ib, .inl (cZ, 4, .inl zi))]) hP hD [1, 2, 3] [0] rfl rfl (by decide) (by decide) hk1 hFc hP1 hD1
  generalize H1 = H at hP hS ⊢
  have hP : va_P (dC, dI) vwCl [(p_se, .inl (cI, 4, .inl zi)), (pa, .inr (3, [.ref p_v, .int 0, .ref p_st, .ref p_ib, .ref p_di, .ref p_wa, .ref p_se, .ref p_vh, .ref p_re])), (p_v, .inl (cI, 4, .inl zi)), (p_ib, .inl (cZ, 4, .inl zi))] H := hP
  have hD : va_D A [(p_se, .inl (cI, 4, .inl zi)), (pa, .inr (3, [.ref p_v, .int 0, .ref p_st, .ref p_ib, .ref p_di, .ref p_wa, .ref p_se, .ref p_vh, .ref p_re])), (p_v, .inl (cI, 4, .inl zi)), (p_ib, .inl (cZ, 4, .inl zi))] := hD
  refine W.widen (k := 0) (n := 0) (Nat.le_refl _) (Nat.le_refl _) ?_
  have hw : r_24 = 0 := hw
  subst hw
  refine lv_if_eq (tgt := 101) hx hb dX1_shareByDivisors_51 (by decide) (fun _ => ?_) (fun h9 => absurd h9 (by decide))
  refine lv_iinc (k := 1) (v := 4) (lv' := [(7, .int 4), (8, .double (FP.ddiv (FP.i2d 0) (FP.i2d 1))), (5, .double FP.dconst0), (4, .int (-1)), (3, .int 0), (0, .ref pa), (1, .int ho), (2, .int sp)]) hx hb dX1_shareByDivisors_101 hl rfl (by decide) (by decide) rfl (fun ls hl => ?_)
  refine lv_goto (tgt := 16) hx hb dX1_shareByDivisors_104 (by decide) ?_
  refine lv_iload hx hb dX1_shareByDivisors_16 (lv_at hl 0 rfl) ?_
  refine lv_iconst (v := 4) hx hb dX1_shareByDivisors_18 (by decide) ?_
  refine lv_icmp_ge (tgt := 107) hx hb dX1_shareByDivisors_19 (by decide) (fun _ => ?_) (fun h9 => absurd h9 (by decide))
  refine lv_iload hx hb dX1_shareByDivisors_107 (lv_at hl 3 rfl) ?_
  refine lv_iconst (v := (-1)) hx hb dX1_shareByDivisors_109 (by decide) ?_
  refine lv_icmp_ne (tgt := 114) hx hb dX1_shareByDivisors_110 (by decide) (fun h9 => absurd h9 (by decide)) (fun _ => ?_)
  have hP9 := hP.sub (ws' := [(pa, .inr (3, [.ref p_v, .int 0, .ref p_st, .ref p_ib, .ref p_di, .ref p_wa, .ref p_se, .ref p_vh, .ref p_re])), (p_v, .inl (cI, 4, .inl zi)), (p_ib, .inl (cZ, 4, .inl zi)), (p_se, .inl (cI, 4, .inl zi))]) [1, 2, 3, 0] rfl
  have hD9 := hD.sub (ws' := [(pa, .inr (3, [.ref p_v, .int 0, .ref p_st, .ref p_ib, .ref p_di, .ref p_wa, .ref p_se, .ref p_vh, .ref p_re])), (p_v, .inl (cI, 4, .inl zi)), (p_ib, .inl (cZ, 4, .inl zi)), (p_se, .inl (cI, 4, .inl zi))]) [1, 2, 3, 0] (by decide) rfl
  have hK9 := hK.sub (tys' := [(cI, .int), (cZ, .boolean)]) [0, 1] rfl
  refine W.widen (k := 0) (n := 0) (Nat.le_of_ble_eq_true rfl) (Nat.le_of_ble_eq_true rfl) ?_
  exact W.vret hx hb hr (fun t ht hW => ⟨⟨(), rfl, trivial, po_mk ht hW hP9 hK9 hD9⟩, hS.F ht⟩) hS.2.2 dX1_shareByDivisors_113

set_option maxHeartbeats 4000000 in
set_option maxRecDepth 100000 in
theorem c_X1_shareByRemainders (l : Launch) (dC : Nat → ClassId) (dI : Nat → Nat → Nat) (pa : Nat) (p_v : Nat) (p_st : Nat) (p_ib : Nat) (p_di : Nat) (p_wa : Nat) (p_se : Nat) (p_vh : Nat) (p_re : Nat) (ho : Int32) (cI : ClassId) (cZ : ClassId) (sz : Nat)  : Met l yX1_shareByRemainders wsX1_shareByRemainders ({ frames := 3, cells := 0, slots := 0, locals := 70 }) (va_Pc [.ref pa, .int ho] (pr_ dC dI [(pa, .inr (3, [.ref p_v, .int 0, .ref p_st, .ref p_ib, .ref p_di, .ref p_wa, .ref p_se, .ref p_vh, .ref p_re])), (p_v, .inl (cI, 4, .inl zi)), (p_ib, .inl (cZ, 4, .inl zi)), (p_se, .inl (cI, 4, .inl zi))] [(cI, .int), (cZ, .boolean)] sz)) (va_Qv (fun (_ : Unit) => True) (fun (_ : Unit) t => po_ dC dI [(pa, .inr (3, [.ref p_v, .int 0, .ref p_st, .ref p_ib, .ref p_di, .ref p_wa, .ref p_se, .ref p_vh, .ref p_re])), (p_v, .inl (cI, 4, .inl zi)), (p_ib, .inl (cZ, 4, .inl zi)), (p_se, .inl (cI, 4, .inl zi))] [(cI, .int), (cZ, .boolean)] (va_A [(pa, .inr (3, [.ref p_v, .int 0, .ref p_st, .ref p_ib, .ref p_di, .ref p_wa, .ref p_se, .ref p_vh, .ref p_re])), (p_v, .inl (cI, 4, .inl zi)), (p_ib, .inl (cZ, 4, .inl zi)), (p_se, .inl (cI, 4, .inl zi))] sz) t) (va_A [(pa, .inr (3, [.ref p_v, .int 0, .ref p_st, .ref p_ib, .ref p_di, .ref p_wa, .ref p_se, .ref p_vh, .ref p_re])), (p_v, .inl (cI, 4, .inl zi)), (p_ib, .inl (cZ, 4, .inl zi)), (p_se, .inl (cI, 4, .inl zi))] sz)) 0 0 (va_A [(pa, .inr (3, [.ref p_v, .int 0, .ref p_st, .ref p_ib, .ref p_di, .ref p_wa, .ref p_se, .ref p_vh, .ref p_re])), (p_v, .inl (cI, 4, .inl zi)), (p_ib, .inl (cZ, 4, .inl zi)), (p_se, .inl (cI, 4, .inl zi))] sz) := by
  refine Met.ofW (cc := cX1_shareByRemainders) (maxL := 6) (ret := none) (by decide) rfl ?_
  intro p e s m args below meth c s₁ B hml hv
  obtain ⟨rfl, hsz, hP, hK, hD0⟩ := hv
  have hx := B.exec
  have hb := B.bytes
  have hr := B.returns
  have hts := atoms_spec (ws := wsX1_shareByRemainders) B.pre
  have hown : s.vm.findClass RX1 = some m.cls := findClass_of_methodNamed B.named
  have hlocks := B.notSynchronized
  subst hsz
  have hD := hD0.self (sz := s.heap.size)
  generalize hAe : va_A [(pa, .inr (3, [.ref p_v, .int 0, .ref p_st, .ref p_ib, .ref p_di, .ref p_wa, .ref p_se, .ref p_vh, .ref p_re])), (p_v, .inl (cI, 4, .inl zi)), (p_ib, .inl (cZ, 4, .inl zi)), (p_se, .inl (cI, 4, .inl zi))] s.heap.size = A at hD ⊢
  have hA : ∀ q : Nat, s.heap.size ≤ q → A q := fun q h => by rw [← hAe]; exact Or.inr h
  have hS : va_S A s.heap s.heap [] := va_S.rf
  have hP : va_P (dC, dI) vwCl [(pa, .inr (3, [.ref p_v, .int 0, .ref p_st, .ref p_ib, .ref p_di, .ref p_wa, .ref p_se, .ref p_vh, .ref p_re])), (p_v, .inl (cI, 4, .inl zi)), (p_ib, .inl (cZ, 4, .inl zi)), (p_se, .inl (cI, 4, .inl zi))] s.heap := hP
  have hK : va_K (dC, dI) vwCl [(cI, .int), (cZ, .boolean)] s := hK
  have hl := lv_entry ([.ref pa, .int ho]) (n := 6) (Nat.le_of_ble_eq_true rfl)
  rw [lg_entry_eq]
  generalize (lg_sl ([.ref pa, .int ho]) ++ List.replicate (6 - (lg_sl ([.ref pa, .int ho])).length) Slot.unset).toArray = ls at hl ⊢
  have hl : lv_has ls 6 [(0, .ref pa), (1, .int ho)] := hl
  refine lv_iconst (v := 0) hx hb dX1_shareByRemainders_0 (by decide) ?_
  refine lv_istore_n (lv' := [(2, .int 0), (0, .ref pa), (1, .int ho)]) hx hb dX1_shareByRemainders_1 rfl hl (by decide) rfl (fun ls hl => ?_)
  refine lv_iconst (v := 0) hx hb dX1_shareByRemainders_2 (by decide) ?_
  refine lv_istore_n (lv' := [(3, .int 0), (2, .int 0), (0, .ref pa), (1, .int ho)]) hx hb dX1_shareByRemainders_3 rfl hl (by decide) rfl (fun ls hl => ?_)
  refine lv_iload_n hx hb dX1_shareByRemainders_4 rfl (lv_at hl 0 rfl) ?_
  refine lv_iconst (v := 4) hx hb dX1_shareByRemainders_5 (by decide) ?_
  refine lv_icmp_ge (tgt := 36) hx hb dX1_shareByRemainders_6 (by decide) (fun h9 => absurd h9 (by decide)) (fun _ => ?_)
  refine lv_iload_n hx hb dX1_shareByRemainders_9 rfl (lv_at hl 1 rfl) ?_
  refine lv_aload_n hx hb dX1_shareByRemainders_10 rfl (lv_at hl 2 rfl) ?_
  refine lv_iload_n hx hb dX1_shareByRemainders_11 rfl (lv_at hl 0 rfl) ?_
  have hPc := hP.sub (ws' := [(pa, .inr (3, [.ref p_v, .int 0, .ref p_st, .ref p_ib, .ref p_di, .ref p_wa, .ref p_se, .ref p_vh, .ref p_re])), (p_v, .inl (cI, 4, .inl zi)), (p_ib, .inl (cZ, 4, .inl zi))]) [0, 1, 2] rfl
  have hDc := hD.sub (ws' := [(pa, .inr (3, [.ref p_v, .int 0, .ref p_st, .ref p_ib, .ref p_di, .ref p_wa, .ref p_se, .ref p_vh, .ref p_re])), (p_v, .inl (cI, 4, .inl zi)), (p_ib, .inl (cZ, 4, .inl zi))]) [0, 1, 2] (by decide) rfl
  have hKc := hK.sub (tys' := [(cI, .int), (cZ, .boolean)]) [0, 1] rfl
  have hFc := va_free (wc := [(pa, .inr (3, [.ref p_v, .int 0, .ref p_st, .ref p_ib, .ref p_di, .ref p_wa, .ref p_se, .ref p_vh, .ref p_re])), (p_v, .inl (cI, 4, .inl zi)), (p_ib, .inl (cZ, 4, .inl zi))]) hD hS hA [0, 1, 2] rfl
  refine va_calli (va_runV (As := [.int 0]) (rest := [.int 0]) ⟨hx, hb, hml, hown, hts⟩ (c_X1_takesPart l dC dI pa p_v p_st p_ib p_di p_wa p_se p_vh p_re (0 : Int32) cI cZ _ (by unfold vp_in; decide)) (cwV 1 hts gX1_shareByRemainders_X1_takesPart rfl rfl rfl (by decide +kernel) ⟨Nat.le_of_ble_eq_true rfl, Nat.le_of_ble_eq_true rfl⟩) ⟨pr_blind, va_recv hKc hPc (ci := 3) (q0 := 0) rfl rfl, fun U hU hW => ⟨rfl, pr_mk hU hW hPc hKc hDc⟩⟩ rfl rfl hl.1 rfl (lv_room (Nat.le_of_ble_eq_true rfl)) dX1_shareByRemainders_12 ⟨Nat.le_of_ble_eq_true rfl, Nat.le_of_ble_eq_true rfl⟩) hS (fun q _ h => hFc q h) hFc (fun r_2 u_1 t H1 locs ht hvm hw hB hz1 hk1 hS => ?_)
  obtain ⟨hP1, hK1, hD1⟩ := hB
  rw [ht] at hP1
  obtain ⟨hP, hD⟩ := va_join (wr := [(p_se, .inl (cI, 4, .inl zi))]) (w1 := [(pa, .inr (3, [.ref p_v, .int 0, .ref p_st, .ref p_ib, .ref p_di, .ref p_wa, .ref p_se, .ref p_vh, .ref p_re])), (p_v, .inl (cI, 4, .inl zi)), (p_ib, .inl (cZ, 4, .inl zi))]) hP hD [0, 1, 2] [3] rfl rfl (by decide) (by decide) hk1 hFc hP1 hD1
  generalize H1 = H at hP hS ⊢
  have hP : va_P (dC, dI) vwCl [(p_se, .inl (cI, 4, .inl zi)), (pa, .inr (3, [.ref p_v, .int 0, .ref p_st, .ref p_ib, .ref p_di, .ref p_wa, .ref p_se, .ref p_vh, .ref p_re])), (p_v, .inl (cI, 4, .inl zi)), (p_ib, .inl (cZ, 4, .inl zi))] H := hP
  have hD : va_D A [(p_se, .inl (cI, 4, .inl zi)), (pa, .inr (3, [.ref p_v, .int 0, .ref p_st, .ref p_ib, .ref p_di, .ref p_wa, .ref p_se, .ref p_vh, .ref p_re])), (p_v, .inl (cI, 4, .inl zi)), (p_ib, .inl (cZ, 4, .inl zi))] := hD
  refine W.widen (k := 0) (n := 0) (Nat.le_refl _) (Nat.le_refl _) ?_
  have hw : r_2 = 0 := hw
  subst hw
  refine lv_if_eq (tgt := 27) hx hb dX1_shareByRemainders_15 (by decide) (fun _ => ?_) (fun h9 => absurd h9 (by decide))
  refine lv_iconst (v := 0) hx hb dX1_shareByRemainders_27 (by decide) ?_
  refine lv_iadd hx hb dX1_shareByRemainders_28 ?_
  refine lv_topi (fun y_3 ey_3 => ?_)
  obtain rfl : y_3 = 0 := ey_3.trans (by decide)
  refine lv_istore_n (lv' := [(2, .int 0), (3, .int 0), (0, .ref pa), (1, .int ho)]) hx hb dX1_shareByRemainders_29 rfl hl (by decide) rfl (fun ls hl => ?_)
  refine lv_iinc (k := 1) (v := 1) (lv' := [(3, .int 1), (2, .int 0), (0, .ref pa), (1, .int ho)]) hx hb dX1_shareByRemainders_30 hl rfl (by decide) (by decide) rfl (fun ls hl => ?_)
  refine lv_goto (tgt := 4) hx hb dX1_shareByRemainders_33 (by decide) ?_
  refine lv_iload_n hx hb dX1_shareByRemainders_4 rfl (lv_at hl 0 rfl) ?_
  refine lv_iconst (v := 4) hx hb dX1_shareByRemainders_5 (by decide) ?_
  refine lv_icmp_ge (tgt := 36) hx hb dX1_shareByRemainders_6 (by decide) (fun h9 => absurd h9 (by decide)) (fun _ => ?_)
  refine lv_iload_n hx hb dX1_shareByRemainders_9 rfl (lv_at hl 1 rfl) ?_
  refine lv_aload_n hx hb dX1_shareByRemainders_10 rfl (lv_at hl 2 rfl) ?_
  refine lv_iload_n hx hb dX1_shareByRemainders_11 rfl (lv_at hl 0 rfl) ?_
  have hPc := hP.sub (ws' := [(pa, .inr (3, [.ref p_v, .int 0, .ref p_st, .ref p_ib, .ref p_di, .ref p_wa, .ref p_se, .ref p_vh, .ref p_re])), (p_v, .inl (cI, 4, .inl zi)), (p_ib, .inl (cZ, 4, .inl zi))]) [1, 2, 3] rfl
  have hDc := hD.sub (ws' := [(pa, .inr (3, [.ref p_v, .int 0, .ref p_st, .ref p_ib, .ref p_di, .ref p_wa, .ref p_se, .ref p_vh, .ref p_re])), (p_v, .inl (cI, 4, .inl zi)), (p_ib, .inl (cZ, 4, .inl zi))]) [1, 2, 3] (by decide) rfl
  have hKc := hK.sub (tys' := [(cI, .int), (cZ, .boolean)]) [0, 1] rfl
  have hFc := va_free (wc := [(pa, .inr (3, [.ref p_v, .int 0, .ref p_st, .ref p_ib, .ref p_di, .ref p_wa, .ref p_se, .ref p_vh, .ref p_re])), (p_v, .inl (cI, 4, .inl zi)), (p_ib, .inl (cZ, 4, .inl zi))]) hD hS hA [1, 2, 3] rfl
  refine va_calli (va_runV (As := [.int 1]) (rest := [.int 0]) ⟨hx, hb, hml, hown, hts⟩ (c_X1_takesPart l dC dI pa p_v p_st p_ib p_di p_wa p_se p_vh p_re (1 : Int32) cI cZ _ (by unfold vp_in; decide)) (cwV 1 hts gX1_shareByRemainders_X1_takesPart rfl rfl rfl (by decide +kernel) ⟨Nat.le_of_ble_eq_true rfl, Nat.le_of_ble_eq_true rfl⟩) ⟨pr_blind, va_recv hKc hPc (ci := 3) (q0 := 0) rfl rfl, fun U hU hW => ⟨rfl, pr_mk hU hW hPc hKc hDc⟩⟩ rfl rfl hl.1 rfl (lv_room (Nat.le_of_ble_eq_true rfl)) dX1_shareByRemainders_12 ⟨Nat.le_of_ble_eq_true rfl, Nat.le_of_ble_eq_true rfl⟩) hS (fun q _ h => hFc q h) hFc (fun r_5 u_4 t H1 locs ht hvm hw hB hz1 hk1 hS => ?_)
  obtain ⟨hP1, hK1, hD1⟩ := hB
  rw [ht] at hP1
  obtain ⟨hP, hD⟩ := va_join (wr := [(p_se, .inl (cI, 4, .inl zi))]) (w1 := [(pa, .inr (3, [.ref p_v, .int 0, .ref p_st, .ref p_ib, .ref p_di, .ref p_wa, .ref p_se, .ref p_vh, .ref p_re])), (p_v, .inl (cI, 4, .inl zi)), (p_ib, .inl (cZ, 4, .inl zi))]) hP hD [1, 2, 3] [0] rfl rfl (by decide) (by decide) hk1 hFc hP1 hD1
  generalize H1 = H at hP hS ⊢
  have hP : va_P (dC, dI) vwCl [(p_se, .inl (cI, 4, .inl zi)), (pa, .inr (3, [.ref p_v, .int 0, .ref p_st, .ref p_ib, .ref p_di, .ref p_wa, .ref p_se, .ref p_vh, .ref p_re])), (p_v, .inl (cI, 4, .inl zi)), (p_ib, .inl (cZ, 4, .inl zi))] H := hP
  have hD : va_D A [(p_se, .inl (cI, 4, .inl zi)), (pa, .inr (3, [.ref p_v, .int 0, .ref p_st, .ref p_ib, .ref p_di, .ref p_wa, .ref p_se, .ref p_vh, .ref p_re])), (p_v, .inl (cI, 4, .inl zi)), (p_ib, .inl (cZ, 4, .inl zi))] := hD
  refine W.widen (k := 0) (n := 0) (Nat.le_refl _) (Nat.le_refl _) ?_
  have hw : r_5 = 0 := hw
  subst hw
  refine lv_if_eq (tgt := 27) hx hb dX1_shareByRemainders_15 (by decide) (fun _ => ?_) (fun h9 => absurd h9 (by decide))
  refine lv_iconst (v := 0) hx hb dX1_shareByRemainders_27 (by decide) ?_
  refine lv_iadd hx hb dX1_shareByRemainders_28 ?_
  refine lv_topi (fun y_6 ey_6 => ?_)
  obtain rfl : y_6 = 0 := ey_6.trans (by decide)
  refine lv_istore_n (lv' := [(2, .int 0), (3, .int 1), (0, .ref pa), (1, .int ho)]) hx hb dX1_shareByRemainders_29 rfl hl (by decide) rfl (fun ls hl => ?_)
  refine lv_iinc (k := 1) (v := 2) (lv' := [(3, .int 2), (2, .int 0), (0, .ref pa), (1, .int ho)]) hx hb dX1_shareByRemainders_30 hl rfl (by decide) (by decide) rfl (fun ls hl => ?_)
  refine lv_goto (tgt := 4) hx hb dX1_shareByRemainders_33 (by decide) ?_
  refine lv_iload_n hx hb dX1_shareByRemainders_4 rfl (lv_at hl 0 rfl) ?_
  refine lv_iconst (v := 4) hx hb dX1_shareByRemainders_5 (by decide) ?_
  refine lv_icmp_ge (tgt := 36) hx hb dX1_shareByRemainders_6 (by decide) (fun h9 => absurd h9 (by decide)) (fun _ => ?_)
  refine lv_iload_n hx hb dX1_shareByRemainders_9 rfl (lv_at hl 1 rfl) ?_
  refine lv_aload_n hx hb dX1_shareByRemainders_10 rfl (lv_at hl 2 rfl) ?_
  refine lv_iload_n hx hb dX1_shareByRemainders_11 rfl (lv_at hl 0 rfl) ?_
  have hPc := hP.sub (ws' := [(pa, .inr (3, [.ref p_v, .int 0, .ref p_st, .ref p_ib, .ref p_di, .ref p_wa, .ref p_se, .ref p_vh, .ref p_re])), (p_v, .inl (cI, 4, .inl zi)), (p_ib, .inl (cZ, 4, .inl zi))]) [1, 2, 3] rfl
  have hDc := hD.sub (ws' := [(pa, .inr (3, [.ref p_v, .int 0, .ref p_st, .ref p_ib, .ref p_di, .ref p_wa, .ref p_se, .ref p_vh, .ref p_re])), (p_v, .inl (cI, 4, .inl zi)), (p_ib, .inl (cZ, 4, .inl zi))]) [1, 2, 3] (by decide) rfl
  have hKc := hK.sub (tys' := [(cI, .int), (cZ, .boolean)]) [0, 1] rfl
  have hFc := va_free (wc := [(pa, .inr (3, [.ref p_v, .int 0, .ref p_st, .ref p_ib, .ref p_di, .ref p_wa, .ref p_se, .ref p_vh, .ref p_re])), (p_v, .inl (cI, 4, .inl zi)), (p_ib, .inl (cZ, 4, .inl zi))]) hD hS hA [1, 2, 3] rfl
  refine va_calli (va_runV (As := [.int 2]) (rest := [.int 0]) ⟨hx, hb, hml, hown, hts⟩ (c_X1_takesPart l dC dI pa p_v p_st p_ib p_di p_wa p_se p_vh p_re (2 : Int32) cI cZ _ (by unfold vp_in; decide)) (cwV 1 hts gX1_shareByRemainders_X1_takesPart rfl rfl rfl (by decide +kernel) ⟨Nat.le_of_ble_eq_true rfl, Nat.le_of_ble_eq_true rfl⟩) ⟨pr_blind, va_recv hKc hPc (ci := 3) (q0 := 0) rfl rfl, fun U hU hW => ⟨rfl, pr_mk hU hW hPc hKc hDc⟩⟩ rfl rfl hl.1 rfl (lv_room (Nat.le_of_ble_eq_true rfl)) dX1_shareByRemainders_12 ⟨Nat.le_of_ble_eq_true rfl, Nat.le_of_ble_eq_true rfl⟩) hS (fun q _ h => hFc q h) hFc (fun r_8 u_7 t H1 locs ht hvm hw hB hz1 hk1 hS => ?_)
  obtain ⟨hP1, hK1, hD1⟩ := hB
  rw [ht] at hP1
  obtain ⟨hP, hD⟩ := va_join (wr := [(p_se, .inl (cI, 4, .inl zi))]) (w1 := [(pa, .inr (3, [.ref p_v, .int 0, .ref p_st, .ref p_ib, .ref p_di, .ref p_wa, .ref p_se, .ref p_vh, .ref p_re])), (p_v, .inl (cI, 4, .inl zi)), (p_ib, .inl (cZ, 4, .inl zi))]) hP hD [1, 2, 3] [0] rfl rfl (by decide) (by decide) hk1 hFc hP1 hD1
  generalize H1 = H at hP hS ⊢
  have hP : va_P (dC, dI) vwCl [(p_se, .inl (cI, 4, .inl zi)), (pa, .inr (3, [.ref p_v, .int 0, .ref p_st, .ref p_ib, .ref p_di, .ref p_wa, .ref p_se, .ref p_vh, .ref p_re])), (p_v, .inl (cI, 4, .inl zi)), (p_ib, .inl (cZ, 4, .inl zi))] H := hP
  have hD : va_D A [(p_se, .inl (cI, 4, .inl zi)), (pa, .inr (3, [.ref p_v, .int 0, .ref p_st, .ref p_ib, .ref p_di, .ref p_wa, .ref p_se, .ref p_vh, .ref p_re])), (p_v, .inl (cI, 4, .inl zi)), (p_ib, .inl (cZ, 4, .inl zi))] := hD
  refine W.widen (k := 0) (n := 0) (Nat.le_refl _) (Nat.le_refl _) ?_
  have hw : r_8 = 0 := hw
  subst hw
  refine lv_if_eq (tgt := 27) hx hb dX1_shareByRemainders_15 (by decide) (fun _ => ?_) (fun h9 => absurd h9 (by decide))
  refine lv_iconst (v := 0) hx hb dX1_shareByRemainders_27 (by decide) ?_
  refine lv_iadd hx hb dX1_shareByRemainders_28 ?_
  refine lv_topi (fun y_9 ey_9 => ?_)
  obtain rfl : y_9 = 0 := ey_9.trans (by decide)
  refine lv_istore_n (lv' := [(2, .int 0), (3, .int 2), (0, .ref pa), (1, .int ho)]) hx hb dX1_shareByRemainders_29 rfl hl (by decide) rfl (fun ls hl => ?_)
  refine lv_iinc (k := 1) (v := 3) (lv' := [(3, .int 3), (2, .int 0), (0, .ref pa), (1, .int ho)]) hx hb dX1_shareByRemainders_30 hl rfl (by decide) (by decide) rfl (fun ls hl => ?_)
  refine lv_goto (tgt := 4) hx hb dX1_shareByRemainders_33 (by decide) ?_
  refine lv_iload_n hx hb dX1_shareByRemainders_4 rfl (lv_at hl 0 rfl) ?_
  refine lv_iconst (v := 4) hx hb dX1_shareByRemainders_5 (by decide) ?_
  refine lv_icmp_ge (tgt := 36) hx hb dX1_shareByRemainders_6 (by decide) (fun h9 => absurd h9 (by decide)) (fun _ => ?_)
  refine lv_iload_n hx hb dX1_shareByRemainders_9 rfl (lv_at hl 1 rfl) ?_
  refine lv_aload_n hx hb dX1_shareByRemainders_10 rfl (lv_at hl 2 rfl) ?_
  refine lv_iload_n hx hb dX1_shareByRemainders_11 rfl (lv_at hl 0 rfl) ?_
  have hPc := hP.sub (ws' := [(pa, .inr (3, [.ref p_v, .int 0, .ref p_st, .ref p_ib, .ref p_di, .ref p_wa, .ref p_se, .ref p_vh, .ref p_re])), (p_v, .inl (cI, 4, .inl zi)), (p_ib, .inl (cZ, 4, .inl zi))]) [1, 2, 3] rfl
  have hDc := hD.sub (ws' := [(pa, .inr (3, [.ref p_v, .int 0, .ref p_st, .ref p_ib, .ref p_di, .ref p_wa, .ref p_se, .ref p_vh, .ref p_re])), (p_v, .inl (cI, 4, .inl zi)), (p_ib, .inl (cZ, 4, .inl zi))]) [1, 2, 3] (by decide) rfl
  have hKc := hK.sub (tys' := [(cI, .int), (cZ, .boolean)]) [0, 1] rfl
  have hFc := va_free (wc := [(pa, .inr (3, [.ref p_v, .int 0, .ref p_st, .ref p_ib, .ref p_di, .ref p_wa, .ref p_se, .ref p_vh, .ref p_re])), (p_v, .inl (cI, 4, .inl zi)), (p_ib, .inl (cZ, 4, .inl zi))]) hD hS hA [1, 2, 3] rfl
  refine va_calli (va_runV (As := [.int 3]) (rest := [.int 0]) ⟨hx, hb, hml, hown, hts⟩ (c_X1_takesPart l dC dI pa p_v p_st p_ib p_di p_wa p_se p_vh p_re (3 : Int32) cI cZ _ (by unfold vp_in; decide)) (cwV 1 hts gX1_shareByRemainders_X1_takesPart rfl rfl rfl (by decide +kernel) ⟨Nat.le_of_ble_eq_true rfl, Nat.le_of_ble_eq_true rfl⟩) ⟨pr_blind, va_recv hKc hPc (ci := 3) (q0 := 0) rfl rfl, fun U hU hW => ⟨rfl, pr_mk hU hW hPc hKc hDc⟩⟩ rfl rfl hl.1 rfl (lv_room (Nat.le_of_ble_eq_true rfl)) dX1_shareByRemainders_12 ⟨Nat.le_of_ble_eq_true rfl, Nat.le_of_ble_eq_true rfl⟩) hS (fun q _ h => hFc q h) hFc (fun r_11 u_10 t H1 locs ht hvm hw hB hz1 hk1 hS => ?_)
  obtain ⟨hP1, hK1, hD1⟩ := hB
  rw [ht] at hP1
  obtain ⟨hP, hD⟩ := va_join (wr := [(p_se, .inl (cI, 4, .inl zi))]) (w1 := [(pa, .inr (3, [.ref p_v, .int 0, .ref p_st, .ref p_ib, .ref p_di, .ref p_wa, .ref p_se, .ref p_vh, .ref p_re])), (p_v, .inl (cI, 4, .inl zi)), (p_ib, .inl (cZ, 4, .inl zi))]) hP hD [1, 2, 3] [0] rfl rfl (by decide) (by decide) hk1 hFc hP1 hD1
  generalize H1 = H at hP hS ⊢
  have hP : va_P (dC, dI) vwCl [(p_se, .inl (cI, 4, .inl zi)), (pa, .inr (3, [.ref p_v, .int 0, .ref p_st, .ref p_ib, .ref p_di, .ref p_wa, .ref p_se, .ref p_vh, .ref p_re])), (p_v, .inl (cI, 4, .inl zi)), (p_ib, .inl (cZ, 4, .inl zi))] H := hP
  have hD : va_D A [(p_se, .inl (cI, 4, .inl zi)), (pa, .inr (3, [.ref p_v, .int 0, .ref p_st, .ref p_ib, .ref p_di, .ref p_wa, .ref p_se, .ref p_vh, .ref p_re])), (p_v, .inl (cI, 4, .inl zi)), (p_ib, .inl (cZ, 4, .inl zi))] := hD
  refine W.widen (k := 0) (n := 0) (Nat.le_refl _) (Nat.le_refl _) ?_
  have hw : r_11 = 0 := hw
  subst hw
  refine lv_if_eq (tgt := 27) hx hb dX1_shareByRemainders_15 (by decide) (fun _ => ?_) (fun h9 => absurd h9 (by decide))
  refine lv_iconst (v := 0) hx hb dX1_shareByRemainders_27 (by decide) ?_
  refine lv_iadd hx hb dX1_shareByRemainders_28 ?_
  refine lv_topi (fun y_12 ey_12 => ?_)
  obtain rfl : y_12 = 0 := ey_12.trans (by decide)
  refine lv_istore_n (lv' := [(2, .int 0), (3, .int 3), (0, .ref pa), (1, .int ho)]) hx hb dX1_shareByRemainders_29 rfl hl (by decide) rfl (fun ls hl => ?_)
  refine lv_iinc (k := 1) (v := 4) (lv' := [(3, .int 4), (2, .int 0), (0, .ref pa), (1, .int ho)]) hx hb dX1_shareByRemainders_30 hl rfl (by decide) (by decide) rfl (fun ls hl => ?_)
  refine lv_goto (tgt := 4) hx hb dX1_shareByRemainders_33 (by decide) ?_
  refine lv_iload_n hx hb dX1_shareByRemainders_4 rfl (lv_at hl 0 rfl) ?_
  refine lv_iconst (v := 4) hx hb dX1_shareByRemainders_5 (by decide) ?_
  refine lv_icmp_ge (tgt := 36) hx hb dX1_shareByRemainders_6 (by decide) (fun _ => ?_) (fun h9 => absurd h9 (by decide))
  refine lv_iload_n hx hb dX1_shareByRemainders_36 rfl (lv_at hl 1 rfl) ?_
  refine lv_if_ne (tgt := 41) hx hb dX1_shareByRemainders_37 (by decide) (fun h9 => absurd h9 (by decide)) (fun _ => ?_)
  have hP9 := hP.sub (ws' := [(pa, .inr (3, [.ref p_v, .int 0, .ref p_st, .ref p_ib, .ref p_di, .ref p_wa, .ref p_se, .ref p_vh, .ref p_re])), (p_v, .inl (cI, 4, .inl zi)), (p_ib, .inl (cZ, 4, .inl zi)), (p_se, .inl (cI, 4, .inl zi))]) [1, 2, 3, 0] rfl
  have hD9 := hD.sub (ws' := [(pa, .inr (3, [.ref p_v, .int 0, .ref p_st, .ref p_ib, .ref p_di, .ref p_wa, .ref p_se, .ref p_vh, .ref p_re])), (p_v, .inl (cI, 4, .inl zi)), (p_ib, .inl (cZ, 4, .inl zi)), (p_se, .inl (cI, 4, .inl zi))]) [1, 2, 3, 0] (by decide) rfl
  have hK9 := hK.sub (tys' := [(cI, .int), (cZ, .boolean)]) [0, 1] rfl
  refine W.widen (k := 0) (n := 0) (Nat.le_of_ble_eq_true rfl) (Nat.le_of_ble_eq_true rfl) ?_
  exact W.vret hx hb hr (fun t ht hW => ⟨⟨(), rfl, trivial, po_mk ht hW hP9 hK9 hD9⟩, hS.F ht⟩) hS.2.2 dX1_shareByRemainders_40

set_option maxHeartbeats 4000000 in
set_option maxRecDepth 100000 in
theorem c_X1_shareSeats (l : Launch) (dC : Nat → ClassId) (dI : Nat → Nat → Nat) (pa : Nat) (p_v : Nat) (p_st : Nat) (p_ib : Nat) (p_di : Nat) (p_wa : Nat) (p_se : Nat) (p_vh : Nat) (p_re : Nat) (ho : Int32) (ru : Int32) (cI : ClassId) (cZ : ClassId) (sz : Nat) (hh1 : ¬ ho ≤ 0) : Met l yX1_shareSeats wsX1_shareSeats ({ frames := 4, cells := 0, slots := 0, locals := 110 }) (va_Pc [.ref pa, .int ho, .int ru] (pr_ dC dI [(pa, .inr (3, [.ref p_v, .int 0, .ref p_st, .ref p_ib, .ref p_di, .ref p_wa, .ref p_se, .ref p_vh, .ref p_re])), (p_v, .inl (cI, 4, .inl zi)), (p_ib, .inl (cZ, 4, .inl zi)), (p_se, .inl (cI, 4, .inl zi))] [(cI, .int), (cZ, .boolean)] sz)) (va_Qv (fun (_ : Unit) => True) (fun (_ : Unit) t => po_ dC dI [(pa, .inr (3, [.ref p_v, .int 0, .ref p_st, .ref p_ib, .ref p_di, .ref p_wa, .ref p_se, .ref p_vh, .ref p_re])), (p_v, .inl (cI, 4, .inl zi)), (p_ib, .inl (cZ, 4, .inl zi)), (p_se, .inl (cI, 4, .inl zi))] [(cI, .int), (cZ, .boolean)] (va_A [(pa, .inr (3, [.ref p_v, .int 0, .ref p_st, .ref p_ib, .ref p_di, .ref p_wa, .ref p_se, .ref p_vh, .ref p_re])), (p_v, .inl (cI, 4, .inl zi)), (p_ib, .inl (cZ, 4, .inl zi)), (p_se, .inl (cI, 4, .inl zi))] sz) t) (va_A [(pa, .inr (3, [.ref p_v, .int 0, .ref p_st, .ref p_ib, .ref p_di, .ref p_wa, .ref p_se, .ref p_vh, .ref p_re])), (p_v, .inl (cI, 4, .inl zi)), (p_ib, .inl (cZ, 4, .inl zi)), (p_se, .inl (cI, 4, .inl zi))] sz)) 0 0 (va_A [(pa, .inr (3, [.ref p_v, .int 0, .ref p_st, .ref p_ib, .ref p_di, .ref p_wa, .ref p_se, .ref p_vh, .ref p_re])), (p_v, .inl (cI, 4, .inl zi)), (p_ib, .inl (cZ, 4, .inl zi)), (p_se, .inl (cI, 4, .inl zi))] sz) := by
  refine Met.ofW (cc := cX1_shareSeats) (maxL := 4) (ret := none) (by decide) rfl ?_
  intro p e s m args below meth c s₁ B hml hv
  obtain ⟨rfl, hsz, hP, hK, hD0⟩ := hv
  have hx := B.exec
  have hb := B.bytes
  have hr := B.returns
  have hts := atoms_spec (ws := wsX1_shareSeats) B.pre
  have hown : s.vm.findClass RX1 = some m.cls := findClass_of_methodNamed B.named
  have hlocks := B.notSynchronized
  subst hsz
  have hD := hD0.self (sz := s.heap.size)
  generalize hAe : va_A [(pa, .inr (3, [.ref p_v, .int 0, .ref p_st, .ref p_ib, .ref p_di, .ref p_wa, .ref p_se, .ref p_vh, .ref p_re])), (p_v, .inl (cI, 4, .inl zi)), (p_ib, .inl (cZ, 4, .inl zi)), (p_se, .inl (cI, 4, .inl zi))] s.heap.size = A at hD ⊢
  have hA : ∀ q : Nat, s.heap.size ≤ q → A q := fun q h => by rw [← hAe]; exact Or.inr h
  have hS : va_S A s.heap s.heap [] := va_S.rf
  have hP : va_P (dC, dI) vwCl [(pa, .inr (3, [.ref p_v, .int 0, .ref p_st, .ref p_ib, .ref p_di, .ref p_wa, .ref p_se, .ref p_vh, .ref p_re])), (p_v, .inl (cI, 4, .inl zi)), (p_ib, .inl (cZ, 4, .inl zi)), (p_se, .inl (cI, 4, .inl zi))] s.heap := hP
  have hK : va_K (dC, dI) vwCl [(cI, .int), (cZ, .boolean)] s := hK
  have hl := lv_entry ([.ref pa, .int ho, .int ru]) (n := 4) (Nat.le_of_ble_eq_true rfl)
  rw [lg_entry_eq]
  generalize (lg_sl ([.ref pa, .int ho, .int ru]) ++ List.replicate (4 - (lg_sl ([.ref pa, .int ho, .int ru])).length) Slot.unset).toArray = ls at hl ⊢
  have hl : lv_has ls 4 [(0, .ref pa), (1, .int ho), (2, .int ru)] := hl
  refine lv_iconst (v := 0) hx hb dX1_shareSeats_0 (by decide) ?_
  refine lv_istore_n (lv' := [(3, .int 0), (0, .ref pa), (1, .int ho), (2, .int ru)]) hx hb dX1_shareSeats_1 rfl hl (by decide) rfl (fun ls hl => ?_)
  refine lv_iload_n hx hb dX1_shareSeats_2 rfl (lv_at hl 0 rfl) ?_
  refine lv_iconst (v := 4) hx hb dX1_shareSeats_3 (by decide) ?_
  refine lv_icmp_ge (tgt := 20) hx hb dX1_shareSeats_4 (by decide) (fun h9 => absurd h9 (by decide)) (fun _ => ?_)
  refine lv_aload_n hx hb dX1_shareSeats_7 rfl (lv_at hl 1 rfl) ?_
  have hinX1 : ∀ w ∈ u_ws RX1 TX1 9, w ∈ wsX1_shareSeats := by decide +kernel
  refine va_get (D := (dC, dI)) (ci := 3) (v := .ref p_se) (C := RX1) (T := TX1) (N := 9) hx hb hts hinX1 hown hK hP 0 rfl rfl 6 (by decide) (hts (.fieldLink RX1 28 "BallotLoom$Parties" "seats" "[I") (by decide +kernel)) (fun _ h9 => h9) rfl dX1_shareSeats_8 ?_
  refine lv_iload_n hx hb dX1_shareSeats_11 rfl (lv_at hl 0 rfl) ?_
  refine lv_iconst (v := 0) hx hb dX1_shareSeats_12 (by decide) ?_
  refine va_iast hx hb hK hP hD hS 3 0 rfl rfl (by unfold vp_in; decide) dX1_shareSeats_13 (fun H locs hP hD hS => ?_)
  have hP : va_P (dC, dI) vwCl [(pa, .inr (3, [.ref p_v, .int 0, .ref p_st, .ref p_ib, .ref p_di, .ref p_wa, .ref p_se, .ref p_vh, .ref p_re])), (p_v, .inl (cI, 4, .inl zi)), (p_ib, .inl (cZ, 4, .inl zi)), (p_se, .inl (cI, 4, .inl zi))] H := by have h9 := hP; rw [upd_zi] at h9; exact h9
  have hD : va_D A [(pa, .inr (3, [.ref p_v, .int 0, .ref p_st, .ref p_ib, .ref p_di, .ref p_wa, .ref p_se, .ref p_vh, .ref p_re])), (p_v, .inl (cI, 4, .inl zi)), (p_ib, .inl (cZ, 4, .inl zi)), (p_se, .inl (cI, 4, .inl zi))] := by have h9 := hD; rw [upd_zi] at h9; exact h9
  refine lv_iinc (k := 0) (v := 1) (lv' := [(3, .int 1), (0, .ref pa), (1, .int ho), (2, .int ru)]) hx hb dX1_shareSeats_14 hl rfl (by decide) (by decide) rfl (fun ls hl => ?_)
  refine lv_goto (tgt := 2) hx hb dX1_shareSeats_17 (by decide) ?_
  refine lv_iload_n hx hb dX1_shareSeats_2 rfl (lv_at hl 0 rfl) ?_
  refine lv_iconst (v := 4) hx hb dX1_shareSeats_3 (by decide) ?_
  refine lv_icmp_ge (tgt := 20) hx hb dX1_shareSeats_4 (by decide) (fun h9 => absurd h9 (by decide)) (fun _ => ?_)
  refine lv_aload_n hx hb dX1_shareSeats_7 rfl (lv_at hl 1 rfl) ?_
  refine va_get (D := (dC, dI)) (ci := 3) (v := .ref p_se) (C := RX1) (T := TX1) (N := 9) hx hb hts hinX1 hown hK hP 0 rfl rfl 6 (by decide) (hts (.fieldLink RX1 28 "BallotLoom$Parties" "seats" "[I") (by decide +kernel)) (fun _ h9 => h9) rfl dX1_shareSeats_8 ?_
  refine lv_iload_n hx hb dX1_shareSeats_11 rfl (lv_at hl 0 rfl) ?_
  refine lv_iconst (v := 0) hx hb dX1_shareSeats_12 (by decide) ?_
  refine va_iast hx hb hK hP hD hS 3 0 rfl rfl (by unfold vp_in; decide) dX1_shareSeats_13 (fun H locs hP hD hS => ?_)
  have hP : va_P (dC, dI) vwCl [(pa, .inr (3, [.ref p_v, .int 0, .ref p_st, .ref p_ib, .ref p_di, .ref p_wa, .ref p_se, .ref p_vh, .ref p_re])), (p_v, .inl (cI, 4, .inl zi)), (p_ib, .inl (cZ, 4, .inl zi)), (p_se, .inl (cI, 4, .inl zi))] H := by have h9 := hP; rw [upd_zi] at h9; exact h9
  have hD : va_D A [(pa, .inr (3, [.ref p_v, .int 0, .ref p_st, .ref p_ib, .ref p_di, .ref p_wa, .ref p_se, .ref p_vh, .ref p_re])), (p_v, .inl (cI, 4, .inl zi)), (p_ib, .inl (cZ, 4, .inl zi)), (p_se, .inl (cI, 4, .inl zi))] := by have h9 := hD; rw [upd_zi] at h9; exact h9
  refine lv_iinc (k := 0) (v := 2) (lv' := [(3, .int 2), (0, .ref pa), (1, .int ho), (2, .int ru)]) hx hb dX1_shareSeats_14 hl rfl (by decide) (by decide) rfl (fun ls hl => ?_)
  refine lv_goto (tgt := 2) hx hb dX1_shareSeats_17 (by decide) ?_
  refine lv_iload_n hx hb dX1_shareSeats_2 rfl (lv_at hl 0 rfl) ?_
  refine lv_iconst (v := 4) hx hb dX1_shareSeats_3 (by decide) ?_
  refine lv_icmp_ge (tgt := 20) hx hb dX1_shareSeats_4 (by decide) (fun h9 => absurd h9 (by decide)) (fun _ => ?_)
  refine lv_aload_n hx hb dX1_shareSeats_7 rfl (lv_at hl 1 rfl) ?_
  refine va_get (D := (dC, dI)) (ci := 3) (v := .ref p_se) (C := RX1) (T := TX1) (N := 9) hx hb hts hinX1 hown hK hP 0 rfl rfl 6 (by decide) (hts (.fieldLink RX1 28 "BallotLoom$Parties" "seats" "[I") (by decide +kernel)) (fun _ h9 => h9) rfl dX1_shareSeats_8 ?_
  refine lv_iload_n hx hb dX1_shareSeats_11 rfl (lv_at hl 0 rfl) ?_
  refine lv_iconst (v := 0) hx hb dX1_shareSeats_12 (by decide) ?_
  refine va_iast hx hb hK hP hD hS 3 0 rfl rfl (by unfold vp_in; decide) dX1_shareSeats_13 (fun H locs hP hD hS => ?_)
  have hP : va_P (dC, dI) vwCl [(pa, .inr (3, [.ref p_v, .int 0, .ref p_st, .ref p_ib, .ref p_di, .ref p_wa, .ref p_se, .ref p_vh, .ref p_re])), (p_v, .inl (cI, 4, .inl zi)), (p_ib, .inl (cZ, 4, .inl zi)), (p_se, .inl (cI, 4, .inl zi))] H := by have h9 := hP; rw [upd_zi] at h9; exact h9
  have hD : va_D A [(pa, .inr (3, [.ref p_v, .int 0, .ref p_st, .ref p_ib, .ref p_di, .ref p_wa, .ref p_se, .ref p_vh, .ref p_re])), (p_v, .inl (cI, 4, .inl zi)), (p_ib, .inl (cZ, 4, .inl zi)), (p_se, .inl (cI, 4, .inl zi))] := by have h9 := hD; rw [upd_zi] at h9; exact h9
  refine lv_iinc (k := 0) (v := 3) (lv' := [(3, .int 3), (0, .ref pa), (1, .int ho), (2, .int ru)]) hx hb dX1_shareSeats_14 hl rfl (by decide) (by decide) rfl (fun ls hl => ?_)
  refine lv_goto (tgt := 2) hx hb dX1_shareSeats_17 (by decide) ?_
  refine lv_iload_n hx hb dX1_shareSeats_2 rfl (lv_at hl 0 rfl) ?_
  refine lv_iconst (v := 4) hx hb dX1_shareSeats_3 (by decide) ?_
  refine lv_icmp_ge (tgt := 20) hx hb dX1_shareSeats_4 (by decide) (fun h9 => absurd h9 (by decide)) (fun _ => ?_)
  refine lv_aload_n hx hb dX1_shareSeats_7 rfl (lv_at hl 1 rfl) ?_
  refine va_get (D := (dC, dI)) (ci := 3) (v := .ref p_se) (C := RX1) (T := TX1) (N := 9) hx hb hts hinX1 hown hK hP 0 rfl rfl 6 (by decide) (hts (.fieldLink RX1 28 "BallotLoom$Parties" "seats" "[I") (by decide +kernel)) (fun _ h9 => h9) rfl dX1_shareSeats_8 ?_
  refine lv_iload_n hx hb dX1_shareSeats_11 rfl (lv_at hl 0 rfl) ?_
  refine lv_iconst (v := 0) hx hb dX1_shareSeats_12 (by decide) ?_
  refine va_iast hx hb hK hP hD hS 3 0 rfl rfl (by unfold vp_in; decide) dX1_shareSeats_13 (fun H locs hP hD hS => ?_)
  have hP : va_P (dC, dI) vwCl [(pa, .inr (3, [.ref p_v, .int 0, .ref p_st, .ref p_ib, .ref p_di, .ref p_wa, .ref p_se, .ref p_vh, .ref p_re])), (p_v, .inl (cI, 4, .inl zi)), (p_ib, .inl (cZ, 4, .inl zi)), (p_se, .inl (cI, 4, .inl zi))] H := by have h9 := hP; rw [upd_zi] at h9; exact h9
  have hD : va_D A [(pa, .inr (3, [.ref p_v, .int 0, .ref p_st, .ref p_ib, .ref p_di, .ref p_wa, .ref p_se, .ref p_vh, .ref p_re])), (p_v, .inl (cI, 4, .inl zi)), (p_ib, .inl (cZ, 4, .inl zi)), (p_se, .inl (cI, 4, .inl zi))] := by have h9 := hD; rw [upd_zi] at h9; exact h9
  refine lv_iinc (k := 0) (v := 4) (lv' := [(3, .int 4), (0, .ref pa), (1, .int ho), (2, .int ru)]) hx hb dX1_shareSeats_14 hl rfl (by decide) (by decide) rfl (fun ls hl => ?_)
  refine lv_goto (tgt := 2) hx hb dX1_shareSeats_17 (by decide) ?_
  refine lv_iload_n hx hb dX1_shareSeats_2 rfl (lv_at hl 0 rfl) ?_
  refine lv_iconst (v := 4) hx hb dX1_shareSeats_3 (by decide) ?_
  refine lv_icmp_ge (tgt := 20) hx hb dX1_shareSeats_4 (by decide) (fun _ => ?_) (fun h9 => absurd h9 (by decide))
  refine lv_iload_n hx hb dX1_shareSeats_20 rfl (lv_at hl 3 rfl) ?_
  refine lv_iconst (v := 2) hx hb dX1_shareSeats_21 (by decide) ?_
  refine lv_icmp_ne (tgt := 33) hx hb dX1_shareSeats_22 (by decide) (fun hc_1 => ?_) (fun hc_1 => ?_)
  · refine lv_aload_n hx hb dX1_shareSeats_33 rfl (lv_at hl 1 rfl) ?_
    refine lv_iload_n hx hb dX1_shareSeats_34 rfl (lv_at hl 2 rfl) ?_
    refine lv_iload_n hx hb dX1_shareSeats_35 rfl (lv_at hl 3 rfl) ?_
    refine lv_iconst (v := 1) hx hb dX1_shareSeats_36 (by decide) ?_
    refine lv_icmp_ne (tgt := 44) hx hb dX1_shareSeats_37 (by decide) (fun hc_2 => ?_) (fun hc_2 => ?_)
    · refine lv_iconst (v := 1) hx hb dX1_shareSeats_44 (by decide) ?_
      have hPc := hP.sub (ws' := [(pa, .inr (3, [.ref p_v, .int 0, .ref p_st, .ref p_ib, .ref p_di, .ref p_wa, .ref p_se, .ref p_vh, .ref p_re])), (p_v, .inl (cI, 4, .inl zi)), (p_ib, .inl (cZ, 4, .inl zi)), (p_se, .inl (cI, 4, .inl zi))]) [0, 1, 2, 3] rfl
      have hDc := hD.sub (ws' := [(pa, .inr (3, [.ref p_v, .int 0, .ref p_st, .ref p_ib, .ref p_di, .ref p_wa, .ref p_se, .ref p_vh, .ref p_re])), (p_v, .inl (cI, 4, .inl zi)), (p_ib, .inl (cZ, 4, .inl zi)), (p_se, .inl (cI, 4, .inl zi))]) [0, 1, 2, 3] (by decide) rfl
      have hKc := hK.sub (tys' := [(cI, .int), (cZ, .boolean)]) [0, 1] rfl
      have hFc := va_free (wc := [(pa, .inr (3, [.ref p_v, .int 0, .ref p_st, .ref p_ib, .ref p_di, .ref p_wa, .ref p_se, .ref p_vh, .ref p_re])), (p_v, .inl (cI, 4, .inl zi)), (p_ib, .inl (cZ, 4, .inl zi)), (p_se, .inl (cI, 4, .inl zi))]) hD hS hA [0, 1, 2, 3] rfl
      refine va_callv (va_runV (As := [.int ho, .int 1]) (rest := []) ⟨hx, hb, hml, hown, hts⟩ (c_X1_shareByDivisors l dC dI pa p_v p_st p_ib p_di p_wa p_se p_vh p_re ho (1 : Int32) cI cZ _ hh1) (cwV 2 hts gX1_shareSeats_X1_shareByDivisors rfl rfl rfl (by decide +kernel) ⟨Nat.le_of_ble_eq_true rfl, Nat.le_of_ble_eq_true rfl⟩) ⟨pr_blind, va_recv hKc hPc (ci := 3) (q0 := 0) rfl rfl, fun U hU hW => ⟨rfl, pr_mk hU hW hPc hKc hDc⟩⟩ rfl rfl hl.1 rfl (lv_room (Nat.le_of_ble_eq_true rfl)) dX1_shareSeats_45 ⟨Nat.le_of_ble_eq_true rfl, Nat.le_of_ble_eq_true rfl⟩) hS (fun q _ h => hFc q h) hFc (fun u_3 t H1 locs ht hvm hw hB hz1 hk1 hS => ?_)
      obtain ⟨hP1, hK1, hD1⟩ := hB
      rw [ht] at hP1
      obtain ⟨hP, hD⟩ := va_join (wr := []) (w1 := [(pa, .inr (3, [.ref p_v, .int 0, .ref p_st, .ref p_ib, .ref p_di, .ref p_wa, .ref p_se, .ref p_vh, .ref p_re])), (p_v, .inl (cI, 4, .inl zi)), (p_ib, .inl (cZ, 4, .inl zi)), (p_se, .inl (cI, 4, .inl zi))]) hP hD [0, 1, 2, 3] [] rfl rfl (by decide) (by decide) hk1 hFc hP1 hD1
      generalize H1 = H at hP hS ⊢
      have hP : va_P (dC, dI) vwCl [(pa, .inr (3, [.ref p_v, .int 0, .ref p_st, .ref p_ib, .ref p_di, .ref p_wa, .ref p_se, .ref p_vh, .ref p_re])), (p_v, .inl (cI, 4, .inl zi)), (p_ib, .inl (cZ, 4, .inl zi)), (p_se, .inl (cI, 4, .inl zi))] H := hP
      have hD : va_D A [(pa, .inr (3, [.ref p_v, .int 0, .ref p_st, .ref p_ib, .ref p_di, .ref p_wa, .ref p_se, .ref p_vh, .ref p_re])), (p_v, .inl (cI, 4, .inl zi)), (p_ib, .inl (cZ, 4, .inl zi)), (p_se, .inl (cI, 4, .inl zi))] := hD
      refine W.widen (k := 0) (n := 0) (Nat.le_refl _) (Nat.le_refl _) ?_
      have hP9 := hP.sub (ws' := [(pa, .inr (3, [.ref p_v, .int 0, .ref p_st, .ref p_ib, .ref p_di, .ref p_wa, .ref p_se, .ref p_vh, .ref p_re])), (p_v, .inl (cI, 4, .inl zi)), (p_ib, .inl (cZ, 4, .inl zi)), (p_se, .inl (cI, 4, .inl zi))]) [0, 1, 2, 3] rfl
      have hD9 := hD.sub (ws' := [(pa, .inr (3, [.ref p_v, .int 0, .ref p_st, .ref p_ib, .ref p_di, .ref p_wa, .ref p_se, .ref p_vh, .ref p_re])), (p_v, .inl (cI, 4, .inl zi)), (p_ib, .inl (cZ, 4, .inl zi)), (p_se, .inl (cI, 4, .inl zi))]) [0, 1, 2, 3] (by decide) rfl
      have hK9 := hK.sub (tys' := [(cI, .int), (cZ, .boolean)]) [0, 1] rfl
      refine W.widen (k := 0) (n := 0) (Nat.le_of_ble_eq_true rfl) (Nat.le_of_ble_eq_true rfl) ?_
      exact W.vret hx hb hr (fun t ht hW => ⟨⟨(), rfl, trivial, po_mk ht hW hP9 hK9 hD9⟩, hS.F ht⟩) hS.2.2 dX1_shareSeats_48
    · refine lv_iconst (v := 2) hx hb dX1_shareSeats_40 (by decide) ?_
      refine lv_goto (tgt := 45) hx hb dX1_shareSeats_41 (by decide) ?_
      have hPc := hP.sub (ws' := [(pa, .inr (3, [.ref p_v, .int 0, .ref p_st, .ref p_ib, .ref p_di, .ref p_wa, .ref p_se, .ref p_vh, .ref p_re])), (p_v, .inl (cI, 4, .inl zi)), (p_ib, .inl (cZ, 4, .inl zi)), (p_se, .inl (cI, 4, .inl zi))]) [0, 1, 2, 3] rfl
      have hDc := hD.sub (ws' := [(pa, .inr (3, [.ref p_v, .int 0, .ref p_st, .ref p_ib, .ref p_di, .ref p_wa, .ref p_se, .ref p_vh, .ref p_re])), (p_v, .inl (cI, 4, .inl zi)), (p_ib, .inl (cZ, 4, .inl zi)), (p_se, .inl (cI, 4, .inl zi))]) [0, 1, 2, 3] (by decide) rfl
      have hKc := hK.sub (tys' := [(cI, .int), (cZ, .boolean)]) [0, 1] rfl
      have hFc := va_free (wc := [(pa, .inr (3, [.ref p_v, .int 0, .ref p_st, .ref p_ib, .ref p_di, .ref p_wa, .ref p_se, .ref p_vh, .ref p_re])), (p_v, .inl (cI, 4, .inl zi)), (p_ib, .inl (cZ, 4, .inl zi)), (p_se, .inl (cI, 4, .inl zi))]) hD hS hA [0, 1, 2, 3] rfl
      refine va_callv (va_runV (As := [.int ho, .int 2]) (rest := []) ⟨hx, hb, hml, hown, hts⟩ (c_X1_shareByDivisors l dC dI pa p_v p_st p_ib p_di p_wa p_se p_vh p_re ho (2 : Int32) cI cZ _ hh1) (cwV 2 hts gX1_shareSeats_X1_shareByDivisors rfl rfl rfl (by decide +kernel) ⟨Nat.le_of_ble_eq_true rfl, Nat.le_of_ble_eq_true rfl⟩) ⟨pr_blind, va_recv hKc hPc (ci := 3) (q0 := 0) rfl rfl, fun U hU hW => ⟨rfl, pr_mk hU hW hPc hKc hDc⟩⟩ rfl rfl hl.1 rfl (lv_room (Nat.le_of_ble_eq_true rfl)) dX1_shareSeats_45 ⟨Nat.le_of_ble_eq_true rfl, Nat.le_of_ble_eq_true rfl⟩) hS (fun q _ h => hFc q h) hFc (fun u_5 t H1 locs ht hvm hw hB hz1 hk1 hS => ?_)
      obtain ⟨hP1, hK1, hD1⟩ := hB
      rw [ht] at hP1
      obtain ⟨hP, hD⟩ := va_join (wr := []) (w1 := [(pa, .inr (3, [.ref p_v, .int 0, .ref p_st, .ref p_ib, .ref p_di, .ref p_wa, .ref p_se, .ref p_vh, .ref p_re])), (p_v, .inl (cI, 4, .inl zi)), (p_ib, .inl (cZ, 4, .inl zi)), (p_se, .inl (cI, 4, .inl zi))]) hP hD [0, 1, 2, 3] [] rfl rfl (by decide) (by decide) hk1 hFc hP1 hD1
      generalize H1 = H at hP hS ⊢
      have hP : va_P (dC, dI) vwCl [(pa, .inr (3, [.ref p_v, .int 0, .ref p_st, .ref p_ib, .ref p_di, .ref p_wa, .ref p_se, .ref p_vh, .ref p_re])), (p_v, .inl (cI, 4, .inl zi)), (p_ib, .inl (cZ, 4, .inl zi)), (p_se, .inl (cI, 4, .inl zi))] H := hP
      have hD : va_D A [(pa, .inr (3, [.ref p_v, .int 0, .ref p_st, .ref p_ib, .ref p_di, .ref p_wa, .ref p_se, .ref p_vh, .ref p_re])), (p_v, .inl (cI, 4, .inl zi)), (p_ib, .inl (cZ, 4, .inl zi)), (p_se, .inl (cI, 4, .inl zi))] := hD
      refine W.widen (k := 0) (n := 0) (Nat.le_refl _) (Nat.le_refl _) ?_
      have hP9 := hP.sub (ws' := [(pa, .inr (3, [.ref p_v, .int 0, .ref p_st, .ref p_ib, .ref p_di, .ref p_wa, .ref p_se, .ref p_vh, .ref p_re])), (p_v, .inl (cI, 4, .inl zi)), (p_ib, .inl (cZ, 4, .inl zi)), (p_se, .inl (cI, 4, .inl zi))]) [0, 1, 2, 3] rfl
      have hD9 := hD.sub (ws' := [(pa, .inr (3, [.ref p_v, .int 0, .ref p_st, .ref p_ib, .ref p_di, .ref p_wa, .ref p_se, .ref p_vh, .ref p_re])), (p_v, .inl (cI, 4, .inl zi)), (p_ib, .inl (cZ, 4, .inl zi)), (p_se, .inl (cI, 4, .inl zi))]) [0, 1, 2, 3] (by decide) rfl
      have hK9 := hK.sub (tys' := [(cI, .int), (cZ, .boolean)]) [0, 1] rfl
      refine W.widen (k := 0) (n := 0) (Nat.le_of_ble_eq_true rfl) (Nat.le_of_ble_eq_true rfl) ?_
      exact W.vret hx hb hr (fun t ht hW => ⟨⟨(), rfl, trivial, po_mk ht hW hP9 hK9 hD9⟩, hS.F ht⟩) hS.2.2 dX1_shareSeats_48
  · refine lv_aload_n hx hb dX1_shareSeats_25 rfl (lv_at hl 1 rfl) ?_
    refine lv_iload_n hx hb dX1_shareSeats_26 rfl (lv_at hl 2 rfl) ?_
    have hPc := hP.sub (ws' := [(pa, .inr (3, [.ref p_v, .int 0, .ref p_st, .ref p_ib, .ref p_di, .ref p_wa, .ref p_se, .ref p_vh, .ref p_re])), (p_v, .inl (cI, 4, .inl zi)), (p_ib, .inl (cZ, 4, .inl zi)), (p_se, .inl (cI, 4, .inl zi))]) [0, 1, 2, 3] rfl
    have hDc := hD.sub (ws' := [(pa, .inr (3, [.ref p_v, .int 0, .ref p_st, .ref p_ib, .ref p_di, .ref p_wa, .ref p_se, .ref p_vh, .ref p_re])), (p_v, .inl (cI, 4, .inl zi)), (p_ib, .inl (cZ, 4, .inl zi)), (p_se, .inl (cI, 4, .inl zi))]) [0, 1, 2, 3] (by decide) rfl
    have hKc := hK.sub (tys' := [(cI, .int), (cZ, .boolean)]) [0, 1] rfl
    have hFc := va_free (wc := [(pa, .inr (3, [.ref p_v, .int 0, .ref p_st, .ref p_ib, .ref p_di, .ref p_wa, .ref p_se, .ref p_vh, .ref p_re])), (p_v, .inl (cI, 4, .inl zi)), (p_ib, .inl (cZ, 4, .inl zi)), (p_se, .inl (cI, 4, .inl zi))]) hD hS hA [0, 1, 2, 3] rfl
    refine va_callv (va_runV (As := [.int ho]) (rest := []) ⟨hx, hb, hml, hown, hts⟩ (c_X1_shareByRemainders l dC dI pa p_v p_st p_ib p_di p_wa p_se p_vh p_re ho cI cZ _ ) (cwV 1 hts gX1_shareSeats_X1_shareByRemainders rfl rfl rfl (by decide +kernel) ⟨Nat.le_of_ble_eq_true rfl, Nat.le_of_ble_eq_true rfl⟩) ⟨pr_blind, va_recv hKc hPc (ci := 3) (q0 := 0) rfl rfl, fun U hU hW => ⟨rfl, pr_mk hU hW hPc hKc hDc⟩⟩ rfl rfl hl.1 rfl (lv_room (Nat.le_of_ble_eq_true rfl)) dX1_shareSeats_27 ⟨Nat.le_of_ble_eq_true rfl, Nat.le_of_ble_eq_true rfl⟩) hS (fun q _ h => hFc q h) hFc (fun u_7 t H1 locs ht hvm hw hB hz1 hk1 hS => ?_)
    obtain ⟨hP1, hK1, hD1⟩ := hB
    rw [ht] at hP1
    obtain ⟨hP, hD⟩ := va_join (wr := []) (w1 := [(pa, .inr (3, [.ref p_v, .int 0, .ref p_st, .ref p_ib, .ref p_di, .ref p_wa, .ref p_se, .ref p_vh, .ref p_re])), (p_v, .inl (cI, 4, .inl zi)), (p_ib, .inl (cZ, 4, .inl zi)), (p_se, .inl (cI, 4, .inl zi))]) hP hD [0, 1, 2, 3] [] rfl rfl (by decide) (by decide) hk1 hFc hP1 hD1
    generalize H1 = H at hP hS ⊢
    have hP : va_P (dC, dI) vwCl [(pa, .inr (3, [.ref p_v, .int 0, .ref p_st, .ref p_ib, .ref p_di, .ref p_wa, .ref p_se, .ref p_vh, .ref p_re])), (p_v, .inl (cI, 4, .inl zi)), (p_ib, .inl (cZ, 4, .inl zi)), (p_se, .inl (cI, 4, .inl zi))] H := hP
    have hD : va_D A [(pa, .inr (3, [.ref p_v, .int 0, .ref p_st, .ref p_ib, .ref p_di, .ref p_wa, .ref p_se, .ref p_vh, .ref p_re])), (p_v, .inl (cI, 4, .inl zi)), (p_ib, .inl (cZ, 4, .inl zi)), (p_se, .inl (cI, 4, .inl zi))] := hD
    refine W.widen (k := 0) (n := 0) (Nat.le_refl _) (Nat.le_refl _) ?_
    refine lv_goto (tgt := 48) hx hb dX1_shareSeats_30 (by decide) ?_
    have hP9 := hP.sub (ws' := [(pa, .inr (3, [.ref p_v, .int 0, .ref p_st, .ref p_ib, .ref p_di, .ref p_wa, .ref p_se, .ref p_vh, .ref p_re])), (p_v, .inl (cI, 4, .inl zi)), (p_ib, .inl (cZ, 4, .inl zi)), (p_se, .inl (cI, 4, .inl zi))]) [0, 1, 2, 3] rfl
    have hD9 := hD.sub (ws' := [(pa, .inr (3, [.ref p_v, .int 0, .ref p_st, .ref p_ib, .ref p_di, .ref p_wa, .ref p_se, .ref p_vh, .ref p_re])), (p_v, .inl (cI, 4, .inl zi)), (p_ib, .inl (cZ, 4, .inl zi)), (p_se, .inl (cI, 4, .inl zi))]) [0, 1, 2, 3] (by decide) rfl
    have hK9 := hK.sub (tys' := [(cI, .int), (cZ, .boolean)]) [0, 1] rfl
    refine W.widen (k := 0) (n := 0) (Nat.le_of_ble_eq_true rfl) (Nat.le_of_ble_eq_true rfl) ?_
    exact W.vret hx hb hr (fun t ht hW => ⟨⟨(), rfl, trivial, po_mk ht hW hP9 hK9 hD9⟩, hS.F ht⟩) hS.2.2 dX1_shareSeats_48

set_option maxHeartbeats 4000000 in
set_option maxRecDepth 100000 in
theorem c_X1_seatsAbove (l : Launch) (dC : Nat → ClassId) (dI : Nat → Nat → Nat) (pa : Nat) (p_v : Nat) (p_st : Nat) (p_ib : Nat) (p_di : Nat) (p_wa : Nat) (p_se : Nat) (p_vh : Nat) (p_re : Nat) (cI : ClassId) (sz : Nat)  : Met l yX1_seatsAbove wsX1_seatsAbove ({ frames := 2, cells := 0, slots := 0, locals := 40 }) (va_Pc [.ref pa] (pr_ dC dI [(pa, .inr (3, [.ref p_v, .int 0, .ref p_st, .ref p_ib, .ref p_di, .ref p_wa, .ref p_se, .ref p_vh, .ref p_re])), (p_di, .inl (cI, 4, .inl zi)), (p_se, .inl (cI, 4, .inl zi))] [(cI, .int)] sz)) (va_Qi (fun (r : Int32) (_ : Unit) => r = 0) (fun (_ : Unit) t => po_ dC dI [(pa, .inr (3, [.ref p_v, .int 0, .ref p_st, .ref p_ib, .ref p_di, .ref p_wa, .ref p_se, .ref p_vh, .ref p_re])), (p_di, .inl (cI, 4, .inl zi)), (p_se, .inl (cI, 4, .inl zi))] [(cI, .int)] (va_A [(pa, .inr (3, [.ref p_v, .int 0, .ref p_st, .ref p_ib, .ref p_di, .ref p_wa, .ref p_se, .ref p_vh, .ref p_re])), (p_di, .inl (cI, 4, .inl zi)), (p_se, .inl (cI, 4, .inl zi))] sz) t) (va_A [(pa, .inr (3, [.ref p_v, .int 0, .ref p_st, .ref p_ib, .ref p_di, .ref p_wa, .ref p_se, .ref p_vh, .ref p_re])), (p_di, .inl (cI, 4, .inl zi)), (p_se, .inl (cI, 4, .inl zi))] sz)) 0 0 (va_A [(pa, .inr (3, [.ref p_v, .int 0, .ref p_st, .ref p_ib, .ref p_di, .ref p_wa, .ref p_se, .ref p_vh, .ref p_re])), (p_di, .inl (cI, 4, .inl zi)), (p_se, .inl (cI, 4, .inl zi))] sz) := by
  refine Met.ofW (cc := cX1_seatsAbove) (maxL := 3) (ret := (some .int)) (by decide) rfl ?_
  intro p e s m args below meth c s₁ B hml hv
  obtain ⟨rfl, hsz, hP, hK, hD0⟩ := hv
  have hx := B.exec
  have hb := B.bytes
  have hr := B.returns
  have hts := atoms_spec (ws := wsX1_seatsAbove) B.pre
  have hown : s.vm.findClass RX1 = some m.cls := findClass_of_methodNamed B.named
  have hlocks := B.notSynchronized
  subst hsz
  have hD := hD0.self (sz := s.heap.size)
  generalize hAe : va_A [(pa, .inr (3, [.ref p_v, .int 0, .ref p_st, .ref p_ib, .ref p_di, .ref p_wa, .ref p_se, .ref p_vh, .ref p_re])), (p_di, .inl (cI, 4, .inl zi)), (p_se, .inl (cI, 4, .inl zi))] s.heap.size = A at hD ⊢
  have hA : ∀ q : Nat, s.heap.size ≤ q → A q := fun q h => by rw [← hAe]; exact Or.inr h
  have hS : va_S A s.heap s.heap [] := va_S.rf
  have hP : va_P (dC, dI) vwCl [(pa, .inr (3, [.ref p_v, .int 0, .ref p_st, .ref p_ib, .ref p_di, .ref p_wa, .ref p_se, .ref p_vh, .ref p_re])), (p_di, .inl (cI, 4, .inl zi)), (p_se, .inl (cI, 4, .inl zi))] s.heap := hP
  have hK : va_K (dC, dI) vwCl [(cI, .int)] s := hK
  have hl := lv_entry ([.ref pa]) (n := 3) (Nat.le_of_ble_eq_true rfl)
  rw [lg_entry_eq]
  generalize (lg_sl ([.ref pa]) ++ List.replicate (3 - (lg_sl ([.ref pa])).length) Slot.unset).toArray = ls at hl ⊢
  have hl : lv_has ls 3 [(0, .ref pa)] := hl
  refine lv_iconst (v := 0) hx hb dX1_seatsAbove_0 (by decide) ?_
  refine lv_istore_n (lv' := [(1, .int 0), (0, .ref pa)]) hx hb dX1_seatsAbove_1 rfl hl (by decide) rfl (fun ls hl => ?_)
  refine lv_iconst (v := 0) hx hb dX1_seatsAbove_2 (by decide) ?_
  refine lv_istore_n (lv' := [(2, .int 0), (1, .int 0), (0, .ref pa)]) hx hb dX1_seatsAbove_3 rfl hl (by decide) rfl (fun ls hl => ?_)
  refine lv_iload_n hx hb dX1_seatsAbove_4 rfl (lv_at hl 0 rfl) ?_
  refine lv_iconst (v := 4) hx hb dX1_seatsAbove_5 (by decide) ?_
  refine lv_icmp_ge (tgt := 35) hx hb dX1_seatsAbove_6 (by decide) (fun h9 => absurd h9 (by decide)) (fun _ => ?_)
  refine lv_iload_n hx hb dX1_seatsAbove_9 rfl (lv_at hl 1 rfl) ?_
  refine lv_aload_n hx hb dX1_seatsAbove_10 rfl (lv_at hl 2 rfl) ?_
  have hinX1 : ∀ w ∈ u_ws RX1 TX1 9, w ∈ wsX1_seatsAbove := by decide +kernel
  refine va_get (D := (dC, dI)) (ci := 3) (v := .ref p_di) (C := RX1) (T := TX1) (N := 9) hx hb hts hinX1 hown hK hP 0 rfl rfl 4 (by decide) (hts (.fieldLink RX1 22 "BallotLoom$Parties" "direct" "[I") (by decide +kernel)) (fun _ h9 => h9) rfl dX1_seatsAbove_11 ?_
  refine lv_iload_n hx hb dX1_seatsAbove_14 rfl (lv_at hl 0 rfl) ?_
  refine va_iald hx hb hK hP 1 0 rfl rfl (by unfold vp_in; decide) dX1_seatsAbove_15 ?_
  refine lv_topi (fun y_1 ey_1 => ?_)
  obtain rfl : y_1 = 0 := ey_1.trans (by rfl)
  refine lv_aload_n hx hb dX1_seatsAbove_16 rfl (lv_at hl 2 rfl) ?_
  refine va_get (D := (dC, dI)) (ci := 3) (v := .ref p_se) (C := RX1) (T := TX1) (N := 9) hx hb hts hinX1 hown hK hP 0 rfl rfl 6 (by decide) (hts (.fieldLink RX1 28 "BallotLoom$Parties" "seats" "[I") (by decide +kernel)) (fun _ h9 => h9) rfl dX1_seatsAbove_17 ?_
  refine lv_iload_n hx hb dX1_seatsAbove_20 rfl (lv_at hl 0 rfl) ?_
  refine va_iald hx hb hK hP 2 0 rfl rfl (by unfold vp_in; decide) dX1_seatsAbove_21 ?_
  refine lv_topi (fun y_2 ey_2 => ?_)
  obtain rfl : y_2 = 0 := ey_2.trans (by rfl)
  refine lv_isub hx hb dX1_seatsAbove_22 ?_
  refine lv_topi (fun y_3 ey_3 => ?_)
  obtain rfl : y_3 = 0 := ey_3.trans (by decide)
  refine lv_iconst (v := 0) hx hb dX1_seatsAbove_23 (by decide) ?_
  refine va_mmax hx hb (by rw [hml]; exact hl.1.symm) hown (hts (.methodLink RX1 98 Lib.Math.max.name) (by decide +kernel)) (hts (.static Lib.Math.max.name) (by decide +kernel)) (hts (.initialized "java/lang/Math") (by decide +kernel)) (hts (.code Lib.Math.max.name Lib.Math.max.code 2 (some .int)) (by decide +kernel)) (Nat.le_of_ble_eq_true rfl) (Nat.le_of_ble_eq_true rfl) (Nat.le_of_ble_eq_true rfl) (Nat.le_of_ble_eq_true rfl) dX1_seatsAbove_24 ?_
  refine lv_topi (fun y_4 ey_4 => ?_)
  obtain rfl : y_4 = 0 := ey_4.trans (by decide)
  refine lv_iadd hx hb dX1_seatsAbove_27 ?_
  refine lv_topi (fun y_5 ey_5 => ?_)
  obtain rfl : y_5 = 0 := ey_5.trans (by decide)
  refine lv_istore_n (lv' := [(1, .int 0), (2, .int 0), (0, .ref pa)]) hx hb dX1_seatsAbove_28 rfl hl (by decide) rfl (fun ls hl => ?_)
  refine lv_iinc (k := 1) (v := 1) (lv' := [(2, .int 1), (1, .int 0), (0, .ref pa)]) hx hb dX1_seatsAbove_29 hl rfl (by decide) (by decide) rfl (fun ls hl => ?_)
  refine lv_goto (tgt := 4) hx hb dX1_seatsAbove_32 (by decide) ?_
  refine lv_iload_n hx hb dX1_seatsAbove_4 rfl (lv_at hl 0 rfl) ?_
  refine lv_iconst (v := 4) hx hb dX1_seatsAbove_5 (by decide) ?_
  refine lv_icmp_ge (tgt := 35) hx hb dX1_seatsAbove_6 (by decide) (fun h9 => absurd h9 (by decide)) (fun _ => ?_)
  refine lv_iload_n hx hb dX1_seatsAbove_9 rfl (lv_at hl 1 rfl) ?_
  refine lv_aload_n hx hb dX1_seatsAbove_10 rfl (lv_at hl 2 rfl) ?_
  refine va_get (D := (dC, dI)) (ci := 3) (v := .ref p_di) (C := RX1) (T := TX1) (N := 9) hx hb hts hinX1 hown hK hP 0 rfl rfl 4 (by decide) (hts (.fieldLink RX1 22 "BallotLoom$Parties" "direct" "[I") (by decide +kernel)) (fun _ h9 => h9) rfl dX1_seatsAbove_11 ?_
  refine lv_iload_n hx hb dX1_seatsAbove_14 rfl (lv_at hl 0 rfl) ?_
  refine va_iald hx hb hK hP 1 0 rfl rfl (by unfold vp_in; decide) dX1_seatsAbove_15 ?_
  refine lv_topi (fun y_6 ey_6 => ?_)
  obtain rfl : y_6 = 0 := ey_6.trans (by rfl)
  refine lv_aload_n hx hb dX1_seatsAbove_16 rfl (lv_at hl 2 rfl) ?_
  refine va_get (D := (dC, dI)) (ci := 3) (v := .ref p_se) (C := RX1) (T := TX1) (N := 9) hx hb hts hinX1 hown hK hP 0 rfl rfl 6 (by decide) (hts (.fieldLink RX1 28 "BallotLoom$Parties" "seats" "[I") (by decide +kernel)) (fun _ h9 => h9) rfl dX1_seatsAbove_17 ?_
  refine lv_iload_n hx hb dX1_seatsAbove_20 rfl (lv_at hl 0 rfl) ?_
  refine va_iald hx hb hK hP 2 0 rfl rfl (by unfold vp_in; decide) dX1_seatsAbove_21 ?_
  refine lv_topi (fun y_7 ey_7 => ?_)
  obtain rfl : y_7 = 0 := ey_7.trans (by rfl)
  refine lv_isub hx hb dX1_seatsAbove_22 ?_
  refine lv_topi (fun y_8 ey_8 => ?_)
  obtain rfl : y_8 = 0 := ey_8.trans (by decide)
  refine lv_iconst (v := 0) hx hb dX1_seatsAbove_23 (by decide) ?_
  refine va_mmax hx hb (by rw [hml]; exact hl.1.symm) hown (hts (.methodLink RX1 98 Lib.Math.max.name) (by decide +kernel)) (hts (.static Lib.Math.max.name) (by decide +kernel)) (hts (.initialized "java/lang/Math") (by decide +kernel)) (hts (.code Lib.Math.max.name Lib.Math.max.code 2 (some .int)) (by decide +kernel)) (Nat.le_of_ble_eq_true rfl) (Nat.le_of_ble_eq_true rfl) (Nat.le_of_ble_eq_true rfl) (Nat.le_of_ble_eq_true rfl) dX1_seatsAbove_24 ?_
  refine lv_topi (fun y_9 ey_9 => ?_)
  obtain rfl : y_9 = 0 := ey_9.trans (by decide)
  refine lv_iadd hx hb dX1_seatsAbove_27 ?_
  refine lv_topi (fun y_10 ey_10 => ?_)
  obtain rfl : y_10 = 0 := ey_10.trans (by decide)
  refine lv_istore_n (lv' := [(1, .int 0), (2, .int 1), (0, .ref pa)]) hx hb dX1_seatsAbove_28 rfl hl (by decide) rfl (fun ls hl => ?_)
  refine lv_iinc (k := 1) (v := 2) (lv' := [(2, .int 2), (1, .int 0), (0, .ref pa)]) hx hb dX1_seatsAbove_29 hl rfl (by decide) (by decide) rfl (fun ls hl => ?_)
  refine lv_goto (tgt := 4) hx hb dX1_seatsAbove_32 (by decide) ?_
  refine lv_iload_n hx hb dX1_seatsAbove_4 rfl (lv_at hl 0 rfl) ?_
  refine lv_iconst (v := 4) hx hb dX1_seatsAbove_5 (by decide) ?_
  refine lv_icmp_ge (tgt := 35) hx hb dX1_seatsAbove_6 (by decide) (fun h9 => absurd h9 (by decide)) (fun _ => ?_)
  refine lv_iload_n hx hb dX1_seatsAbove_9 rfl (lv_at hl 1 rfl) ?_
  refine lv_aload_n hx hb dX1_seatsAbove_10 rfl (lv_at hl 2 rfl) ?_
  refine va_get (D := (dC, dI)) (ci := 3) (v := .ref p_di) (C := RX1) (T := TX1) (N := 9) hx hb hts hinX1 hown hK hP 0 rfl rfl 4 (by decide) (hts (.fieldLink RX1 22 "BallotLoom$Parties" "direct" "[I") (by decide +kernel)) (fun _ h9 => h9) rfl dX1_seatsAbove_11 ?_
  refine lv_iload_n hx hb dX1_seatsAbove_14 rfl (lv_at hl 0 rfl) ?_
  refine va_iald hx hb hK hP 1 0 rfl rfl (by unfold vp_in; decide) dX1_seatsAbove_15 ?_
  refine lv_topi (fun y_11 ey_11 => ?_)
  obtain rfl : y_11 = 0 := ey_11.trans (by rfl)
  refine lv_aload_n hx hb dX1_seatsAbove_16 rfl (lv_at hl 2 rfl) ?_
  refine va_get (D := (dC, dI)) (ci := 3) (v := .ref p_se) (C := RX1) (T := TX1) (N := 9) hx hb hts hinX1 hown hK hP 0 rfl rfl 6 (by decide) (hts (.fieldLink RX1 28 "BallotLoom$Parties" "seats" "[I") (by decide +kernel)) (fun _ h9 => h9) rfl dX1_seatsAbove_17 ?_
  refine lv_iload_n hx hb dX1_seatsAbove_20 rfl (lv_at hl 0 rfl) ?_
  refine va_iald hx hb hK hP 2 0 rfl rfl (by unfold vp_in; decide) dX1_seatsAbove_21 ?_
  refine lv_topi (fun y_12 ey_12 => ?_)
  obtain rfl : y_12 = 0 := ey_12.trans (by rfl)
  refine lv_isub hx hb dX1_seatsAbove_22 ?_
  refine lv_topi (fun y_13 ey_13 => ?_)
  obtain rfl : y_13 = 0 := ey_13.trans (by decide)
  refine lv_iconst (v := 0) hx hb dX1_seatsAbove_23 (by decide) ?_
  refine va_mmax hx hb (by rw [hml]; exact hl.1.symm) hown (hts (.methodLink RX1 98 Lib.Math.max.name) (by decide +kernel)) (hts (.static Lib.Math.max.name) (by decide +kernel)) (hts (.initialized "java/lang/Math") (by decide +kernel)) (hts (.code Lib.Math.max.name Lib.Math.max.code 2 (some .int)) (by decide +kernel)) (Nat.le_of_ble_eq_true rfl) (Nat.le_of_ble_eq_true rfl) (Nat.le_of_ble_eq_true rfl) (Nat.le_of_ble_eq_true rfl) dX1_seatsAbove_24 ?_
  refine lv_topi (fun y_14 ey_14 => ?_)
  obtain rfl : y_14 = 0 := ey_14.trans (by decide)
  refine lv_iadd hx hb dX1_seatsAbove_27 ?_
  refine lv_topi (fun y_15 ey_15 => ?_)
  obtain rfl : y_15 = 0 := ey_15.trans (by decide)
  refine lv_istore_n (lv' := [(1, .int 0), (2, .int 2), (0, .ref pa)]) hx hb dX1_seatsAbove_28 rfl hl (by decide) rfl (fun ls hl => ?_)
  refine lv_iinc (k := 1) (v := 3) (lv' := [(2, .int 3), (1, .int 0), (0, .ref pa)]) hx hb dX1_seatsAbove_29 hl rfl (by decide) (by decide) rfl (fun ls hl => ?_)
  refine lv_goto (tgt := 4) hx hb dX1_seatsAbove_32 (by decide) ?_
  refine lv_iload_n hx hb dX1_seatsAbove_4 rfl (lv_at hl 0 rfl) ?_
  refine lv_iconst (v := 4) hx hb dX1_seatsAbove_5 (by decide) ?_
  refine lv_icmp_ge (tgt := 35) hx hb dX1_seatsAbove_6 (by decide) (fun h9 => absurd h9 (by decide)) (fun _ => ?_)
  refine lv_iload_n hx hb dX1_seatsAbove_9 rfl (lv_at hl 1 rfl) ?_
  refine lv_aload_n hx hb dX1_seatsAbove_10 rfl (lv_at hl 2 rfl) ?_
  refine va_get (D := (dC, dI)) (ci := 3) (v := .ref p_di) (C := RX1) (T := TX1) (N := 9) hx hb hts hinX1 hown hK hP 0 rfl rfl 4 (by decide) (hts (.fieldLink RX1 22 "BallotLoom$Parties" "direct" "[I") (by decide +kernel)) (fun _ h9 => h9) rfl dX1_seatsAbove_11 ?_
  refine lv_iload_n hx hb dX1_seatsAbove_14 rfl (lv_at hl 0 rfl) ?_
  refine va_iald hx hb hK hP 1 0 rfl rfl (by unfold vp_in; decide) dX1_seatsAbove_15 ?_
  refine lv_topi (fun y_16 ey_16 => ?_)
  obtain rfl : y_16 = 0 := ey_16.trans (by rfl)
  refine lv_aload_n hx hb dX1_seatsAbove_16 rfl (lv_at hl 2 rfl) ?_
  refine va_get (D := (dC, dI)) (ci := 3) (v := .ref p_se) (C := RX1) (T := TX1) (N := 9) hx hb hts hinX1 hown hK hP 0 rfl rfl 6 (by decide) (hts (.fieldLink RX1 28 "BallotLoom$Parties" "seats" "[I") (by decide +kernel)) (fun _ h9 => h9) rfl dX1_seatsAbove_17 ?_
  refine lv_iload_n hx hb dX1_seatsAbove_20 rfl (lv_at hl 0 rfl) ?_
  refine va_iald hx hb hK hP 2 0 rfl rfl (by unfold vp_in; decide) dX1_seatsAbove_21 ?_
  refine lv_topi (fun y_17 ey_17 => ?_)
  obtain rfl : y_17 = 0 := ey_17.trans (by rfl)
  refine lv_isub hx hb dX1_seatsAbove_22 ?_
  refine lv_topi (fun y_18 ey_18 => ?_)
  obtain rfl : y_18 = 0 := ey_18.trans (by decide)
  refine lv_iconst (v := 0) hx hb dX1_seatsAbove_23 (by decide) ?_
  refine va_mmax hx hb (by rw [hml]; exact hl.1.symm) hown (hts (.methodLink RX1 98 Lib.Math.max.name) (by decide +kernel)) (hts (.static Lib.Math.max.name) (by decide +kernel)) (hts (.initialized "java/lang/Math") (by decide +kernel)) (hts (.code Lib.Math.max.name Lib.Math.max.code 2 (some .int)) (by decide +kernel)) (Nat.le_of_ble_eq_true rfl) (Nat.le_of_ble_eq_true rfl) (Nat.le_of_ble_eq_true rfl) (Nat.le_of_ble_eq_true rfl) dX1_seatsAbove_24 ?_
  refine lv_topi (fun y_19 ey_19 => ?_)
  obtain rfl : y_19 = 0 := ey_19.trans (by decide)
  refine lv_iadd hx hb dX1_seatsAbove_27 ?_
  refine lv_topi (fun y_20 ey_20 => ?_)
  obtain rfl : y_20 = 0 := ey_20.trans (by decide)
  refine lv_istore_n (lv' := [(1, .int 0), (2, .int 3), (0, .ref pa)]) hx hb dX1_seatsAbove_28 rfl hl (by decide) rfl (fun ls hl => ?_)
  refine lv_iinc (k := 1) (v := 4) (lv' := [(2, .int 4), (1, .int 0), (0, .ref pa)]) hx hb dX1_seatsAbove_29 hl rfl (by decide) (by decide) rfl (fun ls hl => ?_)
  refine lv_goto (tgt := 4) hx hb dX1_seatsAbove_32 (by decide) ?_
  refine lv_iload_n hx hb dX1_seatsAbove_4 rfl (lv_at hl 0 rfl) ?_
  refine lv_iconst (v := 4) hx hb dX1_seatsAbove_5 (by decide) ?_
  refine lv_icmp_ge (tgt := 35) hx hb dX1_seatsAbove_6 (by decide) (fun _ => ?_) (fun h9 => absurd h9 (by decide))
  refine lv_iload_n hx hb dX1_seatsAbove_35 rfl (lv_at hl 1 rfl) ?_
  have hP9 := hP.sub (ws' := [(pa, .inr (3, [.ref p_v, .int 0, .ref p_st, .ref p_ib, .ref p_di, .ref p_wa, .ref p_se, .ref p_vh, .ref p_re])), (p_di, .inl (cI, 4, .inl zi)), (p_se, .inl (cI, 4, .inl zi))]) [0, 1, 2] rfl
  have hD9 := hD.sub (ws' := [(pa, .inr (3, [.ref p_v, .int 0, .ref p_st, .ref p_ib, .ref p_di, .ref p_wa, .ref p_se, .ref p_vh, .ref p_re])), (p_di, .inl (cI, 4, .inl zi)), (p_se, .inl (cI, 4, .inl zi))]) [0, 1, 2] (by decide) rfl
  have hK9 := hK.sub (tys' := [(cI, .int)]) [0] rfl
  refine W.widen (k := 0) (n := 0) (Nat.le_of_ble_eq_true rfl) (Nat.le_of_ble_eq_true rfl) ?_
  exact W.iret (v := 0) hx hb hr (fun t ht hW => ⟨⟨0, (), rfl, rfl, po_mk ht hW hP9 hK9 hD9⟩, hS.F ht⟩) hS.2.2 dX1_seatsAbove_36

set_option maxHeartbeats 4000000 in
set_option maxRecDepth 100000 in
theorem c_X1_seatsTogether (l : Launch) (dC : Nat → ClassId) (dI : Nat → Nat → Nat) (pa : Nat) (p_v : Nat) (p_st : Nat) (p_ib : Nat) (p_di : Nat) (p_wa : Nat) (p_se : Nat) (p_vh : Nat) (p_re : Nat) (st : Int32) (cI : ClassId) (sz : Nat)  : Met l yX1_seatsTogether wsX1_seatsTogether ({ frames := 2, cells := 0, slots := 0, locals := 40 }) (va_Pc [.ref pa, .int st] (pr_ dC dI [(pa, .inr (3, [.ref p_v, .int 0, .ref p_st, .ref p_ib, .ref p_di, .ref p_wa, .ref p_se, .ref p_vh, .ref p_re])), (p_se, .inl (cI, 4, .inl zi))] [(cI, .int)] sz)) (va_Qi (fun (r : Int32) (_ : Unit) => r = 0) (fun (_ : Unit) t => po_ dC dI [(pa, .inr (3, [.ref p_v, .int 0, .ref p_st, .ref p_ib, .ref p_di, .ref p_wa, .ref p_se, .ref p_vh, .ref p_re])), (p_se, .inl (cI, 4, .inl zi))] [(cI, .int)] (va_A [(pa, .inr (3, [.ref p_v, .int 0, .ref p_st, .ref p_ib, .ref p_di, .ref p_wa, .ref p_se, .ref p_vh, .ref p_re])), (p_se, .inl (cI, 4, .inl zi))] sz) t) (va_A [(pa, .inr (3, [.ref p_v, .int 0, .ref p_st, .ref p_ib, .ref p_di, .ref p_wa, .ref p_se, .ref p_vh, .ref p_re])), (p_se, .inl (cI, 4, .inl zi))] sz)) 0 0 (va_A [(pa, .inr (3, [.ref p_v, .int 0, .ref p_st, .ref p_ib, .ref p_di, .ref p_wa, .ref p_se, .ref p_vh, .ref p_re])), (p_se, .inl (cI, 4, .inl zi))] sz) := by
  refine Met.ofW (cc := cX1_seatsTogether) (maxL := 4) (ret := (some .int)) (by decide) rfl ?_
  intro p e s m args below meth c s₁ B hml hv
  obtain ⟨rfl, hsz, hP, hK, hD0⟩ := hv
  have hx := B.exec
  have hb := B.bytes
  have hr := B.returns
  have hts := atoms_spec (ws := wsX1_seatsTogether) B.pre
  have hown : s.vm.findClass RX1 = some m.cls := findClass_of_methodNamed B.named
  have hlocks := B.notSynchronized
  subst hsz
  have hD := hD0.self (sz := s.heap.size)
  generalize hAe : va_A [(pa, .inr (3, [.ref p_v, .int 0, .ref p_st, .ref p_ib, .ref p_di, .ref p_wa, .ref p_se, .ref p_vh, .ref p_re])), (p_se, .inl (cI, 4, .inl zi))] s.heap.size = A at hD ⊢
  have hA : ∀ q : Nat, s.heap.size ≤ q → A q := fun q h => by rw [← hAe]; exact Or.inr h
  have hS : va_S A s.heap s.heap [] := va_S.rf
  have hP : va_P (dC, dI) vwCl [(pa, .inr (3, [.ref p_v, .int 0, .ref p_st, .ref p_ib, .ref p_di, .ref p_wa, .ref p_se, .ref p_vh, .ref p_re])), (p_se, .inl (cI, 4, .inl zi))] s.heap := hP
  have hK : va_K (dC, dI) vwCl [(cI, .int)] s := hK
  have hl := lv_entry ([.ref pa, .int st]) (n := 4) (Nat.le_of_ble_eq_true rfl)
  rw [lg_entry_eq]
  generalize (lg_sl ([.ref pa, .int st]) ++ List.replicate (4 - (lg_sl ([.ref pa, .int st])).length) Slot.unset).toArray = ls at hl ⊢
  have hl : lv_has ls 4 [(0, .ref pa), (1, .int st)] := hl
  refine lv_iconst (v := 0) hx hb dX1_seatsTogether_0 (by decide) ?_
  refine lv_istore_n (lv' := [(2, .int 0), (0, .ref pa), (1, .int st)]) hx hb dX1_seatsTogether_1 rfl hl (by decide) rfl (fun ls hl => ?_)
  refine lv_iconst (v := 0) hx hb dX1_seatsTogether_2 (by decide) ?_
  refine lv_istore_n (lv' := [(3, .int 0), (2, .int 0), (0, .ref pa), (1, .int st)]) hx hb dX1_seatsTogether_3 rfl hl (by decide) rfl (fun ls hl => ?_)
  refine lv_iload_n hx hb dX1_seatsTogether_4 rfl (lv_at hl 0 rfl) ?_
  refine lv_iconst (v := 4) hx hb dX1_seatsTogether_5 (by decide) ?_
  refine lv_icmp_ge (tgt := 32) hx hb dX1_seatsTogether_6 (by decide) (fun h9 => absurd h9 (by decide)) (fun _ => ?_)
  refine lv_iload_n hx hb dX1_seatsTogether_9 rfl (lv_at hl 3 rfl) ?_
  refine lv_iconst (v := 1) hx hb dX1_seatsTogether_10 (by decide) ?_
  refine lv_iload_n hx hb dX1_seatsTogether_11 rfl (lv_at hl 0 rfl) ?_
  refine lv_ishl hx hb dX1_seatsTogether_12 ?_
  refine lv_topi (fun y_1 ey_1 => ?_)
  obtain rfl : y_1 = 1 := ey_1.trans (by decide)
  refine lv_iand hx hb dX1_seatsTogether_13 ?_
  refine lv_topi (fun y_2 ey_2 => ?_)
  refine w_join (pcJ := 26) (st := []) (fun H locs ls => va_P (dC, dI) vwCl [(pa, .inr (3, [.ref p_v, .int 0, .ref p_st, .ref p_ib, .ref p_di, .ref p_wa, .ref p_se, .ref p_vh, .ref p_re])), (p_se, .inl (cI, 4, .inl zi))] H ∧ va_D A [(pa, .inr (3, [.ref p_v, .int 0, .ref p_st, .ref p_ib, .ref p_di, .ref p_wa, .ref p_se, .ref p_vh, .ref p_re])), (p_se, .inl (cI, 4, .inl zi))] ∧ va_S A s.heap H locs ∧ lv_has ls 4 [(0, .ref pa), (1, .int st), (2, .int 0), (3, .int 0)]) ?_ (fun J_3 => ?_)
  · intro H locs ls ⟨hP, hD, hS, hl⟩
    refine lv_iinc (k := 3) (v := 1) (lv' := [(3, .int 1), (0, .ref pa), (1, .int st), (2, .int 0)]) hx hb dX1_seatsTogether_26 hl rfl (by decide) (by decide) rfl (fun ls hl => ?_)
    refine lv_goto (tgt := 4) hx hb dX1_seatsTogether_29 (by decide) ?_
    refine lv_iload_n hx hb dX1_seatsTogether_4 rfl (lv_at hl 0 rfl) ?_
    refine lv_iconst (v := 4) hx hb dX1_seatsTogether_5 (by decide) ?_
    refine lv_icmp_ge (tgt := 32) hx hb dX1_seatsTogether_6 (by decide) (fun h9 => absurd h9 (by decide)) (fun _ => ?_)
    refine lv_iload_n hx hb dX1_seatsTogether_9 rfl (lv_at hl 2 rfl) ?_
    refine lv_iconst (v := 1) hx hb dX1_seatsTogether_10 (by decide) ?_
    refine lv_iload_n hx hb dX1_seatsTogether_11 rfl (lv_at hl 0 rfl) ?_
    refine lv_ishl hx hb dX1_seatsTogether_12 ?_
    refine lv_topi (fun y_4 ey_4 => ?_)
    obtain rfl : y_4 = 2 := ey_4.trans (by decide)
    refine lv_iand hx hb dX1_seatsTogether_13 ?_
    refine lv_topi (fun y_5 ey_5 => ?_)
    refine w_join (pcJ := 26) (st := []) (fun H locs ls => va_P (dC, dI) vwCl [(pa, .inr (3, [.ref p_v, .int 0, .ref p_st, .ref p_ib, .ref p_di, .ref p_wa, .ref p_se, .ref p_vh, .ref p_re])), (p_se, .inl (cI, 4, .inl zi))] H ∧ va_D A [(pa, .inr (3, [.ref p_v, .int 0, .ref p_st, .ref p_ib, .ref p_di, .ref p_wa, .ref p_se, .ref p_vh, .ref p_re])), (p_se, .inl (cI, 4, .inl zi))] ∧ va_S A s.heap H locs ∧ lv_has ls 4 [(0, .ref pa), (1, .int st), (2, .int 0), (3, .int 1)]) ?_ (fun J_6 => ?_)
    · intro H locs ls ⟨hP, hD, hS, hl⟩
      refine lv_iinc (k := 3) (v := 2) (lv' := [(3, .int 2), (0, .ref pa), (1, .int st), (2, .int 0)]) hx hb dX1_seatsTogether_26 hl rfl (by decide) (by decide) rfl (fun ls hl => ?_)
      refine lv_goto (tgt := 4) hx hb dX1_seatsTogether_29 (by decide) ?_
      refine lv_iload_n hx hb dX1_seatsTogether_4 rfl (lv_at hl 0 rfl) ?_
      refine lv_iconst (v := 4) hx hb dX1_seatsTogether_5 (by decide) ?_
      refine lv_icmp_ge (tgt := 32) hx hb dX1_seatsTogether_6 (by decide) (fun h9 => absurd h9 (by decide)) (fun _ => ?_)
      refine lv_iload_n hx hb dX1_seatsTogether_9 rfl (lv_at hl 2 rfl) ?_
      refine lv_iconst (v := 1) hx hb dX1_seatsTogether_10 (by decide) ?_
      refine lv_iload_n hx hb dX1_seatsTogether_11 rfl (lv_at hl 0 rfl) ?_
      refine lv_ishl hx hb dX1_seatsTogether_12 ?_
      refine lv_topi (fun y_7 ey_7 => ?_)
      obtain rfl : y_7 = 4 := ey_7.trans (by decide)
      refine lv_iand hx hb dX1_seatsTogether_13 ?_
      refine lv_topi (fun y_8 ey_8 => ?_)
      refine w_join (pcJ := 26) (st := []) (fun H locs ls => va_P (dC, dI) vwCl [(pa, .inr (3, [.ref p_v, .int 0, .ref p_st, .ref p_ib, .ref p_di, .ref p_wa, .ref p_se, .ref p_vh, .ref p_re])), (p_se, .inl (cI, 4, .inl zi))] H ∧ va_D A [(pa, .inr (3, [.ref p_v, .int 0, .ref p_st, .ref p_ib, .ref p_di, .ref p_wa, .ref p_se, .ref p_vh, .ref p_re])), (p_se, .inl (cI, 4, .inl zi))] ∧ va_S A s.heap H locs ∧ lv_has ls 4 [(0, .ref pa), (1, .int st), (2, .int 0), (3, .int 2)]) ?_ (fun J_9 => ?_)
      · intro H locs ls ⟨hP, hD, hS, hl⟩
        refine lv_iinc (k := 3) (v := 3) (lv' := [(3, .int 3), (0, .ref pa), (1, .int st), (2, .int 0)]) hx hb dX1_seatsTogether_26 hl rfl (by decide) (by decide) rfl (fun ls hl => ?_)
        refine lv_goto (tgt := 4) hx hb dX1_seatsTogether_29 (by decide) ?_
        refine lv_iload_n hx hb dX1_seatsTogether_4 rfl (lv_at hl 0 rfl) ?_
        refine lv_iconst (v := 4) hx hb dX1_seatsTogether_5 (by decide) ?_
        refine lv_icmp_ge (tgt := 32) hx hb dX1_seatsTogether_6 (by decide) (fun h9 => absurd h9 (by decide)) (fun _ => ?_)
        refine lv_iload_n hx hb dX1_seatsTogether_9 rfl (lv_at hl 2 rfl) ?_
        refine lv_iconst (v := 1) hx hb dX1_seatsTogether_10 (by decide) ?_
        refine lv_iload_n hx hb dX1_seatsTogether_11 rfl (lv_at hl 0 rfl) ?_
        refine lv_ishl hx hb dX1_seatsTogether_12 ?_
        refine lv_topi (fun y_10 ey_10 => ?_)
        obtain rfl : y_10 = 8 := ey_10.trans (by decide)
        refine lv_iand hx hb dX1_seatsTogether_13 ?_
        refine lv_topi (fun y_11 ey_11 => ?_)
        refine w_join (pcJ := 26) (st := []) (fun H locs ls => va_P (dC, dI) vwCl [(pa, .inr (3, [.ref p_v, .int 0, .ref p_st, .ref p_ib, .ref p_di, .ref p_wa, .ref p_se, .ref p_vh, .ref p_re])), (p_se, .inl (cI, 4, .inl zi))] H ∧ va_D A [(pa, .inr (3, [.ref p_v, .int 0, .ref p_st, .ref p_ib, .ref p_di, .ref p_wa, .ref p_se, .ref p_vh, .ref p_re])), (p_se, .inl (cI, 4, .inl zi))] ∧ va_S A s.heap H locs ∧ lv_has ls 4 [(0, .ref pa), (1, .int st), (2, .int 0), (3, .int 3)]) ?_ (fun J_12 => ?_)
        · intro H locs ls ⟨hP, hD, hS, hl⟩
          refine lv_iinc (k := 3) (v := 4) (lv' := [(3, .int 4), (0, .ref pa), (1, .int st), (2, .int 0)]) hx hb dX1_seatsTogether_26 hl rfl (by decide) (by decide) rfl (fun ls hl => ?_)
          refine lv_goto (tgt := 4) hx hb dX1_seatsTogether_29 (by decide) ?_
          refine lv_iload_n hx hb dX1_seatsTogether_4 rfl (lv_at hl 0 rfl) ?_
          refine lv_iconst (v := 4) hx hb dX1_seatsTogether_5 (by decide) ?_
          refine lv_icmp_ge (tgt := 32) hx hb dX1_seatsTogether_6 (by decide) (fun _ => ?_) (fun h9 => absurd h9 (by decide))
          refine lv_iload_n hx hb dX1_seatsTogether_32 rfl (lv_at hl 3 rfl) ?_
          have hP9 := hP.sub (ws' := [(pa, .inr (3, [.ref p_v, .int 0, .ref p_st, .ref p_ib, .ref p_di, .ref p_wa, .ref p_se, .ref p_vh, .ref p_re])), (p_se, .inl (cI, 4, .inl zi))]) [0, 1] rfl
          have hD9 := hD.sub (ws' := [(pa, .inr (3, [.ref p_v, .int 0, .ref p_st, .ref p_ib, .ref p_di, .ref p_wa, .ref p_se, .ref p_vh, .ref p_re])), (p_se, .inl (cI, 4, .inl zi))]) [0, 1] (by decide) rfl
          have hK9 := hK.sub (tys' := [(cI, .int)]) [0] rfl
          refine W.widen (k := 0) (n := 0) (Nat.le_of_ble_eq_true rfl) (Nat.le_of_ble_eq_true rfl) ?_
          exact W.iret (v := 0) hx hb hr (fun t ht hW => ⟨⟨0, (), rfl, rfl, po_mk ht hW hP9 hK9 hD9⟩, hS.F ht⟩) hS.2.2 dX1_seatsTogether_33
        refine lv_if_eq (tgt := 26) hx hb dX1_seatsTogether_14 (by decide) (fun hc_13 => ?_) (fun hc_13 => ?_)
        · exact J_12 _ _ _ ⟨hP.sub (ws' := [(pa, .inr (3, [.ref p_v, .int 0, .ref p_st, .ref p_ib, .ref p_di, .ref p_wa, .ref p_se, .ref p_vh, .ref p_re])), (p_se, .inl (cI, 4, .inl zi))]) [0, 1] rfl, hD.sub (ws' := [(pa, .inr (3, [.ref p_v, .int 0, .ref p_st, .ref p_ib, .ref p_di, .ref p_wa, .ref p_se, .ref p_vh, .ref p_re])), (p_se, .inl (cI, 4, .inl zi))]) [0, 1] (by decide) rfl, hS, lv_sub hl [1, 2, 3, 0] rfl⟩
        · refine lv_iload_n hx hb dX1_seatsTogether_17 rfl (lv_at hl 3 rfl) ?_
          refine lv_aload_n hx hb dX1_seatsTogether_18 rfl (lv_at hl 1 rfl) ?_
          have hinX1 : ∀ w ∈ u_ws RX1 TX1 9, w ∈ wsX1_seatsTogether := by decide +kernel
          refine va_get (D := (dC, dI)) (ci := 3) (v := .ref p_se) (C := RX1) (T := TX1) (N := 9) hx hb hts hinX1 hown hK hP 0 rfl rfl 6 (by decide) (hts (.fieldLink RX1 28 "BallotLoom$Parties" "seats" "[I") (by decide +kernel)) (fun _ h9 => h9) rfl dX1_seatsTogether_19 ?_
          refine lv_iload_n hx hb dX1_seatsTogether_22 rfl (lv_at hl 0 rfl) ?_
          refine va_iald hx hb hK hP 1 0 rfl rfl (by unfold vp_in; decide) dX1_seatsTogether_23 ?_
          refine lv_topi (fun y_14 ey_14 => ?_)
          obtain rfl : y_14 = 0 := ey_14.trans (by rfl)
          refine lv_iadd hx hb dX1_seatsTogether_24 ?_
          refine lv_topi (fun y_15 ey_15 => ?_)
          obtain rfl : y_15 = 0 := ey_15.trans (by decide)
          refine lv_istore_n (lv' := [(2, .int 0), (3, .int 3), (0, .ref pa), (1, .int st)]) hx hb dX1_seatsTogether_25 rfl hl (by decide) rfl (fun ls hl => ?_)
          exact J_12 _ _ _ ⟨hP.sub (ws' := [(pa, .inr (3, [.ref p_v, .int 0, .ref p_st, .ref p_ib, .ref p_di, .ref p_wa, .ref p_se, .ref p_vh, .ref p_re])), (p_se, .inl (cI, 4, .inl zi))]) [0, 1] rfl, hD.sub (ws' := [(pa, .inr (3, [.ref p_v, .int 0, .ref p_st, .ref p_ib, .ref p_di, .ref p_wa, .ref p_se, .ref p_vh, .ref p_re])), (p_se, .inl (cI, 4, .inl zi))]) [0, 1] (by decide) rfl, hS, lv_sub hl [2, 3, 0, 1] rfl⟩
      refine lv_if_eq (tgt := 26) hx hb dX1_seatsTogether_14 (by decide) (fun hc_16 => ?_) (fun hc_16 => ?_)
      · exact J_9 _ _ _ ⟨hP.sub (ws' := [(pa, .inr (3, [.ref p_v, .int 0, .ref p_st, .ref p_ib, .ref p_di, .ref p_wa, .ref p_se, .ref p_vh, .ref p_re])), (p_se, .inl (cI, 4, .inl zi))]) [0, 1] rfl, hD.sub (ws' := [(pa, .inr (3, [.ref p_v, .int 0, .ref p_st, .ref p_ib, .ref p_di, .ref p_wa, .ref p_se, .ref p_vh, .ref p_re])), (p_se, .inl (cI, 4, .inl zi))]) [0, 1] (by decide) rfl, hS, lv_sub hl [1, 2, 3, 0] rfl⟩
      · refine lv_iload_n hx hb dX1_seatsTogether_17 rfl (lv_at hl 3 rfl) ?_
        refine lv_aload_n hx hb dX1_seatsTogether_18 rfl (lv_at hl 1 rfl) ?_
        have hinX1 : ∀ w ∈ u_ws RX1 TX1 9, w ∈ wsX1_seatsTogether := by decide +kernel
        refine va_get (D := (dC, dI)) (ci := 3) (v := .ref p_se) (C := RX1) (T := TX1) (N := 9) hx hb hts hinX1 hown hK hP 0 rfl rfl 6 (by decide) (hts (.fieldLink RX1 28 "BallotLoom$Parties" "seats" "[I") (by decide +kernel)) (fun _ h9 => h9) rfl dX1_seatsTogether_19 ?_
        refine lv_iload_n hx hb dX1_seatsTogether_22 rfl (lv_at hl 0 rfl) ?_
        refine va_iald hx hb hK hP 1 0 rfl rfl (by unfold vp_in; decide) dX1_seatsTogether_23 ?_
        refine lv_topi (fun y_17 ey_17 => ?_)
        obtain rfl : y_17 = 0 := ey_17.trans (by rfl)
        refine lv_iadd hx hb dX1_seatsTogether_24 ?_
        refine lv_topi (fun y_18 ey_18 => ?_)
        obtain rfl : y_18 = 0 := ey_18.trans (by decide)
        refine lv_istore_n (lv' := [(2, .int 0), (3, .int 2), (0, .ref pa), (1, .int st)]) hx hb dX1_seatsTogether_25 rfl hl (by decide) rfl (fun ls hl => ?_)
        exact J_9 _ _ _ ⟨hP.sub (ws' := [(pa, .inr (3, [.ref p_v, .int 0, .ref p_st, .ref p_ib, .ref p_di, .ref p_wa, .ref p_se, .ref p_vh, .ref p_re])), (p_se, .inl (cI, 4, .inl zi))]) [0, 1] rfl, hD.sub (ws' := [(pa, .inr (3, [.ref p_v, .int 0, .ref p_st, .ref p_ib, .ref p_di, .ref p_wa, .ref p_se, .ref p_vh, .ref p_re])), (p_se, .inl (cI, 4, .inl zi))]) [0, 1] (by decide) rfl, hS, lv_sub hl [2, 3, 0, 1] rfl⟩
    refine lv_if_eq (tgt := 26) hx hb dX1_seatsTogether_14 (by decide) (fun hc_19 => ?_) (fun hc_19 => ?_)
    · exact J_6 _ _ _ ⟨hP.sub (ws' := [(pa, .inr (3, [.ref p_v, .int 0, .ref p_st, .ref p_ib, .ref p_di, .ref p_wa, .ref p_se, .ref p_vh, .ref p_re])), (p_se, .inl (cI, 4, .inl zi))]) [0, 1] rfl, hD.sub (ws' := [(pa, .inr (3, [.ref p_v, .int 0, .ref p_st, .ref p_ib, .ref p_di, .ref p_wa, .ref p_se, .ref p_vh, .ref p_re])), (p_se, .inl (cI, 4, .inl zi))]) [0, 1] (by decide) rfl, hS, lv_sub hl [1, 2, 3, 0] rfl⟩
    · refine lv_iload_n hx hb dX1_seatsTogether_17 rfl (lv_at hl 3 rfl) ?_
      refine lv_aload_n hx hb dX1_seatsTogether_18 rfl (lv_at hl 1 rfl) ?_
      have hinX1 : ∀ w ∈ u_ws RX1 TX1 9, w ∈ wsX1_seatsTogether := by decide +kernel
      refine va_get (D := (dC, dI)) (ci := 3) (v := .ref p_se) (C := RX1) (T := TX1) (N := 9) hx hb hts hinX1 hown hK hP 0 rfl rfl 6 (by decide) (hts (.fieldLink RX1 28 "BallotLoom$Parties" "seats" "[I") (by decide +kernel)) (fun _ h9 => h9) rfl dX1_seatsTogether_19 ?_
      refine lv_iload_n hx hb dX1_seatsTogether_22 rfl (lv_at hl 0 rfl) ?_
      refine va_iald hx hb hK hP 1 0 rfl rfl (by unfold vp_in; decide) dX1_seatsTogether_23 ?_
      refine lv_topi (fun y_20 ey_20 => ?_)
      obtain rfl : y_20 = 0 := ey_20.trans (by rfl)
      refine lv_iadd hx hb dX1_seatsTogether_24 ?_
      refine lv_topi (fun y_21 ey_21 => ?_)
      obtain rfl : y_21 = 0 := ey_21.trans (by decide)
      refine lv_istore_n (lv' := [(2, .int 0), (3, .int 1), (0, .ref pa), (1, .int st)]) hx hb dX1_seatsTogether_25 rfl hl (by decide) rfl (fun ls hl => ?_)
      exact J_6 _ _ _ ⟨hP.sub (ws' := [(pa, .inr (3, [.ref p_v, .int 0, .ref p_st, .ref p_ib, .ref p_di, .ref p_wa, .ref p_se, .ref p_vh, .ref p_re])), (p_se, .inl (cI, 4, .inl zi))]) [0, 1] rfl, hD.sub (ws' := [(pa, .inr (3, [.ref p_v, .int 0, .ref p_st, .ref p_ib, .ref p_di, .ref p_wa, .ref p_se, .ref p_vh, .ref p_re])), (p_se, .inl (cI, 4, .inl zi))]) [0, 1] (by decide) rfl, hS, lv_sub hl [2, 3, 0, 1] rfl⟩
  refine lv_if_eq (tgt := 26) hx hb dX1_seatsTogether_14 (by decide) (fun hc_22 => ?_) (fun hc_22 => ?_)
  · exact J_3 _ _ _ ⟨hP.sub (ws' := [(pa, .inr (3, [.ref p_v, .int 0, .ref p_st, .ref p_ib, .ref p_di, .ref p_wa, .ref p_se, .ref p_vh, .ref p_re])), (p_se, .inl (cI, 4, .inl zi))]) [0, 1] rfl, hD.sub (ws' := [(pa, .inr (3, [.ref p_v, .int 0, .ref p_st, .ref p_ib, .ref p_di, .ref p_wa, .ref p_se, .ref p_vh, .ref p_re])), (p_se, .inl (cI, 4, .inl zi))]) [0, 1] (by decide) rfl, hS, lv_sub hl [2, 3, 1, 0] rfl⟩
  · refine lv_iload_n hx hb dX1_seatsTogether_17 rfl (lv_at hl 1 rfl) ?_
    refine lv_aload_n hx hb dX1_seatsTogether_18 rfl (lv_at hl 2 rfl) ?_
    have hinX1 : ∀ w ∈ u_ws RX1 TX1 9, w ∈ wsX1_seatsTogether := by decide +kernel
    refine va_get (D := (dC, dI)) (ci := 3) (v := .ref p_se) (C := RX1) (T := TX1) (N := 9) hx hb hts hinX1 hown hK hP 0 rfl rfl 6 (by decide) (hts (.fieldLink RX1 28 "BallotLoom$Parties" "seats" "[I") (by decide +kernel)) (fun _ h9 => h9) rfl dX1_seatsTogether_19 ?_
    refine lv_iload_n hx hb dX1_seatsTogether_22 rfl (lv_at hl 0 rfl) ?_
    refine va_iald hx hb hK hP 1 0 rfl rfl (by unfold vp_in; decide) dX1_seatsTogether_23 ?_
    refine lv_topi (fun y_23 ey_23 => ?_)
    obtain rfl : y_23 = 0 := ey_23.trans (by rfl)
    refine lv_iadd hx hb dX1_seatsTogether_24 ?_
    refine lv_topi (fun y_24 ey_24 => ?_)
    obtain rfl : y_24 = 0 := ey_24.trans (by decide)
    refine lv_istore_n (lv' := [(2, .int 0), (3, .int 0), (0, .ref pa), (1, .int st)]) hx hb dX1_seatsTogether_25 rfl hl (by decide) rfl (fun ls hl => ?_)
    exact J_3 _ _ _ ⟨hP.sub (ws' := [(pa, .inr (3, [.ref p_v, .int 0, .ref p_st, .ref p_ib, .ref p_di, .ref p_wa, .ref p_se, .ref p_vh, .ref p_re])), (p_se, .inl (cI, 4, .inl zi))]) [0, 1] rfl, hD.sub (ws' := [(pa, .inr (3, [.ref p_v, .int 0, .ref p_st, .ref p_ib, .ref p_di, .ref p_wa, .ref p_se, .ref p_vh, .ref p_re])), (p_se, .inl (cI, 4, .inl zi))]) [0, 1] (by decide) rfl, hS, lv_sub hl [2, 3, 0, 1] rfl⟩

set_option maxHeartbeats 4000000 in
set_option maxRecDepth 100000 in
theorem c_X1_isRuling (l : Launch) (dC : Nat → ClassId) (dI : Nat → Nat → Nat) (pa : Nat) (p_v : Nat) (p_st : Nat) (p_ib : Nat) (p_di : Nat) (p_wa : Nat) (p_se : Nat) (p_vh : Nat) (p_re : Nat) (st : Int32) (ho : Int32) (cI : ClassId) (sz : Nat) (hh0 : 0 ≤ ho) : Met l yX1_isRuling wsX1_isRuling ({ frames := 3, cells := 0, slots := 0, locals := 70 }) (va_Pc [.ref pa, .int st, .int ho] (pr_ dC dI [(pa, .inr (3, [.ref p_v, .int 0, .ref p_st, .ref p_ib, .ref p_di, .ref p_wa, .ref p_se, .ref p_vh, .ref p_re])), (p_se, .inl (cI, 4, .inl zi))] [(cI, .int)] sz)) (va_Qi (fun (r : Int32) (_ : Unit) => r = 0) (fun (_ : Unit) t => po_ dC dI [(pa, .inr (3, [.ref p_v, .int 0, .ref p_st, .ref p_ib, .ref p_di, .ref p_wa, .ref p_se, .ref p_vh, .ref p_re])), (p_se, .inl (cI, 4, .inl zi))] [(cI, .int)] (va_A [(pa, .inr (3, [.ref p_v, .int 0, .ref p_st, .ref p_ib, .ref p_di, .ref p_wa, .ref p_se, .ref p_vh, .ref p_re])), (p_se, .inl (cI, 4, .inl zi))] sz) t) (va_A [(pa, .inr (3, [.ref p_v, .int 0, .ref p_st, .ref p_ib, .ref p_di, .ref p_wa, .ref p_se, .ref p_vh, .ref p_re])), (p_se, .inl (cI, 4, .inl zi))] sz)) 0 0 (va_A [(pa, .inr (3, [.ref p_v, .int 0, .ref p_st, .ref p_ib, .ref p_di, .ref p_wa, .ref p_se, .ref p_vh, .ref p_re])), (p_se, .inl (cI, 4, .inl zi))] sz) := by
  refine Met.ofW (cc := cX1_isRuling) (maxL := 3) (ret := (some .boolean)) (by decide) rfl ?_
  intro p e s m args below meth c s₁ B hml hv
  obtain ⟨rfl, hsz, hP, hK, hD0⟩ := hv
  have hx := B.exec
  have hb := B.bytes
  have hr := B.returns
  have hts := atoms_spec (ws := wsX1_isRuling) B.pre
  have hown : s.vm.findClass RX1 = some m.cls := findClass_of_methodNamed B.named
  have hlocks := B.notSynchronized
  subst hsz
  have hD := hD0.self (sz := s.heap.size)
  generalize hAe : va_A [(pa, .inr (3, [.ref p_v, .int 0, .ref p_st, .ref p_ib, .ref p_di, .ref p_wa, .ref p_se, .ref p_vh, .ref p_re])), (p_se, .inl (cI, 4, .inl zi))] s.heap.size = A at hD ⊢
  have hA : ∀ q : Nat, s.heap.size ≤ q → A q := fun q h => by rw [← hAe]; exact Or.inr h
  have hS : va_S A s.heap s.heap [] := va_S.rf
  have hP : va_P (dC, dI) vwCl [(pa, .inr (3, [.ref p_v, .int 0, .ref p_st, .ref p_ib, .ref p_di, .ref p_wa, .ref p_se, .ref p_vh, .ref p_re])), (p_se, .inl (cI, 4, .inl zi))] s.heap := hP
  have hK : va_K (dC, dI) vwCl [(cI, .int)] s := hK
  have hl := lv_entry ([.ref pa, .int st, .int ho]) (n := 3) (Nat.le_of_ble_eq_true rfl)
  rw [lg_entry_eq]
  generalize (lg_sl ([.ref pa, .int st, .int ho]) ++ List.replicate (3 - (lg_sl ([.ref pa, .int st, .int ho])).length) Slot.unset).toArray = ls at hl ⊢
  have hl : lv_has ls 3 [(0, .ref pa), (1, .int st), (2, .int ho)] := hl
  refine lv_iconst (v := 2) hx hb dX1_isRuling_0 (by decide) ?_
  refine lv_aload_n hx hb dX1_isRuling_1 rfl (lv_at hl 0 rfl) ?_
  refine lv_iload_n hx hb dX1_isRuling_2 rfl (lv_at hl 1 rfl) ?_
  have hPc := hP.sub (ws' := [(pa, .inr (3, [.ref p_v, .int 0, .ref p_st, .ref p_ib, .ref p_di, .ref p_wa, .ref p_se, .ref p_vh, .ref p_re])), (p_se, .inl (cI, 4, .inl zi))]) [0, 1] rfl
  have hDc := hD.sub (ws' := [(pa, .inr (3, [.ref p_v, .int 0, .ref p_st, .ref p_ib, .ref p_di, .ref p_wa, .ref p_se, .ref p_vh, .ref p_re])), (p_se, .inl (cI, 4, .inl zi))]) [0, 1] (by decide) rfl
  have hKc := hK.sub (tys' := [(cI, .int)]) [0] rfl
  have hFc := va_free (wc := [(pa, .inr (3, [.ref p_v, .int 0, .ref p_st, .ref p_ib, .ref p_di, .ref p_wa, .ref p_se, .ref p_vh, .ref p_re])), (p_se, .inl (cI, 4, .inl zi))]) hD hS hA [0, 1] rfl
  refine va_calli (va_runV (As := [.int st]) (rest := [.int 2]) ⟨hx, hb, hml, hown, hts⟩ (c_X1_seatsTogether l dC dI pa p_v p_st p_ib p_di p_wa p_se p_vh p_re st cI _ ) (cwV 1 hts gX1_isRuling_X1_seatsTogether rfl rfl rfl (by decide +kernel) ⟨Nat.le_of_ble_eq_true rfl, Nat.le_of_ble_eq_true rfl⟩) ⟨pr_blind, va_recv hKc hPc (ci := 3) (q0 := 0) rfl rfl, fun U hU hW => ⟨rfl, pr_mk hU hW hPc hKc hDc⟩⟩ rfl rfl hl.1 rfl (lv_room (Nat.le_of_ble_eq_true rfl)) dX1_isRuling_3 ⟨Nat.le_of_ble_eq_true rfl, Nat.le_of_ble_eq_true rfl⟩) hS (fun q _ h => hFc q h) hFc (fun r_2 u_1 t H1 locs ht hvm hw hB hz1 hk1 hS => ?_)
  obtain ⟨hP1, hK1, hD1⟩ := hB
  rw [ht] at hP1
  obtain ⟨hP, hD⟩ := va_join (wr := []) (w1 := [(pa, .inr (3, [.ref p_v, .int 0, .ref p_st, .ref p_ib, .ref p_di, .ref p_wa, .ref p_se, .ref p_vh, .ref p_re])), (p_se, .inl (cI, 4, .inl zi))]) hP hD [0, 1] [] rfl rfl (by decide) (by decide) hk1 hFc hP1 hD1
  generalize H1 = H at hP hS ⊢
  have hP : va_P (dC, dI) vwCl [(pa, .inr (3, [.ref p_v, .int 0, .ref p_st, .ref p_ib, .ref p_di, .ref p_wa, .ref p_se, .ref p_vh, .ref p_re])), (p_se, .inl (cI, 4, .inl zi))] H := hP
  have hD : va_D A [(pa, .inr (3, [.ref p_v, .int 0, .ref p_st, .ref p_ib, .ref p_di, .ref p_wa, .ref p_se, .ref p_vh, .ref p_re])), (p_se, .inl (cI, 4, .inl zi))] := hD
  refine W.widen (k := 0) (n := 0) (Nat.le_refl _) (Nat.le_refl _) ?_
  have hw : r_2 = 0 := hw
  subst hw
  refine lv_imul hx hb dX1_isRuling_6 ?_
  refine lv_topi (fun y_3 ey_3 => ?_)
  obtain rfl : y_3 = 0 := ey_3.trans (by decide)
  refine lv_iload_n hx hb dX1_isRuling_7 rfl (lv_at hl 2 rfl) ?_
  refine lv_icmp_le (tgt := 15) hx hb dX1_isRuling_8 (by decide) (fun _ => ?_) (fun h9 => (h9 hh0).elim)
  refine lv_iconst (v := 0) hx hb dX1_isRuling_15 (by decide) ?_
  have hP9 := hP.sub (ws' := [(pa, .inr (3, [.ref p_v, .int 0, .ref p_st, .ref p_ib, .ref p_di, .ref p_wa, .ref p_se, .ref p_vh, .ref p_re])), (p_se, .inl (cI, 4, .inl zi))]) [0, 1] rfl
  have hD9 := hD.sub (ws' := [(pa, .inr (3, [.ref p_v, .int 0, .ref p_st, .ref p_ib, .ref p_di, .ref p_wa, .ref p_se, .ref p_vh, .ref p_re])), (p_se, .inl (cI, 4, .inl zi))]) [0, 1] (by decide) rfl
  have hK9 := hK.sub (tys' := [(cI, .int)]) [0] rfl
  refine W.widen (k := 0) (n := 0) (Nat.le_of_ble_eq_true rfl) (Nat.le_of_ble_eq_true rfl) ?_
  exact W.zret (v := 0) hx hb hr rfl (fun t ht hW => ⟨⟨0, (), rfl, rfl, po_mk ht hW hP9 hK9 hD9⟩, hS.F ht⟩) hS.2.2 dX1_isRuling_16

set_option maxHeartbeats 4000000 in
set_option maxRecDepth 100000 in
theorem c_X1_swingsOf (l : Launch) (dC : Nat → ClassId) (dI : Nat → Nat → Nat) (pa : Nat) (p_v : Nat) (p_st : Nat) (p_ib : Nat) (p_di : Nat) (p_wa : Nat) (p_se : Nat) (p_vh : Nat) (p_re : Nat) (par : Int32) (ho : Int32) (cI : ClassId) (sz : Nat) (hh0 : 0 ≤ ho) : Met l yX1_swingsOf wsX1_swingsOf ({ frames := 4, cells := 0, slots := 0, locals := 110 }) (va_Pc [.ref pa, .int par, .int ho] (pr_ dC dI [(pa, .inr (3, [.ref p_v, .int 0, .ref p_st, .ref p_ib, .ref p_di, .ref p_wa, .ref p_se, .ref p_vh, .ref p_re])), (p_se, .inl (cI, 4, .inl zi))] [(cI, .int)] sz)) (va_Qi (fun (r : Int32) (_ : Unit) => r = 0) (fun (_ : Unit) t => po_ dC dI [(pa, .inr (3, [.ref p_v, .int 0, .ref p_st, .ref p_ib, .ref p_di, .ref p_wa, .ref p_se, .ref p_vh, .ref p_re])), (p_se, .inl (cI, 4, .inl zi))] [(cI, .int)] (va_A [(pa, .inr (3, [.ref p_v, .int 0, .ref p_st, .ref p_ib, .ref p_di, .ref p_wa, .ref p_se, .ref p_vh, .ref p_re])), (p_se, .inl (cI, 4, .inl zi))] sz) t) (va_A [(pa, .inr (3, [.ref p_v, .int 0, .ref p_st, .ref p_ib, .ref p_di, .ref p_wa, .ref p_se, .ref p_vh, .ref p_re])), (p_se, .inl (cI, 4, .inl zi))] sz)) 0 0 (va_A [(pa, .inr (3, [.ref p_v, .int 0, .ref p_st, .ref p_ib, .ref p_di, .ref p_wa, .ref p_se, .ref p_vh, .ref p_re])), (p_se, .inl (cI, 4, .inl zi))] sz) := by
  refine Met.ofW (cc := cX1_swingsOf) (maxL := 6) (ret := (some .int)) (by decide) rfl ?_
  intro p e s m args below meth c s₁ B hml hv
  obtain ⟨rfl, hsz, hP, hK, hD0⟩ := hv
  have hx := B.exec
  have hb := B.bytes
  have hr := B.returns
  have hts := atoms_spec (ws := wsX1_swingsOf) B.pre
  have hown : s.vm.findClass RX1 = some m.cls := findClass_of_methodNamed B.named
  have hlocks := B.notSynchronized
  subst hsz
  have hD := hD0.self (sz := s.heap.size)
  generalize hAe : va_A [(pa, .inr (3, [.ref p_v, .int 0, .ref p_st, .ref p_ib, .ref p_di, .ref p_wa, .ref p_se, .ref p_vh, .ref p_re])), (p_se, .inl (cI, 4, .inl zi))] s.heap.size = A at hD ⊢
  have hA : ∀ q : Nat, s.heap.size ≤ q → A q := fun q h => by rw [← hAe]; exact Or.inr h
  have hS : va_S A s.heap s.heap [] := va_S.rf
  have hP : va_P (dC, dI) vwCl [(pa, .inr (3, [.ref p_v, .int 0, .ref p_st, .ref p_ib, .ref p_di, .ref p_wa, .ref p_se, .ref p_vh, .ref p_re])), (p_se, .inl (cI, 4, .inl zi))] s.heap := hP
  have hK : va_K (dC, dI) vwCl [(cI, .int)] s := hK
  have hl := lv_entry ([.ref pa, .int par, .int ho]) (n := 6) (Nat.le_of_ble_eq_true rfl)
  rw [lg_entry_eq]
  generalize (lg_sl ([.ref pa, .int par, .int ho]) ++ List.replicate (6 - (lg_sl ([.ref pa, .int par, .int ho])).length) Slot.unset).toArray = ls at hl ⊢
  have hl : lv_has ls 6 [(0, .ref pa), (1, .int par), (2, .int ho)] := hl
  refine lv_iconst (v := 1) hx hb dX1_swingsOf_0 (by decide) ?_
  refine lv_iload_n hx hb dX1_swingsOf_1 rfl (lv_at hl 1 rfl) ?_
  refine lv_ishl hx hb dX1_swingsOf_2 ?_
  refine lv_topi (fun y_1 ey_1 => ?_)
  refine lv_istore_n (lv' := [(3, .int y_1), (0, .ref pa), (1, .int par), (2, .int ho)]) hx hb dX1_swingsOf_3 rfl hl (by decide) rfl (fun ls hl => ?_)
  refine lv_iconst (v := 0) hx hb dX1_swingsOf_4 (by decide) ?_
  refine lv_istore (lv' := [(4, .int 0), (3, .int y_1), (0, .ref pa), (1, .int par), (2, .int ho)]) hx hb dX1_swingsOf_5 hl (by decide) rfl (fun ls hl => ?_)
  refine lv_iconst (v := 0) hx hb dX1_swingsOf_7 (by decide) ?_
  refine lv_istore (lv' := [(5, .int 0), (4, .int 0), (3, .int y_1), (0, .ref pa), (1, .int par), (2, .int ho)]) hx hb dX1_swingsOf_8 hl (by decide) rfl (fun ls hl => ?_)
  refine w_loop (pcH := 10) 16 (fun _ => 0) (fun _ => 0) (fun k H locs ls => va_P (dC, dI) vwCl [(pa, .inr (3, [.ref p_v, .int 0, .ref p_st, .ref p_ib, .ref p_di, .ref p_wa, .ref p_se, .ref p_vh, .ref p_re])), (p_se, .inl (cI, 4, .inl zi))] H ∧ va_D A [(pa, .inr (3, [.ref p_v, .int 0, .ref p_st, .ref p_ib, .ref p_di, .ref p_wa, .ref p_se, .ref p_vh, .ref p_re])), (p_se, .inl (cI, 4, .inl zi))] ∧ va_S A s.heap H locs ∧ lv_has ls 6 [(5, .int (nI k)), (0, .ref pa), (1, .int par), (2, .int ho), (3, .int y_1), (4, .int 0)]) ?_ ?_ 0 (by decide) _ _ _ ⟨hP, hD, hS, lv_sub hl [0, 3, 4, 5, 2, 1] rfl⟩
  · intro k_2 hk_2 IH_3 H locs ls ⟨hP, hD, hS, hl⟩
    refine lv_iload hx hb dX1_swingsOf_10 (lv_at hl 0 rfl) ?_
    refine lv_bipush (v := 16) hx hb dX1_swingsOf_12 (by decide) ?_
    refine lv_icmp_ge (tgt := 55) hx hb dX1_swingsOf_14 (by decide) (fun h9 => ((nI_ge (b := 16) hk_2 (by decide)) h9).elim) (fun _ => ?_)
    refine lv_iload hx hb dX1_swingsOf_17 (lv_at hl 0 rfl) ?_
    refine lv_iload_n hx hb dX1_swingsOf_19 rfl (lv_at hl 4 rfl) ?_
    refine lv_iand hx hb dX1_swingsOf_20 ?_
    refine lv_topi (fun y_4 ey_4 => ?_)
    refine w_join (pcJ := 49) (st := []) (fun H locs ls => va_P (dC, dI) vwCl [(pa, .inr (3, [.ref p_v, .int 0, .ref p_st, .ref p_ib, .ref p_di, .ref p_wa, .ref p_se, .ref p_vh, .ref p_re])), (p_se, .inl (cI, 4, .inl zi))] H ∧ va_D A [(pa, .inr (3, [.ref p_v, .int 0, .ref p_st, .ref p_ib, .ref p_di, .ref p_wa, .ref p_se, .ref p_vh, .ref p_re])), (p_se, .inl (cI, 4, .inl zi))] ∧ va_S A s.heap H locs ∧ lv_has ls 6 [(0, .ref pa), (1, .int par), (2, .int ho), (3, .int y_1), (4, .int 0), (5, .int (nI k_2))]) ?_ (fun J_5 => ?_)
    · intro H locs ls ⟨hP, hD, hS, hl⟩
      refine lv_iinc (k := 5) (v := nI (k_2 + 1)) (lv' := [(5, .int (nI (k_2 + 1))), (0, .ref pa), (1, .int par), (2, .int ho), (3, .int y_1), (4, .int 0)]) hx hb dX1_swingsOf_49 hl rfl (nI_succ1 _) (by decide) rfl (fun ls hl => ?_)
      refine lv_goto (tgt := 10) hx hb dX1_swingsOf_52 (by decide) ?_
      exact IH_3 _ _ _ ⟨hP.sub (ws' := [(pa, .inr (3, [.ref p_v, .int 0, .ref p_st, .ref p_ib, .ref p_di, .ref p_wa, .ref p_se, .ref p_vh, .ref p_re])), (p_se, .inl (cI, 4, .inl zi))]) [0, 1] rfl, hD.sub (ws' := [(pa, .inr (3, [.ref p_v, .int 0, .ref p_st, .ref p_ib, .ref p_di, .ref p_wa, .ref p_se, .ref p_vh, .ref p_re])), (p_se, .inl (cI, 4, .inl zi))]) [0, 1] (by decide) rfl, hS, lv_sub hl [0, 1, 2, 3, 4, 5] rfl⟩
    refine lv_if_ne (tgt := 49) hx hb dX1_swingsOf_21 (by decide) (fun hc_6 => ?_) (fun hc_6 => ?_)
    · exact J_5 _ _ _ ⟨hP.sub (ws' := [(pa, .inr (3, [.ref p_v, .int 0, .ref p_st, .ref p_ib, .ref p_di, .ref p_wa, .ref p_se, .ref p_vh, .ref p_re])), (p_se, .inl (cI, 4, .inl zi))]) [0, 1] rfl, hD.sub (ws' := [(pa, .inr (3, [.ref p_v, .int 0, .ref p_st, .ref p_ib, .ref p_di, .ref p_wa, .ref p_se, .ref p_vh, .ref p_re])), (p_se, .inl (cI, 4, .inl zi))]) [0, 1] (by decide) rfl, hS, lv_sub hl [1, 2, 3, 4, 5, 0] rfl⟩
    · refine lv_aload_n hx hb dX1_swingsOf_24 rfl (lv_at hl 1 rfl) ?_
      refine lv_iload hx hb dX1_swingsOf_25 (lv_at hl 0 rfl) ?_
      refine lv_iload_n hx hb dX1_swingsOf_27 rfl (lv_at hl 3 rfl) ?_
      have hPc := hP.sub (ws' := [(pa, .inr (3, [.ref p_v, .int 0, .ref p_st, .ref p_ib, .ref p_di, .ref p_wa, .ref p_se, .ref p_vh, .ref p_re])), (p_se, .inl (cI, 4, .inl zi))]) [0, 1] rfl
      have hDc := hD.sub (ws' := [(pa, .inr (3, [.ref p_v, .int 0, .ref p_st, .ref p_ib, .ref p_di, .ref p_wa, .ref p_se, .ref p_vh, .ref p_re])), (p_se, .inl (cI, 4, .inl zi))]) [0, 1] (by decide) rfl
      have hKc := hK.sub (tys' := [(cI, .int)]) [0] rfl
      have hFc := va_free (wc := [(pa, .inr (3, [.ref p_v, .int 0, .ref p_st, .ref p_ib, .ref p_di, .ref p_wa, .ref p_se, .ref p_vh, .ref p_re])), (p_se, .inl (cI, 4, .inl zi))]) hD hS hA [0, 1] rfl
      refine va_calli (va_runV (As := [.int (nI k_2), .int ho]) (rest := []) ⟨hx, hb, hml, hown, hts⟩ (c_X1_isRuling l dC dI pa p_v p_st p_ib p_di p_wa p_se p_vh p_re (nI k_2) ho cI _ hh0) (cwV 2 hts gX1_swingsOf_X1_isRuling rfl rfl rfl (by decide +kernel) ⟨Nat.le_of_ble_eq_true rfl, Nat.le_of_ble_eq_true rfl⟩) ⟨pr_blind, va_recv hKc hPc (ci := 3) (q0 := 0) rfl rfl, fun U hU hW => ⟨rfl, pr_mk hU hW hPc hKc hDc⟩⟩ rfl rfl hl.1 rfl (lv_room (Nat.le_of_ble_eq_true rfl)) dX1_swingsOf_28 ⟨Nat.le_of_ble_eq_true rfl, Nat.le_of_ble_eq_true rfl⟩) hS (fun q _ h => hFc q h) hFc (fun r_8 u_7 t H1 locs ht hvm hw hB hz1 hk1 hS => ?_)
      obtain ⟨hP1, hK1, hD1⟩ := hB
      rw [ht] at hP1
      obtain ⟨hP, hD⟩ := va_join (wr := []) (w1 := [(pa, .inr (3, [.ref p_v, .int 0, .ref p_st, .ref p_ib, .ref p_di, .ref p_wa, .ref p_se, .ref p_vh, .ref p_re])), (p_se, .inl (cI, 4, .inl zi))]) hP hD [0, 1] [] rfl rfl (by decide) (by decide) hk1 hFc hP1 hD1
      generalize H1 = H at hP hS ⊢
      have hP : va_P (dC, dI) vwCl [(pa, .inr (3, [.ref p_v, .int 0, .ref p_st, .ref p_ib, .ref p_di, .ref p_wa, .ref p_se, .ref p_vh, .ref p_re])), (p_se, .inl (cI, 4, .inl zi))] H := hP
      have hD : va_D A [(pa, .inr (3, [.ref p_v, .int 0, .ref p_st, .ref p_ib, .ref p_di, .ref p_wa, .ref p_se, .ref p_vh, .ref p_re])), (p_se, .inl (cI, 4, .inl zi))] := hD
      refine W.widen (k := 0) (n := 0) (Nat.le_refl _) (Nat.le_refl _) ?_
      have hw : r_8 = 0 := hw
      subst hw
      refine lv_if_ne (tgt := 49) hx hb dX1_swingsOf_31 (by decide) (fun h9 => absurd h9 (by decide)) (fun _ => ?_)
      refine lv_aload_n hx hb dX1_swingsOf_34 rfl (lv_at hl 1 rfl) ?_
      refine lv_iload hx hb dX1_swingsOf_35 (lv_at hl 0 rfl) ?_
      refine lv_iload_n hx hb dX1_swingsOf_37 rfl (lv_at hl 4 rfl) ?_
      refine lv_ior hx hb dX1_swingsOf_38 ?_
      refine lv_topi (fun y_9 ey_9 => ?_)
      refine lv_iload_n hx hb dX1_swingsOf_39 rfl (lv_at hl 3 rfl) ?_
      have hPc := hP.sub (ws' := [(pa, .inr (3, [.ref p_v, .int 0, .ref p_st, .ref p_ib, .ref p_di, .ref p_wa, .ref p_se, .ref p_vh, .ref p_re])), (p_se, .inl (cI, 4, .inl zi))]) [0, 1] rfl
      have hDc := hD.sub (ws' := [(pa, .inr (3, [.ref p_v, .int 0, .ref p_st, .ref p_ib, .ref p_di, .ref p_wa, .ref p_se, .ref p_vh, .ref p_re])), (p_se, .inl (cI, 4, .inl zi))]) [0, 1] (by decide) rfl
      have hKc := hK.sub (tys' := [(cI, .int)]) [0] rfl
      have hFc := va_free (wc := [(pa, .inr (3, [.ref p_v, .int 0, .ref p_st, .ref p_ib, .ref p_di, .ref p_wa, .ref p_se, .ref p_vh, .ref p_re])), (p_se, .inl (cI, 4, .inl zi))]) hD hS hA [0, 1] rfl
      refine va_calli (va_runV (As := [.int y_9, .int ho]) (rest := []) ⟨hx, hb, hml, hown, hts⟩ (c_X1_isRuling l dC dI pa p_v p_st p_ib p_di p_wa p_se p_vh p_re y_9 ho cI _ hh0) (cwV 2 hts gX1_swingsOf_X1_isRuling rfl rfl rfl (by decide +kernel) ⟨Nat.le_of_ble_eq_true rfl, Nat.le_of_ble_eq_true rfl⟩) ⟨pr_blind, va_recv hKc hPc (ci := 3) (q0 := 0) rfl rfl, fun U hU hW => ⟨rfl, pr_mk hU hW hPc hKc hDc⟩⟩ rfl rfl hl.1 rfl (lv_room (Nat.le_of_ble_eq_true rfl)) dX1_swingsOf_40 ⟨Nat.le_of_ble_eq_true rfl, Nat.le_of_ble_eq_true rfl⟩) hS (fun q _ h => hFc q h) hFc (fun r_11 u_10 t H1 locs ht hvm hw hB hz1 hk1 hS => ?_)
      obtain ⟨hP1, hK1, hD1⟩ := hB
      rw [ht] at hP1
      obtain ⟨hP, hD⟩ := va_join (wr := []) (w1 := [(pa, .inr (3, [.ref p_v, .int 0, .ref p_st, .ref p_ib, .ref p_di, .ref p_wa, .ref p_se, .ref p_vh, .ref p_re])), (p_se, .inl (cI, 4, .inl zi))]) hP hD [0, 1] [] rfl rfl (by decide) (by decide) hk1 hFc hP1 hD1
      generalize H1 = H at hP hS ⊢
      have hP : va_P (dC, dI) vwCl [(pa, .inr (3, [.ref p_v, .int 0, .ref p_st, .ref p_ib, .ref p_di, .ref p_wa, .ref p_se, .ref p_vh, .ref p_re])), (p_se, .inl (cI, 4, .inl zi))] H := hP
      have hD : va_D A [(pa, .inr (3, [.ref p_v, .int 0, .ref p_st, .ref p_ib, .ref p_di, .ref p_wa, .ref p_se, .ref p_vh, .ref p_re])), (p_se, .inl (cI, 4, .inl zi))] := hD
      refine W.widen (k := 0) (n := 0) (Nat.le_refl _) (Nat.le_refl _) ?_
      have hw : r_11 = 0 := hw
      subst hw
      refine lv_if_eq (tgt := 49) hx hb dX1_swingsOf_43 (by decide) (fun _ => ?_) (fun h9 => absurd h9 (by decide))
      exact J_5 _ _ _ ⟨hP.sub (ws' := [(pa, .inr (3, [.ref p_v, .int 0, .ref p_st, .ref p_ib, .ref p_di, .ref p_wa, .ref p_se, .ref p_vh, .ref p_re])), (p_se, .inl (cI, 4, .inl zi))]) [0, 1] rfl, hD.sub (ws' := [(pa, .inr (3, [.ref p_v, .int 0, .ref p_st, .ref p_ib, .ref p_di, .ref p_wa, .ref p_se, .ref p_vh, .ref p_re])), (p_se, .inl (cI, 4, .inl zi))]) [0, 1] (by decide) rfl, hS, lv_sub hl [1, 2, 3, 4, 5, 0] rfl⟩
  · intro H locs ls ⟨hP, hD, hS, hl⟩
    have hl : lv_has ls 6 [(5, .int 16), (0, .ref pa), (1, .int par), (2, .int ho), (3, .int y_1), (4, .int 0)] := hl
    refine lv_iload hx hb dX1_swingsOf_10 (lv_at hl 0 rfl) ?_
    refine lv_bipush (v := 16) hx hb dX1_swingsOf_12 (by decide) ?_
    refine lv_icmp_ge (tgt := 55) hx hb dX1_swingsOf_14 (by decide) (fun _ => ?_) (fun h9 => absurd h9 (by decide))
    refine lv_iload hx hb dX1_swingsOf_55 (lv_at hl 5 rfl) ?_
    have hP9 := hP.sub (ws' := [(pa, .inr (3, [.ref p_v, .int 0, .ref p_st, .ref p_ib, .ref p_di, .ref p_wa, .ref p_se, .ref p_vh, .ref p_re])), (p_se, .inl (cI, 4, .inl zi))]) [0, 1] rfl
    have hD9 := hD.sub (ws' := [(pa, .inr (3, [.ref p_v, .int 0, .ref p_st, .ref p_ib, .ref p_di, .ref p_wa, .ref p_se, .ref p_vh, .ref p_re])), (p_se, .inl (cI, 4, .inl zi))]) [0, 1] (by decide) rfl
    have hK9 := hK.sub (tys' := [(cI, .int)]) [0] rfl
    refine W.widen (k := 0) (n := 0) (Nat.le_of_ble_eq_true rfl) (Nat.le_of_ble_eq_true rfl) ?_
    exact W.iret (v := 0) hx hb hr (fun t ht hW => ⟨⟨0, (), rfl, rfl, po_mk ht hW hP9 hK9 hD9⟩, hS.F ht⟩) hS.2.2 dX1_swingsOf_57

set_option maxHeartbeats 4000000 in
set_option maxRecDepth 100000 in
theorem c_X1_leastRulers (l : Launch) (dC : Nat → ClassId) (dI : Nat → Nat → Nat) (pa : Nat) (p_v : Nat) (p_st : Nat) (p_ib : Nat) (p_di : Nat) (p_wa : Nat) (p_se : Nat) (p_vh : Nat) (p_re : Nat) (ho : Int32) (cI : ClassId) (sz : Nat) (hh0 : 0 ≤ ho) : Met l yX1_leastRulers wsX1_leastRulers ({ frames := 4, cells := 0, slots := 0, locals := 110 }) (va_Pc [.ref pa, .int ho] (pr_ dC dI [(pa, .inr (3, [.ref p_v, .int 0, .ref p_st, .ref p_ib, .ref p_di, .ref p_wa, .ref p_se, .ref p_vh, .ref p_re])), (p_se, .inl (cI, 4, .inl zi))] [(cI, .int)] sz)) (va_Qi (fun (r : Int32) (_ : Unit) => r = 0) (fun (_ : Unit) t => po_ dC dI [(pa, .inr (3, [.ref p_v, .int 0, .ref p_st, .ref p_ib, .ref p_di, .ref p_wa, .ref p_se, .ref p_vh, .ref p_re])), (p_se, .inl (cI, 4, .inl zi))] [(cI, .int)] (va_A [(pa, .inr (3, [.ref p_v, .int 0, .ref p_st, .ref p_ib, .ref p_di, .ref p_wa, .ref p_se, .ref p_vh, .ref p_re])), (p_se, .inl (cI, 4, .inl zi))] sz) t) (va_A [(pa, .inr (3, [.ref p_v, .int 0, .ref p_st, .ref p_ib, .ref p_di, .ref p_wa, .ref p_se, .ref p_vh, .ref p_re])), (p_se, .inl (cI, 4, .inl zi))] sz)) 0 0 (va_A [(pa, .inr (3, [.ref p_v, .int 0, .ref p_st, .ref p_ib, .ref p_di, .ref p_wa, .ref p_se, .ref p_vh, .ref p_re])), (p_se, .inl (cI, 4, .inl zi))] sz) := by
  refine Met.ofW (cc := cX1_leastRulers) (maxL := 4) (ret := (some .int)) (by decide) rfl ?_
  intro p e s m args below meth c s₁ B hml hv
  obtain ⟨rfl, hsz, hP, hK, hD0⟩ := hv
  have hx := B.exec
  have hb := B.bytes
  have hr := B.returns
  have hts := atoms_spec (ws := wsX1_leastRulers) B.pre
  have hown : s.vm.findClass RX1 = some m.cls := findClass_of_methodNamed B.named
  have hlocks := B.notSynchronized
  subst hsz
  have hD := hD0.self (sz := s.heap.size)
  generalize hAe : va_A [(pa, .inr (3, [.ref p_v, .int 0, .ref p_st, .ref p_ib, .ref p_di, .ref p_wa, .ref p_se, .ref p_vh, .ref p_re])), (p_se, .inl (cI, 4, .inl zi))] s.heap.size = A at hD ⊢
  have hA : ∀ q : Nat, s.heap.size ≤ q → A q := fun q h => by rw [← hAe]; exact Or.inr h
  have hS : va_S A s.heap s.heap [] := va_S.rf
  have hP : va_P (dC, dI) vwCl [(pa, .inr (3, [.ref p_v, .int 0, .ref p_st, .ref p_ib, .ref p_di, .ref p_wa, .ref p_se, .ref p_vh, .ref p_re])), (p_se, .inl (cI, 4, .inl zi))] s.heap := hP
  have hK : va_K (dC, dI) vwCl [(cI, .int)] s := hK
  have hl := lv_entry ([.ref pa, .int ho]) (n := 4) (Nat.le_of_ble_eq_true rfl)
  rw [lg_entry_eq]
  generalize (lg_sl ([.ref pa, .int ho]) ++ List.replicate (4 - (lg_sl ([.ref pa, .int ho])).length) Slot.unset).toArray = ls at hl ⊢
  have hl : lv_has ls 4 [(0, .ref pa), (1, .int ho)] := hl
  refine lv_iconst (v := 0) hx hb dX1_leastRulers_0 (by decide) ?_
  refine lv_istore_n (lv' := [(2, .int 0), (0, .ref pa), (1, .int ho)]) hx hb dX1_leastRulers_1 rfl hl (by decide) rfl (fun ls hl => ?_)
  refine lv_iconst (v := 1) hx hb dX1_leastRulers_2 (by decide) ?_
  refine lv_istore_n (lv' := [(3, .int 1), (2, .int 0), (0, .ref pa), (1, .int ho)]) hx hb dX1_leastRulers_3 rfl hl (by decide) rfl (fun ls hl => ?_)
  refine w_loop (pcH := 4) 16 (fun _ => 0) (fun _ => 0) (fun k H locs ls => va_P (dC, dI) vwCl [(pa, .inr (3, [.ref p_v, .int 0, .ref p_st, .ref p_ib, .ref p_di, .ref p_wa, .ref p_se, .ref p_vh, .ref p_re])), (p_se, .inl (cI, 4, .inl zi))] H ∧ va_D A [(pa, .inr (3, [.ref p_v, .int 0, .ref p_st, .ref p_ib, .ref p_di, .ref p_wa, .ref p_se, .ref p_vh, .ref p_re])), (p_se, .inl (cI, 4, .inl zi))] ∧ va_S A s.heap H locs ∧ lv_has ls 4 [(3, .int (nI k)), (0, .ref pa), (1, .int ho), (2, .int 0)]) ?_ ?_ 1 (by decide) _ _ _ ⟨hP, hD, hS, lv_sub hl [0, 2, 3, 1] rfl⟩
  · intro k_1 hk_1 IH_2 H locs ls ⟨hP, hD, hS, hl⟩
    refine lv_iload_n hx hb dX1_leastRulers_4 rfl (lv_at hl 0 rfl) ?_
    refine lv_bipush (v := 16) hx hb dX1_leastRulers_5 (by decide) ?_
    refine lv_icmp_ge (tgt := 40) hx hb dX1_leastRulers_7 (by decide) (fun h9 => ((nI_ge (b := 16) hk_1 (by decide)) h9).elim) (fun _ => ?_)
    refine lv_aload_n hx hb dX1_leastRulers_10 rfl (lv_at hl 1 rfl) ?_
    refine lv_iload_n hx hb dX1_leastRulers_11 rfl (lv_at hl 0 rfl) ?_
    refine lv_iload_n hx hb dX1_leastRulers_12 rfl (lv_at hl 2 rfl) ?_
    have hPc := hP.sub (ws' := [(pa, .inr (3, [.ref p_v, .int 0, .ref p_st, .ref p_ib, .ref p_di, .ref p_wa, .ref p_se, .ref p_vh, .ref p_re])), (p_se, .inl (cI, 4, .inl zi))]) [0, 1] rfl
    have hDc := hD.sub (ws' := [(pa, .inr (3, [.ref p_v, .int 0, .ref p_st, .ref p_ib, .ref p_di, .ref p_wa, .ref p_se, .ref p_vh, .ref p_re])), (p_se, .inl (cI, 4, .inl zi))]) [0, 1] (by decide) rfl
    have hKc := hK.sub (tys' := [(cI, .int)]) [0] rfl
    have hFc := va_free (wc := [(pa, .inr (3, [.ref p_v, .int 0, .ref p_st, .ref p_ib, .ref p_di, .ref p_wa, .ref p_se, .ref p_vh, .ref p_re])), (p_se, .inl (cI, 4, .inl zi))]) hD hS hA [0, 1] rfl
    refine va_calli (va_runV (As := [.int (nI k_1), .int ho]) (rest := []) ⟨hx, hb, hml, hown, hts⟩ (c_X1_isRuling l dC dI pa p_v p_st p_ib p_di p_wa p_se p_vh p_re (nI k_1) ho cI _ hh0) (cwV 2 hts gX1_leastRulers_X1_isRuling rfl rfl rfl (by decide +kernel) ⟨Nat.le_of_ble_eq_true rfl, Nat.le_of_ble_eq_true rfl⟩) ⟨pr_blind, va_recv hKc hPc (ci := 3) (q0 := 0) rfl rfl, fun U hU hW => ⟨rfl, pr_mk hU hW hPc hKc hDc⟩⟩ rfl rfl hl.1 rfl (lv_room (Nat.le_of_ble_eq_true rfl)) dX1_leastRulers_13 ⟨Nat.le_of_ble_eq_true rfl, Nat.le_of_ble_eq_true rfl⟩) hS (fun q _ h => hFc q h) hFc (fun r_4 u_3 t H1 locs ht hvm hw hB hz1 hk1 hS => ?_)
    obtain ⟨hP1, hK1, hD1⟩ := hB
    rw [ht] at hP1
    obtain ⟨hP, hD⟩ := va_join (wr := []) (w1 := [(pa, .inr (3, [.ref p_v, .int 0, .ref p_st, .ref p_ib, .ref p_di, .ref p_wa, .ref p_se, .ref p_vh, .ref p_re])), (p_se, .inl (cI, 4, .inl zi))]) hP hD [0, 1] [] rfl rfl (by decide) (by decide) hk1 hFc hP1 hD1
    generalize H1 = H at hP hS ⊢
    have hP : va_P (dC, dI) vwCl [(pa, .inr (3, [.ref p_v, .int 0, .ref p_st, .ref p_ib, .ref p_di, .ref p_wa, .ref p_se, .ref p_vh, .ref p_re])), (p_se, .inl (cI, 4, .inl zi))] H := hP
    have hD : va_D A [(pa, .inr (3, [.ref p_v, .int 0, .ref p_st, .ref p_ib, .ref p_di, .ref p_wa, .ref p_se, .ref p_vh, .ref p_re])), (p_se, .inl (cI, 4, .inl zi))] := hD
    refine W.widen (k := 0) (n := 0) (Nat.le_refl _) (Nat.le_refl _) ?_
    have hw : r_4 = 0 := hw
    subst hw
    refine lv_if_eq (tgt := 34) hx hb dX1_leastRulers_16 (by decide) (fun _ => ?_) (fun h9 => absurd h9 (by decide))
    refine lv_iinc (k := 0) (v := nI (k_1 + 1)) (lv' := [(3, .int (nI (k_1 + 1))), (0, .ref pa), (1, .int ho), (2, .int 0)]) hx hb dX1_leastRulers_34 hl rfl (nI_succ1 _) (by decide) rfl (fun ls hl => ?_)
    refine lv_goto (tgt := 4) hx hb dX1_leastRulers_37 (by decide) ?_
    exact IH_2 _ _ _ ⟨hP.sub (ws' := [(pa, .inr (3, [.ref p_v, .int 0, .ref p_st, .ref p_ib, .ref p_di, .ref p_wa, .ref p_se, .ref p_vh, .ref p_re])), (p_se, .inl (cI, 4, .inl zi))]) [0, 1] rfl, hD.sub (ws' := [(pa, .inr (3, [.ref p_v, .int 0, .ref p_st, .ref p_ib, .ref p_di, .ref p_wa, .ref p_se, .ref p_vh, .ref p_re])), (p_se, .inl (cI, 4, .inl zi))]) [0, 1] (by decide) rfl, hS, lv_sub hl [0, 1, 2, 3] rfl⟩
  · intro H locs ls ⟨hP, hD, hS, hl⟩
    have hl : lv_has ls 4 [(3, .int 16), (0, .ref pa), (1, .int ho), (2, .int 0)] := hl
    refine lv_iload_n hx hb dX1_leastRulers_4 rfl (lv_at hl 0 rfl) ?_
    refine lv_bipush (v := 16) hx hb dX1_leastRulers_5 (by decide) ?_
    refine lv_icmp_ge (tgt := 40) hx hb dX1_leastRulers_7 (by decide) (fun _ => ?_) (fun h9 => absurd h9 (by decide))
    refine lv_iload_n hx hb dX1_leastRulers_40 rfl (lv_at hl 3 rfl) ?_
    have hP9 := hP.sub (ws' := [(pa, .inr (3, [.ref p_v, .int 0, .ref p_st, .ref p_ib, .ref p_di, .ref p_wa, .ref p_se, .ref p_vh, .ref p_re])), (p_se, .inl (cI, 4, .inl zi))]) [0, 1] rfl
    have hD9 := hD.sub (ws' := [(pa, .inr (3, [.ref p_v, .int 0, .ref p_st, .ref p_ib, .ref p_di, .ref p_wa, .ref p_se, .ref p_vh, .ref p_re])), (p_se, .inl (cI, 4, .inl zi))]) [0, 1] (by decide) rfl
    have hK9 := hK.sub (tys' := [(cI, .int)]) [0] rfl
    refine W.widen (k := 0) (n := 0) (Nat.le_of_ble_eq_true rfl) (Nat.le_of_ble_eq_true rfl) ?_
    exact W.iret (v := 0) hx hb hr (fun t ht hW => ⟨⟨0, (), rfl, rfl, po_mk ht hW hP9 hK9 hD9⟩, hS.F ht⟩) hS.2.2 dX1_leastRulers_41
