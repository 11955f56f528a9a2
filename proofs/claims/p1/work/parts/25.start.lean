set_option maxHeartbeats 8000000 in
set_option maxRecDepth 100000 in
theorem whole_start {p : Program} {e : Env} {s : State} {m : MethodId} {below : List Frame} {meth : Method} {c : Code} (l : Launch) (hflags : l.flags = flags0) {b L : Nat} {xs : Nat → Int32} (hL : L ≤ 5) (C0 : lw_At p s m meth c b L xs) : W p l e room_1 s m #[Value.ref b] below meth c s.heap [] 0 0 (lw_Z below #[Value.ref b] s) (entryFrame m ([Value.ref b] : List Value).toArray 9) := by
  have hfl : l.stackTraces = false := by unfold Launch.stackTraces; rw [hflags]; decide +kernel
  obtain ⟨hx, hb, hr, hml, hown, hts0, hX, hbl, hlocks, hgv⟩ := id C0
  have hts : ∀ w ∈ lw_tbl, w.before #[Value.ref b] s = true := hts0
  have hA : ∀ q : Nat, s.heap.size ≤ q → (fun q : Nat => s.heap.size ≤ q) q := fun _ h => h
  have hbA : ¬ (fun q : Nat => s.heap.size ≤ q) b := Nat.not_le.mpr hbl
  obtain ⟨dz, tc, ad, hLX⟩ := lx_of C0
  obtain ⟨c0, iS0, hKn0⟩ := u_known (C := RJ6) (T := TJ6) (N := 1) (n := 1) hts0 inJ6 (hts0 (.instantiable RJ6 1) (by decide +kernel))
  obtain ⟨c1, iS1, hKn1⟩ := u_known (C := RJx4a65c) (T := TJx4a65c) (N := 3) (n := 3) hts0 inJx4a65c (hts0 (.instantiable RJx4a65c 3) (by decide +kernel))
  obtain ⟨c2, iS2, hKn2⟩ := u_known (C := RX0) (T := TX0) (N := 11) (n := 11) hts0 inX0 (hts0 (.instantiable RX0 11) (by decide +kernel))
  obtain ⟨c3, iS3, hKn3⟩ := u_known (C := RX1) (T := TX1) (N := 9) (n := 9) hts0 inX1 (hts0 (.instantiable RX1 9) (by decide +kernel))
  obtain ⟨c4, iS4, hKn4⟩ := u_known (C := RX2) (T := TX2) (N := 7) (n := 7) hts0 inX2 (hts0 (.instantiable RX2 7) (by decide +kernel))
  obtain ⟨c5, iS5, hKn5⟩ := u_known (C := RX3) (T := TX3) (N := 7) (n := 7) hts0 inX3 (hts0 (.instantiable RX3 7) (by decide +kernel))
  obtain ⟨c6, iS6, hKn6⟩ := u_known (C := RX4) (T := TX4) (N := 3) (n := 3) hts0 inX4 (hts0 (.instantiable RX4 3) (by decide +kernel))
  obtain ⟨c7, iS7, hKn7⟩ := u_known (C := RX5) (T := TX5) (N := 5) (n := 5) hts0 inX5 (hts0 (.instantiable RX5 5) (by decide +kernel))
  obtain ⟨c8, iS8, hKn8⟩ := u_known (C := RX6) (T := TX6) (N := 7) (n := 7) hts0 inX6 (hts0 (.instantiable RX6 7) (by decide +kernel))
  obtain ⟨c9, iS9, hKn9⟩ := u_known (C := RX7) (T := TX7) (N := 4) (n := 4) hts0 inX7 (hts0 (.instantiable RX7 4) (by decide +kernel))
  obtain ⟨c10, iS10, hKn10⟩ := u_known (C := RX8) (T := TX8) (N := 8) (n := 8) hts0 inX8 (hts0 (.instantiable RX8 8) (by decide +kernel))
  obtain ⟨dC, dI, hKc⟩ : ∃ (dC : Nat → ClassId) (dI : Nat → Nat → Nat), ∀ (k : Nat) (q : vw_C), vwCl[k]? = some q → u_Kn s q.1 q.2.1 q.2.2 (dC k) (dI k) := by
    refine ⟨fun k => if k = 0 then c0 else if k = 1 then c1 else if k = 2 then c2 else if k = 3 then c3 else if k = 4 then c4 else if k = 5 then c5 else if k = 6 then c6 else if k = 7 then c7 else if k = 8 then c8 else if k = 9 then c9 else c10, fun k => if k = 0 then iS0 else if k = 1 then iS1 else if k = 2 then iS2 else if k = 3 then iS3 else if k = 4 then iS4 else if k = 5 then iS5 else if k = 6 then iS6 else if k = 7 then iS7 else if k = 8 then iS8 else if k = 9 then iS9 else iS10, ?_⟩
    intro k q hq
    match k, hq with
    | 0, hq => cases hq; exact hKn0
    | 1, hq => cases hq; exact hKn1
    | 2, hq => cases hq; exact hKn2
    | 3, hq => cases hq; exact hKn3
    | 4, hq => cases hq; exact hKn4
    | 5, hq => cases hq; exact hKn5
    | 6, hq => cases hq; exact hKn6
    | 7, hq => cases hq; exact hKn7
    | 8, hq => cases hq; exact hKn8
    | 9, hq => cases hq; exact hKn9
    | 10, hq => cases hq; exact hKn10
    | k + 11, hq => simp [vwCl] at hq
  have hS : va_S (fun q : Nat => s.heap.size ≤ q) s.heap s.heap [] := va_S.rf
  have hK : va_K (dC, dI) vwCl [] s := ⟨hKc, fun k q h => by simp at h⟩
  have hP : va_P (dC, dI) vwCl [] s.heap := va_Pn _
  have hD : va_D (fun q : Nat => s.heap.size ≤ q) [] := va_Dn _
  generalize hAe : (fun q : Nat => s.heap.size ≤ q) = A at hD hS hbA hA hLX
  have hl := lv_entry ([.ref b]) (n := 9) (Nat.le_of_ble_eq_true rfl)
  rw [lg_entry_eq]
  generalize (lg_sl ([.ref b]) ++ List.replicate (9 - (lg_sl ([.ref b])).length) Slot.unset).toArray = ls at hl ⊢
  have hl : lv_has ls 9 [(0, .ref b)] := hl
  have hinX5 : ∀ w ∈ u_ws RX5 TX5 5, w ∈ lw_tbl := inX5
  refine va_new (ci := 7) (fs := [.null, .null, .null, .null, .null]) (C := RX5) (T := TX5) (N := 5) hx hb hts hinX5 tyX5 tyX5_ok hown (hts (.classLink RL 8 RX5) (by decide +kernel)) (hts (.instantiable RX5 5) (by decide +kernel)) (hts (.initialized RX5) (by decide +kernel)) hK hP hD hS hA rfl (by intro j hj; match j, hj with | 0, _ => rfl | 1, _ => rfl | 2, _ => rfl | 3, _ => rfl | 4, _ => rfl) (Nat.le_of_ble_eq_true rfl) (Nat.le_of_ble_eq_true rfl) dL_law_0 (fun q_1 H hP hD hS => ?_)
  have hP : va_P (dC, dI) vwCl [(q_1, .inr (7, [.null, .null, .null, .null, .null]))] H := hP
  have hD : va_D A [(q_1, .inr (7, [.null, .null, .null, .null, .null]))] := hD
  refine W.widen (k := 1) (n := 5) (Nat.le_of_ble_eq_true rfl) (Nat.le_of_ble_eq_true rfl) ?_
  refine lv_dup hx hb dL_law_3 rfl ?_
  have hPc := hP.sub (ws' := [(q_1, .inr (7, [.null, .null, .null, .null, .null]))]) [0] rfl
  have hDc := hD.sub (ws' := [(q_1, .inr (7, [.null, .null, .null, .null, .null]))]) [0] (by decide) rfl
  have hKc := hK.sub (tys' := []) [] rfl
  have hFc := va_free (wc := [(q_1, .inr (7, [.null, .null, .null, .null, .null]))]) hD hS hA [0] rfl
  refine va_callv (va_runI (As := []) (rest := [.ref q_1]) ⟨hx, hb, hml, hown, hts⟩ (c_X5_init l dC dI q_1 _ ) (cwI 0 hts gL_law_X5_init rfl rfl rfl (hts (.initialized RX5) (by decide +kernel)) (hts (.methodLink RL 96 yX5_init) (by decide +kernel)) (hts (.instanceMethod yX5_init) (by decide +kernel)) rfl (by decide +kernel) ⟨Nat.le_of_ble_eq_true rfl, Nat.le_of_ble_eq_true rfl⟩) ⟨pe_blind ao_bl, fun U hU hW => ⟨rfl, pr_mk hU hW hPc hKc hDc, ao_mk hW (lx_a hLX)⟩⟩ rfl rfl hl.1 rfl (lv_room (Nat.le_of_ble_eq_true rfl)) dL_law_4 ⟨Nat.le_of_ble_eq_true rfl, Nat.le_of_ble_eq_true rfl⟩) hS (fun q _ h => hFc q h) hFc (fun u_2 t H1 locs ht hvm hw hB hz1 hk1 hS => ?_)
  obtain ⟨q_4, q_5, q_6, q_7, q_8, q_9, q_10, q_11, q_12, q_13, q_14, q_15, q_16, q_17, q_18, q_19, q_20, q_21, q_22⟩ := u_2
  obtain ⟨hP1, hK1, hD1⟩ := hB
  rw [ht] at hP1
  obtain ⟨hP, hD⟩ := va_join (wr := []) (w1 := [(q_1, .inr (7, [.ref q_4, .ref q_5, .ref q_6, .ref q_7, .ref q_8])), (q_4, .inr (2, [.ref q_9, .ref q_10, .int 0, .int 0, .ref q_11, .int 0, .ref q_12, .int 0, .int 0, .int 0, .int 0])), (q_7, .inr (3, [.ref q_13, .int 0, .ref q_14, .ref q_15, .ref q_16, .ref q_17, .ref q_18, .ref q_19, .ref q_20])), (q_9, .inl (q_21, 6, .inl zi)), (q_10, .inl (q_22, 6, .inl zi)), (q_11, .inl (q_21, 4, .inl zi)), (q_13, .inl (q_21, 4, .inl zi)), (q_14, .inl (q_21, 4, .inl zi)), (q_15, .inl (q_22, 4, .inl zi)), (q_16, .inl (q_21, 4, .inl zi)), (q_17, .inl (q_21, 4, .inl zi)), (q_18, .inl (q_21, 4, .inl zi))]) hP hD [0] [] rfl rfl (by decide) (by decide) hk1 hFc hP1 hD1
  have hK := hK.app (va_K.moved hvm.symm hK1)
  have hK : va_K (dC, dI) vwCl [(q_21, .int), (q_22, .boolean)] s := hK
  generalize H1 = H at hP hS ⊢
  have hP : va_P (dC, dI) vwCl [(q_1, .inr (7, [.ref q_4, .ref q_5, .ref q_6, .ref q_7, .ref q_8])), (q_4, .inr (2, [.ref q_9, .ref q_10, .int 0, .int 0, .ref q_11, .int 0, .ref q_12, .int 0, .int 0, .int 0, .int 0])), (q_7, .inr (3, [.ref q_13, .int 0, .ref q_14, .ref q_15, .ref q_16, .ref q_17, .ref q_18, .ref q_19, .ref q_20])), (q_9, .inl (q_21, 6, .inl zi)), (q_10, .inl (q_22, 6, .inl zi)), (q_11, .inl (q_21, 4, .inl zi)), (q_13, .inl (q_21, 4, .inl zi)), (q_14, .inl (q_21, 4, .inl zi)), (q_15, .inl (q_22, 4, .inl zi)), (q_16, .inl (q_21, 4, .inl zi)), (q_17, .inl (q_21, 4, .inl zi)), (q_18, .inl (q_21, 4, .inl zi))] H := hP
  have hD : va_D A [(q_1, .inr (7, [.ref q_4, .ref q_5, .ref q_6, .ref q_7, .ref q_8])), (q_4, .inr (2, [.ref q_9, .ref q_10, .int 0, .int 0, .ref q_11, .int 0, .ref q_12, .int 0, .int 0, .int 0, .int 0])), (q_7, .inr (3, [.ref q_13, .int 0, .ref q_14, .ref q_15, .ref q_16, .ref q_17, .ref q_18, .ref q_19, .ref q_20])), (q_9, .inl (q_21, 6, .inl zi)), (q_10, .inl (q_22, 6, .inl zi)), (q_11, .inl (q_21, 4, .inl zi)), (q_13, .inl (q_21, 4, .inl zi)), (q_14, .inl (q_21, 4, .inl zi)), (q_15, .inl (q_22, 4, .inl zi)), (q_16, .inl (q_21, 4, .inl zi)), (q_17, .inl (q_21, 4, .inl zi)), (q_18, .inl (q_21, 4, .inl zi))] := hD
  refine W.widen (k := 111) (n := 725) (Nat.le_of_ble_eq_true rfl) (Nat.le_of_ble_eq_true rfl) ?_
  refine lv_astore_n (lv' := [(1, .ref q_1), (0, .ref b)]) hx hb dL_law_7 rfl hl (by decide) rfl (fun ls hl => ?_)
  have hinX8 : ∀ w ∈ u_ws RX8 TX8 8, w ∈ lw_tbl := inX8
  refine va_new (ci := 10) (fs := [.int 0, .null, .null, .null, .null, .int 0, .int 0, .int 0]) (C := RX8) (T := TX8) (N := 8) hx hb hts hinX8 tyX8 tyX8_ok hown (hts (.classLink RL 97 RX8) (by decide +kernel)) (hts (.instantiable RX8 8) (by decide +kernel)) (hts (.initialized RX8) (by decide +kernel)) hK hP hD hS hA rfl (by intro j hj; match j, hj with | 0, _ => rfl | 1, _ => rfl | 2, _ => rfl | 3, _ => rfl | 4, _ => rfl | 5, _ => rfl | 6, _ => rfl | 7, _ => rfl) (Nat.le_of_ble_eq_true rfl) (Nat.le_of_ble_eq_true rfl) dL_law_8 (fun q_23 H hP hD hS => ?_)
  have hP : va_P (dC, dI) vwCl [(q_1, .inr (7, [.ref q_4, .ref q_5, .ref q_6, .ref q_7, .ref q_8])), (q_4, .inr (2, [.ref q_9, .ref q_10, .int 0, .int 0, .ref q_11, .int 0, .ref q_12, .int 0, .int 0, .int 0, .int 0])), (q_7, .inr (3, [.ref q_13, .int 0, .ref q_14, .ref q_15, .ref q_16, .ref q_17, .ref q_18, .ref q_19, .ref q_20])), (q_9, .inl (q_21, 6, .inl zi)), (q_10, .inl (q_22, 6, .inl zi)), (q_11, .inl (q_21, 4, .inl zi)), (q_13, .inl (q_21, 4, .inl zi)), (q_14, .inl (q_21, 4, .inl zi)), (q_15, .inl (q_22, 4, .inl zi)), (q_16, .inl (q_21, 4, .inl zi)), (q_17, .inl (q_21, 4, .inl zi)), (q_18, .inl (q_21, 4, .inl zi)), (q_23, .inr (10, [.int 0, .null, .null, .null, .null, .int 0, .int 0, .int 0]))] H := hP
  have hD : va_D A [(q_1, .inr (7, [.ref q_4, .ref q_5, .ref q_6, .ref q_7, .ref q_8])), (q_4, .inr (2, [.ref q_9, .ref q_10, .int 0, .int 0, .ref q_11, .int 0, .ref q_12, .int 0, .int 0, .int 0, .int 0])), (q_7, .inr (3, [.ref q_13, .int 0, .ref q_14, .ref q_15, .ref q_16, .ref q_17, .ref q_18, .ref q_19, .ref q_20])), (q_9, .inl (q_21, 6, .inl zi)), (q_10, .inl (q_22, 6, .inl zi)), (q_11, .inl (q_21, 4, .inl zi)), (q_13, .inl (q_21, 4, .inl zi)), (q_14, .inl (q_21, 4, .inl zi)), (q_15, .inl (q_22, 4, .inl zi)), (q_16, .inl (q_21, 4, .inl zi)), (q_17, .inl (q_21, 4, .inl zi)), (q_18, .inl (q_21, 4, .inl zi)), (q_23, .inr (10, [.int 0, .null, .null, .null, .null, .int 0, .int 0, .int 0]))] := hD
  refine W.widen (k := 112) (n := 733) (Nat.le_of_ble_eq_true rfl) (Nat.le_of_ble_eq_true rfl) ?_
  refine lv_dup hx hb dL_law_11 rfl ?_
  have hPc := hP.sub (ws' := [(q_23, .inr (10, [.int 0, .null, .null, .null, .null, .int 0, .int 0, .int 0]))]) [12] rfl
  have hDc := hD.sub (ws' := [(q_23, .inr (10, [.int 0, .null, .null, .null, .null, .int 0, .int 0, .int 0]))]) [12] (by decide) rfl
  have hKc := hK.sub (tys' := []) [] rfl
  have hFc := va_free (wc := [(q_23, .inr (10, [.int 0, .null, .null, .null, .null, .int 0, .int 0, .int 0]))]) hD hS hA [12] rfl
  refine va_callv (va_runI (As := []) (rest := [.ref q_23]) ⟨hx, hb, hml, hown, hts⟩ (c_X8_init l dC dI q_23 dz _ ) (cwI 0 hts gL_law_X8_init rfl rfl rfl (hts (.initialized RX8) (by decide +kernel)) (hts (.methodLink RL 99 yX8_init) (by decide +kernel)) (hts (.instanceMethod yX8_init) (by decide +kernel)) rfl (by decide +kernel) ⟨Nat.le_of_ble_eq_true rfl, Nat.le_of_ble_eq_true rfl⟩) ⟨pe_blind em_bl, fun U hU hW => ⟨rfl, pr_mk hU hW hPc hKc hDc, em_mk hU hW hS hFc (ca_em (lx_c hLX))⟩⟩ rfl rfl hl.1 rfl (lv_room (Nat.le_of_ble_eq_true rfl)) dL_law_12 ⟨Nat.le_of_ble_eq_true rfl, Nat.le_of_ble_eq_true rfl⟩) hS (fun q _ h => hFc q h) hFc (fun u_24 t H1 locs ht hvm hw hB hz1 hk1 hS => ?_)
  obtain ⟨q_26, q_27, q_28, q_29⟩ := u_24
  obtain ⟨hP1, hK1, hD1⟩ := hB
  rw [ht] at hP1
  obtain ⟨hP, hD⟩ := va_join (wr := [(q_1, .inr (7, [.ref q_4, .ref q_5, .ref q_6, .ref q_7, .ref q_8])), (q_4, .inr (2, [.ref q_9, .ref q_10, .int 0, .int 0, .ref q_11, .int 0, .ref q_12, .int 0, .int 0, .int 0, .int 0])), (q_7, .inr (3, [.ref q_13, .int 0, .ref q_14, .ref q_15, .ref q_16, .ref q_17, .ref q_18, .ref q_19, .ref q_20])), (q_9, .inl (q_21, 6, .inl zi)), (q_10, .inl (q_22, 6, .inl zi)), (q_11, .inl (q_21, 4, .inl zi)), (q_13, .inl (q_21, 4, .inl zi)), (q_14, .inl (q_21, 4, .inl zi)), (q_15, .inl (q_22, 4, .inl zi)), (q_16, .inl (q_21, 4, .inl zi)), (q_17, .inl (q_21, 4, .inl zi)), (q_18, .inl (q_21, 4, .inl zi))]) (w1 := [(q_23, .inr (10, [.int 0, .ref q_26, .ref q_27, .ref q_28, .ref q_29, .int 0, .int 0, .int 0])), (q_26, .inr (1, [.int 0, .ref dz, .int 0])), (q_28, .inr (1, [.int 0, .ref dz, .int 0])), (q_29, .inr (1, [.int 0, .ref dz, .int 0]))]) hP hD [12] [0, 1, 2, 3, 4, 5, 6, 7, 8, 9, 10, 11] rfl rfl (by decide) (by decide) hk1 hFc hP1 hD1
  generalize H1 = H at hP hS ⊢
  have hP : va_P (dC, dI) vwCl [(q_1, .inr (7, [.ref q_4, .ref q_5, .ref q_6, .ref q_7, .ref q_8])), (q_4, .inr (2, [.ref q_9, .ref q_10, .int 0, .int 0, .ref q_11, .int 0, .ref q_12, .int 0, .int 0, .int 0, .int 0])), (q_7, .inr (3, [.ref q_13, .int 0, .ref q_14, .ref q_15, .ref q_16, .ref q_17, .ref q_18, .ref q_19, .ref q_20])), (q_9, .inl (q_21, 6, .inl zi)), (q_10, .inl (q_22, 6, .inl zi)), (q_11, .inl (q_21, 4, .inl zi)), (q_13, .inl (q_21, 4, .inl zi)), (q_14, .inl (q_21, 4, .inl zi)), (q_15, .inl (q_22, 4, .inl zi)), (q_16, .inl (q_21, 4, .inl zi)), (q_17, .inl (q_21, 4, .inl zi)), (q_18, .inl (q_21, 4, .inl zi)), (q_23, .inr (10, [.int 0, .ref q_26, .ref q_27, .ref q_28, .ref q_29, .int 0, .int 0, .int 0])), (q_26, .inr (1, [.int 0, .ref dz, .int 0])), (q_28, .inr (1, [.int 0, .ref dz, .int 0])), (q_29, .inr (1, [.int 0, .ref dz, .int 0]))] H := hP
  have hD : va_D A [(q_1, .inr (7, [.ref q_4, .ref q_5, .ref q_6, .ref q_7, .ref q_8])), (q_4, .inr (2, [.ref q_9, .ref q_10, .int 0, .int 0, .ref q_11, .int 0, .ref q_12, .int 0, .int 0, .int 0, .int 0])), (q_7, .inr (3, [.ref q_13, .int 0, .ref q_14, .ref q_15, .ref q_16, .ref q_17, .ref q_18, .ref q_19, .ref q_20])), (q_9, .inl (q_21, 6, .inl zi)), (q_10, .inl (q_22, 6, .inl zi)), (q_11, .inl (q_21, 4, .inl zi)), (q_13, .inl (q_21, 4, .inl zi)), (q_14, .inl (q_21, 4, .inl zi)), (q_15, .inl (q_22, 4, .inl zi)), (q_16, .inl (q_21, 4, .inl zi)), (q_17, .inl (q_21, 4, .inl zi)), (q_18, .inl (q_21, 4, .inl zi)), (q_23, .inr (10, [.int 0, .ref q_26, .ref q_27, .ref q_28, .ref q_29, .int 0, .int 0, .int 0])), (q_26, .inr (1, [.int 0, .ref dz, .int 0])), (q_28, .inr (1, [.int 0, .ref dz, .int 0])), (q_29, .inr (1, [.int 0, .ref dz, .int 0]))] := hD
  refine W.widen (k := 116) (n := 748) (Nat.le_of_ble_eq_true rfl) (Nat.le_of_ble_eq_true rfl) ?_
  refine lv_astore_n (lv' := [(2, .ref q_23), (1, .ref q_1), (0, .ref b)]) hx hb dL_law_15 rfl hl (by decide) rfl (fun ls hl => ?_)
  refine lv_iconst (v := 1) hx hb dL_law_16 (by decide) ?_
  refine va_newa (atype := .long) (ty := .long) (N' := 1) (a0 := (1, .inr (.inl zl))) hx hb (hts (.arrayClass (newarray.typeOf .long)) (by decide +kernel)) rfl hK hP hD hS hA (fun _ => rfl) (by decide) (by decide) (by decide) (Nat.le_of_ble_eq_true rfl) (Nat.le_of_ble_eq_true rfl) dL_law_17 (fun q_30 c_31 H hK hP hD hS => ?_)
  have hK : va_K (dC, dI) vwCl [(q_21, .int), (q_22, .boolean), (c_31, .long)] s := hK
  have hP : va_P (dC, dI) vwCl [(q_1, .inr (7, [.ref q_4, .ref q_5, .ref q_6, .ref q_7, .ref q_8])), (q_4, .inr (2, [.ref q_9, .ref q_10, .int 0, .int 0, .ref q_11, .int 0, .ref q_12, .int 0, .int 0, .int 0, .int 0])), (q_7, .inr (3, [.ref q_13, .int 0, .ref q_14, .ref q_15, .ref q_16, .ref q_17, .ref q_18, .ref q_19, .ref q_20])), (q_9, .inl (q_21, 6, .inl zi)), (q_10, .inl (q_22, 6, .inl zi)), (q_11, .inl (q_21, 4, .inl zi)), (q_13, .inl (q_21, 4, .inl zi)), (q_14, .inl (q_21, 4, .inl zi)), (q_15, .inl (q_22, 4, .inl zi)), (q_16, .inl (q_21, 4, .inl zi)), (q_17, .inl (q_21, 4, .inl zi)), (q_18, .inl (q_21, 4, .inl zi)), (q_23, .inr (10, [.int 0, .ref q_26, .ref q_27, .ref q_28, .ref q_29, .int 0, .int 0, .int 0])), (q_26, .inr (1, [.int 0, .ref dz, .int 0])), (q_28, .inr (1, [.int 0, .ref dz, .int 0])), (q_29, .inr (1, [.int 0, .ref dz, .int 0])), (q_30, .inl (c_31, 1, .inr (.inl zl)))] H := hP
  have hD : va_D A [(q_1, .inr (7, [.ref q_4, .ref q_5, .ref q_6, .ref q_7, .ref q_8])), (q_4, .inr (2, [.ref q_9, .ref q_10, .int 0, .int 0, .ref q_11, .int 0, .ref q_12, .int 0, .int 0, .int 0, .int 0])), (q_7, .inr (3, [.ref q_13, .int 0, .ref q_14, .ref q_15, .ref q_16, .ref q_17, .ref q_18, .ref q_19, .ref q_20])), (q_9, .inl (q_21, 6, .inl zi)), (q_10, .inl (q_22, 6, .inl zi)), (q_11, .inl (q_21, 4, .inl zi)), (q_13, .inl (q_21, 4, .inl zi)), (q_14, .inl (q_21, 4, .inl zi)), (q_15, .inl (q_22, 4, .inl zi)), (q_16, .inl (q_21, 4, .inl zi)), (q_17, .inl (q_21, 4, .inl zi)), (q_18, .inl (q_21, 4, .inl zi)), (q_23, .inr (10, [.int 0, .ref q_26, .ref q_27, .ref q_28, .ref q_29, .int 0, .int 0, .int 0])), (q_26, .inr (1, [.int 0, .ref dz, .int 0])), (q_28, .inr (1, [.int 0, .ref dz, .int 0])), (q_29, .inr (1, [.int 0, .ref dz, .int 0])), (q_30, .inl (c_31, 1, .inr (.inl zl)))] := hD
  refine W.widen (k := 117) (n := 749) (Nat.le_of_ble_eq_true rfl) (Nat.le_of_ble_eq_true rfl) ?_
  refine lv_astore_n (lv' := [(3, .ref q_30), (2, .ref q_23), (1, .ref q_1), (0, .ref b)]) hx hb dL_law_19 rfl hl (by decide) rfl (fun ls hl => ?_)
  refine lv_iconst (v := 1) hx hb dL_law_20 (by decide) ?_
  refine va_newa (atype := .double) (ty := .double) (N' := 1) (a0 := (1, .inr (.inr (.inr (.inl zd))))) hx hb (hts (.arrayClass (newarray.typeOf .double)) (by decide +kernel)) rfl hK hP hD hS hA (fun _ => rfl) (by decide) (by decide) (by decide) (Nat.le_of_ble_eq_true rfl) (Nat.le_of_ble_eq_true rfl) dL_law_21 (fun q_32 c_33 H hK hP hD hS => ?_)
  have hK : va_K (dC, dI) vwCl [(q_21, .int), (q_22, .boolean), (c_31, .long), (c_33, .double)] s := hK
  have hP : va_P (dC, dI) vwCl [(q_1, .inr (7, [.ref q_4, .ref q_5, .ref q_6, .ref q_7, .ref q_8])), (q_4, .inr (2, [.ref q_9, .ref q_10, .int 0, .int 0, .ref q_11, .int 0, .ref q_12, .int 0, .int 0, .int 0, .int 0])), (q_7, .inr (3, [.ref q_13, .int 0, .ref q_14, .ref q_15, .ref q_16, .ref q_17, .ref q_18, .ref q_19, .ref q_20])), (q_9, .inl (q_21, 6, .inl zi)), (q_10, .inl (q_22, 6, .inl zi)), (q_11, .inl (q_21, 4, .inl zi)), (q_13, .inl (q_21, 4, .inl zi)), (q_14, .inl (q_21, 4, .inl zi)), (q_15, .inl (q_22, 4, .inl zi)), (q_16, .inl (q_21, 4, .inl zi)), (q_17, .inl (q_21, 4, .inl zi)), (q_18, .inl (q_21, 4, .inl zi)), (q_23, .inr (10, [.int 0, .ref q_26, .ref q_27, .ref q_28, .ref q_29, .int 0, .int 0, .int 0])), (q_26, .inr (1, [.int 0, .ref dz, .int 0])), (q_28, .inr (1, [.int 0, .ref dz, .int 0])), (q_29, .inr (1, [.int 0, .ref dz, .int 0])), (q_30, .inl (c_31, 1, .inr (.inl zl))), (q_32, .inl (c_33, 1, .inr (.inr (.inr (.inl zd)))))] H := hP
  have hD : va_D A [(q_1, .inr (7, [.ref q_4, .ref q_5, .ref q_6, .ref q_7, .ref q_8])), (q_4, .inr (2, [.ref q_9, .ref q_10, .int 0, .int 0, .ref q_11, .int 0, .ref q_12, .int 0, .int 0, .int 0, .int 0])), (q_7, .inr (3, [.ref q_13, .int 0, .ref q_14, .ref q_15, .ref q_16, .ref q_17, .ref q_18, .ref q_19, .ref q_20])), (q_9, .inl (q_21, 6, .inl zi)), (q_10, .inl (q_22, 6, .inl zi)), (q_11, .inl (q_21, 4, .inl zi)), (q_13, .inl (q_21, 4, .inl zi)), (q_14, .inl (q_21, 4, .inl zi)), (q_15, .inl (q_22, 4, .inl zi)), (q_16, .inl (q_21, 4, .inl zi)), (q_17, .inl (q_21, 4, .inl zi)), (q_18, .inl (q_21, 4, .inl zi)), (q_23, .inr (10, [.int 0, .ref q_26, .ref q_27, .ref q_28, .ref q_29, .int 0, .int 0, .int 0])), (q_26, .inr (1, [.int 0, .ref dz, .int 0])), (q_28, .inr (1, [.int 0, .ref dz, .int 0])), (q_29, .inr (1, [.int 0, .ref dz, .int 0])), (q_30, .inl (c_31, 1, .inr (.inl zl))), (q_32, .inl (c_33, 1, .inr (.inr (.inr (.inl zd)))))] := hD
  refine W.widen (k := 118) (n := 750) (Nat.le_of_ble_eq_true rfl) (Nat.le_of_ble_eq_true rfl) ?_
  refine lv_astore (lv' := [(4, .ref q_32), (3, .ref q_30), (2, .ref q_23), (1, .ref q_1), (0, .ref b)]) hx hb dL_law_23 hl (by decide) rfl (fun ls hl => ?_)
  refine lv_iconst (v := 0) hx hb dL_law_25 (by decide) ?_
  refine lv_istore (lv' := [(5, .int 0), (4, .ref q_32), (3, .ref q_30), (2, .ref q_23), (1, .ref q_1), (0, .ref b)]) hx hb dL_law_26 hl (by decide) rfl (fun ls hl => ?_)
  have hP := hP.sub (ws' := [(q_1, .inr (7, [.ref q_4, .ref q_5, .ref q_6, .ref q_7, .ref q_8])), (q_4, .inr (2, [.ref q_9, .ref q_10, .int 0, .int 0, .ref q_11, .int 0, .ref q_12, .int 0, .int 0, .int 0, .int 0])), (q_7, .inr (3, [.ref q_13, .int 0, .ref q_14, .ref q_15, .ref q_16, .ref q_17, .ref q_18, .ref q_19, .ref q_20])), (q_9, .inl (q_21, 6, .inl zi)), (q_10, .inl (q_22, 6, .inl zi)), (q_11, .inl (q_21, 4, .inl zi)), (q_13, .inl (q_21, 4, .inl zi)), (q_14, .inl (q_21, 4, .inl zi)), (q_15, .inl (q_22, 4, .inl zi)), (q_16, .inl (q_21, 4, .inl zi)), (q_17, .inl (q_21, 4, .inl zi)), (q_18, .inl (q_21, 4, .inl zi)), (q_23, .inr (10, [.int 0, .ref q_26, .ref q_27, .ref q_28, .ref q_29, .int 0, .int 0, .int 0])), (q_26, .inr (1, [.int 0, .ref dz, .int 0])), (q_28, .inr (1, [.int 0, .ref dz, .int 0])), (q_29, .inr (1, [.int 0, .ref dz, .int 0])), (q_30, .inl (c_31, 1, .inr (.inl zl))), (q_32, .inl (c_33, 1, .inr (.inr (.inr (.inl zd)))))]) [0, 1, 2, 3, 4, 5, 6, 7, 8, 9, 10, 11, 12, 13, 14, 15, 16, 17] rfl
  have hD := hD.sub (ws' := [(q_1, .inr (7, [.ref q_4, .ref q_5, .ref q_6, .ref q_7, .ref q_8])), (q_4, .inr (2, [.ref q_9, .ref q_10, .int 0, .int 0, .ref q_11, .int 0, .ref q_12, .int 0, .int 0, .int 0, .int 0])), (q_7, .inr (3, [.ref q_13, .int 0, .ref q_14, .ref q_15, .ref q_16, .ref q_17, .ref q_18, .ref q_19, .ref q_20])), (q_9, .inl (q_21, 6, .inl zi)), (q_10, .inl (q_22, 6, .inl zi)), (q_11, .inl (q_21, 4, .inl zi)), (q_13, .inl (q_21, 4, .inl zi)), (q_14, .inl (q_21, 4, .inl zi)), (q_15, .inl (q_22, 4, .inl zi)), (q_16, .inl (q_21, 4, .inl zi)), (q_17, .inl (q_21, 4, .inl zi)), (q_18, .inl (q_21, 4, .inl zi)), (q_23, .inr (10, [.int 0, .ref q_26, .ref q_27, .ref q_28, .ref q_29, .int 0, .int 0, .int 0])), (q_26, .inr (1, [.int 0, .ref dz, .int 0])), (q_28, .inr (1, [.int 0, .ref dz, .int 0])), (q_29, .inr (1, [.int 0, .ref dz, .int 0])), (q_30, .inl (c_31, 1, .inr (.inl zl))), (q_32, .inl (c_33, 1, .inr (.inr (.inr (.inl zd)))))]) [0, 1, 2, 3, 4, 5, 6, 7, 8, 9, 10, 11, 12, 13, 14, 15, 16, 17] (by decide) rfl
  have hK := hK.sub (tys' := [(q_21, .int), (q_22, .boolean), (c_31, .long), (c_33, .double)]) [0, 1, 2, 3] rfl
  rcases Nat.lt_or_eq_of_le hL with hL5 | hL5
  · refine lv_iload hx hb dL_law_28 (lv_at hl 0 rfl) ?_
    refine lv_aload_n hx hb dL_law_30 rfl (lv_at hl 5 rfl) ?_
    refine va_slen hx hb hX hbl hbA hS dL_law_31 ?_
    refine lv_iconst (v := 5) hx hb dL_law_32 (by decide) ?_
    refine lv_isub hx hb dL_law_33 ?_
    have h5 : Int32.ofNat L - 5 < 0 := (show ∀ k, k < 5 → Int32.ofNat k - 5 < 0 by decide) L hL5
    refine lv_icmp_gt (tgt := 2013) hx hb dL_law_34 (by decide) (fun _ => ?_) (fun h9 => absurd h5 h9)
    refine lv_iconst (v := 1) hx hb dL_law_2013 (by decide) ?_
    refine W.widen (k := 654649) (n := 7138290) (Nat.le_of_ble_eq_true rfl) (Nat.le_of_ble_eq_true rfl) ?_
    subst hAe
    refine va_forget (fun q hq => hS.2.2 q hq) ?_
    exact lw_ret (d0 := s.drawn) (Drawn.sameBut.refl s.drawn lw_cs) hx hb hr hlocks dL_law_2014
  · subst hL5
    obtain ⟨a0, h_a0⟩ : ∃ z, z = xs ((0 : Int32).toNatClampNeg) := ⟨_, rfl⟩
    refine lv_iload hx hb dL_law_28 (lv_at hl 0 rfl) ?_
    refine lv_aload_n hx hb dL_law_30 rfl (lv_at hl 5 rfl) ?_
    refine va_slen hx hb hX hbl hbA hS dL_law_31 ?_
    refine lv_topi (fun y_34 ey_34 => ?_)
    obtain rfl : y_34 = 5 := ey_34.trans (by decide)
    refine lv_iconst (v := 5) hx hb dL_law_32 (by decide) ?_
    refine lv_isub hx hb dL_law_33 ?_
    refine lv_topi (fun y_35 ey_35 => ?_)
    obtain rfl : y_35 = 0 := ey_35.trans (by decide)
    refine lv_icmp_gt (tgt := 2013) hx hb dL_law_34 (by decide) (fun h9 => absurd h9 (by decide)) (fun _ => ?_)
    refine lv_aload_n hx hb dL_law_37 rfl (lv_at hl 5 rfl) ?_
    refine lv_iload hx hb dL_law_38 (lv_at hl 0 rfl) ?_
    refine va_sld hx hb hX hbl hbA hS (by unfold vp_in; decide) dL_law_40 ?_
    refine lv_topi (fun y_36 ey_36 => ?_)
    obtain rfl : a0 = y_36 := (ey_36.trans h_a0.symm).symm
    refine lv_bipush (v := 31) hx hb dL_law_41 (by decide) ?_
    refine lv_iand hx hb dL_law_43 ?_
    obtain ⟨j, hj, ej⟩ := pk_andE a0 (m := 31) 5 (by decide)
    refine lv_topi (fun y9 ey9 => ?_)
    obtain rfl : y9 = nI j := ey9.trans ej
    have hls := lv_sub hl [0, 1, 2, 3, 4, 5] rfl
    subst hAe
    have hj : j < 32 := hj
    rcases (show j = 0 ∨ j = 1 ∨ j = 2 ∨ j = 3 ∨ j = 4 ∨ j = 5 ∨ j = 6 ∨ j = 7 ∨ j = 8 ∨ j = 9 ∨ j = 10 ∨ j = 11 ∨ j = 12 ∨ j = 13 ∨ j = 14 ∨ j = 15 ∨ j = 16 ∨ j = 17 ∨ j = 18 ∨ j = 19 ∨ j = 20 ∨ j = 21 ∨ j = 22 ∨ j = 23 ∨ j = 24 ∨ j = 25 ∨ j = 26 ∨ j = 27 ∨ j = 28 ∨ j = 29 ∨ j = 30 ∨ j = 31 by omega) with rfl | rfl | rfl | rfl | rfl | rfl | rfl | rfl | rfl | rfl | rfl | rfl | rfl | rfl | rfl | rfl | rfl | rfl | rfl | rfl | rfl | rfl | rfl | rfl | rfl | rfl | rfl | rfl | rfl | rfl | rfl | rfl
    · refine lv_tableIn (off := 128) (tgt := 172) hx hb dL_law_44 (by decide) (by decide) rfl (by decide) ?_
      exact case_candidate l hfl C0 hLX dC dI hK hP hD hS hls
    · refine lv_tableIn (off := 184) (tgt := 228) hx hb dL_law_44 (by decide) (by decide) rfl (by decide) ?_
      exact case_withdraw l hfl C0 hLX dC dI hK hP hD hS hls
    · refine lv_tableIn (off := 240) (tgt := 284) hx hb dL_law_44 (by decide) (by decide) rfl (by decide) ?_
      exact case_district l hfl C0 hLX dC dI hK hP hD hS hls
    · refine lv_tableIn (off := 296) (tgt := 340) hx hb dL_law_44 (by decide) (by decide) rfl (by decide) ?_
      exact case_cast l hfl C0 hLX dC dI hK hP hD hS hls
    · refine lv_tableIn (off := 376) (tgt := 420) hx hb dL_law_44 (by decide) (by decide) rfl (by decide) ?_
      exact case_recount l hfl C0 hLX dC dI hK hP hD hS hls
    · refine lv_tableIn (off := 444) (tgt := 488) hx hb dL_law_44 (by decide) (by decide) rfl (by decide) ?_
      exact case_move l hfl C0 hLX dC dI hK hP hD hS hls
    · refine lv_tableIn (off := 512) (tgt := 556) hx hb dL_law_44 (by decide) (by decide) rfl (by decide) ?_
      exact case_threshold l hfl C0 hLX dC dI hK hP hD hS hls
    · refine lv_tableIn (off := 568) (tgt := 612) hx hb dL_law_44 (by decide) (by decide) rfl (by decide) ?_
      exact case_seal l hfl C0 hLX dC dI hK hP hD hS hls
    · refine lv_tableIn (off := 609) (tgt := 653) hx hb dL_law_44 (by decide) (by decide) rfl (by decide) ?_
      exact case_knock l hfl C0 hLX dC dI hK hP hD hS hls
    · refine lv_tableIn (off := 622) (tgt := 666) hx hb dL_law_44 (by decide) (by decide) rfl (by decide) ?_
      exact case_ofStack l hfl C0 hLX dC dI hK hP hD hS hls
    · refine lv_tableIn (off := 690) (tgt := 734) hx hb dL_law_44 (by decide) (by decide) rfl (by decide) ?_
      exact case_firsts l hfl C0 hLX dC dI hK hP hD hS hls
    · refine lv_tableIn (off := 758) (tgt := 802) hx hb dL_law_44 (by decide) (by decide) rfl (by decide) ?_
      exact case_points l hfl C0 hLX dC dI hK hP hD hS hls
    · refine lv_tableIn (off := 847) (tgt := 891) hx hb dL_law_44 (by decide) (by decide) rfl (by decide) ?_
      exact case_pair l hfl C0 hLX dC dI hK hP hD hS hls
    · refine lv_tableIn (off := 955) (tgt := 999) hx hb dL_law_44 (by decide) (by decide) rfl (by decide) ?_
      exact case_winner l hfl C0 hLX dC dI hK hP hD hS hls
    · refine lv_tableIn (off := 1023) (tgt := 1067) hx hb dL_law_44 (by decide) (by decide) rfl (by decide) ?_
      exact case_out l hfl C0 hLX dC dI hK hP hD hS hls
    · refine lv_tableIn (off := 1091) (tgt := 1135) hx hb dL_law_44 (by decide) (by decide) rfl (by decide) ?_
      exact case_elected l hfl C0 hLX dC dI hK hP hD hS hls
    · refine lv_tableIn (off := 1159) (tgt := 1203) hx hb dL_law_44 (by decide) (by decide) rfl (by decide) ?_
      exact case_worth l hfl C0 hLX dC dI hK hP hD hS hls
    · refine lv_tableIn (off := 1236) (tgt := 1280) hx hb dL_law_44 (by decide) (by decide) rfl (by decide) ?_
      exact case_ofParty l hfl C0 hLX dC dI hK hP hD hS hls
    · refine lv_tableIn (off := 1304) (tgt := 1348) hx hb dL_law_44 (by decide) (by decide) rfl (by decide) ?_
      exact case_share l hfl C0 hLX dC dI hK hP hD hS hls
    · refine lv_tableIn (off := 1384) (tgt := 1428) hx hb dL_law_44 (by decide) (by decide) rfl (by decide) ?_
      exact case_overhang l hfl C0 hLX dC dI hK hP hD hS hls
    · refine lv_tableIn (off := 1452) (tgt := 1496) hx hb dL_law_44 (by decide) (by decide) rfl (by decide) ?_
      exact case_swings l hfl C0 hLX dC dI hK hP hD hS hls
    · refine lv_tableIn (off := 1532) (tgt := 1576) hx hb dL_law_44 (by decide) (by decide) rfl (by decide) ?_
      exact case_coalition l hfl C0 hLX dC dI hK hP hD hS hls
    · refine lv_tableIn (off := 1600) (tgt := 1644) hx hb dL_law_44 (by decide) (by decide) rfl (by decide) ?_
      exact case_gap l hfl C0 hLX dC dI hK hP hD hS hls
    · refine lv_tableIn (off := 1689) (tgt := 1733) hx hb dL_law_44 (by decide) (by decide) rfl (by decide) ?_
      exact case_many l hfl C0 hLX dC dI hK hP hD hS hls
    · refine lv_tableIn (off := 1745) (tgt := 1789) hx hb dL_law_44 (by decide) (by decide) rfl (by decide) ?_
      exact case_margin l hfl C0 hLX dC dI hK hP hD hS hls
    · refine lv_tableIn (off := 1801) (tgt := 1845) hx hb dL_law_44 (by decide) (by decide) rfl (by decide) ?_
      exact case_wouldWin l hfl C0 hLX dC dI hK hP hD hS hls
    · refine lv_tableIn (off := 1881) (tgt := 1925) hx hb dL_law_44 (by decide) (by decide) rfl (by decide) ?_
      exact case_lie l hfl C0 hLX dC dI hK hP hD hS hls
    · refine lv_tableIn (off := 1949) (tgt := 1993) hx hb dL_law_44 (by decide) (by decide) rfl (by decide) ?_
      exact case_digest l hfl C0 hLX dC dI hK hP hD hS hls
    · refine lv_tableOut (tgt := 2007) hx hb dL_law_44 (by decide) (by decide) ?_
      exact law_tail l C0 rfl hS (lv_sub hls [0, 5] rfl) (Nat.le_of_ble_eq_true rfl) (Nat.le_of_ble_eq_true rfl)
    · refine lv_tableOut (tgt := 2007) hx hb dL_law_44 (by decide) (by decide) ?_
      exact law_tail l C0 rfl hS (lv_sub hls [0, 5] rfl) (Nat.le_of_ble_eq_true rfl) (Nat.le_of_ble_eq_true rfl)
    · refine lv_tableOut (tgt := 2007) hx hb dL_law_44 (by decide) (by decide) ?_
      exact law_tail l C0 rfl hS (lv_sub hls [0, 5] rfl) (Nat.le_of_ble_eq_true rfl) (Nat.le_of_ble_eq_true rfl)
    · refine lv_tableOut (tgt := 2007) hx hb dL_law_44 (by decide) (by decide) ?_
      exact law_tail l C0 rfl hS (lv_sub hls [0, 5] rfl) (Nat.le_of_ble_eq_true rfl) (Nat.le_of_ble_eq_true rfl)
set_option maxHeartbeats 4000000 in
theorem lw_walk (l : Launch) (hflags : l.flags = flags0) (b : Addr) (xs : List Int32) : MetFree l x (headSpec (Jvm.Cond.code x code maxLocals ret :: tables_1) room_1) (lw_P b xs) (fun _ _ _ _ _ => True) lw_Q := by
  refine MetFree.of_bodyS (code := code) (maxLocals := maxLocals) (ret := ret) (by decide) ?_ ?_
  · intro args s m h hn
    obtain ⟨meth, c, h1, h2, h3, h4, h5, h6, -, -⟩ := Cond.code_spec hn (atoms_spec (ws := Jvm.Cond.code x code maxLocals ret :: tables_1) h _ List.mem_cons_self)
    exact ⟨meth, c, h1, h2, h3, h4, h5, h6⟩
  · intro p e s m args below meth c s₁ B hml0 hP _
    obtain ⟨rfl, hx, hbd, hgv⟩ := hP
    obtain ⟨scr, harrAt, hlist, hof, hsmall⟩ := hx
    obtain ⟨hcb, hkn, -, -⟩ := State.arrayAt?_spec harrAt
    have hown : s.vm.findClass R_law = some m.cls := findClass_of_methodNamed B.named
    have hts0 : ∀ c ∈ (Jvm.Cond.code x code maxLocals ret :: tables_1), c.before #[Value.ref b] s = true := atoms_spec (ws := Jvm.Cond.code x code maxLocals ret :: tables_1) B.pre
    have hts : ∀ w ∈ lw_tbl, w.before #[Value.ref b] s = true := k2_hts_sels lw_privs (fun w hw => hts0 w (List.mem_cons_of_mem _ hw)) lw_privs_ok
    have hml : c.maxLocals = 9 := B.maxLocals_eq (hts0 _ List.mem_cons_self)
    have X₀ : Stand p l e room_1 s m #[Value.ref b] below meth c s₁ [] 0 0 := Stand.of_body B
    have hh0 : s₁.heap = s.heap := by rw [B.state]; rfl
    have hsz : scr.slots.size = xs.length := by rw [← Array.length_toList, hlist, List.length_map]
    have hval : ∀ j : Nat, j < xs.length → scr.slots[j]? = some (.int (xs.getD j 0)) := fun j hj => by
      rw [← Array.getElem?_toList, hlist]
      simp [hj]
    have hbl : b < s.heap.size := (Array.getElem?_eq_some_iff.mp hcb).1
    have hX : va_X b xs.length (fun j => xs.getD j 0) s s.heap := ⟨scr, hcb, hof, hkn, hsz, hval⟩
    have K : W p l e room_1 s m #[Value.ref b] below meth c s₁.heap [] 0 0 (lw_Z below #[Value.ref b] s) (entryFrame m ([Value.ref b] : List Value).toArray 9) := by
      rw [hh0]
      exact whole_start l hflags hbd ⟨B.exec, B.bytes, B.returns, hml, hown, hts, hX, hbl, B.notSynchronized, hgv⟩
    obtain ⟨t, a1, o, b1, b2, b3⟩ := K s₁ rfl X₀
    exact ⟨t, o, a1, b1, b2, b3⟩
theorem lw_pre_spec {args : Array Value} {s : State} (h : (Jvm.Cond.and given_1 narrow_1).before args s = true) (hr : rest_1_c.before args s = true) : ∃ (b : Addr) (xs : List Int32), lw_P b xs args s := by
  have hs := flat_of_before _ h
  have hq := flat_of_before _ hr
  have hc : (Cond.count 1).before args s = true := hs _ (by decide +kernel)
  have harr : (Cond.arrayOf (.arg 0) .int).before args s = true := hs _ (by decide +kernel)
  have hle : (Cond.le (.length (.arg 0)) (.int 5)).before args s = true := hs _ (by decide +kernel)
  have hlen : (Cond.isInt (.length (.arg 0))).before args s = true := hq _ (by decide +kernel)
  have hall : (Cond.all (.arg 0) (.isInt (.elem (.arg 0) (.index 0)))).before args s = true := hq _ (by decide +kernel)
  obtain ⟨b, xs, hb, hx⟩ := State.ints_of_pre rfl harr hlen hall
  have hsm : xs.length < 2 ^ 31 := hx.choose_spec.2.2.2
  have hev : (Term.length (.arg 0)).eval args s none [] s = some (.int xs.length.toInt32) := hx.length_eval hb
  have hv := Cond.le_ints hev (show (Term.int 5).eval args s none [] s = some (.int 5) from rfl)
  have hd : xs.length.toInt32 ≤ 5 := by
    simpa [Cond.before, Cond.holds, hv] using hle
  have hN : xs.length ≤ 5 := (Int32.ofNat_le_ofNat hsm (by decide)).mp (show Int32.ofNat xs.length ≤ Int32.ofNat 5 from hd)
  exact ⟨b, xs, Cond.one_arg hc (show args[0]? = some (.ref b) from hb), hx, hN, h⟩
theorem lw_comes (l : Launch) (hflags : l.flags = flags0) : Comes l x (Jvm.Cond.code x code maxLocals ret :: tables_1) room_1 (fun tb e args s => Calls_1 tb e args s ∧ rest_1 tb e args s ∧ Pre_1 tb e args s)
    (fun _ _ args s o t => lw_Q args s o t) := by
  intro p e ha hc hk s m args below hf hfit hheap happ hpre
  obtain ⟨b, xs, hP⟩ := lw_pre_spec hpre.2.2 hpre.2.1
  obtain ⟨k, o, h1, h2, h3, hQ⟩ := lw_walk l hflags b xs p e ha hc hk s m args below hf ((Spec.applies_iff_loose hf).mp happ).1 hP trivial
  exact ⟨k, o, h1, h2, h3, hQ⟩
theorem lw_frame {s t : State} {o : Outcome} {args : Array Value} (h : State.butDraws s t lw_cs (fun t1 => Framed s o t1 [] 654649 7138290)) :
    State.butDraws s t [Jvm.Choice.named "NaN.bits", Jvm.Choice.named "NaN.copy"] (fun t1 => Framed s o t1 (fieldLocs frame_1_writes args s ++ arrayLocs frame_1_arrays args s ++ staticLocs frame_1_statics s) 654649 7138290) := h
theorem lw_limb (L : Cond) (hL : ∀ (args : Array Value) (s t : State), L.after args s (.returned (some (.int 1))) t = true) :
    ArmFor flags0 classFile x code maxLocals ret World_1 tables_1 room_1 Calls_1 rest_1 Pre_1
      (fun tb e a s o t => postC L tb e a s o t ∧ State.butDraws s t [Jvm.Choice.named "NaN.bits", Jvm.Choice.named "NaN.copy"] (fun t1 => Framed s o t1 (fieldLocs frame_1_writes a s ++ arrayLocs frame_1_arrays a s ++ staticLocs frame_1_statics s) 654649 7138290)) := by
  intro l hflags _ _ p e ha hc hk s m args below hf hfit hheap happ hpre
  obtain ⟨k, o, h1, h2, h3, rfl, hF⟩ := lw_comes l hflags p e ha hc hk s m args below hf hfit hheap happ hpre
  exact ⟨k, _, h1, h2, h3, hL args s _, lw_frame hF⟩
theorem i_vc : Claimed_1_1 ∧ Claimed_1_2 := ⟨lw_limb limb_1_1 (fun args s t => by simp [limb_1_1, Cond.after, Cond.holds, Cond.value]), lw_limb limb_1_2 (fun args s t => Cond.after_iff.mpr (by
  first | (rw [show limb_1_2 = Cond.eq .result (.int 1) from rfl, Cond.eq_ints (x := 1) (y := 1) rfl rfl]; simp; done) | (simp [limb_1_2, Cond.value, Term.eval]; done)))⟩
