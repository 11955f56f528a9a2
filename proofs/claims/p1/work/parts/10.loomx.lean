set_option maxHeartbeats 4000000 in
set_option maxRecDepth 100000 in
theorem cx_X5_checkParty (l : Launch) (hfl : l.stackTraces = false) (dC : Nat → ClassId) (dI : Nat → Nat → Nat) (pp : Int32) (tx : String) (sa : Nat) (sz : Nat) (hbd : pp < 0 ∨ 4 ≤ pp) : vx_Met l yX5_checkParty wsX5_checkParty ({ frames := 6, cells := 1, slots := 6, locals := 95 }) (va_Pc [.int pp] (fun U => pr_ dC dI [] [] sz U ∧ xs_ (va_A [] sz) 50 tx sa "java/lang/IndexOutOfBoundsException" U)) (va_Qv (fun (_ : Unit) => False) (fun _ _ => True) (va_A [] sz)) (vx_X (fun _ : Unit => True) (fun E _ _ => E = "java/lang/IndexOutOfBoundsException") (va_A [] sz)) 1 6 (va_A [] sz) := by
  refine vx_ofW (cc := cX5_checkParty) (maxL := 1) (ret := none) (by decide) rfl ?_
  intro p e s m args below meth c s₁ B hml htb hv
  obtain ⟨rfl, ⟨hsz, hP, hK, hD0⟩, hXs⟩ := hv
  have hx := B.exec
  have hb := B.bytes
  have hr := B.returns
  have hts := atoms_spec (ws := wsX5_checkParty) B.pre
  have hown : s.vm.findClass RX5 = some m.cls := findClass_of_methodNamed B.named
  have hlocks := B.notSynchronized
  subst hsz
  have hD := hD0.self (sz := s.heap.size)
  generalize hAe : va_A [] s.heap.size = A at hD hXs ⊢
  have hA : ∀ q : Nat, s.heap.size ≤ q → A q := fun q h => by rw [← hAe]; exact Or.inr h
  have hS : va_S A s.heap s.heap [] := va_S.rf
  have hP : va_P (dC, dI) vwCl [] s.heap := hP
  have hK : va_K (dC, dI) vwCl [] s := hK
  have hl := lv_entry ([.int pp]) (n := 1) (Nat.le_of_ble_eq_true rfl)
  rw [lg_entry_eq]
  generalize (lg_sl ([.int pp]) ++ List.replicate (1 - (lg_sl ([.int pp])).length) Slot.unset).toArray = ls at hl ⊢
  have hl : lv_has ls 1 [(0, .int pp)] := hl
  refine lv_iload_n hx hb dX5_checkParty_0 rfl (lv_at hl 0 rfl) ?_
  have hPc := hP.sub (ws' := []) [] rfl
  have hDc := hD.sub (ws' := []) [] (by decide) rfl
  have hKc := hK.sub (tys' := []) [] rfl
  have hFc := va_free (wc := []) hD hS hA [] rfl
  refine va_calli (va_runS (As := [.int pp]) (rest := []) ⟨hx, hb, hml, hown, hts⟩ (c0_X5_isParty l dC dI pp _ hbd) (va_cwS 1 hts gX5_checkParty_X5_isParty rfl rfl rfl (by decide +kernel) ⟨Nat.le_of_ble_eq_true rfl, Nat.le_of_ble_eq_true rfl⟩) ⟨pr_blind, fun U hU hW => ⟨rfl, pr_mk hU hW hPc hKc hDc⟩⟩ rfl rfl hl.1 rfl (lv_room (Nat.le_of_ble_eq_true rfl)) dX5_checkParty_1 ⟨Nat.le_of_ble_eq_true rfl, Nat.le_of_ble_eq_true rfl⟩) hS (fun q _ h => hFc q h) hFc (fun r_2 u_1 t H1 locs ht hvm hw hB hz1 hk1 hS => ?_)
  obtain ⟨hP1, hK1, hD1⟩ := hB
  rw [ht] at hP1
  obtain ⟨hP, hD⟩ := va_join (wr := []) (w1 := []) hP hD [] [] rfl rfl (by decide) (by decide) hk1 hFc hP1 hD1
  generalize H1 = H at hP hS ⊢
  have hP : va_P (dC, dI) vwCl [] H := hP
  have hD : va_D A [] := hD
  refine W.widen (k := 0) (n := 0) (Nat.le_refl _) (Nat.le_refl _) ?_
  have hw : r_2 = 0 := hw
  subst hw
  refine lv_if_ne (tgt := 17) hx hb dX5_checkParty_4 (by decide) (fun h9 => absurd h9 (by decide)) (fun _ => ?_)
  exact vx_throwS (A := A) (names := ["java/lang/RuntimeException", "java/lang/Exception"]) hx hb hfl hown (by decide +kernel) (by decide +kernel) (hts (.classLink RX5 294 "java/lang/IndexOutOfBoundsException") (by decide +kernel)) (hts (.initialized "java/lang/IndexOutOfBoundsException") (by decide +kernel)) hXs.2.2.1 (vx_hat (B := [.declares ⟨"java/lang/RuntimeException", "<init>", "(Ljava/lang/String;)V"⟩, .declares ⟨"java/lang/Exception", "<init>", "(Ljava/lang/String;)V"⟩, .declares ⟨"java/lang/Throwable", "<init>", "(Ljava/lang/String;)V"⟩, .castable "java/lang/IndexOutOfBoundsException" "java/lang/IndexOutOfBoundsException"]) (fun w h => hts w (List.mem_cons_of_mem _ (List.mem_append_right _ h))) (xB_298) (vx_c (va_Nw.use rfl hXs.2.2.2.2.1) (vx_c (va_Nw.use rfl hXs.2.2.2.2.2.1) (vx_c (va_Nw.use rfl hXs.2.2.2.2.2.2) (vx_c (va_Nw.use rfl hXs.2.2.2.1) vx_n))))) (xG_298) (hXs.1) (hXs.2.1) hS (by rw [hml]; exact hl.1) dX5_checkParty_7 dX5_checkParty_10 dX5_checkParty_11 dX5_checkParty_13 dX5_checkParty_16 (fun x hx9 => (htb x hx9).elim) (Nat.lt_of_lt_of_le (by decide : 5 < 6) (Nat.le_of_ble_eq_true rfl)) (Nat.le_of_ble_eq_true rfl) (Nat.le_of_ble_eq_true rfl) (Nat.le_of_ble_eq_true rfl) hlocks (fun t hvm hz9 hk9 => ⟨(), trivial, rfl, Nat.le_trans hS.1 hz9, fun q h1 h2 => (hk9 q (Nat.lt_of_lt_of_le h1 hS.1)).trans (hS.2.1 q h1 h2)⟩) hS.2.2 (Nat.le_of_ble_eq_true rfl) (Nat.le_of_ble_eq_true rfl)

set_option maxHeartbeats 4000000 in
set_option maxRecDepth 100000 in
theorem cx_X5_checkHouse (l : Launch) (hfl : l.stackTraces = false) (dC : Nat → ClassId) (dI : Nat → Nat → Nat) (ho : Int32) (tx : String) (sa : Nat) (sz : Nat) (hbd : ho < 1 ∨ ¬ ho ≤ 60) : vx_Met l yX5_checkHouse wsX5_checkHouse ({ frames := 6, cells := 1, slots := 6, locals := 95 }) (va_Pc [.int ho] (fun U => pr_ dC dI [] [] sz U ∧ xs_ (va_A [] sz) 312 tx sa "java/lang/IllegalArgumentException" U)) (va_Qv (fun (_ : Unit) => False) (fun _ _ => True) (va_A [] sz)) (vx_X (fun _ : Unit => True) (fun E _ _ => E = "java/lang/IllegalArgumentException") (va_A [] sz)) 1 6 (va_A [] sz) := by
  refine vx_ofW (cc := cX5_checkHouse) (maxL := 1) (ret := none) (by decide) rfl ?_
  intro p e s m args below meth c s₁ B hml htb hv
  obtain ⟨rfl, ⟨hsz, hP, hK, hD0⟩, hXs⟩ := hv
  have hx := B.exec
  have hb := B.bytes
  have hr := B.returns
  have hts := atoms_spec (ws := wsX5_checkHouse) B.pre
  have hown : s.vm.findClass RX5 = some m.cls := findClass_of_methodNamed B.named
  have hlocks := B.notSynchronized
  subst hsz
  have hD := hD0.self (sz := s.heap.size)
  generalize hAe : va_A [] s.heap.size = A at hD hXs ⊢
  have hA : ∀ q : Nat, s.heap.size ≤ q → A q := fun q h => by rw [← hAe]; exact Or.inr h
  have hS : va_S A s.heap s.heap [] := va_S.rf
  have hP : va_P (dC, dI) vwCl [] s.heap := hP
  have hK : va_K (dC, dI) vwCl [] s := hK
  have hl := lv_entry ([.int ho]) (n := 1) (Nat.le_of_ble_eq_true rfl)
  rw [lg_entry_eq]
  generalize (lg_sl ([.int ho]) ++ List.replicate (1 - (lg_sl ([.int ho])).length) Slot.unset).toArray = ls at hl ⊢
  have hl : lv_has ls 1 [(0, .int ho)] := hl
  refine lv_iload_n hx hb dX5_checkHouse_0 rfl (lv_at hl 0 rfl) ?_
  refine lv_iconst (v := 1) hx hb dX5_checkHouse_1 (by decide) ?_
  refine lv_icmp_lt (tgt := 11) hx hb dX5_checkHouse_2 (by decide) (fun hc_1 => ?_) (fun hc_1 => ?_)
  · exact vx_throwSW (A := A) (names := ["java/lang/RuntimeException", "java/lang/Exception"]) hx hb hfl hown (by decide +kernel) (by decide +kernel) (hts (.classLink RX5 48 "java/lang/IllegalArgumentException") (by decide +kernel)) (hts (.initialized "java/lang/IllegalArgumentException") (by decide +kernel)) hXs.2.2.1 (vx_hat (B := [.declares ⟨"java/lang/RuntimeException", "<init>", "(Ljava/lang/String;)V"⟩, .declares ⟨"java/lang/Exception", "<init>", "(Ljava/lang/String;)V"⟩, .declares ⟨"java/lang/Throwable", "<init>", "(Ljava/lang/String;)V"⟩, .castable "java/lang/IllegalArgumentException" "java/lang/IllegalArgumentException"]) (fun w h => hts w (List.mem_cons_of_mem _ (List.mem_append_right _ h))) (xB_52) (vx_c (va_Nw.use rfl hXs.2.2.2.2.1) (vx_c (va_Nw.use rfl hXs.2.2.2.2.2.1) (vx_c (va_Nw.use rfl hXs.2.2.2.2.2.2) (vx_c (va_Nw.use rfl hXs.2.2.2.1) vx_n))))) (xG_52) (hXs.1) (hXs.2.1) hS (by rw [hml]; exact hl.1) dX5_checkHouse_11 dX5_checkHouse_14 dX5_checkHouse_15 dX5_checkHouse_18 dX5_checkHouse_21 (fun x hx9 => (htb x hx9).elim) (Nat.lt_of_lt_of_le (by decide : 5 < 6) (Nat.le_of_ble_eq_true rfl)) (Nat.le_of_ble_eq_true rfl) (Nat.le_of_ble_eq_true rfl) (Nat.le_of_ble_eq_true rfl) hlocks (fun t hvm hz9 hk9 => ⟨(), trivial, rfl, Nat.le_trans hS.1 hz9, fun q h1 h2 => (hk9 q (Nat.lt_of_lt_of_le h1 hS.1)).trans (hS.2.1 q h1 h2)⟩) hS.2.2 (Nat.le_of_ble_eq_true rfl) (Nat.le_of_ble_eq_true rfl)
  · refine lv_iload_n hx hb dX5_checkHouse_5 rfl (lv_at hl 0 rfl) ?_
    refine lv_bipush (v := 60) hx hb dX5_checkHouse_6 (by decide) ?_
    refine lv_icmp_le (tgt := 22) hx hb dX5_checkHouse_8 (by decide) (fun h9 => ((hbd.resolve_left (by assumption)) h9).elim) (fun _ => ?_)
    exact vx_throwSW (A := A) (names := ["java/lang/RuntimeException", "java/lang/Exception"]) hx hb hfl hown (by decide +kernel) (by decide +kernel) (hts (.classLink RX5 48 "java/lang/IllegalArgumentException") (by decide +kernel)) (hts (.initialized "java/lang/IllegalArgumentException") (by decide +kernel)) hXs.2.2.1 (vx_hat (B := [.declares ⟨"java/lang/RuntimeException", "<init>", "(Ljava/lang/String;)V"⟩, .declares ⟨"java/lang/Exception", "<init>", "(Ljava/lang/String;)V"⟩, .declares ⟨"java/lang/Throwable", "<init>", "(Ljava/lang/String;)V"⟩, .castable "java/lang/IllegalArgumentException" "java/lang/IllegalArgumentException"]) (fun w h => hts w (List.mem_cons_of_mem _ (List.mem_append_right _ h))) (xB_52) (vx_c (va_Nw.use rfl hXs.2.2.2.2.1) (vx_c (va_Nw.use rfl hXs.2.2.2.2.2.1) (vx_c (va_Nw.use rfl hXs.2.2.2.2.2.2) (vx_c (va_Nw.use rfl hXs.2.2.2.1) vx_n))))) (xG_52) (hXs.1) (hXs.2.1) hS (by rw [hml]; exact hl.1) dX5_checkHouse_11 dX5_checkHouse_14 dX5_checkHouse_15 dX5_checkHouse_18 dX5_checkHouse_21 (fun x hx9 => (htb x hx9).elim) (Nat.lt_of_lt_of_le (by decide : 5 < 6) (Nat.le_of_ble_eq_true rfl)) (Nat.le_of_ble_eq_true rfl) (Nat.le_of_ble_eq_true rfl) (Nat.le_of_ble_eq_true rfl) hlocks (fun t hvm hz9 hk9 => ⟨(), trivial, rfl, Nat.le_trans hS.1 hz9, fun q h1 h2 => (hk9 q (Nat.lt_of_lt_of_le h1 hS.1)).trans (hS.2.1 q h1 h2)⟩) hS.2.2 (Nat.le_of_ble_eq_true rfl) (Nat.le_of_ble_eq_true rfl)

set_option maxHeartbeats 4000000 in
set_option maxRecDepth 100000 in
theorem cx_X5_checkRule (l : Launch) (hfl : l.stackTraces = false) (dC : Nat → ClassId) (dI : Nat → Nat → Nat) (ru : Int32) (tx : String) (sa : Nat) (sz : Nat) (hbd : ru < 0 ∨ ¬ ru ≤ 2) : vx_Met l yX5_checkRule wsX5_checkRule ({ frames := 6, cells := 1, slots := 6, locals := 95 }) (va_Pc [.int ru] (fun U => pr_ dC dI [] [] sz U ∧ xs_ (va_A [] sz) 314 tx sa "java/lang/IllegalArgumentException" U)) (va_Qv (fun (_ : Unit) => False) (fun _ _ => True) (va_A [] sz)) (vx_X (fun _ : Unit => True) (fun E _ _ => E = "java/lang/IllegalArgumentException") (va_A [] sz)) 1 6 (va_A [] sz) := by
  refine vx_ofW (cc := cX5_checkRule) (maxL := 1) (ret := none) (by decide) rfl ?_
  intro p e s m args below meth c s₁ B hml htb hv
  obtain ⟨rfl, ⟨hsz, hP, hK, hD0⟩, hXs⟩ := hv
  have hx := B.exec
  have hb := B.bytes
  have hr := B.returns
  have hts := atoms_spec (ws := wsX5_checkRule) B.pre
  have hown : s.vm.findClass RX5 = some m.cls := findClass_of_methodNamed B.named
  have hlocks := B.notSynchronized
  subst hsz
  have hD := hD0.self (sz := s.heap.size)
  generalize hAe : va_A [] s.heap.size = A at hD hXs ⊢
  have hA : ∀ q : Nat, s.heap.size ≤ q → A q := fun q h => by rw [← hAe]; exact Or.inr h
  have hS : va_S A s.heap s.heap [] := va_S.rf
  have hP : va_P (dC, dI) vwCl [] s.heap := hP
  have hK : va_K (dC, dI) vwCl [] s := hK
  have hl := lv_entry ([.int ru]) (n := 1) (Nat.le_of_ble_eq_true rfl)
  rw [lg_entry_eq]
  generalize (lg_sl ([.int ru]) ++ List.replicate (1 - (lg_sl ([.int ru])).length) Slot.unset).toArray = ls at hl ⊢
  have hl : lv_has ls 1 [(0, .int ru)] := hl
  refine lv_iload_n hx hb dX5_checkRule_0 rfl (lv_at hl 0 rfl) ?_
  refine lv_if_lt (tgt := 9) hx hb dX5_checkRule_1 (by decide) (fun hc_1 => ?_) (fun hc_1 => ?_)
  · exact vx_throwSW (A := A) (names := ["java/lang/RuntimeException", "java/lang/Exception"]) hx hb hfl hown (by decide +kernel) (by decide +kernel) (hts (.classLink RX5 48 "java/lang/IllegalArgumentException") (by decide +kernel)) (hts (.initialized "java/lang/IllegalArgumentException") (by decide +kernel)) hXs.2.2.1 (vx_hat (B := [.declares ⟨"java/lang/RuntimeException", "<init>", "(Ljava/lang/String;)V"⟩, .declares ⟨"java/lang/Exception", "<init>", "(Ljava/lang/String;)V"⟩, .declares ⟨"java/lang/Throwable", "<init>", "(Ljava/lang/String;)V"⟩, .castable "java/lang/IllegalArgumentException" "java/lang/IllegalArgumentException"]) (fun w h => hts w (List.mem_cons_of_mem _ (List.mem_append_right _ h))) (xB_52) (vx_c (va_Nw.use rfl hXs.2.2.2.2.1) (vx_c (va_Nw.use rfl hXs.2.2.2.2.2.1) (vx_c (va_Nw.use rfl hXs.2.2.2.2.2.2) (vx_c (va_Nw.use rfl hXs.2.2.2.1) vx_n))))) (xG_52) (hXs.1) (hXs.2.1) hS (by rw [hml]; exact hl.1) dX5_checkRule_9 dX5_checkRule_12 dX5_checkRule_13 dX5_checkRule_16 dX5_checkRule_19 (fun x hx9 => (htb x hx9).elim) (Nat.lt_of_lt_of_le (by decide : 5 < 6) (Nat.le_of_ble_eq_true rfl)) (Nat.le_of_ble_eq_true rfl) (Nat.le_of_ble_eq_true rfl) (Nat.le_of_ble_eq_true rfl) hlocks (fun t hvm hz9 hk9 => ⟨(), trivial, rfl, Nat.le_trans hS.1 hz9, fun q h1 h2 => (hk9 q (Nat.lt_of_lt_of_le h1 hS.1)).trans (hS.2.1 q h1 h2)⟩) hS.2.2 (Nat.le_of_ble_eq_true rfl) (Nat.le_of_ble_eq_true rfl)
  · refine lv_iload_n hx hb dX5_checkRule_4 rfl (lv_at hl 0 rfl) ?_
    refine lv_iconst (v := 2) hx hb dX5_checkRule_5 (by decide) ?_
    refine lv_icmp_le (tgt := 20) hx hb dX5_checkRule_6 (by decide) (fun h9 => ((hbd.resolve_left (by assumption)) h9).elim) (fun _ => ?_)
    exact vx_throwSW (A := A) (names := ["java/lang/RuntimeException", "java/lang/Exception"]) hx hb hfl hown (by decide +kernel) (by decide +kernel) (hts (.classLink RX5 48 "java/lang/IllegalArgumentException") (by decide +kernel)) (hts (.initialized "java/lang/IllegalArgumentException") (by decide +kernel)) hXs.2.2.1 (vx_hat (B := [.declares ⟨"java/lang/RuntimeException", "<init>", "(Ljava/lang/String;)V"⟩, .declares ⟨"java/lang/Exception", "<init>", "(Ljava/lang/String;)V"⟩, .declares ⟨"java/lang/Throwable", "<init>", "(Ljava/lang/String;)V"⟩, .castable "java/lang/IllegalArgumentException" "java/lang/IllegalArgumentException"]) (fun w h => hts w (List.mem_cons_of_mem _ (List.mem_append_right _ h))) (xB_52) (vx_c (va_Nw.use rfl hXs.2.2.2.2.1) (vx_c (va_Nw.use rfl hXs.2.2.2.2.2.1) (vx_c (va_Nw.use rfl hXs.2.2.2.2.2.2) (vx_c (va_Nw.use rfl hXs.2.2.2.1) vx_n))))) (xG_52) (hXs.1) (hXs.2.1) hS (by rw [hml]; exact hl.1) dX5_checkRule_9 dX5_checkRule_12 dX5_checkRule_13 dX5_checkRule_16 dX5_checkRule_19 (fun x hx9 => (htb x hx9).elim) (Nat.lt_of_lt_of_le (by decide : 5 < 6) (Nat.le_of_ble_eq_true rfl)) (Nat.le_of_ble_eq_true rfl) (Nat.le_of_ble_eq_true rfl) (Nat.le_of_ble_eq_true rfl) hlocks (fun t hvm hz9 hk9 => ⟨(), trivial, rfl, Nat.le_trans hS.1 hz9, fun q h1 h2 => (hk9 q (Nat.lt_of_lt_of_le h1 hS.1)).trans (hS.2.1 q h1 h2)⟩) hS.2.2 (Nat.le_of_ble_eq_true rfl) (Nat.le_of_ble_eq_true rfl)

set_option maxHeartbeats 4000000 in
set_option maxRecDepth 100000 in
theorem cx_X5_checkWhat (l : Launch) (hfl : l.stackTraces = false) (dC : Nat → ClassId) (dI : Nat → Nat → Nat) (wh : Int32) (la : Int32) (tx : String) (sa : Nat) (sz : Nat) (hbd : wh < 0 ∨ ¬ wh ≤ la) : vx_Met l yX5_checkWhat wsX5_checkWhat ({ frames := 6, cells := 1, slots := 6, locals := 95 }) (va_Pc [.int wh, .int la] (fun U => pr_ dC dI [] [] sz U ∧ xs_ (va_A [] sz) 308 tx sa "java/lang/IllegalArgumentException" U)) (va_Qv (fun (_ : Unit) => False) (fun _ _ => True) (va_A [] sz)) (vx_X (fun _ : Unit => True) (fun E _ _ => E = "java/lang/IllegalArgumentException") (va_A [] sz)) 1 6 (va_A [] sz) := by
  refine vx_ofW (cc := cX5_checkWhat) (maxL := 2) (ret := none) (by decide) rfl ?_
  intro p e s m args below meth c s₁ B hml htb hv
  obtain ⟨rfl, ⟨hsz, hP, hK, hD0⟩, hXs⟩ := hv
  have hx := B.exec
  have hb := B.bytes
  have hr := B.returns
  have hts := atoms_spec (ws := wsX5_checkWhat) B.pre
  have hown : s.vm.findClass RX5 = some m.cls := findClass_of_methodNamed B.named
  have hlocks := B.notSynchronized
  subst hsz
  have hD := hD0.self (sz := s.heap.size)
  generalize hAe : va_A [] s.heap.size = A at hD hXs ⊢
  have hA : ∀ q : Nat, s.heap.size ≤ q → A q := fun q h => by rw [← hAe]; exact Or.inr h
  have hS : va_S A s.heap s.heap [] := va_S.rf
  have hP : va_P (dC, dI) vwCl [] s.heap := hP
  have hK : va_K (dC, dI) vwCl [] s := hK
  have hl := lv_entry ([.int wh, .int la]) (n := 2) (Nat.le_of_ble_eq_true rfl)
  rw [lg_entry_eq]
  generalize (lg_sl ([.int wh, .int la]) ++ List.replicate (2 - (lg_sl ([.int wh, .int la])).length) Slot.unset).toArray = ls at hl ⊢
  have hl : lv_has ls 2 [(0, .int wh), (1, .int la)] := hl
  refine lv_iload_n hx hb dX5_checkWhat_0 rfl (lv_at hl 0 rfl) ?_
  refine lv_if_lt (tgt := 9) hx hb dX5_checkWhat_1 (by decide) (fun hc_1 => ?_) (fun hc_1 => ?_)
  · exact vx_throwSW (A := A) (names := ["java/lang/RuntimeException", "java/lang/Exception"]) hx hb hfl hown (by decide +kernel) (by decide +kernel) (hts (.classLink RX5 48 "java/lang/IllegalArgumentException") (by decide +kernel)) (hts (.initialized "java/lang/IllegalArgumentException") (by decide +kernel)) hXs.2.2.1 (vx_hat (B := [.declares ⟨"java/lang/RuntimeException", "<init>", "(Ljava/lang/String;)V"⟩, .declares ⟨"java/lang/Exception", "<init>", "(Ljava/lang/String;)V"⟩, .declares ⟨"java/lang/Throwable", "<init>", "(Ljava/lang/String;)V"⟩, .castable "java/lang/IllegalArgumentException" "java/lang/IllegalArgumentException"]) (fun w h => hts w (List.mem_cons_of_mem _ (List.mem_append_right _ h))) (xB_52) (vx_c (va_Nw.use rfl hXs.2.2.2.2.1) (vx_c (va_Nw.use rfl hXs.2.2.2.2.2.1) (vx_c (va_Nw.use rfl hXs.2.2.2.2.2.2) (vx_c (va_Nw.use rfl hXs.2.2.2.1) vx_n))))) (xG_52) (hXs.1) (hXs.2.1) hS (by rw [hml]; exact hl.1) dX5_checkWhat_9 dX5_checkWhat_12 dX5_checkWhat_13 dX5_checkWhat_16 dX5_checkWhat_19 (fun x hx9 => (htb x hx9).elim) (Nat.lt_of_lt_of_le (by decide : 5 < 6) (Nat.le_of_ble_eq_true rfl)) (Nat.le_of_ble_eq_true rfl) (Nat.le_of_ble_eq_true rfl) (Nat.le_of_ble_eq_true rfl) hlocks (fun t hvm hz9 hk9 => ⟨(), trivial, rfl, Nat.le_trans hS.1 hz9, fun q h1 h2 => (hk9 q (Nat.lt_of_lt_of_le h1 hS.1)).trans (hS.2.1 q h1 h2)⟩) hS.2.2 (Nat.le_of_ble_eq_true rfl) (Nat.le_of_ble_eq_true rfl)
  · refine lv_iload_n hx hb dX5_checkWhat_4 rfl (lv_at hl 0 rfl) ?_
    refine lv_iload_n hx hb dX5_checkWhat_5 rfl (lv_at hl 1 rfl) ?_
    refine lv_icmp_le (tgt := 20) hx hb dX5_checkWhat_6 (by decide) (fun h9 => ((hbd.resolve_left (by assumption)) h9).elim) (fun _ => ?_)
    exact vx_throwSW (A := A) (names := ["java/lang/RuntimeException", "java/lang/Exception"]) hx hb hfl hown (by decide +kernel) (by decide +kernel) (hts (.classLink RX5 48 "java/lang/IllegalArgumentException") (by decide +kernel)) (hts (.initialized "java/lang/IllegalArgumentException") (by decide +kernel)) hXs.2.2.1 (vx_hat (B := [.declares ⟨"java/lang/RuntimeException", "<init>", "(Ljava/lang/String;)V"⟩, .declares ⟨"java/lang/Exception", "<init>", "(Ljava/lang/String;)V"⟩, .declares ⟨"java/lang/Throwable", "<init>", "(Ljava/lang/String;)V"⟩, .castable "java/lang/IllegalArgumentException" "java/lang/IllegalArgumentException"]) (fun w h => hts w (List.mem_cons_of_mem _ (List.mem_append_right _ h))) (xB_52) (vx_c (va_Nw.use rfl hXs.2.2.2.2.1) (vx_c (va_Nw.use rfl hXs.2.2.2.2.2.1) (vx_c (va_Nw.use rfl hXs.2.2.2.2.2.2) (vx_c (va_Nw.use rfl hXs.2.2.2.1) vx_n))))) (xG_52) (hXs.1) (hXs.2.1) hS (by rw [hml]; exact hl.1) dX5_checkWhat_9 dX5_checkWhat_12 dX5_checkWhat_13 dX5_checkWhat_16 dX5_checkWhat_19 (fun x hx9 => (htb x hx9).elim) (Nat.lt_of_lt_of_le (by decide : 5 < 6) (Nat.le_of_ble_eq_true rfl)) (Nat.le_of_ble_eq_true rfl) (Nat.le_of_ble_eq_true rfl) (Nat.le_of_ble_eq_true rfl) hlocks (fun t hvm hz9 hk9 => ⟨(), trivial, rfl, Nat.le_trans hS.1 hz9, fun q h1 h2 => (hk9 q (Nat.lt_of_lt_of_le h1 hS.1)).trans (hS.2.1 q h1 h2)⟩) hS.2.2 (Nat.le_of_ble_eq_true rfl) (Nat.le_of_ble_eq_true rfl)

set_option maxHeartbeats 4000000 in
set_option maxRecDepth 100000 in
theorem cx_X5_checkCandidate (l : Launch) (hfl : l.stackTraces = false) (dC : Nat → ClassId) (dI : Nat → Nat → Nat) (x : Nat) (po : Nat) (tr : Nat) (sp : Nat) (pa : Nat) (bx : Nat) (b0 : Nat) (b1 : Nat) (b4 : Nat) (b6 : Nat) (ca : Int32) (tx : String) (sa : Nat) (sz : Nat)  : vx_Met l yX5_checkCandidate wsX5_checkCandidate ({ frames := 6, cells := 1, slots := 6, locals := 95 }) (va_Pc [.ref x, .int ca] (fun U => pr_ dC dI [(x, .inr (7, [.ref bx, .ref po, .ref tr, .ref pa, .ref sp])), (bx, .inr (2, [.ref b0, .ref b1, .int 0, .int 0, .ref b4, .int 0, .ref b6, .int 0, .int 0, .int 0, .int 0]))] [] sz U ∧ xs_ (va_A [(x, .inr (7, [.ref bx, .ref po, .ref tr, .ref pa, .ref sp])), (bx, .inr (2, [.ref b0, .ref b1, .int 0, .int 0, .ref b4, .int 0, .ref b6, .int 0, .int 0, .int 0, .int 0]))] sz) 296 tx sa "java/lang/IndexOutOfBoundsException" U)) (va_Qv (fun (_ : Unit) => False) (fun _ _ => True) (va_A [(x, .inr (7, [.ref bx, .ref po, .ref tr, .ref pa, .ref sp])), (bx, .inr (2, [.ref b0, .ref b1, .int 0, .int 0, .ref b4, .int 0, .ref b6, .int 0, .int 0, .int 0, .int 0]))] sz)) (vx_X (fun _ : Unit => True) (fun E _ _ => E = "java/lang/IndexOutOfBoundsException") (va_A [(x, .inr (7, [.ref bx, .ref po, .ref tr, .ref pa, .ref sp])), (bx, .inr (2, [.ref b0, .ref b1, .int 0, .int 0, .ref b4, .int 0, .ref b6, .int 0, .int 0, .int 0, .int 0]))] sz)) 1 6 (va_A [(x, .inr (7, [.ref bx, .ref po, .ref tr, .ref pa, .ref sp])), (bx, .inr (2, [.ref b0, .ref b1, .int 0, .int 0, .ref b4, .int 0, .ref b6, .int 0, .int 0, .int 0, .int 0]))] sz) := by
  refine vx_ofW (cc := cX5_checkCandidate) (maxL := 2) (ret := none) (by decide) rfl ?_
  intro p e s m args below meth c s₁ B hml htb hv
  obtain ⟨rfl, ⟨hsz, hP, hK, hD0⟩, hXs⟩ := hv
  have hx := B.exec
  have hb := B.bytes
  have hr := B.returns
  have hts := atoms_spec (ws := wsX5_checkCandidate) B.pre
  have hown : s.vm.findClass RX5 = some m.cls := findClass_of_methodNamed B.named
  have hlocks := B.notSynchronized
  subst hsz
  have hD := hD0.self (sz := s.heap.size)
  generalize hAe : va_A [(x, .inr (7, [.ref bx, .ref po, .ref tr, .ref pa, .ref sp])), (bx, .inr (2, [.ref b0, .ref b1, .int 0, .int 0, .ref b4, .int 0, .ref b6, .int 0, .int 0, .int 0, .int 0]))] s.heap.size = A at hD hXs ⊢
  have hA : ∀ q : Nat, s.heap.size ≤ q → A q := fun q h => by rw [← hAe]; exact Or.inr h
  have hS : va_S A s.heap s.heap [] := va_S.rf
  have hP : va_P (dC, dI) vwCl [(x, .inr (7, [.ref bx, .ref po, .ref tr, .ref pa, .ref sp])), (bx, .inr (2, [.ref b0, .ref b1, .int 0, .int 0, .ref b4, .int 0, .ref b6, .int 0, .int 0, .int 0, .int 0]))] s.heap := hP
  have hK : va_K (dC, dI) vwCl [] s := hK
  have hl := lv_entry ([.ref x, .int ca]) (n := 2) (Nat.le_of_ble_eq_true rfl)
  rw [lg_entry_eq]
  generalize (lg_sl ([.ref x, .int ca]) ++ List.replicate (2 - (lg_sl ([.ref x, .int ca])).length) Slot.unset).toArray = ls at hl ⊢
  have hl : lv_has ls 2 [(0, .ref x), (1, .int ca)] := hl
  refine lv_iload_n hx hb dX5_checkCandidate_0 rfl (lv_at hl 1 rfl) ?_
  refine lv_if_lt (tgt := 15) hx hb dX5_checkCandidate_1 (by decide) (fun hc_1 => ?_) (fun hc_1 => ?_)
  · exact vx_throwSW (A := A) (names := ["java/lang/RuntimeException", "java/lang/Exception"]) hx hb hfl hown (by decide +kernel) (by decide +kernel) (hts (.classLink RX5 294 "java/lang/IndexOutOfBoundsException") (by decide +kernel)) (hts (.initialized "java/lang/IndexOutOfBoundsException") (by decide +kernel)) hXs.2.2.1 (vx_hat (B := [.declares ⟨"java/lang/RuntimeException", "<init>", "(Ljava/lang/String;)V"⟩, .declares ⟨"java/lang/Exception", "<init>", "(Ljava/lang/String;)V"⟩, .declares ⟨"java/lang/Throwable", "<init>", "(Ljava/lang/String;)V"⟩, .castable "java/lang/IndexOutOfBoundsException" "java/lang/IndexOutOfBoundsException"]) (fun w h => hts w (List.mem_cons_of_mem _ (List.mem_append_right _ h))) (xB_298) (vx_c (va_Nw.use rfl hXs.2.2.2.2.1) (vx_c (va_Nw.use rfl hXs.2.2.2.2.2.1) (vx_c (va_Nw.use rfl hXs.2.2.2.2.2.2) (vx_c (va_Nw.use rfl hXs.2.2.2.1) vx_n))))) (xG_298) (hXs.1) (hXs.2.1) hS (by rw [hml]; exact hl.1) dX5_checkCandidate_15 dX5_checkCandidate_18 dX5_checkCandidate_19 dX5_checkCandidate_22 dX5_checkCandidate_25 (fun x hx9 => (htb x hx9).elim) (Nat.lt_of_lt_of_le (by decide : 5 < 6) (Nat.le_of_ble_eq_true rfl)) (Nat.le_of_ble_eq_true rfl) (Nat.le_of_ble_eq_true rfl) (Nat.le_of_ble_eq_true rfl) hlocks (fun t hvm hz9 hk9 => ⟨(), trivial, rfl, Nat.le_trans hS.1 hz9, fun q h1 h2 => (hk9 q (Nat.lt_of_lt_of_le h1 hS.1)).trans (hS.2.1 q h1 h2)⟩) hS.2.2 (Nat.le_of_ble_eq_true rfl) (Nat.le_of_ble_eq_true rfl)
  · refine lv_iload_n hx hb dX5_checkCandidate_4 rfl (lv_at hl 1 rfl) ?_
    refine lv_aload_n hx hb dX5_checkCandidate_5 rfl (lv_at hl 0 rfl) ?_
    have hinX5 : ∀ w ∈ u_ws RX5 TX5 5, w ∈ wsX5_checkCandidate := by decide +kernel
    refine va_get (D := (dC, dI)) (ci := 7) (v := .ref bx) (C := RX5) (T := TX5) (N := 5) hx hb hts hinX5 hown hK hP 0 rfl rfl 0 (by decide) (hts (.fieldLink RX5 10 "BallotLoom" "box" "LBallotLoom$Box;") (by decide +kernel)) (fun _ h9 => h9) rfl dX5_checkCandidate_6 ?_
    have hinX0 : ∀ w ∈ u_ws RX0 TX0 11, w ∈ wsX5_checkCandidate := by decide +kernel
    refine va_get (D := (dC, dI)) (ci := 2) (v := .int 0) (C := RX0) (T := TX0) (N := 11) hx hb hts hinX0 hown hK hP 1 rfl rfl 2 (by decide) (hts (.fieldLink RX5 55 "BallotLoom$Box" "candidates" "I") (by decide +kernel)) (fun _ h9 => h9) rfl dX5_checkCandidate_9 ?_
    refine lv_icmp_lt (tgt := 26) hx hb dX5_checkCandidate_12 (by decide) (fun h9 => (hc_1 h9).elim) (fun _ => ?_)
    exact vx_throwSW (A := A) (names := ["java/lang/RuntimeException", "java/lang/Exception"]) hx hb hfl hown (by decide +kernel) (by decide +kernel) (hts (.classLink RX5 294 "java/lang/IndexOutOfBoundsException") (by decide +kernel)) (hts (.initialized "java/lang/IndexOutOfBoundsException") (by decide +kernel)) hXs.2.2.1 (vx_hat (B := [.declares ⟨"java/lang/RuntimeException", "<init>", "(Ljava/lang/String;)V"⟩, .declares ⟨"java/lang/Exception", "<init>", "(Ljava/lang/String;)V"⟩, .declares ⟨"java/lang/Throwable", "<init>", "(Ljava/lang/String;)V"⟩, .castable "java/lang/IndexOutOfBoundsException" "java/lang/IndexOutOfBoundsException"]) (fun w h => hts w (List.mem_cons_of_mem _ (List.mem_append_right _ h))) (xB_298) (vx_c (va_Nw.use rfl hXs.2.2.2.2.1) (vx_c (va_Nw.use rfl hXs.2.2.2.2.2.1) (vx_c (va_Nw.use rfl hXs.2.2.2.2.2.2) (vx_c (va_Nw.use rfl hXs.2.2.2.1) vx_n))))) (xG_298) (hXs.1) (hXs.2.1) hS (by rw [hml]; exact hl.1) dX5_checkCandidate_15 dX5_checkCandidate_18 dX5_checkCandidate_19 dX5_checkCandidate_22 dX5_checkCandidate_25 (fun x hx9 => (htb x hx9).elim) (Nat.lt_of_lt_of_le (by decide : 5 < 6) (Nat.le_of_ble_eq_true rfl)) (Nat.le_of_ble_eq_true rfl) (Nat.le_of_ble_eq_true rfl) (Nat.le_of_ble_eq_true rfl) hlocks (fun t hvm hz9 hk9 => ⟨(), trivial, rfl, Nat.le_trans hS.1 hz9, fun q h1 h2 => (hk9 q (Nat.lt_of_lt_of_le h1 hS.1)).trans (hS.2.1 q h1 h2)⟩) hS.2.2 (Nat.le_of_ble_eq_true rfl) (Nat.le_of_ble_eq_true rfl)

set_option maxHeartbeats 4000000 in
set_option maxRecDepth 100000 in
theorem cx_X5_checkDistrict (l : Launch) (hfl : l.stackTraces = false) (dC : Nat → ClassId) (dI : Nat → Nat → Nat) (x : Nat) (po : Nat) (tr : Nat) (sp : Nat) (pa : Nat) (bx : Nat) (b0 : Nat) (b1 : Nat) (b4 : Nat) (b6 : Nat) (ca : Int32) (tx : String) (sa : Nat) (sz : Nat)  : vx_Met l yX5_checkDistrict wsX5_checkDistrict ({ frames := 6, cells := 1, slots := 6, locals := 95 }) (va_Pc [.ref x, .int ca] (fun U => pr_ dC dI [(x, .inr (7, [.ref bx, .ref po, .ref tr, .ref pa, .ref sp])), (bx, .inr (2, [.ref b0, .ref b1, .int 0, .int 0, .ref b4, .int 0, .ref b6, .int 0, .int 0, .int 0, .int 0]))] [] sz U ∧ xs_ (va_A [(x, .inr (7, [.ref bx, .ref po, .ref tr, .ref pa, .ref sp])), (bx, .inr (2, [.ref b0, .ref b1, .int 0, .int 0, .ref b4, .int 0, .ref b6, .int 0, .int 0, .int 0, .int 0]))] sz) 299 tx sa "java/lang/IndexOutOfBoundsException" U)) (va_Qv (fun (_ : Unit) => False) (fun _ _ => True) (va_A [(x, .inr (7, [.ref bx, .ref po, .ref tr, .ref pa, .ref sp])), (bx, .inr (2, [.ref b0, .ref b1, .int 0, .int 0, .ref b4, .int 0, .ref b6, .int 0, .int 0, .int 0, .int 0]))] sz)) (vx_X (fun _ : Unit => True) (fun E _ _ => E = "java/lang/IndexOutOfBoundsException") (va_A [(x, .inr (7, [.ref bx, .ref po, .ref tr, .ref pa, .ref sp])), (bx, .inr (2, [.ref b0, .ref b1, .int 0, .int 0, .ref b4, .int 0, .ref b6, .int 0, .int 0, .int 0, .int 0]))] sz)) 1 6 (va_A [(x, .inr (7, [.ref bx, .ref po, .ref tr, .ref pa, .ref sp])), (bx, .inr (2, [.ref b0, .ref b1, .int 0, .int 0, .ref b4, .int 0, .ref b6, .int 0, .int 0, .int 0, .int 0]))] sz) := by
  refine vx_ofW (cc := cX5_checkDistrict) (maxL := 2) (ret := none) (by decide) rfl ?_
  intro p e s m args below meth c s₁ B hml htb hv
  obtain ⟨rfl, ⟨hsz, hP, hK, hD0⟩, hXs⟩ := hv
  have hx := B.exec
  have hb := B.bytes
  have hr := B.returns
  have hts := atoms_spec (ws := wsX5_checkDistrict) B.pre
  have hown : s.vm.findClass RX5 = some m.cls := findClass_of_methodNamed B.named
  have hlocks := B.notSynchronized
  subst hsz
  have hD := hD0.self (sz := s.heap.size)
  generalize hAe : va_A [(x, .inr (7, [.ref bx, .ref po, .ref tr, .ref pa, .ref sp])), (bx, .inr (2, [.ref b0, .ref b1, .int 0, .int 0, .ref b4, .int 0, .ref b6, .int 0, .int 0, .int 0, .int 0]))] s.heap.size = A at hD hXs ⊢
  have hA : ∀ q : Nat, s.heap.size ≤ q → A q := fun q h => by rw [← hAe]; exact Or.inr h
  have hS : va_S A s.heap s.heap [] := va_S.rf
  have hP : va_P (dC, dI) vwCl [(x, .inr (7, [.ref bx, .ref po, .ref tr, .ref pa, .ref sp])), (bx, .inr (2, [.ref b0, .ref b1, .int 0, .int 0, .ref b4, .int 0, .ref b6, .int 0, .int 0, .int 0, .int 0]))] s.heap := hP
  have hK : va_K (dC, dI) vwCl [] s := hK
  have hl := lv_entry ([.ref x, .int ca]) (n := 2) (Nat.le_of_ble_eq_true rfl)
  rw [lg_entry_eq]
  generalize (lg_sl ([.ref x, .int ca]) ++ List.replicate (2 - (lg_sl ([.ref x, .int ca])).length) Slot.unset).toArray = ls at hl ⊢
  have hl : lv_has ls 2 [(0, .ref x), (1, .int ca)] := hl
  refine lv_iload_n hx hb dX5_checkDistrict_0 rfl (lv_at hl 1 rfl) ?_
  refine lv_if_lt (tgt := 15) hx hb dX5_checkDistrict_1 (by decide) (fun hc_1 => ?_) (fun hc_1 => ?_)
  · exact vx_throwSW (A := A) (names := ["java/lang/RuntimeException", "java/lang/Exception"]) hx hb hfl hown (by decide +kernel) (by decide +kernel) (hts (.classLink RX5 294 "java/lang/IndexOutOfBoundsException") (by decide +kernel)) (hts (.initialized "java/lang/IndexOutOfBoundsException") (by decide +kernel)) hXs.2.2.1 (vx_hat (B := [.declares ⟨"java/lang/RuntimeException", "<init>", "(Ljava/lang/String;)V"⟩, .declares ⟨"java/lang/Exception", "<init>", "(Ljava/lang/String;)V"⟩, .declares ⟨"java/lang/Throwable", "<init>", "(Ljava/lang/String;)V"⟩, .castable "java/lang/IndexOutOfBoundsException" "java/lang/IndexOutOfBoundsException"]) (fun w h => hts w (List.mem_cons_of_mem _ (List.mem_append_right _ h))) (xB_298) (vx_c (va_Nw.use rfl hXs.2.2.2.2.1) (vx_c (va_Nw.use rfl hXs.2.2.2.2.2.1) (vx_c (va_Nw.use rfl hXs.2.2.2.2.2.2) (vx_c (va_Nw.use rfl hXs.2.2.2.1) vx_n))))) (xG_298) (hXs.1) (hXs.2.1) hS (by rw [hml]; exact hl.1) dX5_checkDistrict_15 dX5_checkDistrict_18 dX5_checkDistrict_19 dX5_checkDistrict_22 dX5_checkDistrict_25 (fun x hx9 => (htb x hx9).elim) (Nat.lt_of_lt_of_le (by decide : 5 < 6) (Nat.le_of_ble_eq_true rfl)) (Nat.le_of_ble_eq_true rfl) (Nat.le_of_ble_eq_true rfl) (Nat.le_of_ble_eq_true rfl) hlocks (fun t hvm hz9 hk9 => ⟨(), trivial, rfl, Nat.le_trans hS.1 hz9, fun q h1 h2 => (hk9 q (Nat.lt_of_lt_of_le h1 hS.1)).trans (hS.2.1 q h1 h2)⟩) hS.2.2 (Nat.le_of_ble_eq_true rfl) (Nat.le_of_ble_eq_true rfl)
  · refine lv_iload_n hx hb dX5_checkDistrict_4 rfl (lv_at hl 1 rfl) ?_
    refine lv_aload_n hx hb dX5_checkDistrict_5 rfl (lv_at hl 0 rfl) ?_
    have hinX5 : ∀ w ∈ u_ws RX5 TX5 5, w ∈ wsX5_checkDistrict := by decide +kernel
    refine va_get (D := (dC, dI)) (ci := 7) (v := .ref bx) (C := RX5) (T := TX5) (N := 5) hx hb hts hinX5 hown hK hP 0 rfl rfl 0 (by decide) (hts (.fieldLink RX5 10 "BallotLoom" "box" "LBallotLoom$Box;") (by decide +kernel)) (fun _ h9 => h9) rfl dX5_checkDistrict_6 ?_
    have hinX0 : ∀ w ∈ u_ws RX0 TX0 11, w ∈ wsX5_checkDistrict := by decide +kernel
    refine va_get (D := (dC, dI)) (ci := 2) (v := .int 0) (C := RX0) (T := TX0) (N := 11) hx hb hts hinX0 hown hK hP 1 rfl rfl 5 (by decide) (hts (.fieldLink RX5 86 "BallotLoom$Box" "districts" "I") (by decide +kernel)) (fun _ h9 => h9) rfl dX5_checkDistrict_9 ?_
    refine lv_icmp_lt (tgt := 26) hx hb dX5_checkDistrict_12 (by decide) (fun h9 => (hc_1 h9).elim) (fun _ => ?_)
    exact vx_throwSW (A := A) (names := ["java/lang/RuntimeException", "java/lang/Exception"]) hx hb hfl hown (by decide +kernel) (by decide +kernel) (hts (.classLink RX5 294 "java/lang/IndexOutOfBoundsException") (by decide +kernel)) (hts (.initialized "java/lang/IndexOutOfBoundsException") (by decide +kernel)) hXs.2.2.1 (vx_hat (B := [.declares ⟨"java/lang/RuntimeException", "<init>", "(Ljava/lang/String;)V"⟩, .declares ⟨"java/lang/Exception", "<init>", "(Ljava/lang/String;)V"⟩, .declares ⟨"java/lang/Throwable", "<init>", "(Ljava/lang/String;)V"⟩, .castable "java/lang/IndexOutOfBoundsException" "java/lang/IndexOutOfBoundsException"]) (fun w h => hts w (List.mem_cons_of_mem _ (List.mem_append_right _ h))) (xB_298) (vx_c (va_Nw.use rfl hXs.2.2.2.2.1) (vx_c (va_Nw.use rfl hXs.2.2.2.2.2.1) (vx_c (va_Nw.use rfl hXs.2.2.2.2.2.2) (vx_c (va_Nw.use rfl hXs.2.2.2.1) vx_n))))) (xG_298) (hXs.1) (hXs.2.1) hS (by rw [hml]; exact hl.1) dX5_checkDistrict_15 dX5_checkDistrict_18 dX5_checkDistrict_19 dX5_checkDistrict_22 dX5_checkDistrict_25 (fun x hx9 => (htb x hx9).elim) (Nat.lt_of_lt_of_le (by decide : 5 < 6) (Nat.le_of_ble_eq_true rfl)) (Nat.le_of_ble_eq_true rfl) (Nat.le_of_ble_eq_true rfl) (Nat.le_of_ble_eq_true rfl) hlocks (fun t hvm hz9 hk9 => ⟨(), trivial, rfl, Nat.le_trans hS.1 hz9, fun q h1 h2 => (hk9 q (Nat.lt_of_lt_of_le h1 hS.1)).trans (hS.2.1 q h1 h2)⟩) hS.2.2 (Nat.le_of_ble_eq_true rfl) (Nat.le_of_ble_eq_true rfl)

set_option maxHeartbeats 4000000 in
set_option maxRecDepth 100000 in
theorem cx_X5_checkStack (l : Launch) (hfl : l.stackTraces = false) (dC : Nat → ClassId) (dI : Nat → Nat → Nat) (x : Nat) (po : Nat) (tr : Nat) (sp : Nat) (pa : Nat) (bx : Nat) (b0 : Nat) (b1 : Nat) (b4 : Nat) (b6 : Nat) (ca : Int32) (tx : String) (sa : Nat) (sz : Nat)  : vx_Met l yX5_checkStack wsX5_checkStack ({ frames := 6, cells := 1, slots := 6, locals := 95 }) (va_Pc [.ref x, .int ca] (fun U => pr_ dC dI [(x, .inr (7, [.ref bx, .ref po, .ref tr, .ref pa, .ref sp])), (bx, .inr (2, [.ref b0, .ref b1, .int 0, .int 0, .ref b4, .int 0, .ref b6, .int 0, .int 0, .int 0, .int 0]))] [] sz U ∧ xs_ (va_A [(x, .inr (7, [.ref bx, .ref po, .ref tr, .ref pa, .ref sp])), (bx, .inr (2, [.ref b0, .ref b1, .int 0, .int 0, .ref b4, .int 0, .ref b6, .int 0, .int 0, .int 0, .int 0]))] sz) 301 tx sa "java/lang/IndexOutOfBoundsException" U)) (va_Qv (fun (_ : Unit) => False) (fun _ _ => True) (va_A [(x, .inr (7, [.ref bx, .ref po, .ref tr, .ref pa, .ref sp])), (bx, .inr (2, [.ref b0, .ref b1, .int 0, .int 0, .ref b4, .int 0, .ref b6, .int 0, .int 0, .int 0, .int 0]))] sz)) (vx_X (fun _ : Unit => True) (fun E _ _ => E = "java/lang/IndexOutOfBoundsException") (va_A [(x, .inr (7, [.ref bx, .ref po, .ref tr, .ref pa, .ref sp])), (bx, .inr (2, [.ref b0, .ref b1, .int 0, .int 0, .ref b4, .int 0, .ref b6, .int 0, .int 0, .int 0, .int 0]))] sz)) 1 6 (va_A [(x, .inr (7, [.ref bx, .ref po, .ref tr, .ref pa, .ref sp])), (bx, .inr (2, [.ref b0, .ref b1, .int 0, .int 0, .ref b4, .int 0, .ref b6, .int 0, .int 0, .int 0, .int 0]))] sz) := by
  refine vx_ofW (cc := cX5_checkStack) (maxL := 2) (ret := none) (by decide) rfl ?_
  intro p e s m args below meth c s₁ B hml htb hv
  obtain ⟨rfl, ⟨hsz, hP, hK, hD0⟩, hXs⟩ := hv
  have hx := B.exec
  have hb := B.bytes
  have hr := B.returns
  have hts := atoms_spec (ws := wsX5_checkStack) B.pre
  have hown : s.vm.findClass RX5 = some m.cls := findClass_of_methodNamed B.named
  have hlocks := B.notSynchronized
  subst hsz
  have hD := hD0.self (sz := s.heap.size)
  generalize hAe : va_A [(x, .inr (7, [.ref bx, .ref po, .ref tr, .ref pa, .ref sp])), (bx, .inr (2, [.ref b0, .ref b1, .int 0, .int 0, .ref b4, .int 0, .ref b6, .int 0, .int 0, .int 0, .int 0]))] s.heap.size = A at hD hXs ⊢
  have hA : ∀ q : Nat, s.heap.size ≤ q → A q := fun q h => by rw [← hAe]; exact Or.inr h
  have hS : va_S A s.heap s.heap [] := va_S.rf
  have hP : va_P (dC, dI) vwCl [(x, .inr (7, [.ref bx, .ref po, .ref tr, .ref pa, .ref sp])), (bx, .inr (2, [.ref b0, .ref b1, .int 0, .int 0, .ref b4, .int 0, .ref b6, .int 0, .int 0, .int 0, .int 0]))] s.heap := hP
  have hK : va_K (dC, dI) vwCl [] s := hK
  have hl := lv_entry ([.ref x, .int ca]) (n := 2) (Nat.le_of_ble_eq_true rfl)
  rw [lg_entry_eq]
  generalize (lg_sl ([.ref x, .int ca]) ++ List.replicate (2 - (lg_sl ([.ref x, .int ca])).length) Slot.unset).toArray = ls at hl ⊢
  have hl : lv_has ls 2 [(0, .ref x), (1, .int ca)] := hl
  refine lv_iload_n hx hb dX5_checkStack_0 rfl (lv_at hl 1 rfl) ?_
  refine lv_if_lt (tgt := 15) hx hb dX5_checkStack_1 (by decide) (fun hc_1 => ?_) (fun hc_1 => ?_)
  · exact vx_throwSW (A := A) (names := ["java/lang/RuntimeException", "java/lang/Exception"]) hx hb hfl hown (by decide +kernel) (by decide +kernel) (hts (.classLink RX5 294 "java/lang/IndexOutOfBoundsException") (by decide +kernel)) (hts (.initialized "java/lang/IndexOutOfBoundsException") (by decide +kernel)) hXs.2.2.1 (vx_hat (B := [.declares ⟨"java/lang/RuntimeException", "<init>", "(Ljava/lang/String;)V"⟩, .declares ⟨"java/lang/Exception", "<init>", "(Ljava/lang/String;)V"⟩, .declares ⟨"java/lang/Throwable", "<init>", "(Ljava/lang/String;)V"⟩, .castable "java/lang/IndexOutOfBoundsException" "java/lang/IndexOutOfBoundsException"]) (fun w h => hts w (List.mem_cons_of_mem _ (List.mem_append_right _ h))) (xB_298) (vx_c (va_Nw.use rfl hXs.2.2.2.2.1) (vx_c (va_Nw.use rfl hXs.2.2.2.2.2.1) (vx_c (va_Nw.use rfl hXs.2.2.2.2.2.2) (vx_c (va_Nw.use rfl hXs.2.2.2.1) vx_n))))) (xG_298) (hXs.1) (hXs.2.1) hS (by rw [hml]; exact hl.1) dX5_checkStack_15 dX5_checkStack_18 dX5_checkStack_19 dX5_checkStack_22 dX5_checkStack_25 (fun x hx9 => (htb x hx9).elim) (Nat.lt_of_lt_of_le (by decide : 5 < 6) (Nat.le_of_ble_eq_true rfl)) (Nat.le_of_ble_eq_true rfl) (Nat.le_of_ble_eq_true rfl) (Nat.le_of_ble_eq_true rfl) hlocks (fun t hvm hz9 hk9 => ⟨(), trivial, rfl, Nat.le_trans hS.1 hz9, fun q h1 h2 => (hk9 q (Nat.lt_of_lt_of_le h1 hS.1)).trans (hS.2.1 q h1 h2)⟩) hS.2.2 (Nat.le_of_ble_eq_true rfl) (Nat.le_of_ble_eq_true rfl)
  · refine lv_iload_n hx hb dX5_checkStack_4 rfl (lv_at hl 1 rfl) ?_
    refine lv_aload_n hx hb dX5_checkStack_5 rfl (lv_at hl 0 rfl) ?_
    have hinX5 : ∀ w ∈ u_ws RX5 TX5 5, w ∈ wsX5_checkStack := by decide +kernel
    refine va_get (D := (dC, dI)) (ci := 7) (v := .ref bx) (C := RX5) (T := TX5) (N := 5) hx hb hts hinX5 hown hK hP 0 rfl rfl 0 (by decide) (hts (.fieldLink RX5 10 "BallotLoom" "box" "LBallotLoom$Box;") (by decide +kernel)) (fun _ h9 => h9) rfl dX5_checkStack_6 ?_
    have hinX0 : ∀ w ∈ u_ws RX0 TX0 11, w ∈ wsX5_checkStack := by decide +kernel
    refine va_get (D := (dC, dI)) (ci := 2) (v := .int 0) (C := RX0) (T := TX0) (N := 11) hx hb hts hinX0 hown hK hP 1 rfl rfl 7 (by decide) (hts (.fieldLink RX5 106 "BallotLoom$Box" "cast" "I") (by decide +kernel)) (fun _ h9 => h9) rfl dX5_checkStack_9 ?_
    refine lv_icmp_lt (tgt := 26) hx hb dX5_checkStack_12 (by decide) (fun h9 => (hc_1 h9).elim) (fun _ => ?_)
    exact vx_throwSW (A := A) (names := ["java/lang/RuntimeException", "java/lang/Exception"]) hx hb hfl hown (by decide +kernel) (by decide +kernel) (hts (.classLink RX5 294 "java/lang/IndexOutOfBoundsException") (by decide +kernel)) (hts (.initialized "java/lang/IndexOutOfBoundsException") (by decide +kernel)) hXs.2.2.1 (vx_hat (B := [.declares ⟨"java/lang/RuntimeException", "<init>", "(Ljava/lang/String;)V"⟩, .declares ⟨"java/lang/Exception", "<init>", "(Ljava/lang/String;)V"⟩, .declares ⟨"java/lang/Throwable", "<init>", "(Ljava/lang/String;)V"⟩, .castable "java/lang/IndexOutOfBoundsException" "java/lang/IndexOutOfBoundsException"]) (fun w h => hts w (List.mem_cons_of_mem _ (List.mem_append_right _ h))) (xB_298) (vx_c (va_Nw.use rfl hXs.2.2.2.2.1) (vx_c (va_Nw.use rfl hXs.2.2.2.2.2.1) (vx_c (va_Nw.use rfl hXs.2.2.2.2.2.2) (vx_c (va_Nw.use rfl hXs.2.2.2.1) vx_n))))) (xG_298) (hXs.1) (hXs.2.1) hS (by rw [hml]; exact hl.1) dX5_checkStack_15 dX5_checkStack_18 dX5_checkStack_19 dX5_checkStack_22 dX5_checkStack_25 (fun x hx9 => (htb x hx9).elim) (Nat.lt_of_lt_of_le (by decide : 5 < 6) (Nat.le_of_ble_eq_true rfl)) (Nat.le_of_ble_eq_true rfl) (Nat.le_of_ble_eq_true rfl) (Nat.le_of_ble_eq_true rfl) hlocks (fun t hvm hz9 hk9 => ⟨(), trivial, rfl, Nat.le_trans hS.1 hz9, fun q h1 h2 => (hk9 q (Nat.lt_of_lt_of_le h1 hS.1)).trans (hS.2.1 q h1 h2)⟩) hS.2.2 (Nat.le_of_ble_eq_true rfl) (Nat.le_of_ble_eq_true rfl)

set_option maxHeartbeats 4000000 in
set_option maxRecDepth 100000 in
theorem cx_X5_withdraw (l : Launch) (hfl : l.stackTraces = false) (dC : Nat → ClassId) (dI : Nat → Nat → Nat) (x : Nat) (po : Nat) (tr : Nat) (sp : Nat) (pa : Nat) (bx : Nat) (b0 : Nat) (b1 : Nat) (b4 : Nat) (b6 : Nat) (a0 : Int32) (tx : String) (sa : Nat) (sz : Nat)  : vx_Met l yX5_withdraw wsX5_withdraw ({ frames := 7, cells := 1, slots := 6, locals := 120 }) (va_Pc [.ref x, .int a0] (fun U => pr_ dC dI [(x, .inr (7, [.ref bx, .ref po, .ref tr, .ref pa, .ref sp])), (bx, .inr (2, [.ref b0, .ref b1, .int 0, .int 0, .ref b4, .int 0, .ref b6, .int 0, .int 0, .int 0, .int 0]))] [] sz U ∧ xs_ (va_A [(x, .inr (7, [.ref bx, .ref po, .ref tr, .ref pa, .ref sp])), (bx, .inr (2, [.ref b0, .ref b1, .int 0, .int 0, .ref b4, .int 0, .ref b6, .int 0, .int 0, .int 0, .int 0]))] sz) 296 tx sa "java/lang/IndexOutOfBoundsException" U)) (va_Qi (fun (_ : Int32) (_ : Unit) => False) (fun _ _ => True) (va_A [(x, .inr (7, [.ref bx, .ref po, .ref tr, .ref pa, .ref sp])), (bx, .inr (2, [.ref b0, .ref b1, .int 0, .int 0, .ref b4, .int 0, .ref b6, .int 0, .int 0, .int 0, .int 0]))] sz)) (vx_X (fun _ : Unit => True) (fun E _ _ => E = "java/lang/IndexOutOfBoundsException") (va_A [(x, .inr (7, [.ref bx, .ref po, .ref tr, .ref pa, .ref sp])), (bx, .inr (2, [.ref b0, .ref b1, .int 0, .int 0, .ref b4, .int 0, .ref b6, .int 0, .int 0, .int 0, .int 0]))] sz)) 1 6 (va_A [(x, .inr (7, [.ref bx, .ref po, .ref tr, .ref pa, .ref sp])), (bx, .inr (2, [.ref b0, .ref b1, .int 0, .int 0, .ref b4, .int 0, .ref b6, .int 0, .int 0, .int 0, .int 0]))] sz) := by
  refine vx_ofW (cc := cX5_withdraw) (maxL := 2) (ret := (some .int)) (by decide) rfl ?_
  intro p e s m args below meth c s₁ B hml htb hv
  obtain ⟨rfl, ⟨hsz, hP, hK, hD0⟩, hXs⟩ := hv
  have hx := B.exec
  have hb := B.bytes
  have hr := B.returns
  have hts := atoms_spec (ws := wsX5_withdraw) B.pre
  have hown : s.vm.findClass RX5 = some m.cls := findClass_of_methodNamed B.named
  have hlocks := B.notSynchronized
  subst hsz
  have hD := hD0.self (sz := s.heap.size)
  generalize hAe : va_A [(x, .inr (7, [.ref bx, .ref po, .ref tr, .ref pa, .ref sp])), (bx, .inr (2, [.ref b0, .ref b1, .int 0, .int 0, .ref b4, .int 0, .ref b6, .int 0, .int 0, .int 0, .int 0]))] s.heap.size = A at hD hXs ⊢
  have hA : ∀ q : Nat, s.heap.size ≤ q → A q := fun q h => by rw [← hAe]; exact Or.inr h
  have hS : va_S A s.heap s.heap [] := va_S.rf
  have hP : va_P (dC, dI) vwCl [(x, .inr (7, [.ref bx, .ref po, .ref tr, .ref pa, .ref sp])), (bx, .inr (2, [.ref b0, .ref b1, .int 0, .int 0, .ref b4, .int 0, .ref b6, .int 0, .int 0, .int 0, .int 0]))] s.heap := hP
  have hK : va_K (dC, dI) vwCl [] s := hK
  have hl := lv_entry ([.ref x, .int a0]) (n := 2) (Nat.le_of_ble_eq_true rfl)
  rw [lg_entry_eq]
  generalize (lg_sl ([.ref x, .int a0]) ++ List.replicate (2 - (lg_sl ([.ref x, .int a0])).length) Slot.unset).toArray = ls at hl ⊢
  have hl : lv_has ls 2 [(0, .ref x), (1, .int a0)] := hl
  refine lv_aload_n hx hb dX5_withdraw_0 rfl (lv_at hl 0 rfl) ?_
  refine lv_iload_n hx hb dX5_withdraw_1 rfl (lv_at hl 1 rfl) ?_
  have hPc := hP.sub (ws' := [(x, .inr (7, [.ref bx, .ref po, .ref tr, .ref pa, .ref sp])), (bx, .inr (2, [.ref b0, .ref b1, .int 0, .int 0, .ref b4, .int 0, .ref b6, .int 0, .int 0, .int 0, .int 0]))]) [0, 1] rfl
  have hDc := hD.sub (ws' := [(x, .inr (7, [.ref bx, .ref po, .ref tr, .ref pa, .ref sp])), (bx, .inr (2, [.ref b0, .ref b1, .int 0, .int 0, .ref b4, .int 0, .ref b6, .int 0, .int 0, .int 0, .int 0]))]) [0, 1] (by decide) rfl
  have hKc := hK.sub (tys' := []) [] rfl
  have hFc := va_free (wc := [(x, .inr (7, [.ref bx, .ref po, .ref tr, .ref pa, .ref sp])), (bx, .inr (2, [.ref b0, .ref b1, .int 0, .int 0, .ref b4, .int 0, .ref b6, .int 0, .int 0, .int 0, .int 0]))]) hD hS hA [0, 1] rfl
  refine vx_callv (vx_runV (As := [.int a0]) (rest := []) ⟨hx, hb, hml, hown, hts⟩ (cx_X5_checkCandidate l hfl dC dI x po tr sp pa bx b0 b1 b4 b6 a0 tx sa _ ) (cwV 1 hts gX5_withdraw_X5_checkCandidate rfl rfl rfl (by decide +kernel) ⟨Nat.le_of_ble_eq_true rfl, Nat.le_of_ble_eq_true rfl⟩) ⟨px_blind, va_recv hKc hPc (ci := 7) (q0 := 0) rfl rfl, fun U hU hW => ⟨rfl, pr_mk hU hW hPc hKc hDc, xs_mk hU hW hS hFc hXs⟩⟩ rfl rfl hl.1 rfl (lv_room (Nat.le_of_ble_eq_true rfl)) dX5_withdraw_2 ⟨Nat.le_of_ble_eq_true rfl, Nat.le_of_ble_eq_true rfl⟩) hS (fun q _ h => hFc q h) hFc (fun q _ h => hFc q h) (fun E ce q9 u t H1 locs1 ht hvm hpx hB hz1 hk1 hS1 hce hcv hcl => ?_) (fun u t H1 locs1 ht hvm hw hB hz1 hk1 hS1 => hw.elim)
  obtain rfl : E = "java/lang/IndexOutOfBoundsException" := hB
  exact vx_out (fun x hx9 => (htb x hx9).elim) hlocks hce hcv hcl (fun t9 ht9 hvm9 => ⟨(), trivial, rfl, hS1.F ht9⟩) hS1.2.2 (Nat.le_of_ble_eq_true rfl) (Nat.le_of_ble_eq_true rfl)

set_option maxHeartbeats 4000000 in
set_option maxRecDepth 100000 in
theorem cx_X5_cast (l : Launch) (hfl : l.stackTraces = false) (dC : Nat → ClassId) (dI : Nat → Nat → Nat) (x : Nat) (po : Nat) (tr : Nat) (sp : Nat) (pa : Nat) (bx : Nat) (b0 : Nat) (b1 : Nat) (b4 : Nat) (b6 : Nat) (a0 : Int32) (a1 : Int32) (a2 : Int32) (tx : String) (sa : Nat) (sz : Nat)  : vx_Met l yX5_cast wsX5_cast ({ frames := 7, cells := 1, slots := 6, locals := 120 }) (va_Pc [.ref x, .int a0, .int a1, .int a2] (fun U => pr_ dC dI [(x, .inr (7, [.ref bx, .ref po, .ref tr, .ref pa, .ref sp])), (bx, .inr (2, [.ref b0, .ref b1, .int 0, .int 0, .ref b4, .int 0, .ref b6, .int 0, .int 0, .int 0, .int 0]))] [] sz U ∧ xs_ (va_A [(x, .inr (7, [.ref bx, .ref po, .ref tr, .ref pa, .ref sp])), (bx, .inr (2, [.ref b0, .ref b1, .int 0, .int 0, .ref b4, .int 0, .ref b6, .int 0, .int 0, .int 0, .int 0]))] sz) 299 tx sa "java/lang/IndexOutOfBoundsException" U)) (va_Qi (fun (_ : Int32) (_ : Unit) => False) (fun _ _ => True) (va_A [(x, .inr (7, [.ref bx, .ref po, .ref tr, .ref pa, .ref sp])), (bx, .inr (2, [.ref b0, .ref b1, .int 0, .int 0, .ref b4, .int 0, .ref b6, .int 0, .int 0, .int 0, .int 0]))] sz)) (vx_X (fun _ : Unit => True) (fun E _ _ => E = "java/lang/IndexOutOfBoundsException") (va_A [(x, .inr (7, [.ref bx, .ref po, .ref tr, .ref pa, .ref sp])), (bx, .inr (2, [.ref b0, .ref b1, .int 0, .int 0, .ref b4, .int 0, .ref b6, .int 0, .int 0, .int 0, .int 0]))] sz)) 1 6 (va_A [(x, .inr (7, [.ref bx, .ref po, .ref tr, .ref pa, .ref sp])), (bx, .inr (2, [.ref b0, .ref b1, .int 0, .int 0, .ref b4, .int 0, .ref b6, .int 0, .int 0, .int 0, .int 0]))] sz) := by
  refine vx_ofW (cc := cX5_cast) (maxL := 4) (ret := (some .int)) (by decide) rfl ?_
  intro p e s m args below meth c s₁ B hml htb hv
  obtain ⟨rfl, ⟨hsz, hP, hK, hD0⟩, hXs⟩ := hv
  have hx := B.exec
  have hb := B.bytes
  have hr := B.returns
  have hts := atoms_spec (ws := wsX5_cast) B.pre
  have hown : s.vm.findClass RX5 = some m.cls := findClass_of_methodNamed B.named
  have hlocks := B.notSynchronized
  subst hsz
  have hD := hD0.self (sz := s.heap.size)
  generalize hAe : va_A [(x, .inr (7, [.ref bx, .ref po, .ref tr, .ref pa, .ref sp])), (bx, .inr (2, [.ref b0, .ref b1, .int 0, .int 0, .ref b4, .int 0, .ref b6, .int 0, .int 0, .int 0, .int 0]))] s.heap.size = A at hD hXs ⊢
  have hA : ∀ q : Nat, s.heap.size ≤ q → A q := fun q h => by rw [← hAe]; exact Or.inr h
  have hS : va_S A s.heap s.heap [] := va_S.rf
  have hP : va_P (dC, dI) vwCl [(x, .inr (7, [.ref bx, .ref po, .ref tr, .ref pa, .ref sp])), (bx, .inr (2, [.ref b0, .ref b1, .int 0, .int 0, .ref b4, .int 0, .ref b6, .int 0, .int 0, .int 0, .int 0]))] s.heap := hP
  have hK : va_K (dC, dI) vwCl [] s := hK
  have hl := lv_entry ([.ref x, .int a0, .int a1, .int a2]) (n := 4) (Nat.le_of_ble_eq_true rfl)
  rw [lg_entry_eq]
  generalize (lg_sl ([.ref x, .int a0, .int a1, .int a2]) ++ List.replicate (4 - (lg_sl ([.ref x, .int a0, .int a1, .int a2])).length) Slot.unset).toArray = ls at hl ⊢
  have hl : lv_has ls 4 [(0, .ref x), (1, .int a0), (2, .int a1), (3, .int a2)] := hl
  refine lv_aload_n hx hb dX5_cast_0 rfl (lv_at hl 0 rfl) ?_
  refine lv_iload_n hx hb dX5_cast_1 rfl (lv_at hl 1 rfl) ?_
  have hPc := hP.sub (ws' := [(x, .inr (7, [.ref bx, .ref po, .ref tr, .ref pa, .ref sp])), (bx, .inr (2, [.ref b0, .ref b1, .int 0, .int 0, .ref b4, .int 0, .ref b6, .int 0, .int 0, .int 0, .int 0]))]) [0, 1] rfl
  have hDc := hD.sub (ws' := [(x, .inr (7, [.ref bx, .ref po, .ref tr, .ref pa, .ref sp])), (bx, .inr (2, [.ref b0, .ref b1, .int 0, .int 0, .ref b4, .int 0, .ref b6, .int 0, .int 0, .int 0, .int 0]))]) [0, 1] (by decide) rfl
  have hKc := hK.sub (tys' := []) [] rfl
  have hFc := va_free (wc := [(x, .inr (7, [.ref bx, .ref po, .ref tr, .ref pa, .ref sp])), (bx, .inr (2, [.ref b0, .ref b1, .int 0, .int 0, .ref b4, .int 0, .ref b6, .int 0, .int 0, .int 0, .int 0]))]) hD hS hA [0, 1] rfl
  refine vx_callv (vx_runV (As := [.int a0]) (rest := []) ⟨hx, hb, hml, hown, hts⟩ (cx_X5_checkDistrict l hfl dC dI x po tr sp pa bx b0 b1 b4 b6 a0 tx sa _ ) (cwV 1 hts gX5_cast_X5_checkDistrict rfl rfl rfl (by decide +kernel) ⟨Nat.le_of_ble_eq_true rfl, Nat.le_of_ble_eq_true rfl⟩) ⟨px_blind, va_recv hKc hPc (ci := 7) (q0 := 0) rfl rfl, fun U hU hW => ⟨rfl, pr_mk hU hW hPc hKc hDc, xs_mk hU hW hS hFc hXs⟩⟩ rfl rfl hl.1 rfl (lv_room (Nat.le_of_ble_eq_true rfl)) dX5_cast_2 ⟨Nat.le_of_ble_eq_true rfl, Nat.le_of_ble_eq_true rfl⟩) hS (fun q _ h => hFc q h) hFc (fun q _ h => hFc q h) (fun E ce q9 u t H1 locs1 ht hvm hpx hB hz1 hk1 hS1 hce hcv hcl => ?_) (fun u t H1 locs1 ht hvm hw hB hz1 hk1 hS1 => hw.elim)
  obtain rfl : E = "java/lang/IndexOutOfBoundsException" := hB
  exact vx_out (fun x hx9 => (htb x hx9).elim) hlocks hce hcv hcl (fun t9 ht9 hvm9 => ⟨(), trivial, rfl, hS1.F ht9⟩) hS1.2.2 (Nat.le_of_ble_eq_true rfl) (Nat.le_of_ble_eq_true rfl)

set_option maxHeartbeats 4000000 in
set_option maxRecDepth 100000 in
theorem cx_X5_recount (l : Launch) (hfl : l.stackTraces = false) (dC : Nat → ClassId) (dI : Nat → Nat → Nat) (x : Nat) (po : Nat) (tr : Nat) (sp : Nat) (pa : Nat) (bx : Nat) (b0 : Nat) (b1 : Nat) (b4 : Nat) (b6 : Nat) (a0 : Int32) (a1 : Int32) (tx : String) (sa : Nat) (sz : Nat)  : vx_Met l yX5_recount wsX5_recount ({ frames := 7, cells := 1, slots := 6, locals := 120 }) (va_Pc [.ref x, .int a0, .int a1] (fun U => pr_ dC dI [(x, .inr (7, [.ref bx, .ref po, .ref tr, .ref pa, .ref sp])), (bx, .inr (2, [.ref b0, .ref b1, .int 0, .int 0, .ref b4, .int 0, .ref b6, .int 0, .int 0, .int 0, .int 0]))] [] sz U ∧ xs_ (va_A [(x, .inr (7, [.ref bx, .ref po, .ref tr, .ref pa, .ref sp])), (bx, .inr (2, [.ref b0, .ref b1, .int 0, .int 0, .ref b4, .int 0, .ref b6, .int 0, .int 0, .int 0, .int 0]))] sz) 301 tx sa "java/lang/IndexOutOfBoundsException" U)) (va_Qi (fun (_ : Int32) (_ : Unit) => False) (fun _ _ => True) (va_A [(x, .inr (7, [.ref bx, .ref po, .ref tr, .ref pa, .ref sp])), (bx, .inr (2, [.ref b0, .ref b1, .int 0, .int 0, .ref b4, .int 0, .ref b6, .int 0, .int 0, .int 0, .int 0]))] sz)) (vx_X (fun _ : Unit => True) (fun E _ _ => E = "java/lang/IndexOutOfBoundsException") (va_A [(x, .inr (7, [.ref bx, .ref po, .ref tr, .ref pa, .ref sp])), (bx, .inr (2, [.ref b0, .ref b1, .int 0, .int 0, .ref b4, .int 0, .ref b6, .int 0, .int 0, .int 0, .int 0]))] sz)) 1 6 (va_A [(x, .inr (7, [.ref bx, .ref po, .ref tr, .ref pa, .ref sp])), (bx, .inr (2, [.ref b0, .ref b1, .int 0, .int 0, .ref b4, .int 0, .ref b6, .int 0, .int 0, .int 0, .int 0]))] sz) := by
  refine vx_ofW (cc := cX5_recount) (maxL := 5) (ret := (some .int)) (by decide) rfl ?_
  intro p e s m args below meth c s₁ B hml htb hv
  obtain ⟨rfl, ⟨hsz, hP, hK, hD0⟩, hXs⟩ := hv
  have hx := B.exec
  have hb := B.bytes
  have hr := B.returns
  have hts := atoms_spec (ws := wsX5_recount) B.pre
  have hown : s.vm.findClass RX5 = some m.cls := findClass_of_methodNamed B.named
  have hlocks := B.notSynchronized
  subst hsz
  have hD := hD0.self (sz := s.heap.size)
  generalize hAe : va_A [(x, .inr (7, [.ref bx, .ref po, .ref tr, .ref pa, .ref sp])), (bx, .inr (2, [.ref b0, .ref b1, .int 0, .int 0, .ref b4, .int 0, .ref b6, .int 0, .int 0, .int 0, .int 0]))] s.heap.size = A at hD hXs ⊢
  have hA : ∀ q : Nat, s.heap.size ≤ q → A q := fun q h => by rw [← hAe]; exact Or.inr h
  have hS : va_S A s.heap s.heap [] := va_S.rf
  have hP : va_P (dC, dI) vwCl [(x, .inr (7, [.ref bx, .ref po, .ref tr, .ref pa, .ref sp])), (bx, .inr (2, [.ref b0, .ref b1, .int 0, .int 0, .ref b4, .int 0, .ref b6, .int 0, .int 0, .int 0, .int 0]))] s.heap := hP
  have hK : va_K (dC, dI) vwCl [] s := hK
  have hl := lv_entry ([.ref x, .int a0, .int a1]) (n := 5) (Nat.le_of_ble_eq_true rfl)
  rw [lg_entry_eq]
  generalize (lg_sl ([.ref x, .int a0, .int a1]) ++ List.replicate (5 - (lg_sl ([.ref x, .int a0, .int a1])).length) Slot.unset).toArray = ls at hl ⊢
  have hl : lv_has ls 5 [(0, .ref x), (1, .int a0), (2, .int a1)] := hl
  refine lv_aload_n hx hb dX5_recount_0 rfl (lv_at hl 0 rfl) ?_
  refine lv_iload_n hx hb dX5_recount_1 rfl (lv_at hl 1 rfl) ?_
  have hPc := hP.sub (ws' := [(x, .inr (7, [.ref bx, .ref po, .ref tr, .ref pa, .ref sp])), (bx, .inr (2, [.ref b0, .ref b1, .int 0, .int 0, .ref b4, .int 0, .ref b6, .int 0, .int 0, .int 0, .int 0]))]) [0, 1] rfl
  have hDc := hD.sub (ws' := [(x, .inr (7, [.ref bx, .ref po, .ref tr, .ref pa, .ref sp])), (bx, .inr (2, [.ref b0, .ref b1, .int 0, .int 0, .ref b4, .int 0, .ref b6, .int 0, .int 0, .int 0, .int 0]))]) [0, 1] (by decide) rfl
  have hKc := hK.sub (tys' := []) [] rfl
  have hFc := va_free (wc := [(x, .inr (7, [.ref bx, .ref po, .ref tr, .ref pa, .ref sp])), (bx, .inr (2, [.ref b0, .ref b1, .int 0, .int 0, .ref b4, .int 0, .ref b6, .int 0, .int 0, .int 0, .int 0]))]) hD hS hA [0, 1] rfl
  refine vx_callv (vx_runV (As := [.int a0]) (rest := []) ⟨hx, hb, hml, hown, hts⟩ (cx_X5_checkStack l hfl dC dI x po tr sp pa bx b0 b1 b4 b6 a0 tx sa _ ) (cwV 1 hts gX5_recount_X5_checkStack rfl rfl rfl (by decide +kernel) ⟨Nat.le_of_ble_eq_true rfl, Nat.le_of_ble_eq_true rfl⟩) ⟨px_blind, va_recv hKc hPc (ci := 7) (q0 := 0) rfl rfl, fun U hU hW => ⟨rfl, pr_mk hU hW hPc hKc hDc, xs_mk hU hW hS hFc hXs⟩⟩ rfl rfl hl.1 rfl (lv_room (Nat.le_of_ble_eq_true rfl)) dX5_recount_2 ⟨Nat.le_of_ble_eq_true rfl, Nat.le_of_ble_eq_true rfl⟩) hS (fun q _ h => hFc q h) hFc (fun q _ h => hFc q h) (fun E ce q9 u t H1 locs1 ht hvm hpx hB hz1 hk1 hS1 hce hcv hcl => ?_) (fun u t H1 locs1 ht hvm hw hB hz1 hk1 hS1 => hw.elim)
  obtain rfl : E = "java/lang/IndexOutOfBoundsException" := hB
  exact vx_out (fun x hx9 => (htb x hx9).elim) hlocks hce hcv hcl (fun t9 ht9 hvm9 => ⟨(), trivial, rfl, hS1.F ht9⟩) hS1.2.2 (Nat.le_of_ble_eq_true rfl) (Nat.le_of_ble_eq_true rfl)

set_option maxHeartbeats 4000000 in
set_option maxRecDepth 100000 in
theorem cx_X5_move (l : Launch) (hfl : l.stackTraces = false) (dC : Nat → ClassId) (dI : Nat → Nat → Nat) (x : Nat) (po : Nat) (tr : Nat) (sp : Nat) (pa : Nat) (bx : Nat) (b0 : Nat) (b1 : Nat) (b4 : Nat) (b6 : Nat) (a0 : Int32) (a1 : Int32) (tx : String) (sa : Nat) (sz : Nat)  : vx_Met l yX5_move wsX5_move ({ frames := 7, cells := 1, slots := 6, locals := 120 }) (va_Pc [.ref x, .int a0, .int a1] (fun U => pr_ dC dI [(x, .inr (7, [.ref bx, .ref po, .ref tr, .ref pa, .ref sp])), (bx, .inr (2, [.ref b0, .ref b1, .int 0, .int 0, .ref b4, .int 0, .ref b6, .int 0, .int 0, .int 0, .int 0]))] [] sz U ∧ xs_ (va_A [(x, .inr (7, [.ref bx, .ref po, .ref tr, .ref pa, .ref sp])), (bx, .inr (2, [.ref b0, .ref b1, .int 0, .int 0, .ref b4, .int 0, .ref b6, .int 0, .int 0, .int 0, .int 0]))] sz) 301 tx sa "java/lang/IndexOutOfBoundsException" U)) (va_Qi (fun (_ : Int32) (_ : Unit) => False) (fun _ _ => True) (va_A [(x, .inr (7, [.ref bx, .ref po, .ref tr, .ref pa, .ref sp])), (bx, .inr (2, [.ref b0, .ref b1, .int 0, .int 0, .ref b4, .int 0, .ref b6, .int 0, .int 0, .int 0, .int 0]))] sz)) (vx_X (fun _ : Unit => True) (fun E _ _ => E = "java/lang/IndexOutOfBoundsException") (va_A [(x, .inr (7, [.ref bx, .ref po, .ref tr, .ref pa, .ref sp])), (bx, .inr (2, [.ref b0, .ref b1, .int 0, .int 0, .ref b4, .int 0, .ref b6, .int 0, .int 0, .int 0, .int 0]))] sz)) 1 6 (va_A [(x, .inr (7, [.ref bx, .ref po, .ref tr, .ref pa, .ref sp])), (bx, .inr (2, [.ref b0, .ref b1, .int 0, .int 0, .ref b4, .int 0, .ref b6, .int 0, .int 0, .int 0, .int 0]))] sz) := by
  refine vx_ofW (cc := cX5_move) (maxL := 5) (ret := (some .int)) (by decide) rfl ?_
  intro p e s m args below meth c s₁ B hml htb hv
  obtain ⟨rfl, ⟨hsz, hP, hK, hD0⟩, hXs⟩ := hv
  have hx := B.exec
  have hb := B.bytes
  have hr := B.returns
  have hts := atoms_spec (ws := wsX5_move) B.pre
  have hown : s.vm.findClass RX5 = some m.cls := findClass_of_methodNamed B.named
  have hlocks := B.notSynchronized
  subst hsz
  have hD := hD0.self (sz := s.heap.size)
  generalize hAe : va_A [(x, .inr (7, [.ref bx, .ref po, .ref tr, .ref pa, .ref sp])), (bx, .inr (2, [.ref b0, .ref b1, .int 0, .int 0, .ref b4, .int 0, .ref b6, .int 0, .int 0, .int 0, .int 0]))] s.heap.size = A at hD hXs ⊢
  have hA : ∀ q : Nat, s.heap.size ≤ q → A q := fun q h => by rw [← hAe]; exact Or.inr h
  have hS : va_S A s.heap s.heap [] := va_S.rf
  have hP : va_P (dC, dI) vwCl [(x, .inr (7, [.ref bx, .ref po, .ref tr, .ref pa, .ref sp])), (bx, .inr (2, [.ref b0, .ref b1, .int 0, .int 0, .ref b4, .int 0, .ref b6, .int 0, .int 0, .int 0, .int 0]))] s.heap := hP
  have hK : va_K (dC, dI) vwCl [] s := hK
  have hl := lv_entry ([.ref x, .int a0, .int a1]) (n := 5) (Nat.le_of_ble_eq_true rfl)
  rw [lg_entry_eq]
  generalize (lg_sl ([.ref x, .int a0, .int a1]) ++ List.replicate (5 - (lg_sl ([.ref x, .int a0, .int a1])).length) Slot.unset).toArray = ls at hl ⊢
  have hl : lv_has ls 5 [(0, .ref x), (1, .int a0), (2, .int a1)] := hl
  refine lv_aload_n hx hb dX5_move_0 rfl (lv_at hl 0 rfl) ?_
  refine lv_iload_n hx hb dX5_move_1 rfl (lv_at hl 1 rfl) ?_
  have hPc := hP.sub (ws' := [(x, .inr (7, [.ref bx, .ref po, .ref tr, .ref pa, .ref sp])), (bx, .inr (2, [.ref b0, .ref b1, .int 0, .int 0, .ref b4, .int 0, .ref b6, .int 0, .int 0, .int 0, .int 0]))]) [0, 1] rfl
  have hDc := hD.sub (ws' := [(x, .inr (7, [.ref bx, .ref po, .ref tr, .ref pa, .ref sp])), (bx, .inr (2, [.ref b0, .ref b1, .int 0, .int 0, .ref b4, .int 0, .ref b6, .int 0, .int 0, .int 0, .int 0]))]) [0, 1] (by decide) rfl
  have hKc := hK.sub (tys' := []) [] rfl
  have hFc := va_free (wc := [(x, .inr (7, [.ref bx, .ref po, .ref tr, .ref pa, .ref sp])), (bx, .inr (2, [.ref b0, .ref b1, .int 0, .int 0, .ref b4, .int 0, .ref b6, .int 0, .int 0, .int 0, .int 0]))]) hD hS hA [0, 1] rfl
  refine vx_callv (vx_runV (As := [.int a0]) (rest := []) ⟨hx, hb, hml, hown, hts⟩ (cx_X5_checkStack l hfl dC dI x po tr sp pa bx b0 b1 b4 b6 a0 tx sa _ ) (cwV 1 hts gX5_move_X5_checkStack rfl rfl rfl (by decide +kernel) ⟨Nat.le_of_ble_eq_true rfl, Nat.le_of_ble_eq_true rfl⟩) ⟨px_blind, va_recv hKc hPc (ci := 7) (q0 := 0) rfl rfl, fun U hU hW => ⟨rfl, pr_mk hU hW hPc hKc hDc, xs_mk hU hW hS hFc hXs⟩⟩ rfl rfl hl.1 rfl (lv_room (Nat.le_of_ble_eq_true rfl)) dX5_move_2 ⟨Nat.le_of_ble_eq_true rfl, Nat.le_of_ble_eq_true rfl⟩) hS (fun q _ h => hFc q h) hFc (fun q _ h => hFc q h) (fun E ce q9 u t H1 locs1 ht hvm hpx hB hz1 hk1 hS1 hce hcv hcl => ?_) (fun u t H1 locs1 ht hvm hw hB hz1 hk1 hS1 => hw.elim)
  obtain rfl : E = "java/lang/IndexOutOfBoundsException" := hB
  exact vx_out (fun x hx9 => (htb x hx9).elim) hlocks hce hcv hcl (fun t9 ht9 hvm9 => ⟨(), trivial, rfl, hS1.F ht9⟩) hS1.2.2 (Nat.le_of_ble_eq_true rfl) (Nat.le_of_ble_eq_true rfl)

set_option maxHeartbeats 4000000 in
set_option maxRecDepth 100000 in
theorem cx_X5_ofStack (l : Launch) (hfl : l.stackTraces = false) (dC : Nat → ClassId) (dI : Nat → Nat → Nat) (x : Nat) (po : Nat) (tr : Nat) (sp : Nat) (pa : Nat) (bx : Nat) (b0 : Nat) (b1 : Nat) (b4 : Nat) (b6 : Nat) (a0 : Int32) (a1 : Int32) (tx : String) (sa : Nat) (sz : Nat)  : vx_Met l yX5_ofStack wsX5_ofStack ({ frames := 7, cells := 1, slots := 6, locals := 120 }) (va_Pc [.ref x, .int a0, .int a1] (fun U => pr_ dC dI [(x, .inr (7, [.ref bx, .ref po, .ref tr, .ref pa, .ref sp])), (bx, .inr (2, [.ref b0, .ref b1, .int 0, .int 0, .ref b4, .int 0, .ref b6, .int 0, .int 0, .int 0, .int 0]))] [] sz U ∧ xs_ (va_A [(x, .inr (7, [.ref bx, .ref po, .ref tr, .ref pa, .ref sp])), (bx, .inr (2, [.ref b0, .ref b1, .int 0, .int 0, .ref b4, .int 0, .ref b6, .int 0, .int 0, .int 0, .int 0]))] sz) 301 tx sa "java/lang/IndexOutOfBoundsException" U)) (va_Qi (fun (_ : Int32) (_ : Unit) => False) (fun _ _ => True) (va_A [(x, .inr (7, [.ref bx, .ref po, .ref tr, .ref pa, .ref sp])), (bx, .inr (2, [.ref b0, .ref b1, .int 0, .int 0, .ref b4, .int 0, .ref b6, .int 0, .int 0, .int 0, .int 0]))] sz)) (vx_X (fun _ : Unit => True) (fun E _ _ => E = "java/lang/IndexOutOfBoundsException") (va_A [(x, .inr (7, [.ref bx, .ref po, .ref tr, .ref pa, .ref sp])), (bx, .inr (2, [.ref b0, .ref b1, .int 0, .int 0, .ref b4, .int 0, .ref b6, .int 0, .int 0, .int 0, .int 0]))] sz)) 1 6 (va_A [(x, .inr (7, [.ref bx, .ref po, .ref tr, .ref pa, .ref sp])), (bx, .inr (2, [.ref b0, .ref b1, .int 0, .int 0, .ref b4, .int 0, .ref b6, .int 0, .int 0, .int 0, .int 0]))] sz) := by
  refine vx_ofW (cc := cX5_ofStack) (maxL := 3) (ret := (some .int)) (by decide) rfl ?_
  intro p e s m args below meth c s₁ B hml htb hv
  obtain ⟨rfl, ⟨hsz, hP, hK, hD0⟩, hXs⟩ := hv
  have hx := B.exec
  have hb := B.bytes
  have hr := B.returns
  have hts := atoms_spec (ws := wsX5_ofStack) B.pre
  have hown : s.vm.findClass RX5 = some m.cls := findClass_of_methodNamed B.named
  have hlocks := B.notSynchronized
  subst hsz
  have hD := hD0.self (sz := s.heap.size)
  generalize hAe : va_A [(x, .inr (7, [.ref bx, .ref po, .ref tr, .ref pa, .ref sp])), (bx, .inr (2, [.ref b0, .ref b1, .int 0, .int 0, .ref b4, .int 0, .ref b6, .int 0, .int 0, .int 0, .int 0]))] s.heap.size = A at hD hXs ⊢
  have hA : ∀ q : Nat, s.heap.size ≤ q → A q := fun q h => by rw [← hAe]; exact Or.inr h
  have hS : va_S A s.heap s.heap [] := va_S.rf
  have hP : va_P (dC, dI) vwCl [(x, .inr (7, [.ref bx, .ref po, .ref tr, .ref pa, .ref sp])), (bx, .inr (2, [.ref b0, .ref b1, .int 0, .int 0, .ref b4, .int 0, .ref b6, .int 0, .int 0, .int 0, .int 0]))] s.heap := hP
  have hK : va_K (dC, dI) vwCl [] s := hK
  have hl := lv_entry ([.ref x, .int a0, .int a1]) (n := 3) (Nat.le_of_ble_eq_true rfl)
  rw [lg_entry_eq]
  generalize (lg_sl ([.ref x, .int a0, .int a1]) ++ List.replicate (3 - (lg_sl ([.ref x, .int a0, .int a1])).length) Slot.unset).toArray = ls at hl ⊢
  have hl : lv_has ls 3 [(0, .ref x), (1, .int a0), (2, .int a1)] := hl
  refine lv_aload_n hx hb dX5_ofStack_0 rfl (lv_at hl 0 rfl) ?_
  refine lv_iload_n hx hb dX5_ofStack_1 rfl (lv_at hl 1 rfl) ?_
  have hPc := hP.sub (ws' := [(x, .inr (7, [.ref bx, .ref po, .ref tr, .ref pa, .ref sp])), (bx, .inr (2, [.ref b0, .ref b1, .int 0, .int 0, .ref b4, .int 0, .ref b6, .int 0, .int 0, .int 0, .int 0]))]) [0, 1] rfl
  have hDc := hD.sub (ws' := [(x, .inr (7, [.ref bx, .ref po, .ref tr, .ref pa, .ref sp])), (bx, .inr (2, [.ref b0, .ref b1, .int 0, .int 0, .ref b4, .int 0, .ref b6, .int 0, .int 0, .int 0, .int 0]))]) [0, 1] (by decide) rfl
  have hKc := hK.sub (tys' := []) [] rfl
  have hFc := va_free (wc := [(x, .inr (7, [.ref bx, .ref po, .ref tr, .ref pa, .ref sp])), (bx, .inr (2, [.ref b0, .ref b1, .int 0, .int 0, .ref b4, .int 0, .ref b6, .int 0, .int 0, .int 0, .int 0]))]) hD hS hA [0, 1] rfl
  refine vx_callv (vx_runV (As := [.int a0]) (rest := []) ⟨hx, hb, hml, hown, hts⟩ (cx_X5_checkStack l hfl dC dI x po tr sp pa bx b0 b1 b4 b6 a0 tx sa _ ) (cwV 1 hts gX5_ofStack_X5_checkStack rfl rfl rfl (by decide +kernel) ⟨Nat.le_of_ble_eq_true rfl, Nat.le_of_ble_eq_true rfl⟩) ⟨px_blind, va_recv hKc hPc (ci := 7) (q0 := 0) rfl rfl, fun U hU hW => ⟨rfl, pr_mk hU hW hPc hKc hDc, xs_mk hU hW hS hFc hXs⟩⟩ rfl rfl hl.1 rfl (lv_room (Nat.le_of_ble_eq_true rfl)) dX5_ofStack_2 ⟨Nat.le_of_ble_eq_true rfl, Nat.le_of_ble_eq_true rfl⟩) hS (fun q _ h => hFc q h) hFc (fun q _ h => hFc q h) (fun E ce q9 u t H1 locs1 ht hvm hpx hB hz1 hk1 hS1 hce hcv hcl => ?_) (fun u t H1 locs1 ht hvm hw hB hz1 hk1 hS1 => hw.elim)
  obtain rfl : E = "java/lang/IndexOutOfBoundsException" := hB
  exact vx_out (fun x hx9 => (htb x hx9).elim) hlocks hce hcv hcl (fun t9 ht9 hvm9 => ⟨(), trivial, rfl, hS1.F ht9⟩) hS1.2.2 (Nat.le_of_ble_eq_true rfl) (Nat.le_of_ble_eq_true rfl)

set_option maxHeartbeats 4000000 in
set_option maxRecDepth 100000 in
theorem cx_X5_firsts (l : Launch) (hfl : l.stackTraces = false) (dC : Nat → ClassId) (dI : Nat → Nat → Nat) (x : Nat) (po : Nat) (tr : Nat) (sp : Nat) (pa : Nat) (bx : Nat) (b0 : Nat) (b1 : Nat) (b4 : Nat) (b6 : Nat) (a0 : Int32) (a1 : Int32) (tx : String) (sa : Nat) (sz : Nat)  : vx_Met l yX5_firsts wsX5_firsts ({ frames := 7, cells := 1, slots := 6, locals := 120 }) (va_Pc [.ref x, .int a0, .int a1] (fun U => pr_ dC dI [(x, .inr (7, [.ref bx, .ref po, .ref tr, .ref pa, .ref sp])), (bx, .inr (2, [.ref b0, .ref b1, .int 0, .int 0, .ref b4, .int 0, .ref b6, .int 0, .int 0, .int 0, .int 0]))] [] sz U ∧ xs_ (va_A [(x, .inr (7, [.ref bx, .ref po, .ref tr, .ref pa, .ref sp])), (bx, .inr (2, [.ref b0, .ref b1, .int 0, .int 0, .ref b4, .int 0, .ref b6, .int 0, .int 0, .int 0, .int 0]))] sz) 299 tx sa "java/lang/IndexOutOfBoundsException" U)) (va_Qi (fun (_ : Int32) (_ : Unit) => False) (fun _ _ => True) (va_A [(x, .inr (7, [.ref bx, .ref po, .ref tr, .ref pa, .ref sp])), (bx, .inr (2, [.ref b0, .ref b1, .int 0, .int 0, .ref b4, .int 0, .ref b6, .int 0, .int 0, .int 0, .int 0]))] sz)) (vx_X (fun _ : Unit => True) (fun E _ _ => E = "java/lang/IndexOutOfBoundsException") (va_A [(x, .inr (7, [.ref bx, .ref po, .ref tr, .ref pa, .ref sp])), (bx, .inr (2, [.ref b0, .ref b1, .int 0, .int 0, .ref b4, .int 0, .ref b6, .int 0, .int 0, .int 0, .int 0]))] sz)) 1 6 (va_A [(x, .inr (7, [.ref bx, .ref po, .ref tr, .ref pa, .ref sp])), (bx, .inr (2, [.ref b0, .ref b1, .int 0, .int 0, .ref b4, .int 0, .ref b6, .int 0, .int 0, .int 0, .int 0]))] sz) := by
  refine vx_ofW (cc := cX5_firsts) (maxL := 3) (ret := (some .int)) (by decide) rfl ?_
  intro p e s m args below meth c s₁ B hml htb hv
  obtain ⟨rfl, ⟨hsz, hP, hK, hD0⟩, hXs⟩ := hv
  have hx := B.exec
  have hb := B.bytes
  have hr := B.returns
  have hts := atoms_spec (ws := wsX5_firsts) B.pre
  have hown : s.vm.findClass RX5 = some m.cls := findClass_of_methodNamed B.named
  have hlocks := B.notSynchronized
  subst hsz
  have hD := hD0.self (sz := s.heap.size)
  generalize hAe : va_A [(x, .inr (7, [.ref bx, .ref po, .ref tr, .ref pa, .ref sp])), (bx, .inr (2, [.ref b0, .ref b1, .int 0, .int 0, .ref b4, .int 0, .ref b6, .int 0, .int 0, .int 0, .int 0]))] s.heap.size = A at hD hXs ⊢
  have hA : ∀ q : Nat, s.heap.size ≤ q → A q := fun q h => by rw [← hAe]; exact Or.inr h
  have hS : va_S A s.heap s.heap [] := va_S.rf
  have hP : va_P (dC, dI) vwCl [(x, .inr (7, [.ref bx, .ref po, .ref tr, .ref pa, .ref sp])), (bx, .inr (2, [.ref b0, .ref b1, .int 0, .int 0, .ref b4, .int 0, .ref b6, .int 0, .int 0, .int 0, .int 0]))] s.heap := hP
  have hK : va_K (dC, dI) vwCl [] s := hK
  have hl := lv_entry ([.ref x, .int a0, .int a1]) (n := 3) (Nat.le_of_ble_eq_true rfl)
  rw [lg_entry_eq]
  generalize (lg_sl ([.ref x, .int a0, .int a1]) ++ List.replicate (3 - (lg_sl ([.ref x, .int a0, .int a1])).length) Slot.unset).toArray = ls at hl ⊢
  have hl : lv_has ls 3 [(0, .ref x), (1, .int a0), (2, .int a1)] := hl
  refine lv_aload_n hx hb dX5_firsts_0 rfl (lv_at hl 0 rfl) ?_
  refine lv_iload_n hx hb dX5_firsts_1 rfl (lv_at hl 1 rfl) ?_
  have hPc := hP.sub (ws' := [(x, .inr (7, [.ref bx, .ref po, .ref tr, .ref pa, .ref sp])), (bx, .inr (2, [.ref b0, .ref b1, .int 0, .int 0, .ref b4, .int 0, .ref b6, .int 0, .int 0, .int 0, .int 0]))]) [0, 1] rfl
  have hDc := hD.sub (ws' := [(x, .inr (7, [.ref bx, .ref po, .ref tr, .ref pa, .ref sp])), (bx, .inr (2, [.ref b0, .ref b1, .int 0, .int 0, .ref b4, .int 0, .ref b6, .int 0, .int 0, .int 0, .int 0]))]) [0, 1] (by decide) rfl
  have hKc := hK.sub (tys' := []) [] rfl
  have hFc := va_free (wc := [(x, .inr (7, [.ref bx, .ref po, .ref tr, .ref pa, .ref sp])), (bx, .inr (2, [.ref b0, .ref b1, .int 0, .int 0, .ref b4, .int 0, .ref b6, .int 0, .int 0, .int 0, .int 0]))]) hD hS hA [0, 1] rfl
  refine vx_callv (vx_runV (As := [.int a0]) (rest := []) ⟨hx, hb, hml, hown, hts⟩ (cx_X5_checkDistrict l hfl dC dI x po tr sp pa bx b0 b1 b4 b6 a0 tx sa _ ) (cwV 1 hts gX5_firsts_X5_checkDistrict rfl rfl rfl (by decide +kernel) ⟨Nat.le_of_ble_eq_true rfl, Nat.le_of_ble_eq_true rfl⟩) ⟨px_blind, va_recv hKc hPc (ci := 7) (q0 := 0) rfl rfl, fun U hU hW => ⟨rfl, pr_mk hU hW hPc hKc hDc, xs_mk hU hW hS hFc hXs⟩⟩ rfl rfl hl.1 rfl (lv_room (Nat.le_of_ble_eq_true rfl)) dX5_firsts_2 ⟨Nat.le_of_ble_eq_true rfl, Nat.le_of_ble_eq_true rfl⟩) hS (fun q _ h => hFc q h) hFc (fun q _ h => hFc q h) (fun E ce q9 u t H1 locs1 ht hvm hpx hB hz1 hk1 hS1 hce hcv hcl => ?_) (fun u t H1 locs1 ht hvm hw hB hz1 hk1 hS1 => hw.elim)
  obtain rfl : E = "java/lang/IndexOutOfBoundsException" := hB
  exact vx_out (fun x hx9 => (htb x hx9).elim) hlocks hce hcv hcl (fun t9 ht9 hvm9 => ⟨(), trivial, rfl, hS1.F ht9⟩) hS1.2.2 (Nat.le_of_ble_eq_true rfl) (Nat.le_of_ble_eq_true rfl)

set_option maxHeartbeats 4000000 in
set_option maxRecDepth 100000 in
theorem cx_X5_points (l : Launch) (hfl : l.stackTraces = false) (dC : Nat → ClassId) (dI : Nat → Nat → Nat) (x : Nat) (po : Nat) (tr : Nat) (sp : Nat) (pa : Nat) (bx : Nat) (b0 : Nat) (b1 : Nat) (b4 : Nat) (b6 : Nat) (a0 : Int32) (a1 : Int32) (tx : String) (sa : Nat) (sz : Nat)  : vx_Met l yX5_points wsX5_points ({ frames := 7, cells := 1, slots := 6, locals := 120 }) (va_Pc [.ref x, .int a0, .int a1] (fun U => pr_ dC dI [(x, .inr (7, [.ref bx, .ref po, .ref tr, .ref pa, .ref sp])), (bx, .inr (2, [.ref b0, .ref b1, .int 0, .int 0, .ref b4, .int 0, .ref b6, .int 0, .int 0, .int 0, .int 0]))] [] sz U ∧ xs_ (va_A [(x, .inr (7, [.ref bx, .ref po, .ref tr, .ref pa, .ref sp])), (bx, .inr (2, [.ref b0, .ref b1, .int 0, .int 0, .ref b4, .int 0, .ref b6, .int 0, .int 0, .int 0, .int 0]))] sz) 299 tx sa "java/lang/IndexOutOfBoundsException" U)) (va_Qd (fun (_ : UInt64) (_ : Unit) => False) (fun _ _ => True) (va_A [(x, .inr (7, [.ref bx, .ref po, .ref tr, .ref pa, .ref sp])), (bx, .inr (2, [.ref b0, .ref b1, .int 0, .int 0, .ref b4, .int 0, .ref b6, .int 0, .int 0, .int 0, .int 0]))] sz)) (vx_X (fun _ : Unit => True) (fun E _ _ => E = "java/lang/IndexOutOfBoundsException") (va_A [(x, .inr (7, [.ref bx, .ref po, .ref tr, .ref pa, .ref sp])), (bx, .inr (2, [.ref b0, .ref b1, .int 0, .int 0, .ref b4, .int 0, .ref b6, .int 0, .int 0, .int 0, .int 0]))] sz)) 1 6 (va_A [(x, .inr (7, [.ref bx, .ref po, .ref tr, .ref pa, .ref sp])), (bx, .inr (2, [.ref b0, .ref b1, .int 0, .int 0, .ref b4, .int 0, .ref b6, .int 0, .int 0, .int 0, .int 0]))] sz) := by
  refine vx_ofW (cc := cX5_points) (maxL := 3) (ret := (some .double)) (by decide) rfl ?_
  intro p e s m args below meth c s₁ B hml htb hv
  obtain ⟨rfl, ⟨hsz, hP, hK, hD0⟩, hXs⟩ := hv
  have hx := B.exec
  have hb := B.bytes
  have hr := B.returns
  have hts := atoms_spec (ws := wsX5_points) B.pre
  have hown : s.vm.findClass RX5 = some m.cls := findClass_of_methodNamed B.named
  have hlocks := B.notSynchronized
  subst hsz
  have hD := hD0.self (sz := s.heap.size)
  generalize hAe : va_A [(x, .inr (7, [.ref bx, .ref po, .ref tr, .ref pa, .ref sp])), (bx, .inr (2, [.ref b0, .ref b1, .int 0, .int 0, .ref b4, .int 0, .ref b6, .int 0, .int 0, .int 0, .int 0]))] s.heap.size = A at hD hXs ⊢
  have hA : ∀ q : Nat, s.heap.size ≤ q → A q := fun q h => by rw [← hAe]; exact Or.inr h
  have hS : va_S A s.heap s.heap [] := va_S.rf
  have hP : va_P (dC, dI) vwCl [(x, .inr (7, [.ref bx, .ref po, .ref tr, .ref pa, .ref sp])), (bx, .inr (2, [.ref b0, .ref b1, .int 0, .int 0, .ref b4, .int 0, .ref b6, .int 0, .int 0, .int 0, .int 0]))] s.heap := hP
  have hK : va_K (dC, dI) vwCl [] s := hK
  have hl := lv_entry ([.ref x, .int a0, .int a1]) (n := 3) (Nat.le_of_ble_eq_true rfl)
  rw [lg_entry_eq]
  generalize (lg_sl ([.ref x, .int a0, .int a1]) ++ List.replicate (3 - (lg_sl ([.ref x, .int a0, .int a1])).length) Slot.unset).toArray = ls at hl ⊢
  have hl : lv_has ls 3 [(0, .ref x), (1, .int a0), (2, .int a1)] := hl
  refine lv_aload_n hx hb dX5_points_0 rfl (lv_at hl 0 rfl) ?_
  refine lv_iload_n hx hb dX5_points_1 rfl (lv_at hl 1 rfl) ?_
  have hPc := hP.sub (ws' := [(x, .inr (7, [.ref bx, .ref po, .ref tr, .ref pa, .ref sp])), (bx, .inr (2, [.ref b0, .ref b1, .int 0, .int 0, .ref b4, .int 0, .ref b6, .int 0, .int 0, .int 0, .int 0]))]) [0, 1] rfl
  have hDc := hD.sub (ws' := [(x, .inr (7, [.ref bx, .ref po, .ref tr, .ref pa, .ref sp])), (bx, .inr (2, [.ref b0, .ref b1, .int 0, .int 0, .ref b4, .int 0, .ref b6, .int 0, .int 0, .int 0, .int 0]))]) [0, 1] (by decide) rfl
  have hKc := hK.sub (tys' := []) [] rfl
  have hFc := va_free (wc := [(x, .inr (7, [.ref bx, .ref po, .ref tr, .ref pa, .ref sp])), (bx, .inr (2, [.ref b0, .ref b1, .int 0, .int 0, .ref b4, .int 0, .ref b6, .int 0, .int 0, .int 0, .int 0]))]) hD hS hA [0, 1] rfl
  refine vx_callv (vx_runV (As := [.int a0]) (rest := []) ⟨hx, hb, hml, hown, hts⟩ (cx_X5_checkDistrict l hfl dC dI x po tr sp pa bx b0 b1 b4 b6 a0 tx sa _ ) (cwV 1 hts gX5_points_X5_checkDistrict rfl rfl rfl (by decide +kernel) ⟨Nat.le_of_ble_eq_true rfl, Nat.le_of_ble_eq_true rfl⟩) ⟨px_blind, va_recv hKc hPc (ci := 7) (q0 := 0) rfl rfl, fun U hU hW => ⟨rfl, pr_mk hU hW hPc hKc hDc, xs_mk hU hW hS hFc hXs⟩⟩ rfl rfl hl.1 rfl (lv_room (Nat.le_of_ble_eq_true rfl)) dX5_points_2 ⟨Nat.le_of_ble_eq_true rfl, Nat.le_of_ble_eq_true rfl⟩) hS (fun q _ h => hFc q h) hFc (fun q _ h => hFc q h) (fun E ce q9 u t H1 locs1 ht hvm hpx hB hz1 hk1 hS1 hce hcv hcl => ?_) (fun u t H1 locs1 ht hvm hw hB hz1 hk1 hS1 => hw.elim)
  obtain rfl : E = "java/lang/IndexOutOfBoundsException" := hB
  exact vx_out (fun x hx9 => (htb x hx9).elim) hlocks hce hcv hcl (fun t9 ht9 hvm9 => ⟨(), trivial, rfl, hS1.F ht9⟩) hS1.2.2 (Nat.le_of_ble_eq_true rfl) (Nat.le_of_ble_eq_true rfl)

set_option maxHeartbeats 4000000 in
set_option maxRecDepth 100000 in
theorem cx_X5_pair (l : Launch) (hfl : l.stackTraces = false) (dC : Nat → ClassId) (dI : Nat → Nat → Nat) (x : Nat) (po : Nat) (tr : Nat) (sp : Nat) (pa : Nat) (bx : Nat) (b0 : Nat) (b1 : Nat) (b4 : Nat) (b6 : Nat) (a0 : Int32) (a1 : Int32) (a2 : Int32) (a3 : Int32) (tx : String) (sa : Nat) (sz : Nat)  : vx_Met l yX5_pair wsX5_pair ({ frames := 7, cells := 1, slots := 6, locals := 120 }) (va_Pc [.ref x, .int a0, .int a1, .int a2, .int a3] (fun U => pr_ dC dI [(x, .inr (7, [.ref bx, .ref po, .ref tr, .ref pa, .ref sp])), (bx, .inr (2, [.ref b0, .ref b1, .int 0, .int 0, .ref b4, .int 0, .ref b6, .int 0, .int 0, .int 0, .int 0]))] [] sz U ∧ xs_ (va_A [(x, .inr (7, [.ref bx, .ref po, .ref tr, .ref pa, .ref sp])), (bx, .inr (2, [.ref b0, .ref b1, .int 0, .int 0, .ref b4, .int 0, .ref b6, .int 0, .int 0, .int 0, .int 0]))] sz) 299 tx sa "java/lang/IndexOutOfBoundsException" U)) (va_Qi (fun (_ : Int32) (_ : Unit) => False) (fun _ _ => True) (va_A [(x, .inr (7, [.ref bx, .ref po, .ref tr, .ref pa, .ref sp])), (bx, .inr (2, [.ref b0, .ref b1, .int 0, .int 0, .ref b4, .int 0, .ref b6, .int 0, .int 0, .int 0, .int 0]))] sz)) (vx_X (fun _ : Unit => True) (fun E _ _ => E = "java/lang/IndexOutOfBoundsException") (va_A [(x, .inr (7, [.ref bx, .ref po, .ref tr, .ref pa, .ref sp])), (bx, .inr (2, [.ref b0, .ref b1, .int 0, .int 0, .ref b4, .int 0, .ref b6, .int 0, .int 0, .int 0, .int 0]))] sz)) 1 6 (va_A [(x, .inr (7, [.ref bx, .ref po, .ref tr, .ref pa, .ref sp])), (bx, .inr (2, [.ref b0, .ref b1, .int 0, .int 0, .ref b4, .int 0, .ref b6, .int 0, .int 0, .int 0, .int 0]))] sz) := by
  refine vx_ofW (cc := cX5_pair) (maxL := 5) (ret := (some .int)) (by decide) rfl ?_
  intro p e s m args below meth c s₁ B hml htb hv
  obtain ⟨rfl, ⟨hsz, hP, hK, hD0⟩, hXs⟩ := hv
  have hx := B.exec
  have hb := B.bytes
  have hr := B.returns
  have hts := atoms_spec (ws := wsX5_pair) B.pre
  have hown : s.vm.findClass RX5 = some m.cls := findClass_of_methodNamed B.named
  have hlocks := B.notSynchronized
  subst hsz
  have hD := hD0.self (sz := s.heap.size)
  generalize hAe : va_A [(x, .inr (7, [.ref bx, .ref po, .ref tr, .ref pa, .ref sp])), (bx, .inr (2, [.ref b0, .ref b1, .int 0, .int 0, .ref b4, .int 0, .ref b6, .int 0, .int 0, .int 0, .int 0]))] s.heap.size = A at hD hXs ⊢
  have hA : ∀ q : Nat, s.heap.size ≤ q → A q := fun q h => by rw [← hAe]; exact Or.inr h
  have hS : va_S A s.heap s.heap [] := va_S.rf
  have hP : va_P (dC, dI) vwCl [(x, .inr (7, [.ref bx, .ref po, .ref tr, .ref pa, .ref sp])), (bx, .inr (2, [.ref b0, .ref b1, .int 0, .int 0, .ref b4, .int 0, .ref b6, .int 0, .int 0, .int 0, .int 0]))] s.heap := hP
  have hK : va_K (dC, dI) vwCl [] s := hK
  have hl := lv_entry ([.ref x, .int a0, .int a1, .int a2, .int a3]) (n := 5) (Nat.le_of_ble_eq_true rfl)
  rw [lg_entry_eq]
  generalize (lg_sl ([.ref x, .int a0, .int a1, .int a2, .int a3]) ++ List.replicate (5 - (lg_sl ([.ref x, .int a0, .int a1, .int a2, .int a3])).length) Slot.unset).toArray = ls at hl ⊢
  have hl : lv_has ls 5 [(0, .ref x), (1, .int a0), (2, .int a1), (3, .int a2), (4, .int a3)] := hl
  refine lv_aload_n hx hb dX5_pair_0 rfl (lv_at hl 0 rfl) ?_
  refine lv_iload_n hx hb dX5_pair_1 rfl (lv_at hl 1 rfl) ?_
  have hPc := hP.sub (ws' := [(x, .inr (7, [.ref bx, .ref po, .ref tr, .ref pa, .ref sp])), (bx, .inr (2, [.ref b0, .ref b1, .int 0, .int 0, .ref b4, .int 0, .ref b6, .int 0, .int 0, .int 0, .int 0]))]) [0, 1] rfl
  have hDc := hD.sub (ws' := [(x, .inr (7, [.ref bx, .ref po, .ref tr, .ref pa, .ref sp])), (bx, .inr (2, [.ref b0, .ref b1, .int 0, .int 0, .ref b4, .int 0, .ref b6, .int 0, .int 0, .int 0, .int 0]))]) [0, 1] (by decide) rfl
  have hKc := hK.sub (tys' := []) [] rfl
  have hFc := va_free (wc := [(x, .inr (7, [.ref bx, .ref po, .ref tr, .ref pa, .ref sp])), (bx, .inr (2, [.ref b0, .ref b1, .int 0, .int 0, .ref b4, .int 0, .ref b6, .int 0, .int 0, .int 0, .int 0]))]) hD hS hA [0, 1] rfl
  refine vx_callv (vx_runV (As := [.int a0]) (rest := []) ⟨hx, hb, hml, hown, hts⟩ (cx_X5_checkDistrict l hfl dC dI x po tr sp pa bx b0 b1 b4 b6 a0 tx sa _ ) (cwV 1 hts gX5_pair_X5_checkDistrict rfl rfl rfl (by decide +kernel) ⟨Nat.le_of_ble_eq_true rfl, Nat.le_of_ble_eq_true rfl⟩) ⟨px_blind, va_recv hKc hPc (ci := 7) (q0 := 0) rfl rfl, fun U hU hW => ⟨rfl, pr_mk hU hW hPc hKc hDc, xs_mk hU hW hS hFc hXs⟩⟩ rfl rfl hl.1 rfl (lv_room (Nat.le_of_ble_eq_true rfl)) dX5_pair_2 ⟨Nat.le_of_ble_eq_true rfl, Nat.le_of_ble_eq_true rfl⟩) hS (fun q _ h => hFc q h) hFc (fun q _ h => hFc q h) (fun E ce q9 u t H1 locs1 ht hvm hpx hB hz1 hk1 hS1 hce hcv hcl => ?_) (fun u t H1 locs1 ht hvm hw hB hz1 hk1 hS1 => hw.elim)
  obtain rfl : E = "java/lang/IndexOutOfBoundsException" := hB
  exact vx_out (fun x hx9 => (htb x hx9).elim) hlocks hce hcv hcl (fun t9 ht9 hvm9 => ⟨(), trivial, rfl, hS1.F ht9⟩) hS1.2.2 (Nat.le_of_ble_eq_true rfl) (Nat.le_of_ble_eq_true rfl)

set_option maxHeartbeats 4000000 in
set_option maxRecDepth 100000 in
theorem cx_X5_winner (l : Launch) (hfl : l.stackTraces = false) (dC : Nat → ClassId) (dI : Nat → Nat → Nat) (x : Nat) (po : Nat) (tr : Nat) (sp : Nat) (pa : Nat) (bx : Nat) (b0 : Nat) (b1 : Nat) (b4 : Nat) (b6 : Nat) (a0 : Int32) (a1 : Int32) (tx : String) (sa : Nat) (sz : Nat)  : vx_Met l yX5_winner wsX5_winner ({ frames := 7, cells := 1, slots := 6, locals := 120 }) (va_Pc [.ref x, .int a0, .int a1] (fun U => pr_ dC dI [(x, .inr (7, [.ref bx, .ref po, .ref tr, .ref pa, .ref sp])), (bx, .inr (2, [.ref b0, .ref b1, .int 0, .int 0, .ref b4, .int 0, .ref b6, .int 0, .int 0, .int 0, .int 0]))] [] sz U ∧ xs_ (va_A [(x, .inr (7, [.ref bx, .ref po, .ref tr, .ref pa, .ref sp])), (bx, .inr (2, [.ref b0, .ref b1, .int 0, .int 0, .ref b4, .int 0, .ref b6, .int 0, .int 0, .int 0, .int 0]))] sz) 299 tx sa "java/lang/IndexOutOfBoundsException" U)) (va_Qi (fun (_ : Int32) (_ : Unit) => False) (fun _ _ => True) (va_A [(x, .inr (7, [.ref bx, .ref po, .ref tr, .ref pa, .ref sp])), (bx, .inr (2, [.ref b0, .ref b1, .int 0, .int 0, .ref b4, .int 0, .ref b6, .int 0, .int 0, .int 0, .int 0]))] sz)) (vx_X (fun _ : Unit => True) (fun E _ _ => E = "java/lang/IndexOutOfBoundsException") (va_A [(x, .inr (7, [.ref bx, .ref po, .ref tr, .ref pa, .ref sp])), (bx, .inr (2, [.ref b0, .ref b1, .int 0, .int 0, .ref b4, .int 0, .ref b6, .int 0, .int 0, .int 0, .int 0]))] sz)) 1 6 (va_A [(x, .inr (7, [.ref bx, .ref po, .ref tr, .ref pa, .ref sp])), (bx, .inr (2, [.ref b0, .ref b1, .int 0, .int 0, .ref b4, .int 0, .ref b6, .int 0, .int 0, .int 0, .int 0]))] sz) := by
  refine vx_ofW (cc := cX5_winner) (maxL := 3) (ret := (some .int)) (by decide) rfl ?_
  intro p e s m args below meth c s₁ B hml htb hv
  obtain ⟨rfl, ⟨hsz, hP, hK, hD0⟩, hXs⟩ := hv
  have hx := B.exec
  have hb := B.bytes
  have hr := B.returns
  have hts := atoms_spec (ws := wsX5_winner) B.pre
  have hown : s.vm.findClass RX5 = some m.cls := findClass_of_methodNamed B.named
  have hlocks := B.notSynchronized
  subst hsz
  have hD := hD0.self (sz := s.heap.size)
  generalize hAe : va_A [(x, .inr (7, [.ref bx, .ref po, .ref tr, .ref pa, .ref sp])), (bx, .inr (2, [.ref b0, .ref b1, .int 0, .int 0, .ref b4, .int 0, .ref b6, .int 0, .int 0, .int 0, .int 0]))] s.heap.size = A at hD hXs ⊢
  have hA : ∀ q : Nat, s.heap.size ≤ q → A q := fun q h => by rw [← hAe]; exact Or.inr h
  have hS : va_S A s.heap s.heap [] := va_S.rf
  have hP : va_P (dC, dI) vwCl [(x, .inr (7, [.ref bx, .ref po, .ref tr, .ref pa, .ref sp])), (bx, .inr (2, [.ref b0, .ref b1, .int 0, .int 0, .ref b4, .int 0, .ref b6, .int 0, .int 0, .int 0, .int 0]))] s.heap := hP
  have hK : va_K (dC, dI) vwCl [] s := hK
  have hl := lv_entry ([.ref x, .int a0, .int a1]) (n := 3) (Nat.le_of_ble_eq_true rfl)
  rw [lg_entry_eq]
  generalize (lg_sl ([.ref x, .int a0, .int a1]) ++ List.replicate (3 - (lg_sl ([.ref x, .int a0, .int a1])).length) Slot.unset).toArray = ls at hl ⊢
  have hl : lv_has ls 3 [(0, .ref x), (1, .int a0), (2, .int a1)] := hl
  refine lv_aload_n hx hb dX5_winner_0 rfl (lv_at hl 0 rfl) ?_
  refine lv_iload_n hx hb dX5_winner_1 rfl (lv_at hl 1 rfl) ?_
  have hPc := hP.sub (ws' := [(x, .inr (7, [.ref bx, .ref po, .ref tr, .ref pa, .ref sp])), (bx, .inr (2, [.ref b0, .ref b1, .int 0, .int 0, .ref b4, .int 0, .ref b6, .int 0, .int 0, .int 0, .int 0]))]) [0, 1] rfl
  have hDc := hD.sub (ws' := [(x, .inr (7, [.ref bx, .ref po, .ref tr, .ref pa, .ref sp])), (bx, .inr (2, [.ref b0, .ref b1, .int 0, .int 0, .ref b4, .int 0, .ref b6, .int 0, .int 0, .int 0, .int 0]))]) [0, 1] (by decide) rfl
  have hKc := hK.sub (tys' := []) [] rfl
  have hFc := va_free (wc := [(x, .inr (7, [.ref bx, .ref po, .ref tr, .ref pa, .ref sp])), (bx, .inr (2, [.ref b0, .ref b1, .int 0, .int 0, .ref b4, .int 0, .ref b6, .int 0, .int 0, .int 0, .int 0]))]) hD hS hA [0, 1] rfl
  refine vx_callv (vx_runV (As := [.int a0]) (rest := []) ⟨hx, hb, hml, hown, hts⟩ (cx_X5_checkDistrict l hfl dC dI x po tr sp pa bx b0 b1 b4 b6 a0 tx sa _ ) (cwV 1 hts gX5_winner_X5_checkDistrict rfl rfl rfl (by decide +kernel) ⟨Nat.le_of_ble_eq_true rfl, Nat.le_of_ble_eq_true rfl⟩) ⟨px_blind, va_recv hKc hPc (ci := 7) (q0 := 0) rfl rfl, fun U hU hW => ⟨rfl, pr_mk hU hW hPc hKc hDc, xs_mk hU hW hS hFc hXs⟩⟩ rfl rfl hl.1 rfl (lv_room (Nat.le_of_ble_eq_true rfl)) dX5_winner_2 ⟨Nat.le_of_ble_eq_true rfl, Nat.le_of_ble_eq_true rfl⟩) hS (fun q _ h => hFc q h) hFc (fun q _ h => hFc q h) (fun E ce q9 u t H1 locs1 ht hvm hpx hB hz1 hk1 hS1 hce hcv hcl => ?_) (fun u t H1 locs1 ht hvm hw hB hz1 hk1 hS1 => hw.elim)
  obtain rfl : E = "java/lang/IndexOutOfBoundsException" := hB
  exact vx_out (fun x hx9 => (htb x hx9).elim) hlocks hce hcv hcl (fun t9 ht9 hvm9 => ⟨(), trivial, rfl, hS1.F ht9⟩) hS1.2.2 (Nat.le_of_ble_eq_true rfl) (Nat.le_of_ble_eq_true rfl)

set_option maxHeartbeats 4000000 in
set_option maxRecDepth 100000 in
theorem cx_X5_out (l : Launch) (hfl : l.stackTraces = false) (dC : Nat → ClassId) (dI : Nat → Nat → Nat) (x : Nat) (po : Nat) (tr : Nat) (sp : Nat) (pa : Nat) (bx : Nat) (b0 : Nat) (b1 : Nat) (b4 : Nat) (b6 : Nat) (a0 : Int32) (a1 : Int32) (tx : String) (sa : Nat) (sz : Nat)  : vx_Met l yX5_out wsX5_out ({ frames := 7, cells := 1, slots := 6, locals := 120 }) (va_Pc [.ref x, .int a0, .int a1] (fun U => pr_ dC dI [(x, .inr (7, [.ref bx, .ref po, .ref tr, .ref pa, .ref sp])), (bx, .inr (2, [.ref b0, .ref b1, .int 0, .int 0, .ref b4, .int 0, .ref b6, .int 0, .int 0, .int 0, .int 0]))] [] sz U ∧ xs_ (va_A [(x, .inr (7, [.ref bx, .ref po, .ref tr, .ref pa, .ref sp])), (bx, .inr (2, [.ref b0, .ref b1, .int 0, .int 0, .ref b4, .int 0, .ref b6, .int 0, .int 0, .int 0, .int 0]))] sz) 299 tx sa "java/lang/IndexOutOfBoundsException" U)) (va_Qi (fun (_ : Int32) (_ : Unit) => False) (fun _ _ => True) (va_A [(x, .inr (7, [.ref bx, .ref po, .ref tr, .ref pa, .ref sp])), (bx, .inr (2, [.ref b0, .ref b1, .int 0, .int 0, .ref b4, .int 0, .ref b6, .int 0, .int 0, .int 0, .int 0]))] sz)) (vx_X (fun _ : Unit => True) (fun E _ _ => E = "java/lang/IndexOutOfBoundsException") (va_A [(x, .inr (7, [.ref bx, .ref po, .ref tr, .ref pa, .ref sp])), (bx, .inr (2, [.ref b0, .ref b1, .int 0, .int 0, .ref b4, .int 0, .ref b6, .int 0, .int 0, .int 0, .int 0]))] sz)) 1 6 (va_A [(x, .inr (7, [.ref bx, .ref po, .ref tr, .ref pa, .ref sp])), (bx, .inr (2, [.ref b0, .ref b1, .int 0, .int 0, .ref b4, .int 0, .ref b6, .int 0, .int 0, .int 0, .int 0]))] sz) := by
  refine vx_ofW (cc := cX5_out) (maxL := 3) (ret := (some .int)) (by decide) rfl ?_
  intro p e s m args below meth c s₁ B hml htb hv
  obtain ⟨rfl, ⟨hsz, hP, hK, hD0⟩, hXs⟩ := hv
  have hx := B.exec
  have hb := B.bytes
  have hr := B.returns
  have hts := atoms_spec (ws := wsX5_out) B.pre
  have hown : s.vm.findClass RX5 = some m.cls := findClass_of_methodNamed B.named
  have hlocks := B.notSynchronized
  subst hsz
  have hD := hD0.self (sz := s.heap.size)
  generalize hAe : va_A [(x, .inr (7, [.ref bx, .ref po, .ref tr, .ref pa, .ref sp])), (bx, .inr (2, [.ref b0, .ref b1, .int 0, .int 0, .ref b4, .int 0, .ref b6, .int 0, .int 0, .int 0, .int 0]))] s.heap.size = A at hD hXs ⊢
  have hA : ∀ q : Nat, s.heap.size ≤ q → A q := fun q h => by rw [← hAe]; exact Or.inr h
  have hS : va_S A s.heap s.heap [] := va_S.rf
  have hP : va_P (dC, dI) vwCl [(x, .inr (7, [.ref bx, .ref po, .ref tr, .ref pa, .ref sp])), (bx, .inr (2, [.ref b0, .ref b1, .int 0, .int 0, .ref b4, .int 0, .ref b6, .int 0, .int 0, .int 0, .int 0]))] s.heap := hP
  have hK : va_K (dC, dI) vwCl [] s := hK
  have hl := lv_entry ([.ref x, .int a0, .int a1]) (n := 3) (Nat.le_of_ble_eq_true rfl)
  rw [lg_entry_eq]
  generalize (lg_sl ([.ref x, .int a0, .int a1]) ++ List.replicate (3 - (lg_sl ([.ref x, .int a0, .int a1])).length) Slot.unset).toArray = ls at hl ⊢
  have hl : lv_has ls 3 [(0, .ref x), (1, .int a0), (2, .int a1)] := hl
  refine lv_aload_n hx hb dX5_out_0 rfl (lv_at hl 0 rfl) ?_
  refine lv_iload_n hx hb dX5_out_1 rfl (lv_at hl 1 rfl) ?_
  have hPc := hP.sub (ws' := [(x, .inr (7, [.ref bx, .ref po, .ref tr, .ref pa, .ref sp])), (bx, .inr (2, [.ref b0, .ref b1, .int 0, .int 0, .ref b4, .int 0, .ref b6, .int 0, .int 0, .int 0, .int 0]))]) [0, 1] rfl
  have hDc := hD.sub (ws' := [(x, .inr (7, [.ref bx, .ref po, .ref tr, .ref pa, .ref sp])), (bx, .inr (2, [.ref b0, .ref b1, .int 0, .int 0, .ref b4, .int 0, .ref b6, .int 0, .int 0, .int 0, .int 0]))]) [0, 1] (by decide) rfl
  have hKc := hK.sub (tys' := []) [] rfl
  have hFc := va_free (wc := [(x, .inr (7, [.ref bx, .ref po, .ref tr, .ref pa, .ref sp])), (bx, .inr (2, [.ref b0, .ref b1, .int 0, .int 0, .ref b4, .int 0, .ref b6, .int 0, .int 0, .int 0, .int 0]))]) hD hS hA [0, 1] rfl
  refine vx_callv (vx_runV (As := [.int a0]) (rest := []) ⟨hx, hb, hml, hown, hts⟩ (cx_X5_checkDistrict l hfl dC dI x po tr sp pa bx b0 b1 b4 b6 a0 tx sa _ ) (cwV 1 hts gX5_out_X5_checkDistrict rfl rfl rfl (by decide +kernel) ⟨Nat.le_of_ble_eq_true rfl, Nat.le_of_ble_eq_true rfl⟩) ⟨px_blind, va_recv hKc hPc (ci := 7) (q0 := 0) rfl rfl, fun U hU hW => ⟨rfl, pr_mk hU hW hPc hKc hDc, xs_mk hU hW hS hFc hXs⟩⟩ rfl rfl hl.1 rfl (lv_room (Nat.le_of_ble_eq_true rfl)) dX5_out_2 ⟨Nat.le_of_ble_eq_true rfl, Nat.le_of_ble_eq_true rfl⟩) hS (fun q _ h => hFc q h) hFc (fun q _ h => hFc q h) (fun E ce q9 u t H1 locs1 ht hvm hpx hB hz1 hk1 hS1 hce hcv hcl => ?_) (fun u t H1 locs1 ht hvm hw hB hz1 hk1 hS1 => hw.elim)
  obtain rfl : E = "java/lang/IndexOutOfBoundsException" := hB
  exact vx_out (fun x hx9 => (htb x hx9).elim) hlocks hce hcv hcl (fun t9 ht9 hvm9 => ⟨(), trivial, rfl, hS1.F ht9⟩) hS1.2.2 (Nat.le_of_ble_eq_true rfl) (Nat.le_of_ble_eq_true rfl)

set_option maxHeartbeats 4000000 in
set_option maxRecDepth 100000 in
theorem cx_X5_elected (l : Launch) (hfl : l.stackTraces = false) (dC : Nat → ClassId) (dI : Nat → Nat → Nat) (x : Nat) (po : Nat) (tr : Nat) (sp : Nat) (pa : Nat) (bx : Nat) (b0 : Nat) (b1 : Nat) (b4 : Nat) (b6 : Nat) (a0 : Int32) (a1 : Int32) (tx : String) (sa : Nat) (sz : Nat)  : vx_Met l yX5_elected wsX5_elected ({ frames := 7, cells := 1, slots := 6, locals := 120 }) (va_Pc [.ref x, .int a0, .int a1] (fun U => pr_ dC dI [(x, .inr (7, [.ref bx, .ref po, .ref tr, .ref pa, .ref sp])), (bx, .inr (2, [.ref b0, .ref b1, .int 0, .int 0, .ref b4, .int 0, .ref b6, .int 0, .int 0, .int 0, .int 0]))] [] sz U ∧ xs_ (va_A [(x, .inr (7, [.ref bx, .ref po, .ref tr, .ref pa, .ref sp])), (bx, .inr (2, [.ref b0, .ref b1, .int 0, .int 0, .ref b4, .int 0, .ref b6, .int 0, .int 0, .int 0, .int 0]))] sz) 299 tx sa "java/lang/IndexOutOfBoundsException" U)) (va_Qi (fun (_ : Int32) (_ : Unit) => False) (fun _ _ => True) (va_A [(x, .inr (7, [.ref bx, .ref po, .ref tr, .ref pa, .ref sp])), (bx, .inr (2, [.ref b0, .ref b1, .int 0, .int 0, .ref b4, .int 0, .ref b6, .int 0, .int 0, .int 0, .int 0]))] sz)) (vx_X (fun _ : Unit => True) (fun E _ _ => E = "java/lang/IndexOutOfBoundsException") (va_A [(x, .inr (7, [.ref bx, .ref po, .ref tr, .ref pa, .ref sp])), (bx, .inr (2, [.ref b0, .ref b1, .int 0, .int 0, .ref b4, .int 0, .ref b6, .int 0, .int 0, .int 0, .int 0]))] sz)) 1 6 (va_A [(x, .inr (7, [.ref bx, .ref po, .ref tr, .ref pa, .ref sp])), (bx, .inr (2, [.ref b0, .ref b1, .int 0, .int 0, .ref b4, .int 0, .ref b6, .int 0, .int 0, .int 0, .int 0]))] sz) := by
  refine vx_ofW (cc := cX5_elected) (maxL := 3) (ret := (some .int)) (by decide) rfl ?_
  intro p e s m args below meth c s₁ B hml htb hv
  obtain ⟨rfl, ⟨hsz, hP, hK, hD0⟩, hXs⟩ := hv
  have hx := B.exec
  have hb := B.bytes
  have hr := B.returns
  have hts := atoms_spec (ws := wsX5_elected) B.pre
  have hown : s.vm.findClass RX5 = some m.cls := findClass_of_methodNamed B.named
  have hlocks := B.notSynchronized
  subst hsz
  have hD := hD0.self (sz := s.heap.size)
  generalize hAe : va_A [(x, .inr (7, [.ref bx, .ref po, .ref tr, .ref pa, .ref sp])), (bx, .inr (2, [.ref b0, .ref b1, .int 0, .int 0, .ref b4, .int 0, .ref b6, .int 0, .int 0, .int 0, .int 0]))] s.heap.size = A at hD hXs ⊢
  have hA : ∀ q : Nat, s.heap.size ≤ q → A q := fun q h => by rw [← hAe]; exact Or.inr h
  have hS : va_S A s.heap s.heap [] := va_S.rf
  have hP : va_P (dC, dI) vwCl [(x, .inr (7, [.ref bx, .ref po, .ref tr, .ref pa, .ref sp])), (bx, .inr (2, [.ref b0, .ref b1, .int 0, .int 0, .ref b4, .int 0, .ref b6, .int 0, .int 0, .int 0, .int 0]))] s.heap := hP
  have hK : va_K (dC, dI) vwCl [] s := hK
  have hl := lv_entry ([.ref x, .int a0, .int a1]) (n := 3) (Nat.le_of_ble_eq_true rfl)
  rw [lg_entry_eq]
  generalize (lg_sl ([.ref x, .int a0, .int a1]) ++ List.replicate (3 - (lg_sl ([.ref x, .int a0, .int a1])).length) Slot.unset).toArray = ls at hl ⊢
  have hl : lv_has ls 3 [(0, .ref x), (1, .int a0), (2, .int a1)] := hl
  refine lv_aload_n hx hb dX5_elected_0 rfl (lv_at hl 0 rfl) ?_
  refine lv_iload_n hx hb dX5_elected_1 rfl (lv_at hl 1 rfl) ?_
  have hPc := hP.sub (ws' := [(x, .inr (7, [.ref bx, .ref po, .ref tr, .ref pa, .ref sp])), (bx, .inr (2, [.ref b0, .ref b1, .int 0, .int 0, .ref b4, .int 0, .ref b6, .int 0, .int 0, .int 0, .int 0]))]) [0, 1] rfl
  have hDc := hD.sub (ws' := [(x, .inr (7, [.ref bx, .ref po, .ref tr, .ref pa, .ref sp])), (bx, .inr (2, [.ref b0, .ref b1, .int 0, .int 0, .ref b4, .int 0, .ref b6, .int 0, .int 0, .int 0, .int 0]))]) [0, 1] (by decide) rfl
  have hKc := hK.sub (tys' := []) [] rfl
  have hFc := va_free (wc := [(x, .inr (7, [.ref bx, .ref po, .ref tr, .ref pa, .ref sp])), (bx, .inr (2, [.ref b0, .ref b1, .int 0, .int 0, .ref b4, .int 0, .ref b6, .int 0, .int 0, .int 0, .int 0]))]) hD hS hA [0, 1] rfl
  refine vx_callv (vx_runV (As := [.int a0]) (rest := []) ⟨hx, hb, hml, hown, hts⟩ (cx_X5_checkDistrict l hfl dC dI x po tr sp pa bx b0 b1 b4 b6 a0 tx sa _ ) (cwV 1 hts gX5_elected_X5_checkDistrict rfl rfl rfl (by decide +kernel) ⟨Nat.le_of_ble_eq_true rfl, Nat.le_of_ble_eq_true rfl⟩) ⟨px_blind, va_recv hKc hPc (ci := 7) (q0 := 0) rfl rfl, fun U hU hW => ⟨rfl, pr_mk hU hW hPc hKc hDc, xs_mk hU hW hS hFc hXs⟩⟩ rfl rfl hl.1 rfl (lv_room (Nat.le_of_ble_eq_true rfl)) dX5_elected_2 ⟨Nat.le_of_ble_eq_true rfl, Nat.le_of_ble_eq_true rfl⟩) hS (fun q _ h => hFc q h) hFc (fun q _ h => hFc q h) (fun E ce q9 u t H1 locs1 ht hvm hpx hB hz1 hk1 hS1 hce hcv hcl => ?_) (fun u t H1 locs1 ht hvm hw hB hz1 hk1 hS1 => hw.elim)
  obtain rfl : E = "java/lang/IndexOutOfBoundsException" := hB
  exact vx_out (fun x hx9 => (htb x hx9).elim) hlocks hce hcv hcl (fun t9 ht9 hvm9 => ⟨(), trivial, rfl, hS1.F ht9⟩) hS1.2.2 (Nat.le_of_ble_eq_true rfl) (Nat.le_of_ble_eq_true rfl)

set_option maxHeartbeats 4000000 in
set_option maxRecDepth 100000 in
theorem cx_X5_worth (l : Launch) (hfl : l.stackTraces = false) (dC : Nat → ClassId) (dI : Nat → Nat → Nat) (x : Nat) (po : Nat) (tr : Nat) (sp : Nat) (pa : Nat) (bx : Nat) (b0 : Nat) (b1 : Nat) (b4 : Nat) (b6 : Nat) (a0 : Int32) (tx : String) (sa : Nat) (sz : Nat)  : vx_Met l yX5_worth wsX5_worth ({ frames := 7, cells := 1, slots := 6, locals := 120 }) (va_Pc [.ref x, .int a0] (fun U => pr_ dC dI [(x, .inr (7, [.ref bx, .ref po, .ref tr, .ref pa, .ref sp])), (bx, .inr (2, [.ref b0, .ref b1, .int 0, .int 0, .ref b4, .int 0, .ref b6, .int 0, .int 0, .int 0, .int 0]))] [] sz U ∧ xs_ (va_A [(x, .inr (7, [.ref bx, .ref po, .ref tr, .ref pa, .ref sp])), (bx, .inr (2, [.ref b0, .ref b1, .int 0, .int 0, .ref b4, .int 0, .ref b6, .int 0, .int 0, .int 0, .int 0]))] sz) 301 tx sa "java/lang/IndexOutOfBoundsException" U)) (va_Qd (fun (_ : UInt64) (_ : Unit) => False) (fun _ _ => True) (va_A [(x, .inr (7, [.ref bx, .ref po, .ref tr, .ref pa, .ref sp])), (bx, .inr (2, [.ref b0, .ref b1, .int 0, .int 0, .ref b4, .int 0, .ref b6, .int 0, .int 0, .int 0, .int 0]))] sz)) (vx_X (fun _ : Unit => True) (fun E _ _ => E = "java/lang/IndexOutOfBoundsException") (va_A [(x, .inr (7, [.ref bx, .ref po, .ref tr, .ref pa, .ref sp])), (bx, .inr (2, [.ref b0, .ref b1, .int 0, .int 0, .ref b4, .int 0, .ref b6, .int 0, .int 0, .int 0, .int 0]))] sz)) 1 6 (va_A [(x, .inr (7, [.ref bx, .ref po, .ref tr, .ref pa, .ref sp])), (bx, .inr (2, [.ref b0, .ref b1, .int 0, .int 0, .ref b4, .int 0, .ref b6, .int 0, .int 0, .int 0, .int 0]))] sz) := by
  refine vx_ofW (cc := cX5_worth) (maxL := 3) (ret := (some .double)) (by decide) rfl ?_
  intro p e s m args below meth c s₁ B hml htb hv
  obtain ⟨rfl, ⟨hsz, hP, hK, hD0⟩, hXs⟩ := hv
  have hx := B.exec
  have hb := B.bytes
  have hr := B.returns
  have hts := atoms_spec (ws := wsX5_worth) B.pre
  have hown : s.vm.findClass RX5 = some m.cls := findClass_of_methodNamed B.named
  have hlocks := B.notSynchronized
  subst hsz
  have hD := hD0.self (sz := s.heap.size)
  generalize hAe : va_A [(x, .inr (7, [.ref bx, .ref po, .ref tr, .ref pa, .ref sp])), (bx, .inr (2, [.ref b0, .ref b1, .int 0, .int 0, .ref b4, .int 0, .ref b6, .int 0, .int 0, .int 0, .int 0]))] s.heap.size = A at hD hXs ⊢
  have hA : ∀ q : Nat, s.heap.size ≤ q → A q := fun q h => by rw [← hAe]; exact Or.inr h
  have hS : va_S A s.heap s.heap [] := va_S.rf
  have hP : va_P (dC, dI) vwCl [(x, .inr (7, [.ref bx, .ref po, .ref tr, .ref pa, .ref sp])), (bx, .inr (2, [.ref b0, .ref b1, .int 0, .int 0, .ref b4, .int 0, .ref b6, .int 0, .int 0, .int 0, .int 0]))] s.heap := hP
  have hK : va_K (dC, dI) vwCl [] s := hK
  have hl := lv_entry ([.ref x, .int a0]) (n := 3) (Nat.le_of_ble_eq_true rfl)
  rw [lg_entry_eq]
  generalize (lg_sl ([.ref x, .int a0]) ++ List.replicate (3 - (lg_sl ([.ref x, .int a0])).length) Slot.unset).toArray = ls at hl ⊢
  have hl : lv_has ls 3 [(0, .ref x), (1, .int a0)] := hl
  refine lv_aload_n hx hb dX5_worth_0 rfl (lv_at hl 0 rfl) ?_
  refine lv_iload_n hx hb dX5_worth_1 rfl (lv_at hl 1 rfl) ?_
  have hPc := hP.sub (ws' := [(x, .inr (7, [.ref bx, .ref po, .ref tr, .ref pa, .ref sp])), (bx, .inr (2, [.ref b0, .ref b1, .int 0, .int 0, .ref b4, .int 0, .ref b6, .int 0, .int 0, .int 0, .int 0]))]) [0, 1] rfl
  have hDc := hD.sub (ws' := [(x, .inr (7, [.ref bx, .ref po, .ref tr, .ref pa, .ref sp])), (bx, .inr (2, [.ref b0, .ref b1, .int 0, .int 0, .ref b4, .int 0, .ref b6, .int 0, .int 0, .int 0, .int 0]))]) [0, 1] (by decide) rfl
  have hKc := hK.sub (tys' := []) [] rfl
  have hFc := va_free (wc := [(x, .inr (7, [.ref bx, .ref po, .ref tr, .ref pa, .ref sp])), (bx, .inr (2, [.ref b0, .ref b1, .int 0, .int 0, .ref b4, .int 0, .ref b6, .int 0, .int 0, .int 0, .int 0]))]) hD hS hA [0, 1] rfl
  refine vx_callv (vx_runV (As := [.int a0]) (rest := []) ⟨hx, hb, hml, hown, hts⟩ (cx_X5_checkStack l hfl dC dI x po tr sp pa bx b0 b1 b4 b6 a0 tx sa _ ) (cwV 1 hts gX5_worth_X5_checkStack rfl rfl rfl (by decide +kernel) ⟨Nat.le_of_ble_eq_true rfl, Nat.le_of_ble_eq_true rfl⟩) ⟨px_blind, va_recv hKc hPc (ci := 7) (q0 := 0) rfl rfl, fun U hU hW => ⟨rfl, pr_mk hU hW hPc hKc hDc, xs_mk hU hW hS hFc hXs⟩⟩ rfl rfl hl.1 rfl (lv_room (Nat.le_of_ble_eq_true rfl)) dX5_worth_2 ⟨Nat.le_of_ble_eq_true rfl, Nat.le_of_ble_eq_true rfl⟩) hS (fun q _ h => hFc q h) hFc (fun q _ h => hFc q h) (fun E ce q9 u t H1 locs1 ht hvm hpx hB hz1 hk1 hS1 hce hcv hcl => ?_) (fun u t H1 locs1 ht hvm hw hB hz1 hk1 hS1 => hw.elim)
  obtain rfl : E = "java/lang/IndexOutOfBoundsException" := hB
  exact vx_out (fun x hx9 => (htb x hx9).elim) hlocks hce hcv hcl (fun t9 ht9 hvm9 => ⟨(), trivial, rfl, hS1.F ht9⟩) hS1.2.2 (Nat.le_of_ble_eq_true rfl) (Nat.le_of_ble_eq_true rfl)

set_option maxHeartbeats 4000000 in
set_option maxRecDepth 100000 in
theorem cx_X5_margin (l : Launch) (hfl : l.stackTraces = false) (dC : Nat → ClassId) (dI : Nat → Nat → Nat) (x : Nat) (po : Nat) (tr : Nat) (sp : Nat) (pa : Nat) (bx : Nat) (b0 : Nat) (b1 : Nat) (b4 : Nat) (b6 : Nat) (a0 : Int32) (tx : String) (sa : Nat) (sz : Nat)  : vx_Met l yX5_margin wsX5_margin ({ frames := 7, cells := 1, slots := 6, locals := 120 }) (va_Pc [.ref x, .int a0] (fun U => pr_ dC dI [(x, .inr (7, [.ref bx, .ref po, .ref tr, .ref pa, .ref sp])), (bx, .inr (2, [.ref b0, .ref b1, .int 0, .int 0, .ref b4, .int 0, .ref b6, .int 0, .int 0, .int 0, .int 0]))] [] sz U ∧ xs_ (va_A [(x, .inr (7, [.ref bx, .ref po, .ref tr, .ref pa, .ref sp])), (bx, .inr (2, [.ref b0, .ref b1, .int 0, .int 0, .ref b4, .int 0, .ref b6, .int 0, .int 0, .int 0, .int 0]))] sz) 299 tx sa "java/lang/IndexOutOfBoundsException" U)) (va_Qi (fun (_ : Int32) (_ : Unit) => False) (fun _ _ => True) (va_A [(x, .inr (7, [.ref bx, .ref po, .ref tr, .ref pa, .ref sp])), (bx, .inr (2, [.ref b0, .ref b1, .int 0, .int 0, .ref b4, .int 0, .ref b6, .int 0, .int 0, .int 0, .int 0]))] sz)) (vx_X (fun _ : Unit => True) (fun E _ _ => E = "java/lang/IndexOutOfBoundsException") (va_A [(x, .inr (7, [.ref bx, .ref po, .ref tr, .ref pa, .ref sp])), (bx, .inr (2, [.ref b0, .ref b1, .int 0, .int 0, .ref b4, .int 0, .ref b6, .int 0, .int 0, .int 0, .int 0]))] sz)) 1 6 (va_A [(x, .inr (7, [.ref bx, .ref po, .ref tr, .ref pa, .ref sp])), (bx, .inr (2, [.ref b0, .ref b1, .int 0, .int 0, .ref b4, .int 0, .ref b6, .int 0, .int 0, .int 0, .int 0]))] sz) := by
  refine vx_ofW (cc := cX5_margin) (maxL := 2) (ret := (some .int)) (by decide) rfl ?_
  intro p e s m args below meth c s₁ B hml htb hv
  obtain ⟨rfl, ⟨hsz, hP, hK, hD0⟩, hXs⟩ := hv
  have hx := B.exec
  have hb := B.bytes
  have hr := B.returns
  have hts := atoms_spec (ws := wsX5_margin) B.pre
  have hown : s.vm.findClass RX5 = some m.cls := findClass_of_methodNamed B.named
  have hlocks := B.notSynchronized
  subst hsz
  have hD := hD0.self (sz := s.heap.size)
  generalize hAe : va_A [(x, .inr (7, [.ref bx, .ref po, .ref tr, .ref pa, .ref sp])), (bx, .inr (2, [.ref b0, .ref b1, .int 0, .int 0, .ref b4, .int 0, .ref b6, .int 0, .int 0, .int 0, .int 0]))] s.heap.size = A at hD hXs ⊢
  have hA : ∀ q : Nat, s.heap.size ≤ q → A q := fun q h => by rw [← hAe]; exact Or.inr h
  have hS : va_S A s.heap s.heap [] := va_S.rf
  have hP : va_P (dC, dI) vwCl [(x, .inr (7, [.ref bx, .ref po, .ref tr, .ref pa, .ref sp])), (bx, .inr (2, [.ref b0, .ref b1, .int 0, .int 0, .ref b4, .int 0, .ref b6, .int 0, .int 0, .int 0, .int 0]))] s.heap := hP
  have hK : va_K (dC, dI) vwCl [] s := hK
  have hl := lv_entry ([.ref x, .int a0]) (n := 2) (Nat.le_of_ble_eq_true rfl)
  rw [lg_entry_eq]
  generalize (lg_sl ([.ref x, .int a0]) ++ List.replicate (2 - (lg_sl ([.ref x, .int a0])).length) Slot.unset).toArray = ls at hl ⊢
  have hl : lv_has ls 2 [(0, .ref x), (1, .int a0)] := hl
  refine lv_aload_n hx hb dX5_margin_0 rfl (lv_at hl 0 rfl) ?_
  refine lv_iload_n hx hb dX5_margin_1 rfl (lv_at hl 1 rfl) ?_
  have hPc := hP.sub (ws' := [(x, .inr (7, [.ref bx, .ref po, .ref tr, .ref pa, .ref sp])), (bx, .inr (2, [.ref b0, .ref b1, .int 0, .int 0, .ref b4, .int 0, .ref b6, .int 0, .int 0, .int 0, .int 0]))]) [0, 1] rfl
  have hDc := hD.sub (ws' := [(x, .inr (7, [.ref bx, .ref po, .ref tr, .ref pa, .ref sp])), (bx, .inr (2, [.ref b0, .ref b1, .int 0, .int 0, .ref b4, .int 0, .ref b6, .int 0, .int 0, .int 0, .int 0]))]) [0, 1] (by decide) rfl
  have hKc := hK.sub (tys' := []) [] rfl
  have hFc := va_free (wc := [(x, .inr (7, [.ref bx, .ref po, .ref tr, .ref pa, .ref sp])), (bx, .inr (2, [.ref b0, .ref b1, .int 0, .int 0, .ref b4, .int 0, .ref b6, .int 0, .int 0, .int 0, .int 0]))]) hD hS hA [0, 1] rfl
  refine vx_callv (vx_runV (As := [.int a0]) (rest := []) ⟨hx, hb, hml, hown, hts⟩ (cx_X5_checkDistrict l hfl dC dI x po tr sp pa bx b0 b1 b4 b6 a0 tx sa _ ) (cwV 1 hts gX5_margin_X5_checkDistrict rfl rfl rfl (by decide +kernel) ⟨Nat.le_of_ble_eq_true rfl, Nat.le_of_ble_eq_true rfl⟩) ⟨px_blind, va_recv hKc hPc (ci := 7) (q0 := 0) rfl rfl, fun U hU hW => ⟨rfl, pr_mk hU hW hPc hKc hDc, xs_mk hU hW hS hFc hXs⟩⟩ rfl rfl hl.1 rfl (lv_room (Nat.le_of_ble_eq_true rfl)) dX5_margin_2 ⟨Nat.le_of_ble_eq_true rfl, Nat.le_of_ble_eq_true rfl⟩) hS (fun q _ h => hFc q h) hFc (fun q _ h => hFc q h) (fun E ce q9 u t H1 locs1 ht hvm hpx hB hz1 hk1 hS1 hce hcv hcl => ?_) (fun u t H1 locs1 ht hvm hw hB hz1 hk1 hS1 => hw.elim)
  obtain rfl : E = "java/lang/IndexOutOfBoundsException" := hB
  exact vx_out (fun x hx9 => (htb x hx9).elim) hlocks hce hcv hcl (fun t9 ht9 hvm9 => ⟨(), trivial, rfl, hS1.F ht9⟩) hS1.2.2 (Nat.le_of_ble_eq_true rfl) (Nat.le_of_ble_eq_true rfl)

set_option maxHeartbeats 4000000 in
set_option maxRecDepth 100000 in
theorem cx_X5_wouldWin (l : Launch) (hfl : l.stackTraces = false) (dC : Nat → ClassId) (dI : Nat → Nat → Nat) (x : Nat) (po : Nat) (tr : Nat) (sp : Nat) (pa : Nat) (bx : Nat) (b0 : Nat) (b1 : Nat) (b4 : Nat) (b6 : Nat) (a0 : Int32) (a1 : Int32) (a2 : Int32) (tx : String) (sa : Nat) (sz : Nat)  : vx_Met l yX5_wouldWin wsX5_wouldWin ({ frames := 7, cells := 1, slots := 6, locals := 120 }) (va_Pc [.ref x, .int a0, .int a1, .int a2] (fun U => pr_ dC dI [(x, .inr (7, [.ref bx, .ref po, .ref tr, .ref pa, .ref sp])), (bx, .inr (2, [.ref b0, .ref b1, .int 0, .int 0, .ref b4, .int 0, .ref b6, .int 0, .int 0, .int 0, .int 0]))] [] sz U ∧ xs_ (va_A [(x, .inr (7, [.ref bx, .ref po, .ref tr, .ref pa, .ref sp])), (bx, .inr (2, [.ref b0, .ref b1, .int 0, .int 0, .ref b4, .int 0, .ref b6, .int 0, .int 0, .int 0, .int 0]))] sz) 301 tx sa "java/lang/IndexOutOfBoundsException" U)) (va_Qi (fun (_ : Int32) (_ : Unit) => False) (fun _ _ => True) (va_A [(x, .inr (7, [.ref bx, .ref po, .ref tr, .ref pa, .ref sp])), (bx, .inr (2, [.ref b0, .ref b1, .int 0, .int 0, .ref b4, .int 0, .ref b6, .int 0, .int 0, .int 0, .int 0]))] sz)) (vx_X (fun _ : Unit => True) (fun E _ _ => E = "java/lang/IndexOutOfBoundsException") (va_A [(x, .inr (7, [.ref bx, .ref po, .ref tr, .ref pa, .ref sp])), (bx, .inr (2, [.ref b0, .ref b1, .int 0, .int 0, .ref b4, .int 0, .ref b6, .int 0, .int 0, .int 0, .int 0]))] sz)) 1 6 (va_A [(x, .inr (7, [.ref bx, .ref po, .ref tr, .ref pa, .ref sp])), (bx, .inr (2, [.ref b0, .ref b1, .int 0, .int 0, .ref b4, .int 0, .ref b6, .int 0, .int 0, .int 0, .int 0]))] sz) := by
  refine vx_ofW (cc := cX5_wouldWin) (maxL := 6) (ret := (some .int)) (by decide) rfl ?_
  intro p e s m args below meth c s₁ B hml htb hv
  obtain ⟨rfl, ⟨hsz, hP, hK, hD0⟩, hXs⟩ := hv
  have hx := B.exec
  have hb := B.bytes
  have hr := B.returns
  have hts := atoms_spec (ws := wsX5_wouldWin) B.pre
  have hown : s.vm.findClass RX5 = some m.cls := findClass_of_methodNamed B.named
  have hlocks := B.notSynchronized
  subst hsz
  have hD := hD0.self (sz := s.heap.size)
  generalize hAe : va_A [(x, .inr (7, [.ref bx, .ref po, .ref tr, .ref pa, .ref sp])), (bx, .inr (2, [.ref b0, .ref b1, .int 0, .int 0, .ref b4, .int 0, .ref b6, .int 0, .int 0, .int 0, .int 0]))] s.heap.size = A at hD hXs ⊢
  have hA : ∀ q : Nat, s.heap.size ≤ q → A q := fun q h => by rw [← hAe]; exact Or.inr h
  have hS : va_S A s.heap s.heap [] := va_S.rf
  have hP : va_P (dC, dI) vwCl [(x, .inr (7, [.ref bx, .ref po, .ref tr, .ref pa, .ref sp])), (bx, .inr (2, [.ref b0, .ref b1, .int 0, .int 0, .ref b4, .int 0, .ref b6, .int 0, .int 0, .int 0, .int 0]))] s.heap := hP
  have hK : va_K (dC, dI) vwCl [] s := hK
  have hl := lv_entry ([.ref x, .int a0, .int a1, .int a2]) (n := 6) (Nat.le_of_ble_eq_true rfl)
  rw [lg_entry_eq]
  generalize (lg_sl ([.ref x, .int a0, .int a1, .int a2]) ++ List.replicate (6 - (lg_sl ([.ref x, .int a0, .int a1, .int a2])).length) Slot.unset).toArray = ls at hl ⊢
  have hl : lv_has ls 6 [(0, .ref x), (1, .int a0), (2, .int a1), (3, .int a2)] := hl
  refine lv_aload_n hx hb dX5_wouldWin_0 rfl (lv_at hl 0 rfl) ?_
  refine lv_iload_n hx hb dX5_wouldWin_1 rfl (lv_at hl 1 rfl) ?_
  have hPc := hP.sub (ws' := [(x, .inr (7, [.ref bx, .ref po, .ref tr, .ref pa, .ref sp])), (bx, .inr (2, [.ref b0, .ref b1, .int 0, .int 0, .ref b4, .int 0, .ref b6, .int 0, .int 0, .int 0, .int 0]))]) [0, 1] rfl
  have hDc := hD.sub (ws' := [(x, .inr (7, [.ref bx, .ref po, .ref tr, .ref pa, .ref sp])), (bx, .inr (2, [.ref b0, .ref b1, .int 0, .int 0, .ref b4, .int 0, .ref b6, .int 0, .int 0, .int 0, .int 0]))]) [0, 1] (by decide) rfl
  have hKc := hK.sub (tys' := []) [] rfl
  have hFc := va_free (wc := [(x, .inr (7, [.ref bx, .ref po, .ref tr, .ref pa, .ref sp])), (bx, .inr (2, [.ref b0, .ref b1, .int 0, .int 0, .ref b4, .int 0, .ref b6, .int 0, .int 0, .int 0, .int 0]))]) hD hS hA [0, 1] rfl
  refine vx_callv (vx_runV (As := [.int a0]) (rest := []) ⟨hx, hb, hml, hown, hts⟩ (cx_X5_checkStack l hfl dC dI x po tr sp pa bx b0 b1 b4 b6 a0 tx sa _ ) (cwV 1 hts gX5_wouldWin_X5_checkStack rfl rfl rfl (by decide +kernel) ⟨Nat.le_of_ble_eq_true rfl, Nat.le_of_ble_eq_true rfl⟩) ⟨px_blind, va_recv hKc hPc (ci := 7) (q0 := 0) rfl rfl, fun U hU hW => ⟨rfl, pr_mk hU hW hPc hKc hDc, xs_mk hU hW hS hFc hXs⟩⟩ rfl rfl hl.1 rfl (lv_room (Nat.le_of_ble_eq_true rfl)) dX5_wouldWin_2 ⟨Nat.le_of_ble_eq_true rfl, Nat.le_of_ble_eq_true rfl⟩) hS (fun q _ h => hFc q h) hFc (fun q _ h => hFc q h) (fun E ce q9 u t H1 locs1 ht hvm hpx hB hz1 hk1 hS1 hce hcv hcl => ?_) (fun u t H1 locs1 ht hvm hw hB hz1 hk1 hS1 => hw.elim)
  obtain rfl : E = "java/lang/IndexOutOfBoundsException" := hB
  exact vx_out (fun x hx9 => (htb x hx9).elim) hlocks hce hcv hcl (fun t9 ht9 hvm9 => ⟨(), trivial, rfl, hS1.F ht9⟩) hS1.2.2 (Nat.le_of_ble_eq_true rfl) (Nat.le_of_ble_eq_true rfl)

set_option maxHeartbeats 4000000 in
set_option maxRecDepth 100000 in
theorem cx_X5_lie (l : Launch) (hfl : l.stackTraces = false) (dC : Nat → ClassId) (dI : Nat → Nat → Nat) (x : Nat) (po : Nat) (tr : Nat) (sp : Nat) (pa : Nat) (bx : Nat) (b0 : Nat) (b1 : Nat) (b4 : Nat) (b6 : Nat) (a0 : Int32) (a1 : Int32) (tx : String) (sa : Nat) (sz : Nat)  : vx_Met l yX5_lie wsX5_lie ({ frames := 7, cells := 1, slots := 6, locals := 120 }) (va_Pc [.ref x, .int a0, .int a1] (fun U => pr_ dC dI [(x, .inr (7, [.ref bx, .ref po, .ref tr, .ref pa, .ref sp])), (bx, .inr (2, [.ref b0, .ref b1, .int 0, .int 0, .ref b4, .int 0, .ref b6, .int 0, .int 0, .int 0, .int 0]))] [] sz U ∧ xs_ (va_A [(x, .inr (7, [.ref bx, .ref po, .ref tr, .ref pa, .ref sp])), (bx, .inr (2, [.ref b0, .ref b1, .int 0, .int 0, .ref b4, .int 0, .ref b6, .int 0, .int 0, .int 0, .int 0]))] sz) 301 tx sa "java/lang/IndexOutOfBoundsException" U)) (va_Qi (fun (_ : Int32) (_ : Unit) => False) (fun _ _ => True) (va_A [(x, .inr (7, [.ref bx, .ref po, .ref tr, .ref pa, .ref sp])), (bx, .inr (2, [.ref b0, .ref b1, .int 0, .int 0, .ref b4, .int 0, .ref b6, .int 0, .int 0, .int 0, .int 0]))] sz)) (vx_X (fun _ : Unit => True) (fun E _ _ => E = "java/lang/IndexOutOfBoundsException") (va_A [(x, .inr (7, [.ref bx, .ref po, .ref tr, .ref pa, .ref sp])), (bx, .inr (2, [.ref b0, .ref b1, .int 0, .int 0, .ref b4, .int 0, .ref b6, .int 0, .int 0, .int 0, .int 0]))] sz)) 1 6 (va_A [(x, .inr (7, [.ref bx, .ref po, .ref tr, .ref pa, .ref sp])), (bx, .inr (2, [.ref b0, .ref b1, .int 0, .int 0, .ref b4, .int 0, .ref b6, .int 0, .int 0, .int 0, .int 0]))] sz) := by
  refine vx_ofW (cc := cX5_lie) (maxL := 8) (ret := (some .int)) (by decide) rfl ?_
  intro p e s m args below meth c s₁ B hml htb hv
  obtain ⟨rfl, ⟨hsz, hP, hK, hD0⟩, hXs⟩ := hv
  have hx := B.exec
  have hb := B.bytes
  have hr := B.returns
  have hts := atoms_spec (ws := wsX5_lie) B.pre
  have hown : s.vm.findClass RX5 = some m.cls := findClass_of_methodNamed B.named
  have hlocks := B.notSynchronized
  subst hsz
  have hD := hD0.self (sz := s.heap.size)
  generalize hAe : va_A [(x, .inr (7, [.ref bx, .ref po, .ref tr, .ref pa, .ref sp])), (bx, .inr (2, [.ref b0, .ref b1, .int 0, .int 0, .ref b4, .int 0, .ref b6, .int 0, .int 0, .int 0, .int 0]))] s.heap.size = A at hD hXs ⊢
  have hA : ∀ q : Nat, s.heap.size ≤ q → A q := fun q h => by rw [← hAe]; exact Or.inr h
  have hS : va_S A s.heap s.heap [] := va_S.rf
  have hP : va_P (dC, dI) vwCl [(x, .inr (7, [.ref bx, .ref po, .ref tr, .ref pa, .ref sp])), (bx, .inr (2, [.ref b0, .ref b1, .int 0, .int 0, .ref b4, .int 0, .ref b6, .int 0, .int 0, .int 0, .int 0]))] s.heap := hP
  have hK : va_K (dC, dI) vwCl [] s := hK
  have hl := lv_entry ([.ref x, .int a0, .int a1]) (n := 8) (Nat.le_of_ble_eq_true rfl)
  rw [lg_entry_eq]
  generalize (lg_sl ([.ref x, .int a0, .int a1]) ++ List.replicate (8 - (lg_sl ([.ref x, .int a0, .int a1])).length) Slot.unset).toArray = ls at hl ⊢
  have hl : lv_has ls 8 [(0, .ref x), (1, .int a0), (2, .int a1)] := hl
  refine lv_aload_n hx hb dX5_lie_0 rfl (lv_at hl 0 rfl) ?_
  refine lv_iload_n hx hb dX5_lie_1 rfl (lv_at hl 1 rfl) ?_
  have hPc := hP.sub (ws' := [(x, .inr (7, [.ref bx, .ref po, .ref tr, .ref pa, .ref sp])), (bx, .inr (2, [.ref b0, .ref b1, .int 0, .int 0, .ref b4, .int 0, .ref b6, .int 0, .int 0, .int 0, .int 0]))]) [0, 1] rfl
  have hDc := hD.sub (ws' := [(x, .inr (7, [.ref bx, .ref po, .ref tr, .ref pa, .ref sp])), (bx, .inr (2, [.ref b0, .ref b1, .int 0, .int 0, .ref b4, .int 0, .ref b6, .int 0, .int 0, .int 0, .int 0]))]) [0, 1] (by decide) rfl
  have hKc := hK.sub (tys' := []) [] rfl
  have hFc := va_free (wc := [(x, .inr (7, [.ref bx, .ref po, .ref tr, .ref pa, .ref sp])), (bx, .inr (2, [.ref b0, .ref b1, .int 0, .int 0, .ref b4, .int 0, .ref b6, .int 0, .int 0, .int 0, .int 0]))]) hD hS hA [0, 1] rfl
  refine vx_callv (vx_runV (As := [.int a0]) (rest := []) ⟨hx, hb, hml, hown, hts⟩ (cx_X5_checkStack l hfl dC dI x po tr sp pa bx b0 b1 b4 b6 a0 tx sa _ ) (cwV 1 hts gX5_lie_X5_checkStack rfl rfl rfl (by decide +kernel) ⟨Nat.le_of_ble_eq_true rfl, Nat.le_of_ble_eq_true rfl⟩) ⟨px_blind, va_recv hKc hPc (ci := 7) (q0 := 0) rfl rfl, fun U hU hW => ⟨rfl, pr_mk hU hW hPc hKc hDc, xs_mk hU hW hS hFc hXs⟩⟩ rfl rfl hl.1 rfl (lv_room (Nat.le_of_ble_eq_true rfl)) dX5_lie_2 ⟨Nat.le_of_ble_eq_true rfl, Nat.le_of_ble_eq_true rfl⟩) hS (fun q _ h => hFc q h) hFc (fun q _ h => hFc q h) (fun E ce q9 u t H1 locs1 ht hvm hpx hB hz1 hk1 hS1 hce hcv hcl => ?_) (fun u t H1 locs1 ht hvm hw hB hz1 hk1 hS1 => hw.elim)
  obtain rfl : E = "java/lang/IndexOutOfBoundsException" := hB
  exact vx_out (fun x hx9 => (htb x hx9).elim) hlocks hce hcv hcl (fun t9 ht9 hvm9 => ⟨(), trivial, rfl, hS1.F ht9⟩) hS1.2.2 (Nat.le_of_ble_eq_true rfl) (Nat.le_of_ble_eq_true rfl)

set_option maxHeartbeats 4000000 in
set_option maxRecDepth 100000 in
theorem cx_X5_candidate (l : Launch) (hfl : l.stackTraces = false) (dC : Nat → ClassId) (dI : Nat → Nat → Nat) (x : Nat) (po : Nat) (tr : Nat) (sp : Nat) (pa : Nat) (bx : Nat) (b0 : Nat) (b1 : Nat) (b4 : Nat) (b6 : Nat) (a0 : Int32) (tx : String) (sa : Nat) (sz : Nat) (hbd : a0 < 0 ∨ 4 ≤ a0) : vx_Met l yX5_candidate wsX5_candidate ({ frames := 6, cells := 1, slots := 6, locals := 95 }) (va_Pc [.ref x, .int a0] (fun U => pr_ dC dI [(x, .inr (7, [.ref bx, .ref po, .ref tr, .ref pa, .ref sp])), (bx, .inr (2, [.ref b0, .ref b1, .int 0, .int 0, .ref b4, .int 0, .ref b6, .int 0, .int 0, .int 0, .int 0]))] [] sz U ∧ xs_ (va_A [(x, .inr (7, [.ref bx, .ref po, .ref tr, .ref pa, .ref sp])), (bx, .inr (2, [.ref b0, .ref b1, .int 0, .int 0, .ref b4, .int 0, .ref b6, .int 0, .int 0, .int 0, .int 0]))] sz) 50 tx sa "java/lang/IllegalArgumentException" U)) (va_Qi (fun (_ : Int32) (_ : Unit) => False) (fun _ _ => True) (va_A [(x, .inr (7, [.ref bx, .ref po, .ref tr, .ref pa, .ref sp])), (bx, .inr (2, [.ref b0, .ref b1, .int 0, .int 0, .ref b4, .int 0, .ref b6, .int 0, .int 0, .int 0, .int 0]))] sz)) (vx_X (fun _ : Unit => True) (fun E _ _ => E = "java/lang/IllegalArgumentException") (va_A [(x, .inr (7, [.ref bx, .ref po, .ref tr, .ref pa, .ref sp])), (bx, .inr (2, [.ref b0, .ref b1, .int 0, .int 0, .ref b4, .int 0, .ref b6, .int 0, .int 0, .int 0, .int 0]))] sz)) 1 6 (va_A [(x, .inr (7, [.ref bx, .ref po, .ref tr, .ref pa, .ref sp])), (bx, .inr (2, [.ref b0, .ref b1, .int 0, .int 0, .ref b4, .int 0, .ref b6, .int 0, .int 0, .int 0, .int 0]))] sz) := by
  refine vx_ofW (cc := cX5_candidate) (maxL := 2) (ret := (some .int)) (by decide) rfl ?_
  intro p e s m args below meth c s₁ B hml htb hv
  obtain ⟨rfl, ⟨hsz, hP, hK, hD0⟩, hXs⟩ := hv
  have hx := B.exec
  have hb := B.bytes
  have hr := B.returns
  have hts := atoms_spec (ws := wsX5_candidate) B.pre
  have hown : s.vm.findClass RX5 = some m.cls := findClass_of_methodNamed B.named
  have hlocks := B.notSynchronized
  subst hsz
  have hD := hD0.self (sz := s.heap.size)
  generalize hAe : va_A [(x, .inr (7, [.ref bx, .ref po, .ref tr, .ref pa, .ref sp])), (bx, .inr (2, [.ref b0, .ref b1, .int 0, .int 0, .ref b4, .int 0, .ref b6, .int 0, .int 0, .int 0, .int 0]))] s.heap.size = A at hD hXs ⊢
  have hA : ∀ q : Nat, s.heap.size ≤ q → A q := fun q h => by rw [← hAe]; exact Or.inr h
  have hS : va_S A s.heap s.heap [] := va_S.rf
  have hP : va_P (dC, dI) vwCl [(x, .inr (7, [.ref bx, .ref po, .ref tr, .ref pa, .ref sp])), (bx, .inr (2, [.ref b0, .ref b1, .int 0, .int 0, .ref b4, .int 0, .ref b6, .int 0, .int 0, .int 0, .int 0]))] s.heap := hP
  have hK : va_K (dC, dI) vwCl [] s := hK
  have hl := lv_entry ([.ref x, .int a0]) (n := 2) (Nat.le_of_ble_eq_true rfl)
  rw [lg_entry_eq]
  generalize (lg_sl ([.ref x, .int a0]) ++ List.replicate (2 - (lg_sl ([.ref x, .int a0])).length) Slot.unset).toArray = ls at hl ⊢
  have hl : lv_has ls 2 [(0, .ref x), (1, .int a0)] := hl
  refine lv_iload_n hx hb dX5_candidate_0 rfl (lv_at hl 1 rfl) ?_
  have hPc := hP.sub (ws' := []) [] rfl
  have hDc := hD.sub (ws' := []) [] (by decide) rfl
  have hKc := hK.sub (tys' := []) [] rfl
  have hFc := va_free (wc := []) hD hS hA [] rfl
  refine va_calli (va_runS (As := [.int a0]) (rest := []) ⟨hx, hb, hml, hown, hts⟩ (c0_X5_isParty l dC dI a0 _ hbd) (va_cwS 1 hts gX5_candidate_X5_isParty rfl rfl rfl (by decide +kernel) ⟨Nat.le_of_ble_eq_true rfl, Nat.le_of_ble_eq_true rfl⟩) ⟨pr_blind, fun U hU hW => ⟨rfl, pr_mk hU hW hPc hKc hDc⟩⟩ rfl rfl hl.1 rfl (lv_room (Nat.le_of_ble_eq_true rfl)) dX5_candidate_1 ⟨Nat.le_of_ble_eq_true rfl, Nat.le_of_ble_eq_true rfl⟩) hS (fun q _ h => hFc q h) hFc (fun r_2 u_1 t H1 locs ht hvm hw hB hz1 hk1 hS => ?_)
  obtain ⟨hP1, hK1, hD1⟩ := hB
  rw [ht] at hP1
  obtain ⟨hP, hD⟩ := va_join (wr := [(x, .inr (7, [.ref bx, .ref po, .ref tr, .ref pa, .ref sp])), (bx, .inr (2, [.ref b0, .ref b1, .int 0, .int 0, .ref b4, .int 0, .ref b6, .int 0, .int 0, .int 0, .int 0]))]) (w1 := []) hP hD [] [0, 1] rfl rfl (by decide) (by decide) hk1 hFc hP1 hD1
  generalize H1 = H at hP hS ⊢
  have hP : va_P (dC, dI) vwCl [(x, .inr (7, [.ref bx, .ref po, .ref tr, .ref pa, .ref sp])), (bx, .inr (2, [.ref b0, .ref b1, .int 0, .int 0, .ref b4, .int 0, .ref b6, .int 0, .int 0, .int 0, .int 0]))] H := hP
  have hD : va_D A [(x, .inr (7, [.ref bx, .ref po, .ref tr, .ref pa, .ref sp])), (bx, .inr (2, [.ref b0, .ref b1, .int 0, .int 0, .ref b4, .int 0, .ref b6, .int 0, .int 0, .int 0, .int 0]))] := hD
  refine W.widen (k := 0) (n := 0) (Nat.le_refl _) (Nat.le_refl _) ?_
  have hw : r_2 = 0 := hw
  subst hw
  refine lv_if_ne (tgt := 17) hx hb dX5_candidate_4 (by decide) (fun h9 => absurd h9 (by decide)) (fun _ => ?_)
  exact vx_throwS (A := A) (names := ["java/lang/RuntimeException", "java/lang/Exception"]) hx hb hfl hown (by decide +kernel) (by decide +kernel) (hts (.classLink RX5 48 "java/lang/IllegalArgumentException") (by decide +kernel)) (hts (.initialized "java/lang/IllegalArgumentException") (by decide +kernel)) hXs.2.2.1 (vx_hat (B := [.declares ⟨"java/lang/RuntimeException", "<init>", "(Ljava/lang/String;)V"⟩, .declares ⟨"java/lang/Exception", "<init>", "(Ljava/lang/String;)V"⟩, .declares ⟨"java/lang/Throwable", "<init>", "(Ljava/lang/String;)V"⟩, .castable "java/lang/IllegalArgumentException" "java/lang/IllegalArgumentException"]) (fun w h => hts w (List.mem_cons_of_mem _ (List.mem_append_left _ (List.mem_append_right _ h)))) (xB_52) (vx_c (va_Nw.use rfl hXs.2.2.2.2.1) (vx_c (va_Nw.use rfl hXs.2.2.2.2.2.1) (vx_c (va_Nw.use rfl hXs.2.2.2.2.2.2) (vx_c (va_Nw.use rfl hXs.2.2.2.1) vx_n))))) (xG_52) (hXs.1) (hXs.2.1) hS (by rw [hml]; exact hl.1) dX5_candidate_7 dX5_candidate_10 dX5_candidate_11 dX5_candidate_13 dX5_candidate_16 (fun x hx9 => (htb x hx9).elim) (Nat.lt_of_lt_of_le (by decide : 5 < 6) (Nat.le_of_ble_eq_true rfl)) (Nat.le_of_ble_eq_true rfl) (Nat.le_of_ble_eq_true rfl) (Nat.le_of_ble_eq_true rfl) hlocks (fun t hvm hz9 hk9 => ⟨(), trivial, rfl, Nat.le_trans hS.1 hz9, fun q h1 h2 => (hk9 q (Nat.lt_of_lt_of_le h1 hS.1)).trans (hS.2.1 q h1 h2)⟩) hS.2.2 (Nat.le_of_ble_eq_true rfl) (Nat.le_of_ble_eq_true rfl)

set_option maxHeartbeats 4000000 in
set_option maxRecDepth 100000 in
theorem cx_X5_district (l : Launch) (hfl : l.stackTraces = false) (dC : Nat → ClassId) (dI : Nat → Nat → Nat) (x : Nat) (po : Nat) (tr : Nat) (sp : Nat) (pa : Nat) (bx : Nat) (b0 : Nat) (b1 : Nat) (b4 : Nat) (b6 : Nat) (a0 : Int32) (tx : String) (sa : Nat) (sz : Nat) (hbd : a0 < 1 ∨ ¬ a0 ≤ 5) : vx_Met l yX5_district wsX5_district ({ frames := 6, cells := 1, slots := 6, locals := 95 }) (va_Pc [.ref x, .int a0] (fun U => pr_ dC dI [(x, .inr (7, [.ref bx, .ref po, .ref tr, .ref pa, .ref sp])), (bx, .inr (2, [.ref b0, .ref b1, .int 0, .int 0, .ref b4, .int 0, .ref b6, .int 0, .int 0, .int 0, .int 0]))] [] sz U ∧ xs_ (va_A [(x, .inr (7, [.ref bx, .ref po, .ref tr, .ref pa, .ref sp])), (bx, .inr (2, [.ref b0, .ref b1, .int 0, .int 0, .ref b4, .int 0, .ref b6, .int 0, .int 0, .int 0, .int 0]))] sz) 84 tx sa "java/lang/IllegalArgumentException" U)) (va_Qi (fun (_ : Int32) (_ : Unit) => False) (fun _ _ => True) (va_A [(x, .inr (7, [.ref bx, .ref po, .ref tr, .ref pa, .ref sp])), (bx, .inr (2, [.ref b0, .ref b1, .int 0, .int 0, .ref b4, .int 0, .ref b6, .int 0, .int 0, .int 0, .int 0]))] sz)) (vx_X (fun _ : Unit => True) (fun E _ _ => E = "java/lang/IllegalArgumentException") (va_A [(x, .inr (7, [.ref bx, .ref po, .ref tr, .ref pa, .ref sp])), (bx, .inr (2, [.ref b0, .ref b1, .int 0, .int 0, .ref b4, .int 0, .ref b6, .int 0, .int 0, .int 0, .int 0]))] sz)) 1 6 (va_A [(x, .inr (7, [.ref bx, .ref po, .ref tr, .ref pa, .ref sp])), (bx, .inr (2, [.ref b0, .ref b1, .int 0, .int 0, .ref b4, .int 0, .ref b6, .int 0, .int 0, .int 0, .int 0]))] sz) := by
  refine vx_ofW (cc := cX5_district) (maxL := 2) (ret := (some .int)) (by decide) rfl ?_
  intro p e s m args below meth c s₁ B hml htb hv
  obtain ⟨rfl, ⟨hsz, hP, hK, hD0⟩, hXs⟩ := hv
  have hx := B.exec
  have hb := B.bytes
  have hr := B.returns
  have hts := atoms_spec (ws := wsX5_district) B.pre
  have hown : s.vm.findClass RX5 = some m.cls := findClass_of_methodNamed B.named
  have hlocks := B.notSynchronized
  subst hsz
  have hD := hD0.self (sz := s.heap.size)
  generalize hAe : va_A [(x, .inr (7, [.ref bx, .ref po, .ref tr, .ref pa, .ref sp])), (bx, .inr (2, [.ref b0, .ref b1, .int 0, .int 0, .ref b4, .int 0, .ref b6, .int 0, .int 0, .int 0, .int 0]))] s.heap.size = A at hD hXs ⊢
  have hA : ∀ q : Nat, s.heap.size ≤ q → A q := fun q h => by rw [← hAe]; exact Or.inr h
  have hS : va_S A s.heap s.heap [] := va_S.rf
  have hP : va_P (dC, dI) vwCl [(x, .inr (7, [.ref bx, .ref po, .ref tr, .ref pa, .ref sp])), (bx, .inr (2, [.ref b0, .ref b1, .int 0, .int 0, .ref b4, .int 0, .ref b6, .int 0, .int 0, .int 0, .int 0]))] s.heap := hP
  have hK : va_K (dC, dI) vwCl [] s := hK
  have hl := lv_entry ([.ref x, .int a0]) (n := 2) (Nat.le_of_ble_eq_true rfl)
  rw [lg_entry_eq]
  generalize (lg_sl ([.ref x, .int a0]) ++ List.replicate (2 - (lg_sl ([.ref x, .int a0])).length) Slot.unset).toArray = ls at hl ⊢
  have hl : lv_has ls 2 [(0, .ref x), (1, .int a0)] := hl
  refine lv_iload_n hx hb dX5_district_0 rfl (lv_at hl 1 rfl) ?_
  refine lv_iconst (v := 1) hx hb dX5_district_1 (by decide) ?_
  refine lv_icmp_lt (tgt := 10) hx hb dX5_district_2 (by decide) (fun hc_1 => ?_) (fun hc_1 => ?_)
  · exact vx_throwS (A := A) (names := ["java/lang/RuntimeException", "java/lang/Exception"]) hx hb hfl hown (by decide +kernel) (by decide +kernel) (hts (.classLink RX5 48 "java/lang/IllegalArgumentException") (by decide +kernel)) (hts (.initialized "java/lang/IllegalArgumentException") (by decide +kernel)) hXs.2.2.1 (vx_hat (B := [.declares ⟨"java/lang/RuntimeException", "<init>", "(Ljava/lang/String;)V"⟩, .declares ⟨"java/lang/Exception", "<init>", "(Ljava/lang/String;)V"⟩, .declares ⟨"java/lang/Throwable", "<init>", "(Ljava/lang/String;)V"⟩, .castable "java/lang/IllegalArgumentException" "java/lang/IllegalArgumentException"]) (fun w h => hts w (List.mem_cons_of_mem _ (List.mem_append_left _ (List.mem_append_right _ h)))) (xB_52) (vx_c (va_Nw.use rfl hXs.2.2.2.2.1) (vx_c (va_Nw.use rfl hXs.2.2.2.2.2.1) (vx_c (va_Nw.use rfl hXs.2.2.2.2.2.2) (vx_c (va_Nw.use rfl hXs.2.2.2.1) vx_n))))) (xG_52) (hXs.1) (hXs.2.1) hS (by rw [hml]; exact hl.1) dX5_district_10 dX5_district_13 dX5_district_14 dX5_district_16 dX5_district_19 (fun x hx9 => (htb x hx9).elim) (Nat.lt_of_lt_of_le (by decide : 5 < 6) (Nat.le_of_ble_eq_true rfl)) (Nat.le_of_ble_eq_true rfl) (Nat.le_of_ble_eq_true rfl) (Nat.le_of_ble_eq_true rfl) hlocks (fun t hvm hz9 hk9 => ⟨(), trivial, rfl, Nat.le_trans hS.1 hz9, fun q h1 h2 => (hk9 q (Nat.lt_of_lt_of_le h1 hS.1)).trans (hS.2.1 q h1 h2)⟩) hS.2.2 (Nat.le_of_ble_eq_true rfl) (Nat.le_of_ble_eq_true rfl)
  · refine lv_iload_n hx hb dX5_district_5 rfl (lv_at hl 1 rfl) ?_
    refine lv_iconst (v := 5) hx hb dX5_district_6 (by decide) ?_
    refine lv_icmp_le (tgt := 20) hx hb dX5_district_7 (by decide) (fun h9 => ((hbd.resolve_left (by assumption)) h9).elim) (fun _ => ?_)
    exact vx_throwS (A := A) (names := ["java/lang/RuntimeException", "java/lang/Exception"]) hx hb hfl hown (by decide +kernel) (by decide +kernel) (hts (.classLink RX5 48 "java/lang/IllegalArgumentException") (by decide +kernel)) (hts (.initialized "java/lang/IllegalArgumentException") (by decide +kernel)) hXs.2.2.1 (vx_hat (B := [.declares ⟨"java/lang/RuntimeException", "<init>", "(Ljava/lang/String;)V"⟩, .declares ⟨"java/lang/Exception", "<init>", "(Ljava/lang/String;)V"⟩, .declares ⟨"java/lang/Throwable", "<init>", "(Ljava/lang/String;)V"⟩, .castable "java/lang/IllegalArgumentException" "java/lang/IllegalArgumentException"]) (fun w h => hts w (List.mem_cons_of_mem _ (List.mem_append_left _ (List.mem_append_right _ h)))) (xB_52) (vx_c (va_Nw.use rfl hXs.2.2.2.2.1) (vx_c (va_Nw.use rfl hXs.2.2.2.2.2.1) (vx_c (va_Nw.use rfl hXs.2.2.2.2.2.2) (vx_c (va_Nw.use rfl hXs.2.2.2.1) vx_n))))) (xG_52) (hXs.1) (hXs.2.1) hS (by rw [hml]; exact hl.1) dX5_district_10 dX5_district_13 dX5_district_14 dX5_district_16 dX5_district_19 (fun x hx9 => (htb x hx9).elim) (Nat.lt_of_lt_of_le (by decide : 5 < 6) (Nat.le_of_ble_eq_true rfl)) (Nat.le_of_ble_eq_true rfl) (Nat.le_of_ble_eq_true rfl) (Nat.le_of_ble_eq_true rfl) hlocks (fun t hvm hz9 hk9 => ⟨(), trivial, rfl, Nat.le_trans hS.1 hz9, fun q h1 h2 => (hk9 q (Nat.lt_of_lt_of_le h1 hS.1)).trans (hS.2.1 q h1 h2)⟩) hS.2.2 (Nat.le_of_ble_eq_true rfl) (Nat.le_of_ble_eq_true rfl)

set_option maxHeartbeats 4000000 in
set_option maxRecDepth 100000 in
theorem cx_X5_threshold (l : Launch) (hfl : l.stackTraces = false) (dC : Nat → ClassId) (dI : Nat → Nat → Nat) (x : Nat) (po : Nat) (tr : Nat) (sp : Nat) (pa : Nat) (bx : Nat) (b0 : Nat) (b1 : Nat) (b4 : Nat) (b6 : Nat) (a0 : Int32) (tx : String) (sa : Nat) (sz : Nat) (hbd : a0 < 0 ∨ ¬ a0 ≤ 20) : vx_Met l yX5_threshold wsX5_threshold ({ frames := 6, cells := 1, slots := 6, locals := 95 }) (va_Pc [.ref x, .int a0] (fun U => pr_ dC dI [(x, .inr (7, [.ref bx, .ref po, .ref tr, .ref pa, .ref sp])), (bx, .inr (2, [.ref b0, .ref b1, .int 0, .int 0, .ref b4, .int 0, .ref b6, .int 0, .int 0, .int 0, .int 0]))] [] sz U ∧ xs_ (va_A [(x, .inr (7, [.ref bx, .ref po, .ref tr, .ref pa, .ref sp])), (bx, .inr (2, [.ref b0, .ref b1, .int 0, .int 0, .ref b4, .int 0, .ref b6, .int 0, .int 0, .int 0, .int 0]))] sz) 128 tx sa "java/lang/IllegalArgumentException" U)) (va_Qi (fun (_ : Int32) (_ : Unit) => False) (fun _ _ => True) (va_A [(x, .inr (7, [.ref bx, .ref po, .ref tr, .ref pa, .ref sp])), (bx, .inr (2, [.ref b0, .ref b1, .int 0, .int 0, .ref b4, .int 0, .ref b6, .int 0, .int 0, .int 0, .int 0]))] sz)) (vx_X (fun _ : Unit => True) (fun E _ _ => E = "java/lang/IllegalArgumentException") (va_A [(x, .inr (7, [.ref bx, .ref po, .ref tr, .ref pa, .ref sp])), (bx, .inr (2, [.ref b0, .ref b1, .int 0, .int 0, .ref b4, .int 0, .ref b6, .int 0, .int 0, .int 0, .int 0]))] sz)) 1 6 (va_A [(x, .inr (7, [.ref bx, .ref po, .ref tr, .ref pa, .ref sp])), (bx, .inr (2, [.ref b0, .ref b1, .int 0, .int 0, .ref b4, .int 0, .ref b6, .int 0, .int 0, .int 0, .int 0]))] sz) := by
  refine vx_ofW (cc := cX5_threshold) (maxL := 2) (ret := (some .int)) (by decide) rfl ?_
  intro p e s m args below meth c s₁ B hml htb hv
  obtain ⟨rfl, ⟨hsz, hP, hK, hD0⟩, hXs⟩ := hv
  have hx := B.exec
  have hb := B.bytes
  have hr := B.returns
  have hts := atoms_spec (ws := wsX5_threshold) B.pre
  have hown : s.vm.findClass RX5 = some m.cls := findClass_of_methodNamed B.named
  have hlocks := B.notSynchronized
  subst hsz
  have hD := hD0.self (sz := s.heap.size)
  generalize hAe : va_A [(x, .inr (7, [.ref bx, .ref po, .ref tr, .ref pa, .ref sp])), (bx, .inr (2, [.ref b0, .ref b1, .int 0, .int 0, .ref b4, .int 0, .ref b6, .int 0, .int 0, .int 0, .int 0]))] s.heap.size = A at hD hXs ⊢
  have hA : ∀ q : Nat, s.heap.size ≤ q → A q := fun q h => by rw [← hAe]; exact Or.inr h
  have hS : va_S A s.heap s.heap [] := va_S.rf
  have hP : va_P (dC, dI) vwCl [(x, .inr (7, [.ref bx, .ref po, .ref tr, .ref pa, .ref sp])), (bx, .inr (2, [.ref b0, .ref b1, .int 0, .int 0, .ref b4, .int 0, .ref b6, .int 0, .int 0, .int 0, .int 0]))] s.heap := hP
  have hK : va_K (dC, dI) vwCl [] s := hK
  have hl := lv_entry ([.ref x, .int a0]) (n := 2) (Nat.le_of_ble_eq_true rfl)
  rw [lg_entry_eq]
  generalize (lg_sl ([.ref x, .int a0]) ++ List.replicate (2 - (lg_sl ([.ref x, .int a0])).length) Slot.unset).toArray = ls at hl ⊢
  have hl : lv_has ls 2 [(0, .ref x), (1, .int a0)] := hl
  refine lv_iload_n hx hb dX5_threshold_0 rfl (lv_at hl 1 rfl) ?_
  refine lv_if_lt (tgt := 10) hx hb dX5_threshold_1 (by decide) (fun hc_1 => ?_) (fun hc_1 => ?_)
  · exact vx_throwS (A := A) (names := ["java/lang/RuntimeException", "java/lang/Exception"]) hx hb hfl hown (by decide +kernel) (by decide +kernel) (hts (.classLink RX5 48 "java/lang/IllegalArgumentException") (by decide +kernel)) (hts (.initialized "java/lang/IllegalArgumentException") (by decide +kernel)) hXs.2.2.1 (vx_hat (B := [.declares ⟨"java/lang/RuntimeException", "<init>", "(Ljava/lang/String;)V"⟩, .declares ⟨"java/lang/Exception", "<init>", "(Ljava/lang/String;)V"⟩, .declares ⟨"java/lang/Throwable", "<init>", "(Ljava/lang/String;)V"⟩, .castable "java/lang/IllegalArgumentException" "java/lang/IllegalArgumentException"]) (fun w h => hts w (List.mem_cons_of_mem _ (List.mem_append_right _ h))) (xB_52) (vx_c (va_Nw.use rfl hXs.2.2.2.2.1) (vx_c (va_Nw.use rfl hXs.2.2.2.2.2.1) (vx_c (va_Nw.use rfl hXs.2.2.2.2.2.2) (vx_c (va_Nw.use rfl hXs.2.2.2.1) vx_n))))) (xG_52) (hXs.1) (hXs.2.1) hS (by rw [hml]; exact hl.1) dX5_threshold_10 dX5_threshold_13 dX5_threshold_14 dX5_threshold_16 dX5_threshold_19 (fun x hx9 => (htb x hx9).elim) (Nat.lt_of_lt_of_le (by decide : 5 < 6) (Nat.le_of_ble_eq_true rfl)) (Nat.le_of_ble_eq_true rfl) (Nat.le_of_ble_eq_true rfl) (Nat.le_of_ble_eq_true rfl) hlocks (fun t hvm hz9 hk9 => ⟨(), trivial, rfl, Nat.le_trans hS.1 hz9, fun q h1 h2 => (hk9 q (Nat.lt_of_lt_of_le h1 hS.1)).trans (hS.2.1 q h1 h2)⟩) hS.2.2 (Nat.le_of_ble_eq_true rfl) (Nat.le_of_ble_eq_true rfl)
  · refine lv_iload_n hx hb dX5_threshold_4 rfl (lv_at hl 1 rfl) ?_
    refine lv_bipush (v := 20) hx hb dX5_threshold_5 (by decide) ?_
    refine lv_icmp_le (tgt := 20) hx hb dX5_threshold_7 (by decide) (fun h9 => ((hbd.resolve_left (by assumption)) h9).elim) (fun _ => ?_)
    exact vx_throwS (A := A) (names := ["java/lang/RuntimeException", "java/lang/Exception"]) hx hb hfl hown (by decide +kernel) (by decide +kernel) (hts (.classLink RX5 48 "java/lang/IllegalArgumentException") (by decide +kernel)) (hts (.initialized "java/lang/IllegalArgumentException") (by decide +kernel)) hXs.2.2.1 (vx_hat (B := [.declares ⟨"java/lang/RuntimeException", "<init>", "(Ljava/lang/String;)V"⟩, .declares ⟨"java/lang/Exception", "<init>", "(Ljava/lang/String;)V"⟩, .declares ⟨"java/lang/Throwable", "<init>", "(Ljava/lang/String;)V"⟩, .castable "java/lang/IllegalArgumentException" "java/lang/IllegalArgumentException"]) (fun w h => hts w (List.mem_cons_of_mem _ (List.mem_append_right _ h))) (xB_52) (vx_c (va_Nw.use rfl hXs.2.2.2.2.1) (vx_c (va_Nw.use rfl hXs.2.2.2.2.2.1) (vx_c (va_Nw.use rfl hXs.2.2.2.2.2.2) (vx_c (va_Nw.use rfl hXs.2.2.2.1) vx_n))))) (xG_52) (hXs.1) (hXs.2.1) hS (by rw [hml]; exact hl.1) dX5_threshold_10 dX5_threshold_13 dX5_threshold_14 dX5_threshold_16 dX5_threshold_19 (fun x hx9 => (htb x hx9).elim) (Nat.lt_of_lt_of_le (by decide : 5 < 6) (Nat.le_of_ble_eq_true rfl)) (Nat.le_of_ble_eq_true rfl) (Nat.le_of_ble_eq_true rfl) (Nat.le_of_ble_eq_true rfl) hlocks (fun t hvm hz9 hk9 => ⟨(), trivial, rfl, Nat.le_trans hS.1 hz9, fun q h1 h2 => (hk9 q (Nat.lt_of_lt_of_le h1 hS.1)).trans (hS.2.1 q h1 h2)⟩) hS.2.2 (Nat.le_of_ble_eq_true rfl) (Nat.le_of_ble_eq_true rfl)

set_option maxHeartbeats 4000000 in
set_option maxRecDepth 100000 in
theorem cx0_X5_ofParty (l : Launch) (hfl : l.stackTraces = false) (dC : Nat → ClassId) (dI : Nat → Nat → Nat) (x : Nat) (po : Nat) (tr : Nat) (sp : Nat) (pa : Nat) (bx : Nat) (b0 : Nat) (b1 : Nat) (b4 : Nat) (b6 : Nat) (a0 : Int32) (a1 : Int32) (tx : String) (sa : Nat) (sz : Nat) (hbd : a0 < 0 ∨ 4 ≤ a0) : vx_Met l yX5_ofParty wsX5_ofParty ({ frames := 8, cells := 1, slots := 6, locals := 130 }) (va_Pc [.ref x, .int a0, .int a1] (fun U => pr_ dC dI [(x, .inr (7, [.ref bx, .ref po, .ref tr, .ref pa, .ref sp])), (bx, .inr (2, [.ref b0, .ref b1, .int 0, .int 0, .ref b4, .int 0, .ref b6, .int 0, .int 0, .int 0, .int 0]))] [] sz U ∧ xs_ (va_A [(x, .inr (7, [.ref bx, .ref po, .ref tr, .ref pa, .ref sp])), (bx, .inr (2, [.ref b0, .ref b1, .int 0, .int 0, .ref b4, .int 0, .ref b6, .int 0, .int 0, .int 0, .int 0]))] sz) 50 tx sa "java/lang/IndexOutOfBoundsException" U)) (va_Qi (fun (_ : Int32) (_ : Unit) => False) (fun _ _ => True) (va_A [(x, .inr (7, [.ref bx, .ref po, .ref tr, .ref pa, .ref sp])), (bx, .inr (2, [.ref b0, .ref b1, .int 0, .int 0, .ref b4, .int 0, .ref b6, .int 0, .int 0, .int 0, .int 0]))] sz)) (vx_X (fun _ : Unit => True) (fun E _ _ => E = "java/lang/IndexOutOfBoundsException") (va_A [(x, .inr (7, [.ref bx, .ref po, .ref tr, .ref pa, .ref sp])), (bx, .inr (2, [.ref b0, .ref b1, .int 0, .int 0, .ref b4, .int 0, .ref b6, .int 0, .int 0, .int 0, .int 0]))] sz)) 1 6 (va_A [(x, .inr (7, [.ref bx, .ref po, .ref tr, .ref pa, .ref sp])), (bx, .inr (2, [.ref b0, .ref b1, .int 0, .int 0, .ref b4, .int 0, .ref b6, .int 0, .int 0, .int 0, .int 0]))] sz) := by
  refine vx_ofW (cc := cX5_ofParty) (maxL := 3) (ret := (some .int)) (by decide) rfl ?_
  intro p e s m args below meth c s₁ B hml htb hv
  obtain ⟨rfl, ⟨hsz, hP, hK, hD0⟩, hXs⟩ := hv
  have hx := B.exec
  have hb := B.bytes
  have hr := B.returns
  have hts := atoms_spec (ws := wsX5_ofParty) B.pre
  have hown : s.vm.findClass RX5 = some m.cls := findClass_of_methodNamed B.named
  have hlocks := B.notSynchronized
  subst hsz
  have hD := hD0.self (sz := s.heap.size)
  generalize hAe : va_A [(x, .inr (7, [.ref bx, .ref po, .ref tr, .ref pa, .ref sp])), (bx, .inr (2, [.ref b0, .ref b1, .int 0, .int 0, .ref b4, .int 0, .ref b6, .int 0, .int 0, .int 0, .int 0]))] s.heap.size = A at hD hXs ⊢
  have hA : ∀ q : Nat, s.heap.size ≤ q → A q := fun q h => by rw [← hAe]; exact Or.inr h
  have hS : va_S A s.heap s.heap [] := va_S.rf
  have hP : va_P (dC, dI) vwCl [(x, .inr (7, [.ref bx, .ref po, .ref tr, .ref pa, .ref sp])), (bx, .inr (2, [.ref b0, .ref b1, .int 0, .int 0, .ref b4, .int 0, .ref b6, .int 0, .int 0, .int 0, .int 0]))] s.heap := hP
  have hK : va_K (dC, dI) vwCl [] s := hK
  have hl := lv_entry ([.ref x, .int a0, .int a1]) (n := 3) (Nat.le_of_ble_eq_true rfl)
  rw [lg_entry_eq]
  generalize (lg_sl ([.ref x, .int a0, .int a1]) ++ List.replicate (3 - (lg_sl ([.ref x, .int a0, .int a1])).length) Slot.unset).toArray = ls at hl ⊢
  have hl : lv_has ls 3 [(0, .ref x), (1, .int a0), (2, .int a1)] := hl
  refine lv_iload_n hx hb dX5_ofParty_0 rfl (lv_at hl 1 rfl) ?_
  have hPc := hP.sub (ws' := []) [] rfl
  have hDc := hD.sub (ws' := []) [] (by decide) rfl
  have hKc := hK.sub (tys' := []) [] rfl
  have hFc := va_free (wc := []) hD hS hA [] rfl
  refine vx_callv (vx_runS (As := [.int a0]) (rest := []) ⟨hx, hb, hml, hown, hts⟩ (cx_X5_checkParty l hfl dC dI a0 tx sa _ hbd) (va_cwS 1 hts gX5_ofParty_X5_checkParty rfl rfl rfl (by decide +kernel) ⟨Nat.le_of_ble_eq_true rfl, Nat.le_of_ble_eq_true rfl⟩) ⟨px_blind, fun U hU hW => ⟨rfl, pr_mk hU hW hPc hKc hDc, xs_mk hU hW hS hFc hXs⟩⟩ rfl rfl hl.1 rfl (lv_room (Nat.le_of_ble_eq_true rfl)) dX5_ofParty_1 ⟨Nat.le_of_ble_eq_true rfl, Nat.le_of_ble_eq_true rfl⟩) hS (fun q _ h => hFc q h) hFc (fun q _ h => hFc q h) (fun E ce q9 u t H1 locs1 ht hvm hpx hB hz1 hk1 hS1 hce hcv hcl => ?_) (fun u t H1 locs1 ht hvm hw hB hz1 hk1 hS1 => hw.elim)
  obtain rfl : E = "java/lang/IndexOutOfBoundsException" := hB
  exact vx_out (fun x hx9 => (htb x hx9).elim) hlocks hce hcv hcl (fun t9 ht9 hvm9 => ⟨(), trivial, rfl, hS1.F ht9⟩) hS1.2.2 (Nat.le_of_ble_eq_true rfl) (Nat.le_of_ble_eq_true rfl)

set_option maxHeartbeats 4000000 in
set_option maxRecDepth 100000 in
theorem cx1_X5_ofParty (l : Launch) (hfl : l.stackTraces = false) (dC : Nat → ClassId) (dI : Nat → Nat → Nat) (x : Nat) (po : Nat) (tr : Nat) (sp : Nat) (pa : Nat) (bx : Nat) (b0 : Nat) (b1 : Nat) (b4 : Nat) (b6 : Nat) (a0 : Int32) (a1 : Int32) (tx : String) (sa : Nat) (sz : Nat) (g0a : ¬ a0 < 0) (g0b : ¬ 4 ≤ a0) (hbd : a1 < 0 ∨ ¬ a1 ≤ 4) : vx_Met l yX5_ofParty wsX5_ofParty ({ frames := 8, cells := 1, slots := 6, locals := 130 }) (va_Pc [.ref x, .int a0, .int a1] (fun U => pr_ dC dI [(x, .inr (7, [.ref bx, .ref po, .ref tr, .ref pa, .ref sp])), (bx, .inr (2, [.ref b0, .ref b1, .int 0, .int 0, .ref b4, .int 0, .ref b6, .int 0, .int 0, .int 0, .int 0]))] [] sz U ∧ xs_ (va_A [(x, .inr (7, [.ref bx, .ref po, .ref tr, .ref pa, .ref sp])), (bx, .inr (2, [.ref b0, .ref b1, .int 0, .int 0, .ref b4, .int 0, .ref b6, .int 0, .int 0, .int 0, .int 0]))] sz) 308 tx sa "java/lang/IllegalArgumentException" U)) (va_Qi (fun (_ : Int32) (_ : Unit) => False) (fun _ _ => True) (va_A [(x, .inr (7, [.ref bx, .ref po, .ref tr, .ref pa, .ref sp])), (bx, .inr (2, [.ref b0, .ref b1, .int 0, .int 0, .ref b4, .int 0, .ref b6, .int 0, .int 0, .int 0, .int 0]))] sz)) (vx_X (fun _ : Unit => True) (fun E _ _ => E = "java/lang/IllegalArgumentException") (va_A [(x, .inr (7, [.ref bx, .ref po, .ref tr, .ref pa, .ref sp])), (bx, .inr (2, [.ref b0, .ref b1, .int 0, .int 0, .ref b4, .int 0, .ref b6, .int 0, .int 0, .int 0, .int 0]))] sz)) 1 6 (va_A [(x, .inr (7, [.ref bx, .ref po, .ref tr, .ref pa, .ref sp])), (bx, .inr (2, [.ref b0, .ref b1, .int 0, .int 0, .ref b4, .int 0, .ref b6, .int 0, .int 0, .int 0, .int 0]))] sz) := by
  refine vx_ofW (cc := cX5_ofParty) (maxL := 3) (ret := (some .int)) (by decide) rfl ?_
  intro p e s m args below meth c s₁ B hml htb hv
  obtain ⟨rfl, ⟨hsz, hP, hK, hD0⟩, hXs⟩ := hv
  have hx := B.exec
  have hb := B.bytes
  have hr := B.returns
  have hts := atoms_spec (ws := wsX5_ofParty) B.pre
  have hown : s.vm.findClass RX5 = some m.cls := findClass_of_methodNamed B.named
  have hlocks := B.notSynchronized
  subst hsz
  have hD := hD0.self (sz := s.heap.size)
  generalize hAe : va_A [(x, .inr (7, [.ref bx, .ref po, .ref tr, .ref pa, .ref sp])), (bx, .inr (2, [.ref b0, .ref b1, .int 0, .int 0, .ref b4, .int 0, .ref b6, .int 0, .int 0, .int 0, .int 0]))] s.heap.size = A at hD hXs ⊢
  have hA : ∀ q : Nat, s.heap.size ≤ q → A q := fun q h => by rw [← hAe]; exact Or.inr h
  have hS : va_S A s.heap s.heap [] := va_S.rf
  have hP : va_P (dC, dI) vwCl [(x, .inr (7, [.ref bx, .ref po, .ref tr, .ref pa, .ref sp])), (bx, .inr (2, [.ref b0, .ref b1, .int 0, .int 0, .ref b4, .int 0, .ref b6, .int 0, .int 0, .int 0, .int 0]))] s.heap := hP
  have hK : va_K (dC, dI) vwCl [] s := hK
  have hl := lv_entry ([.ref x, .int a0, .int a1]) (n := 3) (Nat.le_of_ble_eq_true rfl)
  rw [lg_entry_eq]
  generalize (lg_sl ([.ref x, .int a0, .int a1]) ++ List.replicate (3 - (lg_sl ([.ref x, .int a0, .int a1])).length) Slot.unset).toArray = ls at hl ⊢
  have hl : lv_has ls 3 [(0, .ref x), (1, .int a0), (2, .int a1)] := hl
  refine lv_iload_n hx hb dX5_ofParty_0 rfl (lv_at hl 1 rfl) ?_
  have hPc := hP.sub (ws' := []) [] rfl
  have hDc := hD.sub (ws' := []) [] (by decide) rfl
  have hKc := hK.sub (tys' := []) [] rfl
  have hFc := va_free (wc := []) hD hS hA [] rfl
  refine va_callv (va_runS (As := [.int a0]) (rest := []) ⟨hx, hb, hml, hown, hts⟩ (c_X5_checkParty l dC dI a0 _ g0a g0b) (va_cwS 1 hts gX5_ofParty_X5_checkParty rfl rfl rfl (by decide +kernel) ⟨Nat.le_of_ble_eq_true rfl, Nat.le_of_ble_eq_true rfl⟩) ⟨pr_blind, fun U hU hW => ⟨rfl, pr_mk hU hW hPc hKc hDc⟩⟩ rfl rfl hl.1 rfl (lv_room (Nat.le_of_ble_eq_true rfl)) dX5_ofParty_1 ⟨Nat.le_of_ble_eq_true rfl, Nat.le_of_ble_eq_true rfl⟩) hS (fun q _ h => hFc q h) hFc (fun u_1 t H1 locs ht hvm hw hB hz1 hk1 hS => ?_)
  obtain ⟨hP1, hK1, hD1⟩ := hB
  rw [ht] at hP1
  obtain ⟨hP, hD⟩ := va_join (wr := [(x, .inr (7, [.ref bx, .ref po, .ref tr, .ref pa, .ref sp])), (bx, .inr (2, [.ref b0, .ref b1, .int 0, .int 0, .ref b4, .int 0, .ref b6, .int 0, .int 0, .int 0, .int 0]))]) (w1 := []) hP hD [] [0, 1] rfl rfl (by decide) (by decide) hk1 hFc hP1 hD1
  generalize H1 = H at hP hS ⊢
  have hP : va_P (dC, dI) vwCl [(x, .inr (7, [.ref bx, .ref po, .ref tr, .ref pa, .ref sp])), (bx, .inr (2, [.ref b0, .ref b1, .int 0, .int 0, .ref b4, .int 0, .ref b6, .int 0, .int 0, .int 0, .int 0]))] H := hP
  have hD : va_D A [(x, .inr (7, [.ref bx, .ref po, .ref tr, .ref pa, .ref sp])), (bx, .inr (2, [.ref b0, .ref b1, .int 0, .int 0, .ref b4, .int 0, .ref b6, .int 0, .int 0, .int 0, .int 0]))] := hD
  refine W.widen (k := 0) (n := 0) (Nat.le_refl _) (Nat.le_refl _) ?_
  refine lv_iload_n hx hb dX5_ofParty_4 rfl (lv_at hl 2 rfl) ?_
  refine lv_iconst (v := 4) hx hb dX5_ofParty_5 (by decide) ?_
  have hPc := hP.sub (ws' := []) [] rfl
  have hDc := hD.sub (ws' := []) [] (by decide) rfl
  have hKc := hK.sub (tys' := []) [] rfl
  have hFc := va_free (wc := []) hD hS hA [] rfl
  refine vx_callv (vx_runS (As := [.int a1, .int 4]) (rest := []) ⟨hx, hb, hml, hown, hts⟩ (cx_X5_checkWhat l hfl dC dI a1 (4 : Int32) tx sa _ hbd) (va_cwS 2 hts gX5_ofParty_X5_checkWhat rfl rfl rfl (by decide +kernel) ⟨Nat.le_of_ble_eq_true rfl, Nat.le_of_ble_eq_true rfl⟩) ⟨px_blind, fun U hU hW => ⟨rfl, pr_mk hU hW hPc hKc hDc, xs_mk hU hW hS hFc hXs⟩⟩ rfl rfl hl.1 rfl (lv_room (Nat.le_of_ble_eq_true rfl)) dX5_ofParty_6 ⟨Nat.le_of_ble_eq_true rfl, Nat.le_of_ble_eq_true rfl⟩) hS (fun q _ h => hFc q h) hFc (fun q _ h => hFc q h) (fun E ce q9 u t H1 locs1 ht hvm hpx hB hz1 hk1 hS1 hce hcv hcl => ?_) (fun u t H1 locs1 ht hvm hw hB hz1 hk1 hS1 => hw.elim)
  obtain rfl : E = "java/lang/IllegalArgumentException" := hB
  exact vx_out (fun x hx9 => (htb x hx9).elim) hlocks hce hcv hcl (fun t9 ht9 hvm9 => ⟨(), trivial, rfl, hS1.F ht9⟩) hS1.2.2 (Nat.le_of_ble_eq_true rfl) (Nat.le_of_ble_eq_true rfl)

set_option maxHeartbeats 4000000 in
set_option maxRecDepth 100000 in
theorem cx0_X5_share (l : Launch) (hfl : l.stackTraces = false) (dC : Nat → ClassId) (dI : Nat → Nat → Nat) (x : Nat) (po : Nat) (tr : Nat) (sp : Nat) (pa : Nat) (bx : Nat) (b0 : Nat) (b1 : Nat) (b4 : Nat) (b6 : Nat) (a0 : Int32) (a1 : Int32) (a2 : Int32) (tx : String) (sa : Nat) (sz : Nat) (hbd : a0 < 0 ∨ 4 ≤ a0) : vx_Met l yX5_share wsX5_share ({ frames := 8, cells := 1, slots := 6, locals := 130 }) (va_Pc [.ref x, .int a0, .int a1, .int a2] (fun U => pr_ dC dI [(x, .inr (7, [.ref bx, .ref po, .ref tr, .ref pa, .ref sp])), (bx, .inr (2, [.ref b0, .ref b1, .int 0, .int 0, .ref b4, .int 0, .ref b6, .int 0, .int 0, .int 0, .int 0]))] [] sz U ∧ xs_ (va_A [(x, .inr (7, [.ref bx, .ref po, .ref tr, .ref pa, .ref sp])), (bx, .inr (2, [.ref b0, .ref b1, .int 0, .int 0, .ref b4, .int 0, .ref b6, .int 0, .int 0, .int 0, .int 0]))] sz) 50 tx sa "java/lang/IndexOutOfBoundsException" U)) (va_Qi (fun (_ : Int32) (_ : Unit) => False) (fun _ _ => True) (va_A [(x, .inr (7, [.ref bx, .ref po, .ref tr, .ref pa, .ref sp])), (bx, .inr (2, [.ref b0, .ref b1, .int 0, .int 0, .ref b4, .int 0, .ref b6, .int 0, .int 0, .int 0, .int 0]))] sz)) (vx_X (fun _ : Unit => True) (fun E _ _ => E = "java/lang/IndexOutOfBoundsException") (va_A [(x, .inr (7, [.ref bx, .ref po, .ref tr, .ref pa, .ref sp])), (bx, .inr (2, [.ref b0, .ref b1, .int 0, .int 0, .ref b4, .int 0, .ref b6, .int 0, .int 0, .int 0, .int 0]))] sz)) 1 6 (va_A [(x, .inr (7, [.ref bx, .ref po, .ref tr, .ref pa, .ref sp])), (bx, .inr (2, [.ref b0, .ref b1, .int 0, .int 0, .ref b4, .int 0, .ref b6, .int 0, .int 0, .int 0, .int 0]))] sz) := by
  refine vx_ofW (cc := cX5_share) (maxL := 4) (ret := (some .int)) (by decide) rfl ?_
  intro p e s m args below meth c s₁ B hml htb hv
  obtain ⟨rfl, ⟨hsz, hP, hK, hD0⟩, hXs⟩ := hv
  have hx := B.exec
  have hb := B.bytes
  have hr := B.returns
  have hts := atoms_spec (ws := wsX5_share) B.pre
  have hown : s.vm.findClass RX5 = some m.cls := findClass_of_methodNamed B.named
  have hlocks := B.notSynchronized
  subst hsz
  have hD := hD0.self (sz := s.heap.size)
  generalize hAe : va_A [(x, .inr (7, [.ref bx, .ref po, .ref tr, .ref pa, .ref sp])), (bx, .inr (2, [.ref b0, .ref b1, .int 0, .int 0, .ref b4, .int 0, .ref b6, .int 0, .int 0, .int 0, .int 0]))] s.heap.size = A at hD hXs ⊢
  have hA : ∀ q : Nat, s.heap.size ≤ q → A q := fun q h => by rw [← hAe]; exact Or.inr h
  have hS : va_S A s.heap s.heap [] := va_S.rf
  have hP : va_P (dC, dI) vwCl [(x, .inr (7, [.ref bx, .ref po, .ref tr, .ref pa, .ref sp])), (bx, .inr (2, [.ref b0, .ref b1, .int 0, .int 0, .ref b4, .int 0, .ref b6, .int 0, .int 0, .int 0, .int 0]))] s.heap := hP
  have hK : va_K (dC, dI) vwCl [] s := hK
  have hl := lv_entry ([.ref x, .int a0, .int a1, .int a2]) (n := 4) (Nat.le_of_ble_eq_true rfl)
  rw [lg_entry_eq]
  generalize (lg_sl ([.ref x, .int a0, .int a1, .int a2]) ++ List.replicate (4 - (lg_sl ([.ref x, .int a0, .int a1, .int a2])).length) Slot.unset).toArray = ls at hl ⊢
  have hl : lv_has ls 4 [(0, .ref x), (1, .int a0), (2, .int a1), (3, .int a2)] := hl
  refine lv_iload_n hx hb dX5_share_0 rfl (lv_at hl 1 rfl) ?_
  have hPc := hP.sub (ws' := []) [] rfl
  have hDc := hD.sub (ws' := []) [] (by decide) rfl
  have hKc := hK.sub (tys' := []) [] rfl
  have hFc := va_free (wc := []) hD hS hA [] rfl
  refine vx_callv (vx_runS (As := [.int a0]) (rest := []) ⟨hx, hb, hml, hown, hts⟩ (cx_X5_checkParty l hfl dC dI a0 tx sa _ hbd) (va_cwS 1 hts gX5_share_X5_checkParty rfl rfl rfl (by decide +kernel) ⟨Nat.le_of_ble_eq_true rfl, Nat.le_of_ble_eq_true rfl⟩) ⟨px_blind, fun U hU hW => ⟨rfl, pr_mk hU hW hPc hKc hDc, xs_mk hU hW hS hFc hXs⟩⟩ rfl rfl hl.1 rfl (lv_room (Nat.le_of_ble_eq_true rfl)) dX5_share_1 ⟨Nat.le_of_ble_eq_true rfl, Nat.le_of_ble_eq_true rfl⟩) hS (fun q _ h => hFc q h) hFc (fun q _ h => hFc q h) (fun E ce q9 u t H1 locs1 ht hvm hpx hB hz1 hk1 hS1 hce hcv hcl => ?_) (fun u t H1 locs1 ht hvm hw hB hz1 hk1 hS1 => hw.elim)
  obtain rfl : E = "java/lang/IndexOutOfBoundsException" := hB
  exact vx_out (fun x hx9 => (htb x hx9).elim) hlocks hce hcv hcl (fun t9 ht9 hvm9 => ⟨(), trivial, rfl, hS1.F ht9⟩) hS1.2.2 (Nat.le_of_ble_eq_true rfl) (Nat.le_of_ble_eq_true rfl)

set_option maxHeartbeats 4000000 in
set_option maxRecDepth 100000 in
theorem cx1_X5_share (l : Launch) (hfl : l.stackTraces = false) (dC : Nat → ClassId) (dI : Nat → Nat → Nat) (x : Nat) (po : Nat) (tr : Nat) (sp : Nat) (pa : Nat) (bx : Nat) (b0 : Nat) (b1 : Nat) (b4 : Nat) (b6 : Nat) (a0 : Int32) (a1 : Int32) (a2 : Int32) (tx : String) (sa : Nat) (sz : Nat) (g0a : ¬ a0 < 0) (g0b : ¬ 4 ≤ a0) (hbd : a1 < 1 ∨ ¬ a1 ≤ 60) : vx_Met l yX5_share wsX5_share ({ frames := 8, cells := 1, slots := 6, locals := 130 }) (va_Pc [.ref x, .int a0, .int a1, .int a2] (fun U => pr_ dC dI [(x, .inr (7, [.ref bx, .ref po, .ref tr, .ref pa, .ref sp])), (bx, .inr (2, [.ref b0, .ref b1, .int 0, .int 0, .ref b4, .int 0, .ref b6, .int 0, .int 0, .int 0, .int 0]))] [] sz U ∧ xs_ (va_A [(x, .inr (7, [.ref bx, .ref po, .ref tr, .ref pa, .ref sp])), (bx, .inr (2, [.ref b0, .ref b1, .int 0, .int 0, .ref b4, .int 0, .ref b6, .int 0, .int 0, .int 0, .int 0]))] sz) 312 tx sa "java/lang/IllegalArgumentException" U)) (va_Qi (fun (_ : Int32) (_ : Unit) => False) (fun _ _ => True) (va_A [(x, .inr (7, [.ref bx, .ref po, .ref tr, .ref pa, .ref sp])), (bx, .inr (2, [.ref b0, .ref b1, .int 0, .int 0, .ref b4, .int 0, .ref b6, .int 0, .int 0, .int 0, .int 0]))] sz)) (vx_X (fun _ : Unit => True) (fun E _ _ => E = "java/lang/IllegalArgumentException") (va_A [(x, .inr (7, [.ref bx, .ref po, .ref tr, .ref pa, .ref sp])), (bx, .inr (2, [.ref b0, .ref b1, .int 0, .int 0, .ref b4, .int 0, .ref b6, .int 0, .int 0, .int 0, .int 0]))] sz)) 1 6 (va_A [(x, .inr (7, [.ref bx, .ref po, .ref tr, .ref pa, .ref sp])), (bx, .inr (2, [.ref b0, .ref b1, .int 0, .int 0, .ref b4, .int 0, .ref b6, .int 0, .int 0, .int 0, .int 0]))] sz) := by
  refine vx_ofW (cc := cX5_share) (maxL := 4) (ret := (some .int)) (by decide) rfl ?_
  intro p e s m args below meth c s₁ B hml htb hv
  obtain ⟨rfl, ⟨hsz, hP, hK, hD0⟩, hXs⟩ := hv
  have hx := B.exec
  have hb := B.bytes
  have hr := B.returns
  have hts := atoms_spec (ws := wsX5_share) B.pre
  have hown : s.vm.findClass RX5 = some m.cls := findClass_of_methodNamed B.named
  have hlocks := B.notSynchronized
  subst hsz
  have hD := hD0.self (sz := s.heap.size)
  generalize hAe : va_A [(x, .inr (7, [.ref bx, .ref po, .ref tr, .ref pa, .ref sp])), (bx, .inr (2, [.ref b0, .ref b1, .int 0, .int 0, .ref b4, .int 0, .ref b6, .int 0, .int 0, .int 0, .int 0]))] s.heap.size = A at hD hXs ⊢
  have hA : ∀ q : Nat, s.heap.size ≤ q → A q := fun q h => by rw [← hAe]; exact Or.inr h
  have hS : va_S A s.heap s.heap [] := va_S.rf
  have hP : va_P (dC, dI) vwCl [(x, .inr (7, [.ref bx, .ref po, .ref tr, .ref pa, .ref sp])), (bx, .inr (2, [.ref b0, .ref b1, .int 0, .int 0, .ref b4, .int 0, .ref b6, .int 0, .int 0, .int 0, .int 0]))] s.heap := hP
  have hK : va_K (dC, dI) vwCl [] s := hK
  have hl := lv_entry ([.ref x, .int a0, .int a1, .int a2]) (n := 4) (Nat.le_of_ble_eq_true rfl)
  rw [lg_entry_eq]
  generalize (lg_sl ([.ref x, .int a0, .int a1, .int a2]) ++ List.replicate (4 - (lg_sl ([.ref x, .int a0, .int a1, .int a2])).length) Slot.unset).toArray = ls at hl ⊢
  have hl : lv_has ls 4 [(0, .ref x), (1, .int a0), (2, .int a1), (3, .int a2)] := hl
  refine lv_iload_n hx hb dX5_share_0 rfl (lv_at hl 1 rfl) ?_
  have hPc := hP.sub (ws' := []) [] rfl
  have hDc := hD.sub (ws' := []) [] (by decide) rfl
  have hKc := hK.sub (tys' := []) [] rfl
  have hFc := va_free (wc := []) hD hS hA [] rfl
  refine va_callv (va_runS (As := [.int a0]) (rest := []) ⟨hx, hb, hml, hown, hts⟩ (c_X5_checkParty l dC dI a0 _ g0a g0b) (va_cwS 1 hts gX5_share_X5_checkParty rfl rfl rfl (by decide +kernel) ⟨Nat.le_of_ble_eq_true rfl, Nat.le_of_ble_eq_true rfl⟩) ⟨pr_blind, fun U hU hW => ⟨rfl, pr_mk hU hW hPc hKc hDc⟩⟩ rfl rfl hl.1 rfl (lv_room (Nat.le_of_ble_eq_true rfl)) dX5_share_1 ⟨Nat.le_of_ble_eq_true rfl, Nat.le_of_ble_eq_true rfl⟩) hS (fun q _ h => hFc q h) hFc (fun u_1 t H1 locs ht hvm hw hB hz1 hk1 hS => ?_)
  obtain ⟨hP1, hK1, hD1⟩ := hB
  rw [ht] at hP1
  obtain ⟨hP, hD⟩ := va_join (wr := [(x, .inr (7, [.ref bx, .ref po, .ref tr, .ref pa, .ref sp])), (bx, .inr (2, [.ref b0, .ref b1, .int 0, .int 0, .ref b4, .int 0, .ref b6, .int 0, .int 0, .int 0, .int 0]))]) (w1 := []) hP hD [] [0, 1] rfl rfl (by decide) (by decide) hk1 hFc hP1 hD1
  generalize H1 = H at hP hS ⊢
  have hP : va_P (dC, dI) vwCl [(x, .inr (7, [.ref bx, .ref po, .ref tr, .ref pa, .ref sp])), (bx, .inr (2, [.ref b0, .ref b1, .int 0, .int 0, .ref b4, .int 0, .ref b6, .int 0, .int 0, .int 0, .int 0]))] H := hP
  have hD : va_D A [(x, .inr (7, [.ref bx, .ref po, .ref tr, .ref pa, .ref sp])), (bx, .inr (2, [.ref b0, .ref b1, .int 0, .int 0, .ref b4, .int 0, .ref b6, .int 0, .int 0, .int 0, .int 0]))] := hD
  refine W.widen (k := 0) (n := 0) (Nat.le_refl _) (Nat.le_refl _) ?_
  refine lv_iload_n hx hb dX5_share_4 rfl (lv_at hl 2 rfl) ?_
  have hPc := hP.sub (ws' := []) [] rfl
  have hDc := hD.sub (ws' := []) [] (by decide) rfl
  have hKc := hK.sub (tys' := []) [] rfl
  have hFc := va_free (wc := []) hD hS hA [] rfl
  refine vx_callv (vx_runS (As := [.int a1]) (rest := []) ⟨hx, hb, hml, hown, hts⟩ (cx_X5_checkHouse l hfl dC dI a1 tx sa _ hbd) (va_cwS 1 hts gX5_share_X5_checkHouse rfl rfl rfl (by decide +kernel) ⟨Nat.le_of_ble_eq_true rfl, Nat.le_of_ble_eq_true rfl⟩) ⟨px_blind, fun U hU hW => ⟨rfl, pr_mk hU hW hPc hKc hDc, xs_mk hU hW hS hFc hXs⟩⟩ rfl rfl hl.1 rfl (lv_room (Nat.le_of_ble_eq_true rfl)) dX5_share_5 ⟨Nat.le_of_ble_eq_true rfl, Nat.le_of_ble_eq_true rfl⟩) hS (fun q _ h => hFc q h) hFc (fun q _ h => hFc q h) (fun E ce q9 u t H1 locs1 ht hvm hpx hB hz1 hk1 hS1 hce hcv hcl => ?_) (fun u t H1 locs1 ht hvm hw hB hz1 hk1 hS1 => hw.elim)
  obtain rfl : E = "java/lang/IllegalArgumentException" := hB
  exact vx_out (fun x hx9 => (htb x hx9).elim) hlocks hce hcv hcl (fun t9 ht9 hvm9 => ⟨(), trivial, rfl, hS1.F ht9⟩) hS1.2.2 (Nat.le_of_ble_eq_true rfl) (Nat.le_of_ble_eq_true rfl)

set_option maxHeartbeats 4000000 in
set_option maxRecDepth 100000 in
theorem cx2_X5_share (l : Launch) (hfl : l.stackTraces = false) (dC : Nat → ClassId) (dI : Nat → Nat → Nat) (x : Nat) (po : Nat) (tr : Nat) (sp : Nat) (pa : Nat) (bx : Nat) (b0 : Nat) (b1 : Nat) (b4 : Nat) (b6 : Nat) (a0 : Int32) (a1 : Int32) (a2 : Int32) (tx : String) (sa : Nat) (sz : Nat) (g0a : ¬ a0 < 0) (g0b : ¬ 4 ≤ a0) (g1a : ¬ a1 < 1) (g1b : a1 ≤ 60) (hbd : a2 < 0 ∨ ¬ a2 ≤ 2) : vx_Met l yX5_share wsX5_share ({ frames := 8, cells := 1, slots := 6, locals := 130 }) (va_Pc [.ref x, .int a0, .int a1, .int a2] (fun U => pr_ dC dI [(x, .inr (7, [.ref bx, .ref po, .ref tr, .ref pa, .ref sp])), (bx, .inr (2, [.ref b0, .ref b1, .int 0, .int 0, .ref b4, .int 0, .ref b6, .int 0, .int 0, .int 0, .int 0]))] [] sz U ∧ xs_ (va_A [(x, .inr (7, [.ref bx, .ref po, .ref tr, .ref pa, .ref sp])), (bx, .inr (2, [.ref b0, .ref b1, .int 0, .int 0, .ref b4, .int 0, .ref b6, .int 0, .int 0, .int 0, .int 0]))] sz) 314 tx sa "java/lang/IllegalArgumentException" U)) (va_Qi (fun (_ : Int32) (_ : Unit) => False) (fun _ _ => True) (va_A [(x, .inr (7, [.ref bx, .ref po, .ref tr, .ref pa, .ref sp])), (bx, .inr (2, [.ref b0, .ref b1, .int 0, .int 0, .ref b4, .int 0, .ref b6, .int 0, .int 0, .int 0, .int 0]))] sz)) (vx_X (fun _ : Unit => True) (fun E _ _ => E = "java/lang/IllegalArgumentException") (va_A [(x, .inr (7, [.ref bx, .ref po, .ref tr, .ref pa, .ref sp])), (bx, .inr (2, [.ref b0, .ref b1, .int 0, .int 0, .ref b4, .int 0, .ref b6, .int 0, .int 0, .int 0, .int 0]))] sz)) 1 6 (va_A [(x, .inr (7, [.ref bx, .ref po, .ref tr, .ref pa, .ref sp])), (bx, .inr (2, [.ref b0, .ref b1, .int 0, .int 0, .ref b4, .int 0, .ref b6, .int 0, .int 0, .int 0, .int 0]))] sz) := by
  refine vx_ofW (cc := cX5_share) (maxL := 4) (ret := (some .int)) (by decide) rfl ?_
  intro p e s m args below meth c s₁ B hml htb hv
  obtain ⟨rfl, ⟨hsz, hP, hK, hD0⟩, hXs⟩ := hv
  have hx := B.exec
  have hb := B.bytes
  have hr := B.returns
  have hts := atoms_spec (ws := wsX5_share) B.pre
  have hown : s.vm.findClass RX5 = some m.cls := findClass_of_methodNamed B.named
  have hlocks := B.notSynchronized
  subst hsz
  have hD := hD0.self (sz := s.heap.size)
  generalize hAe : va_A [(x, .inr (7, [.ref bx, .ref po, .ref tr, .ref pa, .ref sp])), (bx, .inr (2, [.ref b0, .ref b1, .int 0, .int 0, .ref b4, .int 0, .ref b6, .int 0, .int 0, .int 0, .int 0]))] s.heap.size = A at hD hXs ⊢
  have hA : ∀ q : Nat, s.heap.size ≤ q → A q := fun q h => by rw [← hAe]; exact Or.inr h
  have hS : va_S A s.heap s.heap [] := va_S.rf
  have hP : va_P (dC, dI) vwCl [(x, .inr (7, [.ref bx, .ref po, .ref tr, .ref pa, .ref sp])), (bx, .inr (2, [.ref b0, .ref b1, .int 0, .int 0, .ref b4, .int 0, .ref b6, .int 0, .int 0, .int 0, .int 0]))] s.heap := hP
  have hK : va_K (dC, dI) vwCl [] s := hK
  have hl := lv_entry ([.ref x, .int a0, .int a1, .int a2]) (n := 4) (Nat.le_of_ble_eq_true rfl)
  rw [lg_entry_eq]
  generalize (lg_sl ([.ref x, .int a0, .int a1, .int a2]) ++ List.replicate (4 - (lg_sl ([.ref x, .int a0, .int a1, .int a2])).length) Slot.unset).toArray = ls at hl ⊢
  have hl : lv_has ls 4 [(0, .ref x), (1, .int a0), (2, .int a1), (3, .int a2)] := hl
  refine lv_iload_n hx hb dX5_share_0 rfl (lv_at hl 1 rfl) ?_
  have hPc := hP.sub (ws' := []) [] rfl
  have hDc := hD.sub (ws' := []) [] (by decide) rfl
  have hKc := hK.sub (tys' := []) [] rfl
  have hFc := va_free (wc := []) hD hS hA [] rfl
  refine va_callv (va_runS (As := [.int a0]) (rest := []) ⟨hx, hb, hml, hown, hts⟩ (c_X5_checkParty l dC dI a0 _ g0a g0b) (va_cwS 1 hts gX5_share_X5_checkParty rfl rfl rfl (by decide +kernel) ⟨Nat.le_of_ble_eq_true rfl, Nat.le_of_ble_eq_true rfl⟩) ⟨pr_blind, fun U hU hW => ⟨rfl, pr_mk hU hW hPc hKc hDc⟩⟩ rfl rfl hl.1 rfl (lv_room (Nat.le_of_ble_eq_true rfl)) dX5_share_1 ⟨Nat.le_of_ble_eq_true rfl, Nat.le_of_ble_eq_true rfl⟩) hS (fun q _ h => hFc q h) hFc (fun u_1 t H1 locs ht hvm hw hB hz1 hk1 hS => ?_)
  obtain ⟨hP1, hK1, hD1⟩ := hB
  rw [ht] at hP1
  obtain ⟨hP, hD⟩ := va_join (wr := [(x, .inr (7, [.ref bx, .ref po, .ref tr, .ref pa, .ref sp])), (bx, .inr (2, [.ref b0, .ref b1, .int 0, .int 0, .ref b4, .int 0, .ref b6, .int 0, .int 0, .int 0, .int 0]))]) (w1 := []) hP hD [] [0, 1] rfl rfl (by decide) (by decide) hk1 hFc hP1 hD1
  generalize H1 = H at hP hS ⊢
  have hP : va_P (dC, dI) vwCl [(x, .inr (7, [.ref bx, .ref po, .ref tr, .ref pa, .ref sp])), (bx, .inr (2, [.ref b0, .ref b1, .int 0, .int 0, .ref b4, .int 0, .ref b6, .int 0, .int 0, .int 0, .int 0]))] H := hP
  have hD : va_D A [(x, .inr (7, [.ref bx, .ref po, .ref tr, .ref pa, .ref sp])), (bx, .inr (2, [.ref b0, .ref b1, .int 0, .int 0, .ref b4, .int 0, .ref b6, .int 0, .int 0, .int 0, .int 0]))] := hD
  refine W.widen (k := 0) (n := 0) (Nat.le_refl _) (Nat.le_refl _) ?_
  refine lv_iload_n hx hb dX5_share_4 rfl (lv_at hl 2 rfl) ?_
  have hPc := hP.sub (ws' := []) [] rfl
  have hDc := hD.sub (ws' := []) [] (by decide) rfl
  have hKc := hK.sub (tys' := []) [] rfl
  have hFc := va_free (wc := []) hD hS hA [] rfl
  refine va_callv (va_runS (As := [.int a1]) (rest := []) ⟨hx, hb, hml, hown, hts⟩ (c_X5_checkHouse l dC dI a1 _ g1a g1b) (va_cwS 1 hts gX5_share_X5_checkHouse rfl rfl rfl (by decide +kernel) ⟨Nat.le_of_ble_eq_true rfl, Nat.le_of_ble_eq_true rfl⟩) ⟨pr_blind, fun U hU hW => ⟨rfl, pr_mk hU hW hPc hKc hDc⟩⟩ rfl rfl hl.1 rfl (lv_room (Nat.le_of_ble_eq_true rfl)) dX5_share_5 ⟨Nat.le_of_ble_eq_true rfl, Nat.le_of_ble_eq_true rfl⟩) hS (fun q _ h => hFc q h) hFc (fun u_3 t H1 locs ht hvm hw hB hz1 hk1 hS => ?_)
  obtain ⟨hP1, hK1, hD1⟩ := hB
  rw [ht] at hP1
  obtain ⟨hP, hD⟩ := va_join (wr := [(x, .inr (7, [.ref bx, .ref po, .ref tr, .ref pa, .ref sp])), (bx, .inr (2, [.ref b0, .ref b1, .int 0, .int 0, .ref b4, .int 0, .ref b6, .int 0, .int 0, .int 0, .int 0]))]) (w1 := []) hP hD [] [0, 1] rfl rfl (by decide) (by decide) hk1 hFc hP1 hD1
  generalize H1 = H at hP hS ⊢
  have hP : va_P (dC, dI) vwCl [(x, .inr (7, [.ref bx, .ref po, .ref tr, .ref pa, .ref sp])), (bx, .inr (2, [.ref b0, .ref b1, .int 0, .int 0, .ref b4, .int 0, .ref b6, .int 0, .int 0, .int 0, .int 0]))] H := hP
  have hD : va_D A [(x, .inr (7, [.ref bx, .ref po, .ref tr, .ref pa, .ref sp])), (bx, .inr (2, [.ref b0, .ref b1, .int 0, .int 0, .ref b4, .int 0, .ref b6, .int 0, .int 0, .int 0, .int 0]))] := hD
  refine W.widen (k := 0) (n := 0) (Nat.le_refl _) (Nat.le_refl _) ?_
  refine lv_iload_n hx hb dX5_share_8 rfl (lv_at hl 3 rfl) ?_
  have hPc := hP.sub (ws' := []) [] rfl
  have hDc := hD.sub (ws' := []) [] (by decide) rfl
  have hKc := hK.sub (tys' := []) [] rfl
  have hFc := va_free (wc := []) hD hS hA [] rfl
  refine vx_callv (vx_runS (As := [.int a2]) (rest := []) ⟨hx, hb, hml, hown, hts⟩ (cx_X5_checkRule l hfl dC dI a2 tx sa _ hbd) (va_cwS 1 hts gX5_share_X5_checkRule rfl rfl rfl (by decide +kernel) ⟨Nat.le_of_ble_eq_true rfl, Nat.le_of_ble_eq_true rfl⟩) ⟨px_blind, fun U hU hW => ⟨rfl, pr_mk hU hW hPc hKc hDc, xs_mk hU hW hS hFc hXs⟩⟩ rfl rfl hl.1 rfl (lv_room (Nat.le_of_ble_eq_true rfl)) dX5_share_9 ⟨Nat.le_of_ble_eq_true rfl, Nat.le_of_ble_eq_true rfl⟩) hS (fun q _ h => hFc q h) hFc (fun q _ h => hFc q h) (fun E ce q9 u t H1 locs1 ht hvm hpx hB hz1 hk1 hS1 hce hcv hcl => ?_) (fun u t H1 locs1 ht hvm hw hB hz1 hk1 hS1 => hw.elim)
  obtain rfl : E = "java/lang/IllegalArgumentException" := hB
  exact vx_out (fun x hx9 => (htb x hx9).elim) hlocks hce hcv hcl (fun t9 ht9 hvm9 => ⟨(), trivial, rfl, hS1.F ht9⟩) hS1.2.2 (Nat.le_of_ble_eq_true rfl) (Nat.le_of_ble_eq_true rfl)

set_option maxHeartbeats 4000000 in
set_option maxRecDepth 100000 in
theorem cx0_X5_overhang (l : Launch) (hfl : l.stackTraces = false) (dC : Nat → ClassId) (dI : Nat → Nat → Nat) (x : Nat) (po : Nat) (tr : Nat) (sp : Nat) (pa : Nat) (bx : Nat) (b0 : Nat) (b1 : Nat) (b4 : Nat) (b6 : Nat) (a0 : Int32) (a1 : Int32) (tx : String) (sa : Nat) (sz : Nat) (hbd : a0 < 1 ∨ ¬ a0 ≤ 60) : vx_Met l yX5_overhang wsX5_overhang ({ frames := 8, cells := 1, slots := 6, locals := 130 }) (va_Pc [.ref x, .int a0, .int a1] (fun U => pr_ dC dI [(x, .inr (7, [.ref bx, .ref po, .ref tr, .ref pa, .ref sp])), (bx, .inr (2, [.ref b0, .ref b1, .int 0, .int 0, .ref b4, .int 0, .ref b6, .int 0, .int 0, .int 0, .int 0]))] [] sz U ∧ xs_ (va_A [(x, .inr (7, [.ref bx, .ref po, .ref tr, .ref pa, .ref sp])), (bx, .inr (2, [.ref b0, .ref b1, .int 0, .int 0, .ref b4, .int 0, .ref b6, .int 0, .int 0, .int 0, .int 0]))] sz) 312 tx sa "java/lang/IllegalArgumentException" U)) (va_Qi (fun (_ : Int32) (_ : Unit) => False) (fun _ _ => True) (va_A [(x, .inr (7, [.ref bx, .ref po, .ref tr, .ref pa, .ref sp])), (bx, .inr (2, [.ref b0, .ref b1, .int 0, .int 0, .ref b4, .int 0, .ref b6, .int 0, .int 0, .int 0, .int 0]))] sz)) (vx_X (fun _ : Unit => True) (fun E _ _ => E = "java/lang/IllegalArgumentException") (va_A [(x, .inr (7, [.ref bx, .ref po, .ref tr, .ref pa, .ref sp])), (bx, .inr (2, [.ref b0, .ref b1, .int 0, .int 0, .ref b4, .int 0, .ref b6, .int 0, .int 0, .int 0, .int 0]))] sz)) 1 6 (va_A [(x, .inr (7, [.ref bx, .ref po, .ref tr, .ref pa, .ref sp])), (bx, .inr (2, [.ref b0, .ref b1, .int 0, .int 0, .ref b4, .int 0, .ref b6, .int 0, .int 0, .int 0, .int 0]))] sz) := by
  refine vx_ofW (cc := cX5_overhang) (maxL := 3) (ret := (some .int)) (by decide) rfl ?_
  intro p e s m args below meth c s₁ B hml htb hv
  obtain ⟨rfl, ⟨hsz, hP, hK, hD0⟩, hXs⟩ := hv
  have hx := B.exec
  have hb := B.bytes
  have hr := B.returns
  have hts := atoms_spec (ws := wsX5_overhang) B.pre
  have hown : s.vm.findClass RX5 = some m.cls := findClass_of_methodNamed B.named
  have hlocks := B.notSynchronized
  subst hsz
  have hD := hD0.self (sz := s.heap.size)
  generalize hAe : va_A [(x, .inr (7, [.ref bx, .ref po, .ref tr, .ref pa, .ref sp])), (bx, .inr (2, [.ref b0, .ref b1, .int 0, .int 0, .ref b4, .int 0, .ref b6, .int 0, .int 0, .int 0, .int 0]))] s.heap.size = A at hD hXs ⊢
  have hA : ∀ q : Nat, s.heap.size ≤ q → A q := fun q h => by rw [← hAe]; exact Or.inr h
  have hS : va_S A s.heap s.heap [] := va_S.rf
  have hP : va_P (dC, dI) vwCl [(x, .inr (7, [.ref bx, .ref po, .ref tr, .ref pa, .ref sp])), (bx, .inr (2, [.ref b0, .ref b1, .int 0, .int 0, .ref b4, .int 0, .ref b6, .int 0, .int 0, .int 0, .int 0]))] s.heap := hP
  have hK : va_K (dC, dI) vwCl [] s := hK
  have hl := lv_entry ([.ref x, .int a0, .int a1]) (n := 3) (Nat.le_of_ble_eq_true rfl)
  rw [lg_entry_eq]
  generalize (lg_sl ([.ref x, .int a0, .int a1]) ++ List.replicate (3 - (lg_sl ([.ref x, .int a0, .int a1])).length) Slot.unset).toArray = ls at hl ⊢
  have hl : lv_has ls 3 [(0, .ref x), (1, .int a0), (2, .int a1)] := hl
  refine lv_iload_n hx hb dX5_overhang_0 rfl (lv_at hl 1 rfl) ?_
  have hPc := hP.sub (ws' := []) [] rfl
  have hDc := hD.sub (ws' := []) [] (by decide) rfl
  have hKc := hK.sub (tys' := []) [] rfl
  have hFc := va_free (wc := []) hD hS hA [] rfl
  refine vx_callv (vx_runS (As := [.int a0]) (rest := []) ⟨hx, hb, hml, hown, hts⟩ (cx_X5_checkHouse l hfl dC dI a0 tx sa _ hbd) (va_cwS 1 hts gX5_overhang_X5_checkHouse rfl rfl rfl (by decide +kernel) ⟨Nat.le_of_ble_eq_true rfl, Nat.le_of_ble_eq_true rfl⟩) ⟨px_blind, fun U hU hW => ⟨rfl, pr_mk hU hW hPc hKc hDc, xs_mk hU hW hS hFc hXs⟩⟩ rfl rfl hl.1 rfl (lv_room (Nat.le_of_ble_eq_true rfl)) dX5_overhang_1 ⟨Nat.le_of_ble_eq_true rfl, Nat.le_of_ble_eq_true rfl⟩) hS (fun q _ h => hFc q h) hFc (fun q _ h => hFc q h) (fun E ce q9 u t H1 locs1 ht hvm hpx hB hz1 hk1 hS1 hce hcv hcl => ?_) (fun u t H1 locs1 ht hvm hw hB hz1 hk1 hS1 => hw.elim)
  obtain rfl : E = "java/lang/IllegalArgumentException" := hB
  exact vx_out (fun x hx9 => (htb x hx9).elim) hlocks hce hcv hcl (fun t9 ht9 hvm9 => ⟨(), trivial, rfl, hS1.F ht9⟩) hS1.2.2 (Nat.le_of_ble_eq_true rfl) (Nat.le_of_ble_eq_true rfl)

set_option maxHeartbeats 4000000 in
set_option maxRecDepth 100000 in
theorem cx1_X5_overhang (l : Launch) (hfl : l.stackTraces = false) (dC : Nat → ClassId) (dI : Nat → Nat → Nat) (x : Nat) (po : Nat) (tr : Nat) (sp : Nat) (pa : Nat) (bx : Nat) (b0 : Nat) (b1 : Nat) (b4 : Nat) (b6 : Nat) (a0 : Int32) (a1 : Int32) (tx : String) (sa : Nat) (sz : Nat) (g0a : ¬ a0 < 1) (g0b : a0 ≤ 60) (hbd : a1 < 0 ∨ ¬ a1 ≤ 2) : vx_Met l yX5_overhang wsX5_overhang ({ frames := 8, cells := 1, slots := 6, locals := 130 }) (va_Pc [.ref x, .int a0, .int a1] (fun U => pr_ dC dI [(x, .inr (7, [.ref bx, .ref po, .ref tr, .ref pa, .ref sp])), (bx, .inr (2, [.ref b0, .ref b1, .int 0, .int 0, .ref b4, .int 0, .ref b6, .int 0, .int 0, .int 0, .int 0]))] [] sz U ∧ xs_ (va_A [(x, .inr (7, [.ref bx, .ref po, .ref tr, .ref pa, .ref sp])), (bx, .inr (2, [.ref b0, .ref b1, .int 0, .int 0, .ref b4, .int 0, .ref b6, .int 0, .int 0, .int 0, .int 0]))] sz) 314 tx sa "java/lang/IllegalArgumentException" U)) (va_Qi (fun (_ : Int32) (_ : Unit) => False) (fun _ _ => True) (va_A [(x, .inr (7, [.ref bx, .ref po, .ref tr, .ref pa, .ref sp])), (bx, .inr (2, [.ref b0, .ref b1, .int 0, .int 0, .ref b4, .int 0, .ref b6, .int 0, .int 0, .int 0, .int 0]))] sz)) (vx_X (fun _ : Unit => True) (fun E _ _ => E = "java/lang/IllegalArgumentException") (va_A [(x, .inr (7, [.ref bx, .ref po, .ref tr, .ref pa, .ref sp])), (bx, .inr (2, [.ref b0, .ref b1, .int 0, .int 0, .ref b4, .int 0, .ref b6, .int 0, .int 0, .int 0, .int 0]))] sz)) 1 6 (va_A [(x, .inr (7, [.ref bx, .ref po, .ref tr, .ref pa, .ref sp])), (bx, .inr (2, [.ref b0, .ref b1, .int 0, .int 0, .ref b4, .int 0, .ref b6, .int 0, .int 0, .int 0, .int 0]))] sz) := by
  refine vx_ofW (cc := cX5_overhang) (maxL := 3) (ret := (some .int)) (by decide) rfl ?_
  intro p e s m args below meth c s₁ B hml htb hv
  obtain ⟨rfl, ⟨hsz, hP, hK, hD0⟩, hXs⟩ := hv
  have hx := B.exec
  have hb := B.bytes
  have hr := B.returns
  have hts := atoms_spec (ws := wsX5_overhang) B.pre
  have hown : s.vm.findClass RX5 = some m.cls := findClass_of_methodNamed B.named
  have hlocks := B.notSynchronized
  subst hsz
  have hD := hD0.self (sz := s.heap.size)
  generalize hAe : va_A [(x, .inr (7, [.ref bx, .ref po, .ref tr, .ref pa, .ref sp])), (bx, .inr (2, [.ref b0, .ref b1, .int 0, .int 0, .ref b4, .int 0, .ref b6, .int 0, .int 0, .int 0, .int 0]))] s.heap.size = A at hD hXs ⊢
  have hA : ∀ q : Nat, s.heap.size ≤ q → A q := fun q h => by rw [← hAe]; exact Or.inr h
  have hS : va_S A s.heap s.heap [] := va_S.rf
  have hP : va_P (dC, dI) vwCl [(x, .inr (7, [.ref bx, .ref po, .ref tr, .ref pa, .ref sp])), (bx, .inr (2, [.ref b0, .ref b1, .int 0, .int 0, .ref b4, .int 0, .ref b6, .int 0, .int 0, .int 0, .int 0]))] s.heap := hP
  have hK : va_K (dC, dI) vwCl [] s := hK
  have hl := lv_entry ([.ref x, .int a0, .int a1]) (n := 3) (Nat.le_of_ble_eq_true rfl)
  rw [lg_entry_eq]
  generalize (lg_sl ([.ref x, .int a0, .int a1]) ++ List.replicate (3 - (lg_sl ([.ref x, .int a0, .int a1])).length) Slot.unset).toArray = ls at hl ⊢
  have hl : lv_has ls 3 [(0, .ref x), (1, .int a0), (2, .int a1)] := hl
  refine lv_iload_n hx hb dX5_overhang_0 rfl (lv_at hl 1 rfl) ?_
  have hPc := hP.sub (ws' := []) [] rfl
  have hDc := hD.sub (ws' := []) [] (by decide) rfl
  have hKc := hK.sub (tys' := []) [] rfl
  have hFc := va_free (wc := []) hD hS hA [] rfl
  refine va_callv (va_runS (As := [.int a0]) (rest := []) ⟨hx, hb, hml, hown, hts⟩ (c_X5_checkHouse l dC dI a0 _ g0a g0b) (va_cwS 1 hts gX5_overhang_X5_checkHouse rfl rfl rfl (by decide +kernel) ⟨Nat.le_of_ble_eq_true rfl, Nat.le_of_ble_eq_true rfl⟩) ⟨pr_blind, fun U hU hW => ⟨rfl, pr_mk hU hW hPc hKc hDc⟩⟩ rfl rfl hl.1 rfl (lv_room (Nat.le_of_ble_eq_true rfl)) dX5_overhang_1 ⟨Nat.le_of_ble_eq_true rfl, Nat.le_of_ble_eq_true rfl⟩) hS (fun q _ h => hFc q h) hFc (fun u_1 t H1 locs ht hvm hw hB hz1 hk1 hS => ?_)
  obtain ⟨hP1, hK1, hD1⟩ := hB
  rw [ht] at hP1
  obtain ⟨hP, hD⟩ := va_join (wr := [(x, .inr (7, [.ref bx, .ref po, .ref tr, .ref pa, .ref sp])), (bx, .inr (2, [.ref b0, .ref b1, .int 0, .int 0, .ref b4, .int 0, .ref b6, .int 0, .int 0, .int 0, .int 0]))]) (w1 := []) hP hD [] [0, 1] rfl rfl (by decide) (by decide) hk1 hFc hP1 hD1
  generalize H1 = H at hP hS ⊢
  have hP : va_P (dC, dI) vwCl [(x, .inr (7, [.ref bx, .ref po, .ref tr, .ref pa, .ref sp])), (bx, .inr (2, [.ref b0, .ref b1, .int 0, .int 0, .ref b4, .int 0, .ref b6, .int 0, .int 0, .int 0, .int 0]))] H := hP
  have hD : va_D A [(x, .inr (7, [.ref bx, .ref po, .ref tr, .ref pa, .ref sp])), (bx, .inr (2, [.ref b0, .ref b1, .int 0, .int 0, .ref b4, .int 0, .ref b6, .int 0, .int 0, .int 0, .int 0]))] := hD
  refine W.widen (k := 0) (n := 0) (Nat.le_refl _) (Nat.le_refl _) ?_
  refine lv_iload_n hx hb dX5_overhang_4 rfl (lv_at hl 2 rfl) ?_
  have hPc := hP.sub (ws' := []) [] rfl
  have hDc := hD.sub (ws' := []) [] (by decide) rfl
  have hKc := hK.sub (tys' := []) [] rfl
  have hFc := va_free (wc := []) hD hS hA [] rfl
  refine vx_callv (vx_runS (As := [.int a1]) (rest := []) ⟨hx, hb, hml, hown, hts⟩ (cx_X5_checkRule l hfl dC dI a1 tx sa _ hbd) (va_cwS 1 hts gX5_overhang_X5_checkRule rfl rfl rfl (by decide +kernel) ⟨Nat.le_of_ble_eq_true rfl, Nat.le_of_ble_eq_true rfl⟩) ⟨px_blind, fun U hU hW => ⟨rfl, pr_mk hU hW hPc hKc hDc, xs_mk hU hW hS hFc hXs⟩⟩ rfl rfl hl.1 rfl (lv_room (Nat.le_of_ble_eq_true rfl)) dX5_overhang_5 ⟨Nat.le_of_ble_eq_true rfl, Nat.le_of_ble_eq_true rfl⟩) hS (fun q _ h => hFc q h) hFc (fun q _ h => hFc q h) (fun E ce q9 u t H1 locs1 ht hvm hpx hB hz1 hk1 hS1 hce hcv hcl => ?_) (fun u t H1 locs1 ht hvm hw hB hz1 hk1 hS1 => hw.elim)
  obtain rfl : E = "java/lang/IllegalArgumentException" := hB
  exact vx_out (fun x hx9 => (htb x hx9).elim) hlocks hce hcv hcl (fun t9 ht9 hvm9 => ⟨(), trivial, rfl, hS1.F ht9⟩) hS1.2.2 (Nat.le_of_ble_eq_true rfl) (Nat.le_of_ble_eq_true rfl)

set_option maxHeartbeats 4000000 in
set_option maxRecDepth 100000 in
theorem cx0_X5_swings (l : Launch) (hfl : l.stackTraces = false) (dC : Nat → ClassId) (dI : Nat → Nat → Nat) (x : Nat) (po : Nat) (tr : Nat) (sp : Nat) (pa : Nat) (bx : Nat) (b0 : Nat) (b1 : Nat) (b4 : Nat) (b6 : Nat) (a0 : Int32) (a1 : Int32) (a2 : Int32) (tx : String) (sa : Nat) (sz : Nat) (hbd : a0 < 0 ∨ 4 ≤ a0) : vx_Met l yX5_swings wsX5_swings ({ frames := 8, cells := 1, slots := 6, locals := 130 }) (va_Pc [.ref x, .int a0, .int a1, .int a2] (fun U => pr_ dC dI [(x, .inr (7, [.ref bx, .ref po, .ref tr, .ref pa, .ref sp])), (bx, .inr (2, [.ref b0, .ref b1, .int 0, .int 0, .ref b4, .int 0, .ref b6, .int 0, .int 0, .int 0, .int 0]))] [] sz U ∧ xs_ (va_A [(x, .inr (7, [.ref bx, .ref po, .ref tr, .ref pa, .ref sp])), (bx, .inr (2, [.ref b0, .ref b1, .int 0, .int 0, .ref b4, .int 0, .ref b6, .int 0, .int 0, .int 0, .int 0]))] sz) 50 tx sa "java/lang/IndexOutOfBoundsException" U)) (va_Qi (fun (_ : Int32) (_ : Unit) => False) (fun _ _ => True) (va_A [(x, .inr (7, [.ref bx, .ref po, .ref tr, .ref pa, .ref sp])), (bx, .inr (2, [.ref b0, .ref b1, .int 0, .int 0, .ref b4, .int 0, .ref b6, .int 0, .int 0, .int 0, .int 0]))] sz)) (vx_X (fun _ : Unit => True) (fun E _ _ => E = "java/lang/IndexOutOfBoundsException") (va_A [(x, .inr (7, [.ref bx, .ref po, .ref tr, .ref pa, .ref sp])), (bx, .inr (2, [.ref b0, .ref b1, .int 0, .int 0, .ref b4, .int 0, .ref b6, .int 0, .int 0, .int 0, .int 0]))] sz)) 1 6 (va_A [(x, .inr (7, [.ref bx, .ref po, .ref tr, .ref pa, .ref sp])), (bx, .inr (2, [.ref b0, .ref b1, .int 0, .int 0, .ref b4, .int 0, .ref b6, .int 0, .int 0, .int 0, .int 0]))] sz) := by
  refine vx_ofW (cc := cX5_swings) (maxL := 4) (ret := (some .int)) (by decide) rfl ?_
  intro p e s m args below meth c s₁ B hml htb hv
  obtain ⟨rfl, ⟨hsz, hP, hK, hD0⟩, hXs⟩ := hv
  have hx := B.exec
  have hb := B.bytes
  have hr := B.returns
  have hts := atoms_spec (ws := wsX5_swings) B.pre
  have hown : s.vm.findClass RX5 = some m.cls := findClass_of_methodNamed B.named
  have hlocks := B.notSynchronized
  subst hsz
  have hD := hD0.self (sz := s.heap.size)
  generalize hAe : va_A [(x, .inr (7, [.ref bx, .ref po, .ref tr, .ref pa, .ref sp])), (bx, .inr (2, [.ref b0, .ref b1, .int 0, .int 0, .ref b4, .int 0, .ref b6, .int 0, .int 0, .int 0, .int 0]))] s.heap.size = A at hD hXs ⊢
  have hA : ∀ q : Nat, s.heap.size ≤ q → A q := fun q h => by rw [← hAe]; exact Or.inr h
  have hS : va_S A s.heap s.heap [] := va_S.rf
  have hP : va_P (dC, dI) vwCl [(x, .inr (7, [.ref bx, .ref po, .ref tr, .ref pa, .ref sp])), (bx, .inr (2, [.ref b0, .ref b1, .int 0, .int 0, .ref b4, .int 0, .ref b6, .int 0, .int 0, .int 0, .int 0]))] s.heap := hP
  have hK : va_K (dC, dI) vwCl [] s := hK
  have hl := lv_entry ([.ref x, .int a0, .int a1, .int a2]) (n := 4) (Nat.le_of_ble_eq_true rfl)
  rw [lg_entry_eq]
  generalize (lg_sl ([.ref x, .int a0, .int a1, .int a2]) ++ List.replicate (4 - (lg_sl ([.ref x, .int a0, .int a1, .int a2])).length) Slot.unset).toArray = ls at hl ⊢
  have hl : lv_has ls 4 [(0, .ref x), (1, .int a0), (2, .int a1), (3, .int a2)] := hl
  refine lv_iload_n hx hb dX5_swings_0 rfl (lv_at hl 1 rfl) ?_
  have hPc := hP.sub (ws' := []) [] rfl
  have hDc := hD.sub (ws' := []) [] (by decide) rfl
  have hKc := hK.sub (tys' := []) [] rfl
  have hFc := va_free (wc := []) hD hS hA [] rfl
  refine vx_callv (vx_runS (As := [.int a0]) (rest := []) ⟨hx, hb, hml, hown, hts⟩ (cx_X5_checkParty l hfl dC dI a0 tx sa _ hbd) (va_cwS 1 hts gX5_swings_X5_checkParty rfl rfl rfl (by decide +kernel) ⟨Nat.le_of_ble_eq_true rfl, Nat.le_of_ble_eq_true rfl⟩) ⟨px_blind, fun U hU hW => ⟨rfl, pr_mk hU hW hPc hKc hDc, xs_mk hU hW hS hFc hXs⟩⟩ rfl rfl hl.1 rfl (lv_room (Nat.le_of_ble_eq_true rfl)) dX5_swings_1 ⟨Nat.le_of_ble_eq_true rfl, Nat.le_of_ble_eq_true rfl⟩) hS (fun q _ h => hFc q h) hFc (fun q _ h => hFc q h) (fun E ce q9 u t H1 locs1 ht hvm hpx hB hz1 hk1 hS1 hce hcv hcl => ?_) (fun u t H1 locs1 ht hvm hw hB hz1 hk1 hS1 => hw.elim)
  obtain rfl : E = "java/lang/IndexOutOfBoundsException" := hB
  exact vx_out (fun x hx9 => (htb x hx9).elim) hlocks hce hcv hcl (fun t9 ht9 hvm9 => ⟨(), trivial, rfl, hS1.F ht9⟩) hS1.2.2 (Nat.le_of_ble_eq_true rfl) (Nat.le_of_ble_eq_true rfl)

set_option maxHeartbeats 4000000 in
set_option maxRecDepth 100000 in
theorem cx1_X5_swings (l : Launch) (hfl : l.stackTraces = false) (dC : Nat → ClassId) (dI : Nat → Nat → Nat) (x : Nat) (po : Nat) (tr : Nat) (sp : Nat) (pa : Nat) (bx : Nat) (b0 : Nat) (b1 : Nat) (b4 : Nat) (b6 : Nat) (a0 : Int32) (a1 : Int32) (a2 : Int32) (tx : String) (sa : Nat) (sz : Nat) (g0a : ¬ a0 < 0) (g0b : ¬ 4 ≤ a0) (hbd : a1 < 1 ∨ ¬ a1 ≤ 60) : vx_Met l yX5_swings wsX5_swings ({ frames := 8, cells := 1, slots := 6, locals := 130 }) (va_Pc [.ref x, .int a0, .int a1, .int a2] (fun U => pr_ dC dI [(x, .inr (7, [.ref bx, .ref po, .ref tr, .ref pa, .ref sp])), (bx, .inr (2, [.ref b0, .ref b1, .int 0, .int 0, .ref b4, .int 0, .ref b6, .int 0, .int 0, .int 0, .int 0]))] [] sz U ∧ xs_ (va_A [(x, .inr (7, [.ref bx, .ref po, .ref tr, .ref pa, .ref sp])), (bx, .inr (2, [.ref b0, .ref b1, .int 0, .int 0, .ref b4, .int 0, .ref b6, .int 0, .int 0, .int 0, .int 0]))] sz) 312 tx sa "java/lang/IllegalArgumentException" U)) (va_Qi (fun (_ : Int32) (_ : Unit) => False) (fun _ _ => True) (va_A [(x, .inr (7, [.ref bx, .ref po, .ref tr, .ref pa, .ref sp])), (bx, .inr (2, [.ref b0, .ref b1, .int 0, .int 0, .ref b4, .int 0, .ref b6, .int 0, .int 0, .int 0, .int 0]))] sz)) (vx_X (fun _ : Unit => True) (fun E _ _ => E = "java/lang/IllegalArgumentException") (va_A [(x, .inr (7, [.ref bx, .ref po, .ref tr, .ref pa, .ref sp])), (bx, .inr (2, [.ref b0, .ref b1, .int 0, .int 0, .ref b4, .int 0, .ref b6, .int 0, .int 0, .int 0, .int 0]))] sz)) 1 6 (va_A [(x, .inr (7, [.ref bx, .ref po, .ref tr, .ref pa, .ref sp])), (bx, .inr (2, [.ref b0, .ref b1, .int 0, .int 0, .ref b4, .int 0, .ref b6, .int 0, .int 0, .int 0, .int 0]))] sz) := by
  refine vx_ofW (cc := cX5_swings) (maxL := 4) (ret := (some .int)) (by decide) rfl ?_
  intro p e s m args below meth c s₁ B hml htb hv
  obtain ⟨rfl, ⟨hsz, hP, hK, hD0⟩, hXs⟩ := hv
  have hx := B.exec
  have hb := B.bytes
  have hr := B.returns
  have hts := atoms_spec (ws := wsX5_swings) B.pre
  have hown : s.vm.findClass RX5 = some m.cls := findClass_of_methodNamed B.named
  have hlocks := B.notSynchronized
  subst hsz
  have hD := hD0.self (sz := s.heap.size)
  generalize hAe : va_A [(x, .inr (7, [.ref bx, .ref po, .ref tr, .ref pa, .ref sp])), (bx, .inr (2, [.ref b0, .ref b1, .int 0, .int 0, .ref b4, .int 0, .ref b6, .int 0, .int 0, .int 0, .int 0]))] s.heap.size = A at hD hXs ⊢
  have hA : ∀ q : Nat, s.heap.size ≤ q → A q := fun q h => by rw [← hAe]; exact Or.inr h
  have hS : va_S A s.heap s.heap [] := va_S.rf
  have hP : va_P (dC, dI) vwCl [(x, .inr (7, [.ref bx, .ref po, .ref tr, .ref pa, .ref sp])), (bx, .inr (2, [.ref b0, .ref b1, .int 0, .int 0, .ref b4, .int 0, .ref b6, .int 0, .int 0, .int 0, .int 0]))] s.heap := hP
  have hK : va_K (dC, dI) vwCl [] s := hK
  have hl := lv_entry ([.ref x, .int a0, .int a1, .int a2]) (n := 4) (Nat.le_of_ble_eq_true rfl)
  rw [lg_entry_eq]
  generalize (lg_sl ([.ref x, .int a0, .int a1, .int a2]) ++ List.replicate (4 - (lg_sl ([.ref x, .int a0, .int a1, .int a2])).length) Slot.unset).toArray = ls at hl ⊢
  have hl : lv_has ls 4 [(0, .ref x), (1, .int a0), (2, .int a1), (3, .int a2)] := hl
  refine lv_iload_n hx hb dX5_swings_0 rfl (lv_at hl 1 rfl) ?_
  have hPc := hP.sub (ws' := []) [] rfl
  have hDc := hD.sub (ws' := []) [] (by decide) rfl
  have hKc := hK.sub (tys' := []) [] rfl
  have hFc := va_free (wc := []) hD hS hA [] rfl
  refine va_callv (va_runS (As := [.int a0]) (rest := []) ⟨hx, hb, hml, hown, hts⟩ (c_X5_checkParty l dC dI a0 _ g0a g0b) (va_cwS 1 hts gX5_swings_X5_checkParty rfl rfl rfl (by decide +kernel) ⟨Nat.le_of_ble_eq_true rfl, Nat.le_of_ble_eq_true rfl⟩) ⟨pr_blind, fun U hU hW => ⟨rfl, pr_mk hU hW hPc hKc hDc⟩⟩ rfl rfl hl.1 rfl (lv_room (Nat.le_of_ble_eq_true rfl)) dX5_swings_1 ⟨Nat.le_of_ble_eq_true rfl, Nat.le_of_ble_eq_true rfl⟩) hS (fun q _ h => hFc q h) hFc (fun u_1 t H1 locs ht hvm hw hB hz1 hk1 hS => ?_)
  obtain ⟨hP1, hK1, hD1⟩ := hB
  rw [ht] at hP1
  obtain ⟨hP, hD⟩ := va_join (wr := [(x, .inr (7, [.ref bx, .ref po, .ref tr, .ref pa, .ref sp])), (bx, .inr (2, [.ref b0, .ref b1, .int 0, .int 0, .ref b4, .int 0, .ref b6, .int 0, .int 0, .int 0, .int 0]))]) (w1 := []) hP hD [] [0, 1] rfl rfl (by decide) (by decide) hk1 hFc hP1 hD1
  generalize H1 = H at hP hS ⊢
  have hP : va_P (dC, dI) vwCl [(x, .inr (7, [.ref bx, .ref po, .ref tr, .ref pa, .ref sp])), (bx, .inr (2, [.ref b0, .ref b1, .int 0, .int 0, .ref b4, .int 0, .ref b6, .int 0, .int 0, .int 0, .int 0]))] H := hP
  have hD : va_D A [(x, .inr (7, [.ref bx, .ref po, .ref tr, .ref pa, .ref sp])), (bx, .inr (2, [.ref b0, .ref b1, .int 0, .int 0, .ref b4, .int 0, .ref b6, .int 0, .int 0, .int 0, .int 0]))] := hD
  refine W.widen (k := 0) (n := 0) (Nat.le_refl _) (Nat.le_refl _) ?_
  refine lv_iload_n hx hb dX5_swings_4 rfl (lv_at hl 2 rfl) ?_
  have hPc := hP.sub (ws' := []) [] rfl
  have hDc := hD.sub (ws' := []) [] (by decide) rfl
  have hKc := hK.sub (tys' := []) [] rfl
  have hFc := va_free (wc := []) hD hS hA [] rfl
  refine vx_callv (vx_runS (As := [.int a1]) (rest := []) ⟨hx, hb, hml, hown, hts⟩ (cx_X5_checkHouse l hfl dC dI a1 tx sa _ hbd) (va_cwS 1 hts gX5_swings_X5_checkHouse rfl rfl rfl (by decide +kernel) ⟨Nat.le_of_ble_eq_true rfl, Nat.le_of_ble_eq_true rfl⟩) ⟨px_blind, fun U hU hW => ⟨rfl, pr_mk hU hW hPc hKc hDc, xs_mk hU hW hS hFc hXs⟩⟩ rfl rfl hl.1 rfl (lv_room (Nat.le_of_ble_eq_true rfl)) dX5_swings_5 ⟨Nat.le_of_ble_eq_true rfl, Nat.le_of_ble_eq_true rfl⟩) hS (fun q _ h => hFc q h) hFc (fun q _ h => hFc q h) (fun E ce q9 u t H1 locs1 ht hvm hpx hB hz1 hk1 hS1 hce hcv hcl => ?_) (fun u t H1 locs1 ht hvm hw hB hz1 hk1 hS1 => hw.elim)
  obtain rfl : E = "java/lang/IllegalArgumentException" := hB
  exact vx_out (fun x hx9 => (htb x hx9).elim) hlocks hce hcv hcl (fun t9 ht9 hvm9 => ⟨(), trivial, rfl, hS1.F ht9⟩) hS1.2.2 (Nat.le_of_ble_eq_true rfl) (Nat.le_of_ble_eq_true rfl)

set_option maxHeartbeats 4000000 in
set_option maxRecDepth 100000 in
theorem cx2_X5_swings (l : Launch) (hfl : l.stackTraces = false) (dC : Nat → ClassId) (dI : Nat → Nat → Nat) (x : Nat) (po : Nat) (tr : Nat) (sp : Nat) (pa : Nat) (bx : Nat) (b0 : Nat) (b1 : Nat) (b4 : Nat) (b6 : Nat) (a0 : Int32) (a1 : Int32) (a2 : Int32) (tx : String) (sa : Nat) (sz : Nat) (g0a : ¬ a0 < 0) (g0b : ¬ 4 ≤ a0) (g1a : ¬ a1 < 1) (g1b : a1 ≤ 60) (hbd : a2 < 0 ∨ ¬ a2 ≤ 2) : vx_Met l yX5_swings wsX5_swings ({ frames := 8, cells := 1, slots := 6, locals := 130 }) (va_Pc [.ref x, .int a0, .int a1, .int a2] (fun U => pr_ dC dI [(x, .inr (7, [.ref bx, .ref po, .ref tr, .ref pa, .ref sp])), (bx, .inr (2, [.ref b0, .ref b1, .int 0, .int 0, .ref b4, .int 0, .ref b6, .int 0, .int 0, .int 0, .int 0]))] [] sz U ∧ xs_ (va_A [(x, .inr (7, [.ref bx, .ref po, .ref tr, .ref pa, .ref sp])), (bx, .inr (2, [.ref b0, .ref b1, .int 0, .int 0, .ref b4, .int 0, .ref b6, .int 0, .int 0, .int 0, .int 0]))] sz) 314 tx sa "java/lang/IllegalArgumentException" U)) (va_Qi (fun (_ : Int32) (_ : Unit) => False) (fun _ _ => True) (va_A [(x, .inr (7, [.ref bx, .ref po, .ref tr, .ref pa, .ref sp])), (bx, .inr (2, [.ref b0, .ref b1, .int 0, .int 0, .ref b4, .int 0, .ref b6, .int 0, .int 0, .int 0, .int 0]))] sz)) (vx_X (fun _ : Unit => True) (fun E _ _ => E = "java/lang/IllegalArgumentException") (va_A [(x, .inr (7, [.ref bx, .ref po, .ref tr, .ref pa, .ref sp])), (bx, .inr (2, [.ref b0, .ref b1, .int 0, .int 0, .ref b4, .int 0, .ref b6, .int 0, .int 0, .int 0, .int 0]))] sz)) 1 6 (va_A [(x, .inr (7, [.ref bx, .ref po, .ref tr, .ref pa, .ref sp])), (bx, .inr (2, [.ref b0, .ref b1, .int 0, .int 0, .ref b4, .int 0, .ref b6, .int 0, .int 0, .int 0, .int 0]))] sz) := by
  refine vx_ofW (cc := cX5_swings) (maxL := 4) (ret := (some .int)) (by decide) rfl ?_
  intro p e s m args below meth c s₁ B hml htb hv
  obtain ⟨rfl, ⟨hsz, hP, hK, hD0⟩, hXs⟩ := hv
  have hx := B.exec
  have hb := B.bytes
  have hr := B.returns
  have hts := atoms_spec (ws := wsX5_swings) B.pre
  have hown : s.vm.findClass RX5 = some m.cls := findClass_of_methodNamed B.named
  have hlocks := B.notSynchronized
  subst hsz
  have hD := hD0.self (sz := s.heap.size)
  generalize hAe : va_A [(x, .inr (7, [.ref bx, .ref po, .ref tr, .ref pa, .ref sp])), (bx, .inr (2, [.ref b0, .ref b1, .int 0, .int 0, .ref b4, .int 0, .ref b6, .int 0, .int 0, .int 0, .int 0]))] s.heap.size = A at hD hXs ⊢
  have hA : ∀ q : Nat, s.heap.size ≤ q → A q := fun q h => by rw [← hAe]; exact Or.inr h
  have hS : va_S A s.heap s.heap [] := va_S.rf
  have hP : va_P (dC, dI) vwCl [(x, .inr (7, [.ref bx, .ref po, .ref tr, .ref pa, .ref sp])), (bx, .inr (2, [.ref b0, .ref b1, .int 0, .int 0, .ref b4, .int 0, .ref b6, .int 0, .int 0, .int 0, .int 0]))] s.heap := hP
  have hK : va_K (dC, dI) vwCl [] s := hK
  have hl := lv_entry ([.ref x, .int a0, .int a1, .int a2]) (n := 4) (Nat.le_of_ble_eq_true rfl)
  rw [lg_entry_eq]
  generalize (lg_sl ([.ref x, .int a0, .int a1, .int a2]) ++ List.replicate (4 - (lg_sl ([.ref x, .int a0, .int a1, .int a2])).length) Slot.unset).toArray = ls at hl ⊢
  have hl : lv_has ls 4 [(0, .ref x), (1, .int a0), (2, .int a1), (3, .int a2)] := hl
  refine lv_iload_n hx hb dX5_swings_0 rfl (lv_at hl 1 rfl) ?_
  have hPc := hP.sub (ws' := []) [] rfl
  have hDc := hD.sub (ws' := []) [] (by decide) rfl
  have hKc := hK.sub (tys' := []) [] rfl
  have hFc := va_free (wc := []) hD hS hA [] rfl
  refine va_callv (va_runS (As := [.int a0]) (rest := []) ⟨hx, hb, hml, hown, hts⟩ (c_X5_checkParty l dC dI a0 _ g0a g0b) (va_cwS 1 hts gX5_swings_X5_checkParty rfl rfl rfl (by decide +kernel) ⟨Nat.le_of_ble_eq_true rfl, Nat.le_of_ble_eq_true rfl⟩) ⟨pr_blind, fun U hU hW => ⟨rfl, pr_mk hU hW hPc hKc hDc⟩⟩ rfl rfl hl.1 rfl (lv_room (Nat.le_of_ble_eq_true rfl)) dX5_swings_1 ⟨Nat.le_of_ble_eq_true rfl, Nat.le_of_ble_eq_true rfl⟩) hS (fun q _ h => hFc q h) hFc (fun u_1 t H1 locs ht hvm hw hB hz1 hk1 hS => ?_)
  obtain ⟨hP1, hK1, hD1⟩ := hB
  rw [ht] at hP1
  obtain ⟨hP, hD⟩ := va_join (wr := [(x, .inr (7, [.ref bx, .ref po, .ref tr, .ref pa, .ref sp])), (bx, .inr (2, [.ref b0, .ref b1, .int 0, .int 0, .ref b4, .int 0, .ref b6, .int 0, .int 0, .int 0, .int 0]))]) (w1 := []) hP hD [] [0, 1] rfl rfl (by decide) (by decide) hk1 hFc hP1 hD1
  generalize H1 = H at hP hS ⊢
  have hP : va_P (dC, dI) vwCl [(x, .inr (7, [.ref bx, .ref po, .ref tr, .ref pa, .ref sp])), (bx, .inr (2, [.ref b0, .ref b1, .int 0, .int 0, .ref b4, .int 0, .ref b6, .int 0, .int 0, .int 0, .int 0]))] H := hP
  have hD : va_D A [(x, .inr (7, [.ref bx, .ref po, .ref tr, .ref pa, .ref sp])), (bx, .inr (2, [.ref b0, .ref b1, .int 0, .int 0, .ref b4, .int 0, .ref b6, .int 0, .int 0, .int 0, .int 0]))] := hD
  refine W.widen (k := 0) (n := 0) (Nat.le_refl _) (Nat.le_refl _) ?_
  refine lv_iload_n hx hb dX5_swings_4 rfl (lv_at hl 2 rfl) ?_
  have hPc := hP.sub (ws' := []) [] rfl
  have hDc := hD.sub (ws' := []) [] (by decide) rfl
  have hKc := hK.sub (tys' := []) [] rfl
  have hFc := va_free (wc := []) hD hS hA [] rfl
  refine va_callv (va_runS (As := [.int a1]) (rest := []) ⟨hx, hb, hml, hown, hts⟩ (c_X5_checkHouse l dC dI a1 _ g1a g1b) (va_cwS 1 hts gX5_swings_X5_checkHouse rfl rfl rfl (by decide +kernel) ⟨Nat.le_of_ble_eq_true rfl, Nat.le_of_ble_eq_true rfl⟩) ⟨pr_blind, fun U hU hW => ⟨rfl, pr_mk hU hW hPc hKc hDc⟩⟩ rfl rfl hl.1 rfl (lv_room (Nat.le_of_ble_eq_true rfl)) dX5_swings_5 ⟨Nat.le_of_ble_eq_true rfl, Nat.le_of_ble_eq_true rfl⟩) hS (fun q _ h => hFc q h) hFc (fun u_3 t H1 locs ht hvm hw hB hz1 hk1 hS => ?_)
  obtain ⟨hP1, hK1, hD1⟩ := hB
  rw [ht] at hP1
  obtain ⟨hP, hD⟩ := va_join (wr := [(x, .inr (7, [.ref bx, .ref po, .ref tr, .ref pa, .ref sp])), (bx, .inr (2, [.ref b0, .ref b1, .int 0, .int 0, .ref b4, .int 0, .ref b6, .int 0, .int 0, .int 0, .int 0]))]) (w1 := []) hP hD [] [0, 1] rfl rfl (by decide) (by decide) hk1 hFc hP1 hD1
  generalize H1 = H at hP hS ⊢
  have hP : va_P (dC, dI) vwCl [(x, .inr (7, [.ref bx, .ref po, .ref tr, .ref pa, .ref sp])), (bx, .inr (2, [.ref b0, .ref b1, .int 0, .int 0, .ref b4, .int 0, .ref b6, .int 0, .int 0, .int 0, .int 0]))] H := hP
  have hD : va_D A [(x, .inr (7, [.ref bx, .ref po, .ref tr, .ref pa, .ref sp])), (bx, .inr (2, [.ref b0, .ref b1, .int 0, .int 0, .ref b4, .int 0, .ref b6, .int 0, .int 0, .int 0, .int 0]))] := hD
  refine W.widen (k := 0) (n := 0) (Nat.le_refl _) (Nat.le_refl _) ?_
  refine lv_iload_n hx hb dX5_swings_8 rfl (lv_at hl 3 rfl) ?_
  have hPc := hP.sub (ws' := []) [] rfl
  have hDc := hD.sub (ws' := []) [] (by decide) rfl
  have hKc := hK.sub (tys' := []) [] rfl
  have hFc := va_free (wc := []) hD hS hA [] rfl
  refine vx_callv (vx_runS (As := [.int a2]) (rest := []) ⟨hx, hb, hml, hown, hts⟩ (cx_X5_checkRule l hfl dC dI a2 tx sa _ hbd) (va_cwS 1 hts gX5_swings_X5_checkRule rfl rfl rfl (by decide +kernel) ⟨Nat.le_of_ble_eq_true rfl, Nat.le_of_ble_eq_true rfl⟩) ⟨px_blind, fun U hU hW => ⟨rfl, pr_mk hU hW hPc hKc hDc, xs_mk hU hW hS hFc hXs⟩⟩ rfl rfl hl.1 rfl (lv_room (Nat.le_of_ble_eq_true rfl)) dX5_swings_9 ⟨Nat.le_of_ble_eq_true rfl, Nat.le_of_ble_eq_true rfl⟩) hS (fun q _ h => hFc q h) hFc (fun q _ h => hFc q h) (fun E ce q9 u t H1 locs1 ht hvm hpx hB hz1 hk1 hS1 hce hcv hcl => ?_) (fun u t H1 locs1 ht hvm hw hB hz1 hk1 hS1 => hw.elim)
  obtain rfl : E = "java/lang/IllegalArgumentException" := hB
  exact vx_out (fun x hx9 => (htb x hx9).elim) hlocks hce hcv hcl (fun t9 ht9 hvm9 => ⟨(), trivial, rfl, hS1.F ht9⟩) hS1.2.2 (Nat.le_of_ble_eq_true rfl) (Nat.le_of_ble_eq_true rfl)

set_option maxHeartbeats 4000000 in
set_option maxRecDepth 100000 in
theorem cx0_X5_coalition (l : Launch) (hfl : l.stackTraces = false) (dC : Nat → ClassId) (dI : Nat → Nat → Nat) (x : Nat) (po : Nat) (tr : Nat) (sp : Nat) (pa : Nat) (bx : Nat) (b0 : Nat) (b1 : Nat) (b4 : Nat) (b6 : Nat) (a0 : Int32) (a1 : Int32) (tx : String) (sa : Nat) (sz : Nat) (hbd : a0 < 1 ∨ ¬ a0 ≤ 60) : vx_Met l yX5_coalition wsX5_coalition ({ frames := 8, cells := 1, slots := 6, locals := 130 }) (va_Pc [.ref x, .int a0, .int a1] (fun U => pr_ dC dI [(x, .inr (7, [.ref bx, .ref po, .ref tr, .ref pa, .ref sp])), (bx, .inr (2, [.ref b0, .ref b1, .int 0, .int 0, .ref b4, .int 0, .ref b6, .int 0, .int 0, .int 0, .int 0]))] [] sz U ∧ xs_ (va_A [(x, .inr (7, [.ref bx, .ref po, .ref tr, .ref pa, .ref sp])), (bx, .inr (2, [.ref b0, .ref b1, .int 0, .int 0, .ref b4, .int 0, .ref b6, .int 0, .int 0, .int 0, .int 0]))] sz) 312 tx sa "java/lang/IllegalArgumentException" U)) (va_Qi (fun (_ : Int32) (_ : Unit) => False) (fun _ _ => True) (va_A [(x, .inr (7, [.ref bx, .ref po, .ref tr, .ref pa, .ref sp])), (bx, .inr (2, [.ref b0, .ref b1, .int 0, .int 0, .ref b4, .int 0, .ref b6, .int 0, .int 0, .int 0, .int 0]))] sz)) (vx_X (fun _ : Unit => True) (fun E _ _ => E = "java/lang/IllegalArgumentException") (va_A [(x, .inr (7, [.ref bx, .ref po, .ref tr, .ref pa, .ref sp])), (bx, .inr (2, [.ref b0, .ref b1, .int 0, .int 0, .ref b4, .int 0, .ref b6, .int 0, .int 0, .int 0, .int 0]))] sz)) 1 6 (va_A [(x, .inr (7, [.ref bx, .ref po, .ref tr, .ref pa, .ref sp])), (bx, .inr (2, [.ref b0, .ref b1, .int 0, .int 0, .ref b4, .int 0, .ref b6, .int 0, .int 0, .int 0, .int 0]))] sz) := by
  refine vx_ofW (cc := cX5_coalition) (maxL := 3) (ret := (some .int)) (by decide) rfl ?_
  intro p e s m args below meth c s₁ B hml htb hv
  obtain ⟨rfl, ⟨hsz, hP, hK, hD0⟩, hXs⟩ := hv
  have hx := B.exec
  have hb := B.bytes
  have hr := B.returns
  have hts := atoms_spec (ws := wsX5_coalition) B.pre
  have hown : s.vm.findClass RX5 = some m.cls := findClass_of_methodNamed B.named
  have hlocks := B.notSynchronized
  subst hsz
  have hD := hD0.self (sz := s.heap.size)
  generalize hAe : va_A [(x, .inr (7, [.ref bx, .ref po, .ref tr, .ref pa, .ref sp])), (bx, .inr (2, [.ref b0, .ref b1, .int 0, .int 0, .ref b4, .int 0, .ref b6, .int 0, .int 0, .int 0, .int 0]))] s.heap.size = A at hD hXs ⊢
  have hA : ∀ q : Nat, s.heap.size ≤ q → A q := fun q h => by rw [← hAe]; exact Or.inr h
  have hS : va_S A s.heap s.heap [] := va_S.rf
  have hP : va_P (dC, dI) vwCl [(x, .inr (7, [.ref bx, .ref po, .ref tr, .ref pa, .ref sp])), (bx, .inr (2, [.ref b0, .ref b1, .int 0, .int 0, .ref b4, .int 0, .ref b6, .int 0, .int 0, .int 0, .int 0]))] s.heap := hP
  have hK : va_K (dC, dI) vwCl [] s := hK
  have hl := lv_entry ([.ref x, .int a0, .int a1]) (n := 3) (Nat.le_of_ble_eq_true rfl)
  rw [lg_entry_eq]
  generalize (lg_sl ([.ref x, .int a0, .int a1]) ++ List.replicate (3 - (lg_sl ([.ref x, .int a0, .int a1])).length) Slot.unset).toArray = ls at hl ⊢
  have hl : lv_has ls 3 [(0, .ref x), (1, .int a0), (2, .int a1)] := hl
  refine lv_iload_n hx hb dX5_coalition_0 rfl (lv_at hl 1 rfl) ?_
  have hPc := hP.sub (ws' := []) [] rfl
  have hDc := hD.sub (ws' := []) [] (by decide) rfl
  have hKc := hK.sub (tys' := []) [] rfl
  have hFc := va_free (wc := []) hD hS hA [] rfl
  refine vx_callv (vx_runS (As := [.int a0]) (rest := []) ⟨hx, hb, hml, hown, hts⟩ (cx_X5_checkHouse l hfl dC dI a0 tx sa _ hbd) (va_cwS 1 hts gX5_coalition_X5_checkHouse rfl rfl rfl (by decide +kernel) ⟨Nat.le_of_ble_eq_true rfl, Nat.le_of_ble_eq_true rfl⟩) ⟨px_blind, fun U hU hW => ⟨rfl, pr_mk hU hW hPc hKc hDc, xs_mk hU hW hS hFc hXs⟩⟩ rfl rfl hl.1 rfl (lv_room (Nat.le_of_ble_eq_true rfl)) dX5_coalition_1 ⟨Nat.le_of_ble_eq_true rfl, Nat.le_of_ble_eq_true rfl⟩) hS (fun q _ h => hFc q h) hFc (fun q _ h => hFc q h) (fun E ce q9 u t H1 locs1 ht hvm hpx hB hz1 hk1 hS1 hce hcv hcl => ?_) (fun u t H1 locs1 ht hvm hw hB hz1 hk1 hS1 => hw.elim)
  obtain rfl : E = "java/lang/IllegalArgumentException" := hB
  exact vx_out (fun x hx9 => (htb x hx9).elim) hlocks hce hcv hcl (fun t9 ht9 hvm9 => ⟨(), trivial, rfl, hS1.F ht9⟩) hS1.2.2 (Nat.le_of_ble_eq_true rfl) (Nat.le_of_ble_eq_true rfl)

set_option maxHeartbeats 4000000 in
set_option maxRecDepth 100000 in
theorem cx1_X5_coalition (l : Launch) (hfl : l.stackTraces = false) (dC : Nat → ClassId) (dI : Nat → Nat → Nat) (x : Nat) (po : Nat) (tr : Nat) (sp : Nat) (pa : Nat) (bx : Nat) (b0 : Nat) (b1 : Nat) (b4 : Nat) (b6 : Nat) (a0 : Int32) (a1 : Int32) (tx : String) (sa : Nat) (sz : Nat) (g0a : ¬ a0 < 1) (g0b : a0 ≤ 60) (hbd : a1 < 0 ∨ ¬ a1 ≤ 2) : vx_Met l yX5_coalition wsX5_coalition ({ frames := 8, cells := 1, slots := 6, locals := 130 }) (va_Pc [.ref x, .int a0, .int a1] (fun U => pr_ dC dI [(x, .inr (7, [.ref bx, .ref po, .ref tr, .ref pa, .ref sp])), (bx, .inr (2, [.ref b0, .ref b1, .int 0, .int 0, .ref b4, .int 0, .ref b6, .int 0, .int 0, .int 0, .int 0]))] [] sz U ∧ xs_ (va_A [(x, .inr (7, [.ref bx, .ref po, .ref tr, .ref pa, .ref sp])), (bx, .inr (2, [.ref b0, .ref b1, .int 0, .int 0, .ref b4, .int 0, .ref b6, .int 0, .int 0, .int 0, .int 0]))] sz) 314 tx sa "java/lang/IllegalArgumentException" U)) (va_Qi (fun (_ : Int32) (_ : Unit) => False) (fun _ _ => True) (va_A [(x, .inr (7, [.ref bx, .ref po, .ref tr, .ref pa, .ref sp])), (bx, .inr (2, [.ref b0, .ref b1, .int 0, .int 0, .ref b4, .int 0, .ref b6, .int 0, .int 0, .int 0, .int 0]))] sz)) (vx_X (fun _ : Unit => True) (fun E _ _ => E = "java/lang/IllegalArgumentException") (va_A [(x, .inr (7, [.ref bx, .ref po, .ref tr, .ref pa, .ref sp])), (bx, .inr (2, [.ref b0, .ref b1, .int 0, .int 0, .ref b4, .int 0, .ref b6, .int 0, .int 0, .int 0, .int 0]))] sz)) 1 6 (va_A [(x, .inr (7, [.ref bx, .ref po, .ref tr, .ref pa, .ref sp])), (bx, .inr (2, [.ref b0, .ref b1, .int 0, .int 0, .ref b4, .int 0, .ref b6, .int 0, .int 0, .int 0, .int 0]))] sz) := by
  refine vx_ofW (cc := cX5_coalition) (maxL := 3) (ret := (some .int)) (by decide) rfl ?_
  intro p e s m args below meth c s₁ B hml htb hv
  obtain ⟨rfl, ⟨hsz, hP, hK, hD0⟩, hXs⟩ := hv
  have hx := B.exec
  have hb := B.bytes
  have hr := B.returns
  have hts := atoms_spec (ws := wsX5_coalition) B.pre
  have hown : s.vm.findClass RX5 = some m.cls := findClass_of_methodNamed B.named
  have hlocks := B.notSynchronized
  subst hsz
  have hD := hD0.self (sz := s.heap.size)
  generalize hAe : va_A [(x, .inr (7, [.ref bx, .ref po, .ref tr, .ref pa, .ref sp])), (bx, .inr (2, [.ref b0, .ref b1, .int 0, .int 0, .ref b4, .int 0, .ref b6, .int 0, .int 0, .int 0, .int 0]))] s.heap.size = A at hD hXs ⊢
  have hA : ∀ q : Nat, s.heap.size ≤ q → A q := fun q h => by rw [← hAe]; exact Or.inr h
  have hS : va_S A s.heap s.heap [] := va_S.rf
  have hP : va_P (dC, dI) vwCl [(x, .inr (7, [.ref bx, .ref po, .ref tr, .ref pa, .ref sp])), (bx, .inr (2, [.ref b0, .ref b1, .int 0, .int 0, .ref b4, .int 0, .ref b6, .int 0, .int 0, .int 0, .int 0]))] s.heap := hP
  have hK : va_K (dC, dI) vwCl [] s := hK
  have hl := lv_entry ([.ref x, .int a0, .int a1]) (n := 3) (Nat.le_of_ble_eq_true rfl)
  rw [lg_entry_eq]
  generalize (lg_sl ([.ref x, .int a0, .int a1]) ++ List.replicate (3 - (lg_sl ([.ref x, .int a0, .int a1])).length) Slot.unset).toArray = ls at hl ⊢
  have hl : lv_has ls 3 [(0, .ref x), (1, .int a0), (2, .int a1)] := hl
  refine lv_iload_n hx hb dX5_coalition_0 rfl (lv_at hl 1 rfl) ?_
  have hPc := hP.sub (ws' := []) [] rfl
  have hDc := hD.sub (ws' := []) [] (by decide) rfl
  have hKc := hK.sub (tys' := []) [] rfl
  have hFc := va_free (wc := []) hD hS hA [] rfl
  refine va_callv (va_runS (As := [.int a0]) (rest := []) ⟨hx, hb, hml, hown, hts⟩ (c_X5_checkHouse l dC dI a0 _ g0a g0b) (va_cwS 1 hts gX5_coalition_X5_checkHouse rfl rfl rfl (by decide +kernel) ⟨Nat.le_of_ble_eq_true rfl, Nat.le_of_ble_eq_true rfl⟩) ⟨pr_blind, fun U hU hW => ⟨rfl, pr_mk hU hW hPc hKc hDc⟩⟩ rfl rfl hl.1 rfl (lv_room (Nat.le_of_ble_eq_true rfl)) dX5_coalition_1 ⟨Nat.le_of_ble_eq_true rfl, Nat.le_of_ble_eq_true rfl⟩) hS (fun q _ h => hFc q h) hFc (fun u_1 t H1 locs ht hvm hw hB hz1 hk1 hS => ?_)
  obtain ⟨hP1, hK1, hD1⟩ := hB
  rw [ht] at hP1
  obtain ⟨hP, hD⟩ := va_join (wr := [(x, .inr (7, [.ref bx, .ref po, .ref tr, .ref pa, .ref sp])), (bx, .inr (2, [.ref b0, .ref b1, .int 0, .int 0, .ref b4, .int 0, .ref b6, .int 0, .int 0, .int 0, .int 0]))]) (w1 := []) hP hD [] [0, 1] rfl rfl (by decide) (by decide) hk1 hFc hP1 hD1
  generalize H1 = H at hP hS ⊢
  have hP : va_P (dC, dI) vwCl [(x, .inr (7, [.ref bx, .ref po, .ref tr, .ref pa, .ref sp])), (bx, .inr (2, [.ref b0, .ref b1, .int 0, .int 0, .ref b4, .int 0, .ref b6, .int 0, .int 0, .int 0, .int 0]))] H := hP
  have hD : va_D A [(x, .inr (7, [.ref bx, .ref po, .ref tr, .ref pa, .ref sp])), (bx, .inr (2, [.ref b0, .ref b1, .int 0, .int 0, .ref b4, .int 0, .ref b6, .int 0, .int 0, .int 0, .int 0]))] := hD
  refine W.widen (k := 0) (n := 0) (Nat.le_refl _) (Nat.le_refl _) ?_
  refine lv_iload_n hx hb dX5_coalition_4 rfl (lv_at hl 2 rfl) ?_
  have hPc := hP.sub (ws' := []) [] rfl
  have hDc := hD.sub (ws' := []) [] (by decide) rfl
  have hKc := hK.sub (tys' := []) [] rfl
  have hFc := va_free (wc := []) hD hS hA [] rfl
  refine vx_callv (vx_runS (As := [.int a1]) (rest := []) ⟨hx, hb, hml, hown, hts⟩ (cx_X5_checkRule l hfl dC dI a1 tx sa _ hbd) (va_cwS 1 hts gX5_coalition_X5_checkRule rfl rfl rfl (by decide +kernel) ⟨Nat.le_of_ble_eq_true rfl, Nat.le_of_ble_eq_true rfl⟩) ⟨px_blind, fun U hU hW => ⟨rfl, pr_mk hU hW hPc hKc hDc, xs_mk hU hW hS hFc hXs⟩⟩ rfl rfl hl.1 rfl (lv_room (Nat.le_of_ble_eq_true rfl)) dX5_coalition_5 ⟨Nat.le_of_ble_eq_true rfl, Nat.le_of_ble_eq_true rfl⟩) hS (fun q _ h => hFc q h) hFc (fun q _ h => hFc q h) (fun E ce q9 u t H1 locs1 ht hvm hpx hB hz1 hk1 hS1 hce hcv hcl => ?_) (fun u t H1 locs1 ht hvm hw hB hz1 hk1 hS1 => hw.elim)
  obtain rfl : E = "java/lang/IllegalArgumentException" := hB
  exact vx_out (fun x hx9 => (htb x hx9).elim) hlocks hce hcv hcl (fun t9 ht9 hvm9 => ⟨(), trivial, rfl, hS1.F ht9⟩) hS1.2.2 (Nat.le_of_ble_eq_true rfl) (Nat.le_of_ble_eq_true rfl)

set_option maxHeartbeats 4000000 in
set_option maxRecDepth 100000 in
theorem cx0_X5_gap (l : Launch) (hfl : l.stackTraces = false) (dC : Nat → ClassId) (dI : Nat → Nat → Nat) (x : Nat) (po : Nat) (tr : Nat) (sp : Nat) (pa : Nat) (bx : Nat) (b0 : Nat) (b1 : Nat) (b4 : Nat) (b6 : Nat) (a0 : Int32) (a1 : Int32) (tx : String) (sa : Nat) (sz : Nat) (hbd : a0 < 0 ∨ 4 ≤ a0) : vx_Met l yX5_gap wsX5_gap ({ frames := 8, cells := 1, slots := 6, locals := 130 }) (va_Pc [.ref x, .int a0, .int a1] (fun U => pr_ dC dI [(x, .inr (7, [.ref bx, .ref po, .ref tr, .ref pa, .ref sp])), (bx, .inr (2, [.ref b0, .ref b1, .int 0, .int 0, .ref b4, .int 0, .ref b6, .int 0, .int 0, .int 0, .int 0]))] [] sz U ∧ xs_ (va_A [(x, .inr (7, [.ref bx, .ref po, .ref tr, .ref pa, .ref sp])), (bx, .inr (2, [.ref b0, .ref b1, .int 0, .int 0, .ref b4, .int 0, .ref b6, .int 0, .int 0, .int 0, .int 0]))] sz) 50 tx sa "java/lang/IndexOutOfBoundsException" U)) (va_Qd (fun (_ : UInt64) (_ : Unit) => False) (fun _ _ => True) (va_A [(x, .inr (7, [.ref bx, .ref po, .ref tr, .ref pa, .ref sp])), (bx, .inr (2, [.ref b0, .ref b1, .int 0, .int 0, .ref b4, .int 0, .ref b6, .int 0, .int 0, .int 0, .int 0]))] sz)) (vx_X (fun _ : Unit => True) (fun E _ _ => E = "java/lang/IndexOutOfBoundsException") (va_A [(x, .inr (7, [.ref bx, .ref po, .ref tr, .ref pa, .ref sp])), (bx, .inr (2, [.ref b0, .ref b1, .int 0, .int 0, .ref b4, .int 0, .ref b6, .int 0, .int 0, .int 0, .int 0]))] sz)) 1 6 (va_A [(x, .inr (7, [.ref bx, .ref po, .ref tr, .ref pa, .ref sp])), (bx, .inr (2, [.ref b0, .ref b1, .int 0, .int 0, .ref b4, .int 0, .ref b6, .int 0, .int 0, .int 0, .int 0]))] sz) := by
  refine vx_ofW (cc := cX5_gap) (maxL := 5) (ret := (some .double)) (by decide) rfl ?_
  intro p e s m args below meth c s₁ B hml htb hv
  obtain ⟨rfl, ⟨hsz, hP, hK, hD0⟩, hXs⟩ := hv
  have hx := B.exec
  have hb := B.bytes
  have hr := B.returns
  have hts := atoms_spec (ws := wsX5_gap) B.pre
  have hown : s.vm.findClass RX5 = some m.cls := findClass_of_methodNamed B.named
  have hlocks := B.notSynchronized
  subst hsz
  have hD := hD0.self (sz := s.heap.size)
  generalize hAe : va_A [(x, .inr (7, [.ref bx, .ref po, .ref tr, .ref pa, .ref sp])), (bx, .inr (2, [.ref b0, .ref b1, .int 0, .int 0, .ref b4, .int 0, .ref b6, .int 0, .int 0, .int 0, .int 0]))] s.heap.size = A at hD hXs ⊢
  have hA : ∀ q : Nat, s.heap.size ≤ q → A q := fun q h => by rw [← hAe]; exact Or.inr h
  have hS : va_S A s.heap s.heap [] := va_S.rf
  have hP : va_P (dC, dI) vwCl [(x, .inr (7, [.ref bx, .ref po, .ref tr, .ref pa, .ref sp])), (bx, .inr (2, [.ref b0, .ref b1, .int 0, .int 0, .ref b4, .int 0, .ref b6, .int 0, .int 0, .int 0, .int 0]))] s.heap := hP
  have hK : va_K (dC, dI) vwCl [] s := hK
  have hl := lv_entry ([.ref x, .int a0, .int a1]) (n := 5) (Nat.le_of_ble_eq_true rfl)
  rw [lg_entry_eq]
  generalize (lg_sl ([.ref x, .int a0, .int a1]) ++ List.replicate (5 - (lg_sl ([.ref x, .int a0, .int a1])).length) Slot.unset).toArray = ls at hl ⊢
  have hl : lv_has ls 5 [(0, .ref x), (1, .int a0), (2, .int a1)] := hl
  refine lv_iload_n hx hb dX5_gap_0 rfl (lv_at hl 1 rfl) ?_
  have hPc := hP.sub (ws' := []) [] rfl
  have hDc := hD.sub (ws' := []) [] (by decide) rfl
  have hKc := hK.sub (tys' := []) [] rfl
  have hFc := va_free (wc := []) hD hS hA [] rfl
  refine vx_callv (vx_runS (As := [.int a0]) (rest := []) ⟨hx, hb, hml, hown, hts⟩ (cx_X5_checkParty l hfl dC dI a0 tx sa _ hbd) (va_cwS 1 hts gX5_gap_X5_checkParty rfl rfl rfl (by decide +kernel) ⟨Nat.le_of_ble_eq_true rfl, Nat.le_of_ble_eq_true rfl⟩) ⟨px_blind, fun U hU hW => ⟨rfl, pr_mk hU hW hPc hKc hDc, xs_mk hU hW hS hFc hXs⟩⟩ rfl rfl hl.1 rfl (lv_room (Nat.le_of_ble_eq_true rfl)) dX5_gap_1 ⟨Nat.le_of_ble_eq_true rfl, Nat.le_of_ble_eq_true rfl⟩) hS (fun q _ h => hFc q h) hFc (fun q _ h => hFc q h) (fun E ce q9 u t H1 locs1 ht hvm hpx hB hz1 hk1 hS1 hce hcv hcl => ?_) (fun u t H1 locs1 ht hvm hw hB hz1 hk1 hS1 => hw.elim)
  obtain rfl : E = "java/lang/IndexOutOfBoundsException" := hB
  exact vx_out (fun x hx9 => (htb x hx9).elim) hlocks hce hcv hcl (fun t9 ht9 hvm9 => ⟨(), trivial, rfl, hS1.F ht9⟩) hS1.2.2 (Nat.le_of_ble_eq_true rfl) (Nat.le_of_ble_eq_true rfl)

set_option maxHeartbeats 4000000 in
set_option maxRecDepth 100000 in
theorem cx1_X5_gap (l : Launch) (hfl : l.stackTraces = false) (dC : Nat → ClassId) (dI : Nat → Nat → Nat) (x : Nat) (po : Nat) (tr : Nat) (sp : Nat) (pa : Nat) (bx : Nat) (b0 : Nat) (b1 : Nat) (b4 : Nat) (b6 : Nat) (a0 : Int32) (a1 : Int32) (tx : String) (sa : Nat) (sz : Nat) (g0a : ¬ a0 < 0) (g0b : ¬ 4 ≤ a0) (hbd : a1 < 0 ∨ 4 ≤ a1) : vx_Met l yX5_gap wsX5_gap ({ frames := 8, cells := 1, slots := 6, locals := 130 }) (va_Pc [.ref x, .int a0, .int a1] (fun U => pr_ dC dI [(x, .inr (7, [.ref bx, .ref po, .ref tr, .ref pa, .ref sp])), (bx, .inr (2, [.ref b0, .ref b1, .int 0, .int 0, .ref b4, .int 0, .ref b6, .int 0, .int 0, .int 0, .int 0]))] [] sz U ∧ xs_ (va_A [(x, .inr (7, [.ref bx, .ref po, .ref tr, .ref pa, .ref sp])), (bx, .inr (2, [.ref b0, .ref b1, .int 0, .int 0, .ref b4, .int 0, .ref b6, .int 0, .int 0, .int 0, .int 0]))] sz) 50 tx sa "java/lang/IndexOutOfBoundsException" U)) (va_Qd (fun (_ : UInt64) (_ : Unit) => False) (fun _ _ => True) (va_A [(x, .inr (7, [.ref bx, .ref po, .ref tr, .ref pa, .ref sp])), (bx, .inr (2, [.ref b0, .ref b1, .int 0, .int 0, .ref b4, .int 0, .ref b6, .int 0, .int 0, .int 0, .int 0]))] sz)) (vx_X (fun _ : Unit => True) (fun E _ _ => E = "java/lang/IndexOutOfBoundsException") (va_A [(x, .inr (7, [.ref bx, .ref po, .ref tr, .ref pa, .ref sp])), (bx, .inr (2, [.ref b0, .ref b1, .int 0, .int 0, .ref b4, .int 0, .ref b6, .int 0, .int 0, .int 0, .int 0]))] sz)) 1 6 (va_A [(x, .inr (7, [.ref bx, .ref po, .ref tr, .ref pa, .ref sp])), (bx, .inr (2, [.ref b0, .ref b1, .int 0, .int 0, .ref b4, .int 0, .ref b6, .int 0, .int 0, .int 0, .int 0]))] sz) := by
  refine vx_ofW (cc := cX5_gap) (maxL := 5) (ret := (some .double)) (by decide) rfl ?_
  intro p e s m args below meth c s₁ B hml htb hv
  obtain ⟨rfl, ⟨hsz, hP, hK, hD0⟩, hXs⟩ := hv
  have hx := B.exec
  have hb := B.bytes
  have hr := B.returns
  have hts := atoms_spec (ws := wsX5_gap) B.pre
  have hown : s.vm.findClass RX5 = some m.cls := findClass_of_methodNamed B.named
  have hlocks := B.notSynchronized
  subst hsz
  have hD := hD0.self (sz := s.heap.size)
  generalize hAe : va_A [(x, .inr (7, [.ref bx, .ref po, .ref tr, .ref pa, .ref sp])), (bx, .inr (2, [.ref b0, .ref b1, .int 0, .int 0, .ref b4, .int 0, .ref b6, .int 0, .int 0, .int 0, .int 0]))] s.heap.size = A at hD hXs ⊢
  have hA : ∀ q : Nat, s.heap.size ≤ q → A q := fun q h => by rw [← hAe]; exact Or.inr h
  have hS : va_S A s.heap s.heap [] := va_S.rf
  have hP : va_P (dC, dI) vwCl [(x, .inr (7, [.ref bx, .ref po, .ref tr, .ref pa, .ref sp])), (bx, .inr (2, [.ref b0, .ref b1, .int 0, .int 0, .ref b4, .int 0, .ref b6, .int 0, .int 0, .int 0, .int 0]))] s.heap := hP
  have hK : va_K (dC, dI) vwCl [] s := hK
  have hl := lv_entry ([.ref x, .int a0, .int a1]) (n := 5) (Nat.le_of_ble_eq_true rfl)
  rw [lg_entry_eq]
  generalize (lg_sl ([.ref x, .int a0, .int a1]) ++ List.replicate (5 - (lg_sl ([.ref x, .int a0, .int a1])).length) Slot.unset).toArray = ls at hl ⊢
  have hl : lv_has ls 5 [(0, .ref x), (1, .int a0), (2, .int a1)] := hl
  refine lv_iload_n hx hb dX5_gap_0 rfl (lv_at hl 1 rfl) ?_
  have hPc := hP.sub (ws' := []) [] rfl
  have hDc := hD.sub (ws' := []) [] (by decide) rfl
  have hKc := hK.sub (tys' := []) [] rfl
  have hFc := va_free (wc := []) hD hS hA [] rfl
  refine va_callv (va_runS (As := [.int a0]) (rest := []) ⟨hx, hb, hml, hown, hts⟩ (c_X5_checkParty l dC dI a0 _ g0a g0b) (va_cwS 1 hts gX5_gap_X5_checkParty rfl rfl rfl (by decide +kernel) ⟨Nat.le_of_ble_eq_true rfl, Nat.le_of_ble_eq_true rfl⟩) ⟨pr_blind, fun U hU hW => ⟨rfl, pr_mk hU hW hPc hKc hDc⟩⟩ rfl rfl hl.1 rfl (lv_room (Nat.le_of_ble_eq_true rfl)) dX5_gap_1 ⟨Nat.le_of_ble_eq_true rfl, Nat.le_of_ble_eq_true rfl⟩) hS (fun q _ h => hFc q h) hFc (fun u_1 t H1 locs ht hvm hw hB hz1 hk1 hS => ?_)
  obtain ⟨hP1, hK1, hD1⟩ := hB
  rw [ht] at hP1
  obtain ⟨hP, hD⟩ := va_join (wr := [(x, .inr (7, [.ref bx, .ref po, .ref tr, .ref pa, .ref sp])), (bx, .inr (2, [.ref b0, .ref b1, .int 0, .int 0, .ref b4, .int 0, .ref b6, .int 0, .int 0, .int 0, .int 0]))]) (w1 := []) hP hD [] [0, 1] rfl rfl (by decide) (by decide) hk1 hFc hP1 hD1
  generalize H1 = H at hP hS ⊢
  have hP : va_P (dC, dI) vwCl [(x, .inr (7, [.ref bx, .ref po, .ref tr, .ref pa, .ref sp])), (bx, .inr (2, [.ref b0, .ref b1, .int 0, .int 0, .ref b4, .int 0, .ref b6, .int 0, .int 0, .int 0, .int 0]))] H := hP
  have hD : va_D A [(x, .inr (7, [.ref bx, .ref po, .ref tr, .ref pa, .ref sp])), (bx, .inr (2, [.ref b0, .ref b1, .int 0, .int 0, .ref b4, .int 0, .ref b6, .int 0, .int 0, .int 0, .int 0]))] := hD
  refine W.widen (k := 0) (n := 0) (Nat.le_refl _) (Nat.le_refl _) ?_
  refine lv_iload_n hx hb dX5_gap_4 rfl (lv_at hl 2 rfl) ?_
  have hPc := hP.sub (ws' := []) [] rfl
  have hDc := hD.sub (ws' := []) [] (by decide) rfl
  have hKc := hK.sub (tys' := []) [] rfl
  have hFc := va_free (wc := []) hD hS hA [] rfl
  refine vx_callv (vx_runS (As := [.int a1]) (rest := []) ⟨hx, hb, hml, hown, hts⟩ (cx_X5_checkParty l hfl dC dI a1 tx sa _ hbd) (va_cwS 1 hts gX5_gap_X5_checkParty rfl rfl rfl (by decide +kernel) ⟨Nat.le_of_ble_eq_true rfl, Nat.le_of_ble_eq_true rfl⟩) ⟨px_blind, fun U hU hW => ⟨rfl, pr_mk hU hW hPc hKc hDc, xs_mk hU hW hS hFc hXs⟩⟩ rfl rfl hl.1 rfl (lv_room (Nat.le_of_ble_eq_true rfl)) dX5_gap_5 ⟨Nat.le_of_ble_eq_true rfl, Nat.le_of_ble_eq_true rfl⟩) hS (fun q _ h => hFc q h) hFc (fun q _ h => hFc q h) (fun E ce q9 u t H1 locs1 ht hvm hpx hB hz1 hk1 hS1 hce hcv hcl => ?_) (fun u t H1 locs1 ht hvm hw hB hz1 hk1 hS1 => hw.elim)
  obtain rfl : E = "java/lang/IndexOutOfBoundsException" := hB
  exact vx_out (fun x hx9 => (htb x hx9).elim) hlocks hce hcv hcl (fun t9 ht9 hvm9 => ⟨(), trivial, rfl, hS1.F ht9⟩) hS1.2.2 (Nat.le_of_ble_eq_true rfl) (Nat.le_of_ble_eq_true rfl)

set_option maxHeartbeats 4000000 in
set_option maxRecDepth 100000 in
theorem cx0_X5_many (l : Launch) (hfl : l.stackTraces = false) (dC : Nat → ClassId) (dI : Nat → Nat → Nat) (x : Nat) (po : Nat) (tr : Nat) (sp : Nat) (pa : Nat) (bx : Nat) (b0 : Nat) (b1 : Nat) (b4 : Nat) (b6 : Nat) (a0 : Int32) (tx : String) (sa : Nat) (sz : Nat) (hbd : a0 < 0 ∨ ¬ a0 ≤ 9) : vx_Met l yX5_many wsX5_many ({ frames := 8, cells := 1, slots := 6, locals := 130 }) (va_Pc [.ref x, .int a0] (fun U => pr_ dC dI [(x, .inr (7, [.ref bx, .ref po, .ref tr, .ref pa, .ref sp])), (bx, .inr (2, [.ref b0, .ref b1, .int 0, .int 0, .ref b4, .int 0, .ref b6, .int 0, .int 0, .int 0, .int 0]))] [] sz U ∧ xs_ (va_A [(x, .inr (7, [.ref bx, .ref po, .ref tr, .ref pa, .ref sp])), (bx, .inr (2, [.ref b0, .ref b1, .int 0, .int 0, .ref b4, .int 0, .ref b6, .int 0, .int 0, .int 0, .int 0]))] sz) 308 tx sa "java/lang/IllegalArgumentException" U)) (va_Qi (fun (_ : Int32) (_ : Unit) => False) (fun _ _ => True) (va_A [(x, .inr (7, [.ref bx, .ref po, .ref tr, .ref pa, .ref sp])), (bx, .inr (2, [.ref b0, .ref b1, .int 0, .int 0, .ref b4, .int 0, .ref b6, .int 0, .int 0, .int 0, .int 0]))] sz)) (vx_X (fun _ : Unit => True) (fun E _ _ => E = "java/lang/IllegalArgumentException") (va_A [(x, .inr (7, [.ref bx, .ref po, .ref tr, .ref pa, .ref sp])), (bx, .inr (2, [.ref b0, .ref b1, .int 0, .int 0, .ref b4, .int 0, .ref b6, .int 0, .int 0, .int 0, .int 0]))] sz)) 1 6 (va_A [(x, .inr (7, [.ref bx, .ref po, .ref tr, .ref pa, .ref sp])), (bx, .inr (2, [.ref b0, .ref b1, .int 0, .int 0, .ref b4, .int 0, .ref b6, .int 0, .int 0, .int 0, .int 0]))] sz) := by
  refine vx_ofW (cc := cX5_many) (maxL := 2) (ret := (some .int)) (by decide) rfl ?_
  intro p e s m args below meth c s₁ B hml htb hv
  obtain ⟨rfl, ⟨hsz, hP, hK, hD0⟩, hXs⟩ := hv
  have hx := B.exec
  have hb := B.bytes
  have hr := B.returns
  have hts := atoms_spec (ws := wsX5_many) B.pre
  have hown : s.vm.findClass RX5 = some m.cls := findClass_of_methodNamed B.named
  have hlocks := B.notSynchronized
  subst hsz
  have hD := hD0.self (sz := s.heap.size)
  generalize hAe : va_A [(x, .inr (7, [.ref bx, .ref po, .ref tr, .ref pa, .ref sp])), (bx, .inr (2, [.ref b0, .ref b1, .int 0, .int 0, .ref b4, .int 0, .ref b6, .int 0, .int 0, .int 0, .int 0]))] s.heap.size = A at hD hXs ⊢
  have hA : ∀ q : Nat, s.heap.size ≤ q → A q := fun q h => by rw [← hAe]; exact Or.inr h
  have hS : va_S A s.heap s.heap [] := va_S.rf
  have hP : va_P (dC, dI) vwCl [(x, .inr (7, [.ref bx, .ref po, .ref tr, .ref pa, .ref sp])), (bx, .inr (2, [.ref b0, .ref b1, .int 0, .int 0, .ref b4, .int 0, .ref b6, .int 0, .int 0, .int 0, .int 0]))] s.heap := hP
  have hK : va_K (dC, dI) vwCl [] s := hK
  have hl := lv_entry ([.ref x, .int a0]) (n := 2) (Nat.le_of_ble_eq_true rfl)
  rw [lg_entry_eq]
  generalize (lg_sl ([.ref x, .int a0]) ++ List.replicate (2 - (lg_sl ([.ref x, .int a0])).length) Slot.unset).toArray = ls at hl ⊢
  have hl : lv_has ls 2 [(0, .ref x), (1, .int a0)] := hl
  refine lv_iload_n hx hb dX5_many_0 rfl (lv_at hl 1 rfl) ?_
  refine lv_bipush (v := 9) hx hb dX5_many_1 (by decide) ?_
  have hPc := hP.sub (ws' := []) [] rfl
  have hDc := hD.sub (ws' := []) [] (by decide) rfl
  have hKc := hK.sub (tys' := []) [] rfl
  have hFc := va_free (wc := []) hD hS hA [] rfl
  refine vx_callv (vx_runS (As := [.int a0, .int 9]) (rest := []) ⟨hx, hb, hml, hown, hts⟩ (cx_X5_checkWhat l hfl dC dI a0 (9 : Int32) tx sa _ hbd) (va_cwS 2 hts gX5_many_X5_checkWhat rfl rfl rfl (by decide +kernel) ⟨Nat.le_of_ble_eq_true rfl, Nat.le_of_ble_eq_true rfl⟩) ⟨px_blind, fun U hU hW => ⟨rfl, pr_mk hU hW hPc hKc hDc, xs_mk hU hW hS hFc hXs⟩⟩ rfl rfl hl.1 rfl (lv_room (Nat.le_of_ble_eq_true rfl)) dX5_many_3 ⟨Nat.le_of_ble_eq_true rfl, Nat.le_of_ble_eq_true rfl⟩) hS (fun q _ h => hFc q h) hFc (fun q _ h => hFc q h) (fun E ce q9 u t H1 locs1 ht hvm hpx hB hz1 hk1 hS1 hce hcv hcl => ?_) (fun u t H1 locs1 ht hvm hw hB hz1 hk1 hS1 => hw.elim)
  obtain rfl : E = "java/lang/IllegalArgumentException" := hB
  exact vx_out (fun x hx9 => (htb x hx9).elim) hlocks hce hcv hcl (fun t9 ht9 hvm9 => ⟨(), trivial, rfl, hS1.F ht9⟩) hS1.2.2 (Nat.le_of_ble_eq_true rfl) (Nat.le_of_ble_eq_true rfl)
