set_option maxHeartbeats 4000000 in
set_option maxRecDepth 100000 in
theorem c_X5_isParty (l : Launch) (dC : Nat → ClassId) (dI : Nat → Nat → Nat) (pp : Int32) (sz : Nat) (h1 : ¬ pp < 0) (h2 : ¬ 4 ≤ pp) : Met l yX5_isParty wsX5_isParty ({ frames := 2, cells := 0, slots := 0, locals := 40 }) (va_Pc [.int pp] (pr_ dC dI [] [] sz)) (va_Qi (fun (r : Int32) (_ : Unit) => r = 1) (fun (_ : Unit) t => po_ dC dI [] [] (va_A [] sz) t) (va_A [] sz)) 0 0 (va_A [] sz) := by
  refine Met.ofW (cc := cX5_isParty) (maxL := 1) (ret := (some .boolean)) (by decide) rfl ?_
  intro p e s m args below meth c s₁ B hml hv
  obtain ⟨rfl, hsz, hP, hK, hD0⟩ := hv
  have hx := B.exec
  have hb := B.bytes
  have hr := B.returns
  have hts := atoms_spec (ws := wsX5_isParty) B.pre
  have hown : s.vm.findClass RX5 = some m.cls := findClass_of_methodNamed B.named
  have hlocks := B.notSynchronized
  subst hsz
  have hD := hD0.self (sz := s.heap.size)
  generalize hAe : va_A [] s.heap.size = A at hD ⊢
  have hA : ∀ q : Nat, s.heap.size ≤ q → A q := fun q h => by rw [← hAe]; exact Or.inr h
  have hS : va_S A s.heap s.heap [] := va_S.rf
  have hP : va_P (dC, dI) vwCl [] s.heap := hP
  have hK : va_K (dC, dI) vwCl [] s := hK
  have hl := lv_entry ([.int pp]) (n := 1) (Nat.le_of_ble_eq_true rfl)
  rw [lg_entry_eq]
  generalize (lg_sl ([.int pp]) ++ List.replicate (1 - (lg_sl ([.int pp])).length) Slot.unset).toArray = ls at hl ⊢
  have hl : lv_has ls 1 [(0, .int pp)] := hl
  refine lv_iload_n hx hb dX5_isParty_0 rfl (lv_at hl 0 rfl) ?_
  refine lv_if_lt (tgt := 13) hx hb dX5_isParty_1 (by decide) (fun h9 => (h1 h9).elim) (fun _ => ?_)
  refine lv_iload_n hx hb dX5_isParty_4 rfl (lv_at hl 0 rfl) ?_
  refine lv_iconst (v := 4) hx hb dX5_isParty_5 (by decide) ?_
  refine lv_icmp_ge (tgt := 13) hx hb dX5_isParty_6 (by decide) (fun h9 => (h2 h9).elim) (fun _ => ?_)
  refine lv_iconst (v := 1) hx hb dX5_isParty_9 (by decide) ?_
  refine lv_goto (tgt := 14) hx hb dX5_isParty_10 (by decide) ?_
  have hP9 := hP.sub (ws' := []) [] rfl
  have hD9 := hD.sub (ws' := []) [] (by decide) rfl
  have hK9 := hK.sub (tys' := []) [] rfl
  refine W.widen (k := 0) (n := 0) (Nat.le_of_ble_eq_true rfl) (Nat.le_of_ble_eq_true rfl) ?_
  exact W.zret (v := 1) hx hb hr rfl (fun t ht hW => ⟨⟨1, (), rfl, rfl, po_mk ht hW hP9 hK9 hD9⟩, hS.F ht⟩) hS.2.2 dX5_isParty_14

set_option maxHeartbeats 4000000 in
set_option maxRecDepth 100000 in
theorem c0_X5_isParty (l : Launch) (dC : Nat → ClassId) (dI : Nat → Nat → Nat) (pp : Int32) (sz : Nat) (hbd : pp < 0 ∨ 4 ≤ pp) : Met l yX5_isParty wsX5_isParty ({ frames := 2, cells := 0, slots := 0, locals := 40 }) (va_Pc [.int pp] (pr_ dC dI [] [] sz)) (va_Qi (fun (r : Int32) (_ : Unit) => r = 0) (fun (_ : Unit) t => po_ dC dI [] [] (va_A [] sz) t) (va_A [] sz)) 0 0 (va_A [] sz) := by
  refine Met.ofW (cc := cX5_isParty) (maxL := 1) (ret := (some .boolean)) (by decide) rfl ?_
  intro p e s m args below meth c s₁ B hml hv
  obtain ⟨rfl, hsz, hP, hK, hD0⟩ := hv
  have hx := B.exec
  have hb := B.bytes
  have hr := B.returns
  have hts := atoms_spec (ws := wsX5_isParty) B.pre
  have hown : s.vm.findClass RX5 = some m.cls := findClass_of_methodNamed B.named
  have hlocks := B.notSynchronized
  subst hsz
  have hD := hD0.self (sz := s.heap.size)
  generalize hAe : va_A [] s.heap.size = A at hD ⊢
  have hA : ∀ q : Nat, s.heap.size ≤ q → A q := fun q h => by rw [← hAe]; exact Or.inr h
  have hS : va_S A s.heap s.heap [] := va_S.rf
  have hP : va_P (dC, dI) vwCl [] s.heap := hP
  have hK : va_K (dC, dI) vwCl [] s := hK
  have hl := lv_entry ([.int pp]) (n := 1) (Nat.le_of_ble_eq_true rfl)
  rw [lg_entry_eq]
  generalize (lg_sl ([.int pp]) ++ List.replicate (1 - (lg_sl ([.int pp])).length) Slot.unset).toArray = ls at hl ⊢
  have hl : lv_has ls 1 [(0, .int pp)] := hl
  refine lv_iload_n hx hb dX5_isParty_0 rfl (lv_at hl 0 rfl) ?_
  refine lv_if_lt (tgt := 13) hx hb dX5_isParty_1 (by decide) (fun hc_1 => ?_) (fun hc_1 => ?_)
  · refine lv_iconst (v := 0) hx hb dX5_isParty_13 (by decide) ?_
    have hP9 := hP.sub (ws' := []) [] rfl
    have hD9 := hD.sub (ws' := []) [] (by decide) rfl
    have hK9 := hK.sub (tys' := []) [] rfl
    refine W.widen (k := 0) (n := 0) (Nat.le_of_ble_eq_true rfl) (Nat.le_of_ble_eq_true rfl) ?_
    exact W.zret (v := 0) hx hb hr rfl (fun t ht hW => ⟨⟨0, (), rfl, rfl, po_mk ht hW hP9 hK9 hD9⟩, hS.F ht⟩) hS.2.2 dX5_isParty_14
  · refine lv_iload_n hx hb dX5_isParty_4 rfl (lv_at hl 0 rfl) ?_
    refine lv_iconst (v := 4) hx hb dX5_isParty_5 (by decide) ?_
    refine lv_icmp_ge (tgt := 13) hx hb dX5_isParty_6 (by decide) (fun _ => ?_) (fun h9 => (h9 (hbd.resolve_left (by assumption))).elim)
    refine lv_iconst (v := 0) hx hb dX5_isParty_13 (by decide) ?_
    have hP9 := hP.sub (ws' := []) [] rfl
    have hD9 := hD.sub (ws' := []) [] (by decide) rfl
    have hK9 := hK.sub (tys' := []) [] rfl
    refine W.widen (k := 0) (n := 0) (Nat.le_of_ble_eq_true rfl) (Nat.le_of_ble_eq_true rfl) ?_
    exact W.zret (v := 0) hx hb hr rfl (fun t ht hW => ⟨⟨0, (), rfl, rfl, po_mk ht hW hP9 hK9 hD9⟩, hS.F ht⟩) hS.2.2 dX5_isParty_14

set_option maxHeartbeats 4000000 in
set_option maxRecDepth 100000 in
theorem c_X5_checkParty (l : Launch) (dC : Nat → ClassId) (dI : Nat → Nat → Nat) (pp : Int32) (sz : Nat) (h1 : ¬ pp < 0) (h2 : ¬ 4 ≤ pp) : Met l yX5_checkParty wsX5_checkParty ({ frames := 3, cells := 0, slots := 0, locals := 70 }) (va_Pc [.int pp] (pr_ dC dI [] [] sz)) (va_Qv (fun (_ : Unit) => True) (fun (_ : Unit) t => po_ dC dI [] [] (va_A [] sz) t) (va_A [] sz)) 0 0 (va_A [] sz) := by
  refine Met.ofW (cc := cX5_checkParty) (maxL := 1) (ret := none) (by decide) rfl ?_
  intro p e s m args below meth c s₁ B hml hv
  obtain ⟨rfl, hsz, hP, hK, hD0⟩ := hv
  have hx := B.exec
  have hb := B.bytes
  have hr := B.returns
  have hts := atoms_spec (ws := wsX5_checkParty) B.pre
  have hown : s.vm.findClass RX5 = some m.cls := findClass_of_methodNamed B.named
  have hlocks := B.notSynchronized
  subst hsz
  have hD := hD0.self (sz := s.heap.size)
  generalize hAe : va_A [] s.heap.size = A at hD ⊢
  have hA : ∀ q : Nat, s.heap.size ≤ q → A q := fun q h => by rw [← hAe]; exact Or.inr h
  have hS : va_S A s.heap s.heap [] := va_S.rf
  have hP : va_P (dC, dI) vwCl [] s.heap := hP
  have hK : va_K (dC, dI) vwCl [] s := hK
  have hl := lv_entry ([.int pp]) (n := 1) (Nat.le_of_ble_eq_true rfl)
  rw [lg_entry_eq]
  generalize (lg_sl ([.int pp]) ++ List.replicate (1 - (lg_sl ([.int pp])).length) Slot.unset).toArray = ls at hl ⊢
  have hl : lv_has ls 1 [(0, .int pp)] := hl
  refine lv_iload_n hx hb dX5_checkParty_0 rfl (lv_at hl 0 rfl) ?_
  have hPc := hP.sub (ws' := []) [] rfl
  have hDc := hD.sub (ws' := []) [] (by decide) rfl
  have hKc := hK.sub (tys' := []) [] rfl
  have hFc := va_free (wc := []) hD hS hA [] rfl
  refine va_calli (va_runS (As := [.int pp]) (rest := []) ⟨hx, hb, hml, hown, hts⟩ (c_X5_isParty l dC dI pp _ h1 h2) (va_cwS 1 hts gX5_checkParty_X5_isParty rfl rfl rfl (by decide +kernel) ⟨Nat.le_of_ble_eq_true rfl, Nat.le_of_ble_eq_true rfl⟩) ⟨pr_blind, fun U hU hW => ⟨rfl, pr_mk hU hW hPc hKc hDc⟩⟩ rfl rfl hl.1 rfl (lv_room (Nat.le_of_ble_eq_true rfl)) dX5_checkParty_1 ⟨Nat.le_of_ble_eq_true rfl, Nat.le_of_ble_eq_true rfl⟩) hS (fun q _ h => hFc q h) hFc (fun r_2 u_1 t H1 locs ht hvm hw hB hz1 hk1 hS => ?_)
  obtain ⟨hP1, hK1, hD1⟩ := hB
  rw [ht] at hP1
  obtain ⟨hP, hD⟩ := va_join (wr := []) (w1 := []) hP hD [] [] rfl rfl (by decide) (by decide) hk1 hFc hP1 hD1
  generalize H1 = H at hP hS ⊢
  have hP : va_P (dC, dI) vwCl [] H := hP
  have hD : va_D A [] := hD
  refine W.widen (k := 0) (n := 0) (Nat.le_refl _) (Nat.le_refl _) ?_
  have hw : r_2 = 1 := hw
  subst hw
  refine lv_if_ne (tgt := 17) hx hb dX5_checkParty_4 (by decide) (fun _ => ?_) (fun h9 => absurd h9 (by decide))
  have hP9 := hP.sub (ws' := []) [] rfl
  have hD9 := hD.sub (ws' := []) [] (by decide) rfl
  have hK9 := hK.sub (tys' := []) [] rfl
  refine W.widen (k := 0) (n := 0) (Nat.le_of_ble_eq_true rfl) (Nat.le_of_ble_eq_true rfl) ?_
  exact W.vret hx hb hr (fun t ht hW => ⟨⟨(), rfl, trivial, po_mk ht hW hP9 hK9 hD9⟩, hS.F ht⟩) hS.2.2 dX5_checkParty_17

set_option maxHeartbeats 4000000 in
set_option maxRecDepth 100000 in
theorem c_X5_checkHouse (l : Launch) (dC : Nat → ClassId) (dI : Nat → Nat → Nat) (ho : Int32) (sz : Nat) (h1 : ¬ ho < 1) (h2 : ho ≤ 60) : Met l yX5_checkHouse wsX5_checkHouse ({ frames := 2, cells := 0, slots := 0, locals := 40 }) (va_Pc [.int ho] (pr_ dC dI [] [] sz)) (va_Qv (fun (_ : Unit) => True) (fun (_ : Unit) t => po_ dC dI [] [] (va_A [] sz) t) (va_A [] sz)) 0 0 (va_A [] sz) := by
  refine Met.ofW (cc := cX5_checkHouse) (maxL := 1) (ret := none) (by decide) rfl ?_
  intro p e s m args below meth c s₁ B hml hv
  obtain ⟨rfl, hsz, hP, hK, hD0⟩ := hv
  have hx := B.exec
  have hb := B.bytes
  have hr := B.returns
  have hts := atoms_spec (ws := wsX5_checkHouse) B.pre
  have hown : s.vm.findClass RX5 = some m.cls := findClass_of_methodNamed B.named
  have hlocks := B.notSynchronized
  subst hsz
  have hD := hD0.self (sz := s.heap.size)
  generalize hAe : va_A [] s.heap.size = A at hD ⊢
  have hA : ∀ q : Nat, s.heap.size ≤ q → A q := fun q h => by rw [← hAe]; exact Or.inr h
  have hS : va_S A s.heap s.heap [] := va_S.rf
  have hP : va_P (dC, dI) vwCl [] s.heap := hP
  have hK : va_K (dC, dI) vwCl [] s := hK
  have hl := lv_entry ([.int ho]) (n := 1) (Nat.le_of_ble_eq_true rfl)
  rw [lg_entry_eq]
  generalize (lg_sl ([.int ho]) ++ List.replicate (1 - (lg_sl ([.int ho])).length) Slot.unset).toArray = ls at hl ⊢
  have hl : lv_has ls 1 [(0, .int ho)] := hl
  refine lv_iload_n hx hb dX5_checkHouse_0 rfl (lv_at hl 0 rfl) ?_
  refine lv_iconst (v := 1) hx hb dX5_checkHouse_1 (by decide) ?_
  refine lv_icmp_lt (tgt := 11) hx hb dX5_checkHouse_2 (by decide) (fun h9 => (h1 h9).elim) (fun _ => ?_)
  refine lv_iload_n hx hb dX5_checkHouse_5 rfl (lv_at hl 0 rfl) ?_
  refine lv_bipush (v := 60) hx hb dX5_checkHouse_6 (by decide) ?_
  refine lv_icmp_le (tgt := 22) hx hb dX5_checkHouse_8 (by decide) (fun _ => ?_) (fun h9 => (h9 h2).elim)
  have hP9 := hP.sub (ws' := []) [] rfl
  have hD9 := hD.sub (ws' := []) [] (by decide) rfl
  have hK9 := hK.sub (tys' := []) [] rfl
  refine W.widen (k := 0) (n := 0) (Nat.le_of_ble_eq_true rfl) (Nat.le_of_ble_eq_true rfl) ?_
  exact W.vret hx hb hr (fun t ht hW => ⟨⟨(), rfl, trivial, po_mk ht hW hP9 hK9 hD9⟩, hS.F ht⟩) hS.2.2 dX5_checkHouse_22

set_option maxHeartbeats 4000000 in
set_option maxRecDepth 100000 in
theorem c_X5_checkRule (l : Launch) (dC : Nat → ClassId) (dI : Nat → Nat → Nat) (ru : Int32) (sz : Nat) (h1 : ¬ ru < 0) (h2 : ru ≤ 2) : Met l yX5_checkRule wsX5_checkRule ({ frames := 2, cells := 0, slots := 0, locals := 40 }) (va_Pc [.int ru] (pr_ dC dI [] [] sz)) (va_Qv (fun (_ : Unit) => True) (fun (_ : Unit) t => po_ dC dI [] [] (va_A [] sz) t) (va_A [] sz)) 0 0 (va_A [] sz) := by
  refine Met.ofW (cc := cX5_checkRule) (maxL := 1) (ret := none) (by decide) rfl ?_
  intro p e s m args below meth c s₁ B hml hv
  obtain ⟨rfl, hsz, hP, hK, hD0⟩ := hv
  have hx := B.exec
  have hb := B.bytes
  have hr := B.returns
  have hts := atoms_spec (ws := wsX5_checkRule) B.pre
  have hown : s.vm.findClass RX5 = some m.cls := findClass_of_methodNamed B.named
  have hlocks := B.notSynchronized
  subst hsz
  have hD := hD0.self (sz := s.heap.size)
  generalize hAe : va_A [] s.heap.size = A at hD ⊢
  have hA : ∀ q : Nat, s.heap.size ≤ q → A q := fun q h => by rw [← hAe]; exact Or.inr h
  have hS : va_S A s.heap s.heap [] := va_S.rf
  have hP : va_P (dC, dI) vwCl [] s.heap := hP
  have hK : va_K (dC, dI) vwCl [] s := hK
  have hl := lv_entry ([.int ru]) (n := 1) (Nat.le_of_ble_eq_true rfl)
  rw [lg_entry_eq]
  generalize (lg_sl ([.int ru]) ++ List.replicate (1 - (lg_sl ([.int ru])).length) Slot.unset).toArray = ls at hl ⊢
  have hl : lv_has ls 1 [(0, .int ru)] := hl
  refine lv_iload_n hx hb dX5_checkRule_0 rfl (lv_at hl 0 rfl) ?_
  refine lv_if_lt (tgt := 9) hx hb dX5_checkRule_1 (by decide) (fun h9 => (h1 h9).elim) (fun _ => ?_)
  refine lv_iload_n hx hb dX5_checkRule_4 rfl (lv_at hl 0 rfl) ?_
  refine lv_iconst (v := 2) hx hb dX5_checkRule_5 (by decide) ?_
  refine lv_icmp_le (tgt := 20) hx hb dX5_checkRule_6 (by decide) (fun _ => ?_) (fun h9 => (h9 h2).elim)
  have hP9 := hP.sub (ws' := []) [] rfl
  have hD9 := hD.sub (ws' := []) [] (by decide) rfl
  have hK9 := hK.sub (tys' := []) [] rfl
  refine W.widen (k := 0) (n := 0) (Nat.le_of_ble_eq_true rfl) (Nat.le_of_ble_eq_true rfl) ?_
  exact W.vret hx hb hr (fun t ht hW => ⟨⟨(), rfl, trivial, po_mk ht hW hP9 hK9 hD9⟩, hS.F ht⟩) hS.2.2 dX5_checkRule_20

set_option maxHeartbeats 4000000 in
set_option maxRecDepth 100000 in
theorem c_X5_checkWhat (l : Launch) (dC : Nat → ClassId) (dI : Nat → Nat → Nat) (wh : Int32) (la : Int32) (sz : Nat) (h1 : ¬ wh < 0) (h2 : wh ≤ la) : Met l yX5_checkWhat wsX5_checkWhat ({ frames := 2, cells := 0, slots := 0, locals := 40 }) (va_Pc [.int wh, .int la] (pr_ dC dI [] [] sz)) (va_Qv (fun (_ : Unit) => True) (fun (_ : Unit) t => po_ dC dI [] [] (va_A [] sz) t) (va_A [] sz)) 0 0 (va_A [] sz) := by
  refine Met.ofW (cc := cX5_checkWhat) (maxL := 2) (ret := none) (by decide) rfl ?_
  intro p e s m args below meth c s₁ B hml hv
  obtain ⟨rfl, hsz, hP, hK, hD0⟩ := hv
  have hx := B.exec
  have hb := B.bytes
  have hr := B.returns
  have hts := atoms_spec (ws := wsX5_checkWhat) B.pre
  have hown : s.vm.findClass RX5 = some m.cls := findClass_of_methodNamed B.named
  have hlocks := B.notSynchronized
  subst hsz
  have hD := hD0.self (sz := s.heap.size)
  generalize hAe : va_A [] s.heap.size = A at hD ⊢
  have hA : ∀ q : Nat, s.heap.size ≤ q → A q := fun q h => by rw [← hAe]; exact Or.inr h
  have hS : va_S A s.heap s.heap [] := va_S.rf
  have hP : va_P (dC, dI) vwCl [] s.heap := hP
  have hK : va_K (dC, dI) vwCl [] s := hK
  have hl := lv_entry ([.int wh, .int la]) (n := 2) (Nat.le_of_ble_eq_true rfl)
  rw [lg_entry_eq]
  generalize (lg_sl ([.int wh, .int la]) ++ List.replicate (2 - (lg_sl ([.int wh, .int la])).length) Slot.unset).toArray = ls at hl ⊢
  have hl : lv_has ls 2 [(0, .int wh), (1, .int la)] := hl
  refine lv_iload_n hx hb dX5_checkWhat_0 rfl (lv_at hl 0 rfl) ?_
  refine lv_if_lt (tgt := 9) hx hb dX5_checkWhat_1 (by decide) (fun h9 => (h1 h9).elim) (fun _ => ?_)
  refine lv_iload_n hx hb dX5_checkWhat_4 rfl (lv_at hl 0 rfl) ?_
  refine lv_iload_n hx hb dX5_checkWhat_5 rfl (lv_at hl 1 rfl) ?_
  refine lv_icmp_le (tgt := 20) hx hb dX5_checkWhat_6 (by decide) (fun _ => ?_) (fun h9 => (h9 h2).elim)
  have hP9 := hP.sub (ws' := []) [] rfl
  have hD9 := hD.sub (ws' := []) [] (by decide) rfl
  have hK9 := hK.sub (tys' := []) [] rfl
  refine W.widen (k := 0) (n := 0) (Nat.le_of_ble_eq_true rfl) (Nat.le_of_ble_eq_true rfl) ?_
  exact W.vret hx hb hr (fun t ht hW => ⟨⟨(), rfl, trivial, po_mk ht hW hP9 hK9 hD9⟩, hS.F ht⟩) hS.2.2 dX5_checkWhat_20

set_option maxHeartbeats 4000000 in
set_option maxRecDepth 100000 in
theorem c_X5_candidate (l : Launch) (dC : Nat → ClassId) (dI : Nat → Nat → Nat) (x : Nat) (po : Nat) (tr : Nat) (sp : Nat) (pa : Nat) (bx : Nat) (b0 : Nat) (b1 : Nat) (b4 : Nat) (b6 : Nat) (cI : ClassId) (cZ : ClassId) (a0 : Int32) (sz : Nat) (g0a : ¬ a0 < 0) (g0b : ¬ 4 ≤ a0) : Met l yX5_candidate wsX5_candidate ({ frames := 6, cells := 0, slots := 0, locals := 170 }) (va_Pc [.ref x, .int a0] (pr_ dC dI [(x, .inr (7, [.ref bx, .ref po, .ref tr, .ref pa, .ref sp])), (bx, .inr (2, [.ref b0, .ref b1, .int 0, .int 0, .ref b4, .int 0, .ref b6, .int 0, .int 0, .int 0, .int 0])), (b0, .inl (cI, 6, .inl zi)), (b1, .inl (cZ, 6, .inl zi))] [(cI, .int), (cZ, .boolean)] sz)) (va_Qi (fun (r : Int32) (_ : Unit) => r = 0) (fun (_ : Unit) t => po_ dC dI [] [(cI, .int), (cZ, .boolean)] (va_A [(x, .inr (7, [.ref bx, .ref po, .ref tr, .ref pa, .ref sp])), (bx, .inr (2, [.ref b0, .ref b1, .int 0, .int 0, .ref b4, .int 0, .ref b6, .int 0, .int 0, .int 0, .int 0])), (b0, .inl (cI, 6, .inl zi)), (b1, .inl (cZ, 6, .inl zi))] sz) t) (va_A [(x, .inr (7, [.ref bx, .ref po, .ref tr, .ref pa, .ref sp])), (bx, .inr (2, [.ref b0, .ref b1, .int 0, .int 0, .ref b4, .int 0, .ref b6, .int 0, .int 0, .int 0, .int 0])), (b0, .inl (cI, 6, .inl zi)), (b1, .inl (cZ, 6, .inl zi))] sz)) 0 0 (va_A [(x, .inr (7, [.ref bx, .ref po, .ref tr, .ref pa, .ref sp])), (bx, .inr (2, [.ref b0, .ref b1, .int 0, .int 0, .ref b4, .int 0, .ref b6, .int 0, .int 0, .int 0, .int 0])), (b0, .inl (cI, 6, .inl zi)), (b1, .inl (cZ, 6, .inl zi))] sz) := by
  refine Met.ofW (cc := cX5_candidate) (maxL := 2) (ret := (some .int)) (by decide) rfl ?_
  intro p e s m args below meth c s₁ B hml hv
  obtain ⟨rfl, hsz, hP, hK, hD0⟩ := hv
  have hx := B.exec
  have hb := B.bytes
  have hr := B.returns
  have hts := atoms_spec (ws := wsX5_candidate) B.pre
  have hown : s.vm.findClass RX5 = some m.cls := findClass_of_methodNamed B.named
  have hlocks := B.notSynchronized
  subst hsz
  have hD := hD0.self (sz := s.heap.size)
  generalize hAe : va_A [(x, .inr (7, [.ref bx, .ref po, .ref tr, .ref pa, .ref sp])), (bx, .inr (2, [.ref b0, .ref b1, .int 0, .int 0, .ref b4, .int 0, .ref b6, .int 0, .int 0, .int 0, .int 0])), (b0, .inl (cI, 6, .inl zi)), (b1, .inl (cZ, 6, .inl zi))] s.heap.size = A at hD ⊢
  have hA : ∀ q : Nat, s.heap.size ≤ q → A q := fun q h => by rw [← hAe]; exact Or.inr h
  have hS : va_S A s.heap s.heap [] := va_S.rf
  have hP : va_P (dC, dI) vwCl [(x, .inr (7, [.ref bx, .ref po, .ref tr, .ref pa, .ref sp])), (bx, .inr (2, [.ref b0, .ref b1, .int 0, .int 0, .ref b4, .int 0, .ref b6, .int 0, .int 0, .int 0, .int 0])), (b0, .inl (cI, 6, .inl zi)), (b1, .inl (cZ, 6, .inl zi))] s.heap := hP
  have hK : va_K (dC, dI) vwCl [(cI, .int), (cZ, .boolean)] s := hK
  have hl := lv_entry ([.ref x, .int a0]) (n := 2) (Nat.le_of_ble_eq_true rfl)
  rw [lg_entry_eq]
  generalize (lg_sl ([.ref x, .int a0]) ++ List.replicate (2 - (lg_sl ([.ref x, .int a0])).length) Slot.unset).toArray = ls at hl ⊢
  have hl : lv_has ls 2 [(0, .ref x), (1, .int a0)] := hl
  refine lv_iload_n hx hb dX5_candidate_0 rfl (lv_at hl 1 rfl) ?_
  have hPc := hP.sub (ws' := []) [] rfl
  have hDc := hD.sub (ws' := []) [] (by decide) rfl
  have hKc := hK.sub (tys' := []) [] rfl
  have hFc := va_free (wc := []) hD hS hA [] rfl
  refine va_calli (va_runS (As := [.int a0]) (rest := []) ⟨hx, hb, hml, hown, hts⟩ (c_X5_isParty l dC dI a0 _ g0a g0b) (va_cwS 1 hts gX5_candidate_X5_isParty rfl rfl rfl (by decide +kernel) ⟨Nat.le_of_ble_eq_true rfl, Nat.le_of_ble_eq_true rfl⟩) ⟨pr_blind, fun U hU hW => ⟨rfl, pr_mk hU hW hPc hKc hDc⟩⟩ rfl rfl hl.1 rfl (lv_room (Nat.le_of_ble_eq_true rfl)) dX5_candidate_1 ⟨Nat.le_of_ble_eq_true rfl, Nat.le_of_ble_eq_true rfl⟩) hS (fun q _ h => hFc q h) hFc (fun r_2 u_1 t H1 locs ht hvm hw hB hz1 hk1 hS => ?_)
  obtain ⟨hP1, hK1, hD1⟩ := hB
  rw [ht] at hP1
  obtain ⟨hP, hD⟩ := va_join (wr := [(x, .inr (7, [.ref bx, .ref po, .ref tr, .ref pa, .ref sp])), (bx, .inr (2, [.ref b0, .ref b1, .int 0, .int 0, .ref b4, .int 0, .ref b6, .int 0, .int 0, .int 0, .int 0])), (b0, .inl (cI, 6, .inl zi)), (b1, .inl (cZ, 6, .inl zi))]) (w1 := []) hP hD [] [0, 1, 2, 3] rfl rfl (by decide) (by decide) hk1 hFc hP1 hD1
  generalize H1 = H at hP hS ⊢
  have hP : va_P (dC, dI) vwCl [(x, .inr (7, [.ref bx, .ref po, .ref tr, .ref pa, .ref sp])), (bx, .inr (2, [.ref b0, .ref b1, .int 0, .int 0, .ref b4, .int 0, .ref b6, .int 0, .int 0, .int 0, .int 0])), (b0, .inl (cI, 6, .inl zi)), (b1, .inl (cZ, 6, .inl zi))] H := hP
  have hD : va_D A [(x, .inr (7, [.ref bx, .ref po, .ref tr, .ref pa, .ref sp])), (bx, .inr (2, [.ref b0, .ref b1, .int 0, .int 0, .ref b4, .int 0, .ref b6, .int 0, .int 0, .int 0, .int 0])), (b0, .inl (cI, 6, .inl zi)), (b1, .inl (cZ, 6, .inl zi))] := hD
  refine W.widen (k := 0) (n := 0) (Nat.le_refl _) (Nat.le_refl _) ?_
  have hw : r_2 = 1 := hw
  subst hw
  refine lv_if_ne (tgt := 17) hx hb dX5_candidate_4 (by decide) (fun _ => ?_) (fun h9 => absurd h9 (by decide))
  refine lv_aload_n hx hb dX5_candidate_17 rfl (lv_at hl 0 rfl) ?_
  have hinX5 : ∀ w ∈ u_ws RX5 TX5 5, w ∈ wsX5_candidate := by decide +kernel
  refine va_get (D := (dC, dI)) (ci := 7) (v := .ref bx) (C := RX5) (T := TX5) (N := 5) hx hb hts hinX5 hown hK hP 0 rfl rfl 0 (by decide) (hts (.fieldLink RX5 10 "BallotLoom" "box" "LBallotLoom$Box;") (by decide +kernel)) (fun _ h9 => h9) rfl dX5_candidate_18 ?_
  have hinX0 : ∀ w ∈ u_ws RX0 TX0 11, w ∈ wsX5_candidate := by decide +kernel
  refine va_get (D := (dC, dI)) (ci := 2) (v := .int 0) (C := RX0) (T := TX0) (N := 11) hx hb hts hinX0 hown hK hP 1 rfl rfl 2 (by decide) (hts (.fieldLink RX5 55 "BallotLoom$Box" "candidates" "I") (by decide +kernel)) (fun _ h9 => h9) rfl dX5_candidate_21 ?_
  refine lv_bipush (v := 6) hx hb dX5_candidate_24 (by decide) ?_
  refine lv_icmp_lt (tgt := 39) hx hb dX5_candidate_26 (by decide) (fun _ => ?_) (fun h9 => absurd h9 (by decide))
  refine lv_aload_n hx hb dX5_candidate_39 rfl (lv_at hl 0 rfl) ?_
  refine va_get (D := (dC, dI)) (ci := 7) (v := .ref bx) (C := RX5) (T := TX5) (N := 5) hx hb hts hinX5 hown hK hP 0 rfl rfl 0 (by decide) (hts (.fieldLink RX5 10 "BallotLoom" "box" "LBallotLoom$Box;") (by decide +kernel)) (fun _ h9 => h9) rfl dX5_candidate_40 ?_
  refine lv_iload_n hx hb dX5_candidate_43 rfl (lv_at hl 1 rfl) ?_
  have hPc := hP.sub (ws' := [(bx, .inr (2, [.ref b0, .ref b1, .int 0, .int 0, .ref b4, .int 0, .ref b6, .int 0, .int 0, .int 0, .int 0])), (b0, .inl (cI, 6, .inl zi)), (b1, .inl (cZ, 6, .inl zi))]) [1, 2, 3] rfl
  have hDc := hD.sub (ws' := [(bx, .inr (2, [.ref b0, .ref b1, .int 0, .int 0, .ref b4, .int 0, .ref b6, .int 0, .int 0, .int 0, .int 0])), (b0, .inl (cI, 6, .inl zi)), (b1, .inl (cZ, 6, .inl zi))]) [1, 2, 3] (by decide) rfl
  have hKc := hK.sub (tys' := [(cI, .int), (cZ, .boolean)]) [0, 1] rfl
  have hFc := va_free (wc := [(bx, .inr (2, [.ref b0, .ref b1, .int 0, .int 0, .ref b4, .int 0, .ref b6, .int 0, .int 0, .int 0, .int 0])), (b0, .inl (cI, 6, .inl zi)), (b1, .inl (cZ, 6, .inl zi))]) hD hS hA [1, 2, 3] rfl
  refine va_calli (va_runV (As := [.int a0]) (rest := []) ⟨hx, hb, hml, hown, hts⟩ (c_X0_addCandidate l dC dI bx b0 b1 b4 b6 a0 cI cZ _ ) (cwV 1 hts gX5_candidate_X0_addCandidate rfl rfl rfl (by decide +kernel) ⟨Nat.le_of_ble_eq_true rfl, Nat.le_of_ble_eq_true rfl⟩) ⟨pr_blind, va_recv hKc hPc (ci := 2) (q0 := 0) rfl rfl, fun U hU hW => ⟨rfl, pr_mk hU hW hPc hKc hDc⟩⟩ rfl rfl hl.1 rfl (lv_room (Nat.le_of_ble_eq_true rfl)) dX5_candidate_44 ⟨Nat.le_of_ble_eq_true rfl, Nat.le_of_ble_eq_true rfl⟩) hS (fun q _ h => hFc q h) hFc (fun r_4 u_3 t H1 locs ht hvm hw hB hz1 hk1 hS => ?_)
  obtain ⟨hP1, hK1, hD1⟩ := hB
  rw [ht] at hP1
  obtain ⟨hP, hD⟩ := va_join (wr := [(x, .inr (7, [.ref bx, .ref po, .ref tr, .ref pa, .ref sp]))]) (w1 := []) hP hD [1, 2, 3] [0] rfl rfl (by decide) (by decide) hk1 hFc hP1 hD1
  generalize H1 = H at hP hS ⊢
  have hP : va_P (dC, dI) vwCl [(x, .inr (7, [.ref bx, .ref po, .ref tr, .ref pa, .ref sp]))] H := hP
  have hD : va_D A [(x, .inr (7, [.ref bx, .ref po, .ref tr, .ref pa, .ref sp]))] := hD
  refine W.widen (k := 0) (n := 0) (Nat.le_refl _) (Nat.le_refl _) ?_
  have hw : r_4 = 0 := hw
  subst hw
  have hP9 := hP.sub (ws' := []) [] rfl
  have hD9 := hD.sub (ws' := []) [] (by decide) rfl
  have hK9 := hK.sub (tys' := [(cI, .int), (cZ, .boolean)]) [0, 1] rfl
  refine W.widen (k := 0) (n := 0) (Nat.le_of_ble_eq_true rfl) (Nat.le_of_ble_eq_true rfl) ?_
  exact W.iret (v := 0) hx hb hr (fun t ht hW => ⟨⟨0, (), rfl, rfl, po_mk ht hW hP9 hK9 hD9⟩, hS.F ht⟩) hS.2.2 dX5_candidate_47

set_option maxHeartbeats 4000000 in
set_option maxRecDepth 100000 in
theorem c_X5_district (l : Launch) (dC : Nat → ClassId) (dI : Nat → Nat → Nat) (x : Nat) (po : Nat) (tr : Nat) (sp : Nat) (pa : Nat) (bx : Nat) (b0 : Nat) (b1 : Nat) (b4 : Nat) (b6 : Nat) (cI : ClassId) (a0 : Int32) (sz : Nat) (g0a : ¬ a0 < 1) (g0b : a0 ≤ 5) : Met l yX5_district wsX5_district ({ frames := 6, cells := 0, slots := 0, locals := 170 }) (va_Pc [.ref x, .int a0] (pr_ dC dI [(x, .inr (7, [.ref bx, .ref po, .ref tr, .ref pa, .ref sp])), (bx, .inr (2, [.ref b0, .ref b1, .int 0, .int 0, .ref b4, .int 0, .ref b6, .int 0, .int 0, .int 0, .int 0])), (b4, .inl (cI, 4, .inl zi))] [(cI, .int)] sz)) (va_Qi (fun (r : Int32) (_ : Unit) => r = 0) (fun (_ : Unit) t => po_ dC dI [] [(cI, .int)] (va_A [(x, .inr (7, [.ref bx, .ref po, .ref tr, .ref pa, .ref sp])), (bx, .inr (2, [.ref b0, .ref b1, .int 0, .int 0, .ref b4, .int 0, .ref b6, .int 0, .int 0, .int 0, .int 0])), (b4, .inl (cI, 4, .inl zi))] sz) t) (va_A [(x, .inr (7, [.ref bx, .ref po, .ref tr, .ref pa, .ref sp])), (bx, .inr (2, [.ref b0, .ref b1, .int 0, .int 0, .ref b4, .int 0, .ref b6, .int 0, .int 0, .int 0, .int 0])), (b4, .inl (cI, 4, .inl zi))] sz)) 0 0 (va_A [(x, .inr (7, [.ref bx, .ref po, .ref tr, .ref pa, .ref sp])), (bx, .inr (2, [.ref b0, .ref b1, .int 0, .int 0, .ref b4, .int 0, .ref b6, .int 0, .int 0, .int 0, .int 0])), (b4, .inl (cI, 4, .inl zi))] sz) := by
  refine Met.ofW (cc := cX5_district) (maxL := 2) (ret := (some .int)) (by decide) rfl ?_
  intro p e s m args below meth c s₁ B hml hv
  obtain ⟨rfl, hsz, hP, hK, hD0⟩ := hv
  have hx := B.exec
  have hb := B.bytes
  have hr := B.returns
  have hts := atoms_spec (ws := wsX5_district) B.pre
  have hown : s.vm.findClass RX5 = some m.cls := findClass_of_methodNamed B.named
  have hlocks := B.notSynchronized
  subst hsz
  have hD := hD0.self (sz := s.heap.size)
  generalize hAe : va_A [(x, .inr (7, [.ref bx, .ref po, .ref tr, .ref pa, .ref sp])), (bx, .inr (2, [.ref b0, .ref b1, .int 0, .int 0, .ref b4, .int 0, .ref b6, .int 0, .int 0, .int 0, .int 0])), (b4, .inl (cI, 4, .inl zi))] s.heap.size = A at hD ⊢
  have hA : ∀ q : Nat, s.heap.size ≤ q → A q := fun q h => by rw [← hAe]; exact Or.inr h
  have hS : va_S A s.heap s.heap [] := va_S.rf
  have hP : va_P (dC, dI) vwCl [(x, .inr (7, [.ref bx, .ref po, .ref tr, .ref pa, .ref sp])), (bx, .inr (2, [.ref b0, .ref b1, .int 0, .int 0, .ref b4, .int 0, .ref b6, .int 0, .int 0, .int 0, .int 0])), (b4, .inl (cI, 4, .inl zi))] s.heap := hP
  have hK : va_K (dC, dI) vwCl [(cI, .int)] s := hK
  have hl := lv_entry ([.ref x, .int a0]) (n := 2) (Nat.le_of_ble_eq_true rfl)
  rw [lg_entry_eq]
  generalize (lg_sl ([.ref x, .int a0]) ++ List.replicate (2 - (lg_sl ([.ref x, .int a0])).length) Slot.unset).toArray = ls at hl ⊢
  have hl : lv_has ls 2 [(0, .ref x), (1, .int a0)] := hl
  refine lv_iload_n hx hb dX5_district_0 rfl (lv_at hl 1 rfl) ?_
  refine lv_iconst (v := 1) hx hb dX5_district_1 (by decide) ?_
  refine lv_icmp_lt (tgt := 10) hx hb dX5_district_2 (by decide) (fun h9 => (g0a h9).elim) (fun _ => ?_)
  refine lv_iload_n hx hb dX5_district_5 rfl (lv_at hl 1 rfl) ?_
  refine lv_iconst (v := 5) hx hb dX5_district_6 (by decide) ?_
  refine lv_icmp_le (tgt := 20) hx hb dX5_district_7 (by decide) (fun _ => ?_) (fun h9 => (h9 g0b).elim)
  refine lv_aload_n hx hb dX5_district_20 rfl (lv_at hl 0 rfl) ?_
  have hinX5 : ∀ w ∈ u_ws RX5 TX5 5, w ∈ wsX5_district := by decide +kernel
  refine va_get (D := (dC, dI)) (ci := 7) (v := .ref bx) (C := RX5) (T := TX5) (N := 5) hx hb hts hinX5 hown hK hP 0 rfl rfl 0 (by decide) (hts (.fieldLink RX5 10 "BallotLoom" "box" "LBallotLoom$Box;") (by decide +kernel)) (fun _ h9 => h9) rfl dX5_district_21 ?_
  have hinX0 : ∀ w ∈ u_ws RX0 TX0 11, w ∈ wsX5_district := by decide +kernel
  refine va_get (D := (dC, dI)) (ci := 2) (v := .int 0) (C := RX0) (T := TX0) (N := 11) hx hb hts hinX0 hown hK hP 1 rfl rfl 5 (by decide) (hts (.fieldLink RX5 86 "BallotLoom$Box" "districts" "I") (by decide +kernel)) (fun _ h9 => h9) rfl dX5_district_24 ?_
  refine lv_iconst (v := 4) hx hb dX5_district_27 (by decide) ?_
  refine lv_icmp_lt (tgt := 41) hx hb dX5_district_28 (by decide) (fun _ => ?_) (fun h9 => absurd h9 (by decide))
  refine lv_aload_n hx hb dX5_district_41 rfl (lv_at hl 0 rfl) ?_
  refine va_get (D := (dC, dI)) (ci := 7) (v := .ref bx) (C := RX5) (T := TX5) (N := 5) hx hb hts hinX5 hown hK hP 0 rfl rfl 0 (by decide) (hts (.fieldLink RX5 10 "BallotLoom" "box" "LBallotLoom$Box;") (by decide +kernel)) (fun _ h9 => h9) rfl dX5_district_42 ?_
  refine lv_iload_n hx hb dX5_district_45 rfl (lv_at hl 1 rfl) ?_
  have hPc := hP.sub (ws' := [(bx, .inr (2, [.ref b0, .ref b1, .int 0, .int 0, .ref b4, .int 0, .ref b6, .int 0, .int 0, .int 0, .int 0])), (b4, .inl (cI, 4, .inl zi))]) [1, 2] rfl
  have hDc := hD.sub (ws' := [(bx, .inr (2, [.ref b0, .ref b1, .int 0, .int 0, .ref b4, .int 0, .ref b6, .int 0, .int 0, .int 0, .int 0])), (b4, .inl (cI, 4, .inl zi))]) [1, 2] (by decide) rfl
  have hKc := hK.sub (tys' := [(cI, .int)]) [0] rfl
  have hFc := va_free (wc := [(bx, .inr (2, [.ref b0, .ref b1, .int 0, .int 0, .ref b4, .int 0, .ref b6, .int 0, .int 0, .int 0, .int 0])), (b4, .inl (cI, 4, .inl zi))]) hD hS hA [1, 2] rfl
  refine va_calli (va_runV (As := [.int a0]) (rest := []) ⟨hx, hb, hml, hown, hts⟩ (c_X0_addDistrict l dC dI bx b0 b1 b4 b6 a0 cI _ ) (cwV 1 hts gX5_district_X0_addDistrict rfl rfl rfl (by decide +kernel) ⟨Nat.le_of_ble_eq_true rfl, Nat.le_of_ble_eq_true rfl⟩) ⟨pr_blind, va_recv hKc hPc (ci := 2) (q0 := 0) rfl rfl, fun U hU hW => ⟨rfl, pr_mk hU hW hPc hKc hDc⟩⟩ rfl rfl hl.1 rfl (lv_room (Nat.le_of_ble_eq_true rfl)) dX5_district_46 ⟨Nat.le_of_ble_eq_true rfl, Nat.le_of_ble_eq_true rfl⟩) hS (fun q _ h => hFc q h) hFc (fun r_2 u_1 t H1 locs ht hvm hw hB hz1 hk1 hS => ?_)
  obtain ⟨hP1, hK1, hD1⟩ := hB
  rw [ht] at hP1
  obtain ⟨hP, hD⟩ := va_join (wr := [(x, .inr (7, [.ref bx, .ref po, .ref tr, .ref pa, .ref sp]))]) (w1 := []) hP hD [1, 2] [0] rfl rfl (by decide) (by decide) hk1 hFc hP1 hD1
  generalize H1 = H at hP hS ⊢
  have hP : va_P (dC, dI) vwCl [(x, .inr (7, [.ref bx, .ref po, .ref tr, .ref pa, .ref sp]))] H := hP
  have hD : va_D A [(x, .inr (7, [.ref bx, .ref po, .ref tr, .ref pa, .ref sp]))] := hD
  refine W.widen (k := 0) (n := 0) (Nat.le_refl _) (Nat.le_refl _) ?_
  have hw : r_2 = 0 := hw
  subst hw
  have hP9 := hP.sub (ws' := []) [] rfl
  have hD9 := hD.sub (ws' := []) [] (by decide) rfl
  have hK9 := hK.sub (tys' := [(cI, .int)]) [0] rfl
  refine W.widen (k := 0) (n := 0) (Nat.le_of_ble_eq_true rfl) (Nat.le_of_ble_eq_true rfl) ?_
  exact W.iret (v := 0) hx hb hr (fun t ht hW => ⟨⟨0, (), rfl, rfl, po_mk ht hW hP9 hK9 hD9⟩, hS.F ht⟩) hS.2.2 dX5_district_49

set_option maxHeartbeats 4000000 in
set_option maxRecDepth 100000 in
theorem c_X5_threshold (l : Launch) (dC : Nat → ClassId) (dI : Nat → Nat → Nat) (x : Nat) (po : Nat) (tr : Nat) (sp : Nat) (bx : Nat) (b0 : Nat) (b1 : Nat) (b4 : Nat) (b6 : Nat) (pa : Nat) (p_v : Nat) (p_st : Nat) (p_ib : Nat) (p_di : Nat) (p_wa : Nat) (p_se : Nat) (p_vh : Nat) (p_re : Nat) (cI : ClassId) (cZ : ClassId) (a0 : Int32) (sz : Nat) (g0a : ¬ a0 < 0) (g0b : a0 ≤ 20) : Met l yX5_threshold wsX5_threshold ({ frames := 6, cells := 0, slots := 0, locals := 170 }) (va_Pc [.ref x, .int a0] (pr_ dC dI [(x, .inr (7, [.ref bx, .ref po, .ref tr, .ref pa, .ref sp])), (bx, .inr (2, [.ref b0, .ref b1, .int 0, .int 0, .ref b4, .int 0, .ref b6, .int 0, .int 0, .int 0, .int 0])), (pa, .inr (3, [.ref p_v, .int 0, .ref p_st, .ref p_ib, .ref p_di, .ref p_wa, .ref p_se, .ref p_vh, .ref p_re])), (p_v, .inl (cI, 4, .inl zi)), (p_st, .inl (cI, 4, .inl zi)), (p_ib, .inl (cZ, 4, .inl zi)), (p_di, .inl (cI, 4, .inl zi)), (p_wa, .inl (cI, 4, .inl zi)), (p_se, .inl (cI, 4, .inl zi))] [(cI, .int), (cZ, .boolean)] sz)) (va_Qi (fun (r : Int32) (_ : Unit) => r = 0) (fun (_ : Unit) t => po_ dC dI [] [(cI, .int), (cZ, .boolean)] (va_A [(x, .inr (7, [.ref bx, .ref po, .ref tr, .ref pa, .ref sp])), (bx, .inr (2, [.ref b0, .ref b1, .int 0, .int 0, .ref b4, .int 0, .ref b6, .int 0, .int 0, .int 0, .int 0])), (pa, .inr (3, [.ref p_v, .int 0, .ref p_st, .ref p_ib, .ref p_di, .ref p_wa, .ref p_se, .ref p_vh, .ref p_re])), (p_v, .inl (cI, 4, .inl zi)), (p_st, .inl (cI, 4, .inl zi)), (p_ib, .inl (cZ, 4, .inl zi)), (p_di, .inl (cI, 4, .inl zi)), (p_wa, .inl (cI, 4, .inl zi)), (p_se, .inl (cI, 4, .inl zi))] sz) t) (va_A [(x, .inr (7, [.ref bx, .ref po, .ref tr, .ref pa, .ref sp])), (bx, .inr (2, [.ref b0, .ref b1, .int 0, .int 0, .ref b4, .int 0, .ref b6, .int 0, .int 0, .int 0, .int 0])), (pa, .inr (3, [.ref p_v, .int 0, .ref p_st, .ref p_ib, .ref p_di, .ref p_wa, .ref p_se, .ref p_vh, .ref p_re])), (p_v, .inl (cI, 4, .inl zi)), (p_st, .inl (cI, 4, .inl zi)), (p_ib, .inl (cZ, 4, .inl zi)), (p_di, .inl (cI, 4, .inl zi)), (p_wa, .inl (cI, 4, .inl zi)), (p_se, .inl (cI, 4, .inl zi))] sz)) 0 0 (va_A [(x, .inr (7, [.ref bx, .ref po, .ref tr, .ref pa, .ref sp])), (bx, .inr (2, [.ref b0, .ref b1, .int 0, .int 0, .ref b4, .int 0, .ref b6, .int 0, .int 0, .int 0, .int 0])), (pa, .inr (3, [.ref p_v, .int 0, .ref p_st, .ref p_ib, .ref p_di, .ref p_wa, .ref p_se, .ref p_vh, .ref p_re])), (p_v, .inl (cI, 4, .inl zi)), (p_st, .inl (cI, 4, .inl zi)), (p_ib, .inl (cZ, 4, .inl zi)), (p_di, .inl (cI, 4, .inl zi)), (p_wa, .inl (cI, 4, .inl zi)), (p_se, .inl (cI, 4, .inl zi))] sz) := by
  refine Met.ofW (cc := cX5_threshold) (maxL := 2) (ret := (some .int)) (by decide) rfl ?_
  intro p e s m args below meth c s₁ B hml hv
  obtain ⟨rfl, hsz, hP, hK, hD0⟩ := hv
  have hx := B.exec
  have hb := B.bytes
  have hr := B.returns
  have hts := atoms_spec (ws := wsX5_threshold) B.pre
  have hown : s.vm.findClass RX5 = some m.cls := findClass_of_methodNamed B.named
  have hlocks := B.notSynchronized
  subst hsz
  have hD := hD0.self (sz := s.heap.size)
  generalize hAe : va_A [(x, .inr (7, [.ref bx, .ref po, .ref tr, .ref pa, .ref sp])), (bx, .inr (2, [.ref b0, .ref b1, .int 0, .int 0, .ref b4, .int 0, .ref b6, .int 0, .int 0, .int 0, .int 0])), (pa, .inr (3, [.ref p_v, .int 0, .ref p_st, .ref p_ib, .ref p_di, .ref p_wa, .ref p_se, .ref p_vh, .ref p_re])), (p_v, .inl (cI, 4, .inl zi)), (p_st, .inl (cI, 4, .inl zi)), (p_ib, .inl (cZ, 4, .inl zi)), (p_di, .inl (cI, 4, .inl zi)), (p_wa, .inl (cI, 4, .inl zi)), (p_se, .inl (cI, 4, .inl zi))] s.heap.size = A at hD ⊢
  have hA : ∀ q : Nat, s.heap.size ≤ q → A q := fun q h => by rw [← hAe]; exact Or.inr h
  have hS : va_S A s.heap s.heap [] := va_S.rf
  have hP : va_P (dC, dI) vwCl [(x, .inr (7, [.ref bx, .ref po, .ref tr, .ref pa, .ref sp])), (bx, .inr (2, [.ref b0, .ref b1, .int 0, .int 0, .ref b4, .int 0, .ref b6, .int 0, .int 0, .int 0, .int 0])), (pa, .inr (3, [.ref p_v, .int 0, .ref p_st, .ref p_ib, .ref p_di, .ref p_wa, .ref p_se, .ref p_vh, .ref p_re])), (p_v, .inl (cI, 4, .inl zi)), (p_st, .inl (cI, 4, .inl zi)), (p_ib, .inl (cZ, 4, .inl zi)), (p_di, .inl (cI, 4, .inl zi)), (p_wa, .inl (cI, 4, .inl zi)), (p_se, .inl (cI, 4, .inl zi))] s.heap := hP
  have hK : va_K (dC, dI) vwCl [(cI, .int), (cZ, .boolean)] s := hK
  have hl := lv_entry ([.ref x, .int a0]) (n := 2) (Nat.le_of_ble_eq_true rfl)
  rw [lg_entry_eq]
  generalize (lg_sl ([.ref x, .int a0]) ++ List.replicate (2 - (lg_sl ([.ref x, .int a0])).length) Slot.unset).toArray = ls at hl ⊢
  have hl : lv_has ls 2 [(0, .ref x), (1, .int a0)] := hl
  refine lv_iload_n hx hb dX5_threshold_0 rfl (lv_at hl 1 rfl) ?_
  refine lv_if_lt (tgt := 10) hx hb dX5_threshold_1 (by decide) (fun h9 => (g0a h9).elim) (fun _ => ?_)
  refine lv_iload_n hx hb dX5_threshold_4 rfl (lv_at hl 1 rfl) ?_
  refine lv_bipush (v := 20) hx hb dX5_threshold_5 (by decide) ?_
  refine lv_icmp_le (tgt := 20) hx hb dX5_threshold_7 (by decide) (fun _ => ?_) (fun h9 => (h9 g0b).elim)
  refine lv_aload_n hx hb dX5_threshold_20 rfl (lv_at hl 0 rfl) ?_
  have hinX5 : ∀ w ∈ u_ws RX5 TX5 5, w ∈ wsX5_threshold := by decide +kernel
  refine va_get (D := (dC, dI)) (ci := 7) (v := .ref bx) (C := RX5) (T := TX5) (N := 5) hx hb hts hinX5 hown hK hP 0 rfl rfl 0 (by decide) (hts (.fieldLink RX5 10 "BallotLoom" "box" "LBallotLoom$Box;") (by decide +kernel)) (fun _ h9 => h9) rfl dX5_threshold_21 ?_
  refine lv_iload_n hx hb dX5_threshold_24 rfl (lv_at hl 1 rfl) ?_
  have hinX0 : ∀ w ∈ u_ws RX0 TX0 11, w ∈ wsX5_threshold := by decide +kernel
  refine va_put (D := (dC, dI)) (ci := 2) (v := .int a0) (ty := .int) (C := RX0) (T := TX0) (N := 11) hx hb hts hinX0 tyX0 tyX0_ok nmX0 hown hK hP hD hS 1 rfl rfl 8 (by decide) (hts (.fieldLink RX5 130 "BallotLoom$Box" "percent" "I") (by decide +kernel)) (fun _ h9 => h9) rfl (by decide +kernel) rfl rfl (Nat.le_of_ble_eq_true rfl) dX5_threshold_25 (fun H locs hP hD hS => ?_)
  have hP : va_P (dC, dI) vwCl [(x, .inr (7, [.ref bx, .ref po, .ref tr, .ref pa, .ref sp])), (bx, .inr (2, [.ref b0, .ref b1, .int 0, .int 0, .ref b4, .int 0, .ref b6, .int 0, .int a0, .int 0, .int 0])), (pa, .inr (3, [.ref p_v, .int 0, .ref p_st, .ref p_ib, .ref p_di, .ref p_wa, .ref p_se, .ref p_vh, .ref p_re])), (p_v, .inl (cI, 4, .inl zi)), (p_st, .inl (cI, 4, .inl zi)), (p_ib, .inl (cZ, 4, .inl zi)), (p_di, .inl (cI, 4, .inl zi)), (p_wa, .inl (cI, 4, .inl zi)), (p_se, .inl (cI, 4, .inl zi))] H := hP
  have hD : va_D A [(x, .inr (7, [.ref bx, .ref po, .ref tr, .ref pa, .ref sp])), (bx, .inr (2, [.ref b0, .ref b1, .int 0, .int 0, .ref b4, .int 0, .ref b6, .int 0, .int a0, .int 0, .int 0])), (pa, .inr (3, [.ref p_v, .int 0, .ref p_st, .ref p_ib, .ref p_di, .ref p_wa, .ref p_se, .ref p_vh, .ref p_re])), (p_v, .inl (cI, 4, .inl zi)), (p_st, .inl (cI, 4, .inl zi)), (p_ib, .inl (cZ, 4, .inl zi)), (p_di, .inl (cI, 4, .inl zi)), (p_wa, .inl (cI, 4, .inl zi)), (p_se, .inl (cI, 4, .inl zi))] := hD
  refine lv_aload_n hx hb dX5_threshold_28 rfl (lv_at hl 0 rfl) ?_
  refine va_get (D := (dC, dI)) (ci := 7) (v := .ref pa) (C := RX5) (T := TX5) (N := 5) hx hb hts hinX5 hown hK hP 0 rfl rfl 3 (by decide) (hts (.fieldLink RX5 33 "BallotLoom" "parties" "LBallotLoom$Parties;") (by decide +kernel)) (fun _ h9 => h9) rfl dX5_threshold_29 ?_
  refine lv_aload_n hx hb dX5_threshold_32 rfl (lv_at hl 0 rfl) ?_
  refine va_get (D := (dC, dI)) (ci := 7) (v := .ref bx) (C := RX5) (T := TX5) (N := 5) hx hb hts hinX5 hown hK hP 0 rfl rfl 0 (by decide) (hts (.fieldLink RX5 10 "BallotLoom" "box" "LBallotLoom$Box;") (by decide +kernel)) (fun _ h9 => h9) rfl dX5_threshold_33 ?_
  have hPc := hP.sub (ws' := [(pa, .inr (3, [.ref p_v, .int 0, .ref p_st, .ref p_ib, .ref p_di, .ref p_wa, .ref p_se, .ref p_vh, .ref p_re])), (bx, .inr (2, [.ref b0, .ref b1, .int 0, .int 0, .ref b4, .int 0, .ref b6, .int 0, .int a0, .int 0, .int 0])), (p_v, .inl (cI, 4, .inl zi)), (p_st, .inl (cI, 4, .inl zi)), (p_ib, .inl (cZ, 4, .inl zi))]) [2, 1, 3, 4, 5] rfl
  have hDc := hD.sub (ws' := [(pa, .inr (3, [.ref p_v, .int 0, .ref p_st, .ref p_ib, .ref p_di, .ref p_wa, .ref p_se, .ref p_vh, .ref p_re])), (bx, .inr (2, [.ref b0, .ref b1, .int 0, .int 0, .ref b4, .int 0, .ref b6, .int 0, .int a0, .int 0, .int 0])), (p_v, .inl (cI, 4, .inl zi)), (p_st, .inl (cI, 4, .inl zi)), (p_ib, .inl (cZ, 4, .inl zi))]) [2, 1, 3, 4, 5] (by decide) rfl
  have hKc := hK.sub (tys' := [(cI, .int), (cZ, .boolean)]) [0, 1] rfl
  have hFc := va_free (wc := [(pa, .inr (3, [.ref p_v, .int 0, .ref p_st, .ref p_ib, .ref p_di, .ref p_wa, .ref p_se, .ref p_vh, .ref p_re])), (bx, .inr (2, [.ref b0, .ref b1, .int 0, .int 0, .ref b4, .int 0, .ref b6, .int 0, .int a0, .int 0, .int 0])), (p_v, .inl (cI, 4, .inl zi)), (p_st, .inl (cI, 4, .inl zi)), (p_ib, .inl (cZ, 4, .inl zi))]) hD hS hA [2, 1, 3, 4, 5] rfl
  refine va_callv (va_runV (As := [.ref bx]) (rest := []) ⟨hx, hb, hml, hown, hts⟩ (c_X1_countVotes l dC dI pa p_v p_st p_ib p_di p_wa p_se p_vh p_re bx b0 b1 b4 b6 a0 cI cZ _ ) (cwV 1 hts gX5_threshold_X1_countVotes rfl rfl rfl (by decide +kernel) ⟨Nat.le_of_ble_eq_true rfl, Nat.le_of_ble_eq_true rfl⟩) ⟨pr_blind, va_recv hKc hPc (ci := 3) (q0 := 0) rfl rfl, fun U hU hW => ⟨rfl, pr_mk hU hW hPc hKc hDc⟩⟩ rfl rfl hl.1 rfl (lv_room (Nat.le_of_ble_eq_true rfl)) dX5_threshold_36 ⟨Nat.le_of_ble_eq_true rfl, Nat.le_of_ble_eq_true rfl⟩) hS (fun q _ h => hFc q h) hFc (fun u_1 t H1 locs ht hvm hw hB hz1 hk1 hS => ?_)
  obtain ⟨hP1, hK1, hD1⟩ := hB
  rw [ht] at hP1
  obtain ⟨hP, hD⟩ := va_join (wr := [(x, .inr (7, [.ref bx, .ref po, .ref tr, .ref pa, .ref sp])), (p_di, .inl (cI, 4, .inl zi)), (p_wa, .inl (cI, 4, .inl zi)), (p_se, .inl (cI, 4, .inl zi))]) (w1 := [(pa, .inr (3, [.ref p_v, .int 0, .ref p_st, .ref p_ib, .ref p_di, .ref p_wa, .ref p_se, .ref p_vh, .ref p_re])), (bx, .inr (2, [.ref b0, .ref b1, .int 0, .int 0, .ref b4, .int 0, .ref b6, .int 0, .int a0, .int 0, .int 0])), (p_v, .inl (cI, 4, .inl zi)), (p_st, .inl (cI, 4, .inl zi)), (p_ib, .inl (cZ, 4, .inl zi))]) hP hD [2, 1, 3, 4, 5] [0, 6, 7, 8] rfl rfl (by decide) (by decide) hk1 hFc hP1 hD1
  generalize H1 = H at hP hS ⊢
  have hP : va_P (dC, dI) vwCl [(x, .inr (7, [.ref bx, .ref po, .ref tr, .ref pa, .ref sp])), (p_di, .inl (cI, 4, .inl zi)), (p_wa, .inl (cI, 4, .inl zi)), (p_se, .inl (cI, 4, .inl zi)), (pa, .inr (3, [.ref p_v, .int 0, .ref p_st, .ref p_ib, .ref p_di, .ref p_wa, .ref p_se, .ref p_vh, .ref p_re])), (bx, .inr (2, [.ref b0, .ref b1, .int 0, .int 0, .ref b4, .int 0, .ref b6, .int 0, .int a0, .int 0, .int 0])), (p_v, .inl (cI, 4, .inl zi)), (p_st, .inl (cI, 4, .inl zi)), (p_ib, .inl (cZ, 4, .inl zi))] H := hP
  have hD : va_D A [(x, .inr (7, [.ref bx, .ref po, .ref tr, .ref pa, .ref sp])), (p_di, .inl (cI, 4, .inl zi)), (p_wa, .inl (cI, 4, .inl zi)), (p_se, .inl (cI, 4, .inl zi)), (pa, .inr (3, [.ref p_v, .int 0, .ref p_st, .ref p_ib, .ref p_di, .ref p_wa, .ref p_se, .ref p_vh, .ref p_re])), (bx, .inr (2, [.ref b0, .ref b1, .int 0, .int 0, .ref b4, .int 0, .ref b6, .int 0, .int a0, .int 0, .int 0])), (p_v, .inl (cI, 4, .inl zi)), (p_st, .inl (cI, 4, .inl zi)), (p_ib, .inl (cZ, 4, .inl zi))] := hD
  refine W.widen (k := 0) (n := 0) (Nat.le_refl _) (Nat.le_refl _) ?_
  refine lv_aload_n hx hb dX5_threshold_39 rfl (lv_at hl 0 rfl) ?_
  refine va_get (D := (dC, dI)) (ci := 7) (v := .ref pa) (C := RX5) (T := TX5) (N := 5) hx hb hts hinX5 hown hK hP 0 rfl rfl 3 (by decide) (hts (.fieldLink RX5 33 "BallotLoom" "parties" "LBallotLoom$Parties;") (by decide +kernel)) (fun _ h9 => h9) rfl dX5_threshold_40 ?_
  have hPc := hP.sub (ws' := [(pa, .inr (3, [.ref p_v, .int 0, .ref p_st, .ref p_ib, .ref p_di, .ref p_wa, .ref p_se, .ref p_vh, .ref p_re])), (p_ib, .inl (cZ, 4, .inl zi))]) [4, 8] rfl
  have hDc := hD.sub (ws' := [(pa, .inr (3, [.ref p_v, .int 0, .ref p_st, .ref p_ib, .ref p_di, .ref p_wa, .ref p_se, .ref p_vh, .ref p_re])), (p_ib, .inl (cZ, 4, .inl zi))]) [4, 8] (by decide) rfl
  have hKc := hK.sub (tys' := [(cZ, .boolean)]) [1] rfl
  have hFc := va_free (wc := [(pa, .inr (3, [.ref p_v, .int 0, .ref p_st, .ref p_ib, .ref p_di, .ref p_wa, .ref p_se, .ref p_vh, .ref p_re])), (p_ib, .inl (cZ, 4, .inl zi))]) hD hS hA [4, 8] rfl
  refine va_calli (va_runV (As := []) (rest := []) ⟨hx, hb, hml, hown, hts⟩ (c_X1_barredSet l dC dI pa p_v p_st p_ib p_di p_wa p_se p_vh p_re cZ _ ) (cwV 0 hts gX5_threshold_X1_barredSet rfl rfl rfl (by decide +kernel) ⟨Nat.le_of_ble_eq_true rfl, Nat.le_of_ble_eq_true rfl⟩) ⟨pr_blind, va_recv hKc hPc (ci := 3) (q0 := 0) rfl rfl, fun U hU hW => ⟨rfl, pr_mk hU hW hPc hKc hDc⟩⟩ rfl rfl hl.1 rfl (lv_room (Nat.le_of_ble_eq_true rfl)) dX5_threshold_43 ⟨Nat.le_of_ble_eq_true rfl, Nat.le_of_ble_eq_true rfl⟩) hS (fun q _ h => hFc q h) hFc (fun r_4 u_3 t H1 locs ht hvm hw hB hz1 hk1 hS => ?_)
  obtain ⟨hP1, hK1, hD1⟩ := hB
  rw [ht] at hP1
  obtain ⟨hP, hD⟩ := va_join (wr := [(x, .inr (7, [.ref bx, .ref po, .ref tr, .ref pa, .ref sp])), (p_di, .inl (cI, 4, .inl zi)), (p_wa, .inl (cI, 4, .inl zi)), (p_se, .inl (cI, 4, .inl zi)), (bx, .inr (2, [.ref b0, .ref b1, .int 0, .int 0, .ref b4, .int 0, .ref b6, .int 0, .int a0, .int 0, .int 0])), (p_v, .inl (cI, 4, .inl zi)), (p_st, .inl (cI, 4, .inl zi))]) (w1 := [(pa, .inr (3, [.ref p_v, .int 0, .ref p_st, .ref p_ib, .ref p_di, .ref p_wa, .ref p_se, .ref p_vh, .ref p_re])), (p_ib, .inl (cZ, 4, .inl zi))]) hP hD [4, 8] [0, 1, 2, 3, 5, 6, 7] rfl rfl (by decide) (by decide) hk1 hFc hP1 hD1
  generalize H1 = H at hP hS ⊢
  have hP : va_P (dC, dI) vwCl [(x, .inr (7, [.ref bx, .ref po, .ref tr, .ref pa, .ref sp])), (p_di, .inl (cI, 4, .inl zi)), (p_wa, .inl (cI, 4, .inl zi)), (p_se, .inl (cI, 4, .inl zi)), (bx, .inr (2, [.ref b0, .ref b1, .int 0, .int 0, .ref b4, .int 0, .ref b6, .int 0, .int a0, .int 0, .int 0])), (p_v, .inl (cI, 4, .inl zi)), (p_st, .inl (cI, 4, .inl zi)), (pa, .inr (3, [.ref p_v, .int 0, .ref p_st, .ref p_ib, .ref p_di, .ref p_wa, .ref p_se, .ref p_vh, .ref p_re])), (p_ib, .inl (cZ, 4, .inl zi))] H := hP
  have hD : va_D A [(x, .inr (7, [.ref bx, .ref po, .ref tr, .ref pa, .ref sp])), (p_di, .inl (cI, 4, .inl zi)), (p_wa, .inl (cI, 4, .inl zi)), (p_se, .inl (cI, 4, .inl zi)), (bx, .inr (2, [.ref b0, .ref b1, .int 0, .int 0, .ref b4, .int 0, .ref b6, .int 0, .int a0, .int 0, .int 0])), (p_v, .inl (cI, 4, .inl zi)), (p_st, .inl (cI, 4, .inl zi)), (pa, .inr (3, [.ref p_v, .int 0, .ref p_st, .ref p_ib, .ref p_di, .ref p_wa, .ref p_se, .ref p_vh, .ref p_re])), (p_ib, .inl (cZ, 4, .inl zi))] := hD
  refine W.widen (k := 0) (n := 0) (Nat.le_refl _) (Nat.le_refl _) ?_
  have hw : r_4 = 0 := hw
  subst hw
  have hP9 := hP.sub (ws' := []) [] rfl
  have hD9 := hD.sub (ws' := []) [] (by decide) rfl
  have hK9 := hK.sub (tys' := [(cI, .int), (cZ, .boolean)]) [0, 1] rfl
  refine W.widen (k := 0) (n := 0) (Nat.le_of_ble_eq_true rfl) (Nat.le_of_ble_eq_true rfl) ?_
  exact W.iret (v := 0) hx hb hr (fun t ht hW => ⟨⟨0, (), rfl, rfl, po_mk ht hW hP9 hK9 hD9⟩, hS.F ht⟩) hS.2.2 dX5_threshold_46

set_option maxHeartbeats 4000000 in
set_option maxRecDepth 100000 in
theorem c_X5_seal (l : Launch) (dC : Nat → ClassId) (dI : Nat → Nat → Nat) (x : Nat) (po : Nat) (tr : Nat) (sp : Nat) (pa : Nat) (bx : Nat) (b0 : Nat) (b1 : Nat) (b4 : Nat) (b6 : Nat) (a0 : Int32) (sz : Nat) (hs : a0 = 0 ∨ a0 = 1) : Met l yX5_seal wsX5_seal ({ frames := 6, cells := 0, slots := 0, locals := 170 }) (va_Pc [.ref x, .int a0] (pr_ dC dI [(x, .inr (7, [.ref bx, .ref po, .ref tr, .ref pa, .ref sp])), (bx, .inr (2, [.ref b0, .ref b1, .int 0, .int 0, .ref b4, .int 0, .ref b6, .int 0, .int 0, .int 0, .int 0]))] [] sz)) (va_Qi (fun (r : Int32) (_ : Unit) => r = 0) (fun (_ : Unit) t => po_ dC dI [] [] (va_A [(x, .inr (7, [.ref bx, .ref po, .ref tr, .ref pa, .ref sp])), (bx, .inr (2, [.ref b0, .ref b1, .int 0, .int 0, .ref b4, .int 0, .ref b6, .int 0, .int 0, .int 0, .int 0]))] sz) t) (va_A [(x, .inr (7, [.ref bx, .ref po, .ref tr, .ref pa, .ref sp])), (bx, .inr (2, [.ref b0, .ref b1, .int 0, .int 0, .ref b4, .int 0, .ref b6, .int 0, .int 0, .int 0, .int 0]))] sz)) 0 0 (va_A [(x, .inr (7, [.ref bx, .ref po, .ref tr, .ref pa, .ref sp])), (bx, .inr (2, [.ref b0, .ref b1, .int 0, .int 0, .ref b4, .int 0, .ref b6, .int 0, .int 0, .int 0, .int 0]))] sz) := by
  have hcs : a0 = 0 ∨ a0 = 1 := hs
  rcases hcs with rfl | rfl
  · refine Met.ofW (cc := cX5_seal) (maxL := 3) (ret := (some .boolean)) (by decide) rfl ?_
    intro p e s m args below meth c s₁ B hml hv
    obtain ⟨rfl, hsz, hP, hK, hD0⟩ := hv
    have hx := B.exec
    have hb := B.bytes
    have hr := B.returns
    have hts := atoms_spec (ws := wsX5_seal) B.pre
    have hown : s.vm.findClass RX5 = some m.cls := findClass_of_methodNamed B.named
    have hlocks := B.notSynchronized
    subst hsz
    have hD := hD0.self (sz := s.heap.size)
    generalize hAe : va_A [(x, .inr (7, [.ref bx, .ref po, .ref tr, .ref pa, .ref sp])), (bx, .inr (2, [.ref b0, .ref b1, .int 0, .int 0, .ref b4, .int 0, .ref b6, .int 0, .int 0, .int 0, .int 0]))] s.heap.size = A at hD ⊢
    have hA : ∀ q : Nat, s.heap.size ≤ q → A q := fun q h => by rw [← hAe]; exact Or.inr h
    have hS : va_S A s.heap s.heap [] := va_S.rf
    have hP : va_P (dC, dI) vwCl [(x, .inr (7, [.ref bx, .ref po, .ref tr, .ref pa, .ref sp])), (bx, .inr (2, [.ref b0, .ref b1, .int 0, .int 0, .ref b4, .int 0, .ref b6, .int 0, .int 0, .int 0, .int 0]))] s.heap := hP
    have hK : va_K (dC, dI) vwCl [] s := hK
    have hl := lv_entry ([.ref x, .int 0]) (n := 3) (Nat.le_of_ble_eq_true rfl)
    rw [lg_entry_eq]
    generalize (lg_sl ([.ref x, .int 0]) ++ List.replicate (3 - (lg_sl ([.ref x, .int 0])).length) Slot.unset).toArray = ls at hl ⊢
    have hl : lv_has ls 3 [(0, .ref x), (1, .int 0)] := hl
    refine lv_aload_n hx hb dX5_seal_0 rfl (lv_at hl 0 rfl) ?_
    have hinX5 : ∀ w ∈ u_ws RX5 TX5 5, w ∈ wsX5_seal := by decide +kernel
    refine va_get (D := (dC, dI)) (ci := 7) (v := .ref bx) (C := RX5) (T := TX5) (N := 5) hx hb hts hinX5 hown hK hP 0 rfl rfl 0 (by decide) (hts (.fieldLink RX5 10 "BallotLoom" "box" "LBallotLoom$Box;") (by decide +kernel)) (fun _ h9 => h9) rfl dX5_seal_1 ?_
    have hinX0 : ∀ w ∈ u_ws RX0 TX0 11, w ∈ wsX5_seal := by decide +kernel
    refine va_get (D := (dC, dI)) (ci := 2) (v := .int 0) (C := RX0) (T := TX0) (N := 11) hx hb hts hinX0 hown hK hP 1 rfl rfl 9 (by decide) (hts (.fieldLink RX5 141 "BallotLoom$Box" "isSealed" "Z") (by decide +kernel)) (fun _ h9 => h9) rfl dX5_seal_4 ?_
    refine lv_istore_n (lv' := [(2, .int 0), (0, .ref x), (1, .int 0)]) hx hb dX5_seal_7 rfl hl (by decide) rfl (fun ls hl => ?_)
    refine lv_aload_n hx hb dX5_seal_8 rfl (lv_at hl 1 rfl) ?_
    refine va_get (D := (dC, dI)) (ci := 7) (v := .ref bx) (C := RX5) (T := TX5) (N := 5) hx hb hts hinX5 hown hK hP 0 rfl rfl 0 (by decide) (hts (.fieldLink RX5 10 "BallotLoom" "box" "LBallotLoom$Box;") (by decide +kernel)) (fun _ h9 => h9) rfl dX5_seal_9 ?_
    refine lv_iload_n hx hb dX5_seal_12 rfl (lv_at hl 2 rfl) ?_
    refine va_put (D := (dC, dI)) (ci := 2) (v := .int 0) (ty := .boolean) (C := RX0) (T := TX0) (N := 11) hx hb hts hinX0 tyX0 tyX0_ok nmX0 hown hK hP hD hS 1 rfl rfl 9 (by decide) (hts (.fieldLink RX5 141 "BallotLoom$Box" "isSealed" "Z") (by decide +kernel)) (fun _ h9 => h9) rfl (by decide +kernel) rfl rfl (Nat.le_of_ble_eq_true rfl) dX5_seal_13 (fun H locs hP hD hS => ?_)
    have hP : va_P (dC, dI) vwCl [(x, .inr (7, [.ref bx, .ref po, .ref tr, .ref pa, .ref sp])), (bx, .inr (2, [.ref b0, .ref b1, .int 0, .int 0, .ref b4, .int 0, .ref b6, .int 0, .int 0, .int 0, .int 0]))] H := hP
    have hD : va_D A [(x, .inr (7, [.ref bx, .ref po, .ref tr, .ref pa, .ref sp])), (bx, .inr (2, [.ref b0, .ref b1, .int 0, .int 0, .ref b4, .int 0, .ref b6, .int 0, .int 0, .int 0, .int 0]))] := hD
    refine lv_iload_n hx hb dX5_seal_16 rfl (lv_at hl 0 rfl) ?_
    have hP9 := hP.sub (ws' := []) [] rfl
    have hD9 := hD.sub (ws' := []) [] (by decide) rfl
    have hK9 := hK.sub (tys' := []) [] rfl
    refine W.widen (k := 0) (n := 0) (Nat.le_of_ble_eq_true rfl) (Nat.le_of_ble_eq_true rfl) ?_
    exact W.zret (v := 0) hx hb hr rfl (fun t ht hW => ⟨⟨0, (), rfl, rfl, po_mk ht hW hP9 hK9 hD9⟩, hS.F ht⟩) hS.2.2 dX5_seal_17
  · refine Met.ofW (cc := cX5_seal) (maxL := 3) (ret := (some .boolean)) (by decide) rfl ?_
    intro p e s m args below meth c s₁ B hml hv
    obtain ⟨rfl, hsz, hP, hK, hD0⟩ := hv
    have hx := B.exec
    have hb := B.bytes
    have hr := B.returns
    have hts := atoms_spec (ws := wsX5_seal) B.pre
    have hown : s.vm.findClass RX5 = some m.cls := findClass_of_methodNamed B.named
    have hlocks := B.notSynchronized
    subst hsz
    have hD := hD0.self (sz := s.heap.size)
    generalize hAe : va_A [(x, .inr (7, [.ref bx, .ref po, .ref tr, .ref pa, .ref sp])), (bx, .inr (2, [.ref b0, .ref b1, .int 0, .int 0, .ref b4, .int 0, .ref b6, .int 0, .int 0, .int 0, .int 0]))] s.heap.size = A at hD ⊢
    have hA : ∀ q : Nat, s.heap.size ≤ q → A q := fun q h => by rw [← hAe]; exact Or.inr h
    have hS : va_S A s.heap s.heap [] := va_S.rf
    have hP : va_P (dC, dI) vwCl [(x, .inr (7, [.ref bx, .ref po, .ref tr, .ref pa, .ref sp])), (bx, .inr (2, [.ref b0, .ref b1, .int 0, .int 0, .ref b4, .int 0, .ref b6, .int 0, .int 0, .int 0, .int 0]))] s.heap := hP
    have hK : va_K (dC, dI) vwCl [] s := hK
    have hl := lv_entry ([.ref x, .int 1]) (n := 3) (Nat.le_of_ble_eq_true rfl)
    rw [lg_entry_eq]
    generalize (lg_sl ([.ref x, .int 1]) ++ List.replicate (3 - (lg_sl ([.ref x, .int 1])).length) Slot.unset).toArray = ls at hl ⊢
    have hl : lv_has ls 3 [(0, .ref x), (1, .int 1)] := hl
    refine lv_aload_n hx hb dX5_seal_0 rfl (lv_at hl 0 rfl) ?_
    have hinX5 : ∀ w ∈ u_ws RX5 TX5 5, w ∈ wsX5_seal := by decide +kernel
    refine va_get (D := (dC, dI)) (ci := 7) (v := .ref bx) (C := RX5) (T := TX5) (N := 5) hx hb hts hinX5 hown hK hP 0 rfl rfl 0 (by decide) (hts (.fieldLink RX5 10 "BallotLoom" "box" "LBallotLoom$Box;") (by decide +kernel)) (fun _ h9 => h9) rfl dX5_seal_1 ?_
    have hinX0 : ∀ w ∈ u_ws RX0 TX0 11, w ∈ wsX5_seal := by decide +kernel
    refine va_get (D := (dC, dI)) (ci := 2) (v := .int 0) (C := RX0) (T := TX0) (N := 11) hx hb hts hinX0 hown hK hP 1 rfl rfl 9 (by decide) (hts (.fieldLink RX5 141 "BallotLoom$Box" "isSealed" "Z") (by decide +kernel)) (fun _ h9 => h9) rfl dX5_seal_4 ?_
    refine lv_istore_n (lv' := [(2, .int 0), (0, .ref x), (1, .int 1)]) hx hb dX5_seal_7 rfl hl (by decide) rfl (fun ls hl => ?_)
    refine lv_aload_n hx hb dX5_seal_8 rfl (lv_at hl 1 rfl) ?_
    refine va_get (D := (dC, dI)) (ci := 7) (v := .ref bx) (C := RX5) (T := TX5) (N := 5) hx hb hts hinX5 hown hK hP 0 rfl rfl 0 (by decide) (hts (.fieldLink RX5 10 "BallotLoom" "box" "LBallotLoom$Box;") (by decide +kernel)) (fun _ h9 => h9) rfl dX5_seal_9 ?_
    refine lv_iload_n hx hb dX5_seal_12 rfl (lv_at hl 2 rfl) ?_
    refine va_put (D := (dC, dI)) (ci := 2) (v := .int 1) (ty := .boolean) (C := RX0) (T := TX0) (N := 11) hx hb hts hinX0 tyX0 tyX0_ok nmX0 hown hK hP hD hS 1 rfl rfl 9 (by decide) (hts (.fieldLink RX5 141 "BallotLoom$Box" "isSealed" "Z") (by decide +kernel)) (fun _ h9 => h9) rfl (by decide +kernel) rfl rfl (Nat.le_of_ble_eq_true rfl) dX5_seal_13 (fun H locs hP hD hS => ?_)
    have hP : va_P (dC, dI) vwCl [(x, .inr (7, [.ref bx, .ref po, .ref tr, .ref pa, .ref sp])), (bx, .inr (2, [.ref b0, .ref b1, .int 0, .int 0, .ref b4, .int 0, .ref b6, .int 0, .int 0, .int 1, .int 0]))] H := hP
    have hD : va_D A [(x, .inr (7, [.ref bx, .ref po, .ref tr, .ref pa, .ref sp])), (bx, .inr (2, [.ref b0, .ref b1, .int 0, .int 0, .ref b4, .int 0, .ref b6, .int 0, .int 0, .int 1, .int 0]))] := hD
    refine lv_iload_n hx hb dX5_seal_16 rfl (lv_at hl 0 rfl) ?_
    have hP9 := hP.sub (ws' := []) [] rfl
    have hD9 := hD.sub (ws' := []) [] (by decide) rfl
    have hK9 := hK.sub (tys' := []) [] rfl
    refine W.widen (k := 0) (n := 0) (Nat.le_of_ble_eq_true rfl) (Nat.le_of_ble_eq_true rfl) ?_
    exact W.zret (v := 0) hx hb hr rfl (fun t ht hW => ⟨⟨0, (), rfl, rfl, po_mk ht hW hP9 hK9 hD9⟩, hS.F ht⟩) hS.2.2 dX5_seal_17

set_option maxHeartbeats 4000000 in
set_option maxRecDepth 100000 in
theorem c_X5_knock (l : Launch) (dC : Nat → ClassId) (dI : Nat → Nat → Nat) (x : Nat) (po : Nat) (tr : Nat) (sp : Nat) (pa : Nat) (bx : Nat) (b0 : Nat) (b1 : Nat) (b4 : Nat) (b6 : Nat) (sz : Nat)  : Met l yX5_knock wsX5_knock ({ frames := 6, cells := 0, slots := 0, locals := 170 }) (va_Pc [.ref x] (pr_ dC dI [(x, .inr (7, [.ref bx, .ref po, .ref tr, .ref pa, .ref sp])), (bx, .inr (2, [.ref b0, .ref b1, .int 0, .int 0, .ref b4, .int 0, .ref b6, .int 0, .int 0, .int 0, .int 0]))] [] sz)) (va_Qi (fun (r : Int32) (_ : Unit) => r = 1) (fun (_ : Unit) t => po_ dC dI [] [] (va_A [(x, .inr (7, [.ref bx, .ref po, .ref tr, .ref pa, .ref sp])), (bx, .inr (2, [.ref b0, .ref b1, .int 0, .int 0, .ref b4, .int 0, .ref b6, .int 0, .int 0, .int 0, .int 0]))] sz) t) (va_A [(x, .inr (7, [.ref bx, .ref po, .ref tr, .ref pa, .ref sp])), (bx, .inr (2, [.ref b0, .ref b1, .int 0, .int 0, .ref b4, .int 0, .ref b6, .int 0, .int 0, .int 0, .int 0]))] sz)) 0 0 (va_A [(x, .inr (7, [.ref bx, .ref po, .ref tr, .ref pa, .ref sp])), (bx, .inr (2, [.ref b0, .ref b1, .int 0, .int 0, .ref b4, .int 0, .ref b6, .int 0, .int 0, .int 0, .int 0]))] sz) := by
  refine Met.ofW (cc := cX5_knock) (maxL := 1) (ret := (some .int)) (by decide) rfl ?_
  intro p e s m args below meth c s₁ B hml hv
  obtain ⟨rfl, hsz, hP, hK, hD0⟩ := hv
  have hx := B.exec
  have hb := B.bytes
  have hr := B.returns
  have hts := atoms_spec (ws := wsX5_knock) B.pre
  have hown : s.vm.findClass RX5 = some m.cls := findClass_of_methodNamed B.named
  have hlocks := B.notSynchronized
  subst hsz
  have hD := hD0.self (sz := s.heap.size)
  generalize hAe : va_A [(x, .inr (7, [.ref bx, .ref po, .ref tr, .ref pa, .ref sp])), (bx, .inr (2, [.ref b0, .ref b1, .int 0, .int 0, .ref b4, .int 0, .ref b6, .int 0, .int 0, .int 0, .int 0]))] s.heap.size = A at hD ⊢
  have hA : ∀ q : Nat, s.heap.size ≤ q → A q := fun q h => by rw [← hAe]; exact Or.inr h
  have hS : va_S A s.heap s.heap [] := va_S.rf
  have hP : va_P (dC, dI) vwCl [(x, .inr (7, [.ref bx, .ref po, .ref tr, .ref pa, .ref sp])), (bx, .inr (2, [.ref b0, .ref b1, .int 0, .int 0, .ref b4, .int 0, .ref b6, .int 0, .int 0, .int 0, .int 0]))] s.heap := hP
  have hK : va_K (dC, dI) vwCl [] s := hK
  have hl := lv_entry ([.ref x]) (n := 1) (Nat.le_of_ble_eq_true rfl)
  rw [lg_entry_eq]
  generalize (lg_sl ([.ref x]) ++ List.replicate (1 - (lg_sl ([.ref x])).length) Slot.unset).toArray = ls at hl ⊢
  have hl : lv_has ls 1 [(0, .ref x)] := hl
  refine lv_aload_n hx hb dX5_knock_0 rfl (lv_at hl 0 rfl) ?_
  have hinX5 : ∀ w ∈ u_ws RX5 TX5 5, w ∈ wsX5_knock := by decide +kernel
  refine va_get (D := (dC, dI)) (ci := 7) (v := .ref bx) (C := RX5) (T := TX5) (N := 5) hx hb hts hinX5 hown hK hP 0 rfl rfl 0 (by decide) (hts (.fieldLink RX5 10 "BallotLoom" "box" "LBallotLoom$Box;") (by decide +kernel)) (fun _ h9 => h9) rfl dX5_knock_1 ?_
  refine lv_dup hx hb dX5_knock_4 rfl ?_
  have hinX0 : ∀ w ∈ u_ws RX0 TX0 11, w ∈ wsX5_knock := by decide +kernel
  refine va_get (D := (dC, dI)) (ci := 2) (v := .int 0) (C := RX0) (T := TX0) (N := 11) hx hb hts hinX0 hown hK hP 1 rfl rfl 10 (by decide) (hts (.fieldLink RX5 145 "BallotLoom$Box" "refused" "I") (by decide +kernel)) (fun _ h9 => h9) rfl dX5_knock_5 ?_
  refine lv_iconst (v := 1) hx hb dX5_knock_8 (by decide) ?_
  refine lv_iadd hx hb dX5_knock_9 ?_
  refine lv_topi (fun y_1 ey_1 => ?_)
  obtain rfl : y_1 = 1 := ey_1.trans (by decide)
  refine va_put (D := (dC, dI)) (ci := 2) (v := .int 1) (ty := .int) (C := RX0) (T := TX0) (N := 11) hx hb hts hinX0 tyX0 tyX0_ok nmX0 hown hK hP hD hS 1 rfl rfl 10 (by decide) (hts (.fieldLink RX5 145 "BallotLoom$Box" "refused" "I") (by decide +kernel)) (fun _ h9 => h9) rfl (by decide +kernel) rfl rfl (Nat.le_of_ble_eq_true rfl) dX5_knock_10 (fun H locs hP hD hS => ?_)
  have hP : va_P (dC, dI) vwCl [(x, .inr (7, [.ref bx, .ref po, .ref tr, .ref pa, .ref sp])), (bx, .inr (2, [.ref b0, .ref b1, .int 0, .int 0, .ref b4, .int 0, .ref b6, .int 0, .int 0, .int 0, .int 1]))] H := hP
  have hD : va_D A [(x, .inr (7, [.ref bx, .ref po, .ref tr, .ref pa, .ref sp])), (bx, .inr (2, [.ref b0, .ref b1, .int 0, .int 0, .ref b4, .int 0, .ref b6, .int 0, .int 0, .int 0, .int 1]))] := hD
  refine lv_aload_n hx hb dX5_knock_13 rfl (lv_at hl 0 rfl) ?_
  refine va_get (D := (dC, dI)) (ci := 7) (v := .ref bx) (C := RX5) (T := TX5) (N := 5) hx hb hts hinX5 hown hK hP 0 rfl rfl 0 (by decide) (hts (.fieldLink RX5 10 "BallotLoom" "box" "LBallotLoom$Box;") (by decide +kernel)) (fun _ h9 => h9) rfl dX5_knock_14 ?_
  refine va_get (D := (dC, dI)) (ci := 2) (v := .int 1) (C := RX0) (T := TX0) (N := 11) hx hb hts hinX0 hown hK hP 1 rfl rfl 10 (by decide) (hts (.fieldLink RX5 145 "BallotLoom$Box" "refused" "I") (by decide +kernel)) (fun _ h9 => h9) rfl dX5_knock_17 ?_
  have hP9 := hP.sub (ws' := []) [] rfl
  have hD9 := hD.sub (ws' := []) [] (by decide) rfl
  have hK9 := hK.sub (tys' := []) [] rfl
  refine W.widen (k := 0) (n := 0) (Nat.le_of_ble_eq_true rfl) (Nat.le_of_ble_eq_true rfl) ?_
  exact W.iret (v := 1) hx hb hr (fun t ht hW => ⟨⟨1, (), rfl, rfl, po_mk ht hW hP9 hK9 hD9⟩, hS.F ht⟩) hS.2.2 dX5_knock_20

set_option maxHeartbeats 4000000 in
set_option maxRecDepth 100000 in
theorem c_X5_shareHouse (l : Launch) (dC : Nat → ClassId) (dI : Nat → Nat → Nat) (x : Nat) (po : Nat) (tr : Nat) (sp : Nat) (bx : Nat) (b0 : Nat) (b1 : Nat) (b4 : Nat) (b6 : Nat) (pa : Nat) (p_v : Nat) (p_st : Nat) (p_ib : Nat) (p_di : Nat) (p_wa : Nat) (p_se : Nat) (p_vh : Nat) (p_re : Nat) (cI : ClassId) (cZ : ClassId) (ho : Int32) (ru : Int32) (sz : Nat) (hh1 : ¬ ho ≤ 0) : Met l yX5_shareHouse wsX5_shareHouse ({ frames := 5, cells := 0, slots := 0, locals := 140 }) (va_Pc [.ref x, .int ho, .int ru] (pr_ dC dI [(x, .inr (7, [.ref bx, .ref po, .ref tr, .ref pa, .ref sp])), (bx, .inr (2, [.ref b0, .ref b1, .int 0, .int 0, .ref b4, .int 0, .ref b6, .int 0, .int 0, .int 0, .int 0])), (pa, .inr (3, [.ref p_v, .int 0, .ref p_st, .ref p_ib, .ref p_di, .ref p_wa, .ref p_se, .ref p_vh, .ref p_re])), (p_v, .inl (cI, 4, .inl zi)), (p_st, .inl (cI, 4, .inl zi)), (p_ib, .inl (cZ, 4, .inl zi)), (p_se, .inl (cI, 4, .inl zi))] [(cI, .int), (cZ, .boolean)] sz)) (va_Qv (fun (_ : Unit) => True) (fun (_ : Unit) t => po_ dC dI [(x, .inr (7, [.ref bx, .ref po, .ref tr, .ref pa, .ref sp])), (bx, .inr (2, [.ref b0, .ref b1, .int 0, .int 0, .ref b4, .int 0, .ref b6, .int 0, .int 0, .int 0, .int 0])), (pa, .inr (3, [.ref p_v, .int 0, .ref p_st, .ref p_ib, .ref p_di, .ref p_wa, .ref p_se, .ref p_vh, .ref p_re])), (p_v, .inl (cI, 4, .inl zi)), (p_st, .inl (cI, 4, .inl zi)), (p_ib, .inl (cZ, 4, .inl zi)), (p_se, .inl (cI, 4, .inl zi))] [(cI, .int), (cZ, .boolean)] (va_A [(x, .inr (7, [.ref bx, .ref po, .ref tr, .ref pa, .ref sp])), (bx, .inr (2, [.ref b0, .ref b1, .int 0, .int 0, .ref b4, .int 0, .ref b6, .int 0, .int 0, .int 0, .int 0])), (pa, .inr (3, [.ref p_v, .int 0, .ref p_st, .ref p_ib, .ref p_di, .ref p_wa, .ref p_se, .ref p_vh, .ref p_re])), (p_v, .inl (cI, 4, .inl zi)), (p_st, .inl (cI, 4, .inl zi)), (p_ib, .inl (cZ, 4, .inl zi)), (p_se, .inl (cI, 4, .inl zi))] sz) t) (va_A [(x, .inr (7, [.ref bx, .ref po, .ref tr, .ref pa, .ref sp])), (bx, .inr (2, [.ref b0, .ref b1, .int 0, .int 0, .ref b4, .int 0, .ref b6, .int 0, .int 0, .int 0, .int 0])), (pa, .inr (3, [.ref p_v, .int 0, .ref p_st, .ref p_ib, .ref p_di, .ref p_wa, .ref p_se, .ref p_vh, .ref p_re])), (p_v, .inl (cI, 4, .inl zi)), (p_st, .inl (cI, 4, .inl zi)), (p_ib, .inl (cZ, 4, .inl zi)), (p_se, .inl (cI, 4, .inl zi))] sz)) 0 0 (va_A [(x, .inr (7, [.ref bx, .ref po, .ref tr, .ref pa, .ref sp])), (bx, .inr (2, [.ref b0, .ref b1, .int 0, .int 0, .ref b4, .int 0, .ref b6, .int 0, .int 0, .int 0, .int 0])), (pa, .inr (3, [.ref p_v, .int 0, .ref p_st, .ref p_ib, .ref p_di, .ref p_wa, .ref p_se, .ref p_vh, .ref p_re])), (p_v, .inl (cI, 4, .inl zi)), (p_st, .inl (cI, 4, .inl zi)), (p_ib, .inl (cZ, 4, .inl zi)), (p_se, .inl (cI, 4, .inl zi))] sz) := by
  refine Met.ofW (cc := cX5_shareHouse) (maxL := 3) (ret := none) (by decide) rfl ?_
  intro p e s m args below meth c s₁ B hml hv
  obtain ⟨rfl, hsz, hP, hK, hD0⟩ := hv
  have hx := B.exec
  have hb := B.bytes
  have hr := B.returns
  have hts := atoms_spec (ws := wsX5_shareHouse) B.pre
  have hown : s.vm.findClass RX5 = some m.cls := findClass_of_methodNamed B.named
  have hlocks := B.notSynchronized
  subst hsz
  have hD := hD0.self (sz := s.heap.size)
  generalize hAe : va_A [(x, .inr (7, [.ref bx, .ref po, .ref tr, .ref pa, .ref sp])), (bx, .inr (2, [.ref b0, .ref b1, .int 0, .int 0, .ref b4, .int 0, .ref b6, .int 0, .int 0, .int 0, .int 0])), (pa, .inr (3, [.ref p_v, .int 0, .ref p_st, .ref p_ib, .ref p_di, .ref p_wa, .ref p_se, .ref p_vh, .ref p_re])), (p_v, .inl (cI, 4, .inl zi)), (p_st, .inl (cI, 4, .inl zi)), (p_ib, .inl (cZ, 4, .inl zi)), (p_se, .inl (cI, 4, .inl zi))] s.heap.size = A at hD ⊢
  have hA : ∀ q : Nat, s.heap.size ≤ q → A q := fun q h => by rw [← hAe]; exact Or.inr h
  have hS : va_S A s.heap s.heap [] := va_S.rf
  have hP : va_P (dC, dI) vwCl [(x, .inr (7, [.ref bx, .ref po, .ref tr, .ref pa, .ref sp])), (bx, .inr (2, [.ref b0, .ref b1, .int 0, .int 0, .ref b4, .int 0, .ref b6, .int 0, .int 0, .int 0, .int 0])), (pa, .inr (3, [.ref p_v, .int 0, .ref p_st, .ref p_ib, .ref p_di, .ref p_wa, .ref p_se, .ref p_vh, .ref p_re])), (p_v, .inl (cI, 4, .inl zi)), (p_st, .inl (cI, 4, .inl zi)), (p_ib, .inl (cZ, 4, .inl zi)), (p_se, .inl (cI, 4, .inl zi))] s.heap := hP
  have hK : va_K (dC, dI) vwCl [(cI, .int), (cZ, .boolean)] s := hK
  have hl := lv_entry ([.ref x, .int ho, .int ru]) (n := 3) (Nat.le_of_ble_eq_true rfl)
  rw [lg_entry_eq]
  generalize (lg_sl ([.ref x, .int ho, .int ru]) ++ List.replicate (3 - (lg_sl ([.ref x, .int ho, .int ru])).length) Slot.unset).toArray = ls at hl ⊢
  have hl : lv_has ls 3 [(0, .ref x), (1, .int ho), (2, .int ru)] := hl
  refine lv_aload_n hx hb dX5_shareHouse_0 rfl (lv_at hl 0 rfl) ?_
  have hinX5 : ∀ w ∈ u_ws RX5 TX5 5, w ∈ wsX5_shareHouse := by decide +kernel
  refine va_get (D := (dC, dI)) (ci := 7) (v := .ref pa) (C := RX5) (T := TX5) (N := 5) hx hb hts hinX5 hown hK hP 0 rfl rfl 3 (by decide) (hts (.fieldLink RX5 33 "BallotLoom" "parties" "LBallotLoom$Parties;") (by decide +kernel)) (fun _ h9 => h9) rfl dX5_shareHouse_1 ?_
  refine lv_aload_n hx hb dX5_shareHouse_4 rfl (lv_at hl 0 rfl) ?_
  refine va_get (D := (dC, dI)) (ci := 7) (v := .ref bx) (C := RX5) (T := TX5) (N := 5) hx hb hts hinX5 hown hK hP 0 rfl rfl 0 (by decide) (hts (.fieldLink RX5 10 "BallotLoom" "box" "LBallotLoom$Box;") (by decide +kernel)) (fun _ h9 => h9) rfl dX5_shareHouse_5 ?_
  have hPc := hP.sub (ws' := [(pa, .inr (3, [.ref p_v, .int 0, .ref p_st, .ref p_ib, .ref p_di, .ref p_wa, .ref p_se, .ref p_vh, .ref p_re])), (bx, .inr (2, [.ref b0, .ref b1, .int 0, .int 0, .ref b4, .int 0, .ref b6, .int 0, .int 0, .int 0, .int 0])), (p_v, .inl (cI, 4, .inl zi)), (p_st, .inl (cI, 4, .inl zi)), (p_ib, .inl (cZ, 4, .inl zi))]) [2, 1, 3, 4, 5] rfl
  have hDc := hD.sub (ws' := [(pa, .inr (3, [.ref p_v, .int 0, .ref p_st, .ref p_ib, .ref p_di, .ref p_wa, .ref p_se, .ref p_vh, .ref p_re])), (bx, .inr (2, [.ref b0, .ref b1, .int 0, .int 0, .ref b4, .int 0, .ref b6, .int 0, .int 0, .int 0, .int 0])), (p_v, .inl (cI, 4, .inl zi)), (p_st, .inl (cI, 4, .inl zi)), (p_ib, .inl (cZ, 4, .inl zi))]) [2, 1, 3, 4, 5] (by decide) rfl
  have hKc := hK.sub (tys' := [(cI, .int), (cZ, .boolean)]) [0, 1] rfl
  have hFc := va_free (wc := [(pa, .inr (3, [.ref p_v, .int 0, .ref p_st, .ref p_ib, .ref p_di, .ref p_wa, .ref p_se, .ref p_vh, .ref p_re])), (bx, .inr (2, [.ref b0, .ref b1, .int 0, .int 0, .ref b4, .int 0, .ref b6, .int 0, .int 0, .int 0, .int 0])), (p_v, .inl (cI, 4, .inl zi)), (p_st, .inl (cI, 4, .inl zi)), (p_ib, .inl (cZ, 4, .inl zi))]) hD hS hA [2, 1, 3, 4, 5] rfl
  refine va_callv (va_runV (As := [.ref bx]) (rest := []) ⟨hx, hb, hml, hown, hts⟩ (c_X1_countVotes l dC dI pa p_v p_st p_ib p_di p_wa p_se p_vh p_re bx b0 b1 b4 b6 (0 : Int32) cI cZ _ ) (cwV 1 hts gX5_shareHouse_X1_countVotes rfl rfl rfl (by decide +kernel) ⟨Nat.le_of_ble_eq_true rfl, Nat.le_of_ble_eq_true rfl⟩) ⟨pr_blind, va_recv hKc hPc (ci := 3) (q0 := 0) rfl rfl, fun U hU hW => ⟨rfl, pr_mk hU hW hPc hKc hDc⟩⟩ rfl rfl hl.1 rfl (lv_room (Nat.le_of_ble_eq_true rfl)) dX5_shareHouse_8 ⟨Nat.le_of_ble_eq_true rfl, Nat.le_of_ble_eq_true rfl⟩) hS (fun q _ h => hFc q h) hFc (fun u_1 t H1 locs ht hvm hw hB hz1 hk1 hS => ?_)
  obtain ⟨hP1, hK1, hD1⟩ := hB
  rw [ht] at hP1
  obtain ⟨hP, hD⟩ := va_join (wr := [(x, .inr (7, [.ref bx, .ref po, .ref tr, .ref pa, .ref sp])), (p_se, .inl (cI, 4, .inl zi))]) (w1 := [(pa, .inr (3, [.ref p_v, .int 0, .ref p_st, .ref p_ib, .ref p_di, .ref p_wa, .ref p_se, .ref p_vh, .ref p_re])), (bx, .inr (2, [.ref b0, .ref b1, .int 0, .int 0, .ref b4, .int 0, .ref b6, .int 0, .int 0, .int 0, .int 0])), (p_v, .inl (cI, 4, .inl zi)), (p_st, .inl (cI, 4, .inl zi)), (p_ib, .inl (cZ, 4, .inl zi))]) hP hD [2, 1, 3, 4, 5] [0, 6] rfl rfl (by decide) (by decide) hk1 hFc hP1 hD1
  generalize H1 = H at hP hS ⊢
  have hP : va_P (dC, dI) vwCl [(x, .inr (7, [.ref bx, .ref po, .ref tr, .ref pa, .ref sp])), (p_se, .inl (cI, 4, .inl zi)), (pa, .inr (3, [.ref p_v, .int 0, .ref p_st, .ref p_ib, .ref p_di, .ref p_wa, .ref p_se, .ref p_vh, .ref p_re])), (bx, .inr (2, [.ref b0, .ref b1, .int 0, .int 0, .ref b4, .int 0, .ref b6, .int 0, .int 0, .int 0, .int 0])), (p_v, .inl (cI, 4, .inl zi)), (p_st, .inl (cI, 4, .inl zi)), (p_ib, .inl (cZ, 4, .inl zi))] H := hP
  have hD : va_D A [(x, .inr (7, [.ref bx, .ref po, .ref tr, .ref pa, .ref sp])), (p_se, .inl (cI, 4, .inl zi)), (pa, .inr (3, [.ref p_v, .int 0, .ref p_st, .ref p_ib, .ref p_di, .ref p_wa, .ref p_se, .ref p_vh, .ref p_re])), (bx, .inr (2, [.ref b0, .ref b1, .int 0, .int 0, .ref b4, .int 0, .ref b6, .int 0, .int 0, .int 0, .int 0])), (p_v, .inl (cI, 4, .inl zi)), (p_st, .inl (cI, 4, .inl zi)), (p_ib, .inl (cZ, 4, .inl zi))] := hD
  refine W.widen (k := 0) (n := 0) (Nat.le_refl _) (Nat.le_refl _) ?_
  refine lv_aload_n hx hb dX5_shareHouse_11 rfl (lv_at hl 0 rfl) ?_
  refine va_get (D := (dC, dI)) (ci := 7) (v := .ref pa) (C := RX5) (T := TX5) (N := 5) hx hb hts hinX5 hown hK hP 0 rfl rfl 3 (by decide) (hts (.fieldLink RX5 33 "BallotLoom" "parties" "LBallotLoom$Parties;") (by decide +kernel)) (fun _ h9 => h9) rfl dX5_shareHouse_12 ?_
  refine lv_iload_n hx hb dX5_shareHouse_15 rfl (lv_at hl 1 rfl) ?_
  refine lv_iload_n hx hb dX5_shareHouse_16 rfl (lv_at hl 2 rfl) ?_
  have hPc := hP.sub (ws' := [(pa, .inr (3, [.ref p_v, .int 0, .ref p_st, .ref p_ib, .ref p_di, .ref p_wa, .ref p_se, .ref p_vh, .ref p_re])), (p_v, .inl (cI, 4, .inl zi)), (p_ib, .inl (cZ, 4, .inl zi)), (p_se, .inl (cI, 4, .inl zi))]) [2, 4, 6, 1] rfl
  have hDc := hD.sub (ws' := [(pa, .inr (3, [.ref p_v, .int 0, .ref p_st, .ref p_ib, .ref p_di, .ref p_wa, .ref p_se, .ref p_vh, .ref p_re])), (p_v, .inl (cI, 4, .inl zi)), (p_ib, .inl (cZ, 4, .inl zi)), (p_se, .inl (cI, 4, .inl zi))]) [2, 4, 6, 1] (by decide) rfl
  have hKc := hK.sub (tys' := [(cI, .int), (cZ, .boolean)]) [0, 1] rfl
  have hFc := va_free (wc := [(pa, .inr (3, [.ref p_v, .int 0, .ref p_st, .ref p_ib, .ref p_di, .ref p_wa, .ref p_se, .ref p_vh, .ref p_re])), (p_v, .inl (cI, 4, .inl zi)), (p_ib, .inl (cZ, 4, .inl zi)), (p_se, .inl (cI, 4, .inl zi))]) hD hS hA [2, 4, 6, 1] rfl
  refine va_callv (va_runV (As := [.int ho, .int ru]) (rest := []) ⟨hx, hb, hml, hown, hts⟩ (c_X1_shareSeats l dC dI pa p_v p_st p_ib p_di p_wa p_se p_vh p_re ho ru cI cZ _ hh1) (cwV 2 hts gX5_shareHouse_X1_shareSeats rfl rfl rfl (by decide +kernel) ⟨Nat.le_of_ble_eq_true rfl, Nat.le_of_ble_eq_true rfl⟩) ⟨pr_blind, va_recv hKc hPc (ci := 3) (q0 := 0) rfl rfl, fun U hU hW => ⟨rfl, pr_mk hU hW hPc hKc hDc⟩⟩ rfl rfl hl.1 rfl (lv_room (Nat.le_of_ble_eq_true rfl)) dX5_shareHouse_17 ⟨Nat.le_of_ble_eq_true rfl, Nat.le_of_ble_eq_true rfl⟩) hS (fun q _ h => hFc q h) hFc (fun u_3 t H1 locs ht hvm hw hB hz1 hk1 hS => ?_)
  obtain ⟨hP1, hK1, hD1⟩ := hB
  rw [ht] at hP1
  obtain ⟨hP, hD⟩ := va_join (wr := [(x, .inr (7, [.ref bx, .ref po, .ref tr, .ref pa, .ref sp])), (bx, .inr (2, [.ref b0, .ref b1, .int 0, .int 0, .ref b4, .int 0, .ref b6, .int 0, .int 0, .int 0, .int 0])), (p_st, .inl (cI, 4, .inl zi))]) (w1 := [(pa, .inr (3, [.ref p_v, .int 0, .ref p_st, .ref p_ib, .ref p_di, .ref p_wa, .ref p_se, .ref p_vh, .ref p_re])), (p_v, .inl (cI, 4, .inl zi)), (p_ib, .inl (cZ, 4, .inl zi)), (p_se, .inl (cI, 4, .inl zi))]) hP hD [2, 4, 6, 1] [0, 3, 5] rfl rfl (by decide) (by decide) hk1 hFc hP1 hD1
  generalize H1 = H at hP hS ⊢
  have hP : va_P (dC, dI) vwCl [(x, .inr (7, [.ref bx, .ref po, .ref tr, .ref pa, .ref sp])), (bx, .inr (2, [.ref b0, .ref b1, .int 0, .int 0, .ref b4, .int 0, .ref b6, .int 0, .int 0, .int 0, .int 0])), (p_st, .inl (cI, 4, .inl zi)), (pa, .inr (3, [.ref p_v, .int 0, .ref p_st, .ref p_ib, .ref p_di, .ref p_wa, .ref p_se, .ref p_vh, .ref p_re])), (p_v, .inl (cI, 4, .inl zi)), (p_ib, .inl (cZ, 4, .inl zi)), (p_se, .inl (cI, 4, .inl zi))] H := hP
  have hD : va_D A [(x, .inr (7, [.ref bx, .ref po, .ref tr, .ref pa, .ref sp])), (bx, .inr (2, [.ref b0, .ref b1, .int 0, .int 0, .ref b4, .int 0, .ref b6, .int 0, .int 0, .int 0, .int 0])), (p_st, .inl (cI, 4, .inl zi)), (pa, .inr (3, [.ref p_v, .int 0, .ref p_st, .ref p_ib, .ref p_di, .ref p_wa, .ref p_se, .ref p_vh, .ref p_re])), (p_v, .inl (cI, 4, .inl zi)), (p_ib, .inl (cZ, 4, .inl zi)), (p_se, .inl (cI, 4, .inl zi))] := hD
  refine W.widen (k := 0) (n := 0) (Nat.le_refl _) (Nat.le_refl _) ?_
  have hP9 := hP.sub (ws' := [(x, .inr (7, [.ref bx, .ref po, .ref tr, .ref pa, .ref sp])), (bx, .inr (2, [.ref b0, .ref b1, .int 0, .int 0, .ref b4, .int 0, .ref b6, .int 0, .int 0, .int 0, .int 0])), (pa, .inr (3, [.ref p_v, .int 0, .ref p_st, .ref p_ib, .ref p_di, .ref p_wa, .ref p_se, .ref p_vh, .ref p_re])), (p_v, .inl (cI, 4, .inl zi)), (p_st, .inl (cI, 4, .inl zi)), (p_ib, .inl (cZ, 4, .inl zi)), (p_se, .inl (cI, 4, .inl zi))]) [0, 1, 3, 4, 2, 5, 6] rfl
  have hD9 := hD.sub (ws' := [(x, .inr (7, [.ref bx, .ref po, .ref tr, .ref pa, .ref sp])), (bx, .inr (2, [.ref b0, .ref b1, .int 0, .int 0, .ref b4, .int 0, .ref b6, .int 0, .int 0, .int 0, .int 0])), (pa, .inr (3, [.ref p_v, .int 0, .ref p_st, .ref p_ib, .ref p_di, .ref p_wa, .ref p_se, .ref p_vh, .ref p_re])), (p_v, .inl (cI, 4, .inl zi)), (p_st, .inl (cI, 4, .inl zi)), (p_ib, .inl (cZ, 4, .inl zi)), (p_se, .inl (cI, 4, .inl zi))]) [0, 1, 3, 4, 2, 5, 6] (by decide) rfl
  have hK9 := hK.sub (tys' := [(cI, .int), (cZ, .boolean)]) [0, 1] rfl
  refine W.widen (k := 0) (n := 0) (Nat.le_of_ble_eq_true rfl) (Nat.le_of_ble_eq_true rfl) ?_
  exact W.vret hx hb hr (fun t ht hW => ⟨⟨(), rfl, trivial, po_mk ht hW hP9 hK9 hD9⟩, hS.F ht⟩) hS.2.2 dX5_shareHouse_20

set_option maxHeartbeats 4000000 in
set_option maxRecDepth 100000 in
theorem c_X5_ofParty (l : Launch) (dC : Nat → ClassId) (dI : Nat → Nat → Nat) (x : Nat) (po : Nat) (tr : Nat) (sp : Nat) (bx : Nat) (b0 : Nat) (b1 : Nat) (b4 : Nat) (b6 : Nat) (pa : Nat) (p_v : Nat) (p_st : Nat) (p_ib : Nat) (p_di : Nat) (p_wa : Nat) (p_se : Nat) (p_vh : Nat) (p_re : Nat) (cI : ClassId) (cZ : ClassId) (a0 : Int32) (a1 : Int32) (sz : Nat) (g0a : ¬ a0 < 0) (g0b : ¬ 4 ≤ a0) (g1a : ¬ a1 < 0) (g1b : a1 ≤ 4) : Met l yX5_ofParty wsX5_ofParty ({ frames := 6, cells := 0, slots := 0, locals := 170 }) (va_Pc [.ref x, .int a0, .int a1] (pr_ dC dI [(x, .inr (7, [.ref bx, .ref po, .ref tr, .ref pa, .ref sp])), (bx, .inr (2, [.ref b0, .ref b1, .int 0, .int 0, .ref b4, .int 0, .ref b6, .int 0, .int 0, .int 0, .int 0])), (pa, .inr (3, [.ref p_v, .int 0, .ref p_st, .ref p_ib, .ref p_di, .ref p_wa, .ref p_se, .ref p_vh, .ref p_re])), (p_v, .inl (cI, 4, .inl zi)), (p_st, .inl (cI, 4, .inl zi)), (p_ib, .inl (cZ, 4, .inl zi)), (p_di, .inl (cI, 4, .inl zi)), (p_wa, .inl (cI, 4, .inl zi)), (p_se, .inl (cI, 4, .inl zi))] [(cI, .int), (cZ, .boolean)] sz)) (va_Qi (fun (r : Int32) (_ : Unit) => r = 0) (fun (_ : Unit) t => po_ dC dI [] [(cI, .int), (cZ, .boolean)] (va_A [(x, .inr (7, [.ref bx, .ref po, .ref tr, .ref pa, .ref sp])), (bx, .inr (2, [.ref b0, .ref b1, .int 0, .int 0, .ref b4, .int 0, .ref b6, .int 0, .int 0, .int 0, .int 0])), (pa, .inr (3, [.ref p_v, .int 0, .ref p_st, .ref p_ib, .ref p_di, .ref p_wa, .ref p_se, .ref p_vh, .ref p_re])), (p_v, .inl (cI, 4, .inl zi)), (p_st, .inl (cI, 4, .inl zi)), (p_ib, .inl (cZ, 4, .inl zi)), (p_di, .inl (cI, 4, .inl zi)), (p_wa, .inl (cI, 4, .inl zi)), (p_se, .inl (cI, 4, .inl zi))] sz) t) (va_A [(x, .inr (7, [.ref bx, .ref po, .ref tr, .ref pa, .ref sp])), (bx, .inr (2, [.ref b0, .ref b1, .int 0, .int 0, .ref b4, .int 0, .ref b6, .int 0, .int 0, .int 0, .int 0])), (pa, .inr (3, [.ref p_v, .int 0, .ref p_st, .ref p_ib, .ref p_di, .ref p_wa, .ref p_se, .ref p_vh, .ref p_re])), (p_v, .inl (cI, 4, .inl zi)), (p_st, .inl (cI, 4, .inl zi)), (p_ib, .inl (cZ, 4, .inl zi)), (p_di, .inl (cI, 4, .inl zi)), (p_wa, .inl (cI, 4, .inl zi)), (p_se, .inl (cI, 4, .inl zi))] sz)) 0 0 (va_A [(x, .inr (7, [.ref bx, .ref po, .ref tr, .ref pa, .ref sp])), (bx, .inr (2, [.ref b0, .ref b1, .int 0, .int 0, .ref b4, .int 0, .ref b6, .int 0, .int 0, .int 0, .int 0])), (pa, .inr (3, [.ref p_v, .int 0, .ref p_st, .ref p_ib, .ref p_di, .ref p_wa, .ref p_se, .ref p_vh, .ref p_re])), (p_v, .inl (cI, 4, .inl zi)), (p_st, .inl (cI, 4, .inl zi)), (p_ib, .inl (cZ, 4, .inl zi)), (p_di, .inl (cI, 4, .inl zi)), (p_wa, .inl (cI, 4, .inl zi)), (p_se, .inl (cI, 4, .inl zi))] sz) := by
  refine Met.ofW (cc := cX5_ofParty) (maxL := 3) (ret := (some .int)) (by decide) rfl ?_
  intro p e s m args below meth c s₁ B hml hv
  obtain ⟨rfl, hsz, hP, hK, hD0⟩ := hv
  have hx := B.exec
  have hb := B.bytes
  have hr := B.returns
  have hts := atoms_spec (ws := wsX5_ofParty) B.pre
  have hown : s.vm.findClass RX5 = some m.cls := findClass_of_methodNamed B.named
  have hlocks := B.notSynchronized
  subst hsz
  have hD := hD0.self (sz := s.heap.size)
  generalize hAe : va_A [(x, .inr (7, [.ref bx, .ref po, .ref tr, .ref pa, .ref sp])), (bx, .inr (2, [.ref b0, .ref b1, .int 0, .int 0, .ref b4, .int 0, .ref b6, .int 0, .int 0, .int 0, .int 0])), (pa, .inr (3, [.ref p_v, .int 0, .ref p_st, .ref p_ib, .ref p_di, .ref p_wa, .ref p_se, .ref p_vh, .ref p_re])), (p_v, .inl (cI, 4, .inl zi)), (p_st, .inl (cI, 4, .inl zi)), (p_ib, .inl (cZ, 4, .inl zi)), (p_di, .inl (cI, 4, .inl zi)), (p_wa, .inl (cI, 4, .inl zi)), (p_se, .inl (cI, 4, .inl zi))] s.heap.size = A at hD ⊢
  have hA : ∀ q : Nat, s.heap.size ≤ q → A q := fun q h => by rw [← hAe]; exact Or.inr h
  have hS : va_S A s.heap s.heap [] := va_S.rf
  have hP : va_P (dC, dI) vwCl [(x, .inr (7, [.ref bx, .ref po, .ref tr, .ref pa, .ref sp])), (bx, .inr (2, [.ref b0, .ref b1, .int 0, .int 0, .ref b4, .int 0, .ref b6, .int 0, .int 0, .int 0, .int 0])), (pa, .inr (3, [.ref p_v, .int 0, .ref p_st, .ref p_ib, .ref p_di, .ref p_wa, .ref p_se, .ref p_vh, .ref p_re])), (p_v, .inl (cI, 4, .inl zi)), (p_st, .inl (cI, 4, .inl zi)), (p_ib, .inl (cZ, 4, .inl zi)), (p_di, .inl (cI, 4, .inl zi)), (p_wa, .inl (cI, 4, .inl zi)), (p_se, .inl (cI, 4, .inl zi))] s.heap := hP
  have hK : va_K (dC, dI) vwCl [(cI, .int), (cZ, .boolean)] s := hK
  have hl := lv_entry ([.ref x, .int a0, .int a1]) (n := 3) (Nat.le_of_ble_eq_true rfl)
  rw [lg_entry_eq]
  generalize (lg_sl ([.ref x, .int a0, .int a1]) ++ List.replicate (3 - (lg_sl ([.ref x, .int a0, .int a1])).length) Slot.unset).toArray = ls at hl ⊢
  have hl : lv_has ls 3 [(0, .ref x), (1, .int a0), (2, .int a1)] := hl
  refine lv_iload_n hx hb dX5_ofParty_0 rfl (lv_at hl 1 rfl) ?_
  have hPc := hP.sub (ws' := []) [] rfl
  have hDc := hD.sub (ws' := []) [] (by decide) rfl
  have hKc := hK.sub (tys' := []) [] rfl
  have hFc := va_free (wc := []) hD hS hA [] rfl
  refine va_callv (va_runS (As := [.int a0]) (rest := []) ⟨hx, hb, hml, hown, hts⟩ (c_X5_checkParty l dC dI a0 _ g0a g0b) (va_cwS 1 hts gX5_ofParty_X5_checkParty rfl rfl rfl (by decide +kernel) ⟨Nat.le_of_ble_eq_true rfl, Nat.le_of_ble_eq_true rfl⟩) ⟨pr_blind, fun U hU hW => ⟨rfl, pr_mk hU hW hPc hKc hDc⟩⟩ rfl rfl hl.1 rfl (lv_room (Nat.le_of_ble_eq_true rfl)) dX5_ofParty_1 ⟨Nat.le_of_ble_eq_true rfl, Nat.le_of_ble_eq_true rfl⟩) hS (fun q _ h => hFc q h) hFc (fun u_1 t H1 locs ht hvm hw hB hz1 hk1 hS => ?_)
  obtain ⟨hP1, hK1, hD1⟩ := hB
  rw [ht] at hP1
  obtain ⟨hP, hD⟩ := va_join (wr := [(x, .inr (7, [.ref bx, .ref po, .ref tr, .ref pa, .ref sp])), (bx, .inr (2, [.ref b0, .ref b1, .int 0, .int 0, .ref b4, .int 0, .ref b6, .int 0, .int 0, .int 0, .int 0])), (pa, .inr (3, [.ref p_v, .int 0, .ref p_st, .ref p_ib, .ref p_di, .ref p_wa, .ref p_se, .ref p_vh, .ref p_re])), (p_v, .inl (cI, 4, .inl zi)), (p_st, .inl (cI, 4, .inl zi)), (p_ib, .inl (cZ, 4, .inl zi)), (p_di, .inl (cI, 4, .inl zi)), (p_wa, .inl (cI, 4, .inl zi)), (p_se, .inl (cI, 4, .inl zi))]) (w1 := []) hP hD [] [0, 1, 2, 3, 4, 5, 6, 7, 8] rfl rfl (by decide) (by decide) hk1 hFc hP1 hD1
  generalize H1 = H at hP hS ⊢
  have hP : va_P (dC, dI) vwCl [(x, .inr (7, [.ref bx, .ref po, .ref tr, .ref pa, .ref sp])), (bx, .inr (2, [.ref b0, .ref b1, .int 0, .int 0, .ref b4, .int 0, .ref b6, .int 0, .int 0, .int 0, .int 0])), (pa, .inr (3, [.ref p_v, .int 0, .ref p_st, .ref p_ib, .ref p_di, .ref p_wa, .ref p_se, .ref p_vh, .ref p_re])), (p_v, .inl (cI, 4, .inl zi)), (p_st, .inl (cI, 4, .inl zi)), (p_ib, .inl (cZ, 4, .inl zi)), (p_di, .inl (cI, 4, .inl zi)), (p_wa, .inl (cI, 4, .inl zi)), (p_se, .inl (cI, 4, .inl zi))] H := hP
  have hD : va_D A [(x, .inr (7, [.ref bx, .ref po, .ref tr, .ref pa, .ref sp])), (bx, .inr (2, [.ref b0, .ref b1, .int 0, .int 0, .ref b4, .int 0, .ref b6, .int 0, .int 0, .int 0, .int 0])), (pa, .inr (3, [.ref p_v, .int 0, .ref p_st, .ref p_ib, .ref p_di, .ref p_wa, .ref p_se, .ref p_vh, .ref p_re])), (p_v, .inl (cI, 4, .inl zi)), (p_st, .inl (cI, 4, .inl zi)), (p_ib, .inl (cZ, 4, .inl zi)), (p_di, .inl (cI, 4, .inl zi)), (p_wa, .inl (cI, 4, .inl zi)), (p_se, .inl (cI, 4, .inl zi))] := hD
  refine W.widen (k := 0) (n := 0) (Nat.le_refl _) (Nat.le_refl _) ?_
  refine lv_iload_n hx hb dX5_ofParty_4 rfl (lv_at hl 2 rfl) ?_
  refine lv_iconst (v := 4) hx hb dX5_ofParty_5 (by decide) ?_
  have hPc := hP.sub (ws' := []) [] rfl
  have hDc := hD.sub (ws' := []) [] (by decide) rfl
  have hKc := hK.sub (tys' := []) [] rfl
  have hFc := va_free (wc := []) hD hS hA [] rfl
  refine va_callv (va_runS (As := [.int a1, .int 4]) (rest := []) ⟨hx, hb, hml, hown, hts⟩ (c_X5_checkWhat l dC dI a1 (4 : Int32) _ g1a g1b) (va_cwS 2 hts gX5_ofParty_X5_checkWhat rfl rfl rfl (by decide +kernel) ⟨Nat.le_of_ble_eq_true rfl, Nat.le_of_ble_eq_true rfl⟩) ⟨pr_blind, fun U hU hW => ⟨rfl, pr_mk hU hW hPc hKc hDc⟩⟩ rfl rfl hl.1 rfl (lv_room (Nat.le_of_ble_eq_true rfl)) dX5_ofParty_6 ⟨Nat.le_of_ble_eq_true rfl, Nat.le_of_ble_eq_true rfl⟩) hS (fun q _ h => hFc q h) hFc (fun u_3 t H1 locs ht hvm hw hB hz1 hk1 hS => ?_)
  obtain ⟨hP1, hK1, hD1⟩ := hB
  rw [ht] at hP1
  obtain ⟨hP, hD⟩ := va_join (wr := [(x, .inr (7, [.ref bx, .ref po, .ref tr, .ref pa, .ref sp])), (bx, .inr (2, [.ref b0, .ref b1, .int 0, .int 0, .ref b4, .int 0, .ref b6, .int 0, .int 0, .int 0, .int 0])), (pa, .inr (3, [.ref p_v, .int 0, .ref p_st, .ref p_ib, .ref p_di, .ref p_wa, .ref p_se, .ref p_vh, .ref p_re])), (p_v, .inl (cI, 4, .inl zi)), (p_st, .inl (cI, 4, .inl zi)), (p_ib, .inl (cZ, 4, .inl zi)), (p_di, .inl (cI, 4, .inl zi)), (p_wa, .inl (cI, 4, .inl zi)), (p_se, .inl (cI, 4, .inl zi))]) (w1 := []) hP hD [] [0, 1, 2, 3, 4, 5, 6, 7, 8] rfl rfl (by decide) (by decide) hk1 hFc hP1 hD1
  generalize H1 = H at hP hS ⊢
  have hP : va_P (dC, dI) vwCl [(x, .inr (7, [.ref bx, .ref po, .ref tr, .ref pa, .ref sp])), (bx, .inr (2, [.ref b0, .ref b1, .int 0, .int 0, .ref b4, .int 0, .ref b6, .int 0, .int 0, .int 0, .int 0])), (pa, .inr (3, [.ref p_v, .int 0, .ref p_st, .ref p_ib, .ref p_di, .ref p_wa, .ref p_se, .ref p_vh, .ref p_re])), (p_v, .inl (cI, 4, .inl zi)), (p_st, .inl (cI, 4, .inl zi)), (p_ib, .inl (cZ, 4, .inl zi)), (p_di, .inl (cI, 4, .inl zi)), (p_wa, .inl (cI, 4, .inl zi)), (p_se, .inl (cI, 4, .inl zi))] H := hP
  have hD : va_D A [(x, .inr (7, [.ref bx, .ref po, .ref tr, .ref pa, .ref sp])), (bx, .inr (2, [.ref b0, .ref b1, .int 0, .int 0, .ref b4, .int 0, .ref b6, .int 0, .int 0, .int 0, .int 0])), (pa, .inr (3, [.ref p_v, .int 0, .ref p_st, .ref p_ib, .ref p_di, .ref p_wa, .ref p_se, .ref p_vh, .ref p_re])), (p_v, .inl (cI, 4, .inl zi)), (p_st, .inl (cI, 4, .inl zi)), (p_ib, .inl (cZ, 4, .inl zi)), (p_di, .inl (cI, 4, .inl zi)), (p_wa, .inl (cI, 4, .inl zi)), (p_se, .inl (cI, 4, .inl zi))] := hD
  refine W.widen (k := 0) (n := 0) (Nat.le_refl _) (Nat.le_refl _) ?_
  refine lv_aload_n hx hb dX5_ofParty_9 rfl (lv_at hl 0 rfl) ?_
  have hinX5 : ∀ w ∈ u_ws RX5 TX5 5, w ∈ wsX5_ofParty := by decide +kernel
  refine va_get (D := (dC, dI)) (ci := 7) (v := .ref pa) (C := RX5) (T := TX5) (N := 5) hx hb hts hinX5 hown hK hP 0 rfl rfl 3 (by decide) (hts (.fieldLink RX5 33 "BallotLoom" "parties" "LBallotLoom$Parties;") (by decide +kernel)) (fun _ h9 => h9) rfl dX5_ofParty_10 ?_
  refine lv_aload_n hx hb dX5_ofParty_13 rfl (lv_at hl 0 rfl) ?_
  refine va_get (D := (dC, dI)) (ci := 7) (v := .ref bx) (C := RX5) (T := TX5) (N := 5) hx hb hts hinX5 hown hK hP 0 rfl rfl 0 (by decide) (hts (.fieldLink RX5 10 "BallotLoom" "box" "LBallotLoom$Box;") (by decide +kernel)) (fun _ h9 => h9) rfl dX5_ofParty_14 ?_
  have hPc := hP.sub (ws' := [(pa, .inr (3, [.ref p_v, .int 0, .ref p_st, .ref p_ib, .ref p_di, .ref p_wa, .ref p_se, .ref p_vh, .ref p_re])), (bx, .inr (2, [.ref b0, .ref b1, .int 0, .int 0, .ref b4, .int 0, .ref b6, .int 0, .int 0, .int 0, .int 0])), (p_v, .inl (cI, 4, .inl zi)), (p_st, .inl (cI, 4, .inl zi)), (p_ib, .inl (cZ, 4, .inl zi))]) [2, 1, 3, 4, 5] rfl
  have hDc := hD.sub (ws' := [(pa, .inr (3, [.ref p_v, .int 0, .ref p_st, .ref p_ib, .ref p_di, .ref p_wa, .ref p_se, .ref p_vh, .ref p_re])), (bx, .inr (2, [.ref b0, .ref b1, .int 0, .int 0, .ref b4, .int 0, .ref b6, .int 0, .int 0, .int 0, .int 0])), (p_v, .inl (cI, 4, .inl zi)), (p_st, .inl (cI, 4, .inl zi)), (p_ib, .inl (cZ, 4, .inl zi))]) [2, 1, 3, 4, 5] (by decide) rfl
  have hKc := hK.sub (tys' := [(cI, .int), (cZ, .boolean)]) [0, 1] rfl
  have hFc := va_free (wc := [(pa, .inr (3, [.ref p_v, .int 0, .ref p_st, .ref p_ib, .ref p_di, .ref p_wa, .ref p_se, .ref p_vh, .ref p_re])), (bx, .inr (2, [.ref b0, .ref b1, .int 0, .int 0, .ref b4, .int 0, .ref b6, .int 0, .int 0, .int 0, .int 0])), (p_v, .inl (cI, 4, .inl zi)), (p_st, .inl (cI, 4, .inl zi)), (p_ib, .inl (cZ, 4, .inl zi))]) hD hS hA [2, 1, 3, 4, 5] rfl
  refine va_callv (va_runV (As := [.ref bx]) (rest := []) ⟨hx, hb, hml, hown, hts⟩ (c_X1_countVotes l dC dI pa p_v p_st p_ib p_di p_wa p_se p_vh p_re bx b0 b1 b4 b6 (0 : Int32) cI cZ _ ) (cwV 1 hts gX5_ofParty_X1_countVotes rfl rfl rfl (by decide +kernel) ⟨Nat.le_of_ble_eq_true rfl, Nat.le_of_ble_eq_true rfl⟩) ⟨pr_blind, va_recv hKc hPc (ci := 3) (q0 := 0) rfl rfl, fun U hU hW => ⟨rfl, pr_mk hU hW hPc hKc hDc⟩⟩ rfl rfl hl.1 rfl (lv_room (Nat.le_of_ble_eq_true rfl)) dX5_ofParty_17 ⟨Nat.le_of_ble_eq_true rfl, Nat.le_of_ble_eq_true rfl⟩) hS (fun q _ h => hFc q h) hFc (fun u_5 t H1 locs ht hvm hw hB hz1 hk1 hS => ?_)
  obtain ⟨hP1, hK1, hD1⟩ := hB
  rw [ht] at hP1
  obtain ⟨hP, hD⟩ := va_join (wr := [(x, .inr (7, [.ref bx, .ref po, .ref tr, .ref pa, .ref sp])), (p_di, .inl (cI, 4, .inl zi)), (p_wa, .inl (cI, 4, .inl zi)), (p_se, .inl (cI, 4, .inl zi))]) (w1 := [(pa, .inr (3, [.ref p_v, .int 0, .ref p_st, .ref p_ib, .ref p_di, .ref p_wa, .ref p_se, .ref p_vh, .ref p_re])), (bx, .inr (2, [.ref b0, .ref b1, .int 0, .int 0, .ref b4, .int 0, .ref b6, .int 0, .int 0, .int 0, .int 0])), (p_v, .inl (cI, 4, .inl zi)), (p_st, .inl (cI, 4, .inl zi)), (p_ib, .inl (cZ, 4, .inl zi))]) hP hD [2, 1, 3, 4, 5] [0, 6, 7, 8] rfl rfl (by decide) (by decide) hk1 hFc hP1 hD1
  generalize H1 = H at hP hS ⊢
  have hP : va_P (dC, dI) vwCl [(x, .inr (7, [.ref bx, .ref po, .ref tr, .ref pa, .ref sp])), (p_di, .inl (cI, 4, .inl zi)), (p_wa, .inl (cI, 4, .inl zi)), (p_se, .inl (cI, 4, .inl zi)), (pa, .inr (3, [.ref p_v, .int 0, .ref p_st, .ref p_ib, .ref p_di, .ref p_wa, .ref p_se, .ref p_vh, .ref p_re])), (bx, .inr (2, [.ref b0, .ref b1, .int 0, .int 0, .ref b4, .int 0, .ref b6, .int 0, .int 0, .int 0, .int 0])), (p_v, .inl (cI, 4, .inl zi)), (p_st, .inl (cI, 4, .inl zi)), (p_ib, .inl (cZ, 4, .inl zi))] H := hP
  have hD : va_D A [(x, .inr (7, [.ref bx, .ref po, .ref tr, .ref pa, .ref sp])), (p_di, .inl (cI, 4, .inl zi)), (p_wa, .inl (cI, 4, .inl zi)), (p_se, .inl (cI, 4, .inl zi)), (pa, .inr (3, [.ref p_v, .int 0, .ref p_st, .ref p_ib, .ref p_di, .ref p_wa, .ref p_se, .ref p_vh, .ref p_re])), (bx, .inr (2, [.ref b0, .ref b1, .int 0, .int 0, .ref b4, .int 0, .ref b6, .int 0, .int 0, .int 0, .int 0])), (p_v, .inl (cI, 4, .inl zi)), (p_st, .inl (cI, 4, .inl zi)), (p_ib, .inl (cZ, 4, .inl zi))] := hD
  refine W.widen (k := 0) (n := 0) (Nat.le_refl _) (Nat.le_refl _) ?_
  refine lv_aload_n hx hb dX5_ofParty_20 rfl (lv_at hl 0 rfl) ?_
  refine va_get (D := (dC, dI)) (ci := 7) (v := .ref pa) (C := RX5) (T := TX5) (N := 5) hx hb hts hinX5 hown hK hP 0 rfl rfl 3 (by decide) (hts (.fieldLink RX5 33 "BallotLoom" "parties" "LBallotLoom$Parties;") (by decide +kernel)) (fun _ h9 => h9) rfl dX5_ofParty_21 ?_
  refine lv_aload_n hx hb dX5_ofParty_24 rfl (lv_at hl 0 rfl) ?_
  refine va_get (D := (dC, dI)) (ci := 7) (v := .ref bx) (C := RX5) (T := TX5) (N := 5) hx hb hts hinX5 hown hK hP 0 rfl rfl 0 (by decide) (hts (.fieldLink RX5 10 "BallotLoom" "box" "LBallotLoom$Box;") (by decide +kernel)) (fun _ h9 => h9) rfl dX5_ofParty_25 ?_
  refine lv_aload_n hx hb dX5_ofParty_28 rfl (lv_at hl 0 rfl) ?_
  refine va_get (D := (dC, dI)) (ci := 7) (v := .ref po) (C := RX5) (T := TX5) (N := 5) hx hb hts hinX5 hown hK hP 0 rfl rfl 1 (by decide) (hts (.fieldLink RX5 19 "BallotLoom" "poll" "LBallotLoom$Poll;") (by decide +kernel)) (fun _ h9 => h9) rfl dX5_ofParty_29 ?_
  have hPc := hP.sub (ws' := [(pa, .inr (3, [.ref p_v, .int 0, .ref p_st, .ref p_ib, .ref p_di, .ref p_wa, .ref p_se, .ref p_vh, .ref p_re])), (bx, .inr (2, [.ref b0, .ref b1, .int 0, .int 0, .ref b4, .int 0, .ref b6, .int 0, .int 0, .int 0, .int 0])), (p_di, .inl (cI, 4, .inl zi)), (p_wa, .inl (cI, 4, .inl zi))]) [4, 5, 1, 2] rfl
  have hDc := hD.sub (ws' := [(pa, .inr (3, [.ref p_v, .int 0, .ref p_st, .ref p_ib, .ref p_di, .ref p_wa, .ref p_se, .ref p_vh, .ref p_re])), (bx, .inr (2, [.ref b0, .ref b1, .int 0, .int 0, .ref b4, .int 0, .ref b6, .int 0, .int 0, .int 0, .int 0])), (p_di, .inl (cI, 4, .inl zi)), (p_wa, .inl (cI, 4, .inl zi))]) [4, 5, 1, 2] (by decide) rfl
  have hKc := hK.sub (tys' := [(cI, .int)]) [0] rfl
  have hFc := va_free (wc := [(pa, .inr (3, [.ref p_v, .int 0, .ref p_st, .ref p_ib, .ref p_di, .ref p_wa, .ref p_se, .ref p_vh, .ref p_re])), (bx, .inr (2, [.ref b0, .ref b1, .int 0, .int 0, .ref b4, .int 0, .ref b6, .int 0, .int 0, .int 0, .int 0])), (p_di, .inl (cI, 4, .inl zi)), (p_wa, .inl (cI, 4, .inl zi))]) hD hS hA [4, 5, 1, 2] rfl
  refine va_callv (va_runV (As := [.ref bx, .ref po]) (rest := []) ⟨hx, hb, hml, hown, hts⟩ (c_X1_countDistricts l dC dI pa p_v p_st p_ib p_di p_wa p_se p_vh p_re bx b0 b1 b4 b6 po cI _ ) (cwV 2 hts gX5_ofParty_X1_countDistricts rfl rfl rfl (by decide +kernel) ⟨Nat.le_of_ble_eq_true rfl, Nat.le_of_ble_eq_true rfl⟩) ⟨pr_blind, va_recv hKc hPc (ci := 3) (q0 := 0) rfl rfl, fun U hU hW => ⟨rfl, pr_mk hU hW hPc hKc hDc⟩⟩ rfl rfl hl.1 rfl (lv_room (Nat.le_of_ble_eq_true rfl)) dX5_ofParty_32 ⟨Nat.le_of_ble_eq_true rfl, Nat.le_of_ble_eq_true rfl⟩) hS (fun q _ h => hFc q h) hFc (fun u_7 t H1 locs ht hvm hw hB hz1 hk1 hS => ?_)
  obtain ⟨hP1, hK1, hD1⟩ := hB
  rw [ht] at hP1
  obtain ⟨hP, hD⟩ := va_join (wr := [(x, .inr (7, [.ref bx, .ref po, .ref tr, .ref pa, .ref sp])), (p_se, .inl (cI, 4, .inl zi)), (p_v, .inl (cI, 4, .inl zi)), (p_st, .inl (cI, 4, .inl zi)), (p_ib, .inl (cZ, 4, .inl zi))]) (w1 := [(pa, .inr (3, [.ref p_v, .int 0, .ref p_st, .ref p_ib, .ref p_di, .ref p_wa, .ref p_se, .ref p_vh, .ref p_re])), (bx, .inr (2, [.ref b0, .ref b1, .int 0, .int 0, .ref b4, .int 0, .ref b6, .int 0, .int 0, .int 0, .int 0])), (p_di, .inl (cI, 4, .inl zi)), (p_wa, .inl (cI, 4, .inl zi))]) hP hD [4, 5, 1, 2] [0, 3, 6, 7, 8] rfl rfl (by decide) (by decide) hk1 hFc hP1 hD1
  generalize H1 = H at hP hS ⊢
  have hP : va_P (dC, dI) vwCl [(x, .inr (7, [.ref bx, .ref po, .ref tr, .ref pa, .ref sp])), (p_se, .inl (cI, 4, .inl zi)), (p_v, .inl (cI, 4, .inl zi)), (p_st, .inl (cI, 4, .inl zi)), (p_ib, .inl (cZ, 4, .inl zi)), (pa, .inr (3, [.ref p_v, .int 0, .ref p_st, .ref p_ib, .ref p_di, .ref p_wa, .ref p_se, .ref p_vh, .ref p_re])), (bx, .inr (2, [.ref b0, .ref b1, .int 0, .int 0, .ref b4, .int 0, .ref b6, .int 0, .int 0, .int 0, .int 0])), (p_di, .inl (cI, 4, .inl zi)), (p_wa, .inl (cI, 4, .inl zi))] H := hP
  have hD : va_D A [(x, .inr (7, [.ref bx, .ref po, .ref tr, .ref pa, .ref sp])), (p_se, .inl (cI, 4, .inl zi)), (p_v, .inl (cI, 4, .inl zi)), (p_st, .inl (cI, 4, .inl zi)), (p_ib, .inl (cZ, 4, .inl zi)), (pa, .inr (3, [.ref p_v, .int 0, .ref p_st, .ref p_ib, .ref p_di, .ref p_wa, .ref p_se, .ref p_vh, .ref p_re])), (bx, .inr (2, [.ref b0, .ref b1, .int 0, .int 0, .ref b4, .int 0, .ref b6, .int 0, .int 0, .int 0, .int 0])), (p_di, .inl (cI, 4, .inl zi)), (p_wa, .inl (cI, 4, .inl zi))] := hD
  refine W.widen (k := 0) (n := 0) (Nat.le_refl _) (Nat.le_refl _) ?_
  refine lv_aload_n hx hb dX5_ofParty_35 rfl (lv_at hl 0 rfl) ?_
  refine va_get (D := (dC, dI)) (ci := 7) (v := .ref pa) (C := RX5) (T := TX5) (N := 5) hx hb hts hinX5 hown hK hP 0 rfl rfl 3 (by decide) (hts (.fieldLink RX5 33 "BallotLoom" "parties" "LBallotLoom$Parties;") (by decide +kernel)) (fun _ h9 => h9) rfl dX5_ofParty_36 ?_
  refine lv_iload_n hx hb dX5_ofParty_39 rfl (lv_at hl 1 rfl) ?_
  refine lv_iload_n hx hb dX5_ofParty_40 rfl (lv_at hl 2 rfl) ?_
  have hPc := hP.sub (ws' := [(pa, .inr (3, [.ref p_v, .int 0, .ref p_st, .ref p_ib, .ref p_di, .ref p_wa, .ref p_se, .ref p_vh, .ref p_re])), (p_v, .inl (cI, 4, .inl zi)), (p_st, .inl (cI, 4, .inl zi)), (p_ib, .inl (cZ, 4, .inl zi)), (p_di, .inl (cI, 4, .inl zi)), (p_wa, .inl (cI, 4, .inl zi))]) [5, 2, 3, 4, 7, 8] rfl
  have hDc := hD.sub (ws' := [(pa, .inr (3, [.ref p_v, .int 0, .ref p_st, .ref p_ib, .ref p_di, .ref p_wa, .ref p_se, .ref p_vh, .ref p_re])), (p_v, .inl (cI, 4, .inl zi)), (p_st, .inl (cI, 4, .inl zi)), (p_ib, .inl (cZ, 4, .inl zi)), (p_di, .inl (cI, 4, .inl zi)), (p_wa, .inl (cI, 4, .inl zi))]) [5, 2, 3, 4, 7, 8] (by decide) rfl
  have hKc := hK.sub (tys' := [(cI, .int), (cZ, .boolean)]) [0, 1] rfl
  have hFc := va_free (wc := [(pa, .inr (3, [.ref p_v, .int 0, .ref p_st, .ref p_ib, .ref p_di, .ref p_wa, .ref p_se, .ref p_vh, .ref p_re])), (p_v, .inl (cI, 4, .inl zi)), (p_st, .inl (cI, 4, .inl zi)), (p_ib, .inl (cZ, 4, .inl zi)), (p_di, .inl (cI, 4, .inl zi)), (p_wa, .inl (cI, 4, .inl zi))]) hD hS hA [5, 2, 3, 4, 7, 8] rfl
  refine va_calli (va_runV (As := [.int a0, .int a1]) (rest := []) ⟨hx, hb, hml, hown, hts⟩ (c_X1_figure l dC dI pa p_v p_st p_ib p_di p_wa p_se p_vh p_re a0 a1 cI cZ _ (in4 g0a g0b) (up4 g1a g1b)) (cwV 2 hts gX5_ofParty_X1_figure rfl rfl rfl (by decide +kernel) ⟨Nat.le_of_ble_eq_true rfl, Nat.le_of_ble_eq_true rfl⟩) ⟨pr_blind, va_recv hKc hPc (ci := 3) (q0 := 0) rfl rfl, fun U hU hW => ⟨rfl, pr_mk hU hW hPc hKc hDc⟩⟩ rfl rfl hl.1 rfl (lv_room (Nat.le_of_ble_eq_true rfl)) dX5_ofParty_41 ⟨Nat.le_of_ble_eq_true rfl, Nat.le_of_ble_eq_true rfl⟩) hS (fun q _ h => hFc q h) hFc (fun r_10 u_9 t H1 locs ht hvm hw hB hz1 hk1 hS => ?_)
  obtain ⟨hP1, hK1, hD1⟩ := hB
  rw [ht] at hP1
  obtain ⟨hP, hD⟩ := va_join (wr := [(x, .inr (7, [.ref bx, .ref po, .ref tr, .ref pa, .ref sp])), (p_se, .inl (cI, 4, .inl zi)), (bx, .inr (2, [.ref b0, .ref b1, .int 0, .int 0, .ref b4, .int 0, .ref b6, .int 0, .int 0, .int 0, .int 0]))]) (w1 := [(pa, .inr (3, [.ref p_v, .int 0, .ref p_st, .ref p_ib, .ref p_di, .ref p_wa, .ref p_se, .ref p_vh, .ref p_re])), (p_v, .inl (cI, 4, .inl zi)), (p_st, .inl (cI, 4, .inl zi)), (p_ib, .inl (cZ, 4, .inl zi)), (p_di, .inl (cI, 4, .inl zi)), (p_wa, .inl (cI, 4, .inl zi))]) hP hD [5, 2, 3, 4, 7, 8] [0, 1, 6] rfl rfl (by decide) (by decide) hk1 hFc hP1 hD1
  generalize H1 = H at hP hS ⊢
  have hP : va_P (dC, dI) vwCl [(x, .inr (7, [.ref bx, .ref po, .ref tr, .ref pa, .ref sp])), (p_se, .inl (cI, 4, .inl zi)), (bx, .inr (2, [.ref b0, .ref b1, .int 0, .int 0, .ref b4, .int 0, .ref b6, .int 0, .int 0, .int 0, .int 0])), (pa, .inr (3, [.ref p_v, .int 0, .ref p_st, .ref p_ib, .ref p_di, .ref p_wa, .ref p_se, .ref p_vh, .ref p_re])), (p_v, .inl (cI, 4, .inl zi)), (p_st, .inl (cI, 4, .inl zi)), (p_ib, .inl (cZ, 4, .inl zi)), (p_di, .inl (cI, 4, .inl zi)), (p_wa, .inl (cI, 4, .inl zi))] H := hP
  have hD : va_D A [(x, .inr (7, [.ref bx, .ref po, .ref tr, .ref pa, .ref sp])), (p_se, .inl (cI, 4, .inl zi)), (bx, .inr (2, [.ref b0, .ref b1, .int 0, .int 0, .ref b4, .int 0, .ref b6, .int 0, .int 0, .int 0, .int 0])), (pa, .inr (3, [.ref p_v, .int 0, .ref p_st, .ref p_ib, .ref p_di, .ref p_wa, .ref p_se, .ref p_vh, .ref p_re])), (p_v, .inl (cI, 4, .inl zi)), (p_st, .inl (cI, 4, .inl zi)), (p_ib, .inl (cZ, 4, .inl zi)), (p_di, .inl (cI, 4, .inl zi)), (p_wa, .inl (cI, 4, .inl zi))] := hD
  refine W.widen (k := 0) (n := 0) (Nat.le_refl _) (Nat.le_refl _) ?_
  have hw : r_10 = 0 := hw
  subst hw
  have hP9 := hP.sub (ws' := []) [] rfl
  have hD9 := hD.sub (ws' := []) [] (by decide) rfl
  have hK9 := hK.sub (tys' := [(cI, .int), (cZ, .boolean)]) [0, 1] rfl
  refine W.widen (k := 0) (n := 0) (Nat.le_of_ble_eq_true rfl) (Nat.le_of_ble_eq_true rfl) ?_
  exact W.iret (v := 0) hx hb hr (fun t ht hW => ⟨⟨0, (), rfl, rfl, po_mk ht hW hP9 hK9 hD9⟩, hS.F ht⟩) hS.2.2 dX5_ofParty_44

set_option maxHeartbeats 4000000 in
set_option maxRecDepth 100000 in
theorem c_X5_share (l : Launch) (dC : Nat → ClassId) (dI : Nat → Nat → Nat) (x : Nat) (po : Nat) (tr : Nat) (sp : Nat) (bx : Nat) (b0 : Nat) (b1 : Nat) (b4 : Nat) (b6 : Nat) (pa : Nat) (p_v : Nat) (p_st : Nat) (p_ib : Nat) (p_di : Nat) (p_wa : Nat) (p_se : Nat) (p_vh : Nat) (p_re : Nat) (cI : ClassId) (cZ : ClassId) (a0 : Int32) (a1 : Int32) (a2 : Int32) (sz : Nat) (g0a : ¬ a0 < 0) (g0b : ¬ 4 ≤ a0) (g1a : ¬ a1 < 1) (g1b : a1 ≤ 60) (g2a : ¬ a2 < 0) (g2b : a2 ≤ 2) : Met l yX5_share wsX5_share ({ frames := 6, cells := 0, slots := 0, locals := 170 }) (va_Pc [.ref x, .int a0, .int a1, .int a2] (pr_ dC dI [(x, .inr (7, [.ref bx, .ref po, .ref tr, .ref pa, .ref sp])), (bx, .inr (2, [.ref b0, .ref b1, .int 0, .int 0, .ref b4, .int 0, .ref b6, .int 0, .int 0, .int 0, .int 0])), (pa, .inr (3, [.ref p_v, .int 0, .ref p_st, .ref p_ib, .ref p_di, .ref p_wa, .ref p_se, .ref p_vh, .ref p_re])), (p_v, .inl (cI, 4, .inl zi)), (p_st, .inl (cI, 4, .inl zi)), (p_ib, .inl (cZ, 4, .inl zi)), (p_di, .inl (cI, 4, .inl zi)), (p_wa, .inl (cI, 4, .inl zi)), (p_se, .inl (cI, 4, .inl zi))] [(cI, .int), (cZ, .boolean)] sz)) (va_Qi (fun (r : Int32) (_ : Unit) => r = 0) (fun (_ : Unit) t => po_ dC dI [] [(cI, .int), (cZ, .boolean)] (va_A [(x, .inr (7, [.ref bx, .ref po, .ref tr, .ref pa, .ref sp])), (bx, .inr (2, [.ref b0, .ref b1, .int 0, .int 0, .ref b4, .int 0, .ref b6, .int 0, .int 0, .int 0, .int 0])), (pa, .inr (3, [.ref p_v, .int 0, .ref p_st, .ref p_ib, .ref p_di, .ref p_wa, .ref p_se, .ref p_vh, .ref p_re])), (p_v, .inl (cI, 4, .inl zi)), (p_st, .inl (cI, 4, .inl zi)), (p_ib, .inl (cZ, 4, .inl zi)), (p_di, .inl (cI, 4, .inl zi)), (p_wa, .inl (cI, 4, .inl zi)), (p_se, .inl (cI, 4, .inl zi))] sz) t) (va_A [(x, .inr (7, [.ref bx, .ref po, .ref tr, .ref pa, .ref sp])), (bx, .inr (2, [.ref b0, .ref b1, .int 0, .int 0, .ref b4, .int 0, .ref b6, .int 0, .int 0, .int 0, .int 0])), (pa, .inr (3, [.ref p_v, .int 0, .ref p_st, .ref p_ib, .ref p_di, .ref p_wa, .ref p_se, .ref p_vh, .ref p_re])), (p_v, .inl (cI, 4, .inl zi)), (p_st, .inl (cI, 4, .inl zi)), (p_ib, .inl (cZ, 4, .inl zi)), (p_di, .inl (cI, 4, .inl zi)), (p_wa, .inl (cI, 4, .inl zi)), (p_se, .inl (cI, 4, .inl zi))] sz)) 0 0 (va_A [(x, .inr (7, [.ref bx, .ref po, .ref tr, .ref pa, .ref sp])), (bx, .inr (2, [.ref b0, .ref b1, .int 0, .int 0, .ref b4, .int 0, .ref b6, .int 0, .int 0, .int 0, .int 0])), (pa, .inr (3, [.ref p_v, .int 0, .ref p_st, .ref p_ib, .ref p_di, .ref p_wa, .ref p_se, .ref p_vh, .ref p_re])), (p_v, .inl (cI, 4, .inl zi)), (p_st, .inl (cI, 4, .inl zi)), (p_ib, .inl (cZ, 4, .inl zi)), (p_di, .inl (cI, 4, .inl zi)), (p_wa, .inl (cI, 4, .inl zi)), (p_se, .inl (cI, 4, .inl zi))] sz) := by
  refine Met.ofW (cc := cX5_share) (maxL := 4) (ret := (some .int)) (by decide) rfl ?_
  intro p e s m args below meth c s₁ B hml hv
  obtain ⟨rfl, hsz, hP, hK, hD0⟩ := hv
  have hx := B.exec
  have hb := B.bytes
  have hr := B.returns
  have hts := atoms_spec (ws := wsX5_share) B.pre
  have hown : s.vm.findClass RX5 = some m.cls := findClass_of_methodNamed B.named
  have hlocks := B.notSynchronized
  subst hsz
  have hD := hD0.self (sz := s.heap.size)
  generalize hAe : va_A [(x, .inr (7, [.ref bx, .ref po, .ref tr, .ref pa, .ref sp])), (bx, .inr (2, [.ref b0, .ref b1, .int 0, .int 0, .ref b4, .int 0, .ref b6, .int 0, .int 0, .int 0, .int 0])), (pa, .inr (3, [.ref p_v, .int 0, .ref p_st, .ref p_ib, .ref p_di, .ref p_wa, .ref p_se, .ref p_vh, .ref p_re])), (p_v, .inl (cI, 4, .inl zi)), (p_st, .inl (cI, 4, .inl zi)), (p_ib, .inl (cZ, 4, .inl zi)), (p_di, .inl (cI, 4, .inl zi)), (p_wa, .inl (cI, 4, .inl zi)), (p_se, .inl (cI, 4, .inl zi))] s.heap.size = A at hD ⊢
  have hA : ∀ q : Nat, s.heap.size ≤ q → A q := fun q h => by rw [← hAe]; exact Or.inr h
  have hS : va_S A s.heap s.heap [] := va_S.rf
  have hP : va_P (dC, dI) vwCl [(x, .inr (7, [.ref bx, .ref po, .ref tr, .ref pa, .ref sp])), (bx, .inr (2, [.ref b0, .ref b1, .int 0, .int 0, .ref b4, .int 0, .ref b6, .int 0, .int 0, .int 0, .int 0])), (pa, .inr (3, [.ref p_v, .int 0, .ref p_st, .ref p_ib, .ref p_di, .ref p_wa, .ref p_se, .ref p_vh, .ref p_re])), (p_v, .inl (cI, 4, .inl zi)), (p_st, .inl (cI, 4, .inl zi)), (p_ib, .inl (cZ, 4, .inl zi)), (p_di, .inl (cI, 4, .inl zi)), (p_wa, .inl (cI, 4, .inl zi)), (p_se, .inl (cI, 4, .inl zi))] s.heap := hP
  have hK : va_K (dC, dI) vwCl [(cI, .int), (cZ, .boolean)] s := hK
  have hl := lv_entry ([.ref x, .int a0, .int a1, .int a2]) (n := 4) (Nat.le_of_ble_eq_true rfl)
  rw [lg_entry_eq]
  generalize (lg_sl ([.ref x, .int a0, .int a1, .int a2]) ++ List.replicate (4 - (lg_sl ([.ref x, .int a0, .int a1, .int a2])).length) Slot.unset).toArray = ls at hl ⊢
  have hl : lv_has ls 4 [(0, .ref x), (1, .int a0), (2, .int a1), (3, .int a2)] := hl
  refine lv_iload_n hx hb dX5_share_0 rfl (lv_at hl 1 rfl) ?_
  have hPc := hP.sub (ws' := []) [] rfl
  have hDc := hD.sub (ws' := []) [] (by decide) rfl
  have hKc := hK.sub (tys' := []) [] rfl
  have hFc := va_free (wc := []) hD hS hA [] rfl
  refine va_callv (va_runS (As := [.int a0]) (rest := []) ⟨hx, hb, hml, hown, hts⟩ (c_X5_checkParty l dC dI a0 _ g0a g0b) (va_cwS 1 hts gX5_share_X5_checkParty rfl rfl rfl (by decide +kernel) ⟨Nat.le_of_ble_eq_true rfl, Nat.le_of_ble_eq_true rfl⟩) ⟨pr_blind, fun U hU hW => ⟨rfl, pr_mk hU hW hPc hKc hDc⟩⟩ rfl rfl hl.1 rfl (lv_room (Nat.le_of_ble_eq_true rfl)) dX5_share_1 ⟨Nat.le_of_ble_eq_true rfl, Nat.le_of_ble_eq_true rfl⟩) hS (fun q _ h => hFc q h) hFc (fun u_1 t H1 locs ht hvm hw hB hz1 hk1 hS => ?_)
  obtain ⟨hP1, hK1, hD1⟩ := hB
  rw [ht] at hP1
  obtain ⟨hP, hD⟩ := va_join (wr := [(x, .inr (7, [.ref bx, .ref po, .ref tr, .ref pa, .ref sp])), (bx, .inr (2, [.ref b0, .ref b1, .int 0, .int 0, .ref b4, .int 0, .ref b6, .int 0, .int 0, .int 0, .int 0])), (pa, .inr (3, [.ref p_v, .int 0, .ref p_st, .ref p_ib, .ref p_di, .ref p_wa, .ref p_se, .ref p_vh, .ref p_re])), (p_v, .inl (cI, 4, .inl zi)), (p_st, .inl (cI, 4, .inl zi)), (p_ib, .inl (cZ, 4, .inl zi)), (p_di, .inl (cI, 4, .inl zi)), (p_wa, .inl (cI, 4, .inl zi)), (p_se, .inl (cI, 4, .inl zi))]) (w1 := []) hP hD [] [0, 1, 2, 3, 4, 5, 6, 7, 8] rfl rfl (by decide) (by decide) hk1 hFc hP1 hD1
  generalize H1 = H at hP hS ⊢
  have hP : va_P (dC, dI) vwCl [(x, .inr (7, [.ref bx, .ref po, .ref tr, .ref pa, .ref sp])), (bx, .inr (2, [.ref b0, .ref b1, .int 0, .int 0, .ref b4, .int 0, .ref b6, .int 0, .int 0, .int 0, .int 0])), (pa, .inr (3, [.ref p_v, .int 0, .ref p_st, .ref p_ib, .ref p_di, .ref p_wa, .ref p_se, .ref p_vh, .ref p_re])), (p_v, .inl (cI, 4, .inl zi)), (p_st, .inl (cI, 4, .inl zi)), (p_ib, .inl (cZ, 4, .inl zi)), (p_di, .inl (cI, 4, .inl zi)), (p_wa, .inl (cI, 4, .inl zi)), (p_se, .inl (cI, 4, .inl zi))] H := hP
  have hD : va_D A [(x, .inr (7, [.ref bx, .ref po, .ref tr, .ref pa, .ref sp])), (bx, .inr (2, [.ref b0, .ref b1, .int 0, .int 0, .ref b4, .int 0, .ref b6, .int 0, .int 0, .int 0, .int 0])), (pa, .inr (3, [.ref p_v, .int 0, .ref p_st, .ref p_ib, .ref p_di, .ref p_wa, .ref p_se, .ref p_vh, .ref p_re])), (p_v, .inl (cI, 4, .inl zi)), (p_st, .inl (cI, 4, .inl zi)), (p_ib, .inl (cZ, 4, .inl zi)), (p_di, .inl (cI, 4, .inl zi)), (p_wa, .inl (cI, 4, .inl zi)), (p_se, .inl (cI, 4, .inl zi))] := hD
  refine W.widen (k := 0) (n := 0) (Nat.le_refl _) (Nat.le_refl _) ?_
  refine lv_iload_n hx hb dX5_share_4 rfl (lv_at hl 2 rfl) ?_
  have hPc := hP.sub (ws' := []) [] rfl
  have hDc := hD.sub (ws' := []) [] (by decide) rfl
  have hKc := hK.sub (tys' := []) [] rfl
  have hFc := va_free (wc := []) hD hS hA [] rfl
  refine va_callv (va_runS (As := [.int a1]) (rest := []) ⟨hx, hb, hml, hown, hts⟩ (c_X5_checkHouse l dC dI a1 _ g1a g1b) (va_cwS 1 hts gX5_share_X5_checkHouse rfl rfl rfl (by decide +kernel) ⟨Nat.le_of_ble_eq_true rfl, Nat.le_of_ble_eq_true rfl⟩) ⟨pr_blind, fun U hU hW => ⟨rfl, pr_mk hU hW hPc hKc hDc⟩⟩ rfl rfl hl.1 rfl (lv_room (Nat.le_of_ble_eq_true rfl)) dX5_share_5 ⟨Nat.le_of_ble_eq_true rfl, Nat.le_of_ble_eq_true rfl⟩) hS (fun q _ h => hFc q h) hFc (fun u_3 t H1 locs ht hvm hw hB hz1 hk1 hS => ?_)
  obtain ⟨hP1, hK1, hD1⟩ := hB
  rw [ht] at hP1
  obtain ⟨hP, hD⟩ := va_join (wr := [(x, .inr (7, [.ref bx, .ref po, .ref tr, .ref pa, .ref sp])), (bx, .inr (2, [.ref b0, .ref b1, .int 0, .int 0, .ref b4, .int 0, .ref b6, .int 0, .int 0, .int 0, .int 0])), (pa, .inr (3, [.ref p_v, .int 0, .ref p_st, .ref p_ib, .ref p_di, .ref p_wa, .ref p_se, .ref p_vh, .ref p_re])), (p_v, .inl (cI, 4, .inl zi)), (p_st, .inl (cI, 4, .inl zi)), (p_ib, .inl (cZ, 4, .inl zi)), (p_di, .inl (cI, 4, .inl zi)), (p_wa, .inl (cI, 4, .inl zi)), (p_se, .inl (cI, 4, .inl zi))]) (w1 := []) hP hD [] [0, 1, 2, 3, 4, 5, 6, 7, 8] rfl rfl (by decide) (by decide) hk1 hFc hP1 hD1
  generalize H1 = H at hP hS ⊢
  have hP : va_P (dC, dI) vwCl [(x, .inr (7, [.ref bx, .ref po, .ref tr, .ref pa, .ref sp])), (bx, .inr (2, [.ref b0, .ref b1, .int 0, .int 0, .ref b4, .int 0, .ref b6, .int 0, .int 0, .int 0, .int 0])), (pa, .inr (3, [.ref p_v, .int 0, .ref p_st, .ref p_ib, .ref p_di, .ref p_wa, .ref p_se, .ref p_vh, .ref p_re])), (p_v, .inl (cI, 4, .inl zi)), (p_st, .inl (cI, 4, .inl zi)), (p_ib, .inl (cZ, 4, .inl zi)), (p_di, .inl (cI, 4, .inl zi)), (p_wa, .inl (cI, 4, .inl zi)), (p_se, .inl (cI, 4, .inl zi))] H := hP
  have hD : va_D A [(x, .inr (7, [.ref bx, .ref po, .ref tr, .ref pa, .ref sp])), (bx, .inr (2, [.ref b0, .ref b1, .int 0, .int 0, .ref b4, .int 0, .ref b6, .int 0, .int 0, .int 0, .int 0])), (pa, .inr (3, [.ref p_v, .int 0, .ref p_st, .ref p_ib, .ref p_di, .ref p_wa, .ref p_se, .ref p_vh, .ref p_re])), (p_v, .inl (cI, 4, .inl zi)), (p_st, .inl (cI, 4, .inl zi)), (p_ib, .inl (cZ, 4, .inl zi)), (p_di, .inl (cI, 4, .inl zi)), (p_wa, .inl (cI, 4, .inl zi)), (p_se, .inl (cI, 4, .inl zi))] := hD
  refine W.widen (k := 0) (n := 0) (Nat.le_refl _) (Nat.le_refl _) ?_
  refine lv_iload_n hx hb dX5_share_8 rfl (lv_at hl 3 rfl) ?_
  have hPc := hP.sub (ws' := []) [] rfl
  have hDc := hD.sub (ws' := []) [] (by decide) rfl
  have hKc := hK.sub (tys' := []) [] rfl
  have hFc := va_free (wc := []) hD hS hA [] rfl
  refine va_callv (va_runS (As := [.int a2]) (rest := []) ⟨hx, hb, hml, hown, hts⟩ (c_X5_checkRule l dC dI a2 _ g2a g2b) (va_cwS 1 hts gX5_share_X5_checkRule rfl rfl rfl (by decide +kernel) ⟨Nat.le_of_ble_eq_true rfl, Nat.le_of_ble_eq_true rfl⟩) ⟨pr_blind, fun U hU hW => ⟨rfl, pr_mk hU hW hPc hKc hDc⟩⟩ rfl rfl hl.1 rfl (lv_room (Nat.le_of_ble_eq_true rfl)) dX5_share_9 ⟨Nat.le_of_ble_eq_true rfl, Nat.le_of_ble_eq_true rfl⟩) hS (fun q _ h => hFc q h) hFc (fun u_5 t H1 locs ht hvm hw hB hz1 hk1 hS => ?_)
  obtain ⟨hP1, hK1, hD1⟩ := hB
  rw [ht] at hP1
  obtain ⟨hP, hD⟩ := va_join (wr := [(x, .inr (7, [.ref bx, .ref po, .ref tr, .ref pa, .ref sp])), (bx, .inr (2, [.ref b0, .ref b1, .int 0, .int 0, .ref b4, .int 0, .ref b6, .int 0, .int 0, .int 0, .int 0])), (pa, .inr (3, [.ref p_v, .int 0, .ref p_st, .ref p_ib, .ref p_di, .ref p_wa, .ref p_se, .ref p_vh, .ref p_re])), (p_v, .inl (cI, 4, .inl zi)), (p_st, .inl (cI, 4, .inl zi)), (p_ib, .inl (cZ, 4, .inl zi)), (p_di, .inl (cI, 4, .inl zi)), (p_wa, .inl (cI, 4, .inl zi)), (p_se, .inl (cI, 4, .inl zi))]) (w1 := []) hP hD [] [0, 1, 2, 3, 4, 5, 6, 7, 8] rfl rfl (by decide) (by decide) hk1 hFc hP1 hD1
  generalize H1 = H at hP hS ⊢
  have hP : va_P (dC, dI) vwCl [(x, .inr (7, [.ref bx, .ref po, .ref tr, .ref pa, .ref sp])), (bx, .inr (2, [.ref b0, .ref b1, .int 0, .int 0, .ref b4, .int 0, .ref b6, .int 0, .int 0, .int 0, .int 0])), (pa, .inr (3, [.ref p_v, .int 0, .ref p_st, .ref p_ib, .ref p_di, .ref p_wa, .ref p_se, .ref p_vh, .ref p_re])), (p_v, .inl (cI, 4, .inl zi)), (p_st, .inl (cI, 4, .inl zi)), (p_ib, .inl (cZ, 4, .inl zi)), (p_di, .inl (cI, 4, .inl zi)), (p_wa, .inl (cI, 4, .inl zi)), (p_se, .inl (cI, 4, .inl zi))] H := hP
  have hD : va_D A [(x, .inr (7, [.ref bx, .ref po, .ref tr, .ref pa, .ref sp])), (bx, .inr (2, [.ref b0, .ref b1, .int 0, .int 0, .ref b4, .int 0, .ref b6, .int 0, .int 0, .int 0, .int 0])), (pa, .inr (3, [.ref p_v, .int 0, .ref p_st, .ref p_ib, .ref p_di, .ref p_wa, .ref p_se, .ref p_vh, .ref p_re])), (p_v, .inl (cI, 4, .inl zi)), (p_st, .inl (cI, 4, .inl zi)), (p_ib, .inl (cZ, 4, .inl zi)), (p_di, .inl (cI, 4, .inl zi)), (p_wa, .inl (cI, 4, .inl zi)), (p_se, .inl (cI, 4, .inl zi))] := hD
  refine W.widen (k := 0) (n := 0) (Nat.le_refl _) (Nat.le_refl _) ?_
  refine lv_aload_n hx hb dX5_share_12 rfl (lv_at hl 0 rfl) ?_
  refine lv_iload_n hx hb dX5_share_13 rfl (lv_at hl 2 rfl) ?_
  refine lv_iload_n hx hb dX5_share_14 rfl (lv_at hl 3 rfl) ?_
  have hPc := hP.sub (ws' := [(x, .inr (7, [.ref bx, .ref po, .ref tr, .ref pa, .ref sp])), (bx, .inr (2, [.ref b0, .ref b1, .int 0, .int 0, .ref b4, .int 0, .ref b6, .int 0, .int 0, .int 0, .int 0])), (pa, .inr (3, [.ref p_v, .int 0, .ref p_st, .ref p_ib, .ref p_di, .ref p_wa, .ref p_se, .ref p_vh, .ref p_re])), (p_v, .inl (cI, 4, .inl zi)), (p_st, .inl (cI, 4, .inl zi)), (p_ib, .inl (cZ, 4, .inl zi)), (p_se, .inl (cI, 4, .inl zi))]) [0, 1, 2, 3, 4, 5, 8] rfl
  have hDc := hD.sub (ws' := [(x, .inr (7, [.ref bx, .ref po, .ref tr, .ref pa, .ref sp])), (bx, .inr (2, [.ref b0, .ref b1, .int 0, .int 0, .ref b4, .int 0, .ref b6, .int 0, .int 0, .int 0, .int 0])), (pa, .inr (3, [.ref p_v, .int 0, .ref p_st, .ref p_ib, .ref p_di, .ref p_wa, .ref p_se, .ref p_vh, .ref p_re])), (p_v, .inl (cI, 4, .inl zi)), (p_st, .inl (cI, 4, .inl zi)), (p_ib, .inl (cZ, 4, .inl zi)), (p_se, .inl (cI, 4, .inl zi))]) [0, 1, 2, 3, 4, 5, 8] (by decide) rfl
  have hKc := hK.sub (tys' := [(cI, .int), (cZ, .boolean)]) [0, 1] rfl
  have hFc := va_free (wc := [(x, .inr (7, [.ref bx, .ref po, .ref tr, .ref pa, .ref sp])), (bx, .inr (2, [.ref b0, .ref b1, .int 0, .int 0, .ref b4, .int 0, .ref b6, .int 0, .int 0, .int 0, .int 0])), (pa, .inr (3, [.ref p_v, .int 0, .ref p_st, .ref p_ib, .ref p_di, .ref p_wa, .ref p_se, .ref p_vh, .ref p_re])), (p_v, .inl (cI, 4, .inl zi)), (p_st, .inl (cI, 4, .inl zi)), (p_ib, .inl (cZ, 4, .inl zi)), (p_se, .inl (cI, 4, .inl zi))]) hD hS hA [0, 1, 2, 3, 4, 5, 8] rfl
  refine va_callv (va_runV (As := [.int a1, .int a2]) (rest := []) ⟨hx, hb, hml, hown, hts⟩ (c_X5_shareHouse l dC dI x po tr sp bx b0 b1 b4 b6 pa p_v p_st p_ib p_di p_wa p_se p_vh p_re cI cZ a1 a2 _ (ho1 g1a)) (cwV 2 hts gX5_share_X5_shareHouse rfl rfl rfl (by decide +kernel) ⟨Nat.le_of_ble_eq_true rfl, Nat.le_of_ble_eq_true rfl⟩) ⟨pr_blind, va_recv hKc hPc (ci := 7) (q0 := 0) rfl rfl, fun U hU hW => ⟨rfl, pr_mk hU hW hPc hKc hDc⟩⟩ rfl rfl hl.1 rfl (lv_room (Nat.le_of_ble_eq_true rfl)) dX5_share_15 ⟨Nat.le_of_ble_eq_true rfl, Nat.le_of_ble_eq_true rfl⟩) hS (fun q _ h => hFc q h) hFc (fun u_7 t H1 locs ht hvm hw hB hz1 hk1 hS => ?_)
  obtain ⟨hP1, hK1, hD1⟩ := hB
  rw [ht] at hP1
  obtain ⟨hP, hD⟩ := va_join (wr := [(p_di, .inl (cI, 4, .inl zi)), (p_wa, .inl (cI, 4, .inl zi))]) (w1 := [(x, .inr (7, [.ref bx, .ref po, .ref tr, .ref pa, .ref sp])), (bx, .inr (2, [.ref b0, .ref b1, .int 0, .int 0, .ref b4, .int 0, .ref b6, .int 0, .int 0, .int 0, .int 0])), (pa, .inr (3, [.ref p_v, .int 0, .ref p_st, .ref p_ib, .ref p_di, .ref p_wa, .ref p_se, .ref p_vh, .ref p_re])), (p_v, .inl (cI, 4, .inl zi)), (p_st, .inl (cI, 4, .inl zi)), (p_ib, .inl (cZ, 4, .inl zi)), (p_se, .inl (cI, 4, .inl zi))]) hP hD [0, 1, 2, 3, 4, 5, 8] [6, 7] rfl rfl (by decide) (by decide) hk1 hFc hP1 hD1
  generalize H1 = H at hP hS ⊢
  have hP : va_P (dC, dI) vwCl [(p_di, .inl (cI, 4, .inl zi)), (p_wa, .inl (cI, 4, .inl zi)), (x, .inr (7, [.ref bx, .ref po, .ref tr, .ref pa, .ref sp])), (bx, .inr (2, [.ref b0, .ref b1, .int 0, .int 0, .ref b4, .int 0, .ref b6, .int 0, .int 0, .int 0, .int 0])), (pa, .inr (3, [.ref p_v, .int 0, .ref p_st, .ref p_ib, .ref p_di, .ref p_wa, .ref p_se, .ref p_vh, .ref p_re])), (p_v, .inl (cI, 4, .inl zi)), (p_st, .inl (cI, 4, .inl zi)), (p_ib, .inl (cZ, 4, .inl zi)), (p_se, .inl (cI, 4, .inl zi))] H := hP
  have hD : va_D A [(p_di, .inl (cI, 4, .inl zi)), (p_wa, .inl (cI, 4, .inl zi)), (x, .inr (7, [.ref bx, .ref po, .ref tr, .ref pa, .ref sp])), (bx, .inr (2, [.ref b0, .ref b1, .int 0, .int 0, .ref b4, .int 0, .ref b6, .int 0, .int 0, .int 0, .int 0])), (pa, .inr (3, [.ref p_v, .int 0, .ref p_st, .ref p_ib, .ref p_di, .ref p_wa, .ref p_se, .ref p_vh, .ref p_re])), (p_v, .inl (cI, 4, .inl zi)), (p_st, .inl (cI, 4, .inl zi)), (p_ib, .inl (cZ, 4, .inl zi)), (p_se, .inl (cI, 4, .inl zi))] := hD
  refine W.widen (k := 0) (n := 0) (Nat.le_refl _) (Nat.le_refl _) ?_
  refine lv_aload_n hx hb dX5_share_18 rfl (lv_at hl 0 rfl) ?_
  have hinX5 : ∀ w ∈ u_ws RX5 TX5 5, w ∈ wsX5_share := by decide +kernel
  refine va_get (D := (dC, dI)) (ci := 7) (v := .ref pa) (C := RX5) (T := TX5) (N := 5) hx hb hts hinX5 hown hK hP 2 rfl rfl 3 (by decide) (hts (.fieldLink RX5 33 "BallotLoom" "parties" "LBallotLoom$Parties;") (by decide +kernel)) (fun _ h9 => h9) rfl dX5_share_19 ?_
  have hinX1 : ∀ w ∈ u_ws RX1 TX1 9, w ∈ wsX5_share := by decide +kernel
  refine va_get (D := (dC, dI)) (ci := 3) (v := .ref p_se) (C := RX1) (T := TX1) (N := 9) hx hb hts hinX1 hown hK hP 4 rfl rfl 6 (by decide) (hts (.fieldLink RX5 229 "BallotLoom$Parties" "seats" "[I") (by decide +kernel)) (fun _ h9 => h9) rfl dX5_share_22 ?_
  refine lv_iload_n hx hb dX5_share_25 rfl (lv_at hl 1 rfl) ?_
  refine va_iald hx hb hK hP 8 0 rfl rfl (in4 g0a g0b) dX5_share_26 ?_
  refine lv_topi (fun y_9 ey_9 => ?_)
  obtain rfl : y_9 = 0 := ey_9.trans (by rfl)
  have hP9 := hP.sub (ws' := []) [] rfl
  have hD9 := hD.sub (ws' := []) [] (by decide) rfl
  have hK9 := hK.sub (tys' := [(cI, .int), (cZ, .boolean)]) [0, 1] rfl
  refine W.widen (k := 0) (n := 0) (Nat.le_of_ble_eq_true rfl) (Nat.le_of_ble_eq_true rfl) ?_
  exact W.iret (v := 0) hx hb hr (fun t ht hW => ⟨⟨0, (), rfl, rfl, po_mk ht hW hP9 hK9 hD9⟩, hS.F ht⟩) hS.2.2 dX5_share_27

set_option maxHeartbeats 4000000 in
set_option maxRecDepth 100000 in
theorem c_X5_overhang (l : Launch) (dC : Nat → ClassId) (dI : Nat → Nat → Nat) (x : Nat) (po : Nat) (tr : Nat) (sp : Nat) (bx : Nat) (b0 : Nat) (b1 : Nat) (b4 : Nat) (b6 : Nat) (pa : Nat) (p_v : Nat) (p_st : Nat) (p_ib : Nat) (p_di : Nat) (p_wa : Nat) (p_se : Nat) (p_vh : Nat) (p_re : Nat) (cI : ClassId) (cZ : ClassId) (a0 : Int32) (a1 : Int32) (sz : Nat) (g0a : ¬ a0 < 1) (g0b : a0 ≤ 60) (g1a : ¬ a1 < 0) (g1b : a1 ≤ 2) : Met l yX5_overhang wsX5_overhang ({ frames := 6, cells := 0, slots := 0, locals := 170 }) (va_Pc [.ref x, .int a0, .int a1] (pr_ dC dI [(x, .inr (7, [.ref bx, .ref po, .ref tr, .ref pa, .ref sp])), (bx, .inr (2, [.ref b0, .ref b1, .int 0, .int 0, .ref b4, .int 0, .ref b6, .int 0, .int 0, .int 0, .int 0])), (pa, .inr (3, [.ref p_v, .int 0, .ref p_st, .ref p_ib, .ref p_di, .ref p_wa, .ref p_se, .ref p_vh, .ref p_re])), (p_v, .inl (cI, 4, .inl zi)), (p_st, .inl (cI, 4, .inl zi)), (p_ib, .inl (cZ, 4, .inl zi)), (p_di, .inl (cI, 4, .inl zi)), (p_wa, .inl (cI, 4, .inl zi)), (p_se, .inl (cI, 4, .inl zi))] [(cI, .int), (cZ, .boolean)] sz)) (va_Qi (fun (r : Int32) (_ : Unit) => r = 0) (fun (_ : Unit) t => po_ dC dI [] [(cI, .int), (cZ, .boolean)] (va_A [(x, .inr (7, [.ref bx, .ref po, .ref tr, .ref pa, .ref sp])), (bx, .inr (2, [.ref b0, .ref b1, .int 0, .int 0, .ref b4, .int 0, .ref b6, .int 0, .int 0, .int 0, .int 0])), (pa, .inr (3, [.ref p_v, .int 0, .ref p_st, .ref p_ib, .ref p_di, .ref p_wa, .ref p_se, .ref p_vh, .ref p_re])), (p_v, .inl (cI, 4, .inl zi)), (p_st, .inl (cI, 4, .inl zi)), (p_ib, .inl (cZ, 4, .inl zi)), (p_di, .inl (cI, 4, .inl zi)), (p_wa, .inl (cI, 4, .inl zi)), (p_se, .inl (cI, 4, .inl zi))] sz) t) (va_A [(x, .inr (7, [.ref bx, .ref po, .ref tr, .ref pa, .ref sp])), (bx, .inr (2, [.ref b0, .ref b1, .int 0, .int 0, .ref b4, .int 0, .ref b6, .int 0, .int 0, .int 0, .int 0])), (pa, .inr (3, [.ref p_v, .int 0, .ref p_st, .ref p_ib, .ref p_di, .ref p_wa, .ref p_se, .ref p_vh, .ref p_re])), (p_v, .inl (cI, 4, .inl zi)), (p_st, .inl (cI, 4, .inl zi)), (p_ib, .inl (cZ, 4, .inl zi)), (p_di, .inl (cI, 4, .inl zi)), (p_wa, .inl (cI, 4, .inl zi)), (p_se, .inl (cI, 4, .inl zi))] sz)) 0 0 (va_A [(x, .inr (7, [.ref bx, .ref po, .ref tr, .ref pa, .ref sp])), (bx, .inr (2, [.ref b0, .ref b1, .int 0, .int 0, .ref b4, .int 0, .ref b6, .int 0, .int 0, .int 0, .int 0])), (pa, .inr (3, [.ref p_v, .int 0, .ref p_st, .ref p_ib, .ref p_di, .ref p_wa, .ref p_se, .ref p_vh, .ref p_re])), (p_v, .inl (cI, 4, .inl zi)), (p_st, .inl (cI, 4, .inl zi)), (p_ib, .inl (cZ, 4, .inl zi)), (p_di, .inl (cI, 4, .inl zi)), (p_wa, .inl (cI, 4, .inl zi)), (p_se, .inl (cI, 4, .inl zi))] sz) := by
  refine Met.ofW (cc := cX5_overhang) (maxL := 3) (ret := (some .int)) (by decide) rfl ?_
  intro p e s m args below meth c s₁ B hml hv
  obtain ⟨rfl, hsz, hP, hK, hD0⟩ := hv
  have hx := B.exec
  have hb := B.bytes
  have hr := B.returns
  have hts := atoms_spec (ws := wsX5_overhang) B.pre
  have hown : s.vm.findClass RX5 = some m.cls := findClass_of_methodNamed B.named
  have hlocks := B.notSynchronized
  subst hsz
  have hD := hD0.self (sz := s.heap.size)
  generalize hAe : va_A [(x, .inr (7, [.ref bx, .ref po, .ref tr, .ref pa, .ref sp])), (bx, .inr (2, [.ref b0, .ref b1, .int 0, .int 0, .ref b4, .int 0, .ref b6, .int 0, .int 0, .int 0, .int 0])), (pa, .inr (3, [.ref p_v, .int 0, .ref p_st, .ref p_ib, .ref p_di, .ref p_wa, .ref p_se, .ref p_vh, .ref p_re])), (p_v, .inl (cI, 4, .inl zi)), (p_st, .inl (cI, 4, .inl zi)), (p_ib, .inl (cZ, 4, .inl zi)), (p_di, .inl (cI, 4, .inl zi)), (p_wa, .inl (cI, 4, .inl zi)), (p_se, .inl (cI, 4, .inl zi))] s.heap.size = A at hD ⊢
  have hA : ∀ q : Nat, s.heap.size ≤ q → A q := fun q h => by rw [← hAe]; exact Or.inr h
  have hS : va_S A s.heap s.heap [] := va_S.rf
  have hP : va_P (dC, dI) vwCl [(x, .inr (7, [.ref bx, .ref po, .ref tr, .ref pa, .ref sp])), (bx, .inr (2, [.ref b0, .ref b1, .int 0, .int 0, .ref b4, .int 0, .ref b6, .int 0, .int 0, .int 0, .int 0])), (pa, .inr (3, [.ref p_v, .int 0, .ref p_st, .ref p_ib, .ref p_di, .ref p_wa, .ref p_se, .ref p_vh, .ref p_re])), (p_v, .inl (cI, 4, .inl zi)), (p_st, .inl (cI, 4, .inl zi)), (p_ib, .inl (cZ, 4, .inl zi)), (p_di, .inl (cI, 4, .inl zi)), (p_wa, .inl (cI, 4, .inl zi)), (p_se, .inl (cI, 4, .inl zi))] s.heap := hP
  have hK : va_K (dC, dI) vwCl [(cI, .int), (cZ, .boolean)] s := hK
  have hl := lv_entry ([.ref x, .int a0, .int a1]) (n := 3) (Nat.le_of_ble_eq_true rfl)
  rw [lg_entry_eq]
  generalize (lg_sl ([.ref x, .int a0, .int a1]) ++ List.replicate (3 - (lg_sl ([.ref x, .int a0, .int a1])).length) Slot.unset).toArray = ls at hl ⊢
  have hl : lv_has ls 3 [(0, .ref x), (1, .int a0), (2, .int a1)] := hl
  refine lv_iload_n hx hb dX5_overhang_0 rfl (lv_at hl 1 rfl) ?_
  have hPc := hP.sub (ws' := []) [] rfl
  have hDc := hD.sub (ws' := []) [] (by decide) rfl
  have hKc := hK.sub (tys' := []) [] rfl
  have hFc := va_free (wc := []) hD hS hA [] rfl
  refine va_callv (va_runS (As := [.int a0]) (rest := []) ⟨hx, hb, hml, hown, hts⟩ (c_X5_checkHouse l dC dI a0 _ g0a g0b) (va_cwS 1 hts gX5_overhang_X5_checkHouse rfl rfl rfl (by decide +kernel) ⟨Nat.le_of_ble_eq_true rfl, Nat.le_of_ble_eq_true rfl⟩) ⟨pr_blind, fun U hU hW => ⟨rfl, pr_mk hU hW hPc hKc hDc⟩⟩ rfl rfl hl.1 rfl (lv_room (Nat.le_of_ble_eq_true rfl)) dX5_overhang_1 ⟨Nat.le_of_ble_eq_true rfl, Nat.le_of_ble_eq_true rfl⟩) hS (fun q _ h => hFc q h) hFc (fun u_1 t H1 locs ht hvm hw hB hz1 hk1 hS => ?_)
  obtain ⟨hP1, hK1, hD1⟩ := hB
  rw [ht] at hP1
  obtain ⟨hP, hD⟩ := va_join (wr := [(x, .inr (7, [.ref bx, .ref po, .ref tr, .ref pa, .ref sp])), (bx, .inr (2, [.ref b0, .ref b1, .int 0, .int 0, .ref b4, .int 0, .ref b6, .int 0, .int 0, .int 0, .int 0])), (pa, .inr (3, [.ref p_v, .int 0, .ref p_st, .ref p_ib, .ref p_di, .ref p_wa, .ref p_se, .ref p_vh, .ref p_re])), (p_v, .inl (cI, 4, .inl zi)), (p_st, .inl (cI, 4, .inl zi)), (p_ib, .inl (cZ, 4, .inl zi)), (p_di, .inl (cI, 4, .inl zi)), (p_wa, .inl (cI, 4, .inl zi)), (p_se, .inl (cI, 4, .inl zi))]) (w1 := []) hP hD [] [0, 1, 2, 3, 4, 5, 6, 7, 8] rfl rfl (by decide) (by decide) hk1 hFc hP1 hD1
  generalize H1 = H at hP hS ⊢
  have hP : va_P (dC, dI) vwCl [(x, .inr (7, [.ref bx, .ref po, .ref tr, .ref pa, .ref sp])), (bx, .inr (2, [.ref b0, .ref b1, .int 0, .int 0, .ref b4, .int 0, .ref b6, .int 0, .int 0, .int 0, .int 0])), (pa, .inr (3, [.ref p_v, .int 0, .ref p_st, .ref p_ib, .ref p_di, .ref p_wa, .ref p_se, .ref p_vh, .ref p_re])), (p_v, .inl (cI, 4, .inl zi)), (p_st, .inl (cI, 4, .inl zi)), (p_ib, .inl (cZ, 4, .inl zi)), (p_di, .inl (cI, 4, .inl zi)), (p_wa, .inl (cI, 4, .inl zi)), (p_se, .inl (cI, 4, .inl zi))] H := hP
  have hD : va_D A [(x, .inr (7, [.ref bx, .ref po, .ref tr, .ref pa, .ref sp])), (bx, .inr (2, [.ref b0, .ref b1, .int 0, .int 0, .ref b4, .int 0, .ref b6, .int 0, .int 0, .int 0, .int 0])), (pa, .inr (3, [.ref p_v, .int 0, .ref p_st, .ref p_ib, .ref p_di, .ref p_wa, .ref p_se, .ref p_vh, .ref p_re])), (p_v, .inl (cI, 4, .inl zi)), (p_st, .inl (cI, 4, .inl zi)), (p_ib, .inl (cZ, 4, .inl zi)), (p_di, .inl (cI, 4, .inl zi)), (p_wa, .inl (cI, 4, .inl zi)), (p_se, .inl (cI, 4, .inl zi))] := hD
  refine W.widen (k := 0) (n := 0) (Nat.le_refl _) (Nat.le_refl _) ?_
  refine lv_iload_n hx hb dX5_overhang_4 rfl (lv_at hl 2 rfl) ?_
  have hPc := hP.sub (ws' := []) [] rfl
  have hDc := hD.sub (ws' := []) [] (by decide) rfl
  have hKc := hK.sub (tys' := []) [] rfl
  have hFc := va_free (wc := []) hD hS hA [] rfl
  refine va_callv (va_runS (As := [.int a1]) (rest := []) ⟨hx, hb, hml, hown, hts⟩ (c_X5_checkRule l dC dI a1 _ g1a g1b) (va_cwS 1 hts gX5_overhang_X5_checkRule rfl rfl rfl (by decide +kernel) ⟨Nat.le_of_ble_eq_true rfl, Nat.le_of_ble_eq_true rfl⟩) ⟨pr_blind, fun U hU hW => ⟨rfl, pr_mk hU hW hPc hKc hDc⟩⟩ rfl rfl hl.1 rfl (lv_room (Nat.le_of_ble_eq_true rfl)) dX5_overhang_5 ⟨Nat.le_of_ble_eq_true rfl, Nat.le_of_ble_eq_true rfl⟩) hS (fun q _ h => hFc q h) hFc (fun u_3 t H1 locs ht hvm hw hB hz1 hk1 hS => ?_)
  obtain ⟨hP1, hK1, hD1⟩ := hB
  rw [ht] at hP1
  obtain ⟨hP, hD⟩ := va_join (wr := [(x, .inr (7, [.ref bx, .ref po, .ref tr, .ref pa, .ref sp])), (bx, .inr (2, [.ref b0, .ref b1, .int 0, .int 0, .ref b4, .int 0, .ref b6, .int 0, .int 0, .int 0, .int 0])), (pa, .inr (3, [.ref p_v, .int 0, .ref p_st, .ref p_ib, .ref p_di, .ref p_wa, .ref p_se, .ref p_vh, .ref p_re])), (p_v, .inl (cI, 4, .inl zi)), (p_st, .inl (cI, 4, .inl zi)), (p_ib, .inl (cZ, 4, .inl zi)), (p_di, .inl (cI, 4, .inl zi)), (p_wa, .inl (cI, 4, .inl zi)), (p_se, .inl (cI, 4, .inl zi))]) (w1 := []) hP hD [] [0, 1, 2, 3, 4, 5, 6, 7, 8] rfl rfl (by decide) (by decide) hk1 hFc hP1 hD1
  generalize H1 = H at hP hS ⊢
  have hP : va_P (dC, dI) vwCl [(x, .inr (7, [.ref bx, .ref po, .ref tr, .ref pa, .ref sp])), (bx, .inr (2, [.ref b0, .ref b1, .int 0, .int 0, .ref b4, .int 0, .ref b6, .int 0, .int 0, .int 0, .int 0])), (pa, .inr (3, [.ref p_v, .int 0, .ref p_st, .ref p_ib, .ref p_di, .ref p_wa, .ref p_se, .ref p_vh, .ref p_re])), (p_v, .inl (cI, 4, .inl zi)), (p_st, .inl (cI, 4, .inl zi)), (p_ib, .inl (cZ, 4, .inl zi)), (p_di, .inl (cI, 4, .inl zi)), (p_wa, .inl (cI, 4, .inl zi)), (p_se, .inl (cI, 4, .inl zi))] H := hP
  have hD : va_D A [(x, .inr (7, [.ref bx, .ref po, .ref tr, .ref pa, .ref sp])), (bx, .inr (2, [.ref b0, .ref b1, .int 0, .int 0, .ref b4, .int 0, .ref b6, .int 0, .int 0, .int 0, .int 0])), (pa, .inr (3, [.ref p_v, .int 0, .ref p_st, .ref p_ib, .ref p_di, .ref p_wa, .ref p_se, .ref p_vh, .ref p_re])), (p_v, .inl (cI, 4, .inl zi)), (p_st, .inl (cI, 4, .inl zi)), (p_ib, .inl (cZ, 4, .inl zi)), (p_di, .inl (cI, 4, .inl zi)), (p_wa, .inl (cI, 4, .inl zi)), (p_se, .inl (cI, 4, .inl zi))] := hD
  refine W.widen (k := 0) (n := 0) (Nat.le_refl _) (Nat.le_refl _) ?_
  refine lv_aload_n hx hb dX5_overhang_8 rfl (lv_at hl 0 rfl) ?_
  refine lv_iload_n hx hb dX5_overhang_9 rfl (lv_at hl 1 rfl) ?_
  refine lv_iload_n hx hb dX5_overhang_10 rfl (lv_at hl 2 rfl) ?_
  have hPc := hP.sub (ws' := [(x, .inr (7, [.ref bx, .ref po, .ref tr, .ref pa, .ref sp])), (bx, .inr (2, [.ref b0, .ref b1, .int 0, .int 0, .ref b4, .int 0, .ref b6, .int 0, .int 0, .int 0, .int 0])), (pa, .inr (3, [.ref p_v, .int 0, .ref p_st, .ref p_ib, .ref p_di, .ref p_wa, .ref p_se, .ref p_vh, .ref p_re])), (p_v, .inl (cI, 4, .inl zi)), (p_st, .inl (cI, 4, .inl zi)), (p_ib, .inl (cZ, 4, .inl zi)), (p_se, .inl (cI, 4, .inl zi))]) [0, 1, 2, 3, 4, 5, 8] rfl
  have hDc := hD.sub (ws' := [(x, .inr (7, [.ref bx, .ref po, .ref tr, .ref pa, .ref sp])), (bx, .inr (2, [.ref b0, .ref b1, .int 0, .int 0, .ref b4, .int 0, .ref b6, .int 0, .int 0, .int 0, .int 0])), (pa, .inr (3, [.ref p_v, .int 0, .ref p_st, .ref p_ib, .ref p_di, .ref p_wa, .ref p_se, .ref p_vh, .ref p_re])), (p_v, .inl (cI, 4, .inl zi)), (p_st, .inl (cI, 4, .inl zi)), (p_ib, .inl (cZ, 4, .inl zi)), (p_se, .inl (cI, 4, .inl zi))]) [0, 1, 2, 3, 4, 5, 8] (by decide) rfl
  have hKc := hK.sub (tys' := [(cI, .int), (cZ, .boolean)]) [0, 1] rfl
  have hFc := va_free (wc := [(x, .inr (7, [.ref bx, .ref po, .ref tr, .ref pa, .ref sp])), (bx, .inr (2, [.ref b0, .ref b1, .int 0, .int 0, .ref b4, .int 0, .ref b6, .int 0, .int 0, .int 0, .int 0])), (pa, .inr (3, [.ref p_v, .int 0, .ref p_st, .ref p_ib, .ref p_di, .ref p_wa, .ref p_se, .ref p_vh, .ref p_re])), (p_v, .inl (cI, 4, .inl zi)), (p_st, .inl (cI, 4, .inl zi)), (p_ib, .inl (cZ, 4, .inl zi)), (p_se, .inl (cI, 4, .inl zi))]) hD hS hA [0, 1, 2, 3, 4, 5, 8] rfl
  refine va_callv (va_runV (As := [.int a0, .int a1]) (rest := []) ⟨hx, hb, hml, hown, hts⟩ (c_X5_shareHouse l dC dI x po tr sp bx b0 b1 b4 b6 pa p_v p_st p_ib p_di p_wa p_se p_vh p_re cI cZ a0 a1 _ (ho1 g0a)) (cwV 2 hts gX5_overhang_X5_shareHouse rfl rfl rfl (by decide +kernel) ⟨Nat.le_of_ble_eq_true rfl, Nat.le_of_ble_eq_true rfl⟩) ⟨pr_blind, va_recv hKc hPc (ci := 7) (q0 := 0) rfl rfl, fun U hU hW => ⟨rfl, pr_mk hU hW hPc hKc hDc⟩⟩ rfl rfl hl.1 rfl (lv_room (Nat.le_of_ble_eq_true rfl)) dX5_overhang_11 ⟨Nat.le_of_ble_eq_true rfl, Nat.le_of_ble_eq_true rfl⟩) hS (fun q _ h => hFc q h) hFc (fun u_5 t H1 locs ht hvm hw hB hz1 hk1 hS => ?_)
  obtain ⟨hP1, hK1, hD1⟩ := hB
  rw [ht] at hP1
  obtain ⟨hP, hD⟩ := va_join (wr := [(p_di, .inl (cI, 4, .inl zi)), (p_wa, .inl (cI, 4, .inl zi))]) (w1 := [(x, .inr (7, [.ref bx, .ref po, .ref tr, .ref pa, .ref sp])), (bx, .inr (2, [.ref b0, .ref b1, .int 0, .int 0, .ref b4, .int 0, .ref b6, .int 0, .int 0, .int 0, .int 0])), (pa, .inr (3, [.ref p_v, .int 0, .ref p_st, .ref p_ib, .ref p_di, .ref p_wa, .ref p_se, .ref p_vh, .ref p_re])), (p_v, .inl (cI, 4, .inl zi)), (p_st, .inl (cI, 4, .inl zi)), (p_ib, .inl (cZ, 4, .inl zi)), (p_se, .inl (cI, 4, .inl zi))]) hP hD [0, 1, 2, 3, 4, 5, 8] [6, 7] rfl rfl (by decide) (by decide) hk1 hFc hP1 hD1
  generalize H1 = H at hP hS ⊢
  have hP : va_P (dC, dI) vwCl [(p_di, .inl (cI, 4, .inl zi)), (p_wa, .inl (cI, 4, .inl zi)), (x, .inr (7, [.ref bx, .ref po, .ref tr, .ref pa, .ref sp])), (bx, .inr (2, [.ref b0, .ref b1, .int 0, .int 0, .ref b4, .int 0, .ref b6, .int 0, .int 0, .int 0, .int 0])), (pa, .inr (3, [.ref p_v, .int 0, .ref p_st, .ref p_ib, .ref p_di, .ref p_wa, .ref p_se, .ref p_vh, .ref p_re])), (p_v, .inl (cI, 4, .inl zi)), (p_st, .inl (cI, 4, .inl zi)), (p_ib, .inl (cZ, 4, .inl zi)), (p_se, .inl (cI, 4, .inl zi))] H := hP
  have hD : va_D A [(p_di, .inl (cI, 4, .inl zi)), (p_wa, .inl (cI, 4, .inl zi)), (x, .inr (7, [.ref bx, .ref po, .ref tr, .ref pa, .ref sp])), (bx, .inr (2, [.ref b0, .ref b1, .int 0, .int 0, .ref b4, .int 0, .ref b6, .int 0, .int 0, .int 0, .int 0])), (pa, .inr (3, [.ref p_v, .int 0, .ref p_st, .ref p_ib, .ref p_di, .ref p_wa, .ref p_se, .ref p_vh, .ref p_re])), (p_v, .inl (cI, 4, .inl zi)), (p_st, .inl (cI, 4, .inl zi)), (p_ib, .inl (cZ, 4, .inl zi)), (p_se, .inl (cI, 4, .inl zi))] := hD
  refine W.widen (k := 0) (n := 0) (Nat.le_refl _) (Nat.le_refl _) ?_
  refine lv_aload_n hx hb dX5_overhang_14 rfl (lv_at hl 0 rfl) ?_
  have hinX5 : ∀ w ∈ u_ws RX5 TX5 5, w ∈ wsX5_overhang := by decide +kernel
  refine va_get (D := (dC, dI)) (ci := 7) (v := .ref pa) (C := RX5) (T := TX5) (N := 5) hx hb hts hinX5 hown hK hP 2 rfl rfl 3 (by decide) (hts (.fieldLink RX5 33 "BallotLoom" "parties" "LBallotLoom$Parties;") (by decide +kernel)) (fun _ h9 => h9) rfl dX5_overhang_15 ?_
  refine lv_aload_n hx hb dX5_overhang_18 rfl (lv_at hl 0 rfl) ?_
  refine va_get (D := (dC, dI)) (ci := 7) (v := .ref bx) (C := RX5) (T := TX5) (N := 5) hx hb hts hinX5 hown hK hP 2 rfl rfl 0 (by decide) (hts (.fieldLink RX5 10 "BallotLoom" "box" "LBallotLoom$Box;") (by decide +kernel)) (fun _ h9 => h9) rfl dX5_overhang_19 ?_
  refine lv_aload_n hx hb dX5_overhang_22 rfl (lv_at hl 0 rfl) ?_
  refine va_get (D := (dC, dI)) (ci := 7) (v := .ref po) (C := RX5) (T := TX5) (N := 5) hx hb hts hinX5 hown hK hP 2 rfl rfl 1 (by decide) (hts (.fieldLink RX5 19 "BallotLoom" "poll" "LBallotLoom$Poll;") (by decide +kernel)) (fun _ h9 => h9) rfl dX5_overhang_23 ?_
  have hPc := hP.sub (ws' := [(pa, .inr (3, [.ref p_v, .int 0, .ref p_st, .ref p_ib, .ref p_di, .ref p_wa, .ref p_se, .ref p_vh, .ref p_re])), (bx, .inr (2, [.ref b0, .ref b1, .int 0, .int 0, .ref b4, .int 0, .ref b6, .int 0, .int 0, .int 0, .int 0])), (p_di, .inl (cI, 4, .inl zi)), (p_wa, .inl (cI, 4, .inl zi))]) [4, 3, 0, 1] rfl
  have hDc := hD.sub (ws' := [(pa, .inr (3, [.ref p_v, .int 0, .ref p_st, .ref p_ib, .ref p_di, .ref p_wa, .ref p_se, .ref p_vh, .ref p_re])), (bx, .inr (2, [.ref b0, .ref b1, .int 0, .int 0, .ref b4, .int 0, .ref b6, .int 0, .int 0, .int 0, .int 0])), (p_di, .inl (cI, 4, .inl zi)), (p_wa, .inl (cI, 4, .inl zi))]) [4, 3, 0, 1] (by decide) rfl
  have hKc := hK.sub (tys' := [(cI, .int)]) [0] rfl
  have hFc := va_free (wc := [(pa, .inr (3, [.ref p_v, .int 0, .ref p_st, .ref p_ib, .ref p_di, .ref p_wa, .ref p_se, .ref p_vh, .ref p_re])), (bx, .inr (2, [.ref b0, .ref b1, .int 0, .int 0, .ref b4, .int 0, .ref b6, .int 0, .int 0, .int 0, .int 0])), (p_di, .inl (cI, 4, .inl zi)), (p_wa, .inl (cI, 4, .inl zi))]) hD hS hA [4, 3, 0, 1] rfl
  refine va_callv (va_runV (As := [.ref bx, .ref po]) (rest := []) ⟨hx, hb, hml, hown, hts⟩ (c_X1_countDistricts l dC dI pa p_v p_st p_ib p_di p_wa p_se p_vh p_re bx b0 b1 b4 b6 po cI _ ) (cwV 2 hts gX5_overhang_X1_countDistricts rfl rfl rfl (by decide +kernel) ⟨Nat.le_of_ble_eq_true rfl, Nat.le_of_ble_eq_true rfl⟩) ⟨pr_blind, va_recv hKc hPc (ci := 3) (q0 := 0) rfl rfl, fun U hU hW => ⟨rfl, pr_mk hU hW hPc hKc hDc⟩⟩ rfl rfl hl.1 rfl (lv_room (Nat.le_of_ble_eq_true rfl)) dX5_overhang_26 ⟨Nat.le_of_ble_eq_true rfl, Nat.le_of_ble_eq_true rfl⟩) hS (fun q _ h => hFc q h) hFc (fun u_7 t H1 locs ht hvm hw hB hz1 hk1 hS => ?_)
  obtain ⟨hP1, hK1, hD1⟩ := hB
  rw [ht] at hP1
  obtain ⟨hP, hD⟩ := va_join (wr := [(x, .inr (7, [.ref bx, .ref po, .ref tr, .ref pa, .ref sp])), (p_v, .inl (cI, 4, .inl zi)), (p_st, .inl (cI, 4, .inl zi)), (p_ib, .inl (cZ, 4, .inl zi)), (p_se, .inl (cI, 4, .inl zi))]) (w1 := [(pa, .inr (3, [.ref p_v, .int 0, .ref p_st, .ref p_ib, .ref p_di, .ref p_wa, .ref p_se, .ref p_vh, .ref p_re])), (bx, .inr (2, [.ref b0, .ref b1, .int 0, .int 0, .ref b4, .int 0, .ref b6, .int 0, .int 0, .int 0, .int 0])), (p_di, .inl (cI, 4, .inl zi)), (p_wa, .inl (cI, 4, .inl zi))]) hP hD [4, 3, 0, 1] [2, 5, 6, 7, 8] rfl rfl (by decide) (by decide) hk1 hFc hP1 hD1
  generalize H1 = H at hP hS ⊢
  have hP : va_P (dC, dI) vwCl [(x, .inr (7, [.ref bx, .ref po, .ref tr, .ref pa, .ref sp])), (p_v, .inl (cI, 4, .inl zi)), (p_st, .inl (cI, 4, .inl zi)), (p_ib, .inl (cZ, 4, .inl zi)), (p_se, .inl (cI, 4, .inl zi)), (pa, .inr (3, [.ref p_v, .int 0, .ref p_st, .ref p_ib, .ref p_di, .ref p_wa, .ref p_se, .ref p_vh, .ref p_re])), (bx, .inr (2, [.ref b0, .ref b1, .int 0, .int 0, .ref b4, .int 0, .ref b6, .int 0, .int 0, .int 0, .int 0])), (p_di, .inl (cI, 4, .inl zi)), (p_wa, .inl (cI, 4, .inl zi))] H := hP
  have hD : va_D A [(x, .inr (7, [.ref bx, .ref po, .ref tr, .ref pa, .ref sp])), (p_v, .inl (cI, 4, .inl zi)), (p_st, .inl (cI, 4, .inl zi)), (p_ib, .inl (cZ, 4, .inl zi)), (p_se, .inl (cI, 4, .inl zi)), (pa, .inr (3, [.ref p_v, .int 0, .ref p_st, .ref p_ib, .ref p_di, .ref p_wa, .ref p_se, .ref p_vh, .ref p_re])), (bx, .inr (2, [.ref b0, .ref b1, .int 0, .int 0, .ref b4, .int 0, .ref b6, .int 0, .int 0, .int 0, .int 0])), (p_di, .inl (cI, 4, .inl zi)), (p_wa, .inl (cI, 4, .inl zi))] := hD
  refine W.widen (k := 0) (n := 0) (Nat.le_refl _) (Nat.le_refl _) ?_
  refine lv_aload_n hx hb dX5_overhang_29 rfl (lv_at hl 0 rfl) ?_
  refine va_get (D := (dC, dI)) (ci := 7) (v := .ref pa) (C := RX5) (T := TX5) (N := 5) hx hb hts hinX5 hown hK hP 0 rfl rfl 3 (by decide) (hts (.fieldLink RX5 33 "BallotLoom" "parties" "LBallotLoom$Parties;") (by decide +kernel)) (fun _ h9 => h9) rfl dX5_overhang_30 ?_
  have hPc := hP.sub (ws' := [(pa, .inr (3, [.ref p_v, .int 0, .ref p_st, .ref p_ib, .ref p_di, .ref p_wa, .ref p_se, .ref p_vh, .ref p_re])), (p_di, .inl (cI, 4, .inl zi)), (p_se, .inl (cI, 4, .inl zi))]) [5, 7, 4] rfl
  have hDc := hD.sub (ws' := [(pa, .inr (3, [.ref p_v, .int 0, .ref p_st, .ref p_ib, .ref p_di, .ref p_wa, .ref p_se, .ref p_vh, .ref p_re])), (p_di, .inl (cI, 4, .inl zi)), (p_se, .inl (cI, 4, .inl zi))]) [5, 7, 4] (by decide) rfl
  have hKc := hK.sub (tys' := [(cI, .int)]) [0] rfl
  have hFc := va_free (wc := [(pa, .inr (3, [.ref p_v, .int 0, .ref p_st, .ref p_ib, .ref p_di, .ref p_wa, .ref p_se, .ref p_vh, .ref p_re])), (p_di, .inl (cI, 4, .inl zi)), (p_se, .inl (cI, 4, .inl zi))]) hD hS hA [5, 7, 4] rfl
  refine va_calli (va_runV (As := []) (rest := []) ⟨hx, hb, hml, hown, hts⟩ (c_X1_seatsAbove l dC dI pa p_v p_st p_ib p_di p_wa p_se p_vh p_re cI _ ) (cwV 0 hts gX5_overhang_X1_seatsAbove rfl rfl rfl (by decide +kernel) ⟨Nat.le_of_ble_eq_true rfl, Nat.le_of_ble_eq_true rfl⟩) ⟨pr_blind, va_recv hKc hPc (ci := 3) (q0 := 0) rfl rfl, fun U hU hW => ⟨rfl, pr_mk hU hW hPc hKc hDc⟩⟩ rfl rfl hl.1 rfl (lv_room (Nat.le_of_ble_eq_true rfl)) dX5_overhang_33 ⟨Nat.le_of_ble_eq_true rfl, Nat.le_of_ble_eq_true rfl⟩) hS (fun q _ h => hFc q h) hFc (fun r_10 u_9 t H1 locs ht hvm hw hB hz1 hk1 hS => ?_)
  obtain ⟨hP1, hK1, hD1⟩ := hB
  rw [ht] at hP1
  obtain ⟨hP, hD⟩ := va_join (wr := [(x, .inr (7, [.ref bx, .ref po, .ref tr, .ref pa, .ref sp])), (p_v, .inl (cI, 4, .inl zi)), (p_st, .inl (cI, 4, .inl zi)), (p_ib, .inl (cZ, 4, .inl zi)), (bx, .inr (2, [.ref b0, .ref b1, .int 0, .int 0, .ref b4, .int 0, .ref b6, .int 0, .int 0, .int 0, .int 0])), (p_wa, .inl (cI, 4, .inl zi))]) (w1 := [(pa, .inr (3, [.ref p_v, .int 0, .ref p_st, .ref p_ib, .ref p_di, .ref p_wa, .ref p_se, .ref p_vh, .ref p_re])), (p_di, .inl (cI, 4, .inl zi)), (p_se, .inl (cI, 4, .inl zi))]) hP hD [5, 7, 4] [0, 1, 2, 3, 6, 8] rfl rfl (by decide) (by decide) hk1 hFc hP1 hD1
  generalize H1 = H at hP hS ⊢
  have hP : va_P (dC, dI) vwCl [(x, .inr (7, [.ref bx, .ref po, .ref tr, .ref pa, .ref sp])), (p_v, .inl (cI, 4, .inl zi)), (p_st, .inl (cI, 4, .inl zi)), (p_ib, .inl (cZ, 4, .inl zi)), (bx, .inr (2, [.ref b0, .ref b1, .int 0, .int 0, .ref b4, .int 0, .ref b6, .int 0, .int 0, .int 0, .int 0])), (p_wa, .inl (cI, 4, .inl zi)), (pa, .inr (3, [.ref p_v, .int 0, .ref p_st, .ref p_ib, .ref p_di, .ref p_wa, .ref p_se, .ref p_vh, .ref p_re])), (p_di, .inl (cI, 4, .inl zi)), (p_se, .inl (cI, 4, .inl zi))] H := hP
  have hD : va_D A [(x, .inr (7, [.ref bx, .ref po, .ref tr, .ref pa, .ref sp])), (p_v, .inl (cI, 4, .inl zi)), (p_st, .inl (cI, 4, .inl zi)), (p_ib, .inl (cZ, 4, .inl zi)), (bx, .inr (2, [.ref b0, .ref b1, .int 0, .int 0, .ref b4, .int 0, .ref b6, .int 0, .int 0, .int 0, .int 0])), (p_wa, .inl (cI, 4, .inl zi)), (pa, .inr (3, [.ref p_v, .int 0, .ref p_st, .ref p_ib, .ref p_di, .ref p_wa, .ref p_se, .ref p_vh, .ref p_re])), (p_di, .inl (cI, 4, .inl zi)), (p_se, .inl (cI, 4, .inl zi))] := hD
  refine W.widen (k := 0) (n := 0) (Nat.le_refl _) (Nat.le_refl _) ?_
  have hw : r_10 = 0 := hw
  subst hw
  have hP9 := hP.sub (ws' := []) [] rfl
  have hD9 := hD.sub (ws' := []) [] (by decide) rfl
  have hK9 := hK.sub (tys' := [(cI, .int), (cZ, .boolean)]) [0, 1] rfl
  refine W.widen (k := 0) (n := 0) (Nat.le_of_ble_eq_true rfl) (Nat.le_of_ble_eq_true rfl) ?_
  exact W.iret (v := 0) hx hb hr (fun t ht hW => ⟨⟨0, (), rfl, rfl, po_mk ht hW hP9 hK9 hD9⟩, hS.F ht⟩) hS.2.2 dX5_overhang_36

set_option maxHeartbeats 4000000 in
set_option maxRecDepth 100000 in
theorem c_X5_swings (l : Launch) (dC : Nat → ClassId) (dI : Nat → Nat → Nat) (x : Nat) (po : Nat) (tr : Nat) (sp : Nat) (bx : Nat) (b0 : Nat) (b1 : Nat) (b4 : Nat) (b6 : Nat) (pa : Nat) (p_v : Nat) (p_st : Nat) (p_ib : Nat) (p_di : Nat) (p_wa : Nat) (p_se : Nat) (p_vh : Nat) (p_re : Nat) (cI : ClassId) (cZ : ClassId) (a0 : Int32) (a1 : Int32) (a2 : Int32) (sz : Nat) (g0a : ¬ a0 < 0) (g0b : ¬ 4 ≤ a0) (g1a : ¬ a1 < 1) (g1b : a1 ≤ 60) (g2a : ¬ a2 < 0) (g2b : a2 ≤ 2) : Met l yX5_swings wsX5_swings ({ frames := 6, cells := 0, slots := 0, locals := 170 }) (va_Pc [.ref x, .int a0, .int a1, .int a2] (pr_ dC dI [(x, .inr (7, [.ref bx, .ref po, .ref tr, .ref pa, .ref sp])), (bx, .inr (2, [.ref b0, .ref b1, .int 0, .int 0, .ref b4, .int 0, .ref b6, .int 0, .int 0, .int 0, .int 0])), (pa, .inr (3, [.ref p_v, .int 0, .ref p_st, .ref p_ib, .ref p_di, .ref p_wa, .ref p_se, .ref p_vh, .ref p_re])), (p_v, .inl (cI, 4, .inl zi)), (p_st, .inl (cI, 4, .inl zi)), (p_ib, .inl (cZ, 4, .inl zi)), (p_di, .inl (cI, 4, .inl zi)), (p_wa, .inl (cI, 4, .inl zi)), (p_se, .inl (cI, 4, .inl zi))] [(cI, .int), (cZ, .boolean)] sz)) (va_Qi (fun (r : Int32) (_ : Unit) => r = 0) (fun (_ : Unit) t => po_ dC dI [] [(cI, .int), (cZ, .boolean)] (va_A [(x, .inr (7, [.ref bx, .ref po, .ref tr, .ref pa, .ref sp])), (bx, .inr (2, [.ref b0, .ref b1, .int 0, .int 0, .ref b4, .int 0, .ref b6, .int 0, .int 0, .int 0, .int 0])), (pa, .inr (3, [.ref p_v, .int 0, .ref p_st, .ref p_ib, .ref p_di, .ref p_wa, .ref p_se, .ref p_vh, .ref p_re])), (p_v, .inl (cI, 4, .inl zi)), (p_st, .inl (cI, 4, .inl zi)), (p_ib, .inl (cZ, 4, .inl zi)), (p_di, .inl (cI, 4, .inl zi)), (p_wa, .inl (cI, 4, .inl zi)), (p_se, .inl (cI, 4, .inl zi))] sz) t) (va_A [(x, .inr (7, [.ref bx, .ref po, .ref tr, .ref pa, .ref sp])), (bx, .inr (2, [.ref b0, .ref b1, .int 0, .int 0, .ref b4, .int 0, .ref b6, .int 0, .int 0, .int 0, .int 0])), (pa, .inr (3, [.ref p_v, .int 0, .ref p_st, .ref p_ib, .ref p_di, .ref p_wa, .ref p_se, .ref p_vh, .ref p_re])), (p_v, .inl (cI, 4, .inl zi)), (p_st, .inl (cI, 4, .inl zi)), (p_ib, .inl (cZ, 4, .inl zi)), (p_di, .inl (cI, 4, .inl zi)), (p_wa, .inl (cI, 4, .inl zi)), (p_se, .inl (cI, 4, .inl zi))] sz)) 0 0 (va_A [(x, .inr (7, [.ref bx, .ref po, .ref tr, .ref pa, .ref sp])), (bx, .inr (2, [.ref b0, .ref b1, .int 0, .int 0, .ref b4, .int 0, .ref b6, .int 0, .int 0, .int 0, .int 0])), (pa, .inr (3, [.ref p_v, .int 0, .ref p_st, .ref p_ib, .ref p_di, .ref p_wa, .ref p_se, .ref p_vh, .ref p_re])), (p_v, .inl (cI, 4, .inl zi)), (p_st, .inl (cI, 4, .inl zi)), (p_ib, .inl (cZ, 4, .inl zi)), (p_di, .inl (cI, 4, .inl zi)), (p_wa, .inl (cI, 4, .inl zi)), (p_se, .inl (cI, 4, .inl zi))] sz) := by
  refine Met.ofW (cc := cX5_swings) (maxL := 4) (ret := (some .int)) (by decide) rfl ?_
  intro p e s m args below meth c s₁ B hml hv
  obtain ⟨rfl, hsz, hP, hK, hD0⟩ := hv
  have hx := B.exec
  have hb := B.bytes
  have hr := B.returns
  have hts := atoms_spec (ws := wsX5_swings) B.pre
  have hown : s.vm.findClass RX5 = some m.cls := findClass_of_methodNamed B.named
  have hlocks := B.notSynchronized
  subst hsz
  have hD := hD0.self (sz := s.heap.size)
  generalize hAe : va_A [(x, .inr (7, [.ref bx, .ref po, .ref tr, .ref pa, .ref sp])), (bx, .inr (2, [.ref b0, .ref b1, .int 0, .int 0, .ref b4, .int 0, .ref b6, .int 0, .int 0, .int 0, .int 0])), (pa, .inr (3, [.ref p_v, .int 0, .ref p_st, .ref p_ib, .ref p_di, .ref p_wa, .ref p_se, .ref p_vh, .ref p_re])), (p_v, .inl (cI, 4, .inl zi)), (p_st, .inl (cI, 4, .inl zi)), (p_ib, .inl (cZ, 4, .inl zi)), (p_di, .inl (cI, 4, .inl zi)), (p_wa, .inl (cI, 4, .inl zi)), (p_se, .inl (cI, 4, .inl zi))] s.heap.size = A at hD ⊢
  have hA : ∀ q : Nat, s.heap.size ≤ q → A q := fun q h => by rw [← hAe]; exact Or.inr h
  have hS : va_S A s.heap s.heap [] := va_S.rf
  have hP : va_P (dC, dI) vwCl [(x, .inr (7, [.ref bx, .ref po, .ref tr, .ref pa, .ref sp])), (bx, .inr (2, [.ref b0, .ref b1, .int 0, .int 0, .ref b4, .int 0, .ref b6, .int 0, .int 0, .int 0, .int 0])), (pa, .inr (3, [.ref p_v, .int 0, .ref p_st, .ref p_ib, .ref p_di, .ref p_wa, .ref p_se, .ref p_vh, .ref p_re])), (p_v, .inl (cI, 4, .inl zi)), (p_st, .inl (cI, 4, .inl zi)), (p_ib, .inl (cZ, 4, .inl zi)), (p_di, .inl (cI, 4, .inl zi)), (p_wa, .inl (cI, 4, .inl zi)), (p_se, .inl (cI, 4, .inl zi))] s.heap := hP
  have hK : va_K (dC, dI) vwCl [(cI, .int), (cZ, .boolean)] s := hK
  have hl := lv_entry ([.ref x, .int a0, .int a1, .int a2]) (n := 4) (Nat.le_of_ble_eq_true rfl)
  rw [lg_entry_eq]
  generalize (lg_sl ([.ref x, .int a0, .int a1, .int a2]) ++ List.replicate (4 - (lg_sl ([.ref x, .int a0, .int a1, .int a2])).length) Slot.unset).toArray = ls at hl ⊢
  have hl : lv_has ls 4 [(0, .ref x), (1, .int a0), (2, .int a1), (3, .int a2)] := hl
  refine lv_iload_n hx hb dX5_swings_0 rfl (lv_at hl 1 rfl) ?_
  have hPc := hP.sub (ws' := []) [] rfl
  have hDc := hD.sub (ws' := []) [] (by decide) rfl
  have hKc := hK.sub (tys' := []) [] rfl
  have hFc := va_free (wc := []) hD hS hA [] rfl
  refine va_callv (va_runS (As := [.int a0]) (rest := []) ⟨hx, hb, hml, hown, hts⟩ (c_X5_checkParty l dC dI a0 _ g0a g0b) (va_cwS 1 hts gX5_swings_X5_checkParty rfl rfl rfl (by decide +kernel) ⟨Nat.le_of_ble_eq_true rfl, Nat.le_of_ble_eq_true rfl⟩) ⟨pr_blind, fun U hU hW => ⟨rfl, pr_mk hU hW hPc hKc hDc⟩⟩ rfl rfl hl.1 rfl (lv_room (Nat.le_of_ble_eq_true rfl)) dX5_swings_1 ⟨Nat.le_of_ble_eq_true rfl, Nat.le_of_ble_eq_true rfl⟩) hS (fun q _ h => hFc q h) hFc (fun u_1 t H1 locs ht hvm hw hB hz1 hk1 hS => ?_)
  obtain ⟨hP1, hK1, hD1⟩ := hB
  rw [ht] at hP1
  obtain ⟨hP, hD⟩ := va_join (wr := [(x, .inr (7, [.ref bx, .ref po, .ref tr, .ref pa, .ref sp])), (bx, .inr (2, [.ref b0, .ref b1, .int 0, .int 0, .ref b4, .int 0, .ref b6, .int 0, .int 0, .int 0, .int 0])), (pa, .inr (3, [.ref p_v, .int 0, .ref p_st, .ref p_ib, .ref p_di, .ref p_wa, .ref p_se, .ref p_vh, .ref p_re])), (p_v, .inl (cI, 4, .inl zi)), (p_st, .inl (cI, 4, .inl zi)), (p_ib, .inl (cZ, 4, .inl zi)), (p_di, .inl (cI, 4, .inl zi)), (p_wa, .inl (cI, 4, .inl zi)), (p_se, .inl (cI, 4, .inl zi))]) (w1 := []) hP hD [] [0, 1, 2, 3, 4, 5, 6, 7, 8] rfl rfl (by decide) (by decide) hk1 hFc hP1 hD1
  generalize H1 = H at hP hS ⊢
  have hP : va_P (dC, dI) vwCl [(x, .inr (7, [.ref bx, .ref po, .ref tr, .ref pa, .ref sp])), (bx, .inr (2, [.ref b0, .ref b1, .int 0, .int 0, .ref b4, .int 0, .ref b6, .int 0, .int 0, .int 0, .int 0])), (pa, .inr (3, [.ref p_v, .int 0, .ref p_st, .ref p_ib, .ref p_di, .ref p_wa, .ref p_se, .ref p_vh, .ref p_re])), (p_v, .inl (cI, 4, .inl zi)), (p_st, .inl (cI, 4, .inl zi)), (p_ib, .inl (cZ, 4, .inl zi)), (p_di, .inl (cI, 4, .inl zi)), (p_wa, .inl (cI, 4, .inl zi)), (p_se, .inl (cI, 4, .inl zi))] H := hP
  have hD : va_D A [(x, .inr (7, [.ref bx, .ref po, .ref tr, .ref pa, .ref sp])), (bx, .inr (2, [.ref b0, .ref b1, .int 0, .int 0, .ref b4, .int 0, .ref b6, .int 0, .int 0, .int 0, .int 0])), (pa, .inr (3, [.ref p_v, .int 0, .ref p_st, .ref p_ib, .ref p_di, .ref p_wa, .ref p_se, .ref p_vh, .ref p_re])), (p_v, .inl (cI, 4, .inl zi)), (p_st, .inl (cI, 4, .inl zi)), (p_ib, .inl (cZ, 4, .inl zi)), (p_di, .inl (cI, 4, .inl zi)), (p_wa, .inl (cI, 4, .inl zi)), (p_se, .inl (cI, 4, .inl zi))] := hD
  refine W.widen (k := 0) (n := 0) (Nat.le_refl _) (Nat.le_refl _) ?_
  refine lv_iload_n hx hb dX5_swings_4 rfl (lv_at hl 2 rfl) ?_
  have hPc := hP.sub (ws' := []) [] rfl
  have hDc := hD.sub (ws' := []) [] (by decide) rfl
  have hKc := hK.sub (tys' := []) [] rfl
  have hFc := va_free (wc := []) hD hS hA [] rfl
  refine va_callv (va_runS (As := [.int a1]) (rest := []) ⟨hx, hb, hml, hown, hts⟩ (c_X5_checkHouse l dC dI a1 _ g1a g1b) (va_cwS 1 hts gX5_swings_X5_checkHouse rfl rfl rfl (by decide +kernel) ⟨Nat.le_of_ble_eq_true rfl, Nat.le_of_ble_eq_true rfl⟩) ⟨pr_blind, fun U hU hW => ⟨rfl, pr_mk hU hW hPc hKc hDc⟩⟩ rfl rfl hl.1 rfl (lv_room (Nat.le_of_ble_eq_true rfl)) dX5_swings_5 ⟨Nat.le_of_ble_eq_true rfl, Nat.le_of_ble_eq_true rfl⟩) hS (fun q _ h => hFc q h) hFc (fun u_3 t H1 locs ht hvm hw hB hz1 hk1 hS => ?_)
  obtain ⟨hP1, hK1, hD1⟩ := hB
  rw [ht] at hP1
  obtain ⟨hP, hD⟩ := va_join (wr := [(x, .inr (7, [.ref bx, .ref po, .ref tr, .ref pa, .ref sp])), (bx, .inr (2, [.ref b0, .ref b1, .int 0, .int 0, .ref b4, .int 0, .ref b6, .int 0, .int 0, .int 0, .int 0])), (pa, .inr (3, [.ref p_v, .int 0, .ref p_st, .ref p_ib, .ref p_di, .ref p_wa, .ref p_se, .ref p_vh, .ref p_re])), (p_v, .inl (cI, 4, .inl zi)), (p_st, .inl (cI, 4, .inl zi)), (p_ib, .inl (cZ, 4, .inl zi)), (p_di, .inl (cI, 4, .inl zi)), (p_wa, .inl (cI, 4, .inl zi)), (p_se, .inl (cI, 4, .inl zi))]) (w1 := []) hP hD [] [0, 1, 2, 3, 4, 5, 6, 7, 8] rfl rfl (by decide) (by decide) hk1 hFc hP1 hD1
  generalize H1 = H at hP hS ⊢
  have hP : va_P (dC, dI) vwCl [(x, .inr (7, [.ref bx, .ref po, .ref tr, .ref pa, .ref sp])), (bx, .inr (2, [.ref b0, .ref b1, .int 0, .int 0, .ref b4, .int 0, .ref b6, .int 0, .int 0, .int 0, .int 0])), (pa, .inr (3, [.ref p_v, .int 0, .ref p_st, .ref p_ib, .ref p_di, .ref p_wa, .ref p_se, .ref p_vh, .ref p_re])), (p_v, .inl (cI, 4, .inl zi)), (p_st, .inl (cI, 4, .inl zi)), (p_ib, .inl (cZ, 4, .inl zi)), (p_di, .inl (cI, 4, .inl zi)), (p_wa, .inl (cI, 4, .inl zi)), (p_se, .inl (cI, 4, .inl zi))] H := hP
  have hD : va_D A [(x, .inr (7, [.ref bx, .ref po, .ref tr, .ref pa, .ref sp])), (bx, .inr (2, [.ref b0, .ref b1, .int 0, .int 0, .ref b4, .int 0, .ref b6, .int 0, .int 0, .int 0, .int 0])), (pa, .inr (3, [.ref p_v, .int 0, .ref p_st, .ref p_ib, .ref p_di, .ref p_wa, .ref p_se, .ref p_vh, .ref p_re])), (p_v, .inl (cI, 4, .inl zi)), (p_st, .inl (cI, 4, .inl zi)), (p_ib, .inl (cZ, 4, .inl zi)), (p_di, .inl (cI, 4, .inl zi)), (p_wa, .inl (cI, 4, .inl zi)), (p_se, .inl (cI, 4, .inl zi))] := hD
  refine W.widen (k := 0) (n := 0) (Nat.le_refl _) (Nat.le_refl _) ?_
  refine lv_iload_n hx hb dX5_swings_8 rfl (lv_at hl 3 rfl) ?_
  have hPc := hP.sub (ws' := []) [] rfl
  have hDc := hD.sub (ws' := []) [] (by decide) rfl
  have hKc := hK.sub (tys' := []) [] rfl
  have hFc := va_free (wc := []) hD hS hA [] rfl
  refine va_callv (va_runS (As := [.int a2]) (rest := []) ⟨hx, hb, hml, hown, hts⟩ (c_X5_checkRule l dC dI a2 _ g2a g2b) (va_cwS 1 hts gX5_swings_X5_checkRule rfl rfl rfl (by decide +kernel) ⟨Nat.le_of_ble_eq_true rfl, Nat.le_of_ble_eq_true rfl⟩) ⟨pr_blind, fun U hU hW => ⟨rfl, pr_mk hU hW hPc hKc hDc⟩⟩ rfl rfl hl.1 rfl (lv_room (Nat.le_of_ble_eq_true rfl)) dX5_swings_9 ⟨Nat.le_of_ble_eq_true rfl, Nat.le_of_ble_eq_true rfl⟩) hS (fun q _ h => hFc q h) hFc (fun u_5 t H1 locs ht hvm hw hB hz1 hk1 hS => ?_)
  obtain ⟨hP1, hK1, hD1⟩ := hB
  rw [ht] at hP1
  obtain ⟨hP, hD⟩ := va_join (wr := [(x, .inr (7, [.ref bx, .ref po, .ref tr, .ref pa, .ref sp])), (bx, .inr (2, [.ref b0, .ref b1, .int 0, .int 0, .ref b4, .int 0, .ref b6, .int 0, .int 0, .int 0, .int 0])), (pa, .inr (3, [.ref p_v, .int 0, .ref p_st, .ref p_ib, .ref p_di, .ref p_wa, .ref p_se, .ref p_vh, .ref p_re])), (p_v, .inl (cI, 4, .inl zi)), (p_st, .inl (cI, 4, .inl zi)), (p_ib, .inl (cZ, 4, .inl zi)), (p_di, .inl (cI, 4, .inl zi)), (p_wa, .inl (cI, 4, .inl zi)), (p_se, .inl (cI, 4, .inl zi))]) (w1 := []) hP hD [] [0, 1, 2, 3, 4, 5, 6, 7, 8] rfl rfl (by decide) (by decide) hk1 hFc hP1 hD1
  generalize H1 = H at hP hS ⊢
  have hP : va_P (dC, dI) vwCl [(x, .inr (7, [.ref bx, .ref po, .ref tr, .ref pa, .ref sp])), (bx, .inr (2, [.ref b0, .ref b1, .int 0, .int 0, .ref b4, .int 0, .ref b6, .int 0, .int 0, .int 0, .int 0])), (pa, .inr (3, [.ref p_v, .int 0, .ref p_st, .ref p_ib, .ref p_di, .ref p_wa, .ref p_se, .ref p_vh, .ref p_re])), (p_v, .inl (cI, 4, .inl zi)), (p_st, .inl (cI, 4, .inl zi)), (p_ib, .inl (cZ, 4, .inl zi)), (p_di, .inl (cI, 4, .inl zi)), (p_wa, .inl (cI, 4, .inl zi)), (p_se, .inl (cI, 4, .inl zi))] H := hP
  have hD : va_D A [(x, .inr (7, [.ref bx, .ref po, .ref tr, .ref pa, .ref sp])), (bx, .inr (2, [.ref b0, .ref b1, .int 0, .int 0, .ref b4, .int 0, .ref b6, .int 0, .int 0, .int 0, .int 0])), (pa, .inr (3, [.ref p_v, .int 0, .ref p_st, .ref p_ib, .ref p_di, .ref p_wa, .ref p_se, .ref p_vh, .ref p_re])), (p_v, .inl (cI, 4, .inl zi)), (p_st, .inl (cI, 4, .inl zi)), (p_ib, .inl (cZ, 4, .inl zi)), (p_di, .inl (cI, 4, .inl zi)), (p_wa, .inl (cI, 4, .inl zi)), (p_se, .inl (cI, 4, .inl zi))] := hD
  refine W.widen (k := 0) (n := 0) (Nat.le_refl _) (Nat.le_refl _) ?_
  refine lv_aload_n hx hb dX5_swings_12 rfl (lv_at hl 0 rfl) ?_
  refine lv_iload_n hx hb dX5_swings_13 rfl (lv_at hl 2 rfl) ?_
  refine lv_iload_n hx hb dX5_swings_14 rfl (lv_at hl 3 rfl) ?_
  have hPc := hP.sub (ws' := [(x, .inr (7, [.ref bx, .ref po, .ref tr, .ref pa, .ref sp])), (bx, .inr (2, [.ref b0, .ref b1, .int 0, .int 0, .ref b4, .int 0, .ref b6, .int 0, .int 0, .int 0, .int 0])), (pa, .inr (3, [.ref p_v, .int 0, .ref p_st, .ref p_ib, .ref p_di, .ref p_wa, .ref p_se, .ref p_vh, .ref p_re])), (p_v, .inl (cI, 4, .inl zi)), (p_st, .inl (cI, 4, .inl zi)), (p_ib, .inl (cZ, 4, .inl zi)), (p_se, .inl (cI, 4, .inl zi))]) [0, 1, 2, 3, 4, 5, 8] rfl
  have hDc := hD.sub (ws' := [(x, .inr (7, [.ref bx, .ref po, .ref tr, .ref pa, .ref sp])), (bx, .inr (2, [.ref b0, .ref b1, .int 0, .int 0, .ref b4, .int 0, .ref b6, .int 0, .int 0, .int 0, .int 0])), (pa, .inr (3, [.ref p_v, .int 0, .ref p_st, .ref p_ib, .ref p_di, .ref p_wa, .ref p_se, .ref p_vh, .ref p_re])), (p_v, .inl (cI, 4, .inl zi)), (p_st, .inl (cI, 4, .inl zi)), (p_ib, .inl (cZ, 4, .inl zi)), (p_se, .inl (cI, 4, .inl zi))]) [0, 1, 2, 3, 4, 5, 8] (by decide) rfl
  have hKc := hK.sub (tys' := [(cI, .int), (cZ, .boolean)]) [0, 1] rfl
  have hFc := va_free (wc := [(x, .inr (7, [.ref bx, .ref po, .ref tr, .ref pa, .ref sp])), (bx, .inr (2, [.ref b0, .ref b1, .int 0, .int 0, .ref b4, .int 0, .ref b6, .int 0, .int 0, .int 0, .int 0])), (pa, .inr (3, [.ref p_v, .int 0, .ref p_st, .ref p_ib, .ref p_di, .ref p_wa, .ref p_se, .ref p_vh, .ref p_re])), (p_v, .inl (cI, 4, .inl zi)), (p_st, .inl (cI, 4, .inl zi)), (p_ib, .inl (cZ, 4, .inl zi)), (p_se, .inl (cI, 4, .inl zi))]) hD hS hA [0, 1, 2, 3, 4, 5, 8] rfl
  refine va_callv (va_runV (As := [.int a1, .int a2]) (rest := []) ⟨hx, hb, hml, hown, hts⟩ (c_X5_shareHouse l dC dI x po tr sp bx b0 b1 b4 b6 pa p_v p_st p_ib p_di p_wa p_se p_vh p_re cI cZ a1 a2 _ (ho1 g1a)) (cwV 2 hts gX5_swings_X5_shareHouse rfl rfl rfl (by decide +kernel) ⟨Nat.le_of_ble_eq_true rfl, Nat.le_of_ble_eq_true rfl⟩) ⟨pr_blind, va_recv hKc hPc (ci := 7) (q0 := 0) rfl rfl, fun U hU hW => ⟨rfl, pr_mk hU hW hPc hKc hDc⟩⟩ rfl rfl hl.1 rfl (lv_room (Nat.le_of_ble_eq_true rfl)) dX5_swings_15 ⟨Nat.le_of_ble_eq_true rfl, Nat.le_of_ble_eq_true rfl⟩) hS (fun q _ h => hFc q h) hFc (fun u_7 t H1 locs ht hvm hw hB hz1 hk1 hS => ?_)
  obtain ⟨hP1, hK1, hD1⟩ := hB
  rw [ht] at hP1
  obtain ⟨hP, hD⟩ := va_join (wr := [(p_di, .inl (cI, 4, .inl zi)), (p_wa, .inl (cI, 4, .inl zi))]) (w1 := [(x, .inr (7, [.ref bx, .ref po, .ref tr, .ref pa, .ref sp])), (bx, .inr (2, [.ref b0, .ref b1, .int 0, .int 0, .ref b4, .int 0, .ref b6, .int 0, .int 0, .int 0, .int 0])), (pa, .inr (3, [.ref p_v, .int 0, .ref p_st, .ref p_ib, .ref p_di, .ref p_wa, .ref p_se, .ref p_vh, .ref p_re])), (p_v, .inl (cI, 4, .inl zi)), (p_st, .inl (cI, 4, .inl zi)), (p_ib, .inl (cZ, 4, .inl zi)), (p_se, .inl (cI, 4, .inl zi))]) hP hD [0, 1, 2, 3, 4, 5, 8] [6, 7] rfl rfl (by decide) (by decide) hk1 hFc hP1 hD1
  generalize H1 = H at hP hS ⊢
  have hP : va_P (dC, dI) vwCl [(p_di, .inl (cI, 4, .inl zi)), (p_wa, .inl (cI, 4, .inl zi)), (x, .inr (7, [.ref bx, .ref po, .ref tr, .ref pa, .ref sp])), (bx, .inr (2, [.ref b0, .ref b1, .int 0, .int 0, .ref b4, .int 0, .ref b6, .int 0, .int 0, .int 0, .int 0])), (pa, .inr (3, [.ref p_v, .int 0, .ref p_st, .ref p_ib, .ref p_di, .ref p_wa, .ref p_se, .ref p_vh, .ref p_re])), (p_v, .inl (cI, 4, .inl zi)), (p_st, .inl (cI, 4, .inl zi)), (p_ib, .inl (cZ, 4, .inl zi)), (p_se, .inl (cI, 4, .inl zi))] H := hP
  have hD : va_D A [(p_di, .inl (cI, 4, .inl zi)), (p_wa, .inl (cI, 4, .inl zi)), (x, .inr (7, [.ref bx, .ref po, .ref tr, .ref pa, .ref sp])), (bx, .inr (2, [.ref b0, .ref b1, .int 0, .int 0, .ref b4, .int 0, .ref b6, .int 0, .int 0, .int 0, .int 0])), (pa, .inr (3, [.ref p_v, .int 0, .ref p_st, .ref p_ib, .ref p_di, .ref p_wa, .ref p_se, .ref p_vh, .ref p_re])), (p_v, .inl (cI, 4, .inl zi)), (p_st, .inl (cI, 4, .inl zi)), (p_ib, .inl (cZ, 4, .inl zi)), (p_se, .inl (cI, 4, .inl zi))] := hD
  refine W.widen (k := 0) (n := 0) (Nat.le_refl _) (Nat.le_refl _) ?_
  refine lv_aload_n hx hb dX5_swings_18 rfl (lv_at hl 0 rfl) ?_
  have hinX5 : ∀ w ∈ u_ws RX5 TX5 5, w ∈ wsX5_swings := by decide +kernel
  refine va_get (D := (dC, dI)) (ci := 7) (v := .ref pa) (C := RX5) (T := TX5) (N := 5) hx hb hts hinX5 hown hK hP 2 rfl rfl 3 (by decide) (hts (.fieldLink RX5 33 "BallotLoom" "parties" "LBallotLoom$Parties;") (by decide +kernel)) (fun _ h9 => h9) rfl dX5_swings_19 ?_
  refine lv_iload_n hx hb dX5_swings_22 rfl (lv_at hl 1 rfl) ?_
  refine lv_iload_n hx hb dX5_swings_23 rfl (lv_at hl 2 rfl) ?_
  have hPc := hP.sub (ws' := [(pa, .inr (3, [.ref p_v, .int 0, .ref p_st, .ref p_ib, .ref p_di, .ref p_wa, .ref p_se, .ref p_vh, .ref p_re])), (p_se, .inl (cI, 4, .inl zi))]) [4, 8] rfl
  have hDc := hD.sub (ws' := [(pa, .inr (3, [.ref p_v, .int 0, .ref p_st, .ref p_ib, .ref p_di, .ref p_wa, .ref p_se, .ref p_vh, .ref p_re])), (p_se, .inl (cI, 4, .inl zi))]) [4, 8] (by decide) rfl
  have hKc := hK.sub (tys' := [(cI, .int)]) [0] rfl
  have hFc := va_free (wc := [(pa, .inr (3, [.ref p_v, .int 0, .ref p_st, .ref p_ib, .ref p_di, .ref p_wa, .ref p_se, .ref p_vh, .ref p_re])), (p_se, .inl (cI, 4, .inl zi))]) hD hS hA [4, 8] rfl
  refine va_calli (va_runV (As := [.int a0, .int a1]) (rest := []) ⟨hx, hb, hml, hown, hts⟩ (c_X1_swingsOf l dC dI pa p_v p_st p_ib p_di p_wa p_se p_vh p_re a0 a1 cI _ (ho0 g1a)) (cwV 2 hts gX5_swings_X1_swingsOf rfl rfl rfl (by decide +kernel) ⟨Nat.le_of_ble_eq_true rfl, Nat.le_of_ble_eq_true rfl⟩) ⟨pr_blind, va_recv hKc hPc (ci := 3) (q0 := 0) rfl rfl, fun U hU hW => ⟨rfl, pr_mk hU hW hPc hKc hDc⟩⟩ rfl rfl hl.1 rfl (lv_room (Nat.le_of_ble_eq_true rfl)) dX5_swings_24 ⟨Nat.le_of_ble_eq_true rfl, Nat.le_of_ble_eq_true rfl⟩) hS (fun q _ h => hFc q h) hFc (fun r_10 u_9 t H1 locs ht hvm hw hB hz1 hk1 hS => ?_)
  obtain ⟨hP1, hK1, hD1⟩ := hB
  rw [ht] at hP1
  obtain ⟨hP, hD⟩ := va_join (wr := [(p_di, .inl (cI, 4, .inl zi)), (p_wa, .inl (cI, 4, .inl zi)), (x, .inr (7, [.ref bx, .ref po, .ref tr, .ref pa, .ref sp])), (bx, .inr (2, [.ref b0, .ref b1, .int 0, .int 0, .ref b4, .int 0, .ref b6, .int 0, .int 0, .int 0, .int 0])), (p_v, .inl (cI, 4, .inl zi)), (p_st, .inl (cI, 4, .inl zi)), (p_ib, .inl (cZ, 4, .inl zi))]) (w1 := [(pa, .inr (3, [.ref p_v, .int 0, .ref p_st, .ref p_ib, .ref p_di, .ref p_wa, .ref p_se, .ref p_vh, .ref p_re])), (p_se, .inl (cI, 4, .inl zi))]) hP hD [4, 8] [0, 1, 2, 3, 5, 6, 7] rfl rfl (by decide) (by decide) hk1 hFc hP1 hD1
  generalize H1 = H at hP hS ⊢
  have hP : va_P (dC, dI) vwCl [(p_di, .inl (cI, 4, .inl zi)), (p_wa, .inl (cI, 4, .inl zi)), (x, .inr (7, [.ref bx, .ref po, .ref tr, .ref pa, .ref sp])), (bx, .inr (2, [.ref b0, .ref b1, .int 0, .int 0, .ref b4, .int 0, .ref b6, .int 0, .int 0, .int 0, .int 0])), (p_v, .inl (cI, 4, .inl zi)), (p_st, .inl (cI, 4, .inl zi)), (p_ib, .inl (cZ, 4, .inl zi)), (pa, .inr (3, [.ref p_v, .int 0, .ref p_st, .ref p_ib, .ref p_di, .ref p_wa, .ref p_se, .ref p_vh, .ref p_re])), (p_se, .inl (cI, 4, .inl zi))] H := hP
  have hD : va_D A [(p_di, .inl (cI, 4, .inl zi)), (p_wa, .inl (cI, 4, .inl zi)), (x, .inr (7, [.ref bx, .ref po, .ref tr, .ref pa, .ref sp])), (bx, .inr (2, [.ref b0, .ref b1, .int 0, .int 0, .ref b4, .int 0, .ref b6, .int 0, .int 0, .int 0, .int 0])), (p_v, .inl (cI, 4, .inl zi)), (p_st, .inl (cI, 4, .inl zi)), (p_ib, .inl (cZ, 4, .inl zi)), (pa, .inr (3, [.ref p_v, .int 0, .ref p_st, .ref p_ib, .ref p_di, .ref p_wa, .ref p_se, .ref p_vh, .ref p_re])), (p_se, .inl (cI, 4, .inl zi))] := hD
  refine W.widen (k := 0) (n := 0) (Nat.le_refl _) (Nat.le_refl _) ?_
  have hw : r_10 = 0 := hw
  subst hw
  have hP9 := hP.sub (ws' := []) [] rfl
  have hD9 := hD.sub (ws' := []) [] (by decide) rfl
  have hK9 := hK.sub (tys' := [(cI, .int), (cZ, .boolean)]) [0, 1] rfl
  refine W.widen (k := 0) (n := 0) (Nat.le_of_ble_eq_true rfl) (Nat.le_of_ble_eq_true rfl) ?_
  exact W.iret (v := 0) hx hb hr (fun t ht hW => ⟨⟨0, (), rfl, rfl, po_mk ht hW hP9 hK9 hD9⟩, hS.F ht⟩) hS.2.2 dX5_swings_27

set_option maxHeartbeats 4000000 in
set_option maxRecDepth 100000 in
theorem c_X5_coalition (l : Launch) (dC : Nat → ClassId) (dI : Nat → Nat → Nat) (x : Nat) (po : Nat) (tr : Nat) (sp : Nat) (bx : Nat) (b0 : Nat) (b1 : Nat) (b4 : Nat) (b6 : Nat) (pa : Nat) (p_v : Nat) (p_st : Nat) (p_ib : Nat) (p_di : Nat) (p_wa : Nat) (p_se : Nat) (p_vh : Nat) (p_re : Nat) (cI : ClassId) (cZ : ClassId) (a0 : Int32) (a1 : Int32) (sz : Nat) (g0a : ¬ a0 < 1) (g0b : a0 ≤ 60) (g1a : ¬ a1 < 0) (g1b : a1 ≤ 2) : Met l yX5_coalition wsX5_coalition ({ frames := 6, cells := 0, slots := 0, locals := 170 }) (va_Pc [.ref x, .int a0, .int a1] (pr_ dC dI [(x, .inr (7, [.ref bx, .ref po, .ref tr, .ref pa, .ref sp])), (bx, .inr (2, [.ref b0, .ref b1, .int 0, .int 0, .ref b4, .int 0, .ref b6, .int 0, .int 0, .int 0, .int 0])), (pa, .inr (3, [.ref p_v, .int 0, .ref p_st, .ref p_ib, .ref p_di, .ref p_wa, .ref p_se, .ref p_vh, .ref p_re])), (p_v, .inl (cI, 4, .inl zi)), (p_st, .inl (cI, 4, .inl zi)), (p_ib, .inl (cZ, 4, .inl zi)), (p_di, .inl (cI, 4, .inl zi)), (p_wa, .inl (cI, 4, .inl zi)), (p_se, .inl (cI, 4, .inl zi))] [(cI, .int), (cZ, .boolean)] sz)) (va_Qi (fun (r : Int32) (_ : Unit) => r = 0) (fun (_ : Unit) t => po_ dC dI [] [(cI, .int), (cZ, .boolean)] (va_A [(x, .inr (7, [.ref bx, .ref po, .ref tr, .ref pa, .ref sp])), (bx, .inr (2, [.ref b0, .ref b1, .int 0, .int 0, .ref b4, .int 0, .ref b6, .int 0, .int 0, .int 0, .int 0])), (pa, .inr (3, [.ref p_v, .int 0, .ref p_st, .ref p_ib, .ref p_di, .ref p_wa, .ref p_se, .ref p_vh, .ref p_re])), (p_v, .inl (cI, 4, .inl zi)), (p_st, .inl (cI, 4, .inl zi)), (p_ib, .inl (cZ, 4, .inl zi)), (p_di, .inl (cI, 4, .inl zi)), (p_wa, .inl (cI, 4, .inl zi)), (p_se, .inl (cI, 4, .inl zi))] sz) t) (va_A [(x, .inr (7, [.ref bx, .ref po, .ref tr, .ref pa, .ref sp])), (bx, .inr (2, [.ref b0, .ref b1, .int 0, .int 0, .ref b4, .int 0, .ref b6, .int 0, .int 0, .int 0, .int 0])), (pa, .inr (3, [.ref p_v, .int 0, .ref p_st, .ref p_ib, .ref p_di, .ref p_wa, .ref p_se, .ref p_vh, .ref p_re])), (p_v, .inl (cI, 4, .inl zi)), (p_st, .inl (cI, 4, .inl zi)), (p_ib, .inl (cZ, 4, .inl zi)), (p_di, .inl (cI, 4, .inl zi)), (p_wa, .inl (cI, 4, .inl zi)), (p_se, .inl (cI, 4, .inl zi))] sz)) 0 0 (va_A [(x, .inr (7, [.ref bx, .ref po, .ref tr, .ref pa, .ref sp])), (bx, .inr (2, [.ref b0, .ref b1, .int 0, .int 0, .ref b4, .int 0, .ref b6, .int 0, .int 0, .int 0, .int 0])), (pa, .inr (3, [.ref p_v, .int 0, .ref p_st, .ref p_ib, .ref p_di, .ref p_wa, .ref p_se, .ref p_vh, .ref p_re])), (p_v, .inl (cI, 4, .inl zi)), (p_st, .inl (cI, 4, .inl zi)), (p_ib, .inl (cZ, 4, .inl zi)), (p_di, .inl (cI, 4, .inl zi)), (p_wa, .inl (cI, 4, .inl zi)), (p_se, .inl (cI, 4, .inl zi))] sz) := by
  refine Met.ofW (cc := cX5_coalition) (maxL := 3) (ret := (some .int)) (by decide) rfl ?_
  intro p e s m args below meth c s₁ B hml hv
  obtain ⟨rfl, hsz, hP, hK, hD0⟩ := hv
  have hx := B.exec
  have hb := B.bytes
  have hr := B.returns
  have hts := atoms_spec (ws := wsX5_coalition) B.pre
  have hown : s.vm.findClass RX5 = some m.cls := findClass_of_methodNamed B.named
  have hlocks := B.notSynchronized
  subst hsz
  have hD := hD0.self (sz := s.heap.size)
  generalize hAe : va_A [(x, .inr (7, [.ref bx, .ref po, .ref tr, .ref pa, .ref sp])), (bx, .inr (2, [.ref b0, .ref b1, .int 0, .int 0, .ref b4, .int 0, .ref b6, .int 0, .int 0, .int 0, .int 0])), (pa, .inr (3, [.ref p_v, .int 0, .ref p_st, .ref p_ib, .ref p_di, .ref p_wa, .ref p_se, .ref p_vh, .ref p_re])), (p_v, .inl (cI, 4, .inl zi)), (p_st, .inl (cI, 4, .inl zi)), (p_ib, .inl (cZ, 4, .inl zi)), (p_di, .inl (cI, 4, .inl zi)), (p_wa, .inl (cI, 4, .inl zi)), (p_se, .inl (cI, 4, .inl zi))] s.heap.size = A at hD ⊢
  have hA : ∀ q : Nat, s.heap.size ≤ q → A q := fun q h => by rw [← hAe]; exact Or.inr h
  have hS : va_S A s.heap s.heap [] := va_S.rf
  have hP : va_P (dC, dI) vwCl [(x, .inr (7, [.ref bx, .ref po, .ref tr, .ref pa, .ref sp])), (bx, .inr (2, [.ref b0, .ref b1, .int 0, .int 0, .ref b4, .int 0, .ref b6, .int 0, .int 0, .int 0, .int 0])), (pa, .inr (3, [.ref p_v, .int 0, .ref p_st, .ref p_ib, .ref p_di, .ref p_wa, .ref p_se, .ref p_vh, .ref p_re])), (p_v, .inl (cI, 4, .inl zi)), (p_st, .inl (cI, 4, .inl zi)), (p_ib, .inl (cZ, 4, .inl zi)), (p_di, .inl (cI, 4, .inl zi)), (p_wa, .inl (cI, 4, .inl zi)), (p_se, .inl (cI, 4, .inl zi))] s.heap := hP
  have hK : va_K (dC, dI) vwCl [(cI, .int), (cZ, .boolean)] s := hK
  have hl := lv_entry ([.ref x, .int a0, .int a1]) (n := 3) (Nat.le_of_ble_eq_true rfl)
  rw [lg_entry_eq]
  generalize (lg_sl ([.ref x, .int a0, .int a1]) ++ List.replicate (3 - (lg_sl ([.ref x, .int a0, .int a1])).length) Slot.unset).toArray = ls at hl ⊢
  have hl : lv_has ls 3 [(0, .ref x), (1, .int a0), (2, .int a1)] := hl
  refine lv_iload_n hx hb dX5_coalition_0 rfl (lv_at hl 1 rfl) ?_
  have hPc := hP.sub (ws' := []) [] rfl
  have hDc := hD.sub (ws' := []) [] (by decide) rfl
  have hKc := hK.sub (tys' := []) [] rfl
  have hFc := va_free (wc := []) hD hS hA [] rfl
  refine va_callv (va_runS (As := [.int a0]) (rest := []) ⟨hx, hb, hml, hown, hts⟩ (c_X5_checkHouse l dC dI a0 _ g0a g0b) (va_cwS 1 hts gX5_coalition_X5_checkHouse rfl rfl rfl (by decide +kernel) ⟨Nat.le_of_ble_eq_true rfl, Nat.le_of_ble_eq_true rfl⟩) ⟨pr_blind, fun U hU hW => ⟨rfl, pr_mk hU hW hPc hKc hDc⟩⟩ rfl rfl hl.1 rfl (lv_room (Nat.le_of_ble_eq_true rfl)) dX5_coalition_1 ⟨Nat.le_of_ble_eq_true rfl, Nat.le_of_ble_eq_true rfl⟩) hS (fun q _ h => hFc q h) hFc (fun u_1 t H1 locs ht hvm hw hB hz1 hk1 hS => ?_)
  obtain ⟨hP1, hK1, hD1⟩ := hB
  rw [ht] at hP1
  obtain ⟨hP, hD⟩ := va_join (wr := [(x, .inr (7, [.ref bx, .ref po, .ref tr, .ref pa, .ref sp])), (bx, .inr (2, [.ref b0, .ref b1, .int 0, .int 0, .ref b4, .int 0, .ref b6, .int 0, .int 0, .int 0, .int 0])), (pa, .inr (3, [.ref p_v, .int 0, .ref p_st, .ref p_ib, .ref p_di, .ref p_wa, .ref p_se, .ref p_vh, .ref p_re])), (p_v, .inl (cI, 4, .inl zi)), (p_st, .inl (cI, 4, .inl zi)), (p_ib, .inl (cZ, 4, .inl zi)), (p_di, .inl (cI, 4, .inl zi)), (p_wa, .inl (cI, 4, .inl zi)), (p_se, .inl (cI, 4, .inl zi))]) (w1 := []) hP hD [] [0, 1, 2, 3, 4, 5, 6, 7, 8] rfl rfl (by decide) (by decide) hk1 hFc hP1 hD1
  generalize H1 = H at hP hS ⊢
  have hP : va_P (dC, dI) vwCl [(x, .inr (7, [.ref bx, .ref po, .ref tr, .ref pa, .ref sp])), (bx, .inr (2, [.ref b0, .ref b1, .int 0, .int 0, .ref b4, .int 0, .ref b6, .int 0, .int 0, .int 0, .int 0])), (pa, .inr (3, [.ref p_v, .int 0, .ref p_st, .ref p_ib, .ref p_di, .ref p_wa, .ref p_se, .ref p_vh, .ref p_re])), (p_v, .inl (cI, 4, .inl zi)), (p_st, .inl (cI, 4, .inl zi)), (p_ib, .inl (cZ, 4, .inl zi)), (p_di, .inl (cI, 4, .inl zi)), (p_wa, .inl (cI, 4, .inl zi)), (p_se, .inl (cI, 4, .inl zi))] H := hP
  have hD : va_D A [(x, .inr (7, [.ref bx, .ref po, .ref tr, .ref pa, .ref sp])), (bx, .inr (2, [.ref b0, .ref b1, .int 0, .int 0, .ref b4, .int 0, .ref b6, .int 0, .int 0, .int 0, .int 0])), (pa, .inr (3, [.ref p_v, .int 0, .ref p_st, .ref p_ib, .ref p_di, .ref p_wa, .ref p_se, .ref p_vh, .ref p_re])), (p_v, .inl (cI, 4, .inl zi)), (p_st, .inl (cI, 4, .inl zi)), (p_ib, .inl (cZ, 4, .inl zi)), (p_di, .inl (cI, 4, .inl zi)), (p_wa, .inl (cI, 4, .inl zi)), (p_se, .inl (cI, 4, .inl zi))] := hD
  refine W.widen (k := 0) (n := 0) (Nat.le_refl _) (Nat.le_refl _) ?_
  refine lv_iload_n hx hb dX5_coalition_4 rfl (lv_at hl 2 rfl) ?_
  have hPc := hP.sub (ws' := []) [] rfl
  have hDc := hD.sub (ws' := []) [] (by decide) rfl
  have hKc := hK.sub (tys' := []) [] rfl
  have hFc := va_free (wc := []) hD hS hA [] rfl
  refine va_callv (va_runS (As := [.int a1]) (rest := []) ⟨hx, hb, hml, hown, hts⟩ (c_X5_checkRule l dC dI a1 _ g1a g1b) (va_cwS 1 hts gX5_coalition_X5_checkRule rfl rfl rfl (by decide +kernel) ⟨Nat.le_of_ble_eq_true rfl, Nat.le_of_ble_eq_true rfl⟩) ⟨pr_blind, fun U hU hW => ⟨rfl, pr_mk hU hW hPc hKc hDc⟩⟩ rfl rfl hl.1 rfl (lv_room (Nat.le_of_ble_eq_true rfl)) dX5_coalition_5 ⟨Nat.le_of_ble_eq_true rfl, Nat.le_of_ble_eq_true rfl⟩) hS (fun q _ h => hFc q h) hFc (fun u_3 t H1 locs ht hvm hw hB hz1 hk1 hS => ?_)
  obtain ⟨hP1, hK1, hD1⟩ := hB
  rw [ht] at hP1
  obtain ⟨hP, hD⟩ := va_join (wr := [(x, .inr (7, [.ref bx, .ref po, .ref tr, .ref pa, .ref sp])), (bx, .inr (2, [.ref b0, .ref b1, .int 0, .int 0, .ref b4, .int 0, .ref b6, .int 0, .int 0, .int 0, .int 0])), (pa, .inr (3, [.ref p_v, .int 0, .ref p_st, .ref p_ib, .ref p_di, .ref p_wa, .ref p_se, .ref p_vh, .ref p_re])), (p_v, .inl (cI, 4, .inl zi)), (p_st, .inl (cI, 4, .inl zi)), (p_ib, .inl (cZ, 4, .inl zi)), (p_di, .inl (cI, 4, .inl zi)), (p_wa, .inl (cI, 4, .inl zi)), (p_se, .inl (cI, 4, .inl zi))]) (w1 := []) hP hD [] [0, 1, 2, 3, 4, 5, 6, 7, 8] rfl rfl (by decide) (by decide) hk1 hFc hP1 hD1
  generalize H1 = H at hP hS ⊢
  have hP : va_P (dC, dI) vwCl [(x, .inr (7, [.ref bx, .ref po, .ref tr, .ref pa, .ref sp])), (bx, .inr (2, [.ref b0, .ref b1, .int 0, .int 0, .ref b4, .int 0, .ref b6, .int 0, .int 0, .int 0, .int 0])), (pa, .inr (3, [.ref p_v, .int 0, .ref p_st, .ref p_ib, .ref p_di, .ref p_wa, .ref p_se, .ref p_vh, .ref p_re])), (p_v, .inl (cI, 4, .inl zi)), (p_st, .inl (cI, 4, .inl zi)), (p_ib, .inl (cZ, 4, .inl zi)), (p_di, .inl (cI, 4, .inl zi)), (p_wa, .inl (cI, 4, .inl zi)), (p_se, .inl (cI, 4, .inl zi))] H := hP
  have hD : va_D A [(x, .inr (7, [.ref bx, .ref po, .ref tr, .ref pa, .ref sp])), (bx, .inr (2, [.ref b0, .ref b1, .int 0, .int 0, .ref b4, .int 0, .ref b6, .int 0, .int 0, .int 0, .int 0])), (pa, .inr (3, [.ref p_v, .int 0, .ref p_st, .ref p_ib, .ref p_di, .ref p_wa, .ref p_se, .ref p_vh, .ref p_re])), (p_v, .inl (cI, 4, .inl zi)), (p_st, .inl (cI, 4, .inl zi)), (p_ib, .inl (cZ, 4, .inl zi)), (p_di, .inl (cI, 4, .inl zi)), (p_wa, .inl (cI, 4, .inl zi)), (p_se, .inl (cI, 4, .inl zi))] := hD
  refine W.widen (k := 0) (n := 0) (Nat.le_refl _) (Nat.le_refl _) ?_
  refine lv_aload_n hx hb dX5_coalition_8 rfl (lv_at hl 0 rfl) ?_
  refine lv_iload_n hx hb dX5_coalition_9 rfl (lv_at hl 1 rfl) ?_
  refine lv_iload_n hx hb dX5_coalition_10 rfl (lv_at hl 2 rfl) ?_
  have hPc := hP.sub (ws' := [(x, .inr (7, [.ref bx, .ref po, .ref tr, .ref pa, .ref sp])), (bx, .inr (2, [.ref b0, .ref b1, .int 0, .int 0, .ref b4, .int 0, .ref b6, .int 0, .int 0, .int 0, .int 0])), (pa, .inr (3, [.ref p_v, .int 0, .ref p_st, .ref p_ib, .ref p_di, .ref p_wa, .ref p_se, .ref p_vh, .ref p_re])), (p_v, .inl (cI, 4, .inl zi)), (p_st, .inl (cI, 4, .inl zi)), (p_ib, .inl (cZ, 4, .inl zi)), (p_se, .inl (cI, 4, .inl zi))]) [0, 1, 2, 3, 4, 5, 8] rfl
  have hDc := hD.sub (ws' := [(x, .inr (7, [.ref bx, .ref po, .ref tr, .ref pa, .ref sp])), (bx, .inr (2, [.ref b0, .ref b1, .int 0, .int 0, .ref b4, .int 0, .ref b6, .int 0, .int 0, .int 0, .int 0])), (pa, .inr (3, [.ref p_v, .int 0, .ref p_st, .ref p_ib, .ref p_di, .ref p_wa, .ref p_se, .ref p_vh, .ref p_re])), (p_v, .inl (cI, 4, .inl zi)), (p_st, .inl (cI, 4, .inl zi)), (p_ib, .inl (cZ, 4, .inl zi)), (p_se, .inl (cI, 4, .inl zi))]) [0, 1, 2, 3, 4, 5, 8] (by decide) rfl
  have hKc := hK.sub (tys' := [(cI, .int), (cZ, .boolean)]) [0, 1] rfl
  have hFc := va_free (wc := [(x, .inr (7, [.ref bx, .ref po, .ref tr, .ref pa, .ref sp])), (bx, .inr (2, [.ref b0, .ref b1, .int 0, .int 0, .ref b4, .int 0, .ref b6, .int 0, .int 0, .int 0, .int 0])), (pa, .inr (3, [.ref p_v, .int 0, .ref p_st, .ref p_ib, .ref p_di, .ref p_wa, .ref p_se, .ref p_vh, .ref p_re])), (p_v, .inl (cI, 4, .inl zi)), (p_st, .inl (cI, 4, .inl zi)), (p_ib, .inl (cZ, 4, .inl zi)), (p_se, .inl (cI, 4, .inl zi))]) hD hS hA [0, 1, 2, 3, 4, 5, 8] rfl
  refine va_callv (va_runV (As := [.int a0, .int a1]) (rest := []) ⟨hx, hb, hml, hown, hts⟩ (c_X5_shareHouse l dC dI x po tr sp bx b0 b1 b4 b6 pa p_v p_st p_ib p_di p_wa p_se p_vh p_re cI cZ a0 a1 _ (ho1 g0a)) (cwV 2 hts gX5_coalition_X5_shareHouse rfl rfl rfl (by decide +kernel) ⟨Nat.le_of_ble_eq_true rfl, Nat.le_of_ble_eq_true rfl⟩) ⟨pr_blind, va_recv hKc hPc (ci := 7) (q0 := 0) rfl rfl, fun U hU hW => ⟨rfl, pr_mk hU hW hPc hKc hDc⟩⟩ rfl rfl hl.1 rfl (lv_room (Nat.le_of_ble_eq_true rfl)) dX5_coalition_11 ⟨Nat.le_of_ble_eq_true rfl, Nat.le_of_ble_eq_true rfl⟩) hS (fun q _ h => hFc q h) hFc (fun u_5 t H1 locs ht hvm hw hB hz1 hk1 hS => ?_)
  obtain ⟨hP1, hK1, hD1⟩ := hB
  rw [ht] at hP1
  obtain ⟨hP, hD⟩ := va_join (wr := [(p_di, .inl (cI, 4, .inl zi)), (p_wa, .inl (cI, 4, .inl zi))]) (w1 := [(x, .inr (7, [.ref bx, .ref po, .ref tr, .ref pa, .ref sp])), (bx, .inr (2, [.ref b0, .ref b1, .int 0, .int 0, .ref b4, .int 0, .ref b6, .int 0, .int 0, .int 0, .int 0])), (pa, .inr (3, [.ref p_v, .int 0, .ref p_st, .ref p_ib, .ref p_di, .ref p_wa, .ref p_se, .ref p_vh, .ref p_re])), (p_v, .inl (cI, 4, .inl zi)), (p_st, .inl (cI, 4, .inl zi)), (p_ib, .inl (cZ, 4, .inl zi)), (p_se, .inl (cI, 4, .inl zi))]) hP hD [0, 1, 2, 3, 4, 5, 8] [6, 7] rfl rfl (by decide) (by decide) hk1 hFc hP1 hD1
  generalize H1 = H at hP hS ⊢
  have hP : va_P (dC, dI) vwCl [(p_di, .inl (cI, 4, .inl zi)), (p_wa, .inl (cI, 4, .inl zi)), (x, .inr (7, [.ref bx, .ref po, .ref tr, .ref pa, .ref sp])), (bx, .inr (2, [.ref b0, .ref b1, .int 0, .int 0, .ref b4, .int 0, .ref b6, .int 0, .int 0, .int 0, .int 0])), (pa, .inr (3, [.ref p_v, .int 0, .ref p_st, .ref p_ib, .ref p_di, .ref p_wa, .ref p_se, .ref p_vh, .ref p_re])), (p_v, .inl (cI, 4, .inl zi)), (p_st, .inl (cI, 4, .inl zi)), (p_ib, .inl (cZ, 4, .inl zi)), (p_se, .inl (cI, 4, .inl zi))] H := hP
  have hD : va_D A [(p_di, .inl (cI, 4, .inl zi)), (p_wa, .inl (cI, 4, .inl zi)), (x, .inr (7, [.ref bx, .ref po, .ref tr, .ref pa, .ref sp])), (bx, .inr (2, [.ref b0, .ref b1, .int 0, .int 0, .ref b4, .int 0, .ref b6, .int 0, .int 0, .int 0, .int 0])), (pa, .inr (3, [.ref p_v, .int 0, .ref p_st, .ref p_ib, .ref p_di, .ref p_wa, .ref p_se, .ref p_vh, .ref p_re])), (p_v, .inl (cI, 4, .inl zi)), (p_st, .inl (cI, 4, .inl zi)), (p_ib, .inl (cZ, 4, .inl zi)), (p_se, .inl (cI, 4, .inl zi))] := hD
  refine W.widen (k := 0) (n := 0) (Nat.le_refl _) (Nat.le_refl _) ?_
  refine lv_aload_n hx hb dX5_coalition_14 rfl (lv_at hl 0 rfl) ?_
  have hinX5 : ∀ w ∈ u_ws RX5 TX5 5, w ∈ wsX5_coalition := by decide +kernel
  refine va_get (D := (dC, dI)) (ci := 7) (v := .ref pa) (C := RX5) (T := TX5) (N := 5) hx hb hts hinX5 hown hK hP 2 rfl rfl 3 (by decide) (hts (.fieldLink RX5 33 "BallotLoom" "parties" "LBallotLoom$Parties;") (by decide +kernel)) (fun _ h9 => h9) rfl dX5_coalition_15 ?_
  refine lv_iload_n hx hb dX5_coalition_18 rfl (lv_at hl 1 rfl) ?_
  have hPc := hP.sub (ws' := [(pa, .inr (3, [.ref p_v, .int 0, .ref p_st, .ref p_ib, .ref p_di, .ref p_wa, .ref p_se, .ref p_vh, .ref p_re])), (p_se, .inl (cI, 4, .inl zi))]) [4, 8] rfl
  have hDc := hD.sub (ws' := [(pa, .inr (3, [.ref p_v, .int 0, .ref p_st, .ref p_ib, .ref p_di, .ref p_wa, .ref p_se, .ref p_vh, .ref p_re])), (p_se, .inl (cI, 4, .inl zi))]) [4, 8] (by decide) rfl
  have hKc := hK.sub (tys' := [(cI, .int)]) [0] rfl
  have hFc := va_free (wc := [(pa, .inr (3, [.ref p_v, .int 0, .ref p_st, .ref p_ib, .ref p_di, .ref p_wa, .ref p_se, .ref p_vh, .ref p_re])), (p_se, .inl (cI, 4, .inl zi))]) hD hS hA [4, 8] rfl
  refine va_calli (va_runV (As := [.int a0]) (rest := []) ⟨hx, hb, hml, hown, hts⟩ (c_X1_leastRulers l dC dI pa p_v p_st p_ib p_di p_wa p_se p_vh p_re a0 cI _ (ho0 g0a)) (cwV 1 hts gX5_coalition_X1_leastRulers rfl rfl rfl (by decide +kernel) ⟨Nat.le_of_ble_eq_true rfl, Nat.le_of_ble_eq_true rfl⟩) ⟨pr_blind, va_recv hKc hPc (ci := 3) (q0 := 0) rfl rfl, fun U hU hW => ⟨rfl, pr_mk hU hW hPc hKc hDc⟩⟩ rfl rfl hl.1 rfl (lv_room (Nat.le_of_ble_eq_true rfl)) dX5_coalition_19 ⟨Nat.le_of_ble_eq_true rfl, Nat.le_of_ble_eq_true rfl⟩) hS (fun q _ h => hFc q h) hFc (fun r_8 u_7 t H1 locs ht hvm hw hB hz1 hk1 hS => ?_)
  obtain ⟨hP1, hK1, hD1⟩ := hB
  rw [ht] at hP1
  obtain ⟨hP, hD⟩ := va_join (wr := [(p_di, .inl (cI, 4, .inl zi)), (p_wa, .inl (cI, 4, .inl zi)), (x, .inr (7, [.ref bx, .ref po, .ref tr, .ref pa, .ref sp])), (bx, .inr (2, [.ref b0, .ref b1, .int 0, .int 0, .ref b4, .int 0, .ref b6, .int 0, .int 0, .int 0, .int 0])), (p_v, .inl (cI, 4, .inl zi)), (p_st, .inl (cI, 4, .inl zi)), (p_ib, .inl (cZ, 4, .inl zi))]) (w1 := [(pa, .inr (3, [.ref p_v, .int 0, .ref p_st, .ref p_ib, .ref p_di, .ref p_wa, .ref p_se, .ref p_vh, .ref p_re])), (p_se, .inl (cI, 4, .inl zi))]) hP hD [4, 8] [0, 1, 2, 3, 5, 6, 7] rfl rfl (by decide) (by decide) hk1 hFc hP1 hD1
  generalize H1 = H at hP hS ⊢
  have hP : va_P (dC, dI) vwCl [(p_di, .inl (cI, 4, .inl zi)), (p_wa, .inl (cI, 4, .inl zi)), (x, .inr (7, [.ref bx, .ref po, .ref tr, .ref pa, .ref sp])), (bx, .inr (2, [.ref b0, .ref b1, .int 0, .int 0, .ref b4, .int 0, .ref b6, .int 0, .int 0, .int 0, .int 0])), (p_v, .inl (cI, 4, .inl zi)), (p_st, .inl (cI, 4, .inl zi)), (p_ib, .inl (cZ, 4, .inl zi)), (pa, .inr (3, [.ref p_v, .int 0, .ref p_st, .ref p_ib, .ref p_di, .ref p_wa, .ref p_se, .ref p_vh, .ref p_re])), (p_se, .inl (cI, 4, .inl zi))] H := hP
  have hD : va_D A [(p_di, .inl (cI, 4, .inl zi)), (p_wa, .inl (cI, 4, .inl zi)), (x, .inr (7, [.ref bx, .ref po, .ref tr, .ref pa, .ref sp])), (bx, .inr (2, [.ref b0, .ref b1, .int 0, .int 0, .ref b4, .int 0, .ref b6, .int 0, .int 0, .int 0, .int 0])), (p_v, .inl (cI, 4, .inl zi)), (p_st, .inl (cI, 4, .inl zi)), (p_ib, .inl (cZ, 4, .inl zi)), (pa, .inr (3, [.ref p_v, .int 0, .ref p_st, .ref p_ib, .ref p_di, .ref p_wa, .ref p_se, .ref p_vh, .ref p_re])), (p_se, .inl (cI, 4, .inl zi))] := hD
  refine W.widen (k := 0) (n := 0) (Nat.le_refl _) (Nat.le_refl _) ?_
  have hw : r_8 = 0 := hw
  subst hw
  have hP9 := hP.sub (ws' := []) [] rfl
  have hD9 := hD.sub (ws' := []) [] (by decide) rfl
  have hK9 := hK.sub (tys' := [(cI, .int), (cZ, .boolean)]) [0, 1] rfl
  refine W.widen (k := 0) (n := 0) (Nat.le_of_ble_eq_true rfl) (Nat.le_of_ble_eq_true rfl) ?_
  exact W.iret (v := 0) hx hb hr (fun t ht hW => ⟨⟨0, (), rfl, rfl, po_mk ht hW hP9 hK9 hD9⟩, hS.F ht⟩) hS.2.2 dX5_coalition_22

set_option maxHeartbeats 4000000 in
set_option maxRecDepth 100000 in
theorem c_X5_gap (l : Launch) (dC : Nat → ClassId) (dI : Nat → Nat → Nat) (x : Nat) (po : Nat) (tr : Nat) (sp : Nat) (bx : Nat) (b0 : Nat) (b1 : Nat) (b4 : Nat) (b6 : Nat) (pa : Nat) (p_v : Nat) (p_st : Nat) (p_ib : Nat) (p_di : Nat) (p_wa : Nat) (p_se : Nat) (p_vh : Nat) (p_re : Nat) (cI : ClassId) (cZ : ClassId) (a0 : Int32) (a1 : Int32) (sz : Nat) (g0a : ¬ a0 < 0) (g0b : ¬ 4 ≤ a0) (g1a : ¬ a1 < 0) (g1b : ¬ 4 ≤ a1) : Met l yX5_gap wsX5_gap ({ frames := 6, cells := 0, slots := 0, locals := 170 }) (va_Pc [.ref x, .int a0, .int a1] (pr_ dC dI [(x, .inr (7, [.ref bx, .ref po, .ref tr, .ref pa, .ref sp])), (bx, .inr (2, [.ref b0, .ref b1, .int 0, .int 0, .ref b4, .int 0, .ref b6, .int 0, .int 0, .int 0, .int 0])), (pa, .inr (3, [.ref p_v, .int 0, .ref p_st, .ref p_ib, .ref p_di, .ref p_wa, .ref p_se, .ref p_vh, .ref p_re])), (p_v, .inl (cI, 4, .inl zi)), (p_st, .inl (cI, 4, .inl zi)), (p_ib, .inl (cZ, 4, .inl zi)), (p_di, .inl (cI, 4, .inl zi)), (p_wa, .inl (cI, 4, .inl zi)), (p_se, .inl (cI, 4, .inl zi))] [(cI, .int), (cZ, .boolean)] sz)) (va_Qd (fun (r : UInt64) (_ : Unit) => r = FP.dconst0) (fun (_ : Unit) t => po_ dC dI [] [(cI, .int), (cZ, .boolean)] (va_A [(x, .inr (7, [.ref bx, .ref po, .ref tr, .ref pa, .ref sp])), (bx, .inr (2, [.ref b0, .ref b1, .int 0, .int 0, .ref b4, .int 0, .ref b6, .int 0, .int 0, .int 0, .int 0])), (pa, .inr (3, [.ref p_v, .int 0, .ref p_st, .ref p_ib, .ref p_di, .ref p_wa, .ref p_se, .ref p_vh, .ref p_re])), (p_v, .inl (cI, 4, .inl zi)), (p_st, .inl (cI, 4, .inl zi)), (p_ib, .inl (cZ, 4, .inl zi)), (p_di, .inl (cI, 4, .inl zi)), (p_wa, .inl (cI, 4, .inl zi)), (p_se, .inl (cI, 4, .inl zi))] sz) t) (va_A [(x, .inr (7, [.ref bx, .ref po, .ref tr, .ref pa, .ref sp])), (bx, .inr (2, [.ref b0, .ref b1, .int 0, .int 0, .ref b4, .int 0, .ref b6, .int 0, .int 0, .int 0, .int 0])), (pa, .inr (3, [.ref p_v, .int 0, .ref p_st, .ref p_ib, .ref p_di, .ref p_wa, .ref p_se, .ref p_vh, .ref p_re])), (p_v, .inl (cI, 4, .inl zi)), (p_st, .inl (cI, 4, .inl zi)), (p_ib, .inl (cZ, 4, .inl zi)), (p_di, .inl (cI, 4, .inl zi)), (p_wa, .inl (cI, 4, .inl zi)), (p_se, .inl (cI, 4, .inl zi))] sz)) 0 0 (va_A [(x, .inr (7, [.ref bx, .ref po, .ref tr, .ref pa, .ref sp])), (bx, .inr (2, [.ref b0, .ref b1, .int 0, .int 0, .ref b4, .int 0, .ref b6, .int 0, .int 0, .int 0, .int 0])), (pa, .inr (3, [.ref p_v, .int 0, .ref p_st, .ref p_ib, .ref p_di, .ref p_wa, .ref p_se, .ref p_vh, .ref p_re])), (p_v, .inl (cI, 4, .inl zi)), (p_st, .inl (cI, 4, .inl zi)), (p_ib, .inl (cZ, 4, .inl zi)), (p_di, .inl (cI, 4, .inl zi)), (p_wa, .inl (cI, 4, .inl zi)), (p_se, .inl (cI, 4, .inl zi))] sz) := by
  refine Met.ofW (cc := cX5_gap) (maxL := 5) (ret := (some .double)) (by decide) rfl ?_
  intro p e s m args below meth c s₁ B hml hv
  obtain ⟨rfl, hsz, hP, hK, hD0⟩ := hv
  have hx := B.exec
  have hb := B.bytes
  have hr := B.returns
  have hts := atoms_spec (ws := wsX5_gap) B.pre
  have hown : s.vm.findClass RX5 = some m.cls := findClass_of_methodNamed B.named
  have hlocks := B.notSynchronized
  subst hsz
  have hD := hD0.self (sz := s.heap.size)
  generalize hAe : va_A [(x, .inr (7, [.ref bx, .ref po, .ref tr, .ref pa, .ref sp])), (bx, .inr (2, [.ref b0, .ref b1, .int 0, .int 0, .ref b4, .int 0, .ref b6, .int 0, .int 0, .int 0, .int 0])), (pa, .inr (3, [.ref p_v, .int 0, .ref p_st, .ref p_ib, .ref p_di, .ref p_wa, .ref p_se, .ref p_vh, .ref p_re])), (p_v, .inl (cI, 4, .inl zi)), (p_st, .inl (cI, 4, .inl zi)), (p_ib, .inl (cZ, 4, .inl zi)), (p_di, .inl (cI, 4, .inl zi)), (p_wa, .inl (cI, 4, .inl zi)), (p_se, .inl (cI, 4, .inl zi))] s.heap.size = A at hD ⊢
  have hA : ∀ q : Nat, s.heap.size ≤ q → A q := fun q h => by rw [← hAe]; exact Or.inr h
  have hS : va_S A s.heap s.heap [] := va_S.rf
  have hP : va_P (dC, dI) vwCl [(x, .inr (7, [.ref bx, .ref po, .ref tr, .ref pa, .ref sp])), (bx, .inr (2, [.ref b0, .ref b1, .int 0, .int 0, .ref b4, .int 0, .ref b6, .int 0, .int 0, .int 0, .int 0])), (pa, .inr (3, [.ref p_v, .int 0, .ref p_st, .ref p_ib, .ref p_di, .ref p_wa, .ref p_se, .ref p_vh, .ref p_re])), (p_v, .inl (cI, 4, .inl zi)), (p_st, .inl (cI, 4, .inl zi)), (p_ib, .inl (cZ, 4, .inl zi)), (p_di, .inl (cI, 4, .inl zi)), (p_wa, .inl (cI, 4, .inl zi)), (p_se, .inl (cI, 4, .inl zi))] s.heap := hP
  have hK : va_K (dC, dI) vwCl [(cI, .int), (cZ, .boolean)] s := hK
  have hl := lv_entry ([.ref x, .int a0, .int a1]) (n := 5) (Nat.le_of_ble_eq_true rfl)
  rw [lg_entry_eq]
  generalize (lg_sl ([.ref x, .int a0, .int a1]) ++ List.replicate (5 - (lg_sl ([.ref x, .int a0, .int a1])).length) Slot.unset).toArray = ls at hl ⊢
  have hl : lv_has ls 5 [(0, .ref x), (1, .int a0), (2, .int a1)] := hl
  refine lv_iload_n hx hb dX5_gap_0 rfl (lv_at hl 1 rfl) ?_
  have hPc := hP.sub (ws' := []) [] rfl
  have hDc := hD.sub (ws' := []) [] (by decide) rfl
  have hKc := hK.sub (tys' := []) [] rfl
  have hFc := va_free (wc := []) hD hS hA [] rfl
  refine va_callv (va_runS (As := [.int a0]) (rest := []) ⟨hx, hb, hml, hown, hts⟩ (c_X5_checkParty l dC dI a0 _ g0a g0b) (va_cwS 1 hts gX5_gap_X5_checkParty rfl rfl rfl (by decide +kernel) ⟨Nat.le_of_ble_eq_true rfl, Nat.le_of_ble_eq_true rfl⟩) ⟨pr_blind, fun U hU hW => ⟨rfl, pr_mk hU hW hPc hKc hDc⟩⟩ rfl rfl hl.1 rfl (lv_room (Nat.le_of_ble_eq_true rfl)) dX5_gap_1 ⟨Nat.le_of_ble_eq_true rfl, Nat.le_of_ble_eq_true rfl⟩) hS (fun q _ h => hFc q h) hFc (fun u_1 t H1 locs ht hvm hw hB hz1 hk1 hS => ?_)
  obtain ⟨hP1, hK1, hD1⟩ := hB
  rw [ht] at hP1
  obtain ⟨hP, hD⟩ := va_join (wr := [(x, .inr (7, [.ref bx, .ref po, .ref tr, .ref pa, .ref sp])), (bx, .inr (2, [.ref b0, .ref b1, .int 0, .int 0, .ref b4, .int 0, .ref b6, .int 0, .int 0, .int 0, .int 0])), (pa, .inr (3, [.ref p_v, .int 0, .ref p_st, .ref p_ib, .ref p_di, .ref p_wa, .ref p_se, .ref p_vh, .ref p_re])), (p_v, .inl (cI, 4, .inl zi)), (p_st, .inl (cI, 4, .inl zi)), (p_ib, .inl (cZ, 4, .inl zi)), (p_di, .inl (cI, 4, .inl zi)), (p_wa, .inl (cI, 4, .inl zi)), (p_se, .inl (cI, 4, .inl zi))]) (w1 := []) hP hD [] [0, 1, 2, 3, 4, 5, 6, 7, 8] rfl rfl (by decide) (by decide) hk1 hFc hP1 hD1
  generalize H1 = H at hP hS ⊢
  have hP : va_P (dC, dI) vwCl [(x, .inr (7, [.ref bx, .ref po, .ref tr, .ref pa, .ref sp])), (bx, .inr (2, [.ref b0, .ref b1, .int 0, .int 0, .ref b4, .int 0, .ref b6, .int 0, .int 0, .int 0, .int 0])), (pa, .inr (3, [.ref p_v, .int 0, .ref p_st, .ref p_ib, .ref p_di, .ref p_wa, .ref p_se, .ref p_vh, .ref p_re])), (p_v, .inl (cI, 4, .inl zi)), (p_st, .inl (cI, 4, .inl zi)), (p_ib, .inl (cZ, 4, .inl zi)), (p_di, .inl (cI, 4, .inl zi)), (p_wa, .inl (cI, 4, .inl zi)), (p_se, .inl (cI, 4, .inl zi))] H := hP
  have hD : va_D A [(x, .inr (7, [.ref bx, .ref po, .ref tr, .ref pa, .ref sp])), (bx, .inr (2, [.ref b0, .ref b1, .int 0, .int 0, .ref b4, .int 0, .ref b6, .int 0, .int 0, .int 0, .int 0])), (pa, .inr (3, [.ref p_v, .int 0, .ref p_st, .ref p_ib, .ref p_di, .ref p_wa, .ref p_se, .ref p_vh, .ref p_re])), (p_v, .inl (cI, 4, .inl zi)), (p_st, .inl (cI, 4, .inl zi)), (p_ib, .inl (cZ, 4, .inl zi)), (p_di, .inl (cI, 4, .inl zi)), (p_wa, .inl (cI, 4, .inl zi)), (p_se, .inl (cI, 4, .inl zi))] := hD
  refine W.widen (k := 0) (n := 0) (Nat.le_refl _) (Nat.le_refl _) ?_
  refine lv_iload_n hx hb dX5_gap_4 rfl (lv_at hl 2 rfl) ?_
  have hPc := hP.sub (ws' := []) [] rfl
  have hDc := hD.sub (ws' := []) [] (by decide) rfl
  have hKc := hK.sub (tys' := []) [] rfl
  have hFc := va_free (wc := []) hD hS hA [] rfl
  refine va_callv (va_runS (As := [.int a1]) (rest := []) ⟨hx, hb, hml, hown, hts⟩ (c_X5_checkParty l dC dI a1 _ g1a g1b) (va_cwS 1 hts gX5_gap_X5_checkParty rfl rfl rfl (by decide +kernel) ⟨Nat.le_of_ble_eq_true rfl, Nat.le_of_ble_eq_true rfl⟩) ⟨pr_blind, fun U hU hW => ⟨rfl, pr_mk hU hW hPc hKc hDc⟩⟩ rfl rfl hl.1 rfl (lv_room (Nat.le_of_ble_eq_true rfl)) dX5_gap_5 ⟨Nat.le_of_ble_eq_true rfl, Nat.le_of_ble_eq_true rfl⟩) hS (fun q _ h => hFc q h) hFc (fun u_3 t H1 locs ht hvm hw hB hz1 hk1 hS => ?_)
  obtain ⟨hP1, hK1, hD1⟩ := hB
  rw [ht] at hP1
  obtain ⟨hP, hD⟩ := va_join (wr := [(x, .inr (7, [.ref bx, .ref po, .ref tr, .ref pa, .ref sp])), (bx, .inr (2, [.ref b0, .ref b1, .int 0, .int 0, .ref b4, .int 0, .ref b6, .int 0, .int 0, .int 0, .int 0])), (pa, .inr (3, [.ref p_v, .int 0, .ref p_st, .ref p_ib, .ref p_di, .ref p_wa, .ref p_se, .ref p_vh, .ref p_re])), (p_v, .inl (cI, 4, .inl zi)), (p_st, .inl (cI, 4, .inl zi)), (p_ib, .inl (cZ, 4, .inl zi)), (p_di, .inl (cI, 4, .inl zi)), (p_wa, .inl (cI, 4, .inl zi)), (p_se, .inl (cI, 4, .inl zi))]) (w1 := []) hP hD [] [0, 1, 2, 3, 4, 5, 6, 7, 8] rfl rfl (by decide) (by decide) hk1 hFc hP1 hD1
  generalize H1 = H at hP hS ⊢
  have hP : va_P (dC, dI) vwCl [(x, .inr (7, [.ref bx, .ref po, .ref tr, .ref pa, .ref sp])), (bx, .inr (2, [.ref b0, .ref b1, .int 0, .int 0, .ref b4, .int 0, .ref b6, .int 0, .int 0, .int 0, .int 0])), (pa, .inr (3, [.ref p_v, .int 0, .ref p_st, .ref p_ib, .ref p_di, .ref p_wa, .ref p_se, .ref p_vh, .ref p_re])), (p_v, .inl (cI, 4, .inl zi)), (p_st, .inl (cI, 4, .inl zi)), (p_ib, .inl (cZ, 4, .inl zi)), (p_di, .inl (cI, 4, .inl zi)), (p_wa, .inl (cI, 4, .inl zi)), (p_se, .inl (cI, 4, .inl zi))] H := hP
  have hD : va_D A [(x, .inr (7, [.ref bx, .ref po, .ref tr, .ref pa, .ref sp])), (bx, .inr (2, [.ref b0, .ref b1, .int 0, .int 0, .ref b4, .int 0, .ref b6, .int 0, .int 0, .int 0, .int 0])), (pa, .inr (3, [.ref p_v, .int 0, .ref p_st, .ref p_ib, .ref p_di, .ref p_wa, .ref p_se, .ref p_vh, .ref p_re])), (p_v, .inl (cI, 4, .inl zi)), (p_st, .inl (cI, 4, .inl zi)), (p_ib, .inl (cZ, 4, .inl zi)), (p_di, .inl (cI, 4, .inl zi)), (p_wa, .inl (cI, 4, .inl zi)), (p_se, .inl (cI, 4, .inl zi))] := hD
  refine W.widen (k := 0) (n := 0) (Nat.le_refl _) (Nat.le_refl _) ?_
  refine lv_aload_n hx hb dX5_gap_8 rfl (lv_at hl 0 rfl) ?_
  have hinX5 : ∀ w ∈ u_ws RX5 TX5 5, w ∈ wsX5_gap := by decide +kernel
  refine va_get (D := (dC, dI)) (ci := 7) (v := .ref pa) (C := RX5) (T := TX5) (N := 5) hx hb hts hinX5 hown hK hP 0 rfl rfl 3 (by decide) (hts (.fieldLink RX5 33 "BallotLoom" "parties" "LBallotLoom$Parties;") (by decide +kernel)) (fun _ h9 => h9) rfl dX5_gap_9 ?_
  refine lv_aload_n hx hb dX5_gap_12 rfl (lv_at hl 0 rfl) ?_
  refine va_get (D := (dC, dI)) (ci := 7) (v := .ref bx) (C := RX5) (T := TX5) (N := 5) hx hb hts hinX5 hown hK hP 0 rfl rfl 0 (by decide) (hts (.fieldLink RX5 10 "BallotLoom" "box" "LBallotLoom$Box;") (by decide +kernel)) (fun _ h9 => h9) rfl dX5_gap_13 ?_
  have hPc := hP.sub (ws' := [(pa, .inr (3, [.ref p_v, .int 0, .ref p_st, .ref p_ib, .ref p_di, .ref p_wa, .ref p_se, .ref p_vh, .ref p_re])), (bx, .inr (2, [.ref b0, .ref b1, .int 0, .int 0, .ref b4, .int 0, .ref b6, .int 0, .int 0, .int 0, .int 0])), (p_v, .inl (cI, 4, .inl zi)), (p_st, .inl (cI, 4, .inl zi)), (p_ib, .inl (cZ, 4, .inl zi))]) [2, 1, 3, 4, 5] rfl
  have hDc := hD.sub (ws' := [(pa, .inr (3, [.ref p_v, .int 0, .ref p_st, .ref p_ib, .ref p_di, .ref p_wa, .ref p_se, .ref p_vh, .ref p_re])), (bx, .inr (2, [.ref b0, .ref b1, .int 0, .int 0, .ref b4, .int 0, .ref b6, .int 0, .int 0, .int 0, .int 0])), (p_v, .inl (cI, 4, .inl zi)), (p_st, .inl (cI, 4, .inl zi)), (p_ib, .inl (cZ, 4, .inl zi))]) [2, 1, 3, 4, 5] (by decide) rfl
  have hKc := hK.sub (tys' := [(cI, .int), (cZ, .boolean)]) [0, 1] rfl
  have hFc := va_free (wc := [(pa, .inr (3, [.ref p_v, .int 0, .ref p_st, .ref p_ib, .ref p_di, .ref p_wa, .ref p_se, .ref p_vh, .ref p_re])), (bx, .inr (2, [.ref b0, .ref b1, .int 0, .int 0, .ref b4, .int 0, .ref b6, .int 0, .int 0, .int 0, .int 0])), (p_v, .inl (cI, 4, .inl zi)), (p_st, .inl (cI, 4, .inl zi)), (p_ib, .inl (cZ, 4, .inl zi))]) hD hS hA [2, 1, 3, 4, 5] rfl
  refine va_callv (va_runV (As := [.ref bx]) (rest := []) ⟨hx, hb, hml, hown, hts⟩ (c_X1_countVotes l dC dI pa p_v p_st p_ib p_di p_wa p_se p_vh p_re bx b0 b1 b4 b6 (0 : Int32) cI cZ _ ) (cwV 1 hts gX5_gap_X1_countVotes rfl rfl rfl (by decide +kernel) ⟨Nat.le_of_ble_eq_true rfl, Nat.le_of_ble_eq_true rfl⟩) ⟨pr_blind, va_recv hKc hPc (ci := 3) (q0 := 0) rfl rfl, fun U hU hW => ⟨rfl, pr_mk hU hW hPc hKc hDc⟩⟩ rfl rfl hl.1 rfl (lv_room (Nat.le_of_ble_eq_true rfl)) dX5_gap_16 ⟨Nat.le_of_ble_eq_true rfl, Nat.le_of_ble_eq_true rfl⟩) hS (fun q _ h => hFc q h) hFc (fun u_5 t H1 locs ht hvm hw hB hz1 hk1 hS => ?_)
  obtain ⟨hP1, hK1, hD1⟩ := hB
  rw [ht] at hP1
  obtain ⟨hP, hD⟩ := va_join (wr := [(x, .inr (7, [.ref bx, .ref po, .ref tr, .ref pa, .ref sp])), (p_di, .inl (cI, 4, .inl zi)), (p_wa, .inl (cI, 4, .inl zi)), (p_se, .inl (cI, 4, .inl zi))]) (w1 := [(pa, .inr (3, [.ref p_v, .int 0, .ref p_st, .ref p_ib, .ref p_di, .ref p_wa, .ref p_se, .ref p_vh, .ref p_re])), (bx, .inr (2, [.ref b0, .ref b1, .int 0, .int 0, .ref b4, .int 0, .ref b6, .int 0, .int 0, .int 0, .int 0])), (p_v, .inl (cI, 4, .inl zi)), (p_st, .inl (cI, 4, .inl zi)), (p_ib, .inl (cZ, 4, .inl zi))]) hP hD [2, 1, 3, 4, 5] [0, 6, 7, 8] rfl rfl (by decide) (by decide) hk1 hFc hP1 hD1
  generalize H1 = H at hP hS ⊢
  have hP : va_P (dC, dI) vwCl [(x, .inr (7, [.ref bx, .ref po, .ref tr, .ref pa, .ref sp])), (p_di, .inl (cI, 4, .inl zi)), (p_wa, .inl (cI, 4, .inl zi)), (p_se, .inl (cI, 4, .inl zi)), (pa, .inr (3, [.ref p_v, .int 0, .ref p_st, .ref p_ib, .ref p_di, .ref p_wa, .ref p_se, .ref p_vh, .ref p_re])), (bx, .inr (2, [.ref b0, .ref b1, .int 0, .int 0, .ref b4, .int 0, .ref b6, .int 0, .int 0, .int 0, .int 0])), (p_v, .inl (cI, 4, .inl zi)), (p_st, .inl (cI, 4, .inl zi)), (p_ib, .inl (cZ, 4, .inl zi))] H := hP
  have hD : va_D A [(x, .inr (7, [.ref bx, .ref po, .ref tr, .ref pa, .ref sp])), (p_di, .inl (cI, 4, .inl zi)), (p_wa, .inl (cI, 4, .inl zi)), (p_se, .inl (cI, 4, .inl zi)), (pa, .inr (3, [.ref p_v, .int 0, .ref p_st, .ref p_ib, .ref p_di, .ref p_wa, .ref p_se, .ref p_vh, .ref p_re])), (bx, .inr (2, [.ref b0, .ref b1, .int 0, .int 0, .ref b4, .int 0, .ref b6, .int 0, .int 0, .int 0, .int 0])), (p_v, .inl (cI, 4, .inl zi)), (p_st, .inl (cI, 4, .inl zi)), (p_ib, .inl (cZ, 4, .inl zi))] := hD
  refine W.widen (k := 0) (n := 0) (Nat.le_refl _) (Nat.le_refl _) ?_
  refine lv_aload_n hx hb dX5_gap_19 rfl (lv_at hl 0 rfl) ?_
  refine va_get (D := (dC, dI)) (ci := 7) (v := .ref pa) (C := RX5) (T := TX5) (N := 5) hx hb hts hinX5 hown hK hP 0 rfl rfl 3 (by decide) (hts (.fieldLink RX5 33 "BallotLoom" "parties" "LBallotLoom$Parties;") (by decide +kernel)) (fun _ h9 => h9) rfl dX5_gap_20 ?_
  refine lv_aload_n hx hb dX5_gap_23 rfl (lv_at hl 0 rfl) ?_
  refine va_get (D := (dC, dI)) (ci := 7) (v := .ref bx) (C := RX5) (T := TX5) (N := 5) hx hb hts hinX5 hown hK hP 0 rfl rfl 0 (by decide) (hts (.fieldLink RX5 10 "BallotLoom" "box" "LBallotLoom$Box;") (by decide +kernel)) (fun _ h9 => h9) rfl dX5_gap_24 ?_
  refine lv_aload_n hx hb dX5_gap_27 rfl (lv_at hl 0 rfl) ?_
  refine va_get (D := (dC, dI)) (ci := 7) (v := .ref po) (C := RX5) (T := TX5) (N := 5) hx hb hts hinX5 hown hK hP 0 rfl rfl 1 (by decide) (hts (.fieldLink RX5 19 "BallotLoom" "poll" "LBallotLoom$Poll;") (by decide +kernel)) (fun _ h9 => h9) rfl dX5_gap_28 ?_
  have hPc := hP.sub (ws' := [(pa, .inr (3, [.ref p_v, .int 0, .ref p_st, .ref p_ib, .ref p_di, .ref p_wa, .ref p_se, .ref p_vh, .ref p_re])), (bx, .inr (2, [.ref b0, .ref b1, .int 0, .int 0, .ref b4, .int 0, .ref b6, .int 0, .int 0, .int 0, .int 0])), (p_di, .inl (cI, 4, .inl zi)), (p_wa, .inl (cI, 4, .inl zi))]) [4, 5, 1, 2] rfl
  have hDc := hD.sub (ws' := [(pa, .inr (3, [.ref p_v, .int 0, .ref p_st, .ref p_ib, .ref p_di, .ref p_wa, .ref p_se, .ref p_vh, .ref p_re])), (bx, .inr (2, [.ref b0, .ref b1, .int 0, .int 0, .ref b4, .int 0, .ref b6, .int 0, .int 0, .int 0, .int 0])), (p_di, .inl (cI, 4, .inl zi)), (p_wa, .inl (cI, 4, .inl zi))]) [4, 5, 1, 2] (by decide) rfl
  have hKc := hK.sub (tys' := [(cI, .int)]) [0] rfl
  have hFc := va_free (wc := [(pa, .inr (3, [.ref p_v, .int 0, .ref p_st, .ref p_ib, .ref p_di, .ref p_wa, .ref p_se, .ref p_vh, .ref p_re])), (bx, .inr (2, [.ref b0, .ref b1, .int 0, .int 0, .ref b4, .int 0, .ref b6, .int 0, .int 0, .int 0, .int 0])), (p_di, .inl (cI, 4, .inl zi)), (p_wa, .inl (cI, 4, .inl zi))]) hD hS hA [4, 5, 1, 2] rfl
  refine va_callv (va_runV (As := [.ref bx, .ref po]) (rest := []) ⟨hx, hb, hml, hown, hts⟩ (c_X1_countDistricts l dC dI pa p_v p_st p_ib p_di p_wa p_se p_vh p_re bx b0 b1 b4 b6 po cI _ ) (cwV 2 hts gX5_gap_X1_countDistricts rfl rfl rfl (by decide +kernel) ⟨Nat.le_of_ble_eq_true rfl, Nat.le_of_ble_eq_true rfl⟩) ⟨pr_blind, va_recv hKc hPc (ci := 3) (q0 := 0) rfl rfl, fun U hU hW => ⟨rfl, pr_mk hU hW hPc hKc hDc⟩⟩ rfl rfl hl.1 rfl (lv_room (Nat.le_of_ble_eq_true rfl)) dX5_gap_31 ⟨Nat.le_of_ble_eq_true rfl, Nat.le_of_ble_eq_true rfl⟩) hS (fun q _ h => hFc q h) hFc (fun u_7 t H1 locs ht hvm hw hB hz1 hk1 hS => ?_)
  obtain ⟨hP1, hK1, hD1⟩ := hB
  rw [ht] at hP1
  obtain ⟨hP, hD⟩ := va_join (wr := [(x, .inr (7, [.ref bx, .ref po, .ref tr, .ref pa, .ref sp])), (p_se, .inl (cI, 4, .inl zi)), (p_v, .inl (cI, 4, .inl zi)), (p_st, .inl (cI, 4, .inl zi)), (p_ib, .inl (cZ, 4, .inl zi))]) (w1 := [(pa, .inr (3, [.ref p_v, .int 0, .ref p_st, .ref p_ib, .ref p_di, .ref p_wa, .ref p_se, .ref p_vh, .ref p_re])), (bx, .inr (2, [.ref b0, .ref b1, .int 0, .int 0, .ref b4, .int 0, .ref b6, .int 0, .int 0, .int 0, .int 0])), (p_di, .inl (cI, 4, .inl zi)), (p_wa, .inl (cI, 4, .inl zi))]) hP hD [4, 5, 1, 2] [0, 3, 6, 7, 8] rfl rfl (by decide) (by decide) hk1 hFc hP1 hD1
  generalize H1 = H at hP hS ⊢
  have hP : va_P (dC, dI) vwCl [(x, .inr (7, [.ref bx, .ref po, .ref tr, .ref pa, .ref sp])), (p_se, .inl (cI, 4, .inl zi)), (p_v, .inl (cI, 4, .inl zi)), (p_st, .inl (cI, 4, .inl zi)), (p_ib, .inl (cZ, 4, .inl zi)), (pa, .inr (3, [.ref p_v, .int 0, .ref p_st, .ref p_ib, .ref p_di, .ref p_wa, .ref p_se, .ref p_vh, .ref p_re])), (bx, .inr (2, [.ref b0, .ref b1, .int 0, .int 0, .ref b4, .int 0, .ref b6, .int 0, .int 0, .int 0, .int 0])), (p_di, .inl (cI, 4, .inl zi)), (p_wa, .inl (cI, 4, .inl zi))] H := hP
  have hD : va_D A [(x, .inr (7, [.ref bx, .ref po, .ref tr, .ref pa, .ref sp])), (p_se, .inl (cI, 4, .inl zi)), (p_v, .inl (cI, 4, .inl zi)), (p_st, .inl (cI, 4, .inl zi)), (p_ib, .inl (cZ, 4, .inl zi)), (pa, .inr (3, [.ref p_v, .int 0, .ref p_st, .ref p_ib, .ref p_di, .ref p_wa, .ref p_se, .ref p_vh, .ref p_re])), (bx, .inr (2, [.ref b0, .ref b1, .int 0, .int 0, .ref b4, .int 0, .ref b6, .int 0, .int 0, .int 0, .int 0])), (p_di, .inl (cI, 4, .inl zi)), (p_wa, .inl (cI, 4, .inl zi))] := hD
  refine W.widen (k := 0) (n := 0) (Nat.le_refl _) (Nat.le_refl _) ?_
  refine lv_aload_n hx hb dX5_gap_34 rfl (lv_at hl 0 rfl) ?_
  refine va_get (D := (dC, dI)) (ci := 7) (v := .ref pa) (C := RX5) (T := TX5) (N := 5) hx hb hts hinX5 hown hK hP 0 rfl rfl 3 (by decide) (hts (.fieldLink RX5 33 "BallotLoom" "parties" "LBallotLoom$Parties;") (by decide +kernel)) (fun _ h9 => h9) rfl dX5_gap_35 ?_
  have hinX1 : ∀ w ∈ u_ws RX1 TX1 9, w ∈ wsX5_gap := by decide +kernel
  refine va_get (D := (dC, dI)) (ci := 3) (v := .int 0) (C := RX1) (T := TX1) (N := 9) hx hb hts hinX1 hown hK hP 5 rfl rfl 1 (by decide) (hts (.fieldLink RX5 241 "BallotLoom$Parties" "allVotes" "I") (by decide +kernel)) (fun _ h9 => h9) rfl dX5_gap_38 ?_
  refine lv_if_ne (tgt := 46) hx hb dX5_gap_41 (by decide) (fun h9 => absurd h9 (by decide)) (fun _ => ?_)
  refine lv_dconst0 hx hb dX5_gap_44 ?_
  have hP9 := hP.sub (ws' := []) [] rfl
  have hD9 := hD.sub (ws' := []) [] (by decide) rfl
  have hK9 := hK.sub (tys' := [(cI, .int), (cZ, .boolean)]) [0, 1] rfl
  refine W.widen (k := 0) (n := 0) (Nat.le_of_ble_eq_true rfl) (Nat.le_of_ble_eq_true rfl) ?_
  exact W.dret (v := FP.dconst0) hx hb hr (fun t ht hW => ⟨⟨FP.dconst0, (), rfl, rfl, po_mk ht hW hP9 hK9 hD9⟩, hS.F ht⟩) hS.2.2 dX5_gap_45

set_option maxHeartbeats 4000000 in
set_option maxRecDepth 100000 in
theorem c_X5_many (l : Launch) (dC : Nat → ClassId) (dI : Nat → Nat → Nat) (x : Nat) (po : Nat) (tr : Nat) (sp : Nat) (pa : Nat) (bx : Nat) (b0 : Nat) (b1 : Nat) (b4 : Nat) (b6 : Nat) (a0 : Int32) (sz : Nat) (g0a : ¬ a0 < 0) (g0b : a0 ≤ 9) : Met l yX5_many wsX5_many ({ frames := 6, cells := 0, slots := 0, locals := 170 }) (va_Pc [.ref x, .int a0] (pr_ dC dI [(x, .inr (7, [.ref bx, .ref po, .ref tr, .ref pa, .ref sp])), (bx, .inr (2, [.ref b0, .ref b1, .int 0, .int 0, .ref b4, .int 0, .ref b6, .int 0, .int 0, .int 0, .int 0]))] [] sz)) (va_Qi (fun (r : Int32) (_ : Unit) => r = 0) (fun (_ : Unit) t => po_ dC dI [] [] (va_A [(x, .inr (7, [.ref bx, .ref po, .ref tr, .ref pa, .ref sp])), (bx, .inr (2, [.ref b0, .ref b1, .int 0, .int 0, .ref b4, .int 0, .ref b6, .int 0, .int 0, .int 0, .int 0]))] sz) t) (va_A [(x, .inr (7, [.ref bx, .ref po, .ref tr, .ref pa, .ref sp])), (bx, .inr (2, [.ref b0, .ref b1, .int 0, .int 0, .ref b4, .int 0, .ref b6, .int 0, .int 0, .int 0, .int 0]))] sz)) 0 0 (va_A [(x, .inr (7, [.ref bx, .ref po, .ref tr, .ref pa, .ref sp])), (bx, .inr (2, [.ref b0, .ref b1, .int 0, .int 0, .ref b4, .int 0, .ref b6, .int 0, .int 0, .int 0, .int 0]))] sz) := by
  refine Met.ofW (cc := cX5_many) (maxL := 2) (ret := (some .int)) (by decide) rfl ?_
  intro p e s m args below meth c s₁ B hml hv
  obtain ⟨rfl, hsz, hP, hK, hD0⟩ := hv
  have hx := B.exec
  have hb := B.bytes
  have hr := B.returns
  have hts := atoms_spec (ws := wsX5_many) B.pre
  have hown : s.vm.findClass RX5 = some m.cls := findClass_of_methodNamed B.named
  have hlocks := B.notSynchronized
  subst hsz
  have hD := hD0.self (sz := s.heap.size)
  generalize hAe : va_A [(x, .inr (7, [.ref bx, .ref po, .ref tr, .ref pa, .ref sp])), (bx, .inr (2, [.ref b0, .ref b1, .int 0, .int 0, .ref b4, .int 0, .ref b6, .int 0, .int 0, .int 0, .int 0]))] s.heap.size = A at hD ⊢
  have hA : ∀ q : Nat, s.heap.size ≤ q → A q := fun q h => by rw [← hAe]; exact Or.inr h
  have hS : va_S A s.heap s.heap [] := va_S.rf
  have hP : va_P (dC, dI) vwCl [(x, .inr (7, [.ref bx, .ref po, .ref tr, .ref pa, .ref sp])), (bx, .inr (2, [.ref b0, .ref b1, .int 0, .int 0, .ref b4, .int 0, .ref b6, .int 0, .int 0, .int 0, .int 0]))] s.heap := hP
  have hK : va_K (dC, dI) vwCl [] s := hK
  have hl := lv_entry ([.ref x, .int a0]) (n := 2) (Nat.le_of_ble_eq_true rfl)
  rw [lg_entry_eq]
  generalize (lg_sl ([.ref x, .int a0]) ++ List.replicate (2 - (lg_sl ([.ref x, .int a0])).length) Slot.unset).toArray = ls at hl ⊢
  have hl : lv_has ls 2 [(0, .ref x), (1, .int a0)] := hl
  refine lv_iload_n hx hb dX5_many_0 rfl (lv_at hl 1 rfl) ?_
  refine lv_bipush (v := 9) hx hb dX5_many_1 (by decide) ?_
  have hPc := hP.sub (ws' := []) [] rfl
  have hDc := hD.sub (ws' := []) [] (by decide) rfl
  have hKc := hK.sub (tys' := []) [] rfl
  have hFc := va_free (wc := []) hD hS hA [] rfl
  refine va_callv (va_runS (As := [.int a0, .int 9]) (rest := []) ⟨hx, hb, hml, hown, hts⟩ (c_X5_checkWhat l dC dI a0 (9 : Int32) _ g0a g0b) (va_cwS 2 hts gX5_many_X5_checkWhat rfl rfl rfl (by decide +kernel) ⟨Nat.le_of_ble_eq_true rfl, Nat.le_of_ble_eq_true rfl⟩) ⟨pr_blind, fun U hU hW => ⟨rfl, pr_mk hU hW hPc hKc hDc⟩⟩ rfl rfl hl.1 rfl (lv_room (Nat.le_of_ble_eq_true rfl)) dX5_many_3 ⟨Nat.le_of_ble_eq_true rfl, Nat.le_of_ble_eq_true rfl⟩) hS (fun q _ h => hFc q h) hFc (fun u_1 t H1 locs ht hvm hw hB hz1 hk1 hS => ?_)
  obtain ⟨hP1, hK1, hD1⟩ := hB
  rw [ht] at hP1
  obtain ⟨hP, hD⟩ := va_join (wr := [(x, .inr (7, [.ref bx, .ref po, .ref tr, .ref pa, .ref sp])), (bx, .inr (2, [.ref b0, .ref b1, .int 0, .int 0, .ref b4, .int 0, .ref b6, .int 0, .int 0, .int 0, .int 0]))]) (w1 := []) hP hD [] [0, 1] rfl rfl (by decide) (by decide) hk1 hFc hP1 hD1
  generalize H1 = H at hP hS ⊢
  have hP : va_P (dC, dI) vwCl [(x, .inr (7, [.ref bx, .ref po, .ref tr, .ref pa, .ref sp])), (bx, .inr (2, [.ref b0, .ref b1, .int 0, .int 0, .ref b4, .int 0, .ref b6, .int 0, .int 0, .int 0, .int 0]))] H := hP
  have hD : va_D A [(x, .inr (7, [.ref bx, .ref po, .ref tr, .ref pa, .ref sp])), (bx, .inr (2, [.ref b0, .ref b1, .int 0, .int 0, .ref b4, .int 0, .ref b6, .int 0, .int 0, .int 0, .int 0]))] := hD
  refine W.widen (k := 0) (n := 0) (Nat.le_refl _) (Nat.le_refl _) ?_
  refine lv_aload_n hx hb dX5_many_6 rfl (lv_at hl 0 rfl) ?_
  have hinX5 : ∀ w ∈ u_ws RX5 TX5 5, w ∈ wsX5_many := by decide +kernel
  refine va_get (D := (dC, dI)) (ci := 7) (v := .ref bx) (C := RX5) (T := TX5) (N := 5) hx hb hts hinX5 hown hK hP 0 rfl rfl 0 (by decide) (hts (.fieldLink RX5 10 "BallotLoom" "box" "LBallotLoom$Box;") (by decide +kernel)) (fun _ h9 => h9) rfl dX5_many_7 ?_
  refine lv_iload_n hx hb dX5_many_10 rfl (lv_at hl 1 rfl) ?_
  have hPc := hP.sub (ws' := [(bx, .inr (2, [.ref b0, .ref b1, .int 0, .int 0, .ref b4, .int 0, .ref b6, .int 0, .int 0, .int 0, .int 0]))]) [1] rfl
  have hDc := hD.sub (ws' := [(bx, .inr (2, [.ref b0, .ref b1, .int 0, .int 0, .ref b4, .int 0, .ref b6, .int 0, .int 0, .int 0, .int 0]))]) [1] (by decide) rfl
  have hKc := hK.sub (tys' := []) [] rfl
  have hFc := va_free (wc := [(bx, .inr (2, [.ref b0, .ref b1, .int 0, .int 0, .ref b4, .int 0, .ref b6, .int 0, .int 0, .int 0, .int 0]))]) hD hS hA [1] rfl
  refine va_calli (va_runV (As := [.int a0]) (rest := []) ⟨hx, hb, hml, hown, hts⟩ (c_X0_figure l dC dI bx b0 b1 b4 b6 a0 _ (up9 g0a g0b)) (cwV 1 hts gX5_many_X0_figure rfl rfl rfl (by decide +kernel) ⟨Nat.le_of_ble_eq_true rfl, Nat.le_of_ble_eq_true rfl⟩) ⟨pr_blind, va_recv hKc hPc (ci := 2) (q0 := 0) rfl rfl, fun U hU hW => ⟨rfl, pr_mk hU hW hPc hKc hDc⟩⟩ rfl rfl hl.1 rfl (lv_room (Nat.le_of_ble_eq_true rfl)) dX5_many_11 ⟨Nat.le_of_ble_eq_true rfl, Nat.le_of_ble_eq_true rfl⟩) hS (fun q _ h => hFc q h) hFc (fun r_4 u_3 t H1 locs ht hvm hw hB hz1 hk1 hS => ?_)
  obtain ⟨hP1, hK1, hD1⟩ := hB
  rw [ht] at hP1
  obtain ⟨hP, hD⟩ := va_join (wr := [(x, .inr (7, [.ref bx, .ref po, .ref tr, .ref pa, .ref sp]))]) (w1 := [(bx, .inr (2, [.ref b0, .ref b1, .int 0, .int 0, .ref b4, .int 0, .ref b6, .int 0, .int 0, .int 0, .int 0]))]) hP hD [1] [0] rfl rfl (by decide) (by decide) hk1 hFc hP1 hD1
  generalize H1 = H at hP hS ⊢
  have hP : va_P (dC, dI) vwCl [(x, .inr (7, [.ref bx, .ref po, .ref tr, .ref pa, .ref sp])), (bx, .inr (2, [.ref b0, .ref b1, .int 0, .int 0, .ref b4, .int 0, .ref b6, .int 0, .int 0, .int 0, .int 0]))] H := hP
  have hD : va_D A [(x, .inr (7, [.ref bx, .ref po, .ref tr, .ref pa, .ref sp])), (bx, .inr (2, [.ref b0, .ref b1, .int 0, .int 0, .ref b4, .int 0, .ref b6, .int 0, .int 0, .int 0, .int 0]))] := hD
  refine W.widen (k := 0) (n := 0) (Nat.le_refl _) (Nat.le_refl _) ?_
  have hw : r_4 = 0 := hw
  subst hw
  have hP9 := hP.sub (ws' := []) [] rfl
  have hD9 := hD.sub (ws' := []) [] (by decide) rfl
  have hK9 := hK.sub (tys' := []) [] rfl
  refine W.widen (k := 0) (n := 0) (Nat.le_of_ble_eq_true rfl) (Nat.le_of_ble_eq_true rfl) ?_
  exact W.iret (v := 0) hx hb hr (fun t ht hW => ⟨⟨0, (), rfl, rfl, po_mk ht hW hP9 hK9 hD9⟩, hS.F ht⟩) hS.2.2 dX5_many_14

set_option maxHeartbeats 4000000 in
set_option maxRecDepth 100000 in
theorem c_X5_mix (l : Launch) (dC : Nat → ClassId) (dI : Nat → Nat → Nat) (su : Int64) (va : Int64) (sz : Nat)  : Met l yX5_mix wsX5_mix ({ frames := 2, cells := 0, slots := 0, locals := 40 }) (va_Pc [.long su, .long va] (pr_ dC dI [] [] sz)) (va_Ql (fun (r : Int64) (_ : Unit) => r = ((su * 31) + va)) (fun (_ : Unit) t => po_ dC dI [] [] (va_A [] sz) t) (va_A [] sz)) 0 0 (va_A [] sz) := by
  refine Met.ofW (cc := cX5_mix) (maxL := 4) (ret := (some .long)) (by decide) rfl ?_
  intro p e s m args below meth c s₁ B hml hv
  obtain ⟨rfl, hsz, hP, hK, hD0⟩ := hv
  have hx := B.exec
  have hb := B.bytes
  have hr := B.returns
  have hts := atoms_spec (ws := wsX5_mix) B.pre
  have hown : s.vm.findClass RX5 = some m.cls := findClass_of_methodNamed B.named
  have hlocks := B.notSynchronized
  subst hsz
  have hD := hD0.self (sz := s.heap.size)
  generalize hAe : va_A [] s.heap.size = A at hD ⊢
  have hA : ∀ q : Nat, s.heap.size ≤ q → A q := fun q h => by rw [← hAe]; exact Or.inr h
  have hS : va_S A s.heap s.heap [] := va_S.rf
  have hP : va_P (dC, dI) vwCl [] s.heap := hP
  have hK : va_K (dC, dI) vwCl [] s := hK
  have hl := lv_entry ([.long su, .long va]) (n := 4) (Nat.le_of_ble_eq_true rfl)
  rw [lg_entry_eq]
  generalize (lg_sl ([.long su, .long va]) ++ List.replicate (4 - (lg_sl ([.long su, .long va])).length) Slot.unset).toArray = ls at hl ⊢
  have hl : lv_has ls 4 [(0, .long su), (2, .long va)] := hl
  refine lv_lload_n hx hb dX5_mix_0 rfl (lv_at hl 0 rfl) ?_
  refine lv_ldc2 (v := 31) hx hb hown (hts (.constantLong RX5 288 31) (by decide +kernel)) dX5_mix_1 ?_
  refine lv_lmul hx hb dX5_mix_4 ?_
  refine lv_lload_n hx hb dX5_mix_5 rfl (lv_at hl 1 rfl) ?_
  refine lv_ladd hx hb dX5_mix_6 ?_
  have hP9 := hP.sub (ws' := []) [] rfl
  have hD9 := hD.sub (ws' := []) [] (by decide) rfl
  have hK9 := hK.sub (tys' := []) [] rfl
  refine W.widen (k := 0) (n := 0) (Nat.le_of_ble_eq_true rfl) (Nat.le_of_ble_eq_true rfl) ?_
  exact W.lret (v := ((su * 31) + va)) hx hb hr (fun t ht hW => ⟨⟨((su * 31) + va), (), rfl, rfl, po_mk ht hW hP9 hK9 hD9⟩, hS.F ht⟩) hS.2.2 dX5_mix_7

set_option maxHeartbeats 4000000 in
set_option maxRecDepth 100000 in
theorem c_X5_mixParty (l : Launch) (dC : Nat → ClassId) (dI : Nat → Nat → Nat) (x : Nat) (po : Nat) (tr : Nat) (sp : Nat) (bx : Nat) (pa : Nat) (p_v : Nat) (p_st : Nat) (p_ib : Nat) (p_di : Nat) (p_wa : Nat) (p_se : Nat) (p_vh : Nat) (p_re : Nat) (cI : ClassId) (cZ : ClassId) (su : Int64) (par : Int32) (sz : Nat) (hpa : vp_in par 4) : Met l yX5_mixParty wsX5_mixParty ({ frames := 6, cells := 0, slots := 0, locals := 170 }) (va_Pc [.ref x, .long su, .int par] (pr_ dC dI [(x, .inr (7, [.ref bx, .ref po, .ref tr, .ref pa, .ref sp])), (pa, .inr (3, [.ref p_v, .int 0, .ref p_st, .ref p_ib, .ref p_di, .ref p_wa, .ref p_se, .ref p_vh, .ref p_re])), (p_v, .inl (cI, 4, .inl zi)), (p_st, .inl (cI, 4, .inl zi)), (p_ib, .inl (cZ, 4, .inl zi)), (p_di, .inl (cI, 4, .inl zi)), (p_wa, .inl (cI, 4, .inl zi)), (p_se, .inl (cI, 4, .inl zi))] [(cI, .int), (cZ, .boolean)] sz)) (va_Ql (fun (r : Int64) (_ : Unit) => r = mx 11 su) (fun (_ : Unit) t => po_ dC dI [(x, .inr (7, [.ref bx, .ref po, .ref tr, .ref pa, .ref sp])), (pa, .inr (3, [.ref p_v, .int 0, .ref p_st, .ref p_ib, .ref p_di, .ref p_wa, .ref p_se, .ref p_vh, .ref p_re])), (p_v, .inl (cI, 4, .inl zi)), (p_st, .inl (cI, 4, .inl zi)), (p_ib, .inl (cZ, 4, .inl zi)), (p_di, .inl (cI, 4, .inl zi)), (p_wa, .inl (cI, 4, .inl zi)), (p_se, .inl (cI, 4, .inl zi))] [(cI, .int), (cZ, .boolean)] (va_A [(x, .inr (7, [.ref bx, .ref po, .ref tr, .ref pa, .ref sp])), (pa, .inr (3, [.ref p_v, .int 0, .ref p_st, .ref p_ib, .ref p_di, .ref p_wa, .ref p_se, .ref p_vh, .ref p_re])), (p_v, .inl (cI, 4, .inl zi)), (p_st, .inl (cI, 4, .inl zi)), (p_ib, .inl (cZ, 4, .inl zi)), (p_di, .inl (cI, 4, .inl zi)), (p_wa, .inl (cI, 4, .inl zi)), (p_se, .inl (cI, 4, .inl zi))] sz) t) (va_A [(x, .inr (7, [.ref bx, .ref po, .ref tr, .ref pa, .ref sp])), (pa, .inr (3, [.ref p_v, .int 0, .ref p_st, .ref p_ib, .ref p_di, .ref p_wa, .ref p_se, .ref p_vh, .ref p_re])), (p_v, .inl (cI, 4, .inl zi)), (p_st, .inl (cI, 4, .inl zi)), (p_ib, .inl (cZ, 4, .inl zi)), (p_di, .inl (cI, 4, .inl zi)), (p_wa, .inl (cI, 4, .inl zi)), (p_se, .inl (cI, 4, .inl zi))] sz)) 0 0 (va_A [(x, .inr (7, [.ref bx, .ref po, .ref tr, .ref pa, .ref sp])), (pa, .inr (3, [.ref p_v, .int 0, .ref p_st, .ref p_ib, .ref p_di, .ref p_wa, .ref p_se, .ref p_vh, .ref p_re])), (p_v, .inl (cI, 4, .inl zi)), (p_st, .inl (cI, 4, .inl zi)), (p_ib, .inl (cZ, 4, .inl zi)), (p_di, .inl (cI, 4, .inl zi)), (p_wa, .inl (cI, 4, .inl zi)), (p_se, .inl (cI, 4, .inl zi))] sz) := by
  refine Met.ofW (cc := cX5_mixParty) (maxL := 7) (ret := (some .long)) (by decide) rfl ?_
  intro p e s m args below meth c s₁ B hml hv
  obtain ⟨rfl, hsz, hP, hK, hD0⟩ := hv
  have hx := B.exec
  have hb := B.bytes
  have hr := B.returns
  have hts := atoms_spec (ws := wsX5_mixParty) B.pre
  have hown : s.vm.findClass RX5 = some m.cls := findClass_of_methodNamed B.named
  have hlocks := B.notSynchronized
  subst hsz
  have hD := hD0.self (sz := s.heap.size)
  generalize hAe : va_A [(x, .inr (7, [.ref bx, .ref po, .ref tr, .ref pa, .ref sp])), (pa, .inr (3, [.ref p_v, .int 0, .ref p_st, .ref p_ib, .ref p_di, .ref p_wa, .ref p_se, .ref p_vh, .ref p_re])), (p_v, .inl (cI, 4, .inl zi)), (p_st, .inl (cI, 4, .inl zi)), (p_ib, .inl (cZ, 4, .inl zi)), (p_di, .inl (cI, 4, .inl zi)), (p_wa, .inl (cI, 4, .inl zi)), (p_se, .inl (cI, 4, .inl zi))] s.heap.size = A at hD ⊢
  have hA : ∀ q : Nat, s.heap.size ≤ q → A q := fun q h => by rw [← hAe]; exact Or.inr h
  have hS : va_S A s.heap s.heap [] := va_S.rf
  have hP : va_P (dC, dI) vwCl [(x, .inr (7, [.ref bx, .ref po, .ref tr, .ref pa, .ref sp])), (pa, .inr (3, [.ref p_v, .int 0, .ref p_st, .ref p_ib, .ref p_di, .ref p_wa, .ref p_se, .ref p_vh, .ref p_re])), (p_v, .inl (cI, 4, .inl zi)), (p_st, .inl (cI, 4, .inl zi)), (p_ib, .inl (cZ, 4, .inl zi)), (p_di, .inl (cI, 4, .inl zi)), (p_wa, .inl (cI, 4, .inl zi)), (p_se, .inl (cI, 4, .inl zi))] s.heap := hP
  have hK : va_K (dC, dI) vwCl [(cI, .int), (cZ, .boolean)] s := hK
  have hl := lv_entry ([.ref x, .long su, .int par]) (n := 7) (Nat.le_of_ble_eq_true rfl)
  rw [lg_entry_eq]
  generalize (lg_sl ([.ref x, .long su, .int par]) ++ List.replicate (7 - (lg_sl ([.ref x, .long su, .int par])).length) Slot.unset).toArray = ls at hl ⊢
  have hl : lv_has ls 7 [(0, .ref x), (1, .long su), (3, .int par)] := hl
  refine lv_lload_n hx hb dX5_mixParty_0 rfl (lv_at hl 1 rfl) ?_
  refine lv_lstore (lv' := [(4, .long su), (0, .ref x), (1, .long su), (3, .int par)]) hx hb dX5_mixParty_1 hl (by decide) rfl (fun ls hl => ?_)
  refine lv_iconst (v := 0) hx hb dX5_mixParty_3 (by decide) ?_
  refine lv_istore (lv' := [(6, .int 0), (4, .long su), (0, .ref x), (1, .long su), (3, .int par)]) hx hb dX5_mixParty_4 hl (by decide) rfl (fun ls hl => ?_)
  refine lv_iload hx hb dX5_mixParty_6 (lv_at hl 0 rfl) ?_
  refine lv_iconst (v := 4) hx hb dX5_mixParty_8 (by decide) ?_
  refine lv_icmp_gt (tgt := 36) hx hb dX5_mixParty_9 (by decide) (fun h9 => absurd h9 (by decide)) (fun _ => ?_)
  refine lv_lload hx hb dX5_mixParty_12 (lv_at hl 1 rfl) ?_
  refine lv_aload_n hx hb dX5_mixParty_14 rfl (lv_at hl 2 rfl) ?_
  have hinX5 : ∀ w ∈ u_ws RX5 TX5 5, w ∈ wsX5_mixParty := by decide +kernel
  refine va_get (D := (dC, dI)) (ci := 7) (v := .ref pa) (C := RX5) (T := TX5) (N := 5) hx hb hts hinX5 hown hK hP 0 rfl rfl 3 (by decide) (hts (.fieldLink RX5 33 "BallotLoom" "parties" "LBallotLoom$Parties;") (by decide +kernel)) (fun _ h9 => h9) rfl dX5_mixParty_15 ?_
  refine lv_iload_n hx hb dX5_mixParty_18 rfl (lv_at hl 4 rfl) ?_
  refine lv_iload hx hb dX5_mixParty_19 (lv_at hl 0 rfl) ?_
  have hPc := hP.sub (ws' := [(pa, .inr (3, [.ref p_v, .int 0, .ref p_st, .ref p_ib, .ref p_di, .ref p_wa, .ref p_se, .ref p_vh, .ref p_re])), (p_v, .inl (cI, 4, .inl zi)), (p_st, .inl (cI, 4, .inl zi)), (p_ib, .inl (cZ, 4, .inl zi)), (p_di, .inl (cI, 4, .inl zi)), (p_wa, .inl (cI, 4, .inl zi))]) [1, 2, 3, 4, 5, 6] rfl
  have hDc := hD.sub (ws' := [(pa, .inr (3, [.ref p_v, .int 0, .ref p_st, .ref p_ib, .ref p_di, .ref p_wa, .ref p_se, .ref p_vh, .ref p_re])), (p_v, .inl (cI, 4, .inl zi)), (p_st, .inl (cI, 4, .inl zi)), (p_ib, .inl (cZ, 4, .inl zi)), (p_di, .inl (cI, 4, .inl zi)), (p_wa, .inl (cI, 4, .inl zi))]) [1, 2, 3, 4, 5, 6] (by decide) rfl
  have hKc := hK.sub (tys' := [(cI, .int), (cZ, .boolean)]) [0, 1] rfl
  have hFc := va_free (wc := [(pa, .inr (3, [.ref p_v, .int 0, .ref p_st, .ref p_ib, .ref p_di, .ref p_wa, .ref p_se, .ref p_vh, .ref p_re])), (p_v, .inl (cI, 4, .inl zi)), (p_st, .inl (cI, 4, .inl zi)), (p_ib, .inl (cZ, 4, .inl zi)), (p_di, .inl (cI, 4, .inl zi)), (p_wa, .inl (cI, 4, .inl zi))]) hD hS hA [1, 2, 3, 4, 5, 6] rfl
  refine va_calli (va_runV (As := [.int par, .int 0]) (rest := [.long su]) ⟨hx, hb, hml, hown, hts⟩ (c_X1_figure l dC dI pa p_v p_st p_ib p_di p_wa p_se p_vh p_re par (0 : Int32) cI cZ _ hpa (by decide)) (cwV 2 hts gX5_mixParty_X1_figure rfl rfl rfl (by decide +kernel) ⟨Nat.le_of_ble_eq_true rfl, Nat.le_of_ble_eq_true rfl⟩) ⟨pr_blind, va_recv hKc hPc (ci := 3) (q0 := 0) rfl rfl, fun U hU hW => ⟨rfl, pr_mk hU hW hPc hKc hDc⟩⟩ rfl rfl hl.1 rfl (lv_room (Nat.le_of_ble_eq_true rfl)) dX5_mixParty_21 ⟨Nat.le_of_ble_eq_true rfl, Nat.le_of_ble_eq_true rfl⟩) hS (fun q _ h => hFc q h) hFc (fun r_2 u_1 t H1 locs ht hvm hw hB hz1 hk1 hS => ?_)
  obtain ⟨hP1, hK1, hD1⟩ := hB
  rw [ht] at hP1
  obtain ⟨hP, hD⟩ := va_join (wr := [(x, .inr (7, [.ref bx, .ref po, .ref tr, .ref pa, .ref sp])), (p_se, .inl (cI, 4, .inl zi))]) (w1 := [(pa, .inr (3, [.ref p_v, .int 0, .ref p_st, .ref p_ib, .ref p_di, .ref p_wa, .ref p_se, .ref p_vh, .ref p_re])), (p_v, .inl (cI, 4, .inl zi)), (p_st, .inl (cI, 4, .inl zi)), (p_ib, .inl (cZ, 4, .inl zi)), (p_di, .inl (cI, 4, .inl zi)), (p_wa, .inl (cI, 4, .inl zi))]) hP hD [1, 2, 3, 4, 5, 6] [0, 7] rfl rfl (by decide) (by decide) hk1 hFc hP1 hD1
  generalize H1 = H at hP hS ⊢
  have hP : va_P (dC, dI) vwCl [(x, .inr (7, [.ref bx, .ref po, .ref tr, .ref pa, .ref sp])), (p_se, .inl (cI, 4, .inl zi)), (pa, .inr (3, [.ref p_v, .int 0, .ref p_st, .ref p_ib, .ref p_di, .ref p_wa, .ref p_se, .ref p_vh, .ref p_re])), (p_v, .inl (cI, 4, .inl zi)), (p_st, .inl (cI, 4, .inl zi)), (p_ib, .inl (cZ, 4, .inl zi)), (p_di, .inl (cI, 4, .inl zi)), (p_wa, .inl (cI, 4, .inl zi))] H := hP
  have hD : va_D A [(x, .inr (7, [.ref bx, .ref po, .ref tr, .ref pa, .ref sp])), (p_se, .inl (cI, 4, .inl zi)), (pa, .inr (3, [.ref p_v, .int 0, .ref p_st, .ref p_ib, .ref p_di, .ref p_wa, .ref p_se, .ref p_vh, .ref p_re])), (p_v, .inl (cI, 4, .inl zi)), (p_st, .inl (cI, 4, .inl zi)), (p_ib, .inl (cZ, 4, .inl zi)), (p_di, .inl (cI, 4, .inl zi)), (p_wa, .inl (cI, 4, .inl zi))] := hD
  refine W.widen (k := 0) (n := 0) (Nat.le_refl _) (Nat.le_refl _) ?_
  have hw : r_2 = 0 := hw
  subst hw
  refine lv_i2l (v := 0) hx hb dX5_mixParty_24 (by decide) ?_
  have hPc := hP.sub (ws' := []) [] rfl
  have hDc := hD.sub (ws' := []) [] (by decide) rfl
  have hKc := hK.sub (tys' := []) [] rfl
  have hFc := va_free (wc := []) hD hS hA [] rfl
  refine va_calll (va_runS (As := [.long su, .long 0]) (rest := []) ⟨hx, hb, hml, hown, hts⟩ (c_X5_mix l dC dI su (0 : Int64) _ ) (va_cwS 2 hts gX5_mixParty_X5_mix rfl rfl rfl (by decide +kernel) ⟨Nat.le_of_ble_eq_true rfl, Nat.le_of_ble_eq_true rfl⟩) ⟨pr_blind, fun U hU hW => ⟨rfl, pr_mk hU hW hPc hKc hDc⟩⟩ rfl rfl hl.1 rfl (lv_room (Nat.le_of_ble_eq_true rfl)) dX5_mixParty_25 ⟨Nat.le_of_ble_eq_true rfl, Nat.le_of_ble_eq_true rfl⟩) hS (fun q _ h => hFc q h) hFc (fun r_4 u_3 t H1 locs ht hvm hw hB hz1 hk1 hS => ?_)
  obtain ⟨hP1, hK1, hD1⟩ := hB
  rw [ht] at hP1
  obtain ⟨hP, hD⟩ := va_join (wr := [(x, .inr (7, [.ref bx, .ref po, .ref tr, .ref pa, .ref sp])), (p_se, .inl (cI, 4, .inl zi)), (pa, .inr (3, [.ref p_v, .int 0, .ref p_st, .ref p_ib, .ref p_di, .ref p_wa, .ref p_se, .ref p_vh, .ref p_re])), (p_v, .inl (cI, 4, .inl zi)), (p_st, .inl (cI, 4, .inl zi)), (p_ib, .inl (cZ, 4, .inl zi)), (p_di, .inl (cI, 4, .inl zi)), (p_wa, .inl (cI, 4, .inl zi))]) (w1 := []) hP hD [] [0, 1, 2, 3, 4, 5, 6, 7] rfl rfl (by decide) (by decide) hk1 hFc hP1 hD1
  generalize H1 = H at hP hS ⊢
  have hP : va_P (dC, dI) vwCl [(x, .inr (7, [.ref bx, .ref po, .ref tr, .ref pa, .ref sp])), (p_se, .inl (cI, 4, .inl zi)), (pa, .inr (3, [.ref p_v, .int 0, .ref p_st, .ref p_ib, .ref p_di, .ref p_wa, .ref p_se, .ref p_vh, .ref p_re])), (p_v, .inl (cI, 4, .inl zi)), (p_st, .inl (cI, 4, .inl zi)), (p_ib, .inl (cZ, 4, .inl zi)), (p_di, .inl (cI, 4, .inl zi)), (p_wa, .inl (cI, 4, .inl zi))] H := hP
  have hD : va_D A [(x, .inr (7, [.ref bx, .ref po, .ref tr, .ref pa, .ref sp])), (p_se, .inl (cI, 4, .inl zi)), (pa, .inr (3, [.ref p_v, .int 0, .ref p_st, .ref p_ib, .ref p_di, .ref p_wa, .ref p_se, .ref p_vh, .ref p_re])), (p_v, .inl (cI, 4, .inl zi)), (p_st, .inl (cI, 4, .inl zi)), (p_ib, .inl (cZ, 4, .inl zi)), (p_di, .inl (cI, 4, .inl zi)), (p_wa, .inl (cI, 4, .inl zi))] := hD
  refine W.widen (k := 0) (n := 0) (Nat.le_refl _) (Nat.le_refl _) ?_
  have hw : r_4 = ((su * 31) + 0) := hw
  subst hw
  refine lv_lstore (lv' := [(4, .long ((su * 31) + 0)), (6, .int 0), (0, .ref x), (1, .long su), (3, .int par)]) hx hb dX5_mixParty_28 hl (by decide) rfl (fun ls hl => ?_)
  refine lv_iinc (k := 1) (v := 1) (lv' := [(6, .int 1), (4, .long ((su * 31) + 0)), (0, .ref x), (1, .long su), (3, .int par)]) hx hb dX5_mixParty_30 hl rfl (by decide) (by decide) rfl (fun ls hl => ?_)
  refine lv_goto (tgt := 6) hx hb dX5_mixParty_33 (by decide) ?_
  refine lv_iload hx hb dX5_mixParty_6 (lv_at hl 0 rfl) ?_
  refine lv_iconst (v := 4) hx hb dX5_mixParty_8 (by decide) ?_
  refine lv_icmp_gt (tgt := 36) hx hb dX5_mixParty_9 (by decide) (fun h9 => absurd h9 (by decide)) (fun _ => ?_)
  refine lv_lload hx hb dX5_mixParty_12 (lv_at hl 1 rfl) ?_
  refine lv_aload_n hx hb dX5_mixParty_14 rfl (lv_at hl 2 rfl) ?_
  refine va_get (D := (dC, dI)) (ci := 7) (v := .ref pa) (C := RX5) (T := TX5) (N := 5) hx hb hts hinX5 hown hK hP 0 rfl rfl 3 (by decide) (hts (.fieldLink RX5 33 "BallotLoom" "parties" "LBallotLoom$Parties;") (by decide +kernel)) (fun _ h9 => h9) rfl dX5_mixParty_15 ?_
  refine lv_iload_n hx hb dX5_mixParty_18 rfl (lv_at hl 4 rfl) ?_
  refine lv_iload hx hb dX5_mixParty_19 (lv_at hl 0 rfl) ?_
  have hPc := hP.sub (ws' := [(pa, .inr (3, [.ref p_v, .int 0, .ref p_st, .ref p_ib, .ref p_di, .ref p_wa, .ref p_se, .ref p_vh, .ref p_re])), (p_v, .inl (cI, 4, .inl zi)), (p_st, .inl (cI, 4, .inl zi)), (p_ib, .inl (cZ, 4, .inl zi)), (p_di, .inl (cI, 4, .inl zi)), (p_wa, .inl (cI, 4, .inl zi))]) [2, 3, 4, 5, 6, 7] rfl
  have hDc := hD.sub (ws' := [(pa, .inr (3, [.ref p_v, .int 0, .ref p_st, .ref p_ib, .ref p_di, .ref p_wa, .ref p_se, .ref p_vh, .ref p_re])), (p_v, .inl (cI, 4, .inl zi)), (p_st, .inl (cI, 4, .inl zi)), (p_ib, .inl (cZ, 4, .inl zi)), (p_di, .inl (cI, 4, .inl zi)), (p_wa, .inl (cI, 4, .inl zi))]) [2, 3, 4, 5, 6, 7] (by decide) rfl
  have hKc := hK.sub (tys' := [(cI, .int), (cZ, .boolean)]) [0, 1] rfl
  have hFc := va_free (wc := [(pa, .inr (3, [.ref p_v, .int 0, .ref p_st, .ref p_ib, .ref p_di, .ref p_wa, .ref p_se, .ref p_vh, .ref p_re])), (p_v, .inl (cI, 4, .inl zi)), (p_st, .inl (cI, 4, .inl zi)), (p_ib, .inl (cZ, 4, .inl zi)), (p_di, .inl (cI, 4, .inl zi)), (p_wa, .inl (cI, 4, .inl zi))]) hD hS hA [2, 3, 4, 5, 6, 7] rfl
  refine va_calli (va_runV (As := [.int par, .int 1]) (rest := [.long ((su * 31) + 0)]) ⟨hx, hb, hml, hown, hts⟩ (c_X1_figure l dC dI pa p_v p_st p_ib p_di p_wa p_se p_vh p_re par (1 : Int32) cI cZ _ hpa (by decide)) (cwV 2 hts gX5_mixParty_X1_figure rfl rfl rfl (by decide +kernel) ⟨Nat.le_of_ble_eq_true rfl, Nat.le_of_ble_eq_true rfl⟩) ⟨pr_blind, va_recv hKc hPc (ci := 3) (q0 := 0) rfl rfl, fun U hU hW => ⟨rfl, pr_mk hU hW hPc hKc hDc⟩⟩ rfl rfl hl.1 rfl (lv_room (Nat.le_of_ble_eq_true rfl)) dX5_mixParty_21 ⟨Nat.le_of_ble_eq_true rfl, Nat.le_of_ble_eq_true rfl⟩) hS (fun q _ h => hFc q h) hFc (fun r_6 u_5 t H1 locs ht hvm hw hB hz1 hk1 hS => ?_)
  obtain ⟨hP1, hK1, hD1⟩ := hB
  rw [ht] at hP1
  obtain ⟨hP, hD⟩ := va_join (wr := [(x, .inr (7, [.ref bx, .ref po, .ref tr, .ref pa, .ref sp])), (p_se, .inl (cI, 4, .inl zi))]) (w1 := [(pa, .inr (3, [.ref p_v, .int 0, .ref p_st, .ref p_ib, .ref p_di, .ref p_wa, .ref p_se, .ref p_vh, .ref p_re])), (p_v, .inl (cI, 4, .inl zi)), (p_st, .inl (cI, 4, .inl zi)), (p_ib, .inl (cZ, 4, .inl zi)), (p_di, .inl (cI, 4, .inl zi)), (p_wa, .inl (cI, 4, .inl zi))]) hP hD [2, 3, 4, 5, 6, 7] [0, 1] rfl rfl (by decide) (by decide) hk1 hFc hP1 hD1
  generalize H1 = H at hP hS ⊢
  have hP : va_P (dC, dI) vwCl [(x, .inr (7, [.ref bx, .ref po, .ref tr, .ref pa, .ref sp])), (p_se, .inl (cI, 4, .inl zi)), (pa, .inr (3, [.ref p_v, .int 0, .ref p_st, .ref p_ib, .ref p_di, .ref p_wa, .ref p_se, .ref p_vh, .ref p_re])), (p_v, .inl (cI, 4, .inl zi)), (p_st, .inl (cI, 4, .inl zi)), (p_ib, .inl (cZ, 4, .inl zi)), (p_di, .inl (cI, 4, .inl zi)), (p_wa, .inl (cI, 4, .inl zi))] H := hP
  have hD : va_D A [(x, .inr (7, [.ref bx, .ref po, .ref tr, .ref pa, .ref sp])), (p_se, .inl (cI, 4, .inl zi)), (pa, .inr (3, [.ref p_v, .int 0, .ref p_st, .ref p_ib, .ref p_di, .ref p_wa, .ref p_se, .ref p_vh, .ref p_re])), (p_v, .inl (cI, 4, .inl zi)), (p_st, .inl (cI, 4, .inl zi)), (p_ib, .inl (cZ, 4, .inl zi)), (p_di, .inl (cI, 4, .inl zi)), (p_wa, .inl (cI, 4, .inl zi))] := hD
  refine W.widen (k := 0) (n := 0) (Nat.le_refl _) (Nat.le_refl _) ?_
  have hw : r_6 = 0 := hw
  subst hw
  refine lv_i2l (v := 0) hx hb dX5_mixParty_24 (by decide) ?_
  have hPc := hP.sub (ws' := []) [] rfl
  have hDc := hD.sub (ws' := []) [] (by decide) rfl
  have hKc := hK.sub (tys' := []) [] rfl
  have hFc := va_free (wc := []) hD hS hA [] rfl
  refine va_calll (va_runS (As := [.long ((su * 31) + 0), .long 0]) (rest := []) ⟨hx, hb, hml, hown, hts⟩ (c_X5_mix l dC dI ((su * 31) + 0) (0 : Int64) _ ) (va_cwS 2 hts gX5_mixParty_X5_mix rfl rfl rfl (by decide +kernel) ⟨Nat.le_of_ble_eq_true rfl, Nat.le_of_ble_eq_true rfl⟩) ⟨pr_blind, fun U hU hW => ⟨rfl, pr_mk hU hW hPc hKc hDc⟩⟩ rfl rfl hl.1 rfl (lv_room (Nat.le_of_ble_eq_true rfl)) dX5_mixParty_25 ⟨Nat.le_of_ble_eq_true rfl, Nat.le_of_ble_eq_true rfl⟩) hS (fun q _ h => hFc q h) hFc (fun r_8 u_7 t H1 locs ht hvm hw hB hz1 hk1 hS => ?_)
  obtain ⟨hP1, hK1, hD1⟩ := hB
  rw [ht] at hP1
  obtain ⟨hP, hD⟩ := va_join (wr := [(x, .inr (7, [.ref bx, .ref po, .ref tr, .ref pa, .ref sp])), (p_se, .inl (cI, 4, .inl zi)), (pa, .inr (3, [.ref p_v, .int 0, .ref p_st, .ref p_ib, .ref p_di, .ref p_wa, .ref p_se, .ref p_vh, .ref p_re])), (p_v, .inl (cI, 4, .inl zi)), (p_st, .inl (cI, 4, .inl zi)), (p_ib, .inl (cZ, 4, .inl zi)), (p_di, .inl (cI, 4, .inl zi)), (p_wa, .inl (cI, 4, .inl zi))]) (w1 := []) hP hD [] [0, 1, 2, 3, 4, 5, 6, 7] rfl rfl (by decide) (by decide) hk1 hFc hP1 hD1
  generalize H1 = H at hP hS ⊢
  have hP : va_P (dC, dI) vwCl [(x, .inr (7, [.ref bx, .ref po, .ref tr, .ref pa, .ref sp])), (p_se, .inl (cI, 4, .inl zi)), (pa, .inr (3, [.ref p_v, .int 0, .ref p_st, .ref p_ib, .ref p_di, .ref p_wa, .ref p_se, .ref p_vh, .ref p_re])), (p_v, .inl (cI, 4, .inl zi)), (p_st, .inl (cI, 4, .inl zi)), (p_ib, .inl (cZ, 4, .inl zi)), (p_di, .inl (cI, 4, .inl zi)), (p_wa, .inl (cI, 4, .inl zi))] H := hP
  have hD : va_D A [(x, .inr (7, [.ref bx, .ref po, .ref tr, .ref pa, .ref sp])), (p_se, .inl (cI, 4, .inl zi)), (pa, .inr (3, [.ref p_v, .int 0, .ref p_st, .ref p_ib, .ref p_di, .ref p_wa, .ref p_se, .ref p_vh, .ref p_re])), (p_v, .inl (cI, 4, .inl zi)), (p_st, .inl (cI, 4, .inl zi)), (p_ib, .inl (cZ, 4, .inl zi)), (p_di, .inl (cI, 4, .inl zi)), (p_wa, .inl (cI, 4, .inl zi))] := hD
  refine W.widen (k := 0) (n := 0) (Nat.le_refl _) (Nat.le_refl _) ?_
  have hw : r_8 = ((((su * 31) + 0) * 31) + 0) := hw
  subst hw
  refine lv_lstore (lv' := [(4, .long ((((su * 31) + 0) * 31) + 0)), (6, .int 1), (0, .ref x), (1, .long su), (3, .int par)]) hx hb dX5_mixParty_28 hl (by decide) rfl (fun ls hl => ?_)
  refine lv_iinc (k := 1) (v := 2) (lv' := [(6, .int 2), (4, .long ((((su * 31) + 0) * 31) + 0)), (0, .ref x), (1, .long su), (3, .int par)]) hx hb dX5_mixParty_30 hl rfl (by decide) (by decide) rfl (fun ls hl => ?_)
  refine lv_goto (tgt := 6) hx hb dX5_mixParty_33 (by decide) ?_
  refine lv_iload hx hb dX5_mixParty_6 (lv_at hl 0 rfl) ?_
  refine lv_iconst (v := 4) hx hb dX5_mixParty_8 (by decide) ?_
  refine lv_icmp_gt (tgt := 36) hx hb dX5_mixParty_9 (by decide) (fun h9 => absurd h9 (by decide)) (fun _ => ?_)
  refine lv_lload hx hb dX5_mixParty_12 (lv_at hl 1 rfl) ?_
  refine lv_aload_n hx hb dX5_mixParty_14 rfl (lv_at hl 2 rfl) ?_
  refine va_get (D := (dC, dI)) (ci := 7) (v := .ref pa) (C := RX5) (T := TX5) (N := 5) hx hb hts hinX5 hown hK hP 0 rfl rfl 3 (by decide) (hts (.fieldLink RX5 33 "BallotLoom" "parties" "LBallotLoom$Parties;") (by decide +kernel)) (fun _ h9 => h9) rfl dX5_mixParty_15 ?_
  refine lv_iload_n hx hb dX5_mixParty_18 rfl (lv_at hl 4 rfl) ?_
  refine lv_iload hx hb dX5_mixParty_19 (lv_at hl 0 rfl) ?_
  have hPc := hP.sub (ws' := [(pa, .inr (3, [.ref p_v, .int 0, .ref p_st, .ref p_ib, .ref p_di, .ref p_wa, .ref p_se, .ref p_vh, .ref p_re])), (p_v, .inl (cI, 4, .inl zi)), (p_st, .inl (cI, 4, .inl zi)), (p_ib, .inl (cZ, 4, .inl zi)), (p_di, .inl (cI, 4, .inl zi)), (p_wa, .inl (cI, 4, .inl zi))]) [2, 3, 4, 5, 6, 7] rfl
  have hDc := hD.sub (ws' := [(pa, .inr (3, [.ref p_v, .int 0, .ref p_st, .ref p_ib, .ref p_di, .ref p_wa, .ref p_se, .ref p_vh, .ref p_re])), (p_v, .inl (cI, 4, .inl zi)), (p_st, .inl (cI, 4, .inl zi)), (p_ib, .inl (cZ, 4, .inl zi)), (p_di, .inl (cI, 4, .inl zi)), (p_wa, .inl (cI, 4, .inl zi))]) [2, 3, 4, 5, 6, 7] (by decide) rfl
  have hKc := hK.sub (tys' := [(cI, .int), (cZ, .boolean)]) [0, 1] rfl
  have hFc := va_free (wc := [(pa, .inr (3, [.ref p_v, .int 0, .ref p_st, .ref p_ib, .ref p_di, .ref p_wa, .ref p_se, .ref p_vh, .ref p_re])), (p_v, .inl (cI, 4, .inl zi)), (p_st, .inl (cI, 4, .inl zi)), (p_ib, .inl (cZ, 4, .inl zi)), (p_di, .inl (cI, 4, .inl zi)), (p_wa, .inl (cI, 4, .inl zi))]) hD hS hA [2, 3, 4, 5, 6, 7] rfl
  refine va_calli (va_runV (As := [.int par, .int 2]) (rest := [.long ((((su * 31) + 0) * 31) + 0)]) ⟨hx, hb, hml, hown, hts⟩ (c_X1_figure l dC dI pa p_v p_st p_ib p_di p_wa p_se p_vh p_re par (2 : Int32) cI cZ _ hpa (by decide)) (cwV 2 hts gX5_mixParty_X1_figure rfl rfl rfl (by decide +kernel) ⟨Nat.le_of_ble_eq_true rfl, Nat.le_of_ble_eq_true rfl⟩) ⟨pr_blind, va_recv hKc hPc (ci := 3) (q0 := 0) rfl rfl, fun U hU hW => ⟨rfl, pr_mk hU hW hPc hKc hDc⟩⟩ rfl rfl hl.1 rfl (lv_room (Nat.le_of_ble_eq_true rfl)) dX5_mixParty_21 ⟨Nat.le_of_ble_eq_true rfl, Nat.le_of_ble_eq_true rfl⟩) hS (fun q _ h => hFc q h) hFc (fun r_10 u_9 t H1 locs ht hvm hw hB hz1 hk1 hS => ?_)
  obtain ⟨hP1, hK1, hD1⟩ := hB
  rw [ht] at hP1
  obtain ⟨hP, hD⟩ := va_join (wr := [(x, .inr (7, [.ref bx, .ref po, .ref tr, .ref pa, .ref sp])), (p_se, .inl (cI, 4, .inl zi))]) (w1 := [(pa, .inr (3, [.ref p_v, .int 0, .ref p_st, .ref p_ib, .ref p_di, .ref p_wa, .ref p_se, .ref p_vh, .ref p_re])), (p_v, .inl (cI, 4, .inl zi)), (p_st, .inl (cI, 4, .inl zi)), (p_ib, .inl (cZ, 4, .inl zi)), (p_di, .inl (cI, 4, .inl zi)), (p_wa, .inl (cI, 4, .inl zi))]) hP hD [2, 3, 4, 5, 6, 7] [0, 1] rfl rfl (by decide) (by decide) hk1 hFc hP1 hD1
  generalize H1 = H at hP hS ⊢
  have hP : va_P (dC, dI) vwCl [(x, .inr (7, [.ref bx, .ref po, .ref tr, .ref pa, .ref sp])), (p_se, .inl (cI, 4, .inl zi)), (pa, .inr (3, [.ref p_v, .int 0, .ref p_st, .ref p_ib, .ref p_di, .ref p_wa, .ref p_se, .ref p_vh, .ref p_re])), (p_v, .inl (cI, 4, .inl zi)), (p_st, .inl (cI, 4, .inl zi)), (p_ib, .inl (cZ, 4, .inl zi)), (p_di, .inl (cI, 4, .inl zi)), (p_wa, .inl (cI, 4, .inl zi))] H := hP
  have hD : va_D A [(x, .inr (7, [.ref bx, .ref po, .ref tr, .ref pa, .ref sp])), (p_se, .inl (cI, 4, .inl zi)), (pa, .inr (3, [.ref p_v, .int 0, .ref p_st, .ref p_ib, .ref p_di, .ref p_wa, .ref p_se, .ref p_vh, .ref p_re])), (p_v, .inl (cI, 4, .inl zi)), (p_st, .inl (cI, 4, .inl zi)), (p_ib, .inl (cZ, 4, .inl zi)), (p_di, .inl (cI, 4, .inl zi)), (p_wa, .inl (cI, 4, .inl zi))] := hD
  refine W.widen (k := 0) (n := 0) (Nat.le_refl _) (Nat.le_refl _) ?_
  have hw : r_10 = 0 := hw
  subst hw
  refine lv_i2l (v := 0) hx hb dX5_mixParty_24 (by decide) ?_
  have hPc := hP.sub (ws' := []) [] rfl
  have hDc := hD.sub (ws' := []) [] (by decide) rfl
  have hKc := hK.sub (tys' := []) [] rfl
  have hFc := va_free (wc := []) hD hS hA [] rfl
  refine va_calll (va_runS (As := [.long ((((su * 31) + 0) * 31) + 0), .long 0]) (rest := []) ⟨hx, hb, hml, hown, hts⟩ (c_X5_mix l dC dI ((((su * 31) + 0) * 31) + 0) (0 : Int64) _ ) (va_cwS 2 hts gX5_mixParty_X5_mix rfl rfl rfl (by decide +kernel) ⟨Nat.le_of_ble_eq_true rfl, Nat.le_of_ble_eq_true rfl⟩) ⟨pr_blind, fun U hU hW => ⟨rfl, pr_mk hU hW hPc hKc hDc⟩⟩ rfl rfl hl.1 rfl (lv_room (Nat.le_of_ble_eq_true rfl)) dX5_mixParty_25 ⟨Nat.le_of_ble_eq_true rfl, Nat.le_of_ble_eq_true rfl⟩) hS (fun q _ h => hFc q h) hFc (fun r_12 u_11 t H1 locs ht hvm hw hB hz1 hk1 hS => ?_)
  obtain ⟨hP1, hK1, hD1⟩ := hB
  rw [ht] at hP1
  obtain ⟨hP, hD⟩ := va_join (wr := [(x, .inr (7, [.ref bx, .ref po, .ref tr, .ref pa, .ref sp])), (p_se, .inl (cI, 4, .inl zi)), (pa, .inr (3, [.ref p_v, .int 0, .ref p_st, .ref p_ib, .ref p_di, .ref p_wa, .ref p_se, .ref p_vh, .ref p_re])), (p_v, .inl (cI, 4, .inl zi)), (p_st, .inl (cI, 4, .inl zi)), (p_ib, .inl (cZ, 4, .inl zi)), (p_di, .inl (cI, 4, .inl zi)), (p_wa, .inl (cI, 4, .inl zi))]) (w1 := []) hP hD [] [0, 1, 2, 3, 4, 5, 6, 7] rfl rfl (by decide) (by decide) hk1 hFc hP1 hD1
  generalize H1 = H at hP hS ⊢
  have hP : va_P (dC, dI) vwCl [(x, .inr (7, [.ref bx, .ref po, .ref tr, .ref pa, .ref sp])), (p_se, .inl (cI, 4, .inl zi)), (pa, .inr (3, [.ref p_v, .int 0, .ref p_st, .ref p_ib, .ref p_di, .ref p_wa, .ref p_se, .ref p_vh, .ref p_re])), (p_v, .inl (cI, 4, .inl zi)), (p_st, .inl (cI, 4, .inl zi)), (p_ib, .inl (cZ, 4, .inl zi)), (p_di, .inl (cI, 4, .inl zi)), (p_wa, .inl (cI, 4, .inl zi))] H := hP
  have hD : va_D A [(x, .inr (7, [.ref bx, .ref po, .ref tr, .ref pa, .ref sp])), (p_se, .inl (cI, 4, .inl zi)), (pa, .inr (3, [.ref p_v, .int 0, .ref p_st, .ref p_ib, .ref p_di, .ref p_wa, .ref p_se, .ref p_vh, .ref p_re])), (p_v, .inl (cI, 4, .inl zi)), (p_st, .inl (cI, 4, .inl zi)), (p_ib, .inl (cZ, 4, .inl zi)), (p_di, .inl (cI, 4, .inl zi)), (p_wa, .inl (cI, 4, .inl zi))] := hD
  refine W.widen (k := 0) (n := 0) (Nat.le_refl _) (Nat.le_refl _) ?_
  have hw : r_12 = ((((((su * 31) + 0) * 31) + 0) * 31) + 0) := hw
  subst hw
  refine lv_lstore (lv' := [(4, .long ((((((su * 31) + 0) * 31) + 0) * 31) + 0)), (6, .int 2), (0, .ref x), (1, .long su), (3, .int par)]) hx hb dX5_mixParty_28 hl (by decide) rfl (fun ls hl => ?_)
  refine lv_iinc (k := 1) (v := 3) (lv' := [(6, .int 3), (4, .long ((((((su * 31) + 0) * 31) + 0) * 31) + 0)), (0, .ref x), (1, .long su), (3, .int par)]) hx hb dX5_mixParty_30 hl rfl (by decide) (by decide) rfl (fun ls hl => ?_)
  refine lv_goto (tgt := 6) hx hb dX5_mixParty_33 (by decide) ?_
  refine lv_iload hx hb dX5_mixParty_6 (lv_at hl 0 rfl) ?_
  refine lv_iconst (v := 4) hx hb dX5_mixParty_8 (by decide) ?_
  refine lv_icmp_gt (tgt := 36) hx hb dX5_mixParty_9 (by decide) (fun h9 => absurd h9 (by decide)) (fun _ => ?_)
  refine lv_lload hx hb dX5_mixParty_12 (lv_at hl 1 rfl) ?_
  refine lv_aload_n hx hb dX5_mixParty_14 rfl (lv_at hl 2 rfl) ?_
  refine va_get (D := (dC, dI)) (ci := 7) (v := .ref pa) (C := RX5) (T := TX5) (N := 5) hx hb hts hinX5 hown hK hP 0 rfl rfl 3 (by decide) (hts (.fieldLink RX5 33 "BallotLoom" "parties" "LBallotLoom$Parties;") (by decide +kernel)) (fun _ h9 => h9) rfl dX5_mixParty_15 ?_
  refine lv_iload_n hx hb dX5_mixParty_18 rfl (lv_at hl 4 rfl) ?_
  refine lv_iload hx hb dX5_mixParty_19 (lv_at hl 0 rfl) ?_
  have hPc := hP.sub (ws' := [(pa, .inr (3, [.ref p_v, .int 0, .ref p_st, .ref p_ib, .ref p_di, .ref p_wa, .ref p_se, .ref p_vh, .ref p_re])), (p_v, .inl (cI, 4, .inl zi)), (p_st, .inl (cI, 4, .inl zi)), (p_ib, .inl (cZ, 4, .inl zi)), (p_di, .inl (cI, 4, .inl zi)), (p_wa, .inl (cI, 4, .inl zi))]) [2, 3, 4, 5, 6, 7] rfl
  have hDc := hD.sub (ws' := [(pa, .inr (3, [.ref p_v, .int 0, .ref p_st, .ref p_ib, .ref p_di, .ref p_wa, .ref p_se, .ref p_vh, .ref p_re])), (p_v, .inl (cI, 4, .inl zi)), (p_st, .inl (cI, 4, .inl zi)), (p_ib, .inl (cZ, 4, .inl zi)), (p_di, .inl (cI, 4, .inl zi)), (p_wa, .inl (cI, 4, .inl zi))]) [2, 3, 4, 5, 6, 7] (by decide) rfl
  have hKc := hK.sub (tys' := [(cI, .int), (cZ, .boolean)]) [0, 1] rfl
  have hFc := va_free (wc := [(pa, .inr (3, [.ref p_v, .int 0, .ref p_st, .ref p_ib, .ref p_di, .ref p_wa, .ref p_se, .ref p_vh, .ref p_re])), (p_v, .inl (cI, 4, .inl zi)), (p_st, .inl (cI, 4, .inl zi)), (p_ib, .inl (cZ, 4, .inl zi)), (p_di, .inl (cI, 4, .inl zi)), (p_wa, .inl (cI, 4, .inl zi))]) hD hS hA [2, 3, 4, 5, 6, 7] rfl
  refine va_calli (va_runV (As := [.int par, .int 3]) (rest := [.long ((((((su * 31) + 0) * 31) + 0) * 31) + 0)]) ⟨hx, hb, hml, hown, hts⟩ (c_X1_figure l dC dI pa p_v p_st p_ib p_di p_wa p_se p_vh p_re par (3 : Int32) cI cZ _ hpa (by decide)) (cwV 2 hts gX5_mixParty_X1_figure rfl rfl rfl (by decide +kernel) ⟨Nat.le_of_ble_eq_true rfl, Nat.le_of_ble_eq_true rfl⟩) ⟨pr_blind, va_recv hKc hPc (ci := 3) (q0 := 0) rfl rfl, fun U hU hW => ⟨rfl, pr_mk hU hW hPc hKc hDc⟩⟩ rfl rfl hl.1 rfl (lv_room (Nat.le_of_ble_eq_true rfl)) dX5_mixParty_21 ⟨Nat.le_of_ble_eq_true rfl, Nat.le_of_ble_eq_true rfl⟩) hS (fun q _ h => hFc q h) hFc (fun r_14 u_13 t H1 locs ht hvm hw hB hz1 hk1 hS => ?_)
  obtain ⟨hP1, hK1, hD1⟩ := hB
  rw [ht] at hP1
  obtain ⟨hP, hD⟩ := va_join (wr := [(x, .inr (7, [.ref bx, .ref po, .ref tr, .ref pa, .ref sp])), (p_se, .inl (cI, 4, .inl zi))]) (w1 := [(pa, .inr (3, [.ref p_v, .int 0, .ref p_st, .ref p_ib, .ref p_di, .ref p_wa, .ref p_se, .ref p_vh, .ref p_re])), (p_v, .inl (cI, 4, .inl zi)), (p_st, .inl (cI, 4, .inl zi)), (p_ib, .inl (cZ, 4, .inl zi)), (p_di, .inl (cI, 4, .inl zi)), (p_wa, .inl (cI, 4, .inl zi))]) hP hD [2, 3, 4, 5, 6, 7] [0, 1] rfl rfl (by decide) (by decide) hk1 hFc hP1 hD1
  generalize H1 = H at hP hS ⊢
  have hP : va_P (dC, dI) vwCl [(x, .inr (7, [.ref bx, .ref po, .ref tr, .ref pa, .ref sp])), (p_se, .inl (cI, 4, .inl zi)), (pa, .inr (3, [.ref p_v, .int 0, .ref p_st, .ref p_ib, .ref p_di, .ref p_wa, .ref p_se, .ref p_vh, .ref p_re])), (p_v, .inl (cI, 4, .inl zi)), (p_st, .inl (cI, 4, .inl zi)), (p_ib, .inl (cZ, 4, .inl zi)), (p_di, .inl (cI, 4, .inl zi)), (p_wa, .inl (cI, 4, .inl zi))] H := hP
  have hD : va_D A [(x, .inr (7, [.ref bx, .ref po, .ref tr, .ref pa, .ref sp])), (p_se, .inl (cI, 4, .inl zi)), (pa, .inr (3, [.ref p_v, .int 0, .ref p_st, .ref p_ib, .ref p_di, .ref p_wa, .ref p_se, .ref p_vh, .ref p_re])), (p_v, .inl (cI, 4, .inl zi)), (p_st, .inl (cI, 4, .inl zi)), (p_ib, .inl (cZ, 4, .inl zi)), (p_di, .inl (cI, 4, .inl zi)), (p_wa, .inl (cI, 4, .inl zi))] := hD
  refine W.widen (k := 0) (n := 0) (Nat.le_refl _) (Nat.le_refl _) ?_
  have hw : r_14 = 0 := hw
  subst hw
  refine lv_i2l (v := 0) hx hb dX5_mixParty_24 (by decide) ?_
  have hPc := hP.sub (ws' := []) [] rfl
  have hDc := hD.sub (ws' := []) [] (by decide) rfl
  have hKc := hK.sub (tys' := []) [] rfl
  have hFc := va_free (wc := []) hD hS hA [] rfl
  refine va_calll (va_runS (As := [.long ((((((su * 31) + 0) * 31) + 0) * 31) + 0), .long 0]) (rest := []) ⟨hx, hb, hml, hown, hts⟩ (c_X5_mix l dC dI ((((((su * 31) + 0) * 31) + 0) * 31) + 0) (0 : Int64) _ ) (va_cwS 2 hts gX5_mixParty_X5_mix rfl rfl rfl (by decide +kernel) ⟨Nat.le_of_ble_eq_true rfl, Nat.le_of_ble_eq_true rfl⟩) ⟨pr_blind, fun U hU hW => ⟨rfl, pr_mk hU hW hPc hKc hDc⟩⟩ rfl rfl hl.1 rfl (lv_room (Nat.le_of_ble_eq_true rfl)) dX5_mixParty_25 ⟨Nat.le_of_ble_eq_true rfl, Nat.le_of_ble_eq_true rfl⟩) hS (fun q _ h => hFc q h) hFc (fun r_16 u_15 t H1 locs ht hvm hw hB hz1 hk1 hS => ?_)
  obtain ⟨hP1, hK1, hD1⟩ := hB
  rw [ht] at hP1
  obtain ⟨hP, hD⟩ := va_join (wr := [(x, .inr (7, [.ref bx, .ref po, .ref tr, .ref pa, .ref sp])), (p_se, .inl (cI, 4, .inl zi)), (pa, .inr (3, [.ref p_v, .int 0, .ref p_st, .ref p_ib, .ref p_di, .ref p_wa, .ref p_se, .ref p_vh, .ref p_re])), (p_v, .inl (cI, 4, .inl zi)), (p_st, .inl (cI, 4, .inl zi)), (p_ib, .inl (cZ, 4, .inl zi)), (p_di, .inl (cI, 4, .inl zi)), (p_wa, .inl (cI, 4, .inl zi))]) (w1 := []) hP hD [] [0, 1, 2, 3, 4, 5, 6, 7] rfl rfl (by decide) (by decide) hk1 hFc hP1 hD1
  generalize H1 = H at hP hS ⊢
  have hP : va_P (dC, dI) vwCl [(x, .inr (7, [.ref bx, .ref po, .ref tr, .ref pa, .ref sp])), (p_se, .inl (cI, 4, .inl zi)), (pa, .inr (3, [.ref p_v, .int 0, .ref p_st, .ref p_ib, .ref p_di, .ref p_wa, .ref p_se, .ref p_vh, .ref p_re])), (p_v, .inl (cI, 4, .inl zi)), (p_st, .inl (cI, 4, .inl zi)), (p_ib, .inl (cZ, 4, .inl zi)), (p_di, .inl (cI, 4, .inl zi)), (p_wa, .inl (cI, 4, .inl zi))] H := hP
  have hD : va_D A [(x, .inr (7, [.ref bx, .ref po, .ref tr, .ref pa, .ref sp])), (p_se, .inl (cI, 4, .inl zi)), (pa, .inr (3, [.ref p_v, .int 0, .ref p_st, .ref p_ib, .ref p_di, .ref p_wa, .ref p_se, .ref p_vh, .ref p_re])), (p_v, .inl (cI, 4, .inl zi)), (p_st, .inl (cI, 4, .inl zi)), (p_ib, .inl (cZ, 4, .inl zi)), (p_di, .inl (cI, 4, .inl zi)), (p_wa, .inl (cI, 4, .inl zi))] := hD
  refine W.widen (k := 0) (n := 0) (Nat.le_refl _) (Nat.le_refl _) ?_
  have hw : r_16 = ((((((((su * 31) + 0) * 31) + 0) * 31) + 0) * 31) + 0) := hw
  subst hw
  refine lv_lstore (lv' := [(4, .long ((((((((su * 31) + 0) * 31) + 0) * 31) + 0) * 31) + 0)), (6, .int 3), (0, .ref x), (1, .long su), (3, .int par)]) hx hb dX5_mixParty_28 hl (by decide) rfl (fun ls hl => ?_)
  refine lv_iinc (k := 1) (v := 4) (lv' := [(6, .int 4), (4, .long ((((((((su * 31) + 0) * 31) + 0) * 31) + 0) * 31) + 0)), (0, .ref x), (1, .long su), (3, .int par)]) hx hb dX5_mixParty_30 hl rfl (by decide) (by decide) rfl (fun ls hl => ?_)
  refine lv_goto (tgt := 6) hx hb dX5_mixParty_33 (by decide) ?_
  refine lv_iload hx hb dX5_mixParty_6 (lv_at hl 0 rfl) ?_
  refine lv_iconst (v := 4) hx hb dX5_mixParty_8 (by decide) ?_
  refine lv_icmp_gt (tgt := 36) hx hb dX5_mixParty_9 (by decide) (fun h9 => absurd h9 (by decide)) (fun _ => ?_)
  refine lv_lload hx hb dX5_mixParty_12 (lv_at hl 1 rfl) ?_
  refine lv_aload_n hx hb dX5_mixParty_14 rfl (lv_at hl 2 rfl) ?_
  refine va_get (D := (dC, dI)) (ci := 7) (v := .ref pa) (C := RX5) (T := TX5) (N := 5) hx hb hts hinX5 hown hK hP 0 rfl rfl 3 (by decide) (hts (.fieldLink RX5 33 "BallotLoom" "parties" "LBallotLoom$Parties;") (by decide +kernel)) (fun _ h9 => h9) rfl dX5_mixParty_15 ?_
  refine lv_iload_n hx hb dX5_mixParty_18 rfl (lv_at hl 4 rfl) ?_
  refine lv_iload hx hb dX5_mixParty_19 (lv_at hl 0 rfl) ?_
  have hPc := hP.sub (ws' := [(pa, .inr (3, [.ref p_v, .int 0, .ref p_st, .ref p_ib, .ref p_di, .ref p_wa, .ref p_se, .ref p_vh, .ref p_re])), (p_v, .inl (cI, 4, .inl zi)), (p_st, .inl (cI, 4, .inl zi)), (p_ib, .inl (cZ, 4, .inl zi)), (p_di, .inl (cI, 4, .inl zi)), (p_wa, .inl (cI, 4, .inl zi))]) [2, 3, 4, 5, 6, 7] rfl
  have hDc := hD.sub (ws' := [(pa, .inr (3, [.ref p_v, .int 0, .ref p_st, .ref p_ib, .ref p_di, .ref p_wa, .ref p_se, .ref p_vh, .ref p_re])), (p_v, .inl (cI, 4, .inl zi)), (p_st, .inl (cI, 4, .inl zi)), (p_ib, .inl (cZ, 4, .inl zi)), (p_di, .inl (cI, 4, .inl zi)), (p_wa, .inl (cI, 4, .inl zi))]) [2, 3, 4, 5, 6, 7] (by decide) rfl
  have hKc := hK.sub (tys' := [(cI, .int), (cZ, .boolean)]) [0, 1] rfl
  have hFc := va_free (wc := [(pa, .inr (3, [.ref p_v, .int 0, .ref p_st, .ref p_ib, .ref p_di, .ref p_wa, .ref p_se, .ref p_vh, .ref p_re])), (p_v, .inl (cI, 4, .inl zi)), (p_st, .inl (cI, 4, .inl zi)), (p_ib, .inl (cZ, 4, .inl zi)), (p_di, .inl (cI, 4, .inl zi)), (p_wa, .inl (cI, 4, .inl zi))]) hD hS hA [2, 3, 4, 5, 6, 7] rfl
  refine va_calli (va_runV (As := [.int par, .int 4]) (rest := [.long ((((((((su * 31) + 0) * 31) + 0) * 31) + 0) * 31) + 0)]) ⟨hx, hb, hml, hown, hts⟩ (c_X1_figure l dC dI pa p_v p_st p_ib p_di p_wa p_se p_vh p_re par (4 : Int32) cI cZ _ hpa (by decide)) (cwV 2 hts gX5_mixParty_X1_figure rfl rfl rfl (by decide +kernel) ⟨Nat.le_of_ble_eq_true rfl, Nat.le_of_ble_eq_true rfl⟩) ⟨pr_blind, va_recv hKc hPc (ci := 3) (q0 := 0) rfl rfl, fun U hU hW => ⟨rfl, pr_mk hU hW hPc hKc hDc⟩⟩ rfl rfl hl.1 rfl (lv_room (Nat.le_of_ble_eq_true rfl)) dX5_mixParty_21 ⟨Nat.le_of_ble_eq_true rfl, Nat.le_of_ble_eq_true rfl⟩) hS (fun q _ h => hFc q h) hFc (fun r_18 u_17 t H1 locs ht hvm hw hB hz1 hk1 hS => ?_)
  obtain ⟨hP1, hK1, hD1⟩ := hB
  rw [ht] at hP1
  obtain ⟨hP, hD⟩ := va_join (wr := [(x, .inr (7, [.ref bx, .ref po, .ref tr, .ref pa, .ref sp])), (p_se, .inl (cI, 4, .inl zi))]) (w1 := [(pa, .inr (3, [.ref p_v, .int 0, .ref p_st, .ref p_ib, .ref p_di, .ref p_wa, .ref p_se, .ref p_vh, .ref p_re])), (p_v, .inl (cI, 4, .inl zi)), (p_st, .inl (cI, 4, .inl zi)), (p_ib, .inl (cZ, 4, .inl zi)), (p_di, .inl (cI, 4, .inl zi)), (p_wa, .inl (cI, 4, .inl zi))]) hP hD [2, 3, 4, 5, 6, 7] [0, 1] rfl rfl (by decide) (by decide) hk1 hFc hP1 hD1
  generalize H1 = H at hP hS ⊢
  have hP : va_P (dC, dI) vwCl [(x, .inr (7, [.ref bx, .ref po, .ref tr, .ref pa, .ref sp])), (p_se, .inl (cI, 4, .inl zi)), (pa, .inr (3, [.ref p_v, .int 0, .ref p_st, .ref p_ib, .ref p_di, .ref p_wa, .ref p_se, .ref p_vh, .ref p_re])), (p_v, .inl (cI, 4, .inl zi)), (p_st, .inl (cI, 4, .inl zi)), (p_ib, .inl (cZ, 4, .inl zi)), (p_di, .inl (cI, 4, .inl zi)), (p_wa, .inl (cI, 4, .inl zi))] H := hP
  have hD : va_D A [(x, .inr (7, [.ref bx, .ref po, .ref tr, .ref pa, .ref sp])), (p_se, .inl (cI, 4, .inl zi)), (pa, .inr (3, [.ref p_v, .int 0, .ref p_st, .ref p_ib, .ref p_di, .ref p_wa, .ref p_se, .ref p_vh, .ref p_re])), (p_v, .inl (cI, 4, .inl zi)), (p_st, .inl (cI, 4, .inl zi)), (p_ib, .inl (cZ, 4, .inl zi)), (p_di, .inl (cI, 4, .inl zi)), (p_wa, .inl (cI, 4, .inl zi))] := hD
  refine W.widen (k := 0) (n := 0) (Nat.le_refl _) (Nat.le_refl _) ?_
  have hw : r_18 = 0 := hw
  subst hw
  refine lv_i2l (v := 0) hx hb dX5_mixParty_24 (by decide) ?_
  have hPc := hP.sub (ws' := []) [] rfl
  have hDc := hD.sub (ws' := []) [] (by decide) rfl
  have hKc := hK.sub (tys' := []) [] rfl
  have hFc := va_free (wc := []) hD hS hA [] rfl
  refine va_calll (va_runS (As := [.long ((((((((su * 31) + 0) * 31) + 0) * 31) + 0) * 31) + 0), .long 0]) (rest := []) ⟨hx, hb, hml, hown, hts⟩ (c_X5_mix l dC dI ((((((((su * 31) + 0) * 31) + 0) * 31) + 0) * 31) + 0) (0 : Int64) _ ) (va_cwS 2 hts gX5_mixParty_X5_mix rfl rfl rfl (by decide +kernel) ⟨Nat.le_of_ble_eq_true rfl, Nat.le_of_ble_eq_true rfl⟩) ⟨pr_blind, fun U hU hW => ⟨rfl, pr_mk hU hW hPc hKc hDc⟩⟩ rfl rfl hl.1 rfl (lv_room (Nat.le_of_ble_eq_true rfl)) dX5_mixParty_25 ⟨Nat.le_of_ble_eq_true rfl, Nat.le_of_ble_eq_true rfl⟩) hS (fun q _ h => hFc q h) hFc (fun r_20 u_19 t H1 locs ht hvm hw hB hz1 hk1 hS => ?_)
  obtain ⟨hP1, hK1, hD1⟩ := hB
  rw [ht] at hP1
  obtain ⟨hP, hD⟩ := va_join (wr := [(x, .inr (7, [.ref bx, .ref po, .ref tr, .ref pa, .ref sp])), (p_se, .inl (cI, 4, .inl zi)), (pa, .inr (3, [.ref p_v, .int 0, .ref p_st, .ref p_ib, .ref p_di, .ref p_wa, .ref p_se, .ref p_vh, .ref p_re])), (p_v, .inl (cI, 4, .inl zi)), (p_st, .inl (cI, 4, .inl zi)), (p_ib, .inl (cZ, 4, .inl zi)), (p_di, .inl (cI, 4, .inl zi)), (p_wa, .inl (cI, 4, .inl zi))]) (w1 := []) hP hD [] [0, 1, 2, 3, 4, 5, 6, 7] rfl rfl (by decide) (by decide) hk1 hFc hP1 hD1
  generalize H1 = H at hP hS ⊢
  have hP : va_P (dC, dI) vwCl [(x, .inr (7, [.ref bx, .ref po, .ref tr, .ref pa, .ref sp])), (p_se, .inl (cI, 4, .inl zi)), (pa, .inr (3, [.ref p_v, .int 0, .ref p_st, .ref p_ib, .ref p_di, .ref p_wa, .ref p_se, .ref p_vh, .ref p_re])), (p_v, .inl (cI, 4, .inl zi)), (p_st, .inl (cI, 4, .inl zi)), (p_ib, .inl (cZ, 4, .inl zi)), (p_di, .inl (cI, 4, .inl zi)), (p_wa, .inl (cI, 4, .inl zi))] H := hP
  have hD : va_D A [(x, .inr (7, [.ref bx, .ref po, .ref tr, .ref pa, .ref sp])), (p_se, .inl (cI, 4, .inl zi)), (pa, .inr (3, [.ref p_v, .int 0, .ref p_st, .ref p_ib, .ref p_di, .ref p_wa, .ref p_se, .ref p_vh, .ref p_re])), (p_v, .inl (cI, 4, .inl zi)), (p_st, .inl (cI, 4, .inl zi)), (p_ib, .inl (cZ, 4, .inl zi)), (p_di, .inl (cI, 4, .inl zi)), (p_wa, .inl (cI, 4, .inl zi))] := hD
  refine W.widen (k := 0) (n := 0) (Nat.le_refl _) (Nat.le_refl _) ?_
  have hw : r_20 = ((((((((((su * 31) + 0) * 31) + 0) * 31) + 0) * 31) + 0) * 31) + 0) := hw
  subst hw
  refine lv_lstore (lv' := [(4, .long ((((((((((su * 31) + 0) * 31) + 0) * 31) + 0) * 31) + 0) * 31) + 0)), (6, .int 4), (0, .ref x), (1, .long su), (3, .int par)]) hx hb dX5_mixParty_28 hl (by decide) rfl (fun ls hl => ?_)
  refine lv_iinc (k := 1) (v := 5) (lv' := [(6, .int 5), (4, .long ((((((((((su * 31) + 0) * 31) + 0) * 31) + 0) * 31) + 0) * 31) + 0)), (0, .ref x), (1, .long su), (3, .int par)]) hx hb dX5_mixParty_30 hl rfl (by decide) (by decide) rfl (fun ls hl => ?_)
  refine lv_goto (tgt := 6) hx hb dX5_mixParty_33 (by decide) ?_
  refine lv_iload hx hb dX5_mixParty_6 (lv_at hl 0 rfl) ?_
  refine lv_iconst (v := 4) hx hb dX5_mixParty_8 (by decide) ?_
  refine lv_icmp_gt (tgt := 36) hx hb dX5_mixParty_9 (by decide) (fun _ => ?_) (fun h9 => absurd h9 (by decide))
  refine lv_iconst (v := 0) hx hb dX5_mixParty_36 (by decide) ?_
  refine lv_istore (lv' := [(6, .int 0), (4, .long ((((((((((su * 31) + 0) * 31) + 0) * 31) + 0) * 31) + 0) * 31) + 0)), (0, .ref x), (1, .long su), (3, .int par)]) hx hb dX5_mixParty_37 hl (by decide) rfl (fun ls hl => ?_)
  refine lv_iload hx hb dX5_mixParty_39 (lv_at hl 0 rfl) ?_
  refine lv_iconst (v := 2) hx hb dX5_mixParty_41 (by decide) ?_
  refine lv_icmp_gt (tgt := 97) hx hb dX5_mixParty_42 (by decide) (fun h9 => absurd h9 (by decide)) (fun _ => ?_)
  refine lv_aload_n hx hb dX5_mixParty_45 rfl (lv_at hl 2 rfl) ?_
  refine va_get (D := (dC, dI)) (ci := 7) (v := .ref pa) (C := RX5) (T := TX5) (N := 5) hx hb hts hinX5 hown hK hP 0 rfl rfl 3 (by decide) (hts (.fieldLink RX5 33 "BallotLoom" "parties" "LBallotLoom$Parties;") (by decide +kernel)) (fun _ h9 => h9) rfl dX5_mixParty_46 ?_
  refine lv_bipush (v := 20) hx hb dX5_mixParty_49 (by decide) ?_
  refine lv_iload hx hb dX5_mixParty_51 (lv_at hl 0 rfl) ?_
  have hPc := hP.sub (ws' := [(pa, .inr (3, [.ref p_v, .int 0, .ref p_st, .ref p_ib, .ref p_di, .ref p_wa, .ref p_se, .ref p_vh, .ref p_re])), (p_v, .inl (cI, 4, .inl zi)), (p_ib, .inl (cZ, 4, .inl zi)), (p_se, .inl (cI, 4, .inl zi))]) [2, 3, 5, 1] rfl
  have hDc := hD.sub (ws' := [(pa, .inr (3, [.ref p_v, .int 0, .ref p_st, .ref p_ib, .ref p_di, .ref p_wa, .ref p_se, .ref p_vh, .ref p_re])), (p_v, .inl (cI, 4, .inl zi)), (p_ib, .inl (cZ, 4, .inl zi)), (p_se, .inl (cI, 4, .inl zi))]) [2, 3, 5, 1] (by decide) rfl
  have hKc := hK.sub (tys' := [(cI, .int), (cZ, .boolean)]) [0, 1] rfl
  have hFc := va_free (wc := [(pa, .inr (3, [.ref p_v, .int 0, .ref p_st, .ref p_ib, .ref p_di, .ref p_wa, .ref p_se, .ref p_vh, .ref p_re])), (p_v, .inl (cI, 4, .inl zi)), (p_ib, .inl (cZ, 4, .inl zi)), (p_se, .inl (cI, 4, .inl zi))]) hD hS hA [2, 3, 5, 1] rfl
  refine va_callv (va_runV (As := [.int 20, .int 0]) (rest := []) ⟨hx, hb, hml, hown, hts⟩ (c_X1_shareSeats l dC dI pa p_v p_st p_ib p_di p_wa p_se p_vh p_re (20 : Int32) (0 : Int32) cI cZ _ (by decide)) (cwV 2 hts gX5_mixParty_X1_shareSeats rfl rfl rfl (by decide +kernel) ⟨Nat.le_of_ble_eq_true rfl, Nat.le_of_ble_eq_true rfl⟩) ⟨pr_blind, va_recv hKc hPc (ci := 3) (q0 := 0) rfl rfl, fun U hU hW => ⟨rfl, pr_mk hU hW hPc hKc hDc⟩⟩ rfl rfl hl.1 rfl (lv_room (Nat.le_of_ble_eq_true rfl)) dX5_mixParty_53 ⟨Nat.le_of_ble_eq_true rfl, Nat.le_of_ble_eq_true rfl⟩) hS (fun q _ h => hFc q h) hFc (fun u_21 t H1 locs ht hvm hw hB hz1 hk1 hS => ?_)
  obtain ⟨hP1, hK1, hD1⟩ := hB
  rw [ht] at hP1
  obtain ⟨hP, hD⟩ := va_join (wr := [(x, .inr (7, [.ref bx, .ref po, .ref tr, .ref pa, .ref sp])), (p_st, .inl (cI, 4, .inl zi)), (p_di, .inl (cI, 4, .inl zi)), (p_wa, .inl (cI, 4, .inl zi))]) (w1 := [(pa, .inr (3, [.ref p_v, .int 0, .ref p_st, .ref p_ib, .ref p_di, .ref p_wa, .ref p_se, .ref p_vh, .ref p_re])), (p_v, .inl (cI, 4, .inl zi)), (p_ib, .inl (cZ, 4, .inl zi)), (p_se, .inl (cI, 4, .inl zi))]) hP hD [2, 3, 5, 1] [0, 4, 6, 7] rfl rfl (by decide) (by decide) hk1 hFc hP1 hD1
  generalize H1 = H at hP hS ⊢
  have hP : va_P (dC, dI) vwCl [(x, .inr (7, [.ref bx, .ref po, .ref tr, .ref pa, .ref sp])), (p_st, .inl (cI, 4, .inl zi)), (p_di, .inl (cI, 4, .inl zi)), (p_wa, .inl (cI, 4, .inl zi)), (pa, .inr (3, [.ref p_v, .int 0, .ref p_st, .ref p_ib, .ref p_di, .ref p_wa, .ref p_se, .ref p_vh, .ref p_re])), (p_v, .inl (cI, 4, .inl zi)), (p_ib, .inl (cZ, 4, .inl zi)), (p_se, .inl (cI, 4, .inl zi))] H := hP
  have hD : va_D A [(x, .inr (7, [.ref bx, .ref po, .ref tr, .ref pa, .ref sp])), (p_st, .inl (cI, 4, .inl zi)), (p_di, .inl (cI, 4, .inl zi)), (p_wa, .inl (cI, 4, .inl zi)), (pa, .inr (3, [.ref p_v, .int 0, .ref p_st, .ref p_ib, .ref p_di, .ref p_wa, .ref p_se, .ref p_vh, .ref p_re])), (p_v, .inl (cI, 4, .inl zi)), (p_ib, .inl (cZ, 4, .inl zi)), (p_se, .inl (cI, 4, .inl zi))] := hD
  refine W.widen (k := 0) (n := 0) (Nat.le_refl _) (Nat.le_refl _) ?_
  refine lv_lload hx hb dX5_mixParty_56 (lv_at hl 1 rfl) ?_
  refine lv_aload_n hx hb dX5_mixParty_58 rfl (lv_at hl 2 rfl) ?_
  refine va_get (D := (dC, dI)) (ci := 7) (v := .ref pa) (C := RX5) (T := TX5) (N := 5) hx hb hts hinX5 hown hK hP 0 rfl rfl 3 (by decide) (hts (.fieldLink RX5 33 "BallotLoom" "parties" "LBallotLoom$Parties;") (by decide +kernel)) (fun _ h9 => h9) rfl dX5_mixParty_59 ?_
  have hinX1 : ∀ w ∈ u_ws RX1 TX1 9, w ∈ wsX5_mixParty := by decide +kernel
  refine va_get (D := (dC, dI)) (ci := 3) (v := .ref p_se) (C := RX1) (T := TX1) (N := 9) hx hb hts hinX1 hown hK hP 4 rfl rfl 6 (by decide) (hts (.fieldLink RX5 229 "BallotLoom$Parties" "seats" "[I") (by decide +kernel)) (fun _ h9 => h9) rfl dX5_mixParty_62 ?_
  refine lv_iload_n hx hb dX5_mixParty_65 rfl (lv_at hl 4 rfl) ?_
  refine va_iald hx hb hK hP 7 0 rfl rfl hpa dX5_mixParty_66 ?_
  refine lv_topi (fun y_23 ey_23 => ?_)
  obtain rfl : y_23 = 0 := ey_23.trans (by rfl)
  refine lv_i2l (v := 0) hx hb dX5_mixParty_67 (by decide) ?_
  have hPc := hP.sub (ws' := []) [] rfl
  have hDc := hD.sub (ws' := []) [] (by decide) rfl
  have hKc := hK.sub (tys' := []) [] rfl
  have hFc := va_free (wc := []) hD hS hA [] rfl
  refine va_calll (va_runS (As := [.long ((((((((((su * 31) + 0) * 31) + 0) * 31) + 0) * 31) + 0) * 31) + 0), .long 0]) (rest := []) ⟨hx, hb, hml, hown, hts⟩ (c_X5_mix l dC dI ((((((((((su * 31) + 0) * 31) + 0) * 31) + 0) * 31) + 0) * 31) + 0) (0 : Int64) _ ) (va_cwS 2 hts gX5_mixParty_X5_mix rfl rfl rfl (by decide +kernel) ⟨Nat.le_of_ble_eq_true rfl, Nat.le_of_ble_eq_true rfl⟩) ⟨pr_blind, fun U hU hW => ⟨rfl, pr_mk hU hW hPc hKc hDc⟩⟩ rfl rfl hl.1 rfl (lv_room (Nat.le_of_ble_eq_true rfl)) dX5_mixParty_68 ⟨Nat.le_of_ble_eq_true rfl, Nat.le_of_ble_eq_true rfl⟩) hS (fun q _ h => hFc q h) hFc (fun r_25 u_24 t H1 locs ht hvm hw hB hz1 hk1 hS => ?_)
  obtain ⟨hP1, hK1, hD1⟩ := hB
  rw [ht] at hP1
  obtain ⟨hP, hD⟩ := va_join (wr := [(x, .inr (7, [.ref bx, .ref po, .ref tr, .ref pa, .ref sp])), (p_st, .inl (cI, 4, .inl zi)), (p_di, .inl (cI, 4, .inl zi)), (p_wa, .inl (cI, 4, .inl zi)), (pa, .inr (3, [.ref p_v, .int 0, .ref p_st, .ref p_ib, .ref p_di, .ref p_wa, .ref p_se, .ref p_vh, .ref p_re])), (p_v, .inl (cI, 4, .inl zi)), (p_ib, .inl (cZ, 4, .inl zi)), (p_se, .inl (cI, 4, .inl zi))]) (w1 := []) hP hD [] [0, 1, 2, 3, 4, 5, 6, 7] rfl rfl (by decide) (by decide) hk1 hFc hP1 hD1
  generalize H1 = H at hP hS ⊢
  have hP : va_P (dC, dI) vwCl [(x, .inr (7, [.ref bx, .ref po, .ref tr, .ref pa, .ref sp])), (p_st, .inl (cI, 4, .inl zi)), (p_di, .inl (cI, 4, .inl zi)), (p_wa, .inl (cI, 4, .inl zi)), (pa, .inr (3, [.ref p_v, .int 0, .ref p_st, .ref p_ib, .ref p_di, .ref p_wa, .ref p_se, .ref p_vh, .ref p_re])), (p_v, .inl (cI, 4, .inl zi)), (p_ib, .inl (cZ, 4, .inl zi)), (p_se, .inl (cI, 4, .inl zi))] H := hP
  have hD : va_D A [(x, .inr (7, [.ref bx, .ref po, .ref tr, .ref pa, .ref sp])), (p_st, .inl (cI, 4, .inl zi)), (p_di, .inl (cI, 4, .inl zi)), (p_wa, .inl (cI, 4, .inl zi)), (pa, .inr (3, [.ref p_v, .int 0, .ref p_st, .ref p_ib, .ref p_di, .ref p_wa, .ref p_se, .ref p_vh, .ref p_re])), (p_v, .inl (cI, 4, .inl zi)), (p_ib, .inl (cZ, 4, .inl zi)), (p_se, .inl (cI, 4, .inl zi))] := hD
  refine W.widen (k := 0) (n := 0) (Nat.le_refl _) (Nat.le_refl _) ?_
  have hw : r_25 = ((((((((((((su * 31) + 0) * 31) + 0) * 31) + 0) * 31) + 0) * 31) + 0) * 31) + 0) := hw
  subst hw
  refine lv_lstore (lv' := [(4, .long ((((((((((((su * 31) + 0) * 31) + 0) * 31) + 0) * 31) + 0) * 31) + 0) * 31) + 0)), (6, .int 0), (0, .ref x), (1, .long su), (3, .int par)]) hx hb dX5_mixParty_71 hl (by decide) rfl (fun ls hl => ?_)
  refine lv_lload hx hb dX5_mixParty_73 (lv_at hl 0 rfl) ?_
  refine lv_aload_n hx hb dX5_mixParty_75 rfl (lv_at hl 2 rfl) ?_
  refine va_get (D := (dC, dI)) (ci := 7) (v := .ref pa) (C := RX5) (T := TX5) (N := 5) hx hb hts hinX5 hown hK hP 0 rfl rfl 3 (by decide) (hts (.fieldLink RX5 33 "BallotLoom" "parties" "LBallotLoom$Parties;") (by decide +kernel)) (fun _ h9 => h9) rfl dX5_mixParty_76 ?_
  refine lv_iload_n hx hb dX5_mixParty_79 rfl (lv_at hl 4 rfl) ?_
  refine lv_bipush (v := 20) hx hb dX5_mixParty_80 (by decide) ?_
  have hPc := hP.sub (ws' := [(pa, .inr (3, [.ref p_v, .int 0, .ref p_st, .ref p_ib, .ref p_di, .ref p_wa, .ref p_se, .ref p_vh, .ref p_re])), (p_se, .inl (cI, 4, .inl zi))]) [4, 7] rfl
  have hDc := hD.sub (ws' := [(pa, .inr (3, [.ref p_v, .int 0, .ref p_st, .ref p_ib, .ref p_di, .ref p_wa, .ref p_se, .ref p_vh, .ref p_re])), (p_se, .inl (cI, 4, .inl zi))]) [4, 7] (by decide) rfl
  have hKc := hK.sub (tys' := [(cI, .int)]) [0] rfl
  have hFc := va_free (wc := [(pa, .inr (3, [.ref p_v, .int 0, .ref p_st, .ref p_ib, .ref p_di, .ref p_wa, .ref p_se, .ref p_vh, .ref p_re])), (p_se, .inl (cI, 4, .inl zi))]) hD hS hA [4, 7] rfl
  refine va_calli (va_runV (As := [.int par, .int 20]) (rest := [.long ((((((((((((su * 31) + 0) * 31) + 0) * 31) + 0) * 31) + 0) * 31) + 0) * 31) + 0)]) ⟨hx, hb, hml, hown, hts⟩ (c_X1_swingsOf l dC dI pa p_v p_st p_ib p_di p_wa p_se p_vh p_re par (20 : Int32) cI _ (by decide)) (cwV 2 hts gX5_mixParty_X1_swingsOf rfl rfl rfl (by decide +kernel) ⟨Nat.le_of_ble_eq_true rfl, Nat.le_of_ble_eq_true rfl⟩) ⟨pr_blind, va_recv hKc hPc (ci := 3) (q0 := 0) rfl rfl, fun U hU hW => ⟨rfl, pr_mk hU hW hPc hKc hDc⟩⟩ rfl rfl hl.1 rfl (lv_room (Nat.le_of_ble_eq_true rfl)) dX5_mixParty_82 ⟨Nat.le_of_ble_eq_true rfl, Nat.le_of_ble_eq_true rfl⟩) hS (fun q _ h => hFc q h) hFc (fun r_27 u_26 t H1 locs ht hvm hw hB hz1 hk1 hS => ?_)
  obtain ⟨hP1, hK1, hD1⟩ := hB
  rw [ht] at hP1
  obtain ⟨hP, hD⟩ := va_join (wr := [(x, .inr (7, [.ref bx, .ref po, .ref tr, .ref pa, .ref sp])), (p_st, .inl (cI, 4, .inl zi)), (p_di, .inl (cI, 4, .inl zi)), (p_wa, .inl (cI, 4, .inl zi)), (p_v, .inl (cI, 4, .inl zi)), (p_ib, .inl (cZ, 4, .inl zi))]) (w1 := [(pa, .inr (3, [.ref p_v, .int 0, .ref p_st, .ref p_ib, .ref p_di, .ref p_wa, .ref p_se, .ref p_vh, .ref p_re])), (p_se, .inl (cI, 4, .inl zi))]) hP hD [4, 7] [0, 1, 2, 3, 5, 6] rfl rfl (by decide) (by decide) hk1 hFc hP1 hD1
  generalize H1 = H at hP hS ⊢
  have hP : va_P (dC, dI) vwCl [(x, .inr (7, [.ref bx, .ref po, .ref tr, .ref pa, .ref sp])), (p_st, .inl (cI, 4, .inl zi)), (p_di, .inl (cI, 4, .inl zi)), (p_wa, .inl (cI, 4, .inl zi)), (p_v, .inl (cI, 4, .inl zi)), (p_ib, .inl (cZ, 4, .inl zi)), (pa, .inr (3, [.ref p_v, .int 0, .ref p_st, .ref p_ib, .ref p_di, .ref p_wa, .ref p_se, .ref p_vh, .ref p_re])), (p_se, .inl (cI, 4, .inl zi))] H := hP
  have hD : va_D A [(x, .inr (7, [.ref bx, .ref po, .ref tr, .ref pa, .ref sp])), (p_st, .inl (cI, 4, .inl zi)), (p_di, .inl (cI, 4, .inl zi)), (p_wa, .inl (cI, 4, .inl zi)), (p_v, .inl (cI, 4, .inl zi)), (p_ib, .inl (cZ, 4, .inl zi)), (pa, .inr (3, [.ref p_v, .int 0, .ref p_st, .ref p_ib, .ref p_di, .ref p_wa, .ref p_se, .ref p_vh, .ref p_re])), (p_se, .inl (cI, 4, .inl zi))] := hD
  refine W.widen (k := 0) (n := 0) (Nat.le_refl _) (Nat.le_refl _) ?_
  have hw : r_27 = 0 := hw
  subst hw
  refine lv_i2l (v := 0) hx hb dX5_mixParty_85 (by decide) ?_
  have hPc := hP.sub (ws' := []) [] rfl
  have hDc := hD.sub (ws' := []) [] (by decide) rfl
  have hKc := hK.sub (tys' := []) [] rfl
  have hFc := va_free (wc := []) hD hS hA [] rfl
  refine va_calll (va_runS (As := [.long ((((((((((((su * 31) + 0) * 31) + 0) * 31) + 0) * 31) + 0) * 31) + 0) * 31) + 0), .long 0]) (rest := []) ⟨hx, hb, hml, hown, hts⟩ (c_X5_mix l dC dI ((((((((((((su * 31) + 0) * 31) + 0) * 31) + 0) * 31) + 0) * 31) + 0) * 31) + 0) (0 : Int64) _ ) (va_cwS 2 hts gX5_mixParty_X5_mix rfl rfl rfl (by decide +kernel) ⟨Nat.le_of_ble_eq_true rfl, Nat.le_of_ble_eq_true rfl⟩) ⟨pr_blind, fun U hU hW => ⟨rfl, pr_mk hU hW hPc hKc hDc⟩⟩ rfl rfl hl.1 rfl (lv_room (Nat.le_of_ble_eq_true rfl)) dX5_mixParty_86 ⟨Nat.le_of_ble_eq_true rfl, Nat.le_of_ble_eq_true rfl⟩) hS (fun q _ h => hFc q h) hFc (fun r_29 u_28 t H1 locs ht hvm hw hB hz1 hk1 hS => ?_)
  obtain ⟨hP1, hK1, hD1⟩ := hB
  rw [ht] at hP1
  obtain ⟨hP, hD⟩ := va_join (wr := [(x, .inr (7, [.ref bx, .ref po, .ref tr, .ref pa, .ref sp])), (p_st, .inl (cI, 4, .inl zi)), (p_di, .inl (cI, 4, .inl zi)), (p_wa, .inl (cI, 4, .inl zi)), (p_v, .inl (cI, 4, .inl zi)), (p_ib, .inl (cZ, 4, .inl zi)), (pa, .inr (3, [.ref p_v, .int 0, .ref p_st, .ref p_ib, .ref p_di, .ref p_wa, .ref p_se, .ref p_vh, .ref p_re])), (p_se, .inl (cI, 4, .inl zi))]) (w1 := []) hP hD [] [0, 1, 2, 3, 4, 5, 6, 7] rfl rfl (by decide) (by decide) hk1 hFc hP1 hD1
  generalize H1 = H at hP hS ⊢
  have hP : va_P (dC, dI) vwCl [(x, .inr (7, [.ref bx, .ref po, .ref tr, .ref pa, .ref sp])), (p_st, .inl (cI, 4, .inl zi)), (p_di, .inl (cI, 4, .inl zi)), (p_wa, .inl (cI, 4, .inl zi)), (p_v, .inl (cI, 4, .inl zi)), (p_ib, .inl (cZ, 4, .inl zi)), (pa, .inr (3, [.ref p_v, .int 0, .ref p_st, .ref p_ib, .ref p_di, .ref p_wa, .ref p_se, .ref p_vh, .ref p_re])), (p_se, .inl (cI, 4, .inl zi))] H := hP
  have hD : va_D A [(x, .inr (7, [.ref bx, .ref po, .ref tr, .ref pa, .ref sp])), (p_st, .inl (cI, 4, .inl zi)), (p_di, .inl (cI, 4, .inl zi)), (p_wa, .inl (cI, 4, .inl zi)), (p_v, .inl (cI, 4, .inl zi)), (p_ib, .inl (cZ, 4, .inl zi)), (pa, .inr (3, [.ref p_v, .int 0, .ref p_st, .ref p_ib, .ref p_di, .ref p_wa, .ref p_se, .ref p_vh, .ref p_re])), (p_se, .inl (cI, 4, .inl zi))] := hD
  refine W.widen (k := 0) (n := 0) (Nat.le_refl _) (Nat.le_refl _) ?_
  have hw : r_29 = ((((((((((((((su * 31) + 0) * 31) + 0) * 31) + 0) * 31) + 0) * 31) + 0) * 31) + 0) * 31) + 0) := hw
  subst hw
  refine lv_lstore (lv' := [(4, .long ((((((((((((((su * 31) + 0) * 31) + 0) * 31) + 0) * 31) + 0) * 31) + 0) * 31) + 0) * 31) + 0)), (6, .int 0), (0, .ref x), (1, .long su), (3, .int par)]) hx hb dX5_mixParty_89 hl (by decide) rfl (fun ls hl => ?_)
  refine lv_iinc (k := 1) (v := 1) (lv' := [(6, .int 1), (4, .long ((((((((((((((su * 31) + 0) * 31) + 0) * 31) + 0) * 31) + 0) * 31) + 0) * 31) + 0) * 31) + 0)), (0, .ref x), (1, .long su), (3, .int par)]) hx hb dX5_mixParty_91 hl rfl (by decide) (by decide) rfl (fun ls hl => ?_)
  refine lv_goto (tgt := 39) hx hb dX5_mixParty_94 (by decide) ?_
  refine lv_iload hx hb dX5_mixParty_39 (lv_at hl 0 rfl) ?_
  refine lv_iconst (v := 2) hx hb dX5_mixParty_41 (by decide) ?_
  refine lv_icmp_gt (tgt := 97) hx hb dX5_mixParty_42 (by decide) (fun h9 => absurd h9 (by decide)) (fun _ => ?_)
  refine lv_aload_n hx hb dX5_mixParty_45 rfl (lv_at hl 2 rfl) ?_
  refine va_get (D := (dC, dI)) (ci := 7) (v := .ref pa) (C := RX5) (T := TX5) (N := 5) hx hb hts hinX5 hown hK hP 0 rfl rfl 3 (by decide) (hts (.fieldLink RX5 33 "BallotLoom" "parties" "LBallotLoom$Parties;") (by decide +kernel)) (fun _ h9 => h9) rfl dX5_mixParty_46 ?_
  refine lv_bipush (v := 20) hx hb dX5_mixParty_49 (by decide) ?_
  refine lv_iload hx hb dX5_mixParty_51 (lv_at hl 0 rfl) ?_
  have hPc := hP.sub (ws' := [(pa, .inr (3, [.ref p_v, .int 0, .ref p_st, .ref p_ib, .ref p_di, .ref p_wa, .ref p_se, .ref p_vh, .ref p_re])), (p_v, .inl (cI, 4, .inl zi)), (p_ib, .inl (cZ, 4, .inl zi)), (p_se, .inl (cI, 4, .inl zi))]) [6, 4, 5, 7] rfl
  have hDc := hD.sub (ws' := [(pa, .inr (3, [.ref p_v, .int 0, .ref p_st, .ref p_ib, .ref p_di, .ref p_wa, .ref p_se, .ref p_vh, .ref p_re])), (p_v, .inl (cI, 4, .inl zi)), (p_ib, .inl (cZ, 4, .inl zi)), (p_se, .inl (cI, 4, .inl zi))]) [6, 4, 5, 7] (by decide) rfl
  have hKc := hK.sub (tys' := [(cI, .int), (cZ, .boolean)]) [0, 1] rfl
  have hFc := va_free (wc := [(pa, .inr (3, [.ref p_v, .int 0, .ref p_st, .ref p_ib, .ref p_di, .ref p_wa, .ref p_se, .ref p_vh, .ref p_re])), (p_v, .inl (cI, 4, .inl zi)), (p_ib, .inl (cZ, 4, .inl zi)), (p_se, .inl (cI, 4, .inl zi))]) hD hS hA [6, 4, 5, 7] rfl
  refine va_callv (va_runV (As := [.int 20, .int 1]) (rest := []) ⟨hx, hb, hml, hown, hts⟩ (c_X1_shareSeats l dC dI pa p_v p_st p_ib p_di p_wa p_se p_vh p_re (20 : Int32) (1 : Int32) cI cZ _ (by decide)) (cwV 2 hts gX5_mixParty_X1_shareSeats rfl rfl rfl (by decide +kernel) ⟨Nat.le_of_ble_eq_true rfl, Nat.le_of_ble_eq_true rfl⟩) ⟨pr_blind, va_recv hKc hPc (ci := 3) (q0 := 0) rfl rfl, fun U hU hW => ⟨rfl, pr_mk hU hW hPc hKc hDc⟩⟩ rfl rfl hl.1 rfl (lv_room (Nat.le_of_ble_eq_true rfl)) dX5_mixParty_53 ⟨Nat.le_of_ble_eq_true rfl, Nat.le_of_ble_eq_true rfl⟩) hS (fun q _ h => hFc q h) hFc (fun u_30 t H1 locs ht hvm hw hB hz1 hk1 hS => ?_)
  obtain ⟨hP1, hK1, hD1⟩ := hB
  rw [ht] at hP1
  obtain ⟨hP, hD⟩ := va_join (wr := [(x, .inr (7, [.ref bx, .ref po, .ref tr, .ref pa, .ref sp])), (p_st, .inl (cI, 4, .inl zi)), (p_di, .inl (cI, 4, .inl zi)), (p_wa, .inl (cI, 4, .inl zi))]) (w1 := [(pa, .inr (3, [.ref p_v, .int 0, .ref p_st, .ref p_ib, .ref p_di, .ref p_wa, .ref p_se, .ref p_vh, .ref p_re])), (p_v, .inl (cI, 4, .inl zi)), (p_ib, .inl (cZ, 4, .inl zi)), (p_se, .inl (cI, 4, .inl zi))]) hP hD [6, 4, 5, 7] [0, 1, 2, 3] rfl rfl (by decide) (by decide) hk1 hFc hP1 hD1
  generalize H1 = H at hP hS ⊢
  have hP : va_P (dC, dI) vwCl [(x, .inr (7, [.ref bx, .ref po, .ref tr, .ref pa, .ref sp])), (p_st, .inl (cI, 4, .inl zi)), (p_di, .inl (cI, 4, .inl zi)), (p_wa, .inl (cI, 4, .inl zi)), (pa, .inr (3, [.ref p_v, .int 0, .ref p_st, .ref p_ib, .ref p_di, .ref p_wa, .ref p_se, .ref p_vh, .ref p_re])), (p_v, .inl (cI, 4, .inl zi)), (p_ib, .inl (cZ, 4, .inl zi)), (p_se, .inl (cI, 4, .inl zi))] H := hP
  have hD : va_D A [(x, .inr (7, [.ref bx, .ref po, .ref tr, .ref pa, .ref sp])), (p_st, .inl (cI, 4, .inl zi)), (p_di, .inl (cI, 4, .inl zi)), (p_wa, .inl (cI, 4, .inl zi)), (pa, .inr (3, [.ref p_v, .int 0, .ref p_st, .ref p_ib, .ref p_di, .ref p_wa, .ref p_se, .ref p_vh, .ref p_re])), (p_v, .inl (cI, 4, .inl zi)), (p_ib, .inl (cZ, 4, .inl zi)), (p_se, .inl (cI, 4, .inl zi))] := hD
  refine W.widen (k := 0) (n := 0) (Nat.le_refl _) (Nat.le_refl _) ?_
  refine lv_lload hx hb dX5_mixParty_56 (lv_at hl 1 rfl) ?_
  refine lv_aload_n hx hb dX5_mixParty_58 rfl (lv_at hl 2 rfl) ?_
  refine va_get (D := (dC, dI)) (ci := 7) (v := .ref pa) (C := RX5) (T := TX5) (N := 5) hx hb hts hinX5 hown hK hP 0 rfl rfl 3 (by decide) (hts (.fieldLink RX5 33 "BallotLoom" "parties" "LBallotLoom$Parties;") (by decide +kernel)) (fun _ h9 => h9) rfl dX5_mixParty_59 ?_
  refine va_get (D := (dC, dI)) (ci := 3) (v := .ref p_se) (C := RX1) (T := TX1) (N := 9) hx hb hts hinX1 hown hK hP 4 rfl rfl 6 (by decide) (hts (.fieldLink RX5 229 "BallotLoom$Parties" "seats" "[I") (by decide +kernel)) (fun _ h9 => h9) rfl dX5_mixParty_62 ?_
  refine lv_iload_n hx hb dX5_mixParty_65 rfl (lv_at hl 4 rfl) ?_
  refine va_iald hx hb hK hP 7 0 rfl rfl hpa dX5_mixParty_66 ?_
  refine lv_topi (fun y_32 ey_32 => ?_)
  obtain rfl : y_32 = 0 := ey_32.trans (by rfl)
  refine lv_i2l (v := 0) hx hb dX5_mixParty_67 (by decide) ?_
  have hPc := hP.sub (ws' := []) [] rfl
  have hDc := hD.sub (ws' := []) [] (by decide) rfl
  have hKc := hK.sub (tys' := []) [] rfl
  have hFc := va_free (wc := []) hD hS hA [] rfl
  refine va_calll (va_runS (As := [.long ((((((((((((((su * 31) + 0) * 31) + 0) * 31) + 0) * 31) + 0) * 31) + 0) * 31) + 0) * 31) + 0), .long 0]) (rest := []) ⟨hx, hb, hml, hown, hts⟩ (c_X5_mix l dC dI ((((((((((((((su * 31) + 0) * 31) + 0) * 31) + 0) * 31) + 0) * 31) + 0) * 31) + 0) * 31) + 0) (0 : Int64) _ ) (va_cwS 2 hts gX5_mixParty_X5_mix rfl rfl rfl (by decide +kernel) ⟨Nat.le_of_ble_eq_true rfl, Nat.le_of_ble_eq_true rfl⟩) ⟨pr_blind, fun U hU hW => ⟨rfl, pr_mk hU hW hPc hKc hDc⟩⟩ rfl rfl hl.1 rfl (lv_room (Nat.le_of_ble_eq_true rfl)) dX5_mixParty_68 ⟨Nat.le_of_ble_eq_true rfl, Nat.le_of_ble_eq_true rfl⟩) hS (fun q _ h => hFc q h) hFc (fun r_34 u_33 t H1 locs ht hvm hw hB hz1 hk1 hS => ?_)
  obtain ⟨hP1, hK1, hD1⟩ := hB
  rw [ht] at hP1
  obtain ⟨hP, hD⟩ := va_join (wr := [(x, .inr (7, [.ref bx, .ref po, .ref tr, .ref pa, .ref sp])), (p_st, .inl (cI, 4, .inl zi)), (p_di, .inl (cI, 4, .inl zi)), (p_wa, .inl (cI, 4, .inl zi)), (pa, .inr (3, [.ref p_v, .int 0, .ref p_st, .ref p_ib, .ref p_di, .ref p_wa, .ref p_se, .ref p_vh, .ref p_re])), (p_v, .inl (cI, 4, .inl zi)), (p_ib, .inl (cZ, 4, .inl zi)), (p_se, .inl (cI, 4, .inl zi))]) (w1 := []) hP hD [] [0, 1, 2, 3, 4, 5, 6, 7] rfl rfl (by decide) (by decide) hk1 hFc hP1 hD1
  generalize H1 = H at hP hS ⊢
  have hP : va_P (dC, dI) vwCl [(x, .inr (7, [.ref bx, .ref po, .ref tr, .ref pa, .ref sp])), (p_st, .inl (cI, 4, .inl zi)), (p_di, .inl (cI, 4, .inl zi)), (p_wa, .inl (cI, 4, .inl zi)), (pa, .inr (3, [.ref p_v, .int 0, .ref p_st, .ref p_ib, .ref p_di, .ref p_wa, .ref p_se, .ref p_vh, .ref p_re])), (p_v, .inl (cI, 4, .inl zi)), (p_ib, .inl (cZ, 4, .inl zi)), (p_se, .inl (cI, 4, .inl zi))] H := hP
  have hD : va_D A [(x, .inr (7, [.ref bx, .ref po, .ref tr, .ref pa, .ref sp])), (p_st, .inl (cI, 4, .inl zi)), (p_di, .inl (cI, 4, .inl zi)), (p_wa, .inl (cI, 4, .inl zi)), (pa, .inr (3, [.ref p_v, .int 0, .ref p_st, .ref p_ib, .ref p_di, .ref p_wa, .ref p_se, .ref p_vh, .ref p_re])), (p_v, .inl (cI, 4, .inl zi)), (p_ib, .inl (cZ, 4, .inl zi)), (p_se, .inl (cI, 4, .inl zi))] := hD
  refine W.widen (k := 0) (n := 0) (Nat.le_refl _) (Nat.le_refl _) ?_
  have hw : r_34 = ((((((((((((((((su * 31) + 0) * 31) + 0) * 31) + 0) * 31) + 0) * 31) + 0) * 31) + 0) * 31) + 0) * 31) + 0) := hw
  subst hw
  refine lv_lstore (lv' := [(4, .long ((((((((((((((((su * 31) + 0) * 31) + 0) * 31) + 0) * 31) + 0) * 31) + 0) * 31) + 0) * 31) + 0) * 31) + 0)), (6, .int 1), (0, .ref x), (1, .long su), (3, .int par)]) hx hb dX5_mixParty_71 hl (by decide) rfl (fun ls hl => ?_)
  refine lv_lload hx hb dX5_mixParty_73 (lv_at hl 0 rfl) ?_
  refine lv_aload_n hx hb dX5_mixParty_75 rfl (lv_at hl 2 rfl) ?_
  refine va_get (D := (dC, dI)) (ci := 7) (v := .ref pa) (C := RX5) (T := TX5) (N := 5) hx hb hts hinX5 hown hK hP 0 rfl rfl 3 (by decide) (hts (.fieldLink RX5 33 "BallotLoom" "parties" "LBallotLoom$Parties;") (by decide +kernel)) (fun _ h9 => h9) rfl dX5_mixParty_76 ?_
  refine lv_iload_n hx hb dX5_mixParty_79 rfl (lv_at hl 4 rfl) ?_
  refine lv_bipush (v := 20) hx hb dX5_mixParty_80 (by decide) ?_
  have hPc := hP.sub (ws' := [(pa, .inr (3, [.ref p_v, .int 0, .ref p_st, .ref p_ib, .ref p_di, .ref p_wa, .ref p_se, .ref p_vh, .ref p_re])), (p_se, .inl (cI, 4, .inl zi))]) [4, 7] rfl
  have hDc := hD.sub (ws' := [(pa, .inr (3, [.ref p_v, .int 0, .ref p_st, .ref p_ib, .ref p_di, .ref p_wa, .ref p_se, .ref p_vh, .ref p_re])), (p_se, .inl (cI, 4, .inl zi))]) [4, 7] (by decide) rfl
  have hKc := hK.sub (tys' := [(cI, .int)]) [0] rfl
  have hFc := va_free (wc := [(pa, .inr (3, [.ref p_v, .int 0, .ref p_st, .ref p_ib, .ref p_di, .ref p_wa, .ref p_se, .ref p_vh, .ref p_re])), (p_se, .inl (cI, 4, .inl zi))]) hD hS hA [4, 7] rfl
  refine va_calli (va_runV (As := [.int par, .int 20]) (rest := [.long ((((((((((((((((su * 31) + 0) * 31) + 0) * 31) + 0) * 31) + 0) * 31) + 0) * 31) + 0) * 31) + 0) * 31) + 0)]) ⟨hx, hb, hml, hown, hts⟩ (c_X1_swingsOf l dC dI pa p_v p_st p_ib p_di p_wa p_se p_vh p_re par (20 : Int32) cI _ (by decide)) (cwV 2 hts gX5_mixParty_X1_swingsOf rfl rfl rfl (by decide +kernel) ⟨Nat.le_of_ble_eq_true rfl, Nat.le_of_ble_eq_true rfl⟩) ⟨pr_blind, va_recv hKc hPc (ci := 3) (q0 := 0) rfl rfl, fun U hU hW => ⟨rfl, pr_mk hU hW hPc hKc hDc⟩⟩ rfl rfl hl.1 rfl (lv_room (Nat.le_of_ble_eq_true rfl)) dX5_mixParty_82 ⟨Nat.le_of_ble_eq_true rfl, Nat.le_of_ble_eq_true rfl⟩) hS (fun q _ h => hFc q h) hFc (fun r_36 u_35 t H1 locs ht hvm hw hB hz1 hk1 hS => ?_)
  obtain ⟨hP1, hK1, hD1⟩ := hB
  rw [ht] at hP1
  obtain ⟨hP, hD⟩ := va_join (wr := [(x, .inr (7, [.ref bx, .ref po, .ref tr, .ref pa, .ref sp])), (p_st, .inl (cI, 4, .inl zi)), (p_di, .inl (cI, 4, .inl zi)), (p_wa, .inl (cI, 4, .inl zi)), (p_v, .inl (cI, 4, .inl zi)), (p_ib, .inl (cZ, 4, .inl zi))]) (w1 := [(pa, .inr (3, [.ref p_v, .int 0, .ref p_st, .ref p_ib, .ref p_di, .ref p_wa, .ref p_se, .ref p_vh, .ref p_re])), (p_se, .inl (cI, 4, .inl zi))]) hP hD [4, 7] [0, 1, 2, 3, 5, 6] rfl rfl (by decide) (by decide) hk1 hFc hP1 hD1
  generalize H1 = H at hP hS ⊢
  have hP : va_P (dC, dI) vwCl [(x, .inr (7, [.ref bx, .ref po, .ref tr, .ref pa, .ref sp])), (p_st, .inl (cI, 4, .inl zi)), (p_di, .inl (cI, 4, .inl zi)), (p_wa, .inl (cI, 4, .inl zi)), (p_v, .inl (cI, 4, .inl zi)), (p_ib, .inl (cZ, 4, .inl zi)), (pa, .inr (3, [.ref p_v, .int 0, .ref p_st, .ref p_ib, .ref p_di, .ref p_wa, .ref p_se, .ref p_vh, .ref p_re])), (p_se, .inl (cI, 4, .inl zi))] H := hP
  have hD : va_D A [(x, .inr (7, [.ref bx, .ref po, .ref tr, .ref pa, .ref sp])), (p_st, .inl (cI, 4, .inl zi)), (p_di, .inl (cI, 4, .inl zi)), (p_wa, .inl (cI, 4, .inl zi)), (p_v, .inl (cI, 4, .inl zi)), (p_ib, .inl (cZ, 4, .inl zi)), (pa, .inr (3, [.ref p_v, .int 0, .ref p_st, .ref p_ib, .ref p_di, .ref p_wa, .ref p_se, .ref p_vh, .ref p_re])), (p_se, .inl (cI, 4, .inl zi))] := hD
  refine W.widen (k := 0) (n := 0) (Nat.le_refl _) (Nat.le_refl _) ?_
  have hw : r_36 = 0 := hw
  subst hw
  refine lv_i2l (v := 0) hx hb dX5_mixParty_85 (by decide) ?_
  have hPc := hP.sub (ws' := []) [] rfl
  have hDc := hD.sub (ws' := []) [] (by decide) rfl
  have hKc := hK.sub (tys' := []) [] rfl
  have hFc := va_free (wc := []) hD hS hA [] rfl
  refine va_calll (va_runS (As := [.long ((((((((((((((((su * 31) + 0) * 31) + 0) * 31) + 0) * 31) + 0) * 31) + 0) * 31) + 0) * 31) + 0) * 31) + 0), .long 0]) (rest := []) ⟨hx, hb, hml, hown, hts⟩ (c_X5_mix l dC dI ((((((((((((((((su * 31) + 0) * 31) + 0) * 31) + 0) * 31) + 0) * 31) + 0) * 31) + 0) * 31) + 0) * 31) + 0) (0 : Int64) _ ) (va_cwS 2 hts gX5_mixParty_X5_mix rfl rfl rfl (by decide +kernel) ⟨Nat.le_of_ble_eq_true rfl, Nat.le_of_ble_eq_true rfl⟩) ⟨pr_blind, fun U hU hW => ⟨rfl, pr_mk hU hW hPc hKc hDc⟩⟩ rfl rfl hl.1 rfl (lv_room (Nat.le_of_ble_eq_true rfl)) dX5_mixParty_86 ⟨Nat.le_of_ble_eq_true rfl, Nat.le_of_ble_eq_true rfl⟩) hS (fun q _ h => hFc q h) hFc (fun r_38 u_37 t H1 locs ht hvm hw hB hz1 hk1 hS => ?_)
  obtain ⟨hP1, hK1, hD1⟩ := hB
  rw [ht] at hP1
  obtain ⟨hP, hD⟩ := va_join (wr := [(x, .inr (7, [.ref bx, .ref po, .ref tr, .ref pa, .ref sp])), (p_st, .inl (cI, 4, .inl zi)), (p_di, .inl (cI, 4, .inl zi)), (p_wa, .inl (cI, 4, .inl zi)), (p_v, .inl (cI, 4, .inl zi)), (p_ib, .inl (cZ, 4, .inl zi)), (pa, .inr (3, [.ref p_v, .int 0, .ref p_st, .ref p_ib, .ref p_di, .ref p_wa, .ref p_se, .ref p_vh, .ref p_re])), (p_se, .inl (cI, 4, .inl zi))]) (w1 := []) hP hD [] [0, 1, 2, 3, 4, 5, 6, 7] rfl rfl (by decide) (by decide) hk1 hFc hP1 hD1
  generalize H1 = H at hP hS ⊢
  have hP : va_P (dC, dI) vwCl [(x, .inr (7, [.ref bx, .ref po, .ref tr, .ref pa, .ref sp])), (p_st, .inl (cI, 4, .inl zi)), (p_di, .inl (cI, 4, .inl zi)), (p_wa, .inl (cI, 4, .inl zi)), (p_v, .inl (cI, 4, .inl zi)), (p_ib, .inl (cZ, 4, .inl zi)), (pa, .inr (3, [.ref p_v, .int 0, .ref p_st, .ref p_ib, .ref p_di, .ref p_wa, .ref p_se, .ref p_vh, .ref p_re])), (p_se, .inl (cI, 4, .inl zi))] H := hP
  have hD : va_D A [(x, .inr (7, [.ref bx, .ref po, .ref tr, .ref pa, .ref sp])), (p_st, .inl (cI, 4, .inl zi)), (p_di, .inl (cI, 4, .inl zi)), (p_wa, .inl (cI, 4, .inl zi)), (p_v, .inl (cI, 4, .inl zi)), (p_ib, .inl (cZ, 4, .inl zi)), (pa, .inr (3, [.ref p_v, .int 0, .ref p_st, .ref p_ib, .ref p_di, .ref p_wa, .ref p_se, .ref p_vh, .ref p_re])), (p_se, .inl (cI, 4, .inl zi))] := hD
  refine W.widen (k := 0) (n := 0) (Nat.le_refl _) (Nat.le_refl _) ?_
  have hw : r_38 = ((((((((((((((((((su * 31) + 0) * 31) + 0) * 31) + 0) * 31) + 0) * 31) + 0) * 31) + 0) * 31) + 0) * 31) + 0) * 31) + 0) := hw
  subst hw
  refine lv_lstore (lv' := [(4, .long ((((((((((((((((((su * 31) + 0) * 31) + 0) * 31) + 0) * 31) + 0) * 31) + 0) * 31) + 0) * 31) + 0) * 31) + 0) * 31) + 0)), (6, .int 1), (0, .ref x), (1, .long su), (3, .int par)]) hx hb dX5_mixParty_89 hl (by decide) rfl (fun ls hl => ?_)
  refine lv_iinc (k := 1) (v := 2) (lv' := [(6, .int 2), (4, .long ((((((((((((((((((su * 31) + 0) * 31) + 0) * 31) + 0) * 31) + 0) * 31) + 0) * 31) + 0) * 31) + 0) * 31) + 0) * 31) + 0)), (0, .ref x), (1, .long su), (3, .int par)]) hx hb dX5_mixParty_91 hl rfl (by decide) (by decide) rfl (fun ls hl => ?_)
  refine lv_goto (tgt := 39) hx hb dX5_mixParty_94 (by decide) ?_
  refine lv_iload hx hb dX5_mixParty_39 (lv_at hl 0 rfl) ?_
  refine lv_iconst (v := 2) hx hb dX5_mixParty_41 (by decide) ?_
  refine lv_icmp_gt (tgt := 97) hx hb dX5_mixParty_42 (by decide) (fun h9 => absurd h9 (by decide)) (fun _ => ?_)
  refine lv_aload_n hx hb dX5_mixParty_45 rfl (lv_at hl 2 rfl) ?_
  refine va_get (D := (dC, dI)) (ci := 7) (v := .ref pa) (C := RX5) (T := TX5) (N := 5) hx hb hts hinX5 hown hK hP 0 rfl rfl 3 (by decide) (hts (.fieldLink RX5 33 "BallotLoom" "parties" "LBallotLoom$Parties;") (by decide +kernel)) (fun _ h9 => h9) rfl dX5_mixParty_46 ?_
  refine lv_bipush (v := 20) hx hb dX5_mixParty_49 (by decide) ?_
  refine lv_iload hx hb dX5_mixParty_51 (lv_at hl 0 rfl) ?_
  have hPc := hP.sub (ws' := [(pa, .inr (3, [.ref p_v, .int 0, .ref p_st, .ref p_ib, .ref p_di, .ref p_wa, .ref p_se, .ref p_vh, .ref p_re])), (p_v, .inl (cI, 4, .inl zi)), (p_ib, .inl (cZ, 4, .inl zi)), (p_se, .inl (cI, 4, .inl zi))]) [6, 4, 5, 7] rfl
  have hDc := hD.sub (ws' := [(pa, .inr (3, [.ref p_v, .int 0, .ref p_st, .ref p_ib, .ref p_di, .ref p_wa, .ref p_se, .ref p_vh, .ref p_re])), (p_v, .inl (cI, 4, .inl zi)), (p_ib, .inl (cZ, 4, .inl zi)), (p_se, .inl (cI, 4, .inl zi))]) [6, 4, 5, 7] (by decide) rfl
  have hKc := hK.sub (tys' := [(cI, .int), (cZ, .boolean)]) [0, 1] rfl
  have hFc := va_free (wc := [(pa, .inr (3, [.ref p_v, .int 0, .ref p_st, .ref p_ib, .ref p_di, .ref p_wa, .ref p_se, .ref p_vh, .ref p_re])), (p_v, .inl (cI, 4, .inl zi)), (p_ib, .inl (cZ, 4, .inl zi)), (p_se, .inl (cI, 4, .inl zi))]) hD hS hA [6, 4, 5, 7] rfl
  refine va_callv (va_runV (As := [.int 20, .int 2]) (rest := []) ⟨hx, hb, hml, hown, hts⟩ (c_X1_shareSeats l dC dI pa p_v p_st p_ib p_di p_wa p_se p_vh p_re (20 : Int32) (2 : Int32) cI cZ _ (by decide)) (cwV 2 hts gX5_mixParty_X1_shareSeats rfl rfl rfl (by decide +kernel) ⟨Nat.le_of_ble_eq_true rfl, Nat.le_of_ble_eq_true rfl⟩) ⟨pr_blind, va_recv hKc hPc (ci := 3) (q0 := 0) rfl rfl, fun U hU hW => ⟨rfl, pr_mk hU hW hPc hKc hDc⟩⟩ rfl rfl hl.1 rfl (lv_room (Nat.le_of_ble_eq_true rfl)) dX5_mixParty_53 ⟨Nat.le_of_ble_eq_true rfl, Nat.le_of_ble_eq_true rfl⟩) hS (fun q _ h => hFc q h) hFc (fun u_39 t H1 locs ht hvm hw hB hz1 hk1 hS => ?_)
  obtain ⟨hP1, hK1, hD1⟩ := hB
  rw [ht] at hP1
  obtain ⟨hP, hD⟩ := va_join (wr := [(x, .inr (7, [.ref bx, .ref po, .ref tr, .ref pa, .ref sp])), (p_st, .inl (cI, 4, .inl zi)), (p_di, .inl (cI, 4, .inl zi)), (p_wa, .inl (cI, 4, .inl zi))]) (w1 := [(pa, .inr (3, [.ref p_v, .int 0, .ref p_st, .ref p_ib, .ref p_di, .ref p_wa, .ref p_se, .ref p_vh, .ref p_re])), (p_v, .inl (cI, 4, .inl zi)), (p_ib, .inl (cZ, 4, .inl zi)), (p_se, .inl (cI, 4, .inl zi))]) hP hD [6, 4, 5, 7] [0, 1, 2, 3] rfl rfl (by decide) (by decide) hk1 hFc hP1 hD1
  generalize H1 = H at hP hS ⊢
  have hP : va_P (dC, dI) vwCl [(x, .inr (7, [.ref bx, .ref po, .ref tr, .ref pa, .ref sp])), (p_st, .inl (cI, 4, .inl zi)), (p_di, .inl (cI, 4, .inl zi)), (p_wa, .inl (cI, 4, .inl zi)), (pa, .inr (3, [.ref p_v, .int 0, .ref p_st, .ref p_ib, .ref p_di, .ref p_wa, .ref p_se, .ref p_vh, .ref p_re])), (p_v, .inl (cI, 4, .inl zi)), (p_ib, .inl (cZ, 4, .inl zi)), (p_se, .inl (cI, 4, .inl zi))] H := hP
  have hD : va_D A [(x, .inr (7, [.ref bx, .ref po, .ref tr, .ref pa, .ref sp])), (p_st, .inl (cI, 4, .inl zi)), (p_di, .inl (cI, 4, .inl zi)), (p_wa, .inl (cI, 4, .inl zi)), (pa, .inr (3, [.ref p_v, .int 0, .ref p_st, .ref p_ib, .ref p_di, .ref p_wa, .ref p_se, .ref p_vh, .ref p_re])), (p_v, .inl (cI, 4, .inl zi)), (p_ib, .inl (cZ, 4, .inl zi)), (p_se, .inl (cI, 4, .inl zi))] := hD
  refine W.widen (k := 0) (n := 0) (Nat.le_refl _) (Nat.le_refl _) ?_
  refine lv_lload hx hb dX5_mixParty_56 (lv_at hl 1 rfl) ?_
  refine lv_aload_n hx hb dX5_mixParty_58 rfl (lv_at hl 2 rfl) ?_
  refine va_get (D := (dC, dI)) (ci := 7) (v := .ref pa) (C := RX5) (T := TX5) (N := 5) hx hb hts hinX5 hown hK hP 0 rfl rfl 3 (by decide) (hts (.fieldLink RX5 33 "BallotLoom" "parties" "LBallotLoom$Parties;") (by decide +kernel)) (fun _ h9 => h9) rfl dX5_mixParty_59 ?_
  refine va_get (D := (dC, dI)) (ci := 3) (v := .ref p_se) (C := RX1) (T := TX1) (N := 9) hx hb hts hinX1 hown hK hP 4 rfl rfl 6 (by decide) (hts (.fieldLink RX5 229 "BallotLoom$Parties" "seats" "[I") (by decide +kernel)) (fun _ h9 => h9) rfl dX5_mixParty_62 ?_
  refine lv_iload_n hx hb dX5_mixParty_65 rfl (lv_at hl 4 rfl) ?_
  refine va_iald hx hb hK hP 7 0 rfl rfl hpa dX5_mixParty_66 ?_
  refine lv_topi (fun y_41 ey_41 => ?_)
  obtain rfl : y_41 = 0 := ey_41.trans (by rfl)
  refine lv_i2l (v := 0) hx hb dX5_mixParty_67 (by decide) ?_
  have hPc := hP.sub (ws' := []) [] rfl
  have hDc := hD.sub (ws' := []) [] (by decide) rfl
  have hKc := hK.sub (tys' := []) [] rfl
  have hFc := va_free (wc := []) hD hS hA [] rfl
  refine va_calll (va_runS (As := [.long ((((((((((((((((((su * 31) + 0) * 31) + 0) * 31) + 0) * 31) + 0) * 31) + 0) * 31) + 0) * 31) + 0) * 31) + 0) * 31) + 0), .long 0]) (rest := []) ⟨hx, hb, hml, hown, hts⟩ (c_X5_mix l dC dI ((((((((((((((((((su * 31) + 0) * 31) + 0) * 31) + 0) * 31) + 0) * 31) + 0) * 31) + 0) * 31) + 0) * 31) + 0) * 31) + 0) (0 : Int64) _ ) (va_cwS 2 hts gX5_mixParty_X5_mix rfl rfl rfl (by decide +kernel) ⟨Nat.le_of_ble_eq_true rfl, Nat.le_of_ble_eq_true rfl⟩) ⟨pr_blind, fun U hU hW => ⟨rfl, pr_mk hU hW hPc hKc hDc⟩⟩ rfl rfl hl.1 rfl (lv_room (Nat.le_of_ble_eq_true rfl)) dX5_mixParty_68 ⟨Nat.le_of_ble_eq_true rfl, Nat.le_of_ble_eq_true rfl⟩) hS (fun q _ h => hFc q h) hFc (fun r_43 u_42 t H1 locs ht hvm hw hB hz1 hk1 hS => ?_)
  obtain ⟨hP1, hK1, hD1⟩ := hB
  rw [ht] at hP1
  obtain ⟨hP, hD⟩ := va_join (wr := [(x, .inr (7, [.ref bx, .ref po, .ref tr, .ref pa, .ref sp])), (p_st, .inl (cI, 4, .inl zi)), (p_di, .inl (cI, 4, .inl zi)), (p_wa, .inl (cI, 4, .inl zi)), (pa, .inr (3, [.ref p_v, .int 0, .ref p_st, .ref p_ib, .ref p_di, .ref p_wa, .ref p_se, .ref p_vh, .ref p_re])), (p_v, .inl (cI, 4, .inl zi)), (p_ib, .inl (cZ, 4, .inl zi)), (p_se, .inl (cI, 4, .inl zi))]) (w1 := []) hP hD [] [0, 1, 2, 3, 4, 5, 6, 7] rfl rfl (by decide) (by decide) hk1 hFc hP1 hD1
  generalize H1 = H at hP hS ⊢
  have hP : va_P (dC, dI) vwCl [(x, .inr (7, [.ref bx, .ref po, .ref tr, .ref pa, .ref sp])), (p_st, .inl (cI, 4, .inl zi)), (p_di, .inl (cI, 4, .inl zi)), (p_wa, .inl (cI, 4, .inl zi)), (pa, .inr (3, [.ref p_v, .int 0, .ref p_st, .ref p_ib, .ref p_di, .ref p_wa, .ref p_se, .ref p_vh, .ref p_re])), (p_v, .inl (cI, 4, .inl zi)), (p_ib, .inl (cZ, 4, .inl zi)), (p_se, .inl (cI, 4, .inl zi))] H := hP
  have hD : va_D A [(x, .inr (7, [.ref bx, .ref po, .ref tr, .ref pa, .ref sp])), (p_st, .inl (cI, 4, .inl zi)), (p_di, .inl (cI, 4, .inl zi)), (p_wa, .inl (cI, 4, .inl zi)), (pa, .inr (3, [.ref p_v, .int 0, .ref p_st, .ref p_ib, .ref p_di, .ref p_wa, .ref p_se, .ref p_vh, .ref p_re])), (p_v, .inl (cI, 4, .inl zi)), (p_ib, .inl (cZ, 4, .inl zi)), (p_se, .inl (cI, 4, .inl zi))] := hD
  refine W.widen (k := 0) (n := 0) (Nat.le_refl _) (Nat.le_refl _) ?_
  have hw : r_43 = ((((((((((((((((((((su * 31) + 0) * 31) + 0) * 31) + 0) * 31) + 0) * 31) + 0) * 31) + 0) * 31) + 0) * 31) + 0) * 31) + 0) * 31) + 0) := hw
  subst hw
  refine lv_lstore (lv' := [(4, .long ((((((((((((((((((((su * 31) + 0) * 31) + 0) * 31) + 0) * 31) + 0) * 31) + 0) * 31) + 0) * 31) + 0) * 31) + 0) * 31) + 0) * 31) + 0)), (6, .int 2), (0, .ref x), (1, .long su), (3, .int par)]) hx hb dX5_mixParty_71 hl (by decide) rfl (fun ls hl => ?_)
  refine lv_lload hx hb dX5_mixParty_73 (lv_at hl 0 rfl) ?_
  refine lv_aload_n hx hb dX5_mixParty_75 rfl (lv_at hl 2 rfl) ?_
  refine va_get (D := (dC, dI)) (ci := 7) (v := .ref pa) (C := RX5) (T := TX5) (N := 5) hx hb hts hinX5 hown hK hP 0 rfl rfl 3 (by decide) (hts (.fieldLink RX5 33 "BallotLoom" "parties" "LBallotLoom$Parties;") (by decide +kernel)) (fun _ h9 => h9) rfl dX5_mixParty_76 ?_
  refine lv_iload_n hx hb dX5_mixParty_79 rfl (lv_at hl 4 rfl) ?_
  refine lv_bipush (v := 20) hx hb dX5_mixParty_80 (by decide) ?_
  have hPc := hP.sub (ws' := [(pa, .inr (3, [.ref p_v, .int 0, .ref p_st, .ref p_ib, .ref p_di, .ref p_wa, .ref p_se, .ref p_vh, .ref p_re])), (p_se, .inl (cI, 4, .inl zi))]) [4, 7] rfl
  have hDc := hD.sub (ws' := [(pa, .inr (3, [.ref p_v, .int 0, .ref p_st, .ref p_ib, .ref p_di, .ref p_wa, .ref p_se, .ref p_vh, .ref p_re])), (p_se, .inl (cI, 4, .inl zi))]) [4, 7] (by decide) rfl
  have hKc := hK.sub (tys' := [(cI, .int)]) [0] rfl
  have hFc := va_free (wc := [(pa, .inr (3, [.ref p_v, .int 0, .ref p_st, .ref p_ib, .ref p_di, .ref p_wa, .ref p_se, .ref p_vh, .ref p_re])), (p_se, .inl (cI, 4, .inl zi))]) hD hS hA [4, 7] rfl
  refine va_calli (va_runV (As := [.int par, .int 20]) (rest := [.long ((((((((((((((((((((su * 31) + 0) * 31) + 0) * 31) + 0) * 31) + 0) * 31) + 0) * 31) + 0) * 31) + 0) * 31) + 0) * 31) + 0) * 31) + 0)]) ⟨hx, hb, hml, hown, hts⟩ (c_X1_swingsOf l dC dI pa p_v p_st p_ib p_di p_wa p_se p_vh p_re par (20 : Int32) cI _ (by decide)) (cwV 2 hts gX5_mixParty_X1_swingsOf rfl rfl rfl (by decide +kernel) ⟨Nat.le_of_ble_eq_true rfl, Nat.le_of_ble_eq_true rfl⟩) ⟨pr_blind, va_recv hKc hPc (ci := 3) (q0 := 0) rfl rfl, fun U hU hW => ⟨rfl, pr_mk hU hW hPc hKc hDc⟩⟩ rfl rfl hl.1 rfl (lv_room (Nat.le_of_ble_eq_true rfl)) dX5_mixParty_82 ⟨Nat.le_of_ble_eq_true rfl, Nat.le_of_ble_eq_true rfl⟩) hS (fun q _ h => hFc q h) hFc (fun r_45 u_44 t H1 locs ht hvm hw hB hz1 hk1 hS => ?_)
  obtain ⟨hP1, hK1, hD1⟩ := hB
  rw [ht] at hP1
  obtain ⟨hP, hD⟩ := va_join (wr := [(x, .inr (7, [.ref bx, .ref po, .ref tr, .ref pa, .ref sp])), (p_st, .inl (cI, 4, .inl zi)), (p_di, .inl (cI, 4, .inl zi)), (p_wa, .inl (cI, 4, .inl zi)), (p_v, .inl (cI, 4, .inl zi)), (p_ib, .inl (cZ, 4, .inl zi))]) (w1 := [(pa, .inr (3, [.ref p_v, .int 0, .ref p_st, .ref p_ib, .ref p_di, .ref p_wa, .ref p_se, .ref p_vh, .ref p_re])), (p_se, .inl (cI, 4, .inl zi))]) hP hD [4, 7] [0, 1, 2, 3, 5, 6] rfl rfl (by decide) (by decide) hk1 hFc hP1 hD1
  generalize H1 = H at hP hS ⊢
  have hP : va_P (dC, dI) vwCl [(x, .inr (7, [.ref bx, .ref po, .ref tr, .ref pa, .ref sp])), (p_st, .inl (cI, 4, .inl zi)), (p_di, .inl (cI, 4, .inl zi)), (p_wa, .inl (cI, 4, .inl zi)), (p_v, .inl (cI, 4, .inl zi)), (p_ib, .inl (cZ, 4, .inl zi)), (pa, .inr (3, [.ref p_v, .int 0, .ref p_st, .ref p_ib, .ref p_di, .ref p_wa, .ref p_se, .ref p_vh, .ref p_re])), (p_se, .inl (cI, 4, .inl zi))] H := hP
  have hD : va_D A [(x, .inr (7, [.ref bx, .ref po, .ref tr, .ref pa, .ref sp])), (p_st, .inl (cI, 4, .inl zi)), (p_di, .inl (cI, 4, .inl zi)), (p_wa, .inl (cI, 4, .inl zi)), (p_v, .inl (cI, 4, .inl zi)), (p_ib, .inl (cZ, 4, .inl zi)), (pa, .inr (3, [.ref p_v, .int 0, .ref p_st, .ref p_ib, .ref p_di, .ref p_wa, .ref p_se, .ref p_vh, .ref p_re])), (p_se, .inl (cI, 4, .inl zi))] := hD
  refine W.widen (k := 0) (n := 0) (Nat.le_refl _) (Nat.le_refl _) ?_
  have hw : r_45 = 0 := hw
  subst hw
  refine lv_i2l (v := 0) hx hb dX5_mixParty_85 (by decide) ?_
  have hPc := hP.sub (ws' := []) [] rfl
  have hDc := hD.sub (ws' := []) [] (by decide) rfl
  have hKc := hK.sub (tys' := []) [] rfl
  have hFc := va_free (wc := []) hD hS hA [] rfl
  refine va_calll (va_runS (As := [.long ((((((((((((((((((((su * 31) + 0) * 31) + 0) * 31) + 0) * 31) + 0) * 31) + 0) * 31) + 0) * 31) + 0) * 31) + 0) * 31) + 0) * 31) + 0), .long 0]) (rest := []) ⟨hx, hb, hml, hown, hts⟩ (c_X5_mix l dC dI ((((((((((((((((((((su * 31) + 0) * 31) + 0) * 31) + 0) * 31) + 0) * 31) + 0) * 31) + 0) * 31) + 0) * 31) + 0) * 31) + 0) * 31) + 0) (0 : Int64) _ ) (va_cwS 2 hts gX5_mixParty_X5_mix rfl rfl rfl (by decide +kernel) ⟨Nat.le_of_ble_eq_true rfl, Nat.le_of_ble_eq_true rfl⟩) ⟨pr_blind, fun U hU hW => ⟨rfl, pr_mk hU hW hPc hKc hDc⟩⟩ rfl rfl hl.1 rfl (lv_room (Nat.le_of_ble_eq_true rfl)) dX5_mixParty_86 ⟨Nat.le_of_ble_eq_true rfl, Nat.le_of_ble_eq_true rfl⟩) hS (fun q _ h => hFc q h) hFc (fun r_47 u_46 t H1 locs ht hvm hw hB hz1 hk1 hS => ?_)
  obtain ⟨hP1, hK1, hD1⟩ := hB
  rw [ht] at hP1
  obtain ⟨hP, hD⟩ := va_join (wr := [(x, .inr (7, [.ref bx, .ref po, .ref tr, .ref pa, .ref sp])), (p_st, .inl (cI, 4, .inl zi)), (p_di, .inl (cI, 4, .inl zi)), (p_wa, .inl (cI, 4, .inl zi)), (p_v, .inl (cI, 4, .inl zi)), (p_ib, .inl (cZ, 4, .inl zi)), (pa, .inr (3, [.ref p_v, .int 0, .ref p_st, .ref p_ib, .ref p_di, .ref p_wa, .ref p_se, .ref p_vh, .ref p_re])), (p_se, .inl (cI, 4, .inl zi))]) (w1 := []) hP hD [] [0, 1, 2, 3, 4, 5, 6, 7] rfl rfl (by decide) (by decide) hk1 hFc hP1 hD1
  generalize H1 = H at hP hS ⊢
  have hP : va_P (dC, dI) vwCl [(x, .inr (7, [.ref bx, .ref po, .ref tr, .ref pa, .ref sp])), (p_st, .inl (cI, 4, .inl zi)), (p_di, .inl (cI, 4, .inl zi)), (p_wa, .inl (cI, 4, .inl zi)), (p_v, .inl (cI, 4, .inl zi)), (p_ib, .inl (cZ, 4, .inl zi)), (pa, .inr (3, [.ref p_v, .int 0, .ref p_st, .ref p_ib, .ref p_di, .ref p_wa, .ref p_se, .ref p_vh, .ref p_re])), (p_se, .inl (cI, 4, .inl zi))] H := hP
  have hD : va_D A [(x, .inr (7, [.ref bx, .ref po, .ref tr, .ref pa, .ref sp])), (p_st, .inl (cI, 4, .inl zi)), (p_di, .inl (cI, 4, .inl zi)), (p_wa, .inl (cI, 4, .inl zi)), (p_v, .inl (cI, 4, .inl zi)), (p_ib, .inl (cZ, 4, .inl zi)), (pa, .inr (3, [.ref p_v, .int 0, .ref p_st, .ref p_ib, .ref p_di, .ref p_wa, .ref p_se, .ref p_vh, .ref p_re])), (p_se, .inl (cI, 4, .inl zi))] := hD
  refine W.widen (k := 0) (n := 0) (Nat.le_refl _) (Nat.le_refl _) ?_
  have hw : r_47 = ((((((((((((((((((((((su * 31) + 0) * 31) + 0) * 31) + 0) * 31) + 0) * 31) + 0) * 31) + 0) * 31) + 0) * 31) + 0) * 31) + 0) * 31) + 0) * 31) + 0) := hw
  subst hw
  refine lv_lstore (lv' := [(4, .long ((((((((((((((((((((((su * 31) + 0) * 31) + 0) * 31) + 0) * 31) + 0) * 31) + 0) * 31) + 0) * 31) + 0) * 31) + 0) * 31) + 0) * 31) + 0) * 31) + 0)), (6, .int 2), (0, .ref x), (1, .long su), (3, .int par)]) hx hb dX5_mixParty_89 hl (by decide) rfl (fun ls hl => ?_)
  refine lv_iinc (k := 1) (v := 3) (lv' := [(6, .int 3), (4, .long ((((((((((((((((((((((su * 31) + 0) * 31) + 0) * 31) + 0) * 31) + 0) * 31) + 0) * 31) + 0) * 31) + 0) * 31) + 0) * 31) + 0) * 31) + 0) * 31) + 0)), (0, .ref x), (1, .long su), (3, .int par)]) hx hb dX5_mixParty_91 hl rfl (by decide) (by decide) rfl (fun ls hl => ?_)
  refine lv_goto (tgt := 39) hx hb dX5_mixParty_94 (by decide) ?_
  refine lv_iload hx hb dX5_mixParty_39 (lv_at hl 0 rfl) ?_
  refine lv_iconst (v := 2) hx hb dX5_mixParty_41 (by decide) ?_
  refine lv_icmp_gt (tgt := 97) hx hb dX5_mixParty_42 (by decide) (fun _ => ?_) (fun h9 => absurd h9 (by decide))
  refine lv_lload hx hb dX5_mixParty_97 (lv_at hl 1 rfl) ?_
  have hP9 := hP.sub (ws' := [(x, .inr (7, [.ref bx, .ref po, .ref tr, .ref pa, .ref sp])), (pa, .inr (3, [.ref p_v, .int 0, .ref p_st, .ref p_ib, .ref p_di, .ref p_wa, .ref p_se, .ref p_vh, .ref p_re])), (p_v, .inl (cI, 4, .inl zi)), (p_st, .inl (cI, 4, .inl zi)), (p_ib, .inl (cZ, 4, .inl zi)), (p_di, .inl (cI, 4, .inl zi)), (p_wa, .inl (cI, 4, .inl zi)), (p_se, .inl (cI, 4, .inl zi))]) [0, 6, 4, 1, 5, 2, 3, 7] rfl
  have hD9 := hD.sub (ws' := [(x, .inr (7, [.ref bx, .ref po, .ref tr, .ref pa, .ref sp])), (pa, .inr (3, [.ref p_v, .int 0, .ref p_st, .ref p_ib, .ref p_di, .ref p_wa, .ref p_se, .ref p_vh, .ref p_re])), (p_v, .inl (cI, 4, .inl zi)), (p_st, .inl (cI, 4, .inl zi)), (p_ib, .inl (cZ, 4, .inl zi)), (p_di, .inl (cI, 4, .inl zi)), (p_wa, .inl (cI, 4, .inl zi)), (p_se, .inl (cI, 4, .inl zi))]) [0, 6, 4, 1, 5, 2, 3, 7] (by decide) rfl
  have hK9 := hK.sub (tys' := [(cI, .int), (cZ, .boolean)]) [0, 1] rfl
  refine W.widen (k := 0) (n := 0) (Nat.le_of_ble_eq_true rfl) (Nat.le_of_ble_eq_true rfl) ?_
  exact W.lret (v := ((((((((((((((((((((((su * 31) + 0) * 31) + 0) * 31) + 0) * 31) + 0) * 31) + 0) * 31) + 0) * 31) + 0) * 31) + 0) * 31) + 0) * 31) + 0) * 31) + 0)) hx hb hr (fun t ht hW => ⟨⟨((((((((((((((((((((((su * 31) + 0) * 31) + 0) * 31) + 0) * 31) + 0) * 31) + 0) * 31) + 0) * 31) + 0) * 31) + 0) * 31) + 0) * 31) + 0) * 31) + 0), (), rfl, rfl, po_mk ht hW hP9 hK9 hD9⟩, hS.F ht⟩) hS.2.2 dX5_mixParty_99

set_option maxHeartbeats 4000000 in
set_option maxRecDepth 100000 in
theorem c_X5_digest (l : Launch) (dC : Nat → ClassId) (dI : Nat → Nat → Nat) (x : Nat) (po : Nat) (tr : Nat) (sp : Nat) (bx : Nat) (b0 : Nat) (b1 : Nat) (b4 : Nat) (b6 : Nat) (pa : Nat) (p_v : Nat) (p_st : Nat) (p_ib : Nat) (p_di : Nat) (p_wa : Nat) (p_se : Nat) (p_vh : Nat) (p_re : Nat) (cI : ClassId) (cZ : ClassId) (sz : Nat)  : Met l yX5_digest wsX5_digest ({ frames := 7, cells := 0, slots := 0, locals := 200 }) (va_Pc [.ref x] (pr_ dC dI [(x, .inr (7, [.ref bx, .ref po, .ref tr, .ref pa, .ref sp])), (bx, .inr (2, [.ref b0, .ref b1, .int 0, .int 0, .ref b4, .int 0, .ref b6, .int 0, .int 0, .int 0, .int 0])), (pa, .inr (3, [.ref p_v, .int 0, .ref p_st, .ref p_ib, .ref p_di, .ref p_wa, .ref p_se, .ref p_vh, .ref p_re])), (p_v, .inl (cI, 4, .inl zi)), (p_st, .inl (cI, 4, .inl zi)), (p_ib, .inl (cZ, 4, .inl zi)), (p_di, .inl (cI, 4, .inl zi)), (p_wa, .inl (cI, 4, .inl zi)), (p_se, .inl (cI, 4, .inl zi))] [(cI, .int), (cZ, .boolean)] sz)) (va_Ql (fun (r : Int64) (_ : Unit) => r = mx 57 58308) (fun (_ : Unit) t => po_ dC dI [] [(cI, .int), (cZ, .boolean)] (va_A [(x, .inr (7, [.ref bx, .ref po, .ref tr, .ref pa, .ref sp])), (bx, .inr (2, [.ref b0, .ref b1, .int 0, .int 0, .ref b4, .int 0, .ref b6, .int 0, .int 0, .int 0, .int 0])), (pa, .inr (3, [.ref p_v, .int 0, .ref p_st, .ref p_ib, .ref p_di, .ref p_wa, .ref p_se, .ref p_vh, .ref p_re])), (p_v, .inl (cI, 4, .inl zi)), (p_st, .inl (cI, 4, .inl zi)), (p_ib, .inl (cZ, 4, .inl zi)), (p_di, .inl (cI, 4, .inl zi)), (p_wa, .inl (cI, 4, .inl zi)), (p_se, .inl (cI, 4, .inl zi))] sz) t) (va_A [(x, .inr (7, [.ref bx, .ref po, .ref tr, .ref pa, .ref sp])), (bx, .inr (2, [.ref b0, .ref b1, .int 0, .int 0, .ref b4, .int 0, .ref b6, .int 0, .int 0, .int 0, .int 0])), (pa, .inr (3, [.ref p_v, .int 0, .ref p_st, .ref p_ib, .ref p_di, .ref p_wa, .ref p_se, .ref p_vh, .ref p_re])), (p_v, .inl (cI, 4, .inl zi)), (p_st, .inl (cI, 4, .inl zi)), (p_ib, .inl (cZ, 4, .inl zi)), (p_di, .inl (cI, 4, .inl zi)), (p_wa, .inl (cI, 4, .inl zi)), (p_se, .inl (cI, 4, .inl zi))] sz)) 0 0 (va_A [(x, .inr (7, [.ref bx, .ref po, .ref tr, .ref pa, .ref sp])), (bx, .inr (2, [.ref b0, .ref b1, .int 0, .int 0, .ref b4, .int 0, .ref b6, .int 0, .int 0, .int 0, .int 0])), (pa, .inr (3, [.ref p_v, .int 0, .ref p_st, .ref p_ib, .ref p_di, .ref p_wa, .ref p_se, .ref p_vh, .ref p_re])), (p_v, .inl (cI, 4, .inl zi)), (p_st, .inl (cI, 4, .inl zi)), (p_ib, .inl (cZ, 4, .inl zi)), (p_di, .inl (cI, 4, .inl zi)), (p_wa, .inl (cI, 4, .inl zi)), (p_se, .inl (cI, 4, .inl zi))] sz) := by
  refine Met.ofW (cc := cX5_digest) (maxL := 4) (ret := (some .long)) (by decide) rfl ?_
  intro p e s m args below meth c s₁ B hml hv
  obtain ⟨rfl, hsz, hP, hK, hD0⟩ := hv
  have hx := B.exec
  have hb := B.bytes
  have hr := B.returns
  have hts := atoms_spec (ws := wsX5_digest) B.pre
  have hown : s.vm.findClass RX5 = some m.cls := findClass_of_methodNamed B.named
  have hlocks := B.notSynchronized
  subst hsz
  have hD := hD0.self (sz := s.heap.size)
  generalize hAe : va_A [(x, .inr (7, [.ref bx, .ref po, .ref tr, .ref pa, .ref sp])), (bx, .inr (2, [.ref b0, .ref b1, .int 0, .int 0, .ref b4, .int 0, .ref b6, .int 0, .int 0, .int 0, .int 0])), (pa, .inr (3, [.ref p_v, .int 0, .ref p_st, .ref p_ib, .ref p_di, .ref p_wa, .ref p_se, .ref p_vh, .ref p_re])), (p_v, .inl (cI, 4, .inl zi)), (p_st, .inl (cI, 4, .inl zi)), (p_ib, .inl (cZ, 4, .inl zi)), (p_di, .inl (cI, 4, .inl zi)), (p_wa, .inl (cI, 4, .inl zi)), (p_se, .inl (cI, 4, .inl zi))] s.heap.size = A at hD ⊢
  have hA : ∀ q : Nat, s.heap.size ≤ q → A q := fun q h => by rw [← hAe]; exact Or.inr h
  have hS : va_S A s.heap s.heap [] := va_S.rf
  have hP : va_P (dC, dI) vwCl [(x, .inr (7, [.ref bx, .ref po, .ref tr, .ref pa, .ref sp])), (bx, .inr (2, [.ref b0, .ref b1, .int 0, .int 0, .ref b4, .int 0, .ref b6, .int 0, .int 0, .int 0, .int 0])), (pa, .inr (3, [.ref p_v, .int 0, .ref p_st, .ref p_ib, .ref p_di, .ref p_wa, .ref p_se, .ref p_vh, .ref p_re])), (p_v, .inl (cI, 4, .inl zi)), (p_st, .inl (cI, 4, .inl zi)), (p_ib, .inl (cZ, 4, .inl zi)), (p_di, .inl (cI, 4, .inl zi)), (p_wa, .inl (cI, 4, .inl zi)), (p_se, .inl (cI, 4, .inl zi))] s.heap := hP
  have hK : va_K (dC, dI) vwCl [(cI, .int), (cZ, .boolean)] s := hK
  have hl := lv_entry ([.ref x]) (n := 4) (Nat.le_of_ble_eq_true rfl)
  rw [lg_entry_eq]
  generalize (lg_sl ([.ref x]) ++ List.replicate (4 - (lg_sl ([.ref x])).length) Slot.unset).toArray = ls at hl ⊢
  have hl : lv_has ls 4 [(0, .ref x)] := hl
  refine lv_ldc2 (v := 58308) hx hb hown (hts (.constantLong RX5 268 58308) (by decide +kernel)) dX5_digest_0 ?_
  refine lv_lstore_n (lv' := [(1, .long 58308), (0, .ref x)]) hx hb dX5_digest_3 rfl hl (by decide) rfl (fun ls hl => ?_)
  refine lv_iconst (v := 0) hx hb dX5_digest_4 (by decide) ?_
  refine lv_istore_n (lv' := [(3, .int 0), (1, .long 58308), (0, .ref x)]) hx hb dX5_digest_5 rfl hl (by decide) rfl (fun ls hl => ?_)
  refine lv_iload_n hx hb dX5_digest_6 rfl (lv_at hl 0 rfl) ?_
  refine lv_bipush (v := 9) hx hb dX5_digest_7 (by decide) ?_
  refine lv_icmp_gt (tgt := 32) hx hb dX5_digest_9 (by decide) (fun h9 => absurd h9 (by decide)) (fun _ => ?_)
  refine lv_lload_n hx hb dX5_digest_12 rfl (lv_at hl 1 rfl) ?_
  refine lv_aload_n hx hb dX5_digest_13 rfl (lv_at hl 2 rfl) ?_
  have hinX5 : ∀ w ∈ u_ws RX5 TX5 5, w ∈ wsX5_digest := by decide +kernel
  refine va_get (D := (dC, dI)) (ci := 7) (v := .ref bx) (C := RX5) (T := TX5) (N := 5) hx hb hts hinX5 hown hK hP 0 rfl rfl 0 (by decide) (hts (.fieldLink RX5 10 "BallotLoom" "box" "LBallotLoom$Box;") (by decide +kernel)) (fun _ h9 => h9) rfl dX5_digest_14 ?_
  refine lv_iload_n hx hb dX5_digest_17 rfl (lv_at hl 0 rfl) ?_
  have hPc := hP.sub (ws' := [(bx, .inr (2, [.ref b0, .ref b1, .int 0, .int 0, .ref b4, .int 0, .ref b6, .int 0, .int 0, .int 0, .int 0]))]) [1] rfl
  have hDc := hD.sub (ws' := [(bx, .inr (2, [.ref b0, .ref b1, .int 0, .int 0, .ref b4, .int 0, .ref b6, .int 0, .int 0, .int 0, .int 0]))]) [1] (by decide) rfl
  have hKc := hK.sub (tys' := []) [] rfl
  have hFc := va_free (wc := [(bx, .inr (2, [.ref b0, .ref b1, .int 0, .int 0, .ref b4, .int 0, .ref b6, .int 0, .int 0, .int 0, .int 0]))]) hD hS hA [1] rfl
  refine va_calli (va_runV (As := [.int 0]) (rest := [.long 58308]) ⟨hx, hb, hml, hown, hts⟩ (c_X0_figure l dC dI bx b0 b1 b4 b6 (0 : Int32) _ (by decide)) (cwV 1 hts gX5_digest_X0_figure rfl rfl rfl (by decide +kernel) ⟨Nat.le_of_ble_eq_true rfl, Nat.le_of_ble_eq_true rfl⟩) ⟨pr_blind, va_recv hKc hPc (ci := 2) (q0 := 0) rfl rfl, fun U hU hW => ⟨rfl, pr_mk hU hW hPc hKc hDc⟩⟩ rfl rfl hl.1 rfl (lv_room (Nat.le_of_ble_eq_true rfl)) dX5_digest_18 ⟨Nat.le_of_ble_eq_true rfl, Nat.le_of_ble_eq_true rfl⟩) hS (fun q _ h => hFc q h) hFc (fun r_2 u_1 t H1 locs ht hvm hw hB hz1 hk1 hS => ?_)
  obtain ⟨hP1, hK1, hD1⟩ := hB
  rw [ht] at hP1
  obtain ⟨hP, hD⟩ := va_join (wr := [(x, .inr (7, [.ref bx, .ref po, .ref tr, .ref pa, .ref sp])), (pa, .inr (3, [.ref p_v, .int 0, .ref p_st, .ref p_ib, .ref p_di, .ref p_wa, .ref p_se, .ref p_vh, .ref p_re])), (p_v, .inl (cI, 4, .inl zi)), (p_st, .inl (cI, 4, .inl zi)), (p_ib, .inl (cZ, 4, .inl zi)), (p_di, .inl (cI, 4, .inl zi)), (p_wa, .inl (cI, 4, .inl zi)), (p_se, .inl (cI, 4, .inl zi))]) (w1 := [(bx, .inr (2, [.ref b0, .ref b1, .int 0, .int 0, .ref b4, .int 0, .ref b6, .int 0, .int 0, .int 0, .int 0]))]) hP hD [1] [0, 2, 3, 4, 5, 6, 7, 8] rfl rfl (by decide) (by decide) hk1 hFc hP1 hD1
  generalize H1 = H at hP hS ⊢
  have hP : va_P (dC, dI) vwCl [(x, .inr (7, [.ref bx, .ref po, .ref tr, .ref pa, .ref sp])), (pa, .inr (3, [.ref p_v, .int 0, .ref p_st, .ref p_ib, .ref p_di, .ref p_wa, .ref p_se, .ref p_vh, .ref p_re])), (p_v, .inl (cI, 4, .inl zi)), (p_st, .inl (cI, 4, .inl zi)), (p_ib, .inl (cZ, 4, .inl zi)), (p_di, .inl (cI, 4, .inl zi)), (p_wa, .inl (cI, 4, .inl zi)), (p_se, .inl (cI, 4, .inl zi)), (bx, .inr (2, [.ref b0, .ref b1, .int 0, .int 0, .ref b4, .int 0, .ref b6, .int 0, .int 0, .int 0, .int 0]))] H := hP
  have hD : va_D A [(x, .inr (7, [.ref bx, .ref po, .ref tr, .ref pa, .ref sp])), (pa, .inr (3, [.ref p_v, .int 0, .ref p_st, .ref p_ib, .ref p_di, .ref p_wa, .ref p_se, .ref p_vh, .ref p_re])), (p_v, .inl (cI, 4, .inl zi)), (p_st, .inl (cI, 4, .inl zi)), (p_ib, .inl (cZ, 4, .inl zi)), (p_di, .inl (cI, 4, .inl zi)), (p_wa, .inl (cI, 4, .inl zi)), (p_se, .inl (cI, 4, .inl zi)), (bx, .inr (2, [.ref b0, .ref b1, .int 0, .int 0, .ref b4, .int 0, .ref b6, .int 0, .int 0, .int 0, .int 0]))] := hD
  refine W.widen (k := 0) (n := 0) (Nat.le_refl _) (Nat.le_refl _) ?_
  have hw : r_2 = 0 := hw
  subst hw
  refine lv_i2l (v := 0) hx hb dX5_digest_21 (by decide) ?_
  have hPc := hP.sub (ws' := []) [] rfl
  have hDc := hD.sub (ws' := []) [] (by decide) rfl
  have hKc := hK.sub (tys' := []) [] rfl
  have hFc := va_free (wc := []) hD hS hA [] rfl
  refine va_calll (va_runS (As := [.long 58308, .long 0]) (rest := []) ⟨hx, hb, hml, hown, hts⟩ (c_X5_mix l dC dI (58308 : Int64) (0 : Int64) _ ) (va_cwS 2 hts gX5_digest_X5_mix rfl rfl rfl (by decide +kernel) ⟨Nat.le_of_ble_eq_true rfl, Nat.le_of_ble_eq_true rfl⟩) ⟨pr_blind, fun U hU hW => ⟨rfl, pr_mk hU hW hPc hKc hDc⟩⟩ rfl rfl hl.1 rfl (lv_room (Nat.le_of_ble_eq_true rfl)) dX5_digest_22 ⟨Nat.le_of_ble_eq_true rfl, Nat.le_of_ble_eq_true rfl⟩) hS (fun q _ h => hFc q h) hFc (fun r_4 u_3 t H1 locs ht hvm hw hB hz1 hk1 hS => ?_)
  obtain ⟨hP1, hK1, hD1⟩ := hB
  rw [ht] at hP1
  obtain ⟨hP, hD⟩ := va_join (wr := [(x, .inr (7, [.ref bx, .ref po, .ref tr, .ref pa, .ref sp])), (pa, .inr (3, [.ref p_v, .int 0, .ref p_st, .ref p_ib, .ref p_di, .ref p_wa, .ref p_se, .ref p_vh, .ref p_re])), (p_v, .inl (cI, 4, .inl zi)), (p_st, .inl (cI, 4, .inl zi)), (p_ib, .inl (cZ, 4, .inl zi)), (p_di, .inl (cI, 4, .inl zi)), (p_wa, .inl (cI, 4, .inl zi)), (p_se, .inl (cI, 4, .inl zi)), (bx, .inr (2, [.ref b0, .ref b1, .int 0, .int 0, .ref b4, .int 0, .ref b6, .int 0, .int 0, .int 0, .int 0]))]) (w1 := []) hP hD [] [0, 1, 2, 3, 4, 5, 6, 7, 8] rfl rfl (by decide) (by decide) hk1 hFc hP1 hD1
  generalize H1 = H at hP hS ⊢
  have hP : va_P (dC, dI) vwCl [(x, .inr (7, [.ref bx, .ref po, .ref tr, .ref pa, .ref sp])), (pa, .inr (3, [.ref p_v, .int 0, .ref p_st, .ref p_ib, .ref p_di, .ref p_wa, .ref p_se, .ref p_vh, .ref p_re])), (p_v, .inl (cI, 4, .inl zi)), (p_st, .inl (cI, 4, .inl zi)), (p_ib, .inl (cZ, 4, .inl zi)), (p_di, .inl (cI, 4, .inl zi)), (p_wa, .inl (cI, 4, .inl zi)), (p_se, .inl (cI, 4, .inl zi)), (bx, .inr (2, [.ref b0, .ref b1, .int 0, .int 0, .ref b4, .int 0, .ref b6, .int 0, .int 0, .int 0, .int 0]))] H := hP
  have hD : va_D A [(x, .inr (7, [.ref bx, .ref po, .ref tr, .ref pa, .ref sp])), (pa, .inr (3, [.ref p_v, .int 0, .ref p_st, .ref p_ib, .ref p_di, .ref p_wa, .ref p_se, .ref p_vh, .ref p_re])), (p_v, .inl (cI, 4, .inl zi)), (p_st, .inl (cI, 4, .inl zi)), (p_ib, .inl (cZ, 4, .inl zi)), (p_di, .inl (cI, 4, .inl zi)), (p_wa, .inl (cI, 4, .inl zi)), (p_se, .inl (cI, 4, .inl zi)), (bx, .inr (2, [.ref b0, .ref b1, .int 0, .int 0, .ref b4, .int 0, .ref b6, .int 0, .int 0, .int 0, .int 0]))] := hD
  refine W.widen (k := 0) (n := 0) (Nat.le_refl _) (Nat.le_refl _) ?_
  have hw : r_4 = ((58308 * 31) + 0) := hw
  subst hw
  refine lv_topl (fun y_5 ey_5 => ?_)
  obtain rfl : y_5 = 1807548 := ey_5.trans (by decide +kernel)
  refine lv_lstore_n (lv' := [(1, .long 1807548), (3, .int 0), (0, .ref x)]) hx hb dX5_digest_25 rfl hl (by decide) rfl (fun ls hl => ?_)
  refine lv_iinc (k := 1) (v := 1) (lv' := [(3, .int 1), (1, .long 1807548), (0, .ref x)]) hx hb dX5_digest_26 hl rfl (by decide) (by decide) rfl (fun ls hl => ?_)
  refine lv_goto (tgt := 6) hx hb dX5_digest_29 (by decide) ?_
  refine lv_iload_n hx hb dX5_digest_6 rfl (lv_at hl 0 rfl) ?_
  refine lv_bipush (v := 9) hx hb dX5_digest_7 (by decide) ?_
  refine lv_icmp_gt (tgt := 32) hx hb dX5_digest_9 (by decide) (fun h9 => absurd h9 (by decide)) (fun _ => ?_)
  refine lv_lload_n hx hb dX5_digest_12 rfl (lv_at hl 1 rfl) ?_
  refine lv_aload_n hx hb dX5_digest_13 rfl (lv_at hl 2 rfl) ?_
  refine va_get (D := (dC, dI)) (ci := 7) (v := .ref bx) (C := RX5) (T := TX5) (N := 5) hx hb hts hinX5 hown hK hP 0 rfl rfl 0 (by decide) (hts (.fieldLink RX5 10 "BallotLoom" "box" "LBallotLoom$Box;") (by decide +kernel)) (fun _ h9 => h9) rfl dX5_digest_14 ?_
  refine lv_iload_n hx hb dX5_digest_17 rfl (lv_at hl 0 rfl) ?_
  have hPc := hP.sub (ws' := [(bx, .inr (2, [.ref b0, .ref b1, .int 0, .int 0, .ref b4, .int 0, .ref b6, .int 0, .int 0, .int 0, .int 0]))]) [8] rfl
  have hDc := hD.sub (ws' := [(bx, .inr (2, [.ref b0, .ref b1, .int 0, .int 0, .ref b4, .int 0, .ref b6, .int 0, .int 0, .int 0, .int 0]))]) [8] (by decide) rfl
  have hKc := hK.sub (tys' := []) [] rfl
  have hFc := va_free (wc := [(bx, .inr (2, [.ref b0, .ref b1, .int 0, .int 0, .ref b4, .int 0, .ref b6, .int 0, .int 0, .int 0, .int 0]))]) hD hS hA [8] rfl
  refine va_calli (va_runV (As := [.int 1]) (rest := [.long 1807548]) ⟨hx, hb, hml, hown, hts⟩ (c_X0_figure l dC dI bx b0 b1 b4 b6 (1 : Int32) _ (by decide)) (cwV 1 hts gX5_digest_X0_figure rfl rfl rfl (by decide +kernel) ⟨Nat.le_of_ble_eq_true rfl, Nat.le_of_ble_eq_true rfl⟩) ⟨pr_blind, va_recv hKc hPc (ci := 2) (q0 := 0) rfl rfl, fun U hU hW => ⟨rfl, pr_mk hU hW hPc hKc hDc⟩⟩ rfl rfl hl.1 rfl (lv_room (Nat.le_of_ble_eq_true rfl)) dX5_digest_18 ⟨Nat.le_of_ble_eq_true rfl, Nat.le_of_ble_eq_true rfl⟩) hS (fun q _ h => hFc q h) hFc (fun r_7 u_6 t H1 locs ht hvm hw hB hz1 hk1 hS => ?_)
  obtain ⟨hP1, hK1, hD1⟩ := hB
  rw [ht] at hP1
  obtain ⟨hP, hD⟩ := va_join (wr := [(x, .inr (7, [.ref bx, .ref po, .ref tr, .ref pa, .ref sp])), (pa, .inr (3, [.ref p_v, .int 0, .ref p_st, .ref p_ib, .ref p_di, .ref p_wa, .ref p_se, .ref p_vh, .ref p_re])), (p_v, .inl (cI, 4, .inl zi)), (p_st, .inl (cI, 4, .inl zi)), (p_ib, .inl (cZ, 4, .inl zi)), (p_di, .inl (cI, 4, .inl zi)), (p_wa, .inl (cI, 4, .inl zi)), (p_se, .inl (cI, 4, .inl zi))]) (w1 := [(bx, .inr (2, [.ref b0, .ref b1, .int 0, .int 0, .ref b4, .int 0, .ref b6, .int 0, .int 0, .int 0, .int 0]))]) hP hD [8] [0, 1, 2, 3, 4, 5, 6, 7] rfl rfl (by decide) (by decide) hk1 hFc hP1 hD1
  generalize H1 = H at hP hS ⊢
  have hP : va_P (dC, dI) vwCl [(x, .inr (7, [.ref bx, .ref po, .ref tr, .ref pa, .ref sp])), (pa, .inr (3, [.ref p_v, .int 0, .ref p_st, .ref p_ib, .ref p_di, .ref p_wa, .ref p_se, .ref p_vh, .ref p_re])), (p_v, .inl (cI, 4, .inl zi)), (p_st, .inl (cI, 4, .inl zi)), (p_ib, .inl (cZ, 4, .inl zi)), (p_di, .inl (cI, 4, .inl zi)), (p_wa, .inl (cI, 4, .inl zi)), (p_se, .inl (cI, 4, .inl zi)), (bx, .inr (2, [.ref b0, .ref b1, .int 0, .int 0, .ref b4, .int 0, .ref b6, .int 0, .int 0, .int 0, .int 0]))] H := hP
  have hD : va_D A [(x, .inr (7, [.ref bx, .ref po, .ref tr, .ref pa, .ref sp])), (pa, .inr (3, [.ref p_v, .int 0, .ref p_st, .ref p_ib, .ref p_di, .ref p_wa, .ref p_se, .ref p_vh, .ref p_re])), (p_v, .inl (cI, 4, .inl zi)), (p_st, .inl (cI, 4, .inl zi)), (p_ib, .inl (cZ, 4, .inl zi)), (p_di, .inl (cI, 4, .inl zi)), (p_wa, .inl (cI, 4, .inl zi)), (p_se, .inl (cI, 4, .inl zi)), (bx, .inr (2, [.ref b0, .ref b1, .int 0, .int 0, .ref b4, .int 0, .ref b6, .int 0, .int 0, .int 0, .int 0]))] := hD
  refine W.widen (k := 0) (n := 0) (Nat.le_refl _) (Nat.le_refl _) ?_
  have hw : r_7 = 0 := hw
  subst hw
  refine lv_i2l (v := 0) hx hb dX5_digest_21 (by decide) ?_
  have hPc := hP.sub (ws' := []) [] rfl
  have hDc := hD.sub (ws' := []) [] (by decide) rfl
  have hKc := hK.sub (tys' := []) [] rfl
  have hFc := va_free (wc := []) hD hS hA [] rfl
  refine va_calll (va_runS (As := [.long 1807548, .long 0]) (rest := []) ⟨hx, hb, hml, hown, hts⟩ (c_X5_mix l dC dI (1807548 : Int64) (0 : Int64) _ ) (va_cwS 2 hts gX5_digest_X5_mix rfl rfl rfl (by decide +kernel) ⟨Nat.le_of_ble_eq_true rfl, Nat.le_of_ble_eq_true rfl⟩) ⟨pr_blind, fun U hU hW => ⟨rfl, pr_mk hU hW hPc hKc hDc⟩⟩ rfl rfl hl.1 rfl (lv_room (Nat.le_of_ble_eq_true rfl)) dX5_digest_22 ⟨Nat.le_of_ble_eq_true rfl, Nat.le_of_ble_eq_true rfl⟩) hS (fun q _ h => hFc q h) hFc (fun r_9 u_8 t H1 locs ht hvm hw hB hz1 hk1 hS => ?_)
  obtain ⟨hP1, hK1, hD1⟩ := hB
  rw [ht] at hP1
  obtain ⟨hP, hD⟩ := va_join (wr := [(x, .inr (7, [.ref bx, .ref po, .ref tr, .ref pa, .ref sp])), (pa, .inr (3, [.ref p_v, .int 0, .ref p_st, .ref p_ib, .ref p_di, .ref p_wa, .ref p_se, .ref p_vh, .ref p_re])), (p_v, .inl (cI, 4, .inl zi)), (p_st, .inl (cI, 4, .inl zi)), (p_ib, .inl (cZ, 4, .inl zi)), (p_di, .inl (cI, 4, .inl zi)), (p_wa, .inl (cI, 4, .inl zi)), (p_se, .inl (cI, 4, .inl zi)), (bx, .inr (2, [.ref b0, .ref b1, .int 0, .int 0, .ref b4, .int 0, .ref b6, .int 0, .int 0, .int 0, .int 0]))]) (w1 := []) hP hD [] [0, 1, 2, 3, 4, 5, 6, 7, 8] rfl rfl (by decide) (by decide) hk1 hFc hP1 hD1
  generalize H1 = H at hP hS ⊢
  have hP : va_P (dC, dI) vwCl [(x, .inr (7, [.ref bx, .ref po, .ref tr, .ref pa, .ref sp])), (pa, .inr (3, [.ref p_v, .int 0, .ref p_st, .ref p_ib, .ref p_di, .ref p_wa, .ref p_se, .ref p_vh, .ref p_re])), (p_v, .inl (cI, 4, .inl zi)), (p_st, .inl (cI, 4, .inl zi)), (p_ib, .inl (cZ, 4, .inl zi)), (p_di, .inl (cI, 4, .inl zi)), (p_wa, .inl (cI, 4, .inl zi)), (p_se, .inl (cI, 4, .inl zi)), (bx, .inr (2, [.ref b0, .ref b1, .int 0, .int 0, .ref b4, .int 0, .ref b6, .int 0, .int 0, .int 0, .int 0]))] H := hP
  have hD : va_D A [(x, .inr (7, [.ref bx, .ref po, .ref tr, .ref pa, .ref sp])), (pa, .inr (3, [.ref p_v, .int 0, .ref p_st, .ref p_ib, .ref p_di, .ref p_wa, .ref p_se, .ref p_vh, .ref p_re])), (p_v, .inl (cI, 4, .inl zi)), (p_st, .inl (cI, 4, .inl zi)), (p_ib, .inl (cZ, 4, .inl zi)), (p_di, .inl (cI, 4, .inl zi)), (p_wa, .inl (cI, 4, .inl zi)), (p_se, .inl (cI, 4, .inl zi)), (bx, .inr (2, [.ref b0, .ref b1, .int 0, .int 0, .ref b4, .int 0, .ref b6, .int 0, .int 0, .int 0, .int 0]))] := hD
  refine W.widen (k := 0) (n := 0) (Nat.le_refl _) (Nat.le_refl _) ?_
  have hw : r_9 = ((1807548 * 31) + 0) := hw
  subst hw
  refine lv_topl (fun y_10 ey_10 => ?_)
  obtain rfl : y_10 = 56033988 := ey_10.trans (by decide +kernel)
  refine lv_lstore_n (lv' := [(1, .long 56033988), (3, .int 1), (0, .ref x)]) hx hb dX5_digest_25 rfl hl (by decide) rfl (fun ls hl => ?_)
  refine lv_iinc (k := 1) (v := 2) (lv' := [(3, .int 2), (1, .long 56033988), (0, .ref x)]) hx hb dX5_digest_26 hl rfl (by decide) (by decide) rfl (fun ls hl => ?_)
  refine lv_goto (tgt := 6) hx hb dX5_digest_29 (by decide) ?_
  refine lv_iload_n hx hb dX5_digest_6 rfl (lv_at hl 0 rfl) ?_
  refine lv_bipush (v := 9) hx hb dX5_digest_7 (by decide) ?_
  refine lv_icmp_gt (tgt := 32) hx hb dX5_digest_9 (by decide) (fun h9 => absurd h9 (by decide)) (fun _ => ?_)
  refine lv_lload_n hx hb dX5_digest_12 rfl (lv_at hl 1 rfl) ?_
  refine lv_aload_n hx hb dX5_digest_13 rfl (lv_at hl 2 rfl) ?_
  refine va_get (D := (dC, dI)) (ci := 7) (v := .ref bx) (C := RX5) (T := TX5) (N := 5) hx hb hts hinX5 hown hK hP 0 rfl rfl 0 (by decide) (hts (.fieldLink RX5 10 "BallotLoom" "box" "LBallotLoom$Box;") (by decide +kernel)) (fun _ h9 => h9) rfl dX5_digest_14 ?_
  refine lv_iload_n hx hb dX5_digest_17 rfl (lv_at hl 0 rfl) ?_
  have hPc := hP.sub (ws' := [(bx, .inr (2, [.ref b0, .ref b1, .int 0, .int 0, .ref b4, .int 0, .ref b6, .int 0, .int 0, .int 0, .int 0]))]) [8] rfl
  have hDc := hD.sub (ws' := [(bx, .inr (2, [.ref b0, .ref b1, .int 0, .int 0, .ref b4, .int 0, .ref b6, .int 0, .int 0, .int 0, .int 0]))]) [8] (by decide) rfl
  have hKc := hK.sub (tys' := []) [] rfl
  have hFc := va_free (wc := [(bx, .inr (2, [.ref b0, .ref b1, .int 0, .int 0, .ref b4, .int 0, .ref b6, .int 0, .int 0, .int 0, .int 0]))]) hD hS hA [8] rfl
  refine va_calli (va_runV (As := [.int 2]) (rest := [.long 56033988]) ⟨hx, hb, hml, hown, hts⟩ (c_X0_figure l dC dI bx b0 b1 b4 b6 (2 : Int32) _ (by decide)) (cwV 1 hts gX5_digest_X0_figure rfl rfl rfl (by decide +kernel) ⟨Nat.le_of_ble_eq_true rfl, Nat.le_of_ble_eq_true rfl⟩) ⟨pr_blind, va_recv hKc hPc (ci := 2) (q0 := 0) rfl rfl, fun U hU hW => ⟨rfl, pr_mk hU hW hPc hKc hDc⟩⟩ rfl rfl hl.1 rfl (lv_room (Nat.le_of_ble_eq_true rfl)) dX5_digest_18 ⟨Nat.le_of_ble_eq_true rfl, Nat.le_of_ble_eq_true rfl⟩) hS (fun q _ h => hFc q h) hFc (fun r_12 u_11 t H1 locs ht hvm hw hB hz1 hk1 hS => ?_)
  obtain ⟨hP1, hK1, hD1⟩ := hB
  rw [ht] at hP1
  obtain ⟨hP, hD⟩ := va_join (wr := [(x, .inr (7, [.ref bx, .ref po, .ref tr, .ref pa, .ref sp])), (pa, .inr (3, [.ref p_v, .int 0, .ref p_st, .ref p_ib, .ref p_di, .ref p_wa, .ref p_se, .ref p_vh, .ref p_re])), (p_v, .inl (cI, 4, .inl zi)), (p_st, .inl (cI, 4, .inl zi)), (p_ib, .inl (cZ, 4, .inl zi)), (p_di, .inl (cI, 4, .inl zi)), (p_wa, .inl (cI, 4, .inl zi)), (p_se, .inl (cI, 4, .inl zi))]) (w1 := [(bx, .inr (2, [.ref b0, .ref b1, .int 0, .int 0, .ref b4, .int 0, .ref b6, .int 0, .int 0, .int 0, .int 0]))]) hP hD [8] [0, 1, 2, 3, 4, 5, 6, 7] rfl rfl (by decide) (by decide) hk1 hFc hP1 hD1
  generalize H1 = H at hP hS ⊢
  have hP : va_P (dC, dI) vwCl [(x, .inr (7, [.ref bx, .ref po, .ref tr, .ref pa, .ref sp])), (pa, .inr (3, [.ref p_v, .int 0, .ref p_st, .ref p_ib, .ref p_di, .ref p_wa, .ref p_se, .ref p_vh, .ref p_re])), (p_v, .inl (cI, 4, .inl zi)), (p_st, .inl (cI, 4, .inl zi)), (p_ib, .inl (cZ, 4, .inl zi)), (p_di, .inl (cI, 4, .inl zi)), (p_wa, .inl (cI, 4, .inl zi)), (p_se, .inl (cI, 4, .inl zi)), (bx, .inr (2, [.ref b0, .ref b1, .int 0, .int 0, .ref b4, .int 0, .ref b6, .int 0, .int 0, .int 0, .int 0]))] H := hP
  have hD : va_D A [(x, .inr (7, [.ref bx, .ref po, .ref tr, .ref pa, .ref sp])), (pa, .inr (3, [.ref p_v, .int 0, .ref p_st, .ref p_ib, .ref p_di, .ref p_wa, .ref p_se, .ref p_vh, .ref p_re])), (p_v, .inl (cI, 4, .inl zi)), (p_st, .inl (cI, 4, .inl zi)), (p_ib, .inl (cZ, 4, .inl zi)), (p_di, .inl (cI, 4, .inl zi)), (p_wa, .inl (cI, 4, .inl zi)), (p_se, .inl (cI, 4, .inl zi)), (bx, .inr (2, [.ref b0, .ref b1, .int 0, .int 0, .ref b4, .int 0, .ref b6, .int 0, .int 0, .int 0, .int 0]))] := hD
  refine W.widen (k := 0) (n := 0) (Nat.le_refl _) (Nat.le_refl _) ?_
  have hw : r_12 = 0 := hw
  subst hw
  refine lv_i2l (v := 0) hx hb dX5_digest_21 (by decide) ?_
  have hPc := hP.sub (ws' := []) [] rfl
  have hDc := hD.sub (ws' := []) [] (by decide) rfl
  have hKc := hK.sub (tys' := []) [] rfl
  have hFc := va_free (wc := []) hD hS hA [] rfl
  refine va_calll (va_runS (As := [.long 56033988, .long 0]) (rest := []) ⟨hx, hb, hml, hown, hts⟩ (c_X5_mix l dC dI (56033988 : Int64) (0 : Int64) _ ) (va_cwS 2 hts gX5_digest_X5_mix rfl rfl rfl (by decide +kernel) ⟨Nat.le_of_ble_eq_true rfl, Nat.le_of_ble_eq_true rfl⟩) ⟨pr_blind, fun U hU hW => ⟨rfl, pr_mk hU hW hPc hKc hDc⟩⟩ rfl rfl hl.1 rfl (lv_room (Nat.le_of_ble_eq_true rfl)) dX5_digest_22 ⟨Nat.le_of_ble_eq_true rfl, Nat.le_of_ble_eq_true rfl⟩) hS (fun q _ h => hFc q h) hFc (fun r_14 u_13 t H1 locs ht hvm hw hB hz1 hk1 hS => ?_)
  obtain ⟨hP1, hK1, hD1⟩ := hB
  rw [ht] at hP1
  obtain ⟨hP, hD⟩ := va_join (wr := [(x, .inr (7, [.ref bx, .ref po, .ref tr, .ref pa, .ref sp])), (pa, .inr (3, [.ref p_v, .int 0, .ref p_st, .ref p_ib, .ref p_di, .ref p_wa, .ref p_se, .ref p_vh, .ref p_re])), (p_v, .inl (cI, 4, .inl zi)), (p_st, .inl (cI, 4, .inl zi)), (p_ib, .inl (cZ, 4, .inl zi)), (p_di, .inl (cI, 4, .inl zi)), (p_wa, .inl (cI, 4, .inl zi)), (p_se, .inl (cI, 4, .inl zi)), (bx, .inr (2, [.ref b0, .ref b1, .int 0, .int 0, .ref b4, .int 0, .ref b6, .int 0, .int 0, .int 0, .int 0]))]) (w1 := []) hP hD [] [0, 1, 2, 3, 4, 5, 6, 7, 8] rfl rfl (by decide) (by decide) hk1 hFc hP1 hD1
  generalize H1 = H at hP hS ⊢
  have hP : va_P (dC, dI) vwCl [(x, .inr (7, [.ref bx, .ref po, .ref tr, .ref pa, .ref sp])), (pa, .inr (3, [.ref p_v, .int 0, .ref p_st, .ref p_ib, .ref p_di, .ref p_wa, .ref p_se, .ref p_vh, .ref p_re])), (p_v, .inl (cI, 4, .inl zi)), (p_st, .inl (cI, 4, .inl zi)), (p_ib, .inl (cZ, 4, .inl zi)), (p_di, .inl (cI, 4, .inl zi)), (p_wa, .inl (cI, 4, .inl zi)), (p_se, .inl (cI, 4, .inl zi)), (bx, .inr (2, [.ref b0, .ref b1, .int 0, .int 0, .ref b4, .int 0, .ref b6, .int 0, .int 0, .int 0, .int 0]))] H := hP
  have hD : va_D A [(x, .inr (7, [.ref bx, .ref po, .ref tr, .ref pa, .ref sp])), (pa, .inr (3, [.ref p_v, .int 0, .ref p_st, .ref p_ib, .ref p_di, .ref p_wa, .ref p_se, .ref p_vh, .ref p_re])), (p_v, .inl (cI, 4, .inl zi)), (p_st, .inl (cI, 4, .inl zi)), (p_ib, .inl (cZ, 4, .inl zi)), (p_di, .inl (cI, 4, .inl zi)), (p_wa, .inl (cI, 4, .inl zi)), (p_se, .inl (cI, 4, .inl zi)), (bx, .inr (2, [.ref b0, .ref b1, .int 0, .int 0, .ref b4, .int 0, .ref b6, .int 0, .int 0, .int 0, .int 0]))] := hD
  refine W.widen (k := 0) (n := 0) (Nat.le_refl _) (Nat.le_refl _) ?_
  have hw : r_14 = ((56033988 * 31) + 0) := hw
  subst hw
  refine lv_topl (fun y_15 ey_15 => ?_)
  obtain rfl : y_15 = 1737053628 := ey_15.trans (by decide +kernel)
  refine lv_lstore_n (lv' := [(1, .long 1737053628), (3, .int 2), (0, .ref x)]) hx hb dX5_digest_25 rfl hl (by decide) rfl (fun ls hl => ?_)
  refine lv_iinc (k := 1) (v := 3) (lv' := [(3, .int 3), (1, .long 1737053628), (0, .ref x)]) hx hb dX5_digest_26 hl rfl (by decide) (by decide) rfl (fun ls hl => ?_)
  refine lv_goto (tgt := 6) hx hb dX5_digest_29 (by decide) ?_
  refine lv_iload_n hx hb dX5_digest_6 rfl (lv_at hl 0 rfl) ?_
  refine lv_bipush (v := 9) hx hb dX5_digest_7 (by decide) ?_
  refine lv_icmp_gt (tgt := 32) hx hb dX5_digest_9 (by decide) (fun h9 => absurd h9 (by decide)) (fun _ => ?_)
  refine lv_lload_n hx hb dX5_digest_12 rfl (lv_at hl 1 rfl) ?_
  refine lv_aload_n hx hb dX5_digest_13 rfl (lv_at hl 2 rfl) ?_
  refine va_get (D := (dC, dI)) (ci := 7) (v := .ref bx) (C := RX5) (T := TX5) (N := 5) hx hb hts hinX5 hown hK hP 0 rfl rfl 0 (by decide) (hts (.fieldLink RX5 10 "BallotLoom" "box" "LBallotLoom$Box;") (by decide +kernel)) (fun _ h9 => h9) rfl dX5_digest_14 ?_
  refine lv_iload_n hx hb dX5_digest_17 rfl (lv_at hl 0 rfl) ?_
  have hPc := hP.sub (ws' := [(bx, .inr (2, [.ref b0, .ref b1, .int 0, .int 0, .ref b4, .int 0, .ref b6, .int 0, .int 0, .int 0, .int 0]))]) [8] rfl
  have hDc := hD.sub (ws' := [(bx, .inr (2, [.ref b0, .ref b1, .int 0, .int 0, .ref b4, .int 0, .ref b6, .int 0, .int 0, .int 0, .int 0]))]) [8] (by decide) rfl
  have hKc := hK.sub (tys' := []) [] rfl
  have hFc := va_free (wc := [(bx, .inr (2, [.ref b0, .ref b1, .int 0, .int 0, .ref b4, .int 0, .ref b6, .int 0, .int 0, .int 0, .int 0]))]) hD hS hA [8] rfl
  refine va_calli (va_runV (As := [.int 3]) (rest := [.long 1737053628]) ⟨hx, hb, hml, hown, hts⟩ (c_X0_figure l dC dI bx b0 b1 b4 b6 (3 : Int32) _ (by decide)) (cwV 1 hts gX5_digest_X0_figure rfl rfl rfl (by decide +kernel) ⟨Nat.le_of_ble_eq_true rfl, Nat.le_of_ble_eq_true rfl⟩) ⟨pr_blind, va_recv hKc hPc (ci := 2) (q0 := 0) rfl rfl, fun U hU hW => ⟨rfl, pr_mk hU hW hPc hKc hDc⟩⟩ rfl rfl hl.1 rfl (lv_room (Nat.le_of_ble_eq_true rfl)) dX5_digest_18 ⟨Nat.le_of_ble_eq_true rfl, Nat.le_of_ble_eq_true rfl⟩) hS (fun q _ h => hFc q h) hFc (fun r_17 u_16 t H1 locs ht hvm hw hB hz1 hk1 hS => ?_)
  obtain ⟨hP1, hK1, hD1⟩ := hB
  rw [ht] at hP1
  obtain ⟨hP, hD⟩ := va_join (wr := [(x, .inr (7, [.ref bx, .ref po, .ref tr, .ref pa, .ref sp])), (pa, .inr (3, [.ref p_v, .int 0, .ref p_st, .ref p_ib, .ref p_di, .ref p_wa, .ref p_se, .ref p_vh, .ref p_re])), (p_v, .inl (cI, 4, .inl zi)), (p_st, .inl (cI, 4, .inl zi)), (p_ib, .inl (cZ, 4, .inl zi)), (p_di, .inl (cI, 4, .inl zi)), (p_wa, .inl (cI, 4, .inl zi)), (p_se, .inl (cI, 4, .inl zi))]) (w1 := [(bx, .inr (2, [.ref b0, .ref b1, .int 0, .int 0, .ref b4, .int 0, .ref b6, .int 0, .int 0, .int 0, .int 0]))]) hP hD [8] [0, 1, 2, 3, 4, 5, 6, 7] rfl rfl (by decide) (by decide) hk1 hFc hP1 hD1
  generalize H1 = H at hP hS ⊢
  have hP : va_P (dC, dI) vwCl [(x, .inr (7, [.ref bx, .ref po, .ref tr, .ref pa, .ref sp])), (pa, .inr (3, [.ref p_v, .int 0, .ref p_st, .ref p_ib, .ref p_di, .ref p_wa, .ref p_se, .ref p_vh, .ref p_re])), (p_v, .inl (cI, 4, .inl zi)), (p_st, .inl (cI, 4, .inl zi)), (p_ib, .inl (cZ, 4, .inl zi)), (p_di, .inl (cI, 4, .inl zi)), (p_wa, .inl (cI, 4, .inl zi)), (p_se, .inl (cI, 4, .inl zi)), (bx, .inr (2, [.ref b0, .ref b1, .int 0, .int 0, .ref b4, .int 0, .ref b6, .int 0, .int 0, .int 0, .int 0]))] H := hP
  have hD : va_D A [(x, .inr (7, [.ref bx, .ref po, .ref tr, .ref pa, .ref sp])), (pa, .inr (3, [.ref p_v, .int 0, .ref p_st, .ref p_ib, .ref p_di, .ref p_wa, .ref p_se, .ref p_vh, .ref p_re])), (p_v, .inl (cI, 4, .inl zi)), (p_st, .inl (cI, 4, .inl zi)), (p_ib, .inl (cZ, 4, .inl zi)), (p_di, .inl (cI, 4, .inl zi)), (p_wa, .inl (cI, 4, .inl zi)), (p_se, .inl (cI, 4, .inl zi)), (bx, .inr (2, [.ref b0, .ref b1, .int 0, .int 0, .ref b4, .int 0, .ref b6, .int 0, .int 0, .int 0, .int 0]))] := hD
  refine W.widen (k := 0) (n := 0) (Nat.le_refl _) (Nat.le_refl _) ?_
  have hw : r_17 = 0 := hw
  subst hw
  refine lv_i2l (v := 0) hx hb dX5_digest_21 (by decide) ?_
  have hPc := hP.sub (ws' := []) [] rfl
  have hDc := hD.sub (ws' := []) [] (by decide) rfl
  have hKc := hK.sub (tys' := []) [] rfl
  have hFc := va_free (wc := []) hD hS hA [] rfl
  refine va_calll (va_runS (As := [.long 1737053628, .long 0]) (rest := []) ⟨hx, hb, hml, hown, hts⟩ (c_X5_mix l dC dI (1737053628 : Int64) (0 : Int64) _ ) (va_cwS 2 hts gX5_digest_X5_mix rfl rfl rfl (by decide +kernel) ⟨Nat.le_of_ble_eq_true rfl, Nat.le_of_ble_eq_true rfl⟩) ⟨pr_blind, fun U hU hW => ⟨rfl, pr_mk hU hW hPc hKc hDc⟩⟩ rfl rfl hl.1 rfl (lv_room (Nat.le_of_ble_eq_true rfl)) dX5_digest_22 ⟨Nat.le_of_ble_eq_true rfl, Nat.le_of_ble_eq_true rfl⟩) hS (fun q _ h => hFc q h) hFc (fun r_19 u_18 t H1 locs ht hvm hw hB hz1 hk1 hS => ?_)
  obtain ⟨hP1, hK1, hD1⟩ := hB
  rw [ht] at hP1
  obtain ⟨hP, hD⟩ := va_join (wr := [(x, .inr (7, [.ref bx, .ref po, .ref tr, .ref pa, .ref sp])), (pa, .inr (3, [.ref p_v, .int 0, .ref p_st, .ref p_ib, .ref p_di, .ref p_wa, .ref p_se, .ref p_vh, .ref p_re])), (p_v, .inl (cI, 4, .inl zi)), (p_st, .inl (cI, 4, .inl zi)), (p_ib, .inl (cZ, 4, .inl zi)), (p_di, .inl (cI, 4, .inl zi)), (p_wa, .inl (cI, 4, .inl zi)), (p_se, .inl (cI, 4, .inl zi)), (bx, .inr (2, [.ref b0, .ref b1, .int 0, .int 0, .ref b4, .int 0, .ref b6, .int 0, .int 0, .int 0, .int 0]))]) (w1 := []) hP hD [] [0, 1, 2, 3, 4, 5, 6, 7, 8] rfl rfl (by decide) (by decide) hk1 hFc hP1 hD1
  generalize H1 = H at hP hS ⊢
  have hP : va_P (dC, dI) vwCl [(x, .inr (7, [.ref bx, .ref po, .ref tr, .ref pa, .ref sp])), (pa, .inr (3, [.ref p_v, .int 0, .ref p_st, .ref p_ib, .ref p_di, .ref p_wa, .ref p_se, .ref p_vh, .ref p_re])), (p_v, .inl (cI, 4, .inl zi)), (p_st, .inl (cI, 4, .inl zi)), (p_ib, .inl (cZ, 4, .inl zi)), (p_di, .inl (cI, 4, .inl zi)), (p_wa, .inl (cI, 4, .inl zi)), (p_se, .inl (cI, 4, .inl zi)), (bx, .inr (2, [.ref b0, .ref b1, .int 0, .int 0, .ref b4, .int 0, .ref b6, .int 0, .int 0, .int 0, .int 0]))] H := hP
  have hD : va_D A [(x, .inr (7, [.ref bx, .ref po, .ref tr, .ref pa, .ref sp])), (pa, .inr (3, [.ref p_v, .int 0, .ref p_st, .ref p_ib, .ref p_di, .ref p_wa, .ref p_se, .ref p_vh, .ref p_re])), (p_v, .inl (cI, 4, .inl zi)), (p_st, .inl (cI, 4, .inl zi)), (p_ib, .inl (cZ, 4, .inl zi)), (p_di, .inl (cI, 4, .inl zi)), (p_wa, .inl (cI, 4, .inl zi)), (p_se, .inl (cI, 4, .inl zi)), (bx, .inr (2, [.ref b0, .ref b1, .int 0, .int 0, .ref b4, .int 0, .ref b6, .int 0, .int 0, .int 0, .int 0]))] := hD
  refine W.widen (k := 0) (n := 0) (Nat.le_refl _) (Nat.le_refl _) ?_
  have hw : r_19 = ((1737053628 * 31) + 0) := hw
  subst hw
  refine lv_topl (fun y_20 ey_20 => ?_)
  obtain rfl : y_20 = 53848662468 := ey_20.trans (by decide +kernel)
  refine lv_lstore_n (lv' := [(1, .long 53848662468), (3, .int 3), (0, .ref x)]) hx hb dX5_digest_25 rfl hl (by decide) rfl (fun ls hl => ?_)
  refine lv_iinc (k := 1) (v := 4) (lv' := [(3, .int 4), (1, .long 53848662468), (0, .ref x)]) hx hb dX5_digest_26 hl rfl (by decide) (by decide) rfl (fun ls hl => ?_)
  refine lv_goto (tgt := 6) hx hb dX5_digest_29 (by decide) ?_
  refine lv_iload_n hx hb dX5_digest_6 rfl (lv_at hl 0 rfl) ?_
  refine lv_bipush (v := 9) hx hb dX5_digest_7 (by decide) ?_
  refine lv_icmp_gt (tgt := 32) hx hb dX5_digest_9 (by decide) (fun h9 => absurd h9 (by decide)) (fun _ => ?_)
  refine lv_lload_n hx hb dX5_digest_12 rfl (lv_at hl 1 rfl) ?_
  refine lv_aload_n hx hb dX5_digest_13 rfl (lv_at hl 2 rfl) ?_
  refine va_get (D := (dC, dI)) (ci := 7) (v := .ref bx) (C := RX5) (T := TX5) (N := 5) hx hb hts hinX5 hown hK hP 0 rfl rfl 0 (by decide) (hts (.fieldLink RX5 10 "BallotLoom" "box" "LBallotLoom$Box;") (by decide +kernel)) (fun _ h9 => h9) rfl dX5_digest_14 ?_
  refine lv_iload_n hx hb dX5_digest_17 rfl (lv_at hl 0 rfl) ?_
  have hPc := hP.sub (ws' := [(bx, .inr (2, [.ref b0, .ref b1, .int 0, .int 0, .ref b4, .int 0, .ref b6, .int 0, .int 0, .int 0, .int 0]))]) [8] rfl
  have hDc := hD.sub (ws' := [(bx, .inr (2, [.ref b0, .ref b1, .int 0, .int 0, .ref b4, .int 0, .ref b6, .int 0, .int 0, .int 0, .int 0]))]) [8] (by decide) rfl
  have hKc := hK.sub (tys' := []) [] rfl
  have hFc := va_free (wc := [(bx, .inr (2, [.ref b0, .ref b1, .int 0, .int 0, .ref b4, .int 0, .ref b6, .int 0, .int 0, .int 0, .int 0]))]) hD hS hA [8] rfl
  refine va_calli (va_runV (As := [.int 4]) (rest := [.long 53848662468]) ⟨hx, hb, hml, hown, hts⟩ (c_X0_figure l dC dI bx b0 b1 b4 b6 (4 : Int32) _ (by decide)) (cwV 1 hts gX5_digest_X0_figure rfl rfl rfl (by decide +kernel) ⟨Nat.le_of_ble_eq_true rfl, Nat.le_of_ble_eq_true rfl⟩) ⟨pr_blind, va_recv hKc hPc (ci := 2) (q0 := 0) rfl rfl, fun U hU hW => ⟨rfl, pr_mk hU hW hPc hKc hDc⟩⟩ rfl rfl hl.1 rfl (lv_room (Nat.le_of_ble_eq_true rfl)) dX5_digest_18 ⟨Nat.le_of_ble_eq_true rfl, Nat.le_of_ble_eq_true rfl⟩) hS (fun q _ h => hFc q h) hFc (fun r_22 u_21 t H1 locs ht hvm hw hB hz1 hk1 hS => ?_)
  obtain ⟨hP1, hK1, hD1⟩ := hB
  rw [ht] at hP1
  obtain ⟨hP, hD⟩ := va_join (wr := [(x, .inr (7, [.ref bx, .ref po, .ref tr, .ref pa, .ref sp])), (pa, .inr (3, [.ref p_v, .int 0, .ref p_st, .ref p_ib, .ref p_di, .ref p_wa, .ref p_se, .ref p_vh, .ref p_re])), (p_v, .inl (cI, 4, .inl zi)), (p_st, .inl (cI, 4, .inl zi)), (p_ib, .inl (cZ, 4, .inl zi)), (p_di, .inl (cI, 4, .inl zi)), (p_wa, .inl (cI, 4, .inl zi)), (p_se, .inl (cI, 4, .inl zi))]) (w1 := [(bx, .inr (2, [.ref b0, .ref b1, .int 0, .int 0, .ref b4, .int 0, .ref b6, .int 0, .int 0, .int 0, .int 0]))]) hP hD [8] [0, 1, 2, 3, 4, 5, 6, 7] rfl rfl (by decide) (by decide) hk1 hFc hP1 hD1
  generalize H1 = H at hP hS ⊢
  have hP : va_P (dC, dI) vwCl [(x, .inr (7, [.ref bx, .ref po, .ref tr, .ref pa, .ref sp])), (pa, .inr (3, [.ref p_v, .int 0, .ref p_st, .ref p_ib, .ref p_di, .ref p_wa, .ref p_se, .ref p_vh, .ref p_re])), (p_v, .inl (cI, 4, .inl zi)), (p_st, .inl (cI, 4, .inl zi)), (p_ib, .inl (cZ, 4, .inl zi)), (p_di, .inl (cI, 4, .inl zi)), (p_wa, .inl (cI, 4, .inl zi)), (p_se, .inl (cI, 4, .inl zi)), (bx, .inr (2, [.ref b0, .ref b1, .int 0, .int 0, .ref b4, .int 0, .ref b6, .int 0, .int 0, .int 0, .int 0]))] H := hP
  have hD : va_D A [(x, .inr (7, [.ref bx, .ref po, .ref tr, .ref pa, .ref sp])), (pa, .inr (3, [.ref p_v, .int 0, .ref p_st, .ref p_ib, .ref p_di, .ref p_wa, .ref p_se, .ref p_vh, .ref p_re])), (p_v, .inl (cI, 4, .inl zi)), (p_st, .inl (cI, 4, .inl zi)), (p_ib, .inl (cZ, 4, .inl zi)), (p_di, .inl (cI, 4, .inl zi)), (p_wa, .inl (cI, 4, .inl zi)), (p_se, .inl (cI, 4, .inl zi)), (bx, .inr (2, [.ref b0, .ref b1, .int 0, .int 0, .ref b4, .int 0, .ref b6, .int 0, .int 0, .int 0, .int 0]))] := hD
  refine W.widen (k := 0) (n := 0) (Nat.le_refl _) (Nat.le_refl _) ?_
  have hw : r_22 = 0 := hw
  subst hw
  refine lv_i2l (v := 0) hx hb dX5_digest_21 (by decide) ?_
  have hPc := hP.sub (ws' := []) [] rfl
  have hDc := hD.sub (ws' := []) [] (by decide) rfl
  have hKc := hK.sub (tys' := []) [] rfl
  have hFc := va_free (wc := []) hD hS hA [] rfl
  refine va_calll (va_runS (As := [.long 53848662468, .long 0]) (rest := []) ⟨hx, hb, hml, hown, hts⟩ (c_X5_mix l dC dI (53848662468 : Int64) (0 : Int64) _ ) (va_cwS 2 hts gX5_digest_X5_mix rfl rfl rfl (by decide +kernel) ⟨Nat.le_of_ble_eq_true rfl, Nat.le_of_ble_eq_true rfl⟩) ⟨pr_blind, fun U hU hW => ⟨rfl, pr_mk hU hW hPc hKc hDc⟩⟩ rfl rfl hl.1 rfl (lv_room (Nat.le_of_ble_eq_true rfl)) dX5_digest_22 ⟨Nat.le_of_ble_eq_true rfl, Nat.le_of_ble_eq_true rfl⟩) hS (fun q _ h => hFc q h) hFc (fun r_24 u_23 t H1 locs ht hvm hw hB hz1 hk1 hS => ?_)
  obtain ⟨hP1, hK1, hD1⟩ := hB
  rw [ht] at hP1
  obtain ⟨hP, hD⟩ := va_join (wr := [(x, .inr (7, [.ref bx, .ref po, .ref tr, .ref pa, .ref sp])), (pa, .inr (3, [.ref p_v, .int 0, .ref p_st, .ref p_ib, .ref p_di, .ref p_wa, .ref p_se, .ref p_vh, .ref p_re])), (p_v, .inl (cI, 4, .inl zi)), (p_st, .inl (cI, 4, .inl zi)), (p_ib, .inl (cZ, 4, .inl zi)), (p_di, .inl (cI, 4, .inl zi)), (p_wa, .inl (cI, 4, .inl zi)), (p_se, .inl (cI, 4, .inl zi)), (bx, .inr (2, [.ref b0, .ref b1, .int 0, .int 0, .ref b4, .int 0, .ref b6, .int 0, .int 0, .int 0, .int 0]))]) (w1 := []) hP hD [] [0, 1, 2, 3, 4, 5, 6, 7, 8] rfl rfl (by decide) (by decide) hk1 hFc hP1 hD1
  generalize H1 = H at hP hS ⊢
  have hP : va_P (dC, dI) vwCl [(x, .inr (7, [.ref bx, .ref po, .ref tr, .ref pa, .ref sp])), (pa, .inr (3, [.ref p_v, .int 0, .ref p_st, .ref p_ib, .ref p_di, .ref p_wa, .ref p_se, .ref p_vh, .ref p_re])), (p_v, .inl (cI, 4, .inl zi)), (p_st, .inl (cI, 4, .inl zi)), (p_ib, .inl (cZ, 4, .inl zi)), (p_di, .inl (cI, 4, .inl zi)), (p_wa, .inl (cI, 4, .inl zi)), (p_se, .inl (cI, 4, .inl zi)), (bx, .inr (2, [.ref b0, .ref b1, .int 0, .int 0, .ref b4, .int 0, .ref b6, .int 0, .int 0, .int 0, .int 0]))] H := hP
  have hD : va_D A [(x, .inr (7, [.ref bx, .ref po, .ref tr, .ref pa, .ref sp])), (pa, .inr (3, [.ref p_v, .int 0, .ref p_st, .ref p_ib, .ref p_di, .ref p_wa, .ref p_se, .ref p_vh, .ref p_re])), (p_v, .inl (cI, 4, .inl zi)), (p_st, .inl (cI, 4, .inl zi)), (p_ib, .inl (cZ, 4, .inl zi)), (p_di, .inl (cI, 4, .inl zi)), (p_wa, .inl (cI, 4, .inl zi)), (p_se, .inl (cI, 4, .inl zi)), (bx, .inr (2, [.ref b0, .ref b1, .int 0, .int 0, .ref b4, .int 0, .ref b6, .int 0, .int 0, .int 0, .int 0]))] := hD
  refine W.widen (k := 0) (n := 0) (Nat.le_refl _) (Nat.le_refl _) ?_
  have hw : r_24 = ((53848662468 * 31) + 0) := hw
  subst hw
  refine lv_topl (fun y_25 ey_25 => ?_)
  obtain rfl : y_25 = 1669308536508 := ey_25.trans (by decide +kernel)
  refine lv_lstore_n (lv' := [(1, .long 1669308536508), (3, .int 4), (0, .ref x)]) hx hb dX5_digest_25 rfl hl (by decide) rfl (fun ls hl => ?_)
  refine lv_iinc (k := 1) (v := 5) (lv' := [(3, .int 5), (1, .long 1669308536508), (0, .ref x)]) hx hb dX5_digest_26 hl rfl (by decide) (by decide) rfl (fun ls hl => ?_)
  refine lv_goto (tgt := 6) hx hb dX5_digest_29 (by decide) ?_
  refine lv_iload_n hx hb dX5_digest_6 rfl (lv_at hl 0 rfl) ?_
  refine lv_bipush (v := 9) hx hb dX5_digest_7 (by decide) ?_
  refine lv_icmp_gt (tgt := 32) hx hb dX5_digest_9 (by decide) (fun h9 => absurd h9 (by decide)) (fun _ => ?_)
  refine lv_lload_n hx hb dX5_digest_12 rfl (lv_at hl 1 rfl) ?_
  refine lv_aload_n hx hb dX5_digest_13 rfl (lv_at hl 2 rfl) ?_
  refine va_get (D := (dC, dI)) (ci := 7) (v := .ref bx) (C := RX5) (T := TX5) (N := 5) hx hb hts hinX5 hown hK hP 0 rfl rfl 0 (by decide) (hts (.fieldLink RX5 10 "BallotLoom" "box" "LBallotLoom$Box;") (by decide +kernel)) (fun _ h9 => h9) rfl dX5_digest_14 ?_
  refine lv_iload_n hx hb dX5_digest_17 rfl (lv_at hl 0 rfl) ?_
  have hPc := hP.sub (ws' := [(bx, .inr (2, [.ref b0, .ref b1, .int 0, .int 0, .ref b4, .int 0, .ref b6, .int 0, .int 0, .int 0, .int 0]))]) [8] rfl
  have hDc := hD.sub (ws' := [(bx, .inr (2, [.ref b0, .ref b1, .int 0, .int 0, .ref b4, .int 0, .ref b6, .int 0, .int 0, .int 0, .int 0]))]) [8] (by decide) rfl
  have hKc := hK.sub (tys' := []) [] rfl
  have hFc := va_free (wc := [(bx, .inr (2, [.ref b0, .ref b1, .int 0, .int 0, .ref b4, .int 0, .ref b6, .int 0, .int 0, .int 0, .int 0]))]) hD hS hA [8] rfl
  refine va_calli (va_runV (As := [.int 5]) (rest := [.long 1669308536508]) ⟨hx, hb, hml, hown, hts⟩ (c_X0_figure l dC dI bx b0 b1 b4 b6 (5 : Int32) _ (by decide)) (cwV 1 hts gX5_digest_X0_figure rfl rfl rfl (by decide +kernel) ⟨Nat.le_of_ble_eq_true rfl, Nat.le_of_ble_eq_true rfl⟩) ⟨pr_blind, va_recv hKc hPc (ci := 2) (q0 := 0) rfl rfl, fun U hU hW => ⟨rfl, pr_mk hU hW hPc hKc hDc⟩⟩ rfl rfl hl.1 rfl (lv_room (Nat.le_of_ble_eq_true rfl)) dX5_digest_18 ⟨Nat.le_of_ble_eq_true rfl, Nat.le_of_ble_eq_true rfl⟩) hS (fun q _ h => hFc q h) hFc (fun r_27 u_26 t H1 locs ht hvm hw hB hz1 hk1 hS => ?_)
  obtain ⟨hP1, hK1, hD1⟩ := hB
  rw [ht] at hP1
  obtain ⟨hP, hD⟩ := va_join (wr := [(x, .inr (7, [.ref bx, .ref po, .ref tr, .ref pa, .ref sp])), (pa, .inr (3, [.ref p_v, .int 0, .ref p_st, .ref p_ib, .ref p_di, .ref p_wa, .ref p_se, .ref p_vh, .ref p_re])), (p_v, .inl (cI, 4, .inl zi)), (p_st, .inl (cI, 4, .inl zi)), (p_ib, .inl (cZ, 4, .inl zi)), (p_di, .inl (cI, 4, .inl zi)), (p_wa, .inl (cI, 4, .inl zi)), (p_se, .inl (cI, 4, .inl zi))]) (w1 := [(bx, .inr (2, [.ref b0, .ref b1, .int 0, .int 0, .ref b4, .int 0, .ref b6, .int 0, .int 0, .int 0, .int 0]))]) hP hD [8] [0, 1, 2, 3, 4, 5, 6, 7] rfl rfl (by decide) (by decide) hk1 hFc hP1 hD1
  generalize H1 = H at hP hS ⊢
  have hP : va_P (dC, dI) vwCl [(x, .inr (7, [.ref bx, .ref po, .ref tr, .ref pa, .ref sp])), (pa, .inr (3, [.ref p_v, .int 0, .ref p_st, .ref p_ib, .ref p_di, .ref p_wa, .ref p_se, .ref p_vh, .ref p_re])), (p_v, .inl (cI, 4, .inl zi)), (p_st, .inl (cI, 4, .inl zi)), (p_ib, .inl (cZ, 4, .inl zi)), (p_di, .inl (cI, 4, .inl zi)), (p_wa, .inl (cI, 4, .inl zi)), (p_se, .inl (cI, 4, .inl zi)), (bx, .inr (2, [.ref b0, .ref b1, .int 0, .int 0, .ref b4, .int 0, .ref b6, .int 0, .int 0, .int 0, .int 0]))] H := hP
  have hD : va_D A [(x, .inr (7, [.ref bx, .ref po, .ref tr, .ref pa, .ref sp])), (pa, .inr (3, [.ref p_v, .int 0, .ref p_st, .ref p_ib, .ref p_di, .ref p_wa, .ref p_se, .ref p_vh, .ref p_re])), (p_v, .inl (cI, 4, .inl zi)), (p_st, .inl (cI, 4, .inl zi)), (p_ib, .inl (cZ, 4, .inl zi)), (p_di, .inl (cI, 4, .inl zi)), (p_wa, .inl (cI, 4, .inl zi)), (p_se, .inl (cI, 4, .inl zi)), (bx, .inr (2, [.ref b0, .ref b1, .int 0, .int 0, .ref b4, .int 0, .ref b6, .int 0, .int 0, .int 0, .int 0]))] := hD
  refine W.widen (k := 0) (n := 0) (Nat.le_refl _) (Nat.le_refl _) ?_
  have hw : r_27 = 0 := hw
  subst hw
  refine lv_i2l (v := 0) hx hb dX5_digest_21 (by decide) ?_
  have hPc := hP.sub (ws' := []) [] rfl
  have hDc := hD.sub (ws' := []) [] (by decide) rfl
  have hKc := hK.sub (tys' := []) [] rfl
  have hFc := va_free (wc := []) hD hS hA [] rfl
  refine va_calll (va_runS (As := [.long 1669308536508, .long 0]) (rest := []) ⟨hx, hb, hml, hown, hts⟩ (c_X5_mix l dC dI (1669308536508 : Int64) (0 : Int64) _ ) (va_cwS 2 hts gX5_digest_X5_mix rfl rfl rfl (by decide +kernel) ⟨Nat.le_of_ble_eq_true rfl, Nat.le_of_ble_eq_true rfl⟩) ⟨pr_blind, fun U hU hW => ⟨rfl, pr_mk hU hW hPc hKc hDc⟩⟩ rfl rfl hl.1 rfl (lv_room (Nat.le_of_ble_eq_true rfl)) dX5_digest_22 ⟨Nat.le_of_ble_eq_true rfl, Nat.le_of_ble_eq_true rfl⟩) hS (fun q _ h => hFc q h) hFc (fun r_29 u_28 t H1 locs ht hvm hw hB hz1 hk1 hS => ?_)
  obtain ⟨hP1, hK1, hD1⟩ := hB
  rw [ht] at hP1
  obtain ⟨hP, hD⟩ := va_join (wr := [(x, .inr (7, [.ref bx, .ref po, .ref tr, .ref pa, .ref sp])), (pa, .inr (3, [.ref p_v, .int 0, .ref p_st, .ref p_ib, .ref p_di, .ref p_wa, .ref p_se, .ref p_vh, .ref p_re])), (p_v, .inl (cI, 4, .inl zi)), (p_st, .inl (cI, 4, .inl zi)), (p_ib, .inl (cZ, 4, .inl zi)), (p_di, .inl (cI, 4, .inl zi)), (p_wa, .inl (cI, 4, .inl zi)), (p_se, .inl (cI, 4, .inl zi)), (bx, .inr (2, [.ref b0, .ref b1, .int 0, .int 0, .ref b4, .int 0, .ref b6, .int 0, .int 0, .int 0, .int 0]))]) (w1 := []) hP hD [] [0, 1, 2, 3, 4, 5, 6, 7, 8] rfl rfl (by decide) (by decide) hk1 hFc hP1 hD1
  generalize H1 = H at hP hS ⊢
  have hP : va_P (dC, dI) vwCl [(x, .inr (7, [.ref bx, .ref po, .ref tr, .ref pa, .ref sp])), (pa, .inr (3, [.ref p_v, .int 0, .ref p_st, .ref p_ib, .ref p_di, .ref p_wa, .ref p_se, .ref p_vh, .ref p_re])), (p_v, .inl (cI, 4, .inl zi)), (p_st, .inl (cI, 4, .inl zi)), (p_ib, .inl (cZ, 4, .inl zi)), (p_di, .inl (cI, 4, .inl zi)), (p_wa, .inl (cI, 4, .inl zi)), (p_se, .inl (cI, 4, .inl zi)), (bx, .inr (2, [.ref b0, .ref b1, .int 0, .int 0, .ref b4, .int 0, .ref b6, .int 0, .int 0, .int 0, .int 0]))] H := hP
  have hD : va_D A [(x, .inr (7, [.ref bx, .ref po, .ref tr, .ref pa, .ref sp])), (pa, .inr (3, [.ref p_v, .int 0, .ref p_st, .ref p_ib, .ref p_di, .ref p_wa, .ref p_se, .ref p_vh, .ref p_re])), (p_v, .inl (cI, 4, .inl zi)), (p_st, .inl (cI, 4, .inl zi)), (p_ib, .inl (cZ, 4, .inl zi)), (p_di, .inl (cI, 4, .inl zi)), (p_wa, .inl (cI, 4, .inl zi)), (p_se, .inl (cI, 4, .inl zi)), (bx, .inr (2, [.ref b0, .ref b1, .int 0, .int 0, .ref b4, .int 0, .ref b6, .int 0, .int 0, .int 0, .int 0]))] := hD
  refine W.widen (k := 0) (n := 0) (Nat.le_refl _) (Nat.le_refl _) ?_
  have hw : r_29 = ((1669308536508 * 31) + 0) := hw
  subst hw
  refine lv_topl (fun y_30 ey_30 => ?_)
  obtain rfl : y_30 = 51748564631748 := ey_30.trans (by decide +kernel)
  refine lv_lstore_n (lv' := [(1, .long 51748564631748), (3, .int 5), (0, .ref x)]) hx hb dX5_digest_25 rfl hl (by decide) rfl (fun ls hl => ?_)
  refine lv_iinc (k := 1) (v := 6) (lv' := [(3, .int 6), (1, .long 51748564631748), (0, .ref x)]) hx hb dX5_digest_26 hl rfl (by decide) (by decide) rfl (fun ls hl => ?_)
  refine lv_goto (tgt := 6) hx hb dX5_digest_29 (by decide) ?_
  refine lv_iload_n hx hb dX5_digest_6 rfl (lv_at hl 0 rfl) ?_
  refine lv_bipush (v := 9) hx hb dX5_digest_7 (by decide) ?_
  refine lv_icmp_gt (tgt := 32) hx hb dX5_digest_9 (by decide) (fun h9 => absurd h9 (by decide)) (fun _ => ?_)
  refine lv_lload_n hx hb dX5_digest_12 rfl (lv_at hl 1 rfl) ?_
  refine lv_aload_n hx hb dX5_digest_13 rfl (lv_at hl 2 rfl) ?_
  refine va_get (D := (dC, dI)) (ci := 7) (v := .ref bx) (C := RX5) (T := TX5) (N := 5) hx hb hts hinX5 hown hK hP 0 rfl rfl 0 (by decide) (hts (.fieldLink RX5 10 "BallotLoom" "box" "LBallotLoom$Box;") (by decide +kernel)) (fun _ h9 => h9) rfl dX5_digest_14 ?_
  refine lv_iload_n hx hb dX5_digest_17 rfl (lv_at hl 0 rfl) ?_
  have hPc := hP.sub (ws' := [(bx, .inr (2, [.ref b0, .ref b1, .int 0, .int 0, .ref b4, .int 0, .ref b6, .int 0, .int 0, .int 0, .int 0]))]) [8] rfl
  have hDc := hD.sub (ws' := [(bx, .inr (2, [.ref b0, .ref b1, .int 0, .int 0, .ref b4, .int 0, .ref b6, .int 0, .int 0, .int 0, .int 0]))]) [8] (by decide) rfl
  have hKc := hK.sub (tys' := []) [] rfl
  have hFc := va_free (wc := [(bx, .inr (2, [.ref b0, .ref b1, .int 0, .int 0, .ref b4, .int 0, .ref b6, .int 0, .int 0, .int 0, .int 0]))]) hD hS hA [8] rfl
  refine va_calli (va_runV (As := [.int 6]) (rest := [.long 51748564631748]) ⟨hx, hb, hml, hown, hts⟩ (c_X0_figure l dC dI bx b0 b1 b4 b6 (6 : Int32) _ (by decide)) (cwV 1 hts gX5_digest_X0_figure rfl rfl rfl (by decide +kernel) ⟨Nat.le_of_ble_eq_true rfl, Nat.le_of_ble_eq_true rfl⟩) ⟨pr_blind, va_recv hKc hPc (ci := 2) (q0 := 0) rfl rfl, fun U hU hW => ⟨rfl, pr_mk hU hW hPc hKc hDc⟩⟩ rfl rfl hl.1 rfl (lv_room (Nat.le_of_ble_eq_true rfl)) dX5_digest_18 ⟨Nat.le_of_ble_eq_true rfl, Nat.le_of_ble_eq_true rfl⟩) hS (fun q _ h => hFc q h) hFc (fun r_32 u_31 t H1 locs ht hvm hw hB hz1 hk1 hS => ?_)
  obtain ⟨hP1, hK1, hD1⟩ := hB
  rw [ht] at hP1
  obtain ⟨hP, hD⟩ := va_join (wr := [(x, .inr (7, [.ref bx, .ref po, .ref tr, .ref pa, .ref sp])), (pa, .inr (3, [.ref p_v, .int 0, .ref p_st, .ref p_ib, .ref p_di, .ref p_wa, .ref p_se, .ref p_vh, .ref p_re])), (p_v, .inl (cI, 4, .inl zi)), (p_st, .inl (cI, 4, .inl zi)), (p_ib, .inl (cZ, 4, .inl zi)), (p_di, .inl (cI, 4, .inl zi)), (p_wa, .inl (cI, 4, .inl zi)), (p_se, .inl (cI, 4, .inl zi))]) (w1 := [(bx, .inr (2, [.ref b0, .ref b1, .int 0, .int 0, .ref b4, .int 0, .ref b6, .int 0, .int 0, .int 0, .int 0]))]) hP hD [8] [0, 1, 2, 3, 4, 5, 6, 7] rfl rfl (by decide) (by decide) hk1 hFc hP1 hD1
  generalize H1 = H at hP hS ⊢
  have hP : va_P (dC, dI) vwCl [(x, .inr (7, [.ref bx, .ref po, .ref tr, .ref pa, .ref sp])), (pa, .inr (3, [.ref p_v, .int 0, .ref p_st, .ref p_ib, .ref p_di, .ref p_wa, .ref p_se, .ref p_vh, .ref p_re])), (p_v, .inl (cI, 4, .inl zi)), (p_st, .inl (cI, 4, .inl zi)), (p_ib, .inl (cZ, 4, .inl zi)), (p_di, .inl (cI, 4, .inl zi)), (p_wa, .inl (cI, 4, .inl zi)), (p_se, .inl (cI, 4, .inl zi)), (bx, .inr (2, [.ref b0, .ref b1, .int 0, .int 0, .ref b4, .int 0, .ref b6, .int 0, .int 0, .int 0, .int 0]))] H := hP
  have hD : va_D A [(x, .inr (7, [.ref bx, .ref po, .ref tr, .ref pa, .ref sp])), (pa, .inr (3, [.ref p_v, .int 0, .ref p_st, .ref p_ib, .ref p_di, .ref p_wa, .ref p_se, .ref p_vh, .ref p_re])), (p_v, .inl (cI, 4, .inl zi)), (p_st, .inl (cI, 4, .inl zi)), (p_ib, .inl (cZ, 4, .inl zi)), (p_di, .inl (cI, 4, .inl zi)), (p_wa, .inl (cI, 4, .inl zi)), (p_se, .inl (cI, 4, .inl zi)), (bx, .inr (2, [.ref b0, .ref b1, .int 0, .int 0, .ref b4, .int 0, .ref b6, .int 0, .int 0, .int 0, .int 0]))] := hD
  refine W.widen (k := 0) (n := 0) (Nat.le_refl _) (Nat.le_refl _) ?_
  have hw : r_32 = 0 := hw
  subst hw
  refine lv_i2l (v := 0) hx hb dX5_digest_21 (by decide) ?_
  have hPc := hP.sub (ws' := []) [] rfl
  have hDc := hD.sub (ws' := []) [] (by decide) rfl
  have hKc := hK.sub (tys' := []) [] rfl
  have hFc := va_free (wc := []) hD hS hA [] rfl
  refine va_calll (va_runS (As := [.long 51748564631748, .long 0]) (rest := []) ⟨hx, hb, hml, hown, hts⟩ (c_X5_mix l dC dI (51748564631748 : Int64) (0 : Int64) _ ) (va_cwS 2 hts gX5_digest_X5_mix rfl rfl rfl (by decide +kernel) ⟨Nat.le_of_ble_eq_true rfl, Nat.le_of_ble_eq_true rfl⟩) ⟨pr_blind, fun U hU hW => ⟨rfl, pr_mk hU hW hPc hKc hDc⟩⟩ rfl rfl hl.1 rfl (lv_room (Nat.le_of_ble_eq_true rfl)) dX5_digest_22 ⟨Nat.le_of_ble_eq_true rfl, Nat.le_of_ble_eq_true rfl⟩) hS (fun q _ h => hFc q h) hFc (fun r_34 u_33 t H1 locs ht hvm hw hB hz1 hk1 hS => ?_)
  obtain ⟨hP1, hK1, hD1⟩ := hB
  rw [ht] at hP1
  obtain ⟨hP, hD⟩ := va_join (wr := [(x, .inr (7, [.ref bx, .ref po, .ref tr, .ref pa, .ref sp])), (pa, .inr (3, [.ref p_v, .int 0, .ref p_st, .ref p_ib, .ref p_di, .ref p_wa, .ref p_se, .ref p_vh, .ref p_re])), (p_v, .inl (cI, 4, .inl zi)), (p_st, .inl (cI, 4, .inl zi)), (p_ib, .inl (cZ, 4, .inl zi)), (p_di, .inl (cI, 4, .inl zi)), (p_wa, .inl (cI, 4, .inl zi)), (p_se, .inl (cI, 4, .inl zi)), (bx, .inr (2, [.ref b0, .ref b1, .int 0, .int 0, .ref b4, .int 0, .ref b6, .int 0, .int 0, .int 0, .int 0]))]) (w1 := []) hP hD [] [0, 1, 2, 3, 4, 5, 6, 7, 8] rfl rfl (by decide) (by decide) hk1 hFc hP1 hD1
  generalize H1 = H at hP hS ⊢
  have hP : va_P (dC, dI) vwCl [(x, .inr (7, [.ref bx, .ref po, .ref tr, .ref pa, .ref sp])), (pa, .inr (3, [.ref p_v, .int 0, .ref p_st, .ref p_ib, .ref p_di, .ref p_wa, .ref p_se, .ref p_vh, .ref p_re])), (p_v, .inl (cI, 4, .inl zi)), (p_st, .inl (cI, 4, .inl zi)), (p_ib, .inl (cZ, 4, .inl zi)), (p_di, .inl (cI, 4, .inl zi)), (p_wa, .inl (cI, 4, .inl zi)), (p_se, .inl (cI, 4, .inl zi)), (bx, .inr (2, [.ref b0, .ref b1, .int 0, .int 0, .ref b4, .int 0, .ref b6, .int 0, .int 0, .int 0, .int 0]))] H := hP
  have hD : va_D A [(x, .inr (7, [.ref bx, .ref po, .ref tr, .ref pa, .ref sp])), (pa, .inr (3, [.ref p_v, .int 0, .ref p_st, .ref p_ib, .ref p_di, .ref p_wa, .ref p_se, .ref p_vh, .ref p_re])), (p_v, .inl (cI, 4, .inl zi)), (p_st, .inl (cI, 4, .inl zi)), (p_ib, .inl (cZ, 4, .inl zi)), (p_di, .inl (cI, 4, .inl zi)), (p_wa, .inl (cI, 4, .inl zi)), (p_se, .inl (cI, 4, .inl zi)), (bx, .inr (2, [.ref b0, .ref b1, .int 0, .int 0, .ref b4, .int 0, .ref b6, .int 0, .int 0, .int 0, .int 0]))] := hD
  refine W.widen (k := 0) (n := 0) (Nat.le_refl _) (Nat.le_refl _) ?_
  have hw : r_34 = ((51748564631748 * 31) + 0) := hw
  subst hw
  refine lv_topl (fun y_35 ey_35 => ?_)
  obtain rfl : y_35 = 1604205503584188 := ey_35.trans (by decide +kernel)
  refine lv_lstore_n (lv' := [(1, .long 1604205503584188), (3, .int 6), (0, .ref x)]) hx hb dX5_digest_25 rfl hl (by decide) rfl (fun ls hl => ?_)
  refine lv_iinc (k := 1) (v := 7) (lv' := [(3, .int 7), (1, .long 1604205503584188), (0, .ref x)]) hx hb dX5_digest_26 hl rfl (by decide) (by decide) rfl (fun ls hl => ?_)
  refine lv_goto (tgt := 6) hx hb dX5_digest_29 (by decide) ?_
  refine lv_iload_n hx hb dX5_digest_6 rfl (lv_at hl 0 rfl) ?_
  refine lv_bipush (v := 9) hx hb dX5_digest_7 (by decide) ?_
  refine lv_icmp_gt (tgt := 32) hx hb dX5_digest_9 (by decide) (fun h9 => absurd h9 (by decide)) (fun _ => ?_)
  refine lv_lload_n hx hb dX5_digest_12 rfl (lv_at hl 1 rfl) ?_
  refine lv_aload_n hx hb dX5_digest_13 rfl (lv_at hl 2 rfl) ?_
  refine va_get (D := (dC, dI)) (ci := 7) (v := .ref bx) (C := RX5) (T := TX5) (N := 5) hx hb hts hinX5 hown hK hP 0 rfl rfl 0 (by decide) (hts (.fieldLink RX5 10 "BallotLoom" "box" "LBallotLoom$Box;") (by decide +kernel)) (fun _ h9 => h9) rfl dX5_digest_14 ?_
  refine lv_iload_n hx hb dX5_digest_17 rfl (lv_at hl 0 rfl) ?_
  have hPc := hP.sub (ws' := [(bx, .inr (2, [.ref b0, .ref b1, .int 0, .int 0, .ref b4, .int 0, .ref b6, .int 0, .int 0, .int 0, .int 0]))]) [8] rfl
  have hDc := hD.sub (ws' := [(bx, .inr (2, [.ref b0, .ref b1, .int 0, .int 0, .ref b4, .int 0, .ref b6, .int 0, .int 0, .int 0, .int 0]))]) [8] (by decide) rfl
  have hKc := hK.sub (tys' := []) [] rfl
  have hFc := va_free (wc := [(bx, .inr (2, [.ref b0, .ref b1, .int 0, .int 0, .ref b4, .int 0, .ref b6, .int 0, .int 0, .int 0, .int 0]))]) hD hS hA [8] rfl
  refine va_calli (va_runV (As := [.int 7]) (rest := [.long 1604205503584188]) ⟨hx, hb, hml, hown, hts⟩ (c_X0_figure l dC dI bx b0 b1 b4 b6 (7 : Int32) _ (by decide)) (cwV 1 hts gX5_digest_X0_figure rfl rfl rfl (by decide +kernel) ⟨Nat.le_of_ble_eq_true rfl, Nat.le_of_ble_eq_true rfl⟩) ⟨pr_blind, va_recv hKc hPc (ci := 2) (q0 := 0) rfl rfl, fun U hU hW => ⟨rfl, pr_mk hU hW hPc hKc hDc⟩⟩ rfl rfl hl.1 rfl (lv_room (Nat.le_of_ble_eq_true rfl)) dX5_digest_18 ⟨Nat.le_of_ble_eq_true rfl, Nat.le_of_ble_eq_true rfl⟩) hS (fun q _ h => hFc q h) hFc (fun r_37 u_36 t H1 locs ht hvm hw hB hz1 hk1 hS => ?_)
  obtain ⟨hP1, hK1, hD1⟩ := hB
  rw [ht] at hP1
  obtain ⟨hP, hD⟩ := va_join (wr := [(x, .inr (7, [.ref bx, .ref po, .ref tr, .ref pa, .ref sp])), (pa, .inr (3, [.ref p_v, .int 0, .ref p_st, .ref p_ib, .ref p_di, .ref p_wa, .ref p_se, .ref p_vh, .ref p_re])), (p_v, .inl (cI, 4, .inl zi)), (p_st, .inl (cI, 4, .inl zi)), (p_ib, .inl (cZ, 4, .inl zi)), (p_di, .inl (cI, 4, .inl zi)), (p_wa, .inl (cI, 4, .inl zi)), (p_se, .inl (cI, 4, .inl zi))]) (w1 := [(bx, .inr (2, [.ref b0, .ref b1, .int 0, .int 0, .ref b4, .int 0, .ref b6, .int 0, .int 0, .int 0, .int 0]))]) hP hD [8] [0, 1, 2, 3, 4, 5, 6, 7] rfl rfl (by decide) (by decide) hk1 hFc hP1 hD1
  generalize H1 = H at hP hS ⊢
  have hP : va_P (dC, dI) vwCl [(x, .inr (7, [.ref bx, .ref po, .ref tr, .ref pa, .ref sp])), (pa, .inr (3, [.ref p_v, .int 0, .ref p_st, .ref p_ib, .ref p_di, .ref p_wa, .ref p_se, .ref p_vh, .ref p_re])), (p_v, .inl (cI, 4, .inl zi)), (p_st, .inl (cI, 4, .inl zi)), (p_ib, .inl (cZ, 4, .inl zi)), (p_di, .inl (cI, 4, .inl zi)), (p_wa, .inl (cI, 4, .inl zi)), (p_se, .inl (cI, 4, .inl zi)), (bx, .inr (2, [.ref b0, .ref b1, .int 0, .int 0, .ref b4, .int 0, .ref b6, .int 0, .int 0, .int 0, .int 0]))] H := hP
  have hD : va_D A [(x, .inr (7, [.ref bx, .ref po, .ref tr, .ref pa, .ref sp])), (pa, .inr (3, [.ref p_v, .int 0, .ref p_st, .ref p_ib, .ref p_di, .ref p_wa, .ref p_se, .ref p_vh, .ref p_re])), (p_v, .inl (cI, 4, .inl zi)), (p_st, .inl (cI, 4, .inl zi)), (p_ib, .inl (cZ, 4, .inl zi)), (p_di, .inl (cI, 4, .inl zi)), (p_wa, .inl (cI, 4, .inl zi)), (p_se, .inl (cI, 4, .inl zi)), (bx, .inr (2, [.ref b0, .ref b1, .int 0, .int 0, .ref b4, .int 0, .ref b6, .int 0, .int 0, .int 0, .int 0]))] := hD
  refine W.widen (k := 0) (n := 0) (Nat.le_refl _) (Nat.le_refl _) ?_
  have hw : r_37 = 0 := hw
  subst hw
  refine lv_i2l (v := 0) hx hb dX5_digest_21 (by decide) ?_
  have hPc := hP.sub (ws' := []) [] rfl
  have hDc := hD.sub (ws' := []) [] (by decide) rfl
  have hKc := hK.sub (tys' := []) [] rfl
  have hFc := va_free (wc := []) hD hS hA [] rfl
  refine va_calll (va_runS (As := [.long 1604205503584188, .long 0]) (rest := []) ⟨hx, hb, hml, hown, hts⟩ (c_X5_mix l dC dI (1604205503584188 : Int64) (0 : Int64) _ ) (va_cwS 2 hts gX5_digest_X5_mix rfl rfl rfl (by decide +kernel) ⟨Nat.le_of_ble_eq_true rfl, Nat.le_of_ble_eq_true rfl⟩) ⟨pr_blind, fun U hU hW => ⟨rfl, pr_mk hU hW hPc hKc hDc⟩⟩ rfl rfl hl.1 rfl (lv_room (Nat.le_of_ble_eq_true rfl)) dX5_digest_22 ⟨Nat.le_of_ble_eq_true rfl, Nat.le_of_ble_eq_true rfl⟩) hS (fun q _ h => hFc q h) hFc (fun r_39 u_38 t H1 locs ht hvm hw hB hz1 hk1 hS => ?_)
  obtain ⟨hP1, hK1, hD1⟩ := hB
  rw [ht] at hP1
  obtain ⟨hP, hD⟩ := va_join (wr := [(x, .inr (7, [.ref bx, .ref po, .ref tr, .ref pa, .ref sp])), (pa, .inr (3, [.ref p_v, .int 0, .ref p_st, .ref p_ib, .ref p_di, .ref p_wa, .ref p_se, .ref p_vh, .ref p_re])), (p_v, .inl (cI, 4, .inl zi)), (p_st, .inl (cI, 4, .inl zi)), (p_ib, .inl (cZ, 4, .inl zi)), (p_di, .inl (cI, 4, .inl zi)), (p_wa, .inl (cI, 4, .inl zi)), (p_se, .inl (cI, 4, .inl zi)), (bx, .inr (2, [.ref b0, .ref b1, .int 0, .int 0, .ref b4, .int 0, .ref b6, .int 0, .int 0, .int 0, .int 0]))]) (w1 := []) hP hD [] [0, 1, 2, 3, 4, 5, 6, 7, 8] rfl rfl (by decide) (by decide) hk1 hFc hP1 hD1
  generalize H1 = H at hP hS ⊢
  have hP : va_P (dC, dI) vwCl [(x, .inr (7, [.ref bx, .ref po, .ref tr, .ref pa, .ref sp])), (pa, .inr (3, [.ref p_v, .int 0, .ref p_st, .ref p_ib, .ref p_di, .ref p_wa, .ref p_se, .ref p_vh, .ref p_re])), (p_v, .inl (cI, 4, .inl zi)), (p_st, .inl (cI, 4, .inl zi)), (p_ib, .inl (cZ, 4, .inl zi)), (p_di, .inl (cI, 4, .inl zi)), (p_wa, .inl (cI, 4, .inl zi)), (p_se, .inl (cI, 4, .inl zi)), (bx, .inr (2, [.ref b0, .ref b1, .int 0, .int 0, .ref b4, .int 0, .ref b6, .int 0, .int 0, .int 0, .int 0]))] H := hP
  have hD : va_D A [(x, .inr (7, [.ref bx, .ref po, .ref tr, .ref pa, .ref sp])), (pa, .inr (3, [.ref p_v, .int 0, .ref p_st, .ref p_ib, .ref p_di, .ref p_wa, .ref p_se, .ref p_vh, .ref p_re])), (p_v, .inl (cI, 4, .inl zi)), (p_st, .inl (cI, 4, .inl zi)), (p_ib, .inl (cZ, 4, .inl zi)), (p_di, .inl (cI, 4, .inl zi)), (p_wa, .inl (cI, 4, .inl zi)), (p_se, .inl (cI, 4, .inl zi)), (bx, .inr (2, [.ref b0, .ref b1, .int 0, .int 0, .ref b4, .int 0, .ref b6, .int 0, .int 0, .int 0, .int 0]))] := hD
  refine W.widen (k := 0) (n := 0) (Nat.le_refl _) (Nat.le_refl _) ?_
  have hw : r_39 = ((1604205503584188 * 31) + 0) := hw
  subst hw
  refine lv_topl (fun y_40 ey_40 => ?_)
  obtain rfl : y_40 = 49730370611109828 := ey_40.trans (by decide +kernel)
  refine lv_lstore_n (lv' := [(1, .long 49730370611109828), (3, .int 7), (0, .ref x)]) hx hb dX5_digest_25 rfl hl (by decide) rfl (fun ls hl => ?_)
  refine lv_iinc (k := 1) (v := 8) (lv' := [(3, .int 8), (1, .long 49730370611109828), (0, .ref x)]) hx hb dX5_digest_26 hl rfl (by decide) (by decide) rfl (fun ls hl => ?_)
  refine lv_goto (tgt := 6) hx hb dX5_digest_29 (by decide) ?_
  refine lv_iload_n hx hb dX5_digest_6 rfl (lv_at hl 0 rfl) ?_
  refine lv_bipush (v := 9) hx hb dX5_digest_7 (by decide) ?_
  refine lv_icmp_gt (tgt := 32) hx hb dX5_digest_9 (by decide) (fun h9 => absurd h9 (by decide)) (fun _ => ?_)
  refine lv_lload_n hx hb dX5_digest_12 rfl (lv_at hl 1 rfl) ?_
  refine lv_aload_n hx hb dX5_digest_13 rfl (lv_at hl 2 rfl) ?_
  refine va_get (D := (dC, dI)) (ci := 7) (v := .ref bx) (C := RX5) (T := TX5) (N := 5) hx hb hts hinX5 hown hK hP 0 rfl rfl 0 (by decide) (hts (.fieldLink RX5 10 "BallotLoom" "box" "LBallotLoom$Box;") (by decide +kernel)) (fun _ h9 => h9) rfl dX5_digest_14 ?_
  refine lv_iload_n hx hb dX5_digest_17 rfl (lv_at hl 0 rfl) ?_
  have hPc := hP.sub (ws' := [(bx, .inr (2, [.ref b0, .ref b1, .int 0, .int 0, .ref b4, .int 0, .ref b6, .int 0, .int 0, .int 0, .int 0]))]) [8] rfl
  have hDc := hD.sub (ws' := [(bx, .inr (2, [.ref b0, .ref b1, .int 0, .int 0, .ref b4, .int 0, .ref b6, .int 0, .int 0, .int 0, .int 0]))]) [8] (by decide) rfl
  have hKc := hK.sub (tys' := []) [] rfl
  have hFc := va_free (wc := [(bx, .inr (2, [.ref b0, .ref b1, .int 0, .int 0, .ref b4, .int 0, .ref b6, .int 0, .int 0, .int 0, .int 0]))]) hD hS hA [8] rfl
  refine va_calli (va_runV (As := [.int 8]) (rest := [.long 49730370611109828]) ⟨hx, hb, hml, hown, hts⟩ (c_X0_figure l dC dI bx b0 b1 b4 b6 (8 : Int32) _ (by decide)) (cwV 1 hts gX5_digest_X0_figure rfl rfl rfl (by decide +kernel) ⟨Nat.le_of_ble_eq_true rfl, Nat.le_of_ble_eq_true rfl⟩) ⟨pr_blind, va_recv hKc hPc (ci := 2) (q0 := 0) rfl rfl, fun U hU hW => ⟨rfl, pr_mk hU hW hPc hKc hDc⟩⟩ rfl rfl hl.1 rfl (lv_room (Nat.le_of_ble_eq_true rfl)) dX5_digest_18 ⟨Nat.le_of_ble_eq_true rfl, Nat.le_of_ble_eq_true rfl⟩) hS (fun q _ h => hFc q h) hFc (fun r_42 u_41 t H1 locs ht hvm hw hB hz1 hk1 hS => ?_)
  obtain ⟨hP1, hK1, hD1⟩ := hB
  rw [ht] at hP1
  obtain ⟨hP, hD⟩ := va_join (wr := [(x, .inr (7, [.ref bx, .ref po, .ref tr, .ref pa, .ref sp])), (pa, .inr (3, [.ref p_v, .int 0, .ref p_st, .ref p_ib, .ref p_di, .ref p_wa, .ref p_se, .ref p_vh, .ref p_re])), (p_v, .inl (cI, 4, .inl zi)), (p_st, .inl (cI, 4, .inl zi)), (p_ib, .inl (cZ, 4, .inl zi)), (p_di, .inl (cI, 4, .inl zi)), (p_wa, .inl (cI, 4, .inl zi)), (p_se, .inl (cI, 4, .inl zi))]) (w1 := [(bx, .inr (2, [.ref b0, .ref b1, .int 0, .int 0, .ref b4, .int 0, .ref b6, .int 0, .int 0, .int 0, .int 0]))]) hP hD [8] [0, 1, 2, 3, 4, 5, 6, 7] rfl rfl (by decide) (by decide) hk1 hFc hP1 hD1
  generalize H1 = H at hP hS ⊢
  have hP : va_P (dC, dI) vwCl [(x, .inr (7, [.ref bx, .ref po, .ref tr, .ref pa, .ref sp])), (pa, .inr (3, [.ref p_v, .int 0, .ref p_st, .ref p_ib, .ref p_di, .ref p_wa, .ref p_se, .ref p_vh, .ref p_re])), (p_v, .inl (cI, 4, .inl zi)), (p_st, .inl (cI, 4, .inl zi)), (p_ib, .inl (cZ, 4, .inl zi)), (p_di, .inl (cI, 4, .inl zi)), (p_wa, .inl (cI, 4, .inl zi)), (p_se, .inl (cI, 4, .inl zi)), (bx, .inr (2, [.ref b0, .ref b1, .int 0, .int 0, .ref b4, .int 0, .ref b6, .int 0, .int 0, .int 0, .int 0]))] H := hP
  have hD : va_D A [(x, .inr (7, [.ref bx, .ref po, .ref tr, .ref pa, .ref sp])), (pa, .inr (3, [.ref p_v, .int 0, .ref p_st, .ref p_ib, .ref p_di, .ref p_wa, .ref p_se, .ref p_vh, .ref p_re])), (p_v, .inl (cI, 4, .inl zi)), (p_st, .inl (cI, 4, .inl zi)), (p_ib, .inl (cZ, 4, .inl zi)), (p_di, .inl (cI, 4, .inl zi)), (p_wa, .inl (cI, 4, .inl zi)), (p_se, .inl (cI, 4, .inl zi)), (bx, .inr (2, [.ref b0, .ref b1, .int 0, .int 0, .ref b4, .int 0, .ref b6, .int 0, .int 0, .int 0, .int 0]))] := hD
  refine W.widen (k := 0) (n := 0) (Nat.le_refl _) (Nat.le_refl _) ?_
  have hw : r_42 = 0 := hw
  subst hw
  refine lv_i2l (v := 0) hx hb dX5_digest_21 (by decide) ?_
  have hPc := hP.sub (ws' := []) [] rfl
  have hDc := hD.sub (ws' := []) [] (by decide) rfl
  have hKc := hK.sub (tys' := []) [] rfl
  have hFc := va_free (wc := []) hD hS hA [] rfl
  refine va_calll (va_runS (As := [.long 49730370611109828, .long 0]) (rest := []) ⟨hx, hb, hml, hown, hts⟩ (c_X5_mix l dC dI (49730370611109828 : Int64) (0 : Int64) _ ) (va_cwS 2 hts gX5_digest_X5_mix rfl rfl rfl (by decide +kernel) ⟨Nat.le_of_ble_eq_true rfl, Nat.le_of_ble_eq_true rfl⟩) ⟨pr_blind, fun U hU hW => ⟨rfl, pr_mk hU hW hPc hKc hDc⟩⟩ rfl rfl hl.1 rfl (lv_room (Nat.le_of_ble_eq_true rfl)) dX5_digest_22 ⟨Nat.le_of_ble_eq_true rfl, Nat.le_of_ble_eq_true rfl⟩) hS (fun q _ h => hFc q h) hFc (fun r_44 u_43 t H1 locs ht hvm hw hB hz1 hk1 hS => ?_)
  obtain ⟨hP1, hK1, hD1⟩ := hB
  rw [ht] at hP1
  obtain ⟨hP, hD⟩ := va_join (wr := [(x, .inr (7, [.ref bx, .ref po, .ref tr, .ref pa, .ref sp])), (pa, .inr (3, [.ref p_v, .int 0, .ref p_st, .ref p_ib, .ref p_di, .ref p_wa, .ref p_se, .ref p_vh, .ref p_re])), (p_v, .inl (cI, 4, .inl zi)), (p_st, .inl (cI, 4, .inl zi)), (p_ib, .inl (cZ, 4, .inl zi)), (p_di, .inl (cI, 4, .inl zi)), (p_wa, .inl (cI, 4, .inl zi)), (p_se, .inl (cI, 4, .inl zi)), (bx, .inr (2, [.ref b0, .ref b1, .int 0, .int 0, .ref b4, .int 0, .ref b6, .int 0, .int 0, .int 0, .int 0]))]) (w1 := []) hP hD [] [0, 1, 2, 3, 4, 5, 6, 7, 8] rfl rfl (by decide) (by decide) hk1 hFc hP1 hD1
  generalize H1 = H at hP hS ⊢
  have hP : va_P (dC, dI) vwCl [(x, .inr (7, [.ref bx, .ref po, .ref tr, .ref pa, .ref sp])), (pa, .inr (3, [.ref p_v, .int 0, .ref p_st, .ref p_ib, .ref p_di, .ref p_wa, .ref p_se, .ref p_vh, .ref p_re])), (p_v, .inl (cI, 4, .inl zi)), (p_st, .inl (cI, 4, .inl zi)), (p_ib, .inl (cZ, 4, .inl zi)), (p_di, .inl (cI, 4, .inl zi)), (p_wa, .inl (cI, 4, .inl zi)), (p_se, .inl (cI, 4, .inl zi)), (bx, .inr (2, [.ref b0, .ref b1, .int 0, .int 0, .ref b4, .int 0, .ref b6, .int 0, .int 0, .int 0, .int 0]))] H := hP
  have hD : va_D A [(x, .inr (7, [.ref bx, .ref po, .ref tr, .ref pa, .ref sp])), (pa, .inr (3, [.ref p_v, .int 0, .ref p_st, .ref p_ib, .ref p_di, .ref p_wa, .ref p_se, .ref p_vh, .ref p_re])), (p_v, .inl (cI, 4, .inl zi)), (p_st, .inl (cI, 4, .inl zi)), (p_ib, .inl (cZ, 4, .inl zi)), (p_di, .inl (cI, 4, .inl zi)), (p_wa, .inl (cI, 4, .inl zi)), (p_se, .inl (cI, 4, .inl zi)), (bx, .inr (2, [.ref b0, .ref b1, .int 0, .int 0, .ref b4, .int 0, .ref b6, .int 0, .int 0, .int 0, .int 0]))] := hD
  refine W.widen (k := 0) (n := 0) (Nat.le_refl _) (Nat.le_refl _) ?_
  have hw : r_44 = ((49730370611109828 * 31) + 0) := hw
  subst hw
  refine lv_topl (fun y_45 ey_45 => ?_)
  obtain rfl : y_45 = 1541641488944404668 := ey_45.trans (by decide +kernel)
  refine lv_lstore_n (lv' := [(1, .long 1541641488944404668), (3, .int 8), (0, .ref x)]) hx hb dX5_digest_25 rfl hl (by decide) rfl (fun ls hl => ?_)
  refine lv_iinc (k := 1) (v := 9) (lv' := [(3, .int 9), (1, .long 1541641488944404668), (0, .ref x)]) hx hb dX5_digest_26 hl rfl (by decide) (by decide) rfl (fun ls hl => ?_)
  refine lv_goto (tgt := 6) hx hb dX5_digest_29 (by decide) ?_
  refine lv_iload_n hx hb dX5_digest_6 rfl (lv_at hl 0 rfl) ?_
  refine lv_bipush (v := 9) hx hb dX5_digest_7 (by decide) ?_
  refine lv_icmp_gt (tgt := 32) hx hb dX5_digest_9 (by decide) (fun h9 => absurd h9 (by decide)) (fun _ => ?_)
  refine lv_lload_n hx hb dX5_digest_12 rfl (lv_at hl 1 rfl) ?_
  refine lv_aload_n hx hb dX5_digest_13 rfl (lv_at hl 2 rfl) ?_
  refine va_get (D := (dC, dI)) (ci := 7) (v := .ref bx) (C := RX5) (T := TX5) (N := 5) hx hb hts hinX5 hown hK hP 0 rfl rfl 0 (by decide) (hts (.fieldLink RX5 10 "BallotLoom" "box" "LBallotLoom$Box;") (by decide +kernel)) (fun _ h9 => h9) rfl dX5_digest_14 ?_
  refine lv_iload_n hx hb dX5_digest_17 rfl (lv_at hl 0 rfl) ?_
  have hPc := hP.sub (ws' := [(bx, .inr (2, [.ref b0, .ref b1, .int 0, .int 0, .ref b4, .int 0, .ref b6, .int 0, .int 0, .int 0, .int 0]))]) [8] rfl
  have hDc := hD.sub (ws' := [(bx, .inr (2, [.ref b0, .ref b1, .int 0, .int 0, .ref b4, .int 0, .ref b6, .int 0, .int 0, .int 0, .int 0]))]) [8] (by decide) rfl
  have hKc := hK.sub (tys' := []) [] rfl
  have hFc := va_free (wc := [(bx, .inr (2, [.ref b0, .ref b1, .int 0, .int 0, .ref b4, .int 0, .ref b6, .int 0, .int 0, .int 0, .int 0]))]) hD hS hA [8] rfl
  refine va_calli (va_runV (As := [.int 9]) (rest := [.long 1541641488944404668]) ⟨hx, hb, hml, hown, hts⟩ (c_X0_figure l dC dI bx b0 b1 b4 b6 (9 : Int32) _ (by decide)) (cwV 1 hts gX5_digest_X0_figure rfl rfl rfl (by decide +kernel) ⟨Nat.le_of_ble_eq_true rfl, Nat.le_of_ble_eq_true rfl⟩) ⟨pr_blind, va_recv hKc hPc (ci := 2) (q0 := 0) rfl rfl, fun U hU hW => ⟨rfl, pr_mk hU hW hPc hKc hDc⟩⟩ rfl rfl hl.1 rfl (lv_room (Nat.le_of_ble_eq_true rfl)) dX5_digest_18 ⟨Nat.le_of_ble_eq_true rfl, Nat.le_of_ble_eq_true rfl⟩) hS (fun q _ h => hFc q h) hFc (fun r_47 u_46 t H1 locs ht hvm hw hB hz1 hk1 hS => ?_)
  obtain ⟨hP1, hK1, hD1⟩ := hB
  rw [ht] at hP1
  obtain ⟨hP, hD⟩ := va_join (wr := [(x, .inr (7, [.ref bx, .ref po, .ref tr, .ref pa, .ref sp])), (pa, .inr (3, [.ref p_v, .int 0, .ref p_st, .ref p_ib, .ref p_di, .ref p_wa, .ref p_se, .ref p_vh, .ref p_re])), (p_v, .inl (cI, 4, .inl zi)), (p_st, .inl (cI, 4, .inl zi)), (p_ib, .inl (cZ, 4, .inl zi)), (p_di, .inl (cI, 4, .inl zi)), (p_wa, .inl (cI, 4, .inl zi)), (p_se, .inl (cI, 4, .inl zi))]) (w1 := [(bx, .inr (2, [.ref b0, .ref b1, .int 0, .int 0, .ref b4, .int 0, .ref b6, .int 0, .int 0, .int 0, .int 0]))]) hP hD [8] [0, 1, 2, 3, 4, 5, 6, 7] rfl rfl (by decide) (by decide) hk1 hFc hP1 hD1
  generalize H1 = H at hP hS ⊢
  have hP : va_P (dC, dI) vwCl [(x, .inr (7, [.ref bx, .ref po, .ref tr, .ref pa, .ref sp])), (pa, .inr (3, [.ref p_v, .int 0, .ref p_st, .ref p_ib, .ref p_di, .ref p_wa, .ref p_se, .ref p_vh, .ref p_re])), (p_v, .inl (cI, 4, .inl zi)), (p_st, .inl (cI, 4, .inl zi)), (p_ib, .inl (cZ, 4, .inl zi)), (p_di, .inl (cI, 4, .inl zi)), (p_wa, .inl (cI, 4, .inl zi)), (p_se, .inl (cI, 4, .inl zi)), (bx, .inr (2, [.ref b0, .ref b1, .int 0, .int 0, .ref b4, .int 0, .ref b6, .int 0, .int 0, .int 0, .int 0]))] H := hP
  have hD : va_D A [(x, .inr (7, [.ref bx, .ref po, .ref tr, .ref pa, .ref sp])), (pa, .inr (3, [.ref p_v, .int 0, .ref p_st, .ref p_ib, .ref p_di, .ref p_wa, .ref p_se, .ref p_vh, .ref p_re])), (p_v, .inl (cI, 4, .inl zi)), (p_st, .inl (cI, 4, .inl zi)), (p_ib, .inl (cZ, 4, .inl zi)), (p_di, .inl (cI, 4, .inl zi)), (p_wa, .inl (cI, 4, .inl zi)), (p_se, .inl (cI, 4, .inl zi)), (bx, .inr (2, [.ref b0, .ref b1, .int 0, .int 0, .ref b4, .int 0, .ref b6, .int 0, .int 0, .int 0, .int 0]))] := hD
  refine W.widen (k := 0) (n := 0) (Nat.le_refl _) (Nat.le_refl _) ?_
  have hw : r_47 = 0 := hw
  subst hw
  refine lv_i2l (v := 0) hx hb dX5_digest_21 (by decide) ?_
  have hPc := hP.sub (ws' := []) [] rfl
  have hDc := hD.sub (ws' := []) [] (by decide) rfl
  have hKc := hK.sub (tys' := []) [] rfl
  have hFc := va_free (wc := []) hD hS hA [] rfl
  refine va_calll (va_runS (As := [.long 1541641488944404668, .long 0]) (rest := []) ⟨hx, hb, hml, hown, hts⟩ (c_X5_mix l dC dI (1541641488944404668 : Int64) (0 : Int64) _ ) (va_cwS 2 hts gX5_digest_X5_mix rfl rfl rfl (by decide +kernel) ⟨Nat.le_of_ble_eq_true rfl, Nat.le_of_ble_eq_true rfl⟩) ⟨pr_blind, fun U hU hW => ⟨rfl, pr_mk hU hW hPc hKc hDc⟩⟩ rfl rfl hl.1 rfl (lv_room (Nat.le_of_ble_eq_true rfl)) dX5_digest_22 ⟨Nat.le_of_ble_eq_true rfl, Nat.le_of_ble_eq_true rfl⟩) hS (fun q _ h => hFc q h) hFc (fun r_49 u_48 t H1 locs ht hvm hw hB hz1 hk1 hS => ?_)
  obtain ⟨hP1, hK1, hD1⟩ := hB
  rw [ht] at hP1
  obtain ⟨hP, hD⟩ := va_join (wr := [(x, .inr (7, [.ref bx, .ref po, .ref tr, .ref pa, .ref sp])), (pa, .inr (3, [.ref p_v, .int 0, .ref p_st, .ref p_ib, .ref p_di, .ref p_wa, .ref p_se, .ref p_vh, .ref p_re])), (p_v, .inl (cI, 4, .inl zi)), (p_st, .inl (cI, 4, .inl zi)), (p_ib, .inl (cZ, 4, .inl zi)), (p_di, .inl (cI, 4, .inl zi)), (p_wa, .inl (cI, 4, .inl zi)), (p_se, .inl (cI, 4, .inl zi)), (bx, .inr (2, [.ref b0, .ref b1, .int 0, .int 0, .ref b4, .int 0, .ref b6, .int 0, .int 0, .int 0, .int 0]))]) (w1 := []) hP hD [] [0, 1, 2, 3, 4, 5, 6, 7, 8] rfl rfl (by decide) (by decide) hk1 hFc hP1 hD1
  generalize H1 = H at hP hS ⊢
  have hP : va_P (dC, dI) vwCl [(x, .inr (7, [.ref bx, .ref po, .ref tr, .ref pa, .ref sp])), (pa, .inr (3, [.ref p_v, .int 0, .ref p_st, .ref p_ib, .ref p_di, .ref p_wa, .ref p_se, .ref p_vh, .ref p_re])), (p_v, .inl (cI, 4, .inl zi)), (p_st, .inl (cI, 4, .inl zi)), (p_ib, .inl (cZ, 4, .inl zi)), (p_di, .inl (cI, 4, .inl zi)), (p_wa, .inl (cI, 4, .inl zi)), (p_se, .inl (cI, 4, .inl zi)), (bx, .inr (2, [.ref b0, .ref b1, .int 0, .int 0, .ref b4, .int 0, .ref b6, .int 0, .int 0, .int 0, .int 0]))] H := hP
  have hD : va_D A [(x, .inr (7, [.ref bx, .ref po, .ref tr, .ref pa, .ref sp])), (pa, .inr (3, [.ref p_v, .int 0, .ref p_st, .ref p_ib, .ref p_di, .ref p_wa, .ref p_se, .ref p_vh, .ref p_re])), (p_v, .inl (cI, 4, .inl zi)), (p_st, .inl (cI, 4, .inl zi)), (p_ib, .inl (cZ, 4, .inl zi)), (p_di, .inl (cI, 4, .inl zi)), (p_wa, .inl (cI, 4, .inl zi)), (p_se, .inl (cI, 4, .inl zi)), (bx, .inr (2, [.ref b0, .ref b1, .int 0, .int 0, .ref b4, .int 0, .ref b6, .int 0, .int 0, .int 0, .int 0]))] := hD
  refine W.widen (k := 0) (n := 0) (Nat.le_refl _) (Nat.le_refl _) ?_
  have hw : r_49 = ((1541641488944404668 * 31) + 0) := hw
  subst hw
  refine lv_topl (fun y_50 ey_50 => ?_)
  obtain rfl : y_50 = (-7549346063852110140) := ey_50.trans (by decide +kernel)
  refine lv_lstore_n (lv' := [(1, .long (-7549346063852110140)), (3, .int 9), (0, .ref x)]) hx hb dX5_digest_25 rfl hl (by decide) rfl (fun ls hl => ?_)
  refine lv_iinc (k := 1) (v := 10) (lv' := [(3, .int 10), (1, .long (-7549346063852110140)), (0, .ref x)]) hx hb dX5_digest_26 hl rfl (by decide) (by decide) rfl (fun ls hl => ?_)
  refine lv_goto (tgt := 6) hx hb dX5_digest_29 (by decide) ?_
  refine lv_iload_n hx hb dX5_digest_6 rfl (lv_at hl 0 rfl) ?_
  refine lv_bipush (v := 9) hx hb dX5_digest_7 (by decide) ?_
  refine lv_icmp_gt (tgt := 32) hx hb dX5_digest_9 (by decide) (fun _ => ?_) (fun h9 => absurd h9 (by decide))
  refine lv_iconst (v := 0) hx hb dX5_digest_32 (by decide) ?_
  refine lv_istore_n (lv' := [(3, .int 0), (1, .long (-7549346063852110140)), (0, .ref x)]) hx hb dX5_digest_33 rfl hl (by decide) rfl (fun ls hl => ?_)
  refine lv_iload_n hx hb dX5_digest_34 rfl (lv_at hl 0 rfl) ?_
  refine lv_aload_n hx hb dX5_digest_35 rfl (lv_at hl 2 rfl) ?_
  refine va_get (D := (dC, dI)) (ci := 7) (v := .ref bx) (C := RX5) (T := TX5) (N := 5) hx hb hts hinX5 hown hK hP 0 rfl rfl 0 (by decide) (hts (.fieldLink RX5 10 "BallotLoom" "box" "LBallotLoom$Box;") (by decide +kernel)) (fun _ h9 => h9) rfl dX5_digest_36 ?_
  have hinX0 : ∀ w ∈ u_ws RX0 TX0 11, w ∈ wsX5_digest := by decide +kernel
  refine va_get (D := (dC, dI)) (ci := 2) (v := .int 0) (C := RX0) (T := TX0) (N := 11) hx hb hts hinX0 hown hK hP 8 rfl rfl 5 (by decide) (hts (.fieldLink RX5 86 "BallotLoom$Box" "districts" "I") (by decide +kernel)) (fun _ h9 => h9) rfl dX5_digest_39 ?_
  refine lv_icmp_ge (tgt := 63) hx hb dX5_digest_42 (by decide) (fun _ => ?_) (fun h9 => absurd h9 (by decide))
  refine lv_iconst (v := 0) hx hb dX5_digest_63 (by decide) ?_
  refine lv_istore_n (lv' := [(3, .int 0), (1, .long (-7549346063852110140)), (0, .ref x)]) hx hb dX5_digest_64 rfl hl (by decide) rfl (fun ls hl => ?_)
  refine lv_iload_n hx hb dX5_digest_65 rfl (lv_at hl 0 rfl) ?_
  refine lv_aload_n hx hb dX5_digest_66 rfl (lv_at hl 2 rfl) ?_
  refine va_get (D := (dC, dI)) (ci := 7) (v := .ref bx) (C := RX5) (T := TX5) (N := 5) hx hb hts hinX5 hown hK hP 0 rfl rfl 0 (by decide) (hts (.fieldLink RX5 10 "BallotLoom" "box" "LBallotLoom$Box;") (by decide +kernel)) (fun _ h9 => h9) rfl dX5_digest_67 ?_
  refine va_get (D := (dC, dI)) (ci := 2) (v := .int 0) (C := RX0) (T := TX0) (N := 11) hx hb hts hinX0 hown hK hP 8 rfl rfl 7 (by decide) (hts (.fieldLink RX5 106 "BallotLoom$Box" "cast" "I") (by decide +kernel)) (fun _ h9 => h9) rfl dX5_digest_70 ?_
  refine lv_icmp_ge (tgt := 96) hx hb dX5_digest_73 (by decide) (fun _ => ?_) (fun h9 => absurd h9 (by decide))
  refine lv_iconst (v := 0) hx hb dX5_digest_96 (by decide) ?_
  refine lv_istore_n (lv' := [(3, .int 0), (1, .long (-7549346063852110140)), (0, .ref x)]) hx hb dX5_digest_97 rfl hl (by decide) rfl (fun ls hl => ?_)
  refine lv_iload_n hx hb dX5_digest_98 rfl (lv_at hl 0 rfl) ?_
  refine lv_aload_n hx hb dX5_digest_99 rfl (lv_at hl 2 rfl) ?_
  refine va_get (D := (dC, dI)) (ci := 7) (v := .ref bx) (C := RX5) (T := TX5) (N := 5) hx hb hts hinX5 hown hK hP 0 rfl rfl 0 (by decide) (hts (.fieldLink RX5 10 "BallotLoom" "box" "LBallotLoom$Box;") (by decide +kernel)) (fun _ h9 => h9) rfl dX5_digest_100 ?_
  refine va_get (D := (dC, dI)) (ci := 2) (v := .int 0) (C := RX0) (T := TX0) (N := 11) hx hb hts hinX0 hown hK hP 8 rfl rfl 5 (by decide) (hts (.fieldLink RX5 86 "BallotLoom$Box" "districts" "I") (by decide +kernel)) (fun _ h9 => h9) rfl dX5_digest_103 ?_
  refine lv_icmp_ge (tgt := 122) hx hb dX5_digest_106 (by decide) (fun _ => ?_) (fun h9 => absurd h9 (by decide))
  refine lv_aload_n hx hb dX5_digest_122 rfl (lv_at hl 2 rfl) ?_
  refine va_get (D := (dC, dI)) (ci := 7) (v := .ref pa) (C := RX5) (T := TX5) (N := 5) hx hb hts hinX5 hown hK hP 0 rfl rfl 3 (by decide) (hts (.fieldLink RX5 33 "BallotLoom" "parties" "LBallotLoom$Parties;") (by decide +kernel)) (fun _ h9 => h9) rfl dX5_digest_123 ?_
  refine lv_aload_n hx hb dX5_digest_126 rfl (lv_at hl 2 rfl) ?_
  refine va_get (D := (dC, dI)) (ci := 7) (v := .ref bx) (C := RX5) (T := TX5) (N := 5) hx hb hts hinX5 hown hK hP 0 rfl rfl 0 (by decide) (hts (.fieldLink RX5 10 "BallotLoom" "box" "LBallotLoom$Box;") (by decide +kernel)) (fun _ h9 => h9) rfl dX5_digest_127 ?_
  have hPc := hP.sub (ws' := [(pa, .inr (3, [.ref p_v, .int 0, .ref p_st, .ref p_ib, .ref p_di, .ref p_wa, .ref p_se, .ref p_vh, .ref p_re])), (bx, .inr (2, [.ref b0, .ref b1, .int 0, .int 0, .ref b4, .int 0, .ref b6, .int 0, .int 0, .int 0, .int 0])), (p_v, .inl (cI, 4, .inl zi)), (p_st, .inl (cI, 4, .inl zi)), (p_ib, .inl (cZ, 4, .inl zi))]) [1, 8, 2, 3, 4] rfl
  have hDc := hD.sub (ws' := [(pa, .inr (3, [.ref p_v, .int 0, .ref p_st, .ref p_ib, .ref p_di, .ref p_wa, .ref p_se, .ref p_vh, .ref p_re])), (bx, .inr (2, [.ref b0, .ref b1, .int 0, .int 0, .ref b4, .int 0, .ref b6, .int 0, .int 0, .int 0, .int 0])), (p_v, .inl (cI, 4, .inl zi)), (p_st, .inl (cI, 4, .inl zi)), (p_ib, .inl (cZ, 4, .inl zi))]) [1, 8, 2, 3, 4] (by decide) rfl
  have hKc := hK.sub (tys' := [(cI, .int), (cZ, .boolean)]) [0, 1] rfl
  have hFc := va_free (wc := [(pa, .inr (3, [.ref p_v, .int 0, .ref p_st, .ref p_ib, .ref p_di, .ref p_wa, .ref p_se, .ref p_vh, .ref p_re])), (bx, .inr (2, [.ref b0, .ref b1, .int 0, .int 0, .ref b4, .int 0, .ref b6, .int 0, .int 0, .int 0, .int 0])), (p_v, .inl (cI, 4, .inl zi)), (p_st, .inl (cI, 4, .inl zi)), (p_ib, .inl (cZ, 4, .inl zi))]) hD hS hA [1, 8, 2, 3, 4] rfl
  refine va_callv (va_runV (As := [.ref bx]) (rest := []) ⟨hx, hb, hml, hown, hts⟩ (c_X1_countVotes l dC dI pa p_v p_st p_ib p_di p_wa p_se p_vh p_re bx b0 b1 b4 b6 (0 : Int32) cI cZ _ ) (cwV 1 hts gX5_digest_X1_countVotes rfl rfl rfl (by decide +kernel) ⟨Nat.le_of_ble_eq_true rfl, Nat.le_of_ble_eq_true rfl⟩) ⟨pr_blind, va_recv hKc hPc (ci := 3) (q0 := 0) rfl rfl, fun U hU hW => ⟨rfl, pr_mk hU hW hPc hKc hDc⟩⟩ rfl rfl hl.1 rfl (lv_room (Nat.le_of_ble_eq_true rfl)) dX5_digest_130 ⟨Nat.le_of_ble_eq_true rfl, Nat.le_of_ble_eq_true rfl⟩) hS (fun q _ h => hFc q h) hFc (fun u_51 t H1 locs ht hvm hw hB hz1 hk1 hS => ?_)
  obtain ⟨hP1, hK1, hD1⟩ := hB
  rw [ht] at hP1
  obtain ⟨hP, hD⟩ := va_join (wr := [(x, .inr (7, [.ref bx, .ref po, .ref tr, .ref pa, .ref sp])), (p_di, .inl (cI, 4, .inl zi)), (p_wa, .inl (cI, 4, .inl zi)), (p_se, .inl (cI, 4, .inl zi))]) (w1 := [(pa, .inr (3, [.ref p_v, .int 0, .ref p_st, .ref p_ib, .ref p_di, .ref p_wa, .ref p_se, .ref p_vh, .ref p_re])), (bx, .inr (2, [.ref b0, .ref b1, .int 0, .int 0, .ref b4, .int 0, .ref b6, .int 0, .int 0, .int 0, .int 0])), (p_v, .inl (cI, 4, .inl zi)), (p_st, .inl (cI, 4, .inl zi)), (p_ib, .inl (cZ, 4, .inl zi))]) hP hD [1, 8, 2, 3, 4] [0, 5, 6, 7] rfl rfl (by decide) (by decide) hk1 hFc hP1 hD1
  generalize H1 = H at hP hS ⊢
  have hP : va_P (dC, dI) vwCl [(x, .inr (7, [.ref bx, .ref po, .ref tr, .ref pa, .ref sp])), (p_di, .inl (cI, 4, .inl zi)), (p_wa, .inl (cI, 4, .inl zi)), (p_se, .inl (cI, 4, .inl zi)), (pa, .inr (3, [.ref p_v, .int 0, .ref p_st, .ref p_ib, .ref p_di, .ref p_wa, .ref p_se, .ref p_vh, .ref p_re])), (bx, .inr (2, [.ref b0, .ref b1, .int 0, .int 0, .ref b4, .int 0, .ref b6, .int 0, .int 0, .int 0, .int 0])), (p_v, .inl (cI, 4, .inl zi)), (p_st, .inl (cI, 4, .inl zi)), (p_ib, .inl (cZ, 4, .inl zi))] H := hP
  have hD : va_D A [(x, .inr (7, [.ref bx, .ref po, .ref tr, .ref pa, .ref sp])), (p_di, .inl (cI, 4, .inl zi)), (p_wa, .inl (cI, 4, .inl zi)), (p_se, .inl (cI, 4, .inl zi)), (pa, .inr (3, [.ref p_v, .int 0, .ref p_st, .ref p_ib, .ref p_di, .ref p_wa, .ref p_se, .ref p_vh, .ref p_re])), (bx, .inr (2, [.ref b0, .ref b1, .int 0, .int 0, .ref b4, .int 0, .ref b6, .int 0, .int 0, .int 0, .int 0])), (p_v, .inl (cI, 4, .inl zi)), (p_st, .inl (cI, 4, .inl zi)), (p_ib, .inl (cZ, 4, .inl zi))] := hD
  refine W.widen (k := 0) (n := 0) (Nat.le_refl _) (Nat.le_refl _) ?_
  refine lv_aload_n hx hb dX5_digest_133 rfl (lv_at hl 2 rfl) ?_
  refine va_get (D := (dC, dI)) (ci := 7) (v := .ref pa) (C := RX5) (T := TX5) (N := 5) hx hb hts hinX5 hown hK hP 0 rfl rfl 3 (by decide) (hts (.fieldLink RX5 33 "BallotLoom" "parties" "LBallotLoom$Parties;") (by decide +kernel)) (fun _ h9 => h9) rfl dX5_digest_134 ?_
  refine lv_aload_n hx hb dX5_digest_137 rfl (lv_at hl 2 rfl) ?_
  refine va_get (D := (dC, dI)) (ci := 7) (v := .ref bx) (C := RX5) (T := TX5) (N := 5) hx hb hts hinX5 hown hK hP 0 rfl rfl 0 (by decide) (hts (.fieldLink RX5 10 "BallotLoom" "box" "LBallotLoom$Box;") (by decide +kernel)) (fun _ h9 => h9) rfl dX5_digest_138 ?_
  refine lv_aload_n hx hb dX5_digest_141 rfl (lv_at hl 2 rfl) ?_
  refine va_get (D := (dC, dI)) (ci := 7) (v := .ref po) (C := RX5) (T := TX5) (N := 5) hx hb hts hinX5 hown hK hP 0 rfl rfl 1 (by decide) (hts (.fieldLink RX5 19 "BallotLoom" "poll" "LBallotLoom$Poll;") (by decide +kernel)) (fun _ h9 => h9) rfl dX5_digest_142 ?_
  have hPc := hP.sub (ws' := [(pa, .inr (3, [.ref p_v, .int 0, .ref p_st, .ref p_ib, .ref p_di, .ref p_wa, .ref p_se, .ref p_vh, .ref p_re])), (bx, .inr (2, [.ref b0, .ref b1, .int 0, .int 0, .ref b4, .int 0, .ref b6, .int 0, .int 0, .int 0, .int 0])), (p_di, .inl (cI, 4, .inl zi)), (p_wa, .inl (cI, 4, .inl zi))]) [4, 5, 1, 2] rfl
  have hDc := hD.sub (ws' := [(pa, .inr (3, [.ref p_v, .int 0, .ref p_st, .ref p_ib, .ref p_di, .ref p_wa, .ref p_se, .ref p_vh, .ref p_re])), (bx, .inr (2, [.ref b0, .ref b1, .int 0, .int 0, .ref b4, .int 0, .ref b6, .int 0, .int 0, .int 0, .int 0])), (p_di, .inl (cI, 4, .inl zi)), (p_wa, .inl (cI, 4, .inl zi))]) [4, 5, 1, 2] (by decide) rfl
  have hKc := hK.sub (tys' := [(cI, .int)]) [0] rfl
  have hFc := va_free (wc := [(pa, .inr (3, [.ref p_v, .int 0, .ref p_st, .ref p_ib, .ref p_di, .ref p_wa, .ref p_se, .ref p_vh, .ref p_re])), (bx, .inr (2, [.ref b0, .ref b1, .int 0, .int 0, .ref b4, .int 0, .ref b6, .int 0, .int 0, .int 0, .int 0])), (p_di, .inl (cI, 4, .inl zi)), (p_wa, .inl (cI, 4, .inl zi))]) hD hS hA [4, 5, 1, 2] rfl
  refine va_callv (va_runV (As := [.ref bx, .ref po]) (rest := []) ⟨hx, hb, hml, hown, hts⟩ (c_X1_countDistricts l dC dI pa p_v p_st p_ib p_di p_wa p_se p_vh p_re bx b0 b1 b4 b6 po cI _ ) (cwV 2 hts gX5_digest_X1_countDistricts rfl rfl rfl (by decide +kernel) ⟨Nat.le_of_ble_eq_true rfl, Nat.le_of_ble_eq_true rfl⟩) ⟨pr_blind, va_recv hKc hPc (ci := 3) (q0 := 0) rfl rfl, fun U hU hW => ⟨rfl, pr_mk hU hW hPc hKc hDc⟩⟩ rfl rfl hl.1 rfl (lv_room (Nat.le_of_ble_eq_true rfl)) dX5_digest_145 ⟨Nat.le_of_ble_eq_true rfl, Nat.le_of_ble_eq_true rfl⟩) hS (fun q _ h => hFc q h) hFc (fun u_53 t H1 locs ht hvm hw hB hz1 hk1 hS => ?_)
  obtain ⟨hP1, hK1, hD1⟩ := hB
  rw [ht] at hP1
  obtain ⟨hP, hD⟩ := va_join (wr := [(x, .inr (7, [.ref bx, .ref po, .ref tr, .ref pa, .ref sp])), (p_se, .inl (cI, 4, .inl zi)), (p_v, .inl (cI, 4, .inl zi)), (p_st, .inl (cI, 4, .inl zi)), (p_ib, .inl (cZ, 4, .inl zi))]) (w1 := [(pa, .inr (3, [.ref p_v, .int 0, .ref p_st, .ref p_ib, .ref p_di, .ref p_wa, .ref p_se, .ref p_vh, .ref p_re])), (bx, .inr (2, [.ref b0, .ref b1, .int 0, .int 0, .ref b4, .int 0, .ref b6, .int 0, .int 0, .int 0, .int 0])), (p_di, .inl (cI, 4, .inl zi)), (p_wa, .inl (cI, 4, .inl zi))]) hP hD [4, 5, 1, 2] [0, 3, 6, 7, 8] rfl rfl (by decide) (by decide) hk1 hFc hP1 hD1
  generalize H1 = H at hP hS ⊢
  have hP : va_P (dC, dI) vwCl [(x, .inr (7, [.ref bx, .ref po, .ref tr, .ref pa, .ref sp])), (p_se, .inl (cI, 4, .inl zi)), (p_v, .inl (cI, 4, .inl zi)), (p_st, .inl (cI, 4, .inl zi)), (p_ib, .inl (cZ, 4, .inl zi)), (pa, .inr (3, [.ref p_v, .int 0, .ref p_st, .ref p_ib, .ref p_di, .ref p_wa, .ref p_se, .ref p_vh, .ref p_re])), (bx, .inr (2, [.ref b0, .ref b1, .int 0, .int 0, .ref b4, .int 0, .ref b6, .int 0, .int 0, .int 0, .int 0])), (p_di, .inl (cI, 4, .inl zi)), (p_wa, .inl (cI, 4, .inl zi))] H := hP
  have hD : va_D A [(x, .inr (7, [.ref bx, .ref po, .ref tr, .ref pa, .ref sp])), (p_se, .inl (cI, 4, .inl zi)), (p_v, .inl (cI, 4, .inl zi)), (p_st, .inl (cI, 4, .inl zi)), (p_ib, .inl (cZ, 4, .inl zi)), (pa, .inr (3, [.ref p_v, .int 0, .ref p_st, .ref p_ib, .ref p_di, .ref p_wa, .ref p_se, .ref p_vh, .ref p_re])), (bx, .inr (2, [.ref b0, .ref b1, .int 0, .int 0, .ref b4, .int 0, .ref b6, .int 0, .int 0, .int 0, .int 0])), (p_di, .inl (cI, 4, .inl zi)), (p_wa, .inl (cI, 4, .inl zi))] := hD
  refine W.widen (k := 0) (n := 0) (Nat.le_refl _) (Nat.le_refl _) ?_
  refine lv_iconst (v := 0) hx hb dX5_digest_148 (by decide) ?_
  refine lv_istore_n (lv' := [(3, .int 0), (1, .long (-7549346063852110140)), (0, .ref x)]) hx hb dX5_digest_149 rfl hl (by decide) rfl (fun ls hl => ?_)
  refine lv_iload_n hx hb dX5_digest_150 rfl (lv_at hl 0 rfl) ?_
  refine lv_iconst (v := 4) hx hb dX5_digest_151 (by decide) ?_
  refine lv_icmp_ge (tgt := 168) hx hb dX5_digest_152 (by decide) (fun h9 => absurd h9 (by decide)) (fun _ => ?_)
  refine lv_aload_n hx hb dX5_digest_155 rfl (lv_at hl 2 rfl) ?_
  refine lv_lload_n hx hb dX5_digest_156 rfl (lv_at hl 1 rfl) ?_
  refine lv_iload_n hx hb dX5_digest_157 rfl (lv_at hl 0 rfl) ?_
  have hPc := hP.sub (ws' := [(x, .inr (7, [.ref bx, .ref po, .ref tr, .ref pa, .ref sp])), (pa, .inr (3, [.ref p_v, .int 0, .ref p_st, .ref p_ib, .ref p_di, .ref p_wa, .ref p_se, .ref p_vh, .ref p_re])), (p_v, .inl (cI, 4, .inl zi)), (p_st, .inl (cI, 4, .inl zi)), (p_ib, .inl (cZ, 4, .inl zi)), (p_di, .inl (cI, 4, .inl zi)), (p_wa, .inl (cI, 4, .inl zi)), (p_se, .inl (cI, 4, .inl zi))]) [0, 5, 2, 3, 4, 7, 8, 1] rfl
  have hDc := hD.sub (ws' := [(x, .inr (7, [.ref bx, .ref po, .ref tr, .ref pa, .ref sp])), (pa, .inr (3, [.ref p_v, .int 0, .ref p_st, .ref p_ib, .ref p_di, .ref p_wa, .ref p_se, .ref p_vh, .ref p_re])), (p_v, .inl (cI, 4, .inl zi)), (p_st, .inl (cI, 4, .inl zi)), (p_ib, .inl (cZ, 4, .inl zi)), (p_di, .inl (cI, 4, .inl zi)), (p_wa, .inl (cI, 4, .inl zi)), (p_se, .inl (cI, 4, .inl zi))]) [0, 5, 2, 3, 4, 7, 8, 1] (by decide) rfl
  have hKc := hK.sub (tys' := [(cI, .int), (cZ, .boolean)]) [0, 1] rfl
  have hFc := va_free (wc := [(x, .inr (7, [.ref bx, .ref po, .ref tr, .ref pa, .ref sp])), (pa, .inr (3, [.ref p_v, .int 0, .ref p_st, .ref p_ib, .ref p_di, .ref p_wa, .ref p_se, .ref p_vh, .ref p_re])), (p_v, .inl (cI, 4, .inl zi)), (p_st, .inl (cI, 4, .inl zi)), (p_ib, .inl (cZ, 4, .inl zi)), (p_di, .inl (cI, 4, .inl zi)), (p_wa, .inl (cI, 4, .inl zi)), (p_se, .inl (cI, 4, .inl zi))]) hD hS hA [0, 5, 2, 3, 4, 7, 8, 1] rfl
  refine va_calll (va_runV (As := [.long (-7549346063852110140), .int 0]) (rest := []) ⟨hx, hb, hml, hown, hts⟩ (c_X5_mixParty l dC dI x po tr sp bx pa p_v p_st p_ib p_di p_wa p_se p_vh p_re cI cZ ((-7549346063852110140) : Int64) (0 : Int32) _ (by unfold vp_in; decide)) (cwV 2 hts gX5_digest_X5_mixParty rfl rfl rfl (by decide +kernel) ⟨Nat.le_of_ble_eq_true rfl, Nat.le_of_ble_eq_true rfl⟩) ⟨pr_blind, va_recv hKc hPc (ci := 7) (q0 := 0) rfl rfl, fun U hU hW => ⟨rfl, pr_mk hU hW hPc hKc hDc⟩⟩ rfl rfl hl.1 rfl (lv_room (Nat.le_of_ble_eq_true rfl)) dX5_digest_158 ⟨Nat.le_of_ble_eq_true rfl, Nat.le_of_ble_eq_true rfl⟩) hS (fun q _ h => hFc q h) hFc (fun r_56 u_55 t H1 locs ht hvm hw hB hz1 hk1 hS => ?_)
  obtain ⟨hP1, hK1, hD1⟩ := hB
  rw [ht] at hP1
  obtain ⟨hP, hD⟩ := va_join (wr := [(bx, .inr (2, [.ref b0, .ref b1, .int 0, .int 0, .ref b4, .int 0, .ref b6, .int 0, .int 0, .int 0, .int 0]))]) (w1 := [(x, .inr (7, [.ref bx, .ref po, .ref tr, .ref pa, .ref sp])), (pa, .inr (3, [.ref p_v, .int 0, .ref p_st, .ref p_ib, .ref p_di, .ref p_wa, .ref p_se, .ref p_vh, .ref p_re])), (p_v, .inl (cI, 4, .inl zi)), (p_st, .inl (cI, 4, .inl zi)), (p_ib, .inl (cZ, 4, .inl zi)), (p_di, .inl (cI, 4, .inl zi)), (p_wa, .inl (cI, 4, .inl zi)), (p_se, .inl (cI, 4, .inl zi))]) hP hD [0, 5, 2, 3, 4, 7, 8, 1] [6] rfl rfl (by decide) (by decide) hk1 hFc hP1 hD1
  generalize H1 = H at hP hS ⊢
  have hP : va_P (dC, dI) vwCl [(bx, .inr (2, [.ref b0, .ref b1, .int 0, .int 0, .ref b4, .int 0, .ref b6, .int 0, .int 0, .int 0, .int 0])), (x, .inr (7, [.ref bx, .ref po, .ref tr, .ref pa, .ref sp])), (pa, .inr (3, [.ref p_v, .int 0, .ref p_st, .ref p_ib, .ref p_di, .ref p_wa, .ref p_se, .ref p_vh, .ref p_re])), (p_v, .inl (cI, 4, .inl zi)), (p_st, .inl (cI, 4, .inl zi)), (p_ib, .inl (cZ, 4, .inl zi)), (p_di, .inl (cI, 4, .inl zi)), (p_wa, .inl (cI, 4, .inl zi)), (p_se, .inl (cI, 4, .inl zi))] H := hP
  have hD : va_D A [(bx, .inr (2, [.ref b0, .ref b1, .int 0, .int 0, .ref b4, .int 0, .ref b6, .int 0, .int 0, .int 0, .int 0])), (x, .inr (7, [.ref bx, .ref po, .ref tr, .ref pa, .ref sp])), (pa, .inr (3, [.ref p_v, .int 0, .ref p_st, .ref p_ib, .ref p_di, .ref p_wa, .ref p_se, .ref p_vh, .ref p_re])), (p_v, .inl (cI, 4, .inl zi)), (p_st, .inl (cI, 4, .inl zi)), (p_ib, .inl (cZ, 4, .inl zi)), (p_di, .inl (cI, 4, .inl zi)), (p_wa, .inl (cI, 4, .inl zi)), (p_se, .inl (cI, 4, .inl zi))] := hD
  refine W.widen (k := 0) (n := 0) (Nat.le_refl _) (Nat.le_refl _) ?_
  have hw : r_56 = mx 11 (-7549346063852110140) := hw
  subst hw
  refine lv_topl (fun y_57 ey_57 => ?_)
  obtain rfl : y_57 = (-3716690787973603652) := ey_57.trans (by decide +kernel)
  refine lv_lstore_n (lv' := [(1, .long (-3716690787973603652)), (3, .int 0), (0, .ref x)]) hx hb dX5_digest_161 rfl hl (by decide) rfl (fun ls hl => ?_)
  refine lv_iinc (k := 1) (v := 1) (lv' := [(3, .int 1), (1, .long (-3716690787973603652)), (0, .ref x)]) hx hb dX5_digest_162 hl rfl (by decide) (by decide) rfl (fun ls hl => ?_)
  refine lv_goto (tgt := 150) hx hb dX5_digest_165 (by decide) ?_
  refine lv_iload_n hx hb dX5_digest_150 rfl (lv_at hl 0 rfl) ?_
  refine lv_iconst (v := 4) hx hb dX5_digest_151 (by decide) ?_
  refine lv_icmp_ge (tgt := 168) hx hb dX5_digest_152 (by decide) (fun h9 => absurd h9 (by decide)) (fun _ => ?_)
  refine lv_aload_n hx hb dX5_digest_155 rfl (lv_at hl 2 rfl) ?_
  refine lv_lload_n hx hb dX5_digest_156 rfl (lv_at hl 1 rfl) ?_
  refine lv_iload_n hx hb dX5_digest_157 rfl (lv_at hl 0 rfl) ?_
  have hPc := hP.sub (ws' := [(x, .inr (7, [.ref bx, .ref po, .ref tr, .ref pa, .ref sp])), (pa, .inr (3, [.ref p_v, .int 0, .ref p_st, .ref p_ib, .ref p_di, .ref p_wa, .ref p_se, .ref p_vh, .ref p_re])), (p_v, .inl (cI, 4, .inl zi)), (p_st, .inl (cI, 4, .inl zi)), (p_ib, .inl (cZ, 4, .inl zi)), (p_di, .inl (cI, 4, .inl zi)), (p_wa, .inl (cI, 4, .inl zi)), (p_se, .inl (cI, 4, .inl zi))]) [1, 2, 3, 4, 5, 6, 7, 8] rfl
  have hDc := hD.sub (ws' := [(x, .inr (7, [.ref bx, .ref po, .ref tr, .ref pa, .ref sp])), (pa, .inr (3, [.ref p_v, .int 0, .ref p_st, .ref p_ib, .ref p_di, .ref p_wa, .ref p_se, .ref p_vh, .ref p_re])), (p_v, .inl (cI, 4, .inl zi)), (p_st, .inl (cI, 4, .inl zi)), (p_ib, .inl (cZ, 4, .inl zi)), (p_di, .inl (cI, 4, .inl zi)), (p_wa, .inl (cI, 4, .inl zi)), (p_se, .inl (cI, 4, .inl zi))]) [1, 2, 3, 4, 5, 6, 7, 8] (by decide) rfl
  have hKc := hK.sub (tys' := [(cI, .int), (cZ, .boolean)]) [0, 1] rfl
  have hFc := va_free (wc := [(x, .inr (7, [.ref bx, .ref po, .ref tr, .ref pa, .ref sp])), (pa, .inr (3, [.ref p_v, .int 0, .ref p_st, .ref p_ib, .ref p_di, .ref p_wa, .ref p_se, .ref p_vh, .ref p_re])), (p_v, .inl (cI, 4, .inl zi)), (p_st, .inl (cI, 4, .inl zi)), (p_ib, .inl (cZ, 4, .inl zi)), (p_di, .inl (cI, 4, .inl zi)), (p_wa, .inl (cI, 4, .inl zi)), (p_se, .inl (cI, 4, .inl zi))]) hD hS hA [1, 2, 3, 4, 5, 6, 7, 8] rfl
  refine va_calll (va_runV (As := [.long (-3716690787973603652), .int 1]) (rest := []) ⟨hx, hb, hml, hown, hts⟩ (c_X5_mixParty l dC dI x po tr sp bx pa p_v p_st p_ib p_di p_wa p_se p_vh p_re cI cZ ((-3716690787973603652) : Int64) (1 : Int32) _ (by unfold vp_in; decide)) (cwV 2 hts gX5_digest_X5_mixParty rfl rfl rfl (by decide +kernel) ⟨Nat.le_of_ble_eq_true rfl, Nat.le_of_ble_eq_true rfl⟩) ⟨pr_blind, va_recv hKc hPc (ci := 7) (q0 := 0) rfl rfl, fun U hU hW => ⟨rfl, pr_mk hU hW hPc hKc hDc⟩⟩ rfl rfl hl.1 rfl (lv_room (Nat.le_of_ble_eq_true rfl)) dX5_digest_158 ⟨Nat.le_of_ble_eq_true rfl, Nat.le_of_ble_eq_true rfl⟩) hS (fun q _ h => hFc q h) hFc (fun r_59 u_58 t H1 locs ht hvm hw hB hz1 hk1 hS => ?_)
  obtain ⟨hP1, hK1, hD1⟩ := hB
  rw [ht] at hP1
  obtain ⟨hP, hD⟩ := va_join (wr := [(bx, .inr (2, [.ref b0, .ref b1, .int 0, .int 0, .ref b4, .int 0, .ref b6, .int 0, .int 0, .int 0, .int 0]))]) (w1 := [(x, .inr (7, [.ref bx, .ref po, .ref tr, .ref pa, .ref sp])), (pa, .inr (3, [.ref p_v, .int 0, .ref p_st, .ref p_ib, .ref p_di, .ref p_wa, .ref p_se, .ref p_vh, .ref p_re])), (p_v, .inl (cI, 4, .inl zi)), (p_st, .inl (cI, 4, .inl zi)), (p_ib, .inl (cZ, 4, .inl zi)), (p_di, .inl (cI, 4, .inl zi)), (p_wa, .inl (cI, 4, .inl zi)), (p_se, .inl (cI, 4, .inl zi))]) hP hD [1, 2, 3, 4, 5, 6, 7, 8] [0] rfl rfl (by decide) (by decide) hk1 hFc hP1 hD1
  generalize H1 = H at hP hS ⊢
  have hP : va_P (dC, dI) vwCl [(bx, .inr (2, [.ref b0, .ref b1, .int 0, .int 0, .ref b4, .int 0, .ref b6, .int 0, .int 0, .int 0, .int 0])), (x, .inr (7, [.ref bx, .ref po, .ref tr, .ref pa, .ref sp])), (pa, .inr (3, [.ref p_v, .int 0, .ref p_st, .ref p_ib, .ref p_di, .ref p_wa, .ref p_se, .ref p_vh, .ref p_re])), (p_v, .inl (cI, 4, .inl zi)), (p_st, .inl (cI, 4, .inl zi)), (p_ib, .inl (cZ, 4, .inl zi)), (p_di, .inl (cI, 4, .inl zi)), (p_wa, .inl (cI, 4, .inl zi)), (p_se, .inl (cI, 4, .inl zi))] H := hP
  have hD : va_D A [(bx, .inr (2, [.ref b0, .ref b1, .int 0, .int 0, .ref b4, .int 0, .ref b6, .int 0, .int 0, .int 0, .int 0])), (x, .inr (7, [.ref bx, .ref po, .ref tr, .ref pa, .ref sp])), (pa, .inr (3, [.ref p_v, .int 0, .ref p_st, .ref p_ib, .ref p_di, .ref p_wa, .ref p_se, .ref p_vh, .ref p_re])), (p_v, .inl (cI, 4, .inl zi)), (p_st, .inl (cI, 4, .inl zi)), (p_ib, .inl (cZ, 4, .inl zi)), (p_di, .inl (cI, 4, .inl zi)), (p_wa, .inl (cI, 4, .inl zi)), (p_se, .inl (cI, 4, .inl zi))] := hD
  refine W.widen (k := 0) (n := 0) (Nat.le_refl _) (Nat.le_refl _) ?_
  have hw : r_59 = mx 11 (-3716690787973603652) := hw
  subst hw
  refine lv_topl (fun y_60 ey_60 => ?_)
  obtain rfl : y_60 = 1436548855404483524 := ey_60.trans (by decide +kernel)
  refine lv_lstore_n (lv' := [(1, .long 1436548855404483524), (3, .int 1), (0, .ref x)]) hx hb dX5_digest_161 rfl hl (by decide) rfl (fun ls hl => ?_)
  refine lv_iinc (k := 1) (v := 2) (lv' := [(3, .int 2), (1, .long 1436548855404483524), (0, .ref x)]) hx hb dX5_digest_162 hl rfl (by decide) (by decide) rfl (fun ls hl => ?_)
  refine lv_goto (tgt := 150) hx hb dX5_digest_165 (by decide) ?_
  refine lv_iload_n hx hb dX5_digest_150 rfl (lv_at hl 0 rfl) ?_
  refine lv_iconst (v := 4) hx hb dX5_digest_151 (by decide) ?_
  refine lv_icmp_ge (tgt := 168) hx hb dX5_digest_152 (by decide) (fun h9 => absurd h9 (by decide)) (fun _ => ?_)
  refine lv_aload_n hx hb dX5_digest_155 rfl (lv_at hl 2 rfl) ?_
  refine lv_lload_n hx hb dX5_digest_156 rfl (lv_at hl 1 rfl) ?_
  refine lv_iload_n hx hb dX5_digest_157 rfl (lv_at hl 0 rfl) ?_
  have hPc := hP.sub (ws' := [(x, .inr (7, [.ref bx, .ref po, .ref tr, .ref pa, .ref sp])), (pa, .inr (3, [.ref p_v, .int 0, .ref p_st, .ref p_ib, .ref p_di, .ref p_wa, .ref p_se, .ref p_vh, .ref p_re])), (p_v, .inl (cI, 4, .inl zi)), (p_st, .inl (cI, 4, .inl zi)), (p_ib, .inl (cZ, 4, .inl zi)), (p_di, .inl (cI, 4, .inl zi)), (p_wa, .inl (cI, 4, .inl zi)), (p_se, .inl (cI, 4, .inl zi))]) [1, 2, 3, 4, 5, 6, 7, 8] rfl
  have hDc := hD.sub (ws' := [(x, .inr (7, [.ref bx, .ref po, .ref tr, .ref pa, .ref sp])), (pa, .inr (3, [.ref p_v, .int 0, .ref p_st, .ref p_ib, .ref p_di, .ref p_wa, .ref p_se, .ref p_vh, .ref p_re])), (p_v, .inl (cI, 4, .inl zi)), (p_st, .inl (cI, 4, .inl zi)), (p_ib, .inl (cZ, 4, .inl zi)), (p_di, .inl (cI, 4, .inl zi)), (p_wa, .inl (cI, 4, .inl zi)), (p_se, .inl (cI, 4, .inl zi))]) [1, 2, 3, 4, 5, 6, 7, 8] (by decide) rfl
  have hKc := hK.sub (tys' := [(cI, .int), (cZ, .boolean)]) [0, 1] rfl
  have hFc := va_free (wc := [(x, .inr (7, [.ref bx, .ref po, .ref tr, .ref pa, .ref sp])), (pa, .inr (3, [.ref p_v, .int 0, .ref p_st, .ref p_ib, .ref p_di, .ref p_wa, .ref p_se, .ref p_vh, .ref p_re])), (p_v, .inl (cI, 4, .inl zi)), (p_st, .inl (cI, 4, .inl zi)), (p_ib, .inl (cZ, 4, .inl zi)), (p_di, .inl (cI, 4, .inl zi)), (p_wa, .inl (cI, 4, .inl zi)), (p_se, .inl (cI, 4, .inl zi))]) hD hS hA [1, 2, 3, 4, 5, 6, 7, 8] rfl
  refine va_calll (va_runV (As := [.long 1436548855404483524, .int 2]) (rest := []) ⟨hx, hb, hml, hown, hts⟩ (c_X5_mixParty l dC dI x po tr sp bx pa p_v p_st p_ib p_di p_wa p_se p_vh p_re cI cZ (1436548855404483524 : Int64) (2 : Int32) _ (by unfold vp_in; decide)) (cwV 2 hts gX5_digest_X5_mixParty rfl rfl rfl (by decide +kernel) ⟨Nat.le_of_ble_eq_true rfl, Nat.le_of_ble_eq_true rfl⟩) ⟨pr_blind, va_recv hKc hPc (ci := 7) (q0 := 0) rfl rfl, fun U hU hW => ⟨rfl, pr_mk hU hW hPc hKc hDc⟩⟩ rfl rfl hl.1 rfl (lv_room (Nat.le_of_ble_eq_true rfl)) dX5_digest_158 ⟨Nat.le_of_ble_eq_true rfl, Nat.le_of_ble_eq_true rfl⟩) hS (fun q _ h => hFc q h) hFc (fun r_62 u_61 t H1 locs ht hvm hw hB hz1 hk1 hS => ?_)
  obtain ⟨hP1, hK1, hD1⟩ := hB
  rw [ht] at hP1
  obtain ⟨hP, hD⟩ := va_join (wr := [(bx, .inr (2, [.ref b0, .ref b1, .int 0, .int 0, .ref b4, .int 0, .ref b6, .int 0, .int 0, .int 0, .int 0]))]) (w1 := [(x, .inr (7, [.ref bx, .ref po, .ref tr, .ref pa, .ref sp])), (pa, .inr (3, [.ref p_v, .int 0, .ref p_st, .ref p_ib, .ref p_di, .ref p_wa, .ref p_se, .ref p_vh, .ref p_re])), (p_v, .inl (cI, 4, .inl zi)), (p_st, .inl (cI, 4, .inl zi)), (p_ib, .inl (cZ, 4, .inl zi)), (p_di, .inl (cI, 4, .inl zi)), (p_wa, .inl (cI, 4, .inl zi)), (p_se, .inl (cI, 4, .inl zi))]) hP hD [1, 2, 3, 4, 5, 6, 7, 8] [0] rfl rfl (by decide) (by decide) hk1 hFc hP1 hD1
  generalize H1 = H at hP hS ⊢
  have hP : va_P (dC, dI) vwCl [(bx, .inr (2, [.ref b0, .ref b1, .int 0, .int 0, .ref b4, .int 0, .ref b6, .int 0, .int 0, .int 0, .int 0])), (x, .inr (7, [.ref bx, .ref po, .ref tr, .ref pa, .ref sp])), (pa, .inr (3, [.ref p_v, .int 0, .ref p_st, .ref p_ib, .ref p_di, .ref p_wa, .ref p_se, .ref p_vh, .ref p_re])), (p_v, .inl (cI, 4, .inl zi)), (p_st, .inl (cI, 4, .inl zi)), (p_ib, .inl (cZ, 4, .inl zi)), (p_di, .inl (cI, 4, .inl zi)), (p_wa, .inl (cI, 4, .inl zi)), (p_se, .inl (cI, 4, .inl zi))] H := hP
  have hD : va_D A [(bx, .inr (2, [.ref b0, .ref b1, .int 0, .int 0, .ref b4, .int 0, .ref b6, .int 0, .int 0, .int 0, .int 0])), (x, .inr (7, [.ref bx, .ref po, .ref tr, .ref pa, .ref sp])), (pa, .inr (3, [.ref p_v, .int 0, .ref p_st, .ref p_ib, .ref p_di, .ref p_wa, .ref p_se, .ref p_vh, .ref p_re])), (p_v, .inl (cI, 4, .inl zi)), (p_st, .inl (cI, 4, .inl zi)), (p_ib, .inl (cZ, 4, .inl zi)), (p_di, .inl (cI, 4, .inl zi)), (p_wa, .inl (cI, 4, .inl zi)), (p_se, .inl (cI, 4, .inl zi))] := hD
  refine W.widen (k := 0) (n := 0) (Nat.le_refl _) (Nat.le_refl _) ?_
  have hw : r_62 = mx 11 1436548855404483524 := hw
  subst hw
  refine lv_topl (fun y_63 ey_63 => ?_)
  obtain rfl : y_63 = (-4004414283702081092) := ey_63.trans (by decide +kernel)
  refine lv_lstore_n (lv' := [(1, .long (-4004414283702081092)), (3, .int 2), (0, .ref x)]) hx hb dX5_digest_161 rfl hl (by decide) rfl (fun ls hl => ?_)
  refine lv_iinc (k := 1) (v := 3) (lv' := [(3, .int 3), (1, .long (-4004414283702081092)), (0, .ref x)]) hx hb dX5_digest_162 hl rfl (by decide) (by decide) rfl (fun ls hl => ?_)
  refine lv_goto (tgt := 150) hx hb dX5_digest_165 (by decide) ?_
  refine lv_iload_n hx hb dX5_digest_150 rfl (lv_at hl 0 rfl) ?_
  refine lv_iconst (v := 4) hx hb dX5_digest_151 (by decide) ?_
  refine lv_icmp_ge (tgt := 168) hx hb dX5_digest_152 (by decide) (fun h9 => absurd h9 (by decide)) (fun _ => ?_)
  refine lv_aload_n hx hb dX5_digest_155 rfl (lv_at hl 2 rfl) ?_
  refine lv_lload_n hx hb dX5_digest_156 rfl (lv_at hl 1 rfl) ?_
  refine lv_iload_n hx hb dX5_digest_157 rfl (lv_at hl 0 rfl) ?_
  have hPc := hP.sub (ws' := [(x, .inr (7, [.ref bx, .ref po, .ref tr, .ref pa, .ref sp])), (pa, .inr (3, [.ref p_v, .int 0, .ref p_st, .ref p_ib, .ref p_di, .ref p_wa, .ref p_se, .ref p_vh, .ref p_re])), (p_v, .inl (cI, 4, .inl zi)), (p_st, .inl (cI, 4, .inl zi)), (p_ib, .inl (cZ, 4, .inl zi)), (p_di, .inl (cI, 4, .inl zi)), (p_wa, .inl (cI, 4, .inl zi)), (p_se, .inl (cI, 4, .inl zi))]) [1, 2, 3, 4, 5, 6, 7, 8] rfl
  have hDc := hD.sub (ws' := [(x, .inr (7, [.ref bx, .ref po, .ref tr, .ref pa, .ref sp])), (pa, .inr (3, [.ref p_v, .int 0, .ref p_st, .ref p_ib, .ref p_di, .ref p_wa, .ref p_se, .ref p_vh, .ref p_re])), (p_v, .inl (cI, 4, .inl zi)), (p_st, .inl (cI, 4, .inl zi)), (p_ib, .inl (cZ, 4, .inl zi)), (p_di, .inl (cI, 4, .inl zi)), (p_wa, .inl (cI, 4, .inl zi)), (p_se, .inl (cI, 4, .inl zi))]) [1, 2, 3, 4, 5, 6, 7, 8] (by decide) rfl
  have hKc := hK.sub (tys' := [(cI, .int), (cZ, .boolean)]) [0, 1] rfl
  have hFc := va_free (wc := [(x, .inr (7, [.ref bx, .ref po, .ref tr, .ref pa, .ref sp])), (pa, .inr (3, [.ref p_v, .int 0, .ref p_st, .ref p_ib, .ref p_di, .ref p_wa, .ref p_se, .ref p_vh, .ref p_re])), (p_v, .inl (cI, 4, .inl zi)), (p_st, .inl (cI, 4, .inl zi)), (p_ib, .inl (cZ, 4, .inl zi)), (p_di, .inl (cI, 4, .inl zi)), (p_wa, .inl (cI, 4, .inl zi)), (p_se, .inl (cI, 4, .inl zi))]) hD hS hA [1, 2, 3, 4, 5, 6, 7, 8] rfl
  refine va_calll (va_runV (As := [.long (-4004414283702081092), .int 3]) (rest := []) ⟨hx, hb, hml, hown, hts⟩ (c_X5_mixParty l dC dI x po tr sp bx pa p_v p_st p_ib p_di p_wa p_se p_vh p_re cI cZ ((-4004414283702081092) : Int64) (3 : Int32) _ (by unfold vp_in; decide)) (cwV 2 hts gX5_digest_X5_mixParty rfl rfl rfl (by decide +kernel) ⟨Nat.le_of_ble_eq_true rfl, Nat.le_of_ble_eq_true rfl⟩) ⟨pr_blind, va_recv hKc hPc (ci := 7) (q0 := 0) rfl rfl, fun U hU hW => ⟨rfl, pr_mk hU hW hPc hKc hDc⟩⟩ rfl rfl hl.1 rfl (lv_room (Nat.le_of_ble_eq_true rfl)) dX5_digest_158 ⟨Nat.le_of_ble_eq_true rfl, Nat.le_of_ble_eq_true rfl⟩) hS (fun q _ h => hFc q h) hFc (fun r_65 u_64 t H1 locs ht hvm hw hB hz1 hk1 hS => ?_)
  obtain ⟨hP1, hK1, hD1⟩ := hB
  rw [ht] at hP1
  obtain ⟨hP, hD⟩ := va_join (wr := [(bx, .inr (2, [.ref b0, .ref b1, .int 0, .int 0, .ref b4, .int 0, .ref b6, .int 0, .int 0, .int 0, .int 0]))]) (w1 := [(x, .inr (7, [.ref bx, .ref po, .ref tr, .ref pa, .ref sp])), (pa, .inr (3, [.ref p_v, .int 0, .ref p_st, .ref p_ib, .ref p_di, .ref p_wa, .ref p_se, .ref p_vh, .ref p_re])), (p_v, .inl (cI, 4, .inl zi)), (p_st, .inl (cI, 4, .inl zi)), (p_ib, .inl (cZ, 4, .inl zi)), (p_di, .inl (cI, 4, .inl zi)), (p_wa, .inl (cI, 4, .inl zi)), (p_se, .inl (cI, 4, .inl zi))]) hP hD [1, 2, 3, 4, 5, 6, 7, 8] [0] rfl rfl (by decide) (by decide) hk1 hFc hP1 hD1
  generalize H1 = H at hP hS ⊢
  have hP : va_P (dC, dI) vwCl [(bx, .inr (2, [.ref b0, .ref b1, .int 0, .int 0, .ref b4, .int 0, .ref b6, .int 0, .int 0, .int 0, .int 0])), (x, .inr (7, [.ref bx, .ref po, .ref tr, .ref pa, .ref sp])), (pa, .inr (3, [.ref p_v, .int 0, .ref p_st, .ref p_ib, .ref p_di, .ref p_wa, .ref p_se, .ref p_vh, .ref p_re])), (p_v, .inl (cI, 4, .inl zi)), (p_st, .inl (cI, 4, .inl zi)), (p_ib, .inl (cZ, 4, .inl zi)), (p_di, .inl (cI, 4, .inl zi)), (p_wa, .inl (cI, 4, .inl zi)), (p_se, .inl (cI, 4, .inl zi))] H := hP
  have hD : va_D A [(bx, .inr (2, [.ref b0, .ref b1, .int 0, .int 0, .ref b4, .int 0, .ref b6, .int 0, .int 0, .int 0, .int 0])), (x, .inr (7, [.ref bx, .ref po, .ref tr, .ref pa, .ref sp])), (pa, .inr (3, [.ref p_v, .int 0, .ref p_st, .ref p_ib, .ref p_di, .ref p_wa, .ref p_se, .ref p_vh, .ref p_re])), (p_v, .inl (cI, 4, .inl zi)), (p_st, .inl (cI, 4, .inl zi)), (p_ib, .inl (cZ, 4, .inl zi)), (p_di, .inl (cI, 4, .inl zi)), (p_wa, .inl (cI, 4, .inl zi)), (p_se, .inl (cI, 4, .inl zi))] := hD
  refine W.widen (k := 0) (n := 0) (Nat.le_refl _) (Nat.le_refl _) ?_
  have hw : r_65 = mx 11 (-4004414283702081092) := hw
  subst hw
  refine lv_topl (fun y_66 ey_66 => ?_)
  obtain rfl : y_66 = 5866058401886890180 := ey_66.trans (by decide +kernel)
  refine lv_lstore_n (lv' := [(1, .long 5866058401886890180), (3, .int 3), (0, .ref x)]) hx hb dX5_digest_161 rfl hl (by decide) rfl (fun ls hl => ?_)
  refine lv_iinc (k := 1) (v := 4) (lv' := [(3, .int 4), (1, .long 5866058401886890180), (0, .ref x)]) hx hb dX5_digest_162 hl rfl (by decide) (by decide) rfl (fun ls hl => ?_)
  refine lv_goto (tgt := 150) hx hb dX5_digest_165 (by decide) ?_
  refine lv_iload_n hx hb dX5_digest_150 rfl (lv_at hl 0 rfl) ?_
  refine lv_iconst (v := 4) hx hb dX5_digest_151 (by decide) ?_
  refine lv_icmp_ge (tgt := 168) hx hb dX5_digest_152 (by decide) (fun _ => ?_) (fun h9 => absurd h9 (by decide))
  refine lv_iconst (v := 0) hx hb dX5_digest_168 (by decide) ?_
  refine lv_istore_n (lv' := [(3, .int 0), (1, .long 5866058401886890180), (0, .ref x)]) hx hb dX5_digest_169 rfl hl (by decide) rfl (fun ls hl => ?_)
  refine lv_iload_n hx hb dX5_digest_170 rfl (lv_at hl 0 rfl) ?_
  refine lv_iconst (v := 2) hx hb dX5_digest_171 (by decide) ?_
  refine lv_icmp_gt (tgt := 206) hx hb dX5_digest_172 (by decide) (fun h9 => absurd h9 (by decide)) (fun _ => ?_)
  refine lv_aload_n hx hb dX5_digest_175 rfl (lv_at hl 2 rfl) ?_
  refine va_get (D := (dC, dI)) (ci := 7) (v := .ref pa) (C := RX5) (T := TX5) (N := 5) hx hb hts hinX5 hown hK hP 1 rfl rfl 3 (by decide) (hts (.fieldLink RX5 33 "BallotLoom" "parties" "LBallotLoom$Parties;") (by decide +kernel)) (fun _ h9 => h9) rfl dX5_digest_176 ?_
  refine lv_bipush (v := 20) hx hb dX5_digest_179 (by decide) ?_
  refine lv_iload_n hx hb dX5_digest_181 rfl (lv_at hl 0 rfl) ?_
  have hPc := hP.sub (ws' := [(pa, .inr (3, [.ref p_v, .int 0, .ref p_st, .ref p_ib, .ref p_di, .ref p_wa, .ref p_se, .ref p_vh, .ref p_re])), (p_v, .inl (cI, 4, .inl zi)), (p_ib, .inl (cZ, 4, .inl zi)), (p_se, .inl (cI, 4, .inl zi))]) [2, 3, 5, 8] rfl
  have hDc := hD.sub (ws' := [(pa, .inr (3, [.ref p_v, .int 0, .ref p_st, .ref p_ib, .ref p_di, .ref p_wa, .ref p_se, .ref p_vh, .ref p_re])), (p_v, .inl (cI, 4, .inl zi)), (p_ib, .inl (cZ, 4, .inl zi)), (p_se, .inl (cI, 4, .inl zi))]) [2, 3, 5, 8] (by decide) rfl
  have hKc := hK.sub (tys' := [(cI, .int), (cZ, .boolean)]) [0, 1] rfl
  have hFc := va_free (wc := [(pa, .inr (3, [.ref p_v, .int 0, .ref p_st, .ref p_ib, .ref p_di, .ref p_wa, .ref p_se, .ref p_vh, .ref p_re])), (p_v, .inl (cI, 4, .inl zi)), (p_ib, .inl (cZ, 4, .inl zi)), (p_se, .inl (cI, 4, .inl zi))]) hD hS hA [2, 3, 5, 8] rfl
  refine va_callv (va_runV (As := [.int 20, .int 0]) (rest := []) ⟨hx, hb, hml, hown, hts⟩ (c_X1_shareSeats l dC dI pa p_v p_st p_ib p_di p_wa p_se p_vh p_re (20 : Int32) (0 : Int32) cI cZ _ (by decide)) (cwV 2 hts gX5_digest_X1_shareSeats rfl rfl rfl (by decide +kernel) ⟨Nat.le_of_ble_eq_true rfl, Nat.le_of_ble_eq_true rfl⟩) ⟨pr_blind, va_recv hKc hPc (ci := 3) (q0 := 0) rfl rfl, fun U hU hW => ⟨rfl, pr_mk hU hW hPc hKc hDc⟩⟩ rfl rfl hl.1 rfl (lv_room (Nat.le_of_ble_eq_true rfl)) dX5_digest_182 ⟨Nat.le_of_ble_eq_true rfl, Nat.le_of_ble_eq_true rfl⟩) hS (fun q _ h => hFc q h) hFc (fun u_67 t H1 locs ht hvm hw hB hz1 hk1 hS => ?_)
  obtain ⟨hP1, hK1, hD1⟩ := hB
  rw [ht] at hP1
  obtain ⟨hP, hD⟩ := va_join (wr := [(bx, .inr (2, [.ref b0, .ref b1, .int 0, .int 0, .ref b4, .int 0, .ref b6, .int 0, .int 0, .int 0, .int 0])), (x, .inr (7, [.ref bx, .ref po, .ref tr, .ref pa, .ref sp])), (p_st, .inl (cI, 4, .inl zi)), (p_di, .inl (cI, 4, .inl zi)), (p_wa, .inl (cI, 4, .inl zi))]) (w1 := [(pa, .inr (3, [.ref p_v, .int 0, .ref p_st, .ref p_ib, .ref p_di, .ref p_wa, .ref p_se, .ref p_vh, .ref p_re])), (p_v, .inl (cI, 4, .inl zi)), (p_ib, .inl (cZ, 4, .inl zi)), (p_se, .inl (cI, 4, .inl zi))]) hP hD [2, 3, 5, 8] [0, 1, 4, 6, 7] rfl rfl (by decide) (by decide) hk1 hFc hP1 hD1
  generalize H1 = H at hP hS ⊢
  have hP : va_P (dC, dI) vwCl [(bx, .inr (2, [.ref b0, .ref b1, .int 0, .int 0, .ref b4, .int 0, .ref b6, .int 0, .int 0, .int 0, .int 0])), (x, .inr (7, [.ref bx, .ref po, .ref tr, .ref pa, .ref sp])), (p_st, .inl (cI, 4, .inl zi)), (p_di, .inl (cI, 4, .inl zi)), (p_wa, .inl (cI, 4, .inl zi)), (pa, .inr (3, [.ref p_v, .int 0, .ref p_st, .ref p_ib, .ref p_di, .ref p_wa, .ref p_se, .ref p_vh, .ref p_re])), (p_v, .inl (cI, 4, .inl zi)), (p_ib, .inl (cZ, 4, .inl zi)), (p_se, .inl (cI, 4, .inl zi))] H := hP
  have hD : va_D A [(bx, .inr (2, [.ref b0, .ref b1, .int 0, .int 0, .ref b4, .int 0, .ref b6, .int 0, .int 0, .int 0, .int 0])), (x, .inr (7, [.ref bx, .ref po, .ref tr, .ref pa, .ref sp])), (p_st, .inl (cI, 4, .inl zi)), (p_di, .inl (cI, 4, .inl zi)), (p_wa, .inl (cI, 4, .inl zi)), (pa, .inr (3, [.ref p_v, .int 0, .ref p_st, .ref p_ib, .ref p_di, .ref p_wa, .ref p_se, .ref p_vh, .ref p_re])), (p_v, .inl (cI, 4, .inl zi)), (p_ib, .inl (cZ, 4, .inl zi)), (p_se, .inl (cI, 4, .inl zi))] := hD
  refine W.widen (k := 0) (n := 0) (Nat.le_refl _) (Nat.le_refl _) ?_
  refine lv_lload_n hx hb dX5_digest_185 rfl (lv_at hl 1 rfl) ?_
  refine lv_aload_n hx hb dX5_digest_186 rfl (lv_at hl 2 rfl) ?_
  refine va_get (D := (dC, dI)) (ci := 7) (v := .ref pa) (C := RX5) (T := TX5) (N := 5) hx hb hts hinX5 hown hK hP 1 rfl rfl 3 (by decide) (hts (.fieldLink RX5 33 "BallotLoom" "parties" "LBallotLoom$Parties;") (by decide +kernel)) (fun _ h9 => h9) rfl dX5_digest_187 ?_
  refine lv_bipush (v := 20) hx hb dX5_digest_190 (by decide) ?_
  have hPc := hP.sub (ws' := [(pa, .inr (3, [.ref p_v, .int 0, .ref p_st, .ref p_ib, .ref p_di, .ref p_wa, .ref p_se, .ref p_vh, .ref p_re])), (p_se, .inl (cI, 4, .inl zi))]) [5, 8] rfl
  have hDc := hD.sub (ws' := [(pa, .inr (3, [.ref p_v, .int 0, .ref p_st, .ref p_ib, .ref p_di, .ref p_wa, .ref p_se, .ref p_vh, .ref p_re])), (p_se, .inl (cI, 4, .inl zi))]) [5, 8] (by decide) rfl
  have hKc := hK.sub (tys' := [(cI, .int)]) [0] rfl
  have hFc := va_free (wc := [(pa, .inr (3, [.ref p_v, .int 0, .ref p_st, .ref p_ib, .ref p_di, .ref p_wa, .ref p_se, .ref p_vh, .ref p_re])), (p_se, .inl (cI, 4, .inl zi))]) hD hS hA [5, 8] rfl
  refine va_calli (va_runV (As := [.int 20]) (rest := [.long 5866058401886890180]) ⟨hx, hb, hml, hown, hts⟩ (c_X1_leastRulers l dC dI pa p_v p_st p_ib p_di p_wa p_se p_vh p_re (20 : Int32) cI _ (by decide)) (cwV 1 hts gX5_digest_X1_leastRulers rfl rfl rfl (by decide +kernel) ⟨Nat.le_of_ble_eq_true rfl, Nat.le_of_ble_eq_true rfl⟩) ⟨pr_blind, va_recv hKc hPc (ci := 3) (q0 := 0) rfl rfl, fun U hU hW => ⟨rfl, pr_mk hU hW hPc hKc hDc⟩⟩ rfl rfl hl.1 rfl (lv_room (Nat.le_of_ble_eq_true rfl)) dX5_digest_192 ⟨Nat.le_of_ble_eq_true rfl, Nat.le_of_ble_eq_true rfl⟩) hS (fun q _ h => hFc q h) hFc (fun r_70 u_69 t H1 locs ht hvm hw hB hz1 hk1 hS => ?_)
  obtain ⟨hP1, hK1, hD1⟩ := hB
  rw [ht] at hP1
  obtain ⟨hP, hD⟩ := va_join (wr := [(bx, .inr (2, [.ref b0, .ref b1, .int 0, .int 0, .ref b4, .int 0, .ref b6, .int 0, .int 0, .int 0, .int 0])), (x, .inr (7, [.ref bx, .ref po, .ref tr, .ref pa, .ref sp])), (p_st, .inl (cI, 4, .inl zi)), (p_di, .inl (cI, 4, .inl zi)), (p_wa, .inl (cI, 4, .inl zi)), (p_v, .inl (cI, 4, .inl zi)), (p_ib, .inl (cZ, 4, .inl zi))]) (w1 := [(pa, .inr (3, [.ref p_v, .int 0, .ref p_st, .ref p_ib, .ref p_di, .ref p_wa, .ref p_se, .ref p_vh, .ref p_re])), (p_se, .inl (cI, 4, .inl zi))]) hP hD [5, 8] [0, 1, 2, 3, 4, 6, 7] rfl rfl (by decide) (by decide) hk1 hFc hP1 hD1
  generalize H1 = H at hP hS ⊢
  have hP : va_P (dC, dI) vwCl [(bx, .inr (2, [.ref b0, .ref b1, .int 0, .int 0, .ref b4, .int 0, .ref b6, .int 0, .int 0, .int 0, .int 0])), (x, .inr (7, [.ref bx, .ref po, .ref tr, .ref pa, .ref sp])), (p_st, .inl (cI, 4, .inl zi)), (p_di, .inl (cI, 4, .inl zi)), (p_wa, .inl (cI, 4, .inl zi)), (p_v, .inl (cI, 4, .inl zi)), (p_ib, .inl (cZ, 4, .inl zi)), (pa, .inr (3, [.ref p_v, .int 0, .ref p_st, .ref p_ib, .ref p_di, .ref p_wa, .ref p_se, .ref p_vh, .ref p_re])), (p_se, .inl (cI, 4, .inl zi))] H := hP
  have hD : va_D A [(bx, .inr (2, [.ref b0, .ref b1, .int 0, .int 0, .ref b4, .int 0, .ref b6, .int 0, .int 0, .int 0, .int 0])), (x, .inr (7, [.ref bx, .ref po, .ref tr, .ref pa, .ref sp])), (p_st, .inl (cI, 4, .inl zi)), (p_di, .inl (cI, 4, .inl zi)), (p_wa, .inl (cI, 4, .inl zi)), (p_v, .inl (cI, 4, .inl zi)), (p_ib, .inl (cZ, 4, .inl zi)), (pa, .inr (3, [.ref p_v, .int 0, .ref p_st, .ref p_ib, .ref p_di, .ref p_wa, .ref p_se, .ref p_vh, .ref p_re])), (p_se, .inl (cI, 4, .inl zi))] := hD
  refine W.widen (k := 0) (n := 0) (Nat.le_refl _) (Nat.le_refl _) ?_
  have hw : r_70 = 0 := hw
  subst hw
  refine lv_i2l (v := 0) hx hb dX5_digest_195 (by decide) ?_
  have hPc := hP.sub (ws' := []) [] rfl
  have hDc := hD.sub (ws' := []) [] (by decide) rfl
  have hKc := hK.sub (tys' := []) [] rfl
  have hFc := va_free (wc := []) hD hS hA [] rfl
  refine va_calll (va_runS (As := [.long 5866058401886890180, .long 0]) (rest := []) ⟨hx, hb, hml, hown, hts⟩ (c_X5_mix l dC dI (5866058401886890180 : Int64) (0 : Int64) _ ) (va_cwS 2 hts gX5_digest_X5_mix rfl rfl rfl (by decide +kernel) ⟨Nat.le_of_ble_eq_true rfl, Nat.le_of_ble_eq_true rfl⟩) ⟨pr_blind, fun U hU hW => ⟨rfl, pr_mk hU hW hPc hKc hDc⟩⟩ rfl rfl hl.1 rfl (lv_room (Nat.le_of_ble_eq_true rfl)) dX5_digest_196 ⟨Nat.le_of_ble_eq_true rfl, Nat.le_of_ble_eq_true rfl⟩) hS (fun q _ h => hFc q h) hFc (fun r_72 u_71 t H1 locs ht hvm hw hB hz1 hk1 hS => ?_)
  obtain ⟨hP1, hK1, hD1⟩ := hB
  rw [ht] at hP1
  obtain ⟨hP, hD⟩ := va_join (wr := [(bx, .inr (2, [.ref b0, .ref b1, .int 0, .int 0, .ref b4, .int 0, .ref b6, .int 0, .int 0, .int 0, .int 0])), (x, .inr (7, [.ref bx, .ref po, .ref tr, .ref pa, .ref sp])), (p_st, .inl (cI, 4, .inl zi)), (p_di, .inl (cI, 4, .inl zi)), (p_wa, .inl (cI, 4, .inl zi)), (p_v, .inl (cI, 4, .inl zi)), (p_ib, .inl (cZ, 4, .inl zi)), (pa, .inr (3, [.ref p_v, .int 0, .ref p_st, .ref p_ib, .ref p_di, .ref p_wa, .ref p_se, .ref p_vh, .ref p_re])), (p_se, .inl (cI, 4, .inl zi))]) (w1 := []) hP hD [] [0, 1, 2, 3, 4, 5, 6, 7, 8] rfl rfl (by decide) (by decide) hk1 hFc hP1 hD1
  generalize H1 = H at hP hS ⊢
  have hP : va_P (dC, dI) vwCl [(bx, .inr (2, [.ref b0, .ref b1, .int 0, .int 0, .ref b4, .int 0, .ref b6, .int 0, .int 0, .int 0, .int 0])), (x, .inr (7, [.ref bx, .ref po, .ref tr, .ref pa, .ref sp])), (p_st, .inl (cI, 4, .inl zi)), (p_di, .inl (cI, 4, .inl zi)), (p_wa, .inl (cI, 4, .inl zi)), (p_v, .inl (cI, 4, .inl zi)), (p_ib, .inl (cZ, 4, .inl zi)), (pa, .inr (3, [.ref p_v, .int 0, .ref p_st, .ref p_ib, .ref p_di, .ref p_wa, .ref p_se, .ref p_vh, .ref p_re])), (p_se, .inl (cI, 4, .inl zi))] H := hP
  have hD : va_D A [(bx, .inr (2, [.ref b0, .ref b1, .int 0, .int 0, .ref b4, .int 0, .ref b6, .int 0, .int 0, .int 0, .int 0])), (x, .inr (7, [.ref bx, .ref po, .ref tr, .ref pa, .ref sp])), (p_st, .inl (cI, 4, .inl zi)), (p_di, .inl (cI, 4, .inl zi)), (p_wa, .inl (cI, 4, .inl zi)), (p_v, .inl (cI, 4, .inl zi)), (p_ib, .inl (cZ, 4, .inl zi)), (pa, .inr (3, [.ref p_v, .int 0, .ref p_st, .ref p_ib, .ref p_di, .ref p_wa, .ref p_se, .ref p_vh, .ref p_re])), (p_se, .inl (cI, 4, .inl zi))] := hD
  refine W.widen (k := 0) (n := 0) (Nat.le_refl _) (Nat.le_refl _) ?_
  have hw : r_72 = ((5866058401886890180 * 31) + 0) := hw
  subst hw
  refine lv_topl (fun y_73 ey_73 => ?_)
  obtain rfl : y_73 = (-2619630278601920580) := ey_73.trans (by decide +kernel)
  refine lv_lstore_n (lv' := [(1, .long (-2619630278601920580)), (3, .int 0), (0, .ref x)]) hx hb dX5_digest_199 rfl hl (by decide) rfl (fun ls hl => ?_)
  refine lv_iinc (k := 1) (v := 1) (lv' := [(3, .int 1), (1, .long (-2619630278601920580)), (0, .ref x)]) hx hb dX5_digest_200 hl rfl (by decide) (by decide) rfl (fun ls hl => ?_)
  refine lv_goto (tgt := 170) hx hb dX5_digest_203 (by decide) ?_
  refine lv_iload_n hx hb dX5_digest_170 rfl (lv_at hl 0 rfl) ?_
  refine lv_iconst (v := 2) hx hb dX5_digest_171 (by decide) ?_
  refine lv_icmp_gt (tgt := 206) hx hb dX5_digest_172 (by decide) (fun h9 => absurd h9 (by decide)) (fun _ => ?_)
  refine lv_aload_n hx hb dX5_digest_175 rfl (lv_at hl 2 rfl) ?_
  refine va_get (D := (dC, dI)) (ci := 7) (v := .ref pa) (C := RX5) (T := TX5) (N := 5) hx hb hts hinX5 hown hK hP 1 rfl rfl 3 (by decide) (hts (.fieldLink RX5 33 "BallotLoom" "parties" "LBallotLoom$Parties;") (by decide +kernel)) (fun _ h9 => h9) rfl dX5_digest_176 ?_
  refine lv_bipush (v := 20) hx hb dX5_digest_179 (by decide) ?_
  refine lv_iload_n hx hb dX5_digest_181 rfl (lv_at hl 0 rfl) ?_
  have hPc := hP.sub (ws' := [(pa, .inr (3, [.ref p_v, .int 0, .ref p_st, .ref p_ib, .ref p_di, .ref p_wa, .ref p_se, .ref p_vh, .ref p_re])), (p_v, .inl (cI, 4, .inl zi)), (p_ib, .inl (cZ, 4, .inl zi)), (p_se, .inl (cI, 4, .inl zi))]) [7, 5, 6, 8] rfl
  have hDc := hD.sub (ws' := [(pa, .inr (3, [.ref p_v, .int 0, .ref p_st, .ref p_ib, .ref p_di, .ref p_wa, .ref p_se, .ref p_vh, .ref p_re])), (p_v, .inl (cI, 4, .inl zi)), (p_ib, .inl (cZ, 4, .inl zi)), (p_se, .inl (cI, 4, .inl zi))]) [7, 5, 6, 8] (by decide) rfl
  have hKc := hK.sub (tys' := [(cI, .int), (cZ, .boolean)]) [0, 1] rfl
  have hFc := va_free (wc := [(pa, .inr (3, [.ref p_v, .int 0, .ref p_st, .ref p_ib, .ref p_di, .ref p_wa, .ref p_se, .ref p_vh, .ref p_re])), (p_v, .inl (cI, 4, .inl zi)), (p_ib, .inl (cZ, 4, .inl zi)), (p_se, .inl (cI, 4, .inl zi))]) hD hS hA [7, 5, 6, 8] rfl
  refine va_callv (va_runV (As := [.int 20, .int 1]) (rest := []) ⟨hx, hb, hml, hown, hts⟩ (c_X1_shareSeats l dC dI pa p_v p_st p_ib p_di p_wa p_se p_vh p_re (20 : Int32) (1 : Int32) cI cZ _ (by decide)) (cwV 2 hts gX5_digest_X1_shareSeats rfl rfl rfl (by decide +kernel) ⟨Nat.le_of_ble_eq_true rfl, Nat.le_of_ble_eq_true rfl⟩) ⟨pr_blind, va_recv hKc hPc (ci := 3) (q0 := 0) rfl rfl, fun U hU hW => ⟨rfl, pr_mk hU hW hPc hKc hDc⟩⟩ rfl rfl hl.1 rfl (lv_room (Nat.le_of_ble_eq_true rfl)) dX5_digest_182 ⟨Nat.le_of_ble_eq_true rfl, Nat.le_of_ble_eq_true rfl⟩) hS (fun q _ h => hFc q h) hFc (fun u_74 t H1 locs ht hvm hw hB hz1 hk1 hS => ?_)
  obtain ⟨hP1, hK1, hD1⟩ := hB
  rw [ht] at hP1
  obtain ⟨hP, hD⟩ := va_join (wr := [(bx, .inr (2, [.ref b0, .ref b1, .int 0, .int 0, .ref b4, .int 0, .ref b6, .int 0, .int 0, .int 0, .int 0])), (x, .inr (7, [.ref bx, .ref po, .ref tr, .ref pa, .ref sp])), (p_st, .inl (cI, 4, .inl zi)), (p_di, .inl (cI, 4, .inl zi)), (p_wa, .inl (cI, 4, .inl zi))]) (w1 := [(pa, .inr (3, [.ref p_v, .int 0, .ref p_st, .ref p_ib, .ref p_di, .ref p_wa, .ref p_se, .ref p_vh, .ref p_re])), (p_v, .inl (cI, 4, .inl zi)), (p_ib, .inl (cZ, 4, .inl zi)), (p_se, .inl (cI, 4, .inl zi))]) hP hD [7, 5, 6, 8] [0, 1, 2, 3, 4] rfl rfl (by decide) (by decide) hk1 hFc hP1 hD1
  generalize H1 = H at hP hS ⊢
  have hP : va_P (dC, dI) vwCl [(bx, .inr (2, [.ref b0, .ref b1, .int 0, .int 0, .ref b4, .int 0, .ref b6, .int 0, .int 0, .int 0, .int 0])), (x, .inr (7, [.ref bx, .ref po, .ref tr, .ref pa, .ref sp])), (p_st, .inl (cI, 4, .inl zi)), (p_di, .inl (cI, 4, .inl zi)), (p_wa, .inl (cI, 4, .inl zi)), (pa, .inr (3, [.ref p_v, .int 0, .ref p_st, .ref p_ib, .ref p_di, .ref p_wa, .ref p_se, .ref p_vh, .ref p_re])), (p_v, .inl (cI, 4, .inl zi)), (p_ib, .inl (cZ, 4, .inl zi)), (p_se, .inl (cI, 4, .inl zi))] H := hP
  have hD : va_D A [(bx, .inr (2, [.ref b0, .ref b1, .int 0, .int 0, .ref b4, .int 0, .ref b6, .int 0, .int 0, .int 0, .int 0])), (x, .inr (7, [.ref bx, .ref po, .ref tr, .ref pa, .ref sp])), (p_st, .inl (cI, 4, .inl zi)), (p_di, .inl (cI, 4, .inl zi)), (p_wa, .inl (cI, 4, .inl zi)), (pa, .inr (3, [.ref p_v, .int 0, .ref p_st, .ref p_ib, .ref p_di, .ref p_wa, .ref p_se, .ref p_vh, .ref p_re])), (p_v, .inl (cI, 4, .inl zi)), (p_ib, .inl (cZ, 4, .inl zi)), (p_se, .inl (cI, 4, .inl zi))] := hD
  refine W.widen (k := 0) (n := 0) (Nat.le_refl _) (Nat.le_refl _) ?_
  refine lv_lload_n hx hb dX5_digest_185 rfl (lv_at hl 1 rfl) ?_
  refine lv_aload_n hx hb dX5_digest_186 rfl (lv_at hl 2 rfl) ?_
  refine va_get (D := (dC, dI)) (ci := 7) (v := .ref pa) (C := RX5) (T := TX5) (N := 5) hx hb hts hinX5 hown hK hP 1 rfl rfl 3 (by decide) (hts (.fieldLink RX5 33 "BallotLoom" "parties" "LBallotLoom$Parties;") (by decide +kernel)) (fun _ h9 => h9) rfl dX5_digest_187 ?_
  refine lv_bipush (v := 20) hx hb dX5_digest_190 (by decide) ?_
  have hPc := hP.sub (ws' := [(pa, .inr (3, [.ref p_v, .int 0, .ref p_st, .ref p_ib, .ref p_di, .ref p_wa, .ref p_se, .ref p_vh, .ref p_re])), (p_se, .inl (cI, 4, .inl zi))]) [5, 8] rfl
  have hDc := hD.sub (ws' := [(pa, .inr (3, [.ref p_v, .int 0, .ref p_st, .ref p_ib, .ref p_di, .ref p_wa, .ref p_se, .ref p_vh, .ref p_re])), (p_se, .inl (cI, 4, .inl zi))]) [5, 8] (by decide) rfl
  have hKc := hK.sub (tys' := [(cI, .int)]) [0] rfl
  have hFc := va_free (wc := [(pa, .inr (3, [.ref p_v, .int 0, .ref p_st, .ref p_ib, .ref p_di, .ref p_wa, .ref p_se, .ref p_vh, .ref p_re])), (p_se, .inl (cI, 4, .inl zi))]) hD hS hA [5, 8] rfl
  refine va_calli (va_runV (As := [.int 20]) (rest := [.long (-2619630278601920580)]) ⟨hx, hb, hml, hown, hts⟩ (c_X1_leastRulers l dC dI pa p_v p_st p_ib p_di p_wa p_se p_vh p_re (20 : Int32) cI _ (by decide)) (cwV 1 hts gX5_digest_X1_leastRulers rfl rfl rfl (by decide +kernel) ⟨Nat.le_of_ble_eq_true rfl, Nat.le_of_ble_eq_true rfl⟩) ⟨pr_blind, va_recv hKc hPc (ci := 3) (q0 := 0) rfl rfl, fun U hU hW => ⟨rfl, pr_mk hU hW hPc hKc hDc⟩⟩ rfl rfl hl.1 rfl (lv_room (Nat.le_of_ble_eq_true rfl)) dX5_digest_192 ⟨Nat.le_of_ble_eq_true rfl, Nat.le_of_ble_eq_true rfl⟩) hS (fun q _ h => hFc q h) hFc (fun r_77 u_76 t H1 locs ht hvm hw hB hz1 hk1 hS => ?_)
  obtain ⟨hP1, hK1, hD1⟩ := hB
  rw [ht] at hP1
  obtain ⟨hP, hD⟩ := va_join (wr := [(bx, .inr (2, [.ref b0, .ref b1, .int 0, .int 0, .ref b4, .int 0, .ref b6, .int 0, .int 0, .int 0, .int 0])), (x, .inr (7, [.ref bx, .ref po, .ref tr, .ref pa, .ref sp])), (p_st, .inl (cI, 4, .inl zi)), (p_di, .inl (cI, 4, .inl zi)), (p_wa, .inl (cI, 4, .inl zi)), (p_v, .inl (cI, 4, .inl zi)), (p_ib, .inl (cZ, 4, .inl zi))]) (w1 := [(pa, .inr (3, [.ref p_v, .int 0, .ref p_st, .ref p_ib, .ref p_di, .ref p_wa, .ref p_se, .ref p_vh, .ref p_re])), (p_se, .inl (cI, 4, .inl zi))]) hP hD [5, 8] [0, 1, 2, 3, 4, 6, 7] rfl rfl (by decide) (by decide) hk1 hFc hP1 hD1
  generalize H1 = H at hP hS ⊢
  have hP : va_P (dC, dI) vwCl [(bx, .inr (2, [.ref b0, .ref b1, .int 0, .int 0, .ref b4, .int 0, .ref b6, .int 0, .int 0, .int 0, .int 0])), (x, .inr (7, [.ref bx, .ref po, .ref tr, .ref pa, .ref sp])), (p_st, .inl (cI, 4, .inl zi)), (p_di, .inl (cI, 4, .inl zi)), (p_wa, .inl (cI, 4, .inl zi)), (p_v, .inl (cI, 4, .inl zi)), (p_ib, .inl (cZ, 4, .inl zi)), (pa, .inr (3, [.ref p_v, .int 0, .ref p_st, .ref p_ib, .ref p_di, .ref p_wa, .ref p_se, .ref p_vh, .ref p_re])), (p_se, .inl (cI, 4, .inl zi))] H := hP
  have hD : va_D A [(bx, .inr (2, [.ref b0, .ref b1, .int 0, .int 0, .ref b4, .int 0, .ref b6, .int 0, .int 0, .int 0, .int 0])), (x, .inr (7, [.ref bx, .ref po, .ref tr, .ref pa, .ref sp])), (p_st, .inl (cI, 4, .inl zi)), (p_di, .inl (cI, 4, .inl zi)), (p_wa, .inl (cI, 4, .inl zi)), (p_v, .inl (cI, 4, .inl zi)), (p_ib, .inl (cZ, 4, .inl zi)), (pa, .inr (3, [.ref p_v, .int 0, .ref p_st, .ref p_ib, .ref p_di, .ref p_wa, .ref p_se, .ref p_vh, .ref p_re])), (p_se, .inl (cI, 4, .inl zi))] := hD
  refine W.widen (k := 0) (n := 0) (Nat.le_refl _) (Nat.le_refl _) ?_
  have hw : r_77 = 0 := hw
  subst hw
  refine lv_i2l (v := 0) hx hb dX5_digest_195 (by decide) ?_
  have hPc := hP.sub (ws' := []) [] rfl
  have hDc := hD.sub (ws' := []) [] (by decide) rfl
  have hKc := hK.sub (tys' := []) [] rfl
  have hFc := va_free (wc := []) hD hS hA [] rfl
  refine va_calll (va_runS (As := [.long (-2619630278601920580), .long 0]) (rest := []) ⟨hx, hb, hml, hown, hts⟩ (c_X5_mix l dC dI ((-2619630278601920580) : Int64) (0 : Int64) _ ) (va_cwS 2 hts gX5_digest_X5_mix rfl rfl rfl (by decide +kernel) ⟨Nat.le_of_ble_eq_true rfl, Nat.le_of_ble_eq_true rfl⟩) ⟨pr_blind, fun U hU hW => ⟨rfl, pr_mk hU hW hPc hKc hDc⟩⟩ rfl rfl hl.1 rfl (lv_room (Nat.le_of_ble_eq_true rfl)) dX5_digest_196 ⟨Nat.le_of_ble_eq_true rfl, Nat.le_of_ble_eq_true rfl⟩) hS (fun q _ h => hFc q h) hFc (fun r_79 u_78 t H1 locs ht hvm hw hB hz1 hk1 hS => ?_)
  obtain ⟨hP1, hK1, hD1⟩ := hB
  rw [ht] at hP1
  obtain ⟨hP, hD⟩ := va_join (wr := [(bx, .inr (2, [.ref b0, .ref b1, .int 0, .int 0, .ref b4, .int 0, .ref b6, .int 0, .int 0, .int 0, .int 0])), (x, .inr (7, [.ref bx, .ref po, .ref tr, .ref pa, .ref sp])), (p_st, .inl (cI, 4, .inl zi)), (p_di, .inl (cI, 4, .inl zi)), (p_wa, .inl (cI, 4, .inl zi)), (p_v, .inl (cI, 4, .inl zi)), (p_ib, .inl (cZ, 4, .inl zi)), (pa, .inr (3, [.ref p_v, .int 0, .ref p_st, .ref p_ib, .ref p_di, .ref p_wa, .ref p_se, .ref p_vh, .ref p_re])), (p_se, .inl (cI, 4, .inl zi))]) (w1 := []) hP hD [] [0, 1, 2, 3, 4, 5, 6, 7, 8] rfl rfl (by decide) (by decide) hk1 hFc hP1 hD1
  generalize H1 = H at hP hS ⊢
  have hP : va_P (dC, dI) vwCl [(bx, .inr (2, [.ref b0, .ref b1, .int 0, .int 0, .ref b4, .int 0, .ref b6, .int 0, .int 0, .int 0, .int 0])), (x, .inr (7, [.ref bx, .ref po, .ref tr, .ref pa, .ref sp])), (p_st, .inl (cI, 4, .inl zi)), (p_di, .inl (cI, 4, .inl zi)), (p_wa, .inl (cI, 4, .inl zi)), (p_v, .inl (cI, 4, .inl zi)), (p_ib, .inl (cZ, 4, .inl zi)), (pa, .inr (3, [.ref p_v, .int 0, .ref p_st, .ref p_ib, .ref p_di, .ref p_wa, .ref p_se, .ref p_vh, .ref p_re])), (p_se, .inl (cI, 4, .inl zi))] H := hP
  have hD : va_D A [(bx, .inr (2, [.ref b0, .ref b1, .int 0, .int 0, .ref b4, .int 0, .ref b6, .int 0, .int 0, .int 0, .int 0])), (x, .inr (7, [.ref bx, .ref po, .ref tr, .ref pa, .ref sp])), (p_st, .inl (cI, 4, .inl zi)), (p_di, .inl (cI, 4, .inl zi)), (p_wa, .inl (cI, 4, .inl zi)), (p_v, .inl (cI, 4, .inl zi)), (p_ib, .inl (cZ, 4, .inl zi)), (pa, .inr (3, [.ref p_v, .int 0, .ref p_st, .ref p_ib, .ref p_di, .ref p_wa, .ref p_se, .ref p_vh, .ref p_re])), (p_se, .inl (cI, 4, .inl zi))] := hD
  refine W.widen (k := 0) (n := 0) (Nat.le_refl _) (Nat.le_refl _) ?_
  have hw : r_79 = (((-2619630278601920580) * 31) + 0) := hw
  subst hw
  refine lv_topl (fun y_80 ey_80 => ?_)
  obtain rfl : y_80 = (-7421562341821331516) := ey_80.trans (by decide +kernel)
  refine lv_lstore_n (lv' := [(1, .long (-7421562341821331516)), (3, .int 1), (0, .ref x)]) hx hb dX5_digest_199 rfl hl (by decide) rfl (fun ls hl => ?_)
  refine lv_iinc (k := 1) (v := 2) (lv' := [(3, .int 2), (1, .long (-7421562341821331516)), (0, .ref x)]) hx hb dX5_digest_200 hl rfl (by decide) (by decide) rfl (fun ls hl => ?_)
  refine lv_goto (tgt := 170) hx hb dX5_digest_203 (by decide) ?_
  refine lv_iload_n hx hb dX5_digest_170 rfl (lv_at hl 0 rfl) ?_
  refine lv_iconst (v := 2) hx hb dX5_digest_171 (by decide) ?_
  refine lv_icmp_gt (tgt := 206) hx hb dX5_digest_172 (by decide) (fun h9 => absurd h9 (by decide)) (fun _ => ?_)
  refine lv_aload_n hx hb dX5_digest_175 rfl (lv_at hl 2 rfl) ?_
  refine va_get (D := (dC, dI)) (ci := 7) (v := .ref pa) (C := RX5) (T := TX5) (N := 5) hx hb hts hinX5 hown hK hP 1 rfl rfl 3 (by decide) (hts (.fieldLink RX5 33 "BallotLoom" "parties" "LBallotLoom$Parties;") (by decide +kernel)) (fun _ h9 => h9) rfl dX5_digest_176 ?_
  refine lv_bipush (v := 20) hx hb dX5_digest_179 (by decide) ?_
  refine lv_iload_n hx hb dX5_digest_181 rfl (lv_at hl 0 rfl) ?_
  have hPc := hP.sub (ws' := [(pa, .inr (3, [.ref p_v, .int 0, .ref p_st, .ref p_ib, .ref p_di, .ref p_wa, .ref p_se, .ref p_vh, .ref p_re])), (p_v, .inl (cI, 4, .inl zi)), (p_ib, .inl (cZ, 4, .inl zi)), (p_se, .inl (cI, 4, .inl zi))]) [7, 5, 6, 8] rfl
  have hDc := hD.sub (ws' := [(pa, .inr (3, [.ref p_v, .int 0, .ref p_st, .ref p_ib, .ref p_di, .ref p_wa, .ref p_se, .ref p_vh, .ref p_re])), (p_v, .inl (cI, 4, .inl zi)), (p_ib, .inl (cZ, 4, .inl zi)), (p_se, .inl (cI, 4, .inl zi))]) [7, 5, 6, 8] (by decide) rfl
  have hKc := hK.sub (tys' := [(cI, .int), (cZ, .boolean)]) [0, 1] rfl
  have hFc := va_free (wc := [(pa, .inr (3, [.ref p_v, .int 0, .ref p_st, .ref p_ib, .ref p_di, .ref p_wa, .ref p_se, .ref p_vh, .ref p_re])), (p_v, .inl (cI, 4, .inl zi)), (p_ib, .inl (cZ, 4, .inl zi)), (p_se, .inl (cI, 4, .inl zi))]) hD hS hA [7, 5, 6, 8] rfl
  refine va_callv (va_runV (As := [.int 20, .int 2]) (rest := []) ⟨hx, hb, hml, hown, hts⟩ (c_X1_shareSeats l dC dI pa p_v p_st p_ib p_di p_wa p_se p_vh p_re (20 : Int32) (2 : Int32) cI cZ _ (by decide)) (cwV 2 hts gX5_digest_X1_shareSeats rfl rfl rfl (by decide +kernel) ⟨Nat.le_of_ble_eq_true rfl, Nat.le_of_ble_eq_true rfl⟩) ⟨pr_blind, va_recv hKc hPc (ci := 3) (q0 := 0) rfl rfl, fun U hU hW => ⟨rfl, pr_mk hU hW hPc hKc hDc⟩⟩ rfl rfl hl.1 rfl (lv_room (Nat.le_of_ble_eq_true rfl)) dX5_digest_182 ⟨Nat.le_of_ble_eq_true rfl, Nat.le_of_ble_eq_true rfl⟩) hS (fun q _ h => hFc q h) hFc (fun u_81 t H1 locs ht hvm hw hB hz1 hk1 hS => ?_)
  obtain ⟨hP1, hK1, hD1⟩ := hB
  rw [ht] at hP1
  obtain ⟨hP, hD⟩ := va_join (wr := [(bx, .inr (2, [.ref b0, .ref b1, .int 0, .int 0, .ref b4, .int 0, .ref b6, .int 0, .int 0, .int 0, .int 0])), (x, .inr (7, [.ref bx, .ref po, .ref tr, .ref pa, .ref sp])), (p_st, .inl (cI, 4, .inl zi)), (p_di, .inl (cI, 4, .inl zi)), (p_wa, .inl (cI, 4, .inl zi))]) (w1 := [(pa, .inr (3, [.ref p_v, .int 0, .ref p_st, .ref p_ib, .ref p_di, .ref p_wa, .ref p_se, .ref p_vh, .ref p_re])), (p_v, .inl (cI, 4, .inl zi)), (p_ib, .inl (cZ, 4, .inl zi)), (p_se, .inl (cI, 4, .inl zi))]) hP hD [7, 5, 6, 8] [0, 1, 2, 3, 4] rfl rfl (by decide) (by decide) hk1 hFc hP1 hD1
  generalize H1 = H at hP hS ⊢
  have hP : va_P (dC, dI) vwCl [(bx, .inr (2, [.ref b0, .ref b1, .int 0, .int 0, .ref b4, .int 0, .ref b6, .int 0, .int 0, .int 0, .int 0])), (x, .inr (7, [.ref bx, .ref po, .ref tr, .ref pa, .ref sp])), (p_st, .inl (cI, 4, .inl zi)), (p_di, .inl (cI, 4, .inl zi)), (p_wa, .inl (cI, 4, .inl zi)), (pa, .inr (3, [.ref p_v, .int 0, .ref p_st, .ref p_ib, .ref p_di, .ref p_wa, .ref p_se, .ref p_vh, .ref p_re])), (p_v, .inl (cI, 4, .inl zi)), (p_ib, .inl (cZ, 4, .inl zi)), (p_se, .inl (cI, 4, .inl zi))] H := hP
  have hD : va_D A [(bx, .inr (2, [.ref b0, .ref b1, .int 0, .int 0, .ref b4, .int 0, .ref b6, .int 0, .int 0, .int 0, .int 0])), (x, .inr (7, [.ref bx, .ref po, .ref tr, .ref pa, .ref sp])), (p_st, .inl (cI, 4, .inl zi)), (p_di, .inl (cI, 4, .inl zi)), (p_wa, .inl (cI, 4, .inl zi)), (pa, .inr (3, [.ref p_v, .int 0, .ref p_st, .ref p_ib, .ref p_di, .ref p_wa, .ref p_se, .ref p_vh, .ref p_re])), (p_v, .inl (cI, 4, .inl zi)), (p_ib, .inl (cZ, 4, .inl zi)), (p_se, .inl (cI, 4, .inl zi))] := hD
  refine W.widen (k := 0) (n := 0) (Nat.le_refl _) (Nat.le_refl _) ?_
  refine lv_lload_n hx hb dX5_digest_185 rfl (lv_at hl 1 rfl) ?_
  refine lv_aload_n hx hb dX5_digest_186 rfl (lv_at hl 2 rfl) ?_
  refine va_get (D := (dC, dI)) (ci := 7) (v := .ref pa) (C := RX5) (T := TX5) (N := 5) hx hb hts hinX5 hown hK hP 1 rfl rfl 3 (by decide) (hts (.fieldLink RX5 33 "BallotLoom" "parties" "LBallotLoom$Parties;") (by decide +kernel)) (fun _ h9 => h9) rfl dX5_digest_187 ?_
  refine lv_bipush (v := 20) hx hb dX5_digest_190 (by decide) ?_
  have hPc := hP.sub (ws' := [(pa, .inr (3, [.ref p_v, .int 0, .ref p_st, .ref p_ib, .ref p_di, .ref p_wa, .ref p_se, .ref p_vh, .ref p_re])), (p_se, .inl (cI, 4, .inl zi))]) [5, 8] rfl
  have hDc := hD.sub (ws' := [(pa, .inr (3, [.ref p_v, .int 0, .ref p_st, .ref p_ib, .ref p_di, .ref p_wa, .ref p_se, .ref p_vh, .ref p_re])), (p_se, .inl (cI, 4, .inl zi))]) [5, 8] (by decide) rfl
  have hKc := hK.sub (tys' := [(cI, .int)]) [0] rfl
  have hFc := va_free (wc := [(pa, .inr (3, [.ref p_v, .int 0, .ref p_st, .ref p_ib, .ref p_di, .ref p_wa, .ref p_se, .ref p_vh, .ref p_re])), (p_se, .inl (cI, 4, .inl zi))]) hD hS hA [5, 8] rfl
  refine va_calli (va_runV (As := [.int 20]) (rest := [.long (-7421562341821331516)]) ⟨hx, hb, hml, hown, hts⟩ (c_X1_leastRulers l dC dI pa p_v p_st p_ib p_di p_wa p_se p_vh p_re (20 : Int32) cI _ (by decide)) (cwV 1 hts gX5_digest_X1_leastRulers rfl rfl rfl (by decide +kernel) ⟨Nat.le_of_ble_eq_true rfl, Nat.le_of_ble_eq_true rfl⟩) ⟨pr_blind, va_recv hKc hPc (ci := 3) (q0 := 0) rfl rfl, fun U hU hW => ⟨rfl, pr_mk hU hW hPc hKc hDc⟩⟩ rfl rfl hl.1 rfl (lv_room (Nat.le_of_ble_eq_true rfl)) dX5_digest_192 ⟨Nat.le_of_ble_eq_true rfl, Nat.le_of_ble_eq_true rfl⟩) hS (fun q _ h => hFc q h) hFc (fun r_84 u_83 t H1 locs ht hvm hw hB hz1 hk1 hS => ?_)
  obtain ⟨hP1, hK1, hD1⟩ := hB
  rw [ht] at hP1
  obtain ⟨hP, hD⟩ := va_join (wr := [(bx, .inr (2, [.ref b0, .ref b1, .int 0, .int 0, .ref b4, .int 0, .ref b6, .int 0, .int 0, .int 0, .int 0])), (x, .inr (7, [.ref bx, .ref po, .ref tr, .ref pa, .ref sp])), (p_st, .inl (cI, 4, .inl zi)), (p_di, .inl (cI, 4, .inl zi)), (p_wa, .inl (cI, 4, .inl zi)), (p_v, .inl (cI, 4, .inl zi)), (p_ib, .inl (cZ, 4, .inl zi))]) (w1 := [(pa, .inr (3, [.ref p_v, .int 0, .ref p_st, .ref p_ib, .ref p_di, .ref p_wa, .ref p_se, .ref p_vh, .ref p_re])), (p_se, .inl (cI, 4, .inl zi))]) hP hD [5, 8] [0, 1, 2, 3, 4, 6, 7] rfl rfl (by decide) (by decide) hk1 hFc hP1 hD1
  generalize H1 = H at hP hS ⊢
  have hP : va_P (dC, dI) vwCl [(bx, .inr (2, [.ref b0, .ref b1, .int 0, .int 0, .ref b4, .int 0, .ref b6, .int 0, .int 0, .int 0, .int 0])), (x, .inr (7, [.ref bx, .ref po, .ref tr, .ref pa, .ref sp])), (p_st, .inl (cI, 4, .inl zi)), (p_di, .inl (cI, 4, .inl zi)), (p_wa, .inl (cI, 4, .inl zi)), (p_v, .inl (cI, 4, .inl zi)), (p_ib, .inl (cZ, 4, .inl zi)), (pa, .inr (3, [.ref p_v, .int 0, .ref p_st, .ref p_ib, .ref p_di, .ref p_wa, .ref p_se, .ref p_vh, .ref p_re])), (p_se, .inl (cI, 4, .inl zi))] H := hP
  have hD : va_D A [(bx, .inr (2, [.ref b0, .ref b1, .int 0, .int 0, .ref b4, .int 0, .ref b6, .int 0, .int 0, .int 0, .int 0])), (x, .inr (7, [.ref bx, .ref po, .ref tr, .ref pa, .ref sp])), (p_st, .inl (cI, 4, .inl zi)), (p_di, .inl (cI, 4, .inl zi)), (p_wa, .inl (cI, 4, .inl zi)), (p_v, .inl (cI, 4, .inl zi)), (p_ib, .inl (cZ, 4, .inl zi)), (pa, .inr (3, [.ref p_v, .int 0, .ref p_st, .ref p_ib, .ref p_di, .ref p_wa, .ref p_se, .ref p_vh, .ref p_re])), (p_se, .inl (cI, 4, .inl zi))] := hD
  refine W.widen (k := 0) (n := 0) (Nat.le_refl _) (Nat.le_refl _) ?_
  have hw : r_84 = 0 := hw
  subst hw
  refine lv_i2l (v := 0) hx hb dX5_digest_195 (by decide) ?_
  have hPc := hP.sub (ws' := []) [] rfl
  have hDc := hD.sub (ws' := []) [] (by decide) rfl
  have hKc := hK.sub (tys' := []) [] rfl
  have hFc := va_free (wc := []) hD hS hA [] rfl
  refine va_calll (va_runS (As := [.long (-7421562341821331516), .long 0]) (rest := []) ⟨hx, hb, hml, hown, hts⟩ (c_X5_mix l dC dI ((-7421562341821331516) : Int64) (0 : Int64) _ ) (va_cwS 2 hts gX5_digest_X5_mix rfl rfl rfl (by decide +kernel) ⟨Nat.le_of_ble_eq_true rfl, Nat.le_of_ble_eq_true rfl⟩) ⟨pr_blind, fun U hU hW => ⟨rfl, pr_mk hU hW hPc hKc hDc⟩⟩ rfl rfl hl.1 rfl (lv_room (Nat.le_of_ble_eq_true rfl)) dX5_digest_196 ⟨Nat.le_of_ble_eq_true rfl, Nat.le_of_ble_eq_true rfl⟩) hS (fun q _ h => hFc q h) hFc (fun r_86 u_85 t H1 locs ht hvm hw hB hz1 hk1 hS => ?_)
  obtain ⟨hP1, hK1, hD1⟩ := hB
  rw [ht] at hP1
  obtain ⟨hP, hD⟩ := va_join (wr := [(bx, .inr (2, [.ref b0, .ref b1, .int 0, .int 0, .ref b4, .int 0, .ref b6, .int 0, .int 0, .int 0, .int 0])), (x, .inr (7, [.ref bx, .ref po, .ref tr, .ref pa, .ref sp])), (p_st, .inl (cI, 4, .inl zi)), (p_di, .inl (cI, 4, .inl zi)), (p_wa, .inl (cI, 4, .inl zi)), (p_v, .inl (cI, 4, .inl zi)), (p_ib, .inl (cZ, 4, .inl zi)), (pa, .inr (3, [.ref p_v, .int 0, .ref p_st, .ref p_ib, .ref p_di, .ref p_wa, .ref p_se, .ref p_vh, .ref p_re])), (p_se, .inl (cI, 4, .inl zi))]) (w1 := []) hP hD [] [0, 1, 2, 3, 4, 5, 6, 7, 8] rfl rfl (by decide) (by decide) hk1 hFc hP1 hD1
  generalize H1 = H at hP hS ⊢
  have hP : va_P (dC, dI) vwCl [(bx, .inr (2, [.ref b0, .ref b1, .int 0, .int 0, .ref b4, .int 0, .ref b6, .int 0, .int 0, .int 0, .int 0])), (x, .inr (7, [.ref bx, .ref po, .ref tr, .ref pa, .ref sp])), (p_st, .inl (cI, 4, .inl zi)), (p_di, .inl (cI, 4, .inl zi)), (p_wa, .inl (cI, 4, .inl zi)), (p_v, .inl (cI, 4, .inl zi)), (p_ib, .inl (cZ, 4, .inl zi)), (pa, .inr (3, [.ref p_v, .int 0, .ref p_st, .ref p_ib, .ref p_di, .ref p_wa, .ref p_se, .ref p_vh, .ref p_re])), (p_se, .inl (cI, 4, .inl zi))] H := hP
  have hD : va_D A [(bx, .inr (2, [.ref b0, .ref b1, .int 0, .int 0, .ref b4, .int 0, .ref b6, .int 0, .int 0, .int 0, .int 0])), (x, .inr (7, [.ref bx, .ref po, .ref tr, .ref pa, .ref sp])), (p_st, .inl (cI, 4, .inl zi)), (p_di, .inl (cI, 4, .inl zi)), (p_wa, .inl (cI, 4, .inl zi)), (p_v, .inl (cI, 4, .inl zi)), (p_ib, .inl (cZ, 4, .inl zi)), (pa, .inr (3, [.ref p_v, .int 0, .ref p_st, .ref p_ib, .ref p_di, .ref p_wa, .ref p_se, .ref p_vh, .ref p_re])), (p_se, .inl (cI, 4, .inl zi))] := hD
  refine W.widen (k := 0) (n := 0) (Nat.le_refl _) (Nat.le_refl _) ?_
  have hw : r_86 = (((-7421562341821331516) * 31) + 0) := hw
  subst hw
  refine lv_topl (fun y_87 ey_87 => ?_)
  obtain rfl : y_87 = (-8707503711946657604) := ey_87.trans (by decide +kernel)
  refine lv_lstore_n (lv' := [(1, .long (-8707503711946657604)), (3, .int 2), (0, .ref x)]) hx hb dX5_digest_199 rfl hl (by decide) rfl (fun ls hl => ?_)
  refine lv_iinc (k := 1) (v := 3) (lv' := [(3, .int 3), (1, .long (-8707503711946657604)), (0, .ref x)]) hx hb dX5_digest_200 hl rfl (by decide) (by decide) rfl (fun ls hl => ?_)
  refine lv_goto (tgt := 170) hx hb dX5_digest_203 (by decide) ?_
  refine lv_iload_n hx hb dX5_digest_170 rfl (lv_at hl 0 rfl) ?_
  refine lv_iconst (v := 2) hx hb dX5_digest_171 (by decide) ?_
  refine lv_icmp_gt (tgt := 206) hx hb dX5_digest_172 (by decide) (fun _ => ?_) (fun h9 => absurd h9 (by decide))
  refine lv_lload_n hx hb dX5_digest_206 rfl (lv_at hl 1 rfl) ?_
  have hP9 := hP.sub (ws' := []) [] rfl
  have hD9 := hD.sub (ws' := []) [] (by decide) rfl
  have hK9 := hK.sub (tys' := [(cI, .int), (cZ, .boolean)]) [0, 1] rfl
  refine W.widen (k := 0) (n := 0) (Nat.le_of_ble_eq_true rfl) (Nat.le_of_ble_eq_true rfl) ?_
  exact W.lret (v := (-8707503711946657604)) hx hb hr (fun t ht hW => ⟨⟨(-8707503711946657604), (), rfl, (by decide +kernel), po_mk ht hW hP9 hK9 hD9⟩, hS.F ht⟩) hS.2.2 dX5_digest_207
