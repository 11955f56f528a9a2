set_option maxHeartbeats 4000000 in
set_option maxRecDepth 100000 in
/-- Box.standingOf of an empty box -/
theorem c_X0_standingOf (l : Launch) (dC : Nat → ClassId) (dI : Nat → Nat → Nat) (bx : Nat) (b0 : Nat) (b1 : Nat) (b4 : Nat) (b6 : Nat) (par : Int32) (pc : Int32) (sz : Nat)  : Met l yX0_standingOf wsX0_standingOf ({ frames := 2, cells := 0, slots := 0, locals := 40 }) (va_Pc [.ref bx, .int par] (pr_ dC dI [(bx, .inr (2, [.ref b0, .ref b1, .int 0, .int 0, .ref b4, .int 0, .ref b6, .int 0, .int pc, .int 0, .int 0]))] [] sz)) (va_Qi (fun (r : Int32) (_ : Unit) => r = 0) (fun (_ : Unit) t => po_ dC dI [(bx, .inr (2, [.ref b0, .ref b1, .int 0, .int 0, .ref b4, .int 0, .ref b6, .int 0, .int pc, .int 0, .int 0]))] [] (va_A [(bx, .inr (2, [.ref b0, .ref b1, .int 0, .int 0, .ref b4, .int 0, .ref b6, .int 0, .int pc, .int 0, .int 0]))] sz) t) (va_A [(bx, .inr (2, [.ref b0, .ref b1, .int 0, .int 0, .ref b4, .int 0, .ref b6, .int 0, .int pc, .int 0, .int 0]))] sz)) 0 0 (va_A [(bx, .inr (2, [.ref b0, .ref b1, .int 0, .int 0, .ref b4, .int 0, .ref b6, .int 0, .int pc, .int 0, .int 0]))] sz) := by
  refine Met.ofW (cc := cX0_standingOf) (maxL := 4) (ret := (some .int)) (by decide) rfl ?_
  intro p e s m args below meth c s₁ B hml hv
  obtain ⟨rfl, hsz, hP, hK, hD0⟩ := hv
  have hx := B.exec
  have hb := B.bytes
  have hr := B.returns
  have hts := atoms_spec (ws := wsX0_standingOf) B.pre
  have hown : s.vm.findClass RX0 = some m.cls := findClass_of_methodNamed B.named
  have hlocks := B.notSynchronized
  subst hsz
  have hD := hD0.self (sz := s.heap.size)
  generalize hAe : va_A [(bx, .inr (2, [.ref b0, .ref b1, .int 0, .int 0, .ref b4, .int 0, .ref b6, .int 0, .int pc, .int 0, .int 0]))] s.heap.size = A at hD ⊢
  have hA : ∀ q : Nat, s.heap.size ≤ q → A q := fun q h => by rw [← hAe]; exact Or.inr h
  have hS : va_S A s.heap s.heap [] := va_S.rf
  have hP : va_P (dC, dI) vwCl [(bx, .inr (2, [.ref b0, .ref b1, .int 0, .int 0, .ref b4, .int 0, .ref b6, .int 0, .int pc, .int 0, .int 0]))] s.heap := hP
  have hK : va_K (dC, dI) vwCl [] s := hK
  have hl := lv_entry ([.ref bx, .int par]) (n := 4) (Nat.le_of_ble_eq_true rfl)
  rw [lg_entry_eq]
  generalize (lg_sl ([.ref bx, .int par]) ++ List.replicate (4 - (lg_sl ([.ref bx, .int par])).length) Slot.unset).toArray = ls at hl ⊢
  have hl : lv_has ls 4 [(0, .ref bx), (1, .int par)] := hl
  refine lv_iconst (v := 0) hx hb dX0_standingOf_0 (by decide) ?_
  refine lv_istore_n (lv' := [(2, .int 0), (0, .ref bx), (1, .int par)]) hx hb dX0_standingOf_1 rfl hl (by decide) rfl (fun ls hl => ?_)
  refine lv_iconst (v := 0) hx hb dX0_standingOf_2 (by decide) ?_
  refine lv_istore_n (lv' := [(3, .int 0), (2, .int 0), (0, .ref bx), (1, .int par)]) hx hb dX0_standingOf_3 rfl hl (by decide) rfl (fun ls hl => ?_)
  refine lv_iload_n hx hb dX0_standingOf_4 rfl (lv_at hl 0 rfl) ?_
  refine lv_aload_n hx hb dX0_standingOf_5 rfl (lv_at hl 2 rfl) ?_
  have hinX0 : ∀ w ∈ u_ws RX0 TX0 11, w ∈ wsX0_standingOf := by decide +kernel
  refine va_get (D := (dC, dI)) (ci := 2) (v := .int 0) (C := RX0) (T := TX0) (N := 11) hx hb hts hinX0 hown hK hP 0 rfl rfl 2 (by decide) (hts (.fieldLink RX0 29 "BallotLoom$Box" "candidates" "I") (by decide +kernel)) (fun _ h9 => h9) rfl dX0_standingOf_6 ?_
  refine lv_icmp_ge (tgt := 40) hx hb dX0_standingOf_9 (by decide) (fun _ => ?_) (fun h9 => absurd h9 (by decide))
  refine lv_iload_n hx hb dX0_standingOf_40 rfl (lv_at hl 1 rfl) ?_
  have hP9 := hP.sub (ws' := [(bx, .inr (2, [.ref b0, .ref b1, .int 0, .int 0, .ref b4, .int 0, .ref b6, .int 0, .int pc, .int 0, .int 0]))]) [0] rfl
  have hD9 := hD.sub (ws' := [(bx, .inr (2, [.ref b0, .ref b1, .int 0, .int 0, .ref b4, .int 0, .ref b6, .int 0, .int pc, .int 0, .int 0]))]) [0] (by decide) rfl
  have hK9 := hK.sub (tys' := []) [] rfl
  refine W.widen (k := 0) (n := 0) (Nat.le_of_ble_eq_true rfl) (Nat.le_of_ble_eq_true rfl) ?_
  exact W.iret (v := 0) hx hb hr (fun t ht hW => ⟨⟨0, (), rfl, rfl, po_mk ht hW hP9 hK9 hD9⟩, hS.F ht⟩) hS.2.2 dX0_standingOf_41

set_option maxHeartbeats 4000000 in
set_option maxRecDepth 100000 in
theorem c_X0_spoiledStacks (l : Launch) (dC : Nat → ClassId) (dI : Nat → Nat → Nat) (bx : Nat) (b0 : Nat) (b1 : Nat) (b4 : Nat) (b6 : Nat) (sz : Nat)  : Met l yX0_spoiledStacks wsX0_spoiledStacks ({ frames := 2, cells := 0, slots := 0, locals := 40 }) (va_Pc [.ref bx] (pr_ dC dI [(bx, .inr (2, [.ref b0, .ref b1, .int 0, .int 0, .ref b4, .int 0, .ref b6, .int 0, .int 0, .int 0, .int 0]))] [] sz)) (va_Qi (fun (r : Int32) (_ : Unit) => r = 0) (fun (_ : Unit) t => po_ dC dI [(bx, .inr (2, [.ref b0, .ref b1, .int 0, .int 0, .ref b4, .int 0, .ref b6, .int 0, .int 0, .int 0, .int 0]))] [] (va_A [(bx, .inr (2, [.ref b0, .ref b1, .int 0, .int 0, .ref b4, .int 0, .ref b6, .int 0, .int 0, .int 0, .int 0]))] sz) t) (va_A [(bx, .inr (2, [.ref b0, .ref b1, .int 0, .int 0, .ref b4, .int 0, .ref b6, .int 0, .int 0, .int 0, .int 0]))] sz)) 0 0 (va_A [(bx, .inr (2, [.ref b0, .ref b1, .int 0, .int 0, .ref b4, .int 0, .ref b6, .int 0, .int 0, .int 0, .int 0]))] sz) := by
  refine Met.ofW (cc := cX0_spoiledStacks) (maxL := 3) (ret := (some .int)) (by decide) rfl ?_
  intro p e s m args below meth c s₁ B hml hv
  obtain ⟨rfl, hsz, hP, hK, hD0⟩ := hv
  have hx := B.exec
  have hb := B.bytes
  have hr := B.returns
  have hts := atoms_spec (ws := wsX0_spoiledStacks) B.pre
  have hown : s.vm.findClass RX0 = some m.cls := findClass_of_methodNamed B.named
  have hlocks := B.notSynchronized
  subst hsz
  have hD := hD0.self (sz := s.heap.size)
  generalize hAe : va_A [(bx, .inr (2, [.ref b0, .ref b1, .int 0, .int 0, .ref b4, .int 0, .ref b6, .int 0, .int 0, .int 0, .int 0]))] s.heap.size = A at hD ⊢
  have hA : ∀ q : Nat, s.heap.size ≤ q → A q := fun q h => by rw [← hAe]; exact Or.inr h
  have hS : va_S A s.heap s.heap [] := va_S.rf
  have hP : va_P (dC, dI) vwCl [(bx, .inr (2, [.ref b0, .ref b1, .int 0, .int 0, .ref b4, .int 0, .ref b6, .int 0, .int 0, .int 0, .int 0]))] s.heap := hP
  have hK : va_K (dC, dI) vwCl [] s := hK
  have hl := lv_entry ([.ref bx]) (n := 3) (Nat.le_of_ble_eq_true rfl)
  rw [lg_entry_eq]
  generalize (lg_sl ([.ref bx]) ++ List.replicate (3 - (lg_sl ([.ref bx])).length) Slot.unset).toArray = ls at hl ⊢
  have hl : lv_has ls 3 [(0, .ref bx)] := hl
  refine lv_iconst (v := 0) hx hb dX0_spoiledStacks_0 (by decide) ?_
  refine lv_istore_n (lv' := [(1, .int 0), (0, .ref bx)]) hx hb dX0_spoiledStacks_1 rfl hl (by decide) rfl (fun ls hl => ?_)
  refine lv_iconst (v := 0) hx hb dX0_spoiledStacks_2 (by decide) ?_
  refine lv_istore_n (lv' := [(2, .int 0), (1, .int 0), (0, .ref bx)]) hx hb dX0_spoiledStacks_3 rfl hl (by decide) rfl (fun ls hl => ?_)
  refine lv_iload_n hx hb dX0_spoiledStacks_4 rfl (lv_at hl 0 rfl) ?_
  refine lv_aload_n hx hb dX0_spoiledStacks_5 rfl (lv_at hl 2 rfl) ?_
  have hinX0 : ∀ w ∈ u_ws RX0 TX0 11, w ∈ wsX0_spoiledStacks := by decide +kernel
  refine va_get (D := (dC, dI)) (ci := 2) (v := .int 0) (C := RX0) (T := TX0) (N := 11) hx hb hts hinX0 hown hK hP 0 rfl rfl 7 (by decide) (hts (.fieldLink RX0 39 "BallotLoom$Box" "cast" "I") (by decide +kernel)) (fun _ h9 => h9) rfl dX0_spoiledStacks_6 ?_
  refine lv_icmp_ge (tgt := 33) hx hb dX0_spoiledStacks_9 (by decide) (fun _ => ?_) (fun h9 => absurd h9 (by decide))
  refine lv_iload_n hx hb dX0_spoiledStacks_33 rfl (lv_at hl 1 rfl) ?_
  have hP9 := hP.sub (ws' := [(bx, .inr (2, [.ref b0, .ref b1, .int 0, .int 0, .ref b4, .int 0, .ref b6, .int 0, .int 0, .int 0, .int 0]))]) [0] rfl
  have hD9 := hD.sub (ws' := [(bx, .inr (2, [.ref b0, .ref b1, .int 0, .int 0, .ref b4, .int 0, .ref b6, .int 0, .int 0, .int 0, .int 0]))]) [0] (by decide) rfl
  have hK9 := hK.sub (tys' := []) [] rfl
  refine W.widen (k := 0) (n := 0) (Nat.le_of_ble_eq_true rfl) (Nat.le_of_ble_eq_true rfl) ?_
  exact W.iret (v := 0) hx hb hr (fun t ht hW => ⟨⟨0, (), rfl, rfl, po_mk ht hW hP9 hK9 hD9⟩, hS.F ht⟩) hS.2.2 dX0_spoiledStacks_34

set_option maxHeartbeats 4000000 in
set_option maxRecDepth 100000 in
theorem c_X0_allCounts (l : Launch) (dC : Nat → ClassId) (dI : Nat → Nat → Nat) (bx : Nat) (b0 : Nat) (b1 : Nat) (b4 : Nat) (b6 : Nat) (sz : Nat)  : Met l yX0_allCounts wsX0_allCounts ({ frames := 2, cells := 0, slots := 0, locals := 40 }) (va_Pc [.ref bx] (pr_ dC dI [(bx, .inr (2, [.ref b0, .ref b1, .int 0, .int 0, .ref b4, .int 0, .ref b6, .int 0, .int 0, .int 0, .int 0]))] [] sz)) (va_Qi (fun (r : Int32) (_ : Unit) => r = 0) (fun (_ : Unit) t => po_ dC dI [(bx, .inr (2, [.ref b0, .ref b1, .int 0, .int 0, .ref b4, .int 0, .ref b6, .int 0, .int 0, .int 0, .int 0]))] [] (va_A [(bx, .inr (2, [.ref b0, .ref b1, .int 0, .int 0, .ref b4, .int 0, .ref b6, .int 0, .int 0, .int 0, .int 0]))] sz) t) (va_A [(bx, .inr (2, [.ref b0, .ref b1, .int 0, .int 0, .ref b4, .int 0, .ref b6, .int 0, .int 0, .int 0, .int 0]))] sz)) 0 0 (va_A [(bx, .inr (2, [.ref b0, .ref b1, .int 0, .int 0, .ref b4, .int 0, .ref b6, .int 0, .int 0, .int 0, .int 0]))] sz) := by
  refine Met.ofW (cc := cX0_allCounts) (maxL := 3) (ret := (some .int)) (by decide) rfl ?_
  intro p e s m args below meth c s₁ B hml hv
  obtain ⟨rfl, hsz, hP, hK, hD0⟩ := hv
  have hx := B.exec
  have hb := B.bytes
  have hr := B.returns
  have hts := atoms_spec (ws := wsX0_allCounts) B.pre
  have hown : s.vm.findClass RX0 = some m.cls := findClass_of_methodNamed B.named
  have hlocks := B.notSynchronized
  subst hsz
  have hD := hD0.self (sz := s.heap.size)
  generalize hAe : va_A [(bx, .inr (2, [.ref b0, .ref b1, .int 0, .int 0, .ref b4, .int 0, .ref b6, .int 0, .int 0, .int 0, .int 0]))] s.heap.size = A at hD ⊢
  have hA : ∀ q : Nat, s.heap.size ≤ q → A q := fun q h => by rw [← hAe]; exact Or.inr h
  have hS : va_S A s.heap s.heap [] := va_S.rf
  have hP : va_P (dC, dI) vwCl [(bx, .inr (2, [.ref b0, .ref b1, .int 0, .int 0, .ref b4, .int 0, .ref b6, .int 0, .int 0, .int 0, .int 0]))] s.heap := hP
  have hK : va_K (dC, dI) vwCl [] s := hK
  have hl := lv_entry ([.ref bx]) (n := 3) (Nat.le_of_ble_eq_true rfl)
  rw [lg_entry_eq]
  generalize (lg_sl ([.ref bx]) ++ List.replicate (3 - (lg_sl ([.ref bx])).length) Slot.unset).toArray = ls at hl ⊢
  have hl : lv_has ls 3 [(0, .ref bx)] := hl
  refine lv_iconst (v := 0) hx hb dX0_allCounts_0 (by decide) ?_
  refine lv_istore_n (lv' := [(1, .int 0), (0, .ref bx)]) hx hb dX0_allCounts_1 rfl hl (by decide) rfl (fun ls hl => ?_)
  refine lv_iconst (v := 0) hx hb dX0_allCounts_2 (by decide) ?_
  refine lv_istore_n (lv' := [(2, .int 0), (1, .int 0), (0, .ref bx)]) hx hb dX0_allCounts_3 rfl hl (by decide) rfl (fun ls hl => ?_)
  refine lv_iload_n hx hb dX0_allCounts_4 rfl (lv_at hl 0 rfl) ?_
  refine lv_aload_n hx hb dX0_allCounts_5 rfl (lv_at hl 2 rfl) ?_
  have hinX0 : ∀ w ∈ u_ws RX0 TX0 11, w ∈ wsX0_allCounts := by decide +kernel
  refine va_get (D := (dC, dI)) (ci := 2) (v := .int 0) (C := RX0) (T := TX0) (N := 11) hx hb hts hinX0 hown hK hP 0 rfl rfl 7 (by decide) (hts (.fieldLink RX0 39 "BallotLoom$Box" "cast" "I") (by decide +kernel)) (fun _ h9 => h9) rfl dX0_allCounts_6 ?_
  refine lv_icmp_ge (tgt := 30) hx hb dX0_allCounts_9 (by decide) (fun _ => ?_) (fun h9 => absurd h9 (by decide))
  refine lv_iload_n hx hb dX0_allCounts_30 rfl (lv_at hl 1 rfl) ?_
  have hP9 := hP.sub (ws' := [(bx, .inr (2, [.ref b0, .ref b1, .int 0, .int 0, .ref b4, .int 0, .ref b6, .int 0, .int 0, .int 0, .int 0]))]) [0] rfl
  have hD9 := hD.sub (ws' := [(bx, .inr (2, [.ref b0, .ref b1, .int 0, .int 0, .ref b4, .int 0, .ref b6, .int 0, .int 0, .int 0, .int 0]))]) [0] (by decide) rfl
  have hK9 := hK.sub (tys' := []) [] rfl
  refine W.widen (k := 0) (n := 0) (Nat.le_of_ble_eq_true rfl) (Nat.le_of_ble_eq_true rfl) ?_
  exact W.iret (v := 0) hx hb hr (fun t ht hW => ⟨⟨0, (), rfl, rfl, po_mk ht hW hP9 hK9 hD9⟩, hS.F ht⟩) hS.2.2 dX0_allCounts_31

set_option maxHeartbeats 4000000 in
set_option maxRecDepth 100000 in
theorem c_X0_countsOfLists (l : Launch) (dC : Nat → ClassId) (dI : Nat → Nat → Nat) (bx : Nat) (b0 : Nat) (b1 : Nat) (b4 : Nat) (b6 : Nat) (sz : Nat)  : Met l yX0_countsOfLists wsX0_countsOfLists ({ frames := 2, cells := 0, slots := 0, locals := 40 }) (va_Pc [.ref bx] (pr_ dC dI [(bx, .inr (2, [.ref b0, .ref b1, .int 0, .int 0, .ref b4, .int 0, .ref b6, .int 0, .int 0, .int 0, .int 0]))] [] sz)) (va_Qi (fun (r : Int32) (_ : Unit) => r = 0) (fun (_ : Unit) t => po_ dC dI [(bx, .inr (2, [.ref b0, .ref b1, .int 0, .int 0, .ref b4, .int 0, .ref b6, .int 0, .int 0, .int 0, .int 0]))] [] (va_A [(bx, .inr (2, [.ref b0, .ref b1, .int 0, .int 0, .ref b4, .int 0, .ref b6, .int 0, .int 0, .int 0, .int 0]))] sz) t) (va_A [(bx, .inr (2, [.ref b0, .ref b1, .int 0, .int 0, .ref b4, .int 0, .ref b6, .int 0, .int 0, .int 0, .int 0]))] sz)) 0 0 (va_A [(bx, .inr (2, [.ref b0, .ref b1, .int 0, .int 0, .ref b4, .int 0, .ref b6, .int 0, .int 0, .int 0, .int 0]))] sz) := by
  refine Met.ofW (cc := cX0_countsOfLists) (maxL := 3) (ret := (some .int)) (by decide) rfl ?_
  intro p e s m args below meth c s₁ B hml hv
  obtain ⟨rfl, hsz, hP, hK, hD0⟩ := hv
  have hx := B.exec
  have hb := B.bytes
  have hr := B.returns
  have hts := atoms_spec (ws := wsX0_countsOfLists) B.pre
  have hown : s.vm.findClass RX0 = some m.cls := findClass_of_methodNamed B.named
  have hlocks := B.notSynchronized
  subst hsz
  have hD := hD0.self (sz := s.heap.size)
  generalize hAe : va_A [(bx, .inr (2, [.ref b0, .ref b1, .int 0, .int 0, .ref b4, .int 0, .ref b6, .int 0, .int 0, .int 0, .int 0]))] s.heap.size = A at hD ⊢
  have hA : ∀ q : Nat, s.heap.size ≤ q → A q := fun q h => by rw [← hAe]; exact Or.inr h
  have hS : va_S A s.heap s.heap [] := va_S.rf
  have hP : va_P (dC, dI) vwCl [(bx, .inr (2, [.ref b0, .ref b1, .int 0, .int 0, .ref b4, .int 0, .ref b6, .int 0, .int 0, .int 0, .int 0]))] s.heap := hP
  have hK : va_K (dC, dI) vwCl [] s := hK
  have hl := lv_entry ([.ref bx]) (n := 3) (Nat.le_of_ble_eq_true rfl)
  rw [lg_entry_eq]
  generalize (lg_sl ([.ref bx]) ++ List.replicate (3 - (lg_sl ([.ref bx])).length) Slot.unset).toArray = ls at hl ⊢
  have hl : lv_has ls 3 [(0, .ref bx)] := hl
  refine lv_iconst (v := 0) hx hb dX0_countsOfLists_0 (by decide) ?_
  refine lv_istore_n (lv' := [(1, .int 0), (0, .ref bx)]) hx hb dX0_countsOfLists_1 rfl hl (by decide) rfl (fun ls hl => ?_)
  refine lv_iconst (v := 0) hx hb dX0_countsOfLists_2 (by decide) ?_
  refine lv_istore_n (lv' := [(2, .int 0), (1, .int 0), (0, .ref bx)]) hx hb dX0_countsOfLists_3 rfl hl (by decide) rfl (fun ls hl => ?_)
  refine lv_iload_n hx hb dX0_countsOfLists_4 rfl (lv_at hl 0 rfl) ?_
  refine lv_aload_n hx hb dX0_countsOfLists_5 rfl (lv_at hl 2 rfl) ?_
  have hinX0 : ∀ w ∈ u_ws RX0 TX0 11, w ∈ wsX0_countsOfLists := by decide +kernel
  refine va_get (D := (dC, dI)) (ci := 2) (v := .int 0) (C := RX0) (T := TX0) (N := 11) hx hb hts hinX0 hown hK hP 0 rfl rfl 5 (by decide) (hts (.fieldLink RX0 36 "BallotLoom$Box" "districts" "I") (by decide +kernel)) (fun _ h9 => h9) rfl dX0_countsOfLists_6 ?_
  refine lv_icmp_ge (tgt := 26) hx hb dX0_countsOfLists_9 (by decide) (fun _ => ?_) (fun h9 => absurd h9 (by decide))
  refine lv_iload_n hx hb dX0_countsOfLists_26 rfl (lv_at hl 1 rfl) ?_
  have hP9 := hP.sub (ws' := [(bx, .inr (2, [.ref b0, .ref b1, .int 0, .int 0, .ref b4, .int 0, .ref b6, .int 0, .int 0, .int 0, .int 0]))]) [0] rfl
  have hD9 := hD.sub (ws' := [(bx, .inr (2, [.ref b0, .ref b1, .int 0, .int 0, .ref b4, .int 0, .ref b6, .int 0, .int 0, .int 0, .int 0]))]) [0] (by decide) rfl
  have hK9 := hK.sub (tys' := []) [] rfl
  refine W.widen (k := 0) (n := 0) (Nat.le_of_ble_eq_true rfl) (Nat.le_of_ble_eq_true rfl) ?_
  exact W.iret (v := 0) hx hb hr (fun t ht hW => ⟨⟨0, (), rfl, rfl, po_mk ht hW hP9 hK9 hD9⟩, hS.F ht⟩) hS.2.2 dX0_countsOfLists_27

set_option maxHeartbeats 4000000 in
set_option maxRecDepth 100000 in
theorem c_X0_addDistrict (l : Launch) (dC : Nat → ClassId) (dI : Nat → Nat → Nat) (bx : Nat) (b0 : Nat) (b1 : Nat) (b4 : Nat) (b6 : Nat) (se : Int32) (cI : ClassId) (sz : Nat)  : Met l yX0_addDistrict wsX0_addDistrict ({ frames := 2, cells := 0, slots := 0, locals := 40 }) (va_Pc [.ref bx, .int se] (pr_ dC dI [(bx, .inr (2, [.ref b0, .ref b1, .int 0, .int 0, .ref b4, .int 0, .ref b6, .int 0, .int 0, .int 0, .int 0])), (b4, .inl (cI, 4, .inl zi))] [(cI, .int)] sz)) (va_Qi (fun (r : Int32) (_ : Unit) => r = 0) (fun (_ : Unit) t => po_ dC dI [] [(cI, .int)] (va_A [(bx, .inr (2, [.ref b0, .ref b1, .int 0, .int 0, .ref b4, .int 0, .ref b6, .int 0, .int 0, .int 0, .int 0])), (b4, .inl (cI, 4, .inl zi))] sz) t) (va_A [(bx, .inr (2, [.ref b0, .ref b1, .int 0, .int 0, .ref b4, .int 0, .ref b6, .int 0, .int 0, .int 0, .int 0])), (b4, .inl (cI, 4, .inl zi))] sz)) 0 0 (va_A [(bx, .inr (2, [.ref b0, .ref b1, .int 0, .int 0, .ref b4, .int 0, .ref b6, .int 0, .int 0, .int 0, .int 0])), (b4, .inl (cI, 4, .inl zi))] sz) := by
  refine Met.ofW (cc := cX0_addDistrict) (maxL := 3) (ret := (some .int)) (by decide) rfl ?_
  intro p e s m args below meth c s₁ B hml hv
  obtain ⟨rfl, hsz, hP, hK, hD0⟩ := hv
  have hx := B.exec
  have hb := B.bytes
  have hr := B.returns
  have hts := atoms_spec (ws := wsX0_addDistrict) B.pre
  have hown : s.vm.findClass RX0 = some m.cls := findClass_of_methodNamed B.named
  have hlocks := B.notSynchronized
  subst hsz
  have hD := hD0.self (sz := s.heap.size)
  generalize hAe : va_A [(bx, .inr (2, [.ref b0, .ref b1, .int 0, .int 0, .ref b4, .int 0, .ref b6, .int 0, .int 0, .int 0, .int 0])), (b4, .inl (cI, 4, .inl zi))] s.heap.size = A at hD ⊢
  have hA : ∀ q : Nat, s.heap.size ≤ q → A q := fun q h => by rw [← hAe]; exact Or.inr h
  have hS : va_S A s.heap s.heap [] := va_S.rf
  have hP : va_P (dC, dI) vwCl [(bx, .inr (2, [.ref b0, .ref b1, .int 0, .int 0, .ref b4, .int 0, .ref b6, .int 0, .int 0, .int 0, .int 0])), (b4, .inl (cI, 4, .inl zi))] s.heap := hP
  have hK : va_K (dC, dI) vwCl [(cI, .int)] s := hK
  have hl := lv_entry ([.ref bx, .int se]) (n := 3) (Nat.le_of_ble_eq_true rfl)
  rw [lg_entry_eq]
  generalize (lg_sl ([.ref bx, .int se]) ++ List.replicate (3 - (lg_sl ([.ref bx, .int se])).length) Slot.unset).toArray = ls at hl ⊢
  have hl : lv_has ls 3 [(0, .ref bx), (1, .int se)] := hl
  refine lv_aload_n hx hb dX0_addDistrict_0 rfl (lv_at hl 0 rfl) ?_
  have hinX0 : ∀ w ∈ u_ws RX0 TX0 11, w ∈ wsX0_addDistrict := by decide +kernel
  refine va_get (D := (dC, dI)) (ci := 2) (v := .int 0) (C := RX0) (T := TX0) (N := 11) hx hb hts hinX0 hown hK hP 0 rfl rfl 5 (by decide) (hts (.fieldLink RX0 36 "BallotLoom$Box" "districts" "I") (by decide +kernel)) (fun _ h9 => h9) rfl dX0_addDistrict_1 ?_
  refine lv_istore_n (lv' := [(2, .int 0), (0, .ref bx), (1, .int se)]) hx hb dX0_addDistrict_4 rfl hl (by decide) rfl (fun ls hl => ?_)
  refine lv_aload_n hx hb dX0_addDistrict_5 rfl (lv_at hl 1 rfl) ?_
  refine va_get (D := (dC, dI)) (ci := 2) (v := .ref b4) (C := RX0) (T := TX0) (N := 11) hx hb hts hinX0 hown hK hP 0 rfl rfl 4 (by decide) (hts (.fieldLink RX0 19 "BallotLoom$Box" "seatsOf" "[I") (by decide +kernel)) (fun _ h9 => h9) rfl dX0_addDistrict_6 ?_
  refine lv_iload_n hx hb dX0_addDistrict_9 rfl (lv_at hl 0 rfl) ?_
  refine lv_iload_n hx hb dX0_addDistrict_10 rfl (lv_at hl 2 rfl) ?_
  refine va_iast hx hb hK hP hD hS 1 0 rfl rfl (by unfold vp_in; decide) dX0_addDistrict_11 (fun H locs hP hD hS => ?_)
  have hP : va_P (dC, dI) vwCl [(bx, .inr (2, [.ref b0, .ref b1, .int 0, .int 0, .ref b4, .int 0, .ref b6, .int 0, .int 0, .int 0, .int 0])), (b4, .inl (cI, 4, .inl (upd zi (0 : Int32).toNatClampNeg se)))] H := hP
  have hD : va_D A [(bx, .inr (2, [.ref b0, .ref b1, .int 0, .int 0, .ref b4, .int 0, .ref b6, .int 0, .int 0, .int 0, .int 0])), (b4, .inl (cI, 4, .inl (upd zi (0 : Int32).toNatClampNeg se)))] := hD
  refine lv_aload_n hx hb dX0_addDistrict_12 rfl (lv_at hl 1 rfl) ?_
  refine lv_dup hx hb dX0_addDistrict_13 rfl ?_
  refine va_get (D := (dC, dI)) (ci := 2) (v := .int 0) (C := RX0) (T := TX0) (N := 11) hx hb hts hinX0 hown hK hP 0 rfl rfl 5 (by decide) (hts (.fieldLink RX0 36 "BallotLoom$Box" "districts" "I") (by decide +kernel)) (fun _ h9 => h9) rfl dX0_addDistrict_14 ?_
  refine lv_iconst (v := 1) hx hb dX0_addDistrict_17 (by decide) ?_
  refine lv_iadd hx hb dX0_addDistrict_18 ?_
  refine lv_topi (fun y_1 ey_1 => ?_)
  obtain rfl : y_1 = 1 := ey_1.trans (by decide)
  refine va_put (D := (dC, dI)) (ci := 2) (v := .int 1) (ty := .int) (C := RX0) (T := TX0) (N := 11) hx hb hts hinX0 tyX0 tyX0_ok nmX0 hown hK hP hD hS 0 rfl rfl 5 (by decide) (hts (.fieldLink RX0 36 "BallotLoom$Box" "districts" "I") (by decide +kernel)) (fun _ h9 => h9) rfl (by decide +kernel) rfl rfl (Nat.le_of_ble_eq_true rfl) dX0_addDistrict_19 (fun H locs hP hD hS => ?_)
  have hP : va_P (dC, dI) vwCl [(bx, .inr (2, [.ref b0, .ref b1, .int 0, .int 0, .ref b4, .int 1, .ref b6, .int 0, .int 0, .int 0, .int 0])), (b4, .inl (cI, 4, .inl (upd zi (0 : Int32).toNatClampNeg se)))] H := hP
  have hD : va_D A [(bx, .inr (2, [.ref b0, .ref b1, .int 0, .int 0, .ref b4, .int 1, .ref b6, .int 0, .int 0, .int 0, .int 0])), (b4, .inl (cI, 4, .inl (upd zi (0 : Int32).toNatClampNeg se)))] := hD
  refine lv_iload_n hx hb dX0_addDistrict_22 rfl (lv_at hl 0 rfl) ?_
  have hP9 := hP.sub (ws' := []) [] rfl
  have hD9 := hD.sub (ws' := []) [] (by decide) rfl
  have hK9 := hK.sub (tys' := [(cI, .int)]) [0] rfl
  refine W.widen (k := 0) (n := 0) (Nat.le_of_ble_eq_true rfl) (Nat.le_of_ble_eq_true rfl) ?_
  exact W.iret (v := 0) hx hb hr (fun t ht hW => ⟨⟨0, (), rfl, rfl, po_mk ht hW hP9 hK9 hD9⟩, hS.F ht⟩) hS.2.2 dX0_addDistrict_23

set_option maxHeartbeats 4000000 in
set_option maxRecDepth 100000 in
theorem c_X0_addCandidate (l : Launch) (dC : Nat → ClassId) (dI : Nat → Nat → Nat) (bx : Nat) (b0 : Nat) (b1 : Nat) (b4 : Nat) (b6 : Nat) (par : Int32) (cI : ClassId) (cZ : ClassId) (sz : Nat)  : Met l yX0_addCandidate wsX0_addCandidate ({ frames := 2, cells := 0, slots := 0, locals := 40 }) (va_Pc [.ref bx, .int par] (pr_ dC dI [(bx, .inr (2, [.ref b0, .ref b1, .int 0, .int 0, .ref b4, .int 0, .ref b6, .int 0, .int 0, .int 0, .int 0])), (b0, .inl (cI, 6, .inl zi)), (b1, .inl (cZ, 6, .inl zi))] [(cI, .int), (cZ, .boolean)] sz)) (va_Qi (fun (r : Int32) (_ : Unit) => r = 0) (fun (_ : Unit) t => po_ dC dI [] [(cI, .int), (cZ, .boolean)] (va_A [(bx, .inr (2, [.ref b0, .ref b1, .int 0, .int 0, .ref b4, .int 0, .ref b6, .int 0, .int 0, .int 0, .int 0])), (b0, .inl (cI, 6, .inl zi)), (b1, .inl (cZ, 6, .inl zi))] sz) t) (va_A [(bx, .inr (2, [.ref b0, .ref b1, .int 0, .int 0, .ref b4, .int 0, .ref b6, .int 0, .int 0, .int 0, .int 0])), (b0, .inl (cI, 6, .inl zi)), (b1, .inl (cZ, 6, .inl zi))] sz)) 0 0 (va_A [(bx, .inr (2, [.ref b0, .ref b1, .int 0, .int 0, .ref b4, .int 0, .ref b6, .int 0, .int 0, .int 0, .int 0])), (b0, .inl (cI, 6, .inl zi)), (b1, .inl (cZ, 6, .inl zi))] sz) := by
  refine Met.ofW (cc := cX0_addCandidate) (maxL := 3) (ret := (some .int)) (by decide) rfl ?_
  intro p e s m args below meth c s₁ B hml hv
  obtain ⟨rfl, hsz, hP, hK, hD0⟩ := hv
  have hx := B.exec
  have hb := B.bytes
  have hr := B.returns
  have hts := atoms_spec (ws := wsX0_addCandidate) B.pre
  have hown : s.vm.findClass RX0 = some m.cls := findClass_of_methodNamed B.named
  have hlocks := B.notSynchronized
  subst hsz
  have hD := hD0.self (sz := s.heap.size)
  generalize hAe : va_A [(bx, .inr (2, [.ref b0, .ref b1, .int 0, .int 0, .ref b4, .int 0, .ref b6, .int 0, .int 0, .int 0, .int 0])), (b0, .inl (cI, 6, .inl zi)), (b1, .inl (cZ, 6, .inl zi))] s.heap.size = A at hD ⊢
  have hA : ∀ q : Nat, s.heap.size ≤ q → A q := fun q h => by rw [← hAe]; exact Or.inr h
  have hS : va_S A s.heap s.heap [] := va_S.rf
  have hP : va_P (dC, dI) vwCl [(bx, .inr (2, [.ref b0, .ref b1, .int 0, .int 0, .ref b4, .int 0, .ref b6, .int 0, .int 0, .int 0, .int 0])), (b0, .inl (cI, 6, .inl zi)), (b1, .inl (cZ, 6, .inl zi))] s.heap := hP
  have hK : va_K (dC, dI) vwCl [(cI, .int), (cZ, .boolean)] s := hK
  have hl := lv_entry ([.ref bx, .int par]) (n := 3) (Nat.le_of_ble_eq_true rfl)
  rw [lg_entry_eq]
  generalize (lg_sl ([.ref bx, .int par]) ++ List.replicate (3 - (lg_sl ([.ref bx, .int par])).length) Slot.unset).toArray = ls at hl ⊢
  have hl : lv_has ls 3 [(0, .ref bx), (1, .int par)] := hl
  refine lv_aload_n hx hb dX0_addCandidate_0 rfl (lv_at hl 0 rfl) ?_
  have hinX0 : ∀ w ∈ u_ws RX0 TX0 11, w ∈ wsX0_addCandidate := by decide +kernel
  refine va_get (D := (dC, dI)) (ci := 2) (v := .int 0) (C := RX0) (T := TX0) (N := 11) hx hb hts hinX0 hown hK hP 0 rfl rfl 2 (by decide) (hts (.fieldLink RX0 29 "BallotLoom$Box" "candidates" "I") (by decide +kernel)) (fun _ h9 => h9) rfl dX0_addCandidate_1 ?_
  refine lv_istore_n (lv' := [(2, .int 0), (0, .ref bx), (1, .int par)]) hx hb dX0_addCandidate_4 rfl hl (by decide) rfl (fun ls hl => ?_)
  refine lv_aload_n hx hb dX0_addCandidate_5 rfl (lv_at hl 1 rfl) ?_
  refine va_get (D := (dC, dI)) (ci := 2) (v := .ref b0) (C := RX0) (T := TX0) (N := 11) hx hb hts hinX0 hown hK hP 0 rfl rfl 0 (by decide) (hts (.fieldLink RX0 9 "BallotLoom$Box" "partyOf" "[I") (by decide +kernel)) (fun _ h9 => h9) rfl dX0_addCandidate_6 ?_
  refine lv_iload_n hx hb dX0_addCandidate_9 rfl (lv_at hl 0 rfl) ?_
  refine lv_iload_n hx hb dX0_addCandidate_10 rfl (lv_at hl 2 rfl) ?_
  refine va_iast hx hb hK hP hD hS 1 0 rfl rfl (by unfold vp_in; decide) dX0_addCandidate_11 (fun H locs hP hD hS => ?_)
  have hP : va_P (dC, dI) vwCl [(bx, .inr (2, [.ref b0, .ref b1, .int 0, .int 0, .ref b4, .int 0, .ref b6, .int 0, .int 0, .int 0, .int 0])), (b0, .inl (cI, 6, .inl (upd zi (0 : Int32).toNatClampNeg par))), (b1, .inl (cZ, 6, .inl zi))] H := hP
  have hD : va_D A [(bx, .inr (2, [.ref b0, .ref b1, .int 0, .int 0, .ref b4, .int 0, .ref b6, .int 0, .int 0, .int 0, .int 0])), (b0, .inl (cI, 6, .inl (upd zi (0 : Int32).toNatClampNeg par))), (b1, .inl (cZ, 6, .inl zi))] := hD
  refine lv_aload_n hx hb dX0_addCandidate_12 rfl (lv_at hl 1 rfl) ?_
  refine va_get (D := (dC, dI)) (ci := 2) (v := .ref b1) (C := RX0) (T := TX0) (N := 11) hx hb hts hinX0 hown hK hP 0 rfl rfl 1 (by decide) (hts (.fieldLink RX0 15 "BallotLoom$Box" "stands" "[Z") (by decide +kernel)) (fun _ h9 => h9) rfl dX0_addCandidate_13 ?_
  refine lv_iload_n hx hb dX0_addCandidate_16 rfl (lv_at hl 0 rfl) ?_
  refine lv_iconst (v := 1) hx hb dX0_addCandidate_17 (by decide) ?_
  refine va_zast hx hb hK hP hD hS 2 1 rfl rfl (by unfold vp_in; decide) dX0_addCandidate_18 (fun H locs hP hD hS => ?_)
  have hP : va_P (dC, dI) vwCl [(bx, .inr (2, [.ref b0, .ref b1, .int 0, .int 0, .ref b4, .int 0, .ref b6, .int 0, .int 0, .int 0, .int 0])), (b0, .inl (cI, 6, .inl (upd zi (0 : Int32).toNatClampNeg par))), (b1, .inl (cZ, 6, .inl (upd zi (0 : Int32).toNatClampNeg (vp_nar .boolean 1))))] H := hP
  have hD : va_D A [(bx, .inr (2, [.ref b0, .ref b1, .int 0, .int 0, .ref b4, .int 0, .ref b6, .int 0, .int 0, .int 0, .int 0])), (b0, .inl (cI, 6, .inl (upd zi (0 : Int32).toNatClampNeg par))), (b1, .inl (cZ, 6, .inl (upd zi (0 : Int32).toNatClampNeg (vp_nar .boolean 1))))] := hD
  refine lv_aload_n hx hb dX0_addCandidate_19 rfl (lv_at hl 1 rfl) ?_
  refine lv_dup hx hb dX0_addCandidate_20 rfl ?_
  refine va_get (D := (dC, dI)) (ci := 2) (v := .int 0) (C := RX0) (T := TX0) (N := 11) hx hb hts hinX0 hown hK hP 0 rfl rfl 2 (by decide) (hts (.fieldLink RX0 29 "BallotLoom$Box" "candidates" "I") (by decide +kernel)) (fun _ h9 => h9) rfl dX0_addCandidate_21 ?_
  refine lv_iconst (v := 1) hx hb dX0_addCandidate_24 (by decide) ?_
  refine lv_iadd hx hb dX0_addCandidate_25 ?_
  refine lv_topi (fun y_1 ey_1 => ?_)
  obtain rfl : y_1 = 1 := ey_1.trans (by decide)
  refine va_put (D := (dC, dI)) (ci := 2) (v := .int 1) (ty := .int) (C := RX0) (T := TX0) (N := 11) hx hb hts hinX0 tyX0 tyX0_ok nmX0 hown hK hP hD hS 0 rfl rfl 2 (by decide) (hts (.fieldLink RX0 29 "BallotLoom$Box" "candidates" "I") (by decide +kernel)) (fun _ h9 => h9) rfl (by decide +kernel) rfl rfl (Nat.le_of_ble_eq_true rfl) dX0_addCandidate_26 (fun H locs hP hD hS => ?_)
  have hP : va_P (dC, dI) vwCl [(bx, .inr (2, [.ref b0, .ref b1, .int 1, .int 0, .ref b4, .int 0, .ref b6, .int 0, .int 0, .int 0, .int 0])), (b0, .inl (cI, 6, .inl (upd zi (0 : Int32).toNatClampNeg par))), (b1, .inl (cZ, 6, .inl (upd zi (0 : Int32).toNatClampNeg (vp_nar .boolean 1))))] H := hP
  have hD : va_D A [(bx, .inr (2, [.ref b0, .ref b1, .int 1, .int 0, .ref b4, .int 0, .ref b6, .int 0, .int 0, .int 0, .int 0])), (b0, .inl (cI, 6, .inl (upd zi (0 : Int32).toNatClampNeg par))), (b1, .inl (cZ, 6, .inl (upd zi (0 : Int32).toNatClampNeg (vp_nar .boolean 1))))] := hD
  refine lv_aload_n hx hb dX0_addCandidate_29 rfl (lv_at hl 1 rfl) ?_
  refine lv_dup hx hb dX0_addCandidate_30 rfl ?_
  refine va_get (D := (dC, dI)) (ci := 2) (v := .int 0) (C := RX0) (T := TX0) (N := 11) hx hb hts hinX0 hown hK hP 0 rfl rfl 3 (by decide) (hts (.fieldLink RX0 33 "BallotLoom$Box" "standing" "I") (by decide +kernel)) (fun _ h9 => h9) rfl dX0_addCandidate_31 ?_
  refine lv_iconst (v := 1) hx hb dX0_addCandidate_34 (by decide) ?_
  refine lv_iadd hx hb dX0_addCandidate_35 ?_
  refine lv_topi (fun y_2 ey_2 => ?_)
  obtain rfl : y_2 = 1 := ey_2.trans (by decide)
  refine va_put (D := (dC, dI)) (ci := 2) (v := .int 1) (ty := .int) (C := RX0) (T := TX0) (N := 11) hx hb hts hinX0 tyX0 tyX0_ok nmX0 hown hK hP hD hS 0 rfl rfl 3 (by decide) (hts (.fieldLink RX0 33 "BallotLoom$Box" "standing" "I") (by decide +kernel)) (fun _ h9 => h9) rfl (by decide +kernel) rfl rfl (Nat.le_of_ble_eq_true rfl) dX0_addCandidate_36 (fun H locs hP hD hS => ?_)
  have hP : va_P (dC, dI) vwCl [(bx, .inr (2, [.ref b0, .ref b1, .int 1, .int 1, .ref b4, .int 0, .ref b6, .int 0, .int 0, .int 0, .int 0])), (b0, .inl (cI, 6, .inl (upd zi (0 : Int32).toNatClampNeg par))), (b1, .inl (cZ, 6, .inl (upd zi (0 : Int32).toNatClampNeg (vp_nar .boolean 1))))] H := hP
  have hD : va_D A [(bx, .inr (2, [.ref b0, .ref b1, .int 1, .int 1, .ref b4, .int 0, .ref b6, .int 0, .int 0, .int 0, .int 0])), (b0, .inl (cI, 6, .inl (upd zi (0 : Int32).toNatClampNeg par))), (b1, .inl (cZ, 6, .inl (upd zi (0 : Int32).toNatClampNeg (vp_nar .boolean 1))))] := hD
  refine lv_iload_n hx hb dX0_addCandidate_39 rfl (lv_at hl 0 rfl) ?_
  have hP9 := hP.sub (ws' := []) [] rfl
  have hD9 := hD.sub (ws' := []) [] (by decide) rfl
  have hK9 := hK.sub (tys' := [(cI, .int), (cZ, .boolean)]) [0, 1] rfl
  refine W.widen (k := 0) (n := 0) (Nat.le_of_ble_eq_true rfl) (Nat.le_of_ble_eq_true rfl) ?_
  exact W.iret (v := 0) hx hb hr (fun t ht hW => ⟨⟨0, (), rfl, rfl, po_mk ht hW hP9 hK9 hD9⟩, hS.F ht⟩) hS.2.2 dX0_addCandidate_40

set_option maxHeartbeats 4000000 in
set_option maxRecDepth 100000 in
/-- Box.figure of an empty box -/
theorem c_X0_figure (l : Launch) (dC : Nat → ClassId) (dI : Nat → Nat → Nat) (bx : Nat) (b0 : Nat) (b1 : Nat) (b4 : Nat) (b6 : Nat) (wh : Int32) (sz : Nat) (hwh : wh = 0 ∨ wh = 1 ∨ wh = 2 ∨ wh = 3 ∨ wh = 4 ∨ wh = 5 ∨ wh = 6 ∨ wh = 7 ∨ wh = 8 ∨ wh = 9) : Met l yX0_figure wsX0_figure ({ frames := 3, cells := 0, slots := 0, locals := 70 }) (va_Pc [.ref bx, .int wh] (pr_ dC dI [(bx, .inr (2, [.ref b0, .ref b1, .int 0, .int 0, .ref b4, .int 0, .ref b6, .int 0, .int 0, .int 0, .int 0]))] [] sz)) (va_Qi (fun (r : Int32) (_ : Unit) => r = 0) (fun (_ : Unit) t => po_ dC dI [(bx, .inr (2, [.ref b0, .ref b1, .int 0, .int 0, .ref b4, .int 0, .ref b6, .int 0, .int 0, .int 0, .int 0]))] [] (va_A [(bx, .inr (2, [.ref b0, .ref b1, .int 0, .int 0, .ref b4, .int 0, .ref b6, .int 0, .int 0, .int 0, .int 0]))] sz) t) (va_A [(bx, .inr (2, [.ref b0, .ref b1, .int 0, .int 0, .ref b4, .int 0, .ref b6, .int 0, .int 0, .int 0, .int 0]))] sz)) 0 0 (va_A [(bx, .inr (2, [.ref b0, .ref b1, .int 0, .int 0, .ref b4, .int 0, .ref b6, .int 0, .int 0, .int 0, .int 0]))] sz) := by
  have hcs : wh = 0 ∨ wh = 1 ∨ wh = 2 ∨ wh = 3 ∨ wh = 4 ∨ wh = 5 ∨ wh = 6 ∨ wh = 7 ∨ wh = 8 ∨ wh = 9 := hwh
  rcases hcs with rfl | rfl | rfl | rfl | rfl | rfl | rfl | rfl | rfl | rfl
  · refine Met.ofW (cc := cX0_figure) (maxL := 2) (ret := (some .int)) (by decide) rfl ?_
    intro p e s m args below meth c s₁ B hml hv
    obtain ⟨rfl, hsz, hP, hK, hD0⟩ := hv
    have hx := B.exec
    have hb := B.bytes
    have hr := B.returns
    have hts := atoms_spec (ws := wsX0_figure) B.pre
    have hown : s.vm.findClass RX0 = some m.cls := findClass_of_methodNamed B.named
    have hlocks := B.notSynchronized
    subst hsz
    have hD := hD0.self (sz := s.heap.size)
    generalize hAe : va_A [(bx, .inr (2, [.ref b0, .ref b1, .int 0, .int 0, .ref b4, .int 0, .ref b6, .int 0, .int 0, .int 0, .int 0]))] s.heap.size = A at hD ⊢
    have hA : ∀ q : Nat, s.heap.size ≤ q → A q := fun q h => by rw [← hAe]; exact Or.inr h
    have hS : va_S A s.heap s.heap [] := va_S.rf
    have hP : va_P (dC, dI) vwCl [(bx, .inr (2, [.ref b0, .ref b1, .int 0, .int 0, .ref b4, .int 0, .ref b6, .int 0, .int 0, .int 0, .int 0]))] s.heap := hP
    have hK : va_K (dC, dI) vwCl [] s := hK
    have hl := lv_entry ([.ref bx, .int 0]) (n := 2) (Nat.le_of_ble_eq_true rfl)
    rw [lg_entry_eq]
    generalize (lg_sl ([.ref bx, .int 0]) ++ List.replicate (2 - (lg_sl ([.ref bx, .int 0])).length) Slot.unset).toArray = ls at hl ⊢
    have hl : lv_has ls 2 [(0, .ref bx), (1, .int 0)] := hl
    refine lv_iload_n hx hb dX0_figure_0 rfl (lv_at hl 1 rfl) ?_
    refine lv_tableIn (off := 51) (tgt := 52) hx hb dX0_figure_1 (by decide) (by decide) rfl (by decide) ?_
    refine lv_aload_n hx hb dX0_figure_52 rfl (lv_at hl 0 rfl) ?_
    have hinX0 : ∀ w ∈ u_ws RX0 TX0 11, w ∈ wsX0_figure := by decide +kernel
    refine va_get (D := (dC, dI)) (ci := 2) (v := .int 0) (C := RX0) (T := TX0) (N := 11) hx hb hts hinX0 hown hK hP 0 rfl rfl 2 (by decide) (hts (.fieldLink RX0 29 "BallotLoom$Box" "candidates" "I") (by decide +kernel)) (fun _ h9 => h9) rfl dX0_figure_53 ?_
    have hP9 := hP.sub (ws' := [(bx, .inr (2, [.ref b0, .ref b1, .int 0, .int 0, .ref b4, .int 0, .ref b6, .int 0, .int 0, .int 0, .int 0]))]) [0] rfl
    have hD9 := hD.sub (ws' := [(bx, .inr (2, [.ref b0, .ref b1, .int 0, .int 0, .ref b4, .int 0, .ref b6, .int 0, .int 0, .int 0, .int 0]))]) [0] (by decide) rfl
    have hK9 := hK.sub (tys' := []) [] rfl
    refine W.widen (k := 0) (n := 0) (Nat.le_of_ble_eq_true rfl) (Nat.le_of_ble_eq_true rfl) ?_
    exact W.iret (v := 0) hx hb hr (fun t ht hW => ⟨⟨0, (), rfl, rfl, po_mk ht hW hP9 hK9 hD9⟩, hS.F ht⟩) hS.2.2 dX0_figure_56
  · refine Met.ofW (cc := cX0_figure) (maxL := 2) (ret := (some .int)) (by decide) rfl ?_
    intro p e s m args below meth c s₁ B hml hv
    obtain ⟨rfl, hsz, hP, hK, hD0⟩ := hv
    have hx := B.exec
    have hb := B.bytes
    have hr := B.returns
    have hts := atoms_spec (ws := wsX0_figure) B.pre
    have hown : s.vm.findClass RX0 = some m.cls := findClass_of_methodNamed B.named
    have hlocks := B.notSynchronized
    subst hsz
    have hD := hD0.self (sz := s.heap.size)
    generalize hAe : va_A [(bx, .inr (2, [.ref b0, .ref b1, .int 0, .int 0, .ref b4, .int 0, .ref b6, .int 0, .int 0, .int 0, .int 0]))] s.heap.size = A at hD ⊢
    have hA : ∀ q : Nat, s.heap.size ≤ q → A q := fun q h => by rw [← hAe]; exact Or.inr h
    have hS : va_S A s.heap s.heap [] := va_S.rf
    have hP : va_P (dC, dI) vwCl [(bx, .inr (2, [.ref b0, .ref b1, .int 0, .int 0, .ref b4, .int 0, .ref b6, .int 0, .int 0, .int 0, .int 0]))] s.heap := hP
    have hK : va_K (dC, dI) vwCl [] s := hK
    have hl := lv_entry ([.ref bx, .int 1]) (n := 2) (Nat.le_of_ble_eq_true rfl)
    rw [lg_entry_eq]
    generalize (lg_sl ([.ref bx, .int 1]) ++ List.replicate (2 - (lg_sl ([.ref bx, .int 1])).length) Slot.unset).toArray = ls at hl ⊢
    have hl : lv_has ls 2 [(0, .ref bx), (1, .int 1)] := hl
    refine lv_iload_n hx hb dX0_figure_0 rfl (lv_at hl 1 rfl) ?_
    refine lv_tableIn (off := 56) (tgt := 57) hx hb dX0_figure_1 (by decide) (by decide) rfl (by decide) ?_
    refine lv_aload_n hx hb dX0_figure_57 rfl (lv_at hl 0 rfl) ?_
    have hinX0 : ∀ w ∈ u_ws RX0 TX0 11, w ∈ wsX0_figure := by decide +kernel
    refine va_get (D := (dC, dI)) (ci := 2) (v := .int 0) (C := RX0) (T := TX0) (N := 11) hx hb hts hinX0 hown hK hP 0 rfl rfl 3 (by decide) (hts (.fieldLink RX0 33 "BallotLoom$Box" "standing" "I") (by decide +kernel)) (fun _ h9 => h9) rfl dX0_figure_58 ?_
    have hP9 := hP.sub (ws' := [(bx, .inr (2, [.ref b0, .ref b1, .int 0, .int 0, .ref b4, .int 0, .ref b6, .int 0, .int 0, .int 0, .int 0]))]) [0] rfl
    have hD9 := hD.sub (ws' := [(bx, .inr (2, [.ref b0, .ref b1, .int 0, .int 0, .ref b4, .int 0, .ref b6, .int 0, .int 0, .int 0, .int 0]))]) [0] (by decide) rfl
    have hK9 := hK.sub (tys' := []) [] rfl
    refine W.widen (k := 0) (n := 0) (Nat.le_of_ble_eq_true rfl) (Nat.le_of_ble_eq_true rfl) ?_
    exact W.iret (v := 0) hx hb hr (fun t ht hW => ⟨⟨0, (), rfl, rfl, po_mk ht hW hP9 hK9 hD9⟩, hS.F ht⟩) hS.2.2 dX0_figure_61
  · refine Met.ofW (cc := cX0_figure) (maxL := 2) (ret := (some .int)) (by decide) rfl ?_
    intro p e s m args below meth c s₁ B hml hv
    obtain ⟨rfl, hsz, hP, hK, hD0⟩ := hv
    have hx := B.exec
    have hb := B.bytes
    have hr := B.returns
    have hts := atoms_spec (ws := wsX0_figure) B.pre
    have hown : s.vm.findClass RX0 = some m.cls := findClass_of_methodNamed B.named
    have hlocks := B.notSynchronized
    subst hsz
    have hD := hD0.self (sz := s.heap.size)
    generalize hAe : va_A [(bx, .inr (2, [.ref b0, .ref b1, .int 0, .int 0, .ref b4, .int 0, .ref b6, .int 0, .int 0, .int 0, .int 0]))] s.heap.size = A at hD ⊢
    have hA : ∀ q : Nat, s.heap.size ≤ q → A q := fun q h => by rw [← hAe]; exact Or.inr h
    have hS : va_S A s.heap s.heap [] := va_S.rf
    have hP : va_P (dC, dI) vwCl [(bx, .inr (2, [.ref b0, .ref b1, .int 0, .int 0, .ref b4, .int 0, .ref b6, .int 0, .int 0, .int 0, .int 0]))] s.heap := hP
    have hK : va_K (dC, dI) vwCl [] s := hK
    have hl := lv_entry ([.ref bx, .int 2]) (n := 2) (Nat.le_of_ble_eq_true rfl)
    rw [lg_entry_eq]
    generalize (lg_sl ([.ref bx, .int 2]) ++ List.replicate (2 - (lg_sl ([.ref bx, .int 2])).length) Slot.unset).toArray = ls at hl ⊢
    have hl : lv_has ls 2 [(0, .ref bx), (1, .int 2)] := hl
    refine lv_iload_n hx hb dX0_figure_0 rfl (lv_at hl 1 rfl) ?_
    refine lv_tableIn (off := 61) (tgt := 62) hx hb dX0_figure_1 (by decide) (by decide) rfl (by decide) ?_
    refine lv_aload_n hx hb dX0_figure_62 rfl (lv_at hl 0 rfl) ?_
    have hinX0 : ∀ w ∈ u_ws RX0 TX0 11, w ∈ wsX0_figure := by decide +kernel
    refine va_get (D := (dC, dI)) (ci := 2) (v := .int 0) (C := RX0) (T := TX0) (N := 11) hx hb hts hinX0 hown hK hP 0 rfl rfl 5 (by decide) (hts (.fieldLink RX0 36 "BallotLoom$Box" "districts" "I") (by decide +kernel)) (fun _ h9 => h9) rfl dX0_figure_63 ?_
    have hP9 := hP.sub (ws' := [(bx, .inr (2, [.ref b0, .ref b1, .int 0, .int 0, .ref b4, .int 0, .ref b6, .int 0, .int 0, .int 0, .int 0]))]) [0] rfl
    have hD9 := hD.sub (ws' := [(bx, .inr (2, [.ref b0, .ref b1, .int 0, .int 0, .ref b4, .int 0, .ref b6, .int 0, .int 0, .int 0, .int 0]))]) [0] (by decide) rfl
    have hK9 := hK.sub (tys' := []) [] rfl
    refine W.widen (k := 0) (n := 0) (Nat.le_of_ble_eq_true rfl) (Nat.le_of_ble_eq_true rfl) ?_
    exact W.iret (v := 0) hx hb hr (fun t ht hW => ⟨⟨0, (), rfl, rfl, po_mk ht hW hP9 hK9 hD9⟩, hS.F ht⟩) hS.2.2 dX0_figure_66
  · refine Met.ofW (cc := cX0_figure) (maxL := 2) (ret := (some .int)) (by decide) rfl ?_
    intro p e s m args below meth c s₁ B hml hv
    obtain ⟨rfl, hsz, hP, hK, hD0⟩ := hv
    have hx := B.exec
    have hb := B.bytes
    have hr := B.returns
    have hts := atoms_spec (ws := wsX0_figure) B.pre
    have hown : s.vm.findClass RX0 = some m.cls := findClass_of_methodNamed B.named
    have hlocks := B.notSynchronized
    subst hsz
    have hD := hD0.self (sz := s.heap.size)
    generalize hAe : va_A [(bx, .inr (2, [.ref b0, .ref b1, .int 0, .int 0, .ref b4, .int 0, .ref b6, .int 0, .int 0, .int 0, .int 0]))] s.heap.size = A at hD ⊢
    have hA : ∀ q : Nat, s.heap.size ≤ q → A q := fun q h => by rw [← hAe]; exact Or.inr h
    have hS : va_S A s.heap s.heap [] := va_S.rf
    have hP : va_P (dC, dI) vwCl [(bx, .inr (2, [.ref b0, .ref b1, .int 0, .int 0, .ref b4, .int 0, .ref b6, .int 0, .int 0, .int 0, .int 0]))] s.heap := hP
    have hK : va_K (dC, dI) vwCl [] s := hK
    have hl := lv_entry ([.ref bx, .int 3]) (n := 2) (Nat.le_of_ble_eq_true rfl)
    rw [lg_entry_eq]
    generalize (lg_sl ([.ref bx, .int 3]) ++ List.replicate (2 - (lg_sl ([.ref bx, .int 3])).length) Slot.unset).toArray = ls at hl ⊢
    have hl : lv_has ls 2 [(0, .ref bx), (1, .int 3)] := hl
    refine lv_iload_n hx hb dX0_figure_0 rfl (lv_at hl 1 rfl) ?_
    refine lv_tableIn (off := 66) (tgt := 67) hx hb dX0_figure_1 (by decide) (by decide) rfl (by decide) ?_
    refine lv_aload_n hx hb dX0_figure_67 rfl (lv_at hl 0 rfl) ?_
    have hinX0 : ∀ w ∈ u_ws RX0 TX0 11, w ∈ wsX0_figure := by decide +kernel
    refine va_get (D := (dC, dI)) (ci := 2) (v := .int 0) (C := RX0) (T := TX0) (N := 11) hx hb hts hinX0 hown hK hP 0 rfl rfl 7 (by decide) (hts (.fieldLink RX0 39 "BallotLoom$Box" "cast" "I") (by decide +kernel)) (fun _ h9 => h9) rfl dX0_figure_68 ?_
    have hP9 := hP.sub (ws' := [(bx, .inr (2, [.ref b0, .ref b1, .int 0, .int 0, .ref b4, .int 0, .ref b6, .int 0, .int 0, .int 0, .int 0]))]) [0] rfl
    have hD9 := hD.sub (ws' := [(bx, .inr (2, [.ref b0, .ref b1, .int 0, .int 0, .ref b4, .int 0, .ref b6, .int 0, .int 0, .int 0, .int 0]))]) [0] (by decide) rfl
    have hK9 := hK.sub (tys' := []) [] rfl
    refine W.widen (k := 0) (n := 0) (Nat.le_of_ble_eq_true rfl) (Nat.le_of_ble_eq_true rfl) ?_
    exact W.iret (v := 0) hx hb hr (fun t ht hW => ⟨⟨0, (), rfl, rfl, po_mk ht hW hP9 hK9 hD9⟩, hS.F ht⟩) hS.2.2 dX0_figure_71
  · refine Met.ofW (cc := cX0_figure) (maxL := 2) (ret := (some .int)) (by decide) rfl ?_
    intro p e s m args below meth c s₁ B hml hv
    obtain ⟨rfl, hsz, hP, hK, hD0⟩ := hv
    have hx := B.exec
    have hb := B.bytes
    have hr := B.returns
    have hts := atoms_spec (ws := wsX0_figure) B.pre
    have hown : s.vm.findClass RX0 = some m.cls := findClass_of_methodNamed B.named
    have hlocks := B.notSynchronized
    subst hsz
    have hD := hD0.self (sz := s.heap.size)
    generalize hAe : va_A [(bx, .inr (2, [.ref b0, .ref b1, .int 0, .int 0, .ref b4, .int 0, .ref b6, .int 0, .int 0, .int 0, .int 0]))] s.heap.size = A at hD ⊢
    have hA : ∀ q : Nat, s.heap.size ≤ q → A q := fun q h => by rw [← hAe]; exact Or.inr h
    have hS : va_S A s.heap s.heap [] := va_S.rf
    have hP : va_P (dC, dI) vwCl [(bx, .inr (2, [.ref b0, .ref b1, .int 0, .int 0, .ref b4, .int 0, .ref b6, .int 0, .int 0, .int 0, .int 0]))] s.heap := hP
    have hK : va_K (dC, dI) vwCl [] s := hK
    have hl := lv_entry ([.ref bx, .int 4]) (n := 2) (Nat.le_of_ble_eq_true rfl)
    rw [lg_entry_eq]
    generalize (lg_sl ([.ref bx, .int 4]) ++ List.replicate (2 - (lg_sl ([.ref bx, .int 4])).length) Slot.unset).toArray = ls at hl ⊢
    have hl : lv_has ls 2 [(0, .ref bx), (1, .int 4)] := hl
    refine lv_iload_n hx hb dX0_figure_0 rfl (lv_at hl 1 rfl) ?_
    refine lv_tableIn (off := 71) (tgt := 72) hx hb dX0_figure_1 (by decide) (by decide) rfl (by decide) ?_
    refine lv_aload_n hx hb dX0_figure_72 rfl (lv_at hl 0 rfl) ?_
    have hPc := hP.sub (ws' := [(bx, .inr (2, [.ref b0, .ref b1, .int 0, .int 0, .ref b4, .int 0, .ref b6, .int 0, .int 0, .int 0, .int 0]))]) [0] rfl
    have hDc := hD.sub (ws' := [(bx, .inr (2, [.ref b0, .ref b1, .int 0, .int 0, .ref b4, .int 0, .ref b6, .int 0, .int 0, .int 0, .int 0]))]) [0] (by decide) rfl
    have hKc := hK.sub (tys' := []) [] rfl
    have hFc := va_free (wc := [(bx, .inr (2, [.ref b0, .ref b1, .int 0, .int 0, .ref b4, .int 0, .ref b6, .int 0, .int 0, .int 0, .int 0]))]) hD hS hA [0] rfl
    refine va_calli (va_runV (As := []) (rest := []) ⟨hx, hb, hml, hown, hts⟩ (c_X0_spoiledStacks l dC dI bx b0 b1 b4 b6 _ ) (cwV 0 hts gX0_figure_X0_spoiledStacks rfl rfl rfl (by decide +kernel) ⟨Nat.le_of_ble_eq_true rfl, Nat.le_of_ble_eq_true rfl⟩) ⟨pr_blind, va_recv hKc hPc (ci := 2) (q0 := 0) rfl rfl, fun U hU hW => ⟨rfl, pr_mk hU hW hPc hKc hDc⟩⟩ rfl rfl hl.1 rfl (lv_room (Nat.le_of_ble_eq_true rfl)) dX0_figure_73 ⟨Nat.le_of_ble_eq_true rfl, Nat.le_of_ble_eq_true rfl⟩) hS (fun q _ h => hFc q h) hFc (fun r_2 u_1 t H1 locs ht hvm hw hB hz1 hk1 hS => ?_)
    obtain ⟨hP1, hK1, hD1⟩ := hB
    rw [ht] at hP1
    obtain ⟨hP, hD⟩ := va_join (wr := []) (w1 := [(bx, .inr (2, [.ref b0, .ref b1, .int 0, .int 0, .ref b4, .int 0, .ref b6, .int 0, .int 0, .int 0, .int 0]))]) hP hD [0] [] rfl rfl (by decide) (by decide) hk1 hFc hP1 hD1
    generalize H1 = H at hP hS ⊢
    have hP : va_P (dC, dI) vwCl [(bx, .inr (2, [.ref b0, .ref b1, .int 0, .int 0, .ref b4, .int 0, .ref b6, .int 0, .int 0, .int 0, .int 0]))] H := hP
    have hD : va_D A [(bx, .inr (2, [.ref b0, .ref b1, .int 0, .int 0, .ref b4, .int 0, .ref b6, .int 0, .int 0, .int 0, .int 0]))] := hD
    refine W.widen (k := 0) (n := 0) (Nat.le_refl _) (Nat.le_refl _) ?_
    have hw : r_2 = 0 := hw
    subst hw
    have hP9 := hP.sub (ws' := [(bx, .inr (2, [.ref b0, .ref b1, .int 0, .int 0, .ref b4, .int 0, .ref b6, .int 0, .int 0, .int 0, .int 0]))]) [0] rfl
    have hD9 := hD.sub (ws' := [(bx, .inr (2, [.ref b0, .ref b1, .int 0, .int 0, .ref b4, .int 0, .ref b6, .int 0, .int 0, .int 0, .int 0]))]) [0] (by decide) rfl
    have hK9 := hK.sub (tys' := []) [] rfl
    refine W.widen (k := 0) (n := 0) (Nat.le_of_ble_eq_true rfl) (Nat.le_of_ble_eq_true rfl) ?_
    exact W.iret (v := 0) hx hb hr (fun t ht hW => ⟨⟨0, (), rfl, rfl, po_mk ht hW hP9 hK9 hD9⟩, hS.F ht⟩) hS.2.2 dX0_figure_76
  · refine Met.ofW (cc := cX0_figure) (maxL := 2) (ret := (some .int)) (by decide) rfl ?_
    intro p e s m args below meth c s₁ B hml hv
    obtain ⟨rfl, hsz, hP, hK, hD0⟩ := hv
    have hx := B.exec
    have hb := B.bytes
    have hr := B.returns
    have hts := atoms_spec (ws := wsX0_figure) B.pre
    have hown : s.vm.findClass RX0 = some m.cls := findClass_of_methodNamed B.named
    have hlocks := B.notSynchronized
    subst hsz
    have hD := hD0.self (sz := s.heap.size)
    generalize hAe : va_A [(bx, .inr (2, [.ref b0, .ref b1, .int 0, .int 0, .ref b4, .int 0, .ref b6, .int 0, .int 0, .int 0, .int 0]))] s.heap.size = A at hD ⊢
    have hA : ∀ q : Nat, s.heap.size ≤ q → A q := fun q h => by rw [← hAe]; exact Or.inr h
    have hS : va_S A s.heap s.heap [] := va_S.rf
    have hP : va_P (dC, dI) vwCl [(bx, .inr (2, [.ref b0, .ref b1, .int 0, .int 0, .ref b4, .int 0, .ref b6, .int 0, .int 0, .int 0, .int 0]))] s.heap := hP
    have hK : va_K (dC, dI) vwCl [] s := hK
    have hl := lv_entry ([.ref bx, .int 5]) (n := 2) (Nat.le_of_ble_eq_true rfl)
    rw [lg_entry_eq]
    generalize (lg_sl ([.ref bx, .int 5]) ++ List.replicate (2 - (lg_sl ([.ref bx, .int 5])).length) Slot.unset).toArray = ls at hl ⊢
    have hl : lv_has ls 2 [(0, .ref bx), (1, .int 5)] := hl
    refine lv_iload_n hx hb dX0_figure_0 rfl (lv_at hl 1 rfl) ?_
    refine lv_tableIn (off := 76) (tgt := 77) hx hb dX0_figure_1 (by decide) (by decide) rfl (by decide) ?_
    refine lv_aload_n hx hb dX0_figure_77 rfl (lv_at hl 0 rfl) ?_
    have hPc := hP.sub (ws' := [(bx, .inr (2, [.ref b0, .ref b1, .int 0, .int 0, .ref b4, .int 0, .ref b6, .int 0, .int 0, .int 0, .int 0]))]) [0] rfl
    have hDc := hD.sub (ws' := [(bx, .inr (2, [.ref b0, .ref b1, .int 0, .int 0, .ref b4, .int 0, .ref b6, .int 0, .int 0, .int 0, .int 0]))]) [0] (by decide) rfl
    have hKc := hK.sub (tys' := []) [] rfl
    have hFc := va_free (wc := [(bx, .inr (2, [.ref b0, .ref b1, .int 0, .int 0, .ref b4, .int 0, .ref b6, .int 0, .int 0, .int 0, .int 0]))]) hD hS hA [0] rfl
    refine va_calli (va_runV (As := []) (rest := []) ⟨hx, hb, hml, hown, hts⟩ (c_X0_allCounts l dC dI bx b0 b1 b4 b6 _ ) (cwV 0 hts gX0_figure_X0_allCounts rfl rfl rfl (by decide +kernel) ⟨Nat.le_of_ble_eq_true rfl, Nat.le_of_ble_eq_true rfl⟩) ⟨pr_blind, va_recv hKc hPc (ci := 2) (q0 := 0) rfl rfl, fun U hU hW => ⟨rfl, pr_mk hU hW hPc hKc hDc⟩⟩ rfl rfl hl.1 rfl (lv_room (Nat.le_of_ble_eq_true rfl)) dX0_figure_78 ⟨Nat.le_of_ble_eq_true rfl, Nat.le_of_ble_eq_true rfl⟩) hS (fun q _ h => hFc q h) hFc (fun r_4 u_3 t H1 locs ht hvm hw hB hz1 hk1 hS => ?_)
    obtain ⟨hP1, hK1, hD1⟩ := hB
    rw [ht] at hP1
    obtain ⟨hP, hD⟩ := va_join (wr := []) (w1 := [(bx, .inr (2, [.ref b0, .ref b1, .int 0, .int 0, .ref b4, .int 0, .ref b6, .int 0, .int 0, .int 0, .int 0]))]) hP hD [0] [] rfl rfl (by decide) (by decide) hk1 hFc hP1 hD1
    generalize H1 = H at hP hS ⊢
    have hP : va_P (dC, dI) vwCl [(bx, .inr (2, [.ref b0, .ref b1, .int 0, .int 0, .ref b4, .int 0, .ref b6, .int 0, .int 0, .int 0, .int 0]))] H := hP
    have hD : va_D A [(bx, .inr (2, [.ref b0, .ref b1, .int 0, .int 0, .ref b4, .int 0, .ref b6, .int 0, .int 0, .int 0, .int 0]))] := hD
    refine W.widen (k := 0) (n := 0) (Nat.le_refl _) (Nat.le_refl _) ?_
    have hw : r_4 = 0 := hw
    subst hw
    have hP9 := hP.sub (ws' := [(bx, .inr (2, [.ref b0, .ref b1, .int 0, .int 0, .ref b4, .int 0, .ref b6, .int 0, .int 0, .int 0, .int 0]))]) [0] rfl
    have hD9 := hD.sub (ws' := [(bx, .inr (2, [.ref b0, .ref b1, .int 0, .int 0, .ref b4, .int 0, .ref b6, .int 0, .int 0, .int 0, .int 0]))]) [0] (by decide) rfl
    have hK9 := hK.sub (tys' := []) [] rfl
    refine W.widen (k := 0) (n := 0) (Nat.le_of_ble_eq_true rfl) (Nat.le_of_ble_eq_true rfl) ?_
    exact W.iret (v := 0) hx hb hr (fun t ht hW => ⟨⟨0, (), rfl, rfl, po_mk ht hW hP9 hK9 hD9⟩, hS.F ht⟩) hS.2.2 dX0_figure_81
  · refine Met.ofW (cc := cX0_figure) (maxL := 2) (ret := (some .int)) (by decide) rfl ?_
    intro p e s m args below meth c s₁ B hml hv
    obtain ⟨rfl, hsz, hP, hK, hD0⟩ := hv
    have hx := B.exec
    have hb := B.bytes
    have hr := B.returns
    have hts := atoms_spec (ws := wsX0_figure) B.pre
    have hown : s.vm.findClass RX0 = some m.cls := findClass_of_methodNamed B.named
    have hlocks := B.notSynchronized
    subst hsz
    have hD := hD0.self (sz := s.heap.size)
    generalize hAe : va_A [(bx, .inr (2, [.ref b0, .ref b1, .int 0, .int 0, .ref b4, .int 0, .ref b6, .int 0, .int 0, .int 0, .int 0]))] s.heap.size = A at hD ⊢
    have hA : ∀ q : Nat, s.heap.size ≤ q → A q := fun q h => by rw [← hAe]; exact Or.inr h
    have hS : va_S A s.heap s.heap [] := va_S.rf
    have hP : va_P (dC, dI) vwCl [(bx, .inr (2, [.ref b0, .ref b1, .int 0, .int 0, .ref b4, .int 0, .ref b6, .int 0, .int 0, .int 0, .int 0]))] s.heap := hP
    have hK : va_K (dC, dI) vwCl [] s := hK
    have hl := lv_entry ([.ref bx, .int 6]) (n := 2) (Nat.le_of_ble_eq_true rfl)
    rw [lg_entry_eq]
    generalize (lg_sl ([.ref bx, .int 6]) ++ List.replicate (2 - (lg_sl ([.ref bx, .int 6])).length) Slot.unset).toArray = ls at hl ⊢
    have hl : lv_has ls 2 [(0, .ref bx), (1, .int 6)] := hl
    refine lv_iload_n hx hb dX0_figure_0 rfl (lv_at hl 1 rfl) ?_
    refine lv_tableIn (off := 81) (tgt := 82) hx hb dX0_figure_1 (by decide) (by decide) rfl (by decide) ?_
    refine lv_aload_n hx hb dX0_figure_82 rfl (lv_at hl 0 rfl) ?_
    have hPc := hP.sub (ws' := [(bx, .inr (2, [.ref b0, .ref b1, .int 0, .int 0, .ref b4, .int 0, .ref b6, .int 0, .int 0, .int 0, .int 0]))]) [0] rfl
    have hDc := hD.sub (ws' := [(bx, .inr (2, [.ref b0, .ref b1, .int 0, .int 0, .ref b4, .int 0, .ref b6, .int 0, .int 0, .int 0, .int 0]))]) [0] (by decide) rfl
    have hKc := hK.sub (tys' := []) [] rfl
    have hFc := va_free (wc := [(bx, .inr (2, [.ref b0, .ref b1, .int 0, .int 0, .ref b4, .int 0, .ref b6, .int 0, .int 0, .int 0, .int 0]))]) hD hS hA [0] rfl
    refine va_calli (va_runV (As := []) (rest := []) ⟨hx, hb, hml, hown, hts⟩ (c_X0_countsOfLists l dC dI bx b0 b1 b4 b6 _ ) (cwV 0 hts gX0_figure_X0_countsOfLists rfl rfl rfl (by decide +kernel) ⟨Nat.le_of_ble_eq_true rfl, Nat.le_of_ble_eq_true rfl⟩) ⟨pr_blind, va_recv hKc hPc (ci := 2) (q0 := 0) rfl rfl, fun U hU hW => ⟨rfl, pr_mk hU hW hPc hKc hDc⟩⟩ rfl rfl hl.1 rfl (lv_room (Nat.le_of_ble_eq_true rfl)) dX0_figure_83 ⟨Nat.le_of_ble_eq_true rfl, Nat.le_of_ble_eq_true rfl⟩) hS (fun q _ h => hFc q h) hFc (fun r_6 u_5 t H1 locs ht hvm hw hB hz1 hk1 hS => ?_)
    obtain ⟨hP1, hK1, hD1⟩ := hB
    rw [ht] at hP1
    obtain ⟨hP, hD⟩ := va_join (wr := []) (w1 := [(bx, .inr (2, [.ref b0, .ref b1, .int 0, .int 0, .ref b4, .int 0, .ref b6, .int 0, .int 0, .int 0, .int 0]))]) hP hD [0] [] rfl rfl (by decide) (by decide) hk1 hFc hP1 hD1
    generalize H1 = H at hP hS ⊢
    have hP : va_P (dC, dI) vwCl [(bx, .inr (2, [.ref b0, .ref b1, .int 0, .int 0, .ref b4, .int 0, .ref b6, .int 0, .int 0, .int 0, .int 0]))] H := hP
    have hD : va_D A [(bx, .inr (2, [.ref b0, .ref b1, .int 0, .int 0, .ref b4, .int 0, .ref b6, .int 0, .int 0, .int 0, .int 0]))] := hD
    refine W.widen (k := 0) (n := 0) (Nat.le_refl _) (Nat.le_refl _) ?_
    have hw : r_6 = 0 := hw
    subst hw
    have hP9 := hP.sub (ws' := [(bx, .inr (2, [.ref b0, .ref b1, .int 0, .int 0, .ref b4, .int 0, .ref b6, .int 0, .int 0, .int 0, .int 0]))]) [0] rfl
    have hD9 := hD.sub (ws' := [(bx, .inr (2, [.ref b0, .ref b1, .int 0, .int 0, .ref b4, .int 0, .ref b6, .int 0, .int 0, .int 0, .int 0]))]) [0] (by decide) rfl
    have hK9 := hK.sub (tys' := []) [] rfl
    refine W.widen (k := 0) (n := 0) (Nat.le_of_ble_eq_true rfl) (Nat.le_of_ble_eq_true rfl) ?_
    exact W.iret (v := 0) hx hb hr (fun t ht hW => ⟨⟨0, (), rfl, rfl, po_mk ht hW hP9 hK9 hD9⟩, hS.F ht⟩) hS.2.2 dX0_figure_86
  · refine Met.ofW (cc := cX0_figure) (maxL := 2) (ret := (some .int)) (by decide) rfl ?_
    intro p e s m args below meth c s₁ B hml hv
    obtain ⟨rfl, hsz, hP, hK, hD0⟩ := hv
    have hx := B.exec
    have hb := B.bytes
    have hr := B.returns
    have hts := atoms_spec (ws := wsX0_figure) B.pre
    have hown : s.vm.findClass RX0 = some m.cls := findClass_of_methodNamed B.named
    have hlocks := B.notSynchronized
    subst hsz
    have hD := hD0.self (sz := s.heap.size)
    generalize hAe : va_A [(bx, .inr (2, [.ref b0, .ref b1, .int 0, .int 0, .ref b4, .int 0, .ref b6, .int 0, .int 0, .int 0, .int 0]))] s.heap.size = A at hD ⊢
    have hA : ∀ q : Nat, s.heap.size ≤ q → A q := fun q h => by rw [← hAe]; exact Or.inr h
    have hS : va_S A s.heap s.heap [] := va_S.rf
    have hP : va_P (dC, dI) vwCl [(bx, .inr (2, [.ref b0, .ref b1, .int 0, .int 0, .ref b4, .int 0, .ref b6, .int 0, .int 0, .int 0, .int 0]))] s.heap := hP
    have hK : va_K (dC, dI) vwCl [] s := hK
    have hl := lv_entry ([.ref bx, .int 7]) (n := 2) (Nat.le_of_ble_eq_true rfl)
    rw [lg_entry_eq]
    generalize (lg_sl ([.ref bx, .int 7]) ++ List.replicate (2 - (lg_sl ([.ref bx, .int 7])).length) Slot.unset).toArray = ls at hl ⊢
    have hl : lv_has ls 2 [(0, .ref bx), (1, .int 7)] := hl
    refine lv_iload_n hx hb dX0_figure_0 rfl (lv_at hl 1 rfl) ?_
    refine lv_tableIn (off := 86) (tgt := 87) hx hb dX0_figure_1 (by decide) (by decide) rfl (by decide) ?_
    refine lv_aload_n hx hb dX0_figure_87 rfl (lv_at hl 0 rfl) ?_
    have hinX0 : ∀ w ∈ u_ws RX0 TX0 11, w ∈ wsX0_figure := by decide +kernel
    refine va_get (D := (dC, dI)) (ci := 2) (v := .int 0) (C := RX0) (T := TX0) (N := 11) hx hb hts hinX0 hown hK hP 0 rfl rfl 8 (by decide) (hts (.fieldLink RX0 81 "BallotLoom$Box" "percent" "I") (by decide +kernel)) (fun _ h9 => h9) rfl dX0_figure_88 ?_
    have hP9 := hP.sub (ws' := [(bx, .inr (2, [.ref b0, .ref b1, .int 0, .int 0, .ref b4, .int 0, .ref b6, .int 0, .int 0, .int 0, .int 0]))]) [0] rfl
    have hD9 := hD.sub (ws' := [(bx, .inr (2, [.ref b0, .ref b1, .int 0, .int 0, .ref b4, .int 0, .ref b6, .int 0, .int 0, .int 0, .int 0]))]) [0] (by decide) rfl
    have hK9 := hK.sub (tys' := []) [] rfl
    refine W.widen (k := 0) (n := 0) (Nat.le_of_ble_eq_true rfl) (Nat.le_of_ble_eq_true rfl) ?_
    exact W.iret (v := 0) hx hb hr (fun t ht hW => ⟨⟨0, (), rfl, rfl, po_mk ht hW hP9 hK9 hD9⟩, hS.F ht⟩) hS.2.2 dX0_figure_91
  · refine Met.ofW (cc := cX0_figure) (maxL := 2) (ret := (some .int)) (by decide) rfl ?_
    intro p e s m args below meth c s₁ B hml hv
    obtain ⟨rfl, hsz, hP, hK, hD0⟩ := hv
    have hx := B.exec
    have hb := B.bytes
    have hr := B.returns
    have hts := atoms_spec (ws := wsX0_figure) B.pre
    have hown : s.vm.findClass RX0 = some m.cls := findClass_of_methodNamed B.named
    have hlocks := B.notSynchronized
    subst hsz
    have hD := hD0.self (sz := s.heap.size)
    generalize hAe : va_A [(bx, .inr (2, [.ref b0, .ref b1, .int 0, .int 0, .ref b4, .int 0, .ref b6, .int 0, .int 0, .int 0, .int 0]))] s.heap.size = A at hD ⊢
    have hA : ∀ q : Nat, s.heap.size ≤ q → A q := fun q h => by rw [← hAe]; exact Or.inr h
    have hS : va_S A s.heap s.heap [] := va_S.rf
    have hP : va_P (dC, dI) vwCl [(bx, .inr (2, [.ref b0, .ref b1, .int 0, .int 0, .ref b4, .int 0, .ref b6, .int 0, .int 0, .int 0, .int 0]))] s.heap := hP
    have hK : va_K (dC, dI) vwCl [] s := hK
    have hl := lv_entry ([.ref bx, .int 8]) (n := 2) (Nat.le_of_ble_eq_true rfl)
    rw [lg_entry_eq]
    generalize (lg_sl ([.ref bx, .int 8]) ++ List.replicate (2 - (lg_sl ([.ref bx, .int 8])).length) Slot.unset).toArray = ls at hl ⊢
    have hl : lv_has ls 2 [(0, .ref bx), (1, .int 8)] := hl
    refine lv_iload_n hx hb dX0_figure_0 rfl (lv_at hl 1 rfl) ?_
    refine lv_tableIn (off := 91) (tgt := 92) hx hb dX0_figure_1 (by decide) (by decide) rfl (by decide) ?_
    refine lv_aload_n hx hb dX0_figure_92 rfl (lv_at hl 0 rfl) ?_
    have hinX0 : ∀ w ∈ u_ws RX0 TX0 11, w ∈ wsX0_figure := by decide +kernel
    refine va_get (D := (dC, dI)) (ci := 2) (v := .int 0) (C := RX0) (T := TX0) (N := 11) hx hb hts hinX0 hown hK hP 0 rfl rfl 9 (by decide) (hts (.fieldLink RX0 84 "BallotLoom$Box" "isSealed" "Z") (by decide +kernel)) (fun _ h9 => h9) rfl dX0_figure_93 ?_
    refine lv_if_eq (tgt := 103) hx hb dX0_figure_96 (by decide) (fun _ => ?_) (fun h9 => absurd h9 (by decide))
    refine lv_iconst (v := 0) hx hb dX0_figure_103 (by decide) ?_
    have hP9 := hP.sub (ws' := [(bx, .inr (2, [.ref b0, .ref b1, .int 0, .int 0, .ref b4, .int 0, .ref b6, .int 0, .int 0, .int 0, .int 0]))]) [0] rfl
    have hD9 := hD.sub (ws' := [(bx, .inr (2, [.ref b0, .ref b1, .int 0, .int 0, .ref b4, .int 0, .ref b6, .int 0, .int 0, .int 0, .int 0]))]) [0] (by decide) rfl
    have hK9 := hK.sub (tys' := []) [] rfl
    refine W.widen (k := 0) (n := 0) (Nat.le_of_ble_eq_true rfl) (Nat.le_of_ble_eq_true rfl) ?_
    exact W.iret (v := 0) hx hb hr (fun t ht hW => ⟨⟨0, (), rfl, rfl, po_mk ht hW hP9 hK9 hD9⟩, hS.F ht⟩) hS.2.2 dX0_figure_104
  · refine Met.ofW (cc := cX0_figure) (maxL := 2) (ret := (some .int)) (by decide) rfl ?_
    intro p e s m args below meth c s₁ B hml hv
    obtain ⟨rfl, hsz, hP, hK, hD0⟩ := hv
    have hx := B.exec
    have hb := B.bytes
    have hr := B.returns
    have hts := atoms_spec (ws := wsX0_figure) B.pre
    have hown : s.vm.findClass RX0 = some m.cls := findClass_of_methodNamed B.named
    have hlocks := B.notSynchronized
    subst hsz
    have hD := hD0.self (sz := s.heap.size)
    generalize hAe : va_A [(bx, .inr (2, [.ref b0, .ref b1, .int 0, .int 0, .ref b4, .int 0, .ref b6, .int 0, .int 0, .int 0, .int 0]))] s.heap.size = A at hD ⊢
    have hA : ∀ q : Nat, s.heap.size ≤ q → A q := fun q h => by rw [← hAe]; exact Or.inr h
    have hS : va_S A s.heap s.heap [] := va_S.rf
    have hP : va_P (dC, dI) vwCl [(bx, .inr (2, [.ref b0, .ref b1, .int 0, .int 0, .ref b4, .int 0, .ref b6, .int 0, .int 0, .int 0, .int 0]))] s.heap := hP
    have hK : va_K (dC, dI) vwCl [] s := hK
    have hl := lv_entry ([.ref bx, .int 9]) (n := 2) (Nat.le_of_ble_eq_true rfl)
    rw [lg_entry_eq]
    generalize (lg_sl ([.ref bx, .int 9]) ++ List.replicate (2 - (lg_sl ([.ref bx, .int 9])).length) Slot.unset).toArray = ls at hl ⊢
    have hl : lv_has ls 2 [(0, .ref bx), (1, .int 9)] := hl
    refine lv_iload_n hx hb dX0_figure_0 rfl (lv_at hl 1 rfl) ?_
    refine lv_tableOut (tgt := 105) hx hb dX0_figure_1 (by decide) (by decide) ?_
    refine lv_aload_n hx hb dX0_figure_105 rfl (lv_at hl 0 rfl) ?_
    have hinX0 : ∀ w ∈ u_ws RX0 TX0 11, w ∈ wsX0_figure := by decide +kernel
    refine va_get (D := (dC, dI)) (ci := 2) (v := .int 0) (C := RX0) (T := TX0) (N := 11) hx hb hts hinX0 hown hK hP 0 rfl rfl 10 (by decide) (hts (.fieldLink RX0 87 "BallotLoom$Box" "refused" "I") (by decide +kernel)) (fun _ h9 => h9) rfl dX0_figure_106 ?_
    have hP9 := hP.sub (ws' := [(bx, .inr (2, [.ref b0, .ref b1, .int 0, .int 0, .ref b4, .int 0, .ref b6, .int 0, .int 0, .int 0, .int 0]))]) [0] rfl
    have hD9 := hD.sub (ws' := [(bx, .inr (2, [.ref b0, .ref b1, .int 0, .int 0, .ref b4, .int 0, .ref b6, .int 0, .int 0, .int 0, .int 0]))]) [0] (by decide) rfl
    have hK9 := hK.sub (tys' := []) [] rfl
    refine W.widen (k := 0) (n := 0) (Nat.le_of_ble_eq_true rfl) (Nat.le_of_ble_eq_true rfl) ?_
    exact W.iret (v := 0) hx hb hr (fun t ht hW => ⟨⟨0, (), rfl, rfl, po_mk ht hW hP9 hK9 hD9⟩, hS.F ht⟩) hS.2.2 dX0_figure_109
