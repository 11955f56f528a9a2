/-! p1: the reckoner's premises and numbers. -/
def mo_ (U : State) : Prop := va_Fw RJx4a65c ⟨"java/util/List", "size", "()I"⟩ yJx4a65c_size_8abf5 U
theorem mo_of {U : State} (h : mo_ U) : va_Fw RJx4a65c ⟨"java/util/List", "size", "()I"⟩ yJx4a65c_size_8abf5 U := h
theorem mo_mk {s U : State} (hW : s.WarmedH U.vm) (h : mo_ s) : mo_ U := va_Fw.moved (by decide +kernel) hW.alike h
theorem mo_bl (U : State) (g : JFrame) (mk : MethodId) (a : Array Value) (h : mo_ U) : mo_ (U.calling g mk a) := va_Fw.moved (by decide +kernel) (u := U) (U := U.calling g mk a) (Vm.Alike.refl U.vm) h
theorem toIm1 : (-1 : Int32).toInt = -1 := by decide
theorem toI3 : (3 : Int32).toInt = 3 := by decide
theorem lt_or (q : Int32) : q < 0 ∨ -1 < q := by
  rw [Int32.lt_iff_toInt_lt, Int32.lt_iff_toInt_lt, toI0, toIm1]; omega
theorem ho2 {h : Int32} (h1 : ¬ h < 1) : ¬ h < 0 := by
  rw [Int32.lt_iff_toInt_lt, toI1] at h1
  rw [Int32.lt_iff_toInt_lt, toI0]; omega
theorem in43 {q : Int32} (h1 : ¬ q < 0) (h2 : ¬ 3 < q) : vp_in q 4 := in4 h1 (by
  rw [Int32.lt_iff_toInt_lt, toI3] at h2
  rw [Int32.le_iff_toInt_le, toI4]; omega)
theorem in5 {q : Int32} (h1 : ¬ q < 0) (h2 : ¬ 3 < q) : vp_in q 5 := fun h => in43 h1 h2 (h.imp id (fun h => Nat.le_trans (by decide) h))
theorem in10 {q : Int32} (h1 : ¬ q < 0) (h2 : ¬ 9 < q) : vp_in q 10 := by
  rw [Int32.lt_iff_toInt_lt, toI0] at h1
  rw [Int32.lt_iff_toInt_lt, toI9] at h2
  intro h
  rcases h with h | h
  · rw [Int32.lt_iff_toInt_lt, toI0] at h; omega
  · have h9 : q.toNatClampNeg = q.toInt.toNat := rfl
    omega
set_option maxHeartbeats 4000000 in
set_option maxRecDepth 100000 in
theorem c_Jx4a65c_size_8abf5 (l : Launch) (dC : Nat → ClassId) (dI : Nat → Nat → Nat) (pl : Nat) (md : Int32) (el : Nat) (s9 : Int32) (sz : Nat)  : Met l yJx4a65c_size_8abf5 wsJx4a65c_size_8abf5 ({ frames := 2, cells := 0, slots := 0, locals := 40 }) (va_Pc [.ref pl] (pr_ dC dI [(pl, .inr (1, [.int md, .ref el, .int s9]))] [] sz)) (va_Qi (fun (r : Int32) (_ : Unit) => r = s9) (fun (_ : Unit) t => po_ dC dI [(pl, .inr (1, [.int md, .ref el, .int s9]))] [] (va_A [(pl, .inr (1, [.int md, .ref el, .int s9]))] sz) t) (va_A [(pl, .inr (1, [.int md, .ref el, .int s9]))] sz)) 0 0 (va_A [(pl, .inr (1, [.int md, .ref el, .int s9]))] sz) := by
  refine Met.ofW (cc := cJx4a65c_size_8abf5) (maxL := 1) (ret := (some .int)) (by decide) rfl ?_
  intro p e s m args below meth c s₁ B hml hv
  obtain ⟨rfl, hsz, hP, hK, hD0⟩ := hv
  have hx := B.exec
  have hb := B.bytes
  have hr := B.returns
  have hts := atoms_spec (ws := wsJx4a65c_size_8abf5) B.pre
  have hown : s.vm.findClass RJx4a65c = some m.cls := findClass_of_methodNamed B.named
  have hlocks := B.notSynchronized
  subst hsz
  have hD := hD0.self (sz := s.heap.size)
  generalize hAe : va_A [(pl, .inr (1, [.int md, .ref el, .int s9]))] s.heap.size = A at hD ⊢
  have hA : ∀ q : Nat, s.heap.size ≤ q → A q := fun q h => by rw [← hAe]; exact Or.inr h
  have hS : va_S A s.heap s.heap [] := va_S.rf
  have hP : va_P (dC, dI) vwCl [(pl, .inr (1, [.int md, .ref el, .int s9]))] s.heap := hP
  have hK : va_K (dC, dI) vwCl [] s := hK
  have hl := lv_entry ([.ref pl]) (n := 1) (Nat.le_of_ble_eq_true rfl)
  rw [lg_entry_eq]
  generalize (lg_sl ([.ref pl]) ++ List.replicate (1 - (lg_sl ([.ref pl])).length) Slot.unset).toArray = ls at hl ⊢
  have hl : lv_has ls 1 [(0, .ref pl)] := hl
  refine lv_aload_n hx hb dJx4a65c_size_8abf5_0 rfl (lv_at hl 0 rfl) ?_
  have hinJx4a65c : ∀ w ∈ u_ws RJx4a65c TJx4a65c 3, w ∈ wsJx4a65c_size_8abf5 := by decide +kernel
  refine va_get (D := (dC, dI)) (ci := 1) (v := .int s9) (C := RJx4a65c) (T := TJx4a65c) (N := 3) hx hb hts hinJx4a65c hown hK hP 0 rfl rfl 2 (by decide) (hts (.fieldLink RJx4a65c 48 "java/util/ArrayList" "size" "I") (by decide +kernel)) (fun _ h9 => h9) rfl dJx4a65c_size_8abf5_1 ?_
  have hP9 := hP.sub (ws' := [(pl, .inr (1, [.int md, .ref el, .int s9]))]) [0] rfl
  have hD9 := hD.sub (ws' := [(pl, .inr (1, [.int md, .ref el, .int s9]))]) [0] (by decide) rfl
  have hK9 := hK.sub (tys' := []) [] rfl
  refine W.widen (k := 0) (n := 0) (Nat.le_of_ble_eq_true rfl) (Nat.le_of_ble_eq_true rfl) ?_
  exact W.iret (v := s9) hx hb hr (fun t ht hW => ⟨⟨s9, (), rfl, rfl, po_mk ht hW hP9 hK9 hD9⟩, hS.F ht⟩) hS.2.2 dJx4a65c_size_8abf5_4

set_option maxHeartbeats 4000000 in
set_option maxRecDepth 100000 in
theorem c_X8_in (l : Launch) (dC : Nat → ClassId) (dI : Nat → Nat → Nat) (qk : Int32) (lo : Int32) (hi : Int32) (sz : Nat) (h1 : ¬ qk < lo) (h2 : ¬ hi < qk) : Met l yX8_in wsX8_in ({ frames := 2, cells := 0, slots := 0, locals := 40 }) (va_Pc [.int qk, .int lo, .int hi] (pr_ dC dI [] [] sz)) (va_Qi (fun (r : Int32) (_ : Unit) => r = 1) (fun (_ : Unit) t => po_ dC dI [] [] (va_A [] sz) t) (va_A [] sz)) 0 0 (va_A [] sz) := by
  refine Met.ofW (cc := cX8_in) (maxL := 3) (ret := (some .boolean)) (by decide) rfl ?_
  intro p e s m args below meth c s₁ B hml hv
  obtain ⟨rfl, hsz, hP, hK, hD0⟩ := hv
  have hx := B.exec
  have hb := B.bytes
  have hr := B.returns
  have hts := atoms_spec (ws := wsX8_in) B.pre
  have hown : s.vm.findClass RX8 = some m.cls := findClass_of_methodNamed B.named
  have hlocks := B.notSynchronized
  subst hsz
  have hD := hD0.self (sz := s.heap.size)
  generalize hAe : va_A [] s.heap.size = A at hD ⊢
  have hA : ∀ q : Nat, s.heap.size ≤ q → A q := fun q h => by rw [← hAe]; exact Or.inr h
  have hS : va_S A s.heap s.heap [] := va_S.rf
  have hP : va_P (dC, dI) vwCl [] s.heap := hP
  have hK : va_K (dC, dI) vwCl [] s := hK
  have hl := lv_entry ([.int qk, .int lo, .int hi]) (n := 3) (Nat.le_of_ble_eq_true rfl)
  rw [lg_entry_eq]
  generalize (lg_sl ([.int qk, .int lo, .int hi]) ++ List.replicate (3 - (lg_sl ([.int qk, .int lo, .int hi])).length) Slot.unset).toArray = ls at hl ⊢
  have hl : lv_has ls 3 [(0, .int qk), (1, .int lo), (2, .int hi)] := hl
  refine lv_iload_n hx hb dX8_in_0 rfl (lv_at hl 0 rfl) ?_
  refine lv_iload_n hx hb dX8_in_1 rfl (lv_at hl 1 rfl) ?_
  refine lv_icmp_lt (tgt := 14) hx hb dX8_in_2 (by decide) (fun h9 => (h1 h9).elim) (fun _ => ?_)
  refine lv_iload_n hx hb dX8_in_5 rfl (lv_at hl 0 rfl) ?_
  refine lv_iload_n hx hb dX8_in_6 rfl (lv_at hl 2 rfl) ?_
  refine lv_icmp_gt (tgt := 14) hx hb dX8_in_7 (by decide) (fun h9 => (h2 h9).elim) (fun _ => ?_)
  refine lv_iconst (v := 1) hx hb dX8_in_10 (by decide) ?_
  refine lv_goto (tgt := 15) hx hb dX8_in_11 (by decide) ?_
  have hP9 := hP.sub (ws' := []) [] rfl
  have hD9 := hD.sub (ws' := []) [] (by decide) rfl
  have hK9 := hK.sub (tys' := []) [] rfl
  refine W.widen (k := 0) (n := 0) (Nat.le_of_ble_eq_true rfl) (Nat.le_of_ble_eq_true rfl) ?_
  exact W.zret (v := 1) hx hb hr rfl (fun t ht hW => ⟨⟨1, (), rfl, rfl, po_mk ht hW hP9 hK9 hD9⟩, hS.F ht⟩) hS.2.2 dX8_in_15

set_option maxHeartbeats 4000000 in
set_option maxRecDepth 100000 in
theorem c0_X8_in (l : Launch) (dC : Nat → ClassId) (dI : Nat → Nat → Nat) (qk : Int32) (lo : Int32) (hi : Int32) (sz : Nat) (hbd : qk < lo ∨ hi < qk) : Met l yX8_in wsX8_in ({ frames := 2, cells := 0, slots := 0, locals := 40 }) (va_Pc [.int qk, .int lo, .int hi] (pr_ dC dI [] [] sz)) (va_Qi (fun (r : Int32) (_ : Unit) => r = 0) (fun (_ : Unit) t => po_ dC dI [] [] (va_A [] sz) t) (va_A [] sz)) 0 0 (va_A [] sz) := by
  refine Met.ofW (cc := cX8_in) (maxL := 3) (ret := (some .boolean)) (by decide) rfl ?_
  intro p e s m args below meth c s₁ B hml hv
  obtain ⟨rfl, hsz, hP, hK, hD0⟩ := hv
  have hx := B.exec
  have hb := B.bytes
  have hr := B.returns
  have hts := atoms_spec (ws := wsX8_in) B.pre
  have hown : s.vm.findClass RX8 = some m.cls := findClass_of_methodNamed B.named
  have hlocks := B.notSynchronized
  subst hsz
  have hD := hD0.self (sz := s.heap.size)
  generalize hAe : va_A [] s.heap.size = A at hD ⊢
  have hA : ∀ q : Nat, s.heap.size ≤ q → A q := fun q h => by rw [← hAe]; exact Or.inr h
  have hS : va_S A s.heap s.heap [] := va_S.rf
  have hP : va_P (dC, dI) vwCl [] s.heap := hP
  have hK : va_K (dC, dI) vwCl [] s := hK
  have hl := lv_entry ([.int qk, .int lo, .int hi]) (n := 3) (Nat.le_of_ble_eq_true rfl)
  rw [lg_entry_eq]
  generalize (lg_sl ([.int qk, .int lo, .int hi]) ++ List.replicate (3 - (lg_sl ([.int qk, .int lo, .int hi])).length) Slot.unset).toArray = ls at hl ⊢
  have hl : lv_has ls 3 [(0, .int qk), (1, .int lo), (2, .int hi)] := hl
  refine lv_iload_n hx hb dX8_in_0 rfl (lv_at hl 0 rfl) ?_
  refine lv_iload_n hx hb dX8_in_1 rfl (lv_at hl 1 rfl) ?_
  refine lv_icmp_lt (tgt := 14) hx hb dX8_in_2 (by decide) (fun hc_1 => ?_) (fun hc_1 => ?_)
  · refine lv_iconst (v := 0) hx hb dX8_in_14 (by decide) ?_
    have hP9 := hP.sub (ws' := []) [] rfl
    have hD9 := hD.sub (ws' := []) [] (by decide) rfl
    have hK9 := hK.sub (tys' := []) [] rfl
    refine W.widen (k := 0) (n := 0) (Nat.le_of_ble_eq_true rfl) (Nat.le_of_ble_eq_true rfl) ?_
    exact W.zret (v := 0) hx hb hr rfl (fun t ht hW => ⟨⟨0, (), rfl, rfl, po_mk ht hW hP9 hK9 hD9⟩, hS.F ht⟩) hS.2.2 dX8_in_15
  · refine lv_iload_n hx hb dX8_in_5 rfl (lv_at hl 0 rfl) ?_
    refine lv_iload_n hx hb dX8_in_6 rfl (lv_at hl 2 rfl) ?_
    refine lv_icmp_gt (tgt := 14) hx hb dX8_in_7 (by decide) (fun _ => ?_) (fun h9 => (h9 (hbd.resolve_left (by assumption))).elim)
    refine lv_iconst (v := 0) hx hb dX8_in_14 (by decide) ?_
    have hP9 := hP.sub (ws' := []) [] rfl
    have hD9 := hD.sub (ws' := []) [] (by decide) rfl
    have hK9 := hK.sub (tys' := []) [] rfl
    refine W.widen (k := 0) (n := 0) (Nat.le_of_ble_eq_true rfl) (Nat.le_of_ble_eq_true rfl) ?_
    exact W.zret (v := 0) hx hb hr rfl (fun t ht hW => ⟨⟨0, (), rfl, rfl, po_mk ht hW hP9 hK9 hD9⟩, hS.F ht⟩) hS.2.2 dX8_in_15

set_option maxHeartbeats 4000000 in
set_option maxRecDepth 100000 in
theorem c_X8_isCandidate (l : Launch) (dC : Nat → ClassId) (dI : Nat → Nat → Nat) (mm : Nat) (pl : Nat) (ig : Nat) (sl : Nat) (kl : Nat) (dz : Nat) (qk : Int32) (sz : Nat)  : Met l yX8_isCandidate wsX8_isCandidate ({ frames := 3, cells := 0, slots := 0, locals := 80 }) (va_Pc [.ref mm, .int qk] (fun U => pr_ dC dI [(mm, .inr (10, [.int 0, .ref pl, .ref ig, .ref sl, .ref kl, .int 0, .int 0, .int 0])), (pl, .inr (1, [.int 0, .ref dz, .int 0]))] [] sz U ∧ mo_  U)) (va_Qi (fun (r : Int32) (_ : Unit) => r = 0) (fun (_ : Unit) t => po_ dC dI [(mm, .inr (10, [.int 0, .ref pl, .ref ig, .ref sl, .ref kl, .int 0, .int 0, .int 0])), (pl, .inr (1, [.int 0, .ref dz, .int 0]))] [] (va_A [(mm, .inr (10, [.int 0, .ref pl, .ref ig, .ref sl, .ref kl, .int 0, .int 0, .int 0])), (pl, .inr (1, [.int 0, .ref dz, .int 0]))] sz) t) (va_A [(mm, .inr (10, [.int 0, .ref pl, .ref ig, .ref sl, .ref kl, .int 0, .int 0, .int 0])), (pl, .inr (1, [.int 0, .ref dz, .int 0]))] sz)) 0 0 (va_A [(mm, .inr (10, [.int 0, .ref pl, .ref ig, .ref sl, .ref kl, .int 0, .int 0, .int 0])), (pl, .inr (1, [.int 0, .ref dz, .int 0]))] sz) := by
  refine Met.ofW (cc := cX8_isCandidate) (maxL := 2) (ret := (some .boolean)) (by decide) rfl ?_
  intro p e s m args below meth c s₁ B hml hv
  obtain ⟨rfl, ⟨hsz, hP, hK, hD0⟩, hXs⟩ := hv
  have hx := B.exec
  have hb := B.bytes
  have hr := B.returns
  have hts := atoms_spec (ws := wsX8_isCandidate) B.pre
  have hown : s.vm.findClass RX8 = some m.cls := findClass_of_methodNamed B.named
  have hlocks := B.notSynchronized
  subst hsz
  have hD := hD0.self (sz := s.heap.size)
  generalize hAe : va_A [(mm, .inr (10, [.int 0, .ref pl, .ref ig, .ref sl, .ref kl, .int 0, .int 0, .int 0])), (pl, .inr (1, [.int 0, .ref dz, .int 0]))] s.heap.size = A at hD ⊢
  have hA : ∀ q : Nat, s.heap.size ≤ q → A q := fun q h => by rw [← hAe]; exact Or.inr h
  have hS : va_S A s.heap s.heap [] := va_S.rf
  have hP : va_P (dC, dI) vwCl [(mm, .inr (10, [.int 0, .ref pl, .ref ig, .ref sl, .ref kl, .int 0, .int 0, .int 0])), (pl, .inr (1, [.int 0, .ref dz, .int 0]))] s.heap := hP
  have hK : va_K (dC, dI) vwCl [] s := hK
  have hl := lv_entry ([.ref mm, .int qk]) (n := 2) (Nat.le_of_ble_eq_true rfl)
  rw [lg_entry_eq]
  generalize (lg_sl ([.ref mm, .int qk]) ++ List.replicate (2 - (lg_sl ([.ref mm, .int qk])).length) Slot.unset).toArray = ls at hl ⊢
  have hl : lv_has ls 2 [(0, .ref mm), (1, .int qk)] := hl
  refine lv_iload_n hx hb dX8_isCandidate_0 rfl (lv_at hl 1 rfl) ?_
  refine lv_iconst (v := 0) hx hb dX8_isCandidate_1 (by decide) ?_
  refine lv_aload_n hx hb dX8_isCandidate_2 rfl (lv_at hl 0 rfl) ?_
  have hinX8 : ∀ w ∈ u_ws RX8 TX8 8, w ∈ wsX8_isCandidate := by decide +kernel
  refine va_get (D := (dC, dI)) (ci := 10) (v := .ref pl) (C := RX8) (T := TX8) (N := 8) hx hb hts hinX8 hown hK hP 0 rfl rfl 1 (by decide) (hts (.fieldLink RX8 10 "BallotLoomModel" "partyOf" "Ljava/util/List;") (by decide +kernel)) (fun _ h9 => h9) rfl dX8_isCandidate_3 ?_
  have hPc := hP.sub (ws' := [(pl, .inr (1, [.int 0, .ref dz, .int 0]))]) [1] rfl
  have hDc := hD.sub (ws' := [(pl, .inr (1, [.int 0, .ref dz, .int 0]))]) [1] (by decide) rfl
  have hKc := hK.sub (tys' := []) [] rfl
  have hFc := va_free (wc := [(pl, .inr (1, [.int 0, .ref dz, .int 0]))]) hD hS hA [1] rfl
  refine va_callFi (va_runF (hK.1 1 _ rfl).2 (As := []) (rest := [.int 0, .int qk]) ⟨hx, hb, hml, hown, hts⟩ (c_Jx4a65c_size_8abf5 l dC dI pl (0 : Int32) dz (0 : Int32) _ ) (va_cwF 0 hts gX8_isCandidate_Jx4a65c_size_8abf5_f30Jx4a65c rfl rfl rfl (mo_of hXs) (by decide +kernel) ⟨Nat.le_of_ble_eq_true rfl, Nat.le_of_ble_eq_true rfl⟩) ⟨pr_blind, va_recv hKc hPc (ci := 1) (q0 := 0) rfl rfl, fun U hU hW => ⟨rfl, pr_mk hU hW hPc hKc hDc⟩⟩ rfl rfl hl.1 rfl (lv_room (Nat.le_of_ble_eq_true rfl)) dX8_isCandidate_6 ⟨Nat.le_of_ble_eq_true rfl, Nat.le_of_ble_eq_true rfl⟩) hS (fun q _ h => hFc q h) hFc (fun r_2 u_1 t H1 locs ht hvm hw hB hz1 hk1 hS => ?_)
  obtain ⟨hP1, hK1, hD1⟩ := hB
  rw [ht] at hP1
  obtain ⟨hP, hD⟩ := va_join (wr := [(mm, .inr (10, [.int 0, .ref pl, .ref ig, .ref sl, .ref kl, .int 0, .int 0, .int 0]))]) (w1 := [(pl, .inr (1, [.int 0, .ref dz, .int 0]))]) hP hD [1] [0] rfl rfl (by decide) (by decide) hk1 hFc hP1 hD1
  generalize H1 = H at hP hS ⊢
  have hP : va_P (dC, dI) vwCl [(mm, .inr (10, [.int 0, .ref pl, .ref ig, .ref sl, .ref kl, .int 0, .int 0, .int 0])), (pl, .inr (1, [.int 0, .ref dz, .int 0]))] H := hP
  have hD : va_D A [(mm, .inr (10, [.int 0, .ref pl, .ref ig, .ref sl, .ref kl, .int 0, .int 0, .int 0])), (pl, .inr (1, [.int 0, .ref dz, .int 0]))] := hD
  refine W.widen (k := 0) (n := 0) (Nat.le_refl _) (Nat.le_refl _) ?_
  have hw : r_2 = 0 := hw
  subst hw
  refine lv_iconst (v := 1) hx hb dX8_isCandidate_11 (by decide) ?_
  refine lv_isub hx hb dX8_isCandidate_12 ?_
  refine lv_topi (fun y_3 ey_3 => ?_)
  obtain rfl : y_3 = (-1) := ey_3.trans (by decide)
  have hPc := hP.sub (ws' := []) [] rfl
  have hDc := hD.sub (ws' := []) [] (by decide) rfl
  have hKc := hK.sub (tys' := []) [] rfl
  have hFc := va_free (wc := []) hD hS hA [] rfl
  refine va_calli (va_runS (As := [.int qk, .int 0, .int (-1)]) (rest := []) ⟨hx, hb, hml, hown, hts⟩ (c0_X8_in l dC dI qk (0 : Int32) ((-1) : Int32) _ (lt_or qk)) (va_cwS 3 hts gX8_isCandidate_X8_in rfl rfl rfl (by decide +kernel) ⟨Nat.le_of_ble_eq_true rfl, Nat.le_of_ble_eq_true rfl⟩) ⟨pr_blind, fun U hU hW => ⟨rfl, pr_mk hU hW hPc hKc hDc⟩⟩ rfl rfl hl.1 rfl (lv_room (Nat.le_of_ble_eq_true rfl)) dX8_isCandidate_13 ⟨Nat.le_of_ble_eq_true rfl, Nat.le_of_ble_eq_true rfl⟩) hS (fun q _ h => hFc q h) hFc (fun r_5 u_4 t H1 locs ht hvm hw hB hz1 hk1 hS => ?_)
  obtain ⟨hP1, hK1, hD1⟩ := hB
  rw [ht] at hP1
  obtain ⟨hP, hD⟩ := va_join (wr := [(mm, .inr (10, [.int 0, .ref pl, .ref ig, .ref sl, .ref kl, .int 0, .int 0, .int 0])), (pl, .inr (1, [.int 0, .ref dz, .int 0]))]) (w1 := []) hP hD [] [0, 1] rfl rfl (by decide) (by decide) hk1 hFc hP1 hD1
  generalize H1 = H at hP hS ⊢
  have hP : va_P (dC, dI) vwCl [(mm, .inr (10, [.int 0, .ref pl, .ref ig, .ref sl, .ref kl, .int 0, .int 0, .int 0])), (pl, .inr (1, [.int 0, .ref dz, .int 0]))] H := hP
  have hD : va_D A [(mm, .inr (10, [.int 0, .ref pl, .ref ig, .ref sl, .ref kl, .int 0, .int 0, .int 0])), (pl, .inr (1, [.int 0, .ref dz, .int 0]))] := hD
  refine W.widen (k := 0) (n := 0) (Nat.le_refl _) (Nat.le_refl _) ?_
  have hw : r_5 = 0 := hw
  subst hw
  have hP9 := hP.sub (ws' := [(mm, .inr (10, [.int 0, .ref pl, .ref ig, .ref sl, .ref kl, .int 0, .int 0, .int 0])), (pl, .inr (1, [.int 0, .ref dz, .int 0]))]) [0, 1] rfl
  have hD9 := hD.sub (ws' := [(mm, .inr (10, [.int 0, .ref pl, .ref ig, .ref sl, .ref kl, .int 0, .int 0, .int 0])), (pl, .inr (1, [.int 0, .ref dz, .int 0]))]) [0, 1] (by decide) rfl
  have hK9 := hK.sub (tys' := []) [] rfl
  refine W.widen (k := 0) (n := 0) (Nat.le_of_ble_eq_true rfl) (Nat.le_of_ble_eq_true rfl) ?_
  exact W.zret (v := 0) hx hb hr rfl (fun t ht hW => ⟨⟨0, (), rfl, rfl, po_mk ht hW hP9 hK9 hD9⟩, hS.F ht⟩) hS.2.2 dX8_isCandidate_16

set_option maxHeartbeats 4000000 in
set_option maxRecDepth 100000 in
theorem c_X8_isDistrict (l : Launch) (dC : Nat → ClassId) (dI : Nat → Nat → Nat) (mm : Nat) (pl : Nat) (ig : Nat) (sl : Nat) (kl : Nat) (dz : Nat) (qk : Int32) (sz : Nat)  : Met l yX8_isDistrict wsX8_isDistrict ({ frames := 3, cells := 0, slots := 0, locals := 80 }) (va_Pc [.ref mm, .int qk] (fun U => pr_ dC dI [(mm, .inr (10, [.int 0, .ref pl, .ref ig, .ref sl, .ref kl, .int 0, .int 0, .int 0])), (sl, .inr (1, [.int 0, .ref dz, .int 0]))] [] sz U ∧ mo_  U)) (va_Qi (fun (r : Int32) (_ : Unit) => r = 0) (fun (_ : Unit) t => po_ dC dI [(mm, .inr (10, [.int 0, .ref pl, .ref ig, .ref sl, .ref kl, .int 0, .int 0, .int 0])), (sl, .inr (1, [.int 0, .ref dz, .int 0]))] [] (va_A [(mm, .inr (10, [.int 0, .ref pl, .ref ig, .ref sl, .ref kl, .int 0, .int 0, .int 0])), (sl, .inr (1, [.int 0, .ref dz, .int 0]))] sz) t) (va_A [(mm, .inr (10, [.int 0, .ref pl, .ref ig, .ref sl, .ref kl, .int 0, .int 0, .int 0])), (sl, .inr (1, [.int 0, .ref dz, .int 0]))] sz)) 0 0 (va_A [(mm, .inr (10, [.int 0, .ref pl, .ref ig, .ref sl, .ref kl, .int 0, .int 0, .int 0])), (sl, .inr (1, [.int 0, .ref dz, .int 0]))] sz) := by
  refine Met.ofW (cc := cX8_isDistrict) (maxL := 2) (ret := (some .boolean)) (by decide) rfl ?_
  intro p e s m args below meth c s₁ B hml hv
  obtain ⟨rfl, ⟨hsz, hP, hK, hD0⟩, hXs⟩ := hv
  have hx := B.exec
  have hb := B.bytes
  have hr := B.returns
  have hts := atoms_spec (ws := wsX8_isDistrict) B.pre
  have hown : s.vm.findClass RX8 = some m.cls := findClass_of_methodNamed B.named
  have hlocks := B.notSynchronized
  subst hsz
  have hD := hD0.self (sz := s.heap.size)
  generalize hAe : va_A [(mm, .inr (10, [.int 0, .ref pl, .ref ig, .ref sl, .ref kl, .int 0, .int 0, .int 0])), (sl, .inr (1, [.int 0, .ref dz, .int 0]))] s.heap.size = A at hD ⊢
  have hA : ∀ q : Nat, s.heap.size ≤ q → A q := fun q h => by rw [← hAe]; exact Or.inr h
  have hS : va_S A s.heap s.heap [] := va_S.rf
  have hP : va_P (dC, dI) vwCl [(mm, .inr (10, [.int 0, .ref pl, .ref ig, .ref sl, .ref kl, .int 0, .int 0, .int 0])), (sl, .inr (1, [.int 0, .ref dz, .int 0]))] s.heap := hP
  have hK : va_K (dC, dI) vwCl [] s := hK
  have hl := lv_entry ([.ref mm, .int qk]) (n := 2) (Nat.le_of_ble_eq_true rfl)
  rw [lg_entry_eq]
  generalize (lg_sl ([.ref mm, .int qk]) ++ List.replicate (2 - (lg_sl ([.ref mm, .int qk])).length) Slot.unset).toArray = ls at hl ⊢
  have hl : lv_has ls 2 [(0, .ref mm), (1, .int qk)] := hl
  refine lv_iload_n hx hb dX8_isDistrict_0 rfl (lv_at hl 1 rfl) ?_
  refine lv_iconst (v := 0) hx hb dX8_isDistrict_1 (by decide) ?_
  refine lv_aload_n hx hb dX8_isDistrict_2 rfl (lv_at hl 0 rfl) ?_
  have hinX8 : ∀ w ∈ u_ws RX8 TX8 8, w ∈ wsX8_isDistrict := by decide +kernel
  refine va_get (D := (dC, dI)) (ci := 10) (v := .ref sl) (C := RX8) (T := TX8) (N := 8) hx hb hts hinX8 hown hK hP 0 rfl rfl 3 (by decide) (hts (.fieldLink RX8 20 "BallotLoomModel" "seatsOf" "Ljava/util/List;") (by decide +kernel)) (fun _ h9 => h9) rfl dX8_isDistrict_3 ?_
  have hPc := hP.sub (ws' := [(sl, .inr (1, [.int 0, .ref dz, .int 0]))]) [1] rfl
  have hDc := hD.sub (ws' := [(sl, .inr (1, [.int 0, .ref dz, .int 0]))]) [1] (by decide) rfl
  have hKc := hK.sub (tys' := []) [] rfl
  have hFc := va_free (wc := [(sl, .inr (1, [.int 0, .ref dz, .int 0]))]) hD hS hA [1] rfl
  refine va_callFi (va_runF (hK.1 1 _ rfl).2 (As := []) (rest := [.int 0, .int qk]) ⟨hx, hb, hml, hown, hts⟩ (c_Jx4a65c_size_8abf5 l dC dI sl (0 : Int32) dz (0 : Int32) _ ) (va_cwF 0 hts gX8_isDistrict_Jx4a65c_size_8abf5_f30Jx4a65c rfl rfl rfl (mo_of hXs) (by decide +kernel) ⟨Nat.le_of_ble_eq_true rfl, Nat.le_of_ble_eq_true rfl⟩) ⟨pr_blind, va_recv hKc hPc (ci := 1) (q0 := 0) rfl rfl, fun U hU hW => ⟨rfl, pr_mk hU hW hPc hKc hDc⟩⟩ rfl rfl hl.1 rfl (lv_room (Nat.le_of_ble_eq_true rfl)) dX8_isDistrict_6 ⟨Nat.le_of_ble_eq_true rfl, Nat.le_of_ble_eq_true rfl⟩) hS (fun q _ h => hFc q h) hFc (fun r_2 u_1 t H1 locs ht hvm hw hB hz1 hk1 hS => ?_)
  obtain ⟨hP1, hK1, hD1⟩ := hB
  rw [ht] at hP1
  obtain ⟨hP, hD⟩ := va_join (wr := [(mm, .inr (10, [.int 0, .ref pl, .ref ig, .ref sl, .ref kl, .int 0, .int 0, .int 0]))]) (w1 := [(sl, .inr (1, [.int 0, .ref dz, .int 0]))]) hP hD [1] [0] rfl rfl (by decide) (by decide) hk1 hFc hP1 hD1
  generalize H1 = H at hP hS ⊢
  have hP : va_P (dC, dI) vwCl [(mm, .inr (10, [.int 0, .ref pl, .ref ig, .ref sl, .ref kl, .int 0, .int 0, .int 0])), (sl, .inr (1, [.int 0, .ref dz, .int 0]))] H := hP
  have hD : va_D A [(mm, .inr (10, [.int 0, .ref pl, .ref ig, .ref sl, .ref kl, .int 0, .int 0, .int 0])), (sl, .inr (1, [.int 0, .ref dz, .int 0]))] := hD
  refine W.widen (k := 0) (n := 0) (Nat.le_refl _) (Nat.le_refl _) ?_
  have hw : r_2 = 0 := hw
  subst hw
  refine lv_iconst (v := 1) hx hb dX8_isDistrict_11 (by decide) ?_
  refine lv_isub hx hb dX8_isDistrict_12 ?_
  refine lv_topi (fun y_3 ey_3 => ?_)
  obtain rfl : y_3 = (-1) := ey_3.trans (by decide)
  have hPc := hP.sub (ws' := []) [] rfl
  have hDc := hD.sub (ws' := []) [] (by decide) rfl
  have hKc := hK.sub (tys' := []) [] rfl
  have hFc := va_free (wc := []) hD hS hA [] rfl
  refine va_calli (va_runS (As := [.int qk, .int 0, .int (-1)]) (rest := []) ⟨hx, hb, hml, hown, hts⟩ (c0_X8_in l dC dI qk (0 : Int32) ((-1) : Int32) _ (lt_or qk)) (va_cwS 3 hts gX8_isDistrict_X8_in rfl rfl rfl (by decide +kernel) ⟨Nat.le_of_ble_eq_true rfl, Nat.le_of_ble_eq_true rfl⟩) ⟨pr_blind, fun U hU hW => ⟨rfl, pr_mk hU hW hPc hKc hDc⟩⟩ rfl rfl hl.1 rfl (lv_room (Nat.le_of_ble_eq_true rfl)) dX8_isDistrict_13 ⟨Nat.le_of_ble_eq_true rfl, Nat.le_of_ble_eq_true rfl⟩) hS (fun q _ h => hFc q h) hFc (fun r_5 u_4 t H1 locs ht hvm hw hB hz1 hk1 hS => ?_)
  obtain ⟨hP1, hK1, hD1⟩ := hB
  rw [ht] at hP1
  obtain ⟨hP, hD⟩ := va_join (wr := [(mm, .inr (10, [.int 0, .ref pl, .ref ig, .ref sl, .ref kl, .int 0, .int 0, .int 0])), (sl, .inr (1, [.int 0, .ref dz, .int 0]))]) (w1 := []) hP hD [] [0, 1] rfl rfl (by decide) (by decide) hk1 hFc hP1 hD1
  generalize H1 = H at hP hS ⊢
  have hP : va_P (dC, dI) vwCl [(mm, .inr (10, [.int 0, .ref pl, .ref ig, .ref sl, .ref kl, .int 0, .int 0, .int 0])), (sl, .inr (1, [.int 0, .ref dz, .int 0]))] H := hP
  have hD : va_D A [(mm, .inr (10, [.int 0, .ref pl, .ref ig, .ref sl, .ref kl, .int 0, .int 0, .int 0])), (sl, .inr (1, [.int 0, .ref dz, .int 0]))] := hD
  refine W.widen (k := 0) (n := 0) (Nat.le_refl _) (Nat.le_refl _) ?_
  have hw : r_5 = 0 := hw
  subst hw
  have hP9 := hP.sub (ws' := [(mm, .inr (10, [.int 0, .ref pl, .ref ig, .ref sl, .ref kl, .int 0, .int 0, .int 0])), (sl, .inr (1, [.int 0, .ref dz, .int 0]))]) [0, 1] rfl
  have hD9 := hD.sub (ws' := [(mm, .inr (10, [.int 0, .ref pl, .ref ig, .ref sl, .ref kl, .int 0, .int 0, .int 0])), (sl, .inr (1, [.int 0, .ref dz, .int 0]))]) [0, 1] (by decide) rfl
  have hK9 := hK.sub (tys' := []) [] rfl
  refine W.widen (k := 0) (n := 0) (Nat.le_of_ble_eq_true rfl) (Nat.le_of_ble_eq_true rfl) ?_
  exact W.zret (v := 0) hx hb hr rfl (fun t ht hW => ⟨⟨0, (), rfl, rfl, po_mk ht hW hP9 hK9 hD9⟩, hS.F ht⟩) hS.2.2 dX8_isDistrict_16

set_option maxHeartbeats 4000000 in
set_option maxRecDepth 100000 in
theorem c_X8_isStack (l : Launch) (dC : Nat → ClassId) (dI : Nat → Nat → Nat) (mm : Nat) (pl : Nat) (ig : Nat) (sl : Nat) (kl : Nat) (dz : Nat) (qk : Int32) (sz : Nat)  : Met l yX8_isStack wsX8_isStack ({ frames := 3, cells := 0, slots := 0, locals := 80 }) (va_Pc [.ref mm, .int qk] (fun U => pr_ dC dI [(mm, .inr (10, [.int 0, .ref pl, .ref ig, .ref sl, .ref kl, .int 0, .int 0, .int 0])), (kl, .inr (1, [.int 0, .ref dz, .int 0]))] [] sz U ∧ mo_  U)) (va_Qi (fun (r : Int32) (_ : Unit) => r = 0) (fun (_ : Unit) t => po_ dC dI [(mm, .inr (10, [.int 0, .ref pl, .ref ig, .ref sl, .ref kl, .int 0, .int 0, .int 0])), (kl, .inr (1, [.int 0, .ref dz, .int 0]))] [] (va_A [(mm, .inr (10, [.int 0, .ref pl, .ref ig, .ref sl, .ref kl, .int 0, .int 0, .int 0])), (kl, .inr (1, [.int 0, .ref dz, .int 0]))] sz) t) (va_A [(mm, .inr (10, [.int 0, .ref pl, .ref ig, .ref sl, .ref kl, .int 0, .int 0, .int 0])), (kl, .inr (1, [.int 0, .ref dz, .int 0]))] sz)) 0 0 (va_A [(mm, .inr (10, [.int 0, .ref pl, .ref ig, .ref sl, .ref kl, .int 0, .int 0, .int 0])), (kl, .inr (1, [.int 0, .ref dz, .int 0]))] sz) := by
  refine Met.ofW (cc := cX8_isStack) (maxL := 2) (ret := (some .boolean)) (by decide) rfl ?_
  intro p e s m args below meth c s₁ B hml hv
  obtain ⟨rfl, ⟨hsz, hP, hK, hD0⟩, hXs⟩ := hv
  have hx := B.exec
  have hb := B.bytes
  have hr := B.returns
  have hts := atoms_spec (ws := wsX8_isStack) B.pre
  have hown : s.vm.findClass RX8 = some m.cls := findClass_of_methodNamed B.named
  have hlocks := B.notSynchronized
  subst hsz
  have hD := hD0.self (sz := s.heap.size)
  generalize hAe : va_A [(mm, .inr (10, [.int 0, .ref pl, .ref ig, .ref sl, .ref kl, .int 0, .int 0, .int 0])), (kl, .inr (1, [.int 0, .ref dz, .int 0]))] s.heap.size = A at hD ⊢
  have hA : ∀ q : Nat, s.heap.size ≤ q → A q := fun q h => by rw [← hAe]; exact Or.inr h
  have hS : va_S A s.heap s.heap [] := va_S.rf
  have hP : va_P (dC, dI) vwCl [(mm, .inr (10, [.int 0, .ref pl, .ref ig, .ref sl, .ref kl, .int 0, .int 0, .int 0])), (kl, .inr (1, [.int 0, .ref dz, .int 0]))] s.heap := hP
  have hK : va_K (dC, dI) vwCl [] s := hK
  have hl := lv_entry ([.ref mm, .int qk]) (n := 2) (Nat.le_of_ble_eq_true rfl)
  rw [lg_entry_eq]
  generalize (lg_sl ([.ref mm, .int qk]) ++ List.replicate (2 - (lg_sl ([.ref mm, .int qk])).length) Slot.unset).toArray = ls at hl ⊢
  have hl : lv_has ls 2 [(0, .ref mm), (1, .int qk)] := hl
  refine lv_iload_n hx hb dX8_isStack_0 rfl (lv_at hl 1 rfl) ?_
  refine lv_iconst (v := 0) hx hb dX8_isStack_1 (by decide) ?_
  refine lv_aload_n hx hb dX8_isStack_2 rfl (lv_at hl 0 rfl) ?_
  have hinX8 : ∀ w ∈ u_ws RX8 TX8 8, w ∈ wsX8_isStack := by decide +kernel
  refine va_get (D := (dC, dI)) (ci := 10) (v := .ref kl) (C := RX8) (T := TX8) (N := 8) hx hb hts hinX8 hown hK hP 0 rfl rfl 4 (by decide) (hts (.fieldLink RX8 23 "BallotLoomModel" "stacks" "Ljava/util/List;") (by decide +kernel)) (fun _ h9 => h9) rfl dX8_isStack_3 ?_
  have hPc := hP.sub (ws' := [(kl, .inr (1, [.int 0, .ref dz, .int 0]))]) [1] rfl
  have hDc := hD.sub (ws' := [(kl, .inr (1, [.int 0, .ref dz, .int 0]))]) [1] (by decide) rfl
  have hKc := hK.sub (tys' := []) [] rfl
  have hFc := va_free (wc := [(kl, .inr (1, [.int 0, .ref dz, .int 0]))]) hD hS hA [1] rfl
  refine va_callFi (va_runF (hK.1 1 _ rfl).2 (As := []) (rest := [.int 0, .int qk]) ⟨hx, hb, hml, hown, hts⟩ (c_Jx4a65c_size_8abf5 l dC dI kl (0 : Int32) dz (0 : Int32) _ ) (va_cwF 0 hts gX8_isStack_Jx4a65c_size_8abf5_f30Jx4a65c rfl rfl rfl (mo_of hXs) (by decide +kernel) ⟨Nat.le_of_ble_eq_true rfl, Nat.le_of_ble_eq_true rfl⟩) ⟨pr_blind, va_recv hKc hPc (ci := 1) (q0 := 0) rfl rfl, fun U hU hW => ⟨rfl, pr_mk hU hW hPc hKc hDc⟩⟩ rfl rfl hl.1 rfl (lv_room (Nat.le_of_ble_eq_true rfl)) dX8_isStack_6 ⟨Nat.le_of_ble_eq_true rfl, Nat.le_of_ble_eq_true rfl⟩) hS (fun q _ h => hFc q h) hFc (fun r_2 u_1 t H1 locs ht hvm hw hB hz1 hk1 hS => ?_)
  obtain ⟨hP1, hK1, hD1⟩ := hB
  rw [ht] at hP1
  obtain ⟨hP, hD⟩ := va_join (wr := [(mm, .inr (10, [.int 0, .ref pl, .ref ig, .ref sl, .ref kl, .int 0, .int 0, .int 0]))]) (w1 := [(kl, .inr (1, [.int 0, .ref dz, .int 0]))]) hP hD [1] [0] rfl rfl (by decide) (by decide) hk1 hFc hP1 hD1
  generalize H1 = H at hP hS ⊢
  have hP : va_P (dC, dI) vwCl [(mm, .inr (10, [.int 0, .ref pl, .ref ig, .ref sl, .ref kl, .int 0, .int 0, .int 0])), (kl, .inr (1, [.int 0, .ref dz, .int 0]))] H := hP
  have hD : va_D A [(mm, .inr (10, [.int 0, .ref pl, .ref ig, .ref sl, .ref kl, .int 0, .int 0, .int 0])), (kl, .inr (1, [.int 0, .ref dz, .int 0]))] := hD
  refine W.widen (k := 0) (n := 0) (Nat.le_refl _) (Nat.le_refl _) ?_
  have hw : r_2 = 0 := hw
  subst hw
  refine lv_iconst (v := 1) hx hb dX8_isStack_11 (by decide) ?_
  refine lv_isub hx hb dX8_isStack_12 ?_
  refine lv_topi (fun y_3 ey_3 => ?_)
  obtain rfl : y_3 = (-1) := ey_3.trans (by decide)
  have hPc := hP.sub (ws' := []) [] rfl
  have hDc := hD.sub (ws' := []) [] (by decide) rfl
  have hKc := hK.sub (tys' := []) [] rfl
  have hFc := va_free (wc := []) hD hS hA [] rfl
  refine va_calli (va_runS (As := [.int qk, .int 0, .int (-1)]) (rest := []) ⟨hx, hb, hml, hown, hts⟩ (c0_X8_in l dC dI qk (0 : Int32) ((-1) : Int32) _ (lt_or qk)) (va_cwS 3 hts gX8_isStack_X8_in rfl rfl rfl (by decide +kernel) ⟨Nat.le_of_ble_eq_true rfl, Nat.le_of_ble_eq_true rfl⟩) ⟨pr_blind, fun U hU hW => ⟨rfl, pr_mk hU hW hPc hKc hDc⟩⟩ rfl rfl hl.1 rfl (lv_room (Nat.le_of_ble_eq_true rfl)) dX8_isStack_13 ⟨Nat.le_of_ble_eq_true rfl, Nat.le_of_ble_eq_true rfl⟩) hS (fun q _ h => hFc q h) hFc (fun r_5 u_4 t H1 locs ht hvm hw hB hz1 hk1 hS => ?_)
  obtain ⟨hP1, hK1, hD1⟩ := hB
  rw [ht] at hP1
  obtain ⟨hP, hD⟩ := va_join (wr := [(mm, .inr (10, [.int 0, .ref pl, .ref ig, .ref sl, .ref kl, .int 0, .int 0, .int 0])), (kl, .inr (1, [.int 0, .ref dz, .int 0]))]) (w1 := []) hP hD [] [0, 1] rfl rfl (by decide) (by decide) hk1 hFc hP1 hD1
  generalize H1 = H at hP hS ⊢
  have hP : va_P (dC, dI) vwCl [(mm, .inr (10, [.int 0, .ref pl, .ref ig, .ref sl, .ref kl, .int 0, .int 0, .int 0])), (kl, .inr (1, [.int 0, .ref dz, .int 0]))] H := hP
  have hD : va_D A [(mm, .inr (10, [.int 0, .ref pl, .ref ig, .ref sl, .ref kl, .int 0, .int 0, .int 0])), (kl, .inr (1, [.int 0, .ref dz, .int 0]))] := hD
  refine W.widen (k := 0) (n := 0) (Nat.le_refl _) (Nat.le_refl _) ?_
  have hw : r_5 = 0 := hw
  subst hw
  have hP9 := hP.sub (ws' := [(mm, .inr (10, [.int 0, .ref pl, .ref ig, .ref sl, .ref kl, .int 0, .int 0, .int 0])), (kl, .inr (1, [.int 0, .ref dz, .int 0]))]) [0, 1] rfl
  have hD9 := hD.sub (ws' := [(mm, .inr (10, [.int 0, .ref pl, .ref ig, .ref sl, .ref kl, .int 0, .int 0, .int 0])), (kl, .inr (1, [.int 0, .ref dz, .int 0]))]) [0, 1] (by decide) rfl
  have hK9 := hK.sub (tys' := []) [] rfl
  refine W.widen (k := 0) (n := 0) (Nat.le_of_ble_eq_true rfl) (Nat.le_of_ble_eq_true rfl) ?_
  exact W.zret (v := 0) hx hb hr rfl (fun t ht hW => ⟨⟨0, (), rfl, rfl, po_mk ht hW hP9 hK9 hD9⟩, hS.F ht⟩) hS.2.2 dX8_isStack_16

set_option maxHeartbeats 4000000 in
set_option maxRecDepth 100000 in
theorem c_X8_no (l : Launch) (dC : Nat → ClassId) (dI : Nat → Nat → Nat) (mm : Nat) (pl : Nat) (ig : Nat) (sl : Nat) (kl : Nat) (qk : Int32) (th : Int32) (sz : Nat)  : Met l yX8_no wsX8_no ({ frames := 2, cells := 0, slots := 0, locals := 40 }) (va_Pc [.ref mm, .int qk] (pr_ dC dI [(mm, .inr (10, [.int th, .ref pl, .ref ig, .ref sl, .ref kl, .int 0, .int 0, .int 0]))] [] sz)) (va_Qi (fun (r : Int32) (_ : Unit) => r = 0) (fun (_ : Unit) t => po_ dC dI [(mm, .inr (10, [.int qk, .ref pl, .ref ig, .ref sl, .ref kl, .int 0, .int 0, .int 0]))] [] (va_A [(mm, .inr (10, [.int th, .ref pl, .ref ig, .ref sl, .ref kl, .int 0, .int 0, .int 0]))] sz) t) (va_A [(mm, .inr (10, [.int th, .ref pl, .ref ig, .ref sl, .ref kl, .int 0, .int 0, .int 0]))] sz)) 0 0 (va_A [(mm, .inr (10, [.int th, .ref pl, .ref ig, .ref sl, .ref kl, .int 0, .int 0, .int 0]))] sz) := by
  refine Met.ofW (cc := cX8_no) (maxL := 2) (ret := (some .int)) (by decide) rfl ?_
  intro p e s m args below meth c s₁ B hml hv
  obtain ⟨rfl, hsz, hP, hK, hD0⟩ := hv
  have hx := B.exec
  have hb := B.bytes
  have hr := B.returns
  have hts := atoms_spec (ws := wsX8_no) B.pre
  have hown : s.vm.findClass RX8 = some m.cls := findClass_of_methodNamed B.named
  have hlocks := B.notSynchronized
  subst hsz
  have hD := hD0.self (sz := s.heap.size)
  generalize hAe : va_A [(mm, .inr (10, [.int th, .ref pl, .ref ig, .ref sl, .ref kl, .int 0, .int 0, .int 0]))] s.heap.size = A at hD ⊢
  have hA : ∀ q : Nat, s.heap.size ≤ q → A q := fun q h => by rw [← hAe]; exact Or.inr h
  have hS : va_S A s.heap s.heap [] := va_S.rf
  have hP : va_P (dC, dI) vwCl [(mm, .inr (10, [.int th, .ref pl, .ref ig, .ref sl, .ref kl, .int 0, .int 0, .int 0]))] s.heap := hP
  have hK : va_K (dC, dI) vwCl [] s := hK
  have hl := lv_entry ([.ref mm, .int qk]) (n := 2) (Nat.le_of_ble_eq_true rfl)
  rw [lg_entry_eq]
  generalize (lg_sl ([.ref mm, .int qk]) ++ List.replicate (2 - (lg_sl ([.ref mm, .int qk])).length) Slot.unset).toArray = ls at hl ⊢
  have hl : lv_has ls 2 [(0, .ref mm), (1, .int qk)] := hl
  refine lv_aload_n hx hb dX8_no_0 rfl (lv_at hl 0 rfl) ?_
  refine lv_iload_n hx hb dX8_no_1 rfl (lv_at hl 1 rfl) ?_
  have hinX8 : ∀ w ∈ u_ws RX8 TX8 8, w ∈ wsX8_no := by decide +kernel
  refine va_put (D := (dC, dI)) (ci := 10) (v := .int qk) (ty := .int) (C := RX8) (T := TX8) (N := 8) hx hb hts hinX8 tyX8 tyX8_ok nmX8 hown hK hP hD hS 0 rfl rfl 0 (by decide) (hts (.fieldLink RX8 26 "BallotLoomModel" "thrown" "I") (by decide +kernel)) (fun _ h9 => h9) rfl (by decide +kernel) rfl rfl (Nat.le_of_ble_eq_true rfl) dX8_no_2 (fun H locs hP hD hS => ?_)
  have hP : va_P (dC, dI) vwCl [(mm, .inr (10, [.int qk, .ref pl, .ref ig, .ref sl, .ref kl, .int 0, .int 0, .int 0]))] H := hP
  have hD : va_D A [(mm, .inr (10, [.int qk, .ref pl, .ref ig, .ref sl, .ref kl, .int 0, .int 0, .int 0]))] := hD
  refine lv_iconst (v := 0) hx hb dX8_no_5 (by decide) ?_
  have hP9 := hP.sub (ws' := [(mm, .inr (10, [.int qk, .ref pl, .ref ig, .ref sl, .ref kl, .int 0, .int 0, .int 0]))]) [0] rfl
  have hD9 := hD.sub (ws' := [(mm, .inr (10, [.int qk, .ref pl, .ref ig, .ref sl, .ref kl, .int 0, .int 0, .int 0]))]) [0] (by decide) rfl
  have hK9 := hK.sub (tys' := []) [] rfl
  refine W.widen (k := 0) (n := 0) (Nat.le_of_ble_eq_true rfl) (Nat.le_of_ble_eq_true rfl) ?_
  exact W.iret (v := 0) hx hb hr (fun t ht hW => ⟨⟨0, (), rfl, rfl, po_mk ht hW hP9 hK9 hD9⟩, hS.F ht⟩) hS.2.2 dX8_no_6

set_option maxHeartbeats 4000000 in
set_option maxRecDepth 100000 in
theorem c_X8_thrown (l : Launch) (dC : Nat → ClassId) (dI : Nat → Nat → Nat) (mm : Nat) (pl : Nat) (ig : Nat) (sl : Nat) (kl : Nat) (th : Int32) (qt : Int32) (qs : Int32) (qr : Int32) (sz : Nat)  : Met l yX8_thrown wsX8_thrown ({ frames := 2, cells := 0, slots := 0, locals := 40 }) (va_Pc [.ref mm] (pr_ dC dI [(mm, .inr (10, [.int th, .ref pl, .ref ig, .ref sl, .ref kl, .int qt, .int qs, .int qr]))] [] sz)) (va_Qi (fun (r : Int32) (_ : Unit) => r = th) (fun (_ : Unit) t => po_ dC dI [(mm, .inr (10, [.int th, .ref pl, .ref ig, .ref sl, .ref kl, .int qt, .int qs, .int qr]))] [] (va_A [(mm, .inr (10, [.int th, .ref pl, .ref ig, .ref sl, .ref kl, .int qt, .int qs, .int qr]))] sz) t) (va_A [(mm, .inr (10, [.int th, .ref pl, .ref ig, .ref sl, .ref kl, .int qt, .int qs, .int qr]))] sz)) 0 0 (va_A [(mm, .inr (10, [.int th, .ref pl, .ref ig, .ref sl, .ref kl, .int qt, .int qs, .int qr]))] sz) := by
  refine Met.ofW (cc := cX8_thrown) (maxL := 1) (ret := (some .int)) (by decide) rfl ?_
  intro p e s m args below meth c s₁ B hml hv
  obtain ⟨rfl, hsz, hP, hK, hD0⟩ := hv
  have hx := B.exec
  have hb := B.bytes
  have hr := B.returns
  have hts := atoms_spec (ws := wsX8_thrown) B.pre
  have hown : s.vm.findClass RX8 = some m.cls := findClass_of_methodNamed B.named
  have hlocks := B.notSynchronized
  subst hsz
  have hD := hD0.self (sz := s.heap.size)
  generalize hAe : va_A [(mm, .inr (10, [.int th, .ref pl, .ref ig, .ref sl, .ref kl, .int qt, .int qs, .int qr]))] s.heap.size = A at hD ⊢
  have hA : ∀ q : Nat, s.heap.size ≤ q → A q := fun q h => by rw [← hAe]; exact Or.inr h
  have hS : va_S A s.heap s.heap [] := va_S.rf
  have hP : va_P (dC, dI) vwCl [(mm, .inr (10, [.int th, .ref pl, .ref ig, .ref sl, .ref kl, .int qt, .int qs, .int qr]))] s.heap := hP
  have hK : va_K (dC, dI) vwCl [] s := hK
  have hl := lv_entry ([.ref mm]) (n := 1) (Nat.le_of_ble_eq_true rfl)
  rw [lg_entry_eq]
  generalize (lg_sl ([.ref mm]) ++ List.replicate (1 - (lg_sl ([.ref mm])).length) Slot.unset).toArray = ls at hl ⊢
  have hl : lv_has ls 1 [(0, .ref mm)] := hl
  refine lv_aload_n hx hb dX8_thrown_0 rfl (lv_at hl 0 rfl) ?_
  have hinX8 : ∀ w ∈ u_ws RX8 TX8 8, w ∈ wsX8_thrown := by decide +kernel
  refine va_get (D := (dC, dI)) (ci := 10) (v := .int th) (C := RX8) (T := TX8) (N := 8) hx hb hts hinX8 hown hK hP 0 rfl rfl 0 (by decide) (hts (.fieldLink RX8 26 "BallotLoomModel" "thrown" "I") (by decide +kernel)) (fun _ h9 => h9) rfl dX8_thrown_1 ?_
  have hP9 := hP.sub (ws' := [(mm, .inr (10, [.int th, .ref pl, .ref ig, .ref sl, .ref kl, .int qt, .int qs, .int qr]))]) [0] rfl
  have hD9 := hD.sub (ws' := [(mm, .inr (10, [.int th, .ref pl, .ref ig, .ref sl, .ref kl, .int qt, .int qs, .int qr]))]) [0] (by decide) rfl
  have hK9 := hK.sub (tys' := []) [] rfl
  refine W.widen (k := 0) (n := 0) (Nat.le_of_ble_eq_true rfl) (Nat.le_of_ble_eq_true rfl) ?_
  exact W.iret (v := th) hx hb hr (fun t ht hW => ⟨⟨th, (), rfl, rfl, po_mk ht hW hP9 hK9 hD9⟩, hS.F ht⟩) hS.2.2 dX8_thrown_4

set_option maxHeartbeats 4000000 in
set_option maxRecDepth 100000 in
theorem c_X8_withdraw (l : Launch) (dC : Nat → ClassId) (dI : Nat → Nat → Nat) (mm : Nat) (pl : Nat) (ig : Nat) (sl : Nat) (kl : Nat) (dz : Nat) (a0 : Int32) (sz : Nat)  : Met l yX8_withdraw wsX8_withdraw ({ frames := 4, cells := 0, slots := 0, locals := 110 }) (va_Pc [.ref mm, .int a0] (fun U => pr_ dC dI [(mm, .inr (10, [.int 0, .ref pl, .ref ig, .ref sl, .ref kl, .int 0, .int 0, .int 0])), (pl, .inr (1, [.int 0, .ref dz, .int 0])), (sl, .inr (1, [.int 0, .ref dz, .int 0])), (kl, .inr (1, [.int 0, .ref dz, .int 0]))] [] sz U ∧ mo_  U)) (va_Qi (fun (r : Int32) (_ : Unit) => r = 0) (fun (_ : Unit) t => po_ dC dI [(mm, .inr (10, [.int 1, .ref pl, .ref ig, .ref sl, .ref kl, .int 0, .int 0, .int 0]))] [] (va_A [(mm, .inr (10, [.int 0, .ref pl, .ref ig, .ref sl, .ref kl, .int 0, .int 0, .int 0])), (pl, .inr (1, [.int 0, .ref dz, .int 0])), (sl, .inr (1, [.int 0, .ref dz, .int 0])), (kl, .inr (1, [.int 0, .ref dz, .int 0]))] sz) t) (va_A [(mm, .inr (10, [.int 0, .ref pl, .ref ig, .ref sl, .ref kl, .int 0, .int 0, .int 0])), (pl, .inr (1, [.int 0, .ref dz, .int 0])), (sl, .inr (1, [.int 0, .ref dz, .int 0])), (kl, .inr (1, [.int 0, .ref dz, .int 0]))] sz)) 0 0 (va_A [(mm, .inr (10, [.int 0, .ref pl, .ref ig, .ref sl, .ref kl, .int 0, .int 0, .int 0])), (pl, .inr (1, [.int 0, .ref dz, .int 0])), (sl, .inr (1, [.int 0, .ref dz, .int 0])), (kl, .inr (1, [.int 0, .ref dz, .int 0]))] sz) := by
  refine Met.ofW (cc := cX8_withdraw) (maxL := 2) (ret := (some .int)) (by decide) rfl ?_
  intro p e s m args below meth c s₁ B hml hv
  obtain ⟨rfl, ⟨hsz, hP, hK, hD0⟩, hXs⟩ := hv
  have hx := B.exec
  have hb := B.bytes
  have hr := B.returns
  have hts := atoms_spec (ws := wsX8_withdraw) B.pre
  have hown : s.vm.findClass RX8 = some m.cls := findClass_of_methodNamed B.named
  have hlocks := B.notSynchronized
  subst hsz
  have hD := hD0.self (sz := s.heap.size)
  generalize hAe : va_A [(mm, .inr (10, [.int 0, .ref pl, .ref ig, .ref sl, .ref kl, .int 0, .int 0, .int 0])), (pl, .inr (1, [.int 0, .ref dz, .int 0])), (sl, .inr (1, [.int 0, .ref dz, .int 0])), (kl, .inr (1, [.int 0, .ref dz, .int 0]))] s.heap.size = A at hD ⊢
  have hA : ∀ q : Nat, s.heap.size ≤ q → A q := fun q h => by rw [← hAe]; exact Or.inr h
  have hS : va_S A s.heap s.heap [] := va_S.rf
  have hP : va_P (dC, dI) vwCl [(mm, .inr (10, [.int 0, .ref pl, .ref ig, .ref sl, .ref kl, .int 0, .int 0, .int 0])), (pl, .inr (1, [.int 0, .ref dz, .int 0])), (sl, .inr (1, [.int 0, .ref dz, .int 0])), (kl, .inr (1, [.int 0, .ref dz, .int 0]))] s.heap := hP
  have hK : va_K (dC, dI) vwCl [] s := hK
  have hl := lv_entry ([.ref mm, .int a0]) (n := 2) (Nat.le_of_ble_eq_true rfl)
  rw [lg_entry_eq]
  generalize (lg_sl ([.ref mm, .int a0]) ++ List.replicate (2 - (lg_sl ([.ref mm, .int a0])).length) Slot.unset).toArray = ls at hl ⊢
  have hl : lv_has ls 2 [(0, .ref mm), (1, .int a0)] := hl
  refine lv_aload_n hx hb dX8_withdraw_0 rfl (lv_at hl 0 rfl) ?_
  refine lv_iconst (v := 0) hx hb dX8_withdraw_1 (by decide) ?_
  have hinX8 : ∀ w ∈ u_ws RX8 TX8 8, w ∈ wsX8_withdraw := by decide +kernel
  refine va_put (D := (dC, dI)) (ci := 10) (v := .int 0) (ty := .int) (C := RX8) (T := TX8) (N := 8) hx hb hts hinX8 tyX8 tyX8_ok nmX8 hown hK hP hD hS 0 rfl rfl 0 (by decide) (hts (.fieldLink RX8 26 "BallotLoomModel" "thrown" "I") (by decide +kernel)) (fun _ h9 => h9) rfl (by decide +kernel) rfl rfl (Nat.le_of_ble_eq_true rfl) dX8_withdraw_2 (fun H locs hP hD hS => ?_)
  have hP : va_P (dC, dI) vwCl [(mm, .inr (10, [.int 0, .ref pl, .ref ig, .ref sl, .ref kl, .int 0, .int 0, .int 0])), (pl, .inr (1, [.int 0, .ref dz, .int 0])), (sl, .inr (1, [.int 0, .ref dz, .int 0])), (kl, .inr (1, [.int 0, .ref dz, .int 0]))] H := hP
  have hD : va_D A [(mm, .inr (10, [.int 0, .ref pl, .ref ig, .ref sl, .ref kl, .int 0, .int 0, .int 0])), (pl, .inr (1, [.int 0, .ref dz, .int 0])), (sl, .inr (1, [.int 0, .ref dz, .int 0])), (kl, .inr (1, [.int 0, .ref dz, .int 0]))] := hD
  refine lv_aload_n hx hb dX8_withdraw_5 rfl (lv_at hl 0 rfl) ?_
  refine lv_iload_n hx hb dX8_withdraw_6 rfl (lv_at hl 1 rfl) ?_
  have hPc := hP.sub (ws' := [(mm, .inr (10, [.int 0, .ref pl, .ref ig, .ref sl, .ref kl, .int 0, .int 0, .int 0])), (pl, .inr (1, [.int 0, .ref dz, .int 0]))]) [0, 1] rfl
  have hDc := hD.sub (ws' := [(mm, .inr (10, [.int 0, .ref pl, .ref ig, .ref sl, .ref kl, .int 0, .int 0, .int 0])), (pl, .inr (1, [.int 0, .ref dz, .int 0]))]) [0, 1] (by decide) rfl
  have hKc := hK.sub (tys' := []) [] rfl
  have hFc := va_free (wc := [(mm, .inr (10, [.int 0, .ref pl, .ref ig, .ref sl, .ref kl, .int 0, .int 0, .int 0])), (pl, .inr (1, [.int 0, .ref dz, .int 0]))]) hD hS hA [0, 1] rfl
  refine va_calli (va_runV (As := [.int a0]) (rest := []) ⟨hx, hb, hml, hown, hts⟩ (c_X8_isCandidate l dC dI mm pl ig sl kl dz a0 _ ) (cwV 1 hts gX8_withdraw_X8_isCandidate rfl rfl rfl (by decide +kernel) ⟨Nat.le_of_ble_eq_true rfl, Nat.le_of_ble_eq_true rfl⟩) ⟨pe_blind mo_bl, va_recv hKc hPc (ci := 10) (q0 := 0) rfl rfl, fun U hU hW => ⟨rfl, pr_mk hU hW hPc hKc hDc, mo_mk hW hXs⟩⟩ rfl rfl hl.1 rfl (lv_room (Nat.le_of_ble_eq_true rfl)) dX8_withdraw_7 ⟨Nat.le_of_ble_eq_true rfl, Nat.le_of_ble_eq_true rfl⟩) hS (fun q _ h => hFc q h) hFc (fun r_2 u_1 t H1 locs ht hvm hw hB hz1 hk1 hS => ?_)
  obtain ⟨hP1, hK1, hD1⟩ := hB
  rw [ht] at hP1
  obtain ⟨hP, hD⟩ := va_join (wr := [(sl, .inr (1, [.int 0, .ref dz, .int 0])), (kl, .inr (1, [.int 0, .ref dz, .int 0]))]) (w1 := [(mm, .inr (10, [.int 0, .ref pl, .ref ig, .ref sl, .ref kl, .int 0, .int 0, .int 0])), (pl, .inr (1, [.int 0, .ref dz, .int 0]))]) hP hD [0, 1] [2, 3] rfl rfl (by decide) (by decide) hk1 hFc hP1 hD1
  generalize H1 = H at hP hS ⊢
  have hP : va_P (dC, dI) vwCl [(sl, .inr (1, [.int 0, .ref dz, .int 0])), (kl, .inr (1, [.int 0, .ref dz, .int 0])), (mm, .inr (10, [.int 0, .ref pl, .ref ig, .ref sl, .ref kl, .int 0, .int 0, .int 0])), (pl, .inr (1, [.int 0, .ref dz, .int 0]))] H := hP
  have hD : va_D A [(sl, .inr (1, [.int 0, .ref dz, .int 0])), (kl, .inr (1, [.int 0, .ref dz, .int 0])), (mm, .inr (10, [.int 0, .ref pl, .ref ig, .ref sl, .ref kl, .int 0, .int 0, .int 0])), (pl, .inr (1, [.int 0, .ref dz, .int 0]))] := hD
  refine W.widen (k := 0) (n := 0) (Nat.le_refl _) (Nat.le_refl _) ?_
  have hw : r_2 = 0 := hw
  subst hw
  refine lv_if_ne (tgt := 19) hx hb dX8_withdraw_10 (by decide) (fun h9 => absurd h9 (by decide)) (fun _ => ?_)
  refine lv_aload_n hx hb dX8_withdraw_13 rfl (lv_at hl 0 rfl) ?_
  refine lv_iconst (v := 1) hx hb dX8_withdraw_14 (by decide) ?_
  have hPc := hP.sub (ws' := [(mm, .inr (10, [.int 0, .ref pl, .ref ig, .ref sl, .ref kl, .int 0, .int 0, .int 0]))]) [2] rfl
  have hDc := hD.sub (ws' := [(mm, .inr (10, [.int 0, .ref pl, .ref ig, .ref sl, .ref kl, .int 0, .int 0, .int 0]))]) [2] (by decide) rfl
  have hKc := hK.sub (tys' := []) [] rfl
  have hFc := va_free (wc := [(mm, .inr (10, [.int 0, .ref pl, .ref ig, .ref sl, .ref kl, .int 0, .int 0, .int 0]))]) hD hS hA [2] rfl
  refine va_calli (va_runV (As := [.int 1]) (rest := []) ⟨hx, hb, hml, hown, hts⟩ (c_X8_no l dC dI mm pl ig sl kl (1 : Int32) (0 : Int32) _ ) (cwV 1 hts gX8_withdraw_X8_no rfl rfl rfl (by decide +kernel) ⟨Nat.le_of_ble_eq_true rfl, Nat.le_of_ble_eq_true rfl⟩) ⟨pr_blind, va_recv hKc hPc (ci := 10) (q0 := 0) rfl rfl, fun U hU hW => ⟨rfl, pr_mk hU hW hPc hKc hDc⟩⟩ rfl rfl hl.1 rfl (lv_room (Nat.le_of_ble_eq_true rfl)) dX8_withdraw_15 ⟨Nat.le_of_ble_eq_true rfl, Nat.le_of_ble_eq_true rfl⟩) hS (fun q _ h => hFc q h) hFc (fun r_4 u_3 t H1 locs ht hvm hw hB hz1 hk1 hS => ?_)
  obtain ⟨hP1, hK1, hD1⟩ := hB
  rw [ht] at hP1
  obtain ⟨hP, hD⟩ := va_join (wr := [(sl, .inr (1, [.int 0, .ref dz, .int 0])), (kl, .inr (1, [.int 0, .ref dz, .int 0])), (pl, .inr (1, [.int 0, .ref dz, .int 0]))]) (w1 := [(mm, .inr (10, [.int 1, .ref pl, .ref ig, .ref sl, .ref kl, .int 0, .int 0, .int 0]))]) hP hD [2] [0, 1, 3] rfl rfl (by decide) (by decide) hk1 hFc hP1 hD1
  generalize H1 = H at hP hS ⊢
  have hP : va_P (dC, dI) vwCl [(sl, .inr (1, [.int 0, .ref dz, .int 0])), (kl, .inr (1, [.int 0, .ref dz, .int 0])), (pl, .inr (1, [.int 0, .ref dz, .int 0])), (mm, .inr (10, [.int 1, .ref pl, .ref ig, .ref sl, .ref kl, .int 0, .int 0, .int 0]))] H := hP
  have hD : va_D A [(sl, .inr (1, [.int 0, .ref dz, .int 0])), (kl, .inr (1, [.int 0, .ref dz, .int 0])), (pl, .inr (1, [.int 0, .ref dz, .int 0])), (mm, .inr (10, [.int 1, .ref pl, .ref ig, .ref sl, .ref kl, .int 0, .int 0, .int 0]))] := hD
  refine W.widen (k := 0) (n := 0) (Nat.le_refl _) (Nat.le_refl _) ?_
  have hw : r_4 = 0 := hw
  subst hw
  have hP9 := hP.sub (ws' := [(mm, .inr (10, [.int 1, .ref pl, .ref ig, .ref sl, .ref kl, .int 0, .int 0, .int 0]))]) [3] rfl
  have hD9 := hD.sub (ws' := [(mm, .inr (10, [.int 1, .ref pl, .ref ig, .ref sl, .ref kl, .int 0, .int 0, .int 0]))]) [3] (by decide) rfl
  have hK9 := hK.sub (tys' := []) [] rfl
  refine W.widen (k := 0) (n := 0) (Nat.le_of_ble_eq_true rfl) (Nat.le_of_ble_eq_true rfl) ?_
  exact W.iret (v := 0) hx hb hr (fun t ht hW => ⟨⟨0, (), rfl, rfl, po_mk ht hW hP9 hK9 hD9⟩, hS.F ht⟩) hS.2.2 dX8_withdraw_18

set_option maxHeartbeats 4000000 in
set_option maxRecDepth 100000 in
theorem c_X8_cast (l : Launch) (dC : Nat → ClassId) (dI : Nat → Nat → Nat) (mm : Nat) (pl : Nat) (ig : Nat) (sl : Nat) (kl : Nat) (dz : Nat) (a0 : Int32) (a1 : Int32) (a2 : Int32) (sz : Nat)  : Met l yX8_cast wsX8_cast ({ frames := 4, cells := 0, slots := 0, locals := 110 }) (va_Pc [.ref mm, .int a0, .int a1, .int a2] (fun U => pr_ dC dI [(mm, .inr (10, [.int 0, .ref pl, .ref ig, .ref sl, .ref kl, .int 0, .int 0, .int 0])), (pl, .inr (1, [.int 0, .ref dz, .int 0])), (sl, .inr (1, [.int 0, .ref dz, .int 0])), (kl, .inr (1, [.int 0, .ref dz, .int 0]))] [] sz U ∧ mo_  U)) (va_Qi (fun (r : Int32) (_ : Unit) => r = 0) (fun (_ : Unit) t => po_ dC dI [(mm, .inr (10, [.int 1, .ref pl, .ref ig, .ref sl, .ref kl, .int 0, .int 0, .int 0]))] [] (va_A [(mm, .inr (10, [.int 0, .ref pl, .ref ig, .ref sl, .ref kl, .int 0, .int 0, .int 0])), (pl, .inr (1, [.int 0, .ref dz, .int 0])), (sl, .inr (1, [.int 0, .ref dz, .int 0])), (kl, .inr (1, [.int 0, .ref dz, .int 0]))] sz) t) (va_A [(mm, .inr (10, [.int 0, .ref pl, .ref ig, .ref sl, .ref kl, .int 0, .int 0, .int 0])), (pl, .inr (1, [.int 0, .ref dz, .int 0])), (sl, .inr (1, [.int 0, .ref dz, .int 0])), (kl, .inr (1, [.int 0, .ref dz, .int 0]))] sz)) 0 0 (va_A [(mm, .inr (10, [.int 0, .ref pl, .ref ig, .ref sl, .ref kl, .int 0, .int 0, .int 0])), (pl, .inr (1, [.int 0, .ref dz, .int 0])), (sl, .inr (1, [.int 0, .ref dz, .int 0])), (kl, .inr (1, [.int 0, .ref dz, .int 0]))] sz) := by
  refine Met.ofW (cc := cX8_cast) (maxL := 4) (ret := (some .int)) (by decide) rfl ?_
  intro p e s m args below meth c s₁ B hml hv
  obtain ⟨rfl, ⟨hsz, hP, hK, hD0⟩, hXs⟩ := hv
  have hx := B.exec
  have hb := B.bytes
  have hr := B.returns
  have hts := atoms_spec (ws := wsX8_cast) B.pre
  have hown : s.vm.findClass RX8 = some m.cls := findClass_of_methodNamed B.named
  have hlocks := B.notSynchronized
  subst hsz
  have hD := hD0.self (sz := s.heap.size)
  generalize hAe : va_A [(mm, .inr (10, [.int 0, .ref pl, .ref ig, .ref sl, .ref kl, .int 0, .int 0, .int 0])), (pl, .inr (1, [.int 0, .ref dz, .int 0])), (sl, .inr (1, [.int 0, .ref dz, .int 0])), (kl, .inr (1, [.int 0, .ref dz, .int 0]))] s.heap.size = A at hD ⊢
  have hA : ∀ q : Nat, s.heap.size ≤ q → A q := fun q h => by rw [← hAe]; exact Or.inr h
  have hS : va_S A s.heap s.heap [] := va_S.rf
  have hP : va_P (dC, dI) vwCl [(mm, .inr (10, [.int 0, .ref pl, .ref ig, .ref sl, .ref kl, .int 0, .int 0, .int 0])), (pl, .inr (1, [.int 0, .ref dz, .int 0])), (sl, .inr (1, [.int 0, .ref dz, .int 0])), (kl, .inr (1, [.int 0, .ref dz, .int 0]))] s.heap := hP
  have hK : va_K (dC, dI) vwCl [] s := hK
  have hl := lv_entry ([.ref mm, .int a0, .int a1, .int a2]) (n := 4) (Nat.le_of_ble_eq_true rfl)
  rw [lg_entry_eq]
  generalize (lg_sl ([.ref mm, .int a0, .int a1, .int a2]) ++ List.replicate (4 - (lg_sl ([.ref mm, .int a0, .int a1, .int a2])).length) Slot.unset).toArray = ls at hl ⊢
  have hl : lv_has ls 4 [(0, .ref mm), (1, .int a0), (2, .int a1), (3, .int a2)] := hl
  refine lv_aload_n hx hb dX8_cast_0 rfl (lv_at hl 0 rfl) ?_
  refine lv_iconst (v := 0) hx hb dX8_cast_1 (by decide) ?_
  have hinX8 : ∀ w ∈ u_ws RX8 TX8 8, w ∈ wsX8_cast := by decide +kernel
  refine va_put (D := (dC, dI)) (ci := 10) (v := .int 0) (ty := .int) (C := RX8) (T := TX8) (N := 8) hx hb hts hinX8 tyX8 tyX8_ok nmX8 hown hK hP hD hS 0 rfl rfl 0 (by decide) (hts (.fieldLink RX8 26 "BallotLoomModel" "thrown" "I") (by decide +kernel)) (fun _ h9 => h9) rfl (by decide +kernel) rfl rfl (Nat.le_of_ble_eq_true rfl) dX8_cast_2 (fun H locs hP hD hS => ?_)
  have hP : va_P (dC, dI) vwCl [(mm, .inr (10, [.int 0, .ref pl, .ref ig, .ref sl, .ref kl, .int 0, .int 0, .int 0])), (pl, .inr (1, [.int 0, .ref dz, .int 0])), (sl, .inr (1, [.int 0, .ref dz, .int 0])), (kl, .inr (1, [.int 0, .ref dz, .int 0]))] H := hP
  have hD : va_D A [(mm, .inr (10, [.int 0, .ref pl, .ref ig, .ref sl, .ref kl, .int 0, .int 0, .int 0])), (pl, .inr (1, [.int 0, .ref dz, .int 0])), (sl, .inr (1, [.int 0, .ref dz, .int 0])), (kl, .inr (1, [.int 0, .ref dz, .int 0]))] := hD
  refine lv_aload_n hx hb dX8_cast_5 rfl (lv_at hl 0 rfl) ?_
  refine lv_iload_n hx hb dX8_cast_6 rfl (lv_at hl 1 rfl) ?_
  have hPc := hP.sub (ws' := [(mm, .inr (10, [.int 0, .ref pl, .ref ig, .ref sl, .ref kl, .int 0, .int 0, .int 0])), (sl, .inr (1, [.int 0, .ref dz, .int 0]))]) [0, 2] rfl
  have hDc := hD.sub (ws' := [(mm, .inr (10, [.int 0, .ref pl, .ref ig, .ref sl, .ref kl, .int 0, .int 0, .int 0])), (sl, .inr (1, [.int 0, .ref dz, .int 0]))]) [0, 2] (by decide) rfl
  have hKc := hK.sub (tys' := []) [] rfl
  have hFc := va_free (wc := [(mm, .inr (10, [.int 0, .ref pl, .ref ig, .ref sl, .ref kl, .int 0, .int 0, .int 0])), (sl, .inr (1, [.int 0, .ref dz, .int 0]))]) hD hS hA [0, 2] rfl
  refine va_calli (va_runV (As := [.int a0]) (rest := []) ⟨hx, hb, hml, hown, hts⟩ (c_X8_isDistrict l dC dI mm pl ig sl kl dz a0 _ ) (cwV 1 hts gX8_cast_X8_isDistrict rfl rfl rfl (by decide +kernel) ⟨Nat.le_of_ble_eq_true rfl, Nat.le_of_ble_eq_true rfl⟩) ⟨pe_blind mo_bl, va_recv hKc hPc (ci := 10) (q0 := 0) rfl rfl, fun U hU hW => ⟨rfl, pr_mk hU hW hPc hKc hDc, mo_mk hW hXs⟩⟩ rfl rfl hl.1 rfl (lv_room (Nat.le_of_ble_eq_true rfl)) dX8_cast_7 ⟨Nat.le_of_ble_eq_true rfl, Nat.le_of_ble_eq_true rfl⟩) hS (fun q _ h => hFc q h) hFc (fun r_2 u_1 t H1 locs ht hvm hw hB hz1 hk1 hS => ?_)
  obtain ⟨hP1, hK1, hD1⟩ := hB
  rw [ht] at hP1
  obtain ⟨hP, hD⟩ := va_join (wr := [(pl, .inr (1, [.int 0, .ref dz, .int 0])), (kl, .inr (1, [.int 0, .ref dz, .int 0]))]) (w1 := [(mm, .inr (10, [.int 0, .ref pl, .ref ig, .ref sl, .ref kl, .int 0, .int 0, .int 0])), (sl, .inr (1, [.int 0, .ref dz, .int 0]))]) hP hD [0, 2] [1, 3] rfl rfl (by decide) (by decide) hk1 hFc hP1 hD1
  generalize H1 = H at hP hS ⊢
  have hP : va_P (dC, dI) vwCl [(pl, .inr (1, [.int 0, .ref dz, .int 0])), (kl, .inr (1, [.int 0, .ref dz, .int 0])), (mm, .inr (10, [.int 0, .ref pl, .ref ig, .ref sl, .ref kl, .int 0, .int 0, .int 0])), (sl, .inr (1, [.int 0, .ref dz, .int 0]))] H := hP
  have hD : va_D A [(pl, .inr (1, [.int 0, .ref dz, .int 0])), (kl, .inr (1, [.int 0, .ref dz, .int 0])), (mm, .inr (10, [.int 0, .ref pl, .ref ig, .ref sl, .ref kl, .int 0, .int 0, .int 0])), (sl, .inr (1, [.int 0, .ref dz, .int 0]))] := hD
  refine W.widen (k := 0) (n := 0) (Nat.le_refl _) (Nat.le_refl _) ?_
  have hw : r_2 = 0 := hw
  subst hw
  refine lv_if_ne (tgt := 19) hx hb dX8_cast_10 (by decide) (fun h9 => absurd h9 (by decide)) (fun _ => ?_)
  refine lv_aload_n hx hb dX8_cast_13 rfl (lv_at hl 0 rfl) ?_
  refine lv_iconst (v := 1) hx hb dX8_cast_14 (by decide) ?_
  have hPc := hP.sub (ws' := [(mm, .inr (10, [.int 0, .ref pl, .ref ig, .ref sl, .ref kl, .int 0, .int 0, .int 0]))]) [2] rfl
  have hDc := hD.sub (ws' := [(mm, .inr (10, [.int 0, .ref pl, .ref ig, .ref sl, .ref kl, .int 0, .int 0, .int 0]))]) [2] (by decide) rfl
  have hKc := hK.sub (tys' := []) [] rfl
  have hFc := va_free (wc := [(mm, .inr (10, [.int 0, .ref pl, .ref ig, .ref sl, .ref kl, .int 0, .int 0, .int 0]))]) hD hS hA [2] rfl
  refine va_calli (va_runV (As := [.int 1]) (rest := []) ⟨hx, hb, hml, hown, hts⟩ (c_X8_no l dC dI mm pl ig sl kl (1 : Int32) (0 : Int32) _ ) (cwV 1 hts gX8_cast_X8_no rfl rfl rfl (by decide +kernel) ⟨Nat.le_of_ble_eq_true rfl, Nat.le_of_ble_eq_true rfl⟩) ⟨pr_blind, va_recv hKc hPc (ci := 10) (q0 := 0) rfl rfl, fun U hU hW => ⟨rfl, pr_mk hU hW hPc hKc hDc⟩⟩ rfl rfl hl.1 rfl (lv_room (Nat.le_of_ble_eq_true rfl)) dX8_cast_15 ⟨Nat.le_of_ble_eq_true rfl, Nat.le_of_ble_eq_true rfl⟩) hS (fun q _ h => hFc q h) hFc (fun r_4 u_3 t H1 locs ht hvm hw hB hz1 hk1 hS => ?_)
  obtain ⟨hP1, hK1, hD1⟩ := hB
  rw [ht] at hP1
  obtain ⟨hP, hD⟩ := va_join (wr := [(pl, .inr (1, [.int 0, .ref dz, .int 0])), (kl, .inr (1, [.int 0, .ref dz, .int 0])), (sl, .inr (1, [.int 0, .ref dz, .int 0]))]) (w1 := [(mm, .inr (10, [.int 1, .ref pl, .ref ig, .ref sl, .ref kl, .int 0, .int 0, .int 0]))]) hP hD [2] [0, 1, 3] rfl rfl (by decide) (by decide) hk1 hFc hP1 hD1
  generalize H1 = H at hP hS ⊢
  have hP : va_P (dC, dI) vwCl [(pl, .inr (1, [.int 0, .ref dz, .int 0])), (kl, .inr (1, [.int 0, .ref dz, .int 0])), (sl, .inr (1, [.int 0, .ref dz, .int 0])), (mm, .inr (10, [.int 1, .ref pl, .ref ig, .ref sl, .ref kl, .int 0, .int 0, .int 0]))] H := hP
  have hD : va_D A [(pl, .inr (1, [.int 0, .ref dz, .int 0])), (kl, .inr (1, [.int 0, .ref dz, .int 0])), (sl, .inr (1, [.int 0, .ref dz, .int 0])), (mm, .inr (10, [.int 1, .ref pl, .ref ig, .ref sl, .ref kl, .int 0, .int 0, .int 0]))] := hD
  refine W.widen (k := 0) (n := 0) (Nat.le_refl _) (Nat.le_refl _) ?_
  have hw : r_4 = 0 := hw
  subst hw
  have hP9 := hP.sub (ws' := [(mm, .inr (10, [.int 1, .ref pl, .ref ig, .ref sl, .ref kl, .int 0, .int 0, .int 0]))]) [3] rfl
  have hD9 := hD.sub (ws' := [(mm, .inr (10, [.int 1, .ref pl, .ref ig, .ref sl, .ref kl, .int 0, .int 0, .int 0]))]) [3] (by decide) rfl
  have hK9 := hK.sub (tys' := []) [] rfl
  refine W.widen (k := 0) (n := 0) (Nat.le_of_ble_eq_true rfl) (Nat.le_of_ble_eq_true rfl) ?_
  exact W.iret (v := 0) hx hb hr (fun t ht hW => ⟨⟨0, (), rfl, rfl, po_mk ht hW hP9 hK9 hD9⟩, hS.F ht⟩) hS.2.2 dX8_cast_18

set_option maxHeartbeats 4000000 in
set_option maxRecDepth 100000 in
theorem c_X8_recount (l : Launch) (dC : Nat → ClassId) (dI : Nat → Nat → Nat) (mm : Nat) (pl : Nat) (ig : Nat) (sl : Nat) (kl : Nat) (dz : Nat) (a0 : Int32) (a1 : Int32) (sz : Nat)  : Met l yX8_recount wsX8_recount ({ frames := 4, cells := 0, slots := 0, locals := 110 }) (va_Pc [.ref mm, .int a0, .int a1] (fun U => pr_ dC dI [(mm, .inr (10, [.int 0, .ref pl, .ref ig, .ref sl, .ref kl, .int 0, .int 0, .int 0])), (pl, .inr (1, [.int 0, .ref dz, .int 0])), (sl, .inr (1, [.int 0, .ref dz, .int 0])), (kl, .inr (1, [.int 0, .ref dz, .int 0]))] [] sz U ∧ mo_  U)) (va_Qi (fun (r : Int32) (_ : Unit) => r = 0) (fun (_ : Unit) t => po_ dC dI [(mm, .inr (10, [.int 1, .ref pl, .ref ig, .ref sl, .ref kl, .int 0, .int 0, .int 0]))] [] (va_A [(mm, .inr (10, [.int 0, .ref pl, .ref ig, .ref sl, .ref kl, .int 0, .int 0, .int 0])), (pl, .inr (1, [.int 0, .ref dz, .int 0])), (sl, .inr (1, [.int 0, .ref dz, .int 0])), (kl, .inr (1, [.int 0, .ref dz, .int 0]))] sz) t) (va_A [(mm, .inr (10, [.int 0, .ref pl, .ref ig, .ref sl, .ref kl, .int 0, .int 0, .int 0])), (pl, .inr (1, [.int 0, .ref dz, .int 0])), (sl, .inr (1, [.int 0, .ref dz, .int 0])), (kl, .inr (1, [.int 0, .ref dz, .int 0]))] sz)) 0 0 (va_A [(mm, .inr (10, [.int 0, .ref pl, .ref ig, .ref sl, .ref kl, .int 0, .int 0, .int 0])), (pl, .inr (1, [.int 0, .ref dz, .int 0])), (sl, .inr (1, [.int 0, .ref dz, .int 0])), (kl, .inr (1, [.int 0, .ref dz, .int 0]))] sz) := by
  refine Met.ofW (cc := cX8_recount) (maxL := 4) (ret := (some .int)) (by decide) rfl ?_
  intro p e s m args below meth c s₁ B hml hv
  obtain ⟨rfl, ⟨hsz, hP, hK, hD0⟩, hXs⟩ := hv
  have hx := B.exec
  have hb := B.bytes
  have hr := B.returns
  have hts := atoms_spec (ws := wsX8_recount) B.pre
  have hown : s.vm.findClass RX8 = some m.cls := findClass_of_methodNamed B.named
  have hlocks := B.notSynchronized
  subst hsz
  have hD := hD0.self (sz := s.heap.size)
  generalize hAe : va_A [(mm, .inr (10, [.int 0, .ref pl, .ref ig, .ref sl, .ref kl, .int 0, .int 0, .int 0])), (pl, .inr (1, [.int 0, .ref dz, .int 0])), (sl, .inr (1, [.int 0, .ref dz, .int 0])), (kl, .inr (1, [.int 0, .ref dz, .int 0]))] s.heap.size = A at hD ⊢
  have hA : ∀ q : Nat, s.heap.size ≤ q → A q := fun q h => by rw [← hAe]; exact Or.inr h
  have hS : va_S A s.heap s.heap [] := va_S.rf
  have hP : va_P (dC, dI) vwCl [(mm, .inr (10, [.int 0, .ref pl, .ref ig, .ref sl, .ref kl, .int 0, .int 0, .int 0])), (pl, .inr (1, [.int 0, .ref dz, .int 0])), (sl, .inr (1, [.int 0, .ref dz, .int 0])), (kl, .inr (1, [.int 0, .ref dz, .int 0]))] s.heap := hP
  have hK : va_K (dC, dI) vwCl [] s := hK
  have hl := lv_entry ([.ref mm, .int a0, .int a1]) (n := 4) (Nat.le_of_ble_eq_true rfl)
  rw [lg_entry_eq]
  generalize (lg_sl ([.ref mm, .int a0, .int a1]) ++ List.replicate (4 - (lg_sl ([.ref mm, .int a0, .int a1])).length) Slot.unset).toArray = ls at hl ⊢
  have hl : lv_has ls 4 [(0, .ref mm), (1, .int a0), (2, .int a1)] := hl
  refine lv_aload_n hx hb dX8_recount_0 rfl (lv_at hl 0 rfl) ?_
  refine lv_iconst (v := 0) hx hb dX8_recount_1 (by decide) ?_
  have hinX8 : ∀ w ∈ u_ws RX8 TX8 8, w ∈ wsX8_recount := by decide +kernel
  refine va_put (D := (dC, dI)) (ci := 10) (v := .int 0) (ty := .int) (C := RX8) (T := TX8) (N := 8) hx hb hts hinX8 tyX8 tyX8_ok nmX8 hown hK hP hD hS 0 rfl rfl 0 (by decide) (hts (.fieldLink RX8 26 "BallotLoomModel" "thrown" "I") (by decide +kernel)) (fun _ h9 => h9) rfl (by decide +kernel) rfl rfl (Nat.le_of_ble_eq_true rfl) dX8_recount_2 (fun H locs hP hD hS => ?_)
  have hP : va_P (dC, dI) vwCl [(mm, .inr (10, [.int 0, .ref pl, .ref ig, .ref sl, .ref kl, .int 0, .int 0, .int 0])), (pl, .inr (1, [.int 0, .ref dz, .int 0])), (sl, .inr (1, [.int 0, .ref dz, .int 0])), (kl, .inr (1, [.int 0, .ref dz, .int 0]))] H := hP
  have hD : va_D A [(mm, .inr (10, [.int 0, .ref pl, .ref ig, .ref sl, .ref kl, .int 0, .int 0, .int 0])), (pl, .inr (1, [.int 0, .ref dz, .int 0])), (sl, .inr (1, [.int 0, .ref dz, .int 0])), (kl, .inr (1, [.int 0, .ref dz, .int 0]))] := hD
  refine lv_aload_n hx hb dX8_recount_5 rfl (lv_at hl 0 rfl) ?_
  refine lv_iload_n hx hb dX8_recount_6 rfl (lv_at hl 1 rfl) ?_
  have hPc := hP.sub (ws' := [(mm, .inr (10, [.int 0, .ref pl, .ref ig, .ref sl, .ref kl, .int 0, .int 0, .int 0])), (kl, .inr (1, [.int 0, .ref dz, .int 0]))]) [0, 3] rfl
  have hDc := hD.sub (ws' := [(mm, .inr (10, [.int 0, .ref pl, .ref ig, .ref sl, .ref kl, .int 0, .int 0, .int 0])), (kl, .inr (1, [.int 0, .ref dz, .int 0]))]) [0, 3] (by decide) rfl
  have hKc := hK.sub (tys' := []) [] rfl
  have hFc := va_free (wc := [(mm, .inr (10, [.int 0, .ref pl, .ref ig, .ref sl, .ref kl, .int 0, .int 0, .int 0])), (kl, .inr (1, [.int 0, .ref dz, .int 0]))]) hD hS hA [0, 3] rfl
  refine va_calli (va_runV (As := [.int a0]) (rest := []) ⟨hx, hb, hml, hown, hts⟩ (c_X8_isStack l dC dI mm pl ig sl kl dz a0 _ ) (cwV 1 hts gX8_recount_X8_isStack rfl rfl rfl (by decide +kernel) ⟨Nat.le_of_ble_eq_true rfl, Nat.le_of_ble_eq_true rfl⟩) ⟨pe_blind mo_bl, va_recv hKc hPc (ci := 10) (q0 := 0) rfl rfl, fun U hU hW => ⟨rfl, pr_mk hU hW hPc hKc hDc, mo_mk hW hXs⟩⟩ rfl rfl hl.1 rfl (lv_room (Nat.le_of_ble_eq_true rfl)) dX8_recount_7 ⟨Nat.le_of_ble_eq_true rfl, Nat.le_of_ble_eq_true rfl⟩) hS (fun q _ h => hFc q h) hFc (fun r_2 u_1 t H1 locs ht hvm hw hB hz1 hk1 hS => ?_)
  obtain ⟨hP1, hK1, hD1⟩ := hB
  rw [ht] at hP1
  obtain ⟨hP, hD⟩ := va_join (wr := [(pl, .inr (1, [.int 0, .ref dz, .int 0])), (sl, .inr (1, [.int 0, .ref dz, .int 0]))]) (w1 := [(mm, .inr (10, [.int 0, .ref pl, .ref ig, .ref sl, .ref kl, .int 0, .int 0, .int 0])), (kl, .inr (1, [.int 0, .ref dz, .int 0]))]) hP hD [0, 3] [1, 2] rfl rfl (by decide) (by decide) hk1 hFc hP1 hD1
  generalize H1 = H at hP hS ⊢
  have hP : va_P (dC, dI) vwCl [(pl, .inr (1, [.int 0, .ref dz, .int 0])), (sl, .inr (1, [.int 0, .ref dz, .int 0])), (mm, .inr (10, [.int 0, .ref pl, .ref ig, .ref sl, .ref kl, .int 0, .int 0, .int 0])), (kl, .inr (1, [.int 0, .ref dz, .int 0]))] H := hP
  have hD : va_D A [(pl, .inr (1, [.int 0, .ref dz, .int 0])), (sl, .inr (1, [.int 0, .ref dz, .int 0])), (mm, .inr (10, [.int 0, .ref pl, .ref ig, .ref sl, .ref kl, .int 0, .int 0, .int 0])), (kl, .inr (1, [.int 0, .ref dz, .int 0]))] := hD
  refine W.widen (k := 0) (n := 0) (Nat.le_refl _) (Nat.le_refl _) ?_
  have hw : r_2 = 0 := hw
  subst hw
  refine lv_if_ne (tgt := 19) hx hb dX8_recount_10 (by decide) (fun h9 => absurd h9 (by decide)) (fun _ => ?_)
  refine lv_aload_n hx hb dX8_recount_13 rfl (lv_at hl 0 rfl) ?_
  refine lv_iconst (v := 1) hx hb dX8_recount_14 (by decide) ?_
  have hPc := hP.sub (ws' := [(mm, .inr (10, [.int 0, .ref pl, .ref ig, .ref sl, .ref kl, .int 0, .int 0, .int 0]))]) [2] rfl
  have hDc := hD.sub (ws' := [(mm, .inr (10, [.int 0, .ref pl, .ref ig, .ref sl, .ref kl, .int 0, .int 0, .int 0]))]) [2] (by decide) rfl
  have hKc := hK.sub (tys' := []) [] rfl
  have hFc := va_free (wc := [(mm, .inr (10, [.int 0, .ref pl, .ref ig, .ref sl, .ref kl, .int 0, .int 0, .int 0]))]) hD hS hA [2] rfl
  refine va_calli (va_runV (As := [.int 1]) (rest := []) ⟨hx, hb, hml, hown, hts⟩ (c_X8_no l dC dI mm pl ig sl kl (1 : Int32) (0 : Int32) _ ) (cwV 1 hts gX8_recount_X8_no rfl rfl rfl (by decide +kernel) ⟨Nat.le_of_ble_eq_true rfl, Nat.le_of_ble_eq_true rfl⟩) ⟨pr_blind, va_recv hKc hPc (ci := 10) (q0 := 0) rfl rfl, fun U hU hW => ⟨rfl, pr_mk hU hW hPc hKc hDc⟩⟩ rfl rfl hl.1 rfl (lv_room (Nat.le_of_ble_eq_true rfl)) dX8_recount_15 ⟨Nat.le_of_ble_eq_true rfl, Nat.le_of_ble_eq_true rfl⟩) hS (fun q _ h => hFc q h) hFc (fun r_4 u_3 t H1 locs ht hvm hw hB hz1 hk1 hS => ?_)
  obtain ⟨hP1, hK1, hD1⟩ := hB
  rw [ht] at hP1
  obtain ⟨hP, hD⟩ := va_join (wr := [(pl, .inr (1, [.int 0, .ref dz, .int 0])), (sl, .inr (1, [.int 0, .ref dz, .int 0])), (kl, .inr (1, [.int 0, .ref dz, .int 0]))]) (w1 := [(mm, .inr (10, [.int 1, .ref pl, .ref ig, .ref sl, .ref kl, .int 0, .int 0, .int 0]))]) hP hD [2] [0, 1, 3] rfl rfl (by decide) (by decide) hk1 hFc hP1 hD1
  generalize H1 = H at hP hS ⊢
  have hP : va_P (dC, dI) vwCl [(pl, .inr (1, [.int 0, .ref dz, .int 0])), (sl, .inr (1, [.int 0, .ref dz, .int 0])), (kl, .inr (1, [.int 0, .ref dz, .int 0])), (mm, .inr (10, [.int 1, .ref pl, .ref ig, .ref sl, .ref kl, .int 0, .int 0, .int 0]))] H := hP
  have hD : va_D A [(pl, .inr (1, [.int 0, .ref dz, .int 0])), (sl, .inr (1, [.int 0, .ref dz, .int 0])), (kl, .inr (1, [.int 0, .ref dz, .int 0])), (mm, .inr (10, [.int 1, .ref pl, .ref ig, .ref sl, .ref kl, .int 0, .int 0, .int 0]))] := hD
  refine W.widen (k := 0) (n := 0) (Nat.le_refl _) (Nat.le_refl _) ?_
  have hw : r_4 = 0 := hw
  subst hw
  have hP9 := hP.sub (ws' := [(mm, .inr (10, [.int 1, .ref pl, .ref ig, .ref sl, .ref kl, .int 0, .int 0, .int 0]))]) [3] rfl
  have hD9 := hD.sub (ws' := [(mm, .inr (10, [.int 1, .ref pl, .ref ig, .ref sl, .ref kl, .int 0, .int 0, .int 0]))]) [3] (by decide) rfl
  have hK9 := hK.sub (tys' := []) [] rfl
  refine W.widen (k := 0) (n := 0) (Nat.le_of_ble_eq_true rfl) (Nat.le_of_ble_eq_true rfl) ?_
  exact W.iret (v := 0) hx hb hr (fun t ht hW => ⟨⟨0, (), rfl, rfl, po_mk ht hW hP9 hK9 hD9⟩, hS.F ht⟩) hS.2.2 dX8_recount_18

set_option maxHeartbeats 4000000 in
set_option maxRecDepth 100000 in
theorem c_X8_move (l : Launch) (dC : Nat → ClassId) (dI : Nat → Nat → Nat) (mm : Nat) (pl : Nat) (ig : Nat) (sl : Nat) (kl : Nat) (dz : Nat) (a0 : Int32) (a1 : Int32) (sz : Nat)  : Met l yX8_move wsX8_move ({ frames := 4, cells := 0, slots := 0, locals := 110 }) (va_Pc [.ref mm, .int a0, .int a1] (fun U => pr_ dC dI [(mm, .inr (10, [.int 0, .ref pl, .ref ig, .ref sl, .ref kl, .int 0, .int 0, .int 0])), (pl, .inr (1, [.int 0, .ref dz, .int 0])), (sl, .inr (1, [.int 0, .ref dz, .int 0])), (kl, .inr (1, [.int 0, .ref dz, .int 0]))] [] sz U ∧ mo_  U)) (va_Qi (fun (r : Int32) (_ : Unit) => r = 0) (fun (_ : Unit) t => po_ dC dI [(mm, .inr (10, [.int 1, .ref pl, .ref ig, .ref sl, .ref kl, .int 0, .int 0, .int 0]))] [] (va_A [(mm, .inr (10, [.int 0, .ref pl, .ref ig, .ref sl, .ref kl, .int 0, .int 0, .int 0])), (pl, .inr (1, [.int 0, .ref dz, .int 0])), (sl, .inr (1, [.int 0, .ref dz, .int 0])), (kl, .inr (1, [.int 0, .ref dz, .int 0]))] sz) t) (va_A [(mm, .inr (10, [.int 0, .ref pl, .ref ig, .ref sl, .ref kl, .int 0, .int 0, .int 0])), (pl, .inr (1, [.int 0, .ref dz, .int 0])), (sl, .inr (1, [.int 0, .ref dz, .int 0])), (kl, .inr (1, [.int 0, .ref dz, .int 0]))] sz)) 0 0 (va_A [(mm, .inr (10, [.int 0, .ref pl, .ref ig, .ref sl, .ref kl, .int 0, .int 0, .int 0])), (pl, .inr (1, [.int 0, .ref dz, .int 0])), (sl, .inr (1, [.int 0, .ref dz, .int 0])), (kl, .inr (1, [.int 0, .ref dz, .int 0]))] sz) := by
  refine Met.ofW (cc := cX8_move) (maxL := 4) (ret := (some .int)) (by decide) rfl ?_
  intro p e s m args below meth c s₁ B hml hv
  obtain ⟨rfl, ⟨hsz, hP, hK, hD0⟩, hXs⟩ := hv
  have hx := B.exec
  have hb := B.bytes
  have hr := B.returns
  have hts := atoms_spec (ws := wsX8_move) B.pre
  have hown : s.vm.findClass RX8 = some m.cls := findClass_of_methodNamed B.named
  have hlocks := B.notSynchronized
  subst hsz
  have hD := hD0.self (sz := s.heap.size)
  generalize hAe : va_A [(mm, .inr (10, [.int 0, .ref pl, .ref ig, .ref sl, .ref kl, .int 0, .int 0, .int 0])), (pl, .inr (1, [.int 0, .ref dz, .int 0])), (sl, .inr (1, [.int 0, .ref dz, .int 0])), (kl, .inr (1, [.int 0, .ref dz, .int 0]))] s.heap.size = A at hD ⊢
  have hA : ∀ q : Nat, s.heap.size ≤ q → A q := fun q h => by rw [← hAe]; exact Or.inr h
  have hS : va_S A s.heap s.heap [] := va_S.rf
  have hP : va_P (dC, dI) vwCl [(mm, .inr (10, [.int 0, .ref pl, .ref ig, .ref sl, .ref kl, .int 0, .int 0, .int 0])), (pl, .inr (1, [.int 0, .ref dz, .int 0])), (sl, .inr (1, [.int 0, .ref dz, .int 0])), (kl, .inr (1, [.int 0, .ref dz, .int 0]))] s.heap := hP
  have hK : va_K (dC, dI) vwCl [] s := hK
  have hl := lv_entry ([.ref mm, .int a0, .int a1]) (n := 4) (Nat.le_of_ble_eq_true rfl)
  rw [lg_entry_eq]
  generalize (lg_sl ([.ref mm, .int a0, .int a1]) ++ List.replicate (4 - (lg_sl ([.ref mm, .int a0, .int a1])).length) Slot.unset).toArray = ls at hl ⊢
  have hl : lv_has ls 4 [(0, .ref mm), (1, .int a0), (2, .int a1)] := hl
  refine lv_aload_n hx hb dX8_move_0 rfl (lv_at hl 0 rfl) ?_
  refine lv_iconst (v := 0) hx hb dX8_move_1 (by decide) ?_
  have hinX8 : ∀ w ∈ u_ws RX8 TX8 8, w ∈ wsX8_move := by decide +kernel
  refine va_put (D := (dC, dI)) (ci := 10) (v := .int 0) (ty := .int) (C := RX8) (T := TX8) (N := 8) hx hb hts hinX8 tyX8 tyX8_ok nmX8 hown hK hP hD hS 0 rfl rfl 0 (by decide) (hts (.fieldLink RX8 26 "BallotLoomModel" "thrown" "I") (by decide +kernel)) (fun _ h9 => h9) rfl (by decide +kernel) rfl rfl (Nat.le_of_ble_eq_true rfl) dX8_move_2 (fun H locs hP hD hS => ?_)
  have hP : va_P (dC, dI) vwCl [(mm, .inr (10, [.int 0, .ref pl, .ref ig, .ref sl, .ref kl, .int 0, .int 0, .int 0])), (pl, .inr (1, [.int 0, .ref dz, .int 0])), (sl, .inr (1, [.int 0, .ref dz, .int 0])), (kl, .inr (1, [.int 0, .ref dz, .int 0]))] H := hP
  have hD : va_D A [(mm, .inr (10, [.int 0, .ref pl, .ref ig, .ref sl, .ref kl, .int 0, .int 0, .int 0])), (pl, .inr (1, [.int 0, .ref dz, .int 0])), (sl, .inr (1, [.int 0, .ref dz, .int 0])), (kl, .inr (1, [.int 0, .ref dz, .int 0]))] := hD
  refine lv_aload_n hx hb dX8_move_5 rfl (lv_at hl 0 rfl) ?_
  refine lv_iload_n hx hb dX8_move_6 rfl (lv_at hl 1 rfl) ?_
  have hPc := hP.sub (ws' := [(mm, .inr (10, [.int 0, .ref pl, .ref ig, .ref sl, .ref kl, .int 0, .int 0, .int 0])), (kl, .inr (1, [.int 0, .ref dz, .int 0]))]) [0, 3] rfl
  have hDc := hD.sub (ws' := [(mm, .inr (10, [.int 0, .ref pl, .ref ig, .ref sl, .ref kl, .int 0, .int 0, .int 0])), (kl, .inr (1, [.int 0, .ref dz, .int 0]))]) [0, 3] (by decide) rfl
  have hKc := hK.sub (tys' := []) [] rfl
  have hFc := va_free (wc := [(mm, .inr (10, [.int 0, .ref pl, .ref ig, .ref sl, .ref kl, .int 0, .int 0, .int 0])), (kl, .inr (1, [.int 0, .ref dz, .int 0]))]) hD hS hA [0, 3] rfl
  refine va_calli (va_runV (As := [.int a0]) (rest := []) ⟨hx, hb, hml, hown, hts⟩ (c_X8_isStack l dC dI mm pl ig sl kl dz a0 _ ) (cwV 1 hts gX8_move_X8_isStack rfl rfl rfl (by decide +kernel) ⟨Nat.le_of_ble_eq_true rfl, Nat.le_of_ble_eq_true rfl⟩) ⟨pe_blind mo_bl, va_recv hKc hPc (ci := 10) (q0 := 0) rfl rfl, fun U hU hW => ⟨rfl, pr_mk hU hW hPc hKc hDc, mo_mk hW hXs⟩⟩ rfl rfl hl.1 rfl (lv_room (Nat.le_of_ble_eq_true rfl)) dX8_move_7 ⟨Nat.le_of_ble_eq_true rfl, Nat.le_of_ble_eq_true rfl⟩) hS (fun q _ h => hFc q h) hFc (fun r_2 u_1 t H1 locs ht hvm hw hB hz1 hk1 hS => ?_)
  obtain ⟨hP1, hK1, hD1⟩ := hB
  rw [ht] at hP1
  obtain ⟨hP, hD⟩ := va_join (wr := [(pl, .inr (1, [.int 0, .ref dz, .int 0])), (sl, .inr (1, [.int 0, .ref dz, .int 0]))]) (w1 := [(mm, .inr (10, [.int 0, .ref pl, .ref ig, .ref sl, .ref kl, .int 0, .int 0, .int 0])), (kl, .inr (1, [.int 0, .ref dz, .int 0]))]) hP hD [0, 3] [1, 2] rfl rfl (by decide) (by decide) hk1 hFc hP1 hD1
  generalize H1 = H at hP hS ⊢
  have hP : va_P (dC, dI) vwCl [(pl, .inr (1, [.int 0, .ref dz, .int 0])), (sl, .inr (1, [.int 0, .ref dz, .int 0])), (mm, .inr (10, [.int 0, .ref pl, .ref ig, .ref sl, .ref kl, .int 0, .int 0, .int 0])), (kl, .inr (1, [.int 0, .ref dz, .int 0]))] H := hP
  have hD : va_D A [(pl, .inr (1, [.int 0, .ref dz, .int 0])), (sl, .inr (1, [.int 0, .ref dz, .int 0])), (mm, .inr (10, [.int 0, .ref pl, .ref ig, .ref sl, .ref kl, .int 0, .int 0, .int 0])), (kl, .inr (1, [.int 0, .ref dz, .int 0]))] := hD
  refine W.widen (k := 0) (n := 0) (Nat.le_refl _) (Nat.le_refl _) ?_
  have hw : r_2 = 0 := hw
  subst hw
  refine lv_if_eq (tgt := 21) hx hb dX8_move_10 (by decide) (fun _ => ?_) (fun h9 => absurd h9 (by decide))
  refine lv_aload_n hx hb dX8_move_21 rfl (lv_at hl 0 rfl) ?_
  refine lv_iconst (v := 1) hx hb dX8_move_22 (by decide) ?_
  have hPc := hP.sub (ws' := [(mm, .inr (10, [.int 0, .ref pl, .ref ig, .ref sl, .ref kl, .int 0, .int 0, .int 0]))]) [2] rfl
  have hDc := hD.sub (ws' := [(mm, .inr (10, [.int 0, .ref pl, .ref ig, .ref sl, .ref kl, .int 0, .int 0, .int 0]))]) [2] (by decide) rfl
  have hKc := hK.sub (tys' := []) [] rfl
  have hFc := va_free (wc := [(mm, .inr (10, [.int 0, .ref pl, .ref ig, .ref sl, .ref kl, .int 0, .int 0, .int 0]))]) hD hS hA [2] rfl
  refine va_calli (va_runV (As := [.int 1]) (rest := []) ⟨hx, hb, hml, hown, hts⟩ (c_X8_no l dC dI mm pl ig sl kl (1 : Int32) (0 : Int32) _ ) (cwV 1 hts gX8_move_X8_no rfl rfl rfl (by decide +kernel) ⟨Nat.le_of_ble_eq_true rfl, Nat.le_of_ble_eq_true rfl⟩) ⟨pr_blind, va_recv hKc hPc (ci := 10) (q0 := 0) rfl rfl, fun U hU hW => ⟨rfl, pr_mk hU hW hPc hKc hDc⟩⟩ rfl rfl hl.1 rfl (lv_room (Nat.le_of_ble_eq_true rfl)) dX8_move_23 ⟨Nat.le_of_ble_eq_true rfl, Nat.le_of_ble_eq_true rfl⟩) hS (fun q _ h => hFc q h) hFc (fun r_4 u_3 t H1 locs ht hvm hw hB hz1 hk1 hS => ?_)
  obtain ⟨hP1, hK1, hD1⟩ := hB
  rw [ht] at hP1
  obtain ⟨hP, hD⟩ := va_join (wr := [(pl, .inr (1, [.int 0, .ref dz, .int 0])), (sl, .inr (1, [.int 0, .ref dz, .int 0])), (kl, .inr (1, [.int 0, .ref dz, .int 0]))]) (w1 := [(mm, .inr (10, [.int 1, .ref pl, .ref ig, .ref sl, .ref kl, .int 0, .int 0, .int 0]))]) hP hD [2] [0, 1, 3] rfl rfl (by decide) (by decide) hk1 hFc hP1 hD1
  generalize H1 = H at hP hS ⊢
  have hP : va_P (dC, dI) vwCl [(pl, .inr (1, [.int 0, .ref dz, .int 0])), (sl, .inr (1, [.int 0, .ref dz, .int 0])), (kl, .inr (1, [.int 0, .ref dz, .int 0])), (mm, .inr (10, [.int 1, .ref pl, .ref ig, .ref sl, .ref kl, .int 0, .int 0, .int 0]))] H := hP
  have hD : va_D A [(pl, .inr (1, [.int 0, .ref dz, .int 0])), (sl, .inr (1, [.int 0, .ref dz, .int 0])), (kl, .inr (1, [.int 0, .ref dz, .int 0])), (mm, .inr (10, [.int 1, .ref pl, .ref ig, .ref sl, .ref kl, .int 0, .int 0, .int 0]))] := hD
  refine W.widen (k := 0) (n := 0) (Nat.le_refl _) (Nat.le_refl _) ?_
  have hw : r_4 = 0 := hw
  subst hw
  have hP9 := hP.sub (ws' := [(mm, .inr (10, [.int 1, .ref pl, .ref ig, .ref sl, .ref kl, .int 0, .int 0, .int 0]))]) [3] rfl
  have hD9 := hD.sub (ws' := [(mm, .inr (10, [.int 1, .ref pl, .ref ig, .ref sl, .ref kl, .int 0, .int 0, .int 0]))]) [3] (by decide) rfl
  have hK9 := hK.sub (tys' := []) [] rfl
  refine W.widen (k := 0) (n := 0) (Nat.le_of_ble_eq_true rfl) (Nat.le_of_ble_eq_true rfl) ?_
  exact W.iret (v := 0) hx hb hr (fun t ht hW => ⟨⟨0, (), rfl, rfl, po_mk ht hW hP9 hK9 hD9⟩, hS.F ht⟩) hS.2.2 dX8_move_26

set_option maxHeartbeats 4000000 in
set_option maxRecDepth 100000 in
theorem c_X8_ofStack (l : Launch) (dC : Nat → ClassId) (dI : Nat → Nat → Nat) (mm : Nat) (pl : Nat) (ig : Nat) (sl : Nat) (kl : Nat) (dz : Nat) (a0 : Int32) (a1 : Int32) (sz : Nat)  : Met l yX8_ofStack wsX8_ofStack ({ frames := 4, cells := 0, slots := 0, locals := 110 }) (va_Pc [.ref mm, .int a0, .int a1] (fun U => pr_ dC dI [(mm, .inr (10, [.int 0, .ref pl, .ref ig, .ref sl, .ref kl, .int 0, .int 0, .int 0])), (pl, .inr (1, [.int 0, .ref dz, .int 0])), (sl, .inr (1, [.int 0, .ref dz, .int 0])), (kl, .inr (1, [.int 0, .ref dz, .int 0]))] [] sz U ∧ mo_  U)) (va_Qi (fun (r : Int32) (_ : Unit) => r = 0) (fun (_ : Unit) t => po_ dC dI [(mm, .inr (10, [.int 1, .ref pl, .ref ig, .ref sl, .ref kl, .int 0, .int 0, .int 0]))] [] (va_A [(mm, .inr (10, [.int 0, .ref pl, .ref ig, .ref sl, .ref kl, .int 0, .int 0, .int 0])), (pl, .inr (1, [.int 0, .ref dz, .int 0])), (sl, .inr (1, [.int 0, .ref dz, .int 0])), (kl, .inr (1, [.int 0, .ref dz, .int 0]))] sz) t) (va_A [(mm, .inr (10, [.int 0, .ref pl, .ref ig, .ref sl, .ref kl, .int 0, .int 0, .int 0])), (pl, .inr (1, [.int 0, .ref dz, .int 0])), (sl, .inr (1, [.int 0, .ref dz, .int 0])), (kl, .inr (1, [.int 0, .ref dz, .int 0]))] sz)) 0 0 (va_A [(mm, .inr (10, [.int 0, .ref pl, .ref ig, .ref sl, .ref kl, .int 0, .int 0, .int 0])), (pl, .inr (1, [.int 0, .ref dz, .int 0])), (sl, .inr (1, [.int 0, .ref dz, .int 0])), (kl, .inr (1, [.int 0, .ref dz, .int 0]))] sz) := by
  refine Met.ofW (cc := cX8_ofStack) (maxL := 3) (ret := (some .int)) (by decide) rfl ?_
  intro p e s m args below meth c s₁ B hml hv
  obtain ⟨rfl, ⟨hsz, hP, hK, hD0⟩, hXs⟩ := hv
  have hx := B.exec
  have hb := B.bytes
  have hr := B.returns
  have hts := atoms_spec (ws := wsX8_ofStack) B.pre
  have hown : s.vm.findClass RX8 = some m.cls := findClass_of_methodNamed B.named
  have hlocks := B.notSynchronized
  subst hsz
  have hD := hD0.self (sz := s.heap.size)
  generalize hAe : va_A [(mm, .inr (10, [.int 0, .ref pl, .ref ig, .ref sl, .ref kl, .int 0, .int 0, .int 0])), (pl, .inr (1, [.int 0, .ref dz, .int 0])), (sl, .inr (1, [.int 0, .ref dz, .int 0])), (kl, .inr (1, [.int 0, .ref dz, .int 0]))] s.heap.size = A at hD ⊢
  have hA : ∀ q : Nat, s.heap.size ≤ q → A q := fun q h => by rw [← hAe]; exact Or.inr h
  have hS : va_S A s.heap s.heap [] := va_S.rf
  have hP : va_P (dC, dI) vwCl [(mm, .inr (10, [.int 0, .ref pl, .ref ig, .ref sl, .ref kl, .int 0, .int 0, .int 0])), (pl, .inr (1, [.int 0, .ref dz, .int 0])), (sl, .inr (1, [.int 0, .ref dz, .int 0])), (kl, .inr (1, [.int 0, .ref dz, .int 0]))] s.heap := hP
  have hK : va_K (dC, dI) vwCl [] s := hK
  have hl := lv_entry ([.ref mm, .int a0, .int a1]) (n := 3) (Nat.le_of_ble_eq_true rfl)
  rw [lg_entry_eq]
  generalize (lg_sl ([.ref mm, .int a0, .int a1]) ++ List.replicate (3 - (lg_sl ([.ref mm, .int a0, .int a1])).length) Slot.unset).toArray = ls at hl ⊢
  have hl : lv_has ls 3 [(0, .ref mm), (1, .int a0), (2, .int a1)] := hl
  refine lv_aload_n hx hb dX8_ofStack_0 rfl (lv_at hl 0 rfl) ?_
  refine lv_iconst (v := 0) hx hb dX8_ofStack_1 (by decide) ?_
  have hinX8 : ∀ w ∈ u_ws RX8 TX8 8, w ∈ wsX8_ofStack := by decide +kernel
  refine va_put (D := (dC, dI)) (ci := 10) (v := .int 0) (ty := .int) (C := RX8) (T := TX8) (N := 8) hx hb hts hinX8 tyX8 tyX8_ok nmX8 hown hK hP hD hS 0 rfl rfl 0 (by decide) (hts (.fieldLink RX8 26 "BallotLoomModel" "thrown" "I") (by decide +kernel)) (fun _ h9 => h9) rfl (by decide +kernel) rfl rfl (Nat.le_of_ble_eq_true rfl) dX8_ofStack_2 (fun H locs hP hD hS => ?_)
  have hP : va_P (dC, dI) vwCl [(mm, .inr (10, [.int 0, .ref pl, .ref ig, .ref sl, .ref kl, .int 0, .int 0, .int 0])), (pl, .inr (1, [.int 0, .ref dz, .int 0])), (sl, .inr (1, [.int 0, .ref dz, .int 0])), (kl, .inr (1, [.int 0, .ref dz, .int 0]))] H := hP
  have hD : va_D A [(mm, .inr (10, [.int 0, .ref pl, .ref ig, .ref sl, .ref kl, .int 0, .int 0, .int 0])), (pl, .inr (1, [.int 0, .ref dz, .int 0])), (sl, .inr (1, [.int 0, .ref dz, .int 0])), (kl, .inr (1, [.int 0, .ref dz, .int 0]))] := hD
  refine lv_aload_n hx hb dX8_ofStack_5 rfl (lv_at hl 0 rfl) ?_
  refine lv_iload_n hx hb dX8_ofStack_6 rfl (lv_at hl 1 rfl) ?_
  have hPc := hP.sub (ws' := [(mm, .inr (10, [.int 0, .ref pl, .ref ig, .ref sl, .ref kl, .int 0, .int 0, .int 0])), (kl, .inr (1, [.int 0, .ref dz, .int 0]))]) [0, 3] rfl
  have hDc := hD.sub (ws' := [(mm, .inr (10, [.int 0, .ref pl, .ref ig, .ref sl, .ref kl, .int 0, .int 0, .int 0])), (kl, .inr (1, [.int 0, .ref dz, .int 0]))]) [0, 3] (by decide) rfl
  have hKc := hK.sub (tys' := []) [] rfl
  have hFc := va_free (wc := [(mm, .inr (10, [.int 0, .ref pl, .ref ig, .ref sl, .ref kl, .int 0, .int 0, .int 0])), (kl, .inr (1, [.int 0, .ref dz, .int 0]))]) hD hS hA [0, 3] rfl
  refine va_calli (va_runV (As := [.int a0]) (rest := []) ⟨hx, hb, hml, hown, hts⟩ (c_X8_isStack l dC dI mm pl ig sl kl dz a0 _ ) (cwV 1 hts gX8_ofStack_X8_isStack rfl rfl rfl (by decide +kernel) ⟨Nat.le_of_ble_eq_true rfl, Nat.le_of_ble_eq_true rfl⟩) ⟨pe_blind mo_bl, va_recv hKc hPc (ci := 10) (q0 := 0) rfl rfl, fun U hU hW => ⟨rfl, pr_mk hU hW hPc hKc hDc, mo_mk hW hXs⟩⟩ rfl rfl hl.1 rfl (lv_room (Nat.le_of_ble_eq_true rfl)) dX8_ofStack_7 ⟨Nat.le_of_ble_eq_true rfl, Nat.le_of_ble_eq_true rfl⟩) hS (fun q _ h => hFc q h) hFc (fun r_2 u_1 t H1 locs ht hvm hw hB hz1 hk1 hS => ?_)
  obtain ⟨hP1, hK1, hD1⟩ := hB
  rw [ht] at hP1
  obtain ⟨hP, hD⟩ := va_join (wr := [(pl, .inr (1, [.int 0, .ref dz, .int 0])), (sl, .inr (1, [.int 0, .ref dz, .int 0]))]) (w1 := [(mm, .inr (10, [.int 0, .ref pl, .ref ig, .ref sl, .ref kl, .int 0, .int 0, .int 0])), (kl, .inr (1, [.int 0, .ref dz, .int 0]))]) hP hD [0, 3] [1, 2] rfl rfl (by decide) (by decide) hk1 hFc hP1 hD1
  generalize H1 = H at hP hS ⊢
  have hP : va_P (dC, dI) vwCl [(pl, .inr (1, [.int 0, .ref dz, .int 0])), (sl, .inr (1, [.int 0, .ref dz, .int 0])), (mm, .inr (10, [.int 0, .ref pl, .ref ig, .ref sl, .ref kl, .int 0, .int 0, .int 0])), (kl, .inr (1, [.int 0, .ref dz, .int 0]))] H := hP
  have hD : va_D A [(pl, .inr (1, [.int 0, .ref dz, .int 0])), (sl, .inr (1, [.int 0, .ref dz, .int 0])), (mm, .inr (10, [.int 0, .ref pl, .ref ig, .ref sl, .ref kl, .int 0, .int 0, .int 0])), (kl, .inr (1, [.int 0, .ref dz, .int 0]))] := hD
  refine W.widen (k := 0) (n := 0) (Nat.le_refl _) (Nat.le_refl _) ?_
  have hw : r_2 = 0 := hw
  subst hw
  refine lv_if_ne (tgt := 19) hx hb dX8_ofStack_10 (by decide) (fun h9 => absurd h9 (by decide)) (fun _ => ?_)
  refine lv_aload_n hx hb dX8_ofStack_13 rfl (lv_at hl 0 rfl) ?_
  refine lv_iconst (v := 1) hx hb dX8_ofStack_14 (by decide) ?_
  have hPc := hP.sub (ws' := [(mm, .inr (10, [.int 0, .ref pl, .ref ig, .ref sl, .ref kl, .int 0, .int 0, .int 0]))]) [2] rfl
  have hDc := hD.sub (ws' := [(mm, .inr (10, [.int 0, .ref pl, .ref ig, .ref sl, .ref kl, .int 0, .int 0, .int 0]))]) [2] (by decide) rfl
  have hKc := hK.sub (tys' := []) [] rfl
  have hFc := va_free (wc := [(mm, .inr (10, [.int 0, .ref pl, .ref ig, .ref sl, .ref kl, .int 0, .int 0, .int 0]))]) hD hS hA [2] rfl
  refine va_calli (va_runV (As := [.int 1]) (rest := []) ⟨hx, hb, hml, hown, hts⟩ (c_X8_no l dC dI mm pl ig sl kl (1 : Int32) (0 : Int32) _ ) (cwV 1 hts gX8_ofStack_X8_no rfl rfl rfl (by decide +kernel) ⟨Nat.le_of_ble_eq_true rfl, Nat.le_of_ble_eq_true rfl⟩) ⟨pr_blind, va_recv hKc hPc (ci := 10) (q0 := 0) rfl rfl, fun U hU hW => ⟨rfl, pr_mk hU hW hPc hKc hDc⟩⟩ rfl rfl hl.1 rfl (lv_room (Nat.le_of_ble_eq_true rfl)) dX8_ofStack_15 ⟨Nat.le_of_ble_eq_true rfl, Nat.le_of_ble_eq_true rfl⟩) hS (fun q _ h => hFc q h) hFc (fun r_4 u_3 t H1 locs ht hvm hw hB hz1 hk1 hS => ?_)
  obtain ⟨hP1, hK1, hD1⟩ := hB
  rw [ht] at hP1
  obtain ⟨hP, hD⟩ := va_join (wr := [(pl, .inr (1, [.int 0, .ref dz, .int 0])), (sl, .inr (1, [.int 0, .ref dz, .int 0])), (kl, .inr (1, [.int 0, .ref dz, .int 0]))]) (w1 := [(mm, .inr (10, [.int 1, .ref pl, .ref ig, .ref sl, .ref kl, .int 0, .int 0, .int 0]))]) hP hD [2] [0, 1, 3] rfl rfl (by decide) (by decide) hk1 hFc hP1 hD1
  generalize H1 = H at hP hS ⊢
  have hP : va_P (dC, dI) vwCl [(pl, .inr (1, [.int 0, .ref dz, .int 0])), (sl, .inr (1, [.int 0, .ref dz, .int 0])), (kl, .inr (1, [.int 0, .ref dz, .int 0])), (mm, .inr (10, [.int 1, .ref pl, .ref ig, .ref sl, .ref kl, .int 0, .int 0, .int 0]))] H := hP
  have hD : va_D A [(pl, .inr (1, [.int 0, .ref dz, .int 0])), (sl, .inr (1, [.int 0, .ref dz, .int 0])), (kl, .inr (1, [.int 0, .ref dz, .int 0])), (mm, .inr (10, [.int 1, .ref pl, .ref ig, .ref sl, .ref kl, .int 0, .int 0, .int 0]))] := hD
  refine W.widen (k := 0) (n := 0) (Nat.le_refl _) (Nat.le_refl _) ?_
  have hw : r_4 = 0 := hw
  subst hw
  have hP9 := hP.sub (ws' := [(mm, .inr (10, [.int 1, .ref pl, .ref ig, .ref sl, .ref kl, .int 0, .int 0, .int 0]))]) [3] rfl
  have hD9 := hD.sub (ws' := [(mm, .inr (10, [.int 1, .ref pl, .ref ig, .ref sl, .ref kl, .int 0, .int 0, .int 0]))]) [3] (by decide) rfl
  have hK9 := hK.sub (tys' := []) [] rfl
  refine W.widen (k := 0) (n := 0) (Nat.le_of_ble_eq_true rfl) (Nat.le_of_ble_eq_true rfl) ?_
  exact W.iret (v := 0) hx hb hr (fun t ht hW => ⟨⟨0, (), rfl, rfl, po_mk ht hW hP9 hK9 hD9⟩, hS.F ht⟩) hS.2.2 dX8_ofStack_18

set_option maxHeartbeats 4000000 in
set_option maxRecDepth 100000 in
theorem c_X8_firsts (l : Launch) (dC : Nat → ClassId) (dI : Nat → Nat → Nat) (mm : Nat) (pl : Nat) (ig : Nat) (sl : Nat) (kl : Nat) (dz : Nat) (a0 : Int32) (a1 : Int32) (sz : Nat)  : Met l yX8_firsts wsX8_firsts ({ frames := 4, cells := 0, slots := 0, locals := 110 }) (va_Pc [.ref mm, .int a0, .int a1] (fun U => pr_ dC dI [(mm, .inr (10, [.int 0, .ref pl, .ref ig, .ref sl, .ref kl, .int 0, .int 0, .int 0])), (pl, .inr (1, [.int 0, .ref dz, .int 0])), (sl, .inr (1, [.int 0, .ref dz, .int 0])), (kl, .inr (1, [.int 0, .ref dz, .int 0]))] [] sz U ∧ mo_  U)) (va_Qi (fun (r : Int32) (_ : Unit) => r = 0) (fun (_ : Unit) t => po_ dC dI [(mm, .inr (10, [.int 1, .ref pl, .ref ig, .ref sl, .ref kl, .int 0, .int 0, .int 0]))] [] (va_A [(mm, .inr (10, [.int 0, .ref pl, .ref ig, .ref sl, .ref kl, .int 0, .int 0, .int 0])), (pl, .inr (1, [.int 0, .ref dz, .int 0])), (sl, .inr (1, [.int 0, .ref dz, .int 0])), (kl, .inr (1, [.int 0, .ref dz, .int 0]))] sz) t) (va_A [(mm, .inr (10, [.int 0, .ref pl, .ref ig, .ref sl, .ref kl, .int 0, .int 0, .int 0])), (pl, .inr (1, [.int 0, .ref dz, .int 0])), (sl, .inr (1, [.int 0, .ref dz, .int 0])), (kl, .inr (1, [.int 0, .ref dz, .int 0]))] sz)) 0 0 (va_A [(mm, .inr (10, [.int 0, .ref pl, .ref ig, .ref sl, .ref kl, .int 0, .int 0, .int 0])), (pl, .inr (1, [.int 0, .ref dz, .int 0])), (sl, .inr (1, [.int 0, .ref dz, .int 0])), (kl, .inr (1, [.int 0, .ref dz, .int 0]))] sz) := by
  refine Met.ofW (cc := cX8_firsts) (maxL := 3) (ret := (some .int)) (by decide) rfl ?_
  intro p e s m args below meth c s₁ B hml hv
  obtain ⟨rfl, ⟨hsz, hP, hK, hD0⟩, hXs⟩ := hv
  have hx := B.exec
  have hb := B.bytes
  have hr := B.returns
  have hts := atoms_spec (ws := wsX8_firsts) B.pre
  have hown : s.vm.findClass RX8 = some m.cls := findClass_of_methodNamed B.named
  have hlocks := B.notSynchronized
  subst hsz
  have hD := hD0.self (sz := s.heap.size)
  generalize hAe : va_A [(mm, .inr (10, [.int 0, .ref pl, .ref ig, .ref sl, .ref kl, .int 0, .int 0, .int 0])), (pl, .inr (1, [.int 0, .ref dz, .int 0])), (sl, .inr (1, [.int 0, .ref dz, .int 0])), (kl, .inr (1, [.int 0, .ref dz, .int 0]))] s.heap.size = A at hD ⊢
  have hA : ∀ q : Nat, s.heap.size ≤ q → A q := fun q h => by rw [← hAe]; exact Or.inr h
  have hS : va_S A s.heap s.heap [] := va_S.rf
  have hP : va_P (dC, dI) vwCl [(mm, .inr (10, [.int 0, .ref pl, .ref ig, .ref sl, .ref kl, .int 0, .int 0, .int 0])), (pl, .inr (1, [.int 0, .ref dz, .int 0])), (sl, .inr (1, [.int 0, .ref dz, .int 0])), (kl, .inr (1, [.int 0, .ref dz, .int 0]))] s.heap := hP
  have hK : va_K (dC, dI) vwCl [] s := hK
  have hl := lv_entry ([.ref mm, .int a0, .int a1]) (n := 3) (Nat.le_of_ble_eq_true rfl)
  rw [lg_entry_eq]
  generalize (lg_sl ([.ref mm, .int a0, .int a1]) ++ List.replicate (3 - (lg_sl ([.ref mm, .int a0, .int a1])).length) Slot.unset).toArray = ls at hl ⊢
  have hl : lv_has ls 3 [(0, .ref mm), (1, .int a0), (2, .int a1)] := hl
  refine lv_aload_n hx hb dX8_firsts_0 rfl (lv_at hl 0 rfl) ?_
  refine lv_iconst (v := 0) hx hb dX8_firsts_1 (by decide) ?_
  have hinX8 : ∀ w ∈ u_ws RX8 TX8 8, w ∈ wsX8_firsts := by decide +kernel
  refine va_put (D := (dC, dI)) (ci := 10) (v := .int 0) (ty := .int) (C := RX8) (T := TX8) (N := 8) hx hb hts hinX8 tyX8 tyX8_ok nmX8 hown hK hP hD hS 0 rfl rfl 0 (by decide) (hts (.fieldLink RX8 26 "BallotLoomModel" "thrown" "I") (by decide +kernel)) (fun _ h9 => h9) rfl (by decide +kernel) rfl rfl (Nat.le_of_ble_eq_true rfl) dX8_firsts_2 (fun H locs hP hD hS => ?_)
  have hP : va_P (dC, dI) vwCl [(mm, .inr (10, [.int 0, .ref pl, .ref ig, .ref sl, .ref kl, .int 0, .int 0, .int 0])), (pl, .inr (1, [.int 0, .ref dz, .int 0])), (sl, .inr (1, [.int 0, .ref dz, .int 0])), (kl, .inr (1, [.int 0, .ref dz, .int 0]))] H := hP
  have hD : va_D A [(mm, .inr (10, [.int 0, .ref pl, .ref ig, .ref sl, .ref kl, .int 0, .int 0, .int 0])), (pl, .inr (1, [.int 0, .ref dz, .int 0])), (sl, .inr (1, [.int 0, .ref dz, .int 0])), (kl, .inr (1, [.int 0, .ref dz, .int 0]))] := hD
  refine lv_aload_n hx hb dX8_firsts_5 rfl (lv_at hl 0 rfl) ?_
  refine lv_iload_n hx hb dX8_firsts_6 rfl (lv_at hl 1 rfl) ?_
  have hPc := hP.sub (ws' := [(mm, .inr (10, [.int 0, .ref pl, .ref ig, .ref sl, .ref kl, .int 0, .int 0, .int 0])), (sl, .inr (1, [.int 0, .ref dz, .int 0]))]) [0, 2] rfl
  have hDc := hD.sub (ws' := [(mm, .inr (10, [.int 0, .ref pl, .ref ig, .ref sl, .ref kl, .int 0, .int 0, .int 0])), (sl, .inr (1, [.int 0, .ref dz, .int 0]))]) [0, 2] (by decide) rfl
  have hKc := hK.sub (tys' := []) [] rfl
  have hFc := va_free (wc := [(mm, .inr (10, [.int 0, .ref pl, .ref ig, .ref sl, .ref kl, .int 0, .int 0, .int 0])), (sl, .inr (1, [.int 0, .ref dz, .int 0]))]) hD hS hA [0, 2] rfl
  refine va_calli (va_runV (As := [.int a0]) (rest := []) ⟨hx, hb, hml, hown, hts⟩ (c_X8_isDistrict l dC dI mm pl ig sl kl dz a0 _ ) (cwV 1 hts gX8_firsts_X8_isDistrict rfl rfl rfl (by decide +kernel) ⟨Nat.le_of_ble_eq_true rfl, Nat.le_of_ble_eq_true rfl⟩) ⟨pe_blind mo_bl, va_recv hKc hPc (ci := 10) (q0 := 0) rfl rfl, fun U hU hW => ⟨rfl, pr_mk hU hW hPc hKc hDc, mo_mk hW hXs⟩⟩ rfl rfl hl.1 rfl (lv_room (Nat.le_of_ble_eq_true rfl)) dX8_firsts_7 ⟨Nat.le_of_ble_eq_true rfl, Nat.le_of_ble_eq_true rfl⟩) hS (fun q _ h => hFc q h) hFc (fun r_2 u_1 t H1 locs ht hvm hw hB hz1 hk1 hS => ?_)
  obtain ⟨hP1, hK1, hD1⟩ := hB
  rw [ht] at hP1
  obtain ⟨hP, hD⟩ := va_join (wr := [(pl, .inr (1, [.int 0, .ref dz, .int 0])), (kl, .inr (1, [.int 0, .ref dz, .int 0]))]) (w1 := [(mm, .inr (10, [.int 0, .ref pl, .ref ig, .ref sl, .ref kl, .int 0, .int 0, .int 0])), (sl, .inr (1, [.int 0, .ref dz, .int 0]))]) hP hD [0, 2] [1, 3] rfl rfl (by decide) (by decide) hk1 hFc hP1 hD1
  generalize H1 = H at hP hS ⊢
  have hP : va_P (dC, dI) vwCl [(pl, .inr (1, [.int 0, .ref dz, .int 0])), (kl, .inr (1, [.int 0, .ref dz, .int 0])), (mm, .inr (10, [.int 0, .ref pl, .ref ig, .ref sl, .ref kl, .int 0, .int 0, .int 0])), (sl, .inr (1, [.int 0, .ref dz, .int 0]))] H := hP
  have hD : va_D A [(pl, .inr (1, [.int 0, .ref dz, .int 0])), (kl, .inr (1, [.int 0, .ref dz, .int 0])), (mm, .inr (10, [.int 0, .ref pl, .ref ig, .ref sl, .ref kl, .int 0, .int 0, .int 0])), (sl, .inr (1, [.int 0, .ref dz, .int 0]))] := hD
  refine W.widen (k := 0) (n := 0) (Nat.le_refl _) (Nat.le_refl _) ?_
  have hw : r_2 = 0 := hw
  subst hw
  refine lv_if_eq (tgt := 21) hx hb dX8_firsts_10 (by decide) (fun _ => ?_) (fun h9 => absurd h9 (by decide))
  refine lv_aload_n hx hb dX8_firsts_21 rfl (lv_at hl 0 rfl) ?_
  refine lv_iconst (v := 1) hx hb dX8_firsts_22 (by decide) ?_
  have hPc := hP.sub (ws' := [(mm, .inr (10, [.int 0, .ref pl, .ref ig, .ref sl, .ref kl, .int 0, .int 0, .int 0]))]) [2] rfl
  have hDc := hD.sub (ws' := [(mm, .inr (10, [.int 0, .ref pl, .ref ig, .ref sl, .ref kl, .int 0, .int 0, .int 0]))]) [2] (by decide) rfl
  have hKc := hK.sub (tys' := []) [] rfl
  have hFc := va_free (wc := [(mm, .inr (10, [.int 0, .ref pl, .ref ig, .ref sl, .ref kl, .int 0, .int 0, .int 0]))]) hD hS hA [2] rfl
  refine va_calli (va_runV (As := [.int 1]) (rest := []) ⟨hx, hb, hml, hown, hts⟩ (c_X8_no l dC dI mm pl ig sl kl (1 : Int32) (0 : Int32) _ ) (cwV 1 hts gX8_firsts_X8_no rfl rfl rfl (by decide +kernel) ⟨Nat.le_of_ble_eq_true rfl, Nat.le_of_ble_eq_true rfl⟩) ⟨pr_blind, va_recv hKc hPc (ci := 10) (q0 := 0) rfl rfl, fun U hU hW => ⟨rfl, pr_mk hU hW hPc hKc hDc⟩⟩ rfl rfl hl.1 rfl (lv_room (Nat.le_of_ble_eq_true rfl)) dX8_firsts_23 ⟨Nat.le_of_ble_eq_true rfl, Nat.le_of_ble_eq_true rfl⟩) hS (fun q _ h => hFc q h) hFc (fun r_4 u_3 t H1 locs ht hvm hw hB hz1 hk1 hS => ?_)
  obtain ⟨hP1, hK1, hD1⟩ := hB
  rw [ht] at hP1
  obtain ⟨hP, hD⟩ := va_join (wr := [(pl, .inr (1, [.int 0, .ref dz, .int 0])), (kl, .inr (1, [.int 0, .ref dz, .int 0])), (sl, .inr (1, [.int 0, .ref dz, .int 0]))]) (w1 := [(mm, .inr (10, [.int 1, .ref pl, .ref ig, .ref sl, .ref kl, .int 0, .int 0, .int 0]))]) hP hD [2] [0, 1, 3] rfl rfl (by decide) (by decide) hk1 hFc hP1 hD1
  generalize H1 = H at hP hS ⊢
  have hP : va_P (dC, dI) vwCl [(pl, .inr (1, [.int 0, .ref dz, .int 0])), (kl, .inr (1, [.int 0, .ref dz, .int 0])), (sl, .inr (1, [.int 0, .ref dz, .int 0])), (mm, .inr (10, [.int 1, .ref pl, .ref ig, .ref sl, .ref kl, .int 0, .int 0, .int 0]))] H := hP
  have hD : va_D A [(pl, .inr (1, [.int 0, .ref dz, .int 0])), (kl, .inr (1, [.int 0, .ref dz, .int 0])), (sl, .inr (1, [.int 0, .ref dz, .int 0])), (mm, .inr (10, [.int 1, .ref pl, .ref ig, .ref sl, .ref kl, .int 0, .int 0, .int 0]))] := hD
  refine W.widen (k := 0) (n := 0) (Nat.le_refl _) (Nat.le_refl _) ?_
  have hw : r_4 = 0 := hw
  subst hw
  have hP9 := hP.sub (ws' := [(mm, .inr (10, [.int 1, .ref pl, .ref ig, .ref sl, .ref kl, .int 0, .int 0, .int 0]))]) [3] rfl
  have hD9 := hD.sub (ws' := [(mm, .inr (10, [.int 1, .ref pl, .ref ig, .ref sl, .ref kl, .int 0, .int 0, .int 0]))]) [3] (by decide) rfl
  have hK9 := hK.sub (tys' := []) [] rfl
  refine W.widen (k := 0) (n := 0) (Nat.le_of_ble_eq_true rfl) (Nat.le_of_ble_eq_true rfl) ?_
  exact W.iret (v := 0) hx hb hr (fun t ht hW => ⟨⟨0, (), rfl, rfl, po_mk ht hW hP9 hK9 hD9⟩, hS.F ht⟩) hS.2.2 dX8_firsts_26

set_option maxHeartbeats 4000000 in
set_option maxRecDepth 100000 in
theorem c_X8_points (l : Launch) (dC : Nat → ClassId) (dI : Nat → Nat → Nat) (mm : Nat) (pl : Nat) (ig : Nat) (sl : Nat) (kl : Nat) (dz : Nat) (a0 : Int32) (a1 : Int32) (sz : Nat)  : Met l yX8_points wsX8_points ({ frames := 4, cells := 0, slots := 0, locals := 110 }) (va_Pc [.ref mm, .int a0, .int a1] (fun U => pr_ dC dI [(mm, .inr (10, [.int 0, .ref pl, .ref ig, .ref sl, .ref kl, .int 0, .int 0, .int 0])), (pl, .inr (1, [.int 0, .ref dz, .int 0])), (sl, .inr (1, [.int 0, .ref dz, .int 0])), (kl, .inr (1, [.int 0, .ref dz, .int 0]))] [] sz U ∧ mo_  U)) (va_Qd (fun (r : UInt64) (_ : Unit) => r = (FP.i2d 0)) (fun (_ : Unit) t => po_ dC dI [(mm, .inr (10, [.int 1, .ref pl, .ref ig, .ref sl, .ref kl, .int 0, .int 0, .int 0]))] [] (va_A [(mm, .inr (10, [.int 0, .ref pl, .ref ig, .ref sl, .ref kl, .int 0, .int 0, .int 0])), (pl, .inr (1, [.int 0, .ref dz, .int 0])), (sl, .inr (1, [.int 0, .ref dz, .int 0])), (kl, .inr (1, [.int 0, .ref dz, .int 0]))] sz) t) (va_A [(mm, .inr (10, [.int 0, .ref pl, .ref ig, .ref sl, .ref kl, .int 0, .int 0, .int 0])), (pl, .inr (1, [.int 0, .ref dz, .int 0])), (sl, .inr (1, [.int 0, .ref dz, .int 0])), (kl, .inr (1, [.int 0, .ref dz, .int 0]))] sz)) 0 0 (va_A [(mm, .inr (10, [.int 0, .ref pl, .ref ig, .ref sl, .ref kl, .int 0, .int 0, .int 0])), (pl, .inr (1, [.int 0, .ref dz, .int 0])), (sl, .inr (1, [.int 0, .ref dz, .int 0])), (kl, .inr (1, [.int 0, .ref dz, .int 0]))] sz) := by
  refine Met.ofW (cc := cX8_points) (maxL := 3) (ret := (some .double)) (by decide) rfl ?_
  intro p e s m args below meth c s₁ B hml hv
  obtain ⟨rfl, ⟨hsz, hP, hK, hD0⟩, hXs⟩ := hv
  have hx := B.exec
  have hb := B.bytes
  have hr := B.returns
  have hts := atoms_spec (ws := wsX8_points) B.pre
  have hown : s.vm.findClass RX8 = some m.cls := findClass_of_methodNamed B.named
  have hlocks := B.notSynchronized
  subst hsz
  have hD := hD0.self (sz := s.heap.size)
  generalize hAe : va_A [(mm, .inr (10, [.int 0, .ref pl, .ref ig, .ref sl, .ref kl, .int 0, .int 0, .int 0])), (pl, .inr (1, [.int 0, .ref dz, .int 0])), (sl, .inr (1, [.int 0, .ref dz, .int 0])), (kl, .inr (1, [.int 0, .ref dz, .int 0]))] s.heap.size = A at hD ⊢
  have hA : ∀ q : Nat, s.heap.size ≤ q → A q := fun q h => by rw [← hAe]; exact Or.inr h
  have hS : va_S A s.heap s.heap [] := va_S.rf
  have hP : va_P (dC, dI) vwCl [(mm, .inr (10, [.int 0, .ref pl, .ref ig, .ref sl, .ref kl, .int 0, .int 0, .int 0])), (pl, .inr (1, [.int 0, .ref dz, .int 0])), (sl, .inr (1, [.int 0, .ref dz, .int 0])), (kl, .inr (1, [.int 0, .ref dz, .int 0]))] s.heap := hP
  have hK : va_K (dC, dI) vwCl [] s := hK
  have hl := lv_entry ([.ref mm, .int a0, .int a1]) (n := 3) (Nat.le_of_ble_eq_true rfl)
  rw [lg_entry_eq]
  generalize (lg_sl ([.ref mm, .int a0, .int a1]) ++ List.replicate (3 - (lg_sl ([.ref mm, .int a0, .int a1])).length) Slot.unset).toArray = ls at hl ⊢
  have hl : lv_has ls 3 [(0, .ref mm), (1, .int a0), (2, .int a1)] := hl
  refine lv_aload_n hx hb dX8_points_0 rfl (lv_at hl 0 rfl) ?_
  refine lv_iconst (v := 0) hx hb dX8_points_1 (by decide) ?_
  have hinX8 : ∀ w ∈ u_ws RX8 TX8 8, w ∈ wsX8_points := by decide +kernel
  refine va_put (D := (dC, dI)) (ci := 10) (v := .int 0) (ty := .int) (C := RX8) (T := TX8) (N := 8) hx hb hts hinX8 tyX8 tyX8_ok nmX8 hown hK hP hD hS 0 rfl rfl 0 (by decide) (hts (.fieldLink RX8 26 "BallotLoomModel" "thrown" "I") (by decide +kernel)) (fun _ h9 => h9) rfl (by decide +kernel) rfl rfl (Nat.le_of_ble_eq_true rfl) dX8_points_2 (fun H locs hP hD hS => ?_)
  have hP : va_P (dC, dI) vwCl [(mm, .inr (10, [.int 0, .ref pl, .ref ig, .ref sl, .ref kl, .int 0, .int 0, .int 0])), (pl, .inr (1, [.int 0, .ref dz, .int 0])), (sl, .inr (1, [.int 0, .ref dz, .int 0])), (kl, .inr (1, [.int 0, .ref dz, .int 0]))] H := hP
  have hD : va_D A [(mm, .inr (10, [.int 0, .ref pl, .ref ig, .ref sl, .ref kl, .int 0, .int 0, .int 0])), (pl, .inr (1, [.int 0, .ref dz, .int 0])), (sl, .inr (1, [.int 0, .ref dz, .int 0])), (kl, .inr (1, [.int 0, .ref dz, .int 0]))] := hD
  refine lv_aload_n hx hb dX8_points_5 rfl (lv_at hl 0 rfl) ?_
  refine lv_iload_n hx hb dX8_points_6 rfl (lv_at hl 1 rfl) ?_
  have hPc := hP.sub (ws' := [(mm, .inr (10, [.int 0, .ref pl, .ref ig, .ref sl, .ref kl, .int 0, .int 0, .int 0])), (sl, .inr (1, [.int 0, .ref dz, .int 0]))]) [0, 2] rfl
  have hDc := hD.sub (ws' := [(mm, .inr (10, [.int 0, .ref pl, .ref ig, .ref sl, .ref kl, .int 0, .int 0, .int 0])), (sl, .inr (1, [.int 0, .ref dz, .int 0]))]) [0, 2] (by decide) rfl
  have hKc := hK.sub (tys' := []) [] rfl
  have hFc := va_free (wc := [(mm, .inr (10, [.int 0, .ref pl, .ref ig, .ref sl, .ref kl, .int 0, .int 0, .int 0])), (sl, .inr (1, [.int 0, .ref dz, .int 0]))]) hD hS hA [0, 2] rfl
  refine va_calli (va_runV (As := [.int a0]) (rest := []) ⟨hx, hb, hml, hown, hts⟩ (c_X8_isDistrict l dC dI mm pl ig sl kl dz a0 _ ) (cwV 1 hts gX8_points_X8_isDistrict rfl rfl rfl (by decide +kernel) ⟨Nat.le_of_ble_eq_true rfl, Nat.le_of_ble_eq_true rfl⟩) ⟨pe_blind mo_bl, va_recv hKc hPc (ci := 10) (q0 := 0) rfl rfl, fun U hU hW => ⟨rfl, pr_mk hU hW hPc hKc hDc, mo_mk hW hXs⟩⟩ rfl rfl hl.1 rfl (lv_room (Nat.le_of_ble_eq_true rfl)) dX8_points_7 ⟨Nat.le_of_ble_eq_true rfl, Nat.le_of_ble_eq_true rfl⟩) hS (fun q _ h => hFc q h) hFc (fun r_2 u_1 t H1 locs ht hvm hw hB hz1 hk1 hS => ?_)
  obtain ⟨hP1, hK1, hD1⟩ := hB
  rw [ht] at hP1
  obtain ⟨hP, hD⟩ := va_join (wr := [(pl, .inr (1, [.int 0, .ref dz, .int 0])), (kl, .inr (1, [.int 0, .ref dz, .int 0]))]) (w1 := [(mm, .inr (10, [.int 0, .ref pl, .ref ig, .ref sl, .ref kl, .int 0, .int 0, .int 0])), (sl, .inr (1, [.int 0, .ref dz, .int 0]))]) hP hD [0, 2] [1, 3] rfl rfl (by decide) (by decide) hk1 hFc hP1 hD1
  generalize H1 = H at hP hS ⊢
  have hP : va_P (dC, dI) vwCl [(pl, .inr (1, [.int 0, .ref dz, .int 0])), (kl, .inr (1, [.int 0, .ref dz, .int 0])), (mm, .inr (10, [.int 0, .ref pl, .ref ig, .ref sl, .ref kl, .int 0, .int 0, .int 0])), (sl, .inr (1, [.int 0, .ref dz, .int 0]))] H := hP
  have hD : va_D A [(pl, .inr (1, [.int 0, .ref dz, .int 0])), (kl, .inr (1, [.int 0, .ref dz, .int 0])), (mm, .inr (10, [.int 0, .ref pl, .ref ig, .ref sl, .ref kl, .int 0, .int 0, .int 0])), (sl, .inr (1, [.int 0, .ref dz, .int 0]))] := hD
  refine W.widen (k := 0) (n := 0) (Nat.le_refl _) (Nat.le_refl _) ?_
  have hw : r_2 = 0 := hw
  subst hw
  refine lv_if_eq (tgt := 21) hx hb dX8_points_10 (by decide) (fun _ => ?_) (fun h9 => absurd h9 (by decide))
  refine lv_aload_n hx hb dX8_points_21 rfl (lv_at hl 0 rfl) ?_
  refine lv_iconst (v := 1) hx hb dX8_points_22 (by decide) ?_
  have hPc := hP.sub (ws' := [(mm, .inr (10, [.int 0, .ref pl, .ref ig, .ref sl, .ref kl, .int 0, .int 0, .int 0]))]) [2] rfl
  have hDc := hD.sub (ws' := [(mm, .inr (10, [.int 0, .ref pl, .ref ig, .ref sl, .ref kl, .int 0, .int 0, .int 0]))]) [2] (by decide) rfl
  have hKc := hK.sub (tys' := []) [] rfl
  have hFc := va_free (wc := [(mm, .inr (10, [.int 0, .ref pl, .ref ig, .ref sl, .ref kl, .int 0, .int 0, .int 0]))]) hD hS hA [2] rfl
  refine va_calli (va_runV (As := [.int 1]) (rest := []) ⟨hx, hb, hml, hown, hts⟩ (c_X8_no l dC dI mm pl ig sl kl (1 : Int32) (0 : Int32) _ ) (cwV 1 hts gX8_points_X8_no rfl rfl rfl (by decide +kernel) ⟨Nat.le_of_ble_eq_true rfl, Nat.le_of_ble_eq_true rfl⟩) ⟨pr_blind, va_recv hKc hPc (ci := 10) (q0 := 0) rfl rfl, fun U hU hW => ⟨rfl, pr_mk hU hW hPc hKc hDc⟩⟩ rfl rfl hl.1 rfl (lv_room (Nat.le_of_ble_eq_true rfl)) dX8_points_23 ⟨Nat.le_of_ble_eq_true rfl, Nat.le_of_ble_eq_true rfl⟩) hS (fun q _ h => hFc q h) hFc (fun r_4 u_3 t H1 locs ht hvm hw hB hz1 hk1 hS => ?_)
  obtain ⟨hP1, hK1, hD1⟩ := hB
  rw [ht] at hP1
  obtain ⟨hP, hD⟩ := va_join (wr := [(pl, .inr (1, [.int 0, .ref dz, .int 0])), (kl, .inr (1, [.int 0, .ref dz, .int 0])), (sl, .inr (1, [.int 0, .ref dz, .int 0]))]) (w1 := [(mm, .inr (10, [.int 1, .ref pl, .ref ig, .ref sl, .ref kl, .int 0, .int 0, .int 0]))]) hP hD [2] [0, 1, 3] rfl rfl (by decide) (by decide) hk1 hFc hP1 hD1
  generalize H1 = H at hP hS ⊢
  have hP : va_P (dC, dI) vwCl [(pl, .inr (1, [.int 0, .ref dz, .int 0])), (kl, .inr (1, [.int 0, .ref dz, .int 0])), (sl, .inr (1, [.int 0, .ref dz, .int 0])), (mm, .inr (10, [.int 1, .ref pl, .ref ig, .ref sl, .ref kl, .int 0, .int 0, .int 0]))] H := hP
  have hD : va_D A [(pl, .inr (1, [.int 0, .ref dz, .int 0])), (kl, .inr (1, [.int 0, .ref dz, .int 0])), (sl, .inr (1, [.int 0, .ref dz, .int 0])), (mm, .inr (10, [.int 1, .ref pl, .ref ig, .ref sl, .ref kl, .int 0, .int 0, .int 0]))] := hD
  refine W.widen (k := 0) (n := 0) (Nat.le_refl _) (Nat.le_refl _) ?_
  have hw : r_4 = 0 := hw
  subst hw
  refine lv_i2d hx hb dX8_points_26 ?_
  have hP9 := hP.sub (ws' := [(mm, .inr (10, [.int 1, .ref pl, .ref ig, .ref sl, .ref kl, .int 0, .int 0, .int 0]))]) [3] rfl
  have hD9 := hD.sub (ws' := [(mm, .inr (10, [.int 1, .ref pl, .ref ig, .ref sl, .ref kl, .int 0, .int 0, .int 0]))]) [3] (by decide) rfl
  have hK9 := hK.sub (tys' := []) [] rfl
  refine W.widen (k := 0) (n := 0) (Nat.le_of_ble_eq_true rfl) (Nat.le_of_ble_eq_true rfl) ?_
  exact W.dret (v := (FP.i2d 0)) hx hb hr (fun t ht hW => ⟨⟨(FP.i2d 0), (), rfl, rfl, po_mk ht hW hP9 hK9 hD9⟩, hS.F ht⟩) hS.2.2 dX8_points_27

set_option maxHeartbeats 4000000 in
set_option maxRecDepth 100000 in
theorem c_X8_winner (l : Launch) (dC : Nat → ClassId) (dI : Nat → Nat → Nat) (mm : Nat) (pl : Nat) (ig : Nat) (sl : Nat) (kl : Nat) (dz : Nat) (a0 : Int32) (a1 : Int32) (sz : Nat)  : Met l yX8_winner wsX8_winner ({ frames := 4, cells := 0, slots := 0, locals := 110 }) (va_Pc [.ref mm, .int a0, .int a1] (fun U => pr_ dC dI [(mm, .inr (10, [.int 0, .ref pl, .ref ig, .ref sl, .ref kl, .int 0, .int 0, .int 0])), (pl, .inr (1, [.int 0, .ref dz, .int 0])), (sl, .inr (1, [.int 0, .ref dz, .int 0])), (kl, .inr (1, [.int 0, .ref dz, .int 0]))] [] sz U ∧ mo_  U)) (va_Qi (fun (r : Int32) (_ : Unit) => r = 0) (fun (_ : Unit) t => po_ dC dI [(mm, .inr (10, [.int 1, .ref pl, .ref ig, .ref sl, .ref kl, .int 0, .int 0, .int 0]))] [] (va_A [(mm, .inr (10, [.int 0, .ref pl, .ref ig, .ref sl, .ref kl, .int 0, .int 0, .int 0])), (pl, .inr (1, [.int 0, .ref dz, .int 0])), (sl, .inr (1, [.int 0, .ref dz, .int 0])), (kl, .inr (1, [.int 0, .ref dz, .int 0]))] sz) t) (va_A [(mm, .inr (10, [.int 0, .ref pl, .ref ig, .ref sl, .ref kl, .int 0, .int 0, .int 0])), (pl, .inr (1, [.int 0, .ref dz, .int 0])), (sl, .inr (1, [.int 0, .ref dz, .int 0])), (kl, .inr (1, [.int 0, .ref dz, .int 0]))] sz)) 0 0 (va_A [(mm, .inr (10, [.int 0, .ref pl, .ref ig, .ref sl, .ref kl, .int 0, .int 0, .int 0])), (pl, .inr (1, [.int 0, .ref dz, .int 0])), (sl, .inr (1, [.int 0, .ref dz, .int 0])), (kl, .inr (1, [.int 0, .ref dz, .int 0]))] sz) := by
  refine Met.ofW (cc := cX8_winner) (maxL := 3) (ret := (some .int)) (by decide) rfl ?_
  intro p e s m args below meth c s₁ B hml hv
  obtain ⟨rfl, ⟨hsz, hP, hK, hD0⟩, hXs⟩ := hv
  have hx := B.exec
  have hb := B.bytes
  have hr := B.returns
  have hts := atoms_spec (ws := wsX8_winner) B.pre
  have hown : s.vm.findClass RX8 = some m.cls := findClass_of_methodNamed B.named
  have hlocks := B.notSynchronized
  subst hsz
  have hD := hD0.self (sz := s.heap.size)
  generalize hAe : va_A [(mm, .inr (10, [.int 0, .ref pl, .ref ig, .ref sl, .ref kl, .int 0, .int 0, .int 0])), (pl, .inr (1, [.int 0, .ref dz, .int 0])), (sl, .inr (1, [.int 0, .ref dz, .int 0])), (kl, .inr (1, [.int 0, .ref dz, .int 0]))] s.heap.size = A at hD ⊢
  have hA : ∀ q : Nat, s.heap.size ≤ q → A q := fun q h => by rw [← hAe]; exact Or.inr h
  have hS : va_S A s.heap s.heap [] := va_S.rf
  have hP : va_P (dC, dI) vwCl [(mm, .inr (10, [.int 0, .ref pl, .ref ig, .ref sl, .ref kl, .int 0, .int 0, .int 0])), (pl, .inr (1, [.int 0, .ref dz, .int 0])), (sl, .inr (1, [.int 0, .ref dz, .int 0])), (kl, .inr (1, [.int 0, .ref dz, .int 0]))] s.heap := hP
  have hK : va_K (dC, dI) vwCl [] s := hK
  have hl := lv_entry ([.ref mm, .int a0, .int a1]) (n := 3) (Nat.le_of_ble_eq_true rfl)
  rw [lg_entry_eq]
  generalize (lg_sl ([.ref mm, .int a0, .int a1]) ++ List.replicate (3 - (lg_sl ([.ref mm, .int a0, .int a1])).length) Slot.unset).toArray = ls at hl ⊢
  have hl : lv_has ls 3 [(0, .ref mm), (1, .int a0), (2, .int a1)] := hl
  refine lv_aload_n hx hb dX8_winner_0 rfl (lv_at hl 0 rfl) ?_
  refine lv_iconst (v := 0) hx hb dX8_winner_1 (by decide) ?_
  have hinX8 : ∀ w ∈ u_ws RX8 TX8 8, w ∈ wsX8_winner := by decide +kernel
  refine va_put (D := (dC, dI)) (ci := 10) (v := .int 0) (ty := .int) (C := RX8) (T := TX8) (N := 8) hx hb hts hinX8 tyX8 tyX8_ok nmX8 hown hK hP hD hS 0 rfl rfl 0 (by decide) (hts (.fieldLink RX8 26 "BallotLoomModel" "thrown" "I") (by decide +kernel)) (fun _ h9 => h9) rfl (by decide +kernel) rfl rfl (Nat.le_of_ble_eq_true rfl) dX8_winner_2 (fun H locs hP hD hS => ?_)
  have hP : va_P (dC, dI) vwCl [(mm, .inr (10, [.int 0, .ref pl, .ref ig, .ref sl, .ref kl, .int 0, .int 0, .int 0])), (pl, .inr (1, [.int 0, .ref dz, .int 0])), (sl, .inr (1, [.int 0, .ref dz, .int 0])), (kl, .inr (1, [.int 0, .ref dz, .int 0]))] H := hP
  have hD : va_D A [(mm, .inr (10, [.int 0, .ref pl, .ref ig, .ref sl, .ref kl, .int 0, .int 0, .int 0])), (pl, .inr (1, [.int 0, .ref dz, .int 0])), (sl, .inr (1, [.int 0, .ref dz, .int 0])), (kl, .inr (1, [.int 0, .ref dz, .int 0]))] := hD
  refine lv_aload_n hx hb dX8_winner_5 rfl (lv_at hl 0 rfl) ?_
  refine lv_iload_n hx hb dX8_winner_6 rfl (lv_at hl 1 rfl) ?_
  have hPc := hP.sub (ws' := [(mm, .inr (10, [.int 0, .ref pl, .ref ig, .ref sl, .ref kl, .int 0, .int 0, .int 0])), (sl, .inr (1, [.int 0, .ref dz, .int 0]))]) [0, 2] rfl
  have hDc := hD.sub (ws' := [(mm, .inr (10, [.int 0, .ref pl, .ref ig, .ref sl, .ref kl, .int 0, .int 0, .int 0])), (sl, .inr (1, [.int 0, .ref dz, .int 0]))]) [0, 2] (by decide) rfl
  have hKc := hK.sub (tys' := []) [] rfl
  have hFc := va_free (wc := [(mm, .inr (10, [.int 0, .ref pl, .ref ig, .ref sl, .ref kl, .int 0, .int 0, .int 0])), (sl, .inr (1, [.int 0, .ref dz, .int 0]))]) hD hS hA [0, 2] rfl
  refine va_calli (va_runV (As := [.int a0]) (rest := []) ⟨hx, hb, hml, hown, hts⟩ (c_X8_isDistrict l dC dI mm pl ig sl kl dz a0 _ ) (cwV 1 hts gX8_winner_X8_isDistrict rfl rfl rfl (by decide +kernel) ⟨Nat.le_of_ble_eq_true rfl, Nat.le_of_ble_eq_true rfl⟩) ⟨pe_blind mo_bl, va_recv hKc hPc (ci := 10) (q0 := 0) rfl rfl, fun U hU hW => ⟨rfl, pr_mk hU hW hPc hKc hDc, mo_mk hW hXs⟩⟩ rfl rfl hl.1 rfl (lv_room (Nat.le_of_ble_eq_true rfl)) dX8_winner_7 ⟨Nat.le_of_ble_eq_true rfl, Nat.le_of_ble_eq_true rfl⟩) hS (fun q _ h => hFc q h) hFc (fun r_2 u_1 t H1 locs ht hvm hw hB hz1 hk1 hS => ?_)
  obtain ⟨hP1, hK1, hD1⟩ := hB
  rw [ht] at hP1
  obtain ⟨hP, hD⟩ := va_join (wr := [(pl, .inr (1, [.int 0, .ref dz, .int 0])), (kl, .inr (1, [.int 0, .ref dz, .int 0]))]) (w1 := [(mm, .inr (10, [.int 0, .ref pl, .ref ig, .ref sl, .ref kl, .int 0, .int 0, .int 0])), (sl, .inr (1, [.int 0, .ref dz, .int 0]))]) hP hD [0, 2] [1, 3] rfl rfl (by decide) (by decide) hk1 hFc hP1 hD1
  generalize H1 = H at hP hS ⊢
  have hP : va_P (dC, dI) vwCl [(pl, .inr (1, [.int 0, .ref dz, .int 0])), (kl, .inr (1, [.int 0, .ref dz, .int 0])), (mm, .inr (10, [.int 0, .ref pl, .ref ig, .ref sl, .ref kl, .int 0, .int 0, .int 0])), (sl, .inr (1, [.int 0, .ref dz, .int 0]))] H := hP
  have hD : va_D A [(pl, .inr (1, [.int 0, .ref dz, .int 0])), (kl, .inr (1, [.int 0, .ref dz, .int 0])), (mm, .inr (10, [.int 0, .ref pl, .ref ig, .ref sl, .ref kl, .int 0, .int 0, .int 0])), (sl, .inr (1, [.int 0, .ref dz, .int 0]))] := hD
  refine W.widen (k := 0) (n := 0) (Nat.le_refl _) (Nat.le_refl _) ?_
  have hw : r_2 = 0 := hw
  subst hw
  refine lv_if_ne (tgt := 19) hx hb dX8_winner_10 (by decide) (fun h9 => absurd h9 (by decide)) (fun _ => ?_)
  refine lv_aload_n hx hb dX8_winner_13 rfl (lv_at hl 0 rfl) ?_
  refine lv_iconst (v := 1) hx hb dX8_winner_14 (by decide) ?_
  have hPc := hP.sub (ws' := [(mm, .inr (10, [.int 0, .ref pl, .ref ig, .ref sl, .ref kl, .int 0, .int 0, .int 0]))]) [2] rfl
  have hDc := hD.sub (ws' := [(mm, .inr (10, [.int 0, .ref pl, .ref ig, .ref sl, .ref kl, .int 0, .int 0, .int 0]))]) [2] (by decide) rfl
  have hKc := hK.sub (tys' := []) [] rfl
  have hFc := va_free (wc := [(mm, .inr (10, [.int 0, .ref pl, .ref ig, .ref sl, .ref kl, .int 0, .int 0, .int 0]))]) hD hS hA [2] rfl
  refine va_calli (va_runV (As := [.int 1]) (rest := []) ⟨hx, hb, hml, hown, hts⟩ (c_X8_no l dC dI mm pl ig sl kl (1 : Int32) (0 : Int32) _ ) (cwV 1 hts gX8_winner_X8_no rfl rfl rfl (by decide +kernel) ⟨Nat.le_of_ble_eq_true rfl, Nat.le_of_ble_eq_true rfl⟩) ⟨pr_blind, va_recv hKc hPc (ci := 10) (q0 := 0) rfl rfl, fun U hU hW => ⟨rfl, pr_mk hU hW hPc hKc hDc⟩⟩ rfl rfl hl.1 rfl (lv_room (Nat.le_of_ble_eq_true rfl)) dX8_winner_15 ⟨Nat.le_of_ble_eq_true rfl, Nat.le_of_ble_eq_true rfl⟩) hS (fun q _ h => hFc q h) hFc (fun r_4 u_3 t H1 locs ht hvm hw hB hz1 hk1 hS => ?_)
  obtain ⟨hP1, hK1, hD1⟩ := hB
  rw [ht] at hP1
  obtain ⟨hP, hD⟩ := va_join (wr := [(pl, .inr (1, [.int 0, .ref dz, .int 0])), (kl, .inr (1, [.int 0, .ref dz, .int 0])), (sl, .inr (1, [.int 0, .ref dz, .int 0]))]) (w1 := [(mm, .inr (10, [.int 1, .ref pl, .ref ig, .ref sl, .ref kl, .int 0, .int 0, .int 0]))]) hP hD [2] [0, 1, 3] rfl rfl (by decide) (by decide) hk1 hFc hP1 hD1
  generalize H1 = H at hP hS ⊢
  have hP : va_P (dC, dI) vwCl [(pl, .inr (1, [.int 0, .ref dz, .int 0])), (kl, .inr (1, [.int 0, .ref dz, .int 0])), (sl, .inr (1, [.int 0, .ref dz, .int 0])), (mm, .inr (10, [.int 1, .ref pl, .ref ig, .ref sl, .ref kl, .int 0, .int 0, .int 0]))] H := hP
  have hD : va_D A [(pl, .inr (1, [.int 0, .ref dz, .int 0])), (kl, .inr (1, [.int 0, .ref dz, .int 0])), (sl, .inr (1, [.int 0, .ref dz, .int 0])), (mm, .inr (10, [.int 1, .ref pl, .ref ig, .ref sl, .ref kl, .int 0, .int 0, .int 0]))] := hD
  refine W.widen (k := 0) (n := 0) (Nat.le_refl _) (Nat.le_refl _) ?_
  have hw : r_4 = 0 := hw
  subst hw
  have hP9 := hP.sub (ws' := [(mm, .inr (10, [.int 1, .ref pl, .ref ig, .ref sl, .ref kl, .int 0, .int 0, .int 0]))]) [3] rfl
  have hD9 := hD.sub (ws' := [(mm, .inr (10, [.int 1, .ref pl, .ref ig, .ref sl, .ref kl, .int 0, .int 0, .int 0]))]) [3] (by decide) rfl
  have hK9 := hK.sub (tys' := []) [] rfl
  refine W.widen (k := 0) (n := 0) (Nat.le_of_ble_eq_true rfl) (Nat.le_of_ble_eq_true rfl) ?_
  exact W.iret (v := 0) hx hb hr (fun t ht hW => ⟨⟨0, (), rfl, rfl, po_mk ht hW hP9 hK9 hD9⟩, hS.F ht⟩) hS.2.2 dX8_winner_18

set_option maxHeartbeats 4000000 in
set_option maxRecDepth 100000 in
theorem c_X8_out (l : Launch) (dC : Nat → ClassId) (dI : Nat → Nat → Nat) (mm : Nat) (pl : Nat) (ig : Nat) (sl : Nat) (kl : Nat) (dz : Nat) (a0 : Int32) (a1 : Int32) (sz : Nat)  : Met l yX8_out wsX8_out ({ frames := 4, cells := 0, slots := 0, locals := 110 }) (va_Pc [.ref mm, .int a0, .int a1] (fun U => pr_ dC dI [(mm, .inr (10, [.int 0, .ref pl, .ref ig, .ref sl, .ref kl, .int 0, .int 0, .int 0])), (pl, .inr (1, [.int 0, .ref dz, .int 0])), (sl, .inr (1, [.int 0, .ref dz, .int 0])), (kl, .inr (1, [.int 0, .ref dz, .int 0]))] [] sz U ∧ mo_  U)) (va_Qi (fun (r : Int32) (_ : Unit) => r = 0) (fun (_ : Unit) t => po_ dC dI [(mm, .inr (10, [.int 1, .ref pl, .ref ig, .ref sl, .ref kl, .int 0, .int 0, .int 0]))] [] (va_A [(mm, .inr (10, [.int 0, .ref pl, .ref ig, .ref sl, .ref kl, .int 0, .int 0, .int 0])), (pl, .inr (1, [.int 0, .ref dz, .int 0])), (sl, .inr (1, [.int 0, .ref dz, .int 0])), (kl, .inr (1, [.int 0, .ref dz, .int 0]))] sz) t) (va_A [(mm, .inr (10, [.int 0, .ref pl, .ref ig, .ref sl, .ref kl, .int 0, .int 0, .int 0])), (pl, .inr (1, [.int 0, .ref dz, .int 0])), (sl, .inr (1, [.int 0, .ref dz, .int 0])), (kl, .inr (1, [.int 0, .ref dz, .int 0]))] sz)) 0 0 (va_A [(mm, .inr (10, [.int 0, .ref pl, .ref ig, .ref sl, .ref kl, .int 0, .int 0, .int 0])), (pl, .inr (1, [.int 0, .ref dz, .int 0])), (sl, .inr (1, [.int 0, .ref dz, .int 0])), (kl, .inr (1, [.int 0, .ref dz, .int 0]))] sz) := by
  refine Met.ofW (cc := cX8_out) (maxL := 3) (ret := (some .int)) (by decide) rfl ?_
  intro p e s m args below meth c s₁ B hml hv
  obtain ⟨rfl, ⟨hsz, hP, hK, hD0⟩, hXs⟩ := hv
  have hx := B.exec
  have hb := B.bytes
  have hr := B.returns
  have hts := atoms_spec (ws := wsX8_out) B.pre
  have hown : s.vm.findClass RX8 = some m.cls := findClass_of_methodNamed B.named
  have hlocks := B.notSynchronized
  subst hsz
  have hD := hD0.self (sz := s.heap.size)
  generalize hAe : va_A [(mm, .inr (10, [.int 0, .ref pl, .ref ig, .ref sl, .ref kl, .int 0, .int 0, .int 0])), (pl, .inr (1, [.int 0, .ref dz, .int 0])), (sl, .inr (1, [.int 0, .ref dz, .int 0])), (kl, .inr (1, [.int 0, .ref dz, .int 0]))] s.heap.size = A at hD ⊢
  have hA : ∀ q : Nat, s.heap.size ≤ q → A q := fun q h => by rw [← hAe]; exact Or.inr h
  have hS : va_S A s.heap s.heap [] := va_S.rf
  have hP : va_P (dC, dI) vwCl [(mm, .inr (10, [.int 0, .ref pl, .ref ig, .ref sl, .ref kl, .int 0, .int 0, .int 0])), (pl, .inr (1, [.int 0, .ref dz, .int 0])), (sl, .inr (1, [.int 0, .ref dz, .int 0])), (kl, .inr (1, [.int 0, .ref dz, .int 0]))] s.heap := hP
  have hK : va_K (dC, dI) vwCl [] s := hK
  have hl := lv_entry ([.ref mm, .int a0, .int a1]) (n := 3) (Nat.le_of_ble_eq_true rfl)
  rw [lg_entry_eq]
  generalize (lg_sl ([.ref mm, .int a0, .int a1]) ++ List.replicate (3 - (lg_sl ([.ref mm, .int a0, .int a1])).length) Slot.unset).toArray = ls at hl ⊢
  have hl : lv_has ls 3 [(0, .ref mm), (1, .int a0), (2, .int a1)] := hl
  refine lv_aload_n hx hb dX8_out_0 rfl (lv_at hl 0 rfl) ?_
  refine lv_iconst (v := 0) hx hb dX8_out_1 (by decide) ?_
  have hinX8 : ∀ w ∈ u_ws RX8 TX8 8, w ∈ wsX8_out := by decide +kernel
  refine va_put (D := (dC, dI)) (ci := 10) (v := .int 0) (ty := .int) (C := RX8) (T := TX8) (N := 8) hx hb hts hinX8 tyX8 tyX8_ok nmX8 hown hK hP hD hS 0 rfl rfl 0 (by decide) (hts (.fieldLink RX8 26 "BallotLoomModel" "thrown" "I") (by decide +kernel)) (fun _ h9 => h9) rfl (by decide +kernel) rfl rfl (Nat.le_of_ble_eq_true rfl) dX8_out_2 (fun H locs hP hD hS => ?_)
  have hP : va_P (dC, dI) vwCl [(mm, .inr (10, [.int 0, .ref pl, .ref ig, .ref sl, .ref kl, .int 0, .int 0, .int 0])), (pl, .inr (1, [.int 0, .ref dz, .int 0])), (sl, .inr (1, [.int 0, .ref dz, .int 0])), (kl, .inr (1, [.int 0, .ref dz, .int 0]))] H := hP
  have hD : va_D A [(mm, .inr (10, [.int 0, .ref pl, .ref ig, .ref sl, .ref kl, .int 0, .int 0, .int 0])), (pl, .inr (1, [.int 0, .ref dz, .int 0])), (sl, .inr (1, [.int 0, .ref dz, .int 0])), (kl, .inr (1, [.int 0, .ref dz, .int 0]))] := hD
  refine lv_aload_n hx hb dX8_out_5 rfl (lv_at hl 0 rfl) ?_
  refine lv_iload_n hx hb dX8_out_6 rfl (lv_at hl 1 rfl) ?_
  have hPc := hP.sub (ws' := [(mm, .inr (10, [.int 0, .ref pl, .ref ig, .ref sl, .ref kl, .int 0, .int 0, .int 0])), (sl, .inr (1, [.int 0, .ref dz, .int 0]))]) [0, 2] rfl
  have hDc := hD.sub (ws' := [(mm, .inr (10, [.int 0, .ref pl, .ref ig, .ref sl, .ref kl, .int 0, .int 0, .int 0])), (sl, .inr (1, [.int 0, .ref dz, .int 0]))]) [0, 2] (by decide) rfl
  have hKc := hK.sub (tys' := []) [] rfl
  have hFc := va_free (wc := [(mm, .inr (10, [.int 0, .ref pl, .ref ig, .ref sl, .ref kl, .int 0, .int 0, .int 0])), (sl, .inr (1, [.int 0, .ref dz, .int 0]))]) hD hS hA [0, 2] rfl
  refine va_calli (va_runV (As := [.int a0]) (rest := []) ⟨hx, hb, hml, hown, hts⟩ (c_X8_isDistrict l dC dI mm pl ig sl kl dz a0 _ ) (cwV 1 hts gX8_out_X8_isDistrict rfl rfl rfl (by decide +kernel) ⟨Nat.le_of_ble_eq_true rfl, Nat.le_of_ble_eq_true rfl⟩) ⟨pe_blind mo_bl, va_recv hKc hPc (ci := 10) (q0 := 0) rfl rfl, fun U hU hW => ⟨rfl, pr_mk hU hW hPc hKc hDc, mo_mk hW hXs⟩⟩ rfl rfl hl.1 rfl (lv_room (Nat.le_of_ble_eq_true rfl)) dX8_out_7 ⟨Nat.le_of_ble_eq_true rfl, Nat.le_of_ble_eq_true rfl⟩) hS (fun q _ h => hFc q h) hFc (fun r_2 u_1 t H1 locs ht hvm hw hB hz1 hk1 hS => ?_)
  obtain ⟨hP1, hK1, hD1⟩ := hB
  rw [ht] at hP1
  obtain ⟨hP, hD⟩ := va_join (wr := [(pl, .inr (1, [.int 0, .ref dz, .int 0])), (kl, .inr (1, [.int 0, .ref dz, .int 0]))]) (w1 := [(mm, .inr (10, [.int 0, .ref pl, .ref ig, .ref sl, .ref kl, .int 0, .int 0, .int 0])), (sl, .inr (1, [.int 0, .ref dz, .int 0]))]) hP hD [0, 2] [1, 3] rfl rfl (by decide) (by decide) hk1 hFc hP1 hD1
  generalize H1 = H at hP hS ⊢
  have hP : va_P (dC, dI) vwCl [(pl, .inr (1, [.int 0, .ref dz, .int 0])), (kl, .inr (1, [.int 0, .ref dz, .int 0])), (mm, .inr (10, [.int 0, .ref pl, .ref ig, .ref sl, .ref kl, .int 0, .int 0, .int 0])), (sl, .inr (1, [.int 0, .ref dz, .int 0]))] H := hP
  have hD : va_D A [(pl, .inr (1, [.int 0, .ref dz, .int 0])), (kl, .inr (1, [.int 0, .ref dz, .int 0])), (mm, .inr (10, [.int 0, .ref pl, .ref ig, .ref sl, .ref kl, .int 0, .int 0, .int 0])), (sl, .inr (1, [.int 0, .ref dz, .int 0]))] := hD
  refine W.widen (k := 0) (n := 0) (Nat.le_refl _) (Nat.le_refl _) ?_
  have hw : r_2 = 0 := hw
  subst hw
  refine lv_if_ne (tgt := 19) hx hb dX8_out_10 (by decide) (fun h9 => absurd h9 (by decide)) (fun _ => ?_)
  refine lv_aload_n hx hb dX8_out_13 rfl (lv_at hl 0 rfl) ?_
  refine lv_iconst (v := 1) hx hb dX8_out_14 (by decide) ?_
  have hPc := hP.sub (ws' := [(mm, .inr (10, [.int 0, .ref pl, .ref ig, .ref sl, .ref kl, .int 0, .int 0, .int 0]))]) [2] rfl
  have hDc := hD.sub (ws' := [(mm, .inr (10, [.int 0, .ref pl, .ref ig, .ref sl, .ref kl, .int 0, .int 0, .int 0]))]) [2] (by decide) rfl
  have hKc := hK.sub (tys' := []) [] rfl
  have hFc := va_free (wc := [(mm, .inr (10, [.int 0, .ref pl, .ref ig, .ref sl, .ref kl, .int 0, .int 0, .int 0]))]) hD hS hA [2] rfl
  refine va_calli (va_runV (As := [.int 1]) (rest := []) ⟨hx, hb, hml, hown, hts⟩ (c_X8_no l dC dI mm pl ig sl kl (1 : Int32) (0 : Int32) _ ) (cwV 1 hts gX8_out_X8_no rfl rfl rfl (by decide +kernel) ⟨Nat.le_of_ble_eq_true rfl, Nat.le_of_ble_eq_true rfl⟩) ⟨pr_blind, va_recv hKc hPc (ci := 10) (q0 := 0) rfl rfl, fun U hU hW => ⟨rfl, pr_mk hU hW hPc hKc hDc⟩⟩ rfl rfl hl.1 rfl (lv_room (Nat.le_of_ble_eq_true rfl)) dX8_out_15 ⟨Nat.le_of_ble_eq_true rfl, Nat.le_of_ble_eq_true rfl⟩) hS (fun q _ h => hFc q h) hFc (fun r_4 u_3 t H1 locs ht hvm hw hB hz1 hk1 hS => ?_)
  obtain ⟨hP1, hK1, hD1⟩ := hB
  rw [ht] at hP1
  obtain ⟨hP, hD⟩ := va_join (wr := [(pl, .inr (1, [.int 0, .ref dz, .int 0])), (kl, .inr (1, [.int 0, .ref dz, .int 0])), (sl, .inr (1, [.int 0, .ref dz, .int 0]))]) (w1 := [(mm, .inr (10, [.int 1, .ref pl, .ref ig, .ref sl, .ref kl, .int 0, .int 0, .int 0]))]) hP hD [2] [0, 1, 3] rfl rfl (by decide) (by decide) hk1 hFc hP1 hD1
  generalize H1 = H at hP hS ⊢
  have hP : va_P (dC, dI) vwCl [(pl, .inr (1, [.int 0, .ref dz, .int 0])), (kl, .inr (1, [.int 0, .ref dz, .int 0])), (sl, .inr (1, [.int 0, .ref dz, .int 0])), (mm, .inr (10, [.int 1, .ref pl, .ref ig, .ref sl, .ref kl, .int 0, .int 0, .int 0]))] H := hP
  have hD : va_D A [(pl, .inr (1, [.int 0, .ref dz, .int 0])), (kl, .inr (1, [.int 0, .ref dz, .int 0])), (sl, .inr (1, [.int 0, .ref dz, .int 0])), (mm, .inr (10, [.int 1, .ref pl, .ref ig, .ref sl, .ref kl, .int 0, .int 0, .int 0]))] := hD
  refine W.widen (k := 0) (n := 0) (Nat.le_refl _) (Nat.le_refl _) ?_
  have hw : r_4 = 0 := hw
  subst hw
  have hP9 := hP.sub (ws' := [(mm, .inr (10, [.int 1, .ref pl, .ref ig, .ref sl, .ref kl, .int 0, .int 0, .int 0]))]) [3] rfl
  have hD9 := hD.sub (ws' := [(mm, .inr (10, [.int 1, .ref pl, .ref ig, .ref sl, .ref kl, .int 0, .int 0, .int 0]))]) [3] (by decide) rfl
  have hK9 := hK.sub (tys' := []) [] rfl
  refine W.widen (k := 0) (n := 0) (Nat.le_of_ble_eq_true rfl) (Nat.le_of_ble_eq_true rfl) ?_
  exact W.iret (v := 0) hx hb hr (fun t ht hW => ⟨⟨0, (), rfl, rfl, po_mk ht hW hP9 hK9 hD9⟩, hS.F ht⟩) hS.2.2 dX8_out_18

set_option maxHeartbeats 4000000 in
set_option maxRecDepth 100000 in
theorem c_X8_elected (l : Launch) (dC : Nat → ClassId) (dI : Nat → Nat → Nat) (mm : Nat) (pl : Nat) (ig : Nat) (sl : Nat) (kl : Nat) (dz : Nat) (a0 : Int32) (a1 : Int32) (sz : Nat)  : Met l yX8_elected wsX8_elected ({ frames := 4, cells := 0, slots := 0, locals := 110 }) (va_Pc [.ref mm, .int a0, .int a1] (fun U => pr_ dC dI [(mm, .inr (10, [.int 0, .ref pl, .ref ig, .ref sl, .ref kl, .int 0, .int 0, .int 0])), (pl, .inr (1, [.int 0, .ref dz, .int 0])), (sl, .inr (1, [.int 0, .ref dz, .int 0])), (kl, .inr (1, [.int 0, .ref dz, .int 0]))] [] sz U ∧ mo_  U)) (va_Qi (fun (r : Int32) (_ : Unit) => r = 0) (fun (_ : Unit) t => po_ dC dI [(mm, .inr (10, [.int 1, .ref pl, .ref ig, .ref sl, .ref kl, .int 0, .int 0, .int 0]))] [] (va_A [(mm, .inr (10, [.int 0, .ref pl, .ref ig, .ref sl, .ref kl, .int 0, .int 0, .int 0])), (pl, .inr (1, [.int 0, .ref dz, .int 0])), (sl, .inr (1, [.int 0, .ref dz, .int 0])), (kl, .inr (1, [.int 0, .ref dz, .int 0]))] sz) t) (va_A [(mm, .inr (10, [.int 0, .ref pl, .ref ig, .ref sl, .ref kl, .int 0, .int 0, .int 0])), (pl, .inr (1, [.int 0, .ref dz, .int 0])), (sl, .inr (1, [.int 0, .ref dz, .int 0])), (kl, .inr (1, [.int 0, .ref dz, .int 0]))] sz)) 0 0 (va_A [(mm, .inr (10, [.int 0, .ref pl, .ref ig, .ref sl, .ref kl, .int 0, .int 0, .int 0])), (pl, .inr (1, [.int 0, .ref dz, .int 0])), (sl, .inr (1, [.int 0, .ref dz, .int 0])), (kl, .inr (1, [.int 0, .ref dz, .int 0]))] sz) := by
  refine Met.ofW (cc := cX8_elected) (maxL := 3) (ret := (some .int)) (by decide) rfl ?_
  intro p e s m args below meth c s₁ B hml hv
  obtain ⟨rfl, ⟨hsz, hP, hK, hD0⟩, hXs⟩ := hv
  have hx := B.exec
  have hb := B.bytes
  have hr := B.returns
  have hts := atoms_spec (ws := wsX8_elected) B.pre
  have hown : s.vm.findClass RX8 = some m.cls := findClass_of_methodNamed B.named
  have hlocks := B.notSynchronized
  subst hsz
  have hD := hD0.self (sz := s.heap.size)
  generalize hAe : va_A [(mm, .inr (10, [.int 0, .ref pl, .ref ig, .ref sl, .ref kl, .int 0, .int 0, .int 0])), (pl, .inr (1, [.int 0, .ref dz, .int 0])), (sl, .inr (1, [.int 0, .ref dz, .int 0])), (kl, .inr (1, [.int 0, .ref dz, .int 0]))] s.heap.size = A at hD ⊢
  have hA : ∀ q : Nat, s.heap.size ≤ q → A q := fun q h => by rw [← hAe]; exact Or.inr h
  have hS : va_S A s.heap s.heap [] := va_S.rf
  have hP : va_P (dC, dI) vwCl [(mm, .inr (10, [.int 0, .ref pl, .ref ig, .ref sl, .ref kl, .int 0, .int 0, .int 0])), (pl, .inr (1, [.int 0, .ref dz, .int 0])), (sl, .inr (1, [.int 0, .ref dz, .int 0])), (kl, .inr (1, [.int 0, .ref dz, .int 0]))] s.heap := hP
  have hK : va_K (dC, dI) vwCl [] s := hK
  have hl := lv_entry ([.ref mm, .int a0, .int a1]) (n := 3) (Nat.le_of_ble_eq_true rfl)
  rw [lg_entry_eq]
  generalize (lg_sl ([.ref mm, .int a0, .int a1]) ++ List.replicate (3 - (lg_sl ([.ref mm, .int a0, .int a1])).length) Slot.unset).toArray = ls at hl ⊢
  have hl : lv_has ls 3 [(0, .ref mm), (1, .int a0), (2, .int a1)] := hl
  refine lv_aload_n hx hb dX8_elected_0 rfl (lv_at hl 0 rfl) ?_
  refine lv_iconst (v := 0) hx hb dX8_elected_1 (by decide) ?_
  have hinX8 : ∀ w ∈ u_ws RX8 TX8 8, w ∈ wsX8_elected := by decide +kernel
  refine va_put (D := (dC, dI)) (ci := 10) (v := .int 0) (ty := .int) (C := RX8) (T := TX8) (N := 8) hx hb hts hinX8 tyX8 tyX8_ok nmX8 hown hK hP hD hS 0 rfl rfl 0 (by decide) (hts (.fieldLink RX8 26 "BallotLoomModel" "thrown" "I") (by decide +kernel)) (fun _ h9 => h9) rfl (by decide +kernel) rfl rfl (Nat.le_of_ble_eq_true rfl) dX8_elected_2 (fun H locs hP hD hS => ?_)
  have hP : va_P (dC, dI) vwCl [(mm, .inr (10, [.int 0, .ref pl, .ref ig, .ref sl, .ref kl, .int 0, .int 0, .int 0])), (pl, .inr (1, [.int 0, .ref dz, .int 0])), (sl, .inr (1, [.int 0, .ref dz, .int 0])), (kl, .inr (1, [.int 0, .ref dz, .int 0]))] H := hP
  have hD : va_D A [(mm, .inr (10, [.int 0, .ref pl, .ref ig, .ref sl, .ref kl, .int 0, .int 0, .int 0])), (pl, .inr (1, [.int 0, .ref dz, .int 0])), (sl, .inr (1, [.int 0, .ref dz, .int 0])), (kl, .inr (1, [.int 0, .ref dz, .int 0]))] := hD
  refine lv_aload_n hx hb dX8_elected_5 rfl (lv_at hl 0 rfl) ?_
  refine lv_iload_n hx hb dX8_elected_6 rfl (lv_at hl 1 rfl) ?_
  have hPc := hP.sub (ws' := [(mm, .inr (10, [.int 0, .ref pl, .ref ig, .ref sl, .ref kl, .int 0, .int 0, .int 0])), (sl, .inr (1, [.int 0, .ref dz, .int 0]))]) [0, 2] rfl
  have hDc := hD.sub (ws' := [(mm, .inr (10, [.int 0, .ref pl, .ref ig, .ref sl, .ref kl, .int 0, .int 0, .int 0])), (sl, .inr (1, [.int 0, .ref dz, .int 0]))]) [0, 2] (by decide) rfl
  have hKc := hK.sub (tys' := []) [] rfl
  have hFc := va_free (wc := [(mm, .inr (10, [.int 0, .ref pl, .ref ig, .ref sl, .ref kl, .int 0, .int 0, .int 0])), (sl, .inr (1, [.int 0, .ref dz, .int 0]))]) hD hS hA [0, 2] rfl
  refine va_calli (va_runV (As := [.int a0]) (rest := []) ⟨hx, hb, hml, hown, hts⟩ (c_X8_isDistrict l dC dI mm pl ig sl kl dz a0 _ ) (cwV 1 hts gX8_elected_X8_isDistrict rfl rfl rfl (by decide +kernel) ⟨Nat.le_of_ble_eq_true rfl, Nat.le_of_ble_eq_true rfl⟩) ⟨pe_blind mo_bl, va_recv hKc hPc (ci := 10) (q0 := 0) rfl rfl, fun U hU hW => ⟨rfl, pr_mk hU hW hPc hKc hDc, mo_mk hW hXs⟩⟩ rfl rfl hl.1 rfl (lv_room (Nat.le_of_ble_eq_true rfl)) dX8_elected_7 ⟨Nat.le_of_ble_eq_true rfl, Nat.le_of_ble_eq_true rfl⟩) hS (fun q _ h => hFc q h) hFc (fun r_2 u_1 t H1 locs ht hvm hw hB hz1 hk1 hS => ?_)
  obtain ⟨hP1, hK1, hD1⟩ := hB
  rw [ht] at hP1
  obtain ⟨hP, hD⟩ := va_join (wr := [(pl, .inr (1, [.int 0, .ref dz, .int 0])), (kl, .inr (1, [.int 0, .ref dz, .int 0]))]) (w1 := [(mm, .inr (10, [.int 0, .ref pl, .ref ig, .ref sl, .ref kl, .int 0, .int 0, .int 0])), (sl, .inr (1, [.int 0, .ref dz, .int 0]))]) hP hD [0, 2] [1, 3] rfl rfl (by decide) (by decide) hk1 hFc hP1 hD1
  generalize H1 = H at hP hS ⊢
  have hP : va_P (dC, dI) vwCl [(pl, .inr (1, [.int 0, .ref dz, .int 0])), (kl, .inr (1, [.int 0, .ref dz, .int 0])), (mm, .inr (10, [.int 0, .ref pl, .ref ig, .ref sl, .ref kl, .int 0, .int 0, .int 0])), (sl, .inr (1, [.int 0, .ref dz, .int 0]))] H := hP
  have hD : va_D A [(pl, .inr (1, [.int 0, .ref dz, .int 0])), (kl, .inr (1, [.int 0, .ref dz, .int 0])), (mm, .inr (10, [.int 0, .ref pl, .ref ig, .ref sl, .ref kl, .int 0, .int 0, .int 0])), (sl, .inr (1, [.int 0, .ref dz, .int 0]))] := hD
  refine W.widen (k := 0) (n := 0) (Nat.le_refl _) (Nat.le_refl _) ?_
  have hw : r_2 = 0 := hw
  subst hw
  refine lv_if_ne (tgt := 19) hx hb dX8_elected_10 (by decide) (fun h9 => absurd h9 (by decide)) (fun _ => ?_)
  refine lv_aload_n hx hb dX8_elected_13 rfl (lv_at hl 0 rfl) ?_
  refine lv_iconst (v := 1) hx hb dX8_elected_14 (by decide) ?_
  have hPc := hP.sub (ws' := [(mm, .inr (10, [.int 0, .ref pl, .ref ig, .ref sl, .ref kl, .int 0, .int 0, .int 0]))]) [2] rfl
  have hDc := hD.sub (ws' := [(mm, .inr (10, [.int 0, .ref pl, .ref ig, .ref sl, .ref kl, .int 0, .int 0, .int 0]))]) [2] (by decide) rfl
  have hKc := hK.sub (tys' := []) [] rfl
  have hFc := va_free (wc := [(mm, .inr (10, [.int 0, .ref pl, .ref ig, .ref sl, .ref kl, .int 0, .int 0, .int 0]))]) hD hS hA [2] rfl
  refine va_calli (va_runV (As := [.int 1]) (rest := []) ⟨hx, hb, hml, hown, hts⟩ (c_X8_no l dC dI mm pl ig sl kl (1 : Int32) (0 : Int32) _ ) (cwV 1 hts gX8_elected_X8_no rfl rfl rfl (by decide +kernel) ⟨Nat.le_of_ble_eq_true rfl, Nat.le_of_ble_eq_true rfl⟩) ⟨pr_blind, va_recv hKc hPc (ci := 10) (q0 := 0) rfl rfl, fun U hU hW => ⟨rfl, pr_mk hU hW hPc hKc hDc⟩⟩ rfl rfl hl.1 rfl (lv_room (Nat.le_of_ble_eq_true rfl)) dX8_elected_15 ⟨Nat.le_of_ble_eq_true rfl, Nat.le_of_ble_eq_true rfl⟩) hS (fun q _ h => hFc q h) hFc (fun r_4 u_3 t H1 locs ht hvm hw hB hz1 hk1 hS => ?_)
  obtain ⟨hP1, hK1, hD1⟩ := hB
  rw [ht] at hP1
  obtain ⟨hP, hD⟩ := va_join (wr := [(pl, .inr (1, [.int 0, .ref dz, .int 0])), (kl, .inr (1, [.int 0, .ref dz, .int 0])), (sl, .inr (1, [.int 0, .ref dz, .int 0]))]) (w1 := [(mm, .inr (10, [.int 1, .ref pl, .ref ig, .ref sl, .ref kl, .int 0, .int 0, .int 0]))]) hP hD [2] [0, 1, 3] rfl rfl (by decide) (by decide) hk1 hFc hP1 hD1
  generalize H1 = H at hP hS ⊢
  have hP : va_P (dC, dI) vwCl [(pl, .inr (1, [.int 0, .ref dz, .int 0])), (kl, .inr (1, [.int 0, .ref dz, .int 0])), (sl, .inr (1, [.int 0, .ref dz, .int 0])), (mm, .inr (10, [.int 1, .ref pl, .ref ig, .ref sl, .ref kl, .int 0, .int 0, .int 0]))] H := hP
  have hD : va_D A [(pl, .inr (1, [.int 0, .ref dz, .int 0])), (kl, .inr (1, [.int 0, .ref dz, .int 0])), (sl, .inr (1, [.int 0, .ref dz, .int 0])), (mm, .inr (10, [.int 1, .ref pl, .ref ig, .ref sl, .ref kl, .int 0, .int 0, .int 0]))] := hD
  refine W.widen (k := 0) (n := 0) (Nat.le_refl _) (Nat.le_refl _) ?_
  have hw : r_4 = 0 := hw
  subst hw
  have hP9 := hP.sub (ws' := [(mm, .inr (10, [.int 1, .ref pl, .ref ig, .ref sl, .ref kl, .int 0, .int 0, .int 0]))]) [3] rfl
  have hD9 := hD.sub (ws' := [(mm, .inr (10, [.int 1, .ref pl, .ref ig, .ref sl, .ref kl, .int 0, .int 0, .int 0]))]) [3] (by decide) rfl
  have hK9 := hK.sub (tys' := []) [] rfl
  refine W.widen (k := 0) (n := 0) (Nat.le_of_ble_eq_true rfl) (Nat.le_of_ble_eq_true rfl) ?_
  exact W.iret (v := 0) hx hb hr (fun t ht hW => ⟨⟨0, (), rfl, rfl, po_mk ht hW hP9 hK9 hD9⟩, hS.F ht⟩) hS.2.2 dX8_elected_18

set_option maxHeartbeats 4000000 in
set_option maxRecDepth 100000 in
theorem c_X8_worth (l : Launch) (dC : Nat → ClassId) (dI : Nat → Nat → Nat) (mm : Nat) (pl : Nat) (ig : Nat) (sl : Nat) (kl : Nat) (dz : Nat) (a0 : Int32) (sz : Nat)  : Met l yX8_worth wsX8_worth ({ frames := 4, cells := 0, slots := 0, locals := 110 }) (va_Pc [.ref mm, .int a0] (fun U => pr_ dC dI [(mm, .inr (10, [.int 0, .ref pl, .ref ig, .ref sl, .ref kl, .int 0, .int 0, .int 0])), (pl, .inr (1, [.int 0, .ref dz, .int 0])), (sl, .inr (1, [.int 0, .ref dz, .int 0])), (kl, .inr (1, [.int 0, .ref dz, .int 0]))] [] sz U ∧ mo_  U)) (va_Qd (fun (r : UInt64) (_ : Unit) => r = (FP.i2d 0)) (fun (_ : Unit) t => po_ dC dI [(mm, .inr (10, [.int 1, .ref pl, .ref ig, .ref sl, .ref kl, .int 0, .int 0, .int 0]))] [] (va_A [(mm, .inr (10, [.int 0, .ref pl, .ref ig, .ref sl, .ref kl, .int 0, .int 0, .int 0])), (pl, .inr (1, [.int 0, .ref dz, .int 0])), (sl, .inr (1, [.int 0, .ref dz, .int 0])), (kl, .inr (1, [.int 0, .ref dz, .int 0]))] sz) t) (va_A [(mm, .inr (10, [.int 0, .ref pl, .ref ig, .ref sl, .ref kl, .int 0, .int 0, .int 0])), (pl, .inr (1, [.int 0, .ref dz, .int 0])), (sl, .inr (1, [.int 0, .ref dz, .int 0])), (kl, .inr (1, [.int 0, .ref dz, .int 0]))] sz)) 0 0 (va_A [(mm, .inr (10, [.int 0, .ref pl, .ref ig, .ref sl, .ref kl, .int 0, .int 0, .int 0])), (pl, .inr (1, [.int 0, .ref dz, .int 0])), (sl, .inr (1, [.int 0, .ref dz, .int 0])), (kl, .inr (1, [.int 0, .ref dz, .int 0]))] sz) := by
  refine Met.ofW (cc := cX8_worth) (maxL := 2) (ret := (some .double)) (by decide) rfl ?_
  intro p e s m args below meth c s₁ B hml hv
  obtain ⟨rfl, ⟨hsz, hP, hK, hD0⟩, hXs⟩ := hv
  have hx := B.exec
  have hb := B.bytes
  have hr := B.returns
  have hts := atoms_spec (ws := wsX8_worth) B.pre
  have hown : s.vm.findClass RX8 = some m.cls := findClass_of_methodNamed B.named
  have hlocks := B.notSynchronized
  subst hsz
  have hD := hD0.self (sz := s.heap.size)
  generalize hAe : va_A [(mm, .inr (10, [.int 0, .ref pl, .ref ig, .ref sl, .ref kl, .int 0, .int 0, .int 0])), (pl, .inr (1, [.int 0, .ref dz, .int 0])), (sl, .inr (1, [.int 0, .ref dz, .int 0])), (kl, .inr (1, [.int 0, .ref dz, .int 0]))] s.heap.size = A at hD ⊢
  have hA : ∀ q : Nat, s.heap.size ≤ q → A q := fun q h => by rw [← hAe]; exact Or.inr h
  have hS : va_S A s.heap s.heap [] := va_S.rf
  have hP : va_P (dC, dI) vwCl [(mm, .inr (10, [.int 0, .ref pl, .ref ig, .ref sl, .ref kl, .int 0, .int 0, .int 0])), (pl, .inr (1, [.int 0, .ref dz, .int 0])), (sl, .inr (1, [.int 0, .ref dz, .int 0])), (kl, .inr (1, [.int 0, .ref dz, .int 0]))] s.heap := hP
  have hK : va_K (dC, dI) vwCl [] s := hK
  have hl := lv_entry ([.ref mm, .int a0]) (n := 2) (Nat.le_of_ble_eq_true rfl)
  rw [lg_entry_eq]
  generalize (lg_sl ([.ref mm, .int a0]) ++ List.replicate (2 - (lg_sl ([.ref mm, .int a0])).length) Slot.unset).toArray = ls at hl ⊢
  have hl : lv_has ls 2 [(0, .ref mm), (1, .int a0)] := hl
  refine lv_aload_n hx hb dX8_worth_0 rfl (lv_at hl 0 rfl) ?_
  refine lv_iconst (v := 0) hx hb dX8_worth_1 (by decide) ?_
  have hinX8 : ∀ w ∈ u_ws RX8 TX8 8, w ∈ wsX8_worth := by decide +kernel
  refine va_put (D := (dC, dI)) (ci := 10) (v := .int 0) (ty := .int) (C := RX8) (T := TX8) (N := 8) hx hb hts hinX8 tyX8 tyX8_ok nmX8 hown hK hP hD hS 0 rfl rfl 0 (by decide) (hts (.fieldLink RX8 26 "BallotLoomModel" "thrown" "I") (by decide +kernel)) (fun _ h9 => h9) rfl (by decide +kernel) rfl rfl (Nat.le_of_ble_eq_true rfl) dX8_worth_2 (fun H locs hP hD hS => ?_)
  have hP : va_P (dC, dI) vwCl [(mm, .inr (10, [.int 0, .ref pl, .ref ig, .ref sl, .ref kl, .int 0, .int 0, .int 0])), (pl, .inr (1, [.int 0, .ref dz, .int 0])), (sl, .inr (1, [.int 0, .ref dz, .int 0])), (kl, .inr (1, [.int 0, .ref dz, .int 0]))] H := hP
  have hD : va_D A [(mm, .inr (10, [.int 0, .ref pl, .ref ig, .ref sl, .ref kl, .int 0, .int 0, .int 0])), (pl, .inr (1, [.int 0, .ref dz, .int 0])), (sl, .inr (1, [.int 0, .ref dz, .int 0])), (kl, .inr (1, [.int 0, .ref dz, .int 0]))] := hD
  refine lv_aload_n hx hb dX8_worth_5 rfl (lv_at hl 0 rfl) ?_
  refine lv_iload_n hx hb dX8_worth_6 rfl (lv_at hl 1 rfl) ?_
  have hPc := hP.sub (ws' := [(mm, .inr (10, [.int 0, .ref pl, .ref ig, .ref sl, .ref kl, .int 0, .int 0, .int 0])), (kl, .inr (1, [.int 0, .ref dz, .int 0]))]) [0, 3] rfl
  have hDc := hD.sub (ws' := [(mm, .inr (10, [.int 0, .ref pl, .ref ig, .ref sl, .ref kl, .int 0, .int 0, .int 0])), (kl, .inr (1, [.int 0, .ref dz, .int 0]))]) [0, 3] (by decide) rfl
  have hKc := hK.sub (tys' := []) [] rfl
  have hFc := va_free (wc := [(mm, .inr (10, [.int 0, .ref pl, .ref ig, .ref sl, .ref kl, .int 0, .int 0, .int 0])), (kl, .inr (1, [.int 0, .ref dz, .int 0]))]) hD hS hA [0, 3] rfl
  refine va_calli (va_runV (As := [.int a0]) (rest := []) ⟨hx, hb, hml, hown, hts⟩ (c_X8_isStack l dC dI mm pl ig sl kl dz a0 _ ) (cwV 1 hts gX8_worth_X8_isStack rfl rfl rfl (by decide +kernel) ⟨Nat.le_of_ble_eq_true rfl, Nat.le_of_ble_eq_true rfl⟩) ⟨pe_blind mo_bl, va_recv hKc hPc (ci := 10) (q0 := 0) rfl rfl, fun U hU hW => ⟨rfl, pr_mk hU hW hPc hKc hDc, mo_mk hW hXs⟩⟩ rfl rfl hl.1 rfl (lv_room (Nat.le_of_ble_eq_true rfl)) dX8_worth_7 ⟨Nat.le_of_ble_eq_true rfl, Nat.le_of_ble_eq_true rfl⟩) hS (fun q _ h => hFc q h) hFc (fun r_2 u_1 t H1 locs ht hvm hw hB hz1 hk1 hS => ?_)
  obtain ⟨hP1, hK1, hD1⟩ := hB
  rw [ht] at hP1
  obtain ⟨hP, hD⟩ := va_join (wr := [(pl, .inr (1, [.int 0, .ref dz, .int 0])), (sl, .inr (1, [.int 0, .ref dz, .int 0]))]) (w1 := [(mm, .inr (10, [.int 0, .ref pl, .ref ig, .ref sl, .ref kl, .int 0, .int 0, .int 0])), (kl, .inr (1, [.int 0, .ref dz, .int 0]))]) hP hD [0, 3] [1, 2] rfl rfl (by decide) (by decide) hk1 hFc hP1 hD1
  generalize H1 = H at hP hS ⊢
  have hP : va_P (dC, dI) vwCl [(pl, .inr (1, [.int 0, .ref dz, .int 0])), (sl, .inr (1, [.int 0, .ref dz, .int 0])), (mm, .inr (10, [.int 0, .ref pl, .ref ig, .ref sl, .ref kl, .int 0, .int 0, .int 0])), (kl, .inr (1, [.int 0, .ref dz, .int 0]))] H := hP
  have hD : va_D A [(pl, .inr (1, [.int 0, .ref dz, .int 0])), (sl, .inr (1, [.int 0, .ref dz, .int 0])), (mm, .inr (10, [.int 0, .ref pl, .ref ig, .ref sl, .ref kl, .int 0, .int 0, .int 0])), (kl, .inr (1, [.int 0, .ref dz, .int 0]))] := hD
  refine W.widen (k := 0) (n := 0) (Nat.le_refl _) (Nat.le_refl _) ?_
  have hw : r_2 = 0 := hw
  subst hw
  refine lv_if_ne (tgt := 20) hx hb dX8_worth_10 (by decide) (fun h9 => absurd h9 (by decide)) (fun _ => ?_)
  refine lv_aload_n hx hb dX8_worth_13 rfl (lv_at hl 0 rfl) ?_
  refine lv_iconst (v := 1) hx hb dX8_worth_14 (by decide) ?_
  have hPc := hP.sub (ws' := [(mm, .inr (10, [.int 0, .ref pl, .ref ig, .ref sl, .ref kl, .int 0, .int 0, .int 0]))]) [2] rfl
  have hDc := hD.sub (ws' := [(mm, .inr (10, [.int 0, .ref pl, .ref ig, .ref sl, .ref kl, .int 0, .int 0, .int 0]))]) [2] (by decide) rfl
  have hKc := hK.sub (tys' := []) [] rfl
  have hFc := va_free (wc := [(mm, .inr (10, [.int 0, .ref pl, .ref ig, .ref sl, .ref kl, .int 0, .int 0, .int 0]))]) hD hS hA [2] rfl
  refine va_calli (va_runV (As := [.int 1]) (rest := []) ⟨hx, hb, hml, hown, hts⟩ (c_X8_no l dC dI mm pl ig sl kl (1 : Int32) (0 : Int32) _ ) (cwV 1 hts gX8_worth_X8_no rfl rfl rfl (by decide +kernel) ⟨Nat.le_of_ble_eq_true rfl, Nat.le_of_ble_eq_true rfl⟩) ⟨pr_blind, va_recv hKc hPc (ci := 10) (q0 := 0) rfl rfl, fun U hU hW => ⟨rfl, pr_mk hU hW hPc hKc hDc⟩⟩ rfl rfl hl.1 rfl (lv_room (Nat.le_of_ble_eq_true rfl)) dX8_worth_15 ⟨Nat.le_of_ble_eq_true rfl, Nat.le_of_ble_eq_true rfl⟩) hS (fun q _ h => hFc q h) hFc (fun r_4 u_3 t H1 locs ht hvm hw hB hz1 hk1 hS => ?_)
  obtain ⟨hP1, hK1, hD1⟩ := hB
  rw [ht] at hP1
  obtain ⟨hP, hD⟩ := va_join (wr := [(pl, .inr (1, [.int 0, .ref dz, .int 0])), (sl, .inr (1, [.int 0, .ref dz, .int 0])), (kl, .inr (1, [.int 0, .ref dz, .int 0]))]) (w1 := [(mm, .inr (10, [.int 1, .ref pl, .ref ig, .ref sl, .ref kl, .int 0, .int 0, .int 0]))]) hP hD [2] [0, 1, 3] rfl rfl (by decide) (by decide) hk1 hFc hP1 hD1
  generalize H1 = H at hP hS ⊢
  have hP : va_P (dC, dI) vwCl [(pl, .inr (1, [.int 0, .ref dz, .int 0])), (sl, .inr (1, [.int 0, .ref dz, .int 0])), (kl, .inr (1, [.int 0, .ref dz, .int 0])), (mm, .inr (10, [.int 1, .ref pl, .ref ig, .ref sl, .ref kl, .int 0, .int 0, .int 0]))] H := hP
  have hD : va_D A [(pl, .inr (1, [.int 0, .ref dz, .int 0])), (sl, .inr (1, [.int 0, .ref dz, .int 0])), (kl, .inr (1, [.int 0, .ref dz, .int 0])), (mm, .inr (10, [.int 1, .ref pl, .ref ig, .ref sl, .ref kl, .int 0, .int 0, .int 0]))] := hD
  refine W.widen (k := 0) (n := 0) (Nat.le_refl _) (Nat.le_refl _) ?_
  have hw : r_4 = 0 := hw
  subst hw
  refine lv_i2d hx hb dX8_worth_18 ?_
  have hP9 := hP.sub (ws' := [(mm, .inr (10, [.int 1, .ref pl, .ref ig, .ref sl, .ref kl, .int 0, .int 0, .int 0]))]) [3] rfl
  have hD9 := hD.sub (ws' := [(mm, .inr (10, [.int 1, .ref pl, .ref ig, .ref sl, .ref kl, .int 0, .int 0, .int 0]))]) [3] (by decide) rfl
  have hK9 := hK.sub (tys' := []) [] rfl
  refine W.widen (k := 0) (n := 0) (Nat.le_of_ble_eq_true rfl) (Nat.le_of_ble_eq_true rfl) ?_
  exact W.dret (v := (FP.i2d 0)) hx hb hr (fun t ht hW => ⟨⟨(FP.i2d 0), (), rfl, rfl, po_mk ht hW hP9 hK9 hD9⟩, hS.F ht⟩) hS.2.2 dX8_worth_19

set_option maxHeartbeats 4000000 in
set_option maxRecDepth 100000 in
theorem c_X8_margin (l : Launch) (dC : Nat → ClassId) (dI : Nat → Nat → Nat) (mm : Nat) (pl : Nat) (ig : Nat) (sl : Nat) (kl : Nat) (dz : Nat) (a0 : Int32) (sz : Nat)  : Met l yX8_margin wsX8_margin ({ frames := 4, cells := 0, slots := 0, locals := 110 }) (va_Pc [.ref mm, .int a0] (fun U => pr_ dC dI [(mm, .inr (10, [.int 0, .ref pl, .ref ig, .ref sl, .ref kl, .int 0, .int 0, .int 0])), (pl, .inr (1, [.int 0, .ref dz, .int 0])), (sl, .inr (1, [.int 0, .ref dz, .int 0])), (kl, .inr (1, [.int 0, .ref dz, .int 0]))] [] sz U ∧ mo_  U)) (va_Qi (fun (r : Int32) (_ : Unit) => r = 0) (fun (_ : Unit) t => po_ dC dI [(mm, .inr (10, [.int 1, .ref pl, .ref ig, .ref sl, .ref kl, .int 0, .int 0, .int 0]))] [] (va_A [(mm, .inr (10, [.int 0, .ref pl, .ref ig, .ref sl, .ref kl, .int 0, .int 0, .int 0])), (pl, .inr (1, [.int 0, .ref dz, .int 0])), (sl, .inr (1, [.int 0, .ref dz, .int 0])), (kl, .inr (1, [.int 0, .ref dz, .int 0]))] sz) t) (va_A [(mm, .inr (10, [.int 0, .ref pl, .ref ig, .ref sl, .ref kl, .int 0, .int 0, .int 0])), (pl, .inr (1, [.int 0, .ref dz, .int 0])), (sl, .inr (1, [.int 0, .ref dz, .int 0])), (kl, .inr (1, [.int 0, .ref dz, .int 0]))] sz)) 0 0 (va_A [(mm, .inr (10, [.int 0, .ref pl, .ref ig, .ref sl, .ref kl, .int 0, .int 0, .int 0])), (pl, .inr (1, [.int 0, .ref dz, .int 0])), (sl, .inr (1, [.int 0, .ref dz, .int 0])), (kl, .inr (1, [.int 0, .ref dz, .int 0]))] sz) := by
  refine Met.ofW (cc := cX8_margin) (maxL := 2) (ret := (some .int)) (by decide) rfl ?_
  intro p e s m args below meth c s₁ B hml hv
  obtain ⟨rfl, ⟨hsz, hP, hK, hD0⟩, hXs⟩ := hv
  have hx := B.exec
  have hb := B.bytes
  have hr := B.returns
  have hts := atoms_spec (ws := wsX8_margin) B.pre
  have hown : s.vm.findClass RX8 = some m.cls := findClass_of_methodNamed B.named
  have hlocks := B.notSynchronized
  subst hsz
  have hD := hD0.self (sz := s.heap.size)
  generalize hAe : va_A [(mm, .inr (10, [.int 0, .ref pl, .ref ig, .ref sl, .ref kl, .int 0, .int 0, .int 0])), (pl, .inr (1, [.int 0, .ref dz, .int 0])), (sl, .inr (1, [.int 0, .ref dz, .int 0])), (kl, .inr (1, [.int 0, .ref dz, .int 0]))] s.heap.size = A at hD ⊢
  have hA : ∀ q : Nat, s.heap.size ≤ q → A q := fun q h => by rw [← hAe]; exact Or.inr h
  have hS : va_S A s.heap s.heap [] := va_S.rf
  have hP : va_P (dC, dI) vwCl [(mm, .inr (10, [.int 0, .ref pl, .ref ig, .ref sl, .ref kl, .int 0, .int 0, .int 0])), (pl, .inr (1, [.int 0, .ref dz, .int 0])), (sl, .inr (1, [.int 0, .ref dz, .int 0])), (kl, .inr (1, [.int 0, .ref dz, .int 0]))] s.heap := hP
  have hK : va_K (dC, dI) vwCl [] s := hK
  have hl := lv_entry ([.ref mm, .int a0]) (n := 2) (Nat.le_of_ble_eq_true rfl)
  rw [lg_entry_eq]
  generalize (lg_sl ([.ref mm, .int a0]) ++ List.replicate (2 - (lg_sl ([.ref mm, .int a0])).length) Slot.unset).toArray = ls at hl ⊢
  have hl : lv_has ls 2 [(0, .ref mm), (1, .int a0)] := hl
  refine lv_aload_n hx hb dX8_margin_0 rfl (lv_at hl 0 rfl) ?_
  refine lv_iconst (v := 0) hx hb dX8_margin_1 (by decide) ?_
  have hinX8 : ∀ w ∈ u_ws RX8 TX8 8, w ∈ wsX8_margin := by decide +kernel
  refine va_put (D := (dC, dI)) (ci := 10) (v := .int 0) (ty := .int) (C := RX8) (T := TX8) (N := 8) hx hb hts hinX8 tyX8 tyX8_ok nmX8 hown hK hP hD hS 0 rfl rfl 0 (by decide) (hts (.fieldLink RX8 26 "BallotLoomModel" "thrown" "I") (by decide +kernel)) (fun _ h9 => h9) rfl (by decide +kernel) rfl rfl (Nat.le_of_ble_eq_true rfl) dX8_margin_2 (fun H locs hP hD hS => ?_)
  have hP : va_P (dC, dI) vwCl [(mm, .inr (10, [.int 0, .ref pl, .ref ig, .ref sl, .ref kl, .int 0, .int 0, .int 0])), (pl, .inr (1, [.int 0, .ref dz, .int 0])), (sl, .inr (1, [.int 0, .ref dz, .int 0])), (kl, .inr (1, [.int 0, .ref dz, .int 0]))] H := hP
  have hD : va_D A [(mm, .inr (10, [.int 0, .ref pl, .ref ig, .ref sl, .ref kl, .int 0, .int 0, .int 0])), (pl, .inr (1, [.int 0, .ref dz, .int 0])), (sl, .inr (1, [.int 0, .ref dz, .int 0])), (kl, .inr (1, [.int 0, .ref dz, .int 0]))] := hD
  refine lv_aload_n hx hb dX8_margin_5 rfl (lv_at hl 0 rfl) ?_
  refine lv_iload_n hx hb dX8_margin_6 rfl (lv_at hl 1 rfl) ?_
  have hPc := hP.sub (ws' := [(mm, .inr (10, [.int 0, .ref pl, .ref ig, .ref sl, .ref kl, .int 0, .int 0, .int 0])), (sl, .inr (1, [.int 0, .ref dz, .int 0]))]) [0, 2] rfl
  have hDc := hD.sub (ws' := [(mm, .inr (10, [.int 0, .ref pl, .ref ig, .ref sl, .ref kl, .int 0, .int 0, .int 0])), (sl, .inr (1, [.int 0, .ref dz, .int 0]))]) [0, 2] (by decide) rfl
  have hKc := hK.sub (tys' := []) [] rfl
  have hFc := va_free (wc := [(mm, .inr (10, [.int 0, .ref pl, .ref ig, .ref sl, .ref kl, .int 0, .int 0, .int 0])), (sl, .inr (1, [.int 0, .ref dz, .int 0]))]) hD hS hA [0, 2] rfl
  refine va_calli (va_runV (As := [.int a0]) (rest := []) ⟨hx, hb, hml, hown, hts⟩ (c_X8_isDistrict l dC dI mm pl ig sl kl dz a0 _ ) (cwV 1 hts gX8_margin_X8_isDistrict rfl rfl rfl (by decide +kernel) ⟨Nat.le_of_ble_eq_true rfl, Nat.le_of_ble_eq_true rfl⟩) ⟨pe_blind mo_bl, va_recv hKc hPc (ci := 10) (q0 := 0) rfl rfl, fun U hU hW => ⟨rfl, pr_mk hU hW hPc hKc hDc, mo_mk hW hXs⟩⟩ rfl rfl hl.1 rfl (lv_room (Nat.le_of_ble_eq_true rfl)) dX8_margin_7 ⟨Nat.le_of_ble_eq_true rfl, Nat.le_of_ble_eq_true rfl⟩) hS (fun q _ h => hFc q h) hFc (fun r_2 u_1 t H1 locs ht hvm hw hB hz1 hk1 hS => ?_)
  obtain ⟨hP1, hK1, hD1⟩ := hB
  rw [ht] at hP1
  obtain ⟨hP, hD⟩ := va_join (wr := [(pl, .inr (1, [.int 0, .ref dz, .int 0])), (kl, .inr (1, [.int 0, .ref dz, .int 0]))]) (w1 := [(mm, .inr (10, [.int 0, .ref pl, .ref ig, .ref sl, .ref kl, .int 0, .int 0, .int 0])), (sl, .inr (1, [.int 0, .ref dz, .int 0]))]) hP hD [0, 2] [1, 3] rfl rfl (by decide) (by decide) hk1 hFc hP1 hD1
  generalize H1 = H at hP hS ⊢
  have hP : va_P (dC, dI) vwCl [(pl, .inr (1, [.int 0, .ref dz, .int 0])), (kl, .inr (1, [.int 0, .ref dz, .int 0])), (mm, .inr (10, [.int 0, .ref pl, .ref ig, .ref sl, .ref kl, .int 0, .int 0, .int 0])), (sl, .inr (1, [.int 0, .ref dz, .int 0]))] H := hP
  have hD : va_D A [(pl, .inr (1, [.int 0, .ref dz, .int 0])), (kl, .inr (1, [.int 0, .ref dz, .int 0])), (mm, .inr (10, [.int 0, .ref pl, .ref ig, .ref sl, .ref kl, .int 0, .int 0, .int 0])), (sl, .inr (1, [.int 0, .ref dz, .int 0]))] := hD
  refine W.widen (k := 0) (n := 0) (Nat.le_refl _) (Nat.le_refl _) ?_
  have hw : r_2 = 0 := hw
  subst hw
  refine lv_if_ne (tgt := 19) hx hb dX8_margin_10 (by decide) (fun h9 => absurd h9 (by decide)) (fun _ => ?_)
  refine lv_aload_n hx hb dX8_margin_13 rfl (lv_at hl 0 rfl) ?_
  refine lv_iconst (v := 1) hx hb dX8_margin_14 (by decide) ?_
  have hPc := hP.sub (ws' := [(mm, .inr (10, [.int 0, .ref pl, .ref ig, .ref sl, .ref kl, .int 0, .int 0, .int 0]))]) [2] rfl
  have hDc := hD.sub (ws' := [(mm, .inr (10, [.int 0, .ref pl, .ref ig, .ref sl, .ref kl, .int 0, .int 0, .int 0]))]) [2] (by decide) rfl
  have hKc := hK.sub (tys' := []) [] rfl
  have hFc := va_free (wc := [(mm, .inr (10, [.int 0, .ref pl, .ref ig, .ref sl, .ref kl, .int 0, .int 0, .int 0]))]) hD hS hA [2] rfl
  refine va_calli (va_runV (As := [.int 1]) (rest := []) ⟨hx, hb, hml, hown, hts⟩ (c_X8_no l dC dI mm pl ig sl kl (1 : Int32) (0 : Int32) _ ) (cwV 1 hts gX8_margin_X8_no rfl rfl rfl (by decide +kernel) ⟨Nat.le_of_ble_eq_true rfl, Nat.le_of_ble_eq_true rfl⟩) ⟨pr_blind, va_recv hKc hPc (ci := 10) (q0 := 0) rfl rfl, fun U hU hW => ⟨rfl, pr_mk hU hW hPc hKc hDc⟩⟩ rfl rfl hl.1 rfl (lv_room (Nat.le_of_ble_eq_true rfl)) dX8_margin_15 ⟨Nat.le_of_ble_eq_true rfl, Nat.le_of_ble_eq_true rfl⟩) hS (fun q _ h => hFc q h) hFc (fun r_4 u_3 t H1 locs ht hvm hw hB hz1 hk1 hS => ?_)
  obtain ⟨hP1, hK1, hD1⟩ := hB
  rw [ht] at hP1
  obtain ⟨hP, hD⟩ := va_join (wr := [(pl, .inr (1, [.int 0, .ref dz, .int 0])), (kl, .inr (1, [.int 0, .ref dz, .int 0])), (sl, .inr (1, [.int 0, .ref dz, .int 0]))]) (w1 := [(mm, .inr (10, [.int 1, .ref pl, .ref ig, .ref sl, .ref kl, .int 0, .int 0, .int 0]))]) hP hD [2] [0, 1, 3] rfl rfl (by decide) (by decide) hk1 hFc hP1 hD1
  generalize H1 = H at hP hS ⊢
  have hP : va_P (dC, dI) vwCl [(pl, .inr (1, [.int 0, .ref dz, .int 0])), (kl, .inr (1, [.int 0, .ref dz, .int 0])), (sl, .inr (1, [.int 0, .ref dz, .int 0])), (mm, .inr (10, [.int 1, .ref pl, .ref ig, .ref sl, .ref kl, .int 0, .int 0, .int 0]))] H := hP
  have hD : va_D A [(pl, .inr (1, [.int 0, .ref dz, .int 0])), (kl, .inr (1, [.int 0, .ref dz, .int 0])), (sl, .inr (1, [.int 0, .ref dz, .int 0])), (mm, .inr (10, [.int 1, .ref pl, .ref ig, .ref sl, .ref kl, .int 0, .int 0, .int 0]))] := hD
  refine W.widen (k := 0) (n := 0) (Nat.le_refl _) (Nat.le_refl _) ?_
  have hw : r_4 = 0 := hw
  subst hw
  have hP9 := hP.sub (ws' := [(mm, .inr (10, [.int 1, .ref pl, .ref ig, .ref sl, .ref kl, .int 0, .int 0, .int 0]))]) [3] rfl
  have hD9 := hD.sub (ws' := [(mm, .inr (10, [.int 1, .ref pl, .ref ig, .ref sl, .ref kl, .int 0, .int 0, .int 0]))]) [3] (by decide) rfl
  have hK9 := hK.sub (tys' := []) [] rfl
  refine W.widen (k := 0) (n := 0) (Nat.le_of_ble_eq_true rfl) (Nat.le_of_ble_eq_true rfl) ?_
  exact W.iret (v := 0) hx hb hr (fun t ht hW => ⟨⟨0, (), rfl, rfl, po_mk ht hW hP9 hK9 hD9⟩, hS.F ht⟩) hS.2.2 dX8_margin_18

set_option maxHeartbeats 4000000 in
set_option maxRecDepth 100000 in
theorem c_X8_wouldWin (l : Launch) (dC : Nat → ClassId) (dI : Nat → Nat → Nat) (mm : Nat) (pl : Nat) (ig : Nat) (sl : Nat) (kl : Nat) (dz : Nat) (a0 : Int32) (a1 : Int32) (a2 : Int32) (sz : Nat)  : Met l yX8_wouldWin wsX8_wouldWin ({ frames := 4, cells := 0, slots := 0, locals := 110 }) (va_Pc [.ref mm, .int a0, .int a1, .int a2] (fun U => pr_ dC dI [(mm, .inr (10, [.int 0, .ref pl, .ref ig, .ref sl, .ref kl, .int 0, .int 0, .int 0])), (pl, .inr (1, [.int 0, .ref dz, .int 0])), (sl, .inr (1, [.int 0, .ref dz, .int 0])), (kl, .inr (1, [.int 0, .ref dz, .int 0]))] [] sz U ∧ mo_  U)) (va_Qi (fun (r : Int32) (_ : Unit) => r = 0) (fun (_ : Unit) t => po_ dC dI [(mm, .inr (10, [.int 1, .ref pl, .ref ig, .ref sl, .ref kl, .int 0, .int 0, .int 0]))] [] (va_A [(mm, .inr (10, [.int 0, .ref pl, .ref ig, .ref sl, .ref kl, .int 0, .int 0, .int 0])), (pl, .inr (1, [.int 0, .ref dz, .int 0])), (sl, .inr (1, [.int 0, .ref dz, .int 0])), (kl, .inr (1, [.int 0, .ref dz, .int 0]))] sz) t) (va_A [(mm, .inr (10, [.int 0, .ref pl, .ref ig, .ref sl, .ref kl, .int 0, .int 0, .int 0])), (pl, .inr (1, [.int 0, .ref dz, .int 0])), (sl, .inr (1, [.int 0, .ref dz, .int 0])), (kl, .inr (1, [.int 0, .ref dz, .int 0]))] sz)) 0 0 (va_A [(mm, .inr (10, [.int 0, .ref pl, .ref ig, .ref sl, .ref kl, .int 0, .int 0, .int 0])), (pl, .inr (1, [.int 0, .ref dz, .int 0])), (sl, .inr (1, [.int 0, .ref dz, .int 0])), (kl, .inr (1, [.int 0, .ref dz, .int 0]))] sz) := by
  refine Met.ofW (cc := cX8_wouldWin) (maxL := 5) (ret := (some .int)) (by decide) rfl ?_
  intro p e s m args below meth c s₁ B hml hv
  obtain ⟨rfl, ⟨hsz, hP, hK, hD0⟩, hXs⟩ := hv
  have hx := B.exec
  have hb := B.bytes
  have hr := B.returns
  have hts := atoms_spec (ws := wsX8_wouldWin) B.pre
  have hown : s.vm.findClass RX8 = some m.cls := findClass_of_methodNamed B.named
  have hlocks := B.notSynchronized
  subst hsz
  have hD := hD0.self (sz := s.heap.size)
  generalize hAe : va_A [(mm, .inr (10, [.int 0, .ref pl, .ref ig, .ref sl, .ref kl, .int 0, .int 0, .int 0])), (pl, .inr (1, [.int 0, .ref dz, .int 0])), (sl, .inr (1, [.int 0, .ref dz, .int 0])), (kl, .inr (1, [.int 0, .ref dz, .int 0]))] s.heap.size = A at hD ⊢
  have hA : ∀ q : Nat, s.heap.size ≤ q → A q := fun q h => by rw [← hAe]; exact Or.inr h
  have hS : va_S A s.heap s.heap [] := va_S.rf
  have hP : va_P (dC, dI) vwCl [(mm, .inr (10, [.int 0, .ref pl, .ref ig, .ref sl, .ref kl, .int 0, .int 0, .int 0])), (pl, .inr (1, [.int 0, .ref dz, .int 0])), (sl, .inr (1, [.int 0, .ref dz, .int 0])), (kl, .inr (1, [.int 0, .ref dz, .int 0]))] s.heap := hP
  have hK : va_K (dC, dI) vwCl [] s := hK
  have hl := lv_entry ([.ref mm, .int a0, .int a1, .int a2]) (n := 5) (Nat.le_of_ble_eq_true rfl)
  rw [lg_entry_eq]
  generalize (lg_sl ([.ref mm, .int a0, .int a1, .int a2]) ++ List.replicate (5 - (lg_sl ([.ref mm, .int a0, .int a1, .int a2])).length) Slot.unset).toArray = ls at hl ⊢
  have hl : lv_has ls 5 [(0, .ref mm), (1, .int a0), (2, .int a1), (3, .int a2)] := hl
  refine lv_aload_n hx hb dX8_wouldWin_0 rfl (lv_at hl 0 rfl) ?_
  refine lv_iconst (v := 0) hx hb dX8_wouldWin_1 (by decide) ?_
  have hinX8 : ∀ w ∈ u_ws RX8 TX8 8, w ∈ wsX8_wouldWin := by decide +kernel
  refine va_put (D := (dC, dI)) (ci := 10) (v := .int 0) (ty := .int) (C := RX8) (T := TX8) (N := 8) hx hb hts hinX8 tyX8 tyX8_ok nmX8 hown hK hP hD hS 0 rfl rfl 0 (by decide) (hts (.fieldLink RX8 26 "BallotLoomModel" "thrown" "I") (by decide +kernel)) (fun _ h9 => h9) rfl (by decide +kernel) rfl rfl (Nat.le_of_ble_eq_true rfl) dX8_wouldWin_2 (fun H locs hP hD hS => ?_)
  have hP : va_P (dC, dI) vwCl [(mm, .inr (10, [.int 0, .ref pl, .ref ig, .ref sl, .ref kl, .int 0, .int 0, .int 0])), (pl, .inr (1, [.int 0, .ref dz, .int 0])), (sl, .inr (1, [.int 0, .ref dz, .int 0])), (kl, .inr (1, [.int 0, .ref dz, .int 0]))] H := hP
  have hD : va_D A [(mm, .inr (10, [.int 0, .ref pl, .ref ig, .ref sl, .ref kl, .int 0, .int 0, .int 0])), (pl, .inr (1, [.int 0, .ref dz, .int 0])), (sl, .inr (1, [.int 0, .ref dz, .int 0])), (kl, .inr (1, [.int 0, .ref dz, .int 0]))] := hD
  refine lv_aload_n hx hb dX8_wouldWin_5 rfl (lv_at hl 0 rfl) ?_
  refine lv_iload_n hx hb dX8_wouldWin_6 rfl (lv_at hl 1 rfl) ?_
  have hPc := hP.sub (ws' := [(mm, .inr (10, [.int 0, .ref pl, .ref ig, .ref sl, .ref kl, .int 0, .int 0, .int 0])), (kl, .inr (1, [.int 0, .ref dz, .int 0]))]) [0, 3] rfl
  have hDc := hD.sub (ws' := [(mm, .inr (10, [.int 0, .ref pl, .ref ig, .ref sl, .ref kl, .int 0, .int 0, .int 0])), (kl, .inr (1, [.int 0, .ref dz, .int 0]))]) [0, 3] (by decide) rfl
  have hKc := hK.sub (tys' := []) [] rfl
  have hFc := va_free (wc := [(mm, .inr (10, [.int 0, .ref pl, .ref ig, .ref sl, .ref kl, .int 0, .int 0, .int 0])), (kl, .inr (1, [.int 0, .ref dz, .int 0]))]) hD hS hA [0, 3] rfl
  refine va_calli (va_runV (As := [.int a0]) (rest := []) ⟨hx, hb, hml, hown, hts⟩ (c_X8_isStack l dC dI mm pl ig sl kl dz a0 _ ) (cwV 1 hts gX8_wouldWin_X8_isStack rfl rfl rfl (by decide +kernel) ⟨Nat.le_of_ble_eq_true rfl, Nat.le_of_ble_eq_true rfl⟩) ⟨pe_blind mo_bl, va_recv hKc hPc (ci := 10) (q0 := 0) rfl rfl, fun U hU hW => ⟨rfl, pr_mk hU hW hPc hKc hDc, mo_mk hW hXs⟩⟩ rfl rfl hl.1 rfl (lv_room (Nat.le_of_ble_eq_true rfl)) dX8_wouldWin_7 ⟨Nat.le_of_ble_eq_true rfl, Nat.le_of_ble_eq_true rfl⟩) hS (fun q _ h => hFc q h) hFc (fun r_2 u_1 t H1 locs ht hvm hw hB hz1 hk1 hS => ?_)
  obtain ⟨hP1, hK1, hD1⟩ := hB
  rw [ht] at hP1
  obtain ⟨hP, hD⟩ := va_join (wr := [(pl, .inr (1, [.int 0, .ref dz, .int 0])), (sl, .inr (1, [.int 0, .ref dz, .int 0]))]) (w1 := [(mm, .inr (10, [.int 0, .ref pl, .ref ig, .ref sl, .ref kl, .int 0, .int 0, .int 0])), (kl, .inr (1, [.int 0, .ref dz, .int 0]))]) hP hD [0, 3] [1, 2] rfl rfl (by decide) (by decide) hk1 hFc hP1 hD1
  generalize H1 = H at hP hS ⊢
  have hP : va_P (dC, dI) vwCl [(pl, .inr (1, [.int 0, .ref dz, .int 0])), (sl, .inr (1, [.int 0, .ref dz, .int 0])), (mm, .inr (10, [.int 0, .ref pl, .ref ig, .ref sl, .ref kl, .int 0, .int 0, .int 0])), (kl, .inr (1, [.int 0, .ref dz, .int 0]))] H := hP
  have hD : va_D A [(pl, .inr (1, [.int 0, .ref dz, .int 0])), (sl, .inr (1, [.int 0, .ref dz, .int 0])), (mm, .inr (10, [.int 0, .ref pl, .ref ig, .ref sl, .ref kl, .int 0, .int 0, .int 0])), (kl, .inr (1, [.int 0, .ref dz, .int 0]))] := hD
  refine W.widen (k := 0) (n := 0) (Nat.le_refl _) (Nat.le_refl _) ?_
  have hw : r_2 = 0 := hw
  subst hw
  refine lv_if_ne (tgt := 19) hx hb dX8_wouldWin_10 (by decide) (fun h9 => absurd h9 (by decide)) (fun _ => ?_)
  refine lv_aload_n hx hb dX8_wouldWin_13 rfl (lv_at hl 0 rfl) ?_
  refine lv_iconst (v := 1) hx hb dX8_wouldWin_14 (by decide) ?_
  have hPc := hP.sub (ws' := [(mm, .inr (10, [.int 0, .ref pl, .ref ig, .ref sl, .ref kl, .int 0, .int 0, .int 0]))]) [2] rfl
  have hDc := hD.sub (ws' := [(mm, .inr (10, [.int 0, .ref pl, .ref ig, .ref sl, .ref kl, .int 0, .int 0, .int 0]))]) [2] (by decide) rfl
  have hKc := hK.sub (tys' := []) [] rfl
  have hFc := va_free (wc := [(mm, .inr (10, [.int 0, .ref pl, .ref ig, .ref sl, .ref kl, .int 0, .int 0, .int 0]))]) hD hS hA [2] rfl
  refine va_calli (va_runV (As := [.int 1]) (rest := []) ⟨hx, hb, hml, hown, hts⟩ (c_X8_no l dC dI mm pl ig sl kl (1 : Int32) (0 : Int32) _ ) (cwV 1 hts gX8_wouldWin_X8_no rfl rfl rfl (by decide +kernel) ⟨Nat.le_of_ble_eq_true rfl, Nat.le_of_ble_eq_true rfl⟩) ⟨pr_blind, va_recv hKc hPc (ci := 10) (q0 := 0) rfl rfl, fun U hU hW => ⟨rfl, pr_mk hU hW hPc hKc hDc⟩⟩ rfl rfl hl.1 rfl (lv_room (Nat.le_of_ble_eq_true rfl)) dX8_wouldWin_15 ⟨Nat.le_of_ble_eq_true rfl, Nat.le_of_ble_eq_true rfl⟩) hS (fun q _ h => hFc q h) hFc (fun r_4 u_3 t H1 locs ht hvm hw hB hz1 hk1 hS => ?_)
  obtain ⟨hP1, hK1, hD1⟩ := hB
  rw [ht] at hP1
  obtain ⟨hP, hD⟩ := va_join (wr := [(pl, .inr (1, [.int 0, .ref dz, .int 0])), (sl, .inr (1, [.int 0, .ref dz, .int 0])), (kl, .inr (1, [.int 0, .ref dz, .int 0]))]) (w1 := [(mm, .inr (10, [.int 1, .ref pl, .ref ig, .ref sl, .ref kl, .int 0, .int 0, .int 0]))]) hP hD [2] [0, 1, 3] rfl rfl (by decide) (by decide) hk1 hFc hP1 hD1
  generalize H1 = H at hP hS ⊢
  have hP : va_P (dC, dI) vwCl [(pl, .inr (1, [.int 0, .ref dz, .int 0])), (sl, .inr (1, [.int 0, .ref dz, .int 0])), (kl, .inr (1, [.int 0, .ref dz, .int 0])), (mm, .inr (10, [.int 1, .ref pl, .ref ig, .ref sl, .ref kl, .int 0, .int 0, .int 0]))] H := hP
  have hD : va_D A [(pl, .inr (1, [.int 0, .ref dz, .int 0])), (sl, .inr (1, [.int 0, .ref dz, .int 0])), (kl, .inr (1, [.int 0, .ref dz, .int 0])), (mm, .inr (10, [.int 1, .ref pl, .ref ig, .ref sl, .ref kl, .int 0, .int 0, .int 0]))] := hD
  refine W.widen (k := 0) (n := 0) (Nat.le_refl _) (Nat.le_refl _) ?_
  have hw : r_4 = 0 := hw
  subst hw
  have hP9 := hP.sub (ws' := [(mm, .inr (10, [.int 1, .ref pl, .ref ig, .ref sl, .ref kl, .int 0, .int 0, .int 0]))]) [3] rfl
  have hD9 := hD.sub (ws' := [(mm, .inr (10, [.int 1, .ref pl, .ref ig, .ref sl, .ref kl, .int 0, .int 0, .int 0]))]) [3] (by decide) rfl
  have hK9 := hK.sub (tys' := []) [] rfl
  refine W.widen (k := 0) (n := 0) (Nat.le_of_ble_eq_true rfl) (Nat.le_of_ble_eq_true rfl) ?_
  exact W.iret (v := 0) hx hb hr (fun t ht hW => ⟨⟨0, (), rfl, rfl, po_mk ht hW hP9 hK9 hD9⟩, hS.F ht⟩) hS.2.2 dX8_wouldWin_18

set_option maxHeartbeats 4000000 in
set_option maxRecDepth 100000 in
theorem c_X8_lie (l : Launch) (dC : Nat → ClassId) (dI : Nat → Nat → Nat) (mm : Nat) (pl : Nat) (ig : Nat) (sl : Nat) (kl : Nat) (dz : Nat) (a0 : Int32) (a1 : Int32) (sz : Nat)  : Met l yX8_lie wsX8_lie ({ frames := 4, cells := 0, slots := 0, locals := 110 }) (va_Pc [.ref mm, .int a0, .int a1] (fun U => pr_ dC dI [(mm, .inr (10, [.int 0, .ref pl, .ref ig, .ref sl, .ref kl, .int 0, .int 0, .int 0])), (pl, .inr (1, [.int 0, .ref dz, .int 0])), (sl, .inr (1, [.int 0, .ref dz, .int 0])), (kl, .inr (1, [.int 0, .ref dz, .int 0]))] [] sz U ∧ mo_  U)) (va_Qi (fun (r : Int32) (_ : Unit) => r = 0) (fun (_ : Unit) t => po_ dC dI [(mm, .inr (10, [.int 1, .ref pl, .ref ig, .ref sl, .ref kl, .int 0, .int 0, .int 0]))] [] (va_A [(mm, .inr (10, [.int 0, .ref pl, .ref ig, .ref sl, .ref kl, .int 0, .int 0, .int 0])), (pl, .inr (1, [.int 0, .ref dz, .int 0])), (sl, .inr (1, [.int 0, .ref dz, .int 0])), (kl, .inr (1, [.int 0, .ref dz, .int 0]))] sz) t) (va_A [(mm, .inr (10, [.int 0, .ref pl, .ref ig, .ref sl, .ref kl, .int 0, .int 0, .int 0])), (pl, .inr (1, [.int 0, .ref dz, .int 0])), (sl, .inr (1, [.int 0, .ref dz, .int 0])), (kl, .inr (1, [.int 0, .ref dz, .int 0]))] sz)) 0 0 (va_A [(mm, .inr (10, [.int 0, .ref pl, .ref ig, .ref sl, .ref kl, .int 0, .int 0, .int 0])), (pl, .inr (1, [.int 0, .ref dz, .int 0])), (sl, .inr (1, [.int 0, .ref dz, .int 0])), (kl, .inr (1, [.int 0, .ref dz, .int 0]))] sz) := by
  refine Met.ofW (cc := cX8_lie) (maxL := 17) (ret := (some .int)) (by decide) rfl ?_
  intro p e s m args below meth c s₁ B hml hv
  obtain ⟨rfl, ⟨hsz, hP, hK, hD0⟩, hXs⟩ := hv
  have hx := B.exec
  have hb := B.bytes
  have hr := B.returns
  have hts := atoms_spec (ws := wsX8_lie) B.pre
  have hown : s.vm.findClass RX8 = some m.cls := findClass_of_methodNamed B.named
  have hlocks := B.notSynchronized
  subst hsz
  have hD := hD0.self (sz := s.heap.size)
  generalize hAe : va_A [(mm, .inr (10, [.int 0, .ref pl, .ref ig, .ref sl, .ref kl, .int 0, .int 0, .int 0])), (pl, .inr (1, [.int 0, .ref dz, .int 0])), (sl, .inr (1, [.int 0, .ref dz, .int 0])), (kl, .inr (1, [.int 0, .ref dz, .int 0]))] s.heap.size = A at hD ⊢
  have hA : ∀ q : Nat, s.heap.size ≤ q → A q := fun q h => by rw [← hAe]; exact Or.inr h
  have hS : va_S A s.heap s.heap [] := va_S.rf
  have hP : va_P (dC, dI) vwCl [(mm, .inr (10, [.int 0, .ref pl, .ref ig, .ref sl, .ref kl, .int 0, .int 0, .int 0])), (pl, .inr (1, [.int 0, .ref dz, .int 0])), (sl, .inr (1, [.int 0, .ref dz, .int 0])), (kl, .inr (1, [.int 0, .ref dz, .int 0]))] s.heap := hP
  have hK : va_K (dC, dI) vwCl [] s := hK
  have hl := lv_entry ([.ref mm, .int a0, .int a1]) (n := 17) (Nat.le_of_ble_eq_true rfl)
  rw [lg_entry_eq]
  generalize (lg_sl ([.ref mm, .int a0, .int a1]) ++ List.replicate (17 - (lg_sl ([.ref mm, .int a0, .int a1])).length) Slot.unset).toArray = ls at hl ⊢
  have hl : lv_has ls 17 [(0, .ref mm), (1, .int a0), (2, .int a1)] := hl
  refine lv_aload_n hx hb dX8_lie_0 rfl (lv_at hl 0 rfl) ?_
  refine lv_iconst (v := 0) hx hb dX8_lie_1 (by decide) ?_
  have hinX8 : ∀ w ∈ u_ws RX8 TX8 8, w ∈ wsX8_lie := by decide +kernel
  refine va_put (D := (dC, dI)) (ci := 10) (v := .int 0) (ty := .int) (C := RX8) (T := TX8) (N := 8) hx hb hts hinX8 tyX8 tyX8_ok nmX8 hown hK hP hD hS 0 rfl rfl 0 (by decide) (hts (.fieldLink RX8 26 "BallotLoomModel" "thrown" "I") (by decide +kernel)) (fun _ h9 => h9) rfl (by decide +kernel) rfl rfl (Nat.le_of_ble_eq_true rfl) dX8_lie_2 (fun H locs hP hD hS => ?_)
  have hP : va_P (dC, dI) vwCl [(mm, .inr (10, [.int 0, .ref pl, .ref ig, .ref sl, .ref kl, .int 0, .int 0, .int 0])), (pl, .inr (1, [.int 0, .ref dz, .int 0])), (sl, .inr (1, [.int 0, .ref dz, .int 0])), (kl, .inr (1, [.int 0, .ref dz, .int 0]))] H := hP
  have hD : va_D A [(mm, .inr (10, [.int 0, .ref pl, .ref ig, .ref sl, .ref kl, .int 0, .int 0, .int 0])), (pl, .inr (1, [.int 0, .ref dz, .int 0])), (sl, .inr (1, [.int 0, .ref dz, .int 0])), (kl, .inr (1, [.int 0, .ref dz, .int 0]))] := hD
  refine lv_aload_n hx hb dX8_lie_5 rfl (lv_at hl 0 rfl) ?_
  refine lv_iload_n hx hb dX8_lie_6 rfl (lv_at hl 1 rfl) ?_
  have hPc := hP.sub (ws' := [(mm, .inr (10, [.int 0, .ref pl, .ref ig, .ref sl, .ref kl, .int 0, .int 0, .int 0])), (kl, .inr (1, [.int 0, .ref dz, .int 0]))]) [0, 3] rfl
  have hDc := hD.sub (ws' := [(mm, .inr (10, [.int 0, .ref pl, .ref ig, .ref sl, .ref kl, .int 0, .int 0, .int 0])), (kl, .inr (1, [.int 0, .ref dz, .int 0]))]) [0, 3] (by decide) rfl
  have hKc := hK.sub (tys' := []) [] rfl
  have hFc := va_free (wc := [(mm, .inr (10, [.int 0, .ref pl, .ref ig, .ref sl, .ref kl, .int 0, .int 0, .int 0])), (kl, .inr (1, [.int 0, .ref dz, .int 0]))]) hD hS hA [0, 3] rfl
  refine va_calli (va_runV (As := [.int a0]) (rest := []) ⟨hx, hb, hml, hown, hts⟩ (c_X8_isStack l dC dI mm pl ig sl kl dz a0 _ ) (cwV 1 hts gX8_lie_X8_isStack rfl rfl rfl (by decide +kernel) ⟨Nat.le_of_ble_eq_true rfl, Nat.le_of_ble_eq_true rfl⟩) ⟨pe_blind mo_bl, va_recv hKc hPc (ci := 10) (q0 := 0) rfl rfl, fun U hU hW => ⟨rfl, pr_mk hU hW hPc hKc hDc, mo_mk hW hXs⟩⟩ rfl rfl hl.1 rfl (lv_room (Nat.le_of_ble_eq_true rfl)) dX8_lie_7 ⟨Nat.le_of_ble_eq_true rfl, Nat.le_of_ble_eq_true rfl⟩) hS (fun q _ h => hFc q h) hFc (fun r_2 u_1 t H1 locs ht hvm hw hB hz1 hk1 hS => ?_)
  obtain ⟨hP1, hK1, hD1⟩ := hB
  rw [ht] at hP1
  obtain ⟨hP, hD⟩ := va_join (wr := [(pl, .inr (1, [.int 0, .ref dz, .int 0])), (sl, .inr (1, [.int 0, .ref dz, .int 0]))]) (w1 := [(mm, .inr (10, [.int 0, .ref pl, .ref ig, .ref sl, .ref kl, .int 0, .int 0, .int 0])), (kl, .inr (1, [.int 0, .ref dz, .int 0]))]) hP hD [0, 3] [1, 2] rfl rfl (by decide) (by decide) hk1 hFc hP1 hD1
  generalize H1 = H at hP hS ⊢
  have hP : va_P (dC, dI) vwCl [(pl, .inr (1, [.int 0, .ref dz, .int 0])), (sl, .inr (1, [.int 0, .ref dz, .int 0])), (mm, .inr (10, [.int 0, .ref pl, .ref ig, .ref sl, .ref kl, .int 0, .int 0, .int 0])), (kl, .inr (1, [.int 0, .ref dz, .int 0]))] H := hP
  have hD : va_D A [(pl, .inr (1, [.int 0, .ref dz, .int 0])), (sl, .inr (1, [.int 0, .ref dz, .int 0])), (mm, .inr (10, [.int 0, .ref pl, .ref ig, .ref sl, .ref kl, .int 0, .int 0, .int 0])), (kl, .inr (1, [.int 0, .ref dz, .int 0]))] := hD
  refine W.widen (k := 0) (n := 0) (Nat.le_refl _) (Nat.le_refl _) ?_
  have hw : r_2 = 0 := hw
  subst hw
  refine lv_if_ne (tgt := 19) hx hb dX8_lie_10 (by decide) (fun h9 => absurd h9 (by decide)) (fun _ => ?_)
  refine lv_aload_n hx hb dX8_lie_13 rfl (lv_at hl 0 rfl) ?_
  refine lv_iconst (v := 1) hx hb dX8_lie_14 (by decide) ?_
  have hPc := hP.sub (ws' := [(mm, .inr (10, [.int 0, .ref pl, .ref ig, .ref sl, .ref kl, .int 0, .int 0, .int 0]))]) [2] rfl
  have hDc := hD.sub (ws' := [(mm, .inr (10, [.int 0, .ref pl, .ref ig, .ref sl, .ref kl, .int 0, .int 0, .int 0]))]) [2] (by decide) rfl
  have hKc := hK.sub (tys' := []) [] rfl
  have hFc := va_free (wc := [(mm, .inr (10, [.int 0, .ref pl, .ref ig, .ref sl, .ref kl, .int 0, .int 0, .int 0]))]) hD hS hA [2] rfl
  refine va_calli (va_runV (As := [.int 1]) (rest := []) ⟨hx, hb, hml, hown, hts⟩ (c_X8_no l dC dI mm pl ig sl kl (1 : Int32) (0 : Int32) _ ) (cwV 1 hts gX8_lie_X8_no rfl rfl rfl (by decide +kernel) ⟨Nat.le_of_ble_eq_true rfl, Nat.le_of_ble_eq_true rfl⟩) ⟨pr_blind, va_recv hKc hPc (ci := 10) (q0 := 0) rfl rfl, fun U hU hW => ⟨rfl, pr_mk hU hW hPc hKc hDc⟩⟩ rfl rfl hl.1 rfl (lv_room (Nat.le_of_ble_eq_true rfl)) dX8_lie_15 ⟨Nat.le_of_ble_eq_true rfl, Nat.le_of_ble_eq_true rfl⟩) hS (fun q _ h => hFc q h) hFc (fun r_4 u_3 t H1 locs ht hvm hw hB hz1 hk1 hS => ?_)
  obtain ⟨hP1, hK1, hD1⟩ := hB
  rw [ht] at hP1
  obtain ⟨hP, hD⟩ := va_join (wr := [(pl, .inr (1, [.int 0, .ref dz, .int 0])), (sl, .inr (1, [.int 0, .ref dz, .int 0])), (kl, .inr (1, [.int 0, .ref dz, .int 0]))]) (w1 := [(mm, .inr (10, [.int 1, .ref pl, .ref ig, .ref sl, .ref kl, .int 0, .int 0, .int 0]))]) hP hD [2] [0, 1, 3] rfl rfl (by decide) (by decide) hk1 hFc hP1 hD1
  generalize H1 = H at hP hS ⊢
  have hP : va_P (dC, dI) vwCl [(pl, .inr (1, [.int 0, .ref dz, .int 0])), (sl, .inr (1, [.int 0, .ref dz, .int 0])), (kl, .inr (1, [.int 0, .ref dz, .int 0])), (mm, .inr (10, [.int 1, .ref pl, .ref ig, .ref sl, .ref kl, .int 0, .int 0, .int 0]))] H := hP
  have hD : va_D A [(pl, .inr (1, [.int 0, .ref dz, .int 0])), (sl, .inr (1, [.int 0, .ref dz, .int 0])), (kl, .inr (1, [.int 0, .ref dz, .int 0])), (mm, .inr (10, [.int 1, .ref pl, .ref ig, .ref sl, .ref kl, .int 0, .int 0, .int 0]))] := hD
  refine W.widen (k := 0) (n := 0) (Nat.le_refl _) (Nat.le_refl _) ?_
  have hw : r_4 = 0 := hw
  subst hw
  have hP9 := hP.sub (ws' := [(mm, .inr (10, [.int 1, .ref pl, .ref ig, .ref sl, .ref kl, .int 0, .int 0, .int 0]))]) [3] rfl
  have hD9 := hD.sub (ws' := [(mm, .inr (10, [.int 1, .ref pl, .ref ig, .ref sl, .ref kl, .int 0, .int 0, .int 0]))]) [3] (by decide) rfl
  have hK9 := hK.sub (tys' := []) [] rfl
  refine W.widen (k := 0) (n := 0) (Nat.le_of_ble_eq_true rfl) (Nat.le_of_ble_eq_true rfl) ?_
  exact W.iret (v := 0) hx hb hr (fun t ht hW => ⟨⟨0, (), rfl, rfl, po_mk ht hW hP9 hK9 hD9⟩, hS.F ht⟩) hS.2.2 dX8_lie_18

set_option maxHeartbeats 4000000 in
set_option maxRecDepth 100000 in
theorem c_X8_pair (l : Launch) (dC : Nat → ClassId) (dI : Nat → Nat → Nat) (mm : Nat) (pl : Nat) (ig : Nat) (sl : Nat) (kl : Nat) (dz : Nat) (a0 : Int32) (a1 : Int32) (a2 : Int32) (a3 : Int32) (sz : Nat)  : Met l yX8_pair wsX8_pair ({ frames := 4, cells := 0, slots := 0, locals := 110 }) (va_Pc [.ref mm, .int a0, .int a1, .int a2, .int a3] (fun U => pr_ dC dI [(mm, .inr (10, [.int 0, .ref pl, .ref ig, .ref sl, .ref kl, .int 0, .int 0, .int 0])), (pl, .inr (1, [.int 0, .ref dz, .int 0])), (sl, .inr (1, [.int 0, .ref dz, .int 0])), (kl, .inr (1, [.int 0, .ref dz, .int 0]))] [] sz U ∧ mo_  U)) (va_Qi (fun (r : Int32) (_ : Unit) => r = 0) (fun (_ : Unit) t => po_ dC dI [(mm, .inr (10, [.int 1, .ref pl, .ref ig, .ref sl, .ref kl, .int 0, .int 0, .int 0]))] [] (va_A [(mm, .inr (10, [.int 0, .ref pl, .ref ig, .ref sl, .ref kl, .int 0, .int 0, .int 0])), (pl, .inr (1, [.int 0, .ref dz, .int 0])), (sl, .inr (1, [.int 0, .ref dz, .int 0])), (kl, .inr (1, [.int 0, .ref dz, .int 0]))] sz) t) (va_A [(mm, .inr (10, [.int 0, .ref pl, .ref ig, .ref sl, .ref kl, .int 0, .int 0, .int 0])), (pl, .inr (1, [.int 0, .ref dz, .int 0])), (sl, .inr (1, [.int 0, .ref dz, .int 0])), (kl, .inr (1, [.int 0, .ref dz, .int 0]))] sz)) 0 0 (va_A [(mm, .inr (10, [.int 0, .ref pl, .ref ig, .ref sl, .ref kl, .int 0, .int 0, .int 0])), (pl, .inr (1, [.int 0, .ref dz, .int 0])), (sl, .inr (1, [.int 0, .ref dz, .int 0])), (kl, .inr (1, [.int 0, .ref dz, .int 0]))] sz) := by
  refine Met.ofW (cc := cX8_pair) (maxL := 5) (ret := (some .int)) (by decide) rfl ?_
  intro p e s m args below meth c s₁ B hml hv
  obtain ⟨rfl, ⟨hsz, hP, hK, hD0⟩, hXs⟩ := hv
  have hx := B.exec
  have hb := B.bytes
  have hr := B.returns
  have hts := atoms_spec (ws := wsX8_pair) B.pre
  have hown : s.vm.findClass RX8 = some m.cls := findClass_of_methodNamed B.named
  have hlocks := B.notSynchronized
  subst hsz
  have hD := hD0.self (sz := s.heap.size)
  generalize hAe : va_A [(mm, .inr (10, [.int 0, .ref pl, .ref ig, .ref sl, .ref kl, .int 0, .int 0, .int 0])), (pl, .inr (1, [.int 0, .ref dz, .int 0])), (sl, .inr (1, [.int 0, .ref dz, .int 0])), (kl, .inr (1, [.int 0, .ref dz, .int 0]))] s.heap.size = A at hD ⊢
  have hA : ∀ q : Nat, s.heap.size ≤ q → A q := fun q h => by rw [← hAe]; exact Or.inr h
  have hS : va_S A s.heap s.heap [] := va_S.rf
  have hP : va_P (dC, dI) vwCl [(mm, .inr (10, [.int 0, .ref pl, .ref ig, .ref sl, .ref kl, .int 0, .int 0, .int 0])), (pl, .inr (1, [.int 0, .ref dz, .int 0])), (sl, .inr (1, [.int 0, .ref dz, .int 0])), (kl, .inr (1, [.int 0, .ref dz, .int 0]))] s.heap := hP
  have hK : va_K (dC, dI) vwCl [] s := hK
  have hl := lv_entry ([.ref mm, .int a0, .int a1, .int a2, .int a3]) (n := 5) (Nat.le_of_ble_eq_true rfl)
  rw [lg_entry_eq]
  generalize (lg_sl ([.ref mm, .int a0, .int a1, .int a2, .int a3]) ++ List.replicate (5 - (lg_sl ([.ref mm, .int a0, .int a1, .int a2, .int a3])).length) Slot.unset).toArray = ls at hl ⊢
  have hl : lv_has ls 5 [(0, .ref mm), (1, .int a0), (2, .int a1), (3, .int a2), (4, .int a3)] := hl
  refine lv_aload_n hx hb dX8_pair_0 rfl (lv_at hl 0 rfl) ?_
  refine lv_iconst (v := 0) hx hb dX8_pair_1 (by decide) ?_
  have hinX8 : ∀ w ∈ u_ws RX8 TX8 8, w ∈ wsX8_pair := by decide +kernel
  refine va_put (D := (dC, dI)) (ci := 10) (v := .int 0) (ty := .int) (C := RX8) (T := TX8) (N := 8) hx hb hts hinX8 tyX8 tyX8_ok nmX8 hown hK hP hD hS 0 rfl rfl 0 (by decide) (hts (.fieldLink RX8 26 "BallotLoomModel" "thrown" "I") (by decide +kernel)) (fun _ h9 => h9) rfl (by decide +kernel) rfl rfl (Nat.le_of_ble_eq_true rfl) dX8_pair_2 (fun H locs hP hD hS => ?_)
  have hP : va_P (dC, dI) vwCl [(mm, .inr (10, [.int 0, .ref pl, .ref ig, .ref sl, .ref kl, .int 0, .int 0, .int 0])), (pl, .inr (1, [.int 0, .ref dz, .int 0])), (sl, .inr (1, [.int 0, .ref dz, .int 0])), (kl, .inr (1, [.int 0, .ref dz, .int 0]))] H := hP
  have hD : va_D A [(mm, .inr (10, [.int 0, .ref pl, .ref ig, .ref sl, .ref kl, .int 0, .int 0, .int 0])), (pl, .inr (1, [.int 0, .ref dz, .int 0])), (sl, .inr (1, [.int 0, .ref dz, .int 0])), (kl, .inr (1, [.int 0, .ref dz, .int 0]))] := hD
  refine lv_aload_n hx hb dX8_pair_5 rfl (lv_at hl 0 rfl) ?_
  refine lv_iload_n hx hb dX8_pair_6 rfl (lv_at hl 1 rfl) ?_
  have hPc := hP.sub (ws' := [(mm, .inr (10, [.int 0, .ref pl, .ref ig, .ref sl, .ref kl, .int 0, .int 0, .int 0])), (sl, .inr (1, [.int 0, .ref dz, .int 0]))]) [0, 2] rfl
  have hDc := hD.sub (ws' := [(mm, .inr (10, [.int 0, .ref pl, .ref ig, .ref sl, .ref kl, .int 0, .int 0, .int 0])), (sl, .inr (1, [.int 0, .ref dz, .int 0]))]) [0, 2] (by decide) rfl
  have hKc := hK.sub (tys' := []) [] rfl
  have hFc := va_free (wc := [(mm, .inr (10, [.int 0, .ref pl, .ref ig, .ref sl, .ref kl, .int 0, .int 0, .int 0])), (sl, .inr (1, [.int 0, .ref dz, .int 0]))]) hD hS hA [0, 2] rfl
  refine va_calli (va_runV (As := [.int a0]) (rest := []) ⟨hx, hb, hml, hown, hts⟩ (c_X8_isDistrict l dC dI mm pl ig sl kl dz a0 _ ) (cwV 1 hts gX8_pair_X8_isDistrict rfl rfl rfl (by decide +kernel) ⟨Nat.le_of_ble_eq_true rfl, Nat.le_of_ble_eq_true rfl⟩) ⟨pe_blind mo_bl, va_recv hKc hPc (ci := 10) (q0 := 0) rfl rfl, fun U hU hW => ⟨rfl, pr_mk hU hW hPc hKc hDc, mo_mk hW hXs⟩⟩ rfl rfl hl.1 rfl (lv_room (Nat.le_of_ble_eq_true rfl)) dX8_pair_7 ⟨Nat.le_of_ble_eq_true rfl, Nat.le_of_ble_eq_true rfl⟩) hS (fun q _ h => hFc q h) hFc (fun r_2 u_1 t H1 locs ht hvm hw hB hz1 hk1 hS => ?_)
  obtain ⟨hP1, hK1, hD1⟩ := hB
  rw [ht] at hP1
  obtain ⟨hP, hD⟩ := va_join (wr := [(pl, .inr (1, [.int 0, .ref dz, .int 0])), (kl, .inr (1, [.int 0, .ref dz, .int 0]))]) (w1 := [(mm, .inr (10, [.int 0, .ref pl, .ref ig, .ref sl, .ref kl, .int 0, .int 0, .int 0])), (sl, .inr (1, [.int 0, .ref dz, .int 0]))]) hP hD [0, 2] [1, 3] rfl rfl (by decide) (by decide) hk1 hFc hP1 hD1
  generalize H1 = H at hP hS ⊢
  have hP : va_P (dC, dI) vwCl [(pl, .inr (1, [.int 0, .ref dz, .int 0])), (kl, .inr (1, [.int 0, .ref dz, .int 0])), (mm, .inr (10, [.int 0, .ref pl, .ref ig, .ref sl, .ref kl, .int 0, .int 0, .int 0])), (sl, .inr (1, [.int 0, .ref dz, .int 0]))] H := hP
  have hD : va_D A [(pl, .inr (1, [.int 0, .ref dz, .int 0])), (kl, .inr (1, [.int 0, .ref dz, .int 0])), (mm, .inr (10, [.int 0, .ref pl, .ref ig, .ref sl, .ref kl, .int 0, .int 0, .int 0])), (sl, .inr (1, [.int 0, .ref dz, .int 0]))] := hD
  refine W.widen (k := 0) (n := 0) (Nat.le_refl _) (Nat.le_refl _) ?_
  have hw : r_2 = 0 := hw
  subst hw
  refine lv_if_eq (tgt := 29) hx hb dX8_pair_10 (by decide) (fun _ => ?_) (fun h9 => absurd h9 (by decide))
  refine lv_aload_n hx hb dX8_pair_29 rfl (lv_at hl 0 rfl) ?_
  refine lv_iconst (v := 1) hx hb dX8_pair_30 (by decide) ?_
  have hPc := hP.sub (ws' := [(mm, .inr (10, [.int 0, .ref pl, .ref ig, .ref sl, .ref kl, .int 0, .int 0, .int 0]))]) [2] rfl
  have hDc := hD.sub (ws' := [(mm, .inr (10, [.int 0, .ref pl, .ref ig, .ref sl, .ref kl, .int 0, .int 0, .int 0]))]) [2] (by decide) rfl
  have hKc := hK.sub (tys' := []) [] rfl
  have hFc := va_free (wc := [(mm, .inr (10, [.int 0, .ref pl, .ref ig, .ref sl, .ref kl, .int 0, .int 0, .int 0]))]) hD hS hA [2] rfl
  refine va_calli (va_runV (As := [.int 1]) (rest := []) ⟨hx, hb, hml, hown, hts⟩ (c_X8_no l dC dI mm pl ig sl kl (1 : Int32) (0 : Int32) _ ) (cwV 1 hts gX8_pair_X8_no rfl rfl rfl (by decide +kernel) ⟨Nat.le_of_ble_eq_true rfl, Nat.le_of_ble_eq_true rfl⟩) ⟨pr_blind, va_recv hKc hPc (ci := 10) (q0 := 0) rfl rfl, fun U hU hW => ⟨rfl, pr_mk hU hW hPc hKc hDc⟩⟩ rfl rfl hl.1 rfl (lv_room (Nat.le_of_ble_eq_true rfl)) dX8_pair_31 ⟨Nat.le_of_ble_eq_true rfl, Nat.le_of_ble_eq_true rfl⟩) hS (fun q _ h => hFc q h) hFc (fun r_4 u_3 t H1 locs ht hvm hw hB hz1 hk1 hS => ?_)
  obtain ⟨hP1, hK1, hD1⟩ := hB
  rw [ht] at hP1
  obtain ⟨hP, hD⟩ := va_join (wr := [(pl, .inr (1, [.int 0, .ref dz, .int 0])), (kl, .inr (1, [.int 0, .ref dz, .int 0])), (sl, .inr (1, [.int 0, .ref dz, .int 0]))]) (w1 := [(mm, .inr (10, [.int 1, .ref pl, .ref ig, .ref sl, .ref kl, .int 0, .int 0, .int 0]))]) hP hD [2] [0, 1, 3] rfl rfl (by decide) (by decide) hk1 hFc hP1 hD1
  generalize H1 = H at hP hS ⊢
  have hP : va_P (dC, dI) vwCl [(pl, .inr (1, [.int 0, .ref dz, .int 0])), (kl, .inr (1, [.int 0, .ref dz, .int 0])), (sl, .inr (1, [.int 0, .ref dz, .int 0])), (mm, .inr (10, [.int 1, .ref pl, .ref ig, .ref sl, .ref kl, .int 0, .int 0, .int 0]))] H := hP
  have hD : va_D A [(pl, .inr (1, [.int 0, .ref dz, .int 0])), (kl, .inr (1, [.int 0, .ref dz, .int 0])), (sl, .inr (1, [.int 0, .ref dz, .int 0])), (mm, .inr (10, [.int 1, .ref pl, .ref ig, .ref sl, .ref kl, .int 0, .int 0, .int 0]))] := hD
  refine W.widen (k := 0) (n := 0) (Nat.le_refl _) (Nat.le_refl _) ?_
  have hw : r_4 = 0 := hw
  subst hw
  have hP9 := hP.sub (ws' := [(mm, .inr (10, [.int 1, .ref pl, .ref ig, .ref sl, .ref kl, .int 0, .int 0, .int 0]))]) [3] rfl
  have hD9 := hD.sub (ws' := [(mm, .inr (10, [.int 1, .ref pl, .ref ig, .ref sl, .ref kl, .int 0, .int 0, .int 0]))]) [3] (by decide) rfl
  have hK9 := hK.sub (tys' := []) [] rfl
  refine W.widen (k := 0) (n := 0) (Nat.le_of_ble_eq_true rfl) (Nat.le_of_ble_eq_true rfl) ?_
  exact W.iret (v := 0) hx hb hr (fun t ht hW => ⟨⟨0, (), rfl, rfl, po_mk ht hW hP9 hK9 hD9⟩, hS.F ht⟩) hS.2.2 dX8_pair_34

set_option maxHeartbeats 4000000 in
set_option maxRecDepth 100000 in
theorem c_X8_votes (l : Launch) (dC : Nat → ClassId) (dI : Nat → Nat → Nat) (mm : Nat) (pl : Nat) (ig : Nat) (sl : Nat) (kl : Nat) (dz : Nat) (qt : Int32) (th : Int32) (sz : Nat)  : Met l yX8_votes wsX8_votes ({ frames := 3, cells := 1, slots := 5, locals := 80 }) (va_Pc [.ref mm] (fun U => pr_ dC dI [(mm, .inr (10, [.int th, .ref pl, .ref ig, .ref sl, .ref kl, .int qt, .int 0, .int 0])), (sl, .inr (1, [.int 0, .ref dz, .int 0]))] [] sz U ∧ mo_  U)) (va_Qr (fun (_ : ClassId) => True) (fun (cV : ClassId) RES t => po_ dC dI [(mm, .inr (10, [.int th, .ref pl, .ref ig, .ref sl, .ref kl, .int qt, .int 0, .int 0])), (sl, .inr (1, [.int 0, .ref dz, .int 0])), (RES, .inl (cV, 5, .inl zi))] [(cV, .int)] (va_A [(mm, .inr (10, [.int th, .ref pl, .ref ig, .ref sl, .ref kl, .int qt, .int 0, .int 0])), (sl, .inr (1, [.int 0, .ref dz, .int 0]))] sz) t) (va_A [(mm, .inr (10, [.int th, .ref pl, .ref ig, .ref sl, .ref kl, .int qt, .int 0, .int 0])), (sl, .inr (1, [.int 0, .ref dz, .int 0]))] sz)) 1 5 (va_A [(mm, .inr (10, [.int th, .ref pl, .ref ig, .ref sl, .ref kl, .int qt, .int 0, .int 0])), (sl, .inr (1, [.int 0, .ref dz, .int 0]))] sz) := by
  refine Met.ofW (cc := cX8_votes) (maxL := 5) (ret := (some (.array .int))) (by decide) rfl ?_
  intro p e s m args below meth c s₁ B hml hv
  obtain ⟨rfl, ⟨hsz, hP, hK, hD0⟩, hXs⟩ := hv
  have hx := B.exec
  have hb := B.bytes
  have hr := B.returns
  have hts := atoms_spec (ws := wsX8_votes) B.pre
  have hown : s.vm.findClass RX8 = some m.cls := findClass_of_methodNamed B.named
  have hlocks := B.notSynchronized
  subst hsz
  have hD := hD0.self (sz := s.heap.size)
  generalize hAe : va_A [(mm, .inr (10, [.int th, .ref pl, .ref ig, .ref sl, .ref kl, .int qt, .int 0, .int 0])), (sl, .inr (1, [.int 0, .ref dz, .int 0]))] s.heap.size = A at hD ⊢
  have hA : ∀ q : Nat, s.heap.size ≤ q → A q := fun q h => by rw [← hAe]; exact Or.inr h
  have hS : va_S A s.heap s.heap [] := va_S.rf
  have hP : va_P (dC, dI) vwCl [(mm, .inr (10, [.int th, .ref pl, .ref ig, .ref sl, .ref kl, .int qt, .int 0, .int 0])), (sl, .inr (1, [.int 0, .ref dz, .int 0]))] s.heap := hP
  have hK : va_K (dC, dI) vwCl [] s := hK
  have hl := lv_entry ([.ref mm]) (n := 5) (Nat.le_of_ble_eq_true rfl)
  rw [lg_entry_eq]
  generalize (lg_sl ([.ref mm]) ++ List.replicate (5 - (lg_sl ([.ref mm])).length) Slot.unset).toArray = ls at hl ⊢
  have hl : lv_has ls 5 [(0, .ref mm)] := hl
  refine lv_iconst (v := 5) hx hb dX8_votes_0 (by decide) ?_
  refine va_newa (atype := .int) (ty := .int) (N' := 5) (a0 := (5, .inl zi)) hx hb (hts (.arrayClass (newarray.typeOf .int)) (by decide +kernel)) rfl hK hP hD hS hA (fun _ => rfl) (by decide) (by decide) (by decide) (Nat.le_of_ble_eq_true rfl) (Nat.le_of_ble_eq_true rfl) dX8_votes_1 (fun q_1 c_2 H hK hP hD hS => ?_)
  have hK : va_K (dC, dI) vwCl [(c_2, .int)] s := hK
  have hP : va_P (dC, dI) vwCl [(mm, .inr (10, [.int th, .ref pl, .ref ig, .ref sl, .ref kl, .int qt, .int 0, .int 0])), (sl, .inr (1, [.int 0, .ref dz, .int 0])), (q_1, .inl (c_2, 5, .inl zi))] H := hP
  have hD : va_D A [(mm, .inr (10, [.int th, .ref pl, .ref ig, .ref sl, .ref kl, .int qt, .int 0, .int 0])), (sl, .inr (1, [.int 0, .ref dz, .int 0])), (q_1, .inl (c_2, 5, .inl zi))] := hD
  refine W.widen (k := 1) (n := 5) (Nat.le_of_ble_eq_true rfl) (Nat.le_of_ble_eq_true rfl) ?_
  refine lv_astore_n (lv' := [(1, .ref q_1), (0, .ref mm)]) hx hb dX8_votes_3 rfl hl (by decide) rfl (fun ls hl => ?_)
  refine lv_iconst (v := 0) hx hb dX8_votes_4 (by decide) ?_
  refine lv_istore_n (lv' := [(2, .int 0), (1, .ref q_1), (0, .ref mm)]) hx hb dX8_votes_5 rfl hl (by decide) rfl (fun ls hl => ?_)
  refine lv_iload_n hx hb dX8_votes_6 rfl (lv_at hl 0 rfl) ?_
  refine lv_aload_n hx hb dX8_votes_7 rfl (lv_at hl 2 rfl) ?_
  have hinX8 : ∀ w ∈ u_ws RX8 TX8 8, w ∈ wsX8_votes := by decide +kernel
  refine va_get (D := (dC, dI)) (ci := 10) (v := .ref sl) (C := RX8) (T := TX8) (N := 8) hx hb hts hinX8 hown hK hP 0 rfl rfl 3 (by decide) (hts (.fieldLink RX8 20 "BallotLoomModel" "seatsOf" "Ljava/util/List;") (by decide +kernel)) (fun _ h9 => h9) rfl dX8_votes_8 ?_
  have hPc := hP.sub (ws' := [(sl, .inr (1, [.int 0, .ref dz, .int 0]))]) [1] rfl
  have hDc := hD.sub (ws' := [(sl, .inr (1, [.int 0, .ref dz, .int 0]))]) [1] (by decide) rfl
  have hKc := hK.sub (tys' := []) [] rfl
  have hFc := va_free (wc := [(sl, .inr (1, [.int 0, .ref dz, .int 0]))]) hD hS hA [1] rfl
  refine va_callFi (va_runF (hK.1 1 _ rfl).2 (As := []) (rest := [.int 0]) ⟨hx, hb, hml, hown, hts⟩ (c_Jx4a65c_size_8abf5 l dC dI sl (0 : Int32) dz (0 : Int32) _ ) (va_cwF 0 hts gX8_votes_Jx4a65c_size_8abf5_f30Jx4a65c rfl rfl rfl (mo_of hXs) (by decide +kernel) ⟨Nat.le_of_ble_eq_true rfl, Nat.le_of_ble_eq_true rfl⟩) ⟨pr_blind, va_recv hKc hPc (ci := 1) (q0 := 0) rfl rfl, fun U hU hW => ⟨rfl, pr_mk hU hW hPc hKc hDc⟩⟩ rfl rfl hl.1 rfl (lv_room (Nat.le_of_ble_eq_true rfl)) dX8_votes_11 ⟨Nat.le_of_ble_eq_true rfl, Nat.le_of_ble_eq_true rfl⟩) hS (fun q _ h => hFc q h) hFc (fun r_4 u_3 t H1 locs ht hvm hw hB hz1 hk1 hS => ?_)
  obtain ⟨hP1, hK1, hD1⟩ := hB
  rw [ht] at hP1
  obtain ⟨hP, hD⟩ := va_join (wr := [(mm, .inr (10, [.int th, .ref pl, .ref ig, .ref sl, .ref kl, .int qt, .int 0, .int 0])), (q_1, .inl (c_2, 5, .inl zi))]) (w1 := [(sl, .inr (1, [.int 0, .ref dz, .int 0]))]) hP hD [1] [0, 2] rfl rfl (by decide) (by decide) hk1 hFc hP1 hD1
  generalize H1 = H at hP hS ⊢
  have hP : va_P (dC, dI) vwCl [(mm, .inr (10, [.int th, .ref pl, .ref ig, .ref sl, .ref kl, .int qt, .int 0, .int 0])), (q_1, .inl (c_2, 5, .inl zi)), (sl, .inr (1, [.int 0, .ref dz, .int 0]))] H := hP
  have hD : va_D A [(mm, .inr (10, [.int th, .ref pl, .ref ig, .ref sl, .ref kl, .int qt, .int 0, .int 0])), (q_1, .inl (c_2, 5, .inl zi)), (sl, .inr (1, [.int 0, .ref dz, .int 0]))] := hD
  refine W.widen (k := 1) (n := 5) (Nat.le_refl _) (Nat.le_refl _) ?_
  have hw : r_4 = 0 := hw
  subst hw
  refine lv_icmp_ge (tgt := 64) hx hb dX8_votes_16 (by decide) (fun _ => ?_) (fun h9 => absurd h9 (by decide))
  refine lv_iconst (v := 0) hx hb dX8_votes_64 (by decide) ?_
  refine lv_istore_n (lv' := [(2, .int 0), (1, .ref q_1), (0, .ref mm)]) hx hb dX8_votes_65 rfl hl (by decide) rfl (fun ls hl => ?_)
  refine lv_iload_n hx hb dX8_votes_66 rfl (lv_at hl 0 rfl) ?_
  refine lv_iconst (v := 4) hx hb dX8_votes_67 (by decide) ?_
  refine lv_icmp_ge (tgt := 86) hx hb dX8_votes_68 (by decide) (fun h9 => absurd h9 (by decide)) (fun _ => ?_)
  refine lv_aload_n hx hb dX8_votes_71 rfl (lv_at hl 1 rfl) ?_
  refine lv_iconst (v := 4) hx hb dX8_votes_72 (by decide) ?_
  refine lv_dup2_11 hx hb dX8_votes_73 rfl rfl ?_
  refine va_iald hx hb hK hP 1 0 rfl rfl (by unfold vp_in; decide) dX8_votes_74 ?_
  refine lv_topi (fun y_5 ey_5 => ?_)
  obtain rfl : y_5 = 0 := ey_5.trans (by rfl)
  refine lv_aload_n hx hb dX8_votes_75 rfl (lv_at hl 1 rfl) ?_
  refine lv_iload_n hx hb dX8_votes_76 rfl (lv_at hl 0 rfl) ?_
  refine va_iald hx hb hK hP 1 0 rfl rfl (by unfold vp_in; decide) dX8_votes_77 ?_
  refine lv_topi (fun y_6 ey_6 => ?_)
  obtain rfl : y_6 = 0 := ey_6.trans (by rfl)
  refine lv_iadd hx hb dX8_votes_78 ?_
  refine lv_topi (fun y_7 ey_7 => ?_)
  obtain rfl : y_7 = 0 := ey_7.trans (by decide)
  refine va_iast hx hb hK hP hD hS 1 0 rfl rfl (by unfold vp_in; decide) dX8_votes_79 (fun H locs hP hD hS => ?_)
  have hP : va_P (dC, dI) vwCl [(mm, .inr (10, [.int th, .ref pl, .ref ig, .ref sl, .ref kl, .int qt, .int 0, .int 0])), (q_1, .inl (c_2, 5, .inl zi)), (sl, .inr (1, [.int 0, .ref dz, .int 0]))] H := by have h9 := hP; rw [upd_zi] at h9; exact h9
  have hD : va_D A [(mm, .inr (10, [.int th, .ref pl, .ref ig, .ref sl, .ref kl, .int qt, .int 0, .int 0])), (q_1, .inl (c_2, 5, .inl zi)), (sl, .inr (1, [.int 0, .ref dz, .int 0]))] := by have h9 := hD; rw [upd_zi] at h9; exact h9
  refine lv_iinc (k := 0) (v := 1) (lv' := [(2, .int 1), (1, .ref q_1), (0, .ref mm)]) hx hb dX8_votes_80 hl rfl (by decide) (by decide) rfl (fun ls hl => ?_)
  refine lv_goto (tgt := 66) hx hb dX8_votes_83 (by decide) ?_
  refine lv_iload_n hx hb dX8_votes_66 rfl (lv_at hl 0 rfl) ?_
  refine lv_iconst (v := 4) hx hb dX8_votes_67 (by decide) ?_
  refine lv_icmp_ge (tgt := 86) hx hb dX8_votes_68 (by decide) (fun h9 => absurd h9 (by decide)) (fun _ => ?_)
  refine lv_aload_n hx hb dX8_votes_71 rfl (lv_at hl 1 rfl) ?_
  refine lv_iconst (v := 4) hx hb dX8_votes_72 (by decide) ?_
  refine lv_dup2_11 hx hb dX8_votes_73 rfl rfl ?_
  refine va_iald hx hb hK hP 1 0 rfl rfl (by unfold vp_in; decide) dX8_votes_74 ?_
  refine lv_topi (fun y_8 ey_8 => ?_)
  obtain rfl : y_8 = 0 := ey_8.trans (by rfl)
  refine lv_aload_n hx hb dX8_votes_75 rfl (lv_at hl 1 rfl) ?_
  refine lv_iload_n hx hb dX8_votes_76 rfl (lv_at hl 0 rfl) ?_
  refine va_iald hx hb hK hP 1 0 rfl rfl (by unfold vp_in; decide) dX8_votes_77 ?_
  refine lv_topi (fun y_9 ey_9 => ?_)
  obtain rfl : y_9 = 0 := ey_9.trans (by rfl)
  refine lv_iadd hx hb dX8_votes_78 ?_
  refine lv_topi (fun y_10 ey_10 => ?_)
  obtain rfl : y_10 = 0 := ey_10.trans (by decide)
  refine va_iast hx hb hK hP hD hS 1 0 rfl rfl (by unfold vp_in; decide) dX8_votes_79 (fun H locs hP hD hS => ?_)
  have hP : va_P (dC, dI) vwCl [(mm, .inr (10, [.int th, .ref pl, .ref ig, .ref sl, .ref kl, .int qt, .int 0, .int 0])), (q_1, .inl (c_2, 5, .inl zi)), (sl, .inr (1, [.int 0, .ref dz, .int 0]))] H := by have h9 := hP; rw [upd_zi] at h9; exact h9
  have hD : va_D A [(mm, .inr (10, [.int th, .ref pl, .ref ig, .ref sl, .ref kl, .int qt, .int 0, .int 0])), (q_1, .inl (c_2, 5, .inl zi)), (sl, .inr (1, [.int 0, .ref dz, .int 0]))] := by have h9 := hD; rw [upd_zi] at h9; exact h9
  refine lv_iinc (k := 0) (v := 2) (lv' := [(2, .int 2), (1, .ref q_1), (0, .ref mm)]) hx hb dX8_votes_80 hl rfl (by decide) (by decide) rfl (fun ls hl => ?_)
  refine lv_goto (tgt := 66) hx hb dX8_votes_83 (by decide) ?_
  refine lv_iload_n hx hb dX8_votes_66 rfl (lv_at hl 0 rfl) ?_
  refine lv_iconst (v := 4) hx hb dX8_votes_67 (by decide) ?_
  refine lv_icmp_ge (tgt := 86) hx hb dX8_votes_68 (by decide) (fun h9 => absurd h9 (by decide)) (fun _ => ?_)
  refine lv_aload_n hx hb dX8_votes_71 rfl (lv_at hl 1 rfl) ?_
  refine lv_iconst (v := 4) hx hb dX8_votes_72 (by decide) ?_
  refine lv_dup2_11 hx hb dX8_votes_73 rfl rfl ?_
  refine va_iald hx hb hK hP 1 0 rfl rfl (by unfold vp_in; decide) dX8_votes_74 ?_
  refine lv_topi (fun y_11 ey_11 => ?_)
  obtain rfl : y_11 = 0 := ey_11.trans (by rfl)
  refine lv_aload_n hx hb dX8_votes_75 rfl (lv_at hl 1 rfl) ?_
  refine lv_iload_n hx hb dX8_votes_76 rfl (lv_at hl 0 rfl) ?_
  refine va_iald hx hb hK hP 1 0 rfl rfl (by unfold vp_in; decide) dX8_votes_77 ?_
  refine lv_topi (fun y_12 ey_12 => ?_)
  obtain rfl : y_12 = 0 := ey_12.trans (by rfl)
  refine lv_iadd hx hb dX8_votes_78 ?_
  refine lv_topi (fun y_13 ey_13 => ?_)
  obtain rfl : y_13 = 0 := ey_13.trans (by decide)
  refine va_iast hx hb hK hP hD hS 1 0 rfl rfl (by unfold vp_in; decide) dX8_votes_79 (fun H locs hP hD hS => ?_)
  have hP : va_P (dC, dI) vwCl [(mm, .inr (10, [.int th, .ref pl, .ref ig, .ref sl, .ref kl, .int qt, .int 0, .int 0])), (q_1, .inl (c_2, 5, .inl zi)), (sl, .inr (1, [.int 0, .ref dz, .int 0]))] H := by have h9 := hP; rw [upd_zi] at h9; exact h9
  have hD : va_D A [(mm, .inr (10, [.int th, .ref pl, .ref ig, .ref sl, .ref kl, .int qt, .int 0, .int 0])), (q_1, .inl (c_2, 5, .inl zi)), (sl, .inr (1, [.int 0, .ref dz, .int 0]))] := by have h9 := hD; rw [upd_zi] at h9; exact h9
  refine lv_iinc (k := 0) (v := 3) (lv' := [(2, .int 3), (1, .ref q_1), (0, .ref mm)]) hx hb dX8_votes_80 hl rfl (by decide) (by decide) rfl (fun ls hl => ?_)
  refine lv_goto (tgt := 66) hx hb dX8_votes_83 (by decide) ?_
  refine lv_iload_n hx hb dX8_votes_66 rfl (lv_at hl 0 rfl) ?_
  refine lv_iconst (v := 4) hx hb dX8_votes_67 (by decide) ?_
  refine lv_icmp_ge (tgt := 86) hx hb dX8_votes_68 (by decide) (fun h9 => absurd h9 (by decide)) (fun _ => ?_)
  refine lv_aload_n hx hb dX8_votes_71 rfl (lv_at hl 1 rfl) ?_
  refine lv_iconst (v := 4) hx hb dX8_votes_72 (by decide) ?_
  refine lv_dup2_11 hx hb dX8_votes_73 rfl rfl ?_
  refine va_iald hx hb hK hP 1 0 rfl rfl (by unfold vp_in; decide) dX8_votes_74 ?_
  refine lv_topi (fun y_14 ey_14 => ?_)
  obtain rfl : y_14 = 0 := ey_14.trans (by rfl)
  refine lv_aload_n hx hb dX8_votes_75 rfl (lv_at hl 1 rfl) ?_
  refine lv_iload_n hx hb dX8_votes_76 rfl (lv_at hl 0 rfl) ?_
  refine va_iald hx hb hK hP 1 0 rfl rfl (by unfold vp_in; decide) dX8_votes_77 ?_
  refine lv_topi (fun y_15 ey_15 => ?_)
  obtain rfl : y_15 = 0 := ey_15.trans (by rfl)
  refine lv_iadd hx hb dX8_votes_78 ?_
  refine lv_topi (fun y_16 ey_16 => ?_)
  obtain rfl : y_16 = 0 := ey_16.trans (by decide)
  refine va_iast hx hb hK hP hD hS 1 0 rfl rfl (by unfold vp_in; decide) dX8_votes_79 (fun H locs hP hD hS => ?_)
  have hP : va_P (dC, dI) vwCl [(mm, .inr (10, [.int th, .ref pl, .ref ig, .ref sl, .ref kl, .int qt, .int 0, .int 0])), (q_1, .inl (c_2, 5, .inl zi)), (sl, .inr (1, [.int 0, .ref dz, .int 0]))] H := by have h9 := hP; rw [upd_zi] at h9; exact h9
  have hD : va_D A [(mm, .inr (10, [.int th, .ref pl, .ref ig, .ref sl, .ref kl, .int qt, .int 0, .int 0])), (q_1, .inl (c_2, 5, .inl zi)), (sl, .inr (1, [.int 0, .ref dz, .int 0]))] := by have h9 := hD; rw [upd_zi] at h9; exact h9
  refine lv_iinc (k := 0) (v := 4) (lv' := [(2, .int 4), (1, .ref q_1), (0, .ref mm)]) hx hb dX8_votes_80 hl rfl (by decide) (by decide) rfl (fun ls hl => ?_)
  refine lv_goto (tgt := 66) hx hb dX8_votes_83 (by decide) ?_
  refine lv_iload_n hx hb dX8_votes_66 rfl (lv_at hl 0 rfl) ?_
  refine lv_iconst (v := 4) hx hb dX8_votes_67 (by decide) ?_
  refine lv_icmp_ge (tgt := 86) hx hb dX8_votes_68 (by decide) (fun _ => ?_) (fun h9 => absurd h9 (by decide))
  refine lv_aload_n hx hb dX8_votes_86 rfl (lv_at hl 1 rfl) ?_
  have hP9 := hP.sub (ws' := [(mm, .inr (10, [.int th, .ref pl, .ref ig, .ref sl, .ref kl, .int qt, .int 0, .int 0])), (sl, .inr (1, [.int 0, .ref dz, .int 0])), (q_1, .inl (c_2, 5, .inl zi))]) [0, 2, 1] rfl
  have hD9 := hD.sub (ws' := [(mm, .inr (10, [.int th, .ref pl, .ref ig, .ref sl, .ref kl, .int qt, .int 0, .int 0])), (sl, .inr (1, [.int 0, .ref dz, .int 0])), (q_1, .inl (c_2, 5, .inl zi))]) [0, 2, 1] (by decide) rfl
  have hK9 := hK.sub (tys' := [(c_2, .int)]) [0] rfl
  refine W.widen (k := 1) (n := 5) (Nat.le_of_ble_eq_true rfl) (Nat.le_of_ble_eq_true rfl) ?_
  exact W.aret (v := .ref q_1) (rt := (.array .int)) hx hb hr (Or.inr ⟨_, rfl⟩) (Or.inr ⟨_, rfl⟩) (fun t ht hW => ⟨⟨c_2, q_1, rfl, trivial, po_mk ht hW hP9 hK9 hD9⟩, hS.F ht⟩) hS.2.2 dX8_votes_87

set_option maxHeartbeats 4000000 in
set_option maxRecDepth 100000 in
theorem c_X8_isBarred (l : Launch) (dC : Nat → ClassId) (dI : Nat → Nat → Nat) (mm : Nat) (pl : Nat) (ig : Nat) (sl : Nat) (kl : Nat) (qt : Int32) (th : Int32) (vv : Nat) (cI : ClassId) (par : Int32) (sz : Nat) (hpa : vp_in par 5) : Met l yX8_isBarred wsX8_isBarred ({ frames := 2, cells := 0, slots := 0, locals := 40 }) (va_Pc [.ref mm, .ref vv, .int par] (pr_ dC dI [(mm, .inr (10, [.int th, .ref pl, .ref ig, .ref sl, .ref kl, .int qt, .int 0, .int 0])), (vv, .inl (cI, 5, .inl zi))] [(cI, .int)] sz)) (va_Qi (fun (r : Int32) (_ : Unit) => r = 0) (fun (_ : Unit) t => po_ dC dI [(mm, .inr (10, [.int th, .ref pl, .ref ig, .ref sl, .ref kl, .int qt, .int 0, .int 0])), (vv, .inl (cI, 5, .inl zi))] [(cI, .int)] (va_A [(mm, .inr (10, [.int th, .ref pl, .ref ig, .ref sl, .ref kl, .int qt, .int 0, .int 0])), (vv, .inl (cI, 5, .inl zi))] sz) t) (va_A [(mm, .inr (10, [.int th, .ref pl, .ref ig, .ref sl, .ref kl, .int qt, .int 0, .int 0])), (vv, .inl (cI, 5, .inl zi))] sz)) 0 0 (va_A [(mm, .inr (10, [.int th, .ref pl, .ref ig, .ref sl, .ref kl, .int qt, .int 0, .int 0])), (vv, .inl (cI, 5, .inl zi))] sz) := by
  refine Met.ofW (cc := cX8_isBarred) (maxL := 3) (ret := (some .boolean)) (by decide) rfl ?_
  intro p e s m args below meth c s₁ B hml hv
  obtain ⟨rfl, hsz, hP, hK, hD0⟩ := hv
  have hx := B.exec
  have hb := B.bytes
  have hr := B.returns
  have hts := atoms_spec (ws := wsX8_isBarred) B.pre
  have hown : s.vm.findClass RX8 = some m.cls := findClass_of_methodNamed B.named
  have hlocks := B.notSynchronized
  subst hsz
  have hD := hD0.self (sz := s.heap.size)
  generalize hAe : va_A [(mm, .inr (10, [.int th, .ref pl, .ref ig, .ref sl, .ref kl, .int qt, .int 0, .int 0])), (vv, .inl (cI, 5, .inl zi))] s.heap.size = A at hD ⊢
  have hA : ∀ q : Nat, s.heap.size ≤ q → A q := fun q h => by rw [← hAe]; exact Or.inr h
  have hS : va_S A s.heap s.heap [] := va_S.rf
  have hP : va_P (dC, dI) vwCl [(mm, .inr (10, [.int th, .ref pl, .ref ig, .ref sl, .ref kl, .int qt, .int 0, .int 0])), (vv, .inl (cI, 5, .inl zi))] s.heap := hP
  have hK : va_K (dC, dI) vwCl [(cI, .int)] s := hK
  have hl := lv_entry ([.ref mm, .ref vv, .int par]) (n := 3) (Nat.le_of_ble_eq_true rfl)
  rw [lg_entry_eq]
  generalize (lg_sl ([.ref mm, .ref vv, .int par]) ++ List.replicate (3 - (lg_sl ([.ref mm, .ref vv, .int par])).length) Slot.unset).toArray = ls at hl ⊢
  have hl : lv_has ls 3 [(0, .ref mm), (1, .ref vv), (2, .int par)] := hl
  refine lv_bipush (v := 100) hx hb dX8_isBarred_0 (by decide) ?_
  refine lv_aload_n hx hb dX8_isBarred_2 rfl (lv_at hl 1 rfl) ?_
  refine lv_iload_n hx hb dX8_isBarred_3 rfl (lv_at hl 2 rfl) ?_
  refine va_iald hx hb hK hP 1 0 rfl rfl hpa dX8_isBarred_4 ?_
  refine lv_topi (fun y_1 ey_1 => ?_)
  obtain rfl : y_1 = 0 := ey_1.trans (by rfl)
  refine lv_imul hx hb dX8_isBarred_5 ?_
  refine lv_topi (fun y_2 ey_2 => ?_)
  obtain rfl : y_2 = 0 := ey_2.trans (by decide)
  refine lv_aload_n hx hb dX8_isBarred_6 rfl (lv_at hl 0 rfl) ?_
  have hinX8 : ∀ w ∈ u_ws RX8 TX8 8, w ∈ wsX8_isBarred := by decide +kernel
  refine va_get (D := (dC, dI)) (ci := 10) (v := .int qt) (C := RX8) (T := TX8) (N := 8) hx hb hts hinX8 hown hK hP 0 rfl rfl 5 (by decide) (hts (.fieldLink RX8 99 "BallotLoomModel" "threshold" "I") (by decide +kernel)) (fun _ h9 => h9) rfl dX8_isBarred_7 ?_
  refine lv_aload_n hx hb dX8_isBarred_10 rfl (lv_at hl 1 rfl) ?_
  refine lv_iconst (v := 4) hx hb dX8_isBarred_11 (by decide) ?_
  refine va_iald hx hb hK hP 1 0 rfl rfl (by unfold vp_in; decide) dX8_isBarred_12 ?_
  refine lv_topi (fun y_3 ey_3 => ?_)
  obtain rfl : y_3 = 0 := ey_3.trans (by rfl)
  refine lv_imul hx hb dX8_isBarred_13 ?_
  refine lv_topi (fun y_4 ey_4 => ?_)
  obtain rfl : y_4 = 0 := ey_4.trans (by simp)
  refine lv_icmp_ge (tgt := 21) hx hb dX8_isBarred_14 (by decide) (fun _ => ?_) (fun h9 => absurd h9 (by decide))
  refine lv_iconst (v := 0) hx hb dX8_isBarred_21 (by decide) ?_
  have hP9 := hP.sub (ws' := [(mm, .inr (10, [.int th, .ref pl, .ref ig, .ref sl, .ref kl, .int qt, .int 0, .int 0])), (vv, .inl (cI, 5, .inl zi))]) [0, 1] rfl
  have hD9 := hD.sub (ws' := [(mm, .inr (10, [.int th, .ref pl, .ref ig, .ref sl, .ref kl, .int qt, .int 0, .int 0])), (vv, .inl (cI, 5, .inl zi))]) [0, 1] (by decide) rfl
  have hK9 := hK.sub (tys' := [(cI, .int)]) [0] rfl
  refine W.widen (k := 0) (n := 0) (Nat.le_of_ble_eq_true rfl) (Nat.le_of_ble_eq_true rfl) ?_
  exact W.zret (v := 0) hx hb hr rfl (fun t ht hW => ⟨⟨0, (), rfl, rfl, po_mk ht hW hP9 hK9 hD9⟩, hS.F ht⟩) hS.2.2 dX8_isBarred_22

set_option maxHeartbeats 4000000 in
set_option maxRecDepth 100000 in
theorem c_X8_houseOf (l : Launch) (dC : Nat → ClassId) (dI : Nat → Nat → Nat) (mm : Nat) (pl : Nat) (ig : Nat) (sl : Nat) (kl : Nat) (dz : Nat) (ho : Int32) (ru : Int32) (sz : Nat)  : Met l yX8_houseOf wsX8_houseOf ({ frames := 4, cells := 3, slots := 13, locals := 110 }) (va_Pc [.ref mm, .int ho, .int ru] (fun U => pr_ dC dI [(mm, .inr (10, [.int 0, .ref pl, .ref ig, .ref sl, .ref kl, .int 0, .int 0, .int 0])), (sl, .inr (1, [.int 0, .ref dz, .int 0]))] [] sz U ∧ mo_  U)) (va_Qr (fun (_ : ClassId) => True) (fun (cV : ClassId) RES t => po_ dC dI [(mm, .inr (10, [.int 0, .ref pl, .ref ig, .ref sl, .ref kl, .int 0, .int 0, .int 0])), (sl, .inr (1, [.int 0, .ref dz, .int 0])), (RES, .inl (cV, 4, .inl zi))] [(cV, .int)] (va_A [(mm, .inr (10, [.int 0, .ref pl, .ref ig, .ref sl, .ref kl, .int 0, .int 0, .int 0])), (sl, .inr (1, [.int 0, .ref dz, .int 0]))] sz) t) (va_A [(mm, .inr (10, [.int 0, .ref pl, .ref ig, .ref sl, .ref kl, .int 0, .int 0, .int 0])), (sl, .inr (1, [.int 0, .ref dz, .int 0]))] sz)) 3 13 (va_A [(mm, .inr (10, [.int 0, .ref pl, .ref ig, .ref sl, .ref kl, .int 0, .int 0, .int 0])), (sl, .inr (1, [.int 0, .ref dz, .int 0]))] sz) := by
  refine Met.ofW (cc := cX8_houseOf) (maxL := 15) (ret := (some (.array .int))) (by decide) rfl ?_
  intro p e s m args below meth c s₁ B hml hv
  obtain ⟨rfl, ⟨hsz, hP, hK, hD0⟩, hXs⟩ := hv
  have hx := B.exec
  have hb := B.bytes
  have hr := B.returns
  have hts := atoms_spec (ws := wsX8_houseOf) B.pre
  have hown : s.vm.findClass RX8 = some m.cls := findClass_of_methodNamed B.named
  have hlocks := B.notSynchronized
  subst hsz
  have hD := hD0.self (sz := s.heap.size)
  generalize hAe : va_A [(mm, .inr (10, [.int 0, .ref pl, .ref ig, .ref sl, .ref kl, .int 0, .int 0, .int 0])), (sl, .inr (1, [.int 0, .ref dz, .int 0]))] s.heap.size = A at hD ⊢
  have hA : ∀ q : Nat, s.heap.size ≤ q → A q := fun q h => by rw [← hAe]; exact Or.inr h
  have hS : va_S A s.heap s.heap [] := va_S.rf
  have hP : va_P (dC, dI) vwCl [(mm, .inr (10, [.int 0, .ref pl, .ref ig, .ref sl, .ref kl, .int 0, .int 0, .int 0])), (sl, .inr (1, [.int 0, .ref dz, .int 0]))] s.heap := hP
  have hK : va_K (dC, dI) vwCl [] s := hK
  have hl := lv_entry ([.ref mm, .int ho, .int ru]) (n := 15) (Nat.le_of_ble_eq_true rfl)
  rw [lg_entry_eq]
  generalize (lg_sl ([.ref mm, .int ho, .int ru]) ++ List.replicate (15 - (lg_sl ([.ref mm, .int ho, .int ru])).length) Slot.unset).toArray = ls at hl ⊢
  have hl : lv_has ls 15 [(0, .ref mm), (1, .int ho), (2, .int ru)] := hl
  refine lv_aload_n hx hb dX8_houseOf_0 rfl (lv_at hl 0 rfl) ?_
  have hPc := hP.sub (ws' := [(mm, .inr (10, [.int 0, .ref pl, .ref ig, .ref sl, .ref kl, .int 0, .int 0, .int 0])), (sl, .inr (1, [.int 0, .ref dz, .int 0]))]) [0, 1] rfl
  have hDc := hD.sub (ws' := [(mm, .inr (10, [.int 0, .ref pl, .ref ig, .ref sl, .ref kl, .int 0, .int 0, .int 0])), (sl, .inr (1, [.int 0, .ref dz, .int 0]))]) [0, 1] (by decide) rfl
  have hKc := hK.sub (tys' := []) [] rfl
  have hFc := va_free (wc := [(mm, .inr (10, [.int 0, .ref pl, .ref ig, .ref sl, .ref kl, .int 0, .int 0, .int 0])), (sl, .inr (1, [.int 0, .ref dz, .int 0]))]) hD hS hA [0, 1] rfl
  refine va_callr (va_runV (As := []) (rest := []) ⟨hx, hb, hml, hown, hts⟩ (c_X8_votes l dC dI mm pl ig sl kl dz (0 : Int32) (0 : Int32) _ ) (cwV 0 hts gX8_houseOf_X8_votes rfl rfl rfl (by decide +kernel) ⟨Nat.le_of_ble_eq_true rfl, Nat.le_of_ble_eq_true rfl⟩) ⟨pe_blind mo_bl, va_recv hKc hPc (ci := 10) (q0 := 0) rfl rfl, fun U hU hW => ⟨rfl, pr_mk hU hW hPc hKc hDc, mo_mk hW hXs⟩⟩ rfl rfl hl.1 rfl (lv_room (Nat.le_of_ble_eq_true rfl)) dX8_houseOf_1 ⟨Nat.le_of_ble_eq_true rfl, Nat.le_of_ble_eq_true rfl⟩) hS (fun q _ h => hFc q h) hFc (fun u_1 r_2 t H1 locs ht hvm hw hB hz1 hk1 hS => ?_)
  obtain ⟨q_3, rfl⟩ : ∃ z, z = u_1 := ⟨_, rfl⟩
  obtain ⟨hP1, hK1, hD1⟩ := hB
  rw [ht] at hP1
  obtain ⟨hP, hD⟩ := va_join (wr := []) (w1 := [(mm, .inr (10, [.int 0, .ref pl, .ref ig, .ref sl, .ref kl, .int 0, .int 0, .int 0])), (sl, .inr (1, [.int 0, .ref dz, .int 0])), (r_2, .inl (q_3, 5, .inl zi))]) hP hD [0, 1] [] rfl rfl (by decide) (by decide) hk1 hFc hP1 hD1
  have hK := hK.app (va_K.moved hvm.symm hK1)
  have hK : va_K (dC, dI) vwCl [(q_3, .int)] s := hK
  generalize H1 = H at hP hS ⊢
  have hP : va_P (dC, dI) vwCl [(mm, .inr (10, [.int 0, .ref pl, .ref ig, .ref sl, .ref kl, .int 0, .int 0, .int 0])), (sl, .inr (1, [.int 0, .ref dz, .int 0])), (r_2, .inl (q_3, 5, .inl zi))] H := hP
  have hD : va_D A [(mm, .inr (10, [.int 0, .ref pl, .ref ig, .ref sl, .ref kl, .int 0, .int 0, .int 0])), (sl, .inr (1, [.int 0, .ref dz, .int 0])), (r_2, .inl (q_3, 5, .inl zi))] := hD
  refine W.widen (k := 1) (n := 5) (Nat.le_of_ble_eq_true rfl) (Nat.le_of_ble_eq_true rfl) ?_
  refine lv_astore_n (lv' := [(3, .ref r_2), (0, .ref mm), (1, .int ho), (2, .int ru)]) hx hb dX8_houseOf_4 rfl hl (by decide) rfl (fun ls hl => ?_)
  refine lv_iconst (v := 4) hx hb dX8_houseOf_5 (by decide) ?_
  refine va_newa (atype := .int) (ty := .int) (N' := 4) (a0 := (4, .inl zi)) hx hb (hts (.arrayClass (newarray.typeOf .int)) (by decide +kernel)) rfl hK hP hD hS hA (fun _ => rfl) (by decide) (by decide) (by decide) (Nat.le_of_ble_eq_true rfl) (Nat.le_of_ble_eq_true rfl) dX8_houseOf_6 (fun q_4 c_5 H hK hP hD hS => ?_)
  have hK : va_K (dC, dI) vwCl [(q_3, .int), (c_5, .int)] s := hK
  have hP : va_P (dC, dI) vwCl [(mm, .inr (10, [.int 0, .ref pl, .ref ig, .ref sl, .ref kl, .int 0, .int 0, .int 0])), (sl, .inr (1, [.int 0, .ref dz, .int 0])), (r_2, .inl (q_3, 5, .inl zi)), (q_4, .inl (c_5, 4, .inl zi))] H := hP
  have hD : va_D A [(mm, .inr (10, [.int 0, .ref pl, .ref ig, .ref sl, .ref kl, .int 0, .int 0, .int 0])), (sl, .inr (1, [.int 0, .ref dz, .int 0])), (r_2, .inl (q_3, 5, .inl zi)), (q_4, .inl (c_5, 4, .inl zi))] := hD
  refine W.widen (k := 2) (n := 9) (Nat.le_of_ble_eq_true rfl) (Nat.le_of_ble_eq_true rfl) ?_
  have hcc : c_5 = q_3 := ty_one (t := .int) hK 1 0 rfl rfl (fun _ h => FieldType.noConfusion h)
  rw [hcc] at hP hD
  have hK := hK.sub (tys' := [(q_3, .int)]) [0] rfl
  have hP : va_P (dC, dI) vwCl [(mm, .inr (10, [.int 0, .ref pl, .ref ig, .ref sl, .ref kl, .int 0, .int 0, .int 0])), (sl, .inr (1, [.int 0, .ref dz, .int 0])), (r_2, .inl (q_3, 5, .inl zi)), (q_4, .inl (q_3, 4, .inl zi))] H := hP
  have hD : va_D A [(mm, .inr (10, [.int 0, .ref pl, .ref ig, .ref sl, .ref kl, .int 0, .int 0, .int 0])), (sl, .inr (1, [.int 0, .ref dz, .int 0])), (r_2, .inl (q_3, 5, .inl zi)), (q_4, .inl (q_3, 4, .inl zi))] := hD
  refine lv_astore (lv' := [(4, .ref q_4), (3, .ref r_2), (0, .ref mm), (1, .int ho), (2, .int ru)]) hx hb dX8_houseOf_8 hl (by decide) rfl (fun ls hl => ?_)
  refine lv_iconst (v := 4) hx hb dX8_houseOf_10 (by decide) ?_
  refine va_newa (atype := .int) (ty := .int) (N' := 4) (a0 := (4, .inl zi)) hx hb (hts (.arrayClass (newarray.typeOf .int)) (by decide +kernel)) rfl hK hP hD hS hA (fun _ => rfl) (by decide) (by decide) (by decide) (Nat.le_of_ble_eq_true rfl) (Nat.le_of_ble_eq_true rfl) dX8_houseOf_11 (fun q_6 c_7 H hK hP hD hS => ?_)
  have hK : va_K (dC, dI) vwCl [(q_3, .int), (c_7, .int)] s := hK
  have hP : va_P (dC, dI) vwCl [(mm, .inr (10, [.int 0, .ref pl, .ref ig, .ref sl, .ref kl, .int 0, .int 0, .int 0])), (sl, .inr (1, [.int 0, .ref dz, .int 0])), (r_2, .inl (q_3, 5, .inl zi)), (q_4, .inl (q_3, 4, .inl zi)), (q_6, .inl (c_7, 4, .inl zi))] H := hP
  have hD : va_D A [(mm, .inr (10, [.int 0, .ref pl, .ref ig, .ref sl, .ref kl, .int 0, .int 0, .int 0])), (sl, .inr (1, [.int 0, .ref dz, .int 0])), (r_2, .inl (q_3, 5, .inl zi)), (q_4, .inl (q_3, 4, .inl zi)), (q_6, .inl (c_7, 4, .inl zi))] := hD
  refine W.widen (k := 3) (n := 13) (Nat.le_of_ble_eq_true rfl) (Nat.le_of_ble_eq_true rfl) ?_
  have hcc : c_7 = q_3 := ty_one (t := .int) hK 1 0 rfl rfl (fun _ h => FieldType.noConfusion h)
  rw [hcc] at hP hD
  have hK := hK.sub (tys' := [(q_3, .int)]) [0] rfl
  have hP : va_P (dC, dI) vwCl [(mm, .inr (10, [.int 0, .ref pl, .ref ig, .ref sl, .ref kl, .int 0, .int 0, .int 0])), (sl, .inr (1, [.int 0, .ref dz, .int 0])), (r_2, .inl (q_3, 5, .inl zi)), (q_4, .inl (q_3, 4, .inl zi)), (q_6, .inl (q_3, 4, .inl zi))] H := hP
  have hD : va_D A [(mm, .inr (10, [.int 0, .ref pl, .ref ig, .ref sl, .ref kl, .int 0, .int 0, .int 0])), (sl, .inr (1, [.int 0, .ref dz, .int 0])), (r_2, .inl (q_3, 5, .inl zi)), (q_4, .inl (q_3, 4, .inl zi)), (q_6, .inl (q_3, 4, .inl zi))] := hD
  refine lv_astore (lv' := [(5, .ref q_6), (4, .ref q_4), (3, .ref r_2), (0, .ref mm), (1, .int ho), (2, .int ru)]) hx hb dX8_houseOf_13 hl (by decide) rfl (fun ls hl => ?_)
  refine lv_iconst (v := 0) hx hb dX8_houseOf_15 (by decide) ?_
  refine lv_istore (lv' := [(6, .int 0), (5, .ref q_6), (4, .ref q_4), (3, .ref r_2), (0, .ref mm), (1, .int ho), (2, .int ru)]) hx hb dX8_houseOf_16 hl (by decide) rfl (fun ls hl => ?_)
  refine lv_iconst (v := 0) hx hb dX8_houseOf_18 (by decide) ?_
  refine lv_istore (lv' := [(7, .int 0), (6, .int 0), (5, .ref q_6), (4, .ref q_4), (3, .ref r_2), (0, .ref mm), (1, .int ho), (2, .int ru)]) hx hb dX8_houseOf_19 hl (by decide) rfl (fun ls hl => ?_)
  refine lv_iload hx hb dX8_houseOf_21 (lv_at hl 0 rfl) ?_
  refine lv_iconst (v := 4) hx hb dX8_houseOf_23 (by decide) ?_
  refine lv_icmp_ge (tgt := 66) hx hb dX8_houseOf_24 (by decide) (fun h9 => absurd h9 (by decide)) (fun _ => ?_)
  refine lv_aload hx hb dX8_houseOf_27 (lv_at hl 3 rfl) ?_
  refine lv_iload hx hb dX8_houseOf_29 (lv_at hl 0 rfl) ?_
  refine lv_aload_n hx hb dX8_houseOf_31 rfl (lv_at hl 5 rfl) ?_
  refine lv_aload_n hx hb dX8_houseOf_32 rfl (lv_at hl 4 rfl) ?_
  refine lv_iload hx hb dX8_houseOf_33 (lv_at hl 0 rfl) ?_
  have hPc := hP.sub (ws' := [(mm, .inr (10, [.int 0, .ref pl, .ref ig, .ref sl, .ref kl, .int 0, .int 0, .int 0])), (r_2, .inl (q_3, 5, .inl zi))]) [0, 2] rfl
  have hDc := hD.sub (ws' := [(mm, .inr (10, [.int 0, .ref pl, .ref ig, .ref sl, .ref kl, .int 0, .int 0, .int 0])), (r_2, .inl (q_3, 5, .inl zi))]) [0, 2] (by decide) rfl
  have hKc := hK.sub (tys' := [(q_3, .int)]) [0] rfl
  have hFc := va_free (wc := [(mm, .inr (10, [.int 0, .ref pl, .ref ig, .ref sl, .ref kl, .int 0, .int 0, .int 0])), (r_2, .inl (q_3, 5, .inl zi))]) hD hS hA [0, 2] rfl
  refine va_calli (va_runV (As := [.ref r_2, .int 0]) (rest := [.int 0, .ref q_4]) ⟨hx, hb, hml, hown, hts⟩ (c_X8_isBarred l dC dI mm pl ig sl kl (0 : Int32) (0 : Int32) r_2 q_3 (0 : Int32) _ (by unfold vp_in; decide)) (cwV 2 hts gX8_houseOf_X8_isBarred rfl rfl rfl (by decide +kernel) ⟨Nat.le_of_ble_eq_true rfl, Nat.le_of_ble_eq_true rfl⟩) ⟨pr_blind, va_recv hKc hPc (ci := 10) (q0 := 0) rfl rfl, fun U hU hW => ⟨rfl, pr_mk hU hW hPc hKc hDc⟩⟩ rfl rfl hl.1 rfl (lv_room (Nat.le_of_ble_eq_true rfl)) dX8_houseOf_35 ⟨Nat.le_of_ble_eq_true rfl, Nat.le_of_ble_eq_true rfl⟩) hS (fun q _ h => hFc q h) hFc (fun r_9 u_8 t H1 locs ht hvm hw hB hz1 hk1 hS => ?_)
  obtain ⟨hP1, hK1, hD1⟩ := hB
  rw [ht] at hP1
  obtain ⟨hP, hD⟩ := va_join (wr := [(sl, .inr (1, [.int 0, .ref dz, .int 0])), (q_4, .inl (q_3, 4, .inl zi)), (q_6, .inl (q_3, 4, .inl zi))]) (w1 := [(mm, .inr (10, [.int 0, .ref pl, .ref ig, .ref sl, .ref kl, .int 0, .int 0, .int 0])), (r_2, .inl (q_3, 5, .inl zi))]) hP hD [0, 2] [1, 3, 4] rfl rfl (by decide) (by decide) hk1 hFc hP1 hD1
  generalize H1 = H at hP hS ⊢
  have hP : va_P (dC, dI) vwCl [(sl, .inr (1, [.int 0, .ref dz, .int 0])), (q_4, .inl (q_3, 4, .inl zi)), (q_6, .inl (q_3, 4, .inl zi)), (mm, .inr (10, [.int 0, .ref pl, .ref ig, .ref sl, .ref kl, .int 0, .int 0, .int 0])), (r_2, .inl (q_3, 5, .inl zi))] H := hP
  have hD : va_D A [(sl, .inr (1, [.int 0, .ref dz, .int 0])), (q_4, .inl (q_3, 4, .inl zi)), (q_6, .inl (q_3, 4, .inl zi)), (mm, .inr (10, [.int 0, .ref pl, .ref ig, .ref sl, .ref kl, .int 0, .int 0, .int 0])), (r_2, .inl (q_3, 5, .inl zi))] := hD
  refine W.widen (k := 3) (n := 13) (Nat.le_refl _) (Nat.le_refl _) ?_
  have hw : r_9 = 0 := hw
  subst hw
  refine lv_if_eq (tgt := 45) hx hb dX8_houseOf_38 (by decide) (fun _ => ?_) (fun h9 => absurd h9 (by decide))
  refine lv_aload_n hx hb dX8_houseOf_45 rfl (lv_at hl 4 rfl) ?_
  refine lv_iload hx hb dX8_houseOf_46 (lv_at hl 0 rfl) ?_
  refine va_iald hx hb hK hP 4 0 rfl rfl (by unfold vp_in; decide) dX8_houseOf_48 ?_
  refine lv_topi (fun y_10 ey_10 => ?_)
  obtain rfl : y_10 = 0 := ey_10.trans (by rfl)
  refine va_iast hx hb hK hP hD hS 1 0 rfl rfl (by unfold vp_in; decide) dX8_houseOf_49 (fun H locs hP hD hS => ?_)
  have hP : va_P (dC, dI) vwCl [(sl, .inr (1, [.int 0, .ref dz, .int 0])), (q_4, .inl (q_3, 4, .inl zi)), (q_6, .inl (q_3, 4, .inl zi)), (mm, .inr (10, [.int 0, .ref pl, .ref ig, .ref sl, .ref kl, .int 0, .int 0, .int 0])), (r_2, .inl (q_3, 5, .inl zi))] H := by have h9 := hP; rw [upd_zi] at h9; exact h9
  have hD : va_D A [(sl, .inr (1, [.int 0, .ref dz, .int 0])), (q_4, .inl (q_3, 4, .inl zi)), (q_6, .inl (q_3, 4, .inl zi)), (mm, .inr (10, [.int 0, .ref pl, .ref ig, .ref sl, .ref kl, .int 0, .int 0, .int 0])), (r_2, .inl (q_3, 5, .inl zi))] := by have h9 := hD; rw [upd_zi] at h9; exact h9
  refine lv_iload hx hb dX8_houseOf_50 (lv_at hl 1 rfl) ?_
  refine lv_aload hx hb dX8_houseOf_52 (lv_at hl 3 rfl) ?_
  refine lv_iload hx hb dX8_houseOf_54 (lv_at hl 0 rfl) ?_
  refine va_iald hx hb hK hP 1 0 rfl rfl (by unfold vp_in; decide) dX8_houseOf_56 ?_
  refine lv_topi (fun y_11 ey_11 => ?_)
  obtain rfl : y_11 = 0 := ey_11.trans (by rfl)
  refine lv_iadd hx hb dX8_houseOf_57 ?_
  refine lv_topi (fun y_12 ey_12 => ?_)
  obtain rfl : y_12 = 0 := ey_12.trans (by decide)
  refine lv_istore (lv' := [(6, .int 0), (7, .int 0), (5, .ref q_6), (4, .ref q_4), (3, .ref r_2), (0, .ref mm), (1, .int ho), (2, .int ru)]) hx hb dX8_houseOf_58 hl (by decide) rfl (fun ls hl => ?_)
  refine lv_iinc (k := 1) (v := 1) (lv' := [(7, .int 1), (6, .int 0), (5, .ref q_6), (4, .ref q_4), (3, .ref r_2), (0, .ref mm), (1, .int ho), (2, .int ru)]) hx hb dX8_houseOf_60 hl rfl (by decide) (by decide) rfl (fun ls hl => ?_)
  refine lv_goto (tgt := 21) hx hb dX8_houseOf_63 (by decide) ?_
  refine lv_iload hx hb dX8_houseOf_21 (lv_at hl 0 rfl) ?_
  refine lv_iconst (v := 4) hx hb dX8_houseOf_23 (by decide) ?_
  refine lv_icmp_ge (tgt := 66) hx hb dX8_houseOf_24 (by decide) (fun h9 => absurd h9 (by decide)) (fun _ => ?_)
  refine lv_aload hx hb dX8_houseOf_27 (lv_at hl 3 rfl) ?_
  refine lv_iload hx hb dX8_houseOf_29 (lv_at hl 0 rfl) ?_
  refine lv_aload_n hx hb dX8_houseOf_31 rfl (lv_at hl 5 rfl) ?_
  refine lv_aload_n hx hb dX8_houseOf_32 rfl (lv_at hl 4 rfl) ?_
  refine lv_iload hx hb dX8_houseOf_33 (lv_at hl 0 rfl) ?_
  have hPc := hP.sub (ws' := [(mm, .inr (10, [.int 0, .ref pl, .ref ig, .ref sl, .ref kl, .int 0, .int 0, .int 0])), (r_2, .inl (q_3, 5, .inl zi))]) [3, 4] rfl
  have hDc := hD.sub (ws' := [(mm, .inr (10, [.int 0, .ref pl, .ref ig, .ref sl, .ref kl, .int 0, .int 0, .int 0])), (r_2, .inl (q_3, 5, .inl zi))]) [3, 4] (by decide) rfl
  have hKc := hK.sub (tys' := [(q_3, .int)]) [0] rfl
  have hFc := va_free (wc := [(mm, .inr (10, [.int 0, .ref pl, .ref ig, .ref sl, .ref kl, .int 0, .int 0, .int 0])), (r_2, .inl (q_3, 5, .inl zi))]) hD hS hA [3, 4] rfl
  refine va_calli (va_runV (As := [.ref r_2, .int 1]) (rest := [.int 1, .ref q_4]) ⟨hx, hb, hml, hown, hts⟩ (c_X8_isBarred l dC dI mm pl ig sl kl (0 : Int32) (0 : Int32) r_2 q_3 (1 : Int32) _ (by unfold vp_in; decide)) (cwV 2 hts gX8_houseOf_X8_isBarred rfl rfl rfl (by decide +kernel) ⟨Nat.le_of_ble_eq_true rfl, Nat.le_of_ble_eq_true rfl⟩) ⟨pr_blind, va_recv hKc hPc (ci := 10) (q0 := 0) rfl rfl, fun U hU hW => ⟨rfl, pr_mk hU hW hPc hKc hDc⟩⟩ rfl rfl hl.1 rfl (lv_room (Nat.le_of_ble_eq_true rfl)) dX8_houseOf_35 ⟨Nat.le_of_ble_eq_true rfl, Nat.le_of_ble_eq_true rfl⟩) hS (fun q _ h => hFc q h) hFc (fun r_14 u_13 t H1 locs ht hvm hw hB hz1 hk1 hS => ?_)
  obtain ⟨hP1, hK1, hD1⟩ := hB
  rw [ht] at hP1
  obtain ⟨hP, hD⟩ := va_join (wr := [(sl, .inr (1, [.int 0, .ref dz, .int 0])), (q_4, .inl (q_3, 4, .inl zi)), (q_6, .inl (q_3, 4, .inl zi))]) (w1 := [(mm, .inr (10, [.int 0, .ref pl, .ref ig, .ref sl, .ref kl, .int 0, .int 0, .int 0])), (r_2, .inl (q_3, 5, .inl zi))]) hP hD [3, 4] [0, 1, 2] rfl rfl (by decide) (by decide) hk1 hFc hP1 hD1
  generalize H1 = H at hP hS ⊢
  have hP : va_P (dC, dI) vwCl [(sl, .inr (1, [.int 0, .ref dz, .int 0])), (q_4, .inl (q_3, 4, .inl zi)), (q_6, .inl (q_3, 4, .inl zi)), (mm, .inr (10, [.int 0, .ref pl, .ref ig, .ref sl, .ref kl, .int 0, .int 0, .int 0])), (r_2, .inl (q_3, 5, .inl zi))] H := hP
  have hD : va_D A [(sl, .inr (1, [.int 0, .ref dz, .int 0])), (q_4, .inl (q_3, 4, .inl zi)), (q_6, .inl (q_3, 4, .inl zi)), (mm, .inr (10, [.int 0, .ref pl, .ref ig, .ref sl, .ref kl, .int 0, .int 0, .int 0])), (r_2, .inl (q_3, 5, .inl zi))] := hD
  refine W.widen (k := 3) (n := 13) (Nat.le_refl _) (Nat.le_refl _) ?_
  have hw : r_14 = 0 := hw
  subst hw
  refine lv_if_eq (tgt := 45) hx hb dX8_houseOf_38 (by decide) (fun _ => ?_) (fun h9 => absurd h9 (by decide))
  refine lv_aload_n hx hb dX8_houseOf_45 rfl (lv_at hl 4 rfl) ?_
  refine lv_iload hx hb dX8_houseOf_46 (lv_at hl 0 rfl) ?_
  refine va_iald hx hb hK hP 4 0 rfl rfl (by unfold vp_in; decide) dX8_houseOf_48 ?_
  refine lv_topi (fun y_15 ey_15 => ?_)
  obtain rfl : y_15 = 0 := ey_15.trans (by rfl)
  refine va_iast hx hb hK hP hD hS 1 0 rfl rfl (by unfold vp_in; decide) dX8_houseOf_49 (fun H locs hP hD hS => ?_)
  have hP : va_P (dC, dI) vwCl [(sl, .inr (1, [.int 0, .ref dz, .int 0])), (q_4, .inl (q_3, 4, .inl zi)), (q_6, .inl (q_3, 4, .inl zi)), (mm, .inr (10, [.int 0, .ref pl, .ref ig, .ref sl, .ref kl, .int 0, .int 0, .int 0])), (r_2, .inl (q_3, 5, .inl zi))] H := by have h9 := hP; rw [upd_zi] at h9; exact h9
  have hD : va_D A [(sl, .inr (1, [.int 0, .ref dz, .int 0])), (q_4, .inl (q_3, 4, .inl zi)), (q_6, .inl (q_3, 4, .inl zi)), (mm, .inr (10, [.int 0, .ref pl, .ref ig, .ref sl, .ref kl, .int 0, .int 0, .int 0])), (r_2, .inl (q_3, 5, .inl zi))] := by have h9 := hD; rw [upd_zi] at h9; exact h9
  refine lv_iload hx hb dX8_houseOf_50 (lv_at hl 1 rfl) ?_
  refine lv_aload hx hb dX8_houseOf_52 (lv_at hl 3 rfl) ?_
  refine lv_iload hx hb dX8_houseOf_54 (lv_at hl 0 rfl) ?_
  refine va_iald hx hb hK hP 1 0 rfl rfl (by unfold vp_in; decide) dX8_houseOf_56 ?_
  refine lv_topi (fun y_16 ey_16 => ?_)
  obtain rfl : y_16 = 0 := ey_16.trans (by rfl)
  refine lv_iadd hx hb dX8_houseOf_57 ?_
  refine lv_topi (fun y_17 ey_17 => ?_)
  obtain rfl : y_17 = 0 := ey_17.trans (by decide)
  refine lv_istore (lv' := [(6, .int 0), (7, .int 1), (5, .ref q_6), (4, .ref q_4), (3, .ref r_2), (0, .ref mm), (1, .int ho), (2, .int ru)]) hx hb dX8_houseOf_58 hl (by decide) rfl (fun ls hl => ?_)
  refine lv_iinc (k := 1) (v := 2) (lv' := [(7, .int 2), (6, .int 0), (5, .ref q_6), (4, .ref q_4), (3, .ref r_2), (0, .ref mm), (1, .int ho), (2, .int ru)]) hx hb dX8_houseOf_60 hl rfl (by decide) (by decide) rfl (fun ls hl => ?_)
  refine lv_goto (tgt := 21) hx hb dX8_houseOf_63 (by decide) ?_
  refine lv_iload hx hb dX8_houseOf_21 (lv_at hl 0 rfl) ?_
  refine lv_iconst (v := 4) hx hb dX8_houseOf_23 (by decide) ?_
  refine lv_icmp_ge (tgt := 66) hx hb dX8_houseOf_24 (by decide) (fun h9 => absurd h9 (by decide)) (fun _ => ?_)
  refine lv_aload hx hb dX8_houseOf_27 (lv_at hl 3 rfl) ?_
  refine lv_iload hx hb dX8_houseOf_29 (lv_at hl 0 rfl) ?_
  refine lv_aload_n hx hb dX8_houseOf_31 rfl (lv_at hl 5 rfl) ?_
  refine lv_aload_n hx hb dX8_houseOf_32 rfl (lv_at hl 4 rfl) ?_
  refine lv_iload hx hb dX8_houseOf_33 (lv_at hl 0 rfl) ?_
  have hPc := hP.sub (ws' := [(mm, .inr (10, [.int 0, .ref pl, .ref ig, .ref sl, .ref kl, .int 0, .int 0, .int 0])), (r_2, .inl (q_3, 5, .inl zi))]) [3, 4] rfl
  have hDc := hD.sub (ws' := [(mm, .inr (10, [.int 0, .ref pl, .ref ig, .ref sl, .ref kl, .int 0, .int 0, .int 0])), (r_2, .inl (q_3, 5, .inl zi))]) [3, 4] (by decide) rfl
  have hKc := hK.sub (tys' := [(q_3, .int)]) [0] rfl
  have hFc := va_free (wc := [(mm, .inr (10, [.int 0, .ref pl, .ref ig, .ref sl, .ref kl, .int 0, .int 0, .int 0])), (r_2, .inl (q_3, 5, .inl zi))]) hD hS hA [3, 4] rfl
  refine va_calli (va_runV (As := [.ref r_2, .int 2]) (rest := [.int 2, .ref q_4]) ⟨hx, hb, hml, hown, hts⟩ (c_X8_isBarred l dC dI mm pl ig sl kl (0 : Int32) (0 : Int32) r_2 q_3 (2 : Int32) _ (by unfold vp_in; decide)) (cwV 2 hts gX8_houseOf_X8_isBarred rfl rfl rfl (by decide +kernel) ⟨Nat.le_of_ble_eq_true rfl, Nat.le_of_ble_eq_true rfl⟩) ⟨pr_blind, va_recv hKc hPc (ci := 10) (q0 := 0) rfl rfl, fun U hU hW => ⟨rfl, pr_mk hU hW hPc hKc hDc⟩⟩ rfl rfl hl.1 rfl (lv_room (Nat.le_of_ble_eq_true rfl)) dX8_houseOf_35 ⟨Nat.le_of_ble_eq_true rfl, Nat.le_of_ble_eq_true rfl⟩) hS (fun q _ h => hFc q h) hFc (fun r_19 u_18 t H1 locs ht hvm hw hB hz1 hk1 hS => ?_)
  obtain ⟨hP1, hK1, hD1⟩ := hB
  rw [ht] at hP1
  obtain ⟨hP, hD⟩ := va_join (wr := [(sl, .inr (1, [.int 0, .ref dz, .int 0])), (q_4, .inl (q_3, 4, .inl zi)), (q_6, .inl (q_3, 4, .inl zi))]) (w1 := [(mm, .inr (10, [.int 0, .ref pl, .ref ig, .ref sl, .ref kl, .int 0, .int 0, .int 0])), (r_2, .inl (q_3, 5, .inl zi))]) hP hD [3, 4] [0, 1, 2] rfl rfl (by decide) (by decide) hk1 hFc hP1 hD1
  generalize H1 = H at hP hS ⊢
  have hP : va_P (dC, dI) vwCl [(sl, .inr (1, [.int 0, .ref dz, .int 0])), (q_4, .inl (q_3, 4, .inl zi)), (q_6, .inl (q_3, 4, .inl zi)), (mm, .inr (10, [.int 0, .ref pl, .ref ig, .ref sl, .ref kl, .int 0, .int 0, .int 0])), (r_2, .inl (q_3, 5, .inl zi))] H := hP
  have hD : va_D A [(sl, .inr (1, [.int 0, .ref dz, .int 0])), (q_4, .inl (q_3, 4, .inl zi)), (q_6, .inl (q_3, 4, .inl zi)), (mm, .inr (10, [.int 0, .ref pl, .ref ig, .ref sl, .ref kl, .int 0, .int 0, .int 0])), (r_2, .inl (q_3, 5, .inl zi))] := hD
  refine W.widen (k := 3) (n := 13) (Nat.le_refl _) (Nat.le_refl _) ?_
  have hw : r_19 = 0 := hw
  subst hw
  refine lv_if_eq (tgt := 45) hx hb dX8_houseOf_38 (by decide) (fun _ => ?_) (fun h9 => absurd h9 (by decide))
  refine lv_aload_n hx hb dX8_houseOf_45 rfl (lv_at hl 4 rfl) ?_
  refine lv_iload hx hb dX8_houseOf_46 (lv_at hl 0 rfl) ?_
  refine va_iald hx hb hK hP 4 0 rfl rfl (by unfold vp_in; decide) dX8_houseOf_48 ?_
  refine lv_topi (fun y_20 ey_20 => ?_)
  obtain rfl : y_20 = 0 := ey_20.trans (by rfl)
  refine va_iast hx hb hK hP hD hS 1 0 rfl rfl (by unfold vp_in; decide) dX8_houseOf_49 (fun H locs hP hD hS => ?_)
  have hP : va_P (dC, dI) vwCl [(sl, .inr (1, [.int 0, .ref dz, .int 0])), (q_4, .inl (q_3, 4, .inl zi)), (q_6, .inl (q_3, 4, .inl zi)), (mm, .inr (10, [.int 0, .ref pl, .ref ig, .ref sl, .ref kl, .int 0, .int 0, .int 0])), (r_2, .inl (q_3, 5, .inl zi))] H := by have h9 := hP; rw [upd_zi] at h9; exact h9
  have hD : va_D A [(sl, .inr (1, [.int 0, .ref dz, .int 0])), (q_4, .inl (q_3, 4, .inl zi)), (q_6, .inl (q_3, 4, .inl zi)), (mm, .inr (10, [.int 0, .ref pl, .ref ig, .ref sl, .ref kl, .int 0, .int 0, .int 0])), (r_2, .inl (q_3, 5, .inl zi))] := by have h9 := hD; rw [upd_zi] at h9; exact h9
  refine lv_iload hx hb dX8_houseOf_50 (lv_at hl 1 rfl) ?_
  refine lv_aload hx hb dX8_houseOf_52 (lv_at hl 3 rfl) ?_
  refine lv_iload hx hb dX8_houseOf_54 (lv_at hl 0 rfl) ?_
  refine va_iald hx hb hK hP 1 0 rfl rfl (by unfold vp_in; decide) dX8_houseOf_56 ?_
  refine lv_topi (fun y_21 ey_21 => ?_)
  obtain rfl : y_21 = 0 := ey_21.trans (by rfl)
  refine lv_iadd hx hb dX8_houseOf_57 ?_
  refine lv_topi (fun y_22 ey_22 => ?_)
  obtain rfl : y_22 = 0 := ey_22.trans (by decide)
  refine lv_istore (lv' := [(6, .int 0), (7, .int 2), (5, .ref q_6), (4, .ref q_4), (3, .ref r_2), (0, .ref mm), (1, .int ho), (2, .int ru)]) hx hb dX8_houseOf_58 hl (by decide) rfl (fun ls hl => ?_)
  refine lv_iinc (k := 1) (v := 3) (lv' := [(7, .int 3), (6, .int 0), (5, .ref q_6), (4, .ref q_4), (3, .ref r_2), (0, .ref mm), (1, .int ho), (2, .int ru)]) hx hb dX8_houseOf_60 hl rfl (by decide) (by decide) rfl (fun ls hl => ?_)
  refine lv_goto (tgt := 21) hx hb dX8_houseOf_63 (by decide) ?_
  refine lv_iload hx hb dX8_houseOf_21 (lv_at hl 0 rfl) ?_
  refine lv_iconst (v := 4) hx hb dX8_houseOf_23 (by decide) ?_
  refine lv_icmp_ge (tgt := 66) hx hb dX8_houseOf_24 (by decide) (fun h9 => absurd h9 (by decide)) (fun _ => ?_)
  refine lv_aload hx hb dX8_houseOf_27 (lv_at hl 3 rfl) ?_
  refine lv_iload hx hb dX8_houseOf_29 (lv_at hl 0 rfl) ?_
  refine lv_aload_n hx hb dX8_houseOf_31 rfl (lv_at hl 5 rfl) ?_
  refine lv_aload_n hx hb dX8_houseOf_32 rfl (lv_at hl 4 rfl) ?_
  refine lv_iload hx hb dX8_houseOf_33 (lv_at hl 0 rfl) ?_
  have hPc := hP.sub (ws' := [(mm, .inr (10, [.int 0, .ref pl, .ref ig, .ref sl, .ref kl, .int 0, .int 0, .int 0])), (r_2, .inl (q_3, 5, .inl zi))]) [3, 4] rfl
  have hDc := hD.sub (ws' := [(mm, .inr (10, [.int 0, .ref pl, .ref ig, .ref sl, .ref kl, .int 0, .int 0, .int 0])), (r_2, .inl (q_3, 5, .inl zi))]) [3, 4] (by decide) rfl
  have hKc := hK.sub (tys' := [(q_3, .int)]) [0] rfl
  have hFc := va_free (wc := [(mm, .inr (10, [.int 0, .ref pl, .ref ig, .ref sl, .ref kl, .int 0, .int 0, .int 0])), (r_2, .inl (q_3, 5, .inl zi))]) hD hS hA [3, 4] rfl
  refine va_calli (va_runV (As := [.ref r_2, .int 3]) (rest := [.int 3, .ref q_4]) ⟨hx, hb, hml, hown, hts⟩ (c_X8_isBarred l dC dI mm pl ig sl kl (0 : Int32) (0 : Int32) r_2 q_3 (3 : Int32) _ (by unfold vp_in; decide)) (cwV 2 hts gX8_houseOf_X8_isBarred rfl rfl rfl (by decide +kernel) ⟨Nat.le_of_ble_eq_true rfl, Nat.le_of_ble_eq_true rfl⟩) ⟨pr_blind, va_recv hKc hPc (ci := 10) (q0 := 0) rfl rfl, fun U hU hW => ⟨rfl, pr_mk hU hW hPc hKc hDc⟩⟩ rfl rfl hl.1 rfl (lv_room (Nat.le_of_ble_eq_true rfl)) dX8_houseOf_35 ⟨Nat.le_of_ble_eq_true rfl, Nat.le_of_ble_eq_true rfl⟩) hS (fun q _ h => hFc q h) hFc (fun r_24 u_23 t H1 locs ht hvm hw hB hz1 hk1 hS => ?_)
  obtain ⟨hP1, hK1, hD1⟩ := hB
  rw [ht] at hP1
  obtain ⟨hP, hD⟩ := va_join (wr := [(sl, .inr (1, [.int 0, .ref dz, .int 0])), (q_4, .inl (q_3, 4, .inl zi)), (q_6, .inl (q_3, 4, .inl zi))]) (w1 := [(mm, .inr (10, [.int 0, .ref pl, .ref ig, .ref sl, .ref kl, .int 0, .int 0, .int 0])), (r_2, .inl (q_3, 5, .inl zi))]) hP hD [3, 4] [0, 1, 2] rfl rfl (by decide) (by decide) hk1 hFc hP1 hD1
  generalize H1 = H at hP hS ⊢
  have hP : va_P (dC, dI) vwCl [(sl, .inr (1, [.int 0, .ref dz, .int 0])), (q_4, .inl (q_3, 4, .inl zi)), (q_6, .inl (q_3, 4, .inl zi)), (mm, .inr (10, [.int 0, .ref pl, .ref ig, .ref sl, .ref kl, .int 0, .int 0, .int 0])), (r_2, .inl (q_3, 5, .inl zi))] H := hP
  have hD : va_D A [(sl, .inr (1, [.int 0, .ref dz, .int 0])), (q_4, .inl (q_3, 4, .inl zi)), (q_6, .inl (q_3, 4, .inl zi)), (mm, .inr (10, [.int 0, .ref pl, .ref ig, .ref sl, .ref kl, .int 0, .int 0, .int 0])), (r_2, .inl (q_3, 5, .inl zi))] := hD
  refine W.widen (k := 3) (n := 13) (Nat.le_refl _) (Nat.le_refl _) ?_
  have hw : r_24 = 0 := hw
  subst hw
  refine lv_if_eq (tgt := 45) hx hb dX8_houseOf_38 (by decide) (fun _ => ?_) (fun h9 => absurd h9 (by decide))
  refine lv_aload_n hx hb dX8_houseOf_45 rfl (lv_at hl 4 rfl) ?_
  refine lv_iload hx hb dX8_houseOf_46 (lv_at hl 0 rfl) ?_
  refine va_iald hx hb hK hP 4 0 rfl rfl (by unfold vp_in; decide) dX8_houseOf_48 ?_
  refine lv_topi (fun y_25 ey_25 => ?_)
  obtain rfl : y_25 = 0 := ey_25.trans (by rfl)
  refine va_iast hx hb hK hP hD hS 1 0 rfl rfl (by unfold vp_in; decide) dX8_houseOf_49 (fun H locs hP hD hS => ?_)
  have hP : va_P (dC, dI) vwCl [(sl, .inr (1, [.int 0, .ref dz, .int 0])), (q_4, .inl (q_3, 4, .inl zi)), (q_6, .inl (q_3, 4, .inl zi)), (mm, .inr (10, [.int 0, .ref pl, .ref ig, .ref sl, .ref kl, .int 0, .int 0, .int 0])), (r_2, .inl (q_3, 5, .inl zi))] H := by have h9 := hP; rw [upd_zi] at h9; exact h9
  have hD : va_D A [(sl, .inr (1, [.int 0, .ref dz, .int 0])), (q_4, .inl (q_3, 4, .inl zi)), (q_6, .inl (q_3, 4, .inl zi)), (mm, .inr (10, [.int 0, .ref pl, .ref ig, .ref sl, .ref kl, .int 0, .int 0, .int 0])), (r_2, .inl (q_3, 5, .inl zi))] := by have h9 := hD; rw [upd_zi] at h9; exact h9
  refine lv_iload hx hb dX8_houseOf_50 (lv_at hl 1 rfl) ?_
  refine lv_aload hx hb dX8_houseOf_52 (lv_at hl 3 rfl) ?_
  refine lv_iload hx hb dX8_houseOf_54 (lv_at hl 0 rfl) ?_
  refine va_iald hx hb hK hP 1 0 rfl rfl (by unfold vp_in; decide) dX8_houseOf_56 ?_
  refine lv_topi (fun y_26 ey_26 => ?_)
  obtain rfl : y_26 = 0 := ey_26.trans (by rfl)
  refine lv_iadd hx hb dX8_houseOf_57 ?_
  refine lv_topi (fun y_27 ey_27 => ?_)
  obtain rfl : y_27 = 0 := ey_27.trans (by decide)
  refine lv_istore (lv' := [(6, .int 0), (7, .int 3), (5, .ref q_6), (4, .ref q_4), (3, .ref r_2), (0, .ref mm), (1, .int ho), (2, .int ru)]) hx hb dX8_houseOf_58 hl (by decide) rfl (fun ls hl => ?_)
  refine lv_iinc (k := 1) (v := 4) (lv' := [(7, .int 4), (6, .int 0), (5, .ref q_6), (4, .ref q_4), (3, .ref r_2), (0, .ref mm), (1, .int ho), (2, .int ru)]) hx hb dX8_houseOf_60 hl rfl (by decide) (by decide) rfl (fun ls hl => ?_)
  refine lv_goto (tgt := 21) hx hb dX8_houseOf_63 (by decide) ?_
  refine lv_iload hx hb dX8_houseOf_21 (lv_at hl 0 rfl) ?_
  refine lv_iconst (v := 4) hx hb dX8_houseOf_23 (by decide) ?_
  refine lv_icmp_ge (tgt := 66) hx hb dX8_houseOf_24 (by decide) (fun _ => ?_) (fun h9 => absurd h9 (by decide))
  refine lv_iload hx hb dX8_houseOf_66 (lv_at hl 1 rfl) ?_
  refine lv_if_ne (tgt := 74) hx hb dX8_houseOf_68 (by decide) (fun h9 => absurd h9 (by decide)) (fun _ => ?_)
  refine lv_aload hx hb dX8_houseOf_71 (lv_at hl 2 rfl) ?_
  have hP9 := hP.sub (ws' := [(mm, .inr (10, [.int 0, .ref pl, .ref ig, .ref sl, .ref kl, .int 0, .int 0, .int 0])), (sl, .inr (1, [.int 0, .ref dz, .int 0])), (q_6, .inl (q_3, 4, .inl zi))]) [3, 0, 2] rfl
  have hD9 := hD.sub (ws' := [(mm, .inr (10, [.int 0, .ref pl, .ref ig, .ref sl, .ref kl, .int 0, .int 0, .int 0])), (sl, .inr (1, [.int 0, .ref dz, .int 0])), (q_6, .inl (q_3, 4, .inl zi))]) [3, 0, 2] (by decide) rfl
  have hK9 := hK.sub (tys' := [(q_3, .int)]) [0] rfl
  refine W.widen (k := 3) (n := 13) (Nat.le_of_ble_eq_true rfl) (Nat.le_of_ble_eq_true rfl) ?_
  exact W.aret (v := .ref q_6) (rt := (.array .int)) hx hb hr (Or.inr ⟨_, rfl⟩) (Or.inr ⟨_, rfl⟩) (fun t ht hW => ⟨⟨q_3, q_6, rfl, trivial, po_mk ht hW hP9 hK9 hD9⟩, hS.F ht⟩) hS.2.2 dX8_houseOf_73

set_option maxHeartbeats 4000000 in
set_option maxRecDepth 100000 in
theorem c_X8_direct (l : Launch) (dC : Nat → ClassId) (dI : Nat → Nat → Nat) (mm : Nat) (pl : Nat) (ig : Nat) (sl : Nat) (kl : Nat) (dz : Nat) (par : Int32) (sz : Nat)  : Met l yX8_direct wsX8_direct ({ frames := 3, cells := 0, slots := 0, locals := 80 }) (va_Pc [.ref mm, .int par] (fun U => pr_ dC dI [(mm, .inr (10, [.int 0, .ref pl, .ref ig, .ref sl, .ref kl, .int 0, .int 0, .int 0])), (sl, .inr (1, [.int 0, .ref dz, .int 0]))] [] sz U ∧ mo_  U)) (va_Qi (fun (r : Int32) (_ : Unit) => r = 0) (fun (_ : Unit) t => po_ dC dI [(mm, .inr (10, [.int 0, .ref pl, .ref ig, .ref sl, .ref kl, .int 0, .int 0, .int 0])), (sl, .inr (1, [.int 0, .ref dz, .int 0]))] [] (va_A [(mm, .inr (10, [.int 0, .ref pl, .ref ig, .ref sl, .ref kl, .int 0, .int 0, .int 0])), (sl, .inr (1, [.int 0, .ref dz, .int 0]))] sz) t) (va_A [(mm, .inr (10, [.int 0, .ref pl, .ref ig, .ref sl, .ref kl, .int 0, .int 0, .int 0])), (sl, .inr (1, [.int 0, .ref dz, .int 0]))] sz)) 0 0 (va_A [(mm, .inr (10, [.int 0, .ref pl, .ref ig, .ref sl, .ref kl, .int 0, .int 0, .int 0])), (sl, .inr (1, [.int 0, .ref dz, .int 0]))] sz) := by
  refine Met.ofW (cc := cX8_direct) (maxL := 4) (ret := (some .int)) (by decide) rfl ?_
  intro p e s m args below meth c s₁ B hml hv
  obtain ⟨rfl, ⟨hsz, hP, hK, hD0⟩, hXs⟩ := hv
  have hx := B.exec
  have hb := B.bytes
  have hr := B.returns
  have hts := atoms_spec (ws := wsX8_direct) B.pre
  have hown : s.vm.findClass RX8 = some m.cls := findClass_of_methodNamed B.named
  have hlocks := B.notSynchronized
  subst hsz
  have hD := hD0.self (sz := s.heap.size)
  generalize hAe : va_A [(mm, .inr (10, [.int 0, .ref pl, .ref ig, .ref sl, .ref kl, .int 0, .int 0, .int 0])), (sl, .inr (1, [.int 0, .ref dz, .int 0]))] s.heap.size = A at hD ⊢
  have hA : ∀ q : Nat, s.heap.size ≤ q → A q := fun q h => by rw [← hAe]; exact Or.inr h
  have hS : va_S A s.heap s.heap [] := va_S.rf
  have hP : va_P (dC, dI) vwCl [(mm, .inr (10, [.int 0, .ref pl, .ref ig, .ref sl, .ref kl, .int 0, .int 0, .int 0])), (sl, .inr (1, [.int 0, .ref dz, .int 0]))] s.heap := hP
  have hK : va_K (dC, dI) vwCl [] s := hK
  have hl := lv_entry ([.ref mm, .int par]) (n := 4) (Nat.le_of_ble_eq_true rfl)
  rw [lg_entry_eq]
  generalize (lg_sl ([.ref mm, .int par]) ++ List.replicate (4 - (lg_sl ([.ref mm, .int par])).length) Slot.unset).toArray = ls at hl ⊢
  have hl : lv_has ls 4 [(0, .ref mm), (1, .int par)] := hl
  refine lv_iconst (v := 0) hx hb dX8_direct_0 (by decide) ?_
  refine lv_istore_n (lv' := [(2, .int 0), (0, .ref mm), (1, .int par)]) hx hb dX8_direct_1 rfl hl (by decide) rfl (fun ls hl => ?_)
  refine lv_iconst (v := 0) hx hb dX8_direct_2 (by decide) ?_
  refine lv_istore_n (lv' := [(3, .int 0), (2, .int 0), (0, .ref mm), (1, .int par)]) hx hb dX8_direct_3 rfl hl (by decide) rfl (fun ls hl => ?_)
  refine lv_iload_n hx hb dX8_direct_4 rfl (lv_at hl 0 rfl) ?_
  refine lv_aload_n hx hb dX8_direct_5 rfl (lv_at hl 2 rfl) ?_
  have hinX8 : ∀ w ∈ u_ws RX8 TX8 8, w ∈ wsX8_direct := by decide +kernel
  refine va_get (D := (dC, dI)) (ci := 10) (v := .ref sl) (C := RX8) (T := TX8) (N := 8) hx hb hts hinX8 hown hK hP 0 rfl rfl 3 (by decide) (hts (.fieldLink RX8 20 "BallotLoomModel" "seatsOf" "Ljava/util/List;") (by decide +kernel)) (fun _ h9 => h9) rfl dX8_direct_6 ?_
  have hPc := hP.sub (ws' := [(sl, .inr (1, [.int 0, .ref dz, .int 0]))]) [1] rfl
  have hDc := hD.sub (ws' := [(sl, .inr (1, [.int 0, .ref dz, .int 0]))]) [1] (by decide) rfl
  have hKc := hK.sub (tys' := []) [] rfl
  have hFc := va_free (wc := [(sl, .inr (1, [.int 0, .ref dz, .int 0]))]) hD hS hA [1] rfl
  refine va_callFi (va_runF (hK.1 1 _ rfl).2 (As := []) (rest := [.int 0]) ⟨hx, hb, hml, hown, hts⟩ (c_Jx4a65c_size_8abf5 l dC dI sl (0 : Int32) dz (0 : Int32) _ ) (va_cwF 0 hts gX8_direct_Jx4a65c_size_8abf5_f30Jx4a65c rfl rfl rfl (mo_of hXs) (by decide +kernel) ⟨Nat.le_of_ble_eq_true rfl, Nat.le_of_ble_eq_true rfl⟩) ⟨pr_blind, va_recv hKc hPc (ci := 1) (q0 := 0) rfl rfl, fun U hU hW => ⟨rfl, pr_mk hU hW hPc hKc hDc⟩⟩ rfl rfl hl.1 rfl (lv_room (Nat.le_of_ble_eq_true rfl)) dX8_direct_9 ⟨Nat.le_of_ble_eq_true rfl, Nat.le_of_ble_eq_true rfl⟩) hS (fun q _ h => hFc q h) hFc (fun r_2 u_1 t H1 locs ht hvm hw hB hz1 hk1 hS => ?_)
  obtain ⟨hP1, hK1, hD1⟩ := hB
  rw [ht] at hP1
  obtain ⟨hP, hD⟩ := va_join (wr := [(mm, .inr (10, [.int 0, .ref pl, .ref ig, .ref sl, .ref kl, .int 0, .int 0, .int 0]))]) (w1 := [(sl, .inr (1, [.int 0, .ref dz, .int 0]))]) hP hD [1] [0] rfl rfl (by decide) (by decide) hk1 hFc hP1 hD1
  generalize H1 = H at hP hS ⊢
  have hP : va_P (dC, dI) vwCl [(mm, .inr (10, [.int 0, .ref pl, .ref ig, .ref sl, .ref kl, .int 0, .int 0, .int 0])), (sl, .inr (1, [.int 0, .ref dz, .int 0]))] H := hP
  have hD : va_D A [(mm, .inr (10, [.int 0, .ref pl, .ref ig, .ref sl, .ref kl, .int 0, .int 0, .int 0])), (sl, .inr (1, [.int 0, .ref dz, .int 0]))] := hD
  refine W.widen (k := 0) (n := 0) (Nat.le_refl _) (Nat.le_refl _) ?_
  have hw : r_2 = 0 := hw
  subst hw
  refine lv_icmp_ge (tgt := 48) hx hb dX8_direct_14 (by decide) (fun _ => ?_) (fun h9 => absurd h9 (by decide))
  refine lv_iload_n hx hb dX8_direct_48 rfl (lv_at hl 1 rfl) ?_
  have hP9 := hP.sub (ws' := [(mm, .inr (10, [.int 0, .ref pl, .ref ig, .ref sl, .ref kl, .int 0, .int 0, .int 0])), (sl, .inr (1, [.int 0, .ref dz, .int 0]))]) [0, 1] rfl
  have hD9 := hD.sub (ws' := [(mm, .inr (10, [.int 0, .ref pl, .ref ig, .ref sl, .ref kl, .int 0, .int 0, .int 0])), (sl, .inr (1, [.int 0, .ref dz, .int 0]))]) [0, 1] (by decide) rfl
  have hK9 := hK.sub (tys' := []) [] rfl
  refine W.widen (k := 0) (n := 0) (Nat.le_of_ble_eq_true rfl) (Nat.le_of_ble_eq_true rfl) ?_
  exact W.iret (v := 0) hx hb hr (fun t ht hW => ⟨⟨0, (), rfl, rfl, po_mk ht hW hP9 hK9 hD9⟩, hS.F ht⟩) hS.2.2 dX8_direct_49

set_option maxHeartbeats 4000000 in
set_option maxRecDepth 100000 in
theorem c_X8_wasted (l : Launch) (dC : Nat → ClassId) (dI : Nat → Nat → Nat) (mm : Nat) (pl : Nat) (ig : Nat) (sl : Nat) (kl : Nat) (dz : Nat) (par : Int32) (sz : Nat)  : Met l yX8_wasted wsX8_wasted ({ frames := 3, cells := 0, slots := 0, locals := 80 }) (va_Pc [.ref mm, .int par] (fun U => pr_ dC dI [(mm, .inr (10, [.int 0, .ref pl, .ref ig, .ref sl, .ref kl, .int 0, .int 0, .int 0])), (sl, .inr (1, [.int 0, .ref dz, .int 0]))] [] sz U ∧ mo_  U)) (va_Qi (fun (r : Int32) (_ : Unit) => r = 0) (fun (_ : Unit) t => po_ dC dI [(mm, .inr (10, [.int 0, .ref pl, .ref ig, .ref sl, .ref kl, .int 0, .int 0, .int 0])), (sl, .inr (1, [.int 0, .ref dz, .int 0]))] [] (va_A [(mm, .inr (10, [.int 0, .ref pl, .ref ig, .ref sl, .ref kl, .int 0, .int 0, .int 0])), (sl, .inr (1, [.int 0, .ref dz, .int 0]))] sz) t) (va_A [(mm, .inr (10, [.int 0, .ref pl, .ref ig, .ref sl, .ref kl, .int 0, .int 0, .int 0])), (sl, .inr (1, [.int 0, .ref dz, .int 0]))] sz)) 0 0 (va_A [(mm, .inr (10, [.int 0, .ref pl, .ref ig, .ref sl, .ref kl, .int 0, .int 0, .int 0])), (sl, .inr (1, [.int 0, .ref dz, .int 0]))] sz) := by
  refine Met.ofW (cc := cX8_wasted) (maxL := 9) (ret := (some .int)) (by decide) rfl ?_
  intro p e s m args below meth c s₁ B hml hv
  obtain ⟨rfl, ⟨hsz, hP, hK, hD0⟩, hXs⟩ := hv
  have hx := B.exec
  have hb := B.bytes
  have hr := B.returns
  have hts := atoms_spec (ws := wsX8_wasted) B.pre
  have hown : s.vm.findClass RX8 = some m.cls := findClass_of_methodNamed B.named
  have hlocks := B.notSynchronized
  subst hsz
  have hD := hD0.self (sz := s.heap.size)
  generalize hAe : va_A [(mm, .inr (10, [.int 0, .ref pl, .ref ig, .ref sl, .ref kl, .int 0, .int 0, .int 0])), (sl, .inr (1, [.int 0, .ref dz, .int 0]))] s.heap.size = A at hD ⊢
  have hA : ∀ q : Nat, s.heap.size ≤ q → A q := fun q h => by rw [← hAe]; exact Or.inr h
  have hS : va_S A s.heap s.heap [] := va_S.rf
  have hP : va_P (dC, dI) vwCl [(mm, .inr (10, [.int 0, .ref pl, .ref ig, .ref sl, .ref kl, .int 0, .int 0, .int 0])), (sl, .inr (1, [.int 0, .ref dz, .int 0]))] s.heap := hP
  have hK : va_K (dC, dI) vwCl [] s := hK
  have hl := lv_entry ([.ref mm, .int par]) (n := 9) (Nat.le_of_ble_eq_true rfl)
  rw [lg_entry_eq]
  generalize (lg_sl ([.ref mm, .int par]) ++ List.replicate (9 - (lg_sl ([.ref mm, .int par])).length) Slot.unset).toArray = ls at hl ⊢
  have hl : lv_has ls 9 [(0, .ref mm), (1, .int par)] := hl
  refine lv_iconst (v := 0) hx hb dX8_wasted_0 (by decide) ?_
  refine lv_istore_n (lv' := [(2, .int 0), (0, .ref mm), (1, .int par)]) hx hb dX8_wasted_1 rfl hl (by decide) rfl (fun ls hl => ?_)
  refine lv_iconst (v := 0) hx hb dX8_wasted_2 (by decide) ?_
  refine lv_istore_n (lv' := [(3, .int 0), (2, .int 0), (0, .ref mm), (1, .int par)]) hx hb dX8_wasted_3 rfl hl (by decide) rfl (fun ls hl => ?_)
  refine lv_iload_n hx hb dX8_wasted_4 rfl (lv_at hl 0 rfl) ?_
  refine lv_aload_n hx hb dX8_wasted_5 rfl (lv_at hl 2 rfl) ?_
  have hinX8 : ∀ w ∈ u_ws RX8 TX8 8, w ∈ wsX8_wasted := by decide +kernel
  refine va_get (D := (dC, dI)) (ci := 10) (v := .ref sl) (C := RX8) (T := TX8) (N := 8) hx hb hts hinX8 hown hK hP 0 rfl rfl 3 (by decide) (hts (.fieldLink RX8 20 "BallotLoomModel" "seatsOf" "Ljava/util/List;") (by decide +kernel)) (fun _ h9 => h9) rfl dX8_wasted_6 ?_
  have hPc := hP.sub (ws' := [(sl, .inr (1, [.int 0, .ref dz, .int 0]))]) [1] rfl
  have hDc := hD.sub (ws' := [(sl, .inr (1, [.int 0, .ref dz, .int 0]))]) [1] (by decide) rfl
  have hKc := hK.sub (tys' := []) [] rfl
  have hFc := va_free (wc := [(sl, .inr (1, [.int 0, .ref dz, .int 0]))]) hD hS hA [1] rfl
  refine va_callFi (va_runF (hK.1 1 _ rfl).2 (As := []) (rest := [.int 0]) ⟨hx, hb, hml, hown, hts⟩ (c_Jx4a65c_size_8abf5 l dC dI sl (0 : Int32) dz (0 : Int32) _ ) (va_cwF 0 hts gX8_wasted_Jx4a65c_size_8abf5_f30Jx4a65c rfl rfl rfl (mo_of hXs) (by decide +kernel) ⟨Nat.le_of_ble_eq_true rfl, Nat.le_of_ble_eq_true rfl⟩) ⟨pr_blind, va_recv hKc hPc (ci := 1) (q0 := 0) rfl rfl, fun U hU hW => ⟨rfl, pr_mk hU hW hPc hKc hDc⟩⟩ rfl rfl hl.1 rfl (lv_room (Nat.le_of_ble_eq_true rfl)) dX8_wasted_9 ⟨Nat.le_of_ble_eq_true rfl, Nat.le_of_ble_eq_true rfl⟩) hS (fun q _ h => hFc q h) hFc (fun r_2 u_1 t H1 locs ht hvm hw hB hz1 hk1 hS => ?_)
  obtain ⟨hP1, hK1, hD1⟩ := hB
  rw [ht] at hP1
  obtain ⟨hP, hD⟩ := va_join (wr := [(mm, .inr (10, [.int 0, .ref pl, .ref ig, .ref sl, .ref kl, .int 0, .int 0, .int 0]))]) (w1 := [(sl, .inr (1, [.int 0, .ref dz, .int 0]))]) hP hD [1] [0] rfl rfl (by decide) (by decide) hk1 hFc hP1 hD1
  generalize H1 = H at hP hS ⊢
  have hP : va_P (dC, dI) vwCl [(mm, .inr (10, [.int 0, .ref pl, .ref ig, .ref sl, .ref kl, .int 0, .int 0, .int 0])), (sl, .inr (1, [.int 0, .ref dz, .int 0]))] H := hP
  have hD : va_D A [(mm, .inr (10, [.int 0, .ref pl, .ref ig, .ref sl, .ref kl, .int 0, .int 0, .int 0])), (sl, .inr (1, [.int 0, .ref dz, .int 0]))] := hD
  refine W.widen (k := 0) (n := 0) (Nat.le_refl _) (Nat.le_refl _) ?_
  have hw : r_2 = 0 := hw
  subst hw
  refine lv_icmp_ge (tgt := 119) hx hb dX8_wasted_14 (by decide) (fun _ => ?_) (fun h9 => absurd h9 (by decide))
  refine lv_iload_n hx hb dX8_wasted_119 rfl (lv_at hl 1 rfl) ?_
  have hP9 := hP.sub (ws' := [(mm, .inr (10, [.int 0, .ref pl, .ref ig, .ref sl, .ref kl, .int 0, .int 0, .int 0])), (sl, .inr (1, [.int 0, .ref dz, .int 0]))]) [0, 1] rfl
  have hD9 := hD.sub (ws' := [(mm, .inr (10, [.int 0, .ref pl, .ref ig, .ref sl, .ref kl, .int 0, .int 0, .int 0])), (sl, .inr (1, [.int 0, .ref dz, .int 0]))]) [0, 1] (by decide) rfl
  have hK9 := hK.sub (tys' := []) [] rfl
  refine W.widen (k := 0) (n := 0) (Nat.le_of_ble_eq_true rfl) (Nat.le_of_ble_eq_true rfl) ?_
  exact W.iret (v := 0) hx hb hr (fun t ht hW => ⟨⟨0, (), rfl, rfl, po_mk ht hW hP9 hK9 hD9⟩, hS.F ht⟩) hS.2.2 dX8_wasted_120

set_option maxHeartbeats 4000000 in
set_option maxRecDepth 100000 in
theorem c_X8_partyNow (l : Launch) (dC : Nat → ClassId) (dI : Nat → Nat → Nat) (mm : Nat) (pl : Nat) (ig : Nat) (sl : Nat) (kl : Nat) (dz : Nat) (par : Int32) (wh : Int32) (sz : Nat) (hpa : vp_in par 5) : Met l yX8_partyNow wsX8_partyNow ({ frames := 4, cells := 1, slots := 5, locals := 110 }) (va_Pc [.ref mm, .int par, .int wh] (fun U => pr_ dC dI [(mm, .inr (10, [.int 0, .ref pl, .ref ig, .ref sl, .ref kl, .int 0, .int 0, .int 0])), (pl, .inr (1, [.int 0, .ref dz, .int 0])), (sl, .inr (1, [.int 0, .ref dz, .int 0]))] [] sz U ∧ mo_  U)) (va_Qi (fun (r : Int32) (_ : Unit) => r = 0) (fun (_ : Unit) t => po_ dC dI [(mm, .inr (10, [.int 0, .ref pl, .ref ig, .ref sl, .ref kl, .int 0, .int 0, .int 0])), (pl, .inr (1, [.int 0, .ref dz, .int 0])), (sl, .inr (1, [.int 0, .ref dz, .int 0]))] [] (va_A [(mm, .inr (10, [.int 0, .ref pl, .ref ig, .ref sl, .ref kl, .int 0, .int 0, .int 0])), (pl, .inr (1, [.int 0, .ref dz, .int 0])), (sl, .inr (1, [.int 0, .ref dz, .int 0]))] sz) t) (va_A [(mm, .inr (10, [.int 0, .ref pl, .ref ig, .ref sl, .ref kl, .int 0, .int 0, .int 0])), (pl, .inr (1, [.int 0, .ref dz, .int 0])), (sl, .inr (1, [.int 0, .ref dz, .int 0]))] sz)) 1 5 (va_A [(mm, .inr (10, [.int 0, .ref pl, .ref ig, .ref sl, .ref kl, .int 0, .int 0, .int 0])), (pl, .inr (1, [.int 0, .ref dz, .int 0])), (sl, .inr (1, [.int 0, .ref dz, .int 0]))] sz) := by
  refine Met.ofW (cc := cX8_partyNow) (maxL := 5) (ret := (some .int)) (by decide) rfl ?_
  intro p e s m args below meth c s₁ B hml hv
  obtain ⟨rfl, ⟨hsz, hP, hK, hD0⟩, hXs⟩ := hv
  have hx := B.exec
  have hb := B.bytes
  have hr := B.returns
  have hts := atoms_spec (ws := wsX8_partyNow) B.pre
  have hown : s.vm.findClass RX8 = some m.cls := findClass_of_methodNamed B.named
  have hlocks := B.notSynchronized
  subst hsz
  have hD := hD0.self (sz := s.heap.size)
  generalize hAe : va_A [(mm, .inr (10, [.int 0, .ref pl, .ref ig, .ref sl, .ref kl, .int 0, .int 0, .int 0])), (pl, .inr (1, [.int 0, .ref dz, .int 0])), (sl, .inr (1, [.int 0, .ref dz, .int 0]))] s.heap.size = A at hD ⊢
  have hA : ∀ q : Nat, s.heap.size ≤ q → A q := fun q h => by rw [← hAe]; exact Or.inr h
  have hS : va_S A s.heap s.heap [] := va_S.rf
  have hP : va_P (dC, dI) vwCl [(mm, .inr (10, [.int 0, .ref pl, .ref ig, .ref sl, .ref kl, .int 0, .int 0, .int 0])), (pl, .inr (1, [.int 0, .ref dz, .int 0])), (sl, .inr (1, [.int 0, .ref dz, .int 0]))] s.heap := hP
  have hK : va_K (dC, dI) vwCl [] s := hK
  have hl := lv_entry ([.ref mm, .int par, .int wh]) (n := 5) (Nat.le_of_ble_eq_true rfl)
  rw [lg_entry_eq]
  generalize (lg_sl ([.ref mm, .int par, .int wh]) ++ List.replicate (5 - (lg_sl ([.ref mm, .int par, .int wh])).length) Slot.unset).toArray = ls at hl ⊢
  have hl : lv_has ls 5 [(0, .ref mm), (1, .int par), (2, .int wh)] := hl
  refine lv_iconst (v := 0) hx hb dX8_partyNow_0 (by decide) ?_
  refine lv_istore_n (lv' := [(3, .int 0), (0, .ref mm), (1, .int par), (2, .int wh)]) hx hb dX8_partyNow_1 rfl hl (by decide) rfl (fun ls hl => ?_)
  refine lv_iconst (v := 0) hx hb dX8_partyNow_2 (by decide) ?_
  refine lv_istore (lv' := [(4, .int 0), (3, .int 0), (0, .ref mm), (1, .int par), (2, .int wh)]) hx hb dX8_partyNow_3 hl (by decide) rfl (fun ls hl => ?_)
  refine lv_iload hx hb dX8_partyNow_5 (lv_at hl 0 rfl) ?_
  refine lv_aload_n hx hb dX8_partyNow_7 rfl (lv_at hl 2 rfl) ?_
  have hinX8 : ∀ w ∈ u_ws RX8 TX8 8, w ∈ wsX8_partyNow := by decide +kernel
  refine va_get (D := (dC, dI)) (ci := 10) (v := .ref pl) (C := RX8) (T := TX8) (N := 8) hx hb hts hinX8 hown hK hP 0 rfl rfl 1 (by decide) (hts (.fieldLink RX8 10 "BallotLoomModel" "partyOf" "Ljava/util/List;") (by decide +kernel)) (fun _ h9 => h9) rfl dX8_partyNow_8 ?_
  have hPc := hP.sub (ws' := [(pl, .inr (1, [.int 0, .ref dz, .int 0]))]) [1] rfl
  have hDc := hD.sub (ws' := [(pl, .inr (1, [.int 0, .ref dz, .int 0]))]) [1] (by decide) rfl
  have hKc := hK.sub (tys' := []) [] rfl
  have hFc := va_free (wc := [(pl, .inr (1, [.int 0, .ref dz, .int 0]))]) hD hS hA [1] rfl
  refine va_callFi (va_runF (hK.1 1 _ rfl).2 (As := []) (rest := [.int 0]) ⟨hx, hb, hml, hown, hts⟩ (c_Jx4a65c_size_8abf5 l dC dI pl (0 : Int32) dz (0 : Int32) _ ) (va_cwF 0 hts gX8_partyNow_Jx4a65c_size_8abf5_f30Jx4a65c rfl rfl rfl (mo_of hXs) (by decide +kernel) ⟨Nat.le_of_ble_eq_true rfl, Nat.le_of_ble_eq_true rfl⟩) ⟨pr_blind, va_recv hKc hPc (ci := 1) (q0 := 0) rfl rfl, fun U hU hW => ⟨rfl, pr_mk hU hW hPc hKc hDc⟩⟩ rfl rfl hl.1 rfl (lv_room (Nat.le_of_ble_eq_true rfl)) dX8_partyNow_11 ⟨Nat.le_of_ble_eq_true rfl, Nat.le_of_ble_eq_true rfl⟩) hS (fun q _ h => hFc q h) hFc (fun r_2 u_1 t H1 locs ht hvm hw hB hz1 hk1 hS => ?_)
  obtain ⟨hP1, hK1, hD1⟩ := hB
  rw [ht] at hP1
  obtain ⟨hP, hD⟩ := va_join (wr := [(mm, .inr (10, [.int 0, .ref pl, .ref ig, .ref sl, .ref kl, .int 0, .int 0, .int 0])), (sl, .inr (1, [.int 0, .ref dz, .int 0]))]) (w1 := [(pl, .inr (1, [.int 0, .ref dz, .int 0]))]) hP hD [1] [0, 2] rfl rfl (by decide) (by decide) hk1 hFc hP1 hD1
  generalize H1 = H at hP hS ⊢
  have hP : va_P (dC, dI) vwCl [(mm, .inr (10, [.int 0, .ref pl, .ref ig, .ref sl, .ref kl, .int 0, .int 0, .int 0])), (sl, .inr (1, [.int 0, .ref dz, .int 0])), (pl, .inr (1, [.int 0, .ref dz, .int 0]))] H := hP
  have hD : va_D A [(mm, .inr (10, [.int 0, .ref pl, .ref ig, .ref sl, .ref kl, .int 0, .int 0, .int 0])), (sl, .inr (1, [.int 0, .ref dz, .int 0])), (pl, .inr (1, [.int 0, .ref dz, .int 0]))] := hD
  refine W.widen (k := 0) (n := 0) (Nat.le_refl _) (Nat.le_refl _) ?_
  have hw : r_2 = 0 := hw
  subst hw
  refine lv_icmp_ge (tgt := 64) hx hb dX8_partyNow_16 (by decide) (fun _ => ?_) (fun h9 => absurd h9 (by decide))
  refine lv_iload_n hx hb dX8_partyNow_64 rfl (lv_at hl 4 rfl) ?_
  refine lv_if_ne (tgt := 77) hx hb dX8_partyNow_65 (by decide) (fun hc_3 => ?_) (fun hc_3 => ?_)
  · refine lv_iload_n hx hb dX8_partyNow_77 rfl (lv_at hl 4 rfl) ?_
    refine lv_iconst (v := 1) hx hb dX8_partyNow_78 (by decide) ?_
    refine lv_icmp_ne (tgt := 86) hx hb dX8_partyNow_79 (by decide) (fun hc_4 => ?_) (fun hc_4 => ?_)
    · refine lv_iload_n hx hb dX8_partyNow_86 rfl (lv_at hl 4 rfl) ?_
      refine lv_iconst (v := 2) hx hb dX8_partyNow_87 (by decide) ?_
      refine lv_icmp_ne (tgt := 99) hx hb dX8_partyNow_88 (by decide) (fun hc_5 => ?_) (fun hc_5 => ?_)
      · refine lv_iload_n hx hb dX8_partyNow_99 rfl (lv_at hl 4 rfl) ?_
        refine lv_iconst (v := 3) hx hb dX8_partyNow_100 (by decide) ?_
        refine lv_icmp_ne (tgt := 112) hx hb dX8_partyNow_101 (by decide) (fun hc_6 => ?_) (fun hc_6 => ?_)
        · refine lv_aload_n hx hb dX8_partyNow_112 rfl (lv_at hl 2 rfl) ?_
          refine lv_aload_n hx hb dX8_partyNow_113 rfl (lv_at hl 2 rfl) ?_
          have hPc := hP.sub (ws' := [(mm, .inr (10, [.int 0, .ref pl, .ref ig, .ref sl, .ref kl, .int 0, .int 0, .int 0])), (sl, .inr (1, [.int 0, .ref dz, .int 0]))]) [0, 1] rfl
          have hDc := hD.sub (ws' := [(mm, .inr (10, [.int 0, .ref pl, .ref ig, .ref sl, .ref kl, .int 0, .int 0, .int 0])), (sl, .inr (1, [.int 0, .ref dz, .int 0]))]) [0, 1] (by decide) rfl
          have hKc := hK.sub (tys' := []) [] rfl
          have hFc := va_free (wc := [(mm, .inr (10, [.int 0, .ref pl, .ref ig, .ref sl, .ref kl, .int 0, .int 0, .int 0])), (sl, .inr (1, [.int 0, .ref dz, .int 0]))]) hD hS hA [0, 1] rfl
          refine va_callr (va_runV (As := []) (rest := [.ref mm]) ⟨hx, hb, hml, hown, hts⟩ (c_X8_votes l dC dI mm pl ig sl kl dz (0 : Int32) (0 : Int32) _ ) (cwV 0 hts gX8_partyNow_X8_votes rfl rfl rfl (by decide +kernel) ⟨Nat.le_of_ble_eq_true rfl, Nat.le_of_ble_eq_true rfl⟩) ⟨pe_blind mo_bl, va_recv hKc hPc (ci := 10) (q0 := 0) rfl rfl, fun U hU hW => ⟨rfl, pr_mk hU hW hPc hKc hDc, mo_mk hW hXs⟩⟩ rfl rfl hl.1 rfl (lv_room (Nat.le_of_ble_eq_true rfl)) dX8_partyNow_114 ⟨Nat.le_of_ble_eq_true rfl, Nat.le_of_ble_eq_true rfl⟩) hS (fun q _ h => hFc q h) hFc (fun u_7 r_8 t H1 locs ht hvm hw hB hz1 hk1 hS => ?_)
          obtain ⟨q_9, rfl⟩ : ∃ z, z = u_7 := ⟨_, rfl⟩
          obtain ⟨hP1, hK1, hD1⟩ := hB
          rw [ht] at hP1
          obtain ⟨hP, hD⟩ := va_join (wr := [(pl, .inr (1, [.int 0, .ref dz, .int 0]))]) (w1 := [(mm, .inr (10, [.int 0, .ref pl, .ref ig, .ref sl, .ref kl, .int 0, .int 0, .int 0])), (sl, .inr (1, [.int 0, .ref dz, .int 0])), (r_8, .inl (q_9, 5, .inl zi))]) hP hD [0, 1] [2] rfl rfl (by decide) (by decide) hk1 hFc hP1 hD1
          have hK := hK.app (va_K.moved hvm.symm hK1)
          have hK : va_K (dC, dI) vwCl [(q_9, .int)] s := hK
          generalize H1 = H at hP hS ⊢
          have hP : va_P (dC, dI) vwCl [(pl, .inr (1, [.int 0, .ref dz, .int 0])), (mm, .inr (10, [.int 0, .ref pl, .ref ig, .ref sl, .ref kl, .int 0, .int 0, .int 0])), (sl, .inr (1, [.int 0, .ref dz, .int 0])), (r_8, .inl (q_9, 5, .inl zi))] H := hP
          have hD : va_D A [(pl, .inr (1, [.int 0, .ref dz, .int 0])), (mm, .inr (10, [.int 0, .ref pl, .ref ig, .ref sl, .ref kl, .int 0, .int 0, .int 0])), (sl, .inr (1, [.int 0, .ref dz, .int 0])), (r_8, .inl (q_9, 5, .inl zi))] := hD
          refine W.widen (k := 1) (n := 5) (Nat.le_of_ble_eq_true rfl) (Nat.le_of_ble_eq_true rfl) ?_
          refine lv_iload_n hx hb dX8_partyNow_117 rfl (lv_at hl 3 rfl) ?_
          have hPc := hP.sub (ws' := [(mm, .inr (10, [.int 0, .ref pl, .ref ig, .ref sl, .ref kl, .int 0, .int 0, .int 0])), (r_8, .inl (q_9, 5, .inl zi))]) [1, 3] rfl
          have hDc := hD.sub (ws' := [(mm, .inr (10, [.int 0, .ref pl, .ref ig, .ref sl, .ref kl, .int 0, .int 0, .int 0])), (r_8, .inl (q_9, 5, .inl zi))]) [1, 3] (by decide) rfl
          have hKc := hK.sub (tys' := [(q_9, .int)]) [0] rfl
          have hFc := va_free (wc := [(mm, .inr (10, [.int 0, .ref pl, .ref ig, .ref sl, .ref kl, .int 0, .int 0, .int 0])), (r_8, .inl (q_9, 5, .inl zi))]) hD hS hA [1, 3] rfl
          refine va_calli (va_runV (As := [.ref r_8, .int par]) (rest := []) ⟨hx, hb, hml, hown, hts⟩ (c_X8_isBarred l dC dI mm pl ig sl kl (0 : Int32) (0 : Int32) r_8 q_9 par _ hpa) (cwV 2 hts gX8_partyNow_X8_isBarred rfl rfl rfl (by decide +kernel) ⟨Nat.le_of_ble_eq_true rfl, Nat.le_of_ble_eq_true rfl⟩) ⟨pr_blind, va_recv hKc hPc (ci := 10) (q0 := 0) rfl rfl, fun U hU hW => ⟨rfl, pr_mk hU hW hPc hKc hDc⟩⟩ rfl rfl hl.1 rfl (lv_room (Nat.le_of_ble_eq_true rfl)) dX8_partyNow_118 ⟨Nat.le_of_ble_eq_true rfl, Nat.le_of_ble_eq_true rfl⟩) hS (fun q _ h => hFc q h) hFc (fun r_11 u_10 t H1 locs ht hvm hw hB hz1 hk1 hS => ?_)
          obtain ⟨hP1, hK1, hD1⟩ := hB
          rw [ht] at hP1
          obtain ⟨hP, hD⟩ := va_join (wr := [(pl, .inr (1, [.int 0, .ref dz, .int 0])), (sl, .inr (1, [.int 0, .ref dz, .int 0]))]) (w1 := [(mm, .inr (10, [.int 0, .ref pl, .ref ig, .ref sl, .ref kl, .int 0, .int 0, .int 0])), (r_8, .inl (q_9, 5, .inl zi))]) hP hD [1, 3] [0, 2] rfl rfl (by decide) (by decide) hk1 hFc hP1 hD1
          generalize H1 = H at hP hS ⊢
          have hP : va_P (dC, dI) vwCl [(pl, .inr (1, [.int 0, .ref dz, .int 0])), (sl, .inr (1, [.int 0, .ref dz, .int 0])), (mm, .inr (10, [.int 0, .ref pl, .ref ig, .ref sl, .ref kl, .int 0, .int 0, .int 0])), (r_8, .inl (q_9, 5, .inl zi))] H := hP
          have hD : va_D A [(pl, .inr (1, [.int 0, .ref dz, .int 0])), (sl, .inr (1, [.int 0, .ref dz, .int 0])), (mm, .inr (10, [.int 0, .ref pl, .ref ig, .ref sl, .ref kl, .int 0, .int 0, .int 0])), (r_8, .inl (q_9, 5, .inl zi))] := hD
          refine W.widen (k := 1) (n := 5) (Nat.le_refl _) (Nat.le_refl _) ?_
          have hw : r_11 = 0 := hw
          subst hw
          refine lv_if_eq (tgt := 128) hx hb dX8_partyNow_121 (by decide) (fun _ => ?_) (fun h9 => absurd h9 (by decide))
          refine lv_iconst (v := 0) hx hb dX8_partyNow_128 (by decide) ?_
          have hP9 := hP.sub (ws' := [(mm, .inr (10, [.int 0, .ref pl, .ref ig, .ref sl, .ref kl, .int 0, .int 0, .int 0])), (pl, .inr (1, [.int 0, .ref dz, .int 0])), (sl, .inr (1, [.int 0, .ref dz, .int 0]))]) [2, 0, 1] rfl
          have hD9 := hD.sub (ws' := [(mm, .inr (10, [.int 0, .ref pl, .ref ig, .ref sl, .ref kl, .int 0, .int 0, .int 0])), (pl, .inr (1, [.int 0, .ref dz, .int 0])), (sl, .inr (1, [.int 0, .ref dz, .int 0]))]) [2, 0, 1] (by decide) rfl
          have hK9 := hK.sub (tys' := []) [] rfl
          refine W.widen (k := 1) (n := 5) (Nat.le_of_ble_eq_true rfl) (Nat.le_of_ble_eq_true rfl) ?_
          exact W.iret (v := 0) hx hb hr (fun t ht hW => ⟨⟨0, (), rfl, rfl, po_mk ht hW hP9 hK9 hD9⟩, hS.F ht⟩) hS.2.2 dX8_partyNow_129
        · refine lv_aload_n hx hb dX8_partyNow_104 rfl (lv_at hl 2 rfl) ?_
          refine lv_iload_n hx hb dX8_partyNow_105 rfl (lv_at hl 3 rfl) ?_
          have hPc := hP.sub (ws' := [(mm, .inr (10, [.int 0, .ref pl, .ref ig, .ref sl, .ref kl, .int 0, .int 0, .int 0])), (sl, .inr (1, [.int 0, .ref dz, .int 0]))]) [0, 1] rfl
          have hDc := hD.sub (ws' := [(mm, .inr (10, [.int 0, .ref pl, .ref ig, .ref sl, .ref kl, .int 0, .int 0, .int 0])), (sl, .inr (1, [.int 0, .ref dz, .int 0]))]) [0, 1] (by decide) rfl
          have hKc := hK.sub (tys' := []) [] rfl
          have hFc := va_free (wc := [(mm, .inr (10, [.int 0, .ref pl, .ref ig, .ref sl, .ref kl, .int 0, .int 0, .int 0])), (sl, .inr (1, [.int 0, .ref dz, .int 0]))]) hD hS hA [0, 1] rfl
          refine va_calli (va_runV (As := [.int par]) (rest := []) ⟨hx, hb, hml, hown, hts⟩ (c_X8_wasted l dC dI mm pl ig sl kl dz par _ ) (cwV 1 hts gX8_partyNow_X8_wasted rfl rfl rfl (by decide +kernel) ⟨Nat.le_of_ble_eq_true rfl, Nat.le_of_ble_eq_true rfl⟩) ⟨pe_blind mo_bl, va_recv hKc hPc (ci := 10) (q0 := 0) rfl rfl, fun U hU hW => ⟨rfl, pr_mk hU hW hPc hKc hDc, mo_mk hW hXs⟩⟩ rfl rfl hl.1 rfl (lv_room (Nat.le_of_ble_eq_true rfl)) dX8_partyNow_106 ⟨Nat.le_of_ble_eq_true rfl, Nat.le_of_ble_eq_true rfl⟩) hS (fun q _ h => hFc q h) hFc (fun r_13 u_12 t H1 locs ht hvm hw hB hz1 hk1 hS => ?_)
          obtain ⟨hP1, hK1, hD1⟩ := hB
          rw [ht] at hP1
          obtain ⟨hP, hD⟩ := va_join (wr := [(pl, .inr (1, [.int 0, .ref dz, .int 0]))]) (w1 := [(mm, .inr (10, [.int 0, .ref pl, .ref ig, .ref sl, .ref kl, .int 0, .int 0, .int 0])), (sl, .inr (1, [.int 0, .ref dz, .int 0]))]) hP hD [0, 1] [2] rfl rfl (by decide) (by decide) hk1 hFc hP1 hD1
          generalize H1 = H at hP hS ⊢
          have hP : va_P (dC, dI) vwCl [(pl, .inr (1, [.int 0, .ref dz, .int 0])), (mm, .inr (10, [.int 0, .ref pl, .ref ig, .ref sl, .ref kl, .int 0, .int 0, .int 0])), (sl, .inr (1, [.int 0, .ref dz, .int 0]))] H := hP
          have hD : va_D A [(pl, .inr (1, [.int 0, .ref dz, .int 0])), (mm, .inr (10, [.int 0, .ref pl, .ref ig, .ref sl, .ref kl, .int 0, .int 0, .int 0])), (sl, .inr (1, [.int 0, .ref dz, .int 0]))] := hD
          refine W.widen (k := 0) (n := 0) (Nat.le_refl _) (Nat.le_refl _) ?_
          have hw : r_13 = 0 := hw
          subst hw
          refine lv_goto (tgt := 129) hx hb dX8_partyNow_109 (by decide) ?_
          have hP9 := hP.sub (ws' := [(mm, .inr (10, [.int 0, .ref pl, .ref ig, .ref sl, .ref kl, .int 0, .int 0, .int 0])), (pl, .inr (1, [.int 0, .ref dz, .int 0])), (sl, .inr (1, [.int 0, .ref dz, .int 0]))]) [1, 0, 2] rfl
          have hD9 := hD.sub (ws' := [(mm, .inr (10, [.int 0, .ref pl, .ref ig, .ref sl, .ref kl, .int 0, .int 0, .int 0])), (pl, .inr (1, [.int 0, .ref dz, .int 0])), (sl, .inr (1, [.int 0, .ref dz, .int 0]))]) [1, 0, 2] (by decide) rfl
          have hK9 := hK.sub (tys' := []) [] rfl
          refine W.widen (k := 1) (n := 5) (Nat.le_of_ble_eq_true rfl) (Nat.le_of_ble_eq_true rfl) ?_
          exact W.iret (v := 0) hx hb hr (fun t ht hW => ⟨⟨0, (), rfl, rfl, po_mk ht hW hP9 hK9 hD9⟩, hS.F ht⟩) hS.2.2 dX8_partyNow_129
      · refine lv_aload_n hx hb dX8_partyNow_91 rfl (lv_at hl 2 rfl) ?_
        refine lv_iload_n hx hb dX8_partyNow_92 rfl (lv_at hl 3 rfl) ?_
        have hPc := hP.sub (ws' := [(mm, .inr (10, [.int 0, .ref pl, .ref ig, .ref sl, .ref kl, .int 0, .int 0, .int 0])), (sl, .inr (1, [.int 0, .ref dz, .int 0]))]) [0, 1] rfl
        have hDc := hD.sub (ws' := [(mm, .inr (10, [.int 0, .ref pl, .ref ig, .ref sl, .ref kl, .int 0, .int 0, .int 0])), (sl, .inr (1, [.int 0, .ref dz, .int 0]))]) [0, 1] (by decide) rfl
        have hKc := hK.sub (tys' := []) [] rfl
        have hFc := va_free (wc := [(mm, .inr (10, [.int 0, .ref pl, .ref ig, .ref sl, .ref kl, .int 0, .int 0, .int 0])), (sl, .inr (1, [.int 0, .ref dz, .int 0]))]) hD hS hA [0, 1] rfl
        refine va_calli (va_runV (As := [.int par]) (rest := []) ⟨hx, hb, hml, hown, hts⟩ (c_X8_direct l dC dI mm pl ig sl kl dz par _ ) (cwV 1 hts gX8_partyNow_X8_direct rfl rfl rfl (by decide +kernel) ⟨Nat.le_of_ble_eq_true rfl, Nat.le_of_ble_eq_true rfl⟩) ⟨pe_blind mo_bl, va_recv hKc hPc (ci := 10) (q0 := 0) rfl rfl, fun U hU hW => ⟨rfl, pr_mk hU hW hPc hKc hDc, mo_mk hW hXs⟩⟩ rfl rfl hl.1 rfl (lv_room (Nat.le_of_ble_eq_true rfl)) dX8_partyNow_93 ⟨Nat.le_of_ble_eq_true rfl, Nat.le_of_ble_eq_true rfl⟩) hS (fun q _ h => hFc q h) hFc (fun r_15 u_14 t H1 locs ht hvm hw hB hz1 hk1 hS => ?_)
        obtain ⟨hP1, hK1, hD1⟩ := hB
        rw [ht] at hP1
        obtain ⟨hP, hD⟩ := va_join (wr := [(pl, .inr (1, [.int 0, .ref dz, .int 0]))]) (w1 := [(mm, .inr (10, [.int 0, .ref pl, .ref ig, .ref sl, .ref kl, .int 0, .int 0, .int 0])), (sl, .inr (1, [.int 0, .ref dz, .int 0]))]) hP hD [0, 1] [2] rfl rfl (by decide) (by decide) hk1 hFc hP1 hD1
        generalize H1 = H at hP hS ⊢
        have hP : va_P (dC, dI) vwCl [(pl, .inr (1, [.int 0, .ref dz, .int 0])), (mm, .inr (10, [.int 0, .ref pl, .ref ig, .ref sl, .ref kl, .int 0, .int 0, .int 0])), (sl, .inr (1, [.int 0, .ref dz, .int 0]))] H := hP
        have hD : va_D A [(pl, .inr (1, [.int 0, .ref dz, .int 0])), (mm, .inr (10, [.int 0, .ref pl, .ref ig, .ref sl, .ref kl, .int 0, .int 0, .int 0])), (sl, .inr (1, [.int 0, .ref dz, .int 0]))] := hD
        refine W.widen (k := 0) (n := 0) (Nat.le_refl _) (Nat.le_refl _) ?_
        have hw : r_15 = 0 := hw
        subst hw
        refine lv_goto (tgt := 129) hx hb dX8_partyNow_96 (by decide) ?_
        have hP9 := hP.sub (ws' := [(mm, .inr (10, [.int 0, .ref pl, .ref ig, .ref sl, .ref kl, .int 0, .int 0, .int 0])), (pl, .inr (1, [.int 0, .ref dz, .int 0])), (sl, .inr (1, [.int 0, .ref dz, .int 0]))]) [1, 0, 2] rfl
        have hD9 := hD.sub (ws' := [(mm, .inr (10, [.int 0, .ref pl, .ref ig, .ref sl, .ref kl, .int 0, .int 0, .int 0])), (pl, .inr (1, [.int 0, .ref dz, .int 0])), (sl, .inr (1, [.int 0, .ref dz, .int 0]))]) [1, 0, 2] (by decide) rfl
        have hK9 := hK.sub (tys' := []) [] rfl
        refine W.widen (k := 1) (n := 5) (Nat.le_of_ble_eq_true rfl) (Nat.le_of_ble_eq_true rfl) ?_
        exact W.iret (v := 0) hx hb hr (fun t ht hW => ⟨⟨0, (), rfl, rfl, po_mk ht hW hP9 hK9 hD9⟩, hS.F ht⟩) hS.2.2 dX8_partyNow_129
    · refine lv_iload_n hx hb dX8_partyNow_82 rfl (lv_at hl 1 rfl) ?_
      refine lv_goto (tgt := 129) hx hb dX8_partyNow_83 (by decide) ?_
      have hP9 := hP.sub (ws' := [(mm, .inr (10, [.int 0, .ref pl, .ref ig, .ref sl, .ref kl, .int 0, .int 0, .int 0])), (pl, .inr (1, [.int 0, .ref dz, .int 0])), (sl, .inr (1, [.int 0, .ref dz, .int 0]))]) [0, 2, 1] rfl
      have hD9 := hD.sub (ws' := [(mm, .inr (10, [.int 0, .ref pl, .ref ig, .ref sl, .ref kl, .int 0, .int 0, .int 0])), (pl, .inr (1, [.int 0, .ref dz, .int 0])), (sl, .inr (1, [.int 0, .ref dz, .int 0]))]) [0, 2, 1] (by decide) rfl
      have hK9 := hK.sub (tys' := []) [] rfl
      refine W.widen (k := 1) (n := 5) (Nat.le_of_ble_eq_true rfl) (Nat.le_of_ble_eq_true rfl) ?_
      exact W.iret (v := 0) hx hb hr (fun t ht hW => ⟨⟨0, (), rfl, rfl, po_mk ht hW hP9 hK9 hD9⟩, hS.F ht⟩) hS.2.2 dX8_partyNow_129
  · refine lv_aload_n hx hb dX8_partyNow_68 rfl (lv_at hl 2 rfl) ?_
    have hPc := hP.sub (ws' := [(mm, .inr (10, [.int 0, .ref pl, .ref ig, .ref sl, .ref kl, .int 0, .int 0, .int 0])), (sl, .inr (1, [.int 0, .ref dz, .int 0]))]) [0, 1] rfl
    have hDc := hD.sub (ws' := [(mm, .inr (10, [.int 0, .ref pl, .ref ig, .ref sl, .ref kl, .int 0, .int 0, .int 0])), (sl, .inr (1, [.int 0, .ref dz, .int 0]))]) [0, 1] (by decide) rfl
    have hKc := hK.sub (tys' := []) [] rfl
    have hFc := va_free (wc := [(mm, .inr (10, [.int 0, .ref pl, .ref ig, .ref sl, .ref kl, .int 0, .int 0, .int 0])), (sl, .inr (1, [.int 0, .ref dz, .int 0]))]) hD hS hA [0, 1] rfl
    refine va_callr (va_runV (As := []) (rest := []) ⟨hx, hb, hml, hown, hts⟩ (c_X8_votes l dC dI mm pl ig sl kl dz (0 : Int32) (0 : Int32) _ ) (cwV 0 hts gX8_partyNow_X8_votes rfl rfl rfl (by decide +kernel) ⟨Nat.le_of_ble_eq_true rfl, Nat.le_of_ble_eq_true rfl⟩) ⟨pe_blind mo_bl, va_recv hKc hPc (ci := 10) (q0 := 0) rfl rfl, fun U hU hW => ⟨rfl, pr_mk hU hW hPc hKc hDc, mo_mk hW hXs⟩⟩ rfl rfl hl.1 rfl (lv_room (Nat.le_of_ble_eq_true rfl)) dX8_partyNow_69 ⟨Nat.le_of_ble_eq_true rfl, Nat.le_of_ble_eq_true rfl⟩) hS (fun q _ h => hFc q h) hFc (fun u_16 r_17 t H1 locs ht hvm hw hB hz1 hk1 hS => ?_)
    obtain ⟨q_18, rfl⟩ : ∃ z, z = u_16 := ⟨_, rfl⟩
    obtain ⟨hP1, hK1, hD1⟩ := hB
    rw [ht] at hP1
    obtain ⟨hP, hD⟩ := va_join (wr := [(pl, .inr (1, [.int 0, .ref dz, .int 0]))]) (w1 := [(mm, .inr (10, [.int 0, .ref pl, .ref ig, .ref sl, .ref kl, .int 0, .int 0, .int 0])), (sl, .inr (1, [.int 0, .ref dz, .int 0])), (r_17, .inl (q_18, 5, .inl zi))]) hP hD [0, 1] [2] rfl rfl (by decide) (by decide) hk1 hFc hP1 hD1
    have hK := hK.app (va_K.moved hvm.symm hK1)
    have hK : va_K (dC, dI) vwCl [(q_18, .int)] s := hK
    generalize H1 = H at hP hS ⊢
    have hP : va_P (dC, dI) vwCl [(pl, .inr (1, [.int 0, .ref dz, .int 0])), (mm, .inr (10, [.int 0, .ref pl, .ref ig, .ref sl, .ref kl, .int 0, .int 0, .int 0])), (sl, .inr (1, [.int 0, .ref dz, .int 0])), (r_17, .inl (q_18, 5, .inl zi))] H := hP
    have hD : va_D A [(pl, .inr (1, [.int 0, .ref dz, .int 0])), (mm, .inr (10, [.int 0, .ref pl, .ref ig, .ref sl, .ref kl, .int 0, .int 0, .int 0])), (sl, .inr (1, [.int 0, .ref dz, .int 0])), (r_17, .inl (q_18, 5, .inl zi))] := hD
    refine W.widen (k := 1) (n := 5) (Nat.le_of_ble_eq_true rfl) (Nat.le_of_ble_eq_true rfl) ?_
    refine lv_iload_n hx hb dX8_partyNow_72 rfl (lv_at hl 3 rfl) ?_
    refine va_iald hx hb hK hP 3 0 rfl rfl hpa dX8_partyNow_73 ?_
    refine lv_topi (fun y_19 ey_19 => ?_)
    obtain rfl : y_19 = 0 := ey_19.trans (by rfl)
    refine lv_goto (tgt := 129) hx hb dX8_partyNow_74 (by decide) ?_
    have hP9 := hP.sub (ws' := [(mm, .inr (10, [.int 0, .ref pl, .ref ig, .ref sl, .ref kl, .int 0, .int 0, .int 0])), (pl, .inr (1, [.int 0, .ref dz, .int 0])), (sl, .inr (1, [.int 0, .ref dz, .int 0]))]) [1, 0, 2] rfl
    have hD9 := hD.sub (ws' := [(mm, .inr (10, [.int 0, .ref pl, .ref ig, .ref sl, .ref kl, .int 0, .int 0, .int 0])), (pl, .inr (1, [.int 0, .ref dz, .int 0])), (sl, .inr (1, [.int 0, .ref dz, .int 0]))]) [1, 0, 2] (by decide) rfl
    have hK9 := hK.sub (tys' := []) [] rfl
    refine W.widen (k := 1) (n := 5) (Nat.le_of_ble_eq_true rfl) (Nat.le_of_ble_eq_true rfl) ?_
    exact W.iret (v := 0) hx hb hr (fun t ht hW => ⟨⟨0, (), rfl, rfl, po_mk ht hW hP9 hK9 hD9⟩, hS.F ht⟩) hS.2.2 dX8_partyNow_129

set_option maxHeartbeats 4000000 in
set_option maxRecDepth 100000 in
theorem c_X8_isHouse (l : Launch) (dC : Nat → ClassId) (dI : Nat → Nat → Nat) (ho : Int32) (ru : Int32) (sz : Nat) (h1 : ¬ ho < 1) (h2 : ¬ 60 < ho) (h3 : ¬ ru < 0) (h4 : ¬ 2 < ru) : Met l yX8_isHouse wsX8_isHouse ({ frames := 3, cells := 0, slots := 0, locals := 80 }) (va_Pc [.int ho, .int ru] (pr_ dC dI [] [] sz)) (va_Qi (fun (r : Int32) (_ : Unit) => r = 1) (fun (_ : Unit) t => po_ dC dI [] [] (va_A [] sz) t) (va_A [] sz)) 0 0 (va_A [] sz) := by
  refine Met.ofW (cc := cX8_isHouse) (maxL := 2) (ret := (some .boolean)) (by decide) rfl ?_
  intro p e s m args below meth c s₁ B hml hv
  obtain ⟨rfl, hsz, hP, hK, hD0⟩ := hv
  have hx := B.exec
  have hb := B.bytes
  have hr := B.returns
  have hts := atoms_spec (ws := wsX8_isHouse) B.pre
  have hown : s.vm.findClass RX8 = some m.cls := findClass_of_methodNamed B.named
  have hlocks := B.notSynchronized
  subst hsz
  have hD := hD0.self (sz := s.heap.size)
  generalize hAe : va_A [] s.heap.size = A at hD ⊢
  have hA : ∀ q : Nat, s.heap.size ≤ q → A q := fun q h => by rw [← hAe]; exact Or.inr h
  have hS : va_S A s.heap s.heap [] := va_S.rf
  have hP : va_P (dC, dI) vwCl [] s.heap := hP
  have hK : va_K (dC, dI) vwCl [] s := hK
  have hl := lv_entry ([.int ho, .int ru]) (n := 2) (Nat.le_of_ble_eq_true rfl)
  rw [lg_entry_eq]
  generalize (lg_sl ([.int ho, .int ru]) ++ List.replicate (2 - (lg_sl ([.int ho, .int ru])).length) Slot.unset).toArray = ls at hl ⊢
  have hl : lv_has ls 2 [(0, .int ho), (1, .int ru)] := hl
  refine lv_iload_n hx hb dX8_isHouse_0 rfl (lv_at hl 0 rfl) ?_
  refine lv_iconst (v := 1) hx hb dX8_isHouse_1 (by decide) ?_
  refine lv_bipush (v := 60) hx hb dX8_isHouse_2 (by decide) ?_
  have hPc := hP.sub (ws' := []) [] rfl
  have hDc := hD.sub (ws' := []) [] (by decide) rfl
  have hKc := hK.sub (tys' := []) [] rfl
  have hFc := va_free (wc := []) hD hS hA [] rfl
  refine va_calli (va_runS (As := [.int ho, .int 1, .int 60]) (rest := []) ⟨hx, hb, hml, hown, hts⟩ (c_X8_in l dC dI ho (1 : Int32) (60 : Int32) _ h1 h2) (va_cwS 3 hts gX8_isHouse_X8_in rfl rfl rfl (by decide +kernel) ⟨Nat.le_of_ble_eq_true rfl, Nat.le_of_ble_eq_true rfl⟩) ⟨pr_blind, fun U hU hW => ⟨rfl, pr_mk hU hW hPc hKc hDc⟩⟩ rfl rfl hl.1 rfl (lv_room (Nat.le_of_ble_eq_true rfl)) dX8_isHouse_4 ⟨Nat.le_of_ble_eq_true rfl, Nat.le_of_ble_eq_true rfl⟩) hS (fun q _ h => hFc q h) hFc (fun r_2 u_1 t H1 locs ht hvm hw hB hz1 hk1 hS => ?_)
  obtain ⟨hP1, hK1, hD1⟩ := hB
  rw [ht] at hP1
  obtain ⟨hP, hD⟩ := va_join (wr := []) (w1 := []) hP hD [] [] rfl rfl (by decide) (by decide) hk1 hFc hP1 hD1
  generalize H1 = H at hP hS ⊢
  have hP : va_P (dC, dI) vwCl [] H := hP
  have hD : va_D A [] := hD
  refine W.widen (k := 0) (n := 0) (Nat.le_refl _) (Nat.le_refl _) ?_
  have hw : r_2 = 1 := hw
  subst hw
  refine lv_if_eq (tgt := 23) hx hb dX8_isHouse_7 (by decide) (fun h9 => absurd h9 (by decide)) (fun _ => ?_)
  refine lv_iload_n hx hb dX8_isHouse_10 rfl (lv_at hl 1 rfl) ?_
  refine lv_iconst (v := 0) hx hb dX8_isHouse_11 (by decide) ?_
  refine lv_iconst (v := 2) hx hb dX8_isHouse_12 (by decide) ?_
  have hPc := hP.sub (ws' := []) [] rfl
  have hDc := hD.sub (ws' := []) [] (by decide) rfl
  have hKc := hK.sub (tys' := []) [] rfl
  have hFc := va_free (wc := []) hD hS hA [] rfl
  refine va_calli (va_runS (As := [.int ru, .int 0, .int 2]) (rest := []) ⟨hx, hb, hml, hown, hts⟩ (c_X8_in l dC dI ru (0 : Int32) (2 : Int32) _ h3 h4) (va_cwS 3 hts gX8_isHouse_X8_in rfl rfl rfl (by decide +kernel) ⟨Nat.le_of_ble_eq_true rfl, Nat.le_of_ble_eq_true rfl⟩) ⟨pr_blind, fun U hU hW => ⟨rfl, pr_mk hU hW hPc hKc hDc⟩⟩ rfl rfl hl.1 rfl (lv_room (Nat.le_of_ble_eq_true rfl)) dX8_isHouse_13 ⟨Nat.le_of_ble_eq_true rfl, Nat.le_of_ble_eq_true rfl⟩) hS (fun q _ h => hFc q h) hFc (fun r_4 u_3 t H1 locs ht hvm hw hB hz1 hk1 hS => ?_)
  obtain ⟨hP1, hK1, hD1⟩ := hB
  rw [ht] at hP1
  obtain ⟨hP, hD⟩ := va_join (wr := []) (w1 := []) hP hD [] [] rfl rfl (by decide) (by decide) hk1 hFc hP1 hD1
  generalize H1 = H at hP hS ⊢
  have hP : va_P (dC, dI) vwCl [] H := hP
  have hD : va_D A [] := hD
  refine W.widen (k := 0) (n := 0) (Nat.le_refl _) (Nat.le_refl _) ?_
  have hw : r_4 = 1 := hw
  subst hw
  refine lv_if_eq (tgt := 23) hx hb dX8_isHouse_16 (by decide) (fun h9 => absurd h9 (by decide)) (fun _ => ?_)
  refine lv_iconst (v := 1) hx hb dX8_isHouse_19 (by decide) ?_
  refine lv_goto (tgt := 24) hx hb dX8_isHouse_20 (by decide) ?_
  have hP9 := hP.sub (ws' := []) [] rfl
  have hD9 := hD.sub (ws' := []) [] (by decide) rfl
  have hK9 := hK.sub (tys' := []) [] rfl
  refine W.widen (k := 0) (n := 0) (Nat.le_of_ble_eq_true rfl) (Nat.le_of_ble_eq_true rfl) ?_
  exact W.zret (v := 1) hx hb hr rfl (fun t ht hW => ⟨⟨1, (), rfl, rfl, po_mk ht hW hP9 hK9 hD9⟩, hS.F ht⟩) hS.2.2 dX8_isHouse_24

set_option maxHeartbeats 4000000 in
set_option maxRecDepth 100000 in
theorem c0_X8_isHouse (l : Launch) (dC : Nat → ClassId) (dI : Nat → Nat → Nat) (ho : Int32) (ru : Int32) (sz : Nat) (hbd : ho < 1 ∨ 60 < ho) : Met l yX8_isHouse wsX8_isHouse ({ frames := 3, cells := 0, slots := 0, locals := 80 }) (va_Pc [.int ho, .int ru] (pr_ dC dI [] [] sz)) (va_Qi (fun (r : Int32) (_ : Unit) => r = 0) (fun (_ : Unit) t => po_ dC dI [] [] (va_A [] sz) t) (va_A [] sz)) 0 0 (va_A [] sz) := by
  refine Met.ofW (cc := cX8_isHouse) (maxL := 2) (ret := (some .boolean)) (by decide) rfl ?_
  intro p e s m args below meth c s₁ B hml hv
  obtain ⟨rfl, hsz, hP, hK, hD0⟩ := hv
  have hx := B.exec
  have hb := B.bytes
  have hr := B.returns
  have hts := atoms_spec (ws := wsX8_isHouse) B.pre
  have hown : s.vm.findClass RX8 = some m.cls := findClass_of_methodNamed B.named
  have hlocks := B.notSynchronized
  subst hsz
  have hD := hD0.self (sz := s.heap.size)
  generalize hAe : va_A [] s.heap.size = A at hD ⊢
  have hA : ∀ q : Nat, s.heap.size ≤ q → A q := fun q h => by rw [← hAe]; exact Or.inr h
  have hS : va_S A s.heap s.heap [] := va_S.rf
  have hP : va_P (dC, dI) vwCl [] s.heap := hP
  have hK : va_K (dC, dI) vwCl [] s := hK
  have hl := lv_entry ([.int ho, .int ru]) (n := 2) (Nat.le_of_ble_eq_true rfl)
  rw [lg_entry_eq]
  generalize (lg_sl ([.int ho, .int ru]) ++ List.replicate (2 - (lg_sl ([.int ho, .int ru])).length) Slot.unset).toArray = ls at hl ⊢
  have hl : lv_has ls 2 [(0, .int ho), (1, .int ru)] := hl
  refine lv_iload_n hx hb dX8_isHouse_0 rfl (lv_at hl 0 rfl) ?_
  refine lv_iconst (v := 1) hx hb dX8_isHouse_1 (by decide) ?_
  refine lv_bipush (v := 60) hx hb dX8_isHouse_2 (by decide) ?_
  have hPc := hP.sub (ws' := []) [] rfl
  have hDc := hD.sub (ws' := []) [] (by decide) rfl
  have hKc := hK.sub (tys' := []) [] rfl
  have hFc := va_free (wc := []) hD hS hA [] rfl
  refine va_calli (va_runS (As := [.int ho, .int 1, .int 60]) (rest := []) ⟨hx, hb, hml, hown, hts⟩ (c0_X8_in l dC dI ho (1 : Int32) (60 : Int32) _ hbd) (va_cwS 3 hts gX8_isHouse_X8_in rfl rfl rfl (by decide +kernel) ⟨Nat.le_of_ble_eq_true rfl, Nat.le_of_ble_eq_true rfl⟩) ⟨pr_blind, fun U hU hW => ⟨rfl, pr_mk hU hW hPc hKc hDc⟩⟩ rfl rfl hl.1 rfl (lv_room (Nat.le_of_ble_eq_true rfl)) dX8_isHouse_4 ⟨Nat.le_of_ble_eq_true rfl, Nat.le_of_ble_eq_true rfl⟩) hS (fun q _ h => hFc q h) hFc (fun r_2 u_1 t H1 locs ht hvm hw hB hz1 hk1 hS => ?_)
  obtain ⟨hP1, hK1, hD1⟩ := hB
  rw [ht] at hP1
  obtain ⟨hP, hD⟩ := va_join (wr := []) (w1 := []) hP hD [] [] rfl rfl (by decide) (by decide) hk1 hFc hP1 hD1
  generalize H1 = H at hP hS ⊢
  have hP : va_P (dC, dI) vwCl [] H := hP
  have hD : va_D A [] := hD
  refine W.widen (k := 0) (n := 0) (Nat.le_refl _) (Nat.le_refl _) ?_
  have hw : r_2 = 0 := hw
  subst hw
  refine lv_if_eq (tgt := 23) hx hb dX8_isHouse_7 (by decide) (fun _ => ?_) (fun h9 => absurd h9 (by decide))
  refine lv_iconst (v := 0) hx hb dX8_isHouse_23 (by decide) ?_
  have hP9 := hP.sub (ws' := []) [] rfl
  have hD9 := hD.sub (ws' := []) [] (by decide) rfl
  have hK9 := hK.sub (tys' := []) [] rfl
  refine W.widen (k := 0) (n := 0) (Nat.le_of_ble_eq_true rfl) (Nat.le_of_ble_eq_true rfl) ?_
  exact W.zret (v := 0) hx hb hr rfl (fun t ht hW => ⟨⟨0, (), rfl, rfl, po_mk ht hW hP9 hK9 hD9⟩, hS.F ht⟩) hS.2.2 dX8_isHouse_24

set_option maxHeartbeats 4000000 in
set_option maxRecDepth 100000 in
theorem c2_X8_isHouse (l : Launch) (dC : Nat → ClassId) (dI : Nat → Nat → Nat) (ho : Int32) (ru : Int32) (sz : Nat) (h1 : ¬ ho < 1) (h2 : ¬ 60 < ho) (hbd : ru < 0 ∨ 2 < ru) : Met l yX8_isHouse wsX8_isHouse ({ frames := 3, cells := 0, slots := 0, locals := 80 }) (va_Pc [.int ho, .int ru] (pr_ dC dI [] [] sz)) (va_Qi (fun (r : Int32) (_ : Unit) => r = 0) (fun (_ : Unit) t => po_ dC dI [] [] (va_A [] sz) t) (va_A [] sz)) 0 0 (va_A [] sz) := by
  refine Met.ofW (cc := cX8_isHouse) (maxL := 2) (ret := (some .boolean)) (by decide) rfl ?_
  intro p e s m args below meth c s₁ B hml hv
  obtain ⟨rfl, hsz, hP, hK, hD0⟩ := hv
  have hx := B.exec
  have hb := B.bytes
  have hr := B.returns
  have hts := atoms_spec (ws := wsX8_isHouse) B.pre
  have hown : s.vm.findClass RX8 = some m.cls := findClass_of_methodNamed B.named
  have hlocks := B.notSynchronized
  subst hsz
  have hD := hD0.self (sz := s.heap.size)
  generalize hAe : va_A [] s.heap.size = A at hD ⊢
  have hA : ∀ q : Nat, s.heap.size ≤ q → A q := fun q h => by rw [← hAe]; exact Or.inr h
  have hS : va_S A s.heap s.heap [] := va_S.rf
  have hP : va_P (dC, dI) vwCl [] s.heap := hP
  have hK : va_K (dC, dI) vwCl [] s := hK
  have hl := lv_entry ([.int ho, .int ru]) (n := 2) (Nat.le_of_ble_eq_true rfl)
  rw [lg_entry_eq]
  generalize (lg_sl ([.int ho, .int ru]) ++ List.replicate (2 - (lg_sl ([.int ho, .int ru])).length) Slot.unset).toArray = ls at hl ⊢
  have hl : lv_has ls 2 [(0, .int ho), (1, .int ru)] := hl
  refine lv_iload_n hx hb dX8_isHouse_0 rfl (lv_at hl 0 rfl) ?_
  refine lv_iconst (v := 1) hx hb dX8_isHouse_1 (by decide) ?_
  refine lv_bipush (v := 60) hx hb dX8_isHouse_2 (by decide) ?_
  have hPc := hP.sub (ws' := []) [] rfl
  have hDc := hD.sub (ws' := []) [] (by decide) rfl
  have hKc := hK.sub (tys' := []) [] rfl
  have hFc := va_free (wc := []) hD hS hA [] rfl
  refine va_calli (va_runS (As := [.int ho, .int 1, .int 60]) (rest := []) ⟨hx, hb, hml, hown, hts⟩ (c_X8_in l dC dI ho (1 : Int32) (60 : Int32) _ h1 h2) (va_cwS 3 hts gX8_isHouse_X8_in rfl rfl rfl (by decide +kernel) ⟨Nat.le_of_ble_eq_true rfl, Nat.le_of_ble_eq_true rfl⟩) ⟨pr_blind, fun U hU hW => ⟨rfl, pr_mk hU hW hPc hKc hDc⟩⟩ rfl rfl hl.1 rfl (lv_room (Nat.le_of_ble_eq_true rfl)) dX8_isHouse_4 ⟨Nat.le_of_ble_eq_true rfl, Nat.le_of_ble_eq_true rfl⟩) hS (fun q _ h => hFc q h) hFc (fun r_2 u_1 t H1 locs ht hvm hw hB hz1 hk1 hS => ?_)
  obtain ⟨hP1, hK1, hD1⟩ := hB
  rw [ht] at hP1
  obtain ⟨hP, hD⟩ := va_join (wr := []) (w1 := []) hP hD [] [] rfl rfl (by decide) (by decide) hk1 hFc hP1 hD1
  generalize H1 = H at hP hS ⊢
  have hP : va_P (dC, dI) vwCl [] H := hP
  have hD : va_D A [] := hD
  refine W.widen (k := 0) (n := 0) (Nat.le_refl _) (Nat.le_refl _) ?_
  have hw : r_2 = 1 := hw
  subst hw
  refine lv_if_eq (tgt := 23) hx hb dX8_isHouse_7 (by decide) (fun h9 => absurd h9 (by decide)) (fun _ => ?_)
  refine lv_iload_n hx hb dX8_isHouse_10 rfl (lv_at hl 1 rfl) ?_
  refine lv_iconst (v := 0) hx hb dX8_isHouse_11 (by decide) ?_
  refine lv_iconst (v := 2) hx hb dX8_isHouse_12 (by decide) ?_
  have hPc := hP.sub (ws' := []) [] rfl
  have hDc := hD.sub (ws' := []) [] (by decide) rfl
  have hKc := hK.sub (tys' := []) [] rfl
  have hFc := va_free (wc := []) hD hS hA [] rfl
  refine va_calli (va_runS (As := [.int ru, .int 0, .int 2]) (rest := []) ⟨hx, hb, hml, hown, hts⟩ (c0_X8_in l dC dI ru (0 : Int32) (2 : Int32) _ hbd) (va_cwS 3 hts gX8_isHouse_X8_in rfl rfl rfl (by decide +kernel) ⟨Nat.le_of_ble_eq_true rfl, Nat.le_of_ble_eq_true rfl⟩) ⟨pr_blind, fun U hU hW => ⟨rfl, pr_mk hU hW hPc hKc hDc⟩⟩ rfl rfl hl.1 rfl (lv_room (Nat.le_of_ble_eq_true rfl)) dX8_isHouse_13 ⟨Nat.le_of_ble_eq_true rfl, Nat.le_of_ble_eq_true rfl⟩) hS (fun q _ h => hFc q h) hFc (fun r_4 u_3 t H1 locs ht hvm hw hB hz1 hk1 hS => ?_)
  obtain ⟨hP1, hK1, hD1⟩ := hB
  rw [ht] at hP1
  obtain ⟨hP, hD⟩ := va_join (wr := []) (w1 := []) hP hD [] [] rfl rfl (by decide) (by decide) hk1 hFc hP1 hD1
  generalize H1 = H at hP hS ⊢
  have hP : va_P (dC, dI) vwCl [] H := hP
  have hD : va_D A [] := hD
  refine W.widen (k := 0) (n := 0) (Nat.le_refl _) (Nat.le_refl _) ?_
  have hw : r_4 = 0 := hw
  subst hw
  refine lv_if_eq (tgt := 23) hx hb dX8_isHouse_16 (by decide) (fun _ => ?_) (fun h9 => absurd h9 (by decide))
  refine lv_iconst (v := 0) hx hb dX8_isHouse_23 (by decide) ?_
  have hP9 := hP.sub (ws' := []) [] rfl
  have hD9 := hD.sub (ws' := []) [] (by decide) rfl
  have hK9 := hK.sub (tys' := []) [] rfl
  refine W.widen (k := 0) (n := 0) (Nat.le_of_ble_eq_true rfl) (Nat.le_of_ble_eq_true rfl) ?_
  exact W.zret (v := 0) hx hb hr rfl (fun t ht hW => ⟨⟨0, (), rfl, rfl, po_mk ht hW hP9 hK9 hD9⟩, hS.F ht⟩) hS.2.2 dX8_isHouse_24

set_option maxHeartbeats 4000000 in
set_option maxRecDepth 100000 in
theorem c_X8_sum (l : Launch) (dC : Nat → ClassId) (dI : Nat → Nat → Nat) (sv : Nat) (cI : ClassId) (st : Int32) (sz : Nat)  : Met l yX8_sum wsX8_sum ({ frames := 2, cells := 0, slots := 0, locals := 40 }) (va_Pc [.ref sv, .int st] (pr_ dC dI [(sv, .inl (cI, 4, .inl zi))] [(cI, .int)] sz)) (va_Qi (fun (r : Int32) (_ : Unit) => r = 0) (fun (_ : Unit) t => po_ dC dI [(sv, .inl (cI, 4, .inl zi))] [(cI, .int)] (va_A [(sv, .inl (cI, 4, .inl zi))] sz) t) (va_A [(sv, .inl (cI, 4, .inl zi))] sz)) 0 0 (va_A [(sv, .inl (cI, 4, .inl zi))] sz) := by
  refine Met.ofW (cc := cX8_sum) (maxL := 4) (ret := (some .int)) (by decide) rfl ?_
  intro p e s m args below meth c s₁ B hml hv
  obtain ⟨rfl, hsz, hP, hK, hD0⟩ := hv
  have hx := B.exec
  have hb := B.bytes
  have hr := B.returns
  have hts := atoms_spec (ws := wsX8_sum) B.pre
  have hown : s.vm.findClass RX8 = some m.cls := findClass_of_methodNamed B.named
  have hlocks := B.notSynchronized
  subst hsz
  have hD := hD0.self (sz := s.heap.size)
  generalize hAe : va_A [(sv, .inl (cI, 4, .inl zi))] s.heap.size = A at hD ⊢
  have hA : ∀ q : Nat, s.heap.size ≤ q → A q := fun q h => by rw [← hAe]; exact Or.inr h
  have hS : va_S A s.heap s.heap [] := va_S.rf
  have hP : va_P (dC, dI) vwCl [(sv, .inl (cI, 4, .inl zi))] s.heap := hP
  have hK : va_K (dC, dI) vwCl [(cI, .int)] s := hK
  have hl := lv_entry ([.ref sv, .int st]) (n := 4) (Nat.le_of_ble_eq_true rfl)
  rw [lg_entry_eq]
  generalize (lg_sl ([.ref sv, .int st]) ++ List.replicate (4 - (lg_sl ([.ref sv, .int st])).length) Slot.unset).toArray = ls at hl ⊢
  have hl : lv_has ls 4 [(0, .ref sv), (1, .int st)] := hl
  refine lv_iconst (v := 0) hx hb dX8_sum_0 (by decide) ?_
  refine lv_istore_n (lv' := [(2, .int 0), (0, .ref sv), (1, .int st)]) hx hb dX8_sum_1 rfl hl (by decide) rfl (fun ls hl => ?_)
  refine lv_iconst (v := 0) hx hb dX8_sum_2 (by decide) ?_
  refine lv_istore_n (lv' := [(3, .int 0), (2, .int 0), (0, .ref sv), (1, .int st)]) hx hb dX8_sum_3 rfl hl (by decide) rfl (fun ls hl => ?_)
  refine lv_iload_n hx hb dX8_sum_4 rfl (lv_at hl 0 rfl) ?_
  refine lv_iconst (v := 4) hx hb dX8_sum_5 (by decide) ?_
  refine lv_icmp_ge (tgt := 34) hx hb dX8_sum_6 (by decide) (fun h9 => absurd h9 (by decide)) (fun _ => ?_)
  refine lv_iload_n hx hb dX8_sum_9 rfl (lv_at hl 1 rfl) ?_
  refine lv_iload_n hx hb dX8_sum_10 rfl (lv_at hl 3 rfl) ?_
  refine lv_iload_n hx hb dX8_sum_11 rfl (lv_at hl 0 rfl) ?_
  refine lv_ishr hx hb dX8_sum_12 ?_
  refine lv_topi (fun y_1 ey_1 => ?_)
  refine lv_iconst (v := 1) hx hb dX8_sum_13 (by decide) ?_
  refine lv_iand hx hb dX8_sum_14 ?_
  refine lv_topi (fun y_2 ey_2 => ?_)
  refine lv_iconst (v := 1) hx hb dX8_sum_15 (by decide) ?_
  refine w_join (pcJ := 26) (st := [.int 0, .int 0]) (fun H locs ls => va_P (dC, dI) vwCl [(sv, .inl (cI, 4, .inl zi))] H ∧ va_D A [(sv, .inl (cI, 4, .inl zi))] ∧ va_S A s.heap H locs ∧ lv_has ls 4 [(0, .ref sv), (1, .int st), (2, .int 0), (3, .int 0)]) ?_ (fun J_3 => ?_)
  · intro H locs ls ⟨hP, hD, hS, hl⟩
    refine lv_iadd hx hb dX8_sum_26 ?_
    refine lv_topi (fun y_4 ey_4 => ?_)
    obtain rfl : y_4 = 0 := ey_4.trans (by decide)
    refine lv_istore_n (lv' := [(2, .int 0), (0, .ref sv), (1, .int st), (3, .int 0)]) hx hb dX8_sum_27 rfl hl (by decide) rfl (fun ls hl => ?_)
    refine lv_iinc (k := 3) (v := 1) (lv' := [(3, .int 1), (2, .int 0), (0, .ref sv), (1, .int st)]) hx hb dX8_sum_28 hl rfl (by decide) (by decide) rfl (fun ls hl => ?_)
    refine lv_goto (tgt := 4) hx hb dX8_sum_31 (by decide) ?_
    refine lv_iload_n hx hb dX8_sum_4 rfl (lv_at hl 0 rfl) ?_
    refine lv_iconst (v := 4) hx hb dX8_sum_5 (by decide) ?_
    refine lv_icmp_ge (tgt := 34) hx hb dX8_sum_6 (by decide) (fun h9 => absurd h9 (by decide)) (fun _ => ?_)
    refine lv_iload_n hx hb dX8_sum_9 rfl (lv_at hl 1 rfl) ?_
    refine lv_iload_n hx hb dX8_sum_10 rfl (lv_at hl 3 rfl) ?_
    refine lv_iload_n hx hb dX8_sum_11 rfl (lv_at hl 0 rfl) ?_
    refine lv_ishr hx hb dX8_sum_12 ?_
    refine lv_topi (fun y_5 ey_5 => ?_)
    refine lv_iconst (v := 1) hx hb dX8_sum_13 (by decide) ?_
    refine lv_iand hx hb dX8_sum_14 ?_
    refine lv_topi (fun y_6 ey_6 => ?_)
    refine lv_iconst (v := 1) hx hb dX8_sum_15 (by decide) ?_
    refine w_join (pcJ := 26) (st := [.int 0, .int 0]) (fun H locs ls => va_P (dC, dI) vwCl [(sv, .inl (cI, 4, .inl zi))] H ∧ va_D A [(sv, .inl (cI, 4, .inl zi))] ∧ va_S A s.heap H locs ∧ lv_has ls 4 [(0, .ref sv), (1, .int st), (2, .int 0), (3, .int 1)]) ?_ (fun J_7 => ?_)
    · intro H locs ls ⟨hP, hD, hS, hl⟩
      refine lv_iadd hx hb dX8_sum_26 ?_
      refine lv_topi (fun y_8 ey_8 => ?_)
      obtain rfl : y_8 = 0 := ey_8.trans (by decide)
      refine lv_istore_n (lv' := [(2, .int 0), (0, .ref sv), (1, .int st), (3, .int 1)]) hx hb dX8_sum_27 rfl hl (by decide) rfl (fun ls hl => ?_)
      refine lv_iinc (k := 3) (v := 2) (lv' := [(3, .int 2), (2, .int 0), (0, .ref sv), (1, .int st)]) hx hb dX8_sum_28 hl rfl (by decide) (by decide) rfl (fun ls hl => ?_)
      refine lv_goto (tgt := 4) hx hb dX8_sum_31 (by decide) ?_
      refine lv_iload_n hx hb dX8_sum_4 rfl (lv_at hl 0 rfl) ?_
      refine lv_iconst (v := 4) hx hb dX8_sum_5 (by decide) ?_
      refine lv_icmp_ge (tgt := 34) hx hb dX8_sum_6 (by decide) (fun h9 => absurd h9 (by decide)) (fun _ => ?_)
      refine lv_iload_n hx hb dX8_sum_9 rfl (lv_at hl 1 rfl) ?_
      refine lv_iload_n hx hb dX8_sum_10 rfl (lv_at hl 3 rfl) ?_
      refine lv_iload_n hx hb dX8_sum_11 rfl (lv_at hl 0 rfl) ?_
      refine lv_ishr hx hb dX8_sum_12 ?_
      refine lv_topi (fun y_9 ey_9 => ?_)
      refine lv_iconst (v := 1) hx hb dX8_sum_13 (by decide) ?_
      refine lv_iand hx hb dX8_sum_14 ?_
      refine lv_topi (fun y_10 ey_10 => ?_)
      refine lv_iconst (v := 1) hx hb dX8_sum_15 (by decide) ?_
      refine w_join (pcJ := 26) (st := [.int 0, .int 0]) (fun H locs ls => va_P (dC, dI) vwCl [(sv, .inl (cI, 4, .inl zi))] H ∧ va_D A [(sv, .inl (cI, 4, .inl zi))] ∧ va_S A s.heap H locs ∧ lv_has ls 4 [(0, .ref sv), (1, .int st), (2, .int 0), (3, .int 2)]) ?_ (fun J_11 => ?_)
      · intro H locs ls ⟨hP, hD, hS, hl⟩
        refine lv_iadd hx hb dX8_sum_26 ?_
        refine lv_topi (fun y_12 ey_12 => ?_)
        obtain rfl : y_12 = 0 := ey_12.trans (by decide)
        refine lv_istore_n (lv' := [(2, .int 0), (0, .ref sv), (1, .int st), (3, .int 2)]) hx hb dX8_sum_27 rfl hl (by decide) rfl (fun ls hl => ?_)
        refine lv_iinc (k := 3) (v := 3) (lv' := [(3, .int 3), (2, .int 0), (0, .ref sv), (1, .int st)]) hx hb dX8_sum_28 hl rfl (by decide) (by decide) rfl (fun ls hl => ?_)
        refine lv_goto (tgt := 4) hx hb dX8_sum_31 (by decide) ?_
        refine lv_iload_n hx hb dX8_sum_4 rfl (lv_at hl 0 rfl) ?_
        refine lv_iconst (v := 4) hx hb dX8_sum_5 (by decide) ?_
        refine lv_icmp_ge (tgt := 34) hx hb dX8_sum_6 (by decide) (fun h9 => absurd h9 (by decide)) (fun _ => ?_)
        refine lv_iload_n hx hb dX8_sum_9 rfl (lv_at hl 1 rfl) ?_
        refine lv_iload_n hx hb dX8_sum_10 rfl (lv_at hl 3 rfl) ?_
        refine lv_iload_n hx hb dX8_sum_11 rfl (lv_at hl 0 rfl) ?_
        refine lv_ishr hx hb dX8_sum_12 ?_
        refine lv_topi (fun y_13 ey_13 => ?_)
        refine lv_iconst (v := 1) hx hb dX8_sum_13 (by decide) ?_
        refine lv_iand hx hb dX8_sum_14 ?_
        refine lv_topi (fun y_14 ey_14 => ?_)
        refine lv_iconst (v := 1) hx hb dX8_sum_15 (by decide) ?_
        refine w_join (pcJ := 26) (st := [.int 0, .int 0]) (fun H locs ls => va_P (dC, dI) vwCl [(sv, .inl (cI, 4, .inl zi))] H ∧ va_D A [(sv, .inl (cI, 4, .inl zi))] ∧ va_S A s.heap H locs ∧ lv_has ls 4 [(0, .ref sv), (1, .int st), (2, .int 0), (3, .int 3)]) ?_ (fun J_15 => ?_)
        · intro H locs ls ⟨hP, hD, hS, hl⟩
          refine lv_iadd hx hb dX8_sum_26 ?_
          refine lv_topi (fun y_16 ey_16 => ?_)
          obtain rfl : y_16 = 0 := ey_16.trans (by decide)
          refine lv_istore_n (lv' := [(2, .int 0), (0, .ref sv), (1, .int st), (3, .int 3)]) hx hb dX8_sum_27 rfl hl (by decide) rfl (fun ls hl => ?_)
          refine lv_iinc (k := 3) (v := 4) (lv' := [(3, .int 4), (2, .int 0), (0, .ref sv), (1, .int st)]) hx hb dX8_sum_28 hl rfl (by decide) (by decide) rfl (fun ls hl => ?_)
          refine lv_goto (tgt := 4) hx hb dX8_sum_31 (by decide) ?_
          refine lv_iload_n hx hb dX8_sum_4 rfl (lv_at hl 0 rfl) ?_
          refine lv_iconst (v := 4) hx hb dX8_sum_5 (by decide) ?_
          refine lv_icmp_ge (tgt := 34) hx hb dX8_sum_6 (by decide) (fun _ => ?_) (fun h9 => absurd h9 (by decide))
          refine lv_iload_n hx hb dX8_sum_34 rfl (lv_at hl 1 rfl) ?_
          have hP9 := hP.sub (ws' := [(sv, .inl (cI, 4, .inl zi))]) [0] rfl
          have hD9 := hD.sub (ws' := [(sv, .inl (cI, 4, .inl zi))]) [0] (by decide) rfl
          have hK9 := hK.sub (tys' := [(cI, .int)]) [0] rfl
          refine W.widen (k := 0) (n := 0) (Nat.le_of_ble_eq_true rfl) (Nat.le_of_ble_eq_true rfl) ?_
          exact W.iret (v := 0) hx hb hr (fun t ht hW => ⟨⟨0, (), rfl, rfl, po_mk ht hW hP9 hK9 hD9⟩, hS.F ht⟩) hS.2.2 dX8_sum_35
        refine lv_icmp_ne (tgt := 25) hx hb dX8_sum_16 (by decide) (fun hc_17 => ?_) (fun hc_17 => ?_)
        · refine lv_iconst (v := 0) hx hb dX8_sum_25 (by decide) ?_
          exact J_15 _ _ _ ⟨hP.sub (ws' := [(sv, .inl (cI, 4, .inl zi))]) [0] rfl, hD.sub (ws' := [(sv, .inl (cI, 4, .inl zi))]) [0] (by decide) rfl, hS, lv_sub hl [2, 3, 1, 0] rfl⟩
        · refine lv_aload_n hx hb dX8_sum_19 rfl (lv_at hl 2 rfl) ?_
          refine lv_iload_n hx hb dX8_sum_20 rfl (lv_at hl 0 rfl) ?_
          refine va_iald hx hb hK hP 0 0 rfl rfl (by unfold vp_in; decide) dX8_sum_21 ?_
          refine lv_topi (fun y_18 ey_18 => ?_)
          obtain rfl : y_18 = 0 := ey_18.trans (by rfl)
          refine lv_goto (tgt := 26) hx hb dX8_sum_22 (by decide) ?_
          exact J_15 _ _ _ ⟨hP.sub (ws' := [(sv, .inl (cI, 4, .inl zi))]) [0] rfl, hD.sub (ws' := [(sv, .inl (cI, 4, .inl zi))]) [0] (by decide) rfl, hS, lv_sub hl [2, 3, 1, 0] rfl⟩
      refine lv_icmp_ne (tgt := 25) hx hb dX8_sum_16 (by decide) (fun hc_19 => ?_) (fun hc_19 => ?_)
      · refine lv_iconst (v := 0) hx hb dX8_sum_25 (by decide) ?_
        exact J_11 _ _ _ ⟨hP.sub (ws' := [(sv, .inl (cI, 4, .inl zi))]) [0] rfl, hD.sub (ws' := [(sv, .inl (cI, 4, .inl zi))]) [0] (by decide) rfl, hS, lv_sub hl [2, 3, 1, 0] rfl⟩
      · refine lv_aload_n hx hb dX8_sum_19 rfl (lv_at hl 2 rfl) ?_
        refine lv_iload_n hx hb dX8_sum_20 rfl (lv_at hl 0 rfl) ?_
        refine va_iald hx hb hK hP 0 0 rfl rfl (by unfold vp_in; decide) dX8_sum_21 ?_
        refine lv_topi (fun y_20 ey_20 => ?_)
        obtain rfl : y_20 = 0 := ey_20.trans (by rfl)
        refine lv_goto (tgt := 26) hx hb dX8_sum_22 (by decide) ?_
        exact J_11 _ _ _ ⟨hP.sub (ws' := [(sv, .inl (cI, 4, .inl zi))]) [0] rfl, hD.sub (ws' := [(sv, .inl (cI, 4, .inl zi))]) [0] (by decide) rfl, hS, lv_sub hl [2, 3, 1, 0] rfl⟩
    refine lv_icmp_ne (tgt := 25) hx hb dX8_sum_16 (by decide) (fun hc_21 => ?_) (fun hc_21 => ?_)
    · refine lv_iconst (v := 0) hx hb dX8_sum_25 (by decide) ?_
      exact J_7 _ _ _ ⟨hP.sub (ws' := [(sv, .inl (cI, 4, .inl zi))]) [0] rfl, hD.sub (ws' := [(sv, .inl (cI, 4, .inl zi))]) [0] (by decide) rfl, hS, lv_sub hl [2, 3, 1, 0] rfl⟩
    · refine lv_aload_n hx hb dX8_sum_19 rfl (lv_at hl 2 rfl) ?_
      refine lv_iload_n hx hb dX8_sum_20 rfl (lv_at hl 0 rfl) ?_
      refine va_iald hx hb hK hP 0 0 rfl rfl (by unfold vp_in; decide) dX8_sum_21 ?_
      refine lv_topi (fun y_22 ey_22 => ?_)
      obtain rfl : y_22 = 0 := ey_22.trans (by rfl)
      refine lv_goto (tgt := 26) hx hb dX8_sum_22 (by decide) ?_
      exact J_7 _ _ _ ⟨hP.sub (ws' := [(sv, .inl (cI, 4, .inl zi))]) [0] rfl, hD.sub (ws' := [(sv, .inl (cI, 4, .inl zi))]) [0] (by decide) rfl, hS, lv_sub hl [2, 3, 1, 0] rfl⟩
  refine lv_icmp_ne (tgt := 25) hx hb dX8_sum_16 (by decide) (fun hc_23 => ?_) (fun hc_23 => ?_)
  · refine lv_iconst (v := 0) hx hb dX8_sum_25 (by decide) ?_
    exact J_3 _ _ _ ⟨hP.sub (ws' := [(sv, .inl (cI, 4, .inl zi))]) [0] rfl, hD.sub (ws' := [(sv, .inl (cI, 4, .inl zi))]) [0] (by decide) rfl, hS, lv_sub hl [2, 3, 1, 0] rfl⟩
  · refine lv_aload_n hx hb dX8_sum_19 rfl (lv_at hl 2 rfl) ?_
    refine lv_iload_n hx hb dX8_sum_20 rfl (lv_at hl 0 rfl) ?_
    refine va_iald hx hb hK hP 0 0 rfl rfl (by unfold vp_in; decide) dX8_sum_21 ?_
    refine lv_topi (fun y_24 ey_24 => ?_)
    obtain rfl : y_24 = 0 := ey_24.trans (by rfl)
    refine lv_goto (tgt := 26) hx hb dX8_sum_22 (by decide) ?_
    exact J_3 _ _ _ ⟨hP.sub (ws' := [(sv, .inl (cI, 4, .inl zi))]) [0] rfl, hD.sub (ws' := [(sv, .inl (cI, 4, .inl zi))]) [0] (by decide) rfl, hS, lv_sub hl [2, 3, 1, 0] rfl⟩

set_option maxHeartbeats 4000000 in
set_option maxRecDepth 100000 in
theorem c_X8_swingsNow (l : Launch) (dC : Nat → ClassId) (dI : Nat → Nat → Nat) (sv : Nat) (cI : ClassId) (par : Int32) (ho : Int32) (sz : Nat) (hh0 : 0 ≤ ho) (hh2 : ¬ ho < 0) : Met l yX8_swingsNow wsX8_swingsNow ({ frames := 3, cells := 0, slots := 0, locals := 70 }) (va_Pc [.ref sv, .int par, .int ho] (pr_ dC dI [(sv, .inl (cI, 4, .inl zi))] [(cI, .int)] sz)) (va_Qi (fun (r : Int32) (_ : Unit) => r = 0) (fun (_ : Unit) t => po_ dC dI [(sv, .inl (cI, 4, .inl zi))] [(cI, .int)] (va_A [(sv, .inl (cI, 4, .inl zi))] sz) t) (va_A [(sv, .inl (cI, 4, .inl zi))] sz)) 0 0 (va_A [(sv, .inl (cI, 4, .inl zi))] sz) := by
  refine Met.ofW (cc := cX8_swingsNow) (maxL := 5) (ret := (some .int)) (by decide) rfl ?_
  intro p e s m args below meth c s₁ B hml hv
  obtain ⟨rfl, hsz, hP, hK, hD0⟩ := hv
  have hx := B.exec
  have hb := B.bytes
  have hr := B.returns
  have hts := atoms_spec (ws := wsX8_swingsNow) B.pre
  have hown : s.vm.findClass RX8 = some m.cls := findClass_of_methodNamed B.named
  have hlocks := B.notSynchronized
  subst hsz
  have hD := hD0.self (sz := s.heap.size)
  generalize hAe : va_A [(sv, .inl (cI, 4, .inl zi))] s.heap.size = A at hD ⊢
  have hA : ∀ q : Nat, s.heap.size ≤ q → A q := fun q h => by rw [← hAe]; exact Or.inr h
  have hS : va_S A s.heap s.heap [] := va_S.rf
  have hP : va_P (dC, dI) vwCl [(sv, .inl (cI, 4, .inl zi))] s.heap := hP
  have hK : va_K (dC, dI) vwCl [(cI, .int)] s := hK
  have hl := lv_entry ([.ref sv, .int par, .int ho]) (n := 5) (Nat.le_of_ble_eq_true rfl)
  rw [lg_entry_eq]
  generalize (lg_sl ([.ref sv, .int par, .int ho]) ++ List.replicate (5 - (lg_sl ([.ref sv, .int par, .int ho])).length) Slot.unset).toArray = ls at hl ⊢
  have hl : lv_has ls 5 [(0, .ref sv), (1, .int par), (2, .int ho)] := hl
  refine lv_iconst (v := 0) hx hb dX8_swingsNow_0 (by decide) ?_
  refine lv_istore_n (lv' := [(3, .int 0), (0, .ref sv), (1, .int par), (2, .int ho)]) hx hb dX8_swingsNow_1 rfl hl (by decide) rfl (fun ls hl => ?_)
  refine lv_iconst (v := 0) hx hb dX8_swingsNow_2 (by decide) ?_
  refine lv_istore (lv' := [(4, .int 0), (3, .int 0), (0, .ref sv), (1, .int par), (2, .int ho)]) hx hb dX8_swingsNow_3 hl (by decide) rfl (fun ls hl => ?_)
  refine w_loop (pcH := 5) 16 (fun _ => 0) (fun _ => 0) (fun k H locs ls => va_P (dC, dI) vwCl [(sv, .inl (cI, 4, .inl zi))] H ∧ va_D A [(sv, .inl (cI, 4, .inl zi))] ∧ va_S A s.heap H locs ∧ lv_has ls 5 [(4, .int (nI k)), (0, .ref sv), (1, .int par), (2, .int ho), (3, .int 0)]) ?_ ?_ 0 (by decide) _ _ _ ⟨hP, hD, hS, lv_sub hl [0, 2, 3, 4, 1] rfl⟩
  · intro k_1 hk_1 IH_2 H locs ls ⟨hP, hD, hS, hl⟩
    refine lv_iload hx hb dX8_swingsNow_5 (lv_at hl 0 rfl) ?_
    refine lv_bipush (v := 16) hx hb dX8_swingsNow_7 (by decide) ?_
    refine lv_icmp_ge (tgt := 63) hx hb dX8_swingsNow_9 (by decide) (fun h9 => ((nI_ge (b := 16) hk_1 (by decide)) h9).elim) (fun _ => ?_)
    refine lv_iload_n hx hb dX8_swingsNow_12 rfl (lv_at hl 4 rfl) ?_
    refine lv_iload hx hb dX8_swingsNow_13 (lv_at hl 0 rfl) ?_
    refine lv_iload_n hx hb dX8_swingsNow_15 rfl (lv_at hl 2 rfl) ?_
    refine lv_ishr hx hb dX8_swingsNow_16 ?_
    refine lv_topi (fun y_3 ey_3 => ?_)
    refine lv_iconst (v := 1) hx hb dX8_swingsNow_17 (by decide) ?_
    refine lv_iand hx hb dX8_swingsNow_18 ?_
    refine lv_topi (fun y_4 ey_4 => ?_)
    refine w_join (pcJ := 54) (st := [.int 0]) (fun H locs ls => va_P (dC, dI) vwCl [(sv, .inl (cI, 4, .inl zi))] H ∧ va_D A [(sv, .inl (cI, 4, .inl zi))] ∧ va_S A s.heap H locs ∧ lv_has ls 5 [(0, .ref sv), (1, .int par), (2, .int ho), (3, .int 0), (4, .int (nI k_1))]) ?_ (fun J_5 => ?_)
    · intro H locs ls ⟨hP, hD, hS, hl⟩
      refine lv_iconst (v := 0) hx hb dX8_swingsNow_54 (by decide) ?_
      refine lv_iadd hx hb dX8_swingsNow_55 ?_
      refine lv_topi (fun y_6 ey_6 => ?_)
      obtain rfl : y_6 = 0 := ey_6.trans (by decide)
      refine lv_istore_n (lv' := [(3, .int 0), (0, .ref sv), (1, .int par), (2, .int ho), (4, .int (nI k_1))]) hx hb dX8_swingsNow_56 rfl hl (by decide) rfl (fun ls hl => ?_)
      refine lv_iinc (k := 4) (v := nI (k_1 + 1)) (lv' := [(4, .int (nI (k_1 + 1))), (3, .int 0), (0, .ref sv), (1, .int par), (2, .int ho)]) hx hb dX8_swingsNow_57 hl rfl (nI_succ1 _) (by decide) rfl (fun ls hl => ?_)
      refine lv_goto (tgt := 5) hx hb dX8_swingsNow_60 (by decide) ?_
      exact IH_2 _ _ _ ⟨hP.sub (ws' := [(sv, .inl (cI, 4, .inl zi))]) [0] rfl, hD.sub (ws' := [(sv, .inl (cI, 4, .inl zi))]) [0] (by decide) rfl, hS, lv_sub hl [0, 2, 3, 4, 1] rfl⟩
    refine lv_if_ne (tgt := 54) hx hb dX8_swingsNow_19 (by decide) (fun hc_7 => ?_) (fun hc_7 => ?_)
    · exact J_5 _ _ _ ⟨hP.sub (ws' := [(sv, .inl (cI, 4, .inl zi))]) [0] rfl, hD.sub (ws' := [(sv, .inl (cI, 4, .inl zi))]) [0] (by decide) rfl, hS, lv_sub hl [1, 2, 3, 4, 0] rfl⟩
    · refine lv_iconst (v := 2) hx hb dX8_swingsNow_22 (by decide) ?_
      refine lv_aload_n hx hb dX8_swingsNow_23 rfl (lv_at hl 1 rfl) ?_
      refine lv_iload hx hb dX8_swingsNow_24 (lv_at hl 0 rfl) ?_
      have hPc := hP.sub (ws' := [(sv, .inl (cI, 4, .inl zi))]) [0] rfl
      have hDc := hD.sub (ws' := [(sv, .inl (cI, 4, .inl zi))]) [0] (by decide) rfl
      have hKc := hK.sub (tys' := [(cI, .int)]) [0] rfl
      have hFc := va_free (wc := [(sv, .inl (cI, 4, .inl zi))]) hD hS hA [0] rfl
      refine va_calli (va_runS (As := [.ref sv, .int (nI k_1)]) (rest := [.int 2, .int 0]) ⟨hx, hb, hml, hown, hts⟩ (c_X8_sum l dC dI sv cI (nI k_1) _ ) (va_cwS 2 hts gX8_swingsNow_X8_sum rfl rfl rfl (by decide +kernel) ⟨Nat.le_of_ble_eq_true rfl, Nat.le_of_ble_eq_true rfl⟩) ⟨pr_blind, fun U hU hW => ⟨rfl, pr_mk hU hW hPc hKc hDc⟩⟩ rfl rfl hl.1 rfl (lv_room (Nat.le_of_ble_eq_true rfl)) dX8_swingsNow_26 ⟨Nat.le_of_ble_eq_true rfl, Nat.le_of_ble_eq_true rfl⟩) hS (fun q _ h => hFc q h) hFc (fun r_9 u_8 t H1 locs ht hvm hw hB hz1 hk1 hS => ?_)
      obtain ⟨hP1, hK1, hD1⟩ := hB
      rw [ht] at hP1
      obtain ⟨hP, hD⟩ := va_join (wr := []) (w1 := [(sv, .inl (cI, 4, .inl zi))]) hP hD [0] [] rfl rfl (by decide) (by decide) hk1 hFc hP1 hD1
      generalize H1 = H at hP hS ⊢
      have hP : va_P (dC, dI) vwCl [(sv, .inl (cI, 4, .inl zi))] H := hP
      have hD : va_D A [(sv, .inl (cI, 4, .inl zi))] := hD
      refine W.widen (k := 0) (n := 0) (Nat.le_refl _) (Nat.le_refl _) ?_
      have hw : r_9 = 0 := hw
      subst hw
      refine lv_imul hx hb dX8_swingsNow_29 ?_
      refine lv_topi (fun y_10 ey_10 => ?_)
      obtain rfl : y_10 = 0 := ey_10.trans (by decide)
      refine lv_iload_n hx hb dX8_swingsNow_30 rfl (lv_at hl 3 rfl) ?_
      refine lv_icmp_gt (tgt := 54) hx hb dX8_swingsNow_31 (by decide) (fun h9 => (hh2 h9).elim) (fun _ => ?_)
      refine lv_iconst (v := 2) hx hb dX8_swingsNow_34 (by decide) ?_
      refine lv_aload_n hx hb dX8_swingsNow_35 rfl (lv_at hl 1 rfl) ?_
      refine lv_iload hx hb dX8_swingsNow_36 (lv_at hl 0 rfl) ?_
      refine lv_iconst (v := 1) hx hb dX8_swingsNow_38 (by decide) ?_
      refine lv_iload_n hx hb dX8_swingsNow_39 rfl (lv_at hl 2 rfl) ?_
      refine lv_ishl hx hb dX8_swingsNow_40 ?_
      refine lv_topi (fun y_11 ey_11 => ?_)
      refine lv_ior hx hb dX8_swingsNow_41 ?_
      refine lv_topi (fun y_12 ey_12 => ?_)
      have hPc := hP.sub (ws' := [(sv, .inl (cI, 4, .inl zi))]) [0] rfl
      have hDc := hD.sub (ws' := [(sv, .inl (cI, 4, .inl zi))]) [0] (by decide) rfl
      have hKc := hK.sub (tys' := [(cI, .int)]) [0] rfl
      have hFc := va_free (wc := [(sv, .inl (cI, 4, .inl zi))]) hD hS hA [0] rfl
      refine va_calli (va_runS (As := [.ref sv, .int y_12]) (rest := [.int 2, .int 0]) ⟨hx, hb, hml, hown, hts⟩ (c_X8_sum l dC dI sv cI y_12 _ ) (va_cwS 2 hts gX8_swingsNow_X8_sum rfl rfl rfl (by decide +kernel) ⟨Nat.le_of_ble_eq_true rfl, Nat.le_of_ble_eq_true rfl⟩) ⟨pr_blind, fun U hU hW => ⟨rfl, pr_mk hU hW hPc hKc hDc⟩⟩ rfl rfl hl.1 rfl (lv_room (Nat.le_of_ble_eq_true rfl)) dX8_swingsNow_42 ⟨Nat.le_of_ble_eq_true rfl, Nat.le_of_ble_eq_true rfl⟩) hS (fun q _ h => hFc q h) hFc (fun r_14 u_13 t H1 locs ht hvm hw hB hz1 hk1 hS => ?_)
      obtain ⟨hP1, hK1, hD1⟩ := hB
      rw [ht] at hP1
      obtain ⟨hP, hD⟩ := va_join (wr := []) (w1 := [(sv, .inl (cI, 4, .inl zi))]) hP hD [0] [] rfl rfl (by decide) (by decide) hk1 hFc hP1 hD1
      generalize H1 = H at hP hS ⊢
      have hP : va_P (dC, dI) vwCl [(sv, .inl (cI, 4, .inl zi))] H := hP
      have hD : va_D A [(sv, .inl (cI, 4, .inl zi))] := hD
      refine W.widen (k := 0) (n := 0) (Nat.le_refl _) (Nat.le_refl _) ?_
      have hw : r_14 = 0 := hw
      subst hw
      refine lv_imul hx hb dX8_swingsNow_45 ?_
      refine lv_topi (fun y_15 ey_15 => ?_)
      obtain rfl : y_15 = 0 := ey_15.trans (by decide)
      refine lv_iload_n hx hb dX8_swingsNow_46 rfl (lv_at hl 3 rfl) ?_
      refine lv_icmp_le (tgt := 54) hx hb dX8_swingsNow_47 (by decide) (fun _ => ?_) (fun h9 => (h9 hh0).elim)
      exact J_5 _ _ _ ⟨hP.sub (ws' := [(sv, .inl (cI, 4, .inl zi))]) [0] rfl, hD.sub (ws' := [(sv, .inl (cI, 4, .inl zi))]) [0] (by decide) rfl, hS, lv_sub hl [1, 2, 3, 4, 0] rfl⟩
  · intro H locs ls ⟨hP, hD, hS, hl⟩
    have hl : lv_has ls 5 [(4, .int 16), (0, .ref sv), (1, .int par), (2, .int ho), (3, .int 0)] := hl
    refine lv_iload hx hb dX8_swingsNow_5 (lv_at hl 0 rfl) ?_
    refine lv_bipush (v := 16) hx hb dX8_swingsNow_7 (by decide) ?_
    refine lv_icmp_ge (tgt := 63) hx hb dX8_swingsNow_9 (by decide) (fun _ => ?_) (fun h9 => absurd h9 (by decide))
    refine lv_iload_n hx hb dX8_swingsNow_63 rfl (lv_at hl 4 rfl) ?_
    have hP9 := hP.sub (ws' := [(sv, .inl (cI, 4, .inl zi))]) [0] rfl
    have hD9 := hD.sub (ws' := [(sv, .inl (cI, 4, .inl zi))]) [0] (by decide) rfl
    have hK9 := hK.sub (tys' := [(cI, .int)]) [0] rfl
    refine W.widen (k := 0) (n := 0) (Nat.le_of_ble_eq_true rfl) (Nat.le_of_ble_eq_true rfl) ?_
    exact W.iret (v := 0) hx hb hr (fun t ht hW => ⟨⟨0, (), rfl, rfl, po_mk ht hW hP9 hK9 hD9⟩, hS.F ht⟩) hS.2.2 dX8_swingsNow_64

set_option maxHeartbeats 4000000 in
set_option maxRecDepth 100000 in
theorem c_X8_coalitionNow (l : Launch) (dC : Nat → ClassId) (dI : Nat → Nat → Nat) (sv : Nat) (cI : ClassId) (ho : Int32) (sz : Nat) (hh2 : ¬ ho < 0) : Met l yX8_coalitionNow wsX8_coalitionNow ({ frames := 3, cells := 0, slots := 0, locals := 70 }) (va_Pc [.ref sv, .int ho] (pr_ dC dI [(sv, .inl (cI, 4, .inl zi))] [(cI, .int)] sz)) (va_Qi (fun (r : Int32) (_ : Unit) => r = 0) (fun (_ : Unit) t => po_ dC dI [(sv, .inl (cI, 4, .inl zi))] [(cI, .int)] (va_A [(sv, .inl (cI, 4, .inl zi))] sz) t) (va_A [(sv, .inl (cI, 4, .inl zi))] sz)) 0 0 (va_A [(sv, .inl (cI, 4, .inl zi))] sz) := by
  refine Met.ofW (cc := cX8_coalitionNow) (maxL := 7) (ret := (some .int)) (by decide) rfl ?_
  intro p e s m args below meth c s₁ B hml hv
  obtain ⟨rfl, hsz, hP, hK, hD0⟩ := hv
  have hx := B.exec
  have hb := B.bytes
  have hr := B.returns
  have hts := atoms_spec (ws := wsX8_coalitionNow) B.pre
  have hown : s.vm.findClass RX8 = some m.cls := findClass_of_methodNamed B.named
  have hlocks := B.notSynchronized
  subst hsz
  have hD := hD0.self (sz := s.heap.size)
  generalize hAe : va_A [(sv, .inl (cI, 4, .inl zi))] s.heap.size = A at hD ⊢
  have hA : ∀ q : Nat, s.heap.size ≤ q → A q := fun q h => by rw [← hAe]; exact Or.inr h
  have hS : va_S A s.heap s.heap [] := va_S.rf
  have hP : va_P (dC, dI) vwCl [(sv, .inl (cI, 4, .inl zi))] s.heap := hP
  have hK : va_K (dC, dI) vwCl [(cI, .int)] s := hK
  have hl := lv_entry ([.ref sv, .int ho]) (n := 7) (Nat.le_of_ble_eq_true rfl)
  rw [lg_entry_eq]
  generalize (lg_sl ([.ref sv, .int ho]) ++ List.replicate (7 - (lg_sl ([.ref sv, .int ho])).length) Slot.unset).toArray = ls at hl ⊢
  have hl : lv_has ls 7 [(0, .ref sv), (1, .int ho)] := hl
  refine lv_iconst (v := 0) hx hb dX8_coalitionNow_0 (by decide) ?_
  refine lv_istore_n (lv' := [(2, .int 0), (0, .ref sv), (1, .int ho)]) hx hb dX8_coalitionNow_1 rfl hl (by decide) rfl (fun ls hl => ?_)
  refine lv_iconst (v := 0) hx hb dX8_coalitionNow_2 (by decide) ?_
  refine lv_istore_n (lv' := [(3, .int 0), (2, .int 0), (0, .ref sv), (1, .int ho)]) hx hb dX8_coalitionNow_3 rfl hl (by decide) rfl (fun ls hl => ?_)
  refine lv_iconst (v := 1) hx hb dX8_coalitionNow_4 (by decide) ?_
  refine lv_istore (lv' := [(4, .int 1), (3, .int 0), (2, .int 0), (0, .ref sv), (1, .int ho)]) hx hb dX8_coalitionNow_5 hl (by decide) rfl (fun ls hl => ?_)
  refine w_loop (pcH := 7) 16 (fun _ => 0) (fun _ => 0) (fun k H locs ls => va_P (dC, dI) vwCl [(sv, .inl (cI, 4, .inl zi))] H ∧ va_D A [(sv, .inl (cI, 4, .inl zi))] ∧ va_S A s.heap H locs ∧ lv_has ls 7 [(4, .int (nI k)), (0, .ref sv), (1, .int ho), (2, .int 0), (3, .int 0)]) ?_ ?_ 1 (by decide) _ _ _ ⟨hP, hD, hS, lv_sub hl [0, 3, 4, 2, 1] rfl⟩
  · intro k_1 hk_1 IH_2 H locs ls ⟨hP, hD, hS, hl⟩
    refine lv_iload hx hb dX8_coalitionNow_7 (lv_at hl 0 rfl) ?_
    refine lv_bipush (v := 16) hx hb dX8_coalitionNow_9 (by decide) ?_
    refine lv_icmp_ge (tgt := 99) hx hb dX8_coalitionNow_11 (by decide) (fun h9 => ((nI_ge (b := 16) hk_1 (by decide)) h9).elim) (fun _ => ?_)
    refine lv_iconst (v := 2) hx hb dX8_coalitionNow_14 (by decide) ?_
    refine lv_aload_n hx hb dX8_coalitionNow_15 rfl (lv_at hl 1 rfl) ?_
    refine lv_iload hx hb dX8_coalitionNow_16 (lv_at hl 0 rfl) ?_
    have hPc := hP.sub (ws' := [(sv, .inl (cI, 4, .inl zi))]) [0] rfl
    have hDc := hD.sub (ws' := [(sv, .inl (cI, 4, .inl zi))]) [0] (by decide) rfl
    have hKc := hK.sub (tys' := [(cI, .int)]) [0] rfl
    have hFc := va_free (wc := [(sv, .inl (cI, 4, .inl zi))]) hD hS hA [0] rfl
    refine va_calli (va_runS (As := [.ref sv, .int (nI k_1)]) (rest := [.int 2]) ⟨hx, hb, hml, hown, hts⟩ (c_X8_sum l dC dI sv cI (nI k_1) _ ) (va_cwS 2 hts gX8_coalitionNow_X8_sum rfl rfl rfl (by decide +kernel) ⟨Nat.le_of_ble_eq_true rfl, Nat.le_of_ble_eq_true rfl⟩) ⟨pr_blind, fun U hU hW => ⟨rfl, pr_mk hU hW hPc hKc hDc⟩⟩ rfl rfl hl.1 rfl (lv_room (Nat.le_of_ble_eq_true rfl)) dX8_coalitionNow_18 ⟨Nat.le_of_ble_eq_true rfl, Nat.le_of_ble_eq_true rfl⟩) hS (fun q _ h => hFc q h) hFc (fun r_4 u_3 t H1 locs ht hvm hw hB hz1 hk1 hS => ?_)
    obtain ⟨hP1, hK1, hD1⟩ := hB
    rw [ht] at hP1
    obtain ⟨hP, hD⟩ := va_join (wr := []) (w1 := [(sv, .inl (cI, 4, .inl zi))]) hP hD [0] [] rfl rfl (by decide) (by decide) hk1 hFc hP1 hD1
    generalize H1 = H at hP hS ⊢
    have hP : va_P (dC, dI) vwCl [(sv, .inl (cI, 4, .inl zi))] H := hP
    have hD : va_D A [(sv, .inl (cI, 4, .inl zi))] := hD
    refine W.widen (k := 0) (n := 0) (Nat.le_refl _) (Nat.le_refl _) ?_
    have hw : r_4 = 0 := hw
    subst hw
    refine lv_imul hx hb dX8_coalitionNow_21 ?_
    refine lv_topi (fun y_5 ey_5 => ?_)
    obtain rfl : y_5 = 0 := ey_5.trans (by decide)
    refine lv_iload_n hx hb dX8_coalitionNow_22 rfl (lv_at hl 2 rfl) ?_
    refine lv_icmp_gt (tgt := 29) hx hb dX8_coalitionNow_23 (by decide) (fun h9 => (hh2 h9).elim) (fun _ => ?_)
    refine lv_goto (tgt := 93) hx hb dX8_coalitionNow_26 (by decide) ?_
    refine lv_iinc (k := 0) (v := nI (k_1 + 1)) (lv' := [(4, .int (nI (k_1 + 1))), (0, .ref sv), (1, .int ho), (2, .int 0), (3, .int 0)]) hx hb dX8_coalitionNow_93 hl rfl (nI_succ1 _) (by decide) rfl (fun ls hl => ?_)
    refine lv_goto (tgt := 7) hx hb dX8_coalitionNow_96 (by decide) ?_
    exact IH_2 _ _ _ ⟨hP.sub (ws' := [(sv, .inl (cI, 4, .inl zi))]) [0] rfl, hD.sub (ws' := [(sv, .inl (cI, 4, .inl zi))]) [0] (by decide) rfl, hS, lv_sub hl [0, 1, 2, 3, 4] rfl⟩
  · intro H locs ls ⟨hP, hD, hS, hl⟩
    have hl : lv_has ls 7 [(4, .int 16), (0, .ref sv), (1, .int ho), (2, .int 0), (3, .int 0)] := hl
    refine lv_iload hx hb dX8_coalitionNow_7 (lv_at hl 0 rfl) ?_
    refine lv_bipush (v := 16) hx hb dX8_coalitionNow_9 (by decide) ?_
    refine lv_icmp_ge (tgt := 99) hx hb dX8_coalitionNow_11 (by decide) (fun _ => ?_) (fun h9 => absurd h9 (by decide))
    refine lv_iload_n hx hb dX8_coalitionNow_99 rfl (lv_at hl 3 rfl) ?_
    have hP9 := hP.sub (ws' := [(sv, .inl (cI, 4, .inl zi))]) [0] rfl
    have hD9 := hD.sub (ws' := [(sv, .inl (cI, 4, .inl zi))]) [0] (by decide) rfl
    have hK9 := hK.sub (tys' := [(cI, .int)]) [0] rfl
    refine W.widen (k := 0) (n := 0) (Nat.le_of_ble_eq_true rfl) (Nat.le_of_ble_eq_true rfl) ?_
    exact W.iret (v := 0) hx hb hr (fun t ht hW => ⟨⟨0, (), rfl, rfl, po_mk ht hW hP9 hK9 hD9⟩, hS.F ht⟩) hS.2.2 dX8_coalitionNow_100

set_option maxHeartbeats 4000000 in
set_option maxRecDepth 100000 in
theorem c_X8_standing (l : Launch) (dC : Nat → ClassId) (dI : Nat → Nat → Nat) (mm : Nat) (pl : Nat) (ig : Nat) (sl : Nat) (kl : Nat) (dz : Nat) (sz : Nat)  : Met l yX8_standing wsX8_standing ({ frames := 3, cells := 0, slots := 0, locals := 80 }) (va_Pc [.ref mm] (fun U => pr_ dC dI [(mm, .inr (10, [.int 0, .ref pl, .ref ig, .ref sl, .ref kl, .int 0, .int 0, .int 0])), (pl, .inr (1, [.int 0, .ref dz, .int 0]))] [] sz U ∧ mo_  U)) (va_Qi (fun (r : Int32) (_ : Unit) => r = 0) (fun (_ : Unit) t => po_ dC dI [(mm, .inr (10, [.int 0, .ref pl, .ref ig, .ref sl, .ref kl, .int 0, .int 0, .int 0])), (pl, .inr (1, [.int 0, .ref dz, .int 0]))] [] (va_A [(mm, .inr (10, [.int 0, .ref pl, .ref ig, .ref sl, .ref kl, .int 0, .int 0, .int 0])), (pl, .inr (1, [.int 0, .ref dz, .int 0]))] sz) t) (va_A [(mm, .inr (10, [.int 0, .ref pl, .ref ig, .ref sl, .ref kl, .int 0, .int 0, .int 0])), (pl, .inr (1, [.int 0, .ref dz, .int 0]))] sz)) 0 0 (va_A [(mm, .inr (10, [.int 0, .ref pl, .ref ig, .ref sl, .ref kl, .int 0, .int 0, .int 0])), (pl, .inr (1, [.int 0, .ref dz, .int 0]))] sz) := by
  refine Met.ofW (cc := cX8_standing) (maxL := 3) (ret := (some .int)) (by decide) rfl ?_
  intro p e s m args below meth c s₁ B hml hv
  obtain ⟨rfl, ⟨hsz, hP, hK, hD0⟩, hXs⟩ := hv
  have hx := B.exec
  have hb := B.bytes
  have hr := B.returns
  have hts := atoms_spec (ws := wsX8_standing) B.pre
  have hown : s.vm.findClass RX8 = some m.cls := findClass_of_methodNamed B.named
  have hlocks := B.notSynchronized
  subst hsz
  have hD := hD0.self (sz := s.heap.size)
  generalize hAe : va_A [(mm, .inr (10, [.int 0, .ref pl, .ref ig, .ref sl, .ref kl, .int 0, .int 0, .int 0])), (pl, .inr (1, [.int 0, .ref dz, .int 0]))] s.heap.size = A at hD ⊢
  have hA : ∀ q : Nat, s.heap.size ≤ q → A q := fun q h => by rw [← hAe]; exact Or.inr h
  have hS : va_S A s.heap s.heap [] := va_S.rf
  have hP : va_P (dC, dI) vwCl [(mm, .inr (10, [.int 0, .ref pl, .ref ig, .ref sl, .ref kl, .int 0, .int 0, .int 0])), (pl, .inr (1, [.int 0, .ref dz, .int 0]))] s.heap := hP
  have hK : va_K (dC, dI) vwCl [] s := hK
  have hl := lv_entry ([.ref mm]) (n := 3) (Nat.le_of_ble_eq_true rfl)
  rw [lg_entry_eq]
  generalize (lg_sl ([.ref mm]) ++ List.replicate (3 - (lg_sl ([.ref mm])).length) Slot.unset).toArray = ls at hl ⊢
  have hl : lv_has ls 3 [(0, .ref mm)] := hl
  refine lv_iconst (v := 0) hx hb dX8_standing_0 (by decide) ?_
  refine lv_istore_n (lv' := [(1, .int 0), (0, .ref mm)]) hx hb dX8_standing_1 rfl hl (by decide) rfl (fun ls hl => ?_)
  refine lv_iconst (v := 0) hx hb dX8_standing_2 (by decide) ?_
  refine lv_istore_n (lv' := [(2, .int 0), (1, .int 0), (0, .ref mm)]) hx hb dX8_standing_3 rfl hl (by decide) rfl (fun ls hl => ?_)
  refine lv_iload_n hx hb dX8_standing_4 rfl (lv_at hl 0 rfl) ?_
  refine lv_aload_n hx hb dX8_standing_5 rfl (lv_at hl 2 rfl) ?_
  have hinX8 : ∀ w ∈ u_ws RX8 TX8 8, w ∈ wsX8_standing := by decide +kernel
  refine va_get (D := (dC, dI)) (ci := 10) (v := .ref pl) (C := RX8) (T := TX8) (N := 8) hx hb hts hinX8 hown hK hP 0 rfl rfl 1 (by decide) (hts (.fieldLink RX8 10 "BallotLoomModel" "partyOf" "Ljava/util/List;") (by decide +kernel)) (fun _ h9 => h9) rfl dX8_standing_6 ?_
  have hPc := hP.sub (ws' := [(pl, .inr (1, [.int 0, .ref dz, .int 0]))]) [1] rfl
  have hDc := hD.sub (ws' := [(pl, .inr (1, [.int 0, .ref dz, .int 0]))]) [1] (by decide) rfl
  have hKc := hK.sub (tys' := []) [] rfl
  have hFc := va_free (wc := [(pl, .inr (1, [.int 0, .ref dz, .int 0]))]) hD hS hA [1] rfl
  refine va_callFi (va_runF (hK.1 1 _ rfl).2 (As := []) (rest := [.int 0]) ⟨hx, hb, hml, hown, hts⟩ (c_Jx4a65c_size_8abf5 l dC dI pl (0 : Int32) dz (0 : Int32) _ ) (va_cwF 0 hts gX8_standing_Jx4a65c_size_8abf5_f30Jx4a65c rfl rfl rfl (mo_of hXs) (by decide +kernel) ⟨Nat.le_of_ble_eq_true rfl, Nat.le_of_ble_eq_true rfl⟩) ⟨pr_blind, va_recv hKc hPc (ci := 1) (q0 := 0) rfl rfl, fun U hU hW => ⟨rfl, pr_mk hU hW hPc hKc hDc⟩⟩ rfl rfl hl.1 rfl (lv_room (Nat.le_of_ble_eq_true rfl)) dX8_standing_9 ⟨Nat.le_of_ble_eq_true rfl, Nat.le_of_ble_eq_true rfl⟩) hS (fun q _ h => hFc q h) hFc (fun r_2 u_1 t H1 locs ht hvm hw hB hz1 hk1 hS => ?_)
  obtain ⟨hP1, hK1, hD1⟩ := hB
  rw [ht] at hP1
  obtain ⟨hP, hD⟩ := va_join (wr := [(mm, .inr (10, [.int 0, .ref pl, .ref ig, .ref sl, .ref kl, .int 0, .int 0, .int 0]))]) (w1 := [(pl, .inr (1, [.int 0, .ref dz, .int 0]))]) hP hD [1] [0] rfl rfl (by decide) (by decide) hk1 hFc hP1 hD1
  generalize H1 = H at hP hS ⊢
  have hP : va_P (dC, dI) vwCl [(mm, .inr (10, [.int 0, .ref pl, .ref ig, .ref sl, .ref kl, .int 0, .int 0, .int 0])), (pl, .inr (1, [.int 0, .ref dz, .int 0]))] H := hP
  have hD : va_D A [(mm, .inr (10, [.int 0, .ref pl, .ref ig, .ref sl, .ref kl, .int 0, .int 0, .int 0])), (pl, .inr (1, [.int 0, .ref dz, .int 0]))] := hD
  refine W.widen (k := 0) (n := 0) (Nat.le_refl _) (Nat.le_refl _) ?_
  have hw : r_2 = 0 := hw
  subst hw
  refine lv_icmp_ge (tgt := 40) hx hb dX8_standing_14 (by decide) (fun _ => ?_) (fun h9 => absurd h9 (by decide))
  refine lv_iload_n hx hb dX8_standing_40 rfl (lv_at hl 1 rfl) ?_
  have hP9 := hP.sub (ws' := [(mm, .inr (10, [.int 0, .ref pl, .ref ig, .ref sl, .ref kl, .int 0, .int 0, .int 0])), (pl, .inr (1, [.int 0, .ref dz, .int 0]))]) [0, 1] rfl
  have hD9 := hD.sub (ws' := [(mm, .inr (10, [.int 0, .ref pl, .ref ig, .ref sl, .ref kl, .int 0, .int 0, .int 0])), (pl, .inr (1, [.int 0, .ref dz, .int 0]))]) [0, 1] (by decide) rfl
  have hK9 := hK.sub (tys' := []) [] rfl
  refine W.widen (k := 0) (n := 0) (Nat.le_of_ble_eq_true rfl) (Nat.le_of_ble_eq_true rfl) ?_
  exact W.iret (v := 0) hx hb hr (fun t ht hW => ⟨⟨0, (), rfl, rfl, po_mk ht hW hP9 hK9 hD9⟩, hS.F ht⟩) hS.2.2 dX8_standing_41

set_option maxHeartbeats 4000000 in
set_option maxRecDepth 100000 in
theorem c_X8_manyNow (l : Launch) (dC : Nat → ClassId) (dI : Nat → Nat → Nat) (mm : Nat) (pl : Nat) (ig : Nat) (sl : Nat) (kl : Nat) (dz : Nat) (wh : Int32) (sz : Nat) (hwh : vp_in wh 10) : Met l yX8_manyNow wsX8_manyNow ({ frames := 4, cells := 1, slots := 10, locals := 110 }) (va_Pc [.ref mm, .int wh] (fun U => pr_ dC dI [(mm, .inr (10, [.int 0, .ref pl, .ref ig, .ref sl, .ref kl, .int 0, .int 0, .int 0])), (pl, .inr (1, [.int 0, .ref dz, .int 0])), (sl, .inr (1, [.int 0, .ref dz, .int 0])), (kl, .inr (1, [.int 0, .ref dz, .int 0]))] [] sz U ∧ mo_  U)) (va_Qi (fun (r : Int32) (_ : Unit) => r = 0) (fun (_ : Unit) t => po_ dC dI [(mm, .inr (10, [.int 0, .ref pl, .ref ig, .ref sl, .ref kl, .int 0, .int 0, .int 0])), (pl, .inr (1, [.int 0, .ref dz, .int 0])), (sl, .inr (1, [.int 0, .ref dz, .int 0])), (kl, .inr (1, [.int 0, .ref dz, .int 0]))] [] (va_A [(mm, .inr (10, [.int 0, .ref pl, .ref ig, .ref sl, .ref kl, .int 0, .int 0, .int 0])), (pl, .inr (1, [.int 0, .ref dz, .int 0])), (sl, .inr (1, [.int 0, .ref dz, .int 0])), (kl, .inr (1, [.int 0, .ref dz, .int 0]))] sz) t) (va_A [(mm, .inr (10, [.int 0, .ref pl, .ref ig, .ref sl, .ref kl, .int 0, .int 0, .int 0])), (pl, .inr (1, [.int 0, .ref dz, .int 0])), (sl, .inr (1, [.int 0, .ref dz, .int 0])), (kl, .inr (1, [.int 0, .ref dz, .int 0]))] sz)) 1 10 (va_A [(mm, .inr (10, [.int 0, .ref pl, .ref ig, .ref sl, .ref kl, .int 0, .int 0, .int 0])), (pl, .inr (1, [.int 0, .ref dz, .int 0])), (sl, .inr (1, [.int 0, .ref dz, .int 0])), (kl, .inr (1, [.int 0, .ref dz, .int 0]))] sz) := by
  refine Met.ofW (cc := cX8_manyNow) (maxL := 7) (ret := (some .int)) (by decide) rfl ?_
  intro p e s m args below meth c s₁ B hml hv
  obtain ⟨rfl, ⟨hsz, hP, hK, hD0⟩, hXs⟩ := hv
  have hx := B.exec
  have hb := B.bytes
  have hr := B.returns
  have hts := atoms_spec (ws := wsX8_manyNow) B.pre
  have hown : s.vm.findClass RX8 = some m.cls := findClass_of_methodNamed B.named
  have hlocks := B.notSynchronized
  subst hsz
  have hD := hD0.self (sz := s.heap.size)
  generalize hAe : va_A [(mm, .inr (10, [.int 0, .ref pl, .ref ig, .ref sl, .ref kl, .int 0, .int 0, .int 0])), (pl, .inr (1, [.int 0, .ref dz, .int 0])), (sl, .inr (1, [.int 0, .ref dz, .int 0])), (kl, .inr (1, [.int 0, .ref dz, .int 0]))] s.heap.size = A at hD ⊢
  have hA : ∀ q : Nat, s.heap.size ≤ q → A q := fun q h => by rw [← hAe]; exact Or.inr h
  have hS : va_S A s.heap s.heap [] := va_S.rf
  have hP : va_P (dC, dI) vwCl [(mm, .inr (10, [.int 0, .ref pl, .ref ig, .ref sl, .ref kl, .int 0, .int 0, .int 0])), (pl, .inr (1, [.int 0, .ref dz, .int 0])), (sl, .inr (1, [.int 0, .ref dz, .int 0])), (kl, .inr (1, [.int 0, .ref dz, .int 0]))] s.heap := hP
  have hK : va_K (dC, dI) vwCl [] s := hK
  have hl := lv_entry ([.ref mm, .int wh]) (n := 7) (Nat.le_of_ble_eq_true rfl)
  rw [lg_entry_eq]
  generalize (lg_sl ([.ref mm, .int wh]) ++ List.replicate (7 - (lg_sl ([.ref mm, .int wh])).length) Slot.unset).toArray = ls at hl ⊢
  have hl : lv_has ls 7 [(0, .ref mm), (1, .int wh)] := hl
  refine lv_iconst (v := 0) hx hb dX8_manyNow_0 (by decide) ?_
  refine lv_istore_n (lv' := [(2, .int 0), (0, .ref mm), (1, .int wh)]) hx hb dX8_manyNow_1 rfl hl (by decide) rfl (fun ls hl => ?_)
  refine lv_iconst (v := 0) hx hb dX8_manyNow_2 (by decide) ?_
  refine lv_istore_n (lv' := [(3, .int 0), (2, .int 0), (0, .ref mm), (1, .int wh)]) hx hb dX8_manyNow_3 rfl hl (by decide) rfl (fun ls hl => ?_)
  refine lv_iconst (v := 0) hx hb dX8_manyNow_4 (by decide) ?_
  refine lv_istore (lv' := [(4, .int 0), (3, .int 0), (2, .int 0), (0, .ref mm), (1, .int wh)]) hx hb dX8_manyNow_5 hl (by decide) rfl (fun ls hl => ?_)
  refine lv_iconst (v := 0) hx hb dX8_manyNow_7 (by decide) ?_
  refine lv_istore (lv' := [(5, .int 0), (4, .int 0), (3, .int 0), (2, .int 0), (0, .ref mm), (1, .int wh)]) hx hb dX8_manyNow_8 hl (by decide) rfl (fun ls hl => ?_)
  refine lv_iload hx hb dX8_manyNow_10 (lv_at hl 0 rfl) ?_
  refine lv_aload_n hx hb dX8_manyNow_12 rfl (lv_at hl 4 rfl) ?_
  have hinX8 : ∀ w ∈ u_ws RX8 TX8 8, w ∈ wsX8_manyNow := by decide +kernel
  refine va_get (D := (dC, dI)) (ci := 10) (v := .ref kl) (C := RX8) (T := TX8) (N := 8) hx hb hts hinX8 hown hK hP 0 rfl rfl 4 (by decide) (hts (.fieldLink RX8 23 "BallotLoomModel" "stacks" "Ljava/util/List;") (by decide +kernel)) (fun _ h9 => h9) rfl dX8_manyNow_13 ?_
  have hPc := hP.sub (ws' := [(kl, .inr (1, [.int 0, .ref dz, .int 0]))]) [3] rfl
  have hDc := hD.sub (ws' := [(kl, .inr (1, [.int 0, .ref dz, .int 0]))]) [3] (by decide) rfl
  have hKc := hK.sub (tys' := []) [] rfl
  have hFc := va_free (wc := [(kl, .inr (1, [.int 0, .ref dz, .int 0]))]) hD hS hA [3] rfl
  refine va_callFi (va_runF (hK.1 1 _ rfl).2 (As := []) (rest := [.int 0]) ⟨hx, hb, hml, hown, hts⟩ (c_Jx4a65c_size_8abf5 l dC dI kl (0 : Int32) dz (0 : Int32) _ ) (va_cwF 0 hts gX8_manyNow_Jx4a65c_size_8abf5_f30Jx4a65c rfl rfl rfl (mo_of hXs) (by decide +kernel) ⟨Nat.le_of_ble_eq_true rfl, Nat.le_of_ble_eq_true rfl⟩) ⟨pr_blind, va_recv hKc hPc (ci := 1) (q0 := 0) rfl rfl, fun U hU hW => ⟨rfl, pr_mk hU hW hPc hKc hDc⟩⟩ rfl rfl hl.1 rfl (lv_room (Nat.le_of_ble_eq_true rfl)) dX8_manyNow_16 ⟨Nat.le_of_ble_eq_true rfl, Nat.le_of_ble_eq_true rfl⟩) hS (fun q _ h => hFc q h) hFc (fun r_2 u_1 t H1 locs ht hvm hw hB hz1 hk1 hS => ?_)
  obtain ⟨hP1, hK1, hD1⟩ := hB
  rw [ht] at hP1
  obtain ⟨hP, hD⟩ := va_join (wr := [(mm, .inr (10, [.int 0, .ref pl, .ref ig, .ref sl, .ref kl, .int 0, .int 0, .int 0])), (pl, .inr (1, [.int 0, .ref dz, .int 0])), (sl, .inr (1, [.int 0, .ref dz, .int 0]))]) (w1 := [(kl, .inr (1, [.int 0, .ref dz, .int 0]))]) hP hD [3] [0, 1, 2] rfl rfl (by decide) (by decide) hk1 hFc hP1 hD1
  generalize H1 = H at hP hS ⊢
  have hP : va_P (dC, dI) vwCl [(mm, .inr (10, [.int 0, .ref pl, .ref ig, .ref sl, .ref kl, .int 0, .int 0, .int 0])), (pl, .inr (1, [.int 0, .ref dz, .int 0])), (sl, .inr (1, [.int 0, .ref dz, .int 0])), (kl, .inr (1, [.int 0, .ref dz, .int 0]))] H := hP
  have hD : va_D A [(mm, .inr (10, [.int 0, .ref pl, .ref ig, .ref sl, .ref kl, .int 0, .int 0, .int 0])), (pl, .inr (1, [.int 0, .ref dz, .int 0])), (sl, .inr (1, [.int 0, .ref dz, .int 0])), (kl, .inr (1, [.int 0, .ref dz, .int 0]))] := hD
  refine W.widen (k := 0) (n := 0) (Nat.le_refl _) (Nat.le_refl _) ?_
  have hw : r_2 = 0 := hw
  subst hw
  refine lv_icmp_ge (tgt := 94) hx hb dX8_manyNow_21 (by decide) (fun _ => ?_) (fun h9 => absurd h9 (by decide))
  refine lv_bipush (v := 10) hx hb dX8_manyNow_94 (by decide) ?_
  refine va_newa (atype := .int) (ty := .int) (N' := 10) (a0 := (10, .inl zi)) hx hb (hts (.arrayClass (newarray.typeOf .int)) (by decide +kernel)) rfl hK hP hD hS hA (fun _ => rfl) (by decide) (by decide) (by decide) (Nat.le_of_ble_eq_true rfl) (Nat.le_of_ble_eq_true rfl) dX8_manyNow_96 (fun q_3 c_4 H hK hP hD hS => ?_)
  have hK : va_K (dC, dI) vwCl [(c_4, .int)] s := hK
  have hP : va_P (dC, dI) vwCl [(mm, .inr (10, [.int 0, .ref pl, .ref ig, .ref sl, .ref kl, .int 0, .int 0, .int 0])), (pl, .inr (1, [.int 0, .ref dz, .int 0])), (sl, .inr (1, [.int 0, .ref dz, .int 0])), (kl, .inr (1, [.int 0, .ref dz, .int 0])), (q_3, .inl (c_4, 10, .inl zi))] H := hP
  have hD : va_D A [(mm, .inr (10, [.int 0, .ref pl, .ref ig, .ref sl, .ref kl, .int 0, .int 0, .int 0])), (pl, .inr (1, [.int 0, .ref dz, .int 0])), (sl, .inr (1, [.int 0, .ref dz, .int 0])), (kl, .inr (1, [.int 0, .ref dz, .int 0])), (q_3, .inl (c_4, 10, .inl zi))] := hD
  refine W.widen (k := 1) (n := 10) (Nat.le_of_ble_eq_true rfl) (Nat.le_of_ble_eq_true rfl) ?_
  refine lv_dup hx hb dX8_manyNow_98 rfl ?_
  refine lv_iconst (v := 0) hx hb dX8_manyNow_99 (by decide) ?_
  refine lv_aload_n hx hb dX8_manyNow_100 rfl (lv_at hl 4 rfl) ?_
  refine va_get (D := (dC, dI)) (ci := 10) (v := .ref pl) (C := RX8) (T := TX8) (N := 8) hx hb hts hinX8 hown hK hP 0 rfl rfl 1 (by decide) (hts (.fieldLink RX8 10 "BallotLoomModel" "partyOf" "Ljava/util/List;") (by decide +kernel)) (fun _ h9 => h9) rfl dX8_manyNow_101 ?_
  have hPc := hP.sub (ws' := [(pl, .inr (1, [.int 0, .ref dz, .int 0]))]) [1] rfl
  have hDc := hD.sub (ws' := [(pl, .inr (1, [.int 0, .ref dz, .int 0]))]) [1] (by decide) rfl
  have hKc := hK.sub (tys' := []) [] rfl
  have hFc := va_free (wc := [(pl, .inr (1, [.int 0, .ref dz, .int 0]))]) hD hS hA [1] rfl
  refine va_callFi (va_runF (hK.1 1 _ rfl).2 (As := []) (rest := [.int 0, .ref q_3, .ref q_3]) ⟨hx, hb, hml, hown, hts⟩ (c_Jx4a65c_size_8abf5 l dC dI pl (0 : Int32) dz (0 : Int32) _ ) (va_cwF 0 hts gX8_manyNow_Jx4a65c_size_8abf5_f30Jx4a65c rfl rfl rfl (mo_of hXs) (by decide +kernel) ⟨Nat.le_of_ble_eq_true rfl, Nat.le_of_ble_eq_true rfl⟩) ⟨pr_blind, va_recv hKc hPc (ci := 1) (q0 := 0) rfl rfl, fun U hU hW => ⟨rfl, pr_mk hU hW hPc hKc hDc⟩⟩ rfl rfl hl.1 rfl (lv_room (Nat.le_of_ble_eq_true rfl)) dX8_manyNow_104 ⟨Nat.le_of_ble_eq_true rfl, Nat.le_of_ble_eq_true rfl⟩) hS (fun q _ h => hFc q h) hFc (fun r_6 u_5 t H1 locs ht hvm hw hB hz1 hk1 hS => ?_)
  obtain ⟨hP1, hK1, hD1⟩ := hB
  rw [ht] at hP1
  obtain ⟨hP, hD⟩ := va_join (wr := [(mm, .inr (10, [.int 0, .ref pl, .ref ig, .ref sl, .ref kl, .int 0, .int 0, .int 0])), (sl, .inr (1, [.int 0, .ref dz, .int 0])), (kl, .inr (1, [.int 0, .ref dz, .int 0])), (q_3, .inl (c_4, 10, .inl zi))]) (w1 := [(pl, .inr (1, [.int 0, .ref dz, .int 0]))]) hP hD [1] [0, 2, 3, 4] rfl rfl (by decide) (by decide) hk1 hFc hP1 hD1
  generalize H1 = H at hP hS ⊢
  have hP : va_P (dC, dI) vwCl [(mm, .inr (10, [.int 0, .ref pl, .ref ig, .ref sl, .ref kl, .int 0, .int 0, .int 0])), (sl, .inr (1, [.int 0, .ref dz, .int 0])), (kl, .inr (1, [.int 0, .ref dz, .int 0])), (q_3, .inl (c_4, 10, .inl zi)), (pl, .inr (1, [.int 0, .ref dz, .int 0]))] H := hP
  have hD : va_D A [(mm, .inr (10, [.int 0, .ref pl, .ref ig, .ref sl, .ref kl, .int 0, .int 0, .int 0])), (sl, .inr (1, [.int 0, .ref dz, .int 0])), (kl, .inr (1, [.int 0, .ref dz, .int 0])), (q_3, .inl (c_4, 10, .inl zi)), (pl, .inr (1, [.int 0, .ref dz, .int 0]))] := hD
  refine W.widen (k := 1) (n := 10) (Nat.le_refl _) (Nat.le_refl _) ?_
  have hw : r_6 = 0 := hw
  subst hw
  refine va_iast hx hb hK hP hD hS 3 0 rfl rfl (by unfold vp_in; decide) dX8_manyNow_109 (fun H locs hP hD hS => ?_)
  have hP : va_P (dC, dI) vwCl [(mm, .inr (10, [.int 0, .ref pl, .ref ig, .ref sl, .ref kl, .int 0, .int 0, .int 0])), (sl, .inr (1, [.int 0, .ref dz, .int 0])), (kl, .inr (1, [.int 0, .ref dz, .int 0])), (q_3, .inl (c_4, 10, .inl zi)), (pl, .inr (1, [.int 0, .ref dz, .int 0]))] H := by have h9 := hP; rw [upd_zi] at h9; exact h9
  have hD : va_D A [(mm, .inr (10, [.int 0, .ref pl, .ref ig, .ref sl, .ref kl, .int 0, .int 0, .int 0])), (sl, .inr (1, [.int 0, .ref dz, .int 0])), (kl, .inr (1, [.int 0, .ref dz, .int 0])), (q_3, .inl (c_4, 10, .inl zi)), (pl, .inr (1, [.int 0, .ref dz, .int 0]))] := by have h9 := hD; rw [upd_zi] at h9; exact h9
  refine lv_dup hx hb dX8_manyNow_110 rfl ?_
  refine lv_iconst (v := 1) hx hb dX8_manyNow_111 (by decide) ?_
  refine lv_aload_n hx hb dX8_manyNow_112 rfl (lv_at hl 4 rfl) ?_
  have hPc := hP.sub (ws' := [(mm, .inr (10, [.int 0, .ref pl, .ref ig, .ref sl, .ref kl, .int 0, .int 0, .int 0])), (pl, .inr (1, [.int 0, .ref dz, .int 0]))]) [0, 4] rfl
  have hDc := hD.sub (ws' := [(mm, .inr (10, [.int 0, .ref pl, .ref ig, .ref sl, .ref kl, .int 0, .int 0, .int 0])), (pl, .inr (1, [.int 0, .ref dz, .int 0]))]) [0, 4] (by decide) rfl
  have hKc := hK.sub (tys' := []) [] rfl
  have hFc := va_free (wc := [(mm, .inr (10, [.int 0, .ref pl, .ref ig, .ref sl, .ref kl, .int 0, .int 0, .int 0])), (pl, .inr (1, [.int 0, .ref dz, .int 0]))]) hD hS hA [0, 4] rfl
  refine va_calli (va_runV (As := []) (rest := [.int 1, .ref q_3, .ref q_3]) ⟨hx, hb, hml, hown, hts⟩ (c_X8_standing l dC dI mm pl ig sl kl dz _ ) (cwV 0 hts gX8_manyNow_X8_standing rfl rfl rfl (by decide +kernel) ⟨Nat.le_of_ble_eq_true rfl, Nat.le_of_ble_eq_true rfl⟩) ⟨pe_blind mo_bl, va_recv hKc hPc (ci := 10) (q0 := 0) rfl rfl, fun U hU hW => ⟨rfl, pr_mk hU hW hPc hKc hDc, mo_mk hW hXs⟩⟩ rfl rfl hl.1 rfl (lv_room (Nat.le_of_ble_eq_true rfl)) dX8_manyNow_113 ⟨Nat.le_of_ble_eq_true rfl, Nat.le_of_ble_eq_true rfl⟩) hS (fun q _ h => hFc q h) hFc (fun r_8 u_7 t H1 locs ht hvm hw hB hz1 hk1 hS => ?_)
  obtain ⟨hP1, hK1, hD1⟩ := hB
  rw [ht] at hP1
  obtain ⟨hP, hD⟩ := va_join (wr := [(sl, .inr (1, [.int 0, .ref dz, .int 0])), (kl, .inr (1, [.int 0, .ref dz, .int 0])), (q_3, .inl (c_4, 10, .inl zi))]) (w1 := [(mm, .inr (10, [.int 0, .ref pl, .ref ig, .ref sl, .ref kl, .int 0, .int 0, .int 0])), (pl, .inr (1, [.int 0, .ref dz, .int 0]))]) hP hD [0, 4] [1, 2, 3] rfl rfl (by decide) (by decide) hk1 hFc hP1 hD1
  generalize H1 = H at hP hS ⊢
  have hP : va_P (dC, dI) vwCl [(sl, .inr (1, [.int 0, .ref dz, .int 0])), (kl, .inr (1, [.int 0, .ref dz, .int 0])), (q_3, .inl (c_4, 10, .inl zi)), (mm, .inr (10, [.int 0, .ref pl, .ref ig, .ref sl, .ref kl, .int 0, .int 0, .int 0])), (pl, .inr (1, [.int 0, .ref dz, .int 0]))] H := hP
  have hD : va_D A [(sl, .inr (1, [.int 0, .ref dz, .int 0])), (kl, .inr (1, [.int 0, .ref dz, .int 0])), (q_3, .inl (c_4, 10, .inl zi)), (mm, .inr (10, [.int 0, .ref pl, .ref ig, .ref sl, .ref kl, .int 0, .int 0, .int 0])), (pl, .inr (1, [.int 0, .ref dz, .int 0]))] := hD
  refine W.widen (k := 1) (n := 10) (Nat.le_refl _) (Nat.le_refl _) ?_
  have hw : r_8 = 0 := hw
  subst hw
  refine va_iast hx hb hK hP hD hS 2 0 rfl rfl (by unfold vp_in; decide) dX8_manyNow_116 (fun H locs hP hD hS => ?_)
  have hP : va_P (dC, dI) vwCl [(sl, .inr (1, [.int 0, .ref dz, .int 0])), (kl, .inr (1, [.int 0, .ref dz, .int 0])), (q_3, .inl (c_4, 10, .inl zi)), (mm, .inr (10, [.int 0, .ref pl, .ref ig, .ref sl, .ref kl, .int 0, .int 0, .int 0])), (pl, .inr (1, [.int 0, .ref dz, .int 0]))] H := by have h9 := hP; rw [upd_zi] at h9; exact h9
  have hD : va_D A [(sl, .inr (1, [.int 0, .ref dz, .int 0])), (kl, .inr (1, [.int 0, .ref dz, .int 0])), (q_3, .inl (c_4, 10, .inl zi)), (mm, .inr (10, [.int 0, .ref pl, .ref ig, .ref sl, .ref kl, .int 0, .int 0, .int 0])), (pl, .inr (1, [.int 0, .ref dz, .int 0]))] := by have h9 := hD; rw [upd_zi] at h9; exact h9
  refine lv_dup hx hb dX8_manyNow_117 rfl ?_
  refine lv_iconst (v := 2) hx hb dX8_manyNow_118 (by decide) ?_
  refine lv_aload_n hx hb dX8_manyNow_119 rfl (lv_at hl 4 rfl) ?_
  refine va_get (D := (dC, dI)) (ci := 10) (v := .ref sl) (C := RX8) (T := TX8) (N := 8) hx hb hts hinX8 hown hK hP 3 rfl rfl 3 (by decide) (hts (.fieldLink RX8 20 "BallotLoomModel" "seatsOf" "Ljava/util/List;") (by decide +kernel)) (fun _ h9 => h9) rfl dX8_manyNow_120 ?_
  have hPc := hP.sub (ws' := [(sl, .inr (1, [.int 0, .ref dz, .int 0]))]) [0] rfl
  have hDc := hD.sub (ws' := [(sl, .inr (1, [.int 0, .ref dz, .int 0]))]) [0] (by decide) rfl
  have hKc := hK.sub (tys' := []) [] rfl
  have hFc := va_free (wc := [(sl, .inr (1, [.int 0, .ref dz, .int 0]))]) hD hS hA [0] rfl
  refine va_callFi (va_runF (hK.1 1 _ rfl).2 (As := []) (rest := [.int 2, .ref q_3, .ref q_3]) ⟨hx, hb, hml, hown, hts⟩ (c_Jx4a65c_size_8abf5 l dC dI sl (0 : Int32) dz (0 : Int32) _ ) (va_cwF 0 hts gX8_manyNow_Jx4a65c_size_8abf5_f30Jx4a65c rfl rfl rfl (mo_of hXs) (by decide +kernel) ⟨Nat.le_of_ble_eq_true rfl, Nat.le_of_ble_eq_true rfl⟩) ⟨pr_blind, va_recv hKc hPc (ci := 1) (q0 := 0) rfl rfl, fun U hU hW => ⟨rfl, pr_mk hU hW hPc hKc hDc⟩⟩ rfl rfl hl.1 rfl (lv_room (Nat.le_of_ble_eq_true rfl)) dX8_manyNow_123 ⟨Nat.le_of_ble_eq_true rfl, Nat.le_of_ble_eq_true rfl⟩) hS (fun q _ h => hFc q h) hFc (fun r_10 u_9 t H1 locs ht hvm hw hB hz1 hk1 hS => ?_)
  obtain ⟨hP1, hK1, hD1⟩ := hB
  rw [ht] at hP1
  obtain ⟨hP, hD⟩ := va_join (wr := [(kl, .inr (1, [.int 0, .ref dz, .int 0])), (q_3, .inl (c_4, 10, .inl zi)), (mm, .inr (10, [.int 0, .ref pl, .ref ig, .ref sl, .ref kl, .int 0, .int 0, .int 0])), (pl, .inr (1, [.int 0, .ref dz, .int 0]))]) (w1 := [(sl, .inr (1, [.int 0, .ref dz, .int 0]))]) hP hD [0] [1, 2, 3, 4] rfl rfl (by decide) (by decide) hk1 hFc hP1 hD1
  generalize H1 = H at hP hS ⊢
  have hP : va_P (dC, dI) vwCl [(kl, .inr (1, [.int 0, .ref dz, .int 0])), (q_3, .inl (c_4, 10, .inl zi)), (mm, .inr (10, [.int 0, .ref pl, .ref ig, .ref sl, .ref kl, .int 0, .int 0, .int 0])), (pl, .inr (1, [.int 0, .ref dz, .int 0])), (sl, .inr (1, [.int 0, .ref dz, .int 0]))] H := hP
  have hD : va_D A [(kl, .inr (1, [.int 0, .ref dz, .int 0])), (q_3, .inl (c_4, 10, .inl zi)), (mm, .inr (10, [.int 0, .ref pl, .ref ig, .ref sl, .ref kl, .int 0, .int 0, .int 0])), (pl, .inr (1, [.int 0, .ref dz, .int 0])), (sl, .inr (1, [.int 0, .ref dz, .int 0]))] := hD
  refine W.widen (k := 1) (n := 10) (Nat.le_refl _) (Nat.le_refl _) ?_
  have hw : r_10 = 0 := hw
  subst hw
  refine va_iast hx hb hK hP hD hS 1 0 rfl rfl (by unfold vp_in; decide) dX8_manyNow_128 (fun H locs hP hD hS => ?_)
  have hP : va_P (dC, dI) vwCl [(kl, .inr (1, [.int 0, .ref dz, .int 0])), (q_3, .inl (c_4, 10, .inl zi)), (mm, .inr (10, [.int 0, .ref pl, .ref ig, .ref sl, .ref kl, .int 0, .int 0, .int 0])), (pl, .inr (1, [.int 0, .ref dz, .int 0])), (sl, .inr (1, [.int 0, .ref dz, .int 0]))] H := by have h9 := hP; rw [upd_zi] at h9; exact h9
  have hD : va_D A [(kl, .inr (1, [.int 0, .ref dz, .int 0])), (q_3, .inl (c_4, 10, .inl zi)), (mm, .inr (10, [.int 0, .ref pl, .ref ig, .ref sl, .ref kl, .int 0, .int 0, .int 0])), (pl, .inr (1, [.int 0, .ref dz, .int 0])), (sl, .inr (1, [.int 0, .ref dz, .int 0]))] := by have h9 := hD; rw [upd_zi] at h9; exact h9
  refine lv_dup hx hb dX8_manyNow_129 rfl ?_
  refine lv_iconst (v := 3) hx hb dX8_manyNow_130 (by decide) ?_
  refine lv_aload_n hx hb dX8_manyNow_131 rfl (lv_at hl 4 rfl) ?_
  refine va_get (D := (dC, dI)) (ci := 10) (v := .ref kl) (C := RX8) (T := TX8) (N := 8) hx hb hts hinX8 hown hK hP 2 rfl rfl 4 (by decide) (hts (.fieldLink RX8 23 "BallotLoomModel" "stacks" "Ljava/util/List;") (by decide +kernel)) (fun _ h9 => h9) rfl dX8_manyNow_132 ?_
  have hPc := hP.sub (ws' := [(kl, .inr (1, [.int 0, .ref dz, .int 0]))]) [0] rfl
  have hDc := hD.sub (ws' := [(kl, .inr (1, [.int 0, .ref dz, .int 0]))]) [0] (by decide) rfl
  have hKc := hK.sub (tys' := []) [] rfl
  have hFc := va_free (wc := [(kl, .inr (1, [.int 0, .ref dz, .int 0]))]) hD hS hA [0] rfl
  refine va_callFi (va_runF (hK.1 1 _ rfl).2 (As := []) (rest := [.int 3, .ref q_3, .ref q_3]) ⟨hx, hb, hml, hown, hts⟩ (c_Jx4a65c_size_8abf5 l dC dI kl (0 : Int32) dz (0 : Int32) _ ) (va_cwF 0 hts gX8_manyNow_Jx4a65c_size_8abf5_f30Jx4a65c rfl rfl rfl (mo_of hXs) (by decide +kernel) ⟨Nat.le_of_ble_eq_true rfl, Nat.le_of_ble_eq_true rfl⟩) ⟨pr_blind, va_recv hKc hPc (ci := 1) (q0 := 0) rfl rfl, fun U hU hW => ⟨rfl, pr_mk hU hW hPc hKc hDc⟩⟩ rfl rfl hl.1 rfl (lv_room (Nat.le_of_ble_eq_true rfl)) dX8_manyNow_135 ⟨Nat.le_of_ble_eq_true rfl, Nat.le_of_ble_eq_true rfl⟩) hS (fun q _ h => hFc q h) hFc (fun r_12 u_11 t H1 locs ht hvm hw hB hz1 hk1 hS => ?_)
  obtain ⟨hP1, hK1, hD1⟩ := hB
  rw [ht] at hP1
  obtain ⟨hP, hD⟩ := va_join (wr := [(q_3, .inl (c_4, 10, .inl zi)), (mm, .inr (10, [.int 0, .ref pl, .ref ig, .ref sl, .ref kl, .int 0, .int 0, .int 0])), (pl, .inr (1, [.int 0, .ref dz, .int 0])), (sl, .inr (1, [.int 0, .ref dz, .int 0]))]) (w1 := [(kl, .inr (1, [.int 0, .ref dz, .int 0]))]) hP hD [0] [1, 2, 3, 4] rfl rfl (by decide) (by decide) hk1 hFc hP1 hD1
  generalize H1 = H at hP hS ⊢
  have hP : va_P (dC, dI) vwCl [(q_3, .inl (c_4, 10, .inl zi)), (mm, .inr (10, [.int 0, .ref pl, .ref ig, .ref sl, .ref kl, .int 0, .int 0, .int 0])), (pl, .inr (1, [.int 0, .ref dz, .int 0])), (sl, .inr (1, [.int 0, .ref dz, .int 0])), (kl, .inr (1, [.int 0, .ref dz, .int 0]))] H := hP
  have hD : va_D A [(q_3, .inl (c_4, 10, .inl zi)), (mm, .inr (10, [.int 0, .ref pl, .ref ig, .ref sl, .ref kl, .int 0, .int 0, .int 0])), (pl, .inr (1, [.int 0, .ref dz, .int 0])), (sl, .inr (1, [.int 0, .ref dz, .int 0])), (kl, .inr (1, [.int 0, .ref dz, .int 0]))] := hD
  refine W.widen (k := 1) (n := 10) (Nat.le_refl _) (Nat.le_refl _) ?_
  have hw : r_12 = 0 := hw
  subst hw
  refine va_iast hx hb hK hP hD hS 0 0 rfl rfl (by unfold vp_in; decide) dX8_manyNow_140 (fun H locs hP hD hS => ?_)
  have hP : va_P (dC, dI) vwCl [(q_3, .inl (c_4, 10, .inl zi)), (mm, .inr (10, [.int 0, .ref pl, .ref ig, .ref sl, .ref kl, .int 0, .int 0, .int 0])), (pl, .inr (1, [.int 0, .ref dz, .int 0])), (sl, .inr (1, [.int 0, .ref dz, .int 0])), (kl, .inr (1, [.int 0, .ref dz, .int 0]))] H := by have h9 := hP; rw [upd_zi] at h9; exact h9
  have hD : va_D A [(q_3, .inl (c_4, 10, .inl zi)), (mm, .inr (10, [.int 0, .ref pl, .ref ig, .ref sl, .ref kl, .int 0, .int 0, .int 0])), (pl, .inr (1, [.int 0, .ref dz, .int 0])), (sl, .inr (1, [.int 0, .ref dz, .int 0])), (kl, .inr (1, [.int 0, .ref dz, .int 0]))] := by have h9 := hD; rw [upd_zi] at h9; exact h9
  refine lv_dup hx hb dX8_manyNow_141 rfl ?_
  refine lv_iconst (v := 4) hx hb dX8_manyNow_142 (by decide) ?_
  refine lv_iload_n hx hb dX8_manyNow_143 rfl (lv_at hl 3 rfl) ?_
  refine va_iast hx hb hK hP hD hS 0 0 rfl rfl (by unfold vp_in; decide) dX8_manyNow_144 (fun H locs hP hD hS => ?_)
  have hP : va_P (dC, dI) vwCl [(q_3, .inl (c_4, 10, .inl zi)), (mm, .inr (10, [.int 0, .ref pl, .ref ig, .ref sl, .ref kl, .int 0, .int 0, .int 0])), (pl, .inr (1, [.int 0, .ref dz, .int 0])), (sl, .inr (1, [.int 0, .ref dz, .int 0])), (kl, .inr (1, [.int 0, .ref dz, .int 0]))] H := by have h9 := hP; rw [upd_zi] at h9; exact h9
  have hD : va_D A [(q_3, .inl (c_4, 10, .inl zi)), (mm, .inr (10, [.int 0, .ref pl, .ref ig, .ref sl, .ref kl, .int 0, .int 0, .int 0])), (pl, .inr (1, [.int 0, .ref dz, .int 0])), (sl, .inr (1, [.int 0, .ref dz, .int 0])), (kl, .inr (1, [.int 0, .ref dz, .int 0]))] := by have h9 := hD; rw [upd_zi] at h9; exact h9
  refine lv_dup hx hb dX8_manyNow_145 rfl ?_
  refine lv_iconst (v := 5) hx hb dX8_manyNow_146 (by decide) ?_
  refine lv_iload_n hx hb dX8_manyNow_147 rfl (lv_at hl 2 rfl) ?_
  refine va_iast hx hb hK hP hD hS 0 0 rfl rfl (by unfold vp_in; decide) dX8_manyNow_148 (fun H locs hP hD hS => ?_)
  have hP : va_P (dC, dI) vwCl [(q_3, .inl (c_4, 10, .inl zi)), (mm, .inr (10, [.int 0, .ref pl, .ref ig, .ref sl, .ref kl, .int 0, .int 0, .int 0])), (pl, .inr (1, [.int 0, .ref dz, .int 0])), (sl, .inr (1, [.int 0, .ref dz, .int 0])), (kl, .inr (1, [.int 0, .ref dz, .int 0]))] H := by have h9 := hP; rw [upd_zi] at h9; exact h9
  have hD : va_D A [(q_3, .inl (c_4, 10, .inl zi)), (mm, .inr (10, [.int 0, .ref pl, .ref ig, .ref sl, .ref kl, .int 0, .int 0, .int 0])), (pl, .inr (1, [.int 0, .ref dz, .int 0])), (sl, .inr (1, [.int 0, .ref dz, .int 0])), (kl, .inr (1, [.int 0, .ref dz, .int 0]))] := by have h9 := hD; rw [upd_zi] at h9; exact h9
  refine lv_dup hx hb dX8_manyNow_149 rfl ?_
  refine lv_bipush (v := 6) hx hb dX8_manyNow_150 (by decide) ?_
  refine lv_iload hx hb dX8_manyNow_152 (lv_at hl 1 rfl) ?_
  refine va_iast hx hb hK hP hD hS 0 0 rfl rfl (by unfold vp_in; decide) dX8_manyNow_154 (fun H locs hP hD hS => ?_)
  have hP : va_P (dC, dI) vwCl [(q_3, .inl (c_4, 10, .inl zi)), (mm, .inr (10, [.int 0, .ref pl, .ref ig, .ref sl, .ref kl, .int 0, .int 0, .int 0])), (pl, .inr (1, [.int 0, .ref dz, .int 0])), (sl, .inr (1, [.int 0, .ref dz, .int 0])), (kl, .inr (1, [.int 0, .ref dz, .int 0]))] H := by have h9 := hP; rw [upd_zi] at h9; exact h9
  have hD : va_D A [(q_3, .inl (c_4, 10, .inl zi)), (mm, .inr (10, [.int 0, .ref pl, .ref ig, .ref sl, .ref kl, .int 0, .int 0, .int 0])), (pl, .inr (1, [.int 0, .ref dz, .int 0])), (sl, .inr (1, [.int 0, .ref dz, .int 0])), (kl, .inr (1, [.int 0, .ref dz, .int 0]))] := by have h9 := hD; rw [upd_zi] at h9; exact h9
  refine lv_dup hx hb dX8_manyNow_155 rfl ?_
  refine lv_bipush (v := 7) hx hb dX8_manyNow_156 (by decide) ?_
  refine lv_aload_n hx hb dX8_manyNow_158 rfl (lv_at hl 4 rfl) ?_
  refine va_get (D := (dC, dI)) (ci := 10) (v := .int 0) (C := RX8) (T := TX8) (N := 8) hx hb hts hinX8 hown hK hP 1 rfl rfl 5 (by decide) (hts (.fieldLink RX8 99 "BallotLoomModel" "threshold" "I") (by decide +kernel)) (fun _ h9 => h9) rfl dX8_manyNow_159 ?_
  refine va_iast hx hb hK hP hD hS 0 0 rfl rfl (by unfold vp_in; decide) dX8_manyNow_162 (fun H locs hP hD hS => ?_)
  have hP : va_P (dC, dI) vwCl [(q_3, .inl (c_4, 10, .inl zi)), (mm, .inr (10, [.int 0, .ref pl, .ref ig, .ref sl, .ref kl, .int 0, .int 0, .int 0])), (pl, .inr (1, [.int 0, .ref dz, .int 0])), (sl, .inr (1, [.int 0, .ref dz, .int 0])), (kl, .inr (1, [.int 0, .ref dz, .int 0]))] H := by have h9 := hP; rw [upd_zi] at h9; exact h9
  have hD : va_D A [(q_3, .inl (c_4, 10, .inl zi)), (mm, .inr (10, [.int 0, .ref pl, .ref ig, .ref sl, .ref kl, .int 0, .int 0, .int 0])), (pl, .inr (1, [.int 0, .ref dz, .int 0])), (sl, .inr (1, [.int 0, .ref dz, .int 0])), (kl, .inr (1, [.int 0, .ref dz, .int 0]))] := by have h9 := hD; rw [upd_zi] at h9; exact h9
  refine lv_dup hx hb dX8_manyNow_163 rfl ?_
  refine lv_bipush (v := 8) hx hb dX8_manyNow_164 (by decide) ?_
  refine lv_aload_n hx hb dX8_manyNow_166 rfl (lv_at hl 4 rfl) ?_
  refine va_get (D := (dC, dI)) (ci := 10) (v := .int 0) (C := RX8) (T := TX8) (N := 8) hx hb hts hinX8 hown hK hP 1 rfl rfl 6 (by decide) (hts (.fieldLink RX8 78 "BallotLoomModel" "isSealed" "Z") (by decide +kernel)) (fun _ h9 => h9) rfl dX8_manyNow_167 ?_
  refine lv_if_eq (tgt := 177) hx hb dX8_manyNow_170 (by decide) (fun _ => ?_) (fun h9 => absurd h9 (by decide))
  refine lv_iconst (v := 0) hx hb dX8_manyNow_177 (by decide) ?_
  refine va_iast hx hb hK hP hD hS 0 0 rfl rfl (by unfold vp_in; decide) dX8_manyNow_178 (fun H locs hP hD hS => ?_)
  have hP : va_P (dC, dI) vwCl [(q_3, .inl (c_4, 10, .inl zi)), (mm, .inr (10, [.int 0, .ref pl, .ref ig, .ref sl, .ref kl, .int 0, .int 0, .int 0])), (pl, .inr (1, [.int 0, .ref dz, .int 0])), (sl, .inr (1, [.int 0, .ref dz, .int 0])), (kl, .inr (1, [.int 0, .ref dz, .int 0]))] H := by have h9 := hP; rw [upd_zi] at h9; exact h9
  have hD : va_D A [(q_3, .inl (c_4, 10, .inl zi)), (mm, .inr (10, [.int 0, .ref pl, .ref ig, .ref sl, .ref kl, .int 0, .int 0, .int 0])), (pl, .inr (1, [.int 0, .ref dz, .int 0])), (sl, .inr (1, [.int 0, .ref dz, .int 0])), (kl, .inr (1, [.int 0, .ref dz, .int 0]))] := by have h9 := hD; rw [upd_zi] at h9; exact h9
  refine lv_dup hx hb dX8_manyNow_179 rfl ?_
  refine lv_bipush (v := 9) hx hb dX8_manyNow_180 (by decide) ?_
  refine lv_aload_n hx hb dX8_manyNow_182 rfl (lv_at hl 4 rfl) ?_
  refine va_get (D := (dC, dI)) (ci := 10) (v := .int 0) (C := RX8) (T := TX8) (N := 8) hx hb hts hinX8 hown hK hP 1 rfl rfl 7 (by decide) (hts (.fieldLink RX8 110 "BallotLoomModel" "refused" "I") (by decide +kernel)) (fun _ h9 => h9) rfl dX8_manyNow_183 ?_
  refine va_iast hx hb hK hP hD hS 0 0 rfl rfl (by unfold vp_in; decide) dX8_manyNow_186 (fun H locs hP hD hS => ?_)
  have hP : va_P (dC, dI) vwCl [(q_3, .inl (c_4, 10, .inl zi)), (mm, .inr (10, [.int 0, .ref pl, .ref ig, .ref sl, .ref kl, .int 0, .int 0, .int 0])), (pl, .inr (1, [.int 0, .ref dz, .int 0])), (sl, .inr (1, [.int 0, .ref dz, .int 0])), (kl, .inr (1, [.int 0, .ref dz, .int 0]))] H := by have h9 := hP; rw [upd_zi] at h9; exact h9
  have hD : va_D A [(q_3, .inl (c_4, 10, .inl zi)), (mm, .inr (10, [.int 0, .ref pl, .ref ig, .ref sl, .ref kl, .int 0, .int 0, .int 0])), (pl, .inr (1, [.int 0, .ref dz, .int 0])), (sl, .inr (1, [.int 0, .ref dz, .int 0])), (kl, .inr (1, [.int 0, .ref dz, .int 0]))] := by have h9 := hD; rw [upd_zi] at h9; exact h9
  refine lv_astore (lv' := [(5, .ref q_3), (4, .int 0), (3, .int 0), (2, .int 0), (0, .ref mm), (1, .int wh)]) hx hb dX8_manyNow_187 hl (by decide) rfl (fun ls hl => ?_)
  refine lv_aload hx hb dX8_manyNow_189 (lv_at hl 0 rfl) ?_
  refine lv_iload_n hx hb dX8_manyNow_191 rfl (lv_at hl 5 rfl) ?_
  refine va_iald hx hb hK hP 0 0 rfl rfl hwh dX8_manyNow_192 ?_
  refine lv_topi (fun y_13 ey_13 => ?_)
  obtain rfl : y_13 = 0 := ey_13.trans (by rfl)
  have hP9 := hP.sub (ws' := [(mm, .inr (10, [.int 0, .ref pl, .ref ig, .ref sl, .ref kl, .int 0, .int 0, .int 0])), (pl, .inr (1, [.int 0, .ref dz, .int 0])), (sl, .inr (1, [.int 0, .ref dz, .int 0])), (kl, .inr (1, [.int 0, .ref dz, .int 0]))]) [1, 2, 3, 4] rfl
  have hD9 := hD.sub (ws' := [(mm, .inr (10, [.int 0, .ref pl, .ref ig, .ref sl, .ref kl, .int 0, .int 0, .int 0])), (pl, .inr (1, [.int 0, .ref dz, .int 0])), (sl, .inr (1, [.int 0, .ref dz, .int 0])), (kl, .inr (1, [.int 0, .ref dz, .int 0]))]) [1, 2, 3, 4] (by decide) rfl
  have hK9 := hK.sub (tys' := []) [] rfl
  refine W.widen (k := 1) (n := 10) (Nat.le_of_ble_eq_true rfl) (Nat.le_of_ble_eq_true rfl) ?_
  exact W.iret (v := 0) hx hb hr (fun t ht hW => ⟨⟨0, (), rfl, rfl, po_mk ht hW hP9 hK9 hD9⟩, hS.F ht⟩) hS.2.2 dX8_manyNow_193

set_option maxHeartbeats 4000000 in
set_option maxRecDepth 100000 in
theorem c0_X8_threshold (l : Launch) (dC : Nat → ClassId) (dI : Nat → Nat → Nat) (mm : Nat) (pl : Nat) (ig : Nat) (sl : Nat) (kl : Nat) (dz : Nat) (a0 : Int32) (sz : Nat) (hbd : a0 < 0 ∨ 20 < a0) : Met l yX8_threshold wsX8_threshold ({ frames := 5, cells := 0, slots := 0, locals := 140 }) (va_Pc [.ref mm, .int a0] (fun U => pr_ dC dI [(mm, .inr (10, [.int 0, .ref pl, .ref ig, .ref sl, .ref kl, .int 0, .int 0, .int 0])), (pl, .inr (1, [.int 0, .ref dz, .int 0])), (sl, .inr (1, [.int 0, .ref dz, .int 0])), (kl, .inr (1, [.int 0, .ref dz, .int 0]))] [] sz U ∧ mo_  U)) (va_Qi (fun (r : Int32) (_ : Unit) => r = 0) (fun (_ : Unit) t => po_ dC dI [(mm, .inr (10, [.int 1, .ref pl, .ref ig, .ref sl, .ref kl, .int 0, .int 0, .int 0]))] [] (va_A [(mm, .inr (10, [.int 0, .ref pl, .ref ig, .ref sl, .ref kl, .int 0, .int 0, .int 0])), (pl, .inr (1, [.int 0, .ref dz, .int 0])), (sl, .inr (1, [.int 0, .ref dz, .int 0])), (kl, .inr (1, [.int 0, .ref dz, .int 0]))] sz) t) (va_A [(mm, .inr (10, [.int 0, .ref pl, .ref ig, .ref sl, .ref kl, .int 0, .int 0, .int 0])), (pl, .inr (1, [.int 0, .ref dz, .int 0])), (sl, .inr (1, [.int 0, .ref dz, .int 0])), (kl, .inr (1, [.int 0, .ref dz, .int 0]))] sz)) 0 0 (va_A [(mm, .inr (10, [.int 0, .ref pl, .ref ig, .ref sl, .ref kl, .int 0, .int 0, .int 0])), (pl, .inr (1, [.int 0, .ref dz, .int 0])), (sl, .inr (1, [.int 0, .ref dz, .int 0])), (kl, .inr (1, [.int 0, .ref dz, .int 0]))] sz) := by
  refine Met.ofW (cc := cX8_threshold) (maxL := 5) (ret := (some .int)) (by decide) rfl ?_
  intro p e s m args below meth c s₁ B hml hv
  obtain ⟨rfl, ⟨hsz, hP, hK, hD0⟩, hXs⟩ := hv
  have hx := B.exec
  have hb := B.bytes
  have hr := B.returns
  have hts := atoms_spec (ws := wsX8_threshold) B.pre
  have hown : s.vm.findClass RX8 = some m.cls := findClass_of_methodNamed B.named
  have hlocks := B.notSynchronized
  subst hsz
  have hD := hD0.self (sz := s.heap.size)
  generalize hAe : va_A [(mm, .inr (10, [.int 0, .ref pl, .ref ig, .ref sl, .ref kl, .int 0, .int 0, .int 0])), (pl, .inr (1, [.int 0, .ref dz, .int 0])), (sl, .inr (1, [.int 0, .ref dz, .int 0])), (kl, .inr (1, [.int 0, .ref dz, .int 0]))] s.heap.size = A at hD ⊢
  have hA : ∀ q : Nat, s.heap.size ≤ q → A q := fun q h => by rw [← hAe]; exact Or.inr h
  have hS : va_S A s.heap s.heap [] := va_S.rf
  have hP : va_P (dC, dI) vwCl [(mm, .inr (10, [.int 0, .ref pl, .ref ig, .ref sl, .ref kl, .int 0, .int 0, .int 0])), (pl, .inr (1, [.int 0, .ref dz, .int 0])), (sl, .inr (1, [.int 0, .ref dz, .int 0])), (kl, .inr (1, [.int 0, .ref dz, .int 0]))] s.heap := hP
  have hK : va_K (dC, dI) vwCl [] s := hK
  have hl := lv_entry ([.ref mm, .int a0]) (n := 5) (Nat.le_of_ble_eq_true rfl)
  rw [lg_entry_eq]
  generalize (lg_sl ([.ref mm, .int a0]) ++ List.replicate (5 - (lg_sl ([.ref mm, .int a0])).length) Slot.unset).toArray = ls at hl ⊢
  have hl : lv_has ls 5 [(0, .ref mm), (1, .int a0)] := hl
  refine lv_aload_n hx hb dX8_threshold_0 rfl (lv_at hl 0 rfl) ?_
  refine lv_iconst (v := 0) hx hb dX8_threshold_1 (by decide) ?_
  have hinX8 : ∀ w ∈ u_ws RX8 TX8 8, w ∈ wsX8_threshold := by decide +kernel
  refine va_put (D := (dC, dI)) (ci := 10) (v := .int 0) (ty := .int) (C := RX8) (T := TX8) (N := 8) hx hb hts hinX8 tyX8 tyX8_ok nmX8 hown hK hP hD hS 0 rfl rfl 0 (by decide) (hts (.fieldLink RX8 26 "BallotLoomModel" "thrown" "I") (by decide +kernel)) (fun _ h9 => h9) rfl (by decide +kernel) rfl rfl (Nat.le_of_ble_eq_true rfl) dX8_threshold_2 (fun H locs hP hD hS => ?_)
  have hP : va_P (dC, dI) vwCl [(mm, .inr (10, [.int 0, .ref pl, .ref ig, .ref sl, .ref kl, .int 0, .int 0, .int 0])), (pl, .inr (1, [.int 0, .ref dz, .int 0])), (sl, .inr (1, [.int 0, .ref dz, .int 0])), (kl, .inr (1, [.int 0, .ref dz, .int 0]))] H := hP
  have hD : va_D A [(mm, .inr (10, [.int 0, .ref pl, .ref ig, .ref sl, .ref kl, .int 0, .int 0, .int 0])), (pl, .inr (1, [.int 0, .ref dz, .int 0])), (sl, .inr (1, [.int 0, .ref dz, .int 0])), (kl, .inr (1, [.int 0, .ref dz, .int 0]))] := hD
  refine lv_iload_n hx hb dX8_threshold_5 rfl (lv_at hl 1 rfl) ?_
  refine lv_iconst (v := 0) hx hb dX8_threshold_6 (by decide) ?_
  refine lv_bipush (v := 20) hx hb dX8_threshold_7 (by decide) ?_
  have hPc := hP.sub (ws' := []) [] rfl
  have hDc := hD.sub (ws' := []) [] (by decide) rfl
  have hKc := hK.sub (tys' := []) [] rfl
  have hFc := va_free (wc := []) hD hS hA [] rfl
  refine va_calli (va_runS (As := [.int a0, .int 0, .int 20]) (rest := []) ⟨hx, hb, hml, hown, hts⟩ (c0_X8_in l dC dI a0 (0 : Int32) (20 : Int32) _ hbd) (va_cwS 3 hts gX8_threshold_X8_in rfl rfl rfl (by decide +kernel) ⟨Nat.le_of_ble_eq_true rfl, Nat.le_of_ble_eq_true rfl⟩) ⟨pr_blind, fun U hU hW => ⟨rfl, pr_mk hU hW hPc hKc hDc⟩⟩ rfl rfl hl.1 rfl (lv_room (Nat.le_of_ble_eq_true rfl)) dX8_threshold_9 ⟨Nat.le_of_ble_eq_true rfl, Nat.le_of_ble_eq_true rfl⟩) hS (fun q _ h => hFc q h) hFc (fun r_2 u_1 t H1 locs ht hvm hw hB hz1 hk1 hS => ?_)
  obtain ⟨hP1, hK1, hD1⟩ := hB
  rw [ht] at hP1
  obtain ⟨hP, hD⟩ := va_join (wr := [(mm, .inr (10, [.int 0, .ref pl, .ref ig, .ref sl, .ref kl, .int 0, .int 0, .int 0])), (pl, .inr (1, [.int 0, .ref dz, .int 0])), (sl, .inr (1, [.int 0, .ref dz, .int 0])), (kl, .inr (1, [.int 0, .ref dz, .int 0]))]) (w1 := []) hP hD [] [0, 1, 2, 3] rfl rfl (by decide) (by decide) hk1 hFc hP1 hD1
  generalize H1 = H at hP hS ⊢
  have hP : va_P (dC, dI) vwCl [(mm, .inr (10, [.int 0, .ref pl, .ref ig, .ref sl, .ref kl, .int 0, .int 0, .int 0])), (pl, .inr (1, [.int 0, .ref dz, .int 0])), (sl, .inr (1, [.int 0, .ref dz, .int 0])), (kl, .inr (1, [.int 0, .ref dz, .int 0]))] H := hP
  have hD : va_D A [(mm, .inr (10, [.int 0, .ref pl, .ref ig, .ref sl, .ref kl, .int 0, .int 0, .int 0])), (pl, .inr (1, [.int 0, .ref dz, .int 0])), (sl, .inr (1, [.int 0, .ref dz, .int 0])), (kl, .inr (1, [.int 0, .ref dz, .int 0]))] := hD
  refine W.widen (k := 0) (n := 0) (Nat.le_refl _) (Nat.le_refl _) ?_
  have hw : r_2 = 0 := hw
  subst hw
  refine lv_if_ne (tgt := 21) hx hb dX8_threshold_12 (by decide) (fun h9 => absurd h9 (by decide)) (fun _ => ?_)
  refine lv_aload_n hx hb dX8_threshold_15 rfl (lv_at hl 0 rfl) ?_
  refine lv_iconst (v := 1) hx hb dX8_threshold_16 (by decide) ?_
  have hPc := hP.sub (ws' := [(mm, .inr (10, [.int 0, .ref pl, .ref ig, .ref sl, .ref kl, .int 0, .int 0, .int 0]))]) [0] rfl
  have hDc := hD.sub (ws' := [(mm, .inr (10, [.int 0, .ref pl, .ref ig, .ref sl, .ref kl, .int 0, .int 0, .int 0]))]) [0] (by decide) rfl
  have hKc := hK.sub (tys' := []) [] rfl
  have hFc := va_free (wc := [(mm, .inr (10, [.int 0, .ref pl, .ref ig, .ref sl, .ref kl, .int 0, .int 0, .int 0]))]) hD hS hA [0] rfl
  refine va_calli (va_runV (As := [.int 1]) (rest := []) ⟨hx, hb, hml, hown, hts⟩ (c_X8_no l dC dI mm pl ig sl kl (1 : Int32) (0 : Int32) _ ) (cwV 1 hts gX8_threshold_X8_no rfl rfl rfl (by decide +kernel) ⟨Nat.le_of_ble_eq_true rfl, Nat.le_of_ble_eq_true rfl⟩) ⟨pr_blind, va_recv hKc hPc (ci := 10) (q0 := 0) rfl rfl, fun U hU hW => ⟨rfl, pr_mk hU hW hPc hKc hDc⟩⟩ rfl rfl hl.1 rfl (lv_room (Nat.le_of_ble_eq_true rfl)) dX8_threshold_17 ⟨Nat.le_of_ble_eq_true rfl, Nat.le_of_ble_eq_true rfl⟩) hS (fun q _ h => hFc q h) hFc (fun r_4 u_3 t H1 locs ht hvm hw hB hz1 hk1 hS => ?_)
  obtain ⟨hP1, hK1, hD1⟩ := hB
  rw [ht] at hP1
  obtain ⟨hP, hD⟩ := va_join (wr := [(pl, .inr (1, [.int 0, .ref dz, .int 0])), (sl, .inr (1, [.int 0, .ref dz, .int 0])), (kl, .inr (1, [.int 0, .ref dz, .int 0]))]) (w1 := [(mm, .inr (10, [.int 1, .ref pl, .ref ig, .ref sl, .ref kl, .int 0, .int 0, .int 0]))]) hP hD [0] [1, 2, 3] rfl rfl (by decide) (by decide) hk1 hFc hP1 hD1
  generalize H1 = H at hP hS ⊢
  have hP : va_P (dC, dI) vwCl [(pl, .inr (1, [.int 0, .ref dz, .int 0])), (sl, .inr (1, [.int 0, .ref dz, .int 0])), (kl, .inr (1, [.int 0, .ref dz, .int 0])), (mm, .inr (10, [.int 1, .ref pl, .ref ig, .ref sl, .ref kl, .int 0, .int 0, .int 0]))] H := hP
  have hD : va_D A [(pl, .inr (1, [.int 0, .ref dz, .int 0])), (sl, .inr (1, [.int 0, .ref dz, .int 0])), (kl, .inr (1, [.int 0, .ref dz, .int 0])), (mm, .inr (10, [.int 1, .ref pl, .ref ig, .ref sl, .ref kl, .int 0, .int 0, .int 0]))] := hD
  refine W.widen (k := 0) (n := 0) (Nat.le_refl _) (Nat.le_refl _) ?_
  have hw : r_4 = 0 := hw
  subst hw
  have hP9 := hP.sub (ws' := [(mm, .inr (10, [.int 1, .ref pl, .ref ig, .ref sl, .ref kl, .int 0, .int 0, .int 0]))]) [3] rfl
  have hD9 := hD.sub (ws' := [(mm, .inr (10, [.int 1, .ref pl, .ref ig, .ref sl, .ref kl, .int 0, .int 0, .int 0]))]) [3] (by decide) rfl
  have hK9 := hK.sub (tys' := []) [] rfl
  refine W.widen (k := 0) (n := 0) (Nat.le_of_ble_eq_true rfl) (Nat.le_of_ble_eq_true rfl) ?_
  exact W.iret (v := 0) hx hb hr (fun t ht hW => ⟨⟨0, (), rfl, rfl, po_mk ht hW hP9 hK9 hD9⟩, hS.F ht⟩) hS.2.2 dX8_threshold_20

set_option maxHeartbeats 4000000 in
set_option maxRecDepth 100000 in
theorem c_X8_threshold (l : Launch) (dC : Nat → ClassId) (dI : Nat → Nat → Nat) (mm : Nat) (pl : Nat) (ig : Nat) (sl : Nat) (kl : Nat) (dz : Nat) (a0 : Int32) (sz : Nat) (h1 : ¬ a0 < 0) (h2 : ¬ 20 < a0) : Met l yX8_threshold wsX8_threshold ({ frames := 6, cells := 1, slots := 5, locals := 160 }) (va_Pc [.ref mm, .int a0] (fun U => pr_ dC dI [(mm, .inr (10, [.int 0, .ref pl, .ref ig, .ref sl, .ref kl, .int 0, .int 0, .int 0])), (pl, .inr (1, [.int 0, .ref dz, .int 0])), (sl, .inr (1, [.int 0, .ref dz, .int 0])), (kl, .inr (1, [.int 0, .ref dz, .int 0]))] [] sz U ∧ mo_  U)) (va_Qi (fun (r : Int32) (_ : Unit) => r = 0) (fun (_ : Unit) t => po_ dC dI [(mm, .inr (10, [.int 0, .ref pl, .ref ig, .ref sl, .ref kl, .int a0, .int 0, .int 0]))] [] (va_A [(mm, .inr (10, [.int 0, .ref pl, .ref ig, .ref sl, .ref kl, .int 0, .int 0, .int 0])), (pl, .inr (1, [.int 0, .ref dz, .int 0])), (sl, .inr (1, [.int 0, .ref dz, .int 0])), (kl, .inr (1, [.int 0, .ref dz, .int 0]))] sz) t) (va_A [(mm, .inr (10, [.int 0, .ref pl, .ref ig, .ref sl, .ref kl, .int 0, .int 0, .int 0])), (pl, .inr (1, [.int 0, .ref dz, .int 0])), (sl, .inr (1, [.int 0, .ref dz, .int 0])), (kl, .inr (1, [.int 0, .ref dz, .int 0]))] sz)) 1 5 (va_A [(mm, .inr (10, [.int 0, .ref pl, .ref ig, .ref sl, .ref kl, .int 0, .int 0, .int 0])), (pl, .inr (1, [.int 0, .ref dz, .int 0])), (sl, .inr (1, [.int 0, .ref dz, .int 0])), (kl, .inr (1, [.int 0, .ref dz, .int 0]))] sz) := by
  refine Met.ofW (cc := cX8_threshold) (maxL := 5) (ret := (some .int)) (by decide) rfl ?_
  intro p e s m args below meth c s₁ B hml hv
  obtain ⟨rfl, ⟨hsz, hP, hK, hD0⟩, hXs⟩ := hv
  have hx := B.exec
  have hb := B.bytes
  have hr := B.returns
  have hts := atoms_spec (ws := wsX8_threshold) B.pre
  have hown : s.vm.findClass RX8 = some m.cls := findClass_of_methodNamed B.named
  have hlocks := B.notSynchronized
  subst hsz
  have hD := hD0.self (sz := s.heap.size)
  generalize hAe : va_A [(mm, .inr (10, [.int 0, .ref pl, .ref ig, .ref sl, .ref kl, .int 0, .int 0, .int 0])), (pl, .inr (1, [.int 0, .ref dz, .int 0])), (sl, .inr (1, [.int 0, .ref dz, .int 0])), (kl, .inr (1, [.int 0, .ref dz, .int 0]))] s.heap.size = A at hD ⊢
  have hA : ∀ q : Nat, s.heap.size ≤ q → A q := fun q h => by rw [← hAe]; exact Or.inr h
  have hS : va_S A s.heap s.heap [] := va_S.rf
  have hP : va_P (dC, dI) vwCl [(mm, .inr (10, [.int 0, .ref pl, .ref ig, .ref sl, .ref kl, .int 0, .int 0, .int 0])), (pl, .inr (1, [.int 0, .ref dz, .int 0])), (sl, .inr (1, [.int 0, .ref dz, .int 0])), (kl, .inr (1, [.int 0, .ref dz, .int 0]))] s.heap := hP
  have hK : va_K (dC, dI) vwCl [] s := hK
  have hl := lv_entry ([.ref mm, .int a0]) (n := 5) (Nat.le_of_ble_eq_true rfl)
  rw [lg_entry_eq]
  generalize (lg_sl ([.ref mm, .int a0]) ++ List.replicate (5 - (lg_sl ([.ref mm, .int a0])).length) Slot.unset).toArray = ls at hl ⊢
  have hl : lv_has ls 5 [(0, .ref mm), (1, .int a0)] := hl
  refine lv_aload_n hx hb dX8_threshold_0 rfl (lv_at hl 0 rfl) ?_
  refine lv_iconst (v := 0) hx hb dX8_threshold_1 (by decide) ?_
  have hinX8 : ∀ w ∈ u_ws RX8 TX8 8, w ∈ wsX8_threshold := by decide +kernel
  refine va_put (D := (dC, dI)) (ci := 10) (v := .int 0) (ty := .int) (C := RX8) (T := TX8) (N := 8) hx hb hts hinX8 tyX8 tyX8_ok nmX8 hown hK hP hD hS 0 rfl rfl 0 (by decide) (hts (.fieldLink RX8 26 "BallotLoomModel" "thrown" "I") (by decide +kernel)) (fun _ h9 => h9) rfl (by decide +kernel) rfl rfl (Nat.le_of_ble_eq_true rfl) dX8_threshold_2 (fun H locs hP hD hS => ?_)
  have hP : va_P (dC, dI) vwCl [(mm, .inr (10, [.int 0, .ref pl, .ref ig, .ref sl, .ref kl, .int 0, .int 0, .int 0])), (pl, .inr (1, [.int 0, .ref dz, .int 0])), (sl, .inr (1, [.int 0, .ref dz, .int 0])), (kl, .inr (1, [.int 0, .ref dz, .int 0]))] H := hP
  have hD : va_D A [(mm, .inr (10, [.int 0, .ref pl, .ref ig, .ref sl, .ref kl, .int 0, .int 0, .int 0])), (pl, .inr (1, [.int 0, .ref dz, .int 0])), (sl, .inr (1, [.int 0, .ref dz, .int 0])), (kl, .inr (1, [.int 0, .ref dz, .int 0]))] := hD
  refine lv_iload_n hx hb dX8_threshold_5 rfl (lv_at hl 1 rfl) ?_
  refine lv_iconst (v := 0) hx hb dX8_threshold_6 (by decide) ?_
  refine lv_bipush (v := 20) hx hb dX8_threshold_7 (by decide) ?_
  have hPc := hP.sub (ws' := []) [] rfl
  have hDc := hD.sub (ws' := []) [] (by decide) rfl
  have hKc := hK.sub (tys' := []) [] rfl
  have hFc := va_free (wc := []) hD hS hA [] rfl
  refine va_calli (va_runS (As := [.int a0, .int 0, .int 20]) (rest := []) ⟨hx, hb, hml, hown, hts⟩ (c_X8_in l dC dI a0 (0 : Int32) (20 : Int32) _ h1 h2) (va_cwS 3 hts gX8_threshold_X8_in rfl rfl rfl (by decide +kernel) ⟨Nat.le_of_ble_eq_true rfl, Nat.le_of_ble_eq_true rfl⟩) ⟨pr_blind, fun U hU hW => ⟨rfl, pr_mk hU hW hPc hKc hDc⟩⟩ rfl rfl hl.1 rfl (lv_room (Nat.le_of_ble_eq_true rfl)) dX8_threshold_9 ⟨Nat.le_of_ble_eq_true rfl, Nat.le_of_ble_eq_true rfl⟩) hS (fun q _ h => hFc q h) hFc (fun r_2 u_1 t H1 locs ht hvm hw hB hz1 hk1 hS => ?_)
  obtain ⟨hP1, hK1, hD1⟩ := hB
  rw [ht] at hP1
  obtain ⟨hP, hD⟩ := va_join (wr := [(mm, .inr (10, [.int 0, .ref pl, .ref ig, .ref sl, .ref kl, .int 0, .int 0, .int 0])), (pl, .inr (1, [.int 0, .ref dz, .int 0])), (sl, .inr (1, [.int 0, .ref dz, .int 0])), (kl, .inr (1, [.int 0, .ref dz, .int 0]))]) (w1 := []) hP hD [] [0, 1, 2, 3] rfl rfl (by decide) (by decide) hk1 hFc hP1 hD1
  generalize H1 = H at hP hS ⊢
  have hP : va_P (dC, dI) vwCl [(mm, .inr (10, [.int 0, .ref pl, .ref ig, .ref sl, .ref kl, .int 0, .int 0, .int 0])), (pl, .inr (1, [.int 0, .ref dz, .int 0])), (sl, .inr (1, [.int 0, .ref dz, .int 0])), (kl, .inr (1, [.int 0, .ref dz, .int 0]))] H := hP
  have hD : va_D A [(mm, .inr (10, [.int 0, .ref pl, .ref ig, .ref sl, .ref kl, .int 0, .int 0, .int 0])), (pl, .inr (1, [.int 0, .ref dz, .int 0])), (sl, .inr (1, [.int 0, .ref dz, .int 0])), (kl, .inr (1, [.int 0, .ref dz, .int 0]))] := hD
  refine W.widen (k := 0) (n := 0) (Nat.le_refl _) (Nat.le_refl _) ?_
  have hw : r_2 = 1 := hw
  subst hw
  refine lv_if_ne (tgt := 21) hx hb dX8_threshold_12 (by decide) (fun _ => ?_) (fun h9 => absurd h9 (by decide))
  refine lv_aload_n hx hb dX8_threshold_21 rfl (lv_at hl 0 rfl) ?_
  refine lv_iload_n hx hb dX8_threshold_22 rfl (lv_at hl 1 rfl) ?_
  refine va_put (D := (dC, dI)) (ci := 10) (v := .int a0) (ty := .int) (C := RX8) (T := TX8) (N := 8) hx hb hts hinX8 tyX8 tyX8_ok nmX8 hown hK hP hD hS 0 rfl rfl 5 (by decide) (hts (.fieldLink RX8 99 "BallotLoomModel" "threshold" "I") (by decide +kernel)) (fun _ h9 => h9) rfl (by decide +kernel) rfl rfl (Nat.le_of_ble_eq_true rfl) dX8_threshold_23 (fun H locs hP hD hS => ?_)
  have hP : va_P (dC, dI) vwCl [(mm, .inr (10, [.int 0, .ref pl, .ref ig, .ref sl, .ref kl, .int a0, .int 0, .int 0])), (pl, .inr (1, [.int 0, .ref dz, .int 0])), (sl, .inr (1, [.int 0, .ref dz, .int 0])), (kl, .inr (1, [.int 0, .ref dz, .int 0]))] H := hP
  have hD : va_D A [(mm, .inr (10, [.int 0, .ref pl, .ref ig, .ref sl, .ref kl, .int a0, .int 0, .int 0])), (pl, .inr (1, [.int 0, .ref dz, .int 0])), (sl, .inr (1, [.int 0, .ref dz, .int 0])), (kl, .inr (1, [.int 0, .ref dz, .int 0]))] := hD
  refine lv_iconst (v := 0) hx hb dX8_threshold_26 (by decide) ?_
  refine lv_istore_n (lv' := [(2, .int 0), (0, .ref mm), (1, .int a0)]) hx hb dX8_threshold_27 rfl hl (by decide) rfl (fun ls hl => ?_)
  refine lv_aload_n hx hb dX8_threshold_28 rfl (lv_at hl 1 rfl) ?_
  have hPc := hP.sub (ws' := [(mm, .inr (10, [.int 0, .ref pl, .ref ig, .ref sl, .ref kl, .int a0, .int 0, .int 0])), (sl, .inr (1, [.int 0, .ref dz, .int 0]))]) [0, 2] rfl
  have hDc := hD.sub (ws' := [(mm, .inr (10, [.int 0, .ref pl, .ref ig, .ref sl, .ref kl, .int a0, .int 0, .int 0])), (sl, .inr (1, [.int 0, .ref dz, .int 0]))]) [0, 2] (by decide) rfl
  have hKc := hK.sub (tys' := []) [] rfl
  have hFc := va_free (wc := [(mm, .inr (10, [.int 0, .ref pl, .ref ig, .ref sl, .ref kl, .int a0, .int 0, .int 0])), (sl, .inr (1, [.int 0, .ref dz, .int 0]))]) hD hS hA [0, 2] rfl
  refine va_callr (va_runV (As := []) (rest := []) ⟨hx, hb, hml, hown, hts⟩ (c_X8_votes l dC dI mm pl ig sl kl dz a0 (0 : Int32) _ ) (cwV 0 hts gX8_threshold_X8_votes rfl rfl rfl (by decide +kernel) ⟨Nat.le_of_ble_eq_true rfl, Nat.le_of_ble_eq_true rfl⟩) ⟨pe_blind mo_bl, va_recv hKc hPc (ci := 10) (q0 := 0) rfl rfl, fun U hU hW => ⟨rfl, pr_mk hU hW hPc hKc hDc, mo_mk hW hXs⟩⟩ rfl rfl hl.1 rfl (lv_room (Nat.le_of_ble_eq_true rfl)) dX8_threshold_29 ⟨Nat.le_of_ble_eq_true rfl, Nat.le_of_ble_eq_true rfl⟩) hS (fun q _ h => hFc q h) hFc (fun u_3 r_4 t H1 locs ht hvm hw hB hz1 hk1 hS => ?_)
  obtain ⟨q_5, rfl⟩ : ∃ z, z = u_3 := ⟨_, rfl⟩
  obtain ⟨hP1, hK1, hD1⟩ := hB
  rw [ht] at hP1
  obtain ⟨hP, hD⟩ := va_join (wr := [(pl, .inr (1, [.int 0, .ref dz, .int 0])), (kl, .inr (1, [.int 0, .ref dz, .int 0]))]) (w1 := [(mm, .inr (10, [.int 0, .ref pl, .ref ig, .ref sl, .ref kl, .int a0, .int 0, .int 0])), (sl, .inr (1, [.int 0, .ref dz, .int 0])), (r_4, .inl (q_5, 5, .inl zi))]) hP hD [0, 2] [1, 3] rfl rfl (by decide) (by decide) hk1 hFc hP1 hD1
  have hK := hK.app (va_K.moved hvm.symm hK1)
  have hK : va_K (dC, dI) vwCl [(q_5, .int)] s := hK
  generalize H1 = H at hP hS ⊢
  have hP : va_P (dC, dI) vwCl [(pl, .inr (1, [.int 0, .ref dz, .int 0])), (kl, .inr (1, [.int 0, .ref dz, .int 0])), (mm, .inr (10, [.int 0, .ref pl, .ref ig, .ref sl, .ref kl, .int a0, .int 0, .int 0])), (sl, .inr (1, [.int 0, .ref dz, .int 0])), (r_4, .inl (q_5, 5, .inl zi))] H := hP
  have hD : va_D A [(pl, .inr (1, [.int 0, .ref dz, .int 0])), (kl, .inr (1, [.int 0, .ref dz, .int 0])), (mm, .inr (10, [.int 0, .ref pl, .ref ig, .ref sl, .ref kl, .int a0, .int 0, .int 0])), (sl, .inr (1, [.int 0, .ref dz, .int 0])), (r_4, .inl (q_5, 5, .inl zi))] := hD
  refine W.widen (k := 1) (n := 5) (Nat.le_of_ble_eq_true rfl) (Nat.le_of_ble_eq_true rfl) ?_
  refine lv_astore_n (lv' := [(3, .ref r_4), (2, .int 0), (0, .ref mm), (1, .int a0)]) hx hb dX8_threshold_32 rfl hl (by decide) rfl (fun ls hl => ?_)
  refine lv_iconst (v := 0) hx hb dX8_threshold_33 (by decide) ?_
  refine lv_istore (lv' := [(4, .int 0), (3, .ref r_4), (2, .int 0), (0, .ref mm), (1, .int a0)]) hx hb dX8_threshold_34 hl (by decide) rfl (fun ls hl => ?_)
  refine lv_iload hx hb dX8_threshold_36 (lv_at hl 0 rfl) ?_
  refine lv_iconst (v := 4) hx hb dX8_threshold_38 (by decide) ?_
  refine lv_icmp_ge (tgt := 69) hx hb dX8_threshold_39 (by decide) (fun h9 => absurd h9 (by decide)) (fun _ => ?_)
  refine lv_iload_n hx hb dX8_threshold_42 rfl (lv_at hl 2 rfl) ?_
  refine lv_aload_n hx hb dX8_threshold_43 rfl (lv_at hl 3 rfl) ?_
  refine lv_aload_n hx hb dX8_threshold_44 rfl (lv_at hl 1 rfl) ?_
  refine lv_iload hx hb dX8_threshold_45 (lv_at hl 0 rfl) ?_
  have hPc := hP.sub (ws' := [(mm, .inr (10, [.int 0, .ref pl, .ref ig, .ref sl, .ref kl, .int a0, .int 0, .int 0])), (r_4, .inl (q_5, 5, .inl zi))]) [2, 4] rfl
  have hDc := hD.sub (ws' := [(mm, .inr (10, [.int 0, .ref pl, .ref ig, .ref sl, .ref kl, .int a0, .int 0, .int 0])), (r_4, .inl (q_5, 5, .inl zi))]) [2, 4] (by decide) rfl
  have hKc := hK.sub (tys' := [(q_5, .int)]) [0] rfl
  have hFc := va_free (wc := [(mm, .inr (10, [.int 0, .ref pl, .ref ig, .ref sl, .ref kl, .int a0, .int 0, .int 0])), (r_4, .inl (q_5, 5, .inl zi))]) hD hS hA [2, 4] rfl
  refine va_calli (va_runV (As := [.ref r_4, .int 0]) (rest := [.int 0]) ⟨hx, hb, hml, hown, hts⟩ (c_X8_isBarred l dC dI mm pl ig sl kl a0 (0 : Int32) r_4 q_5 (0 : Int32) _ (by unfold vp_in; decide)) (cwV 2 hts gX8_threshold_X8_isBarred rfl rfl rfl (by decide +kernel) ⟨Nat.le_of_ble_eq_true rfl, Nat.le_of_ble_eq_true rfl⟩) ⟨pr_blind, va_recv hKc hPc (ci := 10) (q0 := 0) rfl rfl, fun U hU hW => ⟨rfl, pr_mk hU hW hPc hKc hDc⟩⟩ rfl rfl hl.1 rfl (lv_room (Nat.le_of_ble_eq_true rfl)) dX8_threshold_47 ⟨Nat.le_of_ble_eq_true rfl, Nat.le_of_ble_eq_true rfl⟩) hS (fun q _ h => hFc q h) hFc (fun r_7 u_6 t H1 locs ht hvm hw hB hz1 hk1 hS => ?_)
  obtain ⟨hP1, hK1, hD1⟩ := hB
  rw [ht] at hP1
  obtain ⟨hP, hD⟩ := va_join (wr := [(pl, .inr (1, [.int 0, .ref dz, .int 0])), (kl, .inr (1, [.int 0, .ref dz, .int 0])), (sl, .inr (1, [.int 0, .ref dz, .int 0]))]) (w1 := [(mm, .inr (10, [.int 0, .ref pl, .ref ig, .ref sl, .ref kl, .int a0, .int 0, .int 0])), (r_4, .inl (q_5, 5, .inl zi))]) hP hD [2, 4] [0, 1, 3] rfl rfl (by decide) (by decide) hk1 hFc hP1 hD1
  generalize H1 = H at hP hS ⊢
  have hP : va_P (dC, dI) vwCl [(pl, .inr (1, [.int 0, .ref dz, .int 0])), (kl, .inr (1, [.int 0, .ref dz, .int 0])), (sl, .inr (1, [.int 0, .ref dz, .int 0])), (mm, .inr (10, [.int 0, .ref pl, .ref ig, .ref sl, .ref kl, .int a0, .int 0, .int 0])), (r_4, .inl (q_5, 5, .inl zi))] H := hP
  have hD : va_D A [(pl, .inr (1, [.int 0, .ref dz, .int 0])), (kl, .inr (1, [.int 0, .ref dz, .int 0])), (sl, .inr (1, [.int 0, .ref dz, .int 0])), (mm, .inr (10, [.int 0, .ref pl, .ref ig, .ref sl, .ref kl, .int a0, .int 0, .int 0])), (r_4, .inl (q_5, 5, .inl zi))] := hD
  refine W.widen (k := 1) (n := 5) (Nat.le_refl _) (Nat.le_refl _) ?_
  have hw : r_7 = 0 := hw
  subst hw
  refine lv_if_eq (tgt := 60) hx hb dX8_threshold_50 (by decide) (fun _ => ?_) (fun h9 => absurd h9 (by decide))
  refine lv_iconst (v := 0) hx hb dX8_threshold_60 (by decide) ?_
  refine lv_ior hx hb dX8_threshold_61 ?_
  refine lv_topi (fun y_8 ey_8 => ?_)
  obtain rfl : y_8 = 0 := ey_8.trans (by decide)
  refine lv_istore_n (lv' := [(2, .int 0), (4, .int 0), (3, .ref r_4), (0, .ref mm), (1, .int a0)]) hx hb dX8_threshold_62 rfl hl (by decide) rfl (fun ls hl => ?_)
  refine lv_iinc (k := 1) (v := 1) (lv' := [(4, .int 1), (2, .int 0), (3, .ref r_4), (0, .ref mm), (1, .int a0)]) hx hb dX8_threshold_63 hl rfl (by decide) (by decide) rfl (fun ls hl => ?_)
  refine lv_goto (tgt := 36) hx hb dX8_threshold_66 (by decide) ?_
  refine lv_iload hx hb dX8_threshold_36 (lv_at hl 0 rfl) ?_
  refine lv_iconst (v := 4) hx hb dX8_threshold_38 (by decide) ?_
  refine lv_icmp_ge (tgt := 69) hx hb dX8_threshold_39 (by decide) (fun h9 => absurd h9 (by decide)) (fun _ => ?_)
  refine lv_iload_n hx hb dX8_threshold_42 rfl (lv_at hl 1 rfl) ?_
  refine lv_aload_n hx hb dX8_threshold_43 rfl (lv_at hl 3 rfl) ?_
  refine lv_aload_n hx hb dX8_threshold_44 rfl (lv_at hl 2 rfl) ?_
  refine lv_iload hx hb dX8_threshold_45 (lv_at hl 0 rfl) ?_
  have hPc := hP.sub (ws' := [(mm, .inr (10, [.int 0, .ref pl, .ref ig, .ref sl, .ref kl, .int a0, .int 0, .int 0])), (r_4, .inl (q_5, 5, .inl zi))]) [3, 4] rfl
  have hDc := hD.sub (ws' := [(mm, .inr (10, [.int 0, .ref pl, .ref ig, .ref sl, .ref kl, .int a0, .int 0, .int 0])), (r_4, .inl (q_5, 5, .inl zi))]) [3, 4] (by decide) rfl
  have hKc := hK.sub (tys' := [(q_5, .int)]) [0] rfl
  have hFc := va_free (wc := [(mm, .inr (10, [.int 0, .ref pl, .ref ig, .ref sl, .ref kl, .int a0, .int 0, .int 0])), (r_4, .inl (q_5, 5, .inl zi))]) hD hS hA [3, 4] rfl
  refine va_calli (va_runV (As := [.ref r_4, .int 1]) (rest := [.int 0]) ⟨hx, hb, hml, hown, hts⟩ (c_X8_isBarred l dC dI mm pl ig sl kl a0 (0 : Int32) r_4 q_5 (1 : Int32) _ (by unfold vp_in; decide)) (cwV 2 hts gX8_threshold_X8_isBarred rfl rfl rfl (by decide +kernel) ⟨Nat.le_of_ble_eq_true rfl, Nat.le_of_ble_eq_true rfl⟩) ⟨pr_blind, va_recv hKc hPc (ci := 10) (q0 := 0) rfl rfl, fun U hU hW => ⟨rfl, pr_mk hU hW hPc hKc hDc⟩⟩ rfl rfl hl.1 rfl (lv_room (Nat.le_of_ble_eq_true rfl)) dX8_threshold_47 ⟨Nat.le_of_ble_eq_true rfl, Nat.le_of_ble_eq_true rfl⟩) hS (fun q _ h => hFc q h) hFc (fun r_10 u_9 t H1 locs ht hvm hw hB hz1 hk1 hS => ?_)
  obtain ⟨hP1, hK1, hD1⟩ := hB
  rw [ht] at hP1
  obtain ⟨hP, hD⟩ := va_join (wr := [(pl, .inr (1, [.int 0, .ref dz, .int 0])), (kl, .inr (1, [.int 0, .ref dz, .int 0])), (sl, .inr (1, [.int 0, .ref dz, .int 0]))]) (w1 := [(mm, .inr (10, [.int 0, .ref pl, .ref ig, .ref sl, .ref kl, .int a0, .int 0, .int 0])), (r_4, .inl (q_5, 5, .inl zi))]) hP hD [3, 4] [0, 1, 2] rfl rfl (by decide) (by decide) hk1 hFc hP1 hD1
  generalize H1 = H at hP hS ⊢
  have hP : va_P (dC, dI) vwCl [(pl, .inr (1, [.int 0, .ref dz, .int 0])), (kl, .inr (1, [.int 0, .ref dz, .int 0])), (sl, .inr (1, [.int 0, .ref dz, .int 0])), (mm, .inr (10, [.int 0, .ref pl, .ref ig, .ref sl, .ref kl, .int a0, .int 0, .int 0])), (r_4, .inl (q_5, 5, .inl zi))] H := hP
  have hD : va_D A [(pl, .inr (1, [.int 0, .ref dz, .int 0])), (kl, .inr (1, [.int 0, .ref dz, .int 0])), (sl, .inr (1, [.int 0, .ref dz, .int 0])), (mm, .inr (10, [.int 0, .ref pl, .ref ig, .ref sl, .ref kl, .int a0, .int 0, .int 0])), (r_4, .inl (q_5, 5, .inl zi))] := hD
  refine W.widen (k := 1) (n := 5) (Nat.le_refl _) (Nat.le_refl _) ?_
  have hw : r_10 = 0 := hw
  subst hw
  refine lv_if_eq (tgt := 60) hx hb dX8_threshold_50 (by decide) (fun _ => ?_) (fun h9 => absurd h9 (by decide))
  refine lv_iconst (v := 0) hx hb dX8_threshold_60 (by decide) ?_
  refine lv_ior hx hb dX8_threshold_61 ?_
  refine lv_topi (fun y_11 ey_11 => ?_)
  obtain rfl : y_11 = 0 := ey_11.trans (by decide)
  refine lv_istore_n (lv' := [(2, .int 0), (4, .int 1), (3, .ref r_4), (0, .ref mm), (1, .int a0)]) hx hb dX8_threshold_62 rfl hl (by decide) rfl (fun ls hl => ?_)
  refine lv_iinc (k := 1) (v := 2) (lv' := [(4, .int 2), (2, .int 0), (3, .ref r_4), (0, .ref mm), (1, .int a0)]) hx hb dX8_threshold_63 hl rfl (by decide) (by decide) rfl (fun ls hl => ?_)
  refine lv_goto (tgt := 36) hx hb dX8_threshold_66 (by decide) ?_
  refine lv_iload hx hb dX8_threshold_36 (lv_at hl 0 rfl) ?_
  refine lv_iconst (v := 4) hx hb dX8_threshold_38 (by decide) ?_
  refine lv_icmp_ge (tgt := 69) hx hb dX8_threshold_39 (by decide) (fun h9 => absurd h9 (by decide)) (fun _ => ?_)
  refine lv_iload_n hx hb dX8_threshold_42 rfl (lv_at hl 1 rfl) ?_
  refine lv_aload_n hx hb dX8_threshold_43 rfl (lv_at hl 3 rfl) ?_
  refine lv_aload_n hx hb dX8_threshold_44 rfl (lv_at hl 2 rfl) ?_
  refine lv_iload hx hb dX8_threshold_45 (lv_at hl 0 rfl) ?_
  have hPc := hP.sub (ws' := [(mm, .inr (10, [.int 0, .ref pl, .ref ig, .ref sl, .ref kl, .int a0, .int 0, .int 0])), (r_4, .inl (q_5, 5, .inl zi))]) [3, 4] rfl
  have hDc := hD.sub (ws' := [(mm, .inr (10, [.int 0, .ref pl, .ref ig, .ref sl, .ref kl, .int a0, .int 0, .int 0])), (r_4, .inl (q_5, 5, .inl zi))]) [3, 4] (by decide) rfl
  have hKc := hK.sub (tys' := [(q_5, .int)]) [0] rfl
  have hFc := va_free (wc := [(mm, .inr (10, [.int 0, .ref pl, .ref ig, .ref sl, .ref kl, .int a0, .int 0, .int 0])), (r_4, .inl (q_5, 5, .inl zi))]) hD hS hA [3, 4] rfl
  refine va_calli (va_runV (As := [.ref r_4, .int 2]) (rest := [.int 0]) ⟨hx, hb, hml, hown, hts⟩ (c_X8_isBarred l dC dI mm pl ig sl kl a0 (0 : Int32) r_4 q_5 (2 : Int32) _ (by unfold vp_in; decide)) (cwV 2 hts gX8_threshold_X8_isBarred rfl rfl rfl (by decide +kernel) ⟨Nat.le_of_ble_eq_true rfl, Nat.le_of_ble_eq_true rfl⟩) ⟨pr_blind, va_recv hKc hPc (ci := 10) (q0 := 0) rfl rfl, fun U hU hW => ⟨rfl, pr_mk hU hW hPc hKc hDc⟩⟩ rfl rfl hl.1 rfl (lv_room (Nat.le_of_ble_eq_true rfl)) dX8_threshold_47 ⟨Nat.le_of_ble_eq_true rfl, Nat.le_of_ble_eq_true rfl⟩) hS (fun q _ h => hFc q h) hFc (fun r_13 u_12 t H1 locs ht hvm hw hB hz1 hk1 hS => ?_)
  obtain ⟨hP1, hK1, hD1⟩ := hB
  rw [ht] at hP1
  obtain ⟨hP, hD⟩ := va_join (wr := [(pl, .inr (1, [.int 0, .ref dz, .int 0])), (kl, .inr (1, [.int 0, .ref dz, .int 0])), (sl, .inr (1, [.int 0, .ref dz, .int 0]))]) (w1 := [(mm, .inr (10, [.int 0, .ref pl, .ref ig, .ref sl, .ref kl, .int a0, .int 0, .int 0])), (r_4, .inl (q_5, 5, .inl zi))]) hP hD [3, 4] [0, 1, 2] rfl rfl (by decide) (by decide) hk1 hFc hP1 hD1
  generalize H1 = H at hP hS ⊢
  have hP : va_P (dC, dI) vwCl [(pl, .inr (1, [.int 0, .ref dz, .int 0])), (kl, .inr (1, [.int 0, .ref dz, .int 0])), (sl, .inr (1, [.int 0, .ref dz, .int 0])), (mm, .inr (10, [.int 0, .ref pl, .ref ig, .ref sl, .ref kl, .int a0, .int 0, .int 0])), (r_4, .inl (q_5, 5, .inl zi))] H := hP
  have hD : va_D A [(pl, .inr (1, [.int 0, .ref dz, .int 0])), (kl, .inr (1, [.int 0, .ref dz, .int 0])), (sl, .inr (1, [.int 0, .ref dz, .int 0])), (mm, .inr (10, [.int 0, .ref pl, .ref ig, .ref sl, .ref kl, .int a0, .int 0, .int 0])), (r_4, .inl (q_5, 5, .inl zi))] := hD
  refine W.widen (k := 1) (n := 5) (Nat.le_refl _) (Nat.le_refl _) ?_
  have hw : r_13 = 0 := hw
  subst hw
  refine lv_if_eq (tgt := 60) hx hb dX8_threshold_50 (by decide) (fun _ => ?_) (fun h9 => absurd h9 (by decide))
  refine lv_iconst (v := 0) hx hb dX8_threshold_60 (by decide) ?_
  refine lv_ior hx hb dX8_threshold_61 ?_
  refine lv_topi (fun y_14 ey_14 => ?_)
  obtain rfl : y_14 = 0 := ey_14.trans (by decide)
  refine lv_istore_n (lv' := [(2, .int 0), (4, .int 2), (3, .ref r_4), (0, .ref mm), (1, .int a0)]) hx hb dX8_threshold_62 rfl hl (by decide) rfl (fun ls hl => ?_)
  refine lv_iinc (k := 1) (v := 3) (lv' := [(4, .int 3), (2, .int 0), (3, .ref r_4), (0, .ref mm), (1, .int a0)]) hx hb dX8_threshold_63 hl rfl (by decide) (by decide) rfl (fun ls hl => ?_)
  refine lv_goto (tgt := 36) hx hb dX8_threshold_66 (by decide) ?_
  refine lv_iload hx hb dX8_threshold_36 (lv_at hl 0 rfl) ?_
  refine lv_iconst (v := 4) hx hb dX8_threshold_38 (by decide) ?_
  refine lv_icmp_ge (tgt := 69) hx hb dX8_threshold_39 (by decide) (fun h9 => absurd h9 (by decide)) (fun _ => ?_)
  refine lv_iload_n hx hb dX8_threshold_42 rfl (lv_at hl 1 rfl) ?_
  refine lv_aload_n hx hb dX8_threshold_43 rfl (lv_at hl 3 rfl) ?_
  refine lv_aload_n hx hb dX8_threshold_44 rfl (lv_at hl 2 rfl) ?_
  refine lv_iload hx hb dX8_threshold_45 (lv_at hl 0 rfl) ?_
  have hPc := hP.sub (ws' := [(mm, .inr (10, [.int 0, .ref pl, .ref ig, .ref sl, .ref kl, .int a0, .int 0, .int 0])), (r_4, .inl (q_5, 5, .inl zi))]) [3, 4] rfl
  have hDc := hD.sub (ws' := [(mm, .inr (10, [.int 0, .ref pl, .ref ig, .ref sl, .ref kl, .int a0, .int 0, .int 0])), (r_4, .inl (q_5, 5, .inl zi))]) [3, 4] (by decide) rfl
  have hKc := hK.sub (tys' := [(q_5, .int)]) [0] rfl
  have hFc := va_free (wc := [(mm, .inr (10, [.int 0, .ref pl, .ref ig, .ref sl, .ref kl, .int a0, .int 0, .int 0])), (r_4, .inl (q_5, 5, .inl zi))]) hD hS hA [3, 4] rfl
  refine va_calli (va_runV (As := [.ref r_4, .int 3]) (rest := [.int 0]) ⟨hx, hb, hml, hown, hts⟩ (c_X8_isBarred l dC dI mm pl ig sl kl a0 (0 : Int32) r_4 q_5 (3 : Int32) _ (by unfold vp_in; decide)) (cwV 2 hts gX8_threshold_X8_isBarred rfl rfl rfl (by decide +kernel) ⟨Nat.le_of_ble_eq_true rfl, Nat.le_of_ble_eq_true rfl⟩) ⟨pr_blind, va_recv hKc hPc (ci := 10) (q0 := 0) rfl rfl, fun U hU hW => ⟨rfl, pr_mk hU hW hPc hKc hDc⟩⟩ rfl rfl hl.1 rfl (lv_room (Nat.le_of_ble_eq_true rfl)) dX8_threshold_47 ⟨Nat.le_of_ble_eq_true rfl, Nat.le_of_ble_eq_true rfl⟩) hS (fun q _ h => hFc q h) hFc (fun r_16 u_15 t H1 locs ht hvm hw hB hz1 hk1 hS => ?_)
  obtain ⟨hP1, hK1, hD1⟩ := hB
  rw [ht] at hP1
  obtain ⟨hP, hD⟩ := va_join (wr := [(pl, .inr (1, [.int 0, .ref dz, .int 0])), (kl, .inr (1, [.int 0, .ref dz, .int 0])), (sl, .inr (1, [.int 0, .ref dz, .int 0]))]) (w1 := [(mm, .inr (10, [.int 0, .ref pl, .ref ig, .ref sl, .ref kl, .int a0, .int 0, .int 0])), (r_4, .inl (q_5, 5, .inl zi))]) hP hD [3, 4] [0, 1, 2] rfl rfl (by decide) (by decide) hk1 hFc hP1 hD1
  generalize H1 = H at hP hS ⊢
  have hP : va_P (dC, dI) vwCl [(pl, .inr (1, [.int 0, .ref dz, .int 0])), (kl, .inr (1, [.int 0, .ref dz, .int 0])), (sl, .inr (1, [.int 0, .ref dz, .int 0])), (mm, .inr (10, [.int 0, .ref pl, .ref ig, .ref sl, .ref kl, .int a0, .int 0, .int 0])), (r_4, .inl (q_5, 5, .inl zi))] H := hP
  have hD : va_D A [(pl, .inr (1, [.int 0, .ref dz, .int 0])), (kl, .inr (1, [.int 0, .ref dz, .int 0])), (sl, .inr (1, [.int 0, .ref dz, .int 0])), (mm, .inr (10, [.int 0, .ref pl, .ref ig, .ref sl, .ref kl, .int a0, .int 0, .int 0])), (r_4, .inl (q_5, 5, .inl zi))] := hD
  refine W.widen (k := 1) (n := 5) (Nat.le_refl _) (Nat.le_refl _) ?_
  have hw : r_16 = 0 := hw
  subst hw
  refine lv_if_eq (tgt := 60) hx hb dX8_threshold_50 (by decide) (fun _ => ?_) (fun h9 => absurd h9 (by decide))
  refine lv_iconst (v := 0) hx hb dX8_threshold_60 (by decide) ?_
  refine lv_ior hx hb dX8_threshold_61 ?_
  refine lv_topi (fun y_17 ey_17 => ?_)
  obtain rfl : y_17 = 0 := ey_17.trans (by decide)
  refine lv_istore_n (lv' := [(2, .int 0), (4, .int 3), (3, .ref r_4), (0, .ref mm), (1, .int a0)]) hx hb dX8_threshold_62 rfl hl (by decide) rfl (fun ls hl => ?_)
  refine lv_iinc (k := 1) (v := 4) (lv' := [(4, .int 4), (2, .int 0), (3, .ref r_4), (0, .ref mm), (1, .int a0)]) hx hb dX8_threshold_63 hl rfl (by decide) (by decide) rfl (fun ls hl => ?_)
  refine lv_goto (tgt := 36) hx hb dX8_threshold_66 (by decide) ?_
  refine lv_iload hx hb dX8_threshold_36 (lv_at hl 0 rfl) ?_
  refine lv_iconst (v := 4) hx hb dX8_threshold_38 (by decide) ?_
  refine lv_icmp_ge (tgt := 69) hx hb dX8_threshold_39 (by decide) (fun _ => ?_) (fun h9 => absurd h9 (by decide))
  refine lv_iload_n hx hb dX8_threshold_69 rfl (lv_at hl 1 rfl) ?_
  have hP9 := hP.sub (ws' := [(mm, .inr (10, [.int 0, .ref pl, .ref ig, .ref sl, .ref kl, .int a0, .int 0, .int 0]))]) [3] rfl
  have hD9 := hD.sub (ws' := [(mm, .inr (10, [.int 0, .ref pl, .ref ig, .ref sl, .ref kl, .int a0, .int 0, .int 0]))]) [3] (by decide) rfl
  have hK9 := hK.sub (tys' := []) [] rfl
  refine W.widen (k := 1) (n := 5) (Nat.le_of_ble_eq_true rfl) (Nat.le_of_ble_eq_true rfl) ?_
  exact W.iret (v := 0) hx hb hr (fun t ht hW => ⟨⟨0, (), rfl, rfl, po_mk ht hW hP9 hK9 hD9⟩, hS.F ht⟩) hS.2.2 dX8_threshold_70

set_option maxHeartbeats 4000000 in
set_option maxRecDepth 100000 in
theorem c0_X8_ofParty (l : Launch) (dC : Nat → ClassId) (dI : Nat → Nat → Nat) (mm : Nat) (pl : Nat) (ig : Nat) (sl : Nat) (kl : Nat) (dz : Nat) (a0 : Int32) (a1 : Int32) (sz : Nat) (hbd : a0 < 0 ∨ 3 < a0) : Met l yX8_ofParty wsX8_ofParty ({ frames := 5, cells := 0, slots := 0, locals := 140 }) (va_Pc [.ref mm, .int a0, .int a1] (fun U => pr_ dC dI [(mm, .inr (10, [.int 0, .ref pl, .ref ig, .ref sl, .ref kl, .int 0, .int 0, .int 0])), (pl, .inr (1, [.int 0, .ref dz, .int 0])), (sl, .inr (1, [.int 0, .ref dz, .int 0])), (kl, .inr (1, [.int 0, .ref dz, .int 0]))] [] sz U ∧ mo_  U)) (va_Qi (fun (r : Int32) (_ : Unit) => r = 0) (fun (_ : Unit) t => po_ dC dI [(mm, .inr (10, [.int 1, .ref pl, .ref ig, .ref sl, .ref kl, .int 0, .int 0, .int 0]))] [] (va_A [(mm, .inr (10, [.int 0, .ref pl, .ref ig, .ref sl, .ref kl, .int 0, .int 0, .int 0])), (pl, .inr (1, [.int 0, .ref dz, .int 0])), (sl, .inr (1, [.int 0, .ref dz, .int 0])), (kl, .inr (1, [.int 0, .ref dz, .int 0]))] sz) t) (va_A [(mm, .inr (10, [.int 0, .ref pl, .ref ig, .ref sl, .ref kl, .int 0, .int 0, .int 0])), (pl, .inr (1, [.int 0, .ref dz, .int 0])), (sl, .inr (1, [.int 0, .ref dz, .int 0])), (kl, .inr (1, [.int 0, .ref dz, .int 0]))] sz)) 0 0 (va_A [(mm, .inr (10, [.int 0, .ref pl, .ref ig, .ref sl, .ref kl, .int 0, .int 0, .int 0])), (pl, .inr (1, [.int 0, .ref dz, .int 0])), (sl, .inr (1, [.int 0, .ref dz, .int 0])), (kl, .inr (1, [.int 0, .ref dz, .int 0]))] sz) := by
  refine Met.ofW (cc := cX8_ofParty) (maxL := 3) (ret := (some .int)) (by decide) rfl ?_
  intro p e s m args below meth c s₁ B hml hv
  obtain ⟨rfl, ⟨hsz, hP, hK, hD0⟩, hXs⟩ := hv
  have hx := B.exec
  have hb := B.bytes
  have hr := B.returns
  have hts := atoms_spec (ws := wsX8_ofParty) B.pre
  have hown : s.vm.findClass RX8 = some m.cls := findClass_of_methodNamed B.named
  have hlocks := B.notSynchronized
  subst hsz
  have hD := hD0.self (sz := s.heap.size)
  generalize hAe : va_A [(mm, .inr (10, [.int 0, .ref pl, .ref ig, .ref sl, .ref kl, .int 0, .int 0, .int 0])), (pl, .inr (1, [.int 0, .ref dz, .int 0])), (sl, .inr (1, [.int 0, .ref dz, .int 0])), (kl, .inr (1, [.int 0, .ref dz, .int 0]))] s.heap.size = A at hD ⊢
  have hA : ∀ q : Nat, s.heap.size ≤ q → A q := fun q h => by rw [← hAe]; exact Or.inr h
  have hS : va_S A s.heap s.heap [] := va_S.rf
  have hP : va_P (dC, dI) vwCl [(mm, .inr (10, [.int 0, .ref pl, .ref ig, .ref sl, .ref kl, .int 0, .int 0, .int 0])), (pl, .inr (1, [.int 0, .ref dz, .int 0])), (sl, .inr (1, [.int 0, .ref dz, .int 0])), (kl, .inr (1, [.int 0, .ref dz, .int 0]))] s.heap := hP
  have hK : va_K (dC, dI) vwCl [] s := hK
  have hl := lv_entry ([.ref mm, .int a0, .int a1]) (n := 3) (Nat.le_of_ble_eq_true rfl)
  rw [lg_entry_eq]
  generalize (lg_sl ([.ref mm, .int a0, .int a1]) ++ List.replicate (3 - (lg_sl ([.ref mm, .int a0, .int a1])).length) Slot.unset).toArray = ls at hl ⊢
  have hl : lv_has ls 3 [(0, .ref mm), (1, .int a0), (2, .int a1)] := hl
  refine lv_aload_n hx hb dX8_ofParty_0 rfl (lv_at hl 0 rfl) ?_
  refine lv_iconst (v := 0) hx hb dX8_ofParty_1 (by decide) ?_
  have hinX8 : ∀ w ∈ u_ws RX8 TX8 8, w ∈ wsX8_ofParty := by decide +kernel
  refine va_put (D := (dC, dI)) (ci := 10) (v := .int 0) (ty := .int) (C := RX8) (T := TX8) (N := 8) hx hb hts hinX8 tyX8 tyX8_ok nmX8 hown hK hP hD hS 0 rfl rfl 0 (by decide) (hts (.fieldLink RX8 26 "BallotLoomModel" "thrown" "I") (by decide +kernel)) (fun _ h9 => h9) rfl (by decide +kernel) rfl rfl (Nat.le_of_ble_eq_true rfl) dX8_ofParty_2 (fun H locs hP hD hS => ?_)
  have hP : va_P (dC, dI) vwCl [(mm, .inr (10, [.int 0, .ref pl, .ref ig, .ref sl, .ref kl, .int 0, .int 0, .int 0])), (pl, .inr (1, [.int 0, .ref dz, .int 0])), (sl, .inr (1, [.int 0, .ref dz, .int 0])), (kl, .inr (1, [.int 0, .ref dz, .int 0]))] H := hP
  have hD : va_D A [(mm, .inr (10, [.int 0, .ref pl, .ref ig, .ref sl, .ref kl, .int 0, .int 0, .int 0])), (pl, .inr (1, [.int 0, .ref dz, .int 0])), (sl, .inr (1, [.int 0, .ref dz, .int 0])), (kl, .inr (1, [.int 0, .ref dz, .int 0]))] := hD
  refine lv_iload_n hx hb dX8_ofParty_5 rfl (lv_at hl 1 rfl) ?_
  refine lv_iconst (v := 0) hx hb dX8_ofParty_6 (by decide) ?_
  refine lv_iconst (v := 3) hx hb dX8_ofParty_7 (by decide) ?_
  have hPc := hP.sub (ws' := []) [] rfl
  have hDc := hD.sub (ws' := []) [] (by decide) rfl
  have hKc := hK.sub (tys' := []) [] rfl
  have hFc := va_free (wc := []) hD hS hA [] rfl
  refine va_calli (va_runS (As := [.int a0, .int 0, .int 3]) (rest := []) ⟨hx, hb, hml, hown, hts⟩ (c0_X8_in l dC dI a0 (0 : Int32) (3 : Int32) _ hbd) (va_cwS 3 hts gX8_ofParty_X8_in rfl rfl rfl (by decide +kernel) ⟨Nat.le_of_ble_eq_true rfl, Nat.le_of_ble_eq_true rfl⟩) ⟨pr_blind, fun U hU hW => ⟨rfl, pr_mk hU hW hPc hKc hDc⟩⟩ rfl rfl hl.1 rfl (lv_room (Nat.le_of_ble_eq_true rfl)) dX8_ofParty_8 ⟨Nat.le_of_ble_eq_true rfl, Nat.le_of_ble_eq_true rfl⟩) hS (fun q _ h => hFc q h) hFc (fun r_2 u_1 t H1 locs ht hvm hw hB hz1 hk1 hS => ?_)
  obtain ⟨hP1, hK1, hD1⟩ := hB
  rw [ht] at hP1
  obtain ⟨hP, hD⟩ := va_join (wr := [(mm, .inr (10, [.int 0, .ref pl, .ref ig, .ref sl, .ref kl, .int 0, .int 0, .int 0])), (pl, .inr (1, [.int 0, .ref dz, .int 0])), (sl, .inr (1, [.int 0, .ref dz, .int 0])), (kl, .inr (1, [.int 0, .ref dz, .int 0]))]) (w1 := []) hP hD [] [0, 1, 2, 3] rfl rfl (by decide) (by decide) hk1 hFc hP1 hD1
  generalize H1 = H at hP hS ⊢
  have hP : va_P (dC, dI) vwCl [(mm, .inr (10, [.int 0, .ref pl, .ref ig, .ref sl, .ref kl, .int 0, .int 0, .int 0])), (pl, .inr (1, [.int 0, .ref dz, .int 0])), (sl, .inr (1, [.int 0, .ref dz, .int 0])), (kl, .inr (1, [.int 0, .ref dz, .int 0]))] H := hP
  have hD : va_D A [(mm, .inr (10, [.int 0, .ref pl, .ref ig, .ref sl, .ref kl, .int 0, .int 0, .int 0])), (pl, .inr (1, [.int 0, .ref dz, .int 0])), (sl, .inr (1, [.int 0, .ref dz, .int 0])), (kl, .inr (1, [.int 0, .ref dz, .int 0]))] := hD
  refine W.widen (k := 0) (n := 0) (Nat.le_refl _) (Nat.le_refl _) ?_
  have hw : r_2 = 0 := hw
  subst hw
  refine lv_if_ne (tgt := 20) hx hb dX8_ofParty_11 (by decide) (fun h9 => absurd h9 (by decide)) (fun _ => ?_)
  refine lv_aload_n hx hb dX8_ofParty_14 rfl (lv_at hl 0 rfl) ?_
  refine lv_iconst (v := 1) hx hb dX8_ofParty_15 (by decide) ?_
  have hPc := hP.sub (ws' := [(mm, .inr (10, [.int 0, .ref pl, .ref ig, .ref sl, .ref kl, .int 0, .int 0, .int 0]))]) [0] rfl
  have hDc := hD.sub (ws' := [(mm, .inr (10, [.int 0, .ref pl, .ref ig, .ref sl, .ref kl, .int 0, .int 0, .int 0]))]) [0] (by decide) rfl
  have hKc := hK.sub (tys' := []) [] rfl
  have hFc := va_free (wc := [(mm, .inr (10, [.int 0, .ref pl, .ref ig, .ref sl, .ref kl, .int 0, .int 0, .int 0]))]) hD hS hA [0] rfl
  refine va_calli (va_runV (As := [.int 1]) (rest := []) ⟨hx, hb, hml, hown, hts⟩ (c_X8_no l dC dI mm pl ig sl kl (1 : Int32) (0 : Int32) _ ) (cwV 1 hts gX8_ofParty_X8_no rfl rfl rfl (by decide +kernel) ⟨Nat.le_of_ble_eq_true rfl, Nat.le_of_ble_eq_true rfl⟩) ⟨pr_blind, va_recv hKc hPc (ci := 10) (q0 := 0) rfl rfl, fun U hU hW => ⟨rfl, pr_mk hU hW hPc hKc hDc⟩⟩ rfl rfl hl.1 rfl (lv_room (Nat.le_of_ble_eq_true rfl)) dX8_ofParty_16 ⟨Nat.le_of_ble_eq_true rfl, Nat.le_of_ble_eq_true rfl⟩) hS (fun q _ h => hFc q h) hFc (fun r_4 u_3 t H1 locs ht hvm hw hB hz1 hk1 hS => ?_)
  obtain ⟨hP1, hK1, hD1⟩ := hB
  rw [ht] at hP1
  obtain ⟨hP, hD⟩ := va_join (wr := [(pl, .inr (1, [.int 0, .ref dz, .int 0])), (sl, .inr (1, [.int 0, .ref dz, .int 0])), (kl, .inr (1, [.int 0, .ref dz, .int 0]))]) (w1 := [(mm, .inr (10, [.int 1, .ref pl, .ref ig, .ref sl, .ref kl, .int 0, .int 0, .int 0]))]) hP hD [0] [1, 2, 3] rfl rfl (by decide) (by decide) hk1 hFc hP1 hD1
  generalize H1 = H at hP hS ⊢
  have hP : va_P (dC, dI) vwCl [(pl, .inr (1, [.int 0, .ref dz, .int 0])), (sl, .inr (1, [.int 0, .ref dz, .int 0])), (kl, .inr (1, [.int 0, .ref dz, .int 0])), (mm, .inr (10, [.int 1, .ref pl, .ref ig, .ref sl, .ref kl, .int 0, .int 0, .int 0]))] H := hP
  have hD : va_D A [(pl, .inr (1, [.int 0, .ref dz, .int 0])), (sl, .inr (1, [.int 0, .ref dz, .int 0])), (kl, .inr (1, [.int 0, .ref dz, .int 0])), (mm, .inr (10, [.int 1, .ref pl, .ref ig, .ref sl, .ref kl, .int 0, .int 0, .int 0]))] := hD
  refine W.widen (k := 0) (n := 0) (Nat.le_refl _) (Nat.le_refl _) ?_
  have hw : r_4 = 0 := hw
  subst hw
  have hP9 := hP.sub (ws' := [(mm, .inr (10, [.int 1, .ref pl, .ref ig, .ref sl, .ref kl, .int 0, .int 0, .int 0]))]) [3] rfl
  have hD9 := hD.sub (ws' := [(mm, .inr (10, [.int 1, .ref pl, .ref ig, .ref sl, .ref kl, .int 0, .int 0, .int 0]))]) [3] (by decide) rfl
  have hK9 := hK.sub (tys' := []) [] rfl
  refine W.widen (k := 0) (n := 0) (Nat.le_of_ble_eq_true rfl) (Nat.le_of_ble_eq_true rfl) ?_
  exact W.iret (v := 0) hx hb hr (fun t ht hW => ⟨⟨0, (), rfl, rfl, po_mk ht hW hP9 hK9 hD9⟩, hS.F ht⟩) hS.2.2 dX8_ofParty_19

set_option maxHeartbeats 4000000 in
set_option maxRecDepth 100000 in
theorem c1_X8_ofParty (l : Launch) (dC : Nat → ClassId) (dI : Nat → Nat → Nat) (mm : Nat) (pl : Nat) (ig : Nat) (sl : Nat) (kl : Nat) (dz : Nat) (a0 : Int32) (a1 : Int32) (sz : Nat) (g0a : ¬ a0 < 0) (g0b : ¬ 3 < a0) (hbd : a1 < 0 ∨ 4 < a1) : Met l yX8_ofParty wsX8_ofParty ({ frames := 5, cells := 0, slots := 0, locals := 140 }) (va_Pc [.ref mm, .int a0, .int a1] (fun U => pr_ dC dI [(mm, .inr (10, [.int 0, .ref pl, .ref ig, .ref sl, .ref kl, .int 0, .int 0, .int 0])), (pl, .inr (1, [.int 0, .ref dz, .int 0])), (sl, .inr (1, [.int 0, .ref dz, .int 0])), (kl, .inr (1, [.int 0, .ref dz, .int 0]))] [] sz U ∧ mo_  U)) (va_Qi (fun (r : Int32) (_ : Unit) => r = 0) (fun (_ : Unit) t => po_ dC dI [(mm, .inr (10, [.int 2, .ref pl, .ref ig, .ref sl, .ref kl, .int 0, .int 0, .int 0]))] [] (va_A [(mm, .inr (10, [.int 0, .ref pl, .ref ig, .ref sl, .ref kl, .int 0, .int 0, .int 0])), (pl, .inr (1, [.int 0, .ref dz, .int 0])), (sl, .inr (1, [.int 0, .ref dz, .int 0])), (kl, .inr (1, [.int 0, .ref dz, .int 0]))] sz) t) (va_A [(mm, .inr (10, [.int 0, .ref pl, .ref ig, .ref sl, .ref kl, .int 0, .int 0, .int 0])), (pl, .inr (1, [.int 0, .ref dz, .int 0])), (sl, .inr (1, [.int 0, .ref dz, .int 0])), (kl, .inr (1, [.int 0, .ref dz, .int 0]))] sz)) 0 0 (va_A [(mm, .inr (10, [.int 0, .ref pl, .ref ig, .ref sl, .ref kl, .int 0, .int 0, .int 0])), (pl, .inr (1, [.int 0, .ref dz, .int 0])), (sl, .inr (1, [.int 0, .ref dz, .int 0])), (kl, .inr (1, [.int 0, .ref dz, .int 0]))] sz) := by
  refine Met.ofW (cc := cX8_ofParty) (maxL := 3) (ret := (some .int)) (by decide) rfl ?_
  intro p e s m args below meth c s₁ B hml hv
  obtain ⟨rfl, ⟨hsz, hP, hK, hD0⟩, hXs⟩ := hv
  have hx := B.exec
  have hb := B.bytes
  have hr := B.returns
  have hts := atoms_spec (ws := wsX8_ofParty) B.pre
  have hown : s.vm.findClass RX8 = some m.cls := findClass_of_methodNamed B.named
  have hlocks := B.notSynchronized
  subst hsz
  have hD := hD0.self (sz := s.heap.size)
  generalize hAe : va_A [(mm, .inr (10, [.int 0, .ref pl, .ref ig, .ref sl, .ref kl, .int 0, .int 0, .int 0])), (pl, .inr (1, [.int 0, .ref dz, .int 0])), (sl, .inr (1, [.int 0, .ref dz, .int 0])), (kl, .inr (1, [.int 0, .ref dz, .int 0]))] s.heap.size = A at hD ⊢
  have hA : ∀ q : Nat, s.heap.size ≤ q → A q := fun q h => by rw [← hAe]; exact Or.inr h
  have hS : va_S A s.heap s.heap [] := va_S.rf
  have hP : va_P (dC, dI) vwCl [(mm, .inr (10, [.int 0, .ref pl, .ref ig, .ref sl, .ref kl, .int 0, .int 0, .int 0])), (pl, .inr (1, [.int 0, .ref dz, .int 0])), (sl, .inr (1, [.int 0, .ref dz, .int 0])), (kl, .inr (1, [.int 0, .ref dz, .int 0]))] s.heap := hP
  have hK : va_K (dC, dI) vwCl [] s := hK
  have hl := lv_entry ([.ref mm, .int a0, .int a1]) (n := 3) (Nat.le_of_ble_eq_true rfl)
  rw [lg_entry_eq]
  generalize (lg_sl ([.ref mm, .int a0, .int a1]) ++ List.replicate (3 - (lg_sl ([.ref mm, .int a0, .int a1])).length) Slot.unset).toArray = ls at hl ⊢
  have hl : lv_has ls 3 [(0, .ref mm), (1, .int a0), (2, .int a1)] := hl
  refine lv_aload_n hx hb dX8_ofParty_0 rfl (lv_at hl 0 rfl) ?_
  refine lv_iconst (v := 0) hx hb dX8_ofParty_1 (by decide) ?_
  have hinX8 : ∀ w ∈ u_ws RX8 TX8 8, w ∈ wsX8_ofParty := by decide +kernel
  refine va_put (D := (dC, dI)) (ci := 10) (v := .int 0) (ty := .int) (C := RX8) (T := TX8) (N := 8) hx hb hts hinX8 tyX8 tyX8_ok nmX8 hown hK hP hD hS 0 rfl rfl 0 (by decide) (hts (.fieldLink RX8 26 "BallotLoomModel" "thrown" "I") (by decide +kernel)) (fun _ h9 => h9) rfl (by decide +kernel) rfl rfl (Nat.le_of_ble_eq_true rfl) dX8_ofParty_2 (fun H locs hP hD hS => ?_)
  have hP : va_P (dC, dI) vwCl [(mm, .inr (10, [.int 0, .ref pl, .ref ig, .ref sl, .ref kl, .int 0, .int 0, .int 0])), (pl, .inr (1, [.int 0, .ref dz, .int 0])), (sl, .inr (1, [.int 0, .ref dz, .int 0])), (kl, .inr (1, [.int 0, .ref dz, .int 0]))] H := hP
  have hD : va_D A [(mm, .inr (10, [.int 0, .ref pl, .ref ig, .ref sl, .ref kl, .int 0, .int 0, .int 0])), (pl, .inr (1, [.int 0, .ref dz, .int 0])), (sl, .inr (1, [.int 0, .ref dz, .int 0])), (kl, .inr (1, [.int 0, .ref dz, .int 0]))] := hD
  refine lv_iload_n hx hb dX8_ofParty_5 rfl (lv_at hl 1 rfl) ?_
  refine lv_iconst (v := 0) hx hb dX8_ofParty_6 (by decide) ?_
  refine lv_iconst (v := 3) hx hb dX8_ofParty_7 (by decide) ?_
  have hPc := hP.sub (ws' := []) [] rfl
  have hDc := hD.sub (ws' := []) [] (by decide) rfl
  have hKc := hK.sub (tys' := []) [] rfl
  have hFc := va_free (wc := []) hD hS hA [] rfl
  refine va_calli (va_runS (As := [.int a0, .int 0, .int 3]) (rest := []) ⟨hx, hb, hml, hown, hts⟩ (c_X8_in l dC dI a0 (0 : Int32) (3 : Int32) _ g0a g0b) (va_cwS 3 hts gX8_ofParty_X8_in rfl rfl rfl (by decide +kernel) ⟨Nat.le_of_ble_eq_true rfl, Nat.le_of_ble_eq_true rfl⟩) ⟨pr_blind, fun U hU hW => ⟨rfl, pr_mk hU hW hPc hKc hDc⟩⟩ rfl rfl hl.1 rfl (lv_room (Nat.le_of_ble_eq_true rfl)) dX8_ofParty_8 ⟨Nat.le_of_ble_eq_true rfl, Nat.le_of_ble_eq_true rfl⟩) hS (fun q _ h => hFc q h) hFc (fun r_2 u_1 t H1 locs ht hvm hw hB hz1 hk1 hS => ?_)
  obtain ⟨hP1, hK1, hD1⟩ := hB
  rw [ht] at hP1
  obtain ⟨hP, hD⟩ := va_join (wr := [(mm, .inr (10, [.int 0, .ref pl, .ref ig, .ref sl, .ref kl, .int 0, .int 0, .int 0])), (pl, .inr (1, [.int 0, .ref dz, .int 0])), (sl, .inr (1, [.int 0, .ref dz, .int 0])), (kl, .inr (1, [.int 0, .ref dz, .int 0]))]) (w1 := []) hP hD [] [0, 1, 2, 3] rfl rfl (by decide) (by decide) hk1 hFc hP1 hD1
  generalize H1 = H at hP hS ⊢
  have hP : va_P (dC, dI) vwCl [(mm, .inr (10, [.int 0, .ref pl, .ref ig, .ref sl, .ref kl, .int 0, .int 0, .int 0])), (pl, .inr (1, [.int 0, .ref dz, .int 0])), (sl, .inr (1, [.int 0, .ref dz, .int 0])), (kl, .inr (1, [.int 0, .ref dz, .int 0]))] H := hP
  have hD : va_D A [(mm, .inr (10, [.int 0, .ref pl, .ref ig, .ref sl, .ref kl, .int 0, .int 0, .int 0])), (pl, .inr (1, [.int 0, .ref dz, .int 0])), (sl, .inr (1, [.int 0, .ref dz, .int 0])), (kl, .inr (1, [.int 0, .ref dz, .int 0]))] := hD
  refine W.widen (k := 0) (n := 0) (Nat.le_refl _) (Nat.le_refl _) ?_
  have hw : r_2 = 1 := hw
  subst hw
  refine lv_if_ne (tgt := 20) hx hb dX8_ofParty_11 (by decide) (fun _ => ?_) (fun h9 => absurd h9 (by decide))
  refine lv_iload_n hx hb dX8_ofParty_20 rfl (lv_at hl 2 rfl) ?_
  refine lv_iconst (v := 0) hx hb dX8_ofParty_21 (by decide) ?_
  refine lv_iconst (v := 4) hx hb dX8_ofParty_22 (by decide) ?_
  have hPc := hP.sub (ws' := []) [] rfl
  have hDc := hD.sub (ws' := []) [] (by decide) rfl
  have hKc := hK.sub (tys' := []) [] rfl
  have hFc := va_free (wc := []) hD hS hA [] rfl
  refine va_calli (va_runS (As := [.int a1, .int 0, .int 4]) (rest := []) ⟨hx, hb, hml, hown, hts⟩ (c0_X8_in l dC dI a1 (0 : Int32) (4 : Int32) _ hbd) (va_cwS 3 hts gX8_ofParty_X8_in rfl rfl rfl (by decide +kernel) ⟨Nat.le_of_ble_eq_true rfl, Nat.le_of_ble_eq_true rfl⟩) ⟨pr_blind, fun U hU hW => ⟨rfl, pr_mk hU hW hPc hKc hDc⟩⟩ rfl rfl hl.1 rfl (lv_room (Nat.le_of_ble_eq_true rfl)) dX8_ofParty_23 ⟨Nat.le_of_ble_eq_true rfl, Nat.le_of_ble_eq_true rfl⟩) hS (fun q _ h => hFc q h) hFc (fun r_4 u_3 t H1 locs ht hvm hw hB hz1 hk1 hS => ?_)
  obtain ⟨hP1, hK1, hD1⟩ := hB
  rw [ht] at hP1
  obtain ⟨hP, hD⟩ := va_join (wr := [(mm, .inr (10, [.int 0, .ref pl, .ref ig, .ref sl, .ref kl, .int 0, .int 0, .int 0])), (pl, .inr (1, [.int 0, .ref dz, .int 0])), (sl, .inr (1, [.int 0, .ref dz, .int 0])), (kl, .inr (1, [.int 0, .ref dz, .int 0]))]) (w1 := []) hP hD [] [0, 1, 2, 3] rfl rfl (by decide) (by decide) hk1 hFc hP1 hD1
  generalize H1 = H at hP hS ⊢
  have hP : va_P (dC, dI) vwCl [(mm, .inr (10, [.int 0, .ref pl, .ref ig, .ref sl, .ref kl, .int 0, .int 0, .int 0])), (pl, .inr (1, [.int 0, .ref dz, .int 0])), (sl, .inr (1, [.int 0, .ref dz, .int 0])), (kl, .inr (1, [.int 0, .ref dz, .int 0]))] H := hP
  have hD : va_D A [(mm, .inr (10, [.int 0, .ref pl, .ref ig, .ref sl, .ref kl, .int 0, .int 0, .int 0])), (pl, .inr (1, [.int 0, .ref dz, .int 0])), (sl, .inr (1, [.int 0, .ref dz, .int 0])), (kl, .inr (1, [.int 0, .ref dz, .int 0]))] := hD
  refine W.widen (k := 0) (n := 0) (Nat.le_refl _) (Nat.le_refl _) ?_
  have hw : r_4 = 0 := hw
  subst hw
  refine lv_if_ne (tgt := 35) hx hb dX8_ofParty_26 (by decide) (fun h9 => absurd h9 (by decide)) (fun _ => ?_)
  refine lv_aload_n hx hb dX8_ofParty_29 rfl (lv_at hl 0 rfl) ?_
  refine lv_iconst (v := 2) hx hb dX8_ofParty_30 (by decide) ?_
  have hPc := hP.sub (ws' := [(mm, .inr (10, [.int 0, .ref pl, .ref ig, .ref sl, .ref kl, .int 0, .int 0, .int 0]))]) [0] rfl
  have hDc := hD.sub (ws' := [(mm, .inr (10, [.int 0, .ref pl, .ref ig, .ref sl, .ref kl, .int 0, .int 0, .int 0]))]) [0] (by decide) rfl
  have hKc := hK.sub (tys' := []) [] rfl
  have hFc := va_free (wc := [(mm, .inr (10, [.int 0, .ref pl, .ref ig, .ref sl, .ref kl, .int 0, .int 0, .int 0]))]) hD hS hA [0] rfl
  refine va_calli (va_runV (As := [.int 2]) (rest := []) ⟨hx, hb, hml, hown, hts⟩ (c_X8_no l dC dI mm pl ig sl kl (2 : Int32) (0 : Int32) _ ) (cwV 1 hts gX8_ofParty_X8_no rfl rfl rfl (by decide +kernel) ⟨Nat.le_of_ble_eq_true rfl, Nat.le_of_ble_eq_true rfl⟩) ⟨pr_blind, va_recv hKc hPc (ci := 10) (q0 := 0) rfl rfl, fun U hU hW => ⟨rfl, pr_mk hU hW hPc hKc hDc⟩⟩ rfl rfl hl.1 rfl (lv_room (Nat.le_of_ble_eq_true rfl)) dX8_ofParty_31 ⟨Nat.le_of_ble_eq_true rfl, Nat.le_of_ble_eq_true rfl⟩) hS (fun q _ h => hFc q h) hFc (fun r_6 u_5 t H1 locs ht hvm hw hB hz1 hk1 hS => ?_)
  obtain ⟨hP1, hK1, hD1⟩ := hB
  rw [ht] at hP1
  obtain ⟨hP, hD⟩ := va_join (wr := [(pl, .inr (1, [.int 0, .ref dz, .int 0])), (sl, .inr (1, [.int 0, .ref dz, .int 0])), (kl, .inr (1, [.int 0, .ref dz, .int 0]))]) (w1 := [(mm, .inr (10, [.int 2, .ref pl, .ref ig, .ref sl, .ref kl, .int 0, .int 0, .int 0]))]) hP hD [0] [1, 2, 3] rfl rfl (by decide) (by decide) hk1 hFc hP1 hD1
  generalize H1 = H at hP hS ⊢
  have hP : va_P (dC, dI) vwCl [(pl, .inr (1, [.int 0, .ref dz, .int 0])), (sl, .inr (1, [.int 0, .ref dz, .int 0])), (kl, .inr (1, [.int 0, .ref dz, .int 0])), (mm, .inr (10, [.int 2, .ref pl, .ref ig, .ref sl, .ref kl, .int 0, .int 0, .int 0]))] H := hP
  have hD : va_D A [(pl, .inr (1, [.int 0, .ref dz, .int 0])), (sl, .inr (1, [.int 0, .ref dz, .int 0])), (kl, .inr (1, [.int 0, .ref dz, .int 0])), (mm, .inr (10, [.int 2, .ref pl, .ref ig, .ref sl, .ref kl, .int 0, .int 0, .int 0]))] := hD
  refine W.widen (k := 0) (n := 0) (Nat.le_refl _) (Nat.le_refl _) ?_
  have hw : r_6 = 0 := hw
  subst hw
  have hP9 := hP.sub (ws' := [(mm, .inr (10, [.int 2, .ref pl, .ref ig, .ref sl, .ref kl, .int 0, .int 0, .int 0]))]) [3] rfl
  have hD9 := hD.sub (ws' := [(mm, .inr (10, [.int 2, .ref pl, .ref ig, .ref sl, .ref kl, .int 0, .int 0, .int 0]))]) [3] (by decide) rfl
  have hK9 := hK.sub (tys' := []) [] rfl
  refine W.widen (k := 0) (n := 0) (Nat.le_of_ble_eq_true rfl) (Nat.le_of_ble_eq_true rfl) ?_
  exact W.iret (v := 0) hx hb hr (fun t ht hW => ⟨⟨0, (), rfl, rfl, po_mk ht hW hP9 hK9 hD9⟩, hS.F ht⟩) hS.2.2 dX8_ofParty_34

set_option maxHeartbeats 4000000 in
set_option maxRecDepth 100000 in
theorem c_X8_ofParty (l : Launch) (dC : Nat → ClassId) (dI : Nat → Nat → Nat) (mm : Nat) (pl : Nat) (ig : Nat) (sl : Nat) (kl : Nat) (dz : Nat) (a0 : Int32) (a1 : Int32) (sz : Nat) (g0a : ¬ a0 < 0) (g0b : ¬ 3 < a0) (g1a : ¬ a1 < 0) (g1b : ¬ 4 < a1) : Met l yX8_ofParty wsX8_ofParty ({ frames := 6, cells := 4, slots := 20, locals := 160 }) (va_Pc [.ref mm, .int a0, .int a1] (fun U => pr_ dC dI [(mm, .inr (10, [.int 0, .ref pl, .ref ig, .ref sl, .ref kl, .int 0, .int 0, .int 0])), (pl, .inr (1, [.int 0, .ref dz, .int 0])), (sl, .inr (1, [.int 0, .ref dz, .int 0])), (kl, .inr (1, [.int 0, .ref dz, .int 0]))] [] sz U ∧ mo_  U)) (va_Qi (fun (r : Int32) (_ : Unit) => r = 0) (fun (_ : Unit) t => po_ dC dI [(mm, .inr (10, [.int 0, .ref pl, .ref ig, .ref sl, .ref kl, .int 0, .int 0, .int 0]))] [] (va_A [(mm, .inr (10, [.int 0, .ref pl, .ref ig, .ref sl, .ref kl, .int 0, .int 0, .int 0])), (pl, .inr (1, [.int 0, .ref dz, .int 0])), (sl, .inr (1, [.int 0, .ref dz, .int 0])), (kl, .inr (1, [.int 0, .ref dz, .int 0]))] sz) t) (va_A [(mm, .inr (10, [.int 0, .ref pl, .ref ig, .ref sl, .ref kl, .int 0, .int 0, .int 0])), (pl, .inr (1, [.int 0, .ref dz, .int 0])), (sl, .inr (1, [.int 0, .ref dz, .int 0])), (kl, .inr (1, [.int 0, .ref dz, .int 0]))] sz)) 4 20 (va_A [(mm, .inr (10, [.int 0, .ref pl, .ref ig, .ref sl, .ref kl, .int 0, .int 0, .int 0])), (pl, .inr (1, [.int 0, .ref dz, .int 0])), (sl, .inr (1, [.int 0, .ref dz, .int 0])), (kl, .inr (1, [.int 0, .ref dz, .int 0]))] sz) := by
  refine Met.ofW (cc := cX8_ofParty) (maxL := 3) (ret := (some .int)) (by decide) rfl ?_
  intro p e s m args below meth c s₁ B hml hv
  obtain ⟨rfl, ⟨hsz, hP, hK, hD0⟩, hXs⟩ := hv
  have hx := B.exec
  have hb := B.bytes
  have hr := B.returns
  have hts := atoms_spec (ws := wsX8_ofParty) B.pre
  have hown : s.vm.findClass RX8 = some m.cls := findClass_of_methodNamed B.named
  have hlocks := B.notSynchronized
  subst hsz
  have hD := hD0.self (sz := s.heap.size)
  generalize hAe : va_A [(mm, .inr (10, [.int 0, .ref pl, .ref ig, .ref sl, .ref kl, .int 0, .int 0, .int 0])), (pl, .inr (1, [.int 0, .ref dz, .int 0])), (sl, .inr (1, [.int 0, .ref dz, .int 0])), (kl, .inr (1, [.int 0, .ref dz, .int 0]))] s.heap.size = A at hD ⊢
  have hA : ∀ q : Nat, s.heap.size ≤ q → A q := fun q h => by rw [← hAe]; exact Or.inr h
  have hS : va_S A s.heap s.heap [] := va_S.rf
  have hP : va_P (dC, dI) vwCl [(mm, .inr (10, [.int 0, .ref pl, .ref ig, .ref sl, .ref kl, .int 0, .int 0, .int 0])), (pl, .inr (1, [.int 0, .ref dz, .int 0])), (sl, .inr (1, [.int 0, .ref dz, .int 0])), (kl, .inr (1, [.int 0, .ref dz, .int 0]))] s.heap := hP
  have hK : va_K (dC, dI) vwCl [] s := hK
  have hl := lv_entry ([.ref mm, .int a0, .int a1]) (n := 3) (Nat.le_of_ble_eq_true rfl)
  rw [lg_entry_eq]
  generalize (lg_sl ([.ref mm, .int a0, .int a1]) ++ List.replicate (3 - (lg_sl ([.ref mm, .int a0, .int a1])).length) Slot.unset).toArray = ls at hl ⊢
  have hl : lv_has ls 3 [(0, .ref mm), (1, .int a0), (2, .int a1)] := hl
  refine lv_aload_n hx hb dX8_ofParty_0 rfl (lv_at hl 0 rfl) ?_
  refine lv_iconst (v := 0) hx hb dX8_ofParty_1 (by decide) ?_
  have hinX8 : ∀ w ∈ u_ws RX8 TX8 8, w ∈ wsX8_ofParty := by decide +kernel
  refine va_put (D := (dC, dI)) (ci := 10) (v := .int 0) (ty := .int) (C := RX8) (T := TX8) (N := 8) hx hb hts hinX8 tyX8 tyX8_ok nmX8 hown hK hP hD hS 0 rfl rfl 0 (by decide) (hts (.fieldLink RX8 26 "BallotLoomModel" "thrown" "I") (by decide +kernel)) (fun _ h9 => h9) rfl (by decide +kernel) rfl rfl (Nat.le_of_ble_eq_true rfl) dX8_ofParty_2 (fun H locs hP hD hS => ?_)
  have hP : va_P (dC, dI) vwCl [(mm, .inr (10, [.int 0, .ref pl, .ref ig, .ref sl, .ref kl, .int 0, .int 0, .int 0])), (pl, .inr (1, [.int 0, .ref dz, .int 0])), (sl, .inr (1, [.int 0, .ref dz, .int 0])), (kl, .inr (1, [.int 0, .ref dz, .int 0]))] H := hP
  have hD : va_D A [(mm, .inr (10, [.int 0, .ref pl, .ref ig, .ref sl, .ref kl, .int 0, .int 0, .int 0])), (pl, .inr (1, [.int 0, .ref dz, .int 0])), (sl, .inr (1, [.int 0, .ref dz, .int 0])), (kl, .inr (1, [.int 0, .ref dz, .int 0]))] := hD
  refine lv_iload_n hx hb dX8_ofParty_5 rfl (lv_at hl 1 rfl) ?_
  refine lv_iconst (v := 0) hx hb dX8_ofParty_6 (by decide) ?_
  refine lv_iconst (v := 3) hx hb dX8_ofParty_7 (by decide) ?_
  have hPc := hP.sub (ws' := []) [] rfl
  have hDc := hD.sub (ws' := []) [] (by decide) rfl
  have hKc := hK.sub (tys' := []) [] rfl
  have hFc := va_free (wc := []) hD hS hA [] rfl
  refine va_calli (va_runS (As := [.int a0, .int 0, .int 3]) (rest := []) ⟨hx, hb, hml, hown, hts⟩ (c_X8_in l dC dI a0 (0 : Int32) (3 : Int32) _ g0a g0b) (va_cwS 3 hts gX8_ofParty_X8_in rfl rfl rfl (by decide +kernel) ⟨Nat.le_of_ble_eq_true rfl, Nat.le_of_ble_eq_true rfl⟩) ⟨pr_blind, fun U hU hW => ⟨rfl, pr_mk hU hW hPc hKc hDc⟩⟩ rfl rfl hl.1 rfl (lv_room (Nat.le_of_ble_eq_true rfl)) dX8_ofParty_8 ⟨Nat.le_of_ble_eq_true rfl, Nat.le_of_ble_eq_true rfl⟩) hS (fun q _ h => hFc q h) hFc (fun r_2 u_1 t H1 locs ht hvm hw hB hz1 hk1 hS => ?_)
  obtain ⟨hP1, hK1, hD1⟩ := hB
  rw [ht] at hP1
  obtain ⟨hP, hD⟩ := va_join (wr := [(mm, .inr (10, [.int 0, .ref pl, .ref ig, .ref sl, .ref kl, .int 0, .int 0, .int 0])), (pl, .inr (1, [.int 0, .ref dz, .int 0])), (sl, .inr (1, [.int 0, .ref dz, .int 0])), (kl, .inr (1, [.int 0, .ref dz, .int 0]))]) (w1 := []) hP hD [] [0, 1, 2, 3] rfl rfl (by decide) (by decide) hk1 hFc hP1 hD1
  generalize H1 = H at hP hS ⊢
  have hP : va_P (dC, dI) vwCl [(mm, .inr (10, [.int 0, .ref pl, .ref ig, .ref sl, .ref kl, .int 0, .int 0, .int 0])), (pl, .inr (1, [.int 0, .ref dz, .int 0])), (sl, .inr (1, [.int 0, .ref dz, .int 0])), (kl, .inr (1, [.int 0, .ref dz, .int 0]))] H := hP
  have hD : va_D A [(mm, .inr (10, [.int 0, .ref pl, .ref ig, .ref sl, .ref kl, .int 0, .int 0, .int 0])), (pl, .inr (1, [.int 0, .ref dz, .int 0])), (sl, .inr (1, [.int 0, .ref dz, .int 0])), (kl, .inr (1, [.int 0, .ref dz, .int 0]))] := hD
  refine W.widen (k := 0) (n := 0) (Nat.le_refl _) (Nat.le_refl _) ?_
  have hw : r_2 = 1 := hw
  subst hw
  refine lv_if_ne (tgt := 20) hx hb dX8_ofParty_11 (by decide) (fun _ => ?_) (fun h9 => absurd h9 (by decide))
  refine lv_iload_n hx hb dX8_ofParty_20 rfl (lv_at hl 2 rfl) ?_
  refine lv_iconst (v := 0) hx hb dX8_ofParty_21 (by decide) ?_
  refine lv_iconst (v := 4) hx hb dX8_ofParty_22 (by decide) ?_
  have hPc := hP.sub (ws' := []) [] rfl
  have hDc := hD.sub (ws' := []) [] (by decide) rfl
  have hKc := hK.sub (tys' := []) [] rfl
  have hFc := va_free (wc := []) hD hS hA [] rfl
  refine va_calli (va_runS (As := [.int a1, .int 0, .int 4]) (rest := []) ⟨hx, hb, hml, hown, hts⟩ (c_X8_in l dC dI a1 (0 : Int32) (4 : Int32) _ g1a g1b) (va_cwS 3 hts gX8_ofParty_X8_in rfl rfl rfl (by decide +kernel) ⟨Nat.le_of_ble_eq_true rfl, Nat.le_of_ble_eq_true rfl⟩) ⟨pr_blind, fun U hU hW => ⟨rfl, pr_mk hU hW hPc hKc hDc⟩⟩ rfl rfl hl.1 rfl (lv_room (Nat.le_of_ble_eq_true rfl)) dX8_ofParty_23 ⟨Nat.le_of_ble_eq_true rfl, Nat.le_of_ble_eq_true rfl⟩) hS (fun q _ h => hFc q h) hFc (fun r_4 u_3 t H1 locs ht hvm hw hB hz1 hk1 hS => ?_)
  obtain ⟨hP1, hK1, hD1⟩ := hB
  rw [ht] at hP1
  obtain ⟨hP, hD⟩ := va_join (wr := [(mm, .inr (10, [.int 0, .ref pl, .ref ig, .ref sl, .ref kl, .int 0, .int 0, .int 0])), (pl, .inr (1, [.int 0, .ref dz, .int 0])), (sl, .inr (1, [.int 0, .ref dz, .int 0])), (kl, .inr (1, [.int 0, .ref dz, .int 0]))]) (w1 := []) hP hD [] [0, 1, 2, 3] rfl rfl (by decide) (by decide) hk1 hFc hP1 hD1
  generalize H1 = H at hP hS ⊢
  have hP : va_P (dC, dI) vwCl [(mm, .inr (10, [.int 0, .ref pl, .ref ig, .ref sl, .ref kl, .int 0, .int 0, .int 0])), (pl, .inr (1, [.int 0, .ref dz, .int 0])), (sl, .inr (1, [.int 0, .ref dz, .int 0])), (kl, .inr (1, [.int 0, .ref dz, .int 0]))] H := hP
  have hD : va_D A [(mm, .inr (10, [.int 0, .ref pl, .ref ig, .ref sl, .ref kl, .int 0, .int 0, .int 0])), (pl, .inr (1, [.int 0, .ref dz, .int 0])), (sl, .inr (1, [.int 0, .ref dz, .int 0])), (kl, .inr (1, [.int 0, .ref dz, .int 0]))] := hD
  refine W.widen (k := 0) (n := 0) (Nat.le_refl _) (Nat.le_refl _) ?_
  have hw : r_4 = 1 := hw
  subst hw
  refine lv_if_ne (tgt := 35) hx hb dX8_ofParty_26 (by decide) (fun _ => ?_) (fun h9 => absurd h9 (by decide))
  refine lv_aload_n hx hb dX8_ofParty_35 rfl (lv_at hl 0 rfl) ?_
  refine lv_iload_n hx hb dX8_ofParty_36 rfl (lv_at hl 1 rfl) ?_
  refine lv_iload_n hx hb dX8_ofParty_37 rfl (lv_at hl 2 rfl) ?_
  have hPc := hP.sub (ws' := [(mm, .inr (10, [.int 0, .ref pl, .ref ig, .ref sl, .ref kl, .int 0, .int 0, .int 0])), (pl, .inr (1, [.int 0, .ref dz, .int 0])), (sl, .inr (1, [.int 0, .ref dz, .int 0]))]) [0, 1, 2] rfl
  have hDc := hD.sub (ws' := [(mm, .inr (10, [.int 0, .ref pl, .ref ig, .ref sl, .ref kl, .int 0, .int 0, .int 0])), (pl, .inr (1, [.int 0, .ref dz, .int 0])), (sl, .inr (1, [.int 0, .ref dz, .int 0]))]) [0, 1, 2] (by decide) rfl
  have hKc := hK.sub (tys' := []) [] rfl
  have hFc := va_free (wc := [(mm, .inr (10, [.int 0, .ref pl, .ref ig, .ref sl, .ref kl, .int 0, .int 0, .int 0])), (pl, .inr (1, [.int 0, .ref dz, .int 0])), (sl, .inr (1, [.int 0, .ref dz, .int 0]))]) hD hS hA [0, 1, 2] rfl
  refine va_calli (va_runV (As := [.int a0, .int a1]) (rest := []) ⟨hx, hb, hml, hown, hts⟩ (c_X8_partyNow l dC dI mm pl ig sl kl dz a0 a1 _ (in5 g0a g0b)) (cwV 2 hts gX8_ofParty_X8_partyNow rfl rfl rfl (by decide +kernel) ⟨Nat.le_of_ble_eq_true rfl, Nat.le_of_ble_eq_true rfl⟩) ⟨pe_blind mo_bl, va_recv hKc hPc (ci := 10) (q0 := 0) rfl rfl, fun U hU hW => ⟨rfl, pr_mk hU hW hPc hKc hDc, mo_mk hW hXs⟩⟩ rfl rfl hl.1 rfl (lv_room (Nat.le_of_ble_eq_true rfl)) dX8_ofParty_38 ⟨Nat.le_of_ble_eq_true rfl, Nat.le_of_ble_eq_true rfl⟩) hS (fun q _ h => hFc q h) hFc (fun r_6 u_5 t H1 locs ht hvm hw hB hz1 hk1 hS => ?_)
  obtain ⟨hP1, hK1, hD1⟩ := hB
  rw [ht] at hP1
  obtain ⟨hP, hD⟩ := va_join (wr := [(kl, .inr (1, [.int 0, .ref dz, .int 0]))]) (w1 := [(mm, .inr (10, [.int 0, .ref pl, .ref ig, .ref sl, .ref kl, .int 0, .int 0, .int 0])), (pl, .inr (1, [.int 0, .ref dz, .int 0])), (sl, .inr (1, [.int 0, .ref dz, .int 0]))]) hP hD [0, 1, 2] [3] rfl rfl (by decide) (by decide) hk1 hFc hP1 hD1
  generalize H1 = H at hP hS ⊢
  have hP : va_P (dC, dI) vwCl [(kl, .inr (1, [.int 0, .ref dz, .int 0])), (mm, .inr (10, [.int 0, .ref pl, .ref ig, .ref sl, .ref kl, .int 0, .int 0, .int 0])), (pl, .inr (1, [.int 0, .ref dz, .int 0])), (sl, .inr (1, [.int 0, .ref dz, .int 0]))] H := hP
  have hD : va_D A [(kl, .inr (1, [.int 0, .ref dz, .int 0])), (mm, .inr (10, [.int 0, .ref pl, .ref ig, .ref sl, .ref kl, .int 0, .int 0, .int 0])), (pl, .inr (1, [.int 0, .ref dz, .int 0])), (sl, .inr (1, [.int 0, .ref dz, .int 0]))] := hD
  refine W.widen (k := 1) (n := 5) (Nat.le_of_ble_eq_true rfl) (Nat.le_of_ble_eq_true rfl) ?_
  have hw : r_6 = 0 := hw
  subst hw
  have hP9 := hP.sub (ws' := [(mm, .inr (10, [.int 0, .ref pl, .ref ig, .ref sl, .ref kl, .int 0, .int 0, .int 0]))]) [1] rfl
  have hD9 := hD.sub (ws' := [(mm, .inr (10, [.int 0, .ref pl, .ref ig, .ref sl, .ref kl, .int 0, .int 0, .int 0]))]) [1] (by decide) rfl
  have hK9 := hK.sub (tys' := []) [] rfl
  refine W.widen (k := 4) (n := 20) (Nat.le_of_ble_eq_true rfl) (Nat.le_of_ble_eq_true rfl) ?_
  exact W.iret (v := 0) hx hb hr (fun t ht hW => ⟨⟨0, (), rfl, rfl, po_mk ht hW hP9 hK9 hD9⟩, hS.F ht⟩) hS.2.2 dX8_ofParty_41

set_option maxHeartbeats 4000000 in
set_option maxRecDepth 100000 in
theorem c0_X8_share (l : Launch) (dC : Nat → ClassId) (dI : Nat → Nat → Nat) (mm : Nat) (pl : Nat) (ig : Nat) (sl : Nat) (kl : Nat) (dz : Nat) (a0 : Int32) (a1 : Int32) (a2 : Int32) (sz : Nat) (hbd : a0 < 0 ∨ 3 < a0) : Met l yX8_share wsX8_share ({ frames := 5, cells := 0, slots := 0, locals := 140 }) (va_Pc [.ref mm, .int a0, .int a1, .int a2] (fun U => pr_ dC dI [(mm, .inr (10, [.int 0, .ref pl, .ref ig, .ref sl, .ref kl, .int 0, .int 0, .int 0])), (pl, .inr (1, [.int 0, .ref dz, .int 0])), (sl, .inr (1, [.int 0, .ref dz, .int 0])), (kl, .inr (1, [.int 0, .ref dz, .int 0]))] [] sz U ∧ mo_  U)) (va_Qi (fun (r : Int32) (_ : Unit) => r = 0) (fun (_ : Unit) t => po_ dC dI [(mm, .inr (10, [.int 1, .ref pl, .ref ig, .ref sl, .ref kl, .int 0, .int 0, .int 0]))] [] (va_A [(mm, .inr (10, [.int 0, .ref pl, .ref ig, .ref sl, .ref kl, .int 0, .int 0, .int 0])), (pl, .inr (1, [.int 0, .ref dz, .int 0])), (sl, .inr (1, [.int 0, .ref dz, .int 0])), (kl, .inr (1, [.int 0, .ref dz, .int 0]))] sz) t) (va_A [(mm, .inr (10, [.int 0, .ref pl, .ref ig, .ref sl, .ref kl, .int 0, .int 0, .int 0])), (pl, .inr (1, [.int 0, .ref dz, .int 0])), (sl, .inr (1, [.int 0, .ref dz, .int 0])), (kl, .inr (1, [.int 0, .ref dz, .int 0]))] sz)) 0 0 (va_A [(mm, .inr (10, [.int 0, .ref pl, .ref ig, .ref sl, .ref kl, .int 0, .int 0, .int 0])), (pl, .inr (1, [.int 0, .ref dz, .int 0])), (sl, .inr (1, [.int 0, .ref dz, .int 0])), (kl, .inr (1, [.int 0, .ref dz, .int 0]))] sz) := by
  refine Met.ofW (cc := cX8_share) (maxL := 4) (ret := (some .int)) (by decide) rfl ?_
  intro p e s m args below meth c s₁ B hml hv
  obtain ⟨rfl, ⟨hsz, hP, hK, hD0⟩, hXs⟩ := hv
  have hx := B.exec
  have hb := B.bytes
  have hr := B.returns
  have hts := atoms_spec (ws := wsX8_share) B.pre
  have hown : s.vm.findClass RX8 = some m.cls := findClass_of_methodNamed B.named
  have hlocks := B.notSynchronized
  subst hsz
  have hD := hD0.self (sz := s.heap.size)
  generalize hAe : va_A [(mm, .inr (10, [.int 0, .ref pl, .ref ig, .ref sl, .ref kl, .int 0, .int 0, .int 0])), (pl, .inr (1, [.int 0, .ref dz, .int 0])), (sl, .inr (1, [.int 0, .ref dz, .int 0])), (kl, .inr (1, [.int 0, .ref dz, .int 0]))] s.heap.size = A at hD ⊢
  have hA : ∀ q : Nat, s.heap.size ≤ q → A q := fun q h => by rw [← hAe]; exact Or.inr h
  have hS : va_S A s.heap s.heap [] := va_S.rf
  have hP : va_P (dC, dI) vwCl [(mm, .inr (10, [.int 0, .ref pl, .ref ig, .ref sl, .ref kl, .int 0, .int 0, .int 0])), (pl, .inr (1, [.int 0, .ref dz, .int 0])), (sl, .inr (1, [.int 0, .ref dz, .int 0])), (kl, .inr (1, [.int 0, .ref dz, .int 0]))] s.heap := hP
  have hK : va_K (dC, dI) vwCl [] s := hK
  have hl := lv_entry ([.ref mm, .int a0, .int a1, .int a2]) (n := 4) (Nat.le_of_ble_eq_true rfl)
  rw [lg_entry_eq]
  generalize (lg_sl ([.ref mm, .int a0, .int a1, .int a2]) ++ List.replicate (4 - (lg_sl ([.ref mm, .int a0, .int a1, .int a2])).length) Slot.unset).toArray = ls at hl ⊢
  have hl : lv_has ls 4 [(0, .ref mm), (1, .int a0), (2, .int a1), (3, .int a2)] := hl
  refine lv_aload_n hx hb dX8_share_0 rfl (lv_at hl 0 rfl) ?_
  refine lv_iconst (v := 0) hx hb dX8_share_1 (by decide) ?_
  have hinX8 : ∀ w ∈ u_ws RX8 TX8 8, w ∈ wsX8_share := by decide +kernel
  refine va_put (D := (dC, dI)) (ci := 10) (v := .int 0) (ty := .int) (C := RX8) (T := TX8) (N := 8) hx hb hts hinX8 tyX8 tyX8_ok nmX8 hown hK hP hD hS 0 rfl rfl 0 (by decide) (hts (.fieldLink RX8 26 "BallotLoomModel" "thrown" "I") (by decide +kernel)) (fun _ h9 => h9) rfl (by decide +kernel) rfl rfl (Nat.le_of_ble_eq_true rfl) dX8_share_2 (fun H locs hP hD hS => ?_)
  have hP : va_P (dC, dI) vwCl [(mm, .inr (10, [.int 0, .ref pl, .ref ig, .ref sl, .ref kl, .int 0, .int 0, .int 0])), (pl, .inr (1, [.int 0, .ref dz, .int 0])), (sl, .inr (1, [.int 0, .ref dz, .int 0])), (kl, .inr (1, [.int 0, .ref dz, .int 0]))] H := hP
  have hD : va_D A [(mm, .inr (10, [.int 0, .ref pl, .ref ig, .ref sl, .ref kl, .int 0, .int 0, .int 0])), (pl, .inr (1, [.int 0, .ref dz, .int 0])), (sl, .inr (1, [.int 0, .ref dz, .int 0])), (kl, .inr (1, [.int 0, .ref dz, .int 0]))] := hD
  refine lv_iload_n hx hb dX8_share_5 rfl (lv_at hl 1 rfl) ?_
  refine lv_iconst (v := 0) hx hb dX8_share_6 (by decide) ?_
  refine lv_iconst (v := 3) hx hb dX8_share_7 (by decide) ?_
  have hPc := hP.sub (ws' := []) [] rfl
  have hDc := hD.sub (ws' := []) [] (by decide) rfl
  have hKc := hK.sub (tys' := []) [] rfl
  have hFc := va_free (wc := []) hD hS hA [] rfl
  refine va_calli (va_runS (As := [.int a0, .int 0, .int 3]) (rest := []) ⟨hx, hb, hml, hown, hts⟩ (c0_X8_in l dC dI a0 (0 : Int32) (3 : Int32) _ hbd) (va_cwS 3 hts gX8_share_X8_in rfl rfl rfl (by decide +kernel) ⟨Nat.le_of_ble_eq_true rfl, Nat.le_of_ble_eq_true rfl⟩) ⟨pr_blind, fun U hU hW => ⟨rfl, pr_mk hU hW hPc hKc hDc⟩⟩ rfl rfl hl.1 rfl (lv_room (Nat.le_of_ble_eq_true rfl)) dX8_share_8 ⟨Nat.le_of_ble_eq_true rfl, Nat.le_of_ble_eq_true rfl⟩) hS (fun q _ h => hFc q h) hFc (fun r_2 u_1 t H1 locs ht hvm hw hB hz1 hk1 hS => ?_)
  obtain ⟨hP1, hK1, hD1⟩ := hB
  rw [ht] at hP1
  obtain ⟨hP, hD⟩ := va_join (wr := [(mm, .inr (10, [.int 0, .ref pl, .ref ig, .ref sl, .ref kl, .int 0, .int 0, .int 0])), (pl, .inr (1, [.int 0, .ref dz, .int 0])), (sl, .inr (1, [.int 0, .ref dz, .int 0])), (kl, .inr (1, [.int 0, .ref dz, .int 0]))]) (w1 := []) hP hD [] [0, 1, 2, 3] rfl rfl (by decide) (by decide) hk1 hFc hP1 hD1
  generalize H1 = H at hP hS ⊢
  have hP : va_P (dC, dI) vwCl [(mm, .inr (10, [.int 0, .ref pl, .ref ig, .ref sl, .ref kl, .int 0, .int 0, .int 0])), (pl, .inr (1, [.int 0, .ref dz, .int 0])), (sl, .inr (1, [.int 0, .ref dz, .int 0])), (kl, .inr (1, [.int 0, .ref dz, .int 0]))] H := hP
  have hD : va_D A [(mm, .inr (10, [.int 0, .ref pl, .ref ig, .ref sl, .ref kl, .int 0, .int 0, .int 0])), (pl, .inr (1, [.int 0, .ref dz, .int 0])), (sl, .inr (1, [.int 0, .ref dz, .int 0])), (kl, .inr (1, [.int 0, .ref dz, .int 0]))] := hD
  refine W.widen (k := 0) (n := 0) (Nat.le_refl _) (Nat.le_refl _) ?_
  have hw : r_2 = 0 := hw
  subst hw
  refine lv_if_ne (tgt := 20) hx hb dX8_share_11 (by decide) (fun h9 => absurd h9 (by decide)) (fun _ => ?_)
  refine lv_aload_n hx hb dX8_share_14 rfl (lv_at hl 0 rfl) ?_
  refine lv_iconst (v := 1) hx hb dX8_share_15 (by decide) ?_
  have hPc := hP.sub (ws' := [(mm, .inr (10, [.int 0, .ref pl, .ref ig, .ref sl, .ref kl, .int 0, .int 0, .int 0]))]) [0] rfl
  have hDc := hD.sub (ws' := [(mm, .inr (10, [.int 0, .ref pl, .ref ig, .ref sl, .ref kl, .int 0, .int 0, .int 0]))]) [0] (by decide) rfl
  have hKc := hK.sub (tys' := []) [] rfl
  have hFc := va_free (wc := [(mm, .inr (10, [.int 0, .ref pl, .ref ig, .ref sl, .ref kl, .int 0, .int 0, .int 0]))]) hD hS hA [0] rfl
  refine va_calli (va_runV (As := [.int 1]) (rest := []) ⟨hx, hb, hml, hown, hts⟩ (c_X8_no l dC dI mm pl ig sl kl (1 : Int32) (0 : Int32) _ ) (cwV 1 hts gX8_share_X8_no rfl rfl rfl (by decide +kernel) ⟨Nat.le_of_ble_eq_true rfl, Nat.le_of_ble_eq_true rfl⟩) ⟨pr_blind, va_recv hKc hPc (ci := 10) (q0 := 0) rfl rfl, fun U hU hW => ⟨rfl, pr_mk hU hW hPc hKc hDc⟩⟩ rfl rfl hl.1 rfl (lv_room (Nat.le_of_ble_eq_true rfl)) dX8_share_16 ⟨Nat.le_of_ble_eq_true rfl, Nat.le_of_ble_eq_true rfl⟩) hS (fun q _ h => hFc q h) hFc (fun r_4 u_3 t H1 locs ht hvm hw hB hz1 hk1 hS => ?_)
  obtain ⟨hP1, hK1, hD1⟩ := hB
  rw [ht] at hP1
  obtain ⟨hP, hD⟩ := va_join (wr := [(pl, .inr (1, [.int 0, .ref dz, .int 0])), (sl, .inr (1, [.int 0, .ref dz, .int 0])), (kl, .inr (1, [.int 0, .ref dz, .int 0]))]) (w1 := [(mm, .inr (10, [.int 1, .ref pl, .ref ig, .ref sl, .ref kl, .int 0, .int 0, .int 0]))]) hP hD [0] [1, 2, 3] rfl rfl (by decide) (by decide) hk1 hFc hP1 hD1
  generalize H1 = H at hP hS ⊢
  have hP : va_P (dC, dI) vwCl [(pl, .inr (1, [.int 0, .ref dz, .int 0])), (sl, .inr (1, [.int 0, .ref dz, .int 0])), (kl, .inr (1, [.int 0, .ref dz, .int 0])), (mm, .inr (10, [.int 1, .ref pl, .ref ig, .ref sl, .ref kl, .int 0, .int 0, .int 0]))] H := hP
  have hD : va_D A [(pl, .inr (1, [.int 0, .ref dz, .int 0])), (sl, .inr (1, [.int 0, .ref dz, .int 0])), (kl, .inr (1, [.int 0, .ref dz, .int 0])), (mm, .inr (10, [.int 1, .ref pl, .ref ig, .ref sl, .ref kl, .int 0, .int 0, .int 0]))] := hD
  refine W.widen (k := 0) (n := 0) (Nat.le_refl _) (Nat.le_refl _) ?_
  have hw : r_4 = 0 := hw
  subst hw
  have hP9 := hP.sub (ws' := [(mm, .inr (10, [.int 1, .ref pl, .ref ig, .ref sl, .ref kl, .int 0, .int 0, .int 0]))]) [3] rfl
  have hD9 := hD.sub (ws' := [(mm, .inr (10, [.int 1, .ref pl, .ref ig, .ref sl, .ref kl, .int 0, .int 0, .int 0]))]) [3] (by decide) rfl
  have hK9 := hK.sub (tys' := []) [] rfl
  refine W.widen (k := 0) (n := 0) (Nat.le_of_ble_eq_true rfl) (Nat.le_of_ble_eq_true rfl) ?_
  exact W.iret (v := 0) hx hb hr (fun t ht hW => ⟨⟨0, (), rfl, rfl, po_mk ht hW hP9 hK9 hD9⟩, hS.F ht⟩) hS.2.2 dX8_share_19

set_option maxHeartbeats 4000000 in
set_option maxRecDepth 100000 in
theorem c1_X8_share (l : Launch) (dC : Nat → ClassId) (dI : Nat → Nat → Nat) (mm : Nat) (pl : Nat) (ig : Nat) (sl : Nat) (kl : Nat) (dz : Nat) (a0 : Int32) (a1 : Int32) (a2 : Int32) (sz : Nat) (g0a : ¬ a0 < 0) (g0b : ¬ 3 < a0) (hbd : a1 < 1 ∨ 60 < a1) : Met l yX8_share wsX8_share ({ frames := 5, cells := 0, slots := 0, locals := 140 }) (va_Pc [.ref mm, .int a0, .int a1, .int a2] (fun U => pr_ dC dI [(mm, .inr (10, [.int 0, .ref pl, .ref ig, .ref sl, .ref kl, .int 0, .int 0, .int 0])), (pl, .inr (1, [.int 0, .ref dz, .int 0])), (sl, .inr (1, [.int 0, .ref dz, .int 0])), (kl, .inr (1, [.int 0, .ref dz, .int 0]))] [] sz U ∧ mo_  U)) (va_Qi (fun (r : Int32) (_ : Unit) => r = 0) (fun (_ : Unit) t => po_ dC dI [(mm, .inr (10, [.int 2, .ref pl, .ref ig, .ref sl, .ref kl, .int 0, .int 0, .int 0]))] [] (va_A [(mm, .inr (10, [.int 0, .ref pl, .ref ig, .ref sl, .ref kl, .int 0, .int 0, .int 0])), (pl, .inr (1, [.int 0, .ref dz, .int 0])), (sl, .inr (1, [.int 0, .ref dz, .int 0])), (kl, .inr (1, [.int 0, .ref dz, .int 0]))] sz) t) (va_A [(mm, .inr (10, [.int 0, .ref pl, .ref ig, .ref sl, .ref kl, .int 0, .int 0, .int 0])), (pl, .inr (1, [.int 0, .ref dz, .int 0])), (sl, .inr (1, [.int 0, .ref dz, .int 0])), (kl, .inr (1, [.int 0, .ref dz, .int 0]))] sz)) 0 0 (va_A [(mm, .inr (10, [.int 0, .ref pl, .ref ig, .ref sl, .ref kl, .int 0, .int 0, .int 0])), (pl, .inr (1, [.int 0, .ref dz, .int 0])), (sl, .inr (1, [.int 0, .ref dz, .int 0])), (kl, .inr (1, [.int 0, .ref dz, .int 0]))] sz) := by
  refine Met.ofW (cc := cX8_share) (maxL := 4) (ret := (some .int)) (by decide) rfl ?_
  intro p e s m args below meth c s₁ B hml hv
  obtain ⟨rfl, ⟨hsz, hP, hK, hD0⟩, hXs⟩ := hv
  have hx := B.exec
  have hb := B.bytes
  have hr := B.returns
  have hts := atoms_spec (ws := wsX8_share) B.pre
  have hown : s.vm.findClass RX8 = some m.cls := findClass_of_methodNamed B.named
  have hlocks := B.notSynchronized
  subst hsz
  have hD := hD0.self (sz := s.heap.size)
  generalize hAe : va_A [(mm, .inr (10, [.int 0, .ref pl, .ref ig, .ref sl, .ref kl, .int 0, .int 0, .int 0])), (pl, .inr (1, [.int 0, .ref dz, .int 0])), (sl, .inr (1, [.int 0, .ref dz, .int 0])), (kl, .inr (1, [.int 0, .ref dz, .int 0]))] s.heap.size = A at hD ⊢
  have hA : ∀ q : Nat, s.heap.size ≤ q → A q := fun q h => by rw [← hAe]; exact Or.inr h
  have hS : va_S A s.heap s.heap [] := va_S.rf
  have hP : va_P (dC, dI) vwCl [(mm, .inr (10, [.int 0, .ref pl, .ref ig, .ref sl, .ref kl, .int 0, .int 0, .int 0])), (pl, .inr (1, [.int 0, .ref dz, .int 0])), (sl, .inr (1, [.int 0, .ref dz, .int 0])), (kl, .inr (1, [.int 0, .ref dz, .int 0]))] s.heap := hP
  have hK : va_K (dC, dI) vwCl [] s := hK
  have hl := lv_entry ([.ref mm, .int a0, .int a1, .int a2]) (n := 4) (Nat.le_of_ble_eq_true rfl)
  rw [lg_entry_eq]
  generalize (lg_sl ([.ref mm, .int a0, .int a1, .int a2]) ++ List.replicate (4 - (lg_sl ([.ref mm, .int a0, .int a1, .int a2])).length) Slot.unset).toArray = ls at hl ⊢
  have hl : lv_has ls 4 [(0, .ref mm), (1, .int a0), (2, .int a1), (3, .int a2)] := hl
  refine lv_aload_n hx hb dX8_share_0 rfl (lv_at hl 0 rfl) ?_
  refine lv_iconst (v := 0) hx hb dX8_share_1 (by decide) ?_
  have hinX8 : ∀ w ∈ u_ws RX8 TX8 8, w ∈ wsX8_share := by decide +kernel
  refine va_put (D := (dC, dI)) (ci := 10) (v := .int 0) (ty := .int) (C := RX8) (T := TX8) (N := 8) hx hb hts hinX8 tyX8 tyX8_ok nmX8 hown hK hP hD hS 0 rfl rfl 0 (by decide) (hts (.fieldLink RX8 26 "BallotLoomModel" "thrown" "I") (by decide +kernel)) (fun _ h9 => h9) rfl (by decide +kernel) rfl rfl (Nat.le_of_ble_eq_true rfl) dX8_share_2 (fun H locs hP hD hS => ?_)
  have hP : va_P (dC, dI) vwCl [(mm, .inr (10, [.int 0, .ref pl, .ref ig, .ref sl, .ref kl, .int 0, .int 0, .int 0])), (pl, .inr (1, [.int 0, .ref dz, .int 0])), (sl, .inr (1, [.int 0, .ref dz, .int 0])), (kl, .inr (1, [.int 0, .ref dz, .int 0]))] H := hP
  have hD : va_D A [(mm, .inr (10, [.int 0, .ref pl, .ref ig, .ref sl, .ref kl, .int 0, .int 0, .int 0])), (pl, .inr (1, [.int 0, .ref dz, .int 0])), (sl, .inr (1, [.int 0, .ref dz, .int 0])), (kl, .inr (1, [.int 0, .ref dz, .int 0]))] := hD
  refine lv_iload_n hx hb dX8_share_5 rfl (lv_at hl 1 rfl) ?_
  refine lv_iconst (v := 0) hx hb dX8_share_6 (by decide) ?_
  refine lv_iconst (v := 3) hx hb dX8_share_7 (by decide) ?_
  have hPc := hP.sub (ws' := []) [] rfl
  have hDc := hD.sub (ws' := []) [] (by decide) rfl
  have hKc := hK.sub (tys' := []) [] rfl
  have hFc := va_free (wc := []) hD hS hA [] rfl
  refine va_calli (va_runS (As := [.int a0, .int 0, .int 3]) (rest := []) ⟨hx, hb, hml, hown, hts⟩ (c_X8_in l dC dI a0 (0 : Int32) (3 : Int32) _ g0a g0b) (va_cwS 3 hts gX8_share_X8_in rfl rfl rfl (by decide +kernel) ⟨Nat.le_of_ble_eq_true rfl, Nat.le_of_ble_eq_true rfl⟩) ⟨pr_blind, fun U hU hW => ⟨rfl, pr_mk hU hW hPc hKc hDc⟩⟩ rfl rfl hl.1 rfl (lv_room (Nat.le_of_ble_eq_true rfl)) dX8_share_8 ⟨Nat.le_of_ble_eq_true rfl, Nat.le_of_ble_eq_true rfl⟩) hS (fun q _ h => hFc q h) hFc (fun r_2 u_1 t H1 locs ht hvm hw hB hz1 hk1 hS => ?_)
  obtain ⟨hP1, hK1, hD1⟩ := hB
  rw [ht] at hP1
  obtain ⟨hP, hD⟩ := va_join (wr := [(mm, .inr (10, [.int 0, .ref pl, .ref ig, .ref sl, .ref kl, .int 0, .int 0, .int 0])), (pl, .inr (1, [.int 0, .ref dz, .int 0])), (sl, .inr (1, [.int 0, .ref dz, .int 0])), (kl, .inr (1, [.int 0, .ref dz, .int 0]))]) (w1 := []) hP hD [] [0, 1, 2, 3] rfl rfl (by decide) (by decide) hk1 hFc hP1 hD1
  generalize H1 = H at hP hS ⊢
  have hP : va_P (dC, dI) vwCl [(mm, .inr (10, [.int 0, .ref pl, .ref ig, .ref sl, .ref kl, .int 0, .int 0, .int 0])), (pl, .inr (1, [.int 0, .ref dz, .int 0])), (sl, .inr (1, [.int 0, .ref dz, .int 0])), (kl, .inr (1, [.int 0, .ref dz, .int 0]))] H := hP
  have hD : va_D A [(mm, .inr (10, [.int 0, .ref pl, .ref ig, .ref sl, .ref kl, .int 0, .int 0, .int 0])), (pl, .inr (1, [.int 0, .ref dz, .int 0])), (sl, .inr (1, [.int 0, .ref dz, .int 0])), (kl, .inr (1, [.int 0, .ref dz, .int 0]))] := hD
  refine W.widen (k := 0) (n := 0) (Nat.le_refl _) (Nat.le_refl _) ?_
  have hw : r_2 = 1 := hw
  subst hw
  refine lv_if_ne (tgt := 20) hx hb dX8_share_11 (by decide) (fun _ => ?_) (fun h9 => absurd h9 (by decide))
  refine lv_iload_n hx hb dX8_share_20 rfl (lv_at hl 2 rfl) ?_
  refine lv_iload_n hx hb dX8_share_21 rfl (lv_at hl 3 rfl) ?_
  have hPc := hP.sub (ws' := []) [] rfl
  have hDc := hD.sub (ws' := []) [] (by decide) rfl
  have hKc := hK.sub (tys' := []) [] rfl
  have hFc := va_free (wc := []) hD hS hA [] rfl
  refine va_calli (va_runS (As := [.int a1, .int a2]) (rest := []) ⟨hx, hb, hml, hown, hts⟩ (c0_X8_isHouse l dC dI a1 a2 _ hbd) (va_cwS 2 hts gX8_share_X8_isHouse rfl rfl rfl (by decide +kernel) ⟨Nat.le_of_ble_eq_true rfl, Nat.le_of_ble_eq_true rfl⟩) ⟨pr_blind, fun U hU hW => ⟨rfl, pr_mk hU hW hPc hKc hDc⟩⟩ rfl rfl hl.1 rfl (lv_room (Nat.le_of_ble_eq_true rfl)) dX8_share_22 ⟨Nat.le_of_ble_eq_true rfl, Nat.le_of_ble_eq_true rfl⟩) hS (fun q _ h => hFc q h) hFc (fun r_4 u_3 t H1 locs ht hvm hw hB hz1 hk1 hS => ?_)
  obtain ⟨hP1, hK1, hD1⟩ := hB
  rw [ht] at hP1
  obtain ⟨hP, hD⟩ := va_join (wr := [(mm, .inr (10, [.int 0, .ref pl, .ref ig, .ref sl, .ref kl, .int 0, .int 0, .int 0])), (pl, .inr (1, [.int 0, .ref dz, .int 0])), (sl, .inr (1, [.int 0, .ref dz, .int 0])), (kl, .inr (1, [.int 0, .ref dz, .int 0]))]) (w1 := []) hP hD [] [0, 1, 2, 3] rfl rfl (by decide) (by decide) hk1 hFc hP1 hD1
  generalize H1 = H at hP hS ⊢
  have hP : va_P (dC, dI) vwCl [(mm, .inr (10, [.int 0, .ref pl, .ref ig, .ref sl, .ref kl, .int 0, .int 0, .int 0])), (pl, .inr (1, [.int 0, .ref dz, .int 0])), (sl, .inr (1, [.int 0, .ref dz, .int 0])), (kl, .inr (1, [.int 0, .ref dz, .int 0]))] H := hP
  have hD : va_D A [(mm, .inr (10, [.int 0, .ref pl, .ref ig, .ref sl, .ref kl, .int 0, .int 0, .int 0])), (pl, .inr (1, [.int 0, .ref dz, .int 0])), (sl, .inr (1, [.int 0, .ref dz, .int 0])), (kl, .inr (1, [.int 0, .ref dz, .int 0]))] := hD
  refine W.widen (k := 0) (n := 0) (Nat.le_refl _) (Nat.le_refl _) ?_
  have hw : r_4 = 0 := hw
  subst hw
  refine lv_if_ne (tgt := 34) hx hb dX8_share_25 (by decide) (fun h9 => absurd h9 (by decide)) (fun _ => ?_)
  refine lv_aload_n hx hb dX8_share_28 rfl (lv_at hl 0 rfl) ?_
  refine lv_iconst (v := 2) hx hb dX8_share_29 (by decide) ?_
  have hPc := hP.sub (ws' := [(mm, .inr (10, [.int 0, .ref pl, .ref ig, .ref sl, .ref kl, .int 0, .int 0, .int 0]))]) [0] rfl
  have hDc := hD.sub (ws' := [(mm, .inr (10, [.int 0, .ref pl, .ref ig, .ref sl, .ref kl, .int 0, .int 0, .int 0]))]) [0] (by decide) rfl
  have hKc := hK.sub (tys' := []) [] rfl
  have hFc := va_free (wc := [(mm, .inr (10, [.int 0, .ref pl, .ref ig, .ref sl, .ref kl, .int 0, .int 0, .int 0]))]) hD hS hA [0] rfl
  refine va_calli (va_runV (As := [.int 2]) (rest := []) ⟨hx, hb, hml, hown, hts⟩ (c_X8_no l dC dI mm pl ig sl kl (2 : Int32) (0 : Int32) _ ) (cwV 1 hts gX8_share_X8_no rfl rfl rfl (by decide +kernel) ⟨Nat.le_of_ble_eq_true rfl, Nat.le_of_ble_eq_true rfl⟩) ⟨pr_blind, va_recv hKc hPc (ci := 10) (q0 := 0) rfl rfl, fun U hU hW => ⟨rfl, pr_mk hU hW hPc hKc hDc⟩⟩ rfl rfl hl.1 rfl (lv_room (Nat.le_of_ble_eq_true rfl)) dX8_share_30 ⟨Nat.le_of_ble_eq_true rfl, Nat.le_of_ble_eq_true rfl⟩) hS (fun q _ h => hFc q h) hFc (fun r_6 u_5 t H1 locs ht hvm hw hB hz1 hk1 hS => ?_)
  obtain ⟨hP1, hK1, hD1⟩ := hB
  rw [ht] at hP1
  obtain ⟨hP, hD⟩ := va_join (wr := [(pl, .inr (1, [.int 0, .ref dz, .int 0])), (sl, .inr (1, [.int 0, .ref dz, .int 0])), (kl, .inr (1, [.int 0, .ref dz, .int 0]))]) (w1 := [(mm, .inr (10, [.int 2, .ref pl, .ref ig, .ref sl, .ref kl, .int 0, .int 0, .int 0]))]) hP hD [0] [1, 2, 3] rfl rfl (by decide) (by decide) hk1 hFc hP1 hD1
  generalize H1 = H at hP hS ⊢
  have hP : va_P (dC, dI) vwCl [(pl, .inr (1, [.int 0, .ref dz, .int 0])), (sl, .inr (1, [.int 0, .ref dz, .int 0])), (kl, .inr (1, [.int 0, .ref dz, .int 0])), (mm, .inr (10, [.int 2, .ref pl, .ref ig, .ref sl, .ref kl, .int 0, .int 0, .int 0]))] H := hP
  have hD : va_D A [(pl, .inr (1, [.int 0, .ref dz, .int 0])), (sl, .inr (1, [.int 0, .ref dz, .int 0])), (kl, .inr (1, [.int 0, .ref dz, .int 0])), (mm, .inr (10, [.int 2, .ref pl, .ref ig, .ref sl, .ref kl, .int 0, .int 0, .int 0]))] := hD
  refine W.widen (k := 0) (n := 0) (Nat.le_refl _) (Nat.le_refl _) ?_
  have hw : r_6 = 0 := hw
  subst hw
  have hP9 := hP.sub (ws' := [(mm, .inr (10, [.int 2, .ref pl, .ref ig, .ref sl, .ref kl, .int 0, .int 0, .int 0]))]) [3] rfl
  have hD9 := hD.sub (ws' := [(mm, .inr (10, [.int 2, .ref pl, .ref ig, .ref sl, .ref kl, .int 0, .int 0, .int 0]))]) [3] (by decide) rfl
  have hK9 := hK.sub (tys' := []) [] rfl
  refine W.widen (k := 0) (n := 0) (Nat.le_of_ble_eq_true rfl) (Nat.le_of_ble_eq_true rfl) ?_
  exact W.iret (v := 0) hx hb hr (fun t ht hW => ⟨⟨0, (), rfl, rfl, po_mk ht hW hP9 hK9 hD9⟩, hS.F ht⟩) hS.2.2 dX8_share_33

set_option maxHeartbeats 4000000 in
set_option maxRecDepth 100000 in
theorem c2_X8_share (l : Launch) (dC : Nat → ClassId) (dI : Nat → Nat → Nat) (mm : Nat) (pl : Nat) (ig : Nat) (sl : Nat) (kl : Nat) (dz : Nat) (a0 : Int32) (a1 : Int32) (a2 : Int32) (sz : Nat) (g0a : ¬ a0 < 0) (g0b : ¬ 3 < a0) (g1a : ¬ a1 < 1) (g1b : ¬ 60 < a1) (hbd : a2 < 0 ∨ 2 < a2) : Met l yX8_share wsX8_share ({ frames := 5, cells := 0, slots := 0, locals := 140 }) (va_Pc [.ref mm, .int a0, .int a1, .int a2] (fun U => pr_ dC dI [(mm, .inr (10, [.int 0, .ref pl, .ref ig, .ref sl, .ref kl, .int 0, .int 0, .int 0])), (pl, .inr (1, [.int 0, .ref dz, .int 0])), (sl, .inr (1, [.int 0, .ref dz, .int 0])), (kl, .inr (1, [.int 0, .ref dz, .int 0]))] [] sz U ∧ mo_  U)) (va_Qi (fun (r : Int32) (_ : Unit) => r = 0) (fun (_ : Unit) t => po_ dC dI [(mm, .inr (10, [.int 2, .ref pl, .ref ig, .ref sl, .ref kl, .int 0, .int 0, .int 0]))] [] (va_A [(mm, .inr (10, [.int 0, .ref pl, .ref ig, .ref sl, .ref kl, .int 0, .int 0, .int 0])), (pl, .inr (1, [.int 0, .ref dz, .int 0])), (sl, .inr (1, [.int 0, .ref dz, .int 0])), (kl, .inr (1, [.int 0, .ref dz, .int 0]))] sz) t) (va_A [(mm, .inr (10, [.int 0, .ref pl, .ref ig, .ref sl, .ref kl, .int 0, .int 0, .int 0])), (pl, .inr (1, [.int 0, .ref dz, .int 0])), (sl, .inr (1, [.int 0, .ref dz, .int 0])), (kl, .inr (1, [.int 0, .ref dz, .int 0]))] sz)) 0 0 (va_A [(mm, .inr (10, [.int 0, .ref pl, .ref ig, .ref sl, .ref kl, .int 0, .int 0, .int 0])), (pl, .inr (1, [.int 0, .ref dz, .int 0])), (sl, .inr (1, [.int 0, .ref dz, .int 0])), (kl, .inr (1, [.int 0, .ref dz, .int 0]))] sz) := by
  refine Met.ofW (cc := cX8_share) (maxL := 4) (ret := (some .int)) (by decide) rfl ?_
  intro p e s m args below meth c s₁ B hml hv
  obtain ⟨rfl, ⟨hsz, hP, hK, hD0⟩, hXs⟩ := hv
  have hx := B.exec
  have hb := B.bytes
  have hr := B.returns
  have hts := atoms_spec (ws := wsX8_share) B.pre
  have hown : s.vm.findClass RX8 = some m.cls := findClass_of_methodNamed B.named
  have hlocks := B.notSynchronized
  subst hsz
  have hD := hD0.self (sz := s.heap.size)
  generalize hAe : va_A [(mm, .inr (10, [.int 0, .ref pl, .ref ig, .ref sl, .ref kl, .int 0, .int 0, .int 0])), (pl, .inr (1, [.int 0, .ref dz, .int 0])), (sl, .inr (1, [.int 0, .ref dz, .int 0])), (kl, .inr (1, [.int 0, .ref dz, .int 0]))] s.heap.size = A at hD ⊢
  have hA : ∀ q : Nat, s.heap.size ≤ q → A q := fun q h => by rw [← hAe]; exact Or.inr h
  have hS : va_S A s.heap s.heap [] := va_S.rf
  have hP : va_P (dC, dI) vwCl [(mm, .inr (10, [.int 0, .ref pl, .ref ig, .ref sl, .ref kl, .int 0, .int 0, .int 0])), (pl, .inr (1, [.int 0, .ref dz, .int 0])), (sl, .inr (1, [.int 0, .ref dz, .int 0])), (kl, .inr (1, [.int 0, .ref dz, .int 0]))] s.heap := hP
  have hK : va_K (dC, dI) vwCl [] s := hK
  have hl := lv_entry ([.ref mm, .int a0, .int a1, .int a2]) (n := 4) (Nat.le_of_ble_eq_true rfl)
  rw [lg_entry_eq]
  generalize (lg_sl ([.ref mm, .int a0, .int a1, .int a2]) ++ List.replicate (4 - (lg_sl ([.ref mm, .int a0, .int a1, .int a2])).length) Slot.unset).toArray = ls at hl ⊢
  have hl : lv_has ls 4 [(0, .ref mm), (1, .int a0), (2, .int a1), (3, .int a2)] := hl
  refine lv_aload_n hx hb dX8_share_0 rfl (lv_at hl 0 rfl) ?_
  refine lv_iconst (v := 0) hx hb dX8_share_1 (by decide) ?_
  have hinX8 : ∀ w ∈ u_ws RX8 TX8 8, w ∈ wsX8_share := by decide +kernel
  refine va_put (D := (dC, dI)) (ci := 10) (v := .int 0) (ty := .int) (C := RX8) (T := TX8) (N := 8) hx hb hts hinX8 tyX8 tyX8_ok nmX8 hown hK hP hD hS 0 rfl rfl 0 (by decide) (hts (.fieldLink RX8 26 "BallotLoomModel" "thrown" "I") (by decide +kernel)) (fun _ h9 => h9) rfl (by decide +kernel) rfl rfl (Nat.le_of_ble_eq_true rfl) dX8_share_2 (fun H locs hP hD hS => ?_)
  have hP : va_P (dC, dI) vwCl [(mm, .inr (10, [.int 0, .ref pl, .ref ig, .ref sl, .ref kl, .int 0, .int 0, .int 0])), (pl, .inr (1, [.int 0, .ref dz, .int 0])), (sl, .inr (1, [.int 0, .ref dz, .int 0])), (kl, .inr (1, [.int 0, .ref dz, .int 0]))] H := hP
  have hD : va_D A [(mm, .inr (10, [.int 0, .ref pl, .ref ig, .ref sl, .ref kl, .int 0, .int 0, .int 0])), (pl, .inr (1, [.int 0, .ref dz, .int 0])), (sl, .inr (1, [.int 0, .ref dz, .int 0])), (kl, .inr (1, [.int 0, .ref dz, .int 0]))] := hD
  refine lv_iload_n hx hb dX8_share_5 rfl (lv_at hl 1 rfl) ?_
  refine lv_iconst (v := 0) hx hb dX8_share_6 (by decide) ?_
  refine lv_iconst (v := 3) hx hb dX8_share_7 (by decide) ?_
  have hPc := hP.sub (ws' := []) [] rfl
  have hDc := hD.sub (ws' := []) [] (by decide) rfl
  have hKc := hK.sub (tys' := []) [] rfl
  have hFc := va_free (wc := []) hD hS hA [] rfl
  refine va_calli (va_runS (As := [.int a0, .int 0, .int 3]) (rest := []) ⟨hx, hb, hml, hown, hts⟩ (c_X8_in l dC dI a0 (0 : Int32) (3 : Int32) _ g0a g0b) (va_cwS 3 hts gX8_share_X8_in rfl rfl rfl (by decide +kernel) ⟨Nat.le_of_ble_eq_true rfl, Nat.le_of_ble_eq_true rfl⟩) ⟨pr_blind, fun U hU hW => ⟨rfl, pr_mk hU hW hPc hKc hDc⟩⟩ rfl rfl hl.1 rfl (lv_room (Nat.le_of_ble_eq_true rfl)) dX8_share_8 ⟨Nat.le_of_ble_eq_true rfl, Nat.le_of_ble_eq_true rfl⟩) hS (fun q _ h => hFc q h) hFc (fun r_2 u_1 t H1 locs ht hvm hw hB hz1 hk1 hS => ?_)
  obtain ⟨hP1, hK1, hD1⟩ := hB
  rw [ht] at hP1
  obtain ⟨hP, hD⟩ := va_join (wr := [(mm, .inr (10, [.int 0, .ref pl, .ref ig, .ref sl, .ref kl, .int 0, .int 0, .int 0])), (pl, .inr (1, [.int 0, .ref dz, .int 0])), (sl, .inr (1, [.int 0, .ref dz, .int 0])), (kl, .inr (1, [.int 0, .ref dz, .int 0]))]) (w1 := []) hP hD [] [0, 1, 2, 3] rfl rfl (by decide) (by decide) hk1 hFc hP1 hD1
  generalize H1 = H at hP hS ⊢
  have hP : va_P (dC, dI) vwCl [(mm, .inr (10, [.int 0, .ref pl, .ref ig, .ref sl, .ref kl, .int 0, .int 0, .int 0])), (pl, .inr (1, [.int 0, .ref dz, .int 0])), (sl, .inr (1, [.int 0, .ref dz, .int 0])), (kl, .inr (1, [.int 0, .ref dz, .int 0]))] H := hP
  have hD : va_D A [(mm, .inr (10, [.int 0, .ref pl, .ref ig, .ref sl, .ref kl, .int 0, .int 0, .int 0])), (pl, .inr (1, [.int 0, .ref dz, .int 0])), (sl, .inr (1, [.int 0, .ref dz, .int 0])), (kl, .inr (1, [.int 0, .ref dz, .int 0]))] := hD
  refine W.widen (k := 0) (n := 0) (Nat.le_refl _) (Nat.le_refl _) ?_
  have hw : r_2 = 1 := hw
  subst hw
  refine lv_if_ne (tgt := 20) hx hb dX8_share_11 (by decide) (fun _ => ?_) (fun h9 => absurd h9 (by decide))
  refine lv_iload_n hx hb dX8_share_20 rfl (lv_at hl 2 rfl) ?_
  refine lv_iload_n hx hb dX8_share_21 rfl (lv_at hl 3 rfl) ?_
  have hPc := hP.sub (ws' := []) [] rfl
  have hDc := hD.sub (ws' := []) [] (by decide) rfl
  have hKc := hK.sub (tys' := []) [] rfl
  have hFc := va_free (wc := []) hD hS hA [] rfl
  refine va_calli (va_runS (As := [.int a1, .int a2]) (rest := []) ⟨hx, hb, hml, hown, hts⟩ (c2_X8_isHouse l dC dI a1 a2 _ g1a g1b hbd) (va_cwS 2 hts gX8_share_X8_isHouse rfl rfl rfl (by decide +kernel) ⟨Nat.le_of_ble_eq_true rfl, Nat.le_of_ble_eq_true rfl⟩) ⟨pr_blind, fun U hU hW => ⟨rfl, pr_mk hU hW hPc hKc hDc⟩⟩ rfl rfl hl.1 rfl (lv_room (Nat.le_of_ble_eq_true rfl)) dX8_share_22 ⟨Nat.le_of_ble_eq_true rfl, Nat.le_of_ble_eq_true rfl⟩) hS (fun q _ h => hFc q h) hFc (fun r_4 u_3 t H1 locs ht hvm hw hB hz1 hk1 hS => ?_)
  obtain ⟨hP1, hK1, hD1⟩ := hB
  rw [ht] at hP1
  obtain ⟨hP, hD⟩ := va_join (wr := [(mm, .inr (10, [.int 0, .ref pl, .ref ig, .ref sl, .ref kl, .int 0, .int 0, .int 0])), (pl, .inr (1, [.int 0, .ref dz, .int 0])), (sl, .inr (1, [.int 0, .ref dz, .int 0])), (kl, .inr (1, [.int 0, .ref dz, .int 0]))]) (w1 := []) hP hD [] [0, 1, 2, 3] rfl rfl (by decide) (by decide) hk1 hFc hP1 hD1
  generalize H1 = H at hP hS ⊢
  have hP : va_P (dC, dI) vwCl [(mm, .inr (10, [.int 0, .ref pl, .ref ig, .ref sl, .ref kl, .int 0, .int 0, .int 0])), (pl, .inr (1, [.int 0, .ref dz, .int 0])), (sl, .inr (1, [.int 0, .ref dz, .int 0])), (kl, .inr (1, [.int 0, .ref dz, .int 0]))] H := hP
  have hD : va_D A [(mm, .inr (10, [.int 0, .ref pl, .ref ig, .ref sl, .ref kl, .int 0, .int 0, .int 0])), (pl, .inr (1, [.int 0, .ref dz, .int 0])), (sl, .inr (1, [.int 0, .ref dz, .int 0])), (kl, .inr (1, [.int 0, .ref dz, .int 0]))] := hD
  refine W.widen (k := 0) (n := 0) (Nat.le_refl _) (Nat.le_refl _) ?_
  have hw : r_4 = 0 := hw
  subst hw
  refine lv_if_ne (tgt := 34) hx hb dX8_share_25 (by decide) (fun h9 => absurd h9 (by decide)) (fun _ => ?_)
  refine lv_aload_n hx hb dX8_share_28 rfl (lv_at hl 0 rfl) ?_
  refine lv_iconst (v := 2) hx hb dX8_share_29 (by decide) ?_
  have hPc := hP.sub (ws' := [(mm, .inr (10, [.int 0, .ref pl, .ref ig, .ref sl, .ref kl, .int 0, .int 0, .int 0]))]) [0] rfl
  have hDc := hD.sub (ws' := [(mm, .inr (10, [.int 0, .ref pl, .ref ig, .ref sl, .ref kl, .int 0, .int 0, .int 0]))]) [0] (by decide) rfl
  have hKc := hK.sub (tys' := []) [] rfl
  have hFc := va_free (wc := [(mm, .inr (10, [.int 0, .ref pl, .ref ig, .ref sl, .ref kl, .int 0, .int 0, .int 0]))]) hD hS hA [0] rfl
  refine va_calli (va_runV (As := [.int 2]) (rest := []) ⟨hx, hb, hml, hown, hts⟩ (c_X8_no l dC dI mm pl ig sl kl (2 : Int32) (0 : Int32) _ ) (cwV 1 hts gX8_share_X8_no rfl rfl rfl (by decide +kernel) ⟨Nat.le_of_ble_eq_true rfl, Nat.le_of_ble_eq_true rfl⟩) ⟨pr_blind, va_recv hKc hPc (ci := 10) (q0 := 0) rfl rfl, fun U hU hW => ⟨rfl, pr_mk hU hW hPc hKc hDc⟩⟩ rfl rfl hl.1 rfl (lv_room (Nat.le_of_ble_eq_true rfl)) dX8_share_30 ⟨Nat.le_of_ble_eq_true rfl, Nat.le_of_ble_eq_true rfl⟩) hS (fun q _ h => hFc q h) hFc (fun r_6 u_5 t H1 locs ht hvm hw hB hz1 hk1 hS => ?_)
  obtain ⟨hP1, hK1, hD1⟩ := hB
  rw [ht] at hP1
  obtain ⟨hP, hD⟩ := va_join (wr := [(pl, .inr (1, [.int 0, .ref dz, .int 0])), (sl, .inr (1, [.int 0, .ref dz, .int 0])), (kl, .inr (1, [.int 0, .ref dz, .int 0]))]) (w1 := [(mm, .inr (10, [.int 2, .ref pl, .ref ig, .ref sl, .ref kl, .int 0, .int 0, .int 0]))]) hP hD [0] [1, 2, 3] rfl rfl (by decide) (by decide) hk1 hFc hP1 hD1
  generalize H1 = H at hP hS ⊢
  have hP : va_P (dC, dI) vwCl [(pl, .inr (1, [.int 0, .ref dz, .int 0])), (sl, .inr (1, [.int 0, .ref dz, .int 0])), (kl, .inr (1, [.int 0, .ref dz, .int 0])), (mm, .inr (10, [.int 2, .ref pl, .ref ig, .ref sl, .ref kl, .int 0, .int 0, .int 0]))] H := hP
  have hD : va_D A [(pl, .inr (1, [.int 0, .ref dz, .int 0])), (sl, .inr (1, [.int 0, .ref dz, .int 0])), (kl, .inr (1, [.int 0, .ref dz, .int 0])), (mm, .inr (10, [.int 2, .ref pl, .ref ig, .ref sl, .ref kl, .int 0, .int 0, .int 0]))] := hD
  refine W.widen (k := 0) (n := 0) (Nat.le_refl _) (Nat.le_refl _) ?_
  have hw : r_6 = 0 := hw
  subst hw
  have hP9 := hP.sub (ws' := [(mm, .inr (10, [.int 2, .ref pl, .ref ig, .ref sl, .ref kl, .int 0, .int 0, .int 0]))]) [3] rfl
  have hD9 := hD.sub (ws' := [(mm, .inr (10, [.int 2, .ref pl, .ref ig, .ref sl, .ref kl, .int 0, .int 0, .int 0]))]) [3] (by decide) rfl
  have hK9 := hK.sub (tys' := []) [] rfl
  refine W.widen (k := 0) (n := 0) (Nat.le_of_ble_eq_true rfl) (Nat.le_of_ble_eq_true rfl) ?_
  exact W.iret (v := 0) hx hb hr (fun t ht hW => ⟨⟨0, (), rfl, rfl, po_mk ht hW hP9 hK9 hD9⟩, hS.F ht⟩) hS.2.2 dX8_share_33

set_option maxHeartbeats 4000000 in
set_option maxRecDepth 100000 in
theorem c_X8_share (l : Launch) (dC : Nat → ClassId) (dI : Nat → Nat → Nat) (mm : Nat) (pl : Nat) (ig : Nat) (sl : Nat) (kl : Nat) (dz : Nat) (a0 : Int32) (a1 : Int32) (a2 : Int32) (sz : Nat) (g0a : ¬ a0 < 0) (g0b : ¬ 3 < a0) (g1a : ¬ a1 < 1) (g1b : ¬ 60 < a1) (g2a : ¬ a2 < 0) (g2b : ¬ 2 < a2) : Met l yX8_share wsX8_share ({ frames := 6, cells := 4, slots := 20, locals := 160 }) (va_Pc [.ref mm, .int a0, .int a1, .int a2] (fun U => pr_ dC dI [(mm, .inr (10, [.int 0, .ref pl, .ref ig, .ref sl, .ref kl, .int 0, .int 0, .int 0])), (pl, .inr (1, [.int 0, .ref dz, .int 0])), (sl, .inr (1, [.int 0, .ref dz, .int 0])), (kl, .inr (1, [.int 0, .ref dz, .int 0]))] [] sz U ∧ mo_  U)) (va_Qi (fun (r : Int32) (_ : Unit) => r = 0) (fun (_ : Unit) t => po_ dC dI [(mm, .inr (10, [.int 0, .ref pl, .ref ig, .ref sl, .ref kl, .int 0, .int 0, .int 0]))] [] (va_A [(mm, .inr (10, [.int 0, .ref pl, .ref ig, .ref sl, .ref kl, .int 0, .int 0, .int 0])), (pl, .inr (1, [.int 0, .ref dz, .int 0])), (sl, .inr (1, [.int 0, .ref dz, .int 0])), (kl, .inr (1, [.int 0, .ref dz, .int 0]))] sz) t) (va_A [(mm, .inr (10, [.int 0, .ref pl, .ref ig, .ref sl, .ref kl, .int 0, .int 0, .int 0])), (pl, .inr (1, [.int 0, .ref dz, .int 0])), (sl, .inr (1, [.int 0, .ref dz, .int 0])), (kl, .inr (1, [.int 0, .ref dz, .int 0]))] sz)) 4 20 (va_A [(mm, .inr (10, [.int 0, .ref pl, .ref ig, .ref sl, .ref kl, .int 0, .int 0, .int 0])), (pl, .inr (1, [.int 0, .ref dz, .int 0])), (sl, .inr (1, [.int 0, .ref dz, .int 0])), (kl, .inr (1, [.int 0, .ref dz, .int 0]))] sz) := by
  refine Met.ofW (cc := cX8_share) (maxL := 4) (ret := (some .int)) (by decide) rfl ?_
  intro p e s m args below meth c s₁ B hml hv
  obtain ⟨rfl, ⟨hsz, hP, hK, hD0⟩, hXs⟩ := hv
  have hx := B.exec
  have hb := B.bytes
  have hr := B.returns
  have hts := atoms_spec (ws := wsX8_share) B.pre
  have hown : s.vm.findClass RX8 = some m.cls := findClass_of_methodNamed B.named
  have hlocks := B.notSynchronized
  subst hsz
  have hD := hD0.self (sz := s.heap.size)
  generalize hAe : va_A [(mm, .inr (10, [.int 0, .ref pl, .ref ig, .ref sl, .ref kl, .int 0, .int 0, .int 0])), (pl, .inr (1, [.int 0, .ref dz, .int 0])), (sl, .inr (1, [.int 0, .ref dz, .int 0])), (kl, .inr (1, [.int 0, .ref dz, .int 0]))] s.heap.size = A at hD ⊢
  have hA : ∀ q : Nat, s.heap.size ≤ q → A q := fun q h => by rw [← hAe]; exact Or.inr h
  have hS : va_S A s.heap s.heap [] := va_S.rf
  have hP : va_P (dC, dI) vwCl [(mm, .inr (10, [.int 0, .ref pl, .ref ig, .ref sl, .ref kl, .int 0, .int 0, .int 0])), (pl, .inr (1, [.int 0, .ref dz, .int 0])), (sl, .inr (1, [.int 0, .ref dz, .int 0])), (kl, .inr (1, [.int 0, .ref dz, .int 0]))] s.heap := hP
  have hK : va_K (dC, dI) vwCl [] s := hK
  have hl := lv_entry ([.ref mm, .int a0, .int a1, .int a2]) (n := 4) (Nat.le_of_ble_eq_true rfl)
  rw [lg_entry_eq]
  generalize (lg_sl ([.ref mm, .int a0, .int a1, .int a2]) ++ List.replicate (4 - (lg_sl ([.ref mm, .int a0, .int a1, .int a2])).length) Slot.unset).toArray = ls at hl ⊢
  have hl : lv_has ls 4 [(0, .ref mm), (1, .int a0), (2, .int a1), (3, .int a2)] := hl
  refine lv_aload_n hx hb dX8_share_0 rfl (lv_at hl 0 rfl) ?_
  refine lv_iconst (v := 0) hx hb dX8_share_1 (by decide) ?_
  have hinX8 : ∀ w ∈ u_ws RX8 TX8 8, w ∈ wsX8_share := by decide +kernel
  refine va_put (D := (dC, dI)) (ci := 10) (v := .int 0) (ty := .int) (C := RX8) (T := TX8) (N := 8) hx hb hts hinX8 tyX8 tyX8_ok nmX8 hown hK hP hD hS 0 rfl rfl 0 (by decide) (hts (.fieldLink RX8 26 "BallotLoomModel" "thrown" "I") (by decide +kernel)) (fun _ h9 => h9) rfl (by decide +kernel) rfl rfl (Nat.le_of_ble_eq_true rfl) dX8_share_2 (fun H locs hP hD hS => ?_)
  have hP : va_P (dC, dI) vwCl [(mm, .inr (10, [.int 0, .ref pl, .ref ig, .ref sl, .ref kl, .int 0, .int 0, .int 0])), (pl, .inr (1, [.int 0, .ref dz, .int 0])), (sl, .inr (1, [.int 0, .ref dz, .int 0])), (kl, .inr (1, [.int 0, .ref dz, .int 0]))] H := hP
  have hD : va_D A [(mm, .inr (10, [.int 0, .ref pl, .ref ig, .ref sl, .ref kl, .int 0, .int 0, .int 0])), (pl, .inr (1, [.int 0, .ref dz, .int 0])), (sl, .inr (1, [.int 0, .ref dz, .int 0])), (kl, .inr (1, [.int 0, .ref dz, .int 0]))] := hD
  refine lv_iload_n hx hb dX8_share_5 rfl (lv_at hl 1 rfl) ?_
  refine lv_iconst (v := 0) hx hb dX8_share_6 (by decide) ?_
  refine lv_iconst (v := 3) hx hb dX8_share_7 (by decide) ?_
  have hPc := hP.sub (ws' := []) [] rfl
  have hDc := hD.sub (ws' := []) [] (by decide) rfl
  have hKc := hK.sub (tys' := []) [] rfl
  have hFc := va_free (wc := []) hD hS hA [] rfl
  refine va_calli (va_runS (As := [.int a0, .int 0, .int 3]) (rest := []) ⟨hx, hb, hml, hown, hts⟩ (c_X8_in l dC dI a0 (0 : Int32) (3 : Int32) _ g0a g0b) (va_cwS 3 hts gX8_share_X8_in rfl rfl rfl (by decide +kernel) ⟨Nat.le_of_ble_eq_true rfl, Nat.le_of_ble_eq_true rfl⟩) ⟨pr_blind, fun U hU hW => ⟨rfl, pr_mk hU hW hPc hKc hDc⟩⟩ rfl rfl hl.1 rfl (lv_room (Nat.le_of_ble_eq_true rfl)) dX8_share_8 ⟨Nat.le_of_ble_eq_true rfl, Nat.le_of_ble_eq_true rfl⟩) hS (fun q _ h => hFc q h) hFc (fun r_2 u_1 t H1 locs ht hvm hw hB hz1 hk1 hS => ?_)
  obtain ⟨hP1, hK1, hD1⟩ := hB
  rw [ht] at hP1
  obtain ⟨hP, hD⟩ := va_join (wr := [(mm, .inr (10, [.int 0, .ref pl, .ref ig, .ref sl, .ref kl, .int 0, .int 0, .int 0])), (pl, .inr (1, [.int 0, .ref dz, .int 0])), (sl, .inr (1, [.int 0, .ref dz, .int 0])), (kl, .inr (1, [.int 0, .ref dz, .int 0]))]) (w1 := []) hP hD [] [0, 1, 2, 3] rfl rfl (by decide) (by decide) hk1 hFc hP1 hD1
  generalize H1 = H at hP hS ⊢
  have hP : va_P (dC, dI) vwCl [(mm, .inr (10, [.int 0, .ref pl, .ref ig, .ref sl, .ref kl, .int 0, .int 0, .int 0])), (pl, .inr (1, [.int 0, .ref dz, .int 0])), (sl, .inr (1, [.int 0, .ref dz, .int 0])), (kl, .inr (1, [.int 0, .ref dz, .int 0]))] H := hP
  have hD : va_D A [(mm, .inr (10, [.int 0, .ref pl, .ref ig, .ref sl, .ref kl, .int 0, .int 0, .int 0])), (pl, .inr (1, [.int 0, .ref dz, .int 0])), (sl, .inr (1, [.int 0, .ref dz, .int 0])), (kl, .inr (1, [.int 0, .ref dz, .int 0]))] := hD
  refine W.widen (k := 0) (n := 0) (Nat.le_refl _) (Nat.le_refl _) ?_
  have hw : r_2 = 1 := hw
  subst hw
  refine lv_if_ne (tgt := 20) hx hb dX8_share_11 (by decide) (fun _ => ?_) (fun h9 => absurd h9 (by decide))
  refine lv_iload_n hx hb dX8_share_20 rfl (lv_at hl 2 rfl) ?_
  refine lv_iload_n hx hb dX8_share_21 rfl (lv_at hl 3 rfl) ?_
  have hPc := hP.sub (ws' := []) [] rfl
  have hDc := hD.sub (ws' := []) [] (by decide) rfl
  have hKc := hK.sub (tys' := []) [] rfl
  have hFc := va_free (wc := []) hD hS hA [] rfl
  refine va_calli (va_runS (As := [.int a1, .int a2]) (rest := []) ⟨hx, hb, hml, hown, hts⟩ (c_X8_isHouse l dC dI a1 a2 _ g1a g1b g2a g2b) (va_cwS 2 hts gX8_share_X8_isHouse rfl rfl rfl (by decide +kernel) ⟨Nat.le_of_ble_eq_true rfl, Nat.le_of_ble_eq_true rfl⟩) ⟨pr_blind, fun U hU hW => ⟨rfl, pr_mk hU hW hPc hKc hDc⟩⟩ rfl rfl hl.1 rfl (lv_room (Nat.le_of_ble_eq_true rfl)) dX8_share_22 ⟨Nat.le_of_ble_eq_true rfl, Nat.le_of_ble_eq_true rfl⟩) hS (fun q _ h => hFc q h) hFc (fun r_4 u_3 t H1 locs ht hvm hw hB hz1 hk1 hS => ?_)
  obtain ⟨hP1, hK1, hD1⟩ := hB
  rw [ht] at hP1
  obtain ⟨hP, hD⟩ := va_join (wr := [(mm, .inr (10, [.int 0, .ref pl, .ref ig, .ref sl, .ref kl, .int 0, .int 0, .int 0])), (pl, .inr (1, [.int 0, .ref dz, .int 0])), (sl, .inr (1, [.int 0, .ref dz, .int 0])), (kl, .inr (1, [.int 0, .ref dz, .int 0]))]) (w1 := []) hP hD [] [0, 1, 2, 3] rfl rfl (by decide) (by decide) hk1 hFc hP1 hD1
  generalize H1 = H at hP hS ⊢
  have hP : va_P (dC, dI) vwCl [(mm, .inr (10, [.int 0, .ref pl, .ref ig, .ref sl, .ref kl, .int 0, .int 0, .int 0])), (pl, .inr (1, [.int 0, .ref dz, .int 0])), (sl, .inr (1, [.int 0, .ref dz, .int 0])), (kl, .inr (1, [.int 0, .ref dz, .int 0]))] H := hP
  have hD : va_D A [(mm, .inr (10, [.int 0, .ref pl, .ref ig, .ref sl, .ref kl, .int 0, .int 0, .int 0])), (pl, .inr (1, [.int 0, .ref dz, .int 0])), (sl, .inr (1, [.int 0, .ref dz, .int 0])), (kl, .inr (1, [.int 0, .ref dz, .int 0]))] := hD
  refine W.widen (k := 0) (n := 0) (Nat.le_refl _) (Nat.le_refl _) ?_
  have hw : r_4 = 1 := hw
  subst hw
  refine lv_if_ne (tgt := 34) hx hb dX8_share_25 (by decide) (fun _ => ?_) (fun h9 => absurd h9 (by decide))
  refine lv_aload_n hx hb dX8_share_34 rfl (lv_at hl 0 rfl) ?_
  refine lv_iload_n hx hb dX8_share_35 rfl (lv_at hl 2 rfl) ?_
  refine lv_iload_n hx hb dX8_share_36 rfl (lv_at hl 3 rfl) ?_
  have hPc := hP.sub (ws' := [(mm, .inr (10, [.int 0, .ref pl, .ref ig, .ref sl, .ref kl, .int 0, .int 0, .int 0])), (sl, .inr (1, [.int 0, .ref dz, .int 0]))]) [0, 2] rfl
  have hDc := hD.sub (ws' := [(mm, .inr (10, [.int 0, .ref pl, .ref ig, .ref sl, .ref kl, .int 0, .int 0, .int 0])), (sl, .inr (1, [.int 0, .ref dz, .int 0]))]) [0, 2] (by decide) rfl
  have hKc := hK.sub (tys' := []) [] rfl
  have hFc := va_free (wc := [(mm, .inr (10, [.int 0, .ref pl, .ref ig, .ref sl, .ref kl, .int 0, .int 0, .int 0])), (sl, .inr (1, [.int 0, .ref dz, .int 0]))]) hD hS hA [0, 2] rfl
  refine va_callr (va_runV (As := [.int a1, .int a2]) (rest := []) ⟨hx, hb, hml, hown, hts⟩ (c_X8_houseOf l dC dI mm pl ig sl kl dz a1 a2 _ ) (cwV 2 hts gX8_share_X8_houseOf rfl rfl rfl (by decide +kernel) ⟨Nat.le_of_ble_eq_true rfl, Nat.le_of_ble_eq_true rfl⟩) ⟨pe_blind mo_bl, va_recv hKc hPc (ci := 10) (q0 := 0) rfl rfl, fun U hU hW => ⟨rfl, pr_mk hU hW hPc hKc hDc, mo_mk hW hXs⟩⟩ rfl rfl hl.1 rfl (lv_room (Nat.le_of_ble_eq_true rfl)) dX8_share_37 ⟨Nat.le_of_ble_eq_true rfl, Nat.le_of_ble_eq_true rfl⟩) hS (fun q _ h => hFc q h) hFc (fun u_5 r_6 t H1 locs ht hvm hw hB hz1 hk1 hS => ?_)
  obtain ⟨q_7, rfl⟩ : ∃ z, z = u_5 := ⟨_, rfl⟩
  obtain ⟨hP1, hK1, hD1⟩ := hB
  rw [ht] at hP1
  obtain ⟨hP, hD⟩ := va_join (wr := [(pl, .inr (1, [.int 0, .ref dz, .int 0])), (kl, .inr (1, [.int 0, .ref dz, .int 0]))]) (w1 := [(mm, .inr (10, [.int 0, .ref pl, .ref ig, .ref sl, .ref kl, .int 0, .int 0, .int 0])), (sl, .inr (1, [.int 0, .ref dz, .int 0])), (r_6, .inl (q_7, 4, .inl zi))]) hP hD [0, 2] [1, 3] rfl rfl (by decide) (by decide) hk1 hFc hP1 hD1
  have hK := hK.app (va_K.moved hvm.symm hK1)
  have hK : va_K (dC, dI) vwCl [(q_7, .int)] s := hK
  generalize H1 = H at hP hS ⊢
  have hP : va_P (dC, dI) vwCl [(pl, .inr (1, [.int 0, .ref dz, .int 0])), (kl, .inr (1, [.int 0, .ref dz, .int 0])), (mm, .inr (10, [.int 0, .ref pl, .ref ig, .ref sl, .ref kl, .int 0, .int 0, .int 0])), (sl, .inr (1, [.int 0, .ref dz, .int 0])), (r_6, .inl (q_7, 4, .inl zi))] H := hP
  have hD : va_D A [(pl, .inr (1, [.int 0, .ref dz, .int 0])), (kl, .inr (1, [.int 0, .ref dz, .int 0])), (mm, .inr (10, [.int 0, .ref pl, .ref ig, .ref sl, .ref kl, .int 0, .int 0, .int 0])), (sl, .inr (1, [.int 0, .ref dz, .int 0])), (r_6, .inl (q_7, 4, .inl zi))] := hD
  refine W.widen (k := 3) (n := 13) (Nat.le_of_ble_eq_true rfl) (Nat.le_of_ble_eq_true rfl) ?_
  refine lv_iload_n hx hb dX8_share_40 rfl (lv_at hl 1 rfl) ?_
  refine va_iald hx hb hK hP 4 0 rfl rfl (in43 g0a g0b) dX8_share_41 ?_
  refine lv_topi (fun y_8 ey_8 => ?_)
  obtain rfl : y_8 = 0 := ey_8.trans (by rfl)
  have hP9 := hP.sub (ws' := [(mm, .inr (10, [.int 0, .ref pl, .ref ig, .ref sl, .ref kl, .int 0, .int 0, .int 0]))]) [2] rfl
  have hD9 := hD.sub (ws' := [(mm, .inr (10, [.int 0, .ref pl, .ref ig, .ref sl, .ref kl, .int 0, .int 0, .int 0]))]) [2] (by decide) rfl
  have hK9 := hK.sub (tys' := []) [] rfl
  refine W.widen (k := 4) (n := 20) (Nat.le_of_ble_eq_true rfl) (Nat.le_of_ble_eq_true rfl) ?_
  exact W.iret (v := 0) hx hb hr (fun t ht hW => ⟨⟨0, (), rfl, rfl, po_mk ht hW hP9 hK9 hD9⟩, hS.F ht⟩) hS.2.2 dX8_share_42

set_option maxHeartbeats 4000000 in
set_option maxRecDepth 100000 in
theorem c0_X8_swings (l : Launch) (dC : Nat → ClassId) (dI : Nat → Nat → Nat) (mm : Nat) (pl : Nat) (ig : Nat) (sl : Nat) (kl : Nat) (dz : Nat) (a0 : Int32) (a1 : Int32) (a2 : Int32) (sz : Nat) (hbd : a0 < 0 ∨ 3 < a0) : Met l yX8_swings wsX8_swings ({ frames := 5, cells := 0, slots := 0, locals := 140 }) (va_Pc [.ref mm, .int a0, .int a1, .int a2] (fun U => pr_ dC dI [(mm, .inr (10, [.int 0, .ref pl, .ref ig, .ref sl, .ref kl, .int 0, .int 0, .int 0])), (pl, .inr (1, [.int 0, .ref dz, .int 0])), (sl, .inr (1, [.int 0, .ref dz, .int 0])), (kl, .inr (1, [.int 0, .ref dz, .int 0]))] [] sz U ∧ mo_  U)) (va_Qi (fun (r : Int32) (_ : Unit) => r = 0) (fun (_ : Unit) t => po_ dC dI [(mm, .inr (10, [.int 1, .ref pl, .ref ig, .ref sl, .ref kl, .int 0, .int 0, .int 0]))] [] (va_A [(mm, .inr (10, [.int 0, .ref pl, .ref ig, .ref sl, .ref kl, .int 0, .int 0, .int 0])), (pl, .inr (1, [.int 0, .ref dz, .int 0])), (sl, .inr (1, [.int 0, .ref dz, .int 0])), (kl, .inr (1, [.int 0, .ref dz, .int 0]))] sz) t) (va_A [(mm, .inr (10, [.int 0, .ref pl, .ref ig, .ref sl, .ref kl, .int 0, .int 0, .int 0])), (pl, .inr (1, [.int 0, .ref dz, .int 0])), (sl, .inr (1, [.int 0, .ref dz, .int 0])), (kl, .inr (1, [.int 0, .ref dz, .int 0]))] sz)) 0 0 (va_A [(mm, .inr (10, [.int 0, .ref pl, .ref ig, .ref sl, .ref kl, .int 0, .int 0, .int 0])), (pl, .inr (1, [.int 0, .ref dz, .int 0])), (sl, .inr (1, [.int 0, .ref dz, .int 0])), (kl, .inr (1, [.int 0, .ref dz, .int 0]))] sz) := by
  refine Met.ofW (cc := cX8_swings) (maxL := 4) (ret := (some .int)) (by decide) rfl ?_
  intro p e s m args below meth c s₁ B hml hv
  obtain ⟨rfl, ⟨hsz, hP, hK, hD0⟩, hXs⟩ := hv
  have hx := B.exec
  have hb := B.bytes
  have hr := B.returns
  have hts := atoms_spec (ws := wsX8_swings) B.pre
  have hown : s.vm.findClass RX8 = some m.cls := findClass_of_methodNamed B.named
  have hlocks := B.notSynchronized
  subst hsz
  have hD := hD0.self (sz := s.heap.size)
  generalize hAe : va_A [(mm, .inr (10, [.int 0, .ref pl, .ref ig, .ref sl, .ref kl, .int 0, .int 0, .int 0])), (pl, .inr (1, [.int 0, .ref dz, .int 0])), (sl, .inr (1, [.int 0, .ref dz, .int 0])), (kl, .inr (1, [.int 0, .ref dz, .int 0]))] s.heap.size = A at hD ⊢
  have hA : ∀ q : Nat, s.heap.size ≤ q → A q := fun q h => by rw [← hAe]; exact Or.inr h
  have hS : va_S A s.heap s.heap [] := va_S.rf
  have hP : va_P (dC, dI) vwCl [(mm, .inr (10, [.int 0, .ref pl, .ref ig, .ref sl, .ref kl, .int 0, .int 0, .int 0])), (pl, .inr (1, [.int 0, .ref dz, .int 0])), (sl, .inr (1, [.int 0, .ref dz, .int 0])), (kl, .inr (1, [.int 0, .ref dz, .int 0]))] s.heap := hP
  have hK : va_K (dC, dI) vwCl [] s := hK
  have hl := lv_entry ([.ref mm, .int a0, .int a1, .int a2]) (n := 4) (Nat.le_of_ble_eq_true rfl)
  rw [lg_entry_eq]
  generalize (lg_sl ([.ref mm, .int a0, .int a1, .int a2]) ++ List.replicate (4 - (lg_sl ([.ref mm, .int a0, .int a1, .int a2])).length) Slot.unset).toArray = ls at hl ⊢
  have hl : lv_has ls 4 [(0, .ref mm), (1, .int a0), (2, .int a1), (3, .int a2)] := hl
  refine lv_aload_n hx hb dX8_swings_0 rfl (lv_at hl 0 rfl) ?_
  refine lv_iconst (v := 0) hx hb dX8_swings_1 (by decide) ?_
  have hinX8 : ∀ w ∈ u_ws RX8 TX8 8, w ∈ wsX8_swings := by decide +kernel
  refine va_put (D := (dC, dI)) (ci := 10) (v := .int 0) (ty := .int) (C := RX8) (T := TX8) (N := 8) hx hb hts hinX8 tyX8 tyX8_ok nmX8 hown hK hP hD hS 0 rfl rfl 0 (by decide) (hts (.fieldLink RX8 26 "BallotLoomModel" "thrown" "I") (by decide +kernel)) (fun _ h9 => h9) rfl (by decide +kernel) rfl rfl (Nat.le_of_ble_eq_true rfl) dX8_swings_2 (fun H locs hP hD hS => ?_)
  have hP : va_P (dC, dI) vwCl [(mm, .inr (10, [.int 0, .ref pl, .ref ig, .ref sl, .ref kl, .int 0, .int 0, .int 0])), (pl, .inr (1, [.int 0, .ref dz, .int 0])), (sl, .inr (1, [.int 0, .ref dz, .int 0])), (kl, .inr (1, [.int 0, .ref dz, .int 0]))] H := hP
  have hD : va_D A [(mm, .inr (10, [.int 0, .ref pl, .ref ig, .ref sl, .ref kl, .int 0, .int 0, .int 0])), (pl, .inr (1, [.int 0, .ref dz, .int 0])), (sl, .inr (1, [.int 0, .ref dz, .int 0])), (kl, .inr (1, [.int 0, .ref dz, .int 0]))] := hD
  refine lv_iload_n hx hb dX8_swings_5 rfl (lv_at hl 1 rfl) ?_
  refine lv_iconst (v := 0) hx hb dX8_swings_6 (by decide) ?_
  refine lv_iconst (v := 3) hx hb dX8_swings_7 (by decide) ?_
  have hPc := hP.sub (ws' := []) [] rfl
  have hDc := hD.sub (ws' := []) [] (by decide) rfl
  have hKc := hK.sub (tys' := []) [] rfl
  have hFc := va_free (wc := []) hD hS hA [] rfl
  refine va_calli (va_runS (As := [.int a0, .int 0, .int 3]) (rest := []) ⟨hx, hb, hml, hown, hts⟩ (c0_X8_in l dC dI a0 (0 : Int32) (3 : Int32) _ hbd) (va_cwS 3 hts gX8_swings_X8_in rfl rfl rfl (by decide +kernel) ⟨Nat.le_of_ble_eq_true rfl, Nat.le_of_ble_eq_true rfl⟩) ⟨pr_blind, fun U hU hW => ⟨rfl, pr_mk hU hW hPc hKc hDc⟩⟩ rfl rfl hl.1 rfl (lv_room (Nat.le_of_ble_eq_true rfl)) dX8_swings_8 ⟨Nat.le_of_ble_eq_true rfl, Nat.le_of_ble_eq_true rfl⟩) hS (fun q _ h => hFc q h) hFc (fun r_2 u_1 t H1 locs ht hvm hw hB hz1 hk1 hS => ?_)
  obtain ⟨hP1, hK1, hD1⟩ := hB
  rw [ht] at hP1
  obtain ⟨hP, hD⟩ := va_join (wr := [(mm, .inr (10, [.int 0, .ref pl, .ref ig, .ref sl, .ref kl, .int 0, .int 0, .int 0])), (pl, .inr (1, [.int 0, .ref dz, .int 0])), (sl, .inr (1, [.int 0, .ref dz, .int 0])), (kl, .inr (1, [.int 0, .ref dz, .int 0]))]) (w1 := []) hP hD [] [0, 1, 2, 3] rfl rfl (by decide) (by decide) hk1 hFc hP1 hD1
  generalize H1 = H at hP hS ⊢
  have hP : va_P (dC, dI) vwCl [(mm, .inr (10, [.int 0, .ref pl, .ref ig, .ref sl, .ref kl, .int 0, .int 0, .int 0])), (pl, .inr (1, [.int 0, .ref dz, .int 0])), (sl, .inr (1, [.int 0, .ref dz, .int 0])), (kl, .inr (1, [.int 0, .ref dz, .int 0]))] H := hP
  have hD : va_D A [(mm, .inr (10, [.int 0, .ref pl, .ref ig, .ref sl, .ref kl, .int 0, .int 0, .int 0])), (pl, .inr (1, [.int 0, .ref dz, .int 0])), (sl, .inr (1, [.int 0, .ref dz, .int 0])), (kl, .inr (1, [.int 0, .ref dz, .int 0]))] := hD
  refine W.widen (k := 0) (n := 0) (Nat.le_refl _) (Nat.le_refl _) ?_
  have hw : r_2 = 0 := hw
  subst hw
  refine lv_if_ne (tgt := 20) hx hb dX8_swings_11 (by decide) (fun h9 => absurd h9 (by decide)) (fun _ => ?_)
  refine lv_aload_n hx hb dX8_swings_14 rfl (lv_at hl 0 rfl) ?_
  refine lv_iconst (v := 1) hx hb dX8_swings_15 (by decide) ?_
  have hPc := hP.sub (ws' := [(mm, .inr (10, [.int 0, .ref pl, .ref ig, .ref sl, .ref kl, .int 0, .int 0, .int 0]))]) [0] rfl
  have hDc := hD.sub (ws' := [(mm, .inr (10, [.int 0, .ref pl, .ref ig, .ref sl, .ref kl, .int 0, .int 0, .int 0]))]) [0] (by decide) rfl
  have hKc := hK.sub (tys' := []) [] rfl
  have hFc := va_free (wc := [(mm, .inr (10, [.int 0, .ref pl, .ref ig, .ref sl, .ref kl, .int 0, .int 0, .int 0]))]) hD hS hA [0] rfl
  refine va_calli (va_runV (As := [.int 1]) (rest := []) ⟨hx, hb, hml, hown, hts⟩ (c_X8_no l dC dI mm pl ig sl kl (1 : Int32) (0 : Int32) _ ) (cwV 1 hts gX8_swings_X8_no rfl rfl rfl (by decide +kernel) ⟨Nat.le_of_ble_eq_true rfl, Nat.le_of_ble_eq_true rfl⟩) ⟨pr_blind, va_recv hKc hPc (ci := 10) (q0 := 0) rfl rfl, fun U hU hW => ⟨rfl, pr_mk hU hW hPc hKc hDc⟩⟩ rfl rfl hl.1 rfl (lv_room (Nat.le_of_ble_eq_true rfl)) dX8_swings_16 ⟨Nat.le_of_ble_eq_true rfl, Nat.le_of_ble_eq_true rfl⟩) hS (fun q _ h => hFc q h) hFc (fun r_4 u_3 t H1 locs ht hvm hw hB hz1 hk1 hS => ?_)
  obtain ⟨hP1, hK1, hD1⟩ := hB
  rw [ht] at hP1
  obtain ⟨hP, hD⟩ := va_join (wr := [(pl, .inr (1, [.int 0, .ref dz, .int 0])), (sl, .inr (1, [.int 0, .ref dz, .int 0])), (kl, .inr (1, [.int 0, .ref dz, .int 0]))]) (w1 := [(mm, .inr (10, [.int 1, .ref pl, .ref ig, .ref sl, .ref kl, .int 0, .int 0, .int 0]))]) hP hD [0] [1, 2, 3] rfl rfl (by decide) (by decide) hk1 hFc hP1 hD1
  generalize H1 = H at hP hS ⊢
  have hP : va_P (dC, dI) vwCl [(pl, .inr (1, [.int 0, .ref dz, .int 0])), (sl, .inr (1, [.int 0, .ref dz, .int 0])), (kl, .inr (1, [.int 0, .ref dz, .int 0])), (mm, .inr (10, [.int 1, .ref pl, .ref ig, .ref sl, .ref kl, .int 0, .int 0, .int 0]))] H := hP
  have hD : va_D A [(pl, .inr (1, [.int 0, .ref dz, .int 0])), (sl, .inr (1, [.int 0, .ref dz, .int 0])), (kl, .inr (1, [.int 0, .ref dz, .int 0])), (mm, .inr (10, [.int 1, .ref pl, .ref ig, .ref sl, .ref kl, .int 0, .int 0, .int 0]))] := hD
  refine W.widen (k := 0) (n := 0) (Nat.le_refl _) (Nat.le_refl _) ?_
  have hw : r_4 = 0 := hw
  subst hw
  have hP9 := hP.sub (ws' := [(mm, .inr (10, [.int 1, .ref pl, .ref ig, .ref sl, .ref kl, .int 0, .int 0, .int 0]))]) [3] rfl
  have hD9 := hD.sub (ws' := [(mm, .inr (10, [.int 1, .ref pl, .ref ig, .ref sl, .ref kl, .int 0, .int 0, .int 0]))]) [3] (by decide) rfl
  have hK9 := hK.sub (tys' := []) [] rfl
  refine W.widen (k := 0) (n := 0) (Nat.le_of_ble_eq_true rfl) (Nat.le_of_ble_eq_true rfl) ?_
  exact W.iret (v := 0) hx hb hr (fun t ht hW => ⟨⟨0, (), rfl, rfl, po_mk ht hW hP9 hK9 hD9⟩, hS.F ht⟩) hS.2.2 dX8_swings_19

set_option maxHeartbeats 4000000 in
set_option maxRecDepth 100000 in
theorem c1_X8_swings (l : Launch) (dC : Nat → ClassId) (dI : Nat → Nat → Nat) (mm : Nat) (pl : Nat) (ig : Nat) (sl : Nat) (kl : Nat) (dz : Nat) (a0 : Int32) (a1 : Int32) (a2 : Int32) (sz : Nat) (g0a : ¬ a0 < 0) (g0b : ¬ 3 < a0) (hbd : a1 < 1 ∨ 60 < a1) : Met l yX8_swings wsX8_swings ({ frames := 5, cells := 0, slots := 0, locals := 140 }) (va_Pc [.ref mm, .int a0, .int a1, .int a2] (fun U => pr_ dC dI [(mm, .inr (10, [.int 0, .ref pl, .ref ig, .ref sl, .ref kl, .int 0, .int 0, .int 0])), (pl, .inr (1, [.int 0, .ref dz, .int 0])), (sl, .inr (1, [.int 0, .ref dz, .int 0])), (kl, .inr (1, [.int 0, .ref dz, .int 0]))] [] sz U ∧ mo_  U)) (va_Qi (fun (r : Int32) (_ : Unit) => r = 0) (fun (_ : Unit) t => po_ dC dI [(mm, .inr (10, [.int 2, .ref pl, .ref ig, .ref sl, .ref kl, .int 0, .int 0, .int 0]))] [] (va_A [(mm, .inr (10, [.int 0, .ref pl, .ref ig, .ref sl, .ref kl, .int 0, .int 0, .int 0])), (pl, .inr (1, [.int 0, .ref dz, .int 0])), (sl, .inr (1, [.int 0, .ref dz, .int 0])), (kl, .inr (1, [.int 0, .ref dz, .int 0]))] sz) t) (va_A [(mm, .inr (10, [.int 0, .ref pl, .ref ig, .ref sl, .ref kl, .int 0, .int 0, .int 0])), (pl, .inr (1, [.int 0, .ref dz, .int 0])), (sl, .inr (1, [.int 0, .ref dz, .int 0])), (kl, .inr (1, [.int 0, .ref dz, .int 0]))] sz)) 0 0 (va_A [(mm, .inr (10, [.int 0, .ref pl, .ref ig, .ref sl, .ref kl, .int 0, .int 0, .int 0])), (pl, .inr (1, [.int 0, .ref dz, .int 0])), (sl, .inr (1, [.int 0, .ref dz, .int 0])), (kl, .inr (1, [.int 0, .ref dz, .int 0]))] sz) := by
  refine Met.ofW (cc := cX8_swings) (maxL := 4) (ret := (some .int)) (by decide) rfl ?_
  intro p e s m args below meth c s₁ B hml hv
  obtain ⟨rfl, ⟨hsz, hP, hK, hD0⟩, hXs⟩ := hv
  have hx := B.exec
  have hb := B.bytes
  have hr := B.returns
  have hts := atoms_spec (ws := wsX8_swings) B.pre
  have hown : s.vm.findClass RX8 = some m.cls := findClass_of_methodNamed B.named
  have hlocks := B.notSynchronized
  subst hsz
  have hD := hD0.self (sz := s.heap.size)
  generalize hAe : va_A [(mm, .inr (10, [.int 0, .ref pl, .ref ig, .ref sl, .ref kl, .int 0, .int 0, .int 0])), (pl, .inr (1, [.int 0, .ref dz, .int 0])), (sl, .inr (1, [.int 0, .ref dz, .int 0])), (kl, .inr (1, [.int 0, .ref dz, .int 0]))] s.heap.size = A at hD ⊢
  have hA : ∀ q : Nat, s.heap.size ≤ q → A q := fun q h => by rw [← hAe]; exact Or.inr h
  have hS : va_S A s.heap s.heap [] := va_S.rf
  have hP : va_P (dC, dI) vwCl [(mm, .inr (10, [.int 0, .ref pl, .ref ig, .ref sl, .ref kl, .int 0, .int 0, .int 0])), (pl, .inr (1, [.int 0, .ref dz, .int 0])), (sl, .inr (1, [.int 0, .ref dz, .int 0])), (kl, .inr (1, [.int 0, .ref dz, .int 0]))] s.heap := hP
  have hK : va_K (dC, dI) vwCl [] s := hK
  have hl := lv_entry ([.ref mm, .int a0, .int a1, .int a2]) (n := 4) (Nat.le_of_ble_eq_true rfl)
  rw [lg_entry_eq]
  generalize (lg_sl ([.ref mm, .int a0, .int a1, .int a2]) ++ List.replicate (4 - (lg_sl ([.ref mm, .int a0, .int a1, .int a2])).length) Slot.unset).toArray = ls at hl ⊢
  have hl : lv_has ls 4 [(0, .ref mm), (1, .int a0), (2, .int a1), (3, .int a2)] := hl
  refine lv_aload_n hx hb dX8_swings_0 rfl (lv_at hl 0 rfl) ?_
  refine lv_iconst (v := 0) hx hb dX8_swings_1 (by decide) ?_
  have hinX8 : ∀ w ∈ u_ws RX8 TX8 8, w ∈ wsX8_swings := by decide +kernel
  refine va_put (D := (dC, dI)) (ci := 10) (v := .int 0) (ty := .int) (C := RX8) (T := TX8) (N := 8) hx hb hts hinX8 tyX8 tyX8_ok nmX8 hown hK hP hD hS 0 rfl rfl 0 (by decide) (hts (.fieldLink RX8 26 "BallotLoomModel" "thrown" "I") (by decide +kernel)) (fun _ h9 => h9) rfl (by decide +kernel) rfl rfl (Nat.le_of_ble_eq_true rfl) dX8_swings_2 (fun H locs hP hD hS => ?_)
  have hP : va_P (dC, dI) vwCl [(mm, .inr (10, [.int 0, .ref pl, .ref ig, .ref sl, .ref kl, .int 0, .int 0, .int 0])), (pl, .inr (1, [.int 0, .ref dz, .int 0])), (sl, .inr (1, [.int 0, .ref dz, .int 0])), (kl, .inr (1, [.int 0, .ref dz, .int 0]))] H := hP
  have hD : va_D A [(mm, .inr (10, [.int 0, .ref pl, .ref ig, .ref sl, .ref kl, .int 0, .int 0, .int 0])), (pl, .inr (1, [.int 0, .ref dz, .int 0])), (sl, .inr (1, [.int 0, .ref dz, .int 0])), (kl, .inr (1, [.int 0, .ref dz, .int 0]))] := hD
  refine lv_iload_n hx hb dX8_swings_5 rfl (lv_at hl 1 rfl) ?_
  refine lv_iconst (v := 0) hx hb dX8_swings_6 (by decide) ?_
  refine lv_iconst (v := 3) hx hb dX8_swings_7 (by decide) ?_
  have hPc := hP.sub (ws' := []) [] rfl
  have hDc := hD.sub (ws' := []) [] (by decide) rfl
  have hKc := hK.sub (tys' := []) [] rfl
  have hFc := va_free (wc := []) hD hS hA [] rfl
  refine va_calli (va_runS (As := [.int a0, .int 0, .int 3]) (rest := []) ⟨hx, hb, hml, hown, hts⟩ (c_X8_in l dC dI a0 (0 : Int32) (3 : Int32) _ g0a g0b) (va_cwS 3 hts gX8_swings_X8_in rfl rfl rfl (by decide +kernel) ⟨Nat.le_of_ble_eq_true rfl, Nat.le_of_ble_eq_true rfl⟩) ⟨pr_blind, fun U hU hW => ⟨rfl, pr_mk hU hW hPc hKc hDc⟩⟩ rfl rfl hl.1 rfl (lv_room (Nat.le_of_ble_eq_true rfl)) dX8_swings_8 ⟨Nat.le_of_ble_eq_true rfl, Nat.le_of_ble_eq_true rfl⟩) hS (fun q _ h => hFc q h) hFc (fun r_2 u_1 t H1 locs ht hvm hw hB hz1 hk1 hS => ?_)
  obtain ⟨hP1, hK1, hD1⟩ := hB
  rw [ht] at hP1
  obtain ⟨hP, hD⟩ := va_join (wr := [(mm, .inr (10, [.int 0, .ref pl, .ref ig, .ref sl, .ref kl, .int 0, .int 0, .int 0])), (pl, .inr (1, [.int 0, .ref dz, .int 0])), (sl, .inr (1, [.int 0, .ref dz, .int 0])), (kl, .inr (1, [.int 0, .ref dz, .int 0]))]) (w1 := []) hP hD [] [0, 1, 2, 3] rfl rfl (by decide) (by decide) hk1 hFc hP1 hD1
  generalize H1 = H at hP hS ⊢
  have hP : va_P (dC, dI) vwCl [(mm, .inr (10, [.int 0, .ref pl, .ref ig, .ref sl, .ref kl, .int 0, .int 0, .int 0])), (pl, .inr (1, [.int 0, .ref dz, .int 0])), (sl, .inr (1, [.int 0, .ref dz, .int 0])), (kl, .inr (1, [.int 0, .ref dz, .int 0]))] H := hP
  have hD : va_D A [(mm, .inr (10, [.int 0, .ref pl, .ref ig, .ref sl, .ref kl, .int 0, .int 0, .int 0])), (pl, .inr (1, [.int 0, .ref dz, .int 0])), (sl, .inr (1, [.int 0, .ref dz, .int 0])), (kl, .inr (1, [.int 0, .ref dz, .int 0]))] := hD
  refine W.widen (k := 0) (n := 0) (Nat.le_refl _) (Nat.le_refl _) ?_
  have hw : r_2 = 1 := hw
  subst hw
  refine lv_if_ne (tgt := 20) hx hb dX8_swings_11 (by decide) (fun _ => ?_) (fun h9 => absurd h9 (by decide))
  refine lv_iload_n hx hb dX8_swings_20 rfl (lv_at hl 2 rfl) ?_
  refine lv_iload_n hx hb dX8_swings_21 rfl (lv_at hl 3 rfl) ?_
  have hPc := hP.sub (ws' := []) [] rfl
  have hDc := hD.sub (ws' := []) [] (by decide) rfl
  have hKc := hK.sub (tys' := []) [] rfl
  have hFc := va_free (wc := []) hD hS hA [] rfl
  refine va_calli (va_runS (As := [.int a1, .int a2]) (rest := []) ⟨hx, hb, hml, hown, hts⟩ (c0_X8_isHouse l dC dI a1 a2 _ hbd) (va_cwS 2 hts gX8_swings_X8_isHouse rfl rfl rfl (by decide +kernel) ⟨Nat.le_of_ble_eq_true rfl, Nat.le_of_ble_eq_true rfl⟩) ⟨pr_blind, fun U hU hW => ⟨rfl, pr_mk hU hW hPc hKc hDc⟩⟩ rfl rfl hl.1 rfl (lv_room (Nat.le_of_ble_eq_true rfl)) dX8_swings_22 ⟨Nat.le_of_ble_eq_true rfl, Nat.le_of_ble_eq_true rfl⟩) hS (fun q _ h => hFc q h) hFc (fun r_4 u_3 t H1 locs ht hvm hw hB hz1 hk1 hS => ?_)
  obtain ⟨hP1, hK1, hD1⟩ := hB
  rw [ht] at hP1
  obtain ⟨hP, hD⟩ := va_join (wr := [(mm, .inr (10, [.int 0, .ref pl, .ref ig, .ref sl, .ref kl, .int 0, .int 0, .int 0])), (pl, .inr (1, [.int 0, .ref dz, .int 0])), (sl, .inr (1, [.int 0, .ref dz, .int 0])), (kl, .inr (1, [.int 0, .ref dz, .int 0]))]) (w1 := []) hP hD [] [0, 1, 2, 3] rfl rfl (by decide) (by decide) hk1 hFc hP1 hD1
  generalize H1 = H at hP hS ⊢
  have hP : va_P (dC, dI) vwCl [(mm, .inr (10, [.int 0, .ref pl, .ref ig, .ref sl, .ref kl, .int 0, .int 0, .int 0])), (pl, .inr (1, [.int 0, .ref dz, .int 0])), (sl, .inr (1, [.int 0, .ref dz, .int 0])), (kl, .inr (1, [.int 0, .ref dz, .int 0]))] H := hP
  have hD : va_D A [(mm, .inr (10, [.int 0, .ref pl, .ref ig, .ref sl, .ref kl, .int 0, .int 0, .int 0])), (pl, .inr (1, [.int 0, .ref dz, .int 0])), (sl, .inr (1, [.int 0, .ref dz, .int 0])), (kl, .inr (1, [.int 0, .ref dz, .int 0]))] := hD
  refine W.widen (k := 0) (n := 0) (Nat.le_refl _) (Nat.le_refl _) ?_
  have hw : r_4 = 0 := hw
  subst hw
  refine lv_if_ne (tgt := 34) hx hb dX8_swings_25 (by decide) (fun h9 => absurd h9 (by decide)) (fun _ => ?_)
  refine lv_aload_n hx hb dX8_swings_28 rfl (lv_at hl 0 rfl) ?_
  refine lv_iconst (v := 2) hx hb dX8_swings_29 (by decide) ?_
  have hPc := hP.sub (ws' := [(mm, .inr (10, [.int 0, .ref pl, .ref ig, .ref sl, .ref kl, .int 0, .int 0, .int 0]))]) [0] rfl
  have hDc := hD.sub (ws' := [(mm, .inr (10, [.int 0, .ref pl, .ref ig, .ref sl, .ref kl, .int 0, .int 0, .int 0]))]) [0] (by decide) rfl
  have hKc := hK.sub (tys' := []) [] rfl
  have hFc := va_free (wc := [(mm, .inr (10, [.int 0, .ref pl, .ref ig, .ref sl, .ref kl, .int 0, .int 0, .int 0]))]) hD hS hA [0] rfl
  refine va_calli (va_runV (As := [.int 2]) (rest := []) ⟨hx, hb, hml, hown, hts⟩ (c_X8_no l dC dI mm pl ig sl kl (2 : Int32) (0 : Int32) _ ) (cwV 1 hts gX8_swings_X8_no rfl rfl rfl (by decide +kernel) ⟨Nat.le_of_ble_eq_true rfl, Nat.le_of_ble_eq_true rfl⟩) ⟨pr_blind, va_recv hKc hPc (ci := 10) (q0 := 0) rfl rfl, fun U hU hW => ⟨rfl, pr_mk hU hW hPc hKc hDc⟩⟩ rfl rfl hl.1 rfl (lv_room (Nat.le_of_ble_eq_true rfl)) dX8_swings_30 ⟨Nat.le_of_ble_eq_true rfl, Nat.le_of_ble_eq_true rfl⟩) hS (fun q _ h => hFc q h) hFc (fun r_6 u_5 t H1 locs ht hvm hw hB hz1 hk1 hS => ?_)
  obtain ⟨hP1, hK1, hD1⟩ := hB
  rw [ht] at hP1
  obtain ⟨hP, hD⟩ := va_join (wr := [(pl, .inr (1, [.int 0, .ref dz, .int 0])), (sl, .inr (1, [.int 0, .ref dz, .int 0])), (kl, .inr (1, [.int 0, .ref dz, .int 0]))]) (w1 := [(mm, .inr (10, [.int 2, .ref pl, .ref ig, .ref sl, .ref kl, .int 0, .int 0, .int 0]))]) hP hD [0] [1, 2, 3] rfl rfl (by decide) (by decide) hk1 hFc hP1 hD1
  generalize H1 = H at hP hS ⊢
  have hP : va_P (dC, dI) vwCl [(pl, .inr (1, [.int 0, .ref dz, .int 0])), (sl, .inr (1, [.int 0, .ref dz, .int 0])), (kl, .inr (1, [.int 0, .ref dz, .int 0])), (mm, .inr (10, [.int 2, .ref pl, .ref ig, .ref sl, .ref kl, .int 0, .int 0, .int 0]))] H := hP
  have hD : va_D A [(pl, .inr (1, [.int 0, .ref dz, .int 0])), (sl, .inr (1, [.int 0, .ref dz, .int 0])), (kl, .inr (1, [.int 0, .ref dz, .int 0])), (mm, .inr (10, [.int 2, .ref pl, .ref ig, .ref sl, .ref kl, .int 0, .int 0, .int 0]))] := hD
  refine W.widen (k := 0) (n := 0) (Nat.le_refl _) (Nat.le_refl _) ?_
  have hw : r_6 = 0 := hw
  subst hw
  have hP9 := hP.sub (ws' := [(mm, .inr (10, [.int 2, .ref pl, .ref ig, .ref sl, .ref kl, .int 0, .int 0, .int 0]))]) [3] rfl
  have hD9 := hD.sub (ws' := [(mm, .inr (10, [.int 2, .ref pl, .ref ig, .ref sl, .ref kl, .int 0, .int 0, .int 0]))]) [3] (by decide) rfl
  have hK9 := hK.sub (tys' := []) [] rfl
  refine W.widen (k := 0) (n := 0) (Nat.le_of_ble_eq_true rfl) (Nat.le_of_ble_eq_true rfl) ?_
  exact W.iret (v := 0) hx hb hr (fun t ht hW => ⟨⟨0, (), rfl, rfl, po_mk ht hW hP9 hK9 hD9⟩, hS.F ht⟩) hS.2.2 dX8_swings_33

set_option maxHeartbeats 4000000 in
set_option maxRecDepth 100000 in
theorem c2_X8_swings (l : Launch) (dC : Nat → ClassId) (dI : Nat → Nat → Nat) (mm : Nat) (pl : Nat) (ig : Nat) (sl : Nat) (kl : Nat) (dz : Nat) (a0 : Int32) (a1 : Int32) (a2 : Int32) (sz : Nat) (g0a : ¬ a0 < 0) (g0b : ¬ 3 < a0) (g1a : ¬ a1 < 1) (g1b : ¬ 60 < a1) (hbd : a2 < 0 ∨ 2 < a2) : Met l yX8_swings wsX8_swings ({ frames := 5, cells := 0, slots := 0, locals := 140 }) (va_Pc [.ref mm, .int a0, .int a1, .int a2] (fun U => pr_ dC dI [(mm, .inr (10, [.int 0, .ref pl, .ref ig, .ref sl, .ref kl, .int 0, .int 0, .int 0])), (pl, .inr (1, [.int 0, .ref dz, .int 0])), (sl, .inr (1, [.int 0, .ref dz, .int 0])), (kl, .inr (1, [.int 0, .ref dz, .int 0]))] [] sz U ∧ mo_  U)) (va_Qi (fun (r : Int32) (_ : Unit) => r = 0) (fun (_ : Unit) t => po_ dC dI [(mm, .inr (10, [.int 2, .ref pl, .ref ig, .ref sl, .ref kl, .int 0, .int 0, .int 0]))] [] (va_A [(mm, .inr (10, [.int 0, .ref pl, .ref ig, .ref sl, .ref kl, .int 0, .int 0, .int 0])), (pl, .inr (1, [.int 0, .ref dz, .int 0])), (sl, .inr (1, [.int 0, .ref dz, .int 0])), (kl, .inr (1, [.int 0, .ref dz, .int 0]))] sz) t) (va_A [(mm, .inr (10, [.int 0, .ref pl, .ref ig, .ref sl, .ref kl, .int 0, .int 0, .int 0])), (pl, .inr (1, [.int 0, .ref dz, .int 0])), (sl, .inr (1, [.int 0, .ref dz, .int 0])), (kl, .inr (1, [.int 0, .ref dz, .int 0]))] sz)) 0 0 (va_A [(mm, .inr (10, [.int 0, .ref pl, .ref ig, .ref sl, .ref kl, .int 0, .int 0, .int 0])), (pl, .inr (1, [.int 0, .ref dz, .int 0])), (sl, .inr (1, [.int 0, .ref dz, .int 0])), (kl, .inr (1, [.int 0, .ref dz, .int 0]))] sz) := by
  refine Met.ofW (cc := cX8_swings) (maxL := 4) (ret := (some .int)) (by decide) rfl ?_
  intro p e s m args below meth c s₁ B hml hv
  obtain ⟨rfl, ⟨hsz, hP, hK, hD0⟩, hXs⟩ := hv
  have hx := B.exec
  have hb := B.bytes
  have hr := B.returns
  have hts := atoms_spec (ws := wsX8_swings) B.pre
  have hown : s.vm.findClass RX8 = some m.cls := findClass_of_methodNamed B.named
  have hlocks := B.notSynchronized
  subst hsz
  have hD := hD0.self (sz := s.heap.size)
  generalize hAe : va_A [(mm, .inr (10, [.int 0, .ref pl, .ref ig, .ref sl, .ref kl, .int 0, .int 0, .int 0])), (pl, .inr (1, [.int 0, .ref dz, .int 0])), (sl, .inr (1, [.int 0, .ref dz, .int 0])), (kl, .inr (1, [.int 0, .ref dz, .int 0]))] s.heap.size = A at hD ⊢
  have hA : ∀ q : Nat, s.heap.size ≤ q → A q := fun q h => by rw [← hAe]; exact Or.inr h
  have hS : va_S A s.heap s.heap [] := va_S.rf
  have hP : va_P (dC, dI) vwCl [(mm, .inr (10, [.int 0, .ref pl, .ref ig, .ref sl, .ref kl, .int 0, .int 0, .int 0])), (pl, .inr (1, [.int 0, .ref dz, .int 0])), (sl, .inr (1, [.int 0, .ref dz, .int 0])), (kl, .inr (1, [.int 0, .ref dz, .int 0]))] s.heap := hP
  have hK : va_K (dC, dI) vwCl [] s := hK
  have hl := lv_entry ([.ref mm, .int a0, .int a1, .int a2]) (n := 4) (Nat.le_of_ble_eq_true rfl)
  rw [lg_entry_eq]
  generalize (lg_sl ([.ref mm, .int a0, .int a1, .int a2]) ++ List.replicate (4 - (lg_sl ([.ref mm, .int a0, .int a1, .int a2])).length) Slot.unset).toArray = ls at hl ⊢
  have hl : lv_has ls 4 [(0, .ref mm), (1, .int a0), (2, .int a1), (3, .int a2)] := hl
  refine lv_aload_n hx hb dX8_swings_0 rfl (lv_at hl 0 rfl) ?_
  refine lv_iconst (v := 0) hx hb dX8_swings_1 (by decide) ?_
  have hinX8 : ∀ w ∈ u_ws RX8 TX8 8, w ∈ wsX8_swings := by decide +kernel
  refine va_put (D := (dC, dI)) (ci := 10) (v := .int 0) (ty := .int) (C := RX8) (T := TX8) (N := 8) hx hb hts hinX8 tyX8 tyX8_ok nmX8 hown hK hP hD hS 0 rfl rfl 0 (by decide) (hts (.fieldLink RX8 26 "BallotLoomModel" "thrown" "I") (by decide +kernel)) (fun _ h9 => h9) rfl (by decide +kernel) rfl rfl (Nat.le_of_ble_eq_true rfl) dX8_swings_2 (fun H locs hP hD hS => ?_)
  have hP : va_P (dC, dI) vwCl [(mm, .inr (10, [.int 0, .ref pl, .ref ig, .ref sl, .ref kl, .int 0, .int 0, .int 0])), (pl, .inr (1, [.int 0, .ref dz, .int 0])), (sl, .inr (1, [.int 0, .ref dz, .int 0])), (kl, .inr (1, [.int 0, .ref dz, .int 0]))] H := hP
  have hD : va_D A [(mm, .inr (10, [.int 0, .ref pl, .ref ig, .ref sl, .ref kl, .int 0, .int 0, .int 0])), (pl, .inr (1, [.int 0, .ref dz, .int 0])), (sl, .inr (1, [.int 0, .ref dz, .int 0])), (kl, .inr (1, [.int 0, .ref dz, .int 0]))] := hD
  refine lv_iload_n hx hb dX8_swings_5 rfl (lv_at hl 1 rfl) ?_
  refine lv_iconst (v := 0) hx hb dX8_swings_6 (by decide) ?_
  refine lv_iconst (v := 3) hx hb dX8_swings_7 (by decide) ?_
  have hPc := hP.sub (ws' := []) [] rfl
  have hDc := hD.sub (ws' := []) [] (by decide) rfl
  have hKc := hK.sub (tys' := []) [] rfl
  have hFc := va_free (wc := []) hD hS hA [] rfl
  refine va_calli (va_runS (As := [.int a0, .int 0, .int 3]) (rest := []) ⟨hx, hb, hml, hown, hts⟩ (c_X8_in l dC dI a0 (0 : Int32) (3 : Int32) _ g0a g0b) (va_cwS 3 hts gX8_swings_X8_in rfl rfl rfl (by decide +kernel) ⟨Nat.le_of_ble_eq_true rfl, Nat.le_of_ble_eq_true rfl⟩) ⟨pr_blind, fun U hU hW => ⟨rfl, pr_mk hU hW hPc hKc hDc⟩⟩ rfl rfl hl.1 rfl (lv_room (Nat.le_of_ble_eq_true rfl)) dX8_swings_8 ⟨Nat.le_of_ble_eq_true rfl, Nat.le_of_ble_eq_true rfl⟩) hS (fun q _ h => hFc q h) hFc (fun r_2 u_1 t H1 locs ht hvm hw hB hz1 hk1 hS => ?_)
  obtain ⟨hP1, hK1, hD1⟩ := hB
  rw [ht] at hP1
  obtain ⟨hP, hD⟩ := va_join (wr := [(mm, .inr (10, [.int 0, .ref pl, .ref ig, .ref sl, .ref kl, .int 0, .int 0, .int 0])), (pl, .inr (1, [.int 0, .ref dz, .int 0])), (sl, .inr (1, [.int 0, .ref dz, .int 0])), (kl, .inr (1, [.int 0, .ref dz, .int 0]))]) (w1 := []) hP hD [] [0, 1, 2, 3] rfl rfl (by decide) (by decide) hk1 hFc hP1 hD1
  generalize H1 = H at hP hS ⊢
  have hP : va_P (dC, dI) vwCl [(mm, .inr (10, [.int 0, .ref pl, .ref ig, .ref sl, .ref kl, .int 0, .int 0, .int 0])), (pl, .inr (1, [.int 0, .ref dz, .int 0])), (sl, .inr (1, [.int 0, .ref dz, .int 0])), (kl, .inr (1, [.int 0, .ref dz, .int 0]))] H := hP
  have hD : va_D A [(mm, .inr (10, [.int 0, .ref pl, .ref ig, .ref sl, .ref kl, .int 0, .int 0, .int 0])), (pl, .inr (1, [.int 0, .ref dz, .int 0])), (sl, .inr (1, [.int 0, .ref dz, .int 0])), (kl, .inr (1, [.int 0, .ref dz, .int 0]))] := hD
  refine W.widen (k := 0) (n := 0) (Nat.le_refl _) (Nat.le_refl _) ?_
  have hw : r_2 = 1 := hw
  subst hw
  refine lv_if_ne (tgt := 20) hx hb dX8_swings_11 (by decide) (fun _ => ?_) (fun h9 => absurd h9 (by decide))
  refine lv_iload_n hx hb dX8_swings_20 rfl (lv_at hl 2 rfl) ?_
  refine lv_iload_n hx hb dX8_swings_21 rfl (lv_at hl 3 rfl) ?_
  have hPc := hP.sub (ws' := []) [] rfl
  have hDc := hD.sub (ws' := []) [] (by decide) rfl
  have hKc := hK.sub (tys' := []) [] rfl
  have hFc := va_free (wc := []) hD hS hA [] rfl
  refine va_calli (va_runS (As := [.int a1, .int a2]) (rest := []) ⟨hx, hb, hml, hown, hts⟩ (c2_X8_isHouse l dC dI a1 a2 _ g1a g1b hbd) (va_cwS 2 hts gX8_swings_X8_isHouse rfl rfl rfl (by decide +kernel) ⟨Nat.le_of_ble_eq_true rfl, Nat.le_of_ble_eq_true rfl⟩) ⟨pr_blind, fun U hU hW => ⟨rfl, pr_mk hU hW hPc hKc hDc⟩⟩ rfl rfl hl.1 rfl (lv_room (Nat.le_of_ble_eq_true rfl)) dX8_swings_22 ⟨Nat.le_of_ble_eq_true rfl, Nat.le_of_ble_eq_true rfl⟩) hS (fun q _ h => hFc q h) hFc (fun r_4 u_3 t H1 locs ht hvm hw hB hz1 hk1 hS => ?_)
  obtain ⟨hP1, hK1, hD1⟩ := hB
  rw [ht] at hP1
  obtain ⟨hP, hD⟩ := va_join (wr := [(mm, .inr (10, [.int 0, .ref pl, .ref ig, .ref sl, .ref kl, .int 0, .int 0, .int 0])), (pl, .inr (1, [.int 0, .ref dz, .int 0])), (sl, .inr (1, [.int 0, .ref dz, .int 0])), (kl, .inr (1, [.int 0, .ref dz, .int 0]))]) (w1 := []) hP hD [] [0, 1, 2, 3] rfl rfl (by decide) (by decide) hk1 hFc hP1 hD1
  generalize H1 = H at hP hS ⊢
  have hP : va_P (dC, dI) vwCl [(mm, .inr (10, [.int 0, .ref pl, .ref ig, .ref sl, .ref kl, .int 0, .int 0, .int 0])), (pl, .inr (1, [.int 0, .ref dz, .int 0])), (sl, .inr (1, [.int 0, .ref dz, .int 0])), (kl, .inr (1, [.int 0, .ref dz, .int 0]))] H := hP
  have hD : va_D A [(mm, .inr (10, [.int 0, .ref pl, .ref ig, .ref sl, .ref kl, .int 0, .int 0, .int 0])), (pl, .inr (1, [.int 0, .ref dz, .int 0])), (sl, .inr (1, [.int 0, .ref dz, .int 0])), (kl, .inr (1, [.int 0, .ref dz, .int 0]))] := hD
  refine W.widen (k := 0) (n := 0) (Nat.le_refl _) (Nat.le_refl _) ?_
  have hw : r_4 = 0 := hw
  subst hw
  refine lv_if_ne (tgt := 34) hx hb dX8_swings_25 (by decide) (fun h9 => absurd h9 (by decide)) (fun _ => ?_)
  refine lv_aload_n hx hb dX8_swings_28 rfl (lv_at hl 0 rfl) ?_
  refine lv_iconst (v := 2) hx hb dX8_swings_29 (by decide) ?_
  have hPc := hP.sub (ws' := [(mm, .inr (10, [.int 0, .ref pl, .ref ig, .ref sl, .ref kl, .int 0, .int 0, .int 0]))]) [0] rfl
  have hDc := hD.sub (ws' := [(mm, .inr (10, [.int 0, .ref pl, .ref ig, .ref sl, .ref kl, .int 0, .int 0, .int 0]))]) [0] (by decide) rfl
  have hKc := hK.sub (tys' := []) [] rfl
  have hFc := va_free (wc := [(mm, .inr (10, [.int 0, .ref pl, .ref ig, .ref sl, .ref kl, .int 0, .int 0, .int 0]))]) hD hS hA [0] rfl
  refine va_calli (va_runV (As := [.int 2]) (rest := []) ⟨hx, hb, hml, hown, hts⟩ (c_X8_no l dC dI mm pl ig sl kl (2 : Int32) (0 : Int32) _ ) (cwV 1 hts gX8_swings_X8_no rfl rfl rfl (by decide +kernel) ⟨Nat.le_of_ble_eq_true rfl, Nat.le_of_ble_eq_true rfl⟩) ⟨pr_blind, va_recv hKc hPc (ci := 10) (q0 := 0) rfl rfl, fun U hU hW => ⟨rfl, pr_mk hU hW hPc hKc hDc⟩⟩ rfl rfl hl.1 rfl (lv_room (Nat.le_of_ble_eq_true rfl)) dX8_swings_30 ⟨Nat.le_of_ble_eq_true rfl, Nat.le_of_ble_eq_true rfl⟩) hS (fun q _ h => hFc q h) hFc (fun r_6 u_5 t H1 locs ht hvm hw hB hz1 hk1 hS => ?_)
  obtain ⟨hP1, hK1, hD1⟩ := hB
  rw [ht] at hP1
  obtain ⟨hP, hD⟩ := va_join (wr := [(pl, .inr (1, [.int 0, .ref dz, .int 0])), (sl, .inr (1, [.int 0, .ref dz, .int 0])), (kl, .inr (1, [.int 0, .ref dz, .int 0]))]) (w1 := [(mm, .inr (10, [.int 2, .ref pl, .ref ig, .ref sl, .ref kl, .int 0, .int 0, .int 0]))]) hP hD [0] [1, 2, 3] rfl rfl (by decide) (by decide) hk1 hFc hP1 hD1
  generalize H1 = H at hP hS ⊢
  have hP : va_P (dC, dI) vwCl [(pl, .inr (1, [.int 0, .ref dz, .int 0])), (sl, .inr (1, [.int 0, .ref dz, .int 0])), (kl, .inr (1, [.int 0, .ref dz, .int 0])), (mm, .inr (10, [.int 2, .ref pl, .ref ig, .ref sl, .ref kl, .int 0, .int 0, .int 0]))] H := hP
  have hD : va_D A [(pl, .inr (1, [.int 0, .ref dz, .int 0])), (sl, .inr (1, [.int 0, .ref dz, .int 0])), (kl, .inr (1, [.int 0, .ref dz, .int 0])), (mm, .inr (10, [.int 2, .ref pl, .ref ig, .ref sl, .ref kl, .int 0, .int 0, .int 0]))] := hD
  refine W.widen (k := 0) (n := 0) (Nat.le_refl _) (Nat.le_refl _) ?_
  have hw : r_6 = 0 := hw
  subst hw
  have hP9 := hP.sub (ws' := [(mm, .inr (10, [.int 2, .ref pl, .ref ig, .ref sl, .ref kl, .int 0, .int 0, .int 0]))]) [3] rfl
  have hD9 := hD.sub (ws' := [(mm, .inr (10, [.int 2, .ref pl, .ref ig, .ref sl, .ref kl, .int 0, .int 0, .int 0]))]) [3] (by decide) rfl
  have hK9 := hK.sub (tys' := []) [] rfl
  refine W.widen (k := 0) (n := 0) (Nat.le_of_ble_eq_true rfl) (Nat.le_of_ble_eq_true rfl) ?_
  exact W.iret (v := 0) hx hb hr (fun t ht hW => ⟨⟨0, (), rfl, rfl, po_mk ht hW hP9 hK9 hD9⟩, hS.F ht⟩) hS.2.2 dX8_swings_33

set_option maxHeartbeats 4000000 in
set_option maxRecDepth 100000 in
theorem c_X8_swings (l : Launch) (dC : Nat → ClassId) (dI : Nat → Nat → Nat) (mm : Nat) (pl : Nat) (ig : Nat) (sl : Nat) (kl : Nat) (dz : Nat) (a0 : Int32) (a1 : Int32) (a2 : Int32) (sz : Nat) (g0a : ¬ a0 < 0) (g0b : ¬ 3 < a0) (g1a : ¬ a1 < 1) (g1b : ¬ 60 < a1) (g2a : ¬ a2 < 0) (g2b : ¬ 2 < a2) : Met l yX8_swings wsX8_swings ({ frames := 6, cells := 4, slots := 20, locals := 160 }) (va_Pc [.ref mm, .int a0, .int a1, .int a2] (fun U => pr_ dC dI [(mm, .inr (10, [.int 0, .ref pl, .ref ig, .ref sl, .ref kl, .int 0, .int 0, .int 0])), (pl, .inr (1, [.int 0, .ref dz, .int 0])), (sl, .inr (1, [.int 0, .ref dz, .int 0])), (kl, .inr (1, [.int 0, .ref dz, .int 0]))] [] sz U ∧ mo_  U)) (va_Qi (fun (r : Int32) (_ : Unit) => r = 0) (fun (_ : Unit) t => po_ dC dI [(mm, .inr (10, [.int 0, .ref pl, .ref ig, .ref sl, .ref kl, .int 0, .int 0, .int 0]))] [] (va_A [(mm, .inr (10, [.int 0, .ref pl, .ref ig, .ref sl, .ref kl, .int 0, .int 0, .int 0])), (pl, .inr (1, [.int 0, .ref dz, .int 0])), (sl, .inr (1, [.int 0, .ref dz, .int 0])), (kl, .inr (1, [.int 0, .ref dz, .int 0]))] sz) t) (va_A [(mm, .inr (10, [.int 0, .ref pl, .ref ig, .ref sl, .ref kl, .int 0, .int 0, .int 0])), (pl, .inr (1, [.int 0, .ref dz, .int 0])), (sl, .inr (1, [.int 0, .ref dz, .int 0])), (kl, .inr (1, [.int 0, .ref dz, .int 0]))] sz)) 4 20 (va_A [(mm, .inr (10, [.int 0, .ref pl, .ref ig, .ref sl, .ref kl, .int 0, .int 0, .int 0])), (pl, .inr (1, [.int 0, .ref dz, .int 0])), (sl, .inr (1, [.int 0, .ref dz, .int 0])), (kl, .inr (1, [.int 0, .ref dz, .int 0]))] sz) := by
  refine Met.ofW (cc := cX8_swings) (maxL := 4) (ret := (some .int)) (by decide) rfl ?_
  intro p e s m args below meth c s₁ B hml hv
  obtain ⟨rfl, ⟨hsz, hP, hK, hD0⟩, hXs⟩ := hv
  have hx := B.exec
  have hb := B.bytes
  have hr := B.returns
  have hts := atoms_spec (ws := wsX8_swings) B.pre
  have hown : s.vm.findClass RX8 = some m.cls := findClass_of_methodNamed B.named
  have hlocks := B.notSynchronized
  subst hsz
  have hD := hD0.self (sz := s.heap.size)
  generalize hAe : va_A [(mm, .inr (10, [.int 0, .ref pl, .ref ig, .ref sl, .ref kl, .int 0, .int 0, .int 0])), (pl, .inr (1, [.int 0, .ref dz, .int 0])), (sl, .inr (1, [.int 0, .ref dz, .int 0])), (kl, .inr (1, [.int 0, .ref dz, .int 0]))] s.heap.size = A at hD ⊢
  have hA : ∀ q : Nat, s.heap.size ≤ q → A q := fun q h => by rw [← hAe]; exact Or.inr h
  have hS : va_S A s.heap s.heap [] := va_S.rf
  have hP : va_P (dC, dI) vwCl [(mm, .inr (10, [.int 0, .ref pl, .ref ig, .ref sl, .ref kl, .int 0, .int 0, .int 0])), (pl, .inr (1, [.int 0, .ref dz, .int 0])), (sl, .inr (1, [.int 0, .ref dz, .int 0])), (kl, .inr (1, [.int 0, .ref dz, .int 0]))] s.heap := hP
  have hK : va_K (dC, dI) vwCl [] s := hK
  have hl := lv_entry ([.ref mm, .int a0, .int a1, .int a2]) (n := 4) (Nat.le_of_ble_eq_true rfl)
  rw [lg_entry_eq]
  generalize (lg_sl ([.ref mm, .int a0, .int a1, .int a2]) ++ List.replicate (4 - (lg_sl ([.ref mm, .int a0, .int a1, .int a2])).length) Slot.unset).toArray = ls at hl ⊢
  have hl : lv_has ls 4 [(0, .ref mm), (1, .int a0), (2, .int a1), (3, .int a2)] := hl
  refine lv_aload_n hx hb dX8_swings_0 rfl (lv_at hl 0 rfl) ?_
  refine lv_iconst (v := 0) hx hb dX8_swings_1 (by decide) ?_
  have hinX8 : ∀ w ∈ u_ws RX8 TX8 8, w ∈ wsX8_swings := by decide +kernel
  refine va_put (D := (dC, dI)) (ci := 10) (v := .int 0) (ty := .int) (C := RX8) (T := TX8) (N := 8) hx hb hts hinX8 tyX8 tyX8_ok nmX8 hown hK hP hD hS 0 rfl rfl 0 (by decide) (hts (.fieldLink RX8 26 "BallotLoomModel" "thrown" "I") (by decide +kernel)) (fun _ h9 => h9) rfl (by decide +kernel) rfl rfl (Nat.le_of_ble_eq_true rfl) dX8_swings_2 (fun H locs hP hD hS => ?_)
  have hP : va_P (dC, dI) vwCl [(mm, .inr (10, [.int 0, .ref pl, .ref ig, .ref sl, .ref kl, .int 0, .int 0, .int 0])), (pl, .inr (1, [.int 0, .ref dz, .int 0])), (sl, .inr (1, [.int 0, .ref dz, .int 0])), (kl, .inr (1, [.int 0, .ref dz, .int 0]))] H := hP
  have hD : va_D A [(mm, .inr (10, [.int 0, .ref pl, .ref ig, .ref sl, .ref kl, .int 0, .int 0, .int 0])), (pl, .inr (1, [.int 0, .ref dz, .int 0])), (sl, .inr (1, [.int 0, .ref dz, .int 0])), (kl, .inr (1, [.int 0, .ref dz, .int 0]))] := hD
  refine lv_iload_n hx hb dX8_swings_5 rfl (lv_at hl 1 rfl) ?_
  refine lv_iconst (v := 0) hx hb dX8_swings_6 (by decide) ?_
  refine lv_iconst (v := 3) hx hb dX8_swings_7 (by decide) ?_
  have hPc := hP.sub (ws' := []) [] rfl
  have hDc := hD.sub (ws' := []) [] (by decide) rfl
  have hKc := hK.sub (tys' := []) [] rfl
  have hFc := va_free (wc := []) hD hS hA [] rfl
  refine va_calli (va_runS (As := [.int a0, .int 0, .int 3]) (rest := []) ⟨hx, hb, hml, hown, hts⟩ (c_X8_in l dC dI a0 (0 : Int32) (3 : Int32) _ g0a g0b) (va_cwS 3 hts gX8_swings_X8_in rfl rfl rfl (by decide +kernel) ⟨Nat.le_of_ble_eq_true rfl, Nat.le_of_ble_eq_true rfl⟩) ⟨pr_blind, fun U hU hW => ⟨rfl, pr_mk hU hW hPc hKc hDc⟩⟩ rfl rfl hl.1 rfl (lv_room (Nat.le_of_ble_eq_true rfl)) dX8_swings_8 ⟨Nat.le_of_ble_eq_true rfl, Nat.le_of_ble_eq_true rfl⟩) hS (fun q _ h => hFc q h) hFc (fun r_2 u_1 t H1 locs ht hvm hw hB hz1 hk1 hS => ?_)
  obtain ⟨hP1, hK1, hD1⟩ := hB
  rw [ht] at hP1
  obtain ⟨hP, hD⟩ := va_join (wr := [(mm, .inr (10, [.int 0, .ref pl, .ref ig, .ref sl, .ref kl, .int 0, .int 0, .int 0])), (pl, .inr (1, [.int 0, .ref dz, .int 0])), (sl, .inr (1, [.int 0, .ref dz, .int 0])), (kl, .inr (1, [.int 0, .ref dz, .int 0]))]) (w1 := []) hP hD [] [0, 1, 2, 3] rfl rfl (by decide) (by decide) hk1 hFc hP1 hD1
  generalize H1 = H at hP hS ⊢
  have hP : va_P (dC, dI) vwCl [(mm, .inr (10, [.int 0, .ref pl, .ref ig, .ref sl, .ref kl, .int 0, .int 0, .int 0])), (pl, .inr (1, [.int 0, .ref dz, .int 0])), (sl, .inr (1, [.int 0, .ref dz, .int 0])), (kl, .inr (1, [.int 0, .ref dz, .int 0]))] H := hP
  have hD : va_D A [(mm, .inr (10, [.int 0, .ref pl, .ref ig, .ref sl, .ref kl, .int 0, .int 0, .int 0])), (pl, .inr (1, [.int 0, .ref dz, .int 0])), (sl, .inr (1, [.int 0, .ref dz, .int 0])), (kl, .inr (1, [.int 0, .ref dz, .int 0]))] := hD
  refine W.widen (k := 0) (n := 0) (Nat.le_refl _) (Nat.le_refl _) ?_
  have hw : r_2 = 1 := hw
  subst hw
  refine lv_if_ne (tgt := 20) hx hb dX8_swings_11 (by decide) (fun _ => ?_) (fun h9 => absurd h9 (by decide))
  refine lv_iload_n hx hb dX8_swings_20 rfl (lv_at hl 2 rfl) ?_
  refine lv_iload_n hx hb dX8_swings_21 rfl (lv_at hl 3 rfl) ?_
  have hPc := hP.sub (ws' := []) [] rfl
  have hDc := hD.sub (ws' := []) [] (by decide) rfl
  have hKc := hK.sub (tys' := []) [] rfl
  have hFc := va_free (wc := []) hD hS hA [] rfl
  refine va_calli (va_runS (As := [.int a1, .int a2]) (rest := []) ⟨hx, hb, hml, hown, hts⟩ (c_X8_isHouse l dC dI a1 a2 _ g1a g1b g2a g2b) (va_cwS 2 hts gX8_swings_X8_isHouse rfl rfl rfl (by decide +kernel) ⟨Nat.le_of_ble_eq_true rfl, Nat.le_of_ble_eq_true rfl⟩) ⟨pr_blind, fun U hU hW => ⟨rfl, pr_mk hU hW hPc hKc hDc⟩⟩ rfl rfl hl.1 rfl (lv_room (Nat.le_of_ble_eq_true rfl)) dX8_swings_22 ⟨Nat.le_of_ble_eq_true rfl, Nat.le_of_ble_eq_true rfl⟩) hS (fun q _ h => hFc q h) hFc (fun r_4 u_3 t H1 locs ht hvm hw hB hz1 hk1 hS => ?_)
  obtain ⟨hP1, hK1, hD1⟩ := hB
  rw [ht] at hP1
  obtain ⟨hP, hD⟩ := va_join (wr := [(mm, .inr (10, [.int 0, .ref pl, .ref ig, .ref sl, .ref kl, .int 0, .int 0, .int 0])), (pl, .inr (1, [.int 0, .ref dz, .int 0])), (sl, .inr (1, [.int 0, .ref dz, .int 0])), (kl, .inr (1, [.int 0, .ref dz, .int 0]))]) (w1 := []) hP hD [] [0, 1, 2, 3] rfl rfl (by decide) (by decide) hk1 hFc hP1 hD1
  generalize H1 = H at hP hS ⊢
  have hP : va_P (dC, dI) vwCl [(mm, .inr (10, [.int 0, .ref pl, .ref ig, .ref sl, .ref kl, .int 0, .int 0, .int 0])), (pl, .inr (1, [.int 0, .ref dz, .int 0])), (sl, .inr (1, [.int 0, .ref dz, .int 0])), (kl, .inr (1, [.int 0, .ref dz, .int 0]))] H := hP
  have hD : va_D A [(mm, .inr (10, [.int 0, .ref pl, .ref ig, .ref sl, .ref kl, .int 0, .int 0, .int 0])), (pl, .inr (1, [.int 0, .ref dz, .int 0])), (sl, .inr (1, [.int 0, .ref dz, .int 0])), (kl, .inr (1, [.int 0, .ref dz, .int 0]))] := hD
  refine W.widen (k := 0) (n := 0) (Nat.le_refl _) (Nat.le_refl _) ?_
  have hw : r_4 = 1 := hw
  subst hw
  refine lv_if_ne (tgt := 34) hx hb dX8_swings_25 (by decide) (fun _ => ?_) (fun h9 => absurd h9 (by decide))
  refine lv_aload_n hx hb dX8_swings_34 rfl (lv_at hl 0 rfl) ?_
  refine lv_iload_n hx hb dX8_swings_35 rfl (lv_at hl 2 rfl) ?_
  refine lv_iload_n hx hb dX8_swings_36 rfl (lv_at hl 3 rfl) ?_
  have hPc := hP.sub (ws' := [(mm, .inr (10, [.int 0, .ref pl, .ref ig, .ref sl, .ref kl, .int 0, .int 0, .int 0])), (sl, .inr (1, [.int 0, .ref dz, .int 0]))]) [0, 2] rfl
  have hDc := hD.sub (ws' := [(mm, .inr (10, [.int 0, .ref pl, .ref ig, .ref sl, .ref kl, .int 0, .int 0, .int 0])), (sl, .inr (1, [.int 0, .ref dz, .int 0]))]) [0, 2] (by decide) rfl
  have hKc := hK.sub (tys' := []) [] rfl
  have hFc := va_free (wc := [(mm, .inr (10, [.int 0, .ref pl, .ref ig, .ref sl, .ref kl, .int 0, .int 0, .int 0])), (sl, .inr (1, [.int 0, .ref dz, .int 0]))]) hD hS hA [0, 2] rfl
  refine va_callr (va_runV (As := [.int a1, .int a2]) (rest := []) ⟨hx, hb, hml, hown, hts⟩ (c_X8_houseOf l dC dI mm pl ig sl kl dz a1 a2 _ ) (cwV 2 hts gX8_swings_X8_houseOf rfl rfl rfl (by decide +kernel) ⟨Nat.le_of_ble_eq_true rfl, Nat.le_of_ble_eq_true rfl⟩) ⟨pe_blind mo_bl, va_recv hKc hPc (ci := 10) (q0 := 0) rfl rfl, fun U hU hW => ⟨rfl, pr_mk hU hW hPc hKc hDc, mo_mk hW hXs⟩⟩ rfl rfl hl.1 rfl (lv_room (Nat.le_of_ble_eq_true rfl)) dX8_swings_37 ⟨Nat.le_of_ble_eq_true rfl, Nat.le_of_ble_eq_true rfl⟩) hS (fun q _ h => hFc q h) hFc (fun u_5 r_6 t H1 locs ht hvm hw hB hz1 hk1 hS => ?_)
  obtain ⟨q_7, rfl⟩ : ∃ z, z = u_5 := ⟨_, rfl⟩
  obtain ⟨hP1, hK1, hD1⟩ := hB
  rw [ht] at hP1
  obtain ⟨hP, hD⟩ := va_join (wr := [(pl, .inr (1, [.int 0, .ref dz, .int 0])), (kl, .inr (1, [.int 0, .ref dz, .int 0]))]) (w1 := [(mm, .inr (10, [.int 0, .ref pl, .ref ig, .ref sl, .ref kl, .int 0, .int 0, .int 0])), (sl, .inr (1, [.int 0, .ref dz, .int 0])), (r_6, .inl (q_7, 4, .inl zi))]) hP hD [0, 2] [1, 3] rfl rfl (by decide) (by decide) hk1 hFc hP1 hD1
  have hK := hK.app (va_K.moved hvm.symm hK1)
  have hK : va_K (dC, dI) vwCl [(q_7, .int)] s := hK
  generalize H1 = H at hP hS ⊢
  have hP : va_P (dC, dI) vwCl [(pl, .inr (1, [.int 0, .ref dz, .int 0])), (kl, .inr (1, [.int 0, .ref dz, .int 0])), (mm, .inr (10, [.int 0, .ref pl, .ref ig, .ref sl, .ref kl, .int 0, .int 0, .int 0])), (sl, .inr (1, [.int 0, .ref dz, .int 0])), (r_6, .inl (q_7, 4, .inl zi))] H := hP
  have hD : va_D A [(pl, .inr (1, [.int 0, .ref dz, .int 0])), (kl, .inr (1, [.int 0, .ref dz, .int 0])), (mm, .inr (10, [.int 0, .ref pl, .ref ig, .ref sl, .ref kl, .int 0, .int 0, .int 0])), (sl, .inr (1, [.int 0, .ref dz, .int 0])), (r_6, .inl (q_7, 4, .inl zi))] := hD
  refine W.widen (k := 3) (n := 13) (Nat.le_of_ble_eq_true rfl) (Nat.le_of_ble_eq_true rfl) ?_
  refine lv_iload_n hx hb dX8_swings_40 rfl (lv_at hl 1 rfl) ?_
  refine lv_iload_n hx hb dX8_swings_41 rfl (lv_at hl 2 rfl) ?_
  have hPc := hP.sub (ws' := [(r_6, .inl (q_7, 4, .inl zi))]) [4] rfl
  have hDc := hD.sub (ws' := [(r_6, .inl (q_7, 4, .inl zi))]) [4] (by decide) rfl
  have hKc := hK.sub (tys' := [(q_7, .int)]) [0] rfl
  have hFc := va_free (wc := [(r_6, .inl (q_7, 4, .inl zi))]) hD hS hA [4] rfl
  refine va_calli (va_runS (As := [.ref r_6, .int a0, .int a1]) (rest := []) ⟨hx, hb, hml, hown, hts⟩ (c_X8_swingsNow l dC dI r_6 q_7 a0 a1 _ (ho0 g1a) (ho2 g1a)) (va_cwS 3 hts gX8_swings_X8_swingsNow rfl rfl rfl (by decide +kernel) ⟨Nat.le_of_ble_eq_true rfl, Nat.le_of_ble_eq_true rfl⟩) ⟨pr_blind, fun U hU hW => ⟨rfl, pr_mk hU hW hPc hKc hDc⟩⟩ rfl rfl hl.1 rfl (lv_room (Nat.le_of_ble_eq_true rfl)) dX8_swings_42 ⟨Nat.le_of_ble_eq_true rfl, Nat.le_of_ble_eq_true rfl⟩) hS (fun q _ h => hFc q h) hFc (fun r_9 u_8 t H1 locs ht hvm hw hB hz1 hk1 hS => ?_)
  obtain ⟨hP1, hK1, hD1⟩ := hB
  rw [ht] at hP1
  obtain ⟨hP, hD⟩ := va_join (wr := [(pl, .inr (1, [.int 0, .ref dz, .int 0])), (kl, .inr (1, [.int 0, .ref dz, .int 0])), (mm, .inr (10, [.int 0, .ref pl, .ref ig, .ref sl, .ref kl, .int 0, .int 0, .int 0])), (sl, .inr (1, [.int 0, .ref dz, .int 0]))]) (w1 := [(r_6, .inl (q_7, 4, .inl zi))]) hP hD [4] [0, 1, 2, 3] rfl rfl (by decide) (by decide) hk1 hFc hP1 hD1
  generalize H1 = H at hP hS ⊢
  have hP : va_P (dC, dI) vwCl [(pl, .inr (1, [.int 0, .ref dz, .int 0])), (kl, .inr (1, [.int 0, .ref dz, .int 0])), (mm, .inr (10, [.int 0, .ref pl, .ref ig, .ref sl, .ref kl, .int 0, .int 0, .int 0])), (sl, .inr (1, [.int 0, .ref dz, .int 0])), (r_6, .inl (q_7, 4, .inl zi))] H := hP
  have hD : va_D A [(pl, .inr (1, [.int 0, .ref dz, .int 0])), (kl, .inr (1, [.int 0, .ref dz, .int 0])), (mm, .inr (10, [.int 0, .ref pl, .ref ig, .ref sl, .ref kl, .int 0, .int 0, .int 0])), (sl, .inr (1, [.int 0, .ref dz, .int 0])), (r_6, .inl (q_7, 4, .inl zi))] := hD
  refine W.widen (k := 3) (n := 13) (Nat.le_refl _) (Nat.le_refl _) ?_
  have hw : r_9 = 0 := hw
  subst hw
  have hP9 := hP.sub (ws' := [(mm, .inr (10, [.int 0, .ref pl, .ref ig, .ref sl, .ref kl, .int 0, .int 0, .int 0]))]) [2] rfl
  have hD9 := hD.sub (ws' := [(mm, .inr (10, [.int 0, .ref pl, .ref ig, .ref sl, .ref kl, .int 0, .int 0, .int 0]))]) [2] (by decide) rfl
  have hK9 := hK.sub (tys' := []) [] rfl
  refine W.widen (k := 4) (n := 20) (Nat.le_of_ble_eq_true rfl) (Nat.le_of_ble_eq_true rfl) ?_
  exact W.iret (v := 0) hx hb hr (fun t ht hW => ⟨⟨0, (), rfl, rfl, po_mk ht hW hP9 hK9 hD9⟩, hS.F ht⟩) hS.2.2 dX8_swings_45

set_option maxHeartbeats 4000000 in
set_option maxRecDepth 100000 in
theorem c0_X8_overhang (l : Launch) (dC : Nat → ClassId) (dI : Nat → Nat → Nat) (mm : Nat) (pl : Nat) (ig : Nat) (sl : Nat) (kl : Nat) (dz : Nat) (a0 : Int32) (a1 : Int32) (sz : Nat) (hbd : a0 < 1 ∨ 60 < a0) : Met l yX8_overhang wsX8_overhang ({ frames := 5, cells := 0, slots := 0, locals := 140 }) (va_Pc [.ref mm, .int a0, .int a1] (fun U => pr_ dC dI [(mm, .inr (10, [.int 0, .ref pl, .ref ig, .ref sl, .ref kl, .int 0, .int 0, .int 0])), (pl, .inr (1, [.int 0, .ref dz, .int 0])), (sl, .inr (1, [.int 0, .ref dz, .int 0])), (kl, .inr (1, [.int 0, .ref dz, .int 0]))] [] sz U ∧ mo_  U)) (va_Qi (fun (r : Int32) (_ : Unit) => r = 0) (fun (_ : Unit) t => po_ dC dI [(mm, .inr (10, [.int 1, .ref pl, .ref ig, .ref sl, .ref kl, .int 0, .int 0, .int 0]))] [] (va_A [(mm, .inr (10, [.int 0, .ref pl, .ref ig, .ref sl, .ref kl, .int 0, .int 0, .int 0])), (pl, .inr (1, [.int 0, .ref dz, .int 0])), (sl, .inr (1, [.int 0, .ref dz, .int 0])), (kl, .inr (1, [.int 0, .ref dz, .int 0]))] sz) t) (va_A [(mm, .inr (10, [.int 0, .ref pl, .ref ig, .ref sl, .ref kl, .int 0, .int 0, .int 0])), (pl, .inr (1, [.int 0, .ref dz, .int 0])), (sl, .inr (1, [.int 0, .ref dz, .int 0])), (kl, .inr (1, [.int 0, .ref dz, .int 0]))] sz)) 0 0 (va_A [(mm, .inr (10, [.int 0, .ref pl, .ref ig, .ref sl, .ref kl, .int 0, .int 0, .int 0])), (pl, .inr (1, [.int 0, .ref dz, .int 0])), (sl, .inr (1, [.int 0, .ref dz, .int 0])), (kl, .inr (1, [.int 0, .ref dz, .int 0]))] sz) := by
  refine Met.ofW (cc := cX8_overhang) (maxL := 6) (ret := (some .int)) (by decide) rfl ?_
  intro p e s m args below meth c s₁ B hml hv
  obtain ⟨rfl, ⟨hsz, hP, hK, hD0⟩, hXs⟩ := hv
  have hx := B.exec
  have hb := B.bytes
  have hr := B.returns
  have hts := atoms_spec (ws := wsX8_overhang) B.pre
  have hown : s.vm.findClass RX8 = some m.cls := findClass_of_methodNamed B.named
  have hlocks := B.notSynchronized
  subst hsz
  have hD := hD0.self (sz := s.heap.size)
  generalize hAe : va_A [(mm, .inr (10, [.int 0, .ref pl, .ref ig, .ref sl, .ref kl, .int 0, .int 0, .int 0])), (pl, .inr (1, [.int 0, .ref dz, .int 0])), (sl, .inr (1, [.int 0, .ref dz, .int 0])), (kl, .inr (1, [.int 0, .ref dz, .int 0]))] s.heap.size = A at hD ⊢
  have hA : ∀ q : Nat, s.heap.size ≤ q → A q := fun q h => by rw [← hAe]; exact Or.inr h
  have hS : va_S A s.heap s.heap [] := va_S.rf
  have hP : va_P (dC, dI) vwCl [(mm, .inr (10, [.int 0, .ref pl, .ref ig, .ref sl, .ref kl, .int 0, .int 0, .int 0])), (pl, .inr (1, [.int 0, .ref dz, .int 0])), (sl, .inr (1, [.int 0, .ref dz, .int 0])), (kl, .inr (1, [.int 0, .ref dz, .int 0]))] s.heap := hP
  have hK : va_K (dC, dI) vwCl [] s := hK
  have hl := lv_entry ([.ref mm, .int a0, .int a1]) (n := 6) (Nat.le_of_ble_eq_true rfl)
  rw [lg_entry_eq]
  generalize (lg_sl ([.ref mm, .int a0, .int a1]) ++ List.replicate (6 - (lg_sl ([.ref mm, .int a0, .int a1])).length) Slot.unset).toArray = ls at hl ⊢
  have hl : lv_has ls 6 [(0, .ref mm), (1, .int a0), (2, .int a1)] := hl
  refine lv_aload_n hx hb dX8_overhang_0 rfl (lv_at hl 0 rfl) ?_
  refine lv_iconst (v := 0) hx hb dX8_overhang_1 (by decide) ?_
  have hinX8 : ∀ w ∈ u_ws RX8 TX8 8, w ∈ wsX8_overhang := by decide +kernel
  refine va_put (D := (dC, dI)) (ci := 10) (v := .int 0) (ty := .int) (C := RX8) (T := TX8) (N := 8) hx hb hts hinX8 tyX8 tyX8_ok nmX8 hown hK hP hD hS 0 rfl rfl 0 (by decide) (hts (.fieldLink RX8 26 "BallotLoomModel" "thrown" "I") (by decide +kernel)) (fun _ h9 => h9) rfl (by decide +kernel) rfl rfl (Nat.le_of_ble_eq_true rfl) dX8_overhang_2 (fun H locs hP hD hS => ?_)
  have hP : va_P (dC, dI) vwCl [(mm, .inr (10, [.int 0, .ref pl, .ref ig, .ref sl, .ref kl, .int 0, .int 0, .int 0])), (pl, .inr (1, [.int 0, .ref dz, .int 0])), (sl, .inr (1, [.int 0, .ref dz, .int 0])), (kl, .inr (1, [.int 0, .ref dz, .int 0]))] H := hP
  have hD : va_D A [(mm, .inr (10, [.int 0, .ref pl, .ref ig, .ref sl, .ref kl, .int 0, .int 0, .int 0])), (pl, .inr (1, [.int 0, .ref dz, .int 0])), (sl, .inr (1, [.int 0, .ref dz, .int 0])), (kl, .inr (1, [.int 0, .ref dz, .int 0]))] := hD
  refine lv_iload_n hx hb dX8_overhang_5 rfl (lv_at hl 1 rfl) ?_
  refine lv_iload_n hx hb dX8_overhang_6 rfl (lv_at hl 2 rfl) ?_
  have hPc := hP.sub (ws' := []) [] rfl
  have hDc := hD.sub (ws' := []) [] (by decide) rfl
  have hKc := hK.sub (tys' := []) [] rfl
  have hFc := va_free (wc := []) hD hS hA [] rfl
  refine va_calli (va_runS (As := [.int a0, .int a1]) (rest := []) ⟨hx, hb, hml, hown, hts⟩ (c0_X8_isHouse l dC dI a0 a1 _ hbd) (va_cwS 2 hts gX8_overhang_X8_isHouse rfl rfl rfl (by decide +kernel) ⟨Nat.le_of_ble_eq_true rfl, Nat.le_of_ble_eq_true rfl⟩) ⟨pr_blind, fun U hU hW => ⟨rfl, pr_mk hU hW hPc hKc hDc⟩⟩ rfl rfl hl.1 rfl (lv_room (Nat.le_of_ble_eq_true rfl)) dX8_overhang_7 ⟨Nat.le_of_ble_eq_true rfl, Nat.le_of_ble_eq_true rfl⟩) hS (fun q _ h => hFc q h) hFc (fun r_2 u_1 t H1 locs ht hvm hw hB hz1 hk1 hS => ?_)
  obtain ⟨hP1, hK1, hD1⟩ := hB
  rw [ht] at hP1
  obtain ⟨hP, hD⟩ := va_join (wr := [(mm, .inr (10, [.int 0, .ref pl, .ref ig, .ref sl, .ref kl, .int 0, .int 0, .int 0])), (pl, .inr (1, [.int 0, .ref dz, .int 0])), (sl, .inr (1, [.int 0, .ref dz, .int 0])), (kl, .inr (1, [.int 0, .ref dz, .int 0]))]) (w1 := []) hP hD [] [0, 1, 2, 3] rfl rfl (by decide) (by decide) hk1 hFc hP1 hD1
  generalize H1 = H at hP hS ⊢
  have hP : va_P (dC, dI) vwCl [(mm, .inr (10, [.int 0, .ref pl, .ref ig, .ref sl, .ref kl, .int 0, .int 0, .int 0])), (pl, .inr (1, [.int 0, .ref dz, .int 0])), (sl, .inr (1, [.int 0, .ref dz, .int 0])), (kl, .inr (1, [.int 0, .ref dz, .int 0]))] H := hP
  have hD : va_D A [(mm, .inr (10, [.int 0, .ref pl, .ref ig, .ref sl, .ref kl, .int 0, .int 0, .int 0])), (pl, .inr (1, [.int 0, .ref dz, .int 0])), (sl, .inr (1, [.int 0, .ref dz, .int 0])), (kl, .inr (1, [.int 0, .ref dz, .int 0]))] := hD
  refine W.widen (k := 0) (n := 0) (Nat.le_refl _) (Nat.le_refl _) ?_
  have hw : r_2 = 0 := hw
  subst hw
  refine lv_if_ne (tgt := 19) hx hb dX8_overhang_10 (by decide) (fun h9 => absurd h9 (by decide)) (fun _ => ?_)
  refine lv_aload_n hx hb dX8_overhang_13 rfl (lv_at hl 0 rfl) ?_
  refine lv_iconst (v := 1) hx hb dX8_overhang_14 (by decide) ?_
  have hPc := hP.sub (ws' := [(mm, .inr (10, [.int 0, .ref pl, .ref ig, .ref sl, .ref kl, .int 0, .int 0, .int 0]))]) [0] rfl
  have hDc := hD.sub (ws' := [(mm, .inr (10, [.int 0, .ref pl, .ref ig, .ref sl, .ref kl, .int 0, .int 0, .int 0]))]) [0] (by decide) rfl
  have hKc := hK.sub (tys' := []) [] rfl
  have hFc := va_free (wc := [(mm, .inr (10, [.int 0, .ref pl, .ref ig, .ref sl, .ref kl, .int 0, .int 0, .int 0]))]) hD hS hA [0] rfl
  refine va_calli (va_runV (As := [.int 1]) (rest := []) ⟨hx, hb, hml, hown, hts⟩ (c_X8_no l dC dI mm pl ig sl kl (1 : Int32) (0 : Int32) _ ) (cwV 1 hts gX8_overhang_X8_no rfl rfl rfl (by decide +kernel) ⟨Nat.le_of_ble_eq_true rfl, Nat.le_of_ble_eq_true rfl⟩) ⟨pr_blind, va_recv hKc hPc (ci := 10) (q0 := 0) rfl rfl, fun U hU hW => ⟨rfl, pr_mk hU hW hPc hKc hDc⟩⟩ rfl rfl hl.1 rfl (lv_room (Nat.le_of_ble_eq_true rfl)) dX8_overhang_15 ⟨Nat.le_of_ble_eq_true rfl, Nat.le_of_ble_eq_true rfl⟩) hS (fun q _ h => hFc q h) hFc (fun r_4 u_3 t H1 locs ht hvm hw hB hz1 hk1 hS => ?_)
  obtain ⟨hP1, hK1, hD1⟩ := hB
  rw [ht] at hP1
  obtain ⟨hP, hD⟩ := va_join (wr := [(pl, .inr (1, [.int 0, .ref dz, .int 0])), (sl, .inr (1, [.int 0, .ref dz, .int 0])), (kl, .inr (1, [.int 0, .ref dz, .int 0]))]) (w1 := [(mm, .inr (10, [.int 1, .ref pl, .ref ig, .ref sl, .ref kl, .int 0, .int 0, .int 0]))]) hP hD [0] [1, 2, 3] rfl rfl (by decide) (by decide) hk1 hFc hP1 hD1
  generalize H1 = H at hP hS ⊢
  have hP : va_P (dC, dI) vwCl [(pl, .inr (1, [.int 0, .ref dz, .int 0])), (sl, .inr (1, [.int 0, .ref dz, .int 0])), (kl, .inr (1, [.int 0, .ref dz, .int 0])), (mm, .inr (10, [.int 1, .ref pl, .ref ig, .ref sl, .ref kl, .int 0, .int 0, .int 0]))] H := hP
  have hD : va_D A [(pl, .inr (1, [.int 0, .ref dz, .int 0])), (sl, .inr (1, [.int 0, .ref dz, .int 0])), (kl, .inr (1, [.int 0, .ref dz, .int 0])), (mm, .inr (10, [.int 1, .ref pl, .ref ig, .ref sl, .ref kl, .int 0, .int 0, .int 0]))] := hD
  refine W.widen (k := 0) (n := 0) (Nat.le_refl _) (Nat.le_refl _) ?_
  have hw : r_4 = 0 := hw
  subst hw
  have hP9 := hP.sub (ws' := [(mm, .inr (10, [.int 1, .ref pl, .ref ig, .ref sl, .ref kl, .int 0, .int 0, .int 0]))]) [3] rfl
  have hD9 := hD.sub (ws' := [(mm, .inr (10, [.int 1, .ref pl, .ref ig, .ref sl, .ref kl, .int 0, .int 0, .int 0]))]) [3] (by decide) rfl
  have hK9 := hK.sub (tys' := []) [] rfl
  refine W.widen (k := 0) (n := 0) (Nat.le_of_ble_eq_true rfl) (Nat.le_of_ble_eq_true rfl) ?_
  exact W.iret (v := 0) hx hb hr (fun t ht hW => ⟨⟨0, (), rfl, rfl, po_mk ht hW hP9 hK9 hD9⟩, hS.F ht⟩) hS.2.2 dX8_overhang_18

set_option maxHeartbeats 4000000 in
set_option maxRecDepth 100000 in
theorem c1_X8_overhang (l : Launch) (dC : Nat → ClassId) (dI : Nat → Nat → Nat) (mm : Nat) (pl : Nat) (ig : Nat) (sl : Nat) (kl : Nat) (dz : Nat) (a0 : Int32) (a1 : Int32) (sz : Nat) (g0a : ¬ a0 < 1) (g0b : ¬ 60 < a0) (hbd : a1 < 0 ∨ 2 < a1) : Met l yX8_overhang wsX8_overhang ({ frames := 5, cells := 0, slots := 0, locals := 140 }) (va_Pc [.ref mm, .int a0, .int a1] (fun U => pr_ dC dI [(mm, .inr (10, [.int 0, .ref pl, .ref ig, .ref sl, .ref kl, .int 0, .int 0, .int 0])), (pl, .inr (1, [.int 0, .ref dz, .int 0])), (sl, .inr (1, [.int 0, .ref dz, .int 0])), (kl, .inr (1, [.int 0, .ref dz, .int 0]))] [] sz U ∧ mo_  U)) (va_Qi (fun (r : Int32) (_ : Unit) => r = 0) (fun (_ : Unit) t => po_ dC dI [(mm, .inr (10, [.int 1, .ref pl, .ref ig, .ref sl, .ref kl, .int 0, .int 0, .int 0]))] [] (va_A [(mm, .inr (10, [.int 0, .ref pl, .ref ig, .ref sl, .ref kl, .int 0, .int 0, .int 0])), (pl, .inr (1, [.int 0, .ref dz, .int 0])), (sl, .inr (1, [.int 0, .ref dz, .int 0])), (kl, .inr (1, [.int 0, .ref dz, .int 0]))] sz) t) (va_A [(mm, .inr (10, [.int 0, .ref pl, .ref ig, .ref sl, .ref kl, .int 0, .int 0, .int 0])), (pl, .inr (1, [.int 0, .ref dz, .int 0])), (sl, .inr (1, [.int 0, .ref dz, .int 0])), (kl, .inr (1, [.int 0, .ref dz, .int 0]))] sz)) 0 0 (va_A [(mm, .inr (10, [.int 0, .ref pl, .ref ig, .ref sl, .ref kl, .int 0, .int 0, .int 0])), (pl, .inr (1, [.int 0, .ref dz, .int 0])), (sl, .inr (1, [.int 0, .ref dz, .int 0])), (kl, .inr (1, [.int 0, .ref dz, .int 0]))] sz) := by
  refine Met.ofW (cc := cX8_overhang) (maxL := 6) (ret := (some .int)) (by decide) rfl ?_
  intro p e s m args below meth c s₁ B hml hv
  obtain ⟨rfl, ⟨hsz, hP, hK, hD0⟩, hXs⟩ := hv
  have hx := B.exec
  have hb := B.bytes
  have hr := B.returns
  have hts := atoms_spec (ws := wsX8_overhang) B.pre
  have hown : s.vm.findClass RX8 = some m.cls := findClass_of_methodNamed B.named
  have hlocks := B.notSynchronized
  subst hsz
  have hD := hD0.self (sz := s.heap.size)
  generalize hAe : va_A [(mm, .inr (10, [.int 0, .ref pl, .ref ig, .ref sl, .ref kl, .int 0, .int 0, .int 0])), (pl, .inr (1, [.int 0, .ref dz, .int 0])), (sl, .inr (1, [.int 0, .ref dz, .int 0])), (kl, .inr (1, [.int 0, .ref dz, .int 0]))] s.heap.size = A at hD ⊢
  have hA : ∀ q : Nat, s.heap.size ≤ q → A q := fun q h => by rw [← hAe]; exact Or.inr h
  have hS : va_S A s.heap s.heap [] := va_S.rf
  have hP : va_P (dC, dI) vwCl [(mm, .inr (10, [.int 0, .ref pl, .ref ig, .ref sl, .ref kl, .int 0, .int 0, .int 0])), (pl, .inr (1, [.int 0, .ref dz, .int 0])), (sl, .inr (1, [.int 0, .ref dz, .int 0])), (kl, .inr (1, [.int 0, .ref dz, .int 0]))] s.heap := hP
  have hK : va_K (dC, dI) vwCl [] s := hK
  have hl := lv_entry ([.ref mm, .int a0, .int a1]) (n := 6) (Nat.le_of_ble_eq_true rfl)
  rw [lg_entry_eq]
  generalize (lg_sl ([.ref mm, .int a0, .int a1]) ++ List.replicate (6 - (lg_sl ([.ref mm, .int a0, .int a1])).length) Slot.unset).toArray = ls at hl ⊢
  have hl : lv_has ls 6 [(0, .ref mm), (1, .int a0), (2, .int a1)] := hl
  refine lv_aload_n hx hb dX8_overhang_0 rfl (lv_at hl 0 rfl) ?_
  refine lv_iconst (v := 0) hx hb dX8_overhang_1 (by decide) ?_
  have hinX8 : ∀ w ∈ u_ws RX8 TX8 8, w ∈ wsX8_overhang := by decide +kernel
  refine va_put (D := (dC, dI)) (ci := 10) (v := .int 0) (ty := .int) (C := RX8) (T := TX8) (N := 8) hx hb hts hinX8 tyX8 tyX8_ok nmX8 hown hK hP hD hS 0 rfl rfl 0 (by decide) (hts (.fieldLink RX8 26 "BallotLoomModel" "thrown" "I") (by decide +kernel)) (fun _ h9 => h9) rfl (by decide +kernel) rfl rfl (Nat.le_of_ble_eq_true rfl) dX8_overhang_2 (fun H locs hP hD hS => ?_)
  have hP : va_P (dC, dI) vwCl [(mm, .inr (10, [.int 0, .ref pl, .ref ig, .ref sl, .ref kl, .int 0, .int 0, .int 0])), (pl, .inr (1, [.int 0, .ref dz, .int 0])), (sl, .inr (1, [.int 0, .ref dz, .int 0])), (kl, .inr (1, [.int 0, .ref dz, .int 0]))] H := hP
  have hD : va_D A [(mm, .inr (10, [.int 0, .ref pl, .ref ig, .ref sl, .ref kl, .int 0, .int 0, .int 0])), (pl, .inr (1, [.int 0, .ref dz, .int 0])), (sl, .inr (1, [.int 0, .ref dz, .int 0])), (kl, .inr (1, [.int 0, .ref dz, .int 0]))] := hD
  refine lv_iload_n hx hb dX8_overhang_5 rfl (lv_at hl 1 rfl) ?_
  refine lv_iload_n hx hb dX8_overhang_6 rfl (lv_at hl 2 rfl) ?_
  have hPc := hP.sub (ws' := []) [] rfl
  have hDc := hD.sub (ws' := []) [] (by decide) rfl
  have hKc := hK.sub (tys' := []) [] rfl
  have hFc := va_free (wc := []) hD hS hA [] rfl
  refine va_calli (va_runS (As := [.int a0, .int a1]) (rest := []) ⟨hx, hb, hml, hown, hts⟩ (c2_X8_isHouse l dC dI a0 a1 _ g0a g0b hbd) (va_cwS 2 hts gX8_overhang_X8_isHouse rfl rfl rfl (by decide +kernel) ⟨Nat.le_of_ble_eq_true rfl, Nat.le_of_ble_eq_true rfl⟩) ⟨pr_blind, fun U hU hW => ⟨rfl, pr_mk hU hW hPc hKc hDc⟩⟩ rfl rfl hl.1 rfl (lv_room (Nat.le_of_ble_eq_true rfl)) dX8_overhang_7 ⟨Nat.le_of_ble_eq_true rfl, Nat.le_of_ble_eq_true rfl⟩) hS (fun q _ h => hFc q h) hFc (fun r_2 u_1 t H1 locs ht hvm hw hB hz1 hk1 hS => ?_)
  obtain ⟨hP1, hK1, hD1⟩ := hB
  rw [ht] at hP1
  obtain ⟨hP, hD⟩ := va_join (wr := [(mm, .inr (10, [.int 0, .ref pl, .ref ig, .ref sl, .ref kl, .int 0, .int 0, .int 0])), (pl, .inr (1, [.int 0, .ref dz, .int 0])), (sl, .inr (1, [.int 0, .ref dz, .int 0])), (kl, .inr (1, [.int 0, .ref dz, .int 0]))]) (w1 := []) hP hD [] [0, 1, 2, 3] rfl rfl (by decide) (by decide) hk1 hFc hP1 hD1
  generalize H1 = H at hP hS ⊢
  have hP : va_P (dC, dI) vwCl [(mm, .inr (10, [.int 0, .ref pl, .ref ig, .ref sl, .ref kl, .int 0, .int 0, .int 0])), (pl, .inr (1, [.int 0, .ref dz, .int 0])), (sl, .inr (1, [.int 0, .ref dz, .int 0])), (kl, .inr (1, [.int 0, .ref dz, .int 0]))] H := hP
  have hD : va_D A [(mm, .inr (10, [.int 0, .ref pl, .ref ig, .ref sl, .ref kl, .int 0, .int 0, .int 0])), (pl, .inr (1, [.int 0, .ref dz, .int 0])), (sl, .inr (1, [.int 0, .ref dz, .int 0])), (kl, .inr (1, [.int 0, .ref dz, .int 0]))] := hD
  refine W.widen (k := 0) (n := 0) (Nat.le_refl _) (Nat.le_refl _) ?_
  have hw : r_2 = 0 := hw
  subst hw
  refine lv_if_ne (tgt := 19) hx hb dX8_overhang_10 (by decide) (fun h9 => absurd h9 (by decide)) (fun _ => ?_)
  refine lv_aload_n hx hb dX8_overhang_13 rfl (lv_at hl 0 rfl) ?_
  refine lv_iconst (v := 1) hx hb dX8_overhang_14 (by decide) ?_
  have hPc := hP.sub (ws' := [(mm, .inr (10, [.int 0, .ref pl, .ref ig, .ref sl, .ref kl, .int 0, .int 0, .int 0]))]) [0] rfl
  have hDc := hD.sub (ws' := [(mm, .inr (10, [.int 0, .ref pl, .ref ig, .ref sl, .ref kl, .int 0, .int 0, .int 0]))]) [0] (by decide) rfl
  have hKc := hK.sub (tys' := []) [] rfl
  have hFc := va_free (wc := [(mm, .inr (10, [.int 0, .ref pl, .ref ig, .ref sl, .ref kl, .int 0, .int 0, .int 0]))]) hD hS hA [0] rfl
  refine va_calli (va_runV (As := [.int 1]) (rest := []) ⟨hx, hb, hml, hown, hts⟩ (c_X8_no l dC dI mm pl ig sl kl (1 : Int32) (0 : Int32) _ ) (cwV 1 hts gX8_overhang_X8_no rfl rfl rfl (by decide +kernel) ⟨Nat.le_of_ble_eq_true rfl, Nat.le_of_ble_eq_true rfl⟩) ⟨pr_blind, va_recv hKc hPc (ci := 10) (q0 := 0) rfl rfl, fun U hU hW => ⟨rfl, pr_mk hU hW hPc hKc hDc⟩⟩ rfl rfl hl.1 rfl (lv_room (Nat.le_of_ble_eq_true rfl)) dX8_overhang_15 ⟨Nat.le_of_ble_eq_true rfl, Nat.le_of_ble_eq_true rfl⟩) hS (fun q _ h => hFc q h) hFc (fun r_4 u_3 t H1 locs ht hvm hw hB hz1 hk1 hS => ?_)
  obtain ⟨hP1, hK1, hD1⟩ := hB
  rw [ht] at hP1
  obtain ⟨hP, hD⟩ := va_join (wr := [(pl, .inr (1, [.int 0, .ref dz, .int 0])), (sl, .inr (1, [.int 0, .ref dz, .int 0])), (kl, .inr (1, [.int 0, .ref dz, .int 0]))]) (w1 := [(mm, .inr (10, [.int 1, .ref pl, .ref ig, .ref sl, .ref kl, .int 0, .int 0, .int 0]))]) hP hD [0] [1, 2, 3] rfl rfl (by decide) (by decide) hk1 hFc hP1 hD1
  generalize H1 = H at hP hS ⊢
  have hP : va_P (dC, dI) vwCl [(pl, .inr (1, [.int 0, .ref dz, .int 0])), (sl, .inr (1, [.int 0, .ref dz, .int 0])), (kl, .inr (1, [.int 0, .ref dz, .int 0])), (mm, .inr (10, [.int 1, .ref pl, .ref ig, .ref sl, .ref kl, .int 0, .int 0, .int 0]))] H := hP
  have hD : va_D A [(pl, .inr (1, [.int 0, .ref dz, .int 0])), (sl, .inr (1, [.int 0, .ref dz, .int 0])), (kl, .inr (1, [.int 0, .ref dz, .int 0])), (mm, .inr (10, [.int 1, .ref pl, .ref ig, .ref sl, .ref kl, .int 0, .int 0, .int 0]))] := hD
  refine W.widen (k := 0) (n := 0) (Nat.le_refl _) (Nat.le_refl _) ?_
  have hw : r_4 = 0 := hw
  subst hw
  have hP9 := hP.sub (ws' := [(mm, .inr (10, [.int 1, .ref pl, .ref ig, .ref sl, .ref kl, .int 0, .int 0, .int 0]))]) [3] rfl
  have hD9 := hD.sub (ws' := [(mm, .inr (10, [.int 1, .ref pl, .ref ig, .ref sl, .ref kl, .int 0, .int 0, .int 0]))]) [3] (by decide) rfl
  have hK9 := hK.sub (tys' := []) [] rfl
  refine W.widen (k := 0) (n := 0) (Nat.le_of_ble_eq_true rfl) (Nat.le_of_ble_eq_true rfl) ?_
  exact W.iret (v := 0) hx hb hr (fun t ht hW => ⟨⟨0, (), rfl, rfl, po_mk ht hW hP9 hK9 hD9⟩, hS.F ht⟩) hS.2.2 dX8_overhang_18

set_option maxHeartbeats 4000000 in
set_option maxRecDepth 100000 in
theorem c_X8_overhang (l : Launch) (dC : Nat → ClassId) (dI : Nat → Nat → Nat) (mm : Nat) (pl : Nat) (ig : Nat) (sl : Nat) (kl : Nat) (dz : Nat) (a0 : Int32) (a1 : Int32) (sz : Nat) (g0a : ¬ a0 < 1) (g0b : ¬ 60 < a0) (g1a : ¬ a1 < 0) (g1b : ¬ 2 < a1) : Met l yX8_overhang wsX8_overhang ({ frames := 6, cells := 4, slots := 20, locals := 160 }) (va_Pc [.ref mm, .int a0, .int a1] (fun U => pr_ dC dI [(mm, .inr (10, [.int 0, .ref pl, .ref ig, .ref sl, .ref kl, .int 0, .int 0, .int 0])), (pl, .inr (1, [.int 0, .ref dz, .int 0])), (sl, .inr (1, [.int 0, .ref dz, .int 0])), (kl, .inr (1, [.int 0, .ref dz, .int 0]))] [] sz U ∧ mo_  U)) (va_Qi (fun (r : Int32) (_ : Unit) => r = 0) (fun (_ : Unit) t => po_ dC dI [(mm, .inr (10, [.int 0, .ref pl, .ref ig, .ref sl, .ref kl, .int 0, .int 0, .int 0]))] [] (va_A [(mm, .inr (10, [.int 0, .ref pl, .ref ig, .ref sl, .ref kl, .int 0, .int 0, .int 0])), (pl, .inr (1, [.int 0, .ref dz, .int 0])), (sl, .inr (1, [.int 0, .ref dz, .int 0])), (kl, .inr (1, [.int 0, .ref dz, .int 0]))] sz) t) (va_A [(mm, .inr (10, [.int 0, .ref pl, .ref ig, .ref sl, .ref kl, .int 0, .int 0, .int 0])), (pl, .inr (1, [.int 0, .ref dz, .int 0])), (sl, .inr (1, [.int 0, .ref dz, .int 0])), (kl, .inr (1, [.int 0, .ref dz, .int 0]))] sz)) 4 20 (va_A [(mm, .inr (10, [.int 0, .ref pl, .ref ig, .ref sl, .ref kl, .int 0, .int 0, .int 0])), (pl, .inr (1, [.int 0, .ref dz, .int 0])), (sl, .inr (1, [.int 0, .ref dz, .int 0])), (kl, .inr (1, [.int 0, .ref dz, .int 0]))] sz) := by
  refine Met.ofW (cc := cX8_overhang) (maxL := 6) (ret := (some .int)) (by decide) rfl ?_
  intro p e s m args below meth c s₁ B hml hv
  obtain ⟨rfl, ⟨hsz, hP, hK, hD0⟩, hXs⟩ := hv
  have hx := B.exec
  have hb := B.bytes
  have hr := B.returns
  have hts := atoms_spec (ws := wsX8_overhang) B.pre
  have hown : s.vm.findClass RX8 = some m.cls := findClass_of_methodNamed B.named
  have hlocks := B.notSynchronized
  subst hsz
  have hD := hD0.self (sz := s.heap.size)
  generalize hAe : va_A [(mm, .inr (10, [.int 0, .ref pl, .ref ig, .ref sl, .ref kl, .int 0, .int 0, .int 0])), (pl, .inr (1, [.int 0, .ref dz, .int 0])), (sl, .inr (1, [.int 0, .ref dz, .int 0])), (kl, .inr (1, [.int 0, .ref dz, .int 0]))] s.heap.size = A at hD ⊢
  have hA : ∀ q : Nat, s.heap.size ≤ q → A q := fun q h => by rw [← hAe]; exact Or.inr h
  have hS : va_S A s.heap s.heap [] := va_S.rf
  have hP : va_P (dC, dI) vwCl [(mm, .inr (10, [.int 0, .ref pl, .ref ig, .ref sl, .ref kl, .int 0, .int 0, .int 0])), (pl, .inr (1, [.int 0, .ref dz, .int 0])), (sl, .inr (1, [.int 0, .ref dz, .int 0])), (kl, .inr (1, [.int 0, .ref dz, .int 0]))] s.heap := hP
  have hK : va_K (dC, dI) vwCl [] s := hK
  have hl := lv_entry ([.ref mm, .int a0, .int a1]) (n := 6) (Nat.le_of_ble_eq_true rfl)
  rw [lg_entry_eq]
  generalize (lg_sl ([.ref mm, .int a0, .int a1]) ++ List.replicate (6 - (lg_sl ([.ref mm, .int a0, .int a1])).length) Slot.unset).toArray = ls at hl ⊢
  have hl : lv_has ls 6 [(0, .ref mm), (1, .int a0), (2, .int a1)] := hl
  refine lv_aload_n hx hb dX8_overhang_0 rfl (lv_at hl 0 rfl) ?_
  refine lv_iconst (v := 0) hx hb dX8_overhang_1 (by decide) ?_
  have hinX8 : ∀ w ∈ u_ws RX8 TX8 8, w ∈ wsX8_overhang := by decide +kernel
  refine va_put (D := (dC, dI)) (ci := 10) (v := .int 0) (ty := .int) (C := RX8) (T := TX8) (N := 8) hx hb hts hinX8 tyX8 tyX8_ok nmX8 hown hK hP hD hS 0 rfl rfl 0 (by decide) (hts (.fieldLink RX8 26 "BallotLoomModel" "thrown" "I") (by decide +kernel)) (fun _ h9 => h9) rfl (by decide +kernel) rfl rfl (Nat.le_of_ble_eq_true rfl) dX8_overhang_2 (fun H locs hP hD hS => ?_)
  have hP : va_P (dC, dI) vwCl [(mm, .inr (10, [.int 0, .ref pl, .ref ig, .ref sl, .ref kl, .int 0, .int 0, .int 0])), (pl, .inr (1, [.int 0, .ref dz, .int 0])), (sl, .inr (1, [.int 0, .ref dz, .int 0])), (kl, .inr (1, [.int 0, .ref dz, .int 0]))] H := hP
  have hD : va_D A [(mm, .inr (10, [.int 0, .ref pl, .ref ig, .ref sl, .ref kl, .int 0, .int 0, .int 0])), (pl, .inr (1, [.int 0, .ref dz, .int 0])), (sl, .inr (1, [.int 0, .ref dz, .int 0])), (kl, .inr (1, [.int 0, .ref dz, .int 0]))] := hD
  refine lv_iload_n hx hb dX8_overhang_5 rfl (lv_at hl 1 rfl) ?_
  refine lv_iload_n hx hb dX8_overhang_6 rfl (lv_at hl 2 rfl) ?_
  have hPc := hP.sub (ws' := []) [] rfl
  have hDc := hD.sub (ws' := []) [] (by decide) rfl
  have hKc := hK.sub (tys' := []) [] rfl
  have hFc := va_free (wc := []) hD hS hA [] rfl
  refine va_calli (va_runS (As := [.int a0, .int a1]) (rest := []) ⟨hx, hb, hml, hown, hts⟩ (c_X8_isHouse l dC dI a0 a1 _ g0a g0b g1a g1b) (va_cwS 2 hts gX8_overhang_X8_isHouse rfl rfl rfl (by decide +kernel) ⟨Nat.le_of_ble_eq_true rfl, Nat.le_of_ble_eq_true rfl⟩) ⟨pr_blind, fun U hU hW => ⟨rfl, pr_mk hU hW hPc hKc hDc⟩⟩ rfl rfl hl.1 rfl (lv_room (Nat.le_of_ble_eq_true rfl)) dX8_overhang_7 ⟨Nat.le_of_ble_eq_true rfl, Nat.le_of_ble_eq_true rfl⟩) hS (fun q _ h => hFc q h) hFc (fun r_2 u_1 t H1 locs ht hvm hw hB hz1 hk1 hS => ?_)
  obtain ⟨hP1, hK1, hD1⟩ := hB
  rw [ht] at hP1
  obtain ⟨hP, hD⟩ := va_join (wr := [(mm, .inr (10, [.int 0, .ref pl, .ref ig, .ref sl, .ref kl, .int 0, .int 0, .int 0])), (pl, .inr (1, [.int 0, .ref dz, .int 0])), (sl, .inr (1, [.int 0, .ref dz, .int 0])), (kl, .inr (1, [.int 0, .ref dz, .int 0]))]) (w1 := []) hP hD [] [0, 1, 2, 3] rfl rfl (by decide) (by decide) hk1 hFc hP1 hD1
  generalize H1 = H at hP hS ⊢
  have hP : va_P (dC, dI) vwCl [(mm, .inr (10, [.int 0, .ref pl, .ref ig, .ref sl, .ref kl, .int 0, .int 0, .int 0])), (pl, .inr (1, [.int 0, .ref dz, .int 0])), (sl, .inr (1, [.int 0, .ref dz, .int 0])), (kl, .inr (1, [.int 0, .ref dz, .int 0]))] H := hP
  have hD : va_D A [(mm, .inr (10, [.int 0, .ref pl, .ref ig, .ref sl, .ref kl, .int 0, .int 0, .int 0])), (pl, .inr (1, [.int 0, .ref dz, .int 0])), (sl, .inr (1, [.int 0, .ref dz, .int 0])), (kl, .inr (1, [.int 0, .ref dz, .int 0]))] := hD
  refine W.widen (k := 0) (n := 0) (Nat.le_refl _) (Nat.le_refl _) ?_
  have hw : r_2 = 1 := hw
  subst hw
  refine lv_if_ne (tgt := 19) hx hb dX8_overhang_10 (by decide) (fun _ => ?_) (fun h9 => absurd h9 (by decide))
  refine lv_aload_n hx hb dX8_overhang_19 rfl (lv_at hl 0 rfl) ?_
  refine lv_iload_n hx hb dX8_overhang_20 rfl (lv_at hl 1 rfl) ?_
  refine lv_iload_n hx hb dX8_overhang_21 rfl (lv_at hl 2 rfl) ?_
  have hPc := hP.sub (ws' := [(mm, .inr (10, [.int 0, .ref pl, .ref ig, .ref sl, .ref kl, .int 0, .int 0, .int 0])), (sl, .inr (1, [.int 0, .ref dz, .int 0]))]) [0, 2] rfl
  have hDc := hD.sub (ws' := [(mm, .inr (10, [.int 0, .ref pl, .ref ig, .ref sl, .ref kl, .int 0, .int 0, .int 0])), (sl, .inr (1, [.int 0, .ref dz, .int 0]))]) [0, 2] (by decide) rfl
  have hKc := hK.sub (tys' := []) [] rfl
  have hFc := va_free (wc := [(mm, .inr (10, [.int 0, .ref pl, .ref ig, .ref sl, .ref kl, .int 0, .int 0, .int 0])), (sl, .inr (1, [.int 0, .ref dz, .int 0]))]) hD hS hA [0, 2] rfl
  refine va_callr (va_runV (As := [.int a0, .int a1]) (rest := []) ⟨hx, hb, hml, hown, hts⟩ (c_X8_houseOf l dC dI mm pl ig sl kl dz a0 a1 _ ) (cwV 2 hts gX8_overhang_X8_houseOf rfl rfl rfl (by decide +kernel) ⟨Nat.le_of_ble_eq_true rfl, Nat.le_of_ble_eq_true rfl⟩) ⟨pe_blind mo_bl, va_recv hKc hPc (ci := 10) (q0 := 0) rfl rfl, fun U hU hW => ⟨rfl, pr_mk hU hW hPc hKc hDc, mo_mk hW hXs⟩⟩ rfl rfl hl.1 rfl (lv_room (Nat.le_of_ble_eq_true rfl)) dX8_overhang_22 ⟨Nat.le_of_ble_eq_true rfl, Nat.le_of_ble_eq_true rfl⟩) hS (fun q _ h => hFc q h) hFc (fun u_3 r_4 t H1 locs ht hvm hw hB hz1 hk1 hS => ?_)
  obtain ⟨q_5, rfl⟩ : ∃ z, z = u_3 := ⟨_, rfl⟩
  obtain ⟨hP1, hK1, hD1⟩ := hB
  rw [ht] at hP1
  obtain ⟨hP, hD⟩ := va_join (wr := [(pl, .inr (1, [.int 0, .ref dz, .int 0])), (kl, .inr (1, [.int 0, .ref dz, .int 0]))]) (w1 := [(mm, .inr (10, [.int 0, .ref pl, .ref ig, .ref sl, .ref kl, .int 0, .int 0, .int 0])), (sl, .inr (1, [.int 0, .ref dz, .int 0])), (r_4, .inl (q_5, 4, .inl zi))]) hP hD [0, 2] [1, 3] rfl rfl (by decide) (by decide) hk1 hFc hP1 hD1
  have hK := hK.app (va_K.moved hvm.symm hK1)
  have hK : va_K (dC, dI) vwCl [(q_5, .int)] s := hK
  generalize H1 = H at hP hS ⊢
  have hP : va_P (dC, dI) vwCl [(pl, .inr (1, [.int 0, .ref dz, .int 0])), (kl, .inr (1, [.int 0, .ref dz, .int 0])), (mm, .inr (10, [.int 0, .ref pl, .ref ig, .ref sl, .ref kl, .int 0, .int 0, .int 0])), (sl, .inr (1, [.int 0, .ref dz, .int 0])), (r_4, .inl (q_5, 4, .inl zi))] H := hP
  have hD : va_D A [(pl, .inr (1, [.int 0, .ref dz, .int 0])), (kl, .inr (1, [.int 0, .ref dz, .int 0])), (mm, .inr (10, [.int 0, .ref pl, .ref ig, .ref sl, .ref kl, .int 0, .int 0, .int 0])), (sl, .inr (1, [.int 0, .ref dz, .int 0])), (r_4, .inl (q_5, 4, .inl zi))] := hD
  refine W.widen (k := 3) (n := 13) (Nat.le_of_ble_eq_true rfl) (Nat.le_of_ble_eq_true rfl) ?_
  refine lv_astore_n (lv' := [(3, .ref r_4), (0, .ref mm), (1, .int a0), (2, .int a1)]) hx hb dX8_overhang_25 rfl hl (by decide) rfl (fun ls hl => ?_)
  refine lv_iconst (v := 0) hx hb dX8_overhang_26 (by decide) ?_
  refine lv_istore (lv' := [(4, .int 0), (3, .ref r_4), (0, .ref mm), (1, .int a0), (2, .int a1)]) hx hb dX8_overhang_27 hl (by decide) rfl (fun ls hl => ?_)
  refine lv_iconst (v := 0) hx hb dX8_overhang_29 (by decide) ?_
  refine lv_istore (lv' := [(5, .int 0), (4, .int 0), (3, .ref r_4), (0, .ref mm), (1, .int a0), (2, .int a1)]) hx hb dX8_overhang_30 hl (by decide) rfl (fun ls hl => ?_)
  refine lv_iload hx hb dX8_overhang_32 (lv_at hl 0 rfl) ?_
  refine lv_iconst (v := 4) hx hb dX8_overhang_34 (by decide) ?_
  refine lv_icmp_ge (tgt := 64) hx hb dX8_overhang_35 (by decide) (fun h9 => absurd h9 (by decide)) (fun _ => ?_)
  refine lv_iload hx hb dX8_overhang_38 (lv_at hl 1 rfl) ?_
  refine lv_iconst (v := 0) hx hb dX8_overhang_40 (by decide) ?_
  refine lv_aload_n hx hb dX8_overhang_41 rfl (lv_at hl 3 rfl) ?_
  refine lv_iload hx hb dX8_overhang_42 (lv_at hl 0 rfl) ?_
  have hPc := hP.sub (ws' := [(mm, .inr (10, [.int 0, .ref pl, .ref ig, .ref sl, .ref kl, .int 0, .int 0, .int 0])), (sl, .inr (1, [.int 0, .ref dz, .int 0]))]) [2, 3] rfl
  have hDc := hD.sub (ws' := [(mm, .inr (10, [.int 0, .ref pl, .ref ig, .ref sl, .ref kl, .int 0, .int 0, .int 0])), (sl, .inr (1, [.int 0, .ref dz, .int 0]))]) [2, 3] (by decide) rfl
  have hKc := hK.sub (tys' := []) [] rfl
  have hFc := va_free (wc := [(mm, .inr (10, [.int 0, .ref pl, .ref ig, .ref sl, .ref kl, .int 0, .int 0, .int 0])), (sl, .inr (1, [.int 0, .ref dz, .int 0]))]) hD hS hA [2, 3] rfl
  refine va_calli (va_runV (As := [.int 0]) (rest := [.int 0, .int 0]) ⟨hx, hb, hml, hown, hts⟩ (c_X8_direct l dC dI mm pl ig sl kl dz (0 : Int32) _ ) (cwV 1 hts gX8_overhang_X8_direct rfl rfl rfl (by decide +kernel) ⟨Nat.le_of_ble_eq_true rfl, Nat.le_of_ble_eq_true rfl⟩) ⟨pe_blind mo_bl, va_recv hKc hPc (ci := 10) (q0 := 0) rfl rfl, fun U hU hW => ⟨rfl, pr_mk hU hW hPc hKc hDc, mo_mk hW hXs⟩⟩ rfl rfl hl.1 rfl (lv_room (Nat.le_of_ble_eq_true rfl)) dX8_overhang_44 ⟨Nat.le_of_ble_eq_true rfl, Nat.le_of_ble_eq_true rfl⟩) hS (fun q _ h => hFc q h) hFc (fun r_7 u_6 t H1 locs ht hvm hw hB hz1 hk1 hS => ?_)
  obtain ⟨hP1, hK1, hD1⟩ := hB
  rw [ht] at hP1
  obtain ⟨hP, hD⟩ := va_join (wr := [(pl, .inr (1, [.int 0, .ref dz, .int 0])), (kl, .inr (1, [.int 0, .ref dz, .int 0])), (r_4, .inl (q_5, 4, .inl zi))]) (w1 := [(mm, .inr (10, [.int 0, .ref pl, .ref ig, .ref sl, .ref kl, .int 0, .int 0, .int 0])), (sl, .inr (1, [.int 0, .ref dz, .int 0]))]) hP hD [2, 3] [0, 1, 4] rfl rfl (by decide) (by decide) hk1 hFc hP1 hD1
  generalize H1 = H at hP hS ⊢
  have hP : va_P (dC, dI) vwCl [(pl, .inr (1, [.int 0, .ref dz, .int 0])), (kl, .inr (1, [.int 0, .ref dz, .int 0])), (r_4, .inl (q_5, 4, .inl zi)), (mm, .inr (10, [.int 0, .ref pl, .ref ig, .ref sl, .ref kl, .int 0, .int 0, .int 0])), (sl, .inr (1, [.int 0, .ref dz, .int 0]))] H := hP
  have hD : va_D A [(pl, .inr (1, [.int 0, .ref dz, .int 0])), (kl, .inr (1, [.int 0, .ref dz, .int 0])), (r_4, .inl (q_5, 4, .inl zi)), (mm, .inr (10, [.int 0, .ref pl, .ref ig, .ref sl, .ref kl, .int 0, .int 0, .int 0])), (sl, .inr (1, [.int 0, .ref dz, .int 0]))] := hD
  refine W.widen (k := 3) (n := 13) (Nat.le_refl _) (Nat.le_refl _) ?_
  have hw : r_7 = 0 := hw
  subst hw
  refine lv_aload_n hx hb dX8_overhang_47 rfl (lv_at hl 2 rfl) ?_
  refine lv_iload hx hb dX8_overhang_48 (lv_at hl 0 rfl) ?_
  refine va_iald hx hb hK hP 2 0 rfl rfl (by unfold vp_in; decide) dX8_overhang_50 ?_
  refine lv_topi (fun y_8 ey_8 => ?_)
  obtain rfl : y_8 = 0 := ey_8.trans (by rfl)
  refine lv_isub hx hb dX8_overhang_51 ?_
  refine lv_topi (fun y_9 ey_9 => ?_)
  obtain rfl : y_9 = 0 := ey_9.trans (by decide)
  refine va_mmax hx hb (by rw [hml]; exact hl.1.symm) hown (hts (.methodLink RX8 185 Lib.Math.max.name) (by decide +kernel)) (hts (.static Lib.Math.max.name) (by decide +kernel)) (hts (.initialized "java/lang/Math") (by decide +kernel)) (hts (.code Lib.Math.max.name Lib.Math.max.code 2 (some .int)) (by decide +kernel)) (Nat.le_of_ble_eq_true rfl) (Nat.le_of_ble_eq_true rfl) (Nat.le_of_ble_eq_true rfl) (Nat.le_of_ble_eq_true rfl) dX8_overhang_52 ?_
  refine lv_topi (fun y_10 ey_10 => ?_)
  obtain rfl : y_10 = 0 := ey_10.trans (by decide)
  refine lv_iadd hx hb dX8_overhang_55 ?_
  refine lv_topi (fun y_11 ey_11 => ?_)
  obtain rfl : y_11 = 0 := ey_11.trans (by decide)
  refine lv_istore (lv' := [(4, .int 0), (5, .int 0), (3, .ref r_4), (0, .ref mm), (1, .int a0), (2, .int a1)]) hx hb dX8_overhang_56 hl (by decide) rfl (fun ls hl => ?_)
  refine lv_iinc (k := 1) (v := 1) (lv' := [(5, .int 1), (4, .int 0), (3, .ref r_4), (0, .ref mm), (1, .int a0), (2, .int a1)]) hx hb dX8_overhang_58 hl rfl (by decide) (by decide) rfl (fun ls hl => ?_)
  refine lv_goto (tgt := 32) hx hb dX8_overhang_61 (by decide) ?_
  refine lv_iload hx hb dX8_overhang_32 (lv_at hl 0 rfl) ?_
  refine lv_iconst (v := 4) hx hb dX8_overhang_34 (by decide) ?_
  refine lv_icmp_ge (tgt := 64) hx hb dX8_overhang_35 (by decide) (fun h9 => absurd h9 (by decide)) (fun _ => ?_)
  refine lv_iload hx hb dX8_overhang_38 (lv_at hl 1 rfl) ?_
  refine lv_iconst (v := 0) hx hb dX8_overhang_40 (by decide) ?_
  refine lv_aload_n hx hb dX8_overhang_41 rfl (lv_at hl 3 rfl) ?_
  refine lv_iload hx hb dX8_overhang_42 (lv_at hl 0 rfl) ?_
  have hPc := hP.sub (ws' := [(mm, .inr (10, [.int 0, .ref pl, .ref ig, .ref sl, .ref kl, .int 0, .int 0, .int 0])), (sl, .inr (1, [.int 0, .ref dz, .int 0]))]) [3, 4] rfl
  have hDc := hD.sub (ws' := [(mm, .inr (10, [.int 0, .ref pl, .ref ig, .ref sl, .ref kl, .int 0, .int 0, .int 0])), (sl, .inr (1, [.int 0, .ref dz, .int 0]))]) [3, 4] (by decide) rfl
  have hKc := hK.sub (tys' := []) [] rfl
  have hFc := va_free (wc := [(mm, .inr (10, [.int 0, .ref pl, .ref ig, .ref sl, .ref kl, .int 0, .int 0, .int 0])), (sl, .inr (1, [.int 0, .ref dz, .int 0]))]) hD hS hA [3, 4] rfl
  refine va_calli (va_runV (As := [.int 1]) (rest := [.int 0, .int 0]) ⟨hx, hb, hml, hown, hts⟩ (c_X8_direct l dC dI mm pl ig sl kl dz (1 : Int32) _ ) (cwV 1 hts gX8_overhang_X8_direct rfl rfl rfl (by decide +kernel) ⟨Nat.le_of_ble_eq_true rfl, Nat.le_of_ble_eq_true rfl⟩) ⟨pe_blind mo_bl, va_recv hKc hPc (ci := 10) (q0 := 0) rfl rfl, fun U hU hW => ⟨rfl, pr_mk hU hW hPc hKc hDc, mo_mk hW hXs⟩⟩ rfl rfl hl.1 rfl (lv_room (Nat.le_of_ble_eq_true rfl)) dX8_overhang_44 ⟨Nat.le_of_ble_eq_true rfl, Nat.le_of_ble_eq_true rfl⟩) hS (fun q _ h => hFc q h) hFc (fun r_13 u_12 t H1 locs ht hvm hw hB hz1 hk1 hS => ?_)
  obtain ⟨hP1, hK1, hD1⟩ := hB
  rw [ht] at hP1
  obtain ⟨hP, hD⟩ := va_join (wr := [(pl, .inr (1, [.int 0, .ref dz, .int 0])), (kl, .inr (1, [.int 0, .ref dz, .int 0])), (r_4, .inl (q_5, 4, .inl zi))]) (w1 := [(mm, .inr (10, [.int 0, .ref pl, .ref ig, .ref sl, .ref kl, .int 0, .int 0, .int 0])), (sl, .inr (1, [.int 0, .ref dz, .int 0]))]) hP hD [3, 4] [0, 1, 2] rfl rfl (by decide) (by decide) hk1 hFc hP1 hD1
  generalize H1 = H at hP hS ⊢
  have hP : va_P (dC, dI) vwCl [(pl, .inr (1, [.int 0, .ref dz, .int 0])), (kl, .inr (1, [.int 0, .ref dz, .int 0])), (r_4, .inl (q_5, 4, .inl zi)), (mm, .inr (10, [.int 0, .ref pl, .ref ig, .ref sl, .ref kl, .int 0, .int 0, .int 0])), (sl, .inr (1, [.int 0, .ref dz, .int 0]))] H := hP
  have hD : va_D A [(pl, .inr (1, [.int 0, .ref dz, .int 0])), (kl, .inr (1, [.int 0, .ref dz, .int 0])), (r_4, .inl (q_5, 4, .inl zi)), (mm, .inr (10, [.int 0, .ref pl, .ref ig, .ref sl, .ref kl, .int 0, .int 0, .int 0])), (sl, .inr (1, [.int 0, .ref dz, .int 0]))] := hD
  refine W.widen (k := 3) (n := 13) (Nat.le_refl _) (Nat.le_refl _) ?_
  have hw : r_13 = 0 := hw
  subst hw
  refine lv_aload_n hx hb dX8_overhang_47 rfl (lv_at hl 2 rfl) ?_
  refine lv_iload hx hb dX8_overhang_48 (lv_at hl 0 rfl) ?_
  refine va_iald hx hb hK hP 2 0 rfl rfl (by unfold vp_in; decide) dX8_overhang_50 ?_
  refine lv_topi (fun y_14 ey_14 => ?_)
  obtain rfl : y_14 = 0 := ey_14.trans (by rfl)
  refine lv_isub hx hb dX8_overhang_51 ?_
  refine lv_topi (fun y_15 ey_15 => ?_)
  obtain rfl : y_15 = 0 := ey_15.trans (by decide)
  refine va_mmax hx hb (by rw [hml]; exact hl.1.symm) hown (hts (.methodLink RX8 185 Lib.Math.max.name) (by decide +kernel)) (hts (.static Lib.Math.max.name) (by decide +kernel)) (hts (.initialized "java/lang/Math") (by decide +kernel)) (hts (.code Lib.Math.max.name Lib.Math.max.code 2 (some .int)) (by decide +kernel)) (Nat.le_of_ble_eq_true rfl) (Nat.le_of_ble_eq_true rfl) (Nat.le_of_ble_eq_true rfl) (Nat.le_of_ble_eq_true rfl) dX8_overhang_52 ?_
  refine lv_topi (fun y_16 ey_16 => ?_)
  obtain rfl : y_16 = 0 := ey_16.trans (by decide)
  refine lv_iadd hx hb dX8_overhang_55 ?_
  refine lv_topi (fun y_17 ey_17 => ?_)
  obtain rfl : y_17 = 0 := ey_17.trans (by decide)
  refine lv_istore (lv' := [(4, .int 0), (5, .int 1), (3, .ref r_4), (0, .ref mm), (1, .int a0), (2, .int a1)]) hx hb dX8_overhang_56 hl (by decide) rfl (fun ls hl => ?_)
  refine lv_iinc (k := 1) (v := 2) (lv' := [(5, .int 2), (4, .int 0), (3, .ref r_4), (0, .ref mm), (1, .int a0), (2, .int a1)]) hx hb dX8_overhang_58 hl rfl (by decide) (by decide) rfl (fun ls hl => ?_)
  refine lv_goto (tgt := 32) hx hb dX8_overhang_61 (by decide) ?_
  refine lv_iload hx hb dX8_overhang_32 (lv_at hl 0 rfl) ?_
  refine lv_iconst (v := 4) hx hb dX8_overhang_34 (by decide) ?_
  refine lv_icmp_ge (tgt := 64) hx hb dX8_overhang_35 (by decide) (fun h9 => absurd h9 (by decide)) (fun _ => ?_)
  refine lv_iload hx hb dX8_overhang_38 (lv_at hl 1 rfl) ?_
  refine lv_iconst (v := 0) hx hb dX8_overhang_40 (by decide) ?_
  refine lv_aload_n hx hb dX8_overhang_41 rfl (lv_at hl 3 rfl) ?_
  refine lv_iload hx hb dX8_overhang_42 (lv_at hl 0 rfl) ?_
  have hPc := hP.sub (ws' := [(mm, .inr (10, [.int 0, .ref pl, .ref ig, .ref sl, .ref kl, .int 0, .int 0, .int 0])), (sl, .inr (1, [.int 0, .ref dz, .int 0]))]) [3, 4] rfl
  have hDc := hD.sub (ws' := [(mm, .inr (10, [.int 0, .ref pl, .ref ig, .ref sl, .ref kl, .int 0, .int 0, .int 0])), (sl, .inr (1, [.int 0, .ref dz, .int 0]))]) [3, 4] (by decide) rfl
  have hKc := hK.sub (tys' := []) [] rfl
  have hFc := va_free (wc := [(mm, .inr (10, [.int 0, .ref pl, .ref ig, .ref sl, .ref kl, .int 0, .int 0, .int 0])), (sl, .inr (1, [.int 0, .ref dz, .int 0]))]) hD hS hA [3, 4] rfl
  refine va_calli (va_runV (As := [.int 2]) (rest := [.int 0, .int 0]) ⟨hx, hb, hml, hown, hts⟩ (c_X8_direct l dC dI mm pl ig sl kl dz (2 : Int32) _ ) (cwV 1 hts gX8_overhang_X8_direct rfl rfl rfl (by decide +kernel) ⟨Nat.le_of_ble_eq_true rfl, Nat.le_of_ble_eq_true rfl⟩) ⟨pe_blind mo_bl, va_recv hKc hPc (ci := 10) (q0 := 0) rfl rfl, fun U hU hW => ⟨rfl, pr_mk hU hW hPc hKc hDc, mo_mk hW hXs⟩⟩ rfl rfl hl.1 rfl (lv_room (Nat.le_of_ble_eq_true rfl)) dX8_overhang_44 ⟨Nat.le_of_ble_eq_true rfl, Nat.le_of_ble_eq_true rfl⟩) hS (fun q _ h => hFc q h) hFc (fun r_19 u_18 t H1 locs ht hvm hw hB hz1 hk1 hS => ?_)
  obtain ⟨hP1, hK1, hD1⟩ := hB
  rw [ht] at hP1
  obtain ⟨hP, hD⟩ := va_join (wr := [(pl, .inr (1, [.int 0, .ref dz, .int 0])), (kl, .inr (1, [.int 0, .ref dz, .int 0])), (r_4, .inl (q_5, 4, .inl zi))]) (w1 := [(mm, .inr (10, [.int 0, .ref pl, .ref ig, .ref sl, .ref kl, .int 0, .int 0, .int 0])), (sl, .inr (1, [.int 0, .ref dz, .int 0]))]) hP hD [3, 4] [0, 1, 2] rfl rfl (by decide) (by decide) hk1 hFc hP1 hD1
  generalize H1 = H at hP hS ⊢
  have hP : va_P (dC, dI) vwCl [(pl, .inr (1, [.int 0, .ref dz, .int 0])), (kl, .inr (1, [.int 0, .ref dz, .int 0])), (r_4, .inl (q_5, 4, .inl zi)), (mm, .inr (10, [.int 0, .ref pl, .ref ig, .ref sl, .ref kl, .int 0, .int 0, .int 0])), (sl, .inr (1, [.int 0, .ref dz, .int 0]))] H := hP
  have hD : va_D A [(pl, .inr (1, [.int 0, .ref dz, .int 0])), (kl, .inr (1, [.int 0, .ref dz, .int 0])), (r_4, .inl (q_5, 4, .inl zi)), (mm, .inr (10, [.int 0, .ref pl, .ref ig, .ref sl, .ref kl, .int 0, .int 0, .int 0])), (sl, .inr (1, [.int 0, .ref dz, .int 0]))] := hD
  refine W.widen (k := 3) (n := 13) (Nat.le_refl _) (Nat.le_refl _) ?_
  have hw : r_19 = 0 := hw
  subst hw
  refine lv_aload_n hx hb dX8_overhang_47 rfl (lv_at hl 2 rfl) ?_
  refine lv_iload hx hb dX8_overhang_48 (lv_at hl 0 rfl) ?_
  refine va_iald hx hb hK hP 2 0 rfl rfl (by unfold vp_in; decide) dX8_overhang_50 ?_
  refine lv_topi (fun y_20 ey_20 => ?_)
  obtain rfl : y_20 = 0 := ey_20.trans (by rfl)
  refine lv_isub hx hb dX8_overhang_51 ?_
  refine lv_topi (fun y_21 ey_21 => ?_)
  obtain rfl : y_21 = 0 := ey_21.trans (by decide)
  refine va_mmax hx hb (by rw [hml]; exact hl.1.symm) hown (hts (.methodLink RX8 185 Lib.Math.max.name) (by decide +kernel)) (hts (.static Lib.Math.max.name) (by decide +kernel)) (hts (.initialized "java/lang/Math") (by decide +kernel)) (hts (.code Lib.Math.max.name Lib.Math.max.code 2 (some .int)) (by decide +kernel)) (Nat.le_of_ble_eq_true rfl) (Nat.le_of_ble_eq_true rfl) (Nat.le_of_ble_eq_true rfl) (Nat.le_of_ble_eq_true rfl) dX8_overhang_52 ?_
  refine lv_topi (fun y_22 ey_22 => ?_)
  obtain rfl : y_22 = 0 := ey_22.trans (by decide)
  refine lv_iadd hx hb dX8_overhang_55 ?_
  refine lv_topi (fun y_23 ey_23 => ?_)
  obtain rfl : y_23 = 0 := ey_23.trans (by decide)
  refine lv_istore (lv' := [(4, .int 0), (5, .int 2), (3, .ref r_4), (0, .ref mm), (1, .int a0), (2, .int a1)]) hx hb dX8_overhang_56 hl (by decide) rfl (fun ls hl => ?_)
  refine lv_iinc (k := 1) (v := 3) (lv' := [(5, .int 3), (4, .int 0), (3, .ref r_4), (0, .ref mm), (1, .int a0), (2, .int a1)]) hx hb dX8_overhang_58 hl rfl (by decide) (by decide) rfl (fun ls hl => ?_)
  refine lv_goto (tgt := 32) hx hb dX8_overhang_61 (by decide) ?_
  refine lv_iload hx hb dX8_overhang_32 (lv_at hl 0 rfl) ?_
  refine lv_iconst (v := 4) hx hb dX8_overhang_34 (by decide) ?_
  refine lv_icmp_ge (tgt := 64) hx hb dX8_overhang_35 (by decide) (fun h9 => absurd h9 (by decide)) (fun _ => ?_)
  refine lv_iload hx hb dX8_overhang_38 (lv_at hl 1 rfl) ?_
  refine lv_iconst (v := 0) hx hb dX8_overhang_40 (by decide) ?_
  refine lv_aload_n hx hb dX8_overhang_41 rfl (lv_at hl 3 rfl) ?_
  refine lv_iload hx hb dX8_overhang_42 (lv_at hl 0 rfl) ?_
  have hPc := hP.sub (ws' := [(mm, .inr (10, [.int 0, .ref pl, .ref ig, .ref sl, .ref kl, .int 0, .int 0, .int 0])), (sl, .inr (1, [.int 0, .ref dz, .int 0]))]) [3, 4] rfl
  have hDc := hD.sub (ws' := [(mm, .inr (10, [.int 0, .ref pl, .ref ig, .ref sl, .ref kl, .int 0, .int 0, .int 0])), (sl, .inr (1, [.int 0, .ref dz, .int 0]))]) [3, 4] (by decide) rfl
  have hKc := hK.sub (tys' := []) [] rfl
  have hFc := va_free (wc := [(mm, .inr (10, [.int 0, .ref pl, .ref ig, .ref sl, .ref kl, .int 0, .int 0, .int 0])), (sl, .inr (1, [.int 0, .ref dz, .int 0]))]) hD hS hA [3, 4] rfl
  refine va_calli (va_runV (As := [.int 3]) (rest := [.int 0, .int 0]) ⟨hx, hb, hml, hown, hts⟩ (c_X8_direct l dC dI mm pl ig sl kl dz (3 : Int32) _ ) (cwV 1 hts gX8_overhang_X8_direct rfl rfl rfl (by decide +kernel) ⟨Nat.le_of_ble_eq_true rfl, Nat.le_of_ble_eq_true rfl⟩) ⟨pe_blind mo_bl, va_recv hKc hPc (ci := 10) (q0 := 0) rfl rfl, fun U hU hW => ⟨rfl, pr_mk hU hW hPc hKc hDc, mo_mk hW hXs⟩⟩ rfl rfl hl.1 rfl (lv_room (Nat.le_of_ble_eq_true rfl)) dX8_overhang_44 ⟨Nat.le_of_ble_eq_true rfl, Nat.le_of_ble_eq_true rfl⟩) hS (fun q _ h => hFc q h) hFc (fun r_25 u_24 t H1 locs ht hvm hw hB hz1 hk1 hS => ?_)
  obtain ⟨hP1, hK1, hD1⟩ := hB
  rw [ht] at hP1
  obtain ⟨hP, hD⟩ := va_join (wr := [(pl, .inr (1, [.int 0, .ref dz, .int 0])), (kl, .inr (1, [.int 0, .ref dz, .int 0])), (r_4, .inl (q_5, 4, .inl zi))]) (w1 := [(mm, .inr (10, [.int 0, .ref pl, .ref ig, .ref sl, .ref kl, .int 0, .int 0, .int 0])), (sl, .inr (1, [.int 0, .ref dz, .int 0]))]) hP hD [3, 4] [0, 1, 2] rfl rfl (by decide) (by decide) hk1 hFc hP1 hD1
  generalize H1 = H at hP hS ⊢
  have hP : va_P (dC, dI) vwCl [(pl, .inr (1, [.int 0, .ref dz, .int 0])), (kl, .inr (1, [.int 0, .ref dz, .int 0])), (r_4, .inl (q_5, 4, .inl zi)), (mm, .inr (10, [.int 0, .ref pl, .ref ig, .ref sl, .ref kl, .int 0, .int 0, .int 0])), (sl, .inr (1, [.int 0, .ref dz, .int 0]))] H := hP
  have hD : va_D A [(pl, .inr (1, [.int 0, .ref dz, .int 0])), (kl, .inr (1, [.int 0, .ref dz, .int 0])), (r_4, .inl (q_5, 4, .inl zi)), (mm, .inr (10, [.int 0, .ref pl, .ref ig, .ref sl, .ref kl, .int 0, .int 0, .int 0])), (sl, .inr (1, [.int 0, .ref dz, .int 0]))] := hD
  refine W.widen (k := 3) (n := 13) (Nat.le_refl _) (Nat.le_refl _) ?_
  have hw : r_25 = 0 := hw
  subst hw
  refine lv_aload_n hx hb dX8_overhang_47 rfl (lv_at hl 2 rfl) ?_
  refine lv_iload hx hb dX8_overhang_48 (lv_at hl 0 rfl) ?_
  refine va_iald hx hb hK hP 2 0 rfl rfl (by unfold vp_in; decide) dX8_overhang_50 ?_
  refine lv_topi (fun y_26 ey_26 => ?_)
  obtain rfl : y_26 = 0 := ey_26.trans (by rfl)
  refine lv_isub hx hb dX8_overhang_51 ?_
  refine lv_topi (fun y_27 ey_27 => ?_)
  obtain rfl : y_27 = 0 := ey_27.trans (by decide)
  refine va_mmax hx hb (by rw [hml]; exact hl.1.symm) hown (hts (.methodLink RX8 185 Lib.Math.max.name) (by decide +kernel)) (hts (.static Lib.Math.max.name) (by decide +kernel)) (hts (.initialized "java/lang/Math") (by decide +kernel)) (hts (.code Lib.Math.max.name Lib.Math.max.code 2 (some .int)) (by decide +kernel)) (Nat.le_of_ble_eq_true rfl) (Nat.le_of_ble_eq_true rfl) (Nat.le_of_ble_eq_true rfl) (Nat.le_of_ble_eq_true rfl) dX8_overhang_52 ?_
  refine lv_topi (fun y_28 ey_28 => ?_)
  obtain rfl : y_28 = 0 := ey_28.trans (by decide)
  refine lv_iadd hx hb dX8_overhang_55 ?_
  refine lv_topi (fun y_29 ey_29 => ?_)
  obtain rfl : y_29 = 0 := ey_29.trans (by decide)
  refine lv_istore (lv' := [(4, .int 0), (5, .int 3), (3, .ref r_4), (0, .ref mm), (1, .int a0), (2, .int a1)]) hx hb dX8_overhang_56 hl (by decide) rfl (fun ls hl => ?_)
  refine lv_iinc (k := 1) (v := 4) (lv' := [(5, .int 4), (4, .int 0), (3, .ref r_4), (0, .ref mm), (1, .int a0), (2, .int a1)]) hx hb dX8_overhang_58 hl rfl (by decide) (by decide) rfl (fun ls hl => ?_)
  refine lv_goto (tgt := 32) hx hb dX8_overhang_61 (by decide) ?_
  refine lv_iload hx hb dX8_overhang_32 (lv_at hl 0 rfl) ?_
  refine lv_iconst (v := 4) hx hb dX8_overhang_34 (by decide) ?_
  refine lv_icmp_ge (tgt := 64) hx hb dX8_overhang_35 (by decide) (fun _ => ?_) (fun h9 => absurd h9 (by decide))
  refine lv_iload hx hb dX8_overhang_64 (lv_at hl 1 rfl) ?_
  have hP9 := hP.sub (ws' := [(mm, .inr (10, [.int 0, .ref pl, .ref ig, .ref sl, .ref kl, .int 0, .int 0, .int 0]))]) [3] rfl
  have hD9 := hD.sub (ws' := [(mm, .inr (10, [.int 0, .ref pl, .ref ig, .ref sl, .ref kl, .int 0, .int 0, .int 0]))]) [3] (by decide) rfl
  have hK9 := hK.sub (tys' := []) [] rfl
  refine W.widen (k := 4) (n := 20) (Nat.le_of_ble_eq_true rfl) (Nat.le_of_ble_eq_true rfl) ?_
  exact W.iret (v := 0) hx hb hr (fun t ht hW => ⟨⟨0, (), rfl, rfl, po_mk ht hW hP9 hK9 hD9⟩, hS.F ht⟩) hS.2.2 dX8_overhang_66

set_option maxHeartbeats 4000000 in
set_option maxRecDepth 100000 in
theorem c0_X8_coalition (l : Launch) (dC : Nat → ClassId) (dI : Nat → Nat → Nat) (mm : Nat) (pl : Nat) (ig : Nat) (sl : Nat) (kl : Nat) (dz : Nat) (a0 : Int32) (a1 : Int32) (sz : Nat) (hbd : a0 < 1 ∨ 60 < a0) : Met l yX8_coalition wsX8_coalition ({ frames := 5, cells := 0, slots := 0, locals := 140 }) (va_Pc [.ref mm, .int a0, .int a1] (fun U => pr_ dC dI [(mm, .inr (10, [.int 0, .ref pl, .ref ig, .ref sl, .ref kl, .int 0, .int 0, .int 0])), (pl, .inr (1, [.int 0, .ref dz, .int 0])), (sl, .inr (1, [.int 0, .ref dz, .int 0])), (kl, .inr (1, [.int 0, .ref dz, .int 0]))] [] sz U ∧ mo_  U)) (va_Qi (fun (r : Int32) (_ : Unit) => r = 0) (fun (_ : Unit) t => po_ dC dI [(mm, .inr (10, [.int 1, .ref pl, .ref ig, .ref sl, .ref kl, .int 0, .int 0, .int 0]))] [] (va_A [(mm, .inr (10, [.int 0, .ref pl, .ref ig, .ref sl, .ref kl, .int 0, .int 0, .int 0])), (pl, .inr (1, [.int 0, .ref dz, .int 0])), (sl, .inr (1, [.int 0, .ref dz, .int 0])), (kl, .inr (1, [.int 0, .ref dz, .int 0]))] sz) t) (va_A [(mm, .inr (10, [.int 0, .ref pl, .ref ig, .ref sl, .ref kl, .int 0, .int 0, .int 0])), (pl, .inr (1, [.int 0, .ref dz, .int 0])), (sl, .inr (1, [.int 0, .ref dz, .int 0])), (kl, .inr (1, [.int 0, .ref dz, .int 0]))] sz)) 0 0 (va_A [(mm, .inr (10, [.int 0, .ref pl, .ref ig, .ref sl, .ref kl, .int 0, .int 0, .int 0])), (pl, .inr (1, [.int 0, .ref dz, .int 0])), (sl, .inr (1, [.int 0, .ref dz, .int 0])), (kl, .inr (1, [.int 0, .ref dz, .int 0]))] sz) := by
  refine Met.ofW (cc := cX8_coalition) (maxL := 3) (ret := (some .int)) (by decide) rfl ?_
  intro p e s m args below meth c s₁ B hml hv
  obtain ⟨rfl, ⟨hsz, hP, hK, hD0⟩, hXs⟩ := hv
  have hx := B.exec
  have hb := B.bytes
  have hr := B.returns
  have hts := atoms_spec (ws := wsX8_coalition) B.pre
  have hown : s.vm.findClass RX8 = some m.cls := findClass_of_methodNamed B.named
  have hlocks := B.notSynchronized
  subst hsz
  have hD := hD0.self (sz := s.heap.size)
  generalize hAe : va_A [(mm, .inr (10, [.int 0, .ref pl, .ref ig, .ref sl, .ref kl, .int 0, .int 0, .int 0])), (pl, .inr (1, [.int 0, .ref dz, .int 0])), (sl, .inr (1, [.int 0, .ref dz, .int 0])), (kl, .inr (1, [.int 0, .ref dz, .int 0]))] s.heap.size = A at hD ⊢
  have hA : ∀ q : Nat, s.heap.size ≤ q → A q := fun q h => by rw [← hAe]; exact Or.inr h
  have hS : va_S A s.heap s.heap [] := va_S.rf
  have hP : va_P (dC, dI) vwCl [(mm, .inr (10, [.int 0, .ref pl, .ref ig, .ref sl, .ref kl, .int 0, .int 0, .int 0])), (pl, .inr (1, [.int 0, .ref dz, .int 0])), (sl, .inr (1, [.int 0, .ref dz, .int 0])), (kl, .inr (1, [.int 0, .ref dz, .int 0]))] s.heap := hP
  have hK : va_K (dC, dI) vwCl [] s := hK
  have hl := lv_entry ([.ref mm, .int a0, .int a1]) (n := 3) (Nat.le_of_ble_eq_true rfl)
  rw [lg_entry_eq]
  generalize (lg_sl ([.ref mm, .int a0, .int a1]) ++ List.replicate (3 - (lg_sl ([.ref mm, .int a0, .int a1])).length) Slot.unset).toArray = ls at hl ⊢
  have hl : lv_has ls 3 [(0, .ref mm), (1, .int a0), (2, .int a1)] := hl
  refine lv_aload_n hx hb dX8_coalition_0 rfl (lv_at hl 0 rfl) ?_
  refine lv_iconst (v := 0) hx hb dX8_coalition_1 (by decide) ?_
  have hinX8 : ∀ w ∈ u_ws RX8 TX8 8, w ∈ wsX8_coalition := by decide +kernel
  refine va_put (D := (dC, dI)) (ci := 10) (v := .int 0) (ty := .int) (C := RX8) (T := TX8) (N := 8) hx hb hts hinX8 tyX8 tyX8_ok nmX8 hown hK hP hD hS 0 rfl rfl 0 (by decide) (hts (.fieldLink RX8 26 "BallotLoomModel" "thrown" "I") (by decide +kernel)) (fun _ h9 => h9) rfl (by decide +kernel) rfl rfl (Nat.le_of_ble_eq_true rfl) dX8_coalition_2 (fun H locs hP hD hS => ?_)
  have hP : va_P (dC, dI) vwCl [(mm, .inr (10, [.int 0, .ref pl, .ref ig, .ref sl, .ref kl, .int 0, .int 0, .int 0])), (pl, .inr (1, [.int 0, .ref dz, .int 0])), (sl, .inr (1, [.int 0, .ref dz, .int 0])), (kl, .inr (1, [.int 0, .ref dz, .int 0]))] H := hP
  have hD : va_D A [(mm, .inr (10, [.int 0, .ref pl, .ref ig, .ref sl, .ref kl, .int 0, .int 0, .int 0])), (pl, .inr (1, [.int 0, .ref dz, .int 0])), (sl, .inr (1, [.int 0, .ref dz, .int 0])), (kl, .inr (1, [.int 0, .ref dz, .int 0]))] := hD
  refine lv_iload_n hx hb dX8_coalition_5 rfl (lv_at hl 1 rfl) ?_
  refine lv_iload_n hx hb dX8_coalition_6 rfl (lv_at hl 2 rfl) ?_
  have hPc := hP.sub (ws' := []) [] rfl
  have hDc := hD.sub (ws' := []) [] (by decide) rfl
  have hKc := hK.sub (tys' := []) [] rfl
  have hFc := va_free (wc := []) hD hS hA [] rfl
  refine va_calli (va_runS (As := [.int a0, .int a1]) (rest := []) ⟨hx, hb, hml, hown, hts⟩ (c0_X8_isHouse l dC dI a0 a1 _ hbd) (va_cwS 2 hts gX8_coalition_X8_isHouse rfl rfl rfl (by decide +kernel) ⟨Nat.le_of_ble_eq_true rfl, Nat.le_of_ble_eq_true rfl⟩) ⟨pr_blind, fun U hU hW => ⟨rfl, pr_mk hU hW hPc hKc hDc⟩⟩ rfl rfl hl.1 rfl (lv_room (Nat.le_of_ble_eq_true rfl)) dX8_coalition_7 ⟨Nat.le_of_ble_eq_true rfl, Nat.le_of_ble_eq_true rfl⟩) hS (fun q _ h => hFc q h) hFc (fun r_2 u_1 t H1 locs ht hvm hw hB hz1 hk1 hS => ?_)
  obtain ⟨hP1, hK1, hD1⟩ := hB
  rw [ht] at hP1
  obtain ⟨hP, hD⟩ := va_join (wr := [(mm, .inr (10, [.int 0, .ref pl, .ref ig, .ref sl, .ref kl, .int 0, .int 0, .int 0])), (pl, .inr (1, [.int 0, .ref dz, .int 0])), (sl, .inr (1, [.int 0, .ref dz, .int 0])), (kl, .inr (1, [.int 0, .ref dz, .int 0]))]) (w1 := []) hP hD [] [0, 1, 2, 3] rfl rfl (by decide) (by decide) hk1 hFc hP1 hD1
  generalize H1 = H at hP hS ⊢
  have hP : va_P (dC, dI) vwCl [(mm, .inr (10, [.int 0, .ref pl, .ref ig, .ref sl, .ref kl, .int 0, .int 0, .int 0])), (pl, .inr (1, [.int 0, .ref dz, .int 0])), (sl, .inr (1, [.int 0, .ref dz, .int 0])), (kl, .inr (1, [.int 0, .ref dz, .int 0]))] H := hP
  have hD : va_D A [(mm, .inr (10, [.int 0, .ref pl, .ref ig, .ref sl, .ref kl, .int 0, .int 0, .int 0])), (pl, .inr (1, [.int 0, .ref dz, .int 0])), (sl, .inr (1, [.int 0, .ref dz, .int 0])), (kl, .inr (1, [.int 0, .ref dz, .int 0]))] := hD
  refine W.widen (k := 0) (n := 0) (Nat.le_refl _) (Nat.le_refl _) ?_
  have hw : r_2 = 0 := hw
  subst hw
  refine lv_if_ne (tgt := 19) hx hb dX8_coalition_10 (by decide) (fun h9 => absurd h9 (by decide)) (fun _ => ?_)
  refine lv_aload_n hx hb dX8_coalition_13 rfl (lv_at hl 0 rfl) ?_
  refine lv_iconst (v := 1) hx hb dX8_coalition_14 (by decide) ?_
  have hPc := hP.sub (ws' := [(mm, .inr (10, [.int 0, .ref pl, .ref ig, .ref sl, .ref kl, .int 0, .int 0, .int 0]))]) [0] rfl
  have hDc := hD.sub (ws' := [(mm, .inr (10, [.int 0, .ref pl, .ref ig, .ref sl, .ref kl, .int 0, .int 0, .int 0]))]) [0] (by decide) rfl
  have hKc := hK.sub (tys' := []) [] rfl
  have hFc := va_free (wc := [(mm, .inr (10, [.int 0, .ref pl, .ref ig, .ref sl, .ref kl, .int 0, .int 0, .int 0]))]) hD hS hA [0] rfl
  refine va_calli (va_runV (As := [.int 1]) (rest := []) ⟨hx, hb, hml, hown, hts⟩ (c_X8_no l dC dI mm pl ig sl kl (1 : Int32) (0 : Int32) _ ) (cwV 1 hts gX8_coalition_X8_no rfl rfl rfl (by decide +kernel) ⟨Nat.le_of_ble_eq_true rfl, Nat.le_of_ble_eq_true rfl⟩) ⟨pr_blind, va_recv hKc hPc (ci := 10) (q0 := 0) rfl rfl, fun U hU hW => ⟨rfl, pr_mk hU hW hPc hKc hDc⟩⟩ rfl rfl hl.1 rfl (lv_room (Nat.le_of_ble_eq_true rfl)) dX8_coalition_15 ⟨Nat.le_of_ble_eq_true rfl, Nat.le_of_ble_eq_true rfl⟩) hS (fun q _ h => hFc q h) hFc (fun r_4 u_3 t H1 locs ht hvm hw hB hz1 hk1 hS => ?_)
  obtain ⟨hP1, hK1, hD1⟩ := hB
  rw [ht] at hP1
  obtain ⟨hP, hD⟩ := va_join (wr := [(pl, .inr (1, [.int 0, .ref dz, .int 0])), (sl, .inr (1, [.int 0, .ref dz, .int 0])), (kl, .inr (1, [.int 0, .ref dz, .int 0]))]) (w1 := [(mm, .inr (10, [.int 1, .ref pl, .ref ig, .ref sl, .ref kl, .int 0, .int 0, .int 0]))]) hP hD [0] [1, 2, 3] rfl rfl (by decide) (by decide) hk1 hFc hP1 hD1
  generalize H1 = H at hP hS ⊢
  have hP : va_P (dC, dI) vwCl [(pl, .inr (1, [.int 0, .ref dz, .int 0])), (sl, .inr (1, [.int 0, .ref dz, .int 0])), (kl, .inr (1, [.int 0, .ref dz, .int 0])), (mm, .inr (10, [.int 1, .ref pl, .ref ig, .ref sl, .ref kl, .int 0, .int 0, .int 0]))] H := hP
  have hD : va_D A [(pl, .inr (1, [.int 0, .ref dz, .int 0])), (sl, .inr (1, [.int 0, .ref dz, .int 0])), (kl, .inr (1, [.int 0, .ref dz, .int 0])), (mm, .inr (10, [.int 1, .ref pl, .ref ig, .ref sl, .ref kl, .int 0, .int 0, .int 0]))] := hD
  refine W.widen (k := 0) (n := 0) (Nat.le_refl _) (Nat.le_refl _) ?_
  have hw : r_4 = 0 := hw
  subst hw
  have hP9 := hP.sub (ws' := [(mm, .inr (10, [.int 1, .ref pl, .ref ig, .ref sl, .ref kl, .int 0, .int 0, .int 0]))]) [3] rfl
  have hD9 := hD.sub (ws' := [(mm, .inr (10, [.int 1, .ref pl, .ref ig, .ref sl, .ref kl, .int 0, .int 0, .int 0]))]) [3] (by decide) rfl
  have hK9 := hK.sub (tys' := []) [] rfl
  refine W.widen (k := 0) (n := 0) (Nat.le_of_ble_eq_true rfl) (Nat.le_of_ble_eq_true rfl) ?_
  exact W.iret (v := 0) hx hb hr (fun t ht hW => ⟨⟨0, (), rfl, rfl, po_mk ht hW hP9 hK9 hD9⟩, hS.F ht⟩) hS.2.2 dX8_coalition_18

set_option maxHeartbeats 4000000 in
set_option maxRecDepth 100000 in
theorem c1_X8_coalition (l : Launch) (dC : Nat → ClassId) (dI : Nat → Nat → Nat) (mm : Nat) (pl : Nat) (ig : Nat) (sl : Nat) (kl : Nat) (dz : Nat) (a0 : Int32) (a1 : Int32) (sz : Nat) (g0a : ¬ a0 < 1) (g0b : ¬ 60 < a0) (hbd : a1 < 0 ∨ 2 < a1) : Met l yX8_coalition wsX8_coalition ({ frames := 5, cells := 0, slots := 0, locals := 140 }) (va_Pc [.ref mm, .int a0, .int a1] (fun U => pr_ dC dI [(mm, .inr (10, [.int 0, .ref pl, .ref ig, .ref sl, .ref kl, .int 0, .int 0, .int 0])), (pl, .inr (1, [.int 0, .ref dz, .int 0])), (sl, .inr (1, [.int 0, .ref dz, .int 0])), (kl, .inr (1, [.int 0, .ref dz, .int 0]))] [] sz U ∧ mo_  U)) (va_Qi (fun (r : Int32) (_ : Unit) => r = 0) (fun (_ : Unit) t => po_ dC dI [(mm, .inr (10, [.int 1, .ref pl, .ref ig, .ref sl, .ref kl, .int 0, .int 0, .int 0]))] [] (va_A [(mm, .inr (10, [.int 0, .ref pl, .ref ig, .ref sl, .ref kl, .int 0, .int 0, .int 0])), (pl, .inr (1, [.int 0, .ref dz, .int 0])), (sl, .inr (1, [.int 0, .ref dz, .int 0])), (kl, .inr (1, [.int 0, .ref dz, .int 0]))] sz) t) (va_A [(mm, .inr (10, [.int 0, .ref pl, .ref ig, .ref sl, .ref kl, .int 0, .int 0, .int 0])), (pl, .inr (1, [.int 0, .ref dz, .int 0])), (sl, .inr (1, [.int 0, .ref dz, .int 0])), (kl, .inr (1, [.int 0, .ref dz, .int 0]))] sz)) 0 0 (va_A [(mm, .inr (10, [.int 0, .ref pl, .ref ig, .ref sl, .ref kl, .int 0, .int 0, .int 0])), (pl, .inr (1, [.int 0, .ref dz, .int 0])), (sl, .inr (1, [.int 0, .ref dz, .int 0])), (kl, .inr (1, [.int 0, .ref dz, .int 0]))] sz) := by
  refine Met.ofW (cc := cX8_coalition) (maxL := 3) (ret := (some .int)) (by decide) rfl ?_
  intro p e s m args below meth c s₁ B hml hv
  obtain ⟨rfl, ⟨hsz, hP, hK, hD0⟩, hXs⟩ := hv
  have hx := B.exec
  have hb := B.bytes
  have hr := B.returns
  have hts := atoms_spec (ws := wsX8_coalition) B.pre
  have hown : s.vm.findClass RX8 = some m.cls := findClass_of_methodNamed B.named
  have hlocks := B.notSynchronized
  subst hsz
  have hD := hD0.self (sz := s.heap.size)
  generalize hAe : va_A [(mm, .inr (10, [.int 0, .ref pl, .ref ig, .ref sl, .ref kl, .int 0, .int 0, .int 0])), (pl, .inr (1, [.int 0, .ref dz, .int 0])), (sl, .inr (1, [.int 0, .ref dz, .int 0])), (kl, .inr (1, [.int 0, .ref dz, .int 0]))] s.heap.size = A at hD ⊢
  have hA : ∀ q : Nat, s.heap.size ≤ q → A q := fun q h => by rw [← hAe]; exact Or.inr h
  have hS : va_S A s.heap s.heap [] := va_S.rf
  have hP : va_P (dC, dI) vwCl [(mm, .inr (10, [.int 0, .ref pl, .ref ig, .ref sl, .ref kl, .int 0, .int 0, .int 0])), (pl, .inr (1, [.int 0, .ref dz, .int 0])), (sl, .inr (1, [.int 0, .ref dz, .int 0])), (kl, .inr (1, [.int 0, .ref dz, .int 0]))] s.heap := hP
  have hK : va_K (dC, dI) vwCl [] s := hK
  have hl := lv_entry ([.ref mm, .int a0, .int a1]) (n := 3) (Nat.le_of_ble_eq_true rfl)
  rw [lg_entry_eq]
  generalize (lg_sl ([.ref mm, .int a0, .int a1]) ++ List.replicate (3 - (lg_sl ([.ref mm, .int a0, .int a1])).length) Slot.unset).toArray = ls at hl ⊢
  have hl : lv_has ls 3 [(0, .ref mm), (1, .int a0), (2, .int a1)] := hl
  refine lv_aload_n hx hb dX8_coalition_0 rfl (lv_at hl 0 rfl) ?_
  refine lv_iconst (v := 0) hx hb dX8_coalition_1 (by decide) ?_
  have hinX8 : ∀ w ∈ u_ws RX8 TX8 8, w ∈ wsX8_coalition := by decide +kernel
  refine va_put (D := (dC, dI)) (ci := 10) (v := .int 0) (ty := .int) (C := RX8) (T := TX8) (N := 8) hx hb hts hinX8 tyX8 tyX8_ok nmX8 hown hK hP hD hS 0 rfl rfl 0 (by decide) (hts (.fieldLink RX8 26 "BallotLoomModel" "thrown" "I") (by decide +kernel)) (fun _ h9 => h9) rfl (by decide +kernel) rfl rfl (Nat.le_of_ble_eq_true rfl) dX8_coalition_2 (fun H locs hP hD hS => ?_)
  have hP : va_P (dC, dI) vwCl [(mm, .inr (10, [.int 0, .ref pl, .ref ig, .ref sl, .ref kl, .int 0, .int 0, .int 0])), (pl, .inr (1, [.int 0, .ref dz, .int 0])), (sl, .inr (1, [.int 0, .ref dz, .int 0])), (kl, .inr (1, [.int 0, .ref dz, .int 0]))] H := hP
  have hD : va_D A [(mm, .inr (10, [.int 0, .ref pl, .ref ig, .ref sl, .ref kl, .int 0, .int 0, .int 0])), (pl, .inr (1, [.int 0, .ref dz, .int 0])), (sl, .inr (1, [.int 0, .ref dz, .int 0])), (kl, .inr (1, [.int 0, .ref dz, .int 0]))] := hD
  refine lv_iload_n hx hb dX8_coalition_5 rfl (lv_at hl 1 rfl) ?_
  refine lv_iload_n hx hb dX8_coalition_6 rfl (lv_at hl 2 rfl) ?_
  have hPc := hP.sub (ws' := []) [] rfl
  have hDc := hD.sub (ws' := []) [] (by decide) rfl
  have hKc := hK.sub (tys' := []) [] rfl
  have hFc := va_free (wc := []) hD hS hA [] rfl
  refine va_calli (va_runS (As := [.int a0, .int a1]) (rest := []) ⟨hx, hb, hml, hown, hts⟩ (c2_X8_isHouse l dC dI a0 a1 _ g0a g0b hbd) (va_cwS 2 hts gX8_coalition_X8_isHouse rfl rfl rfl (by decide +kernel) ⟨Nat.le_of_ble_eq_true rfl, Nat.le_of_ble_eq_true rfl⟩) ⟨pr_blind, fun U hU hW => ⟨rfl, pr_mk hU hW hPc hKc hDc⟩⟩ rfl rfl hl.1 rfl (lv_room (Nat.le_of_ble_eq_true rfl)) dX8_coalition_7 ⟨Nat.le_of_ble_eq_true rfl, Nat.le_of_ble_eq_true rfl⟩) hS (fun q _ h => hFc q h) hFc (fun r_2 u_1 t H1 locs ht hvm hw hB hz1 hk1 hS => ?_)
  obtain ⟨hP1, hK1, hD1⟩ := hB
  rw [ht] at hP1
  obtain ⟨hP, hD⟩ := va_join (wr := [(mm, .inr (10, [.int 0, .ref pl, .ref ig, .ref sl, .ref kl, .int 0, .int 0, .int 0])), (pl, .inr (1, [.int 0, .ref dz, .int 0])), (sl, .inr (1, [.int 0, .ref dz, .int 0])), (kl, .inr (1, [.int 0, .ref dz, .int 0]))]) (w1 := []) hP hD [] [0, 1, 2, 3] rfl rfl (by decide) (by decide) hk1 hFc hP1 hD1
  generalize H1 = H at hP hS ⊢
  have hP : va_P (dC, dI) vwCl [(mm, .inr (10, [.int 0, .ref pl, .ref ig, .ref sl, .ref kl, .int 0, .int 0, .int 0])), (pl, .inr (1, [.int 0, .ref dz, .int 0])), (sl, .inr (1, [.int 0, .ref dz, .int 0])), (kl, .inr (1, [.int 0, .ref dz, .int 0]))] H := hP
  have hD : va_D A [(mm, .inr (10, [.int 0, .ref pl, .ref ig, .ref sl, .ref kl, .int 0, .int 0, .int 0])), (pl, .inr (1, [.int 0, .ref dz, .int 0])), (sl, .inr (1, [.int 0, .ref dz, .int 0])), (kl, .inr (1, [.int 0, .ref dz, .int 0]))] := hD
  refine W.widen (k := 0) (n := 0) (Nat.le_refl _) (Nat.le_refl _) ?_
  have hw : r_2 = 0 := hw
  subst hw
  refine lv_if_ne (tgt := 19) hx hb dX8_coalition_10 (by decide) (fun h9 => absurd h9 (by decide)) (fun _ => ?_)
  refine lv_aload_n hx hb dX8_coalition_13 rfl (lv_at hl 0 rfl) ?_
  refine lv_iconst (v := 1) hx hb dX8_coalition_14 (by decide) ?_
  have hPc := hP.sub (ws' := [(mm, .inr (10, [.int 0, .ref pl, .ref ig, .ref sl, .ref kl, .int 0, .int 0, .int 0]))]) [0] rfl
  have hDc := hD.sub (ws' := [(mm, .inr (10, [.int 0, .ref pl, .ref ig, .ref sl, .ref kl, .int 0, .int 0, .int 0]))]) [0] (by decide) rfl
  have hKc := hK.sub (tys' := []) [] rfl
  have hFc := va_free (wc := [(mm, .inr (10, [.int 0, .ref pl, .ref ig, .ref sl, .ref kl, .int 0, .int 0, .int 0]))]) hD hS hA [0] rfl
  refine va_calli (va_runV (As := [.int 1]) (rest := []) ⟨hx, hb, hml, hown, hts⟩ (c_X8_no l dC dI mm pl ig sl kl (1 : Int32) (0 : Int32) _ ) (cwV 1 hts gX8_coalition_X8_no rfl rfl rfl (by decide +kernel) ⟨Nat.le_of_ble_eq_true rfl, Nat.le_of_ble_eq_true rfl⟩) ⟨pr_blind, va_recv hKc hPc (ci := 10) (q0 := 0) rfl rfl, fun U hU hW => ⟨rfl, pr_mk hU hW hPc hKc hDc⟩⟩ rfl rfl hl.1 rfl (lv_room (Nat.le_of_ble_eq_true rfl)) dX8_coalition_15 ⟨Nat.le_of_ble_eq_true rfl, Nat.le_of_ble_eq_true rfl⟩) hS (fun q _ h => hFc q h) hFc (fun r_4 u_3 t H1 locs ht hvm hw hB hz1 hk1 hS => ?_)
  obtain ⟨hP1, hK1, hD1⟩ := hB
  rw [ht] at hP1
  obtain ⟨hP, hD⟩ := va_join (wr := [(pl, .inr (1, [.int 0, .ref dz, .int 0])), (sl, .inr (1, [.int 0, .ref dz, .int 0])), (kl, .inr (1, [.int 0, .ref dz, .int 0]))]) (w1 := [(mm, .inr (10, [.int 1, .ref pl, .ref ig, .ref sl, .ref kl, .int 0, .int 0, .int 0]))]) hP hD [0] [1, 2, 3] rfl rfl (by decide) (by decide) hk1 hFc hP1 hD1
  generalize H1 = H at hP hS ⊢
  have hP : va_P (dC, dI) vwCl [(pl, .inr (1, [.int 0, .ref dz, .int 0])), (sl, .inr (1, [.int 0, .ref dz, .int 0])), (kl, .inr (1, [.int 0, .ref dz, .int 0])), (mm, .inr (10, [.int 1, .ref pl, .ref ig, .ref sl, .ref kl, .int 0, .int 0, .int 0]))] H := hP
  have hD : va_D A [(pl, .inr (1, [.int 0, .ref dz, .int 0])), (sl, .inr (1, [.int 0, .ref dz, .int 0])), (kl, .inr (1, [.int 0, .ref dz, .int 0])), (mm, .inr (10, [.int 1, .ref pl, .ref ig, .ref sl, .ref kl, .int 0, .int 0, .int 0]))] := hD
  refine W.widen (k := 0) (n := 0) (Nat.le_refl _) (Nat.le_refl _) ?_
  have hw : r_4 = 0 := hw
  subst hw
  have hP9 := hP.sub (ws' := [(mm, .inr (10, [.int 1, .ref pl, .ref ig, .ref sl, .ref kl, .int 0, .int 0, .int 0]))]) [3] rfl
  have hD9 := hD.sub (ws' := [(mm, .inr (10, [.int 1, .ref pl, .ref ig, .ref sl, .ref kl, .int 0, .int 0, .int 0]))]) [3] (by decide) rfl
  have hK9 := hK.sub (tys' := []) [] rfl
  refine W.widen (k := 0) (n := 0) (Nat.le_of_ble_eq_true rfl) (Nat.le_of_ble_eq_true rfl) ?_
  exact W.iret (v := 0) hx hb hr (fun t ht hW => ⟨⟨0, (), rfl, rfl, po_mk ht hW hP9 hK9 hD9⟩, hS.F ht⟩) hS.2.2 dX8_coalition_18

set_option maxHeartbeats 4000000 in
set_option maxRecDepth 100000 in
theorem c_X8_coalition (l : Launch) (dC : Nat → ClassId) (dI : Nat → Nat → Nat) (mm : Nat) (pl : Nat) (ig : Nat) (sl : Nat) (kl : Nat) (dz : Nat) (a0 : Int32) (a1 : Int32) (sz : Nat) (g0a : ¬ a0 < 1) (g0b : ¬ 60 < a0) (g1a : ¬ a1 < 0) (g1b : ¬ 2 < a1) : Met l yX8_coalition wsX8_coalition ({ frames := 6, cells := 4, slots := 20, locals := 160 }) (va_Pc [.ref mm, .int a0, .int a1] (fun U => pr_ dC dI [(mm, .inr (10, [.int 0, .ref pl, .ref ig, .ref sl, .ref kl, .int 0, .int 0, .int 0])), (pl, .inr (1, [.int 0, .ref dz, .int 0])), (sl, .inr (1, [.int 0, .ref dz, .int 0])), (kl, .inr (1, [.int 0, .ref dz, .int 0]))] [] sz U ∧ mo_  U)) (va_Qi (fun (r : Int32) (_ : Unit) => r = 0) (fun (_ : Unit) t => po_ dC dI [(mm, .inr (10, [.int 0, .ref pl, .ref ig, .ref sl, .ref kl, .int 0, .int 0, .int 0]))] [] (va_A [(mm, .inr (10, [.int 0, .ref pl, .ref ig, .ref sl, .ref kl, .int 0, .int 0, .int 0])), (pl, .inr (1, [.int 0, .ref dz, .int 0])), (sl, .inr (1, [.int 0, .ref dz, .int 0])), (kl, .inr (1, [.int 0, .ref dz, .int 0]))] sz) t) (va_A [(mm, .inr (10, [.int 0, .ref pl, .ref ig, .ref sl, .ref kl, .int 0, .int 0, .int 0])), (pl, .inr (1, [.int 0, .ref dz, .int 0])), (sl, .inr (1, [.int 0, .ref dz, .int 0])), (kl, .inr (1, [.int 0, .ref dz, .int 0]))] sz)) 4 20 (va_A [(mm, .inr (10, [.int 0, .ref pl, .ref ig, .ref sl, .ref kl, .int 0, .int 0, .int 0])), (pl, .inr (1, [.int 0, .ref dz, .int 0])), (sl, .inr (1, [.int 0, .ref dz, .int 0])), (kl, .inr (1, [.int 0, .ref dz, .int 0]))] sz) := by
  refine Met.ofW (cc := cX8_coalition) (maxL := 3) (ret := (some .int)) (by decide) rfl ?_
  intro p e s m args below meth c s₁ B hml hv
  obtain ⟨rfl, ⟨hsz, hP, hK, hD0⟩, hXs⟩ := hv
  have hx := B.exec
  have hb := B.bytes
  have hr := B.returns
  have hts := atoms_spec (ws := wsX8_coalition) B.pre
  have hown : s.vm.findClass RX8 = some m.cls := findClass_of_methodNamed B.named
  have hlocks := B.notSynchronized
  subst hsz
  have hD := hD0.self (sz := s.heap.size)
  generalize hAe : va_A [(mm, .inr (10, [.int 0, .ref pl, .ref ig, .ref sl, .ref kl, .int 0, .int 0, .int 0])), (pl, .inr (1, [.int 0, .ref dz, .int 0])), (sl, .inr (1, [.int 0, .ref dz, .int 0])), (kl, .inr (1, [.int 0, .ref dz, .int 0]))] s.heap.size = A at hD ⊢
  have hA : ∀ q : Nat, s.heap.size ≤ q → A q := fun q h => by rw [← hAe]; exact Or.inr h
  have hS : va_S A s.heap s.heap [] := va_S.rf
  have hP : va_P (dC, dI) vwCl [(mm, .inr (10, [.int 0, .ref pl, .ref ig, .ref sl, .ref kl, .int 0, .int 0, .int 0])), (pl, .inr (1, [.int 0, .ref dz, .int 0])), (sl, .inr (1, [.int 0, .ref dz, .int 0])), (kl, .inr (1, [.int 0, .ref dz, .int 0]))] s.heap := hP
  have hK : va_K (dC, dI) vwCl [] s := hK
  have hl := lv_entry ([.ref mm, .int a0, .int a1]) (n := 3) (Nat.le_of_ble_eq_true rfl)
  rw [lg_entry_eq]
  generalize (lg_sl ([.ref mm, .int a0, .int a1]) ++ List.replicate (3 - (lg_sl ([.ref mm, .int a0, .int a1])).length) Slot.unset).toArray = ls at hl ⊢
  have hl : lv_has ls 3 [(0, .ref mm), (1, .int a0), (2, .int a1)] := hl
  refine lv_aload_n hx hb dX8_coalition_0 rfl (lv_at hl 0 rfl) ?_
  refine lv_iconst (v := 0) hx hb dX8_coalition_1 (by decide) ?_
  have hinX8 : ∀ w ∈ u_ws RX8 TX8 8, w ∈ wsX8_coalition := by decide +kernel
  refine va_put (D := (dC, dI)) (ci := 10) (v := .int 0) (ty := .int) (C := RX8) (T := TX8) (N := 8) hx hb hts hinX8 tyX8 tyX8_ok nmX8 hown hK hP hD hS 0 rfl rfl 0 (by decide) (hts (.fieldLink RX8 26 "BallotLoomModel" "thrown" "I") (by decide +kernel)) (fun _ h9 => h9) rfl (by decide +kernel) rfl rfl (Nat.le_of_ble_eq_true rfl) dX8_coalition_2 (fun H locs hP hD hS => ?_)
  have hP : va_P (dC, dI) vwCl [(mm, .inr (10, [.int 0, .ref pl, .ref ig, .ref sl, .ref kl, .int 0, .int 0, .int 0])), (pl, .inr (1, [.int 0, .ref dz, .int 0])), (sl, .inr (1, [.int 0, .ref dz, .int 0])), (kl, .inr (1, [.int 0, .ref dz, .int 0]))] H := hP
  have hD : va_D A [(mm, .inr (10, [.int 0, .ref pl, .ref ig, .ref sl, .ref kl, .int 0, .int 0, .int 0])), (pl, .inr (1, [.int 0, .ref dz, .int 0])), (sl, .inr (1, [.int 0, .ref dz, .int 0])), (kl, .inr (1, [.int 0, .ref dz, .int 0]))] := hD
  refine lv_iload_n hx hb dX8_coalition_5 rfl (lv_at hl 1 rfl) ?_
  refine lv_iload_n hx hb dX8_coalition_6 rfl (lv_at hl 2 rfl) ?_
  have hPc := hP.sub (ws' := []) [] rfl
  have hDc := hD.sub (ws' := []) [] (by decide) rfl
  have hKc := hK.sub (tys' := []) [] rfl
  have hFc := va_free (wc := []) hD hS hA [] rfl
  refine va_calli (va_runS (As := [.int a0, .int a1]) (rest := []) ⟨hx, hb, hml, hown, hts⟩ (c_X8_isHouse l dC dI a0 a1 _ g0a g0b g1a g1b) (va_cwS 2 hts gX8_coalition_X8_isHouse rfl rfl rfl (by decide +kernel) ⟨Nat.le_of_ble_eq_true rfl, Nat.le_of_ble_eq_true rfl⟩) ⟨pr_blind, fun U hU hW => ⟨rfl, pr_mk hU hW hPc hKc hDc⟩⟩ rfl rfl hl.1 rfl (lv_room (Nat.le_of_ble_eq_true rfl)) dX8_coalition_7 ⟨Nat.le_of_ble_eq_true rfl, Nat.le_of_ble_eq_true rfl⟩) hS (fun q _ h => hFc q h) hFc (fun r_2 u_1 t H1 locs ht hvm hw hB hz1 hk1 hS => ?_)
  obtain ⟨hP1, hK1, hD1⟩ := hB
  rw [ht] at hP1
  obtain ⟨hP, hD⟩ := va_join (wr := [(mm, .inr (10, [.int 0, .ref pl, .ref ig, .ref sl, .ref kl, .int 0, .int 0, .int 0])), (pl, .inr (1, [.int 0, .ref dz, .int 0])), (sl, .inr (1, [.int 0, .ref dz, .int 0])), (kl, .inr (1, [.int 0, .ref dz, .int 0]))]) (w1 := []) hP hD [] [0, 1, 2, 3] rfl rfl (by decide) (by decide) hk1 hFc hP1 hD1
  generalize H1 = H at hP hS ⊢
  have hP : va_P (dC, dI) vwCl [(mm, .inr (10, [.int 0, .ref pl, .ref ig, .ref sl, .ref kl, .int 0, .int 0, .int 0])), (pl, .inr (1, [.int 0, .ref dz, .int 0])), (sl, .inr (1, [.int 0, .ref dz, .int 0])), (kl, .inr (1, [.int 0, .ref dz, .int 0]))] H := hP
  have hD : va_D A [(mm, .inr (10, [.int 0, .ref pl, .ref ig, .ref sl, .ref kl, .int 0, .int 0, .int 0])), (pl, .inr (1, [.int 0, .ref dz, .int 0])), (sl, .inr (1, [.int 0, .ref dz, .int 0])), (kl, .inr (1, [.int 0, .ref dz, .int 0]))] := hD
  refine W.widen (k := 0) (n := 0) (Nat.le_refl _) (Nat.le_refl _) ?_
  have hw : r_2 = 1 := hw
  subst hw
  refine lv_if_ne (tgt := 19) hx hb dX8_coalition_10 (by decide) (fun _ => ?_) (fun h9 => absurd h9 (by decide))
  refine lv_aload_n hx hb dX8_coalition_19 rfl (lv_at hl 0 rfl) ?_
  refine lv_iload_n hx hb dX8_coalition_20 rfl (lv_at hl 1 rfl) ?_
  refine lv_iload_n hx hb dX8_coalition_21 rfl (lv_at hl 2 rfl) ?_
  have hPc := hP.sub (ws' := [(mm, .inr (10, [.int 0, .ref pl, .ref ig, .ref sl, .ref kl, .int 0, .int 0, .int 0])), (sl, .inr (1, [.int 0, .ref dz, .int 0]))]) [0, 2] rfl
  have hDc := hD.sub (ws' := [(mm, .inr (10, [.int 0, .ref pl, .ref ig, .ref sl, .ref kl, .int 0, .int 0, .int 0])), (sl, .inr (1, [.int 0, .ref dz, .int 0]))]) [0, 2] (by decide) rfl
  have hKc := hK.sub (tys' := []) [] rfl
  have hFc := va_free (wc := [(mm, .inr (10, [.int 0, .ref pl, .ref ig, .ref sl, .ref kl, .int 0, .int 0, .int 0])), (sl, .inr (1, [.int 0, .ref dz, .int 0]))]) hD hS hA [0, 2] rfl
  refine va_callr (va_runV (As := [.int a0, .int a1]) (rest := []) ⟨hx, hb, hml, hown, hts⟩ (c_X8_houseOf l dC dI mm pl ig sl kl dz a0 a1 _ ) (cwV 2 hts gX8_coalition_X8_houseOf rfl rfl rfl (by decide +kernel) ⟨Nat.le_of_ble_eq_true rfl, Nat.le_of_ble_eq_true rfl⟩) ⟨pe_blind mo_bl, va_recv hKc hPc (ci := 10) (q0 := 0) rfl rfl, fun U hU hW => ⟨rfl, pr_mk hU hW hPc hKc hDc, mo_mk hW hXs⟩⟩ rfl rfl hl.1 rfl (lv_room (Nat.le_of_ble_eq_true rfl)) dX8_coalition_22 ⟨Nat.le_of_ble_eq_true rfl, Nat.le_of_ble_eq_true rfl⟩) hS (fun q _ h => hFc q h) hFc (fun u_3 r_4 t H1 locs ht hvm hw hB hz1 hk1 hS => ?_)
  obtain ⟨q_5, rfl⟩ : ∃ z, z = u_3 := ⟨_, rfl⟩
  obtain ⟨hP1, hK1, hD1⟩ := hB
  rw [ht] at hP1
  obtain ⟨hP, hD⟩ := va_join (wr := [(pl, .inr (1, [.int 0, .ref dz, .int 0])), (kl, .inr (1, [.int 0, .ref dz, .int 0]))]) (w1 := [(mm, .inr (10, [.int 0, .ref pl, .ref ig, .ref sl, .ref kl, .int 0, .int 0, .int 0])), (sl, .inr (1, [.int 0, .ref dz, .int 0])), (r_4, .inl (q_5, 4, .inl zi))]) hP hD [0, 2] [1, 3] rfl rfl (by decide) (by decide) hk1 hFc hP1 hD1
  have hK := hK.app (va_K.moved hvm.symm hK1)
  have hK : va_K (dC, dI) vwCl [(q_5, .int)] s := hK
  generalize H1 = H at hP hS ⊢
  have hP : va_P (dC, dI) vwCl [(pl, .inr (1, [.int 0, .ref dz, .int 0])), (kl, .inr (1, [.int 0, .ref dz, .int 0])), (mm, .inr (10, [.int 0, .ref pl, .ref ig, .ref sl, .ref kl, .int 0, .int 0, .int 0])), (sl, .inr (1, [.int 0, .ref dz, .int 0])), (r_4, .inl (q_5, 4, .inl zi))] H := hP
  have hD : va_D A [(pl, .inr (1, [.int 0, .ref dz, .int 0])), (kl, .inr (1, [.int 0, .ref dz, .int 0])), (mm, .inr (10, [.int 0, .ref pl, .ref ig, .ref sl, .ref kl, .int 0, .int 0, .int 0])), (sl, .inr (1, [.int 0, .ref dz, .int 0])), (r_4, .inl (q_5, 4, .inl zi))] := hD
  refine W.widen (k := 3) (n := 13) (Nat.le_of_ble_eq_true rfl) (Nat.le_of_ble_eq_true rfl) ?_
  refine lv_iload_n hx hb dX8_coalition_25 rfl (lv_at hl 1 rfl) ?_
  have hPc := hP.sub (ws' := [(r_4, .inl (q_5, 4, .inl zi))]) [4] rfl
  have hDc := hD.sub (ws' := [(r_4, .inl (q_5, 4, .inl zi))]) [4] (by decide) rfl
  have hKc := hK.sub (tys' := [(q_5, .int)]) [0] rfl
  have hFc := va_free (wc := [(r_4, .inl (q_5, 4, .inl zi))]) hD hS hA [4] rfl
  refine va_calli (va_runS (As := [.ref r_4, .int a0]) (rest := []) ⟨hx, hb, hml, hown, hts⟩ (c_X8_coalitionNow l dC dI r_4 q_5 a0 _ (ho2 g0a)) (va_cwS 2 hts gX8_coalition_X8_coalitionNow rfl rfl rfl (by decide +kernel) ⟨Nat.le_of_ble_eq_true rfl, Nat.le_of_ble_eq_true rfl⟩) ⟨pr_blind, fun U hU hW => ⟨rfl, pr_mk hU hW hPc hKc hDc⟩⟩ rfl rfl hl.1 rfl (lv_room (Nat.le_of_ble_eq_true rfl)) dX8_coalition_26 ⟨Nat.le_of_ble_eq_true rfl, Nat.le_of_ble_eq_true rfl⟩) hS (fun q _ h => hFc q h) hFc (fun r_7 u_6 t H1 locs ht hvm hw hB hz1 hk1 hS => ?_)
  obtain ⟨hP1, hK1, hD1⟩ := hB
  rw [ht] at hP1
  obtain ⟨hP, hD⟩ := va_join (wr := [(pl, .inr (1, [.int 0, .ref dz, .int 0])), (kl, .inr (1, [.int 0, .ref dz, .int 0])), (mm, .inr (10, [.int 0, .ref pl, .ref ig, .ref sl, .ref kl, .int 0, .int 0, .int 0])), (sl, .inr (1, [.int 0, .ref dz, .int 0]))]) (w1 := [(r_4, .inl (q_5, 4, .inl zi))]) hP hD [4] [0, 1, 2, 3] rfl rfl (by decide) (by decide) hk1 hFc hP1 hD1
  generalize H1 = H at hP hS ⊢
  have hP : va_P (dC, dI) vwCl [(pl, .inr (1, [.int 0, .ref dz, .int 0])), (kl, .inr (1, [.int 0, .ref dz, .int 0])), (mm, .inr (10, [.int 0, .ref pl, .ref ig, .ref sl, .ref kl, .int 0, .int 0, .int 0])), (sl, .inr (1, [.int 0, .ref dz, .int 0])), (r_4, .inl (q_5, 4, .inl zi))] H := hP
  have hD : va_D A [(pl, .inr (1, [.int 0, .ref dz, .int 0])), (kl, .inr (1, [.int 0, .ref dz, .int 0])), (mm, .inr (10, [.int 0, .ref pl, .ref ig, .ref sl, .ref kl, .int 0, .int 0, .int 0])), (sl, .inr (1, [.int 0, .ref dz, .int 0])), (r_4, .inl (q_5, 4, .inl zi))] := hD
  refine W.widen (k := 3) (n := 13) (Nat.le_refl _) (Nat.le_refl _) ?_
  have hw : r_7 = 0 := hw
  subst hw
  have hP9 := hP.sub (ws' := [(mm, .inr (10, [.int 0, .ref pl, .ref ig, .ref sl, .ref kl, .int 0, .int 0, .int 0]))]) [2] rfl
  have hD9 := hD.sub (ws' := [(mm, .inr (10, [.int 0, .ref pl, .ref ig, .ref sl, .ref kl, .int 0, .int 0, .int 0]))]) [2] (by decide) rfl
  have hK9 := hK.sub (tys' := []) [] rfl
  refine W.widen (k := 4) (n := 20) (Nat.le_of_ble_eq_true rfl) (Nat.le_of_ble_eq_true rfl) ?_
  exact W.iret (v := 0) hx hb hr (fun t ht hW => ⟨⟨0, (), rfl, rfl, po_mk ht hW hP9 hK9 hD9⟩, hS.F ht⟩) hS.2.2 dX8_coalition_29

set_option maxHeartbeats 4000000 in
set_option maxRecDepth 100000 in
theorem c0_X8_gap (l : Launch) (dC : Nat → ClassId) (dI : Nat → Nat → Nat) (mm : Nat) (pl : Nat) (ig : Nat) (sl : Nat) (kl : Nat) (dz : Nat) (a0 : Int32) (a1 : Int32) (sz : Nat) (hbd : a0 < 0 ∨ 3 < a0) : Met l yX8_gap wsX8_gap ({ frames := 5, cells := 0, slots := 0, locals := 140 }) (va_Pc [.ref mm, .int a0, .int a1] (fun U => pr_ dC dI [(mm, .inr (10, [.int 0, .ref pl, .ref ig, .ref sl, .ref kl, .int 0, .int 0, .int 0])), (pl, .inr (1, [.int 0, .ref dz, .int 0])), (sl, .inr (1, [.int 0, .ref dz, .int 0])), (kl, .inr (1, [.int 0, .ref dz, .int 0]))] [] sz U ∧ mo_  U)) (va_Qd (fun (r : UInt64) (_ : Unit) => r = (FP.i2d 0)) (fun (_ : Unit) t => po_ dC dI [(mm, .inr (10, [.int 1, .ref pl, .ref ig, .ref sl, .ref kl, .int 0, .int 0, .int 0]))] [] (va_A [(mm, .inr (10, [.int 0, .ref pl, .ref ig, .ref sl, .ref kl, .int 0, .int 0, .int 0])), (pl, .inr (1, [.int 0, .ref dz, .int 0])), (sl, .inr (1, [.int 0, .ref dz, .int 0])), (kl, .inr (1, [.int 0, .ref dz, .int 0]))] sz) t) (va_A [(mm, .inr (10, [.int 0, .ref pl, .ref ig, .ref sl, .ref kl, .int 0, .int 0, .int 0])), (pl, .inr (1, [.int 0, .ref dz, .int 0])), (sl, .inr (1, [.int 0, .ref dz, .int 0])), (kl, .inr (1, [.int 0, .ref dz, .int 0]))] sz)) 0 0 (va_A [(mm, .inr (10, [.int 0, .ref pl, .ref ig, .ref sl, .ref kl, .int 0, .int 0, .int 0])), (pl, .inr (1, [.int 0, .ref dz, .int 0])), (sl, .inr (1, [.int 0, .ref dz, .int 0])), (kl, .inr (1, [.int 0, .ref dz, .int 0]))] sz) := by
  refine Met.ofW (cc := cX8_gap) (maxL := 4) (ret := (some .double)) (by decide) rfl ?_
  intro p e s m args below meth c s₁ B hml hv
  obtain ⟨rfl, ⟨hsz, hP, hK, hD0⟩, hXs⟩ := hv
  have hx := B.exec
  have hb := B.bytes
  have hr := B.returns
  have hts := atoms_spec (ws := wsX8_gap) B.pre
  have hown : s.vm.findClass RX8 = some m.cls := findClass_of_methodNamed B.named
  have hlocks := B.notSynchronized
  subst hsz
  have hD := hD0.self (sz := s.heap.size)
  generalize hAe : va_A [(mm, .inr (10, [.int 0, .ref pl, .ref ig, .ref sl, .ref kl, .int 0, .int 0, .int 0])), (pl, .inr (1, [.int 0, .ref dz, .int 0])), (sl, .inr (1, [.int 0, .ref dz, .int 0])), (kl, .inr (1, [.int 0, .ref dz, .int 0]))] s.heap.size = A at hD ⊢
  have hA : ∀ q : Nat, s.heap.size ≤ q → A q := fun q h => by rw [← hAe]; exact Or.inr h
  have hS : va_S A s.heap s.heap [] := va_S.rf
  have hP : va_P (dC, dI) vwCl [(mm, .inr (10, [.int 0, .ref pl, .ref ig, .ref sl, .ref kl, .int 0, .int 0, .int 0])), (pl, .inr (1, [.int 0, .ref dz, .int 0])), (sl, .inr (1, [.int 0, .ref dz, .int 0])), (kl, .inr (1, [.int 0, .ref dz, .int 0]))] s.heap := hP
  have hK : va_K (dC, dI) vwCl [] s := hK
  have hl := lv_entry ([.ref mm, .int a0, .int a1]) (n := 4) (Nat.le_of_ble_eq_true rfl)
  rw [lg_entry_eq]
  generalize (lg_sl ([.ref mm, .int a0, .int a1]) ++ List.replicate (4 - (lg_sl ([.ref mm, .int a0, .int a1])).length) Slot.unset).toArray = ls at hl ⊢
  have hl : lv_has ls 4 [(0, .ref mm), (1, .int a0), (2, .int a1)] := hl
  refine lv_aload_n hx hb dX8_gap_0 rfl (lv_at hl 0 rfl) ?_
  refine lv_iconst (v := 0) hx hb dX8_gap_1 (by decide) ?_
  have hinX8 : ∀ w ∈ u_ws RX8 TX8 8, w ∈ wsX8_gap := by decide +kernel
  refine va_put (D := (dC, dI)) (ci := 10) (v := .int 0) (ty := .int) (C := RX8) (T := TX8) (N := 8) hx hb hts hinX8 tyX8 tyX8_ok nmX8 hown hK hP hD hS 0 rfl rfl 0 (by decide) (hts (.fieldLink RX8 26 "BallotLoomModel" "thrown" "I") (by decide +kernel)) (fun _ h9 => h9) rfl (by decide +kernel) rfl rfl (Nat.le_of_ble_eq_true rfl) dX8_gap_2 (fun H locs hP hD hS => ?_)
  have hP : va_P (dC, dI) vwCl [(mm, .inr (10, [.int 0, .ref pl, .ref ig, .ref sl, .ref kl, .int 0, .int 0, .int 0])), (pl, .inr (1, [.int 0, .ref dz, .int 0])), (sl, .inr (1, [.int 0, .ref dz, .int 0])), (kl, .inr (1, [.int 0, .ref dz, .int 0]))] H := hP
  have hD : va_D A [(mm, .inr (10, [.int 0, .ref pl, .ref ig, .ref sl, .ref kl, .int 0, .int 0, .int 0])), (pl, .inr (1, [.int 0, .ref dz, .int 0])), (sl, .inr (1, [.int 0, .ref dz, .int 0])), (kl, .inr (1, [.int 0, .ref dz, .int 0]))] := hD
  refine lv_iload_n hx hb dX8_gap_5 rfl (lv_at hl 1 rfl) ?_
  refine lv_iconst (v := 0) hx hb dX8_gap_6 (by decide) ?_
  refine lv_iconst (v := 3) hx hb dX8_gap_7 (by decide) ?_
  have hPc := hP.sub (ws' := []) [] rfl
  have hDc := hD.sub (ws' := []) [] (by decide) rfl
  have hKc := hK.sub (tys' := []) [] rfl
  have hFc := va_free (wc := []) hD hS hA [] rfl
  refine va_calli (va_runS (As := [.int a0, .int 0, .int 3]) (rest := []) ⟨hx, hb, hml, hown, hts⟩ (c0_X8_in l dC dI a0 (0 : Int32) (3 : Int32) _ hbd) (va_cwS 3 hts gX8_gap_X8_in rfl rfl rfl (by decide +kernel) ⟨Nat.le_of_ble_eq_true rfl, Nat.le_of_ble_eq_true rfl⟩) ⟨pr_blind, fun U hU hW => ⟨rfl, pr_mk hU hW hPc hKc hDc⟩⟩ rfl rfl hl.1 rfl (lv_room (Nat.le_of_ble_eq_true rfl)) dX8_gap_8 ⟨Nat.le_of_ble_eq_true rfl, Nat.le_of_ble_eq_true rfl⟩) hS (fun q _ h => hFc q h) hFc (fun r_2 u_1 t H1 locs ht hvm hw hB hz1 hk1 hS => ?_)
  obtain ⟨hP1, hK1, hD1⟩ := hB
  rw [ht] at hP1
  obtain ⟨hP, hD⟩ := va_join (wr := [(mm, .inr (10, [.int 0, .ref pl, .ref ig, .ref sl, .ref kl, .int 0, .int 0, .int 0])), (pl, .inr (1, [.int 0, .ref dz, .int 0])), (sl, .inr (1, [.int 0, .ref dz, .int 0])), (kl, .inr (1, [.int 0, .ref dz, .int 0]))]) (w1 := []) hP hD [] [0, 1, 2, 3] rfl rfl (by decide) (by decide) hk1 hFc hP1 hD1
  generalize H1 = H at hP hS ⊢
  have hP : va_P (dC, dI) vwCl [(mm, .inr (10, [.int 0, .ref pl, .ref ig, .ref sl, .ref kl, .int 0, .int 0, .int 0])), (pl, .inr (1, [.int 0, .ref dz, .int 0])), (sl, .inr (1, [.int 0, .ref dz, .int 0])), (kl, .inr (1, [.int 0, .ref dz, .int 0]))] H := hP
  have hD : va_D A [(mm, .inr (10, [.int 0, .ref pl, .ref ig, .ref sl, .ref kl, .int 0, .int 0, .int 0])), (pl, .inr (1, [.int 0, .ref dz, .int 0])), (sl, .inr (1, [.int 0, .ref dz, .int 0])), (kl, .inr (1, [.int 0, .ref dz, .int 0]))] := hD
  refine W.widen (k := 0) (n := 0) (Nat.le_refl _) (Nat.le_refl _) ?_
  have hw : r_2 = 0 := hw
  subst hw
  refine lv_if_eq (tgt := 23) hx hb dX8_gap_11 (by decide) (fun _ => ?_) (fun h9 => absurd h9 (by decide))
  refine lv_aload_n hx hb dX8_gap_23 rfl (lv_at hl 0 rfl) ?_
  refine lv_iconst (v := 1) hx hb dX8_gap_24 (by decide) ?_
  have hPc := hP.sub (ws' := [(mm, .inr (10, [.int 0, .ref pl, .ref ig, .ref sl, .ref kl, .int 0, .int 0, .int 0]))]) [0] rfl
  have hDc := hD.sub (ws' := [(mm, .inr (10, [.int 0, .ref pl, .ref ig, .ref sl, .ref kl, .int 0, .int 0, .int 0]))]) [0] (by decide) rfl
  have hKc := hK.sub (tys' := []) [] rfl
  have hFc := va_free (wc := [(mm, .inr (10, [.int 0, .ref pl, .ref ig, .ref sl, .ref kl, .int 0, .int 0, .int 0]))]) hD hS hA [0] rfl
  refine va_calli (va_runV (As := [.int 1]) (rest := []) ⟨hx, hb, hml, hown, hts⟩ (c_X8_no l dC dI mm pl ig sl kl (1 : Int32) (0 : Int32) _ ) (cwV 1 hts gX8_gap_X8_no rfl rfl rfl (by decide +kernel) ⟨Nat.le_of_ble_eq_true rfl, Nat.le_of_ble_eq_true rfl⟩) ⟨pr_blind, va_recv hKc hPc (ci := 10) (q0 := 0) rfl rfl, fun U hU hW => ⟨rfl, pr_mk hU hW hPc hKc hDc⟩⟩ rfl rfl hl.1 rfl (lv_room (Nat.le_of_ble_eq_true rfl)) dX8_gap_25 ⟨Nat.le_of_ble_eq_true rfl, Nat.le_of_ble_eq_true rfl⟩) hS (fun q _ h => hFc q h) hFc (fun r_4 u_3 t H1 locs ht hvm hw hB hz1 hk1 hS => ?_)
  obtain ⟨hP1, hK1, hD1⟩ := hB
  rw [ht] at hP1
  obtain ⟨hP, hD⟩ := va_join (wr := [(pl, .inr (1, [.int 0, .ref dz, .int 0])), (sl, .inr (1, [.int 0, .ref dz, .int 0])), (kl, .inr (1, [.int 0, .ref dz, .int 0]))]) (w1 := [(mm, .inr (10, [.int 1, .ref pl, .ref ig, .ref sl, .ref kl, .int 0, .int 0, .int 0]))]) hP hD [0] [1, 2, 3] rfl rfl (by decide) (by decide) hk1 hFc hP1 hD1
  generalize H1 = H at hP hS ⊢
  have hP : va_P (dC, dI) vwCl [(pl, .inr (1, [.int 0, .ref dz, .int 0])), (sl, .inr (1, [.int 0, .ref dz, .int 0])), (kl, .inr (1, [.int 0, .ref dz, .int 0])), (mm, .inr (10, [.int 1, .ref pl, .ref ig, .ref sl, .ref kl, .int 0, .int 0, .int 0]))] H := hP
  have hD : va_D A [(pl, .inr (1, [.int 0, .ref dz, .int 0])), (sl, .inr (1, [.int 0, .ref dz, .int 0])), (kl, .inr (1, [.int 0, .ref dz, .int 0])), (mm, .inr (10, [.int 1, .ref pl, .ref ig, .ref sl, .ref kl, .int 0, .int 0, .int 0]))] := hD
  refine W.widen (k := 0) (n := 0) (Nat.le_refl _) (Nat.le_refl _) ?_
  have hw : r_4 = 0 := hw
  subst hw
  refine lv_i2d hx hb dX8_gap_28 ?_
  have hP9 := hP.sub (ws' := [(mm, .inr (10, [.int 1, .ref pl, .ref ig, .ref sl, .ref kl, .int 0, .int 0, .int 0]))]) [3] rfl
  have hD9 := hD.sub (ws' := [(mm, .inr (10, [.int 1, .ref pl, .ref ig, .ref sl, .ref kl, .int 0, .int 0, .int 0]))]) [3] (by decide) rfl
  have hK9 := hK.sub (tys' := []) [] rfl
  refine W.widen (k := 0) (n := 0) (Nat.le_of_ble_eq_true rfl) (Nat.le_of_ble_eq_true rfl) ?_
  exact W.dret (v := (FP.i2d 0)) hx hb hr (fun t ht hW => ⟨⟨(FP.i2d 0), (), rfl, rfl, po_mk ht hW hP9 hK9 hD9⟩, hS.F ht⟩) hS.2.2 dX8_gap_29

set_option maxHeartbeats 4000000 in
set_option maxRecDepth 100000 in
theorem c1_X8_gap (l : Launch) (dC : Nat → ClassId) (dI : Nat → Nat → Nat) (mm : Nat) (pl : Nat) (ig : Nat) (sl : Nat) (kl : Nat) (dz : Nat) (a0 : Int32) (a1 : Int32) (sz : Nat) (g0a : ¬ a0 < 0) (g0b : ¬ 3 < a0) (hbd : a1 < 0 ∨ 3 < a1) : Met l yX8_gap wsX8_gap ({ frames := 5, cells := 0, slots := 0, locals := 140 }) (va_Pc [.ref mm, .int a0, .int a1] (fun U => pr_ dC dI [(mm, .inr (10, [.int 0, .ref pl, .ref ig, .ref sl, .ref kl, .int 0, .int 0, .int 0])), (pl, .inr (1, [.int 0, .ref dz, .int 0])), (sl, .inr (1, [.int 0, .ref dz, .int 0])), (kl, .inr (1, [.int 0, .ref dz, .int 0]))] [] sz U ∧ mo_  U)) (va_Qd (fun (r : UInt64) (_ : Unit) => r = (FP.i2d 0)) (fun (_ : Unit) t => po_ dC dI [(mm, .inr (10, [.int 1, .ref pl, .ref ig, .ref sl, .ref kl, .int 0, .int 0, .int 0]))] [] (va_A [(mm, .inr (10, [.int 0, .ref pl, .ref ig, .ref sl, .ref kl, .int 0, .int 0, .int 0])), (pl, .inr (1, [.int 0, .ref dz, .int 0])), (sl, .inr (1, [.int 0, .ref dz, .int 0])), (kl, .inr (1, [.int 0, .ref dz, .int 0]))] sz) t) (va_A [(mm, .inr (10, [.int 0, .ref pl, .ref ig, .ref sl, .ref kl, .int 0, .int 0, .int 0])), (pl, .inr (1, [.int 0, .ref dz, .int 0])), (sl, .inr (1, [.int 0, .ref dz, .int 0])), (kl, .inr (1, [.int 0, .ref dz, .int 0]))] sz)) 0 0 (va_A [(mm, .inr (10, [.int 0, .ref pl, .ref ig, .ref sl, .ref kl, .int 0, .int 0, .int 0])), (pl, .inr (1, [.int 0, .ref dz, .int 0])), (sl, .inr (1, [.int 0, .ref dz, .int 0])), (kl, .inr (1, [.int 0, .ref dz, .int 0]))] sz) := by
  refine Met.ofW (cc := cX8_gap) (maxL := 4) (ret := (some .double)) (by decide) rfl ?_
  intro p e s m args below meth c s₁ B hml hv
  obtain ⟨rfl, ⟨hsz, hP, hK, hD0⟩, hXs⟩ := hv
  have hx := B.exec
  have hb := B.bytes
  have hr := B.returns
  have hts := atoms_spec (ws := wsX8_gap) B.pre
  have hown : s.vm.findClass RX8 = some m.cls := findClass_of_methodNamed B.named
  have hlocks := B.notSynchronized
  subst hsz
  have hD := hD0.self (sz := s.heap.size)
  generalize hAe : va_A [(mm, .inr (10, [.int 0, .ref pl, .ref ig, .ref sl, .ref kl, .int 0, .int 0, .int 0])), (pl, .inr (1, [.int 0, .ref dz, .int 0])), (sl, .inr (1, [.int 0, .ref dz, .int 0])), (kl, .inr (1, [.int 0, .ref dz, .int 0]))] s.heap.size = A at hD ⊢
  have hA : ∀ q : Nat, s.heap.size ≤ q → A q := fun q h => by rw [← hAe]; exact Or.inr h
  have hS : va_S A s.heap s.heap [] := va_S.rf
  have hP : va_P (dC, dI) vwCl [(mm, .inr (10, [.int 0, .ref pl, .ref ig, .ref sl, .ref kl, .int 0, .int 0, .int 0])), (pl, .inr (1, [.int 0, .ref dz, .int 0])), (sl, .inr (1, [.int 0, .ref dz, .int 0])), (kl, .inr (1, [.int 0, .ref dz, .int 0]))] s.heap := hP
  have hK : va_K (dC, dI) vwCl [] s := hK
  have hl := lv_entry ([.ref mm, .int a0, .int a1]) (n := 4) (Nat.le_of_ble_eq_true rfl)
  rw [lg_entry_eq]
  generalize (lg_sl ([.ref mm, .int a0, .int a1]) ++ List.replicate (4 - (lg_sl ([.ref mm, .int a0, .int a1])).length) Slot.unset).toArray = ls at hl ⊢
  have hl : lv_has ls 4 [(0, .ref mm), (1, .int a0), (2, .int a1)] := hl
  refine lv_aload_n hx hb dX8_gap_0 rfl (lv_at hl 0 rfl) ?_
  refine lv_iconst (v := 0) hx hb dX8_gap_1 (by decide) ?_
  have hinX8 : ∀ w ∈ u_ws RX8 TX8 8, w ∈ wsX8_gap := by decide +kernel
  refine va_put (D := (dC, dI)) (ci := 10) (v := .int 0) (ty := .int) (C := RX8) (T := TX8) (N := 8) hx hb hts hinX8 tyX8 tyX8_ok nmX8 hown hK hP hD hS 0 rfl rfl 0 (by decide) (hts (.fieldLink RX8 26 "BallotLoomModel" "thrown" "I") (by decide +kernel)) (fun _ h9 => h9) rfl (by decide +kernel) rfl rfl (Nat.le_of_ble_eq_true rfl) dX8_gap_2 (fun H locs hP hD hS => ?_)
  have hP : va_P (dC, dI) vwCl [(mm, .inr (10, [.int 0, .ref pl, .ref ig, .ref sl, .ref kl, .int 0, .int 0, .int 0])), (pl, .inr (1, [.int 0, .ref dz, .int 0])), (sl, .inr (1, [.int 0, .ref dz, .int 0])), (kl, .inr (1, [.int 0, .ref dz, .int 0]))] H := hP
  have hD : va_D A [(mm, .inr (10, [.int 0, .ref pl, .ref ig, .ref sl, .ref kl, .int 0, .int 0, .int 0])), (pl, .inr (1, [.int 0, .ref dz, .int 0])), (sl, .inr (1, [.int 0, .ref dz, .int 0])), (kl, .inr (1, [.int 0, .ref dz, .int 0]))] := hD
  refine lv_iload_n hx hb dX8_gap_5 rfl (lv_at hl 1 rfl) ?_
  refine lv_iconst (v := 0) hx hb dX8_gap_6 (by decide) ?_
  refine lv_iconst (v := 3) hx hb dX8_gap_7 (by decide) ?_
  have hPc := hP.sub (ws' := []) [] rfl
  have hDc := hD.sub (ws' := []) [] (by decide) rfl
  have hKc := hK.sub (tys' := []) [] rfl
  have hFc := va_free (wc := []) hD hS hA [] rfl
  refine va_calli (va_runS (As := [.int a0, .int 0, .int 3]) (rest := []) ⟨hx, hb, hml, hown, hts⟩ (c_X8_in l dC dI a0 (0 : Int32) (3 : Int32) _ g0a g0b) (va_cwS 3 hts gX8_gap_X8_in rfl rfl rfl (by decide +kernel) ⟨Nat.le_of_ble_eq_true rfl, Nat.le_of_ble_eq_true rfl⟩) ⟨pr_blind, fun U hU hW => ⟨rfl, pr_mk hU hW hPc hKc hDc⟩⟩ rfl rfl hl.1 rfl (lv_room (Nat.le_of_ble_eq_true rfl)) dX8_gap_8 ⟨Nat.le_of_ble_eq_true rfl, Nat.le_of_ble_eq_true rfl⟩) hS (fun q _ h => hFc q h) hFc (fun r_2 u_1 t H1 locs ht hvm hw hB hz1 hk1 hS => ?_)
  obtain ⟨hP1, hK1, hD1⟩ := hB
  rw [ht] at hP1
  obtain ⟨hP, hD⟩ := va_join (wr := [(mm, .inr (10, [.int 0, .ref pl, .ref ig, .ref sl, .ref kl, .int 0, .int 0, .int 0])), (pl, .inr (1, [.int 0, .ref dz, .int 0])), (sl, .inr (1, [.int 0, .ref dz, .int 0])), (kl, .inr (1, [.int 0, .ref dz, .int 0]))]) (w1 := []) hP hD [] [0, 1, 2, 3] rfl rfl (by decide) (by decide) hk1 hFc hP1 hD1
  generalize H1 = H at hP hS ⊢
  have hP : va_P (dC, dI) vwCl [(mm, .inr (10, [.int 0, .ref pl, .ref ig, .ref sl, .ref kl, .int 0, .int 0, .int 0])), (pl, .inr (1, [.int 0, .ref dz, .int 0])), (sl, .inr (1, [.int 0, .ref dz, .int 0])), (kl, .inr (1, [.int 0, .ref dz, .int 0]))] H := hP
  have hD : va_D A [(mm, .inr (10, [.int 0, .ref pl, .ref ig, .ref sl, .ref kl, .int 0, .int 0, .int 0])), (pl, .inr (1, [.int 0, .ref dz, .int 0])), (sl, .inr (1, [.int 0, .ref dz, .int 0])), (kl, .inr (1, [.int 0, .ref dz, .int 0]))] := hD
  refine W.widen (k := 0) (n := 0) (Nat.le_refl _) (Nat.le_refl _) ?_
  have hw : r_2 = 1 := hw
  subst hw
  refine lv_if_eq (tgt := 23) hx hb dX8_gap_11 (by decide) (fun h9 => absurd h9 (by decide)) (fun _ => ?_)
  refine lv_iload_n hx hb dX8_gap_14 rfl (lv_at hl 2 rfl) ?_
  refine lv_iconst (v := 0) hx hb dX8_gap_15 (by decide) ?_
  refine lv_iconst (v := 3) hx hb dX8_gap_16 (by decide) ?_
  have hPc := hP.sub (ws' := []) [] rfl
  have hDc := hD.sub (ws' := []) [] (by decide) rfl
  have hKc := hK.sub (tys' := []) [] rfl
  have hFc := va_free (wc := []) hD hS hA [] rfl
  refine va_calli (va_runS (As := [.int a1, .int 0, .int 3]) (rest := []) ⟨hx, hb, hml, hown, hts⟩ (c0_X8_in l dC dI a1 (0 : Int32) (3 : Int32) _ hbd) (va_cwS 3 hts gX8_gap_X8_in rfl rfl rfl (by decide +kernel) ⟨Nat.le_of_ble_eq_true rfl, Nat.le_of_ble_eq_true rfl⟩) ⟨pr_blind, fun U hU hW => ⟨rfl, pr_mk hU hW hPc hKc hDc⟩⟩ rfl rfl hl.1 rfl (lv_room (Nat.le_of_ble_eq_true rfl)) dX8_gap_17 ⟨Nat.le_of_ble_eq_true rfl, Nat.le_of_ble_eq_true rfl⟩) hS (fun q _ h => hFc q h) hFc (fun r_4 u_3 t H1 locs ht hvm hw hB hz1 hk1 hS => ?_)
  obtain ⟨hP1, hK1, hD1⟩ := hB
  rw [ht] at hP1
  obtain ⟨hP, hD⟩ := va_join (wr := [(mm, .inr (10, [.int 0, .ref pl, .ref ig, .ref sl, .ref kl, .int 0, .int 0, .int 0])), (pl, .inr (1, [.int 0, .ref dz, .int 0])), (sl, .inr (1, [.int 0, .ref dz, .int 0])), (kl, .inr (1, [.int 0, .ref dz, .int 0]))]) (w1 := []) hP hD [] [0, 1, 2, 3] rfl rfl (by decide) (by decide) hk1 hFc hP1 hD1
  generalize H1 = H at hP hS ⊢
  have hP : va_P (dC, dI) vwCl [(mm, .inr (10, [.int 0, .ref pl, .ref ig, .ref sl, .ref kl, .int 0, .int 0, .int 0])), (pl, .inr (1, [.int 0, .ref dz, .int 0])), (sl, .inr (1, [.int 0, .ref dz, .int 0])), (kl, .inr (1, [.int 0, .ref dz, .int 0]))] H := hP
  have hD : va_D A [(mm, .inr (10, [.int 0, .ref pl, .ref ig, .ref sl, .ref kl, .int 0, .int 0, .int 0])), (pl, .inr (1, [.int 0, .ref dz, .int 0])), (sl, .inr (1, [.int 0, .ref dz, .int 0])), (kl, .inr (1, [.int 0, .ref dz, .int 0]))] := hD
  refine W.widen (k := 0) (n := 0) (Nat.le_refl _) (Nat.le_refl _) ?_
  have hw : r_4 = 0 := hw
  subst hw
  refine lv_if_ne (tgt := 30) hx hb dX8_gap_20 (by decide) (fun h9 => absurd h9 (by decide)) (fun _ => ?_)
  refine lv_aload_n hx hb dX8_gap_23 rfl (lv_at hl 0 rfl) ?_
  refine lv_iconst (v := 1) hx hb dX8_gap_24 (by decide) ?_
  have hPc := hP.sub (ws' := [(mm, .inr (10, [.int 0, .ref pl, .ref ig, .ref sl, .ref kl, .int 0, .int 0, .int 0]))]) [0] rfl
  have hDc := hD.sub (ws' := [(mm, .inr (10, [.int 0, .ref pl, .ref ig, .ref sl, .ref kl, .int 0, .int 0, .int 0]))]) [0] (by decide) rfl
  have hKc := hK.sub (tys' := []) [] rfl
  have hFc := va_free (wc := [(mm, .inr (10, [.int 0, .ref pl, .ref ig, .ref sl, .ref kl, .int 0, .int 0, .int 0]))]) hD hS hA [0] rfl
  refine va_calli (va_runV (As := [.int 1]) (rest := []) ⟨hx, hb, hml, hown, hts⟩ (c_X8_no l dC dI mm pl ig sl kl (1 : Int32) (0 : Int32) _ ) (cwV 1 hts gX8_gap_X8_no rfl rfl rfl (by decide +kernel) ⟨Nat.le_of_ble_eq_true rfl, Nat.le_of_ble_eq_true rfl⟩) ⟨pr_blind, va_recv hKc hPc (ci := 10) (q0 := 0) rfl rfl, fun U hU hW => ⟨rfl, pr_mk hU hW hPc hKc hDc⟩⟩ rfl rfl hl.1 rfl (lv_room (Nat.le_of_ble_eq_true rfl)) dX8_gap_25 ⟨Nat.le_of_ble_eq_true rfl, Nat.le_of_ble_eq_true rfl⟩) hS (fun q _ h => hFc q h) hFc (fun r_6 u_5 t H1 locs ht hvm hw hB hz1 hk1 hS => ?_)
  obtain ⟨hP1, hK1, hD1⟩ := hB
  rw [ht] at hP1
  obtain ⟨hP, hD⟩ := va_join (wr := [(pl, .inr (1, [.int 0, .ref dz, .int 0])), (sl, .inr (1, [.int 0, .ref dz, .int 0])), (kl, .inr (1, [.int 0, .ref dz, .int 0]))]) (w1 := [(mm, .inr (10, [.int 1, .ref pl, .ref ig, .ref sl, .ref kl, .int 0, .int 0, .int 0]))]) hP hD [0] [1, 2, 3] rfl rfl (by decide) (by decide) hk1 hFc hP1 hD1
  generalize H1 = H at hP hS ⊢
  have hP : va_P (dC, dI) vwCl [(pl, .inr (1, [.int 0, .ref dz, .int 0])), (sl, .inr (1, [.int 0, .ref dz, .int 0])), (kl, .inr (1, [.int 0, .ref dz, .int 0])), (mm, .inr (10, [.int 1, .ref pl, .ref ig, .ref sl, .ref kl, .int 0, .int 0, .int 0]))] H := hP
  have hD : va_D A [(pl, .inr (1, [.int 0, .ref dz, .int 0])), (sl, .inr (1, [.int 0, .ref dz, .int 0])), (kl, .inr (1, [.int 0, .ref dz, .int 0])), (mm, .inr (10, [.int 1, .ref pl, .ref ig, .ref sl, .ref kl, .int 0, .int 0, .int 0]))] := hD
  refine W.widen (k := 0) (n := 0) (Nat.le_refl _) (Nat.le_refl _) ?_
  have hw : r_6 = 0 := hw
  subst hw
  refine lv_i2d hx hb dX8_gap_28 ?_
  have hP9 := hP.sub (ws' := [(mm, .inr (10, [.int 1, .ref pl, .ref ig, .ref sl, .ref kl, .int 0, .int 0, .int 0]))]) [3] rfl
  have hD9 := hD.sub (ws' := [(mm, .inr (10, [.int 1, .ref pl, .ref ig, .ref sl, .ref kl, .int 0, .int 0, .int 0]))]) [3] (by decide) rfl
  have hK9 := hK.sub (tys' := []) [] rfl
  refine W.widen (k := 0) (n := 0) (Nat.le_of_ble_eq_true rfl) (Nat.le_of_ble_eq_true rfl) ?_
  exact W.dret (v := (FP.i2d 0)) hx hb hr (fun t ht hW => ⟨⟨(FP.i2d 0), (), rfl, rfl, po_mk ht hW hP9 hK9 hD9⟩, hS.F ht⟩) hS.2.2 dX8_gap_29

set_option maxHeartbeats 4000000 in
set_option maxRecDepth 100000 in
theorem c_X8_gap (l : Launch) (dC : Nat → ClassId) (dI : Nat → Nat → Nat) (mm : Nat) (pl : Nat) (ig : Nat) (sl : Nat) (kl : Nat) (dz : Nat) (a0 : Int32) (a1 : Int32) (sz : Nat) (g0a : ¬ a0 < 0) (g0b : ¬ 3 < a0) (g1a : ¬ a1 < 0) (g1b : ¬ 3 < a1) : Met l yX8_gap wsX8_gap ({ frames := 6, cells := 4, slots := 20, locals := 160 }) (va_Pc [.ref mm, .int a0, .int a1] (fun U => pr_ dC dI [(mm, .inr (10, [.int 0, .ref pl, .ref ig, .ref sl, .ref kl, .int 0, .int 0, .int 0])), (pl, .inr (1, [.int 0, .ref dz, .int 0])), (sl, .inr (1, [.int 0, .ref dz, .int 0])), (kl, .inr (1, [.int 0, .ref dz, .int 0]))] [] sz U ∧ mo_  U)) (va_Qd (fun (r : UInt64) (_ : Unit) => r = FP.dconst0) (fun (_ : Unit) t => po_ dC dI [(mm, .inr (10, [.int 0, .ref pl, .ref ig, .ref sl, .ref kl, .int 0, .int 0, .int 0]))] [] (va_A [(mm, .inr (10, [.int 0, .ref pl, .ref ig, .ref sl, .ref kl, .int 0, .int 0, .int 0])), (pl, .inr (1, [.int 0, .ref dz, .int 0])), (sl, .inr (1, [.int 0, .ref dz, .int 0])), (kl, .inr (1, [.int 0, .ref dz, .int 0]))] sz) t) (va_A [(mm, .inr (10, [.int 0, .ref pl, .ref ig, .ref sl, .ref kl, .int 0, .int 0, .int 0])), (pl, .inr (1, [.int 0, .ref dz, .int 0])), (sl, .inr (1, [.int 0, .ref dz, .int 0])), (kl, .inr (1, [.int 0, .ref dz, .int 0]))] sz)) 4 20 (va_A [(mm, .inr (10, [.int 0, .ref pl, .ref ig, .ref sl, .ref kl, .int 0, .int 0, .int 0])), (pl, .inr (1, [.int 0, .ref dz, .int 0])), (sl, .inr (1, [.int 0, .ref dz, .int 0])), (kl, .inr (1, [.int 0, .ref dz, .int 0]))] sz) := by
  refine Met.ofW (cc := cX8_gap) (maxL := 4) (ret := (some .double)) (by decide) rfl ?_
  intro p e s m args below meth c s₁ B hml hv
  obtain ⟨rfl, ⟨hsz, hP, hK, hD0⟩, hXs⟩ := hv
  have hx := B.exec
  have hb := B.bytes
  have hr := B.returns
  have hts := atoms_spec (ws := wsX8_gap) B.pre
  have hown : s.vm.findClass RX8 = some m.cls := findClass_of_methodNamed B.named
  have hlocks := B.notSynchronized
  subst hsz
  have hD := hD0.self (sz := s.heap.size)
  generalize hAe : va_A [(mm, .inr (10, [.int 0, .ref pl, .ref ig, .ref sl, .ref kl, .int 0, .int 0, .int 0])), (pl, .inr (1, [.int 0, .ref dz, .int 0])), (sl, .inr (1, [.int 0, .ref dz, .int 0])), (kl, .inr (1, [.int 0, .ref dz, .int 0]))] s.heap.size = A at hD ⊢
  have hA : ∀ q : Nat, s.heap.size ≤ q → A q := fun q h => by rw [← hAe]; exact Or.inr h
  have hS : va_S A s.heap s.heap [] := va_S.rf
  have hP : va_P (dC, dI) vwCl [(mm, .inr (10, [.int 0, .ref pl, .ref ig, .ref sl, .ref kl, .int 0, .int 0, .int 0])), (pl, .inr (1, [.int 0, .ref dz, .int 0])), (sl, .inr (1, [.int 0, .ref dz, .int 0])), (kl, .inr (1, [.int 0, .ref dz, .int 0]))] s.heap := hP
  have hK : va_K (dC, dI) vwCl [] s := hK
  have hl := lv_entry ([.ref mm, .int a0, .int a1]) (n := 4) (Nat.le_of_ble_eq_true rfl)
  rw [lg_entry_eq]
  generalize (lg_sl ([.ref mm, .int a0, .int a1]) ++ List.replicate (4 - (lg_sl ([.ref mm, .int a0, .int a1])).length) Slot.unset).toArray = ls at hl ⊢
  have hl : lv_has ls 4 [(0, .ref mm), (1, .int a0), (2, .int a1)] := hl
  refine lv_aload_n hx hb dX8_gap_0 rfl (lv_at hl 0 rfl) ?_
  refine lv_iconst (v := 0) hx hb dX8_gap_1 (by decide) ?_
  have hinX8 : ∀ w ∈ u_ws RX8 TX8 8, w ∈ wsX8_gap := by decide +kernel
  refine va_put (D := (dC, dI)) (ci := 10) (v := .int 0) (ty := .int) (C := RX8) (T := TX8) (N := 8) hx hb hts hinX8 tyX8 tyX8_ok nmX8 hown hK hP hD hS 0 rfl rfl 0 (by decide) (hts (.fieldLink RX8 26 "BallotLoomModel" "thrown" "I") (by decide +kernel)) (fun _ h9 => h9) rfl (by decide +kernel) rfl rfl (Nat.le_of_ble_eq_true rfl) dX8_gap_2 (fun H locs hP hD hS => ?_)
  have hP : va_P (dC, dI) vwCl [(mm, .inr (10, [.int 0, .ref pl, .ref ig, .ref sl, .ref kl, .int 0, .int 0, .int 0])), (pl, .inr (1, [.int 0, .ref dz, .int 0])), (sl, .inr (1, [.int 0, .ref dz, .int 0])), (kl, .inr (1, [.int 0, .ref dz, .int 0]))] H := hP
  have hD : va_D A [(mm, .inr (10, [.int 0, .ref pl, .ref ig, .ref sl, .ref kl, .int 0, .int 0, .int 0])), (pl, .inr (1, [.int 0, .ref dz, .int 0])), (sl, .inr (1, [.int 0, .ref dz, .int 0])), (kl, .inr (1, [.int 0, .ref dz, .int 0]))] := hD
  refine lv_iload_n hx hb dX8_gap_5 rfl (lv_at hl 1 rfl) ?_
  refine lv_iconst (v := 0) hx hb dX8_gap_6 (by decide) ?_
  refine lv_iconst (v := 3) hx hb dX8_gap_7 (by decide) ?_
  have hPc := hP.sub (ws' := []) [] rfl
  have hDc := hD.sub (ws' := []) [] (by decide) rfl
  have hKc := hK.sub (tys' := []) [] rfl
  have hFc := va_free (wc := []) hD hS hA [] rfl
  refine va_calli (va_runS (As := [.int a0, .int 0, .int 3]) (rest := []) ⟨hx, hb, hml, hown, hts⟩ (c_X8_in l dC dI a0 (0 : Int32) (3 : Int32) _ g0a g0b) (va_cwS 3 hts gX8_gap_X8_in rfl rfl rfl (by decide +kernel) ⟨Nat.le_of_ble_eq_true rfl, Nat.le_of_ble_eq_true rfl⟩) ⟨pr_blind, fun U hU hW => ⟨rfl, pr_mk hU hW hPc hKc hDc⟩⟩ rfl rfl hl.1 rfl (lv_room (Nat.le_of_ble_eq_true rfl)) dX8_gap_8 ⟨Nat.le_of_ble_eq_true rfl, Nat.le_of_ble_eq_true rfl⟩) hS (fun q _ h => hFc q h) hFc (fun r_2 u_1 t H1 locs ht hvm hw hB hz1 hk1 hS => ?_)
  obtain ⟨hP1, hK1, hD1⟩ := hB
  rw [ht] at hP1
  obtain ⟨hP, hD⟩ := va_join (wr := [(mm, .inr (10, [.int 0, .ref pl, .ref ig, .ref sl, .ref kl, .int 0, .int 0, .int 0])), (pl, .inr (1, [.int 0, .ref dz, .int 0])), (sl, .inr (1, [.int 0, .ref dz, .int 0])), (kl, .inr (1, [.int 0, .ref dz, .int 0]))]) (w1 := []) hP hD [] [0, 1, 2, 3] rfl rfl (by decide) (by decide) hk1 hFc hP1 hD1
  generalize H1 = H at hP hS ⊢
  have hP : va_P (dC, dI) vwCl [(mm, .inr (10, [.int 0, .ref pl, .ref ig, .ref sl, .ref kl, .int 0, .int 0, .int 0])), (pl, .inr (1, [.int 0, .ref dz, .int 0])), (sl, .inr (1, [.int 0, .ref dz, .int 0])), (kl, .inr (1, [.int 0, .ref dz, .int 0]))] H := hP
  have hD : va_D A [(mm, .inr (10, [.int 0, .ref pl, .ref ig, .ref sl, .ref kl, .int 0, .int 0, .int 0])), (pl, .inr (1, [.int 0, .ref dz, .int 0])), (sl, .inr (1, [.int 0, .ref dz, .int 0])), (kl, .inr (1, [.int 0, .ref dz, .int 0]))] := hD
  refine W.widen (k := 0) (n := 0) (Nat.le_refl _) (Nat.le_refl _) ?_
  have hw : r_2 = 1 := hw
  subst hw
  refine lv_if_eq (tgt := 23) hx hb dX8_gap_11 (by decide) (fun h9 => absurd h9 (by decide)) (fun _ => ?_)
  refine lv_iload_n hx hb dX8_gap_14 rfl (lv_at hl 2 rfl) ?_
  refine lv_iconst (v := 0) hx hb dX8_gap_15 (by decide) ?_
  refine lv_iconst (v := 3) hx hb dX8_gap_16 (by decide) ?_
  have hPc := hP.sub (ws' := []) [] rfl
  have hDc := hD.sub (ws' := []) [] (by decide) rfl
  have hKc := hK.sub (tys' := []) [] rfl
  have hFc := va_free (wc := []) hD hS hA [] rfl
  refine va_calli (va_runS (As := [.int a1, .int 0, .int 3]) (rest := []) ⟨hx, hb, hml, hown, hts⟩ (c_X8_in l dC dI a1 (0 : Int32) (3 : Int32) _ g1a g1b) (va_cwS 3 hts gX8_gap_X8_in rfl rfl rfl (by decide +kernel) ⟨Nat.le_of_ble_eq_true rfl, Nat.le_of_ble_eq_true rfl⟩) ⟨pr_blind, fun U hU hW => ⟨rfl, pr_mk hU hW hPc hKc hDc⟩⟩ rfl rfl hl.1 rfl (lv_room (Nat.le_of_ble_eq_true rfl)) dX8_gap_17 ⟨Nat.le_of_ble_eq_true rfl, Nat.le_of_ble_eq_true rfl⟩) hS (fun q _ h => hFc q h) hFc (fun r_4 u_3 t H1 locs ht hvm hw hB hz1 hk1 hS => ?_)
  obtain ⟨hP1, hK1, hD1⟩ := hB
  rw [ht] at hP1
  obtain ⟨hP, hD⟩ := va_join (wr := [(mm, .inr (10, [.int 0, .ref pl, .ref ig, .ref sl, .ref kl, .int 0, .int 0, .int 0])), (pl, .inr (1, [.int 0, .ref dz, .int 0])), (sl, .inr (1, [.int 0, .ref dz, .int 0])), (kl, .inr (1, [.int 0, .ref dz, .int 0]))]) (w1 := []) hP hD [] [0, 1, 2, 3] rfl rfl (by decide) (by decide) hk1 hFc hP1 hD1
  generalize H1 = H at hP hS ⊢
  have hP : va_P (dC, dI) vwCl [(mm, .inr (10, [.int 0, .ref pl, .ref ig, .ref sl, .ref kl, .int 0, .int 0, .int 0])), (pl, .inr (1, [.int 0, .ref dz, .int 0])), (sl, .inr (1, [.int 0, .ref dz, .int 0])), (kl, .inr (1, [.int 0, .ref dz, .int 0]))] H := hP
  have hD : va_D A [(mm, .inr (10, [.int 0, .ref pl, .ref ig, .ref sl, .ref kl, .int 0, .int 0, .int 0])), (pl, .inr (1, [.int 0, .ref dz, .int 0])), (sl, .inr (1, [.int 0, .ref dz, .int 0])), (kl, .inr (1, [.int 0, .ref dz, .int 0]))] := hD
  refine W.widen (k := 0) (n := 0) (Nat.le_refl _) (Nat.le_refl _) ?_
  have hw : r_4 = 1 := hw
  subst hw
  refine lv_if_ne (tgt := 30) hx hb dX8_gap_20 (by decide) (fun _ => ?_) (fun h9 => absurd h9 (by decide))
  refine lv_aload_n hx hb dX8_gap_30 rfl (lv_at hl 0 rfl) ?_
  have hPc := hP.sub (ws' := [(mm, .inr (10, [.int 0, .ref pl, .ref ig, .ref sl, .ref kl, .int 0, .int 0, .int 0])), (sl, .inr (1, [.int 0, .ref dz, .int 0]))]) [0, 2] rfl
  have hDc := hD.sub (ws' := [(mm, .inr (10, [.int 0, .ref pl, .ref ig, .ref sl, .ref kl, .int 0, .int 0, .int 0])), (sl, .inr (1, [.int 0, .ref dz, .int 0]))]) [0, 2] (by decide) rfl
  have hKc := hK.sub (tys' := []) [] rfl
  have hFc := va_free (wc := [(mm, .inr (10, [.int 0, .ref pl, .ref ig, .ref sl, .ref kl, .int 0, .int 0, .int 0])), (sl, .inr (1, [.int 0, .ref dz, .int 0]))]) hD hS hA [0, 2] rfl
  refine va_callr (va_runV (As := []) (rest := []) ⟨hx, hb, hml, hown, hts⟩ (c_X8_votes l dC dI mm pl ig sl kl dz (0 : Int32) (0 : Int32) _ ) (cwV 0 hts gX8_gap_X8_votes rfl rfl rfl (by decide +kernel) ⟨Nat.le_of_ble_eq_true rfl, Nat.le_of_ble_eq_true rfl⟩) ⟨pe_blind mo_bl, va_recv hKc hPc (ci := 10) (q0 := 0) rfl rfl, fun U hU hW => ⟨rfl, pr_mk hU hW hPc hKc hDc, mo_mk hW hXs⟩⟩ rfl rfl hl.1 rfl (lv_room (Nat.le_of_ble_eq_true rfl)) dX8_gap_31 ⟨Nat.le_of_ble_eq_true rfl, Nat.le_of_ble_eq_true rfl⟩) hS (fun q _ h => hFc q h) hFc (fun u_5 r_6 t H1 locs ht hvm hw hB hz1 hk1 hS => ?_)
  obtain ⟨q_7, rfl⟩ : ∃ z, z = u_5 := ⟨_, rfl⟩
  obtain ⟨hP1, hK1, hD1⟩ := hB
  rw [ht] at hP1
  obtain ⟨hP, hD⟩ := va_join (wr := [(pl, .inr (1, [.int 0, .ref dz, .int 0])), (kl, .inr (1, [.int 0, .ref dz, .int 0]))]) (w1 := [(mm, .inr (10, [.int 0, .ref pl, .ref ig, .ref sl, .ref kl, .int 0, .int 0, .int 0])), (sl, .inr (1, [.int 0, .ref dz, .int 0])), (r_6, .inl (q_7, 5, .inl zi))]) hP hD [0, 2] [1, 3] rfl rfl (by decide) (by decide) hk1 hFc hP1 hD1
  have hK := hK.app (va_K.moved hvm.symm hK1)
  have hK : va_K (dC, dI) vwCl [(q_7, .int)] s := hK
  generalize H1 = H at hP hS ⊢
  have hP : va_P (dC, dI) vwCl [(pl, .inr (1, [.int 0, .ref dz, .int 0])), (kl, .inr (1, [.int 0, .ref dz, .int 0])), (mm, .inr (10, [.int 0, .ref pl, .ref ig, .ref sl, .ref kl, .int 0, .int 0, .int 0])), (sl, .inr (1, [.int 0, .ref dz, .int 0])), (r_6, .inl (q_7, 5, .inl zi))] H := hP
  have hD : va_D A [(pl, .inr (1, [.int 0, .ref dz, .int 0])), (kl, .inr (1, [.int 0, .ref dz, .int 0])), (mm, .inr (10, [.int 0, .ref pl, .ref ig, .ref sl, .ref kl, .int 0, .int 0, .int 0])), (sl, .inr (1, [.int 0, .ref dz, .int 0])), (r_6, .inl (q_7, 5, .inl zi))] := hD
  refine W.widen (k := 1) (n := 5) (Nat.le_of_ble_eq_true rfl) (Nat.le_of_ble_eq_true rfl) ?_
  refine lv_iconst (v := 4) hx hb dX8_gap_34 (by decide) ?_
  refine va_iald hx hb hK hP 4 0 rfl rfl (by unfold vp_in; decide) dX8_gap_35 ?_
  refine lv_topi (fun y_8 ey_8 => ?_)
  obtain rfl : y_8 = 0 := ey_8.trans (by rfl)
  refine lv_istore_n (lv' := [(3, .int 0), (0, .ref mm), (1, .int a0), (2, .int a1)]) hx hb dX8_gap_36 rfl hl (by decide) rfl (fun ls hl => ?_)
  refine lv_iload_n hx hb dX8_gap_37 rfl (lv_at hl 0 rfl) ?_
  refine lv_if_ne (tgt := 45) hx hb dX8_gap_38 (by decide) (fun h9 => absurd h9 (by decide)) (fun _ => ?_)
  refine lv_dconst0 hx hb dX8_gap_41 ?_
  refine lv_goto (tgt := 60) hx hb dX8_gap_42 (by decide) ?_
  have hP9 := hP.sub (ws' := [(mm, .inr (10, [.int 0, .ref pl, .ref ig, .ref sl, .ref kl, .int 0, .int 0, .int 0]))]) [2] rfl
  have hD9 := hD.sub (ws' := [(mm, .inr (10, [.int 0, .ref pl, .ref ig, .ref sl, .ref kl, .int 0, .int 0, .int 0]))]) [2] (by decide) rfl
  have hK9 := hK.sub (tys' := []) [] rfl
  refine W.widen (k := 4) (n := 20) (Nat.le_of_ble_eq_true rfl) (Nat.le_of_ble_eq_true rfl) ?_
  exact W.dret (v := FP.dconst0) hx hb hr (fun t ht hW => ⟨⟨FP.dconst0, (), rfl, rfl, po_mk ht hW hP9 hK9 hD9⟩, hS.F ht⟩) hS.2.2 dX8_gap_60

set_option maxHeartbeats 4000000 in
set_option maxRecDepth 100000 in
theorem c0_X8_many (l : Launch) (dC : Nat → ClassId) (dI : Nat → Nat → Nat) (mm : Nat) (pl : Nat) (ig : Nat) (sl : Nat) (kl : Nat) (dz : Nat) (a0 : Int32) (sz : Nat) (hbd : a0 < 0 ∨ 9 < a0) : Met l yX8_many wsX8_many ({ frames := 5, cells := 0, slots := 0, locals := 140 }) (va_Pc [.ref mm, .int a0] (fun U => pr_ dC dI [(mm, .inr (10, [.int 0, .ref pl, .ref ig, .ref sl, .ref kl, .int 0, .int 0, .int 0])), (pl, .inr (1, [.int 0, .ref dz, .int 0])), (sl, .inr (1, [.int 0, .ref dz, .int 0])), (kl, .inr (1, [.int 0, .ref dz, .int 0]))] [] sz U ∧ mo_  U)) (va_Qi (fun (r : Int32) (_ : Unit) => r = 0) (fun (_ : Unit) t => po_ dC dI [(mm, .inr (10, [.int 1, .ref pl, .ref ig, .ref sl, .ref kl, .int 0, .int 0, .int 0]))] [] (va_A [(mm, .inr (10, [.int 0, .ref pl, .ref ig, .ref sl, .ref kl, .int 0, .int 0, .int 0])), (pl, .inr (1, [.int 0, .ref dz, .int 0])), (sl, .inr (1, [.int 0, .ref dz, .int 0])), (kl, .inr (1, [.int 0, .ref dz, .int 0]))] sz) t) (va_A [(mm, .inr (10, [.int 0, .ref pl, .ref ig, .ref sl, .ref kl, .int 0, .int 0, .int 0])), (pl, .inr (1, [.int 0, .ref dz, .int 0])), (sl, .inr (1, [.int 0, .ref dz, .int 0])), (kl, .inr (1, [.int 0, .ref dz, .int 0]))] sz)) 0 0 (va_A [(mm, .inr (10, [.int 0, .ref pl, .ref ig, .ref sl, .ref kl, .int 0, .int 0, .int 0])), (pl, .inr (1, [.int 0, .ref dz, .int 0])), (sl, .inr (1, [.int 0, .ref dz, .int 0])), (kl, .inr (1, [.int 0, .ref dz, .int 0]))] sz) := by
  refine Met.ofW (cc := cX8_many) (maxL := 2) (ret := (some .int)) (by decide) rfl ?_
  intro p e s m args below meth c s₁ B hml hv
  obtain ⟨rfl, ⟨hsz, hP, hK, hD0⟩, hXs⟩ := hv
  have hx := B.exec
  have hb := B.bytes
  have hr := B.returns
  have hts := atoms_spec (ws := wsX8_many) B.pre
  have hown : s.vm.findClass RX8 = some m.cls := findClass_of_methodNamed B.named
  have hlocks := B.notSynchronized
  subst hsz
  have hD := hD0.self (sz := s.heap.size)
  generalize hAe : va_A [(mm, .inr (10, [.int 0, .ref pl, .ref ig, .ref sl, .ref kl, .int 0, .int 0, .int 0])), (pl, .inr (1, [.int 0, .ref dz, .int 0])), (sl, .inr (1, [.int 0, .ref dz, .int 0])), (kl, .inr (1, [.int 0, .ref dz, .int 0]))] s.heap.size = A at hD ⊢
  have hA : ∀ q : Nat, s.heap.size ≤ q → A q := fun q h => by rw [← hAe]; exact Or.inr h
  have hS : va_S A s.heap s.heap [] := va_S.rf
  have hP : va_P (dC, dI) vwCl [(mm, .inr (10, [.int 0, .ref pl, .ref ig, .ref sl, .ref kl, .int 0, .int 0, .int 0])), (pl, .inr (1, [.int 0, .ref dz, .int 0])), (sl, .inr (1, [.int 0, .ref dz, .int 0])), (kl, .inr (1, [.int 0, .ref dz, .int 0]))] s.heap := hP
  have hK : va_K (dC, dI) vwCl [] s := hK
  have hl := lv_entry ([.ref mm, .int a0]) (n := 2) (Nat.le_of_ble_eq_true rfl)
  rw [lg_entry_eq]
  generalize (lg_sl ([.ref mm, .int a0]) ++ List.replicate (2 - (lg_sl ([.ref mm, .int a0])).length) Slot.unset).toArray = ls at hl ⊢
  have hl : lv_has ls 2 [(0, .ref mm), (1, .int a0)] := hl
  refine lv_aload_n hx hb dX8_many_0 rfl (lv_at hl 0 rfl) ?_
  refine lv_iconst (v := 0) hx hb dX8_many_1 (by decide) ?_
  have hinX8 : ∀ w ∈ u_ws RX8 TX8 8, w ∈ wsX8_many := by decide +kernel
  refine va_put (D := (dC, dI)) (ci := 10) (v := .int 0) (ty := .int) (C := RX8) (T := TX8) (N := 8) hx hb hts hinX8 tyX8 tyX8_ok nmX8 hown hK hP hD hS 0 rfl rfl 0 (by decide) (hts (.fieldLink RX8 26 "BallotLoomModel" "thrown" "I") (by decide +kernel)) (fun _ h9 => h9) rfl (by decide +kernel) rfl rfl (Nat.le_of_ble_eq_true rfl) dX8_many_2 (fun H locs hP hD hS => ?_)
  have hP : va_P (dC, dI) vwCl [(mm, .inr (10, [.int 0, .ref pl, .ref ig, .ref sl, .ref kl, .int 0, .int 0, .int 0])), (pl, .inr (1, [.int 0, .ref dz, .int 0])), (sl, .inr (1, [.int 0, .ref dz, .int 0])), (kl, .inr (1, [.int 0, .ref dz, .int 0]))] H := hP
  have hD : va_D A [(mm, .inr (10, [.int 0, .ref pl, .ref ig, .ref sl, .ref kl, .int 0, .int 0, .int 0])), (pl, .inr (1, [.int 0, .ref dz, .int 0])), (sl, .inr (1, [.int 0, .ref dz, .int 0])), (kl, .inr (1, [.int 0, .ref dz, .int 0]))] := hD
  refine lv_iload_n hx hb dX8_many_5 rfl (lv_at hl 1 rfl) ?_
  refine lv_iconst (v := 0) hx hb dX8_many_6 (by decide) ?_
  refine lv_bipush (v := 9) hx hb dX8_many_7 (by decide) ?_
  have hPc := hP.sub (ws' := []) [] rfl
  have hDc := hD.sub (ws' := []) [] (by decide) rfl
  have hKc := hK.sub (tys' := []) [] rfl
  have hFc := va_free (wc := []) hD hS hA [] rfl
  refine va_calli (va_runS (As := [.int a0, .int 0, .int 9]) (rest := []) ⟨hx, hb, hml, hown, hts⟩ (c0_X8_in l dC dI a0 (0 : Int32) (9 : Int32) _ hbd) (va_cwS 3 hts gX8_many_X8_in rfl rfl rfl (by decide +kernel) ⟨Nat.le_of_ble_eq_true rfl, Nat.le_of_ble_eq_true rfl⟩) ⟨pr_blind, fun U hU hW => ⟨rfl, pr_mk hU hW hPc hKc hDc⟩⟩ rfl rfl hl.1 rfl (lv_room (Nat.le_of_ble_eq_true rfl)) dX8_many_9 ⟨Nat.le_of_ble_eq_true rfl, Nat.le_of_ble_eq_true rfl⟩) hS (fun q _ h => hFc q h) hFc (fun r_2 u_1 t H1 locs ht hvm hw hB hz1 hk1 hS => ?_)
  obtain ⟨hP1, hK1, hD1⟩ := hB
  rw [ht] at hP1
  obtain ⟨hP, hD⟩ := va_join (wr := [(mm, .inr (10, [.int 0, .ref pl, .ref ig, .ref sl, .ref kl, .int 0, .int 0, .int 0])), (pl, .inr (1, [.int 0, .ref dz, .int 0])), (sl, .inr (1, [.int 0, .ref dz, .int 0])), (kl, .inr (1, [.int 0, .ref dz, .int 0]))]) (w1 := []) hP hD [] [0, 1, 2, 3] rfl rfl (by decide) (by decide) hk1 hFc hP1 hD1
  generalize H1 = H at hP hS ⊢
  have hP : va_P (dC, dI) vwCl [(mm, .inr (10, [.int 0, .ref pl, .ref ig, .ref sl, .ref kl, .int 0, .int 0, .int 0])), (pl, .inr (1, [.int 0, .ref dz, .int 0])), (sl, .inr (1, [.int 0, .ref dz, .int 0])), (kl, .inr (1, [.int 0, .ref dz, .int 0]))] H := hP
  have hD : va_D A [(mm, .inr (10, [.int 0, .ref pl, .ref ig, .ref sl, .ref kl, .int 0, .int 0, .int 0])), (pl, .inr (1, [.int 0, .ref dz, .int 0])), (sl, .inr (1, [.int 0, .ref dz, .int 0])), (kl, .inr (1, [.int 0, .ref dz, .int 0]))] := hD
  refine W.widen (k := 0) (n := 0) (Nat.le_refl _) (Nat.le_refl _) ?_
  have hw : r_2 = 0 := hw
  subst hw
  refine lv_if_ne (tgt := 21) hx hb dX8_many_12 (by decide) (fun h9 => absurd h9 (by decide)) (fun _ => ?_)
  refine lv_aload_n hx hb dX8_many_15 rfl (lv_at hl 0 rfl) ?_
  refine lv_iconst (v := 1) hx hb dX8_many_16 (by decide) ?_
  have hPc := hP.sub (ws' := [(mm, .inr (10, [.int 0, .ref pl, .ref ig, .ref sl, .ref kl, .int 0, .int 0, .int 0]))]) [0] rfl
  have hDc := hD.sub (ws' := [(mm, .inr (10, [.int 0, .ref pl, .ref ig, .ref sl, .ref kl, .int 0, .int 0, .int 0]))]) [0] (by decide) rfl
  have hKc := hK.sub (tys' := []) [] rfl
  have hFc := va_free (wc := [(mm, .inr (10, [.int 0, .ref pl, .ref ig, .ref sl, .ref kl, .int 0, .int 0, .int 0]))]) hD hS hA [0] rfl
  refine va_calli (va_runV (As := [.int 1]) (rest := []) ⟨hx, hb, hml, hown, hts⟩ (c_X8_no l dC dI mm pl ig sl kl (1 : Int32) (0 : Int32) _ ) (cwV 1 hts gX8_many_X8_no rfl rfl rfl (by decide +kernel) ⟨Nat.le_of_ble_eq_true rfl, Nat.le_of_ble_eq_true rfl⟩) ⟨pr_blind, va_recv hKc hPc (ci := 10) (q0 := 0) rfl rfl, fun U hU hW => ⟨rfl, pr_mk hU hW hPc hKc hDc⟩⟩ rfl rfl hl.1 rfl (lv_room (Nat.le_of_ble_eq_true rfl)) dX8_many_17 ⟨Nat.le_of_ble_eq_true rfl, Nat.le_of_ble_eq_true rfl⟩) hS (fun q _ h => hFc q h) hFc (fun r_4 u_3 t H1 locs ht hvm hw hB hz1 hk1 hS => ?_)
  obtain ⟨hP1, hK1, hD1⟩ := hB
  rw [ht] at hP1
  obtain ⟨hP, hD⟩ := va_join (wr := [(pl, .inr (1, [.int 0, .ref dz, .int 0])), (sl, .inr (1, [.int 0, .ref dz, .int 0])), (kl, .inr (1, [.int 0, .ref dz, .int 0]))]) (w1 := [(mm, .inr (10, [.int 1, .ref pl, .ref ig, .ref sl, .ref kl, .int 0, .int 0, .int 0]))]) hP hD [0] [1, 2, 3] rfl rfl (by decide) (by decide) hk1 hFc hP1 hD1
  generalize H1 = H at hP hS ⊢
  have hP : va_P (dC, dI) vwCl [(pl, .inr (1, [.int 0, .ref dz, .int 0])), (sl, .inr (1, [.int 0, .ref dz, .int 0])), (kl, .inr (1, [.int 0, .ref dz, .int 0])), (mm, .inr (10, [.int 1, .ref pl, .ref ig, .ref sl, .ref kl, .int 0, .int 0, .int 0]))] H := hP
  have hD : va_D A [(pl, .inr (1, [.int 0, .ref dz, .int 0])), (sl, .inr (1, [.int 0, .ref dz, .int 0])), (kl, .inr (1, [.int 0, .ref dz, .int 0])), (mm, .inr (10, [.int 1, .ref pl, .ref ig, .ref sl, .ref kl, .int 0, .int 0, .int 0]))] := hD
  refine W.widen (k := 0) (n := 0) (Nat.le_refl _) (Nat.le_refl _) ?_
  have hw : r_4 = 0 := hw
  subst hw
  have hP9 := hP.sub (ws' := [(mm, .inr (10, [.int 1, .ref pl, .ref ig, .ref sl, .ref kl, .int 0, .int 0, .int 0]))]) [3] rfl
  have hD9 := hD.sub (ws' := [(mm, .inr (10, [.int 1, .ref pl, .ref ig, .ref sl, .ref kl, .int 0, .int 0, .int 0]))]) [3] (by decide) rfl
  have hK9 := hK.sub (tys' := []) [] rfl
  refine W.widen (k := 0) (n := 0) (Nat.le_of_ble_eq_true rfl) (Nat.le_of_ble_eq_true rfl) ?_
  exact W.iret (v := 0) hx hb hr (fun t ht hW => ⟨⟨0, (), rfl, rfl, po_mk ht hW hP9 hK9 hD9⟩, hS.F ht⟩) hS.2.2 dX8_many_20

set_option maxHeartbeats 4000000 in
set_option maxRecDepth 100000 in
theorem c_X8_many (l : Launch) (dC : Nat → ClassId) (dI : Nat → Nat → Nat) (mm : Nat) (pl : Nat) (ig : Nat) (sl : Nat) (kl : Nat) (dz : Nat) (a0 : Int32) (sz : Nat) (g0a : ¬ a0 < 0) (g0b : ¬ 9 < a0) : Met l yX8_many wsX8_many ({ frames := 6, cells := 4, slots := 20, locals := 160 }) (va_Pc [.ref mm, .int a0] (fun U => pr_ dC dI [(mm, .inr (10, [.int 0, .ref pl, .ref ig, .ref sl, .ref kl, .int 0, .int 0, .int 0])), (pl, .inr (1, [.int 0, .ref dz, .int 0])), (sl, .inr (1, [.int 0, .ref dz, .int 0])), (kl, .inr (1, [.int 0, .ref dz, .int 0]))] [] sz U ∧ mo_  U)) (va_Qi (fun (r : Int32) (_ : Unit) => r = 0) (fun (_ : Unit) t => po_ dC dI [(mm, .inr (10, [.int 0, .ref pl, .ref ig, .ref sl, .ref kl, .int 0, .int 0, .int 0]))] [] (va_A [(mm, .inr (10, [.int 0, .ref pl, .ref ig, .ref sl, .ref kl, .int 0, .int 0, .int 0])), (pl, .inr (1, [.int 0, .ref dz, .int 0])), (sl, .inr (1, [.int 0, .ref dz, .int 0])), (kl, .inr (1, [.int 0, .ref dz, .int 0]))] sz) t) (va_A [(mm, .inr (10, [.int 0, .ref pl, .ref ig, .ref sl, .ref kl, .int 0, .int 0, .int 0])), (pl, .inr (1, [.int 0, .ref dz, .int 0])), (sl, .inr (1, [.int 0, .ref dz, .int 0])), (kl, .inr (1, [.int 0, .ref dz, .int 0]))] sz)) 4 20 (va_A [(mm, .inr (10, [.int 0, .ref pl, .ref ig, .ref sl, .ref kl, .int 0, .int 0, .int 0])), (pl, .inr (1, [.int 0, .ref dz, .int 0])), (sl, .inr (1, [.int 0, .ref dz, .int 0])), (kl, .inr (1, [.int 0, .ref dz, .int 0]))] sz) := by
  refine Met.ofW (cc := cX8_many) (maxL := 2) (ret := (some .int)) (by decide) rfl ?_
  intro p e s m args below meth c s₁ B hml hv
  obtain ⟨rfl, ⟨hsz, hP, hK, hD0⟩, hXs⟩ := hv
  have hx := B.exec
  have hb := B.bytes
  have hr := B.returns
  have hts := atoms_spec (ws := wsX8_many) B.pre
  have hown : s.vm.findClass RX8 = some m.cls := findClass_of_methodNamed B.named
  have hlocks := B.notSynchronized
  subst hsz
  have hD := hD0.self (sz := s.heap.size)
  generalize hAe : va_A [(mm, .inr (10, [.int 0, .ref pl, .ref ig, .ref sl, .ref kl, .int 0, .int 0, .int 0])), (pl, .inr (1, [.int 0, .ref dz, .int 0])), (sl, .inr (1, [.int 0, .ref dz, .int 0])), (kl, .inr (1, [.int 0, .ref dz, .int 0]))] s.heap.size = A at hD ⊢
  have hA : ∀ q : Nat, s.heap.size ≤ q → A q := fun q h => by rw [← hAe]; exact Or.inr h
  have hS : va_S A s.heap s.heap [] := va_S.rf
  have hP : va_P (dC, dI) vwCl [(mm, .inr (10, [.int 0, .ref pl, .ref ig, .ref sl, .ref kl, .int 0, .int 0, .int 0])), (pl, .inr (1, [.int 0, .ref dz, .int 0])), (sl, .inr (1, [.int 0, .ref dz, .int 0])), (kl, .inr (1, [.int 0, .ref dz, .int 0]))] s.heap := hP
  have hK : va_K (dC, dI) vwCl [] s := hK
  have hl := lv_entry ([.ref mm, .int a0]) (n := 2) (Nat.le_of_ble_eq_true rfl)
  rw [lg_entry_eq]
  generalize (lg_sl ([.ref mm, .int a0]) ++ List.replicate (2 - (lg_sl ([.ref mm, .int a0])).length) Slot.unset).toArray = ls at hl ⊢
  have hl : lv_has ls 2 [(0, .ref mm), (1, .int a0)] := hl
  refine lv_aload_n hx hb dX8_many_0 rfl (lv_at hl 0 rfl) ?_
  refine lv_iconst (v := 0) hx hb dX8_many_1 (by decide) ?_
  have hinX8 : ∀ w ∈ u_ws RX8 TX8 8, w ∈ wsX8_many := by decide +kernel
  refine va_put (D := (dC, dI)) (ci := 10) (v := .int 0) (ty := .int) (C := RX8) (T := TX8) (N := 8) hx hb hts hinX8 tyX8 tyX8_ok nmX8 hown hK hP hD hS 0 rfl rfl 0 (by decide) (hts (.fieldLink RX8 26 "BallotLoomModel" "thrown" "I") (by decide +kernel)) (fun _ h9 => h9) rfl (by decide +kernel) rfl rfl (Nat.le_of_ble_eq_true rfl) dX8_many_2 (fun H locs hP hD hS => ?_)
  have hP : va_P (dC, dI) vwCl [(mm, .inr (10, [.int 0, .ref pl, .ref ig, .ref sl, .ref kl, .int 0, .int 0, .int 0])), (pl, .inr (1, [.int 0, .ref dz, .int 0])), (sl, .inr (1, [.int 0, .ref dz, .int 0])), (kl, .inr (1, [.int 0, .ref dz, .int 0]))] H := hP
  have hD : va_D A [(mm, .inr (10, [.int 0, .ref pl, .ref ig, .ref sl, .ref kl, .int 0, .int 0, .int 0])), (pl, .inr (1, [.int 0, .ref dz, .int 0])), (sl, .inr (1, [.int 0, .ref dz, .int 0])), (kl, .inr (1, [.int 0, .ref dz, .int 0]))] := hD
  refine lv_iload_n hx hb dX8_many_5 rfl (lv_at hl 1 rfl) ?_
  refine lv_iconst (v := 0) hx hb dX8_many_6 (by decide) ?_
  refine lv_bipush (v := 9) hx hb dX8_many_7 (by decide) ?_
  have hPc := hP.sub (ws' := []) [] rfl
  have hDc := hD.sub (ws' := []) [] (by decide) rfl
  have hKc := hK.sub (tys' := []) [] rfl
  have hFc := va_free (wc := []) hD hS hA [] rfl
  refine va_calli (va_runS (As := [.int a0, .int 0, .int 9]) (rest := []) ⟨hx, hb, hml, hown, hts⟩ (c_X8_in l dC dI a0 (0 : Int32) (9 : Int32) _ g0a g0b) (va_cwS 3 hts gX8_many_X8_in rfl rfl rfl (by decide +kernel) ⟨Nat.le_of_ble_eq_true rfl, Nat.le_of_ble_eq_true rfl⟩) ⟨pr_blind, fun U hU hW => ⟨rfl, pr_mk hU hW hPc hKc hDc⟩⟩ rfl rfl hl.1 rfl (lv_room (Nat.le_of_ble_eq_true rfl)) dX8_many_9 ⟨Nat.le_of_ble_eq_true rfl, Nat.le_of_ble_eq_true rfl⟩) hS (fun q _ h => hFc q h) hFc (fun r_2 u_1 t H1 locs ht hvm hw hB hz1 hk1 hS => ?_)
  obtain ⟨hP1, hK1, hD1⟩ := hB
  rw [ht] at hP1
  obtain ⟨hP, hD⟩ := va_join (wr := [(mm, .inr (10, [.int 0, .ref pl, .ref ig, .ref sl, .ref kl, .int 0, .int 0, .int 0])), (pl, .inr (1, [.int 0, .ref dz, .int 0])), (sl, .inr (1, [.int 0, .ref dz, .int 0])), (kl, .inr (1, [.int 0, .ref dz, .int 0]))]) (w1 := []) hP hD [] [0, 1, 2, 3] rfl rfl (by decide) (by decide) hk1 hFc hP1 hD1
  generalize H1 = H at hP hS ⊢
  have hP : va_P (dC, dI) vwCl [(mm, .inr (10, [.int 0, .ref pl, .ref ig, .ref sl, .ref kl, .int 0, .int 0, .int 0])), (pl, .inr (1, [.int 0, .ref dz, .int 0])), (sl, .inr (1, [.int 0, .ref dz, .int 0])), (kl, .inr (1, [.int 0, .ref dz, .int 0]))] H := hP
  have hD : va_D A [(mm, .inr (10, [.int 0, .ref pl, .ref ig, .ref sl, .ref kl, .int 0, .int 0, .int 0])), (pl, .inr (1, [.int 0, .ref dz, .int 0])), (sl, .inr (1, [.int 0, .ref dz, .int 0])), (kl, .inr (1, [.int 0, .ref dz, .int 0]))] := hD
  refine W.widen (k := 0) (n := 0) (Nat.le_refl _) (Nat.le_refl _) ?_
  have hw : r_2 = 1 := hw
  subst hw
  refine lv_if_ne (tgt := 21) hx hb dX8_many_12 (by decide) (fun _ => ?_) (fun h9 => absurd h9 (by decide))
  refine lv_aload_n hx hb dX8_many_21 rfl (lv_at hl 0 rfl) ?_
  refine lv_iload_n hx hb dX8_many_22 rfl (lv_at hl 1 rfl) ?_
  have hPc := hP.sub (ws' := [(mm, .inr (10, [.int 0, .ref pl, .ref ig, .ref sl, .ref kl, .int 0, .int 0, .int 0])), (pl, .inr (1, [.int 0, .ref dz, .int 0])), (sl, .inr (1, [.int 0, .ref dz, .int 0])), (kl, .inr (1, [.int 0, .ref dz, .int 0]))]) [0, 1, 2, 3] rfl
  have hDc := hD.sub (ws' := [(mm, .inr (10, [.int 0, .ref pl, .ref ig, .ref sl, .ref kl, .int 0, .int 0, .int 0])), (pl, .inr (1, [.int 0, .ref dz, .int 0])), (sl, .inr (1, [.int 0, .ref dz, .int 0])), (kl, .inr (1, [.int 0, .ref dz, .int 0]))]) [0, 1, 2, 3] (by decide) rfl
  have hKc := hK.sub (tys' := []) [] rfl
  have hFc := va_free (wc := [(mm, .inr (10, [.int 0, .ref pl, .ref ig, .ref sl, .ref kl, .int 0, .int 0, .int 0])), (pl, .inr (1, [.int 0, .ref dz, .int 0])), (sl, .inr (1, [.int 0, .ref dz, .int 0])), (kl, .inr (1, [.int 0, .ref dz, .int 0]))]) hD hS hA [0, 1, 2, 3] rfl
  refine va_calli (va_runV (As := [.int a0]) (rest := []) ⟨hx, hb, hml, hown, hts⟩ (c_X8_manyNow l dC dI mm pl ig sl kl dz a0 _ (in10 g0a g0b)) (cwV 1 hts gX8_many_X8_manyNow rfl rfl rfl (by decide +kernel) ⟨Nat.le_of_ble_eq_true rfl, Nat.le_of_ble_eq_true rfl⟩) ⟨pe_blind mo_bl, va_recv hKc hPc (ci := 10) (q0 := 0) rfl rfl, fun U hU hW => ⟨rfl, pr_mk hU hW hPc hKc hDc, mo_mk hW hXs⟩⟩ rfl rfl hl.1 rfl (lv_room (Nat.le_of_ble_eq_true rfl)) dX8_many_23 ⟨Nat.le_of_ble_eq_true rfl, Nat.le_of_ble_eq_true rfl⟩) hS (fun q _ h => hFc q h) hFc (fun r_4 u_3 t H1 locs ht hvm hw hB hz1 hk1 hS => ?_)
  obtain ⟨hP1, hK1, hD1⟩ := hB
  rw [ht] at hP1
  obtain ⟨hP, hD⟩ := va_join (wr := []) (w1 := [(mm, .inr (10, [.int 0, .ref pl, .ref ig, .ref sl, .ref kl, .int 0, .int 0, .int 0])), (pl, .inr (1, [.int 0, .ref dz, .int 0])), (sl, .inr (1, [.int 0, .ref dz, .int 0])), (kl, .inr (1, [.int 0, .ref dz, .int 0]))]) hP hD [0, 1, 2, 3] [] rfl rfl (by decide) (by decide) hk1 hFc hP1 hD1
  generalize H1 = H at hP hS ⊢
  have hP : va_P (dC, dI) vwCl [(mm, .inr (10, [.int 0, .ref pl, .ref ig, .ref sl, .ref kl, .int 0, .int 0, .int 0])), (pl, .inr (1, [.int 0, .ref dz, .int 0])), (sl, .inr (1, [.int 0, .ref dz, .int 0])), (kl, .inr (1, [.int 0, .ref dz, .int 0]))] H := hP
  have hD : va_D A [(mm, .inr (10, [.int 0, .ref pl, .ref ig, .ref sl, .ref kl, .int 0, .int 0, .int 0])), (pl, .inr (1, [.int 0, .ref dz, .int 0])), (sl, .inr (1, [.int 0, .ref dz, .int 0])), (kl, .inr (1, [.int 0, .ref dz, .int 0]))] := hD
  refine W.widen (k := 1) (n := 10) (Nat.le_of_ble_eq_true rfl) (Nat.le_of_ble_eq_true rfl) ?_
  have hw : r_4 = 0 := hw
  subst hw
  have hP9 := hP.sub (ws' := [(mm, .inr (10, [.int 0, .ref pl, .ref ig, .ref sl, .ref kl, .int 0, .int 0, .int 0]))]) [0] rfl
  have hD9 := hD.sub (ws' := [(mm, .inr (10, [.int 0, .ref pl, .ref ig, .ref sl, .ref kl, .int 0, .int 0, .int 0]))]) [0] (by decide) rfl
  have hK9 := hK.sub (tys' := []) [] rfl
  refine W.widen (k := 4) (n := 20) (Nat.le_of_ble_eq_true rfl) (Nat.le_of_ble_eq_true rfl) ?_
  exact W.iret (v := 0) hx hb hr (fun t ht hW => ⟨⟨0, (), rfl, rfl, po_mk ht hW hP9 hK9 hD9⟩, hS.F ht⟩) hS.2.2 dX8_many_26

set_option maxHeartbeats 4000000 in
set_option maxRecDepth 100000 in
theorem c_X8_knock (l : Launch) (dC : Nat → ClassId) (dI : Nat → Nat → Nat) (mm : Nat) (pl : Nat) (ig : Nat) (sl : Nat) (kl : Nat) (sz : Nat)  : Met l yX8_knock wsX8_knock ({ frames := 2, cells := 0, slots := 0, locals := 40 }) (va_Pc [.ref mm] (pr_ dC dI [(mm, .inr (10, [.int 0, .ref pl, .ref ig, .ref sl, .ref kl, .int 0, .int 0, .int 0]))] [] sz)) (va_Qi (fun (r : Int32) (_ : Unit) => r = 1) (fun (_ : Unit) t => po_ dC dI [(mm, .inr (10, [.int 0, .ref pl, .ref ig, .ref sl, .ref kl, .int 0, .int 0, .int 1]))] [] (va_A [(mm, .inr (10, [.int 0, .ref pl, .ref ig, .ref sl, .ref kl, .int 0, .int 0, .int 0]))] sz) t) (va_A [(mm, .inr (10, [.int 0, .ref pl, .ref ig, .ref sl, .ref kl, .int 0, .int 0, .int 0]))] sz)) 0 0 (va_A [(mm, .inr (10, [.int 0, .ref pl, .ref ig, .ref sl, .ref kl, .int 0, .int 0, .int 0]))] sz) := by
  refine Met.ofW (cc := cX8_knock) (maxL := 1) (ret := (some .int)) (by decide) rfl ?_
  intro p e s m args below meth c s₁ B hml hv
  obtain ⟨rfl, hsz, hP, hK, hD0⟩ := hv
  have hx := B.exec
  have hb := B.bytes
  have hr := B.returns
  have hts := atoms_spec (ws := wsX8_knock) B.pre
  have hown : s.vm.findClass RX8 = some m.cls := findClass_of_methodNamed B.named
  have hlocks := B.notSynchronized
  subst hsz
  have hD := hD0.self (sz := s.heap.size)
  generalize hAe : va_A [(mm, .inr (10, [.int 0, .ref pl, .ref ig, .ref sl, .ref kl, .int 0, .int 0, .int 0]))] s.heap.size = A at hD ⊢
  have hA : ∀ q : Nat, s.heap.size ≤ q → A q := fun q h => by rw [← hAe]; exact Or.inr h
  have hS : va_S A s.heap s.heap [] := va_S.rf
  have hP : va_P (dC, dI) vwCl [(mm, .inr (10, [.int 0, .ref pl, .ref ig, .ref sl, .ref kl, .int 0, .int 0, .int 0]))] s.heap := hP
  have hK : va_K (dC, dI) vwCl [] s := hK
  have hl := lv_entry ([.ref mm]) (n := 1) (Nat.le_of_ble_eq_true rfl)
  rw [lg_entry_eq]
  generalize (lg_sl ([.ref mm]) ++ List.replicate (1 - (lg_sl ([.ref mm])).length) Slot.unset).toArray = ls at hl ⊢
  have hl : lv_has ls 1 [(0, .ref mm)] := hl
  refine lv_aload_n hx hb dX8_knock_0 rfl (lv_at hl 0 rfl) ?_
  refine lv_iconst (v := 0) hx hb dX8_knock_1 (by decide) ?_
  have hinX8 : ∀ w ∈ u_ws RX8 TX8 8, w ∈ wsX8_knock := by decide +kernel
  refine va_put (D := (dC, dI)) (ci := 10) (v := .int 0) (ty := .int) (C := RX8) (T := TX8) (N := 8) hx hb hts hinX8 tyX8 tyX8_ok nmX8 hown hK hP hD hS 0 rfl rfl 0 (by decide) (hts (.fieldLink RX8 26 "BallotLoomModel" "thrown" "I") (by decide +kernel)) (fun _ h9 => h9) rfl (by decide +kernel) rfl rfl (Nat.le_of_ble_eq_true rfl) dX8_knock_2 (fun H locs hP hD hS => ?_)
  have hP : va_P (dC, dI) vwCl [(mm, .inr (10, [.int 0, .ref pl, .ref ig, .ref sl, .ref kl, .int 0, .int 0, .int 0]))] H := hP
  have hD : va_D A [(mm, .inr (10, [.int 0, .ref pl, .ref ig, .ref sl, .ref kl, .int 0, .int 0, .int 0]))] := hD
  refine lv_aload_n hx hb dX8_knock_5 rfl (lv_at hl 0 rfl) ?_
  refine lv_dup hx hb dX8_knock_6 rfl ?_
  refine va_get (D := (dC, dI)) (ci := 10) (v := .int 0) (C := RX8) (T := TX8) (N := 8) hx hb hts hinX8 hown hK hP 0 rfl rfl 7 (by decide) (hts (.fieldLink RX8 110 "BallotLoomModel" "refused" "I") (by decide +kernel)) (fun _ h9 => h9) rfl dX8_knock_7 ?_
  refine lv_iconst (v := 1) hx hb dX8_knock_10 (by decide) ?_
  refine lv_iadd hx hb dX8_knock_11 ?_
  refine lv_topi (fun y_1 ey_1 => ?_)
  obtain rfl : y_1 = 1 := ey_1.trans (by decide)
  refine va_put (D := (dC, dI)) (ci := 10) (v := .int 1) (ty := .int) (C := RX8) (T := TX8) (N := 8) hx hb hts hinX8 tyX8 tyX8_ok nmX8 hown hK hP hD hS 0 rfl rfl 7 (by decide) (hts (.fieldLink RX8 110 "BallotLoomModel" "refused" "I") (by decide +kernel)) (fun _ h9 => h9) rfl (by decide +kernel) rfl rfl (Nat.le_of_ble_eq_true rfl) dX8_knock_12 (fun H locs hP hD hS => ?_)
  have hP : va_P (dC, dI) vwCl [(mm, .inr (10, [.int 0, .ref pl, .ref ig, .ref sl, .ref kl, .int 0, .int 0, .int 1]))] H := hP
  have hD : va_D A [(mm, .inr (10, [.int 0, .ref pl, .ref ig, .ref sl, .ref kl, .int 0, .int 0, .int 1]))] := hD
  refine lv_aload_n hx hb dX8_knock_15 rfl (lv_at hl 0 rfl) ?_
  refine va_get (D := (dC, dI)) (ci := 10) (v := .int 1) (C := RX8) (T := TX8) (N := 8) hx hb hts hinX8 hown hK hP 0 rfl rfl 7 (by decide) (hts (.fieldLink RX8 110 "BallotLoomModel" "refused" "I") (by decide +kernel)) (fun _ h9 => h9) rfl dX8_knock_16 ?_
  have hP9 := hP.sub (ws' := [(mm, .inr (10, [.int 0, .ref pl, .ref ig, .ref sl, .ref kl, .int 0, .int 0, .int 1]))]) [0] rfl
  have hD9 := hD.sub (ws' := [(mm, .inr (10, [.int 0, .ref pl, .ref ig, .ref sl, .ref kl, .int 0, .int 0, .int 1]))]) [0] (by decide) rfl
  have hK9 := hK.sub (tys' := []) [] rfl
  refine W.widen (k := 0) (n := 0) (Nat.le_of_ble_eq_true rfl) (Nat.le_of_ble_eq_true rfl) ?_
  exact W.iret (v := 1) hx hb hr (fun t ht hW => ⟨⟨1, (), rfl, rfl, po_mk ht hW hP9 hK9 hD9⟩, hS.F ht⟩) hS.2.2 dX8_knock_19

set_option maxHeartbeats 4000000 in
set_option maxRecDepth 100000 in
theorem c_X8_seal (l : Launch) (dC : Nat → ClassId) (dI : Nat → Nat → Nat) (mm : Nat) (pl : Nat) (ig : Nat) (sl : Nat) (kl : Nat) (a0 : Int32) (sz : Nat) (hs : a0 = 0 ∨ a0 = 1) : Met l yX8_seal wsX8_seal ({ frames := 2, cells := 0, slots := 0, locals := 40 }) (va_Pc [.ref mm, .int a0] (pr_ dC dI [(mm, .inr (10, [.int 0, .ref pl, .ref ig, .ref sl, .ref kl, .int 0, .int 0, .int 0]))] [] sz)) (va_Qi (fun (r : Int32) (_ : Unit) => r = 0) (fun (_ : Unit) t => po_ dC dI [] [] (va_A [(mm, .inr (10, [.int 0, .ref pl, .ref ig, .ref sl, .ref kl, .int 0, .int 0, .int 0]))] sz) t) (va_A [(mm, .inr (10, [.int 0, .ref pl, .ref ig, .ref sl, .ref kl, .int 0, .int 0, .int 0]))] sz)) 0 0 (va_A [(mm, .inr (10, [.int 0, .ref pl, .ref ig, .ref sl, .ref kl, .int 0, .int 0, .int 0]))] sz) := by
  have hcs : a0 = 0 ∨ a0 = 1 := hs
  rcases hcs with rfl | rfl
  · refine Met.ofW (cc := cX8_seal) (maxL := 3) (ret := (some .boolean)) (by decide) rfl ?_
    intro p e s m args below meth c s₁ B hml hv
    obtain ⟨rfl, hsz, hP, hK, hD0⟩ := hv
    have hx := B.exec
    have hb := B.bytes
    have hr := B.returns
    have hts := atoms_spec (ws := wsX8_seal) B.pre
    have hown : s.vm.findClass RX8 = some m.cls := findClass_of_methodNamed B.named
    have hlocks := B.notSynchronized
    subst hsz
    have hD := hD0.self (sz := s.heap.size)
    generalize hAe : va_A [(mm, .inr (10, [.int 0, .ref pl, .ref ig, .ref sl, .ref kl, .int 0, .int 0, .int 0]))] s.heap.size = A at hD ⊢
    have hA : ∀ q : Nat, s.heap.size ≤ q → A q := fun q h => by rw [← hAe]; exact Or.inr h
    have hS : va_S A s.heap s.heap [] := va_S.rf
    have hP : va_P (dC, dI) vwCl [(mm, .inr (10, [.int 0, .ref pl, .ref ig, .ref sl, .ref kl, .int 0, .int 0, .int 0]))] s.heap := hP
    have hK : va_K (dC, dI) vwCl [] s := hK
    have hl := lv_entry ([.ref mm, .int 0]) (n := 3) (Nat.le_of_ble_eq_true rfl)
    rw [lg_entry_eq]
    generalize (lg_sl ([.ref mm, .int 0]) ++ List.replicate (3 - (lg_sl ([.ref mm, .int 0])).length) Slot.unset).toArray = ls at hl ⊢
    have hl : lv_has ls 3 [(0, .ref mm), (1, .int 0)] := hl
    refine lv_aload_n hx hb dX8_seal_0 rfl (lv_at hl 0 rfl) ?_
    refine lv_iconst (v := 0) hx hb dX8_seal_1 (by decide) ?_
    have hinX8 : ∀ w ∈ u_ws RX8 TX8 8, w ∈ wsX8_seal := by decide +kernel
    refine va_put (D := (dC, dI)) (ci := 10) (v := .int 0) (ty := .int) (C := RX8) (T := TX8) (N := 8) hx hb hts hinX8 tyX8 tyX8_ok nmX8 hown hK hP hD hS 0 rfl rfl 0 (by decide) (hts (.fieldLink RX8 26 "BallotLoomModel" "thrown" "I") (by decide +kernel)) (fun _ h9 => h9) rfl (by decide +kernel) rfl rfl (Nat.le_of_ble_eq_true rfl) dX8_seal_2 (fun H locs hP hD hS => ?_)
    have hP : va_P (dC, dI) vwCl [(mm, .inr (10, [.int 0, .ref pl, .ref ig, .ref sl, .ref kl, .int 0, .int 0, .int 0]))] H := hP
    have hD : va_D A [(mm, .inr (10, [.int 0, .ref pl, .ref ig, .ref sl, .ref kl, .int 0, .int 0, .int 0]))] := hD
    refine lv_aload_n hx hb dX8_seal_5 rfl (lv_at hl 0 rfl) ?_
    refine va_get (D := (dC, dI)) (ci := 10) (v := .int 0) (C := RX8) (T := TX8) (N := 8) hx hb hts hinX8 hown hK hP 0 rfl rfl 6 (by decide) (hts (.fieldLink RX8 78 "BallotLoomModel" "isSealed" "Z") (by decide +kernel)) (fun _ h9 => h9) rfl dX8_seal_6 ?_
    refine lv_istore_n (lv' := [(2, .int 0), (0, .ref mm), (1, .int 0)]) hx hb dX8_seal_9 rfl hl (by decide) rfl (fun ls hl => ?_)
    refine lv_aload_n hx hb dX8_seal_10 rfl (lv_at hl 1 rfl) ?_
    refine lv_iload_n hx hb dX8_seal_11 rfl (lv_at hl 2 rfl) ?_
    refine va_put (D := (dC, dI)) (ci := 10) (v := .int 0) (ty := .boolean) (C := RX8) (T := TX8) (N := 8) hx hb hts hinX8 tyX8 tyX8_ok nmX8 hown hK hP hD hS 0 rfl rfl 6 (by decide) (hts (.fieldLink RX8 78 "BallotLoomModel" "isSealed" "Z") (by decide +kernel)) (fun _ h9 => h9) rfl (by decide +kernel) rfl rfl (Nat.le_of_ble_eq_true rfl) dX8_seal_12 (fun H locs hP hD hS => ?_)
    have hP : va_P (dC, dI) vwCl [(mm, .inr (10, [.int 0, .ref pl, .ref ig, .ref sl, .ref kl, .int 0, .int 0, .int 0]))] H := hP
    have hD : va_D A [(mm, .inr (10, [.int 0, .ref pl, .ref ig, .ref sl, .ref kl, .int 0, .int 0, .int 0]))] := hD
    refine lv_iload_n hx hb dX8_seal_15 rfl (lv_at hl 0 rfl) ?_
    have hP9 := hP.sub (ws' := []) [] rfl
    have hD9 := hD.sub (ws' := []) [] (by decide) rfl
    have hK9 := hK.sub (tys' := []) [] rfl
    refine W.widen (k := 0) (n := 0) (Nat.le_of_ble_eq_true rfl) (Nat.le_of_ble_eq_true rfl) ?_
    exact W.zret (v := 0) hx hb hr rfl (fun t ht hW => ⟨⟨0, (), rfl, rfl, po_mk ht hW hP9 hK9 hD9⟩, hS.F ht⟩) hS.2.2 dX8_seal_16
  · refine Met.ofW (cc := cX8_seal) (maxL := 3) (ret := (some .boolean)) (by decide) rfl ?_
    intro p e s m args below meth c s₁ B hml hv
    obtain ⟨rfl, hsz, hP, hK, hD0⟩ := hv
    have hx := B.exec
    have hb := B.bytes
    have hr := B.returns
    have hts := atoms_spec (ws := wsX8_seal) B.pre
    have hown : s.vm.findClass RX8 = some m.cls := findClass_of_methodNamed B.named
    have hlocks := B.notSynchronized
    subst hsz
    have hD := hD0.self (sz := s.heap.size)
    generalize hAe : va_A [(mm, .inr (10, [.int 0, .ref pl, .ref ig, .ref sl, .ref kl, .int 0, .int 0, .int 0]))] s.heap.size = A at hD ⊢
    have hA : ∀ q : Nat, s.heap.size ≤ q → A q := fun q h => by rw [← hAe]; exact Or.inr h
    have hS : va_S A s.heap s.heap [] := va_S.rf
    have hP : va_P (dC, dI) vwCl [(mm, .inr (10, [.int 0, .ref pl, .ref ig, .ref sl, .ref kl, .int 0, .int 0, .int 0]))] s.heap := hP
    have hK : va_K (dC, dI) vwCl [] s := hK
    have hl := lv_entry ([.ref mm, .int 1]) (n := 3) (Nat.le_of_ble_eq_true rfl)
    rw [lg_entry_eq]
    generalize (lg_sl ([.ref mm, .int 1]) ++ List.replicate (3 - (lg_sl ([.ref mm, .int 1])).length) Slot.unset).toArray = ls at hl ⊢
    have hl : lv_has ls 3 [(0, .ref mm), (1, .int 1)] := hl
    refine lv_aload_n hx hb dX8_seal_0 rfl (lv_at hl 0 rfl) ?_
    refine lv_iconst (v := 0) hx hb dX8_seal_1 (by decide) ?_
    have hinX8 : ∀ w ∈ u_ws RX8 TX8 8, w ∈ wsX8_seal := by decide +kernel
    refine va_put (D := (dC, dI)) (ci := 10) (v := .int 0) (ty := .int) (C := RX8) (T := TX8) (N := 8) hx hb hts hinX8 tyX8 tyX8_ok nmX8 hown hK hP hD hS 0 rfl rfl 0 (by decide) (hts (.fieldLink RX8 26 "BallotLoomModel" "thrown" "I") (by decide +kernel)) (fun _ h9 => h9) rfl (by decide +kernel) rfl rfl (Nat.le_of_ble_eq_true rfl) dX8_seal_2 (fun H locs hP hD hS => ?_)
    have hP : va_P (dC, dI) vwCl [(mm, .inr (10, [.int 0, .ref pl, .ref ig, .ref sl, .ref kl, .int 0, .int 0, .int 0]))] H := hP
    have hD : va_D A [(mm, .inr (10, [.int 0, .ref pl, .ref ig, .ref sl, .ref kl, .int 0, .int 0, .int 0]))] := hD
    refine lv_aload_n hx hb dX8_seal_5 rfl (lv_at hl 0 rfl) ?_
    refine va_get (D := (dC, dI)) (ci := 10) (v := .int 0) (C := RX8) (T := TX8) (N := 8) hx hb hts hinX8 hown hK hP 0 rfl rfl 6 (by decide) (hts (.fieldLink RX8 78 "BallotLoomModel" "isSealed" "Z") (by decide +kernel)) (fun _ h9 => h9) rfl dX8_seal_6 ?_
    refine lv_istore_n (lv' := [(2, .int 0), (0, .ref mm), (1, .int 1)]) hx hb dX8_seal_9 rfl hl (by decide) rfl (fun ls hl => ?_)
    refine lv_aload_n hx hb dX8_seal_10 rfl (lv_at hl 1 rfl) ?_
    refine lv_iload_n hx hb dX8_seal_11 rfl (lv_at hl 2 rfl) ?_
    refine va_put (D := (dC, dI)) (ci := 10) (v := .int 1) (ty := .boolean) (C := RX8) (T := TX8) (N := 8) hx hb hts hinX8 tyX8 tyX8_ok nmX8 hown hK hP hD hS 0 rfl rfl 6 (by decide) (hts (.fieldLink RX8 78 "BallotLoomModel" "isSealed" "Z") (by decide +kernel)) (fun _ h9 => h9) rfl (by decide +kernel) rfl rfl (Nat.le_of_ble_eq_true rfl) dX8_seal_12 (fun H locs hP hD hS => ?_)
    have hP : va_P (dC, dI) vwCl [(mm, .inr (10, [.int 0, .ref pl, .ref ig, .ref sl, .ref kl, .int 0, .int 1, .int 0]))] H := hP
    have hD : va_D A [(mm, .inr (10, [.int 0, .ref pl, .ref ig, .ref sl, .ref kl, .int 0, .int 1, .int 0]))] := hD
    refine lv_iload_n hx hb dX8_seal_15 rfl (lv_at hl 0 rfl) ?_
    have hP9 := hP.sub (ws' := []) [] rfl
    have hD9 := hD.sub (ws' := []) [] (by decide) rfl
    have hK9 := hK.sub (tys' := []) [] rfl
    refine W.widen (k := 0) (n := 0) (Nat.le_of_ble_eq_true rfl) (Nat.le_of_ble_eq_true rfl) ?_
    exact W.zret (v := 0) hx hb hr rfl (fun t ht hW => ⟨⟨0, (), rfl, rfl, po_mk ht hW hP9 hK9 hD9⟩, hS.F ht⟩) hS.2.2 dX8_seal_16
