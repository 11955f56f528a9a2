/-! p1: the JDK's lists and boxes. -/
def em_ (A : Nat → Prop) (dz : Nat) (U : State) : Prop := va_Z "java/util/ArrayList" "DEFAULTCAPACITY_EMPTY_ELEMENTDATA" "[Ljava/lang/Object;" (.ref dz) A U U.heap
theorem em_bl {A : Nat → Prop} {dz : Nat} (U : State) (g : JFrame) (mk : MethodId) (a : Array Value) (h : em_ A dz U) : em_ A dz (U.calling g mk a) := va_Z.moved (u := U) (U := U.calling g mk a) (Vm.Alike.refl U.vm) h
theorem em_mk {A A1 : Nat → Prop} {dz : Nat} {s U : State} {H : Heap} {locs : List Loc} (hU : U.heap = H) (hW : s.WarmedH U.vm) (hS : va_S A s.heap H locs) (hF : ∀ q, A1 q → A q) (h : em_ A dz s) : em_ A1 dz U := by
  unfold em_
  rw [hU]
  exact va_Z.moved hW.alike ((va_Z.kept h hS.2.1).narrow hF)
def ca_ (A : Nat → Prop) (dz tc : Nat) (ad : Nat → Nat) (U : State) : Prop := mo_ U ∧ va_Fw RJx4a65c ⟨"java/util/List", "add", "(Ljava/lang/Object;)Z"⟩ yJx4a65c_add_9ea2d U ∧ va_AO "java/lang/Object" U ∧ em_ A dz U ∧ va_T (.object "java/lang/Object") dz 0 (fun _ => .null) A U U.heap ∧ va_Z "java/lang/Integer$IntegerCache" "high" "I" (.int 127) A U U.heap ∧ va_Z "java/lang/Integer$IntegerCache" "cache" "[Ljava/lang/Integer;" (.ref tc) A U U.heap ∧ va_T (.object "java/lang/Integer") tc 256 (fun j => .ref (ad j)) A U U.heap ∧ vb_C ad A U U.heap ∧ va_Nw (.castable "java/lang/Integer" "java/lang/Object") U
section CA
variable {A : Nat → Prop} {dz tc : Nat} {ad : Nat → Nat} {U : State}
theorem ca_f (h : ca_ A dz tc ad U) : va_Fw RJx4a65c ⟨"java/util/List", "add", "(Ljava/lang/Object;)Z"⟩ yJx4a65c_add_9ea2d U := h.2.1
theorem ca_o (h : ca_ A dz tc ad U) : va_AO "java/lang/Object" U := h.2.2.1
theorem ca_em (h : ca_ A dz tc ad U) : em_ A dz U := h.2.2.2.1
theorem ca_z (h : ca_ A dz tc ad U) : va_Z "java/util/ArrayList" "DEFAULTCAPACITY_EMPTY_ELEMENTDATA" "[Ljava/lang/Object;" (.ref dz) A U U.heap := h.2.2.2.1
theorem ca_t (h : ca_ A dz tc ad U) : va_T (.object "java/lang/Object") dz 0 (fun _ => .null) A U U.heap := h.2.2.2.2.1
theorem ca_h (h : ca_ A dz tc ad U) : va_Z "java/lang/Integer$IntegerCache" "high" "I" (.int 127) A U U.heap := h.2.2.2.2.2.1
theorem ca_c (h : ca_ A dz tc ad U) : va_Z "java/lang/Integer$IntegerCache" "cache" "[Ljava/lang/Integer;" (.ref tc) A U U.heap := h.2.2.2.2.2.2.1
theorem ca_ct (h : ca_ A dz tc ad U) : va_T (.object "java/lang/Integer") tc 256 (fun j => .ref (ad j)) A U U.heap := h.2.2.2.2.2.2.2.1
theorem ca_C (h : ca_ A dz tc ad U) : vb_C ad A U U.heap := h.2.2.2.2.2.2.2.2.1
theorem ca_k (h : ca_ A dz tc ad U) : va_Nw (.castable "java/lang/Integer" "java/lang/Object") U := h.2.2.2.2.2.2.2.2.2
theorem ca_in {H : Heap} {locs : List Loc} {ve : Nat} (h : ca_ A dz tc ad U) (hS : va_S A U.heap H locs) (hv : ∃ k, k < 256 ∧ ad k = ve) : ∃ cellV : Cell, H[ve]? = some cellV ∧ cellV.vm.isStatics = false ∧ U.vm.findClass "java/lang/Integer" = some cellV.cls := by
  obtain ⟨k, hk, rfl⟩ := hv
  obtain ⟨cell, h1, h2, h3, -⟩ := va_O.kept ((ca_C h).1 k hk) hS.2.1
  exact ⟨cell, h1, h2, h3⟩
theorem ca_bl (U : State) (g : JFrame) (mk : MethodId) (a : Array Value) (h : ca_ A dz tc ad U) : ca_ A dz tc ad (U.calling g mk a) :=
  ⟨mo_bl U g mk a h.1, va_Fw.moved (by decide +kernel) (u := U) (U := U.calling g mk a) (Vm.Alike.refl U.vm) (ca_f h), va_AO.moved (u := U) (U := U.calling g mk a) (Vm.Alike.refl U.vm) (ca_o h), em_bl U g mk a (ca_em h), va_T.moved (u := U) (U := U.calling g mk a) (Vm.Alike.refl U.vm) (ca_t h), va_Z.moved (u := U) (U := U.calling g mk a) (Vm.Alike.refl U.vm) (ca_h h), va_Z.moved (u := U) (U := U.calling g mk a) (Vm.Alike.refl U.vm) (ca_c h), va_T.moved (u := U) (U := U.calling g mk a) (Vm.Alike.refl U.vm) (ca_ct h), vb_C.moved (u := U) (U := U.calling g mk a) (Vm.Alike.refl U.vm) (ca_C h), va_Nw.same (u := U) (U := U.calling g mk a) rfl rfl (ca_k h)⟩
theorem ca_mk {A1 : Nat → Prop} {s : State} {H : Heap} {locs : List Loc} (hU : U.heap = H) (hW : s.WarmedH U.vm) (hS : va_S A s.heap H locs) (hF : ∀ q, A1 q → A q) (h : ca_ A dz tc ad s) : ca_ A1 dz tc ad U := by
  refine ⟨mo_mk hW h.1, va_Fw.moved (by decide +kernel) hW.alike (ca_f h), va_AO.moved hW.alike (ca_o h), em_mk hU hW hS hF (ca_em h), ?_, ?_, ?_, ?_, ?_, va_Nw.warmC hW (ca_k h)⟩
  · rw [hU]; exact va_T.moved hW.alike ((va_T.kept (ca_t h) hS.2.1).narrow hF)
  · rw [hU]; exact va_Z.moved hW.alike ((va_Z.kept (ca_h h) hS.2.1).narrow hF)
  · rw [hU]; exact va_Z.moved hW.alike ((va_Z.kept (ca_c h) hS.2.1).narrow hF)
  · rw [hU]; exact va_T.moved hW.alike ((va_T.kept (ca_ct h) hS.2.1).narrow hF)
  · rw [hU]; exact vb_C.moved hW.alike ((vb_C.kept (ca_C h) hS.2.1).narrow hF)
end CA
set_option maxHeartbeats 4000000 in
set_option maxRecDepth 100000 in
theorem c_Jxa1e45_init_da8c8 (l : Launch) (dC : Nat → ClassId) (dI : Nat → Nat → Nat) (li : Nat) (sz : Nat)  : Met l yJxa1e45_init_da8c8 wsJxa1e45_init_da8c8 ({ frames := 2, cells := 0, slots := 0, locals := 40 }) (va_Pc [.ref li] (pr_ dC dI [] [] sz)) (va_Qv (fun (_ : Unit) => True) (fun (_ : Unit) t => po_ dC dI [] [] (va_A [] sz) t) (va_A [] sz)) 0 0 (va_A [] sz) := by
  refine Met.ofW (cc := cJxa1e45_init_da8c8) (maxL := 1) (ret := none) (by decide) rfl ?_
  intro p e s m args below meth c s₁ B hml hv
  obtain ⟨rfl, hsz, hP, hK, hD0⟩ := hv
  have hx := B.exec
  have hb := B.bytes
  have hr := B.returns
  have hts := atoms_spec (ws := wsJxa1e45_init_da8c8) B.pre
  have hown : s.vm.findClass RJxa1e45 = some m.cls := findClass_of_methodNamed B.named
  have hlocks := B.notSynchronized
  have hin : meth.name = "<init>" := (name_of_methodNamed B.named B.method).1
  subst hsz
  have hD := hD0.self (sz := s.heap.size)
  generalize hAe : va_A [] s.heap.size = A at hD ⊢
  have hA : ∀ q : Nat, s.heap.size ≤ q → A q := fun q h => by rw [← hAe]; exact Or.inr h
  have hS : va_S A s.heap s.heap [] := va_S.rf
  have hP : va_P (dC, dI) vwCl [] s.heap := hP
  have hK : va_K (dC, dI) vwCl [] s := hK
  have hl := lv_entry ([.ref li]) (n := 1) (Nat.le_of_ble_eq_true rfl)
  rw [lg_entry_eq]
  generalize (lg_sl ([.ref li]) ++ List.replicate (1 - (lg_sl ([.ref li])).length) Slot.unset).toArray = ls at hl ⊢
  have hl : lv_has ls 1 [(0, .ref li)] := hl
  refine lv_aload_n hx hb dJxa1e45_init_da8c8_0 rfl (lv_at hl 0 rfl) ?_
  refine W.objInit hx hb hown (hts (.methodLink RJxa1e45 1 objectInit) (by decide +kernel)) (hts (.instanceMethod objectInit) (by decide +kernel)) (hts (.code objectInit ⟨#[0xb1]⟩ 1 none) (by decide +kernel)) rfl (by rw [hml]; exact hl.1) rfl dJxa1e45_init_da8c8_1 (Nat.le_of_ble_eq_true rfl) (Nat.le_of_ble_eq_true rfl) ?_
  refine W.eq (g2 := F0 m 4 ls []) rfl ?_
  have hP9 := hP.sub (ws' := []) [] rfl
  have hD9 := hD.sub (ws' := []) [] (by decide) rfl
  have hK9 := hK.sub (tys' := []) [] rfl
  refine W.widen (k := 0) (n := 0) (Nat.le_of_ble_eq_true rfl) (Nat.le_of_ble_eq_true rfl) ?_
  exact W.vret hx hb hr (fun t ht hW => ⟨⟨(), rfl, trivial, po_mk ht hW hP9 hK9 hD9⟩, hS.F ht⟩) hS.2.2 dJxa1e45_init_da8c8_4

set_option maxHeartbeats 4000000 in
set_option maxRecDepth 100000 in
theorem c_Jxc12de_init_da8c8 (l : Launch) (dC : Nat → ClassId) (dI : Nat → Nat → Nat) (li : Nat) (sz : Nat)  : Met l yJxc12de_init_da8c8 wsJxc12de_init_da8c8 ({ frames := 3, cells := 0, slots := 0, locals := 70 }) (va_Pc [.ref li] (pr_ dC dI [(li, .inr (1, [.int 0, .null, .int 0]))] [] sz)) (va_Qv (fun (_ : Unit) => True) (fun (_ : Unit) t => po_ dC dI [(li, .inr (1, [.int 0, .null, .int 0]))] [] (va_A [(li, .inr (1, [.int 0, .null, .int 0]))] sz) t) (va_A [(li, .inr (1, [.int 0, .null, .int 0]))] sz)) 0 0 (va_A [(li, .inr (1, [.int 0, .null, .int 0]))] sz) := by
  refine Met.ofW (cc := cJxc12de_init_da8c8) (maxL := 1) (ret := none) (by decide) rfl ?_
  intro p e s m args below meth c s₁ B hml hv
  obtain ⟨rfl, hsz, hP, hK, hD0⟩ := hv
  have hx := B.exec
  have hb := B.bytes
  have hr := B.returns
  have hts := atoms_spec (ws := wsJxc12de_init_da8c8) B.pre
  have hown : s.vm.findClass RJxc12de = some m.cls := findClass_of_methodNamed B.named
  have hlocks := B.notSynchronized
  have hin : meth.name = "<init>" := (name_of_methodNamed B.named B.method).1
  subst hsz
  have hD := hD0.self (sz := s.heap.size)
  generalize hAe : va_A [(li, .inr (1, [.int 0, .null, .int 0]))] s.heap.size = A at hD ⊢
  have hA : ∀ q : Nat, s.heap.size ≤ q → A q := fun q h => by rw [← hAe]; exact Or.inr h
  have hS : va_S A s.heap s.heap [] := va_S.rf
  have hP : va_P (dC, dI) vwCl [(li, .inr (1, [.int 0, .null, .int 0]))] s.heap := hP
  have hK : va_K (dC, dI) vwCl [] s := hK
  have hl := lv_entry ([.ref li]) (n := 1) (Nat.le_of_ble_eq_true rfl)
  rw [lg_entry_eq]
  generalize (lg_sl ([.ref li]) ++ List.replicate (1 - (lg_sl ([.ref li])).length) Slot.unset).toArray = ls at hl ⊢
  have hl : lv_has ls 1 [(0, .ref li)] := hl
  refine lv_aload_n hx hb dJxc12de_init_da8c8_0 rfl (lv_at hl 0 rfl) ?_
  have hPc := hP.sub (ws' := []) [] rfl
  have hDc := hD.sub (ws' := []) [] (by decide) rfl
  have hKc := hK.sub (tys' := []) [] rfl
  have hFc := va_free (wc := []) hD hS hA [] rfl
  refine va_callv (va_runI (As := []) (rest := []) ⟨hx, hb, hml, hown, hts⟩ (c_Jxa1e45_init_da8c8 l dC dI li _ ) (cwI 0 hts gJxc12de_init_da8c8_Jxa1e45_init_da8c8 rfl rfl rfl (hts (.initialized RJxa1e45) (by decide +kernel)) (hts (.methodLink RJxc12de 1 yJxa1e45_init_da8c8) (by decide +kernel)) (hts (.instanceMethod yJxa1e45_init_da8c8) (by decide +kernel)) rfl (by decide +kernel) ⟨Nat.le_of_ble_eq_true rfl, Nat.le_of_ble_eq_true rfl⟩) ⟨pr_blind, fun U hU hW => ⟨rfl, pr_mk hU hW hPc hKc hDc⟩⟩ rfl rfl hl.1 rfl (lv_room (Nat.le_of_ble_eq_true rfl)) dJxc12de_init_da8c8_1 ⟨Nat.le_of_ble_eq_true rfl, Nat.le_of_ble_eq_true rfl⟩) hS (fun q _ h => hFc q h) hFc (fun u_1 t H1 locs ht hvm hw hB hz1 hk1 hS => ?_)
  obtain ⟨hP1, hK1, hD1⟩ := hB
  rw [ht] at hP1
  obtain ⟨hP, hD⟩ := va_join (wr := [(li, .inr (1, [.int 0, .null, .int 0]))]) (w1 := []) hP hD [] [0] rfl rfl (by decide) (by decide) hk1 hFc hP1 hD1
  generalize H1 = H at hP hS ⊢
  have hP : va_P (dC, dI) vwCl [(li, .inr (1, [.int 0, .null, .int 0]))] H := hP
  have hD : va_D A [(li, .inr (1, [.int 0, .null, .int 0]))] := hD
  refine W.widen (k := 0) (n := 0) (Nat.le_refl _) (Nat.le_refl _) ?_
  refine lv_aload_n hx hb dJxc12de_init_da8c8_4 rfl (lv_at hl 0 rfl) ?_
  refine lv_iconst (v := 0) hx hb dJxc12de_init_da8c8_5 (by decide) ?_
  have hinJx4a65c : ∀ w ∈ u_ws RJx4a65c TJx4a65c 3, w ∈ wsJxc12de_init_da8c8 := by decide +kernel
  refine va_put (D := (dC, dI)) (ci := 1) (v := .int 0) (ty := .int) (C := RJx4a65c) (T := TJx4a65c) (N := 3) hx hb hts hinJx4a65c tyJx4a65c tyJx4a65c_ok nmJx4a65c hown hK hP hD hS 0 rfl rfl 0 (by decide) (hts (.fieldLink RJxc12de 7 "java/util/AbstractList" "modCount" "I") (by decide +kernel)) (fun _ h9 => h9) rfl (by decide +kernel) rfl rfl (Nat.le_of_ble_eq_true rfl) dJxc12de_init_da8c8_6 (fun H locs hP hD hS => ?_)
  have hP : va_P (dC, dI) vwCl [(li, .inr (1, [.int 0, .null, .int 0]))] H := hP
  have hD : va_D A [(li, .inr (1, [.int 0, .null, .int 0]))] := hD
  have hP9 := hP.sub (ws' := [(li, .inr (1, [.int 0, .null, .int 0]))]) [0] rfl
  have hD9 := hD.sub (ws' := [(li, .inr (1, [.int 0, .null, .int 0]))]) [0] (by decide) rfl
  have hK9 := hK.sub (tys' := []) [] rfl
  refine W.widen (k := 0) (n := 0) (Nat.le_of_ble_eq_true rfl) (Nat.le_of_ble_eq_true rfl) ?_
  exact W.vret hx hb hr (fun t ht hW => ⟨⟨(), rfl, trivial, po_mk ht hW hP9 hK9 hD9⟩, hS.F ht⟩) hS.2.2 dJxc12de_init_da8c8_9

set_option maxHeartbeats 4000000 in
set_option maxRecDepth 100000 in
theorem c_Jx4a65c_init_da8c8 (l : Launch) (dC : Nat → ClassId) (dI : Nat → Nat → Nat) (dz : Nat) (dz : Nat) (li : Nat) (sz : Nat)  : Met l yJx4a65c_init_da8c8 wsJx4a65c_init_da8c8 ({ frames := 4, cells := 0, slots := 0, locals := 100 }) (va_Pc [.ref li] (fun U => pr_ dC dI [(li, .inr (1, [.int 0, .null, .int 0]))] [] sz U ∧ em_ (va_A [(li, .inr (1, [.int 0, .null, .int 0]))] sz) dz U)) (va_Qv (fun (_ : Unit) => True) (fun (_ : Unit) t => po_ dC dI [(li, .inr (1, [.int 0, .ref dz, .int 0]))] [] (va_A [(li, .inr (1, [.int 0, .null, .int 0]))] sz) t) (va_A [(li, .inr (1, [.int 0, .null, .int 0]))] sz)) 0 0 (va_A [(li, .inr (1, [.int 0, .null, .int 0]))] sz) := by
  refine Met.ofW (cc := cJx4a65c_init_da8c8) (maxL := 1) (ret := none) (by decide) rfl ?_
  intro p e s m args below meth c s₁ B hml hv
  obtain ⟨rfl, ⟨hsz, hP, hK, hD0⟩, hXs⟩ := hv
  have hx := B.exec
  have hb := B.bytes
  have hr := B.returns
  have hts := atoms_spec (ws := wsJx4a65c_init_da8c8) B.pre
  have hown : s.vm.findClass RJx4a65c = some m.cls := findClass_of_methodNamed B.named
  have hlocks := B.notSynchronized
  have hin : meth.name = "<init>" := (name_of_methodNamed B.named B.method).1
  subst hsz
  have hD := hD0.self (sz := s.heap.size)
  generalize hAe : va_A [(li, .inr (1, [.int 0, .null, .int 0]))] s.heap.size = A at hD hXs ⊢
  have hA : ∀ q : Nat, s.heap.size ≤ q → A q := fun q h => by rw [← hAe]; exact Or.inr h
  have hS : va_S A s.heap s.heap [] := va_S.rf
  have hP : va_P (dC, dI) vwCl [(li, .inr (1, [.int 0, .null, .int 0]))] s.heap := hP
  have hK : va_K (dC, dI) vwCl [] s := hK
  have hl := lv_entry ([.ref li]) (n := 1) (Nat.le_of_ble_eq_true rfl)
  rw [lg_entry_eq]
  generalize (lg_sl ([.ref li]) ++ List.replicate (1 - (lg_sl ([.ref li])).length) Slot.unset).toArray = ls at hl ⊢
  have hl : lv_has ls 1 [(0, .ref li)] := hl
  refine lv_aload_n hx hb dJx4a65c_init_da8c8_0 rfl (lv_at hl 0 rfl) ?_
  have hPc := hP.sub (ws' := [(li, .inr (1, [.int 0, .null, .int 0]))]) [0] rfl
  have hDc := hD.sub (ws' := [(li, .inr (1, [.int 0, .null, .int 0]))]) [0] (by decide) rfl
  have hKc := hK.sub (tys' := []) [] rfl
  have hFc := va_free (wc := [(li, .inr (1, [.int 0, .null, .int 0]))]) hD hS hA [0] rfl
  refine va_callv (va_runI (As := []) (rest := []) ⟨hx, hb, hml, hown, hts⟩ (c_Jxc12de_init_da8c8 l dC dI li _ ) (cwI 0 hts gJx4a65c_init_da8c8_Jxc12de_init_da8c8 rfl rfl rfl (hts (.initialized RJxc12de) (by decide +kernel)) (hts (.methodLink RJx4a65c 1 yJxc12de_init_da8c8) (by decide +kernel)) (hts (.instanceMethod yJxc12de_init_da8c8) (by decide +kernel)) rfl (by decide +kernel) ⟨Nat.le_of_ble_eq_true rfl, Nat.le_of_ble_eq_true rfl⟩) ⟨pr_blind, fun U hU hW => ⟨rfl, pr_mk hU hW hPc hKc hDc⟩⟩ rfl rfl hl.1 rfl (lv_room (Nat.le_of_ble_eq_true rfl)) dJx4a65c_init_da8c8_1 ⟨Nat.le_of_ble_eq_true rfl, Nat.le_of_ble_eq_true rfl⟩) hS (fun q _ h => hFc q h) hFc (fun u_1 t H1 locs ht hvm hw hB hz1 hk1 hS => ?_)
  obtain ⟨hP1, hK1, hD1⟩ := hB
  rw [ht] at hP1
  obtain ⟨hP, hD⟩ := va_join (wr := []) (w1 := [(li, .inr (1, [.int 0, .null, .int 0]))]) hP hD [0] [] rfl rfl (by decide) (by decide) hk1 hFc hP1 hD1
  generalize H1 = H at hP hS ⊢
  have hP : va_P (dC, dI) vwCl [(li, .inr (1, [.int 0, .null, .int 0]))] H := hP
  have hD : va_D A [(li, .inr (1, [.int 0, .null, .int 0]))] := hD
  refine W.widen (k := 0) (n := 0) (Nat.le_refl _) (Nat.le_refl _) ?_
  refine lv_aload_n hx hb dJx4a65c_init_da8c8_4 rfl (lv_at hl 0 rfl) ?_
  refine va_gets hx hb (hXs) hS hown (hts (.fieldLink RJx4a65c 39 "java/util/ArrayList" "DEFAULTCAPACITY_EMPTY_ELEMENTDATA" "[Ljava/lang/Object;") (by decide +kernel)) (fun _ h9 => h9) dJx4a65c_init_da8c8_5 ?_
  have hinJx4a65c : ∀ w ∈ u_ws RJx4a65c TJx4a65c 3, w ∈ wsJx4a65c_init_da8c8 := by decide +kernel
  refine va_put (D := (dC, dI)) (ci := 1) (v := .ref dz) (ty := (.array (.object "java/lang/Object"))) (C := RJx4a65c) (T := TJx4a65c) (N := 3) hx hb hts hinJx4a65c tyJx4a65c tyJx4a65c_ok nmJx4a65c hown hK hP hD hS 0 rfl rfl 1 (by decide) (hts (.fieldLink RJx4a65c 9 "java/util/ArrayList" "elementData" "[Ljava/lang/Object;") (by decide +kernel)) (fun _ h9 => h9) rfl (by decide +kernel) rfl rfl (Nat.le_of_ble_eq_true rfl) dJx4a65c_init_da8c8_8 (fun H locs hP hD hS => ?_)
  have hP : va_P (dC, dI) vwCl [(li, .inr (1, [.int 0, .ref dz, .int 0]))] H := hP
  have hD : va_D A [(li, .inr (1, [.int 0, .ref dz, .int 0]))] := hD
  have hP9 := hP.sub (ws' := [(li, .inr (1, [.int 0, .ref dz, .int 0]))]) [0] rfl
  have hD9 := hD.sub (ws' := [(li, .inr (1, [.int 0, .ref dz, .int 0]))]) [0] (by decide) rfl
  have hK9 := hK.sub (tys' := []) [] rfl
  refine W.widen (k := 0) (n := 0) (Nat.le_of_ble_eq_true rfl) (Nat.le_of_ble_eq_true rfl) ?_
  exact W.vret hx hb hr (fun t ht hW => ⟨⟨(), rfl, trivial, po_mk ht hW hP9 hK9 hD9⟩, hS.F ht⟩) hS.2.2 dJx4a65c_init_da8c8_11

set_option maxHeartbeats 4000000 in
set_option maxRecDepth 100000 in
theorem c_X8_init (l : Launch) (dC : Nat → ClassId) (dI : Nat → Nat → Nat) (o : Nat) (dz : Nat) (sz : Nat)  : Met l yX8_init wsX8_init ({ frames := 5, cells := 4, slots := 15, locals := 130 }) (va_Pc [.ref o] (fun U => pr_ dC dI [(o, .inr (10, [.int 0, .null, .null, .null, .null, .int 0, .int 0, .int 0]))] [] sz U ∧ em_ (va_A [(o, .inr (10, [.int 0, .null, .null, .null, .null, .int 0, .int 0, .int 0]))] sz) dz U)) (va_Qv (fun (_ : Nat × Nat × Nat × Nat) => True) (fun (u : Nat × Nat × Nat × Nat) t => match u with | (pl, ig, sl, kl) => po_ dC dI [(o, .inr (10, [.int 0, .ref pl, .ref ig, .ref sl, .ref kl, .int 0, .int 0, .int 0])), (pl, .inr (1, [.int 0, .ref dz, .int 0])), (sl, .inr (1, [.int 0, .ref dz, .int 0])), (kl, .inr (1, [.int 0, .ref dz, .int 0]))] [] (va_A [(o, .inr (10, [.int 0, .null, .null, .null, .null, .int 0, .int 0, .int 0]))] sz) t) (va_A [(o, .inr (10, [.int 0, .null, .null, .null, .null, .int 0, .int 0, .int 0]))] sz)) 4 15 (va_A [(o, .inr (10, [.int 0, .null, .null, .null, .null, .int 0, .int 0, .int 0]))] sz) := by
  refine Met.ofW (cc := cX8_init) (maxL := 1) (ret := none) (by decide) rfl ?_
  intro p e s m args below meth c s₁ B hml hv
  obtain ⟨rfl, ⟨hsz, hP, hK, hD0⟩, hXs⟩ := hv
  have hx := B.exec
  have hb := B.bytes
  have hr := B.returns
  have hts := atoms_spec (ws := wsX8_init) B.pre
  have hown : s.vm.findClass RX8 = some m.cls := findClass_of_methodNamed B.named
  have hlocks := B.notSynchronized
  have hin : meth.name = "<init>" := (name_of_methodNamed B.named B.method).1
  subst hsz
  have hD := hD0.self (sz := s.heap.size)
  generalize hAe : va_A [(o, .inr (10, [.int 0, .null, .null, .null, .null, .int 0, .int 0, .int 0]))] s.heap.size = A at hD hXs ⊢
  have hA : ∀ q : Nat, s.heap.size ≤ q → A q := fun q h => by rw [← hAe]; exact Or.inr h
  have hS : va_S A s.heap s.heap [] := va_S.rf
  have hP : va_P (dC, dI) vwCl [(o, .inr (10, [.int 0, .null, .null, .null, .null, .int 0, .int 0, .int 0]))] s.heap := hP
  have hK : va_K (dC, dI) vwCl [] s := hK
  have hl := lv_entry ([.ref o]) (n := 1) (Nat.le_of_ble_eq_true rfl)
  rw [lg_entry_eq]
  generalize (lg_sl ([.ref o]) ++ List.replicate (1 - (lg_sl ([.ref o])).length) Slot.unset).toArray = ls at hl ⊢
  have hl : lv_has ls 1 [(0, .ref o)] := hl
  refine lv_aload_n hx hb dX8_init_0 rfl (lv_at hl 0 rfl) ?_
  refine W.objInit hx hb hown (hts (.methodLink RX8 1 objectInit) (by decide +kernel)) (hts (.instanceMethod objectInit) (by decide +kernel)) (hts (.code objectInit ⟨#[0xb1]⟩ 1 none) (by decide +kernel)) rfl (by rw [hml]; exact hl.1) rfl dX8_init_1 (Nat.le_of_ble_eq_true rfl) (Nat.le_of_ble_eq_true rfl) ?_
  refine W.eq (g2 := F0 m 4 ls []) rfl ?_
  refine lv_aload_n hx hb dX8_init_4 rfl (lv_at hl 0 rfl) ?_
  have hinJx4a65c : ∀ w ∈ u_ws RJx4a65c TJx4a65c 3, w ∈ wsX8_init := by decide +kernel
  refine va_new (ci := 1) (fs := [.int 0, .null, .int 0]) (C := RJx4a65c) (T := TJx4a65c) (N := 3) hx hb hts hinJx4a65c tyJx4a65c tyJx4a65c_ok hown (hts (.classLink RX8 7 RJx4a65c) (by decide +kernel)) (hts (.instantiable RJx4a65c 3) (by decide +kernel)) (hts (.initialized RJx4a65c) (by decide +kernel)) hK hP hD hS hA rfl (by intro j hj; match j, hj with | 0, _ => rfl | 1, _ => rfl | 2, _ => rfl) (Nat.le_of_ble_eq_true rfl) (Nat.le_of_ble_eq_true rfl) dX8_init_5 (fun q_1 H hP hD hS => ?_)
  have hP : va_P (dC, dI) vwCl [(o, .inr (10, [.int 0, .null, .null, .null, .null, .int 0, .int 0, .int 0])), (q_1, .inr (1, [.int 0, .null, .int 0]))] H := hP
  have hD : va_D A [(o, .inr (10, [.int 0, .null, .null, .null, .null, .int 0, .int 0, .int 0])), (q_1, .inr (1, [.int 0, .null, .int 0]))] := hD
  refine W.widen (k := 1) (n := 3) (Nat.le_of_ble_eq_true rfl) (Nat.le_of_ble_eq_true rfl) ?_
  refine lv_dup hx hb dX8_init_8 rfl ?_
  have hPc := hP.sub (ws' := [(q_1, .inr (1, [.int 0, .null, .int 0]))]) [1] rfl
  have hDc := hD.sub (ws' := [(q_1, .inr (1, [.int 0, .null, .int 0]))]) [1] (by decide) rfl
  have hKc := hK.sub (tys' := []) [] rfl
  have hFc := va_free (wc := [(q_1, .inr (1, [.int 0, .null, .int 0]))]) hD hS hA [1] rfl
  refine va_callv (va_runI (As := []) (rest := [.ref q_1, .ref o]) ⟨hx, hb, hml, hown, hts⟩ (c_Jx4a65c_init_da8c8 l dC dI dz dz q_1 _ ) (cwI 0 hts gX8_init_Jx4a65c_init_da8c8 rfl rfl rfl (hts (.initialized RJx4a65c) (by decide +kernel)) (hts (.methodLink RX8 9 yJx4a65c_init_da8c8) (by decide +kernel)) (hts (.instanceMethod yJx4a65c_init_da8c8) (by decide +kernel)) rfl (by decide +kernel) ⟨Nat.le_of_ble_eq_true rfl, Nat.le_of_ble_eq_true rfl⟩) ⟨pe_blind em_bl, fun U hU hW => ⟨rfl, pr_mk hU hW hPc hKc hDc, em_mk hU hW hS hFc hXs⟩⟩ rfl rfl hl.1 rfl (lv_room (Nat.le_of_ble_eq_true rfl)) dX8_init_9 ⟨Nat.le_of_ble_eq_true rfl, Nat.le_of_ble_eq_true rfl⟩) hS (fun q _ h => hFc q h) hFc (fun u_2 t H1 locs ht hvm hw hB hz1 hk1 hS => ?_)
  obtain ⟨hP1, hK1, hD1⟩ := hB
  rw [ht] at hP1
  obtain ⟨hP, hD⟩ := va_join (wr := [(o, .inr (10, [.int 0, .null, .null, .null, .null, .int 0, .int 0, .int 0]))]) (w1 := [(q_1, .inr (1, [.int 0, .ref dz, .int 0]))]) hP hD [1] [0] rfl rfl (by decide) (by decide) hk1 hFc hP1 hD1
  generalize H1 = H at hP hS ⊢
  have hP : va_P (dC, dI) vwCl [(o, .inr (10, [.int 0, .null, .null, .null, .null, .int 0, .int 0, .int 0])), (q_1, .inr (1, [.int 0, .ref dz, .int 0]))] H := hP
  have hD : va_D A [(o, .inr (10, [.int 0, .null, .null, .null, .null, .int 0, .int 0, .int 0])), (q_1, .inr (1, [.int 0, .ref dz, .int 0]))] := hD
  refine W.widen (k := 1) (n := 3) (Nat.le_refl _) (Nat.le_refl _) ?_
  have hinX8 : ∀ w ∈ u_ws RX8 TX8 8, w ∈ wsX8_init := by decide +kernel
  refine va_putF (D := (dC, dI)) (ci := 10) (v := .ref q_1) (ty := (.object "java/util/List")) (C := RX8) (T := TX8) (N := 8) hx hb hts hinX8 tyX8 tyX8_ok nmX8 hown hK hP hD hS 0 rfl rfl 1 (by decide) (hts (.fieldLink RX8 10 "BallotLoomModel" "partyOf" "Ljava/util/List;") (by decide +kernel)) (fun _ h9 => h9) rfl hin rfl (by decide +kernel) rfl rfl (Nat.le_of_ble_eq_true rfl) dX8_init_12 (fun H locs hP hD hS => ?_)
  have hP : va_P (dC, dI) vwCl [(o, .inr (10, [.int 0, .ref q_1, .null, .null, .null, .int 0, .int 0, .int 0])), (q_1, .inr (1, [.int 0, .ref dz, .int 0]))] H := hP
  have hD : va_D A [(o, .inr (10, [.int 0, .ref q_1, .null, .null, .null, .int 0, .int 0, .int 0])), (q_1, .inr (1, [.int 0, .ref dz, .int 0]))] := hD
  refine lv_aload_n hx hb dX8_init_15 rfl (lv_at hl 0 rfl) ?_
  refine lv_bipush (v := 6) hx hb dX8_init_16 (by decide) ?_
  refine va_newa (atype := .boolean) (ty := .boolean) (N' := 6) (a0 := (6, .inl zi)) hx hb (hts (.arrayClass (newarray.typeOf .boolean)) (by decide +kernel)) rfl hK hP hD hS hA (fun _ => rfl) (by decide) (by decide) (by decide) (Nat.le_of_ble_eq_true rfl) (Nat.le_of_ble_eq_true rfl) dX8_init_18 (fun q_4 c_5 H hK hP hD hS => ?_)
  have hK : va_K (dC, dI) vwCl [(c_5, .boolean)] s := hK
  have hP : va_P (dC, dI) vwCl [(o, .inr (10, [.int 0, .ref q_1, .null, .null, .null, .int 0, .int 0, .int 0])), (q_1, .inr (1, [.int 0, .ref dz, .int 0])), (q_4, .inl (c_5, 6, .inl zi))] H := hP
  have hD : va_D A [(o, .inr (10, [.int 0, .ref q_1, .null, .null, .null, .int 0, .int 0, .int 0])), (q_1, .inr (1, [.int 0, .ref dz, .int 0])), (q_4, .inl (c_5, 6, .inl zi))] := hD
  refine W.widen (k := 2) (n := 9) (Nat.le_of_ble_eq_true rfl) (Nat.le_of_ble_eq_true rfl) ?_
  refine va_putF (D := (dC, dI)) (ci := 10) (v := .ref q_4) (ty := (.array .boolean)) (C := RX8) (T := TX8) (N := 8) hx hb hts hinX8 tyX8 tyX8_ok nmX8 hown hK hP hD hS 0 rfl rfl 2 (by decide) (hts (.fieldLink RX8 16 "BallotLoomModel" "isGone" "[Z") (by decide +kernel)) (fun _ h9 => h9) rfl hin rfl (by decide +kernel) rfl rfl (Nat.le_of_ble_eq_true rfl) dX8_init_20 (fun H locs hP hD hS => ?_)
  have hP : va_P (dC, dI) vwCl [(o, .inr (10, [.int 0, .ref q_1, .ref q_4, .null, .null, .int 0, .int 0, .int 0])), (q_1, .inr (1, [.int 0, .ref dz, .int 0])), (q_4, .inl (c_5, 6, .inl zi))] H := hP
  have hD : va_D A [(o, .inr (10, [.int 0, .ref q_1, .ref q_4, .null, .null, .int 0, .int 0, .int 0])), (q_1, .inr (1, [.int 0, .ref dz, .int 0])), (q_4, .inl (c_5, 6, .inl zi))] := hD
  refine lv_aload_n hx hb dX8_init_23 rfl (lv_at hl 0 rfl) ?_
  refine va_new (ci := 1) (fs := [.int 0, .null, .int 0]) (C := RJx4a65c) (T := TJx4a65c) (N := 3) hx hb hts hinJx4a65c tyJx4a65c tyJx4a65c_ok hown (hts (.classLink RX8 7 RJx4a65c) (by decide +kernel)) (hts (.instantiable RJx4a65c 3) (by decide +kernel)) (hts (.initialized RJx4a65c) (by decide +kernel)) hK hP hD hS hA rfl (by intro j hj; match j, hj with | 0, _ => rfl | 1, _ => rfl | 2, _ => rfl) (Nat.le_of_ble_eq_true rfl) (Nat.le_of_ble_eq_true rfl) dX8_init_24 (fun q_6 H hP hD hS => ?_)
  have hP : va_P (dC, dI) vwCl [(o, .inr (10, [.int 0, .ref q_1, .ref q_4, .null, .null, .int 0, .int 0, .int 0])), (q_1, .inr (1, [.int 0, .ref dz, .int 0])), (q_4, .inl (c_5, 6, .inl zi)), (q_6, .inr (1, [.int 0, .null, .int 0]))] H := hP
  have hD : va_D A [(o, .inr (10, [.int 0, .ref q_1, .ref q_4, .null, .null, .int 0, .int 0, .int 0])), (q_1, .inr (1, [.int 0, .ref dz, .int 0])), (q_4, .inl (c_5, 6, .inl zi)), (q_6, .inr (1, [.int 0, .null, .int 0]))] := hD
  refine W.widen (k := 3) (n := 12) (Nat.le_of_ble_eq_true rfl) (Nat.le_of_ble_eq_true rfl) ?_
  refine lv_dup hx hb dX8_init_27 rfl ?_
  have hPc := hP.sub (ws' := [(q_6, .inr (1, [.int 0, .null, .int 0]))]) [3] rfl
  have hDc := hD.sub (ws' := [(q_6, .inr (1, [.int 0, .null, .int 0]))]) [3] (by decide) rfl
  have hKc := hK.sub (tys' := []) [] rfl
  have hFc := va_free (wc := [(q_6, .inr (1, [.int 0, .null, .int 0]))]) hD hS hA [3] rfl
  refine va_callv (va_runI (As := []) (rest := [.ref q_6, .ref o]) ⟨hx, hb, hml, hown, hts⟩ (c_Jx4a65c_init_da8c8 l dC dI dz dz q_6 _ ) (cwI 0 hts gX8_init_Jx4a65c_init_da8c8 rfl rfl rfl (hts (.initialized RJx4a65c) (by decide +kernel)) (hts (.methodLink RX8 9 yJx4a65c_init_da8c8) (by decide +kernel)) (hts (.instanceMethod yJx4a65c_init_da8c8) (by decide +kernel)) rfl (by decide +kernel) ⟨Nat.le_of_ble_eq_true rfl, Nat.le_of_ble_eq_true rfl⟩) ⟨pe_blind em_bl, fun U hU hW => ⟨rfl, pr_mk hU hW hPc hKc hDc, em_mk hU hW hS hFc hXs⟩⟩ rfl rfl hl.1 rfl (lv_room (Nat.le_of_ble_eq_true rfl)) dX8_init_28 ⟨Nat.le_of_ble_eq_true rfl, Nat.le_of_ble_eq_true rfl⟩) hS (fun q _ h => hFc q h) hFc (fun u_7 t H1 locs ht hvm hw hB hz1 hk1 hS => ?_)
  obtain ⟨hP1, hK1, hD1⟩ := hB
  rw [ht] at hP1
  obtain ⟨hP, hD⟩ := va_join (wr := [(o, .inr (10, [.int 0, .ref q_1, .ref q_4, .null, .null, .int 0, .int 0, .int 0])), (q_1, .inr (1, [.int 0, .ref dz, .int 0])), (q_4, .inl (c_5, 6, .inl zi))]) (w1 := [(q_6, .inr (1, [.int 0, .ref dz, .int 0]))]) hP hD [3] [0, 1, 2] rfl rfl (by decide) (by decide) hk1 hFc hP1 hD1
  generalize H1 = H at hP hS ⊢
  have hP : va_P (dC, dI) vwCl [(o, .inr (10, [.int 0, .ref q_1, .ref q_4, .null, .null, .int 0, .int 0, .int 0])), (q_1, .inr (1, [.int 0, .ref dz, .int 0])), (q_4, .inl (c_5, 6, .inl zi)), (q_6, .inr (1, [.int 0, .ref dz, .int 0]))] H := hP
  have hD : va_D A [(o, .inr (10, [.int 0, .ref q_1, .ref q_4, .null, .null, .int 0, .int 0, .int 0])), (q_1, .inr (1, [.int 0, .ref dz, .int 0])), (q_4, .inl (c_5, 6, .inl zi)), (q_6, .inr (1, [.int 0, .ref dz, .int 0]))] := hD
  refine W.widen (k := 3) (n := 12) (Nat.le_refl _) (Nat.le_refl _) ?_
  refine va_putF (D := (dC, dI)) (ci := 10) (v := .ref q_6) (ty := (.object "java/util/List")) (C := RX8) (T := TX8) (N := 8) hx hb hts hinX8 tyX8 tyX8_ok nmX8 hown hK hP hD hS 0 rfl rfl 3 (by decide) (hts (.fieldLink RX8 20 "BallotLoomModel" "seatsOf" "Ljava/util/List;") (by decide +kernel)) (fun _ h9 => h9) rfl hin rfl (by decide +kernel) rfl rfl (Nat.le_of_ble_eq_true rfl) dX8_init_31 (fun H locs hP hD hS => ?_)
  have hP : va_P (dC, dI) vwCl [(o, .inr (10, [.int 0, .ref q_1, .ref q_4, .ref q_6, .null, .int 0, .int 0, .int 0])), (q_1, .inr (1, [.int 0, .ref dz, .int 0])), (q_4, .inl (c_5, 6, .inl zi)), (q_6, .inr (1, [.int 0, .ref dz, .int 0]))] H := hP
  have hD : va_D A [(o, .inr (10, [.int 0, .ref q_1, .ref q_4, .ref q_6, .null, .int 0, .int 0, .int 0])), (q_1, .inr (1, [.int 0, .ref dz, .int 0])), (q_4, .inl (c_5, 6, .inl zi)), (q_6, .inr (1, [.int 0, .ref dz, .int 0]))] := hD
  refine lv_aload_n hx hb dX8_init_34 rfl (lv_at hl 0 rfl) ?_
  refine va_new (ci := 1) (fs := [.int 0, .null, .int 0]) (C := RJx4a65c) (T := TJx4a65c) (N := 3) hx hb hts hinJx4a65c tyJx4a65c tyJx4a65c_ok hown (hts (.classLink RX8 7 RJx4a65c) (by decide +kernel)) (hts (.instantiable RJx4a65c 3) (by decide +kernel)) (hts (.initialized RJx4a65c) (by decide +kernel)) hK hP hD hS hA rfl (by intro j hj; match j, hj with | 0, _ => rfl | 1, _ => rfl | 2, _ => rfl) (Nat.le_of_ble_eq_true rfl) (Nat.le_of_ble_eq_true rfl) dX8_init_35 (fun q_9 H hP hD hS => ?_)
  have hP : va_P (dC, dI) vwCl [(o, .inr (10, [.int 0, .ref q_1, .ref q_4, .ref q_6, .null, .int 0, .int 0, .int 0])), (q_1, .inr (1, [.int 0, .ref dz, .int 0])), (q_4, .inl (c_5, 6, .inl zi)), (q_6, .inr (1, [.int 0, .ref dz, .int 0])), (q_9, .inr (1, [.int 0, .null, .int 0]))] H := hP
  have hD : va_D A [(o, .inr (10, [.int 0, .ref q_1, .ref q_4, .ref q_6, .null, .int 0, .int 0, .int 0])), (q_1, .inr (1, [.int 0, .ref dz, .int 0])), (q_4, .inl (c_5, 6, .inl zi)), (q_6, .inr (1, [.int 0, .ref dz, .int 0])), (q_9, .inr (1, [.int 0, .null, .int 0]))] := hD
  refine W.widen (k := 4) (n := 15) (Nat.le_of_ble_eq_true rfl) (Nat.le_of_ble_eq_true rfl) ?_
  refine lv_dup hx hb dX8_init_38 rfl ?_
  have hPc := hP.sub (ws' := [(q_9, .inr (1, [.int 0, .null, .int 0]))]) [4] rfl
  have hDc := hD.sub (ws' := [(q_9, .inr (1, [.int 0, .null, .int 0]))]) [4] (by decide) rfl
  have hKc := hK.sub (tys' := []) [] rfl
  have hFc := va_free (wc := [(q_9, .inr (1, [.int 0, .null, .int 0]))]) hD hS hA [4] rfl
  refine va_callv (va_runI (As := []) (rest := [.ref q_9, .ref o]) ⟨hx, hb, hml, hown, hts⟩ (c_Jx4a65c_init_da8c8 l dC dI dz dz q_9 _ ) (cwI 0 hts gX8_init_Jx4a65c_init_da8c8 rfl rfl rfl (hts (.initialized RJx4a65c) (by decide +kernel)) (hts (.methodLink RX8 9 yJx4a65c_init_da8c8) (by decide +kernel)) (hts (.instanceMethod yJx4a65c_init_da8c8) (by decide +kernel)) rfl (by decide +kernel) ⟨Nat.le_of_ble_eq_true rfl, Nat.le_of_ble_eq_true rfl⟩) ⟨pe_blind em_bl, fun U hU hW => ⟨rfl, pr_mk hU hW hPc hKc hDc, em_mk hU hW hS hFc hXs⟩⟩ rfl rfl hl.1 rfl (lv_room (Nat.le_of_ble_eq_true rfl)) dX8_init_39 ⟨Nat.le_of_ble_eq_true rfl, Nat.le_of_ble_eq_true rfl⟩) hS (fun q _ h => hFc q h) hFc (fun u_10 t H1 locs ht hvm hw hB hz1 hk1 hS => ?_)
  obtain ⟨hP1, hK1, hD1⟩ := hB
  rw [ht] at hP1
  obtain ⟨hP, hD⟩ := va_join (wr := [(o, .inr (10, [.int 0, .ref q_1, .ref q_4, .ref q_6, .null, .int 0, .int 0, .int 0])), (q_1, .inr (1, [.int 0, .ref dz, .int 0])), (q_4, .inl (c_5, 6, .inl zi)), (q_6, .inr (1, [.int 0, .ref dz, .int 0]))]) (w1 := [(q_9, .inr (1, [.int 0, .ref dz, .int 0]))]) hP hD [4] [0, 1, 2, 3] rfl rfl (by decide) (by decide) hk1 hFc hP1 hD1
  generalize H1 = H at hP hS ⊢
  have hP : va_P (dC, dI) vwCl [(o, .inr (10, [.int 0, .ref q_1, .ref q_4, .ref q_6, .null, .int 0, .int 0, .int 0])), (q_1, .inr (1, [.int 0, .ref dz, .int 0])), (q_4, .inl (c_5, 6, .inl zi)), (q_6, .inr (1, [.int 0, .ref dz, .int 0])), (q_9, .inr (1, [.int 0, .ref dz, .int 0]))] H := hP
  have hD : va_D A [(o, .inr (10, [.int 0, .ref q_1, .ref q_4, .ref q_6, .null, .int 0, .int 0, .int 0])), (q_1, .inr (1, [.int 0, .ref dz, .int 0])), (q_4, .inl (c_5, 6, .inl zi)), (q_6, .inr (1, [.int 0, .ref dz, .int 0])), (q_9, .inr (1, [.int 0, .ref dz, .int 0]))] := hD
  refine W.widen (k := 4) (n := 15) (Nat.le_refl _) (Nat.le_refl _) ?_
  refine va_putF (D := (dC, dI)) (ci := 10) (v := .ref q_9) (ty := (.object "java/util/List")) (C := RX8) (T := TX8) (N := 8) hx hb hts hinX8 tyX8 tyX8_ok nmX8 hown hK hP hD hS 0 rfl rfl 4 (by decide) (hts (.fieldLink RX8 23 "BallotLoomModel" "stacks" "Ljava/util/List;") (by decide +kernel)) (fun _ h9 => h9) rfl hin rfl (by decide +kernel) rfl rfl (Nat.le_of_ble_eq_true rfl) dX8_init_42 (fun H locs hP hD hS => ?_)
  have hP : va_P (dC, dI) vwCl [(o, .inr (10, [.int 0, .ref q_1, .ref q_4, .ref q_6, .ref q_9, .int 0, .int 0, .int 0])), (q_1, .inr (1, [.int 0, .ref dz, .int 0])), (q_4, .inl (c_5, 6, .inl zi)), (q_6, .inr (1, [.int 0, .ref dz, .int 0])), (q_9, .inr (1, [.int 0, .ref dz, .int 0]))] H := hP
  have hD : va_D A [(o, .inr (10, [.int 0, .ref q_1, .ref q_4, .ref q_6, .ref q_9, .int 0, .int 0, .int 0])), (q_1, .inr (1, [.int 0, .ref dz, .int 0])), (q_4, .inl (c_5, 6, .inl zi)), (q_6, .inr (1, [.int 0, .ref dz, .int 0])), (q_9, .inr (1, [.int 0, .ref dz, .int 0]))] := hD
  have hP9 := hP.sub (ws' := [(o, .inr (10, [.int 0, .ref q_1, .ref q_4, .ref q_6, .ref q_9, .int 0, .int 0, .int 0])), (q_1, .inr (1, [.int 0, .ref dz, .int 0])), (q_6, .inr (1, [.int 0, .ref dz, .int 0])), (q_9, .inr (1, [.int 0, .ref dz, .int 0]))]) [0, 1, 3, 4] rfl
  have hD9 := hD.sub (ws' := [(o, .inr (10, [.int 0, .ref q_1, .ref q_4, .ref q_6, .ref q_9, .int 0, .int 0, .int 0])), (q_1, .inr (1, [.int 0, .ref dz, .int 0])), (q_6, .inr (1, [.int 0, .ref dz, .int 0])), (q_9, .inr (1, [.int 0, .ref dz, .int 0]))]) [0, 1, 3, 4] (by decide) rfl
  have hK9 := hK.sub (tys' := []) [] rfl
  refine W.widen (k := 4) (n := 15) (Nat.le_of_ble_eq_true rfl) (Nat.le_of_ble_eq_true rfl) ?_
  exact W.vret hx hb hr (fun t ht hW => ⟨⟨⟨q_1, q_4, q_6, q_9⟩, rfl, trivial, po_mk ht hW hP9 hK9 hD9⟩, hS.F ht⟩) hS.2.2 dX8_init_45

set_option maxHeartbeats 4000000 in
set_option maxRecDepth 100000 in
theorem c_J6_valueOf_2dffe (l : Launch) (dC : Nat → ClassId) (dI : Nat → Nat → Nat) (dz : Nat) (dz : Nat) (tc : Nat) (ad : Nat → Nat) (qi : Int32) (sz : Nat) (h1 : ¬ qi < -128) (h2 : ¬ 127 < qi) (hin : vp_in (qi + 128) 256) : Met l yJ6_valueOf_2dffe wsJ6_valueOf_2dffe ({ frames := 2, cells := 0, slots := 0, locals := 40 }) (va_Pc [.int qi] (fun U => pr_ dC dI [] [] sz U ∧ ca_ (va_A [] sz) dz tc ad U)) (va_Qr (fun (k9 : Nat) => k9 < 256) (fun (k9 : Nat) RES t => RES = ad k9 ∧ po_ dC dI [] [] (va_A [] sz) t) (va_A [] sz)) 0 0 (va_A [] sz) := by
  refine Met.ofW (cc := cJ6_valueOf_2dffe) (maxL := 1) (ret := (some (.object "java/lang/Integer"))) (by decide) rfl ?_
  intro p e s m args below meth c s₁ B hml hv
  obtain ⟨rfl, ⟨hsz, hP, hK, hD0⟩, hXs⟩ := hv
  have hx := B.exec
  have hb := B.bytes
  have hr := B.returns
  have hts := atoms_spec (ws := wsJ6_valueOf_2dffe) B.pre
  have hown : s.vm.findClass RJ6 = some m.cls := findClass_of_methodNamed B.named
  have hlocks := B.notSynchronized
  subst hsz
  have hD := hD0.self (sz := s.heap.size)
  generalize hAe : va_A [] s.heap.size = A at hD hXs ⊢
  have hA : ∀ q : Nat, s.heap.size ≤ q → A q := fun q h => by rw [← hAe]; exact Or.inr h
  have hS : va_S A s.heap s.heap [] := va_S.rf
  have hP : va_P (dC, dI) vwCl [] s.heap := hP
  have hK : va_K (dC, dI) vwCl [] s := hK
  have hl := lv_entry ([.int qi]) (n := 1) (Nat.le_of_ble_eq_true rfl)
  rw [lg_entry_eq]
  generalize (lg_sl ([.int qi]) ++ List.replicate (1 - (lg_sl ([.int qi])).length) Slot.unset).toArray = ls at hl ⊢
  have hl : lv_has ls 1 [(0, .int qi)] := hl
  refine lv_iload_n hx hb dJ6_valueOf_2dffe_0 rfl (lv_at hl 0 rfl) ?_
  refine lv_bipush (v := (-128)) hx hb dJ6_valueOf_2dffe_1 (by decide) ?_
  refine lv_icmp_lt (tgt := 23) hx hb dJ6_valueOf_2dffe_3 (by decide) (fun h9 => (h1 h9).elim) (fun _ => ?_)
  refine lv_iload_n hx hb dJ6_valueOf_2dffe_6 rfl (lv_at hl 0 rfl) ?_
  refine va_gets hx hb (ca_h hXs) hS hown (hts (.fieldLink RJ6 191 "java/lang/Integer$IntegerCache" "high" "I") (by decide +kernel)) (fun _ h9 => h9) dJ6_valueOf_2dffe_7 ?_
  refine lv_icmp_gt (tgt := 23) hx hb dJ6_valueOf_2dffe_10 (by decide) (fun h9 => (h2 h9).elim) (fun _ => ?_)
  refine va_gets hx hb (ca_c hXs) hS hown (hts (.fieldLink RJ6 195 "java/lang/Integer$IntegerCache" "cache" "[Ljava/lang/Integer;") (by decide +kernel)) (fun _ h9 => h9) dJ6_valueOf_2dffe_13 ?_
  refine lv_iload_n hx hb dJ6_valueOf_2dffe_16 rfl (lv_at hl 0 rfl) ?_
  refine lv_sipush (v := 128) hx hb dJ6_valueOf_2dffe_17 (by decide) ?_
  refine lv_iadd hx hb dJ6_valueOf_2dffe_20 ?_
  refine lv_topi (fun y_1 ey_1 => ?_)
  refine vb_tq (v := .ref (ad y_1.toNatClampNeg)) hx hb (ca_ct hXs) hS (by rw [ey_1]; exact hin) rfl dJ6_valueOf_2dffe_21 ?_
  have hP9 := hP.sub (ws' := []) [] rfl
  have hD9 := hD.sub (ws' := []) [] (by decide) rfl
  have hK9 := hK.sub (tys' := []) [] rfl
  refine W.widen (k := 0) (n := 0) (Nat.le_of_ble_eq_true rfl) (Nat.le_of_ble_eq_true rfl) ?_
  exact W.aret (v := .ref (ad y_1.toNatClampNeg)) (rt := (.object "java/lang/Integer")) hx hb hr (Or.inl ⟨_, rfl⟩) (Or.inr ⟨_, rfl⟩) (fun t ht hW => ⟨⟨(y_1).toNatClampNeg, (ad y_1.toNatClampNeg), rfl, (Nat.not_le.mp (fun h => (show vp_in y_1 256 by rw [ey_1]; exact hin) (Or.inr h))), ⟨rfl, po_mk ht hW hP9 hK9 hD9⟩⟩, hS.F ht⟩) hS.2.2 dJ6_valueOf_2dffe_22

set_option maxHeartbeats 4000000 in
set_option maxRecDepth 100000 in
theorem c_Jx4a65c_grow_92f84 (l : Launch) (dC : Nat → ClassId) (dI : Nat → Nat → Nat) (dz : Nat) (dz : Nat) (tc : Nat) (ad : Nat → Nat) (li : Nat) (sz : Nat)  : Met l yJx4a65c_grow_92f84 wsJx4a65c_grow_92f84 ({ frames := 3, cells := 1, slots := 10, locals := 80 }) (va_Pc [.ref li, .int 1] (fun U => pr_ dC dI [(li, .inr (1, [.int 1, .ref dz, .int 0]))] [] sz U ∧ ca_ (va_A [(li, .inr (1, [.int 1, .ref dz, .int 0]))] sz) dz tc ad U)) (va_Qr (fun (_ : ClassId) => True) (fun (cO : ClassId) RES t => po_ dC dI [(li, .inr (1, [.int 1, .ref RES, .int 0])), (RES, .inl (cO, 10, .inr (.inr (.inr (.inr (fun _ => none))))))] [(cO, .object "java/lang/Object")] (va_A [(li, .inr (1, [.int 1, .ref dz, .int 0]))] sz) t) (va_A [(li, .inr (1, [.int 1, .ref dz, .int 0]))] sz)) 1 10 (va_A [(li, .inr (1, [.int 1, .ref dz, .int 0]))] sz) := by
  refine Met.ofW (cc := cJx4a65c_grow_92f84) (maxL := 4) (ret := (some (.array (.object "java/lang/Object")))) (by decide) rfl ?_
  intro p e s m args below meth c s₁ B hml hv
  obtain ⟨rfl, ⟨hsz, hP, hK, hD0⟩, hXs⟩ := hv
  have hx := B.exec
  have hb := B.bytes
  have hr := B.returns
  have hts := atoms_spec (ws := wsJx4a65c_grow_92f84) B.pre
  have hown : s.vm.findClass RJx4a65c = some m.cls := findClass_of_methodNamed B.named
  have hlocks := B.notSynchronized
  subst hsz
  have hD := hD0.self (sz := s.heap.size)
  generalize hAe : va_A [(li, .inr (1, [.int 1, .ref dz, .int 0]))] s.heap.size = A at hD hXs ⊢
  have hA : ∀ q : Nat, s.heap.size ≤ q → A q := fun q h => by rw [← hAe]; exact Or.inr h
  have hS : va_S A s.heap s.heap [] := va_S.rf
  have hP : va_P (dC, dI) vwCl [(li, .inr (1, [.int 1, .ref dz, .int 0]))] s.heap := hP
  have hK : va_K (dC, dI) vwCl [] s := hK
  have hl := lv_entry ([.ref li, .int 1]) (n := 4) (Nat.le_of_ble_eq_true rfl)
  rw [lg_entry_eq]
  generalize (lg_sl ([.ref li, .int 1]) ++ List.replicate (4 - (lg_sl ([.ref li, .int 1])).length) Slot.unset).toArray = ls at hl ⊢
  have hl : lv_has ls 4 [(0, .ref li), (1, .int 1)] := hl
  refine lv_aload_n hx hb dJx4a65c_grow_92f84_0 rfl (lv_at hl 0 rfl) ?_
  have hinJx4a65c : ∀ w ∈ u_ws RJx4a65c TJx4a65c 3, w ∈ wsJx4a65c_grow_92f84 := by decide +kernel
  refine va_get (D := (dC, dI)) (ci := 1) (v := .ref dz) (C := RJx4a65c) (T := TJx4a65c) (N := 3) hx hb hts hinJx4a65c hown hK hP 0 rfl rfl 1 (by decide) (hts (.fieldLink RJx4a65c 9 "java/util/ArrayList" "elementData" "[Ljava/lang/Object;") (by decide +kernel)) (fun _ h9 => h9) rfl dJx4a65c_grow_92f84_1 ?_
  refine va_tlen (v := 0) hx hb (ca_t hXs) hS (by decide) dJx4a65c_grow_92f84_4 ?_
  refine lv_istore_n (lv' := [(2, .int 0), (0, .ref li), (1, .int 1)]) hx hb dJx4a65c_grow_92f84_5 rfl hl (by decide) rfl (fun ls hl => ?_)
  refine lv_iload_n hx hb dJx4a65c_grow_92f84_6 rfl (lv_at hl 0 rfl) ?_
  refine lv_if_gt (tgt := 20) hx hb dJx4a65c_grow_92f84_7 (by decide) (fun h9 => absurd h9 (by decide)) (fun _ => ?_)
  refine lv_aload_n hx hb dJx4a65c_grow_92f84_10 rfl (lv_at hl 1 rfl) ?_
  refine va_get (D := (dC, dI)) (ci := 1) (v := .ref dz) (C := RJx4a65c) (T := TJx4a65c) (N := 3) hx hb hts hinJx4a65c hown hK hP 0 rfl rfl 1 (by decide) (hts (.fieldLink RJx4a65c 9 "java/util/ArrayList" "elementData" "[Ljava/lang/Object;") (by decide +kernel)) (fun _ h9 => h9) rfl dJx4a65c_grow_92f84_11 ?_
  refine va_gets hx hb (ca_z hXs) hS hown (hts (.fieldLink RJx4a65c 39 "java/util/ArrayList" "DEFAULTCAPACITY_EMPTY_ELEMENTDATA" "[Ljava/lang/Object;") (by decide +kernel)) (fun _ h9 => h9) dJx4a65c_grow_92f84_14 ?_
  refine lv_acmp_eq (rx := some dz) (ry := some dz) (tgt := 45) hx hb dJx4a65c_grow_92f84_17 (by decide) (fun _ => ?_) (fun h9 => (h9 rfl).elim)
  refine lv_aload_n hx hb dJx4a65c_grow_92f84_45 rfl (lv_at hl 1 rfl) ?_
  refine lv_bipush (v := 10) hx hb dJx4a65c_grow_92f84_46 (by decide) ?_
  refine lv_iload_n hx hb dJx4a65c_grow_92f84_48 rfl (lv_at hl 2 rfl) ?_
  refine va_mmax hx hb (by rw [hml]; exact hl.1.symm) hown (hts (.methodLink RJx4a65c 79 Lib.Math.max.name) (by decide +kernel)) (hts (.static Lib.Math.max.name) (by decide +kernel)) (hts (.initialized "java/lang/Math") (by decide +kernel)) (hts (.code Lib.Math.max.name Lib.Math.max.code 2 (some .int)) (by decide +kernel)) (Nat.le_of_ble_eq_true rfl) (Nat.le_of_ble_eq_true rfl) (Nat.le_of_ble_eq_true rfl) (Nat.le_of_ble_eq_true rfl) dJx4a65c_grow_92f84_49 ?_
  refine lv_topi (fun y_1 ey_1 => ?_)
  obtain rfl : y_1 = 10 := ey_1.trans (by decide)
  refine va_newq (N' := 10) hx hb hown (hts (.classLink RJx4a65c 7 "java/lang/Object") (by decide +kernel)) (ca_o hXs) hK hP hD hS hA (by decide) (by decide) (by decide) (Nat.le_of_ble_eq_true rfl) (Nat.le_of_ble_eq_true rfl) dJx4a65c_grow_92f84_52 (fun q_2 c_3 H hK hP hD hS => ?_)
  have hK : va_K (dC, dI) vwCl [(c_3, .object "java/lang/Object")] s := hK
  have hP : va_P (dC, dI) vwCl [(li, .inr (1, [.int 1, .ref dz, .int 0])), (q_2, .inl (c_3, 10, .inr (.inr (.inr (.inr (fun _ => none))))))] H := hP
  have hD : va_D A [(li, .inr (1, [.int 1, .ref dz, .int 0])), (q_2, .inl (c_3, 10, .inr (.inr (.inr (.inr (fun _ => none))))))] := hD
  refine W.widen (k := 1) (n := 10) (Nat.le_of_ble_eq_true rfl) (Nat.le_of_ble_eq_true rfl) ?_
  refine lv_dup_x1 hx hb dJx4a65c_grow_92f84_55 rfl rfl ?_
  refine va_put (D := (dC, dI)) (ci := 1) (v := .ref q_2) (ty := (.array (.object "java/lang/Object"))) (C := RJx4a65c) (T := TJx4a65c) (N := 3) hx hb hts hinJx4a65c tyJx4a65c tyJx4a65c_ok nmJx4a65c hown hK hP hD hS 0 rfl rfl 1 (by decide) (hts (.fieldLink RJx4a65c 9 "java/util/ArrayList" "elementData" "[Ljava/lang/Object;") (by decide +kernel)) (fun _ h9 => h9) rfl (by decide +kernel) rfl rfl (Nat.le_of_ble_eq_true rfl) dJx4a65c_grow_92f84_56 (fun H locs hP hD hS => ?_)
  have hP : va_P (dC, dI) vwCl [(li, .inr (1, [.int 1, .ref q_2, .int 0])), (q_2, .inl (c_3, 10, .inr (.inr (.inr (.inr (fun _ => none))))))] H := hP
  have hD : va_D A [(li, .inr (1, [.int 1, .ref q_2, .int 0])), (q_2, .inl (c_3, 10, .inr (.inr (.inr (.inr (fun _ => none))))))] := hD
  have hP9 := hP.sub (ws' := [(li, .inr (1, [.int 1, .ref q_2, .int 0])), (q_2, .inl (c_3, 10, .inr (.inr (.inr (.inr (fun _ => none))))))]) [0, 1] rfl
  have hD9 := hD.sub (ws' := [(li, .inr (1, [.int 1, .ref q_2, .int 0])), (q_2, .inl (c_3, 10, .inr (.inr (.inr (.inr (fun _ => none))))))]) [0, 1] (by decide) rfl
  have hK9 := hK.sub (tys' := [(c_3, .object "java/lang/Object")]) [0] rfl
  refine W.widen (k := 1) (n := 10) (Nat.le_of_ble_eq_true rfl) (Nat.le_of_ble_eq_true rfl) ?_
  exact W.aret (v := .ref q_2) (rt := (.array (.object "java/lang/Object"))) hx hb hr (Or.inr ⟨_, rfl⟩) (Or.inr ⟨_, rfl⟩) (fun t ht hW => ⟨⟨c_3, q_2, rfl, trivial, po_mk ht hW hP9 hK9 hD9⟩, hS.F ht⟩) hS.2.2 dJx4a65c_grow_92f84_59

set_option maxHeartbeats 4000000 in
set_option maxRecDepth 100000 in
theorem c_Jx4a65c_grow_d5877 (l : Launch) (dC : Nat → ClassId) (dI : Nat → Nat → Nat) (dz : Nat) (dz : Nat) (tc : Nat) (ad : Nat → Nat) (li : Nat) (sz : Nat)  : Met l yJx4a65c_grow_d5877 wsJx4a65c_grow_d5877 ({ frames := 4, cells := 1, slots := 10, locals := 110 }) (va_Pc [.ref li] (fun U => pr_ dC dI [(li, .inr (1, [.int 1, .ref dz, .int 0]))] [] sz U ∧ ca_ (va_A [(li, .inr (1, [.int 1, .ref dz, .int 0]))] sz) dz tc ad U)) (va_Qr (fun (_ : ClassId) => True) (fun (cO : ClassId) RES t => po_ dC dI [(li, .inr (1, [.int 1, .ref RES, .int 0])), (RES, .inl (cO, 10, .inr (.inr (.inr (.inr (fun _ => none))))))] [(cO, .object "java/lang/Object")] (va_A [(li, .inr (1, [.int 1, .ref dz, .int 0]))] sz) t) (va_A [(li, .inr (1, [.int 1, .ref dz, .int 0]))] sz)) 1 10 (va_A [(li, .inr (1, [.int 1, .ref dz, .int 0]))] sz) := by
  refine Met.ofW (cc := cJx4a65c_grow_d5877) (maxL := 1) (ret := (some (.array (.object "java/lang/Object")))) (by decide) rfl ?_
  intro p e s m args below meth c s₁ B hml hv
  obtain ⟨rfl, ⟨hsz, hP, hK, hD0⟩, hXs⟩ := hv
  have hx := B.exec
  have hb := B.bytes
  have hr := B.returns
  have hts := atoms_spec (ws := wsJx4a65c_grow_d5877) B.pre
  have hown : s.vm.findClass RJx4a65c = some m.cls := findClass_of_methodNamed B.named
  have hlocks := B.notSynchronized
  subst hsz
  have hD := hD0.self (sz := s.heap.size)
  generalize hAe : va_A [(li, .inr (1, [.int 1, .ref dz, .int 0]))] s.heap.size = A at hD hXs ⊢
  have hA : ∀ q : Nat, s.heap.size ≤ q → A q := fun q h => by rw [← hAe]; exact Or.inr h
  have hS : va_S A s.heap s.heap [] := va_S.rf
  have hP : va_P (dC, dI) vwCl [(li, .inr (1, [.int 1, .ref dz, .int 0]))] s.heap := hP
  have hK : va_K (dC, dI) vwCl [] s := hK
  have hl := lv_entry ([.ref li]) (n := 1) (Nat.le_of_ble_eq_true rfl)
  rw [lg_entry_eq]
  generalize (lg_sl ([.ref li]) ++ List.replicate (1 - (lg_sl ([.ref li])).length) Slot.unset).toArray = ls at hl ⊢
  have hl : lv_has ls 1 [(0, .ref li)] := hl
  refine lv_aload_n hx hb dJx4a65c_grow_d5877_0 rfl (lv_at hl 0 rfl) ?_
  refine lv_aload_n hx hb dJx4a65c_grow_d5877_1 rfl (lv_at hl 0 rfl) ?_
  have hinJx4a65c : ∀ w ∈ u_ws RJx4a65c TJx4a65c 3, w ∈ wsJx4a65c_grow_d5877 := by decide +kernel
  refine va_get (D := (dC, dI)) (ci := 1) (v := .int 0) (C := RJx4a65c) (T := TJx4a65c) (N := 3) hx hb hts hinJx4a65c hown hK hP 0 rfl rfl 2 (by decide) (hts (.fieldLink RJx4a65c 48 "java/util/ArrayList" "size" "I") (by decide +kernel)) (fun _ h9 => h9) rfl dJx4a65c_grow_d5877_2 ?_
  refine lv_iconst (v := 1) hx hb dJx4a65c_grow_d5877_5 (by decide) ?_
  refine lv_iadd hx hb dJx4a65c_grow_d5877_6 ?_
  refine lv_topi (fun y_1 ey_1 => ?_)
  obtain rfl : y_1 = 1 := ey_1.trans (by decide)
  have hPc := hP.sub (ws' := [(li, .inr (1, [.int 1, .ref dz, .int 0]))]) [0] rfl
  have hDc := hD.sub (ws' := [(li, .inr (1, [.int 1, .ref dz, .int 0]))]) [0] (by decide) rfl
  have hKc := hK.sub (tys' := []) [] rfl
  have hFc := va_free (wc := [(li, .inr (1, [.int 1, .ref dz, .int 0]))]) hD hS hA [0] rfl
  refine va_callr (va_runV (As := [.int 1]) (rest := []) ⟨hx, hb, hml, hown, hts⟩ (c_Jx4a65c_grow_92f84 l dC dI dz dz tc ad li _ ) (cwV 1 hts gJx4a65c_grow_d5877_Jx4a65c_grow_92f84 rfl rfl rfl (by decide +kernel) ⟨Nat.le_of_ble_eq_true rfl, Nat.le_of_ble_eq_true rfl⟩) ⟨pe_blind ca_bl, va_recv hKc hPc (ci := 1) (q0 := 0) rfl rfl, fun U hU hW => ⟨rfl, pr_mk hU hW hPc hKc hDc, ca_mk hU hW hS hFc hXs⟩⟩ rfl rfl hl.1 rfl (lv_room (Nat.le_of_ble_eq_true rfl)) dJx4a65c_grow_d5877_7 ⟨Nat.le_of_ble_eq_true rfl, Nat.le_of_ble_eq_true rfl⟩) hS (fun q _ h => hFc q h) hFc (fun u_2 r_3 t H1 locs ht hvm hw hB hz1 hk1 hS => ?_)
  obtain ⟨q_4, rfl⟩ : ∃ z, z = u_2 := ⟨_, rfl⟩
  obtain ⟨hP1, hK1, hD1⟩ := hB
  rw [ht] at hP1
  obtain ⟨hP, hD⟩ := va_join (wr := []) (w1 := [(li, .inr (1, [.int 1, .ref r_3, .int 0])), (r_3, .inl (q_4, 10, .inr (.inr (.inr (.inr (fun _ => none))))))]) hP hD [0] [] rfl rfl (by decide) (by decide) hk1 hFc hP1 hD1
  have hK := hK.app (va_K.moved hvm.symm hK1)
  have hK : va_K (dC, dI) vwCl [(q_4, .object "java/lang/Object")] s := hK
  generalize H1 = H at hP hS ⊢
  have hP : va_P (dC, dI) vwCl [(li, .inr (1, [.int 1, .ref r_3, .int 0])), (r_3, .inl (q_4, 10, .inr (.inr (.inr (.inr (fun _ => none))))))] H := hP
  have hD : va_D A [(li, .inr (1, [.int 1, .ref r_3, .int 0])), (r_3, .inl (q_4, 10, .inr (.inr (.inr (.inr (fun _ => none))))))] := hD
  refine W.widen (k := 1) (n := 10) (Nat.le_of_ble_eq_true rfl) (Nat.le_of_ble_eq_true rfl) ?_
  have hP9 := hP.sub (ws' := [(li, .inr (1, [.int 1, .ref r_3, .int 0])), (r_3, .inl (q_4, 10, .inr (.inr (.inr (.inr (fun _ => none))))))]) [0, 1] rfl
  have hD9 := hD.sub (ws' := [(li, .inr (1, [.int 1, .ref r_3, .int 0])), (r_3, .inl (q_4, 10, .inr (.inr (.inr (.inr (fun _ => none))))))]) [0, 1] (by decide) rfl
  have hK9 := hK.sub (tys' := [(q_4, .object "java/lang/Object")]) [0] rfl
  refine W.widen (k := 1) (n := 10) (Nat.le_of_ble_eq_true rfl) (Nat.le_of_ble_eq_true rfl) ?_
  exact W.aret (v := .ref r_3) (rt := (.array (.object "java/lang/Object"))) hx hb hr (Or.inr ⟨_, rfl⟩) (Or.inr ⟨_, rfl⟩) (fun t ht hW => ⟨⟨q_4, r_3, rfl, trivial, po_mk ht hW hP9 hK9 hD9⟩, hS.F ht⟩) hS.2.2 dJx4a65c_grow_d5877_10

set_option maxHeartbeats 4000000 in
set_option maxRecDepth 100000 in
theorem c_Jx4a65c_add_72be8 (l : Launch) (dC : Nat → ClassId) (dI : Nat → Nat → Nat) (dz : Nat) (dz : Nat) (tc : Nat) (ad : Nat → Nat) (li : Nat) (ve : Nat) (sz : Nat) (hv : ∃ k, k < 256 ∧ ad k = ve) : Met l yJx4a65c_add_72be8 wsJx4a65c_add_72be8 ({ frames := 5, cells := 1, slots := 10, locals := 140 }) (va_Pc [.ref li, .ref ve, .ref dz, .int 0] (fun U => pr_ dC dI [(li, .inr (1, [.int 1, .ref dz, .int 0]))] [] sz U ∧ ca_ (va_A [(li, .inr (1, [.int 1, .ref dz, .int 0]))] sz) dz tc ad U)) (va_Qv (fun (_ : Nat) => True) (fun (el : Nat) t => po_ dC dI [(li, .inr (1, [.int 1, .ref el, .int 1]))] [] (va_A [(li, .inr (1, [.int 1, .ref dz, .int 0]))] sz) t) (va_A [(li, .inr (1, [.int 1, .ref dz, .int 0]))] sz)) 1 10 (va_A [(li, .inr (1, [.int 1, .ref dz, .int 0]))] sz) := by
  refine Met.ofW (cc := cJx4a65c_add_72be8) (maxL := 4) (ret := none) (by decide) rfl ?_
  intro p e s m args below meth c s₁ B hml hv
  obtain ⟨rfl, ⟨hsz, hP, hK, hD0⟩, hXs⟩ := hv
  have hx := B.exec
  have hb := B.bytes
  have hr := B.returns
  have hts := atoms_spec (ws := wsJx4a65c_add_72be8) B.pre
  have hown : s.vm.findClass RJx4a65c = some m.cls := findClass_of_methodNamed B.named
  have hlocks := B.notSynchronized
  subst hsz
  have hD := hD0.self (sz := s.heap.size)
  generalize hAe : va_A [(li, .inr (1, [.int 1, .ref dz, .int 0]))] s.heap.size = A at hD hXs ⊢
  have hA : ∀ q : Nat, s.heap.size ≤ q → A q := fun q h => by rw [← hAe]; exact Or.inr h
  have hS : va_S A s.heap s.heap [] := va_S.rf
  have hP : va_P (dC, dI) vwCl [(li, .inr (1, [.int 1, .ref dz, .int 0]))] s.heap := hP
  have hK : va_K (dC, dI) vwCl [] s := hK
  have hl := lv_entry ([.ref li, .ref ve, .ref dz, .int 0]) (n := 4) (Nat.le_of_ble_eq_true rfl)
  rw [lg_entry_eq]
  generalize (lg_sl ([.ref li, .ref ve, .ref dz, .int 0]) ++ List.replicate (4 - (lg_sl ([.ref li, .ref ve, .ref dz, .int 0])).length) Slot.unset).toArray = ls at hl ⊢
  have hl : lv_has ls 4 [(0, .ref li), (1, .ref ve), (2, .ref dz), (3, .int 0)] := hl
  refine lv_iload_n hx hb dJx4a65c_add_72be8_0 rfl (lv_at hl 3 rfl) ?_
  refine lv_aload_n hx hb dJx4a65c_add_72be8_1 rfl (lv_at hl 2 rfl) ?_
  refine va_tlen (v := 0) hx hb (ca_t hXs) hS (by decide) dJx4a65c_add_72be8_2 ?_
  refine lv_icmp_ne (tgt := 11) hx hb dJx4a65c_add_72be8_3 (by decide) (fun h9 => absurd h9 (by decide)) (fun _ => ?_)
  refine lv_aload_n hx hb dJx4a65c_add_72be8_6 rfl (lv_at hl 0 rfl) ?_
  have hPc := hP.sub (ws' := [(li, .inr (1, [.int 1, .ref dz, .int 0]))]) [0] rfl
  have hDc := hD.sub (ws' := [(li, .inr (1, [.int 1, .ref dz, .int 0]))]) [0] (by decide) rfl
  have hKc := hK.sub (tys' := []) [] rfl
  have hFc := va_free (wc := [(li, .inr (1, [.int 1, .ref dz, .int 0]))]) hD hS hA [0] rfl
  refine va_callr (va_runV (As := []) (rest := []) ⟨hx, hb, hml, hown, hts⟩ (c_Jx4a65c_grow_d5877 l dC dI dz dz tc ad li _ ) (cwV 0 hts gJx4a65c_add_72be8_Jx4a65c_grow_d5877 rfl rfl rfl (by decide +kernel) ⟨Nat.le_of_ble_eq_true rfl, Nat.le_of_ble_eq_true rfl⟩) ⟨pe_blind ca_bl, va_recv hKc hPc (ci := 1) (q0 := 0) rfl rfl, fun U hU hW => ⟨rfl, pr_mk hU hW hPc hKc hDc, ca_mk hU hW hS hFc hXs⟩⟩ rfl rfl hl.1 rfl (lv_room (Nat.le_of_ble_eq_true rfl)) dJx4a65c_add_72be8_7 ⟨Nat.le_of_ble_eq_true rfl, Nat.le_of_ble_eq_true rfl⟩) hS (fun q _ h => hFc q h) hFc (fun u_1 r_2 t H1 locs ht hvm hw hB hz1 hk1 hS => ?_)
  obtain ⟨q_3, rfl⟩ : ∃ z, z = u_1 := ⟨_, rfl⟩
  obtain ⟨hP1, hK1, hD1⟩ := hB
  rw [ht] at hP1
  obtain ⟨hP, hD⟩ := va_join (wr := []) (w1 := [(li, .inr (1, [.int 1, .ref r_2, .int 0])), (r_2, .inl (q_3, 10, .inr (.inr (.inr (.inr (fun _ => none))))))]) hP hD [0] [] rfl rfl (by decide) (by decide) hk1 hFc hP1 hD1
  have hK := hK.app (va_K.moved hvm.symm hK1)
  have hK : va_K (dC, dI) vwCl [(q_3, .object "java/lang/Object")] s := hK
  generalize H1 = H at hP hS ⊢
  have hP : va_P (dC, dI) vwCl [(li, .inr (1, [.int 1, .ref r_2, .int 0])), (r_2, .inl (q_3, 10, .inr (.inr (.inr (.inr (fun _ => none))))))] H := hP
  have hD : va_D A [(li, .inr (1, [.int 1, .ref r_2, .int 0])), (r_2, .inl (q_3, 10, .inr (.inr (.inr (.inr (fun _ => none))))))] := hD
  refine W.widen (k := 1) (n := 10) (Nat.le_of_ble_eq_true rfl) (Nat.le_of_ble_eq_true rfl) ?_
  refine lv_astore_n (lv' := [(2, .ref r_2), (0, .ref li), (1, .ref ve), (3, .int 0)]) hx hb dJx4a65c_add_72be8_10 rfl hl (by decide) rfl (fun ls hl => ?_)
  refine lv_aload_n hx hb dJx4a65c_add_72be8_11 rfl (lv_at hl 0 rfl) ?_
  refine lv_iload_n hx hb dJx4a65c_add_72be8_12 rfl (lv_at hl 3 rfl) ?_
  refine lv_aload_n hx hb dJx4a65c_add_72be8_13 rfl (lv_at hl 2 rfl) ?_
  refine vb_astq (E := "java/lang/Object") (C := "java/lang/Integer") hx hb hK hP hD hS 1 0 rfl rfl (ca_in hXs hS hv) (vb_asgC (ca_k hXs)) (by unfold vp_in; decide) dJx4a65c_add_72be8_14 (fun H locs hP hD hS => ?_)
  have hP : va_P (dC, dI) vwCl [(li, .inr (1, [.int 1, .ref r_2, .int 0])), (r_2, .inl (q_3, 10, .inr (.inr (.inr (.inr (va_up (fun _ => none) (0 : Int32).toNatClampNeg (some ve)))))))] H := hP
  have hD : va_D A [(li, .inr (1, [.int 1, .ref r_2, .int 0])), (r_2, .inl (q_3, 10, .inr (.inr (.inr (.inr (va_up (fun _ => none) (0 : Int32).toNatClampNeg (some ve)))))))] := hD
  refine lv_aload_n hx hb dJx4a65c_add_72be8_15 rfl (lv_at hl 1 rfl) ?_
  refine lv_iload_n hx hb dJx4a65c_add_72be8_16 rfl (lv_at hl 3 rfl) ?_
  refine lv_iconst (v := 1) hx hb dJx4a65c_add_72be8_17 (by decide) ?_
  refine lv_iadd hx hb dJx4a65c_add_72be8_18 ?_
  refine lv_topi (fun y_4 ey_4 => ?_)
  obtain rfl : y_4 = 1 := ey_4.trans (by decide)
  have hinJx4a65c : ∀ w ∈ u_ws RJx4a65c TJx4a65c 3, w ∈ wsJx4a65c_add_72be8 := by decide +kernel
  refine va_put (D := (dC, dI)) (ci := 1) (v := .int 1) (ty := .int) (C := RJx4a65c) (T := TJx4a65c) (N := 3) hx hb hts hinJx4a65c tyJx4a65c tyJx4a65c_ok nmJx4a65c hown hK hP hD hS 0 rfl rfl 2 (by decide) (hts (.fieldLink RJx4a65c 48 "java/util/ArrayList" "size" "I") (by decide +kernel)) (fun _ h9 => h9) rfl (by decide +kernel) rfl rfl (Nat.le_of_ble_eq_true rfl) dJx4a65c_add_72be8_19 (fun H locs hP hD hS => ?_)
  have hP : va_P (dC, dI) vwCl [(li, .inr (1, [.int 1, .ref r_2, .int 1])), (r_2, .inl (q_3, 10, .inr (.inr (.inr (.inr (va_up (fun _ => none) (0 : Int32).toNatClampNeg (some ve)))))))] H := hP
  have hD : va_D A [(li, .inr (1, [.int 1, .ref r_2, .int 1])), (r_2, .inl (q_3, 10, .inr (.inr (.inr (.inr (va_up (fun _ => none) (0 : Int32).toNatClampNeg (some ve)))))))] := hD
  have hP9 := hP.sub (ws' := [(li, .inr (1, [.int 1, .ref r_2, .int 1]))]) [0] rfl
  have hD9 := hD.sub (ws' := [(li, .inr (1, [.int 1, .ref r_2, .int 1]))]) [0] (by decide) rfl
  have hK9 := hK.sub (tys' := []) [] rfl
  refine W.widen (k := 1) (n := 10) (Nat.le_of_ble_eq_true rfl) (Nat.le_of_ble_eq_true rfl) ?_
  exact W.vret hx hb hr (fun t ht hW => ⟨⟨r_2, rfl, trivial, po_mk ht hW hP9 hK9 hD9⟩, hS.F ht⟩) hS.2.2 dJx4a65c_add_72be8_22

set_option maxHeartbeats 4000000 in
set_option maxRecDepth 100000 in
theorem c_Jx4a65c_add_9ea2d (l : Launch) (dC : Nat → ClassId) (dI : Nat → Nat → Nat) (dz : Nat) (dz : Nat) (tc : Nat) (ad : Nat → Nat) (li : Nat) (ve : Nat) (sz : Nat) (hv : ∃ k, k < 256 ∧ ad k = ve) : Met l yJx4a65c_add_9ea2d wsJx4a65c_add_9ea2d ({ frames := 6, cells := 1, slots := 10, locals := 170 }) (va_Pc [.ref li, .ref ve] (fun U => pr_ dC dI [(li, .inr (1, [.int 0, .ref dz, .int 0]))] [] sz U ∧ ca_ (va_A [(li, .inr (1, [.int 0, .ref dz, .int 0]))] sz) dz tc ad U)) (va_Qi (fun (r : Int32) (_ : Nat) => r = 1) (fun (el : Nat) t => po_ dC dI [(li, .inr (1, [.int 1, .ref el, .int 1]))] [] (va_A [(li, .inr (1, [.int 0, .ref dz, .int 0]))] sz) t) (va_A [(li, .inr (1, [.int 0, .ref dz, .int 0]))] sz)) 1 10 (va_A [(li, .inr (1, [.int 0, .ref dz, .int 0]))] sz) := by
  refine Met.ofW (cc := cJx4a65c_add_9ea2d) (maxL := 2) (ret := (some .boolean)) (by decide) rfl ?_
  intro p e s m args below meth c s₁ B hml hv
  obtain ⟨rfl, ⟨hsz, hP, hK, hD0⟩, hXs⟩ := hv
  have hx := B.exec
  have hb := B.bytes
  have hr := B.returns
  have hts := atoms_spec (ws := wsJx4a65c_add_9ea2d) B.pre
  have hown : s.vm.findClass RJx4a65c = some m.cls := findClass_of_methodNamed B.named
  have hlocks := B.notSynchronized
  subst hsz
  have hD := hD0.self (sz := s.heap.size)
  generalize hAe : va_A [(li, .inr (1, [.int 0, .ref dz, .int 0]))] s.heap.size = A at hD hXs ⊢
  have hA : ∀ q : Nat, s.heap.size ≤ q → A q := fun q h => by rw [← hAe]; exact Or.inr h
  have hS : va_S A s.heap s.heap [] := va_S.rf
  have hP : va_P (dC, dI) vwCl [(li, .inr (1, [.int 0, .ref dz, .int 0]))] s.heap := hP
  have hK : va_K (dC, dI) vwCl [] s := hK
  have hl := lv_entry ([.ref li, .ref ve]) (n := 2) (Nat.le_of_ble_eq_true rfl)
  rw [lg_entry_eq]
  generalize (lg_sl ([.ref li, .ref ve]) ++ List.replicate (2 - (lg_sl ([.ref li, .ref ve])).length) Slot.unset).toArray = ls at hl ⊢
  have hl : lv_has ls 2 [(0, .ref li), (1, .ref ve)] := hl
  refine lv_aload_n hx hb dJx4a65c_add_9ea2d_0 rfl (lv_at hl 0 rfl) ?_
  refine lv_dup hx hb dJx4a65c_add_9ea2d_1 rfl ?_
  have hinJx4a65c : ∀ w ∈ u_ws RJx4a65c TJx4a65c 3, w ∈ wsJx4a65c_add_9ea2d := by decide +kernel
  refine va_get (D := (dC, dI)) (ci := 1) (v := .int 0) (C := RJx4a65c) (T := TJx4a65c) (N := 3) hx hb hts hinJx4a65c hown hK hP 0 rfl rfl 0 (by decide) (hts (.fieldLink RJx4a65c 63 "java/util/ArrayList" "modCount" "I") (by decide +kernel)) (fun x9 h9 => u_same (hts (.sameField "java/util/ArrayList" "java/util/AbstractList" "modCount" "I") (by decide +kernel)) x9 h9) rfl dJx4a65c_add_9ea2d_2 ?_
  refine lv_iconst (v := 1) hx hb dJx4a65c_add_9ea2d_5 (by decide) ?_
  refine lv_iadd hx hb dJx4a65c_add_9ea2d_6 ?_
  refine lv_topi (fun y_1 ey_1 => ?_)
  obtain rfl : y_1 = 1 := ey_1.trans (by decide)
  refine va_put (D := (dC, dI)) (ci := 1) (v := .int 1) (ty := .int) (C := RJx4a65c) (T := TJx4a65c) (N := 3) hx hb hts hinJx4a65c tyJx4a65c tyJx4a65c_ok nmJx4a65c hown hK hP hD hS 0 rfl rfl 0 (by decide) (hts (.fieldLink RJx4a65c 63 "java/util/ArrayList" "modCount" "I") (by decide +kernel)) (fun x9 h9 => u_same (hts (.sameField "java/util/ArrayList" "java/util/AbstractList" "modCount" "I") (by decide +kernel)) x9 h9) rfl (by decide +kernel) rfl rfl (Nat.le_of_ble_eq_true rfl) dJx4a65c_add_9ea2d_7 (fun H locs hP hD hS => ?_)
  have hP : va_P (dC, dI) vwCl [(li, .inr (1, [.int 1, .ref dz, .int 0]))] H := hP
  have hD : va_D A [(li, .inr (1, [.int 1, .ref dz, .int 0]))] := hD
  refine lv_aload_n hx hb dJx4a65c_add_9ea2d_10 rfl (lv_at hl 0 rfl) ?_
  refine lv_aload_n hx hb dJx4a65c_add_9ea2d_11 rfl (lv_at hl 1 rfl) ?_
  refine lv_aload_n hx hb dJx4a65c_add_9ea2d_12 rfl (lv_at hl 0 rfl) ?_
  refine va_get (D := (dC, dI)) (ci := 1) (v := .ref dz) (C := RJx4a65c) (T := TJx4a65c) (N := 3) hx hb hts hinJx4a65c hown hK hP 0 rfl rfl 1 (by decide) (hts (.fieldLink RJx4a65c 9 "java/util/ArrayList" "elementData" "[Ljava/lang/Object;") (by decide +kernel)) (fun _ h9 => h9) rfl dJx4a65c_add_9ea2d_13 ?_
  refine lv_aload_n hx hb dJx4a65c_add_9ea2d_16 rfl (lv_at hl 0 rfl) ?_
  refine va_get (D := (dC, dI)) (ci := 1) (v := .int 0) (C := RJx4a65c) (T := TJx4a65c) (N := 3) hx hb hts hinJx4a65c hown hK hP 0 rfl rfl 2 (by decide) (hts (.fieldLink RJx4a65c 48 "java/util/ArrayList" "size" "I") (by decide +kernel)) (fun _ h9 => h9) rfl dJx4a65c_add_9ea2d_17 ?_
  have hPc := hP.sub (ws' := [(li, .inr (1, [.int 1, .ref dz, .int 0]))]) [0] rfl
  have hDc := hD.sub (ws' := [(li, .inr (1, [.int 1, .ref dz, .int 0]))]) [0] (by decide) rfl
  have hKc := hK.sub (tys' := []) [] rfl
  have hFc := va_free (wc := [(li, .inr (1, [.int 1, .ref dz, .int 0]))]) hD hS hA [0] rfl
  refine va_callv (va_runV (As := [.ref ve, .ref dz, .int 0]) (rest := []) ⟨hx, hb, hml, hown, hts⟩ (c_Jx4a65c_add_72be8 l dC dI dz dz tc ad li ve _ hv) (cwV 3 hts gJx4a65c_add_9ea2d_Jx4a65c_add_72be8 rfl rfl rfl (by decide +kernel) ⟨Nat.le_of_ble_eq_true rfl, Nat.le_of_ble_eq_true rfl⟩) ⟨pe_blind ca_bl, va_recv hKc hPc (ci := 1) (q0 := 0) rfl rfl, fun U hU hW => ⟨rfl, pr_mk hU hW hPc hKc hDc, ca_mk hU hW hS hFc hXs⟩⟩ rfl rfl hl.1 rfl (lv_room (Nat.le_of_ble_eq_true rfl)) dJx4a65c_add_9ea2d_20 ⟨Nat.le_of_ble_eq_true rfl, Nat.le_of_ble_eq_true rfl⟩) hS (fun q _ h => hFc q h) hFc (fun u_2 t H1 locs ht hvm hw hB hz1 hk1 hS => ?_)
  obtain ⟨q_4, rfl⟩ : ∃ z, z = u_2 := ⟨_, rfl⟩
  obtain ⟨hP1, hK1, hD1⟩ := hB
  rw [ht] at hP1
  obtain ⟨hP, hD⟩ := va_join (wr := []) (w1 := [(li, .inr (1, [.int 1, .ref q_4, .int 1]))]) hP hD [0] [] rfl rfl (by decide) (by decide) hk1 hFc hP1 hD1
  generalize H1 = H at hP hS ⊢
  have hP : va_P (dC, dI) vwCl [(li, .inr (1, [.int 1, .ref q_4, .int 1]))] H := hP
  have hD : va_D A [(li, .inr (1, [.int 1, .ref q_4, .int 1]))] := hD
  refine W.widen (k := 1) (n := 10) (Nat.le_of_ble_eq_true rfl) (Nat.le_of_ble_eq_true rfl) ?_
  refine lv_iconst (v := 1) hx hb dJx4a65c_add_9ea2d_23 (by decide) ?_
  have hP9 := hP.sub (ws' := [(li, .inr (1, [.int 1, .ref q_4, .int 1]))]) [0] rfl
  have hD9 := hD.sub (ws' := [(li, .inr (1, [.int 1, .ref q_4, .int 1]))]) [0] (by decide) rfl
  have hK9 := hK.sub (tys' := []) [] rfl
  refine W.widen (k := 1) (n := 10) (Nat.le_of_ble_eq_true rfl) (Nat.le_of_ble_eq_true rfl) ?_
  exact W.zret (v := 1) hx hb hr rfl (fun t ht hW => ⟨⟨1, q_4, rfl, rfl, po_mk ht hW hP9 hK9 hD9⟩, hS.F ht⟩) hS.2.2 dJx4a65c_add_9ea2d_24

set_option maxHeartbeats 4000000 in
set_option maxRecDepth 100000 in
theorem c0_X8_candidate (l : Launch) (dC : Nat → ClassId) (dI : Nat → Nat → Nat) (mm : Nat) (pl : Nat) (ig : Nat) (sl : Nat) (kl : Nat) (dz : Nat) (dz : Nat) (a0 : Int32) (sz : Nat) (hbd : a0 < 0 ∨ 3 < a0) : Met l yX8_candidate wsX8_candidate ({ frames := 5, cells := 0, slots := 0, locals := 140 }) (va_Pc [.ref mm, .int a0] (pr_ dC dI [(mm, .inr (10, [.int 0, .ref pl, .ref ig, .ref sl, .ref kl, .int 0, .int 0, .int 0])), (pl, .inr (1, [.int 0, .ref dz, .int 0])), (sl, .inr (1, [.int 0, .ref dz, .int 0])), (kl, .inr (1, [.int 0, .ref dz, .int 0]))] [] sz)) (va_Qi (fun (r : Int32) (_ : Unit) => r = 0) (fun (_ : Unit) t => po_ dC dI [(mm, .inr (10, [.int 1, .ref pl, .ref ig, .ref sl, .ref kl, .int 0, .int 0, .int 0]))] [] (va_A [(mm, .inr (10, [.int 0, .ref pl, .ref ig, .ref sl, .ref kl, .int 0, .int 0, .int 0])), (pl, .inr (1, [.int 0, .ref dz, .int 0])), (sl, .inr (1, [.int 0, .ref dz, .int 0])), (kl, .inr (1, [.int 0, .ref dz, .int 0]))] sz) t) (va_A [(mm, .inr (10, [.int 0, .ref pl, .ref ig, .ref sl, .ref kl, .int 0, .int 0, .int 0])), (pl, .inr (1, [.int 0, .ref dz, .int 0])), (sl, .inr (1, [.int 0, .ref dz, .int 0])), (kl, .inr (1, [.int 0, .ref dz, .int 0]))] sz)) 0 0 (va_A [(mm, .inr (10, [.int 0, .ref pl, .ref ig, .ref sl, .ref kl, .int 0, .int 0, .int 0])), (pl, .inr (1, [.int 0, .ref dz, .int 0])), (sl, .inr (1, [.int 0, .ref dz, .int 0])), (kl, .inr (1, [.int 0, .ref dz, .int 0]))] sz) := by
  refine Met.ofW (cc := cX8_candidate) (maxL := 2) (ret := (some .int)) (by decide) rfl ?_
  intro p e s m args below meth c s₁ B hml hv
  obtain ⟨rfl, hsz, hP, hK, hD0⟩ := hv
  have hx := B.exec
  have hb := B.bytes
  have hr := B.returns
  have hts := atoms_spec (ws := wsX8_candidate) B.pre
  have hown : s.vm.findClass RX8 = some m.cls := findClass_of_methodNamed B.named
  have hlocks := B.notSynchronized
  subst hsz
  have hD := hD0.self (sz := s.heap.size)
  generalize hAe : va_A [(mm, .inr (10, [.int 0, .ref pl, .ref ig, .ref sl, .ref kl, .int 0, .int 0, .int 0])), (pl, .inr (1, [.int 0, .ref dz, .int 0])), (sl, .inr (1, [.int 0, .ref dz, .int 0])), (kl, .inr (1, [.int 0, .ref dz, .int 0]))] s.heap.size = A at hD ⊢
  have hA : ∀ q : Nat, s.heap.size ≤ q → A q := fun q h => by rw [← hAe]; exact Or.inr h
  have hS : va_S A s.heap s.heap [] := va_S.rf
  have hP : va_P (dC, dI) vwCl [(mm, .inr (10, [.int 0, .ref pl, .ref ig, .ref sl, .ref kl, .int 0, .int 0, .int 0])), (pl, .inr (1, [.int 0, .ref dz, .int 0])), (sl, .inr (1, [.int 0, .ref dz, .int 0])), (kl, .inr (1, [.int 0, .ref dz, .int 0]))] s.heap := hP
  have hK : va_K (dC, dI) vwCl [] s := hK
  have hl := lv_entry ([.ref mm, .int a0]) (n := 2) (Nat.le_of_ble_eq_true rfl)
  rw [lg_entry_eq]
  generalize (lg_sl ([.ref mm, .int a0]) ++ List.replicate (2 - (lg_sl ([.ref mm, .int a0])).length) Slot.unset).toArray = ls at hl ⊢
  have hl : lv_has ls 2 [(0, .ref mm), (1, .int a0)] := hl
  refine lv_aload_n hx hb dX8_candidate_0 rfl (lv_at hl 0 rfl) ?_
  refine lv_iconst (v := 0) hx hb dX8_candidate_1 (by decide) ?_
  have hinX8 : ∀ w ∈ u_ws RX8 TX8 8, w ∈ wsX8_candidate := by decide +kernel
  refine va_put (D := (dC, dI)) (ci := 10) (v := .int 0) (ty := .int) (C := RX8) (T := TX8) (N := 8) hx hb hts hinX8 tyX8 tyX8_ok nmX8 hown hK hP hD hS 0 rfl rfl 0 (by decide) (hts (.fieldLink RX8 26 "BallotLoomModel" "thrown" "I") (by decide +kernel)) (fun _ h9 => h9) rfl (by decide +kernel) rfl rfl (Nat.le_of_ble_eq_true rfl) dX8_candidate_2 (fun H locs hP hD hS => ?_)
  have hP : va_P (dC, dI) vwCl [(mm, .inr (10, [.int 0, .ref pl, .ref ig, .ref sl, .ref kl, .int 0, .int 0, .int 0])), (pl, .inr (1, [.int 0, .ref dz, .int 0])), (sl, .inr (1, [.int 0, .ref dz, .int 0])), (kl, .inr (1, [.int 0, .ref dz, .int 0]))] H := hP
  have hD : va_D A [(mm, .inr (10, [.int 0, .ref pl, .ref ig, .ref sl, .ref kl, .int 0, .int 0, .int 0])), (pl, .inr (1, [.int 0, .ref dz, .int 0])), (sl, .inr (1, [.int 0, .ref dz, .int 0])), (kl, .inr (1, [.int 0, .ref dz, .int 0]))] := hD
  refine lv_iload_n hx hb dX8_candidate_5 rfl (lv_at hl 1 rfl) ?_
  refine lv_iconst (v := 0) hx hb dX8_candidate_6 (by decide) ?_
  refine lv_iconst (v := 3) hx hb dX8_candidate_7 (by decide) ?_
  have hPc := hP.sub (ws' := []) [] rfl
  have hDc := hD.sub (ws' := []) [] (by decide) rfl
  have hKc := hK.sub (tys' := []) [] rfl
  have hFc := va_free (wc := []) hD hS hA [] rfl
  refine va_calli (va_runS (As := [.int a0, .int 0, .int 3]) (rest := []) ⟨hx, hb, hml, hown, hts⟩ (c0_X8_in l dC dI a0 (0 : Int32) (3 : Int32) _ hbd) (va_cwS 3 hts gX8_candidate_X8_in rfl rfl rfl (by decide +kernel) ⟨Nat.le_of_ble_eq_true rfl, Nat.le_of_ble_eq_true rfl⟩) ⟨pr_blind, fun U hU hW => ⟨rfl, pr_mk hU hW hPc hKc hDc⟩⟩ rfl rfl hl.1 rfl (lv_room (Nat.le_of_ble_eq_true rfl)) dX8_candidate_8 ⟨Nat.le_of_ble_eq_true rfl, Nat.le_of_ble_eq_true rfl⟩) hS (fun q _ h => hFc q h) hFc (fun r_2 u_1 t H1 locs ht hvm hw hB hz1 hk1 hS => ?_)
  obtain ⟨hP1, hK1, hD1⟩ := hB
  rw [ht] at hP1
  obtain ⟨hP, hD⟩ := va_join (wr := [(mm, .inr (10, [.int 0, .ref pl, .ref ig, .ref sl, .ref kl, .int 0, .int 0, .int 0])), (pl, .inr (1, [.int 0, .ref dz, .int 0])), (sl, .inr (1, [.int 0, .ref dz, .int 0])), (kl, .inr (1, [.int 0, .ref dz, .int 0]))]) (w1 := []) hP hD [] [0, 1, 2, 3] rfl rfl (by decide) (by decide) hk1 hFc hP1 hD1
  generalize H1 = H at hP hS ⊢
  have hP : va_P (dC, dI) vwCl [(mm, .inr (10, [.int 0, .ref pl, .ref ig, .ref sl, .ref kl, .int 0, .int 0, .int 0])), (pl, .inr (1, [.int 0, .ref dz, .int 0])), (sl, .inr (1, [.int 0, .ref dz, .int 0])), (kl, .inr (1, [.int 0, .ref dz, .int 0]))] H := hP
  have hD : va_D A [(mm, .inr (10, [.int 0, .ref pl, .ref ig, .ref sl, .ref kl, .int 0, .int 0, .int 0])), (pl, .inr (1, [.int 0, .ref dz, .int 0])), (sl, .inr (1, [.int 0, .ref dz, .int 0])), (kl, .inr (1, [.int 0, .ref dz, .int 0]))] := hD
  refine W.widen (k := 0) (n := 0) (Nat.le_refl _) (Nat.le_refl _) ?_
  have hw : r_2 = 0 := hw
  subst hw
  refine lv_if_ne (tgt := 20) hx hb dX8_candidate_11 (by decide) (fun h9 => absurd h9 (by decide)) (fun _ => ?_)
  refine lv_aload_n hx hb dX8_candidate_14 rfl (lv_at hl 0 rfl) ?_
  refine lv_iconst (v := 1) hx hb dX8_candidate_15 (by decide) ?_
  have hPc := hP.sub (ws' := [(mm, .inr (10, [.int 0, .ref pl, .ref ig, .ref sl, .ref kl, .int 0, .int 0, .int 0]))]) [0] rfl
  have hDc := hD.sub (ws' := [(mm, .inr (10, [.int 0, .ref pl, .ref ig, .ref sl, .ref kl, .int 0, .int 0, .int 0]))]) [0] (by decide) rfl
  have hKc := hK.sub (tys' := []) [] rfl
  have hFc := va_free (wc := [(mm, .inr (10, [.int 0, .ref pl, .ref ig, .ref sl, .ref kl, .int 0, .int 0, .int 0]))]) hD hS hA [0] rfl
  refine va_calli (va_runV (As := [.int 1]) (rest := []) ⟨hx, hb, hml, hown, hts⟩ (c_X8_no l dC dI mm pl ig sl kl (1 : Int32) (0 : Int32) _ ) (cwV 1 hts gX8_candidate_X8_no rfl rfl rfl (by decide +kernel) ⟨Nat.le_of_ble_eq_true rfl, Nat.le_of_ble_eq_true rfl⟩) ⟨pr_blind, va_recv hKc hPc (ci := 10) (q0 := 0) rfl rfl, fun U hU hW => ⟨rfl, pr_mk hU hW hPc hKc hDc⟩⟩ rfl rfl hl.1 rfl (lv_room (Nat.le_of_ble_eq_true rfl)) dX8_candidate_16 ⟨Nat.le_of_ble_eq_true rfl, Nat.le_of_ble_eq_true rfl⟩) hS (fun q _ h => hFc q h) hFc (fun r_4 u_3 t H1 locs ht hvm hw hB hz1 hk1 hS => ?_)
  obtain ⟨hP1, hK1, hD1⟩ := hB
  rw [ht] at hP1
  obtain ⟨hP, hD⟩ := va_join (wr := [(pl, .inr (1, [.int 0, .ref dz, .int 0])), (sl, .inr (1, [.int 0, .ref dz, .int 0])), (kl, .inr (1, [.int 0, .ref dz, .int 0]))]) (w1 := [(mm, .inr (10, [.int 1, .ref pl, .ref ig, .ref sl, .ref kl, .int 0, .int 0, .int 0]))]) hP hD [0] [1, 2, 3] rfl rfl (by decide) (by decide) hk1 hFc hP1 hD1
  generalize H1 = H at hP hS ⊢
  have hP : va_P (dC, dI) vwCl [(pl, .inr (1, [.int 0, .ref dz, .int 0])), (sl, .inr (1, [.int 0, .ref dz, .int 0])), (kl, .inr (1, [.int 0, .ref dz, .int 0])), (mm, .inr (10, [.int 1, .ref pl, .ref ig, .ref sl, .ref kl, .int 0, .int 0, .int 0]))] H := hP
  have hD : va_D A [(pl, .inr (1, [.int 0, .ref dz, .int 0])), (sl, .inr (1, [.int 0, .ref dz, .int 0])), (kl, .inr (1, [.int 0, .ref dz, .int 0])), (mm, .inr (10, [.int 1, .ref pl, .ref ig, .ref sl, .ref kl, .int 0, .int 0, .int 0]))] := hD
  refine W.widen (k := 0) (n := 0) (Nat.le_refl _) (Nat.le_refl _) ?_
  have hw : r_4 = 0 := hw
  subst hw
  have hP9 := hP.sub (ws' := [(mm, .inr (10, [.int 1, .ref pl, .ref ig, .ref sl, .ref kl, .int 0, .int 0, .int 0]))]) [3] rfl
  have hD9 := hD.sub (ws' := [(mm, .inr (10, [.int 1, .ref pl, .ref ig, .ref sl, .ref kl, .int 0, .int 0, .int 0]))]) [3] (by decide) rfl
  have hK9 := hK.sub (tys' := []) [] rfl
  refine W.widen (k := 0) (n := 0) (Nat.le_of_ble_eq_true rfl) (Nat.le_of_ble_eq_true rfl) ?_
  exact W.iret (v := 0) hx hb hr (fun t ht hW => ⟨⟨0, (), rfl, rfl, po_mk ht hW hP9 hK9 hD9⟩, hS.F ht⟩) hS.2.2 dX8_candidate_19

set_option maxHeartbeats 4000000 in
set_option maxRecDepth 100000 in
theorem c0_X8_district (l : Launch) (dC : Nat → ClassId) (dI : Nat → Nat → Nat) (mm : Nat) (pl : Nat) (ig : Nat) (sl : Nat) (kl : Nat) (dz : Nat) (dz : Nat) (a0 : Int32) (sz : Nat) (hbd : a0 < 1 ∨ 5 < a0) : Met l yX8_district wsX8_district ({ frames := 5, cells := 0, slots := 0, locals := 140 }) (va_Pc [.ref mm, .int a0] (pr_ dC dI [(mm, .inr (10, [.int 0, .ref pl, .ref ig, .ref sl, .ref kl, .int 0, .int 0, .int 0])), (pl, .inr (1, [.int 0, .ref dz, .int 0])), (sl, .inr (1, [.int 0, .ref dz, .int 0])), (kl, .inr (1, [.int 0, .ref dz, .int 0]))] [] sz)) (va_Qi (fun (r : Int32) (_ : Unit) => r = 0) (fun (_ : Unit) t => po_ dC dI [(mm, .inr (10, [.int 1, .ref pl, .ref ig, .ref sl, .ref kl, .int 0, .int 0, .int 0]))] [] (va_A [(mm, .inr (10, [.int 0, .ref pl, .ref ig, .ref sl, .ref kl, .int 0, .int 0, .int 0])), (pl, .inr (1, [.int 0, .ref dz, .int 0])), (sl, .inr (1, [.int 0, .ref dz, .int 0])), (kl, .inr (1, [.int 0, .ref dz, .int 0]))] sz) t) (va_A [(mm, .inr (10, [.int 0, .ref pl, .ref ig, .ref sl, .ref kl, .int 0, .int 0, .int 0])), (pl, .inr (1, [.int 0, .ref dz, .int 0])), (sl, .inr (1, [.int 0, .ref dz, .int 0])), (kl, .inr (1, [.int 0, .ref dz, .int 0]))] sz)) 0 0 (va_A [(mm, .inr (10, [.int 0, .ref pl, .ref ig, .ref sl, .ref kl, .int 0, .int 0, .int 0])), (pl, .inr (1, [.int 0, .ref dz, .int 0])), (sl, .inr (1, [.int 0, .ref dz, .int 0])), (kl, .inr (1, [.int 0, .ref dz, .int 0]))] sz) := by
  refine Met.ofW (cc := cX8_district) (maxL := 2) (ret := (some .int)) (by decide) rfl ?_
  intro p e s m args below meth c s₁ B hml hv
  obtain ⟨rfl, hsz, hP, hK, hD0⟩ := hv
  have hx := B.exec
  have hb := B.bytes
  have hr := B.returns
  have hts := atoms_spec (ws := wsX8_district) B.pre
  have hown : s.vm.findClass RX8 = some m.cls := findClass_of_methodNamed B.named
  have hlocks := B.notSynchronized
  subst hsz
  have hD := hD0.self (sz := s.heap.size)
  generalize hAe : va_A [(mm, .inr (10, [.int 0, .ref pl, .ref ig, .ref sl, .ref kl, .int 0, .int 0, .int 0])), (pl, .inr (1, [.int 0, .ref dz, .int 0])), (sl, .inr (1, [.int 0, .ref dz, .int 0])), (kl, .inr (1, [.int 0, .ref dz, .int 0]))] s.heap.size = A at hD ⊢
  have hA : ∀ q : Nat, s.heap.size ≤ q → A q := fun q h => by rw [← hAe]; exact Or.inr h
  have hS : va_S A s.heap s.heap [] := va_S.rf
  have hP : va_P (dC, dI) vwCl [(mm, .inr (10, [.int 0, .ref pl, .ref ig, .ref sl, .ref kl, .int 0, .int 0, .int 0])), (pl, .inr (1, [.int 0, .ref dz, .int 0])), (sl, .inr (1, [.int 0, .ref dz, .int 0])), (kl, .inr (1, [.int 0, .ref dz, .int 0]))] s.heap := hP
  have hK : va_K (dC, dI) vwCl [] s := hK
  have hl := lv_entry ([.ref mm, .int a0]) (n := 2) (Nat.le_of_ble_eq_true rfl)
  rw [lg_entry_eq]
  generalize (lg_sl ([.ref mm, .int a0]) ++ List.replicate (2 - (lg_sl ([.ref mm, .int a0])).length) Slot.unset).toArray = ls at hl ⊢
  have hl : lv_has ls 2 [(0, .ref mm), (1, .int a0)] := hl
  refine lv_aload_n hx hb dX8_district_0 rfl (lv_at hl 0 rfl) ?_
  refine lv_iconst (v := 0) hx hb dX8_district_1 (by decide) ?_
  have hinX8 : ∀ w ∈ u_ws RX8 TX8 8, w ∈ wsX8_district := by decide +kernel
  refine va_put (D := (dC, dI)) (ci := 10) (v := .int 0) (ty := .int) (C := RX8) (T := TX8) (N := 8) hx hb hts hinX8 tyX8 tyX8_ok nmX8 hown hK hP hD hS 0 rfl rfl 0 (by decide) (hts (.fieldLink RX8 26 "BallotLoomModel" "thrown" "I") (by decide +kernel)) (fun _ h9 => h9) rfl (by decide +kernel) rfl rfl (Nat.le_of_ble_eq_true rfl) dX8_district_2 (fun H locs hP hD hS => ?_)
  have hP : va_P (dC, dI) vwCl [(mm, .inr (10, [.int 0, .ref pl, .ref ig, .ref sl, .ref kl, .int 0, .int 0, .int 0])), (pl, .inr (1, [.int 0, .ref dz, .int 0])), (sl, .inr (1, [.int 0, .ref dz, .int 0])), (kl, .inr (1, [.int 0, .ref dz, .int 0]))] H := hP
  have hD : va_D A [(mm, .inr (10, [.int 0, .ref pl, .ref ig, .ref sl, .ref kl, .int 0, .int 0, .int 0])), (pl, .inr (1, [.int 0, .ref dz, .int 0])), (sl, .inr (1, [.int 0, .ref dz, .int 0])), (kl, .inr (1, [.int 0, .ref dz, .int 0]))] := hD
  refine lv_iload_n hx hb dX8_district_5 rfl (lv_at hl 1 rfl) ?_
  refine lv_iconst (v := 1) hx hb dX8_district_6 (by decide) ?_
  refine lv_iconst (v := 5) hx hb dX8_district_7 (by decide) ?_
  have hPc := hP.sub (ws' := []) [] rfl
  have hDc := hD.sub (ws' := []) [] (by decide) rfl
  have hKc := hK.sub (tys' := []) [] rfl
  have hFc := va_free (wc := []) hD hS hA [] rfl
  refine va_calli (va_runS (As := [.int a0, .int 1, .int 5]) (rest := []) ⟨hx, hb, hml, hown, hts⟩ (c0_X8_in l dC dI a0 (1 : Int32) (5 : Int32) _ hbd) (va_cwS 3 hts gX8_district_X8_in rfl rfl rfl (by decide +kernel) ⟨Nat.le_of_ble_eq_true rfl, Nat.le_of_ble_eq_true rfl⟩) ⟨pr_blind, fun U hU hW => ⟨rfl, pr_mk hU hW hPc hKc hDc⟩⟩ rfl rfl hl.1 rfl (lv_room (Nat.le_of_ble_eq_true rfl)) dX8_district_8 ⟨Nat.le_of_ble_eq_true rfl, Nat.le_of_ble_eq_true rfl⟩) hS (fun q _ h => hFc q h) hFc (fun r_2 u_1 t H1 locs ht hvm hw hB hz1 hk1 hS => ?_)
  obtain ⟨hP1, hK1, hD1⟩ := hB
  rw [ht] at hP1
  obtain ⟨hP, hD⟩ := va_join (wr := [(mm, .inr (10, [.int 0, .ref pl, .ref ig, .ref sl, .ref kl, .int 0, .int 0, .int 0])), (pl, .inr (1, [.int 0, .ref dz, .int 0])), (sl, .inr (1, [.int 0, .ref dz, .int 0])), (kl, .inr (1, [.int 0, .ref dz, .int 0]))]) (w1 := []) hP hD [] [0, 1, 2, 3] rfl rfl (by decide) (by decide) hk1 hFc hP1 hD1
  generalize H1 = H at hP hS ⊢
  have hP : va_P (dC, dI) vwCl [(mm, .inr (10, [.int 0, .ref pl, .ref ig, .ref sl, .ref kl, .int 0, .int 0, .int 0])), (pl, .inr (1, [.int 0, .ref dz, .int 0])), (sl, .inr (1, [.int 0, .ref dz, .int 0])), (kl, .inr (1, [.int 0, .ref dz, .int 0]))] H := hP
  have hD : va_D A [(mm, .inr (10, [.int 0, .ref pl, .ref ig, .ref sl, .ref kl, .int 0, .int 0, .int 0])), (pl, .inr (1, [.int 0, .ref dz, .int 0])), (sl, .inr (1, [.int 0, .ref dz, .int 0])), (kl, .inr (1, [.int 0, .ref dz, .int 0]))] := hD
  refine W.widen (k := 0) (n := 0) (Nat.le_refl _) (Nat.le_refl _) ?_
  have hw : r_2 = 0 := hw
  subst hw
  refine lv_if_ne (tgt := 20) hx hb dX8_district_11 (by decide) (fun h9 => absurd h9 (by decide)) (fun _ => ?_)
  refine lv_aload_n hx hb dX8_district_14 rfl (lv_at hl 0 rfl) ?_
  refine lv_iconst (v := 1) hx hb dX8_district_15 (by decide) ?_
  have hPc := hP.sub (ws' := [(mm, .inr (10, [.int 0, .ref pl, .ref ig, .ref sl, .ref kl, .int 0, .int 0, .int 0]))]) [0] rfl
  have hDc := hD.sub (ws' := [(mm, .inr (10, [.int 0, .ref pl, .ref ig, .ref sl, .ref kl, .int 0, .int 0, .int 0]))]) [0] (by decide) rfl
  have hKc := hK.sub (tys' := []) [] rfl
  have hFc := va_free (wc := [(mm, .inr (10, [.int 0, .ref pl, .ref ig, .ref sl, .ref kl, .int 0, .int 0, .int 0]))]) hD hS hA [0] rfl
  refine va_calli (va_runV (As := [.int 1]) (rest := []) ⟨hx, hb, hml, hown, hts⟩ (c_X8_no l dC dI mm pl ig sl kl (1 : Int32) (0 : Int32) _ ) (cwV 1 hts gX8_district_X8_no rfl rfl rfl (by decide +kernel) ⟨Nat.le_of_ble_eq_true rfl, Nat.le_of_ble_eq_true rfl⟩) ⟨pr_blind, va_recv hKc hPc (ci := 10) (q0 := 0) rfl rfl, fun U hU hW => ⟨rfl, pr_mk hU hW hPc hKc hDc⟩⟩ rfl rfl hl.1 rfl (lv_room (Nat.le_of_ble_eq_true rfl)) dX8_district_16 ⟨Nat.le_of_ble_eq_true rfl, Nat.le_of_ble_eq_true rfl⟩) hS (fun q _ h => hFc q h) hFc (fun r_4 u_3 t H1 locs ht hvm hw hB hz1 hk1 hS => ?_)
  obtain ⟨hP1, hK1, hD1⟩ := hB
  rw [ht] at hP1
  obtain ⟨hP, hD⟩ := va_join (wr := [(pl, .inr (1, [.int 0, .ref dz, .int 0])), (sl, .inr (1, [.int 0, .ref dz, .int 0])), (kl, .inr (1, [.int 0, .ref dz, .int 0]))]) (w1 := [(mm, .inr (10, [.int 1, .ref pl, .ref ig, .ref sl, .ref kl, .int 0, .int 0, .int 0]))]) hP hD [0] [1, 2, 3] rfl rfl (by decide) (by decide) hk1 hFc hP1 hD1
  generalize H1 = H at hP hS ⊢
  have hP : va_P (dC, dI) vwCl [(pl, .inr (1, [.int 0, .ref dz, .int 0])), (sl, .inr (1, [.int 0, .ref dz, .int 0])), (kl, .inr (1, [.int 0, .ref dz, .int 0])), (mm, .inr (10, [.int 1, .ref pl, .ref ig, .ref sl, .ref kl, .int 0, .int 0, .int 0]))] H := hP
  have hD : va_D A [(pl, .inr (1, [.int 0, .ref dz, .int 0])), (sl, .inr (1, [.int 0, .ref dz, .int 0])), (kl, .inr (1, [.int 0, .ref dz, .int 0])), (mm, .inr (10, [.int 1, .ref pl, .ref ig, .ref sl, .ref kl, .int 0, .int 0, .int 0]))] := hD
  refine W.widen (k := 0) (n := 0) (Nat.le_refl _) (Nat.le_refl _) ?_
  have hw : r_4 = 0 := hw
  subst hw
  have hP9 := hP.sub (ws' := [(mm, .inr (10, [.int 1, .ref pl, .ref ig, .ref sl, .ref kl, .int 0, .int 0, .int 0]))]) [3] rfl
  have hD9 := hD.sub (ws' := [(mm, .inr (10, [.int 1, .ref pl, .ref ig, .ref sl, .ref kl, .int 0, .int 0, .int 0]))]) [3] (by decide) rfl
  have hK9 := hK.sub (tys' := []) [] rfl
  refine W.widen (k := 0) (n := 0) (Nat.le_of_ble_eq_true rfl) (Nat.le_of_ble_eq_true rfl) ?_
  exact W.iret (v := 0) hx hb hr (fun t ht hW => ⟨⟨0, (), rfl, rfl, po_mk ht hW hP9 hK9 hD9⟩, hS.F ht⟩) hS.2.2 dX8_district_19

set_option maxHeartbeats 4000000 in
set_option maxRecDepth 100000 in
theorem c_X8_candidate (l : Launch) (dC : Nat → ClassId) (dI : Nat → Nat → Nat) (mm : Nat) (pl : Nat) (ig : Nat) (sl : Nat) (kl : Nat) (dz : Nat) (dz : Nat) (tc : Nat) (ad : Nat → Nat) (a0 : Int32) (sz : Nat) (hs : a0 = 0 ∨ a0 = 1 ∨ a0 = 2 ∨ a0 = 3) : Met l yX8_candidate wsX8_candidate ({ frames := 7, cells := 1, slots := 10, locals := 200 }) (va_Pc [.ref mm, .int a0] (fun U => pr_ dC dI [(mm, .inr (10, [.int 0, .ref pl, .ref ig, .ref sl, .ref kl, .int 0, .int 0, .int 0])), (pl, .inr (1, [.int 0, .ref dz, .int 0])), (sl, .inr (1, [.int 0, .ref dz, .int 0])), (kl, .inr (1, [.int 0, .ref dz, .int 0]))] [] sz U ∧ ca_ (va_A [(mm, .inr (10, [.int 0, .ref pl, .ref ig, .ref sl, .ref kl, .int 0, .int 0, .int 0])), (pl, .inr (1, [.int 0, .ref dz, .int 0])), (sl, .inr (1, [.int 0, .ref dz, .int 0])), (kl, .inr (1, [.int 0, .ref dz, .int 0]))] sz) dz tc ad U)) (va_Qi (fun (r : Int32) (_ : Unit) => r = 0) (fun (_ : Unit) t => po_ dC dI [(mm, .inr (10, [.int 0, .ref pl, .ref ig, .ref sl, .ref kl, .int 0, .int 0, .int 0]))] [] (va_A [(mm, .inr (10, [.int 0, .ref pl, .ref ig, .ref sl, .ref kl, .int 0, .int 0, .int 0])), (pl, .inr (1, [.int 0, .ref dz, .int 0])), (sl, .inr (1, [.int 0, .ref dz, .int 0])), (kl, .inr (1, [.int 0, .ref dz, .int 0]))] sz) t) (va_A [(mm, .inr (10, [.int 0, .ref pl, .ref ig, .ref sl, .ref kl, .int 0, .int 0, .int 0])), (pl, .inr (1, [.int 0, .ref dz, .int 0])), (sl, .inr (1, [.int 0, .ref dz, .int 0])), (kl, .inr (1, [.int 0, .ref dz, .int 0]))] sz)) 1 10 (va_A [(mm, .inr (10, [.int 0, .ref pl, .ref ig, .ref sl, .ref kl, .int 0, .int 0, .int 0])), (pl, .inr (1, [.int 0, .ref dz, .int 0])), (sl, .inr (1, [.int 0, .ref dz, .int 0])), (kl, .inr (1, [.int 0, .ref dz, .int 0]))] sz) := by
  have hcs : a0 = 0 ∨ a0 = 1 ∨ a0 = 2 ∨ a0 = 3 := hs
  rcases hcs with rfl | rfl | rfl | rfl
  · refine Met.ofW (cc := cX8_candidate) (maxL := 2) (ret := (some .int)) (by decide) rfl ?_
    intro p e s m args below meth c s₁ B hml hv
    obtain ⟨rfl, ⟨hsz, hP, hK, hD0⟩, hXs⟩ := hv
    have hx := B.exec
    have hb := B.bytes
    have hr := B.returns
    have hts := atoms_spec (ws := wsX8_candidate) B.pre
    have hown : s.vm.findClass RX8 = some m.cls := findClass_of_methodNamed B.named
    have hlocks := B.notSynchronized
    subst hsz
    have hD := hD0.self (sz := s.heap.size)
    generalize hAe : va_A [(mm, .inr (10, [.int 0, .ref pl, .ref ig, .ref sl, .ref kl, .int 0, .int 0, .int 0])), (pl, .inr (1, [.int 0, .ref dz, .int 0])), (sl, .inr (1, [.int 0, .ref dz, .int 0])), (kl, .inr (1, [.int 0, .ref dz, .int 0]))] s.heap.size = A at hD hXs ⊢
    have hA : ∀ q : Nat, s.heap.size ≤ q → A q := fun q h => by rw [← hAe]; exact Or.inr h
    have hS : va_S A s.heap s.heap [] := va_S.rf
    have hP : va_P (dC, dI) vwCl [(mm, .inr (10, [.int 0, .ref pl, .ref ig, .ref sl, .ref kl, .int 0, .int 0, .int 0])), (pl, .inr (1, [.int 0, .ref dz, .int 0])), (sl, .inr (1, [.int 0, .ref dz, .int 0])), (kl, .inr (1, [.int 0, .ref dz, .int 0]))] s.heap := hP
    have hK : va_K (dC, dI) vwCl [] s := hK
    have hl := lv_entry ([.ref mm, .int 0]) (n := 2) (Nat.le_of_ble_eq_true rfl)
    rw [lg_entry_eq]
    generalize (lg_sl ([.ref mm, .int 0]) ++ List.replicate (2 - (lg_sl ([.ref mm, .int 0])).length) Slot.unset).toArray = ls at hl ⊢
    have hl : lv_has ls 2 [(0, .ref mm), (1, .int 0)] := hl
    refine lv_aload_n hx hb dX8_candidate_0 rfl (lv_at hl 0 rfl) ?_
    refine lv_iconst (v := 0) hx hb dX8_candidate_1 (by decide) ?_
    have hinX8 : ∀ w ∈ u_ws RX8 TX8 8, w ∈ wsX8_candidate := by decide +kernel
    refine va_put (D := (dC, dI)) (ci := 10) (v := .int 0) (ty := .int) (C := RX8) (T := TX8) (N := 8) hx hb hts hinX8 tyX8 tyX8_ok nmX8 hown hK hP hD hS 0 rfl rfl 0 (by decide) (hts (.fieldLink RX8 26 "BallotLoomModel" "thrown" "I") (by decide +kernel)) (fun _ h9 => h9) rfl (by decide +kernel) rfl rfl (Nat.le_of_ble_eq_true rfl) dX8_candidate_2 (fun H locs hP hD hS => ?_)
    have hP : va_P (dC, dI) vwCl [(mm, .inr (10, [.int 0, .ref pl, .ref ig, .ref sl, .ref kl, .int 0, .int 0, .int 0])), (pl, .inr (1, [.int 0, .ref dz, .int 0])), (sl, .inr (1, [.int 0, .ref dz, .int 0])), (kl, .inr (1, [.int 0, .ref dz, .int 0]))] H := hP
    have hD : va_D A [(mm, .inr (10, [.int 0, .ref pl, .ref ig, .ref sl, .ref kl, .int 0, .int 0, .int 0])), (pl, .inr (1, [.int 0, .ref dz, .int 0])), (sl, .inr (1, [.int 0, .ref dz, .int 0])), (kl, .inr (1, [.int 0, .ref dz, .int 0]))] := hD
    refine lv_iload_n hx hb dX8_candidate_5 rfl (lv_at hl 1 rfl) ?_
    refine lv_iconst (v := 0) hx hb dX8_candidate_6 (by decide) ?_
    refine lv_iconst (v := 3) hx hb dX8_candidate_7 (by decide) ?_
    have hPc := hP.sub (ws' := []) [] rfl
    have hDc := hD.sub (ws' := []) [] (by decide) rfl
    have hKc := hK.sub (tys' := []) [] rfl
    have hFc := va_free (wc := []) hD hS hA [] rfl
    refine va_calli (va_runS (As := [.int 0, .int 0, .int 3]) (rest := []) ⟨hx, hb, hml, hown, hts⟩ (c_X8_in l dC dI (0 : Int32) (0 : Int32) (3 : Int32) _ (by decide) (by decide)) (va_cwS 3 hts gX8_candidate_X8_in rfl rfl rfl (by decide +kernel) ⟨Nat.le_of_ble_eq_true rfl, Nat.le_of_ble_eq_true rfl⟩) ⟨pr_blind, fun U hU hW => ⟨rfl, pr_mk hU hW hPc hKc hDc⟩⟩ rfl rfl hl.1 rfl (lv_room (Nat.le_of_ble_eq_true rfl)) dX8_candidate_8 ⟨Nat.le_of_ble_eq_true rfl, Nat.le_of_ble_eq_true rfl⟩) hS (fun q _ h => hFc q h) hFc (fun r_2 u_1 t H1 locs ht hvm hw hB hz1 hk1 hS => ?_)
    obtain ⟨hP1, hK1, hD1⟩ := hB
    rw [ht] at hP1
    obtain ⟨hP, hD⟩ := va_join (wr := [(mm, .inr (10, [.int 0, .ref pl, .ref ig, .ref sl, .ref kl, .int 0, .int 0, .int 0])), (pl, .inr (1, [.int 0, .ref dz, .int 0])), (sl, .inr (1, [.int 0, .ref dz, .int 0])), (kl, .inr (1, [.int 0, .ref dz, .int 0]))]) (w1 := []) hP hD [] [0, 1, 2, 3] rfl rfl (by decide) (by decide) hk1 hFc hP1 hD1
    generalize H1 = H at hP hS ⊢
    have hP : va_P (dC, dI) vwCl [(mm, .inr (10, [.int 0, .ref pl, .ref ig, .ref sl, .ref kl, .int 0, .int 0, .int 0])), (pl, .inr (1, [.int 0, .ref dz, .int 0])), (sl, .inr (1, [.int 0, .ref dz, .int 0])), (kl, .inr (1, [.int 0, .ref dz, .int 0]))] H := hP
    have hD : va_D A [(mm, .inr (10, [.int 0, .ref pl, .ref ig, .ref sl, .ref kl, .int 0, .int 0, .int 0])), (pl, .inr (1, [.int 0, .ref dz, .int 0])), (sl, .inr (1, [.int 0, .ref dz, .int 0])), (kl, .inr (1, [.int 0, .ref dz, .int 0]))] := hD
    refine W.widen (k := 0) (n := 0) (Nat.le_refl _) (Nat.le_refl _) ?_
    have hw : r_2 = 1 := hw
    subst hw
    refine lv_if_ne (tgt := 20) hx hb dX8_candidate_11 (by decide) (fun _ => ?_) (fun h9 => absurd h9 (by decide))
    refine lv_aload_n hx hb dX8_candidate_20 rfl (lv_at hl 0 rfl) ?_
    refine va_get (D := (dC, dI)) (ci := 10) (v := .ref pl) (C := RX8) (T := TX8) (N := 8) hx hb hts hinX8 hown hK hP 0 rfl rfl 1 (by decide) (hts (.fieldLink RX8 10 "BallotLoomModel" "partyOf" "Ljava/util/List;") (by decide +kernel)) (fun _ h9 => h9) rfl dX8_candidate_21 ?_
    have hPc := hP.sub (ws' := [(pl, .inr (1, [.int 0, .ref dz, .int 0]))]) [1] rfl
    have hDc := hD.sub (ws' := [(pl, .inr (1, [.int 0, .ref dz, .int 0]))]) [1] (by decide) rfl
    have hKc := hK.sub (tys' := []) [] rfl
    have hFc := va_free (wc := [(pl, .inr (1, [.int 0, .ref dz, .int 0]))]) hD hS hA [1] rfl
    refine va_callFi (va_runF (hK.1 1 _ rfl).2 (As := []) (rest := []) ⟨hx, hb, hml, hown, hts⟩ (c_Jx4a65c_size_8abf5 l dC dI pl (0 : Int32) dz (0 : Int32) _ ) (va_cwF 0 hts gX8_candidate_Jx4a65c_size_8abf5_f30Jx4a65c rfl rfl rfl (mo_of hXs.1) (by decide +kernel) ⟨Nat.le_of_ble_eq_true rfl, Nat.le_of_ble_eq_true rfl⟩) ⟨pr_blind, va_recv hKc hPc (ci := 1) (q0 := 0) rfl rfl, fun U hU hW => ⟨rfl, pr_mk hU hW hPc hKc hDc⟩⟩ rfl rfl hl.1 rfl (lv_room (Nat.le_of_ble_eq_true rfl)) dX8_candidate_24 ⟨Nat.le_of_ble_eq_true rfl, Nat.le_of_ble_eq_true rfl⟩) hS (fun q _ h => hFc q h) hFc (fun r_4 u_3 t H1 locs ht hvm hw hB hz1 hk1 hS => ?_)
    obtain ⟨hP1, hK1, hD1⟩ := hB
    rw [ht] at hP1
    obtain ⟨hP, hD⟩ := va_join (wr := [(mm, .inr (10, [.int 0, .ref pl, .ref ig, .ref sl, .ref kl, .int 0, .int 0, .int 0])), (sl, .inr (1, [.int 0, .ref dz, .int 0])), (kl, .inr (1, [.int 0, .ref dz, .int 0]))]) (w1 := [(pl, .inr (1, [.int 0, .ref dz, .int 0]))]) hP hD [1] [0, 2, 3] rfl rfl (by decide) (by decide) hk1 hFc hP1 hD1
    generalize H1 = H at hP hS ⊢
    have hP : va_P (dC, dI) vwCl [(mm, .inr (10, [.int 0, .ref pl, .ref ig, .ref sl, .ref kl, .int 0, .int 0, .int 0])), (sl, .inr (1, [.int 0, .ref dz, .int 0])), (kl, .inr (1, [.int 0, .ref dz, .int 0])), (pl, .inr (1, [.int 0, .ref dz, .int 0]))] H := hP
    have hD : va_D A [(mm, .inr (10, [.int 0, .ref pl, .ref ig, .ref sl, .ref kl, .int 0, .int 0, .int 0])), (sl, .inr (1, [.int 0, .ref dz, .int 0])), (kl, .inr (1, [.int 0, .ref dz, .int 0])), (pl, .inr (1, [.int 0, .ref dz, .int 0]))] := hD
    refine W.widen (k := 0) (n := 0) (Nat.le_refl _) (Nat.le_refl _) ?_
    have hw : r_4 = 0 := hw
    subst hw
    refine lv_bipush (v := 6) hx hb dX8_candidate_29 (by decide) ?_
    refine lv_icmp_ne (tgt := 40) hx hb dX8_candidate_31 (by decide) (fun _ => ?_) (fun h9 => absurd h9 (by decide))
    refine lv_aload_n hx hb dX8_candidate_40 rfl (lv_at hl 0 rfl) ?_
    refine va_get (D := (dC, dI)) (ci := 10) (v := .ref pl) (C := RX8) (T := TX8) (N := 8) hx hb hts hinX8 hown hK hP 0 rfl rfl 1 (by decide) (hts (.fieldLink RX8 10 "BallotLoomModel" "partyOf" "Ljava/util/List;") (by decide +kernel)) (fun _ h9 => h9) rfl dX8_candidate_41 ?_
    refine lv_iload_n hx hb dX8_candidate_44 rfl (lv_at hl 1 rfl) ?_
    have hPc := hP.sub (ws' := []) [] rfl
    have hDc := hD.sub (ws' := []) [] (by decide) rfl
    have hKc := hK.sub (tys' := []) [] rfl
    have hFc := va_free (wc := []) hD hS hA [] rfl
    refine va_callr (va_runS (As := [.int 0]) (rest := [.ref pl]) ⟨hx, hb, hml, hown, hts⟩ (c_J6_valueOf_2dffe l dC dI dz dz tc ad (0 : Int32) _ (by decide) (by decide) (by unfold vp_in; decide)) (va_cwS 1 hts gX8_candidate_J6_valueOf_2dffe rfl rfl rfl (by decide +kernel) ⟨Nat.le_of_ble_eq_true rfl, Nat.le_of_ble_eq_true rfl⟩) ⟨pe_blind ca_bl, fun U hU hW => ⟨rfl, pr_mk hU hW hPc hKc hDc, ca_mk hU hW hS hFc hXs⟩⟩ rfl rfl hl.1 rfl (lv_room (Nat.le_of_ble_eq_true rfl)) dX8_candidate_45 ⟨Nat.le_of_ble_eq_true rfl, Nat.le_of_ble_eq_true rfl⟩) hS (fun q _ h => hFc q h) hFc (fun u_5 r_6 t H1 locs ht hvm hw hB hz1 hk1 hS => ?_)
    obtain ⟨q_7, rfl⟩ : ∃ z, z = u_5 := ⟨_, rfl⟩
    obtain ⟨rfl, hP1, hK1, hD1⟩ := hB
    have hw9 := hw
    rw [ht] at hP1
    obtain ⟨hP, hD⟩ := va_join (wr := [(mm, .inr (10, [.int 0, .ref pl, .ref ig, .ref sl, .ref kl, .int 0, .int 0, .int 0])), (sl, .inr (1, [.int 0, .ref dz, .int 0])), (kl, .inr (1, [.int 0, .ref dz, .int 0])), (pl, .inr (1, [.int 0, .ref dz, .int 0]))]) (w1 := []) hP hD [] [0, 1, 2, 3] rfl rfl (by decide) (by decide) hk1 hFc hP1 hD1
    generalize H1 = H at hP hS ⊢
    have hP : va_P (dC, dI) vwCl [(mm, .inr (10, [.int 0, .ref pl, .ref ig, .ref sl, .ref kl, .int 0, .int 0, .int 0])), (sl, .inr (1, [.int 0, .ref dz, .int 0])), (kl, .inr (1, [.int 0, .ref dz, .int 0])), (pl, .inr (1, [.int 0, .ref dz, .int 0]))] H := hP
    have hD : va_D A [(mm, .inr (10, [.int 0, .ref pl, .ref ig, .ref sl, .ref kl, .int 0, .int 0, .int 0])), (sl, .inr (1, [.int 0, .ref dz, .int 0])), (kl, .inr (1, [.int 0, .ref dz, .int 0])), (pl, .inr (1, [.int 0, .ref dz, .int 0]))] := hD
    refine W.widen (k := 0) (n := 0) (Nat.le_refl _) (Nat.le_refl _) ?_
    have hPc := hP.sub (ws' := [(pl, .inr (1, [.int 0, .ref dz, .int 0]))]) [3] rfl
    have hDc := hD.sub (ws' := [(pl, .inr (1, [.int 0, .ref dz, .int 0]))]) [3] (by decide) rfl
    have hKc := hK.sub (tys' := []) [] rfl
    have hFc := va_free (wc := [(pl, .inr (1, [.int 0, .ref dz, .int 0]))]) hD hS hA [3] rfl
    refine va_callFi (va_runF (hK.1 1 _ rfl).2 (As := [.ref (ad q_7)]) (rest := []) ⟨hx, hb, hml, hown, hts⟩ (c_Jx4a65c_add_9ea2d l dC dI dz dz tc ad pl (ad q_7) _ (⟨_, hw9, rfl⟩)) (va_cwF 1 hts gX8_candidate_Jx4a65c_add_9ea2d_f67Jx4a65c rfl rfl rfl (ca_f hXs) (by decide +kernel) ⟨Nat.le_of_ble_eq_true rfl, Nat.le_of_ble_eq_true rfl⟩) ⟨pe_blind ca_bl, va_recv hKc hPc (ci := 1) (q0 := 0) rfl rfl, fun U hU hW => ⟨rfl, pr_mk hU hW hPc hKc hDc, ca_mk hU hW hS hFc hXs⟩⟩ rfl rfl hl.1 rfl (lv_room (Nat.le_of_ble_eq_true rfl)) dX8_candidate_48 ⟨Nat.le_of_ble_eq_true rfl, Nat.le_of_ble_eq_true rfl⟩) hS (fun q _ h => hFc q h) hFc (fun r_9 u_8 t H1 locs ht hvm hw hB hz1 hk1 hS => ?_)
    obtain ⟨q_10, rfl⟩ : ∃ z, z = u_8 := ⟨_, rfl⟩
    obtain ⟨hP1, hK1, hD1⟩ := hB
    rw [ht] at hP1
    obtain ⟨hP, hD⟩ := va_join (wr := [(mm, .inr (10, [.int 0, .ref pl, .ref ig, .ref sl, .ref kl, .int 0, .int 0, .int 0])), (sl, .inr (1, [.int 0, .ref dz, .int 0])), (kl, .inr (1, [.int 0, .ref dz, .int 0]))]) (w1 := [(pl, .inr (1, [.int 1, .ref q_10, .int 1]))]) hP hD [3] [0, 1, 2] rfl rfl (by decide) (by decide) hk1 hFc hP1 hD1
    generalize H1 = H at hP hS ⊢
    have hP : va_P (dC, dI) vwCl [(mm, .inr (10, [.int 0, .ref pl, .ref ig, .ref sl, .ref kl, .int 0, .int 0, .int 0])), (sl, .inr (1, [.int 0, .ref dz, .int 0])), (kl, .inr (1, [.int 0, .ref dz, .int 0])), (pl, .inr (1, [.int 1, .ref q_10, .int 1]))] H := hP
    have hD : va_D A [(mm, .inr (10, [.int 0, .ref pl, .ref ig, .ref sl, .ref kl, .int 0, .int 0, .int 0])), (sl, .inr (1, [.int 0, .ref dz, .int 0])), (kl, .inr (1, [.int 0, .ref dz, .int 0])), (pl, .inr (1, [.int 1, .ref q_10, .int 1]))] := hD
    refine W.widen (k := 1) (n := 10) (Nat.le_of_ble_eq_true rfl) (Nat.le_of_ble_eq_true rfl) ?_
    have hw : r_9 = 1 := hw
    subst hw
    refine lv_pop hx hb dX8_candidate_53 rfl ?_
    refine lv_aload_n hx hb dX8_candidate_54 rfl (lv_at hl 0 rfl) ?_
    refine va_get (D := (dC, dI)) (ci := 10) (v := .ref pl) (C := RX8) (T := TX8) (N := 8) hx hb hts hinX8 hown hK hP 0 rfl rfl 1 (by decide) (hts (.fieldLink RX8 10 "BallotLoomModel" "partyOf" "Ljava/util/List;") (by decide +kernel)) (fun _ h9 => h9) rfl dX8_candidate_55 ?_
    have hPc := hP.sub (ws' := [(pl, .inr (1, [.int 1, .ref q_10, .int 1]))]) [3] rfl
    have hDc := hD.sub (ws' := [(pl, .inr (1, [.int 1, .ref q_10, .int 1]))]) [3] (by decide) rfl
    have hKc := hK.sub (tys' := []) [] rfl
    have hFc := va_free (wc := [(pl, .inr (1, [.int 1, .ref q_10, .int 1]))]) hD hS hA [3] rfl
    refine va_callFi (va_runF (hK.1 1 _ rfl).2 (As := []) (rest := []) ⟨hx, hb, hml, hown, hts⟩ (c_Jx4a65c_size_8abf5 l dC dI pl (1 : Int32) q_10 (1 : Int32) _ ) (va_cwF 0 hts gX8_candidate_Jx4a65c_size_8abf5_f30Jx4a65c rfl rfl rfl (mo_of hXs.1) (by decide +kernel) ⟨Nat.le_of_ble_eq_true rfl, Nat.le_of_ble_eq_true rfl⟩) ⟨pr_blind, va_recv hKc hPc (ci := 1) (q0 := 0) rfl rfl, fun U hU hW => ⟨rfl, pr_mk hU hW hPc hKc hDc⟩⟩ rfl rfl hl.1 rfl (lv_room (Nat.le_of_ble_eq_true rfl)) dX8_candidate_58 ⟨Nat.le_of_ble_eq_true rfl, Nat.le_of_ble_eq_true rfl⟩) hS (fun q _ h => hFc q h) hFc (fun r_12 u_11 t H1 locs ht hvm hw hB hz1 hk1 hS => ?_)
    obtain ⟨hP1, hK1, hD1⟩ := hB
    rw [ht] at hP1
    obtain ⟨hP, hD⟩ := va_join (wr := [(mm, .inr (10, [.int 0, .ref pl, .ref ig, .ref sl, .ref kl, .int 0, .int 0, .int 0])), (sl, .inr (1, [.int 0, .ref dz, .int 0])), (kl, .inr (1, [.int 0, .ref dz, .int 0]))]) (w1 := [(pl, .inr (1, [.int 1, .ref q_10, .int 1]))]) hP hD [3] [0, 1, 2] rfl rfl (by decide) (by decide) hk1 hFc hP1 hD1
    generalize H1 = H at hP hS ⊢
    have hP : va_P (dC, dI) vwCl [(mm, .inr (10, [.int 0, .ref pl, .ref ig, .ref sl, .ref kl, .int 0, .int 0, .int 0])), (sl, .inr (1, [.int 0, .ref dz, .int 0])), (kl, .inr (1, [.int 0, .ref dz, .int 0])), (pl, .inr (1, [.int 1, .ref q_10, .int 1]))] H := hP
    have hD : va_D A [(mm, .inr (10, [.int 0, .ref pl, .ref ig, .ref sl, .ref kl, .int 0, .int 0, .int 0])), (sl, .inr (1, [.int 0, .ref dz, .int 0])), (kl, .inr (1, [.int 0, .ref dz, .int 0])), (pl, .inr (1, [.int 1, .ref q_10, .int 1]))] := hD
    refine W.widen (k := 1) (n := 10) (Nat.le_refl _) (Nat.le_refl _) ?_
    have hw : r_12 = 1 := hw
    subst hw
    refine lv_iconst (v := 1) hx hb dX8_candidate_63 (by decide) ?_
    refine lv_isub hx hb dX8_candidate_64 ?_
    refine lv_topi (fun y_13 ey_13 => ?_)
    obtain rfl : y_13 = 0 := ey_13.trans (by decide)
    have hP9 := hP.sub (ws' := [(mm, .inr (10, [.int 0, .ref pl, .ref ig, .ref sl, .ref kl, .int 0, .int 0, .int 0]))]) [0] rfl
    have hD9 := hD.sub (ws' := [(mm, .inr (10, [.int 0, .ref pl, .ref ig, .ref sl, .ref kl, .int 0, .int 0, .int 0]))]) [0] (by decide) rfl
    have hK9 := hK.sub (tys' := []) [] rfl
    refine W.widen (k := 1) (n := 10) (Nat.le_of_ble_eq_true rfl) (Nat.le_of_ble_eq_true rfl) ?_
    exact W.iret (v := 0) hx hb hr (fun t ht hW => ⟨⟨0, (), rfl, rfl, po_mk ht hW hP9 hK9 hD9⟩, hS.F ht⟩) hS.2.2 dX8_candidate_65
  · refine Met.ofW (cc := cX8_candidate) (maxL := 2) (ret := (some .int)) (by decide) rfl ?_
    intro p e s m args below meth c s₁ B hml hv
    obtain ⟨rfl, ⟨hsz, hP, hK, hD0⟩, hXs⟩ := hv
    have hx := B.exec
    have hb := B.bytes
    have hr := B.returns
    have hts := atoms_spec (ws := wsX8_candidate) B.pre
    have hown : s.vm.findClass RX8 = some m.cls := findClass_of_methodNamed B.named
    have hlocks := B.notSynchronized
    subst hsz
    have hD := hD0.self (sz := s.heap.size)
    generalize hAe : va_A [(mm, .inr (10, [.int 0, .ref pl, .ref ig, .ref sl, .ref kl, .int 0, .int 0, .int 0])), (pl, .inr (1, [.int 0, .ref dz, .int 0])), (sl, .inr (1, [.int 0, .ref dz, .int 0])), (kl, .inr (1, [.int 0, .ref dz, .int 0]))] s.heap.size = A at hD hXs ⊢
    have hA : ∀ q : Nat, s.heap.size ≤ q → A q := fun q h => by rw [← hAe]; exact Or.inr h
    have hS : va_S A s.heap s.heap [] := va_S.rf
    have hP : va_P (dC, dI) vwCl [(mm, .inr (10, [.int 0, .ref pl, .ref ig, .ref sl, .ref kl, .int 0, .int 0, .int 0])), (pl, .inr (1, [.int 0, .ref dz, .int 0])), (sl, .inr (1, [.int 0, .ref dz, .int 0])), (kl, .inr (1, [.int 0, .ref dz, .int 0]))] s.heap := hP
    have hK : va_K (dC, dI) vwCl [] s := hK
    have hl := lv_entry ([.ref mm, .int 1]) (n := 2) (Nat.le_of_ble_eq_true rfl)
    rw [lg_entry_eq]
    generalize (lg_sl ([.ref mm, .int 1]) ++ List.replicate (2 - (lg_sl ([.ref mm, .int 1])).length) Slot.unset).toArray = ls at hl ⊢
    have hl : lv_has ls 2 [(0, .ref mm), (1, .int 1)] := hl
    refine lv_aload_n hx hb dX8_candidate_0 rfl (lv_at hl 0 rfl) ?_
    refine lv_iconst (v := 0) hx hb dX8_candidate_1 (by decide) ?_
    have hinX8 : ∀ w ∈ u_ws RX8 TX8 8, w ∈ wsX8_candidate := by decide +kernel
    refine va_put (D := (dC, dI)) (ci := 10) (v := .int 0) (ty := .int) (C := RX8) (T := TX8) (N := 8) hx hb hts hinX8 tyX8 tyX8_ok nmX8 hown hK hP hD hS 0 rfl rfl 0 (by decide) (hts (.fieldLink RX8 26 "BallotLoomModel" "thrown" "I") (by decide +kernel)) (fun _ h9 => h9) rfl (by decide +kernel) rfl rfl (Nat.le_of_ble_eq_true rfl) dX8_candidate_2 (fun H locs hP hD hS => ?_)
    have hP : va_P (dC, dI) vwCl [(mm, .inr (10, [.int 0, .ref pl, .ref ig, .ref sl, .ref kl, .int 0, .int 0, .int 0])), (pl, .inr (1, [.int 0, .ref dz, .int 0])), (sl, .inr (1, [.int 0, .ref dz, .int 0])), (kl, .inr (1, [.int 0, .ref dz, .int 0]))] H := hP
    have hD : va_D A [(mm, .inr (10, [.int 0, .ref pl, .ref ig, .ref sl, .ref kl, .int 0, .int 0, .int 0])), (pl, .inr (1, [.int 0, .ref dz, .int 0])), (sl, .inr (1, [.int 0, .ref dz, .int 0])), (kl, .inr (1, [.int 0, .ref dz, .int 0]))] := hD
    refine lv_iload_n hx hb dX8_candidate_5 rfl (lv_at hl 1 rfl) ?_
    refine lv_iconst (v := 0) hx hb dX8_candidate_6 (by decide) ?_
    refine lv_iconst (v := 3) hx hb dX8_candidate_7 (by decide) ?_
    have hPc := hP.sub (ws' := []) [] rfl
    have hDc := hD.sub (ws' := []) [] (by decide) rfl
    have hKc := hK.sub (tys' := []) [] rfl
    have hFc := va_free (wc := []) hD hS hA [] rfl
    refine va_calli (va_runS (As := [.int 1, .int 0, .int 3]) (rest := []) ⟨hx, hb, hml, hown, hts⟩ (c_X8_in l dC dI (1 : Int32) (0 : Int32) (3 : Int32) _ (by decide) (by decide)) (va_cwS 3 hts gX8_candidate_X8_in rfl rfl rfl (by decide +kernel) ⟨Nat.le_of_ble_eq_true rfl, Nat.le_of_ble_eq_true rfl⟩) ⟨pr_blind, fun U hU hW => ⟨rfl, pr_mk hU hW hPc hKc hDc⟩⟩ rfl rfl hl.1 rfl (lv_room (Nat.le_of_ble_eq_true rfl)) dX8_candidate_8 ⟨Nat.le_of_ble_eq_true rfl, Nat.le_of_ble_eq_true rfl⟩) hS (fun q _ h => hFc q h) hFc (fun r_15 u_14 t H1 locs ht hvm hw hB hz1 hk1 hS => ?_)
    obtain ⟨hP1, hK1, hD1⟩ := hB
    rw [ht] at hP1
    obtain ⟨hP, hD⟩ := va_join (wr := [(mm, .inr (10, [.int 0, .ref pl, .ref ig, .ref sl, .ref kl, .int 0, .int 0, .int 0])), (pl, .inr (1, [.int 0, .ref dz, .int 0])), (sl, .inr (1, [.int 0, .ref dz, .int 0])), (kl, .inr (1, [.int 0, .ref dz, .int 0]))]) (w1 := []) hP hD [] [0, 1, 2, 3] rfl rfl (by decide) (by decide) hk1 hFc hP1 hD1
    generalize H1 = H at hP hS ⊢
    have hP : va_P (dC, dI) vwCl [(mm, .inr (10, [.int 0, .ref pl, .ref ig, .ref sl, .ref kl, .int 0, .int 0, .int 0])), (pl, .inr (1, [.int 0, .ref dz, .int 0])), (sl, .inr (1, [.int 0, .ref dz, .int 0])), (kl, .inr (1, [.int 0, .ref dz, .int 0]))] H := hP
    have hD : va_D A [(mm, .inr (10, [.int 0, .ref pl, .ref ig, .ref sl, .ref kl, .int 0, .int 0, .int 0])), (pl, .inr (1, [.int 0, .ref dz, .int 0])), (sl, .inr (1, [.int 0, .ref dz, .int 0])), (kl, .inr (1, [.int 0, .ref dz, .int 0]))] := hD
    refine W.widen (k := 0) (n := 0) (Nat.le_refl _) (Nat.le_refl _) ?_
    have hw : r_15 = 1 := hw
    subst hw
    refine lv_if_ne (tgt := 20) hx hb dX8_candidate_11 (by decide) (fun _ => ?_) (fun h9 => absurd h9 (by decide))
    refine lv_aload_n hx hb dX8_candidate_20 rfl (lv_at hl 0 rfl) ?_
    refine va_get (D := (dC, dI)) (ci := 10) (v := .ref pl) (C := RX8) (T := TX8) (N := 8) hx hb hts hinX8 hown hK hP 0 rfl rfl 1 (by decide) (hts (.fieldLink RX8 10 "BallotLoomModel" "partyOf" "Ljava/util/List;") (by decide +kernel)) (fun _ h9 => h9) rfl dX8_candidate_21 ?_
    have hPc := hP.sub (ws' := [(pl, .inr (1, [.int 0, .ref dz, .int 0]))]) [1] rfl
    have hDc := hD.sub (ws' := [(pl, .inr (1, [.int 0, .ref dz, .int 0]))]) [1] (by decide) rfl
    have hKc := hK.sub (tys' := []) [] rfl
    have hFc := va_free (wc := [(pl, .inr (1, [.int 0, .ref dz, .int 0]))]) hD hS hA [1] rfl
    refine va_callFi (va_runF (hK.1 1 _ rfl).2 (As := []) (rest := []) ⟨hx, hb, hml, hown, hts⟩ (c_Jx4a65c_size_8abf5 l dC dI pl (0 : Int32) dz (0 : Int32) _ ) (va_cwF 0 hts gX8_candidate_Jx4a65c_size_8abf5_f30Jx4a65c rfl rfl rfl (mo_of hXs.1) (by decide +kernel) ⟨Nat.le_of_ble_eq_true rfl, Nat.le_of_ble_eq_true rfl⟩) ⟨pr_blind, va_recv hKc hPc (ci := 1) (q0 := 0) rfl rfl, fun U hU hW => ⟨rfl, pr_mk hU hW hPc hKc hDc⟩⟩ rfl rfl hl.1 rfl (lv_room (Nat.le_of_ble_eq_true rfl)) dX8_candidate_24 ⟨Nat.le_of_ble_eq_true rfl, Nat.le_of_ble_eq_true rfl⟩) hS (fun q _ h => hFc q h) hFc (fun r_17 u_16 t H1 locs ht hvm hw hB hz1 hk1 hS => ?_)
    obtain ⟨hP1, hK1, hD1⟩ := hB
    rw [ht] at hP1
    obtain ⟨hP, hD⟩ := va_join (wr := [(mm, .inr (10, [.int 0, .ref pl, .ref ig, .ref sl, .ref kl, .int 0, .int 0, .int 0])), (sl, .inr (1, [.int 0, .ref dz, .int 0])), (kl, .inr (1, [.int 0, .ref dz, .int 0]))]) (w1 := [(pl, .inr (1, [.int 0, .ref dz, .int 0]))]) hP hD [1] [0, 2, 3] rfl rfl (by decide) (by decide) hk1 hFc hP1 hD1
    generalize H1 = H at hP hS ⊢
    have hP : va_P (dC, dI) vwCl [(mm, .inr (10, [.int 0, .ref pl, .ref ig, .ref sl, .ref kl, .int 0, .int 0, .int 0])), (sl, .inr (1, [.int 0, .ref dz, .int 0])), (kl, .inr (1, [.int 0, .ref dz, .int 0])), (pl, .inr (1, [.int 0, .ref dz, .int 0]))] H := hP
    have hD : va_D A [(mm, .inr (10, [.int 0, .ref pl, .ref ig, .ref sl, .ref kl, .int 0, .int 0, .int 0])), (sl, .inr (1, [.int 0, .ref dz, .int 0])), (kl, .inr (1, [.int 0, .ref dz, .int 0])), (pl, .inr (1, [.int 0, .ref dz, .int 0]))] := hD
    refine W.widen (k := 0) (n := 0) (Nat.le_refl _) (Nat.le_refl _) ?_
    have hw : r_17 = 0 := hw
    subst hw
    refine lv_bipush (v := 6) hx hb dX8_candidate_29 (by decide) ?_
    refine lv_icmp_ne (tgt := 40) hx hb dX8_candidate_31 (by decide) (fun _ => ?_) (fun h9 => absurd h9 (by decide))
    refine lv_aload_n hx hb dX8_candidate_40 rfl (lv_at hl 0 rfl) ?_
    refine va_get (D := (dC, dI)) (ci := 10) (v := .ref pl) (C := RX8) (T := TX8) (N := 8) hx hb hts hinX8 hown hK hP 0 rfl rfl 1 (by decide) (hts (.fieldLink RX8 10 "BallotLoomModel" "partyOf" "Ljava/util/List;") (by decide +kernel)) (fun _ h9 => h9) rfl dX8_candidate_41 ?_
    refine lv_iload_n hx hb dX8_candidate_44 rfl (lv_at hl 1 rfl) ?_
    have hPc := hP.sub (ws' := []) [] rfl
    have hDc := hD.sub (ws' := []) [] (by decide) rfl
    have hKc := hK.sub (tys' := []) [] rfl
    have hFc := va_free (wc := []) hD hS hA [] rfl
    refine va_callr (va_runS (As := [.int 1]) (rest := [.ref pl]) ⟨hx, hb, hml, hown, hts⟩ (c_J6_valueOf_2dffe l dC dI dz dz tc ad (1 : Int32) _ (by decide) (by decide) (by unfold vp_in; decide)) (va_cwS 1 hts gX8_candidate_J6_valueOf_2dffe rfl rfl rfl (by decide +kernel) ⟨Nat.le_of_ble_eq_true rfl, Nat.le_of_ble_eq_true rfl⟩) ⟨pe_blind ca_bl, fun U hU hW => ⟨rfl, pr_mk hU hW hPc hKc hDc, ca_mk hU hW hS hFc hXs⟩⟩ rfl rfl hl.1 rfl (lv_room (Nat.le_of_ble_eq_true rfl)) dX8_candidate_45 ⟨Nat.le_of_ble_eq_true rfl, Nat.le_of_ble_eq_true rfl⟩) hS (fun q _ h => hFc q h) hFc (fun u_18 r_19 t H1 locs ht hvm hw hB hz1 hk1 hS => ?_)
    obtain ⟨q_20, rfl⟩ : ∃ z, z = u_18 := ⟨_, rfl⟩
    obtain ⟨rfl, hP1, hK1, hD1⟩ := hB
    have hw9 := hw
    rw [ht] at hP1
    obtain ⟨hP, hD⟩ := va_join (wr := [(mm, .inr (10, [.int 0, .ref pl, .ref ig, .ref sl, .ref kl, .int 0, .int 0, .int 0])), (sl, .inr (1, [.int 0, .ref dz, .int 0])), (kl, .inr (1, [.int 0, .ref dz, .int 0])), (pl, .inr (1, [.int 0, .ref dz, .int 0]))]) (w1 := []) hP hD [] [0, 1, 2, 3] rfl rfl (by decide) (by decide) hk1 hFc hP1 hD1
    generalize H1 = H at hP hS ⊢
    have hP : va_P (dC, dI) vwCl [(mm, .inr (10, [.int 0, .ref pl, .ref ig, .ref sl, .ref kl, .int 0, .int 0, .int 0])), (sl, .inr (1, [.int 0, .ref dz, .int 0])), (kl, .inr (1, [.int 0, .ref dz, .int 0])), (pl, .inr (1, [.int 0, .ref dz, .int 0]))] H := hP
    have hD : va_D A [(mm, .inr (10, [.int 0, .ref pl, .ref ig, .ref sl, .ref kl, .int 0, .int 0, .int 0])), (sl, .inr (1, [.int 0, .ref dz, .int 0])), (kl, .inr (1, [.int 0, .ref dz, .int 0])), (pl, .inr (1, [.int 0, .ref dz, .int 0]))] := hD
    refine W.widen (k := 0) (n := 0) (Nat.le_refl _) (Nat.le_refl _) ?_
    have hPc := hP.sub (ws' := [(pl, .inr (1, [.int 0, .ref dz, .int 0]))]) [3] rfl
    have hDc := hD.sub (ws' := [(pl, .inr (1, [.int 0, .ref dz, .int 0]))]) [3] (by decide) rfl
    have hKc := hK.sub (tys' := []) [] rfl
    have hFc := va_free (wc := [(pl, .inr (1, [.int 0, .ref dz, .int 0]))]) hD hS hA [3] rfl
    refine va_callFi (va_runF (hK.1 1 _ rfl).2 (As := [.ref (ad q_20)]) (rest := []) ⟨hx, hb, hml, hown, hts⟩ (c_Jx4a65c_add_9ea2d l dC dI dz dz tc ad pl (ad q_20) _ (⟨_, hw9, rfl⟩)) (va_cwF 1 hts gX8_candidate_Jx4a65c_add_9ea2d_f67Jx4a65c rfl rfl rfl (ca_f hXs) (by decide +kernel) ⟨Nat.le_of_ble_eq_true rfl, Nat.le_of_ble_eq_true rfl⟩) ⟨pe_blind ca_bl, va_recv hKc hPc (ci := 1) (q0 := 0) rfl rfl, fun U hU hW => ⟨rfl, pr_mk hU hW hPc hKc hDc, ca_mk hU hW hS hFc hXs⟩⟩ rfl rfl hl.1 rfl (lv_room (Nat.le_of_ble_eq_true rfl)) dX8_candidate_48 ⟨Nat.le_of_ble_eq_true rfl, Nat.le_of_ble_eq_true rfl⟩) hS (fun q _ h => hFc q h) hFc (fun r_22 u_21 t H1 locs ht hvm hw hB hz1 hk1 hS => ?_)
    obtain ⟨q_23, rfl⟩ : ∃ z, z = u_21 := ⟨_, rfl⟩
    obtain ⟨hP1, hK1, hD1⟩ := hB
    rw [ht] at hP1
    obtain ⟨hP, hD⟩ := va_join (wr := [(mm, .inr (10, [.int 0, .ref pl, .ref ig, .ref sl, .ref kl, .int 0, .int 0, .int 0])), (sl, .inr (1, [.int 0, .ref dz, .int 0])), (kl, .inr (1, [.int 0, .ref dz, .int 0]))]) (w1 := [(pl, .inr (1, [.int 1, .ref q_23, .int 1]))]) hP hD [3] [0, 1, 2] rfl rfl (by decide) (by decide) hk1 hFc hP1 hD1
    generalize H1 = H at hP hS ⊢
    have hP : va_P (dC, dI) vwCl [(mm, .inr (10, [.int 0, .ref pl, .ref ig, .ref sl, .ref kl, .int 0, .int 0, .int 0])), (sl, .inr (1, [.int 0, .ref dz, .int 0])), (kl, .inr (1, [.int 0, .ref dz, .int 0])), (pl, .inr (1, [.int 1, .ref q_23, .int 1]))] H := hP
    have hD : va_D A [(mm, .inr (10, [.int 0, .ref pl, .ref ig, .ref sl, .ref kl, .int 0, .int 0, .int 0])), (sl, .inr (1, [.int 0, .ref dz, .int 0])), (kl, .inr (1, [.int 0, .ref dz, .int 0])), (pl, .inr (1, [.int 1, .ref q_23, .int 1]))] := hD
    refine W.widen (k := 1) (n := 10) (Nat.le_of_ble_eq_true rfl) (Nat.le_of_ble_eq_true rfl) ?_
    have hw : r_22 = 1 := hw
    subst hw
    refine lv_pop hx hb dX8_candidate_53 rfl ?_
    refine lv_aload_n hx hb dX8_candidate_54 rfl (lv_at hl 0 rfl) ?_
    refine va_get (D := (dC, dI)) (ci := 10) (v := .ref pl) (C := RX8) (T := TX8) (N := 8) hx hb hts hinX8 hown hK hP 0 rfl rfl 1 (by decide) (hts (.fieldLink RX8 10 "BallotLoomModel" "partyOf" "Ljava/util/List;") (by decide +kernel)) (fun _ h9 => h9) rfl dX8_candidate_55 ?_
    have hPc := hP.sub (ws' := [(pl, .inr (1, [.int 1, .ref q_23, .int 1]))]) [3] rfl
    have hDc := hD.sub (ws' := [(pl, .inr (1, [.int 1, .ref q_23, .int 1]))]) [3] (by decide) rfl
    have hKc := hK.sub (tys' := []) [] rfl
    have hFc := va_free (wc := [(pl, .inr (1, [.int 1, .ref q_23, .int 1]))]) hD hS hA [3] rfl
    refine va_callFi (va_runF (hK.1 1 _ rfl).2 (As := []) (rest := []) ⟨hx, hb, hml, hown, hts⟩ (c_Jx4a65c_size_8abf5 l dC dI pl (1 : Int32) q_23 (1 : Int32) _ ) (va_cwF 0 hts gX8_candidate_Jx4a65c_size_8abf5_f30Jx4a65c rfl rfl rfl (mo_of hXs.1) (by decide +kernel) ⟨Nat.le_of_ble_eq_true rfl, Nat.le_of_ble_eq_true rfl⟩) ⟨pr_blind, va_recv hKc hPc (ci := 1) (q0 := 0) rfl rfl, fun U hU hW => ⟨rfl, pr_mk hU hW hPc hKc hDc⟩⟩ rfl rfl hl.1 rfl (lv_room (Nat.le_of_ble_eq_true rfl)) dX8_candidate_58 ⟨Nat.le_of_ble_eq_true rfl, Nat.le_of_ble_eq_true rfl⟩) hS (fun q _ h => hFc q h) hFc (fun r_25 u_24 t H1 locs ht hvm hw hB hz1 hk1 hS => ?_)
    obtain ⟨hP1, hK1, hD1⟩ := hB
    rw [ht] at hP1
    obtain ⟨hP, hD⟩ := va_join (wr := [(mm, .inr (10, [.int 0, .ref pl, .ref ig, .ref sl, .ref kl, .int 0, .int 0, .int 0])), (sl, .inr (1, [.int 0, .ref dz, .int 0])), (kl, .inr (1, [.int 0, .ref dz, .int 0]))]) (w1 := [(pl, .inr (1, [.int 1, .ref q_23, .int 1]))]) hP hD [3] [0, 1, 2] rfl rfl (by decide) (by decide) hk1 hFc hP1 hD1
    generalize H1 = H at hP hS ⊢
    have hP : va_P (dC, dI) vwCl [(mm, .inr (10, [.int 0, .ref pl, .ref ig, .ref sl, .ref kl, .int 0, .int 0, .int 0])), (sl, .inr (1, [.int 0, .ref dz, .int 0])), (kl, .inr (1, [.int 0, .ref dz, .int 0])), (pl, .inr (1, [.int 1, .ref q_23, .int 1]))] H := hP
    have hD : va_D A [(mm, .inr (10, [.int 0, .ref pl, .ref ig, .ref sl, .ref kl, .int 0, .int 0, .int 0])), (sl, .inr (1, [.int 0, .ref dz, .int 0])), (kl, .inr (1, [.int 0, .ref dz, .int 0])), (pl, .inr (1, [.int 1, .ref q_23, .int 1]))] := hD
    refine W.widen (k := 1) (n := 10) (Nat.le_refl _) (Nat.le_refl _) ?_
    have hw : r_25 = 1 := hw
    subst hw
    refine lv_iconst (v := 1) hx hb dX8_candidate_63 (by decide) ?_
    refine lv_isub hx hb dX8_candidate_64 ?_
    refine lv_topi (fun y_26 ey_26 => ?_)
    obtain rfl : y_26 = 0 := ey_26.trans (by decide)
    have hP9 := hP.sub (ws' := [(mm, .inr (10, [.int 0, .ref pl, .ref ig, .ref sl, .ref kl, .int 0, .int 0, .int 0]))]) [0] rfl
    have hD9 := hD.sub (ws' := [(mm, .inr (10, [.int 0, .ref pl, .ref ig, .ref sl, .ref kl, .int 0, .int 0, .int 0]))]) [0] (by decide) rfl
    have hK9 := hK.sub (tys' := []) [] rfl
    refine W.widen (k := 1) (n := 10) (Nat.le_of_ble_eq_true rfl) (Nat.le_of_ble_eq_true rfl) ?_
    exact W.iret (v := 0) hx hb hr (fun t ht hW => ⟨⟨0, (), rfl, rfl, po_mk ht hW hP9 hK9 hD9⟩, hS.F ht⟩) hS.2.2 dX8_candidate_65
  · refine Met.ofW (cc := cX8_candidate) (maxL := 2) (ret := (some .int)) (by decide) rfl ?_
    intro p e s m args below meth c s₁ B hml hv
    obtain ⟨rfl, ⟨hsz, hP, hK, hD0⟩, hXs⟩ := hv
    have hx := B.exec
    have hb := B.bytes
    have hr := B.returns
    have hts := atoms_spec (ws := wsX8_candidate) B.pre
    have hown : s.vm.findClass RX8 = some m.cls := findClass_of_methodNamed B.named
    have hlocks := B.notSynchronized
    subst hsz
    have hD := hD0.self (sz := s.heap.size)
    generalize hAe : va_A [(mm, .inr (10, [.int 0, .ref pl, .ref ig, .ref sl, .ref kl, .int 0, .int 0, .int 0])), (pl, .inr (1, [.int 0, .ref dz, .int 0])), (sl, .inr (1, [.int 0, .ref dz, .int 0])), (kl, .inr (1, [.int 0, .ref dz, .int 0]))] s.heap.size = A at hD hXs ⊢
    have hA : ∀ q : Nat, s.heap.size ≤ q → A q := fun q h => by rw [← hAe]; exact Or.inr h
    have hS : va_S A s.heap s.heap [] := va_S.rf
    have hP : va_P (dC, dI) vwCl [(mm, .inr (10, [.int 0, .ref pl, .ref ig, .ref sl, .ref kl, .int 0, .int 0, .int 0])), (pl, .inr (1, [.int 0, .ref dz, .int 0])), (sl, .inr (1, [.int 0, .ref dz, .int 0])), (kl, .inr (1, [.int 0, .ref dz, .int 0]))] s.heap := hP
    have hK : va_K (dC, dI) vwCl [] s := hK
    have hl := lv_entry ([.ref mm, .int 2]) (n := 2) (Nat.le_of_ble_eq_true rfl)
    rw [lg_entry_eq]
    generalize (lg_sl ([.ref mm, .int 2]) ++ List.replicate (2 - (lg_sl ([.ref mm, .int 2])).length) Slot.unset).toArray = ls at hl ⊢
    have hl : lv_has ls 2 [(0, .ref mm), (1, .int 2)] := hl
    refine lv_aload_n hx hb dX8_candidate_0 rfl (lv_at hl 0 rfl) ?_
    refine lv_iconst (v := 0) hx hb dX8_candidate_1 (by decide) ?_
    have hinX8 : ∀ w ∈ u_ws RX8 TX8 8, w ∈ wsX8_candidate := by decide +kernel
    refine va_put (D := (dC, dI)) (ci := 10) (v := .int 0) (ty := .int) (C := RX8) (T := TX8) (N := 8) hx hb hts hinX8 tyX8 tyX8_ok nmX8 hown hK hP hD hS 0 rfl rfl 0 (by decide) (hts (.fieldLink RX8 26 "BallotLoomModel" "thrown" "I") (by decide +kernel)) (fun _ h9 => h9) rfl (by decide +kernel) rfl rfl (Nat.le_of_ble_eq_true rfl) dX8_candidate_2 (fun H locs hP hD hS => ?_)
    have hP : va_P (dC, dI) vwCl [(mm, .inr (10, [.int 0, .ref pl, .ref ig, .ref sl, .ref kl, .int 0, .int 0, .int 0])), (pl, .inr (1, [.int 0, .ref dz, .int 0])), (sl, .inr (1, [.int 0, .ref dz, .int 0])), (kl, .inr (1, [.int 0, .ref dz, .int 0]))] H := hP
    have hD : va_D A [(mm, .inr (10, [.int 0, .ref pl, .ref ig, .ref sl, .ref kl, .int 0, .int 0, .int 0])), (pl, .inr (1, [.int 0, .ref dz, .int 0])), (sl, .inr (1, [.int 0, .ref dz, .int 0])), (kl, .inr (1, [.int 0, .ref dz, .int 0]))] := hD
    refine lv_iload_n hx hb dX8_candidate_5 rfl (lv_at hl 1 rfl) ?_
    refine lv_iconst (v := 0) hx hb dX8_candidate_6 (by decide) ?_
    refine lv_iconst (v := 3) hx hb dX8_candidate_7 (by decide) ?_
    have hPc := hP.sub (ws' := []) [] rfl
    have hDc := hD.sub (ws' := []) [] (by decide) rfl
    have hKc := hK.sub (tys' := []) [] rfl
    have hFc := va_free (wc := []) hD hS hA [] rfl
    refine va_calli (va_runS (As := [.int 2, .int 0, .int 3]) (rest := []) ⟨hx, hb, hml, hown, hts⟩ (c_X8_in l dC dI (2 : Int32) (0 : Int32) (3 : Int32) _ (by decide) (by decide)) (va_cwS 3 hts gX8_candidate_X8_in rfl rfl rfl (by decide +kernel) ⟨Nat.le_of_ble_eq_true rfl, Nat.le_of_ble_eq_true rfl⟩) ⟨pr_blind, fun U hU hW => ⟨rfl, pr_mk hU hW hPc hKc hDc⟩⟩ rfl rfl hl.1 rfl (lv_room (Nat.le_of_ble_eq_true rfl)) dX8_candidate_8 ⟨Nat.le_of_ble_eq_true rfl, Nat.le_of_ble_eq_true rfl⟩) hS (fun q _ h => hFc q h) hFc (fun r_28 u_27 t H1 locs ht hvm hw hB hz1 hk1 hS => ?_)
    obtain ⟨hP1, hK1, hD1⟩ := hB
    rw [ht] at hP1
    obtain ⟨hP, hD⟩ := va_join (wr := [(mm, .inr (10, [.int 0, .ref pl, .ref ig, .ref sl, .ref kl, .int 0, .int 0, .int 0])), (pl, .inr (1, [.int 0, .ref dz, .int 0])), (sl, .inr (1, [.int 0, .ref dz, .int 0])), (kl, .inr (1, [.int 0, .ref dz, .int 0]))]) (w1 := []) hP hD [] [0, 1, 2, 3] rfl rfl (by decide) (by decide) hk1 hFc hP1 hD1
    generalize H1 = H at hP hS ⊢
    have hP : va_P (dC, dI) vwCl [(mm, .inr (10, [.int 0, .ref pl, .ref ig, .ref sl, .ref kl, .int 0, .int 0, .int 0])), (pl, .inr (1, [.int 0, .ref dz, .int 0])), (sl, .inr (1, [.int 0, .ref dz, .int 0])), (kl, .inr (1, [.int 0, .ref dz, .int 0]))] H := hP
    have hD : va_D A [(mm, .inr (10, [.int 0, .ref pl, .ref ig, .ref sl, .ref kl, .int 0, .int 0, .int 0])), (pl, .inr (1, [.int 0, .ref dz, .int 0])), (sl, .inr (1, [.int 0, .ref dz, .int 0])), (kl, .inr (1, [.int 0, .ref dz, .int 0]))] := hD
    refine W.widen (k := 0) (n := 0) (Nat.le_refl _) (Nat.le_refl _) ?_
    have hw : r_28 = 1 := hw
    subst hw
    refine lv_if_ne (tgt := 20) hx hb dX8_candidate_11 (by decide) (fun _ => ?_) (fun h9 => absurd h9 (by decide))
    refine lv_aload_n hx hb dX8_candidate_20 rfl (lv_at hl 0 rfl) ?_
    refine va_get (D := (dC, dI)) (ci := 10) (v := .ref pl) (C := RX8) (T := TX8) (N := 8) hx hb hts hinX8 hown hK hP 0 rfl rfl 1 (by decide) (hts (.fieldLink RX8 10 "BallotLoomModel" "partyOf" "Ljava/util/List;") (by decide +kernel)) (fun _ h9 => h9) rfl dX8_candidate_21 ?_
    have hPc := hP.sub (ws' := [(pl, .inr (1, [.int 0, .ref dz, .int 0]))]) [1] rfl
    have hDc := hD.sub (ws' := [(pl, .inr (1, [.int 0, .ref dz, .int 0]))]) [1] (by decide) rfl
    have hKc := hK.sub (tys' := []) [] rfl
    have hFc := va_free (wc := [(pl, .inr (1, [.int 0, .ref dz, .int 0]))]) hD hS hA [1] rfl
    refine va_callFi (va_runF (hK.1 1 _ rfl).2 (As := []) (rest := []) ⟨hx, hb, hml, hown, hts⟩ (c_Jx4a65c_size_8abf5 l dC dI pl (0 : Int32) dz (0 : Int32) _ ) (va_cwF 0 hts gX8_candidate_Jx4a65c_size_8abf5_f30Jx4a65c rfl rfl rfl (mo_of hXs.1) (by decide +kernel) ⟨Nat.le_of_ble_eq_true rfl, Nat.le_of_ble_eq_true rfl⟩) ⟨pr_blind, va_recv hKc hPc (ci := 1) (q0 := 0) rfl rfl, fun U hU hW => ⟨rfl, pr_mk hU hW hPc hKc hDc⟩⟩ rfl rfl hl.1 rfl (lv_room (Nat.le_of_ble_eq_true rfl)) dX8_candidate_24 ⟨Nat.le_of_ble_eq_true rfl, Nat.le_of_ble_eq_true rfl⟩) hS (fun q _ h => hFc q h) hFc (fun r_30 u_29 t H1 locs ht hvm hw hB hz1 hk1 hS => ?_)
    obtain ⟨hP1, hK1, hD1⟩ := hB
    rw [ht] at hP1
    obtain ⟨hP, hD⟩ := va_join (wr := [(mm, .inr (10, [.int 0, .ref pl, .ref ig, .ref sl, .ref kl, .int 0, .int 0, .int 0])), (sl, .inr (1, [.int 0, .ref dz, .int 0])), (kl, .inr (1, [.int 0, .ref dz, .int 0]))]) (w1 := [(pl, .inr (1, [.int 0, .ref dz, .int 0]))]) hP hD [1] [0, 2, 3] rfl rfl (by decide) (by decide) hk1 hFc hP1 hD1
    generalize H1 = H at hP hS ⊢
    have hP : va_P (dC, dI) vwCl [(mm, .inr (10, [.int 0, .ref pl, .ref ig, .ref sl, .ref kl, .int 0, .int 0, .int 0])), (sl, .inr (1, [.int 0, .ref dz, .int 0])), (kl, .inr (1, [.int 0, .ref dz, .int 0])), (pl, .inr (1, [.int 0, .ref dz, .int 0]))] H := hP
    have hD : va_D A [(mm, .inr (10, [.int 0, .ref pl, .ref ig, .ref sl, .ref kl, .int 0, .int 0, .int 0])), (sl, .inr (1, [.int 0, .ref dz, .int 0])), (kl, .inr (1, [.int 0, .ref dz, .int 0])), (pl, .inr (1, [.int 0, .ref dz, .int 0]))] := hD
    refine W.widen (k := 0) (n := 0) (Nat.le_refl _) (Nat.le_refl _) ?_
    have hw : r_30 = 0 := hw
    subst hw
    refine lv_bipush (v := 6) hx hb dX8_candidate_29 (by decide) ?_
    refine lv_icmp_ne (tgt := 40) hx hb dX8_candidate_31 (by decide) (fun _ => ?_) (fun h9 => absurd h9 (by decide))
    refine lv_aload_n hx hb dX8_candidate_40 rfl (lv_at hl 0 rfl) ?_
    refine va_get (D := (dC, dI)) (ci := 10) (v := .ref pl) (C := RX8) (T := TX8) (N := 8) hx hb hts hinX8 hown hK hP 0 rfl rfl 1 (by decide) (hts (.fieldLink RX8 10 "BallotLoomModel" "partyOf" "Ljava/util/List;") (by decide +kernel)) (fun _ h9 => h9) rfl dX8_candidate_41 ?_
    refine lv_iload_n hx hb dX8_candidate_44 rfl (lv_at hl 1 rfl) ?_
    have hPc := hP.sub (ws' := []) [] rfl
    have hDc := hD.sub (ws' := []) [] (by decide) rfl
    have hKc := hK.sub (tys' := []) [] rfl
    have hFc := va_free (wc := []) hD hS hA [] rfl
    refine va_callr (va_runS (As := [.int 2]) (rest := [.ref pl]) ⟨hx, hb, hml, hown, hts⟩ (c_J6_valueOf_2dffe l dC dI dz dz tc ad (2 : Int32) _ (by decide) (by decide) (by unfold vp_in; decide)) (va_cwS 1 hts gX8_candidate_J6_valueOf_2dffe rfl rfl rfl (by decide +kernel) ⟨Nat.le_of_ble_eq_true rfl, Nat.le_of_ble_eq_true rfl⟩) ⟨pe_blind ca_bl, fun U hU hW => ⟨rfl, pr_mk hU hW hPc hKc hDc, ca_mk hU hW hS hFc hXs⟩⟩ rfl rfl hl.1 rfl (lv_room (Nat.le_of_ble_eq_true rfl)) dX8_candidate_45 ⟨Nat.le_of_ble_eq_true rfl, Nat.le_of_ble_eq_true rfl⟩) hS (fun q _ h => hFc q h) hFc (fun u_31 r_32 t H1 locs ht hvm hw hB hz1 hk1 hS => ?_)
    obtain ⟨q_33, rfl⟩ : ∃ z, z = u_31 := ⟨_, rfl⟩
    obtain ⟨rfl, hP1, hK1, hD1⟩ := hB
    have hw9 := hw
    rw [ht] at hP1
    obtain ⟨hP, hD⟩ := va_join (wr := [(mm, .inr (10, [.int 0, .ref pl, .ref ig, .ref sl, .ref kl, .int 0, .int 0, .int 0])), (sl, .inr (1, [.int 0, .ref dz, .int 0])), (kl, .inr (1, [.int 0, .ref dz, .int 0])), (pl, .inr (1, [.int 0, .ref dz, .int 0]))]) (w1 := []) hP hD [] [0, 1, 2, 3] rfl rfl (by decide) (by decide) hk1 hFc hP1 hD1
    generalize H1 = H at hP hS ⊢
    have hP : va_P (dC, dI) vwCl [(mm, .inr (10, [.int 0, .ref pl, .ref ig, .ref sl, .ref kl, .int 0, .int 0, .int 0])), (sl, .inr (1, [.int 0, .ref dz, .int 0])), (kl, .inr (1, [.int 0, .ref dz, .int 0])), (pl, .inr (1, [.int 0, .ref dz, .int 0]))] H := hP
    have hD : va_D A [(mm, .inr (10, [.int 0, .ref pl, .ref ig, .ref sl, .ref kl, .int 0, .int 0, .int 0])), (sl, .inr (1, [.int 0, .ref dz, .int 0])), (kl, .inr (1, [.int 0, .ref dz, .int 0])), (pl, .inr (1, [.int 0, .ref dz, .int 0]))] := hD
    refine W.widen (k := 0) (n := 0) (Nat.le_refl _) (Nat.le_refl _) ?_
    have hPc := hP.sub (ws' := [(pl, .inr (1, [.int 0, .ref dz, .int 0]))]) [3] rfl
    have hDc := hD.sub (ws' := [(pl, .inr (1, [.int 0, .ref dz, .int 0]))]) [3] (by decide) rfl
    have hKc := hK.sub (tys' := []) [] rfl
    have hFc := va_free (wc := [(pl, .inr (1, [.int 0, .ref dz, .int 0]))]) hD hS hA [3] rfl
    refine va_callFi (va_runF (hK.1 1 _ rfl).2 (As := [.ref (ad q_33)]) (rest := []) ⟨hx, hb, hml, hown, hts⟩ (c_Jx4a65c_add_9ea2d l dC dI dz dz tc ad pl (ad q_33) _ (⟨_, hw9, rfl⟩)) (va_cwF 1 hts gX8_candidate_Jx4a65c_add_9ea2d_f67Jx4a65c rfl rfl rfl (ca_f hXs) (by decide +kernel) ⟨Nat.le_of_ble_eq_true rfl, Nat.le_of_ble_eq_true rfl⟩) ⟨pe_blind ca_bl, va_recv hKc hPc (ci := 1) (q0 := 0) rfl rfl, fun U hU hW => ⟨rfl, pr_mk hU hW hPc hKc hDc, ca_mk hU hW hS hFc hXs⟩⟩ rfl rfl hl.1 rfl (lv_room (Nat.le_of_ble_eq_true rfl)) dX8_candidate_48 ⟨Nat.le_of_ble_eq_true rfl, Nat.le_of_ble_eq_true rfl⟩) hS (fun q _ h => hFc q h) hFc (fun r_35 u_34 t H1 locs ht hvm hw hB hz1 hk1 hS => ?_)
    obtain ⟨q_36, rfl⟩ : ∃ z, z = u_34 := ⟨_, rfl⟩
    obtain ⟨hP1, hK1, hD1⟩ := hB
    rw [ht] at hP1
    obtain ⟨hP, hD⟩ := va_join (wr := [(mm, .inr (10, [.int 0, .ref pl, .ref ig, .ref sl, .ref kl, .int 0, .int 0, .int 0])), (sl, .inr (1, [.int 0, .ref dz, .int 0])), (kl, .inr (1, [.int 0, .ref dz, .int 0]))]) (w1 := [(pl, .inr (1, [.int 1, .ref q_36, .int 1]))]) hP hD [3] [0, 1, 2] rfl rfl (by decide) (by decide) hk1 hFc hP1 hD1
    generalize H1 = H at hP hS ⊢
    have hP : va_P (dC, dI) vwCl [(mm, .inr (10, [.int 0, .ref pl, .ref ig, .ref sl, .ref kl, .int 0, .int 0, .int 0])), (sl, .inr (1, [.int 0, .ref dz, .int 0])), (kl, .inr (1, [.int 0, .ref dz, .int 0])), (pl, .inr (1, [.int 1, .ref q_36, .int 1]))] H := hP
    have hD : va_D A [(mm, .inr (10, [.int 0, .ref pl, .ref ig, .ref sl, .ref kl, .int 0, .int 0, .int 0])), (sl, .inr (1, [.int 0, .ref dz, .int 0])), (kl, .inr (1, [.int 0, .ref dz, .int 0])), (pl, .inr (1, [.int 1, .ref q_36, .int 1]))] := hD
    refine W.widen (k := 1) (n := 10) (Nat.le_of_ble_eq_true rfl) (Nat.le_of_ble_eq_true rfl) ?_
    have hw : r_35 = 1 := hw
    subst hw
    refine lv_pop hx hb dX8_candidate_53 rfl ?_
    refine lv_aload_n hx hb dX8_candidate_54 rfl (lv_at hl 0 rfl) ?_
    refine va_get (D := (dC, dI)) (ci := 10) (v := .ref pl) (C := RX8) (T := TX8) (N := 8) hx hb hts hinX8 hown hK hP 0 rfl rfl 1 (by decide) (hts (.fieldLink RX8 10 "BallotLoomModel" "partyOf" "Ljava/util/List;") (by decide +kernel)) (fun _ h9 => h9) rfl dX8_candidate_55 ?_
    have hPc := hP.sub (ws' := [(pl, .inr (1, [.int 1, .ref q_36, .int 1]))]) [3] rfl
    have hDc := hD.sub (ws' := [(pl, .inr (1, [.int 1, .ref q_36, .int 1]))]) [3] (by decide) rfl
    have hKc := hK.sub (tys' := []) [] rfl
    have hFc := va_free (wc := [(pl, .inr (1, [.int 1, .ref q_36, .int 1]))]) hD hS hA [3] rfl
    refine va_callFi (va_runF (hK.1 1 _ rfl).2 (As := []) (rest := []) ⟨hx, hb, hml, hown, hts⟩ (c_Jx4a65c_size_8abf5 l dC dI pl (1 : Int32) q_36 (1 : Int32) _ ) (va_cwF 0 hts gX8_candidate_Jx4a65c_size_8abf5_f30Jx4a65c rfl rfl rfl (mo_of hXs.1) (by decide +kernel) ⟨Nat.le_of_ble_eq_true rfl, Nat.le_of_ble_eq_true rfl⟩) ⟨pr_blind, va_recv hKc hPc (ci := 1) (q0 := 0) rfl rfl, fun U hU hW => ⟨rfl, pr_mk hU hW hPc hKc hDc⟩⟩ rfl rfl hl.1 rfl (lv_room (Nat.le_of_ble_eq_true rfl)) dX8_candidate_58 ⟨Nat.le_of_ble_eq_true rfl, Nat.le_of_ble_eq_true rfl⟩) hS (fun q _ h => hFc q h) hFc (fun r_38 u_37 t H1 locs ht hvm hw hB hz1 hk1 hS => ?_)
    obtain ⟨hP1, hK1, hD1⟩ := hB
    rw [ht] at hP1
    obtain ⟨hP, hD⟩ := va_join (wr := [(mm, .inr (10, [.int 0, .ref pl, .ref ig, .ref sl, .ref kl, .int 0, .int 0, .int 0])), (sl, .inr (1, [.int 0, .ref dz, .int 0])), (kl, .inr (1, [.int 0, .ref dz, .int 0]))]) (w1 := [(pl, .inr (1, [.int 1, .ref q_36, .int 1]))]) hP hD [3] [0, 1, 2] rfl rfl (by decide) (by decide) hk1 hFc hP1 hD1
    generalize H1 = H at hP hS ⊢
    have hP : va_P (dC, dI) vwCl [(mm, .inr (10, [.int 0, .ref pl, .ref ig, .ref sl, .ref kl, .int 0, .int 0, .int 0])), (sl, .inr (1, [.int 0, .ref dz, .int 0])), (kl, .inr (1, [.int 0, .ref dz, .int 0])), (pl, .inr (1, [.int 1, .ref q_36, .int 1]))] H := hP
    have hD : va_D A [(mm, .inr (10, [.int 0, .ref pl, .ref ig, .ref sl, .ref kl, .int 0, .int 0, .int 0])), (sl, .inr (1, [.int 0, .ref dz, .int 0])), (kl, .inr (1, [.int 0, .ref dz, .int 0])), (pl, .inr (1, [.int 1, .ref q_36, .int 1]))] := hD
    refine W.widen (k := 1) (n := 10) (Nat.le_refl _) (Nat.le_refl _) ?_
    have hw : r_38 = 1 := hw
    subst hw
    refine lv_iconst (v := 1) hx hb dX8_candidate_63 (by decide) ?_
    refine lv_isub hx hb dX8_candidate_64 ?_
    refine lv_topi (fun y_39 ey_39 => ?_)
    obtain rfl : y_39 = 0 := ey_39.trans (by decide)
    have hP9 := hP.sub (ws' := [(mm, .inr (10, [.int 0, .ref pl, .ref ig, .ref sl, .ref kl, .int 0, .int 0, .int 0]))]) [0] rfl
    have hD9 := hD.sub (ws' := [(mm, .inr (10, [.int 0, .ref pl, .ref ig, .ref sl, .ref kl, .int 0, .int 0, .int 0]))]) [0] (by decide) rfl
    have hK9 := hK.sub (tys' := []) [] rfl
    refine W.widen (k := 1) (n := 10) (Nat.le_of_ble_eq_true rfl) (Nat.le_of_ble_eq_true rfl) ?_
    exact W.iret (v := 0) hx hb hr (fun t ht hW => ⟨⟨0, (), rfl, rfl, po_mk ht hW hP9 hK9 hD9⟩, hS.F ht⟩) hS.2.2 dX8_candidate_65
  · refine Met.ofW (cc := cX8_candidate) (maxL := 2) (ret := (some .int)) (by decide) rfl ?_
    intro p e s m args below meth c s₁ B hml hv
    obtain ⟨rfl, ⟨hsz, hP, hK, hD0⟩, hXs⟩ := hv
    have hx := B.exec
    have hb := B.bytes
    have hr := B.returns
    have hts := atoms_spec (ws := wsX8_candidate) B.pre
    have hown : s.vm.findClass RX8 = some m.cls := findClass_of_methodNamed B.named
    have hlocks := B.notSynchronized
    subst hsz
    have hD := hD0.self (sz := s.heap.size)
    generalize hAe : va_A [(mm, .inr (10, [.int 0, .ref pl, .ref ig, .ref sl, .ref kl, .int 0, .int 0, .int 0])), (pl, .inr (1, [.int 0, .ref dz, .int 0])), (sl, .inr (1, [.int 0, .ref dz, .int 0])), (kl, .inr (1, [.int 0, .ref dz, .int 0]))] s.heap.size = A at hD hXs ⊢
    have hA : ∀ q : Nat, s.heap.size ≤ q → A q := fun q h => by rw [← hAe]; exact Or.inr h
    have hS : va_S A s.heap s.heap [] := va_S.rf
    have hP : va_P (dC, dI) vwCl [(mm, .inr (10, [.int 0, .ref pl, .ref ig, .ref sl, .ref kl, .int 0, .int 0, .int 0])), (pl, .inr (1, [.int 0, .ref dz, .int 0])), (sl, .inr (1, [.int 0, .ref dz, .int 0])), (kl, .inr (1, [.int 0, .ref dz, .int 0]))] s.heap := hP
    have hK : va_K (dC, dI) vwCl [] s := hK
    have hl := lv_entry ([.ref mm, .int 3]) (n := 2) (Nat.le_of_ble_eq_true rfl)
    rw [lg_entry_eq]
    generalize (lg_sl ([.ref mm, .int 3]) ++ List.replicate (2 - (lg_sl ([.ref mm, .int 3])).length) Slot.unset).toArray = ls at hl ⊢
    have hl : lv_has ls 2 [(0, .ref mm), (1, .int 3)] := hl
    refine lv_aload_n hx hb dX8_candidate_0 rfl (lv_at hl 0 rfl) ?_
    refine lv_iconst (v := 0) hx hb dX8_candidate_1 (by decide) ?_
    have hinX8 : ∀ w ∈ u_ws RX8 TX8 8, w ∈ wsX8_candidate := by decide +kernel
    refine va_put (D := (dC, dI)) (ci := 10) (v := .int 0) (ty := .int) (C := RX8) (T := TX8) (N := 8) hx hb hts hinX8 tyX8 tyX8_ok nmX8 hown hK hP hD hS 0 rfl rfl 0 (by decide) (hts (.fieldLink RX8 26 "BallotLoomModel" "thrown" "I") (by decide +kernel)) (fun _ h9 => h9) rfl (by decide +kernel) rfl rfl (Nat.le_of_ble_eq_true rfl) dX8_candidate_2 (fun H locs hP hD hS => ?_)
    have hP : va_P (dC, dI) vwCl [(mm, .inr (10, [.int 0, .ref pl, .ref ig, .ref sl, .ref kl, .int 0, .int 0, .int 0])), (pl, .inr (1, [.int 0, .ref dz, .int 0])), (sl, .inr (1, [.int 0, .ref dz, .int 0])), (kl, .inr (1, [.int 0, .ref dz, .int 0]))] H := hP
    have hD : va_D A [(mm, .inr (10, [.int 0, .ref pl, .ref ig, .ref sl, .ref kl, .int 0, .int 0, .int 0])), (pl, .inr (1, [.int 0, .ref dz, .int 0])), (sl, .inr (1, [.int 0, .ref dz, .int 0])), (kl, .inr (1, [.int 0, .ref dz, .int 0]))] := hD
    refine lv_iload_n hx hb dX8_candidate_5 rfl (lv_at hl 1 rfl) ?_
    refine lv_iconst (v := 0) hx hb dX8_candidate_6 (by decide) ?_
    refine lv_iconst (v := 3) hx hb dX8_candidate_7 (by decide) ?_
    have hPc := hP.sub (ws' := []) [] rfl
    have hDc := hD.sub (ws' := []) [] (by decide) rfl
    have hKc := hK.sub (tys' := []) [] rfl
    have hFc := va_free (wc := []) hD hS hA [] rfl
    refine va_calli (va_runS (As := [.int 3, .int 0, .int 3]) (rest := []) ⟨hx, hb, hml, hown, hts⟩ (c_X8_in l dC dI (3 : Int32) (0 : Int32) (3 : Int32) _ (by decide) (by decide)) (va_cwS 3 hts gX8_candidate_X8_in rfl rfl rfl (by decide +kernel) ⟨Nat.le_of_ble_eq_true rfl, Nat.le_of_ble_eq_true rfl⟩) ⟨pr_blind, fun U hU hW => ⟨rfl, pr_mk hU hW hPc hKc hDc⟩⟩ rfl rfl hl.1 rfl (lv_room (Nat.le_of_ble_eq_true rfl)) dX8_candidate_8 ⟨Nat.le_of_ble_eq_true rfl, Nat.le_of_ble_eq_true rfl⟩) hS (fun q _ h => hFc q h) hFc (fun r_41 u_40 t H1 locs ht hvm hw hB hz1 hk1 hS => ?_)
    obtain ⟨hP1, hK1, hD1⟩ := hB
    rw [ht] at hP1
    obtain ⟨hP, hD⟩ := va_join (wr := [(mm, .inr (10, [.int 0, .ref pl, .ref ig, .ref sl, .ref kl, .int 0, .int 0, .int 0])), (pl, .inr (1, [.int 0, .ref dz, .int 0])), (sl, .inr (1, [.int 0, .ref dz, .int 0])), (kl, .inr (1, [.int 0, .ref dz, .int 0]))]) (w1 := []) hP hD [] [0, 1, 2, 3] rfl rfl (by decide) (by decide) hk1 hFc hP1 hD1
    generalize H1 = H at hP hS ⊢
    have hP : va_P (dC, dI) vwCl [(mm, .inr (10, [.int 0, .ref pl, .ref ig, .ref sl, .ref kl, .int 0, .int 0, .int 0])), (pl, .inr (1, [.int 0, .ref dz, .int 0])), (sl, .inr (1, [.int 0, .ref dz, .int 0])), (kl, .inr (1, [.int 0, .ref dz, .int 0]))] H := hP
    have hD : va_D A [(mm, .inr (10, [.int 0, .ref pl, .ref ig, .ref sl, .ref kl, .int 0, .int 0, .int 0])), (pl, .inr (1, [.int 0, .ref dz, .int 0])), (sl, .inr (1, [.int 0, .ref dz, .int 0])), (kl, .inr (1, [.int 0, .ref dz, .int 0]))] := hD
    refine W.widen (k := 0) (n := 0) (Nat.le_refl _) (Nat.le_refl _) ?_
    have hw : r_41 = 1 := hw
    subst hw
    refine lv_if_ne (tgt := 20) hx hb dX8_candidate_11 (by decide) (fun _ => ?_) (fun h9 => absurd h9 (by decide))
    refine lv_aload_n hx hb dX8_candidate_20 rfl (lv_at hl 0 rfl) ?_
    refine va_get (D := (dC, dI)) (ci := 10) (v := .ref pl) (C := RX8) (T := TX8) (N := 8) hx hb hts hinX8 hown hK hP 0 rfl rfl 1 (by decide) (hts (.fieldLink RX8 10 "BallotLoomModel" "partyOf" "Ljava/util/List;") (by decide +kernel)) (fun _ h9 => h9) rfl dX8_candidate_21 ?_
    have hPc := hP.sub (ws' := [(pl, .inr (1, [.int 0, .ref dz, .int 0]))]) [1] rfl
    have hDc := hD.sub (ws' := [(pl, .inr (1, [.int 0, .ref dz, .int 0]))]) [1] (by decide) rfl
    have hKc := hK.sub (tys' := []) [] rfl
    have hFc := va_free (wc := [(pl, .inr (1, [.int 0, .ref dz, .int 0]))]) hD hS hA [1] rfl
    refine va_callFi (va_runF (hK.1 1 _ rfl).2 (As := []) (rest := []) ⟨hx, hb, hml, hown, hts⟩ (c_Jx4a65c_size_8abf5 l dC dI pl (0 : Int32) dz (0 : Int32) _ ) (va_cwF 0 hts gX8_candidate_Jx4a65c_size_8abf5_f30Jx4a65c rfl rfl rfl (mo_of hXs.1) (by decide +kernel) ⟨Nat.le_of_ble_eq_true rfl, Nat.le_of_ble_eq_true rfl⟩) ⟨pr_blind, va_recv hKc hPc (ci := 1) (q0 := 0) rfl rfl, fun U hU hW => ⟨rfl, pr_mk hU hW hPc hKc hDc⟩⟩ rfl rfl hl.1 rfl (lv_room (Nat.le_of_ble_eq_true rfl)) dX8_candidate_24 ⟨Nat.le_of_ble_eq_true rfl, Nat.le_of_ble_eq_true rfl⟩) hS (fun q _ h => hFc q h) hFc (fun r_43 u_42 t H1 locs ht hvm hw hB hz1 hk1 hS => ?_)
    obtain ⟨hP1, hK1, hD1⟩ := hB
    rw [ht] at hP1
    obtain ⟨hP, hD⟩ := va_join (wr := [(mm, .inr (10, [.int 0, .ref pl, .ref ig, .ref sl, .ref kl, .int 0, .int 0, .int 0])), (sl, .inr (1, [.int 0, .ref dz, .int 0])), (kl, .inr (1, [.int 0, .ref dz, .int 0]))]) (w1 := [(pl, .inr (1, [.int 0, .ref dz, .int 0]))]) hP hD [1] [0, 2, 3] rfl rfl (by decide) (by decide) hk1 hFc hP1 hD1
    generalize H1 = H at hP hS ⊢
    have hP : va_P (dC, dI) vwCl [(mm, .inr (10, [.int 0, .ref pl, .ref ig, .ref sl, .ref kl, .int 0, .int 0, .int 0])), (sl, .inr (1, [.int 0, .ref dz, .int 0])), (kl, .inr (1, [.int 0, .ref dz, .int 0])), (pl, .inr (1, [.int 0, .ref dz, .int 0]))] H := hP
    have hD : va_D A [(mm, .inr (10, [.int 0, .ref pl, .ref ig, .ref sl, .ref kl, .int 0, .int 0, .int 0])), (sl, .inr (1, [.int 0, .ref dz, .int 0])), (kl, .inr (1, [.int 0, .ref dz, .int 0])), (pl, .inr (1, [.int 0, .ref dz, .int 0]))] := hD
    refine W.widen (k := 0) (n := 0) (Nat.le_refl _) (Nat.le_refl _) ?_
    have hw : r_43 = 0 := hw
    subst hw
    refine lv_bipush (v := 6) hx hb dX8_candidate_29 (by decide) ?_
    refine lv_icmp_ne (tgt := 40) hx hb dX8_candidate_31 (by decide) (fun _ => ?_) (fun h9 => absurd h9 (by decide))
    refine lv_aload_n hx hb dX8_candidate_40 rfl (lv_at hl 0 rfl) ?_
    refine va_get (D := (dC, dI)) (ci := 10) (v := .ref pl) (C := RX8) (T := TX8) (N := 8) hx hb hts hinX8 hown hK hP 0 rfl rfl 1 (by decide) (hts (.fieldLink RX8 10 "BallotLoomModel" "partyOf" "Ljava/util/List;") (by decide +kernel)) (fun _ h9 => h9) rfl dX8_candidate_41 ?_
    refine lv_iload_n hx hb dX8_candidate_44 rfl (lv_at hl 1 rfl) ?_
    have hPc := hP.sub (ws' := []) [] rfl
    have hDc := hD.sub (ws' := []) [] (by decide) rfl
    have hKc := hK.sub (tys' := []) [] rfl
    have hFc := va_free (wc := []) hD hS hA [] rfl
    refine va_callr (va_runS (As := [.int 3]) (rest := [.ref pl]) ⟨hx, hb, hml, hown, hts⟩ (c_J6_valueOf_2dffe l dC dI dz dz tc ad (3 : Int32) _ (by decide) (by decide) (by unfold vp_in; decide)) (va_cwS 1 hts gX8_candidate_J6_valueOf_2dffe rfl rfl rfl (by decide +kernel) ⟨Nat.le_of_ble_eq_true rfl, Nat.le_of_ble_eq_true rfl⟩) ⟨pe_blind ca_bl, fun U hU hW => ⟨rfl, pr_mk hU hW hPc hKc hDc, ca_mk hU hW hS hFc hXs⟩⟩ rfl rfl hl.1 rfl (lv_room (Nat.le_of_ble_eq_true rfl)) dX8_candidate_45 ⟨Nat.le_of_ble_eq_true rfl, Nat.le_of_ble_eq_true rfl⟩) hS (fun q _ h => hFc q h) hFc (fun u_44 r_45 t H1 locs ht hvm hw hB hz1 hk1 hS => ?_)
    obtain ⟨q_46, rfl⟩ : ∃ z, z = u_44 := ⟨_, rfl⟩
    obtain ⟨rfl, hP1, hK1, hD1⟩ := hB
    have hw9 := hw
    rw [ht] at hP1
    obtain ⟨hP, hD⟩ := va_join (wr := [(mm, .inr (10, [.int 0, .ref pl, .ref ig, .ref sl, .ref kl, .int 0, .int 0, .int 0])), (sl, .inr (1, [.int 0, .ref dz, .int 0])), (kl, .inr (1, [.int 0, .ref dz, .int 0])), (pl, .inr (1, [.int 0, .ref dz, .int 0]))]) (w1 := []) hP hD [] [0, 1, 2, 3] rfl rfl (by decide) (by decide) hk1 hFc hP1 hD1
    generalize H1 = H at hP hS ⊢
    have hP : va_P (dC, dI) vwCl [(mm, .inr (10, [.int 0, .ref pl, .ref ig, .ref sl, .ref kl, .int 0, .int 0, .int 0])), (sl, .inr (1, [.int 0, .ref dz, .int 0])), (kl, .inr (1, [.int 0, .ref dz, .int 0])), (pl, .inr (1, [.int 0, .ref dz, .int 0]))] H := hP
    have hD : va_D A [(mm, .inr (10, [.int 0, .ref pl, .ref ig, .ref sl, .ref kl, .int 0, .int 0, .int 0])), (sl, .inr (1, [.int 0, .ref dz, .int 0])), (kl, .inr (1, [.int 0, .ref dz, .int 0])), (pl, .inr (1, [.int 0, .ref dz, .int 0]))] := hD
    refine W.widen (k := 0) (n := 0) (Nat.le_refl _) (Nat.le_refl _) ?_
    have hPc := hP.sub (ws' := [(pl, .inr (1, [.int 0, .ref dz, .int 0]))]) [3] rfl
    have hDc := hD.sub (ws' := [(pl, .inr (1, [.int 0, .ref dz, .int 0]))]) [3] (by decide) rfl
    have hKc := hK.sub (tys' := []) [] rfl
    have hFc := va_free (wc := [(pl, .inr (1, [.int 0, .ref dz, .int 0]))]) hD hS hA [3] rfl
    refine va_callFi (va_runF (hK.1 1 _ rfl).2 (As := [.ref (ad q_46)]) (rest := []) ⟨hx, hb, hml, hown, hts⟩ (c_Jx4a65c_add_9ea2d l dC dI dz dz tc ad pl (ad q_46) _ (⟨_, hw9, rfl⟩)) (va_cwF 1 hts gX8_candidate_Jx4a65c_add_9ea2d_f67Jx4a65c rfl rfl rfl (ca_f hXs) (by decide +kernel) ⟨Nat.le_of_ble_eq_true rfl, Nat.le_of_ble_eq_true rfl⟩) ⟨pe_blind ca_bl, va_recv hKc hPc (ci := 1) (q0 := 0) rfl rfl, fun U hU hW => ⟨rfl, pr_mk hU hW hPc hKc hDc, ca_mk hU hW hS hFc hXs⟩⟩ rfl rfl hl.1 rfl (lv_room (Nat.le_of_ble_eq_true rfl)) dX8_candidate_48 ⟨Nat.le_of_ble_eq_true rfl, Nat.le_of_ble_eq_true rfl⟩) hS (fun q _ h => hFc q h) hFc (fun r_48 u_47 t H1 locs ht hvm hw hB hz1 hk1 hS => ?_)
    obtain ⟨q_49, rfl⟩ : ∃ z, z = u_47 := ⟨_, rfl⟩
    obtain ⟨hP1, hK1, hD1⟩ := hB
    rw [ht] at hP1
    obtain ⟨hP, hD⟩ := va_join (wr := [(mm, .inr (10, [.int 0, .ref pl, .ref ig, .ref sl, .ref kl, .int 0, .int 0, .int 0])), (sl, .inr (1, [.int 0, .ref dz, .int 0])), (kl, .inr (1, [.int 0, .ref dz, .int 0]))]) (w1 := [(pl, .inr (1, [.int 1, .ref q_49, .int 1]))]) hP hD [3] [0, 1, 2] rfl rfl (by decide) (by decide) hk1 hFc hP1 hD1
    generalize H1 = H at hP hS ⊢
    have hP : va_P (dC, dI) vwCl [(mm, .inr (10, [.int 0, .ref pl, .ref ig, .ref sl, .ref kl, .int 0, .int 0, .int 0])), (sl, .inr (1, [.int 0, .ref dz, .int 0])), (kl, .inr (1, [.int 0, .ref dz, .int 0])), (pl, .inr (1, [.int 1, .ref q_49, .int 1]))] H := hP
    have hD : va_D A [(mm, .inr (10, [.int 0, .ref pl, .ref ig, .ref sl, .ref kl, .int 0, .int 0, .int 0])), (sl, .inr (1, [.int 0, .ref dz, .int 0])), (kl, .inr (1, [.int 0, .ref dz, .int 0])), (pl, .inr (1, [.int 1, .ref q_49, .int 1]))] := hD
    refine W.widen (k := 1) (n := 10) (Nat.le_of_ble_eq_true rfl) (Nat.le_of_ble_eq_true rfl) ?_
    have hw : r_48 = 1 := hw
    subst hw
    refine lv_pop hx hb dX8_candidate_53 rfl ?_
    refine lv_aload_n hx hb dX8_candidate_54 rfl (lv_at hl 0 rfl) ?_
    refine va_get (D := (dC, dI)) (ci := 10) (v := .ref pl) (C := RX8) (T := TX8) (N := 8) hx hb hts hinX8 hown hK hP 0 rfl rfl 1 (by decide) (hts (.fieldLink RX8 10 "BallotLoomModel" "partyOf" "Ljava/util/List;") (by decide +kernel)) (fun _ h9 => h9) rfl dX8_candidate_55 ?_
    have hPc := hP.sub (ws' := [(pl, .inr (1, [.int 1, .ref q_49, .int 1]))]) [3] rfl
    have hDc := hD.sub (ws' := [(pl, .inr (1, [.int 1, .ref q_49, .int 1]))]) [3] (by decide) rfl
    have hKc := hK.sub (tys' := []) [] rfl
    have hFc := va_free (wc := [(pl, .inr (1, [.int 1, .ref q_49, .int 1]))]) hD hS hA [3] rfl
    refine va_callFi (va_runF (hK.1 1 _ rfl).2 (As := []) (rest := []) ⟨hx, hb, hml, hown, hts⟩ (c_Jx4a65c_size_8abf5 l dC dI pl (1 : Int32) q_49 (1 : Int32) _ ) (va_cwF 0 hts gX8_candidate_Jx4a65c_size_8abf5_f30Jx4a65c rfl rfl rfl (mo_of hXs.1) (by decide +kernel) ⟨Nat.le_of_ble_eq_true rfl, Nat.le_of_ble_eq_true rfl⟩) ⟨pr_blind, va_recv hKc hPc (ci := 1) (q0 := 0) rfl rfl, fun U hU hW => ⟨rfl, pr_mk hU hW hPc hKc hDc⟩⟩ rfl rfl hl.1 rfl (lv_room (Nat.le_of_ble_eq_true rfl)) dX8_candidate_58 ⟨Nat.le_of_ble_eq_true rfl, Nat.le_of_ble_eq_true rfl⟩) hS (fun q _ h => hFc q h) hFc (fun r_51 u_50 t H1 locs ht hvm hw hB hz1 hk1 hS => ?_)
    obtain ⟨hP1, hK1, hD1⟩ := hB
    rw [ht] at hP1
    obtain ⟨hP, hD⟩ := va_join (wr := [(mm, .inr (10, [.int 0, .ref pl, .ref ig, .ref sl, .ref kl, .int 0, .int 0, .int 0])), (sl, .inr (1, [.int 0, .ref dz, .int 0])), (kl, .inr (1, [.int 0, .ref dz, .int 0]))]) (w1 := [(pl, .inr (1, [.int 1, .ref q_49, .int 1]))]) hP hD [3] [0, 1, 2] rfl rfl (by decide) (by decide) hk1 hFc hP1 hD1
    generalize H1 = H at hP hS ⊢
    have hP : va_P (dC, dI) vwCl [(mm, .inr (10, [.int 0, .ref pl, .ref ig, .ref sl, .ref kl, .int 0, .int 0, .int 0])), (sl, .inr (1, [.int 0, .ref dz, .int 0])), (kl, .inr (1, [.int 0, .ref dz, .int 0])), (pl, .inr (1, [.int 1, .ref q_49, .int 1]))] H := hP
    have hD : va_D A [(mm, .inr (10, [.int 0, .ref pl, .ref ig, .ref sl, .ref kl, .int 0, .int 0, .int 0])), (sl, .inr (1, [.int 0, .ref dz, .int 0])), (kl, .inr (1, [.int 0, .ref dz, .int 0])), (pl, .inr (1, [.int 1, .ref q_49, .int 1]))] := hD
    refine W.widen (k := 1) (n := 10) (Nat.le_refl _) (Nat.le_refl _) ?_
    have hw : r_51 = 1 := hw
    subst hw
    refine lv_iconst (v := 1) hx hb dX8_candidate_63 (by decide) ?_
    refine lv_isub hx hb dX8_candidate_64 ?_
    refine lv_topi (fun y_52 ey_52 => ?_)
    obtain rfl : y_52 = 0 := ey_52.trans (by decide)
    have hP9 := hP.sub (ws' := [(mm, .inr (10, [.int 0, .ref pl, .ref ig, .ref sl, .ref kl, .int 0, .int 0, .int 0]))]) [0] rfl
    have hD9 := hD.sub (ws' := [(mm, .inr (10, [.int 0, .ref pl, .ref ig, .ref sl, .ref kl, .int 0, .int 0, .int 0]))]) [0] (by decide) rfl
    have hK9 := hK.sub (tys' := []) [] rfl
    refine W.widen (k := 1) (n := 10) (Nat.le_of_ble_eq_true rfl) (Nat.le_of_ble_eq_true rfl) ?_
    exact W.iret (v := 0) hx hb hr (fun t ht hW => ⟨⟨0, (), rfl, rfl, po_mk ht hW hP9 hK9 hD9⟩, hS.F ht⟩) hS.2.2 dX8_candidate_65

set_option maxHeartbeats 4000000 in
set_option maxRecDepth 100000 in
theorem c_X8_district (l : Launch) (dC : Nat → ClassId) (dI : Nat → Nat → Nat) (mm : Nat) (pl : Nat) (ig : Nat) (sl : Nat) (kl : Nat) (dz : Nat) (dz : Nat) (tc : Nat) (ad : Nat → Nat) (a0 : Int32) (sz : Nat) (hs : a0 = 1 ∨ a0 = 2 ∨ a0 = 3 ∨ a0 = 4 ∨ a0 = 5) : Met l yX8_district wsX8_district ({ frames := 7, cells := 1, slots := 10, locals := 200 }) (va_Pc [.ref mm, .int a0] (fun U => pr_ dC dI [(mm, .inr (10, [.int 0, .ref pl, .ref ig, .ref sl, .ref kl, .int 0, .int 0, .int 0])), (pl, .inr (1, [.int 0, .ref dz, .int 0])), (sl, .inr (1, [.int 0, .ref dz, .int 0])), (kl, .inr (1, [.int 0, .ref dz, .int 0]))] [] sz U ∧ ca_ (va_A [(mm, .inr (10, [.int 0, .ref pl, .ref ig, .ref sl, .ref kl, .int 0, .int 0, .int 0])), (pl, .inr (1, [.int 0, .ref dz, .int 0])), (sl, .inr (1, [.int 0, .ref dz, .int 0])), (kl, .inr (1, [.int 0, .ref dz, .int 0]))] sz) dz tc ad U)) (va_Qi (fun (r : Int32) (_ : Unit) => r = 0) (fun (_ : Unit) t => po_ dC dI [(mm, .inr (10, [.int 0, .ref pl, .ref ig, .ref sl, .ref kl, .int 0, .int 0, .int 0]))] [] (va_A [(mm, .inr (10, [.int 0, .ref pl, .ref ig, .ref sl, .ref kl, .int 0, .int 0, .int 0])), (pl, .inr (1, [.int 0, .ref dz, .int 0])), (sl, .inr (1, [.int 0, .ref dz, .int 0])), (kl, .inr (1, [.int 0, .ref dz, .int 0]))] sz) t) (va_A [(mm, .inr (10, [.int 0, .ref pl, .ref ig, .ref sl, .ref kl, .int 0, .int 0, .int 0])), (pl, .inr (1, [.int 0, .ref dz, .int 0])), (sl, .inr (1, [.int 0, .ref dz, .int 0])), (kl, .inr (1, [.int 0, .ref dz, .int 0]))] sz)) 1 10 (va_A [(mm, .inr (10, [.int 0, .ref pl, .ref ig, .ref sl, .ref kl, .int 0, .int 0, .int 0])), (pl, .inr (1, [.int 0, .ref dz, .int 0])), (sl, .inr (1, [.int 0, .ref dz, .int 0])), (kl, .inr (1, [.int 0, .ref dz, .int 0]))] sz) := by
  have hcs : a0 = 1 ∨ a0 = 2 ∨ a0 = 3 ∨ a0 = 4 ∨ a0 = 5 := hs
  rcases hcs with rfl | rfl | rfl | rfl | rfl
  · refine Met.ofW (cc := cX8_district) (maxL := 2) (ret := (some .int)) (by decide) rfl ?_
    intro p e s m args below meth c s₁ B hml hv
    obtain ⟨rfl, ⟨hsz, hP, hK, hD0⟩, hXs⟩ := hv
    have hx := B.exec
    have hb := B.bytes
    have hr := B.returns
    have hts := atoms_spec (ws := wsX8_district) B.pre
    have hown : s.vm.findClass RX8 = some m.cls := findClass_of_methodNamed B.named
    have hlocks := B.notSynchronized
    subst hsz
    have hD := hD0.self (sz := s.heap.size)
    generalize hAe : va_A [(mm, .inr (10, [.int 0, .ref pl, .ref ig, .ref sl, .ref kl, .int 0, .int 0, .int 0])), (pl, .inr (1, [.int 0, .ref dz, .int 0])), (sl, .inr (1, [.int 0, .ref dz, .int 0])), (kl, .inr (1, [.int 0, .ref dz, .int 0]))] s.heap.size = A at hD hXs ⊢
    have hA : ∀ q : Nat, s.heap.size ≤ q → A q := fun q h => by rw [← hAe]; exact Or.inr h
    have hS : va_S A s.heap s.heap [] := va_S.rf
    have hP : va_P (dC, dI) vwCl [(mm, .inr (10, [.int 0, .ref pl, .ref ig, .ref sl, .ref kl, .int 0, .int 0, .int 0])), (pl, .inr (1, [.int 0, .ref dz, .int 0])), (sl, .inr (1, [.int 0, .ref dz, .int 0])), (kl, .inr (1, [.int 0, .ref dz, .int 0]))] s.heap := hP
    have hK : va_K (dC, dI) vwCl [] s := hK
    have hl := lv_entry ([.ref mm, .int 1]) (n := 2) (Nat.le_of_ble_eq_true rfl)
    rw [lg_entry_eq]
    generalize (lg_sl ([.ref mm, .int 1]) ++ List.replicate (2 - (lg_sl ([.ref mm, .int 1])).length) Slot.unset).toArray = ls at hl ⊢
    have hl : lv_has ls 2 [(0, .ref mm), (1, .int 1)] := hl
    refine lv_aload_n hx hb dX8_district_0 rfl (lv_at hl 0 rfl) ?_
    refine lv_iconst (v := 0) hx hb dX8_district_1 (by decide) ?_
    have hinX8 : ∀ w ∈ u_ws RX8 TX8 8, w ∈ wsX8_district := by decide +kernel
    refine va_put (D := (dC, dI)) (ci := 10) (v := .int 0) (ty := .int) (C := RX8) (T := TX8) (N := 8) hx hb hts hinX8 tyX8 tyX8_ok nmX8 hown hK hP hD hS 0 rfl rfl 0 (by decide) (hts (.fieldLink RX8 26 "BallotLoomModel" "thrown" "I") (by decide +kernel)) (fun _ h9 => h9) rfl (by decide +kernel) rfl rfl (Nat.le_of_ble_eq_true rfl) dX8_district_2 (fun H locs hP hD hS => ?_)
    have hP : va_P (dC, dI) vwCl [(mm, .inr (10, [.int 0, .ref pl, .ref ig, .ref sl, .ref kl, .int 0, .int 0, .int 0])), (pl, .inr (1, [.int 0, .ref dz, .int 0])), (sl, .inr (1, [.int 0, .ref dz, .int 0])), (kl, .inr (1, [.int 0, .ref dz, .int 0]))] H := hP
    have hD : va_D A [(mm, .inr (10, [.int 0, .ref pl, .ref ig, .ref sl, .ref kl, .int 0, .int 0, .int 0])), (pl, .inr (1, [.int 0, .ref dz, .int 0])), (sl, .inr (1, [.int 0, .ref dz, .int 0])), (kl, .inr (1, [.int 0, .ref dz, .int 0]))] := hD
    refine lv_iload_n hx hb dX8_district_5 rfl (lv_at hl 1 rfl) ?_
    refine lv_iconst (v := 1) hx hb dX8_district_6 (by decide) ?_
    refine lv_iconst (v := 5) hx hb dX8_district_7 (by decide) ?_
    have hPc := hP.sub (ws' := []) [] rfl
    have hDc := hD.sub (ws' := []) [] (by decide) rfl
    have hKc := hK.sub (tys' := []) [] rfl
    have hFc := va_free (wc := []) hD hS hA [] rfl
    refine va_calli (va_runS (As := [.int 1, .int 1, .int 5]) (rest := []) ⟨hx, hb, hml, hown, hts⟩ (c_X8_in l dC dI (1 : Int32) (1 : Int32) (5 : Int32) _ (by decide) (by decide)) (va_cwS 3 hts gX8_district_X8_in rfl rfl rfl (by decide +kernel) ⟨Nat.le_of_ble_eq_true rfl, Nat.le_of_ble_eq_true rfl⟩) ⟨pr_blind, fun U hU hW => ⟨rfl, pr_mk hU hW hPc hKc hDc⟩⟩ rfl rfl hl.1 rfl (lv_room (Nat.le_of_ble_eq_true rfl)) dX8_district_8 ⟨Nat.le_of_ble_eq_true rfl, Nat.le_of_ble_eq_true rfl⟩) hS (fun q _ h => hFc q h) hFc (fun r_2 u_1 t H1 locs ht hvm hw hB hz1 hk1 hS => ?_)
    obtain ⟨hP1, hK1, hD1⟩ := hB
    rw [ht] at hP1
    obtain ⟨hP, hD⟩ := va_join (wr := [(mm, .inr (10, [.int 0, .ref pl, .ref ig, .ref sl, .ref kl, .int 0, .int 0, .int 0])), (pl, .inr (1, [.int 0, .ref dz, .int 0])), (sl, .inr (1, [.int 0, .ref dz, .int 0])), (kl, .inr (1, [.int 0, .ref dz, .int 0]))]) (w1 := []) hP hD [] [0, 1, 2, 3] rfl rfl (by decide) (by decide) hk1 hFc hP1 hD1
    generalize H1 = H at hP hS ⊢
    have hP : va_P (dC, dI) vwCl [(mm, .inr (10, [.int 0, .ref pl, .ref ig, .ref sl, .ref kl, .int 0, .int 0, .int 0])), (pl, .inr (1, [.int 0, .ref dz, .int 0])), (sl, .inr (1, [.int 0, .ref dz, .int 0])), (kl, .inr (1, [.int 0, .ref dz, .int 0]))] H := hP
    have hD : va_D A [(mm, .inr (10, [.int 0, .ref pl, .ref ig, .ref sl, .ref kl, .int 0, .int 0, .int 0])), (pl, .inr (1, [.int 0, .ref dz, .int 0])), (sl, .inr (1, [.int 0, .ref dz, .int 0])), (kl, .inr (1, [.int 0, .ref dz, .int 0]))] := hD
    refine W.widen (k := 0) (n := 0) (Nat.le_refl _) (Nat.le_refl _) ?_
    have hw : r_2 = 1 := hw
    subst hw
    refine lv_if_ne (tgt := 20) hx hb dX8_district_11 (by decide) (fun _ => ?_) (fun h9 => absurd h9 (by decide))
    refine lv_aload_n hx hb dX8_district_20 rfl (lv_at hl 0 rfl) ?_
    refine va_get (D := (dC, dI)) (ci := 10) (v := .ref sl) (C := RX8) (T := TX8) (N := 8) hx hb hts hinX8 hown hK hP 0 rfl rfl 3 (by decide) (hts (.fieldLink RX8 20 "BallotLoomModel" "seatsOf" "Ljava/util/List;") (by decide +kernel)) (fun _ h9 => h9) rfl dX8_district_21 ?_
    have hPc := hP.sub (ws' := [(sl, .inr (1, [.int 0, .ref dz, .int 0]))]) [2] rfl
    have hDc := hD.sub (ws' := [(sl, .inr (1, [.int 0, .ref dz, .int 0]))]) [2] (by decide) rfl
    have hKc := hK.sub (tys' := []) [] rfl
    have hFc := va_free (wc := [(sl, .inr (1, [.int 0, .ref dz, .int 0]))]) hD hS hA [2] rfl
    refine va_callFi (va_runF (hK.1 1 _ rfl).2 (As := []) (rest := []) ⟨hx, hb, hml, hown, hts⟩ (c_Jx4a65c_size_8abf5 l dC dI sl (0 : Int32) dz (0 : Int32) _ ) (va_cwF 0 hts gX8_district_Jx4a65c_size_8abf5_f30Jx4a65c rfl rfl rfl (mo_of hXs.1) (by decide +kernel) ⟨Nat.le_of_ble_eq_true rfl, Nat.le_of_ble_eq_true rfl⟩) ⟨pr_blind, va_recv hKc hPc (ci := 1) (q0 := 0) rfl rfl, fun U hU hW => ⟨rfl, pr_mk hU hW hPc hKc hDc⟩⟩ rfl rfl hl.1 rfl (lv_room (Nat.le_of_ble_eq_true rfl)) dX8_district_24 ⟨Nat.le_of_ble_eq_true rfl, Nat.le_of_ble_eq_true rfl⟩) hS (fun q _ h => hFc q h) hFc (fun r_4 u_3 t H1 locs ht hvm hw hB hz1 hk1 hS => ?_)
    obtain ⟨hP1, hK1, hD1⟩ := hB
    rw [ht] at hP1
    obtain ⟨hP, hD⟩ := va_join (wr := [(mm, .inr (10, [.int 0, .ref pl, .ref ig, .ref sl, .ref kl, .int 0, .int 0, .int 0])), (pl, .inr (1, [.int 0, .ref dz, .int 0])), (kl, .inr (1, [.int 0, .ref dz, .int 0]))]) (w1 := [(sl, .inr (1, [.int 0, .ref dz, .int 0]))]) hP hD [2] [0, 1, 3] rfl rfl (by decide) (by decide) hk1 hFc hP1 hD1
    generalize H1 = H at hP hS ⊢
    have hP : va_P (dC, dI) vwCl [(mm, .inr (10, [.int 0, .ref pl, .ref ig, .ref sl, .ref kl, .int 0, .int 0, .int 0])), (pl, .inr (1, [.int 0, .ref dz, .int 0])), (kl, .inr (1, [.int 0, .ref dz, .int 0])), (sl, .inr (1, [.int 0, .ref dz, .int 0]))] H := hP
    have hD : va_D A [(mm, .inr (10, [.int 0, .ref pl, .ref ig, .ref sl, .ref kl, .int 0, .int 0, .int 0])), (pl, .inr (1, [.int 0, .ref dz, .int 0])), (kl, .inr (1, [.int 0, .ref dz, .int 0])), (sl, .inr (1, [.int 0, .ref dz, .int 0]))] := hD
    refine W.widen (k := 0) (n := 0) (Nat.le_refl _) (Nat.le_refl _) ?_
    have hw : r_4 = 0 := hw
    subst hw
    refine lv_iconst (v := 4) hx hb dX8_district_29 (by decide) ?_
    refine lv_icmp_ne (tgt := 39) hx hb dX8_district_30 (by decide) (fun _ => ?_) (fun h9 => absurd h9 (by decide))
    refine lv_aload_n hx hb dX8_district_39 rfl (lv_at hl 0 rfl) ?_
    refine va_get (D := (dC, dI)) (ci := 10) (v := .ref sl) (C := RX8) (T := TX8) (N := 8) hx hb hts hinX8 hown hK hP 0 rfl rfl 3 (by decide) (hts (.fieldLink RX8 20 "BallotLoomModel" "seatsOf" "Ljava/util/List;") (by decide +kernel)) (fun _ h9 => h9) rfl dX8_district_40 ?_
    refine lv_iload_n hx hb dX8_district_43 rfl (lv_at hl 1 rfl) ?_
    have hPc := hP.sub (ws' := []) [] rfl
    have hDc := hD.sub (ws' := []) [] (by decide) rfl
    have hKc := hK.sub (tys' := []) [] rfl
    have hFc := va_free (wc := []) hD hS hA [] rfl
    refine va_callr (va_runS (As := [.int 1]) (rest := [.ref sl]) ⟨hx, hb, hml, hown, hts⟩ (c_J6_valueOf_2dffe l dC dI dz dz tc ad (1 : Int32) _ (by decide) (by decide) (by unfold vp_in; decide)) (va_cwS 1 hts gX8_district_J6_valueOf_2dffe rfl rfl rfl (by decide +kernel) ⟨Nat.le_of_ble_eq_true rfl, Nat.le_of_ble_eq_true rfl⟩) ⟨pe_blind ca_bl, fun U hU hW => ⟨rfl, pr_mk hU hW hPc hKc hDc, ca_mk hU hW hS hFc hXs⟩⟩ rfl rfl hl.1 rfl (lv_room (Nat.le_of_ble_eq_true rfl)) dX8_district_44 ⟨Nat.le_of_ble_eq_true rfl, Nat.le_of_ble_eq_true rfl⟩) hS (fun q _ h => hFc q h) hFc (fun u_5 r_6 t H1 locs ht hvm hw hB hz1 hk1 hS => ?_)
    obtain ⟨q_7, rfl⟩ : ∃ z, z = u_5 := ⟨_, rfl⟩
    obtain ⟨rfl, hP1, hK1, hD1⟩ := hB
    have hw9 := hw
    rw [ht] at hP1
    obtain ⟨hP, hD⟩ := va_join (wr := [(mm, .inr (10, [.int 0, .ref pl, .ref ig, .ref sl, .ref kl, .int 0, .int 0, .int 0])), (pl, .inr (1, [.int 0, .ref dz, .int 0])), (kl, .inr (1, [.int 0, .ref dz, .int 0])), (sl, .inr (1, [.int 0, .ref dz, .int 0]))]) (w1 := []) hP hD [] [0, 1, 2, 3] rfl rfl (by decide) (by decide) hk1 hFc hP1 hD1
    generalize H1 = H at hP hS ⊢
    have hP : va_P (dC, dI) vwCl [(mm, .inr (10, [.int 0, .ref pl, .ref ig, .ref sl, .ref kl, .int 0, .int 0, .int 0])), (pl, .inr (1, [.int 0, .ref dz, .int 0])), (kl, .inr (1, [.int 0, .ref dz, .int 0])), (sl, .inr (1, [.int 0, .ref dz, .int 0]))] H := hP
    have hD : va_D A [(mm, .inr (10, [.int 0, .ref pl, .ref ig, .ref sl, .ref kl, .int 0, .int 0, .int 0])), (pl, .inr (1, [.int 0, .ref dz, .int 0])), (kl, .inr (1, [.int 0, .ref dz, .int 0])), (sl, .inr (1, [.int 0, .ref dz, .int 0]))] := hD
    refine W.widen (k := 0) (n := 0) (Nat.le_refl _) (Nat.le_refl _) ?_
    have hPc := hP.sub (ws' := [(sl, .inr (1, [.int 0, .ref dz, .int 0]))]) [3] rfl
    have hDc := hD.sub (ws' := [(sl, .inr (1, [.int 0, .ref dz, .int 0]))]) [3] (by decide) rfl
    have hKc := hK.sub (tys' := []) [] rfl
    have hFc := va_free (wc := [(sl, .inr (1, [.int 0, .ref dz, .int 0]))]) hD hS hA [3] rfl
    refine va_callFi (va_runF (hK.1 1 _ rfl).2 (As := [.ref (ad q_7)]) (rest := []) ⟨hx, hb, hml, hown, hts⟩ (c_Jx4a65c_add_9ea2d l dC dI dz dz tc ad sl (ad q_7) _ (⟨_, hw9, rfl⟩)) (va_cwF 1 hts gX8_district_Jx4a65c_add_9ea2d_f67Jx4a65c rfl rfl rfl (ca_f hXs) (by decide +kernel) ⟨Nat.le_of_ble_eq_true rfl, Nat.le_of_ble_eq_true rfl⟩) ⟨pe_blind ca_bl, va_recv hKc hPc (ci := 1) (q0 := 0) rfl rfl, fun U hU hW => ⟨rfl, pr_mk hU hW hPc hKc hDc, ca_mk hU hW hS hFc hXs⟩⟩ rfl rfl hl.1 rfl (lv_room (Nat.le_of_ble_eq_true rfl)) dX8_district_47 ⟨Nat.le_of_ble_eq_true rfl, Nat.le_of_ble_eq_true rfl⟩) hS (fun q _ h => hFc q h) hFc (fun r_9 u_8 t H1 locs ht hvm hw hB hz1 hk1 hS => ?_)
    obtain ⟨q_10, rfl⟩ : ∃ z, z = u_8 := ⟨_, rfl⟩
    obtain ⟨hP1, hK1, hD1⟩ := hB
    rw [ht] at hP1
    obtain ⟨hP, hD⟩ := va_join (wr := [(mm, .inr (10, [.int 0, .ref pl, .ref ig, .ref sl, .ref kl, .int 0, .int 0, .int 0])), (pl, .inr (1, [.int 0, .ref dz, .int 0])), (kl, .inr (1, [.int 0, .ref dz, .int 0]))]) (w1 := [(sl, .inr (1, [.int 1, .ref q_10, .int 1]))]) hP hD [3] [0, 1, 2] rfl rfl (by decide) (by decide) hk1 hFc hP1 hD1
    generalize H1 = H at hP hS ⊢
    have hP : va_P (dC, dI) vwCl [(mm, .inr (10, [.int 0, .ref pl, .ref ig, .ref sl, .ref kl, .int 0, .int 0, .int 0])), (pl, .inr (1, [.int 0, .ref dz, .int 0])), (kl, .inr (1, [.int 0, .ref dz, .int 0])), (sl, .inr (1, [.int 1, .ref q_10, .int 1]))] H := hP
    have hD : va_D A [(mm, .inr (10, [.int 0, .ref pl, .ref ig, .ref sl, .ref kl, .int 0, .int 0, .int 0])), (pl, .inr (1, [.int 0, .ref dz, .int 0])), (kl, .inr (1, [.int 0, .ref dz, .int 0])), (sl, .inr (1, [.int 1, .ref q_10, .int 1]))] := hD
    refine W.widen (k := 1) (n := 10) (Nat.le_of_ble_eq_true rfl) (Nat.le_of_ble_eq_true rfl) ?_
    have hw : r_9 = 1 := hw
    subst hw
    refine lv_pop hx hb dX8_district_52 rfl ?_
    refine lv_aload_n hx hb dX8_district_53 rfl (lv_at hl 0 rfl) ?_
    refine va_get (D := (dC, dI)) (ci := 10) (v := .ref sl) (C := RX8) (T := TX8) (N := 8) hx hb hts hinX8 hown hK hP 0 rfl rfl 3 (by decide) (hts (.fieldLink RX8 20 "BallotLoomModel" "seatsOf" "Ljava/util/List;") (by decide +kernel)) (fun _ h9 => h9) rfl dX8_district_54 ?_
    have hPc := hP.sub (ws' := [(sl, .inr (1, [.int 1, .ref q_10, .int 1]))]) [3] rfl
    have hDc := hD.sub (ws' := [(sl, .inr (1, [.int 1, .ref q_10, .int 1]))]) [3] (by decide) rfl
    have hKc := hK.sub (tys' := []) [] rfl
    have hFc := va_free (wc := [(sl, .inr (1, [.int 1, .ref q_10, .int 1]))]) hD hS hA [3] rfl
    refine va_callFi (va_runF (hK.1 1 _ rfl).2 (As := []) (rest := []) ⟨hx, hb, hml, hown, hts⟩ (c_Jx4a65c_size_8abf5 l dC dI sl (1 : Int32) q_10 (1 : Int32) _ ) (va_cwF 0 hts gX8_district_Jx4a65c_size_8abf5_f30Jx4a65c rfl rfl rfl (mo_of hXs.1) (by decide +kernel) ⟨Nat.le_of_ble_eq_true rfl, Nat.le_of_ble_eq_true rfl⟩) ⟨pr_blind, va_recv hKc hPc (ci := 1) (q0 := 0) rfl rfl, fun U hU hW => ⟨rfl, pr_mk hU hW hPc hKc hDc⟩⟩ rfl rfl hl.1 rfl (lv_room (Nat.le_of_ble_eq_true rfl)) dX8_district_57 ⟨Nat.le_of_ble_eq_true rfl, Nat.le_of_ble_eq_true rfl⟩) hS (fun q _ h => hFc q h) hFc (fun r_12 u_11 t H1 locs ht hvm hw hB hz1 hk1 hS => ?_)
    obtain ⟨hP1, hK1, hD1⟩ := hB
    rw [ht] at hP1
    obtain ⟨hP, hD⟩ := va_join (wr := [(mm, .inr (10, [.int 0, .ref pl, .ref ig, .ref sl, .ref kl, .int 0, .int 0, .int 0])), (pl, .inr (1, [.int 0, .ref dz, .int 0])), (kl, .inr (1, [.int 0, .ref dz, .int 0]))]) (w1 := [(sl, .inr (1, [.int 1, .ref q_10, .int 1]))]) hP hD [3] [0, 1, 2] rfl rfl (by decide) (by decide) hk1 hFc hP1 hD1
    generalize H1 = H at hP hS ⊢
    have hP : va_P (dC, dI) vwCl [(mm, .inr (10, [.int 0, .ref pl, .ref ig, .ref sl, .ref kl, .int 0, .int 0, .int 0])), (pl, .inr (1, [.int 0, .ref dz, .int 0])), (kl, .inr (1, [.int 0, .ref dz, .int 0])), (sl, .inr (1, [.int 1, .ref q_10, .int 1]))] H := hP
    have hD : va_D A [(mm, .inr (10, [.int 0, .ref pl, .ref ig, .ref sl, .ref kl, .int 0, .int 0, .int 0])), (pl, .inr (1, [.int 0, .ref dz, .int 0])), (kl, .inr (1, [.int 0, .ref dz, .int 0])), (sl, .inr (1, [.int 1, .ref q_10, .int 1]))] := hD
    refine W.widen (k := 1) (n := 10) (Nat.le_refl _) (Nat.le_refl _) ?_
    have hw : r_12 = 1 := hw
    subst hw
    refine lv_iconst (v := 1) hx hb dX8_district_62 (by decide) ?_
    refine lv_isub hx hb dX8_district_63 ?_
    refine lv_topi (fun y_13 ey_13 => ?_)
    obtain rfl : y_13 = 0 := ey_13.trans (by decide)
    have hP9 := hP.sub (ws' := [(mm, .inr (10, [.int 0, .ref pl, .ref ig, .ref sl, .ref kl, .int 0, .int 0, .int 0]))]) [0] rfl
    have hD9 := hD.sub (ws' := [(mm, .inr (10, [.int 0, .ref pl, .ref ig, .ref sl, .ref kl, .int 0, .int 0, .int 0]))]) [0] (by decide) rfl
    have hK9 := hK.sub (tys' := []) [] rfl
    refine W.widen (k := 1) (n := 10) (Nat.le_of_ble_eq_true rfl) (Nat.le_of_ble_eq_true rfl) ?_
    exact W.iret (v := 0) hx hb hr (fun t ht hW => ⟨⟨0, (), rfl, rfl, po_mk ht hW hP9 hK9 hD9⟩, hS.F ht⟩) hS.2.2 dX8_district_64
  · refine Met.ofW (cc := cX8_district) (maxL := 2) (ret := (some .int)) (by decide) rfl ?_
    intro p e s m args below meth c s₁ B hml hv
    obtain ⟨rfl, ⟨hsz, hP, hK, hD0⟩, hXs⟩ := hv
    have hx := B.exec
    have hb := B.bytes
    have hr := B.returns
    have hts := atoms_spec (ws := wsX8_district) B.pre
    have hown : s.vm.findClass RX8 = some m.cls := findClass_of_methodNamed B.named
    have hlocks := B.notSynchronized
    subst hsz
    have hD := hD0.self (sz := s.heap.size)
    generalize hAe : va_A [(mm, .inr (10, [.int 0, .ref pl, .ref ig, .ref sl, .ref kl, .int 0, .int 0, .int 0])), (pl, .inr (1, [.int 0, .ref dz, .int 0])), (sl, .inr (1, [.int 0, .ref dz, .int 0])), (kl, .inr (1, [.int 0, .ref dz, .int 0]))] s.heap.size = A at hD hXs ⊢
    have hA : ∀ q : Nat, s.heap.size ≤ q → A q := fun q h => by rw [← hAe]; exact Or.inr h
    have hS : va_S A s.heap s.heap [] := va_S.rf
    have hP : va_P (dC, dI) vwCl [(mm, .inr (10, [.int 0, .ref pl, .ref ig, .ref sl, .ref kl, .int 0, .int 0, .int 0])), (pl, .inr (1, [.int 0, .ref dz, .int 0])), (sl, .inr (1, [.int 0, .ref dz, .int 0])), (kl, .inr (1, [.int 0, .ref dz, .int 0]))] s.heap := hP
    have hK : va_K (dC, dI) vwCl [] s := hK
    have hl := lv_entry ([.ref mm, .int 2]) (n := 2) (Nat.le_of_ble_eq_true rfl)
    rw [lg_entry_eq]
    generalize (lg_sl ([.ref mm, .int 2]) ++ List.replicate (2 - (lg_sl ([.ref mm, .int 2])).length) Slot.unset).toArray = ls at hl ⊢
    have hl : lv_has ls 2 [(0, .ref mm), (1, .int 2)] := hl
    refine lv_aload_n hx hb dX8_district_0 rfl (lv_at hl 0 rfl) ?_
    refine lv_iconst (v := 0) hx hb dX8_district_1 (by decide) ?_
    have hinX8 : ∀ w ∈ u_ws RX8 TX8 8, w ∈ wsX8_district := by decide +kernel
    refine va_put (D := (dC, dI)) (ci := 10) (v := .int 0) (ty := .int) (C := RX8) (T := TX8) (N := 8) hx hb hts hinX8 tyX8 tyX8_ok nmX8 hown hK hP hD hS 0 rfl rfl 0 (by decide) (hts (.fieldLink RX8 26 "BallotLoomModel" "thrown" "I") (by decide +kernel)) (fun _ h9 => h9) rfl (by decide +kernel) rfl rfl (Nat.le_of_ble_eq_true rfl) dX8_district_2 (fun H locs hP hD hS => ?_)
    have hP : va_P (dC, dI) vwCl [(mm, .inr (10, [.int 0, .ref pl, .ref ig, .ref sl, .ref kl, .int 0, .int 0, .int 0])), (pl, .inr (1, [.int 0, .ref dz, .int 0])), (sl, .inr (1, [.int 0, .ref dz, .int 0])), (kl, .inr (1, [.int 0, .ref dz, .int 0]))] H := hP
    have hD : va_D A [(mm, .inr (10, [.int 0, .ref pl, .ref ig, .ref sl, .ref kl, .int 0, .int 0, .int 0])), (pl, .inr (1, [.int 0, .ref dz, .int 0])), (sl, .inr (1, [.int 0, .ref dz, .int 0])), (kl, .inr (1, [.int 0, .ref dz, .int 0]))] := hD
    refine lv_iload_n hx hb dX8_district_5 rfl (lv_at hl 1 rfl) ?_
    refine lv_iconst (v := 1) hx hb dX8_district_6 (by decide) ?_
    refine lv_iconst (v := 5) hx hb dX8_district_7 (by decide) ?_
    have hPc := hP.sub (ws' := []) [] rfl
    have hDc := hD.sub (ws' := []) [] (by decide) rfl
    have hKc := hK.sub (tys' := []) [] rfl
    have hFc := va_free (wc := []) hD hS hA [] rfl
    refine va_calli (va_runS (As := [.int 2, .int 1, .int 5]) (rest := []) ⟨hx, hb, hml, hown, hts⟩ (c_X8_in l dC dI (2 : Int32) (1 : Int32) (5 : Int32) _ (by decide) (by decide)) (va_cwS 3 hts gX8_district_X8_in rfl rfl rfl (by decide +kernel) ⟨Nat.le_of_ble_eq_true rfl, Nat.le_of_ble_eq_true rfl⟩) ⟨pr_blind, fun U hU hW => ⟨rfl, pr_mk hU hW hPc hKc hDc⟩⟩ rfl rfl hl.1 rfl (lv_room (Nat.le_of_ble_eq_true rfl)) dX8_district_8 ⟨Nat.le_of_ble_eq_true rfl, Nat.le_of_ble_eq_true rfl⟩) hS (fun q _ h => hFc q h) hFc (fun r_15 u_14 t H1 locs ht hvm hw hB hz1 hk1 hS => ?_)
    obtain ⟨hP1, hK1, hD1⟩ := hB
    rw [ht] at hP1
    obtain ⟨hP, hD⟩ := va_join (wr := [(mm, .inr (10, [.int 0, .ref pl, .ref ig, .ref sl, .ref kl, .int 0, .int 0, .int 0])), (pl, .inr (1, [.int 0, .ref dz, .int 0])), (sl, .inr (1, [.int 0, .ref dz, .int 0])), (kl, .inr (1, [.int 0, .ref dz, .int 0]))]) (w1 := []) hP hD [] [0, 1, 2, 3] rfl rfl (by decide) (by decide) hk1 hFc hP1 hD1
    generalize H1 = H at hP hS ⊢
    have hP : va_P (dC, dI) vwCl [(mm, .inr (10, [.int 0, .ref pl, .ref ig, .ref sl, .ref kl, .int 0, .int 0, .int 0])), (pl, .inr (1, [.int 0, .ref dz, .int 0])), (sl, .inr (1, [.int 0, .ref dz, .int 0])), (kl, .inr (1, [.int 0, .ref dz, .int 0]))] H := hP
    have hD : va_D A [(mm, .inr (10, [.int 0, .ref pl, .ref ig, .ref sl, .ref kl, .int 0, .int 0, .int 0])), (pl, .inr (1, [.int 0, .ref dz, .int 0])), (sl, .inr (1, [.int 0, .ref dz, .int 0])), (kl, .inr (1, [.int 0, .ref dz, .int 0]))] := hD
    refine W.widen (k := 0) (n := 0) (Nat.le_refl _) (Nat.le_refl _) ?_
    have hw : r_15 = 1 := hw
    subst hw
    refine lv_if_ne (tgt := 20) hx hb dX8_district_11 (by decide) (fun _ => ?_) (fun h9 => absurd h9 (by decide))
    refine lv_aload_n hx hb dX8_district_20 rfl (lv_at hl 0 rfl) ?_
    refine va_get (D := (dC, dI)) (ci := 10) (v := .ref sl) (C := RX8) (T := TX8) (N := 8) hx hb hts hinX8 hown hK hP 0 rfl rfl 3 (by decide) (hts (.fieldLink RX8 20 "BallotLoomModel" "seatsOf" "Ljava/util/List;") (by decide +kernel)) (fun _ h9 => h9) rfl dX8_district_21 ?_
    have hPc := hP.sub (ws' := [(sl, .inr (1, [.int 0, .ref dz, .int 0]))]) [2] rfl
    have hDc := hD.sub (ws' := [(sl, .inr (1, [.int 0, .ref dz, .int 0]))]) [2] (by decide) rfl
    have hKc := hK.sub (tys' := []) [] rfl
    have hFc := va_free (wc := [(sl, .inr (1, [.int 0, .ref dz, .int 0]))]) hD hS hA [2] rfl
    refine va_callFi (va_runF (hK.1 1 _ rfl).2 (As := []) (rest := []) ⟨hx, hb, hml, hown, hts⟩ (c_Jx4a65c_size_8abf5 l dC dI sl (0 : Int32) dz (0 : Int32) _ ) (va_cwF 0 hts gX8_district_Jx4a65c_size_8abf5_f30Jx4a65c rfl rfl rfl (mo_of hXs.1) (by decide +kernel) ⟨Nat.le_of_ble_eq_true rfl, Nat.le_of_ble_eq_true rfl⟩) ⟨pr_blind, va_recv hKc hPc (ci := 1) (q0 := 0) rfl rfl, fun U hU hW => ⟨rfl, pr_mk hU hW hPc hKc hDc⟩⟩ rfl rfl hl.1 rfl (lv_room (Nat.le_of_ble_eq_true rfl)) dX8_district_24 ⟨Nat.le_of_ble_eq_true rfl, Nat.le_of_ble_eq_true rfl⟩) hS (fun q _ h => hFc q h) hFc (fun r_17 u_16 t H1 locs ht hvm hw hB hz1 hk1 hS => ?_)
    obtain ⟨hP1, hK1, hD1⟩ := hB
    rw [ht] at hP1
    obtain ⟨hP, hD⟩ := va_join (wr := [(mm, .inr (10, [.int 0, .ref pl, .ref ig, .ref sl, .ref kl, .int 0, .int 0, .int 0])), (pl, .inr (1, [.int 0, .ref dz, .int 0])), (kl, .inr (1, [.int 0, .ref dz, .int 0]))]) (w1 := [(sl, .inr (1, [.int 0, .ref dz, .int 0]))]) hP hD [2] [0, 1, 3] rfl rfl (by decide) (by decide) hk1 hFc hP1 hD1
    generalize H1 = H at hP hS ⊢
    have hP : va_P (dC, dI) vwCl [(mm, .inr (10, [.int 0, .ref pl, .ref ig, .ref sl, .ref kl, .int 0, .int 0, .int 0])), (pl, .inr (1, [.int 0, .ref dz, .int 0])), (kl, .inr (1, [.int 0, .ref dz, .int 0])), (sl, .inr (1, [.int 0, .ref dz, .int 0]))] H := hP
    have hD : va_D A [(mm, .inr (10, [.int 0, .ref pl, .ref ig, .ref sl, .ref kl, .int 0, .int 0, .int 0])), (pl, .inr (1, [.int 0, .ref dz, .int 0])), (kl, .inr (1, [.int 0, .ref dz, .int 0])), (sl, .inr (1, [.int 0, .ref dz, .int 0]))] := hD
    refine W.widen (k := 0) (n := 0) (Nat.le_refl _) (Nat.le_refl _) ?_
    have hw : r_17 = 0 := hw
    subst hw
    refine lv_iconst (v := 4) hx hb dX8_district_29 (by decide) ?_
    refine lv_icmp_ne (tgt := 39) hx hb dX8_district_30 (by decide) (fun _ => ?_) (fun h9 => absurd h9 (by decide))
    refine lv_aload_n hx hb dX8_district_39 rfl (lv_at hl 0 rfl) ?_
    refine va_get (D := (dC, dI)) (ci := 10) (v := .ref sl) (C := RX8) (T := TX8) (N := 8) hx hb hts hinX8 hown hK hP 0 rfl rfl 3 (by decide) (hts (.fieldLink RX8 20 "BallotLoomModel" "seatsOf" "Ljava/util/List;") (by decide +kernel)) (fun _ h9 => h9) rfl dX8_district_40 ?_
    refine lv_iload_n hx hb dX8_district_43 rfl (lv_at hl 1 rfl) ?_
    have hPc := hP.sub (ws' := []) [] rfl
    have hDc := hD.sub (ws' := []) [] (by decide) rfl
    have hKc := hK.sub (tys' := []) [] rfl
    have hFc := va_free (wc := []) hD hS hA [] rfl
    refine va_callr (va_runS (As := [.int 2]) (rest := [.ref sl]) ⟨hx, hb, hml, hown, hts⟩ (c_J6_valueOf_2dffe l dC dI dz dz tc ad (2 : Int32) _ (by decide) (by decide) (by unfold vp_in; decide)) (va_cwS 1 hts gX8_district_J6_valueOf_2dffe rfl rfl rfl (by decide +kernel) ⟨Nat.le_of_ble_eq_true rfl, Nat.le_of_ble_eq_true rfl⟩) ⟨pe_blind ca_bl, fun U hU hW => ⟨rfl, pr_mk hU hW hPc hKc hDc, ca_mk hU hW hS hFc hXs⟩⟩ rfl rfl hl.1 rfl (lv_room (Nat.le_of_ble_eq_true rfl)) dX8_district_44 ⟨Nat.le_of_ble_eq_true rfl, Nat.le_of_ble_eq_true rfl⟩) hS (fun q _ h => hFc q h) hFc (fun u_18 r_19 t H1 locs ht hvm hw hB hz1 hk1 hS => ?_)
    obtain ⟨q_20, rfl⟩ : ∃ z, z = u_18 := ⟨_, rfl⟩
    obtain ⟨rfl, hP1, hK1, hD1⟩ := hB
    have hw9 := hw
    rw [ht] at hP1
    obtain ⟨hP, hD⟩ := va_join (wr := [(mm, .inr (10, [.int 0, .ref pl, .ref ig, .ref sl, .ref kl, .int 0, .int 0, .int 0])), (pl, .inr (1, [.int 0, .ref dz, .int 0])), (kl, .inr (1, [.int 0, .ref dz, .int 0])), (sl, .inr (1, [.int 0, .ref dz, .int 0]))]) (w1 := []) hP hD [] [0, 1, 2, 3] rfl rfl (by decide) (by decide) hk1 hFc hP1 hD1
    generalize H1 = H at hP hS ⊢
    have hP : va_P (dC, dI) vwCl [(mm, .inr (10, [.int 0, .ref pl, .ref ig, .ref sl, .ref kl, .int 0, .int 0, .int 0])), (pl, .inr (1, [.int 0, .ref dz, .int 0])), (kl, .inr (1, [.int 0, .ref dz, .int 0])), (sl, .inr (1, [.int 0, .ref dz, .int 0]))] H := hP
    have hD : va_D A [(mm, .inr (10, [.int 0, .ref pl, .ref ig, .ref sl, .ref kl, .int 0, .int 0, .int 0])), (pl, .inr (1, [.int 0, .ref dz, .int 0])), (kl, .inr (1, [.int 0, .ref dz, .int 0])), (sl, .inr (1, [.int 0, .ref dz, .int 0]))] := hD
    refine W.widen (k := 0) (n := 0) (Nat.le_refl _) (Nat.le_refl _) ?_
    have hPc := hP.sub (ws' := [(sl, .inr (1, [.int 0, .ref dz, .int 0]))]) [3] rfl
    have hDc := hD.sub (ws' := [(sl, .inr (1, [.int 0, .ref dz, .int 0]))]) [3] (by decide) rfl
    have hKc := hK.sub (tys' := []) [] rfl
    have hFc := va_free (wc := [(sl, .inr (1, [.int 0, .ref dz, .int 0]))]) hD hS hA [3] rfl
    refine va_callFi (va_runF (hK.1 1 _ rfl).2 (As := [.ref (ad q_20)]) (rest := []) ⟨hx, hb, hml, hown, hts⟩ (c_Jx4a65c_add_9ea2d l dC dI dz dz tc ad sl (ad q_20) _ (⟨_, hw9, rfl⟩)) (va_cwF 1 hts gX8_district_Jx4a65c_add_9ea2d_f67Jx4a65c rfl rfl rfl (ca_f hXs) (by decide +kernel) ⟨Nat.le_of_ble_eq_true rfl, Nat.le_of_ble_eq_true rfl⟩) ⟨pe_blind ca_bl, va_recv hKc hPc (ci := 1) (q0 := 0) rfl rfl, fun U hU hW => ⟨rfl, pr_mk hU hW hPc hKc hDc, ca_mk hU hW hS hFc hXs⟩⟩ rfl rfl hl.1 rfl (lv_room (Nat.le_of_ble_eq_true rfl)) dX8_district_47 ⟨Nat.le_of_ble_eq_true rfl, Nat.le_of_ble_eq_true rfl⟩) hS (fun q _ h => hFc q h) hFc (fun r_22 u_21 t H1 locs ht hvm hw hB hz1 hk1 hS => ?_)
    obtain ⟨q_23, rfl⟩ : ∃ z, z = u_21 := ⟨_, rfl⟩
    obtain ⟨hP1, hK1, hD1⟩ := hB
    rw [ht] at hP1
    obtain ⟨hP, hD⟩ := va_join (wr := [(mm, .inr (10, [.int 0, .ref pl, .ref ig, .ref sl, .ref kl, .int 0, .int 0, .int 0])), (pl, .inr (1, [.int 0, .ref dz, .int 0])), (kl, .inr (1, [.int 0, .ref dz, .int 0]))]) (w1 := [(sl, .inr (1, [.int 1, .ref q_23, .int 1]))]) hP hD [3] [0, 1, 2] rfl rfl (by decide) (by decide) hk1 hFc hP1 hD1
    generalize H1 = H at hP hS ⊢
    have hP : va_P (dC, dI) vwCl [(mm, .inr (10, [.int 0, .ref pl, .ref ig, .ref sl, .ref kl, .int 0, .int 0, .int 0])), (pl, .inr (1, [.int 0, .ref dz, .int 0])), (kl, .inr (1, [.int 0, .ref dz, .int 0])), (sl, .inr (1, [.int 1, .ref q_23, .int 1]))] H := hP
    have hD : va_D A [(mm, .inr (10, [.int 0, .ref pl, .ref ig, .ref sl, .ref kl, .int 0, .int 0, .int 0])), (pl, .inr (1, [.int 0, .ref dz, .int 0])), (kl, .inr (1, [.int 0, .ref dz, .int 0])), (sl, .inr (1, [.int 1, .ref q_23, .int 1]))] := hD
    refine W.widen (k := 1) (n := 10) (Nat.le_of_ble_eq_true rfl) (Nat.le_of_ble_eq_true rfl) ?_
    have hw : r_22 = 1 := hw
    subst hw
    refine lv_pop hx hb dX8_district_52 rfl ?_
    refine lv_aload_n hx hb dX8_district_53 rfl (lv_at hl 0 rfl) ?_
    refine va_get (D := (dC, dI)) (ci := 10) (v := .ref sl) (C := RX8) (T := TX8) (N := 8) hx hb hts hinX8 hown hK hP 0 rfl rfl 3 (by decide) (hts (.fieldLink RX8 20 "BallotLoomModel" "seatsOf" "Ljava/util/List;") (by decide +kernel)) (fun _ h9 => h9) rfl dX8_district_54 ?_
    have hPc := hP.sub (ws' := [(sl, .inr (1, [.int 1, .ref q_23, .int 1]))]) [3] rfl
    have hDc := hD.sub (ws' := [(sl, .inr (1, [.int 1, .ref q_23, .int 1]))]) [3] (by decide) rfl
    have hKc := hK.sub (tys' := []) [] rfl
    have hFc := va_free (wc := [(sl, .inr (1, [.int 1, .ref q_23, .int 1]))]) hD hS hA [3] rfl
    refine va_callFi (va_runF (hK.1 1 _ rfl).2 (As := []) (rest := []) ⟨hx, hb, hml, hown, hts⟩ (c_Jx4a65c_size_8abf5 l dC dI sl (1 : Int32) q_23 (1 : Int32) _ ) (va_cwF 0 hts gX8_district_Jx4a65c_size_8abf5_f30Jx4a65c rfl rfl rfl (mo_of hXs.1) (by decide +kernel) ⟨Nat.le_of_ble_eq_true rfl, Nat.le_of_ble_eq_true rfl⟩) ⟨pr_blind, va_recv hKc hPc (ci := 1) (q0 := 0) rfl rfl, fun U hU hW => ⟨rfl, pr_mk hU hW hPc hKc hDc⟩⟩ rfl rfl hl.1 rfl (lv_room (Nat.le_of_ble_eq_true rfl)) dX8_district_57 ⟨Nat.le_of_ble_eq_true rfl, Nat.le_of_ble_eq_true rfl⟩) hS (fun q _ h => hFc q h) hFc (fun r_25 u_24 t H1 locs ht hvm hw hB hz1 hk1 hS => ?_)
    obtain ⟨hP1, hK1, hD1⟩ := hB
    rw [ht] at hP1
    obtain ⟨hP, hD⟩ := va_join (wr := [(mm, .inr (10, [.int 0, .ref pl, .ref ig, .ref sl, .ref kl, .int 0, .int 0, .int 0])), (pl, .inr (1, [.int 0, .ref dz, .int 0])), (kl, .inr (1, [.int 0, .ref dz, .int 0]))]) (w1 := [(sl, .inr (1, [.int 1, .ref q_23, .int 1]))]) hP hD [3] [0, 1, 2] rfl rfl (by decide) (by decide) hk1 hFc hP1 hD1
    generalize H1 = H at hP hS ⊢
    have hP : va_P (dC, dI) vwCl [(mm, .inr (10, [.int 0, .ref pl, .ref ig, .ref sl, .ref kl, .int 0, .int 0, .int 0])), (pl, .inr (1, [.int 0, .ref dz, .int 0])), (kl, .inr (1, [.int 0, .ref dz, .int 0])), (sl, .inr (1, [.int 1, .ref q_23, .int 1]))] H := hP
    have hD : va_D A [(mm, .inr (10, [.int 0, .ref pl, .ref ig, .ref sl, .ref kl, .int 0, .int 0, .int 0])), (pl, .inr (1, [.int 0, .ref dz, .int 0])), (kl, .inr (1, [.int 0, .ref dz, .int 0])), (sl, .inr (1, [.int 1, .ref q_23, .int 1]))] := hD
    refine W.widen (k := 1) (n := 10) (Nat.le_refl _) (Nat.le_refl _) ?_
    have hw : r_25 = 1 := hw
    subst hw
    refine lv_iconst (v := 1) hx hb dX8_district_62 (by decide) ?_
    refine lv_isub hx hb dX8_district_63 ?_
    refine lv_topi (fun y_26 ey_26 => ?_)
    obtain rfl : y_26 = 0 := ey_26.trans (by decide)
    have hP9 := hP.sub (ws' := [(mm, .inr (10, [.int 0, .ref pl, .ref ig, .ref sl, .ref kl, .int 0, .int 0, .int 0]))]) [0] rfl
    have hD9 := hD.sub (ws' := [(mm, .inr (10, [.int 0, .ref pl, .ref ig, .ref sl, .ref kl, .int 0, .int 0, .int 0]))]) [0] (by decide) rfl
    have hK9 := hK.sub (tys' := []) [] rfl
    refine W.widen (k := 1) (n := 10) (Nat.le_of_ble_eq_true rfl) (Nat.le_of_ble_eq_true rfl) ?_
    exact W.iret (v := 0) hx hb hr (fun t ht hW => ⟨⟨0, (), rfl, rfl, po_mk ht hW hP9 hK9 hD9⟩, hS.F ht⟩) hS.2.2 dX8_district_64
  · refine Met.ofW (cc := cX8_district) (maxL := 2) (ret := (some .int)) (by decide) rfl ?_
    intro p e s m args below meth c s₁ B hml hv
    obtain ⟨rfl, ⟨hsz, hP, hK, hD0⟩, hXs⟩ := hv
    have hx := B.exec
    have hb := B.bytes
    have hr := B.returns
    have hts := atoms_spec (ws := wsX8_district) B.pre
    have hown : s.vm.findClass RX8 = some m.cls := findClass_of_methodNamed B.named
    have hlocks := B.notSynchronized
    subst hsz
    have hD := hD0.self (sz := s.heap.size)
    generalize hAe : va_A [(mm, .inr (10, [.int 0, .ref pl, .ref ig, .ref sl, .ref kl, .int 0, .int 0, .int 0])), (pl, .inr (1, [.int 0, .ref dz, .int 0])), (sl, .inr (1, [.int 0, .ref dz, .int 0])), (kl, .inr (1, [.int 0, .ref dz, .int 0]))] s.heap.size = A at hD hXs ⊢
    have hA : ∀ q : Nat, s.heap.size ≤ q → A q := fun q h => by rw [← hAe]; exact Or.inr h
    have hS : va_S A s.heap s.heap [] := va_S.rf
    have hP : va_P (dC, dI) vwCl [(mm, .inr (10, [.int 0, .ref pl, .ref ig, .ref sl, .ref kl, .int 0, .int 0, .int 0])), (pl, .inr (1, [.int 0, .ref dz, .int 0])), (sl, .inr (1, [.int 0, .ref dz, .int 0])), (kl, .inr (1, [.int 0, .ref dz, .int 0]))] s.heap := hP
    have hK : va_K (dC, dI) vwCl [] s := hK
    have hl := lv_entry ([.ref mm, .int 3]) (n := 2) (Nat.le_of_ble_eq_true rfl)
    rw [lg_entry_eq]
    generalize (lg_sl ([.ref mm, .int 3]) ++ List.replicate (2 - (lg_sl ([.ref mm, .int 3])).length) Slot.unset).toArray = ls at hl ⊢
    have hl : lv_has ls 2 [(0, .ref mm), (1, .int 3)] := hl
    refine lv_aload_n hx hb dX8_district_0 rfl (lv_at hl 0 rfl) ?_
    refine lv_iconst (v := 0) hx hb dX8_district_1 (by decide) ?_
    have hinX8 : ∀ w ∈ u_ws RX8 TX8 8, w ∈ wsX8_district := by decide +kernel
    refine va_put (D := (dC, dI)) (ci := 10) (v := .int 0) (ty := .int) (C := RX8) (T := TX8) (N := 8) hx hb hts hinX8 tyX8 tyX8_ok nmX8 hown hK hP hD hS 0 rfl rfl 0 (by decide) (hts (.fieldLink RX8 26 "BallotLoomModel" "thrown" "I") (by decide +kernel)) (fun _ h9 => h9) rfl (by decide +kernel) rfl rfl (Nat.le_of_ble_eq_true rfl) dX8_district_2 (fun H locs hP hD hS => ?_)
    have hP : va_P (dC, dI) vwCl [(mm, .inr (10, [.int 0, .ref pl, .ref ig, .ref sl, .ref kl, .int 0, .int 0, .int 0])), (pl, .inr (1, [.int 0, .ref dz, .int 0])), (sl, .inr (1, [.int 0, .ref dz, .int 0])), (kl, .inr (1, [.int 0, .ref dz, .int 0]))] H := hP
    have hD : va_D A [(mm, .inr (10, [.int 0, .ref pl, .ref ig, .ref sl, .ref kl, .int 0, .int 0, .int 0])), (pl, .inr (1, [.int 0, .ref dz, .int 0])), (sl, .inr (1, [.int 0, .ref dz, .int 0])), (kl, .inr (1, [.int 0, .ref dz, .int 0]))] := hD
    refine lv_iload_n hx hb dX8_district_5 rfl (lv_at hl 1 rfl) ?_
    refine lv_iconst (v := 1) hx hb dX8_district_6 (by decide) ?_
    refine lv_iconst (v := 5) hx hb dX8_district_7 (by decide) ?_
    have hPc := hP.sub (ws' := []) [] rfl
    have hDc := hD.sub (ws' := []) [] (by decide) rfl
    have hKc := hK.sub (tys' := []) [] rfl
    have hFc := va_free (wc := []) hD hS hA [] rfl
    refine va_calli (va_runS (As := [.int 3, .int 1, .int 5]) (rest := []) ⟨hx, hb, hml, hown, hts⟩ (c_X8_in l dC dI (3 : Int32) (1 : Int32) (5 : Int32) _ (by decide) (by decide)) (va_cwS 3 hts gX8_district_X8_in rfl rfl rfl (by decide +kernel) ⟨Nat.le_of_ble_eq_true rfl, Nat.le_of_ble_eq_true rfl⟩) ⟨pr_blind, fun U hU hW => ⟨rfl, pr_mk hU hW hPc hKc hDc⟩⟩ rfl rfl hl.1 rfl (lv_room (Nat.le_of_ble_eq_true rfl)) dX8_district_8 ⟨Nat.le_of_ble_eq_true rfl, Nat.le_of_ble_eq_true rfl⟩) hS (fun q _ h => hFc q h) hFc (fun r_28 u_27 t H1 locs ht hvm hw hB hz1 hk1 hS => ?_)
    obtain ⟨hP1, hK1, hD1⟩ := hB
    rw [ht] at hP1
    obtain ⟨hP, hD⟩ := va_join (wr := [(mm, .inr (10, [.int 0, .ref pl, .ref ig, .ref sl, .ref kl, .int 0, .int 0, .int 0])), (pl, .inr (1, [.int 0, .ref dz, .int 0])), (sl, .inr (1, [.int 0, .ref dz, .int 0])), (kl, .inr (1, [.int 0, .ref dz, .int 0]))]) (w1 := []) hP hD [] [0, 1, 2, 3] rfl rfl (by decide) (by decide) hk1 hFc hP1 hD1
    generalize H1 = H at hP hS ⊢
    have hP : va_P (dC, dI) vwCl [(mm, .inr (10, [.int 0, .ref pl, .ref ig, .ref sl, .ref kl, .int 0, .int 0, .int 0])), (pl, .inr (1, [.int 0, .ref dz, .int 0])), (sl, .inr (1, [.int 0, .ref dz, .int 0])), (kl, .inr (1, [.int 0, .ref dz, .int 0]))] H := hP
    have hD : va_D A [(mm, .inr (10, [.int 0, .ref pl, .ref ig, .ref sl, .ref kl, .int 0, .int 0, .int 0])), (pl, .inr (1, [.int 0, .ref dz, .int 0])), (sl, .inr (1, [.int 0, .ref dz, .int 0])), (kl, .inr (1, [.int 0, .ref dz, .int 0]))] := hD
    refine W.widen (k := 0) (n := 0) (Nat.le_refl _) (Nat.le_refl _) ?_
    have hw : r_28 = 1 := hw
    subst hw
    refine lv_if_ne (tgt := 20) hx hb dX8_district_11 (by decide) (fun _ => ?_) (fun h9 => absurd h9 (by decide))
    refine lv_aload_n hx hb dX8_district_20 rfl (lv_at hl 0 rfl) ?_
    refine va_get (D := (dC, dI)) (ci := 10) (v := .ref sl) (C := RX8) (T := TX8) (N := 8) hx hb hts hinX8 hown hK hP 0 rfl rfl 3 (by decide) (hts (.fieldLink RX8 20 "BallotLoomModel" "seatsOf" "Ljava/util/List;") (by decide +kernel)) (fun _ h9 => h9) rfl dX8_district_21 ?_
    have hPc := hP.sub (ws' := [(sl, .inr (1, [.int 0, .ref dz, .int 0]))]) [2] rfl
    have hDc := hD.sub (ws' := [(sl, .inr (1, [.int 0, .ref dz, .int 0]))]) [2] (by decide) rfl
    have hKc := hK.sub (tys' := []) [] rfl
    have hFc := va_free (wc := [(sl, .inr (1, [.int 0, .ref dz, .int 0]))]) hD hS hA [2] rfl
    refine va_callFi (va_runF (hK.1 1 _ rfl).2 (As := []) (rest := []) ⟨hx, hb, hml, hown, hts⟩ (c_Jx4a65c_size_8abf5 l dC dI sl (0 : Int32) dz (0 : Int32) _ ) (va_cwF 0 hts gX8_district_Jx4a65c_size_8abf5_f30Jx4a65c rfl rfl rfl (mo_of hXs.1) (by decide +kernel) ⟨Nat.le_of_ble_eq_true rfl, Nat.le_of_ble_eq_true rfl⟩) ⟨pr_blind, va_recv hKc hPc (ci := 1) (q0 := 0) rfl rfl, fun U hU hW => ⟨rfl, pr_mk hU hW hPc hKc hDc⟩⟩ rfl rfl hl.1 rfl (lv_room (Nat.le_of_ble_eq_true rfl)) dX8_district_24 ⟨Nat.le_of_ble_eq_true rfl, Nat.le_of_ble_eq_true rfl⟩) hS (fun q _ h => hFc q h) hFc (fun r_30 u_29 t H1 locs ht hvm hw hB hz1 hk1 hS => ?_)
    obtain ⟨hP1, hK1, hD1⟩ := hB
    rw [ht] at hP1
    obtain ⟨hP, hD⟩ := va_join (wr := [(mm, .inr (10, [.int 0, .ref pl, .ref ig, .ref sl, .ref kl, .int 0, .int 0, .int 0])), (pl, .inr (1, [.int 0, .ref dz, .int 0])), (kl, .inr (1, [.int 0, .ref dz, .int 0]))]) (w1 := [(sl, .inr (1, [.int 0, .ref dz, .int 0]))]) hP hD [2] [0, 1, 3] rfl rfl (by decide) (by decide) hk1 hFc hP1 hD1
    generalize H1 = H at hP hS ⊢
    have hP : va_P (dC, dI) vwCl [(mm, .inr (10, [.int 0, .ref pl, .ref ig, .ref sl, .ref kl, .int 0, .int 0, .int 0])), (pl, .inr (1, [.int 0, .ref dz, .int 0])), (kl, .inr (1, [.int 0, .ref dz, .int 0])), (sl, .inr (1, [.int 0, .ref dz, .int 0]))] H := hP
    have hD : va_D A [(mm, .inr (10, [.int 0, .ref pl, .ref ig, .ref sl, .ref kl, .int 0, .int 0, .int 0])), (pl, .inr (1, [.int 0, .ref dz, .int 0])), (kl, .inr (1, [.int 0, .ref dz, .int 0])), (sl, .inr (1, [.int 0, .ref dz, .int 0]))] := hD
    refine W.widen (k := 0) (n := 0) (Nat.le_refl _) (Nat.le_refl _) ?_
    have hw : r_30 = 0 := hw
    subst hw
    refine lv_iconst (v := 4) hx hb dX8_district_29 (by decide) ?_
    refine lv_icmp_ne (tgt := 39) hx hb dX8_district_30 (by decide) (fun _ => ?_) (fun h9 => absurd h9 (by decide))
    refine lv_aload_n hx hb dX8_district_39 rfl (lv_at hl 0 rfl) ?_
    refine va_get (D := (dC, dI)) (ci := 10) (v := .ref sl) (C := RX8) (T := TX8) (N := 8) hx hb hts hinX8 hown hK hP 0 rfl rfl 3 (by decide) (hts (.fieldLink RX8 20 "BallotLoomModel" "seatsOf" "Ljava/util/List;") (by decide +kernel)) (fun _ h9 => h9) rfl dX8_district_40 ?_
    refine lv_iload_n hx hb dX8_district_43 rfl (lv_at hl 1 rfl) ?_
    have hPc := hP.sub (ws' := []) [] rfl
    have hDc := hD.sub (ws' := []) [] (by decide) rfl
    have hKc := hK.sub (tys' := []) [] rfl
    have hFc := va_free (wc := []) hD hS hA [] rfl
    refine va_callr (va_runS (As := [.int 3]) (rest := [.ref sl]) ⟨hx, hb, hml, hown, hts⟩ (c_J6_valueOf_2dffe l dC dI dz dz tc ad (3 : Int32) _ (by decide) (by decide) (by unfold vp_in; decide)) (va_cwS 1 hts gX8_district_J6_valueOf_2dffe rfl rfl rfl (by decide +kernel) ⟨Nat.le_of_ble_eq_true rfl, Nat.le_of_ble_eq_true rfl⟩) ⟨pe_blind ca_bl, fun U hU hW => ⟨rfl, pr_mk hU hW hPc hKc hDc, ca_mk hU hW hS hFc hXs⟩⟩ rfl rfl hl.1 rfl (lv_room (Nat.le_of_ble_eq_true rfl)) dX8_district_44 ⟨Nat.le_of_ble_eq_true rfl, Nat.le_of_ble_eq_true rfl⟩) hS (fun q _ h => hFc q h) hFc (fun u_31 r_32 t H1 locs ht hvm hw hB hz1 hk1 hS => ?_)
    obtain ⟨q_33, rfl⟩ : ∃ z, z = u_31 := ⟨_, rfl⟩
    obtain ⟨rfl, hP1, hK1, hD1⟩ := hB
    have hw9 := hw
    rw [ht] at hP1
    obtain ⟨hP, hD⟩ := va_join (wr := [(mm, .inr (10, [.int 0, .ref pl, .ref ig, .ref sl, .ref kl, .int 0, .int 0, .int 0])), (pl, .inr (1, [.int 0, .ref dz, .int 0])), (kl, .inr (1, [.int 0, .ref dz, .int 0])), (sl, .inr (1, [.int 0, .ref dz, .int 0]))]) (w1 := []) hP hD [] [0, 1, 2, 3] rfl rfl (by decide) (by decide) hk1 hFc hP1 hD1
    generalize H1 = H at hP hS ⊢
    have hP : va_P (dC, dI) vwCl [(mm, .inr (10, [.int 0, .ref pl, .ref ig, .ref sl, .ref kl, .int 0, .int 0, .int 0])), (pl, .inr (1, [.int 0, .ref dz, .int 0])), (kl, .inr (1, [.int 0, .ref dz, .int 0])), (sl, .inr (1, [.int 0, .ref dz, .int 0]))] H := hP
    have hD : va_D A [(mm, .inr (10, [.int 0, .ref pl, .ref ig, .ref sl, .ref kl, .int 0, .int 0, .int 0])), (pl, .inr (1, [.int 0, .ref dz, .int 0])), (kl, .inr (1, [.int 0, .ref dz, .int 0])), (sl, .inr (1, [.int 0, .ref dz, .int 0]))] := hD
    refine W.widen (k := 0) (n := 0) (Nat.le_refl _) (Nat.le_refl _) ?_
    have hPc := hP.sub (ws' := [(sl, .inr (1, [.int 0, .ref dz, .int 0]))]) [3] rfl
    have hDc := hD.sub (ws' := [(sl, .inr (1, [.int 0, .ref dz, .int 0]))]) [3] (by decide) rfl
    have hKc := hK.sub (tys' := []) [] rfl
    have hFc := va_free (wc := [(sl, .inr (1, [.int 0, .ref dz, .int 0]))]) hD hS hA [3] rfl
    refine va_callFi (va_runF (hK.1 1 _ rfl).2 (As := [.ref (ad q_33)]) (rest := []) ⟨hx, hb, hml, hown, hts⟩ (c_Jx4a65c_add_9ea2d l dC dI dz dz tc ad sl (ad q_33) _ (⟨_, hw9, rfl⟩)) (va_cwF 1 hts gX8_district_Jx4a65c_add_9ea2d_f67Jx4a65c rfl rfl rfl (ca_f hXs) (by decide +kernel) ⟨Nat.le_of_ble_eq_true rfl, Nat.le_of_ble_eq_true rfl⟩) ⟨pe_blind ca_bl, va_recv hKc hPc (ci := 1) (q0 := 0) rfl rfl, fun U hU hW => ⟨rfl, pr_mk hU hW hPc hKc hDc, ca_mk hU hW hS hFc hXs⟩⟩ rfl rfl hl.1 rfl (lv_room (Nat.le_of_ble_eq_true rfl)) dX8_district_47 ⟨Nat.le_of_ble_eq_true rfl, Nat.le_of_ble_eq_true rfl⟩) hS (fun q _ h => hFc q h) hFc (fun r_35 u_34 t H1 locs ht hvm hw hB hz1 hk1 hS => ?_)
    obtain ⟨q_36, rfl⟩ : ∃ z, z = u_34 := ⟨_, rfl⟩
    obtain ⟨hP1, hK1, hD1⟩ := hB
    rw [ht] at hP1
    obtain ⟨hP, hD⟩ := va_join (wr := [(mm, .inr (10, [.int 0, .ref pl, .ref ig, .ref sl, .ref kl, .int 0, .int 0, .int 0])), (pl, .inr (1, [.int 0, .ref dz, .int 0])), (kl, .inr (1, [.int 0, .ref dz, .int 0]))]) (w1 := [(sl, .inr (1, [.int 1, .ref q_36, .int 1]))]) hP hD [3] [0, 1, 2] rfl rfl (by decide) (by decide) hk1 hFc hP1 hD1
    generalize H1 = H at hP hS ⊢
    have hP : va_P (dC, dI) vwCl [(mm, .inr (10, [.int 0, .ref pl, .ref ig, .ref sl, .ref kl, .int 0, .int 0, .int 0])), (pl, .inr (1, [.int 0, .ref dz, .int 0])), (kl, .inr (1, [.int 0, .ref dz, .int 0])), (sl, .inr (1, [.int 1, .ref q_36, .int 1]))] H := hP
    have hD : va_D A [(mm, .inr (10, [.int 0, .ref pl, .ref ig, .ref sl, .ref kl, .int 0, .int 0, .int 0])), (pl, .inr (1, [.int 0, .ref dz, .int 0])), (kl, .inr (1, [.int 0, .ref dz, .int 0])), (sl, .inr (1, [.int 1, .ref q_36, .int 1]))] := hD
    refine W.widen (k := 1) (n := 10) (Nat.le_of_ble_eq_true rfl) (Nat.le_of_ble_eq_true rfl) ?_
    have hw : r_35 = 1 := hw
    subst hw
    refine lv_pop hx hb dX8_district_52 rfl ?_
    refine lv_aload_n hx hb dX8_district_53 rfl (lv_at hl 0 rfl) ?_
    refine va_get (D := (dC, dI)) (ci := 10) (v := .ref sl) (C := RX8) (T := TX8) (N := 8) hx hb hts hinX8 hown hK hP 0 rfl rfl 3 (by decide) (hts (.fieldLink RX8 20 "BallotLoomModel" "seatsOf" "Ljava/util/List;") (by decide +kernel)) (fun _ h9 => h9) rfl dX8_district_54 ?_
    have hPc := hP.sub (ws' := [(sl, .inr (1, [.int 1, .ref q_36, .int 1]))]) [3] rfl
    have hDc := hD.sub (ws' := [(sl, .inr (1, [.int 1, .ref q_36, .int 1]))]) [3] (by decide) rfl
    have hKc := hK.sub (tys' := []) [] rfl
    have hFc := va_free (wc := [(sl, .inr (1, [.int 1, .ref q_36, .int 1]))]) hD hS hA [3] rfl
    refine va_callFi (va_runF (hK.1 1 _ rfl).2 (As := []) (rest := []) ⟨hx, hb, hml, hown, hts⟩ (c_Jx4a65c_size_8abf5 l dC dI sl (1 : Int32) q_36 (1 : Int32) _ ) (va_cwF 0 hts gX8_district_Jx4a65c_size_8abf5_f30Jx4a65c rfl rfl rfl (mo_of hXs.1) (by decide +kernel) ⟨Nat.le_of_ble_eq_true rfl, Nat.le_of_ble_eq_true rfl⟩) ⟨pr_blind, va_recv hKc hPc (ci := 1) (q0 := 0) rfl rfl, fun U hU hW => ⟨rfl, pr_mk hU hW hPc hKc hDc⟩⟩ rfl rfl hl.1 rfl (lv_room (Nat.le_of_ble_eq_true rfl)) dX8_district_57 ⟨Nat.le_of_ble_eq_true rfl, Nat.le_of_ble_eq_true rfl⟩) hS (fun q _ h => hFc q h) hFc (fun r_38 u_37 t H1 locs ht hvm hw hB hz1 hk1 hS => ?_)
    obtain ⟨hP1, hK1, hD1⟩ := hB
    rw [ht] at hP1
    obtain ⟨hP, hD⟩ := va_join (wr := [(mm, .inr (10, [.int 0, .ref pl, .ref ig, .ref sl, .ref kl, .int 0, .int 0, .int 0])), (pl, .inr (1, [.int 0, .ref dz, .int 0])), (kl, .inr (1, [.int 0, .ref dz, .int 0]))]) (w1 := [(sl, .inr (1, [.int 1, .ref q_36, .int 1]))]) hP hD [3] [0, 1, 2] rfl rfl (by decide) (by decide) hk1 hFc hP1 hD1
    generalize H1 = H at hP hS ⊢
    have hP : va_P (dC, dI) vwCl [(mm, .inr (10, [.int 0, .ref pl, .ref ig, .ref sl, .ref kl, .int 0, .int 0, .int 0])), (pl, .inr (1, [.int 0, .ref dz, .int 0])), (kl, .inr (1, [.int 0, .ref dz, .int 0])), (sl, .inr (1, [.int 1, .ref q_36, .int 1]))] H := hP
    have hD : va_D A [(mm, .inr (10, [.int 0, .ref pl, .ref ig, .ref sl, .ref kl, .int 0, .int 0, .int 0])), (pl, .inr (1, [.int 0, .ref dz, .int 0])), (kl, .inr (1, [.int 0, .ref dz, .int 0])), (sl, .inr (1, [.int 1, .ref q_36, .int 1]))] := hD
    refine W.widen (k := 1) (n := 10) (Nat.le_refl _) (Nat.le_refl _) ?_
    have hw : r_38 = 1 := hw
    subst hw
    refine lv_iconst (v := 1) hx hb dX8_district_62 (by decide) ?_
    refine lv_isub hx hb dX8_district_63 ?_
    refine lv_topi (fun y_39 ey_39 => ?_)
    obtain rfl : y_39 = 0 := ey_39.trans (by decide)
    have hP9 := hP.sub (ws' := [(mm, .inr (10, [.int 0, .ref pl, .ref ig, .ref sl, .ref kl, .int 0, .int 0, .int 0]))]) [0] rfl
    have hD9 := hD.sub (ws' := [(mm, .inr (10, [.int 0, .ref pl, .ref ig, .ref sl, .ref kl, .int 0, .int 0, .int 0]))]) [0] (by decide) rfl
    have hK9 := hK.sub (tys' := []) [] rfl
    refine W.widen (k := 1) (n := 10) (Nat.le_of_ble_eq_true rfl) (Nat.le_of_ble_eq_true rfl) ?_
    exact W.iret (v := 0) hx hb hr (fun t ht hW => ⟨⟨0, (), rfl, rfl, po_mk ht hW hP9 hK9 hD9⟩, hS.F ht⟩) hS.2.2 dX8_district_64
  · refine Met.ofW (cc := cX8_district) (maxL := 2) (ret := (some .int)) (by decide) rfl ?_
    intro p e s m args below meth c s₁ B hml hv
    obtain ⟨rfl, ⟨hsz, hP, hK, hD0⟩, hXs⟩ := hv
    have hx := B.exec
    have hb := B.bytes
    have hr := B.returns
    have hts := atoms_spec (ws := wsX8_district) B.pre
    have hown : s.vm.findClass RX8 = some m.cls := findClass_of_methodNamed B.named
    have hlocks := B.notSynchronized
    subst hsz
    have hD := hD0.self (sz := s.heap.size)
    generalize hAe : va_A [(mm, .inr (10, [.int 0, .ref pl, .ref ig, .ref sl, .ref kl, .int 0, .int 0, .int 0])), (pl, .inr (1, [.int 0, .ref dz, .int 0])), (sl, .inr (1, [.int 0, .ref dz, .int 0])), (kl, .inr (1, [.int 0, .ref dz, .int 0]))] s.heap.size = A at hD hXs ⊢
    have hA : ∀ q : Nat, s.heap.size ≤ q → A q := fun q h => by rw [← hAe]; exact Or.inr h
    have hS : va_S A s.heap s.heap [] := va_S.rf
    have hP : va_P (dC, dI) vwCl [(mm, .inr (10, [.int 0, .ref pl, .ref ig, .ref sl, .ref kl, .int 0, .int 0, .int 0])), (pl, .inr (1, [.int 0, .ref dz, .int 0])), (sl, .inr (1, [.int 0, .ref dz, .int 0])), (kl, .inr (1, [.int 0, .ref dz, .int 0]))] s.heap := hP
    have hK : va_K (dC, dI) vwCl [] s := hK
    have hl := lv_entry ([.ref mm, .int 4]) (n := 2) (Nat.le_of_ble_eq_true rfl)
    rw [lg_entry_eq]
    generalize (lg_sl ([.ref mm, .int 4]) ++ List.replicate (2 - (lg_sl ([.ref mm, .int 4])).length) Slot.unset).toArray = ls at hl ⊢
    have hl : lv_has ls 2 [(0, .ref mm), (1, .int 4)] := hl
    refine lv_aload_n hx hb dX8_district_0 rfl (lv_at hl 0 rfl) ?_
    refine lv_iconst (v := 0) hx hb dX8_district_1 (by decide) ?_
    have hinX8 : ∀ w ∈ u_ws RX8 TX8 8, w ∈ wsX8_district := by decide +kernel
    refine va_put (D := (dC, dI)) (ci := 10) (v := .int 0) (ty := .int) (C := RX8) (T := TX8) (N := 8) hx hb hts hinX8 tyX8 tyX8_ok nmX8 hown hK hP hD hS 0 rfl rfl 0 (by decide) (hts (.fieldLink RX8 26 "BallotLoomModel" "thrown" "I") (by decide +kernel)) (fun _ h9 => h9) rfl (by decide +kernel) rfl rfl (Nat.le_of_ble_eq_true rfl) dX8_district_2 (fun H locs hP hD hS => ?_)
    have hP : va_P (dC, dI) vwCl [(mm, .inr (10, [.int 0, .ref pl, .ref ig, .ref sl, .ref kl, .int 0, .int 0, .int 0])), (pl, .inr (1, [.int 0, .ref dz, .int 0])), (sl, .inr (1, [.int 0, .ref dz, .int 0])), (kl, .inr (1, [.int 0, .ref dz, .int 0]))] H := hP
    have hD : va_D A [(mm, .inr (10, [.int 0, .ref pl, .ref ig, .ref sl, .ref kl, .int 0, .int 0, .int 0])), (pl, .inr (1, [.int 0, .ref dz, .int 0])), (sl, .inr (1, [.int 0, .ref dz, .int 0])), (kl, .inr (1, [.int 0, .ref dz, .int 0]))] := hD
    refine lv_iload_n hx hb dX8_district_5 rfl (lv_at hl 1 rfl) ?_
    refine lv_iconst (v := 1) hx hb dX8_district_6 (by decide) ?_
    refine lv_iconst (v := 5) hx hb dX8_district_7 (by decide) ?_
    have hPc := hP.sub (ws' := []) [] rfl
    have hDc := hD.sub (ws' := []) [] (by decide) rfl
    have hKc := hK.sub (tys' := []) [] rfl
    have hFc := va_free (wc := []) hD hS hA [] rfl
    refine va_calli (va_runS (As := [.int 4, .int 1, .int 5]) (rest := []) ⟨hx, hb, hml, hown, hts⟩ (c_X8_in l dC dI (4 : Int32) (1 : Int32) (5 : Int32) _ (by decide) (by decide)) (va_cwS 3 hts gX8_district_X8_in rfl rfl rfl (by decide +kernel) ⟨Nat.le_of_ble_eq_true rfl, Nat.le_of_ble_eq_true rfl⟩) ⟨pr_blind, fun U hU hW => ⟨rfl, pr_mk hU hW hPc hKc hDc⟩⟩ rfl rfl hl.1 rfl (lv_room (Nat.le_of_ble_eq_true rfl)) dX8_district_8 ⟨Nat.le_of_ble_eq_true rfl, Nat.le_of_ble_eq_true rfl⟩) hS (fun q _ h => hFc q h) hFc (fun r_41 u_40 t H1 locs ht hvm hw hB hz1 hk1 hS => ?_)
    obtain ⟨hP1, hK1, hD1⟩ := hB
    rw [ht] at hP1
    obtain ⟨hP, hD⟩ := va_join (wr := [(mm, .inr (10, [.int 0, .ref pl, .ref ig, .ref sl, .ref kl, .int 0, .int 0, .int 0])), (pl, .inr (1, [.int 0, .ref dz, .int 0])), (sl, .inr (1, [.int 0, .ref dz, .int 0])), (kl, .inr (1, [.int 0, .ref dz, .int 0]))]) (w1 := []) hP hD [] [0, 1, 2, 3] rfl rfl (by decide) (by decide) hk1 hFc hP1 hD1
    generalize H1 = H at hP hS ⊢
    have hP : va_P (dC, dI) vwCl [(mm, .inr (10, [.int 0, .ref pl, .ref ig, .ref sl, .ref kl, .int 0, .int 0, .int 0])), (pl, .inr (1, [.int 0, .ref dz, .int 0])), (sl, .inr (1, [.int 0, .ref dz, .int 0])), (kl, .inr (1, [.int 0, .ref dz, .int 0]))] H := hP
    have hD : va_D A [(mm, .inr (10, [.int 0, .ref pl, .ref ig, .ref sl, .ref kl, .int 0, .int 0, .int 0])), (pl, .inr (1, [.int 0, .ref dz, .int 0])), (sl, .inr (1, [.int 0, .ref dz, .int 0])), (kl, .inr (1, [.int 0, .ref dz, .int 0]))] := hD
    refine W.widen (k := 0) (n := 0) (Nat.le_refl _) (Nat.le_refl _) ?_
    have hw : r_41 = 1 := hw
    subst hw
    refine lv_if_ne (tgt := 20) hx hb dX8_district_11 (by decide) (fun _ => ?_) (fun h9 => absurd h9 (by decide))
    refine lv_aload_n hx hb dX8_district_20 rfl (lv_at hl 0 rfl) ?_
    refine va_get (D := (dC, dI)) (ci := 10) (v := .ref sl) (C := RX8) (T := TX8) (N := 8) hx hb hts hinX8 hown hK hP 0 rfl rfl 3 (by decide) (hts (.fieldLink RX8 20 "BallotLoomModel" "seatsOf" "Ljava/util/List;") (by decide +kernel)) (fun _ h9 => h9) rfl dX8_district_21 ?_
    have hPc := hP.sub (ws' := [(sl, .inr (1, [.int 0, .ref dz, .int 0]))]) [2] rfl
    have hDc := hD.sub (ws' := [(sl, .inr (1, [.int 0, .ref dz, .int 0]))]) [2] (by decide) rfl
    have hKc := hK.sub (tys' := []) [] rfl
    have hFc := va_free (wc := [(sl, .inr (1, [.int 0, .ref dz, .int 0]))]) hD hS hA [2] rfl
    refine va_callFi (va_runF (hK.1 1 _ rfl).2 (As := []) (rest := []) ⟨hx, hb, hml, hown, hts⟩ (c_Jx4a65c_size_8abf5 l dC dI sl (0 : Int32) dz (0 : Int32) _ ) (va_cwF 0 hts gX8_district_Jx4a65c_size_8abf5_f30Jx4a65c rfl rfl rfl (mo_of hXs.1) (by decide +kernel) ⟨Nat.le_of_ble_eq_true rfl, Nat.le_of_ble_eq_true rfl⟩) ⟨pr_blind, va_recv hKc hPc (ci := 1) (q0 := 0) rfl rfl, fun U hU hW => ⟨rfl, pr_mk hU hW hPc hKc hDc⟩⟩ rfl rfl hl.1 rfl (lv_room (Nat.le_of_ble_eq_true rfl)) dX8_district_24 ⟨Nat.le_of_ble_eq_true rfl, Nat.le_of_ble_eq_true rfl⟩) hS (fun q _ h => hFc q h) hFc (fun r_43 u_42 t H1 locs ht hvm hw hB hz1 hk1 hS => ?_)
    obtain ⟨hP1, hK1, hD1⟩ := hB
    rw [ht] at hP1
    obtain ⟨hP, hD⟩ := va_join (wr := [(mm, .inr (10, [.int 0, .ref pl, .ref ig, .ref sl, .ref kl, .int 0, .int 0, .int 0])), (pl, .inr (1, [.int 0, .ref dz, .int 0])), (kl, .inr (1, [.int 0, .ref dz, .int 0]))]) (w1 := [(sl, .inr (1, [.int 0, .ref dz, .int 0]))]) hP hD [2] [0, 1, 3] rfl rfl (by decide) (by decide) hk1 hFc hP1 hD1
    generalize H1 = H at hP hS ⊢
    have hP : va_P (dC, dI) vwCl [(mm, .inr (10, [.int 0, .ref pl, .ref ig, .ref sl, .ref kl, .int 0, .int 0, .int 0])), (pl, .inr (1, [.int 0, .ref dz, .int 0])), (kl, .inr (1, [.int 0, .ref dz, .int 0])), (sl, .inr (1, [.int 0, .ref dz, .int 0]))] H := hP
    have hD : va_D A [(mm, .inr (10, [.int 0, .ref pl, .ref ig, .ref sl, .ref kl, .int 0, .int 0, .int 0])), (pl, .inr (1, [.int 0, .ref dz, .int 0])), (kl, .inr (1, [.int 0, .ref dz, .int 0])), (sl, .inr (1, [.int 0, .ref dz, .int 0]))] := hD
    refine W.widen (k := 0) (n := 0) (Nat.le_refl _) (Nat.le_refl _) ?_
    have hw : r_43 = 0 := hw
    subst hw
    refine lv_iconst (v := 4) hx hb dX8_district_29 (by decide) ?_
    refine lv_icmp_ne (tgt := 39) hx hb dX8_district_30 (by decide) (fun _ => ?_) (fun h9 => absurd h9 (by decide))
    refine lv_aload_n hx hb dX8_district_39 rfl (lv_at hl 0 rfl) ?_
    refine va_get (D := (dC, dI)) (ci := 10) (v := .ref sl) (C := RX8) (T := TX8) (N := 8) hx hb hts hinX8 hown hK hP 0 rfl rfl 3 (by decide) (hts (.fieldLink RX8 20 "BallotLoomModel" "seatsOf" "Ljava/util/List;") (by decide +kernel)) (fun _ h9 => h9) rfl dX8_district_40 ?_
    refine lv_iload_n hx hb dX8_district_43 rfl (lv_at hl 1 rfl) ?_
    have hPc := hP.sub (ws' := []) [] rfl
    have hDc := hD.sub (ws' := []) [] (by decide) rfl
    have hKc := hK.sub (tys' := []) [] rfl
    have hFc := va_free (wc := []) hD hS hA [] rfl
    refine va_callr (va_runS (As := [.int 4]) (rest := [.ref sl]) ⟨hx, hb, hml, hown, hts⟩ (c_J6_valueOf_2dffe l dC dI dz dz tc ad (4 : Int32) _ (by decide) (by decide) (by unfold vp_in; decide)) (va_cwS 1 hts gX8_district_J6_valueOf_2dffe rfl rfl rfl (by decide +kernel) ⟨Nat.le_of_ble_eq_true rfl, Nat.le_of_ble_eq_true rfl⟩) ⟨pe_blind ca_bl, fun U hU hW => ⟨rfl, pr_mk hU hW hPc hKc hDc, ca_mk hU hW hS hFc hXs⟩⟩ rfl rfl hl.1 rfl (lv_room (Nat.le_of_ble_eq_true rfl)) dX8_district_44 ⟨Nat.le_of_ble_eq_true rfl, Nat.le_of_ble_eq_true rfl⟩) hS (fun q _ h => hFc q h) hFc (fun u_44 r_45 t H1 locs ht hvm hw hB hz1 hk1 hS => ?_)
    obtain ⟨q_46, rfl⟩ : ∃ z, z = u_44 := ⟨_, rfl⟩
    obtain ⟨rfl, hP1, hK1, hD1⟩ := hB
    have hw9 := hw
    rw [ht] at hP1
    obtain ⟨hP, hD⟩ := va_join (wr := [(mm, .inr (10, [.int 0, .ref pl, .ref ig, .ref sl, .ref kl, .int 0, .int 0, .int 0])), (pl, .inr (1, [.int 0, .ref dz, .int 0])), (kl, .inr (1, [.int 0, .ref dz, .int 0])), (sl, .inr (1, [.int 0, .ref dz, .int 0]))]) (w1 := []) hP hD [] [0, 1, 2, 3] rfl rfl (by decide) (by decide) hk1 hFc hP1 hD1
    generalize H1 = H at hP hS ⊢
    have hP : va_P (dC, dI) vwCl [(mm, .inr (10, [.int 0, .ref pl, .ref ig, .ref sl, .ref kl, .int 0, .int 0, .int 0])), (pl, .inr (1, [.int 0, .ref dz, .int 0])), (kl, .inr (1, [.int 0, .ref dz, .int 0])), (sl, .inr (1, [.int 0, .ref dz, .int 0]))] H := hP
    have hD : va_D A [(mm, .inr (10, [.int 0, .ref pl, .ref ig, .ref sl, .ref kl, .int 0, .int 0, .int 0])), (pl, .inr (1, [.int 0, .ref dz, .int 0])), (kl, .inr (1, [.int 0, .ref dz, .int 0])), (sl, .inr (1, [.int 0, .ref dz, .int 0]))] := hD
    refine W.widen (k := 0) (n := 0) (Nat.le_refl _) (Nat.le_refl _) ?_
    have hPc := hP.sub (ws' := [(sl, .inr (1, [.int 0, .ref dz, .int 0]))]) [3] rfl
    have hDc := hD.sub (ws' := [(sl, .inr (1, [.int 0, .ref dz, .int 0]))]) [3] (by decide) rfl
    have hKc := hK.sub (tys' := []) [] rfl
    have hFc := va_free (wc := [(sl, .inr (1, [.int 0, .ref dz, .int 0]))]) hD hS hA [3] rfl
    refine va_callFi (va_runF (hK.1 1 _ rfl).2 (As := [.ref (ad q_46)]) (rest := []) ⟨hx, hb, hml, hown, hts⟩ (c_Jx4a65c_add_9ea2d l dC dI dz dz tc ad sl (ad q_46) _ (⟨_, hw9, rfl⟩)) (va_cwF 1 hts gX8_district_Jx4a65c_add_9ea2d_f67Jx4a65c rfl rfl rfl (ca_f hXs) (by decide +kernel) ⟨Nat.le_of_ble_eq_true rfl, Nat.le_of_ble_eq_true rfl⟩) ⟨pe_blind ca_bl, va_recv hKc hPc (ci := 1) (q0 := 0) rfl rfl, fun U hU hW => ⟨rfl, pr_mk hU hW hPc hKc hDc, ca_mk hU hW hS hFc hXs⟩⟩ rfl rfl hl.1 rfl (lv_room (Nat.le_of_ble_eq_true rfl)) dX8_district_47 ⟨Nat.le_of_ble_eq_true rfl, Nat.le_of_ble_eq_true rfl⟩) hS (fun q _ h => hFc q h) hFc (fun r_48 u_47 t H1 locs ht hvm hw hB hz1 hk1 hS => ?_)
    obtain ⟨q_49, rfl⟩ : ∃ z, z = u_47 := ⟨_, rfl⟩
    obtain ⟨hP1, hK1, hD1⟩ := hB
    rw [ht] at hP1
    obtain ⟨hP, hD⟩ := va_join (wr := [(mm, .inr (10, [.int 0, .ref pl, .ref ig, .ref sl, .ref kl, .int 0, .int 0, .int 0])), (pl, .inr (1, [.int 0, .ref dz, .int 0])), (kl, .inr (1, [.int 0, .ref dz, .int 0]))]) (w1 := [(sl, .inr (1, [.int 1, .ref q_49, .int 1]))]) hP hD [3] [0, 1, 2] rfl rfl (by decide) (by decide) hk1 hFc hP1 hD1
    generalize H1 = H at hP hS ⊢
    have hP : va_P (dC, dI) vwCl [(mm, .inr (10, [.int 0, .ref pl, .ref ig, .ref sl, .ref kl, .int 0, .int 0, .int 0])), (pl, .inr (1, [.int 0, .ref dz, .int 0])), (kl, .inr (1, [.int 0, .ref dz, .int 0])), (sl, .inr (1, [.int 1, .ref q_49, .int 1]))] H := hP
    have hD : va_D A [(mm, .inr (10, [.int 0, .ref pl, .ref ig, .ref sl, .ref kl, .int 0, .int 0, .int 0])), (pl, .inr (1, [.int 0, .ref dz, .int 0])), (kl, .inr (1, [.int 0, .ref dz, .int 0])), (sl, .inr (1, [.int 1, .ref q_49, .int 1]))] := hD
    refine W.widen (k := 1) (n := 10) (Nat.le_of_ble_eq_true rfl) (Nat.le_of_ble_eq_true rfl) ?_
    have hw : r_48 = 1 := hw
    subst hw
    refine lv_pop hx hb dX8_district_52 rfl ?_
    refine lv_aload_n hx hb dX8_district_53 rfl (lv_at hl 0 rfl) ?_
    refine va_get (D := (dC, dI)) (ci := 10) (v := .ref sl) (C := RX8) (T := TX8) (N := 8) hx hb hts hinX8 hown hK hP 0 rfl rfl 3 (by decide) (hts (.fieldLink RX8 20 "BallotLoomModel" "seatsOf" "Ljava/util/List;") (by decide +kernel)) (fun _ h9 => h9) rfl dX8_district_54 ?_
    have hPc := hP.sub (ws' := [(sl, .inr (1, [.int 1, .ref q_49, .int 1]))]) [3] rfl
    have hDc := hD.sub (ws' := [(sl, .inr (1, [.int 1, .ref q_49, .int 1]))]) [3] (by decide) rfl
    have hKc := hK.sub (tys' := []) [] rfl
    have hFc := va_free (wc := [(sl, .inr (1, [.int 1, .ref q_49, .int 1]))]) hD hS hA [3] rfl
    refine va_callFi (va_runF (hK.1 1 _ rfl).2 (As := []) (rest := []) ⟨hx, hb, hml, hown, hts⟩ (c_Jx4a65c_size_8abf5 l dC dI sl (1 : Int32) q_49 (1 : Int32) _ ) (va_cwF 0 hts gX8_district_Jx4a65c_size_8abf5_f30Jx4a65c rfl rfl rfl (mo_of hXs.1) (by decide +kernel) ⟨Nat.le_of_ble_eq_true rfl, Nat.le_of_ble_eq_true rfl⟩) ⟨pr_blind, va_recv hKc hPc (ci := 1) (q0 := 0) rfl rfl, fun U hU hW => ⟨rfl, pr_mk hU hW hPc hKc hDc⟩⟩ rfl rfl hl.1 rfl (lv_room (Nat.le_of_ble_eq_true rfl)) dX8_district_57 ⟨Nat.le_of_ble_eq_true rfl, Nat.le_of_ble_eq_true rfl⟩) hS (fun q _ h => hFc q h) hFc (fun r_51 u_50 t H1 locs ht hvm hw hB hz1 hk1 hS => ?_)
    obtain ⟨hP1, hK1, hD1⟩ := hB
    rw [ht] at hP1
    obtain ⟨hP, hD⟩ := va_join (wr := [(mm, .inr (10, [.int 0, .ref pl, .ref ig, .ref sl, .ref kl, .int 0, .int 0, .int 0])), (pl, .inr (1, [.int 0, .ref dz, .int 0])), (kl, .inr (1, [.int 0, .ref dz, .int 0]))]) (w1 := [(sl, .inr (1, [.int 1, .ref q_49, .int 1]))]) hP hD [3] [0, 1, 2] rfl rfl (by decide) (by decide) hk1 hFc hP1 hD1
    generalize H1 = H at hP hS ⊢
    have hP : va_P (dC, dI) vwCl [(mm, .inr (10, [.int 0, .ref pl, .ref ig, .ref sl, .ref kl, .int 0, .int 0, .int 0])), (pl, .inr (1, [.int 0, .ref dz, .int 0])), (kl, .inr (1, [.int 0, .ref dz, .int 0])), (sl, .inr (1, [.int 1, .ref q_49, .int 1]))] H := hP
    have hD : va_D A [(mm, .inr (10, [.int 0, .ref pl, .ref ig, .ref sl, .ref kl, .int 0, .int 0, .int 0])), (pl, .inr (1, [.int 0, .ref dz, .int 0])), (kl, .inr (1, [.int 0, .ref dz, .int 0])), (sl, .inr (1, [.int 1, .ref q_49, .int 1]))] := hD
    refine W.widen (k := 1) (n := 10) (Nat.le_refl _) (Nat.le_refl _) ?_
    have hw : r_51 = 1 := hw
    subst hw
    refine lv_iconst (v := 1) hx hb dX8_district_62 (by decide) ?_
    refine lv_isub hx hb dX8_district_63 ?_
    refine lv_topi (fun y_52 ey_52 => ?_)
    obtain rfl : y_52 = 0 := ey_52.trans (by decide)
    have hP9 := hP.sub (ws' := [(mm, .inr (10, [.int 0, .ref pl, .ref ig, .ref sl, .ref kl, .int 0, .int 0, .int 0]))]) [0] rfl
    have hD9 := hD.sub (ws' := [(mm, .inr (10, [.int 0, .ref pl, .ref ig, .ref sl, .ref kl, .int 0, .int 0, .int 0]))]) [0] (by decide) rfl
    have hK9 := hK.sub (tys' := []) [] rfl
    refine W.widen (k := 1) (n := 10) (Nat.le_of_ble_eq_true rfl) (Nat.le_of_ble_eq_true rfl) ?_
    exact W.iret (v := 0) hx hb hr (fun t ht hW => ⟨⟨0, (), rfl, rfl, po_mk ht hW hP9 hK9 hD9⟩, hS.F ht⟩) hS.2.2 dX8_district_64
  · refine Met.ofW (cc := cX8_district) (maxL := 2) (ret := (some .int)) (by decide) rfl ?_
    intro p e s m args below meth c s₁ B hml hv
    obtain ⟨rfl, ⟨hsz, hP, hK, hD0⟩, hXs⟩ := hv
    have hx := B.exec
    have hb := B.bytes
    have hr := B.returns
    have hts := atoms_spec (ws := wsX8_district) B.pre
    have hown : s.vm.findClass RX8 = some m.cls := findClass_of_methodNamed B.named
    have hlocks := B.notSynchronized
    subst hsz
    have hD := hD0.self (sz := s.heap.size)
    generalize hAe : va_A [(mm, .inr (10, [.int 0, .ref pl, .ref ig, .ref sl, .ref kl, .int 0, .int 0, .int 0])), (pl, .inr (1, [.int 0, .ref dz, .int 0])), (sl, .inr (1, [.int 0, .ref dz, .int 0])), (kl, .inr (1, [.int 0, .ref dz, .int 0]))] s.heap.size = A at hD hXs ⊢
    have hA : ∀ q : Nat, s.heap.size ≤ q → A q := fun q h => by rw [← hAe]; exact Or.inr h
    have hS : va_S A s.heap s.heap [] := va_S.rf
    have hP : va_P (dC, dI) vwCl [(mm, .inr (10, [.int 0, .ref pl, .ref ig, .ref sl, .ref kl, .int 0, .int 0, .int 0])), (pl, .inr (1, [.int 0, .ref dz, .int 0])), (sl, .inr (1, [.int 0, .ref dz, .int 0])), (kl, .inr (1, [.int 0, .ref dz, .int 0]))] s.heap := hP
    have hK : va_K (dC, dI) vwCl [] s := hK
    have hl := lv_entry ([.ref mm, .int 5]) (n := 2) (Nat.le_of_ble_eq_true rfl)
    rw [lg_entry_eq]
    generalize (lg_sl ([.ref mm, .int 5]) ++ List.replicate (2 - (lg_sl ([.ref mm, .int 5])).length) Slot.unset).toArray = ls at hl ⊢
    have hl : lv_has ls 2 [(0, .ref mm), (1, .int 5)] := hl
    refine lv_aload_n hx hb dX8_district_0 rfl (lv_at hl 0 rfl) ?_
    refine lv_iconst (v := 0) hx hb dX8_district_1 (by decide) ?_
    have hinX8 : ∀ w ∈ u_ws RX8 TX8 8, w ∈ wsX8_district := by decide +kernel
    refine va_put (D := (dC, dI)) (ci := 10) (v := .int 0) (ty := .int) (C := RX8) (T := TX8) (N := 8) hx hb hts hinX8 tyX8 tyX8_ok nmX8 hown hK hP hD hS 0 rfl rfl 0 (by decide) (hts (.fieldLink RX8 26 "BallotLoomModel" "thrown" "I") (by decide +kernel)) (fun _ h9 => h9) rfl (by decide +kernel) rfl rfl (Nat.le_of_ble_eq_true rfl) dX8_district_2 (fun H locs hP hD hS => ?_)
    have hP : va_P (dC, dI) vwCl [(mm, .inr (10, [.int 0, .ref pl, .ref ig, .ref sl, .ref kl, .int 0, .int 0, .int 0])), (pl, .inr (1, [.int 0, .ref dz, .int 0])), (sl, .inr (1, [.int 0, .ref dz, .int 0])), (kl, .inr (1, [.int 0, .ref dz, .int 0]))] H := hP
    have hD : va_D A [(mm, .inr (10, [.int 0, .ref pl, .ref ig, .ref sl, .ref kl, .int 0, .int 0, .int 0])), (pl, .inr (1, [.int 0, .ref dz, .int 0])), (sl, .inr (1, [.int 0, .ref dz, .int 0])), (kl, .inr (1, [.int 0, .ref dz, .int 0]))] := hD
    refine lv_iload_n hx hb dX8_district_5 rfl (lv_at hl 1 rfl) ?_
    refine lv_iconst (v := 1) hx hb dX8_district_6 (by decide) ?_
    refine lv_iconst (v := 5) hx hb dX8_district_7 (by decide) ?_
    have hPc := hP.sub (ws' := []) [] rfl
    have hDc := hD.sub (ws' := []) [] (by decide) rfl
    have hKc := hK.sub (tys' := []) [] rfl
    have hFc := va_free (wc := []) hD hS hA [] rfl
    refine va_calli (va_runS (As := [.int 5, .int 1, .int 5]) (rest := []) ⟨hx, hb, hml, hown, hts⟩ (c_X8_in l dC dI (5 : Int32) (1 : Int32) (5 : Int32) _ (by decide) (by decide)) (va_cwS 3 hts gX8_district_X8_in rfl rfl rfl (by decide +kernel) ⟨Nat.le_of_ble_eq_true rfl, Nat.le_of_ble_eq_true rfl⟩) ⟨pr_blind, fun U hU hW => ⟨rfl, pr_mk hU hW hPc hKc hDc⟩⟩ rfl rfl hl.1 rfl (lv_room (Nat.le_of_ble_eq_true rfl)) dX8_district_8 ⟨Nat.le_of_ble_eq_true rfl, Nat.le_of_ble_eq_true rfl⟩) hS (fun q _ h => hFc q h) hFc (fun r_54 u_53 t H1 locs ht hvm hw hB hz1 hk1 hS => ?_)
    obtain ⟨hP1, hK1, hD1⟩ := hB
    rw [ht] at hP1
    obtain ⟨hP, hD⟩ := va_join (wr := [(mm, .inr (10, [.int 0, .ref pl, .ref ig, .ref sl, .ref kl, .int 0, .int 0, .int 0])), (pl, .inr (1, [.int 0, .ref dz, .int 0])), (sl, .inr (1, [.int 0, .ref dz, .int 0])), (kl, .inr (1, [.int 0, .ref dz, .int 0]))]) (w1 := []) hP hD [] [0, 1, 2, 3] rfl rfl (by decide) (by decide) hk1 hFc hP1 hD1
    generalize H1 = H at hP hS ⊢
    have hP : va_P (dC, dI) vwCl [(mm, .inr (10, [.int 0, .ref pl, .ref ig, .ref sl, .ref kl, .int 0, .int 0, .int 0])), (pl, .inr (1, [.int 0, .ref dz, .int 0])), (sl, .inr (1, [.int 0, .ref dz, .int 0])), (kl, .inr (1, [.int 0, .ref dz, .int 0]))] H := hP
    have hD : va_D A [(mm, .inr (10, [.int 0, .ref pl, .ref ig, .ref sl, .ref kl, .int 0, .int 0, .int 0])), (pl, .inr (1, [.int 0, .ref dz, .int 0])), (sl, .inr (1, [.int 0, .ref dz, .int 0])), (kl, .inr (1, [.int 0, .ref dz, .int 0]))] := hD
    refine W.widen (k := 0) (n := 0) (Nat.le_refl _) (Nat.le_refl _) ?_
    have hw : r_54 = 1 := hw
    subst hw
    refine lv_if_ne (tgt := 20) hx hb dX8_district_11 (by decide) (fun _ => ?_) (fun h9 => absurd h9 (by decide))
    refine lv_aload_n hx hb dX8_district_20 rfl (lv_at hl 0 rfl) ?_
    refine va_get (D := (dC, dI)) (ci := 10) (v := .ref sl) (C := RX8) (T := TX8) (N := 8) hx hb hts hinX8 hown hK hP 0 rfl rfl 3 (by decide) (hts (.fieldLink RX8 20 "BallotLoomModel" "seatsOf" "Ljava/util/List;") (by decide +kernel)) (fun _ h9 => h9) rfl dX8_district_21 ?_
    have hPc := hP.sub (ws' := [(sl, .inr (1, [.int 0, .ref dz, .int 0]))]) [2] rfl
    have hDc := hD.sub (ws' := [(sl, .inr (1, [.int 0, .ref dz, .int 0]))]) [2] (by decide) rfl
    have hKc := hK.sub (tys' := []) [] rfl
    have hFc := va_free (wc := [(sl, .inr (1, [.int 0, .ref dz, .int 0]))]) hD hS hA [2] rfl
    refine va_callFi (va_runF (hK.1 1 _ rfl).2 (As := []) (rest := []) ⟨hx, hb, hml, hown, hts⟩ (c_Jx4a65c_size_8abf5 l dC dI sl (0 : Int32) dz (0 : Int32) _ ) (va_cwF 0 hts gX8_district_Jx4a65c_size_8abf5_f30Jx4a65c rfl rfl rfl (mo_of hXs.1) (by decide +kernel) ⟨Nat.le_of_ble_eq_true rfl, Nat.le_of_ble_eq_true rfl⟩) ⟨pr_blind, va_recv hKc hPc (ci := 1) (q0 := 0) rfl rfl, fun U hU hW => ⟨rfl, pr_mk hU hW hPc hKc hDc⟩⟩ rfl rfl hl.1 rfl (lv_room (Nat.le_of_ble_eq_true rfl)) dX8_district_24 ⟨Nat.le_of_ble_eq_true rfl, Nat.le_of_ble_eq_true rfl⟩) hS (fun q _ h => hFc q h) hFc (fun r_56 u_55 t H1 locs ht hvm hw hB hz1 hk1 hS => ?_)
    obtain ⟨hP1, hK1, hD1⟩ := hB
    rw [ht] at hP1
    obtain ⟨hP, hD⟩ := va_join (wr := [(mm, .inr (10, [.int 0, .ref pl, .ref ig, .ref sl, .ref kl, .int 0, .int 0, .int 0])), (pl, .inr (1, [.int 0, .ref dz, .int 0])), (kl, .inr (1, [.int 0, .ref dz, .int 0]))]) (w1 := [(sl, .inr (1, [.int 0, .ref dz, .int 0]))]) hP hD [2] [0, 1, 3] rfl rfl (by decide) (by decide) hk1 hFc hP1 hD1
    generalize H1 = H at hP hS ⊢
    have hP : va_P (dC, dI) vwCl [(mm, .inr (10, [.int 0, .ref pl, .ref ig, .ref sl, .ref kl, .int 0, .int 0, .int 0])), (pl, .inr (1, [.int 0, .ref dz, .int 0])), (kl, .inr (1, [.int 0, .ref dz, .int 0])), (sl, .inr (1, [.int 0, .ref dz, .int 0]))] H := hP
    have hD : va_D A [(mm, .inr (10, [.int 0, .ref pl, .ref ig, .ref sl, .ref kl, .int 0, .int 0, .int 0])), (pl, .inr (1, [.int 0, .ref dz, .int 0])), (kl, .inr (1, [.int 0, .ref dz, .int 0])), (sl, .inr (1, [.int 0, .ref dz, .int 0]))] := hD
    refine W.widen (k := 0) (n := 0) (Nat.le_refl _) (Nat.le_refl _) ?_
    have hw : r_56 = 0 := hw
    subst hw
    refine lv_iconst (v := 4) hx hb dX8_district_29 (by decide) ?_
    refine lv_icmp_ne (tgt := 39) hx hb dX8_district_30 (by decide) (fun _ => ?_) (fun h9 => absurd h9 (by decide))
    refine lv_aload_n hx hb dX8_district_39 rfl (lv_at hl 0 rfl) ?_
    refine va_get (D := (dC, dI)) (ci := 10) (v := .ref sl) (C := RX8) (T := TX8) (N := 8) hx hb hts hinX8 hown hK hP 0 rfl rfl 3 (by decide) (hts (.fieldLink RX8 20 "BallotLoomModel" "seatsOf" "Ljava/util/List;") (by decide +kernel)) (fun _ h9 => h9) rfl dX8_district_40 ?_
    refine lv_iload_n hx hb dX8_district_43 rfl (lv_at hl 1 rfl) ?_
    have hPc := hP.sub (ws' := []) [] rfl
    have hDc := hD.sub (ws' := []) [] (by decide) rfl
    have hKc := hK.sub (tys' := []) [] rfl
    have hFc := va_free (wc := []) hD hS hA [] rfl
    refine va_callr (va_runS (As := [.int 5]) (rest := [.ref sl]) ⟨hx, hb, hml, hown, hts⟩ (c_J6_valueOf_2dffe l dC dI dz dz tc ad (5 : Int32) _ (by decide) (by decide) (by unfold vp_in; decide)) (va_cwS 1 hts gX8_district_J6_valueOf_2dffe rfl rfl rfl (by decide +kernel) ⟨Nat.le_of_ble_eq_true rfl, Nat.le_of_ble_eq_true rfl⟩) ⟨pe_blind ca_bl, fun U hU hW => ⟨rfl, pr_mk hU hW hPc hKc hDc, ca_mk hU hW hS hFc hXs⟩⟩ rfl rfl hl.1 rfl (lv_room (Nat.le_of_ble_eq_true rfl)) dX8_district_44 ⟨Nat.le_of_ble_eq_true rfl, Nat.le_of_ble_eq_true rfl⟩) hS (fun q _ h => hFc q h) hFc (fun u_57 r_58 t H1 locs ht hvm hw hB hz1 hk1 hS => ?_)
    obtain ⟨q_59, rfl⟩ : ∃ z, z = u_57 := ⟨_, rfl⟩
    obtain ⟨rfl, hP1, hK1, hD1⟩ := hB
    have hw9 := hw
    rw [ht] at hP1
    obtain ⟨hP, hD⟩ := va_join (wr := [(mm, .inr (10, [.int 0, .ref pl, .ref ig, .ref sl, .ref kl, .int 0, .int 0, .int 0])), (pl, .inr (1, [.int 0, .ref dz, .int 0])), (kl, .inr (1, [.int 0, .ref dz, .int 0])), (sl, .inr (1, [.int 0, .ref dz, .int 0]))]) (w1 := []) hP hD [] [0, 1, 2, 3] rfl rfl (by decide) (by decide) hk1 hFc hP1 hD1
    generalize H1 = H at hP hS ⊢
    have hP : va_P (dC, dI) vwCl [(mm, .inr (10, [.int 0, .ref pl, .ref ig, .ref sl, .ref kl, .int 0, .int 0, .int 0])), (pl, .inr (1, [.int 0, .ref dz, .int 0])), (kl, .inr (1, [.int 0, .ref dz, .int 0])), (sl, .inr (1, [.int 0, .ref dz, .int 0]))] H := hP
    have hD : va_D A [(mm, .inr (10, [.int 0, .ref pl, .ref ig, .ref sl, .ref kl, .int 0, .int 0, .int 0])), (pl, .inr (1, [.int 0, .ref dz, .int 0])), (kl, .inr (1, [.int 0, .ref dz, .int 0])), (sl, .inr (1, [.int 0, .ref dz, .int 0]))] := hD
    refine W.widen (k := 0) (n := 0) (Nat.le_refl _) (Nat.le_refl _) ?_
    have hPc := hP.sub (ws' := [(sl, .inr (1, [.int 0, .ref dz, .int 0]))]) [3] rfl
    have hDc := hD.sub (ws' := [(sl, .inr (1, [.int 0, .ref dz, .int 0]))]) [3] (by decide) rfl
    have hKc := hK.sub (tys' := []) [] rfl
    have hFc := va_free (wc := [(sl, .inr (1, [.int 0, .ref dz, .int 0]))]) hD hS hA [3] rfl
    refine va_callFi (va_runF (hK.1 1 _ rfl).2 (As := [.ref (ad q_59)]) (rest := []) ⟨hx, hb, hml, hown, hts⟩ (c_Jx4a65c_add_9ea2d l dC dI dz dz tc ad sl (ad q_59) _ (⟨_, hw9, rfl⟩)) (va_cwF 1 hts gX8_district_Jx4a65c_add_9ea2d_f67Jx4a65c rfl rfl rfl (ca_f hXs) (by decide +kernel) ⟨Nat.le_of_ble_eq_true rfl, Nat.le_of_ble_eq_true rfl⟩) ⟨pe_blind ca_bl, va_recv hKc hPc (ci := 1) (q0 := 0) rfl rfl, fun U hU hW => ⟨rfl, pr_mk hU hW hPc hKc hDc, ca_mk hU hW hS hFc hXs⟩⟩ rfl rfl hl.1 rfl (lv_room (Nat.le_of_ble_eq_true rfl)) dX8_district_47 ⟨Nat.le_of_ble_eq_true rfl, Nat.le_of_ble_eq_true rfl⟩) hS (fun q _ h => hFc q h) hFc (fun r_61 u_60 t H1 locs ht hvm hw hB hz1 hk1 hS => ?_)
    obtain ⟨q_62, rfl⟩ : ∃ z, z = u_60 := ⟨_, rfl⟩
    obtain ⟨hP1, hK1, hD1⟩ := hB
    rw [ht] at hP1
    obtain ⟨hP, hD⟩ := va_join (wr := [(mm, .inr (10, [.int 0, .ref pl, .ref ig, .ref sl, .ref kl, .int 0, .int 0, .int 0])), (pl, .inr (1, [.int 0, .ref dz, .int 0])), (kl, .inr (1, [.int 0, .ref dz, .int 0]))]) (w1 := [(sl, .inr (1, [.int 1, .ref q_62, .int 1]))]) hP hD [3] [0, 1, 2] rfl rfl (by decide) (by decide) hk1 hFc hP1 hD1
    generalize H1 = H at hP hS ⊢
    have hP : va_P (dC, dI) vwCl [(mm, .inr (10, [.int 0, .ref pl, .ref ig, .ref sl, .ref kl, .int 0, .int 0, .int 0])), (pl, .inr (1, [.int 0, .ref dz, .int 0])), (kl, .inr (1, [.int 0, .ref dz, .int 0])), (sl, .inr (1, [.int 1, .ref q_62, .int 1]))] H := hP
    have hD : va_D A [(mm, .inr (10, [.int 0, .ref pl, .ref ig, .ref sl, .ref kl, .int 0, .int 0, .int 0])), (pl, .inr (1, [.int 0, .ref dz, .int 0])), (kl, .inr (1, [.int 0, .ref dz, .int 0])), (sl, .inr (1, [.int 1, .ref q_62, .int 1]))] := hD
    refine W.widen (k := 1) (n := 10) (Nat.le_of_ble_eq_true rfl) (Nat.le_of_ble_eq_true rfl) ?_
    have hw : r_61 = 1 := hw
    subst hw
    refine lv_pop hx hb dX8_district_52 rfl ?_
    refine lv_aload_n hx hb dX8_district_53 rfl (lv_at hl 0 rfl) ?_
    refine va_get (D := (dC, dI)) (ci := 10) (v := .ref sl) (C := RX8) (T := TX8) (N := 8) hx hb hts hinX8 hown hK hP 0 rfl rfl 3 (by decide) (hts (.fieldLink RX8 20 "BallotLoomModel" "seatsOf" "Ljava/util/List;") (by decide +kernel)) (fun _ h9 => h9) rfl dX8_district_54 ?_
    have hPc := hP.sub (ws' := [(sl, .inr (1, [.int 1, .ref q_62, .int 1]))]) [3] rfl
    have hDc := hD.sub (ws' := [(sl, .inr (1, [.int 1, .ref q_62, .int 1]))]) [3] (by decide) rfl
    have hKc := hK.sub (tys' := []) [] rfl
    have hFc := va_free (wc := [(sl, .inr (1, [.int 1, .ref q_62, .int 1]))]) hD hS hA [3] rfl
    refine va_callFi (va_runF (hK.1 1 _ rfl).2 (As := []) (rest := []) ⟨hx, hb, hml, hown, hts⟩ (c_Jx4a65c_size_8abf5 l dC dI sl (1 : Int32) q_62 (1 : Int32) _ ) (va_cwF 0 hts gX8_district_Jx4a65c_size_8abf5_f30Jx4a65c rfl rfl rfl (mo_of hXs.1) (by decide +kernel) ⟨Nat.le_of_ble_eq_true rfl, Nat.le_of_ble_eq_true rfl⟩) ⟨pr_blind, va_recv hKc hPc (ci := 1) (q0 := 0) rfl rfl, fun U hU hW => ⟨rfl, pr_mk hU hW hPc hKc hDc⟩⟩ rfl rfl hl.1 rfl (lv_room (Nat.le_of_ble_eq_true rfl)) dX8_district_57 ⟨Nat.le_of_ble_eq_true rfl, Nat.le_of_ble_eq_true rfl⟩) hS (fun q _ h => hFc q h) hFc (fun r_64 u_63 t H1 locs ht hvm hw hB hz1 hk1 hS => ?_)
    obtain ⟨hP1, hK1, hD1⟩ := hB
    rw [ht] at hP1
    obtain ⟨hP, hD⟩ := va_join (wr := [(mm, .inr (10, [.int 0, .ref pl, .ref ig, .ref sl, .ref kl, .int 0, .int 0, .int 0])), (pl, .inr (1, [.int 0, .ref dz, .int 0])), (kl, .inr (1, [.int 0, .ref dz, .int 0]))]) (w1 := [(sl, .inr (1, [.int 1, .ref q_62, .int 1]))]) hP hD [3] [0, 1, 2] rfl rfl (by decide) (by decide) hk1 hFc hP1 hD1
    generalize H1 = H at hP hS ⊢
    have hP : va_P (dC, dI) vwCl [(mm, .inr (10, [.int 0, .ref pl, .ref ig, .ref sl, .ref kl, .int 0, .int 0, .int 0])), (pl, .inr (1, [.int 0, .ref dz, .int 0])), (kl, .inr (1, [.int 0, .ref dz, .int 0])), (sl, .inr (1, [.int 1, .ref q_62, .int 1]))] H := hP
    have hD : va_D A [(mm, .inr (10, [.int 0, .ref pl, .ref ig, .ref sl, .ref kl, .int 0, .int 0, .int 0])), (pl, .inr (1, [.int 0, .ref dz, .int 0])), (kl, .inr (1, [.int 0, .ref dz, .int 0])), (sl, .inr (1, [.int 1, .ref q_62, .int 1]))] := hD
    refine W.widen (k := 1) (n := 10) (Nat.le_refl _) (Nat.le_refl _) ?_
    have hw : r_64 = 1 := hw
    subst hw
    refine lv_iconst (v := 1) hx hb dX8_district_62 (by decide) ?_
    refine lv_isub hx hb dX8_district_63 ?_
    refine lv_topi (fun y_65 ey_65 => ?_)
    obtain rfl : y_65 = 0 := ey_65.trans (by decide)
    have hP9 := hP.sub (ws' := [(mm, .inr (10, [.int 0, .ref pl, .ref ig, .ref sl, .ref kl, .int 0, .int 0, .int 0]))]) [0] rfl
    have hD9 := hD.sub (ws' := [(mm, .inr (10, [.int 0, .ref pl, .ref ig, .ref sl, .ref kl, .int 0, .int 0, .int 0]))]) [0] (by decide) rfl
    have hK9 := hK.sub (tys' := []) [] rfl
    refine W.widen (k := 1) (n := 10) (Nat.le_of_ble_eq_true rfl) (Nat.le_of_ble_eq_true rfl) ?_
    exact W.iret (v := 0) hx hb hr (fun t ht hW => ⟨⟨0, (), rfl, rfl, po_mk ht hW hP9 hK9 hD9⟩, hS.F ht⟩) hS.2.2 dX8_district_64
