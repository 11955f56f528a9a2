/-! p1: nothing said of a heap. -/
theorem va_Pn {D : va_G} {cl : List vw_C} (H : Heap) : va_P D cl [] H := fun _ _ h => by simp at h
theorem va_Dn (A : Nat → Prop) : va_D A [] := ⟨fun _ _ _ _ h => by simp at h, fun _ _ h => by simp at h⟩
theorem pn_blind {dC : Nat → ClassId} {dI : Nat → Nat → Nat} {ws : va_W} {tys : List (ClassId × FieldType)} {sz : Nat} {av : List Value} {A : Nat → Prop} {is sa : Nat} {tx E : String} {NC : State → Prop} (hN : ∀ (U : State) (g : JFrame) (mk : MethodId) (a : Array Value), NC U → NC (U.calling g mk a)) : FrameBlind (va_Pc av (fun U => pr_ dC dI ws tys sz U ∧ xs_ A is tx sa E U ∧ NC U)) := fun a U g mk q => by
  obtain ⟨q0, q1, q2, q3⟩ := q
  have h := px_blind (dC := dC) (dI := dI) (ws := ws) (tys := tys) (sz := sz) (av := av) (A := A) (is := is) (sa := sa) (tx := tx) (E := E) a U g mk ⟨q0, q1, q2⟩
  exact ⟨h.1, h.2.1, h.2.2, hN U g mk a q3⟩
theorem nc_bl {E T : String} (U : State) (g : JFrame) (mk : MethodId) (a : Array Value) (h : va_Nc E T U) : va_Nc E T (U.calling g mk a) := va_Nc.moved (u := U) (U := U.calling g mk a) (Vm.Alike.refl U.vm) h
set_option maxHeartbeats 4000000 in
set_option maxRecDepth 100000 in
theorem h_L_candidate (l : Launch) (dC : Nat → ClassId) (dI : Nat → Nat → Nat) (x : Nat) (po : Nat) (tr : Nat) (sp : Nat) (bx : Nat) (b0 : Nat) (b1 : Nat) (b4 : Nat) (b6 : Nat) (pa : Nat) (cI : ClassId) (cZ : ClassId) (a0 : Int32) (ou : Nat) (cJ : ClassId) (sz : Nat) (g0a : ¬ a0 < 0) (g0b : ¬ 4 ≤ a0) : Met l yL_candidate wsL_candidate ({ frames := 7, cells := 0, slots := 0, locals := 191 }) (va_Pc [.ref x, .int a0, .ref ou] (pr_ dC dI [(x, .inr (7, [.ref bx, .ref po, .ref tr, .ref pa, .ref sp])), (bx, .inr (2, [.ref b0, .ref b1, .int 0, .int 0, .ref b4, .int 0, .ref b6, .int 0, .int 0, .int 0, .int 0])), (b0, .inl (cI, 6, .inl zi)), (b1, .inl (cZ, 6, .inl zi)), (ou, .inl (cJ, 1, .inr (.inl zl)))] [(cI, .int), (cZ, .boolean), (cJ, .long)] sz)) (va_Qi (fun (r : Int32) (_ : Unit) => r = 0) (fun (_ : Unit) t => po_ dC dI [(ou, .inl (cJ, 1, .inr (.inl zl)))] [(cI, .int), (cZ, .boolean), (cJ, .long)] (va_A [(x, .inr (7, [.ref bx, .ref po, .ref tr, .ref pa, .ref sp])), (bx, .inr (2, [.ref b0, .ref b1, .int 0, .int 0, .ref b4, .int 0, .ref b6, .int 0, .int 0, .int 0, .int 0])), (b0, .inl (cI, 6, .inl zi)), (b1, .inl (cZ, 6, .inl zi)), (ou, .inl (cJ, 1, .inr (.inl zl)))] sz) t) (va_A [(x, .inr (7, [.ref bx, .ref po, .ref tr, .ref pa, .ref sp])), (bx, .inr (2, [.ref b0, .ref b1, .int 0, .int 0, .ref b4, .int 0, .ref b6, .int 0, .int 0, .int 0, .int 0])), (b0, .inl (cI, 6, .inl zi)), (b1, .inl (cZ, 6, .inl zi)), (ou, .inl (cJ, 1, .inr (.inl zl)))] sz)) 0 0 (va_A [(x, .inr (7, [.ref bx, .ref po, .ref tr, .ref pa, .ref sp])), (bx, .inr (2, [.ref b0, .ref b1, .int 0, .int 0, .ref b4, .int 0, .ref b6, .int 0, .int 0, .int 0, .int 0])), (b0, .inl (cI, 6, .inl zi)), (b1, .inl (cZ, 6, .inl zi)), (ou, .inl (cJ, 1, .inr (.inl zl)))] sz) := by
  refine va_MetW (cc := cL_candidate) (maxL := 4) (ret := (some .int)) (by decide) rfl ?_
  intro p e s m args below meth c s₁ B hml hv
  obtain ⟨rfl, hsz, hP, hK, hD0⟩ := hv
  have hx := B.exec
  have hb := B.bytes
  have hr := B.returns
  have hts := atoms_spec (ws := wsL_candidate) B.pre
  have hown : s.vm.findClass RL = some m.cls := findClass_of_methodNamed B.named
  have hlocks := B.notSynchronized
  subst hsz
  have hD := hD0.self (sz := s.heap.size)
  generalize hAe : va_A [(x, .inr (7, [.ref bx, .ref po, .ref tr, .ref pa, .ref sp])), (bx, .inr (2, [.ref b0, .ref b1, .int 0, .int 0, .ref b4, .int 0, .ref b6, .int 0, .int 0, .int 0, .int 0])), (b0, .inl (cI, 6, .inl zi)), (b1, .inl (cZ, 6, .inl zi)), (ou, .inl (cJ, 1, .inr (.inl zl)))] s.heap.size = A at hD ⊢
  have hA : ∀ q : Nat, s.heap.size ≤ q → A q := fun q h => by rw [← hAe]; exact Or.inr h
  have hS : va_S A s.heap s.heap [] := va_S.rf
  have hP : va_P (dC, dI) vwCl [(x, .inr (7, [.ref bx, .ref po, .ref tr, .ref pa, .ref sp])), (bx, .inr (2, [.ref b0, .ref b1, .int 0, .int 0, .ref b4, .int 0, .ref b6, .int 0, .int 0, .int 0, .int 0])), (b0, .inl (cI, 6, .inl zi)), (b1, .inl (cZ, 6, .inl zi)), (ou, .inl (cJ, 1, .inr (.inl zl)))] s.heap := hP
  have hK : va_K (dC, dI) vwCl [(cI, .int), (cZ, .boolean), (cJ, .long)] s := hK
  have hl := lv_entry ([.ref x, .int a0, .ref ou]) (n := 4) (Nat.le_of_ble_eq_true rfl)
  rw [lg_entry_eq]
  generalize (lg_sl ([.ref x, .int a0, .ref ou]) ++ List.replicate (4 - (lg_sl ([.ref x, .int a0, .ref ou])).length) Slot.unset).toArray = ls at hl ⊢
  have hl : lv_has ls 4 [(0, .ref x), (1, .int a0), (2, .ref ou)] := hl
  refine lv_aload_n hx hb dL_candidate_0 rfl (lv_at hl 2 rfl) ?_
  refine lv_iconst (v := 0) hx hb dL_candidate_1 (by decide) ?_
  refine lv_aload_n hx hb dL_candidate_2 rfl (lv_at hl 0 rfl) ?_
  refine lv_iload_n hx hb dL_candidate_3 rfl (lv_at hl 1 rfl) ?_
  have hPc := hP.sub (ws' := [(x, .inr (7, [.ref bx, .ref po, .ref tr, .ref pa, .ref sp])), (bx, .inr (2, [.ref b0, .ref b1, .int 0, .int 0, .ref b4, .int 0, .ref b6, .int 0, .int 0, .int 0, .int 0])), (b0, .inl (cI, 6, .inl zi)), (b1, .inl (cZ, 6, .inl zi))]) [0, 1, 2, 3] rfl
  have hDc := hD.sub (ws' := [(x, .inr (7, [.ref bx, .ref po, .ref tr, .ref pa, .ref sp])), (bx, .inr (2, [.ref b0, .ref b1, .int 0, .int 0, .ref b4, .int 0, .ref b6, .int 0, .int 0, .int 0, .int 0])), (b0, .inl (cI, 6, .inl zi)), (b1, .inl (cZ, 6, .inl zi))]) [0, 1, 2, 3] (by decide) rfl
  have hKc := hK.sub (tys' := [(cI, .int), (cZ, .boolean)]) [0, 1] rfl
  have hFc := va_free (wc := [(x, .inr (7, [.ref bx, .ref po, .ref tr, .ref pa, .ref sp])), (bx, .inr (2, [.ref b0, .ref b1, .int 0, .int 0, .ref b4, .int 0, .ref b6, .int 0, .int 0, .int 0, .int 0])), (b0, .inl (cI, 6, .inl zi)), (b1, .inl (cZ, 6, .inl zi))]) hD hS hA [0, 1, 2, 3] rfl
  refine va_calli (va_runV (As := [.int a0]) (rest := [.int 0, .ref ou]) ⟨hx, hb, hml, hown, hts⟩ (c_X5_candidate l dC dI x po tr sp pa bx b0 b1 b4 b6 cI cZ a0 _ g0a g0b) (cwV 1 hts gL_candidate_X5_candidate rfl rfl rfl (by decide +kernel) ⟨Nat.le_of_ble_eq_true rfl, Nat.le_of_ble_eq_true rfl⟩) ⟨pr_blind, va_recv hKc hPc (ci := 7) (q0 := 0) rfl rfl, fun U hU hW => ⟨rfl, pr_mk hU hW hPc hKc hDc⟩⟩ rfl rfl hl.1 rfl (lv_room (Nat.le_of_ble_eq_true rfl)) dL_candidate_4 ⟨Nat.le_of_ble_eq_true rfl, Nat.le_of_ble_eq_true rfl⟩) hS (fun q _ h => hFc q h) hFc (fun r_2 u_1 t H1 locs ht hvm hw hB hz1 hk1 hS => ?_)
  obtain ⟨hP1, hK1, hD1⟩ := hB
  rw [ht] at hP1
  obtain ⟨hP, hD⟩ := va_join (wr := [(ou, .inl (cJ, 1, .inr (.inl zl)))]) (w1 := []) hP hD [0, 1, 2, 3] [4] rfl rfl (by decide) (by decide) hk1 hFc hP1 hD1
  generalize H1 = H at hP hS ⊢
  have hP : va_P (dC, dI) vwCl [(ou, .inl (cJ, 1, .inr (.inl zl)))] H := hP
  have hD : va_D A [(ou, .inl (cJ, 1, .inr (.inl zl)))] := hD
  refine W.widen (k := 0) (n := 0) (Nat.le_refl _) (Nat.le_refl _) ?_
  have hw : r_2 = 0 := hw
  subst hw
  refine lv_i2l (v := 0) hx hb dL_candidate_7 (by decide) ?_
  refine va_last hx hb hK hP hD hS 0 2 rfl rfl (by unfold vp_in; decide) dL_candidate_8 (fun H locs hP hD hS => ?_)
  have hP : va_P (dC, dI) vwCl [(ou, .inl (cJ, 1, .inr (.inl zl)))] H := by have h9 := hP; rw [upd_zl] at h9; exact h9
  have hD : va_D A [(ou, .inl (cJ, 1, .inr (.inl zl)))] := by have h9 := hD; rw [upd_zl] at h9; exact h9
  refine lv_goto (tgt := 18) hx hb dL_candidate_9 (by decide) ?_
  refine lv_iconst (v := 0) hx hb dL_candidate_18 (by decide) ?_
  have hP9 := hP.sub (ws' := [(ou, .inl (cJ, 1, .inr (.inl zl)))]) [0] rfl
  have hD9 := hD.sub (ws' := [(ou, .inl (cJ, 1, .inr (.inl zl)))]) [0] (by decide) rfl
  have hK9 := hK.sub (tys' := [(cI, .int), (cZ, .boolean), (cJ, .long)]) [0, 1, 2] rfl
  refine W.widen (k := 0) (n := 0) (Nat.le_of_ble_eq_true rfl) (Nat.le_of_ble_eq_true rfl) ?_
  exact W.iret (v := 0) hx hb hr (fun t ht hW => ⟨⟨0, (), rfl, rfl, po_mk ht hW hP9 hK9 hD9⟩, hS.F ht⟩) hS.2.2 dL_candidate_19

set_option maxHeartbeats 4000000 in
set_option maxRecDepth 100000 in
theorem h_L_district (l : Launch) (dC : Nat → ClassId) (dI : Nat → Nat → Nat) (x : Nat) (po : Nat) (tr : Nat) (sp : Nat) (bx : Nat) (b0 : Nat) (b1 : Nat) (b4 : Nat) (b6 : Nat) (pa : Nat) (cI : ClassId) (a0 : Int32) (ou : Nat) (cJ : ClassId) (sz : Nat) (g0a : ¬ a0 < 1) (g0b : a0 ≤ 5) : Met l yL_district wsL_district ({ frames := 7, cells := 0, slots := 0, locals := 191 }) (va_Pc [.ref x, .int a0, .ref ou] (pr_ dC dI [(x, .inr (7, [.ref bx, .ref po, .ref tr, .ref pa, .ref sp])), (bx, .inr (2, [.ref b0, .ref b1, .int 0, .int 0, .ref b4, .int 0, .ref b6, .int 0, .int 0, .int 0, .int 0])), (b4, .inl (cI, 4, .inl zi)), (ou, .inl (cJ, 1, .inr (.inl zl)))] [(cI, .int), (cJ, .long)] sz)) (va_Qi (fun (r : Int32) (_ : Unit) => r = 0) (fun (_ : Unit) t => po_ dC dI [(ou, .inl (cJ, 1, .inr (.inl zl)))] [(cI, .int), (cJ, .long)] (va_A [(x, .inr (7, [.ref bx, .ref po, .ref tr, .ref pa, .ref sp])), (bx, .inr (2, [.ref b0, .ref b1, .int 0, .int 0, .ref b4, .int 0, .ref b6, .int 0, .int 0, .int 0, .int 0])), (b4, .inl (cI, 4, .inl zi)), (ou, .inl (cJ, 1, .inr (.inl zl)))] sz) t) (va_A [(x, .inr (7, [.ref bx, .ref po, .ref tr, .ref pa, .ref sp])), (bx, .inr (2, [.ref b0, .ref b1, .int 0, .int 0, .ref b4, .int 0, .ref b6, .int 0, .int 0, .int 0, .int 0])), (b4, .inl (cI, 4, .inl zi)), (ou, .inl (cJ, 1, .inr (.inl zl)))] sz)) 0 0 (va_A [(x, .inr (7, [.ref bx, .ref po, .ref tr, .ref pa, .ref sp])), (bx, .inr (2, [.ref b0, .ref b1, .int 0, .int 0, .ref b4, .int 0, .ref b6, .int 0, .int 0, .int 0, .int 0])), (b4, .inl (cI, 4, .inl zi)), (ou, .inl (cJ, 1, .inr (.inl zl)))] sz) := by
  refine va_MetW (cc := cL_district) (maxL := 4) (ret := (some .int)) (by decide) rfl ?_
  intro p e s m args below meth c s₁ B hml hv
  obtain ⟨rfl, hsz, hP, hK, hD0⟩ := hv
  have hx := B.exec
  have hb := B.bytes
  have hr := B.returns
  have hts := atoms_spec (ws := wsL_district) B.pre
  have hown : s.vm.findClass RL = some m.cls := findClass_of_methodNamed B.named
  have hlocks := B.notSynchronized
  subst hsz
  have hD := hD0.self (sz := s.heap.size)
  generalize hAe : va_A [(x, .inr (7, [.ref bx, .ref po, .ref tr, .ref pa, .ref sp])), (bx, .inr (2, [.ref b0, .ref b1, .int 0, .int 0, .ref b4, .int 0, .ref b6, .int 0, .int 0, .int 0, .int 0])), (b4, .inl (cI, 4, .inl zi)), (ou, .inl (cJ, 1, .inr (.inl zl)))] s.heap.size = A at hD ⊢
  have hA : ∀ q : Nat, s.heap.size ≤ q → A q := fun q h => by rw [← hAe]; exact Or.inr h
  have hS : va_S A s.heap s.heap [] := va_S.rf
  have hP : va_P (dC, dI) vwCl [(x, .inr (7, [.ref bx, .ref po, .ref tr, .ref pa, .ref sp])), (bx, .inr (2, [.ref b0, .ref b1, .int 0, .int 0, .ref b4, .int 0, .ref b6, .int 0, .int 0, .int 0, .int 0])), (b4, .inl (cI, 4, .inl zi)), (ou, .inl (cJ, 1, .inr (.inl zl)))] s.heap := hP
  have hK : va_K (dC, dI) vwCl [(cI, .int), (cJ, .long)] s := hK
  have hl := lv_entry ([.ref x, .int a0, .ref ou]) (n := 4) (Nat.le_of_ble_eq_true rfl)
  rw [lg_entry_eq]
  generalize (lg_sl ([.ref x, .int a0, .ref ou]) ++ List.replicate (4 - (lg_sl ([.ref x, .int a0, .ref ou])).length) Slot.unset).toArray = ls at hl ⊢
  have hl : lv_has ls 4 [(0, .ref x), (1, .int a0), (2, .ref ou)] := hl
  refine lv_aload_n hx hb dL_district_0 rfl (lv_at hl 2 rfl) ?_
  refine lv_iconst (v := 0) hx hb dL_district_1 (by decide) ?_
  refine lv_aload_n hx hb dL_district_2 rfl (lv_at hl 0 rfl) ?_
  refine lv_iload_n hx hb dL_district_3 rfl (lv_at hl 1 rfl) ?_
  have hPc := hP.sub (ws' := [(x, .inr (7, [.ref bx, .ref po, .ref tr, .ref pa, .ref sp])), (bx, .inr (2, [.ref b0, .ref b1, .int 0, .int 0, .ref b4, .int 0, .ref b6, .int 0, .int 0, .int 0, .int 0])), (b4, .inl (cI, 4, .inl zi))]) [0, 1, 2] rfl
  have hDc := hD.sub (ws' := [(x, .inr (7, [.ref bx, .ref po, .ref tr, .ref pa, .ref sp])), (bx, .inr (2, [.ref b0, .ref b1, .int 0, .int 0, .ref b4, .int 0, .ref b6, .int 0, .int 0, .int 0, .int 0])), (b4, .inl (cI, 4, .inl zi))]) [0, 1, 2] (by decide) rfl
  have hKc := hK.sub (tys' := [(cI, .int)]) [0] rfl
  have hFc := va_free (wc := [(x, .inr (7, [.ref bx, .ref po, .ref tr, .ref pa, .ref sp])), (bx, .inr (2, [.ref b0, .ref b1, .int 0, .int 0, .ref b4, .int 0, .ref b6, .int 0, .int 0, .int 0, .int 0])), (b4, .inl (cI, 4, .inl zi))]) hD hS hA [0, 1, 2] rfl
  refine va_calli (va_runV (As := [.int a0]) (rest := [.int 0, .ref ou]) ⟨hx, hb, hml, hown, hts⟩ (c_X5_district l dC dI x po tr sp pa bx b0 b1 b4 b6 cI a0 _ g0a g0b) (cwV 1 hts gL_district_X5_district rfl rfl rfl (by decide +kernel) ⟨Nat.le_of_ble_eq_true rfl, Nat.le_of_ble_eq_true rfl⟩) ⟨pr_blind, va_recv hKc hPc (ci := 7) (q0 := 0) rfl rfl, fun U hU hW => ⟨rfl, pr_mk hU hW hPc hKc hDc⟩⟩ rfl rfl hl.1 rfl (lv_room (Nat.le_of_ble_eq_true rfl)) dL_district_4 ⟨Nat.le_of_ble_eq_true rfl, Nat.le_of_ble_eq_true rfl⟩) hS (fun q _ h => hFc q h) hFc (fun r_2 u_1 t H1 locs ht hvm hw hB hz1 hk1 hS => ?_)
  obtain ⟨hP1, hK1, hD1⟩ := hB
  rw [ht] at hP1
  obtain ⟨hP, hD⟩ := va_join (wr := [(ou, .inl (cJ, 1, .inr (.inl zl)))]) (w1 := []) hP hD [0, 1, 2] [3] rfl rfl (by decide) (by decide) hk1 hFc hP1 hD1
  generalize H1 = H at hP hS ⊢
  have hP : va_P (dC, dI) vwCl [(ou, .inl (cJ, 1, .inr (.inl zl)))] H := hP
  have hD : va_D A [(ou, .inl (cJ, 1, .inr (.inl zl)))] := hD
  refine W.widen (k := 0) (n := 0) (Nat.le_refl _) (Nat.le_refl _) ?_
  have hw : r_2 = 0 := hw
  subst hw
  refine lv_i2l (v := 0) hx hb dL_district_7 (by decide) ?_
  refine va_last hx hb hK hP hD hS 0 1 rfl rfl (by unfold vp_in; decide) dL_district_8 (fun H locs hP hD hS => ?_)
  have hP : va_P (dC, dI) vwCl [(ou, .inl (cJ, 1, .inr (.inl zl)))] H := by have h9 := hP; rw [upd_zl] at h9; exact h9
  have hD : va_D A [(ou, .inl (cJ, 1, .inr (.inl zl)))] := by have h9 := hD; rw [upd_zl] at h9; exact h9
  refine lv_goto (tgt := 18) hx hb dL_district_9 (by decide) ?_
  refine lv_iconst (v := 0) hx hb dL_district_18 (by decide) ?_
  have hP9 := hP.sub (ws' := [(ou, .inl (cJ, 1, .inr (.inl zl)))]) [0] rfl
  have hD9 := hD.sub (ws' := [(ou, .inl (cJ, 1, .inr (.inl zl)))]) [0] (by decide) rfl
  have hK9 := hK.sub (tys' := [(cI, .int), (cJ, .long)]) [0, 1] rfl
  refine W.widen (k := 0) (n := 0) (Nat.le_of_ble_eq_true rfl) (Nat.le_of_ble_eq_true rfl) ?_
  exact W.iret (v := 0) hx hb hr (fun t ht hW => ⟨⟨0, (), rfl, rfl, po_mk ht hW hP9 hK9 hD9⟩, hS.F ht⟩) hS.2.2 dL_district_19

set_option maxHeartbeats 4000000 in
set_option maxRecDepth 100000 in
theorem h_L_threshold (l : Launch) (dC : Nat → ClassId) (dI : Nat → Nat → Nat) (x : Nat) (po : Nat) (tr : Nat) (sp : Nat) (bx : Nat) (b0 : Nat) (b1 : Nat) (b4 : Nat) (b6 : Nat) (pa : Nat) (p_v : Nat) (p_st : Nat) (p_ib : Nat) (p_di : Nat) (p_wa : Nat) (p_se : Nat) (p_vh : Nat) (p_re : Nat) (cI : ClassId) (cZ : ClassId) (a0 : Int32) (ou : Nat) (cJ : ClassId) (sz : Nat) (g0a : ¬ a0 < 0) (g0b : a0 ≤ 20) : Met l yL_threshold wsL_threshold ({ frames := 7, cells := 0, slots := 0, locals := 191 }) (va_Pc [.ref x, .int a0, .ref ou] (pr_ dC dI [(x, .inr (7, [.ref bx, .ref po, .ref tr, .ref pa, .ref sp])), (bx, .inr (2, [.ref b0, .ref b1, .int 0, .int 0, .ref b4, .int 0, .ref b6, .int 0, .int 0, .int 0, .int 0])), (pa, .inr (3, [.ref p_v, .int 0, .ref p_st, .ref p_ib, .ref p_di, .ref p_wa, .ref p_se, .ref p_vh, .ref p_re])), (p_v, .inl (cI, 4, .inl zi)), (p_st, .inl (cI, 4, .inl zi)), (p_ib, .inl (cZ, 4, .inl zi)), (p_di, .inl (cI, 4, .inl zi)), (p_wa, .inl (cI, 4, .inl zi)), (p_se, .inl (cI, 4, .inl zi)), (ou, .inl (cJ, 1, .inr (.inl zl)))] [(cI, .int), (cZ, .boolean), (cJ, .long)] sz)) (va_Qi (fun (r : Int32) (_ : Unit) => r = 0) (fun (_ : Unit) t => po_ dC dI [(ou, .inl (cJ, 1, .inr (.inl zl)))] [(cI, .int), (cZ, .boolean), (cJ, .long)] (va_A [(x, .inr (7, [.ref bx, .ref po, .ref tr, .ref pa, .ref sp])), (bx, .inr (2, [.ref b0, .ref b1, .int 0, .int 0, .ref b4, .int 0, .ref b6, .int 0, .int 0, .int 0, .int 0])), (pa, .inr (3, [.ref p_v, .int 0, .ref p_st, .ref p_ib, .ref p_di, .ref p_wa, .ref p_se, .ref p_vh, .ref p_re])), (p_v, .inl (cI, 4, .inl zi)), (p_st, .inl (cI, 4, .inl zi)), (p_ib, .inl (cZ, 4, .inl zi)), (p_di, .inl (cI, 4, .inl zi)), (p_wa, .inl (cI, 4, .inl zi)), (p_se, .inl (cI, 4, .inl zi)), (ou, .inl (cJ, 1, .inr (.inl zl)))] sz) t) (va_A [(x, .inr (7, [.ref bx, .ref po, .ref tr, .ref pa, .ref sp])), (bx, .inr (2, [.ref b0, .ref b1, .int 0, .int 0, .ref b4, .int 0, .ref b6, .int 0, .int 0, .int 0, .int 0])), (pa, .inr (3, [.ref p_v, .int 0, .ref p_st, .ref p_ib, .ref p_di, .ref p_wa, .ref p_se, .ref p_vh, .ref p_re])), (p_v, .inl (cI, 4, .inl zi)), (p_st, .inl (cI, 4, .inl zi)), (p_ib, .inl (cZ, 4, .inl zi)), (p_di, .inl (cI, 4, .inl zi)), (p_wa, .inl (cI, 4, .inl zi)), (p_se, .inl (cI, 4, .inl zi)), (ou, .inl (cJ, 1, .inr (.inl zl)))] sz)) 0 0 (va_A [(x, .inr (7, [.ref bx, .ref po, .ref tr, .ref pa, .ref sp])), (bx, .inr (2, [.ref b0, .ref b1, .int 0, .int 0, .ref b4, .int 0, .ref b6, .int 0, .int 0, .int 0, .int 0])), (pa, .inr (3, [.ref p_v, .int 0, .ref p_st, .ref p_ib, .ref p_di, .ref p_wa, .ref p_se, .ref p_vh, .ref p_re])), (p_v, .inl (cI, 4, .inl zi)), (p_st, .inl (cI, 4, .inl zi)), (p_ib, .inl (cZ, 4, .inl zi)), (p_di, .inl (cI, 4, .inl zi)), (p_wa, .inl (cI, 4, .inl zi)), (p_se, .inl (cI, 4, .inl zi)), (ou, .inl (cJ, 1, .inr (.inl zl)))] sz) := by
  refine va_MetW (cc := cL_threshold) (maxL := 4) (ret := (some .int)) (by decide) rfl ?_
  intro p e s m args below meth c s₁ B hml hv
  obtain ⟨rfl, hsz, hP, hK, hD0⟩ := hv
  have hx := B.exec
  have hb := B.bytes
  have hr := B.returns
  have hts := atoms_spec (ws := wsL_threshold) B.pre
  have hown : s.vm.findClass RL = some m.cls := findClass_of_methodNamed B.named
  have hlocks := B.notSynchronized
  subst hsz
  have hD := hD0.self (sz := s.heap.size)
  generalize hAe : va_A [(x, .inr (7, [.ref bx, .ref po, .ref tr, .ref pa, .ref sp])), (bx, .inr (2, [.ref b0, .ref b1, .int 0, .int 0, .ref b4, .int 0, .ref b6, .int 0, .int 0, .int 0, .int 0])), (pa, .inr (3, [.ref p_v, .int 0, .ref p_st, .ref p_ib, .ref p_di, .ref p_wa, .ref p_se, .ref p_vh, .ref p_re])), (p_v, .inl (cI, 4, .inl zi)), (p_st, .inl (cI, 4, .inl zi)), (p_ib, .inl (cZ, 4, .inl zi)), (p_di, .inl (cI, 4, .inl zi)), (p_wa, .inl (cI, 4, .inl zi)), (p_se, .inl (cI, 4, .inl zi)), (ou, .inl (cJ, 1, .inr (.inl zl)))] s.heap.size = A at hD ⊢
  have hA : ∀ q : Nat, s.heap.size ≤ q → A q := fun q h => by rw [← hAe]; exact Or.inr h
  have hS : va_S A s.heap s.heap [] := va_S.rf
  have hP : va_P (dC, dI) vwCl [(x, .inr (7, [.ref bx, .ref po, .ref tr, .ref pa, .ref sp])), (bx, .inr (2, [.ref b0, .ref b1, .int 0, .int 0, .ref b4, .int 0, .ref b6, .int 0, .int 0, .int 0, .int 0])), (pa, .inr (3, [.ref p_v, .int 0, .ref p_st, .ref p_ib, .ref p_di, .ref p_wa, .ref p_se, .ref p_vh, .ref p_re])), (p_v, .inl (cI, 4, .inl zi)), (p_st, .inl (cI, 4, .inl zi)), (p_ib, .inl (cZ, 4, .inl zi)), (p_di, .inl (cI, 4, .inl zi)), (p_wa, .inl (cI, 4, .inl zi)), (p_se, .inl (cI, 4, .inl zi)), (ou, .inl (cJ, 1, .inr (.inl zl)))] s.heap := hP
  have hK : va_K (dC, dI) vwCl [(cI, .int), (cZ, .boolean), (cJ, .long)] s := hK
  have hl := lv_entry ([.ref x, .int a0, .ref ou]) (n := 4) (Nat.le_of_ble_eq_true rfl)
  rw [lg_entry_eq]
  generalize (lg_sl ([.ref x, .int a0, .ref ou]) ++ List.replicate (4 - (lg_sl ([.ref x, .int a0, .ref ou])).length) Slot.unset).toArray = ls at hl ⊢
  have hl : lv_has ls 4 [(0, .ref x), (1, .int a0), (2, .ref ou)] := hl
  refine lv_aload_n hx hb dL_threshold_0 rfl (lv_at hl 2 rfl) ?_
  refine lv_iconst (v := 0) hx hb dL_threshold_1 (by decide) ?_
  refine lv_aload_n hx hb dL_threshold_2 rfl (lv_at hl 0 rfl) ?_
  refine lv_iload_n hx hb dL_threshold_3 rfl (lv_at hl 1 rfl) ?_
  have hPc := hP.sub (ws' := [(x, .inr (7, [.ref bx, .ref po, .ref tr, .ref pa, .ref sp])), (bx, .inr (2, [.ref b0, .ref b1, .int 0, .int 0, .ref b4, .int 0, .ref b6, .int 0, .int 0, .int 0, .int 0])), (pa, .inr (3, [.ref p_v, .int 0, .ref p_st, .ref p_ib, .ref p_di, .ref p_wa, .ref p_se, .ref p_vh, .ref p_re])), (p_v, .inl (cI, 4, .inl zi)), (p_st, .inl (cI, 4, .inl zi)), (p_ib, .inl (cZ, 4, .inl zi)), (p_di, .inl (cI, 4, .inl zi)), (p_wa, .inl (cI, 4, .inl zi)), (p_se, .inl (cI, 4, .inl zi))]) [0, 1, 2, 3, 4, 5, 6, 7, 8] rfl
  have hDc := hD.sub (ws' := [(x, .inr (7, [.ref bx, .ref po, .ref tr, .ref pa, .ref sp])), (bx, .inr (2, [.ref b0, .ref b1, .int 0, .int 0, .ref b4, .int 0, .ref b6, .int 0, .int 0, .int 0, .int 0])), (pa, .inr (3, [.ref p_v, .int 0, .ref p_st, .ref p_ib, .ref p_di, .ref p_wa, .ref p_se, .ref p_vh, .ref p_re])), (p_v, .inl (cI, 4, .inl zi)), (p_st, .inl (cI, 4, .inl zi)), (p_ib, .inl (cZ, 4, .inl zi)), (p_di, .inl (cI, 4, .inl zi)), (p_wa, .inl (cI, 4, .inl zi)), (p_se, .inl (cI, 4, .inl zi))]) [0, 1, 2, 3, 4, 5, 6, 7, 8] (by decide) rfl
  have hKc := hK.sub (tys' := [(cI, .int), (cZ, .boolean)]) [0, 1] rfl
  have hFc := va_free (wc := [(x, .inr (7, [.ref bx, .ref po, .ref tr, .ref pa, .ref sp])), (bx, .inr (2, [.ref b0, .ref b1, .int 0, .int 0, .ref b4, .int 0, .ref b6, .int 0, .int 0, .int 0, .int 0])), (pa, .inr (3, [.ref p_v, .int 0, .ref p_st, .ref p_ib, .ref p_di, .ref p_wa, .ref p_se, .ref p_vh, .ref p_re])), (p_v, .inl (cI, 4, .inl zi)), (p_st, .inl (cI, 4, .inl zi)), (p_ib, .inl (cZ, 4, .inl zi)), (p_di, .inl (cI, 4, .inl zi)), (p_wa, .inl (cI, 4, .inl zi)), (p_se, .inl (cI, 4, .inl zi))]) hD hS hA [0, 1, 2, 3, 4, 5, 6, 7, 8] rfl
  refine va_calli (va_runV (As := [.int a0]) (rest := [.int 0, .ref ou]) ⟨hx, hb, hml, hown, hts⟩ (c_X5_threshold l dC dI x po tr sp bx b0 b1 b4 b6 pa p_v p_st p_ib p_di p_wa p_se p_vh p_re cI cZ a0 _ g0a g0b) (cwV 1 hts gL_threshold_X5_threshold rfl rfl rfl (by decide +kernel) ⟨Nat.le_of_ble_eq_true rfl, Nat.le_of_ble_eq_true rfl⟩) ⟨pr_blind, va_recv hKc hPc (ci := 7) (q0 := 0) rfl rfl, fun U hU hW => ⟨rfl, pr_mk hU hW hPc hKc hDc⟩⟩ rfl rfl hl.1 rfl (lv_room (Nat.le_of_ble_eq_true rfl)) dL_threshold_4 ⟨Nat.le_of_ble_eq_true rfl, Nat.le_of_ble_eq_true rfl⟩) hS (fun q _ h => hFc q h) hFc (fun r_2 u_1 t H1 locs ht hvm hw hB hz1 hk1 hS => ?_)
  obtain ⟨hP1, hK1, hD1⟩ := hB
  rw [ht] at hP1
  obtain ⟨hP, hD⟩ := va_join (wr := [(ou, .inl (cJ, 1, .inr (.inl zl)))]) (w1 := []) hP hD [0, 1, 2, 3, 4, 5, 6, 7, 8] [9] rfl rfl (by decide) (by decide) hk1 hFc hP1 hD1
  generalize H1 = H at hP hS ⊢
  have hP : va_P (dC, dI) vwCl [(ou, .inl (cJ, 1, .inr (.inl zl)))] H := hP
  have hD : va_D A [(ou, .inl (cJ, 1, .inr (.inl zl)))] := hD
  refine W.widen (k := 0) (n := 0) (Nat.le_refl _) (Nat.le_refl _) ?_
  have hw : r_2 = 0 := hw
  subst hw
  refine lv_i2l (v := 0) hx hb dL_threshold_7 (by decide) ?_
  refine va_last hx hb hK hP hD hS 0 2 rfl rfl (by unfold vp_in; decide) dL_threshold_8 (fun H locs hP hD hS => ?_)
  have hP : va_P (dC, dI) vwCl [(ou, .inl (cJ, 1, .inr (.inl zl)))] H := by have h9 := hP; rw [upd_zl] at h9; exact h9
  have hD : va_D A [(ou, .inl (cJ, 1, .inr (.inl zl)))] := by have h9 := hD; rw [upd_zl] at h9; exact h9
  refine lv_goto (tgt := 15) hx hb dL_threshold_9 (by decide) ?_
  refine lv_iconst (v := 0) hx hb dL_threshold_15 (by decide) ?_
  have hP9 := hP.sub (ws' := [(ou, .inl (cJ, 1, .inr (.inl zl)))]) [0] rfl
  have hD9 := hD.sub (ws' := [(ou, .inl (cJ, 1, .inr (.inl zl)))]) [0] (by decide) rfl
  have hK9 := hK.sub (tys' := [(cI, .int), (cZ, .boolean), (cJ, .long)]) [0, 1, 2] rfl
  refine W.widen (k := 0) (n := 0) (Nat.le_of_ble_eq_true rfl) (Nat.le_of_ble_eq_true rfl) ?_
  exact W.iret (v := 0) hx hb hr (fun t ht hW => ⟨⟨0, (), rfl, rfl, po_mk ht hW hP9 hK9 hD9⟩, hS.F ht⟩) hS.2.2 dL_threshold_16

set_option maxHeartbeats 4000000 in
set_option maxRecDepth 100000 in
theorem h_L_ofParty (l : Launch) (dC : Nat → ClassId) (dI : Nat → Nat → Nat) (x : Nat) (po : Nat) (tr : Nat) (sp : Nat) (bx : Nat) (b0 : Nat) (b1 : Nat) (b4 : Nat) (b6 : Nat) (pa : Nat) (p_v : Nat) (p_st : Nat) (p_ib : Nat) (p_di : Nat) (p_wa : Nat) (p_se : Nat) (p_vh : Nat) (p_re : Nat) (cI : ClassId) (cZ : ClassId) (a0 : Int32) (a1 : Int32) (ou : Nat) (cJ : ClassId) (sz : Nat) (g0a : ¬ a0 < 0) (g0b : ¬ 4 ≤ a0) (g1a : ¬ a1 < 0) (g1b : a1 ≤ 4) : Met l yL_ofParty wsL_ofParty ({ frames := 7, cells := 0, slots := 0, locals := 192 }) (va_Pc [.ref x, .int a0, .int a1, .ref ou] (pr_ dC dI [(x, .inr (7, [.ref bx, .ref po, .ref tr, .ref pa, .ref sp])), (bx, .inr (2, [.ref b0, .ref b1, .int 0, .int 0, .ref b4, .int 0, .ref b6, .int 0, .int 0, .int 0, .int 0])), (pa, .inr (3, [.ref p_v, .int 0, .ref p_st, .ref p_ib, .ref p_di, .ref p_wa, .ref p_se, .ref p_vh, .ref p_re])), (p_v, .inl (cI, 4, .inl zi)), (p_st, .inl (cI, 4, .inl zi)), (p_ib, .inl (cZ, 4, .inl zi)), (p_di, .inl (cI, 4, .inl zi)), (p_wa, .inl (cI, 4, .inl zi)), (p_se, .inl (cI, 4, .inl zi)), (ou, .inl (cJ, 1, .inr (.inl zl)))] [(cI, .int), (cZ, .boolean), (cJ, .long)] sz)) (va_Qi (fun (r : Int32) (_ : Unit) => r = 0) (fun (_ : Unit) t => po_ dC dI [(ou, .inl (cJ, 1, .inr (.inl zl)))] [(cI, .int), (cZ, .boolean), (cJ, .long)] (va_A [(x, .inr (7, [.ref bx, .ref po, .ref tr, .ref pa, .ref sp])), (bx, .inr (2, [.ref b0, .ref b1, .int 0, .int 0, .ref b4, .int 0, .ref b6, .int 0, .int 0, .int 0, .int 0])), (pa, .inr (3, [.ref p_v, .int 0, .ref p_st, .ref p_ib, .ref p_di, .ref p_wa, .ref p_se, .ref p_vh, .ref p_re])), (p_v, .inl (cI, 4, .inl zi)), (p_st, .inl (cI, 4, .inl zi)), (p_ib, .inl (cZ, 4, .inl zi)), (p_di, .inl (cI, 4, .inl zi)), (p_wa, .inl (cI, 4, .inl zi)), (p_se, .inl (cI, 4, .inl zi)), (ou, .inl (cJ, 1, .inr (.inl zl)))] sz) t) (va_A [(x, .inr (7, [.ref bx, .ref po, .ref tr, .ref pa, .ref sp])), (bx, .inr (2, [.ref b0, .ref b1, .int 0, .int 0, .ref b4, .int 0, .ref b6, .int 0, .int 0, .int 0, .int 0])), (pa, .inr (3, [.ref p_v, .int 0, .ref p_st, .ref p_ib, .ref p_di, .ref p_wa, .ref p_se, .ref p_vh, .ref p_re])), (p_v, .inl (cI, 4, .inl zi)), (p_st, .inl (cI, 4, .inl zi)), (p_ib, .inl (cZ, 4, .inl zi)), (p_di, .inl (cI, 4, .inl zi)), (p_wa, .inl (cI, 4, .inl zi)), (p_se, .inl (cI, 4, .inl zi)), (ou, .inl (cJ, 1, .inr (.inl zl)))] sz)) 0 0 (va_A [(x, .inr (7, [.ref bx, .ref po, .ref tr, .ref pa, .ref sp])), (bx, .inr (2, [.ref b0, .ref b1, .int 0, .int 0, .ref b4, .int 0, .ref b6, .int 0, .int 0, .int 0, .int 0])), (pa, .inr (3, [.ref p_v, .int 0, .ref p_st, .ref p_ib, .ref p_di, .ref p_wa, .ref p_se, .ref p_vh, .ref p_re])), (p_v, .inl (cI, 4, .inl zi)), (p_st, .inl (cI, 4, .inl zi)), (p_ib, .inl (cZ, 4, .inl zi)), (p_di, .inl (cI, 4, .inl zi)), (p_wa, .inl (cI, 4, .inl zi)), (p_se, .inl (cI, 4, .inl zi)), (ou, .inl (cJ, 1, .inr (.inl zl)))] sz) := by
  refine va_MetW (cc := cL_ofParty) (maxL := 5) (ret := (some .int)) (by decide) rfl ?_
  intro p e s m args below meth c s₁ B hml hv
  obtain ⟨rfl, hsz, hP, hK, hD0⟩ := hv
  have hx := B.exec
  have hb := B.bytes
  have hr := B.returns
  have hts := atoms_spec (ws := wsL_ofParty) B.pre
  have hown : s.vm.findClass RL = some m.cls := findClass_of_methodNamed B.named
  have hlocks := B.notSynchronized
  subst hsz
  have hD := hD0.self (sz := s.heap.size)
  generalize hAe : va_A [(x, .inr (7, [.ref bx, .ref po, .ref tr, .ref pa, .ref sp])), (bx, .inr (2, [.ref b0, .ref b1, .int 0, .int 0, .ref b4, .int 0, .ref b6, .int 0, .int 0, .int 0, .int 0])), (pa, .inr (3, [.ref p_v, .int 0, .ref p_st, .ref p_ib, .ref p_di, .ref p_wa, .ref p_se, .ref p_vh, .ref p_re])), (p_v, .inl (cI, 4, .inl zi)), (p_st, .inl (cI, 4, .inl zi)), (p_ib, .inl (cZ, 4, .inl zi)), (p_di, .inl (cI, 4, .inl zi)), (p_wa, .inl (cI, 4, .inl zi)), (p_se, .inl (cI, 4, .inl zi)), (ou, .inl (cJ, 1, .inr (.inl zl)))] s.heap.size = A at hD ⊢
  have hA : ∀ q : Nat, s.heap.size ≤ q → A q := fun q h => by rw [← hAe]; exact Or.inr h
  have hS : va_S A s.heap s.heap [] := va_S.rf
  have hP : va_P (dC, dI) vwCl [(x, .inr (7, [.ref bx, .ref po, .ref tr, .ref pa, .ref sp])), (bx, .inr (2, [.ref b0, .ref b1, .int 0, .int 0, .ref b4, .int 0, .ref b6, .int 0, .int 0, .int 0, .int 0])), (pa, .inr (3, [.ref p_v, .int 0, .ref p_st, .ref p_ib, .ref p_di, .ref p_wa, .ref p_se, .ref p_vh, .ref p_re])), (p_v, .inl (cI, 4, .inl zi)), (p_st, .inl (cI, 4, .inl zi)), (p_ib, .inl (cZ, 4, .inl zi)), (p_di, .inl (cI, 4, .inl zi)), (p_wa, .inl (cI, 4, .inl zi)), (p_se, .inl (cI, 4, .inl zi)), (ou, .inl (cJ, 1, .inr (.inl zl)))] s.heap := hP
  have hK : va_K (dC, dI) vwCl [(cI, .int), (cZ, .boolean), (cJ, .long)] s := hK
  have hl := lv_entry ([.ref x, .int a0, .int a1, .ref ou]) (n := 5) (Nat.le_of_ble_eq_true rfl)
  rw [lg_entry_eq]
  generalize (lg_sl ([.ref x, .int a0, .int a1, .ref ou]) ++ List.replicate (5 - (lg_sl ([.ref x, .int a0, .int a1, .ref ou])).length) Slot.unset).toArray = ls at hl ⊢
  have hl : lv_has ls 5 [(0, .ref x), (1, .int a0), (2, .int a1), (3, .ref ou)] := hl
  refine lv_aload_n hx hb dL_ofParty_0 rfl (lv_at hl 3 rfl) ?_
  refine lv_iconst (v := 0) hx hb dL_ofParty_1 (by decide) ?_
  refine lv_aload_n hx hb dL_ofParty_2 rfl (lv_at hl 0 rfl) ?_
  refine lv_iload_n hx hb dL_ofParty_3 rfl (lv_at hl 1 rfl) ?_
  refine lv_iload_n hx hb dL_ofParty_4 rfl (lv_at hl 2 rfl) ?_
  have hPc := hP.sub (ws' := [(x, .inr (7, [.ref bx, .ref po, .ref tr, .ref pa, .ref sp])), (bx, .inr (2, [.ref b0, .ref b1, .int 0, .int 0, .ref b4, .int 0, .ref b6, .int 0, .int 0, .int 0, .int 0])), (pa, .inr (3, [.ref p_v, .int 0, .ref p_st, .ref p_ib, .ref p_di, .ref p_wa, .ref p_se, .ref p_vh, .ref p_re])), (p_v, .inl (cI, 4, .inl zi)), (p_st, .inl (cI, 4, .inl zi)), (p_ib, .inl (cZ, 4, .inl zi)), (p_di, .inl (cI, 4, .inl zi)), (p_wa, .inl (cI, 4, .inl zi)), (p_se, .inl (cI, 4, .inl zi))]) [0, 1, 2, 3, 4, 5, 6, 7, 8] rfl
  have hDc := hD.sub (ws' := [(x, .inr (7, [.ref bx, .ref po, .ref tr, .ref pa, .ref sp])), (bx, .inr (2, [.ref b0, .ref b1, .int 0, .int 0, .ref b4, .int 0, .ref b6, .int 0, .int 0, .int 0, .int 0])), (pa, .inr (3, [.ref p_v, .int 0, .ref p_st, .ref p_ib, .ref p_di, .ref p_wa, .ref p_se, .ref p_vh, .ref p_re])), (p_v, .inl (cI, 4, .inl zi)), (p_st, .inl (cI, 4, .inl zi)), (p_ib, .inl (cZ, 4, .inl zi)), (p_di, .inl (cI, 4, .inl zi)), (p_wa, .inl (cI, 4, .inl zi)), (p_se, .inl (cI, 4, .inl zi))]) [0, 1, 2, 3, 4, 5, 6, 7, 8] (by decide) rfl
  have hKc := hK.sub (tys' := [(cI, .int), (cZ, .boolean)]) [0, 1] rfl
  have hFc := va_free (wc := [(x, .inr (7, [.ref bx, .ref po, .ref tr, .ref pa, .ref sp])), (bx, .inr (2, [.ref b0, .ref b1, .int 0, .int 0, .ref b4, .int 0, .ref b6, .int 0, .int 0, .int 0, .int 0])), (pa, .inr (3, [.ref p_v, .int 0, .ref p_st, .ref p_ib, .ref p_di, .ref p_wa, .ref p_se, .ref p_vh, .ref p_re])), (p_v, .inl (cI, 4, .inl zi)), (p_st, .inl (cI, 4, .inl zi)), (p_ib, .inl (cZ, 4, .inl zi)), (p_di, .inl (cI, 4, .inl zi)), (p_wa, .inl (cI, 4, .inl zi)), (p_se, .inl (cI, 4, .inl zi))]) hD hS hA [0, 1, 2, 3, 4, 5, 6, 7, 8] rfl
  refine va_calli (va_runV (As := [.int a0, .int a1]) (rest := [.int 0, .ref ou]) ⟨hx, hb, hml, hown, hts⟩ (c_X5_ofParty l dC dI x po tr sp bx b0 b1 b4 b6 pa p_v p_st p_ib p_di p_wa p_se p_vh p_re cI cZ a0 a1 _ g0a g0b g1a g1b) (cwV 2 hts gL_ofParty_X5_ofParty rfl rfl rfl (by decide +kernel) ⟨Nat.le_of_ble_eq_true rfl, Nat.le_of_ble_eq_true rfl⟩) ⟨pr_blind, va_recv hKc hPc (ci := 7) (q0 := 0) rfl rfl, fun U hU hW => ⟨rfl, pr_mk hU hW hPc hKc hDc⟩⟩ rfl rfl hl.1 rfl (lv_room (Nat.le_of_ble_eq_true rfl)) dL_ofParty_5 ⟨Nat.le_of_ble_eq_true rfl, Nat.le_of_ble_eq_true rfl⟩) hS (fun q _ h => hFc q h) hFc (fun r_2 u_1 t H1 locs ht hvm hw hB hz1 hk1 hS => ?_)
  obtain ⟨hP1, hK1, hD1⟩ := hB
  rw [ht] at hP1
  obtain ⟨hP, hD⟩ := va_join (wr := [(ou, .inl (cJ, 1, .inr (.inl zl)))]) (w1 := []) hP hD [0, 1, 2, 3, 4, 5, 6, 7, 8] [9] rfl rfl (by decide) (by decide) hk1 hFc hP1 hD1
  generalize H1 = H at hP hS ⊢
  have hP : va_P (dC, dI) vwCl [(ou, .inl (cJ, 1, .inr (.inl zl)))] H := hP
  have hD : va_D A [(ou, .inl (cJ, 1, .inr (.inl zl)))] := hD
  refine W.widen (k := 0) (n := 0) (Nat.le_refl _) (Nat.le_refl _) ?_
  have hw : r_2 = 0 := hw
  subst hw
  refine lv_i2l (v := 0) hx hb dL_ofParty_8 (by decide) ?_
  refine va_last hx hb hK hP hD hS 0 2 rfl rfl (by unfold vp_in; decide) dL_ofParty_9 (fun H locs hP hD hS => ?_)
  have hP : va_P (dC, dI) vwCl [(ou, .inl (cJ, 1, .inr (.inl zl)))] H := by have h9 := hP; rw [upd_zl] at h9; exact h9
  have hD : va_D A [(ou, .inl (cJ, 1, .inr (.inl zl)))] := by have h9 := hD; rw [upd_zl] at h9; exact h9
  refine lv_goto (tgt := 21) hx hb dL_ofParty_10 (by decide) ?_
  refine lv_iconst (v := 0) hx hb dL_ofParty_21 (by decide) ?_
  have hP9 := hP.sub (ws' := [(ou, .inl (cJ, 1, .inr (.inl zl)))]) [0] rfl
  have hD9 := hD.sub (ws' := [(ou, .inl (cJ, 1, .inr (.inl zl)))]) [0] (by decide) rfl
  have hK9 := hK.sub (tys' := [(cI, .int), (cZ, .boolean), (cJ, .long)]) [0, 1, 2] rfl
  refine W.widen (k := 0) (n := 0) (Nat.le_of_ble_eq_true rfl) (Nat.le_of_ble_eq_true rfl) ?_
  exact W.iret (v := 0) hx hb hr (fun t ht hW => ⟨⟨0, (), rfl, rfl, po_mk ht hW hP9 hK9 hD9⟩, hS.F ht⟩) hS.2.2 dL_ofParty_22

set_option maxHeartbeats 4000000 in
set_option maxRecDepth 100000 in
theorem h_L_share (l : Launch) (dC : Nat → ClassId) (dI : Nat → Nat → Nat) (x : Nat) (po : Nat) (tr : Nat) (sp : Nat) (bx : Nat) (b0 : Nat) (b1 : Nat) (b4 : Nat) (b6 : Nat) (pa : Nat) (p_v : Nat) (p_st : Nat) (p_ib : Nat) (p_di : Nat) (p_wa : Nat) (p_se : Nat) (p_vh : Nat) (p_re : Nat) (cI : ClassId) (cZ : ClassId) (a0 : Int32) (a1 : Int32) (a2 : Int32) (ou : Nat) (cJ : ClassId) (sz : Nat) (g0a : ¬ a0 < 0) (g0b : ¬ 4 ≤ a0) (g1a : ¬ a1 < 1) (g1b : a1 ≤ 60) (g2a : ¬ a2 < 0) (g2b : a2 ≤ 2) : Met l yL_share wsL_share ({ frames := 7, cells := 0, slots := 0, locals := 193 }) (va_Pc [.ref x, .int a0, .int a1, .int a2, .ref ou] (pr_ dC dI [(x, .inr (7, [.ref bx, .ref po, .ref tr, .ref pa, .ref sp])), (bx, .inr (2, [.ref b0, .ref b1, .int 0, .int 0, .ref b4, .int 0, .ref b6, .int 0, .int 0, .int 0, .int 0])), (pa, .inr (3, [.ref p_v, .int 0, .ref p_st, .ref p_ib, .ref p_di, .ref p_wa, .ref p_se, .ref p_vh, .ref p_re])), (p_v, .inl (cI, 4, .inl zi)), (p_st, .inl (cI, 4, .inl zi)), (p_ib, .inl (cZ, 4, .inl zi)), (p_di, .inl (cI, 4, .inl zi)), (p_wa, .inl (cI, 4, .inl zi)), (p_se, .inl (cI, 4, .inl zi)), (ou, .inl (cJ, 1, .inr (.inl zl)))] [(cI, .int), (cZ, .boolean), (cJ, .long)] sz)) (va_Qi (fun (r : Int32) (_ : Unit) => r = 0) (fun (_ : Unit) t => po_ dC dI [(ou, .inl (cJ, 1, .inr (.inl zl)))] [(cI, .int), (cZ, .boolean), (cJ, .long)] (va_A [(x, .inr (7, [.ref bx, .ref po, .ref tr, .ref pa, .ref sp])), (bx, .inr (2, [.ref b0, .ref b1, .int 0, .int 0, .ref b4, .int 0, .ref b6, .int 0, .int 0, .int 0, .int 0])), (pa, .inr (3, [.ref p_v, .int 0, .ref p_st, .ref p_ib, .ref p_di, .ref p_wa, .ref p_se, .ref p_vh, .ref p_re])), (p_v, .inl (cI, 4, .inl zi)), (p_st, .inl (cI, 4, .inl zi)), (p_ib, .inl (cZ, 4, .inl zi)), (p_di, .inl (cI, 4, .inl zi)), (p_wa, .inl (cI, 4, .inl zi)), (p_se, .inl (cI, 4, .inl zi)), (ou, .inl (cJ, 1, .inr (.inl zl)))] sz) t) (va_A [(x, .inr (7, [.ref bx, .ref po, .ref tr, .ref pa, .ref sp])), (bx, .inr (2, [.ref b0, .ref b1, .int 0, .int 0, .ref b4, .int 0, .ref b6, .int 0, .int 0, .int 0, .int 0])), (pa, .inr (3, [.ref p_v, .int 0, .ref p_st, .ref p_ib, .ref p_di, .ref p_wa, .ref p_se, .ref p_vh, .ref p_re])), (p_v, .inl (cI, 4, .inl zi)), (p_st, .inl (cI, 4, .inl zi)), (p_ib, .inl (cZ, 4, .inl zi)), (p_di, .inl (cI, 4, .inl zi)), (p_wa, .inl (cI, 4, .inl zi)), (p_se, .inl (cI, 4, .inl zi)), (ou, .inl (cJ, 1, .inr (.inl zl)))] sz)) 0 0 (va_A [(x, .inr (7, [.ref bx, .ref po, .ref tr, .ref pa, .ref sp])), (bx, .inr (2, [.ref b0, .ref b1, .int 0, .int 0, .ref b4, .int 0, .ref b6, .int 0, .int 0, .int 0, .int 0])), (pa, .inr (3, [.ref p_v, .int 0, .ref p_st, .ref p_ib, .ref p_di, .ref p_wa, .ref p_se, .ref p_vh, .ref p_re])), (p_v, .inl (cI, 4, .inl zi)), (p_st, .inl (cI, 4, .inl zi)), (p_ib, .inl (cZ, 4, .inl zi)), (p_di, .inl (cI, 4, .inl zi)), (p_wa, .inl (cI, 4, .inl zi)), (p_se, .inl (cI, 4, .inl zi)), (ou, .inl (cJ, 1, .inr (.inl zl)))] sz) := by
  refine va_MetW (cc := cL_share) (maxL := 6) (ret := (some .int)) (by decide) rfl ?_
  intro p e s m args below meth c s₁ B hml hv
  obtain ⟨rfl, hsz, hP, hK, hD0⟩ := hv
  have hx := B.exec
  have hb := B.bytes
  have hr := B.returns
  have hts := atoms_spec (ws := wsL_share) B.pre
  have hown : s.vm.findClass RL = some m.cls := findClass_of_methodNamed B.named
  have hlocks := B.notSynchronized
  subst hsz
  have hD := hD0.self (sz := s.heap.size)
  generalize hAe : va_A [(x, .inr (7, [.ref bx, .ref po, .ref tr, .ref pa, .ref sp])), (bx, .inr (2, [.ref b0, .ref b1, .int 0, .int 0, .ref b4, .int 0, .ref b6, .int 0, .int 0, .int 0, .int 0])), (pa, .inr (3, [.ref p_v, .int 0, .ref p_st, .ref p_ib, .ref p_di, .ref p_wa, .ref p_se, .ref p_vh, .ref p_re])), (p_v, .inl (cI, 4, .inl zi)), (p_st, .inl (cI, 4, .inl zi)), (p_ib, .inl (cZ, 4, .inl zi)), (p_di, .inl (cI, 4, .inl zi)), (p_wa, .inl (cI, 4, .inl zi)), (p_se, .inl (cI, 4, .inl zi)), (ou, .inl (cJ, 1, .inr (.inl zl)))] s.heap.size = A at hD ⊢
  have hA : ∀ q : Nat, s.heap.size ≤ q → A q := fun q h => by rw [← hAe]; exact Or.inr h
  have hS : va_S A s.heap s.heap [] := va_S.rf
  have hP : va_P (dC, dI) vwCl [(x, .inr (7, [.ref bx, .ref po, .ref tr, .ref pa, .ref sp])), (bx, .inr (2, [.ref b0, .ref b1, .int 0, .int 0, .ref b4, .int 0, .ref b6, .int 0, .int 0, .int 0, .int 0])), (pa, .inr (3, [.ref p_v, .int 0, .ref p_st, .ref p_ib, .ref p_di, .ref p_wa, .ref p_se, .ref p_vh, .ref p_re])), (p_v, .inl (cI, 4, .inl zi)), (p_st, .inl (cI, 4, .inl zi)), (p_ib, .inl (cZ, 4, .inl zi)), (p_di, .inl (cI, 4, .inl zi)), (p_wa, .inl (cI, 4, .inl zi)), (p_se, .inl (cI, 4, .inl zi)), (ou, .inl (cJ, 1, .inr (.inl zl)))] s.heap := hP
  have hK : va_K (dC, dI) vwCl [(cI, .int), (cZ, .boolean), (cJ, .long)] s := hK
  have hl := lv_entry ([.ref x, .int a0, .int a1, .int a2, .ref ou]) (n := 6) (Nat.le_of_ble_eq_true rfl)
  rw [lg_entry_eq]
  generalize (lg_sl ([.ref x, .int a0, .int a1, .int a2, .ref ou]) ++ List.replicate (6 - (lg_sl ([.ref x, .int a0, .int a1, .int a2, .ref ou])).length) Slot.unset).toArray = ls at hl ⊢
  have hl : lv_has ls 6 [(0, .ref x), (1, .int a0), (2, .int a1), (3, .int a2), (4, .ref ou)] := hl
  refine lv_aload hx hb dL_share_0 (lv_at hl 4 rfl) ?_
  refine lv_iconst (v := 0) hx hb dL_share_2 (by decide) ?_
  refine lv_aload_n hx hb dL_share_3 rfl (lv_at hl 0 rfl) ?_
  refine lv_iload_n hx hb dL_share_4 rfl (lv_at hl 1 rfl) ?_
  refine lv_iload_n hx hb dL_share_5 rfl (lv_at hl 2 rfl) ?_
  refine lv_iload_n hx hb dL_share_6 rfl (lv_at hl 3 rfl) ?_
  have hPc := hP.sub (ws' := [(x, .inr (7, [.ref bx, .ref po, .ref tr, .ref pa, .ref sp])), (bx, .inr (2, [.ref b0, .ref b1, .int 0, .int 0, .ref b4, .int 0, .ref b6, .int 0, .int 0, .int 0, .int 0])), (pa, .inr (3, [.ref p_v, .int 0, .ref p_st, .ref p_ib, .ref p_di, .ref p_wa, .ref p_se, .ref p_vh, .ref p_re])), (p_v, .inl (cI, 4, .inl zi)), (p_st, .inl (cI, 4, .inl zi)), (p_ib, .inl (cZ, 4, .inl zi)), (p_di, .inl (cI, 4, .inl zi)), (p_wa, .inl (cI, 4, .inl zi)), (p_se, .inl (cI, 4, .inl zi))]) [0, 1, 2, 3, 4, 5, 6, 7, 8] rfl
  have hDc := hD.sub (ws' := [(x, .inr (7, [.ref bx, .ref po, .ref tr, .ref pa, .ref sp])), (bx, .inr (2, [.ref b0, .ref b1, .int 0, .int 0, .ref b4, .int 0, .ref b6, .int 0, .int 0, .int 0, .int 0])), (pa, .inr (3, [.ref p_v, .int 0, .ref p_st, .ref p_ib, .ref p_di, .ref p_wa, .ref p_se, .ref p_vh, .ref p_re])), (p_v, .inl (cI, 4, .inl zi)), (p_st, .inl (cI, 4, .inl zi)), (p_ib, .inl (cZ, 4, .inl zi)), (p_di, .inl (cI, 4, .inl zi)), (p_wa, .inl (cI, 4, .inl zi)), (p_se, .inl (cI, 4, .inl zi))]) [0, 1, 2, 3, 4, 5, 6, 7, 8] (by decide) rfl
  have hKc := hK.sub (tys' := [(cI, .int), (cZ, .boolean)]) [0, 1] rfl
  have hFc := va_free (wc := [(x, .inr (7, [.ref bx, .ref po, .ref tr, .ref pa, .ref sp])), (bx, .inr (2, [.ref b0, .ref b1, .int 0, .int 0, .ref b4, .int 0, .ref b6, .int 0, .int 0, .int 0, .int 0])), (pa, .inr (3, [.ref p_v, .int 0, .ref p_st, .ref p_ib, .ref p_di, .ref p_wa, .ref p_se, .ref p_vh, .ref p_re])), (p_v, .inl (cI, 4, .inl zi)), (p_st, .inl (cI, 4, .inl zi)), (p_ib, .inl (cZ, 4, .inl zi)), (p_di, .inl (cI, 4, .inl zi)), (p_wa, .inl (cI, 4, .inl zi)), (p_se, .inl (cI, 4, .inl zi))]) hD hS hA [0, 1, 2, 3, 4, 5, 6, 7, 8] rfl
  refine va_calli (va_runV (As := [.int a0, .int a1, .int a2]) (rest := [.int 0, .ref ou]) ⟨hx, hb, hml, hown, hts⟩ (c_X5_share l dC dI x po tr sp bx b0 b1 b4 b6 pa p_v p_st p_ib p_di p_wa p_se p_vh p_re cI cZ a0 a1 a2 _ g0a g0b g1a g1b g2a g2b) (cwV 3 hts gL_share_X5_share rfl rfl rfl (by decide +kernel) ⟨Nat.le_of_ble_eq_true rfl, Nat.le_of_ble_eq_true rfl⟩) ⟨pr_blind, va_recv hKc hPc (ci := 7) (q0 := 0) rfl rfl, fun U hU hW => ⟨rfl, pr_mk hU hW hPc hKc hDc⟩⟩ rfl rfl hl.1 rfl (lv_room (Nat.le_of_ble_eq_true rfl)) dL_share_7 ⟨Nat.le_of_ble_eq_true rfl, Nat.le_of_ble_eq_true rfl⟩) hS (fun q _ h => hFc q h) hFc (fun r_2 u_1 t H1 locs ht hvm hw hB hz1 hk1 hS => ?_)
  obtain ⟨hP1, hK1, hD1⟩ := hB
  rw [ht] at hP1
  obtain ⟨hP, hD⟩ := va_join (wr := [(ou, .inl (cJ, 1, .inr (.inl zl)))]) (w1 := []) hP hD [0, 1, 2, 3, 4, 5, 6, 7, 8] [9] rfl rfl (by decide) (by decide) hk1 hFc hP1 hD1
  generalize H1 = H at hP hS ⊢
  have hP : va_P (dC, dI) vwCl [(ou, .inl (cJ, 1, .inr (.inl zl)))] H := hP
  have hD : va_D A [(ou, .inl (cJ, 1, .inr (.inl zl)))] := hD
  refine W.widen (k := 0) (n := 0) (Nat.le_refl _) (Nat.le_refl _) ?_
  have hw : r_2 = 0 := hw
  subst hw
  refine lv_i2l (v := 0) hx hb dL_share_10 (by decide) ?_
  refine va_last hx hb hK hP hD hS 0 2 rfl rfl (by unfold vp_in; decide) dL_share_11 (fun H locs hP hD hS => ?_)
  have hP : va_P (dC, dI) vwCl [(ou, .inl (cJ, 1, .inr (.inl zl)))] H := by have h9 := hP; rw [upd_zl] at h9; exact h9
  have hD : va_D A [(ou, .inl (cJ, 1, .inr (.inl zl)))] := by have h9 := hD; rw [upd_zl] at h9; exact h9
  refine lv_goto (tgt := 23) hx hb dL_share_12 (by decide) ?_
  refine lv_iconst (v := 0) hx hb dL_share_23 (by decide) ?_
  have hP9 := hP.sub (ws' := [(ou, .inl (cJ, 1, .inr (.inl zl)))]) [0] rfl
  have hD9 := hD.sub (ws' := [(ou, .inl (cJ, 1, .inr (.inl zl)))]) [0] (by decide) rfl
  have hK9 := hK.sub (tys' := [(cI, .int), (cZ, .boolean), (cJ, .long)]) [0, 1, 2] rfl
  refine W.widen (k := 0) (n := 0) (Nat.le_of_ble_eq_true rfl) (Nat.le_of_ble_eq_true rfl) ?_
  exact W.iret (v := 0) hx hb hr (fun t ht hW => ⟨⟨0, (), rfl, rfl, po_mk ht hW hP9 hK9 hD9⟩, hS.F ht⟩) hS.2.2 dL_share_24

set_option maxHeartbeats 4000000 in
set_option maxRecDepth 100000 in
theorem h_L_overhang (l : Launch) (dC : Nat → ClassId) (dI : Nat → Nat → Nat) (x : Nat) (po : Nat) (tr : Nat) (sp : Nat) (bx : Nat) (b0 : Nat) (b1 : Nat) (b4 : Nat) (b6 : Nat) (pa : Nat) (p_v : Nat) (p_st : Nat) (p_ib : Nat) (p_di : Nat) (p_wa : Nat) (p_se : Nat) (p_vh : Nat) (p_re : Nat) (cI : ClassId) (cZ : ClassId) (a0 : Int32) (a1 : Int32) (ou : Nat) (cJ : ClassId) (sz : Nat) (g0a : ¬ a0 < 1) (g0b : a0 ≤ 60) (g1a : ¬ a1 < 0) (g1b : a1 ≤ 2) : Met l yL_overhang wsL_overhang ({ frames := 7, cells := 0, slots := 0, locals := 192 }) (va_Pc [.ref x, .int a0, .int a1, .ref ou] (pr_ dC dI [(x, .inr (7, [.ref bx, .ref po, .ref tr, .ref pa, .ref sp])), (bx, .inr (2, [.ref b0, .ref b1, .int 0, .int 0, .ref b4, .int 0, .ref b6, .int 0, .int 0, .int 0, .int 0])), (pa, .inr (3, [.ref p_v, .int 0, .ref p_st, .ref p_ib, .ref p_di, .ref p_wa, .ref p_se, .ref p_vh, .ref p_re])), (p_v, .inl (cI, 4, .inl zi)), (p_st, .inl (cI, 4, .inl zi)), (p_ib, .inl (cZ, 4, .inl zi)), (p_di, .inl (cI, 4, .inl zi)), (p_wa, .inl (cI, 4, .inl zi)), (p_se, .inl (cI, 4, .inl zi)), (ou, .inl (cJ, 1, .inr (.inl zl)))] [(cI, .int), (cZ, .boolean), (cJ, .long)] sz)) (va_Qi (fun (r : Int32) (_ : Unit) => r = 0) (fun (_ : Unit) t => po_ dC dI [(ou, .inl (cJ, 1, .inr (.inl zl)))] [(cI, .int), (cZ, .boolean), (cJ, .long)] (va_A [(x, .inr (7, [.ref bx, .ref po, .ref tr, .ref pa, .ref sp])), (bx, .inr (2, [.ref b0, .ref b1, .int 0, .int 0, .ref b4, .int 0, .ref b6, .int 0, .int 0, .int 0, .int 0])), (pa, .inr (3, [.ref p_v, .int 0, .ref p_st, .ref p_ib, .ref p_di, .ref p_wa, .ref p_se, .ref p_vh, .ref p_re])), (p_v, .inl (cI, 4, .inl zi)), (p_st, .inl (cI, 4, .inl zi)), (p_ib, .inl (cZ, 4, .inl zi)), (p_di, .inl (cI, 4, .inl zi)), (p_wa, .inl (cI, 4, .inl zi)), (p_se, .inl (cI, 4, .inl zi)), (ou, .inl (cJ, 1, .inr (.inl zl)))] sz) t) (va_A [(x, .inr (7, [.ref bx, .ref po, .ref tr, .ref pa, .ref sp])), (bx, .inr (2, [.ref b0, .ref b1, .int 0, .int 0, .ref b4, .int 0, .ref b6, .int 0, .int 0, .int 0, .int 0])), (pa, .inr (3, [.ref p_v, .int 0, .ref p_st, .ref p_ib, .ref p_di, .ref p_wa, .ref p_se, .ref p_vh, .ref p_re])), (p_v, .inl (cI, 4, .inl zi)), (p_st, .inl (cI, 4, .inl zi)), (p_ib, .inl (cZ, 4, .inl zi)), (p_di, .inl (cI, 4, .inl zi)), (p_wa, .inl (cI, 4, .inl zi)), (p_se, .inl (cI, 4, .inl zi)), (ou, .inl (cJ, 1, .inr (.inl zl)))] sz)) 0 0 (va_A [(x, .inr (7, [.ref bx, .ref po, .ref tr, .ref pa, .ref sp])), (bx, .inr (2, [.ref b0, .ref b1, .int 0, .int 0, .ref b4, .int 0, .ref b6, .int 0, .int 0, .int 0, .int 0])), (pa, .inr (3, [.ref p_v, .int 0, .ref p_st, .ref p_ib, .ref p_di, .ref p_wa, .ref p_se, .ref p_vh, .ref p_re])), (p_v, .inl (cI, 4, .inl zi)), (p_st, .inl (cI, 4, .inl zi)), (p_ib, .inl (cZ, 4, .inl zi)), (p_di, .inl (cI, 4, .inl zi)), (p_wa, .inl (cI, 4, .inl zi)), (p_se, .inl (cI, 4, .inl zi)), (ou, .inl (cJ, 1, .inr (.inl zl)))] sz) := by
  refine va_MetW (cc := cL_overhang) (maxL := 5) (ret := (some .int)) (by decide) rfl ?_
  intro p e s m args below meth c s₁ B hml hv
  obtain ⟨rfl, hsz, hP, hK, hD0⟩ := hv
  have hx := B.exec
  have hb := B.bytes
  have hr := B.returns
  have hts := atoms_spec (ws := wsL_overhang) B.pre
  have hown : s.vm.findClass RL = some m.cls := findClass_of_methodNamed B.named
  have hlocks := B.notSynchronized
  subst hsz
  have hD := hD0.self (sz := s.heap.size)
  generalize hAe : va_A [(x, .inr (7, [.ref bx, .ref po, .ref tr, .ref pa, .ref sp])), (bx, .inr (2, [.ref b0, .ref b1, .int 0, .int 0, .ref b4, .int 0, .ref b6, .int 0, .int 0, .int 0, .int 0])), (pa, .inr (3, [.ref p_v, .int 0, .ref p_st, .ref p_ib, .ref p_di, .ref p_wa, .ref p_se, .ref p_vh, .ref p_re])), (p_v, .inl (cI, 4, .inl zi)), (p_st, .inl (cI, 4, .inl zi)), (p_ib, .inl (cZ, 4, .inl zi)), (p_di, .inl (cI, 4, .inl zi)), (p_wa, .inl (cI, 4, .inl zi)), (p_se, .inl (cI, 4, .inl zi)), (ou, .inl (cJ, 1, .inr (.inl zl)))] s.heap.size = A at hD ⊢
  have hA : ∀ q : Nat, s.heap.size ≤ q → A q := fun q h => by rw [← hAe]; exact Or.inr h
  have hS : va_S A s.heap s.heap [] := va_S.rf
  have hP : va_P (dC, dI) vwCl [(x, .inr (7, [.ref bx, .ref po, .ref tr, .ref pa, .ref sp])), (bx, .inr (2, [.ref b0, .ref b1, .int 0, .int 0, .ref b4, .int 0, .ref b6, .int 0, .int 0, .int 0, .int 0])), (pa, .inr (3, [.ref p_v, .int 0, .ref p_st, .ref p_ib, .ref p_di, .ref p_wa, .ref p_se, .ref p_vh, .ref p_re])), (p_v, .inl (cI, 4, .inl zi)), (p_st, .inl (cI, 4, .inl zi)), (p_ib, .inl (cZ, 4, .inl zi)), (p_di, .inl (cI, 4, .inl zi)), (p_wa, .inl (cI, 4, .inl zi)), (p_se, .inl (cI, 4, .inl zi)), (ou, .inl (cJ, 1, .inr (.inl zl)))] s.heap := hP
  have hK : va_K (dC, dI) vwCl [(cI, .int), (cZ, .boolean), (cJ, .long)] s := hK
  have hl := lv_entry ([.ref x, .int a0, .int a1, .ref ou]) (n := 5) (Nat.le_of_ble_eq_true rfl)
  rw [lg_entry_eq]
  generalize (lg_sl ([.ref x, .int a0, .int a1, .ref ou]) ++ List.replicate (5 - (lg_sl ([.ref x, .int a0, .int a1, .ref ou])).length) Slot.unset).toArray = ls at hl ⊢
  have hl : lv_has ls 5 [(0, .ref x), (1, .int a0), (2, .int a1), (3, .ref ou)] := hl
  refine lv_aload_n hx hb dL_overhang_0 rfl (lv_at hl 3 rfl) ?_
  refine lv_iconst (v := 0) hx hb dL_overhang_1 (by decide) ?_
  refine lv_aload_n hx hb dL_overhang_2 rfl (lv_at hl 0 rfl) ?_
  refine lv_iload_n hx hb dL_overhang_3 rfl (lv_at hl 1 rfl) ?_
  refine lv_iload_n hx hb dL_overhang_4 rfl (lv_at hl 2 rfl) ?_
  have hPc := hP.sub (ws' := [(x, .inr (7, [.ref bx, .ref po, .ref tr, .ref pa, .ref sp])), (bx, .inr (2, [.ref b0, .ref b1, .int 0, .int 0, .ref b4, .int 0, .ref b6, .int 0, .int 0, .int 0, .int 0])), (pa, .inr (3, [.ref p_v, .int 0, .ref p_st, .ref p_ib, .ref p_di, .ref p_wa, .ref p_se, .ref p_vh, .ref p_re])), (p_v, .inl (cI, 4, .inl zi)), (p_st, .inl (cI, 4, .inl zi)), (p_ib, .inl (cZ, 4, .inl zi)), (p_di, .inl (cI, 4, .inl zi)), (p_wa, .inl (cI, 4, .inl zi)), (p_se, .inl (cI, 4, .inl zi))]) [0, 1, 2, 3, 4, 5, 6, 7, 8] rfl
  have hDc := hD.sub (ws' := [(x, .inr (7, [.ref bx, .ref po, .ref tr, .ref pa, .ref sp])), (bx, .inr (2, [.ref b0, .ref b1, .int 0, .int 0, .ref b4, .int 0, .ref b6, .int 0, .int 0, .int 0, .int 0])), (pa, .inr (3, [.ref p_v, .int 0, .ref p_st, .ref p_ib, .ref p_di, .ref p_wa, .ref p_se, .ref p_vh, .ref p_re])), (p_v, .inl (cI, 4, .inl zi)), (p_st, .inl (cI, 4, .inl zi)), (p_ib, .inl (cZ, 4, .inl zi)), (p_di, .inl (cI, 4, .inl zi)), (p_wa, .inl (cI, 4, .inl zi)), (p_se, .inl (cI, 4, .inl zi))]) [0, 1, 2, 3, 4, 5, 6, 7, 8] (by decide) rfl
  have hKc := hK.sub (tys' := [(cI, .int), (cZ, .boolean)]) [0, 1] rfl
  have hFc := va_free (wc := [(x, .inr (7, [.ref bx, .ref po, .ref tr, .ref pa, .ref sp])), (bx, .inr (2, [.ref b0, .ref b1, .int 0, .int 0, .ref b4, .int 0, .ref b6, .int 0, .int 0, .int 0, .int 0])), (pa, .inr (3, [.ref p_v, .int 0, .ref p_st, .ref p_ib, .ref p_di, .ref p_wa, .ref p_se, .ref p_vh, .ref p_re])), (p_v, .inl (cI, 4, .inl zi)), (p_st, .inl (cI, 4, .inl zi)), (p_ib, .inl (cZ, 4, .inl zi)), (p_di, .inl (cI, 4, .inl zi)), (p_wa, .inl (cI, 4, .inl zi)), (p_se, .inl (cI, 4, .inl zi))]) hD hS hA [0, 1, 2, 3, 4, 5, 6, 7, 8] rfl
  refine va_calli (va_runV (As := [.int a0, .int a1]) (rest := [.int 0, .ref ou]) ⟨hx, hb, hml, hown, hts⟩ (c_X5_overhang l dC dI x po tr sp bx b0 b1 b4 b6 pa p_v p_st p_ib p_di p_wa p_se p_vh p_re cI cZ a0 a1 _ g0a g0b g1a g1b) (cwV 2 hts gL_overhang_X5_overhang rfl rfl rfl (by decide +kernel) ⟨Nat.le_of_ble_eq_true rfl, Nat.le_of_ble_eq_true rfl⟩) ⟨pr_blind, va_recv hKc hPc (ci := 7) (q0 := 0) rfl rfl, fun U hU hW => ⟨rfl, pr_mk hU hW hPc hKc hDc⟩⟩ rfl rfl hl.1 rfl (lv_room (Nat.le_of_ble_eq_true rfl)) dL_overhang_5 ⟨Nat.le_of_ble_eq_true rfl, Nat.le_of_ble_eq_true rfl⟩) hS (fun q _ h => hFc q h) hFc (fun r_2 u_1 t H1 locs ht hvm hw hB hz1 hk1 hS => ?_)
  obtain ⟨hP1, hK1, hD1⟩ := hB
  rw [ht] at hP1
  obtain ⟨hP, hD⟩ := va_join (wr := [(ou, .inl (cJ, 1, .inr (.inl zl)))]) (w1 := []) hP hD [0, 1, 2, 3, 4, 5, 6, 7, 8] [9] rfl rfl (by decide) (by decide) hk1 hFc hP1 hD1
  generalize H1 = H at hP hS ⊢
  have hP : va_P (dC, dI) vwCl [(ou, .inl (cJ, 1, .inr (.inl zl)))] H := hP
  have hD : va_D A [(ou, .inl (cJ, 1, .inr (.inl zl)))] := hD
  refine W.widen (k := 0) (n := 0) (Nat.le_refl _) (Nat.le_refl _) ?_
  have hw : r_2 = 0 := hw
  subst hw
  refine lv_i2l (v := 0) hx hb dL_overhang_8 (by decide) ?_
  refine va_last hx hb hK hP hD hS 0 2 rfl rfl (by unfold vp_in; decide) dL_overhang_9 (fun H locs hP hD hS => ?_)
  have hP : va_P (dC, dI) vwCl [(ou, .inl (cJ, 1, .inr (.inl zl)))] H := by have h9 := hP; rw [upd_zl] at h9; exact h9
  have hD : va_D A [(ou, .inl (cJ, 1, .inr (.inl zl)))] := by have h9 := hD; rw [upd_zl] at h9; exact h9
  refine lv_goto (tgt := 17) hx hb dL_overhang_10 (by decide) ?_
  refine lv_iconst (v := 0) hx hb dL_overhang_17 (by decide) ?_
  have hP9 := hP.sub (ws' := [(ou, .inl (cJ, 1, .inr (.inl zl)))]) [0] rfl
  have hD9 := hD.sub (ws' := [(ou, .inl (cJ, 1, .inr (.inl zl)))]) [0] (by decide) rfl
  have hK9 := hK.sub (tys' := [(cI, .int), (cZ, .boolean), (cJ, .long)]) [0, 1, 2] rfl
  refine W.widen (k := 0) (n := 0) (Nat.le_of_ble_eq_true rfl) (Nat.le_of_ble_eq_true rfl) ?_
  exact W.iret (v := 0) hx hb hr (fun t ht hW => ⟨⟨0, (), rfl, rfl, po_mk ht hW hP9 hK9 hD9⟩, hS.F ht⟩) hS.2.2 dL_overhang_18

set_option maxHeartbeats 4000000 in
set_option maxRecDepth 100000 in
theorem h_L_swings (l : Launch) (dC : Nat → ClassId) (dI : Nat → Nat → Nat) (x : Nat) (po : Nat) (tr : Nat) (sp : Nat) (bx : Nat) (b0 : Nat) (b1 : Nat) (b4 : Nat) (b6 : Nat) (pa : Nat) (p_v : Nat) (p_st : Nat) (p_ib : Nat) (p_di : Nat) (p_wa : Nat) (p_se : Nat) (p_vh : Nat) (p_re : Nat) (cI : ClassId) (cZ : ClassId) (a0 : Int32) (a1 : Int32) (a2 : Int32) (ou : Nat) (cJ : ClassId) (sz : Nat) (g0a : ¬ a0 < 0) (g0b : ¬ 4 ≤ a0) (g1a : ¬ a1 < 1) (g1b : a1 ≤ 60) (g2a : ¬ a2 < 0) (g2b : a2 ≤ 2) : Met l yL_swings wsL_swings ({ frames := 7, cells := 0, slots := 0, locals := 193 }) (va_Pc [.ref x, .int a0, .int a1, .int a2, .ref ou] (pr_ dC dI [(x, .inr (7, [.ref bx, .ref po, .ref tr, .ref pa, .ref sp])), (bx, .inr (2, [.ref b0, .ref b1, .int 0, .int 0, .ref b4, .int 0, .ref b6, .int 0, .int 0, .int 0, .int 0])), (pa, .inr (3, [.ref p_v, .int 0, .ref p_st, .ref p_ib, .ref p_di, .ref p_wa, .ref p_se, .ref p_vh, .ref p_re])), (p_v, .inl (cI, 4, .inl zi)), (p_st, .inl (cI, 4, .inl zi)), (p_ib, .inl (cZ, 4, .inl zi)), (p_di, .inl (cI, 4, .inl zi)), (p_wa, .inl (cI, 4, .inl zi)), (p_se, .inl (cI, 4, .inl zi)), (ou, .inl (cJ, 1, .inr (.inl zl)))] [(cI, .int), (cZ, .boolean), (cJ, .long)] sz)) (va_Qi (fun (r : Int32) (_ : Unit) => r = 0) (fun (_ : Unit) t => po_ dC dI [(ou, .inl (cJ, 1, .inr (.inl zl)))] [(cI, .int), (cZ, .boolean), (cJ, .long)] (va_A [(x, .inr (7, [.ref bx, .ref po, .ref tr, .ref pa, .ref sp])), (bx, .inr (2, [.ref b0, .ref b1, .int 0, .int 0, .ref b4, .int 0, .ref b6, .int 0, .int 0, .int 0, .int 0])), (pa, .inr (3, [.ref p_v, .int 0, .ref p_st, .ref p_ib, .ref p_di, .ref p_wa, .ref p_se, .ref p_vh, .ref p_re])), (p_v, .inl (cI, 4, .inl zi)), (p_st, .inl (cI, 4, .inl zi)), (p_ib, .inl (cZ, 4, .inl zi)), (p_di, .inl (cI, 4, .inl zi)), (p_wa, .inl (cI, 4, .inl zi)), (p_se, .inl (cI, 4, .inl zi)), (ou, .inl (cJ, 1, .inr (.inl zl)))] sz) t) (va_A [(x, .inr (7, [.ref bx, .ref po, .ref tr, .ref pa, .ref sp])), (bx, .inr (2, [.ref b0, .ref b1, .int 0, .int 0, .ref b4, .int 0, .ref b6, .int 0, .int 0, .int 0, .int 0])), (pa, .inr (3, [.ref p_v, .int 0, .ref p_st, .ref p_ib, .ref p_di, .ref p_wa, .ref p_se, .ref p_vh, .ref p_re])), (p_v, .inl (cI, 4, .inl zi)), (p_st, .inl (cI, 4, .inl zi)), (p_ib, .inl (cZ, 4, .inl zi)), (p_di, .inl (cI, 4, .inl zi)), (p_wa, .inl (cI, 4, .inl zi)), (p_se, .inl (cI, 4, .inl zi)), (ou, .inl (cJ, 1, .inr (.inl zl)))] sz)) 0 0 (va_A [(x, .inr (7, [.ref bx, .ref po, .ref tr, .ref pa, .ref sp])), (bx, .inr (2, [.ref b0, .ref b1, .int 0, .int 0, .ref b4, .int 0, .ref b6, .int 0, .int 0, .int 0, .int 0])), (pa, .inr (3, [.ref p_v, .int 0, .ref p_st, .ref p_ib, .ref p_di, .ref p_wa, .ref p_se, .ref p_vh, .ref p_re])), (p_v, .inl (cI, 4, .inl zi)), (p_st, .inl (cI, 4, .inl zi)), (p_ib, .inl (cZ, 4, .inl zi)), (p_di, .inl (cI, 4, .inl zi)), (p_wa, .inl (cI, 4, .inl zi)), (p_se, .inl (cI, 4, .inl zi)), (ou, .inl (cJ, 1, .inr (.inl zl)))] sz) := by
  refine va_MetW (cc := cL_swings) (maxL := 6) (ret := (some .int)) (by decide) rfl ?_
  intro p e s m args below meth c s₁ B hml hv
  obtain ⟨rfl, hsz, hP, hK, hD0⟩ := hv
  have hx := B.exec
  have hb := B.bytes
  have hr := B.returns
  have hts := atoms_spec (ws := wsL_swings) B.pre
  have hown : s.vm.findClass RL = some m.cls := findClass_of_methodNamed B.named
  have hlocks := B.notSynchronized
  subst hsz
  have hD := hD0.self (sz := s.heap.size)
  generalize hAe : va_A [(x, .inr (7, [.ref bx, .ref po, .ref tr, .ref pa, .ref sp])), (bx, .inr (2, [.ref b0, .ref b1, .int 0, .int 0, .ref b4, .int 0, .ref b6, .int 0, .int 0, .int 0, .int 0])), (pa, .inr (3, [.ref p_v, .int 0, .ref p_st, .ref p_ib, .ref p_di, .ref p_wa, .ref p_se, .ref p_vh, .ref p_re])), (p_v, .inl (cI, 4, .inl zi)), (p_st, .inl (cI, 4, .inl zi)), (p_ib, .inl (cZ, 4, .inl zi)), (p_di, .inl (cI, 4, .inl zi)), (p_wa, .inl (cI, 4, .inl zi)), (p_se, .inl (cI, 4, .inl zi)), (ou, .inl (cJ, 1, .inr (.inl zl)))] s.heap.size = A at hD ⊢
  have hA : ∀ q : Nat, s.heap.size ≤ q → A q := fun q h => by rw [← hAe]; exact Or.inr h
  have hS : va_S A s.heap s.heap [] := va_S.rf
  have hP : va_P (dC, dI) vwCl [(x, .inr (7, [.ref bx, .ref po, .ref tr, .ref pa, .ref sp])), (bx, .inr (2, [.ref b0, .ref b1, .int 0, .int 0, .ref b4, .int 0, .ref b6, .int 0, .int 0, .int 0, .int 0])), (pa, .inr (3, [.ref p_v, .int 0, .ref p_st, .ref p_ib, .ref p_di, .ref p_wa, .ref p_se, .ref p_vh, .ref p_re])), (p_v, .inl (cI, 4, .inl zi)), (p_st, .inl (cI, 4, .inl zi)), (p_ib, .inl (cZ, 4, .inl zi)), (p_di, .inl (cI, 4, .inl zi)), (p_wa, .inl (cI, 4, .inl zi)), (p_se, .inl (cI, 4, .inl zi)), (ou, .inl (cJ, 1, .inr (.inl zl)))] s.heap := hP
  have hK : va_K (dC, dI) vwCl [(cI, .int), (cZ, .boolean), (cJ, .long)] s := hK
  have hl := lv_entry ([.ref x, .int a0, .int a1, .int a2, .ref ou]) (n := 6) (Nat.le_of_ble_eq_true rfl)
  rw [lg_entry_eq]
  generalize (lg_sl ([.ref x, .int a0, .int a1, .int a2, .ref ou]) ++ List.replicate (6 - (lg_sl ([.ref x, .int a0, .int a1, .int a2, .ref ou])).length) Slot.unset).toArray = ls at hl ⊢
  have hl : lv_has ls 6 [(0, .ref x), (1, .int a0), (2, .int a1), (3, .int a2), (4, .ref ou)] := hl
  refine lv_aload hx hb dL_swings_0 (lv_at hl 4 rfl) ?_
  refine lv_iconst (v := 0) hx hb dL_swings_2 (by decide) ?_
  refine lv_aload_n hx hb dL_swings_3 rfl (lv_at hl 0 rfl) ?_
  refine lv_iload_n hx hb dL_swings_4 rfl (lv_at hl 1 rfl) ?_
  refine lv_iload_n hx hb dL_swings_5 rfl (lv_at hl 2 rfl) ?_
  refine lv_iload_n hx hb dL_swings_6 rfl (lv_at hl 3 rfl) ?_
  have hPc := hP.sub (ws' := [(x, .inr (7, [.ref bx, .ref po, .ref tr, .ref pa, .ref sp])), (bx, .inr (2, [.ref b0, .ref b1, .int 0, .int 0, .ref b4, .int 0, .ref b6, .int 0, .int 0, .int 0, .int 0])), (pa, .inr (3, [.ref p_v, .int 0, .ref p_st, .ref p_ib, .ref p_di, .ref p_wa, .ref p_se, .ref p_vh, .ref p_re])), (p_v, .inl (cI, 4, .inl zi)), (p_st, .inl (cI, 4, .inl zi)), (p_ib, .inl (cZ, 4, .inl zi)), (p_di, .inl (cI, 4, .inl zi)), (p_wa, .inl (cI, 4, .inl zi)), (p_se, .inl (cI, 4, .inl zi))]) [0, 1, 2, 3, 4, 5, 6, 7, 8] rfl
  have hDc := hD.sub (ws' := [(x, .inr (7, [.ref bx, .ref po, .ref tr, .ref pa, .ref sp])), (bx, .inr (2, [.ref b0, .ref b1, .int 0, .int 0, .ref b4, .int 0, .ref b6, .int 0, .int 0, .int 0, .int 0])), (pa, .inr (3, [.ref p_v, .int 0, .ref p_st, .ref p_ib, .ref p_di, .ref p_wa, .ref p_se, .ref p_vh, .ref p_re])), (p_v, .inl (cI, 4, .inl zi)), (p_st, .inl (cI, 4, .inl zi)), (p_ib, .inl (cZ, 4, .inl zi)), (p_di, .inl (cI, 4, .inl zi)), (p_wa, .inl (cI, 4, .inl zi)), (p_se, .inl (cI, 4, .inl zi))]) [0, 1, 2, 3, 4, 5, 6, 7, 8] (by decide) rfl
  have hKc := hK.sub (tys' := [(cI, .int), (cZ, .boolean)]) [0, 1] rfl
  have hFc := va_free (wc := [(x, .inr (7, [.ref bx, .ref po, .ref tr, .ref pa, .ref sp])), (bx, .inr (2, [.ref b0, .ref b1, .int 0, .int 0, .ref b4, .int 0, .ref b6, .int 0, .int 0, .int 0, .int 0])), (pa, .inr (3, [.ref p_v, .int 0, .ref p_st, .ref p_ib, .ref p_di, .ref p_wa, .ref p_se, .ref p_vh, .ref p_re])), (p_v, .inl (cI, 4, .inl zi)), (p_st, .inl (cI, 4, .inl zi)), (p_ib, .inl (cZ, 4, .inl zi)), (p_di, .inl (cI, 4, .inl zi)), (p_wa, .inl (cI, 4, .inl zi)), (p_se, .inl (cI, 4, .inl zi))]) hD hS hA [0, 1, 2, 3, 4, 5, 6, 7, 8] rfl
  refine va_calli (va_runV (As := [.int a0, .int a1, .int a2]) (rest := [.int 0, .ref ou]) ⟨hx, hb, hml, hown, hts⟩ (c_X5_swings l dC dI x po tr sp bx b0 b1 b4 b6 pa p_v p_st p_ib p_di p_wa p_se p_vh p_re cI cZ a0 a1 a2 _ g0a g0b g1a g1b g2a g2b) (cwV 3 hts gL_swings_X5_swings rfl rfl rfl (by decide +kernel) ⟨Nat.le_of_ble_eq_true rfl, Nat.le_of_ble_eq_true rfl⟩) ⟨pr_blind, va_recv hKc hPc (ci := 7) (q0 := 0) rfl rfl, fun U hU hW => ⟨rfl, pr_mk hU hW hPc hKc hDc⟩⟩ rfl rfl hl.1 rfl (lv_room (Nat.le_of_ble_eq_true rfl)) dL_swings_7 ⟨Nat.le_of_ble_eq_true rfl, Nat.le_of_ble_eq_true rfl⟩) hS (fun q _ h => hFc q h) hFc (fun r_2 u_1 t H1 locs ht hvm hw hB hz1 hk1 hS => ?_)
  obtain ⟨hP1, hK1, hD1⟩ := hB
  rw [ht] at hP1
  obtain ⟨hP, hD⟩ := va_join (wr := [(ou, .inl (cJ, 1, .inr (.inl zl)))]) (w1 := []) hP hD [0, 1, 2, 3, 4, 5, 6, 7, 8] [9] rfl rfl (by decide) (by decide) hk1 hFc hP1 hD1
  generalize H1 = H at hP hS ⊢
  have hP : va_P (dC, dI) vwCl [(ou, .inl (cJ, 1, .inr (.inl zl)))] H := hP
  have hD : va_D A [(ou, .inl (cJ, 1, .inr (.inl zl)))] := hD
  refine W.widen (k := 0) (n := 0) (Nat.le_refl _) (Nat.le_refl _) ?_
  have hw : r_2 = 0 := hw
  subst hw
  refine lv_i2l (v := 0) hx hb dL_swings_10 (by decide) ?_
  refine va_last hx hb hK hP hD hS 0 2 rfl rfl (by unfold vp_in; decide) dL_swings_11 (fun H locs hP hD hS => ?_)
  have hP : va_P (dC, dI) vwCl [(ou, .inl (cJ, 1, .inr (.inl zl)))] H := by have h9 := hP; rw [upd_zl] at h9; exact h9
  have hD : va_D A [(ou, .inl (cJ, 1, .inr (.inl zl)))] := by have h9 := hD; rw [upd_zl] at h9; exact h9
  refine lv_goto (tgt := 23) hx hb dL_swings_12 (by decide) ?_
  refine lv_iconst (v := 0) hx hb dL_swings_23 (by decide) ?_
  have hP9 := hP.sub (ws' := [(ou, .inl (cJ, 1, .inr (.inl zl)))]) [0] rfl
  have hD9 := hD.sub (ws' := [(ou, .inl (cJ, 1, .inr (.inl zl)))]) [0] (by decide) rfl
  have hK9 := hK.sub (tys' := [(cI, .int), (cZ, .boolean), (cJ, .long)]) [0, 1, 2] rfl
  refine W.widen (k := 0) (n := 0) (Nat.le_of_ble_eq_true rfl) (Nat.le_of_ble_eq_true rfl) ?_
  exact W.iret (v := 0) hx hb hr (fun t ht hW => ⟨⟨0, (), rfl, rfl, po_mk ht hW hP9 hK9 hD9⟩, hS.F ht⟩) hS.2.2 dL_swings_24

set_option maxHeartbeats 4000000 in
set_option maxRecDepth 100000 in
theorem h_L_coalition (l : Launch) (dC : Nat → ClassId) (dI : Nat → Nat → Nat) (x : Nat) (po : Nat) (tr : Nat) (sp : Nat) (bx : Nat) (b0 : Nat) (b1 : Nat) (b4 : Nat) (b6 : Nat) (pa : Nat) (p_v : Nat) (p_st : Nat) (p_ib : Nat) (p_di : Nat) (p_wa : Nat) (p_se : Nat) (p_vh : Nat) (p_re : Nat) (cI : ClassId) (cZ : ClassId) (a0 : Int32) (a1 : Int32) (ou : Nat) (cJ : ClassId) (sz : Nat) (g0a : ¬ a0 < 1) (g0b : a0 ≤ 60) (g1a : ¬ a1 < 0) (g1b : a1 ≤ 2) : Met l yL_coalition wsL_coalition ({ frames := 7, cells := 0, slots := 0, locals := 192 }) (va_Pc [.ref x, .int a0, .int a1, .ref ou] (pr_ dC dI [(x, .inr (7, [.ref bx, .ref po, .ref tr, .ref pa, .ref sp])), (bx, .inr (2, [.ref b0, .ref b1, .int 0, .int 0, .ref b4, .int 0, .ref b6, .int 0, .int 0, .int 0, .int 0])), (pa, .inr (3, [.ref p_v, .int 0, .ref p_st, .ref p_ib, .ref p_di, .ref p_wa, .ref p_se, .ref p_vh, .ref p_re])), (p_v, .inl (cI, 4, .inl zi)), (p_st, .inl (cI, 4, .inl zi)), (p_ib, .inl (cZ, 4, .inl zi)), (p_di, .inl (cI, 4, .inl zi)), (p_wa, .inl (cI, 4, .inl zi)), (p_se, .inl (cI, 4, .inl zi)), (ou, .inl (cJ, 1, .inr (.inl zl)))] [(cI, .int), (cZ, .boolean), (cJ, .long)] sz)) (va_Qi (fun (r : Int32) (_ : Unit) => r = 0) (fun (_ : Unit) t => po_ dC dI [(ou, .inl (cJ, 1, .inr (.inl zl)))] [(cI, .int), (cZ, .boolean), (cJ, .long)] (va_A [(x, .inr (7, [.ref bx, .ref po, .ref tr, .ref pa, .ref sp])), (bx, .inr (2, [.ref b0, .ref b1, .int 0, .int 0, .ref b4, .int 0, .ref b6, .int 0, .int 0, .int 0, .int 0])), (pa, .inr (3, [.ref p_v, .int 0, .ref p_st, .ref p_ib, .ref p_di, .ref p_wa, .ref p_se, .ref p_vh, .ref p_re])), (p_v, .inl (cI, 4, .inl zi)), (p_st, .inl (cI, 4, .inl zi)), (p_ib, .inl (cZ, 4, .inl zi)), (p_di, .inl (cI, 4, .inl zi)), (p_wa, .inl (cI, 4, .inl zi)), (p_se, .inl (cI, 4, .inl zi)), (ou, .inl (cJ, 1, .inr (.inl zl)))] sz) t) (va_A [(x, .inr (7, [.ref bx, .ref po, .ref tr, .ref pa, .ref sp])), (bx, .inr (2, [.ref b0, .ref b1, .int 0, .int 0, .ref b4, .int 0, .ref b6, .int 0, .int 0, .int 0, .int 0])), (pa, .inr (3, [.ref p_v, .int 0, .ref p_st, .ref p_ib, .ref p_di, .ref p_wa, .ref p_se, .ref p_vh, .ref p_re])), (p_v, .inl (cI, 4, .inl zi)), (p_st, .inl (cI, 4, .inl zi)), (p_ib, .inl (cZ, 4, .inl zi)), (p_di, .inl (cI, 4, .inl zi)), (p_wa, .inl (cI, 4, .inl zi)), (p_se, .inl (cI, 4, .inl zi)), (ou, .inl (cJ, 1, .inr (.inl zl)))] sz)) 0 0 (va_A [(x, .inr (7, [.ref bx, .ref po, .ref tr, .ref pa, .ref sp])), (bx, .inr (2, [.ref b0, .ref b1, .int 0, .int 0, .ref b4, .int 0, .ref b6, .int 0, .int 0, .int 0, .int 0])), (pa, .inr (3, [.ref p_v, .int 0, .ref p_st, .ref p_ib, .ref p_di, .ref p_wa, .ref p_se, .ref p_vh, .ref p_re])), (p_v, .inl (cI, 4, .inl zi)), (p_st, .inl (cI, 4, .inl zi)), (p_ib, .inl (cZ, 4, .inl zi)), (p_di, .inl (cI, 4, .inl zi)), (p_wa, .inl (cI, 4, .inl zi)), (p_se, .inl (cI, 4, .inl zi)), (ou, .inl (cJ, 1, .inr (.inl zl)))] sz) := by
  refine va_MetW (cc := cL_coalition) (maxL := 5) (ret := (some .int)) (by decide) rfl ?_
  intro p e s m args below meth c s₁ B hml hv
  obtain ⟨rfl, hsz, hP, hK, hD0⟩ := hv
  have hx := B.exec
  have hb := B.bytes
  have hr := B.returns
  have hts := atoms_spec (ws := wsL_coalition) B.pre
  have hown : s.vm.findClass RL = some m.cls := findClass_of_methodNamed B.named
  have hlocks := B.notSynchronized
  subst hsz
  have hD := hD0.self (sz := s.heap.size)
  generalize hAe : va_A [(x, .inr (7, [.ref bx, .ref po, .ref tr, .ref pa, .ref sp])), (bx, .inr (2, [.ref b0, .ref b1, .int 0, .int 0, .ref b4, .int 0, .ref b6, .int 0, .int 0, .int 0, .int 0])), (pa, .inr (3, [.ref p_v, .int 0, .ref p_st, .ref p_ib, .ref p_di, .ref p_wa, .ref p_se, .ref p_vh, .ref p_re])), (p_v, .inl (cI, 4, .inl zi)), (p_st, .inl (cI, 4, .inl zi)), (p_ib, .inl (cZ, 4, .inl zi)), (p_di, .inl (cI, 4, .inl zi)), (p_wa, .inl (cI, 4, .inl zi)), (p_se, .inl (cI, 4, .inl zi)), (ou, .inl (cJ, 1, .inr (.inl zl)))] s.heap.size = A at hD ⊢
  have hA : ∀ q : Nat, s.heap.size ≤ q → A q := fun q h => by rw [← hAe]; exact Or.inr h
  have hS : va_S A s.heap s.heap [] := va_S.rf
  have hP : va_P (dC, dI) vwCl [(x, .inr (7, [.ref bx, .ref po, .ref tr, .ref pa, .ref sp])), (bx, .inr (2, [.ref b0, .ref b1, .int 0, .int 0, .ref b4, .int 0, .ref b6, .int 0, .int 0, .int 0, .int 0])), (pa, .inr (3, [.ref p_v, .int 0, .ref p_st, .ref p_ib, .ref p_di, .ref p_wa, .ref p_se, .ref p_vh, .ref p_re])), (p_v, .inl (cI, 4, .inl zi)), (p_st, .inl (cI, 4, .inl zi)), (p_ib, .inl (cZ, 4, .inl zi)), (p_di, .inl (cI, 4, .inl zi)), (p_wa, .inl (cI, 4, .inl zi)), (p_se, .inl (cI, 4, .inl zi)), (ou, .inl (cJ, 1, .inr (.inl zl)))] s.heap := hP
  have hK : va_K (dC, dI) vwCl [(cI, .int), (cZ, .boolean), (cJ, .long)] s := hK
  have hl := lv_entry ([.ref x, .int a0, .int a1, .ref ou]) (n := 5) (Nat.le_of_ble_eq_true rfl)
  rw [lg_entry_eq]
  generalize (lg_sl ([.ref x, .int a0, .int a1, .ref ou]) ++ List.replicate (5 - (lg_sl ([.ref x, .int a0, .int a1, .ref ou])).length) Slot.unset).toArray = ls at hl ⊢
  have hl : lv_has ls 5 [(0, .ref x), (1, .int a0), (2, .int a1), (3, .ref ou)] := hl
  refine lv_aload_n hx hb dL_coalition_0 rfl (lv_at hl 3 rfl) ?_
  refine lv_iconst (v := 0) hx hb dL_coalition_1 (by decide) ?_
  refine lv_aload_n hx hb dL_coalition_2 rfl (lv_at hl 0 rfl) ?_
  refine lv_iload_n hx hb dL_coalition_3 rfl (lv_at hl 1 rfl) ?_
  refine lv_iload_n hx hb dL_coalition_4 rfl (lv_at hl 2 rfl) ?_
  have hPc := hP.sub (ws' := [(x, .inr (7, [.ref bx, .ref po, .ref tr, .ref pa, .ref sp])), (bx, .inr (2, [.ref b0, .ref b1, .int 0, .int 0, .ref b4, .int 0, .ref b6, .int 0, .int 0, .int 0, .int 0])), (pa, .inr (3, [.ref p_v, .int 0, .ref p_st, .ref p_ib, .ref p_di, .ref p_wa, .ref p_se, .ref p_vh, .ref p_re])), (p_v, .inl (cI, 4, .inl zi)), (p_st, .inl (cI, 4, .inl zi)), (p_ib, .inl (cZ, 4, .inl zi)), (p_di, .inl (cI, 4, .inl zi)), (p_wa, .inl (cI, 4, .inl zi)), (p_se, .inl (cI, 4, .inl zi))]) [0, 1, 2, 3, 4, 5, 6, 7, 8] rfl
  have hDc := hD.sub (ws' := [(x, .inr (7, [.ref bx, .ref po, .ref tr, .ref pa, .ref sp])), (bx, .inr (2, [.ref b0, .ref b1, .int 0, .int 0, .ref b4, .int 0, .ref b6, .int 0, .int 0, .int 0, .int 0])), (pa, .inr (3, [.ref p_v, .int 0, .ref p_st, .ref p_ib, .ref p_di, .ref p_wa, .ref p_se, .ref p_vh, .ref p_re])), (p_v, .inl (cI, 4, .inl zi)), (p_st, .inl (cI, 4, .inl zi)), (p_ib, .inl (cZ, 4, .inl zi)), (p_di, .inl (cI, 4, .inl zi)), (p_wa, .inl (cI, 4, .inl zi)), (p_se, .inl (cI, 4, .inl zi))]) [0, 1, 2, 3, 4, 5, 6, 7, 8] (by decide) rfl
  have hKc := hK.sub (tys' := [(cI, .int), (cZ, .boolean)]) [0, 1] rfl
  have hFc := va_free (wc := [(x, .inr (7, [.ref bx, .ref po, .ref tr, .ref pa, .ref sp])), (bx, .inr (2, [.ref b0, .ref b1, .int 0, .int 0, .ref b4, .int 0, .ref b6, .int 0, .int 0, .int 0, .int 0])), (pa, .inr (3, [.ref p_v, .int 0, .ref p_st, .ref p_ib, .ref p_di, .ref p_wa, .ref p_se, .ref p_vh, .ref p_re])), (p_v, .inl (cI, 4, .inl zi)), (p_st, .inl (cI, 4, .inl zi)), (p_ib, .inl (cZ, 4, .inl zi)), (p_di, .inl (cI, 4, .inl zi)), (p_wa, .inl (cI, 4, .inl zi)), (p_se, .inl (cI, 4, .inl zi))]) hD hS hA [0, 1, 2, 3, 4, 5, 6, 7, 8] rfl
  refine va_calli (va_runV (As := [.int a0, .int a1]) (rest := [.int 0, .ref ou]) ⟨hx, hb, hml, hown, hts⟩ (c_X5_coalition l dC dI x po tr sp bx b0 b1 b4 b6 pa p_v p_st p_ib p_di p_wa p_se p_vh p_re cI cZ a0 a1 _ g0a g0b g1a g1b) (cwV 2 hts gL_coalition_X5_coalition rfl rfl rfl (by decide +kernel) ⟨Nat.le_of_ble_eq_true rfl, Nat.le_of_ble_eq_true rfl⟩) ⟨pr_blind, va_recv hKc hPc (ci := 7) (q0 := 0) rfl rfl, fun U hU hW => ⟨rfl, pr_mk hU hW hPc hKc hDc⟩⟩ rfl rfl hl.1 rfl (lv_room (Nat.le_of_ble_eq_true rfl)) dL_coalition_5 ⟨Nat.le_of_ble_eq_true rfl, Nat.le_of_ble_eq_true rfl⟩) hS (fun q _ h => hFc q h) hFc (fun r_2 u_1 t H1 locs ht hvm hw hB hz1 hk1 hS => ?_)
  obtain ⟨hP1, hK1, hD1⟩ := hB
  rw [ht] at hP1
  obtain ⟨hP, hD⟩ := va_join (wr := [(ou, .inl (cJ, 1, .inr (.inl zl)))]) (w1 := []) hP hD [0, 1, 2, 3, 4, 5, 6, 7, 8] [9] rfl rfl (by decide) (by decide) hk1 hFc hP1 hD1
  generalize H1 = H at hP hS ⊢
  have hP : va_P (dC, dI) vwCl [(ou, .inl (cJ, 1, .inr (.inl zl)))] H := hP
  have hD : va_D A [(ou, .inl (cJ, 1, .inr (.inl zl)))] := hD
  refine W.widen (k := 0) (n := 0) (Nat.le_refl _) (Nat.le_refl _) ?_
  have hw : r_2 = 0 := hw
  subst hw
  refine lv_i2l (v := 0) hx hb dL_coalition_8 (by decide) ?_
  refine va_last hx hb hK hP hD hS 0 2 rfl rfl (by unfold vp_in; decide) dL_coalition_9 (fun H locs hP hD hS => ?_)
  have hP : va_P (dC, dI) vwCl [(ou, .inl (cJ, 1, .inr (.inl zl)))] H := by have h9 := hP; rw [upd_zl] at h9; exact h9
  have hD : va_D A [(ou, .inl (cJ, 1, .inr (.inl zl)))] := by have h9 := hD; rw [upd_zl] at h9; exact h9
  refine lv_goto (tgt := 17) hx hb dL_coalition_10 (by decide) ?_
  refine lv_iconst (v := 0) hx hb dL_coalition_17 (by decide) ?_
  have hP9 := hP.sub (ws' := [(ou, .inl (cJ, 1, .inr (.inl zl)))]) [0] rfl
  have hD9 := hD.sub (ws' := [(ou, .inl (cJ, 1, .inr (.inl zl)))]) [0] (by decide) rfl
  have hK9 := hK.sub (tys' := [(cI, .int), (cZ, .boolean), (cJ, .long)]) [0, 1, 2] rfl
  refine W.widen (k := 0) (n := 0) (Nat.le_of_ble_eq_true rfl) (Nat.le_of_ble_eq_true rfl) ?_
  exact W.iret (v := 0) hx hb hr (fun t ht hW => ⟨⟨0, (), rfl, rfl, po_mk ht hW hP9 hK9 hD9⟩, hS.F ht⟩) hS.2.2 dL_coalition_18

set_option maxHeartbeats 4000000 in
set_option maxRecDepth 100000 in
theorem h_L_gap (l : Launch) (dC : Nat → ClassId) (dI : Nat → Nat → Nat) (x : Nat) (po : Nat) (tr : Nat) (sp : Nat) (bx : Nat) (b0 : Nat) (b1 : Nat) (b4 : Nat) (b6 : Nat) (pa : Nat) (p_v : Nat) (p_st : Nat) (p_ib : Nat) (p_di : Nat) (p_wa : Nat) (p_se : Nat) (p_vh : Nat) (p_re : Nat) (cI : ClassId) (cZ : ClassId) (a0 : Int32) (a1 : Int32) (ou : Nat) (cD : ClassId) (sz : Nat) (g0a : ¬ a0 < 0) (g0b : ¬ 4 ≤ a0) (g1a : ¬ a1 < 0) (g1b : ¬ 4 ≤ a1) : Met l yL_gap wsL_gap ({ frames := 7, cells := 0, slots := 0, locals := 194 }) (va_Pc [.ref x, .int a0, .int a1, .ref ou] (pr_ dC dI [(x, .inr (7, [.ref bx, .ref po, .ref tr, .ref pa, .ref sp])), (bx, .inr (2, [.ref b0, .ref b1, .int 0, .int 0, .ref b4, .int 0, .ref b6, .int 0, .int 0, .int 0, .int 0])), (pa, .inr (3, [.ref p_v, .int 0, .ref p_st, .ref p_ib, .ref p_di, .ref p_wa, .ref p_se, .ref p_vh, .ref p_re])), (p_v, .inl (cI, 4, .inl zi)), (p_st, .inl (cI, 4, .inl zi)), (p_ib, .inl (cZ, 4, .inl zi)), (p_di, .inl (cI, 4, .inl zi)), (p_wa, .inl (cI, 4, .inl zi)), (p_se, .inl (cI, 4, .inl zi)), (ou, .inl (cD, 1, .inr (.inr (.inr (.inl zd)))))] [(cI, .int), (cZ, .boolean), (cD, .double)] sz)) (va_Qi (fun (r : Int32) (_ : Unit) => r = 0) (fun (_ : Unit) t => po_ dC dI [(ou, .inl (cD, 1, .inr (.inr (.inr (.inl zd)))))] [(cI, .int), (cZ, .boolean), (cD, .double)] (va_A [(x, .inr (7, [.ref bx, .ref po, .ref tr, .ref pa, .ref sp])), (bx, .inr (2, [.ref b0, .ref b1, .int 0, .int 0, .ref b4, .int 0, .ref b6, .int 0, .int 0, .int 0, .int 0])), (pa, .inr (3, [.ref p_v, .int 0, .ref p_st, .ref p_ib, .ref p_di, .ref p_wa, .ref p_se, .ref p_vh, .ref p_re])), (p_v, .inl (cI, 4, .inl zi)), (p_st, .inl (cI, 4, .inl zi)), (p_ib, .inl (cZ, 4, .inl zi)), (p_di, .inl (cI, 4, .inl zi)), (p_wa, .inl (cI, 4, .inl zi)), (p_se, .inl (cI, 4, .inl zi)), (ou, .inl (cD, 1, .inr (.inr (.inr (.inl zd)))))] sz) t) (va_A [(x, .inr (7, [.ref bx, .ref po, .ref tr, .ref pa, .ref sp])), (bx, .inr (2, [.ref b0, .ref b1, .int 0, .int 0, .ref b4, .int 0, .ref b6, .int 0, .int 0, .int 0, .int 0])), (pa, .inr (3, [.ref p_v, .int 0, .ref p_st, .ref p_ib, .ref p_di, .ref p_wa, .ref p_se, .ref p_vh, .ref p_re])), (p_v, .inl (cI, 4, .inl zi)), (p_st, .inl (cI, 4, .inl zi)), (p_ib, .inl (cZ, 4, .inl zi)), (p_di, .inl (cI, 4, .inl zi)), (p_wa, .inl (cI, 4, .inl zi)), (p_se, .inl (cI, 4, .inl zi)), (ou, .inl (cD, 1, .inr (.inr (.inr (.inl zd)))))] sz)) 0 0 (va_A [(x, .inr (7, [.ref bx, .ref po, .ref tr, .ref pa, .ref sp])), (bx, .inr (2, [.ref b0, .ref b1, .int 0, .int 0, .ref b4, .int 0, .ref b6, .int 0, .int 0, .int 0, .int 0])), (pa, .inr (3, [.ref p_v, .int 0, .ref p_st, .ref p_ib, .ref p_di, .ref p_wa, .ref p_se, .ref p_vh, .ref p_re])), (p_v, .inl (cI, 4, .inl zi)), (p_st, .inl (cI, 4, .inl zi)), (p_ib, .inl (cZ, 4, .inl zi)), (p_di, .inl (cI, 4, .inl zi)), (p_wa, .inl (cI, 4, .inl zi)), (p_se, .inl (cI, 4, .inl zi)), (ou, .inl (cD, 1, .inr (.inr (.inr (.inl zd)))))] sz) := by
  refine va_MetW (cc := cL_gap) (maxL := 5) (ret := (some .int)) (by decide) rfl ?_
  intro p e s m args below meth c s₁ B hml hv
  obtain ⟨rfl, hsz, hP, hK, hD0⟩ := hv
  have hx := B.exec
  have hb := B.bytes
  have hr := B.returns
  have hts := atoms_spec (ws := wsL_gap) B.pre
  have hown : s.vm.findClass RL = some m.cls := findClass_of_methodNamed B.named
  have hlocks := B.notSynchronized
  subst hsz
  have hD := hD0.self (sz := s.heap.size)
  generalize hAe : va_A [(x, .inr (7, [.ref bx, .ref po, .ref tr, .ref pa, .ref sp])), (bx, .inr (2, [.ref b0, .ref b1, .int 0, .int 0, .ref b4, .int 0, .ref b6, .int 0, .int 0, .int 0, .int 0])), (pa, .inr (3, [.ref p_v, .int 0, .ref p_st, .ref p_ib, .ref p_di, .ref p_wa, .ref p_se, .ref p_vh, .ref p_re])), (p_v, .inl (cI, 4, .inl zi)), (p_st, .inl (cI, 4, .inl zi)), (p_ib, .inl (cZ, 4, .inl zi)), (p_di, .inl (cI, 4, .inl zi)), (p_wa, .inl (cI, 4, .inl zi)), (p_se, .inl (cI, 4, .inl zi)), (ou, .inl (cD, 1, .inr (.inr (.inr (.inl zd)))))] s.heap.size = A at hD ⊢
  have hA : ∀ q : Nat, s.heap.size ≤ q → A q := fun q h => by rw [← hAe]; exact Or.inr h
  have hS : va_S A s.heap s.heap [] := va_S.rf
  have hP : va_P (dC, dI) vwCl [(x, .inr (7, [.ref bx, .ref po, .ref tr, .ref pa, .ref sp])), (bx, .inr (2, [.ref b0, .ref b1, .int 0, .int 0, .ref b4, .int 0, .ref b6, .int 0, .int 0, .int 0, .int 0])), (pa, .inr (3, [.ref p_v, .int 0, .ref p_st, .ref p_ib, .ref p_di, .ref p_wa, .ref p_se, .ref p_vh, .ref p_re])), (p_v, .inl (cI, 4, .inl zi)), (p_st, .inl (cI, 4, .inl zi)), (p_ib, .inl (cZ, 4, .inl zi)), (p_di, .inl (cI, 4, .inl zi)), (p_wa, .inl (cI, 4, .inl zi)), (p_se, .inl (cI, 4, .inl zi)), (ou, .inl (cD, 1, .inr (.inr (.inr (.inl zd)))))] s.heap := hP
  have hK : va_K (dC, dI) vwCl [(cI, .int), (cZ, .boolean), (cD, .double)] s := hK
  have hl := lv_entry ([.ref x, .int a0, .int a1, .ref ou]) (n := 5) (Nat.le_of_ble_eq_true rfl)
  rw [lg_entry_eq]
  generalize (lg_sl ([.ref x, .int a0, .int a1, .ref ou]) ++ List.replicate (5 - (lg_sl ([.ref x, .int a0, .int a1, .ref ou])).length) Slot.unset).toArray = ls at hl ⊢
  have hl : lv_has ls 5 [(0, .ref x), (1, .int a0), (2, .int a1), (3, .ref ou)] := hl
  refine lv_aload_n hx hb dL_gap_0 rfl (lv_at hl 3 rfl) ?_
  refine lv_iconst (v := 0) hx hb dL_gap_1 (by decide) ?_
  refine lv_aload_n hx hb dL_gap_2 rfl (lv_at hl 0 rfl) ?_
  refine lv_iload_n hx hb dL_gap_3 rfl (lv_at hl 1 rfl) ?_
  refine lv_iload_n hx hb dL_gap_4 rfl (lv_at hl 2 rfl) ?_
  have hPc := hP.sub (ws' := [(x, .inr (7, [.ref bx, .ref po, .ref tr, .ref pa, .ref sp])), (bx, .inr (2, [.ref b0, .ref b1, .int 0, .int 0, .ref b4, .int 0, .ref b6, .int 0, .int 0, .int 0, .int 0])), (pa, .inr (3, [.ref p_v, .int 0, .ref p_st, .ref p_ib, .ref p_di, .ref p_wa, .ref p_se, .ref p_vh, .ref p_re])), (p_v, .inl (cI, 4, .inl zi)), (p_st, .inl (cI, 4, .inl zi)), (p_ib, .inl (cZ, 4, .inl zi)), (p_di, .inl (cI, 4, .inl zi)), (p_wa, .inl (cI, 4, .inl zi)), (p_se, .inl (cI, 4, .inl zi))]) [0, 1, 2, 3, 4, 5, 6, 7, 8] rfl
  have hDc := hD.sub (ws' := [(x, .inr (7, [.ref bx, .ref po, .ref tr, .ref pa, .ref sp])), (bx, .inr (2, [.ref b0, .ref b1, .int 0, .int 0, .ref b4, .int 0, .ref b6, .int 0, .int 0, .int 0, .int 0])), (pa, .inr (3, [.ref p_v, .int 0, .ref p_st, .ref p_ib, .ref p_di, .ref p_wa, .ref p_se, .ref p_vh, .ref p_re])), (p_v, .inl (cI, 4, .inl zi)), (p_st, .inl (cI, 4, .inl zi)), (p_ib, .inl (cZ, 4, .inl zi)), (p_di, .inl (cI, 4, .inl zi)), (p_wa, .inl (cI, 4, .inl zi)), (p_se, .inl (cI, 4, .inl zi))]) [0, 1, 2, 3, 4, 5, 6, 7, 8] (by decide) rfl
  have hKc := hK.sub (tys' := [(cI, .int), (cZ, .boolean)]) [0, 1] rfl
  have hFc := va_free (wc := [(x, .inr (7, [.ref bx, .ref po, .ref tr, .ref pa, .ref sp])), (bx, .inr (2, [.ref b0, .ref b1, .int 0, .int 0, .ref b4, .int 0, .ref b6, .int 0, .int 0, .int 0, .int 0])), (pa, .inr (3, [.ref p_v, .int 0, .ref p_st, .ref p_ib, .ref p_di, .ref p_wa, .ref p_se, .ref p_vh, .ref p_re])), (p_v, .inl (cI, 4, .inl zi)), (p_st, .inl (cI, 4, .inl zi)), (p_ib, .inl (cZ, 4, .inl zi)), (p_di, .inl (cI, 4, .inl zi)), (p_wa, .inl (cI, 4, .inl zi)), (p_se, .inl (cI, 4, .inl zi))]) hD hS hA [0, 1, 2, 3, 4, 5, 6, 7, 8] rfl
  refine va_calld (va_runV (As := [.int a0, .int a1]) (rest := [.int 0, .ref ou]) ⟨hx, hb, hml, hown, hts⟩ (c_X5_gap l dC dI x po tr sp bx b0 b1 b4 b6 pa p_v p_st p_ib p_di p_wa p_se p_vh p_re cI cZ a0 a1 _ g0a g0b g1a g1b) (cwV 2 hts gL_gap_X5_gap rfl rfl rfl (by decide +kernel) ⟨Nat.le_of_ble_eq_true rfl, Nat.le_of_ble_eq_true rfl⟩) ⟨pr_blind, va_recv hKc hPc (ci := 7) (q0 := 0) rfl rfl, fun U hU hW => ⟨rfl, pr_mk hU hW hPc hKc hDc⟩⟩ rfl rfl hl.1 rfl (lv_room (Nat.le_of_ble_eq_true rfl)) dL_gap_5 ⟨Nat.le_of_ble_eq_true rfl, Nat.le_of_ble_eq_true rfl⟩) hS (fun q _ h => hFc q h) hFc (fun r_2 u_1 t H1 locs ht hvm hw hB hz1 hk1 hS => ?_)
  obtain ⟨hP1, hK1, hD1⟩ := hB
  rw [ht] at hP1
  obtain ⟨hP, hD⟩ := va_join (wr := [(ou, .inl (cD, 1, .inr (.inr (.inr (.inl zd)))))]) (w1 := []) hP hD [0, 1, 2, 3, 4, 5, 6, 7, 8] [9] rfl rfl (by decide) (by decide) hk1 hFc hP1 hD1
  generalize H1 = H at hP hS ⊢
  have hP : va_P (dC, dI) vwCl [(ou, .inl (cD, 1, .inr (.inr (.inr (.inl zd)))))] H := hP
  have hD : va_D A [(ou, .inl (cD, 1, .inr (.inr (.inr (.inl zd)))))] := hD
  refine W.widen (k := 0) (n := 0) (Nat.le_refl _) (Nat.le_refl _) ?_
  have hw : r_2 = FP.dconst0 := hw
  subst hw
  refine va_dast hx hb hK hP hD hS 0 2 rfl rfl (by unfold vp_in; decide) dL_gap_8 (fun H locs hP hD hS => ?_)
  have hP : va_P (dC, dI) vwCl [(ou, .inl (cD, 1, .inr (.inr (.inr (.inl zd)))))] H := by have h9 := hP; rw [upd_zd0] at h9; exact h9
  have hD : va_D A [(ou, .inl (cD, 1, .inr (.inr (.inr (.inl zd)))))] := by have h9 := hD; rw [upd_zd0] at h9; exact h9
  refine lv_goto (tgt := 16) hx hb dL_gap_9 (by decide) ?_
  refine lv_iconst (v := 0) hx hb dL_gap_16 (by decide) ?_
  have hP9 := hP.sub (ws' := [(ou, .inl (cD, 1, .inr (.inr (.inr (.inl zd)))))]) [0] rfl
  have hD9 := hD.sub (ws' := [(ou, .inl (cD, 1, .inr (.inr (.inr (.inl zd)))))]) [0] (by decide) rfl
  have hK9 := hK.sub (tys' := [(cI, .int), (cZ, .boolean), (cD, .double)]) [0, 1, 2] rfl
  refine W.widen (k := 0) (n := 0) (Nat.le_of_ble_eq_true rfl) (Nat.le_of_ble_eq_true rfl) ?_
  exact W.iret (v := 0) hx hb hr (fun t ht hW => ⟨⟨0, (), rfl, rfl, po_mk ht hW hP9 hK9 hD9⟩, hS.F ht⟩) hS.2.2 dL_gap_17

set_option maxHeartbeats 4000000 in
set_option maxRecDepth 100000 in
theorem h_L_many (l : Launch) (dC : Nat → ClassId) (dI : Nat → Nat → Nat) (x : Nat) (po : Nat) (tr : Nat) (sp : Nat) (bx : Nat) (b0 : Nat) (b1 : Nat) (b4 : Nat) (b6 : Nat) (pa : Nat) (a0 : Int32) (ou : Nat) (cJ : ClassId) (sz : Nat) (g0a : ¬ a0 < 0) (g0b : a0 ≤ 9) : Met l yL_many wsL_many ({ frames := 7, cells := 0, slots := 0, locals := 191 }) (va_Pc [.ref x, .int a0, .ref ou] (pr_ dC dI [(x, .inr (7, [.ref bx, .ref po, .ref tr, .ref pa, .ref sp])), (bx, .inr (2, [.ref b0, .ref b1, .int 0, .int 0, .ref b4, .int 0, .ref b6, .int 0, .int 0, .int 0, .int 0])), (ou, .inl (cJ, 1, .inr (.inl zl)))] [(cJ, .long)] sz)) (va_Qi (fun (r : Int32) (_ : Unit) => r = 0) (fun (_ : Unit) t => po_ dC dI [(ou, .inl (cJ, 1, .inr (.inl zl)))] [(cJ, .long)] (va_A [(x, .inr (7, [.ref bx, .ref po, .ref tr, .ref pa, .ref sp])), (bx, .inr (2, [.ref b0, .ref b1, .int 0, .int 0, .ref b4, .int 0, .ref b6, .int 0, .int 0, .int 0, .int 0])), (ou, .inl (cJ, 1, .inr (.inl zl)))] sz) t) (va_A [(x, .inr (7, [.ref bx, .ref po, .ref tr, .ref pa, .ref sp])), (bx, .inr (2, [.ref b0, .ref b1, .int 0, .int 0, .ref b4, .int 0, .ref b6, .int 0, .int 0, .int 0, .int 0])), (ou, .inl (cJ, 1, .inr (.inl zl)))] sz)) 0 0 (va_A [(x, .inr (7, [.ref bx, .ref po, .ref tr, .ref pa, .ref sp])), (bx, .inr (2, [.ref b0, .ref b1, .int 0, .int 0, .ref b4, .int 0, .ref b6, .int 0, .int 0, .int 0, .int 0])), (ou, .inl (cJ, 1, .inr (.inl zl)))] sz) := by
  refine va_MetW (cc := cL_many) (maxL := 4) (ret := (some .int)) (by decide) rfl ?_
  intro p e s m args below meth c s₁ B hml hv
  obtain ⟨rfl, hsz, hP, hK, hD0⟩ := hv
  have hx := B.exec
  have hb := B.bytes
  have hr := B.returns
  have hts := atoms_spec (ws := wsL_many) B.pre
  have hown : s.vm.findClass RL = some m.cls := findClass_of_methodNamed B.named
  have hlocks := B.notSynchronized
  subst hsz
  have hD := hD0.self (sz := s.heap.size)
  generalize hAe : va_A [(x, .inr (7, [.ref bx, .ref po, .ref tr, .ref pa, .ref sp])), (bx, .inr (2, [.ref b0, .ref b1, .int 0, .int 0, .ref b4, .int 0, .ref b6, .int 0, .int 0, .int 0, .int 0])), (ou, .inl (cJ, 1, .inr (.inl zl)))] s.heap.size = A at hD ⊢
  have hA : ∀ q : Nat, s.heap.size ≤ q → A q := fun q h => by rw [← hAe]; exact Or.inr h
  have hS : va_S A s.heap s.heap [] := va_S.rf
  have hP : va_P (dC, dI) vwCl [(x, .inr (7, [.ref bx, .ref po, .ref tr, .ref pa, .ref sp])), (bx, .inr (2, [.ref b0, .ref b1, .int 0, .int 0, .ref b4, .int 0, .ref b6, .int 0, .int 0, .int 0, .int 0])), (ou, .inl (cJ, 1, .inr (.inl zl)))] s.heap := hP
  have hK : va_K (dC, dI) vwCl [(cJ, .long)] s := hK
  have hl := lv_entry ([.ref x, .int a0, .ref ou]) (n := 4) (Nat.le_of_ble_eq_true rfl)
  rw [lg_entry_eq]
  generalize (lg_sl ([.ref x, .int a0, .ref ou]) ++ List.replicate (4 - (lg_sl ([.ref x, .int a0, .ref ou])).length) Slot.unset).toArray = ls at hl ⊢
  have hl : lv_has ls 4 [(0, .ref x), (1, .int a0), (2, .ref ou)] := hl
  refine lv_aload_n hx hb dL_many_0 rfl (lv_at hl 2 rfl) ?_
  refine lv_iconst (v := 0) hx hb dL_many_1 (by decide) ?_
  refine lv_aload_n hx hb dL_many_2 rfl (lv_at hl 0 rfl) ?_
  refine lv_iload_n hx hb dL_many_3 rfl (lv_at hl 1 rfl) ?_
  have hPc := hP.sub (ws' := [(x, .inr (7, [.ref bx, .ref po, .ref tr, .ref pa, .ref sp])), (bx, .inr (2, [.ref b0, .ref b1, .int 0, .int 0, .ref b4, .int 0, .ref b6, .int 0, .int 0, .int 0, .int 0]))]) [0, 1] rfl
  have hDc := hD.sub (ws' := [(x, .inr (7, [.ref bx, .ref po, .ref tr, .ref pa, .ref sp])), (bx, .inr (2, [.ref b0, .ref b1, .int 0, .int 0, .ref b4, .int 0, .ref b6, .int 0, .int 0, .int 0, .int 0]))]) [0, 1] (by decide) rfl
  have hKc := hK.sub (tys' := []) [] rfl
  have hFc := va_free (wc := [(x, .inr (7, [.ref bx, .ref po, .ref tr, .ref pa, .ref sp])), (bx, .inr (2, [.ref b0, .ref b1, .int 0, .int 0, .ref b4, .int 0, .ref b6, .int 0, .int 0, .int 0, .int 0]))]) hD hS hA [0, 1] rfl
  refine va_calli (va_runV (As := [.int a0]) (rest := [.int 0, .ref ou]) ⟨hx, hb, hml, hown, hts⟩ (c_X5_many l dC dI x po tr sp pa bx b0 b1 b4 b6 a0 _ g0a g0b) (cwV 1 hts gL_many_X5_many rfl rfl rfl (by decide +kernel) ⟨Nat.le_of_ble_eq_true rfl, Nat.le_of_ble_eq_true rfl⟩) ⟨pr_blind, va_recv hKc hPc (ci := 7) (q0 := 0) rfl rfl, fun U hU hW => ⟨rfl, pr_mk hU hW hPc hKc hDc⟩⟩ rfl rfl hl.1 rfl (lv_room (Nat.le_of_ble_eq_true rfl)) dL_many_4 ⟨Nat.le_of_ble_eq_true rfl, Nat.le_of_ble_eq_true rfl⟩) hS (fun q _ h => hFc q h) hFc (fun r_2 u_1 t H1 locs ht hvm hw hB hz1 hk1 hS => ?_)
  obtain ⟨hP1, hK1, hD1⟩ := hB
  rw [ht] at hP1
  obtain ⟨hP, hD⟩ := va_join (wr := [(ou, .inl (cJ, 1, .inr (.inl zl)))]) (w1 := []) hP hD [0, 1] [2] rfl rfl (by decide) (by decide) hk1 hFc hP1 hD1
  generalize H1 = H at hP hS ⊢
  have hP : va_P (dC, dI) vwCl [(ou, .inl (cJ, 1, .inr (.inl zl)))] H := hP
  have hD : va_D A [(ou, .inl (cJ, 1, .inr (.inl zl)))] := hD
  refine W.widen (k := 0) (n := 0) (Nat.le_refl _) (Nat.le_refl _) ?_
  have hw : r_2 = 0 := hw
  subst hw
  refine lv_i2l (v := 0) hx hb dL_many_7 (by decide) ?_
  refine va_last hx hb hK hP hD hS 0 0 rfl rfl (by unfold vp_in; decide) dL_many_8 (fun H locs hP hD hS => ?_)
  have hP : va_P (dC, dI) vwCl [(ou, .inl (cJ, 1, .inr (.inl zl)))] H := by have h9 := hP; rw [upd_zl] at h9; exact h9
  have hD : va_D A [(ou, .inl (cJ, 1, .inr (.inl zl)))] := by have h9 := hD; rw [upd_zl] at h9; exact h9
  refine lv_goto (tgt := 15) hx hb dL_many_9 (by decide) ?_
  refine lv_iconst (v := 0) hx hb dL_many_15 (by decide) ?_
  have hP9 := hP.sub (ws' := [(ou, .inl (cJ, 1, .inr (.inl zl)))]) [0] rfl
  have hD9 := hD.sub (ws' := [(ou, .inl (cJ, 1, .inr (.inl zl)))]) [0] (by decide) rfl
  have hK9 := hK.sub (tys' := [(cJ, .long)]) [0] rfl
  refine W.widen (k := 0) (n := 0) (Nat.le_of_ble_eq_true rfl) (Nat.le_of_ble_eq_true rfl) ?_
  exact W.iret (v := 0) hx hb hr (fun t ht hW => ⟨⟨0, (), rfl, rfl, po_mk ht hW hP9 hK9 hD9⟩, hS.F ht⟩) hS.2.2 dL_many_16

set_option maxHeartbeats 4000000 in
set_option maxRecDepth 100000 in
theorem h0_L_withdraw (l : Launch) (hfl : l.stackTraces = false) (dC : Nat → ClassId) (dI : Nat → Nat → Nat) (x : Nat) (po : Nat) (tr : Nat) (sp : Nat) (pa : Nat) (bx : Nat) (b0 : Nat) (b1 : Nat) (b4 : Nat) (b6 : Nat) (a0 : Int32) (ou : Nat) (tx : String) (sa : Nat) (sz : Nat)  : Met l yL_withdraw wsL_withdraw ({ frames := 8, cells := 1, slots := 6, locals := 141 }) (va_Pc [.ref x, .int a0, .ref ou] (fun U => pr_ dC dI [(x, .inr (7, [.ref bx, .ref po, .ref tr, .ref pa, .ref sp])), (bx, .inr (2, [.ref b0, .ref b1, .int 0, .int 0, .ref b4, .int 0, .ref b6, .int 0, .int 0, .int 0, .int 0]))] [] sz U ∧ xs_ (va_A [(x, .inr (7, [.ref bx, .ref po, .ref tr, .ref pa, .ref sp])), (bx, .inr (2, [.ref b0, .ref b1, .int 0, .int 0, .ref b4, .int 0, .ref b6, .int 0, .int 0, .int 0, .int 0]))] sz) 296 tx sa "java/lang/IndexOutOfBoundsException" U ∧ True)) (va_Qi (fun (r : Int32) (_ : Unit) => r = 1) (fun (_ : Unit) t => po_ dC dI [] [] (va_A [(x, .inr (7, [.ref bx, .ref po, .ref tr, .ref pa, .ref sp])), (bx, .inr (2, [.ref b0, .ref b1, .int 0, .int 0, .ref b4, .int 0, .ref b6, .int 0, .int 0, .int 0, .int 0]))] sz) t) (va_A [(x, .inr (7, [.ref bx, .ref po, .ref tr, .ref pa, .ref sp])), (bx, .inr (2, [.ref b0, .ref b1, .int 0, .int 0, .ref b4, .int 0, .ref b6, .int 0, .int 0, .int 0, .int 0]))] sz)) 1 6 (va_A [(x, .inr (7, [.ref bx, .ref po, .ref tr, .ref pa, .ref sp])), (bx, .inr (2, [.ref b0, .ref b1, .int 0, .int 0, .ref b4, .int 0, .ref b6, .int 0, .int 0, .int 0, .int 0]))] sz) := by
  refine va_MetW (cc := cL_withdraw) (maxL := 4) (ret := (some .int)) (by decide) rfl ?_
  intro p e s m args below meth c s₁ B hml hv
  obtain ⟨rfl, ⟨hsz, hP, hK, hD0⟩, hXs, hNc⟩ := hv
  have hx := B.exec
  have hb := B.bytes
  have hr := B.returns
  have hts := atoms_spec (ws := wsL_withdraw) B.pre
  have htb : c.exceptionTable.toList = tableOf [(0, 9, 12, 20), (0, 9, 15, 15)] := vx_table (x := yL_withdraw) B (hts _ List.mem_cons_self)
  have hown : s.vm.findClass RL = some m.cls := findClass_of_methodNamed B.named
  have hlocks := B.notSynchronized
  subst hsz
  have hD := hD0.self (sz := s.heap.size)
  generalize hAe : va_A [(x, .inr (7, [.ref bx, .ref po, .ref tr, .ref pa, .ref sp])), (bx, .inr (2, [.ref b0, .ref b1, .int 0, .int 0, .ref b4, .int 0, .ref b6, .int 0, .int 0, .int 0, .int 0]))] s.heap.size = A at hD hXs ⊢
  have hA : ∀ q : Nat, s.heap.size ≤ q → A q := fun q h => by rw [← hAe]; exact Or.inr h
  have hS : va_S A s.heap s.heap [] := va_S.rf
  have hP : va_P (dC, dI) vwCl [(x, .inr (7, [.ref bx, .ref po, .ref tr, .ref pa, .ref sp])), (bx, .inr (2, [.ref b0, .ref b1, .int 0, .int 0, .ref b4, .int 0, .ref b6, .int 0, .int 0, .int 0, .int 0]))] s.heap := hP
  have hK : va_K (dC, dI) vwCl [] s := hK
  have hl := lv_entry ([.ref x, .int a0, .ref ou]) (n := 4) (Nat.le_of_ble_eq_true rfl)
  rw [lg_entry_eq]
  generalize (lg_sl ([.ref x, .int a0, .ref ou]) ++ List.replicate (4 - (lg_sl ([.ref x, .int a0, .ref ou])).length) Slot.unset).toArray = ls at hl ⊢
  have hl : lv_has ls 4 [(0, .ref x), (1, .int a0), (2, .ref ou)] := hl
  refine lv_aload_n hx hb dL_withdraw_0 rfl (lv_at hl 2 rfl) ?_
  refine lv_iconst (v := 0) hx hb dL_withdraw_1 (by decide) ?_
  refine lv_aload_n hx hb dL_withdraw_2 rfl (lv_at hl 0 rfl) ?_
  refine lv_iload_n hx hb dL_withdraw_3 rfl (lv_at hl 1 rfl) ?_
  have hPc := hP.sub (ws' := [(x, .inr (7, [.ref bx, .ref po, .ref tr, .ref pa, .ref sp])), (bx, .inr (2, [.ref b0, .ref b1, .int 0, .int 0, .ref b4, .int 0, .ref b6, .int 0, .int 0, .int 0, .int 0]))]) [0, 1] rfl
  have hDc := hD.sub (ws' := [(x, .inr (7, [.ref bx, .ref po, .ref tr, .ref pa, .ref sp])), (bx, .inr (2, [.ref b0, .ref b1, .int 0, .int 0, .ref b4, .int 0, .ref b6, .int 0, .int 0, .int 0, .int 0]))]) [0, 1] (by decide) rfl
  have hKc := hK.sub (tys' := []) [] rfl
  have hFc := va_free (wc := [(x, .inr (7, [.ref bx, .ref po, .ref tr, .ref pa, .ref sp])), (bx, .inr (2, [.ref b0, .ref b1, .int 0, .int 0, .ref b4, .int 0, .ref b6, .int 0, .int 0, .int 0, .int 0]))]) hD hS hA [0, 1] rfl
  refine vx_calli (vx_runV (As := [.int a0]) (rest := [.int 0, .ref ou]) ⟨hx, hb, hml, hown, hts⟩ (cx_X5_withdraw l hfl dC dI x po tr sp pa bx b0 b1 b4 b6 a0 tx sa _ ) (cwV 1 hts gL_withdraw_X5_withdraw rfl rfl rfl (by decide +kernel) ⟨Nat.le_of_ble_eq_true rfl, Nat.le_of_ble_eq_true rfl⟩) ⟨px_blind, va_recv hKc hPc (ci := 7) (q0 := 0) rfl rfl, fun U hU hW => ⟨rfl, pr_mk hU hW hPc hKc hDc, xs_mk hU hW hS hFc hXs⟩⟩ rfl rfl hl.1 rfl (lv_room (Nat.le_of_ble_eq_true rfl)) dL_withdraw_4 ⟨Nat.le_of_ble_eq_true rfl, Nat.le_of_ble_eq_true rfl⟩) hS (fun q _ h => hFc q h) hFc (fun q _ h => hFc q h) (fun E ce q9 u t H1 locs1 ht hvm hpx hB hz1 hk1 hS1 hce hcv hcl => ?_) (fun r u t H1 locs1 ht hvm hw hB hz1 hk1 hS1 => hw.elim)
  obtain rfl : E = "java/lang/IndexOutOfBoundsException" := hB
  refine vx_catch (own := RL) (name := "java/lang/IndexOutOfBoundsException") hown [] ⟨0, 9, 12, 20⟩ [⟨0, 9, 15, 15⟩] (htb.trans rfl) (fun _ hz => nomatch hz) (by decide) (by decide) (hts (.classLink RL 20 "java/lang/IndexOutOfBoundsException") (by decide +kernel)) (va_Nw.use rfl hXs.2.2.2.1) hce hcv hcl ?_
  have hP := va_Pn (D := (dC, dI)) (cl := vwCl) H1
  have hD := va_Dn A
  have hS := hS1
  refine W.widen (k := 1) (n := 6) (Nat.le_of_ble_eq_true rfl) (Nat.le_of_ble_eq_true rfl) ?_
  refine lv_astore_n (lv' := [(3, .ref q9), (0, .ref x), (1, .int a0), (2, .ref ou)]) hx hb dL_withdraw_12 rfl hl (by decide) rfl (fun ls hl => ?_)
  refine lv_iconst (v := 1) hx hb dL_withdraw_13 (by decide) ?_
  have hP9 := hP.sub (ws' := []) [] rfl
  have hD9 := hD.sub (ws' := []) [] (by decide) rfl
  have hK9 := hK.sub (tys' := []) [] rfl
  refine W.widen (k := 1) (n := 6) (Nat.le_of_ble_eq_true rfl) (Nat.le_of_ble_eq_true rfl) ?_
  exact W.iret (v := 1) hx hb hr (fun t ht hW => ⟨⟨1, (), rfl, rfl, po_mk ht hW hP9 hK9 hD9⟩, hS.F ht⟩) hS.2.2 dL_withdraw_14

set_option maxHeartbeats 4000000 in
set_option maxRecDepth 100000 in
theorem h0_L_cast (l : Launch) (hfl : l.stackTraces = false) (dC : Nat → ClassId) (dI : Nat → Nat → Nat) (x : Nat) (po : Nat) (tr : Nat) (sp : Nat) (pa : Nat) (bx : Nat) (b0 : Nat) (b1 : Nat) (b4 : Nat) (b6 : Nat) (a0 : Int32) (a1 : Int32) (a2 : Int32) (ou : Nat) (tx : String) (sa : Nat) (sz : Nat)  : Met l yL_cast wsL_cast ({ frames := 8, cells := 1, slots := 6, locals := 143 }) (va_Pc [.ref x, .int a0, .int a1, .int a2, .ref ou] (fun U => pr_ dC dI [(x, .inr (7, [.ref bx, .ref po, .ref tr, .ref pa, .ref sp])), (bx, .inr (2, [.ref b0, .ref b1, .int 0, .int 0, .ref b4, .int 0, .ref b6, .int 0, .int 0, .int 0, .int 0]))] [] sz U ∧ xs_ (va_A [(x, .inr (7, [.ref bx, .ref po, .ref tr, .ref pa, .ref sp])), (bx, .inr (2, [.ref b0, .ref b1, .int 0, .int 0, .ref b4, .int 0, .ref b6, .int 0, .int 0, .int 0, .int 0]))] sz) 299 tx sa "java/lang/IndexOutOfBoundsException" U ∧ True)) (va_Qi (fun (r : Int32) (_ : Unit) => r = 1) (fun (_ : Unit) t => po_ dC dI [] [] (va_A [(x, .inr (7, [.ref bx, .ref po, .ref tr, .ref pa, .ref sp])), (bx, .inr (2, [.ref b0, .ref b1, .int 0, .int 0, .ref b4, .int 0, .ref b6, .int 0, .int 0, .int 0, .int 0]))] sz) t) (va_A [(x, .inr (7, [.ref bx, .ref po, .ref tr, .ref pa, .ref sp])), (bx, .inr (2, [.ref b0, .ref b1, .int 0, .int 0, .ref b4, .int 0, .ref b6, .int 0, .int 0, .int 0, .int 0]))] sz)) 1 6 (va_A [(x, .inr (7, [.ref bx, .ref po, .ref tr, .ref pa, .ref sp])), (bx, .inr (2, [.ref b0, .ref b1, .int 0, .int 0, .ref b4, .int 0, .ref b6, .int 0, .int 0, .int 0, .int 0]))] sz) := by
  refine va_MetW (cc := cL_cast) (maxL := 6) (ret := (some .int)) (by decide) rfl ?_
  intro p e s m args below meth c s₁ B hml hv
  obtain ⟨rfl, ⟨hsz, hP, hK, hD0⟩, hXs, hNc⟩ := hv
  have hx := B.exec
  have hb := B.bytes
  have hr := B.returns
  have hts := atoms_spec (ws := wsL_cast) B.pre
  have htb : c.exceptionTable.toList = tableOf [(0, 12, 15, 20), (0, 12, 19, 13), (0, 12, 23, 15)] := vx_table (x := yL_cast) B (hts _ List.mem_cons_self)
  have hown : s.vm.findClass RL = some m.cls := findClass_of_methodNamed B.named
  have hlocks := B.notSynchronized
  subst hsz
  have hD := hD0.self (sz := s.heap.size)
  generalize hAe : va_A [(x, .inr (7, [.ref bx, .ref po, .ref tr, .ref pa, .ref sp])), (bx, .inr (2, [.ref b0, .ref b1, .int 0, .int 0, .ref b4, .int 0, .ref b6, .int 0, .int 0, .int 0, .int 0]))] s.heap.size = A at hD hXs ⊢
  have hA : ∀ q : Nat, s.heap.size ≤ q → A q := fun q h => by rw [← hAe]; exact Or.inr h
  have hS : va_S A s.heap s.heap [] := va_S.rf
  have hP : va_P (dC, dI) vwCl [(x, .inr (7, [.ref bx, .ref po, .ref tr, .ref pa, .ref sp])), (bx, .inr (2, [.ref b0, .ref b1, .int 0, .int 0, .ref b4, .int 0, .ref b6, .int 0, .int 0, .int 0, .int 0]))] s.heap := hP
  have hK : va_K (dC, dI) vwCl [] s := hK
  have hl := lv_entry ([.ref x, .int a0, .int a1, .int a2, .ref ou]) (n := 6) (Nat.le_of_ble_eq_true rfl)
  rw [lg_entry_eq]
  generalize (lg_sl ([.ref x, .int a0, .int a1, .int a2, .ref ou]) ++ List.replicate (6 - (lg_sl ([.ref x, .int a0, .int a1, .int a2, .ref ou])).length) Slot.unset).toArray = ls at hl ⊢
  have hl : lv_has ls 6 [(0, .ref x), (1, .int a0), (2, .int a1), (3, .int a2), (4, .ref ou)] := hl
  refine lv_aload hx hb dL_cast_0 (lv_at hl 4 rfl) ?_
  refine lv_iconst (v := 0) hx hb dL_cast_2 (by decide) ?_
  refine lv_aload_n hx hb dL_cast_3 rfl (lv_at hl 0 rfl) ?_
  refine lv_iload_n hx hb dL_cast_4 rfl (lv_at hl 1 rfl) ?_
  refine lv_iload_n hx hb dL_cast_5 rfl (lv_at hl 2 rfl) ?_
  refine lv_iload_n hx hb dL_cast_6 rfl (lv_at hl 3 rfl) ?_
  have hPc := hP.sub (ws' := [(x, .inr (7, [.ref bx, .ref po, .ref tr, .ref pa, .ref sp])), (bx, .inr (2, [.ref b0, .ref b1, .int 0, .int 0, .ref b4, .int 0, .ref b6, .int 0, .int 0, .int 0, .int 0]))]) [0, 1] rfl
  have hDc := hD.sub (ws' := [(x, .inr (7, [.ref bx, .ref po, .ref tr, .ref pa, .ref sp])), (bx, .inr (2, [.ref b0, .ref b1, .int 0, .int 0, .ref b4, .int 0, .ref b6, .int 0, .int 0, .int 0, .int 0]))]) [0, 1] (by decide) rfl
  have hKc := hK.sub (tys' := []) [] rfl
  have hFc := va_free (wc := [(x, .inr (7, [.ref bx, .ref po, .ref tr, .ref pa, .ref sp])), (bx, .inr (2, [.ref b0, .ref b1, .int 0, .int 0, .ref b4, .int 0, .ref b6, .int 0, .int 0, .int 0, .int 0]))]) hD hS hA [0, 1] rfl
  refine vx_calli (vx_runV (As := [.int a0, .int a1, .int a2]) (rest := [.int 0, .ref ou]) ⟨hx, hb, hml, hown, hts⟩ (cx_X5_cast l hfl dC dI x po tr sp pa bx b0 b1 b4 b6 a0 a1 a2 tx sa _ ) (cwV 3 hts gL_cast_X5_cast rfl rfl rfl (by decide +kernel) ⟨Nat.le_of_ble_eq_true rfl, Nat.le_of_ble_eq_true rfl⟩) ⟨px_blind, va_recv hKc hPc (ci := 7) (q0 := 0) rfl rfl, fun U hU hW => ⟨rfl, pr_mk hU hW hPc hKc hDc, xs_mk hU hW hS hFc hXs⟩⟩ rfl rfl hl.1 rfl (lv_room (Nat.le_of_ble_eq_true rfl)) dL_cast_7 ⟨Nat.le_of_ble_eq_true rfl, Nat.le_of_ble_eq_true rfl⟩) hS (fun q _ h => hFc q h) hFc (fun q _ h => hFc q h) (fun E ce q9 u t H1 locs1 ht hvm hpx hB hz1 hk1 hS1 hce hcv hcl => ?_) (fun r u t H1 locs1 ht hvm hw hB hz1 hk1 hS1 => hw.elim)
  obtain rfl : E = "java/lang/IndexOutOfBoundsException" := hB
  refine vx_catch (own := RL) (name := "java/lang/IndexOutOfBoundsException") hown [] ⟨0, 12, 15, 20⟩ [⟨0, 12, 19, 13⟩, ⟨0, 12, 23, 15⟩] (htb.trans rfl) (fun _ hz => nomatch hz) (by decide) (by decide) (hts (.classLink RL 20 "java/lang/IndexOutOfBoundsException") (by decide +kernel)) (va_Nw.use rfl hXs.2.2.2.1) hce hcv hcl ?_
  have hP := va_Pn (D := (dC, dI)) (cl := vwCl) H1
  have hD := va_Dn A
  have hS := hS1
  refine W.widen (k := 1) (n := 6) (Nat.le_of_ble_eq_true rfl) (Nat.le_of_ble_eq_true rfl) ?_
  refine lv_astore (lv' := [(5, .ref q9), (0, .ref x), (1, .int a0), (2, .int a1), (3, .int a2), (4, .ref ou)]) hx hb dL_cast_15 hl (by decide) rfl (fun ls hl => ?_)
  refine lv_iconst (v := 1) hx hb dL_cast_17 (by decide) ?_
  have hP9 := hP.sub (ws' := []) [] rfl
  have hD9 := hD.sub (ws' := []) [] (by decide) rfl
  have hK9 := hK.sub (tys' := []) [] rfl
  refine W.widen (k := 1) (n := 6) (Nat.le_of_ble_eq_true rfl) (Nat.le_of_ble_eq_true rfl) ?_
  exact W.iret (v := 1) hx hb hr (fun t ht hW => ⟨⟨1, (), rfl, rfl, po_mk ht hW hP9 hK9 hD9⟩, hS.F ht⟩) hS.2.2 dL_cast_18

set_option maxHeartbeats 4000000 in
set_option maxRecDepth 100000 in
theorem h0_L_recount (l : Launch) (hfl : l.stackTraces = false) (dC : Nat → ClassId) (dI : Nat → Nat → Nat) (x : Nat) (po : Nat) (tr : Nat) (sp : Nat) (pa : Nat) (bx : Nat) (b0 : Nat) (b1 : Nat) (b4 : Nat) (b6 : Nat) (a0 : Int32) (a1 : Int32) (ou : Nat) (tx : String) (sa : Nat) (sz : Nat)  : Met l yL_recount wsL_recount ({ frames := 8, cells := 1, slots := 6, locals := 144 }) (va_Pc [.ref x, .int a0, .int a1, .ref ou] (fun U => pr_ dC dI [(x, .inr (7, [.ref bx, .ref po, .ref tr, .ref pa, .ref sp])), (bx, .inr (2, [.ref b0, .ref b1, .int 0, .int 0, .ref b4, .int 0, .ref b6, .int 0, .int 0, .int 0, .int 0]))] [] sz U ∧ xs_ (va_A [(x, .inr (7, [.ref bx, .ref po, .ref tr, .ref pa, .ref sp])), (bx, .inr (2, [.ref b0, .ref b1, .int 0, .int 0, .ref b4, .int 0, .ref b6, .int 0, .int 0, .int 0, .int 0]))] sz) 301 tx sa "java/lang/IndexOutOfBoundsException" U ∧ True)) (va_Qi (fun (r : Int32) (_ : Unit) => r = 1) (fun (_ : Unit) t => po_ dC dI [] [] (va_A [(x, .inr (7, [.ref bx, .ref po, .ref tr, .ref pa, .ref sp])), (bx, .inr (2, [.ref b0, .ref b1, .int 0, .int 0, .ref b4, .int 0, .ref b6, .int 0, .int 0, .int 0, .int 0]))] sz) t) (va_A [(x, .inr (7, [.ref bx, .ref po, .ref tr, .ref pa, .ref sp])), (bx, .inr (2, [.ref b0, .ref b1, .int 0, .int 0, .ref b4, .int 0, .ref b6, .int 0, .int 0, .int 0, .int 0]))] sz)) 1 6 (va_A [(x, .inr (7, [.ref bx, .ref po, .ref tr, .ref pa, .ref sp])), (bx, .inr (2, [.ref b0, .ref b1, .int 0, .int 0, .ref b4, .int 0, .ref b6, .int 0, .int 0, .int 0, .int 0]))] sz) := by
  refine va_MetW (cc := cL_recount) (maxL := 5) (ret := (some .int)) (by decide) rfl ?_
  intro p e s m args below meth c s₁ B hml hv
  obtain ⟨rfl, ⟨hsz, hP, hK, hD0⟩, hXs, hNc⟩ := hv
  have hx := B.exec
  have hb := B.bytes
  have hr := B.returns
  have hts := atoms_spec (ws := wsL_recount) B.pre
  have htb : c.exceptionTable.toList = tableOf [(0, 10, 13, 20), (0, 10, 17, 13), (0, 10, 21, 15)] := vx_table (x := yL_recount) B (hts _ List.mem_cons_self)
  have hown : s.vm.findClass RL = some m.cls := findClass_of_methodNamed B.named
  have hlocks := B.notSynchronized
  subst hsz
  have hD := hD0.self (sz := s.heap.size)
  generalize hAe : va_A [(x, .inr (7, [.ref bx, .ref po, .ref tr, .ref pa, .ref sp])), (bx, .inr (2, [.ref b0, .ref b1, .int 0, .int 0, .ref b4, .int 0, .ref b6, .int 0, .int 0, .int 0, .int 0]))] s.heap.size = A at hD hXs ⊢
  have hA : ∀ q : Nat, s.heap.size ≤ q → A q := fun q h => by rw [← hAe]; exact Or.inr h
  have hS : va_S A s.heap s.heap [] := va_S.rf
  have hP : va_P (dC, dI) vwCl [(x, .inr (7, [.ref bx, .ref po, .ref tr, .ref pa, .ref sp])), (bx, .inr (2, [.ref b0, .ref b1, .int 0, .int 0, .ref b4, .int 0, .ref b6, .int 0, .int 0, .int 0, .int 0]))] s.heap := hP
  have hK : va_K (dC, dI) vwCl [] s := hK
  have hl := lv_entry ([.ref x, .int a0, .int a1, .ref ou]) (n := 5) (Nat.le_of_ble_eq_true rfl)
  rw [lg_entry_eq]
  generalize (lg_sl ([.ref x, .int a0, .int a1, .ref ou]) ++ List.replicate (5 - (lg_sl ([.ref x, .int a0, .int a1, .ref ou])).length) Slot.unset).toArray = ls at hl ⊢
  have hl : lv_has ls 5 [(0, .ref x), (1, .int a0), (2, .int a1), (3, .ref ou)] := hl
  refine lv_aload_n hx hb dL_recount_0 rfl (lv_at hl 3 rfl) ?_
  refine lv_iconst (v := 0) hx hb dL_recount_1 (by decide) ?_
  refine lv_aload_n hx hb dL_recount_2 rfl (lv_at hl 0 rfl) ?_
  refine lv_iload_n hx hb dL_recount_3 rfl (lv_at hl 1 rfl) ?_
  refine lv_iload_n hx hb dL_recount_4 rfl (lv_at hl 2 rfl) ?_
  have hPc := hP.sub (ws' := [(x, .inr (7, [.ref bx, .ref po, .ref tr, .ref pa, .ref sp])), (bx, .inr (2, [.ref b0, .ref b1, .int 0, .int 0, .ref b4, .int 0, .ref b6, .int 0, .int 0, .int 0, .int 0]))]) [0, 1] rfl
  have hDc := hD.sub (ws' := [(x, .inr (7, [.ref bx, .ref po, .ref tr, .ref pa, .ref sp])), (bx, .inr (2, [.ref b0, .ref b1, .int 0, .int 0, .ref b4, .int 0, .ref b6, .int 0, .int 0, .int 0, .int 0]))]) [0, 1] (by decide) rfl
  have hKc := hK.sub (tys' := []) [] rfl
  have hFc := va_free (wc := [(x, .inr (7, [.ref bx, .ref po, .ref tr, .ref pa, .ref sp])), (bx, .inr (2, [.ref b0, .ref b1, .int 0, .int 0, .ref b4, .int 0, .ref b6, .int 0, .int 0, .int 0, .int 0]))]) hD hS hA [0, 1] rfl
  refine vx_calli (vx_runV (As := [.int a0, .int a1]) (rest := [.int 0, .ref ou]) ⟨hx, hb, hml, hown, hts⟩ (cx_X5_recount l hfl dC dI x po tr sp pa bx b0 b1 b4 b6 a0 a1 tx sa _ ) (cwV 2 hts gL_recount_X5_recount rfl rfl rfl (by decide +kernel) ⟨Nat.le_of_ble_eq_true rfl, Nat.le_of_ble_eq_true rfl⟩) ⟨px_blind, va_recv hKc hPc (ci := 7) (q0 := 0) rfl rfl, fun U hU hW => ⟨rfl, pr_mk hU hW hPc hKc hDc, xs_mk hU hW hS hFc hXs⟩⟩ rfl rfl hl.1 rfl (lv_room (Nat.le_of_ble_eq_true rfl)) dL_recount_5 ⟨Nat.le_of_ble_eq_true rfl, Nat.le_of_ble_eq_true rfl⟩) hS (fun q _ h => hFc q h) hFc (fun q _ h => hFc q h) (fun E ce q9 u t H1 locs1 ht hvm hpx hB hz1 hk1 hS1 hce hcv hcl => ?_) (fun r u t H1 locs1 ht hvm hw hB hz1 hk1 hS1 => hw.elim)
  obtain rfl : E = "java/lang/IndexOutOfBoundsException" := hB
  refine vx_catch (own := RL) (name := "java/lang/IndexOutOfBoundsException") hown [] ⟨0, 10, 13, 20⟩ [⟨0, 10, 17, 13⟩, ⟨0, 10, 21, 15⟩] (htb.trans rfl) (fun _ hz => nomatch hz) (by decide) (by decide) (hts (.classLink RL 20 "java/lang/IndexOutOfBoundsException") (by decide +kernel)) (va_Nw.use rfl hXs.2.2.2.1) hce hcv hcl ?_
  have hP := va_Pn (D := (dC, dI)) (cl := vwCl) H1
  have hD := va_Dn A
  have hS := hS1
  refine W.widen (k := 1) (n := 6) (Nat.le_of_ble_eq_true rfl) (Nat.le_of_ble_eq_true rfl) ?_
  refine lv_astore (lv' := [(4, .ref q9), (0, .ref x), (1, .int a0), (2, .int a1), (3, .ref ou)]) hx hb dL_recount_13 hl (by decide) rfl (fun ls hl => ?_)
  refine lv_iconst (v := 1) hx hb dL_recount_15 (by decide) ?_
  have hP9 := hP.sub (ws' := []) [] rfl
  have hD9 := hD.sub (ws' := []) [] (by decide) rfl
  have hK9 := hK.sub (tys' := []) [] rfl
  refine W.widen (k := 1) (n := 6) (Nat.le_of_ble_eq_true rfl) (Nat.le_of_ble_eq_true rfl) ?_
  exact W.iret (v := 1) hx hb hr (fun t ht hW => ⟨⟨1, (), rfl, rfl, po_mk ht hW hP9 hK9 hD9⟩, hS.F ht⟩) hS.2.2 dL_recount_16

set_option maxHeartbeats 4000000 in
set_option maxRecDepth 100000 in
theorem h0_L_move (l : Launch) (hfl : l.stackTraces = false) (dC : Nat → ClassId) (dI : Nat → Nat → Nat) (x : Nat) (po : Nat) (tr : Nat) (sp : Nat) (pa : Nat) (bx : Nat) (b0 : Nat) (b1 : Nat) (b4 : Nat) (b6 : Nat) (a0 : Int32) (a1 : Int32) (ou : Nat) (tx : String) (sa : Nat) (sz : Nat)  : Met l yL_move wsL_move ({ frames := 8, cells := 1, slots := 6, locals := 144 }) (va_Pc [.ref x, .int a0, .int a1, .ref ou] (fun U => pr_ dC dI [(x, .inr (7, [.ref bx, .ref po, .ref tr, .ref pa, .ref sp])), (bx, .inr (2, [.ref b0, .ref b1, .int 0, .int 0, .ref b4, .int 0, .ref b6, .int 0, .int 0, .int 0, .int 0]))] [] sz U ∧ xs_ (va_A [(x, .inr (7, [.ref bx, .ref po, .ref tr, .ref pa, .ref sp])), (bx, .inr (2, [.ref b0, .ref b1, .int 0, .int 0, .ref b4, .int 0, .ref b6, .int 0, .int 0, .int 0, .int 0]))] sz) 301 tx sa "java/lang/IndexOutOfBoundsException" U ∧ True)) (va_Qi (fun (r : Int32) (_ : Unit) => r = 1) (fun (_ : Unit) t => po_ dC dI [] [] (va_A [(x, .inr (7, [.ref bx, .ref po, .ref tr, .ref pa, .ref sp])), (bx, .inr (2, [.ref b0, .ref b1, .int 0, .int 0, .ref b4, .int 0, .ref b6, .int 0, .int 0, .int 0, .int 0]))] sz) t) (va_A [(x, .inr (7, [.ref bx, .ref po, .ref tr, .ref pa, .ref sp])), (bx, .inr (2, [.ref b0, .ref b1, .int 0, .int 0, .ref b4, .int 0, .ref b6, .int 0, .int 0, .int 0, .int 0]))] sz)) 1 6 (va_A [(x, .inr (7, [.ref bx, .ref po, .ref tr, .ref pa, .ref sp])), (bx, .inr (2, [.ref b0, .ref b1, .int 0, .int 0, .ref b4, .int 0, .ref b6, .int 0, .int 0, .int 0, .int 0]))] sz) := by
  refine va_MetW (cc := cL_move) (maxL := 5) (ret := (some .int)) (by decide) rfl ?_
  intro p e s m args below meth c s₁ B hml hv
  obtain ⟨rfl, ⟨hsz, hP, hK, hD0⟩, hXs, hNc⟩ := hv
  have hx := B.exec
  have hb := B.bytes
  have hr := B.returns
  have hts := atoms_spec (ws := wsL_move) B.pre
  have htb : c.exceptionTable.toList = tableOf [(0, 10, 13, 20), (0, 10, 17, 15)] := vx_table (x := yL_move) B (hts _ List.mem_cons_self)
  have hown : s.vm.findClass RL = some m.cls := findClass_of_methodNamed B.named
  have hlocks := B.notSynchronized
  subst hsz
  have hD := hD0.self (sz := s.heap.size)
  generalize hAe : va_A [(x, .inr (7, [.ref bx, .ref po, .ref tr, .ref pa, .ref sp])), (bx, .inr (2, [.ref b0, .ref b1, .int 0, .int 0, .ref b4, .int 0, .ref b6, .int 0, .int 0, .int 0, .int 0]))] s.heap.size = A at hD hXs ⊢
  have hA : ∀ q : Nat, s.heap.size ≤ q → A q := fun q h => by rw [← hAe]; exact Or.inr h
  have hS : va_S A s.heap s.heap [] := va_S.rf
  have hP : va_P (dC, dI) vwCl [(x, .inr (7, [.ref bx, .ref po, .ref tr, .ref pa, .ref sp])), (bx, .inr (2, [.ref b0, .ref b1, .int 0, .int 0, .ref b4, .int 0, .ref b6, .int 0, .int 0, .int 0, .int 0]))] s.heap := hP
  have hK : va_K (dC, dI) vwCl [] s := hK
  have hl := lv_entry ([.ref x, .int a0, .int a1, .ref ou]) (n := 5) (Nat.le_of_ble_eq_true rfl)
  rw [lg_entry_eq]
  generalize (lg_sl ([.ref x, .int a0, .int a1, .ref ou]) ++ List.replicate (5 - (lg_sl ([.ref x, .int a0, .int a1, .ref ou])).length) Slot.unset).toArray = ls at hl ⊢
  have hl : lv_has ls 5 [(0, .ref x), (1, .int a0), (2, .int a1), (3, .ref ou)] := hl
  refine lv_aload_n hx hb dL_move_0 rfl (lv_at hl 3 rfl) ?_
  refine lv_iconst (v := 0) hx hb dL_move_1 (by decide) ?_
  refine lv_aload_n hx hb dL_move_2 rfl (lv_at hl 0 rfl) ?_
  refine lv_iload_n hx hb dL_move_3 rfl (lv_at hl 1 rfl) ?_
  refine lv_iload_n hx hb dL_move_4 rfl (lv_at hl 2 rfl) ?_
  have hPc := hP.sub (ws' := [(x, .inr (7, [.ref bx, .ref po, .ref tr, .ref pa, .ref sp])), (bx, .inr (2, [.ref b0, .ref b1, .int 0, .int 0, .ref b4, .int 0, .ref b6, .int 0, .int 0, .int 0, .int 0]))]) [0, 1] rfl
  have hDc := hD.sub (ws' := [(x, .inr (7, [.ref bx, .ref po, .ref tr, .ref pa, .ref sp])), (bx, .inr (2, [.ref b0, .ref b1, .int 0, .int 0, .ref b4, .int 0, .ref b6, .int 0, .int 0, .int 0, .int 0]))]) [0, 1] (by decide) rfl
  have hKc := hK.sub (tys' := []) [] rfl
  have hFc := va_free (wc := [(x, .inr (7, [.ref bx, .ref po, .ref tr, .ref pa, .ref sp])), (bx, .inr (2, [.ref b0, .ref b1, .int 0, .int 0, .ref b4, .int 0, .ref b6, .int 0, .int 0, .int 0, .int 0]))]) hD hS hA [0, 1] rfl
  refine vx_calli (vx_runV (As := [.int a0, .int a1]) (rest := [.int 0, .ref ou]) ⟨hx, hb, hml, hown, hts⟩ (cx_X5_move l hfl dC dI x po tr sp pa bx b0 b1 b4 b6 a0 a1 tx sa _ ) (cwV 2 hts gL_move_X5_move rfl rfl rfl (by decide +kernel) ⟨Nat.le_of_ble_eq_true rfl, Nat.le_of_ble_eq_true rfl⟩) ⟨px_blind, va_recv hKc hPc (ci := 7) (q0 := 0) rfl rfl, fun U hU hW => ⟨rfl, pr_mk hU hW hPc hKc hDc, xs_mk hU hW hS hFc hXs⟩⟩ rfl rfl hl.1 rfl (lv_room (Nat.le_of_ble_eq_true rfl)) dL_move_5 ⟨Nat.le_of_ble_eq_true rfl, Nat.le_of_ble_eq_true rfl⟩) hS (fun q _ h => hFc q h) hFc (fun q _ h => hFc q h) (fun E ce q9 u t H1 locs1 ht hvm hpx hB hz1 hk1 hS1 hce hcv hcl => ?_) (fun r u t H1 locs1 ht hvm hw hB hz1 hk1 hS1 => hw.elim)
  obtain rfl : E = "java/lang/IndexOutOfBoundsException" := hB
  refine vx_catch (own := RL) (name := "java/lang/IndexOutOfBoundsException") hown [] ⟨0, 10, 13, 20⟩ [⟨0, 10, 17, 15⟩] (htb.trans rfl) (fun _ hz => nomatch hz) (by decide) (by decide) (hts (.classLink RL 20 "java/lang/IndexOutOfBoundsException") (by decide +kernel)) (va_Nw.use rfl hXs.2.2.2.1) hce hcv hcl ?_
  have hP := va_Pn (D := (dC, dI)) (cl := vwCl) H1
  have hD := va_Dn A
  have hS := hS1
  refine W.widen (k := 1) (n := 6) (Nat.le_of_ble_eq_true rfl) (Nat.le_of_ble_eq_true rfl) ?_
  refine lv_astore (lv' := [(4, .ref q9), (0, .ref x), (1, .int a0), (2, .int a1), (3, .ref ou)]) hx hb dL_move_13 hl (by decide) rfl (fun ls hl => ?_)
  refine lv_iconst (v := 1) hx hb dL_move_15 (by decide) ?_
  have hP9 := hP.sub (ws' := []) [] rfl
  have hD9 := hD.sub (ws' := []) [] (by decide) rfl
  have hK9 := hK.sub (tys' := []) [] rfl
  refine W.widen (k := 1) (n := 6) (Nat.le_of_ble_eq_true rfl) (Nat.le_of_ble_eq_true rfl) ?_
  exact W.iret (v := 1) hx hb hr (fun t ht hW => ⟨⟨1, (), rfl, rfl, po_mk ht hW hP9 hK9 hD9⟩, hS.F ht⟩) hS.2.2 dL_move_16

set_option maxHeartbeats 4000000 in
set_option maxRecDepth 100000 in
theorem h0_L_ofStack (l : Launch) (hfl : l.stackTraces = false) (dC : Nat → ClassId) (dI : Nat → Nat → Nat) (x : Nat) (po : Nat) (tr : Nat) (sp : Nat) (pa : Nat) (bx : Nat) (b0 : Nat) (b1 : Nat) (b4 : Nat) (b6 : Nat) (a0 : Int32) (a1 : Int32) (ou : Nat) (tx : String) (sa : Nat) (sz : Nat)  : Met l yL_ofStack wsL_ofStack ({ frames := 8, cells := 1, slots := 6, locals := 142 }) (va_Pc [.ref x, .int a0, .int a1, .ref ou] (fun U => pr_ dC dI [(x, .inr (7, [.ref bx, .ref po, .ref tr, .ref pa, .ref sp])), (bx, .inr (2, [.ref b0, .ref b1, .int 0, .int 0, .ref b4, .int 0, .ref b6, .int 0, .int 0, .int 0, .int 0]))] [] sz U ∧ xs_ (va_A [(x, .inr (7, [.ref bx, .ref po, .ref tr, .ref pa, .ref sp])), (bx, .inr (2, [.ref b0, .ref b1, .int 0, .int 0, .ref b4, .int 0, .ref b6, .int 0, .int 0, .int 0, .int 0]))] sz) 301 tx sa "java/lang/IndexOutOfBoundsException" U ∧ True)) (va_Qi (fun (r : Int32) (_ : Unit) => r = 1) (fun (_ : Unit) t => po_ dC dI [] [] (va_A [(x, .inr (7, [.ref bx, .ref po, .ref tr, .ref pa, .ref sp])), (bx, .inr (2, [.ref b0, .ref b1, .int 0, .int 0, .ref b4, .int 0, .ref b6, .int 0, .int 0, .int 0, .int 0]))] sz) t) (va_A [(x, .inr (7, [.ref bx, .ref po, .ref tr, .ref pa, .ref sp])), (bx, .inr (2, [.ref b0, .ref b1, .int 0, .int 0, .ref b4, .int 0, .ref b6, .int 0, .int 0, .int 0, .int 0]))] sz)) 1 6 (va_A [(x, .inr (7, [.ref bx, .ref po, .ref tr, .ref pa, .ref sp])), (bx, .inr (2, [.ref b0, .ref b1, .int 0, .int 0, .ref b4, .int 0, .ref b6, .int 0, .int 0, .int 0, .int 0]))] sz) := by
  refine va_MetW (cc := cL_ofStack) (maxL := 5) (ret := (some .int)) (by decide) rfl ?_
  intro p e s m args below meth c s₁ B hml hv
  obtain ⟨rfl, ⟨hsz, hP, hK, hD0⟩, hXs, hNc⟩ := hv
  have hx := B.exec
  have hb := B.bytes
  have hr := B.returns
  have hts := atoms_spec (ws := wsL_ofStack) B.pre
  have htb : c.exceptionTable.toList = tableOf [(0, 10, 13, 20), (0, 10, 17, 13)] := vx_table (x := yL_ofStack) B (hts _ List.mem_cons_self)
  have hown : s.vm.findClass RL = some m.cls := findClass_of_methodNamed B.named
  have hlocks := B.notSynchronized
  subst hsz
  have hD := hD0.self (sz := s.heap.size)
  generalize hAe : va_A [(x, .inr (7, [.ref bx, .ref po, .ref tr, .ref pa, .ref sp])), (bx, .inr (2, [.ref b0, .ref b1, .int 0, .int 0, .ref b4, .int 0, .ref b6, .int 0, .int 0, .int 0, .int 0]))] s.heap.size = A at hD hXs ⊢
  have hA : ∀ q : Nat, s.heap.size ≤ q → A q := fun q h => by rw [← hAe]; exact Or.inr h
  have hS : va_S A s.heap s.heap [] := va_S.rf
  have hP : va_P (dC, dI) vwCl [(x, .inr (7, [.ref bx, .ref po, .ref tr, .ref pa, .ref sp])), (bx, .inr (2, [.ref b0, .ref b1, .int 0, .int 0, .ref b4, .int 0, .ref b6, .int 0, .int 0, .int 0, .int 0]))] s.heap := hP
  have hK : va_K (dC, dI) vwCl [] s := hK
  have hl := lv_entry ([.ref x, .int a0, .int a1, .ref ou]) (n := 5) (Nat.le_of_ble_eq_true rfl)
  rw [lg_entry_eq]
  generalize (lg_sl ([.ref x, .int a0, .int a1, .ref ou]) ++ List.replicate (5 - (lg_sl ([.ref x, .int a0, .int a1, .ref ou])).length) Slot.unset).toArray = ls at hl ⊢
  have hl : lv_has ls 5 [(0, .ref x), (1, .int a0), (2, .int a1), (3, .ref ou)] := hl
  refine lv_aload_n hx hb dL_ofStack_0 rfl (lv_at hl 3 rfl) ?_
  refine lv_iconst (v := 0) hx hb dL_ofStack_1 (by decide) ?_
  refine lv_aload_n hx hb dL_ofStack_2 rfl (lv_at hl 0 rfl) ?_
  refine lv_iload_n hx hb dL_ofStack_3 rfl (lv_at hl 1 rfl) ?_
  refine lv_iload_n hx hb dL_ofStack_4 rfl (lv_at hl 2 rfl) ?_
  have hPc := hP.sub (ws' := [(x, .inr (7, [.ref bx, .ref po, .ref tr, .ref pa, .ref sp])), (bx, .inr (2, [.ref b0, .ref b1, .int 0, .int 0, .ref b4, .int 0, .ref b6, .int 0, .int 0, .int 0, .int 0]))]) [0, 1] rfl
  have hDc := hD.sub (ws' := [(x, .inr (7, [.ref bx, .ref po, .ref tr, .ref pa, .ref sp])), (bx, .inr (2, [.ref b0, .ref b1, .int 0, .int 0, .ref b4, .int 0, .ref b6, .int 0, .int 0, .int 0, .int 0]))]) [0, 1] (by decide) rfl
  have hKc := hK.sub (tys' := []) [] rfl
  have hFc := va_free (wc := [(x, .inr (7, [.ref bx, .ref po, .ref tr, .ref pa, .ref sp])), (bx, .inr (2, [.ref b0, .ref b1, .int 0, .int 0, .ref b4, .int 0, .ref b6, .int 0, .int 0, .int 0, .int 0]))]) hD hS hA [0, 1] rfl
  refine vx_calli (vx_runV (As := [.int a0, .int a1]) (rest := [.int 0, .ref ou]) ⟨hx, hb, hml, hown, hts⟩ (cx_X5_ofStack l hfl dC dI x po tr sp pa bx b0 b1 b4 b6 a0 a1 tx sa _ ) (cwV 2 hts gL_ofStack_X5_ofStack rfl rfl rfl (by decide +kernel) ⟨Nat.le_of_ble_eq_true rfl, Nat.le_of_ble_eq_true rfl⟩) ⟨px_blind, va_recv hKc hPc (ci := 7) (q0 := 0) rfl rfl, fun U hU hW => ⟨rfl, pr_mk hU hW hPc hKc hDc, xs_mk hU hW hS hFc hXs⟩⟩ rfl rfl hl.1 rfl (lv_room (Nat.le_of_ble_eq_true rfl)) dL_ofStack_5 ⟨Nat.le_of_ble_eq_true rfl, Nat.le_of_ble_eq_true rfl⟩) hS (fun q _ h => hFc q h) hFc (fun q _ h => hFc q h) (fun E ce q9 u t H1 locs1 ht hvm hpx hB hz1 hk1 hS1 hce hcv hcl => ?_) (fun r u t H1 locs1 ht hvm hw hB hz1 hk1 hS1 => hw.elim)
  obtain rfl : E = "java/lang/IndexOutOfBoundsException" := hB
  refine vx_catch (own := RL) (name := "java/lang/IndexOutOfBoundsException") hown [] ⟨0, 10, 13, 20⟩ [⟨0, 10, 17, 13⟩] (htb.trans rfl) (fun _ hz => nomatch hz) (by decide) (by decide) (hts (.classLink RL 20 "java/lang/IndexOutOfBoundsException") (by decide +kernel)) (va_Nw.use rfl hXs.2.2.2.1) hce hcv hcl ?_
  have hP := va_Pn (D := (dC, dI)) (cl := vwCl) H1
  have hD := va_Dn A
  have hS := hS1
  refine W.widen (k := 1) (n := 6) (Nat.le_of_ble_eq_true rfl) (Nat.le_of_ble_eq_true rfl) ?_
  refine lv_astore (lv' := [(4, .ref q9), (0, .ref x), (1, .int a0), (2, .int a1), (3, .ref ou)]) hx hb dL_ofStack_13 hl (by decide) rfl (fun ls hl => ?_)
  refine lv_iconst (v := 1) hx hb dL_ofStack_15 (by decide) ?_
  have hP9 := hP.sub (ws' := []) [] rfl
  have hD9 := hD.sub (ws' := []) [] (by decide) rfl
  have hK9 := hK.sub (tys' := []) [] rfl
  refine W.widen (k := 1) (n := 6) (Nat.le_of_ble_eq_true rfl) (Nat.le_of_ble_eq_true rfl) ?_
  exact W.iret (v := 1) hx hb hr (fun t ht hW => ⟨⟨1, (), rfl, rfl, po_mk ht hW hP9 hK9 hD9⟩, hS.F ht⟩) hS.2.2 dL_ofStack_16

set_option maxHeartbeats 4000000 in
set_option maxRecDepth 100000 in
theorem h0_L_firsts (l : Launch) (hfl : l.stackTraces = false) (dC : Nat → ClassId) (dI : Nat → Nat → Nat) (x : Nat) (po : Nat) (tr : Nat) (sp : Nat) (pa : Nat) (bx : Nat) (b0 : Nat) (b1 : Nat) (b4 : Nat) (b6 : Nat) (a0 : Int32) (a1 : Int32) (ou : Nat) (tx : String) (sa : Nat) (sz : Nat)  : Met l yL_firsts wsL_firsts ({ frames := 8, cells := 1, slots := 6, locals := 142 }) (va_Pc [.ref x, .int a0, .int a1, .ref ou] (fun U => pr_ dC dI [(x, .inr (7, [.ref bx, .ref po, .ref tr, .ref pa, .ref sp])), (bx, .inr (2, [.ref b0, .ref b1, .int 0, .int 0, .ref b4, .int 0, .ref b6, .int 0, .int 0, .int 0, .int 0]))] [] sz U ∧ xs_ (va_A [(x, .inr (7, [.ref bx, .ref po, .ref tr, .ref pa, .ref sp])), (bx, .inr (2, [.ref b0, .ref b1, .int 0, .int 0, .ref b4, .int 0, .ref b6, .int 0, .int 0, .int 0, .int 0]))] sz) 299 tx sa "java/lang/IndexOutOfBoundsException" U ∧ True)) (va_Qi (fun (r : Int32) (_ : Unit) => r = 1) (fun (_ : Unit) t => po_ dC dI [] [] (va_A [(x, .inr (7, [.ref bx, .ref po, .ref tr, .ref pa, .ref sp])), (bx, .inr (2, [.ref b0, .ref b1, .int 0, .int 0, .ref b4, .int 0, .ref b6, .int 0, .int 0, .int 0, .int 0]))] sz) t) (va_A [(x, .inr (7, [.ref bx, .ref po, .ref tr, .ref pa, .ref sp])), (bx, .inr (2, [.ref b0, .ref b1, .int 0, .int 0, .ref b4, .int 0, .ref b6, .int 0, .int 0, .int 0, .int 0]))] sz)) 1 6 (va_A [(x, .inr (7, [.ref bx, .ref po, .ref tr, .ref pa, .ref sp])), (bx, .inr (2, [.ref b0, .ref b1, .int 0, .int 0, .ref b4, .int 0, .ref b6, .int 0, .int 0, .int 0, .int 0]))] sz) := by
  refine va_MetW (cc := cL_firsts) (maxL := 5) (ret := (some .int)) (by decide) rfl ?_
  intro p e s m args below meth c s₁ B hml hv
  obtain ⟨rfl, ⟨hsz, hP, hK, hD0⟩, hXs, hNc⟩ := hv
  have hx := B.exec
  have hb := B.bytes
  have hr := B.returns
  have hts := atoms_spec (ws := wsL_firsts) B.pre
  have htb : c.exceptionTable.toList = tableOf [(0, 10, 13, 20)] := vx_table (x := yL_firsts) B (hts _ List.mem_cons_self)
  have hown : s.vm.findClass RL = some m.cls := findClass_of_methodNamed B.named
  have hlocks := B.notSynchronized
  subst hsz
  have hD := hD0.self (sz := s.heap.size)
  generalize hAe : va_A [(x, .inr (7, [.ref bx, .ref po, .ref tr, .ref pa, .ref sp])), (bx, .inr (2, [.ref b0, .ref b1, .int 0, .int 0, .ref b4, .int 0, .ref b6, .int 0, .int 0, .int 0, .int 0]))] s.heap.size = A at hD hXs ⊢
  have hA : ∀ q : Nat, s.heap.size ≤ q → A q := fun q h => by rw [← hAe]; exact Or.inr h
  have hS : va_S A s.heap s.heap [] := va_S.rf
  have hP : va_P (dC, dI) vwCl [(x, .inr (7, [.ref bx, .ref po, .ref tr, .ref pa, .ref sp])), (bx, .inr (2, [.ref b0, .ref b1, .int 0, .int 0, .ref b4, .int 0, .ref b6, .int 0, .int 0, .int 0, .int 0]))] s.heap := hP
  have hK : va_K (dC, dI) vwCl [] s := hK
  have hl := lv_entry ([.ref x, .int a0, .int a1, .ref ou]) (n := 5) (Nat.le_of_ble_eq_true rfl)
  rw [lg_entry_eq]
  generalize (lg_sl ([.ref x, .int a0, .int a1, .ref ou]) ++ List.replicate (5 - (lg_sl ([.ref x, .int a0, .int a1, .ref ou])).length) Slot.unset).toArray = ls at hl ⊢
  have hl : lv_has ls 5 [(0, .ref x), (1, .int a0), (2, .int a1), (3, .ref ou)] := hl
  refine lv_aload_n hx hb dL_firsts_0 rfl (lv_at hl 3 rfl) ?_
  refine lv_iconst (v := 0) hx hb dL_firsts_1 (by decide) ?_
  refine lv_aload_n hx hb dL_firsts_2 rfl (lv_at hl 0 rfl) ?_
  refine lv_iload_n hx hb dL_firsts_3 rfl (lv_at hl 1 rfl) ?_
  refine lv_iload_n hx hb dL_firsts_4 rfl (lv_at hl 2 rfl) ?_
  have hPc := hP.sub (ws' := [(x, .inr (7, [.ref bx, .ref po, .ref tr, .ref pa, .ref sp])), (bx, .inr (2, [.ref b0, .ref b1, .int 0, .int 0, .ref b4, .int 0, .ref b6, .int 0, .int 0, .int 0, .int 0]))]) [0, 1] rfl
  have hDc := hD.sub (ws' := [(x, .inr (7, [.ref bx, .ref po, .ref tr, .ref pa, .ref sp])), (bx, .inr (2, [.ref b0, .ref b1, .int 0, .int 0, .ref b4, .int 0, .ref b6, .int 0, .int 0, .int 0, .int 0]))]) [0, 1] (by decide) rfl
  have hKc := hK.sub (tys' := []) [] rfl
  have hFc := va_free (wc := [(x, .inr (7, [.ref bx, .ref po, .ref tr, .ref pa, .ref sp])), (bx, .inr (2, [.ref b0, .ref b1, .int 0, .int 0, .ref b4, .int 0, .ref b6, .int 0, .int 0, .int 0, .int 0]))]) hD hS hA [0, 1] rfl
  refine vx_calli (vx_runV (As := [.int a0, .int a1]) (rest := [.int 0, .ref ou]) ⟨hx, hb, hml, hown, hts⟩ (cx_X5_firsts l hfl dC dI x po tr sp pa bx b0 b1 b4 b6 a0 a1 tx sa _ ) (cwV 2 hts gL_firsts_X5_firsts rfl rfl rfl (by decide +kernel) ⟨Nat.le_of_ble_eq_true rfl, Nat.le_of_ble_eq_true rfl⟩) ⟨px_blind, va_recv hKc hPc (ci := 7) (q0 := 0) rfl rfl, fun U hU hW => ⟨rfl, pr_mk hU hW hPc hKc hDc, xs_mk hU hW hS hFc hXs⟩⟩ rfl rfl hl.1 rfl (lv_room (Nat.le_of_ble_eq_true rfl)) dL_firsts_5 ⟨Nat.le_of_ble_eq_true rfl, Nat.le_of_ble_eq_true rfl⟩) hS (fun q _ h => hFc q h) hFc (fun q _ h => hFc q h) (fun E ce q9 u t H1 locs1 ht hvm hpx hB hz1 hk1 hS1 hce hcv hcl => ?_) (fun r u t H1 locs1 ht hvm hw hB hz1 hk1 hS1 => hw.elim)
  obtain rfl : E = "java/lang/IndexOutOfBoundsException" := hB
  refine vx_catch (own := RL) (name := "java/lang/IndexOutOfBoundsException") hown [] ⟨0, 10, 13, 20⟩ [] (htb.trans rfl) (fun _ hz => nomatch hz) (by decide) (by decide) (hts (.classLink RL 20 "java/lang/IndexOutOfBoundsException") (by decide +kernel)) (va_Nw.use rfl hXs.2.2.2.1) hce hcv hcl ?_
  have hP := va_Pn (D := (dC, dI)) (cl := vwCl) H1
  have hD := va_Dn A
  have hS := hS1
  refine W.widen (k := 1) (n := 6) (Nat.le_of_ble_eq_true rfl) (Nat.le_of_ble_eq_true rfl) ?_
  refine lv_astore (lv' := [(4, .ref q9), (0, .ref x), (1, .int a0), (2, .int a1), (3, .ref ou)]) hx hb dL_firsts_13 hl (by decide) rfl (fun ls hl => ?_)
  refine lv_iconst (v := 1) hx hb dL_firsts_15 (by decide) ?_
  have hP9 := hP.sub (ws' := []) [] rfl
  have hD9 := hD.sub (ws' := []) [] (by decide) rfl
  have hK9 := hK.sub (tys' := []) [] rfl
  refine W.widen (k := 1) (n := 6) (Nat.le_of_ble_eq_true rfl) (Nat.le_of_ble_eq_true rfl) ?_
  exact W.iret (v := 1) hx hb hr (fun t ht hW => ⟨⟨1, (), rfl, rfl, po_mk ht hW hP9 hK9 hD9⟩, hS.F ht⟩) hS.2.2 dL_firsts_16

set_option maxHeartbeats 4000000 in
set_option maxRecDepth 100000 in
theorem h0_L_points (l : Launch) (hfl : l.stackTraces = false) (dC : Nat → ClassId) (dI : Nat → Nat → Nat) (x : Nat) (po : Nat) (tr : Nat) (sp : Nat) (pa : Nat) (bx : Nat) (b0 : Nat) (b1 : Nat) (b4 : Nat) (b6 : Nat) (a0 : Int32) (a1 : Int32) (ou : Nat) (tx : String) (sa : Nat) (sz : Nat)  : Met l yL_points wsL_points ({ frames := 8, cells := 1, slots := 6, locals := 142 }) (va_Pc [.ref x, .int a0, .int a1, .ref ou] (fun U => pr_ dC dI [(x, .inr (7, [.ref bx, .ref po, .ref tr, .ref pa, .ref sp])), (bx, .inr (2, [.ref b0, .ref b1, .int 0, .int 0, .ref b4, .int 0, .ref b6, .int 0, .int 0, .int 0, .int 0]))] [] sz U ∧ xs_ (va_A [(x, .inr (7, [.ref bx, .ref po, .ref tr, .ref pa, .ref sp])), (bx, .inr (2, [.ref b0, .ref b1, .int 0, .int 0, .ref b4, .int 0, .ref b6, .int 0, .int 0, .int 0, .int 0]))] sz) 299 tx sa "java/lang/IndexOutOfBoundsException" U ∧ True)) (va_Qi (fun (r : Int32) (_ : Unit) => r = 1) (fun (_ : Unit) t => po_ dC dI [] [] (va_A [(x, .inr (7, [.ref bx, .ref po, .ref tr, .ref pa, .ref sp])), (bx, .inr (2, [.ref b0, .ref b1, .int 0, .int 0, .ref b4, .int 0, .ref b6, .int 0, .int 0, .int 0, .int 0]))] sz) t) (va_A [(x, .inr (7, [.ref bx, .ref po, .ref tr, .ref pa, .ref sp])), (bx, .inr (2, [.ref b0, .ref b1, .int 0, .int 0, .ref b4, .int 0, .ref b6, .int 0, .int 0, .int 0, .int 0]))] sz)) 1 6 (va_A [(x, .inr (7, [.ref bx, .ref po, .ref tr, .ref pa, .ref sp])), (bx, .inr (2, [.ref b0, .ref b1, .int 0, .int 0, .ref b4, .int 0, .ref b6, .int 0, .int 0, .int 0, .int 0]))] sz) := by
  refine va_MetW (cc := cL_points) (maxL := 5) (ret := (some .int)) (by decide) rfl ?_
  intro p e s m args below meth c s₁ B hml hv
  obtain ⟨rfl, ⟨hsz, hP, hK, hD0⟩, hXs, hNc⟩ := hv
  have hx := B.exec
  have hb := B.bytes
  have hr := B.returns
  have hts := atoms_spec (ws := wsL_points) B.pre
  have htb : c.exceptionTable.toList = tableOf [(0, 9, 12, 20)] := vx_table (x := yL_points) B (hts _ List.mem_cons_self)
  have hown : s.vm.findClass RL = some m.cls := findClass_of_methodNamed B.named
  have hlocks := B.notSynchronized
  subst hsz
  have hD := hD0.self (sz := s.heap.size)
  generalize hAe : va_A [(x, .inr (7, [.ref bx, .ref po, .ref tr, .ref pa, .ref sp])), (bx, .inr (2, [.ref b0, .ref b1, .int 0, .int 0, .ref b4, .int 0, .ref b6, .int 0, .int 0, .int 0, .int 0]))] s.heap.size = A at hD hXs ⊢
  have hA : ∀ q : Nat, s.heap.size ≤ q → A q := fun q h => by rw [← hAe]; exact Or.inr h
  have hS : va_S A s.heap s.heap [] := va_S.rf
  have hP : va_P (dC, dI) vwCl [(x, .inr (7, [.ref bx, .ref po, .ref tr, .ref pa, .ref sp])), (bx, .inr (2, [.ref b0, .ref b1, .int 0, .int 0, .ref b4, .int 0, .ref b6, .int 0, .int 0, .int 0, .int 0]))] s.heap := hP
  have hK : va_K (dC, dI) vwCl [] s := hK
  have hl := lv_entry ([.ref x, .int a0, .int a1, .ref ou]) (n := 5) (Nat.le_of_ble_eq_true rfl)
  rw [lg_entry_eq]
  generalize (lg_sl ([.ref x, .int a0, .int a1, .ref ou]) ++ List.replicate (5 - (lg_sl ([.ref x, .int a0, .int a1, .ref ou])).length) Slot.unset).toArray = ls at hl ⊢
  have hl : lv_has ls 5 [(0, .ref x), (1, .int a0), (2, .int a1), (3, .ref ou)] := hl
  refine lv_aload_n hx hb dL_points_0 rfl (lv_at hl 3 rfl) ?_
  refine lv_iconst (v := 0) hx hb dL_points_1 (by decide) ?_
  refine lv_aload_n hx hb dL_points_2 rfl (lv_at hl 0 rfl) ?_
  refine lv_iload_n hx hb dL_points_3 rfl (lv_at hl 1 rfl) ?_
  refine lv_iload_n hx hb dL_points_4 rfl (lv_at hl 2 rfl) ?_
  have hPc := hP.sub (ws' := [(x, .inr (7, [.ref bx, .ref po, .ref tr, .ref pa, .ref sp])), (bx, .inr (2, [.ref b0, .ref b1, .int 0, .int 0, .ref b4, .int 0, .ref b6, .int 0, .int 0, .int 0, .int 0]))]) [0, 1] rfl
  have hDc := hD.sub (ws' := [(x, .inr (7, [.ref bx, .ref po, .ref tr, .ref pa, .ref sp])), (bx, .inr (2, [.ref b0, .ref b1, .int 0, .int 0, .ref b4, .int 0, .ref b6, .int 0, .int 0, .int 0, .int 0]))]) [0, 1] (by decide) rfl
  have hKc := hK.sub (tys' := []) [] rfl
  have hFc := va_free (wc := [(x, .inr (7, [.ref bx, .ref po, .ref tr, .ref pa, .ref sp])), (bx, .inr (2, [.ref b0, .ref b1, .int 0, .int 0, .ref b4, .int 0, .ref b6, .int 0, .int 0, .int 0, .int 0]))]) hD hS hA [0, 1] rfl
  refine vx_calld (vx_runV (As := [.int a0, .int a1]) (rest := [.int 0, .ref ou]) ⟨hx, hb, hml, hown, hts⟩ (cx_X5_points l hfl dC dI x po tr sp pa bx b0 b1 b4 b6 a0 a1 tx sa _ ) (cwV 2 hts gL_points_X5_points rfl rfl rfl (by decide +kernel) ⟨Nat.le_of_ble_eq_true rfl, Nat.le_of_ble_eq_true rfl⟩) ⟨px_blind, va_recv hKc hPc (ci := 7) (q0 := 0) rfl rfl, fun U hU hW => ⟨rfl, pr_mk hU hW hPc hKc hDc, xs_mk hU hW hS hFc hXs⟩⟩ rfl rfl hl.1 rfl (lv_room (Nat.le_of_ble_eq_true rfl)) dL_points_5 ⟨Nat.le_of_ble_eq_true rfl, Nat.le_of_ble_eq_true rfl⟩) hS (fun q _ h => hFc q h) hFc (fun q _ h => hFc q h) (fun E ce q9 u t H1 locs1 ht hvm hpx hB hz1 hk1 hS1 hce hcv hcl => ?_) (fun r u t H1 locs1 ht hvm hw hB hz1 hk1 hS1 => hw.elim)
  obtain rfl : E = "java/lang/IndexOutOfBoundsException" := hB
  refine vx_catch (own := RL) (name := "java/lang/IndexOutOfBoundsException") hown [] ⟨0, 9, 12, 20⟩ [] (htb.trans rfl) (fun _ hz => nomatch hz) (by decide) (by decide) (hts (.classLink RL 20 "java/lang/IndexOutOfBoundsException") (by decide +kernel)) (va_Nw.use rfl hXs.2.2.2.1) hce hcv hcl ?_
  have hP := va_Pn (D := (dC, dI)) (cl := vwCl) H1
  have hD := va_Dn A
  have hS := hS1
  refine W.widen (k := 1) (n := 6) (Nat.le_of_ble_eq_true rfl) (Nat.le_of_ble_eq_true rfl) ?_
  refine lv_astore (lv' := [(4, .ref q9), (0, .ref x), (1, .int a0), (2, .int a1), (3, .ref ou)]) hx hb dL_points_12 hl (by decide) rfl (fun ls hl => ?_)
  refine lv_iconst (v := 1) hx hb dL_points_14 (by decide) ?_
  have hP9 := hP.sub (ws' := []) [] rfl
  have hD9 := hD.sub (ws' := []) [] (by decide) rfl
  have hK9 := hK.sub (tys' := []) [] rfl
  refine W.widen (k := 1) (n := 6) (Nat.le_of_ble_eq_true rfl) (Nat.le_of_ble_eq_true rfl) ?_
  exact W.iret (v := 1) hx hb hr (fun t ht hW => ⟨⟨1, (), rfl, rfl, po_mk ht hW hP9 hK9 hD9⟩, hS.F ht⟩) hS.2.2 dL_points_15

set_option maxHeartbeats 4000000 in
set_option maxRecDepth 100000 in
theorem h0_L_pair (l : Launch) (hfl : l.stackTraces = false) (dC : Nat → ClassId) (dI : Nat → Nat → Nat) (x : Nat) (po : Nat) (tr : Nat) (sp : Nat) (pa : Nat) (bx : Nat) (b0 : Nat) (b1 : Nat) (b4 : Nat) (b6 : Nat) (a0 : Int32) (a1 : Int32) (a2 : Int32) (a3 : Int32) (ou : Nat) (tx : String) (sa : Nat) (sz : Nat)  : Met l yL_pair wsL_pair ({ frames := 8, cells := 1, slots := 6, locals := 144 }) (va_Pc [.ref x, .int a0, .int a1, .int a2, .int a3, .ref ou] (fun U => pr_ dC dI [(x, .inr (7, [.ref bx, .ref po, .ref tr, .ref pa, .ref sp])), (bx, .inr (2, [.ref b0, .ref b1, .int 0, .int 0, .ref b4, .int 0, .ref b6, .int 0, .int 0, .int 0, .int 0]))] [] sz U ∧ xs_ (va_A [(x, .inr (7, [.ref bx, .ref po, .ref tr, .ref pa, .ref sp])), (bx, .inr (2, [.ref b0, .ref b1, .int 0, .int 0, .ref b4, .int 0, .ref b6, .int 0, .int 0, .int 0, .int 0]))] sz) 299 tx sa "java/lang/IndexOutOfBoundsException" U ∧ True)) (va_Qi (fun (r : Int32) (_ : Unit) => r = 1) (fun (_ : Unit) t => po_ dC dI [] [] (va_A [(x, .inr (7, [.ref bx, .ref po, .ref tr, .ref pa, .ref sp])), (bx, .inr (2, [.ref b0, .ref b1, .int 0, .int 0, .ref b4, .int 0, .ref b6, .int 0, .int 0, .int 0, .int 0]))] sz) t) (va_A [(x, .inr (7, [.ref bx, .ref po, .ref tr, .ref pa, .ref sp])), (bx, .inr (2, [.ref b0, .ref b1, .int 0, .int 0, .ref b4, .int 0, .ref b6, .int 0, .int 0, .int 0, .int 0]))] sz)) 1 6 (va_A [(x, .inr (7, [.ref bx, .ref po, .ref tr, .ref pa, .ref sp])), (bx, .inr (2, [.ref b0, .ref b1, .int 0, .int 0, .ref b4, .int 0, .ref b6, .int 0, .int 0, .int 0, .int 0]))] sz) := by
  refine va_MetW (cc := cL_pair) (maxL := 7) (ret := (some .int)) (by decide) rfl ?_
  intro p e s m args below meth c s₁ B hml hv
  obtain ⟨rfl, ⟨hsz, hP, hK, hD0⟩, hXs, hNc⟩ := hv
  have hx := B.exec
  have hb := B.bytes
  have hr := B.returns
  have hts := atoms_spec (ws := wsL_pair) B.pre
  have htb : c.exceptionTable.toList = tableOf [(0, 14, 17, 20), (0, 14, 21, 13)] := vx_table (x := yL_pair) B (hts _ List.mem_cons_self)
  have hown : s.vm.findClass RL = some m.cls := findClass_of_methodNamed B.named
  have hlocks := B.notSynchronized
  subst hsz
  have hD := hD0.self (sz := s.heap.size)
  generalize hAe : va_A [(x, .inr (7, [.ref bx, .ref po, .ref tr, .ref pa, .ref sp])), (bx, .inr (2, [.ref b0, .ref b1, .int 0, .int 0, .ref b4, .int 0, .ref b6, .int 0, .int 0, .int 0, .int 0]))] s.heap.size = A at hD hXs ⊢
  have hA : ∀ q : Nat, s.heap.size ≤ q → A q := fun q h => by rw [← hAe]; exact Or.inr h
  have hS : va_S A s.heap s.heap [] := va_S.rf
  have hP : va_P (dC, dI) vwCl [(x, .inr (7, [.ref bx, .ref po, .ref tr, .ref pa, .ref sp])), (bx, .inr (2, [.ref b0, .ref b1, .int 0, .int 0, .ref b4, .int 0, .ref b6, .int 0, .int 0, .int 0, .int 0]))] s.heap := hP
  have hK : va_K (dC, dI) vwCl [] s := hK
  have hl := lv_entry ([.ref x, .int a0, .int a1, .int a2, .int a3, .ref ou]) (n := 7) (Nat.le_of_ble_eq_true rfl)
  rw [lg_entry_eq]
  generalize (lg_sl ([.ref x, .int a0, .int a1, .int a2, .int a3, .ref ou]) ++ List.replicate (7 - (lg_sl ([.ref x, .int a0, .int a1, .int a2, .int a3, .ref ou])).length) Slot.unset).toArray = ls at hl ⊢
  have hl : lv_has ls 7 [(0, .ref x), (1, .int a0), (2, .int a1), (3, .int a2), (4, .int a3), (5, .ref ou)] := hl
  refine lv_aload hx hb dL_pair_0 (lv_at hl 5 rfl) ?_
  refine lv_iconst (v := 0) hx hb dL_pair_2 (by decide) ?_
  refine lv_aload_n hx hb dL_pair_3 rfl (lv_at hl 0 rfl) ?_
  refine lv_iload_n hx hb dL_pair_4 rfl (lv_at hl 1 rfl) ?_
  refine lv_iload_n hx hb dL_pair_5 rfl (lv_at hl 2 rfl) ?_
  refine lv_iload_n hx hb dL_pair_6 rfl (lv_at hl 3 rfl) ?_
  refine lv_iload hx hb dL_pair_7 (lv_at hl 4 rfl) ?_
  have hPc := hP.sub (ws' := [(x, .inr (7, [.ref bx, .ref po, .ref tr, .ref pa, .ref sp])), (bx, .inr (2, [.ref b0, .ref b1, .int 0, .int 0, .ref b4, .int 0, .ref b6, .int 0, .int 0, .int 0, .int 0]))]) [0, 1] rfl
  have hDc := hD.sub (ws' := [(x, .inr (7, [.ref bx, .ref po, .ref tr, .ref pa, .ref sp])), (bx, .inr (2, [.ref b0, .ref b1, .int 0, .int 0, .ref b4, .int 0, .ref b6, .int 0, .int 0, .int 0, .int 0]))]) [0, 1] (by decide) rfl
  have hKc := hK.sub (tys' := []) [] rfl
  have hFc := va_free (wc := [(x, .inr (7, [.ref bx, .ref po, .ref tr, .ref pa, .ref sp])), (bx, .inr (2, [.ref b0, .ref b1, .int 0, .int 0, .ref b4, .int 0, .ref b6, .int 0, .int 0, .int 0, .int 0]))]) hD hS hA [0, 1] rfl
  refine vx_calli (vx_runV (As := [.int a0, .int a1, .int a2, .int a3]) (rest := [.int 0, .ref ou]) ⟨hx, hb, hml, hown, hts⟩ (cx_X5_pair l hfl dC dI x po tr sp pa bx b0 b1 b4 b6 a0 a1 a2 a3 tx sa _ ) (cwV 4 hts gL_pair_X5_pair rfl rfl rfl (by decide +kernel) ⟨Nat.le_of_ble_eq_true rfl, Nat.le_of_ble_eq_true rfl⟩) ⟨px_blind, va_recv hKc hPc (ci := 7) (q0 := 0) rfl rfl, fun U hU hW => ⟨rfl, pr_mk hU hW hPc hKc hDc, xs_mk hU hW hS hFc hXs⟩⟩ rfl rfl hl.1 rfl (lv_room (Nat.le_of_ble_eq_true rfl)) dL_pair_9 ⟨Nat.le_of_ble_eq_true rfl, Nat.le_of_ble_eq_true rfl⟩) hS (fun q _ h => hFc q h) hFc (fun q _ h => hFc q h) (fun E ce q9 u t H1 locs1 ht hvm hpx hB hz1 hk1 hS1 hce hcv hcl => ?_) (fun r u t H1 locs1 ht hvm hw hB hz1 hk1 hS1 => hw.elim)
  obtain rfl : E = "java/lang/IndexOutOfBoundsException" := hB
  refine vx_catch (own := RL) (name := "java/lang/IndexOutOfBoundsException") hown [] ⟨0, 14, 17, 20⟩ [⟨0, 14, 21, 13⟩] (htb.trans rfl) (fun _ hz => nomatch hz) (by decide) (by decide) (hts (.classLink RL 20 "java/lang/IndexOutOfBoundsException") (by decide +kernel)) (va_Nw.use rfl hXs.2.2.2.1) hce hcv hcl ?_
  have hP := va_Pn (D := (dC, dI)) (cl := vwCl) H1
  have hD := va_Dn A
  have hS := hS1
  refine W.widen (k := 1) (n := 6) (Nat.le_of_ble_eq_true rfl) (Nat.le_of_ble_eq_true rfl) ?_
  refine lv_astore (lv' := [(6, .ref q9), (0, .ref x), (1, .int a0), (2, .int a1), (3, .int a2), (4, .int a3), (5, .ref ou)]) hx hb dL_pair_17 hl (by decide) rfl (fun ls hl => ?_)
  refine lv_iconst (v := 1) hx hb dL_pair_19 (by decide) ?_
  have hP9 := hP.sub (ws' := []) [] rfl
  have hD9 := hD.sub (ws' := []) [] (by decide) rfl
  have hK9 := hK.sub (tys' := []) [] rfl
  refine W.widen (k := 1) (n := 6) (Nat.le_of_ble_eq_true rfl) (Nat.le_of_ble_eq_true rfl) ?_
  exact W.iret (v := 1) hx hb hr (fun t ht hW => ⟨⟨1, (), rfl, rfl, po_mk ht hW hP9 hK9 hD9⟩, hS.F ht⟩) hS.2.2 dL_pair_20

set_option maxHeartbeats 4000000 in
set_option maxRecDepth 100000 in
theorem h0_L_winner (l : Launch) (hfl : l.stackTraces = false) (dC : Nat → ClassId) (dI : Nat → Nat → Nat) (x : Nat) (po : Nat) (tr : Nat) (sp : Nat) (pa : Nat) (bx : Nat) (b0 : Nat) (b1 : Nat) (b4 : Nat) (b6 : Nat) (a0 : Int32) (a1 : Int32) (ou : Nat) (tx : String) (sa : Nat) (sz : Nat)  : Met l yL_winner wsL_winner ({ frames := 8, cells := 1, slots := 6, locals := 142 }) (va_Pc [.ref x, .int a0, .int a1, .ref ou] (fun U => pr_ dC dI [(x, .inr (7, [.ref bx, .ref po, .ref tr, .ref pa, .ref sp])), (bx, .inr (2, [.ref b0, .ref b1, .int 0, .int 0, .ref b4, .int 0, .ref b6, .int 0, .int 0, .int 0, .int 0]))] [] sz U ∧ xs_ (va_A [(x, .inr (7, [.ref bx, .ref po, .ref tr, .ref pa, .ref sp])), (bx, .inr (2, [.ref b0, .ref b1, .int 0, .int 0, .ref b4, .int 0, .ref b6, .int 0, .int 0, .int 0, .int 0]))] sz) 299 tx sa "java/lang/IndexOutOfBoundsException" U ∧ True)) (va_Qi (fun (r : Int32) (_ : Unit) => r = 1) (fun (_ : Unit) t => po_ dC dI [] [] (va_A [(x, .inr (7, [.ref bx, .ref po, .ref tr, .ref pa, .ref sp])), (bx, .inr (2, [.ref b0, .ref b1, .int 0, .int 0, .ref b4, .int 0, .ref b6, .int 0, .int 0, .int 0, .int 0]))] sz) t) (va_A [(x, .inr (7, [.ref bx, .ref po, .ref tr, .ref pa, .ref sp])), (bx, .inr (2, [.ref b0, .ref b1, .int 0, .int 0, .ref b4, .int 0, .ref b6, .int 0, .int 0, .int 0, .int 0]))] sz)) 1 6 (va_A [(x, .inr (7, [.ref bx, .ref po, .ref tr, .ref pa, .ref sp])), (bx, .inr (2, [.ref b0, .ref b1, .int 0, .int 0, .ref b4, .int 0, .ref b6, .int 0, .int 0, .int 0, .int 0]))] sz) := by
  refine va_MetW (cc := cL_winner) (maxL := 5) (ret := (some .int)) (by decide) rfl ?_
  intro p e s m args below meth c s₁ B hml hv
  obtain ⟨rfl, ⟨hsz, hP, hK, hD0⟩, hXs, hNc⟩ := hv
  have hx := B.exec
  have hb := B.bytes
  have hr := B.returns
  have hts := atoms_spec (ws := wsL_winner) B.pre
  have htb : c.exceptionTable.toList = tableOf [(0, 10, 13, 20), (0, 10, 17, 13)] := vx_table (x := yL_winner) B (hts _ List.mem_cons_self)
  have hown : s.vm.findClass RL = some m.cls := findClass_of_methodNamed B.named
  have hlocks := B.notSynchronized
  subst hsz
  have hD := hD0.self (sz := s.heap.size)
  generalize hAe : va_A [(x, .inr (7, [.ref bx, .ref po, .ref tr, .ref pa, .ref sp])), (bx, .inr (2, [.ref b0, .ref b1, .int 0, .int 0, .ref b4, .int 0, .ref b6, .int 0, .int 0, .int 0, .int 0]))] s.heap.size = A at hD hXs ⊢
  have hA : ∀ q : Nat, s.heap.size ≤ q → A q := fun q h => by rw [← hAe]; exact Or.inr h
  have hS : va_S A s.heap s.heap [] := va_S.rf
  have hP : va_P (dC, dI) vwCl [(x, .inr (7, [.ref bx, .ref po, .ref tr, .ref pa, .ref sp])), (bx, .inr (2, [.ref b0, .ref b1, .int 0, .int 0, .ref b4, .int 0, .ref b6, .int 0, .int 0, .int 0, .int 0]))] s.heap := hP
  have hK : va_K (dC, dI) vwCl [] s := hK
  have hl := lv_entry ([.ref x, .int a0, .int a1, .ref ou]) (n := 5) (Nat.le_of_ble_eq_true rfl)
  rw [lg_entry_eq]
  generalize (lg_sl ([.ref x, .int a0, .int a1, .ref ou]) ++ List.replicate (5 - (lg_sl ([.ref x, .int a0, .int a1, .ref ou])).length) Slot.unset).toArray = ls at hl ⊢
  have hl : lv_has ls 5 [(0, .ref x), (1, .int a0), (2, .int a1), (3, .ref ou)] := hl
  refine lv_aload_n hx hb dL_winner_0 rfl (lv_at hl 3 rfl) ?_
  refine lv_iconst (v := 0) hx hb dL_winner_1 (by decide) ?_
  refine lv_aload_n hx hb dL_winner_2 rfl (lv_at hl 0 rfl) ?_
  refine lv_iload_n hx hb dL_winner_3 rfl (lv_at hl 1 rfl) ?_
  refine lv_iload_n hx hb dL_winner_4 rfl (lv_at hl 2 rfl) ?_
  have hPc := hP.sub (ws' := [(x, .inr (7, [.ref bx, .ref po, .ref tr, .ref pa, .ref sp])), (bx, .inr (2, [.ref b0, .ref b1, .int 0, .int 0, .ref b4, .int 0, .ref b6, .int 0, .int 0, .int 0, .int 0]))]) [0, 1] rfl
  have hDc := hD.sub (ws' := [(x, .inr (7, [.ref bx, .ref po, .ref tr, .ref pa, .ref sp])), (bx, .inr (2, [.ref b0, .ref b1, .int 0, .int 0, .ref b4, .int 0, .ref b6, .int 0, .int 0, .int 0, .int 0]))]) [0, 1] (by decide) rfl
  have hKc := hK.sub (tys' := []) [] rfl
  have hFc := va_free (wc := [(x, .inr (7, [.ref bx, .ref po, .ref tr, .ref pa, .ref sp])), (bx, .inr (2, [.ref b0, .ref b1, .int 0, .int 0, .ref b4, .int 0, .ref b6, .int 0, .int 0, .int 0, .int 0]))]) hD hS hA [0, 1] rfl
  refine vx_calli (vx_runV (As := [.int a0, .int a1]) (rest := [.int 0, .ref ou]) ⟨hx, hb, hml, hown, hts⟩ (cx_X5_winner l hfl dC dI x po tr sp pa bx b0 b1 b4 b6 a0 a1 tx sa _ ) (cwV 2 hts gL_winner_X5_winner rfl rfl rfl (by decide +kernel) ⟨Nat.le_of_ble_eq_true rfl, Nat.le_of_ble_eq_true rfl⟩) ⟨px_blind, va_recv hKc hPc (ci := 7) (q0 := 0) rfl rfl, fun U hU hW => ⟨rfl, pr_mk hU hW hPc hKc hDc, xs_mk hU hW hS hFc hXs⟩⟩ rfl rfl hl.1 rfl (lv_room (Nat.le_of_ble_eq_true rfl)) dL_winner_5 ⟨Nat.le_of_ble_eq_true rfl, Nat.le_of_ble_eq_true rfl⟩) hS (fun q _ h => hFc q h) hFc (fun q _ h => hFc q h) (fun E ce q9 u t H1 locs1 ht hvm hpx hB hz1 hk1 hS1 hce hcv hcl => ?_) (fun r u t H1 locs1 ht hvm hw hB hz1 hk1 hS1 => hw.elim)
  obtain rfl : E = "java/lang/IndexOutOfBoundsException" := hB
  refine vx_catch (own := RL) (name := "java/lang/IndexOutOfBoundsException") hown [] ⟨0, 10, 13, 20⟩ [⟨0, 10, 17, 13⟩] (htb.trans rfl) (fun _ hz => nomatch hz) (by decide) (by decide) (hts (.classLink RL 20 "java/lang/IndexOutOfBoundsException") (by decide +kernel)) (va_Nw.use rfl hXs.2.2.2.1) hce hcv hcl ?_
  have hP := va_Pn (D := (dC, dI)) (cl := vwCl) H1
  have hD := va_Dn A
  have hS := hS1
  refine W.widen (k := 1) (n := 6) (Nat.le_of_ble_eq_true rfl) (Nat.le_of_ble_eq_true rfl) ?_
  refine lv_astore (lv' := [(4, .ref q9), (0, .ref x), (1, .int a0), (2, .int a1), (3, .ref ou)]) hx hb dL_winner_13 hl (by decide) rfl (fun ls hl => ?_)
  refine lv_iconst (v := 1) hx hb dL_winner_15 (by decide) ?_
  have hP9 := hP.sub (ws' := []) [] rfl
  have hD9 := hD.sub (ws' := []) [] (by decide) rfl
  have hK9 := hK.sub (tys' := []) [] rfl
  refine W.widen (k := 1) (n := 6) (Nat.le_of_ble_eq_true rfl) (Nat.le_of_ble_eq_true rfl) ?_
  exact W.iret (v := 1) hx hb hr (fun t ht hW => ⟨⟨1, (), rfl, rfl, po_mk ht hW hP9 hK9 hD9⟩, hS.F ht⟩) hS.2.2 dL_winner_16

set_option maxHeartbeats 4000000 in
set_option maxRecDepth 100000 in
theorem h0_L_out (l : Launch) (hfl : l.stackTraces = false) (dC : Nat → ClassId) (dI : Nat → Nat → Nat) (x : Nat) (po : Nat) (tr : Nat) (sp : Nat) (pa : Nat) (bx : Nat) (b0 : Nat) (b1 : Nat) (b4 : Nat) (b6 : Nat) (a0 : Int32) (a1 : Int32) (ou : Nat) (tx : String) (sa : Nat) (sz : Nat)  : Met l yL_out wsL_out ({ frames := 8, cells := 1, slots := 6, locals := 142 }) (va_Pc [.ref x, .int a0, .int a1, .ref ou] (fun U => pr_ dC dI [(x, .inr (7, [.ref bx, .ref po, .ref tr, .ref pa, .ref sp])), (bx, .inr (2, [.ref b0, .ref b1, .int 0, .int 0, .ref b4, .int 0, .ref b6, .int 0, .int 0, .int 0, .int 0]))] [] sz U ∧ xs_ (va_A [(x, .inr (7, [.ref bx, .ref po, .ref tr, .ref pa, .ref sp])), (bx, .inr (2, [.ref b0, .ref b1, .int 0, .int 0, .ref b4, .int 0, .ref b6, .int 0, .int 0, .int 0, .int 0]))] sz) 299 tx sa "java/lang/IndexOutOfBoundsException" U ∧ True)) (va_Qi (fun (r : Int32) (_ : Unit) => r = 1) (fun (_ : Unit) t => po_ dC dI [] [] (va_A [(x, .inr (7, [.ref bx, .ref po, .ref tr, .ref pa, .ref sp])), (bx, .inr (2, [.ref b0, .ref b1, .int 0, .int 0, .ref b4, .int 0, .ref b6, .int 0, .int 0, .int 0, .int 0]))] sz) t) (va_A [(x, .inr (7, [.ref bx, .ref po, .ref tr, .ref pa, .ref sp])), (bx, .inr (2, [.ref b0, .ref b1, .int 0, .int 0, .ref b4, .int 0, .ref b6, .int 0, .int 0, .int 0, .int 0]))] sz)) 1 6 (va_A [(x, .inr (7, [.ref bx, .ref po, .ref tr, .ref pa, .ref sp])), (bx, .inr (2, [.ref b0, .ref b1, .int 0, .int 0, .ref b4, .int 0, .ref b6, .int 0, .int 0, .int 0, .int 0]))] sz) := by
  refine va_MetW (cc := cL_out) (maxL := 5) (ret := (some .int)) (by decide) rfl ?_
  intro p e s m args below meth c s₁ B hml hv
  obtain ⟨rfl, ⟨hsz, hP, hK, hD0⟩, hXs, hNc⟩ := hv
  have hx := B.exec
  have hb := B.bytes
  have hr := B.returns
  have hts := atoms_spec (ws := wsL_out) B.pre
  have htb : c.exceptionTable.toList = tableOf [(0, 10, 13, 20), (0, 10, 17, 13)] := vx_table (x := yL_out) B (hts _ List.mem_cons_self)
  have hown : s.vm.findClass RL = some m.cls := findClass_of_methodNamed B.named
  have hlocks := B.notSynchronized
  subst hsz
  have hD := hD0.self (sz := s.heap.size)
  generalize hAe : va_A [(x, .inr (7, [.ref bx, .ref po, .ref tr, .ref pa, .ref sp])), (bx, .inr (2, [.ref b0, .ref b1, .int 0, .int 0, .ref b4, .int 0, .ref b6, .int 0, .int 0, .int 0, .int 0]))] s.heap.size = A at hD hXs ⊢
  have hA : ∀ q : Nat, s.heap.size ≤ q → A q := fun q h => by rw [← hAe]; exact Or.inr h
  have hS : va_S A s.heap s.heap [] := va_S.rf
  have hP : va_P (dC, dI) vwCl [(x, .inr (7, [.ref bx, .ref po, .ref tr, .ref pa, .ref sp])), (bx, .inr (2, [.ref b0, .ref b1, .int 0, .int 0, .ref b4, .int 0, .ref b6, .int 0, .int 0, .int 0, .int 0]))] s.heap := hP
  have hK : va_K (dC, dI) vwCl [] s := hK
  have hl := lv_entry ([.ref x, .int a0, .int a1, .ref ou]) (n := 5) (Nat.le_of_ble_eq_true rfl)
  rw [lg_entry_eq]
  generalize (lg_sl ([.ref x, .int a0, .int a1, .ref ou]) ++ List.replicate (5 - (lg_sl ([.ref x, .int a0, .int a1, .ref ou])).length) Slot.unset).toArray = ls at hl ⊢
  have hl : lv_has ls 5 [(0, .ref x), (1, .int a0), (2, .int a1), (3, .ref ou)] := hl
  refine lv_aload_n hx hb dL_out_0 rfl (lv_at hl 3 rfl) ?_
  refine lv_iconst (v := 0) hx hb dL_out_1 (by decide) ?_
  refine lv_aload_n hx hb dL_out_2 rfl (lv_at hl 0 rfl) ?_
  refine lv_iload_n hx hb dL_out_3 rfl (lv_at hl 1 rfl) ?_
  refine lv_iload_n hx hb dL_out_4 rfl (lv_at hl 2 rfl) ?_
  have hPc := hP.sub (ws' := [(x, .inr (7, [.ref bx, .ref po, .ref tr, .ref pa, .ref sp])), (bx, .inr (2, [.ref b0, .ref b1, .int 0, .int 0, .ref b4, .int 0, .ref b6, .int 0, .int 0, .int 0, .int 0]))]) [0, 1] rfl
  have hDc := hD.sub (ws' := [(x, .inr (7, [.ref bx, .ref po, .ref tr, .ref pa, .ref sp])), (bx, .inr (2, [.ref b0, .ref b1, .int 0, .int 0, .ref b4, .int 0, .ref b6, .int 0, .int 0, .int 0, .int 0]))]) [0, 1] (by decide) rfl
  have hKc := hK.sub (tys' := []) [] rfl
  have hFc := va_free (wc := [(x, .inr (7, [.ref bx, .ref po, .ref tr, .ref pa, .ref sp])), (bx, .inr (2, [.ref b0, .ref b1, .int 0, .int 0, .ref b4, .int 0, .ref b6, .int 0, .int 0, .int 0, .int 0]))]) hD hS hA [0, 1] rfl
  refine vx_calli (vx_runV (As := [.int a0, .int a1]) (rest := [.int 0, .ref ou]) ⟨hx, hb, hml, hown, hts⟩ (cx_X5_out l hfl dC dI x po tr sp pa bx b0 b1 b4 b6 a0 a1 tx sa _ ) (cwV 2 hts gL_out_X5_out rfl rfl rfl (by decide +kernel) ⟨Nat.le_of_ble_eq_true rfl, Nat.le_of_ble_eq_true rfl⟩) ⟨px_blind, va_recv hKc hPc (ci := 7) (q0 := 0) rfl rfl, fun U hU hW => ⟨rfl, pr_mk hU hW hPc hKc hDc, xs_mk hU hW hS hFc hXs⟩⟩ rfl rfl hl.1 rfl (lv_room (Nat.le_of_ble_eq_true rfl)) dL_out_5 ⟨Nat.le_of_ble_eq_true rfl, Nat.le_of_ble_eq_true rfl⟩) hS (fun q _ h => hFc q h) hFc (fun q _ h => hFc q h) (fun E ce q9 u t H1 locs1 ht hvm hpx hB hz1 hk1 hS1 hce hcv hcl => ?_) (fun r u t H1 locs1 ht hvm hw hB hz1 hk1 hS1 => hw.elim)
  obtain rfl : E = "java/lang/IndexOutOfBoundsException" := hB
  refine vx_catch (own := RL) (name := "java/lang/IndexOutOfBoundsException") hown [] ⟨0, 10, 13, 20⟩ [⟨0, 10, 17, 13⟩] (htb.trans rfl) (fun _ hz => nomatch hz) (by decide) (by decide) (hts (.classLink RL 20 "java/lang/IndexOutOfBoundsException") (by decide +kernel)) (va_Nw.use rfl hXs.2.2.2.1) hce hcv hcl ?_
  have hP := va_Pn (D := (dC, dI)) (cl := vwCl) H1
  have hD := va_Dn A
  have hS := hS1
  refine W.widen (k := 1) (n := 6) (Nat.le_of_ble_eq_true rfl) (Nat.le_of_ble_eq_true rfl) ?_
  refine lv_astore (lv' := [(4, .ref q9), (0, .ref x), (1, .int a0), (2, .int a1), (3, .ref ou)]) hx hb dL_out_13 hl (by decide) rfl (fun ls hl => ?_)
  refine lv_iconst (v := 1) hx hb dL_out_15 (by decide) ?_
  have hP9 := hP.sub (ws' := []) [] rfl
  have hD9 := hD.sub (ws' := []) [] (by decide) rfl
  have hK9 := hK.sub (tys' := []) [] rfl
  refine W.widen (k := 1) (n := 6) (Nat.le_of_ble_eq_true rfl) (Nat.le_of_ble_eq_true rfl) ?_
  exact W.iret (v := 1) hx hb hr (fun t ht hW => ⟨⟨1, (), rfl, rfl, po_mk ht hW hP9 hK9 hD9⟩, hS.F ht⟩) hS.2.2 dL_out_16

set_option maxHeartbeats 4000000 in
set_option maxRecDepth 100000 in
theorem h0_L_elected (l : Launch) (hfl : l.stackTraces = false) (dC : Nat → ClassId) (dI : Nat → Nat → Nat) (x : Nat) (po : Nat) (tr : Nat) (sp : Nat) (pa : Nat) (bx : Nat) (b0 : Nat) (b1 : Nat) (b4 : Nat) (b6 : Nat) (a0 : Int32) (a1 : Int32) (ou : Nat) (tx : String) (sa : Nat) (sz : Nat)  : Met l yL_elected wsL_elected ({ frames := 8, cells := 1, slots := 6, locals := 142 }) (va_Pc [.ref x, .int a0, .int a1, .ref ou] (fun U => pr_ dC dI [(x, .inr (7, [.ref bx, .ref po, .ref tr, .ref pa, .ref sp])), (bx, .inr (2, [.ref b0, .ref b1, .int 0, .int 0, .ref b4, .int 0, .ref b6, .int 0, .int 0, .int 0, .int 0]))] [] sz U ∧ xs_ (va_A [(x, .inr (7, [.ref bx, .ref po, .ref tr, .ref pa, .ref sp])), (bx, .inr (2, [.ref b0, .ref b1, .int 0, .int 0, .ref b4, .int 0, .ref b6, .int 0, .int 0, .int 0, .int 0]))] sz) 299 tx sa "java/lang/IndexOutOfBoundsException" U ∧ True)) (va_Qi (fun (r : Int32) (_ : Unit) => r = 1) (fun (_ : Unit) t => po_ dC dI [] [] (va_A [(x, .inr (7, [.ref bx, .ref po, .ref tr, .ref pa, .ref sp])), (bx, .inr (2, [.ref b0, .ref b1, .int 0, .int 0, .ref b4, .int 0, .ref b6, .int 0, .int 0, .int 0, .int 0]))] sz) t) (va_A [(x, .inr (7, [.ref bx, .ref po, .ref tr, .ref pa, .ref sp])), (bx, .inr (2, [.ref b0, .ref b1, .int 0, .int 0, .ref b4, .int 0, .ref b6, .int 0, .int 0, .int 0, .int 0]))] sz)) 1 6 (va_A [(x, .inr (7, [.ref bx, .ref po, .ref tr, .ref pa, .ref sp])), (bx, .inr (2, [.ref b0, .ref b1, .int 0, .int 0, .ref b4, .int 0, .ref b6, .int 0, .int 0, .int 0, .int 0]))] sz) := by
  refine va_MetW (cc := cL_elected) (maxL := 5) (ret := (some .int)) (by decide) rfl ?_
  intro p e s m args below meth c s₁ B hml hv
  obtain ⟨rfl, ⟨hsz, hP, hK, hD0⟩, hXs, hNc⟩ := hv
  have hx := B.exec
  have hb := B.bytes
  have hr := B.returns
  have hts := atoms_spec (ws := wsL_elected) B.pre
  have htb : c.exceptionTable.toList = tableOf [(0, 10, 13, 20), (0, 10, 17, 13)] := vx_table (x := yL_elected) B (hts _ List.mem_cons_self)
  have hown : s.vm.findClass RL = some m.cls := findClass_of_methodNamed B.named
  have hlocks := B.notSynchronized
  subst hsz
  have hD := hD0.self (sz := s.heap.size)
  generalize hAe : va_A [(x, .inr (7, [.ref bx, .ref po, .ref tr, .ref pa, .ref sp])), (bx, .inr (2, [.ref b0, .ref b1, .int 0, .int 0, .ref b4, .int 0, .ref b6, .int 0, .int 0, .int 0, .int 0]))] s.heap.size = A at hD hXs ⊢
  have hA : ∀ q : Nat, s.heap.size ≤ q → A q := fun q h => by rw [← hAe]; exact Or.inr h
  have hS : va_S A s.heap s.heap [] := va_S.rf
  have hP : va_P (dC, dI) vwCl [(x, .inr (7, [.ref bx, .ref po, .ref tr, .ref pa, .ref sp])), (bx, .inr (2, [.ref b0, .ref b1, .int 0, .int 0, .ref b4, .int 0, .ref b6, .int 0, .int 0, .int 0, .int 0]))] s.heap := hP
  have hK : va_K (dC, dI) vwCl [] s := hK
  have hl := lv_entry ([.ref x, .int a0, .int a1, .ref ou]) (n := 5) (Nat.le_of_ble_eq_true rfl)
  rw [lg_entry_eq]
  generalize (lg_sl ([.ref x, .int a0, .int a1, .ref ou]) ++ List.replicate (5 - (lg_sl ([.ref x, .int a0, .int a1, .ref ou])).length) Slot.unset).toArray = ls at hl ⊢
  have hl : lv_has ls 5 [(0, .ref x), (1, .int a0), (2, .int a1), (3, .ref ou)] := hl
  refine lv_aload_n hx hb dL_elected_0 rfl (lv_at hl 3 rfl) ?_
  refine lv_iconst (v := 0) hx hb dL_elected_1 (by decide) ?_
  refine lv_aload_n hx hb dL_elected_2 rfl (lv_at hl 0 rfl) ?_
  refine lv_iload_n hx hb dL_elected_3 rfl (lv_at hl 1 rfl) ?_
  refine lv_iload_n hx hb dL_elected_4 rfl (lv_at hl 2 rfl) ?_
  have hPc := hP.sub (ws' := [(x, .inr (7, [.ref bx, .ref po, .ref tr, .ref pa, .ref sp])), (bx, .inr (2, [.ref b0, .ref b1, .int 0, .int 0, .ref b4, .int 0, .ref b6, .int 0, .int 0, .int 0, .int 0]))]) [0, 1] rfl
  have hDc := hD.sub (ws' := [(x, .inr (7, [.ref bx, .ref po, .ref tr, .ref pa, .ref sp])), (bx, .inr (2, [.ref b0, .ref b1, .int 0, .int 0, .ref b4, .int 0, .ref b6, .int 0, .int 0, .int 0, .int 0]))]) [0, 1] (by decide) rfl
  have hKc := hK.sub (tys' := []) [] rfl
  have hFc := va_free (wc := [(x, .inr (7, [.ref bx, .ref po, .ref tr, .ref pa, .ref sp])), (bx, .inr (2, [.ref b0, .ref b1, .int 0, .int 0, .ref b4, .int 0, .ref b6, .int 0, .int 0, .int 0, .int 0]))]) hD hS hA [0, 1] rfl
  refine vx_calli (vx_runV (As := [.int a0, .int a1]) (rest := [.int 0, .ref ou]) ⟨hx, hb, hml, hown, hts⟩ (cx_X5_elected l hfl dC dI x po tr sp pa bx b0 b1 b4 b6 a0 a1 tx sa _ ) (cwV 2 hts gL_elected_X5_elected rfl rfl rfl (by decide +kernel) ⟨Nat.le_of_ble_eq_true rfl, Nat.le_of_ble_eq_true rfl⟩) ⟨px_blind, va_recv hKc hPc (ci := 7) (q0 := 0) rfl rfl, fun U hU hW => ⟨rfl, pr_mk hU hW hPc hKc hDc, xs_mk hU hW hS hFc hXs⟩⟩ rfl rfl hl.1 rfl (lv_room (Nat.le_of_ble_eq_true rfl)) dL_elected_5 ⟨Nat.le_of_ble_eq_true rfl, Nat.le_of_ble_eq_true rfl⟩) hS (fun q _ h => hFc q h) hFc (fun q _ h => hFc q h) (fun E ce q9 u t H1 locs1 ht hvm hpx hB hz1 hk1 hS1 hce hcv hcl => ?_) (fun r u t H1 locs1 ht hvm hw hB hz1 hk1 hS1 => hw.elim)
  obtain rfl : E = "java/lang/IndexOutOfBoundsException" := hB
  refine vx_catch (own := RL) (name := "java/lang/IndexOutOfBoundsException") hown [] ⟨0, 10, 13, 20⟩ [⟨0, 10, 17, 13⟩] (htb.trans rfl) (fun _ hz => nomatch hz) (by decide) (by decide) (hts (.classLink RL 20 "java/lang/IndexOutOfBoundsException") (by decide +kernel)) (va_Nw.use rfl hXs.2.2.2.1) hce hcv hcl ?_
  have hP := va_Pn (D := (dC, dI)) (cl := vwCl) H1
  have hD := va_Dn A
  have hS := hS1
  refine W.widen (k := 1) (n := 6) (Nat.le_of_ble_eq_true rfl) (Nat.le_of_ble_eq_true rfl) ?_
  refine lv_astore (lv' := [(4, .ref q9), (0, .ref x), (1, .int a0), (2, .int a1), (3, .ref ou)]) hx hb dL_elected_13 hl (by decide) rfl (fun ls hl => ?_)
  refine lv_iconst (v := 1) hx hb dL_elected_15 (by decide) ?_
  have hP9 := hP.sub (ws' := []) [] rfl
  have hD9 := hD.sub (ws' := []) [] (by decide) rfl
  have hK9 := hK.sub (tys' := []) [] rfl
  refine W.widen (k := 1) (n := 6) (Nat.le_of_ble_eq_true rfl) (Nat.le_of_ble_eq_true rfl) ?_
  exact W.iret (v := 1) hx hb hr (fun t ht hW => ⟨⟨1, (), rfl, rfl, po_mk ht hW hP9 hK9 hD9⟩, hS.F ht⟩) hS.2.2 dL_elected_16

set_option maxHeartbeats 4000000 in
set_option maxRecDepth 100000 in
theorem h0_L_worth (l : Launch) (hfl : l.stackTraces = false) (dC : Nat → ClassId) (dI : Nat → Nat → Nat) (x : Nat) (po : Nat) (tr : Nat) (sp : Nat) (pa : Nat) (bx : Nat) (b0 : Nat) (b1 : Nat) (b4 : Nat) (b6 : Nat) (a0 : Int32) (ou : Nat) (tx : String) (sa : Nat) (sz : Nat)  : Met l yL_worth wsL_worth ({ frames := 8, cells := 1, slots := 6, locals := 142 }) (va_Pc [.ref x, .int a0, .ref ou] (fun U => pr_ dC dI [(x, .inr (7, [.ref bx, .ref po, .ref tr, .ref pa, .ref sp])), (bx, .inr (2, [.ref b0, .ref b1, .int 0, .int 0, .ref b4, .int 0, .ref b6, .int 0, .int 0, .int 0, .int 0]))] [] sz U ∧ xs_ (va_A [(x, .inr (7, [.ref bx, .ref po, .ref tr, .ref pa, .ref sp])), (bx, .inr (2, [.ref b0, .ref b1, .int 0, .int 0, .ref b4, .int 0, .ref b6, .int 0, .int 0, .int 0, .int 0]))] sz) 301 tx sa "java/lang/IndexOutOfBoundsException" U ∧ True)) (va_Qi (fun (r : Int32) (_ : Unit) => r = 1) (fun (_ : Unit) t => po_ dC dI [] [] (va_A [(x, .inr (7, [.ref bx, .ref po, .ref tr, .ref pa, .ref sp])), (bx, .inr (2, [.ref b0, .ref b1, .int 0, .int 0, .ref b4, .int 0, .ref b6, .int 0, .int 0, .int 0, .int 0]))] sz) t) (va_A [(x, .inr (7, [.ref bx, .ref po, .ref tr, .ref pa, .ref sp])), (bx, .inr (2, [.ref b0, .ref b1, .int 0, .int 0, .ref b4, .int 0, .ref b6, .int 0, .int 0, .int 0, .int 0]))] sz)) 1 6 (va_A [(x, .inr (7, [.ref bx, .ref po, .ref tr, .ref pa, .ref sp])), (bx, .inr (2, [.ref b0, .ref b1, .int 0, .int 0, .ref b4, .int 0, .ref b6, .int 0, .int 0, .int 0, .int 0]))] sz) := by
  refine va_MetW (cc := cL_worth) (maxL := 4) (ret := (some .int)) (by decide) rfl ?_
  intro p e s m args below meth c s₁ B hml hv
  obtain ⟨rfl, ⟨hsz, hP, hK, hD0⟩, hXs, hNc⟩ := hv
  have hx := B.exec
  have hb := B.bytes
  have hr := B.returns
  have hts := atoms_spec (ws := wsL_worth) B.pre
  have htb : c.exceptionTable.toList = tableOf [(0, 8, 11, 20)] := vx_table (x := yL_worth) B (hts _ List.mem_cons_self)
  have hown : s.vm.findClass RL = some m.cls := findClass_of_methodNamed B.named
  have hlocks := B.notSynchronized
  subst hsz
  have hD := hD0.self (sz := s.heap.size)
  generalize hAe : va_A [(x, .inr (7, [.ref bx, .ref po, .ref tr, .ref pa, .ref sp])), (bx, .inr (2, [.ref b0, .ref b1, .int 0, .int 0, .ref b4, .int 0, .ref b6, .int 0, .int 0, .int 0, .int 0]))] s.heap.size = A at hD hXs ⊢
  have hA : ∀ q : Nat, s.heap.size ≤ q → A q := fun q h => by rw [← hAe]; exact Or.inr h
  have hS : va_S A s.heap s.heap [] := va_S.rf
  have hP : va_P (dC, dI) vwCl [(x, .inr (7, [.ref bx, .ref po, .ref tr, .ref pa, .ref sp])), (bx, .inr (2, [.ref b0, .ref b1, .int 0, .int 0, .ref b4, .int 0, .ref b6, .int 0, .int 0, .int 0, .int 0]))] s.heap := hP
  have hK : va_K (dC, dI) vwCl [] s := hK
  have hl := lv_entry ([.ref x, .int a0, .ref ou]) (n := 4) (Nat.le_of_ble_eq_true rfl)
  rw [lg_entry_eq]
  generalize (lg_sl ([.ref x, .int a0, .ref ou]) ++ List.replicate (4 - (lg_sl ([.ref x, .int a0, .ref ou])).length) Slot.unset).toArray = ls at hl ⊢
  have hl : lv_has ls 4 [(0, .ref x), (1, .int a0), (2, .ref ou)] := hl
  refine lv_aload_n hx hb dL_worth_0 rfl (lv_at hl 2 rfl) ?_
  refine lv_iconst (v := 0) hx hb dL_worth_1 (by decide) ?_
  refine lv_aload_n hx hb dL_worth_2 rfl (lv_at hl 0 rfl) ?_
  refine lv_iload_n hx hb dL_worth_3 rfl (lv_at hl 1 rfl) ?_
  have hPc := hP.sub (ws' := [(x, .inr (7, [.ref bx, .ref po, .ref tr, .ref pa, .ref sp])), (bx, .inr (2, [.ref b0, .ref b1, .int 0, .int 0, .ref b4, .int 0, .ref b6, .int 0, .int 0, .int 0, .int 0]))]) [0, 1] rfl
  have hDc := hD.sub (ws' := [(x, .inr (7, [.ref bx, .ref po, .ref tr, .ref pa, .ref sp])), (bx, .inr (2, [.ref b0, .ref b1, .int 0, .int 0, .ref b4, .int 0, .ref b6, .int 0, .int 0, .int 0, .int 0]))]) [0, 1] (by decide) rfl
  have hKc := hK.sub (tys' := []) [] rfl
  have hFc := va_free (wc := [(x, .inr (7, [.ref bx, .ref po, .ref tr, .ref pa, .ref sp])), (bx, .inr (2, [.ref b0, .ref b1, .int 0, .int 0, .ref b4, .int 0, .ref b6, .int 0, .int 0, .int 0, .int 0]))]) hD hS hA [0, 1] rfl
  refine vx_calld (vx_runV (As := [.int a0]) (rest := [.int 0, .ref ou]) ⟨hx, hb, hml, hown, hts⟩ (cx_X5_worth l hfl dC dI x po tr sp pa bx b0 b1 b4 b6 a0 tx sa _ ) (cwV 1 hts gL_worth_X5_worth rfl rfl rfl (by decide +kernel) ⟨Nat.le_of_ble_eq_true rfl, Nat.le_of_ble_eq_true rfl⟩) ⟨px_blind, va_recv hKc hPc (ci := 7) (q0 := 0) rfl rfl, fun U hU hW => ⟨rfl, pr_mk hU hW hPc hKc hDc, xs_mk hU hW hS hFc hXs⟩⟩ rfl rfl hl.1 rfl (lv_room (Nat.le_of_ble_eq_true rfl)) dL_worth_4 ⟨Nat.le_of_ble_eq_true rfl, Nat.le_of_ble_eq_true rfl⟩) hS (fun q _ h => hFc q h) hFc (fun q _ h => hFc q h) (fun E ce q9 u t H1 locs1 ht hvm hpx hB hz1 hk1 hS1 hce hcv hcl => ?_) (fun r u t H1 locs1 ht hvm hw hB hz1 hk1 hS1 => hw.elim)
  obtain rfl : E = "java/lang/IndexOutOfBoundsException" := hB
  refine vx_catch (own := RL) (name := "java/lang/IndexOutOfBoundsException") hown [] ⟨0, 8, 11, 20⟩ [] (htb.trans rfl) (fun _ hz => nomatch hz) (by decide) (by decide) (hts (.classLink RL 20 "java/lang/IndexOutOfBoundsException") (by decide +kernel)) (va_Nw.use rfl hXs.2.2.2.1) hce hcv hcl ?_
  have hP := va_Pn (D := (dC, dI)) (cl := vwCl) H1
  have hD := va_Dn A
  have hS := hS1
  refine W.widen (k := 1) (n := 6) (Nat.le_of_ble_eq_true rfl) (Nat.le_of_ble_eq_true rfl) ?_
  refine lv_astore_n (lv' := [(3, .ref q9), (0, .ref x), (1, .int a0), (2, .ref ou)]) hx hb dL_worth_11 rfl hl (by decide) rfl (fun ls hl => ?_)
  refine lv_iconst (v := 1) hx hb dL_worth_12 (by decide) ?_
  have hP9 := hP.sub (ws' := []) [] rfl
  have hD9 := hD.sub (ws' := []) [] (by decide) rfl
  have hK9 := hK.sub (tys' := []) [] rfl
  refine W.widen (k := 1) (n := 6) (Nat.le_of_ble_eq_true rfl) (Nat.le_of_ble_eq_true rfl) ?_
  exact W.iret (v := 1) hx hb hr (fun t ht hW => ⟨⟨1, (), rfl, rfl, po_mk ht hW hP9 hK9 hD9⟩, hS.F ht⟩) hS.2.2 dL_worth_13

set_option maxHeartbeats 4000000 in
set_option maxRecDepth 100000 in
theorem h0_L_margin (l : Launch) (hfl : l.stackTraces = false) (dC : Nat → ClassId) (dI : Nat → Nat → Nat) (x : Nat) (po : Nat) (tr : Nat) (sp : Nat) (pa : Nat) (bx : Nat) (b0 : Nat) (b1 : Nat) (b4 : Nat) (b6 : Nat) (a0 : Int32) (ou : Nat) (tx : String) (sa : Nat) (sz : Nat)  : Met l yL_margin wsL_margin ({ frames := 8, cells := 1, slots := 6, locals := 141 }) (va_Pc [.ref x, .int a0, .ref ou] (fun U => pr_ dC dI [(x, .inr (7, [.ref bx, .ref po, .ref tr, .ref pa, .ref sp])), (bx, .inr (2, [.ref b0, .ref b1, .int 0, .int 0, .ref b4, .int 0, .ref b6, .int 0, .int 0, .int 0, .int 0]))] [] sz U ∧ xs_ (va_A [(x, .inr (7, [.ref bx, .ref po, .ref tr, .ref pa, .ref sp])), (bx, .inr (2, [.ref b0, .ref b1, .int 0, .int 0, .ref b4, .int 0, .ref b6, .int 0, .int 0, .int 0, .int 0]))] sz) 299 tx sa "java/lang/IndexOutOfBoundsException" U ∧ True)) (va_Qi (fun (r : Int32) (_ : Unit) => r = 1) (fun (_ : Unit) t => po_ dC dI [] [] (va_A [(x, .inr (7, [.ref bx, .ref po, .ref tr, .ref pa, .ref sp])), (bx, .inr (2, [.ref b0, .ref b1, .int 0, .int 0, .ref b4, .int 0, .ref b6, .int 0, .int 0, .int 0, .int 0]))] sz) t) (va_A [(x, .inr (7, [.ref bx, .ref po, .ref tr, .ref pa, .ref sp])), (bx, .inr (2, [.ref b0, .ref b1, .int 0, .int 0, .ref b4, .int 0, .ref b6, .int 0, .int 0, .int 0, .int 0]))] sz)) 1 6 (va_A [(x, .inr (7, [.ref bx, .ref po, .ref tr, .ref pa, .ref sp])), (bx, .inr (2, [.ref b0, .ref b1, .int 0, .int 0, .ref b4, .int 0, .ref b6, .int 0, .int 0, .int 0, .int 0]))] sz) := by
  refine va_MetW (cc := cL_margin) (maxL := 4) (ret := (some .int)) (by decide) rfl ?_
  intro p e s m args below meth c s₁ B hml hv
  obtain ⟨rfl, ⟨hsz, hP, hK, hD0⟩, hXs, hNc⟩ := hv
  have hx := B.exec
  have hb := B.bytes
  have hr := B.returns
  have hts := atoms_spec (ws := wsL_margin) B.pre
  have htb : c.exceptionTable.toList = tableOf [(0, 9, 12, 20)] := vx_table (x := yL_margin) B (hts _ List.mem_cons_self)
  have hown : s.vm.findClass RL = some m.cls := findClass_of_methodNamed B.named
  have hlocks := B.notSynchronized
  subst hsz
  have hD := hD0.self (sz := s.heap.size)
  generalize hAe : va_A [(x, .inr (7, [.ref bx, .ref po, .ref tr, .ref pa, .ref sp])), (bx, .inr (2, [.ref b0, .ref b1, .int 0, .int 0, .ref b4, .int 0, .ref b6, .int 0, .int 0, .int 0, .int 0]))] s.heap.size = A at hD hXs ⊢
  have hA : ∀ q : Nat, s.heap.size ≤ q → A q := fun q h => by rw [← hAe]; exact Or.inr h
  have hS : va_S A s.heap s.heap [] := va_S.rf
  have hP : va_P (dC, dI) vwCl [(x, .inr (7, [.ref bx, .ref po, .ref tr, .ref pa, .ref sp])), (bx, .inr (2, [.ref b0, .ref b1, .int 0, .int 0, .ref b4, .int 0, .ref b6, .int 0, .int 0, .int 0, .int 0]))] s.heap := hP
  have hK : va_K (dC, dI) vwCl [] s := hK
  have hl := lv_entry ([.ref x, .int a0, .ref ou]) (n := 4) (Nat.le_of_ble_eq_true rfl)
  rw [lg_entry_eq]
  generalize (lg_sl ([.ref x, .int a0, .ref ou]) ++ List.replicate (4 - (lg_sl ([.ref x, .int a0, .ref ou])).length) Slot.unset).toArray = ls at hl ⊢
  have hl : lv_has ls 4 [(0, .ref x), (1, .int a0), (2, .ref ou)] := hl
  refine lv_aload_n hx hb dL_margin_0 rfl (lv_at hl 2 rfl) ?_
  refine lv_iconst (v := 0) hx hb dL_margin_1 (by decide) ?_
  refine lv_aload_n hx hb dL_margin_2 rfl (lv_at hl 0 rfl) ?_
  refine lv_iload_n hx hb dL_margin_3 rfl (lv_at hl 1 rfl) ?_
  have hPc := hP.sub (ws' := [(x, .inr (7, [.ref bx, .ref po, .ref tr, .ref pa, .ref sp])), (bx, .inr (2, [.ref b0, .ref b1, .int 0, .int 0, .ref b4, .int 0, .ref b6, .int 0, .int 0, .int 0, .int 0]))]) [0, 1] rfl
  have hDc := hD.sub (ws' := [(x, .inr (7, [.ref bx, .ref po, .ref tr, .ref pa, .ref sp])), (bx, .inr (2, [.ref b0, .ref b1, .int 0, .int 0, .ref b4, .int 0, .ref b6, .int 0, .int 0, .int 0, .int 0]))]) [0, 1] (by decide) rfl
  have hKc := hK.sub (tys' := []) [] rfl
  have hFc := va_free (wc := [(x, .inr (7, [.ref bx, .ref po, .ref tr, .ref pa, .ref sp])), (bx, .inr (2, [.ref b0, .ref b1, .int 0, .int 0, .ref b4, .int 0, .ref b6, .int 0, .int 0, .int 0, .int 0]))]) hD hS hA [0, 1] rfl
  refine vx_calli (vx_runV (As := [.int a0]) (rest := [.int 0, .ref ou]) ⟨hx, hb, hml, hown, hts⟩ (cx_X5_margin l hfl dC dI x po tr sp pa bx b0 b1 b4 b6 a0 tx sa _ ) (cwV 1 hts gL_margin_X5_margin rfl rfl rfl (by decide +kernel) ⟨Nat.le_of_ble_eq_true rfl, Nat.le_of_ble_eq_true rfl⟩) ⟨px_blind, va_recv hKc hPc (ci := 7) (q0 := 0) rfl rfl, fun U hU hW => ⟨rfl, pr_mk hU hW hPc hKc hDc, xs_mk hU hW hS hFc hXs⟩⟩ rfl rfl hl.1 rfl (lv_room (Nat.le_of_ble_eq_true rfl)) dL_margin_4 ⟨Nat.le_of_ble_eq_true rfl, Nat.le_of_ble_eq_true rfl⟩) hS (fun q _ h => hFc q h) hFc (fun q _ h => hFc q h) (fun E ce q9 u t H1 locs1 ht hvm hpx hB hz1 hk1 hS1 hce hcv hcl => ?_) (fun r u t H1 locs1 ht hvm hw hB hz1 hk1 hS1 => hw.elim)
  obtain rfl : E = "java/lang/IndexOutOfBoundsException" := hB
  refine vx_catch (own := RL) (name := "java/lang/IndexOutOfBoundsException") hown [] ⟨0, 9, 12, 20⟩ [] (htb.trans rfl) (fun _ hz => nomatch hz) (by decide) (by decide) (hts (.classLink RL 20 "java/lang/IndexOutOfBoundsException") (by decide +kernel)) (va_Nw.use rfl hXs.2.2.2.1) hce hcv hcl ?_
  have hP := va_Pn (D := (dC, dI)) (cl := vwCl) H1
  have hD := va_Dn A
  have hS := hS1
  refine W.widen (k := 1) (n := 6) (Nat.le_of_ble_eq_true rfl) (Nat.le_of_ble_eq_true rfl) ?_
  refine lv_astore_n (lv' := [(3, .ref q9), (0, .ref x), (1, .int a0), (2, .ref ou)]) hx hb dL_margin_12 rfl hl (by decide) rfl (fun ls hl => ?_)
  refine lv_iconst (v := 1) hx hb dL_margin_13 (by decide) ?_
  have hP9 := hP.sub (ws' := []) [] rfl
  have hD9 := hD.sub (ws' := []) [] (by decide) rfl
  have hK9 := hK.sub (tys' := []) [] rfl
  refine W.widen (k := 1) (n := 6) (Nat.le_of_ble_eq_true rfl) (Nat.le_of_ble_eq_true rfl) ?_
  exact W.iret (v := 1) hx hb hr (fun t ht hW => ⟨⟨1, (), rfl, rfl, po_mk ht hW hP9 hK9 hD9⟩, hS.F ht⟩) hS.2.2 dL_margin_14

set_option maxHeartbeats 4000000 in
set_option maxRecDepth 100000 in
theorem h0_L_wouldWin (l : Launch) (hfl : l.stackTraces = false) (dC : Nat → ClassId) (dI : Nat → Nat → Nat) (x : Nat) (po : Nat) (tr : Nat) (sp : Nat) (pa : Nat) (bx : Nat) (b0 : Nat) (b1 : Nat) (b4 : Nat) (b6 : Nat) (a0 : Int32) (a1 : Int32) (a2 : Int32) (ou : Nat) (tx : String) (sa : Nat) (sz : Nat)  : Met l yL_wouldWin wsL_wouldWin ({ frames := 8, cells := 1, slots := 6, locals := 145 }) (va_Pc [.ref x, .int a0, .int a1, .int a2, .ref ou] (fun U => pr_ dC dI [(x, .inr (7, [.ref bx, .ref po, .ref tr, .ref pa, .ref sp])), (bx, .inr (2, [.ref b0, .ref b1, .int 0, .int 0, .ref b4, .int 0, .ref b6, .int 0, .int 0, .int 0, .int 0]))] [] sz U ∧ xs_ (va_A [(x, .inr (7, [.ref bx, .ref po, .ref tr, .ref pa, .ref sp])), (bx, .inr (2, [.ref b0, .ref b1, .int 0, .int 0, .ref b4, .int 0, .ref b6, .int 0, .int 0, .int 0, .int 0]))] sz) 301 tx sa "java/lang/IndexOutOfBoundsException" U ∧ True)) (va_Qi (fun (r : Int32) (_ : Unit) => r = 1) (fun (_ : Unit) t => po_ dC dI [] [] (va_A [(x, .inr (7, [.ref bx, .ref po, .ref tr, .ref pa, .ref sp])), (bx, .inr (2, [.ref b0, .ref b1, .int 0, .int 0, .ref b4, .int 0, .ref b6, .int 0, .int 0, .int 0, .int 0]))] sz) t) (va_A [(x, .inr (7, [.ref bx, .ref po, .ref tr, .ref pa, .ref sp])), (bx, .inr (2, [.ref b0, .ref b1, .int 0, .int 0, .ref b4, .int 0, .ref b6, .int 0, .int 0, .int 0, .int 0]))] sz)) 1 6 (va_A [(x, .inr (7, [.ref bx, .ref po, .ref tr, .ref pa, .ref sp])), (bx, .inr (2, [.ref b0, .ref b1, .int 0, .int 0, .ref b4, .int 0, .ref b6, .int 0, .int 0, .int 0, .int 0]))] sz) := by
  refine va_MetW (cc := cL_wouldWin) (maxL := 6) (ret := (some .int)) (by decide) rfl ?_
  intro p e s m args below meth c s₁ B hml hv
  obtain ⟨rfl, ⟨hsz, hP, hK, hD0⟩, hXs, hNc⟩ := hv
  have hx := B.exec
  have hb := B.bytes
  have hr := B.returns
  have hts := atoms_spec (ws := wsL_wouldWin) B.pre
  have htb : c.exceptionTable.toList = tableOf [(0, 12, 15, 20), (0, 12, 19, 13)] := vx_table (x := yL_wouldWin) B (hts _ List.mem_cons_self)
  have hown : s.vm.findClass RL = some m.cls := findClass_of_methodNamed B.named
  have hlocks := B.notSynchronized
  subst hsz
  have hD := hD0.self (sz := s.heap.size)
  generalize hAe : va_A [(x, .inr (7, [.ref bx, .ref po, .ref tr, .ref pa, .ref sp])), (bx, .inr (2, [.ref b0, .ref b1, .int 0, .int 0, .ref b4, .int 0, .ref b6, .int 0, .int 0, .int 0, .int 0]))] s.heap.size = A at hD hXs ⊢
  have hA : ∀ q : Nat, s.heap.size ≤ q → A q := fun q h => by rw [← hAe]; exact Or.inr h
  have hS : va_S A s.heap s.heap [] := va_S.rf
  have hP : va_P (dC, dI) vwCl [(x, .inr (7, [.ref bx, .ref po, .ref tr, .ref pa, .ref sp])), (bx, .inr (2, [.ref b0, .ref b1, .int 0, .int 0, .ref b4, .int 0, .ref b6, .int 0, .int 0, .int 0, .int 0]))] s.heap := hP
  have hK : va_K (dC, dI) vwCl [] s := hK
  have hl := lv_entry ([.ref x, .int a0, .int a1, .int a2, .ref ou]) (n := 6) (Nat.le_of_ble_eq_true rfl)
  rw [lg_entry_eq]
  generalize (lg_sl ([.ref x, .int a0, .int a1, .int a2, .ref ou]) ++ List.replicate (6 - (lg_sl ([.ref x, .int a0, .int a1, .int a2, .ref ou])).length) Slot.unset).toArray = ls at hl ⊢
  have hl : lv_has ls 6 [(0, .ref x), (1, .int a0), (2, .int a1), (3, .int a2), (4, .ref ou)] := hl
  refine lv_aload hx hb dL_wouldWin_0 (lv_at hl 4 rfl) ?_
  refine lv_iconst (v := 0) hx hb dL_wouldWin_2 (by decide) ?_
  refine lv_aload_n hx hb dL_wouldWin_3 rfl (lv_at hl 0 rfl) ?_
  refine lv_iload_n hx hb dL_wouldWin_4 rfl (lv_at hl 1 rfl) ?_
  refine lv_iload_n hx hb dL_wouldWin_5 rfl (lv_at hl 2 rfl) ?_
  refine lv_iload_n hx hb dL_wouldWin_6 rfl (lv_at hl 3 rfl) ?_
  have hPc := hP.sub (ws' := [(x, .inr (7, [.ref bx, .ref po, .ref tr, .ref pa, .ref sp])), (bx, .inr (2, [.ref b0, .ref b1, .int 0, .int 0, .ref b4, .int 0, .ref b6, .int 0, .int 0, .int 0, .int 0]))]) [0, 1] rfl
  have hDc := hD.sub (ws' := [(x, .inr (7, [.ref bx, .ref po, .ref tr, .ref pa, .ref sp])), (bx, .inr (2, [.ref b0, .ref b1, .int 0, .int 0, .ref b4, .int 0, .ref b6, .int 0, .int 0, .int 0, .int 0]))]) [0, 1] (by decide) rfl
  have hKc := hK.sub (tys' := []) [] rfl
  have hFc := va_free (wc := [(x, .inr (7, [.ref bx, .ref po, .ref tr, .ref pa, .ref sp])), (bx, .inr (2, [.ref b0, .ref b1, .int 0, .int 0, .ref b4, .int 0, .ref b6, .int 0, .int 0, .int 0, .int 0]))]) hD hS hA [0, 1] rfl
  refine vx_calli (vx_runV (As := [.int a0, .int a1, .int a2]) (rest := [.int 0, .ref ou]) ⟨hx, hb, hml, hown, hts⟩ (cx_X5_wouldWin l hfl dC dI x po tr sp pa bx b0 b1 b4 b6 a0 a1 a2 tx sa _ ) (cwV 3 hts gL_wouldWin_X5_wouldWin rfl rfl rfl (by decide +kernel) ⟨Nat.le_of_ble_eq_true rfl, Nat.le_of_ble_eq_true rfl⟩) ⟨px_blind, va_recv hKc hPc (ci := 7) (q0 := 0) rfl rfl, fun U hU hW => ⟨rfl, pr_mk hU hW hPc hKc hDc, xs_mk hU hW hS hFc hXs⟩⟩ rfl rfl hl.1 rfl (lv_room (Nat.le_of_ble_eq_true rfl)) dL_wouldWin_7 ⟨Nat.le_of_ble_eq_true rfl, Nat.le_of_ble_eq_true rfl⟩) hS (fun q _ h => hFc q h) hFc (fun q _ h => hFc q h) (fun E ce q9 u t H1 locs1 ht hvm hpx hB hz1 hk1 hS1 hce hcv hcl => ?_) (fun r u t H1 locs1 ht hvm hw hB hz1 hk1 hS1 => hw.elim)
  obtain rfl : E = "java/lang/IndexOutOfBoundsException" := hB
  refine vx_catch (own := RL) (name := "java/lang/IndexOutOfBoundsException") hown [] ⟨0, 12, 15, 20⟩ [⟨0, 12, 19, 13⟩] (htb.trans rfl) (fun _ hz => nomatch hz) (by decide) (by decide) (hts (.classLink RL 20 "java/lang/IndexOutOfBoundsException") (by decide +kernel)) (va_Nw.use rfl hXs.2.2.2.1) hce hcv hcl ?_
  have hP := va_Pn (D := (dC, dI)) (cl := vwCl) H1
  have hD := va_Dn A
  have hS := hS1
  refine W.widen (k := 1) (n := 6) (Nat.le_of_ble_eq_true rfl) (Nat.le_of_ble_eq_true rfl) ?_
  refine lv_astore (lv' := [(5, .ref q9), (0, .ref x), (1, .int a0), (2, .int a1), (3, .int a2), (4, .ref ou)]) hx hb dL_wouldWin_15 hl (by decide) rfl (fun ls hl => ?_)
  refine lv_iconst (v := 1) hx hb dL_wouldWin_17 (by decide) ?_
  have hP9 := hP.sub (ws' := []) [] rfl
  have hD9 := hD.sub (ws' := []) [] (by decide) rfl
  have hK9 := hK.sub (tys' := []) [] rfl
  refine W.widen (k := 1) (n := 6) (Nat.le_of_ble_eq_true rfl) (Nat.le_of_ble_eq_true rfl) ?_
  exact W.iret (v := 1) hx hb hr (fun t ht hW => ⟨⟨1, (), rfl, rfl, po_mk ht hW hP9 hK9 hD9⟩, hS.F ht⟩) hS.2.2 dL_wouldWin_18

set_option maxHeartbeats 4000000 in
set_option maxRecDepth 100000 in
theorem h0_L_lie (l : Launch) (hfl : l.stackTraces = false) (dC : Nat → ClassId) (dI : Nat → Nat → Nat) (x : Nat) (po : Nat) (tr : Nat) (sp : Nat) (pa : Nat) (bx : Nat) (b0 : Nat) (b1 : Nat) (b4 : Nat) (b6 : Nat) (a0 : Int32) (a1 : Int32) (ou : Nat) (tx : String) (sa : Nat) (sz : Nat)  : Met l yL_lie wsL_lie ({ frames := 8, cells := 1, slots := 6, locals := 147 }) (va_Pc [.ref x, .int a0, .int a1, .ref ou] (fun U => pr_ dC dI [(x, .inr (7, [.ref bx, .ref po, .ref tr, .ref pa, .ref sp])), (bx, .inr (2, [.ref b0, .ref b1, .int 0, .int 0, .ref b4, .int 0, .ref b6, .int 0, .int 0, .int 0, .int 0]))] [] sz U ∧ xs_ (va_A [(x, .inr (7, [.ref bx, .ref po, .ref tr, .ref pa, .ref sp])), (bx, .inr (2, [.ref b0, .ref b1, .int 0, .int 0, .ref b4, .int 0, .ref b6, .int 0, .int 0, .int 0, .int 0]))] sz) 301 tx sa "java/lang/IndexOutOfBoundsException" U ∧ True)) (va_Qi (fun (r : Int32) (_ : Unit) => r = 1) (fun (_ : Unit) t => po_ dC dI [] [] (va_A [(x, .inr (7, [.ref bx, .ref po, .ref tr, .ref pa, .ref sp])), (bx, .inr (2, [.ref b0, .ref b1, .int 0, .int 0, .ref b4, .int 0, .ref b6, .int 0, .int 0, .int 0, .int 0]))] sz) t) (va_A [(x, .inr (7, [.ref bx, .ref po, .ref tr, .ref pa, .ref sp])), (bx, .inr (2, [.ref b0, .ref b1, .int 0, .int 0, .ref b4, .int 0, .ref b6, .int 0, .int 0, .int 0, .int 0]))] sz)) 1 6 (va_A [(x, .inr (7, [.ref bx, .ref po, .ref tr, .ref pa, .ref sp])), (bx, .inr (2, [.ref b0, .ref b1, .int 0, .int 0, .ref b4, .int 0, .ref b6, .int 0, .int 0, .int 0, .int 0]))] sz) := by
  refine va_MetW (cc := cL_lie) (maxL := 5) (ret := (some .int)) (by decide) rfl ?_
  intro p e s m args below meth c s₁ B hml hv
  obtain ⟨rfl, ⟨hsz, hP, hK, hD0⟩, hXs, hNc⟩ := hv
  have hx := B.exec
  have hb := B.bytes
  have hr := B.returns
  have hts := atoms_spec (ws := wsL_lie) B.pre
  have htb : c.exceptionTable.toList = tableOf [(0, 10, 13, 20), (0, 10, 17, 13)] := vx_table (x := yL_lie) B (hts _ List.mem_cons_self)
  have hown : s.vm.findClass RL = some m.cls := findClass_of_methodNamed B.named
  have hlocks := B.notSynchronized
  subst hsz
  have hD := hD0.self (sz := s.heap.size)
  generalize hAe : va_A [(x, .inr (7, [.ref bx, .ref po, .ref tr, .ref pa, .ref sp])), (bx, .inr (2, [.ref b0, .ref b1, .int 0, .int 0, .ref b4, .int 0, .ref b6, .int 0, .int 0, .int 0, .int 0]))] s.heap.size = A at hD hXs ⊢
  have hA : ∀ q : Nat, s.heap.size ≤ q → A q := fun q h => by rw [← hAe]; exact Or.inr h
  have hS : va_S A s.heap s.heap [] := va_S.rf
  have hP : va_P (dC, dI) vwCl [(x, .inr (7, [.ref bx, .ref po, .ref tr, .ref pa, .ref sp])), (bx, .inr (2, [.ref b0, .ref b1, .int 0, .int 0, .ref b4, .int 0, .ref b6, .int 0, .int 0, .int 0, .int 0]))] s.heap := hP
  have hK : va_K (dC, dI) vwCl [] s := hK
  have hl := lv_entry ([.ref x, .int a0, .int a1, .ref ou]) (n := 5) (Nat.le_of_ble_eq_true rfl)
  rw [lg_entry_eq]
  generalize (lg_sl ([.ref x, .int a0, .int a1, .ref ou]) ++ List.replicate (5 - (lg_sl ([.ref x, .int a0, .int a1, .ref ou])).length) Slot.unset).toArray = ls at hl ⊢
  have hl : lv_has ls 5 [(0, .ref x), (1, .int a0), (2, .int a1), (3, .ref ou)] := hl
  refine lv_aload_n hx hb dL_lie_0 rfl (lv_at hl 3 rfl) ?_
  refine lv_iconst (v := 0) hx hb dL_lie_1 (by decide) ?_
  refine lv_aload_n hx hb dL_lie_2 rfl (lv_at hl 0 rfl) ?_
  refine lv_iload_n hx hb dL_lie_3 rfl (lv_at hl 1 rfl) ?_
  refine lv_iload_n hx hb dL_lie_4 rfl (lv_at hl 2 rfl) ?_
  have hPc := hP.sub (ws' := [(x, .inr (7, [.ref bx, .ref po, .ref tr, .ref pa, .ref sp])), (bx, .inr (2, [.ref b0, .ref b1, .int 0, .int 0, .ref b4, .int 0, .ref b6, .int 0, .int 0, .int 0, .int 0]))]) [0, 1] rfl
  have hDc := hD.sub (ws' := [(x, .inr (7, [.ref bx, .ref po, .ref tr, .ref pa, .ref sp])), (bx, .inr (2, [.ref b0, .ref b1, .int 0, .int 0, .ref b4, .int 0, .ref b6, .int 0, .int 0, .int 0, .int 0]))]) [0, 1] (by decide) rfl
  have hKc := hK.sub (tys' := []) [] rfl
  have hFc := va_free (wc := [(x, .inr (7, [.ref bx, .ref po, .ref tr, .ref pa, .ref sp])), (bx, .inr (2, [.ref b0, .ref b1, .int 0, .int 0, .ref b4, .int 0, .ref b6, .int 0, .int 0, .int 0, .int 0]))]) hD hS hA [0, 1] rfl
  refine vx_calli (vx_runV (As := [.int a0, .int a1]) (rest := [.int 0, .ref ou]) ⟨hx, hb, hml, hown, hts⟩ (cx_X5_lie l hfl dC dI x po tr sp pa bx b0 b1 b4 b6 a0 a1 tx sa _ ) (cwV 2 hts gL_lie_X5_lie rfl rfl rfl (by decide +kernel) ⟨Nat.le_of_ble_eq_true rfl, Nat.le_of_ble_eq_true rfl⟩) ⟨px_blind, va_recv hKc hPc (ci := 7) (q0 := 0) rfl rfl, fun U hU hW => ⟨rfl, pr_mk hU hW hPc hKc hDc, xs_mk hU hW hS hFc hXs⟩⟩ rfl rfl hl.1 rfl (lv_room (Nat.le_of_ble_eq_true rfl)) dL_lie_5 ⟨Nat.le_of_ble_eq_true rfl, Nat.le_of_ble_eq_true rfl⟩) hS (fun q _ h => hFc q h) hFc (fun q _ h => hFc q h) (fun E ce q9 u t H1 locs1 ht hvm hpx hB hz1 hk1 hS1 hce hcv hcl => ?_) (fun r u t H1 locs1 ht hvm hw hB hz1 hk1 hS1 => hw.elim)
  obtain rfl : E = "java/lang/IndexOutOfBoundsException" := hB
  refine vx_catch (own := RL) (name := "java/lang/IndexOutOfBoundsException") hown [] ⟨0, 10, 13, 20⟩ [⟨0, 10, 17, 13⟩] (htb.trans rfl) (fun _ hz => nomatch hz) (by decide) (by decide) (hts (.classLink RL 20 "java/lang/IndexOutOfBoundsException") (by decide +kernel)) (va_Nw.use rfl hXs.2.2.2.1) hce hcv hcl ?_
  have hP := va_Pn (D := (dC, dI)) (cl := vwCl) H1
  have hD := va_Dn A
  have hS := hS1
  refine W.widen (k := 1) (n := 6) (Nat.le_of_ble_eq_true rfl) (Nat.le_of_ble_eq_true rfl) ?_
  refine lv_astore (lv' := [(4, .ref q9), (0, .ref x), (1, .int a0), (2, .int a1), (3, .ref ou)]) hx hb dL_lie_13 hl (by decide) rfl (fun ls hl => ?_)
  refine lv_iconst (v := 1) hx hb dL_lie_15 (by decide) ?_
  have hP9 := hP.sub (ws' := []) [] rfl
  have hD9 := hD.sub (ws' := []) [] (by decide) rfl
  have hK9 := hK.sub (tys' := []) [] rfl
  refine W.widen (k := 1) (n := 6) (Nat.le_of_ble_eq_true rfl) (Nat.le_of_ble_eq_true rfl) ?_
  exact W.iret (v := 1) hx hb hr (fun t ht hW => ⟨⟨1, (), rfl, rfl, po_mk ht hW hP9 hK9 hD9⟩, hS.F ht⟩) hS.2.2 dL_lie_16

set_option maxHeartbeats 4000000 in
set_option maxRecDepth 100000 in
theorem h0_L_candidate (l : Launch) (hfl : l.stackTraces = false) (dC : Nat → ClassId) (dI : Nat → Nat → Nat) (x : Nat) (po : Nat) (tr : Nat) (sp : Nat) (pa : Nat) (bx : Nat) (b0 : Nat) (b1 : Nat) (b4 : Nat) (b6 : Nat) (a0 : Int32) (ou : Nat) (tx : String) (sa : Nat) (sz : Nat) (hbd : a0 < 0 ∨ 4 ≤ a0) : Met l yL_candidate wsL_candidate ({ frames := 7, cells := 1, slots := 6, locals := 116 }) (va_Pc [.ref x, .int a0, .ref ou] (fun U => pr_ dC dI [(x, .inr (7, [.ref bx, .ref po, .ref tr, .ref pa, .ref sp])), (bx, .inr (2, [.ref b0, .ref b1, .int 0, .int 0, .ref b4, .int 0, .ref b6, .int 0, .int 0, .int 0, .int 0]))] [] sz U ∧ xs_ (va_A [(x, .inr (7, [.ref bx, .ref po, .ref tr, .ref pa, .ref sp])), (bx, .inr (2, [.ref b0, .ref b1, .int 0, .int 0, .ref b4, .int 0, .ref b6, .int 0, .int 0, .int 0, .int 0]))] sz) 50 tx sa "java/lang/IllegalArgumentException" U ∧ True)) (va_Qi (fun (r : Int32) (_ : Unit) => r = 1) (fun (_ : Unit) t => po_ dC dI [] [] (va_A [(x, .inr (7, [.ref bx, .ref po, .ref tr, .ref pa, .ref sp])), (bx, .inr (2, [.ref b0, .ref b1, .int 0, .int 0, .ref b4, .int 0, .ref b6, .int 0, .int 0, .int 0, .int 0]))] sz) t) (va_A [(x, .inr (7, [.ref bx, .ref po, .ref tr, .ref pa, .ref sp])), (bx, .inr (2, [.ref b0, .ref b1, .int 0, .int 0, .ref b4, .int 0, .ref b6, .int 0, .int 0, .int 0, .int 0]))] sz)) 1 6 (va_A [(x, .inr (7, [.ref bx, .ref po, .ref tr, .ref pa, .ref sp])), (bx, .inr (2, [.ref b0, .ref b1, .int 0, .int 0, .ref b4, .int 0, .ref b6, .int 0, .int 0, .int 0, .int 0]))] sz) := by
  refine va_MetW (cc := cL_candidate) (maxL := 4) (ret := (some .int)) (by decide) rfl ?_
  intro p e s m args below meth c s₁ B hml hv
  obtain ⟨rfl, ⟨hsz, hP, hK, hD0⟩, hXs, hNc⟩ := hv
  have hx := B.exec
  have hb := B.bytes
  have hr := B.returns
  have hts := atoms_spec (ws := wsL_candidate) B.pre
  have htb : c.exceptionTable.toList = tableOf [(0, 9, 12, 13), (0, 9, 15, 15)] := vx_table (x := yL_candidate) B (hts _ List.mem_cons_self)
  have hown : s.vm.findClass RL = some m.cls := findClass_of_methodNamed B.named
  have hlocks := B.notSynchronized
  subst hsz
  have hD := hD0.self (sz := s.heap.size)
  generalize hAe : va_A [(x, .inr (7, [.ref bx, .ref po, .ref tr, .ref pa, .ref sp])), (bx, .inr (2, [.ref b0, .ref b1, .int 0, .int 0, .ref b4, .int 0, .ref b6, .int 0, .int 0, .int 0, .int 0]))] s.heap.size = A at hD hXs ⊢
  have hA : ∀ q : Nat, s.heap.size ≤ q → A q := fun q h => by rw [← hAe]; exact Or.inr h
  have hS : va_S A s.heap s.heap [] := va_S.rf
  have hP : va_P (dC, dI) vwCl [(x, .inr (7, [.ref bx, .ref po, .ref tr, .ref pa, .ref sp])), (bx, .inr (2, [.ref b0, .ref b1, .int 0, .int 0, .ref b4, .int 0, .ref b6, .int 0, .int 0, .int 0, .int 0]))] s.heap := hP
  have hK : va_K (dC, dI) vwCl [] s := hK
  have hl := lv_entry ([.ref x, .int a0, .ref ou]) (n := 4) (Nat.le_of_ble_eq_true rfl)
  rw [lg_entry_eq]
  generalize (lg_sl ([.ref x, .int a0, .ref ou]) ++ List.replicate (4 - (lg_sl ([.ref x, .int a0, .ref ou])).length) Slot.unset).toArray = ls at hl ⊢
  have hl : lv_has ls 4 [(0, .ref x), (1, .int a0), (2, .ref ou)] := hl
  refine lv_aload_n hx hb dL_candidate_0 rfl (lv_at hl 2 rfl) ?_
  refine lv_iconst (v := 0) hx hb dL_candidate_1 (by decide) ?_
  refine lv_aload_n hx hb dL_candidate_2 rfl (lv_at hl 0 rfl) ?_
  refine lv_iload_n hx hb dL_candidate_3 rfl (lv_at hl 1 rfl) ?_
  have hPc := hP.sub (ws' := [(x, .inr (7, [.ref bx, .ref po, .ref tr, .ref pa, .ref sp])), (bx, .inr (2, [.ref b0, .ref b1, .int 0, .int 0, .ref b4, .int 0, .ref b6, .int 0, .int 0, .int 0, .int 0]))]) [0, 1] rfl
  have hDc := hD.sub (ws' := [(x, .inr (7, [.ref bx, .ref po, .ref tr, .ref pa, .ref sp])), (bx, .inr (2, [.ref b0, .ref b1, .int 0, .int 0, .ref b4, .int 0, .ref b6, .int 0, .int 0, .int 0, .int 0]))]) [0, 1] (by decide) rfl
  have hKc := hK.sub (tys' := []) [] rfl
  have hFc := va_free (wc := [(x, .inr (7, [.ref bx, .ref po, .ref tr, .ref pa, .ref sp])), (bx, .inr (2, [.ref b0, .ref b1, .int 0, .int 0, .ref b4, .int 0, .ref b6, .int 0, .int 0, .int 0, .int 0]))]) hD hS hA [0, 1] rfl
  refine vx_calli (vx_runV (As := [.int a0]) (rest := [.int 0, .ref ou]) ⟨hx, hb, hml, hown, hts⟩ (cx_X5_candidate l hfl dC dI x po tr sp pa bx b0 b1 b4 b6 a0 tx sa _ hbd) (cwV 1 hts gL_candidate_X5_candidate rfl rfl rfl (by decide +kernel) ⟨Nat.le_of_ble_eq_true rfl, Nat.le_of_ble_eq_true rfl⟩) ⟨px_blind, va_recv hKc hPc (ci := 7) (q0 := 0) rfl rfl, fun U hU hW => ⟨rfl, pr_mk hU hW hPc hKc hDc, xs_mk hU hW hS hFc hXs⟩⟩ rfl rfl hl.1 rfl (lv_room (Nat.le_of_ble_eq_true rfl)) dL_candidate_4 ⟨Nat.le_of_ble_eq_true rfl, Nat.le_of_ble_eq_true rfl⟩) hS (fun q _ h => hFc q h) hFc (fun q _ h => hFc q h) (fun E ce q9 u t H1 locs1 ht hvm hpx hB hz1 hk1 hS1 hce hcv hcl => ?_) (fun r u t H1 locs1 ht hvm hw hB hz1 hk1 hS1 => hw.elim)
  obtain rfl : E = "java/lang/IllegalArgumentException" := hB
  refine vx_catch (own := RL) (name := "java/lang/IllegalArgumentException") hown [] ⟨0, 9, 12, 13⟩ [⟨0, 9, 15, 15⟩] (htb.trans rfl) (fun _ hz => nomatch hz) (by decide) (by decide) (hts (.classLink RL 13 "java/lang/IllegalArgumentException") (by decide +kernel)) (va_Nw.use rfl hXs.2.2.2.1) hce hcv hcl ?_
  have hP := va_Pn (D := (dC, dI)) (cl := vwCl) H1
  have hD := va_Dn A
  have hS := hS1
  refine W.widen (k := 1) (n := 6) (Nat.le_of_ble_eq_true rfl) (Nat.le_of_ble_eq_true rfl) ?_
  refine lv_astore_n (lv' := [(3, .ref q9), (0, .ref x), (1, .int a0), (2, .ref ou)]) hx hb dL_candidate_12 rfl hl (by decide) rfl (fun ls hl => ?_)
  refine lv_iconst (v := 1) hx hb dL_candidate_13 (by decide) ?_
  have hP9 := hP.sub (ws' := []) [] rfl
  have hD9 := hD.sub (ws' := []) [] (by decide) rfl
  have hK9 := hK.sub (tys' := []) [] rfl
  refine W.widen (k := 1) (n := 6) (Nat.le_of_ble_eq_true rfl) (Nat.le_of_ble_eq_true rfl) ?_
  exact W.iret (v := 1) hx hb hr (fun t ht hW => ⟨⟨1, (), rfl, rfl, po_mk ht hW hP9 hK9 hD9⟩, hS.F ht⟩) hS.2.2 dL_candidate_14

set_option maxHeartbeats 4000000 in
set_option maxRecDepth 100000 in
theorem h0_L_district (l : Launch) (hfl : l.stackTraces = false) (dC : Nat → ClassId) (dI : Nat → Nat → Nat) (x : Nat) (po : Nat) (tr : Nat) (sp : Nat) (pa : Nat) (bx : Nat) (b0 : Nat) (b1 : Nat) (b4 : Nat) (b6 : Nat) (a0 : Int32) (ou : Nat) (tx : String) (sa : Nat) (sz : Nat) (hbd : a0 < 1 ∨ ¬ a0 ≤ 5) : Met l yL_district wsL_district ({ frames := 7, cells := 1, slots := 6, locals := 116 }) (va_Pc [.ref x, .int a0, .ref ou] (fun U => pr_ dC dI [(x, .inr (7, [.ref bx, .ref po, .ref tr, .ref pa, .ref sp])), (bx, .inr (2, [.ref b0, .ref b1, .int 0, .int 0, .ref b4, .int 0, .ref b6, .int 0, .int 0, .int 0, .int 0]))] [] sz U ∧ xs_ (va_A [(x, .inr (7, [.ref bx, .ref po, .ref tr, .ref pa, .ref sp])), (bx, .inr (2, [.ref b0, .ref b1, .int 0, .int 0, .ref b4, .int 0, .ref b6, .int 0, .int 0, .int 0, .int 0]))] sz) 84 tx sa "java/lang/IllegalArgumentException" U ∧ True)) (va_Qi (fun (r : Int32) (_ : Unit) => r = 1) (fun (_ : Unit) t => po_ dC dI [] [] (va_A [(x, .inr (7, [.ref bx, .ref po, .ref tr, .ref pa, .ref sp])), (bx, .inr (2, [.ref b0, .ref b1, .int 0, .int 0, .ref b4, .int 0, .ref b6, .int 0, .int 0, .int 0, .int 0]))] sz) t) (va_A [(x, .inr (7, [.ref bx, .ref po, .ref tr, .ref pa, .ref sp])), (bx, .inr (2, [.ref b0, .ref b1, .int 0, .int 0, .ref b4, .int 0, .ref b6, .int 0, .int 0, .int 0, .int 0]))] sz)) 1 6 (va_A [(x, .inr (7, [.ref bx, .ref po, .ref tr, .ref pa, .ref sp])), (bx, .inr (2, [.ref b0, .ref b1, .int 0, .int 0, .ref b4, .int 0, .ref b6, .int 0, .int 0, .int 0, .int 0]))] sz) := by
  refine va_MetW (cc := cL_district) (maxL := 4) (ret := (some .int)) (by decide) rfl ?_
  intro p e s m args below meth c s₁ B hml hv
  obtain ⟨rfl, ⟨hsz, hP, hK, hD0⟩, hXs, hNc⟩ := hv
  have hx := B.exec
  have hb := B.bytes
  have hr := B.returns
  have hts := atoms_spec (ws := wsL_district) B.pre
  have htb : c.exceptionTable.toList = tableOf [(0, 9, 12, 13), (0, 9, 15, 15)] := vx_table (x := yL_district) B (hts _ List.mem_cons_self)
  have hown : s.vm.findClass RL = some m.cls := findClass_of_methodNamed B.named
  have hlocks := B.notSynchronized
  subst hsz
  have hD := hD0.self (sz := s.heap.size)
  generalize hAe : va_A [(x, .inr (7, [.ref bx, .ref po, .ref tr, .ref pa, .ref sp])), (bx, .inr (2, [.ref b0, .ref b1, .int 0, .int 0, .ref b4, .int 0, .ref b6, .int 0, .int 0, .int 0, .int 0]))] s.heap.size = A at hD hXs ⊢
  have hA : ∀ q : Nat, s.heap.size ≤ q → A q := fun q h => by rw [← hAe]; exact Or.inr h
  have hS : va_S A s.heap s.heap [] := va_S.rf
  have hP : va_P (dC, dI) vwCl [(x, .inr (7, [.ref bx, .ref po, .ref tr, .ref pa, .ref sp])), (bx, .inr (2, [.ref b0, .ref b1, .int 0, .int 0, .ref b4, .int 0, .ref b6, .int 0, .int 0, .int 0, .int 0]))] s.heap := hP
  have hK : va_K (dC, dI) vwCl [] s := hK
  have hl := lv_entry ([.ref x, .int a0, .ref ou]) (n := 4) (Nat.le_of_ble_eq_true rfl)
  rw [lg_entry_eq]
  generalize (lg_sl ([.ref x, .int a0, .ref ou]) ++ List.replicate (4 - (lg_sl ([.ref x, .int a0, .ref ou])).length) Slot.unset).toArray = ls at hl ⊢
  have hl : lv_has ls 4 [(0, .ref x), (1, .int a0), (2, .ref ou)] := hl
  refine lv_aload_n hx hb dL_district_0 rfl (lv_at hl 2 rfl) ?_
  refine lv_iconst (v := 0) hx hb dL_district_1 (by decide) ?_
  refine lv_aload_n hx hb dL_district_2 rfl (lv_at hl 0 rfl) ?_
  refine lv_iload_n hx hb dL_district_3 rfl (lv_at hl 1 rfl) ?_
  have hPc := hP.sub (ws' := [(x, .inr (7, [.ref bx, .ref po, .ref tr, .ref pa, .ref sp])), (bx, .inr (2, [.ref b0, .ref b1, .int 0, .int 0, .ref b4, .int 0, .ref b6, .int 0, .int 0, .int 0, .int 0]))]) [0, 1] rfl
  have hDc := hD.sub (ws' := [(x, .inr (7, [.ref bx, .ref po, .ref tr, .ref pa, .ref sp])), (bx, .inr (2, [.ref b0, .ref b1, .int 0, .int 0, .ref b4, .int 0, .ref b6, .int 0, .int 0, .int 0, .int 0]))]) [0, 1] (by decide) rfl
  have hKc := hK.sub (tys' := []) [] rfl
  have hFc := va_free (wc := [(x, .inr (7, [.ref bx, .ref po, .ref tr, .ref pa, .ref sp])), (bx, .inr (2, [.ref b0, .ref b1, .int 0, .int 0, .ref b4, .int 0, .ref b6, .int 0, .int 0, .int 0, .int 0]))]) hD hS hA [0, 1] rfl
  refine vx_calli (vx_runV (As := [.int a0]) (rest := [.int 0, .ref ou]) ⟨hx, hb, hml, hown, hts⟩ (cx_X5_district l hfl dC dI x po tr sp pa bx b0 b1 b4 b6 a0 tx sa _ hbd) (cwV 1 hts gL_district_X5_district rfl rfl rfl (by decide +kernel) ⟨Nat.le_of_ble_eq_true rfl, Nat.le_of_ble_eq_true rfl⟩) ⟨px_blind, va_recv hKc hPc (ci := 7) (q0 := 0) rfl rfl, fun U hU hW => ⟨rfl, pr_mk hU hW hPc hKc hDc, xs_mk hU hW hS hFc hXs⟩⟩ rfl rfl hl.1 rfl (lv_room (Nat.le_of_ble_eq_true rfl)) dL_district_4 ⟨Nat.le_of_ble_eq_true rfl, Nat.le_of_ble_eq_true rfl⟩) hS (fun q _ h => hFc q h) hFc (fun q _ h => hFc q h) (fun E ce q9 u t H1 locs1 ht hvm hpx hB hz1 hk1 hS1 hce hcv hcl => ?_) (fun r u t H1 locs1 ht hvm hw hB hz1 hk1 hS1 => hw.elim)
  obtain rfl : E = "java/lang/IllegalArgumentException" := hB
  refine vx_catch (own := RL) (name := "java/lang/IllegalArgumentException") hown [] ⟨0, 9, 12, 13⟩ [⟨0, 9, 15, 15⟩] (htb.trans rfl) (fun _ hz => nomatch hz) (by decide) (by decide) (hts (.classLink RL 13 "java/lang/IllegalArgumentException") (by decide +kernel)) (va_Nw.use rfl hXs.2.2.2.1) hce hcv hcl ?_
  have hP := va_Pn (D := (dC, dI)) (cl := vwCl) H1
  have hD := va_Dn A
  have hS := hS1
  refine W.widen (k := 1) (n := 6) (Nat.le_of_ble_eq_true rfl) (Nat.le_of_ble_eq_true rfl) ?_
  refine lv_astore_n (lv' := [(3, .ref q9), (0, .ref x), (1, .int a0), (2, .ref ou)]) hx hb dL_district_12 rfl hl (by decide) rfl (fun ls hl => ?_)
  refine lv_iconst (v := 1) hx hb dL_district_13 (by decide) ?_
  have hP9 := hP.sub (ws' := []) [] rfl
  have hD9 := hD.sub (ws' := []) [] (by decide) rfl
  have hK9 := hK.sub (tys' := []) [] rfl
  refine W.widen (k := 1) (n := 6) (Nat.le_of_ble_eq_true rfl) (Nat.le_of_ble_eq_true rfl) ?_
  exact W.iret (v := 1) hx hb hr (fun t ht hW => ⟨⟨1, (), rfl, rfl, po_mk ht hW hP9 hK9 hD9⟩, hS.F ht⟩) hS.2.2 dL_district_14

set_option maxHeartbeats 4000000 in
set_option maxRecDepth 100000 in
theorem h0_L_threshold (l : Launch) (hfl : l.stackTraces = false) (dC : Nat → ClassId) (dI : Nat → Nat → Nat) (x : Nat) (po : Nat) (tr : Nat) (sp : Nat) (pa : Nat) (bx : Nat) (b0 : Nat) (b1 : Nat) (b4 : Nat) (b6 : Nat) (a0 : Int32) (ou : Nat) (tx : String) (sa : Nat) (sz : Nat) (hbd : a0 < 0 ∨ ¬ a0 ≤ 20) : Met l yL_threshold wsL_threshold ({ frames := 7, cells := 1, slots := 6, locals := 116 }) (va_Pc [.ref x, .int a0, .ref ou] (fun U => pr_ dC dI [(x, .inr (7, [.ref bx, .ref po, .ref tr, .ref pa, .ref sp])), (bx, .inr (2, [.ref b0, .ref b1, .int 0, .int 0, .ref b4, .int 0, .ref b6, .int 0, .int 0, .int 0, .int 0]))] [] sz U ∧ xs_ (va_A [(x, .inr (7, [.ref bx, .ref po, .ref tr, .ref pa, .ref sp])), (bx, .inr (2, [.ref b0, .ref b1, .int 0, .int 0, .ref b4, .int 0, .ref b6, .int 0, .int 0, .int 0, .int 0]))] sz) 128 tx sa "java/lang/IllegalArgumentException" U ∧ True)) (va_Qi (fun (r : Int32) (_ : Unit) => r = 1) (fun (_ : Unit) t => po_ dC dI [] [] (va_A [(x, .inr (7, [.ref bx, .ref po, .ref tr, .ref pa, .ref sp])), (bx, .inr (2, [.ref b0, .ref b1, .int 0, .int 0, .ref b4, .int 0, .ref b6, .int 0, .int 0, .int 0, .int 0]))] sz) t) (va_A [(x, .inr (7, [.ref bx, .ref po, .ref tr, .ref pa, .ref sp])), (bx, .inr (2, [.ref b0, .ref b1, .int 0, .int 0, .ref b4, .int 0, .ref b6, .int 0, .int 0, .int 0, .int 0]))] sz)) 1 6 (va_A [(x, .inr (7, [.ref bx, .ref po, .ref tr, .ref pa, .ref sp])), (bx, .inr (2, [.ref b0, .ref b1, .int 0, .int 0, .ref b4, .int 0, .ref b6, .int 0, .int 0, .int 0, .int 0]))] sz) := by
  refine va_MetW (cc := cL_threshold) (maxL := 4) (ret := (some .int)) (by decide) rfl ?_
  intro p e s m args below meth c s₁ B hml hv
  obtain ⟨rfl, ⟨hsz, hP, hK, hD0⟩, hXs, hNc⟩ := hv
  have hx := B.exec
  have hb := B.bytes
  have hr := B.returns
  have hts := atoms_spec (ws := wsL_threshold) B.pre
  have htb : c.exceptionTable.toList = tableOf [(0, 9, 12, 13)] := vx_table (x := yL_threshold) B (hts _ List.mem_cons_self)
  have hown : s.vm.findClass RL = some m.cls := findClass_of_methodNamed B.named
  have hlocks := B.notSynchronized
  subst hsz
  have hD := hD0.self (sz := s.heap.size)
  generalize hAe : va_A [(x, .inr (7, [.ref bx, .ref po, .ref tr, .ref pa, .ref sp])), (bx, .inr (2, [.ref b0, .ref b1, .int 0, .int 0, .ref b4, .int 0, .ref b6, .int 0, .int 0, .int 0, .int 0]))] s.heap.size = A at hD hXs ⊢
  have hA : ∀ q : Nat, s.heap.size ≤ q → A q := fun q h => by rw [← hAe]; exact Or.inr h
  have hS : va_S A s.heap s.heap [] := va_S.rf
  have hP : va_P (dC, dI) vwCl [(x, .inr (7, [.ref bx, .ref po, .ref tr, .ref pa, .ref sp])), (bx, .inr (2, [.ref b0, .ref b1, .int 0, .int 0, .ref b4, .int 0, .ref b6, .int 0, .int 0, .int 0, .int 0]))] s.heap := hP
  have hK : va_K (dC, dI) vwCl [] s := hK
  have hl := lv_entry ([.ref x, .int a0, .ref ou]) (n := 4) (Nat.le_of_ble_eq_true rfl)
  rw [lg_entry_eq]
  generalize (lg_sl ([.ref x, .int a0, .ref ou]) ++ List.replicate (4 - (lg_sl ([.ref x, .int a0, .ref ou])).length) Slot.unset).toArray = ls at hl ⊢
  have hl : lv_has ls 4 [(0, .ref x), (1, .int a0), (2, .ref ou)] := hl
  refine lv_aload_n hx hb dL_threshold_0 rfl (lv_at hl 2 rfl) ?_
  refine lv_iconst (v := 0) hx hb dL_threshold_1 (by decide) ?_
  refine lv_aload_n hx hb dL_threshold_2 rfl (lv_at hl 0 rfl) ?_
  refine lv_iload_n hx hb dL_threshold_3 rfl (lv_at hl 1 rfl) ?_
  have hPc := hP.sub (ws' := [(x, .inr (7, [.ref bx, .ref po, .ref tr, .ref pa, .ref sp])), (bx, .inr (2, [.ref b0, .ref b1, .int 0, .int 0, .ref b4, .int 0, .ref b6, .int 0, .int 0, .int 0, .int 0]))]) [0, 1] rfl
  have hDc := hD.sub (ws' := [(x, .inr (7, [.ref bx, .ref po, .ref tr, .ref pa, .ref sp])), (bx, .inr (2, [.ref b0, .ref b1, .int 0, .int 0, .ref b4, .int 0, .ref b6, .int 0, .int 0, .int 0, .int 0]))]) [0, 1] (by decide) rfl
  have hKc := hK.sub (tys' := []) [] rfl
  have hFc := va_free (wc := [(x, .inr (7, [.ref bx, .ref po, .ref tr, .ref pa, .ref sp])), (bx, .inr (2, [.ref b0, .ref b1, .int 0, .int 0, .ref b4, .int 0, .ref b6, .int 0, .int 0, .int 0, .int 0]))]) hD hS hA [0, 1] rfl
  refine vx_calli (vx_runV (As := [.int a0]) (rest := [.int 0, .ref ou]) ⟨hx, hb, hml, hown, hts⟩ (cx_X5_threshold l hfl dC dI x po tr sp pa bx b0 b1 b4 b6 a0 tx sa _ hbd) (cwV 1 hts gL_threshold_X5_threshold rfl rfl rfl (by decide +kernel) ⟨Nat.le_of_ble_eq_true rfl, Nat.le_of_ble_eq_true rfl⟩) ⟨px_blind, va_recv hKc hPc (ci := 7) (q0 := 0) rfl rfl, fun U hU hW => ⟨rfl, pr_mk hU hW hPc hKc hDc, xs_mk hU hW hS hFc hXs⟩⟩ rfl rfl hl.1 rfl (lv_room (Nat.le_of_ble_eq_true rfl)) dL_threshold_4 ⟨Nat.le_of_ble_eq_true rfl, Nat.le_of_ble_eq_true rfl⟩) hS (fun q _ h => hFc q h) hFc (fun q _ h => hFc q h) (fun E ce q9 u t H1 locs1 ht hvm hpx hB hz1 hk1 hS1 hce hcv hcl => ?_) (fun r u t H1 locs1 ht hvm hw hB hz1 hk1 hS1 => hw.elim)
  obtain rfl : E = "java/lang/IllegalArgumentException" := hB
  refine vx_catch (own := RL) (name := "java/lang/IllegalArgumentException") hown [] ⟨0, 9, 12, 13⟩ [] (htb.trans rfl) (fun _ hz => nomatch hz) (by decide) (by decide) (hts (.classLink RL 13 "java/lang/IllegalArgumentException") (by decide +kernel)) (va_Nw.use rfl hXs.2.2.2.1) hce hcv hcl ?_
  have hP := va_Pn (D := (dC, dI)) (cl := vwCl) H1
  have hD := va_Dn A
  have hS := hS1
  refine W.widen (k := 1) (n := 6) (Nat.le_of_ble_eq_true rfl) (Nat.le_of_ble_eq_true rfl) ?_
  refine lv_astore_n (lv' := [(3, .ref q9), (0, .ref x), (1, .int a0), (2, .ref ou)]) hx hb dL_threshold_12 rfl hl (by decide) rfl (fun ls hl => ?_)
  refine lv_iconst (v := 1) hx hb dL_threshold_13 (by decide) ?_
  have hP9 := hP.sub (ws' := []) [] rfl
  have hD9 := hD.sub (ws' := []) [] (by decide) rfl
  have hK9 := hK.sub (tys' := []) [] rfl
  refine W.widen (k := 1) (n := 6) (Nat.le_of_ble_eq_true rfl) (Nat.le_of_ble_eq_true rfl) ?_
  exact W.iret (v := 1) hx hb hr (fun t ht hW => ⟨⟨1, (), rfl, rfl, po_mk ht hW hP9 hK9 hD9⟩, hS.F ht⟩) hS.2.2 dL_threshold_14

set_option maxHeartbeats 4000000 in
set_option maxRecDepth 100000 in
theorem h0_L_ofParty (l : Launch) (hfl : l.stackTraces = false) (dC : Nat → ClassId) (dI : Nat → Nat → Nat) (x : Nat) (po : Nat) (tr : Nat) (sp : Nat) (pa : Nat) (bx : Nat) (b0 : Nat) (b1 : Nat) (b4 : Nat) (b6 : Nat) (a0 : Int32) (a1 : Int32) (ou : Nat) (tx : String) (sa : Nat) (sz : Nat) (hbd : a0 < 0 ∨ 4 ≤ a0) : Met l yL_ofParty wsL_ofParty ({ frames := 9, cells := 1, slots := 6, locals := 152 }) (va_Pc [.ref x, .int a0, .int a1, .ref ou] (fun U => pr_ dC dI [(x, .inr (7, [.ref bx, .ref po, .ref tr, .ref pa, .ref sp])), (bx, .inr (2, [.ref b0, .ref b1, .int 0, .int 0, .ref b4, .int 0, .ref b6, .int 0, .int 0, .int 0, .int 0]))] [] sz U ∧ xs_ (va_A [(x, .inr (7, [.ref bx, .ref po, .ref tr, .ref pa, .ref sp])), (bx, .inr (2, [.ref b0, .ref b1, .int 0, .int 0, .ref b4, .int 0, .ref b6, .int 0, .int 0, .int 0, .int 0]))] sz) 50 tx sa "java/lang/IndexOutOfBoundsException" U ∧ True)) (va_Qi (fun (r : Int32) (_ : Unit) => r = 1) (fun (_ : Unit) t => po_ dC dI [] [] (va_A [(x, .inr (7, [.ref bx, .ref po, .ref tr, .ref pa, .ref sp])), (bx, .inr (2, [.ref b0, .ref b1, .int 0, .int 0, .ref b4, .int 0, .ref b6, .int 0, .int 0, .int 0, .int 0]))] sz) t) (va_A [(x, .inr (7, [.ref bx, .ref po, .ref tr, .ref pa, .ref sp])), (bx, .inr (2, [.ref b0, .ref b1, .int 0, .int 0, .ref b4, .int 0, .ref b6, .int 0, .int 0, .int 0, .int 0]))] sz)) 1 6 (va_A [(x, .inr (7, [.ref bx, .ref po, .ref tr, .ref pa, .ref sp])), (bx, .inr (2, [.ref b0, .ref b1, .int 0, .int 0, .ref b4, .int 0, .ref b6, .int 0, .int 0, .int 0, .int 0]))] sz) := by
  refine va_MetW (cc := cL_ofParty) (maxL := 5) (ret := (some .int)) (by decide) rfl ?_
  intro p e s m args below meth c s₁ B hml hv
  obtain ⟨rfl, ⟨hsz, hP, hK, hD0⟩, hXs, hNc⟩ := hv
  have hx := B.exec
  have hb := B.bytes
  have hr := B.returns
  have hts := atoms_spec (ws := wsL_ofParty) B.pre
  have htb : c.exceptionTable.toList = tableOf [(0, 10, 13, 20), (0, 10, 17, 13)] := vx_table (x := yL_ofParty) B (hts _ List.mem_cons_self)
  have hown : s.vm.findClass RL = some m.cls := findClass_of_methodNamed B.named
  have hlocks := B.notSynchronized
  subst hsz
  have hD := hD0.self (sz := s.heap.size)
  generalize hAe : va_A [(x, .inr (7, [.ref bx, .ref po, .ref tr, .ref pa, .ref sp])), (bx, .inr (2, [.ref b0, .ref b1, .int 0, .int 0, .ref b4, .int 0, .ref b6, .int 0, .int 0, .int 0, .int 0]))] s.heap.size = A at hD hXs ⊢
  have hA : ∀ q : Nat, s.heap.size ≤ q → A q := fun q h => by rw [← hAe]; exact Or.inr h
  have hS : va_S A s.heap s.heap [] := va_S.rf
  have hP : va_P (dC, dI) vwCl [(x, .inr (7, [.ref bx, .ref po, .ref tr, .ref pa, .ref sp])), (bx, .inr (2, [.ref b0, .ref b1, .int 0, .int 0, .ref b4, .int 0, .ref b6, .int 0, .int 0, .int 0, .int 0]))] s.heap := hP
  have hK : va_K (dC, dI) vwCl [] s := hK
  have hl := lv_entry ([.ref x, .int a0, .int a1, .ref ou]) (n := 5) (Nat.le_of_ble_eq_true rfl)
  rw [lg_entry_eq]
  generalize (lg_sl ([.ref x, .int a0, .int a1, .ref ou]) ++ List.replicate (5 - (lg_sl ([.ref x, .int a0, .int a1, .ref ou])).length) Slot.unset).toArray = ls at hl ⊢
  have hl : lv_has ls 5 [(0, .ref x), (1, .int a0), (2, .int a1), (3, .ref ou)] := hl
  refine lv_aload_n hx hb dL_ofParty_0 rfl (lv_at hl 3 rfl) ?_
  refine lv_iconst (v := 0) hx hb dL_ofParty_1 (by decide) ?_
  refine lv_aload_n hx hb dL_ofParty_2 rfl (lv_at hl 0 rfl) ?_
  refine lv_iload_n hx hb dL_ofParty_3 rfl (lv_at hl 1 rfl) ?_
  refine lv_iload_n hx hb dL_ofParty_4 rfl (lv_at hl 2 rfl) ?_
  have hPc := hP.sub (ws' := [(x, .inr (7, [.ref bx, .ref po, .ref tr, .ref pa, .ref sp])), (bx, .inr (2, [.ref b0, .ref b1, .int 0, .int 0, .ref b4, .int 0, .ref b6, .int 0, .int 0, .int 0, .int 0]))]) [0, 1] rfl
  have hDc := hD.sub (ws' := [(x, .inr (7, [.ref bx, .ref po, .ref tr, .ref pa, .ref sp])), (bx, .inr (2, [.ref b0, .ref b1, .int 0, .int 0, .ref b4, .int 0, .ref b6, .int 0, .int 0, .int 0, .int 0]))]) [0, 1] (by decide) rfl
  have hKc := hK.sub (tys' := []) [] rfl
  have hFc := va_free (wc := [(x, .inr (7, [.ref bx, .ref po, .ref tr, .ref pa, .ref sp])), (bx, .inr (2, [.ref b0, .ref b1, .int 0, .int 0, .ref b4, .int 0, .ref b6, .int 0, .int 0, .int 0, .int 0]))]) hD hS hA [0, 1] rfl
  refine vx_calli (vx_runV (As := [.int a0, .int a1]) (rest := [.int 0, .ref ou]) ⟨hx, hb, hml, hown, hts⟩ (cx0_X5_ofParty l hfl dC dI x po tr sp pa bx b0 b1 b4 b6 a0 a1 tx sa _ hbd) (cwV 2 hts gL_ofParty_X5_ofParty rfl rfl rfl (by decide +kernel) ⟨Nat.le_of_ble_eq_true rfl, Nat.le_of_ble_eq_true rfl⟩) ⟨px_blind, va_recv hKc hPc (ci := 7) (q0 := 0) rfl rfl, fun U hU hW => ⟨rfl, pr_mk hU hW hPc hKc hDc, xs_mk hU hW hS hFc hXs⟩⟩ rfl rfl hl.1 rfl (lv_room (Nat.le_of_ble_eq_true rfl)) dL_ofParty_5 ⟨Nat.le_of_ble_eq_true rfl, Nat.le_of_ble_eq_true rfl⟩) hS (fun q _ h => hFc q h) hFc (fun q _ h => hFc q h) (fun E ce q9 u t H1 locs1 ht hvm hpx hB hz1 hk1 hS1 hce hcv hcl => ?_) (fun r u t H1 locs1 ht hvm hw hB hz1 hk1 hS1 => hw.elim)
  obtain rfl : E = "java/lang/IndexOutOfBoundsException" := hB
  refine vx_catch (own := RL) (name := "java/lang/IndexOutOfBoundsException") hown [] ⟨0, 10, 13, 20⟩ [⟨0, 10, 17, 13⟩] (htb.trans rfl) (fun _ hz => nomatch hz) (by decide) (by decide) (hts (.classLink RL 20 "java/lang/IndexOutOfBoundsException") (by decide +kernel)) (va_Nw.use rfl hXs.2.2.2.1) hce hcv hcl ?_
  have hP := va_Pn (D := (dC, dI)) (cl := vwCl) H1
  have hD := va_Dn A
  have hS := hS1
  refine W.widen (k := 1) (n := 6) (Nat.le_of_ble_eq_true rfl) (Nat.le_of_ble_eq_true rfl) ?_
  refine lv_astore (lv' := [(4, .ref q9), (0, .ref x), (1, .int a0), (2, .int a1), (3, .ref ou)]) hx hb dL_ofParty_13 hl (by decide) rfl (fun ls hl => ?_)
  refine lv_iconst (v := 1) hx hb dL_ofParty_15 (by decide) ?_
  have hP9 := hP.sub (ws' := []) [] rfl
  have hD9 := hD.sub (ws' := []) [] (by decide) rfl
  have hK9 := hK.sub (tys' := []) [] rfl
  refine W.widen (k := 1) (n := 6) (Nat.le_of_ble_eq_true rfl) (Nat.le_of_ble_eq_true rfl) ?_
  exact W.iret (v := 1) hx hb hr (fun t ht hW => ⟨⟨1, (), rfl, rfl, po_mk ht hW hP9 hK9 hD9⟩, hS.F ht⟩) hS.2.2 dL_ofParty_16

set_option maxHeartbeats 4000000 in
set_option maxRecDepth 100000 in
theorem h1_L_ofParty (l : Launch) (hfl : l.stackTraces = false) (dC : Nat → ClassId) (dI : Nat → Nat → Nat) (x : Nat) (po : Nat) (tr : Nat) (sp : Nat) (pa : Nat) (bx : Nat) (b0 : Nat) (b1 : Nat) (b4 : Nat) (b6 : Nat) (a0 : Int32) (a1 : Int32) (ou : Nat) (tx : String) (sa : Nat) (sz : Nat) (g0a : ¬ a0 < 0) (g0b : ¬ 4 ≤ a0) (hbd : a1 < 0 ∨ ¬ a1 ≤ 4) : Met l yL_ofParty wsL_ofParty ({ frames := 9, cells := 1, slots := 6, locals := 152 }) (va_Pc [.ref x, .int a0, .int a1, .ref ou] (fun U => pr_ dC dI [(x, .inr (7, [.ref bx, .ref po, .ref tr, .ref pa, .ref sp])), (bx, .inr (2, [.ref b0, .ref b1, .int 0, .int 0, .ref b4, .int 0, .ref b6, .int 0, .int 0, .int 0, .int 0]))] [] sz U ∧ xs_ (va_A [(x, .inr (7, [.ref bx, .ref po, .ref tr, .ref pa, .ref sp])), (bx, .inr (2, [.ref b0, .ref b1, .int 0, .int 0, .ref b4, .int 0, .ref b6, .int 0, .int 0, .int 0, .int 0]))] sz) 308 tx sa "java/lang/IllegalArgumentException" U ∧ va_Nc "java/lang/IllegalArgumentException" "java/lang/IndexOutOfBoundsException" U ∧ True)) (va_Qi (fun (r : Int32) (_ : Unit) => r = 2) (fun (_ : Unit) t => po_ dC dI [] [] (va_A [(x, .inr (7, [.ref bx, .ref po, .ref tr, .ref pa, .ref sp])), (bx, .inr (2, [.ref b0, .ref b1, .int 0, .int 0, .ref b4, .int 0, .ref b6, .int 0, .int 0, .int 0, .int 0]))] sz) t) (va_A [(x, .inr (7, [.ref bx, .ref po, .ref tr, .ref pa, .ref sp])), (bx, .inr (2, [.ref b0, .ref b1, .int 0, .int 0, .ref b4, .int 0, .ref b6, .int 0, .int 0, .int 0, .int 0]))] sz)) 1 6 (va_A [(x, .inr (7, [.ref bx, .ref po, .ref tr, .ref pa, .ref sp])), (bx, .inr (2, [.ref b0, .ref b1, .int 0, .int 0, .ref b4, .int 0, .ref b6, .int 0, .int 0, .int 0, .int 0]))] sz) := by
  refine va_MetW (cc := cL_ofParty) (maxL := 5) (ret := (some .int)) (by decide) rfl ?_
  intro p e s m args below meth c s₁ B hml hv
  obtain ⟨rfl, ⟨hsz, hP, hK, hD0⟩, hXs, hNc⟩ := hv
  have hx := B.exec
  have hb := B.bytes
  have hr := B.returns
  have hts := atoms_spec (ws := wsL_ofParty) B.pre
  have htb : c.exceptionTable.toList = tableOf [(0, 10, 13, 20), (0, 10, 17, 13)] := vx_table (x := yL_ofParty) B (hts _ List.mem_cons_self)
  have hown : s.vm.findClass RL = some m.cls := findClass_of_methodNamed B.named
  have hlocks := B.notSynchronized
  subst hsz
  have hD := hD0.self (sz := s.heap.size)
  generalize hAe : va_A [(x, .inr (7, [.ref bx, .ref po, .ref tr, .ref pa, .ref sp])), (bx, .inr (2, [.ref b0, .ref b1, .int 0, .int 0, .ref b4, .int 0, .ref b6, .int 0, .int 0, .int 0, .int 0]))] s.heap.size = A at hD hXs ⊢
  have hA : ∀ q : Nat, s.heap.size ≤ q → A q := fun q h => by rw [← hAe]; exact Or.inr h
  have hS : va_S A s.heap s.heap [] := va_S.rf
  have hP : va_P (dC, dI) vwCl [(x, .inr (7, [.ref bx, .ref po, .ref tr, .ref pa, .ref sp])), (bx, .inr (2, [.ref b0, .ref b1, .int 0, .int 0, .ref b4, .int 0, .ref b6, .int 0, .int 0, .int 0, .int 0]))] s.heap := hP
  have hK : va_K (dC, dI) vwCl [] s := hK
  have hl := lv_entry ([.ref x, .int a0, .int a1, .ref ou]) (n := 5) (Nat.le_of_ble_eq_true rfl)
  rw [lg_entry_eq]
  generalize (lg_sl ([.ref x, .int a0, .int a1, .ref ou]) ++ List.replicate (5 - (lg_sl ([.ref x, .int a0, .int a1, .ref ou])).length) Slot.unset).toArray = ls at hl ⊢
  have hl : lv_has ls 5 [(0, .ref x), (1, .int a0), (2, .int a1), (3, .ref ou)] := hl
  refine lv_aload_n hx hb dL_ofParty_0 rfl (lv_at hl 3 rfl) ?_
  refine lv_iconst (v := 0) hx hb dL_ofParty_1 (by decide) ?_
  refine lv_aload_n hx hb dL_ofParty_2 rfl (lv_at hl 0 rfl) ?_
  refine lv_iload_n hx hb dL_ofParty_3 rfl (lv_at hl 1 rfl) ?_
  refine lv_iload_n hx hb dL_ofParty_4 rfl (lv_at hl 2 rfl) ?_
  have hPc := hP.sub (ws' := [(x, .inr (7, [.ref bx, .ref po, .ref tr, .ref pa, .ref sp])), (bx, .inr (2, [.ref b0, .ref b1, .int 0, .int 0, .ref b4, .int 0, .ref b6, .int 0, .int 0, .int 0, .int 0]))]) [0, 1] rfl
  have hDc := hD.sub (ws' := [(x, .inr (7, [.ref bx, .ref po, .ref tr, .ref pa, .ref sp])), (bx, .inr (2, [.ref b0, .ref b1, .int 0, .int 0, .ref b4, .int 0, .ref b6, .int 0, .int 0, .int 0, .int 0]))]) [0, 1] (by decide) rfl
  have hKc := hK.sub (tys' := []) [] rfl
  have hFc := va_free (wc := [(x, .inr (7, [.ref bx, .ref po, .ref tr, .ref pa, .ref sp])), (bx, .inr (2, [.ref b0, .ref b1, .int 0, .int 0, .ref b4, .int 0, .ref b6, .int 0, .int 0, .int 0, .int 0]))]) hD hS hA [0, 1] rfl
  refine vx_calli (vx_runV (As := [.int a0, .int a1]) (rest := [.int 0, .ref ou]) ⟨hx, hb, hml, hown, hts⟩ (cx1_X5_ofParty l hfl dC dI x po tr sp pa bx b0 b1 b4 b6 a0 a1 tx sa _ g0a g0b hbd) (cwV 2 hts gL_ofParty_X5_ofParty rfl rfl rfl (by decide +kernel) ⟨Nat.le_of_ble_eq_true rfl, Nat.le_of_ble_eq_true rfl⟩) ⟨px_blind, va_recv hKc hPc (ci := 7) (q0 := 0) rfl rfl, fun U hU hW => ⟨rfl, pr_mk hU hW hPc hKc hDc, xs_mk hU hW hS hFc hXs⟩⟩ rfl rfl hl.1 rfl (lv_room (Nat.le_of_ble_eq_true rfl)) dL_ofParty_5 ⟨Nat.le_of_ble_eq_true rfl, Nat.le_of_ble_eq_true rfl⟩) hS (fun q _ h => hFc q h) hFc (fun q _ h => hFc q h) (fun E ce q9 u t H1 locs1 ht hvm hpx hB hz1 hk1 hS1 hce hcv hcl => ?_) (fun r u t H1 locs1 ht hvm hw hB hz1 hk1 hS1 => hw.elim)
  obtain rfl : E = "java/lang/IllegalArgumentException" := hB
  refine vx_catch (own := RL) (name := "java/lang/IllegalArgumentException") hown [⟨0, 10, 13, 20⟩] ⟨0, 10, 17, 13⟩ [] (htb.trans rfl) (by intro z hz; simp only [List.mem_cons, List.not_mem_nil, or_false] at hz; rcases hz with rfl; exact Or.inr ⟨by decide, "java/lang/IndexOutOfBoundsException", hts (.classLink RL 20 "java/lang/IndexOutOfBoundsException") (by decide +kernel), hNc.1⟩) (by decide) (by decide) (hts (.classLink RL 13 "java/lang/IllegalArgumentException") (by decide +kernel)) (va_Nw.use rfl hXs.2.2.2.1) hce hcv hcl ?_
  have hP := va_Pn (D := (dC, dI)) (cl := vwCl) H1
  have hD := va_Dn A
  have hS := hS1
  refine W.widen (k := 1) (n := 6) (Nat.le_of_ble_eq_true rfl) (Nat.le_of_ble_eq_true rfl) ?_
  refine lv_astore (lv' := [(4, .ref q9), (0, .ref x), (1, .int a0), (2, .int a1), (3, .ref ou)]) hx hb dL_ofParty_17 hl (by decide) rfl (fun ls hl => ?_)
  refine lv_iconst (v := 2) hx hb dL_ofParty_19 (by decide) ?_
  have hP9 := hP.sub (ws' := []) [] rfl
  have hD9 := hD.sub (ws' := []) [] (by decide) rfl
  have hK9 := hK.sub (tys' := []) [] rfl
  refine W.widen (k := 1) (n := 6) (Nat.le_of_ble_eq_true rfl) (Nat.le_of_ble_eq_true rfl) ?_
  exact W.iret (v := 2) hx hb hr (fun t ht hW => ⟨⟨2, (), rfl, rfl, po_mk ht hW hP9 hK9 hD9⟩, hS.F ht⟩) hS.2.2 dL_ofParty_20

set_option maxHeartbeats 4000000 in
set_option maxRecDepth 100000 in
theorem h0_L_share (l : Launch) (hfl : l.stackTraces = false) (dC : Nat → ClassId) (dI : Nat → Nat → Nat) (x : Nat) (po : Nat) (tr : Nat) (sp : Nat) (pa : Nat) (bx : Nat) (b0 : Nat) (b1 : Nat) (b4 : Nat) (b6 : Nat) (a0 : Int32) (a1 : Int32) (a2 : Int32) (ou : Nat) (tx : String) (sa : Nat) (sz : Nat) (hbd : a0 < 0 ∨ 4 ≤ a0) : Met l yL_share wsL_share ({ frames := 9, cells := 1, slots := 6, locals := 153 }) (va_Pc [.ref x, .int a0, .int a1, .int a2, .ref ou] (fun U => pr_ dC dI [(x, .inr (7, [.ref bx, .ref po, .ref tr, .ref pa, .ref sp])), (bx, .inr (2, [.ref b0, .ref b1, .int 0, .int 0, .ref b4, .int 0, .ref b6, .int 0, .int 0, .int 0, .int 0]))] [] sz U ∧ xs_ (va_A [(x, .inr (7, [.ref bx, .ref po, .ref tr, .ref pa, .ref sp])), (bx, .inr (2, [.ref b0, .ref b1, .int 0, .int 0, .ref b4, .int 0, .ref b6, .int 0, .int 0, .int 0, .int 0]))] sz) 50 tx sa "java/lang/IndexOutOfBoundsException" U ∧ True)) (va_Qi (fun (r : Int32) (_ : Unit) => r = 1) (fun (_ : Unit) t => po_ dC dI [] [] (va_A [(x, .inr (7, [.ref bx, .ref po, .ref tr, .ref pa, .ref sp])), (bx, .inr (2, [.ref b0, .ref b1, .int 0, .int 0, .ref b4, .int 0, .ref b6, .int 0, .int 0, .int 0, .int 0]))] sz) t) (va_A [(x, .inr (7, [.ref bx, .ref po, .ref tr, .ref pa, .ref sp])), (bx, .inr (2, [.ref b0, .ref b1, .int 0, .int 0, .ref b4, .int 0, .ref b6, .int 0, .int 0, .int 0, .int 0]))] sz)) 1 6 (va_A [(x, .inr (7, [.ref bx, .ref po, .ref tr, .ref pa, .ref sp])), (bx, .inr (2, [.ref b0, .ref b1, .int 0, .int 0, .ref b4, .int 0, .ref b6, .int 0, .int 0, .int 0, .int 0]))] sz) := by
  refine va_MetW (cc := cL_share) (maxL := 6) (ret := (some .int)) (by decide) rfl ?_
  intro p e s m args below meth c s₁ B hml hv
  obtain ⟨rfl, ⟨hsz, hP, hK, hD0⟩, hXs, hNc⟩ := hv
  have hx := B.exec
  have hb := B.bytes
  have hr := B.returns
  have hts := atoms_spec (ws := wsL_share) B.pre
  have htb : c.exceptionTable.toList = tableOf [(0, 12, 15, 20), (0, 12, 19, 13)] := vx_table (x := yL_share) B (hts _ List.mem_cons_self)
  have hown : s.vm.findClass RL = some m.cls := findClass_of_methodNamed B.named
  have hlocks := B.notSynchronized
  subst hsz
  have hD := hD0.self (sz := s.heap.size)
  generalize hAe : va_A [(x, .inr (7, [.ref bx, .ref po, .ref tr, .ref pa, .ref sp])), (bx, .inr (2, [.ref b0, .ref b1, .int 0, .int 0, .ref b4, .int 0, .ref b6, .int 0, .int 0, .int 0, .int 0]))] s.heap.size = A at hD hXs ⊢
  have hA : ∀ q : Nat, s.heap.size ≤ q → A q := fun q h => by rw [← hAe]; exact Or.inr h
  have hS : va_S A s.heap s.heap [] := va_S.rf
  have hP : va_P (dC, dI) vwCl [(x, .inr (7, [.ref bx, .ref po, .ref tr, .ref pa, .ref sp])), (bx, .inr (2, [.ref b0, .ref b1, .int 0, .int 0, .ref b4, .int 0, .ref b6, .int 0, .int 0, .int 0, .int 0]))] s.heap := hP
  have hK : va_K (dC, dI) vwCl [] s := hK
  have hl := lv_entry ([.ref x, .int a0, .int a1, .int a2, .ref ou]) (n := 6) (Nat.le_of_ble_eq_true rfl)
  rw [lg_entry_eq]
  generalize (lg_sl ([.ref x, .int a0, .int a1, .int a2, .ref ou]) ++ List.replicate (6 - (lg_sl ([.ref x, .int a0, .int a1, .int a2, .ref ou])).length) Slot.unset).toArray = ls at hl ⊢
  have hl : lv_has ls 6 [(0, .ref x), (1, .int a0), (2, .int a1), (3, .int a2), (4, .ref ou)] := hl
  refine lv_aload hx hb dL_share_0 (lv_at hl 4 rfl) ?_
  refine lv_iconst (v := 0) hx hb dL_share_2 (by decide) ?_
  refine lv_aload_n hx hb dL_share_3 rfl (lv_at hl 0 rfl) ?_
  refine lv_iload_n hx hb dL_share_4 rfl (lv_at hl 1 rfl) ?_
  refine lv_iload_n hx hb dL_share_5 rfl (lv_at hl 2 rfl) ?_
  refine lv_iload_n hx hb dL_share_6 rfl (lv_at hl 3 rfl) ?_
  have hPc := hP.sub (ws' := [(x, .inr (7, [.ref bx, .ref po, .ref tr, .ref pa, .ref sp])), (bx, .inr (2, [.ref b0, .ref b1, .int 0, .int 0, .ref b4, .int 0, .ref b6, .int 0, .int 0, .int 0, .int 0]))]) [0, 1] rfl
  have hDc := hD.sub (ws' := [(x, .inr (7, [.ref bx, .ref po, .ref tr, .ref pa, .ref sp])), (bx, .inr (2, [.ref b0, .ref b1, .int 0, .int 0, .ref b4, .int 0, .ref b6, .int 0, .int 0, .int 0, .int 0]))]) [0, 1] (by decide) rfl
  have hKc := hK.sub (tys' := []) [] rfl
  have hFc := va_free (wc := [(x, .inr (7, [.ref bx, .ref po, .ref tr, .ref pa, .ref sp])), (bx, .inr (2, [.ref b0, .ref b1, .int 0, .int 0, .ref b4, .int 0, .ref b6, .int 0, .int 0, .int 0, .int 0]))]) hD hS hA [0, 1] rfl
  refine vx_calli (vx_runV (As := [.int a0, .int a1, .int a2]) (rest := [.int 0, .ref ou]) ⟨hx, hb, hml, hown, hts⟩ (cx0_X5_share l hfl dC dI x po tr sp pa bx b0 b1 b4 b6 a0 a1 a2 tx sa _ hbd) (cwV 3 hts gL_share_X5_share rfl rfl rfl (by decide +kernel) ⟨Nat.le_of_ble_eq_true rfl, Nat.le_of_ble_eq_true rfl⟩) ⟨px_blind, va_recv hKc hPc (ci := 7) (q0 := 0) rfl rfl, fun U hU hW => ⟨rfl, pr_mk hU hW hPc hKc hDc, xs_mk hU hW hS hFc hXs⟩⟩ rfl rfl hl.1 rfl (lv_room (Nat.le_of_ble_eq_true rfl)) dL_share_7 ⟨Nat.le_of_ble_eq_true rfl, Nat.le_of_ble_eq_true rfl⟩) hS (fun q _ h => hFc q h) hFc (fun q _ h => hFc q h) (fun E ce q9 u t H1 locs1 ht hvm hpx hB hz1 hk1 hS1 hce hcv hcl => ?_) (fun r u t H1 locs1 ht hvm hw hB hz1 hk1 hS1 => hw.elim)
  obtain rfl : E = "java/lang/IndexOutOfBoundsException" := hB
  refine vx_catch (own := RL) (name := "java/lang/IndexOutOfBoundsException") hown [] ⟨0, 12, 15, 20⟩ [⟨0, 12, 19, 13⟩] (htb.trans rfl) (fun _ hz => nomatch hz) (by decide) (by decide) (hts (.classLink RL 20 "java/lang/IndexOutOfBoundsException") (by decide +kernel)) (va_Nw.use rfl hXs.2.2.2.1) hce hcv hcl ?_
  have hP := va_Pn (D := (dC, dI)) (cl := vwCl) H1
  have hD := va_Dn A
  have hS := hS1
  refine W.widen (k := 1) (n := 6) (Nat.le_of_ble_eq_true rfl) (Nat.le_of_ble_eq_true rfl) ?_
  refine lv_astore (lv' := [(5, .ref q9), (0, .ref x), (1, .int a0), (2, .int a1), (3, .int a2), (4, .ref ou)]) hx hb dL_share_15 hl (by decide) rfl (fun ls hl => ?_)
  refine lv_iconst (v := 1) hx hb dL_share_17 (by decide) ?_
  have hP9 := hP.sub (ws' := []) [] rfl
  have hD9 := hD.sub (ws' := []) [] (by decide) rfl
  have hK9 := hK.sub (tys' := []) [] rfl
  refine W.widen (k := 1) (n := 6) (Nat.le_of_ble_eq_true rfl) (Nat.le_of_ble_eq_true rfl) ?_
  exact W.iret (v := 1) hx hb hr (fun t ht hW => ⟨⟨1, (), rfl, rfl, po_mk ht hW hP9 hK9 hD9⟩, hS.F ht⟩) hS.2.2 dL_share_18

set_option maxHeartbeats 4000000 in
set_option maxRecDepth 100000 in
theorem h1_L_share (l : Launch) (hfl : l.stackTraces = false) (dC : Nat → ClassId) (dI : Nat → Nat → Nat) (x : Nat) (po : Nat) (tr : Nat) (sp : Nat) (pa : Nat) (bx : Nat) (b0 : Nat) (b1 : Nat) (b4 : Nat) (b6 : Nat) (a0 : Int32) (a1 : Int32) (a2 : Int32) (ou : Nat) (tx : String) (sa : Nat) (sz : Nat) (g0a : ¬ a0 < 0) (g0b : ¬ 4 ≤ a0) (hbd : a1 < 1 ∨ ¬ a1 ≤ 60) : Met l yL_share wsL_share ({ frames := 9, cells := 1, slots := 6, locals := 153 }) (va_Pc [.ref x, .int a0, .int a1, .int a2, .ref ou] (fun U => pr_ dC dI [(x, .inr (7, [.ref bx, .ref po, .ref tr, .ref pa, .ref sp])), (bx, .inr (2, [.ref b0, .ref b1, .int 0, .int 0, .ref b4, .int 0, .ref b6, .int 0, .int 0, .int 0, .int 0]))] [] sz U ∧ xs_ (va_A [(x, .inr (7, [.ref bx, .ref po, .ref tr, .ref pa, .ref sp])), (bx, .inr (2, [.ref b0, .ref b1, .int 0, .int 0, .ref b4, .int 0, .ref b6, .int 0, .int 0, .int 0, .int 0]))] sz) 312 tx sa "java/lang/IllegalArgumentException" U ∧ va_Nc "java/lang/IllegalArgumentException" "java/lang/IndexOutOfBoundsException" U ∧ True)) (va_Qi (fun (r : Int32) (_ : Unit) => r = 2) (fun (_ : Unit) t => po_ dC dI [] [] (va_A [(x, .inr (7, [.ref bx, .ref po, .ref tr, .ref pa, .ref sp])), (bx, .inr (2, [.ref b0, .ref b1, .int 0, .int 0, .ref b4, .int 0, .ref b6, .int 0, .int 0, .int 0, .int 0]))] sz) t) (va_A [(x, .inr (7, [.ref bx, .ref po, .ref tr, .ref pa, .ref sp])), (bx, .inr (2, [.ref b0, .ref b1, .int 0, .int 0, .ref b4, .int 0, .ref b6, .int 0, .int 0, .int 0, .int 0]))] sz)) 1 6 (va_A [(x, .inr (7, [.ref bx, .ref po, .ref tr, .ref pa, .ref sp])), (bx, .inr (2, [.ref b0, .ref b1, .int 0, .int 0, .ref b4, .int 0, .ref b6, .int 0, .int 0, .int 0, .int 0]))] sz) := by
  refine va_MetW (cc := cL_share) (maxL := 6) (ret := (some .int)) (by decide) rfl ?_
  intro p e s m args below meth c s₁ B hml hv
  obtain ⟨rfl, ⟨hsz, hP, hK, hD0⟩, hXs, hNc⟩ := hv
  have hx := B.exec
  have hb := B.bytes
  have hr := B.returns
  have hts := atoms_spec (ws := wsL_share) B.pre
  have htb : c.exceptionTable.toList = tableOf [(0, 12, 15, 20), (0, 12, 19, 13)] := vx_table (x := yL_share) B (hts _ List.mem_cons_self)
  have hown : s.vm.findClass RL = some m.cls := findClass_of_methodNamed B.named
  have hlocks := B.notSynchronized
  subst hsz
  have hD := hD0.self (sz := s.heap.size)
  generalize hAe : va_A [(x, .inr (7, [.ref bx, .ref po, .ref tr, .ref pa, .ref sp])), (bx, .inr (2, [.ref b0, .ref b1, .int 0, .int 0, .ref b4, .int 0, .ref b6, .int 0, .int 0, .int 0, .int 0]))] s.heap.size = A at hD hXs ⊢
  have hA : ∀ q : Nat, s.heap.size ≤ q → A q := fun q h => by rw [← hAe]; exact Or.inr h
  have hS : va_S A s.heap s.heap [] := va_S.rf
  have hP : va_P (dC, dI) vwCl [(x, .inr (7, [.ref bx, .ref po, .ref tr, .ref pa, .ref sp])), (bx, .inr (2, [.ref b0, .ref b1, .int 0, .int 0, .ref b4, .int 0, .ref b6, .int 0, .int 0, .int 0, .int 0]))] s.heap := hP
  have hK : va_K (dC, dI) vwCl [] s := hK
  have hl := lv_entry ([.ref x, .int a0, .int a1, .int a2, .ref ou]) (n := 6) (Nat.le_of_ble_eq_true rfl)
  rw [lg_entry_eq]
  generalize (lg_sl ([.ref x, .int a0, .int a1, .int a2, .ref ou]) ++ List.replicate (6 - (lg_sl ([.ref x, .int a0, .int a1, .int a2, .ref ou])).length) Slot.unset).toArray = ls at hl ⊢
  have hl : lv_has ls 6 [(0, .ref x), (1, .int a0), (2, .int a1), (3, .int a2), (4, .ref ou)] := hl
  refine lv_aload hx hb dL_share_0 (lv_at hl 4 rfl) ?_
  refine lv_iconst (v := 0) hx hb dL_share_2 (by decide) ?_
  refine lv_aload_n hx hb dL_share_3 rfl (lv_at hl 0 rfl) ?_
  refine lv_iload_n hx hb dL_share_4 rfl (lv_at hl 1 rfl) ?_
  refine lv_iload_n hx hb dL_share_5 rfl (lv_at hl 2 rfl) ?_
  refine lv_iload_n hx hb dL_share_6 rfl (lv_at hl 3 rfl) ?_
  have hPc := hP.sub (ws' := [(x, .inr (7, [.ref bx, .ref po, .ref tr, .ref pa, .ref sp])), (bx, .inr (2, [.ref b0, .ref b1, .int 0, .int 0, .ref b4, .int 0, .ref b6, .int 0, .int 0, .int 0, .int 0]))]) [0, 1] rfl
  have hDc := hD.sub (ws' := [(x, .inr (7, [.ref bx, .ref po, .ref tr, .ref pa, .ref sp])), (bx, .inr (2, [.ref b0, .ref b1, .int 0, .int 0, .ref b4, .int 0, .ref b6, .int 0, .int 0, .int 0, .int 0]))]) [0, 1] (by decide) rfl
  have hKc := hK.sub (tys' := []) [] rfl
  have hFc := va_free (wc := [(x, .inr (7, [.ref bx, .ref po, .ref tr, .ref pa, .ref sp])), (bx, .inr (2, [.ref b0, .ref b1, .int 0, .int 0, .ref b4, .int 0, .ref b6, .int 0, .int 0, .int 0, .int 0]))]) hD hS hA [0, 1] rfl
  refine vx_calli (vx_runV (As := [.int a0, .int a1, .int a2]) (rest := [.int 0, .ref ou]) ⟨hx, hb, hml, hown, hts⟩ (cx1_X5_share l hfl dC dI x po tr sp pa bx b0 b1 b4 b6 a0 a1 a2 tx sa _ g0a g0b hbd) (cwV 3 hts gL_share_X5_share rfl rfl rfl (by decide +kernel) ⟨Nat.le_of_ble_eq_true rfl, Nat.le_of_ble_eq_true rfl⟩) ⟨px_blind, va_recv hKc hPc (ci := 7) (q0 := 0) rfl rfl, fun U hU hW => ⟨rfl, pr_mk hU hW hPc hKc hDc, xs_mk hU hW hS hFc hXs⟩⟩ rfl rfl hl.1 rfl (lv_room (Nat.le_of_ble_eq_true rfl)) dL_share_7 ⟨Nat.le_of_ble_eq_true rfl, Nat.le_of_ble_eq_true rfl⟩) hS (fun q _ h => hFc q h) hFc (fun q _ h => hFc q h) (fun E ce q9 u t H1 locs1 ht hvm hpx hB hz1 hk1 hS1 hce hcv hcl => ?_) (fun r u t H1 locs1 ht hvm hw hB hz1 hk1 hS1 => hw.elim)
  obtain rfl : E = "java/lang/IllegalArgumentException" := hB
  refine vx_catch (own := RL) (name := "java/lang/IllegalArgumentException") hown [⟨0, 12, 15, 20⟩] ⟨0, 12, 19, 13⟩ [] (htb.trans rfl) (by intro z hz; simp only [List.mem_cons, List.not_mem_nil, or_false] at hz; rcases hz with rfl; exact Or.inr ⟨by decide, "java/lang/IndexOutOfBoundsException", hts (.classLink RL 20 "java/lang/IndexOutOfBoundsException") (by decide +kernel), hNc.1⟩) (by decide) (by decide) (hts (.classLink RL 13 "java/lang/IllegalArgumentException") (by decide +kernel)) (va_Nw.use rfl hXs.2.2.2.1) hce hcv hcl ?_
  have hP := va_Pn (D := (dC, dI)) (cl := vwCl) H1
  have hD := va_Dn A
  have hS := hS1
  refine W.widen (k := 1) (n := 6) (Nat.le_of_ble_eq_true rfl) (Nat.le_of_ble_eq_true rfl) ?_
  refine lv_astore (lv' := [(5, .ref q9), (0, .ref x), (1, .int a0), (2, .int a1), (3, .int a2), (4, .ref ou)]) hx hb dL_share_19 hl (by decide) rfl (fun ls hl => ?_)
  refine lv_iconst (v := 2) hx hb dL_share_21 (by decide) ?_
  have hP9 := hP.sub (ws' := []) [] rfl
  have hD9 := hD.sub (ws' := []) [] (by decide) rfl
  have hK9 := hK.sub (tys' := []) [] rfl
  refine W.widen (k := 1) (n := 6) (Nat.le_of_ble_eq_true rfl) (Nat.le_of_ble_eq_true rfl) ?_
  exact W.iret (v := 2) hx hb hr (fun t ht hW => ⟨⟨2, (), rfl, rfl, po_mk ht hW hP9 hK9 hD9⟩, hS.F ht⟩) hS.2.2 dL_share_22

set_option maxHeartbeats 4000000 in
set_option maxRecDepth 100000 in
theorem h2_L_share (l : Launch) (hfl : l.stackTraces = false) (dC : Nat → ClassId) (dI : Nat → Nat → Nat) (x : Nat) (po : Nat) (tr : Nat) (sp : Nat) (pa : Nat) (bx : Nat) (b0 : Nat) (b1 : Nat) (b4 : Nat) (b6 : Nat) (a0 : Int32) (a1 : Int32) (a2 : Int32) (ou : Nat) (tx : String) (sa : Nat) (sz : Nat) (g0a : ¬ a0 < 0) (g0b : ¬ 4 ≤ a0) (g1a : ¬ a1 < 1) (g1b : a1 ≤ 60) (hbd : a2 < 0 ∨ ¬ a2 ≤ 2) : Met l yL_share wsL_share ({ frames := 9, cells := 1, slots := 6, locals := 153 }) (va_Pc [.ref x, .int a0, .int a1, .int a2, .ref ou] (fun U => pr_ dC dI [(x, .inr (7, [.ref bx, .ref po, .ref tr, .ref pa, .ref sp])), (bx, .inr (2, [.ref b0, .ref b1, .int 0, .int 0, .ref b4, .int 0, .ref b6, .int 0, .int 0, .int 0, .int 0]))] [] sz U ∧ xs_ (va_A [(x, .inr (7, [.ref bx, .ref po, .ref tr, .ref pa, .ref sp])), (bx, .inr (2, [.ref b0, .ref b1, .int 0, .int 0, .ref b4, .int 0, .ref b6, .int 0, .int 0, .int 0, .int 0]))] sz) 314 tx sa "java/lang/IllegalArgumentException" U ∧ va_Nc "java/lang/IllegalArgumentException" "java/lang/IndexOutOfBoundsException" U ∧ True)) (va_Qi (fun (r : Int32) (_ : Unit) => r = 2) (fun (_ : Unit) t => po_ dC dI [] [] (va_A [(x, .inr (7, [.ref bx, .ref po, .ref tr, .ref pa, .ref sp])), (bx, .inr (2, [.ref b0, .ref b1, .int 0, .int 0, .ref b4, .int 0, .ref b6, .int 0, .int 0, .int 0, .int 0]))] sz) t) (va_A [(x, .inr (7, [.ref bx, .ref po, .ref tr, .ref pa, .ref sp])), (bx, .inr (2, [.ref b0, .ref b1, .int 0, .int 0, .ref b4, .int 0, .ref b6, .int 0, .int 0, .int 0, .int 0]))] sz)) 1 6 (va_A [(x, .inr (7, [.ref bx, .ref po, .ref tr, .ref pa, .ref sp])), (bx, .inr (2, [.ref b0, .ref b1, .int 0, .int 0, .ref b4, .int 0, .ref b6, .int 0, .int 0, .int 0, .int 0]))] sz) := by
  refine va_MetW (cc := cL_share) (maxL := 6) (ret := (some .int)) (by decide) rfl ?_
  intro p e s m args below meth c s₁ B hml hv
  obtain ⟨rfl, ⟨hsz, hP, hK, hD0⟩, hXs, hNc⟩ := hv
  have hx := B.exec
  have hb := B.bytes
  have hr := B.returns
  have hts := atoms_spec (ws := wsL_share) B.pre
  have htb : c.exceptionTable.toList = tableOf [(0, 12, 15, 20), (0, 12, 19, 13)] := vx_table (x := yL_share) B (hts _ List.mem_cons_self)
  have hown : s.vm.findClass RL = some m.cls := findClass_of_methodNamed B.named
  have hlocks := B.notSynchronized
  subst hsz
  have hD := hD0.self (sz := s.heap.size)
  generalize hAe : va_A [(x, .inr (7, [.ref bx, .ref po, .ref tr, .ref pa, .ref sp])), (bx, .inr (2, [.ref b0, .ref b1, .int 0, .int 0, .ref b4, .int 0, .ref b6, .int 0, .int 0, .int 0, .int 0]))] s.heap.size = A at hD hXs ⊢
  have hA : ∀ q : Nat, s.heap.size ≤ q → A q := fun q h => by rw [← hAe]; exact Or.inr h
  have hS : va_S A s.heap s.heap [] := va_S.rf
  have hP : va_P (dC, dI) vwCl [(x, .inr (7, [.ref bx, .ref po, .ref tr, .ref pa, .ref sp])), (bx, .inr (2, [.ref b0, .ref b1, .int 0, .int 0, .ref b4, .int 0, .ref b6, .int 0, .int 0, .int 0, .int 0]))] s.heap := hP
  have hK : va_K (dC, dI) vwCl [] s := hK
  have hl := lv_entry ([.ref x, .int a0, .int a1, .int a2, .ref ou]) (n := 6) (Nat.le_of_ble_eq_true rfl)
  rw [lg_entry_eq]
  generalize (lg_sl ([.ref x, .int a0, .int a1, .int a2, .ref ou]) ++ List.replicate (6 - (lg_sl ([.ref x, .int a0, .int a1, .int a2, .ref ou])).length) Slot.unset).toArray = ls at hl ⊢
  have hl : lv_has ls 6 [(0, .ref x), (1, .int a0), (2, .int a1), (3, .int a2), (4, .ref ou)] := hl
  refine lv_aload hx hb dL_share_0 (lv_at hl 4 rfl) ?_
  refine lv_iconst (v := 0) hx hb dL_share_2 (by decide) ?_
  refine lv_aload_n hx hb dL_share_3 rfl (lv_at hl 0 rfl) ?_
  refine lv_iload_n hx hb dL_share_4 rfl (lv_at hl 1 rfl) ?_
  refine lv_iload_n hx hb dL_share_5 rfl (lv_at hl 2 rfl) ?_
  refine lv_iload_n hx hb dL_share_6 rfl (lv_at hl 3 rfl) ?_
  have hPc := hP.sub (ws' := [(x, .inr (7, [.ref bx, .ref po, .ref tr, .ref pa, .ref sp])), (bx, .inr (2, [.ref b0, .ref b1, .int 0, .int 0, .ref b4, .int 0, .ref b6, .int 0, .int 0, .int 0, .int 0]))]) [0, 1] rfl
  have hDc := hD.sub (ws' := [(x, .inr (7, [.ref bx, .ref po, .ref tr, .ref pa, .ref sp])), (bx, .inr (2, [.ref b0, .ref b1, .int 0, .int 0, .ref b4, .int 0, .ref b6, .int 0, .int 0, .int 0, .int 0]))]) [0, 1] (by decide) rfl
  have hKc := hK.sub (tys' := []) [] rfl
  have hFc := va_free (wc := [(x, .inr (7, [.ref bx, .ref po, .ref tr, .ref pa, .ref sp])), (bx, .inr (2, [.ref b0, .ref b1, .int 0, .int 0, .ref b4, .int 0, .ref b6, .int 0, .int 0, .int 0, .int 0]))]) hD hS hA [0, 1] rfl
  refine vx_calli (vx_runV (As := [.int a0, .int a1, .int a2]) (rest := [.int 0, .ref ou]) ⟨hx, hb, hml, hown, hts⟩ (cx2_X5_share l hfl dC dI x po tr sp pa bx b0 b1 b4 b6 a0 a1 a2 tx sa _ g0a g0b g1a g1b hbd) (cwV 3 hts gL_share_X5_share rfl rfl rfl (by decide +kernel) ⟨Nat.le_of_ble_eq_true rfl, Nat.le_of_ble_eq_true rfl⟩) ⟨px_blind, va_recv hKc hPc (ci := 7) (q0 := 0) rfl rfl, fun U hU hW => ⟨rfl, pr_mk hU hW hPc hKc hDc, xs_mk hU hW hS hFc hXs⟩⟩ rfl rfl hl.1 rfl (lv_room (Nat.le_of_ble_eq_true rfl)) dL_share_7 ⟨Nat.le_of_ble_eq_true rfl, Nat.le_of_ble_eq_true rfl⟩) hS (fun q _ h => hFc q h) hFc (fun q _ h => hFc q h) (fun E ce q9 u t H1 locs1 ht hvm hpx hB hz1 hk1 hS1 hce hcv hcl => ?_) (fun r u t H1 locs1 ht hvm hw hB hz1 hk1 hS1 => hw.elim)
  obtain rfl : E = "java/lang/IllegalArgumentException" := hB
  refine vx_catch (own := RL) (name := "java/lang/IllegalArgumentException") hown [⟨0, 12, 15, 20⟩] ⟨0, 12, 19, 13⟩ [] (htb.trans rfl) (by intro z hz; simp only [List.mem_cons, List.not_mem_nil, or_false] at hz; rcases hz with rfl; exact Or.inr ⟨by decide, "java/lang/IndexOutOfBoundsException", hts (.classLink RL 20 "java/lang/IndexOutOfBoundsException") (by decide +kernel), hNc.1⟩) (by decide) (by decide) (hts (.classLink RL 13 "java/lang/IllegalArgumentException") (by decide +kernel)) (va_Nw.use rfl hXs.2.2.2.1) hce hcv hcl ?_
  have hP := va_Pn (D := (dC, dI)) (cl := vwCl) H1
  have hD := va_Dn A
  have hS := hS1
  refine W.widen (k := 1) (n := 6) (Nat.le_of_ble_eq_true rfl) (Nat.le_of_ble_eq_true rfl) ?_
  refine lv_astore (lv' := [(5, .ref q9), (0, .ref x), (1, .int a0), (2, .int a1), (3, .int a2), (4, .ref ou)]) hx hb dL_share_19 hl (by decide) rfl (fun ls hl => ?_)
  refine lv_iconst (v := 2) hx hb dL_share_21 (by decide) ?_
  have hP9 := hP.sub (ws' := []) [] rfl
  have hD9 := hD.sub (ws' := []) [] (by decide) rfl
  have hK9 := hK.sub (tys' := []) [] rfl
  refine W.widen (k := 1) (n := 6) (Nat.le_of_ble_eq_true rfl) (Nat.le_of_ble_eq_true rfl) ?_
  exact W.iret (v := 2) hx hb hr (fun t ht hW => ⟨⟨2, (), rfl, rfl, po_mk ht hW hP9 hK9 hD9⟩, hS.F ht⟩) hS.2.2 dL_share_22

set_option maxHeartbeats 4000000 in
set_option maxRecDepth 100000 in
theorem h0_L_overhang (l : Launch) (hfl : l.stackTraces = false) (dC : Nat → ClassId) (dI : Nat → Nat → Nat) (x : Nat) (po : Nat) (tr : Nat) (sp : Nat) (pa : Nat) (bx : Nat) (b0 : Nat) (b1 : Nat) (b4 : Nat) (b6 : Nat) (a0 : Int32) (a1 : Int32) (ou : Nat) (tx : String) (sa : Nat) (sz : Nat) (hbd : a0 < 1 ∨ ¬ a0 ≤ 60) : Met l yL_overhang wsL_overhang ({ frames := 9, cells := 1, slots := 6, locals := 152 }) (va_Pc [.ref x, .int a0, .int a1, .ref ou] (fun U => pr_ dC dI [(x, .inr (7, [.ref bx, .ref po, .ref tr, .ref pa, .ref sp])), (bx, .inr (2, [.ref b0, .ref b1, .int 0, .int 0, .ref b4, .int 0, .ref b6, .int 0, .int 0, .int 0, .int 0]))] [] sz U ∧ xs_ (va_A [(x, .inr (7, [.ref bx, .ref po, .ref tr, .ref pa, .ref sp])), (bx, .inr (2, [.ref b0, .ref b1, .int 0, .int 0, .ref b4, .int 0, .ref b6, .int 0, .int 0, .int 0, .int 0]))] sz) 312 tx sa "java/lang/IllegalArgumentException" U ∧ True)) (va_Qi (fun (r : Int32) (_ : Unit) => r = 1) (fun (_ : Unit) t => po_ dC dI [] [] (va_A [(x, .inr (7, [.ref bx, .ref po, .ref tr, .ref pa, .ref sp])), (bx, .inr (2, [.ref b0, .ref b1, .int 0, .int 0, .ref b4, .int 0, .ref b6, .int 0, .int 0, .int 0, .int 0]))] sz) t) (va_A [(x, .inr (7, [.ref bx, .ref po, .ref tr, .ref pa, .ref sp])), (bx, .inr (2, [.ref b0, .ref b1, .int 0, .int 0, .ref b4, .int 0, .ref b6, .int 0, .int 0, .int 0, .int 0]))] sz)) 1 6 (va_A [(x, .inr (7, [.ref bx, .ref po, .ref tr, .ref pa, .ref sp])), (bx, .inr (2, [.ref b0, .ref b1, .int 0, .int 0, .ref b4, .int 0, .ref b6, .int 0, .int 0, .int 0, .int 0]))] sz) := by
  refine va_MetW (cc := cL_overhang) (maxL := 5) (ret := (some .int)) (by decide) rfl ?_
  intro p e s m args below meth c s₁ B hml hv
  obtain ⟨rfl, ⟨hsz, hP, hK, hD0⟩, hXs, hNc⟩ := hv
  have hx := B.exec
  have hb := B.bytes
  have hr := B.returns
  have hts := atoms_spec (ws := wsL_overhang) B.pre
  have htb : c.exceptionTable.toList = tableOf [(0, 10, 13, 13)] := vx_table (x := yL_overhang) B (hts _ List.mem_cons_self)
  have hown : s.vm.findClass RL = some m.cls := findClass_of_methodNamed B.named
  have hlocks := B.notSynchronized
  subst hsz
  have hD := hD0.self (sz := s.heap.size)
  generalize hAe : va_A [(x, .inr (7, [.ref bx, .ref po, .ref tr, .ref pa, .ref sp])), (bx, .inr (2, [.ref b0, .ref b1, .int 0, .int 0, .ref b4, .int 0, .ref b6, .int 0, .int 0, .int 0, .int 0]))] s.heap.size = A at hD hXs ⊢
  have hA : ∀ q : Nat, s.heap.size ≤ q → A q := fun q h => by rw [← hAe]; exact Or.inr h
  have hS : va_S A s.heap s.heap [] := va_S.rf
  have hP : va_P (dC, dI) vwCl [(x, .inr (7, [.ref bx, .ref po, .ref tr, .ref pa, .ref sp])), (bx, .inr (2, [.ref b0, .ref b1, .int 0, .int 0, .ref b4, .int 0, .ref b6, .int 0, .int 0, .int 0, .int 0]))] s.heap := hP
  have hK : va_K (dC, dI) vwCl [] s := hK
  have hl := lv_entry ([.ref x, .int a0, .int a1, .ref ou]) (n := 5) (Nat.le_of_ble_eq_true rfl)
  rw [lg_entry_eq]
  generalize (lg_sl ([.ref x, .int a0, .int a1, .ref ou]) ++ List.replicate (5 - (lg_sl ([.ref x, .int a0, .int a1, .ref ou])).length) Slot.unset).toArray = ls at hl ⊢
  have hl : lv_has ls 5 [(0, .ref x), (1, .int a0), (2, .int a1), (3, .ref ou)] := hl
  refine lv_aload_n hx hb dL_overhang_0 rfl (lv_at hl 3 rfl) ?_
  refine lv_iconst (v := 0) hx hb dL_overhang_1 (by decide) ?_
  refine lv_aload_n hx hb dL_overhang_2 rfl (lv_at hl 0 rfl) ?_
  refine lv_iload_n hx hb dL_overhang_3 rfl (lv_at hl 1 rfl) ?_
  refine lv_iload_n hx hb dL_overhang_4 rfl (lv_at hl 2 rfl) ?_
  have hPc := hP.sub (ws' := [(x, .inr (7, [.ref bx, .ref po, .ref tr, .ref pa, .ref sp])), (bx, .inr (2, [.ref b0, .ref b1, .int 0, .int 0, .ref b4, .int 0, .ref b6, .int 0, .int 0, .int 0, .int 0]))]) [0, 1] rfl
  have hDc := hD.sub (ws' := [(x, .inr (7, [.ref bx, .ref po, .ref tr, .ref pa, .ref sp])), (bx, .inr (2, [.ref b0, .ref b1, .int 0, .int 0, .ref b4, .int 0, .ref b6, .int 0, .int 0, .int 0, .int 0]))]) [0, 1] (by decide) rfl
  have hKc := hK.sub (tys' := []) [] rfl
  have hFc := va_free (wc := [(x, .inr (7, [.ref bx, .ref po, .ref tr, .ref pa, .ref sp])), (bx, .inr (2, [.ref b0, .ref b1, .int 0, .int 0, .ref b4, .int 0, .ref b6, .int 0, .int 0, .int 0, .int 0]))]) hD hS hA [0, 1] rfl
  refine vx_calli (vx_runV (As := [.int a0, .int a1]) (rest := [.int 0, .ref ou]) ⟨hx, hb, hml, hown, hts⟩ (cx0_X5_overhang l hfl dC dI x po tr sp pa bx b0 b1 b4 b6 a0 a1 tx sa _ hbd) (cwV 2 hts gL_overhang_X5_overhang rfl rfl rfl (by decide +kernel) ⟨Nat.le_of_ble_eq_true rfl, Nat.le_of_ble_eq_true rfl⟩) ⟨px_blind, va_recv hKc hPc (ci := 7) (q0 := 0) rfl rfl, fun U hU hW => ⟨rfl, pr_mk hU hW hPc hKc hDc, xs_mk hU hW hS hFc hXs⟩⟩ rfl rfl hl.1 rfl (lv_room (Nat.le_of_ble_eq_true rfl)) dL_overhang_5 ⟨Nat.le_of_ble_eq_true rfl, Nat.le_of_ble_eq_true rfl⟩) hS (fun q _ h => hFc q h) hFc (fun q _ h => hFc q h) (fun E ce q9 u t H1 locs1 ht hvm hpx hB hz1 hk1 hS1 hce hcv hcl => ?_) (fun r u t H1 locs1 ht hvm hw hB hz1 hk1 hS1 => hw.elim)
  obtain rfl : E = "java/lang/IllegalArgumentException" := hB
  refine vx_catch (own := RL) (name := "java/lang/IllegalArgumentException") hown [] ⟨0, 10, 13, 13⟩ [] (htb.trans rfl) (fun _ hz => nomatch hz) (by decide) (by decide) (hts (.classLink RL 13 "java/lang/IllegalArgumentException") (by decide +kernel)) (va_Nw.use rfl hXs.2.2.2.1) hce hcv hcl ?_
  have hP := va_Pn (D := (dC, dI)) (cl := vwCl) H1
  have hD := va_Dn A
  have hS := hS1
  refine W.widen (k := 1) (n := 6) (Nat.le_of_ble_eq_true rfl) (Nat.le_of_ble_eq_true rfl) ?_
  refine lv_astore (lv' := [(4, .ref q9), (0, .ref x), (1, .int a0), (2, .int a1), (3, .ref ou)]) hx hb dL_overhang_13 hl (by decide) rfl (fun ls hl => ?_)
  refine lv_iconst (v := 1) hx hb dL_overhang_15 (by decide) ?_
  have hP9 := hP.sub (ws' := []) [] rfl
  have hD9 := hD.sub (ws' := []) [] (by decide) rfl
  have hK9 := hK.sub (tys' := []) [] rfl
  refine W.widen (k := 1) (n := 6) (Nat.le_of_ble_eq_true rfl) (Nat.le_of_ble_eq_true rfl) ?_
  exact W.iret (v := 1) hx hb hr (fun t ht hW => ⟨⟨1, (), rfl, rfl, po_mk ht hW hP9 hK9 hD9⟩, hS.F ht⟩) hS.2.2 dL_overhang_16

set_option maxHeartbeats 4000000 in
set_option maxRecDepth 100000 in
theorem h1_L_overhang (l : Launch) (hfl : l.stackTraces = false) (dC : Nat → ClassId) (dI : Nat → Nat → Nat) (x : Nat) (po : Nat) (tr : Nat) (sp : Nat) (pa : Nat) (bx : Nat) (b0 : Nat) (b1 : Nat) (b4 : Nat) (b6 : Nat) (a0 : Int32) (a1 : Int32) (ou : Nat) (tx : String) (sa : Nat) (sz : Nat) (g0a : ¬ a0 < 1) (g0b : a0 ≤ 60) (hbd : a1 < 0 ∨ ¬ a1 ≤ 2) : Met l yL_overhang wsL_overhang ({ frames := 9, cells := 1, slots := 6, locals := 152 }) (va_Pc [.ref x, .int a0, .int a1, .ref ou] (fun U => pr_ dC dI [(x, .inr (7, [.ref bx, .ref po, .ref tr, .ref pa, .ref sp])), (bx, .inr (2, [.ref b0, .ref b1, .int 0, .int 0, .ref b4, .int 0, .ref b6, .int 0, .int 0, .int 0, .int 0]))] [] sz U ∧ xs_ (va_A [(x, .inr (7, [.ref bx, .ref po, .ref tr, .ref pa, .ref sp])), (bx, .inr (2, [.ref b0, .ref b1, .int 0, .int 0, .ref b4, .int 0, .ref b6, .int 0, .int 0, .int 0, .int 0]))] sz) 314 tx sa "java/lang/IllegalArgumentException" U ∧ True)) (va_Qi (fun (r : Int32) (_ : Unit) => r = 1) (fun (_ : Unit) t => po_ dC dI [] [] (va_A [(x, .inr (7, [.ref bx, .ref po, .ref tr, .ref pa, .ref sp])), (bx, .inr (2, [.ref b0, .ref b1, .int 0, .int 0, .ref b4, .int 0, .ref b6, .int 0, .int 0, .int 0, .int 0]))] sz) t) (va_A [(x, .inr (7, [.ref bx, .ref po, .ref tr, .ref pa, .ref sp])), (bx, .inr (2, [.ref b0, .ref b1, .int 0, .int 0, .ref b4, .int 0, .ref b6, .int 0, .int 0, .int 0, .int 0]))] sz)) 1 6 (va_A [(x, .inr (7, [.ref bx, .ref po, .ref tr, .ref pa, .ref sp])), (bx, .inr (2, [.ref b0, .ref b1, .int 0, .int 0, .ref b4, .int 0, .ref b6, .int 0, .int 0, .int 0, .int 0]))] sz) := by
  refine va_MetW (cc := cL_overhang) (maxL := 5) (ret := (some .int)) (by decide) rfl ?_
  intro p e s m args below meth c s₁ B hml hv
  obtain ⟨rfl, ⟨hsz, hP, hK, hD0⟩, hXs, hNc⟩ := hv
  have hx := B.exec
  have hb := B.bytes
  have hr := B.returns
  have hts := atoms_spec (ws := wsL_overhang) B.pre
  have htb : c.exceptionTable.toList = tableOf [(0, 10, 13, 13)] := vx_table (x := yL_overhang) B (hts _ List.mem_cons_self)
  have hown : s.vm.findClass RL = some m.cls := findClass_of_methodNamed B.named
  have hlocks := B.notSynchronized
  subst hsz
  have hD := hD0.self (sz := s.heap.size)
  generalize hAe : va_A [(x, .inr (7, [.ref bx, .ref po, .ref tr, .ref pa, .ref sp])), (bx, .inr (2, [.ref b0, .ref b1, .int 0, .int 0, .ref b4, .int 0, .ref b6, .int 0, .int 0, .int 0, .int 0]))] s.heap.size = A at hD hXs ⊢
  have hA : ∀ q : Nat, s.heap.size ≤ q → A q := fun q h => by rw [← hAe]; exact Or.inr h
  have hS : va_S A s.heap s.heap [] := va_S.rf
  have hP : va_P (dC, dI) vwCl [(x, .inr (7, [.ref bx, .ref po, .ref tr, .ref pa, .ref sp])), (bx, .inr (2, [.ref b0, .ref b1, .int 0, .int 0, .ref b4, .int 0, .ref b6, .int 0, .int 0, .int 0, .int 0]))] s.heap := hP
  have hK : va_K (dC, dI) vwCl [] s := hK
  have hl := lv_entry ([.ref x, .int a0, .int a1, .ref ou]) (n := 5) (Nat.le_of_ble_eq_true rfl)
  rw [lg_entry_eq]
  generalize (lg_sl ([.ref x, .int a0, .int a1, .ref ou]) ++ List.replicate (5 - (lg_sl ([.ref x, .int a0, .int a1, .ref ou])).length) Slot.unset).toArray = ls at hl ⊢
  have hl : lv_has ls 5 [(0, .ref x), (1, .int a0), (2, .int a1), (3, .ref ou)] := hl
  refine lv_aload_n hx hb dL_overhang_0 rfl (lv_at hl 3 rfl) ?_
  refine lv_iconst (v := 0) hx hb dL_overhang_1 (by decide) ?_
  refine lv_aload_n hx hb dL_overhang_2 rfl (lv_at hl 0 rfl) ?_
  refine lv_iload_n hx hb dL_overhang_3 rfl (lv_at hl 1 rfl) ?_
  refine lv_iload_n hx hb dL_overhang_4 rfl (lv_at hl 2 rfl) ?_
  have hPc := hP.sub (ws' := [(x, .inr (7, [.ref bx, .ref po, .ref tr, .ref pa, .ref sp])), (bx, .inr (2, [.ref b0, .ref b1, .int 0, .int 0, .ref b4, .int 0, .ref b6, .int 0, .int 0, .int 0, .int 0]))]) [0, 1] rfl
  have hDc := hD.sub (ws' := [(x, .inr (7, [.ref bx, .ref po, .ref tr, .ref pa, .ref sp])), (bx, .inr (2, [.ref b0, .ref b1, .int 0, .int 0, .ref b4, .int 0, .ref b6, .int 0, .int 0, .int 0, .int 0]))]) [0, 1] (by decide) rfl
  have hKc := hK.sub (tys' := []) [] rfl
  have hFc := va_free (wc := [(x, .inr (7, [.ref bx, .ref po, .ref tr, .ref pa, .ref sp])), (bx, .inr (2, [.ref b0, .ref b1, .int 0, .int 0, .ref b4, .int 0, .ref b6, .int 0, .int 0, .int 0, .int 0]))]) hD hS hA [0, 1] rfl
  refine vx_calli (vx_runV (As := [.int a0, .int a1]) (rest := [.int 0, .ref ou]) ⟨hx, hb, hml, hown, hts⟩ (cx1_X5_overhang l hfl dC dI x po tr sp pa bx b0 b1 b4 b6 a0 a1 tx sa _ g0a g0b hbd) (cwV 2 hts gL_overhang_X5_overhang rfl rfl rfl (by decide +kernel) ⟨Nat.le_of_ble_eq_true rfl, Nat.le_of_ble_eq_true rfl⟩) ⟨px_blind, va_recv hKc hPc (ci := 7) (q0 := 0) rfl rfl, fun U hU hW => ⟨rfl, pr_mk hU hW hPc hKc hDc, xs_mk hU hW hS hFc hXs⟩⟩ rfl rfl hl.1 rfl (lv_room (Nat.le_of_ble_eq_true rfl)) dL_overhang_5 ⟨Nat.le_of_ble_eq_true rfl, Nat.le_of_ble_eq_true rfl⟩) hS (fun q _ h => hFc q h) hFc (fun q _ h => hFc q h) (fun E ce q9 u t H1 locs1 ht hvm hpx hB hz1 hk1 hS1 hce hcv hcl => ?_) (fun r u t H1 locs1 ht hvm hw hB hz1 hk1 hS1 => hw.elim)
  obtain rfl : E = "java/lang/IllegalArgumentException" := hB
  refine vx_catch (own := RL) (name := "java/lang/IllegalArgumentException") hown [] ⟨0, 10, 13, 13⟩ [] (htb.trans rfl) (fun _ hz => nomatch hz) (by decide) (by decide) (hts (.classLink RL 13 "java/lang/IllegalArgumentException") (by decide +kernel)) (va_Nw.use rfl hXs.2.2.2.1) hce hcv hcl ?_
  have hP := va_Pn (D := (dC, dI)) (cl := vwCl) H1
  have hD := va_Dn A
  have hS := hS1
  refine W.widen (k := 1) (n := 6) (Nat.le_of_ble_eq_true rfl) (Nat.le_of_ble_eq_true rfl) ?_
  refine lv_astore (lv' := [(4, .ref q9), (0, .ref x), (1, .int a0), (2, .int a1), (3, .ref ou)]) hx hb dL_overhang_13 hl (by decide) rfl (fun ls hl => ?_)
  refine lv_iconst (v := 1) hx hb dL_overhang_15 (by decide) ?_
  have hP9 := hP.sub (ws' := []) [] rfl
  have hD9 := hD.sub (ws' := []) [] (by decide) rfl
  have hK9 := hK.sub (tys' := []) [] rfl
  refine W.widen (k := 1) (n := 6) (Nat.le_of_ble_eq_true rfl) (Nat.le_of_ble_eq_true rfl) ?_
  exact W.iret (v := 1) hx hb hr (fun t ht hW => ⟨⟨1, (), rfl, rfl, po_mk ht hW hP9 hK9 hD9⟩, hS.F ht⟩) hS.2.2 dL_overhang_16

set_option maxHeartbeats 4000000 in
set_option maxRecDepth 100000 in
theorem h0_L_swings (l : Launch) (hfl : l.stackTraces = false) (dC : Nat → ClassId) (dI : Nat → Nat → Nat) (x : Nat) (po : Nat) (tr : Nat) (sp : Nat) (pa : Nat) (bx : Nat) (b0 : Nat) (b1 : Nat) (b4 : Nat) (b6 : Nat) (a0 : Int32) (a1 : Int32) (a2 : Int32) (ou : Nat) (tx : String) (sa : Nat) (sz : Nat) (hbd : a0 < 0 ∨ 4 ≤ a0) : Met l yL_swings wsL_swings ({ frames := 9, cells := 1, slots := 6, locals := 153 }) (va_Pc [.ref x, .int a0, .int a1, .int a2, .ref ou] (fun U => pr_ dC dI [(x, .inr (7, [.ref bx, .ref po, .ref tr, .ref pa, .ref sp])), (bx, .inr (2, [.ref b0, .ref b1, .int 0, .int 0, .ref b4, .int 0, .ref b6, .int 0, .int 0, .int 0, .int 0]))] [] sz U ∧ xs_ (va_A [(x, .inr (7, [.ref bx, .ref po, .ref tr, .ref pa, .ref sp])), (bx, .inr (2, [.ref b0, .ref b1, .int 0, .int 0, .ref b4, .int 0, .ref b6, .int 0, .int 0, .int 0, .int 0]))] sz) 50 tx sa "java/lang/IndexOutOfBoundsException" U ∧ True)) (va_Qi (fun (r : Int32) (_ : Unit) => r = 1) (fun (_ : Unit) t => po_ dC dI [] [] (va_A [(x, .inr (7, [.ref bx, .ref po, .ref tr, .ref pa, .ref sp])), (bx, .inr (2, [.ref b0, .ref b1, .int 0, .int 0, .ref b4, .int 0, .ref b6, .int 0, .int 0, .int 0, .int 0]))] sz) t) (va_A [(x, .inr (7, [.ref bx, .ref po, .ref tr, .ref pa, .ref sp])), (bx, .inr (2, [.ref b0, .ref b1, .int 0, .int 0, .ref b4, .int 0, .ref b6, .int 0, .int 0, .int 0, .int 0]))] sz)) 1 6 (va_A [(x, .inr (7, [.ref bx, .ref po, .ref tr, .ref pa, .ref sp])), (bx, .inr (2, [.ref b0, .ref b1, .int 0, .int 0, .ref b4, .int 0, .ref b6, .int 0, .int 0, .int 0, .int 0]))] sz) := by
  refine va_MetW (cc := cL_swings) (maxL := 6) (ret := (some .int)) (by decide) rfl ?_
  intro p e s m args below meth c s₁ B hml hv
  obtain ⟨rfl, ⟨hsz, hP, hK, hD0⟩, hXs, hNc⟩ := hv
  have hx := B.exec
  have hb := B.bytes
  have hr := B.returns
  have hts := atoms_spec (ws := wsL_swings) B.pre
  have htb : c.exceptionTable.toList = tableOf [(0, 12, 15, 20), (0, 12, 19, 13)] := vx_table (x := yL_swings) B (hts _ List.mem_cons_self)
  have hown : s.vm.findClass RL = some m.cls := findClass_of_methodNamed B.named
  have hlocks := B.notSynchronized
  subst hsz
  have hD := hD0.self (sz := s.heap.size)
  generalize hAe : va_A [(x, .inr (7, [.ref bx, .ref po, .ref tr, .ref pa, .ref sp])), (bx, .inr (2, [.ref b0, .ref b1, .int 0, .int 0, .ref b4, .int 0, .ref b6, .int 0, .int 0, .int 0, .int 0]))] s.heap.size = A at hD hXs ⊢
  have hA : ∀ q : Nat, s.heap.size ≤ q → A q := fun q h => by rw [← hAe]; exact Or.inr h
  have hS : va_S A s.heap s.heap [] := va_S.rf
  have hP : va_P (dC, dI) vwCl [(x, .inr (7, [.ref bx, .ref po, .ref tr, .ref pa, .ref sp])), (bx, .inr (2, [.ref b0, .ref b1, .int 0, .int 0, .ref b4, .int 0, .ref b6, .int 0, .int 0, .int 0, .int 0]))] s.heap := hP
  have hK : va_K (dC, dI) vwCl [] s := hK
  have hl := lv_entry ([.ref x, .int a0, .int a1, .int a2, .ref ou]) (n := 6) (Nat.le_of_ble_eq_true rfl)
  rw [lg_entry_eq]
  generalize (lg_sl ([.ref x, .int a0, .int a1, .int a2, .ref ou]) ++ List.replicate (6 - (lg_sl ([.ref x, .int a0, .int a1, .int a2, .ref ou])).length) Slot.unset).toArray = ls at hl ⊢
  have hl : lv_has ls 6 [(0, .ref x), (1, .int a0), (2, .int a1), (3, .int a2), (4, .ref ou)] := hl
  refine lv_aload hx hb dL_swings_0 (lv_at hl 4 rfl) ?_
  refine lv_iconst (v := 0) hx hb dL_swings_2 (by decide) ?_
  refine lv_aload_n hx hb dL_swings_3 rfl (lv_at hl 0 rfl) ?_
  refine lv_iload_n hx hb dL_swings_4 rfl (lv_at hl 1 rfl) ?_
  refine lv_iload_n hx hb dL_swings_5 rfl (lv_at hl 2 rfl) ?_
  refine lv_iload_n hx hb dL_swings_6 rfl (lv_at hl 3 rfl) ?_
  have hPc := hP.sub (ws' := [(x, .inr (7, [.ref bx, .ref po, .ref tr, .ref pa, .ref sp])), (bx, .inr (2, [.ref b0, .ref b1, .int 0, .int 0, .ref b4, .int 0, .ref b6, .int 0, .int 0, .int 0, .int 0]))]) [0, 1] rfl
  have hDc := hD.sub (ws' := [(x, .inr (7, [.ref bx, .ref po, .ref tr, .ref pa, .ref sp])), (bx, .inr (2, [.ref b0, .ref b1, .int 0, .int 0, .ref b4, .int 0, .ref b6, .int 0, .int 0, .int 0, .int 0]))]) [0, 1] (by decide) rfl
  have hKc := hK.sub (tys' := []) [] rfl
  have hFc := va_free (wc := [(x, .inr (7, [.ref bx, .ref po, .ref tr, .ref pa, .ref sp])), (bx, .inr (2, [.ref b0, .ref b1, .int 0, .int 0, .ref b4, .int 0, .ref b6, .int 0, .int 0, .int 0, .int 0]))]) hD hS hA [0, 1] rfl
  refine vx_calli (vx_runV (As := [.int a0, .int a1, .int a2]) (rest := [.int 0, .ref ou]) ⟨hx, hb, hml, hown, hts⟩ (cx0_X5_swings l hfl dC dI x po tr sp pa bx b0 b1 b4 b6 a0 a1 a2 tx sa _ hbd) (cwV 3 hts gL_swings_X5_swings rfl rfl rfl (by decide +kernel) ⟨Nat.le_of_ble_eq_true rfl, Nat.le_of_ble_eq_true rfl⟩) ⟨px_blind, va_recv hKc hPc (ci := 7) (q0 := 0) rfl rfl, fun U hU hW => ⟨rfl, pr_mk hU hW hPc hKc hDc, xs_mk hU hW hS hFc hXs⟩⟩ rfl rfl hl.1 rfl (lv_room (Nat.le_of_ble_eq_true rfl)) dL_swings_7 ⟨Nat.le_of_ble_eq_true rfl, Nat.le_of_ble_eq_true rfl⟩) hS (fun q _ h => hFc q h) hFc (fun q _ h => hFc q h) (fun E ce q9 u t H1 locs1 ht hvm hpx hB hz1 hk1 hS1 hce hcv hcl => ?_) (fun r u t H1 locs1 ht hvm hw hB hz1 hk1 hS1 => hw.elim)
  obtain rfl : E = "java/lang/IndexOutOfBoundsException" := hB
  refine vx_catch (own := RL) (name := "java/lang/IndexOutOfBoundsException") hown [] ⟨0, 12, 15, 20⟩ [⟨0, 12, 19, 13⟩] (htb.trans rfl) (fun _ hz => nomatch hz) (by decide) (by decide) (hts (.classLink RL 20 "java/lang/IndexOutOfBoundsException") (by decide +kernel)) (va_Nw.use rfl hXs.2.2.2.1) hce hcv hcl ?_
  have hP := va_Pn (D := (dC, dI)) (cl := vwCl) H1
  have hD := va_Dn A
  have hS := hS1
  refine W.widen (k := 1) (n := 6) (Nat.le_of_ble_eq_true rfl) (Nat.le_of_ble_eq_true rfl) ?_
  refine lv_astore (lv' := [(5, .ref q9), (0, .ref x), (1, .int a0), (2, .int a1), (3, .int a2), (4, .ref ou)]) hx hb dL_swings_15 hl (by decide) rfl (fun ls hl => ?_)
  refine lv_iconst (v := 1) hx hb dL_swings_17 (by decide) ?_
  have hP9 := hP.sub (ws' := []) [] rfl
  have hD9 := hD.sub (ws' := []) [] (by decide) rfl
  have hK9 := hK.sub (tys' := []) [] rfl
  refine W.widen (k := 1) (n := 6) (Nat.le_of_ble_eq_true rfl) (Nat.le_of_ble_eq_true rfl) ?_
  exact W.iret (v := 1) hx hb hr (fun t ht hW => ⟨⟨1, (), rfl, rfl, po_mk ht hW hP9 hK9 hD9⟩, hS.F ht⟩) hS.2.2 dL_swings_18

set_option maxHeartbeats 4000000 in
set_option maxRecDepth 100000 in
theorem h1_L_swings (l : Launch) (hfl : l.stackTraces = false) (dC : Nat → ClassId) (dI : Nat → Nat → Nat) (x : Nat) (po : Nat) (tr : Nat) (sp : Nat) (pa : Nat) (bx : Nat) (b0 : Nat) (b1 : Nat) (b4 : Nat) (b6 : Nat) (a0 : Int32) (a1 : Int32) (a2 : Int32) (ou : Nat) (tx : String) (sa : Nat) (sz : Nat) (g0a : ¬ a0 < 0) (g0b : ¬ 4 ≤ a0) (hbd : a1 < 1 ∨ ¬ a1 ≤ 60) : Met l yL_swings wsL_swings ({ frames := 9, cells := 1, slots := 6, locals := 153 }) (va_Pc [.ref x, .int a0, .int a1, .int a2, .ref ou] (fun U => pr_ dC dI [(x, .inr (7, [.ref bx, .ref po, .ref tr, .ref pa, .ref sp])), (bx, .inr (2, [.ref b0, .ref b1, .int 0, .int 0, .ref b4, .int 0, .ref b6, .int 0, .int 0, .int 0, .int 0]))] [] sz U ∧ xs_ (va_A [(x, .inr (7, [.ref bx, .ref po, .ref tr, .ref pa, .ref sp])), (bx, .inr (2, [.ref b0, .ref b1, .int 0, .int 0, .ref b4, .int 0, .ref b6, .int 0, .int 0, .int 0, .int 0]))] sz) 312 tx sa "java/lang/IllegalArgumentException" U ∧ va_Nc "java/lang/IllegalArgumentException" "java/lang/IndexOutOfBoundsException" U ∧ True)) (va_Qi (fun (r : Int32) (_ : Unit) => r = 2) (fun (_ : Unit) t => po_ dC dI [] [] (va_A [(x, .inr (7, [.ref bx, .ref po, .ref tr, .ref pa, .ref sp])), (bx, .inr (2, [.ref b0, .ref b1, .int 0, .int 0, .ref b4, .int 0, .ref b6, .int 0, .int 0, .int 0, .int 0]))] sz) t) (va_A [(x, .inr (7, [.ref bx, .ref po, .ref tr, .ref pa, .ref sp])), (bx, .inr (2, [.ref b0, .ref b1, .int 0, .int 0, .ref b4, .int 0, .ref b6, .int 0, .int 0, .int 0, .int 0]))] sz)) 1 6 (va_A [(x, .inr (7, [.ref bx, .ref po, .ref tr, .ref pa, .ref sp])), (bx, .inr (2, [.ref b0, .ref b1, .int 0, .int 0, .ref b4, .int 0, .ref b6, .int 0, .int 0, .int 0, .int 0]))] sz) := by
  refine va_MetW (cc := cL_swings) (maxL := 6) (ret := (some .int)) (by decide) rfl ?_
  intro p e s m args below meth c s₁ B hml hv
  obtain ⟨rfl, ⟨hsz, hP, hK, hD0⟩, hXs, hNc⟩ := hv
  have hx := B.exec
  have hb := B.bytes
  have hr := B.returns
  have hts := atoms_spec (ws := wsL_swings) B.pre
  have htb : c.exceptionTable.toList = tableOf [(0, 12, 15, 20), (0, 12, 19, 13)] := vx_table (x := yL_swings) B (hts _ List.mem_cons_self)
  have hown : s.vm.findClass RL = some m.cls := findClass_of_methodNamed B.named
  have hlocks := B.notSynchronized
  subst hsz
  have hD := hD0.self (sz := s.heap.size)
  generalize hAe : va_A [(x, .inr (7, [.ref bx, .ref po, .ref tr, .ref pa, .ref sp])), (bx, .inr (2, [.ref b0, .ref b1, .int 0, .int 0, .ref b4, .int 0, .ref b6, .int 0, .int 0, .int 0, .int 0]))] s.heap.size = A at hD hXs ⊢
  have hA : ∀ q : Nat, s.heap.size ≤ q → A q := fun q h => by rw [← hAe]; exact Or.inr h
  have hS : va_S A s.heap s.heap [] := va_S.rf
  have hP : va_P (dC, dI) vwCl [(x, .inr (7, [.ref bx, .ref po, .ref tr, .ref pa, .ref sp])), (bx, .inr (2, [.ref b0, .ref b1, .int 0, .int 0, .ref b4, .int 0, .ref b6, .int 0, .int 0, .int 0, .int 0]))] s.heap := hP
  have hK : va_K (dC, dI) vwCl [] s := hK
  have hl := lv_entry ([.ref x, .int a0, .int a1, .int a2, .ref ou]) (n := 6) (Nat.le_of_ble_eq_true rfl)
  rw [lg_entry_eq]
  generalize (lg_sl ([.ref x, .int a0, .int a1, .int a2, .ref ou]) ++ List.replicate (6 - (lg_sl ([.ref x, .int a0, .int a1, .int a2, .ref ou])).length) Slot.unset).toArray = ls at hl ⊢
  have hl : lv_has ls 6 [(0, .ref x), (1, .int a0), (2, .int a1), (3, .int a2), (4, .ref ou)] := hl
  refine lv_aload hx hb dL_swings_0 (lv_at hl 4 rfl) ?_
  refine lv_iconst (v := 0) hx hb dL_swings_2 (by decide) ?_
  refine lv_aload_n hx hb dL_swings_3 rfl (lv_at hl 0 rfl) ?_
  refine lv_iload_n hx hb dL_swings_4 rfl (lv_at hl 1 rfl) ?_
  refine lv_iload_n hx hb dL_swings_5 rfl (lv_at hl 2 rfl) ?_
  refine lv_iload_n hx hb dL_swings_6 rfl (lv_at hl 3 rfl) ?_
  have hPc := hP.sub (ws' := [(x, .inr (7, [.ref bx, .ref po, .ref tr, .ref pa, .ref sp])), (bx, .inr (2, [.ref b0, .ref b1, .int 0, .int 0, .ref b4, .int 0, .ref b6, .int 0, .int 0, .int 0, .int 0]))]) [0, 1] rfl
  have hDc := hD.sub (ws' := [(x, .inr (7, [.ref bx, .ref po, .ref tr, .ref pa, .ref sp])), (bx, .inr (2, [.ref b0, .ref b1, .int 0, .int 0, .ref b4, .int 0, .ref b6, .int 0, .int 0, .int 0, .int 0]))]) [0, 1] (by decide) rfl
  have hKc := hK.sub (tys' := []) [] rfl
  have hFc := va_free (wc := [(x, .inr (7, [.ref bx, .ref po, .ref tr, .ref pa, .ref sp])), (bx, .inr (2, [.ref b0, .ref b1, .int 0, .int 0, .ref b4, .int 0, .ref b6, .int 0, .int 0, .int 0, .int 0]))]) hD hS hA [0, 1] rfl
  refine vx_calli (vx_runV (As := [.int a0, .int a1, .int a2]) (rest := [.int 0, .ref ou]) ⟨hx, hb, hml, hown, hts⟩ (cx1_X5_swings l hfl dC dI x po tr sp pa bx b0 b1 b4 b6 a0 a1 a2 tx sa _ g0a g0b hbd) (cwV 3 hts gL_swings_X5_swings rfl rfl rfl (by decide +kernel) ⟨Nat.le_of_ble_eq_true rfl, Nat.le_of_ble_eq_true rfl⟩) ⟨px_blind, va_recv hKc hPc (ci := 7) (q0 := 0) rfl rfl, fun U hU hW => ⟨rfl, pr_mk hU hW hPc hKc hDc, xs_mk hU hW hS hFc hXs⟩⟩ rfl rfl hl.1 rfl (lv_room (Nat.le_of_ble_eq_true rfl)) dL_swings_7 ⟨Nat.le_of_ble_eq_true rfl, Nat.le_of_ble_eq_true rfl⟩) hS (fun q _ h => hFc q h) hFc (fun q _ h => hFc q h) (fun E ce q9 u t H1 locs1 ht hvm hpx hB hz1 hk1 hS1 hce hcv hcl => ?_) (fun r u t H1 locs1 ht hvm hw hB hz1 hk1 hS1 => hw.elim)
  obtain rfl : E = "java/lang/IllegalArgumentException" := hB
  refine vx_catch (own := RL) (name := "java/lang/IllegalArgumentException") hown [⟨0, 12, 15, 20⟩] ⟨0, 12, 19, 13⟩ [] (htb.trans rfl) (by intro z hz; simp only [List.mem_cons, List.not_mem_nil, or_false] at hz; rcases hz with rfl; exact Or.inr ⟨by decide, "java/lang/IndexOutOfBoundsException", hts (.classLink RL 20 "java/lang/IndexOutOfBoundsException") (by decide +kernel), hNc.1⟩) (by decide) (by decide) (hts (.classLink RL 13 "java/lang/IllegalArgumentException") (by decide +kernel)) (va_Nw.use rfl hXs.2.2.2.1) hce hcv hcl ?_
  have hP := va_Pn (D := (dC, dI)) (cl := vwCl) H1
  have hD := va_Dn A
  have hS := hS1
  refine W.widen (k := 1) (n := 6) (Nat.le_of_ble_eq_true rfl) (Nat.le_of_ble_eq_true rfl) ?_
  refine lv_astore (lv' := [(5, .ref q9), (0, .ref x), (1, .int a0), (2, .int a1), (3, .int a2), (4, .ref ou)]) hx hb dL_swings_19 hl (by decide) rfl (fun ls hl => ?_)
  refine lv_iconst (v := 2) hx hb dL_swings_21 (by decide) ?_
  have hP9 := hP.sub (ws' := []) [] rfl
  have hD9 := hD.sub (ws' := []) [] (by decide) rfl
  have hK9 := hK.sub (tys' := []) [] rfl
  refine W.widen (k := 1) (n := 6) (Nat.le_of_ble_eq_true rfl) (Nat.le_of_ble_eq_true rfl) ?_
  exact W.iret (v := 2) hx hb hr (fun t ht hW => ⟨⟨2, (), rfl, rfl, po_mk ht hW hP9 hK9 hD9⟩, hS.F ht⟩) hS.2.2 dL_swings_22

set_option maxHeartbeats 4000000 in
set_option maxRecDepth 100000 in
theorem h2_L_swings (l : Launch) (hfl : l.stackTraces = false) (dC : Nat → ClassId) (dI : Nat → Nat → Nat) (x : Nat) (po : Nat) (tr : Nat) (sp : Nat) (pa : Nat) (bx : Nat) (b0 : Nat) (b1 : Nat) (b4 : Nat) (b6 : Nat) (a0 : Int32) (a1 : Int32) (a2 : Int32) (ou : Nat) (tx : String) (sa : Nat) (sz : Nat) (g0a : ¬ a0 < 0) (g0b : ¬ 4 ≤ a0) (g1a : ¬ a1 < 1) (g1b : a1 ≤ 60) (hbd : a2 < 0 ∨ ¬ a2 ≤ 2) : Met l yL_swings wsL_swings ({ frames := 9, cells := 1, slots := 6, locals := 153 }) (va_Pc [.ref x, .int a0, .int a1, .int a2, .ref ou] (fun U => pr_ dC dI [(x, .inr (7, [.ref bx, .ref po, .ref tr, .ref pa, .ref sp])), (bx, .inr (2, [.ref b0, .ref b1, .int 0, .int 0, .ref b4, .int 0, .ref b6, .int 0, .int 0, .int 0, .int 0]))] [] sz U ∧ xs_ (va_A [(x, .inr (7, [.ref bx, .ref po, .ref tr, .ref pa, .ref sp])), (bx, .inr (2, [.ref b0, .ref b1, .int 0, .int 0, .ref b4, .int 0, .ref b6, .int 0, .int 0, .int 0, .int 0]))] sz) 314 tx sa "java/lang/IllegalArgumentException" U ∧ va_Nc "java/lang/IllegalArgumentException" "java/lang/IndexOutOfBoundsException" U ∧ True)) (va_Qi (fun (r : Int32) (_ : Unit) => r = 2) (fun (_ : Unit) t => po_ dC dI [] [] (va_A [(x, .inr (7, [.ref bx, .ref po, .ref tr, .ref pa, .ref sp])), (bx, .inr (2, [.ref b0, .ref b1, .int 0, .int 0, .ref b4, .int 0, .ref b6, .int 0, .int 0, .int 0, .int 0]))] sz) t) (va_A [(x, .inr (7, [.ref bx, .ref po, .ref tr, .ref pa, .ref sp])), (bx, .inr (2, [.ref b0, .ref b1, .int 0, .int 0, .ref b4, .int 0, .ref b6, .int 0, .int 0, .int 0, .int 0]))] sz)) 1 6 (va_A [(x, .inr (7, [.ref bx, .ref po, .ref tr, .ref pa, .ref sp])), (bx, .inr (2, [.ref b0, .ref b1, .int 0, .int 0, .ref b4, .int 0, .ref b6, .int 0, .int 0, .int 0, .int 0]))] sz) := by
  refine va_MetW (cc := cL_swings) (maxL := 6) (ret := (some .int)) (by decide) rfl ?_
  intro p e s m args below meth c s₁ B hml hv
  obtain ⟨rfl, ⟨hsz, hP, hK, hD0⟩, hXs, hNc⟩ := hv
  have hx := B.exec
  have hb := B.bytes
  have hr := B.returns
  have hts := atoms_spec (ws := wsL_swings) B.pre
  have htb : c.exceptionTable.toList = tableOf [(0, 12, 15, 20), (0, 12, 19, 13)] := vx_table (x := yL_swings) B (hts _ List.mem_cons_self)
  have hown : s.vm.findClass RL = some m.cls := findClass_of_methodNamed B.named
  have hlocks := B.notSynchronized
  subst hsz
  have hD := hD0.self (sz := s.heap.size)
  generalize hAe : va_A [(x, .inr (7, [.ref bx, .ref po, .ref tr, .ref pa, .ref sp])), (bx, .inr (2, [.ref b0, .ref b1, .int 0, .int 0, .ref b4, .int 0, .ref b6, .int 0, .int 0, .int 0, .int 0]))] s.heap.size = A at hD hXs ⊢
  have hA : ∀ q : Nat, s.heap.size ≤ q → A q := fun q h => by rw [← hAe]; exact Or.inr h
  have hS : va_S A s.heap s.heap [] := va_S.rf
  have hP : va_P (dC, dI) vwCl [(x, .inr (7, [.ref bx, .ref po, .ref tr, .ref pa, .ref sp])), (bx, .inr (2, [.ref b0, .ref b1, .int 0, .int 0, .ref b4, .int 0, .ref b6, .int 0, .int 0, .int 0, .int 0]))] s.heap := hP
  have hK : va_K (dC, dI) vwCl [] s := hK
  have hl := lv_entry ([.ref x, .int a0, .int a1, .int a2, .ref ou]) (n := 6) (Nat.le_of_ble_eq_true rfl)
  rw [lg_entry_eq]
  generalize (lg_sl ([.ref x, .int a0, .int a1, .int a2, .ref ou]) ++ List.replicate (6 - (lg_sl ([.ref x, .int a0, .int a1, .int a2, .ref ou])).length) Slot.unset).toArray = ls at hl ⊢
  have hl : lv_has ls 6 [(0, .ref x), (1, .int a0), (2, .int a1), (3, .int a2), (4, .ref ou)] := hl
  refine lv_aload hx hb dL_swings_0 (lv_at hl 4 rfl) ?_
  refine lv_iconst (v := 0) hx hb dL_swings_2 (by decide) ?_
  refine lv_aload_n hx hb dL_swings_3 rfl (lv_at hl 0 rfl) ?_
  refine lv_iload_n hx hb dL_swings_4 rfl (lv_at hl 1 rfl) ?_
  refine lv_iload_n hx hb dL_swings_5 rfl (lv_at hl 2 rfl) ?_
  refine lv_iload_n hx hb dL_swings_6 rfl (lv_at hl 3 rfl) ?_
  have hPc := hP.sub (ws' := [(x, .inr (7, [.ref bx, .ref po, .ref tr, .ref pa, .ref sp])), (bx, .inr (2, [.ref b0, .ref b1, .int 0, .int 0, .ref b4, .int 0, .ref b6, .int 0, .int 0, .int 0, .int 0]))]) [0, 1] rfl
  have hDc := hD.sub (ws' := [(x, .inr (7, [.ref bx, .ref po, .ref tr, .ref pa, .ref sp])), (bx, .inr (2, [.ref b0, .ref b1, .int 0, .int 0, .ref b4, .int 0, .ref b6, .int 0, .int 0, .int 0, .int 0]))]) [0, 1] (by decide) rfl
  have hKc := hK.sub (tys' := []) [] rfl
  have hFc := va_free (wc := [(x, .inr (7, [.ref bx, .ref po, .ref tr, .ref pa, .ref sp])), (bx, .inr (2, [.ref b0, .ref b1, .int 0, .int 0, .ref b4, .int 0, .ref b6, .int 0, .int 0, .int 0, .int 0]))]) hD hS hA [0, 1] rfl
  refine vx_calli (vx_runV (As := [.int a0, .int a1, .int a2]) (rest := [.int 0, .ref ou]) ⟨hx, hb, hml, hown, hts⟩ (cx2_X5_swings l hfl dC dI x po tr sp pa bx b0 b1 b4 b6 a0 a1 a2 tx sa _ g0a g0b g1a g1b hbd) (cwV 3 hts gL_swings_X5_swings rfl rfl rfl (by decide +kernel) ⟨Nat.le_of_ble_eq_true rfl, Nat.le_of_ble_eq_true rfl⟩) ⟨px_blind, va_recv hKc hPc (ci := 7) (q0 := 0) rfl rfl, fun U hU hW => ⟨rfl, pr_mk hU hW hPc hKc hDc, xs_mk hU hW hS hFc hXs⟩⟩ rfl rfl hl.1 rfl (lv_room (Nat.le_of_ble_eq_true rfl)) dL_swings_7 ⟨Nat.le_of_ble_eq_true rfl, Nat.le_of_ble_eq_true rfl⟩) hS (fun q _ h => hFc q h) hFc (fun q _ h => hFc q h) (fun E ce q9 u t H1 locs1 ht hvm hpx hB hz1 hk1 hS1 hce hcv hcl => ?_) (fun r u t H1 locs1 ht hvm hw hB hz1 hk1 hS1 => hw.elim)
  obtain rfl : E = "java/lang/IllegalArgumentException" := hB
  refine vx_catch (own := RL) (name := "java/lang/IllegalArgumentException") hown [⟨0, 12, 15, 20⟩] ⟨0, 12, 19, 13⟩ [] (htb.trans rfl) (by intro z hz; simp only [List.mem_cons, List.not_mem_nil, or_false] at hz; rcases hz with rfl; exact Or.inr ⟨by decide, "java/lang/IndexOutOfBoundsException", hts (.classLink RL 20 "java/lang/IndexOutOfBoundsException") (by decide +kernel), hNc.1⟩) (by decide) (by decide) (hts (.classLink RL 13 "java/lang/IllegalArgumentException") (by decide +kernel)) (va_Nw.use rfl hXs.2.2.2.1) hce hcv hcl ?_
  have hP := va_Pn (D := (dC, dI)) (cl := vwCl) H1
  have hD := va_Dn A
  have hS := hS1
  refine W.widen (k := 1) (n := 6) (Nat.le_of_ble_eq_true rfl) (Nat.le_of_ble_eq_true rfl) ?_
  refine lv_astore (lv' := [(5, .ref q9), (0, .ref x), (1, .int a0), (2, .int a1), (3, .int a2), (4, .ref ou)]) hx hb dL_swings_19 hl (by decide) rfl (fun ls hl => ?_)
  refine lv_iconst (v := 2) hx hb dL_swings_21 (by decide) ?_
  have hP9 := hP.sub (ws' := []) [] rfl
  have hD9 := hD.sub (ws' := []) [] (by decide) rfl
  have hK9 := hK.sub (tys' := []) [] rfl
  refine W.widen (k := 1) (n := 6) (Nat.le_of_ble_eq_true rfl) (Nat.le_of_ble_eq_true rfl) ?_
  exact W.iret (v := 2) hx hb hr (fun t ht hW => ⟨⟨2, (), rfl, rfl, po_mk ht hW hP9 hK9 hD9⟩, hS.F ht⟩) hS.2.2 dL_swings_22

set_option maxHeartbeats 4000000 in
set_option maxRecDepth 100000 in
theorem h0_L_coalition (l : Launch) (hfl : l.stackTraces = false) (dC : Nat → ClassId) (dI : Nat → Nat → Nat) (x : Nat) (po : Nat) (tr : Nat) (sp : Nat) (pa : Nat) (bx : Nat) (b0 : Nat) (b1 : Nat) (b4 : Nat) (b6 : Nat) (a0 : Int32) (a1 : Int32) (ou : Nat) (tx : String) (sa : Nat) (sz : Nat) (hbd : a0 < 1 ∨ ¬ a0 ≤ 60) : Met l yL_coalition wsL_coalition ({ frames := 9, cells := 1, slots := 6, locals := 152 }) (va_Pc [.ref x, .int a0, .int a1, .ref ou] (fun U => pr_ dC dI [(x, .inr (7, [.ref bx, .ref po, .ref tr, .ref pa, .ref sp])), (bx, .inr (2, [.ref b0, .ref b1, .int 0, .int 0, .ref b4, .int 0, .ref b6, .int 0, .int 0, .int 0, .int 0]))] [] sz U ∧ xs_ (va_A [(x, .inr (7, [.ref bx, .ref po, .ref tr, .ref pa, .ref sp])), (bx, .inr (2, [.ref b0, .ref b1, .int 0, .int 0, .ref b4, .int 0, .ref b6, .int 0, .int 0, .int 0, .int 0]))] sz) 312 tx sa "java/lang/IllegalArgumentException" U ∧ True)) (va_Qi (fun (r : Int32) (_ : Unit) => r = 1) (fun (_ : Unit) t => po_ dC dI [] [] (va_A [(x, .inr (7, [.ref bx, .ref po, .ref tr, .ref pa, .ref sp])), (bx, .inr (2, [.ref b0, .ref b1, .int 0, .int 0, .ref b4, .int 0, .ref b6, .int 0, .int 0, .int 0, .int 0]))] sz) t) (va_A [(x, .inr (7, [.ref bx, .ref po, .ref tr, .ref pa, .ref sp])), (bx, .inr (2, [.ref b0, .ref b1, .int 0, .int 0, .ref b4, .int 0, .ref b6, .int 0, .int 0, .int 0, .int 0]))] sz)) 1 6 (va_A [(x, .inr (7, [.ref bx, .ref po, .ref tr, .ref pa, .ref sp])), (bx, .inr (2, [.ref b0, .ref b1, .int 0, .int 0, .ref b4, .int 0, .ref b6, .int 0, .int 0, .int 0, .int 0]))] sz) := by
  refine va_MetW (cc := cL_coalition) (maxL := 5) (ret := (some .int)) (by decide) rfl ?_
  intro p e s m args below meth c s₁ B hml hv
  obtain ⟨rfl, ⟨hsz, hP, hK, hD0⟩, hXs, hNc⟩ := hv
  have hx := B.exec
  have hb := B.bytes
  have hr := B.returns
  have hts := atoms_spec (ws := wsL_coalition) B.pre
  have htb : c.exceptionTable.toList = tableOf [(0, 10, 13, 13)] := vx_table (x := yL_coalition) B (hts _ List.mem_cons_self)
  have hown : s.vm.findClass RL = some m.cls := findClass_of_methodNamed B.named
  have hlocks := B.notSynchronized
  subst hsz
  have hD := hD0.self (sz := s.heap.size)
  generalize hAe : va_A [(x, .inr (7, [.ref bx, .ref po, .ref tr, .ref pa, .ref sp])), (bx, .inr (2, [.ref b0, .ref b1, .int 0, .int 0, .ref b4, .int 0, .ref b6, .int 0, .int 0, .int 0, .int 0]))] s.heap.size = A at hD hXs ⊢
  have hA : ∀ q : Nat, s.heap.size ≤ q → A q := fun q h => by rw [← hAe]; exact Or.inr h
  have hS : va_S A s.heap s.heap [] := va_S.rf
  have hP : va_P (dC, dI) vwCl [(x, .inr (7, [.ref bx, .ref po, .ref tr, .ref pa, .ref sp])), (bx, .inr (2, [.ref b0, .ref b1, .int 0, .int 0, .ref b4, .int 0, .ref b6, .int 0, .int 0, .int 0, .int 0]))] s.heap := hP
  have hK : va_K (dC, dI) vwCl [] s := hK
  have hl := lv_entry ([.ref x, .int a0, .int a1, .ref ou]) (n := 5) (Nat.le_of_ble_eq_true rfl)
  rw [lg_entry_eq]
  generalize (lg_sl ([.ref x, .int a0, .int a1, .ref ou]) ++ List.replicate (5 - (lg_sl ([.ref x, .int a0, .int a1, .ref ou])).length) Slot.unset).toArray = ls at hl ⊢
  have hl : lv_has ls 5 [(0, .ref x), (1, .int a0), (2, .int a1), (3, .ref ou)] := hl
  refine lv_aload_n hx hb dL_coalition_0 rfl (lv_at hl 3 rfl) ?_
  refine lv_iconst (v := 0) hx hb dL_coalition_1 (by decide) ?_
  refine lv_aload_n hx hb dL_coalition_2 rfl (lv_at hl 0 rfl) ?_
  refine lv_iload_n hx hb dL_coalition_3 rfl (lv_at hl 1 rfl) ?_
  refine lv_iload_n hx hb dL_coalition_4 rfl (lv_at hl 2 rfl) ?_
  have hPc := hP.sub (ws' := [(x, .inr (7, [.ref bx, .ref po, .ref tr, .ref pa, .ref sp])), (bx, .inr (2, [.ref b0, .ref b1, .int 0, .int 0, .ref b4, .int 0, .ref b6, .int 0, .int 0, .int 0, .int 0]))]) [0, 1] rfl
  have hDc := hD.sub (ws' := [(x, .inr (7, [.ref bx, .ref po, .ref tr, .ref pa, .ref sp])), (bx, .inr (2, [.ref b0, .ref b1, .int 0, .int 0, .ref b4, .int 0, .ref b6, .int 0, .int 0, .int 0, .int 0]))]) [0, 1] (by decide) rfl
  have hKc := hK.sub (tys' := []) [] rfl
  have hFc := va_free (wc := [(x, .inr (7, [.ref bx, .ref po, .ref tr, .ref pa, .ref sp])), (bx, .inr (2, [.ref b0, .ref b1, .int 0, .int 0, .ref b4, .int 0, .ref b6, .int 0, .int 0, .int 0, .int 0]))]) hD hS hA [0, 1] rfl
  refine vx_calli (vx_runV (As := [.int a0, .int a1]) (rest := [.int 0, .ref ou]) ⟨hx, hb, hml, hown, hts⟩ (cx0_X5_coalition l hfl dC dI x po tr sp pa bx b0 b1 b4 b6 a0 a1 tx sa _ hbd) (cwV 2 hts gL_coalition_X5_coalition rfl rfl rfl (by decide +kernel) ⟨Nat.le_of_ble_eq_true rfl, Nat.le_of_ble_eq_true rfl⟩) ⟨px_blind, va_recv hKc hPc (ci := 7) (q0 := 0) rfl rfl, fun U hU hW => ⟨rfl, pr_mk hU hW hPc hKc hDc, xs_mk hU hW hS hFc hXs⟩⟩ rfl rfl hl.1 rfl (lv_room (Nat.le_of_ble_eq_true rfl)) dL_coalition_5 ⟨Nat.le_of_ble_eq_true rfl, Nat.le_of_ble_eq_true rfl⟩) hS (fun q _ h => hFc q h) hFc (fun q _ h => hFc q h) (fun E ce q9 u t H1 locs1 ht hvm hpx hB hz1 hk1 hS1 hce hcv hcl => ?_) (fun r u t H1 locs1 ht hvm hw hB hz1 hk1 hS1 => hw.elim)
  obtain rfl : E = "java/lang/IllegalArgumentException" := hB
  refine vx_catch (own := RL) (name := "java/lang/IllegalArgumentException") hown [] ⟨0, 10, 13, 13⟩ [] (htb.trans rfl) (fun _ hz => nomatch hz) (by decide) (by decide) (hts (.classLink RL 13 "java/lang/IllegalArgumentException") (by decide +kernel)) (va_Nw.use rfl hXs.2.2.2.1) hce hcv hcl ?_
  have hP := va_Pn (D := (dC, dI)) (cl := vwCl) H1
  have hD := va_Dn A
  have hS := hS1
  refine W.widen (k := 1) (n := 6) (Nat.le_of_ble_eq_true rfl) (Nat.le_of_ble_eq_true rfl) ?_
  refine lv_astore (lv' := [(4, .ref q9), (0, .ref x), (1, .int a0), (2, .int a1), (3, .ref ou)]) hx hb dL_coalition_13 hl (by decide) rfl (fun ls hl => ?_)
  refine lv_iconst (v := 1) hx hb dL_coalition_15 (by decide) ?_
  have hP9 := hP.sub (ws' := []) [] rfl
  have hD9 := hD.sub (ws' := []) [] (by decide) rfl
  have hK9 := hK.sub (tys' := []) [] rfl
  refine W.widen (k := 1) (n := 6) (Nat.le_of_ble_eq_true rfl) (Nat.le_of_ble_eq_true rfl) ?_
  exact W.iret (v := 1) hx hb hr (fun t ht hW => ⟨⟨1, (), rfl, rfl, po_mk ht hW hP9 hK9 hD9⟩, hS.F ht⟩) hS.2.2 dL_coalition_16

set_option maxHeartbeats 4000000 in
set_option maxRecDepth 100000 in
theorem h1_L_coalition (l : Launch) (hfl : l.stackTraces = false) (dC : Nat → ClassId) (dI : Nat → Nat → Nat) (x : Nat) (po : Nat) (tr : Nat) (sp : Nat) (pa : Nat) (bx : Nat) (b0 : Nat) (b1 : Nat) (b4 : Nat) (b6 : Nat) (a0 : Int32) (a1 : Int32) (ou : Nat) (tx : String) (sa : Nat) (sz : Nat) (g0a : ¬ a0 < 1) (g0b : a0 ≤ 60) (hbd : a1 < 0 ∨ ¬ a1 ≤ 2) : Met l yL_coalition wsL_coalition ({ frames := 9, cells := 1, slots := 6, locals := 152 }) (va_Pc [.ref x, .int a0, .int a1, .ref ou] (fun U => pr_ dC dI [(x, .inr (7, [.ref bx, .ref po, .ref tr, .ref pa, .ref sp])), (bx, .inr (2, [.ref b0, .ref b1, .int 0, .int 0, .ref b4, .int 0, .ref b6, .int 0, .int 0, .int 0, .int 0]))] [] sz U ∧ xs_ (va_A [(x, .inr (7, [.ref bx, .ref po, .ref tr, .ref pa, .ref sp])), (bx, .inr (2, [.ref b0, .ref b1, .int 0, .int 0, .ref b4, .int 0, .ref b6, .int 0, .int 0, .int 0, .int 0]))] sz) 314 tx sa "java/lang/IllegalArgumentException" U ∧ True)) (va_Qi (fun (r : Int32) (_ : Unit) => r = 1) (fun (_ : Unit) t => po_ dC dI [] [] (va_A [(x, .inr (7, [.ref bx, .ref po, .ref tr, .ref pa, .ref sp])), (bx, .inr (2, [.ref b0, .ref b1, .int 0, .int 0, .ref b4, .int 0, .ref b6, .int 0, .int 0, .int 0, .int 0]))] sz) t) (va_A [(x, .inr (7, [.ref bx, .ref po, .ref tr, .ref pa, .ref sp])), (bx, .inr (2, [.ref b0, .ref b1, .int 0, .int 0, .ref b4, .int 0, .ref b6, .int 0, .int 0, .int 0, .int 0]))] sz)) 1 6 (va_A [(x, .inr (7, [.ref bx, .ref po, .ref tr, .ref pa, .ref sp])), (bx, .inr (2, [.ref b0, .ref b1, .int 0, .int 0, .ref b4, .int 0, .ref b6, .int 0, .int 0, .int 0, .int 0]))] sz) := by
  refine va_MetW (cc := cL_coalition) (maxL := 5) (ret := (some .int)) (by decide) rfl ?_
  intro p e s m args below meth c s₁ B hml hv
  obtain ⟨rfl, ⟨hsz, hP, hK, hD0⟩, hXs, hNc⟩ := hv
  have hx := B.exec
  have hb := B.bytes
  have hr := B.returns
  have hts := atoms_spec (ws := wsL_coalition) B.pre
  have htb : c.exceptionTable.toList = tableOf [(0, 10, 13, 13)] := vx_table (x := yL_coalition) B (hts _ List.mem_cons_self)
  have hown : s.vm.findClass RL = some m.cls := findClass_of_methodNamed B.named
  have hlocks := B.notSynchronized
  subst hsz
  have hD := hD0.self (sz := s.heap.size)
  generalize hAe : va_A [(x, .inr (7, [.ref bx, .ref po, .ref tr, .ref pa, .ref sp])), (bx, .inr (2, [.ref b0, .ref b1, .int 0, .int 0, .ref b4, .int 0, .ref b6, .int 0, .int 0, .int 0, .int 0]))] s.heap.size = A at hD hXs ⊢
  have hA : ∀ q : Nat, s.heap.size ≤ q → A q := fun q h => by rw [← hAe]; exact Or.inr h
  have hS : va_S A s.heap s.heap [] := va_S.rf
  have hP : va_P (dC, dI) vwCl [(x, .inr (7, [.ref bx, .ref po, .ref tr, .ref pa, .ref sp])), (bx, .inr (2, [.ref b0, .ref b1, .int 0, .int 0, .ref b4, .int 0, .ref b6, .int 0, .int 0, .int 0, .int 0]))] s.heap := hP
  have hK : va_K (dC, dI) vwCl [] s := hK
  have hl := lv_entry ([.ref x, .int a0, .int a1, .ref ou]) (n := 5) (Nat.le_of_ble_eq_true rfl)
  rw [lg_entry_eq]
  generalize (lg_sl ([.ref x, .int a0, .int a1, .ref ou]) ++ List.replicate (5 - (lg_sl ([.ref x, .int a0, .int a1, .ref ou])).length) Slot.unset).toArray = ls at hl ⊢
  have hl : lv_has ls 5 [(0, .ref x), (1, .int a0), (2, .int a1), (3, .ref ou)] := hl
  refine lv_aload_n hx hb dL_coalition_0 rfl (lv_at hl 3 rfl) ?_
  refine lv_iconst (v := 0) hx hb dL_coalition_1 (by decide) ?_
  refine lv_aload_n hx hb dL_coalition_2 rfl (lv_at hl 0 rfl) ?_
  refine lv_iload_n hx hb dL_coalition_3 rfl (lv_at hl 1 rfl) ?_
  refine lv_iload_n hx hb dL_coalition_4 rfl (lv_at hl 2 rfl) ?_
  have hPc := hP.sub (ws' := [(x, .inr (7, [.ref bx, .ref po, .ref tr, .ref pa, .ref sp])), (bx, .inr (2, [.ref b0, .ref b1, .int 0, .int 0, .ref b4, .int 0, .ref b6, .int 0, .int 0, .int 0, .int 0]))]) [0, 1] rfl
  have hDc := hD.sub (ws' := [(x, .inr (7, [.ref bx, .ref po, .ref tr, .ref pa, .ref sp])), (bx, .inr (2, [.ref b0, .ref b1, .int 0, .int 0, .ref b4, .int 0, .ref b6, .int 0, .int 0, .int 0, .int 0]))]) [0, 1] (by decide) rfl
  have hKc := hK.sub (tys' := []) [] rfl
  have hFc := va_free (wc := [(x, .inr (7, [.ref bx, .ref po, .ref tr, .ref pa, .ref sp])), (bx, .inr (2, [.ref b0, .ref b1, .int 0, .int 0, .ref b4, .int 0, .ref b6, .int 0, .int 0, .int 0, .int 0]))]) hD hS hA [0, 1] rfl
  refine vx_calli (vx_runV (As := [.int a0, .int a1]) (rest := [.int 0, .ref ou]) ⟨hx, hb, hml, hown, hts⟩ (cx1_X5_coalition l hfl dC dI x po tr sp pa bx b0 b1 b4 b6 a0 a1 tx sa _ g0a g0b hbd) (cwV 2 hts gL_coalition_X5_coalition rfl rfl rfl (by decide +kernel) ⟨Nat.le_of_ble_eq_true rfl, Nat.le_of_ble_eq_true rfl⟩) ⟨px_blind, va_recv hKc hPc (ci := 7) (q0 := 0) rfl rfl, fun U hU hW => ⟨rfl, pr_mk hU hW hPc hKc hDc, xs_mk hU hW hS hFc hXs⟩⟩ rfl rfl hl.1 rfl (lv_room (Nat.le_of_ble_eq_true rfl)) dL_coalition_5 ⟨Nat.le_of_ble_eq_true rfl, Nat.le_of_ble_eq_true rfl⟩) hS (fun q _ h => hFc q h) hFc (fun q _ h => hFc q h) (fun E ce q9 u t H1 locs1 ht hvm hpx hB hz1 hk1 hS1 hce hcv hcl => ?_) (fun r u t H1 locs1 ht hvm hw hB hz1 hk1 hS1 => hw.elim)
  obtain rfl : E = "java/lang/IllegalArgumentException" := hB
  refine vx_catch (own := RL) (name := "java/lang/IllegalArgumentException") hown [] ⟨0, 10, 13, 13⟩ [] (htb.trans rfl) (fun _ hz => nomatch hz) (by decide) (by decide) (hts (.classLink RL 13 "java/lang/IllegalArgumentException") (by decide +kernel)) (va_Nw.use rfl hXs.2.2.2.1) hce hcv hcl ?_
  have hP := va_Pn (D := (dC, dI)) (cl := vwCl) H1
  have hD := va_Dn A
  have hS := hS1
  refine W.widen (k := 1) (n := 6) (Nat.le_of_ble_eq_true rfl) (Nat.le_of_ble_eq_true rfl) ?_
  refine lv_astore (lv' := [(4, .ref q9), (0, .ref x), (1, .int a0), (2, .int a1), (3, .ref ou)]) hx hb dL_coalition_13 hl (by decide) rfl (fun ls hl => ?_)
  refine lv_iconst (v := 1) hx hb dL_coalition_15 (by decide) ?_
  have hP9 := hP.sub (ws' := []) [] rfl
  have hD9 := hD.sub (ws' := []) [] (by decide) rfl
  have hK9 := hK.sub (tys' := []) [] rfl
  refine W.widen (k := 1) (n := 6) (Nat.le_of_ble_eq_true rfl) (Nat.le_of_ble_eq_true rfl) ?_
  exact W.iret (v := 1) hx hb hr (fun t ht hW => ⟨⟨1, (), rfl, rfl, po_mk ht hW hP9 hK9 hD9⟩, hS.F ht⟩) hS.2.2 dL_coalition_16

set_option maxHeartbeats 4000000 in
set_option maxRecDepth 100000 in
theorem h0_L_gap (l : Launch) (hfl : l.stackTraces = false) (dC : Nat → ClassId) (dI : Nat → Nat → Nat) (x : Nat) (po : Nat) (tr : Nat) (sp : Nat) (pa : Nat) (bx : Nat) (b0 : Nat) (b1 : Nat) (b4 : Nat) (b6 : Nat) (a0 : Int32) (a1 : Int32) (ou : Nat) (tx : String) (sa : Nat) (sz : Nat) (hbd : a0 < 0 ∨ 4 ≤ a0) : Met l yL_gap wsL_gap ({ frames := 9, cells := 1, slots := 6, locals := 154 }) (va_Pc [.ref x, .int a0, .int a1, .ref ou] (fun U => pr_ dC dI [(x, .inr (7, [.ref bx, .ref po, .ref tr, .ref pa, .ref sp])), (bx, .inr (2, [.ref b0, .ref b1, .int 0, .int 0, .ref b4, .int 0, .ref b6, .int 0, .int 0, .int 0, .int 0]))] [] sz U ∧ xs_ (va_A [(x, .inr (7, [.ref bx, .ref po, .ref tr, .ref pa, .ref sp])), (bx, .inr (2, [.ref b0, .ref b1, .int 0, .int 0, .ref b4, .int 0, .ref b6, .int 0, .int 0, .int 0, .int 0]))] sz) 50 tx sa "java/lang/IndexOutOfBoundsException" U ∧ True)) (va_Qi (fun (r : Int32) (_ : Unit) => r = 1) (fun (_ : Unit) t => po_ dC dI [] [] (va_A [(x, .inr (7, [.ref bx, .ref po, .ref tr, .ref pa, .ref sp])), (bx, .inr (2, [.ref b0, .ref b1, .int 0, .int 0, .ref b4, .int 0, .ref b6, .int 0, .int 0, .int 0, .int 0]))] sz) t) (va_A [(x, .inr (7, [.ref bx, .ref po, .ref tr, .ref pa, .ref sp])), (bx, .inr (2, [.ref b0, .ref b1, .int 0, .int 0, .ref b4, .int 0, .ref b6, .int 0, .int 0, .int 0, .int 0]))] sz)) 1 6 (va_A [(x, .inr (7, [.ref bx, .ref po, .ref tr, .ref pa, .ref sp])), (bx, .inr (2, [.ref b0, .ref b1, .int 0, .int 0, .ref b4, .int 0, .ref b6, .int 0, .int 0, .int 0, .int 0]))] sz) := by
  refine va_MetW (cc := cL_gap) (maxL := 5) (ret := (some .int)) (by decide) rfl ?_
  intro p e s m args below meth c s₁ B hml hv
  obtain ⟨rfl, ⟨hsz, hP, hK, hD0⟩, hXs, hNc⟩ := hv
  have hx := B.exec
  have hb := B.bytes
  have hr := B.returns
  have hts := atoms_spec (ws := wsL_gap) B.pre
  have htb : c.exceptionTable.toList = tableOf [(0, 9, 12, 20)] := vx_table (x := yL_gap) B (hts _ List.mem_cons_self)
  have hown : s.vm.findClass RL = some m.cls := findClass_of_methodNamed B.named
  have hlocks := B.notSynchronized
  subst hsz
  have hD := hD0.self (sz := s.heap.size)
  generalize hAe : va_A [(x, .inr (7, [.ref bx, .ref po, .ref tr, .ref pa, .ref sp])), (bx, .inr (2, [.ref b0, .ref b1, .int 0, .int 0, .ref b4, .int 0, .ref b6, .int 0, .int 0, .int 0, .int 0]))] s.heap.size = A at hD hXs ⊢
  have hA : ∀ q : Nat, s.heap.size ≤ q → A q := fun q h => by rw [← hAe]; exact Or.inr h
  have hS : va_S A s.heap s.heap [] := va_S.rf
  have hP : va_P (dC, dI) vwCl [(x, .inr (7, [.ref bx, .ref po, .ref tr, .ref pa, .ref sp])), (bx, .inr (2, [.ref b0, .ref b1, .int 0, .int 0, .ref b4, .int 0, .ref b6, .int 0, .int 0, .int 0, .int 0]))] s.heap := hP
  have hK : va_K (dC, dI) vwCl [] s := hK
  have hl := lv_entry ([.ref x, .int a0, .int a1, .ref ou]) (n := 5) (Nat.le_of_ble_eq_true rfl)
  rw [lg_entry_eq]
  generalize (lg_sl ([.ref x, .int a0, .int a1, .ref ou]) ++ List.replicate (5 - (lg_sl ([.ref x, .int a0, .int a1, .ref ou])).length) Slot.unset).toArray = ls at hl ⊢
  have hl : lv_has ls 5 [(0, .ref x), (1, .int a0), (2, .int a1), (3, .ref ou)] := hl
  refine lv_aload_n hx hb dL_gap_0 rfl (lv_at hl 3 rfl) ?_
  refine lv_iconst (v := 0) hx hb dL_gap_1 (by decide) ?_
  refine lv_aload_n hx hb dL_gap_2 rfl (lv_at hl 0 rfl) ?_
  refine lv_iload_n hx hb dL_gap_3 rfl (lv_at hl 1 rfl) ?_
  refine lv_iload_n hx hb dL_gap_4 rfl (lv_at hl 2 rfl) ?_
  have hPc := hP.sub (ws' := [(x, .inr (7, [.ref bx, .ref po, .ref tr, .ref pa, .ref sp])), (bx, .inr (2, [.ref b0, .ref b1, .int 0, .int 0, .ref b4, .int 0, .ref b6, .int 0, .int 0, .int 0, .int 0]))]) [0, 1] rfl
  have hDc := hD.sub (ws' := [(x, .inr (7, [.ref bx, .ref po, .ref tr, .ref pa, .ref sp])), (bx, .inr (2, [.ref b0, .ref b1, .int 0, .int 0, .ref b4, .int 0, .ref b6, .int 0, .int 0, .int 0, .int 0]))]) [0, 1] (by decide) rfl
  have hKc := hK.sub (tys' := []) [] rfl
  have hFc := va_free (wc := [(x, .inr (7, [.ref bx, .ref po, .ref tr, .ref pa, .ref sp])), (bx, .inr (2, [.ref b0, .ref b1, .int 0, .int 0, .ref b4, .int 0, .ref b6, .int 0, .int 0, .int 0, .int 0]))]) hD hS hA [0, 1] rfl
  refine vx_calld (vx_runV (As := [.int a0, .int a1]) (rest := [.int 0, .ref ou]) ⟨hx, hb, hml, hown, hts⟩ (cx0_X5_gap l hfl dC dI x po tr sp pa bx b0 b1 b4 b6 a0 a1 tx sa _ hbd) (cwV 2 hts gL_gap_X5_gap rfl rfl rfl (by decide +kernel) ⟨Nat.le_of_ble_eq_true rfl, Nat.le_of_ble_eq_true rfl⟩) ⟨px_blind, va_recv hKc hPc (ci := 7) (q0 := 0) rfl rfl, fun U hU hW => ⟨rfl, pr_mk hU hW hPc hKc hDc, xs_mk hU hW hS hFc hXs⟩⟩ rfl rfl hl.1 rfl (lv_room (Nat.le_of_ble_eq_true rfl)) dL_gap_5 ⟨Nat.le_of_ble_eq_true rfl, Nat.le_of_ble_eq_true rfl⟩) hS (fun q _ h => hFc q h) hFc (fun q _ h => hFc q h) (fun E ce q9 u t H1 locs1 ht hvm hpx hB hz1 hk1 hS1 hce hcv hcl => ?_) (fun r u t H1 locs1 ht hvm hw hB hz1 hk1 hS1 => hw.elim)
  obtain rfl : E = "java/lang/IndexOutOfBoundsException" := hB
  refine vx_catch (own := RL) (name := "java/lang/IndexOutOfBoundsException") hown [] ⟨0, 9, 12, 20⟩ [] (htb.trans rfl) (fun _ hz => nomatch hz) (by decide) (by decide) (hts (.classLink RL 20 "java/lang/IndexOutOfBoundsException") (by decide +kernel)) (va_Nw.use rfl hXs.2.2.2.1) hce hcv hcl ?_
  have hP := va_Pn (D := (dC, dI)) (cl := vwCl) H1
  have hD := va_Dn A
  have hS := hS1
  refine W.widen (k := 1) (n := 6) (Nat.le_of_ble_eq_true rfl) (Nat.le_of_ble_eq_true rfl) ?_
  refine lv_astore (lv' := [(4, .ref q9), (0, .ref x), (1, .int a0), (2, .int a1), (3, .ref ou)]) hx hb dL_gap_12 hl (by decide) rfl (fun ls hl => ?_)
  refine lv_iconst (v := 1) hx hb dL_gap_14 (by decide) ?_
  have hP9 := hP.sub (ws' := []) [] rfl
  have hD9 := hD.sub (ws' := []) [] (by decide) rfl
  have hK9 := hK.sub (tys' := []) [] rfl
  refine W.widen (k := 1) (n := 6) (Nat.le_of_ble_eq_true rfl) (Nat.le_of_ble_eq_true rfl) ?_
  exact W.iret (v := 1) hx hb hr (fun t ht hW => ⟨⟨1, (), rfl, rfl, po_mk ht hW hP9 hK9 hD9⟩, hS.F ht⟩) hS.2.2 dL_gap_15

set_option maxHeartbeats 4000000 in
set_option maxRecDepth 100000 in
theorem h1_L_gap (l : Launch) (hfl : l.stackTraces = false) (dC : Nat → ClassId) (dI : Nat → Nat → Nat) (x : Nat) (po : Nat) (tr : Nat) (sp : Nat) (pa : Nat) (bx : Nat) (b0 : Nat) (b1 : Nat) (b4 : Nat) (b6 : Nat) (a0 : Int32) (a1 : Int32) (ou : Nat) (tx : String) (sa : Nat) (sz : Nat) (g0a : ¬ a0 < 0) (g0b : ¬ 4 ≤ a0) (hbd : a1 < 0 ∨ 4 ≤ a1) : Met l yL_gap wsL_gap ({ frames := 9, cells := 1, slots := 6, locals := 154 }) (va_Pc [.ref x, .int a0, .int a1, .ref ou] (fun U => pr_ dC dI [(x, .inr (7, [.ref bx, .ref po, .ref tr, .ref pa, .ref sp])), (bx, .inr (2, [.ref b0, .ref b1, .int 0, .int 0, .ref b4, .int 0, .ref b6, .int 0, .int 0, .int 0, .int 0]))] [] sz U ∧ xs_ (va_A [(x, .inr (7, [.ref bx, .ref po, .ref tr, .ref pa, .ref sp])), (bx, .inr (2, [.ref b0, .ref b1, .int 0, .int 0, .ref b4, .int 0, .ref b6, .int 0, .int 0, .int 0, .int 0]))] sz) 50 tx sa "java/lang/IndexOutOfBoundsException" U ∧ True)) (va_Qi (fun (r : Int32) (_ : Unit) => r = 1) (fun (_ : Unit) t => po_ dC dI [] [] (va_A [(x, .inr (7, [.ref bx, .ref po, .ref tr, .ref pa, .ref sp])), (bx, .inr (2, [.ref b0, .ref b1, .int 0, .int 0, .ref b4, .int 0, .ref b6, .int 0, .int 0, .int 0, .int 0]))] sz) t) (va_A [(x, .inr (7, [.ref bx, .ref po, .ref tr, .ref pa, .ref sp])), (bx, .inr (2, [.ref b0, .ref b1, .int 0, .int 0, .ref b4, .int 0, .ref b6, .int 0, .int 0, .int 0, .int 0]))] sz)) 1 6 (va_A [(x, .inr (7, [.ref bx, .ref po, .ref tr, .ref pa, .ref sp])), (bx, .inr (2, [.ref b0, .ref b1, .int 0, .int 0, .ref b4, .int 0, .ref b6, .int 0, .int 0, .int 0, .int 0]))] sz) := by
  refine va_MetW (cc := cL_gap) (maxL := 5) (ret := (some .int)) (by decide) rfl ?_
  intro p e s m args below meth c s₁ B hml hv
  obtain ⟨rfl, ⟨hsz, hP, hK, hD0⟩, hXs, hNc⟩ := hv
  have hx := B.exec
  have hb := B.bytes
  have hr := B.returns
  have hts := atoms_spec (ws := wsL_gap) B.pre
  have htb : c.exceptionTable.toList = tableOf [(0, 9, 12, 20)] := vx_table (x := yL_gap) B (hts _ List.mem_cons_self)
  have hown : s.vm.findClass RL = some m.cls := findClass_of_methodNamed B.named
  have hlocks := B.notSynchronized
  subst hsz
  have hD := hD0.self (sz := s.heap.size)
  generalize hAe : va_A [(x, .inr (7, [.ref bx, .ref po, .ref tr, .ref pa, .ref sp])), (bx, .inr (2, [.ref b0, .ref b1, .int 0, .int 0, .ref b4, .int 0, .ref b6, .int 0, .int 0, .int 0, .int 0]))] s.heap.size = A at hD hXs ⊢
  have hA : ∀ q : Nat, s.heap.size ≤ q → A q := fun q h => by rw [← hAe]; exact Or.inr h
  have hS : va_S A s.heap s.heap [] := va_S.rf
  have hP : va_P (dC, dI) vwCl [(x, .inr (7, [.ref bx, .ref po, .ref tr, .ref pa, .ref sp])), (bx, .inr (2, [.ref b0, .ref b1, .int 0, .int 0, .ref b4, .int 0, .ref b6, .int 0, .int 0, .int 0, .int 0]))] s.heap := hP
  have hK : va_K (dC, dI) vwCl [] s := hK
  have hl := lv_entry ([.ref x, .int a0, .int a1, .ref ou]) (n := 5) (Nat.le_of_ble_eq_true rfl)
  rw [lg_entry_eq]
  generalize (lg_sl ([.ref x, .int a0, .int a1, .ref ou]) ++ List.replicate (5 - (lg_sl ([.ref x, .int a0, .int a1, .ref ou])).length) Slot.unset).toArray = ls at hl ⊢
  have hl : lv_has ls 5 [(0, .ref x), (1, .int a0), (2, .int a1), (3, .ref ou)] := hl
  refine lv_aload_n hx hb dL_gap_0 rfl (lv_at hl 3 rfl) ?_
  refine lv_iconst (v := 0) hx hb dL_gap_1 (by decide) ?_
  refine lv_aload_n hx hb dL_gap_2 rfl (lv_at hl 0 rfl) ?_
  refine lv_iload_n hx hb dL_gap_3 rfl (lv_at hl 1 rfl) ?_
  refine lv_iload_n hx hb dL_gap_4 rfl (lv_at hl 2 rfl) ?_
  have hPc := hP.sub (ws' := [(x, .inr (7, [.ref bx, .ref po, .ref tr, .ref pa, .ref sp])), (bx, .inr (2, [.ref b0, .ref b1, .int 0, .int 0, .ref b4, .int 0, .ref b6, .int 0, .int 0, .int 0, .int 0]))]) [0, 1] rfl
  have hDc := hD.sub (ws' := [(x, .inr (7, [.ref bx, .ref po, .ref tr, .ref pa, .ref sp])), (bx, .inr (2, [.ref b0, .ref b1, .int 0, .int 0, .ref b4, .int 0, .ref b6, .int 0, .int 0, .int 0, .int 0]))]) [0, 1] (by decide) rfl
  have hKc := hK.sub (tys' := []) [] rfl
  have hFc := va_free (wc := [(x, .inr (7, [.ref bx, .ref po, .ref tr, .ref pa, .ref sp])), (bx, .inr (2, [.ref b0, .ref b1, .int 0, .int 0, .ref b4, .int 0, .ref b6, .int 0, .int 0, .int 0, .int 0]))]) hD hS hA [0, 1] rfl
  refine vx_calld (vx_runV (As := [.int a0, .int a1]) (rest := [.int 0, .ref ou]) ⟨hx, hb, hml, hown, hts⟩ (cx1_X5_gap l hfl dC dI x po tr sp pa bx b0 b1 b4 b6 a0 a1 tx sa _ g0a g0b hbd) (cwV 2 hts gL_gap_X5_gap rfl rfl rfl (by decide +kernel) ⟨Nat.le_of_ble_eq_true rfl, Nat.le_of_ble_eq_true rfl⟩) ⟨px_blind, va_recv hKc hPc (ci := 7) (q0 := 0) rfl rfl, fun U hU hW => ⟨rfl, pr_mk hU hW hPc hKc hDc, xs_mk hU hW hS hFc hXs⟩⟩ rfl rfl hl.1 rfl (lv_room (Nat.le_of_ble_eq_true rfl)) dL_gap_5 ⟨Nat.le_of_ble_eq_true rfl, Nat.le_of_ble_eq_true rfl⟩) hS (fun q _ h => hFc q h) hFc (fun q _ h => hFc q h) (fun E ce q9 u t H1 locs1 ht hvm hpx hB hz1 hk1 hS1 hce hcv hcl => ?_) (fun r u t H1 locs1 ht hvm hw hB hz1 hk1 hS1 => hw.elim)
  obtain rfl : E = "java/lang/IndexOutOfBoundsException" := hB
  refine vx_catch (own := RL) (name := "java/lang/IndexOutOfBoundsException") hown [] ⟨0, 9, 12, 20⟩ [] (htb.trans rfl) (fun _ hz => nomatch hz) (by decide) (by decide) (hts (.classLink RL 20 "java/lang/IndexOutOfBoundsException") (by decide +kernel)) (va_Nw.use rfl hXs.2.2.2.1) hce hcv hcl ?_
  have hP := va_Pn (D := (dC, dI)) (cl := vwCl) H1
  have hD := va_Dn A
  have hS := hS1
  refine W.widen (k := 1) (n := 6) (Nat.le_of_ble_eq_true rfl) (Nat.le_of_ble_eq_true rfl) ?_
  refine lv_astore (lv' := [(4, .ref q9), (0, .ref x), (1, .int a0), (2, .int a1), (3, .ref ou)]) hx hb dL_gap_12 hl (by decide) rfl (fun ls hl => ?_)
  refine lv_iconst (v := 1) hx hb dL_gap_14 (by decide) ?_
  have hP9 := hP.sub (ws' := []) [] rfl
  have hD9 := hD.sub (ws' := []) [] (by decide) rfl
  have hK9 := hK.sub (tys' := []) [] rfl
  refine W.widen (k := 1) (n := 6) (Nat.le_of_ble_eq_true rfl) (Nat.le_of_ble_eq_true rfl) ?_
  exact W.iret (v := 1) hx hb hr (fun t ht hW => ⟨⟨1, (), rfl, rfl, po_mk ht hW hP9 hK9 hD9⟩, hS.F ht⟩) hS.2.2 dL_gap_15

set_option maxHeartbeats 4000000 in
set_option maxRecDepth 100000 in
theorem h0_L_many (l : Launch) (hfl : l.stackTraces = false) (dC : Nat → ClassId) (dI : Nat → Nat → Nat) (x : Nat) (po : Nat) (tr : Nat) (sp : Nat) (pa : Nat) (bx : Nat) (b0 : Nat) (b1 : Nat) (b4 : Nat) (b6 : Nat) (a0 : Int32) (ou : Nat) (tx : String) (sa : Nat) (sz : Nat) (hbd : a0 < 0 ∨ ¬ a0 ≤ 9) : Met l yL_many wsL_many ({ frames := 9, cells := 1, slots := 6, locals := 151 }) (va_Pc [.ref x, .int a0, .ref ou] (fun U => pr_ dC dI [(x, .inr (7, [.ref bx, .ref po, .ref tr, .ref pa, .ref sp])), (bx, .inr (2, [.ref b0, .ref b1, .int 0, .int 0, .ref b4, .int 0, .ref b6, .int 0, .int 0, .int 0, .int 0]))] [] sz U ∧ xs_ (va_A [(x, .inr (7, [.ref bx, .ref po, .ref tr, .ref pa, .ref sp])), (bx, .inr (2, [.ref b0, .ref b1, .int 0, .int 0, .ref b4, .int 0, .ref b6, .int 0, .int 0, .int 0, .int 0]))] sz) 308 tx sa "java/lang/IllegalArgumentException" U ∧ True)) (va_Qi (fun (r : Int32) (_ : Unit) => r = 1) (fun (_ : Unit) t => po_ dC dI [] [] (va_A [(x, .inr (7, [.ref bx, .ref po, .ref tr, .ref pa, .ref sp])), (bx, .inr (2, [.ref b0, .ref b1, .int 0, .int 0, .ref b4, .int 0, .ref b6, .int 0, .int 0, .int 0, .int 0]))] sz) t) (va_A [(x, .inr (7, [.ref bx, .ref po, .ref tr, .ref pa, .ref sp])), (bx, .inr (2, [.ref b0, .ref b1, .int 0, .int 0, .ref b4, .int 0, .ref b6, .int 0, .int 0, .int 0, .int 0]))] sz)) 1 6 (va_A [(x, .inr (7, [.ref bx, .ref po, .ref tr, .ref pa, .ref sp])), (bx, .inr (2, [.ref b0, .ref b1, .int 0, .int 0, .ref b4, .int 0, .ref b6, .int 0, .int 0, .int 0, .int 0]))] sz) := by
  refine va_MetW (cc := cL_many) (maxL := 4) (ret := (some .int)) (by decide) rfl ?_
  intro p e s m args below meth c s₁ B hml hv
  obtain ⟨rfl, ⟨hsz, hP, hK, hD0⟩, hXs, hNc⟩ := hv
  have hx := B.exec
  have hb := B.bytes
  have hr := B.returns
  have hts := atoms_spec (ws := wsL_many) B.pre
  have htb : c.exceptionTable.toList = tableOf [(0, 9, 12, 13)] := vx_table (x := yL_many) B (hts _ List.mem_cons_self)
  have hown : s.vm.findClass RL = some m.cls := findClass_of_methodNamed B.named
  have hlocks := B.notSynchronized
  subst hsz
  have hD := hD0.self (sz := s.heap.size)
  generalize hAe : va_A [(x, .inr (7, [.ref bx, .ref po, .ref tr, .ref pa, .ref sp])), (bx, .inr (2, [.ref b0, .ref b1, .int 0, .int 0, .ref b4, .int 0, .ref b6, .int 0, .int 0, .int 0, .int 0]))] s.heap.size = A at hD hXs ⊢
  have hA : ∀ q : Nat, s.heap.size ≤ q → A q := fun q h => by rw [← hAe]; exact Or.inr h
  have hS : va_S A s.heap s.heap [] := va_S.rf
  have hP : va_P (dC, dI) vwCl [(x, .inr (7, [.ref bx, .ref po, .ref tr, .ref pa, .ref sp])), (bx, .inr (2, [.ref b0, .ref b1, .int 0, .int 0, .ref b4, .int 0, .ref b6, .int 0, .int 0, .int 0, .int 0]))] s.heap := hP
  have hK : va_K (dC, dI) vwCl [] s := hK
  have hl := lv_entry ([.ref x, .int a0, .ref ou]) (n := 4) (Nat.le_of_ble_eq_true rfl)
  rw [lg_entry_eq]
  generalize (lg_sl ([.ref x, .int a0, .ref ou]) ++ List.replicate (4 - (lg_sl ([.ref x, .int a0, .ref ou])).length) Slot.unset).toArray = ls at hl ⊢
  have hl : lv_has ls 4 [(0, .ref x), (1, .int a0), (2, .ref ou)] := hl
  refine lv_aload_n hx hb dL_many_0 rfl (lv_at hl 2 rfl) ?_
  refine lv_iconst (v := 0) hx hb dL_many_1 (by decide) ?_
  refine lv_aload_n hx hb dL_many_2 rfl (lv_at hl 0 rfl) ?_
  refine lv_iload_n hx hb dL_many_3 rfl (lv_at hl 1 rfl) ?_
  have hPc := hP.sub (ws' := [(x, .inr (7, [.ref bx, .ref po, .ref tr, .ref pa, .ref sp])), (bx, .inr (2, [.ref b0, .ref b1, .int 0, .int 0, .ref b4, .int 0, .ref b6, .int 0, .int 0, .int 0, .int 0]))]) [0, 1] rfl
  have hDc := hD.sub (ws' := [(x, .inr (7, [.ref bx, .ref po, .ref tr, .ref pa, .ref sp])), (bx, .inr (2, [.ref b0, .ref b1, .int 0, .int 0, .ref b4, .int 0, .ref b6, .int 0, .int 0, .int 0, .int 0]))]) [0, 1] (by decide) rfl
  have hKc := hK.sub (tys' := []) [] rfl
  have hFc := va_free (wc := [(x, .inr (7, [.ref bx, .ref po, .ref tr, .ref pa, .ref sp])), (bx, .inr (2, [.ref b0, .ref b1, .int 0, .int 0, .ref b4, .int 0, .ref b6, .int 0, .int 0, .int 0, .int 0]))]) hD hS hA [0, 1] rfl
  refine vx_calli (vx_runV (As := [.int a0]) (rest := [.int 0, .ref ou]) ⟨hx, hb, hml, hown, hts⟩ (cx0_X5_many l hfl dC dI x po tr sp pa bx b0 b1 b4 b6 a0 tx sa _ hbd) (cwV 1 hts gL_many_X5_many rfl rfl rfl (by decide +kernel) ⟨Nat.le_of_ble_eq_true rfl, Nat.le_of_ble_eq_true rfl⟩) ⟨px_blind, va_recv hKc hPc (ci := 7) (q0 := 0) rfl rfl, fun U hU hW => ⟨rfl, pr_mk hU hW hPc hKc hDc, xs_mk hU hW hS hFc hXs⟩⟩ rfl rfl hl.1 rfl (lv_room (Nat.le_of_ble_eq_true rfl)) dL_many_4 ⟨Nat.le_of_ble_eq_true rfl, Nat.le_of_ble_eq_true rfl⟩) hS (fun q _ h => hFc q h) hFc (fun q _ h => hFc q h) (fun E ce q9 u t H1 locs1 ht hvm hpx hB hz1 hk1 hS1 hce hcv hcl => ?_) (fun r u t H1 locs1 ht hvm hw hB hz1 hk1 hS1 => hw.elim)
  obtain rfl : E = "java/lang/IllegalArgumentException" := hB
  refine vx_catch (own := RL) (name := "java/lang/IllegalArgumentException") hown [] ⟨0, 9, 12, 13⟩ [] (htb.trans rfl) (fun _ hz => nomatch hz) (by decide) (by decide) (hts (.classLink RL 13 "java/lang/IllegalArgumentException") (by decide +kernel)) (va_Nw.use rfl hXs.2.2.2.1) hce hcv hcl ?_
  have hP := va_Pn (D := (dC, dI)) (cl := vwCl) H1
  have hD := va_Dn A
  have hS := hS1
  refine W.widen (k := 1) (n := 6) (Nat.le_of_ble_eq_true rfl) (Nat.le_of_ble_eq_true rfl) ?_
  refine lv_astore_n (lv' := [(3, .ref q9), (0, .ref x), (1, .int a0), (2, .ref ou)]) hx hb dL_many_12 rfl hl (by decide) rfl (fun ls hl => ?_)
  refine lv_iconst (v := 1) hx hb dL_many_13 (by decide) ?_
  have hP9 := hP.sub (ws' := []) [] rfl
  have hD9 := hD.sub (ws' := []) [] (by decide) rfl
  have hK9 := hK.sub (tys' := []) [] rfl
  refine W.widen (k := 1) (n := 6) (Nat.le_of_ble_eq_true rfl) (Nat.le_of_ble_eq_true rfl) ?_
  exact W.iret (v := 1) hx hb hr (fun t ht hW => ⟨⟨1, (), rfl, rfl, po_mk ht hW hP9 hK9 hD9⟩, hS.F ht⟩) hS.2.2 dL_many_14
