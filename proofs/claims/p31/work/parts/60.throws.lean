/-! p31: what a throw needs beside its cells. -/
def dn_ (U : State) : Prop := va_Nw (.declares ⟨"java/lang/RuntimeException", "<init>", "(Ljava/lang/String;)V"⟩) U ∧ va_Nw (.declares ⟨"java/lang/Exception", "<init>", "(Ljava/lang/String;)V"⟩) U ∧ va_Nw (.declares ⟨"java/lang/Throwable", "<init>", "(Ljava/lang/String;)V"⟩) U
theorem dn_bl (U : State) (g : JFrame) (mk : MethodId) (a : Array Value) (h : dn_ U) : dn_ (U.calling g mk a) := ⟨va_Nw.same (u := U) (U := U.calling g mk a) rfl rfl h.1, va_Nw.same (u := U) (U := U.calling g mk a) rfl rfl h.2.1, va_Nw.same (u := U) (U := U.calling g mk a) rfl rfl h.2.2⟩
theorem dn_mk {s U : State} (hW : s.WarmedH U.vm) (h : dn_ s) : dn_ U := ⟨va_Nw.warmD hW h.1, va_Nw.warmD hW h.2.1, va_Nw.warmD hW h.2.2⟩
def xs_ (A : Nat → Prop) (is : Nat) (tx : String) (sa : Nat) (E : String) (U : State) : Prop := vx_Zq Bundle.tN "UNASSIGNED_STACK" Bundle.steD A U U.heap ∧ vx_Zq Bundle.tN "SUPPRESSED_SENTINEL" Bundle.listD A U U.heap ∧ vk_R RX5 is tx sa U ∧ va_Nw (.castable E E) U ∧ dn_ U
theorem px_blind {dC : Nat → ClassId} {dI : Nat → Nat → Nat} {ws : va_W} {tys : List (ClassId × FieldType)} {sz : Nat} {av : List Value} {A : Nat → Prop} {is sa : Nat} {tx E : String} : FrameBlind (va_Pc av (fun U => pr_ dC dI ws tys sz U ∧ xs_ A is tx sa E U)) := fun a U g mk q => by
  obtain ⟨q0, ⟨q1, qP, qK, qD⟩, x1, x2, x3, x4, x5⟩ := q
  exact ⟨q0, ⟨q1, qP, va_K.moved (u := U) (U := U.calling g mk a) (Vm.Alike.refl U.vm) qK, qD⟩, vx_Zq.moved (u := U) (U := U.calling g mk a) (Vm.Alike.refl U.vm) x1, vx_Zq.moved (u := U) (U := U.calling g mk a) (Vm.Alike.refl U.vm) x2, vk_R.same (u := U) (U := U.calling g mk a) rfl x3, va_Nw.same (u := U) (U := U.calling g mk a) rfl rfl x4, dn_bl U g mk a x5⟩
theorem xs_mk {A A1 : Nat → Prop} {is sa : Nat} {tx E : String} {s U : State} {H : Heap} {locs : List Loc} (hU : U.heap = H) (hW : s.WarmedH U.vm) (hS : va_S A s.heap H locs) (hF : ∀ q, A1 q → A q) (h : xs_ A is tx sa E s) : xs_ A1 is tx sa E U := by
  obtain ⟨x1, x2, x3, x4, x5⟩ := h
  exact ⟨by rw [hU]; exact vx_Zq.moved hW.alike ((x1.kept hS.2.1).narrow hF), by rw [hU]; exact vx_Zq.moved hW.alike ((x2.kept hS.2.1).narrow hF), vk_R.warm hW x3, va_Nw.warmC hW x4, dn_mk hW x5⟩
theorem xB_63 : ∀ w ∈ (vx_atS RX5 63 "java/lang/IllegalStateException" ["java/lang/RuntimeException", "java/lang/Exception"]).filter (fun w => !goodWord w), w ∈ [Cond.declares ⟨"java/lang/RuntimeException", "<init>", "(Ljava/lang/String;)V"⟩, Cond.declares ⟨"java/lang/Exception", "<init>", "(Ljava/lang/String;)V"⟩, Cond.declares ⟨"java/lang/Throwable", "<init>", "(Ljava/lang/String;)V"⟩, Cond.castable "java/lang/IllegalStateException" "java/lang/IllegalStateException"] := by decide +kernel
theorem xG0_63 : ∀ w ∈ vx_atS RX5 63 "java/lang/IllegalStateException" ["java/lang/RuntimeException", "java/lang/Exception"], vx_ot w = true := by decide +kernel
theorem xG_63 : ∀ w ∈ Cond.classLink RX5 59 "java/lang/IllegalStateException" :: Cond.initialized "java/lang/IllegalStateException" :: vx_atS RX5 63 "java/lang/IllegalStateException" ["java/lang/RuntimeException", "java/lang/Exception"], vx_ot w = true := List.forall_mem_cons.mpr ⟨rfl, List.forall_mem_cons.mpr ⟨rfl, xG0_63⟩⟩

noncomputable def F_xX5_checkOpen (Z : Mem) : Option Unit :=
  bv (Z.1 1 9) fun y1 => br (y1 = (0 : Int32)) (none) (some ())

set_option maxHeartbeats 4000000 in
set_option maxRecDepth 100000 in
theorem cx_X5_checkOpen (l : Launch) (hfl : l.stackTraces = false) (dC : Nat → ClassId) (dI : Nat → Nat → Nat) (q : Nat → ClassId) (aa : Nat → Nat) (Z : Mem)  (tx : String) (sa : Nat) (sz : Nat) (ro : Unit) (hF : F_xX5_checkOpen Z  = some ro) : vx_Met l yX5_checkOpen wsX5_checkOpen ({ frames := 6, cells := 1, slots := 6, locals := 90 }) (va_Pc [.ref (aa 0)] (fun U => pr_ dC dI (bw q aa Z) (bty q) sz U ∧ xs_ (va_A (bw q aa Z) sz) 316 tx sa "java/lang/IllegalStateException" U)) (va_Qv (fun (_ : Unit) => False) (fun _ _ => True) (va_A (bw q aa Z) sz)) (vx_X (fun _ : Unit => True) (fun E _ t => E = "java/lang/IllegalStateException" ∧ po_ dC dI (bw q aa Z) (bty q) (va_A (bw q aa Z) sz) t) (va_A (bw q aa Z) sz)) 1 6 (va_A (bw q aa Z) sz) := by
  refine vx_ofW (cc := cX5_checkOpen) (maxL := 1) (ret := none) (by decide) rfl ?_
  intro p e s m args below meth c s₁ B hml htb hv
  obtain ⟨hargs, ⟨hsz, hP, hK, hD0⟩, hXs⟩ := hv
  have hx := B.exec
  have hb := B.bytes
  have hr := B.returns
  have hts := atoms_spec (ws := wsX5_checkOpen) B.pre
  have hown : s.vm.findClass RX5 = some m.cls := findClass_of_methodNamed B.named
  have hlocks := B.notSynchronized
  subst hsz
  have hD := hD0.self (sz := s.heap.size)
  generalize hAe : va_A (bw q aa Z) s.heap.size = A at hD hXs ⊢
  have hA : ∀ x : Nat, s.heap.size ≤ x → A x := fun x h => by rw [← hAe]; exact Or.inr h
  have hS : va_S A s.heap s.heap [] := va_S.rf
  have hinX0 : ∀ w ∈ u_ws RX0 TX0 11, w ∈ wsX5_checkOpen := by decide +kernel
  have hinX5 : ∀ w ∈ u_ws RX5 TX5 5, w ∈ wsX5_checkOpen := by decide +kernel
  have hl := lv_entry ([.ref (aa 0)]) (n := 1) (Nat.le_of_ble_eq_true rfl)
  refine w_ent hargs ?_
  rw [lg_entry_eq]
  generalize (lg_sl ([.ref (aa 0)]) ++ List.replicate (1 - (lg_sl ([.ref (aa 0)])).length) Slot.unset).toArray = ls at hl ⊢
  have hl : lv_has ls 1 [(0, .ref (aa 0))] := hl
  unfold F_xX5_checkOpen at hF
  refine lv_aload_n hx hb dX5_checkOpen_0 rfl (lv_at hl 0 rfl) ?_
  refine va_get (D := (dC, dI)) (ci := 7) (v := .ref (aa 1)) (C := RX5) (T := TX5) (N := 5) hx hb hts hinX5 hown hK hP 0 (bw_at (i := 0) (by decide) rfl) rfl 0 (by decide) (hts (.fieldLink RX5 10 "BallotLoom" "box" "LBallotLoom$Box;") (by decide +kernel)) (fun _ h9 => h9) rfl dX5_checkOpen_1 ?_
  refine va_get (D := (dC, dI)) (ci := 2) (v := .int (Z.1 1 9)) (C := RX0) (T := TX0) (N := 11) hx hb hts hinX0 hown hK hP 1 (bw_at (i := 1) (by decide) rfl) rfl 9 (by decide) (hts (.fieldLink RX5 141 "BallotLoom$Box" "isSealed" "Z") (by decide +kernel)) (fun _ h9 => h9) rfl dX5_checkOpen_4 ?_
  refine lv_topi (fun y1 ey1 => ?_)
  have hF := bv_at ey1 hF
  refine lv_if_eq (tgt := 21) hx hb dX5_checkOpen_7 (by decide) (fun hc2 => ?_) (fun hc2 => ?_)
  · have hF := br_pos hc2 hF
    cases hF
  · have hF := br_neg hc2 hF
    exact vx_throwSW (A := A) (names := ["java/lang/RuntimeException", "java/lang/Exception"]) hx hb hfl hown (by decide +kernel) (by decide +kernel) (hts (.classLink RX5 59 "java/lang/IllegalStateException") (by decide +kernel)) (hts (.initialized "java/lang/IllegalStateException") (by decide +kernel)) hXs.2.2.1 (vx_hat (B := [.declares ⟨"java/lang/RuntimeException", "<init>", "(Ljava/lang/String;)V"⟩, .declares ⟨"java/lang/Exception", "<init>", "(Ljava/lang/String;)V"⟩, .declares ⟨"java/lang/Throwable", "<init>", "(Ljava/lang/String;)V"⟩, .castable "java/lang/IllegalStateException" "java/lang/IllegalStateException"]) (fun w h => hts w (List.mem_cons_of_mem _ (List.mem_append_right _ h))) (xB_63) (vx_c (va_Nw.use rfl hXs.2.2.2.2.1) (vx_c (va_Nw.use rfl hXs.2.2.2.2.2.1) (vx_c (va_Nw.use rfl hXs.2.2.2.2.2.2) (vx_c (va_Nw.use rfl hXs.2.2.2.1) vx_n))))) (xG_63) (hXs.1) (hXs.2.1) hS (by rw [hml]; exact hl.1) dX5_checkOpen_10 dX5_checkOpen_13 dX5_checkOpen_14 dX5_checkOpen_17 dX5_checkOpen_20 (fun x hx9 => (htb x hx9).elim) (Nat.lt_of_lt_of_le (by decide : 5 < 6) (Nat.le_of_ble_eq_true rfl)) (Nat.le_of_ble_eq_true rfl) (Nat.le_of_ble_eq_true rfl) (Nat.le_of_ble_eq_true rfl) hlocks (fun t hvm hz9 hk9 => ⟨(), trivial, ⟨rfl, hP.kept (fun k9 r9 hr9 => hk9 r9.1 ((hP k9 r9 hr9).lt)), va_K.moved hvm hK, hD⟩, Nat.le_trans hS.1 hz9, fun q h1 h2 => (hk9 q (Nat.lt_of_lt_of_le h1 hS.1)).trans (hS.2.1 q h1 h2)⟩) hS.2.2 (Nat.le_of_ble_eq_true rfl) (Nat.le_of_ble_eq_true rfl)

noncomputable def F_xX5_cast (Z : Mem) (xa : Int32) (xb : Int32) (xc : Int32) : Option Unit :=
  calp (F_X5_checkDistrict Z xa) fun _ => calp (F_X5_checkRanks Z xb) fun _ => calp (F_X5_checkCount Z xc) fun _ => F_xX5_checkOpen Z

set_option maxHeartbeats 4000000 in
set_option maxRecDepth 100000 in
theorem cx_X5_cast (l : Launch) (hfl : l.stackTraces = false) (dC : Nat → ClassId) (dI : Nat → Nat → Nat) (q : Nat → ClassId) (aa : Nat → Nat) (Z : Mem) (xa : Int32) (xb : Int32) (xc : Int32) (tx : String) (sa : Nat) (sz : Nat) (ro : Unit) (hF : F_xX5_cast Z xa xb xc = some ro) : vx_Met l yX5_cast wsX5_cast ({ frames := 7, cells := 1, slots := 6, locals := 120 }) (va_Pc [.ref (aa 0), .int xa, .int xb, .int xc] (fun U => pr_ dC dI (bw q aa Z) (bty q) sz U ∧ xs_ (va_A (bw q aa Z) sz) 316 tx sa "java/lang/IllegalStateException" U)) (va_Qi (fun (_ : Int32) (_ : Unit) => False) (fun _ _ => True) (va_A (bw q aa Z) sz)) (vx_X (fun _ : Unit => True) (fun E _ t => E = "java/lang/IllegalStateException" ∧ po_ dC dI (bw q aa Z) (bty q) (va_A (bw q aa Z) sz) t) (va_A (bw q aa Z) sz)) 1 6 (va_A (bw q aa Z) sz) := by
  refine vx_ofW (cc := cX5_cast) (maxL := 4) (ret := (some .int)) (by decide) rfl ?_
  intro p e s m args below meth c s₁ B hml htb hv
  obtain ⟨hargs, ⟨hsz, hP, hK, hD0⟩, hXs⟩ := hv
  have hx := B.exec
  have hb := B.bytes
  have hr := B.returns
  have hts := atoms_spec (ws := wsX5_cast) B.pre
  have hown : s.vm.findClass RX5 = some m.cls := findClass_of_methodNamed B.named
  have hlocks := B.notSynchronized
  subst hsz
  have hD := hD0.self (sz := s.heap.size)
  generalize hAe : va_A (bw q aa Z) s.heap.size = A at hD hXs ⊢
  have hA : ∀ x : Nat, s.heap.size ≤ x → A x := fun x h => by rw [← hAe]; exact Or.inr h
  have hS : va_S A s.heap s.heap [] := va_S.rf
  have hl := lv_entry ([.ref (aa 0), .int xa, .int xb, .int xc]) (n := 4) (Nat.le_of_ble_eq_true rfl)
  refine w_ent hargs ?_
  rw [lg_entry_eq]
  generalize (lg_sl ([.ref (aa 0), .int xa, .int xb, .int xc]) ++ List.replicate (4 - (lg_sl ([.ref (aa 0), .int xa, .int xb, .int xc])).length) Slot.unset).toArray = ls at hl ⊢
  have hl : lv_has ls 4 [(0, .ref (aa 0)), (1, .int xa), (2, .int xb), (3, .int xc)] := hl
  unfold F_xX5_cast at hF
  refine lv_aload_n hx hb dX5_cast_0 rfl (lv_at hl 0 rfl) ?_
  refine lv_iload_n hx hb dX5_cast_1 rfl (lv_at hl 1 rfl) ?_
  obtain ⟨_, hC1, hF⟩ := calp_some hF
  have hFc := b_free (ws := bw q aa Z) hD hS hA
  refine va_callv (va_runV (As := [.int xa]) (rest := []) ⟨hx, hb, hml, hown, hts⟩ (c_X5_checkDistrict l dC dI q aa Z xa  _ _  hC1) (cwV 1 hts gX5_cast_X5_checkDistrict rfl rfl rfl (by decide +kernel) ⟨Nat.le_of_ble_eq_true rfl, Nat.le_of_ble_eq_true rfl⟩) ⟨pr_blind, va_recv hK hP (ci := 7) (q0 := 0) rfl (bw_at (i := 0) (by decide) rfl), fun U hU hW => ⟨rfl, pr_mk hU hW hP hK hD⟩⟩ rfl rfl hl.1 rfl (lv_room (Nat.le_of_ble_eq_true rfl)) dX5_cast_2 ⟨Nat.le_of_ble_eq_true rfl, Nat.le_of_ble_eq_true rfl⟩) hS (fun x _ h => hFc x h) hFc (fun u t H1 locs ht hvm hw hB hz1 hk1 hS => ?_)
  obtain ⟨hP, hK1, hD1⟩ := hB
  rw [ht] at hP
  have hD := hD1.weaken (fun _ q9 _ h9 => hFc q9.1 h9)
  clear hFc hD1 hK1 hvm hz1 hk1
  generalize H1 = H at hP hS ⊢
  refine W.widen (k := 0) (n := 0) (Nat.le_refl _) (Nat.le_refl _) ?_
  refine lv_iload_n hx hb dX5_cast_5 rfl (lv_at hl 2 rfl) ?_
  obtain ⟨_, hC3, hF⟩ := calp_some hF
  have hFc := b_free (ws := bw q aa Z) hD hS hA
  refine va_callv (va_runS (As := [.int xb]) (rest := []) ⟨hx, hb, hml, hown, hts⟩ (c_X5_checkRanks l dC dI q aa Z xb  _ _  hC3) (va_cwS 1 hts gX5_cast_X5_checkRanks rfl rfl rfl (by decide +kernel) ⟨Nat.le_of_ble_eq_true rfl, Nat.le_of_ble_eq_true rfl⟩) ⟨pr_blind, fun U hU hW => ⟨rfl, pr_mk hU hW hP hK hD⟩⟩ rfl rfl hl.1 rfl (lv_room (Nat.le_of_ble_eq_true rfl)) dX5_cast_6 ⟨Nat.le_of_ble_eq_true rfl, Nat.le_of_ble_eq_true rfl⟩) hS (fun x _ h => hFc x h) hFc (fun u t H1 locs ht hvm hw hB hz1 hk1 hS => ?_)
  obtain ⟨hP, hK1, hD1⟩ := hB
  rw [ht] at hP
  have hD := hD1.weaken (fun _ q9 _ h9 => hFc q9.1 h9)
  clear hFc hD1 hK1 hvm hz1 hk1
  generalize H1 = H at hP hS ⊢
  refine W.widen (k := 0) (n := 0) (Nat.le_refl _) (Nat.le_refl _) ?_
  refine lv_iload_n hx hb dX5_cast_9 rfl (lv_at hl 3 rfl) ?_
  obtain ⟨_, hC5, hF⟩ := calp_some hF
  have hFc := b_free (ws := bw q aa Z) hD hS hA
  refine va_callv (va_runS (As := [.int xc]) (rest := []) ⟨hx, hb, hml, hown, hts⟩ (c_X5_checkCount l dC dI q aa Z xc  _ _  hC5) (va_cwS 1 hts gX5_cast_X5_checkCount rfl rfl rfl (by decide +kernel) ⟨Nat.le_of_ble_eq_true rfl, Nat.le_of_ble_eq_true rfl⟩) ⟨pr_blind, fun U hU hW => ⟨rfl, pr_mk hU hW hP hK hD⟩⟩ rfl rfl hl.1 rfl (lv_room (Nat.le_of_ble_eq_true rfl)) dX5_cast_10 ⟨Nat.le_of_ble_eq_true rfl, Nat.le_of_ble_eq_true rfl⟩) hS (fun x _ h => hFc x h) hFc (fun u t H1 locs ht hvm hw hB hz1 hk1 hS => ?_)
  obtain ⟨hP, hK1, hD1⟩ := hB
  rw [ht] at hP
  have hD := hD1.weaken (fun _ q9 _ h9 => hFc q9.1 h9)
  clear hFc hD1 hK1 hvm hz1 hk1
  generalize H1 = H at hP hS ⊢
  refine W.widen (k := 0) (n := 0) (Nat.le_refl _) (Nat.le_refl _) ?_
  refine lv_aload_n hx hb dX5_cast_13 rfl (lv_at hl 0 rfl) ?_
  have hFc := b_free (ws := bw q aa Z) hD hS hA
  refine vx_callv (vx_runV (As := []) (rest := []) ⟨hx, hb, hml, hown, hts⟩ (cx_X5_checkOpen l hfl dC dI q aa Z tx sa _ () hF) (cwV 0 hts gX5_cast_X5_checkOpen rfl rfl rfl (by decide +kernel) ⟨Nat.le_of_ble_eq_true rfl, Nat.le_of_ble_eq_true rfl⟩) ⟨px_blind, va_recv hK hP (ci := 7) (q0 := 0) rfl (bw_at (i := 0) (by decide) rfl), fun U hU hW => ⟨rfl, pr_mk hU hW hP hK hD, xs_mk hU hW hS hFc hXs⟩⟩ rfl rfl hl.1 rfl (lv_room (Nat.le_of_ble_eq_true rfl)) dX5_cast_14 ⟨Nat.le_of_ble_eq_true rfl, Nat.le_of_ble_eq_true rfl⟩) hS (fun q _ h => hFc q h) hFc (fun q _ h => hFc q h) (fun E ce q9 u t H1 locs1 ht hvm hpx hB hz1 hk1 hS1 hce hcv hcl => ?_) (fun u t H1 locs1 ht hvm hw hB hz1 hk1 hS1 => hw.elim)
  obtain ⟨rfl, hP, hK1, hD1⟩ := hB
  rw [ht] at hP
  have hD := hD1.weaken (fun _ q9 _ h9 => hFc q9.1 h9)
  exact vx_out (fun x hx9 => (htb x hx9).elim) hlocks hce hcv hcl (fun t9 ht9 hvm9 => ⟨(), trivial, ⟨rfl, by rw [ht9]; exact hP, va_K.moved hvm9 hK, hD⟩, hS1.F ht9⟩) hS1.2.2 (Nat.le_of_ble_eq_true rfl) (Nat.le_of_ble_eq_true rfl)

noncomputable def F_xX5_recount (Z : Mem) (xa : Int32) (xb : Int32) : Option Unit :=
  calp (F_X5_checkStack Z xa) fun _ => calp (F_X5_checkCount Z xb) fun _ => F_xX5_checkOpen Z

set_option maxHeartbeats 4000000 in
set_option maxRecDepth 100000 in
theorem cx_X5_recount (l : Launch) (hfl : l.stackTraces = false) (dC : Nat → ClassId) (dI : Nat → Nat → Nat) (q : Nat → ClassId) (aa : Nat → Nat) (Z : Mem) (xa : Int32) (xb : Int32) (tx : String) (sa : Nat) (sz : Nat) (ro : Unit) (hF : F_xX5_recount Z xa xb = some ro) : vx_Met l yX5_recount wsX5_recount ({ frames := 7, cells := 1, slots := 6, locals := 120 }) (va_Pc [.ref (aa 0), .int xa, .int xb] (fun U => pr_ dC dI (bw q aa Z) (bty q) sz U ∧ xs_ (va_A (bw q aa Z) sz) 316 tx sa "java/lang/IllegalStateException" U)) (va_Qi (fun (_ : Int32) (_ : Unit) => False) (fun _ _ => True) (va_A (bw q aa Z) sz)) (vx_X (fun _ : Unit => True) (fun E _ t => E = "java/lang/IllegalStateException" ∧ po_ dC dI (bw q aa Z) (bty q) (va_A (bw q aa Z) sz) t) (va_A (bw q aa Z) sz)) 1 6 (va_A (bw q aa Z) sz) := by
  refine vx_ofW (cc := cX5_recount) (maxL := 5) (ret := (some .int)) (by decide) rfl ?_
  intro p e s m args below meth c s₁ B hml htb hv
  obtain ⟨hargs, ⟨hsz, hP, hK, hD0⟩, hXs⟩ := hv
  have hx := B.exec
  have hb := B.bytes
  have hr := B.returns
  have hts := atoms_spec (ws := wsX5_recount) B.pre
  have hown : s.vm.findClass RX5 = some m.cls := findClass_of_methodNamed B.named
  have hlocks := B.notSynchronized
  subst hsz
  have hD := hD0.self (sz := s.heap.size)
  generalize hAe : va_A (bw q aa Z) s.heap.size = A at hD hXs ⊢
  have hA : ∀ x : Nat, s.heap.size ≤ x → A x := fun x h => by rw [← hAe]; exact Or.inr h
  have hS : va_S A s.heap s.heap [] := va_S.rf
  have hl := lv_entry ([.ref (aa 0), .int xa, .int xb]) (n := 5) (Nat.le_of_ble_eq_true rfl)
  refine w_ent hargs ?_
  rw [lg_entry_eq]
  generalize (lg_sl ([.ref (aa 0), .int xa, .int xb]) ++ List.replicate (5 - (lg_sl ([.ref (aa 0), .int xa, .int xb])).length) Slot.unset).toArray = ls at hl ⊢
  have hl : lv_has ls 5 [(0, .ref (aa 0)), (1, .int xa), (2, .int xb)] := hl
  unfold F_xX5_recount at hF
  refine lv_aload_n hx hb dX5_recount_0 rfl (lv_at hl 0 rfl) ?_
  refine lv_iload_n hx hb dX5_recount_1 rfl (lv_at hl 1 rfl) ?_
  obtain ⟨_, hC1, hF⟩ := calp_some hF
  have hFc := b_free (ws := bw q aa Z) hD hS hA
  refine va_callv (va_runV (As := [.int xa]) (rest := []) ⟨hx, hb, hml, hown, hts⟩ (c_X5_checkStack l dC dI q aa Z xa  _ _  hC1) (cwV 1 hts gX5_recount_X5_checkStack rfl rfl rfl (by decide +kernel) ⟨Nat.le_of_ble_eq_true rfl, Nat.le_of_ble_eq_true rfl⟩) ⟨pr_blind, va_recv hK hP (ci := 7) (q0 := 0) rfl (bw_at (i := 0) (by decide) rfl), fun U hU hW => ⟨rfl, pr_mk hU hW hP hK hD⟩⟩ rfl rfl hl.1 rfl (lv_room (Nat.le_of_ble_eq_true rfl)) dX5_recount_2 ⟨Nat.le_of_ble_eq_true rfl, Nat.le_of_ble_eq_true rfl⟩) hS (fun x _ h => hFc x h) hFc (fun u t H1 locs ht hvm hw hB hz1 hk1 hS => ?_)
  obtain ⟨hP, hK1, hD1⟩ := hB
  rw [ht] at hP
  have hD := hD1.weaken (fun _ q9 _ h9 => hFc q9.1 h9)
  clear hFc hD1 hK1 hvm hz1 hk1
  generalize H1 = H at hP hS ⊢
  refine W.widen (k := 0) (n := 0) (Nat.le_refl _) (Nat.le_refl _) ?_
  refine lv_iload_n hx hb dX5_recount_5 rfl (lv_at hl 2 rfl) ?_
  obtain ⟨_, hC3, hF⟩ := calp_some hF
  have hFc := b_free (ws := bw q aa Z) hD hS hA
  refine va_callv (va_runS (As := [.int xb]) (rest := []) ⟨hx, hb, hml, hown, hts⟩ (c_X5_checkCount l dC dI q aa Z xb  _ _  hC3) (va_cwS 1 hts gX5_recount_X5_checkCount rfl rfl rfl (by decide +kernel) ⟨Nat.le_of_ble_eq_true rfl, Nat.le_of_ble_eq_true rfl⟩) ⟨pr_blind, fun U hU hW => ⟨rfl, pr_mk hU hW hP hK hD⟩⟩ rfl rfl hl.1 rfl (lv_room (Nat.le_of_ble_eq_true rfl)) dX5_recount_6 ⟨Nat.le_of_ble_eq_true rfl, Nat.le_of_ble_eq_true rfl⟩) hS (fun x _ h => hFc x h) hFc (fun u t H1 locs ht hvm hw hB hz1 hk1 hS => ?_)
  obtain ⟨hP, hK1, hD1⟩ := hB
  rw [ht] at hP
  have hD := hD1.weaken (fun _ q9 _ h9 => hFc q9.1 h9)
  clear hFc hD1 hK1 hvm hz1 hk1
  generalize H1 = H at hP hS ⊢
  refine W.widen (k := 0) (n := 0) (Nat.le_refl _) (Nat.le_refl _) ?_
  refine lv_aload_n hx hb dX5_recount_9 rfl (lv_at hl 0 rfl) ?_
  have hFc := b_free (ws := bw q aa Z) hD hS hA
  refine vx_callv (vx_runV (As := []) (rest := []) ⟨hx, hb, hml, hown, hts⟩ (cx_X5_checkOpen l hfl dC dI q aa Z tx sa _ () hF) (cwV 0 hts gX5_recount_X5_checkOpen rfl rfl rfl (by decide +kernel) ⟨Nat.le_of_ble_eq_true rfl, Nat.le_of_ble_eq_true rfl⟩) ⟨px_blind, va_recv hK hP (ci := 7) (q0 := 0) rfl (bw_at (i := 0) (by decide) rfl), fun U hU hW => ⟨rfl, pr_mk hU hW hP hK hD, xs_mk hU hW hS hFc hXs⟩⟩ rfl rfl hl.1 rfl (lv_room (Nat.le_of_ble_eq_true rfl)) dX5_recount_10 ⟨Nat.le_of_ble_eq_true rfl, Nat.le_of_ble_eq_true rfl⟩) hS (fun q _ h => hFc q h) hFc (fun q _ h => hFc q h) (fun E ce q9 u t H1 locs1 ht hvm hpx hB hz1 hk1 hS1 hce hcv hcl => ?_) (fun u t H1 locs1 ht hvm hw hB hz1 hk1 hS1 => hw.elim)
  obtain ⟨rfl, hP, hK1, hD1⟩ := hB
  rw [ht] at hP
  have hD := hD1.weaken (fun _ q9 _ h9 => hFc q9.1 h9)
  exact vx_out (fun x hx9 => (htb x hx9).elim) hlocks hce hcv hcl (fun t9 ht9 hvm9 => ⟨(), trivial, ⟨rfl, by rw [ht9]; exact hP, va_K.moved hvm9 hK, hD⟩, hS1.F ht9⟩) hS1.2.2 (Nat.le_of_ble_eq_true rfl) (Nat.le_of_ble_eq_true rfl)

noncomputable def F_xX5_move (Z : Mem) (xa : Int32) (xb : Int32) : Option Unit :=
  calp (F_X5_checkStack Z xa) fun _ => calp (F_X5_checkDistrict Z xb) fun _ => F_xX5_checkOpen Z

set_option maxHeartbeats 4000000 in
set_option maxRecDepth 100000 in
theorem cx_X5_move (l : Launch) (hfl : l.stackTraces = false) (dC : Nat → ClassId) (dI : Nat → Nat → Nat) (q : Nat → ClassId) (aa : Nat → Nat) (Z : Mem) (xa : Int32) (xb : Int32) (tx : String) (sa : Nat) (sz : Nat) (ro : Unit) (hF : F_xX5_move Z xa xb = some ro) : vx_Met l yX5_move wsX5_move ({ frames := 7, cells := 1, slots := 6, locals := 120 }) (va_Pc [.ref (aa 0), .int xa, .int xb] (fun U => pr_ dC dI (bw q aa Z) (bty q) sz U ∧ xs_ (va_A (bw q aa Z) sz) 316 tx sa "java/lang/IllegalStateException" U)) (va_Qi (fun (_ : Int32) (_ : Unit) => False) (fun _ _ => True) (va_A (bw q aa Z) sz)) (vx_X (fun _ : Unit => True) (fun E _ t => E = "java/lang/IllegalStateException" ∧ po_ dC dI (bw q aa Z) (bty q) (va_A (bw q aa Z) sz) t) (va_A (bw q aa Z) sz)) 1 6 (va_A (bw q aa Z) sz) := by
  refine vx_ofW (cc := cX5_move) (maxL := 5) (ret := (some .int)) (by decide) rfl ?_
  intro p e s m args below meth c s₁ B hml htb hv
  obtain ⟨hargs, ⟨hsz, hP, hK, hD0⟩, hXs⟩ := hv
  have hx := B.exec
  have hb := B.bytes
  have hr := B.returns
  have hts := atoms_spec (ws := wsX5_move) B.pre
  have hown : s.vm.findClass RX5 = some m.cls := findClass_of_methodNamed B.named
  have hlocks := B.notSynchronized
  subst hsz
  have hD := hD0.self (sz := s.heap.size)
  generalize hAe : va_A (bw q aa Z) s.heap.size = A at hD hXs ⊢
  have hA : ∀ x : Nat, s.heap.size ≤ x → A x := fun x h => by rw [← hAe]; exact Or.inr h
  have hS : va_S A s.heap s.heap [] := va_S.rf
  have hl := lv_entry ([.ref (aa 0), .int xa, .int xb]) (n := 5) (Nat.le_of_ble_eq_true rfl)
  refine w_ent hargs ?_
  rw [lg_entry_eq]
  generalize (lg_sl ([.ref (aa 0), .int xa, .int xb]) ++ List.replicate (5 - (lg_sl ([.ref (aa 0), .int xa, .int xb])).length) Slot.unset).toArray = ls at hl ⊢
  have hl : lv_has ls 5 [(0, .ref (aa 0)), (1, .int xa), (2, .int xb)] := hl
  unfold F_xX5_move at hF
  refine lv_aload_n hx hb dX5_move_0 rfl (lv_at hl 0 rfl) ?_
  refine lv_iload_n hx hb dX5_move_1 rfl (lv_at hl 1 rfl) ?_
  obtain ⟨_, hC1, hF⟩ := calp_some hF
  have hFc := b_free (ws := bw q aa Z) hD hS hA
  refine va_callv (va_runV (As := [.int xa]) (rest := []) ⟨hx, hb, hml, hown, hts⟩ (c_X5_checkStack l dC dI q aa Z xa  _ _  hC1) (cwV 1 hts gX5_move_X5_checkStack rfl rfl rfl (by decide +kernel) ⟨Nat.le_of_ble_eq_true rfl, Nat.le_of_ble_eq_true rfl⟩) ⟨pr_blind, va_recv hK hP (ci := 7) (q0 := 0) rfl (bw_at (i := 0) (by decide) rfl), fun U hU hW => ⟨rfl, pr_mk hU hW hP hK hD⟩⟩ rfl rfl hl.1 rfl (lv_room (Nat.le_of_ble_eq_true rfl)) dX5_move_2 ⟨Nat.le_of_ble_eq_true rfl, Nat.le_of_ble_eq_true rfl⟩) hS (fun x _ h => hFc x h) hFc (fun u t H1 locs ht hvm hw hB hz1 hk1 hS => ?_)
  obtain ⟨hP, hK1, hD1⟩ := hB
  rw [ht] at hP
  have hD := hD1.weaken (fun _ q9 _ h9 => hFc q9.1 h9)
  clear hFc hD1 hK1 hvm hz1 hk1
  generalize H1 = H at hP hS ⊢
  refine W.widen (k := 0) (n := 0) (Nat.le_refl _) (Nat.le_refl _) ?_
  refine lv_aload_n hx hb dX5_move_5 rfl (lv_at hl 0 rfl) ?_
  refine lv_iload_n hx hb dX5_move_6 rfl (lv_at hl 2 rfl) ?_
  obtain ⟨_, hC3, hF⟩ := calp_some hF
  have hFc := b_free (ws := bw q aa Z) hD hS hA
  refine va_callv (va_runV (As := [.int xb]) (rest := []) ⟨hx, hb, hml, hown, hts⟩ (c_X5_checkDistrict l dC dI q aa Z xb  _ _  hC3) (cwV 1 hts gX5_move_X5_checkDistrict rfl rfl rfl (by decide +kernel) ⟨Nat.le_of_ble_eq_true rfl, Nat.le_of_ble_eq_true rfl⟩) ⟨pr_blind, va_recv hK hP (ci := 7) (q0 := 0) rfl (bw_at (i := 0) (by decide) rfl), fun U hU hW => ⟨rfl, pr_mk hU hW hP hK hD⟩⟩ rfl rfl hl.1 rfl (lv_room (Nat.le_of_ble_eq_true rfl)) dX5_move_7 ⟨Nat.le_of_ble_eq_true rfl, Nat.le_of_ble_eq_true rfl⟩) hS (fun x _ h => hFc x h) hFc (fun u t H1 locs ht hvm hw hB hz1 hk1 hS => ?_)
  obtain ⟨hP, hK1, hD1⟩ := hB
  rw [ht] at hP
  have hD := hD1.weaken (fun _ q9 _ h9 => hFc q9.1 h9)
  clear hFc hD1 hK1 hvm hz1 hk1
  generalize H1 = H at hP hS ⊢
  refine W.widen (k := 0) (n := 0) (Nat.le_refl _) (Nat.le_refl _) ?_
  refine lv_aload_n hx hb dX5_move_10 rfl (lv_at hl 0 rfl) ?_
  have hFc := b_free (ws := bw q aa Z) hD hS hA
  refine vx_callv (vx_runV (As := []) (rest := []) ⟨hx, hb, hml, hown, hts⟩ (cx_X5_checkOpen l hfl dC dI q aa Z tx sa _ () hF) (cwV 0 hts gX5_move_X5_checkOpen rfl rfl rfl (by decide +kernel) ⟨Nat.le_of_ble_eq_true rfl, Nat.le_of_ble_eq_true rfl⟩) ⟨px_blind, va_recv hK hP (ci := 7) (q0 := 0) rfl (bw_at (i := 0) (by decide) rfl), fun U hU hW => ⟨rfl, pr_mk hU hW hP hK hD, xs_mk hU hW hS hFc hXs⟩⟩ rfl rfl hl.1 rfl (lv_room (Nat.le_of_ble_eq_true rfl)) dX5_move_11 ⟨Nat.le_of_ble_eq_true rfl, Nat.le_of_ble_eq_true rfl⟩) hS (fun q _ h => hFc q h) hFc (fun q _ h => hFc q h) (fun E ce q9 u t H1 locs1 ht hvm hpx hB hz1 hk1 hS1 hce hcv hcl => ?_) (fun u t H1 locs1 ht hvm hw hB hz1 hk1 hS1 => hw.elim)
  obtain ⟨rfl, hP, hK1, hD1⟩ := hB
  rw [ht] at hP
  have hD := hD1.weaken (fun _ q9 _ h9 => hFc q9.1 h9)
  exact vx_out (fun x hx9 => (htb x hx9).elim) hlocks hce hcv hcl (fun t9 ht9 hvm9 => ⟨(), trivial, ⟨rfl, by rw [ht9]; exact hP, va_K.moved hvm9 hK, hD⟩, hS1.F ht9⟩) hS1.2.2 (Nat.le_of_ble_eq_true rfl) (Nat.le_of_ble_eq_true rfl)
