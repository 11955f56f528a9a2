/-! p31: a row longer by one. -/
def groq (f : Nat → Option Nat) (n r : Nat) : Nat → Option Nat := fun j => if j < n then f j else if j = n then some r else none
theorem groq_of {f : Nat → Option Nat} {n r : Nat} (hn : n ≤ 24) : va_up (va_cpy f (fun _ => none) (0 : Int32).toNatClampNeg (0 : Int32).toNatClampNeg (nI n : Int32).toNatClampNeg) (nI n : Int32).toNatClampNeg (some r) = groq f n r := by
  have e0 : (0 : Int32).toNatClampNeg = 0 := by decide
  rw [nI_clamp (by omega), e0]
  funext j
  unfold va_up va_cpy groq
  by_cases h1 : j = n
  · rw [if_pos h1, if_neg (by omega), if_pos h1]
  · rw [if_neg h1]
    by_cases h2 : j < n
    · rw [if_pos (by omega), if_pos h2, Nat.sub_zero, Nat.zero_add]
    · rw [if_neg (by omega), if_neg h2, if_neg h1]
set_option maxHeartbeats 4000000 in
theorem c_X6_plus (l : Launch) (dC : Nat → ClassId) (dI : Nat → Nat → Nat) (a : Nat) (cI : ClassId) (n : Nat) (f : Nat → Int32) (xa : Int32) (sz : Nat) (hn : n ≤ 24) : Met l yX6_plus wsX6_plus ({ frames := 2, cells := 1, slots := 25, locals := 60 }) (va_Pc [.ref a, .int xa] (pr_ dC dI [(a, .inl (cI, n, .inl f))] [(cI, .int)] sz)) (va_Qr (fun (_ : Nat) => True) (fun (b RES : Nat) t => RES = b ∧ po_ dC dI ([(a, .inl (cI, n, .inl f)), (b, .inl (cI, n + 1, .inl (gro f n xa)))]) [(cI, .int)] (va_A ([(a, .inl (cI, n, .inl f))]) sz) t) (va_A ([(a, .inl (cI, n, .inl f))]) sz)) 1 25 (va_A ([(a, .inl (cI, n, .inl f))]) sz) := by
  refine Met.ofW (cc := cX6_plus) (maxL := 3) (ret := (some (.array .int))) (by decide) rfl ?_
  intro p e s m args below meth c s₁ B hml hv
  obtain ⟨hargs, hsz, hP, hK, hD0⟩ := hv
  have hx := B.exec
  have hb := B.bytes
  have hr := B.returns
  have hts := atoms_spec (ws := wsX6_plus) B.pre
  have hown : s.vm.findClass RX6 = some m.cls := findClass_of_methodNamed B.named
  have hlocks := B.notSynchronized
  subst hsz
  have hD := hD0.self (sz := s.heap.size)
  generalize hAe : va_A ([(a, .inl (cI, n, .inl f))]) s.heap.size = A at hD ⊢
  have hA : ∀ x : Nat, s.heap.size ≤ x → A x := fun x h => by rw [← hAe]; exact Or.inr h
  have hS : va_S A s.heap s.heap [] := va_S.rf
  have e0 : (0 : Int32).toNatClampNeg = 0 := by decide
  have hl := lv_entry ([.ref a, .int xa]) (n := 3) (Nat.le_of_ble_eq_true rfl)
  refine w_ent hargs ?_
  rw [lg_entry_eq]
  generalize (lg_sl ([.ref a, .int xa]) ++ List.replicate (3 - (lg_sl ([.ref a, .int xa])).length) Slot.unset).toArray = ls at hl ⊢
  have hl : lv_has ls 3 [(0, .ref a), (1, .int xa)] := hl
  refine lv_aload_n hx hb dX6_plus_0 rfl (lv_at hl 0 rfl) ?_
  refine va_alen (v := nI n) hx hb hK hP 0 0 rfl rfl rfl dX6_plus_1 ?_
  refine lv_iconst (v := 1) hx hb dX6_plus_2 (by decide) ?_
  refine lv_iadd hx hb dX6_plus_3 ?_
  refine lv_topi (fun y ey => ?_)
  obtain rfl : y = nI (n + 1) := ey.trans (nI_1 n)
  refine va_newa (atype := .int) (ty := .int) (N' := n + 1) (a0 := (n + 1, .inl zi)) hx hb (hts (.arrayClass (newarray.typeOf .int)) (by decide +kernel)) rfl hK hP hD hS hA (fun _ => rfl) (nI_pos (by omega)) (nI_clamp (by omega)) (by show (n + 1) * 4 ≤ 536870912; omega) (Nat.le_of_ble_eq_true rfl) (by show 0 + (n + 1) ≤ 25; omega) dX6_plus_4 (fun b cA H hK hP hD hS => ?_)
  have hcc : cA = cI := ty_one (t := .int) hK 1 0 rfl rfl (fun _ h => FieldType.noConfusion h)
  rw [hcc] at hP hD
  have hK : va_K (dC, dI) vwCl [(cI, .int)] s := hK.sub [0] rfl
  have hP : va_P (dC, dI) vwCl [(a, .inl (cI, n, .inl f)), (b, .inl (cI, n + 1, .inl zi))] H := hP
  have hD : va_D A [(a, .inl (cI, n, .inl f)), (b, .inl (cI, n + 1, .inl zi))] := hD
  refine W.widen (k := 1) (n := 25) (Nat.le_refl _) (by omega) ?_
  refine lv_astore_n (lv' := [(2, .ref b), (0, .ref a), (1, .int xa)]) hx hb dX6_plus_6 rfl hl (by decide) rfl (fun ls hl => ?_)
  refine lv_aload_n hx hb dX6_plus_7 rfl (lv_at hl 1 rfl) ?_
  refine lv_iconst (v := 0) hx hb dX6_plus_8 (by decide) ?_
  refine lv_aload_n hx hb dX6_plus_9 rfl (lv_at hl 0 rfl) ?_
  refine lv_iconst (v := 0) hx hb dX6_plus_10 (by decide) ?_
  refine lv_aload_n hx hb dX6_plus_11 rfl (lv_at hl 1 rfl) ?_
  refine va_alen (v := nI n) hx hb hK hP 0 0 rfl rfl rfl dX6_plus_12 ?_
  refine va_copyi hx hb (by rw [hml]; exact hl.1.symm) hown (hts (.methodLink RX6 49 arraycopyName) (by decide +kernel)) (hts (.native arraycopyName) (by decide +kernel)) (hts (.static arraycopyName) (by decide +kernel)) (hts (.initialized "java/lang/System") (by decide +kernel)) hK hP hD hS 0 1 0 0 rfl rfl rfl rfl rfl (by decide) (by decide) (nI_pos (by omega)) (by rw [e0, nI_clamp (by omega)]; omega) (by rw [e0, nI_clamp (by omega)]; omega) (fun _ _ => rfl) (Nat.le_of_ble_eq_true rfl) (Nat.le_of_ble_eq_true rfl) dX6_plus_13 (fun H locs hP hD hS => ?_)
  have hP : va_P (dC, dI) vwCl [(a, .inl (cI, n, .inl f)), (b, .inl (cI, n + 1, .inl (va_cpy f zi (0 : Int32).toNatClampNeg (0 : Int32).toNatClampNeg (nI n : Int32).toNatClampNeg)))] H := hP
  have hD : va_D A [(a, .inl (cI, n, .inl f)), (b, .inl (cI, n + 1, .inl (va_cpy f zi (0 : Int32).toNatClampNeg (0 : Int32).toNatClampNeg (nI n : Int32).toNatClampNeg)))] := hD
  refine lv_aload_n hx hb dX6_plus_16 rfl (lv_at hl 0 rfl) ?_
  refine lv_aload_n hx hb dX6_plus_17 rfl (lv_at hl 1 rfl) ?_
  refine va_alen (v := nI n) hx hb hK hP 0 0 rfl rfl rfl dX6_plus_18 ?_
  refine lv_iload_n hx hb dX6_plus_19 rfl (lv_at hl 2 rfl) ?_
  refine va_iast hx hb hK hP hD hS 1 0 rfl rfl (vp_in_nI (by omega) (by omega)) dX6_plus_20 (fun H locs hP hD hS => ?_)
  have hP : va_P (dC, dI) vwCl [(a, .inl (cI, n, .inl f)), (b, .inl (cI, n + 1, .inl (upd (va_cpy f zi (0 : Int32).toNatClampNeg (0 : Int32).toNatClampNeg (nI n : Int32).toNatClampNeg) (nI n : Int32).toNatClampNeg xa)))] H := hP
  have hD : va_D A [(a, .inl (cI, n, .inl f)), (b, .inl (cI, n + 1, .inl (upd (va_cpy f zi (0 : Int32).toNatClampNeg (0 : Int32).toNatClampNeg (nI n : Int32).toNatClampNeg) (nI n : Int32).toNatClampNeg xa)))] := hD
  rw [gro_of hn] at hP hD
  refine lv_aload_n hx hb dX6_plus_21 rfl (lv_at hl 0 rfl) ?_
  exact W.aret (v := .ref b) (rt := .array .int) hx hb hr (Or.inr ⟨_, rfl⟩) (Or.inr ⟨_, rfl⟩) (fun t ht hW => ⟨⟨b, b, rfl, trivial, rfl, po_mk ht hW hP hK hD⟩, hS.F ht⟩) hS.2.2 dX6_plus_22
set_option maxHeartbeats 4000000 in
theorem c_X6_plus_ (l : Launch) (dC : Nat → ClassId) (dI : Nat → Nat → Nat) (a r : Nat) (cI cA : ClassId) (n : Nat) (f : Nat → Option Nat) (g : Nat → Int32) (RB : va_W) (sz : Nat) (hn : n ≤ 24) (hrb : ∀ (i y : Nat), i < n → f i = some y → ∃ (k nv : Nat) (r9 : Nat → Int32), RB[k]? = some (y, .inl (cI, nv, .inl r9))) : Met l yX6_plus_ wsX6_plus_ ({ frames := 2, cells := 1, slots := 25, locals := 60 }) (va_Pc [.ref a, .ref r] (fun U => pr_ dC dI ([(a, .inl (cA, n, .inr (.inr (.inr (.inr f))))), (r, .inl (cI, 4, .inl g))] ++ RB) [(cI, .int), (cA, .array .int)] sz U ∧ qo_ U)) (va_Qr (fun (_ : Nat) => True) (fun (b RES : Nat) t => RES = b ∧ po_ dC dI ([(a, .inl (cA, n, .inr (.inr (.inr (.inr f))))), (r, .inl (cI, 4, .inl g)), (b, .inl (cA, n + 1, .inr (.inr (.inr (.inr (groq f n r))))))] ++ RB) [(cI, .int), (cA, .array .int)] (va_A ([(a, .inl (cA, n, .inr (.inr (.inr (.inr f))))), (r, .inl (cI, 4, .inl g))] ++ RB) sz) t) (va_A ([(a, .inl (cA, n, .inr (.inr (.inr (.inr f))))), (r, .inl (cI, 4, .inl g))] ++ RB) sz)) 1 25 (va_A ([(a, .inl (cA, n, .inr (.inr (.inr (.inr f))))), (r, .inl (cI, 4, .inl g))] ++ RB) sz) := by
  refine Met.ofW (cc := cX6_plus_) (maxL := 3) (ret := (some (.array (.array .int)))) (by decide) rfl ?_
  intro p e s m args below meth c s₁ B hml hv
  obtain ⟨hargs, ⟨hsz, hP, hK, hD0⟩, hXs⟩ := hv
  have hx := B.exec
  have hb := B.bytes
  have hr := B.returns
  have hts := atoms_spec (ws := wsX6_plus_) B.pre
  have hown : s.vm.findClass RX6 = some m.cls := findClass_of_methodNamed B.named
  have hlocks := B.notSynchronized
  subst hsz
  have hD := hD0.self (sz := s.heap.size)
  generalize hAe : va_A ([(a, .inl (cA, n, .inr (.inr (.inr (.inr f))))), (r, .inl (cI, 4, .inl g))] ++ RB) s.heap.size = A at hD ⊢
  have hA : ∀ x : Nat, s.heap.size ≤ x → A x := fun x h => by rw [← hAe]; exact Or.inr h
  have hS : va_S A s.heap s.heap [] := va_S.rf
  have e0 : (0 : Int32).toNatClampNeg = 0 := by decide
  have hl := lv_entry ([.ref a, .ref r]) (n := 3) (Nat.le_of_ble_eq_true rfl)
  refine w_ent hargs ?_
  rw [lg_entry_eq]
  generalize (lg_sl ([.ref a, .ref r]) ++ List.replicate (3 - (lg_sl ([.ref a, .ref r])).length) Slot.unset).toArray = ls at hl ⊢
  have hl : lv_has ls 3 [(0, .ref a), (1, .ref r)] := hl
  refine lv_aload_n hx hb dX6_plus__0 rfl (lv_at hl 0 rfl) ?_
  refine va_alen (v := nI n) hx hb hK hP 0 1 rfl rfl rfl dX6_plus__1 ?_
  refine lv_iconst (v := 1) hx hb dX6_plus__2 (by decide) ?_
  refine lv_iadd hx hb dX6_plus__3 ?_
  refine lv_topi (fun y ey => ?_)
  obtain rfl : y = nI (n + 1) := ey.trans (nI_1 n)
  refine bq_newA (N' := n + 1) hx hb hown (hts (.classLink RX6 27 "[I") (by decide +kernel)) hXs hK hP hD hS hA (nI_pos (by omega)) (nI_clamp (by omega)) (by omega) (Nat.le_of_ble_eq_true rfl) (by show 0 + (n + 1) ≤ 25; omega) dX6_plus__4 (fun b cB H hK hP hD hS => ?_)
  have hcc : cB = cA := ty_one (t := .array .int) hK 2 1 rfl rfl (fun _ h => FieldType.noConfusion h)
  rw [hcc] at hP hD
  have hK : va_K (dC, dI) vwCl [(cI, .int), (cA, .array .int)] s := hK.sub [0, 1] rfl
  have hP := va_P.swap hP
  have hD := va_D.swap hD
  have hP : va_P (dC, dI) vwCl ([(a, .inl (cA, n, .inr (.inr (.inr (.inr f))))), (r, .inl (cI, 4, .inl g)), (b, .inl (cA, n + 1, .inr (.inr (.inr (.inr (fun _ => none))))))] ++ RB) H := hP
  have hD : va_D A ([(a, .inl (cA, n, .inr (.inr (.inr (.inr f))))), (r, .inl (cI, 4, .inl g)), (b, .inl (cA, n + 1, .inr (.inr (.inr (.inr (fun _ => none))))))] ++ RB) := hD
  refine W.widen (k := 1) (n := 25) (Nat.le_refl _) (by omega) ?_
  refine lv_astore_n (lv' := [(2, .ref b), (0, .ref a), (1, .ref r)]) hx hb dX6_plus__7 rfl hl (by decide) rfl (fun ls hl => ?_)
  refine lv_aload_n hx hb dX6_plus__8 rfl (lv_at hl 1 rfl) ?_
  refine lv_iconst (v := 0) hx hb dX6_plus__9 (by decide) ?_
  refine lv_aload_n hx hb dX6_plus__10 rfl (lv_at hl 0 rfl) ?_
  refine lv_iconst (v := 0) hx hb dX6_plus__11 (by decide) ?_
  refine lv_aload_n hx hb dX6_plus__12 rfl (lv_at hl 1 rfl) ?_
  refine va_alen (v := nI n) hx hb hK hP 0 1 rfl rfl rfl dX6_plus__13 ?_
  refine bq_cpA hx hb (by rw [hml]; exact hl.1.symm) hown (hts (.methodLink RX6 49 arraycopyName) (by decide +kernel)) (hts (.native arraycopyName) (by decide +kernel)) (hts (.static arraycopyName) (by decide +kernel)) (hts (.initialized "java/lang/System") (by decide +kernel)) hXs hK hP hD hS 0 2 1 0 rfl rfl rfl rfl (by decide) (by decide) (nI_pos (by omega)) (by rw [e0, nI_clamp (by omega)]; omega) (by rw [e0, nI_clamp (by omega)]; omega) (fun i hi y hy => by
    rw [nI_clamp (by omega)] at hi
    rw [e0, Nat.zero_add] at hy
    obtain ⟨k, nv, r9, hr⟩ := hrb i y hi hy
    exact ⟨3 + k, nv, r9, by rw [List.getElem?_append_right (by show 3 ≤ 3 + k; omega)]; show RB[3 + k - 3]? = _; rw [Nat.add_sub_cancel_left]; exact hr⟩) (Nat.le_of_ble_eq_true rfl) (Nat.le_of_ble_eq_true rfl) dX6_plus__14 (fun H locs hP hD hS => ?_)
  have hP : va_P (dC, dI) vwCl ([(a, .inl (cA, n, .inr (.inr (.inr (.inr f))))), (r, .inl (cI, 4, .inl g)), (b, .inl (cA, n + 1, .inr (.inr (.inr (.inr (va_cpy f (fun _ => none) (0 : Int32).toNatClampNeg (0 : Int32).toNatClampNeg (nI n : Int32).toNatClampNeg))))))] ++ RB) H := hP
  have hD : va_D A ([(a, .inl (cA, n, .inr (.inr (.inr (.inr f))))), (r, .inl (cI, 4, .inl g)), (b, .inl (cA, n + 1, .inr (.inr (.inr (.inr (va_cpy f (fun _ => none) (0 : Int32).toNatClampNeg (0 : Int32).toNatClampNeg (nI n : Int32).toNatClampNeg))))))] ++ RB) := hD
  refine lv_aload_n hx hb dX6_plus__17 rfl (lv_at hl 0 rfl) ?_
  refine lv_aload_n hx hb dX6_plus__18 rfl (lv_at hl 1 rfl) ?_
  refine va_alen (v := nI n) hx hb hK hP 0 1 rfl rfl rfl dX6_plus__19 ?_
  refine lv_aload_n hx hb dX6_plus__20 rfl (lv_at hl 2 rfl) ?_
  refine bq_astA hx hb hXs hK hP hD hS 2 1 0 1 rfl rfl rfl rfl (vp_in_nI (by omega) (by omega)) dX6_plus__21 (fun H locs hP hD hS => ?_)
  have hP : va_P (dC, dI) vwCl ([(a, .inl (cA, n, .inr (.inr (.inr (.inr f))))), (r, .inl (cI, 4, .inl g)), (b, .inl (cA, n + 1, .inr (.inr (.inr (.inr (va_up (va_cpy f (fun _ => none) (0 : Int32).toNatClampNeg (0 : Int32).toNatClampNeg (nI n : Int32).toNatClampNeg) (nI n : Int32).toNatClampNeg (some r)))))))] ++ RB) H := hP
  have hD : va_D A ([(a, .inl (cA, n, .inr (.inr (.inr (.inr f))))), (r, .inl (cI, 4, .inl g)), (b, .inl (cA, n + 1, .inr (.inr (.inr (.inr (va_up (va_cpy f (fun _ => none) (0 : Int32).toNatClampNeg (0 : Int32).toNatClampNeg (nI n : Int32).toNatClampNeg) (nI n : Int32).toNatClampNeg (some r)))))))] ++ RB) := hD
  rw [groq_of hn] at hP hD
  refine lv_aload_n hx hb dX6_plus__22 rfl (lv_at hl 0 rfl) ?_
  exact W.aret (v := .ref b) (rt := .array (.array .int)) hx hb hr (Or.inr ⟨_, rfl⟩) (Or.inr ⟨_, rfl⟩) (fun t ht hW => ⟨⟨b, b, rfl, trivial, rfl, po_mk ht hW hP hK hD⟩, hS.F ht⟩) hS.2.2 dX6_plus__23
