/-! p31: what is told at first: nothing, of a new box. -/
def t5 (a b c d e : Nat) (i : Nat) : Nat := if i = 0 then a else if i = 1 then b else if i = 2 then c else if i = 3 then d else e
def Yi (xa : Int32) : TS := ((fun _ => 0, fun i => if i = 0 then fun j => if j = 2 then xa else 0 else fun _ => 0), Z0)
theorem st0 (ta : Nat → Nat) : (fun _ => none : Nat → Option Nat) = (fun k => if k < 0 then some (ta (5 + k)) else none) := by
  funext k
  rw [if_neg (by omega)]
set_option maxHeartbeats 4000000 in
set_option maxRecDepth 100000 in
theorem c_X6_init (l : Launch) (dC : Nat → ClassId) (dI : Nat → Nat → Nat) (o : Nat) (sa : Nat) (xa : Int32) (sz : Nat)  : Met l yX6_init wsX6_init ({ frames := 5, cells := 96, slots := 600, locals := 135 }) (va_Pc [.ref o, .ref sa, .int xa] (fun U => pr_ dC dI [(o, .inr (8, [.null, .null, .int 0, .null, .null, .null, .null, .int 0, .int 0]))] [] sz U ∧ ao_  U)) (va_Qv (fun (_ : (Nat → Nat) × (Nat → Nat) × (Nat → ClassId)) => True) (fun (u : (Nat → Nat) × (Nat → Nat) × (Nat → ClassId)) t => u.1 0 = o ∧ u.2.1 100 = u.2.1 (39 + 24) ∧ po_ dC dI (ww u.2.2 u.1 u.2.1 sa (Yi xa)) (bty u.2.2) (va_A [(o, .inr (8, [.null, .null, .int 0, .null, .null, .null, .null, .int 0, .int 0]))] sz) t) (va_A [(o, .inr (8, [.null, .null, .int 0, .null, .null, .null, .null, .int 0, .int 0]))] sz)) 96 600 (va_A [(o, .inr (8, [.null, .null, .int 0, .null, .null, .null, .null, .int 0, .int 0]))] sz) := by
  refine Met.ofW (cc := cX6_init) (maxL := 3) (ret := none) (by decide) rfl ?_
  intro p e s m args below meth c s₁ B hml hv
  obtain ⟨rfl, ⟨hsz, hP, hK, hD0⟩, hXs⟩ := hv
  have hx := B.exec
  have hb := B.bytes
  have hr := B.returns
  have hts := atoms_spec (ws := wsX6_init) B.pre
  have hown : s.vm.findClass RX6 = some m.cls := findClass_of_methodNamed B.named
  have hlocks := B.notSynchronized
  have hin : meth.name = "<init>" := (name_of_methodNamed B.named B.method).1
  subst hsz
  have hD := hD0.self (sz := s.heap.size)
  generalize hAe : va_A [(o, .inr (8, [.null, .null, .int 0, .null, .null, .null, .null, .int 0, .int 0]))] s.heap.size = A at hD ⊢
  have hA : ∀ q : Nat, s.heap.size ≤ q → A q := fun q h => by rw [← hAe]; exact Or.inr h
  have hS : va_S A s.heap s.heap [] := va_S.rf
  have hP : va_P (dC, dI) vwCl [(o, .inr (8, [.null, .null, .int 0, .null, .null, .null, .null, .int 0, .int 0]))] s.heap := hP
  have hK : va_K (dC, dI) vwCl [] s := hK
  have hl := lv_entry ([.ref o, .ref sa, .int xa]) (n := 3) (Nat.le_of_ble_eq_true rfl)
  rw [lg_entry_eq]
  generalize (lg_sl ([.ref o, .ref sa, .int xa]) ++ List.replicate (3 - (lg_sl ([.ref o, .ref sa, .int xa])).length) Slot.unset).toArray = ls at hl ⊢
  have hl : lv_has ls 3 [(0, .ref o), (1, .ref sa), (2, .int xa)] := hl
  refine lv_aload_n hx hb dX6_init_0 rfl (lv_at hl 0 rfl) ?_
  refine W.objInit hx hb hown (hts (.methodLink RX6 1 objectInit) (by decide +kernel)) (hts (.instanceMethod objectInit) (by decide +kernel)) (hts (.code objectInit ⟨#[0xb1]⟩ 1 none) (by decide +kernel)) rfl (by rw [hml]; exact hl.1) rfl dX6_init_1 (Nat.le_of_ble_eq_true rfl) (Nat.le_of_ble_eq_true rfl) ?_
  refine W.eq (g2 := F0 m 4 ls []) rfl ?_
  refine lv_aload_n hx hb dX6_init_4 rfl (lv_at hl 0 rfl) ?_
  have hinX5 : ∀ w ∈ u_ws RX5 TX5 5, w ∈ wsX6_init := by decide +kernel
  refine va_new (ci := 7) (fs := [.null, .null, .null, .null, .null]) (C := RX5) (T := TX5) (N := 5) hx hb hts hinX5 tyX5 tyX5_ok hown (hts (.classLink RX6 7 RX5) (by decide +kernel)) (hts (.instantiable RX5 5) (by decide +kernel)) (hts (.initialized RX5) (by decide +kernel)) hK hP hD hS hA rfl (by intro j hj; match j, hj with | 0, _ => rfl | 1, _ => rfl | 2, _ => rfl | 3, _ => rfl | 4, _ => rfl) (Nat.le_of_ble_eq_true rfl) (Nat.le_of_ble_eq_true rfl) dX6_init_5 (fun q_1 H hP hD hS => ?_)
  have hP : va_P (dC, dI) vwCl [(o, .inr (8, [.null, .null, .int 0, .null, .null, .null, .null, .int 0, .int 0])), (q_1, .inr (7, [.null, .null, .null, .null, .null]))] H := hP
  have hD : va_D A [(o, .inr (8, [.null, .null, .int 0, .null, .null, .null, .null, .int 0, .int 0])), (q_1, .inr (7, [.null, .null, .null, .null, .null]))] := hD
  refine W.widen (k := 1) (n := 5) (Nat.le_of_ble_eq_true rfl) (Nat.le_of_ble_eq_true rfl) ?_
  refine lv_dup hx hb dX6_init_8 rfl ?_
  have hPc := hP.sub (ws' := [(q_1, .inr (7, [.null, .null, .null, .null, .null]))]) [1] rfl
  have hDc := hD.sub (ws' := [(q_1, .inr (7, [.null, .null, .null, .null, .null]))]) [1] (by decide) rfl
  have hKc := hK.sub (tys' := []) [] rfl
  have hFc := va_free (wc := [(q_1, .inr (7, [.null, .null, .null, .null, .null]))]) hD hS hA [1] rfl
  refine va_callv (va_runI (As := []) (rest := [.ref q_1, .ref o]) ⟨hx, hb, hml, hown, hts⟩ (c_X5_init l dC dI q_1 _) (cwI 0 hts gX6_init_X5_init rfl rfl rfl (hts (.initialized RX5) (by decide +kernel)) (hts (.methodLink RX6 9 yX5_init) (by decide +kernel)) (hts (.instanceMethod yX5_init) (by decide +kernel)) rfl (by decide +kernel) ⟨Nat.le_of_ble_eq_true rfl, Nat.le_of_ble_eq_true rfl⟩) ⟨pe_blind ao_bl, fun U hU hW => ⟨rfl, pr_mk hU hW hPc hKc hDc, ao_mk hW hXs⟩⟩ rfl rfl hl.1 rfl (lv_room (Nat.le_of_ble_eq_true rfl)) dX6_init_9 ⟨Nat.le_of_ble_eq_true rfl, Nat.le_of_ble_eq_true rfl⟩) hS (fun x _ h => hFc x h) hFc (fun u t H1 locs ht hvm hw hB hz1 hk1 hS => ?_)
  obtain ⟨aa, q⟩ := u
  obtain ⟨hu1, hu2, hP1, hK1, hD1⟩ := hB
  rw [ht] at hP1
  obtain ⟨hP, hD⟩ := va_join (wr := [(o, .inr (8, [.null, .null, .int 0, .null, .null, .null, .null, .int 0, .int 0]))]) (w1 := bw q aa Z0) hP hD [1] [0] rfl rfl (by decide) (by decide) hk1 hFc hP1 hD1
  have hK : va_K (dC, dI) vwCl (bty q) s := hK.app (va_K.moved hvm.symm hK1)
  generalize H1 = H at hP hS ⊢
  have hP : va_P (dC, dI) vwCl ([(o, .inr (8, [.null, .null, .int 0, .null, .null, .null, .null, .int 0, .int 0]))] ++ bw q aa Z0) H := hP
  have hD : va_D A ([(o, .inr (8, [.null, .null, .int 0, .null, .null, .null, .null, .int 0, .int 0]))] ++ bw q aa Z0) := hD
  refine W.widen (k := 91) (n := 585) (Nat.le_of_ble_eq_true rfl) (Nat.le_of_ble_eq_true rfl) ?_
  have hinX6 : ∀ w ∈ u_ws RX6 TX6 9, w ∈ wsX6_init := by decide +kernel
  refine va_putF (D := (dC, dI)) (ci := 8) (v := .ref q_1) (ty := (.object "BallotLoom")) (C := RX6) (T := TX6) (N := 9) hx hb hts hinX6 tyX6 tyX6_ok nmX6 hown hK hP hD hS 0 rfl rfl 0 (by decide) (hts (.fieldLink RX6 10 "BallotLoomLaw$Told" "m" "LBallotLoom;") (by decide +kernel)) (fun _ h9 => h9) rfl hin rfl (by decide +kernel) rfl rfl (Nat.le_of_ble_eq_true rfl) dX6_init_12 (fun H locs hP hD hS => ?_)
  have hP : va_P (dC, dI) vwCl ([(o, .inr (8, [.ref q_1, .null, .int 0, .null, .null, .null, .null, .int 0, .int 0]))] ++ bw q aa Z0) H := hP
  have hD : va_D A ([(o, .inr (8, [.ref q_1, .null, .int 0, .null, .null, .null, .null, .int 0, .int 0]))] ++ bw q aa Z0) := hD
  refine lv_aload_n hx hb dX6_init_15 rfl (lv_at hl 0 rfl) ?_
  refine lv_iconst (v := 0) hx hb dX6_init_16 (by decide) ?_
  refine va_newa (atype := .int) (ty := .int) (N' := 0) (a0 := (0, .inl zi)) hx hb (hts (.arrayClass (newarray.typeOf .int)) (by decide +kernel)) rfl hK hP hD hS hA (fun _ => rfl) (by decide) (by decide) (by decide) (Nat.le_of_ble_eq_true rfl) (Nat.le_of_ble_eq_true rfl) dX6_init_17 (fun q_2 c_3 H hK hP hD hS => ?_)
  have hP := va_P.swap hP
  have hD := va_D.swap hD
  have hK : va_K (dC, dI) vwCl [((q 0), .int), ((q 1), .boolean), ((q 2), .double), ((q 3), .object "BallotLoom$Stack"), ((q 4), .array .int), (c_3, .int)] s := hK
  have hP : va_P (dC, dI) vwCl ([(o, .inr (8, [.ref q_1, .null, .int 0, .null, .null, .null, .null, .int 0, .int 0])), (q_2, .inl (c_3, 0, .inl zi))] ++ bw q aa Z0) H := hP
  have hD : va_D A ([(o, .inr (8, [.ref q_1, .null, .int 0, .null, .null, .null, .null, .int 0, .int 0])), (q_2, .inl (c_3, 0, .inl zi))] ++ bw q aa Z0) := hD
  refine W.widen (k := 92) (n := 585) (Nat.le_of_ble_eq_true rfl) (Nat.le_of_ble_eq_true rfl) ?_
  have hcc : c_3 = (q 0) := ty_one (t := .int) hK 5 0 rfl rfl (fun _ h => FieldType.noConfusion h)
  rw [hcc] at hP hD
  have hK : va_K (dC, dI) vwCl (bty q) s := hK.sub [0, 1, 2, 3, 4] rfl
  have hP : va_P (dC, dI) vwCl ([(o, .inr (8, [.ref q_1, .null, .int 0, .null, .null, .null, .null, .int 0, .int 0])), (q_2, .inl ((q 0), 0, .inl zi))] ++ bw q aa Z0) H := hP
  have hD : va_D A ([(o, .inr (8, [.ref q_1, .null, .int 0, .null, .null, .null, .null, .int 0, .int 0])), (q_2, .inl ((q 0), 0, .inl zi))] ++ bw q aa Z0) := hD
  refine va_put (D := (dC, dI)) (ci := 8) (v := .ref q_2) (ty := (.array .int)) (C := RX6) (T := TX6) (N := 9) hx hb hts hinX6 tyX6 tyX6_ok nmX6 hown hK hP hD hS 0 rfl rfl 3 (by decide) (hts (.fieldLink RX6 16 "BallotLoomLaw$Told" "parties" "[I") (by decide +kernel)) (fun _ h9 => h9) rfl (by decide +kernel) rfl rfl (Nat.le_of_ble_eq_true rfl) dX6_init_19 (fun H locs hP hD hS => ?_)
  have hP : va_P (dC, dI) vwCl ([(o, .inr (8, [.ref q_1, .null, .int 0, .ref q_2, .null, .null, .null, .int 0, .int 0])), (q_2, .inl ((q 0), 0, .inl zi))] ++ bw q aa Z0) H := hP
  have hD : va_D A ([(o, .inr (8, [.ref q_1, .null, .int 0, .ref q_2, .null, .null, .null, .int 0, .int 0])), (q_2, .inl ((q 0), 0, .inl zi))] ++ bw q aa Z0) := hD
  refine lv_aload_n hx hb dX6_init_22 rfl (lv_at hl 0 rfl) ?_
  refine lv_bipush (v := 6) hx hb dX6_init_23 (by decide) ?_
  refine va_newa (atype := .boolean) (ty := .boolean) (N' := 6) (a0 := (6, .inl zi)) hx hb (hts (.arrayClass (newarray.typeOf .boolean)) (by decide +kernel)) rfl hK hP hD hS hA (fun _ => rfl) (by decide) (by decide) (by decide) (Nat.le_of_ble_eq_true rfl) (Nat.le_of_ble_eq_true rfl) dX6_init_25 (fun q_4 c_5 H hK hP hD hS => ?_)
  have hP := va_P.swap hP
  have hD := va_D.swap hD
  have hK : va_K (dC, dI) vwCl [((q 0), .int), ((q 1), .boolean), ((q 2), .double), ((q 3), .object "BallotLoom$Stack"), ((q 4), .array .int), (c_5, .boolean)] s := hK
  have hP : va_P (dC, dI) vwCl ([(o, .inr (8, [.ref q_1, .null, .int 0, .ref q_2, .null, .null, .null, .int 0, .int 0])), (q_2, .inl ((q 0), 0, .inl zi)), (q_4, .inl (c_5, 6, .inl zi))] ++ bw q aa Z0) H := hP
  have hD : va_D A ([(o, .inr (8, [.ref q_1, .null, .int 0, .ref q_2, .null, .null, .null, .int 0, .int 0])), (q_2, .inl ((q 0), 0, .inl zi)), (q_4, .inl (c_5, 6, .inl zi))] ++ bw q aa Z0) := hD
  refine W.widen (k := 93) (n := 591) (Nat.le_of_ble_eq_true rfl) (Nat.le_of_ble_eq_true rfl) ?_
  have hcc : c_5 = (q 1) := ty_one (t := .boolean) hK 5 1 rfl rfl (fun _ h => FieldType.noConfusion h)
  rw [hcc] at hP hD
  have hK : va_K (dC, dI) vwCl (bty q) s := hK.sub [0, 1, 2, 3, 4] rfl
  have hP : va_P (dC, dI) vwCl ([(o, .inr (8, [.ref q_1, .null, .int 0, .ref q_2, .null, .null, .null, .int 0, .int 0])), (q_2, .inl ((q 0), 0, .inl zi)), (q_4, .inl ((q 1), 6, .inl zi))] ++ bw q aa Z0) H := hP
  have hD : va_D A ([(o, .inr (8, [.ref q_1, .null, .int 0, .ref q_2, .null, .null, .null, .int 0, .int 0])), (q_2, .inl ((q 0), 0, .inl zi)), (q_4, .inl ((q 1), 6, .inl zi))] ++ bw q aa Z0) := hD
  refine va_put (D := (dC, dI)) (ci := 8) (v := .ref q_4) (ty := (.array .boolean)) (C := RX6) (T := TX6) (N := 9) hx hb hts hinX6 tyX6 tyX6_ok nmX6 hown hK hP hD hS 0 rfl rfl 4 (by decide) (hts (.fieldLink RX6 20 "BallotLoomLaw$Told" "gone" "[Z") (by decide +kernel)) (fun _ h9 => h9) rfl (by decide +kernel) rfl rfl (Nat.le_of_ble_eq_true rfl) dX6_init_27 (fun H locs hP hD hS => ?_)
  have hP : va_P (dC, dI) vwCl ([(o, .inr (8, [.ref q_1, .null, .int 0, .ref q_2, .ref q_4, .null, .null, .int 0, .int 0])), (q_2, .inl ((q 0), 0, .inl zi)), (q_4, .inl ((q 1), 6, .inl zi))] ++ bw q aa Z0) H := hP
  have hD : va_D A ([(o, .inr (8, [.ref q_1, .null, .int 0, .ref q_2, .ref q_4, .null, .null, .int 0, .int 0])), (q_2, .inl ((q 0), 0, .inl zi)), (q_4, .inl ((q 1), 6, .inl zi))] ++ bw q aa Z0) := hD
  refine lv_aload_n hx hb dX6_init_30 rfl (lv_at hl 0 rfl) ?_
  refine lv_iconst (v := 0) hx hb dX6_init_31 (by decide) ?_
  refine va_newa (atype := .int) (ty := .int) (N' := 0) (a0 := (0, .inl zi)) hx hb (hts (.arrayClass (newarray.typeOf .int)) (by decide +kernel)) rfl hK hP hD hS hA (fun _ => rfl) (by decide) (by decide) (by decide) (Nat.le_of_ble_eq_true rfl) (Nat.le_of_ble_eq_true rfl) dX6_init_32 (fun q_6 c_7 H hK hP hD hS => ?_)
  have hP := va_P.swap hP
  have hD := va_D.swap hD
  have hK : va_K (dC, dI) vwCl [((q 0), .int), ((q 1), .boolean), ((q 2), .double), ((q 3), .object "BallotLoom$Stack"), ((q 4), .array .int), (c_7, .int)] s := hK
  have hP : va_P (dC, dI) vwCl ([(o, .inr (8, [.ref q_1, .null, .int 0, .ref q_2, .ref q_4, .null, .null, .int 0, .int 0])), (q_2, .inl ((q 0), 0, .inl zi)), (q_4, .inl ((q 1), 6, .inl zi)), (q_6, .inl (c_7, 0, .inl zi))] ++ bw q aa Z0) H := hP
  have hD : va_D A ([(o, .inr (8, [.ref q_1, .null, .int 0, .ref q_2, .ref q_4, .null, .null, .int 0, .int 0])), (q_2, .inl ((q 0), 0, .inl zi)), (q_4, .inl ((q 1), 6, .inl zi)), (q_6, .inl (c_7, 0, .inl zi))] ++ bw q aa Z0) := hD
  refine W.widen (k := 94) (n := 591) (Nat.le_of_ble_eq_true rfl) (Nat.le_of_ble_eq_true rfl) ?_
  have hcc : c_7 = (q 0) := ty_one (t := .int) hK 5 0 rfl rfl (fun _ h => FieldType.noConfusion h)
  rw [hcc] at hP hD
  have hK : va_K (dC, dI) vwCl (bty q) s := hK.sub [0, 1, 2, 3, 4] rfl
  have hP : va_P (dC, dI) vwCl ([(o, .inr (8, [.ref q_1, .null, .int 0, .ref q_2, .ref q_4, .null, .null, .int 0, .int 0])), (q_2, .inl ((q 0), 0, .inl zi)), (q_4, .inl ((q 1), 6, .inl zi)), (q_6, .inl ((q 0), 0, .inl zi))] ++ bw q aa Z0) H := hP
  have hD : va_D A ([(o, .inr (8, [.ref q_1, .null, .int 0, .ref q_2, .ref q_4, .null, .null, .int 0, .int 0])), (q_2, .inl ((q 0), 0, .inl zi)), (q_4, .inl ((q 1), 6, .inl zi)), (q_6, .inl ((q 0), 0, .inl zi))] ++ bw q aa Z0) := hD
  refine va_put (D := (dC, dI)) (ci := 8) (v := .ref q_6) (ty := (.array .int)) (C := RX6) (T := TX6) (N := 9) hx hb hts hinX6 tyX6 tyX6_ok nmX6 hown hK hP hD hS 0 rfl rfl 5 (by decide) (hts (.fieldLink RX6 24 "BallotLoomLaw$Told" "seats" "[I") (by decide +kernel)) (fun _ h9 => h9) rfl (by decide +kernel) rfl rfl (Nat.le_of_ble_eq_true rfl) dX6_init_34 (fun H locs hP hD hS => ?_)
  have hP : va_P (dC, dI) vwCl ([(o, .inr (8, [.ref q_1, .null, .int 0, .ref q_2, .ref q_4, .ref q_6, .null, .int 0, .int 0])), (q_2, .inl ((q 0), 0, .inl zi)), (q_4, .inl ((q 1), 6, .inl zi)), (q_6, .inl ((q 0), 0, .inl zi))] ++ bw q aa Z0) H := hP
  have hD : va_D A ([(o, .inr (8, [.ref q_1, .null, .int 0, .ref q_2, .ref q_4, .ref q_6, .null, .int 0, .int 0])), (q_2, .inl ((q 0), 0, .inl zi)), (q_4, .inl ((q 1), 6, .inl zi)), (q_6, .inl ((q 0), 0, .inl zi))] ++ bw q aa Z0) := hD
  refine lv_aload_n hx hb dX6_init_37 rfl (lv_at hl 0 rfl) ?_
  refine lv_iconst (v := 0) hx hb dX6_init_38 (by decide) ?_
  refine bq_newA (N' := 0) hx hb hown (hts (.classLink RX6 27 "[I") (by decide +kernel)) hXs.2.1 hK hP hD hS hA (by decide) (by decide) (by decide) (Nat.le_of_ble_eq_true rfl) (Nat.le_of_ble_eq_true rfl) dX6_init_39 (fun q_8 c_9 H hK hP hD hS => ?_)
  have hP := va_P.swap hP
  have hD := va_D.swap hD
  have hK : va_K (dC, dI) vwCl [((q 0), .int), ((q 1), .boolean), ((q 2), .double), ((q 3), .object "BallotLoom$Stack"), ((q 4), .array .int), (c_9, .array .int)] s := hK
  have hP : va_P (dC, dI) vwCl ([(o, .inr (8, [.ref q_1, .null, .int 0, .ref q_2, .ref q_4, .ref q_6, .null, .int 0, .int 0])), (q_2, .inl ((q 0), 0, .inl zi)), (q_4, .inl ((q 1), 6, .inl zi)), (q_6, .inl ((q 0), 0, .inl zi)), (q_8, .inl (c_9, 0, .inr (.inr (.inr (.inr (fun _ => none))))))] ++ bw q aa Z0) H := hP
  have hD : va_D A ([(o, .inr (8, [.ref q_1, .null, .int 0, .ref q_2, .ref q_4, .ref q_6, .null, .int 0, .int 0])), (q_2, .inl ((q 0), 0, .inl zi)), (q_4, .inl ((q 1), 6, .inl zi)), (q_6, .inl ((q 0), 0, .inl zi)), (q_8, .inl (c_9, 0, .inr (.inr (.inr (.inr (fun _ => none))))))] ++ bw q aa Z0) := hD
  refine W.widen (k := 95) (n := 591) (Nat.le_of_ble_eq_true rfl) (Nat.le_of_ble_eq_true rfl) ?_
  have hcc : c_9 = (q 4) := ty_one (t := .array .int) hK 5 4 rfl rfl (fun _ h => FieldType.noConfusion h)
  rw [hcc] at hP hD
  have hK : va_K (dC, dI) vwCl (bty q) s := hK.sub [0, 1, 2, 3, 4] rfl
  have hP : va_P (dC, dI) vwCl ([(o, .inr (8, [.ref q_1, .null, .int 0, .ref q_2, .ref q_4, .ref q_6, .null, .int 0, .int 0])), (q_2, .inl ((q 0), 0, .inl zi)), (q_4, .inl ((q 1), 6, .inl zi)), (q_6, .inl ((q 0), 0, .inl zi)), (q_8, .inl ((q 4), 0, .inr (.inr (.inr (.inr (fun _ => none))))))] ++ bw q aa Z0) H := hP
  have hD : va_D A ([(o, .inr (8, [.ref q_1, .null, .int 0, .ref q_2, .ref q_4, .ref q_6, .null, .int 0, .int 0])), (q_2, .inl ((q 0), 0, .inl zi)), (q_4, .inl ((q 1), 6, .inl zi)), (q_6, .inl ((q 0), 0, .inl zi)), (q_8, .inl ((q 4), 0, .inr (.inr (.inr (.inr (fun _ => none))))))] ++ bw q aa Z0) := hD
  refine va_put (D := (dC, dI)) (ci := 8) (v := .ref q_8) (ty := (.array (.array .int))) (C := RX6) (T := TX6) (N := 9) hx hb hts hinX6 tyX6 tyX6_ok nmX6 hown hK hP hD hS 0 rfl rfl 6 (by decide) (hts (.fieldLink RX6 28 "BallotLoomLaw$Told" "stacks" "[[I") (by decide +kernel)) (fun _ h9 => h9) rfl (by decide +kernel) rfl rfl (Nat.le_of_ble_eq_true rfl) dX6_init_42 (fun H locs hP hD hS => ?_)
  have hP : va_P (dC, dI) vwCl ([(o, .inr (8, [.ref q_1, .null, .int 0, .ref q_2, .ref q_4, .ref q_6, .ref q_8, .int 0, .int 0])), (q_2, .inl ((q 0), 0, .inl zi)), (q_4, .inl ((q 1), 6, .inl zi)), (q_6, .inl ((q 0), 0, .inl zi)), (q_8, .inl ((q 4), 0, .inr (.inr (.inr (.inr (fun _ => none))))))] ++ bw q aa Z0) H := hP
  have hD : va_D A ([(o, .inr (8, [.ref q_1, .null, .int 0, .ref q_2, .ref q_4, .ref q_6, .ref q_8, .int 0, .int 0])), (q_2, .inl ((q 0), 0, .inl zi)), (q_4, .inl ((q 1), 6, .inl zi)), (q_6, .inl ((q 0), 0, .inl zi)), (q_8, .inl ((q 4), 0, .inr (.inr (.inr (.inr (fun _ => none))))))] ++ bw q aa Z0) := hD
  refine lv_aload_n hx hb dX6_init_45 rfl (lv_at hl 0 rfl) ?_
  refine lv_aload_n hx hb dX6_init_46 rfl (lv_at hl 1 rfl) ?_
  refine va_putF (D := (dC, dI)) (ci := 8) (v := .ref sa) (ty := (.array .int)) (C := RX6) (T := TX6) (N := 9) hx hb hts hinX6 tyX6 tyX6_ok nmX6 hown hK hP hD hS 0 rfl rfl 1 (by decide) (hts (.fieldLink RX6 32 "BallotLoomLaw$Told" "s" "[I") (by decide +kernel)) (fun _ h9 => h9) rfl hin rfl (by decide +kernel) rfl rfl (Nat.le_of_ble_eq_true rfl) dX6_init_47 (fun H locs hP hD hS => ?_)
  have hP : va_P (dC, dI) vwCl ([(o, .inr (8, [.ref q_1, .ref sa, .int 0, .ref q_2, .ref q_4, .ref q_6, .ref q_8, .int 0, .int 0])), (q_2, .inl ((q 0), 0, .inl zi)), (q_4, .inl ((q 1), 6, .inl zi)), (q_6, .inl ((q 0), 0, .inl zi)), (q_8, .inl ((q 4), 0, .inr (.inr (.inr (.inr (fun _ => none))))))] ++ bw q aa Z0) H := hP
  have hD : va_D A ([(o, .inr (8, [.ref q_1, .ref sa, .int 0, .ref q_2, .ref q_4, .ref q_6, .ref q_8, .int 0, .int 0])), (q_2, .inl ((q 0), 0, .inl zi)), (q_4, .inl ((q 1), 6, .inl zi)), (q_6, .inl ((q 0), 0, .inl zi)), (q_8, .inl ((q 4), 0, .inr (.inr (.inr (.inr (fun _ => none))))))] ++ bw q aa Z0) := hD
  refine lv_aload_n hx hb dX6_init_50 rfl (lv_at hl 0 rfl) ?_
  refine lv_iload_n hx hb dX6_init_51 rfl (lv_at hl 2 rfl) ?_
  refine va_put (D := (dC, dI)) (ci := 8) (v := .int xa) (ty := .int) (C := RX6) (T := TX6) (N := 9) hx hb hts hinX6 tyX6 tyX6_ok nmX6 hown hK hP hD hS 0 rfl rfl 2 (by decide) (hts (.fieldLink RX6 35 "BallotLoomLaw$Told" "draws" "I") (by decide +kernel)) (fun _ h9 => h9) rfl (by decide +kernel) rfl rfl (Nat.le_of_ble_eq_true rfl) dX6_init_52 (fun H locs hP hD hS => ?_)
  have hP : va_P (dC, dI) vwCl ([(o, .inr (8, [.ref q_1, .ref sa, .int xa, .ref q_2, .ref q_4, .ref q_6, .ref q_8, .int 0, .int 0])), (q_2, .inl ((q 0), 0, .inl zi)), (q_4, .inl ((q 1), 6, .inl zi)), (q_6, .inl ((q 0), 0, .inl zi)), (q_8, .inl ((q 4), 0, .inr (.inr (.inr (.inr (fun _ => none))))))] ++ bw q aa Z0) H := hP
  have hD : va_D A ([(o, .inr (8, [.ref q_1, .ref sa, .int xa, .ref q_2, .ref q_4, .ref q_6, .ref q_8, .int 0, .int 0])), (q_2, .inl ((q 0), 0, .inl zi)), (q_4, .inl ((q 1), 6, .inl zi)), (q_6, .inl ((q 0), 0, .inl zi)), (q_8, .inl ((q 4), 0, .inr (.inr (.inr (.inr (fun _ => none))))))] ++ bw q aa Z0) := hD
  rw [st0 (t5 o q_2 q_4 q_6 q_8)] at hP hD
  rw [← hu1] at hP hD
  have hP : va_P (dC, dI) vwCl (ww q (t5 o q_2 q_4 q_6 q_8) aa sa (Yi xa)) H := hP
  have hD : va_D A (ww q (t5 o q_2 q_4 q_6 q_8) aa sa (Yi xa)) := hD
  refine W.widen (k := 96) (n := 600) (Nat.le_of_ble_eq_true rfl) (Nat.le_of_ble_eq_true rfl) ?_
  exact W.vret hx hb hr (fun t ht hW => ⟨⟨⟨(t5 o q_2 q_4 q_6 q_8), aa, q⟩, rfl, trivial, rfl, hu2, po_mk ht hW hP hK hD⟩, hS.F ht⟩) hS.2.2 dX6_init_55
