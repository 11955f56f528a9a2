/-! p1: a row of rows of ints: made, filled, read (beside the kit's rows of references, over W.anewA, W.aast, W.aald). -/
section GRD
variable {p : Program} {l : Launch} {e : Env} {R : Room} {s : State} {m : MethodId} {args : Array Value} {below : List Frame} {meth : Method} {c : Code} {H : Heap} {locs : List Loc} {cells slots : Nat} {Q : State → Prop}
variable {cc : ByteArray} {pc : Nat} {ls : Array Slot} {rest : List Value} {D : va_G} {cl : List vw_C} {A : Nat → Prop} {a : Nat} {tys : List (ClassId × FieldType)} {ws : va_W} {H0 : Heap}
theorem gd_new (hexec : p.tables.exec = Jvm.exec) (hb : c.code = cc) {own : String} {index : Nat} (hown : s.vm.findClass own = some m.cls) (hclink : (Cond.classLink own index (FieldType.array .int).toString).before args s = true) (hover : va_AOA .int s) (hK : va_K D cl tys s) (hP : va_P D cl ws H) (hD : va_D A ws) (hS : va_S A H0 H locs) (hA : ∀ q, H0.size ≤ q → A q)
    {n : Int32} {N' : Nat} (hn : ¬ n < 0) (hN : n.toNatClampNeg = N') (hbytes : N' * 4 ≤ 536870912) (hcells : cells + 1 ≤ R.cells) (hslots : slots + N' ≤ R.slots) (hdg : decode cc pc = .ok (.anewarray index, 3))
    (kk : ∀ (q : Nat) (cA : ClassId) (H1 : Heap), va_K D cl (tys ++ [(cA, .array .int)]) s → va_P D cl (ws ++ [(q, .inl (cA, N', .inr (.inr (.inr (.inr (fun _ => none))))))]) H1 → va_D A (ws ++ [(q, .inl (cA, N', .inr (.inr (.inr (.inr (fun _ => none))))))]) → va_S A H0 H1 locs →
      W p l e R s m args below meth c H1 locs (cells + 1) (slots + N') Q (F0 m (pc + 3) ls (.ref q :: rest))) : W p l e R s m args below meth c H locs cells slots Q (F0 m pc ls (.int n :: rest)) := by
  subst hN
  refine W.anewA hexec hb hown hclink (va_AOA.use hover) rfl hdg rfl hn hbytes hcells hslots fun cA kA comp f1 f2 f3 f4 => ?_
  generalize hH1 : H.push ({ cls := cA, slots := Array.replicate n.toNatClampNeg .null, vm := .none } : Cell) = H1
  have z1 : H1.size = H.size + 1 := by rw [← hH1, Array.size_push]
  have e1 : H1[H.size]? = some (arrV cA n.toNatClampNeg (fun _ => .null)) := by rw [← hH1, Array.getElem?_push_size, ← arrV_new]
  have o1 : ∀ q : Nat, q < H.size → H1[q]? = H[q]? := fun q hq => by rw [← hH1, Array.getElem?_push, if_neg (Nat.ne_of_lt hq)]
  have hAr : ArrOfT s cA (.array .int) := fun N z => ⟨(fun k h => by cases h), kA, f2, comp, f3⟩
  have hk : ∀ (k : Nat) (x : Nat × va_E), ws[k]? = some x → H1[x.1]? = H[x.1]? := fun k x hx => o1 x.1 ((hP k x hx).lt)
  have one : ∀ {α : Type} {k n0 : Nat} {x y : α}, ([y] : List α)[k - n0]? = some x → n0 ≤ k → x = y := by
    intro α k n0 x y h hk
    have hz : k - n0 < 1 := (List.getElem?_eq_some_iff.mp h).1
    rw [show k - n0 = 0 by omega] at h
    exact (Option.some.inj h).symm
  refine kk H.size cA H1 ⟨hK.1, fun k x hx => ?_⟩ ((hP.kept hk).app (fun k x hx => ?_)) (hD.push hP rfl (hA _ hS.1)) ⟨Nat.le_trans hS.1 (by omega), fun x h1 h2 => (o1 x (Nat.lt_of_lt_of_le h1 hS.1)).trans (hS.2.1 x h1 h2), hS.2.2⟩
  · by_cases hl : k < tys.length
    · rw [List.getElem?_append_left hl] at hx
      exact hK.2 k x hx
    · rw [List.getElem?_append_right (by omega)] at hx
      obtain rfl := one hx (by omega)
      exact ⟨hAr, f1⟩
  · obtain rfl := one (n0 := 0) (by simpa using hx) (by omega)
    show H1[H.size]? = some (vp_cell _ _)
    rw [vp_cell_q]
    exact e1
theorem gd_self (vm : Vm) (k : ClassId) : vm.assignable k k = true := by
  show vm.assignableAux (255 + 1) k k = true
  rw [Vm.assignableAux]
  simp
theorem gd_st (hexec : p.tables.exec = Jvm.exec) (hb : c.code = cc) (hover : va_AOA .int s) (hK : va_K D cl tys s) (hP : va_P D cl ws H) (hD : va_D A ws) (hS : va_S A H0 H locs) (q0 t0 qk tk : Nat) {cA cV : ClassId} {n v nV : Nat} {f : Nat → Option Nat} {fV : Nat → Int32} (ha : ws[q0]? = some (a, .inl (cA, n, .inr (.inr (.inr (.inr f)))))) (ht : tys[t0]? = some (cA, .array .int)) (hv : ws[qk]? = some (v, .inl (cV, nV, .inl fV))) (htv : tys[tk]? = some (cV, .int)) {i : Int32} (hin : vp_in i n) (hdg : decode cc pc = .ok (.aastore, 1))
    (kk : ∀ (H1 : Heap) (locs1 : List Loc), va_P D cl (ws.set q0 (a, .inl (cA, n, .inr (.inr (.inr (.inr (va_up f i.toNatClampNeg (some v)))))))) H1 → va_D A (ws.set q0 (a, .inl (cA, n, .inr (.inr (.inr (.inr (va_up f i.toNatClampNeg (some v)))))))) → va_S A H0 H1 locs1 → W p l e R s m args below meth c H1 locs1 cells slots Q (F0 m (pc + 1) ls rest)) : W p l e R s m args below meth c H locs cells slots Q (F0 m pc ls (.ref v :: .int i :: .ref a :: rest)) := by
  have hlt : i.toNatClampNeg < n := Nat.not_le.mp fun q => hin (Or.inr q)
  have h0 : ¬ i < 0 := fun q => hin (Or.inl q)
  obtain ⟨comp, cA', kA, g1, -, g3, g4, g5⟩ := arrayOverA_spec (first := s) (o := none) (idx := []) (va_AOA.use (A := args) hover)
  have eA : cA' = cA := Option.some.inj (g5.symm.trans (hK.2 t0 _ ht).2)
  have eV : comp = cV := Option.some.inj (g1.symm.trans (hK.2 tk _ htv).2)
  subst eA
  subst eV
  obtain ⟨-, kV, hkV, cmV, hkV2⟩ := (hK.2 tk _ htv).1 nV (fun j => .int (fV j))
  refine W.aast hexec hb (hP q0 _ ha) (fun q h => by cases h) (fun h => by cases h) g3 g4 rfl hkV ⟨h0, by show _ < (arrV _ _ _).slots.size; rw [arrV_size]; exact hlt⟩ (hP qk _ hv) (fun q h => by cases h) hkV (gd_self _ _) rfl rfl hdg fun H1 e z oq => ?_
  refine kk H1 _ (hP.set hD ha ?_ oq) (hD.set ha) (hS.put z oq (hD.2 q0 _ ha))
  show H1[a]? = some (vp_cell _ _)
  rw [e]
  rw [vp_cell_q, vp_cell_q, arrV_store]
  congr 2
  funext q
  by_cases hq : q = i.toNatClampNeg
  · subst hq
    simp [updV, va_up, va_rf]
  · simp [updV, va_up, hq]
theorem gd_ld (hexec : p.tables.exec = Jvm.exec) (hb : c.code = cc) (hK : va_K D cl tys s) (hP : va_P D cl ws H) (q0 t0 : Nat) {cA : ClassId} {n : Nat} {f : Nat → Option Nat} (ha : ws[q0]? = some (a, .inl (cA, n, .inr (.inr (.inr (.inr f)))))) (ht : tys[t0]? = some (cA, .array .int)) {i : Int32} (hin : vp_in i n) {v : Value} (hv : va_rf (f i.toNatClampNeg) = v) (hdg : decode cc pc = .ok (.aaload, 1))
    (kk : W p l e R s m args below meth c H locs cells slots Q (F0 m (pc + 1) ls (v :: rest))) : W p l e R s m args below meth c H locs cells slots Q (F0 m pc ls (.int i :: .ref a :: rest)) := by
  subst hv
  have hlt : i.toNatClampNeg < n := Nat.not_le.mp fun q => hin (Or.inr q)
  exact W.aald (v := va_rf (f i.toNatClampNeg)) (ty := .array .int) hexec hb (hP q0 _ ha) ((hK.2 t0 _ ht).1 n (fun j => va_rf (f j))) rfl (fun q => by cases q) (by show ¬ (i < 0 ∨ (arrV _ _ _).slots.size ≤ _); rw [arrV_size]; exact hin) (by show (arrV _ _ _).slots[_]? = _; rw [arrV_read _ _ hlt]) rfl rfl hdg kk
end GRD
def dg_ (A : Nat → Prop) (dz : Nat) (U : State) : Prop := mo_ U ∧ em_ A dz U ∧ qo_ U
theorem dg_bl {A : Nat → Prop} {dz : Nat} (U : State) (g : JFrame) (mk : MethodId) (a : Array Value) (h : dg_ A dz U) : dg_ A dz (U.calling g mk a) := ⟨mo_bl U g mk a h.1, em_bl U g mk a h.2.1, qo_bl U g mk a h.2.2⟩
theorem dg_mk {A A1 : Nat → Prop} {dz : Nat} {s U : State} {H : Heap} {locs : List Loc} (hU : U.heap = H) (hW : s.WarmedH U.vm) (hS : va_S A s.heap H locs) (hF : ∀ q, A1 q → A q) (h : dg_ A dz s) : dg_ A1 dz U := ⟨mo_mk hW h.1, em_mk hU hW hS hF h.2.1, qo_mk hW h.2.2⟩
set_option maxHeartbeats 4000000 in
set_option maxRecDepth 100000 in
theorem c_X8_digest (l : Launch) (dC : Nat → ClassId) (dI : Nat → Nat → Nat) (mm : Nat) (pl : Nat) (ig : Nat) (sl : Nat) (kl : Nat) (dz : Nat) (sz : Nat)  : Met l yX8_digest wsX8_digest ({ frames := 6, cells := 80, slots := 400, locals := 180 }) (va_Pc [.ref mm] (fun U => pr_ dC dI [(mm, .inr (10, [.int 0, .ref pl, .ref ig, .ref sl, .ref kl, .int 0, .int 0, .int 0])), (pl, .inr (1, [.int 0, .ref dz, .int 0])), (sl, .inr (1, [.int 0, .ref dz, .int 0])), (kl, .inr (1, [.int 0, .ref dz, .int 0]))] [] sz U ∧ dg_ (va_A [(mm, .inr (10, [.int 0, .ref pl, .ref ig, .ref sl, .ref kl, .int 0, .int 0, .int 0])), (pl, .inr (1, [.int 0, .ref dz, .int 0])), (sl, .inr (1, [.int 0, .ref dz, .int 0])), (kl, .inr (1, [.int 0, .ref dz, .int 0]))] sz) dz U)) (va_Ql (fun (r : Int64) (_ : Unit) => r = mx 57 58308) (fun (_ : Unit) t => po_ dC dI [(mm, .inr (10, [.int 0, .ref pl, .ref ig, .ref sl, .ref kl, .int 0, .int 0, .int 0]))] [] (va_A [(mm, .inr (10, [.int 0, .ref pl, .ref ig, .ref sl, .ref kl, .int 0, .int 0, .int 0])), (pl, .inr (1, [.int 0, .ref dz, .int 0])), (sl, .inr (1, [.int 0, .ref dz, .int 0])), (kl, .inr (1, [.int 0, .ref dz, .int 0]))] sz) t) (va_A [(mm, .inr (10, [.int 0, .ref pl, .ref ig, .ref sl, .ref kl, .int 0, .int 0, .int 0])), (pl, .inr (1, [.int 0, .ref dz, .int 0])), (sl, .inr (1, [.int 0, .ref dz, .int 0])), (kl, .inr (1, [.int 0, .ref dz, .int 0]))] sz)) 80 400 (va_A [(mm, .inr (10, [.int 0, .ref pl, .ref ig, .ref sl, .ref kl, .int 0, .int 0, .int 0])), (pl, .inr (1, [.int 0, .ref dz, .int 0])), (sl, .inr (1, [.int 0, .ref dz, .int 0])), (kl, .inr (1, [.int 0, .ref dz, .int 0]))] sz) := by
  refine Met.ofW (cc := cX8_digest) (maxL := 10) (ret := (some .long)) (by decide) rfl ?_
  intro p e s m args below meth c s₁ B hml hv
  obtain ⟨rfl, ⟨hsz, hP, hK, hD0⟩, hXs⟩ := hv
  have hx := B.exec
  have hb := B.bytes
  have hr := B.returns
  have hts := atoms_spec (ws := wsX8_digest) B.pre
  have hown : s.vm.findClass RX8 = some m.cls := findClass_of_methodNamed B.named
  have hlocks := B.notSynchronized
  subst hsz
  have hD := hD0.self (sz := s.heap.size)
  generalize hAe : va_A [(mm, .inr (10, [.int 0, .ref pl, .ref ig, .ref sl, .ref kl, .int 0, .int 0, .int 0])), (pl, .inr (1, [.int 0, .ref dz, .int 0])), (sl, .inr (1, [.int 0, .ref dz, .int 0])), (kl, .inr (1, [.int 0, .ref dz, .int 0]))] s.heap.size = A at hD hXs ⊢
  have hA : ∀ q : Nat, s.heap.size ≤ q → A q := fun q h => by rw [← hAe]; exact Or.inr h
  have hS : va_S A s.heap s.heap [] := va_S.rf
  have hP : va_P (dC, dI) vwCl [(mm, .inr (10, [.int 0, .ref pl, .ref ig, .ref sl, .ref kl, .int 0, .int 0, .int 0])), (pl, .inr (1, [.int 0, .ref dz, .int 0])), (sl, .inr (1, [.int 0, .ref dz, .int 0])), (kl, .inr (1, [.int 0, .ref dz, .int 0]))] s.heap := hP
  have hK : va_K (dC, dI) vwCl [] s := hK
  have hl := lv_entry ([.ref mm]) (n := 10) (Nat.le_of_ble_eq_true rfl)
  rw [lg_entry_eq]
  generalize (lg_sl ([.ref mm]) ++ List.replicate (10 - (lg_sl ([.ref mm])).length) Slot.unset).toArray = ls at hl ⊢
  have hl : lv_has ls 10 [(0, .ref mm)] := hl
  refine lv_aload_n hx hb dX8_digest_0 rfl (lv_at hl 0 rfl) ?_
  refine lv_iconst (v := 0) hx hb dX8_digest_1 (by decide) ?_
  have hinX8 : ∀ w ∈ u_ws RX8 TX8 8, w ∈ wsX8_digest := by decide +kernel
  refine va_put (D := (dC, dI)) (ci := 10) (v := .int 0) (ty := .int) (C := RX8) (T := TX8) (N := 8) hx hb hts hinX8 tyX8 tyX8_ok nmX8 hown hK hP hD hS 0 rfl rfl 0 (by decide) (hts (.fieldLink RX8 26 "BallotLoomModel" "thrown" "I") (by decide +kernel)) (fun _ h9 => h9) rfl (by decide +kernel) rfl rfl (Nat.le_of_ble_eq_true rfl) dX8_digest_2 (fun H locs hP hD hS => ?_)
  have hP : va_P (dC, dI) vwCl [(mm, .inr (10, [.int 0, .ref pl, .ref ig, .ref sl, .ref kl, .int 0, .int 0, .int 0])), (pl, .inr (1, [.int 0, .ref dz, .int 0])), (sl, .inr (1, [.int 0, .ref dz, .int 0])), (kl, .inr (1, [.int 0, .ref dz, .int 0]))] H := hP
  have hD : va_D A [(mm, .inr (10, [.int 0, .ref pl, .ref ig, .ref sl, .ref kl, .int 0, .int 0, .int 0])), (pl, .inr (1, [.int 0, .ref dz, .int 0])), (sl, .inr (1, [.int 0, .ref dz, .int 0])), (kl, .inr (1, [.int 0, .ref dz, .int 0]))] := hD
  refine lv_ldc2 (v := 58308) hx hb hown (hts (.constantLong RX8 230 58308) (by decide +kernel)) dX8_digest_5 ?_
  refine lv_lstore_n (lv' := [(1, .long 58308), (0, .ref mm)]) hx hb dX8_digest_8 rfl hl (by decide) rfl (fun ls hl => ?_)
  refine lv_iconst (v := 0) hx hb dX8_digest_9 (by decide) ?_
  refine lv_istore_n (lv' := [(3, .int 0), (1, .long 58308), (0, .ref mm)]) hx hb dX8_digest_10 rfl hl (by decide) rfl (fun ls hl => ?_)
  refine lv_iload_n hx hb dX8_digest_11 rfl (lv_at hl 0 rfl) ?_
  refine lv_bipush (v := 9) hx hb dX8_digest_12 (by decide) ?_
  refine lv_icmp_gt (tgt := 36) hx hb dX8_digest_14 (by decide) (fun h9 => absurd h9 (by decide)) (fun _ => ?_)
  refine lv_lload_n hx hb dX8_digest_17 rfl (lv_at hl 1 rfl) ?_
  refine lv_ldc2 (v := 31) hx hb hown (hts (.constantLong RX8 232 31) (by decide +kernel)) dX8_digest_18 ?_
  refine lv_lmul hx hb dX8_digest_21 ?_
  refine lv_topl (fun y_1 ey_1 => ?_)
  obtain rfl : y_1 = 1807548 := ey_1.trans (by decide)
  refine lv_aload_n hx hb dX8_digest_22 rfl (lv_at hl 2 rfl) ?_
  refine lv_iload_n hx hb dX8_digest_23 rfl (lv_at hl 0 rfl) ?_
  have hPc := hP.sub (ws' := [(mm, .inr (10, [.int 0, .ref pl, .ref ig, .ref sl, .ref kl, .int 0, .int 0, .int 0])), (pl, .inr (1, [.int 0, .ref dz, .int 0])), (sl, .inr (1, [.int 0, .ref dz, .int 0])), (kl, .inr (1, [.int 0, .ref dz, .int 0]))]) [0, 1, 2, 3] rfl
  have hDc := hD.sub (ws' := [(mm, .inr (10, [.int 0, .ref pl, .ref ig, .ref sl, .ref kl, .int 0, .int 0, .int 0])), (pl, .inr (1, [.int 0, .ref dz, .int 0])), (sl, .inr (1, [.int 0, .ref dz, .int 0])), (kl, .inr (1, [.int 0, .ref dz, .int 0]))]) [0, 1, 2, 3] (by decide) rfl
  have hKc := hK.sub (tys' := []) [] rfl
  have hFc := va_free (wc := [(mm, .inr (10, [.int 0, .ref pl, .ref ig, .ref sl, .ref kl, .int 0, .int 0, .int 0])), (pl, .inr (1, [.int 0, .ref dz, .int 0])), (sl, .inr (1, [.int 0, .ref dz, .int 0])), (kl, .inr (1, [.int 0, .ref dz, .int 0]))]) hD hS hA [0, 1, 2, 3] rfl
  refine va_calli (va_runV (As := [.int 0]) (rest := [.long 1807548]) ⟨hx, hb, hml, hown, hts⟩ (c_X8_manyNow l dC dI mm pl ig sl kl dz (0 : Int32) _ (by unfold vp_in; decide)) (cwV 1 hts gX8_digest_X8_manyNow rfl rfl rfl (by decide +kernel) ⟨Nat.le_of_ble_eq_true rfl, Nat.le_of_ble_eq_true rfl⟩) ⟨pe_blind mo_bl, va_recv hKc hPc (ci := 10) (q0 := 0) rfl rfl, fun U hU hW => ⟨rfl, pr_mk hU hW hPc hKc hDc, mo_mk hW hXs.1⟩⟩ rfl rfl hl.1 rfl (lv_room (Nat.le_of_ble_eq_true rfl)) dX8_digest_24 ⟨Nat.le_of_ble_eq_true rfl, Nat.le_of_ble_eq_true rfl⟩) hS (fun q _ h => hFc q h) hFc (fun r_3 u_2 t H1 locs ht hvm hw hB hz1 hk1 hS => ?_)
  obtain ⟨hP1, hK1, hD1⟩ := hB
  rw [ht] at hP1
  obtain ⟨hP, hD⟩ := va_join (wr := []) (w1 := [(mm, .inr (10, [.int 0, .ref pl, .ref ig, .ref sl, .ref kl, .int 0, .int 0, .int 0])), (pl, .inr (1, [.int 0, .ref dz, .int 0])), (sl, .inr (1, [.int 0, .ref dz, .int 0])), (kl, .inr (1, [.int 0, .ref dz, .int 0]))]) hP hD [0, 1, 2, 3] [] rfl rfl (by decide) (by decide) hk1 hFc hP1 hD1
  generalize H1 = H at hP hS ⊢
  have hP : va_P (dC, dI) vwCl [(mm, .inr (10, [.int 0, .ref pl, .ref ig, .ref sl, .ref kl, .int 0, .int 0, .int 0])), (pl, .inr (1, [.int 0, .ref dz, .int 0])), (sl, .inr (1, [.int 0, .ref dz, .int 0])), (kl, .inr (1, [.int 0, .ref dz, .int 0]))] H := hP
  have hD : va_D A [(mm, .inr (10, [.int 0, .ref pl, .ref ig, .ref sl, .ref kl, .int 0, .int 0, .int 0])), (pl, .inr (1, [.int 0, .ref dz, .int 0])), (sl, .inr (1, [.int 0, .ref dz, .int 0])), (kl, .inr (1, [.int 0, .ref dz, .int 0]))] := hD
  refine W.widen (k := 1) (n := 10) (Nat.le_of_ble_eq_true rfl) (Nat.le_of_ble_eq_true rfl) ?_
  have hw : r_3 = 0 := hw
  subst hw
  refine lv_i2l (v := 0) hx hb dX8_digest_27 (by decide) ?_
  refine lv_ladd hx hb dX8_digest_28 ?_
  refine lv_topl (fun y_4 ey_4 => ?_)
  obtain rfl : y_4 = 1807548 := ey_4.trans (by decide)
  refine lv_lstore_n (lv' := [(1, .long 1807548), (3, .int 0), (0, .ref mm)]) hx hb dX8_digest_29 rfl hl (by decide) rfl (fun ls hl => ?_)
  refine lv_iinc (k := 1) (v := 1) (lv' := [(3, .int 1), (1, .long 1807548), (0, .ref mm)]) hx hb dX8_digest_30 hl rfl (by decide) (by decide) rfl (fun ls hl => ?_)
  refine lv_goto (tgt := 11) hx hb dX8_digest_33 (by decide) ?_
  refine lv_iload_n hx hb dX8_digest_11 rfl (lv_at hl 0 rfl) ?_
  refine lv_bipush (v := 9) hx hb dX8_digest_12 (by decide) ?_
  refine lv_icmp_gt (tgt := 36) hx hb dX8_digest_14 (by decide) (fun h9 => absurd h9 (by decide)) (fun _ => ?_)
  refine lv_lload_n hx hb dX8_digest_17 rfl (lv_at hl 1 rfl) ?_
  refine lv_ldc2 (v := 31) hx hb hown (hts (.constantLong RX8 232 31) (by decide +kernel)) dX8_digest_18 ?_
  refine lv_lmul hx hb dX8_digest_21 ?_
  refine lv_topl (fun y_5 ey_5 => ?_)
  obtain rfl : y_5 = 56033988 := ey_5.trans (by decide)
  refine lv_aload_n hx hb dX8_digest_22 rfl (lv_at hl 2 rfl) ?_
  refine lv_iload_n hx hb dX8_digest_23 rfl (lv_at hl 0 rfl) ?_
  have hPc := hP.sub (ws' := [(mm, .inr (10, [.int 0, .ref pl, .ref ig, .ref sl, .ref kl, .int 0, .int 0, .int 0])), (pl, .inr (1, [.int 0, .ref dz, .int 0])), (sl, .inr (1, [.int 0, .ref dz, .int 0])), (kl, .inr (1, [.int 0, .ref dz, .int 0]))]) [0, 1, 2, 3] rfl
  have hDc := hD.sub (ws' := [(mm, .inr (10, [.int 0, .ref pl, .ref ig, .ref sl, .ref kl, .int 0, .int 0, .int 0])), (pl, .inr (1, [.int 0, .ref dz, .int 0])), (sl, .inr (1, [.int 0, .ref dz, .int 0])), (kl, .inr (1, [.int 0, .ref dz, .int 0]))]) [0, 1, 2, 3] (by decide) rfl
  have hKc := hK.sub (tys' := []) [] rfl
  have hFc := va_free (wc := [(mm, .inr (10, [.int 0, .ref pl, .ref ig, .ref sl, .ref kl, .int 0, .int 0, .int 0])), (pl, .inr (1, [.int 0, .ref dz, .int 0])), (sl, .inr (1, [.int 0, .ref dz, .int 0])), (kl, .inr (1, [.int 0, .ref dz, .int 0]))]) hD hS hA [0, 1, 2, 3] rfl
  refine va_calli (va_runV (As := [.int 1]) (rest := [.long 56033988]) ⟨hx, hb, hml, hown, hts⟩ (c_X8_manyNow l dC dI mm pl ig sl kl dz (1 : Int32) _ (by unfold vp_in; decide)) (cwV 1 hts gX8_digest_X8_manyNow rfl rfl rfl (by decide +kernel) ⟨Nat.le_of_ble_eq_true rfl, Nat.le_of_ble_eq_true rfl⟩) ⟨pe_blind mo_bl, va_recv hKc hPc (ci := 10) (q0 := 0) rfl rfl, fun U hU hW => ⟨rfl, pr_mk hU hW hPc hKc hDc, mo_mk hW hXs.1⟩⟩ rfl rfl hl.1 rfl (lv_room (Nat.le_of_ble_eq_true rfl)) dX8_digest_24 ⟨Nat.le_of_ble_eq_true rfl, Nat.le_of_ble_eq_true rfl⟩) hS (fun q _ h => hFc q h) hFc (fun r_7 u_6 t H1 locs ht hvm hw hB hz1 hk1 hS => ?_)
  obtain ⟨hP1, hK1, hD1⟩ := hB
  rw [ht] at hP1
  obtain ⟨hP, hD⟩ := va_join (wr := []) (w1 := [(mm, .inr (10, [.int 0, .ref pl, .ref ig, .ref sl, .ref kl, .int 0, .int 0, .int 0])), (pl, .inr (1, [.int 0, .ref dz, .int 0])), (sl, .inr (1, [.int 0, .ref dz, .int 0])), (kl, .inr (1, [.int 0, .ref dz, .int 0]))]) hP hD [0, 1, 2, 3] [] rfl rfl (by decide) (by decide) hk1 hFc hP1 hD1
  generalize H1 = H at hP hS ⊢
  have hP : va_P (dC, dI) vwCl [(mm, .inr (10, [.int 0, .ref pl, .ref ig, .ref sl, .ref kl, .int 0, .int 0, .int 0])), (pl, .inr (1, [.int 0, .ref dz, .int 0])), (sl, .inr (1, [.int 0, .ref dz, .int 0])), (kl, .inr (1, [.int 0, .ref dz, .int 0]))] H := hP
  have hD : va_D A [(mm, .inr (10, [.int 0, .ref pl, .ref ig, .ref sl, .ref kl, .int 0, .int 0, .int 0])), (pl, .inr (1, [.int 0, .ref dz, .int 0])), (sl, .inr (1, [.int 0, .ref dz, .int 0])), (kl, .inr (1, [.int 0, .ref dz, .int 0]))] := hD
  refine W.widen (k := 2) (n := 20) (Nat.le_of_ble_eq_true rfl) (Nat.le_of_ble_eq_true rfl) ?_
  have hw : r_7 = 0 := hw
  subst hw
  refine lv_i2l (v := 0) hx hb dX8_digest_27 (by decide) ?_
  refine lv_ladd hx hb dX8_digest_28 ?_
  refine lv_topl (fun y_8 ey_8 => ?_)
  obtain rfl : y_8 = 56033988 := ey_8.trans (by decide)
  refine lv_lstore_n (lv' := [(1, .long 56033988), (3, .int 1), (0, .ref mm)]) hx hb dX8_digest_29 rfl hl (by decide) rfl (fun ls hl => ?_)
  refine lv_iinc (k := 1) (v := 2) (lv' := [(3, .int 2), (1, .long 56033988), (0, .ref mm)]) hx hb dX8_digest_30 hl rfl (by decide) (by decide) rfl (fun ls hl => ?_)
  refine lv_goto (tgt := 11) hx hb dX8_digest_33 (by decide) ?_
  refine lv_iload_n hx hb dX8_digest_11 rfl (lv_at hl 0 rfl) ?_
  refine lv_bipush (v := 9) hx hb dX8_digest_12 (by decide) ?_
  refine lv_icmp_gt (tgt := 36) hx hb dX8_digest_14 (by decide) (fun h9 => absurd h9 (by decide)) (fun _ => ?_)
  refine lv_lload_n hx hb dX8_digest_17 rfl (lv_at hl 1 rfl) ?_
  refine lv_ldc2 (v := 31) hx hb hown (hts (.constantLong RX8 232 31) (by decide +kernel)) dX8_digest_18 ?_
  refine lv_lmul hx hb dX8_digest_21 ?_
  refine lv_topl (fun y_9 ey_9 => ?_)
  obtain rfl : y_9 = 1737053628 := ey_9.trans (by decide)
  refine lv_aload_n hx hb dX8_digest_22 rfl (lv_at hl 2 rfl) ?_
  refine lv_iload_n hx hb dX8_digest_23 rfl (lv_at hl 0 rfl) ?_
  have hPc := hP.sub (ws' := [(mm, .inr (10, [.int 0, .ref pl, .ref ig, .ref sl, .ref kl, .int 0, .int 0, .int 0])), (pl, .inr (1, [.int 0, .ref dz, .int 0])), (sl, .inr (1, [.int 0, .ref dz, .int 0])), (kl, .inr (1, [.int 0, .ref dz, .int 0]))]) [0, 1, 2, 3] rfl
  have hDc := hD.sub (ws' := [(mm, .inr (10, [.int 0, .ref pl, .ref ig, .ref sl, .ref kl, .int 0, .int 0, .int 0])), (pl, .inr (1, [.int 0, .ref dz, .int 0])), (sl, .inr (1, [.int 0, .ref dz, .int 0])), (kl, .inr (1, [.int 0, .ref dz, .int 0]))]) [0, 1, 2, 3] (by decide) rfl
  have hKc := hK.sub (tys' := []) [] rfl
  have hFc := va_free (wc := [(mm, .inr (10, [.int 0, .ref pl, .ref ig, .ref sl, .ref kl, .int 0, .int 0, .int 0])), (pl, .inr (1, [.int 0, .ref dz, .int 0])), (sl, .inr (1, [.int 0, .ref dz, .int 0])), (kl, .inr (1, [.int 0, .ref dz, .int 0]))]) hD hS hA [0, 1, 2, 3] rfl
  refine va_calli (va_runV (As := [.int 2]) (rest := [.long 1737053628]) ⟨hx, hb, hml, hown, hts⟩ (c_X8_manyNow l dC dI mm pl ig sl kl dz (2 : Int32) _ (by unfold vp_in; decide)) (cwV 1 hts gX8_digest_X8_manyNow rfl rfl rfl (by decide +kernel) ⟨Nat.le_of_ble_eq_true rfl, Nat.le_of_ble_eq_true rfl⟩) ⟨pe_blind mo_bl, va_recv hKc hPc (ci := 10) (q0 := 0) rfl rfl, fun U hU hW => ⟨rfl, pr_mk hU hW hPc hKc hDc, mo_mk hW hXs.1⟩⟩ rfl rfl hl.1 rfl (lv_room (Nat.le_of_ble_eq_true rfl)) dX8_digest_24 ⟨Nat.le_of_ble_eq_true rfl, Nat.le_of_ble_eq_true rfl⟩) hS (fun q _ h => hFc q h) hFc (fun r_11 u_10 t H1 locs ht hvm hw hB hz1 hk1 hS => ?_)
  obtain ⟨hP1, hK1, hD1⟩ := hB
  rw [ht] at hP1
  obtain ⟨hP, hD⟩ := va_join (wr := []) (w1 := [(mm, .inr (10, [.int 0, .ref pl, .ref ig, .ref sl, .ref kl, .int 0, .int 0, .int 0])), (pl, .inr (1, [.int 0, .ref dz, .int 0])), (sl, .inr (1, [.int 0, .ref dz, .int 0])), (kl, .inr (1, [.int 0, .ref dz, .int 0]))]) hP hD [0, 1, 2, 3] [] rfl rfl (by decide) (by decide) hk1 hFc hP1 hD1
  generalize H1 = H at hP hS ⊢
  have hP : va_P (dC, dI) vwCl [(mm, .inr (10, [.int 0, .ref pl, .ref ig, .ref sl, .ref kl, .int 0, .int 0, .int 0])), (pl, .inr (1, [.int 0, .ref dz, .int 0])), (sl, .inr (1, [.int 0, .ref dz, .int 0])), (kl, .inr (1, [.int 0, .ref dz, .int 0]))] H := hP
  have hD : va_D A [(mm, .inr (10, [.int 0, .ref pl, .ref ig, .ref sl, .ref kl, .int 0, .int 0, .int 0])), (pl, .inr (1, [.int 0, .ref dz, .int 0])), (sl, .inr (1, [.int 0, .ref dz, .int 0])), (kl, .inr (1, [.int 0, .ref dz, .int 0]))] := hD
  refine W.widen (k := 3) (n := 30) (Nat.le_of_ble_eq_true rfl) (Nat.le_of_ble_eq_true rfl) ?_
  have hw : r_11 = 0 := hw
  subst hw
  refine lv_i2l (v := 0) hx hb dX8_digest_27 (by decide) ?_
  refine lv_ladd hx hb dX8_digest_28 ?_
  refine lv_topl (fun y_12 ey_12 => ?_)
  obtain rfl : y_12 = 1737053628 := ey_12.trans (by decide)
  refine lv_lstore_n (lv' := [(1, .long 1737053628), (3, .int 2), (0, .ref mm)]) hx hb dX8_digest_29 rfl hl (by decide) rfl (fun ls hl => ?_)
  refine lv_iinc (k := 1) (v := 3) (lv' := [(3, .int 3), (1, .long 1737053628), (0, .ref mm)]) hx hb dX8_digest_30 hl rfl (by decide) (by decide) rfl (fun ls hl => ?_)
  refine lv_goto (tgt := 11) hx hb dX8_digest_33 (by decide) ?_
  refine lv_iload_n hx hb dX8_digest_11 rfl (lv_at hl 0 rfl) ?_
  refine lv_bipush (v := 9) hx hb dX8_digest_12 (by decide) ?_
  refine lv_icmp_gt (tgt := 36) hx hb dX8_digest_14 (by decide) (fun h9 => absurd h9 (by decide)) (fun _ => ?_)
  refine lv_lload_n hx hb dX8_digest_17 rfl (lv_at hl 1 rfl) ?_
  refine lv_ldc2 (v := 31) hx hb hown (hts (.constantLong RX8 232 31) (by decide +kernel)) dX8_digest_18 ?_
  refine lv_lmul hx hb dX8_digest_21 ?_
  refine lv_topl (fun y_13 ey_13 => ?_)
  obtain rfl : y_13 = 53848662468 := ey_13.trans (by decide)
  refine lv_aload_n hx hb dX8_digest_22 rfl (lv_at hl 2 rfl) ?_
  refine lv_iload_n hx hb dX8_digest_23 rfl (lv_at hl 0 rfl) ?_
  have hPc := hP.sub (ws' := [(mm, .inr (10, [.int 0, .ref pl, .ref ig, .ref sl, .ref kl, .int 0, .int 0, .int 0])), (pl, .inr (1, [.int 0, .ref dz, .int 0])), (sl, .inr (1, [.int 0, .ref dz, .int 0])), (kl, .inr (1, [.int 0, .ref dz, .int 0]))]) [0, 1, 2, 3] rfl
  have hDc := hD.sub (ws' := [(mm, .inr (10, [.int 0, .ref pl, .ref ig, .ref sl, .ref kl, .int 0, .int 0, .int 0])), (pl, .inr (1, [.int 0, .ref dz, .int 0])), (sl, .inr (1, [.int 0, .ref dz, .int 0])), (kl, .inr (1, [.int 0, .ref dz, .int 0]))]) [0, 1, 2, 3] (by decide) rfl
  have hKc := hK.sub (tys' := []) [] rfl
  have hFc := va_free (wc := [(mm, .inr (10, [.int 0, .ref pl, .ref ig, .ref sl, .ref kl, .int 0, .int 0, .int 0])), (pl, .inr (1, [.int 0, .ref dz, .int 0])), (sl, .inr (1, [.int 0, .ref dz, .int 0])), (kl, .inr (1, [.int 0, .ref dz, .int 0]))]) hD hS hA [0, 1, 2, 3] rfl
  refine va_calli (va_runV (As := [.int 3]) (rest := [.long 53848662468]) ⟨hx, hb, hml, hown, hts⟩ (c_X8_manyNow l dC dI mm pl ig sl kl dz (3 : Int32) _ (by unfold vp_in; decide)) (cwV 1 hts gX8_digest_X8_manyNow rfl rfl rfl (by decide +kernel) ⟨Nat.le_of_ble_eq_true rfl, Nat.le_of_ble_eq_true rfl⟩) ⟨pe_blind mo_bl, va_recv hKc hPc (ci := 10) (q0 := 0) rfl rfl, fun U hU hW => ⟨rfl, pr_mk hU hW hPc hKc hDc, mo_mk hW hXs.1⟩⟩ rfl rfl hl.1 rfl (lv_room (Nat.le_of_ble_eq_true rfl)) dX8_digest_24 ⟨Nat.le_of_ble_eq_true rfl, Nat.le_of_ble_eq_true rfl⟩) hS (fun q _ h => hFc q h) hFc (fun r_15 u_14 t H1 locs ht hvm hw hB hz1 hk1 hS => ?_)
  obtain ⟨hP1, hK1, hD1⟩ := hB
  rw [ht] at hP1
  obtain ⟨hP, hD⟩ := va_join (wr := []) (w1 := [(mm, .inr (10, [.int 0, .ref pl, .ref ig, .ref sl, .ref kl, .int 0, .int 0, .int 0])), (pl, .inr (1, [.int 0, .ref dz, .int 0])), (sl, .inr (1, [.int 0, .ref dz, .int 0])), (kl, .inr (1, [.int 0, .ref dz, .int 0]))]) hP hD [0, 1, 2, 3] [] rfl rfl (by decide) (by decide) hk1 hFc hP1 hD1
  generalize H1 = H at hP hS ⊢
  have hP : va_P (dC, dI) vwCl [(mm, .inr (10, [.int 0, .ref pl, .ref ig, .ref sl, .ref kl, .int 0, .int 0, .int 0])), (pl, .inr (1, [.int 0, .ref dz, .int 0])), (sl, .inr (1, [.int 0, .ref dz, .int 0])), (kl, .inr (1, [.int 0, .ref dz, .int 0]))] H := hP
  have hD : va_D A [(mm, .inr (10, [.int 0, .ref pl, .ref ig, .ref sl, .ref kl, .int 0, .int 0, .int 0])), (pl, .inr (1, [.int 0, .ref dz, .int 0])), (sl, .inr (1, [.int 0, .ref dz, .int 0])), (kl, .inr (1, [.int 0, .ref dz, .int 0]))] := hD
  refine W.widen (k := 4) (n := 40) (Nat.le_of_ble_eq_true rfl) (Nat.le_of_ble_eq_true rfl) ?_
  have hw : r_15 = 0 := hw
  subst hw
  refine lv_i2l (v := 0) hx hb dX8_digest_27 (by decide) ?_
  refine lv_ladd hx hb dX8_digest_28 ?_
  refine lv_topl (fun y_16 ey_16 => ?_)
  obtain rfl : y_16 = 53848662468 := ey_16.trans (by decide)
  refine lv_lstore_n (lv' := [(1, .long 53848662468), (3, .int 3), (0, .ref mm)]) hx hb dX8_digest_29 rfl hl (by decide) rfl (fun ls hl => ?_)
  refine lv_iinc (k := 1) (v := 4) (lv' := [(3, .int 4), (1, .long 53848662468), (0, .ref mm)]) hx hb dX8_digest_30 hl rfl (by decide) (by decide) rfl (fun ls hl => ?_)
  refine lv_goto (tgt := 11) hx hb dX8_digest_33 (by decide) ?_
  refine lv_iload_n hx hb dX8_digest_11 rfl (lv_at hl 0 rfl) ?_
  refine lv_bipush (v := 9) hx hb dX8_digest_12 (by decide) ?_
  refine lv_icmp_gt (tgt := 36) hx hb dX8_digest_14 (by decide) (fun h9 => absurd h9 (by decide)) (fun _ => ?_)
  refine lv_lload_n hx hb dX8_digest_17 rfl (lv_at hl 1 rfl) ?_
  refine lv_ldc2 (v := 31) hx hb hown (hts (.constantLong RX8 232 31) (by decide +kernel)) dX8_digest_18 ?_
  refine lv_lmul hx hb dX8_digest_21 ?_
  refine lv_topl (fun y_17 ey_17 => ?_)
  obtain rfl : y_17 = 1669308536508 := ey_17.trans (by decide)
  refine lv_aload_n hx hb dX8_digest_22 rfl (lv_at hl 2 rfl) ?_
  refine lv_iload_n hx hb dX8_digest_23 rfl (lv_at hl 0 rfl) ?_
  have hPc := hP.sub (ws' := [(mm, .inr (10, [.int 0, .ref pl, .ref ig, .ref sl, .ref kl, .int 0, .int 0, .int 0])), (pl, .inr (1, [.int 0, .ref dz, .int 0])), (sl, .inr (1, [.int 0, .ref dz, .int 0])), (kl, .inr (1, [.int 0, .ref dz, .int 0]))]) [0, 1, 2, 3] rfl
  have hDc := hD.sub (ws' := [(mm, .inr (10, [.int 0, .ref pl, .ref ig, .ref sl, .ref kl, .int 0, .int 0, .int 0])), (pl, .inr (1, [.int 0, .ref dz, .int 0])), (sl, .inr (1, [.int 0, .ref dz, .int 0])), (kl, .inr (1, [.int 0, .ref dz, .int 0]))]) [0, 1, 2, 3] (by decide) rfl
  have hKc := hK.sub (tys' := []) [] rfl
  have hFc := va_free (wc := [(mm, .inr (10, [.int 0, .ref pl, .ref ig, .ref sl, .ref kl, .int 0, .int 0, .int 0])), (pl, .inr (1, [.int 0, .ref dz, .int 0])), (sl, .inr (1, [.int 0, .ref dz, .int 0])), (kl, .inr (1, [.int 0, .ref dz, .int 0]))]) hD hS hA [0, 1, 2, 3] rfl
  refine va_calli (va_runV (As := [.int 4]) (rest := [.long 1669308536508]) ⟨hx, hb, hml, hown, hts⟩ (c_X8_manyNow l dC dI mm pl ig sl kl dz (4 : Int32) _ (by unfold vp_in; decide)) (cwV 1 hts gX8_digest_X8_manyNow rfl rfl rfl (by decide +kernel) ⟨Nat.le_of_ble_eq_true rfl, Nat.le_of_ble_eq_true rfl⟩) ⟨pe_blind mo_bl, va_recv hKc hPc (ci := 10) (q0 := 0) rfl rfl, fun U hU hW => ⟨rfl, pr_mk hU hW hPc hKc hDc, mo_mk hW hXs.1⟩⟩ rfl rfl hl.1 rfl (lv_room (Nat.le_of_ble_eq_true rfl)) dX8_digest_24 ⟨Nat.le_of_ble_eq_true rfl, Nat.le_of_ble_eq_true rfl⟩) hS (fun q _ h => hFc q h) hFc (fun r_19 u_18 t H1 locs ht hvm hw hB hz1 hk1 hS => ?_)
  obtain ⟨hP1, hK1, hD1⟩ := hB
  rw [ht] at hP1
  obtain ⟨hP, hD⟩ := va_join (wr := []) (w1 := [(mm, .inr (10, [.int 0, .ref pl, .ref ig, .ref sl, .ref kl, .int 0, .int 0, .int 0])), (pl, .inr (1, [.int 0, .ref dz, .int 0])), (sl, .inr (1, [.int 0, .ref dz, .int 0])), (kl, .inr (1, [.int 0, .ref dz, .int 0]))]) hP hD [0, 1, 2, 3] [] rfl rfl (by decide) (by decide) hk1 hFc hP1 hD1
  generalize H1 = H at hP hS ⊢
  have hP : va_P (dC, dI) vwCl [(mm, .inr (10, [.int 0, .ref pl, .ref ig, .ref sl, .ref kl, .int 0, .int 0, .int 0])), (pl, .inr (1, [.int 0, .ref dz, .int 0])), (sl, .inr (1, [.int 0, .ref dz, .int 0])), (kl, .inr (1, [.int 0, .ref dz, .int 0]))] H := hP
  have hD : va_D A [(mm, .inr (10, [.int 0, .ref pl, .ref ig, .ref sl, .ref kl, .int 0, .int 0, .int 0])), (pl, .inr (1, [.int 0, .ref dz, .int 0])), (sl, .inr (1, [.int 0, .ref dz, .int 0])), (kl, .inr (1, [.int 0, .ref dz, .int 0]))] := hD
  refine W.widen (k := 5) (n := 50) (Nat.le_of_ble_eq_true rfl) (Nat.le_of_ble_eq_true rfl) ?_
  have hw : r_19 = 0 := hw
  subst hw
  refine lv_i2l (v := 0) hx hb dX8_digest_27 (by decide) ?_
  refine lv_ladd hx hb dX8_digest_28 ?_
  refine lv_topl (fun y_20 ey_20 => ?_)
  obtain rfl : y_20 = 1669308536508 := ey_20.trans (by decide)
  refine lv_lstore_n (lv' := [(1, .long 1669308536508), (3, .int 4), (0, .ref mm)]) hx hb dX8_digest_29 rfl hl (by decide) rfl (fun ls hl => ?_)
  refine lv_iinc (k := 1) (v := 5) (lv' := [(3, .int 5), (1, .long 1669308536508), (0, .ref mm)]) hx hb dX8_digest_30 hl rfl (by decide) (by decide) rfl (fun ls hl => ?_)
  refine lv_goto (tgt := 11) hx hb dX8_digest_33 (by decide) ?_
  refine lv_iload_n hx hb dX8_digest_11 rfl (lv_at hl 0 rfl) ?_
  refine lv_bipush (v := 9) hx hb dX8_digest_12 (by decide) ?_
  refine lv_icmp_gt (tgt := 36) hx hb dX8_digest_14 (by decide) (fun h9 => absurd h9 (by decide)) (fun _ => ?_)
  refine lv_lload_n hx hb dX8_digest_17 rfl (lv_at hl 1 rfl) ?_
  refine lv_ldc2 (v := 31) hx hb hown (hts (.constantLong RX8 232 31) (by decide +kernel)) dX8_digest_18 ?_
  refine lv_lmul hx hb dX8_digest_21 ?_
  refine lv_topl (fun y_21 ey_21 => ?_)
  obtain rfl : y_21 = 51748564631748 := ey_21.trans (by decide)
  refine lv_aload_n hx hb dX8_digest_22 rfl (lv_at hl 2 rfl) ?_
  refine lv_iload_n hx hb dX8_digest_23 rfl (lv_at hl 0 rfl) ?_
  have hPc := hP.sub (ws' := [(mm, .inr (10, [.int 0, .ref pl, .ref ig, .ref sl, .ref kl, .int 0, .int 0, .int 0])), (pl, .inr (1, [.int 0, .ref dz, .int 0])), (sl, .inr (1, [.int 0, .ref dz, .int 0])), (kl, .inr (1, [.int 0, .ref dz, .int 0]))]) [0, 1, 2, 3] rfl
  have hDc := hD.sub (ws' := [(mm, .inr (10, [.int 0, .ref pl, .ref ig, .ref sl, .ref kl, .int 0, .int 0, .int 0])), (pl, .inr (1, [.int 0, .ref dz, .int 0])), (sl, .inr (1, [.int 0, .ref dz, .int 0])), (kl, .inr (1, [.int 0, .ref dz, .int 0]))]) [0, 1, 2, 3] (by decide) rfl
  have hKc := hK.sub (tys' := []) [] rfl
  have hFc := va_free (wc := [(mm, .inr (10, [.int 0, .ref pl, .ref ig, .ref sl, .ref kl, .int 0, .int 0, .int 0])), (pl, .inr (1, [.int 0, .ref dz, .int 0])), (sl, .inr (1, [.int 0, .ref dz, .int 0])), (kl, .inr (1, [.int 0, .ref dz, .int 0]))]) hD hS hA [0, 1, 2, 3] rfl
  refine va_calli (va_runV (As := [.int 5]) (rest := [.long 51748564631748]) ⟨hx, hb, hml, hown, hts⟩ (c_X8_manyNow l dC dI mm pl ig sl kl dz (5 : Int32) _ (by unfold vp_in; decide)) (cwV 1 hts gX8_digest_X8_manyNow rfl rfl rfl (by decide +kernel) ⟨Nat.le_of_ble_eq_true rfl, Nat.le_of_ble_eq_true rfl⟩) ⟨pe_blind mo_bl, va_recv hKc hPc (ci := 10) (q0 := 0) rfl rfl, fun U hU hW => ⟨rfl, pr_mk hU hW hPc hKc hDc, mo_mk hW hXs.1⟩⟩ rfl rfl hl.1 rfl (lv_room (Nat.le_of_ble_eq_true rfl)) dX8_digest_24 ⟨Nat.le_of_ble_eq_true rfl, Nat.le_of_ble_eq_true rfl⟩) hS (fun q _ h => hFc q h) hFc (fun r_23 u_22 t H1 locs ht hvm hw hB hz1 hk1 hS => ?_)
  obtain ⟨hP1, hK1, hD1⟩ := hB
  rw [ht] at hP1
  obtain ⟨hP, hD⟩ := va_join (wr := []) (w1 := [(mm, .inr (10, [.int 0, .ref pl, .ref ig, .ref sl, .ref kl, .int 0, .int 0, .int 0])), (pl, .inr (1, [.int 0, .ref dz, .int 0])), (sl, .inr (1, [.int 0, .ref dz, .int 0])), (kl, .inr (1, [.int 0, .ref dz, .int 0]))]) hP hD [0, 1, 2, 3] [] rfl rfl (by decide) (by decide) hk1 hFc hP1 hD1
  generalize H1 = H at hP hS ⊢
  have hP : va_P (dC, dI) vwCl [(mm, .inr (10, [.int 0, .ref pl, .ref ig, .ref sl, .ref kl, .int 0, .int 0, .int 0])), (pl, .inr (1, [.int 0, .ref dz, .int 0])), (sl, .inr (1, [.int 0, .ref dz, .int 0])), (kl, .inr (1, [.int 0, .ref dz, .int 0]))] H := hP
  have hD : va_D A [(mm, .inr (10, [.int 0, .ref pl, .ref ig, .ref sl, .ref kl, .int 0, .int 0, .int 0])), (pl, .inr (1, [.int 0, .ref dz, .int 0])), (sl, .inr (1, [.int 0, .ref dz, .int 0])), (kl, .inr (1, [.int 0, .ref dz, .int 0]))] := hD
  refine W.widen (k := 6) (n := 60) (Nat.le_of_ble_eq_true rfl) (Nat.le_of_ble_eq_true rfl) ?_
  have hw : r_23 = 0 := hw
  subst hw
  refine lv_i2l (v := 0) hx hb dX8_digest_27 (by decide) ?_
  refine lv_ladd hx hb dX8_digest_28 ?_
  refine lv_topl (fun y_24 ey_24 => ?_)
  obtain rfl : y_24 = 51748564631748 := ey_24.trans (by decide)
  refine lv_lstore_n (lv' := [(1, .long 51748564631748), (3, .int 5), (0, .ref mm)]) hx hb dX8_digest_29 rfl hl (by decide) rfl (fun ls hl => ?_)
  refine lv_iinc (k := 1) (v := 6) (lv' := [(3, .int 6), (1, .long 51748564631748), (0, .ref mm)]) hx hb dX8_digest_30 hl rfl (by decide) (by decide) rfl (fun ls hl => ?_)
  refine lv_goto (tgt := 11) hx hb dX8_digest_33 (by decide) ?_
  refine lv_iload_n hx hb dX8_digest_11 rfl (lv_at hl 0 rfl) ?_
  refine lv_bipush (v := 9) hx hb dX8_digest_12 (by decide) ?_
  refine lv_icmp_gt (tgt := 36) hx hb dX8_digest_14 (by decide) (fun h9 => absurd h9 (by decide)) (fun _ => ?_)
  refine lv_lload_n hx hb dX8_digest_17 rfl (lv_at hl 1 rfl) ?_
  refine lv_ldc2 (v := 31) hx hb hown (hts (.constantLong RX8 232 31) (by decide +kernel)) dX8_digest_18 ?_
  refine lv_lmul hx hb dX8_digest_21 ?_
  refine lv_topl (fun y_25 ey_25 => ?_)
  obtain rfl : y_25 = 1604205503584188 := ey_25.trans (by decide)
  refine lv_aload_n hx hb dX8_digest_22 rfl (lv_at hl 2 rfl) ?_
  refine lv_iload_n hx hb dX8_digest_23 rfl (lv_at hl 0 rfl) ?_
  have hPc := hP.sub (ws' := [(mm, .inr (10, [.int 0, .ref pl, .ref ig, .ref sl, .ref kl, .int 0, .int 0, .int 0])), (pl, .inr (1, [.int 0, .ref dz, .int 0])), (sl, .inr (1, [.int 0, .ref dz, .int 0])), (kl, .inr (1, [.int 0, .ref dz, .int 0]))]) [0, 1, 2, 3] rfl
  have hDc := hD.sub (ws' := [(mm, .inr (10, [.int 0, .ref pl, .ref ig, .ref sl, .ref kl, .int 0, .int 0, .int 0])), (pl, .inr (1, [.int 0, .ref dz, .int 0])), (sl, .inr (1, [.int 0, .ref dz, .int 0])), (kl, .inr (1, [.int 0, .ref dz, .int 0]))]) [0, 1, 2, 3] (by decide) rfl
  have hKc := hK.sub (tys' := []) [] rfl
  have hFc := va_free (wc := [(mm, .inr (10, [.int 0, .ref pl, .ref ig, .ref sl, .ref kl, .int 0, .int 0, .int 0])), (pl, .inr (1, [.int 0, .ref dz, .int 0])), (sl, .inr (1, [.int 0, .ref dz, .int 0])), (kl, .inr (1, [.int 0, .ref dz, .int 0]))]) hD hS hA [0, 1, 2, 3] rfl
  refine va_calli (va_runV (As := [.int 6]) (rest := [.long 1604205503584188]) ⟨hx, hb, hml, hown, hts⟩ (c_X8_manyNow l dC dI mm pl ig sl kl dz (6 : Int32) _ (by unfold vp_in; decide)) (cwV 1 hts gX8_digest_X8_manyNow rfl rfl rfl (by decide +kernel) ⟨Nat.le_of_ble_eq_true rfl, Nat.le_of_ble_eq_true rfl⟩) ⟨pe_blind mo_bl, va_recv hKc hPc (ci := 10) (q0 := 0) rfl rfl, fun U hU hW => ⟨rfl, pr_mk hU hW hPc hKc hDc, mo_mk hW hXs.1⟩⟩ rfl rfl hl.1 rfl (lv_room (Nat.le_of_ble_eq_true rfl)) dX8_digest_24 ⟨Nat.le_of_ble_eq_true rfl, Nat.le_of_ble_eq_true rfl⟩) hS (fun q _ h => hFc q h) hFc (fun r_27 u_26 t H1 locs ht hvm hw hB hz1 hk1 hS => ?_)
  obtain ⟨hP1, hK1, hD1⟩ := hB
  rw [ht] at hP1
  obtain ⟨hP, hD⟩ := va_join (wr := []) (w1 := [(mm, .inr (10, [.int 0, .ref pl, .ref ig, .ref sl, .ref kl, .int 0, .int 0, .int 0])), (pl, .inr (1, [.int 0, .ref dz, .int 0])), (sl, .inr (1, [.int 0, .ref dz, .int 0])), (kl, .inr (1, [.int 0, .ref dz, .int 0]))]) hP hD [0, 1, 2, 3] [] rfl rfl (by decide) (by decide) hk1 hFc hP1 hD1
  generalize H1 = H at hP hS ⊢
  have hP : va_P (dC, dI) vwCl [(mm, .inr (10, [.int 0, .ref pl, .ref ig, .ref sl, .ref kl, .int 0, .int 0, .int 0])), (pl, .inr (1, [.int 0, .ref dz, .int 0])), (sl, .inr (1, [.int 0, .ref dz, .int 0])), (kl, .inr (1, [.int 0, .ref dz, .int 0]))] H := hP
  have hD : va_D A [(mm, .inr (10, [.int 0, .ref pl, .ref ig, .ref sl, .ref kl, .int 0, .int 0, .int 0])), (pl, .inr (1, [.int 0, .ref dz, .int 0])), (sl, .inr (1, [.int 0, .ref dz, .int 0])), (kl, .inr (1, [.int 0, .ref dz, .int 0]))] := hD
  refine W.widen (k := 7) (n := 70) (Nat.le_of_ble_eq_true rfl) (Nat.le_of_ble_eq_true rfl) ?_
  have hw : r_27 = 0 := hw
  subst hw
  refine lv_i2l (v := 0) hx hb dX8_digest_27 (by decide) ?_
  refine lv_ladd hx hb dX8_digest_28 ?_
  refine lv_topl (fun y_28 ey_28 => ?_)
  obtain rfl : y_28 = 1604205503584188 := ey_28.trans (by decide)
  refine lv_lstore_n (lv' := [(1, .long 1604205503584188), (3, .int 6), (0, .ref mm)]) hx hb dX8_digest_29 rfl hl (by decide) rfl (fun ls hl => ?_)
  refine lv_iinc (k := 1) (v := 7) (lv' := [(3, .int 7), (1, .long 1604205503584188), (0, .ref mm)]) hx hb dX8_digest_30 hl rfl (by decide) (by decide) rfl (fun ls hl => ?_)
  refine lv_goto (tgt := 11) hx hb dX8_digest_33 (by decide) ?_
  refine lv_iload_n hx hb dX8_digest_11 rfl (lv_at hl 0 rfl) ?_
  refine lv_bipush (v := 9) hx hb dX8_digest_12 (by decide) ?_
  refine lv_icmp_gt (tgt := 36) hx hb dX8_digest_14 (by decide) (fun h9 => absurd h9 (by decide)) (fun _ => ?_)
  refine lv_lload_n hx hb dX8_digest_17 rfl (lv_at hl 1 rfl) ?_
  refine lv_ldc2 (v := 31) hx hb hown (hts (.constantLong RX8 232 31) (by decide +kernel)) dX8_digest_18 ?_
  refine lv_lmul hx hb dX8_digest_21 ?_
  refine lv_topl (fun y_29 ey_29 => ?_)
  obtain rfl : y_29 = 49730370611109828 := ey_29.trans (by decide)
  refine lv_aload_n hx hb dX8_digest_22 rfl (lv_at hl 2 rfl) ?_
  refine lv_iload_n hx hb dX8_digest_23 rfl (lv_at hl 0 rfl) ?_
  have hPc := hP.sub (ws' := [(mm, .inr (10, [.int 0, .ref pl, .ref ig, .ref sl, .ref kl, .int 0, .int 0, .int 0])), (pl, .inr (1, [.int 0, .ref dz, .int 0])), (sl, .inr (1, [.int 0, .ref dz, .int 0])), (kl, .inr (1, [.int 0, .ref dz, .int 0]))]) [0, 1, 2, 3] rfl
  have hDc := hD.sub (ws' := [(mm, .inr (10, [.int 0, .ref pl, .ref ig, .ref sl, .ref kl, .int 0, .int 0, .int 0])), (pl, .inr (1, [.int 0, .ref dz, .int 0])), (sl, .inr (1, [.int 0, .ref dz, .int 0])), (kl, .inr (1, [.int 0, .ref dz, .int 0]))]) [0, 1, 2, 3] (by decide) rfl
  have hKc := hK.sub (tys' := []) [] rfl
  have hFc := va_free (wc := [(mm, .inr (10, [.int 0, .ref pl, .ref ig, .ref sl, .ref kl, .int 0, .int 0, .int 0])), (pl, .inr (1, [.int 0, .ref dz, .int 0])), (sl, .inr (1, [.int 0, .ref dz, .int 0])), (kl, .inr (1, [.int 0, .ref dz, .int 0]))]) hD hS hA [0, 1, 2, 3] rfl
  refine va_calli (va_runV (As := [.int 7]) (rest := [.long 49730370611109828]) ⟨hx, hb, hml, hown, hts⟩ (c_X8_manyNow l dC dI mm pl ig sl kl dz (7 : Int32) _ (by unfold vp_in; decide)) (cwV 1 hts gX8_digest_X8_manyNow rfl rfl rfl (by decide +kernel) ⟨Nat.le_of_ble_eq_true rfl, Nat.le_of_ble_eq_true rfl⟩) ⟨pe_blind mo_bl, va_recv hKc hPc (ci := 10) (q0 := 0) rfl rfl, fun U hU hW => ⟨rfl, pr_mk hU hW hPc hKc hDc, mo_mk hW hXs.1⟩⟩ rfl rfl hl.1 rfl (lv_room (Nat.le_of_ble_eq_true rfl)) dX8_digest_24 ⟨Nat.le_of_ble_eq_true rfl, Nat.le_of_ble_eq_true rfl⟩) hS (fun q _ h => hFc q h) hFc (fun r_31 u_30 t H1 locs ht hvm hw hB hz1 hk1 hS => ?_)
  obtain ⟨hP1, hK1, hD1⟩ := hB
  rw [ht] at hP1
  obtain ⟨hP, hD⟩ := va_join (wr := []) (w1 := [(mm, .inr (10, [.int 0, .ref pl, .ref ig, .ref sl, .ref kl, .int 0, .int 0, .int 0])), (pl, .inr (1, [.int 0, .ref dz, .int 0])), (sl, .inr (1, [.int 0, .ref dz, .int 0])), (kl, .inr (1, [.int 0, .ref dz, .int 0]))]) hP hD [0, 1, 2, 3] [] rfl rfl (by decide) (by decide) hk1 hFc hP1 hD1
  generalize H1 = H at hP hS ⊢
  have hP : va_P (dC, dI) vwCl [(mm, .inr (10, [.int 0, .ref pl, .ref ig, .ref sl, .ref kl, .int 0, .int 0, .int 0])), (pl, .inr (1, [.int 0, .ref dz, .int 0])), (sl, .inr (1, [.int 0, .ref dz, .int 0])), (kl, .inr (1, [.int 0, .ref dz, .int 0]))] H := hP
  have hD : va_D A [(mm, .inr (10, [.int 0, .ref pl, .ref ig, .ref sl, .ref kl, .int 0, .int 0, .int 0])), (pl, .inr (1, [.int 0, .ref dz, .int 0])), (sl, .inr (1, [.int 0, .ref dz, .int 0])), (kl, .inr (1, [.int 0, .ref dz, .int 0]))] := hD
  refine W.widen (k := 8) (n := 80) (Nat.le_of_ble_eq_true rfl) (Nat.le_of_ble_eq_true rfl) ?_
  have hw : r_31 = 0 := hw
  subst hw
  refine lv_i2l (v := 0) hx hb dX8_digest_27 (by decide) ?_
  refine lv_ladd hx hb dX8_digest_28 ?_
  refine lv_topl (fun y_32 ey_32 => ?_)
  obtain rfl : y_32 = 49730370611109828 := ey_32.trans (by decide)
  refine lv_lstore_n (lv' := [(1, .long 49730370611109828), (3, .int 7), (0, .ref mm)]) hx hb dX8_digest_29 rfl hl (by decide) rfl (fun ls hl => ?_)
  refine lv_iinc (k := 1) (v := 8) (lv' := [(3, .int 8), (1, .long 49730370611109828), (0, .ref mm)]) hx hb dX8_digest_30 hl rfl (by decide) (by decide) rfl (fun ls hl => ?_)
  refine lv_goto (tgt := 11) hx hb dX8_digest_33 (by decide) ?_
  refine lv_iload_n hx hb dX8_digest_11 rfl (lv_at hl 0 rfl) ?_
  refine lv_bipush (v := 9) hx hb dX8_digest_12 (by decide) ?_
  refine lv_icmp_gt (tgt := 36) hx hb dX8_digest_14 (by decide) (fun h9 => absurd h9 (by decide)) (fun _ => ?_)
  refine lv_lload_n hx hb dX8_digest_17 rfl (lv_at hl 1 rfl) ?_
  refine lv_ldc2 (v := 31) hx hb hown (hts (.constantLong RX8 232 31) (by decide +kernel)) dX8_digest_18 ?_
  refine lv_lmul hx hb dX8_digest_21 ?_
  refine lv_topl (fun y_33 ey_33 => ?_)
  obtain rfl : y_33 = 1541641488944404668 := ey_33.trans (by decide)
  refine lv_aload_n hx hb dX8_digest_22 rfl (lv_at hl 2 rfl) ?_
  refine lv_iload_n hx hb dX8_digest_23 rfl (lv_at hl 0 rfl) ?_
  have hPc := hP.sub (ws' := [(mm, .inr (10, [.int 0, .ref pl, .ref ig, .ref sl, .ref kl, .int 0, .int 0, .int 0])), (pl, .inr (1, [.int 0, .ref dz, .int 0])), (sl, .inr (1, [.int 0, .ref dz, .int 0])), (kl, .inr (1, [.int 0, .ref dz, .int 0]))]) [0, 1, 2, 3] rfl
  have hDc := hD.sub (ws' := [(mm, .inr (10, [.int 0, .ref pl, .ref ig, .ref sl, .ref kl, .int 0, .int 0, .int 0])), (pl, .inr (1, [.int 0, .ref dz, .int 0])), (sl, .inr (1, [.int 0, .ref dz, .int 0])), (kl, .inr (1, [.int 0, .ref dz, .int 0]))]) [0, 1, 2, 3] (by decide) rfl
  have hKc := hK.sub (tys' := []) [] rfl
  have hFc := va_free (wc := [(mm, .inr (10, [.int 0, .ref pl, .ref ig, .ref sl, .ref kl, .int 0, .int 0, .int 0])), (pl, .inr (1, [.int 0, .ref dz, .int 0])), (sl, .inr (1, [.int 0, .ref dz, .int 0])), (kl, .inr (1, [.int 0, .ref dz, .int 0]))]) hD hS hA [0, 1, 2, 3] rfl
  refine va_calli (va_runV (As := [.int 8]) (rest := [.long 1541641488944404668]) ⟨hx, hb, hml, hown, hts⟩ (c_X8_manyNow l dC dI mm pl ig sl kl dz (8 : Int32) _ (by unfold vp_in; decide)) (cwV 1 hts gX8_digest_X8_manyNow rfl rfl rfl (by decide +kernel) ⟨Nat.le_of_ble_eq_true rfl, Nat.le_of_ble_eq_true rfl⟩) ⟨pe_blind mo_bl, va_recv hKc hPc (ci := 10) (q0 := 0) rfl rfl, fun U hU hW => ⟨rfl, pr_mk hU hW hPc hKc hDc, mo_mk hW hXs.1⟩⟩ rfl rfl hl.1 rfl (lv_room (Nat.le_of_ble_eq_true rfl)) dX8_digest_24 ⟨Nat.le_of_ble_eq_true rfl, Nat.le_of_ble_eq_true rfl⟩) hS (fun q _ h => hFc q h) hFc (fun r_35 u_34 t H1 locs ht hvm hw hB hz1 hk1 hS => ?_)
  obtain ⟨hP1, hK1, hD1⟩ := hB
  rw [ht] at hP1
  obtain ⟨hP, hD⟩ := va_join (wr := []) (w1 := [(mm, .inr (10, [.int 0, .ref pl, .ref ig, .ref sl, .ref kl, .int 0, .int 0, .int 0])), (pl, .inr (1, [.int 0, .ref dz, .int 0])), (sl, .inr (1, [.int 0, .ref dz, .int 0])), (kl, .inr (1, [.int 0, .ref dz, .int 0]))]) hP hD [0, 1, 2, 3] [] rfl rfl (by decide) (by decide) hk1 hFc hP1 hD1
  generalize H1 = H at hP hS ⊢
  have hP : va_P (dC, dI) vwCl [(mm, .inr (10, [.int 0, .ref pl, .ref ig, .ref sl, .ref kl, .int 0, .int 0, .int 0])), (pl, .inr (1, [.int 0, .ref dz, .int 0])), (sl, .inr (1, [.int 0, .ref dz, .int 0])), (kl, .inr (1, [.int 0, .ref dz, .int 0]))] H := hP
  have hD : va_D A [(mm, .inr (10, [.int 0, .ref pl, .ref ig, .ref sl, .ref kl, .int 0, .int 0, .int 0])), (pl, .inr (1, [.int 0, .ref dz, .int 0])), (sl, .inr (1, [.int 0, .ref dz, .int 0])), (kl, .inr (1, [.int 0, .ref dz, .int 0]))] := hD
  refine W.widen (k := 9) (n := 90) (Nat.le_of_ble_eq_true rfl) (Nat.le_of_ble_eq_true rfl) ?_
  have hw : r_35 = 0 := hw
  subst hw
  refine lv_i2l (v := 0) hx hb dX8_digest_27 (by decide) ?_
  refine lv_ladd hx hb dX8_digest_28 ?_
  refine lv_topl (fun y_36 ey_36 => ?_)
  obtain rfl : y_36 = 1541641488944404668 := ey_36.trans (by decide)
  refine lv_lstore_n (lv' := [(1, .long 1541641488944404668), (3, .int 8), (0, .ref mm)]) hx hb dX8_digest_29 rfl hl (by decide) rfl (fun ls hl => ?_)
  refine lv_iinc (k := 1) (v := 9) (lv' := [(3, .int 9), (1, .long 1541641488944404668), (0, .ref mm)]) hx hb dX8_digest_30 hl rfl (by decide) (by decide) rfl (fun ls hl => ?_)
  refine lv_goto (tgt := 11) hx hb dX8_digest_33 (by decide) ?_
  refine lv_iload_n hx hb dX8_digest_11 rfl (lv_at hl 0 rfl) ?_
  refine lv_bipush (v := 9) hx hb dX8_digest_12 (by decide) ?_
  refine lv_icmp_gt (tgt := 36) hx hb dX8_digest_14 (by decide) (fun h9 => absurd h9 (by decide)) (fun _ => ?_)
  refine lv_lload_n hx hb dX8_digest_17 rfl (lv_at hl 1 rfl) ?_
  refine lv_ldc2 (v := 31) hx hb hown (hts (.constantLong RX8 232 31) (by decide +kernel)) dX8_digest_18 ?_
  refine lv_lmul hx hb dX8_digest_21 ?_
  refine lv_topl (fun y_37 ey_37 => ?_)
  obtain rfl : y_37 = (-7549346063852110140) := ey_37.trans (by decide)
  refine lv_aload_n hx hb dX8_digest_22 rfl (lv_at hl 2 rfl) ?_
  refine lv_iload_n hx hb dX8_digest_23 rfl (lv_at hl 0 rfl) ?_
  have hPc := hP.sub (ws' := [(mm, .inr (10, [.int 0, .ref pl, .ref ig, .ref sl, .ref kl, .int 0, .int 0, .int 0])), (pl, .inr (1, [.int 0, .ref dz, .int 0])), (sl, .inr (1, [.int 0, .ref dz, .int 0])), (kl, .inr (1, [.int 0, .ref dz, .int 0]))]) [0, 1, 2, 3] rfl
  have hDc := hD.sub (ws' := [(mm, .inr (10, [.int 0, .ref pl, .ref ig, .ref sl, .ref kl, .int 0, .int 0, .int 0])), (pl, .inr (1, [.int 0, .ref dz, .int 0])), (sl, .inr (1, [.int 0, .ref dz, .int 0])), (kl, .inr (1, [.int 0, .ref dz, .int 0]))]) [0, 1, 2, 3] (by decide) rfl
  have hKc := hK.sub (tys' := []) [] rfl
  have hFc := va_free (wc := [(mm, .inr (10, [.int 0, .ref pl, .ref ig, .ref sl, .ref kl, .int 0, .int 0, .int 0])), (pl, .inr (1, [.int 0, .ref dz, .int 0])), (sl, .inr (1, [.int 0, .ref dz, .int 0])), (kl, .inr (1, [.int 0, .ref dz, .int 0]))]) hD hS hA [0, 1, 2, 3] rfl
  refine va_calli (va_runV (As := [.int 9]) (rest := [.long (-7549346063852110140)]) ⟨hx, hb, hml, hown, hts⟩ (c_X8_manyNow l dC dI mm pl ig sl kl dz (9 : Int32) _ (by unfold vp_in; decide)) (cwV 1 hts gX8_digest_X8_manyNow rfl rfl rfl (by decide +kernel) ⟨Nat.le_of_ble_eq_true rfl, Nat.le_of_ble_eq_true rfl⟩) ⟨pe_blind mo_bl, va_recv hKc hPc (ci := 10) (q0 := 0) rfl rfl, fun U hU hW => ⟨rfl, pr_mk hU hW hPc hKc hDc, mo_mk hW hXs.1⟩⟩ rfl rfl hl.1 rfl (lv_room (Nat.le_of_ble_eq_true rfl)) dX8_digest_24 ⟨Nat.le_of_ble_eq_true rfl, Nat.le_of_ble_eq_true rfl⟩) hS (fun q _ h => hFc q h) hFc (fun r_39 u_38 t H1 locs ht hvm hw hB hz1 hk1 hS => ?_)
  obtain ⟨hP1, hK1, hD1⟩ := hB
  rw [ht] at hP1
  obtain ⟨hP, hD⟩ := va_join (wr := []) (w1 := [(mm, .inr (10, [.int 0, .ref pl, .ref ig, .ref sl, .ref kl, .int 0, .int 0, .int 0])), (pl, .inr (1, [.int 0, .ref dz, .int 0])), (sl, .inr (1, [.int 0, .ref dz, .int 0])), (kl, .inr (1, [.int 0, .ref dz, .int 0]))]) hP hD [0, 1, 2, 3] [] rfl rfl (by decide) (by decide) hk1 hFc hP1 hD1
  generalize H1 = H at hP hS ⊢
  have hP : va_P (dC, dI) vwCl [(mm, .inr (10, [.int 0, .ref pl, .ref ig, .ref sl, .ref kl, .int 0, .int 0, .int 0])), (pl, .inr (1, [.int 0, .ref dz, .int 0])), (sl, .inr (1, [.int 0, .ref dz, .int 0])), (kl, .inr (1, [.int 0, .ref dz, .int 0]))] H := hP
  have hD : va_D A [(mm, .inr (10, [.int 0, .ref pl, .ref ig, .ref sl, .ref kl, .int 0, .int 0, .int 0])), (pl, .inr (1, [.int 0, .ref dz, .int 0])), (sl, .inr (1, [.int 0, .ref dz, .int 0])), (kl, .inr (1, [.int 0, .ref dz, .int 0]))] := hD
  refine W.widen (k := 10) (n := 100) (Nat.le_of_ble_eq_true rfl) (Nat.le_of_ble_eq_true rfl) ?_
  have hw : r_39 = 0 := hw
  subst hw
  refine lv_i2l (v := 0) hx hb dX8_digest_27 (by decide) ?_
  refine lv_ladd hx hb dX8_digest_28 ?_
  refine lv_topl (fun y_40 ey_40 => ?_)
  obtain rfl : y_40 = (-7549346063852110140) := ey_40.trans (by decide)
  refine lv_lstore_n (lv' := [(1, .long (-7549346063852110140)), (3, .int 9), (0, .ref mm)]) hx hb dX8_digest_29 rfl hl (by decide) rfl (fun ls hl => ?_)
  refine lv_iinc (k := 1) (v := 10) (lv' := [(3, .int 10), (1, .long (-7549346063852110140)), (0, .ref mm)]) hx hb dX8_digest_30 hl rfl (by decide) (by decide) rfl (fun ls hl => ?_)
  refine lv_goto (tgt := 11) hx hb dX8_digest_33 (by decide) ?_
  refine lv_iload_n hx hb dX8_digest_11 rfl (lv_at hl 0 rfl) ?_
  refine lv_bipush (v := 9) hx hb dX8_digest_12 (by decide) ?_
  refine lv_icmp_gt (tgt := 36) hx hb dX8_digest_14 (by decide) (fun _ => ?_) (fun h9 => absurd h9 (by decide))
  have hinJx4a65c : ∀ w ∈ u_ws RJx4a65c TJx4a65c 3, w ∈ wsX8_digest := by decide +kernel
  refine va_new (ci := 1) (fs := [.int 0, .null, .int 0]) (C := RJx4a65c) (T := TJx4a65c) (N := 3) hx hb hts hinJx4a65c tyJx4a65c tyJx4a65c_ok hown (hts (.classLink RX8 7 RJx4a65c) (by decide +kernel)) (hts (.instantiable RJx4a65c 3) (by decide +kernel)) (hts (.initialized RJx4a65c) (by decide +kernel)) hK hP hD hS hA rfl (by intro j hj; match j, hj with | 0, _ => rfl | 1, _ => rfl | 2, _ => rfl) (Nat.le_of_ble_eq_true rfl) (Nat.le_of_ble_eq_true rfl) dX8_digest_36 (fun q_41 H hP hD hS => ?_)
  have hP : va_P (dC, dI) vwCl [(mm, .inr (10, [.int 0, .ref pl, .ref ig, .ref sl, .ref kl, .int 0, .int 0, .int 0])), (pl, .inr (1, [.int 0, .ref dz, .int 0])), (sl, .inr (1, [.int 0, .ref dz, .int 0])), (kl, .inr (1, [.int 0, .ref dz, .int 0])), (q_41, .inr (1, [.int 0, .null, .int 0]))] H := hP
  have hD : va_D A [(mm, .inr (10, [.int 0, .ref pl, .ref ig, .ref sl, .ref kl, .int 0, .int 0, .int 0])), (pl, .inr (1, [.int 0, .ref dz, .int 0])), (sl, .inr (1, [.int 0, .ref dz, .int 0])), (kl, .inr (1, [.int 0, .ref dz, .int 0])), (q_41, .inr (1, [.int 0, .null, .int 0]))] := hD
  refine W.widen (k := 11) (n := 103) (Nat.le_of_ble_eq_true rfl) (Nat.le_of_ble_eq_true rfl) ?_
  refine lv_dup hx hb dX8_digest_39 rfl ?_
  have hPc := hP.sub (ws' := [(q_41, .inr (1, [.int 0, .null, .int 0]))]) [4] rfl
  have hDc := hD.sub (ws' := [(q_41, .inr (1, [.int 0, .null, .int 0]))]) [4] (by decide) rfl
  have hKc := hK.sub (tys' := []) [] rfl
  have hFc := va_free (wc := [(q_41, .inr (1, [.int 0, .null, .int 0]))]) hD hS hA [4] rfl
  refine va_callv (va_runI (As := []) (rest := [.ref q_41]) ⟨hx, hb, hml, hown, hts⟩ (c_Jx4a65c_init_da8c8 l dC dI dz dz q_41 _ ) (cwI 0 hts gX8_digest_Jx4a65c_init_da8c8 rfl rfl rfl (hts (.initialized RJx4a65c) (by decide +kernel)) (hts (.methodLink RX8 9 yJx4a65c_init_da8c8) (by decide +kernel)) (hts (.instanceMethod yJx4a65c_init_da8c8) (by decide +kernel)) rfl (by decide +kernel) ⟨Nat.le_of_ble_eq_true rfl, Nat.le_of_ble_eq_true rfl⟩) ⟨pe_blind em_bl, fun U hU hW => ⟨rfl, pr_mk hU hW hPc hKc hDc, em_mk hU hW hS hFc hXs.2.1⟩⟩ rfl rfl hl.1 rfl (lv_room (Nat.le_of_ble_eq_true rfl)) dX8_digest_40 ⟨Nat.le_of_ble_eq_true rfl, Nat.le_of_ble_eq_true rfl⟩) hS (fun q _ h => hFc q h) hFc (fun u_42 t H1 locs ht hvm hw hB hz1 hk1 hS => ?_)
  obtain ⟨hP1, hK1, hD1⟩ := hB
  rw [ht] at hP1
  obtain ⟨hP, hD⟩ := va_join (wr := [(mm, .inr (10, [.int 0, .ref pl, .ref ig, .ref sl, .ref kl, .int 0, .int 0, .int 0])), (pl, .inr (1, [.int 0, .ref dz, .int 0])), (sl, .inr (1, [.int 0, .ref dz, .int 0])), (kl, .inr (1, [.int 0, .ref dz, .int 0]))]) (w1 := [(q_41, .inr (1, [.int 0, .ref dz, .int 0]))]) hP hD [4] [0, 1, 2, 3] rfl rfl (by decide) (by decide) hk1 hFc hP1 hD1
  generalize H1 = H at hP hS ⊢
  have hP : va_P (dC, dI) vwCl [(mm, .inr (10, [.int 0, .ref pl, .ref ig, .ref sl, .ref kl, .int 0, .int 0, .int 0])), (pl, .inr (1, [.int 0, .ref dz, .int 0])), (sl, .inr (1, [.int 0, .ref dz, .int 0])), (kl, .inr (1, [.int 0, .ref dz, .int 0])), (q_41, .inr (1, [.int 0, .ref dz, .int 0]))] H := hP
  have hD : va_D A [(mm, .inr (10, [.int 0, .ref pl, .ref ig, .ref sl, .ref kl, .int 0, .int 0, .int 0])), (pl, .inr (1, [.int 0, .ref dz, .int 0])), (sl, .inr (1, [.int 0, .ref dz, .int 0])), (kl, .inr (1, [.int 0, .ref dz, .int 0])), (q_41, .inr (1, [.int 0, .ref dz, .int 0]))] := hD
  refine W.widen (k := 11) (n := 103) (Nat.le_refl _) (Nat.le_refl _) ?_
  refine lv_astore_n (lv' := [(3, .ref q_41), (1, .long (-7549346063852110140)), (0, .ref mm)]) hx hb dX8_digest_43 rfl hl (by decide) rfl (fun ls hl => ?_)
  refine lv_iconst (v := 0) hx hb dX8_digest_44 (by decide) ?_
  refine lv_istore (lv' := [(4, .int 0), (3, .ref q_41), (1, .long (-7549346063852110140)), (0, .ref mm)]) hx hb dX8_digest_45 hl (by decide) rfl (fun ls hl => ?_)
  refine lv_iload hx hb dX8_digest_47 (lv_at hl 0 rfl) ?_
  refine lv_aload_n hx hb dX8_digest_49 rfl (lv_at hl 3 rfl) ?_
  refine va_get (D := (dC, dI)) (ci := 10) (v := .ref sl) (C := RX8) (T := TX8) (N := 8) hx hb hts hinX8 hown hK hP 0 rfl rfl 3 (by decide) (hts (.fieldLink RX8 20 "BallotLoomModel" "seatsOf" "Ljava/util/List;") (by decide +kernel)) (fun _ h9 => h9) rfl dX8_digest_50 ?_
  have hPc := hP.sub (ws' := [(sl, .inr (1, [.int 0, .ref dz, .int 0]))]) [2] rfl
  have hDc := hD.sub (ws' := [(sl, .inr (1, [.int 0, .ref dz, .int 0]))]) [2] (by decide) rfl
  have hKc := hK.sub (tys' := []) [] rfl
  have hFc := va_free (wc := [(sl, .inr (1, [.int 0, .ref dz, .int 0]))]) hD hS hA [2] rfl
  refine va_callFi (va_runF (hK.1 1 _ rfl).2 (As := []) (rest := [.int 0]) ⟨hx, hb, hml, hown, hts⟩ (c_Jx4a65c_size_8abf5 l dC dI sl (0 : Int32) dz (0 : Int32) _ ) (va_cwF 0 hts gX8_digest_Jx4a65c_size_8abf5_f30Jx4a65c rfl rfl rfl (mo_of hXs.1) (by decide +kernel) ⟨Nat.le_of_ble_eq_true rfl, Nat.le_of_ble_eq_true rfl⟩) ⟨pr_blind, va_recv hKc hPc (ci := 1) (q0 := 0) rfl rfl, fun U hU hW => ⟨rfl, pr_mk hU hW hPc hKc hDc⟩⟩ rfl rfl hl.1 rfl (lv_room (Nat.le_of_ble_eq_true rfl)) dX8_digest_53 ⟨Nat.le_of_ble_eq_true rfl, Nat.le_of_ble_eq_true rfl⟩) hS (fun q _ h => hFc q h) hFc (fun r_45 u_44 t H1 locs ht hvm hw hB hz1 hk1 hS => ?_)
  obtain ⟨hP1, hK1, hD1⟩ := hB
  rw [ht] at hP1
  obtain ⟨hP, hD⟩ := va_join (wr := [(mm, .inr (10, [.int 0, .ref pl, .ref ig, .ref sl, .ref kl, .int 0, .int 0, .int 0])), (pl, .inr (1, [.int 0, .ref dz, .int 0])), (kl, .inr (1, [.int 0, .ref dz, .int 0])), (q_41, .inr (1, [.int 0, .ref dz, .int 0]))]) (w1 := [(sl, .inr (1, [.int 0, .ref dz, .int 0]))]) hP hD [2] [0, 1, 3, 4] rfl rfl (by decide) (by decide) hk1 hFc hP1 hD1
  generalize H1 = H at hP hS ⊢
  have hP : va_P (dC, dI) vwCl [(mm, .inr (10, [.int 0, .ref pl, .ref ig, .ref sl, .ref kl, .int 0, .int 0, .int 0])), (pl, .inr (1, [.int 0, .ref dz, .int 0])), (kl, .inr (1, [.int 0, .ref dz, .int 0])), (q_41, .inr (1, [.int 0, .ref dz, .int 0])), (sl, .inr (1, [.int 0, .ref dz, .int 0]))] H := hP
  have hD : va_D A [(mm, .inr (10, [.int 0, .ref pl, .ref ig, .ref sl, .ref kl, .int 0, .int 0, .int 0])), (pl, .inr (1, [.int 0, .ref dz, .int 0])), (kl, .inr (1, [.int 0, .ref dz, .int 0])), (q_41, .inr (1, [.int 0, .ref dz, .int 0])), (sl, .inr (1, [.int 0, .ref dz, .int 0]))] := hD
  refine W.widen (k := 11) (n := 103) (Nat.le_refl _) (Nat.le_refl _) ?_
  have hw : r_45 = 0 := hw
  subst hw
  refine lv_icmp_ge (tgt := 80) hx hb dX8_digest_58 (by decide) (fun _ => ?_) (fun h9 => absurd h9 (by decide))
  refine lv_iconst (v := 0) hx hb dX8_digest_80 (by decide) ?_
  refine lv_istore (lv' := [(4, .int 0), (3, .ref q_41), (1, .long (-7549346063852110140)), (0, .ref mm)]) hx hb dX8_digest_81 hl (by decide) rfl (fun ls hl => ?_)
  refine lv_iload hx hb dX8_digest_83 (lv_at hl 0 rfl) ?_
  refine lv_aload_n hx hb dX8_digest_85 rfl (lv_at hl 3 rfl) ?_
  refine va_get (D := (dC, dI)) (ci := 10) (v := .ref kl) (C := RX8) (T := TX8) (N := 8) hx hb hts hinX8 hown hK hP 0 rfl rfl 4 (by decide) (hts (.fieldLink RX8 23 "BallotLoomModel" "stacks" "Ljava/util/List;") (by decide +kernel)) (fun _ h9 => h9) rfl dX8_digest_86 ?_
  have hPc := hP.sub (ws' := [(kl, .inr (1, [.int 0, .ref dz, .int 0]))]) [2] rfl
  have hDc := hD.sub (ws' := [(kl, .inr (1, [.int 0, .ref dz, .int 0]))]) [2] (by decide) rfl
  have hKc := hK.sub (tys' := []) [] rfl
  have hFc := va_free (wc := [(kl, .inr (1, [.int 0, .ref dz, .int 0]))]) hD hS hA [2] rfl
  refine va_callFi (va_runF (hK.1 1 _ rfl).2 (As := []) (rest := [.int 0]) ⟨hx, hb, hml, hown, hts⟩ (c_Jx4a65c_size_8abf5 l dC dI kl (0 : Int32) dz (0 : Int32) _ ) (va_cwF 0 hts gX8_digest_Jx4a65c_size_8abf5_f30Jx4a65c rfl rfl rfl (mo_of hXs.1) (by decide +kernel) ⟨Nat.le_of_ble_eq_true rfl, Nat.le_of_ble_eq_true rfl⟩) ⟨pr_blind, va_recv hKc hPc (ci := 1) (q0 := 0) rfl rfl, fun U hU hW => ⟨rfl, pr_mk hU hW hPc hKc hDc⟩⟩ rfl rfl hl.1 rfl (lv_room (Nat.le_of_ble_eq_true rfl)) dX8_digest_89 ⟨Nat.le_of_ble_eq_true rfl, Nat.le_of_ble_eq_true rfl⟩) hS (fun q _ h => hFc q h) hFc (fun r_47 u_46 t H1 locs ht hvm hw hB hz1 hk1 hS => ?_)
  obtain ⟨hP1, hK1, hD1⟩ := hB
  rw [ht] at hP1
  obtain ⟨hP, hD⟩ := va_join (wr := [(mm, .inr (10, [.int 0, .ref pl, .ref ig, .ref sl, .ref kl, .int 0, .int 0, .int 0])), (pl, .inr (1, [.int 0, .ref dz, .int 0])), (q_41, .inr (1, [.int 0, .ref dz, .int 0])), (sl, .inr (1, [.int 0, .ref dz, .int 0]))]) (w1 := [(kl, .inr (1, [.int 0, .ref dz, .int 0]))]) hP hD [2] [0, 1, 3, 4] rfl rfl (by decide) (by decide) hk1 hFc hP1 hD1
  generalize H1 = H at hP hS ⊢
  have hP : va_P (dC, dI) vwCl [(mm, .inr (10, [.int 0, .ref pl, .ref ig, .ref sl, .ref kl, .int 0, .int 0, .int 0])), (pl, .inr (1, [.int 0, .ref dz, .int 0])), (q_41, .inr (1, [.int 0, .ref dz, .int 0])), (sl, .inr (1, [.int 0, .ref dz, .int 0])), (kl, .inr (1, [.int 0, .ref dz, .int 0]))] H := hP
  have hD : va_D A [(mm, .inr (10, [.int 0, .ref pl, .ref ig, .ref sl, .ref kl, .int 0, .int 0, .int 0])), (pl, .inr (1, [.int 0, .ref dz, .int 0])), (q_41, .inr (1, [.int 0, .ref dz, .int 0])), (sl, .inr (1, [.int 0, .ref dz, .int 0])), (kl, .inr (1, [.int 0, .ref dz, .int 0]))] := hD
  refine W.widen (k := 11) (n := 103) (Nat.le_refl _) (Nat.le_refl _) ?_
  have hw : r_47 = 0 := hw
  subst hw
  refine lv_icmp_ge (tgt := 177) hx hb dX8_digest_94 (by decide) (fun _ => ?_) (fun h9 => absurd h9 (by decide))
  refine lv_iconst (v := 0) hx hb dX8_digest_177 (by decide) ?_
  refine lv_istore (lv' := [(4, .int 0), (3, .ref q_41), (1, .long (-7549346063852110140)), (0, .ref mm)]) hx hb dX8_digest_178 hl (by decide) rfl (fun ls hl => ?_)
  refine lv_iload hx hb dX8_digest_180 (lv_at hl 0 rfl) ?_
  refine lv_aload_n hx hb dX8_digest_182 rfl (lv_at hl 3 rfl) ?_
  refine va_get (D := (dC, dI)) (ci := 10) (v := .ref sl) (C := RX8) (T := TX8) (N := 8) hx hb hts hinX8 hown hK hP 0 rfl rfl 3 (by decide) (hts (.fieldLink RX8 20 "BallotLoomModel" "seatsOf" "Ljava/util/List;") (by decide +kernel)) (fun _ h9 => h9) rfl dX8_digest_183 ?_
  have hPc := hP.sub (ws' := [(sl, .inr (1, [.int 0, .ref dz, .int 0]))]) [3] rfl
  have hDc := hD.sub (ws' := [(sl, .inr (1, [.int 0, .ref dz, .int 0]))]) [3] (by decide) rfl
  have hKc := hK.sub (tys' := []) [] rfl
  have hFc := va_free (wc := [(sl, .inr (1, [.int 0, .ref dz, .int 0]))]) hD hS hA [3] rfl
  refine va_callFi (va_runF (hK.1 1 _ rfl).2 (As := []) (rest := [.int 0]) ⟨hx, hb, hml, hown, hts⟩ (c_Jx4a65c_size_8abf5 l dC dI sl (0 : Int32) dz (0 : Int32) _ ) (va_cwF 0 hts gX8_digest_Jx4a65c_size_8abf5_f30Jx4a65c rfl rfl rfl (mo_of hXs.1) (by decide +kernel) ⟨Nat.le_of_ble_eq_true rfl, Nat.le_of_ble_eq_true rfl⟩) ⟨pr_blind, va_recv hKc hPc (ci := 1) (q0 := 0) rfl rfl, fun U hU hW => ⟨rfl, pr_mk hU hW hPc hKc hDc⟩⟩ rfl rfl hl.1 rfl (lv_room (Nat.le_of_ble_eq_true rfl)) dX8_digest_186 ⟨Nat.le_of_ble_eq_true rfl, Nat.le_of_ble_eq_true rfl⟩) hS (fun q _ h => hFc q h) hFc (fun r_49 u_48 t H1 locs ht hvm hw hB hz1 hk1 hS => ?_)
  obtain ⟨hP1, hK1, hD1⟩ := hB
  rw [ht] at hP1
  obtain ⟨hP, hD⟩ := va_join (wr := [(mm, .inr (10, [.int 0, .ref pl, .ref ig, .ref sl, .ref kl, .int 0, .int 0, .int 0])), (pl, .inr (1, [.int 0, .ref dz, .int 0])), (q_41, .inr (1, [.int 0, .ref dz, .int 0])), (kl, .inr (1, [.int 0, .ref dz, .int 0]))]) (w1 := [(sl, .inr (1, [.int 0, .ref dz, .int 0]))]) hP hD [3] [0, 1, 2, 4] rfl rfl (by decide) (by decide) hk1 hFc hP1 hD1
  generalize H1 = H at hP hS ⊢
  have hP : va_P (dC, dI) vwCl [(mm, .inr (10, [.int 0, .ref pl, .ref ig, .ref sl, .ref kl, .int 0, .int 0, .int 0])), (pl, .inr (1, [.int 0, .ref dz, .int 0])), (q_41, .inr (1, [.int 0, .ref dz, .int 0])), (kl, .inr (1, [.int 0, .ref dz, .int 0])), (sl, .inr (1, [.int 0, .ref dz, .int 0]))] H := hP
  have hD : va_D A [(mm, .inr (10, [.int 0, .ref pl, .ref ig, .ref sl, .ref kl, .int 0, .int 0, .int 0])), (pl, .inr (1, [.int 0, .ref dz, .int 0])), (q_41, .inr (1, [.int 0, .ref dz, .int 0])), (kl, .inr (1, [.int 0, .ref dz, .int 0])), (sl, .inr (1, [.int 0, .ref dz, .int 0]))] := hD
  refine W.widen (k := 11) (n := 103) (Nat.le_refl _) (Nat.le_refl _) ?_
  have hw : r_49 = 0 := hw
  subst hw
  refine lv_icmp_ge (tgt := 392) hx hb dX8_digest_191 (by decide) (fun _ => ?_) (fun h9 => absurd h9 (by decide))
  refine lv_iconst (v := 3) hx hb dX8_digest_392 (by decide) ?_
  refine gd_new (N' := 3) hx hb hown (hts (.classLink RX8 238 "[I") (by decide +kernel)) (hXs.2.2) hK hP hD hS hA (by decide) (by decide) (by decide) (Nat.le_of_ble_eq_true rfl) (Nat.le_of_ble_eq_true rfl) dX8_digest_393 (fun q_50 c_51 H hK hP hD hS => ?_)
  have hK : va_K (dC, dI) vwCl [(c_51, .array .int)] s := hK
  have hP : va_P (dC, dI) vwCl [(mm, .inr (10, [.int 0, .ref pl, .ref ig, .ref sl, .ref kl, .int 0, .int 0, .int 0])), (pl, .inr (1, [.int 0, .ref dz, .int 0])), (q_41, .inr (1, [.int 0, .ref dz, .int 0])), (kl, .inr (1, [.int 0, .ref dz, .int 0])), (sl, .inr (1, [.int 0, .ref dz, .int 0])), (q_50, .inl (c_51, 3, .inr (.inr (.inr (.inr (fun _ => none))))))] H := hP
  have hD : va_D A [(mm, .inr (10, [.int 0, .ref pl, .ref ig, .ref sl, .ref kl, .int 0, .int 0, .int 0])), (pl, .inr (1, [.int 0, .ref dz, .int 0])), (q_41, .inr (1, [.int 0, .ref dz, .int 0])), (kl, .inr (1, [.int 0, .ref dz, .int 0])), (sl, .inr (1, [.int 0, .ref dz, .int 0])), (q_50, .inl (c_51, 3, .inr (.inr (.inr (.inr (fun _ => none))))))] := hD
  refine W.widen (k := 12) (n := 106) (Nat.le_of_ble_eq_true rfl) (Nat.le_of_ble_eq_true rfl) ?_
  refine lv_dup hx hb dX8_digest_396 rfl ?_
  refine lv_iconst (v := 0) hx hb dX8_digest_397 (by decide) ?_
  refine lv_aload_n hx hb dX8_digest_398 rfl (lv_at hl 3 rfl) ?_
  refine lv_bipush (v := 20) hx hb dX8_digest_399 (by decide) ?_
  refine lv_iconst (v := 0) hx hb dX8_digest_401 (by decide) ?_
  have hPc := hP.sub (ws' := [(mm, .inr (10, [.int 0, .ref pl, .ref ig, .ref sl, .ref kl, .int 0, .int 0, .int 0])), (sl, .inr (1, [.int 0, .ref dz, .int 0]))]) [0, 4] rfl
  have hDc := hD.sub (ws' := [(mm, .inr (10, [.int 0, .ref pl, .ref ig, .ref sl, .ref kl, .int 0, .int 0, .int 0])), (sl, .inr (1, [.int 0, .ref dz, .int 0]))]) [0, 4] (by decide) rfl
  have hKc := hK.sub (tys' := []) [] rfl
  have hFc := va_free (wc := [(mm, .inr (10, [.int 0, .ref pl, .ref ig, .ref sl, .ref kl, .int 0, .int 0, .int 0])), (sl, .inr (1, [.int 0, .ref dz, .int 0]))]) hD hS hA [0, 4] rfl
  refine va_callr (va_runV (As := [.int 20, .int 0]) (rest := [.int 0, .ref q_50, .ref q_50]) ⟨hx, hb, hml, hown, hts⟩ (c_X8_houseOf l dC dI mm pl ig sl kl dz (20 : Int32) (0 : Int32) _ ) (cwV 2 hts gX8_digest_X8_houseOf rfl rfl rfl (by decide +kernel) ⟨Nat.le_of_ble_eq_true rfl, Nat.le_of_ble_eq_true rfl⟩) ⟨pe_blind mo_bl, va_recv hKc hPc (ci := 10) (q0 := 0) rfl rfl, fun U hU hW => ⟨rfl, pr_mk hU hW hPc hKc hDc, mo_mk hW hXs.1⟩⟩ rfl rfl hl.1 rfl (lv_room (Nat.le_of_ble_eq_true rfl)) dX8_digest_402 ⟨Nat.le_of_ble_eq_true rfl, Nat.le_of_ble_eq_true rfl⟩) hS (fun q _ h => hFc q h) hFc (fun u_52 r_53 t H1 locs ht hvm hw hB hz1 hk1 hS => ?_)
  obtain ⟨q_54, rfl⟩ : ∃ z, z = u_52 := ⟨_, rfl⟩
  obtain ⟨hP1, hK1, hD1⟩ := hB
  rw [ht] at hP1
  obtain ⟨hP, hD⟩ := va_join (wr := [(pl, .inr (1, [.int 0, .ref dz, .int 0])), (q_41, .inr (1, [.int 0, .ref dz, .int 0])), (kl, .inr (1, [.int 0, .ref dz, .int 0])), (q_50, .inl (c_51, 3, .inr (.inr (.inr (.inr (fun _ => none))))))]) (w1 := [(mm, .inr (10, [.int 0, .ref pl, .ref ig, .ref sl, .ref kl, .int 0, .int 0, .int 0])), (sl, .inr (1, [.int 0, .ref dz, .int 0])), (r_53, .inl (q_54, 4, .inl zi))]) hP hD [0, 4] [1, 2, 3, 5] rfl rfl (by decide) (by decide) hk1 hFc hP1 hD1
  have hK := hK.app (va_K.moved hvm.symm hK1)
  have hK : va_K (dC, dI) vwCl [(c_51, .array .int), (q_54, .int)] s := hK
  generalize H1 = H at hP hS ⊢
  have hP : va_P (dC, dI) vwCl [(pl, .inr (1, [.int 0, .ref dz, .int 0])), (q_41, .inr (1, [.int 0, .ref dz, .int 0])), (kl, .inr (1, [.int 0, .ref dz, .int 0])), (q_50, .inl (c_51, 3, .inr (.inr (.inr (.inr (fun _ => none)))))), (mm, .inr (10, [.int 0, .ref pl, .ref ig, .ref sl, .ref kl, .int 0, .int 0, .int 0])), (sl, .inr (1, [.int 0, .ref dz, .int 0])), (r_53, .inl (q_54, 4, .inl zi))] H := hP
  have hD : va_D A [(pl, .inr (1, [.int 0, .ref dz, .int 0])), (q_41, .inr (1, [.int 0, .ref dz, .int 0])), (kl, .inr (1, [.int 0, .ref dz, .int 0])), (q_50, .inl (c_51, 3, .inr (.inr (.inr (.inr (fun _ => none)))))), (mm, .inr (10, [.int 0, .ref pl, .ref ig, .ref sl, .ref kl, .int 0, .int 0, .int 0])), (sl, .inr (1, [.int 0, .ref dz, .int 0])), (r_53, .inl (q_54, 4, .inl zi))] := hD
  refine W.widen (k := 15) (n := 119) (Nat.le_of_ble_eq_true rfl) (Nat.le_of_ble_eq_true rfl) ?_
  refine gd_st hx hb hXs.2.2 hK hP hD hS 3 0 6 1 rfl rfl rfl rfl (by unfold vp_in; decide) dX8_digest_405 (fun H locs hP hD hS => ?_)
  have hP : va_P (dC, dI) vwCl [(pl, .inr (1, [.int 0, .ref dz, .int 0])), (q_41, .inr (1, [.int 0, .ref dz, .int 0])), (kl, .inr (1, [.int 0, .ref dz, .int 0])), (q_50, .inl (c_51, 3, .inr (.inr (.inr (.inr (va_up (fun _ => none) (0 : Int32).toNatClampNeg (some r_53))))))), (mm, .inr (10, [.int 0, .ref pl, .ref ig, .ref sl, .ref kl, .int 0, .int 0, .int 0])), (sl, .inr (1, [.int 0, .ref dz, .int 0])), (r_53, .inl (q_54, 4, .inl zi))] H := hP
  have hD : va_D A [(pl, .inr (1, [.int 0, .ref dz, .int 0])), (q_41, .inr (1, [.int 0, .ref dz, .int 0])), (kl, .inr (1, [.int 0, .ref dz, .int 0])), (q_50, .inl (c_51, 3, .inr (.inr (.inr (.inr (va_up (fun _ => none) (0 : Int32).toNatClampNeg (some r_53))))))), (mm, .inr (10, [.int 0, .ref pl, .ref ig, .ref sl, .ref kl, .int 0, .int 0, .int 0])), (sl, .inr (1, [.int 0, .ref dz, .int 0])), (r_53, .inl (q_54, 4, .inl zi))] := hD
  refine lv_dup hx hb dX8_digest_406 rfl ?_
  refine lv_iconst (v := 1) hx hb dX8_digest_407 (by decide) ?_
  refine lv_aload_n hx hb dX8_digest_408 rfl (lv_at hl 3 rfl) ?_
  refine lv_bipush (v := 20) hx hb dX8_digest_409 (by decide) ?_
  refine lv_iconst (v := 1) hx hb dX8_digest_411 (by decide) ?_
  have hPc := hP.sub (ws' := [(mm, .inr (10, [.int 0, .ref pl, .ref ig, .ref sl, .ref kl, .int 0, .int 0, .int 0])), (sl, .inr (1, [.int 0, .ref dz, .int 0]))]) [4, 5] rfl
  have hDc := hD.sub (ws' := [(mm, .inr (10, [.int 0, .ref pl, .ref ig, .ref sl, .ref kl, .int 0, .int 0, .int 0])), (sl, .inr (1, [.int 0, .ref dz, .int 0]))]) [4, 5] (by decide) rfl
  have hKc := hK.sub (tys' := []) [] rfl
  have hFc := va_free (wc := [(mm, .inr (10, [.int 0, .ref pl, .ref ig, .ref sl, .ref kl, .int 0, .int 0, .int 0])), (sl, .inr (1, [.int 0, .ref dz, .int 0]))]) hD hS hA [4, 5] rfl
  refine va_callr (va_runV (As := [.int 20, .int 1]) (rest := [.int 1, .ref q_50, .ref q_50]) ⟨hx, hb, hml, hown, hts⟩ (c_X8_houseOf l dC dI mm pl ig sl kl dz (20 : Int32) (1 : Int32) _ ) (cwV 2 hts gX8_digest_X8_houseOf rfl rfl rfl (by decide +kernel) ⟨Nat.le_of_ble_eq_true rfl, Nat.le_of_ble_eq_true rfl⟩) ⟨pe_blind mo_bl, va_recv hKc hPc (ci := 10) (q0 := 0) rfl rfl, fun U hU hW => ⟨rfl, pr_mk hU hW hPc hKc hDc, mo_mk hW hXs.1⟩⟩ rfl rfl hl.1 rfl (lv_room (Nat.le_of_ble_eq_true rfl)) dX8_digest_412 ⟨Nat.le_of_ble_eq_true rfl, Nat.le_of_ble_eq_true rfl⟩) hS (fun q _ h => hFc q h) hFc (fun u_55 r_56 t H1 locs ht hvm hw hB hz1 hk1 hS => ?_)
  obtain ⟨q_57, rfl⟩ : ∃ z, z = u_55 := ⟨_, rfl⟩
  obtain ⟨hP1, hK1, hD1⟩ := hB
  rw [ht] at hP1
  obtain ⟨hP, hD⟩ := va_join (wr := [(pl, .inr (1, [.int 0, .ref dz, .int 0])), (q_41, .inr (1, [.int 0, .ref dz, .int 0])), (kl, .inr (1, [.int 0, .ref dz, .int 0])), (q_50, .inl (c_51, 3, .inr (.inr (.inr (.inr (va_up (fun _ => none) (0 : Int32).toNatClampNeg (some r_53))))))), (r_53, .inl (q_54, 4, .inl zi))]) (w1 := [(mm, .inr (10, [.int 0, .ref pl, .ref ig, .ref sl, .ref kl, .int 0, .int 0, .int 0])), (sl, .inr (1, [.int 0, .ref dz, .int 0])), (r_56, .inl (q_57, 4, .inl zi))]) hP hD [4, 5] [0, 1, 2, 3, 6] rfl rfl (by decide) (by decide) hk1 hFc hP1 hD1
  have hK := hK.app (va_K.moved hvm.symm hK1)
  have hK : va_K (dC, dI) vwCl [(c_51, .array .int), (q_54, .int), (q_57, .int)] s := hK
  generalize H1 = H at hP hS ⊢
  have hP : va_P (dC, dI) vwCl [(pl, .inr (1, [.int 0, .ref dz, .int 0])), (q_41, .inr (1, [.int 0, .ref dz, .int 0])), (kl, .inr (1, [.int 0, .ref dz, .int 0])), (q_50, .inl (c_51, 3, .inr (.inr (.inr (.inr (va_up (fun _ => none) (0 : Int32).toNatClampNeg (some r_53))))))), (r_53, .inl (q_54, 4, .inl zi)), (mm, .inr (10, [.int 0, .ref pl, .ref ig, .ref sl, .ref kl, .int 0, .int 0, .int 0])), (sl, .inr (1, [.int 0, .ref dz, .int 0])), (r_56, .inl (q_57, 4, .inl zi))] H := hP
  have hD : va_D A [(pl, .inr (1, [.int 0, .ref dz, .int 0])), (q_41, .inr (1, [.int 0, .ref dz, .int 0])), (kl, .inr (1, [.int 0, .ref dz, .int 0])), (q_50, .inl (c_51, 3, .inr (.inr (.inr (.inr (va_up (fun _ => none) (0 : Int32).toNatClampNeg (some r_53))))))), (r_53, .inl (q_54, 4, .inl zi)), (mm, .inr (10, [.int 0, .ref pl, .ref ig, .ref sl, .ref kl, .int 0, .int 0, .int 0])), (sl, .inr (1, [.int 0, .ref dz, .int 0])), (r_56, .inl (q_57, 4, .inl zi))] := hD
  have hcc : q_57 = q_54 := ty_one (t := .int) hK 2 1 rfl rfl (fun _ h => FieldType.noConfusion h)
  rw [hcc] at hP hD
  have hK := hK.sub (tys' := [(c_51, .array .int), (q_54, .int)]) [0, 1] rfl
  have hP : va_P (dC, dI) vwCl [(pl, .inr (1, [.int 0, .ref dz, .int 0])), (q_41, .inr (1, [.int 0, .ref dz, .int 0])), (kl, .inr (1, [.int 0, .ref dz, .int 0])), (q_50, .inl (c_51, 3, .inr (.inr (.inr (.inr (va_up (fun _ => none) (0 : Int32).toNatClampNeg (some r_53))))))), (r_53, .inl (q_54, 4, .inl zi)), (mm, .inr (10, [.int 0, .ref pl, .ref ig, .ref sl, .ref kl, .int 0, .int 0, .int 0])), (sl, .inr (1, [.int 0, .ref dz, .int 0])), (r_56, .inl (q_54, 4, .inl zi))] H := hP
  have hD : va_D A [(pl, .inr (1, [.int 0, .ref dz, .int 0])), (q_41, .inr (1, [.int 0, .ref dz, .int 0])), (kl, .inr (1, [.int 0, .ref dz, .int 0])), (q_50, .inl (c_51, 3, .inr (.inr (.inr (.inr (va_up (fun _ => none) (0 : Int32).toNatClampNeg (some r_53))))))), (r_53, .inl (q_54, 4, .inl zi)), (mm, .inr (10, [.int 0, .ref pl, .ref ig, .ref sl, .ref kl, .int 0, .int 0, .int 0])), (sl, .inr (1, [.int 0, .ref dz, .int 0])), (r_56, .inl (q_54, 4, .inl zi))] := hD
  refine W.widen (k := 18) (n := 132) (Nat.le_of_ble_eq_true rfl) (Nat.le_of_ble_eq_true rfl) ?_
  refine gd_st hx hb hXs.2.2 hK hP hD hS 3 0 7 1 rfl rfl rfl rfl (by unfold vp_in; decide) dX8_digest_415 (fun H locs hP hD hS => ?_)
  have hP : va_P (dC, dI) vwCl [(pl, .inr (1, [.int 0, .ref dz, .int 0])), (q_41, .inr (1, [.int 0, .ref dz, .int 0])), (kl, .inr (1, [.int 0, .ref dz, .int 0])), (q_50, .inl (c_51, 3, .inr (.inr (.inr (.inr (va_up (va_up (fun _ => none) (0 : Int32).toNatClampNeg (some r_53)) (1 : Int32).toNatClampNeg (some r_56))))))), (r_53, .inl (q_54, 4, .inl zi)), (mm, .inr (10, [.int 0, .ref pl, .ref ig, .ref sl, .ref kl, .int 0, .int 0, .int 0])), (sl, .inr (1, [.int 0, .ref dz, .int 0])), (r_56, .inl (q_54, 4, .inl zi))] H := hP
  have hD : va_D A [(pl, .inr (1, [.int 0, .ref dz, .int 0])), (q_41, .inr (1, [.int 0, .ref dz, .int 0])), (kl, .inr (1, [.int 0, .ref dz, .int 0])), (q_50, .inl (c_51, 3, .inr (.inr (.inr (.inr (va_up (va_up (fun _ => none) (0 : Int32).toNatClampNeg (some r_53)) (1 : Int32).toNatClampNeg (some r_56))))))), (r_53, .inl (q_54, 4, .inl zi)), (mm, .inr (10, [.int 0, .ref pl, .ref ig, .ref sl, .ref kl, .int 0, .int 0, .int 0])), (sl, .inr (1, [.int 0, .ref dz, .int 0])), (r_56, .inl (q_54, 4, .inl zi))] := hD
  refine lv_dup hx hb dX8_digest_416 rfl ?_
  refine lv_iconst (v := 2) hx hb dX8_digest_417 (by decide) ?_
  refine lv_aload_n hx hb dX8_digest_418 rfl (lv_at hl 3 rfl) ?_
  refine lv_bipush (v := 20) hx hb dX8_digest_419 (by decide) ?_
  refine lv_iconst (v := 2) hx hb dX8_digest_421 (by decide) ?_
  have hPc := hP.sub (ws' := [(mm, .inr (10, [.int 0, .ref pl, .ref ig, .ref sl, .ref kl, .int 0, .int 0, .int 0])), (sl, .inr (1, [.int 0, .ref dz, .int 0]))]) [5, 6] rfl
  have hDc := hD.sub (ws' := [(mm, .inr (10, [.int 0, .ref pl, .ref ig, .ref sl, .ref kl, .int 0, .int 0, .int 0])), (sl, .inr (1, [.int 0, .ref dz, .int 0]))]) [5, 6] (by decide) rfl
  have hKc := hK.sub (tys' := []) [] rfl
  have hFc := va_free (wc := [(mm, .inr (10, [.int 0, .ref pl, .ref ig, .ref sl, .ref kl, .int 0, .int 0, .int 0])), (sl, .inr (1, [.int 0, .ref dz, .int 0]))]) hD hS hA [5, 6] rfl
  refine va_callr (va_runV (As := [.int 20, .int 2]) (rest := [.int 2, .ref q_50, .ref q_50]) ⟨hx, hb, hml, hown, hts⟩ (c_X8_houseOf l dC dI mm pl ig sl kl dz (20 : Int32) (2 : Int32) _ ) (cwV 2 hts gX8_digest_X8_houseOf rfl rfl rfl (by decide +kernel) ⟨Nat.le_of_ble_eq_true rfl, Nat.le_of_ble_eq_true rfl⟩) ⟨pe_blind mo_bl, va_recv hKc hPc (ci := 10) (q0 := 0) rfl rfl, fun U hU hW => ⟨rfl, pr_mk hU hW hPc hKc hDc, mo_mk hW hXs.1⟩⟩ rfl rfl hl.1 rfl (lv_room (Nat.le_of_ble_eq_true rfl)) dX8_digest_422 ⟨Nat.le_of_ble_eq_true rfl, Nat.le_of_ble_eq_true rfl⟩) hS (fun q _ h => hFc q h) hFc (fun u_58 r_59 t H1 locs ht hvm hw hB hz1 hk1 hS => ?_)
  obtain ⟨q_60, rfl⟩ : ∃ z, z = u_58 := ⟨_, rfl⟩
  obtain ⟨hP1, hK1, hD1⟩ := hB
  rw [ht] at hP1
  obtain ⟨hP, hD⟩ := va_join (wr := [(pl, .inr (1, [.int 0, .ref dz, .int 0])), (q_41, .inr (1, [.int 0, .ref dz, .int 0])), (kl, .inr (1, [.int 0, .ref dz, .int 0])), (q_50, .inl (c_51, 3, .inr (.inr (.inr (.inr (va_up (va_up (fun _ => none) (0 : Int32).toNatClampNeg (some r_53)) (1 : Int32).toNatClampNeg (some r_56))))))), (r_53, .inl (q_54, 4, .inl zi)), (r_56, .inl (q_54, 4, .inl zi))]) (w1 := [(mm, .inr (10, [.int 0, .ref pl, .ref ig, .ref sl, .ref kl, .int 0, .int 0, .int 0])), (sl, .inr (1, [.int 0, .ref dz, .int 0])), (r_59, .inl (q_60, 4, .inl zi))]) hP hD [5, 6] [0, 1, 2, 3, 4, 7] rfl rfl (by decide) (by decide) hk1 hFc hP1 hD1
  have hK := hK.app (va_K.moved hvm.symm hK1)
  have hK : va_K (dC, dI) vwCl [(c_51, .array .int), (q_54, .int), (q_60, .int)] s := hK
  generalize H1 = H at hP hS ⊢
  have hP : va_P (dC, dI) vwCl [(pl, .inr (1, [.int 0, .ref dz, .int 0])), (q_41, .inr (1, [.int 0, .ref dz, .int 0])), (kl, .inr (1, [.int 0, .ref dz, .int 0])), (q_50, .inl (c_51, 3, .inr (.inr (.inr (.inr (va_up (va_up (fun _ => none) (0 : Int32).toNatClampNeg (some r_53)) (1 : Int32).toNatClampNeg (some r_56))))))), (r_53, .inl (q_54, 4, .inl zi)), (r_56, .inl (q_54, 4, .inl zi)), (mm, .inr (10, [.int 0, .ref pl, .ref ig, .ref sl, .ref kl, .int 0, .int 0, .int 0])), (sl, .inr (1, [.int 0, .ref dz, .int 0])), (r_59, .inl (q_60, 4, .inl zi))] H := hP
  have hD : va_D A [(pl, .inr (1, [.int 0, .ref dz, .int 0])), (q_41, .inr (1, [.int 0, .ref dz, .int 0])), (kl, .inr (1, [.int 0, .ref dz, .int 0])), (q_50, .inl (c_51, 3, .inr (.inr (.inr (.inr (va_up (va_up (fun _ => none) (0 : Int32).toNatClampNeg (some r_53)) (1 : Int32).toNatClampNeg (some r_56))))))), (r_53, .inl (q_54, 4, .inl zi)), (r_56, .inl (q_54, 4, .inl zi)), (mm, .inr (10, [.int 0, .ref pl, .ref ig, .ref sl, .ref kl, .int 0, .int 0, .int 0])), (sl, .inr (1, [.int 0, .ref dz, .int 0])), (r_59, .inl (q_60, 4, .inl zi))] := hD
  have hcc : q_60 = q_54 := ty_one (t := .int) hK 2 1 rfl rfl (fun _ h => FieldType.noConfusion h)
  rw [hcc] at hP hD
  have hK := hK.sub (tys' := [(c_51, .array .int), (q_54, .int)]) [0, 1] rfl
  have hP : va_P (dC, dI) vwCl [(pl, .inr (1, [.int 0, .ref dz, .int 0])), (q_41, .inr (1, [.int 0, .ref dz, .int 0])), (kl, .inr (1, [.int 0, .ref dz, .int 0])), (q_50, .inl (c_51, 3, .inr (.inr (.inr (.inr (va_up (va_up (fun _ => none) (0 : Int32).toNatClampNeg (some r_53)) (1 : Int32).toNatClampNeg (some r_56))))))), (r_53, .inl (q_54, 4, .inl zi)), (r_56, .inl (q_54, 4, .inl zi)), (mm, .inr (10, [.int 0, .ref pl, .ref ig, .ref sl, .ref kl, .int 0, .int 0, .int 0])), (sl, .inr (1, [.int 0, .ref dz, .int 0])), (r_59, .inl (q_54, 4, .inl zi))] H := hP
  have hD : va_D A [(pl, .inr (1, [.int 0, .ref dz, .int 0])), (q_41, .inr (1, [.int 0, .ref dz, .int 0])), (kl, .inr (1, [.int 0, .ref dz, .int 0])), (q_50, .inl (c_51, 3, .inr (.inr (.inr (.inr (va_up (va_up (fun _ => none) (0 : Int32).toNatClampNeg (some r_53)) (1 : Int32).toNatClampNeg (some r_56))))))), (r_53, .inl (q_54, 4, .inl zi)), (r_56, .inl (q_54, 4, .inl zi)), (mm, .inr (10, [.int 0, .ref pl, .ref ig, .ref sl, .ref kl, .int 0, .int 0, .int 0])), (sl, .inr (1, [.int 0, .ref dz, .int 0])), (r_59, .inl (q_54, 4, .inl zi))] := hD
  refine W.widen (k := 21) (n := 145) (Nat.le_of_ble_eq_true rfl) (Nat.le_of_ble_eq_true rfl) ?_
  refine gd_st hx hb hXs.2.2 hK hP hD hS 3 0 8 1 rfl rfl rfl rfl (by unfold vp_in; decide) dX8_digest_425 (fun H locs hP hD hS => ?_)
  have hP : va_P (dC, dI) vwCl [(pl, .inr (1, [.int 0, .ref dz, .int 0])), (q_41, .inr (1, [.int 0, .ref dz, .int 0])), (kl, .inr (1, [.int 0, .ref dz, .int 0])), (q_50, .inl (c_51, 3, .inr (.inr (.inr (.inr (va_up (va_up (va_up (fun _ => none) (0 : Int32).toNatClampNeg (some r_53)) (1 : Int32).toNatClampNeg (some r_56)) (2 : Int32).toNatClampNeg (some r_59))))))), (r_53, .inl (q_54, 4, .inl zi)), (r_56, .inl (q_54, 4, .inl zi)), (mm, .inr (10, [.int 0, .ref pl, .ref ig, .ref sl, .ref kl, .int 0, .int 0, .int 0])), (sl, .inr (1, [.int 0, .ref dz, .int 0])), (r_59, .inl (q_54, 4, .inl zi))] H := hP
  have hD : va_D A [(pl, .inr (1, [.int 0, .ref dz, .int 0])), (q_41, .inr (1, [.int 0, .ref dz, .int 0])), (kl, .inr (1, [.int 0, .ref dz, .int 0])), (q_50, .inl (c_51, 3, .inr (.inr (.inr (.inr (va_up (va_up (va_up (fun _ => none) (0 : Int32).toNatClampNeg (some r_53)) (1 : Int32).toNatClampNeg (some r_56)) (2 : Int32).toNatClampNeg (some r_59))))))), (r_53, .inl (q_54, 4, .inl zi)), (r_56, .inl (q_54, 4, .inl zi)), (mm, .inr (10, [.int 0, .ref pl, .ref ig, .ref sl, .ref kl, .int 0, .int 0, .int 0])), (sl, .inr (1, [.int 0, .ref dz, .int 0])), (r_59, .inl (q_54, 4, .inl zi))] := hD
  refine lv_astore (lv' := [(4, .ref q_50), (3, .ref q_41), (1, .long (-7549346063852110140)), (0, .ref mm)]) hx hb dX8_digest_426 hl (by decide) rfl (fun ls hl => ?_)
  refine lv_iconst (v := 0) hx hb dX8_digest_428 (by decide) ?_
  refine lv_istore (lv' := [(5, .int 0), (4, .ref q_50), (3, .ref q_41), (1, .long (-7549346063852110140)), (0, .ref mm)]) hx hb dX8_digest_429 hl (by decide) rfl (fun ls hl => ?_)
  refine lv_iload hx hb dX8_digest_431 (lv_at hl 0 rfl) ?_
  refine lv_iconst (v := 4) hx hb dX8_digest_433 (by decide) ?_
  refine lv_icmp_ge (tgt := 536) hx hb dX8_digest_434 (by decide) (fun h9 => absurd h9 (by decide)) (fun _ => ?_)
  refine lv_iconst (v := 0) hx hb dX8_digest_437 (by decide) ?_
  refine lv_istore (lv' := [(6, .int 0), (5, .int 0), (4, .ref q_50), (3, .ref q_41), (1, .long (-7549346063852110140)), (0, .ref mm)]) hx hb dX8_digest_438 hl (by decide) rfl (fun ls hl => ?_)
  refine lv_iload hx hb dX8_digest_440 (lv_at hl 0 rfl) ?_
  refine lv_iconst (v := 4) hx hb dX8_digest_442 (by decide) ?_
  refine lv_icmp_gt (tgt := 468) hx hb dX8_digest_443 (by decide) (fun h9 => absurd h9 (by decide)) (fun _ => ?_)
  refine lv_lload_n hx hb dX8_digest_446 rfl (lv_at hl 4 rfl) ?_
  refine lv_ldc2 (v := 31) hx hb hown (hts (.constantLong RX8 232 31) (by decide +kernel)) dX8_digest_447 ?_
  refine lv_lmul hx hb dX8_digest_450 ?_
  refine lv_topl (fun y_61 ey_61 => ?_)
  obtain rfl : y_61 = 5777944978808756668 := ey_61.trans (by decide)
  refine lv_aload_n hx hb dX8_digest_451 rfl (lv_at hl 5 rfl) ?_
  refine lv_iload hx hb dX8_digest_452 (lv_at hl 1 rfl) ?_
  refine lv_iload hx hb dX8_digest_454 (lv_at hl 0 rfl) ?_
  have hPc := hP.sub (ws' := [(mm, .inr (10, [.int 0, .ref pl, .ref ig, .ref sl, .ref kl, .int 0, .int 0, .int 0])), (pl, .inr (1, [.int 0, .ref dz, .int 0])), (sl, .inr (1, [.int 0, .ref dz, .int 0]))]) [6, 0, 7] rfl
  have hDc := hD.sub (ws' := [(mm, .inr (10, [.int 0, .ref pl, .ref ig, .ref sl, .ref kl, .int 0, .int 0, .int 0])), (pl, .inr (1, [.int 0, .ref dz, .int 0])), (sl, .inr (1, [.int 0, .ref dz, .int 0]))]) [6, 0, 7] (by decide) rfl
  have hKc := hK.sub (tys' := []) [] rfl
  have hFc := va_free (wc := [(mm, .inr (10, [.int 0, .ref pl, .ref ig, .ref sl, .ref kl, .int 0, .int 0, .int 0])), (pl, .inr (1, [.int 0, .ref dz, .int 0])), (sl, .inr (1, [.int 0, .ref dz, .int 0]))]) hD hS hA [6, 0, 7] rfl
  refine va_calli (va_runV (As := [.int 0, .int 0]) (rest := [.long 5777944978808756668]) ⟨hx, hb, hml, hown, hts⟩ (c_X8_partyNow l dC dI mm pl ig sl kl dz (0 : Int32) (0 : Int32) _ (by unfold vp_in; decide)) (cwV 2 hts gX8_digest_X8_partyNow rfl rfl rfl (by decide +kernel) ⟨Nat.le_of_ble_eq_true rfl, Nat.le_of_ble_eq_true rfl⟩) ⟨pe_blind mo_bl, va_recv hKc hPc (ci := 10) (q0 := 0) rfl rfl, fun U hU hW => ⟨rfl, pr_mk hU hW hPc hKc hDc, mo_mk hW hXs.1⟩⟩ rfl rfl hl.1 rfl (lv_room (Nat.le_of_ble_eq_true rfl)) dX8_digest_456 ⟨Nat.le_of_ble_eq_true rfl, Nat.le_of_ble_eq_true rfl⟩) hS (fun q _ h => hFc q h) hFc (fun r_63 u_62 t H1 locs ht hvm hw hB hz1 hk1 hS => ?_)
  obtain ⟨hP1, hK1, hD1⟩ := hB
  rw [ht] at hP1
  obtain ⟨hP, hD⟩ := va_join (wr := [(q_41, .inr (1, [.int 0, .ref dz, .int 0])), (kl, .inr (1, [.int 0, .ref dz, .int 0])), (q_50, .inl (c_51, 3, .inr (.inr (.inr (.inr (va_up (va_up (va_up (fun _ => none) (0 : Int32).toNatClampNeg (some r_53)) (1 : Int32).toNatClampNeg (some r_56)) (2 : Int32).toNatClampNeg (some r_59))))))), (r_53, .inl (q_54, 4, .inl zi)), (r_56, .inl (q_54, 4, .inl zi)), (r_59, .inl (q_54, 4, .inl zi))]) (w1 := [(mm, .inr (10, [.int 0, .ref pl, .ref ig, .ref sl, .ref kl, .int 0, .int 0, .int 0])), (pl, .inr (1, [.int 0, .ref dz, .int 0])), (sl, .inr (1, [.int 0, .ref dz, .int 0]))]) hP hD [6, 0, 7] [1, 2, 3, 4, 5, 8] rfl rfl (by decide) (by decide) hk1 hFc hP1 hD1
  generalize H1 = H at hP hS ⊢
  have hP : va_P (dC, dI) vwCl [(q_41, .inr (1, [.int 0, .ref dz, .int 0])), (kl, .inr (1, [.int 0, .ref dz, .int 0])), (q_50, .inl (c_51, 3, .inr (.inr (.inr (.inr (va_up (va_up (va_up (fun _ => none) (0 : Int32).toNatClampNeg (some r_53)) (1 : Int32).toNatClampNeg (some r_56)) (2 : Int32).toNatClampNeg (some r_59))))))), (r_53, .inl (q_54, 4, .inl zi)), (r_56, .inl (q_54, 4, .inl zi)), (r_59, .inl (q_54, 4, .inl zi)), (mm, .inr (10, [.int 0, .ref pl, .ref ig, .ref sl, .ref kl, .int 0, .int 0, .int 0])), (pl, .inr (1, [.int 0, .ref dz, .int 0])), (sl, .inr (1, [.int 0, .ref dz, .int 0]))] H := hP
  have hD : va_D A [(q_41, .inr (1, [.int 0, .ref dz, .int 0])), (kl, .inr (1, [.int 0, .ref dz, .int 0])), (q_50, .inl (c_51, 3, .inr (.inr (.inr (.inr (va_up (va_up (va_up (fun _ => none) (0 : Int32).toNatClampNeg (some r_53)) (1 : Int32).toNatClampNeg (some r_56)) (2 : Int32).toNatClampNeg (some r_59))))))), (r_53, .inl (q_54, 4, .inl zi)), (r_56, .inl (q_54, 4, .inl zi)), (r_59, .inl (q_54, 4, .inl zi)), (mm, .inr (10, [.int 0, .ref pl, .ref ig, .ref sl, .ref kl, .int 0, .int 0, .int 0])), (pl, .inr (1, [.int 0, .ref dz, .int 0])), (sl, .inr (1, [.int 0, .ref dz, .int 0]))] := hD
  refine W.widen (k := 22) (n := 150) (Nat.le_of_ble_eq_true rfl) (Nat.le_of_ble_eq_true rfl) ?_
  have hw : r_63 = 0 := hw
  subst hw
  refine lv_i2l (v := 0) hx hb dX8_digest_459 (by decide) ?_
  refine lv_ladd hx hb dX8_digest_460 ?_
  refine lv_topl (fun y_64 ey_64 => ?_)
  obtain rfl : y_64 = 5777944978808756668 := ey_64.trans (by decide)
  refine lv_lstore_n (lv' := [(1, .long 5777944978808756668), (6, .int 0), (5, .int 0), (4, .ref q_50), (3, .ref q_41), (0, .ref mm)]) hx hb dX8_digest_461 rfl hl (by decide) rfl (fun ls hl => ?_)
  refine lv_iinc (k := 1) (v := 1) (lv' := [(6, .int 1), (1, .long 5777944978808756668), (5, .int 0), (4, .ref q_50), (3, .ref q_41), (0, .ref mm)]) hx hb dX8_digest_462 hl rfl (by decide) (by decide) rfl (fun ls hl => ?_)
  refine lv_goto (tgt := 440) hx hb dX8_digest_465 (by decide) ?_
  refine lv_iload hx hb dX8_digest_440 (lv_at hl 0 rfl) ?_
  refine lv_iconst (v := 4) hx hb dX8_digest_442 (by decide) ?_
  refine lv_icmp_gt (tgt := 468) hx hb dX8_digest_443 (by decide) (fun h9 => absurd h9 (by decide)) (fun _ => ?_)
  refine lv_lload_n hx hb dX8_digest_446 rfl (lv_at hl 1 rfl) ?_
  refine lv_ldc2 (v := 31) hx hb hown (hts (.constantLong RX8 232 31) (by decide +kernel)) dX8_digest_447 ?_
  refine lv_lmul hx hb dX8_digest_450 ?_
  refine lv_topl (fun y_65 ey_65 => ?_)
  obtain rfl : y_65 = (-5351146394024059452) := ey_65.trans (by decide)
  refine lv_aload_n hx hb dX8_digest_451 rfl (lv_at hl 5 rfl) ?_
  refine lv_iload hx hb dX8_digest_452 (lv_at hl 2 rfl) ?_
  refine lv_iload hx hb dX8_digest_454 (lv_at hl 0 rfl) ?_
  have hPc := hP.sub (ws' := [(mm, .inr (10, [.int 0, .ref pl, .ref ig, .ref sl, .ref kl, .int 0, .int 0, .int 0])), (pl, .inr (1, [.int 0, .ref dz, .int 0])), (sl, .inr (1, [.int 0, .ref dz, .int 0]))]) [6, 7, 8] rfl
  have hDc := hD.sub (ws' := [(mm, .inr (10, [.int 0, .ref pl, .ref ig, .ref sl, .ref kl, .int 0, .int 0, .int 0])), (pl, .inr (1, [.int 0, .ref dz, .int 0])), (sl, .inr (1, [.int 0, .ref dz, .int 0]))]) [6, 7, 8] (by decide) rfl
  have hKc := hK.sub (tys' := []) [] rfl
  have hFc := va_free (wc := [(mm, .inr (10, [.int 0, .ref pl, .ref ig, .ref sl, .ref kl, .int 0, .int 0, .int 0])), (pl, .inr (1, [.int 0, .ref dz, .int 0])), (sl, .inr (1, [.int 0, .ref dz, .int 0]))]) hD hS hA [6, 7, 8] rfl
  refine va_calli (va_runV (As := [.int 0, .int 1]) (rest := [.long (-5351146394024059452)]) ⟨hx, hb, hml, hown, hts⟩ (c_X8_partyNow l dC dI mm pl ig sl kl dz (0 : Int32) (1 : Int32) _ (by unfold vp_in; decide)) (cwV 2 hts gX8_digest_X8_partyNow rfl rfl rfl (by decide +kernel) ⟨Nat.le_of_ble_eq_true rfl, Nat.le_of_ble_eq_true rfl⟩) ⟨pe_blind mo_bl, va_recv hKc hPc (ci := 10) (q0 := 0) rfl rfl, fun U hU hW => ⟨rfl, pr_mk hU hW hPc hKc hDc, mo_mk hW hXs.1⟩⟩ rfl rfl hl.1 rfl (lv_room (Nat.le_of_ble_eq_true rfl)) dX8_digest_456 ⟨Nat.le_of_ble_eq_true rfl, Nat.le_of_ble_eq_true rfl⟩) hS (fun q _ h => hFc q h) hFc (fun r_67 u_66 t H1 locs ht hvm hw hB hz1 hk1 hS => ?_)
  obtain ⟨hP1, hK1, hD1⟩ := hB
  rw [ht] at hP1
  obtain ⟨hP, hD⟩ := va_join (wr := [(q_41, .inr (1, [.int 0, .ref dz, .int 0])), (kl, .inr (1, [.int 0, .ref dz, .int 0])), (q_50, .inl (c_51, 3, .inr (.inr (.inr (.inr (va_up (va_up (va_up (fun _ => none) (0 : Int32).toNatClampNeg (some r_53)) (1 : Int32).toNatClampNeg (some r_56)) (2 : Int32).toNatClampNeg (some r_59))))))), (r_53, .inl (q_54, 4, .inl zi)), (r_56, .inl (q_54, 4, .inl zi)), (r_59, .inl (q_54, 4, .inl zi))]) (w1 := [(mm, .inr (10, [.int 0, .ref pl, .ref ig, .ref sl, .ref kl, .int 0, .int 0, .int 0])), (pl, .inr (1, [.int 0, .ref dz, .int 0])), (sl, .inr (1, [.int 0, .ref dz, .int 0]))]) hP hD [6, 7, 8] [0, 1, 2, 3, 4, 5] rfl rfl (by decide) (by decide) hk1 hFc hP1 hD1
  generalize H1 = H at hP hS ⊢
  have hP : va_P (dC, dI) vwCl [(q_41, .inr (1, [.int 0, .ref dz, .int 0])), (kl, .inr (1, [.int 0, .ref dz, .int 0])), (q_50, .inl (c_51, 3, .inr (.inr (.inr (.inr (va_up (va_up (va_up (fun _ => none) (0 : Int32).toNatClampNeg (some r_53)) (1 : Int32).toNatClampNeg (some r_56)) (2 : Int32).toNatClampNeg (some r_59))))))), (r_53, .inl (q_54, 4, .inl zi)), (r_56, .inl (q_54, 4, .inl zi)), (r_59, .inl (q_54, 4, .inl zi)), (mm, .inr (10, [.int 0, .ref pl, .ref ig, .ref sl, .ref kl, .int 0, .int 0, .int 0])), (pl, .inr (1, [.int 0, .ref dz, .int 0])), (sl, .inr (1, [.int 0, .ref dz, .int 0]))] H := hP
  have hD : va_D A [(q_41, .inr (1, [.int 0, .ref dz, .int 0])), (kl, .inr (1, [.int 0, .ref dz, .int 0])), (q_50, .inl (c_51, 3, .inr (.inr (.inr (.inr (va_up (va_up (va_up (fun _ => none) (0 : Int32).toNatClampNeg (some r_53)) (1 : Int32).toNatClampNeg (some r_56)) (2 : Int32).toNatClampNeg (some r_59))))))), (r_53, .inl (q_54, 4, .inl zi)), (r_56, .inl (q_54, 4, .inl zi)), (r_59, .inl (q_54, 4, .inl zi)), (mm, .inr (10, [.int 0, .ref pl, .ref ig, .ref sl, .ref kl, .int 0, .int 0, .int 0])), (pl, .inr (1, [.int 0, .ref dz, .int 0])), (sl, .inr (1, [.int 0, .ref dz, .int 0]))] := hD
  refine W.widen (k := 23) (n := 155) (Nat.le_of_ble_eq_true rfl) (Nat.le_of_ble_eq_true rfl) ?_
  have hw : r_67 = 0 := hw
  subst hw
  refine lv_i2l (v := 0) hx hb dX8_digest_459 (by decide) ?_
  refine lv_ladd hx hb dX8_digest_460 ?_
  refine lv_topl (fun y_68 ey_68 => ?_)
  obtain rfl : y_68 = (-5351146394024059452) := ey_68.trans (by decide)
  refine lv_lstore_n (lv' := [(1, .long (-5351146394024059452)), (6, .int 1), (5, .int 0), (4, .ref q_50), (3, .ref q_41), (0, .ref mm)]) hx hb dX8_digest_461 rfl hl (by decide) rfl (fun ls hl => ?_)
  refine lv_iinc (k := 1) (v := 2) (lv' := [(6, .int 2), (1, .long (-5351146394024059452)), (5, .int 0), (4, .ref q_50), (3, .ref q_41), (0, .ref mm)]) hx hb dX8_digest_462 hl rfl (by decide) (by decide) rfl (fun ls hl => ?_)
  refine lv_goto (tgt := 440) hx hb dX8_digest_465 (by decide) ?_
  refine lv_iload hx hb dX8_digest_440 (lv_at hl 0 rfl) ?_
  refine lv_iconst (v := 4) hx hb dX8_digest_442 (by decide) ?_
  refine lv_icmp_gt (tgt := 468) hx hb dX8_digest_443 (by decide) (fun h9 => absurd h9 (by decide)) (fun _ => ?_)
  refine lv_lload_n hx hb dX8_digest_446 rfl (lv_at hl 1 rfl) ?_
  refine lv_ldc2 (v := 31) hx hb hown (hts (.constantLong RX8 232 31) (by decide +kernel)) dX8_digest_447 ?_
  refine lv_lmul hx hb dX8_digest_450 ?_
  refine lv_topl (fun y_69 ey_69 => ?_)
  obtain rfl : y_69 = 135158448640121532 := ey_69.trans (by decide)
  refine lv_aload_n hx hb dX8_digest_451 rfl (lv_at hl 5 rfl) ?_
  refine lv_iload hx hb dX8_digest_452 (lv_at hl 2 rfl) ?_
  refine lv_iload hx hb dX8_digest_454 (lv_at hl 0 rfl) ?_
  have hPc := hP.sub (ws' := [(mm, .inr (10, [.int 0, .ref pl, .ref ig, .ref sl, .ref kl, .int 0, .int 0, .int 0])), (pl, .inr (1, [.int 0, .ref dz, .int 0])), (sl, .inr (1, [.int 0, .ref dz, .int 0]))]) [6, 7, 8] rfl
  have hDc := hD.sub (ws' := [(mm, .inr (10, [.int 0, .ref pl, .ref ig, .ref sl, .ref kl, .int 0, .int 0, .int 0])), (pl, .inr (1, [.int 0, .ref dz, .int 0])), (sl, .inr (1, [.int 0, .ref dz, .int 0]))]) [6, 7, 8] (by decide) rfl
  have hKc := hK.sub (tys' := []) [] rfl
  have hFc := va_free (wc := [(mm, .inr (10, [.int 0, .ref pl, .ref ig, .ref sl, .ref kl, .int 0, .int 0, .int 0])), (pl, .inr (1, [.int 0, .ref dz, .int 0])), (sl, .inr (1, [.int 0, .ref dz, .int 0]))]) hD hS hA [6, 7, 8] rfl
  refine va_calli (va_runV (As := [.int 0, .int 2]) (rest := [.long 135158448640121532]) ⟨hx, hb, hml, hown, hts⟩ (c_X8_partyNow l dC dI mm pl ig sl kl dz (0 : Int32) (2 : Int32) _ (by unfold vp_in; decide)) (cwV 2 hts gX8_digest_X8_partyNow rfl rfl rfl (by decide +kernel) ⟨Nat.le_of_ble_eq_true rfl, Nat.le_of_ble_eq_true rfl⟩) ⟨pe_blind mo_bl, va_recv hKc hPc (ci := 10) (q0 := 0) rfl rfl, fun U hU hW => ⟨rfl, pr_mk hU hW hPc hKc hDc, mo_mk hW hXs.1⟩⟩ rfl rfl hl.1 rfl (lv_room (Nat.le_of_ble_eq_true rfl)) dX8_digest_456 ⟨Nat.le_of_ble_eq_true rfl, Nat.le_of_ble_eq_true rfl⟩) hS (fun q _ h => hFc q h) hFc (fun r_71 u_70 t H1 locs ht hvm hw hB hz1 hk1 hS => ?_)
  obtain ⟨hP1, hK1, hD1⟩ := hB
  rw [ht] at hP1
  obtain ⟨hP, hD⟩ := va_join (wr := [(q_41, .inr (1, [.int 0, .ref dz, .int 0])), (kl, .inr (1, [.int 0, .ref dz, .int 0])), (q_50, .inl (c_51, 3, .inr (.inr (.inr (.inr (va_up (va_up (va_up (fun _ => none) (0 : Int32).toNatClampNeg (some r_53)) (1 : Int32).toNatClampNeg (some r_56)) (2 : Int32).toNatClampNeg (some r_59))))))), (r_53, .inl (q_54, 4, .inl zi)), (r_56, .inl (q_54, 4, .inl zi)), (r_59, .inl (q_54, 4, .inl zi))]) (w1 := [(mm, .inr (10, [.int 0, .ref pl, .ref ig, .ref sl, .ref kl, .int 0, .int 0, .int 0])), (pl, .inr (1, [.int 0, .ref dz, .int 0])), (sl, .inr (1, [.int 0, .ref dz, .int 0]))]) hP hD [6, 7, 8] [0, 1, 2, 3, 4, 5] rfl rfl (by decide) (by decide) hk1 hFc hP1 hD1
  generalize H1 = H at hP hS ⊢
  have hP : va_P (dC, dI) vwCl [(q_41, .inr (1, [.int 0, .ref dz, .int 0])), (kl, .inr (1, [.int 0, .ref dz, .int 0])), (q_50, .inl (c_51, 3, .inr (.inr (.inr (.inr (va_up (va_up (va_up (fun _ => none) (0 : Int32).toNatClampNeg (some r_53)) (1 : Int32).toNatClampNeg (some r_56)) (2 : Int32).toNatClampNeg (some r_59))))))), (r_53, .inl (q_54, 4, .inl zi)), (r_56, .inl (q_54, 4, .inl zi)), (r_59, .inl (q_54, 4, .inl zi)), (mm, .inr (10, [.int 0, .ref pl, .ref ig, .ref sl, .ref kl, .int 0, .int 0, .int 0])), (pl, .inr (1, [.int 0, .ref dz, .int 0])), (sl, .inr (1, [.int 0, .ref dz, .int 0]))] H := hP
  have hD : va_D A [(q_41, .inr (1, [.int 0, .ref dz, .int 0])), (kl, .inr (1, [.int 0, .ref dz, .int 0])), (q_50, .inl (c_51, 3, .inr (.inr (.inr (.inr (va_up (va_up (va_up (fun _ => none) (0 : Int32).toNatClampNeg (some r_53)) (1 : Int32).toNatClampNeg (some r_56)) (2 : Int32).toNatClampNeg (some r_59))))))), (r_53, .inl (q_54, 4, .inl zi)), (r_56, .inl (q_54, 4, .inl zi)), (r_59, .inl (q_54, 4, .inl zi)), (mm, .inr (10, [.int 0, .ref pl, .ref ig, .ref sl, .ref kl, .int 0, .int 0, .int 0])), (pl, .inr (1, [.int 0, .ref dz, .int 0])), (sl, .inr (1, [.int 0, .ref dz, .int 0]))] := hD
  refine W.widen (k := 24) (n := 160) (Nat.le_of_ble_eq_true rfl) (Nat.le_of_ble_eq_true rfl) ?_
  have hw : r_71 = 0 := hw
  subst hw
  refine lv_i2l (v := 0) hx hb dX8_digest_459 (by decide) ?_
  refine lv_ladd hx hb dX8_digest_460 ?_
  refine lv_topl (fun y_72 ey_72 => ?_)
  obtain rfl : y_72 = 135158448640121532 := ey_72.trans (by decide)
  refine lv_lstore_n (lv' := [(1, .long 135158448640121532), (6, .int 2), (5, .int 0), (4, .ref q_50), (3, .ref q_41), (0, .ref mm)]) hx hb dX8_digest_461 rfl hl (by decide) rfl (fun ls hl => ?_)
  refine lv_iinc (k := 1) (v := 3) (lv' := [(6, .int 3), (1, .long 135158448640121532), (5, .int 0), (4, .ref q_50), (3, .ref q_41), (0, .ref mm)]) hx hb dX8_digest_462 hl rfl (by decide) (by decide) rfl (fun ls hl => ?_)
  refine lv_goto (tgt := 440) hx hb dX8_digest_465 (by decide) ?_
  refine lv_iload hx hb dX8_digest_440 (lv_at hl 0 rfl) ?_
  refine lv_iconst (v := 4) hx hb dX8_digest_442 (by decide) ?_
  refine lv_icmp_gt (tgt := 468) hx hb dX8_digest_443 (by decide) (fun h9 => absurd h9 (by decide)) (fun _ => ?_)
  refine lv_lload_n hx hb dX8_digest_446 rfl (lv_at hl 1 rfl) ?_
  refine lv_ldc2 (v := 31) hx hb hown (hts (.constantLong RX8 232 31) (by decide +kernel)) dX8_digest_447 ?_
  refine lv_lmul hx hb dX8_digest_450 ?_
  refine lv_topl (fun y_73 ey_73 => ?_)
  obtain rfl : y_73 = 4189911907843767492 := ey_73.trans (by decide)
  refine lv_aload_n hx hb dX8_digest_451 rfl (lv_at hl 5 rfl) ?_
  refine lv_iload hx hb dX8_digest_452 (lv_at hl 2 rfl) ?_
  refine lv_iload hx hb dX8_digest_454 (lv_at hl 0 rfl) ?_
  have hPc := hP.sub (ws' := [(mm, .inr (10, [.int 0, .ref pl, .ref ig, .ref sl, .ref kl, .int 0, .int 0, .int 0])), (pl, .inr (1, [.int 0, .ref dz, .int 0])), (sl, .inr (1, [.int 0, .ref dz, .int 0]))]) [6, 7, 8] rfl
  have hDc := hD.sub (ws' := [(mm, .inr (10, [.int 0, .ref pl, .ref ig, .ref sl, .ref kl, .int 0, .int 0, .int 0])), (pl, .inr (1, [.int 0, .ref dz, .int 0])), (sl, .inr (1, [.int 0, .ref dz, .int 0]))]) [6, 7, 8] (by decide) rfl
  have hKc := hK.sub (tys' := []) [] rfl
  have hFc := va_free (wc := [(mm, .inr (10, [.int 0, .ref pl, .ref ig, .ref sl, .ref kl, .int 0, .int 0, .int 0])), (pl, .inr (1, [.int 0, .ref dz, .int 0])), (sl, .inr (1, [.int 0, .ref dz, .int 0]))]) hD hS hA [6, 7, 8] rfl
  refine va_calli (va_runV (As := [.int 0, .int 3]) (rest := [.long 4189911907843767492]) ⟨hx, hb, hml, hown, hts⟩ (c_X8_partyNow l dC dI mm pl ig sl kl dz (0 : Int32) (3 : Int32) _ (by unfold vp_in; decide)) (cwV 2 hts gX8_digest_X8_partyNow rfl rfl rfl (by decide +kernel) ⟨Nat.le_of_ble_eq_true rfl, Nat.le_of_ble_eq_true rfl⟩) ⟨pe_blind mo_bl, va_recv hKc hPc (ci := 10) (q0 := 0) rfl rfl, fun U hU hW => ⟨rfl, pr_mk hU hW hPc hKc hDc, mo_mk hW hXs.1⟩⟩ rfl rfl hl.1 rfl (lv_room (Nat.le_of_ble_eq_true rfl)) dX8_digest_456 ⟨Nat.le_of_ble_eq_true rfl, Nat.le_of_ble_eq_true rfl⟩) hS (fun q _ h => hFc q h) hFc (fun r_75 u_74 t H1 locs ht hvm hw hB hz1 hk1 hS => ?_)
  obtain ⟨hP1, hK1, hD1⟩ := hB
  rw [ht] at hP1
  obtain ⟨hP, hD⟩ := va_join (wr := [(q_41, .inr (1, [.int 0, .ref dz, .int 0])), (kl, .inr (1, [.int 0, .ref dz, .int 0])), (q_50, .inl (c_51, 3, .inr (.inr (.inr (.inr (va_up (va_up (va_up (fun _ => none) (0 : Int32).toNatClampNeg (some r_53)) (1 : Int32).toNatClampNeg (some r_56)) (2 : Int32).toNatClampNeg (some r_59))))))), (r_53, .inl (q_54, 4, .inl zi)), (r_56, .inl (q_54, 4, .inl zi)), (r_59, .inl (q_54, 4, .inl zi))]) (w1 := [(mm, .inr (10, [.int 0, .ref pl, .ref ig, .ref sl, .ref kl, .int 0, .int 0, .int 0])), (pl, .inr (1, [.int 0, .ref dz, .int 0])), (sl, .inr (1, [.int 0, .ref dz, .int 0]))]) hP hD [6, 7, 8] [0, 1, 2, 3, 4, 5] rfl rfl (by decide) (by decide) hk1 hFc hP1 hD1
  generalize H1 = H at hP hS ⊢
  have hP : va_P (dC, dI) vwCl [(q_41, .inr (1, [.int 0, .ref dz, .int 0])), (kl, .inr (1, [.int 0, .ref dz, .int 0])), (q_50, .inl (c_51, 3, .inr (.inr (.inr (.inr (va_up (va_up (va_up (fun _ => none) (0 : Int32).toNatClampNeg (some r_53)) (1 : Int32).toNatClampNeg (some r_56)) (2 : Int32).toNatClampNeg (some r_59))))))), (r_53, .inl (q_54, 4, .inl zi)), (r_56, .inl (q_54, 4, .inl zi)), (r_59, .inl (q_54, 4, .inl zi)), (mm, .inr (10, [.int 0, .ref pl, .ref ig, .ref sl, .ref kl, .int 0, .int 0, .int 0])), (pl, .inr (1, [.int 0, .ref dz, .int 0])), (sl, .inr (1, [.int 0, .ref dz, .int 0]))] H := hP
  have hD : va_D A [(q_41, .inr (1, [.int 0, .ref dz, .int 0])), (kl, .inr (1, [.int 0, .ref dz, .int 0])), (q_50, .inl (c_51, 3, .inr (.inr (.inr (.inr (va_up (va_up (va_up (fun _ => none) (0 : Int32).toNatClampNeg (some r_53)) (1 : Int32).toNatClampNeg (some r_56)) (2 : Int32).toNatClampNeg (some r_59))))))), (r_53, .inl (q_54, 4, .inl zi)), (r_56, .inl (q_54, 4, .inl zi)), (r_59, .inl (q_54, 4, .inl zi)), (mm, .inr (10, [.int 0, .ref pl, .ref ig, .ref sl, .ref kl, .int 0, .int 0, .int 0])), (pl, .inr (1, [.int 0, .ref dz, .int 0])), (sl, .inr (1, [.int 0, .ref dz, .int 0]))] := hD
  refine W.widen (k := 25) (n := 165) (Nat.le_of_ble_eq_true rfl) (Nat.le_of_ble_eq_true rfl) ?_
  have hw : r_75 = 0 := hw
  subst hw
  refine lv_i2l (v := 0) hx hb dX8_digest_459 (by decide) ?_
  refine lv_ladd hx hb dX8_digest_460 ?_
  refine lv_topl (fun y_76 ey_76 => ?_)
  obtain rfl : y_76 = 4189911907843767492 := ey_76.trans (by decide)
  refine lv_lstore_n (lv' := [(1, .long 4189911907843767492), (6, .int 3), (5, .int 0), (4, .ref q_50), (3, .ref q_41), (0, .ref mm)]) hx hb dX8_digest_461 rfl hl (by decide) rfl (fun ls hl => ?_)
  refine lv_iinc (k := 1) (v := 4) (lv' := [(6, .int 4), (1, .long 4189911907843767492), (5, .int 0), (4, .ref q_50), (3, .ref q_41), (0, .ref mm)]) hx hb dX8_digest_462 hl rfl (by decide) (by decide) rfl (fun ls hl => ?_)
  refine lv_goto (tgt := 440) hx hb dX8_digest_465 (by decide) ?_
  refine lv_iload hx hb dX8_digest_440 (lv_at hl 0 rfl) ?_
  refine lv_iconst (v := 4) hx hb dX8_digest_442 (by decide) ?_
  refine lv_icmp_gt (tgt := 468) hx hb dX8_digest_443 (by decide) (fun h9 => absurd h9 (by decide)) (fun _ => ?_)
  refine lv_lload_n hx hb dX8_digest_446 rfl (lv_at hl 1 rfl) ?_
  refine lv_ldc2 (v := 31) hx hb hown (hts (.constantLong RX8 232 31) (by decide +kernel)) dX8_digest_447 ?_
  refine lv_lmul hx hb dX8_digest_450 ?_
  refine lv_topl (fun y_77 ey_77 => ?_)
  obtain rfl : y_77 = 760060627189930940 := ey_77.trans (by decide)
  refine lv_aload_n hx hb dX8_digest_451 rfl (lv_at hl 5 rfl) ?_
  refine lv_iload hx hb dX8_digest_452 (lv_at hl 2 rfl) ?_
  refine lv_iload hx hb dX8_digest_454 (lv_at hl 0 rfl) ?_
  have hPc := hP.sub (ws' := [(mm, .inr (10, [.int 0, .ref pl, .ref ig, .ref sl, .ref kl, .int 0, .int 0, .int 0])), (pl, .inr (1, [.int 0, .ref dz, .int 0])), (sl, .inr (1, [.int 0, .ref dz, .int 0]))]) [6, 7, 8] rfl
  have hDc := hD.sub (ws' := [(mm, .inr (10, [.int 0, .ref pl, .ref ig, .ref sl, .ref kl, .int 0, .int 0, .int 0])), (pl, .inr (1, [.int 0, .ref dz, .int 0])), (sl, .inr (1, [.int 0, .ref dz, .int 0]))]) [6, 7, 8] (by decide) rfl
  have hKc := hK.sub (tys' := []) [] rfl
  have hFc := va_free (wc := [(mm, .inr (10, [.int 0, .ref pl, .ref ig, .ref sl, .ref kl, .int 0, .int 0, .int 0])), (pl, .inr (1, [.int 0, .ref dz, .int 0])), (sl, .inr (1, [.int 0, .ref dz, .int 0]))]) hD hS hA [6, 7, 8] rfl
  refine va_calli (va_runV (As := [.int 0, .int 4]) (rest := [.long 760060627189930940]) ⟨hx, hb, hml, hown, hts⟩ (c_X8_partyNow l dC dI mm pl ig sl kl dz (0 : Int32) (4 : Int32) _ (by unfold vp_in; decide)) (cwV 2 hts gX8_digest_X8_partyNow rfl rfl rfl (by decide +kernel) ⟨Nat.le_of_ble_eq_true rfl, Nat.le_of_ble_eq_true rfl⟩) ⟨pe_blind mo_bl, va_recv hKc hPc (ci := 10) (q0 := 0) rfl rfl, fun U hU hW => ⟨rfl, pr_mk hU hW hPc hKc hDc, mo_mk hW hXs.1⟩⟩ rfl rfl hl.1 rfl (lv_room (Nat.le_of_ble_eq_true rfl)) dX8_digest_456 ⟨Nat.le_of_ble_eq_true rfl, Nat.le_of_ble_eq_true rfl⟩) hS (fun q _ h => hFc q h) hFc (fun r_79 u_78 t H1 locs ht hvm hw hB hz1 hk1 hS => ?_)
  obtain ⟨hP1, hK1, hD1⟩ := hB
  rw [ht] at hP1
  obtain ⟨hP, hD⟩ := va_join (wr := [(q_41, .inr (1, [.int 0, .ref dz, .int 0])), (kl, .inr (1, [.int 0, .ref dz, .int 0])), (q_50, .inl (c_51, 3, .inr (.inr (.inr (.inr (va_up (va_up (va_up (fun _ => none) (0 : Int32).toNatClampNeg (some r_53)) (1 : Int32).toNatClampNeg (some r_56)) (2 : Int32).toNatClampNeg (some r_59))))))), (r_53, .inl (q_54, 4, .inl zi)), (r_56, .inl (q_54, 4, .inl zi)), (r_59, .inl (q_54, 4, .inl zi))]) (w1 := [(mm, .inr (10, [.int 0, .ref pl, .ref ig, .ref sl, .ref kl, .int 0, .int 0, .int 0])), (pl, .inr (1, [.int 0, .ref dz, .int 0])), (sl, .inr (1, [.int 0, .ref dz, .int 0]))]) hP hD [6, 7, 8] [0, 1, 2, 3, 4, 5] rfl rfl (by decide) (by decide) hk1 hFc hP1 hD1
  generalize H1 = H at hP hS ⊢
  have hP : va_P (dC, dI) vwCl [(q_41, .inr (1, [.int 0, .ref dz, .int 0])), (kl, .inr (1, [.int 0, .ref dz, .int 0])), (q_50, .inl (c_51, 3, .inr (.inr (.inr (.inr (va_up (va_up (va_up (fun _ => none) (0 : Int32).toNatClampNeg (some r_53)) (1 : Int32).toNatClampNeg (some r_56)) (2 : Int32).toNatClampNeg (some r_59))))))), (r_53, .inl (q_54, 4, .inl zi)), (r_56, .inl (q_54, 4, .inl zi)), (r_59, .inl (q_54, 4, .inl zi)), (mm, .inr (10, [.int 0, .ref pl, .ref ig, .ref sl, .ref kl, .int 0, .int 0, .int 0])), (pl, .inr (1, [.int 0, .ref dz, .int 0])), (sl, .inr (1, [.int 0, .ref dz, .int 0]))] H := hP
  have hD : va_D A [(q_41, .inr (1, [.int 0, .ref dz, .int 0])), (kl, .inr (1, [.int 0, .ref dz, .int 0])), (q_50, .inl (c_51, 3, .inr (.inr (.inr (.inr (va_up (va_up (va_up (fun _ => none) (0 : Int32).toNatClampNeg (some r_53)) (1 : Int32).toNatClampNeg (some r_56)) (2 : Int32).toNatClampNeg (some r_59))))))), (r_53, .inl (q_54, 4, .inl zi)), (r_56, .inl (q_54, 4, .inl zi)), (r_59, .inl (q_54, 4, .inl zi)), (mm, .inr (10, [.int 0, .ref pl, .ref ig, .ref sl, .ref kl, .int 0, .int 0, .int 0])), (pl, .inr (1, [.int 0, .ref dz, .int 0])), (sl, .inr (1, [.int 0, .ref dz, .int 0]))] := hD
  refine W.widen (k := 26) (n := 170) (Nat.le_of_ble_eq_true rfl) (Nat.le_of_ble_eq_true rfl) ?_
  have hw : r_79 = 0 := hw
  subst hw
  refine lv_i2l (v := 0) hx hb dX8_digest_459 (by decide) ?_
  refine lv_ladd hx hb dX8_digest_460 ?_
  refine lv_topl (fun y_80 ey_80 => ?_)
  obtain rfl : y_80 = 760060627189930940 := ey_80.trans (by decide)
  refine lv_lstore_n (lv' := [(1, .long 760060627189930940), (6, .int 4), (5, .int 0), (4, .ref q_50), (3, .ref q_41), (0, .ref mm)]) hx hb dX8_digest_461 rfl hl (by decide) rfl (fun ls hl => ?_)
  refine lv_iinc (k := 1) (v := 5) (lv' := [(6, .int 5), (1, .long 760060627189930940), (5, .int 0), (4, .ref q_50), (3, .ref q_41), (0, .ref mm)]) hx hb dX8_digest_462 hl rfl (by decide) (by decide) rfl (fun ls hl => ?_)
  refine lv_goto (tgt := 440) hx hb dX8_digest_465 (by decide) ?_
  refine lv_iload hx hb dX8_digest_440 (lv_at hl 0 rfl) ?_
  refine lv_iconst (v := 4) hx hb dX8_digest_442 (by decide) ?_
  refine lv_icmp_gt (tgt := 468) hx hb dX8_digest_443 (by decide) (fun _ => ?_) (fun h9 => absurd h9 (by decide))
  refine lv_aload hx hb dX8_digest_468 (lv_at hl 3 rfl) ?_
  refine lv_astore (lv' := [(6, .ref q_50), (1, .long 760060627189930940), (5, .int 0), (4, .ref q_50), (3, .ref q_41), (0, .ref mm)]) hx hb dX8_digest_470 hl (by decide) rfl (fun ls hl => ?_)
  refine lv_aload hx hb dX8_digest_472 (lv_at hl 0 rfl) ?_
  refine va_alen (v := 3) hx hb hK hP 2 0 rfl rfl rfl dX8_digest_474 ?_
  refine lv_istore (lv' := [(7, .int 3), (6, .ref q_50), (1, .long 760060627189930940), (5, .int 0), (4, .ref q_50), (3, .ref q_41), (0, .ref mm)]) hx hb dX8_digest_475 hl (by decide) rfl (fun ls hl => ?_)
  refine lv_iconst (v := 0) hx hb dX8_digest_477 (by decide) ?_
  refine lv_istore (lv' := [(8, .int 0), (7, .int 3), (6, .ref q_50), (1, .long 760060627189930940), (5, .int 0), (4, .ref q_50), (3, .ref q_41), (0, .ref mm)]) hx hb dX8_digest_478 hl (by decide) rfl (fun ls hl => ?_)
  refine lv_iload hx hb dX8_digest_480 (lv_at hl 0 rfl) ?_
  refine lv_iload hx hb dX8_digest_482 (lv_at hl 1 rfl) ?_
  refine lv_icmp_ge (tgt := 530) hx hb dX8_digest_484 (by decide) (fun h9 => absurd h9 (by decide)) (fun _ => ?_)
  refine lv_aload hx hb dX8_digest_487 (lv_at hl 2 rfl) ?_
  refine lv_iload hx hb dX8_digest_489 (lv_at hl 0 rfl) ?_
  refine gd_ld (v := .ref r_53) hx hb hK hP 2 0 rfl rfl (by unfold vp_in; decide) rfl dX8_digest_491 ?_
  refine lv_astore (lv' := [(9, .ref r_53), (8, .int 0), (7, .int 3), (6, .ref q_50), (1, .long 760060627189930940), (5, .int 0), (4, .ref q_50), (3, .ref q_41), (0, .ref mm)]) hx hb dX8_digest_492 hl (by decide) rfl (fun ls hl => ?_)
  refine lv_lload_n hx hb dX8_digest_494 rfl (lv_at hl 4 rfl) ?_
  refine lv_ldc2 (v := 31) hx hb hown (hts (.constantLong RX8 232 31) (by decide +kernel)) dX8_digest_495 ?_
  refine lv_lmul hx hb dX8_digest_498 ?_
  refine lv_topl (fun y_81 ey_81 => ?_)
  obtain rfl : y_81 = 5115135369178307524 := ey_81.trans (by decide)
  refine lv_aload hx hb dX8_digest_499 (lv_at hl 0 rfl) ?_
  refine lv_iload hx hb dX8_digest_501 (lv_at hl 5 rfl) ?_
  refine va_iald hx hb hK hP 3 1 rfl rfl (by unfold vp_in; decide) dX8_digest_503 ?_
  refine lv_topi (fun y_82 ey_82 => ?_)
  obtain rfl : y_82 = 0 := ey_82.trans (by rfl)
  refine lv_i2l (v := 0) hx hb dX8_digest_504 (by decide) ?_
  refine lv_ladd hx hb dX8_digest_505 ?_
  refine lv_topl (fun y_83 ey_83 => ?_)
  obtain rfl : y_83 = 5115135369178307524 := ey_83.trans (by decide)
  refine lv_lstore_n (lv' := [(1, .long 5115135369178307524), (9, .ref r_53), (8, .int 0), (7, .int 3), (6, .ref q_50), (5, .int 0), (4, .ref q_50), (3, .ref q_41), (0, .ref mm)]) hx hb dX8_digest_506 rfl hl (by decide) rfl (fun ls hl => ?_)
  refine lv_lload_n hx hb dX8_digest_507 rfl (lv_at hl 0 rfl) ?_
  refine lv_ldc2 (v := 31) hx hb hown (hts (.constantLong RX8 232 31) (by decide +kernel)) dX8_digest_508 ?_
  refine lv_lmul hx hb dX8_digest_511 ?_
  refine lv_topl (fun y_84 ey_84 => ?_)
  obtain rfl : y_84 = (-7451500218858431300) := ey_84.trans (by decide)
  refine lv_aload hx hb dX8_digest_512 (lv_at hl 1 rfl) ?_
  refine lv_iload hx hb dX8_digest_514 (lv_at hl 5 rfl) ?_
  refine lv_bipush (v := 20) hx hb dX8_digest_516 (by decide) ?_
  have hPc := hP.sub (ws' := [(r_53, .inl (q_54, 4, .inl zi))]) [3] rfl
  have hDc := hD.sub (ws' := [(r_53, .inl (q_54, 4, .inl zi))]) [3] (by decide) rfl
  have hKc := hK.sub (tys' := [(q_54, .int)]) [1] rfl
  have hFc := va_free (wc := [(r_53, .inl (q_54, 4, .inl zi))]) hD hS hA [3] rfl
  refine va_calli (va_runS (As := [.ref r_53, .int 0, .int 20]) (rest := [.long (-7451500218858431300)]) ⟨hx, hb, hml, hown, hts⟩ (c_X8_swingsNow l dC dI r_53 q_54 (0 : Int32) (20 : Int32) _ (by decide) (by decide)) (va_cwS 3 hts gX8_digest_X8_swingsNow rfl rfl rfl (by decide +kernel) ⟨Nat.le_of_ble_eq_true rfl, Nat.le_of_ble_eq_true rfl⟩) ⟨pr_blind, fun U hU hW => ⟨rfl, pr_mk hU hW hPc hKc hDc⟩⟩ rfl rfl hl.1 rfl (lv_room (Nat.le_of_ble_eq_true rfl)) dX8_digest_518 ⟨Nat.le_of_ble_eq_true rfl, Nat.le_of_ble_eq_true rfl⟩) hS (fun q _ h => hFc q h) hFc (fun r_86 u_85 t H1 locs ht hvm hw hB hz1 hk1 hS => ?_)
  obtain ⟨hP1, hK1, hD1⟩ := hB
  rw [ht] at hP1
  obtain ⟨hP, hD⟩ := va_join (wr := [(q_41, .inr (1, [.int 0, .ref dz, .int 0])), (kl, .inr (1, [.int 0, .ref dz, .int 0])), (q_50, .inl (c_51, 3, .inr (.inr (.inr (.inr (va_up (va_up (va_up (fun _ => none) (0 : Int32).toNatClampNeg (some r_53)) (1 : Int32).toNatClampNeg (some r_56)) (2 : Int32).toNatClampNeg (some r_59))))))), (r_56, .inl (q_54, 4, .inl zi)), (r_59, .inl (q_54, 4, .inl zi)), (mm, .inr (10, [.int 0, .ref pl, .ref ig, .ref sl, .ref kl, .int 0, .int 0, .int 0])), (pl, .inr (1, [.int 0, .ref dz, .int 0])), (sl, .inr (1, [.int 0, .ref dz, .int 0]))]) (w1 := [(r_53, .inl (q_54, 4, .inl zi))]) hP hD [3] [0, 1, 2, 4, 5, 6, 7, 8] rfl rfl (by decide) (by decide) hk1 hFc hP1 hD1
  generalize H1 = H at hP hS ⊢
  have hP : va_P (dC, dI) vwCl [(q_41, .inr (1, [.int 0, .ref dz, .int 0])), (kl, .inr (1, [.int 0, .ref dz, .int 0])), (q_50, .inl (c_51, 3, .inr (.inr (.inr (.inr (va_up (va_up (va_up (fun _ => none) (0 : Int32).toNatClampNeg (some r_53)) (1 : Int32).toNatClampNeg (some r_56)) (2 : Int32).toNatClampNeg (some r_59))))))), (r_56, .inl (q_54, 4, .inl zi)), (r_59, .inl (q_54, 4, .inl zi)), (mm, .inr (10, [.int 0, .ref pl, .ref ig, .ref sl, .ref kl, .int 0, .int 0, .int 0])), (pl, .inr (1, [.int 0, .ref dz, .int 0])), (sl, .inr (1, [.int 0, .ref dz, .int 0])), (r_53, .inl (q_54, 4, .inl zi))] H := hP
  have hD : va_D A [(q_41, .inr (1, [.int 0, .ref dz, .int 0])), (kl, .inr (1, [.int 0, .ref dz, .int 0])), (q_50, .inl (c_51, 3, .inr (.inr (.inr (.inr (va_up (va_up (va_up (fun _ => none) (0 : Int32).toNatClampNeg (some r_53)) (1 : Int32).toNatClampNeg (some r_56)) (2 : Int32).toNatClampNeg (some r_59))))))), (r_56, .inl (q_54, 4, .inl zi)), (r_59, .inl (q_54, 4, .inl zi)), (mm, .inr (10, [.int 0, .ref pl, .ref ig, .ref sl, .ref kl, .int 0, .int 0, .int 0])), (pl, .inr (1, [.int 0, .ref dz, .int 0])), (sl, .inr (1, [.int 0, .ref dz, .int 0])), (r_53, .inl (q_54, 4, .inl zi))] := hD
  refine W.widen (k := 26) (n := 170) (Nat.le_refl _) (Nat.le_refl _) ?_
  have hw : r_86 = 0 := hw
  subst hw
  refine lv_i2l (v := 0) hx hb dX8_digest_521 (by decide) ?_
  refine lv_ladd hx hb dX8_digest_522 ?_
  refine lv_topl (fun y_87 ey_87 => ?_)
  obtain rfl : y_87 = (-7451500218858431300) := ey_87.trans (by decide)
  refine lv_lstore_n (lv' := [(1, .long (-7451500218858431300)), (9, .ref r_53), (8, .int 0), (7, .int 3), (6, .ref q_50), (5, .int 0), (4, .ref q_50), (3, .ref q_41), (0, .ref mm)]) hx hb dX8_digest_523 rfl hl (by decide) rfl (fun ls hl => ?_)
  refine lv_iinc (k := 2) (v := 1) (lv' := [(8, .int 1), (1, .long (-7451500218858431300)), (9, .ref r_53), (7, .int 3), (6, .ref q_50), (5, .int 0), (4, .ref q_50), (3, .ref q_41), (0, .ref mm)]) hx hb dX8_digest_524 hl rfl (by decide) (by decide) rfl (fun ls hl => ?_)
  refine lv_goto (tgt := 480) hx hb dX8_digest_527 (by decide) ?_
  refine lv_iload hx hb dX8_digest_480 (lv_at hl 0 rfl) ?_
  refine lv_iload hx hb dX8_digest_482 (lv_at hl 3 rfl) ?_
  refine lv_icmp_ge (tgt := 530) hx hb dX8_digest_484 (by decide) (fun h9 => absurd h9 (by decide)) (fun _ => ?_)
  refine lv_aload hx hb dX8_digest_487 (lv_at hl 4 rfl) ?_
  refine lv_iload hx hb dX8_digest_489 (lv_at hl 0 rfl) ?_
  refine gd_ld (v := .ref r_56) hx hb hK hP 2 0 rfl rfl (by unfold vp_in; decide) rfl dX8_digest_491 ?_
  refine lv_astore (lv' := [(9, .ref r_56), (8, .int 1), (1, .long (-7451500218858431300)), (7, .int 3), (6, .ref q_50), (5, .int 0), (4, .ref q_50), (3, .ref q_41), (0, .ref mm)]) hx hb dX8_digest_492 hl (by decide) rfl (fun ls hl => ?_)
  refine lv_lload_n hx hb dX8_digest_494 rfl (lv_at hl 2 rfl) ?_
  refine lv_ldc2 (v := 31) hx hb hown (hts (.constantLong RX8 232 31) (by decide +kernel)) dX8_digest_495 ?_
  refine lv_lmul hx hb dX8_digest_498 ?_
  refine lv_topl (fun y_88 ey_88 => ?_)
  obtain rfl : y_88 = 8811166173612800708 := ey_88.trans (by decide)
  refine lv_aload hx hb dX8_digest_499 (lv_at hl 0 rfl) ?_
  refine lv_iload hx hb dX8_digest_501 (lv_at hl 5 rfl) ?_
  refine va_iald hx hb hK hP 3 1 rfl rfl (by unfold vp_in; decide) dX8_digest_503 ?_
  refine lv_topi (fun y_89 ey_89 => ?_)
  obtain rfl : y_89 = 0 := ey_89.trans (by rfl)
  refine lv_i2l (v := 0) hx hb dX8_digest_504 (by decide) ?_
  refine lv_ladd hx hb dX8_digest_505 ?_
  refine lv_topl (fun y_90 ey_90 => ?_)
  obtain rfl : y_90 = 8811166173612800708 := ey_90.trans (by decide)
  refine lv_lstore_n (lv' := [(1, .long 8811166173612800708), (9, .ref r_56), (8, .int 1), (7, .int 3), (6, .ref q_50), (5, .int 0), (4, .ref q_50), (3, .ref q_41), (0, .ref mm)]) hx hb dX8_digest_506 rfl hl (by decide) rfl (fun ls hl => ?_)
  refine lv_lload_n hx hb dX8_digest_507 rfl (lv_at hl 0 rfl) ?_
  refine lv_ldc2 (v := 31) hx hb hown (hts (.constantLong RX8 232 31) (by decide +kernel)) dX8_digest_508 ?_
  refine lv_lmul hx hb dX8_digest_511 ?_
  refine lv_topl (fun y_91 ey_91 => ?_)
  obtain rfl : y_91 = (-3555009723646452292) := ey_91.trans (by decide)
  refine lv_aload hx hb dX8_digest_512 (lv_at hl 1 rfl) ?_
  refine lv_iload hx hb dX8_digest_514 (lv_at hl 5 rfl) ?_
  refine lv_bipush (v := 20) hx hb dX8_digest_516 (by decide) ?_
  have hPc := hP.sub (ws' := [(r_56, .inl (q_54, 4, .inl zi))]) [3] rfl
  have hDc := hD.sub (ws' := [(r_56, .inl (q_54, 4, .inl zi))]) [3] (by decide) rfl
  have hKc := hK.sub (tys' := [(q_54, .int)]) [1] rfl
  have hFc := va_free (wc := [(r_56, .inl (q_54, 4, .inl zi))]) hD hS hA [3] rfl
  refine va_calli (va_runS (As := [.ref r_56, .int 0, .int 20]) (rest := [.long (-3555009723646452292)]) ⟨hx, hb, hml, hown, hts⟩ (c_X8_swingsNow l dC dI r_56 q_54 (0 : Int32) (20 : Int32) _ (by decide) (by decide)) (va_cwS 3 hts gX8_digest_X8_swingsNow rfl rfl rfl (by decide +kernel) ⟨Nat.le_of_ble_eq_true rfl, Nat.le_of_ble_eq_true rfl⟩) ⟨pr_blind, fun U hU hW => ⟨rfl, pr_mk hU hW hPc hKc hDc⟩⟩ rfl rfl hl.1 rfl (lv_room (Nat.le_of_ble_eq_true rfl)) dX8_digest_518 ⟨Nat.le_of_ble_eq_true rfl, Nat.le_of_ble_eq_true rfl⟩) hS (fun q _ h => hFc q h) hFc (fun r_93 u_92 t H1 locs ht hvm hw hB hz1 hk1 hS => ?_)
  obtain ⟨hP1, hK1, hD1⟩ := hB
  rw [ht] at hP1
  obtain ⟨hP, hD⟩ := va_join (wr := [(q_41, .inr (1, [.int 0, .ref dz, .int 0])), (kl, .inr (1, [.int 0, .ref dz, .int 0])), (q_50, .inl (c_51, 3, .inr (.inr (.inr (.inr (va_up (va_up (va_up (fun _ => none) (0 : Int32).toNatClampNeg (some r_53)) (1 : Int32).toNatClampNeg (some r_56)) (2 : Int32).toNatClampNeg (some r_59))))))), (r_59, .inl (q_54, 4, .inl zi)), (mm, .inr (10, [.int 0, .ref pl, .ref ig, .ref sl, .ref kl, .int 0, .int 0, .int 0])), (pl, .inr (1, [.int 0, .ref dz, .int 0])), (sl, .inr (1, [.int 0, .ref dz, .int 0])), (r_53, .inl (q_54, 4, .inl zi))]) (w1 := [(r_56, .inl (q_54, 4, .inl zi))]) hP hD [3] [0, 1, 2, 4, 5, 6, 7, 8] rfl rfl (by decide) (by decide) hk1 hFc hP1 hD1
  generalize H1 = H at hP hS ⊢
  have hP : va_P (dC, dI) vwCl [(q_41, .inr (1, [.int 0, .ref dz, .int 0])), (kl, .inr (1, [.int 0, .ref dz, .int 0])), (q_50, .inl (c_51, 3, .inr (.inr (.inr (.inr (va_up (va_up (va_up (fun _ => none) (0 : Int32).toNatClampNeg (some r_53)) (1 : Int32).toNatClampNeg (some r_56)) (2 : Int32).toNatClampNeg (some r_59))))))), (r_59, .inl (q_54, 4, .inl zi)), (mm, .inr (10, [.int 0, .ref pl, .ref ig, .ref sl, .ref kl, .int 0, .int 0, .int 0])), (pl, .inr (1, [.int 0, .ref dz, .int 0])), (sl, .inr (1, [.int 0, .ref dz, .int 0])), (r_53, .inl (q_54, 4, .inl zi)), (r_56, .inl (q_54, 4, .inl zi))] H := hP
  have hD : va_D A [(q_41, .inr (1, [.int 0, .ref dz, .int 0])), (kl, .inr (1, [.int 0, .ref dz, .int 0])), (q_50, .inl (c_51, 3, .inr (.inr (.inr (.inr (va_up (va_up (va_up (fun _ => none) (0 : Int32).toNatClampNeg (some r_53)) (1 : Int32).toNatClampNeg (some r_56)) (2 : Int32).toNatClampNeg (some r_59))))))), (r_59, .inl (q_54, 4, .inl zi)), (mm, .inr (10, [.int 0, .ref pl, .ref ig, .ref sl, .ref kl, .int 0, .int 0, .int 0])), (pl, .inr (1, [.int 0, .ref dz, .int 0])), (sl, .inr (1, [.int 0, .ref dz, .int 0])), (r_53, .inl (q_54, 4, .inl zi)), (r_56, .inl (q_54, 4, .inl zi))] := hD
  refine W.widen (k := 26) (n := 170) (Nat.le_refl _) (Nat.le_refl _) ?_
  have hw : r_93 = 0 := hw
  subst hw
  refine lv_i2l (v := 0) hx hb dX8_digest_521 (by decide) ?_
  refine lv_ladd hx hb dX8_digest_522 ?_
  refine lv_topl (fun y_94 ey_94 => ?_)
  obtain rfl : y_94 = (-3555009723646452292) := ey_94.trans (by decide)
  refine lv_lstore_n (lv' := [(1, .long (-3555009723646452292)), (9, .ref r_56), (8, .int 1), (7, .int 3), (6, .ref q_50), (5, .int 0), (4, .ref q_50), (3, .ref q_41), (0, .ref mm)]) hx hb dX8_digest_523 rfl hl (by decide) rfl (fun ls hl => ?_)
  refine lv_iinc (k := 2) (v := 2) (lv' := [(8, .int 2), (1, .long (-3555009723646452292)), (9, .ref r_56), (7, .int 3), (6, .ref q_50), (5, .int 0), (4, .ref q_50), (3, .ref q_41), (0, .ref mm)]) hx hb dX8_digest_524 hl rfl (by decide) (by decide) rfl (fun ls hl => ?_)
  refine lv_goto (tgt := 480) hx hb dX8_digest_527 (by decide) ?_
  refine lv_iload hx hb dX8_digest_480 (lv_at hl 0 rfl) ?_
  refine lv_iload hx hb dX8_digest_482 (lv_at hl 3 rfl) ?_
  refine lv_icmp_ge (tgt := 530) hx hb dX8_digest_484 (by decide) (fun h9 => absurd h9 (by decide)) (fun _ => ?_)
  refine lv_aload hx hb dX8_digest_487 (lv_at hl 4 rfl) ?_
  refine lv_iload hx hb dX8_digest_489 (lv_at hl 0 rfl) ?_
  refine gd_ld (v := .ref r_59) hx hb hK hP 2 0 rfl rfl (by unfold vp_in; decide) rfl dX8_digest_491 ?_
  refine lv_astore (lv' := [(9, .ref r_59), (8, .int 2), (1, .long (-3555009723646452292)), (7, .int 3), (6, .ref q_50), (5, .int 0), (4, .ref q_50), (3, .ref q_41), (0, .ref mm)]) hx hb dX8_digest_492 hl (by decide) rfl (fun ls hl => ?_)
  refine lv_lload_n hx hb dX8_digest_494 rfl (lv_at hl 2 rfl) ?_
  refine lv_ldc2 (v := 31) hx hb hown (hts (.constantLong RX8 232 31) (by decide +kernel)) dX8_digest_495 ?_
  refine lv_lmul hx hb dX8_digest_498 ?_
  refine lv_topl (fun y_95 ey_95 => ?_)
  obtain rfl : y_95 = 475163009217288644 := ey_95.trans (by decide)
  refine lv_aload hx hb dX8_digest_499 (lv_at hl 0 rfl) ?_
  refine lv_iload hx hb dX8_digest_501 (lv_at hl 5 rfl) ?_
  refine va_iald hx hb hK hP 3 1 rfl rfl (by unfold vp_in; decide) dX8_digest_503 ?_
  refine lv_topi (fun y_96 ey_96 => ?_)
  obtain rfl : y_96 = 0 := ey_96.trans (by rfl)
  refine lv_i2l (v := 0) hx hb dX8_digest_504 (by decide) ?_
  refine lv_ladd hx hb dX8_digest_505 ?_
  refine lv_topl (fun y_97 ey_97 => ?_)
  obtain rfl : y_97 = 475163009217288644 := ey_97.trans (by decide)
  refine lv_lstore_n (lv' := [(1, .long 475163009217288644), (9, .ref r_59), (8, .int 2), (7, .int 3), (6, .ref q_50), (5, .int 0), (4, .ref q_50), (3, .ref q_41), (0, .ref mm)]) hx hb dX8_digest_506 rfl hl (by decide) rfl (fun ls hl => ?_)
  refine lv_lload_n hx hb dX8_digest_507 rfl (lv_at hl 0 rfl) ?_
  refine lv_ldc2 (v := 31) hx hb hown (hts (.constantLong RX8 232 31) (by decide +kernel)) dX8_digest_508 ?_
  refine lv_lmul hx hb dX8_digest_511 ?_
  refine lv_topl (fun y_98 ey_98 => ?_)
  obtain rfl : y_98 = (-3716690787973603652) := ey_98.trans (by decide)
  refine lv_aload hx hb dX8_digest_512 (lv_at hl 1 rfl) ?_
  refine lv_iload hx hb dX8_digest_514 (lv_at hl 5 rfl) ?_
  refine lv_bipush (v := 20) hx hb dX8_digest_516 (by decide) ?_
  have hPc := hP.sub (ws' := [(r_59, .inl (q_54, 4, .inl zi))]) [3] rfl
  have hDc := hD.sub (ws' := [(r_59, .inl (q_54, 4, .inl zi))]) [3] (by decide) rfl
  have hKc := hK.sub (tys' := [(q_54, .int)]) [1] rfl
  have hFc := va_free (wc := [(r_59, .inl (q_54, 4, .inl zi))]) hD hS hA [3] rfl
  refine va_calli (va_runS (As := [.ref r_59, .int 0, .int 20]) (rest := [.long (-3716690787973603652)]) ⟨hx, hb, hml, hown, hts⟩ (c_X8_swingsNow l dC dI r_59 q_54 (0 : Int32) (20 : Int32) _ (by decide) (by decide)) (va_cwS 3 hts gX8_digest_X8_swingsNow rfl rfl rfl (by decide +kernel) ⟨Nat.le_of_ble_eq_true rfl, Nat.le_of_ble_eq_true rfl⟩) ⟨pr_blind, fun U hU hW => ⟨rfl, pr_mk hU hW hPc hKc hDc⟩⟩ rfl rfl hl.1 rfl (lv_room (Nat.le_of_ble_eq_true rfl)) dX8_digest_518 ⟨Nat.le_of_ble_eq_true rfl, Nat.le_of_ble_eq_true rfl⟩) hS (fun q _ h => hFc q h) hFc (fun r_100 u_99 t H1 locs ht hvm hw hB hz1 hk1 hS => ?_)
  obtain ⟨hP1, hK1, hD1⟩ := hB
  rw [ht] at hP1
  obtain ⟨hP, hD⟩ := va_join (wr := [(q_41, .inr (1, [.int 0, .ref dz, .int 0])), (kl, .inr (1, [.int 0, .ref dz, .int 0])), (q_50, .inl (c_51, 3, .inr (.inr (.inr (.inr (va_up (va_up (va_up (fun _ => none) (0 : Int32).toNatClampNeg (some r_53)) (1 : Int32).toNatClampNeg (some r_56)) (2 : Int32).toNatClampNeg (some r_59))))))), (mm, .inr (10, [.int 0, .ref pl, .ref ig, .ref sl, .ref kl, .int 0, .int 0, .int 0])), (pl, .inr (1, [.int 0, .ref dz, .int 0])), (sl, .inr (1, [.int 0, .ref dz, .int 0])), (r_53, .inl (q_54, 4, .inl zi)), (r_56, .inl (q_54, 4, .inl zi))]) (w1 := [(r_59, .inl (q_54, 4, .inl zi))]) hP hD [3] [0, 1, 2, 4, 5, 6, 7, 8] rfl rfl (by decide) (by decide) hk1 hFc hP1 hD1
  generalize H1 = H at hP hS ⊢
  have hP : va_P (dC, dI) vwCl [(q_41, .inr (1, [.int 0, .ref dz, .int 0])), (kl, .inr (1, [.int 0, .ref dz, .int 0])), (q_50, .inl (c_51, 3, .inr (.inr (.inr (.inr (va_up (va_up (va_up (fun _ => none) (0 : Int32).toNatClampNeg (some r_53)) (1 : Int32).toNatClampNeg (some r_56)) (2 : Int32).toNatClampNeg (some r_59))))))), (mm, .inr (10, [.int 0, .ref pl, .ref ig, .ref sl, .ref kl, .int 0, .int 0, .int 0])), (pl, .inr (1, [.int 0, .ref dz, .int 0])), (sl, .inr (1, [.int 0, .ref dz, .int 0])), (r_53, .inl (q_54, 4, .inl zi)), (r_56, .inl (q_54, 4, .inl zi)), (r_59, .inl (q_54, 4, .inl zi))] H := hP
  have hD : va_D A [(q_41, .inr (1, [.int 0, .ref dz, .int 0])), (kl, .inr (1, [.int 0, .ref dz, .int 0])), (q_50, .inl (c_51, 3, .inr (.inr (.inr (.inr (va_up (va_up (va_up (fun _ => none) (0 : Int32).toNatClampNeg (some r_53)) (1 : Int32).toNatClampNeg (some r_56)) (2 : Int32).toNatClampNeg (some r_59))))))), (mm, .inr (10, [.int 0, .ref pl, .ref ig, .ref sl, .ref kl, .int 0, .int 0, .int 0])), (pl, .inr (1, [.int 0, .ref dz, .int 0])), (sl, .inr (1, [.int 0, .ref dz, .int 0])), (r_53, .inl (q_54, 4, .inl zi)), (r_56, .inl (q_54, 4, .inl zi)), (r_59, .inl (q_54, 4, .inl zi))] := hD
  refine W.widen (k := 26) (n := 170) (Nat.le_refl _) (Nat.le_refl _) ?_
  have hw : r_100 = 0 := hw
  subst hw
  refine lv_i2l (v := 0) hx hb dX8_digest_521 (by decide) ?_
  refine lv_ladd hx hb dX8_digest_522 ?_
  refine lv_topl (fun y_101 ey_101 => ?_)
  obtain rfl : y_101 = (-3716690787973603652) := ey_101.trans (by decide)
  refine lv_lstore_n (lv' := [(1, .long (-3716690787973603652)), (9, .ref r_59), (8, .int 2), (7, .int 3), (6, .ref q_50), (5, .int 0), (4, .ref q_50), (3, .ref q_41), (0, .ref mm)]) hx hb dX8_digest_523 rfl hl (by decide) rfl (fun ls hl => ?_)
  refine lv_iinc (k := 2) (v := 3) (lv' := [(8, .int 3), (1, .long (-3716690787973603652)), (9, .ref r_59), (7, .int 3), (6, .ref q_50), (5, .int 0), (4, .ref q_50), (3, .ref q_41), (0, .ref mm)]) hx hb dX8_digest_524 hl rfl (by decide) (by decide) rfl (fun ls hl => ?_)
  refine lv_goto (tgt := 480) hx hb dX8_digest_527 (by decide) ?_
  refine lv_iload hx hb dX8_digest_480 (lv_at hl 0 rfl) ?_
  refine lv_iload hx hb dX8_digest_482 (lv_at hl 3 rfl) ?_
  refine lv_icmp_ge (tgt := 530) hx hb dX8_digest_484 (by decide) (fun _ => ?_) (fun h9 => absurd h9 (by decide))
  refine lv_iinc (k := 5) (v := 1) (lv' := [(5, .int 1), (8, .int 3), (1, .long (-3716690787973603652)), (9, .ref r_59), (7, .int 3), (6, .ref q_50), (4, .ref q_50), (3, .ref q_41), (0, .ref mm)]) hx hb dX8_digest_530 hl rfl (by decide) (by decide) rfl (fun ls hl => ?_)
  refine lv_goto (tgt := 431) hx hb dX8_digest_533 (by decide) ?_
  refine lv_iload hx hb dX8_digest_431 (lv_at hl 0 rfl) ?_
  refine lv_iconst (v := 4) hx hb dX8_digest_433 (by decide) ?_
  refine lv_icmp_ge (tgt := 536) hx hb dX8_digest_434 (by decide) (fun h9 => absurd h9 (by decide)) (fun _ => ?_)
  refine lv_iconst (v := 0) hx hb dX8_digest_437 (by decide) ?_
  refine lv_istore (lv' := [(6, .int 0), (5, .int 1), (8, .int 3), (1, .long (-3716690787973603652)), (9, .ref r_59), (7, .int 3), (4, .ref q_50), (3, .ref q_41), (0, .ref mm)]) hx hb dX8_digest_438 hl (by decide) rfl (fun ls hl => ?_)
  refine lv_iload hx hb dX8_digest_440 (lv_at hl 0 rfl) ?_
  refine lv_iconst (v := 4) hx hb dX8_digest_442 (by decide) ?_
  refine lv_icmp_gt (tgt := 468) hx hb dX8_digest_443 (by decide) (fun h9 => absurd h9 (by decide)) (fun _ => ?_)
  refine lv_lload_n hx hb dX8_digest_446 rfl (lv_at hl 3 rfl) ?_
  refine lv_ldc2 (v := 31) hx hb hown (hts (.constantLong RX8 232 31) (by decide +kernel)) dX8_digest_447 ?_
  refine lv_lmul hx hb dX8_digest_450 ?_
  refine lv_topl (fun y_102 ey_102 => ?_)
  obtain rfl : y_102 = (-4536949984924403516) := ey_102.trans (by decide)
  refine lv_aload_n hx hb dX8_digest_451 rfl (lv_at hl 8 rfl) ?_
  refine lv_iload hx hb dX8_digest_452 (lv_at hl 1 rfl) ?_
  refine lv_iload hx hb dX8_digest_454 (lv_at hl 0 rfl) ?_
  have hPc := hP.sub (ws' := [(mm, .inr (10, [.int 0, .ref pl, .ref ig, .ref sl, .ref kl, .int 0, .int 0, .int 0])), (pl, .inr (1, [.int 0, .ref dz, .int 0])), (sl, .inr (1, [.int 0, .ref dz, .int 0]))]) [3, 4, 5] rfl
  have hDc := hD.sub (ws' := [(mm, .inr (10, [.int 0, .ref pl, .ref ig, .ref sl, .ref kl, .int 0, .int 0, .int 0])), (pl, .inr (1, [.int 0, .ref dz, .int 0])), (sl, .inr (1, [.int 0, .ref dz, .int 0]))]) [3, 4, 5] (by decide) rfl
  have hKc := hK.sub (tys' := []) [] rfl
  have hFc := va_free (wc := [(mm, .inr (10, [.int 0, .ref pl, .ref ig, .ref sl, .ref kl, .int 0, .int 0, .int 0])), (pl, .inr (1, [.int 0, .ref dz, .int 0])), (sl, .inr (1, [.int 0, .ref dz, .int 0]))]) hD hS hA [3, 4, 5] rfl
  refine va_calli (va_runV (As := [.int 1, .int 0]) (rest := [.long (-4536949984924403516)]) ⟨hx, hb, hml, hown, hts⟩ (c_X8_partyNow l dC dI mm pl ig sl kl dz (1 : Int32) (0 : Int32) _ (by unfold vp_in; decide)) (cwV 2 hts gX8_digest_X8_partyNow rfl rfl rfl (by decide +kernel) ⟨Nat.le_of_ble_eq_true rfl, Nat.le_of_ble_eq_true rfl⟩) ⟨pe_blind mo_bl, va_recv hKc hPc (ci := 10) (q0 := 0) rfl rfl, fun U hU hW => ⟨rfl, pr_mk hU hW hPc hKc hDc, mo_mk hW hXs.1⟩⟩ rfl rfl hl.1 rfl (lv_room (Nat.le_of_ble_eq_true rfl)) dX8_digest_456 ⟨Nat.le_of_ble_eq_true rfl, Nat.le_of_ble_eq_true rfl⟩) hS (fun q _ h => hFc q h) hFc (fun r_104 u_103 t H1 locs ht hvm hw hB hz1 hk1 hS => ?_)
  obtain ⟨hP1, hK1, hD1⟩ := hB
  rw [ht] at hP1
  obtain ⟨hP, hD⟩ := va_join (wr := [(q_41, .inr (1, [.int 0, .ref dz, .int 0])), (kl, .inr (1, [.int 0, .ref dz, .int 0])), (q_50, .inl (c_51, 3, .inr (.inr (.inr (.inr (va_up (va_up (va_up (fun _ => none) (0 : Int32).toNatClampNeg (some r_53)) (1 : Int32).toNatClampNeg (some r_56)) (2 : Int32).toNatClampNeg (some r_59))))))), (r_53, .inl (q_54, 4, .inl zi)), (r_56, .inl (q_54, 4, .inl zi)), (r_59, .inl (q_54, 4, .inl zi))]) (w1 := [(mm, .inr (10, [.int 0, .ref pl, .ref ig, .ref sl, .ref kl, .int 0, .int 0, .int 0])), (pl, .inr (1, [.int 0, .ref dz, .int 0])), (sl, .inr (1, [.int 0, .ref dz, .int 0]))]) hP hD [3, 4, 5] [0, 1, 2, 6, 7, 8] rfl rfl (by decide) (by decide) hk1 hFc hP1 hD1
  generalize H1 = H at hP hS ⊢
  have hP : va_P (dC, dI) vwCl [(q_41, .inr (1, [.int 0, .ref dz, .int 0])), (kl, .inr (1, [.int 0, .ref dz, .int 0])), (q_50, .inl (c_51, 3, .inr (.inr (.inr (.inr (va_up (va_up (va_up (fun _ => none) (0 : Int32).toNatClampNeg (some r_53)) (1 : Int32).toNatClampNeg (some r_56)) (2 : Int32).toNatClampNeg (some r_59))))))), (r_53, .inl (q_54, 4, .inl zi)), (r_56, .inl (q_54, 4, .inl zi)), (r_59, .inl (q_54, 4, .inl zi)), (mm, .inr (10, [.int 0, .ref pl, .ref ig, .ref sl, .ref kl, .int 0, .int 0, .int 0])), (pl, .inr (1, [.int 0, .ref dz, .int 0])), (sl, .inr (1, [.int 0, .ref dz, .int 0]))] H := hP
  have hD : va_D A [(q_41, .inr (1, [.int 0, .ref dz, .int 0])), (kl, .inr (1, [.int 0, .ref dz, .int 0])), (q_50, .inl (c_51, 3, .inr (.inr (.inr (.inr (va_up (va_up (va_up (fun _ => none) (0 : Int32).toNatClampNeg (some r_53)) (1 : Int32).toNatClampNeg (some r_56)) (2 : Int32).toNatClampNeg (some r_59))))))), (r_53, .inl (q_54, 4, .inl zi)), (r_56, .inl (q_54, 4, .inl zi)), (r_59, .inl (q_54, 4, .inl zi)), (mm, .inr (10, [.int 0, .ref pl, .ref ig, .ref sl, .ref kl, .int 0, .int 0, .int 0])), (pl, .inr (1, [.int 0, .ref dz, .int 0])), (sl, .inr (1, [.int 0, .ref dz, .int 0]))] := hD
  refine W.widen (k := 27) (n := 175) (Nat.le_of_ble_eq_true rfl) (Nat.le_of_ble_eq_true rfl) ?_
  have hw : r_104 = 0 := hw
  subst hw
  refine lv_i2l (v := 0) hx hb dX8_digest_459 (by decide) ?_
  refine lv_ladd hx hb dX8_digest_460 ?_
  refine lv_topl (fun y_105 ey_105 => ?_)
  obtain rfl : y_105 = (-4536949984924403516) := ey_105.trans (by decide)
  refine lv_lstore_n (lv' := [(1, .long (-4536949984924403516)), (6, .int 0), (5, .int 1), (8, .int 3), (9, .ref r_59), (7, .int 3), (4, .ref q_50), (3, .ref q_41), (0, .ref mm)]) hx hb dX8_digest_461 rfl hl (by decide) rfl (fun ls hl => ?_)
  refine lv_iinc (k := 1) (v := 1) (lv' := [(6, .int 1), (1, .long (-4536949984924403516)), (5, .int 1), (8, .int 3), (9, .ref r_59), (7, .int 3), (4, .ref q_50), (3, .ref q_41), (0, .ref mm)]) hx hb dX8_digest_462 hl rfl (by decide) (by decide) rfl (fun ls hl => ?_)
  refine lv_goto (tgt := 440) hx hb dX8_digest_465 (by decide) ?_
  refine lv_iload hx hb dX8_digest_440 (lv_at hl 0 rfl) ?_
  refine lv_iconst (v := 4) hx hb dX8_digest_442 (by decide) ?_
  refine lv_icmp_gt (tgt := 468) hx hb dX8_digest_443 (by decide) (fun h9 => absurd h9 (by decide)) (fun _ => ?_)
  refine lv_lload_n hx hb dX8_digest_446 rfl (lv_at hl 1 rfl) ?_
  refine lv_ldc2 (v := 31) hx hb hown (hts (.constantLong RX8 232 31) (by decide +kernel)) dX8_digest_447 ?_
  refine lv_lmul hx hb dX8_digest_450 ?_
  refine lv_topl (fun y_106 ey_106 => ?_)
  obtain rfl : y_106 = 6928503057019903932 := ey_106.trans (by decide)
  refine lv_aload_n hx hb dX8_digest_451 rfl (lv_at hl 8 rfl) ?_
  refine lv_iload hx hb dX8_digest_452 (lv_at hl 2 rfl) ?_
  refine lv_iload hx hb dX8_digest_454 (lv_at hl 0 rfl) ?_
  have hPc := hP.sub (ws' := [(mm, .inr (10, [.int 0, .ref pl, .ref ig, .ref sl, .ref kl, .int 0, .int 0, .int 0])), (pl, .inr (1, [.int 0, .ref dz, .int 0])), (sl, .inr (1, [.int 0, .ref dz, .int 0]))]) [6, 7, 8] rfl
  have hDc := hD.sub (ws' := [(mm, .inr (10, [.int 0, .ref pl, .ref ig, .ref sl, .ref kl, .int 0, .int 0, .int 0])), (pl, .inr (1, [.int 0, .ref dz, .int 0])), (sl, .inr (1, [.int 0, .ref dz, .int 0]))]) [6, 7, 8] (by decide) rfl
  have hKc := hK.sub (tys' := []) [] rfl
  have hFc := va_free (wc := [(mm, .inr (10, [.int 0, .ref pl, .ref ig, .ref sl, .ref kl, .int 0, .int 0, .int 0])), (pl, .inr (1, [.int 0, .ref dz, .int 0])), (sl, .inr (1, [.int 0, .ref dz, .int 0]))]) hD hS hA [6, 7, 8] rfl
  refine va_calli (va_runV (As := [.int 1, .int 1]) (rest := [.long 6928503057019903932]) ⟨hx, hb, hml, hown, hts⟩ (c_X8_partyNow l dC dI mm pl ig sl kl dz (1 : Int32) (1 : Int32) _ (by unfold vp_in; decide)) (cwV 2 hts gX8_digest_X8_partyNow rfl rfl rfl (by decide +kernel) ⟨Nat.le_of_ble_eq_true rfl, Nat.le_of_ble_eq_true rfl⟩) ⟨pe_blind mo_bl, va_recv hKc hPc (ci := 10) (q0 := 0) rfl rfl, fun U hU hW => ⟨rfl, pr_mk hU hW hPc hKc hDc, mo_mk hW hXs.1⟩⟩ rfl rfl hl.1 rfl (lv_room (Nat.le_of_ble_eq_true rfl)) dX8_digest_456 ⟨Nat.le_of_ble_eq_true rfl, Nat.le_of_ble_eq_true rfl⟩) hS (fun q _ h => hFc q h) hFc (fun r_108 u_107 t H1 locs ht hvm hw hB hz1 hk1 hS => ?_)
  obtain ⟨hP1, hK1, hD1⟩ := hB
  rw [ht] at hP1
  obtain ⟨hP, hD⟩ := va_join (wr := [(q_41, .inr (1, [.int 0, .ref dz, .int 0])), (kl, .inr (1, [.int 0, .ref dz, .int 0])), (q_50, .inl (c_51, 3, .inr (.inr (.inr (.inr (va_up (va_up (va_up (fun _ => none) (0 : Int32).toNatClampNeg (some r_53)) (1 : Int32).toNatClampNeg (some r_56)) (2 : Int32).toNatClampNeg (some r_59))))))), (r_53, .inl (q_54, 4, .inl zi)), (r_56, .inl (q_54, 4, .inl zi)), (r_59, .inl (q_54, 4, .inl zi))]) (w1 := [(mm, .inr (10, [.int 0, .ref pl, .ref ig, .ref sl, .ref kl, .int 0, .int 0, .int 0])), (pl, .inr (1, [.int 0, .ref dz, .int 0])), (sl, .inr (1, [.int 0, .ref dz, .int 0]))]) hP hD [6, 7, 8] [0, 1, 2, 3, 4, 5] rfl rfl (by decide) (by decide) hk1 hFc hP1 hD1
  generalize H1 = H at hP hS ⊢
  have hP : va_P (dC, dI) vwCl [(q_41, .inr (1, [.int 0, .ref dz, .int 0])), (kl, .inr (1, [.int 0, .ref dz, .int 0])), (q_50, .inl (c_51, 3, .inr (.inr (.inr (.inr (va_up (va_up (va_up (fun _ => none) (0 : Int32).toNatClampNeg (some r_53)) (1 : Int32).toNatClampNeg (some r_56)) (2 : Int32).toNatClampNeg (some r_59))))))), (r_53, .inl (q_54, 4, .inl zi)), (r_56, .inl (q_54, 4, .inl zi)), (r_59, .inl (q_54, 4, .inl zi)), (mm, .inr (10, [.int 0, .ref pl, .ref ig, .ref sl, .ref kl, .int 0, .int 0, .int 0])), (pl, .inr (1, [.int 0, .ref dz, .int 0])), (sl, .inr (1, [.int 0, .ref dz, .int 0]))] H := hP
  have hD : va_D A [(q_41, .inr (1, [.int 0, .ref dz, .int 0])), (kl, .inr (1, [.int 0, .ref dz, .int 0])), (q_50, .inl (c_51, 3, .inr (.inr (.inr (.inr (va_up (va_up (va_up (fun _ => none) (0 : Int32).toNatClampNeg (some r_53)) (1 : Int32).toNatClampNeg (some r_56)) (2 : Int32).toNatClampNeg (some r_59))))))), (r_53, .inl (q_54, 4, .inl zi)), (r_56, .inl (q_54, 4, .inl zi)), (r_59, .inl (q_54, 4, .inl zi)), (mm, .inr (10, [.int 0, .ref pl, .ref ig, .ref sl, .ref kl, .int 0, .int 0, .int 0])), (pl, .inr (1, [.int 0, .ref dz, .int 0])), (sl, .inr (1, [.int 0, .ref dz, .int 0]))] := hD
  refine W.widen (k := 28) (n := 180) (Nat.le_of_ble_eq_true rfl) (Nat.le_of_ble_eq_true rfl) ?_
  have hw : r_108 = 0 := hw
  subst hw
  refine lv_i2l (v := 0) hx hb dX8_digest_459 (by decide) ?_
  refine lv_ladd hx hb dX8_digest_460 ?_
  refine lv_topl (fun y_109 ey_109 => ?_)
  obtain rfl : y_109 = 6928503057019903932 := ey_109.trans (by decide)
  refine lv_lstore_n (lv' := [(1, .long 6928503057019903932), (6, .int 1), (5, .int 1), (8, .int 3), (9, .ref r_59), (7, .int 3), (4, .ref q_50), (3, .ref q_41), (0, .ref mm)]) hx hb dX8_digest_461 rfl hl (by decide) rfl (fun ls hl => ?_)
  refine lv_iinc (k := 1) (v := 2) (lv' := [(6, .int 2), (1, .long 6928503057019903932), (5, .int 1), (8, .int 3), (9, .ref r_59), (7, .int 3), (4, .ref q_50), (3, .ref q_41), (0, .ref mm)]) hx hb dX8_digest_462 hl rfl (by decide) (by decide) rfl (fun ls hl => ?_)
  refine lv_goto (tgt := 440) hx hb dX8_digest_465 (by decide) ?_
  refine lv_iload hx hb dX8_digest_440 (lv_at hl 0 rfl) ?_
  refine lv_iconst (v := 4) hx hb dX8_digest_442 (by decide) ?_
  refine lv_icmp_gt (tgt := 468) hx hb dX8_digest_443 (by decide) (fun h9 => absurd h9 (by decide)) (fun _ => ?_)
  refine lv_lload_n hx hb dX8_digest_446 rfl (lv_at hl 1 rfl) ?_
  refine lv_ldc2 (v := 31) hx hb hown (hts (.constantLong RX8 232 31) (by decide +kernel)) dX8_digest_447 ?_
  refine lv_lmul hx hb dX8_digest_450 ?_
  refine lv_topl (fun y_110 ey_110 => ?_)
  obtain rfl : y_110 = (-6577334116897597500) := ey_110.trans (by decide)
  refine lv_aload_n hx hb dX8_digest_451 rfl (lv_at hl 8 rfl) ?_
  refine lv_iload hx hb dX8_digest_452 (lv_at hl 2 rfl) ?_
  refine lv_iload hx hb dX8_digest_454 (lv_at hl 0 rfl) ?_
  have hPc := hP.sub (ws' := [(mm, .inr (10, [.int 0, .ref pl, .ref ig, .ref sl, .ref kl, .int 0, .int 0, .int 0])), (pl, .inr (1, [.int 0, .ref dz, .int 0])), (sl, .inr (1, [.int 0, .ref dz, .int 0]))]) [6, 7, 8] rfl
  have hDc := hD.sub (ws' := [(mm, .inr (10, [.int 0, .ref pl, .ref ig, .ref sl, .ref kl, .int 0, .int 0, .int 0])), (pl, .inr (1, [.int 0, .ref dz, .int 0])), (sl, .inr (1, [.int 0, .ref dz, .int 0]))]) [6, 7, 8] (by decide) rfl
  have hKc := hK.sub (tys' := []) [] rfl
  have hFc := va_free (wc := [(mm, .inr (10, [.int 0, .ref pl, .ref ig, .ref sl, .ref kl, .int 0, .int 0, .int 0])), (pl, .inr (1, [.int 0, .ref dz, .int 0])), (sl, .inr (1, [.int 0, .ref dz, .int 0]))]) hD hS hA [6, 7, 8] rfl
  refine va_calli (va_runV (As := [.int 1, .int 2]) (rest := [.long (-6577334116897597500)]) ⟨hx, hb, hml, hown, hts⟩ (c_X8_partyNow l dC dI mm pl ig sl kl dz (1 : Int32) (2 : Int32) _ (by unfold vp_in; decide)) (cwV 2 hts gX8_digest_X8_partyNow rfl rfl rfl (by decide +kernel) ⟨Nat.le_of_ble_eq_true rfl, Nat.le_of_ble_eq_true rfl⟩) ⟨pe_blind mo_bl, va_recv hKc hPc (ci := 10) (q0 := 0) rfl rfl, fun U hU hW => ⟨rfl, pr_mk hU hW hPc hKc hDc, mo_mk hW hXs.1⟩⟩ rfl rfl hl.1 rfl (lv_room (Nat.le_of_ble_eq_true rfl)) dX8_digest_456 ⟨Nat.le_of_ble_eq_true rfl, Nat.le_of_ble_eq_true rfl⟩) hS (fun q _ h => hFc q h) hFc (fun r_112 u_111 t H1 locs ht hvm hw hB hz1 hk1 hS => ?_)
  obtain ⟨hP1, hK1, hD1⟩ := hB
  rw [ht] at hP1
  obtain ⟨hP, hD⟩ := va_join (wr := [(q_41, .inr (1, [.int 0, .ref dz, .int 0])), (kl, .inr (1, [.int 0, .ref dz, .int 0])), (q_50, .inl (c_51, 3, .inr (.inr (.inr (.inr (va_up (va_up (va_up (fun _ => none) (0 : Int32).toNatClampNeg (some r_53)) (1 : Int32).toNatClampNeg (some r_56)) (2 : Int32).toNatClampNeg (some r_59))))))), (r_53, .inl (q_54, 4, .inl zi)), (r_56, .inl (q_54, 4, .inl zi)), (r_59, .inl (q_54, 4, .inl zi))]) (w1 := [(mm, .inr (10, [.int 0, .ref pl, .ref ig, .ref sl, .ref kl, .int 0, .int 0, .int 0])), (pl, .inr (1, [.int 0, .ref dz, .int 0])), (sl, .inr (1, [.int 0, .ref dz, .int 0]))]) hP hD [6, 7, 8] [0, 1, 2, 3, 4, 5] rfl rfl (by decide) (by decide) hk1 hFc hP1 hD1
  generalize H1 = H at hP hS ⊢
  have hP : va_P (dC, dI) vwCl [(q_41, .inr (1, [.int 0, .ref dz, .int 0])), (kl, .inr (1, [.int 0, .ref dz, .int 0])), (q_50, .inl (c_51, 3, .inr (.inr (.inr (.inr (va_up (va_up (va_up (fun _ => none) (0 : Int32).toNatClampNeg (some r_53)) (1 : Int32).toNatClampNeg (some r_56)) (2 : Int32).toNatClampNeg (some r_59))))))), (r_53, .inl (q_54, 4, .inl zi)), (r_56, .inl (q_54, 4, .inl zi)), (r_59, .inl (q_54, 4, .inl zi)), (mm, .inr (10, [.int 0, .ref pl, .ref ig, .ref sl, .ref kl, .int 0, .int 0, .int 0])), (pl, .inr (1, [.int 0, .ref dz, .int 0])), (sl, .inr (1, [.int 0, .ref dz, .int 0]))] H := hP
  have hD : va_D A [(q_41, .inr (1, [.int 0, .ref dz, .int 0])), (kl, .inr (1, [.int 0, .ref dz, .int 0])), (q_50, .inl (c_51, 3, .inr (.inr (.inr (.inr (va_up (va_up (va_up (fun _ => none) (0 : Int32).toNatClampNeg (some r_53)) (1 : Int32).toNatClampNeg (some r_56)) (2 : Int32).toNatClampNeg (some r_59))))))), (r_53, .inl (q_54, 4, .inl zi)), (r_56, .inl (q_54, 4, .inl zi)), (r_59, .inl (q_54, 4, .inl zi)), (mm, .inr (10, [.int 0, .ref pl, .ref ig, .ref sl, .ref kl, .int 0, .int 0, .int 0])), (pl, .inr (1, [.int 0, .ref dz, .int 0])), (sl, .inr (1, [.int 0, .ref dz, .int 0]))] := hD
  refine W.widen (k := 29) (n := 185) (Nat.le_of_ble_eq_true rfl) (Nat.le_of_ble_eq_true rfl) ?_
  have hw : r_112 = 0 := hw
  subst hw
  refine lv_i2l (v := 0) hx hb dX8_digest_459 (by decide) ?_
  refine lv_ladd hx hb dX8_digest_460 ?_
  refine lv_topl (fun y_113 ey_113 => ?_)
  obtain rfl : y_113 = (-6577334116897597500) := ey_113.trans (by decide)
  refine lv_lstore_n (lv' := [(1, .long (-6577334116897597500)), (6, .int 2), (5, .int 1), (8, .int 3), (9, .ref r_59), (7, .int 3), (4, .ref q_50), (3, .ref q_41), (0, .ref mm)]) hx hb dX8_digest_461 rfl hl (by decide) rfl (fun ls hl => ?_)
  refine lv_iinc (k := 1) (v := 3) (lv' := [(6, .int 3), (1, .long (-6577334116897597500)), (5, .int 1), (8, .int 3), (9, .ref r_59), (7, .int 3), (4, .ref q_50), (3, .ref q_41), (0, .ref mm)]) hx hb dX8_digest_462 hl rfl (by decide) (by decide) rfl (fun ls hl => ?_)
  refine lv_goto (tgt := 440) hx hb dX8_digest_465 (by decide) ?_
  refine lv_iload hx hb dX8_digest_440 (lv_at hl 0 rfl) ?_
  refine lv_iconst (v := 4) hx hb dX8_digest_442 (by decide) ?_
  refine lv_icmp_gt (tgt := 468) hx hb dX8_digest_443 (by decide) (fun h9 => absurd h9 (by decide)) (fun _ => ?_)
  refine lv_lload_n hx hb dX8_digest_446 rfl (lv_at hl 1 rfl) ?_
  refine lv_ldc2 (v := 31) hx hb hown (hts (.constantLong RX8 232 31) (by decide +kernel)) dX8_digest_447 ?_
  refine lv_lmul hx hb dX8_digest_450 ?_
  refine lv_topl (fun y_114 ey_114 => ?_)
  obtain rfl : y_114 = (-983172813020454724) := ey_114.trans (by decide)
  refine lv_aload_n hx hb dX8_digest_451 rfl (lv_at hl 8 rfl) ?_
  refine lv_iload hx hb dX8_digest_452 (lv_at hl 2 rfl) ?_
  refine lv_iload hx hb dX8_digest_454 (lv_at hl 0 rfl) ?_
  have hPc := hP.sub (ws' := [(mm, .inr (10, [.int 0, .ref pl, .ref ig, .ref sl, .ref kl, .int 0, .int 0, .int 0])), (pl, .inr (1, [.int 0, .ref dz, .int 0])), (sl, .inr (1, [.int 0, .ref dz, .int 0]))]) [6, 7, 8] rfl
  have hDc := hD.sub (ws' := [(mm, .inr (10, [.int 0, .ref pl, .ref ig, .ref sl, .ref kl, .int 0, .int 0, .int 0])), (pl, .inr (1, [.int 0, .ref dz, .int 0])), (sl, .inr (1, [.int 0, .ref dz, .int 0]))]) [6, 7, 8] (by decide) rfl
  have hKc := hK.sub (tys' := []) [] rfl
  have hFc := va_free (wc := [(mm, .inr (10, [.int 0, .ref pl, .ref ig, .ref sl, .ref kl, .int 0, .int 0, .int 0])), (pl, .inr (1, [.int 0, .ref dz, .int 0])), (sl, .inr (1, [.int 0, .ref dz, .int 0]))]) hD hS hA [6, 7, 8] rfl
  refine va_calli (va_runV (As := [.int 1, .int 3]) (rest := [.long (-983172813020454724)]) ⟨hx, hb, hml, hown, hts⟩ (c_X8_partyNow l dC dI mm pl ig sl kl dz (1 : Int32) (3 : Int32) _ (by unfold vp_in; decide)) (cwV 2 hts gX8_digest_X8_partyNow rfl rfl rfl (by decide +kernel) ⟨Nat.le_of_ble_eq_true rfl, Nat.le_of_ble_eq_true rfl⟩) ⟨pe_blind mo_bl, va_recv hKc hPc (ci := 10) (q0 := 0) rfl rfl, fun U hU hW => ⟨rfl, pr_mk hU hW hPc hKc hDc, mo_mk hW hXs.1⟩⟩ rfl rfl hl.1 rfl (lv_room (Nat.le_of_ble_eq_true rfl)) dX8_digest_456 ⟨Nat.le_of_ble_eq_true rfl, Nat.le_of_ble_eq_true rfl⟩) hS (fun q _ h => hFc q h) hFc (fun r_116 u_115 t H1 locs ht hvm hw hB hz1 hk1 hS => ?_)
  obtain ⟨hP1, hK1, hD1⟩ := hB
  rw [ht] at hP1
  obtain ⟨hP, hD⟩ := va_join (wr := [(q_41, .inr (1, [.int 0, .ref dz, .int 0])), (kl, .inr (1, [.int 0, .ref dz, .int 0])), (q_50, .inl (c_51, 3, .inr (.inr (.inr (.inr (va_up (va_up (va_up (fun _ => none) (0 : Int32).toNatClampNeg (some r_53)) (1 : Int32).toNatClampNeg (some r_56)) (2 : Int32).toNatClampNeg (some r_59))))))), (r_53, .inl (q_54, 4, .inl zi)), (r_56, .inl (q_54, 4, .inl zi)), (r_59, .inl (q_54, 4, .inl zi))]) (w1 := [(mm, .inr (10, [.int 0, .ref pl, .ref ig, .ref sl, .ref kl, .int 0, .int 0, .int 0])), (pl, .inr (1, [.int 0, .ref dz, .int 0])), (sl, .inr (1, [.int 0, .ref dz, .int 0]))]) hP hD [6, 7, 8] [0, 1, 2, 3, 4, 5] rfl rfl (by decide) (by decide) hk1 hFc hP1 hD1
  generalize H1 = H at hP hS ⊢
  have hP : va_P (dC, dI) vwCl [(q_41, .inr (1, [.int 0, .ref dz, .int 0])), (kl, .inr (1, [.int 0, .ref dz, .int 0])), (q_50, .inl (c_51, 3, .inr (.inr (.inr (.inr (va_up (va_up (va_up (fun _ => none) (0 : Int32).toNatClampNeg (some r_53)) (1 : Int32).toNatClampNeg (some r_56)) (2 : Int32).toNatClampNeg (some r_59))))))), (r_53, .inl (q_54, 4, .inl zi)), (r_56, .inl (q_54, 4, .inl zi)), (r_59, .inl (q_54, 4, .inl zi)), (mm, .inr (10, [.int 0, .ref pl, .ref ig, .ref sl, .ref kl, .int 0, .int 0, .int 0])), (pl, .inr (1, [.int 0, .ref dz, .int 0])), (sl, .inr (1, [.int 0, .ref dz, .int 0]))] H := hP
  have hD : va_D A [(q_41, .inr (1, [.int 0, .ref dz, .int 0])), (kl, .inr (1, [.int 0, .ref dz, .int 0])), (q_50, .inl (c_51, 3, .inr (.inr (.inr (.inr (va_up (va_up (va_up (fun _ => none) (0 : Int32).toNatClampNeg (some r_53)) (1 : Int32).toNatClampNeg (some r_56)) (2 : Int32).toNatClampNeg (some r_59))))))), (r_53, .inl (q_54, 4, .inl zi)), (r_56, .inl (q_54, 4, .inl zi)), (r_59, .inl (q_54, 4, .inl zi)), (mm, .inr (10, [.int 0, .ref pl, .ref ig, .ref sl, .ref kl, .int 0, .int 0, .int 0])), (pl, .inr (1, [.int 0, .ref dz, .int 0])), (sl, .inr (1, [.int 0, .ref dz, .int 0]))] := hD
  refine W.widen (k := 30) (n := 190) (Nat.le_of_ble_eq_true rfl) (Nat.le_of_ble_eq_true rfl) ?_
  have hw : r_116 = 0 := hw
  subst hw
  refine lv_i2l (v := 0) hx hb dX8_digest_459 (by decide) ?_
  refine lv_ladd hx hb dX8_digest_460 ?_
  refine lv_topl (fun y_117 ey_117 => ?_)
  obtain rfl : y_117 = (-983172813020454724) := ey_117.trans (by decide)
  refine lv_lstore_n (lv' := [(1, .long (-983172813020454724)), (6, .int 3), (5, .int 1), (8, .int 3), (9, .ref r_59), (7, .int 3), (4, .ref q_50), (3, .ref q_41), (0, .ref mm)]) hx hb dX8_digest_461 rfl hl (by decide) rfl (fun ls hl => ?_)
  refine lv_iinc (k := 1) (v := 4) (lv' := [(6, .int 4), (1, .long (-983172813020454724)), (5, .int 1), (8, .int 3), (9, .ref r_59), (7, .int 3), (4, .ref q_50), (3, .ref q_41), (0, .ref mm)]) hx hb dX8_digest_462 hl rfl (by decide) (by decide) rfl (fun ls hl => ?_)
  refine lv_goto (tgt := 440) hx hb dX8_digest_465 (by decide) ?_
  refine lv_iload hx hb dX8_digest_440 (lv_at hl 0 rfl) ?_
  refine lv_iconst (v := 4) hx hb dX8_digest_442 (by decide) ?_
  refine lv_icmp_gt (tgt := 468) hx hb dX8_digest_443 (by decide) (fun h9 => absurd h9 (by decide)) (fun _ => ?_)
  refine lv_lload_n hx hb dX8_digest_446 rfl (lv_at hl 1 rfl) ?_
  refine lv_ldc2 (v := 31) hx hb hown (hts (.constantLong RX8 232 31) (by decide +kernel)) dX8_digest_447 ?_
  refine lv_lmul hx hb dX8_digest_450 ?_
  refine lv_topl (fun y_118 ey_118 => ?_)
  obtain rfl : y_118 = 6415130943785006788 := ey_118.trans (by decide)
  refine lv_aload_n hx hb dX8_digest_451 rfl (lv_at hl 8 rfl) ?_
  refine lv_iload hx hb dX8_digest_452 (lv_at hl 2 rfl) ?_
  refine lv_iload hx hb dX8_digest_454 (lv_at hl 0 rfl) ?_
  have hPc := hP.sub (ws' := [(mm, .inr (10, [.int 0, .ref pl, .ref ig, .ref sl, .ref kl, .int 0, .int 0, .int 0])), (pl, .inr (1, [.int 0, .ref dz, .int 0])), (sl, .inr (1, [.int 0, .ref dz, .int 0]))]) [6, 7, 8] rfl
  have hDc := hD.sub (ws' := [(mm, .inr (10, [.int 0, .ref pl, .ref ig, .ref sl, .ref kl, .int 0, .int 0, .int 0])), (pl, .inr (1, [.int 0, .ref dz, .int 0])), (sl, .inr (1, [.int 0, .ref dz, .int 0]))]) [6, 7, 8] (by decide) rfl
  have hKc := hK.sub (tys' := []) [] rfl
  have hFc := va_free (wc := [(mm, .inr (10, [.int 0, .ref pl, .ref ig, .ref sl, .ref kl, .int 0, .int 0, .int 0])), (pl, .inr (1, [.int 0, .ref dz, .int 0])), (sl, .inr (1, [.int 0, .ref dz, .int 0]))]) hD hS hA [6, 7, 8] rfl
  refine va_calli (va_runV (As := [.int 1, .int 4]) (rest := [.long 6415130943785006788]) ⟨hx, hb, hml, hown, hts⟩ (c_X8_partyNow l dC dI mm pl ig sl kl dz (1 : Int32) (4 : Int32) _ (by unfold vp_in; decide)) (cwV 2 hts gX8_digest_X8_partyNow rfl rfl rfl (by decide +kernel) ⟨Nat.le_of_ble_eq_true rfl, Nat.le_of_ble_eq_true rfl⟩) ⟨pe_blind mo_bl, va_recv hKc hPc (ci := 10) (q0 := 0) rfl rfl, fun U hU hW => ⟨rfl, pr_mk hU hW hPc hKc hDc, mo_mk hW hXs.1⟩⟩ rfl rfl hl.1 rfl (lv_room (Nat.le_of_ble_eq_true rfl)) dX8_digest_456 ⟨Nat.le_of_ble_eq_true rfl, Nat.le_of_ble_eq_true rfl⟩) hS (fun q _ h => hFc q h) hFc (fun r_120 u_119 t H1 locs ht hvm hw hB hz1 hk1 hS => ?_)
  obtain ⟨hP1, hK1, hD1⟩ := hB
  rw [ht] at hP1
  obtain ⟨hP, hD⟩ := va_join (wr := [(q_41, .inr (1, [.int 0, .ref dz, .int 0])), (kl, .inr (1, [.int 0, .ref dz, .int 0])), (q_50, .inl (c_51, 3, .inr (.inr (.inr (.inr (va_up (va_up (va_up (fun _ => none) (0 : Int32).toNatClampNeg (some r_53)) (1 : Int32).toNatClampNeg (some r_56)) (2 : Int32).toNatClampNeg (some r_59))))))), (r_53, .inl (q_54, 4, .inl zi)), (r_56, .inl (q_54, 4, .inl zi)), (r_59, .inl (q_54, 4, .inl zi))]) (w1 := [(mm, .inr (10, [.int 0, .ref pl, .ref ig, .ref sl, .ref kl, .int 0, .int 0, .int 0])), (pl, .inr (1, [.int 0, .ref dz, .int 0])), (sl, .inr (1, [.int 0, .ref dz, .int 0]))]) hP hD [6, 7, 8] [0, 1, 2, 3, 4, 5] rfl rfl (by decide) (by decide) hk1 hFc hP1 hD1
  generalize H1 = H at hP hS ⊢
  have hP : va_P (dC, dI) vwCl [(q_41, .inr (1, [.int 0, .ref dz, .int 0])), (kl, .inr (1, [.int 0, .ref dz, .int 0])), (q_50, .inl (c_51, 3, .inr (.inr (.inr (.inr (va_up (va_up (va_up (fun _ => none) (0 : Int32).toNatClampNeg (some r_53)) (1 : Int32).toNatClampNeg (some r_56)) (2 : Int32).toNatClampNeg (some r_59))))))), (r_53, .inl (q_54, 4, .inl zi)), (r_56, .inl (q_54, 4, .inl zi)), (r_59, .inl (q_54, 4, .inl zi)), (mm, .inr (10, [.int 0, .ref pl, .ref ig, .ref sl, .ref kl, .int 0, .int 0, .int 0])), (pl, .inr (1, [.int 0, .ref dz, .int 0])), (sl, .inr (1, [.int 0, .ref dz, .int 0]))] H := hP
  have hD : va_D A [(q_41, .inr (1, [.int 0, .ref dz, .int 0])), (kl, .inr (1, [.int 0, .ref dz, .int 0])), (q_50, .inl (c_51, 3, .inr (.inr (.inr (.inr (va_up (va_up (va_up (fun _ => none) (0 : Int32).toNatClampNeg (some r_53)) (1 : Int32).toNatClampNeg (some r_56)) (2 : Int32).toNatClampNeg (some r_59))))))), (r_53, .inl (q_54, 4, .inl zi)), (r_56, .inl (q_54, 4, .inl zi)), (r_59, .inl (q_54, 4, .inl zi)), (mm, .inr (10, [.int 0, .ref pl, .ref ig, .ref sl, .ref kl, .int 0, .int 0, .int 0])), (pl, .inr (1, [.int 0, .ref dz, .int 0])), (sl, .inr (1, [.int 0, .ref dz, .int 0]))] := hD
  refine W.widen (k := 31) (n := 195) (Nat.le_of_ble_eq_true rfl) (Nat.le_of_ble_eq_true rfl) ?_
  have hw : r_120 = 0 := hw
  subst hw
  refine lv_i2l (v := 0) hx hb dX8_digest_459 (by decide) ?_
  refine lv_ladd hx hb dX8_digest_460 ?_
  refine lv_topl (fun y_121 ey_121 => ?_)
  obtain rfl : y_121 = 6415130943785006788 := ey_121.trans (by decide)
  refine lv_lstore_n (lv' := [(1, .long 6415130943785006788), (6, .int 4), (5, .int 1), (8, .int 3), (9, .ref r_59), (7, .int 3), (4, .ref q_50), (3, .ref q_41), (0, .ref mm)]) hx hb dX8_digest_461 rfl hl (by decide) rfl (fun ls hl => ?_)
  refine lv_iinc (k := 1) (v := 5) (lv' := [(6, .int 5), (1, .long 6415130943785006788), (5, .int 1), (8, .int 3), (9, .ref r_59), (7, .int 3), (4, .ref q_50), (3, .ref q_41), (0, .ref mm)]) hx hb dX8_digest_462 hl rfl (by decide) (by decide) rfl (fun ls hl => ?_)
  refine lv_goto (tgt := 440) hx hb dX8_digest_465 (by decide) ?_
  refine lv_iload hx hb dX8_digest_440 (lv_at hl 0 rfl) ?_
  refine lv_iconst (v := 4) hx hb dX8_digest_442 (by decide) ?_
  refine lv_icmp_gt (tgt := 468) hx hb dX8_digest_443 (by decide) (fun _ => ?_) (fun h9 => absurd h9 (by decide))
  refine lv_aload hx hb dX8_digest_468 (lv_at hl 6 rfl) ?_
  refine lv_astore (lv' := [(6, .ref q_50), (1, .long 6415130943785006788), (5, .int 1), (8, .int 3), (9, .ref r_59), (7, .int 3), (4, .ref q_50), (3, .ref q_41), (0, .ref mm)]) hx hb dX8_digest_470 hl (by decide) rfl (fun ls hl => ?_)
  refine lv_aload hx hb dX8_digest_472 (lv_at hl 0 rfl) ?_
  refine va_alen (v := 3) hx hb hK hP 2 0 rfl rfl rfl dX8_digest_474 ?_
  refine lv_istore (lv' := [(7, .int 3), (6, .ref q_50), (1, .long 6415130943785006788), (5, .int 1), (8, .int 3), (9, .ref r_59), (4, .ref q_50), (3, .ref q_41), (0, .ref mm)]) hx hb dX8_digest_475 hl (by decide) rfl (fun ls hl => ?_)
  refine lv_iconst (v := 0) hx hb dX8_digest_477 (by decide) ?_
  refine lv_istore (lv' := [(8, .int 0), (7, .int 3), (6, .ref q_50), (1, .long 6415130943785006788), (5, .int 1), (9, .ref r_59), (4, .ref q_50), (3, .ref q_41), (0, .ref mm)]) hx hb dX8_digest_478 hl (by decide) rfl (fun ls hl => ?_)
  refine lv_iload hx hb dX8_digest_480 (lv_at hl 0 rfl) ?_
  refine lv_iload hx hb dX8_digest_482 (lv_at hl 1 rfl) ?_
  refine lv_icmp_ge (tgt := 530) hx hb dX8_digest_484 (by decide) (fun h9 => absurd h9 (by decide)) (fun _ => ?_)
  refine lv_aload hx hb dX8_digest_487 (lv_at hl 2 rfl) ?_
  refine lv_iload hx hb dX8_digest_489 (lv_at hl 0 rfl) ?_
  refine gd_ld (v := .ref r_53) hx hb hK hP 2 0 rfl rfl (by unfold vp_in; decide) rfl dX8_digest_491 ?_
  refine lv_astore (lv' := [(9, .ref r_53), (8, .int 0), (7, .int 3), (6, .ref q_50), (1, .long 6415130943785006788), (5, .int 1), (4, .ref q_50), (3, .ref q_41), (0, .ref mm)]) hx hb dX8_digest_492 hl (by decide) rfl (fun ls hl => ?_)
  refine lv_lload_n hx hb dX8_digest_494 rfl (lv_at hl 4 rfl) ?_
  refine lv_ldc2 (v := 31) hx hb hown (hts (.constantLong RX8 232 31) (by decide +kernel)) dX8_digest_495 ?_
  refine lv_lmul hx hb dX8_digest_498 ?_
  refine lv_topl (fun y_122 ey_122 => ?_)
  obtain rfl : y_122 = (-4045125553469857348) := ey_122.trans (by decide)
  refine lv_aload hx hb dX8_digest_499 (lv_at hl 0 rfl) ?_
  refine lv_iload hx hb dX8_digest_501 (lv_at hl 5 rfl) ?_
  refine va_iald hx hb hK hP 3 1 rfl rfl (by unfold vp_in; decide) dX8_digest_503 ?_
  refine lv_topi (fun y_123 ey_123 => ?_)
  obtain rfl : y_123 = 0 := ey_123.trans (by rfl)
  refine lv_i2l (v := 0) hx hb dX8_digest_504 (by decide) ?_
  refine lv_ladd hx hb dX8_digest_505 ?_
  refine lv_topl (fun y_124 ey_124 => ?_)
  obtain rfl : y_124 = (-4045125553469857348) := ey_124.trans (by decide)
  refine lv_lstore_n (lv' := [(1, .long (-4045125553469857348)), (9, .ref r_53), (8, .int 0), (7, .int 3), (6, .ref q_50), (5, .int 1), (4, .ref q_50), (3, .ref q_41), (0, .ref mm)]) hx hb dX8_digest_506 rfl hl (by decide) rfl (fun ls hl => ?_)
  refine lv_lload_n hx hb dX8_digest_507 rfl (lv_at hl 0 rfl) ?_
  refine lv_ldc2 (v := 31) hx hb hown (hts (.constantLong RX8 232 31) (by decide +kernel)) dX8_digest_508 ?_
  refine lv_lmul hx hb dX8_digest_511 ?_
  refine lv_topl (fun y_125 ey_125 => ?_)
  obtain rfl : y_125 = 3728316358401283524 := ey_125.trans (by decide)
  refine lv_aload hx hb dX8_digest_512 (lv_at hl 1 rfl) ?_
  refine lv_iload hx hb dX8_digest_514 (lv_at hl 5 rfl) ?_
  refine lv_bipush (v := 20) hx hb dX8_digest_516 (by decide) ?_
  have hPc := hP.sub (ws' := [(r_53, .inl (q_54, 4, .inl zi))]) [3] rfl
  have hDc := hD.sub (ws' := [(r_53, .inl (q_54, 4, .inl zi))]) [3] (by decide) rfl
  have hKc := hK.sub (tys' := [(q_54, .int)]) [1] rfl
  have hFc := va_free (wc := [(r_53, .inl (q_54, 4, .inl zi))]) hD hS hA [3] rfl
  refine va_calli (va_runS (As := [.ref r_53, .int 1, .int 20]) (rest := [.long 3728316358401283524]) ⟨hx, hb, hml, hown, hts⟩ (c_X8_swingsNow l dC dI r_53 q_54 (1 : Int32) (20 : Int32) _ (by decide) (by decide)) (va_cwS 3 hts gX8_digest_X8_swingsNow rfl rfl rfl (by decide +kernel) ⟨Nat.le_of_ble_eq_true rfl, Nat.le_of_ble_eq_true rfl⟩) ⟨pr_blind, fun U hU hW => ⟨rfl, pr_mk hU hW hPc hKc hDc⟩⟩ rfl rfl hl.1 rfl (lv_room (Nat.le_of_ble_eq_true rfl)) dX8_digest_518 ⟨Nat.le_of_ble_eq_true rfl, Nat.le_of_ble_eq_true rfl⟩) hS (fun q _ h => hFc q h) hFc (fun r_127 u_126 t H1 locs ht hvm hw hB hz1 hk1 hS => ?_)
  obtain ⟨hP1, hK1, hD1⟩ := hB
  rw [ht] at hP1
  obtain ⟨hP, hD⟩ := va_join (wr := [(q_41, .inr (1, [.int 0, .ref dz, .int 0])), (kl, .inr (1, [.int 0, .ref dz, .int 0])), (q_50, .inl (c_51, 3, .inr (.inr (.inr (.inr (va_up (va_up (va_up (fun _ => none) (0 : Int32).toNatClampNeg (some r_53)) (1 : Int32).toNatClampNeg (some r_56)) (2 : Int32).toNatClampNeg (some r_59))))))), (r_56, .inl (q_54, 4, .inl zi)), (r_59, .inl (q_54, 4, .inl zi)), (mm, .inr (10, [.int 0, .ref pl, .ref ig, .ref sl, .ref kl, .int 0, .int 0, .int 0])), (pl, .inr (1, [.int 0, .ref dz, .int 0])), (sl, .inr (1, [.int 0, .ref dz, .int 0]))]) (w1 := [(r_53, .inl (q_54, 4, .inl zi))]) hP hD [3] [0, 1, 2, 4, 5, 6, 7, 8] rfl rfl (by decide) (by decide) hk1 hFc hP1 hD1
  generalize H1 = H at hP hS ⊢
  have hP : va_P (dC, dI) vwCl [(q_41, .inr (1, [.int 0, .ref dz, .int 0])), (kl, .inr (1, [.int 0, .ref dz, .int 0])), (q_50, .inl (c_51, 3, .inr (.inr (.inr (.inr (va_up (va_up (va_up (fun _ => none) (0 : Int32).toNatClampNeg (some r_53)) (1 : Int32).toNatClampNeg (some r_56)) (2 : Int32).toNatClampNeg (some r_59))))))), (r_56, .inl (q_54, 4, .inl zi)), (r_59, .inl (q_54, 4, .inl zi)), (mm, .inr (10, [.int 0, .ref pl, .ref ig, .ref sl, .ref kl, .int 0, .int 0, .int 0])), (pl, .inr (1, [.int 0, .ref dz, .int 0])), (sl, .inr (1, [.int 0, .ref dz, .int 0])), (r_53, .inl (q_54, 4, .inl zi))] H := hP
  have hD : va_D A [(q_41, .inr (1, [.int 0, .ref dz, .int 0])), (kl, .inr (1, [.int 0, .ref dz, .int 0])), (q_50, .inl (c_51, 3, .inr (.inr (.inr (.inr (va_up (va_up (va_up (fun _ => none) (0 : Int32).toNatClampNeg (some r_53)) (1 : Int32).toNatClampNeg (some r_56)) (2 : Int32).toNatClampNeg (some r_59))))))), (r_56, .inl (q_54, 4, .inl zi)), (r_59, .inl (q_54, 4, .inl zi)), (mm, .inr (10, [.int 0, .ref pl, .ref ig, .ref sl, .ref kl, .int 0, .int 0, .int 0])), (pl, .inr (1, [.int 0, .ref dz, .int 0])), (sl, .inr (1, [.int 0, .ref dz, .int 0])), (r_53, .inl (q_54, 4, .inl zi))] := hD
  refine W.widen (k := 31) (n := 195) (Nat.le_refl _) (Nat.le_refl _) ?_
  have hw : r_127 = 0 := hw
  subst hw
  refine lv_i2l (v := 0) hx hb dX8_digest_521 (by decide) ?_
  refine lv_ladd hx hb dX8_digest_522 ?_
  refine lv_topl (fun y_128 ey_128 => ?_)
  obtain rfl : y_128 = 3728316358401283524 := ey_128.trans (by decide)
  refine lv_lstore_n (lv' := [(1, .long 3728316358401283524), (9, .ref r_53), (8, .int 0), (7, .int 3), (6, .ref q_50), (5, .int 1), (4, .ref q_50), (3, .ref q_41), (0, .ref mm)]) hx hb dX8_digest_523 rfl hl (by decide) rfl (fun ls hl => ?_)
  refine lv_iinc (k := 2) (v := 1) (lv' := [(8, .int 1), (1, .long 3728316358401283524), (9, .ref r_53), (7, .int 3), (6, .ref q_50), (5, .int 1), (4, .ref q_50), (3, .ref q_41), (0, .ref mm)]) hx hb dX8_digest_524 hl rfl (by decide) (by decide) rfl (fun ls hl => ?_)
  refine lv_goto (tgt := 480) hx hb dX8_digest_527 (by decide) ?_
  refine lv_iload hx hb dX8_digest_480 (lv_at hl 0 rfl) ?_
  refine lv_iload hx hb dX8_digest_482 (lv_at hl 3 rfl) ?_
  refine lv_icmp_ge (tgt := 530) hx hb dX8_digest_484 (by decide) (fun h9 => absurd h9 (by decide)) (fun _ => ?_)
  refine lv_aload hx hb dX8_digest_487 (lv_at hl 4 rfl) ?_
  refine lv_iload hx hb dX8_digest_489 (lv_at hl 0 rfl) ?_
  refine gd_ld (v := .ref r_56) hx hb hK hP 2 0 rfl rfl (by unfold vp_in; decide) rfl dX8_digest_491 ?_
  refine lv_astore (lv' := [(9, .ref r_56), (8, .int 1), (1, .long 3728316358401283524), (7, .int 3), (6, .ref q_50), (5, .int 1), (4, .ref q_50), (3, .ref q_41), (0, .ref mm)]) hx hb dX8_digest_492 hl (by decide) rfl (fun ls hl => ?_)
  refine lv_lload_n hx hb dX8_digest_494 rfl (lv_at hl 2 rfl) ?_
  refine lv_ldc2 (v := 31) hx hb hown (hts (.constantLong RX8 232 31) (by decide +kernel)) dX8_digest_495 ?_
  refine lv_lmul hx hb dX8_digest_498 ?_
  refine lv_topl (fun y_129 ey_129 => ?_)
  obtain rfl : y_129 = 4897342668182479548 := ey_129.trans (by decide)
  refine lv_aload hx hb dX8_digest_499 (lv_at hl 0 rfl) ?_
  refine lv_iload hx hb dX8_digest_501 (lv_at hl 5 rfl) ?_
  refine va_iald hx hb hK hP 3 1 rfl rfl (by unfold vp_in; decide) dX8_digest_503 ?_
  refine lv_topi (fun y_130 ey_130 => ?_)
  obtain rfl : y_130 = 0 := ey_130.trans (by rfl)
  refine lv_i2l (v := 0) hx hb dX8_digest_504 (by decide) ?_
  refine lv_ladd hx hb dX8_digest_505 ?_
  refine lv_topl (fun y_131 ey_131 => ?_)
  obtain rfl : y_131 = 4897342668182479548 := ey_131.trans (by decide)
  refine lv_lstore_n (lv' := [(1, .long 4897342668182479548), (9, .ref r_56), (8, .int 1), (7, .int 3), (6, .ref q_50), (5, .int 1), (4, .ref q_50), (3, .ref q_41), (0, .ref mm)]) hx hb dX8_digest_506 rfl hl (by decide) rfl (fun ls hl => ?_)
  refine lv_lload_n hx hb dX8_digest_507 rfl (lv_at hl 0 rfl) ?_
  refine lv_ldc2 (v := 31) hx hb hown (hts (.constantLong RX8 232 31) (by decide +kernel)) dX8_digest_508 ?_
  refine lv_lmul hx hb dX8_digest_511 ?_
  refine lv_topl (fun y_132 ey_132 => ?_)
  obtain rfl : y_132 = 4243670123980453060 := ey_132.trans (by decide)
  refine lv_aload hx hb dX8_digest_512 (lv_at hl 1 rfl) ?_
  refine lv_iload hx hb dX8_digest_514 (lv_at hl 5 rfl) ?_
  refine lv_bipush (v := 20) hx hb dX8_digest_516 (by decide) ?_
  have hPc := hP.sub (ws' := [(r_56, .inl (q_54, 4, .inl zi))]) [3] rfl
  have hDc := hD.sub (ws' := [(r_56, .inl (q_54, 4, .inl zi))]) [3] (by decide) rfl
  have hKc := hK.sub (tys' := [(q_54, .int)]) [1] rfl
  have hFc := va_free (wc := [(r_56, .inl (q_54, 4, .inl zi))]) hD hS hA [3] rfl
  refine va_calli (va_runS (As := [.ref r_56, .int 1, .int 20]) (rest := [.long 4243670123980453060]) ⟨hx, hb, hml, hown, hts⟩ (c_X8_swingsNow l dC dI r_56 q_54 (1 : Int32) (20 : Int32) _ (by decide) (by decide)) (va_cwS 3 hts gX8_digest_X8_swingsNow rfl rfl rfl (by decide +kernel) ⟨Nat.le_of_ble_eq_true rfl, Nat.le_of_ble_eq_true rfl⟩) ⟨pr_blind, fun U hU hW => ⟨rfl, pr_mk hU hW hPc hKc hDc⟩⟩ rfl rfl hl.1 rfl (lv_room (Nat.le_of_ble_eq_true rfl)) dX8_digest_518 ⟨Nat.le_of_ble_eq_true rfl, Nat.le_of_ble_eq_true rfl⟩) hS (fun q _ h => hFc q h) hFc (fun r_134 u_133 t H1 locs ht hvm hw hB hz1 hk1 hS => ?_)
  obtain ⟨hP1, hK1, hD1⟩ := hB
  rw [ht] at hP1
  obtain ⟨hP, hD⟩ := va_join (wr := [(q_41, .inr (1, [.int 0, .ref dz, .int 0])), (kl, .inr (1, [.int 0, .ref dz, .int 0])), (q_50, .inl (c_51, 3, .inr (.inr (.inr (.inr (va_up (va_up (va_up (fun _ => none) (0 : Int32).toNatClampNeg (some r_53)) (1 : Int32).toNatClampNeg (some r_56)) (2 : Int32).toNatClampNeg (some r_59))))))), (r_59, .inl (q_54, 4, .inl zi)), (mm, .inr (10, [.int 0, .ref pl, .ref ig, .ref sl, .ref kl, .int 0, .int 0, .int 0])), (pl, .inr (1, [.int 0, .ref dz, .int 0])), (sl, .inr (1, [.int 0, .ref dz, .int 0])), (r_53, .inl (q_54, 4, .inl zi))]) (w1 := [(r_56, .inl (q_54, 4, .inl zi))]) hP hD [3] [0, 1, 2, 4, 5, 6, 7, 8] rfl rfl (by decide) (by decide) hk1 hFc hP1 hD1
  generalize H1 = H at hP hS ⊢
  have hP : va_P (dC, dI) vwCl [(q_41, .inr (1, [.int 0, .ref dz, .int 0])), (kl, .inr (1, [.int 0, .ref dz, .int 0])), (q_50, .inl (c_51, 3, .inr (.inr (.inr (.inr (va_up (va_up (va_up (fun _ => none) (0 : Int32).toNatClampNeg (some r_53)) (1 : Int32).toNatClampNeg (some r_56)) (2 : Int32).toNatClampNeg (some r_59))))))), (r_59, .inl (q_54, 4, .inl zi)), (mm, .inr (10, [.int 0, .ref pl, .ref ig, .ref sl, .ref kl, .int 0, .int 0, .int 0])), (pl, .inr (1, [.int 0, .ref dz, .int 0])), (sl, .inr (1, [.int 0, .ref dz, .int 0])), (r_53, .inl (q_54, 4, .inl zi)), (r_56, .inl (q_54, 4, .inl zi))] H := hP
  have hD : va_D A [(q_41, .inr (1, [.int 0, .ref dz, .int 0])), (kl, .inr (1, [.int 0, .ref dz, .int 0])), (q_50, .inl (c_51, 3, .inr (.inr (.inr (.inr (va_up (va_up (va_up (fun _ => none) (0 : Int32).toNatClampNeg (some r_53)) (1 : Int32).toNatClampNeg (some r_56)) (2 : Int32).toNatClampNeg (some r_59))))))), (r_59, .inl (q_54, 4, .inl zi)), (mm, .inr (10, [.int 0, .ref pl, .ref ig, .ref sl, .ref kl, .int 0, .int 0, .int 0])), (pl, .inr (1, [.int 0, .ref dz, .int 0])), (sl, .inr (1, [.int 0, .ref dz, .int 0])), (r_53, .inl (q_54, 4, .inl zi)), (r_56, .inl (q_54, 4, .inl zi))] := hD
  refine W.widen (k := 31) (n := 195) (Nat.le_refl _) (Nat.le_refl _) ?_
  have hw : r_134 = 0 := hw
  subst hw
  refine lv_i2l (v := 0) hx hb dX8_digest_521 (by decide) ?_
  refine lv_ladd hx hb dX8_digest_522 ?_
  refine lv_topl (fun y_135 ey_135 => ?_)
  obtain rfl : y_135 = 4243670123980453060 := ey_135.trans (by decide)
  refine lv_lstore_n (lv' := [(1, .long 4243670123980453060), (9, .ref r_56), (8, .int 1), (7, .int 3), (6, .ref q_50), (5, .int 1), (4, .ref q_50), (3, .ref q_41), (0, .ref mm)]) hx hb dX8_digest_523 rfl hl (by decide) rfl (fun ls hl => ?_)
  refine lv_iinc (k := 2) (v := 2) (lv' := [(8, .int 2), (1, .long 4243670123980453060), (9, .ref r_56), (7, .int 3), (6, .ref q_50), (5, .int 1), (4, .ref q_50), (3, .ref q_41), (0, .ref mm)]) hx hb dX8_digest_524 hl rfl (by decide) (by decide) rfl (fun ls hl => ?_)
  refine lv_goto (tgt := 480) hx hb dX8_digest_527 (by decide) ?_
  refine lv_iload hx hb dX8_digest_480 (lv_at hl 0 rfl) ?_
  refine lv_iload hx hb dX8_digest_482 (lv_at hl 3 rfl) ?_
  refine lv_icmp_ge (tgt := 530) hx hb dX8_digest_484 (by decide) (fun h9 => absurd h9 (by decide)) (fun _ => ?_)
  refine lv_aload hx hb dX8_digest_487 (lv_at hl 4 rfl) ?_
  refine lv_iload hx hb dX8_digest_489 (lv_at hl 0 rfl) ?_
  refine gd_ld (v := .ref r_59) hx hb hK hP 2 0 rfl rfl (by unfold vp_in; decide) rfl dX8_digest_491 ?_
  refine lv_astore (lv' := [(9, .ref r_59), (8, .int 2), (1, .long 4243670123980453060), (7, .int 3), (6, .ref q_50), (5, .int 1), (4, .ref q_50), (3, .ref q_41), (0, .ref mm)]) hx hb dX8_digest_492 hl (by decide) rfl (fun ls hl => ?_)
  refine lv_lload_n hx hb dX8_digest_494 rfl (lv_at hl 2 rfl) ?_
  refine lv_ldc2 (v := 31) hx hb hown (hts (.constantLong RX8 232 31) (by decide +kernel)) dX8_digest_495 ?_
  refine lv_lmul hx hb dX8_digest_498 ?_
  refine lv_topl (fun y_136 ey_136 => ?_)
  obtain rfl : y_136 = 2426565327427183548 := ey_136.trans (by decide)
  refine lv_aload hx hb dX8_digest_499 (lv_at hl 0 rfl) ?_
  refine lv_iload hx hb dX8_digest_501 (lv_at hl 5 rfl) ?_
  refine va_iald hx hb hK hP 3 1 rfl rfl (by unfold vp_in; decide) dX8_digest_503 ?_
  refine lv_topi (fun y_137 ey_137 => ?_)
  obtain rfl : y_137 = 0 := ey_137.trans (by rfl)
  refine lv_i2l (v := 0) hx hb dX8_digest_504 (by decide) ?_
  refine lv_ladd hx hb dX8_digest_505 ?_
  refine lv_topl (fun y_138 ey_138 => ?_)
  obtain rfl : y_138 = 2426565327427183548 := ey_138.trans (by decide)
  refine lv_lstore_n (lv' := [(1, .long 2426565327427183548), (9, .ref r_59), (8, .int 2), (7, .int 3), (6, .ref q_50), (5, .int 1), (4, .ref q_50), (3, .ref q_41), (0, .ref mm)]) hx hb dX8_digest_506 rfl hl (by decide) rfl (fun ls hl => ?_)
  refine lv_lload_n hx hb dX8_digest_507 rfl (lv_at hl 0 rfl) ?_
  refine lv_ldc2 (v := 31) hx hb hown (hts (.constantLong RX8 232 31) (by decide +kernel)) dX8_digest_508 ?_
  refine lv_lmul hx hb dX8_digest_511 ?_
  refine lv_topl (fun y_139 ey_139 => ?_)
  obtain rfl : y_139 = 1436548855404483524 := ey_139.trans (by decide)
  refine lv_aload hx hb dX8_digest_512 (lv_at hl 1 rfl) ?_
  refine lv_iload hx hb dX8_digest_514 (lv_at hl 5 rfl) ?_
  refine lv_bipush (v := 20) hx hb dX8_digest_516 (by decide) ?_
  have hPc := hP.sub (ws' := [(r_59, .inl (q_54, 4, .inl zi))]) [3] rfl
  have hDc := hD.sub (ws' := [(r_59, .inl (q_54, 4, .inl zi))]) [3] (by decide) rfl
  have hKc := hK.sub (tys' := [(q_54, .int)]) [1] rfl
  have hFc := va_free (wc := [(r_59, .inl (q_54, 4, .inl zi))]) hD hS hA [3] rfl
  refine va_calli (va_runS (As := [.ref r_59, .int 1, .int 20]) (rest := [.long 1436548855404483524]) ⟨hx, hb, hml, hown, hts⟩ (c_X8_swingsNow l dC dI r_59 q_54 (1 : Int32) (20 : Int32) _ (by decide) (by decide)) (va_cwS 3 hts gX8_digest_X8_swingsNow rfl rfl rfl (by decide +kernel) ⟨Nat.le_of_ble_eq_true rfl, Nat.le_of_ble_eq_true rfl⟩) ⟨pr_blind, fun U hU hW => ⟨rfl, pr_mk hU hW hPc hKc hDc⟩⟩ rfl rfl hl.1 rfl (lv_room (Nat.le_of_ble_eq_true rfl)) dX8_digest_518 ⟨Nat.le_of_ble_eq_true rfl, Nat.le_of_ble_eq_true rfl⟩) hS (fun q _ h => hFc q h) hFc (fun r_141 u_140 t H1 locs ht hvm hw hB hz1 hk1 hS => ?_)
  obtain ⟨hP1, hK1, hD1⟩ := hB
  rw [ht] at hP1
  obtain ⟨hP, hD⟩ := va_join (wr := [(q_41, .inr (1, [.int 0, .ref dz, .int 0])), (kl, .inr (1, [.int 0, .ref dz, .int 0])), (q_50, .inl (c_51, 3, .inr (.inr (.inr (.inr (va_up (va_up (va_up (fun _ => none) (0 : Int32).toNatClampNeg (some r_53)) (1 : Int32).toNatClampNeg (some r_56)) (2 : Int32).toNatClampNeg (some r_59))))))), (mm, .inr (10, [.int 0, .ref pl, .ref ig, .ref sl, .ref kl, .int 0, .int 0, .int 0])), (pl, .inr (1, [.int 0, .ref dz, .int 0])), (sl, .inr (1, [.int 0, .ref dz, .int 0])), (r_53, .inl (q_54, 4, .inl zi)), (r_56, .inl (q_54, 4, .inl zi))]) (w1 := [(r_59, .inl (q_54, 4, .inl zi))]) hP hD [3] [0, 1, 2, 4, 5, 6, 7, 8] rfl rfl (by decide) (by decide) hk1 hFc hP1 hD1
  generalize H1 = H at hP hS ⊢
  have hP : va_P (dC, dI) vwCl [(q_41, .inr (1, [.int 0, .ref dz, .int 0])), (kl, .inr (1, [.int 0, .ref dz, .int 0])), (q_50, .inl (c_51, 3, .inr (.inr (.inr (.inr (va_up (va_up (va_up (fun _ => none) (0 : Int32).toNatClampNeg (some r_53)) (1 : Int32).toNatClampNeg (some r_56)) (2 : Int32).toNatClampNeg (some r_59))))))), (mm, .inr (10, [.int 0, .ref pl, .ref ig, .ref sl, .ref kl, .int 0, .int 0, .int 0])), (pl, .inr (1, [.int 0, .ref dz, .int 0])), (sl, .inr (1, [.int 0, .ref dz, .int 0])), (r_53, .inl (q_54, 4, .inl zi)), (r_56, .inl (q_54, 4, .inl zi)), (r_59, .inl (q_54, 4, .inl zi))] H := hP
  have hD : va_D A [(q_41, .inr (1, [.int 0, .ref dz, .int 0])), (kl, .inr (1, [.int 0, .ref dz, .int 0])), (q_50, .inl (c_51, 3, .inr (.inr (.inr (.inr (va_up (va_up (va_up (fun _ => none) (0 : Int32).toNatClampNeg (some r_53)) (1 : Int32).toNatClampNeg (some r_56)) (2 : Int32).toNatClampNeg (some r_59))))))), (mm, .inr (10, [.int 0, .ref pl, .ref ig, .ref sl, .ref kl, .int 0, .int 0, .int 0])), (pl, .inr (1, [.int 0, .ref dz, .int 0])), (sl, .inr (1, [.int 0, .ref dz, .int 0])), (r_53, .inl (q_54, 4, .inl zi)), (r_56, .inl (q_54, 4, .inl zi)), (r_59, .inl (q_54, 4, .inl zi))] := hD
  refine W.widen (k := 31) (n := 195) (Nat.le_refl _) (Nat.le_refl _) ?_
  have hw : r_141 = 0 := hw
  subst hw
  refine lv_i2l (v := 0) hx hb dX8_digest_521 (by decide) ?_
  refine lv_ladd hx hb dX8_digest_522 ?_
  refine lv_topl (fun y_142 ey_142 => ?_)
  obtain rfl : y_142 = 1436548855404483524 := ey_142.trans (by decide)
  refine lv_lstore_n (lv' := [(1, .long 1436548855404483524), (9, .ref r_59), (8, .int 2), (7, .int 3), (6, .ref q_50), (5, .int 1), (4, .ref q_50), (3, .ref q_41), (0, .ref mm)]) hx hb dX8_digest_523 rfl hl (by decide) rfl (fun ls hl => ?_)
  refine lv_iinc (k := 2) (v := 3) (lv' := [(8, .int 3), (1, .long 1436548855404483524), (9, .ref r_59), (7, .int 3), (6, .ref q_50), (5, .int 1), (4, .ref q_50), (3, .ref q_41), (0, .ref mm)]) hx hb dX8_digest_524 hl rfl (by decide) (by decide) rfl (fun ls hl => ?_)
  refine lv_goto (tgt := 480) hx hb dX8_digest_527 (by decide) ?_
  refine lv_iload hx hb dX8_digest_480 (lv_at hl 0 rfl) ?_
  refine lv_iload hx hb dX8_digest_482 (lv_at hl 3 rfl) ?_
  refine lv_icmp_ge (tgt := 530) hx hb dX8_digest_484 (by decide) (fun _ => ?_) (fun h9 => absurd h9 (by decide))
  refine lv_iinc (k := 5) (v := 2) (lv' := [(5, .int 2), (8, .int 3), (1, .long 1436548855404483524), (9, .ref r_59), (7, .int 3), (6, .ref q_50), (4, .ref q_50), (3, .ref q_41), (0, .ref mm)]) hx hb dX8_digest_530 hl rfl (by decide) (by decide) rfl (fun ls hl => ?_)
  refine lv_goto (tgt := 431) hx hb dX8_digest_533 (by decide) ?_
  refine lv_iload hx hb dX8_digest_431 (lv_at hl 0 rfl) ?_
  refine lv_iconst (v := 4) hx hb dX8_digest_433 (by decide) ?_
  refine lv_icmp_ge (tgt := 536) hx hb dX8_digest_434 (by decide) (fun h9 => absurd h9 (by decide)) (fun _ => ?_)
  refine lv_iconst (v := 0) hx hb dX8_digest_437 (by decide) ?_
  refine lv_istore (lv' := [(6, .int 0), (5, .int 2), (8, .int 3), (1, .long 1436548855404483524), (9, .ref r_59), (7, .int 3), (4, .ref q_50), (3, .ref q_41), (0, .ref mm)]) hx hb dX8_digest_438 hl (by decide) rfl (fun ls hl => ?_)
  refine lv_iload hx hb dX8_digest_440 (lv_at hl 0 rfl) ?_
  refine lv_iconst (v := 4) hx hb dX8_digest_442 (by decide) ?_
  refine lv_icmp_gt (tgt := 468) hx hb dX8_digest_443 (by decide) (fun h9 => absurd h9 (by decide)) (fun _ => ?_)
  refine lv_lload_n hx hb dX8_digest_446 rfl (lv_at hl 3 rfl) ?_
  refine lv_ldc2 (v := 31) hx hb hown (hts (.constantLong RX8 232 31) (by decide +kernel)) dX8_digest_447 ?_
  refine lv_lmul hx hb dX8_digest_450 ?_
  refine lv_topl (fun y_143 ey_143 => ?_)
  obtain rfl : y_143 = 7639526370119886012 := ey_143.trans (by decide)
  refine lv_aload_n hx hb dX8_digest_451 rfl (lv_at hl 8 rfl) ?_
  refine lv_iload hx hb dX8_digest_452 (lv_at hl 1 rfl) ?_
  refine lv_iload hx hb dX8_digest_454 (lv_at hl 0 rfl) ?_
  have hPc := hP.sub (ws' := [(mm, .inr (10, [.int 0, .ref pl, .ref ig, .ref sl, .ref kl, .int 0, .int 0, .int 0])), (pl, .inr (1, [.int 0, .ref dz, .int 0])), (sl, .inr (1, [.int 0, .ref dz, .int 0]))]) [3, 4, 5] rfl
  have hDc := hD.sub (ws' := [(mm, .inr (10, [.int 0, .ref pl, .ref ig, .ref sl, .ref kl, .int 0, .int 0, .int 0])), (pl, .inr (1, [.int 0, .ref dz, .int 0])), (sl, .inr (1, [.int 0, .ref dz, .int 0]))]) [3, 4, 5] (by decide) rfl
  have hKc := hK.sub (tys' := []) [] rfl
  have hFc := va_free (wc := [(mm, .inr (10, [.int 0, .ref pl, .ref ig, .ref sl, .ref kl, .int 0, .int 0, .int 0])), (pl, .inr (1, [.int 0, .ref dz, .int 0])), (sl, .inr (1, [.int 0, .ref dz, .int 0]))]) hD hS hA [3, 4, 5] rfl
  refine va_calli (va_runV (As := [.int 2, .int 0]) (rest := [.long 7639526370119886012]) ⟨hx, hb, hml, hown, hts⟩ (c_X8_partyNow l dC dI mm pl ig sl kl dz (2 : Int32) (0 : Int32) _ (by unfold vp_in; decide)) (cwV 2 hts gX8_digest_X8_partyNow rfl rfl rfl (by decide +kernel) ⟨Nat.le_of_ble_eq_true rfl, Nat.le_of_ble_eq_true rfl⟩) ⟨pe_blind mo_bl, va_recv hKc hPc (ci := 10) (q0 := 0) rfl rfl, fun U hU hW => ⟨rfl, pr_mk hU hW hPc hKc hDc, mo_mk hW hXs.1⟩⟩ rfl rfl hl.1 rfl (lv_room (Nat.le_of_ble_eq_true rfl)) dX8_digest_456 ⟨Nat.le_of_ble_eq_true rfl, Nat.le_of_ble_eq_true rfl⟩) hS (fun q _ h => hFc q h) hFc (fun r_145 u_144 t H1 locs ht hvm hw hB hz1 hk1 hS => ?_)
  obtain ⟨hP1, hK1, hD1⟩ := hB
  rw [ht] at hP1
  obtain ⟨hP, hD⟩ := va_join (wr := [(q_41, .inr (1, [.int 0, .ref dz, .int 0])), (kl, .inr (1, [.int 0, .ref dz, .int 0])), (q_50, .inl (c_51, 3, .inr (.inr (.inr (.inr (va_up (va_up (va_up (fun _ => none) (0 : Int32).toNatClampNeg (some r_53)) (1 : Int32).toNatClampNeg (some r_56)) (2 : Int32).toNatClampNeg (some r_59))))))), (r_53, .inl (q_54, 4, .inl zi)), (r_56, .inl (q_54, 4, .inl zi)), (r_59, .inl (q_54, 4, .inl zi))]) (w1 := [(mm, .inr (10, [.int 0, .ref pl, .ref ig, .ref sl, .ref kl, .int 0, .int 0, .int 0])), (pl, .inr (1, [.int 0, .ref dz, .int 0])), (sl, .inr (1, [.int 0, .ref dz, .int 0]))]) hP hD [3, 4, 5] [0, 1, 2, 6, 7, 8] rfl rfl (by decide) (by decide) hk1 hFc hP1 hD1
  generalize H1 = H at hP hS ⊢
  have hP : va_P (dC, dI) vwCl [(q_41, .inr (1, [.int 0, .ref dz, .int 0])), (kl, .inr (1, [.int 0, .ref dz, .int 0])), (q_50, .inl (c_51, 3, .inr (.inr (.inr (.inr (va_up (va_up (va_up (fun _ => none) (0 : Int32).toNatClampNeg (some r_53)) (1 : Int32).toNatClampNeg (some r_56)) (2 : Int32).toNatClampNeg (some r_59))))))), (r_53, .inl (q_54, 4, .inl zi)), (r_56, .inl (q_54, 4, .inl zi)), (r_59, .inl (q_54, 4, .inl zi)), (mm, .inr (10, [.int 0, .ref pl, .ref ig, .ref sl, .ref kl, .int 0, .int 0, .int 0])), (pl, .inr (1, [.int 0, .ref dz, .int 0])), (sl, .inr (1, [.int 0, .ref dz, .int 0]))] H := hP
  have hD : va_D A [(q_41, .inr (1, [.int 0, .ref dz, .int 0])), (kl, .inr (1, [.int 0, .ref dz, .int 0])), (q_50, .inl (c_51, 3, .inr (.inr (.inr (.inr (va_up (va_up (va_up (fun _ => none) (0 : Int32).toNatClampNeg (some r_53)) (1 : Int32).toNatClampNeg (some r_56)) (2 : Int32).toNatClampNeg (some r_59))))))), (r_53, .inl (q_54, 4, .inl zi)), (r_56, .inl (q_54, 4, .inl zi)), (r_59, .inl (q_54, 4, .inl zi)), (mm, .inr (10, [.int 0, .ref pl, .ref ig, .ref sl, .ref kl, .int 0, .int 0, .int 0])), (pl, .inr (1, [.int 0, .ref dz, .int 0])), (sl, .inr (1, [.int 0, .ref dz, .int 0]))] := hD
  refine W.widen (k := 32) (n := 200) (Nat.le_of_ble_eq_true rfl) (Nat.le_of_ble_eq_true rfl) ?_
  have hw : r_145 = 0 := hw
  subst hw
  refine lv_i2l (v := 0) hx hb dX8_digest_459 (by decide) ?_
  refine lv_ladd hx hb dX8_digest_460 ?_
  refine lv_topl (fun y_146 ey_146 => ?_)
  obtain rfl : y_146 = 7639526370119886012 := ey_146.trans (by decide)
  refine lv_lstore_n (lv' := [(1, .long 7639526370119886012), (6, .int 0), (5, .int 2), (8, .int 3), (9, .ref r_59), (7, .int 3), (4, .ref q_50), (3, .ref q_41), (0, .ref mm)]) hx hb dX8_digest_461 rfl hl (by decide) rfl (fun ls hl => ?_)
  refine lv_iinc (k := 1) (v := 1) (lv' := [(6, .int 1), (1, .long 7639526370119886012), (5, .int 2), (8, .int 3), (9, .ref r_59), (7, .int 3), (4, .ref q_50), (3, .ref q_41), (0, .ref mm)]) hx hb dX8_digest_462 hl rfl (by decide) (by decide) rfl (fun ls hl => ?_)
  refine lv_goto (tgt := 440) hx hb dX8_digest_465 (by decide) ?_
  refine lv_iload hx hb dX8_digest_440 (lv_at hl 0 rfl) ?_
  refine lv_iconst (v := 4) hx hb dX8_digest_442 (by decide) ?_
  refine lv_icmp_gt (tgt := 468) hx hb dX8_digest_443 (by decide) (fun h9 => absurd h9 (by decide)) (fun _ => ?_)
  refine lv_lload_n hx hb dX8_digest_446 rfl (lv_at hl 1 rfl) ?_
  refine lv_ldc2 (v := 31) hx hb hown (hts (.constantLong RX8 232 31) (by decide +kernel)) dX8_digest_447 ?_
  refine lv_lmul hx hb dX8_digest_450 ?_
  refine lv_topl (fun y_147 ey_147 => ?_)
  obtain rfl : y_147 = (-2982355484507704636) := ey_147.trans (by decide)
  refine lv_aload_n hx hb dX8_digest_451 rfl (lv_at hl 8 rfl) ?_
  refine lv_iload hx hb dX8_digest_452 (lv_at hl 2 rfl) ?_
  refine lv_iload hx hb dX8_digest_454 (lv_at hl 0 rfl) ?_
  have hPc := hP.sub (ws' := [(mm, .inr (10, [.int 0, .ref pl, .ref ig, .ref sl, .ref kl, .int 0, .int 0, .int 0])), (pl, .inr (1, [.int 0, .ref dz, .int 0])), (sl, .inr (1, [.int 0, .ref dz, .int 0]))]) [6, 7, 8] rfl
  have hDc := hD.sub (ws' := [(mm, .inr (10, [.int 0, .ref pl, .ref ig, .ref sl, .ref kl, .int 0, .int 0, .int 0])), (pl, .inr (1, [.int 0, .ref dz, .int 0])), (sl, .inr (1, [.int 0, .ref dz, .int 0]))]) [6, 7, 8] (by decide) rfl
  have hKc := hK.sub (tys' := []) [] rfl
  have hFc := va_free (wc := [(mm, .inr (10, [.int 0, .ref pl, .ref ig, .ref sl, .ref kl, .int 0, .int 0, .int 0])), (pl, .inr (1, [.int 0, .ref dz, .int 0])), (sl, .inr (1, [.int 0, .ref dz, .int 0]))]) hD hS hA [6, 7, 8] rfl
  refine va_calli (va_runV (As := [.int 2, .int 1]) (rest := [.long (-2982355484507704636)]) ⟨hx, hb, hml, hown, hts⟩ (c_X8_partyNow l dC dI mm pl ig sl kl dz (2 : Int32) (1 : Int32) _ (by unfold vp_in; decide)) (cwV 2 hts gX8_digest_X8_partyNow rfl rfl rfl (by decide +kernel) ⟨Nat.le_of_ble_eq_true rfl, Nat.le_of_ble_eq_true rfl⟩) ⟨pe_blind mo_bl, va_recv hKc hPc (ci := 10) (q0 := 0) rfl rfl, fun U hU hW => ⟨rfl, pr_mk hU hW hPc hKc hDc, mo_mk hW hXs.1⟩⟩ rfl rfl hl.1 rfl (lv_room (Nat.le_of_ble_eq_true rfl)) dX8_digest_456 ⟨Nat.le_of_ble_eq_true rfl, Nat.le_of_ble_eq_true rfl⟩) hS (fun q _ h => hFc q h) hFc (fun r_149 u_148 t H1 locs ht hvm hw hB hz1 hk1 hS => ?_)
  obtain ⟨hP1, hK1, hD1⟩ := hB
  rw [ht] at hP1
  obtain ⟨hP, hD⟩ := va_join (wr := [(q_41, .inr (1, [.int 0, .ref dz, .int 0])), (kl, .inr (1, [.int 0, .ref dz, .int 0])), (q_50, .inl (c_51, 3, .inr (.inr (.inr (.inr (va_up (va_up (va_up (fun _ => none) (0 : Int32).toNatClampNeg (some r_53)) (1 : Int32).toNatClampNeg (some r_56)) (2 : Int32).toNatClampNeg (some r_59))))))), (r_53, .inl (q_54, 4, .inl zi)), (r_56, .inl (q_54, 4, .inl zi)), (r_59, .inl (q_54, 4, .inl zi))]) (w1 := [(mm, .inr (10, [.int 0, .ref pl, .ref ig, .ref sl, .ref kl, .int 0, .int 0, .int 0])), (pl, .inr (1, [.int 0, .ref dz, .int 0])), (sl, .inr (1, [.int 0, .ref dz, .int 0]))]) hP hD [6, 7, 8] [0, 1, 2, 3, 4, 5] rfl rfl (by decide) (by decide) hk1 hFc hP1 hD1
  generalize H1 = H at hP hS ⊢
  have hP : va_P (dC, dI) vwCl [(q_41, .inr (1, [.int 0, .ref dz, .int 0])), (kl, .inr (1, [.int 0, .ref dz, .int 0])), (q_50, .inl (c_51, 3, .inr (.inr (.inr (.inr (va_up (va_up (va_up (fun _ => none) (0 : Int32).toNatClampNeg (some r_53)) (1 : Int32).toNatClampNeg (some r_56)) (2 : Int32).toNatClampNeg (some r_59))))))), (r_53, .inl (q_54, 4, .inl zi)), (r_56, .inl (q_54, 4, .inl zi)), (r_59, .inl (q_54, 4, .inl zi)), (mm, .inr (10, [.int 0, .ref pl, .ref ig, .ref sl, .ref kl, .int 0, .int 0, .int 0])), (pl, .inr (1, [.int 0, .ref dz, .int 0])), (sl, .inr (1, [.int 0, .ref dz, .int 0]))] H := hP
  have hD : va_D A [(q_41, .inr (1, [.int 0, .ref dz, .int 0])), (kl, .inr (1, [.int 0, .ref dz, .int 0])), (q_50, .inl (c_51, 3, .inr (.inr (.inr (.inr (va_up (va_up (va_up (fun _ => none) (0 : Int32).toNatClampNeg (some r_53)) (1 : Int32).toNatClampNeg (some r_56)) (2 : Int32).toNatClampNeg (some r_59))))))), (r_53, .inl (q_54, 4, .inl zi)), (r_56, .inl (q_54, 4, .inl zi)), (r_59, .inl (q_54, 4, .inl zi)), (mm, .inr (10, [.int 0, .ref pl, .ref ig, .ref sl, .ref kl, .int 0, .int 0, .int 0])), (pl, .inr (1, [.int 0, .ref dz, .int 0])), (sl, .inr (1, [.int 0, .ref dz, .int 0]))] := hD
  refine W.widen (k := 33) (n := 205) (Nat.le_of_ble_eq_true rfl) (Nat.le_of_ble_eq_true rfl) ?_
  have hw : r_149 = 0 := hw
  subst hw
  refine lv_i2l (v := 0) hx hb dX8_digest_459 (by decide) ?_
  refine lv_ladd hx hb dX8_digest_460 ?_
  refine lv_topl (fun y_150 ey_150 => ?_)
  obtain rfl : y_150 = (-2982355484507704636) := ey_150.trans (by decide)
  refine lv_lstore_n (lv' := [(1, .long (-2982355484507704636)), (6, .int 1), (5, .int 2), (8, .int 3), (9, .ref r_59), (7, .int 3), (4, .ref q_50), (3, .ref q_41), (0, .ref mm)]) hx hb dX8_digest_461 rfl hl (by decide) rfl (fun ls hl => ?_)
  refine lv_iinc (k := 1) (v := 2) (lv' := [(6, .int 2), (1, .long (-2982355484507704636)), (5, .int 2), (8, .int 3), (9, .ref r_59), (7, .int 3), (4, .ref q_50), (3, .ref q_41), (0, .ref mm)]) hx hb dX8_digest_462 hl rfl (by decide) (by decide) rfl (fun ls hl => ?_)
  refine lv_goto (tgt := 440) hx hb dX8_digest_465 (by decide) ?_
  refine lv_iload hx hb dX8_digest_440 (lv_at hl 0 rfl) ?_
  refine lv_iconst (v := 4) hx hb dX8_digest_442 (by decide) ?_
  refine lv_icmp_gt (tgt := 468) hx hb dX8_digest_443 (by decide) (fun h9 => absurd h9 (by decide)) (fun _ => ?_)
  refine lv_lload_n hx hb dX8_digest_446 rfl (lv_at hl 1 rfl) ?_
  refine lv_ldc2 (v := 31) hx hb hown (hts (.constantLong RX8 232 31) (by decide +kernel)) dX8_digest_447 ?_
  refine lv_lmul hx hb dX8_digest_450 ?_
  refine lv_topl (fun y_151 ey_151 => ?_)
  obtain rfl : y_151 = (-219299651191085636) := ey_151.trans (by decide)
  refine lv_aload_n hx hb dX8_digest_451 rfl (lv_at hl 8 rfl) ?_
  refine lv_iload hx hb dX8_digest_452 (lv_at hl 2 rfl) ?_
  refine lv_iload hx hb dX8_digest_454 (lv_at hl 0 rfl) ?_
  have hPc := hP.sub (ws' := [(mm, .inr (10, [.int 0, .ref pl, .ref ig, .ref sl, .ref kl, .int 0, .int 0, .int 0])), (pl, .inr (1, [.int 0, .ref dz, .int 0])), (sl, .inr (1, [.int 0, .ref dz, .int 0]))]) [6, 7, 8] rfl
  have hDc := hD.sub (ws' := [(mm, .inr (10, [.int 0, .ref pl, .ref ig, .ref sl, .ref kl, .int 0, .int 0, .int 0])), (pl, .inr (1, [.int 0, .ref dz, .int 0])), (sl, .inr (1, [.int 0, .ref dz, .int 0]))]) [6, 7, 8] (by decide) rfl
  have hKc := hK.sub (tys' := []) [] rfl
  have hFc := va_free (wc := [(mm, .inr (10, [.int 0, .ref pl, .ref ig, .ref sl, .ref kl, .int 0, .int 0, .int 0])), (pl, .inr (1, [.int 0, .ref dz, .int 0])), (sl, .inr (1, [.int 0, .ref dz, .int 0]))]) hD hS hA [6, 7, 8] rfl
  refine va_calli (va_runV (As := [.int 2, .int 2]) (rest := [.long (-219299651191085636)]) ⟨hx, hb, hml, hown, hts⟩ (c_X8_partyNow l dC dI mm pl ig sl kl dz (2 : Int32) (2 : Int32) _ (by unfold vp_in; decide)) (cwV 2 hts gX8_digest_X8_partyNow rfl rfl rfl (by decide +kernel) ⟨Nat.le_of_ble_eq_true rfl, Nat.le_of_ble_eq_true rfl⟩) ⟨pe_blind mo_bl, va_recv hKc hPc (ci := 10) (q0 := 0) rfl rfl, fun U hU hW => ⟨rfl, pr_mk hU hW hPc hKc hDc, mo_mk hW hXs.1⟩⟩ rfl rfl hl.1 rfl (lv_room (Nat.le_of_ble_eq_true rfl)) dX8_digest_456 ⟨Nat.le_of_ble_eq_true rfl, Nat.le_of_ble_eq_true rfl⟩) hS (fun q _ h => hFc q h) hFc (fun r_153 u_152 t H1 locs ht hvm hw hB hz1 hk1 hS => ?_)
  obtain ⟨hP1, hK1, hD1⟩ := hB
  rw [ht] at hP1
  obtain ⟨hP, hD⟩ := va_join (wr := [(q_41, .inr (1, [.int 0, .ref dz, .int 0])), (kl, .inr (1, [.int 0, .ref dz, .int 0])), (q_50, .inl (c_51, 3, .inr (.inr (.inr (.inr (va_up (va_up (va_up (fun _ => none) (0 : Int32).toNatClampNeg (some r_53)) (1 : Int32).toNatClampNeg (some r_56)) (2 : Int32).toNatClampNeg (some r_59))))))), (r_53, .inl (q_54, 4, .inl zi)), (r_56, .inl (q_54, 4, .inl zi)), (r_59, .inl (q_54, 4, .inl zi))]) (w1 := [(mm, .inr (10, [.int 0, .ref pl, .ref ig, .ref sl, .ref kl, .int 0, .int 0, .int 0])), (pl, .inr (1, [.int 0, .ref dz, .int 0])), (sl, .inr (1, [.int 0, .ref dz, .int 0]))]) hP hD [6, 7, 8] [0, 1, 2, 3, 4, 5] rfl rfl (by decide) (by decide) hk1 hFc hP1 hD1
  generalize H1 = H at hP hS ⊢
  have hP : va_P (dC, dI) vwCl [(q_41, .inr (1, [.int 0, .ref dz, .int 0])), (kl, .inr (1, [.int 0, .ref dz, .int 0])), (q_50, .inl (c_51, 3, .inr (.inr (.inr (.inr (va_up (va_up (va_up (fun _ => none) (0 : Int32).toNatClampNeg (some r_53)) (1 : Int32).toNatClampNeg (some r_56)) (2 : Int32).toNatClampNeg (some r_59))))))), (r_53, .inl (q_54, 4, .inl zi)), (r_56, .inl (q_54, 4, .inl zi)), (r_59, .inl (q_54, 4, .inl zi)), (mm, .inr (10, [.int 0, .ref pl, .ref ig, .ref sl, .ref kl, .int 0, .int 0, .int 0])), (pl, .inr (1, [.int 0, .ref dz, .int 0])), (sl, .inr (1, [.int 0, .ref dz, .int 0]))] H := hP
  have hD : va_D A [(q_41, .inr (1, [.int 0, .ref dz, .int 0])), (kl, .inr (1, [.int 0, .ref dz, .int 0])), (q_50, .inl (c_51, 3, .inr (.inr (.inr (.inr (va_up (va_up (va_up (fun _ => none) (0 : Int32).toNatClampNeg (some r_53)) (1 : Int32).toNatClampNeg (some r_56)) (2 : Int32).toNatClampNeg (some r_59))))))), (r_53, .inl (q_54, 4, .inl zi)), (r_56, .inl (q_54, 4, .inl zi)), (r_59, .inl (q_54, 4, .inl zi)), (mm, .inr (10, [.int 0, .ref pl, .ref ig, .ref sl, .ref kl, .int 0, .int 0, .int 0])), (pl, .inr (1, [.int 0, .ref dz, .int 0])), (sl, .inr (1, [.int 0, .ref dz, .int 0]))] := hD
  refine W.widen (k := 34) (n := 210) (Nat.le_of_ble_eq_true rfl) (Nat.le_of_ble_eq_true rfl) ?_
  have hw : r_153 = 0 := hw
  subst hw
  refine lv_i2l (v := 0) hx hb dX8_digest_459 (by decide) ?_
  refine lv_ladd hx hb dX8_digest_460 ?_
  refine lv_topl (fun y_154 ey_154 => ?_)
  obtain rfl : y_154 = (-219299651191085636) := ey_154.trans (by decide)
  refine lv_lstore_n (lv' := [(1, .long (-219299651191085636)), (6, .int 2), (5, .int 2), (8, .int 3), (9, .ref r_59), (7, .int 3), (4, .ref q_50), (3, .ref q_41), (0, .ref mm)]) hx hb dX8_digest_461 rfl hl (by decide) rfl (fun ls hl => ?_)
  refine lv_iinc (k := 1) (v := 3) (lv' := [(6, .int 3), (1, .long (-219299651191085636)), (5, .int 2), (8, .int 3), (9, .ref r_59), (7, .int 3), (4, .ref q_50), (3, .ref q_41), (0, .ref mm)]) hx hb dX8_digest_462 hl rfl (by decide) (by decide) rfl (fun ls hl => ?_)
  refine lv_goto (tgt := 440) hx hb dX8_digest_465 (by decide) ?_
  refine lv_iload hx hb dX8_digest_440 (lv_at hl 0 rfl) ?_
  refine lv_iconst (v := 4) hx hb dX8_digest_442 (by decide) ?_
  refine lv_icmp_gt (tgt := 468) hx hb dX8_digest_443 (by decide) (fun h9 => absurd h9 (by decide)) (fun _ => ?_)
  refine lv_lload_n hx hb dX8_digest_446 rfl (lv_at hl 1 rfl) ?_
  refine lv_ldc2 (v := 31) hx hb hown (hts (.constantLong RX8 232 31) (by decide +kernel)) dX8_digest_447 ?_
  refine lv_lmul hx hb dX8_digest_450 ?_
  refine lv_topl (fun y_155 ey_155 => ?_)
  obtain rfl : y_155 = (-6798289186923654716) := ey_155.trans (by decide)
  refine lv_aload_n hx hb dX8_digest_451 rfl (lv_at hl 8 rfl) ?_
  refine lv_iload hx hb dX8_digest_452 (lv_at hl 2 rfl) ?_
  refine lv_iload hx hb dX8_digest_454 (lv_at hl 0 rfl) ?_
  have hPc := hP.sub (ws' := [(mm, .inr (10, [.int 0, .ref pl, .ref ig, .ref sl, .ref kl, .int 0, .int 0, .int 0])), (pl, .inr (1, [.int 0, .ref dz, .int 0])), (sl, .inr (1, [.int 0, .ref dz, .int 0]))]) [6, 7, 8] rfl
  have hDc := hD.sub (ws' := [(mm, .inr (10, [.int 0, .ref pl, .ref ig, .ref sl, .ref kl, .int 0, .int 0, .int 0])), (pl, .inr (1, [.int 0, .ref dz, .int 0])), (sl, .inr (1, [.int 0, .ref dz, .int 0]))]) [6, 7, 8] (by decide) rfl
  have hKc := hK.sub (tys' := []) [] rfl
  have hFc := va_free (wc := [(mm, .inr (10, [.int 0, .ref pl, .ref ig, .ref sl, .ref kl, .int 0, .int 0, .int 0])), (pl, .inr (1, [.int 0, .ref dz, .int 0])), (sl, .inr (1, [.int 0, .ref dz, .int 0]))]) hD hS hA [6, 7, 8] rfl
  refine va_calli (va_runV (As := [.int 2, .int 3]) (rest := [.long (-6798289186923654716)]) ⟨hx, hb, hml, hown, hts⟩ (c_X8_partyNow l dC dI mm pl ig sl kl dz (2 : Int32) (3 : Int32) _ (by unfold vp_in; decide)) (cwV 2 hts gX8_digest_X8_partyNow rfl rfl rfl (by decide +kernel) ⟨Nat.le_of_ble_eq_true rfl, Nat.le_of_ble_eq_true rfl⟩) ⟨pe_blind mo_bl, va_recv hKc hPc (ci := 10) (q0 := 0) rfl rfl, fun U hU hW => ⟨rfl, pr_mk hU hW hPc hKc hDc, mo_mk hW hXs.1⟩⟩ rfl rfl hl.1 rfl (lv_room (Nat.le_of_ble_eq_true rfl)) dX8_digest_456 ⟨Nat.le_of_ble_eq_true rfl, Nat.le_of_ble_eq_true rfl⟩) hS (fun q _ h => hFc q h) hFc (fun r_157 u_156 t H1 locs ht hvm hw hB hz1 hk1 hS => ?_)
  obtain ⟨hP1, hK1, hD1⟩ := hB
  rw [ht] at hP1
  obtain ⟨hP, hD⟩ := va_join (wr := [(q_41, .inr (1, [.int 0, .ref dz, .int 0])), (kl, .inr (1, [.int 0, .ref dz, .int 0])), (q_50, .inl (c_51, 3, .inr (.inr (.inr (.inr (va_up (va_up (va_up (fun _ => none) (0 : Int32).toNatClampNeg (some r_53)) (1 : Int32).toNatClampNeg (some r_56)) (2 : Int32).toNatClampNeg (some r_59))))))), (r_53, .inl (q_54, 4, .inl zi)), (r_56, .inl (q_54, 4, .inl zi)), (r_59, .inl (q_54, 4, .inl zi))]) (w1 := [(mm, .inr (10, [.int 0, .ref pl, .ref ig, .ref sl, .ref kl, .int 0, .int 0, .int 0])), (pl, .inr (1, [.int 0, .ref dz, .int 0])), (sl, .inr (1, [.int 0, .ref dz, .int 0]))]) hP hD [6, 7, 8] [0, 1, 2, 3, 4, 5] rfl rfl (by decide) (by decide) hk1 hFc hP1 hD1
  generalize H1 = H at hP hS ⊢
  have hP : va_P (dC, dI) vwCl [(q_41, .inr (1, [.int 0, .ref dz, .int 0])), (kl, .inr (1, [.int 0, .ref dz, .int 0])), (q_50, .inl (c_51, 3, .inr (.inr (.inr (.inr (va_up (va_up (va_up (fun _ => none) (0 : Int32).toNatClampNeg (some r_53)) (1 : Int32).toNatClampNeg (some r_56)) (2 : Int32).toNatClampNeg (some r_59))))))), (r_53, .inl (q_54, 4, .inl zi)), (r_56, .inl (q_54, 4, .inl zi)), (r_59, .inl (q_54, 4, .inl zi)), (mm, .inr (10, [.int 0, .ref pl, .ref ig, .ref sl, .ref kl, .int 0, .int 0, .int 0])), (pl, .inr (1, [.int 0, .ref dz, .int 0])), (sl, .inr (1, [.int 0, .ref dz, .int 0]))] H := hP
  have hD : va_D A [(q_41, .inr (1, [.int 0, .ref dz, .int 0])), (kl, .inr (1, [.int 0, .ref dz, .int 0])), (q_50, .inl (c_51, 3, .inr (.inr (.inr (.inr (va_up (va_up (va_up (fun _ => none) (0 : Int32).toNatClampNeg (some r_53)) (1 : Int32).toNatClampNeg (some r_56)) (2 : Int32).toNatClampNeg (some r_59))))))), (r_53, .inl (q_54, 4, .inl zi)), (r_56, .inl (q_54, 4, .inl zi)), (r_59, .inl (q_54, 4, .inl zi)), (mm, .inr (10, [.int 0, .ref pl, .ref ig, .ref sl, .ref kl, .int 0, .int 0, .int 0])), (pl, .inr (1, [.int 0, .ref dz, .int 0])), (sl, .inr (1, [.int 0, .ref dz, .int 0]))] := hD
  refine W.widen (k := 35) (n := 215) (Nat.le_of_ble_eq_true rfl) (Nat.le_of_ble_eq_true rfl) ?_
  have hw : r_157 = 0 := hw
  subst hw
  refine lv_i2l (v := 0) hx hb dX8_digest_459 (by decide) ?_
  refine lv_ladd hx hb dX8_digest_460 ?_
  refine lv_topl (fun y_158 ey_158 => ?_)
  obtain rfl : y_158 = (-6798289186923654716) := ey_158.trans (by decide)
  refine lv_lstore_n (lv' := [(1, .long (-6798289186923654716)), (6, .int 3), (5, .int 2), (8, .int 3), (9, .ref r_59), (7, .int 3), (4, .ref q_50), (3, .ref q_41), (0, .ref mm)]) hx hb dX8_digest_461 rfl hl (by decide) rfl (fun ls hl => ?_)
  refine lv_iinc (k := 1) (v := 4) (lv' := [(6, .int 4), (1, .long (-6798289186923654716)), (5, .int 2), (8, .int 3), (9, .ref r_59), (7, .int 3), (4, .ref q_50), (3, .ref q_41), (0, .ref mm)]) hx hb dX8_digest_462 hl rfl (by decide) (by decide) rfl (fun ls hl => ?_)
  refine lv_goto (tgt := 440) hx hb dX8_digest_465 (by decide) ?_
  refine lv_iload hx hb dX8_digest_440 (lv_at hl 0 rfl) ?_
  refine lv_iconst (v := 4) hx hb dX8_digest_442 (by decide) ?_
  refine lv_icmp_gt (tgt := 468) hx hb dX8_digest_443 (by decide) (fun h9 => absurd h9 (by decide)) (fun _ => ?_)
  refine lv_lload_n hx hb dX8_digest_446 rfl (lv_at hl 1 rfl) ?_
  refine lv_ldc2 (v := 31) hx hb hown (hts (.constantLong RX8 232 31) (by decide +kernel)) dX8_digest_447 ?_
  refine lv_lmul hx hb dX8_digest_450 ?_
  refine lv_topl (fun y_159 ey_159 => ?_)
  obtain rfl : y_159 = (-7832779983828228420) := ey_159.trans (by decide)
  refine lv_aload_n hx hb dX8_digest_451 rfl (lv_at hl 8 rfl) ?_
  refine lv_iload hx hb dX8_digest_452 (lv_at hl 2 rfl) ?_
  refine lv_iload hx hb dX8_digest_454 (lv_at hl 0 rfl) ?_
  have hPc := hP.sub (ws' := [(mm, .inr (10, [.int 0, .ref pl, .ref ig, .ref sl, .ref kl, .int 0, .int 0, .int 0])), (pl, .inr (1, [.int 0, .ref dz, .int 0])), (sl, .inr (1, [.int 0, .ref dz, .int 0]))]) [6, 7, 8] rfl
  have hDc := hD.sub (ws' := [(mm, .inr (10, [.int 0, .ref pl, .ref ig, .ref sl, .ref kl, .int 0, .int 0, .int 0])), (pl, .inr (1, [.int 0, .ref dz, .int 0])), (sl, .inr (1, [.int 0, .ref dz, .int 0]))]) [6, 7, 8] (by decide) rfl
  have hKc := hK.sub (tys' := []) [] rfl
  have hFc := va_free (wc := [(mm, .inr (10, [.int 0, .ref pl, .ref ig, .ref sl, .ref kl, .int 0, .int 0, .int 0])), (pl, .inr (1, [.int 0, .ref dz, .int 0])), (sl, .inr (1, [.int 0, .ref dz, .int 0]))]) hD hS hA [6, 7, 8] rfl
  refine va_calli (va_runV (As := [.int 2, .int 4]) (rest := [.long (-7832779983828228420)]) ⟨hx, hb, hml, hown, hts⟩ (c_X8_partyNow l dC dI mm pl ig sl kl dz (2 : Int32) (4 : Int32) _ (by unfold vp_in; decide)) (cwV 2 hts gX8_digest_X8_partyNow rfl rfl rfl (by decide +kernel) ⟨Nat.le_of_ble_eq_true rfl, Nat.le_of_ble_eq_true rfl⟩) ⟨pe_blind mo_bl, va_recv hKc hPc (ci := 10) (q0 := 0) rfl rfl, fun U hU hW => ⟨rfl, pr_mk hU hW hPc hKc hDc, mo_mk hW hXs.1⟩⟩ rfl rfl hl.1 rfl (lv_room (Nat.le_of_ble_eq_true rfl)) dX8_digest_456 ⟨Nat.le_of_ble_eq_true rfl, Nat.le_of_ble_eq_true rfl⟩) hS (fun q _ h => hFc q h) hFc (fun r_161 u_160 t H1 locs ht hvm hw hB hz1 hk1 hS => ?_)
  obtain ⟨hP1, hK1, hD1⟩ := hB
  rw [ht] at hP1
  obtain ⟨hP, hD⟩ := va_join (wr := [(q_41, .inr (1, [.int 0, .ref dz, .int 0])), (kl, .inr (1, [.int 0, .ref dz, .int 0])), (q_50, .inl (c_51, 3, .inr (.inr (.inr (.inr (va_up (va_up (va_up (fun _ => none) (0 : Int32).toNatClampNeg (some r_53)) (1 : Int32).toNatClampNeg (some r_56)) (2 : Int32).toNatClampNeg (some r_59))))))), (r_53, .inl (q_54, 4, .inl zi)), (r_56, .inl (q_54, 4, .inl zi)), (r_59, .inl (q_54, 4, .inl zi))]) (w1 := [(mm, .inr (10, [.int 0, .ref pl, .ref ig, .ref sl, .ref kl, .int 0, .int 0, .int 0])), (pl, .inr (1, [.int 0, .ref dz, .int 0])), (sl, .inr (1, [.int 0, .ref dz, .int 0]))]) hP hD [6, 7, 8] [0, 1, 2, 3, 4, 5] rfl rfl (by decide) (by decide) hk1 hFc hP1 hD1
  generalize H1 = H at hP hS ⊢
  have hP : va_P (dC, dI) vwCl [(q_41, .inr (1, [.int 0, .ref dz, .int 0])), (kl, .inr (1, [.int 0, .ref dz, .int 0])), (q_50, .inl (c_51, 3, .inr (.inr (.inr (.inr (va_up (va_up (va_up (fun _ => none) (0 : Int32).toNatClampNeg (some r_53)) (1 : Int32).toNatClampNeg (some r_56)) (2 : Int32).toNatClampNeg (some r_59))))))), (r_53, .inl (q_54, 4, .inl zi)), (r_56, .inl (q_54, 4, .inl zi)), (r_59, .inl (q_54, 4, .inl zi)), (mm, .inr (10, [.int 0, .ref pl, .ref ig, .ref sl, .ref kl, .int 0, .int 0, .int 0])), (pl, .inr (1, [.int 0, .ref dz, .int 0])), (sl, .inr (1, [.int 0, .ref dz, .int 0]))] H := hP
  have hD : va_D A [(q_41, .inr (1, [.int 0, .ref dz, .int 0])), (kl, .inr (1, [.int 0, .ref dz, .int 0])), (q_50, .inl (c_51, 3, .inr (.inr (.inr (.inr (va_up (va_up (va_up (fun _ => none) (0 : Int32).toNatClampNeg (some r_53)) (1 : Int32).toNatClampNeg (some r_56)) (2 : Int32).toNatClampNeg (some r_59))))))), (r_53, .inl (q_54, 4, .inl zi)), (r_56, .inl (q_54, 4, .inl zi)), (r_59, .inl (q_54, 4, .inl zi)), (mm, .inr (10, [.int 0, .ref pl, .ref ig, .ref sl, .ref kl, .int 0, .int 0, .int 0])), (pl, .inr (1, [.int 0, .ref dz, .int 0])), (sl, .inr (1, [.int 0, .ref dz, .int 0]))] := hD
  refine W.widen (k := 36) (n := 220) (Nat.le_of_ble_eq_true rfl) (Nat.le_of_ble_eq_true rfl) ?_
  have hw : r_161 = 0 := hw
  subst hw
  refine lv_i2l (v := 0) hx hb dX8_digest_459 (by decide) ?_
  refine lv_ladd hx hb dX8_digest_460 ?_
  refine lv_topl (fun y_162 ey_162 => ?_)
  obtain rfl : y_162 = (-7832779983828228420) := ey_162.trans (by decide)
  refine lv_lstore_n (lv' := [(1, .long (-7832779983828228420)), (6, .int 4), (5, .int 2), (8, .int 3), (9, .ref r_59), (7, .int 3), (4, .ref q_50), (3, .ref q_41), (0, .ref mm)]) hx hb dX8_digest_461 rfl hl (by decide) rfl (fun ls hl => ?_)
  refine lv_iinc (k := 1) (v := 5) (lv' := [(6, .int 5), (1, .long (-7832779983828228420)), (5, .int 2), (8, .int 3), (9, .ref r_59), (7, .int 3), (4, .ref q_50), (3, .ref q_41), (0, .ref mm)]) hx hb dX8_digest_462 hl rfl (by decide) (by decide) rfl (fun ls hl => ?_)
  refine lv_goto (tgt := 440) hx hb dX8_digest_465 (by decide) ?_
  refine lv_iload hx hb dX8_digest_440 (lv_at hl 0 rfl) ?_
  refine lv_iconst (v := 4) hx hb dX8_digest_442 (by decide) ?_
  refine lv_icmp_gt (tgt := 468) hx hb dX8_digest_443 (by decide) (fun _ => ?_) (fun h9 => absurd h9 (by decide))
  refine lv_aload hx hb dX8_digest_468 (lv_at hl 6 rfl) ?_
  refine lv_astore (lv' := [(6, .ref q_50), (1, .long (-7832779983828228420)), (5, .int 2), (8, .int 3), (9, .ref r_59), (7, .int 3), (4, .ref q_50), (3, .ref q_41), (0, .ref mm)]) hx hb dX8_digest_470 hl (by decide) rfl (fun ls hl => ?_)
  refine lv_aload hx hb dX8_digest_472 (lv_at hl 0 rfl) ?_
  refine va_alen (v := 3) hx hb hK hP 2 0 rfl rfl rfl dX8_digest_474 ?_
  refine lv_istore (lv' := [(7, .int 3), (6, .ref q_50), (1, .long (-7832779983828228420)), (5, .int 2), (8, .int 3), (9, .ref r_59), (4, .ref q_50), (3, .ref q_41), (0, .ref mm)]) hx hb dX8_digest_475 hl (by decide) rfl (fun ls hl => ?_)
  refine lv_iconst (v := 0) hx hb dX8_digest_477 (by decide) ?_
  refine lv_istore (lv' := [(8, .int 0), (7, .int 3), (6, .ref q_50), (1, .long (-7832779983828228420)), (5, .int 2), (9, .ref r_59), (4, .ref q_50), (3, .ref q_41), (0, .ref mm)]) hx hb dX8_digest_478 hl (by decide) rfl (fun ls hl => ?_)
  refine lv_iload hx hb dX8_digest_480 (lv_at hl 0 rfl) ?_
  refine lv_iload hx hb dX8_digest_482 (lv_at hl 1 rfl) ?_
  refine lv_icmp_ge (tgt := 530) hx hb dX8_digest_484 (by decide) (fun h9 => absurd h9 (by decide)) (fun _ => ?_)
  refine lv_aload hx hb dX8_digest_487 (lv_at hl 2 rfl) ?_
  refine lv_iload hx hb dX8_digest_489 (lv_at hl 0 rfl) ?_
  refine gd_ld (v := .ref r_53) hx hb hK hP 2 0 rfl rfl (by unfold vp_in; decide) rfl dX8_digest_491 ?_
  refine lv_astore (lv' := [(9, .ref r_53), (8, .int 0), (7, .int 3), (6, .ref q_50), (1, .long (-7832779983828228420)), (5, .int 2), (4, .ref q_50), (3, .ref q_41), (0, .ref mm)]) hx hb dX8_digest_492 hl (by decide) rfl (fun ls hl => ?_)
  refine lv_lload_n hx hb dX8_digest_494 rfl (lv_at hl 4 rfl) ?_
  refine lv_ldc2 (v := 31) hx hb hown (hts (.constantLong RX8 232 31) (by decide +kernel)) dX8_digest_495 ?_
  refine lv_lmul hx hb dX8_digest_498 ?_
  refine lv_topl (fun y_163 ey_163 => ?_)
  obtain rfl : y_163 = (-3008506540450910012) := ey_163.trans (by decide)
  refine lv_aload hx hb dX8_digest_499 (lv_at hl 0 rfl) ?_
  refine lv_iload hx hb dX8_digest_501 (lv_at hl 5 rfl) ?_
  refine va_iald hx hb hK hP 3 1 rfl rfl (by unfold vp_in; decide) dX8_digest_503 ?_
  refine lv_topi (fun y_164 ey_164 => ?_)
  obtain rfl : y_164 = 0 := ey_164.trans (by rfl)
  refine lv_i2l (v := 0) hx hb dX8_digest_504 (by decide) ?_
  refine lv_ladd hx hb dX8_digest_505 ?_
  refine lv_topl (fun y_165 ey_165 => ?_)
  obtain rfl : y_165 = (-3008506540450910012) := ey_165.trans (by decide)
  refine lv_lstore_n (lv' := [(1, .long (-3008506540450910012)), (9, .ref r_53), (8, .int 0), (7, .int 3), (6, .ref q_50), (5, .int 2), (4, .ref q_50), (3, .ref q_41), (0, .ref mm)]) hx hb dX8_digest_506 rfl hl (by decide) rfl (fun ls hl => ?_)
  refine lv_lload_n hx hb dX8_digest_507 rfl (lv_at hl 0 rfl) ?_
  refine lv_ldc2 (v := 31) hx hb hown (hts (.constantLong RX8 232 31) (by decide +kernel)) dX8_digest_508 ?_
  refine lv_lmul hx hb dX8_digest_511 ?_
  refine lv_topl (fun y_166 ey_166 => ?_)
  obtain rfl : y_166 = (-1029982385430452292) := ey_166.trans (by decide)
  refine lv_aload hx hb dX8_digest_512 (lv_at hl 1 rfl) ?_
  refine lv_iload hx hb dX8_digest_514 (lv_at hl 5 rfl) ?_
  refine lv_bipush (v := 20) hx hb dX8_digest_516 (by decide) ?_
  have hPc := hP.sub (ws' := [(r_53, .inl (q_54, 4, .inl zi))]) [3] rfl
  have hDc := hD.sub (ws' := [(r_53, .inl (q_54, 4, .inl zi))]) [3] (by decide) rfl
  have hKc := hK.sub (tys' := [(q_54, .int)]) [1] rfl
  have hFc := va_free (wc := [(r_53, .inl (q_54, 4, .inl zi))]) hD hS hA [3] rfl
  refine va_calli (va_runS (As := [.ref r_53, .int 2, .int 20]) (rest := [.long (-1029982385430452292)]) ⟨hx, hb, hml, hown, hts⟩ (c_X8_swingsNow l dC dI r_53 q_54 (2 : Int32) (20 : Int32) _ (by decide) (by decide)) (va_cwS 3 hts gX8_digest_X8_swingsNow rfl rfl rfl (by decide +kernel) ⟨Nat.le_of_ble_eq_true rfl, Nat.le_of_ble_eq_true rfl⟩) ⟨pr_blind, fun U hU hW => ⟨rfl, pr_mk hU hW hPc hKc hDc⟩⟩ rfl rfl hl.1 rfl (lv_room (Nat.le_of_ble_eq_true rfl)) dX8_digest_518 ⟨Nat.le_of_ble_eq_true rfl, Nat.le_of_ble_eq_true rfl⟩) hS (fun q _ h => hFc q h) hFc (fun r_168 u_167 t H1 locs ht hvm hw hB hz1 hk1 hS => ?_)
  obtain ⟨hP1, hK1, hD1⟩ := hB
  rw [ht] at hP1
  obtain ⟨hP, hD⟩ := va_join (wr := [(q_41, .inr (1, [.int 0, .ref dz, .int 0])), (kl, .inr (1, [.int 0, .ref dz, .int 0])), (q_50, .inl (c_51, 3, .inr (.inr (.inr (.inr (va_up (va_up (va_up (fun _ => none) (0 : Int32).toNatClampNeg (some r_53)) (1 : Int32).toNatClampNeg (some r_56)) (2 : Int32).toNatClampNeg (some r_59))))))), (r_56, .inl (q_54, 4, .inl zi)), (r_59, .inl (q_54, 4, .inl zi)), (mm, .inr (10, [.int 0, .ref pl, .ref ig, .ref sl, .ref kl, .int 0, .int 0, .int 0])), (pl, .inr (1, [.int 0, .ref dz, .int 0])), (sl, .inr (1, [.int 0, .ref dz, .int 0]))]) (w1 := [(r_53, .inl (q_54, 4, .inl zi))]) hP hD [3] [0, 1, 2, 4, 5, 6, 7, 8] rfl rfl (by decide) (by decide) hk1 hFc hP1 hD1
  generalize H1 = H at hP hS ⊢
  have hP : va_P (dC, dI) vwCl [(q_41, .inr (1, [.int 0, .ref dz, .int 0])), (kl, .inr (1, [.int 0, .ref dz, .int 0])), (q_50, .inl (c_51, 3, .inr (.inr (.inr (.inr (va_up (va_up (va_up (fun _ => none) (0 : Int32).toNatClampNeg (some r_53)) (1 : Int32).toNatClampNeg (some r_56)) (2 : Int32).toNatClampNeg (some r_59))))))), (r_56, .inl (q_54, 4, .inl zi)), (r_59, .inl (q_54, 4, .inl zi)), (mm, .inr (10, [.int 0, .ref pl, .ref ig, .ref sl, .ref kl, .int 0, .int 0, .int 0])), (pl, .inr (1, [.int 0, .ref dz, .int 0])), (sl, .inr (1, [.int 0, .ref dz, .int 0])), (r_53, .inl (q_54, 4, .inl zi))] H := hP
  have hD : va_D A [(q_41, .inr (1, [.int 0, .ref dz, .int 0])), (kl, .inr (1, [.int 0, .ref dz, .int 0])), (q_50, .inl (c_51, 3, .inr (.inr (.inr (.inr (va_up (va_up (va_up (fun _ => none) (0 : Int32).toNatClampNeg (some r_53)) (1 : Int32).toNatClampNeg (some r_56)) (2 : Int32).toNatClampNeg (some r_59))))))), (r_56, .inl (q_54, 4, .inl zi)), (r_59, .inl (q_54, 4, .inl zi)), (mm, .inr (10, [.int 0, .ref pl, .ref ig, .ref sl, .ref kl, .int 0, .int 0, .int 0])), (pl, .inr (1, [.int 0, .ref dz, .int 0])), (sl, .inr (1, [.int 0, .ref dz, .int 0])), (r_53, .inl (q_54, 4, .inl zi))] := hD
  refine W.widen (k := 36) (n := 220) (Nat.le_refl _) (Nat.le_refl _) ?_
  have hw : r_168 = 0 := hw
  subst hw
  refine lv_i2l (v := 0) hx hb dX8_digest_521 (by decide) ?_
  refine lv_ladd hx hb dX8_digest_522 ?_
  refine lv_topl (fun y_169 ey_169 => ?_)
  obtain rfl : y_169 = (-1029982385430452292) := ey_169.trans (by decide)
  refine lv_lstore_n (lv' := [(1, .long (-1029982385430452292)), (9, .ref r_53), (8, .int 0), (7, .int 3), (6, .ref q_50), (5, .int 2), (4, .ref q_50), (3, .ref q_41), (0, .ref mm)]) hx hb dX8_digest_523 rfl hl (by decide) rfl (fun ls hl => ?_)
  refine lv_iinc (k := 2) (v := 1) (lv' := [(8, .int 1), (1, .long (-1029982385430452292)), (9, .ref r_53), (7, .int 3), (6, .ref q_50), (5, .int 2), (4, .ref q_50), (3, .ref q_41), (0, .ref mm)]) hx hb dX8_digest_524 hl rfl (by decide) (by decide) rfl (fun ls hl => ?_)
  refine lv_goto (tgt := 480) hx hb dX8_digest_527 (by decide) ?_
  refine lv_iload hx hb dX8_digest_480 (lv_at hl 0 rfl) ?_
  refine lv_iload hx hb dX8_digest_482 (lv_at hl 3 rfl) ?_
  refine lv_icmp_ge (tgt := 530) hx hb dX8_digest_484 (by decide) (fun h9 => absurd h9 (by decide)) (fun _ => ?_)
  refine lv_aload hx hb dX8_digest_487 (lv_at hl 4 rfl) ?_
  refine lv_iload hx hb dX8_digest_489 (lv_at hl 0 rfl) ?_
  refine gd_ld (v := .ref r_56) hx hb hK hP 2 0 rfl rfl (by unfold vp_in; decide) rfl dX8_digest_491 ?_
  refine lv_astore (lv' := [(9, .ref r_56), (8, .int 1), (1, .long (-1029982385430452292)), (7, .int 3), (6, .ref q_50), (5, .int 2), (4, .ref q_50), (3, .ref q_41), (0, .ref mm)]) hx hb dX8_digest_492 hl (by decide) rfl (fun ls hl => ?_)
  refine lv_lload_n hx hb dX8_digest_494 rfl (lv_at hl 2 rfl) ?_
  refine lv_ldc2 (v := 31) hx hb hown (hts (.constantLong RX8 232 31) (by decide +kernel)) dX8_digest_495 ?_
  refine lv_lmul hx hb dX8_digest_498 ?_
  refine lv_topl (fun y_170 ey_170 => ?_)
  obtain rfl : y_170 = 4964034199075082180 := ey_170.trans (by decide)
  refine lv_aload hx hb dX8_digest_499 (lv_at hl 0 rfl) ?_
  refine lv_iload hx hb dX8_digest_501 (lv_at hl 5 rfl) ?_
  refine va_iald hx hb hK hP 3 1 rfl rfl (by unfold vp_in; decide) dX8_digest_503 ?_
  refine lv_topi (fun y_171 ey_171 => ?_)
  obtain rfl : y_171 = 0 := ey_171.trans (by rfl)
  refine lv_i2l (v := 0) hx hb dX8_digest_504 (by decide) ?_
  refine lv_ladd hx hb dX8_digest_505 ?_
  refine lv_topl (fun y_172 ey_172 => ?_)
  obtain rfl : y_172 = 4964034199075082180 := ey_172.trans (by decide)
  refine lv_lstore_n (lv' := [(1, .long 4964034199075082180), (9, .ref r_56), (8, .int 1), (7, .int 3), (6, .ref q_50), (5, .int 2), (4, .ref q_50), (3, .ref q_41), (0, .ref mm)]) hx hb dX8_digest_506 rfl hl (by decide) rfl (fun ls hl => ?_)
  refine lv_lload_n hx hb dX8_digest_507 rfl (lv_at hl 0 rfl) ?_
  refine lv_ldc2 (v := 31) hx hb hown (hts (.constantLong RX8 232 31) (by decide +kernel)) dX8_digest_508 ?_
  refine lv_lmul hx hb dX8_digest_511 ?_
  refine lv_topl (fun y_173 ey_173 => ?_)
  obtain rfl : y_173 = 6311107581651134652 := ey_173.trans (by decide)
  refine lv_aload hx hb dX8_digest_512 (lv_at hl 1 rfl) ?_
  refine lv_iload hx hb dX8_digest_514 (lv_at hl 5 rfl) ?_
  refine lv_bipush (v := 20) hx hb dX8_digest_516 (by decide) ?_
  have hPc := hP.sub (ws' := [(r_56, .inl (q_54, 4, .inl zi))]) [3] rfl
  have hDc := hD.sub (ws' := [(r_56, .inl (q_54, 4, .inl zi))]) [3] (by decide) rfl
  have hKc := hK.sub (tys' := [(q_54, .int)]) [1] rfl
  have hFc := va_free (wc := [(r_56, .inl (q_54, 4, .inl zi))]) hD hS hA [3] rfl
  refine va_calli (va_runS (As := [.ref r_56, .int 2, .int 20]) (rest := [.long 6311107581651134652]) ⟨hx, hb, hml, hown, hts⟩ (c_X8_swingsNow l dC dI r_56 q_54 (2 : Int32) (20 : Int32) _ (by decide) (by decide)) (va_cwS 3 hts gX8_digest_X8_swingsNow rfl rfl rfl (by decide +kernel) ⟨Nat.le_of_ble_eq_true rfl, Nat.le_of_ble_eq_true rfl⟩) ⟨pr_blind, fun U hU hW => ⟨rfl, pr_mk hU hW hPc hKc hDc⟩⟩ rfl rfl hl.1 rfl (lv_room (Nat.le_of_ble_eq_true rfl)) dX8_digest_518 ⟨Nat.le_of_ble_eq_true rfl, Nat.le_of_ble_eq_true rfl⟩) hS (fun q _ h => hFc q h) hFc (fun r_175 u_174 t H1 locs ht hvm hw hB hz1 hk1 hS => ?_)
  obtain ⟨hP1, hK1, hD1⟩ := hB
  rw [ht] at hP1
  obtain ⟨hP, hD⟩ := va_join (wr := [(q_41, .inr (1, [.int 0, .ref dz, .int 0])), (kl, .inr (1, [.int 0, .ref dz, .int 0])), (q_50, .inl (c_51, 3, .inr (.inr (.inr (.inr (va_up (va_up (va_up (fun _ => none) (0 : Int32).toNatClampNeg (some r_53)) (1 : Int32).toNatClampNeg (some r_56)) (2 : Int32).toNatClampNeg (some r_59))))))), (r_59, .inl (q_54, 4, .inl zi)), (mm, .inr (10, [.int 0, .ref pl, .ref ig, .ref sl, .ref kl, .int 0, .int 0, .int 0])), (pl, .inr (1, [.int 0, .ref dz, .int 0])), (sl, .inr (1, [.int 0, .ref dz, .int 0])), (r_53, .inl (q_54, 4, .inl zi))]) (w1 := [(r_56, .inl (q_54, 4, .inl zi))]) hP hD [3] [0, 1, 2, 4, 5, 6, 7, 8] rfl rfl (by decide) (by decide) hk1 hFc hP1 hD1
  generalize H1 = H at hP hS ⊢
  have hP : va_P (dC, dI) vwCl [(q_41, .inr (1, [.int 0, .ref dz, .int 0])), (kl, .inr (1, [.int 0, .ref dz, .int 0])), (q_50, .inl (c_51, 3, .inr (.inr (.inr (.inr (va_up (va_up (va_up (fun _ => none) (0 : Int32).toNatClampNeg (some r_53)) (1 : Int32).toNatClampNeg (some r_56)) (2 : Int32).toNatClampNeg (some r_59))))))), (r_59, .inl (q_54, 4, .inl zi)), (mm, .inr (10, [.int 0, .ref pl, .ref ig, .ref sl, .ref kl, .int 0, .int 0, .int 0])), (pl, .inr (1, [.int 0, .ref dz, .int 0])), (sl, .inr (1, [.int 0, .ref dz, .int 0])), (r_53, .inl (q_54, 4, .inl zi)), (r_56, .inl (q_54, 4, .inl zi))] H := hP
  have hD : va_D A [(q_41, .inr (1, [.int 0, .ref dz, .int 0])), (kl, .inr (1, [.int 0, .ref dz, .int 0])), (q_50, .inl (c_51, 3, .inr (.inr (.inr (.inr (va_up (va_up (va_up (fun _ => none) (0 : Int32).toNatClampNeg (some r_53)) (1 : Int32).toNatClampNeg (some r_56)) (2 : Int32).toNatClampNeg (some r_59))))))), (r_59, .inl (q_54, 4, .inl zi)), (mm, .inr (10, [.int 0, .ref pl, .ref ig, .ref sl, .ref kl, .int 0, .int 0, .int 0])), (pl, .inr (1, [.int 0, .ref dz, .int 0])), (sl, .inr (1, [.int 0, .ref dz, .int 0])), (r_53, .inl (q_54, 4, .inl zi)), (r_56, .inl (q_54, 4, .inl zi))] := hD
  refine W.widen (k := 36) (n := 220) (Nat.le_refl _) (Nat.le_refl _) ?_
  have hw : r_175 = 0 := hw
  subst hw
  refine lv_i2l (v := 0) hx hb dX8_digest_521 (by decide) ?_
  refine lv_ladd hx hb dX8_digest_522 ?_
  refine lv_topl (fun y_176 ey_176 => ?_)
  obtain rfl : y_176 = 6311107581651134652 := ey_176.trans (by decide)
  refine lv_lstore_n (lv' := [(1, .long 6311107581651134652), (9, .ref r_56), (8, .int 1), (7, .int 3), (6, .ref q_50), (5, .int 2), (4, .ref q_50), (3, .ref q_41), (0, .ref mm)]) hx hb dX8_digest_523 rfl hl (by decide) rfl (fun ls hl => ?_)
  refine lv_iinc (k := 2) (v := 2) (lv' := [(8, .int 2), (1, .long 6311107581651134652), (9, .ref r_56), (7, .int 3), (6, .ref q_50), (5, .int 2), (4, .ref q_50), (3, .ref q_41), (0, .ref mm)]) hx hb dX8_digest_524 hl rfl (by decide) (by decide) rfl (fun ls hl => ?_)
  refine lv_goto (tgt := 480) hx hb dX8_digest_527 (by decide) ?_
  refine lv_iload hx hb dX8_digest_480 (lv_at hl 0 rfl) ?_
  refine lv_iload hx hb dX8_digest_482 (lv_at hl 3 rfl) ?_
  refine lv_icmp_ge (tgt := 530) hx hb dX8_digest_484 (by decide) (fun h9 => absurd h9 (by decide)) (fun _ => ?_)
  refine lv_aload hx hb dX8_digest_487 (lv_at hl 4 rfl) ?_
  refine lv_iload hx hb dX8_digest_489 (lv_at hl 0 rfl) ?_
  refine gd_ld (v := .ref r_59) hx hb hK hP 2 0 rfl rfl (by unfold vp_in; decide) rfl dX8_digest_491 ?_
  refine lv_astore (lv' := [(9, .ref r_59), (8, .int 2), (1, .long 6311107581651134652), (7, .int 3), (6, .ref q_50), (5, .int 2), (4, .ref q_50), (3, .ref q_41), (0, .ref mm)]) hx hb dX8_digest_492 hl (by decide) rfl (fun ls hl => ?_)
  refine lv_lload_n hx hb dX8_digest_494 rfl (lv_at hl 2 rfl) ?_
  refine lv_ldc2 (v := 31) hx hb hown (hts (.constantLong RX8 232 31) (by decide +kernel)) dX8_digest_495 ?_
  refine lv_lmul hx hb dX8_digest_498 ?_
  refine lv_topl (fun y_177 ey_177 => ?_)
  obtain rfl : y_177 = (-7269849779619893564) := ey_177.trans (by decide)
  refine lv_aload hx hb dX8_digest_499 (lv_at hl 0 rfl) ?_
  refine lv_iload hx hb dX8_digest_501 (lv_at hl 5 rfl) ?_
  refine va_iald hx hb hK hP 3 1 rfl rfl (by unfold vp_in; decide) dX8_digest_503 ?_
  refine lv_topi (fun y_178 ey_178 => ?_)
  obtain rfl : y_178 = 0 := ey_178.trans (by rfl)
  refine lv_i2l (v := 0) hx hb dX8_digest_504 (by decide) ?_
  refine lv_ladd hx hb dX8_digest_505 ?_
  refine lv_topl (fun y_179 ey_179 => ?_)
  obtain rfl : y_179 = (-7269849779619893564) := ey_179.trans (by decide)
  refine lv_lstore_n (lv' := [(1, .long (-7269849779619893564)), (9, .ref r_59), (8, .int 2), (7, .int 3), (6, .ref q_50), (5, .int 2), (4, .ref q_50), (3, .ref q_41), (0, .ref mm)]) hx hb dX8_digest_506 rfl hl (by decide) rfl (fun ls hl => ?_)
  refine lv_lload_n hx hb dX8_digest_507 rfl (lv_at hl 0 rfl) ?_
  refine lv_ldc2 (v := 31) hx hb hown (hts (.constantLong RX8 232 31) (by decide +kernel)) dX8_digest_508 ?_
  refine lv_lmul hx hb dX8_digest_511 ?_
  refine lv_topl (fun y_180 ey_180 => ?_)
  obtain rfl : y_180 = (-4004414283702081092) := ey_180.trans (by decide)
  refine lv_aload hx hb dX8_digest_512 (lv_at hl 1 rfl) ?_
  refine lv_iload hx hb dX8_digest_514 (lv_at hl 5 rfl) ?_
  refine lv_bipush (v := 20) hx hb dX8_digest_516 (by decide) ?_
  have hPc := hP.sub (ws' := [(r_59, .inl (q_54, 4, .inl zi))]) [3] rfl
  have hDc := hD.sub (ws' := [(r_59, .inl (q_54, 4, .inl zi))]) [3] (by decide) rfl
  have hKc := hK.sub (tys' := [(q_54, .int)]) [1] rfl
  have hFc := va_free (wc := [(r_59, .inl (q_54, 4, .inl zi))]) hD hS hA [3] rfl
  refine va_calli (va_runS (As := [.ref r_59, .int 2, .int 20]) (rest := [.long (-4004414283702081092)]) ⟨hx, hb, hml, hown, hts⟩ (c_X8_swingsNow l dC dI r_59 q_54 (2 : Int32) (20 : Int32) _ (by decide) (by decide)) (va_cwS 3 hts gX8_digest_X8_swingsNow rfl rfl rfl (by decide +kernel) ⟨Nat.le_of_ble_eq_true rfl, Nat.le_of_ble_eq_true rfl⟩) ⟨pr_blind, fun U hU hW => ⟨rfl, pr_mk hU hW hPc hKc hDc⟩⟩ rfl rfl hl.1 rfl (lv_room (Nat.le_of_ble_eq_true rfl)) dX8_digest_518 ⟨Nat.le_of_ble_eq_true rfl, Nat.le_of_ble_eq_true rfl⟩) hS (fun q _ h => hFc q h) hFc (fun r_182 u_181 t H1 locs ht hvm hw hB hz1 hk1 hS => ?_)
  obtain ⟨hP1, hK1, hD1⟩ := hB
  rw [ht] at hP1
  obtain ⟨hP, hD⟩ := va_join (wr := [(q_41, .inr (1, [.int 0, .ref dz, .int 0])), (kl, .inr (1, [.int 0, .ref dz, .int 0])), (q_50, .inl (c_51, 3, .inr (.inr (.inr (.inr (va_up (va_up (va_up (fun _ => none) (0 : Int32).toNatClampNeg (some r_53)) (1 : Int32).toNatClampNeg (some r_56)) (2 : Int32).toNatClampNeg (some r_59))))))), (mm, .inr (10, [.int 0, .ref pl, .ref ig, .ref sl, .ref kl, .int 0, .int 0, .int 0])), (pl, .inr (1, [.int 0, .ref dz, .int 0])), (sl, .inr (1, [.int 0, .ref dz, .int 0])), (r_53, .inl (q_54, 4, .inl zi)), (r_56, .inl (q_54, 4, .inl zi))]) (w1 := [(r_59, .inl (q_54, 4, .inl zi))]) hP hD [3] [0, 1, 2, 4, 5, 6, 7, 8] rfl rfl (by decide) (by decide) hk1 hFc hP1 hD1
  generalize H1 = H at hP hS ⊢
  have hP : va_P (dC, dI) vwCl [(q_41, .inr (1, [.int 0, .ref dz, .int 0])), (kl, .inr (1, [.int 0, .ref dz, .int 0])), (q_50, .inl (c_51, 3, .inr (.inr (.inr (.inr (va_up (va_up (va_up (fun _ => none) (0 : Int32).toNatClampNeg (some r_53)) (1 : Int32).toNatClampNeg (some r_56)) (2 : Int32).toNatClampNeg (some r_59))))))), (mm, .inr (10, [.int 0, .ref pl, .ref ig, .ref sl, .ref kl, .int 0, .int 0, .int 0])), (pl, .inr (1, [.int 0, .ref dz, .int 0])), (sl, .inr (1, [.int 0, .ref dz, .int 0])), (r_53, .inl (q_54, 4, .inl zi)), (r_56, .inl (q_54, 4, .inl zi)), (r_59, .inl (q_54, 4, .inl zi))] H := hP
  have hD : va_D A [(q_41, .inr (1, [.int 0, .ref dz, .int 0])), (kl, .inr (1, [.int 0, .ref dz, .int 0])), (q_50, .inl (c_51, 3, .inr (.inr (.inr (.inr (va_up (va_up (va_up (fun _ => none) (0 : Int32).toNatClampNeg (some r_53)) (1 : Int32).toNatClampNeg (some r_56)) (2 : Int32).toNatClampNeg (some r_59))))))), (mm, .inr (10, [.int 0, .ref pl, .ref ig, .ref sl, .ref kl, .int 0, .int 0, .int 0])), (pl, .inr (1, [.int 0, .ref dz, .int 0])), (sl, .inr (1, [.int 0, .ref dz, .int 0])), (r_53, .inl (q_54, 4, .inl zi)), (r_56, .inl (q_54, 4, .inl zi)), (r_59, .inl (q_54, 4, .inl zi))] := hD
  refine W.widen (k := 36) (n := 220) (Nat.le_refl _) (Nat.le_refl _) ?_
  have hw : r_182 = 0 := hw
  subst hw
  refine lv_i2l (v := 0) hx hb dX8_digest_521 (by decide) ?_
  refine lv_ladd hx hb dX8_digest_522 ?_
  refine lv_topl (fun y_183 ey_183 => ?_)
  obtain rfl : y_183 = (-4004414283702081092) := ey_183.trans (by decide)
  refine lv_lstore_n (lv' := [(1, .long (-4004414283702081092)), (9, .ref r_59), (8, .int 2), (7, .int 3), (6, .ref q_50), (5, .int 2), (4, .ref q_50), (3, .ref q_41), (0, .ref mm)]) hx hb dX8_digest_523 rfl hl (by decide) rfl (fun ls hl => ?_)
  refine lv_iinc (k := 2) (v := 3) (lv' := [(8, .int 3), (1, .long (-4004414283702081092)), (9, .ref r_59), (7, .int 3), (6, .ref q_50), (5, .int 2), (4, .ref q_50), (3, .ref q_41), (0, .ref mm)]) hx hb dX8_digest_524 hl rfl (by decide) (by decide) rfl (fun ls hl => ?_)
  refine lv_goto (tgt := 480) hx hb dX8_digest_527 (by decide) ?_
  refine lv_iload hx hb dX8_digest_480 (lv_at hl 0 rfl) ?_
  refine lv_iload hx hb dX8_digest_482 (lv_at hl 3 rfl) ?_
  refine lv_icmp_ge (tgt := 530) hx hb dX8_digest_484 (by decide) (fun _ => ?_) (fun h9 => absurd h9 (by decide))
  refine lv_iinc (k := 5) (v := 3) (lv' := [(5, .int 3), (8, .int 3), (1, .long (-4004414283702081092)), (9, .ref r_59), (7, .int 3), (6, .ref q_50), (4, .ref q_50), (3, .ref q_41), (0, .ref mm)]) hx hb dX8_digest_530 hl rfl (by decide) (by decide) rfl (fun ls hl => ?_)
  refine lv_goto (tgt := 431) hx hb dX8_digest_533 (by decide) ?_
  refine lv_iload hx hb dX8_digest_431 (lv_at hl 0 rfl) ?_
  refine lv_iconst (v := 4) hx hb dX8_digest_433 (by decide) ?_
  refine lv_icmp_ge (tgt := 536) hx hb dX8_digest_434 (by decide) (fun h9 => absurd h9 (by decide)) (fun _ => ?_)
  refine lv_iconst (v := 0) hx hb dX8_digest_437 (by decide) ?_
  refine lv_istore (lv' := [(6, .int 0), (5, .int 3), (8, .int 3), (1, .long (-4004414283702081092)), (9, .ref r_59), (7, .int 3), (4, .ref q_50), (3, .ref q_41), (0, .ref mm)]) hx hb dX8_digest_438 hl (by decide) rfl (fun ls hl => ?_)
  refine lv_iload hx hb dX8_digest_440 (lv_at hl 0 rfl) ?_
  refine lv_iconst (v := 4) hx hb dX8_digest_442 (by decide) ?_
  refine lv_icmp_gt (tgt := 468) hx hb dX8_digest_443 (by decide) (fun h9 => absurd h9 (by decide)) (fun _ => ?_)
  refine lv_lload_n hx hb dX8_digest_446 rfl (lv_at hl 3 rfl) ?_
  refine lv_ldc2 (v := 31) hx hb hown (hts (.constantLong RX8 232 31) (by decide +kernel)) dX8_digest_447 ?_
  refine lv_lmul hx hb dX8_digest_450 ?_
  refine lv_topl (fun y_184 ey_184 => ?_)
  obtain rfl : y_184 = 4990365721202347460 := ey_184.trans (by decide)
  refine lv_aload_n hx hb dX8_digest_451 rfl (lv_at hl 8 rfl) ?_
  refine lv_iload hx hb dX8_digest_452 (lv_at hl 1 rfl) ?_
  refine lv_iload hx hb dX8_digest_454 (lv_at hl 0 rfl) ?_
  have hPc := hP.sub (ws' := [(mm, .inr (10, [.int 0, .ref pl, .ref ig, .ref sl, .ref kl, .int 0, .int 0, .int 0])), (pl, .inr (1, [.int 0, .ref dz, .int 0])), (sl, .inr (1, [.int 0, .ref dz, .int 0]))]) [3, 4, 5] rfl
  have hDc := hD.sub (ws' := [(mm, .inr (10, [.int 0, .ref pl, .ref ig, .ref sl, .ref kl, .int 0, .int 0, .int 0])), (pl, .inr (1, [.int 0, .ref dz, .int 0])), (sl, .inr (1, [.int 0, .ref dz, .int 0]))]) [3, 4, 5] (by decide) rfl
  have hKc := hK.sub (tys' := []) [] rfl
  have hFc := va_free (wc := [(mm, .inr (10, [.int 0, .ref pl, .ref ig, .ref sl, .ref kl, .int 0, .int 0, .int 0])), (pl, .inr (1, [.int 0, .ref dz, .int 0])), (sl, .inr (1, [.int 0, .ref dz, .int 0]))]) hD hS hA [3, 4, 5] rfl
  refine va_calli (va_runV (As := [.int 3, .int 0]) (rest := [.long 4990365721202347460]) ⟨hx, hb, hml, hown, hts⟩ (c_X8_partyNow l dC dI mm pl ig sl kl dz (3 : Int32) (0 : Int32) _ (by unfold vp_in; decide)) (cwV 2 hts gX8_digest_X8_partyNow rfl rfl rfl (by decide +kernel) ⟨Nat.le_of_ble_eq_true rfl, Nat.le_of_ble_eq_true rfl⟩) ⟨pe_blind mo_bl, va_recv hKc hPc (ci := 10) (q0 := 0) rfl rfl, fun U hU hW => ⟨rfl, pr_mk hU hW hPc hKc hDc, mo_mk hW hXs.1⟩⟩ rfl rfl hl.1 rfl (lv_room (Nat.le_of_ble_eq_true rfl)) dX8_digest_456 ⟨Nat.le_of_ble_eq_true rfl, Nat.le_of_ble_eq_true rfl⟩) hS (fun q _ h => hFc q h) hFc (fun r_186 u_185 t H1 locs ht hvm hw hB hz1 hk1 hS => ?_)
  obtain ⟨hP1, hK1, hD1⟩ := hB
  rw [ht] at hP1
  obtain ⟨hP, hD⟩ := va_join (wr := [(q_41, .inr (1, [.int 0, .ref dz, .int 0])), (kl, .inr (1, [.int 0, .ref dz, .int 0])), (q_50, .inl (c_51, 3, .inr (.inr (.inr (.inr (va_up (va_up (va_up (fun _ => none) (0 : Int32).toNatClampNeg (some r_53)) (1 : Int32).toNatClampNeg (some r_56)) (2 : Int32).toNatClampNeg (some r_59))))))), (r_53, .inl (q_54, 4, .inl zi)), (r_56, .inl (q_54, 4, .inl zi)), (r_59, .inl (q_54, 4, .inl zi))]) (w1 := [(mm, .inr (10, [.int 0, .ref pl, .ref ig, .ref sl, .ref kl, .int 0, .int 0, .int 0])), (pl, .inr (1, [.int 0, .ref dz, .int 0])), (sl, .inr (1, [.int 0, .ref dz, .int 0]))]) hP hD [3, 4, 5] [0, 1, 2, 6, 7, 8] rfl rfl (by decide) (by decide) hk1 hFc hP1 hD1
  generalize H1 = H at hP hS ⊢
  have hP : va_P (dC, dI) vwCl [(q_41, .inr (1, [.int 0, .ref dz, .int 0])), (kl, .inr (1, [.int 0, .ref dz, .int 0])), (q_50, .inl (c_51, 3, .inr (.inr (.inr (.inr (va_up (va_up (va_up (fun _ => none) (0 : Int32).toNatClampNeg (some r_53)) (1 : Int32).toNatClampNeg (some r_56)) (2 : Int32).toNatClampNeg (some r_59))))))), (r_53, .inl (q_54, 4, .inl zi)), (r_56, .inl (q_54, 4, .inl zi)), (r_59, .inl (q_54, 4, .inl zi)), (mm, .inr (10, [.int 0, .ref pl, .ref ig, .ref sl, .ref kl, .int 0, .int 0, .int 0])), (pl, .inr (1, [.int 0, .ref dz, .int 0])), (sl, .inr (1, [.int 0, .ref dz, .int 0]))] H := hP
  have hD : va_D A [(q_41, .inr (1, [.int 0, .ref dz, .int 0])), (kl, .inr (1, [.int 0, .ref dz, .int 0])), (q_50, .inl (c_51, 3, .inr (.inr (.inr (.inr (va_up (va_up (va_up (fun _ => none) (0 : Int32).toNatClampNeg (some r_53)) (1 : Int32).toNatClampNeg (some r_56)) (2 : Int32).toNatClampNeg (some r_59))))))), (r_53, .inl (q_54, 4, .inl zi)), (r_56, .inl (q_54, 4, .inl zi)), (r_59, .inl (q_54, 4, .inl zi)), (mm, .inr (10, [.int 0, .ref pl, .ref ig, .ref sl, .ref kl, .int 0, .int 0, .int 0])), (pl, .inr (1, [.int 0, .ref dz, .int 0])), (sl, .inr (1, [.int 0, .ref dz, .int 0]))] := hD
  refine W.widen (k := 37) (n := 225) (Nat.le_of_ble_eq_true rfl) (Nat.le_of_ble_eq_true rfl) ?_
  have hw : r_186 = 0 := hw
  subst hw
  refine lv_i2l (v := 0) hx hb dX8_digest_459 (by decide) ?_
  refine lv_ladd hx hb dX8_digest_460 ?_
  refine lv_topl (fun y_187 ey_187 => ?_)
  obtain rfl : y_187 = 4990365721202347460 := ey_187.trans (by decide)
  refine lv_lstore_n (lv' := [(1, .long 4990365721202347460), (6, .int 0), (5, .int 3), (8, .int 3), (9, .ref r_59), (7, .int 3), (4, .ref q_50), (3, .ref q_41), (0, .ref mm)]) hx hb dX8_digest_461 rfl hl (by decide) rfl (fun ls hl => ?_)
  refine lv_iinc (k := 1) (v := 1) (lv' := [(6, .int 1), (1, .long 4990365721202347460), (5, .int 3), (8, .int 3), (9, .ref r_59), (7, .int 3), (4, .ref q_50), (3, .ref q_41), (0, .ref mm)]) hx hb dX8_digest_462 hl rfl (by decide) (by decide) rfl (fun ls hl => ?_)
  refine lv_goto (tgt := 440) hx hb dX8_digest_465 (by decide) ?_
  refine lv_iload hx hb dX8_digest_440 (lv_at hl 0 rfl) ?_
  refine lv_iconst (v := 4) hx hb dX8_digest_442 (by decide) ?_
  refine lv_icmp_gt (tgt := 468) hx hb dX8_digest_443 (by decide) (fun h9 => absurd h9 (by decide)) (fun _ => ?_)
  refine lv_lload_n hx hb dX8_digest_446 rfl (lv_at hl 1 rfl) ?_
  refine lv_ldc2 (v := 31) hx hb hown (hts (.constantLong RX8 232 31) (by decide +kernel)) dX8_digest_447 ?_
  refine lv_lmul hx hb dX8_digest_450 ?_
  refine lv_topl (fun y_188 ey_188 => ?_)
  obtain rfl : y_188 = 7127384767596358332 := ey_188.trans (by decide)
  refine lv_aload_n hx hb dX8_digest_451 rfl (lv_at hl 8 rfl) ?_
  refine lv_iload hx hb dX8_digest_452 (lv_at hl 2 rfl) ?_
  refine lv_iload hx hb dX8_digest_454 (lv_at hl 0 rfl) ?_
  have hPc := hP.sub (ws' := [(mm, .inr (10, [.int 0, .ref pl, .ref ig, .ref sl, .ref kl, .int 0, .int 0, .int 0])), (pl, .inr (1, [.int 0, .ref dz, .int 0])), (sl, .inr (1, [.int 0, .ref dz, .int 0]))]) [6, 7, 8] rfl
  have hDc := hD.sub (ws' := [(mm, .inr (10, [.int 0, .ref pl, .ref ig, .ref sl, .ref kl, .int 0, .int 0, .int 0])), (pl, .inr (1, [.int 0, .ref dz, .int 0])), (sl, .inr (1, [.int 0, .ref dz, .int 0]))]) [6, 7, 8] (by decide) rfl
  have hKc := hK.sub (tys' := []) [] rfl
  have hFc := va_free (wc := [(mm, .inr (10, [.int 0, .ref pl, .ref ig, .ref sl, .ref kl, .int 0, .int 0, .int 0])), (pl, .inr (1, [.int 0, .ref dz, .int 0])), (sl, .inr (1, [.int 0, .ref dz, .int 0]))]) hD hS hA [6, 7, 8] rfl
  refine va_calli (va_runV (As := [.int 3, .int 1]) (rest := [.long 7127384767596358332]) ⟨hx, hb, hml, hown, hts⟩ (c_X8_partyNow l dC dI mm pl ig sl kl dz (3 : Int32) (1 : Int32) _ (by unfold vp_in; decide)) (cwV 2 hts gX8_digest_X8_partyNow rfl rfl rfl (by decide +kernel) ⟨Nat.le_of_ble_eq_true rfl, Nat.le_of_ble_eq_true rfl⟩) ⟨pe_blind mo_bl, va_recv hKc hPc (ci := 10) (q0 := 0) rfl rfl, fun U hU hW => ⟨rfl, pr_mk hU hW hPc hKc hDc, mo_mk hW hXs.1⟩⟩ rfl rfl hl.1 rfl (lv_room (Nat.le_of_ble_eq_true rfl)) dX8_digest_456 ⟨Nat.le_of_ble_eq_true rfl, Nat.le_of_ble_eq_true rfl⟩) hS (fun q _ h => hFc q h) hFc (fun r_190 u_189 t H1 locs ht hvm hw hB hz1 hk1 hS => ?_)
  obtain ⟨hP1, hK1, hD1⟩ := hB
  rw [ht] at hP1
  obtain ⟨hP, hD⟩ := va_join (wr := [(q_41, .inr (1, [.int 0, .ref dz, .int 0])), (kl, .inr (1, [.int 0, .ref dz, .int 0])), (q_50, .inl (c_51, 3, .inr (.inr (.inr (.inr (va_up (va_up (va_up (fun _ => none) (0 : Int32).toNatClampNeg (some r_53)) (1 : Int32).toNatClampNeg (some r_56)) (2 : Int32).toNatClampNeg (some r_59))))))), (r_53, .inl (q_54, 4, .inl zi)), (r_56, .inl (q_54, 4, .inl zi)), (r_59, .inl (q_54, 4, .inl zi))]) (w1 := [(mm, .inr (10, [.int 0, .ref pl, .ref ig, .ref sl, .ref kl, .int 0, .int 0, .int 0])), (pl, .inr (1, [.int 0, .ref dz, .int 0])), (sl, .inr (1, [.int 0, .ref dz, .int 0]))]) hP hD [6, 7, 8] [0, 1, 2, 3, 4, 5] rfl rfl (by decide) (by decide) hk1 hFc hP1 hD1
  generalize H1 = H at hP hS ⊢
  have hP : va_P (dC, dI) vwCl [(q_41, .inr (1, [.int 0, .ref dz, .int 0])), (kl, .inr (1, [.int 0, .ref dz, .int 0])), (q_50, .inl (c_51, 3, .inr (.inr (.inr (.inr (va_up (va_up (va_up (fun _ => none) (0 : Int32).toNatClampNeg (some r_53)) (1 : Int32).toNatClampNeg (some r_56)) (2 : Int32).toNatClampNeg (some r_59))))))), (r_53, .inl (q_54, 4, .inl zi)), (r_56, .inl (q_54, 4, .inl zi)), (r_59, .inl (q_54, 4, .inl zi)), (mm, .inr (10, [.int 0, .ref pl, .ref ig, .ref sl, .ref kl, .int 0, .int 0, .int 0])), (pl, .inr (1, [.int 0, .ref dz, .int 0])), (sl, .inr (1, [.int 0, .ref dz, .int 0]))] H := hP
  have hD : va_D A [(q_41, .inr (1, [.int 0, .ref dz, .int 0])), (kl, .inr (1, [.int 0, .ref dz, .int 0])), (q_50, .inl (c_51, 3, .inr (.inr (.inr (.inr (va_up (va_up (va_up (fun _ => none) (0 : Int32).toNatClampNeg (some r_53)) (1 : Int32).toNatClampNeg (some r_56)) (2 : Int32).toNatClampNeg (some r_59))))))), (r_53, .inl (q_54, 4, .inl zi)), (r_56, .inl (q_54, 4, .inl zi)), (r_59, .inl (q_54, 4, .inl zi)), (mm, .inr (10, [.int 0, .ref pl, .ref ig, .ref sl, .ref kl, .int 0, .int 0, .int 0])), (pl, .inr (1, [.int 0, .ref dz, .int 0])), (sl, .inr (1, [.int 0, .ref dz, .int 0]))] := hD
  refine W.widen (k := 38) (n := 230) (Nat.le_of_ble_eq_true rfl) (Nat.le_of_ble_eq_true rfl) ?_
  have hw : r_190 = 0 := hw
  subst hw
  refine lv_i2l (v := 0) hx hb dX8_digest_459 (by decide) ?_
  refine lv_ladd hx hb dX8_digest_460 ?_
  refine lv_topl (fun y_191 ey_191 => ?_)
  obtain rfl : y_191 = 7127384767596358332 := ey_191.trans (by decide)
  refine lv_lstore_n (lv' := [(1, .long 7127384767596358332), (6, .int 1), (5, .int 3), (8, .int 3), (9, .ref r_59), (7, .int 3), (4, .ref q_50), (3, .ref q_41), (0, .ref mm)]) hx hb dX8_digest_461 rfl hl (by decide) rfl (fun ls hl => ?_)
  refine lv_iinc (k := 1) (v := 2) (lv' := [(6, .int 2), (1, .long 7127384767596358332), (5, .int 3), (8, .int 3), (9, .ref r_59), (7, .int 3), (4, .ref q_50), (3, .ref q_41), (0, .ref mm)]) hx hb dX8_digest_462 hl rfl (by decide) (by decide) rfl (fun ls hl => ?_)
  refine lv_goto (tgt := 440) hx hb dX8_digest_465 (by decide) ?_
  refine lv_iload hx hb dX8_digest_440 (lv_at hl 0 rfl) ?_
  refine lv_iconst (v := 4) hx hb dX8_digest_442 (by decide) ?_
  refine lv_icmp_gt (tgt := 468) hx hb dX8_digest_443 (by decide) (fun h9 => absurd h9 (by decide)) (fun _ => ?_)
  refine lv_lload_n hx hb dX8_digest_446 rfl (lv_at hl 1 rfl) ?_
  refine lv_ldc2 (v := 31) hx hb hown (hts (.constantLong RX8 232 31) (by decide +kernel)) dX8_digest_447 ?_
  refine lv_lmul hx hb dX8_digest_450 ?_
  refine lv_topl (fun y_192 ey_192 => ?_)
  obtain rfl : y_192 = (-412001089027511100) := ey_192.trans (by decide)
  refine lv_aload_n hx hb dX8_digest_451 rfl (lv_at hl 8 rfl) ?_
  refine lv_iload hx hb dX8_digest_452 (lv_at hl 2 rfl) ?_
  refine lv_iload hx hb dX8_digest_454 (lv_at hl 0 rfl) ?_
  have hPc := hP.sub (ws' := [(mm, .inr (10, [.int 0, .ref pl, .ref ig, .ref sl, .ref kl, .int 0, .int 0, .int 0])), (pl, .inr (1, [.int 0, .ref dz, .int 0])), (sl, .inr (1, [.int 0, .ref dz, .int 0]))]) [6, 7, 8] rfl
  have hDc := hD.sub (ws' := [(mm, .inr (10, [.int 0, .ref pl, .ref ig, .ref sl, .ref kl, .int 0, .int 0, .int 0])), (pl, .inr (1, [.int 0, .ref dz, .int 0])), (sl, .inr (1, [.int 0, .ref dz, .int 0]))]) [6, 7, 8] (by decide) rfl
  have hKc := hK.sub (tys' := []) [] rfl
  have hFc := va_free (wc := [(mm, .inr (10, [.int 0, .ref pl, .ref ig, .ref sl, .ref kl, .int 0, .int 0, .int 0])), (pl, .inr (1, [.int 0, .ref dz, .int 0])), (sl, .inr (1, [.int 0, .ref dz, .int 0]))]) hD hS hA [6, 7, 8] rfl
  refine va_calli (va_runV (As := [.int 3, .int 2]) (rest := [.long (-412001089027511100)]) ⟨hx, hb, hml, hown, hts⟩ (c_X8_partyNow l dC dI mm pl ig sl kl dz (3 : Int32) (2 : Int32) _ (by unfold vp_in; decide)) (cwV 2 hts gX8_digest_X8_partyNow rfl rfl rfl (by decide +kernel) ⟨Nat.le_of_ble_eq_true rfl, Nat.le_of_ble_eq_true rfl⟩) ⟨pe_blind mo_bl, va_recv hKc hPc (ci := 10) (q0 := 0) rfl rfl, fun U hU hW => ⟨rfl, pr_mk hU hW hPc hKc hDc, mo_mk hW hXs.1⟩⟩ rfl rfl hl.1 rfl (lv_room (Nat.le_of_ble_eq_true rfl)) dX8_digest_456 ⟨Nat.le_of_ble_eq_true rfl, Nat.le_of_ble_eq_true rfl⟩) hS (fun q _ h => hFc q h) hFc (fun r_194 u_193 t H1 locs ht hvm hw hB hz1 hk1 hS => ?_)
  obtain ⟨hP1, hK1, hD1⟩ := hB
  rw [ht] at hP1
  obtain ⟨hP, hD⟩ := va_join (wr := [(q_41, .inr (1, [.int 0, .ref dz, .int 0])), (kl, .inr (1, [.int 0, .ref dz, .int 0])), (q_50, .inl (c_51, 3, .inr (.inr (.inr (.inr (va_up (va_up (va_up (fun _ => none) (0 : Int32).toNatClampNeg (some r_53)) (1 : Int32).toNatClampNeg (some r_56)) (2 : Int32).toNatClampNeg (some r_59))))))), (r_53, .inl (q_54, 4, .inl zi)), (r_56, .inl (q_54, 4, .inl zi)), (r_59, .inl (q_54, 4, .inl zi))]) (w1 := [(mm, .inr (10, [.int 0, .ref pl, .ref ig, .ref sl, .ref kl, .int 0, .int 0, .int 0])), (pl, .inr (1, [.int 0, .ref dz, .int 0])), (sl, .inr (1, [.int 0, .ref dz, .int 0]))]) hP hD [6, 7, 8] [0, 1, 2, 3, 4, 5] rfl rfl (by decide) (by decide) hk1 hFc hP1 hD1
  generalize H1 = H at hP hS ⊢
  have hP : va_P (dC, dI) vwCl [(q_41, .inr (1, [.int 0, .ref dz, .int 0])), (kl, .inr (1, [.int 0, .ref dz, .int 0])), (q_50, .inl (c_51, 3, .inr (.inr (.inr (.inr (va_up (va_up (va_up (fun _ => none) (0 : Int32).toNatClampNeg (some r_53)) (1 : Int32).toNatClampNeg (some r_56)) (2 : Int32).toNatClampNeg (some r_59))))))), (r_53, .inl (q_54, 4, .inl zi)), (r_56, .inl (q_54, 4, .inl zi)), (r_59, .inl (q_54, 4, .inl zi)), (mm, .inr (10, [.int 0, .ref pl, .ref ig, .ref sl, .ref kl, .int 0, .int 0, .int 0])), (pl, .inr (1, [.int 0, .ref dz, .int 0])), (sl, .inr (1, [.int 0, .ref dz, .int 0]))] H := hP
  have hD : va_D A [(q_41, .inr (1, [.int 0, .ref dz, .int 0])), (kl, .inr (1, [.int 0, .ref dz, .int 0])), (q_50, .inl (c_51, 3, .inr (.inr (.inr (.inr (va_up (va_up (va_up (fun _ => none) (0 : Int32).toNatClampNeg (some r_53)) (1 : Int32).toNatClampNeg (some r_56)) (2 : Int32).toNatClampNeg (some r_59))))))), (r_53, .inl (q_54, 4, .inl zi)), (r_56, .inl (q_54, 4, .inl zi)), (r_59, .inl (q_54, 4, .inl zi)), (mm, .inr (10, [.int 0, .ref pl, .ref ig, .ref sl, .ref kl, .int 0, .int 0, .int 0])), (pl, .inr (1, [.int 0, .ref dz, .int 0])), (sl, .inr (1, [.int 0, .ref dz, .int 0]))] := hD
  refine W.widen (k := 39) (n := 235) (Nat.le_of_ble_eq_true rfl) (Nat.le_of_ble_eq_true rfl) ?_
  have hw : r_194 = 0 := hw
  subst hw
  refine lv_i2l (v := 0) hx hb dX8_digest_459 (by decide) ?_
  refine lv_ladd hx hb dX8_digest_460 ?_
  refine lv_topl (fun y_195 ey_195 => ?_)
  obtain rfl : y_195 = (-412001089027511100) := ey_195.trans (by decide)
  refine lv_lstore_n (lv' := [(1, .long (-412001089027511100)), (6, .int 2), (5, .int 3), (8, .int 3), (9, .ref r_59), (7, .int 3), (4, .ref q_50), (3, .ref q_41), (0, .ref mm)]) hx hb dX8_digest_461 rfl hl (by decide) rfl (fun ls hl => ?_)
  refine lv_iinc (k := 1) (v := 3) (lv' := [(6, .int 3), (1, .long (-412001089027511100)), (5, .int 3), (8, .int 3), (9, .ref r_59), (7, .int 3), (4, .ref q_50), (3, .ref q_41), (0, .ref mm)]) hx hb dX8_digest_462 hl rfl (by decide) (by decide) rfl (fun ls hl => ?_)
  refine lv_goto (tgt := 440) hx hb dX8_digest_465 (by decide) ?_
  refine lv_iload hx hb dX8_digest_440 (lv_at hl 0 rfl) ?_
  refine lv_iconst (v := 4) hx hb dX8_digest_442 (by decide) ?_
  refine lv_icmp_gt (tgt := 468) hx hb dX8_digest_443 (by decide) (fun h9 => absurd h9 (by decide)) (fun _ => ?_)
  refine lv_lload_n hx hb dX8_digest_446 rfl (lv_at hl 1 rfl) ?_
  refine lv_ldc2 (v := 31) hx hb hown (hts (.constantLong RX8 232 31) (by decide +kernel)) dX8_digest_447 ?_
  refine lv_lmul hx hb dX8_digest_450 ?_
  refine lv_topl (fun y_196 ey_196 => ?_)
  obtain rfl : y_196 = 5674710313856707516 := ey_196.trans (by decide)
  refine lv_aload_n hx hb dX8_digest_451 rfl (lv_at hl 8 rfl) ?_
  refine lv_iload hx hb dX8_digest_452 (lv_at hl 2 rfl) ?_
  refine lv_iload hx hb dX8_digest_454 (lv_at hl 0 rfl) ?_
  have hPc := hP.sub (ws' := [(mm, .inr (10, [.int 0, .ref pl, .ref ig, .ref sl, .ref kl, .int 0, .int 0, .int 0])), (pl, .inr (1, [.int 0, .ref dz, .int 0])), (sl, .inr (1, [.int 0, .ref dz, .int 0]))]) [6, 7, 8] rfl
  have hDc := hD.sub (ws' := [(mm, .inr (10, [.int 0, .ref pl, .ref ig, .ref sl, .ref kl, .int 0, .int 0, .int 0])), (pl, .inr (1, [.int 0, .ref dz, .int 0])), (sl, .inr (1, [.int 0, .ref dz, .int 0]))]) [6, 7, 8] (by decide) rfl
  have hKc := hK.sub (tys' := []) [] rfl
  have hFc := va_free (wc := [(mm, .inr (10, [.int 0, .ref pl, .ref ig, .ref sl, .ref kl, .int 0, .int 0, .int 0])), (pl, .inr (1, [.int 0, .ref dz, .int 0])), (sl, .inr (1, [.int 0, .ref dz, .int 0]))]) hD hS hA [6, 7, 8] rfl
  refine va_calli (va_runV (As := [.int 3, .int 3]) (rest := [.long 5674710313856707516]) ⟨hx, hb, hml, hown, hts⟩ (c_X8_partyNow l dC dI mm pl ig sl kl dz (3 : Int32) (3 : Int32) _ (by unfold vp_in; decide)) (cwV 2 hts gX8_digest_X8_partyNow rfl rfl rfl (by decide +kernel) ⟨Nat.le_of_ble_eq_true rfl, Nat.le_of_ble_eq_true rfl⟩) ⟨pe_blind mo_bl, va_recv hKc hPc (ci := 10) (q0 := 0) rfl rfl, fun U hU hW => ⟨rfl, pr_mk hU hW hPc hKc hDc, mo_mk hW hXs.1⟩⟩ rfl rfl hl.1 rfl (lv_room (Nat.le_of_ble_eq_true rfl)) dX8_digest_456 ⟨Nat.le_of_ble_eq_true rfl, Nat.le_of_ble_eq_true rfl⟩) hS (fun q _ h => hFc q h) hFc (fun r_198 u_197 t H1 locs ht hvm hw hB hz1 hk1 hS => ?_)
  obtain ⟨hP1, hK1, hD1⟩ := hB
  rw [ht] at hP1
  obtain ⟨hP, hD⟩ := va_join (wr := [(q_41, .inr (1, [.int 0, .ref dz, .int 0])), (kl, .inr (1, [.int 0, .ref dz, .int 0])), (q_50, .inl (c_51, 3, .inr (.inr (.inr (.inr (va_up (va_up (va_up (fun _ => none) (0 : Int32).toNatClampNeg (some r_53)) (1 : Int32).toNatClampNeg (some r_56)) (2 : Int32).toNatClampNeg (some r_59))))))), (r_53, .inl (q_54, 4, .inl zi)), (r_56, .inl (q_54, 4, .inl zi)), (r_59, .inl (q_54, 4, .inl zi))]) (w1 := [(mm, .inr (10, [.int 0, .ref pl, .ref ig, .ref sl, .ref kl, .int 0, .int 0, .int 0])), (pl, .inr (1, [.int 0, .ref dz, .int 0])), (sl, .inr (1, [.int 0, .ref dz, .int 0]))]) hP hD [6, 7, 8] [0, 1, 2, 3, 4, 5] rfl rfl (by decide) (by decide) hk1 hFc hP1 hD1
  generalize H1 = H at hP hS ⊢
  have hP : va_P (dC, dI) vwCl [(q_41, .inr (1, [.int 0, .ref dz, .int 0])), (kl, .inr (1, [.int 0, .ref dz, .int 0])), (q_50, .inl (c_51, 3, .inr (.inr (.inr (.inr (va_up (va_up (va_up (fun _ => none) (0 : Int32).toNatClampNeg (some r_53)) (1 : Int32).toNatClampNeg (some r_56)) (2 : Int32).toNatClampNeg (some r_59))))))), (r_53, .inl (q_54, 4, .inl zi)), (r_56, .inl (q_54, 4, .inl zi)), (r_59, .inl (q_54, 4, .inl zi)), (mm, .inr (10, [.int 0, .ref pl, .ref ig, .ref sl, .ref kl, .int 0, .int 0, .int 0])), (pl, .inr (1, [.int 0, .ref dz, .int 0])), (sl, .inr (1, [.int 0, .ref dz, .int 0]))] H := hP
  have hD : va_D A [(q_41, .inr (1, [.int 0, .ref dz, .int 0])), (kl, .inr (1, [.int 0, .ref dz, .int 0])), (q_50, .inl (c_51, 3, .inr (.inr (.inr (.inr (va_up (va_up (va_up (fun _ => none) (0 : Int32).toNatClampNeg (some r_53)) (1 : Int32).toNatClampNeg (some r_56)) (2 : Int32).toNatClampNeg (some r_59))))))), (r_53, .inl (q_54, 4, .inl zi)), (r_56, .inl (q_54, 4, .inl zi)), (r_59, .inl (q_54, 4, .inl zi)), (mm, .inr (10, [.int 0, .ref pl, .ref ig, .ref sl, .ref kl, .int 0, .int 0, .int 0])), (pl, .inr (1, [.int 0, .ref dz, .int 0])), (sl, .inr (1, [.int 0, .ref dz, .int 0]))] := hD
  refine W.widen (k := 40) (n := 240) (Nat.le_of_ble_eq_true rfl) (Nat.le_of_ble_eq_true rfl) ?_
  have hw : r_198 = 0 := hw
  subst hw
  refine lv_i2l (v := 0) hx hb dX8_digest_459 (by decide) ?_
  refine lv_ladd hx hb dX8_digest_460 ?_
  refine lv_topl (fun y_199 ey_199 => ?_)
  obtain rfl : y_199 = 5674710313856707516 := ey_199.trans (by decide)
  refine lv_lstore_n (lv' := [(1, .long 5674710313856707516), (6, .int 3), (5, .int 3), (8, .int 3), (9, .ref r_59), (7, .int 3), (4, .ref q_50), (3, .ref q_41), (0, .ref mm)]) hx hb dX8_digest_461 rfl hl (by decide) rfl (fun ls hl => ?_)
  refine lv_iinc (k := 1) (v := 4) (lv' := [(6, .int 4), (1, .long 5674710313856707516), (5, .int 3), (8, .int 3), (9, .ref r_59), (7, .int 3), (4, .ref q_50), (3, .ref q_41), (0, .ref mm)]) hx hb dX8_digest_462 hl rfl (by decide) (by decide) rfl (fun ls hl => ?_)
  refine lv_goto (tgt := 440) hx hb dX8_digest_465 (by decide) ?_
  refine lv_iload hx hb dX8_digest_440 (lv_at hl 0 rfl) ?_
  refine lv_iconst (v := 4) hx hb dX8_digest_442 (by decide) ?_
  refine lv_icmp_gt (tgt := 468) hx hb dX8_digest_443 (by decide) (fun h9 => absurd h9 (by decide)) (fun _ => ?_)
  refine lv_lload_n hx hb dX8_digest_446 rfl (lv_at hl 1 rfl) ?_
  refine lv_ldc2 (v := 31) hx hb hown (hts (.constantLong RX8 232 31) (by decide +kernel)) dX8_digest_447 ?_
  refine lv_lmul hx hb dX8_digest_450 ?_
  refine lv_topl (fun y_200 ey_200 => ?_)
  obtain rfl : y_200 = (-8551421007537583164) := ey_200.trans (by decide)
  refine lv_aload_n hx hb dX8_digest_451 rfl (lv_at hl 8 rfl) ?_
  refine lv_iload hx hb dX8_digest_452 (lv_at hl 2 rfl) ?_
  refine lv_iload hx hb dX8_digest_454 (lv_at hl 0 rfl) ?_
  have hPc := hP.sub (ws' := [(mm, .inr (10, [.int 0, .ref pl, .ref ig, .ref sl, .ref kl, .int 0, .int 0, .int 0])), (pl, .inr (1, [.int 0, .ref dz, .int 0])), (sl, .inr (1, [.int 0, .ref dz, .int 0]))]) [6, 7, 8] rfl
  have hDc := hD.sub (ws' := [(mm, .inr (10, [.int 0, .ref pl, .ref ig, .ref sl, .ref kl, .int 0, .int 0, .int 0])), (pl, .inr (1, [.int 0, .ref dz, .int 0])), (sl, .inr (1, [.int 0, .ref dz, .int 0]))]) [6, 7, 8] (by decide) rfl
  have hKc := hK.sub (tys' := []) [] rfl
  have hFc := va_free (wc := [(mm, .inr (10, [.int 0, .ref pl, .ref ig, .ref sl, .ref kl, .int 0, .int 0, .int 0])), (pl, .inr (1, [.int 0, .ref dz, .int 0])), (sl, .inr (1, [.int 0, .ref dz, .int 0]))]) hD hS hA [6, 7, 8] rfl
  refine va_calli (va_runV (As := [.int 3, .int 4]) (rest := [.long (-8551421007537583164)]) ⟨hx, hb, hml, hown, hts⟩ (c_X8_partyNow l dC dI mm pl ig sl kl dz (3 : Int32) (4 : Int32) _ (by unfold vp_in; decide)) (cwV 2 hts gX8_digest_X8_partyNow rfl rfl rfl (by decide +kernel) ⟨Nat.le_of_ble_eq_true rfl, Nat.le_of_ble_eq_true rfl⟩) ⟨pe_blind mo_bl, va_recv hKc hPc (ci := 10) (q0 := 0) rfl rfl, fun U hU hW => ⟨rfl, pr_mk hU hW hPc hKc hDc, mo_mk hW hXs.1⟩⟩ rfl rfl hl.1 rfl (lv_room (Nat.le_of_ble_eq_true rfl)) dX8_digest_456 ⟨Nat.le_of_ble_eq_true rfl, Nat.le_of_ble_eq_true rfl⟩) hS (fun q _ h => hFc q h) hFc (fun r_202 u_201 t H1 locs ht hvm hw hB hz1 hk1 hS => ?_)
  obtain ⟨hP1, hK1, hD1⟩ := hB
  rw [ht] at hP1
  obtain ⟨hP, hD⟩ := va_join (wr := [(q_41, .inr (1, [.int 0, .ref dz, .int 0])), (kl, .inr (1, [.int 0, .ref dz, .int 0])), (q_50, .inl (c_51, 3, .inr (.inr (.inr (.inr (va_up (va_up (va_up (fun _ => none) (0 : Int32).toNatClampNeg (some r_53)) (1 : Int32).toNatClampNeg (some r_56)) (2 : Int32).toNatClampNeg (some r_59))))))), (r_53, .inl (q_54, 4, .inl zi)), (r_56, .inl (q_54, 4, .inl zi)), (r_59, .inl (q_54, 4, .inl zi))]) (w1 := [(mm, .inr (10, [.int 0, .ref pl, .ref ig, .ref sl, .ref kl, .int 0, .int 0, .int 0])), (pl, .inr (1, [.int 0, .ref dz, .int 0])), (sl, .inr (1, [.int 0, .ref dz, .int 0]))]) hP hD [6, 7, 8] [0, 1, 2, 3, 4, 5] rfl rfl (by decide) (by decide) hk1 hFc hP1 hD1
  generalize H1 = H at hP hS ⊢
  have hP : va_P (dC, dI) vwCl [(q_41, .inr (1, [.int 0, .ref dz, .int 0])), (kl, .inr (1, [.int 0, .ref dz, .int 0])), (q_50, .inl (c_51, 3, .inr (.inr (.inr (.inr (va_up (va_up (va_up (fun _ => none) (0 : Int32).toNatClampNeg (some r_53)) (1 : Int32).toNatClampNeg (some r_56)) (2 : Int32).toNatClampNeg (some r_59))))))), (r_53, .inl (q_54, 4, .inl zi)), (r_56, .inl (q_54, 4, .inl zi)), (r_59, .inl (q_54, 4, .inl zi)), (mm, .inr (10, [.int 0, .ref pl, .ref ig, .ref sl, .ref kl, .int 0, .int 0, .int 0])), (pl, .inr (1, [.int 0, .ref dz, .int 0])), (sl, .inr (1, [.int 0, .ref dz, .int 0]))] H := hP
  have hD : va_D A [(q_41, .inr (1, [.int 0, .ref dz, .int 0])), (kl, .inr (1, [.int 0, .ref dz, .int 0])), (q_50, .inl (c_51, 3, .inr (.inr (.inr (.inr (va_up (va_up (va_up (fun _ => none) (0 : Int32).toNatClampNeg (some r_53)) (1 : Int32).toNatClampNeg (some r_56)) (2 : Int32).toNatClampNeg (some r_59))))))), (r_53, .inl (q_54, 4, .inl zi)), (r_56, .inl (q_54, 4, .inl zi)), (r_59, .inl (q_54, 4, .inl zi)), (mm, .inr (10, [.int 0, .ref pl, .ref ig, .ref sl, .ref kl, .int 0, .int 0, .int 0])), (pl, .inr (1, [.int 0, .ref dz, .int 0])), (sl, .inr (1, [.int 0, .ref dz, .int 0]))] := hD
  refine W.widen (k := 41) (n := 245) (Nat.le_of_ble_eq_true rfl) (Nat.le_of_ble_eq_true rfl) ?_
  have hw : r_202 = 0 := hw
  subst hw
  refine lv_i2l (v := 0) hx hb dX8_digest_459 (by decide) ?_
  refine lv_ladd hx hb dX8_digest_460 ?_
  refine lv_topl (fun y_203 ey_203 => ?_)
  obtain rfl : y_203 = (-8551421007537583164) := ey_203.trans (by decide)
  refine lv_lstore_n (lv' := [(1, .long (-8551421007537583164)), (6, .int 4), (5, .int 3), (8, .int 3), (9, .ref r_59), (7, .int 3), (4, .ref q_50), (3, .ref q_41), (0, .ref mm)]) hx hb dX8_digest_461 rfl hl (by decide) rfl (fun ls hl => ?_)
  refine lv_iinc (k := 1) (v := 5) (lv' := [(6, .int 5), (1, .long (-8551421007537583164)), (5, .int 3), (8, .int 3), (9, .ref r_59), (7, .int 3), (4, .ref q_50), (3, .ref q_41), (0, .ref mm)]) hx hb dX8_digest_462 hl rfl (by decide) (by decide) rfl (fun ls hl => ?_)
  refine lv_goto (tgt := 440) hx hb dX8_digest_465 (by decide) ?_
  refine lv_iload hx hb dX8_digest_440 (lv_at hl 0 rfl) ?_
  refine lv_iconst (v := 4) hx hb dX8_digest_442 (by decide) ?_
  refine lv_icmp_gt (tgt := 468) hx hb dX8_digest_443 (by decide) (fun _ => ?_) (fun h9 => absurd h9 (by decide))
  refine lv_aload hx hb dX8_digest_468 (lv_at hl 6 rfl) ?_
  refine lv_astore (lv' := [(6, .ref q_50), (1, .long (-8551421007537583164)), (5, .int 3), (8, .int 3), (9, .ref r_59), (7, .int 3), (4, .ref q_50), (3, .ref q_41), (0, .ref mm)]) hx hb dX8_digest_470 hl (by decide) rfl (fun ls hl => ?_)
  refine lv_aload hx hb dX8_digest_472 (lv_at hl 0 rfl) ?_
  refine va_alen (v := 3) hx hb hK hP 2 0 rfl rfl rfl dX8_digest_474 ?_
  refine lv_istore (lv' := [(7, .int 3), (6, .ref q_50), (1, .long (-8551421007537583164)), (5, .int 3), (8, .int 3), (9, .ref r_59), (4, .ref q_50), (3, .ref q_41), (0, .ref mm)]) hx hb dX8_digest_475 hl (by decide) rfl (fun ls hl => ?_)
  refine lv_iconst (v := 0) hx hb dX8_digest_477 (by decide) ?_
  refine lv_istore (lv' := [(8, .int 0), (7, .int 3), (6, .ref q_50), (1, .long (-8551421007537583164)), (5, .int 3), (9, .ref r_59), (4, .ref q_50), (3, .ref q_41), (0, .ref mm)]) hx hb dX8_digest_478 hl (by decide) rfl (fun ls hl => ?_)
  refine lv_iload hx hb dX8_digest_480 (lv_at hl 0 rfl) ?_
  refine lv_iload hx hb dX8_digest_482 (lv_at hl 1 rfl) ?_
  refine lv_icmp_ge (tgt := 530) hx hb dX8_digest_484 (by decide) (fun h9 => absurd h9 (by decide)) (fun _ => ?_)
  refine lv_aload hx hb dX8_digest_487 (lv_at hl 2 rfl) ?_
  refine lv_iload hx hb dX8_digest_489 (lv_at hl 0 rfl) ?_
  refine gd_ld (v := .ref r_53) hx hb hK hP 2 0 rfl rfl (by unfold vp_in; decide) rfl dX8_digest_491 ?_
  refine lv_astore (lv' := [(9, .ref r_53), (8, .int 0), (7, .int 3), (6, .ref q_50), (1, .long (-8551421007537583164)), (5, .int 3), (4, .ref q_50), (3, .ref q_41), (0, .ref mm)]) hx hb dX8_digest_492 hl (by decide) rfl (fun ls hl => ?_)
  refine lv_lload_n hx hb dX8_digest_494 rfl (lv_at hl 4 rfl) ?_
  refine lv_ldc2 (v := 31) hx hb hown (hts (.constantLong RX8 232 31) (by decide +kernel)) dX8_digest_495 ?_
  refine lv_lmul hx hb dX8_digest_498 ?_
  refine lv_topl (fun y_204 ey_204 => ?_)
  obtain rfl : y_204 = (-6839634201731355460) := ey_204.trans (by decide)
  refine lv_aload hx hb dX8_digest_499 (lv_at hl 0 rfl) ?_
  refine lv_iload hx hb dX8_digest_501 (lv_at hl 5 rfl) ?_
  refine va_iald hx hb hK hP 3 1 rfl rfl (by unfold vp_in; decide) dX8_digest_503 ?_
  refine lv_topi (fun y_205 ey_205 => ?_)
  obtain rfl : y_205 = 0 := ey_205.trans (by rfl)
  refine lv_i2l (v := 0) hx hb dX8_digest_504 (by decide) ?_
  refine lv_ladd hx hb dX8_digest_505 ?_
  refine lv_topl (fun y_206 ey_206 => ?_)
  obtain rfl : y_206 = (-6839634201731355460) := ey_206.trans (by decide)
  refine lv_lstore_n (lv' := [(1, .long (-6839634201731355460)), (9, .ref r_53), (8, .int 0), (7, .int 3), (6, .ref q_50), (5, .int 3), (4, .ref q_50), (3, .ref q_41), (0, .ref mm)]) hx hb dX8_digest_506 rfl hl (by decide) rfl (fun ls hl => ?_)
  refine lv_lload_n hx hb dX8_digest_507 rfl (lv_at hl 0 rfl) ?_
  refine lv_ldc2 (v := 31) hx hb hown (hts (.constantLong RX8 232 31) (by decide +kernel)) dX8_digest_508 ?_
  refine lv_lmul hx hb dX8_digest_511 ?_
  refine lv_topl (fun y_207 ey_207 => ?_)
  obtain rfl : y_207 = (-9114475442866951484) := ey_207.trans (by decide)
  refine lv_aload hx hb dX8_digest_512 (lv_at hl 1 rfl) ?_
  refine lv_iload hx hb dX8_digest_514 (lv_at hl 5 rfl) ?_
  refine lv_bipush (v := 20) hx hb dX8_digest_516 (by decide) ?_
  have hPc := hP.sub (ws' := [(r_53, .inl (q_54, 4, .inl zi))]) [3] rfl
  have hDc := hD.sub (ws' := [(r_53, .inl (q_54, 4, .inl zi))]) [3] (by decide) rfl
  have hKc := hK.sub (tys' := [(q_54, .int)]) [1] rfl
  have hFc := va_free (wc := [(r_53, .inl (q_54, 4, .inl zi))]) hD hS hA [3] rfl
  refine va_calli (va_runS (As := [.ref r_53, .int 3, .int 20]) (rest := [.long (-9114475442866951484)]) ⟨hx, hb, hml, hown, hts⟩ (c_X8_swingsNow l dC dI r_53 q_54 (3 : Int32) (20 : Int32) _ (by decide) (by decide)) (va_cwS 3 hts gX8_digest_X8_swingsNow rfl rfl rfl (by decide +kernel) ⟨Nat.le_of_ble_eq_true rfl, Nat.le_of_ble_eq_true rfl⟩) ⟨pr_blind, fun U hU hW => ⟨rfl, pr_mk hU hW hPc hKc hDc⟩⟩ rfl rfl hl.1 rfl (lv_room (Nat.le_of_ble_eq_true rfl)) dX8_digest_518 ⟨Nat.le_of_ble_eq_true rfl, Nat.le_of_ble_eq_true rfl⟩) hS (fun q _ h => hFc q h) hFc (fun r_209 u_208 t H1 locs ht hvm hw hB hz1 hk1 hS => ?_)
  obtain ⟨hP1, hK1, hD1⟩ := hB
  rw [ht] at hP1
  obtain ⟨hP, hD⟩ := va_join (wr := [(q_41, .inr (1, [.int 0, .ref dz, .int 0])), (kl, .inr (1, [.int 0, .ref dz, .int 0])), (q_50, .inl (c_51, 3, .inr (.inr (.inr (.inr (va_up (va_up (va_up (fun _ => none) (0 : Int32).toNatClampNeg (some r_53)) (1 : Int32).toNatClampNeg (some r_56)) (2 : Int32).toNatClampNeg (some r_59))))))), (r_56, .inl (q_54, 4, .inl zi)), (r_59, .inl (q_54, 4, .inl zi)), (mm, .inr (10, [.int 0, .ref pl, .ref ig, .ref sl, .ref kl, .int 0, .int 0, .int 0])), (pl, .inr (1, [.int 0, .ref dz, .int 0])), (sl, .inr (1, [.int 0, .ref dz, .int 0]))]) (w1 := [(r_53, .inl (q_54, 4, .inl zi))]) hP hD [3] [0, 1, 2, 4, 5, 6, 7, 8] rfl rfl (by decide) (by decide) hk1 hFc hP1 hD1
  generalize H1 = H at hP hS ⊢
  have hP : va_P (dC, dI) vwCl [(q_41, .inr (1, [.int 0, .ref dz, .int 0])), (kl, .inr (1, [.int 0, .ref dz, .int 0])), (q_50, .inl (c_51, 3, .inr (.inr (.inr (.inr (va_up (va_up (va_up (fun _ => none) (0 : Int32).toNatClampNeg (some r_53)) (1 : Int32).toNatClampNeg (some r_56)) (2 : Int32).toNatClampNeg (some r_59))))))), (r_56, .inl (q_54, 4, .inl zi)), (r_59, .inl (q_54, 4, .inl zi)), (mm, .inr (10, [.int 0, .ref pl, .ref ig, .ref sl, .ref kl, .int 0, .int 0, .int 0])), (pl, .inr (1, [.int 0, .ref dz, .int 0])), (sl, .inr (1, [.int 0, .ref dz, .int 0])), (r_53, .inl (q_54, 4, .inl zi))] H := hP
  have hD : va_D A [(q_41, .inr (1, [.int 0, .ref dz, .int 0])), (kl, .inr (1, [.int 0, .ref dz, .int 0])), (q_50, .inl (c_51, 3, .inr (.inr (.inr (.inr (va_up (va_up (va_up (fun _ => none) (0 : Int32).toNatClampNeg (some r_53)) (1 : Int32).toNatClampNeg (some r_56)) (2 : Int32).toNatClampNeg (some r_59))))))), (r_56, .inl (q_54, 4, .inl zi)), (r_59, .inl (q_54, 4, .inl zi)), (mm, .inr (10, [.int 0, .ref pl, .ref ig, .ref sl, .ref kl, .int 0, .int 0, .int 0])), (pl, .inr (1, [.int 0, .ref dz, .int 0])), (sl, .inr (1, [.int 0, .ref dz, .int 0])), (r_53, .inl (q_54, 4, .inl zi))] := hD
  refine W.widen (k := 41) (n := 245) (Nat.le_refl _) (Nat.le_refl _) ?_
  have hw : r_209 = 0 := hw
  subst hw
  refine lv_i2l (v := 0) hx hb dX8_digest_521 (by decide) ?_
  refine lv_ladd hx hb dX8_digest_522 ?_
  refine lv_topl (fun y_210 ey_210 => ?_)
  obtain rfl : y_210 = (-9114475442866951484) := ey_210.trans (by decide)
  refine lv_lstore_n (lv' := [(1, .long (-9114475442866951484)), (9, .ref r_53), (8, .int 0), (7, .int 3), (6, .ref q_50), (5, .int 3), (4, .ref q_50), (3, .ref q_41), (0, .ref mm)]) hx hb dX8_digest_523 rfl hl (by decide) rfl (fun ls hl => ?_)
  refine lv_iinc (k := 2) (v := 1) (lv' := [(8, .int 1), (1, .long (-9114475442866951484)), (9, .ref r_53), (7, .int 3), (6, .ref q_50), (5, .int 3), (4, .ref q_50), (3, .ref q_41), (0, .ref mm)]) hx hb dX8_digest_524 hl rfl (by decide) (by decide) rfl (fun ls hl => ?_)
  refine lv_goto (tgt := 480) hx hb dX8_digest_527 (by decide) ?_
  refine lv_iload hx hb dX8_digest_480 (lv_at hl 0 rfl) ?_
  refine lv_iload hx hb dX8_digest_482 (lv_at hl 3 rfl) ?_
  refine lv_icmp_ge (tgt := 530) hx hb dX8_digest_484 (by decide) (fun h9 => absurd h9 (by decide)) (fun _ => ?_)
  refine lv_aload hx hb dX8_digest_487 (lv_at hl 4 rfl) ?_
  refine lv_iload hx hb dX8_digest_489 (lv_at hl 0 rfl) ?_
  refine gd_ld (v := .ref r_56) hx hb hK hP 2 0 rfl rfl (by unfold vp_in; decide) rfl dX8_digest_491 ?_
  refine lv_astore (lv' := [(9, .ref r_56), (8, .int 1), (1, .long (-9114475442866951484)), (7, .int 3), (6, .ref q_50), (5, .int 3), (4, .ref q_50), (3, .ref q_41), (0, .ref mm)]) hx hb dX8_digest_492 hl (by decide) rfl (fun ls hl => ?_)
  refine lv_lload_n hx hb dX8_digest_494 rfl (lv_at hl 2 rfl) ?_
  refine lv_ldc2 (v := 31) hx hb hown (hts (.constantLong RX8 232 31) (by decide +kernel)) dX8_digest_495 ?_
  refine lv_lmul hx hb dX8_digest_498 ?_
  refine lv_topl (fun y_211 ey_211 => ?_)
  obtain rfl : y_211 = (-5847577623232221764) := ey_211.trans (by decide)
  refine lv_aload hx hb dX8_digest_499 (lv_at hl 0 rfl) ?_
  refine lv_iload hx hb dX8_digest_501 (lv_at hl 5 rfl) ?_
  refine va_iald hx hb hK hP 3 1 rfl rfl (by unfold vp_in; decide) dX8_digest_503 ?_
  refine lv_topi (fun y_212 ey_212 => ?_)
  obtain rfl : y_212 = 0 := ey_212.trans (by rfl)
  refine lv_i2l (v := 0) hx hb dX8_digest_504 (by decide) ?_
  refine lv_ladd hx hb dX8_digest_505 ?_
  refine lv_topl (fun y_213 ey_213 => ?_)
  obtain rfl : y_213 = (-5847577623232221764) := ey_213.trans (by decide)
  refine lv_lstore_n (lv' := [(1, .long (-5847577623232221764)), (9, .ref r_56), (8, .int 1), (7, .int 3), (6, .ref q_50), (5, .int 3), (4, .ref q_50), (3, .ref q_41), (0, .ref mm)]) hx hb dX8_digest_506 rfl hl (by decide) rfl (fun ls hl => ?_)
  refine lv_lload_n hx hb dX8_digest_507 rfl (lv_at hl 0 rfl) ?_
  refine lv_ldc2 (v := 31) hx hb hown (hts (.constantLong RX8 232 31) (by decide +kernel)) dX8_digest_508 ?_
  refine lv_lmul hx hb dX8_digest_511 ?_
  refine lv_topl (fun y_214 ey_214 => ?_)
  obtain rfl : y_214 = 3192534416896641476 := ey_214.trans (by decide)
  refine lv_aload hx hb dX8_digest_512 (lv_at hl 1 rfl) ?_
  refine lv_iload hx hb dX8_digest_514 (lv_at hl 5 rfl) ?_
  refine lv_bipush (v := 20) hx hb dX8_digest_516 (by decide) ?_
  have hPc := hP.sub (ws' := [(r_56, .inl (q_54, 4, .inl zi))]) [3] rfl
  have hDc := hD.sub (ws' := [(r_56, .inl (q_54, 4, .inl zi))]) [3] (by decide) rfl
  have hKc := hK.sub (tys' := [(q_54, .int)]) [1] rfl
  have hFc := va_free (wc := [(r_56, .inl (q_54, 4, .inl zi))]) hD hS hA [3] rfl
  refine va_calli (va_runS (As := [.ref r_56, .int 3, .int 20]) (rest := [.long 3192534416896641476]) ⟨hx, hb, hml, hown, hts⟩ (c_X8_swingsNow l dC dI r_56 q_54 (3 : Int32) (20 : Int32) _ (by decide) (by decide)) (va_cwS 3 hts gX8_digest_X8_swingsNow rfl rfl rfl (by decide +kernel) ⟨Nat.le_of_ble_eq_true rfl, Nat.le_of_ble_eq_true rfl⟩) ⟨pr_blind, fun U hU hW => ⟨rfl, pr_mk hU hW hPc hKc hDc⟩⟩ rfl rfl hl.1 rfl (lv_room (Nat.le_of_ble_eq_true rfl)) dX8_digest_518 ⟨Nat.le_of_ble_eq_true rfl, Nat.le_of_ble_eq_true rfl⟩) hS (fun q _ h => hFc q h) hFc (fun r_216 u_215 t H1 locs ht hvm hw hB hz1 hk1 hS => ?_)
  obtain ⟨hP1, hK1, hD1⟩ := hB
  rw [ht] at hP1
  obtain ⟨hP, hD⟩ := va_join (wr := [(q_41, .inr (1, [.int 0, .ref dz, .int 0])), (kl, .inr (1, [.int 0, .ref dz, .int 0])), (q_50, .inl (c_51, 3, .inr (.inr (.inr (.inr (va_up (va_up (va_up (fun _ => none) (0 : Int32).toNatClampNeg (some r_53)) (1 : Int32).toNatClampNeg (some r_56)) (2 : Int32).toNatClampNeg (some r_59))))))), (r_59, .inl (q_54, 4, .inl zi)), (mm, .inr (10, [.int 0, .ref pl, .ref ig, .ref sl, .ref kl, .int 0, .int 0, .int 0])), (pl, .inr (1, [.int 0, .ref dz, .int 0])), (sl, .inr (1, [.int 0, .ref dz, .int 0])), (r_53, .inl (q_54, 4, .inl zi))]) (w1 := [(r_56, .inl (q_54, 4, .inl zi))]) hP hD [3] [0, 1, 2, 4, 5, 6, 7, 8] rfl rfl (by decide) (by decide) hk1 hFc hP1 hD1
  generalize H1 = H at hP hS ⊢
  have hP : va_P (dC, dI) vwCl [(q_41, .inr (1, [.int 0, .ref dz, .int 0])), (kl, .inr (1, [.int 0, .ref dz, .int 0])), (q_50, .inl (c_51, 3, .inr (.inr (.inr (.inr (va_up (va_up (va_up (fun _ => none) (0 : Int32).toNatClampNeg (some r_53)) (1 : Int32).toNatClampNeg (some r_56)) (2 : Int32).toNatClampNeg (some r_59))))))), (r_59, .inl (q_54, 4, .inl zi)), (mm, .inr (10, [.int 0, .ref pl, .ref ig, .ref sl, .ref kl, .int 0, .int 0, .int 0])), (pl, .inr (1, [.int 0, .ref dz, .int 0])), (sl, .inr (1, [.int 0, .ref dz, .int 0])), (r_53, .inl (q_54, 4, .inl zi)), (r_56, .inl (q_54, 4, .inl zi))] H := hP
  have hD : va_D A [(q_41, .inr (1, [.int 0, .ref dz, .int 0])), (kl, .inr (1, [.int 0, .ref dz, .int 0])), (q_50, .inl (c_51, 3, .inr (.inr (.inr (.inr (va_up (va_up (va_up (fun _ => none) (0 : Int32).toNatClampNeg (some r_53)) (1 : Int32).toNatClampNeg (some r_56)) (2 : Int32).toNatClampNeg (some r_59))))))), (r_59, .inl (q_54, 4, .inl zi)), (mm, .inr (10, [.int 0, .ref pl, .ref ig, .ref sl, .ref kl, .int 0, .int 0, .int 0])), (pl, .inr (1, [.int 0, .ref dz, .int 0])), (sl, .inr (1, [.int 0, .ref dz, .int 0])), (r_53, .inl (q_54, 4, .inl zi)), (r_56, .inl (q_54, 4, .inl zi))] := hD
  refine W.widen (k := 41) (n := 245) (Nat.le_refl _) (Nat.le_refl _) ?_
  have hw : r_216 = 0 := hw
  subst hw
  refine lv_i2l (v := 0) hx hb dX8_digest_521 (by decide) ?_
  refine lv_ladd hx hb dX8_digest_522 ?_
  refine lv_topl (fun y_217 ey_217 => ?_)
  obtain rfl : y_217 = 3192534416896641476 := ey_217.trans (by decide)
  refine lv_lstore_n (lv' := [(1, .long 3192534416896641476), (9, .ref r_56), (8, .int 1), (7, .int 3), (6, .ref q_50), (5, .int 3), (4, .ref q_50), (3, .ref q_41), (0, .ref mm)]) hx hb dX8_digest_523 rfl hl (by decide) rfl (fun ls hl => ?_)
  refine lv_iinc (k := 2) (v := 2) (lv' := [(8, .int 2), (1, .long 3192534416896641476), (9, .ref r_56), (7, .int 3), (6, .ref q_50), (5, .int 3), (4, .ref q_50), (3, .ref q_41), (0, .ref mm)]) hx hb dX8_digest_524 hl rfl (by decide) (by decide) rfl (fun ls hl => ?_)
  refine lv_goto (tgt := 480) hx hb dX8_digest_527 (by decide) ?_
  refine lv_iload hx hb dX8_digest_480 (lv_at hl 0 rfl) ?_
  refine lv_iload hx hb dX8_digest_482 (lv_at hl 3 rfl) ?_
  refine lv_icmp_ge (tgt := 530) hx hb dX8_digest_484 (by decide) (fun h9 => absurd h9 (by decide)) (fun _ => ?_)
  refine lv_aload hx hb dX8_digest_487 (lv_at hl 4 rfl) ?_
  refine lv_iload hx hb dX8_digest_489 (lv_at hl 0 rfl) ?_
  refine gd_ld (v := .ref r_59) hx hb hK hP 2 0 rfl rfl (by unfold vp_in; decide) rfl dX8_digest_491 ?_
  refine lv_astore (lv' := [(9, .ref r_59), (8, .int 2), (1, .long 3192534416896641476), (7, .int 3), (6, .ref q_50), (5, .int 3), (4, .ref q_50), (3, .ref q_41), (0, .ref mm)]) hx hb dX8_digest_492 hl (by decide) rfl (fun ls hl => ?_)
  refine lv_lload_n hx hb dX8_digest_494 rfl (lv_at hl 2 rfl) ?_
  refine lv_ldc2 (v := 31) hx hb hown (hts (.constantLong RX8 232 31) (by decide +kernel)) dX8_digest_495 ?_
  refine lv_lmul hx hb dX8_digest_498 ?_
  refine lv_topl (fun y_218 ey_218 => ?_)
  obtain rfl : y_218 = 6734846555248127676 := ey_218.trans (by decide)
  refine lv_aload hx hb dX8_digest_499 (lv_at hl 0 rfl) ?_
  refine lv_iload hx hb dX8_digest_501 (lv_at hl 5 rfl) ?_
  refine va_iald hx hb hK hP 3 1 rfl rfl (by unfold vp_in; decide) dX8_digest_503 ?_
  refine lv_topi (fun y_219 ey_219 => ?_)
  obtain rfl : y_219 = 0 := ey_219.trans (by rfl)
  refine lv_i2l (v := 0) hx hb dX8_digest_504 (by decide) ?_
  refine lv_ladd hx hb dX8_digest_505 ?_
  refine lv_topl (fun y_220 ey_220 => ?_)
  obtain rfl : y_220 = 6734846555248127676 := ey_220.trans (by decide)
  refine lv_lstore_n (lv' := [(1, .long 6734846555248127676), (9, .ref r_59), (8, .int 2), (7, .int 3), (6, .ref q_50), (5, .int 3), (4, .ref q_50), (3, .ref q_41), (0, .ref mm)]) hx hb dX8_digest_506 rfl hl (by decide) rfl (fun ls hl => ?_)
  refine lv_lload_n hx hb dX8_digest_507 rfl (lv_at hl 0 rfl) ?_
  refine lv_ldc2 (v := 31) hx hb hown (hts (.constantLong RX8 232 31) (by decide +kernel)) dX8_digest_508 ?_
  refine lv_lmul hx hb dX8_digest_511 ?_
  refine lv_topl (fun y_221 ey_221 => ?_)
  obtain rfl : y_221 = 5866058401886890180 := ey_221.trans (by decide)
  refine lv_aload hx hb dX8_digest_512 (lv_at hl 1 rfl) ?_
  refine lv_iload hx hb dX8_digest_514 (lv_at hl 5 rfl) ?_
  refine lv_bipush (v := 20) hx hb dX8_digest_516 (by decide) ?_
  have hPc := hP.sub (ws' := [(r_59, .inl (q_54, 4, .inl zi))]) [3] rfl
  have hDc := hD.sub (ws' := [(r_59, .inl (q_54, 4, .inl zi))]) [3] (by decide) rfl
  have hKc := hK.sub (tys' := [(q_54, .int)]) [1] rfl
  have hFc := va_free (wc := [(r_59, .inl (q_54, 4, .inl zi))]) hD hS hA [3] rfl
  refine va_calli (va_runS (As := [.ref r_59, .int 3, .int 20]) (rest := [.long 5866058401886890180]) ⟨hx, hb, hml, hown, hts⟩ (c_X8_swingsNow l dC dI r_59 q_54 (3 : Int32) (20 : Int32) _ (by decide) (by decide)) (va_cwS 3 hts gX8_digest_X8_swingsNow rfl rfl rfl (by decide +kernel) ⟨Nat.le_of_ble_eq_true rfl, Nat.le_of_ble_eq_true rfl⟩) ⟨pr_blind, fun U hU hW => ⟨rfl, pr_mk hU hW hPc hKc hDc⟩⟩ rfl rfl hl.1 rfl (lv_room (Nat.le_of_ble_eq_true rfl)) dX8_digest_518 ⟨Nat.le_of_ble_eq_true rfl, Nat.le_of_ble_eq_true rfl⟩) hS (fun q _ h => hFc q h) hFc (fun r_223 u_222 t H1 locs ht hvm hw hB hz1 hk1 hS => ?_)
  obtain ⟨hP1, hK1, hD1⟩ := hB
  rw [ht] at hP1
  obtain ⟨hP, hD⟩ := va_join (wr := [(q_41, .inr (1, [.int 0, .ref dz, .int 0])), (kl, .inr (1, [.int 0, .ref dz, .int 0])), (q_50, .inl (c_51, 3, .inr (.inr (.inr (.inr (va_up (va_up (va_up (fun _ => none) (0 : Int32).toNatClampNeg (some r_53)) (1 : Int32).toNatClampNeg (some r_56)) (2 : Int32).toNatClampNeg (some r_59))))))), (mm, .inr (10, [.int 0, .ref pl, .ref ig, .ref sl, .ref kl, .int 0, .int 0, .int 0])), (pl, .inr (1, [.int 0, .ref dz, .int 0])), (sl, .inr (1, [.int 0, .ref dz, .int 0])), (r_53, .inl (q_54, 4, .inl zi)), (r_56, .inl (q_54, 4, .inl zi))]) (w1 := [(r_59, .inl (q_54, 4, .inl zi))]) hP hD [3] [0, 1, 2, 4, 5, 6, 7, 8] rfl rfl (by decide) (by decide) hk1 hFc hP1 hD1
  generalize H1 = H at hP hS ⊢
  have hP : va_P (dC, dI) vwCl [(q_41, .inr (1, [.int 0, .ref dz, .int 0])), (kl, .inr (1, [.int 0, .ref dz, .int 0])), (q_50, .inl (c_51, 3, .inr (.inr (.inr (.inr (va_up (va_up (va_up (fun _ => none) (0 : Int32).toNatClampNeg (some r_53)) (1 : Int32).toNatClampNeg (some r_56)) (2 : Int32).toNatClampNeg (some r_59))))))), (mm, .inr (10, [.int 0, .ref pl, .ref ig, .ref sl, .ref kl, .int 0, .int 0, .int 0])), (pl, .inr (1, [.int 0, .ref dz, .int 0])), (sl, .inr (1, [.int 0, .ref dz, .int 0])), (r_53, .inl (q_54, 4, .inl zi)), (r_56, .inl (q_54, 4, .inl zi)), (r_59, .inl (q_54, 4, .inl zi))] H := hP
  have hD : va_D A [(q_41, .inr (1, [.int 0, .ref dz, .int 0])), (kl, .inr (1, [.int 0, .ref dz, .int 0])), (q_50, .inl (c_51, 3, .inr (.inr (.inr (.inr (va_up (va_up (va_up (fun _ => none) (0 : Int32).toNatClampNeg (some r_53)) (1 : Int32).toNatClampNeg (some r_56)) (2 : Int32).toNatClampNeg (some r_59))))))), (mm, .inr (10, [.int 0, .ref pl, .ref ig, .ref sl, .ref kl, .int 0, .int 0, .int 0])), (pl, .inr (1, [.int 0, .ref dz, .int 0])), (sl, .inr (1, [.int 0, .ref dz, .int 0])), (r_53, .inl (q_54, 4, .inl zi)), (r_56, .inl (q_54, 4, .inl zi)), (r_59, .inl (q_54, 4, .inl zi))] := hD
  refine W.widen (k := 41) (n := 245) (Nat.le_refl _) (Nat.le_refl _) ?_
  have hw : r_223 = 0 := hw
  subst hw
  refine lv_i2l (v := 0) hx hb dX8_digest_521 (by decide) ?_
  refine lv_ladd hx hb dX8_digest_522 ?_
  refine lv_topl (fun y_224 ey_224 => ?_)
  obtain rfl : y_224 = 5866058401886890180 := ey_224.trans (by decide)
  refine lv_lstore_n (lv' := [(1, .long 5866058401886890180), (9, .ref r_59), (8, .int 2), (7, .int 3), (6, .ref q_50), (5, .int 3), (4, .ref q_50), (3, .ref q_41), (0, .ref mm)]) hx hb dX8_digest_523 rfl hl (by decide) rfl (fun ls hl => ?_)
  refine lv_iinc (k := 2) (v := 3) (lv' := [(8, .int 3), (1, .long 5866058401886890180), (9, .ref r_59), (7, .int 3), (6, .ref q_50), (5, .int 3), (4, .ref q_50), (3, .ref q_41), (0, .ref mm)]) hx hb dX8_digest_524 hl rfl (by decide) (by decide) rfl (fun ls hl => ?_)
  refine lv_goto (tgt := 480) hx hb dX8_digest_527 (by decide) ?_
  refine lv_iload hx hb dX8_digest_480 (lv_at hl 0 rfl) ?_
  refine lv_iload hx hb dX8_digest_482 (lv_at hl 3 rfl) ?_
  refine lv_icmp_ge (tgt := 530) hx hb dX8_digest_484 (by decide) (fun _ => ?_) (fun h9 => absurd h9 (by decide))
  refine lv_iinc (k := 5) (v := 4) (lv' := [(5, .int 4), (8, .int 3), (1, .long 5866058401886890180), (9, .ref r_59), (7, .int 3), (6, .ref q_50), (4, .ref q_50), (3, .ref q_41), (0, .ref mm)]) hx hb dX8_digest_530 hl rfl (by decide) (by decide) rfl (fun ls hl => ?_)
  refine lv_goto (tgt := 431) hx hb dX8_digest_533 (by decide) ?_
  refine lv_iload hx hb dX8_digest_431 (lv_at hl 0 rfl) ?_
  refine lv_iconst (v := 4) hx hb dX8_digest_433 (by decide) ?_
  refine lv_icmp_ge (tgt := 536) hx hb dX8_digest_434 (by decide) (fun _ => ?_) (fun h9 => absurd h9 (by decide))
  refine lv_aload hx hb dX8_digest_536 (lv_at hl 6 rfl) ?_
  refine lv_astore (lv' := [(5, .ref q_50), (8, .int 3), (1, .long 5866058401886890180), (9, .ref r_59), (7, .int 3), (6, .ref q_50), (4, .ref q_50), (3, .ref q_41), (0, .ref mm)]) hx hb dX8_digest_538 hl (by decide) rfl (fun ls hl => ?_)
  refine lv_aload hx hb dX8_digest_540 (lv_at hl 0 rfl) ?_
  refine va_alen (v := 3) hx hb hK hP 2 0 rfl rfl rfl dX8_digest_542 ?_
  refine lv_istore (lv' := [(6, .int 3), (5, .ref q_50), (8, .int 3), (1, .long 5866058401886890180), (9, .ref r_59), (7, .int 3), (4, .ref q_50), (3, .ref q_41), (0, .ref mm)]) hx hb dX8_digest_543 hl (by decide) rfl (fun ls hl => ?_)
  refine lv_iconst (v := 0) hx hb dX8_digest_545 (by decide) ?_
  refine lv_istore (lv' := [(7, .int 0), (6, .int 3), (5, .ref q_50), (8, .int 3), (1, .long 5866058401886890180), (9, .ref r_59), (4, .ref q_50), (3, .ref q_41), (0, .ref mm)]) hx hb dX8_digest_546 hl (by decide) rfl (fun ls hl => ?_)
  refine lv_iload hx hb dX8_digest_548 (lv_at hl 0 rfl) ?_
  refine lv_iload hx hb dX8_digest_550 (lv_at hl 1 rfl) ?_
  refine lv_icmp_ge (tgt := 583) hx hb dX8_digest_552 (by decide) (fun h9 => absurd h9 (by decide)) (fun _ => ?_)
  refine lv_aload hx hb dX8_digest_555 (lv_at hl 2 rfl) ?_
  refine lv_iload hx hb dX8_digest_557 (lv_at hl 0 rfl) ?_
  refine gd_ld (v := .ref r_53) hx hb hK hP 2 0 rfl rfl (by unfold vp_in; decide) rfl dX8_digest_559 ?_
  refine lv_astore (lv' := [(8, .ref r_53), (7, .int 0), (6, .int 3), (5, .ref q_50), (1, .long 5866058401886890180), (9, .ref r_59), (4, .ref q_50), (3, .ref q_41), (0, .ref mm)]) hx hb dX8_digest_560 hl (by decide) rfl (fun ls hl => ?_)
  refine lv_lload_n hx hb dX8_digest_562 rfl (lv_at hl 4 rfl) ?_
  refine lv_ldc2 (v := 31) hx hb hown (hts (.constantLong RX8 232 31) (by decide +kernel)) dX8_digest_563 ?_
  refine lv_lmul hx hb dX8_digest_566 ?_
  refine lv_topl (fun y_225 ey_225 => ?_)
  obtain rfl : y_225 = (-2619630278601920580) := ey_225.trans (by decide)
  refine lv_aload hx hb dX8_digest_567 (lv_at hl 0 rfl) ?_
  refine lv_bipush (v := 20) hx hb dX8_digest_569 (by decide) ?_
  have hPc := hP.sub (ws' := [(r_53, .inl (q_54, 4, .inl zi))]) [6] rfl
  have hDc := hD.sub (ws' := [(r_53, .inl (q_54, 4, .inl zi))]) [6] (by decide) rfl
  have hKc := hK.sub (tys' := [(q_54, .int)]) [1] rfl
  have hFc := va_free (wc := [(r_53, .inl (q_54, 4, .inl zi))]) hD hS hA [6] rfl
  refine va_calli (va_runS (As := [.ref r_53, .int 20]) (rest := [.long (-2619630278601920580)]) ⟨hx, hb, hml, hown, hts⟩ (c_X8_coalitionNow l dC dI r_53 q_54 (20 : Int32) _ (by decide)) (va_cwS 2 hts gX8_digest_X8_coalitionNow rfl rfl rfl (by decide +kernel) ⟨Nat.le_of_ble_eq_true rfl, Nat.le_of_ble_eq_true rfl⟩) ⟨pr_blind, fun U hU hW => ⟨rfl, pr_mk hU hW hPc hKc hDc⟩⟩ rfl rfl hl.1 rfl (lv_room (Nat.le_of_ble_eq_true rfl)) dX8_digest_571 ⟨Nat.le_of_ble_eq_true rfl, Nat.le_of_ble_eq_true rfl⟩) hS (fun q _ h => hFc q h) hFc (fun r_227 u_226 t H1 locs ht hvm hw hB hz1 hk1 hS => ?_)
  obtain ⟨hP1, hK1, hD1⟩ := hB
  rw [ht] at hP1
  obtain ⟨hP, hD⟩ := va_join (wr := [(q_41, .inr (1, [.int 0, .ref dz, .int 0])), (kl, .inr (1, [.int 0, .ref dz, .int 0])), (q_50, .inl (c_51, 3, .inr (.inr (.inr (.inr (va_up (va_up (va_up (fun _ => none) (0 : Int32).toNatClampNeg (some r_53)) (1 : Int32).toNatClampNeg (some r_56)) (2 : Int32).toNatClampNeg (some r_59))))))), (mm, .inr (10, [.int 0, .ref pl, .ref ig, .ref sl, .ref kl, .int 0, .int 0, .int 0])), (pl, .inr (1, [.int 0, .ref dz, .int 0])), (sl, .inr (1, [.int 0, .ref dz, .int 0])), (r_56, .inl (q_54, 4, .inl zi)), (r_59, .inl (q_54, 4, .inl zi))]) (w1 := [(r_53, .inl (q_54, 4, .inl zi))]) hP hD [6] [0, 1, 2, 3, 4, 5, 7, 8] rfl rfl (by decide) (by decide) hk1 hFc hP1 hD1
  generalize H1 = H at hP hS ⊢
  have hP : va_P (dC, dI) vwCl [(q_41, .inr (1, [.int 0, .ref dz, .int 0])), (kl, .inr (1, [.int 0, .ref dz, .int 0])), (q_50, .inl (c_51, 3, .inr (.inr (.inr (.inr (va_up (va_up (va_up (fun _ => none) (0 : Int32).toNatClampNeg (some r_53)) (1 : Int32).toNatClampNeg (some r_56)) (2 : Int32).toNatClampNeg (some r_59))))))), (mm, .inr (10, [.int 0, .ref pl, .ref ig, .ref sl, .ref kl, .int 0, .int 0, .int 0])), (pl, .inr (1, [.int 0, .ref dz, .int 0])), (sl, .inr (1, [.int 0, .ref dz, .int 0])), (r_56, .inl (q_54, 4, .inl zi)), (r_59, .inl (q_54, 4, .inl zi)), (r_53, .inl (q_54, 4, .inl zi))] H := hP
  have hD : va_D A [(q_41, .inr (1, [.int 0, .ref dz, .int 0])), (kl, .inr (1, [.int 0, .ref dz, .int 0])), (q_50, .inl (c_51, 3, .inr (.inr (.inr (.inr (va_up (va_up (va_up (fun _ => none) (0 : Int32).toNatClampNeg (some r_53)) (1 : Int32).toNatClampNeg (some r_56)) (2 : Int32).toNatClampNeg (some r_59))))))), (mm, .inr (10, [.int 0, .ref pl, .ref ig, .ref sl, .ref kl, .int 0, .int 0, .int 0])), (pl, .inr (1, [.int 0, .ref dz, .int 0])), (sl, .inr (1, [.int 0, .ref dz, .int 0])), (r_56, .inl (q_54, 4, .inl zi)), (r_59, .inl (q_54, 4, .inl zi)), (r_53, .inl (q_54, 4, .inl zi))] := hD
  refine W.widen (k := 41) (n := 245) (Nat.le_refl _) (Nat.le_refl _) ?_
  have hw : r_227 = 0 := hw
  subst hw
  refine lv_i2l (v := 0) hx hb dX8_digest_574 (by decide) ?_
  refine lv_ladd hx hb dX8_digest_575 ?_
  refine lv_topl (fun y_228 ey_228 => ?_)
  obtain rfl : y_228 = (-2619630278601920580) := ey_228.trans (by decide)
  refine lv_lstore_n (lv' := [(1, .long (-2619630278601920580)), (8, .ref r_53), (7, .int 0), (6, .int 3), (5, .ref q_50), (9, .ref r_59), (4, .ref q_50), (3, .ref q_41), (0, .ref mm)]) hx hb dX8_digest_576 rfl hl (by decide) rfl (fun ls hl => ?_)
  refine lv_iinc (k := 2) (v := 1) (lv' := [(7, .int 1), (1, .long (-2619630278601920580)), (8, .ref r_53), (6, .int 3), (5, .ref q_50), (9, .ref r_59), (4, .ref q_50), (3, .ref q_41), (0, .ref mm)]) hx hb dX8_digest_577 hl rfl (by decide) (by decide) rfl (fun ls hl => ?_)
  refine lv_goto (tgt := 548) hx hb dX8_digest_580 (by decide) ?_
  refine lv_iload hx hb dX8_digest_548 (lv_at hl 0 rfl) ?_
  refine lv_iload hx hb dX8_digest_550 (lv_at hl 3 rfl) ?_
  refine lv_icmp_ge (tgt := 583) hx hb dX8_digest_552 (by decide) (fun h9 => absurd h9 (by decide)) (fun _ => ?_)
  refine lv_aload hx hb dX8_digest_555 (lv_at hl 4 rfl) ?_
  refine lv_iload hx hb dX8_digest_557 (lv_at hl 0 rfl) ?_
  refine gd_ld (v := .ref r_56) hx hb hK hP 2 0 rfl rfl (by unfold vp_in; decide) rfl dX8_digest_559 ?_
  refine lv_astore (lv' := [(8, .ref r_56), (7, .int 1), (1, .long (-2619630278601920580)), (6, .int 3), (5, .ref q_50), (9, .ref r_59), (4, .ref q_50), (3, .ref q_41), (0, .ref mm)]) hx hb dX8_digest_560 hl (by decide) rfl (fun ls hl => ?_)
  refine lv_lload_n hx hb dX8_digest_562 rfl (lv_at hl 2 rfl) ?_
  refine lv_ldc2 (v := 31) hx hb hown (hts (.constantLong RX8 232 31) (by decide +kernel)) dX8_digest_563 ?_
  refine lv_lmul hx hb dX8_digest_566 ?_
  refine lv_topl (fun y_229 ey_229 => ?_)
  obtain rfl : y_229 = (-7421562341821331516) := ey_229.trans (by decide)
  refine lv_aload hx hb dX8_digest_567 (lv_at hl 0 rfl) ?_
  refine lv_bipush (v := 20) hx hb dX8_digest_569 (by decide) ?_
  have hPc := hP.sub (ws' := [(r_56, .inl (q_54, 4, .inl zi))]) [6] rfl
  have hDc := hD.sub (ws' := [(r_56, .inl (q_54, 4, .inl zi))]) [6] (by decide) rfl
  have hKc := hK.sub (tys' := [(q_54, .int)]) [1] rfl
  have hFc := va_free (wc := [(r_56, .inl (q_54, 4, .inl zi))]) hD hS hA [6] rfl
  refine va_calli (va_runS (As := [.ref r_56, .int 20]) (rest := [.long (-7421562341821331516)]) ⟨hx, hb, hml, hown, hts⟩ (c_X8_coalitionNow l dC dI r_56 q_54 (20 : Int32) _ (by decide)) (va_cwS 2 hts gX8_digest_X8_coalitionNow rfl rfl rfl (by decide +kernel) ⟨Nat.le_of_ble_eq_true rfl, Nat.le_of_ble_eq_true rfl⟩) ⟨pr_blind, fun U hU hW => ⟨rfl, pr_mk hU hW hPc hKc hDc⟩⟩ rfl rfl hl.1 rfl (lv_room (Nat.le_of_ble_eq_true rfl)) dX8_digest_571 ⟨Nat.le_of_ble_eq_true rfl, Nat.le_of_ble_eq_true rfl⟩) hS (fun q _ h => hFc q h) hFc (fun r_231 u_230 t H1 locs ht hvm hw hB hz1 hk1 hS => ?_)
  obtain ⟨hP1, hK1, hD1⟩ := hB
  rw [ht] at hP1
  obtain ⟨hP, hD⟩ := va_join (wr := [(q_41, .inr (1, [.int 0, .ref dz, .int 0])), (kl, .inr (1, [.int 0, .ref dz, .int 0])), (q_50, .inl (c_51, 3, .inr (.inr (.inr (.inr (va_up (va_up (va_up (fun _ => none) (0 : Int32).toNatClampNeg (some r_53)) (1 : Int32).toNatClampNeg (some r_56)) (2 : Int32).toNatClampNeg (some r_59))))))), (mm, .inr (10, [.int 0, .ref pl, .ref ig, .ref sl, .ref kl, .int 0, .int 0, .int 0])), (pl, .inr (1, [.int 0, .ref dz, .int 0])), (sl, .inr (1, [.int 0, .ref dz, .int 0])), (r_59, .inl (q_54, 4, .inl zi)), (r_53, .inl (q_54, 4, .inl zi))]) (w1 := [(r_56, .inl (q_54, 4, .inl zi))]) hP hD [6] [0, 1, 2, 3, 4, 5, 7, 8] rfl rfl (by decide) (by decide) hk1 hFc hP1 hD1
  generalize H1 = H at hP hS ⊢
  have hP : va_P (dC, dI) vwCl [(q_41, .inr (1, [.int 0, .ref dz, .int 0])), (kl, .inr (1, [.int 0, .ref dz, .int 0])), (q_50, .inl (c_51, 3, .inr (.inr (.inr (.inr (va_up (va_up (va_up (fun _ => none) (0 : Int32).toNatClampNeg (some r_53)) (1 : Int32).toNatClampNeg (some r_56)) (2 : Int32).toNatClampNeg (some r_59))))))), (mm, .inr (10, [.int 0, .ref pl, .ref ig, .ref sl, .ref kl, .int 0, .int 0, .int 0])), (pl, .inr (1, [.int 0, .ref dz, .int 0])), (sl, .inr (1, [.int 0, .ref dz, .int 0])), (r_59, .inl (q_54, 4, .inl zi)), (r_53, .inl (q_54, 4, .inl zi)), (r_56, .inl (q_54, 4, .inl zi))] H := hP
  have hD : va_D A [(q_41, .inr (1, [.int 0, .ref dz, .int 0])), (kl, .inr (1, [.int 0, .ref dz, .int 0])), (q_50, .inl (c_51, 3, .inr (.inr (.inr (.inr (va_up (va_up (va_up (fun _ => none) (0 : Int32).toNatClampNeg (some r_53)) (1 : Int32).toNatClampNeg (some r_56)) (2 : Int32).toNatClampNeg (some r_59))))))), (mm, .inr (10, [.int 0, .ref pl, .ref ig, .ref sl, .ref kl, .int 0, .int 0, .int 0])), (pl, .inr (1, [.int 0, .ref dz, .int 0])), (sl, .inr (1, [.int 0, .ref dz, .int 0])), (r_59, .inl (q_54, 4, .inl zi)), (r_53, .inl (q_54, 4, .inl zi)), (r_56, .inl (q_54, 4, .inl zi))] := hD
  refine W.widen (k := 41) (n := 245) (Nat.le_refl _) (Nat.le_refl _) ?_
  have hw : r_231 = 0 := hw
  subst hw
  refine lv_i2l (v := 0) hx hb dX8_digest_574 (by decide) ?_
  refine lv_ladd hx hb dX8_digest_575 ?_
  refine lv_topl (fun y_232 ey_232 => ?_)
  obtain rfl : y_232 = (-7421562341821331516) := ey_232.trans (by decide)
  refine lv_lstore_n (lv' := [(1, .long (-7421562341821331516)), (8, .ref r_56), (7, .int 1), (6, .int 3), (5, .ref q_50), (9, .ref r_59), (4, .ref q_50), (3, .ref q_41), (0, .ref mm)]) hx hb dX8_digest_576 rfl hl (by decide) rfl (fun ls hl => ?_)
  refine lv_iinc (k := 2) (v := 2) (lv' := [(7, .int 2), (1, .long (-7421562341821331516)), (8, .ref r_56), (6, .int 3), (5, .ref q_50), (9, .ref r_59), (4, .ref q_50), (3, .ref q_41), (0, .ref mm)]) hx hb dX8_digest_577 hl rfl (by decide) (by decide) rfl (fun ls hl => ?_)
  refine lv_goto (tgt := 548) hx hb dX8_digest_580 (by decide) ?_
  refine lv_iload hx hb dX8_digest_548 (lv_at hl 0 rfl) ?_
  refine lv_iload hx hb dX8_digest_550 (lv_at hl 3 rfl) ?_
  refine lv_icmp_ge (tgt := 583) hx hb dX8_digest_552 (by decide) (fun h9 => absurd h9 (by decide)) (fun _ => ?_)
  refine lv_aload hx hb dX8_digest_555 (lv_at hl 4 rfl) ?_
  refine lv_iload hx hb dX8_digest_557 (lv_at hl 0 rfl) ?_
  refine gd_ld (v := .ref r_59) hx hb hK hP 2 0 rfl rfl (by unfold vp_in; decide) rfl dX8_digest_559 ?_
  refine lv_astore (lv' := [(8, .ref r_59), (7, .int 2), (1, .long (-7421562341821331516)), (6, .int 3), (5, .ref q_50), (9, .ref r_59), (4, .ref q_50), (3, .ref q_41), (0, .ref mm)]) hx hb dX8_digest_560 hl (by decide) rfl (fun ls hl => ?_)
  refine lv_lload_n hx hb dX8_digest_562 rfl (lv_at hl 2 rfl) ?_
  refine lv_ldc2 (v := 31) hx hb hown (hts (.constantLong RX8 232 31) (by decide +kernel)) dX8_digest_563 ?_
  refine lv_lmul hx hb dX8_digest_566 ?_
  refine lv_topl (fun y_233 ey_233 => ?_)
  obtain rfl : y_233 = (-8707503711946657604) := ey_233.trans (by decide)
  refine lv_aload hx hb dX8_digest_567 (lv_at hl 0 rfl) ?_
  refine lv_bipush (v := 20) hx hb dX8_digest_569 (by decide) ?_
  have hPc := hP.sub (ws' := [(r_59, .inl (q_54, 4, .inl zi))]) [6] rfl
  have hDc := hD.sub (ws' := [(r_59, .inl (q_54, 4, .inl zi))]) [6] (by decide) rfl
  have hKc := hK.sub (tys' := [(q_54, .int)]) [1] rfl
  have hFc := va_free (wc := [(r_59, .inl (q_54, 4, .inl zi))]) hD hS hA [6] rfl
  refine va_calli (va_runS (As := [.ref r_59, .int 20]) (rest := [.long (-8707503711946657604)]) ⟨hx, hb, hml, hown, hts⟩ (c_X8_coalitionNow l dC dI r_59 q_54 (20 : Int32) _ (by decide)) (va_cwS 2 hts gX8_digest_X8_coalitionNow rfl rfl rfl (by decide +kernel) ⟨Nat.le_of_ble_eq_true rfl, Nat.le_of_ble_eq_true rfl⟩) ⟨pr_blind, fun U hU hW => ⟨rfl, pr_mk hU hW hPc hKc hDc⟩⟩ rfl rfl hl.1 rfl (lv_room (Nat.le_of_ble_eq_true rfl)) dX8_digest_571 ⟨Nat.le_of_ble_eq_true rfl, Nat.le_of_ble_eq_true rfl⟩) hS (fun q _ h => hFc q h) hFc (fun r_235 u_234 t H1 locs ht hvm hw hB hz1 hk1 hS => ?_)
  obtain ⟨hP1, hK1, hD1⟩ := hB
  rw [ht] at hP1
  obtain ⟨hP, hD⟩ := va_join (wr := [(q_41, .inr (1, [.int 0, .ref dz, .int 0])), (kl, .inr (1, [.int 0, .ref dz, .int 0])), (q_50, .inl (c_51, 3, .inr (.inr (.inr (.inr (va_up (va_up (va_up (fun _ => none) (0 : Int32).toNatClampNeg (some r_53)) (1 : Int32).toNatClampNeg (some r_56)) (2 : Int32).toNatClampNeg (some r_59))))))), (mm, .inr (10, [.int 0, .ref pl, .ref ig, .ref sl, .ref kl, .int 0, .int 0, .int 0])), (pl, .inr (1, [.int 0, .ref dz, .int 0])), (sl, .inr (1, [.int 0, .ref dz, .int 0])), (r_53, .inl (q_54, 4, .inl zi)), (r_56, .inl (q_54, 4, .inl zi))]) (w1 := [(r_59, .inl (q_54, 4, .inl zi))]) hP hD [6] [0, 1, 2, 3, 4, 5, 7, 8] rfl rfl (by decide) (by decide) hk1 hFc hP1 hD1
  generalize H1 = H at hP hS ⊢
  have hP : va_P (dC, dI) vwCl [(q_41, .inr (1, [.int 0, .ref dz, .int 0])), (kl, .inr (1, [.int 0, .ref dz, .int 0])), (q_50, .inl (c_51, 3, .inr (.inr (.inr (.inr (va_up (va_up (va_up (fun _ => none) (0 : Int32).toNatClampNeg (some r_53)) (1 : Int32).toNatClampNeg (some r_56)) (2 : Int32).toNatClampNeg (some r_59))))))), (mm, .inr (10, [.int 0, .ref pl, .ref ig, .ref sl, .ref kl, .int 0, .int 0, .int 0])), (pl, .inr (1, [.int 0, .ref dz, .int 0])), (sl, .inr (1, [.int 0, .ref dz, .int 0])), (r_53, .inl (q_54, 4, .inl zi)), (r_56, .inl (q_54, 4, .inl zi)), (r_59, .inl (q_54, 4, .inl zi))] H := hP
  have hD : va_D A [(q_41, .inr (1, [.int 0, .ref dz, .int 0])), (kl, .inr (1, [.int 0, .ref dz, .int 0])), (q_50, .inl (c_51, 3, .inr (.inr (.inr (.inr (va_up (va_up (va_up (fun _ => none) (0 : Int32).toNatClampNeg (some r_53)) (1 : Int32).toNatClampNeg (some r_56)) (2 : Int32).toNatClampNeg (some r_59))))))), (mm, .inr (10, [.int 0, .ref pl, .ref ig, .ref sl, .ref kl, .int 0, .int 0, .int 0])), (pl, .inr (1, [.int 0, .ref dz, .int 0])), (sl, .inr (1, [.int 0, .ref dz, .int 0])), (r_53, .inl (q_54, 4, .inl zi)), (r_56, .inl (q_54, 4, .inl zi)), (r_59, .inl (q_54, 4, .inl zi))] := hD
  refine W.widen (k := 41) (n := 245) (Nat.le_refl _) (Nat.le_refl _) ?_
  have hw : r_235 = 0 := hw
  subst hw
  refine lv_i2l (v := 0) hx hb dX8_digest_574 (by decide) ?_
  refine lv_ladd hx hb dX8_digest_575 ?_
  refine lv_topl (fun y_236 ey_236 => ?_)
  obtain rfl : y_236 = (-8707503711946657604) := ey_236.trans (by decide)
  refine lv_lstore_n (lv' := [(1, .long (-8707503711946657604)), (8, .ref r_59), (7, .int 2), (6, .int 3), (5, .ref q_50), (9, .ref r_59), (4, .ref q_50), (3, .ref q_41), (0, .ref mm)]) hx hb dX8_digest_576 rfl hl (by decide) rfl (fun ls hl => ?_)
  refine lv_iinc (k := 2) (v := 3) (lv' := [(7, .int 3), (1, .long (-8707503711946657604)), (8, .ref r_59), (6, .int 3), (5, .ref q_50), (9, .ref r_59), (4, .ref q_50), (3, .ref q_41), (0, .ref mm)]) hx hb dX8_digest_577 hl rfl (by decide) (by decide) rfl (fun ls hl => ?_)
  refine lv_goto (tgt := 548) hx hb dX8_digest_580 (by decide) ?_
  refine lv_iload hx hb dX8_digest_548 (lv_at hl 0 rfl) ?_
  refine lv_iload hx hb dX8_digest_550 (lv_at hl 3 rfl) ?_
  refine lv_icmp_ge (tgt := 583) hx hb dX8_digest_552 (by decide) (fun _ => ?_) (fun h9 => absurd h9 (by decide))
  refine lv_lload_n hx hb dX8_digest_583 rfl (lv_at hl 1 rfl) ?_
  have hP9 := hP.sub (ws' := [(mm, .inr (10, [.int 0, .ref pl, .ref ig, .ref sl, .ref kl, .int 0, .int 0, .int 0]))]) [3] rfl
  have hD9 := hD.sub (ws' := [(mm, .inr (10, [.int 0, .ref pl, .ref ig, .ref sl, .ref kl, .int 0, .int 0, .int 0]))]) [3] (by decide) rfl
  have hK9 := hK.sub (tys' := []) [] rfl
  refine W.widen (k := 80) (n := 400) (Nat.le_of_ble_eq_true rfl) (Nat.le_of_ble_eq_true rfl) ?_
  exact W.lret (v := (-8707503711946657604)) hx hb hr (fun t ht hW => ⟨⟨(-8707503711946657604), (), rfl, (by decide +kernel), po_mk ht hW hP9 hK9 hD9⟩, hS.F ht⟩) hS.2.2 dX8_digest_584
