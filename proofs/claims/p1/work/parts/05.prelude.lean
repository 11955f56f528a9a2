/-! p1: words for the states, small facts, joins and loops. -/
def zi : Nat → Int32 := fun _ => 0
def zl : Nat → Int64 := fun _ => 0
def zd : Nat → UInt64 := fun _ => 0
theorem upd_zi (k : Nat) : upd zi k 0 = zi := by
  funext j
  unfold upd zi
  split <;> rfl
theorem upd_zz (k : Nat) : upd zi k (vp_nar .boolean 0) = zi := upd_zi k
theorem upd_zl (k : Nat) : vp_updL zl k 0 = zl := by
  funext j
  unfold vp_updL zl
  split <;> rfl
theorem upd_zd (k : Nat) : vf_upd zd k 0 = zd := by
  funext j
  unfold vf_upd zd
  split <;> rfl
theorem upd_zd0 (k : Nat) : vf_upd zd k FP.dconst0 = zd := upd_zd k
/-- a method's start: the cells, their classes, apart -/
def pr_ (dC : Nat → ClassId) (dI : Nat → Nat → Nat) (ws : va_W) (tys : List (ClassId × FieldType)) (sz : Nat) (U : State) : Prop := U.heap.size = sz ∧ va_P (dC, dI) vwCl ws U.heap ∧ va_K (dC, dI) vwCl tys U ∧ va_D (fun _ => True) ws
/-- a method's end -/
def po_ (dC : Nat → ClassId) (dI : Nat → Nat → Nat) (ws : va_W) (tys : List (ClassId × FieldType)) (A : Nat → Prop) (t : State) : Prop := va_P (dC, dI) vwCl ws t.heap ∧ va_K (dC, dI) vwCl tys t ∧ va_D A ws
theorem pr_blind {dC : Nat → ClassId} {dI : Nat → Nat → Nat} {ws : va_W} {tys : List (ClassId × FieldType)} {sz : Nat} {av : List Value} : FrameBlind (va_Pc av (pr_ dC dI ws tys sz)) := fun a U g mk q => by
  obtain ⟨q0, q1, qP, qK, qD⟩ := q
  exact ⟨q0, q1, qP, va_K.moved (u := U) (U := U.calling g mk a) (Vm.Alike.refl U.vm) qK, qD⟩
theorem pe_blind {dC : Nat → ClassId} {dI : Nat → Nat → Nat} {ws : va_W} {tys : List (ClassId × FieldType)} {sz : Nat} {av : List Value} {E : State → Prop} (hE : ∀ (U : State) (g : JFrame) (mk : MethodId) (a : Array Value), E U → E (U.calling g mk a)) : FrameBlind (va_Pc av (fun U => pr_ dC dI ws tys sz U ∧ E U)) := fun a U g mk q => by
  obtain ⟨q0, ⟨q1, qP, qK, qD⟩, x1⟩ := q
  exact ⟨q0, ⟨q1, qP, va_K.moved (u := U) (U := U.calling g mk a) (Vm.Alike.refl U.vm) qK, qD⟩, hE U g mk a x1⟩
theorem pr_mk {dC : Nat → ClassId} {dI : Nat → Nat → Nat} {ws : va_W} {tys : List (ClassId × FieldType)} {s U : State} {H : Heap} {A : Nat → Prop} (hU : U.heap = H) (hW : s.WarmedH U.vm) (hP : va_P (dC, dI) vwCl ws H) (hK : va_K (dC, dI) vwCl tys s) (hD : va_D A ws) : pr_ dC dI ws tys H.size U :=
  ⟨by rw [hU], by rw [hU]; exact hP, va_K.moved hW.alike hK, hD.weaken (fun _ _ _ _ => trivial)⟩
theorem po_mk {dC : Nat → ClassId} {dI : Nat → Nat → Nat} {ws : va_W} {tys : List (ClassId × FieldType)} {s t : State} {H : Heap} {A : Nat → Prop} (ht : t.heap = H) (hW : s.WarmedH t.vm) (hP : va_P (dC, dI) vwCl ws H) (hK : va_K (dC, dI) vwCl tys s) (hD : va_D A ws) : po_ dC dI ws tys A t :=
  ⟨by rw [ht]; exact hP, va_K.moved hW.alike hK, hD⟩
/-- arrays of one type of numbers have one class -/
theorem ty_one {D : va_G} {cl : List vw_C} {tys : List (ClassId × FieldType)} {s : State} {c1 c2 : ClassId} {t : FieldType} (hK : va_K D cl tys s) (i j : Nat) (hi : tys[i]? = some (c1, t)) (hj : tys[j]? = some (c2, t)) (hn : ∀ C, t = .object C → False) : c1 = c2 := by
  have h1 := (hK.2 i _ hi).2
  have h2 := (hK.2 j _ hj).2
  cases t with
  | object C => exact (hn C rfl).elim
  | _ => exact Option.some.inj (h1.symm.trans h2)
theorem nI_succ1 (k : Nat) : nI k + Int32.ofInt 1 = nI (k + 1) := by
  have h1 : Int32.ofInt 1 = 1 := by decide
  rw [h1]
  exact (nI_succ k).symm
theorem lcmp_self (x : Int64) : lg_cmp x x = 0 := by
  unfold lg_cmp
  simp
section WJ
variable {p : Program} {l : Launch} {e : Env} {R : Room} {s : State} {m : MethodId} {args : Array Value} {below : List Frame} {meth : Method} {c : Code} {Q : State → Prop}
/-- what comes to pcJ goes one way -/
theorem w_join {cells slots pcJ : Nat} {st : List Value} {H0 : Heap} {locs0 : List Loc} {g : JFrame} (P : Heap → List Loc → Array Slot → Prop)
    (J : ∀ (H : Heap) (locs : List Loc) (ls : Array Slot), P H locs ls → W p l e R s m args below meth c H locs cells slots Q (F0 m pcJ ls st))
    (k : (∀ (H : Heap) (locs : List Loc) (ls : Array Slot), P H locs ls → W p l e R s m args below meth c H locs cells slots Q (F0 m pcJ ls st)) → W p l e R s m args below meth c H0 locs0 cells slots Q g) : W p l e R s m args below meth c H0 locs0 cells slots Q g := k J
/-- a loop that counts up to n -/
theorem w_loop {pcH : Nat} (n : Nat) (cf sf : Nat → Nat) (P : Nat → Heap → List Loc → Array Slot → Prop)
    (step : ∀ k, k < n → (∀ (H : Heap) (locs : List Loc) (ls : Array Slot), P (k + 1) H locs ls → W p l e R s m args below meth c H locs (cf (k + 1)) (sf (k + 1)) Q (F0 m pcH ls [])) → ∀ (H : Heap) (locs : List Loc) (ls : Array Slot), P k H locs ls → W p l e R s m args below meth c H locs (cf k) (sf k) Q (F0 m pcH ls []))
    (last : ∀ (H : Heap) (locs : List Loc) (ls : Array Slot), P n H locs ls → W p l e R s m args below meth c H locs (cf n) (sf n) Q (F0 m pcH ls [])) :
    ∀ k, k ≤ n → ∀ (H : Heap) (locs : List Loc) (ls : Array Slot), P k H locs ls → W p l e R s m args below meth c H locs (cf k) (sf k) Q (F0 m pcH ls []) := by
  intro k hk
  obtain ⟨d, rfl⟩ : ∃ d, n = k + d := ⟨n - k, by omega⟩
  clear hk
  induction d generalizing k with
  | zero => exact last
  | succ d ih =>
    have h := ih (k + 1) (by rw [show k + 1 + d = k + (d + 1) by omega]; exact step) (by rw [show k + 1 + d = k + (d + 1) by omega]; exact last)
    exact step k (by omega) h
end WJ
