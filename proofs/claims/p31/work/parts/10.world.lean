/-- a method's start: the cells, their classes, apart -/
def pr_ (dC : Nat → ClassId) (dI : Nat → Nat → Nat) (ws : va_W) (tys : List (ClassId × FieldType)) (sz : Nat) (U : State) : Prop := U.heap.size = sz ∧ va_P (dC, dI) vwCl ws U.heap ∧ va_K (dC, dI) vwCl tys U ∧ va_D (fun _ => True) ws
/-- a method's end -/
def po_ (dC : Nat → ClassId) (dI : Nat → Nat → Nat) (ws : va_W) (tys : List (ClassId × FieldType)) (A : Nat → Prop) (t : State) : Prop := va_P (dC, dI) vwCl ws t.heap ∧ va_K (dC, dI) vwCl tys t ∧ va_D A ws
theorem pr_blind {dC : Nat → ClassId} {dI : Nat → Nat → Nat} {ws : va_W} {tys : List (ClassId × FieldType)} {sz : Nat} {av : List Value} : FrameBlind (va_Pc av (pr_ dC dI ws tys sz)) := fun a U g mk q => by
  obtain ⟨q0, q1, qP, qK, qD⟩ := q
  exact ⟨q0, q1, qP, va_K.moved (u := U) (U := U.calling g mk a) (Vm.Alike.refl U.vm) qK, qD⟩
theorem pe_blind {dC : Nat → ClassId} {dI : Nat → Nat → Nat} {ws : va_W} {tys : List (ClassId × FieldType)} {sz : Nat} {av : List Value} {E : State → Prop} (hE : ∀ (U : State) (g : JFrame) (mk : MethodId) (a : Array Value), E U → E (U.calling g mk a)) : FrameBlind (va_Pc av (fun U => pr_ dC dI ws tys sz U ∧ E U)) := fun a U g mk q => by
  obtain ⟨q0, ⟨q1, qP, qK, qD⟩, x1⟩ := q
  exact ⟨q0, ⟨q1, qP, va_K.moved (u := U) (U := U.calling g mk a) (Vm.Alike.refl U.vm) qK, qD⟩, hE U g mk a x1⟩
theorem pr_mk {dC : Nat → ClassId} {dI : Nat → Nat → Nat} {ws : va_W} {tys : List (ClassId × FieldType)} {s U : State} {H : Heap} {A : Nat → Prop} (hU : U.heap = H) (hW : s.WarmedH U.vm) (hP : va_P (dC, dI) vwCl ws H) (hK : va_K (dC, dI) vwCl tys s) (hD : va_D A ws) : pr_ dC dI ws tys H.size U :=
  ⟨by rw [hU], by rw [hU]; exact hP, va_K.moved hW.alike hK, hD.weaken (fun _ _ _ _ => trivial)⟩
theorem po_mk {dC : Nat → ClassId} {dI : Nat → Nat → Nat} {ws : va_W} {tys : List (ClassId × FieldType)} {s t : State} {H : Heap} {A : Nat → Prop} (ht : t.heap = H) (hW : s.WarmedH t.vm) (hP : va_P (dC, dI) vwCl ws H) (hK : va_K (dC, dI) vwCl tys s) (hD : va_D A ws) : po_ dC dI ws tys A t :=
  ⟨by rw [ht]; exact hP, va_K.moved hW.alike hK, hD⟩
/-! p31: a box's cells as one world: numbers by cell and place (Mem), addresses by cell (aa). -/
abbrev Mem : Type := (Nat → Nat → Int32) × (Nat → Nat → UInt64)
abbrev ix (i : Int32) : Nat := i.toNatClampNeg
def si (Z : Mem) (i j : Nat) (v : Int32) : Mem := (fun a => if a = i then upd (Z.1 i) j v else Z.1 a, Z.2)
def sd (Z : Mem) (i j : Nat) (v : UInt64) : Mem := (Z.1, fun a => if a = i then vf_upd (Z.2 i) j v else Z.2 a)
/-- turns enough for any loop -/
noncomputable def bigN : Nat := Classical.choose (⟨2147483648, rfl⟩ : ∃ n : Nat, n = 2147483648)
theorem bigN_eq : bigN = 2147483648 := Classical.choose_spec (⟨2147483648, rfl⟩ : ∃ n : Nat, n = 2147483648)
/-- what a walk leaves to be said: a number by its name, a bound, a branch, a call -/
def bv {α β : Type} (x : α) (f : α → Option β) : Option β := f x
def gd {β : Type} (c : Prop) [Decidable c] (x : Option β) : Option β := if c then x else none
def br {β : Type} (c : Prop) [Decidable c] (x y : Option β) : Option β := if c then x else y
def cal {T β : Type} (x : Option (Mem × T)) (f : Mem → T → Option β) : Option β := match x with
  | some r => f r.1 r.2
  | none => none
def calp {T β : Type} (x : Option T) (f : T → Option β) : Option β := match x with
  | some r => f r
  | none => none
theorem bv_some {α β : Type} {x : α} {f : α → Option β} {r : β} (h : bv x f = some r) : ∃ y, y = x ∧ f y = some r := ⟨x, rfl, h⟩
theorem bv_at {α β : Type} {x y : α} {f : α → Option β} {r : β} (e : y = x) (h : bv x f = some r) : f y = some r := by
  subst e
  exact h
theorem gd_some {β : Type} {c : Prop} [Decidable c] {x : Option β} {r : β} (h : gd c x = some r) : c ∧ x = some r := by
  unfold gd at h
  split at h
  · exact ⟨‹c›, h⟩
  · cases h
theorem br_pos {β : Type} {c : Prop} [Decidable c] {x y : Option β} {r : β} (hc : c) (h : br c x y = some r) : x = some r := by
  unfold br at h
  rw [if_pos hc] at h
  exact h
theorem br_neg {β : Type} {c : Prop} [Decidable c] {x y : Option β} {r : β} (hc : ¬ c) (h : br c x y = some r) : y = some r := by
  unfold br at h
  rw [if_neg hc] at h
  exact h
theorem cal_some {T β : Type} {x : Option (Mem × T)} {f : Mem → T → Option β} {r : β} (h : cal x f = some r) : ∃ (Z : Mem) (t : T), x = some (Z, t) ∧ f Z t = some r := by
  unfold cal at h
  cases x with
  | none => cases h
  | some v => exact ⟨v.1, v.2, rfl, h⟩
theorem calp_some {T β : Type} {x : Option T} {f : T → Option β} {r : β} (h : calp x f = some r) : ∃ t : T, x = some t ∧ f t = some r := by
  unfold calp at h
  cases x with
  | none => cases h
  | some v => exact ⟨v, rfl, h⟩
theorem some2 {T : Type} {Z Zo : Mem} {r ro : T} (h : some (Z, r) = some (Zo, ro)) : Zo = Z ∧ ro = r := by
  cases h
  exact ⟨rfl, rfl⟩
theorem some1 {T : Type} {r ro : T} (h : some r = some ro) : ro = r := by
  cases h
  rfl
theorem ii_ (x n : Int32) (k : Int) (h : Int32.ofInt k = n) : x + Int32.ofInt k = x + n := by rw [h]
def bk0 (q : Nat → ClassId) (aa : Nat → Nat) : Nat → (Nat → Int32) → va_E
  | 0, _ => .inr (7, [.ref (aa 1), .ref (aa 6), .ref (aa 26), .ref (aa 30), .ref (aa 100)])
  | 1, f => .inr (2, [.ref (aa 2), .ref (aa 3), .int (f 2), .int (f 3), .ref (aa 4), .int (f 5), .ref (aa 5), .int (f 7), .int (f 8), .int (f 9), .int (f 10)])
  | 2, f => .inl (q 0, 6, .inl f)
  | 3, f => .inl (q 1, 6, .inl f)
  | 4, f => .inl (q 0, 4, .inl f)
  | 5, _ => .inl (q 3, 24, .inr (.inr (.inr (.inr (fun k => if k < 24 then some (aa (39 + k)) else none)))))
  | 6, _ => .inr (4, [.ref (aa 7), .ref (aa 8), .ref (aa 9), .ref (aa 10), .ref (aa 11), .ref (aa 12), .ref (aa 13)])
  | 9, _ => .inl (q 4, 6, .inr (.inr (.inr (.inr (fun k => if k < 6 then some (aa (14 + k)) else none)))))
  | 10, _ => .inl (q 4, 6, .inr (.inr (.inr (.inr (fun k => if k < 6 then some (aa (20 + k)) else none)))))
  | 12, f => .inl (q 1, 6, .inl f)
  | 26, _ => .inr (6, [.ref (aa 27), .ref (aa 28), .ref (aa 29)])
  | 27, f => .inl (q 0, 5, .inl f)
  | 28, f => .inl (q 1, 6, .inl f)
  | 30, f => .inr (3, [.ref (aa 31), .int (f 1), .ref (aa 32), .ref (aa 33), .ref (aa 34), .ref (aa 35), .ref (aa 36), .ref (aa 37), .ref (aa 38)])
  | 31, f => .inl (q 0, 4, .inl f)
  | 32, f => .inl (q 0, 4, .inl f)
  | 33, f => .inl (q 1, 4, .inl f)
  | 34, f => .inl (q 0, 4, .inl f)
  | 35, f => .inl (q 0, 4, .inl f)
  | 36, f => .inl (q 0, 4, .inl f)
  | 37, f => .inl (q 0, 4, .inl f)
  | 38, f => .inl (q 0, 4, .inl f)
  | _, f => .inl (q 0, 6, .inl f)
/-- a cell: its numbers f, its doubles g -/
def bk (q : Nat → ClassId) (aa : Nat → Nat) (i : Nat) (f : Nat → Int32) (g : Nat → UInt64) : va_E :=
  if i < 39 then (if i = 8 then .inl (q 2, 6, .inr (.inr (.inr (.inl g)))) else if i = 29 then .inl (q 2, 6, .inr (.inr (.inr (.inl g)))) else bk0 q aa i f)
  else if i < 64 then .inr (5, [.int (f 0), .int (f 1), .int (f 2), .int (f 3), .ref (aa (i + 25)), .int (f 5), .double (g 6)])
  else .inl (q 0, 6, .inl f)
def bw (q : Nat → ClassId) (aa : Nat → Nat) (Z : Mem) : va_W := (List.range 89).map (fun i => (aa i, bk q aa i (Z.1 i) (Z.2 i)))
abbrev bty (q : Nat → ClassId) : List (ClassId × FieldType) := [(q 0, .int), (q 1, .boolean), (q 2, .double), (q 3, .object "BallotLoom$Stack"), (q 4, .array .int)]
section WG
variable {p : Program} {l : Launch} {e : Env} {R : Room} {s : State} {m : MethodId} {args : Array Value} {below : List Frame} {meth : Method} {c : Code} {Q : State → Prop}
theorem w_go {cells slots : Nat} {H : Heap} {locs : List Loc} {g : JFrame} (k : ∀ Q' : State → Prop, Q' = Q → W p l e R s m args below meth c H locs cells slots Q' g) : W p l e R s m args below meth c H locs cells slots Q g := k Q rfl
theorem w_ent {cells slots n : Nat} {H : Heap} {locs : List Loc} {av : List Value} (h : args = av.toArray) (k : W p l e R s m args below meth c H locs cells slots Q (entryFrame m av.toArray n)) : W p l e R s m args below meth c H locs cells slots Q (entryFrame m args n) := by
  subst h
  exact k
/-- a place of a row of references -/
theorem bq_ald {pc : Nat} {cells slots : Nat} {H : Heap} {locs : List Loc} {ls : Array Slot} {rest : List Value} {a : Nat} {D : va_G} {cl : List vw_C} {tys : List (ClassId × FieldType)} {ws : va_W} {cc : ByteArray} (hexec : p.tables.exec = Jvm.exec) (hb : c.code = cc) (hK : va_K D cl tys s) (hP : va_P D cl ws H) (q0 t0 : Nat) {cA : ClassId} {ty : FieldType} (hty : ty.isReference = true) {n v : Nat} {f : Nat → Option Nat} (ha : ws[q0]? = some (a, .inl (cA, n, .inr (.inr (.inr (.inr f)))))) (ht : tys[t0]? = some (cA, ty)) {i : Int32} (hin : vp_in i n) (hf : f (ix i) = some v) (hdg : decode cc pc = .ok (.aaload, 1))
    (kk : W p l e R s m args below meth c H locs cells slots Q (F0 m (pc + 1) ls (.ref v :: rest))) : W p l e R s m args below meth c H locs cells slots Q (F0 m pc ls (.int i :: .ref a :: rest)) := by
  have hlt : i.toNatClampNeg < n := Nat.not_le.mp fun q => hin (Or.inr q)
  have hf2 : va_rf (f i.toNatClampNeg) = .ref v := by rw [show f i.toNatClampNeg = some v from hf]; rfl
  rw [← hf2] at kk
  exact W.aald (v := va_rf (f i.toNatClampNeg)) (ty := ty) hexec hb (hP q0 _ ha) ((hK.2 t0 _ ht).1 n (fun j => va_rf (f j))) hty (fun q => by cases q) (by show ¬ (i < 0 ∨ (arrV _ _ _).slots.size ≤ _); rw [arrV_size]; exact hin) (by show (arrV _ _ _).slots[_]? = _; rw [arrV_read _ _ hlt]) rfl rfl hdg kk
theorem nar_b {x : Int32} (h : x = 0 ∨ x = 1) : narrow .boolean (.int x) = .int x := by
  rcases h with rfl | rfl <;> rfl
theorem fit_b {x : Int32} (h : x = 0 ∨ x = 1) : fits .boolean (.int x) = true := by
  rcases h with rfl | rfl <;> rfl
end WG
theorem i32_of_toInt {x : Int32} {k : Int} (h : x.toInt = k) : x = Int32.ofInt k := by rw [← h, Int32.ofInt_toInt]
/-- a switch's other numbers -/
theorem sw_out (hi : Nat) {x : Int32} (h : ∀ k : Nat, k ≤ hi → True → ¬ x = Int32.ofInt k) : x.toInt < 0 ∨ (hi : Int) < x.toInt := by
  by_cases h1 : x.toInt < 0
  · exact Or.inl h1
  · refine Or.inr (Int.not_le.mp fun h2 => ?_)
    refine h x.toInt.toNat (by omega) trivial ?_
    rw [Int.toNat_of_nonneg (by omega), Int32.ofInt_toInt]
section BW
variable {q : Nat → ClassId} {aa : Nat → Nat} {Z Z1 : Mem}
theorem bk_stk {k : Nat} (h : k < 25) (f : Nat → Int32) (g : Nat → UInt64) : bk q aa (39 + k) f g = .inr (5, [.int (f 0), .int (f 1), .int (f 2), .int (f 3), .ref (aa (64 + k)), .int (f 5), .double (g 6)]) := by
  unfold bk
  rw [if_neg (by omega), if_pos (by omega), show 39 + k + 25 = 64 + k by omega]
theorem bk_lst {k : Nat} (h : k < 25) (f : Nat → Int32) (g : Nat → UInt64) : bk q aa (64 + k) f g = .inl (q 0, 6, .inl f) := by
  unfold bk
  rw [if_neg (by omega), if_neg (by omega)]
theorem bk_row {b k : Nat} (hb : b = 14 ∨ b = 20) (h : k < 6) (f : Nat → Int32) (g : Nat → UInt64) : bk q aa (b + k) f g = .inl (q 0, 6, .inl f) := by
  unfold bk
  rw [if_pos (by omega), if_neg (by omega), if_neg (by omega)]
  have h6 : k = 0 ∨ k = 1 ∨ k = 2 ∨ k = 3 ∨ k = 4 ∨ k = 5 := by omega
  rcases hb with rfl | rfl <;> rcases h6 with rfl | rfl | rfl | rfl | rfl | rfl <;> rfl
theorem bw_at {i : Nat} (h : i < 89) {e : va_E} (he : bk q aa i (Z.1 i) (Z.2 i) = e) : (bw q aa Z)[i]? = some (aa i, e) := by
  unfold bw
  rw [List.getElem?_map, List.getElem?_range h, ← he]
  rfl
theorem bw_set {i : Nat} {e : va_E} (he : bk q aa i (Z1.1 i) (Z1.2 i) = e) (h1 : ∀ j, j ≠ i → Z1.1 j = Z.1 j) (h2 : ∀ j, j ≠ i → Z1.2 j = Z.2 j) : (bw q aa Z).set i (aa i, e) = bw q aa Z1 := by
  apply List.ext_getElem?
  intro k
  rw [List.getElem?_set]
  unfold bw
  rw [List.length_map, List.length_range, List.getElem?_map, List.getElem?_map]
  by_cases hk : i = k
  · subst hk
    rw [if_pos rfl]
    by_cases h89 : i < 89
    · rw [if_pos h89, List.getElem?_range h89, ← he]
      rfl
    · rw [if_neg h89, List.getElem?_eq_none (by rw [List.length_range]; omega)]
      rfl
  · rw [if_neg hk]
    by_cases h89 : k < 89
    · rw [List.getElem?_range h89]
      simp only [Option.map_some]
      rw [h1 k (fun h => hk h.symm), h2 k (fun h => hk h.symm)]
    · rw [List.getElem?_eq_none (by rw [List.length_range]; omega)]
      rfl
theorem at_i {i n : Nat} {c : ClassId} (h : i < 89) (hc : ∀ f g, bk q aa i f g = .inl (c, n, .inl f)) : (bw q aa Z)[i]? = some (aa i, .inl (c, n, .inl (Z.1 i))) := bw_at h (hc _ _)
theorem at_d {i n : Nat} {c : ClassId} (h : i < 89) (hc : ∀ f g, bk q aa i f g = .inl (c, n, .inr (.inr (.inr (.inl g))))) : (bw q aa Z)[i]? = some (aa i, .inl (c, n, .inr (.inr (.inr (.inl (Z.2 i)))))) := bw_at h (hc _ _)
theorem at_q {i n : Nat} {c : ClassId} {r : Nat → Option Nat} (h : i < 89) (hc : ∀ f g, bk q aa i f g = .inl (c, n, .inr (.inr (.inr (.inr r))))) : (bw q aa Z)[i]? = some (aa i, .inl (c, n, .inr (.inr (.inr (.inr r))))) := bw_at h (hc _ _)
theorem wz_i {i n j : Nat} {v : Int32} {c : ClassId} (hc : ∀ f g, bk q aa i f g = .inl (c, n, .inl f)) (e : Z1 = si Z i j v) : (bw q aa Z).set i (aa i, .inl (c, n, .inl (upd (Z.1 i) j v))) = bw q aa Z1 := by
  subst e
  refine bw_set ?_ (fun k hk => ?_) (fun k hk => rfl)
  · rw [hc]
    unfold si
    simp
  · unfold si
    exact if_neg hk
theorem wz_d {i n j : Nat} {v : UInt64} {c : ClassId} (hc : ∀ f g, bk q aa i f g = .inl (c, n, .inr (.inr (.inr (.inl g))))) (e : Z1 = sd Z i j v) : (bw q aa Z).set i (aa i, .inl (c, n, .inr (.inr (.inr (.inl (vf_upd (Z.2 i) j v)))))) = bw q aa Z1 := by
  subst e
  refine bw_set ?_ (fun k hk => rfl) (fun k hk => ?_)
  · rw [hc]
    unfold sd
    simp
  · unfold sd
    exact if_neg hk
/-- a number of an object's -/
theorem wz_o {i j ci : Nat} {v : Int32} {fs : List Value} (hc : bk q aa i (upd (Z.1 i) j v) (Z.2 i) = .inr (ci, fs)) (e : Z1 = si Z i j v) : (bw q aa Z).set i (aa i, .inr (ci, fs)) = bw q aa Z1 := by
  subst e
  refine bw_set ?_ (fun k hk => ?_) (fun k hk => rfl)
  · unfold si
    simp only [if_pos]
    exact hc
  · unfold si
    exact if_neg hk
theorem wz_od {i j ci : Nat} {v : UInt64} {fs : List Value} (hc : bk q aa i (Z.1 i) (vf_upd (Z.2 i) j v) = .inr (ci, fs)) (e : Z1 = sd Z i j v) : (bw q aa Z).set i (aa i, .inr (ci, fs)) = bw q aa Z1 := by
  subst e
  refine bw_set ?_ (fun k hk => rfl) (fun k hk => ?_)
  · unfold sd
    simp only [if_pos]
    exact hc
  · unfold sd
    exact if_neg hk
theorem in_lt {i : Int32} {n m : Nat} (h : ¬ (i < 0 ∨ n ≤ ix i)) (hm : n ≤ m) : ix i < m := Nat.lt_of_lt_of_le (Nat.not_le.mp fun h9 => h (Or.inr h9)) hm
theorem b_free {A : Nat → Prop} {ws : va_W} {H0 H : Heap} {locs : List Loc} (hD : va_D A ws) (hS : va_S A H0 H locs) (hA : ∀ x, H0.size ≤ x → A x) : ∀ x, va_A ws H.size x → A x := by
  intro x hx
  rcases hx with ⟨k, e, hk⟩ | h
  · exact hD.2 k _ hk
  · exact hA x (Nat.le_trans hS.1 h)

/-- a stack and the spare one change places -/
def tw (k i : Nat) : Nat := if i = 39 + k then 63 else if i = 63 then 39 + k else if i = 64 + k then 88 else if i = 88 then 64 + k else i
def sw (k : Nat) (aa : Nat → Nat) : Nat → Nat := fun i => aa (tw k i)
def swz (k : Nat) (Z : Mem) : Mem := (fun i => Z.1 (tw k i), fun i => Z.2 (tw k i))
theorem tw_lo {k i : Nat} (hk : k < 24) (hi : i < 39) : tw k i = i := by
  unfold tw
  rw [if_neg (by omega), if_neg (by omega), if_neg (by omega), if_neg (by omega)]
theorem tw_100 {k : Nat} (hk : k < 24) : tw k 100 = 100 := by
  unfold tw
  rw [if_neg (by omega), if_neg (by omega), if_neg (by omega), if_neg (by omega)]
theorem tw_lt {k i : Nat} (hk : k < 24) (hi : i < 89) : tw k i < 89 := by
  unfold tw
  repeat' split
  all_goals omega
theorem tw_tw {k i : Nat} (hk : k < 24) : tw k (tw k i) = i := by
  unfold tw
  repeat' split
  all_goals omega
theorem tw_stk {k i : Nat} (hk : k < 24) (h1 : 39 ≤ i) (h2 : i < 64) : tw k (i + 25) = tw k i + 25 ∧ 39 ≤ tw k i ∧ tw k i < 64 := by
  unfold tw
  repeat' split
  all_goals omega
theorem tw_lst {k i : Nat} (hk : k < 24) (h1 : 64 ≤ i) : 64 ≤ tw k i := by
  unfold tw
  repeat' split
  all_goals omega
theorem sw_sw {k : Nat} (hk : k < 24) : sw k (sw k aa) = aa := by
  funext i
  unfold sw
  rw [tw_tw hk]
theorem sw_lo {k i : Nat} (hk : k < 24) (hi : i < 39) : sw k aa i = aa i := by unfold sw; rw [tw_lo hk hi]
theorem sw_100 {k : Nat} (hk : k < 24) : sw k aa 100 = aa 100 := by unfold sw; rw [tw_100 hk]
theorem sw_24 {k : Nat} (_ : k < 24) : sw k aa (39 + 24) = aa (39 + k) := by
  unfold sw tw
  rw [if_neg (by omega), if_pos rfl]
theorem sw_k {k : Nat} (_ : k < 24) : sw k aa (39 + k) = aa (39 + 24) := by
  unfold sw tw
  rw [if_pos rfl]
theorem bk0_congr {ab : Nat → Nat} (h : ∀ n, n < 39 ∨ n = 100 → ab n = aa n) (i : Nat) (hi : i ≠ 5) (f : Nat → Int32) : bk0 q ab i f = bk0 q aa i f := by
  have e14 : (fun k => if k < 6 then some (ab (14 + k)) else none) = (fun k => if k < 6 then some (aa (14 + k)) else none) := by
    funext k
    by_cases hk : k < 6
    · rw [if_pos hk, if_pos hk, h _ (by omega)]
    · rw [if_neg hk, if_neg hk]
  have e20 : (fun k => if k < 6 then some (ab (20 + k)) else none) = (fun k => if k < 6 then some (aa (20 + k)) else none) := by
    funext k
    by_cases hk : k < 6
    · rw [if_pos hk, if_pos hk, h _ (by omega)]
    · rw [if_neg hk, if_neg hk]
  have hh : ∀ n, (n < 39 ∨ n = 100) → ab n = aa n := h
  unfold bk0
  split
  all_goals first | rfl | (exact absurd rfl hi) | (rw [e14]) | (rw [e20]) | (repeat rw [hh _ (by decide)])
theorem bk_swap {k i : Nat} (hk : k < 24) (hi : i ≠ 5) (f : Nat → Int32) (g : Nat → UInt64) : bk q (sw k aa) i f g = bk q aa (tw k i) f g := by
  by_cases h1 : i < 39
  · rw [tw_lo hk h1]
    unfold bk
    rw [if_pos h1, if_pos h1, bk0_congr (fun n hn => ?_) i hi f]
    rcases hn with hn | rfl
    · exact sw_lo hk hn
    · exact sw_100 hk
  · by_cases h2 : i < 64
    · obtain ⟨a1, a2, a3⟩ := tw_stk hk (by omega) h2
      unfold bk
      rw [if_neg h1, if_pos h2, if_neg (by omega), if_pos a3]
      unfold sw
      rw [a1]
    · have a1 := tw_lst hk (show 64 ≤ i by omega)
      unfold bk
      rw [if_neg h1, if_neg h2, if_neg (by omega), if_neg (by omega)]
theorem bw_get {i : Nat} {e : Nat × va_E} (h : (bw q aa Z)[i]? = some e) : i < 89 ∧ e = (aa i, bk q aa i (Z.1 i) (Z.2 i)) := by
  unfold bw at h
  rw [List.getElem?_map] at h
  by_cases hi : i < 89
  · rw [List.getElem?_range hi] at h
    exact ⟨hi, (Option.some.inj h).symm⟩
  · rw [List.getElem?_eq_none (by rw [List.length_range]; omega)] at h
    cases h
theorem b_swapG {k v : Nat} (hk : k < 24) (hv : v = aa (39 + 24)) (i : Nat) (e : Nat × va_E) (h : (bw q (sw k aa) (swz k Z))[i]? = some e) : ((bw q aa Z).set 5 (aa 5, .inl (q 3, 24, .inr (.inr (.inr (.inr (va_up (fun j => if j < 24 then some (aa (39 + j)) else none) k (some v))))))))[tw k i]? = some e := by
  obtain ⟨hi, rfl⟩ := bw_get h
  subst hv
  by_cases h5 : i = 5
  · subst h5
    rw [tw_lo hk (by decide), List.getElem?_set]
    rw [if_pos rfl, if_pos (by unfold bw; rw [List.length_map, List.length_range]; decide)]
    have e1 : sw k aa 5 = aa 5 := sw_lo hk (by decide)
    rw [e1]
    have e2 : (va_up (fun j => if j < 24 then some (aa (39 + j)) else none) k (some (aa (39 + 24)))) = (fun j => if j < 24 then some (sw k aa (39 + j)) else none) := by
      funext j
      unfold va_up
      by_cases hj : j = k
      · subst hj
        rw [if_pos rfl, if_pos hk, sw_k hk]
      · rw [if_neg hj]
        show (if j < 24 then some (aa (39 + j)) else none) = (if j < 24 then some (sw k aa (39 + j)) else none)
        by_cases hj2 : j < 24
        · rw [if_pos hj2, if_pos hj2]
          unfold sw tw
          rw [if_neg (by omega), if_neg (by omega), if_neg (by omega), if_neg (by omega)]
        · rw [if_neg hj2, if_neg hj2]
    rw [e2]
    rfl
  · have h6 : tw k i ≠ 5 := by
      intro h7
      have h8 := tw_tw (i := i) hk
      rw [h7, tw_lo hk (by decide)] at h8
      exact h5 h8.symm
    rw [List.getElem?_set, if_neg (fun h9 => h6 h9.symm), bk_swap hk h5]
    exact bw_at (tw_lt hk hi) rfl
theorem b_swap {k v : Nat} {D : va_G} {cl : List vw_C} {H : Heap} (hk : k < 24) (hv : v = aa (39 + 24)) (h : va_P D cl ((bw q aa Z).set 5 (aa 5, .inl (q 3, 24, .inr (.inr (.inr (.inr (va_up (fun j => if j < 24 then some (aa (39 + j)) else none) k (some v)))))))) H) : va_P D cl (bw q (sw k aa) (swz k Z)) H := h.by (tw k) (b_swapG hk hv)
theorem b_swapD {k v : Nat} {A : Nat → Prop} (hk : k < 24) (hv : v = aa (39 + 24)) (h : va_D A ((bw q aa Z).set 5 (aa 5, .inl (q 3, 24, .inr (.inr (.inr (.inr (va_up (fun j => if j < 24 then some (aa (39 + j)) else none) k (some v))))))))) : va_D A (bw q (sw k aa) (swz k Z)) := by
  refine ⟨fun i j p r hp hr e => ?_, fun i p hp => h.2 _ p (b_swapG hk hv i p hp)⟩
  have h1 := h.1 _ _ p r (b_swapG hk hv i p hp) (b_swapG hk hv j r hr) e
  have h2 := congrArg (tw k) h1
  rwa [tw_tw hk, tw_tw hk] at h2
end BW
