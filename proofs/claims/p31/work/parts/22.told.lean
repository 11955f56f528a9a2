/-! p31: what is told beside the box: the law's own rows and the box as one world. -/
abbrev TM : Type := (Nat → Nat) × (Nat → Nat → Int32)
abbrev TS : Type := TM × Mem
def tsi (Y : TS) (i j : Nat) (v : Int32) : TS := ((Y.1.1, fun a => if a = i then upd (Y.1.2 i) j v else Y.1.2 a), Y.2)
def tz (Y : TS) (Z : Mem) : TS := (Y.1, Z)
/-- a row that has grown by one place -/
def tgr (Y : TS) (i : Nat) (v : Int32) : TS := ((fun a => if a = i then Y.1.1 i + 1 else Y.1.1 a, fun a => if a = i then (fun j => if j < Y.1.1 i then Y.1.2 i j else if j = Y.1.1 i then v else 0) else Y.1.2 a), Y.2)
/-- one stack more -/
def trw (Y : TS) (r : Nat → Int32) : TS := ((fun a => if a = 4 then Y.1.1 4 + 1 else Y.1.1 a, fun a => if a = 5 + Y.1.1 4 then r else Y.1.2 a), Y.2)
def twc (q : Nat → ClassId) (ta : Nat → Nat) (ba sa : Nat) (n : Nat → Nat) (i : Nat) (f : Nat → Int32) : va_E :=
  if i = 0 then .inr (8, [.ref ba, .ref sa, .int (f 2), .ref (ta 1), .ref (ta 2), .ref (ta 3), .ref (ta 4), .int (f 7), .int (f 8)])
  else if i = 1 then .inl (q 0, n 1, .inl f)
  else if i = 2 then .inl (q 1, 6, .inl f)
  else if i = 3 then .inl (q 0, n 3, .inl f)
  else if i = 4 then .inl (q 4, n 4, .inr (.inr (.inr (.inr (fun k => if k < n 4 then some (ta (5 + k)) else none)))))
  else .inl (q 0, 4, .inl f)
def twl (q : Nat → ClassId) (ta : Nat → Nat) (ba sa : Nat) (M : TM) : va_W := (List.range (5 + M.1 4)).map (fun i => (ta i, twc q ta ba sa M.1 i (M.2 i)))
def ww (q : Nat → ClassId) (ta aa : Nat → Nat) (sa : Nat) (Y : TS) : va_W := twl q ta (aa 0) sa Y.1 ++ bw q aa Y.2
section TW
variable {q : Nat → ClassId} {ta aa : Nat → Nat} {sa ba : Nat} {M : TM} {Y Y1 : TS}
theorem twl_len : (twl q ta ba sa M).length = 5 + M.1 4 := by unfold twl; rw [List.length_map, List.length_range]
theorem twl_at {i : Nat} (h : i < 5 + M.1 4) : (twl q ta ba sa M)[i]? = some (ta i, twc q ta ba sa M.1 i (M.2 i)) := by
  unfold twl
  rw [List.getElem?_map, List.getElem?_range h]
  rfl
theorem ww_at {i : Nat} (h : i < 5 + Y.1.1 4) {e : va_E} (he : twc q ta (aa 0) sa Y.1.1 i (Y.1.2 i) = e) : (ww q ta aa sa Y)[i]? = some (ta i, e) := by
  unfold ww
  rw [List.getElem?_append_left (by rw [twl_len]; exact h), twl_at h, he]
theorem ww_0 : (ww q ta aa sa Y)[0]? = some (ta 0, .inr (8, [.ref (aa 0), .ref sa, .int (Y.1.2 0 2), .ref (ta 1), .ref (ta 2), .ref (ta 3), .ref (ta 4), .int (Y.1.2 0 7), .int (Y.1.2 0 8)])) := ww_at (by omega) rfl
theorem ww_1 : (ww q ta aa sa Y)[1]? = some (ta 1, .inl (q 0, Y.1.1 1, .inl (Y.1.2 1))) := ww_at (by omega) rfl
theorem ww_2 : (ww q ta aa sa Y)[2]? = some (ta 2, .inl (q 1, 6, .inl (Y.1.2 2))) := ww_at (by omega) rfl
theorem ww_3 : (ww q ta aa sa Y)[3]? = some (ta 3, .inl (q 0, Y.1.1 3, .inl (Y.1.2 3))) := ww_at (by omega) rfl
theorem ww_4 : (ww q ta aa sa Y)[4]? = some (ta 4, .inl (q 4, Y.1.1 4, .inr (.inr (.inr (.inr (fun k => if k < Y.1.1 4 then some (ta (5 + k)) else none)))))) := ww_at (by omega) rfl
theorem twc_r {n : Nat → Nat} {k : Nat} {f : Nat → Int32} : twc q ta ba sa n (5 + k) f = .inl (q 0, 4, .inl f) := by
  unfold twc
  rw [if_neg (by omega), if_neg (by omega), if_neg (by omega), if_neg (by omega), if_neg (by omega)]
theorem ww_r {k : Nat} (h : k < Y.1.1 4) : (ww q ta aa sa Y)[5 + k]? = some (ta (5 + k), .inl (q 0, 4, .inl (Y.1.2 (5 + k)))) := ww_at (by omega) twc_r
/-- one cell changed -/
theorem ww_set {i : Nat} {e : va_E} (hi : i < 5 + Y.1.1 4) (he : twc q ta (aa 0) sa Y1.1.1 i (Y1.1.2 i) = e) (hn : Y1.1.1 = Y.1.1) (hz : Y1.2 = Y.2) (ho : ∀ j, j ≠ i → Y1.1.2 j = Y.1.2 j) : (ww q ta aa sa Y).set i (ta i, e) = ww q ta aa sa Y1 := by
  unfold ww
  rw [List.set_append_left _ _ (by rw [twl_len]; exact hi), hz]
  congr 1
  apply List.ext_getElem?
  intro k
  rw [List.getElem?_set, twl_len]
  by_cases hk : i = k
  · subst hk
    rw [if_pos rfl, if_pos hi, twl_at (by rw [hn]; exact hi), he]
  · rw [if_neg hk]
    by_cases h5 : k < 5 + Y.1.1 4
    · rw [twl_at h5, twl_at (by rw [hn]; exact h5), ho k (fun h => hk h.symm), hn]
    · rw [List.getElem?_eq_none (by rw [twl_len]; omega), List.getElem?_eq_none (by rw [twl_len, hn]; omega)]
theorem wt_i {i n j : Nat} {v : Int32} {c : ClassId} (hi : i < 5 + Y.1.1 4) (hc : ∀ f, twc q ta (aa 0) sa Y.1.1 i f = .inl (c, n, .inl f)) (e : Y1 = tsi Y i j v) : (ww q ta aa sa Y).set i (ta i, .inl (c, n, .inl (upd (Y.1.2 i) j v))) = ww q ta aa sa Y1 := by
  subst e
  refine ww_set hi ?_ rfl rfl (fun k hk => ?_)
  · unfold tsi
    simp only [if_pos]
    exact hc _
  · unfold tsi
    exact if_neg hk
theorem wt_o {j : Nat} {v : Int32} {fs : List Value} (hc : twc q ta (aa 0) sa Y.1.1 0 (upd (Y.1.2 0) j v) = .inr (8, fs)) (e : Y1 = tsi Y 0 j v) : (ww q ta aa sa Y).set 0 (ta 0, .inr (8, fs)) = ww q ta aa sa Y1 := by
  subst e
  refine ww_set (by omega) ?_ rfl rfl (fun k hk => ?_)
  · unfold tsi
    simp only [if_pos]
    exact hc
  · unfold tsi
    exact if_neg hk
end TW
/-- the world's hinder part, and what comes back of it -/
theorem sf_P {D : va_G} {cl : List vw_C} {T X : va_W} {H : Heap} (h : va_P D cl (T ++ X) H) : va_P D cl X H := by
  intro k r hk
  exact h (T.length + k) r (by rw [List.getElem?_append_right (by omega), Nat.add_sub_cancel_left]; exact hk)
theorem sf_D {A : Nat → Prop} {T X : va_W} (h : va_D A (T ++ X)) : va_D A X := by
  refine ⟨fun i j p r hp hr e => ?_, fun k r hr => ?_⟩
  · have h1 := h.1 (T.length + i) (T.length + j) p r (by rw [List.getElem?_append_right (by omega), Nat.add_sub_cancel_left]; exact hp) (by rw [List.getElem?_append_right (by omega), Nat.add_sub_cancel_left]; exact hr) e
    omega
  · exact h.2 (T.length + k) r (by rw [List.getElem?_append_right (by omega), Nat.add_sub_cancel_left]; exact hr)
theorem sf_J {D : va_G} {cl : List vw_C} {A : Nat → Prop} {T X X1 : va_W} {H H1 : Heap} (hP : va_P D cl (T ++ X) H) (hD : va_D A (T ++ X)) (hk : ∀ x : Nat, x < H.size → ¬ va_A X H.size x → H1[x]? = H[x]?) (hF : ∀ x, va_A X H.size x → A x) (hP1 : va_P D cl X1 H1) (hD1 : va_D (va_A X H.size) X1) : va_P D cl (T ++ X1) H1 ∧ va_D A (T ++ X1) := by
  have apart : ∀ (k : Nat) (r : Nat × va_E), T[k]? = some r → r.1 < H.size ∧ ¬ va_A X H.size r.1 := by
    intro k r hr
    have hr1 : (T ++ X)[k]? = some r := by rw [List.getElem?_append_left (List.getElem?_eq_some_iff.mp hr).1]; exact hr
    have hl := (hP k r hr1).lt
    refine ⟨hl, fun h => ?_⟩
    rcases h with ⟨k2, e, h⟩ | h
    · have h2 : (T ++ X)[T.length + k2]? = some (r.1, e) := by rw [List.getElem?_append_right (by omega), Nat.add_sub_cancel_left]; exact h
      have h3 := hD.1 _ _ r (r.1, e) hr1 h2 rfl
      have h4 : k < T.length := (List.getElem?_eq_some_iff.mp hr).1
      omega
    · omega
  refine ⟨va_P.app (fun k r hr => ?_) hP1, va_D.app ⟨fun i j p r hp hr e => ?_, fun k r hr => ?_⟩ (hD1.weaken fun _ x _ h => hF x.1 h) (fun i j p r hp hr e => ?_)⟩
  · have hr1 : (T ++ X)[k]? = some r := by rw [List.getElem?_append_left (List.getElem?_eq_some_iff.mp hr).1]; exact hr
    exact (hP k r hr1).kept (hk r.1 (apart k r hr).1 (apart k r hr).2)
  · exact hD.1 i j p r (by rw [List.getElem?_append_left (List.getElem?_eq_some_iff.mp hp).1]; exact hp) (by rw [List.getElem?_append_left (List.getElem?_eq_some_iff.mp hr).1]; exact hr) e
  · exact hD.2 k r (by rw [List.getElem?_append_left (List.getElem?_eq_some_iff.mp hr).1]; exact hr)
  · have h1 := hD1.2 j r hr
    rw [← e] at h1
    exact (apart i p hp).2 h1
/-- the script: a row of ints that nobody writes -/
def nd_ (U : State) : Prop := va_Nw (.methodLinkNest RX6 39 yL_cell "BallotLoomLaw") U ∧ va_Nw (.methodLinkNest RX6 45 yL_below "BallotLoomLaw") U
def sx_ (A : Nat → Prop) (sa L : Nat) (xs : Nat → Int32) (U : State) : Prop := va_X sa L xs U U.heap ∧ sa < U.heap.size ∧ ¬ A sa ∧ nd_ U
theorem sx_mk {s U : State} {H : Heap} {A B : Nat → Prop} {locs : List Loc} {sa L : Nat} {xs : Nat → Int32} (hU : U.heap = H) (hW : s.WarmedH U.vm) (hS : va_S A s.heap H locs) (hF : ∀ x, B x → A x) (h : sx_ A sa L xs s) : sx_ B sa L xs U := by
  obtain ⟨h1, h2, h3, h5, h6⟩ := h
  refine ⟨?_, ?_, fun h4 => h3 (hF _ h4), va_Nw.warmM hW h5, va_Nw.warmM hW h6⟩
  · rw [hU]
    exact (h1.kept (hS.2.1 sa h2 h3)).moved hW.alike
  · rw [hU]
    exact Nat.lt_of_lt_of_le h2 hS.1
def calt {T β : Type} (x : Option (TS × T)) (f : TS → T → Option β) : Option β := match x with
  | some r => f r.1 r.2
  | none => none
theorem calt_some {T β : Type} {x : Option (TS × T)} {f : TS → T → Option β} {r : β} (h : calt x f = some r) : ∃ (Z : TS) (t : T), x = some (Z, t) ∧ f Z t = some r := by
  unfold calt at h
  cases x with
  | none => cases h
  | some v => exact ⟨v.1, v.2, rfl, h⟩
theorem some2t {T : Type} {Z Z9 : TS} {r r9 : T} (h : some (Z, r) = some (Z9, r9)) : Z9 = Z ∧ r9 = r := by
  cases h
  exact ⟨rfl, rfl⟩
theorem sx_bl (A : Nat → Prop) (sa L : Nat) (xs : Nat → Int32) (U : State) (g : JFrame) (mk : MethodId) (a : Array Value) (h : sx_ A sa L xs U) : sx_ A sa L xs (U.calling g mk a) := ⟨h.1, h.2.1, h.2.2.1, va_Nw.same (u := U) (U := U.calling g mk a) rfl rfl h.2.2.2.1, va_Nw.same (u := U) (U := U.calling g mk a) rfl rfl h.2.2.2.2⟩
theorem nil_J {D : va_G} {cl : List vw_C} {A : Nat → Prop} {T : va_W} {H H1 : Heap} (hP : va_P D cl T H) (hk : ∀ x : Nat, x < H.size → ¬ va_A [] H.size x → H1[x]? = H[x]?) : va_P D cl T H1 := hP.kept (fun k r hr => hk r.1 ((hP k r hr).lt) (fun h => by
  rcases h with ⟨k2, e, h⟩ | h
  · cases h
  · have := (hP k r hr).lt
    omega))
theorem nil_F {A : Nat → Prop} {H0 H : Heap} {locs : List Loc} (hS : va_S A H0 H locs) (hA : ∀ x, H0.size ≤ x → A x) : ∀ x, va_A [] H.size x → A x := by
  intro x hx
  rcases hx with ⟨k, e, hk⟩ | h
  · cases hk
  · exact hA x (Nat.le_trans hS.1 h)
theorem va_Pn {D : va_G} {cl : List vw_C} (H : Heap) : va_P D cl [] H := fun k r h => by cases h
theorem va_Dn (A : Nat → Prop) : va_D A [] := by
  refine ⟨fun i j p r h => ?_, fun k r h => ?_⟩
  · cases h
  · cases h
theorem tx_in {v : Int32} {n : Nat} (h : ¬ (v < 0 ∨ n ≤ ix v)) : ix v < n := Nat.not_le.mp fun h9 => h (Or.inr h9)
