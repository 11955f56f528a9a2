/-! p31: one stack more: its row stands ahead of the world while it is filled. -/
theorem fx {ws : va_W} {x e : Nat × va_E} {k : Nat} (h : ws[k]? = some e) : ([x] ++ ws)[k + 1]? = some e := h
def rwB (q : Nat → ClassId) (ta : Nat → Nat) (M : TM) : va_W := (List.range (M.1 4)).map (fun k => (ta (5 + k), .inl (q 0, 4, .inl (M.2 (5 + k)))))
theorem rwB_get {q : Nat → ClassId} {ta : Nat → Nat} {M : TM} {k : Nat} (h : k < M.1 4) : (rwB q ta M)[k]? = some (ta (5 + k), .inl (q 0, 4, .inl (M.2 (5 + k)))) := by
  unfold rwB
  rw [List.getElem?_map, List.getElem?_range h]
  rfl
theorem rwB_lt {q : Nat → ClassId} {ta : Nat → Nat} {M : TM} {k : Nat} {x : Nat × va_E} (h : (rwB q ta M)[k]? = some x) : k < M.1 4 := by
  have := (List.getElem?_eq_some_iff.mp h).1
  unfold rwB at this
  rwa [List.length_map, List.length_range] at this
section RW
variable {q : Nat → ClassId} {ta aa : Nat → Nat} {sa r b : Nat} {g : Nat → Int32} {Y : TS} {D : va_G} {cl : List vw_C} {H H1 : Heap} {A : Nat → Prop}
/-- what plus is given: the row of rows, the new row, the rows -/
def pw (q : Nat → ClassId) (ta : Nat → Nat) (r : Nat) (g : Nat → Int32) (Y : TS) : va_W := [(ta 4, .inl (q 4, Y.1.1 4, .inr (.inr (.inr (.inr (fun k => if k < Y.1.1 4 then some (ta (5 + k)) else none)))))), (r, .inl (q 0, 4, .inl g))] ++ rwB q ta Y.1
theorem pw_G (k : Nat) (x : Nat × va_E) (h : (pw q ta r g Y)[k]? = some x) : ([(r, .inl (q 0, 4, .inl g))] ++ ww q ta aa sa Y : va_W)[if k = 0 then 5 else if k = 1 then 0 else k + 4]? = some x := by
  by_cases h0 : k = 0
  · subst h0
    rw [if_pos rfl]
    rw [← h]
    exact fx ww_4
  · by_cases h1 : k = 1
    · subst h1
      rw [if_neg (by decide), if_pos rfl, ← h]
      rfl
    · rw [if_neg h0, if_neg h1]
      obtain ⟨j, rfl⟩ : ∃ j, k = j + 2 := ⟨k - 2, by omega⟩
      have h2 : (rwB q ta Y.1)[j]? = some x := h
      have hj := rwB_lt h2
      rw [rwB_get hj] at h2
      rw [← h2]
      have h3 := ww_r (q := q) (ta := ta) (aa := aa) (sa := sa) hj
      have h4 := fx (x := (r, .inl (q 0, 4, .inl g))) h3
      rw [show j + 2 + 4 = 5 + j + 1 by omega]
      exact h4
theorem pw_P (h : va_P D cl ([(r, .inl (q 0, 4, .inl g))] ++ ww q ta aa sa Y) H) : va_P D cl (pw q ta r g Y) H := h.by _ pw_G
theorem pw_D (h : va_D A ([(r, .inl (q 0, 4, .inl g))] ++ ww q ta aa sa Y)) : va_D A (pw q ta r g Y) := by
  refine h.by _ pw_G (fun i j _ _ e => ?_)
  have e9 : (if i = 0 then 5 else if i = 1 then 0 else i + 4) = (if j = 0 then 5 else if j = 1 then 0 else j + 4) := e
  repeat' split at e9
  all_goals omega
/-- behind plus -/
theorem pw_J {e : va_E} (hP : va_P D cl ([(r, .inl (q 0, 4, .inl g))] ++ ww q ta aa sa Y) H) (hD : va_D A ([(r, .inl (q 0, 4, .inl g))] ++ ww q ta aa sa Y)) (hk : ∀ x : Nat, x < H.size → ¬ va_A (pw q ta r g Y) H.size x → H1[x]? = H[x]?) (hF : ∀ x, va_A (pw q ta r g Y) H.size x → A x)
    (hP1 : va_P D cl ([(ta 4, .inl (q 4, Y.1.1 4, .inr (.inr (.inr (.inr (fun k => if k < Y.1.1 4 then some (ta (5 + k)) else none)))))), (r, .inl (q 0, 4, .inl g)), (b, e)] ++ rwB q ta Y.1) H1) (hD1 : va_D (va_A (pw q ta r g Y) H.size) ([(ta 4, .inl (q 4, Y.1.1 4, .inr (.inr (.inr (.inr (fun k => if k < Y.1.1 4 then some (ta (5 + k)) else none)))))), (r, .inl (q 0, 4, .inl g)), (b, e)] ++ rwB q ta Y.1)) :
    va_P D cl (([(r, .inl (q 0, 4, .inl g))] ++ ww q ta aa sa Y) ++ [(b, e)]) H1 ∧ va_D A (([(r, .inl (q 0, 4, .inl g))] ++ ww q ta aa sa Y) ++ [(b, e)]) := by
  have hsub : ∀ (k : Nat) (x : Nat × va_E), (pw q ta r g Y)[k]? = some x → ([(ta 4, .inl (q 4, Y.1.1 4, .inr (.inr (.inr (.inr (fun k => if k < Y.1.1 4 then some (ta (5 + k)) else none)))))), (r, .inl (q 0, 4, .inl g)), (b, e)] ++ rwB q ta Y.1 : va_W)[if k < 2 then k else k + 1]? = some x := by
    intro k x h
    by_cases h2 : k < 2
    · rw [if_pos h2, ← h]
      have h3 : k = 0 ∨ k = 1 := by omega
      rcases h3 with rfl | rfl <;> rfl
    · rw [if_neg h2]
      obtain ⟨j, rfl⟩ : ∃ j, k = j + 2 := ⟨k - 2, by omega⟩
      exact h
  have hb0 : H.size ≤ b := by
    have h3 := hD1.2 2 (b, e) rfl
    rcases h3 with ⟨k, e9, hk9⟩ | h3
    · exfalso
      have h4 := hsub k _ hk9
      have h5 := hD1.1 _ 2 _ (b, e) h4 rfl rfl
      by_cases h2 : k < 2
      · rw [if_pos h2] at h5
        omega
      · rw [if_neg h2] at h5
        omega
    · exact h3
  refine grow_J (C := pw q ta r g Y) hP hD (fun k x h => ⟨_, pw_G k x h⟩) hk hF (hP1.by _ hsub) (fun k x h => ?_) hb0 (hF b (Or.inr hb0))
  have h1 : k < 1 := (List.getElem?_eq_some_iff.mp h).1
  rw [show k = 0 by omega] at h
  cases h
  exact hP1 2 _ rfl
/-- the new stack is told -/
theorem rw_G (k : Nat) (e : Nat × va_E) (h : (ww q (nt (nt ta 4 b) (5 + Y.1.1 4) r) aa sa (trw Y g))[k]? = some e) : ((([(r, .inl (q 0, 4, .inl g))] ++ ww q ta aa sa Y) ++ [(b, .inl (q 4, Y.1.1 4 + 1, .inr (.inr (.inr (.inr (groq (fun k => if k < Y.1.1 4 then some (ta (5 + k)) else none) (Y.1.1 4) r))))))] : va_W).set 1 (ta 0, .inr (8, [.ref (aa 0), .ref sa, .int (Y.1.2 0 2), .ref (ta 1), .ref (ta 2), .ref (ta 3), .ref b, .int (Y.1.2 0 7), .int (Y.1.2 0 8)])))[if k = 4 then 1 + (5 + Y.1.1 4 + 89) else if k = 5 + Y.1.1 4 then 0 else if k < 5 + Y.1.1 4 then k + 1 else k]? = some e := by
  generalize hn : Y.1.1 4 = n at h ⊢
  have e4 : (trw Y g).1.1 4 = n + 1 := by
    rw [← hn]
    show (if (4 : Nat) = 4 then Y.1.1 4 + 1 else Y.1.1 4) = Y.1.1 4 + 1
    rw [if_pos rfl]
  have hL : (ww q ta aa sa Y).length = 5 + n + 89 := by rw [ww_len, hn]
  have eo : ∀ j, j ≠ 4 → (trw Y g).1.1 j = Y.1.1 j := fun j hj => if_neg hj
  have et : ∀ j, j ≠ 4 → j ≠ 5 + n → nt (nt ta 4 b) (5 + n) r j = ta j := by
    intro j h1 h2
    unfold nt
    rw [if_neg h2, if_neg h1]
  have et4 : nt (nt ta 4 b) (5 + n) r 4 = b := by
    unfold nt
    rw [if_neg (by omega), if_pos rfl]
  have etr : nt (nt ta 4 b) (5 + n) r (5 + n) = r := by
    unfold nt
    rw [if_pos rfl]
  have eg : groq (fun k => if k < n then some (ta (5 + k)) else none) n r = (fun k => if k < n + 1 then some (nt (nt ta 4 b) (5 + n) r (5 + k)) else none) := by
    funext j
    unfold groq
    by_cases h1 : j < n
    · rw [if_pos h1, if_pos (by omega), et _ (by omega) (by omega)]
      show (if j < n then some (ta (5 + j)) else none) = _
      rw [if_pos h1]
    · by_cases h2 : j = n
      · subst h2
        rw [if_neg (by omega), if_pos rfl, if_pos (by omega), etr]
      · rw [if_neg h1, if_neg h2, if_neg (by omega)]
  rw [List.getElem?_set]
  by_cases k4 : k = 4
  · subst k4
    rw [if_pos rfl, if_neg (by omega), List.getElem?_append_right (by rw [List.length_append, hL]; show 1 + _ ≤ _; omega), List.length_append, hL]
    rw [show 1 + (5 + n + 89) - (([(r, .inl (q 0, 4, .inl g))] : va_W).length + (5 + n + 89)) = 0 by show 1 + (5 + n + 89) - (1 + (5 + n + 89)) = 0; omega]
    rw [ww_at (by rw [e4]; omega) rfl] at h
    rw [← h, et4]
    have e2 : twc q (nt (nt ta 4 b) (5 + n) r) (aa 0) sa (trw Y g).1.1 4 ((trw Y g).1.2 4) = .inl (q 4, n + 1, .inr (.inr (.inr (.inr (fun k => if k < n + 1 then some (nt (nt ta 4 b) (5 + n) r (5 + k)) else none))))) := by
      unfold twc
      rw [if_neg (by decide), if_neg (by decide), if_neg (by decide), if_neg (by decide), if_pos rfl, e4]
    rw [e2, ← eg]
    rfl
  · rw [if_neg k4]
    by_cases kr : k = 5 + n
    · subst kr
      rw [if_pos rfl, if_neg (by omega)]
      rw [ww_at (by rw [e4]; omega) twc_r] at h
      rw [← h, etr]
      have e3 : (trw Y g).1.2 (5 + n) = g := by
        unfold trw
        rw [← hn]
        exact if_pos rfl
      rw [e3]
      rfl
    · rw [if_neg kr]
      by_cases k5 : k < 5 + n
      · rw [if_pos k5]
        by_cases h0 : k = 0
        · subst h0
          rw [if_pos rfl, if_pos (by rw [List.length_append, List.length_append, hL]; show 0 + 1 < 1 + _ + _; omega)]
          rw [ww_at (by omega) rfl] at h
          rw [← h, et 0 (by decide) (by omega)]
          have e6 : twc q (nt (nt ta 4 b) (5 + n) r) (aa 0) sa (trw Y g).1.1 0 ((trw Y g).1.2 0) = .inr (8, [.ref (aa 0), .ref sa, .int (Y.1.2 0 2), .ref (ta 1), .ref (ta 2), .ref (ta 3), .ref b, .int (Y.1.2 0 7), .int (Y.1.2 0 8)]) := by
            have e7 : (trw Y g).1.2 0 = Y.1.2 0 := if_neg (by omega)
            unfold twc
            rw [if_pos rfl, e7, et4, et 1 (by decide) (by omega), et 2 (by decide) (by omega), et 3 (by decide) (by omega)]
          rw [e6]
        · rw [if_neg (by omega)]
          rw [List.getElem?_append_left (by rw [List.length_append, hL]; show k + 1 < 1 + _; omega)]
          rw [ww_at (by rw [e4]; omega) rfl] at h
          have h9 := fx (x := (r, .inl (q 0, 4, .inl g))) (ww_at (q := q) (ta := ta) (aa := aa) (sa := sa) (Y := Y) (i := k) (by rw [hn]; exact k5) rfl)
          rw [h9, ← h, et k k4 kr]
          have e3 : (trw Y g).1.2 k = Y.1.2 k := by
            unfold trw
            rw [hn]
            exact if_neg kr
          rw [e3]
          congr 2
          unfold twc
          rw [if_neg h0, if_neg h0, eo 1 (by decide), eo 3 (by decide), if_neg k4, if_neg k4]
      · rw [if_neg k5, if_neg (by omega)]
        unfold ww at h
        rw [List.getElem?_append_right (by rw [twl_len, e4]; omega), twl_len, e4] at h
        have hl := (List.getElem?_eq_some_iff.mp h).1
        have hl2 : k - (5 + (n + 1)) < 89 := by
          unfold bw at hl
          rwa [List.length_map, List.length_range] at hl
        rw [List.getElem?_append_left (by rw [List.length_append, hL]; show k < 1 + _; omega)]
        rw [List.getElem?_append_right (by show 1 ≤ k; omega)]
        unfold ww
        rw [show ([(r, .inl (q 0, 4, .inl g))] : va_W).length = 1 from rfl, List.getElem?_append_right (by rw [twl_len, hn]; omega), twl_len, hn, show k - 1 - (5 + n) = k - (5 + (n + 1)) by omega]
        exact h
theorem rw_P (h : va_P D cl ((([(r, .inl (q 0, 4, .inl g))] ++ ww q ta aa sa Y) ++ [(b, .inl (q 4, Y.1.1 4 + 1, .inr (.inr (.inr (.inr (groq (fun k => if k < Y.1.1 4 then some (ta (5 + k)) else none) (Y.1.1 4) r))))))] : va_W).set 1 (ta 0, .inr (8, [.ref (aa 0), .ref sa, .int (Y.1.2 0 2), .ref (ta 1), .ref (ta 2), .ref (ta 3), .ref b, .int (Y.1.2 0 7), .int (Y.1.2 0 8)]))) H) : va_P D cl (ww q (nt (nt ta 4 b) (5 + Y.1.1 4) r) aa sa (trw Y g)) H := h.by _ rw_G
theorem rw_D (h : va_D A ((([(r, .inl (q 0, 4, .inl g))] ++ ww q ta aa sa Y) ++ [(b, .inl (q 4, Y.1.1 4 + 1, .inr (.inr (.inr (.inr (groq (fun k => if k < Y.1.1 4 then some (ta (5 + k)) else none) (Y.1.1 4) r))))))] : va_W).set 1 (ta 0, .inr (8, [.ref (aa 0), .ref sa, .int (Y.1.2 0 2), .ref (ta 1), .ref (ta 2), .ref (ta 3), .ref b, .int (Y.1.2 0 7), .int (Y.1.2 0 8)])))) : va_D A (ww q (nt (nt ta 4 b) (5 + Y.1.1 4) r) aa sa (trw Y g)) := by
  refine h.by _ rw_G (fun x y hx hy e => ?_)
  have e4 : (trw Y g).1.1 4 = Y.1.1 4 + 1 := by
    show (if (4 : Nat) = 4 then Y.1.1 4 + 1 else Y.1.1 4) = Y.1.1 4 + 1
    rw [if_pos rfl]
  rw [ww_len, e4] at hx hy
  repeat' split at e
  all_goals omega
end RW
theorem fxa {ws X : va_W} {x e : Nat × va_E} {k : Nat} (h : ws[k]? = some e) : (([x] ++ ws) ++ X)[k + 1]? = some e := by
  have h1 := (List.getElem?_eq_some_iff.mp h).1
  rw [List.getElem?_append_left (by rw [List.length_append]; show k + 1 < 1 + _; omega)]
  exact h
theorem one_C {ws : va_W} {x : Nat × va_E} {k : Nat} (h : ws[k]? = some x) : ∀ (j : Nat) (y : Nat × va_E), ([x] : va_W)[j]? = some y → ∃ i : Nat, ws[i]? = some y := by
  intro j y hj
  have h1 : j < 1 := (List.getElem?_eq_some_iff.mp hj).1
  rw [show j = 0 by omega] at hj
  cases hj
  exact ⟨k, h⟩
theorem new_b {x : Nat × va_E} {b sz : Nat} {e : va_E} (h : va_D (va_A [x] sz) [x, (b, e)]) : sz ≤ b := by
  rcases h.2 1 (b, e) rfl with ⟨k, e9, hk⟩ | h3
  · exfalso
    have h1 : k < 1 := (List.getElem?_eq_some_iff.mp hk).1
    rw [show k = 0 by omega] at hk
    cases hk
    have h5 := h.1 0 1 _ _ rfl rfl rfl
    omega
  · exact h3
theorem nt_0 {ta : Nat → Nat} {b n r : Nat} : nt (nt ta 4 b) (5 + n) r 0 = ta 0 := by
  unfold nt
  rw [if_neg (by omega), if_neg (by decide)]
theorem rwB_h {q : Nat → ClassId} {ta : Nat → Nat} {M : TM} : ∀ (i y : Nat), i < M.1 4 → (fun k => if k < M.1 4 then some (ta (5 + k)) else none) i = some y → ∃ (k nv : Nat) (r9 : Nat → Int32), (rwB q ta M)[k]? = some (y, .inl (q 0, nv, .inl r9)) := by
  intro i y hi hy
  have h1 : (if i < M.1 4 then some (ta (5 + i)) else none) = some y := hy
  rw [if_pos hi] at h1
  cases h1
  exact ⟨i, 4, _, rwB_get hi⟩
theorem qo_blm : ∀ (U : State) (g : JFrame) (mk : MethodId) (a : Array Value), qo_ U → qo_ (U.calling g mk a) := qo_bl
/-- the digits of a number, the lowest first -/
def dgs : Nat → Nat → List Nat
  | 0, _ => []
  | f + 1, x => if x = 0 then [] else x % 10 :: dgs f (x / 10)
/-- whether ranks are spoiled, as one reads their digits -/
noncomputable def spS (n : Nat) (x : Int32) : Int32 := if (∀ d ∈ dgs 10 (ix x), 1 ≤ d ∧ d ≤ n) ∧ (dgs 10 (ix x)).Nodup then 0 else 1
noncomputable def F_X6_isSpoiled (L : Nat) (xs : Nat → Int32) (Y : TS) (xa : Int32) : Option Int32 := gd (((1 : Int32) ≤ xa ∧ xa ≤ 999999) ∧ Y.1.1 1 ≤ 6) <| some (spS (Y.1.1 1) xa)
