/-! p31: what is told grows: a row by one place, the stacks by one. -/
def nt (ta : Nat → Nat) (i b : Nat) : Nat → Nat := fun a => if a = i then b else ta a
theorem one_P {D : va_G} {cl : List vw_C} {ws : va_W} {H : Heap} {k : Nat} {x : Nat × va_E} (hP : va_P D cl ws H) (h : ws[k]? = some x) : va_P D cl [x] H := by
  intro j r hj
  have h1 : j < 1 := (List.getElem?_eq_some_iff.mp hj).1
  rw [show j = 0 by omega] at hj
  cases hj
  exact hP k x h
theorem one_D {A : Nat → Prop} {ws : va_W} {k : Nat} {x : Nat × va_E} (hD : va_D A ws) (h : ws[k]? = some x) : va_D A [x] := by
  refine ⟨fun i j p r hp hr _ => ?_, fun j r hj => ?_⟩
  · have h1 : i < 1 := (List.getElem?_eq_some_iff.mp hp).1
    have h2 : j < 1 := (List.getElem?_eq_some_iff.mp hr).1
    omega
  · have h1 : j < 1 := (List.getElem?_eq_some_iff.mp hj).1
    rw [show j = 0 by omega] at hj
    cases hj
    exact hD.2 k x h
/-- behind a call that keeps the cells it was given and makes one more -/
theorem grow_J {D : va_G} {cl : List vw_C} {A : Nat → Prop} {ws C : va_W} {H H1 : Heap} {b : Nat} {e : va_E} (hP : va_P D cl ws H) (hD : va_D A ws) (hC : ∀ (k : Nat) (x : Nat × va_E), C[k]? = some x → ∃ j : Nat, ws[j]? = some x) (hk : ∀ x : Nat, x < H.size → ¬ va_A C H.size x → H1[x]? = H[x]?) (hF : ∀ x, va_A C H.size x → A x) (hP1 : va_P D cl C H1) (hPb : va_P D cl [(b, e)] H1) (hb : H.size ≤ b) (hbA : A b) : va_P D cl (ws ++ [(b, e)]) H1 ∧ va_D A (ws ++ [(b, e)]) := by
  refine ⟨va_P.app (fun k r hr => ?_) hPb, va_D.app hD ⟨fun i j p r hp hr _ => ?_, fun j r hj => ?_⟩ (fun i j p r hp hr e9 => ?_)⟩
  · by_cases h : ∃ (j : Nat) (e9 : va_E), C[j]? = some (r.1, e9)
    · obtain ⟨j, e9, hj⟩ := h
      obtain ⟨j2, hj2⟩ := hC j _ hj
      have h2 := hD.1 _ _ r (r.1, e9) hr hj2 rfl
      subst h2
      have h3 := Option.some.inj (hr.symm.trans hj2)
      rw [← h3] at hj
      exact hP1 j r hj
    · refine (hP k r hr).kept (hk r.1 ((hP k r hr).lt) (fun h9 => ?_))
      rcases h9 with ⟨k2, e9, h9⟩ | h9
      · exact h ⟨k2, e9, h9⟩
      · have := (hP k r hr).lt
        omega
  · have h1 : i < 1 := (List.getElem?_eq_some_iff.mp hp).1
    have h2 : j < 1 := (List.getElem?_eq_some_iff.mp hr).1
    omega
  · have h1 : j < 1 := (List.getElem?_eq_some_iff.mp hj).1
    rw [show j = 0 by omega] at hj
    cases hj
    exact hbA
  · have h1 : j < 1 := (List.getElem?_eq_some_iff.mp hr).1
    rw [show j = 0 by omega] at hr
    cases hr
    have := (hP i p hp).lt
    have e8 : p.1 = b := e9
    omega
section GW
variable {q : Nat → ClassId} {ta aa : Nat → Nat} {sa : Nat} {Y : TS} {D : va_G} {cl : List vw_C} {H : Heap} {A : Nat → Prop}
theorem ww_len : (ww q ta aa sa Y).length = 5 + Y.1.1 4 + 89 := by
  unfold ww bw
  rw [List.length_append, twl_len, List.length_map, List.length_range]
theorem ww_0a {X : va_W} : (ww q ta aa sa Y ++ X)[0]? = some (ta 0, .inr (8, [.ref (aa 0), .ref sa, .int (Y.1.2 0 2), .ref (ta 1), .ref (ta 2), .ref (ta 3), .ref (ta 4), .int (Y.1.2 0 7), .int (Y.1.2 0 8)])) := by
  rw [List.getElem?_append_left (by rw [ww_len]; omega)]
  exact ww_0
/-- a row's new place is told -/
theorem gr_G {i b : Nat} {v : Int32} {fs : List Value} (hi : (i = 1 ∧ fs = [.ref (aa 0), .ref sa, .int (Y.1.2 0 2), .ref b, .ref (ta 2), .ref (ta 3), .ref (ta 4), .int (Y.1.2 0 7), .int (Y.1.2 0 8)]) ∨ (i = 3 ∧ fs = [.ref (aa 0), .ref sa, .int (Y.1.2 0 2), .ref (ta 1), .ref (ta 2), .ref b, .ref (ta 4), .int (Y.1.2 0 7), .int (Y.1.2 0 8)])) (k : Nat) (e : Nat × va_E) (h : (ww q (nt ta i b) aa sa (tgr Y i v))[k]? = some e) : ((ww q ta aa sa Y ++ ([(b, .inl (q 0, Y.1.1 i + 1, .inl (gro (Y.1.2 i) (Y.1.1 i) v)))] : va_W)).set 0 (ta 0, .inr (8, fs)))[if k = i then 5 + Y.1.1 4 + 89 else k]? = some e := by
  have hi4 : i ≠ 4 := by rcases hi with ⟨rfl, -⟩ | ⟨rfl, -⟩ <;> decide
  have hi5 : i < 5 ∧ i ≠ 0 := by rcases hi with ⟨rfl, -⟩ | ⟨rfl, -⟩ <;> decide
  have e4 : (tgr Y i v).1.1 4 = Y.1.1 4 := by
    unfold tgr
    exact if_neg (fun h9 => hi4 h9.symm)
  rw [List.getElem?_set]
  by_cases hki : k = i
  · subst hki
    rw [if_pos rfl, if_neg (by omega), List.getElem?_append_right (by rw [ww_len]; omega), ww_len, Nat.sub_self]
    rw [ww_at (by rw [e4]; omega) rfl] at h
    rw [← h]
    have e1 : nt ta k b k = b := if_pos rfl
    rw [e1]
    have e2 : twc q (nt ta k b) (aa 0) sa (tgr Y k v).1.1 k ((tgr Y k v).1.2 k) = .inl (q 0, Y.1.1 k + 1, .inl (gro (Y.1.2 k) (Y.1.1 k) v)) := by
      rcases hi with ⟨rfl, -⟩ | ⟨rfl, -⟩ <;> rfl
    rw [e2]
    rfl
  · rw [if_neg hki]
    by_cases h0 : k = 0
    · subst h0
      rw [if_pos rfl, if_pos (by rw [List.length_append, ww_len]; omega)]
      rw [ww_at (by omega) rfl] at h
      rw [← h]
      rcases hi with ⟨rfl, rfl⟩ | ⟨rfl, rfl⟩ <;> rfl
    · rw [if_neg (fun h9 => h0 h9.symm)]
      have hl : k < 5 + Y.1.1 4 + 89 := by
        have := (List.getElem?_eq_some_iff.mp h).1
        rw [ww_len, e4] at this
        exact this
      rw [List.getElem?_append_left (by rw [ww_len]; exact hl)]
      by_cases h5 : k < 5 + Y.1.1 4
      · rw [ww_at (by rw [e4]; exact h5) rfl] at h
        rw [ww_at h5 rfl, ← h]
        have e1 : nt ta i b k = ta k := if_neg hki
        rw [e1]
        have e3 : (tgr Y i v).1.2 k = Y.1.2 k := if_neg hki
        rw [e3]
        have e6 : ∀ j, j ≠ i → (tgr Y i v).1.1 j = Y.1.1 j := fun j hj => if_neg hj
        have e7 : (fun j => if j < (tgr Y i v).1.1 4 then some (nt ta i b (5 + j)) else none) = (fun j => if j < Y.1.1 4 then some (ta (5 + j)) else none) := by
          funext j
          rw [e4]
          have e8 : nt ta i b (5 + j) = ta (5 + j) := if_neg (by omega)
          rw [e8]
        have e9 : twc q (nt ta i b) (aa 0) sa (tgr Y i v).1.1 k (Y.1.2 k) = twc q ta (aa 0) sa Y.1.1 k (Y.1.2 k) := by
          unfold twc
          rw [if_neg h0, if_neg h0]
          by_cases k1 : k = 1
          · rw [if_pos k1, if_pos k1, e6 1 (fun h9 => hki (by omega))]
          · rw [if_neg k1, if_neg k1]
            by_cases k2 : k = 2
            · rw [if_pos k2, if_pos k2]
            · rw [if_neg k2, if_neg k2]
              by_cases k3 : k = 3
              · rw [if_pos k3, if_pos k3, e6 3 (fun h9 => hki (by omega))]
              · rw [if_neg k3, if_neg k3, e7, e4]
        rw [e9]
      · unfold ww at h ⊢
        rw [List.getElem?_append_right (by rw [twl_len, e4]; omega), twl_len, e4] at h
        rw [List.getElem?_append_right (by rw [twl_len]; omega), twl_len]
        have e2 : (tgr Y i v).2 = Y.2 := rfl
        rw [e2] at h
        exact h
theorem gr_P {i b : Nat} {v : Int32} {fs : List Value} (hi : (i = 1 ∧ fs = [.ref (aa 0), .ref sa, .int (Y.1.2 0 2), .ref b, .ref (ta 2), .ref (ta 3), .ref (ta 4), .int (Y.1.2 0 7), .int (Y.1.2 0 8)]) ∨ (i = 3 ∧ fs = [.ref (aa 0), .ref sa, .int (Y.1.2 0 2), .ref (ta 1), .ref (ta 2), .ref b, .ref (ta 4), .int (Y.1.2 0 7), .int (Y.1.2 0 8)])) (h : va_P D cl ((ww q ta aa sa Y ++ ([(b, .inl (q 0, Y.1.1 i + 1, .inl (gro (Y.1.2 i) (Y.1.1 i) v)))] : va_W)).set 0 (ta 0, .inr (8, fs))) H) : va_P D cl (ww q (nt ta i b) aa sa (tgr Y i v)) H := h.by (fun k => if k = i then 5 + Y.1.1 4 + 89 else k) (gr_G hi)
theorem gr_D {i b : Nat} {v : Int32} {fs : List Value} (hi : (i = 1 ∧ fs = [.ref (aa 0), .ref sa, .int (Y.1.2 0 2), .ref b, .ref (ta 2), .ref (ta 3), .ref (ta 4), .int (Y.1.2 0 7), .int (Y.1.2 0 8)]) ∨ (i = 3 ∧ fs = [.ref (aa 0), .ref sa, .int (Y.1.2 0 2), .ref (ta 1), .ref (ta 2), .ref b, .ref (ta 4), .int (Y.1.2 0 7), .int (Y.1.2 0 8)])) (h : va_D A ((ww q ta aa sa Y ++ ([(b, .inl (q 0, Y.1.1 i + 1, .inl (gro (Y.1.2 i) (Y.1.1 i) v)))] : va_W)).set 0 (ta 0, .inr (8, fs)))) : va_D A (ww q (nt ta i b) aa sa (tgr Y i v)) := by
  have e4 : (tgr Y i v).1.1 4 = Y.1.1 4 := by
    unfold tgr
    exact if_neg (by rcases hi with ⟨rfl, -⟩ | ⟨rfl, -⟩ <;> decide)
  refine h.by (fun k => if k = i then 5 + Y.1.1 4 + 89 else k) (gr_G hi) (fun x y hx hy e => ?_)
  rw [ww_len, e4] at hx hy
  by_cases h1 : x = i
  · by_cases h2 : y = i
    · rw [h1, h2]
    · simp only [if_pos h1, if_neg h2] at e
      omega
  · by_cases h2 : y = i
    · simp only [if_neg h1, if_pos h2] at e
      omega
    · simp only [if_neg h1, if_neg h2] at e
      exact e
end GW
