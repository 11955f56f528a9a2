/-! p31: what is told, as digits and lists; single runs. -/
section EV
variable {β T : Type}
theorem brt {c : Prop} [Decidable c] {x y : Option β} (h : c) : br c x y = x := if_pos h
theorem brf {c : Prop} [Decidable c] {x y : Option β} (h : ¬ c) : br c x y = y := if_neg h
theorem gdt {c : Prop} [Decidable c] {x : Option β} (h : c) : gd c x = x := if_pos h
theorem calp_e {x : Option T} {f : T → Option β} {r : T} (h : x = some r) : calp x f = f r := by rw [h]; rfl
theorem cal_e {x : Option (Mem × T)} {f : Mem → T → Option β} {Z : Mem} {r : T} (h : x = some (Z, r)) : cal x f = f Z r := by rw [h]; rfl
theorem calt_e {x : Option (TS × T)} {f : TS → T → Option β} {Z : TS} {r : T} (h : x = some (Z, r)) : calt x f = f Z r := by rw [h]; rfl
end EV
theorem r10 {x : Nat} (h : x < 2 ^ 31) : nI x - nI x / 10 * 10 = nI (x % 10) := pk_rem (d := 10) h (by decide) (by decide)
theorem q10 {x : Nat} (h : x < 2 ^ 31) : nI x / 10 = nI (x / 10) := pk_div (d := 10) h (by decide) (by decide)
/-- those of the digits that stand, in their order -/
def lsd (st : Nat → Bool) : List Nat → List Nat
  | [] => []
  | d :: l => if 1 ≤ d ∧ st (d - 1) = true then (d - 1) :: lsd st l else lsd st l
def St (n : Nat) (st : Nat → Bool) (Z : Mem) : Prop := n ≤ 6 ∧ Z.1 1 2 = nI n ∧ ∀ c, st c = decide (c < n ∧ ¬ Z.1 3 c = 0)
theorem St_si {n i j : Nat} {st : Nat → Bool} {Z : Mem} {v : Int32} (h : St n st Z) (h1 : i ≠ 1) (h3 : i ≠ 3) : St n st (si Z i j v) := by
  refine ⟨h.1, ?_, fun c => ?_⟩
  · rw [si_ne (fun e => h1 e.symm)]; exact h.2.1
  · rw [si_ne (fun e => h3 e.symm)]; exact h.2.2 c
theorem is_st {Z : Mem} {n d : Nat} {st : Nat → Bool} (h : St n st Z) (hd : d < 10) : F_X0_isStanding Z (nI d - 1) = some (if 1 ≤ d ∧ st (d - 1) = true then 1 else 0) := by
  unfold F_X0_isStanding
  simp only [bv]
  by_cases h0 : d = 0
  · subst h0
    rw [brt (by decide)]
    simp
  · obtain ⟨k, rfl⟩ : ∃ k, d = k + 1 := ⟨d - 1, by omega⟩
    have h6 := h.1
    rw [nI_pred, brf (nI_pos (by omega)), h.2.1]
    have e1 : k + 1 - 1 = k := by omega
    rw [e1, h.2.2 k]
    by_cases hk : n ≤ k
    · rw [brt (nI_le hk (by omega)), if_neg]
      intro h9
      have := of_decide_eq_true h9.2
      omega
    · rw [brf (nI_ge (by omega) (by omega)), gdt (nI_in (by omega) (by omega)), show ix (nI k) = k from nI_clamp (by omega)]
      by_cases hz : Z.1 3 k = 0
      · rw [brt hz, if_neg]
        intro h9
        exact (of_decide_eq_true h9.2).2 hz
      · rw [brf hz, if_pos]
        exact ⟨by omega, decide_eq_true ⟨by omega, hz⟩⟩
/-- what makeList's loop leaves -/
def MlQ (ka len : Nat) (L : List Nat) (Z Z1 : Mem) : Prop := Z1.2 = Z.2 ∧ (∀ a b, ¬ (a = 39 + ka ∧ b = 5) → a ≠ 64 + ka → Z1.1 a b = Z.1 a b) ∧ Z1.1 (39 + ka) 5 = nI (len + L.length) ∧ (∀ j, j < len → Z1.1 (64 + ka) j = Z.1 (64 + ka) j) ∧ ∀ j, j < L.length → Z1.1 (64 + ka) (len + j) = nI (L.getD j 0)
theorem dgs_0 (f : Nat) : dgs f 0 = [] := by cases f <;> rfl
theorem dgs_S {f x : Nat} (h : x ≠ 0) : dgs (f + 1) x = x % 10 :: dgs f (x / 10) := by rw [dgs, if_neg h]
theorem MlQ_nil {ka len : Nat} {Z : Mem} (h : Z.1 (39 + ka) 5 = nI len) : MlQ ka len [] Z Z := ⟨rfl, fun _ _ _ _ => rfl, by rw [h]; rfl, fun _ _ => rfl, fun j hj => absurd hj (by simp)⟩
theorem ml_loop (ka n : Nat) (st : Nat → Bool) (hka : ka < 25) : ∀ (r fuel : Nat) (Z : Mem) (x i len : Nat), i + r = 6 → r < fuel → x < 2 ^ 31 → St n st Z → Z.1 (39 + ka) 5 = nI len → len ≤ i →
    ∃ Z1, F_X3_makeList_l20 ka F_X3_makeList_x20 fuel Z (nI x) (nI i) = some (Z1, ()) ∧ MlQ ka len (lsd st (dgs r x)) Z Z1 := by
  intro r
  induction r with
  | zero =>
    intro fuel Z x i len hi hf hx hS hl hle
    obtain ⟨f, rfl⟩ : ∃ f, fuel = f + 1 := ⟨fuel - 1, by omega⟩
    refine ⟨Z, ?_, ?_⟩
    · rw [F_X3_makeList_l20, brt (show (6 : Int32) ≤ nI i from nI_le (a := 6) (by omega) (by omega))]
      rfl
    · exact MlQ_nil hl
  | succ r IH =>
    intro fuel Z x i len hi hf hx hS hl hle
    obtain ⟨f, rfl⟩ : ∃ f, fuel = f + 1 := ⟨fuel - 1, by omega⟩
    rw [F_X3_makeList_l20, brf (show ¬ (6 : Int32) ≤ nI i from nI_ge (b := 6) (by omega) (by decide))]
    by_cases h0 : x = 0
    · subst h0
      rw [brt (by decide), dgs_0]
      exact ⟨Z, rfl, MlQ_nil hl⟩
    · rw [brf (nI_nle (by omega) hx)]
      simp only [bv]
      rw [r10 hx, calp_e (is_st hS (Nat.mod_lt _ (by decide))), dgs_S h0]
      have hx2 : x / 10 < 2 ^ 31 := by omega
      by_cases hc : 1 ≤ x % 10 ∧ st (x % 10 - 1) = true
      · rw [if_pos hc, brf (by decide), hl, gdt (nI_in (by omega) (by omega)), show ix (nI len) = len from nI_clamp (by omega)]
        have el : (si Z (64 + ka) len (nI (x % 10) - 1)).1 (39 + ka) 5 = nI len := by rw [si_ne (by omega)]; exact hl
        rw [el, nI_1]
        obtain ⟨k, hk⟩ : ∃ k, x % 10 = k + 1 := ⟨x % 10 - 1, by omega⟩
        rw [hk, nI_pred]
        unfold F_X3_makeList_j68
        simp only [bv]
        rw [q10 hx, nI_1]
        have hS2 : St n st (si (si Z (64 + ka) len (nI k)) (39 + ka) 5 (nI (len + 1))) := St_si (St_si hS (by omega) (by omega)) (by omega) (by omega)
        obtain ⟨Z1, e1, h1, h2, h3, h4, h5⟩ := IH f (si (si Z (64 + ka) len (nI k)) (39 + ka) 5 (nI (len + 1))) (x / 10) (i + 1) (len + 1) (by omega) (by omega) hx2 hS2 si_same (by omega)
        have hc2 : 1 ≤ k + 1 ∧ st (k + 1 - 1) = true := by rw [← hk]; exact hc
        have eL : lsd st ((k + 1) :: dgs r (x / 10)) = k :: lsd st (dgs r (x / 10)) := by
          rw [lsd, if_pos hc2]
          rfl
        refine ⟨Z1, e1, h1, fun a b ha hb => ?_, ?_, fun j hj => ?_, fun j hj => ?_⟩
        · rw [h2 a b ha hb]
          by_cases hb2 : a = 39 + ka
          · subst hb2
            rw [si_row, if_neg (fun e => ha ⟨rfl, e⟩), si_ne (by omega)]
          · rw [si_ne hb2, si_ne hb]
        · rw [h3, eL, List.length_cons, show len + 1 + (lsd st (dgs r (x / 10))).length = len + ((lsd st (dgs r (x / 10))).length + 1) by omega]
        · rw [h4 j (by omega), si_ne (by omega), si_row, if_neg (by omega)]
        · rw [eL] at hj ⊢
          rw [List.length_cons] at hj
          by_cases hj0 : j = 0
          · subst hj0
            rw [Nat.add_zero, h4 len (by omega), si_ne (by omega), si_row, if_pos rfl]
            rfl
          · obtain ⟨j2, rfl⟩ : ∃ j2, j = j2 + 1 := ⟨j - 1, by omega⟩
            rw [show len + (j2 + 1) = len + 1 + j2 by omega, h5 j2 (by omega)]
            rfl
      · rw [if_neg hc, brt rfl]
        unfold F_X3_makeList_j68
        simp only [bv]
        rw [q10 hx, nI_1]
        have eL : lsd st ((x % 10) :: dgs r (x / 10)) = lsd st (dgs r (x / 10)) := by rw [lsd, if_neg hc]
        rw [eL]
        exact IH f Z (x / 10) (i + 1) len (by omega) (by omega) hx2 hS hl (by omega)
/-- the list of a stack -/
def lstOf (st : Nat → Bool) (sp : Int32) (x : Nat) : List Nat := if sp = 0 then lsd st (dgs 6 x) else []
theorem ml_all {Z : Mem} {ka n x : Nat} {st : Nat → Bool} (hka : ka < 25) (hS : St n st Z) (hx : x < 2 ^ 31) (hr : Z.1 (39 + ka) 1 = nI x) : ∃ Z1, F_X3_makeList Z ka = some (Z1, ()) ∧ MlQ ka 0 (lstOf st (Z.1 (39 + ka) 3) x) Z Z1 := by
  unfold F_X3_makeList
  simp only [bv]
  have e3 : (si Z (39 + ka) 5 0).1 (39 + ka) 3 = Z.1 (39 + ka) 3 := by rw [si_row, if_neg (by decide)]
  have e1 : (si Z (39 + ka) 5 0).1 (39 + ka) 1 = nI x := by rw [si_row, if_neg (by decide)]; exact hr
  rw [e3, e1]
  have hS2 : St n st (si Z (39 + ka) 5 0) := St_si hS (by omega) (by omega)
  have h5 : (si Z (39 + ka) 5 0).1 (39 + ka) 5 = nI 0 := si_same
  have fr : ∀ Z1, MlQ ka 0 (lstOf st (Z.1 (39 + ka) 3) x) (si Z (39 + ka) 5 0) Z1 → MlQ ka 0 (lstOf st (Z.1 (39 + ka) 3) x) Z Z1 := by
    intro Z1 h
    refine ⟨h.1, fun a b ha hb => ?_, h.2.2.1, fun j hj => absurd hj (by omega), h.2.2.2.2⟩
    rw [h.2.1 a b ha hb]
    by_cases hb2 : a = 39 + ka
    · subst hb2
      rw [si_row, if_neg (fun e => ha ⟨rfl, e⟩)]
    · rw [si_ne hb2]
  by_cases hs : Z.1 (39 + ka) 3 = 0
  · rw [brt hs]
    obtain ⟨Z1, e, h⟩ := ml_loop ka n st hka 6 100 (si Z (39 + ka) 5 0) x 0 0 rfl (by decide) hx hS2 h5 (by omega)
    refine ⟨Z1, e, fr Z1 ?_⟩
    unfold lstOf
    rw [if_pos hs]
    exact h
  · rw [brf hs]
    refine ⟨_, rfl, fr _ ?_⟩
    unfold lstOf
    rw [if_neg hs]
    exact MlQ_nil h5
