/-! p31: what spoils ranks, as the class and the law read it. -/
theorem nI_or (a b : Nat) : nI a ||| nI b = nI (a ||| b) := by
  apply Int32.toBitVec_inj.mp
  show BitVec.ofNat 32 a ||| BitVec.ofNat 32 b = BitVec.ofNat 32 (a ||| b)
  exact (BitVec.ofNat_or ..).symm
theorem nI_and (a b : Nat) : nI a &&& nI b = nI (a &&& b) := by
  apply Int32.toBitVec_inj.mp
  show BitVec.ofNat 32 a &&& BitVec.ofNat 32 b = BitVec.ofNat 32 (a &&& b)
  exact (BitVec.ofNat_and ..).symm
theorem sh1 : ∀ d, d < 10 → (1 : Int32) <<< (nI d &&& 31) = nI (2 ^ d) := by decide
theorem and_b {s d : Nat} (hs : s < 2 ^ 31) : nI s &&& nI (2 ^ d) = 0 ↔ s.testBit d = false := by
  rw [nI_and]
  have hle : s &&& 2 ^ d ≤ s := Nat.and_le_left
  constructor
  · intro h
    have h1 : s &&& 2 ^ d = 0 := (nI_eq (b := 0) (by omega) (by decide)).mp h
    have h2 : (s &&& 2 ^ d).testBit d = false := by rw [h1]; exact Nat.zero_testBit d
    rw [Nat.testBit_and, Nat.testBit_two_pow_self, Bool.and_true] at h2
    exact h2
  · intro h
    have h1 : s &&& 2 ^ d = 0 := by
      apply Nat.eq_of_testBit_eq
      intro i
      rw [Nat.testBit_and, Nat.testBit_two_pow, Nat.zero_testBit]
      by_cases hi : d = i
      · subst hi
        rw [h]
        rfl
      · rw [decide_eq_false hi, Bool.and_false]
    rw [h1]
    rfl
theorem or_lt {s d : Nat} (hs : s < 1024) (hd : d < 10) : s ||| 2 ^ d < 1024 := Nat.or_lt_two_pow (n := 10) hs (Nat.pow_lt_pow_right (by decide) hd)
/-- ranks that are none -/
def Gd (n : Nat) (D l : List Nat) : Prop := (∀ d ∈ l, 1 ≤ d ∧ d ≤ n ∧ d ∉ D) ∧ l.Nodup
theorem Gd_nil (n : Nat) (D : List Nat) : Gd n D [] := ⟨fun d h => absurd h (by simp), List.nodup_nil⟩
theorem Gd_cons {n d : Nat} {D l : List Nat} : Gd n D (d :: l) ↔ (1 ≤ d ∧ d ≤ n ∧ d ∉ D) ∧ Gd n (d :: D) l := by
  unfold Gd
  constructor
  · intro h
    refine ⟨h.1 d (by simp), fun e he => ?_, (List.nodup_cons.mp h.2).2⟩
    have h1 := h.1 e (by simp [he])
    refine ⟨h1.1, h1.2.1, fun h2 => ?_⟩
    rcases List.mem_cons.mp h2 with h3 | h3
    · subst h3
      exact (List.nodup_cons.mp h.2).1 he
    · exact h1.2.2 h3
  · intro h
    refine ⟨fun e he => ?_, List.nodup_cons.mpr ⟨fun h1 => (h.2.1 d h1).2.2 (by simp), h.2.2⟩⟩
    rcases List.mem_cons.mp he with h3 | h3
    · subst h3
      exact h.1
    · have h1 := h.2.1 e h3
      exact ⟨h1.1, h1.2.1, fun h2 => h1.2.2 (by simp [h2])⟩
theorem isp_loop (n : Nat) (hn : n ≤ 6) : ∀ (r fuel s x i : Nat) (D : List Nat), i + r = 6 → r < fuel → x < 2 ^ 31 → s < 1024 → (∀ d, d < 10 → (s.testBit d = true ↔ d ∈ D)) →
    ∃ v, F_X3_isSpoiling_l7 (nI n) F_X3_isSpoiling_x7 fuel (nI s) (nI x) (nI i) = some v ∧ ((Gd n D (dgs r x) ∧ v = 0) ∨ (¬ Gd n D (dgs r x) ∧ v = 1)) := by
  intro r
  induction r with
  | zero =>
    intro fuel s x i D hi hf hx hs hD
    obtain ⟨f, rfl⟩ : ∃ f, fuel = f + 1 := ⟨fuel - 1, by omega⟩
    rw [F_X3_isSpoiling_l7, brt (show (6 : Int32) ≤ nI i from nI_le (a := 6) (by omega) (by omega))]
    exact ⟨0, rfl, Or.inl ⟨Gd_nil _ _, rfl⟩⟩
  | succ r IH =>
    intro fuel s x i D hi hf hx hs hD
    obtain ⟨f, rfl⟩ : ∃ f, fuel = f + 1 := ⟨fuel - 1, by omega⟩
    rw [F_X3_isSpoiling_l7, brf (show ¬ (6 : Int32) ≤ nI i from nI_ge (b := 6) (by omega) (by decide))]
    by_cases h0 : x = 0
    · subst h0
      rw [brt (by decide), dgs_0]
      exact ⟨0, rfl, Or.inl ⟨Gd_nil _ _, rfl⟩⟩
    · rw [brf (nI_nle (by omega) hx)]
      simp only [bv]
      have hm : x % 10 < 10 := Nat.mod_lt _ (by decide)
      rw [r10 hx, q10 hx, dgs_S h0, sh1 _ hm, nI_1]
      generalize hd : x % 10 = d at hm ⊢
      by_cases hd0 : d = 0
      · rw [brt (show nI d = 0 by rw [hd0]; rfl)]
        refine ⟨1, rfl, Or.inr ⟨fun h => ?_, rfl⟩⟩
        have := (Gd_cons.mp h).1.1
        omega
      · rw [brf (nI_ne0 (by omega) (by omega))]
        by_cases hdn : n < d
        · rw [brt (nI_lt hdn (by omega))]
          refine ⟨1, rfl, Or.inr ⟨fun h => ?_, rfl⟩⟩
          have := (Gd_cons.mp h).1.2.1
          omega
        · rw [brf (nI_nlt (by omega) (by omega))]
          by_cases hb : s.testBit d = true
          · rw [brf (fun h9 => by rw [(and_b (by omega)).mp h9] at hb; cases hb)]
            refine ⟨1, rfl, Or.inr ⟨fun h => ?_, rfl⟩⟩
            exact (Gd_cons.mp h).1.2.2 ((hD d hm).mp hb)
          · rw [brt ((and_b (by omega)).mpr (by simpa using hb)), nI_or]
            obtain ⟨v, e, h⟩ := IH f (s ||| 2 ^ d) (x / 10) (i + 1) (d :: D) (by omega) (by omega) (by omega) (or_lt hs hm) (fun e he => by
              rw [Nat.testBit_or, Nat.testBit_two_pow, Bool.or_eq_true, hD e he, List.mem_cons, decide_eq_true_iff]
              constructor
              · rintro (h9 | h9)
                · exact Or.inr h9
                · exact Or.inl h9.symm
              · rintro (h9 | h9)
                · exact Or.inr h9.symm
                · exact Or.inl h9)
            have hnd : d ∉ D := fun h9 => hb ((hD d hm).mpr h9)
            refine ⟨v, e, h.elim (fun h9 => Or.inl ⟨Gd_cons.mpr ⟨⟨by omega, by omega, hnd⟩, h9.1⟩, h9.2⟩) (fun h9 => Or.inr ⟨fun h8 => h9.1 (Gd_cons.mp h8).2, h9.2⟩)⟩
theorem dgs_more : ∀ (r k x : Nat), x < 10 ^ r → dgs (r + k) x = dgs r x := by
  intro r
  induction r with
  | zero =>
    intro k x h
    have : x = 0 := by simpa using h
    subst this
    rw [dgs_0, dgs_0]
  | succ r IH =>
    intro k x h
    by_cases h0 : x = 0
    · subst h0
      rw [dgs_0, dgs_0]
    · rw [show r + 1 + k = r + k + 1 by omega, dgs_S h0, dgs_S h0, IH k (x / 10) (by rw [Nat.pow_succ] at h; omega)]
theorem spS_01 (n : Nat) (x : Int32) : spS n x = 0 ∨ spS n x = 1 := by
  unfold spS
  split
  · exact Or.inl rfl
  · exact Or.inr rfl
theorem spS_0 {n x : Nat} (hx : x < 1000000) : spS n (nI x) = 0 ↔ Gd n [] (dgs 6 x) := by
  have e : dgs 10 (ix (nI x)) = dgs 6 x := by
    rw [show ix (nI x) = x from nI_clamp (by omega)]
    exact dgs_more 6 4 x (by omega)
  unfold spS
  rw [e]
  unfold Gd
  split
  · rename_i h
    exact ⟨fun _ => ⟨fun d hd => ⟨(h.1 d hd).1, (h.1 d hd).2, by simp⟩, h.2⟩, fun _ => rfl⟩
  · rename_i h
    exact ⟨fun h1 => absurd h1 (by decide), fun h1 => absurd ⟨fun d hd => ⟨(h1.1 d hd).1, (h1.1 d hd).2.1⟩, h1.2⟩ h⟩
theorem isp_eq {Z : Mem} {n x : Nat} (hn : n ≤ 6) (hx : x < 1000000) : F_X3_isSpoiling Z (nI x) (nI n) = some (spS n (nI x)) := by
  unfold F_X3_isSpoiling
  obtain ⟨v, e, h⟩ := isp_loop n hn 6 100 0 x 0 [] rfl (by decide) (by omega) (by decide) (fun d _ => by simp)
  rw [show (0 : Int32) = nI 0 from rfl, e]
  congr 1
  rcases h with h | h
  · rw [h.2, (spS_0 hx).mpr h.1]
  · rw [h.2]
    rcases spS_01 n (nI x) with h1 | h1
    · exact absurd ((spS_0 hx).mp h1) h.1
    · exact h1.symm
/-- what setRanks leaves -/
def SrQ (ka x : Nat) (sp : Int32) (L : List Nat) (Z Z1 : Mem) : Prop := Z1.2 = Z.2 ∧ (∀ a b, ¬ (a = 39 + ka ∧ (b = 1 ∨ b = 3 ∨ b = 5)) → a ≠ 64 + ka → Z1.1 a b = Z.1 a b) ∧ Z1.1 (39 + ka) 1 = nI x ∧ Z1.1 (39 + ka) 3 = sp ∧ Z1.1 (39 + ka) 5 = nI L.length ∧ ∀ j, j < L.length → Z1.1 (64 + ka) j = nI (L.getD j 0)
theorem sr_all {Z : Mem} {ka n x : Nat} {st : Nat → Bool} (hka : ka < 25) (hS : St n st Z) (hx : x < 1000000) : ∃ Z1, F_X3_setRanks Z ka (nI x) = some (Z1, ()) ∧ SrQ ka x (spS n (nI x)) (lstOf st (spS n (nI x)) x) Z Z1 := by
  unfold F_X3_setRanks
  simp only [bv]
  have en : (si Z (39 + ka) 1 (nI x)).1 1 2 = nI n := by rw [si_ne (by omega)]; exact hS.2.1
  rw [en, calp_e (isp_eq hS.1 hx), gdt (spS_01 _ _)]
  have hS2 : St n st (si (si Z (39 + ka) 1 (nI x)) (39 + ka) 3 (spS n (nI x))) := St_si (St_si hS (by omega) (by omega)) (by omega) (by omega)
  obtain ⟨Z1, e, h1, h2, h3, h4, h5⟩ := ml_all hka hS2 (show x < 2 ^ 31 by omega) (by rw [si_row, if_neg (by decide)]; exact si_same)
  rw [cal_e e]
  rw [si_same] at h3 h5
  refine ⟨Z1, rfl, h1, fun a b ha hb => ?_, ?_, ?_, ?_, fun j hj => ?_⟩
  · rw [h2 a b (fun h9 => ha ⟨h9.1, Or.inr (Or.inr h9.2)⟩) hb]
    by_cases h9 : a = 39 + ka
    · subst h9
      rw [si_row, if_neg (fun e9 => ha ⟨rfl, Or.inr (Or.inl e9)⟩), si_row, if_neg (fun e9 => ha ⟨rfl, Or.inl e9⟩)]
    · rw [si_ne h9, si_ne h9]
  · rw [h2 _ _ (by omega) (by omega), si_row, if_neg (by decide)]
    exact si_same
  · rw [h2 _ _ (by omega) (by omega)]
    exact si_same
  · rw [h3, Nat.zero_add]
  · have := h5 j hj
    rwa [Nat.zero_add] at this
