/-! p31: ranks that are drawn. -/
def cb (s : Nat) : Nat → Nat
  | 0 => 0
  | k + 1 => cb s k + (if s.testBit k = true then 1 else 0)
theorem cb_ex (s : Nat) : ∀ n, cb s n < n → ∃ e, e < n ∧ s.testBit e = false := by
  intro n
  induction n with
  | zero => intro h; exact absurd h (Nat.not_lt_zero _)
  | succ n IH =>
    intro h
    rw [cb] at h
    by_cases hb : s.testBit n = true
    · rw [if_pos hb] at h
      obtain ⟨e, h1, h2⟩ := IH (by omega)
      exact ⟨e, by omega, h2⟩
    · exact ⟨n, by omega, by simpa using hb⟩
theorem cb_or {s c : Nat} (hb : s.testBit c = false) : ∀ n, cb (s ||| 2 ^ c) n = cb s n + (if c < n then 1 else 0) := by
  intro n
  induction n with
  | zero => rfl
  | succ n IH =>
    rw [cb, cb, IH, Nat.testBit_or, Nat.testBit_two_pow]
    by_cases h : c = n
    · subst h
      rw [hb, decide_eq_true rfl, if_neg (Nat.lt_irrefl c), if_pos (Nat.lt_succ_self c)]
      rfl
    · rw [decide_eq_false h, Bool.or_false]
      by_cases h1 : c < n
      · rw [if_pos h1, if_pos (show c < n + 1 by omega)]
        omega
      · rw [if_neg h1, if_neg (show ¬ c < n + 1 by omega)]
        omega
theorem sh31 : ∀ c, c < 10 → ((nI c &&& 31).toBitVec.smod 32).toNat = c := by decide
theorem tb_1 {s c : Nat} (hs : s < 2 ^ 31) (hc : c < 10) : (nI s >>> (nI c &&& 31)) &&& 1 = 1 ↔ s.testBit c = true := by
  have h1 : s / 2 ^ c < 2 ^ 31 := Nat.lt_of_le_of_lt (Nat.div_le_self _ _) hs
  rw [pk_shrN hs _ c (sh31 c hc), pk_andN (show s / 2 ^ c < 2 ^ 32 by omega) 1 (by decide), Nat.testBit_eq_decide_div_mod_eq, decide_eq_true_iff]
  exact nI_eq (b := 1) (by omega) (by decide)
theorem in_loop {s n : Nat} (Y : TS) (K : Int32 → Option (TS × Int32)) (hs : s < 2 ^ 31) (hn : Y.1.1 1 = n) (h6 : n ≤ 6) (h0 : 0 < n) : ∀ (t fuel c : Nat), t < fuel → c < n → (s.testBit ((c + t) % n) = false) → ∃ e, e < n ∧ s.testBit e = false ∧ F_X6_ranks_l36 (nI s) Y K fuel (nI c) = K (nI e) := by
  intro t
  induction t with
  | zero =>
    intro fuel c hf hc hb
    obtain ⟨f, rfl⟩ : ∃ f, fuel = f + 1 := ⟨fuel - 1, by omega⟩
    rw [Nat.add_zero, Nat.mod_eq_of_lt hc] at hb
    refine ⟨c, hc, hb, ?_⟩
    rw [F_X6_ranks_l36]
    simp only [bv]
    rw [brf (fun h => by rw [(tb_1 hs (by omega)).mp h] at hb; cases hb)]
  | succ t IH =>
    intro fuel c hf hc hb
    obtain ⟨f, rfl⟩ : ∃ f, fuel = f + 1 := ⟨fuel - 1, by omega⟩
    rw [F_X6_ranks_l36]
    simp only [bv]
    by_cases hcb : s.testBit c = true
    · rw [brt ((tb_1 hs (by omega)).mpr hcb), hn, gdt (nI_ne0 h0 (by omega)), nI_1, pk_rem (by omega) h0 (by omega)]
      exact IH f ((c + 1) % n) (by omega) (Nat.mod_lt _ h0) (by rw [Nat.mod_add_mod, show c + 1 + t = c + (t + 1) by omega]; exact hb)
    · refine ⟨c, hc, by simpa using hcb, ?_⟩
      rw [brf (fun h => hcb ((tb_1 hs (by omega)).mp h))]
theorem in_ok {s n c : Nat} (Y : TS) (K : Int32 → Option (TS × Int32)) (hs : s < 2 ^ 31) (hn : Y.1.1 1 = n) (h6 : n ≤ 6) (hc : c < n) (hb : cb s n < n) : ∃ e, e < n ∧ s.testBit e = false ∧ F_X6_ranks_l36 (nI s) Y K 100 (nI c) = K (nI e) := by
  obtain ⟨e, he, hbe⟩ := cb_ex s n hb
  refine in_loop Y K hs hn h6 (by omega) (e + n - c) 100 c (by omega) hc ?_
  rw [show c + (e + n - c) = e + n by omega, Nat.add_mod_right, Nat.mod_eq_of_lt he]
  exact hbe
theorem rk_loop {L many n : Nat} {xs : Nat → Int32} (hL : L < 2 ^ 31) (h6 : n ≤ 6) (hmn : many ≤ n) (K : TS → Int32 → Option (TS × Int32)) : ∀ (r fuel k m made s : Nat) (Y : TS), k + r = many → r < fuel → Y.1.1 1 = n → Rel m Y → m + r < 100000 → made < 10 ^ k → cb s n = k → s < 1024 →
    ∃ Y1 x, F_X6_ranks_l19 L xs (nI many) K fuel Y (nI made) (nI s) (nI k) = K Y1 (nI x) ∧ Rel (m + r) Y1 ∧ Sm Y Y1 ∧ x < 10 ^ many := by
  intro r
  induction r with
  | zero =>
    intro fuel k m made s Y hk hf hn hR hm hd hc hs
    obtain ⟨f, rfl⟩ : ∃ f, fuel = f + 1 := ⟨fuel - 1, by omega⟩
    refine ⟨Y, made, ?_, hR, Sm.rfl, by rw [← hk]; exact hd⟩
    rw [F_X6_ranks_l19, brt (nI_le (by omega) (by omega))]
  | succ r IH =>
    intro fuel k m made s Y hk hf hn hR hm hd hc hs
    obtain ⟨f, rfl⟩ : ∃ f, fuel = f + 1 := ⟨fuel - 1, by omega⟩
    rw [F_X6_ranks_l19, brf (nI_ge (by omega) (by omega))]
    simp only [bv]
    obtain ⟨c, Y1, hc1, e1, hR1, hS1⟩ := dr_ok (xs := xs) hL hR (show m < 100000 by omega) (show 0 < Y.1.1 1 by omega) (by omega)
    rw [calt_e e1]
    have hn1 : Y1.1.1 1 = n := by rw [hS1.1]; exact hn
    obtain ⟨e, he, hbe, ee⟩ := in_ok (s := s) Y1 (F_X6_ranks_x36 (nI made) (nI s) (nI k) (F_X6_ranks_l19 L xs (nI many) K f) Y1) (by omega) hn1 h6 (show c < n by omega) (by omega)
    rw [ee]
    unfold F_X6_ranks_x36
    simp only [bv]
    rw [sh1 e (by omega), nI_or, show (10 : Int32) * nI made = nI (10 * made) from pk_mul 10 made, nI_add, nI_1, nI_1]
    have hcb : cb (s ||| 2 ^ e) n = k + 1 := by rw [cb_or hbe, hc, if_pos he]
    obtain ⟨Y2, x, e2, hR2, hS2, hx⟩ := IH f (k + 1) (m + 1) (10 * made + e + 1) (s ||| 2 ^ e) Y1 (by omega) (by omega) hn1 hR1 (by omega) (by rw [Nat.pow_succ]; omega) hcb (or_lt hs (by omega))
    exact ⟨Y2, x, e2, Rel_mono hR2 (by omega), hS1.trans hS2, hx⟩
theorem j131_ok (Y : TS) {v : Nat} (hv : v < 1000000) : ∃ x, F_X6_ranks_j131 Y (nI v) = some (Y, nI x) ∧ 1 ≤ x ∧ x < 1000000 := by
  unfold F_X6_ranks_j131
  by_cases h : v = 0
  · subst h
    rw [brt (by decide)]
    exact ⟨1, rfl, by decide, by decide⟩
  · rw [brf (nI_ne0 (by omega) (by omega))]
    exact ⟨v, rfl, by omega, hv⟩
theorem rk_ok {L m : Nat} {xs : Nat → Int32} {Y : TS} (hL : L < 2 ^ 31) (hR : Rel m Y) (hm : m + 10 < 100000) (h0 : 0 < Y.1.1 1) : ∃ x Y1, F_X6_ranks L xs Y = some (Y1, nI x) ∧ (1 ≤ x ∧ x < 1000000) ∧ Rel (m + 10) Y1 ∧ Sm Y Y1 := by
  have h6 : Y.1.1 1 ≤ 6 := hR.1.1.1
  unfold F_X6_ranks
  simp only [bv]
  obtain ⟨r, Y1, hr, e1, hR1, hS1⟩ := dr_ok (xs := xs) hL hR (show m < 100000 by omega) h0 (by omega)
  rw [calt_e e1, show (1 : Int32) + nI r = nI (1 + r) from nI_add 1 r]
  obtain ⟨Y2, w, e2, hR2, hS2, hw⟩ := rk_loop (many := 1 + r) (xs := xs) hL h6 (by omega) (F_X6_ranks_x19 L xs) (1 + r) 100 0 (m + 1) 0 0 Y1 (by omega) (by omega) (by rw [hS1.1]) hR1 (by omega) (by decide) (by
    have : ∀ n, cb 0 n = 0 := by
      intro n
      induction n with
      | zero => rfl
      | succ n IH => rw [cb, IH, Nat.zero_testBit]; rfl
    exact this _) (by decide)
  have hw6 : w < 1000000 := Nat.lt_of_lt_of_le hw (Nat.pow_le_pow_right (n := 10) (by decide) (show 1 + r ≤ 6 by omega))
  rw [show (0 : Int32) = nI 0 from rfl, e2]
  unfold F_X6_ranks_x19
  obtain ⟨a, Y3, ha, e3, hR3, hS3⟩ := dr_ok (n := 8) (xs := xs) hL hR2 (by omega) (by decide) (by decide)
  rw [calt_e (show F_X6_draw L xs Y2 8 = some (Y3, nI a) from e3)]
  by_cases ha0 : nI a = 0
  · rw [brt ha0]
    obtain ⟨b, Y4, hb, e4, hR4, hS4⟩ := dr_ok (n := 2) (xs := xs) hL hR3 (by omega) (by decide) (by decide)
    rw [calt_e (show F_X6_draw L xs Y3 2 = some (Y4, nI b) from e4)]
    have hS := ((hS1.trans hS2).trans hS3).trans hS4
    by_cases hc : nI b = 0 ∧ w < 100000
    · rw [brt hc.1, brf (show ¬ (100000 : Int32) ≤ nI w from nI_ge (b := 100000) hc.2 (by decide))]
      simp only [bv]
      unfold F_X6_ranks_j130
      rw [show nI w * 10 = nI (w * 10) from pk_mul w 10]
      obtain ⟨x, ex, h1, h2⟩ := j131_ok Y4 (v := w * 10) (by omega)
      exact ⟨x, Y4, ex, ⟨h1, h2⟩, Rel_mono hR4 (by omega), hS⟩
    · obtain ⟨g, Y5, hg, e5, hR5, hS5⟩ := dr_ok (n := 9) (xs := xs) hL hR4 (by omega) (by decide) (by decide)
      have e5' : F_X6_draw L xs Y4 9 = some (Y5, nI g) := e5
      have ew : nI w / 10 * 10 + 1 = nI (w / 10 * 10 + 1) := by rw [q10 (by omega), show nI (w / 10) * 10 = nI (w / 10 * 10) from pk_mul _ 10, nI_1]
      obtain ⟨x, ex, h1, h2⟩ := j131_ok Y5 (v := w / 10 * 10 + 1 + g) (by omega)
      refine ⟨x, Y5, ?_, ⟨h1, h2⟩, Rel_mono hR5 (by omega), hS.trans hS5⟩
      by_cases hb0 : nI b = 0
      · have hcw : ¬ w < 100000 := fun h9 => hc ⟨hb0, h9⟩
        rw [brt hb0, brt (show (100000 : Int32) ≤ nI w from nI_le (a := 100000) (by omega) (by omega))]
        simp only [bv]
        rw [ew, calt_e e5', nI_add]
        exact ex
      · rw [brf hb0]
        simp only [bv]
        rw [ew, calt_e e5', nI_add]
        exact ex
  · rw [brf ha0]
    obtain ⟨x, ex, h1, h2⟩ := j131_ok Y3 hw6
    exact ⟨x, Y3, ex, ⟨h1, h2⟩, Rel_mono hR3 (by omega), (hS1.trans hS2).trans hS3⟩
