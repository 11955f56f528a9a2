/-! p31: withdraw, change, founded. -/
theorem t_with {L m n nd ns : Nat} {xs : Nat → Int32} {Y : TS} (hL : L < 2 ^ 31) (hR : Rel m Y) (hm : m < 100000) (hz : Sz Y n nd ns) (hn : 0 < n) : ∃ Y1, F_X6_withdraw L xs Y = some (Y1, 1) ∧ Rel (m + 1) Y1 ∧ Sz Y1 n nd ns := by
  have hn6 : n ≤ 6 := by rw [← hz.1]; exact hR.1.1.1
  obtain ⟨c, Y1, hc, e1, hR1, hS1⟩ := dr_ok (n := n) (xs := xs) hL hR hm hn (by omega)
  have hz1 := Sm_Sz hS1 hz
  unfold F_X6_withdraw
  simp only [bv]
  rw [hz.1, calt_e e1, gdt (nI_in (by omega) (by omega)), show ix (nI c) = c from nI_clamp (by omega)]
  by_cases hg : Y1.1.2 2 c = 0
  · rw [brt hg, calp_e (st_ok (by rw [hz1.1]; omega))]
    by_cases h3 : 3 ≤ sto Y1.1
    · have hsl : sto Y1.1 ≤ 6 := Nat.le_trans (sto_le _) (by rw [hz1.1]; exact hn6)
      rw [brt (show (3 : Int32) ≤ nI (sto Y1.1) from nI_le (a := 3) h3 (by omega))]
      obtain ⟨w1, w2, w3, ⟨d, ed, hd⟩, w5⟩ := hR1
      obtain ⟨Z, e2, q1, q2⟩ := b_with (c := c) w2 (by rw [hz1.1]; omega) w1.1.2.2 (fun k hk => by
        obtain ⟨_, ⟨x, ex, _, hx⟩, _⟩ := w1.2.2.2.2 k hk
        exact ⟨x, ex, hx⟩) (by rw [hz1.1]; exact hc) hg
      rw [show vp_nar .boolean (1 : Int32) = 1 from rfl, cal_e (show F_X5_withdraw (tsi Y1 2 c 1).2 (nI c) = some (Z, nI (sto (sM Y1.1 2 c 1))) from e2)]
      rw [calp_e (show F_X6_standing L xs (tz (tsi Y1 2 c 1) Z) = some (nI (sto (sM Y1.1 2 c 1))) from st_ok (show Y1.1.1 1 ≤ 6 by rw [hz1.1]; exact hn6)), brt rfl]
      refine ⟨_, rfl, ⟨WFm_with w1 (by rw [hz1.1]; exact hc), q2, ?_, ⟨d, ed, hd⟩, w5⟩, hz1⟩
      show Vb Z
      unfold Vb
      rw [q1]
      exact w3
    · rw [brf (show ¬ (3 : Int32) ≤ nI (sto Y1.1) from nI_ge (b := 3) (by omega) (by decide))]
      exact ⟨Y1, rfl, hR1, hz1⟩
  · rw [brf hg]
    exact ⟨Y1, rfl, hR1, hz1⟩
theorem in_k {k n : Nat} (h : k < n) (hn : n < 2 ^ 31) : ¬ (nI k < 0 ∨ n ≤ k) := fun h9 => h9.elim (nI_pos (by omega)) (by omega)
theorem t_chng {L m n nd ns : Nat} {xs : Nat → Int32} {Y : TS} (hL : L < 2 ^ 31) (hR : Rel m Y) (hm : m + 20 < 100000) (hz : Sz Y n nd ns) (hs : 0 < ns) (hnd : 0 < nd) : ∃ Y1, F_X6_change L xs Y = some (Y1, 1) ∧ Rel (m + 3) Y1 ∧ Sz Y1 n nd ns := by
  have hs24 : ns ≤ 24 := by rw [← hz.2.2]; exact hR.1.1.2.2
  have hd4 : nd ≤ 4 := by rw [← hz.2.1]; exact hR.1.1.2.1
  unfold F_X6_change
  simp only [bv]
  obtain ⟨k, Y1, hk, e1, hR1, hS1⟩ := dr_ok (n := ns) (xs := xs) hL hR (by omega) hs (by omega)
  have hz1 := Sm_Sz hS1 hz
  obtain ⟨a, Y2, ha, e2, hR2, hS2⟩ := dr_ok (n := 2) (xs := xs) hL hR1 (by omega) (by decide) (by decide)
  have hz2 := Sm_Sz hS2 hz1
  rw [hz.2.2, brf (nI_ne0 hs (by omega)), brt hR.2.2.2.2, calt_e e1, calt_e (show F_X6_draw L xs Y1 2 = some (Y2, nI a) from e2)]
  have hik : ix (nI k) = k := nI_clamp (by omega)
  by_cases h : nI a = 0
  · rw [brt h]
    unfold F_X6_change_j40
    rw [hz2.2.2, gdt (nI_in hk (by omega)), hik, gdt (by decide)]
    simp only [bv]
    obtain ⟨c, Y3, hc, e3, hR3, hS3⟩ := dr_ok (n := 80) (xs := xs) hL hR2 (by omega) (by decide) (by decide)
    have hz3 := Sm_Sz hS3 hz2
    rw [brt trivial, calt_e (show F_X6_draw L xs Y2 80 = some (Y3, nI c) from e3), show (1 : Int32) + nI c = nI (1 + c) from nI_add 1 c]
    unfold F_X6_change_j82
    simp only [bv]
    obtain ⟨w1, w2, w3, ⟨d, ed, hd⟩, w5⟩ := hR3
    have hk3 : k < Y3.1.1 4 := by rw [hz3.2.2]; exact hk
    have hgd : ¬ (nI k < 0 ∨ Y3.1.1 4 ≤ k) := by rw [hz3.2.2]; exact in_k hk (by omega)
    rw [hik, gdt hk3, brt trivial, gdt (show ¬ (nI k < 0 ∨ (tsi Y3 (5 + k) (ix 2) (nI (1 + c))).1.1 4 ≤ k) from hgd), show ix (2 : Int32) = 2 from rfl]
    have eu : (tsi Y3 (5 + k) 2 (nI (1 + c))).1.2 (5 + k) 2 = nI (1 + c) := by
      show (sM Y3.1 (5 + k) 2 (nI (1 + c))).2 (5 + k) 2 = _
      rw [sM_i, pk_us]
    have e5 := b_reco (k := k) (c := 1 + c) w2 (by rw [hz3.2.2]; exact hs24) hk3 ⟨by omega, by omega⟩
    rw [eu, cal_e (show F_X5_recount (tsi Y3 (5 + k) 2 (nI (1 + c))).2 (nI k) (nI (1 + c)) = some (si Y3.2 (39 + k) 2 (nI (1 + c)), Y3.1.2 (5 + k) 2) from e5)]
    rw [brt (by rw [hS3.2.1 (5 + k) (by omega)])]
    refine ⟨_, rfl, ⟨WFm_set w1 hk3 (Or.inr ⟨rfl, 1 + c, rfl, by omega, by omega⟩), Bx_set w2 (by rw [hz3.2.2]; exact hs24) hk3 (Or.inr rfl), w3, ⟨d, ?_, by omega⟩, ?_⟩, hz3⟩
    · show (sM Y3.1 (5 + k) 2 (nI (1 + c))).2 0 2 = _
      rw [sM_o (by omega)]
      exact ed
    · show (sM Y3.1 (5 + k) 2 (nI (1 + c))).2 0 8 = _
      rw [sM_o (by omega)]
      exact w5
  · rw [brf h]
    unfold F_X6_change_j40
    rw [hz2.2.2, gdt (nI_in hk (by omega)), hik, gdt (by decide)]
    simp only [bv]
    obtain ⟨c, Y3, hc, e3, hR3, hS3⟩ := dr_ok (n := nd) (xs := xs) hL hR2 (by omega) hnd (by omega)
    have hz3 := Sm_Sz hS3 hz2
    rw [brf (by decide), hz2.2.1, calt_e e3]
    unfold F_X6_change_j82
    simp only [bv]
    obtain ⟨w1, w2, w3, ⟨d, ed, hd⟩, w5⟩ := hR3
    have hk3 : k < Y3.1.1 4 := by rw [hz3.2.2]; exact hk
    have hgd : ¬ (nI k < 0 ∨ Y3.1.1 4 ≤ k) := by rw [hz3.2.2]; exact in_k hk (by omega)
    rw [hik, gdt hk3, brf (by decide), gdt (show ¬ (nI k < 0 ∨ (tsi Y3 (5 + k) (ix 0) (nI c)).1.1 4 ≤ k) from hgd), show ix (0 : Int32) = 0 from rfl]
    have eu : (tsi Y3 (5 + k) 0 (nI c)).1.2 (5 + k) 0 = nI c := by
      show (sM Y3.1 (5 + k) 0 (nI c)).2 (5 + k) 0 = _
      rw [sM_i, pk_us]
    have e5 := b_move (k := k) (d := c) w2 (by rw [hz3.2.2]; exact hs24) hk3 (by rw [hz3.2.1]; exact hd4) (by rw [hz3.2.1]; exact hc)
    rw [eu, cal_e (show F_X5_move (tsi Y3 (5 + k) 0 (nI c)).2 (nI k) (nI c) = some (si Y3.2 (39 + k) 0 (nI c), Y3.1.2 (5 + k) 0) from e5)]
    rw [brt (by rw [hS3.2.1 (5 + k) (by omega)])]
    refine ⟨_, rfl, ⟨WFm_set w1 hk3 (Or.inl ⟨rfl, c, rfl, by rw [hz3.2.1]; exact hc⟩), Bx_set w2 (by rw [hz3.2.2]; exact hs24) hk3 (Or.inl rfl), w3, ⟨d, ?_, by omega⟩, ?_⟩, hz3⟩
    · show (sM Y3.1 (5 + k) 0 (nI c)).2 0 2 = _
      rw [sM_o (by omega)]
      exact ed
    · show (sM Y3.1 (5 + k) 0 (nI c)).2 0 8 = _
      rw [sM_o (by omega)]
      exact w5
/-- the box is founded -/
theorem f_cast {L xb : Nat} {xs : Nat → Int32} (hL : L < 2 ^ 31) (hx : xb ≤ 24) : ∀ (r fuel u m n nd : Nat) (Y : TS), u + r = xb → r < fuel → Rel m Y → m + 20 * r + 20 < 100000 → Sz Y n nd u → 0 < n → 0 < nd →
    ∃ Y1, F_X6_founded_l73 L xs (nI xb) F_X6_founded_x73 fuel Y (nI u) = some (Y1, 1) ∧ Rel (m + 13 * r) Y1 ∧ Sz Y1 n nd xb := by
  intro r
  induction r with
  | zero =>
    intro fuel u m n nd Y hu hf hR hm hz hn hd
    obtain ⟨f, rfl⟩ : ∃ f, fuel = f + 1 := ⟨fuel - 1, by omega⟩
    rw [F_X6_founded_l73, brt (nI_le (by omega) (by omega))]
    rw [show u = xb by omega] at hz
    exact ⟨Y, rfl, hR, hz⟩
  | succ r IH =>
    intro fuel u m n nd Y hu hf hR hm hz hn hd
    obtain ⟨f, rfl⟩ : ∃ f, fuel = f + 1 := ⟨fuel - 1, by omega⟩
    obtain ⟨Y1, e, hR1, hz1⟩ := t_cast (xs := xs) hL hR (by omega) hz hn hd (by omega)
    rw [F_X6_founded_l73, brf (nI_ge (by omega) (by omega)), calt_e e, brf (by decide), nI_1]
    obtain ⟨Y2, e2, hR2, hz2⟩ := IH f (u + 1) (m + 13) n nd Y1 (by omega) (by omega) hR1 (by omega) hz1 hn hd
    exact ⟨Y2, e2, Rel_mono hR2 (by omega), hz2⟩
theorem f_dist {L xa xb : Nat} {xs : Nat → Int32} (hL : L < 2 ^ 31) (ha : xa ≤ 4) (h0 : 0 < xa) (hx : xb ≤ 24) : ∀ (r fuel u m n : Nat) (Y : TS), u + r = xa → r < fuel → Rel m Y → m + r + 2000 < 100000 → Sz Y n u 0 → 0 < n →
    ∃ Y1, F_X6_founded_l51 L xs (nI xa) (F_X6_founded_x51 L xs (nI xb)) fuel Y (nI u) = some (Y1, 1) ∧ Rel (m + r + 13 * xb) Y1 ∧ Sz Y1 n xa xb := by
  intro r
  induction r with
  | zero =>
    intro fuel u m n Y hu hf hR hm hz hn
    obtain ⟨f, rfl⟩ : ∃ f, fuel = f + 1 := ⟨fuel - 1, by omega⟩
    rw [F_X6_founded_l51, brt (nI_le (by omega) (by omega))]
    rw [show u = xa by omega] at hz
    unfold F_X6_founded_x51
    exact f_cast hL hx xb 100 0 m n xa Y (by omega) (by omega) hR (by omega) hz hn (by omega)
  | succ r IH =>
    intro fuel u m n Y hu hf hR hm hz hn
    obtain ⟨f, rfl⟩ : ∃ f, fuel = f + 1 := ⟨fuel - 1, by omega⟩
    obtain ⟨Y1, e, hR1, hz1⟩ := t_dist (xs := xs) hL hR (by omega) hz (by omega)
    rw [F_X6_founded_l51, brf (nI_ge (by omega) (by omega)), calt_e e, brf (by decide), nI_1]
    obtain ⟨Y2, e2, hR2, hz2⟩ := IH f (u + 1) (m + 1) n Y1 (by omega) (by omega) hR1 (by omega) hz1 hn
    exact ⟨Y2, e2, Rel_mono hR2 (by omega), hz2⟩
theorem f_more {L : Nat} {xs : Nat → Int32} (hL : L < 2 ^ 31) : ∀ (r fuel n m : Nat) (Y : TS), n + r = 6 → r < fuel → Rel m Y → m + 2 * r + 3000 < 100000 → Sz Y n 0 0 → 0 < n →
    ∃ Y1 n1, F_X6_founded_l22 L xs (F_X6_founded_x22 L xs 2 9) fuel Y = some (Y1, 1) ∧ Rel (m + 2 * r + 130) Y1 ∧ Sz Y1 n1 2 9 ∧ n ≤ n1 := by
  have last : ∀ (n m : Nat) (Y : TS), Rel m Y → m + 2500 < 100000 → Sz Y n 0 0 → 0 < n → ∃ Y1 n1, F_X6_founded_x22 L xs 2 9 Y = some (Y1, 1) ∧ Rel (m + 125) Y1 ∧ Sz Y1 n1 2 9 ∧ n ≤ n1 := by
    intro n m Y hR hm hz hn
    unfold F_X6_founded_x22
    obtain ⟨Y1, e, hR1, hz1⟩ := f_dist (xa := 2) (xb := 9) (xs := xs) hL (by decide) (by decide) (by decide) 2 100 0 m n Y rfl (by decide) hR (by omega) hz hn
    exact ⟨Y1, n, e, Rel_mono hR1 (by omega), hz1, Nat.le_refl _⟩
  intro r
  induction r with
  | zero =>
    intro fuel n m Y hu hf hR hm hz hn
    obtain ⟨f, rfl⟩ : ∃ f, fuel = f + 1 := ⟨fuel - 1, by omega⟩
    rw [F_X6_founded_l22]
    simp only [bv]
    rw [hz.1, brt (show (6 : Int32) ≤ nI n from nI_le (a := 6) (by omega) (by omega))]
    obtain ⟨Y1, n1, e, hR1, hz1, h1⟩ := last n m Y hR (by omega) hz hn
    exact ⟨Y1, n1, e, Rel_mono hR1 (by omega), hz1, h1⟩
  | succ r IH =>
    intro fuel n m Y hu hf hR hm hz hn
    obtain ⟨f, rfl⟩ : ∃ f, fuel = f + 1 := ⟨fuel - 1, by omega⟩
    rw [F_X6_founded_l22]
    simp only [bv]
    obtain ⟨a, Y1, ha, e1, hR1, hS1⟩ := dr_ok (n := 4) (xs := xs) hL hR (by omega) (by decide) (by decide)
    have hz1 := Sm_Sz hS1 hz
    rw [hz.1, brf (show ¬ (6 : Int32) ≤ nI n from nI_ge (b := 6) (by omega) (by decide)), calt_e (show F_X6_draw L xs Y 4 = some (Y1, nI a) from e1)]
    by_cases h : nI a ≤ 0
    · rw [brt h]
      obtain ⟨Y2, n1, e, hR2, hz2, h1⟩ := last n (m + 1) Y1 hR1 (by omega) hz1 hn
      exact ⟨Y2, n1, e, Rel_mono hR2 (by omega), hz2, h1⟩
    · rw [brf h]
      obtain ⟨Y2, e2, hR2, hz2⟩ := t_cand (xs := xs) hL hR1 (by omega) hz1 (by omega)
      rw [calt_e e2, brf (by decide)]
      obtain ⟨Y3, n1, e, hR3, hz3, h1⟩ := IH f (n + 1) (m + 2) Y2 (by omega) (by omega) hR2 (by omega) hz2 (by omega)
      exact ⟨Y3, n1, e, Rel_mono hR3 (by omega), hz3, by omega⟩
theorem f_all {L m : Nat} {xs : Nat → Int32} {Y : TS} (hL : L < 2 ^ 31) (hR : Rel m Y) (hm : m + 5000 < 100000) (hz : Sz Y 0 0 0) : ∃ Y1 n, F_X6_founded L xs Y 2 9 = some (Y1, 1) ∧ Rel (m + 140) Y1 ∧ Sz Y1 n 2 9 ∧ 3 ≤ n := by
  obtain ⟨Y1, e1, hR1, hz1⟩ := t_cand (xs := xs) hL hR (by omega) hz (by decide)
  obtain ⟨Y2, e2, hR2, hz2⟩ := t_cand (xs := xs) hL hR1 (by omega) hz1 (by decide)
  obtain ⟨Y3, e3, hR3, hz3⟩ := t_cand (xs := xs) hL hR2 (by omega) hz2 (by decide)
  obtain ⟨Y4, n, e, hR4, hz4, h3⟩ := f_more (xs := xs) hL 3 100 3 (m + 3) Y3 rfl (by decide) hR3 (by omega) hz3 (by decide)
  refine ⟨Y4, n, ?_, Rel_mono hR4 (by omega), hz4, h3⟩
  unfold F_X6_founded
  rw [show (100 : Nat) = 96 + 1 + 1 + 1 + 1 from rfl, F_X6_founded_l2, brf (by decide), calt_e e1, brf (by decide), F_X6_founded_l2, brf (by decide), calt_e e2, brf (by decide), F_X6_founded_l2, brf (by decide), calt_e e3, brf (by decide), F_X6_founded_l2, brt (by decide)]
  exact e
theorem mg_0 {K : Nat} (h : 0 < K) : Mg 0 K := by
  show 0 % 2 ^ 63 < K * 2 ^ 52
  rw [Nat.zero_mod]
  exact Nat.mul_pos h (by decide)
theorem Bx_Z0 : Bx True 0 0 (Yi 0).1 Z0 := by
  refine ⟨⟨fun j hj => ?_, fun j hj => ?_, fun j hj => ?_, fun j hj => ?_⟩, fun k hk => absurd hk (Nat.not_lt_zero _)⟩
  · show (0 : Int32) = boxv 0 0 (Yi 0).1 j
    unfold boxv
    repeat' split
    all_goals rfl
  · show (0 : Int32) = prt (Yi 0).1 j
    exact (if_neg (Nat.not_lt_zero _)).symm
  · show (0 : Int32) = stdv (Yi 0).1 j
    exact (if_neg (fun h => Nat.not_lt_zero _ h.1)).symm
  · show (0 : Int32) = seav (Yi 0).1 j
    exact (if_neg (Nat.not_lt_zero _)).symm
theorem Vb_Z0 : Vb Z0 := fun k hk => mg_0 (by decide)
theorem Rel_Yi (d : Nat) : Rel d (Yi (nI d)) ∧ Sz (Yi (nI d)) 0 0 0 := by
  refine ⟨⟨?_, Bx_cong (M := (Yi 0).1) rfl (fun i hi => ?_) Bx_Z0, Vb_Z0, ⟨d, rfl, Nat.le_refl _⟩, rfl⟩, rfl, rfl, rfl⟩
  · exact ⟨⟨Nat.zero_le _, Nat.zero_le _, Nat.zero_le _⟩, fun j hj => absurd hj (Nat.not_lt_zero _), ⟨fun _ => Or.inl rfl, fun _ _ => rfl⟩, fun j hj => absurd hj (Nat.not_lt_zero _), fun j hj => absurd hj (Nat.not_lt_zero _)⟩
  · show (if i = 0 then _ else _) = (if i = 0 then _ else _)
    rw [if_neg hi, if_neg hi]
