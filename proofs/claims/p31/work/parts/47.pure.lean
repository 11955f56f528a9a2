/-! p31: what the law tells, and the box with it. -/
theorem gM_o {M : TM} {i a : Nat} {v : Int32} (h : a ≠ i) : (gM M i v).2 a = M.2 a := if_neg h
theorem gM_1 {M : TM} {i a : Nat} {v : Int32} (h : a ≠ i) : (gM M i v).1 a = M.1 a := if_neg h
theorem gM_n {M : TM} {i : Nat} {v : Int32} : (gM M i v).1 i = M.1 i + 1 := if_pos rfl
theorem gM_i {M : TM} {i : Nat} {v : Int32} (j : Nat) : (gM M i v).2 i j = if j < M.1 i then M.2 i j else if j = M.1 i then v else 0 := by
  show (if i = i then _ else M.2 i) j = _
  rw [if_pos rfl]
theorem WFm_cand {M : TM} {p : Nat} (h : WFm M) (hn : M.1 1 ≤ 5) (hs : M.1 4 = 0) (hp : p < 4) : WFm (gM M 1 (nI p)) := by
  obtain ⟨⟨h1, h2, h3⟩, h4, h5, h6, h7⟩ := h
  refine ⟨⟨by rw [gM_n]; omega, h2, h3⟩, fun j hj => ?_, ⟨fun j => ?_, fun j hj => ?_⟩, fun j hj => ?_, fun k hk => ?_⟩
  · rw [gM_n] at hj
    rw [gM_i]
    by_cases h : j < M.1 1
    · rw [if_pos h]
      exact h4 j h
    · rw [if_neg h, if_pos (by omega)]
      exact ⟨p, rfl, hp⟩
  · rw [gM_o (by decide)]
    exact h5.1 j
  · rw [gM_n] at hj
    rw [gM_o (by decide)]
    exact h5.2 j (by omega)
  · rw [gM_o (by decide)]
    exact h6 j hj
  · have h9 : k < M.1 4 := hk
    omega
theorem WFm_dist {M : TM} {p : Nat} (h : WFm M) (hn : M.1 3 < 4) (hp : 1 ≤ p ∧ p < 6) : WFm (gM M 3 (nI p)) := by
  obtain ⟨⟨h1, h2, h3⟩, h4, h5, h6, h7⟩ := h
  refine ⟨⟨h1, by rw [gM_n]; omega, h3⟩, fun j hj => ?_, ⟨fun j => ?_, fun j hj => ?_⟩, fun j hj => ?_, fun k hk => ?_⟩
  · rw [gM_o (by decide)]
    exact h4 j hj
  · rw [gM_o (by decide)]
    exact h5.1 j
  · rw [gM_o (by decide)]
    exact h5.2 j hj
  · rw [gM_n] at hj
    rw [gM_i]
    by_cases h : j < M.1 3
    · rw [if_pos h]
      exact h6 j h
    · rw [if_neg h, if_pos (by omega)]
      exact ⟨p, rfl, hp⟩
  · have h9 : k < M.1 4 := hk
    obtain ⟨⟨d, ed, hd⟩, a2, a3, a4⟩ := h7 k h9
    rw [gM_o (by omega), gM_n]
    exact ⟨⟨d, ed, by omega⟩, a2, a3, a4⟩
theorem WFm_cast {M : TM} {d x c : Nat} {r : Nat → Int32} (h : WFm M) (hs : M.1 4 < 24) (hd : d < M.1 3) (hx : 1 ≤ x ∧ x < 1000000) (hc : 1 ≤ c ∧ c ≤ 80) (r0 : r 0 = nI d) (r1 : r 1 = nI x) (r2 : r 2 = nI c) (r3 : r 3 = spS (M.1 1) (nI x)) : WFm (rM M r) := by
  obtain ⟨⟨h1, h2, h3⟩, h4, h5, h6, h7⟩ := h
  refine ⟨⟨h1, h2, show M.1 4 + 1 ≤ 24 by omega⟩, fun j hj => ?_, ⟨fun j => ?_, fun j hj => ?_⟩, fun j hj => ?_, fun k hk => ?_⟩
  · rw [rM_lo (by decide)]
    exact h4 j hj
  · rw [rM_lo (by decide)]
    exact h5.1 j
  · rw [rM_lo (by decide)]
    exact h5.2 j hj
  · rw [rM_lo (by decide)]
    exact h6 j hj
  · have h9 : k < M.1 4 + 1 := hk
    by_cases hk2 : k = M.1 4
    · subst hk2
      rw [rM_n, r0, r1, r2, r3]
      exact ⟨⟨d, rfl, hd⟩, ⟨x, rfl, hx.1, hx.2⟩, ⟨c, rfl, hc.1, hc.2⟩, rfl⟩
    · rw [rM_s (by omega)]
      exact h7 k (by omega)
theorem WFm_with {M : TM} {c : Nat} (h : WFm M) (hc : c < M.1 1) : WFm (sM M 2 c 1) := by
  obtain ⟨⟨h1, h2, h3⟩, h4, h5, h6, h7⟩ := h
  refine ⟨⟨h1, h2, h3⟩, fun j hj => ?_, ⟨fun j => ?_, fun j hj => ?_⟩, fun j hj => ?_, fun k hk => ?_⟩
  · rw [sM_o (by decide)]
    exact h4 j hj
  · rw [sM_i]
    by_cases h : j = c
    · subst h
      rw [pk_us]
      exact Or.inr rfl
    · rw [pk_un h]
      exact h5.1 j
  · have h9 : M.1 1 ≤ j := hj
    rw [sM_i, pk_un (by omega)]
    exact h5.2 j h9
  · rw [sM_o (by decide)]
    exact h6 j hj
  · rw [sM_o (by omega)]
    exact h7 k hk
theorem WFm_set {M : TM} {k j0 : Nat} {v : Int32} (h : WFm M) (hk : k < M.1 4) (hj : (j0 = 0 ∧ ∃ d, v = nI d ∧ d < M.1 3) ∨ (j0 = 2 ∧ ∃ c, v = nI c ∧ 1 ≤ c ∧ c ≤ 80)) : WFm (sM M (5 + k) j0 v) := by
  obtain ⟨⟨h1, h2, h3⟩, h4, h5, h6, h7⟩ := h
  refine ⟨⟨h1, h2, h3⟩, fun j hj => ?_, ⟨fun j => ?_, fun j hj => ?_⟩, fun j hj => ?_, fun k2 hk2 => ?_⟩
  · rw [sM_o (by omega)]
    exact h4 j hj
  · rw [sM_o (by omega)]
    exact h5.1 j
  · rw [sM_o (by omega)]
    exact h5.2 j hj
  · rw [sM_o (by omega)]
    exact h6 j hj
  · have hk3 : k2 < M.1 4 := hk2
    by_cases e : k2 = k
    · subst e
      obtain ⟨a1, a2, a3, a4⟩ := h7 k2 hk3
      rw [sM_i]
      rcases hj with ⟨rfl, hd⟩ | ⟨rfl, hc⟩
      · rw [pk_us, pk_un (by decide), pk_un (by decide), pk_un (by decide)]
        exact ⟨hd, a2, a3, a4⟩
      · rw [pk_us, pk_un (by decide), pk_un (by decide), pk_un (by decide)]
        exact ⟨a1, a2, hc, a4⟩
    · rw [sM_o (by omega)]
      exact h7 k2 hk3
/-- how many candidates, districts, stacks -/
def Sz (Y : TS) (n nd ns : Nat) : Prop := Y.1.1 1 = n ∧ Y.1.1 3 = nd ∧ Y.1.1 4 = ns
theorem Sm_Sz {Y Y1 : TS} {n nd ns : Nat} (h : Sm Y Y1) (hz : Sz Y n nd ns) : Sz Y1 n nd ns := by
  unfold Sz
  rw [h.1]
  exact hz
theorem t_cand {L m n nd : Nat} {xs : Nat → Int32} {Y : TS} (hL : L < 2 ^ 31) (hR : Rel m Y) (hm : m < 100000) (hz : Sz Y n nd 0) (hn : n ≤ 5) : ∃ Y1, F_X6_candidate L xs Y = some (Y1, 1) ∧ Rel (m + 1) Y1 ∧ Sz Y1 (n + 1) nd 0 := by
  obtain ⟨p, Y1, hp, e1, hR1, hS1⟩ := dr_ok (n := 4) (xs := xs) hL hR hm (by decide) (by decide)
  have hz1 := Sm_Sz hS1 hz
  obtain ⟨w1, w2, w3, ⟨d, ed, hd⟩, w5⟩ := hR1
  have hg : Y1.1.2 2 (Y1.1.1 1) = 0 := w1.2.2.1.2 _ (Nat.le_refl _)
  obtain ⟨Z, e2, q1, q2⟩ := b_cand w2 (by rw [hz1.1]; omega) hz1.2.2 hg hp
  refine ⟨tz (tgr Y1 1 (nI p)) Z, ?_, ⟨WFm_cand w1 (by rw [hz1.1]; omega) hz1.2.2 hp, q2, ?_, ⟨d, ed, hd⟩, w5⟩, ?_, hz1.2.1, hz1.2.2⟩
  · unfold F_X6_candidate
    simp only [bv]
    rw [hz.1, brt (show nI n ≤ 5 from nI_le (b := 5) hn (by decide)), calt_e (show F_X6_draw L xs Y 4 = some (Y1, nI p) from e1), gdt (by rw [hz1.1]; omega), cal_e (show F_X5_candidate (tgr Y1 1 (nI p)).2 (nI p) = some (Z, nI (Y1.1.1 1)) from e2)]
    rw [show (tz (tgr Y1 1 (nI p)) Z).1.1 1 = Y1.1.1 1 + 1 from gM_n, nI_pred, brt rfl]
  · show Vb Z
    unfold Vb
    rw [q1]
    exact w3
  · show (gM Y1.1 1 (nI p)).1 1 = _
    rw [gM_n, hz1.1]
theorem t_dist {L m n nd ns : Nat} {xs : Nat → Int32} {Y : TS} (hL : L < 2 ^ 31) (hR : Rel m Y) (hm : m < 100000) (hz : Sz Y n nd ns) (hn : nd < 4) : ∃ Y1, F_X6_district L xs Y = some (Y1, 1) ∧ Rel (m + 1) Y1 ∧ Sz Y1 n (nd + 1) ns := by
  obtain ⟨p, Y1, hp, e1, hR1, hS1⟩ := dr_ok (n := 5) (xs := xs) hL hR hm (by decide) (by decide)
  have hz1 := Sm_Sz hS1 hz
  obtain ⟨w1, w2, w3, ⟨d, ed, hd⟩, w5⟩ := hR1
  obtain ⟨Z, e2, q1, q2⟩ := b_dist (p := 1 + p) w2 (by rw [hz1.2.1]; omega) ⟨by omega, by omega⟩
  refine ⟨tz (tgr Y1 3 (nI (1 + p))) Z, ?_, ⟨WFm_dist w1 (by rw [hz1.2.1]; omega) ⟨by omega, by omega⟩, q2, ?_, ⟨d, ed, hd⟩, w5⟩, hz1.1, ?_, hz1.2.2⟩
  · unfold F_X6_district
    simp only [bv]
    rw [calt_e (show F_X6_draw L xs Y 5 = some (Y1, nI p) from e1), show (1 : Int32) + nI p = nI (1 + p) from nI_add 1 p, gdt (by rw [hz1.2.1]; omega), cal_e (show F_X5_district (tgr Y1 3 (nI (1 + p))).2 (nI (1 + p)) = some (Z, nI (Y1.1.1 3)) from e2)]
    rw [show (tz (tgr Y1 3 (nI (1 + p))) Z).1.1 3 = Y1.1.1 3 + 1 from gM_n, nI_pred, brt rfl]
  · show Vb Z
    unfold Vb
    rw [q1]
    exact w3
  · show (gM Y1.1 3 (nI (1 + p))).1 3 = _
    rw [gM_n, hz1.2.1]
theorem t_cast {L m n nd ns : Nat} {xs : Nat → Int32} {Y : TS} (hL : L < 2 ^ 31) (hR : Rel m Y) (hm : m + 20 < 100000) (hz : Sz Y n nd ns) (hn : 0 < n) (hnd : 0 < nd) (hs : ns < 24) : ∃ Y1, F_X6_cast L xs Y = some (Y1, 1) ∧ Rel (m + 13) Y1 ∧ Sz Y1 n nd (ns + 1) := by
  have hd4 : nd ≤ 4 := by rw [← hz.2.1]; exact hR.1.1.2.1
  have hn6 : n ≤ 6 := by rw [← hz.1]; exact hR.1.1.1
  obtain ⟨d, Y1, hd, e1, hR1, hS1⟩ := dr_ok (n := nd) (xs := xs) hL hR (by omega) hnd (by omega)
  have hz1 := Sm_Sz hS1 hz
  obtain ⟨x, Y2, e2, hx, hR2, hS2⟩ := rk_ok (xs := xs) hL hR1 (by omega) (by rw [hz1.1]; exact hn)
  have hz2 := Sm_Sz hS2 hz1
  obtain ⟨a, Y3, ha, e3, hR3, hS3⟩ := dr_ok (n := 3) (xs := xs) hL hR2 (by omega) (by decide) (by decide)
  have hz3 := Sm_Sz hS3 hz2
  have key : ∀ w, 0 < w → w ≤ 60 → ∃ Y9, F_X6_cast_j51 L xs (nI d) (nI x) Y3 (nI w) = some (Y9, 1) ∧ Rel (m + 13) Y9 ∧ Sz Y9 n nd (ns + 1) := by
    intro w hw1 hw2
    obtain ⟨c, Y4, hc, e4, hR4, hS4⟩ := dr_ok (n := w) (xs := xs) hL hR3 (by omega) hw1 (by omega)
    have hz4 := Sm_Sz hS4 hz3
    obtain ⟨w1, w2, w3, ⟨dd, ed, hdd⟩, w5⟩ := hR4
    have esp : F_X6_isSpoiled L xs Y4 (nI x) = some (spS (Y4.1.1 1) (nI x)) := by
      unfold F_X6_isSpoiled
      rw [gdt ⟨⟨nI_le (a := 1) hx.1 (by omega), nI_le (b := 999999) (by omega) (by decide)⟩, by rw [hz4.1]; exact hn6⟩]
    have key2 : ∀ v, v = spS (Y4.1.1 1) (nI x) → ∃ Y9, F_X6_cast_j86 (nI d) (nI x) Y4 (nI (1 + c)) v = some (Y9, 1) ∧ Rel (m + 13) Y9 ∧ Sz Y9 n nd (ns + 1) := by
      intro v hv
      obtain ⟨r, hr⟩ : ∃ r : Nat → Int32, r = upd (upd (upd (upd (zi) (0 : Int32).toNatClampNeg (nI d)) (1 : Int32).toNatClampNeg (nI x)) (2 : Int32).toNatClampNeg (nI (1 + c))) (3 : Int32).toNatClampNeg v := ⟨_, rfl⟩
      have r0 : r 0 = nI d := by rw [hr]; rfl
      have r1 : r 1 = nI x := by rw [hr]; rfl
      have r2 : r 2 = nI (1 + c) := by rw [hr]; rfl
      have r3 : r 3 = spS (Y4.1.1 1) (nI x) := by rw [hr, ← hv]; rfl
      obtain ⟨Z, e5, q1, q2⟩ := b_cast (r := r) (c := 1 + c) w2 (by rw [hz4.1]; omega) (by rw [hz4.2.2]; omega) (by rw [hz4.2.1]; omega) (by rw [hz4.2.1]; exact hd) hx ⟨by omega, by omega⟩ r0 r1 r2 r3
      refine ⟨tz (trw Y4 r) Z, ?_, ⟨WFm_cast (c := 1 + c) w1 (by rw [hz4.2.2]; omega) (by rw [hz4.2.1]; exact hd) hx ⟨by omega, by omega⟩ r0 r1 r2 r3, q2, ?_, ⟨dd, ?_, by omega⟩, ?_⟩, hz4.1, hz4.2.1, ?_⟩
      · unfold F_X6_cast_j86
        rw [← hr, gdt (by rw [hz4.2.2]; omega)]
        simp only [bv]
        rw [cal_e (show F_X5_cast (trw Y4 r).2 (nI d) (nI x) (nI (1 + c)) = some (Z, nI (Y4.1.1 4)) from e5)]
        rw [show (tz (trw Y4 r) Z).1.1 4 = Y4.1.1 4 + 1 from rfl, nI_pred, brt rfl]
      · show Vb Z
        unfold Vb
        rw [q1]
        exact w3
      · show (rM Y4.1 r).2 0 2 = _
        rw [rM_lo (by decide)]
        exact ed
      · show (rM Y4.1 r).2 0 8 = _
        rw [rM_lo (by decide)]
        exact w5
      · show Y4.1.1 4 + 1 = _
        rw [hz4.2.2]
    unfold F_X6_cast_j51
    rw [calt_e e4]
    simp only [bv]
    rw [show (1 : Int32) + nI c = nI (1 + c) from nI_add 1 c, calp_e esp]
    rcases spS_01 (Y4.1.1 1) (nI x) with h | h
    · rw [brt h]
      exact key2 0 h.symm
    · rw [brf (by rw [h]; decide)]
      exact key2 1 h.symm
  unfold F_X6_cast
  simp only [bv]
  rw [hz.2.2, brf (show ¬ (23 : Int32) < nI ns from nI_nlt (a := 23) (by omega) (by decide)), brt hR.2.2.2.2, hz.2.1, calt_e e1, calt_e e2, calt_e (show F_X6_draw L xs Y2 3 = some (Y3, nI a) from e3)]
  by_cases h : nI a = 0
  · rw [brt h]
    exact key 60 (by decide) (by decide)
  · rw [brf h]
    exact key 9 (by decide) (by decide)
