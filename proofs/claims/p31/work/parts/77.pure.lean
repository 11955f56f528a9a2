/-! p31: the law's three times. -/
theorem Rel_tz {m : Nat} {Y : TS} {Z : Mem} (h : Rel m Y) (hB : Bx True 0 0 Y.1 Z) (hV : Vb Z) : Rel m (tz Y Z) := ⟨h.1, hB, hV, h.2.2.2.1, h.2.2.2.2⟩
theorem lw197x {u : Int32} {B : TS → Int32 → Option Int32} {Y : TS} {a b : Int32} (h : b = a) : F_L_law_x197 u B a Y b = B Y (u + 1) := by
  unfold F_L_law_x197
  rw [brt h]
theorem lw57 {L n : Nat} {xs : Nat → Int32} (K : TS → Option Int32) (hL : L < 2 ^ 31) (hn : 0 < n) : ∀ (r fuel k m : Nat) (Y : TS), k + r = 3 → r < fuel → m + 20 * r + 100 < 100000 → Rel m Y → Sz Y n 2 9 →
    ∃ Y1, F_L_law_l57 L xs K fuel Y (nI k) = K Y1 ∧ Rel (m + 12 * r) Y1 ∧ Sz Y1 n 2 9 := by
  intro r
  induction r with
  | zero =>
    intro fuel k m Y hk hf hm hR hz
    obtain ⟨f, rfl⟩ : ∃ f, fuel = f + 1 := ⟨fuel - 1, by omega⟩
    rw [F_L_law_l57, brt (show (3 : Int32) ≤ nI k from nI_le (a := 3) (by omega) (by omega))]
    exact ⟨Y, rfl, hR, hz⟩
  | succ r IH =>
    intro fuel k m Y hk hf hm hR hz
    obtain ⟨f, rfl⟩ : ∃ f, fuel = f + 1 := ⟨fuel - 1, by omega⟩
    obtain ⟨x, Y1, hx, e1, hR1, hS1⟩ := dr_ok (n := 9) (xs := xs) hL hR (by omega) (by decide) (by decide)
    have hz1 := Sm_Sz hS1 hz
    obtain ⟨w, Y2, hw, e2, hR2, hS2⟩ := dr_ok (n := 4) (xs := xs) hL hR1 (by omega) (by decide) (by decide)
    have hz2 := Sm_Sz hS2 hz1
    obtain ⟨rk, Y3, e3, hrk, hR3, hS3⟩ := rk_ok (xs := xs) hL hR2 (by omega) (by rw [hz2.1]; exact hn)
    have hz3 := Sm_Sz hS3 hz2
    have hW := hR3.1
    have hx3 : x < Y3.1.1 4 := by rw [hz3.2.2]; exact hx
    obtain ⟨⟨d, ed, hd⟩, _⟩ := hW.2.2.2.2 x hx3
    have ed1 : Y1.1.2 (5 + x) 0 = nI d := by rw [← (hS2.trans hS3).2.1 (5 + x) (by omega)]; exact ed
    obtain ⟨Z1, g1, hB1, hV1⟩ := dig1 hW (nn_0 20) hR3.2.1 hR3.2.2.1
    obtain ⟨Zo, go, hBo, hVo⟩ := oth_ok (Y := Y3) (x := x) hW hrk (by omega)
    obtain ⟨Yo, eo, -⟩ := win1 d w (oM_W hW hrk) (Bx_f hBo) hVo
    obtain ⟨Z2, Yo2, rr, g2, g2o, hB2, hV2⟩ := ww_ok hW hB1 hV1 hx3 hrk hw ed hBo hVo
    have hrr : rr = wn (oM Y3.1 x rk) d w := by
      rw [eo] at g2o
      exact congrArg Prod.snd (Option.some.inj g2o.symm)
    obtain ⟨Z3, g3, hB3, hV3⟩ := lie_ok hW hB2 hV2 hx3 hw ed
    obtain ⟨Z4, g4, y4, y5, hV4⟩ := win1 d w hW (Bx_f hB3) hV3
    have g4w := w_ok hW hB3.1 hd hw g4
    have hB4 : Bx True 0 0 Y3.1 Z4 := Bx_keep hB3 y4 y5
    obtain ⟨Z5, g5, hB5, hV5⟩ := dig1 hW (nn_0 20) hB4 hV4
    obtain ⟨Zq, gq, hBq, hVq⟩ := oth_ok (Y := tz Y3 Z5) (x := x) hW hrk (by omega)
    obtain ⟨Yq, eq, -⟩ := win1 d w (oM_W hW hrk) (Bx_f hBq) hVq
    have eqw := w_ok (oM_W hW hrk) hBq.1 hd hw eq
    have hL9 : ∀ c ∈ lsM Y3.1 x, c < 9 := fun c hc => by
      have h1 := (lsM_mem hc).1
      have h2 := hW.1.1
      omega
    have hl6 := lsM_len Y3.1 x
    have el : F_X6_list L xs (tz Y3 Z5) x = some (nI (ofD (lsM Y3.1 x))) := li_ok (Y := tz Y3 Z5) hW hx3
    have ep : F_X6_place (nI (ofD (lsM Y3.1 x))) (wn Y3.1 d w) = some (nI (pv (wn Y3.1 d w) (lsM Y3.1 x))) := pv_ok (by omega) hL9
    have hR5 : Rel (m + 12) (tz Y3 Z5) := Rel_mono (Rel_tz hR3 hB5 hV5) (by omega)
    obtain ⟨Y9, e9, hR9, hz9⟩ := IH f (k + 1) (m + 12) (tz Y3 Z5) (by omega) (by omega) (by omega) hR5 hz3
    refine ⟨Y9, ?_, Rel_mono hR9 (by omega), hz9⟩
    have eix : ix (nI x) = x := nI_clamp (by omega)
    have gd1 : ¬ (nI x < 0 ∨ Y1.1.1 4 ≤ ix (nI x)) := by rw [hz1.2.2]; exact nI_in hx (by decide)
    have gd2 : ¬ (nI x < 0 ∨ (tz Y3 Z5).1.1 4 ≤ ix (nI x)) := by rw [show (tz Y3 Z5).1.1 4 = 9 from hz3.2.2]; exact nI_in hx (by decide)
    rw [F_L_law_l57, brf (show ¬ (3 : Int32) ≤ nI k from nI_ge (b := 3) (by omega) (by decide)), bv_e, hz.2.2, calt_e e1, gdt gd1, bv_e, ix0]
    rw [show Y1.1.2 (5 + ix (nI x)) 0 = nI d by rw [eix]; exact ed1]
    rw [calt_e (show F_X6_draw L xs Y1 4 = some (Y2, nI w) from e2), calt_e e3, cal_e g1, bv_e, show (tz Y3 Z1).2 = Z1 from rfl, cal_e g2, bv_e]
    rw [show tz (tz Y3 Z1) Z2 = tz Y3 Z2 from rfl, show (tz Y3 Z2).2 = Z2 from rfl, cal_e g3, bv_e]
    rw [show tz (tz Y3 Z2) Z3 = tz Y3 Z3 from rfl, show (tz Y3 Z3).2 = Z3 from rfl, cal_e g4w, bv_e]
    rw [show tz (tz Y3 Z3) Z4 = tz Y3 Z4 from rfl, show (tz Y3 Z4).2 = Z4 from rfl, cal_e g5, bv_e, bv_e]
    rw [show tz (tz Y3 Z4) Z5 = tz Y3 Z5 from rfl, brt ((lg_cmp_eq _ _).mpr rfl), cal_e gq, cal_e eqw, brt hrr.symm, gdt gd2, eix, calp_e el, calp_e ep]
    refine Eq.trans (lw197 (Y := tz Y3 Z5) (x := x) (d := d) (w := w) _ hW hx3 hw hd (lsM Y3.1 x) 8 (-1) (pv (wn Y3.1 d w) (lsM Y3.1 x)) (by omega) hl6 (fun c hc => hc) (Nat.le_trans (pv_le _ _) hl6)) ?_
    refine Eq.trans (lw197x rfl) ?_
    rw [nI_1]
    exact e9
theorem lx57 {L n m : Nat} {xs : Nat → Int32} {u : Int32} {B : Int32 → Option Int32} {Y : TS} (hL : L < 2 ^ 31) (hR : Rel m Y) (hm : m + 100 < 100000) (hz : Sz Y n 2 9) : F_L_law_x57 L xs u B Y = B (u + 1) := by
  obtain ⟨Y1, e1, hR1, hz1⟩ := seal_ok (xs := xs) hL hR (by omega) hz (by decide)
  obtain ⟨t, Y2, ht, e2, hR2, hS2⟩ := dr_ok (n := 21) (xs := xs) hL hR1 (by omega) (by decide) (by decide)
  have hW := hR2.1
  obtain ⟨Z3, v, e3, hB3, hV3, hv⟩ := thr_ok (t := t) hW hR2.2.1 hR2.2.2.1 (by omega)
  have hR3 : RelP (nI t) (m + 2) (tz Y2 Z3) := ⟨hW, hB3, hV3, hR2.2.2.2.1⟩
  obtain ⟨h, Y4, hh, e4, hS4, hd4⟩ := dr_g (Y := tz Y2 Z3) (n := 60) (xs := xs) hL hR3.2.2.2 (by omega) (by decide) (by decide)
  have hR4 := RelP_Sm hR3 hS4 hd4
  obtain ⟨Y5, e5⟩ := lw319 (h := 1 + h) (xs := xs) (v := v) (F_L_law_x319 u B) hL ⟨by omega, by omega⟩ (Nn_nI (k := t) (by omega) (by decide)) (cm (nI t) 0 Y4.1) (by rw [brd_Sm hS4.1 hS4.2.1]; exact hv) 4 5 0 (m + 3) Y4 rfl (by decide) (by omega) hR4 rfl
  unfold F_L_law_x57
  rw [calt_e e1, brf (by decide), calt_e (show F_X6_draw L xs Y1 21 = some (Y2, nI t) from e2), cal_e e3, bv_e, calt_e (show F_X6_draw L xs (tz Y2 Z3) 60 = some (Y4, nI h) from e4), bv_e, show (1 : Int32) + nI h = nI (1 + h) from nI_add 1 h]
  refine Eq.trans e5 ?_
  unfold F_L_law_x319
  rfl
theorem lw2 {L : Nat} {xs : Nat → Int32} (K : Option Int32) (hL : L < 2 ^ 31) : ∀ (r fuel k : Nat), k + r = 3 → r < fuel → F_L_law_l2 L xs K fuel (nI k) = K := by
  intro r
  induction r with
  | zero =>
    intro fuel k hk hf
    obtain ⟨f, rfl⟩ : ∃ f, fuel = f + 1 := ⟨fuel - 1, by omega⟩
    rw [F_L_law_l2, brt (show (3 : Int32) ≤ nI k from nI_le (a := 3) (by omega) (by omega))]
  | succ r IH =>
    intro fuel k hk hf
    obtain ⟨f, rfl⟩ : ∃ f, fuel = f + 1 := ⟨fuel - 1, by omega⟩
    obtain ⟨hR0, hz0⟩ := Rel_Yi (31 * k + 7)
    obtain ⟨Y1, n, e1, hR1, hz1, hn⟩ := f_all (xs := xs) hL hR0 (by omega) hz0
    obtain ⟨Y2, e2, hR2, hz2⟩ := t_chng (xs := xs) hL hR1 (by omega) hz1 (by decide) (by decide)
    obtain ⟨Y3, e3, hR3, hz3⟩ := t_with (xs := xs) hL hR2 (by omega) hz2 (by omega)
    obtain ⟨Y4, e4, hR4, hz4⟩ := lw57 (xs := xs) (F_L_law_x57 L xs (nI k) (F_L_law_l2 L xs K f)) hL (show 0 < n by omega) 3 4 0 _ Y3 rfl (by decide) (by omega) hR3 hz3
    rw [F_L_law_l2, brf (show ¬ (3 : Int32) ≤ nI k from nI_ge (b := 3) (by omega) (by decide)), bv_e, bv_e, bv_e]
    rw [show (31 : Int32) * nI k + 7 = nI (31 * k + 7) by rw [show (31 : Int32) * nI k = nI (31 * k) from pk_mul 31 k]; exact nI_add _ 7]
    rw [calt_e e1, brf (by decide), calt_e e2, brf (by decide), calt_e e3, brf (by decide)]
    refine Eq.trans e4 ?_
    rw [lx57 hL hR4 (by omega) hz4, nI_1]
    exact IH f (k + 1) (by omega) (by omega)
theorem law_1 {L : Nat} {xs : Nat → Int32} (hL : L < 2 ^ 31) : F_L_law L xs = some 1 := by
  unfold F_L_law
  exact lw2 _ hL 3 4 0 rfl (by decide)
