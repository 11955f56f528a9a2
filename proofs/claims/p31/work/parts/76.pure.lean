/-! p31: thresholds and shares, as the law asks them. -/
noncomputable def brd (pc sl : Int32) (M : TM) (p : Nat) : Int32 := ((F_X1_countVotes (cm pc sl M)).map (fun z => z.1.1 33 p)).getD 0
theorem ag_self {M : TM} {Z : Mem} {pc sl : Int32} (hW : WFm M) (hp : Nn pc 20) (hB : Bx True pc sl M Z) (hV : Vb Z) : Ag (Z, Z) (cm pc sl M) True (fun _ _ => True) (fun _ _ => True) Z Z :=
  ⟨WFm_t hW hp, ⟨⟨Bx_tl hW.1.2.2 hB, fun _ _ => rfl⟩, ⟨Bx_tl hW.1.2.2 hB, fun _ _ => rfl⟩⟩, ⟨hV, hV⟩, fun _ _ _ => rfl, fun _ _ _ => rfl⟩
theorem cv_ok {M : TM} {Z : Mem} {pc sl : Int32} (hW : WFm M) (hp : Nn pc 20) (hB : Bx True pc sl M Z) (hV : Vb Z) : ∃ Y, F_X1_countVotes Z = some (Y, ()) ∧ Bx True pc sl M Y ∧ Vb Y ∧ ∀ p, p < 4 → Y.1 33 p = brd pc sl M p := by
  obtain ⟨⟨Y1, r1⟩, ⟨Y2, r2⟩, e1, e2, hr, hA, -⟩ := sp_X1_countVotes (Z, cm pc sl M) (cm pc sl M) True noS noS Z (cm pc sl M) ⟨WFm_t hW hp, ⟨⟨Bx_tl hW.1.2.2 hB, fun _ _ => rfl⟩, ⟨cm_tl True pc sl M, fun _ _ => rfl⟩⟩, ⟨hV, cm_Vb pc sl M⟩, fun a b h => h.elim, fun a b h => h.elim⟩
  refine ⟨Y1, e1, Bx_keep hB hA.2.1.1.1 hA.2.1.1.2, hA.2.2.1.1, fun p hp4 => ?_⟩
  have h := hA.2.2.2.1 33 p (ext_in hp4)
  have h2 : brd pc sl M p = Y2.1 33 p := by
    unfold brd
    rw [e2]
    rfl
  rw [h2]
  exact h
theorem cd_ok {M : TM} {Z : Mem} {pc sl : Int32} (hW : WFm M) (hp : Nn pc 20) (hB : Bx True pc sl M Z) (hV : Vb Z) : ∃ Y, F_X1_countDistricts Z = some (Y, ()) ∧ Bx True pc sl M Y ∧ Vb Y ∧ Y.1 33 = Z.1 33 := by
  obtain ⟨⟨Y1, r1⟩, ⟨Y2, r2⟩, e1, e2, hr, hA, -⟩ := sp_X1_countDistricts (Z, Z) (cm pc sl M) True _ _ Z Z (ag_self hW hp hB hV)
  exact ⟨Y1, e1, Bx_keep hB hA.2.1.1.1 hA.2.1.1.2, hA.2.2.1.1, f_cd rfl Y1 r1 e1⟩
theorem nn_60 {h : Nat} (hh : h ≤ 60) : Nn (nI h) 60 := Nn_nI hh (by decide)
theorem ss_ok {M : TM} {Z : Mem} {pc sl : Int32} {h : Nat} (r : Int32) (hW : WFm M) (hp : Nn pc 20) (hB : Bx True pc sl M Z) (hV : Vb Z) (hh : h ≤ 60) : ∃ Y, F_X1_shareSeats Z (nI h) r = some (Y, ()) ∧ Bx True pc sl M Y ∧ Vb Y ∧ ∀ p, p < 4 → ¬ Z.1 33 p = 0 → Y.1 36 p = 0 := by
  obtain ⟨⟨Y1, r1⟩, ⟨Y2, r2⟩, e1, e2, hr, hA, -⟩ := sp_X1_shareSeats (Z, Z) (cm pc sl M) True _ _ Z Z (nI h) r (fun _ _ => trivial) (fun _ _ => trivial) (nn_60 hh) (ag_self hW hp hB hV)
  exact ⟨Y1, e1, Bx_keep hB hA.2.1.1.1 hA.2.1.1.2, hA.2.2.1.1, (shs (v := Z.1 33) (nI h) r rfl Y1 r1 e1).2⟩
theorem ckP {Z : Mem} {p : Nat} (hp : p < 4) : F_X5_checkParty Z (nI p) = some () := by
  unfold F_X5_checkParty
  rw [calp_e (isp_1 hp), brf (by decide)]
theorem ofp_ok {M : TM} {Z : Mem} {pc sl : Int32} {p : Nat} (hW : WFm M) (hpc : Nn pc 20) (hB : Bx True pc sl M Z) (hV : Vb Z) (hp : p < 4) : ∃ Y, F_X5_ofParty Z (nI p) 4 = some (Y, if brd pc sl M p = 0 then 0 else 1) ∧ Bx True pc sl M Y ∧ Vb Y := by
  obtain ⟨Y1, e1, hB1, hV1, h1⟩ := cv_ok hW hpc hB hV
  obtain ⟨Y2, e2, hB2, hV2, h2⟩ := cd_ok hW hpc hB1 hV1
  have ew : F_X5_checkWhat Z 4 4 = some () := by
    unfold F_X5_checkWhat
    rw [brf (by decide), brt (by decide)]
  have ef : F_X1_figure Y2 (nI p) 4 = some (if brd pc sl M p = 0 then 0 else 1) := by
    unfold F_X1_figure
    rw [brf (by decide), brf (by decide), brf (by decide), brf (by decide), gdt (nI_in hp (by decide)), bv_e, show ix (nI p) = p from nI_clamp (by omega), h2, h1 p hp]
    by_cases h9 : brd pc sl M p = 0
    · rw [brt h9, if_pos h9]
    · rw [brf h9, if_neg h9]
  refine ⟨Y2, ?_, hB2, hV2⟩
  unfold F_X5_ofParty
  rw [calp_e (ckP hp), calp_e ew, cal_e e1, cal_e e2, calp_e ef]
theorem sha_ok {M : TM} {Z : Mem} {pc sl : Int32} {p h r : Nat} (hW : WFm M) (hpc : Nn pc 20) (hB : Bx True pc sl M Z) (hV : Vb Z) (hp : p < 4) (hh : 1 ≤ h ∧ h ≤ 60) (hr : r < 3) (hb : ¬ brd pc sl M p = 0) : ∃ Y, F_X5_share Z (nI p) (nI h) (nI r) = some (Y, 0) ∧ Bx True pc sl M Y ∧ Vb Y := by
  obtain ⟨Y1, e1, hB1, hV1, h1⟩ := cv_ok hW hpc hB hV
  obtain ⟨Y2, e2, hB2, hV2, h2⟩ := ss_ok (nI r) hW hpc hB1 hV1 hh.2
  have eh : F_X5_checkHouse Z (nI h) = some () := by
    unfold F_X5_checkHouse
    rw [brf (show ¬ nI h < 1 from nI_nlt (b := 1) hh.1 (by omega)), brt (show nI h ≤ 60 from nI_le (b := 60) hh.2 (by decide))]
  have er : F_X5_checkRule Z (nI r) = some () := by
    unfold F_X5_checkRule
    rw [brf (nI_pos (by omega)), brt (show nI r ≤ 2 from nI_le (b := 2) (by omega) (by decide))]
  have es : F_X5_shareHouse Z (nI h) (nI r) = some (Y2, ()) := by
    unfold F_X5_shareHouse
    rw [cal_e e1, cal_e e2]
  refine ⟨Y2, ?_, hB2, hV2⟩
  unfold F_X5_share
  rw [calp_e (ckP hp), calp_e eh, calp_e er, cal_e es, gdt (nI_in hp (by decide)), bv_e, show ix (nI p) = p from nI_clamp (by omega), h2 p hp (by rw [h1 p hp]; exact hb)]
/-- the set of those that are barred -/
theorem bs_1 {Z : Mem} {K : Int32 → Option Int32} {n p : Nat} {u : Int32} (hp : p < 4) : F_X1_barredSet_l4 Z K (n + 1) u (nI p) = F_X1_barredSet_l4 Z K n (if Z.1 33 p = 0 then u else u ||| ((1 : Int32) <<< (nI p &&& 31))) (nI (p + 1)) := by
  rw [F_X1_barredSet_l4, brf (show ¬ (4 : Int32) ≤ nI p from nI_ge (b := 4) hp (by decide)), gdt (nI_in hp (by decide)), bv_e, show ix (nI p) = p from nI_clamp (by omega), bv_e, bv_e, nI_1]
  by_cases h : Z.1 33 p = 0
  · rw [brt h, if_pos h]
  · rw [brf h, if_neg h]
theorem bs_ok (Z : Mem) : ∃ v, F_X1_barredSet Z = some v ∧ ∀ p, p < 4 → (v >>> (nI p &&& 31)) &&& 1 = if Z.1 33 p = 0 then 0 else 1 := by
  have s0 := fun u => bs_1 (Z := Z) (K := F_X1_barredSet_x4) (n := 99) (p := 0) (u := u) (by decide)
  have s1 := fun u => bs_1 (Z := Z) (K := F_X1_barredSet_x4) (n := 98) (p := 1) (u := u) (by decide)
  have s2 := fun u => bs_1 (Z := Z) (K := F_X1_barredSet_x4) (n := 97) (p := 2) (u := u) (by decide)
  have s3 := fun u => bs_1 (Z := Z) (K := F_X1_barredSet_x4) (n := 96) (p := 3) (u := u) (by decide)
  have s4 : ∀ u, F_X1_barredSet_l4 Z F_X1_barredSet_x4 96 u (nI 4) = some u := fun u => by
    rw [F_X1_barredSet_l4, brt (by decide)]
    rfl
  refine ⟨_, (s0 0).trans ((s1 _).trans ((s2 _).trans ((s3 _).trans (s4 _)))), fun p hp => ?_⟩
  have h4 : p = 0 ∨ p = 1 ∨ p = 2 ∨ p = 3 := by omega
  rcases h4 with rfl | rfl | rfl | rfl <;> by_cases h0 : Z.1 33 0 = 0 <;> by_cases h1 : Z.1 33 1 = 0 <;> by_cases h2 : Z.1 33 2 = 0 <;> by_cases h3 : Z.1 33 3 = 0 <;> simp only [h0, h1, h2, h3, eq_self, if_true, if_false] <;> decide
theorem thr_ok {M : TM} {Z : Mem} {pc sl : Int32} {t : Nat} (hW : WFm M) (hB : Bx True pc sl M Z) (hV : Vb Z) (ht : t ≤ 20) : ∃ Y v, F_X5_threshold Z (nI t) = some (Y, v) ∧ Bx True (nI t) sl M Y ∧ Vb Y ∧ ∀ p, p < 4 → (v >>> (nI p &&& 31)) &&& 1 = if brd (nI t) sl M p = 0 then 0 else 1 := by
  have hV2 : Vb (si Z 1 8 (nI t)) := hV
  obtain ⟨Y1, e1, hB1, hV1, h1⟩ := cv_ok hW (Nn_nI ht (by decide)) (Bx_pc (v := nI t) hB hW.1.2.2) hV2
  obtain ⟨v, e2, h2⟩ := bs_ok Y1
  refine ⟨Y1, v, ?_, hB1, hV1, fun p hp => by rw [h2 p hp, h1 p hp]⟩
  unfold F_X5_threshold
  rw [brf (nI_pos (by omega)), brt (show nI t ≤ 20 from nI_le (b := 20) ht (by decide)), bv_e, cal_e e1, calp_e e2]
/-! p31: the law itself. -/
/-- a draw, whatever the box says -/
theorem dr_g {L m n : Nat} {xs : Nat → Int32} {Y : TS} (hL : L < 2 ^ 31) (h : ∃ d, Y.1.2 0 2 = nI d ∧ d ≤ m) (hm : m < 100000) (h0 : 0 < n) (hn : n < 2 ^ 31) : ∃ r Y1, r < n ∧ F_X6_draw L xs Y (nI n) = some (Y1, nI r) ∧ Sm Y Y1 ∧ ∃ d, Y1.1.2 0 2 = nI d ∧ d ≤ m + 1 := by
  obtain ⟨d, e, hd⟩ := h
  unfold F_X6_draw
  simp only [bv]
  rw [e, show nI d - nI d / 24 * 24 = nI (d % 24) from pk_rem (d := 24) (by omega) (by decide) (by decide)]
  obtain ⟨a, ea⟩ := cell_ok (xs := xs) hL (show d % 24 < 2 ^ 31 by omega)
  rw [calp_e ea]
  obtain ⟨r, hr, er⟩ := below_ok (a >>> ((nI d / 24 - nI d / 24 / 8 * 8) &&& 31) + 421 * nI d) h0 hn
  rw [calp_e er, nI_1]
  refine ⟨r, tsi Y 0 2 (nI (d + 1)), hr, rfl, ⟨rfl, fun i hi => if_neg hi, rfl⟩, d + 1, ?_, by omega⟩
  show (if (0 : Nat) = 0 then upd (Y.1.2 0) 2 (nI (d + 1)) else Y.1.2 0) 2 = _
  rw [if_pos rfl, pk_us]
/-- as Rel, behind a threshold -/
def RelP (pc : Int32) (m : Nat) (Y : TS) : Prop := WFm Y.1 ∧ Bx True pc 0 Y.1 Y.2 ∧ Vb Y.2 ∧ ∃ d, Y.1.2 0 2 = nI d ∧ d ≤ m
theorem RelP_Sm {pc : Int32} {m n : Nat} {Y Y1 : TS} (h : RelP pc m Y) (hS : Sm Y Y1) (hd : ∃ d, Y1.1.2 0 2 = nI d ∧ d ≤ n) : RelP pc n Y1 := by
  obtain ⟨h1, h2, h3, -⟩ := h
  obtain ⟨s1, s2, s3⟩ := hS
  refine ⟨WFm_cong s1 s2 h1, ?_, by rw [s3]; exact h3, hd⟩
  rw [s3]
  exact Bx_cong s1 s2 h2
theorem brd_Sm {pc sl : Int32} {M M2 : TM} (h0 : M2.1 = M.1) (h : ∀ i, i ≠ 0 → M2.2 i = M.2 i) : cm pc sl M2 = cm pc sl M := by
  have e1 : boxv pc sl M2 = boxv pc sl M := by
    funext j
    unfold boxv
    rw [sto_cong (M := M) (M2 := M2) (by rw [h0]) (h 2 (by decide)), h0]
  have e2 : prt M2 = prt M := by funext j; unfold prt; rw [h0, h 1 (by decide)]
  have e3 : stdv M2 = stdv M := by funext j; unfold stdv; rw [h0, h 2 (by decide)]
  have e4 : seav M2 = seav M := by funext j; unfold seav; rw [h0, h 3 (by decide)]
  have e5 : ∀ k, lsM M2 k = lsM M k := fun k => lsM_cong (by rw [h0]) (h 2 (by decide)) (by rw [h (5 + k) (by omega)]) (by rw [h (5 + k) (by omega)])
  unfold cm
  rw [e1, e2, e3, e4, h0]
  refine Prod.ext ?_ rfl
  funext i j
  have e6 : M2.2 (5 + (i - 39)) = M.2 (5 + (i - 39)) := h _ (by omega)
  simp only [e5, e6]
theorem lw319 {L h : Nat} {xs : Nat → Int32} {pc v : Int32} (K : TS → Option Int32) (hL : L < 2 ^ 31) (hh : 1 ≤ h ∧ h ≤ 60) (hpc : Nn pc 20) (C : Mem) (hv : ∀ p, p < 4 → (v >>> (nI p &&& 31)) &&& 1 = if ((F_X1_countVotes C).map (fun z => z.1.1 33 p)).getD 0 = 0 then 0 else 1) : ∀ (r fuel k m : Nat) (Y : TS), k + r = 4 → r < fuel → m + r < 100000 → RelP pc m Y → cm pc 0 Y.1 = C →
    ∃ Y1, F_L_law_l319 L xs v (nI h) K fuel Y (nI k) = K Y1 := by
  intro r
  induction r with
  | zero =>
    intro fuel k m Y hk hf hm hR hC
    obtain ⟨f, rfl⟩ : ∃ f, fuel = f + 1 := ⟨fuel - 1, by omega⟩
    rw [F_L_law_l319, brt (show (4 : Int32) ≤ nI k from nI_le (a := 4) (by omega) (by omega))]
    exact ⟨Y, rfl⟩
  | succ r IH =>
    intro fuel k m Y hk hf hm hR hC
    obtain ⟨f, rfl⟩ : ∃ f, fuel = f + 1 := ⟨fuel - 1, by omega⟩
    have hk4 : k < 4 := by omega
    obtain ⟨h1, h2, h3, h4⟩ := id hR
    have eb : brd pc 0 Y.1 k = ((F_X1_countVotes C).map (fun z => z.1.1 33 k)).getD 0 := by
      unfold brd
      rw [hC]
    obtain ⟨Z1, e1, hB1, hV1⟩ := ofp_ok h1 hpc h2 h3 hk4
    obtain ⟨Z2, e2, hB2, hV2⟩ := ofp_ok h1 hpc hB1 hV1 hk4
    rw [F_L_law_l319, brf (show ¬ (4 : Int32) ≤ nI k from nI_ge (b := 4) hk4 (by decide)), cal_e e1, bv_e, bv_e, bv_e, brt (by rw [hv k hk4, eb]), show (tz Y Z1).2 = Z1 from rfl, cal_e e2, bv_e, show tz (tz Y Z1) Z2 = tz Y Z2 from rfl]
    have hR2 : RelP pc m (tz Y Z2) := ⟨h1, hB2, hV2, h4⟩
    by_cases hb : brd pc 0 Y.1 k = 0
    · rw [if_pos hb, brf (by decide), nI_1]
      exact IH f (k + 1) m (tz Y Z2) (by omega) (by omega) (by omega) hR2 hC
    · rw [if_neg hb, brt rfl]
      obtain ⟨rr, Y3, hrr, e3, hS3, hd3⟩ := dr_g (n := 3) (xs := xs) hL h4 (by omega) (by decide) (by decide)
      obtain ⟨rr, Y3, hrr, e3, hS3, hd3⟩ := dr_g (Y := tz Y Z2) (n := 3) (xs := xs) hL h4 (by omega) (by decide) (by decide)
      have hR3 := RelP_Sm hR2 hS3 hd3
      have hC3 : cm pc 0 Y3.1 = C := by rw [brd_Sm hS3.1 hS3.2.1]; exact hC
      obtain ⟨Z4, e4, hB4, hV4⟩ := sha_ok (r := rr) hR3.1 hpc hR3.2.1 hR3.2.2.1 hk4 hh hrr (by unfold brd; rw [hC3, ← eb]; exact hb)
      rw [calt_e (show F_X6_draw L xs (tz Y Z2) 3 = some (Y3, nI rr) from e3), cal_e e4, bv_e, brt rfl, nI_1]
      exact IH f (k + 1) (m + 1) (tz Y3 Z4) (by omega) (by omega) (by omega) ⟨hR3.1, hB4, hV4, hR3.2.2.2⟩ hC3
