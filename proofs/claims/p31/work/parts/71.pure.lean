/-! p31: winners of boxes that are told alike; what would be. -/
def noS : Nat → Nat → Prop := fun _ _ => False
theorem win2 {T Z1 Z2 : Mem} (d w : Int32) (hT : WFt T) (h1 : tl False T Z1) (h2 : tl False T Z2) (v1 : Vb Z1) (v2 : Vb Z2) : ∃ Y1 Y2 r, F_X2_winnerBy Z1 d w = some (Y1, r) ∧ F_X2_winnerBy Z2 d w = some (Y2, r) ∧ tl False T Y1 ∧ (∀ i, 39 ≤ i → Y1.1 i = Z1.1 i) ∧ Vb Y1 := by
  obtain ⟨⟨Y1, r1⟩, ⟨Y2, r2⟩, e1, e2, hr, hA, -⟩ := sp_X2_winnerBy (Z1, Z2) T False noS noS Z1 Z2 d w ⟨hT, ⟨⟨h1, fun _ _ => rfl⟩, ⟨h2, fun _ _ => rfl⟩⟩, ⟨v1, v2⟩, fun a b h => h.elim, fun a b h => h.elim⟩
  have hr2 : r1 = r2 := hr
  subst hr2
  exact ⟨Y1, Y2, r1, e1, e2, hA.2.1.1.1, hA.2.1.1.2, hA.2.2.1.1⟩
theorem Br_tl {rk : Prop} {pc sl : Int32} {M : TM} {Y : Mem} (h : tl rk (cm pc sl M) Y) : Br pc sl M Y := ⟨fun j hj => h.1 j hj, fun j hj => h.2.1 2 j (by decide) (by decide) hj, fun j hj => h.2.1 3 j (by decide) (by decide) hj, fun j hj => h.2.1 4 j (by decide) (by decide) hj⟩
section OM
variable {M : TM} {x r : Nat}
theorem oM_2 (j : Nat) : (oM M x r).2 2 j = if j < M.1 1 then M.2 2 j else 0 := rfl
theorem oM_1 (j : Nat) : (oM M x r).2 1 j = if j < M.1 1 then M.2 1 j else 0 := rfl
theorem oM_3 (j : Nat) : (oM M x r).2 3 j = if j < M.1 3 then M.2 3 j else 0 := rfl
theorem oM_sto : sto (oM M x r) = sto M := cnt_up (M.1 1) (fun j hj => by rw [oM_2, if_pos hj])
theorem oM_stM : stM (oM M x r) = stM M := by
  funext c
  unfold stM
  show decide (c < M.1 1 ∧ (oM M x r).2 2 c = 0) = _
  rw [oM_2]
  by_cases h : c < M.1 1
  · rw [if_pos h]
  · rw [if_neg h, decide_eq_false (fun h9 => h h9.1), decide_eq_false (fun h9 => h h9.1)]
theorem oM_v (pc sl : Int32) (j : Nat) : boxv pc sl (oM M x r) j = boxv pc sl M j ∧ prt (oM M x r) j = prt M j ∧ stdv (oM M x r) j = stdv M j ∧ seav (oM M x r) j = seav M j := by
  refine ⟨?_, ?_, ?_, ?_⟩
  · unfold boxv
    rw [oM_sto]
    rfl
  · unfold prt
    rw [oM_1]
    show (if j < M.1 1 then _ else _) = _
    by_cases h : j < M.1 1
    · rw [if_pos h, if_pos h]
    · rw [if_neg h, if_neg h]
  · unfold stdv
    refine ite_congr (propext ?_) (fun _ => rfl) (fun _ => rfl)
    rw [oM_2]
    show (j < M.1 1 ∧ (if j < M.1 1 then M.2 2 j else 0) = 0) ↔ _
    by_cases h : j < M.1 1
    · rw [if_pos h]
    · exact ⟨fun h9 => absurd h9.1 h, fun h9 => absurd h9.1 h⟩
  · unfold seav
    rw [oM_3]
    show (if j < M.1 3 then _ else _) = _
    by_cases h : j < M.1 3
    · rw [if_pos h, if_pos h]
    · rw [if_neg h, if_neg h]
theorem oM_Br {pc sl : Int32} {Z Z1 : Mem} (h : Br pc sl M Z) (ho : ∀ a b, a < 5 → Z1.1 a b = Z.1 a b) : Br pc sl (oM M x r) Z1 := by
  refine ⟨fun j hj => ?_, fun j hj => ?_, fun j hj => ?_, fun j hj => ?_⟩
  · rw [ho _ _ (by decide), h.1 j hj, (oM_v pc sl j).1]
  · rw [ho _ _ (by decide), h.2.1 j hj, (oM_v pc sl j).2.1]
  · rw [ho _ _ (by decide), h.2.2.1 j hj, (oM_v pc sl j).2.2.1]
  · rw [ho _ _ (by decide), h.2.2.2 j hj, (oM_v pc sl j).2.2.2]
theorem Br_oM {pc sl : Int32} {Z : Mem} (h : Br pc sl (oM M x r) Z) : Br pc sl M Z := by
  refine ⟨fun j hj => ?_, fun j hj => ?_, fun j hj => ?_, fun j hj => ?_⟩
  · rw [h.1 j hj, (oM_v pc sl j).1]
  · rw [h.2.1 j hj, (oM_v pc sl j).2.1]
  · rw [h.2.2.1 j hj, (oM_v pc sl j).2.2.1]
  · rw [h.2.2.2 j hj, (oM_v pc sl j).2.2.2]
theorem oM_row {k : Nat} (h : k < M.1 4) : (oM M x r).2 (5 + k) = rowO M x r k := tM_row h
theorem oM_W (hW : WFm M) (hr : 1 ≤ r ∧ r < 1000000) : WFm (oM M x r) := by
  refine ⟨hW.1, fun j hj => ?_, ⟨fun j => ?_, fun j hj => ?_⟩, fun j hj => ?_, fun k hk => ?_⟩
  · rw [oM_1, if_pos (show j < M.1 1 from hj)]
    exact hW.2.1 j hj
  · rw [oM_2]
    split
    · exact hW.2.2.1.1 j
    · exact Or.inl rfl
  · rw [oM_2, if_neg (show ¬ j < M.1 1 from Nat.not_lt.mpr hj)]
  · rw [oM_3, if_pos (show j < M.1 3 from hj)]
    exact hW.2.2.2.1 j hj
  · have hk2 : k < M.1 4 := hk
    rw [oM_row hk2, rowO_0, rowO_1, rowO_2, rowO_3]
    obtain ⟨a1, a2, a3, a4⟩ := hW.2.2.2.2 k hk2
    exact ⟨a1, ⟨_, rfl, rkO_ok hW hr hk2⟩, a3, rfl⟩
theorem spS_11 (n : Nat) : spS n (nI 11) = 1 := by
  rcases spS_01 n (nI 11) with h | h
  · have h1 := ((spS_0 (x := 11) (by decide)).mp h).2
    exact absurd h1 (by decide)
  · exact h
theorem oM_ls {k : Nat} (hW : WFm M) (hr : 1 ≤ r ∧ r < 1000000) (h : k < M.1 4) : lsM (oM M x r) k = lstOf (stM M) (spS (M.1 1) (nI (rkO M x r k))) (rkO M x r k) := by
  unfold lsM
  rw [oM_stM, oM_row h, rowO_1, rowO_3, show ix (nI (rkO M x r k)) = rkO M x r k from nI_clamp (by have := (rkO_ok (x := x) hW hr h).2; omega)]
theorem oM_sp {k : Nat} (hW : WFm M) (h : k < M.1 4) (hk : k ≠ x) : spS (M.1 1) (nI (rkO M x r k)) = M.2 (5 + k) 3 ∧ lstOf (stM M) (spS (M.1 1) (nI (rkO M x r k))) (rkO M x r k) = lsM M k := by
  obtain ⟨_, ⟨y, ey, hy1, hy2⟩, _, es⟩ := hW.2.2.2.2 k h
  unfold rkO
  rw [if_neg hk]
  by_cases h1 : M.2 (5 + k) 3 = 1
  · rw [if_pos h1, spS_11, h1]
    refine ⟨rfl, ?_⟩
    unfold lsM lstOf
    rw [h1]
    rfl
  · have e9 : ix (nI y) = y := nI_clamp (by omega)
    rw [if_neg h1]
    unfold lsM
    rw [es, ey, e9]
    exact ⟨rfl, rfl⟩
theorem Sk_oM {k : Nat} {Z Z1 : Mem} (hW : WFm M) (hr : 1 ≤ r ∧ r < 1000000) (h : k < M.1 4) (hk : k ≠ x) (hS : Sk True M k Z) (ha : ∀ b, Z1.1 (39 + k) b = Z.1 (39 + k) b) (hb : ∀ b, Z1.1 (64 + k) b = Z.1 (64 + k) b) : Sk False (oM M x r) k Z1 := by
  obtain ⟨e1, e2⟩ := oM_sp (x := x) (r := r) hW h hk
  unfold Sk at hS ⊢
  rw [oM_ls hW hr h, e2]
  refine ⟨fun j hj h1 => ?_, by rw [ha]; exact hS.2.1, fun j hj => by rw [hb]; exact hS.2.2 j hj⟩
  rw [ha, hS.1 j hj (fun _ => trivial), oM_row h]
  have hj4 : j = 0 ∨ j = 1 ∨ j = 2 ∨ j = 3 := by omega
  rcases hj4 with rfl | rfl | rfl | rfl
  · rfl
  · exact (h1 rfl).elim
  · rfl
  · rw [rowO_3, e1]
end OM
section SWZ
variable {x : Nat} {Z : Mem}
theorem swz_1 (i : Nat) : (swz x Z).1 i = Z.1 (tw x i) := rfl
theorem tw_k {k : Nat} (hk : k < 24) (hx : x < 24) (h : k ≠ x) : tw x (39 + k) = 39 + k ∧ tw x (64 + k) = 64 + k := by
  unfold tw
  constructor <;> (rw [if_neg (by omega), if_neg (by omega), if_neg (by omega), if_neg (by omega)])
theorem tw_x (hx : x < 24) : tw x (39 + x) = 39 + 24 ∧ tw x (64 + x) = 64 + 24 ∧ tw x (39 + 24) = 39 + x ∧ tw x (64 + 24) = 64 + x := by
  unfold tw
  refine ⟨if_pos rfl, ?_, ?_, ?_⟩
  · rw [if_neg (by omega), if_neg (by omega), if_pos rfl]
  · rw [if_neg (by omega), if_pos rfl]
  · rw [if_neg (by omega), if_neg (by omega), if_neg (by omega), if_pos rfl]
theorem tw_hi {i : Nat} (hx : x < 24) (h : 39 ≤ i) : 39 ≤ tw x i := by
  unfold tw
  repeat' split
  all_goals omega
theorem Vb_swz (hx : x < 24) (h : Vb Z) : Vb (swz x Z) := by
  intro k hk
  obtain ⟨_, h2, h3⟩ := tw_stk (i := 39 + k) hx (by omega) (by omega)
  have h4 := h (tw x (39 + k) - 39) (by omega)
  rw [show 39 + (tw x (39 + k) - 39) = tw x (39 + k) by omega] at h4
  exact h4
end SWZ
/-- the spare one holds what would be: both change places -/
theorem Bx_sw {M : TM} {x r : Nat} {Z : Mem} (hW : WFm M) (hr : 1 ≤ r ∧ r < 1000000) (hx : x < M.1 4) (hB : Bx True 0 0 M Z) (h0 : Z.1 (39 + 24) 0 = M.2 (5 + x) 0) (h2 : Z.1 (39 + 24) 2 = M.2 (5 + x) 2) (h3 : Z.1 (39 + 24) 3 = spS (M.1 1) (nI r)) (L : List Nat) (hL : lstOf (stM M) (spS (M.1 1) (nI r)) r = L) (h5 : Z.1 (39 + 24) 5 = nI L.length) (h6 : ∀ j, j < L.length → Z.1 (64 + 24) j = nI (L.getD j 0)) : Bx False 0 0 (oM M x r) (swz x Z) := by
  have hs24 : M.1 4 ≤ 24 := hW.1.2.2
  refine ⟨oM_Br hB.1 (fun a b ha => by rw [swz_1, tw_lo (by omega) (by omega)]), fun k hk => ?_⟩
  have hk2 : k < M.1 4 := hk
  by_cases hkx : k = x
  · subst hkx
    obtain ⟨t1, t2, -, -⟩ := tw_x (x := k) (by omega)
    have er : rkO M k r k = r := if_pos rfl
    unfold Sk
    rw [oM_ls hW hr hk2, er, hL, oM_row hk2]
    refine ⟨fun j hj h1 => ?_, by rw [swz_1, t1]; exact h5, fun j hj => by rw [swz_1, t2]; exact h6 j hj⟩
    rw [swz_1, t1]
    have hj4 : j = 0 ∨ j = 1 ∨ j = 2 ∨ j = 3 := by omega
    rcases hj4 with rfl | rfl | rfl | rfl
    · exact h0
    · exact (h1 rfl).elim
    · exact h2
    · rw [rowO_3, er]
      exact h3
  · obtain ⟨t1, t2⟩ := tw_k (x := x) (show k < 24 by omega) (show x < 24 by omega) hkx
    exact Sk_oM hW hr hk2 hkx (hB.2 k hk2) (fun b => by rw [swz_1, t1]) (fun b => by rw [swz_1, t2])
/-- .. and back -/
theorem Bx_back {M : TM} {x r : Nat} {Z Z1 : Mem} (hW : WFm M) (hx : x < M.1 4) (hB : Bx True 0 0 M Z) (ht : tl False (cm 0 0 (oM M x r)) Z1) (hf : ∀ i, 39 ≤ i → Z1.1 i = (swz x Z).1 i) : Bx True 0 0 M (swz x Z1) := by
  have hs24 : M.1 4 ≤ 24 := hW.1.2.2
  have hb := Br_oM (Br_tl ht)
  have ef : ∀ i, 39 ≤ i → (swz x Z1).1 i = Z.1 i := by
    intro i hi
    rw [swz_1, hf _ (tw_hi (by omega) hi), swz_1, tw_tw (by omega)]
  refine ⟨Br_cong hb rfl rfl rfl rfl (fun a b ha => by rw [swz_1, tw_lo (by omega) (by omega)]), fun k hk => ?_⟩
  have h9 := hB.2 k hk
  exact Sk_cong h9 rfl rfl rfl rfl (fun j hj => by rw [ef _ (by omega)]; exact h9.1 j hj (fun _ => trivial)) (by rw [ef _ (by omega)]) (fun j => by rw [ef _ (by omega)])
theorem ww_ok {M : TM} {Z Zo : Mem} {x r w d : Nat} (hW : WFm M) (hB : Bx True 0 0 M Z) (hV : Vb Z) (hx : x < M.1 4) (hr : 1 ≤ r ∧ r < 1000000) (hw : w < 4) (hd : M.2 (5 + x) 0 = nI d) (ho : Bx True 0 0 (oM M x r) Zo) (hVo : Vb Zo) :
    ∃ Z1 Yo rr, F_X5_wouldWin Z (nI x) (nI r) (nI w) = some (Z1, rr) ∧ F_X2_winnerBy Zo (nI d) (nI w) = some (Yo, rr) ∧ Bx True 0 0 M Z1 ∧ Vb Z1 := by
  have hs24 : M.1 4 ≤ 24 := hW.1.2.2
  have b7 : Z.1 1 7 = nI (M.1 4) := hB.1.1 7 (by decide)
  have hS := hB.2 x hx
  have k0 : Z.1 (39 + x) 0 = nI d := by rw [hS.1 0 (by decide) (fun _ => trivial)]; exact hd
  obtain ⟨c, ec⟩ : ∃ c, M.2 (5 + x) 2 = c := ⟨_, rfl⟩
  have k2 : Z.1 (39 + x) 2 = c := by rw [hS.1 2 (by decide) (fun _ => trivial)]; exact ec
  obtain ⟨Z12, e12⟩ : ∃ Z12, Z12 = si (si Z (39 + 24) 0 (nI d)) (39 + 24) 2 c := ⟨_, rfl⟩
  have hSt : St (M.1 1) (stM M) Z12 := by rw [e12]; exact St_si (St_si (Br_St hB.1 hW.1.1) (by decide) (by decide)) (by decide) (by decide)
  obtain ⟨Z14, e14, q1, q2, q3, q4, q5, q6⟩ := sr_all (ka := 24) (by decide) hSt hr.2
  have eo : ∀ a b, a ≠ 39 + 24 → a ≠ 64 + 24 → Z14.1 a b = Z.1 a b := fun a b h1 h2 => by rw [q2 a b (fun h9 => h1 h9.1) h2, e12, si_ne h1, si_ne h1]
  have hB14 : Bx True 0 0 M Z14 := ⟨Br_cong hB.1 rfl rfl rfl rfl (fun a b ha => eo a b (by omega) (by omega)), fun k hk => Sk_cong (hB.2 k hk) rfl rfl rfl rfl (fun j hj => by rw [eo _ _ (by omega) (by omega)]; exact (hB.2 k hk).1 j hj (fun _ => trivial)) (eo _ _ (by omega) (by omega)) (fun j => eo _ _ (by omega) (by omega))⟩
  have hV14 : Vb Z14 := by
    unfold Vb
    rw [q1, e12]
    exact hV
  have h18 := Bx_sw hW hr hx hB14 (by rw [q2 _ _ (by decide) (by decide), e12, si_row, if_neg (by decide), si_same, hd]) (by rw [q2 _ _ (by decide) (by decide), e12, si_same, ec]) q4 _ rfl q5 q6
  have hT : WFt (cm 0 0 (oM M x r)) := WFm_t (oM_W hW hr) (nn_0 20)
  have tx9 := tw_x (x := x) (by omega)
  have k18 : (swz x Z14).1 (39 + 24) 0 = nI d := by rw [swz_1, tx9.2.2.1, eo _ _ (by omega) (by omega), k0]
  have ho2 : Bx False 0 0 (oM M x r) Zo := ⟨ho.1, fun k hk => ⟨fun j hj h1 => (ho.2 k hk).1 j hj (fun _ => trivial), (ho.2 k hk).2⟩⟩
  obtain ⟨Z22, Yo, rr, w1, w2, w3, w4, w5⟩ := win2 (nI d) (nI w) hT (Bx_tl (show (oM M x r).1 4 ≤ 24 from hs24) h18) (Bx_tl (show (oM M x r).1 4 ≤ 24 from hs24) ho2) (Vb_swz (by omega) hV14) hVo
  refine ⟨swz x Z22, Yo, rr, ?_, w2, Bx_back hW hx hB14 w3 w4, Vb_swz (by omega) w5⟩
  unfold F_X5_wouldWin
  rw [calp_e (ckS b7 (by omega) hx), calp_e (ckR hr.1 hr.2), calp_e (ckW hw), gdt (nI_in (by omega) (by omega)), show ix (nI x) = x from nI_clamp (by omega)]
  rw [bv_e, bv_e, bv_e, bv_e]
  rw [k0, si_ne (show 39 + x ≠ 39 + 24 by omega), k2, ← e12, cal_e e14, bv_e, bv_e, k18, cal_e w1, bv_e]
theorem w_ok {M : TM} {Z : Mem} {pc sl : Int32} {d w : Nat} {res : Option (Mem × Int32)} (hW : WFm M) (hB : Br pc sl M Z) (hd : d < M.1 3) (hw : w < 4) (e : F_X2_winnerBy Z (nI d) (nI w) = res) : F_X5_winner Z (nI d) (nI w) = res := by
  have b5 : Z.1 1 5 = nI (M.1 3) := hB.1 5 (by decide)
  have h4 := hW.1.2.1
  unfold F_X5_winner
  rw [calp_e (ckD b5 (by omega) hd), calp_e (ckW hw), e]
  cases res with
  | none => rfl
  | some v => rfl
