/-! p31: asking changes nothing; what is sealed stays. -/
noncomputable def dg (pc sl : Int32) (M : TM) : Int64 := ((F_X5_digest (cm pc sl M)).map (fun z => z.2)).getD 0
theorem dig1 {M : TM} {Z : Mem} {pc sl : Int32} (hW : WFm M) (hp : Nn pc 20) (hB : Bx True pc sl M Z) (hV : Vb Z) : ∃ Y, F_X5_digest Z = some (Y, dg pc sl M) ∧ Bx True pc sl M Y ∧ Vb Y := by
  obtain ⟨⟨Y1, r1⟩, ⟨Y2, r2⟩, e1, e2, hr, hA, -⟩ := sp_X5_digest (Z, cm pc sl M) (cm pc sl M) True noS noS Z (cm pc sl M) trivial ⟨WFm_t hW hp, ⟨⟨Bx_tl hW.1.2.2 hB, fun _ _ => rfl⟩, ⟨cm_tl True pc sl M, fun _ _ => rfl⟩⟩, ⟨hV, cm_Vb pc sl M⟩, fun a b h => h.elim, fun a b h => h.elim⟩
  have hr2 : r1 = r2 := hr
  subst hr2
  refine ⟨Y1, ?_, Bx_keep hB hA.2.1.1.1 hA.2.1.1.2, hA.2.2.1.1⟩
  unfold dg
  rw [e2]
  exact e1
theorem bxT {pc sl : Int32} {M : TM} {Z : Mem} {k w : Nat} (hB : Bx True pc sl M Z) (hk : k < M.1 4) (hw : w < 4) : Z.1 (39 + k) w = M.2 (5 + k) w := (hB.2 k hk).1 w hw (fun _ => trivial)
theorem xo_1 {Z : Mem} (h : Z.1 1 9 = 1) : F_xX5_checkOpen Z = some () := by
  unfold F_xX5_checkOpen
  rw [bv_e, h, brf (by decide)]
theorem xc_ok {pc : Int32} {M : TM} {Z : Mem} (hB : Bx True pc 1 M Z) (hd : 0 < M.1 3) (h4 : M.1 3 ≤ 4) : F_xX5_cast Z 0 1 1 = some () := by
  have b5 : Z.1 1 5 = nI (M.1 3) := hB.1.1 5 (by decide)
  have b9 : Z.1 1 9 = 1 := hB.1.1 9 (by decide)
  unfold F_xX5_cast
  rw [calp_e (show F_X5_checkDistrict Z 0 = some () from ckD (d := 0) b5 (by omega) hd), calp_e (show F_X5_checkRanks Z 1 = some () from ckR (x := 1) (by decide) (by decide)), calp_e (show F_X5_checkCount Z 1 = some () from ckN (x := 1) (by decide) (by decide))]
  exact xo_1 b9
theorem xr_ok {pc : Int32} {M : TM} {Z : Mem} {k c : Nat} (hB : Bx True pc 1 M Z) (hs : M.1 4 ≤ 24) (hk : k < M.1 4) (hc : 1 ≤ c ∧ c ≤ 500) : F_xX5_recount Z (nI k) (nI c) = some () := by
  have b7 : Z.1 1 7 = nI (M.1 4) := hB.1.1 7 (by decide)
  have b9 : Z.1 1 9 = 1 := hB.1.1 9 (by decide)
  unfold F_xX5_recount
  rw [calp_e (ckS b7 (by omega) hk), calp_e (ckN hc.1 hc.2)]
  exact xo_1 b9
theorem xm_ok {pc : Int32} {M : TM} {Z : Mem} {k d : Nat} (hB : Bx True pc 1 M Z) (hs : M.1 4 ≤ 24) (hk : k < M.1 4) (h4 : M.1 3 ≤ 4) (hd : d < M.1 3) : F_xX5_move Z (nI k) (nI d) = some () := by
  have b7 : Z.1 1 7 = nI (M.1 4) := hB.1.1 7 (by decide)
  have b5 : Z.1 1 5 = nI (M.1 3) := hB.1.1 5 (by decide)
  have b9 : Z.1 1 9 = 1 := hB.1.1 9 (by decide)
  unfold F_xX5_move
  rw [calp_e (ckS b7 (by omega) hk), calp_e (ckD b5 (by omega) hd)]
  exact xo_1 b9
theorem r500 {x : Nat} (h : x < 2 ^ 31) : nI x - nI x / 500 * 500 = nI (x % 500) := pk_rem (d := 500) h (by decide) (by decide)
theorem one_sub {d : Nat} (hd : d < 2) : (1 : Int32) - nI d = nI (1 - d) := by
  have h : d = 0 ∨ d = 1 := by omega
  rcases h with rfl | rfl <;> decide
theorem seal_ok {L m n ns : Nat} {xs : Nat → Int32} {Y : TS} (hL : L < 2 ^ 31) (hR : Rel m Y) (hm : m < 100000) (hz : Sz Y n 2 ns) (hs : 0 < ns) : ∃ Y1, F_L_isSealed L xs Y = some (Y1, 1) ∧ Rel (m + 1) Y1 ∧ Sz Y1 n 2 ns := by
  have hs24 : ns ≤ 24 := by rw [← hz.2.2]; exact hR.1.1.2.2
  obtain ⟨x, Y4, hx, e1, hR4, hS4⟩ := dr_ok (n := ns) (xs := xs) hL hR hm hs (by omega)
  have hz4 := Sm_Sz hS4 hz
  obtain ⟨w1, w2, w3, ⟨dd, ed, hdd⟩, w5⟩ := hR4
  have hs4 : Y4.1.1 4 ≤ 24 := w1.1.2.2
  have hx4 : x < Y4.1.1 4 := by rw [hz4.2.2]; exact hx
  obtain ⟨e2, hB8⟩ := b_seal (v := 1) w2 hs4 (Or.inl rfl) (Or.inr rfl)
  have hV8 : Vb (si Y4.2 1 9 1) := w3
  obtain ⟨e3, hB14⟩ := b_seal (v := 1) hB8 hs4 (Or.inr rfl) (Or.inr rfl)
  have hV14 : Vb (si (si Y4.2 1 9 1) 1 9 1) := w3
  obtain ⟨Z14, h14⟩ : ∃ Z14, Z14 = si (si Y4.2 1 9 1) 1 9 1 := ⟨_, rfl⟩
  rw [← h14] at e3 hB14 hV14
  obtain ⟨⟨d, ec0, hd⟩, _, ⟨c, ec, hc1, hc2⟩, _⟩ := w1.2.2.2.2 x hx4
  have hd2 : d < 2 := by have := hz4.2.1; omega
  have eo2 := b_ofS (w := 2) hB14 hs4 hx4 (Or.inr rfl)
  obtain ⟨Z23, e23, hB23, hV23⟩ := dig1 w1 (nn_0 20) hB14 hV14
  have exc := xc_ok hB23 (by rw [hz4.2.1]; decide) w1.1.2.1
  have exr := xr_ok (k := x) (c := 1 + c % 500) hB23 hs4 hx4 ⟨by omega, by have := Nat.mod_lt c (show 500 > 0 by decide); omega⟩
  have eo0 := b_ofS (w := 0) hB23 hs4 hx4 (Or.inl rfl)
  have exm := xm_ok (k := x) (d := 1 - d) hB23 hs4 hx4 w1.1.2.1 (by rw [hz4.2.1]; omega)
  obtain ⟨Z40, e40, hB40, hV40⟩ := dig1 w1 (nn_0 20) hB23 hV23
  obtain ⟨e47, hB47⟩ := b_seal (v := 0) hB40 hs4 (Or.inr rfl) (Or.inl rfl)
  refine ⟨tz Y4 (si Z40 1 9 0), ?_, ⟨w1, hB47, hV40, ⟨dd, ed, hdd⟩, w5⟩, hz4⟩
  unfold F_L_isSealed
  rw [bv_e, hz.2.2, calt_e e1, cal_e e2, bv_e, brt rfl]
  rw [show (tz Y4 (si Y4.2 1 9 1)).2 = si Y4.2 1 9 1 from rfl, cal_e e3, bv_e, brf (by decide)]
  rw [show (tz (tz Y4 (si Y4.2 1 9 1)) Z14) = tz Y4 Z14 from rfl, show (tz Y4 Z14).2 = Z14 from rfl]
  rw [calp_e (show F_X5_ofStack Z14 (nI x) 2 = some (Y4.1.2 (5 + x) 2) from eo2), cal_e e23, bv_e]
  rw [show (tz (tz Y4 Z14) Z23) = tz Y4 Z23 from rfl, show (tz Y4 Z23).2 = Z23 from rfl]
  rw [calp_e exc, bv_e, bv_e, ec, r500 (by omega), show (1 : Int32) + nI (c % 500) = nI (1 + c % 500) from nI_add 1 _, calp_e exr]
  rw [calp_e (show F_X5_ofStack Z23 (nI x) 0 = some (Y4.1.2 (5 + x) 0) from eo0), bv_e, ec0, one_sub hd2, calp_e exm, cal_e e40, bv_e, bv_e]
  rw [brt ((lg_cmp_eq _ _).mpr rfl)]
  rw [show (tz (tz Y4 Z23) Z40) = tz Y4 Z40 from rfl, show (tz Y4 Z40).2 = Z40 from rfl, cal_e e47, bv_e, brf (by decide)]
  rfl
