/-! p31: the telling methods of the class. -/
def gM (M : TM) (i : Nat) (v : Int32) : TM := (fun a => if a = i then M.1 i + 1 else M.1 a, fun a => if a = i then (fun j => if j < M.1 i then M.2 i j else if j = M.1 i then v else 0) else M.2 a)
def rM (M : TM) (r : Nat → Int32) : TM := (fun a => if a = 4 then M.1 4 + 1 else M.1 a, fun a => if a = 5 + M.1 4 then r else M.2 a)
def sM (M : TM) (i j : Nat) (v : Int32) : TM := (M.1, fun a => if a = i then upd (M.2 i) j v else M.2 a)
theorem gM_e (Y : TS) (i : Nat) (v : Int32) : (tgr Y i v).1 = gM Y.1 i v := rfl
theorem rM_e (Y : TS) (r : Nat → Int32) : (trw Y r).1 = rM Y.1 r := rfl
theorem sM_e (Y : TS) (i j : Nat) (v : Int32) : (tsi Y i j v).1 = sM Y.1 i j v := rfl
theorem sto_cong {M M2 : TM} (h1 : M2.1 1 = M.1 1) (h2 : M2.2 2 = M.2 2) : sto M2 = sto M := by
  unfold sto
  rw [h1, h2]
theorem stM_cong {M M2 : TM} (h1 : M2.1 1 = M.1 1) (h2 : M2.2 2 = M.2 2) : stM M2 = stM M := by
  funext c
  unfold stM
  rw [h1, h2]
theorem lsM_cong {M M2 : TM} {k : Nat} (h1 : M2.1 1 = M.1 1) (h2 : M2.2 2 = M.2 2) (h3 : M2.2 (5 + k) 3 = M.2 (5 + k) 3) (h4 : M2.2 (5 + k) 1 = M.2 (5 + k) 1) : lsM M2 k = lsM M k := by
  unfold lsM
  rw [stM_cong h1 h2, h3, h4]
theorem isp_1 {Z : Mem} {p : Nat} (hp : p < 4) : F_X5_isParty Z (nI p) = some 1 := by
  unfold F_X5_isParty
  rw [brf (nI_pos (by omega)), brf (show ¬ (4 : Int32) ≤ nI p from nI_ge (b := 4) hp (by decide))]
theorem b_cand {pc sl : Int32} {M : TM} {Z : Mem} {p : Nat} (hB : Bx True pc sl M Z) (hn : M.1 1 < 6) (hs : M.1 4 = 0) (hg : M.2 2 (M.1 1) = 0) (hp : p < 4) : ∃ Z1, F_X5_candidate Z (nI p) = some (Z1, nI (M.1 1)) ∧ Z1.2 = Z.2 ∧ Bx True pc sl (gM M 1 (nI p)) Z1 := by
  have b2 : Z.1 1 2 = nI (M.1 1) := hB.1.1 2 (by decide)
  have b3 : Z.1 1 3 = nI (sto M) := hB.1.1 3 (by decide)
  generalize hnn : M.1 1 = n at hn b2 hg
  refine ⟨si (si (si (si Z 2 n (nI p)) 3 n 1) 1 2 (nI (n + 1))) 1 3 (nI (sto M + 1)), ?_, rfl, ⟨fun j hj => ?_, fun j hj => ?_, fun j hj => ?_, fun j hj => ?_⟩, fun k hk => ?_⟩
  · have e2 : F_X0_addCandidate Z (nI p) = some (si (si (si (si Z 2 n (nI p)) 3 n 1) 1 2 (nI (n + 1))) 1 3 (nI (sto M + 1)), nI n) := by
      unfold F_X0_addCandidate
      simp only [bv]
      rw [b2, gdt (nI_in (by omega) (by omega)), show ix (nI n) = n from nI_clamp (by omega), show vp_nar .boolean (1 : Int32) = 1 from rfl]
      have r1 : (si (si Z 2 n (nI p)) 3 n 1).1 1 2 = nI n := by rw [si_ne (by decide), si_ne (by decide)]; exact b2
      rw [r1, nI_1]
      have r2 : (si (si (si Z 2 n (nI p)) 3 n 1) 1 2 (nI (n + 1))).1 1 3 = nI (sto M) := by rw [si_row, if_neg (by decide), si_ne (by decide), si_ne (by decide)]; exact b3
      rw [r2, nI_1]
    unfold F_X5_candidate
    rw [calp_e (isp_1 hp), brf (by decide)]
    simp only [bv]
    rw [b2, brt (show nI n < 6 from nI_lt (b := 6) hn (by decide)), cal_e e2]
  · have eS : sto (gM M 1 (nI p)) = sto M + 1 := by
      show cnt (M.2 2) (M.1 1 + 1) = _
      rw [cnt, hnn, if_pos hg]
      unfold sto
      rw [hnn]
    rw [si_row]
    by_cases h3 : j = 3
    · subst h3
      rw [if_pos rfl]
      show _ = nI (sto (gM M 1 (nI p)))
      rw [eS]
    · rw [if_neg h3, si_row]
      by_cases h2 : j = 2
      · subst h2
        rw [if_pos rfl]
        show _ = nI (M.1 1 + 1)
        rw [hnn]
      · rw [if_neg h2, si_ne (by decide), si_ne (by decide), hB.1.1 j hj]
        unfold boxv
        rw [if_neg h2, if_neg h3, if_neg h2, if_neg h3]
        rfl
  · rw [si_ne (by decide), si_ne (by decide), si_ne (by decide), si_row]
    have hp2 := hB.1.2.1 j hj
    unfold prt at hp2 ⊢
    show _ = if j < M.1 1 + 1 then (if j < M.1 1 then M.2 1 j else if j = M.1 1 then nI p else 0) else 0
    rw [hnn] at hp2 ⊢
    by_cases h1 : j = n
    · subst h1
      rw [if_pos rfl, if_pos (by omega), if_neg (by omega), if_pos rfl]
    · rw [if_neg h1, hp2]
      by_cases h2 : j < n
      · rw [if_pos h2, if_pos (by omega), if_pos h2]
      · rw [if_neg h2, if_neg (by omega)]
  · rw [si_ne (by decide), si_ne (by decide), si_row, si_ne (by decide)]
    have hp2 := hB.1.2.2.1 j hj
    unfold stdv at hp2 ⊢
    show _ = if j < M.1 1 + 1 ∧ M.2 2 j = 0 then (1 : Int32) else 0
    rw [hnn] at hp2 ⊢
    by_cases h1 : j = n
    · subst h1
      rw [if_pos rfl, if_pos ⟨by omega, hg⟩]
    · rw [if_neg h1, hp2]
      by_cases h2 : j < n ∧ M.2 2 j = 0
      · rw [if_pos h2, if_pos ⟨by omega, h2.2⟩]
      · rw [if_neg h2, if_neg (fun h9 => h2 ⟨by omega, h9.2⟩)]
  · rw [si_ne (by decide), si_ne (by decide), si_ne (by decide), si_ne (by decide)]
    exact hB.1.2.2.2 j hj
  · have h9 : k < M.1 4 := hk
    omega
theorem b_dist {pc sl : Int32} {M : TM} {Z : Mem} {p : Nat} (hB : Bx True pc sl M Z) (hn : M.1 3 < 4) (hp : 1 ≤ p ∧ p < 6) : ∃ Z1, F_X5_district Z (nI p) = some (Z1, nI (M.1 3)) ∧ Z1.2 = Z.2 ∧ Bx True pc sl (gM M 3 (nI p)) Z1 := by
  have b2 : Z.1 1 5 = nI (M.1 3) := hB.1.1 5 (by decide)
  generalize hnn : M.1 3 = n at hn b2
  refine ⟨si (si Z 4 n (nI p)) 1 5 (nI (n + 1)), ?_, rfl, ⟨fun j hj => ?_, fun j hj => ?_, fun j hj => ?_, fun j hj => ?_⟩, fun k hk => ?_⟩
  · have e2 : F_X0_addDistrict Z (nI p) = some (si (si Z 4 n (nI p)) 1 5 (nI (n + 1)), nI n) := by
      unfold F_X0_addDistrict
      simp only [bv]
      rw [b2, gdt (nI_in (by omega) (by omega)), show ix (nI n) = n from nI_clamp (by omega)]
      have r1 : (si Z 4 n (nI p)).1 1 5 = nI n := by rw [si_ne (by decide)]; exact b2
      rw [r1, nI_1]
    unfold F_X5_district
    rw [brf (show ¬ nI p < 1 from nI_nlt (b := 1) hp.1 (by omega)), brt (show nI p ≤ 5 from nI_le (b := 5) (by omega) (by decide))]
    simp only [bv]
    rw [b2, brt (show nI n < 4 from nI_lt (b := 4) hn (by decide)), cal_e e2]
  · rw [si_row]
    by_cases h3 : j = 5
    · subst h3
      rw [if_pos rfl]
      show _ = nI (M.1 3 + 1)
      rw [hnn]
    · rw [if_neg h3, si_ne (by decide), hB.1.1 j hj]
      unfold boxv
      rw [if_neg h3, if_neg h3]
      rfl
  · rw [si_ne (by decide), si_ne (by decide)]
    exact hB.1.2.1 j hj
  · rw [si_ne (by decide), si_ne (by decide)]
    exact hB.1.2.2.1 j hj
  · rw [si_ne (by decide), si_row]
    have hp2 := hB.1.2.2.2 j hj
    unfold seav at hp2 ⊢
    show _ = if j < M.1 3 + 1 then (if j < M.1 3 then M.2 3 j else if j = M.1 3 then nI p else 0) else 0
    rw [hnn] at hp2 ⊢
    by_cases h1 : j = n
    · subst h1
      rw [if_pos rfl, if_pos (by omega), if_neg (by omega), if_pos rfl]
    · rw [if_neg h1, hp2]
      by_cases h2 : j < n
      · rw [if_pos h2, if_pos (by omega), if_pos h2]
      · rw [if_neg h2, if_neg (by omega)]
  · have h9 := hB.2 k hk
    unfold Sk at h9 ⊢
    have e9 : lsM (gM M 3 (nI p)) k = lsM M k := lsM_cong rfl rfl (by show (if 5 + k = 3 then _ else M.2 (5 + k)) 3 = _; rw [if_neg (by omega)]) (by show (if 5 + k = 3 then _ else M.2 (5 + k)) 1 = _; rw [if_neg (by omega)])
    rw [e9]
    refine ⟨fun j hj hr => ?_, ?_, fun j hj => ?_⟩
    · rw [si_ne (by omega), si_ne (by omega), h9.1 j hj hr]
      show _ = (if 5 + k = 3 then _ else M.2 (5 + k)) j
      rw [if_neg (by omega)]
    · rw [si_ne (by omega), si_ne (by omega)]
      exact h9.2.1
    · rw [si_ne (by omega), si_ne (by omega)]
      exact h9.2.2 j hj
theorem ck_lt {Z : Mem} {i n d : Nat} (h : Z.1 1 i = nI n) (hn : n < 2 ^ 31) (hd : d < n) : ¬ nI d < 0 ∧ nI d < Z.1 1 i := ⟨nI_pos (by omega), by rw [h]; exact nI_lt hd hn⟩
theorem ckD {Z : Mem} {n d : Nat} (h : Z.1 1 5 = nI n) (hn : n < 2 ^ 31) (hd : d < n) : F_X5_checkDistrict Z (nI d) = some () := by
  unfold F_X5_checkDistrict
  rw [brf (ck_lt h hn hd).1]
  simp only [bv]
  rw [brt (ck_lt h hn hd).2]
theorem ckC {Z : Mem} {n d : Nat} (h : Z.1 1 2 = nI n) (hn : n < 2 ^ 31) (hd : d < n) : F_X5_checkCandidate Z (nI d) = some () := by
  unfold F_X5_checkCandidate
  rw [brf (ck_lt h hn hd).1]
  simp only [bv]
  rw [brt (ck_lt h hn hd).2]
theorem ckS {Z : Mem} {n d : Nat} (h : Z.1 1 7 = nI n) (hn : n < 2 ^ 31) (hd : d < n) : F_X5_checkStack Z (nI d) = some () := by
  unfold F_X5_checkStack
  rw [brf (ck_lt h hn hd).1]
  simp only [bv]
  rw [brt (ck_lt h hn hd).2]
theorem ckR {Z : Mem} {x : Nat} (h : 1 ≤ x) (hx : x < 1000000) : F_X5_checkRanks Z (nI x) = some () := by
  unfold F_X5_checkRanks
  rw [brf (show ¬ nI x < 1 from nI_nlt (b := 1) h (by omega)), brt (show nI x ≤ 999999 from nI_le (b := 999999) (by omega) (by decide))]
theorem ckN {Z : Mem} {x : Nat} (h : 1 ≤ x) (hx : x ≤ 500) : F_X5_checkCount Z (nI x) = some () := by
  unfold F_X5_checkCount
  rw [brf (show ¬ nI x < 1 from nI_nlt (b := 1) h (by omega)), brt (show nI x ≤ 500 from nI_le (b := 500) (by omega) (by decide))]
theorem ckW {Z : Mem} {x : Nat} (hx : x < 4) : F_X5_checkWay Z (nI x) = some () := by
  unfold F_X5_checkWay
  rw [brf (nI_pos (by omega)), brt (show nI x ≤ 3 from nI_le (b := 3) (by omega) (by decide))]
theorem ckO {Z : Mem} (h : Z.1 1 9 = 0) : F_X5_checkOpen Z = some () := by
  unfold F_X5_checkOpen
  simp only [bv]
  rw [brt h]
theorem rM_s {M : TM} {r : Nat → Int32} {k : Nat} (h : k < M.1 4) : (rM M r).2 (5 + k) = M.2 (5 + k) := by
  show (if 5 + k = 5 + M.1 4 then r else M.2 (5 + k)) = _
  rw [if_neg (by omega)]
theorem rM_n {M : TM} {r : Nat → Int32} : (rM M r).2 (5 + M.1 4) = r := by
  show (if 5 + M.1 4 = 5 + M.1 4 then r else _) = _
  rw [if_pos rfl]
theorem rM_lo {M : TM} {r : Nat → Int32} {i : Nat} (h : i < 5) : (rM M r).2 i = M.2 i := by
  show (if i = 5 + M.1 4 then r else M.2 i) = _
  rw [if_neg (by omega)]
theorem b_cast {pc : Int32} {M : TM} {Z : Mem} {d x c : Nat} {r : Nat → Int32} (hB : Bx True pc 0 M Z) (hn : M.1 1 ≤ 6) (hs : M.1 4 < 24) (hd3 : M.1 3 ≤ 4) (hd : d < M.1 3) (hx : 1 ≤ x ∧ x < 1000000) (hc : 1 ≤ c ∧ c ≤ 500) (r0 : r 0 = nI d) (r1 : r 1 = nI x) (r2 : r 2 = nI c) (r3 : r 3 = spS (M.1 1) (nI x)) : ∃ Z1, F_X5_cast Z (nI d) (nI x) (nI c) = some (Z1, nI (M.1 4)) ∧ Z1.2 = Z.2 ∧ Bx True pc 0 (rM M r) Z1 := by
  have b7 : Z.1 1 7 = nI (M.1 4) := hB.1.1 7 (by decide)
  have b5 : Z.1 1 5 = nI (M.1 3) := hB.1.1 5 (by decide)
  have b9 : Z.1 1 9 = 0 := hB.1.1 9 (by decide)
  obtain ⟨ns, hns⟩ : ∃ ns, M.1 4 = ns := ⟨_, rfl⟩
  rw [hns] at hs b7
  have hS : St (M.1 1) (stM M) (si (si Z (39 + ns) 0 (nI d)) (39 + ns) 2 (nI c)) := St_si (St_si (Br_St hB.1 hn) (by omega) (by omega)) (by omega) (by omega)
  obtain ⟨Z1, e, q1, q2, q3, q4, q5, q6⟩ := sr_all (ka := ns) (by omega) hS hx.2
  have r7 : Z1.1 1 7 = nI ns := by rw [q2 _ _ (by omega) (by omega), si_ne (by omega), si_ne (by omega)]; exact b7
  have eS : sto (rM M r) = sto M := sto_cong rfl (rM_lo (by decide))
  have eo : ∀ a b, a < 39 → Z1.1 a b = Z.1 a b := fun a b ha => by rw [q2 _ _ (by omega) (by omega), si_ne (by omega), si_ne (by omega)]
  refine ⟨si Z1 1 7 (nI (ns + 1)), ?_, q1, ⟨fun j hj => ?_, fun j hj => ?_, fun j hj => ?_, fun j hj => ?_⟩, fun k hk => ?_⟩
  · have e2 : F_X0_addStack Z (nI d) (nI x) (nI c) = some (si Z1 1 7 (nI (ns + 1)), nI ns) := by
      unfold F_X0_addStack
      simp only [bv]
      rw [b7, gdt (nI_in (by omega) (by omega)), show ix (nI ns) = ns from nI_clamp (by omega), cal_e e, r7, nI_1]
    unfold F_X5_cast
    rw [calp_e (ckD b5 (by omega) hd), calp_e (ckR hx.1 hx.2), calp_e (ckN hc.1 hc.2), calp_e (ckO b9)]
    simp only [bv]
    rw [b7, brt (show nI ns < 24 from nI_lt (b := 24) hs (by decide)), cal_e e2, hns]
  · rw [si_row]
    by_cases h7 : j = 7
    · subst h7
      rw [if_pos rfl]
      show _ = nI (M.1 4 + 1)
      rw [hns]
    · rw [if_neg h7, eo _ _ (by decide), hB.1.1 j hj]
      unfold boxv
      rw [if_neg h7, if_neg h7, eS]
      rfl
  · rw [si_ne (by decide), eo _ _ (by decide), hB.1.2.1 j hj]
    unfold prt
    rw [rM_lo (by decide)]
    rfl
  · rw [si_ne (by decide), eo _ _ (by decide), hB.1.2.2.1 j hj]
    unfold stdv
    rw [rM_lo (by decide)]
    rfl
  · rw [si_ne (by decide), eo _ _ (by decide), hB.1.2.2.2 j hj]
    unfold seav
    rw [rM_lo (by decide)]
    rfl
  · have hk2 : k < M.1 4 + 1 := hk
    by_cases hkn : k = ns
    · subst hkn
      have eL : lsM (rM M r) k = lstOf (stM M) (spS (M.1 1) (nI x)) x := by
        unfold lsM
        rw [stM_cong (M := M) (M2 := rM M r) rfl (rM_lo (by decide)), ← hns, rM_n, r3, r1, show ix (nI x) = x from nI_clamp (by omega)]
      have eR : (rM M r).2 (5 + k) = r := by rw [← hns]; exact rM_n
      unfold Sk
      rw [eL, eR]
      refine ⟨fun j hj _ => ?_, ?_, fun j hj => ?_⟩
      · rw [si_ne (by omega)]
        have hj4 : j = 0 ∨ j = 1 ∨ j = 2 ∨ j = 3 := by omega
        rcases hj4 with rfl | rfl | rfl | rfl
        · rw [r0, q2 _ _ (by omega) (by omega), si_row, if_neg (by decide)]
          exact si_same
        · rw [r1]
          exact q3
        · rw [r2, q2 _ _ (by omega) (by omega)]
          exact si_same
        · rw [r3]
          exact q4
      · rw [si_ne (by omega)]
        exact q5
      · rw [si_ne (by omega)]
        exact q6 j hj
    · have hk3 : k < M.1 4 := by omega
      have h9 := hB.2 k hk3
      unfold Sk at h9 ⊢
      have eL : lsM (rM M r) k = lsM M k := lsM_cong rfl (rM_lo (by decide)) (by rw [rM_s hk3]) (by rw [rM_s hk3])
      rw [eL, rM_s hk3]
      have eo2 : ∀ b, Z1.1 (39 + k) b = Z.1 (39 + k) b := fun b => by rw [q2 _ _ (by omega) (by omega), si_ne (by omega), si_ne (by omega)]
      have eo3 : ∀ b, Z1.1 (64 + k) b = Z.1 (64 + k) b := fun b => by rw [q2 _ _ (by omega) (by omega), si_ne (by omega), si_ne (by omega)]
      refine ⟨fun j hj hr => ?_, ?_, fun j hj => ?_⟩
      · rw [si_ne (by omega), eo2]
        exact h9.1 j hj hr
      · rw [si_ne (by omega), eo2]
        exact h9.2.1
      · rw [si_ne (by omega), eo3]
        exact h9.2.2 j hj
