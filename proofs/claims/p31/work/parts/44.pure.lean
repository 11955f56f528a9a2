/-! p31: withdraw, recount, move, seal, ofStack. -/
theorem sM_o {M : TM} {i j a : Nat} {v : Int32} (h : a ≠ i) : (sM M i j v).2 a = M.2 a := if_neg h
theorem sM_i {M : TM} {i j : Nat} {v : Int32} : (sM M i j v).2 i = upd (M.2 i) j v := if_pos rfl
theorem Br_cong {pc sl : Int32} {M M2 : TM} {Z Z1 : Mem} (h : Br pc sl M Z) (h0 : M2.1 = M.1) (h1 : M2.2 1 = M.2 1) (h2 : M2.2 2 = M.2 2) (h3 : M2.2 3 = M.2 3) (ho : ∀ a b, a < 5 → Z1.1 a b = Z.1 a b) : Br pc sl M2 Z1 := by
  have eS : sto M2 = sto M := sto_cong (by rw [h0]) h2
  refine ⟨fun j hj => ?_, fun j hj => ?_, fun j hj => ?_, fun j hj => ?_⟩
  · rw [ho _ _ (by decide), h.1 j hj]
    unfold boxv
    rw [eS, h0]
  · rw [ho _ _ (by decide), h.2.1 j hj]
    unfold prt
    rw [h0, h1]
  · rw [ho _ _ (by decide), h.2.2.1 j hj]
    unfold stdv
    rw [h0, h2]
  · rw [ho _ _ (by decide), h.2.2.2 j hj]
    unfold seav
    rw [h0, h3]
theorem Sk_cong {M M2 : TM} {Z Z1 : Mem} {k : Nat} (h : Sk True M k Z) (h0 : M2.1 1 = M.1 1) (h2 : M2.2 2 = M.2 2) (h3 : M2.2 (5 + k) 3 = M.2 (5 + k) 3) (h1 : M2.2 (5 + k) 1 = M.2 (5 + k) 1) (ha : ∀ j, j < 4 → Z1.1 (39 + k) j = M2.2 (5 + k) j) (hb : Z1.1 (39 + k) 5 = Z.1 (39 + k) 5) (hc : ∀ j, Z1.1 (64 + k) j = Z.1 (64 + k) j) : Sk True M2 k Z1 := by
  unfold Sk at h ⊢
  rw [lsM_cong h0 h2 h3 h1]
  refine ⟨fun j hj _ => ha j hj, by rw [hb]; exact h.2.1, fun j hj => by rw [hc]; exact h.2.2 j hj⟩
theorem Bx_set {pc sl : Int32} {M : TM} {Z : Mem} {k j0 : Nat} {v : Int32} (hB : Bx True pc sl M Z) (hs : M.1 4 ≤ 24) (hk : k < M.1 4) (hj : j0 = 0 ∨ j0 = 2) : Bx True pc sl (sM M (5 + k) j0 v) (si Z (39 + k) j0 v) := by
  refine ⟨Br_cong hB.1 rfl (sM_o (by omega)) (sM_o (by omega)) (sM_o (by omega)) (fun a b ha => si_ne (by omega)), fun k2 hk2 => ?_⟩
  have hk3 : k2 < M.1 4 := hk2
  by_cases h : k2 = k
  · subst h
    have h9 := hB.2 k2 hk3
    refine Sk_cong h9 rfl (sM_o (by omega)) (by rw [sM_i, pk_un (by omega)]) (by rw [sM_i, pk_un (by omega)]) (fun j hj4 => ?_) (by rw [si_row, if_neg (by omega)]) (fun j => by rw [si_ne (by omega)])
    rw [si_row, sM_i]
    by_cases hj0 : j = j0
    · subst hj0
      rw [if_pos rfl, pk_us]
    · rw [if_neg hj0, pk_un hj0]
      exact h9.1 j hj4 (fun _ => trivial)
  · have h9 := hB.2 k2 hk3
    have e : (sM M (5 + k) j0 v).2 (5 + k2) = M.2 (5 + k2) := sM_o (by omega)
    refine Sk_cong h9 rfl (sM_o (by omega)) (by rw [e]) (by rw [e]) (fun j hj4 => ?_) (by rw [si_ne (by omega)]) (fun j => by rw [si_ne (by omega)])
    rw [si_ne (by omega), e]
    exact h9.1 j hj4 (fun _ => trivial)
theorem b_reco {pc : Int32} {M : TM} {Z : Mem} {k c : Nat} (hB : Bx True pc 0 M Z) (hs : M.1 4 ≤ 24) (hk : k < M.1 4) (hc : 1 ≤ c ∧ c ≤ 500) : F_X5_recount Z (nI k) (nI c) = some (si Z (39 + k) 2 (nI c), M.2 (5 + k) 2) := by
  have b7 : Z.1 1 7 = nI (M.1 4) := hB.1.1 7 (by decide)
  have b9 : Z.1 1 9 = 0 := hB.1.1 9 (by decide)
  unfold F_X5_recount
  rw [calp_e (ckS b7 (by omega) hk), calp_e (ckN hc.1 hc.2), calp_e (ckO b9), gdt (nI_in (by omega) (by omega)), show ix (nI k) = k from nI_clamp (by omega)]
  simp only [bv]
  rw [(hB.2 k hk).1 2 (by decide) (fun _ => trivial)]
theorem b_move {pc : Int32} {M : TM} {Z : Mem} {k d : Nat} (hB : Bx True pc 0 M Z) (hs : M.1 4 ≤ 24) (hk : k < M.1 4) (hd3 : M.1 3 ≤ 4) (hd : d < M.1 3) : F_X5_move Z (nI k) (nI d) = some (si Z (39 + k) 0 (nI d), M.2 (5 + k) 0) := by
  have b7 : Z.1 1 7 = nI (M.1 4) := hB.1.1 7 (by decide)
  have b5 : Z.1 1 5 = nI (M.1 3) := hB.1.1 5 (by decide)
  have b9 : Z.1 1 9 = 0 := hB.1.1 9 (by decide)
  unfold F_X5_move
  rw [calp_e (ckS b7 (by omega) hk), calp_e (ckD b5 (by omega) hd), calp_e (ckO b9), gdt (nI_in (by omega) (by omega)), show ix (nI k) = k from nI_clamp (by omega)]
  simp only [bv]
  rw [(hB.2 k hk).1 0 (by decide) (fun _ => trivial)]
theorem Br_1 {pc sl pc2 sl2 : Int32} {M : TM} {Z Z1 : Mem} (h : Br pc sl M Z) (ho : ∀ a b, a < 5 → a ≠ 1 → Z1.1 a b = Z.1 a b) (h1 : ∀ j, j < 11 → Z1.1 1 j = boxv pc2 sl2 M j) : Br pc2 sl2 M Z1 :=
  ⟨h1, fun j hj => by rw [ho _ _ (by decide) (by decide)]; exact h.2.1 j hj, fun j hj => by rw [ho _ _ (by decide) (by decide)]; exact h.2.2.1 j hj, fun j hj => by rw [ho _ _ (by decide) (by decide)]; exact h.2.2.2 j hj⟩
theorem Bx_1 {pc sl pc2 sl2 v : Int32} {M : TM} {Z : Mem} {i : Nat} (h : Bx True pc sl M Z) (hi : ∀ j, j < 11 → (si Z 1 i v).1 1 j = boxv pc2 sl2 M j) (hs : M.1 4 ≤ 24) : Bx True pc2 sl2 M (si Z 1 i v) := by
  refine ⟨Br_1 h.1 (fun a b _ ha => si_ne ha) hi, fun k hk => ?_⟩
  have h9 := h.2 k hk
  exact Sk_cong h9 rfl rfl rfl rfl (fun j hj => by rw [si_ne (by omega)]; exact h9.1 j hj (fun _ => trivial)) (by rw [si_ne (by omega)]) (fun j => by rw [si_ne (by omega)])
theorem b_seal {pc sl v : Int32} {M : TM} {Z : Mem} (hB : Bx True pc sl M Z) (hs : M.1 4 ≤ 24) (h1 : sl = 0 ∨ sl = 1) (hv : v = 0 ∨ v = 1) : F_X5_seal Z v = some (si Z 1 9 v, sl) ∧ Bx True pc v M (si Z 1 9 v) := by
  have b9 : Z.1 1 9 = sl := hB.1.1 9 (by decide)
  refine ⟨?_, Bx_1 hB (fun j hj => ?_) hs⟩
  · unfold F_X5_seal
    simp only [bv]
    rw [b9, gdt hv, gdt h1]
  · rw [si_row]
    by_cases h : j = 9
    · subst h
      rw [if_pos rfl]
      rfl
    · rw [if_neg h, hB.1.1 j hj]
      unfold boxv
      rw [if_neg h, if_neg h]
theorem Bx_pc {pc sl v : Int32} {M : TM} {Z : Mem} (hB : Bx True pc sl M Z) (hs : M.1 4 ≤ 24) : Bx True v sl M (si Z 1 8 v) := by
  refine Bx_1 hB (fun j hj => ?_) hs
  rw [si_row]
  by_cases h : j = 8
  · subst h
    rw [if_pos rfl]
    rfl
  · rw [if_neg h, hB.1.1 j hj]
    unfold boxv
    rw [if_neg h, if_neg h]
theorem b_ofS {pc sl : Int32} {M : TM} {Z : Mem} {k w : Nat} (hB : Bx True pc sl M Z) (hs : M.1 4 ≤ 24) (hk : k < M.1 4) (hw : w = 0 ∨ w = 2) : F_X5_ofStack Z (nI k) (nI w) = some (M.2 (5 + k) w) := by
  have b7 : Z.1 1 7 = nI (M.1 4) := hB.1.1 7 (by decide)
  have ew : F_X5_checkWhat Z (nI w) 5 = some () := by
    unfold F_X5_checkWhat
    rw [brf (nI_pos (by omega)), brt (show nI w ≤ 5 from nI_le (b := 5) (by omega) (by decide))]
  have ef : F_X3_figure Z k (nI w) = some (M.2 (5 + k) w) := by
    unfold F_X3_figure
    simp only [bv]
    rcases hw with rfl | rfl
    · rw [brt (by decide), (hB.2 k hk).1 0 (by decide) (fun _ => trivial)]
    · rw [brf (by decide), brf (by decide), brt (by decide), (hB.2 k hk).1 2 (by decide) (fun _ => trivial)]
  unfold F_X5_ofStack
  rw [calp_e (ckS b7 (by omega) hk), calp_e ew, gdt (nI_in (by omega) (by omega)), show ix (nI k) = k from nI_clamp (by omega), calp_e ef]
/-- a candidate withdraws: the lists are made anew, one by one -/
theorem tk_loop (pc sl : Int32) (M : TM) (hn : M.1 1 ≤ 6) (hs : M.1 4 ≤ 24) (hr : ∀ k, k < M.1 4 → ∃ x, M.2 (5 + k) 1 = nI x ∧ x < 1000000) : ∀ (r fuel j : Nat) (Z : Mem), j + r = M.1 4 → r < fuel → Br pc sl M Z → (∀ k, k < M.1 4 → ∀ b, b < 4 → Z.1 (39 + k) b = M.2 (5 + k) b) → (∀ k, k < j → Sk True M k Z) →
    ∃ Z1, F_X0_takeOff_l19 F_X0_takeOff_x19 fuel Z (nI j) = some (Z1, ()) ∧ Z1.2 = Z.2 ∧ Bx True pc sl M Z1 := by
  intro r
  induction r with
  | zero =>
    intro fuel j Z hj hf hB h4 hS
    obtain ⟨f, rfl⟩ : ∃ f, fuel = f + 1 := ⟨fuel - 1, by omega⟩
    rw [F_X0_takeOff_l19]
    simp only [bv]
    have b7 : Z.1 1 7 = nI (M.1 4) := hB.1 7 (by decide)
    rw [b7, brt (nI_le (by omega) (by omega))]
    exact ⟨Z, rfl, rfl, hB, fun k hk => hS k (by omega)⟩
  | succ r IH =>
    intro fuel j Z hj hf hB h4 hS
    obtain ⟨f, rfl⟩ : ∃ f, fuel = f + 1 := ⟨fuel - 1, by omega⟩
    rw [F_X0_takeOff_l19]
    simp only [bv]
    have b7 : Z.1 1 7 = nI (M.1 4) := hB.1 7 (by decide)
    obtain ⟨x, ex, hx⟩ := hr j (by omega)
    obtain ⟨Z1, e, q1, q2, q3, q4, q5⟩ := ml_all (ka := j) (by omega) (Br_St hB hn) (show x < 2 ^ 31 by omega) (by rw [h4 j (by omega) 1 (by decide), ex])
    rw [b7, brf (nI_ge (by omega) (by omega)), gdt (nI_in (by omega) (by omega)), show ix (nI j) = j from nI_clamp (by omega), cal_e e, nI_1]
    have c4 : ∀ k, k < M.1 4 → ∀ b, b < 4 → Z1.1 (39 + k) b = M.2 (5 + k) b := fun k hk b hb => by rw [q2 _ _ (by omega) (by omega)]; exact h4 k hk b hb
    obtain ⟨Z2, e2, w1, w2⟩ := IH f (j + 1) Z1 (by omega) (by omega) (Br_cong hB rfl rfl rfl rfl (fun a b ha => q2 _ _ (by omega) (by omega))) c4 (fun k hk => by
      by_cases hkj : k = j
      · subst hkj
        have eL : lsM M k = lstOf (stM M) (Z.1 (39 + k) 3) x := by
          unfold lsM
          rw [ex, show ix (nI x) = x from nI_clamp (by omega), h4 k (by omega) 3 (by decide)]
        unfold Sk
        rw [eL]
        refine ⟨fun j hj _ => c4 k (by omega) j hj, by rw [q3, Nat.zero_add], fun j hj => ?_⟩
        have := q5 j hj
        rwa [Nat.zero_add] at this
      · have h9 := hS k (by omega)
        exact Sk_cong h9 rfl rfl rfl rfl (c4 k (by omega)) (q2 _ _ (by omega) (by omega)) (fun j => q2 _ _ (by omega) (by omega)))
    exact ⟨Z2, e2, by rw [w1, q1], w2⟩
theorem b_with {pc sl : Int32} {M : TM} {Z : Mem} {c : Nat} (hB : Bx True pc sl M Z) (hn : M.1 1 ≤ 6) (hs : M.1 4 ≤ 24) (hr : ∀ k, k < M.1 4 → ∃ x, M.2 (5 + k) 1 = nI x ∧ x < 1000000) (hc : c < M.1 1) (hg : M.2 2 c = 0) : ∃ Z1, F_X5_withdraw Z (nI c) = some (Z1, nI (sto (sM M 2 c 1))) ∧ Z1.2 = Z.2 ∧ Bx True pc sl (sM M 2 c 1) Z1 := by
  have b2 : Z.1 1 2 = nI (M.1 1) := hB.1.1 2 (by decide)
  have b3 : Z.1 1 3 = nI (sto M) := hB.1.1 3 (by decide)
  have eS : sto M = sto (sM M 2 c 1) + 1 := by
    have h := cnt_off (f := M.2 2) (c := c) (v := 1) (by decide) hg (M.1 1)
    rw [if_pos hc] at h
    unfold sto
    rw [sM_i]
    exact h.symm
  have hc1 : Z.1 3 c = 1 := by
    rw [hB.1.2.2.1 c (by omega)]
    unfold stdv
    rw [if_pos ⟨hc, hg⟩]
  have hB5 : Br pc sl (sM M 2 c 1) (si (si Z 3 c 0) 1 3 (nI (sto (sM M 2 c 1)))) := by
    refine ⟨fun j hj => ?_, fun j hj => ?_, fun j hj => ?_, fun j hj => ?_⟩
    · rw [si_row]
      by_cases h : j = 3
      · subst h
        rw [if_pos rfl]
        rfl
      · rw [if_neg h, si_ne (by decide), hB.1.1 j hj]
        unfold boxv
        rw [if_neg h, if_neg h]
        rfl
    · rw [si_ne (by decide), si_ne (by decide), hB.1.2.1 j hj]
      unfold prt
      rw [sM_o (by decide)]
      rfl
    · rw [si_ne (by decide), si_row, hB.1.2.2.1 j hj]
      unfold stdv
      rw [sM_i]
      show _ = if j < M.1 1 ∧ upd (M.2 2) c 1 j = 0 then (1 : Int32) else 0
      by_cases h : j = c
      · subst h
        rw [if_pos rfl, pk_us, if_neg (fun h9 => absurd h9.2 (by decide))]
      · rw [if_neg h, pk_un h]
    · rw [si_ne (by decide), si_ne (by decide), hB.1.2.2.2 j hj]
      unfold seav
      rw [sM_o (by decide)]
      rfl
  obtain ⟨Z1, e, w1, w2⟩ := tk_loop pc sl (sM M 2 c 1) hn hs (fun k hk => by rw [sM_o (by omega)]; exact hr k hk) (M.1 4) 100 0 _ (by show 0 + M.1 4 = M.1 4; omega) (by omega) hB5 (fun k hk b hb => by
    rw [si_ne (by omega), si_ne (by omega), sM_o (by omega)]
    exact (hB.2 k hk).1 b hb (fun _ => trivial)) (fun k hk => absurd hk (by omega))
  refine ⟨Z1, ?_, w1, w2⟩
  have et : F_X0_takeOff Z (nI c) = some (Z1, ()) := by
    unfold F_X0_takeOff
    rw [gdt (nI_in (by omega) (by omega)), show ix (nI c) = c from nI_clamp (by omega)]
    simp only [bv]
    rw [show vp_nar .boolean (0 : Int32) = 0 from rfl, si_ne (by decide), b3, eS, nI_pred]
    exact e
  unfold F_X5_withdraw
  rw [calp_e (ckC b2 (by omega) hc), gdt (nI_in (by omega) (by omega)), show ix (nI c) = c from nI_clamp (by omega)]
  simp only [bv]
  rw [hc1, brf (by decide), cal_e et]
  have b4 : Z1.1 1 3 = nI (sto (sM M 2 c 1)) := w2.1.1 3 (by decide)
  rw [b4]
