/-! p31: a lie, as the class and the law look for it. -/
theorem lsM_nd {M : TM} {k : Nat} (hW : WFm M) (hk : k < M.1 4) : (lsM M k).Nodup := by
  obtain ⟨_, ⟨y, ey, hy1, hy2⟩, _, es⟩ := hW.2.2.2.2 k hk
  unfold lsM lstOf
  split
  · rename_i h0
    rw [es, ey] at h0
    rw [ey, show ix (nI y) = y from nI_clamp (by omega)]
    exact lsd_nd _ ((spS_0 hy2).mp h0).2
  · exact List.nodup_nil
/-- ranks of a lie: one of the list put first -/
def lr (L : List Nat) (c : Nat) : Nat := ofD (c :: rmv c L)
theorem lr_mem {M : TM} {x c e : Nat} (hc : c ∈ lsM M x) (he : e ∈ c :: rmv c (lsM M x)) : e ∈ lsM M x := by
  rcases List.mem_cons.mp he with h | h
  · rw [h]; exact hc
  · exact ((rmv_mem _).mp h).1
theorem lr_len {M : TM} {x c : Nat} (hW : WFm M) (hx : x < M.1 4) (hc : c ∈ lsM M x) : (c :: rmv c (lsM M x)).length = (lsM M x).length := by
  obtain ⟨i, hi, e⟩ := List.getElem_of_mem hc
  have e2 : (lsM M x).getD i 0 = c := by rw [List.getD_eq_getElem?_getD, List.getElem?_eq_getElem hi]; exact e
  have h := (frm_get (lsM_nd hW hx) hi).1
  rw [e2] at h
  exact h
theorem lr_ok {M : TM} {x c : Nat} (hW : WFm M) (hx : x < M.1 4) (hc : c ∈ lsM M x) : (1 ≤ lr (lsM M x) c ∧ lr (lsM M x) c < 1000000) ∧ spS (M.1 1) (nI (lr (lsM M x) c)) = 0 ∧ lstOf (stM M) (spS (M.1 1) (nI (lr (lsM M x) c))) (lr (lsM M x) c) = c :: rmv c (lsM M x) := by
  have h6 := hW.1.1
  have hlen : (c :: rmv c (lsM M x)).length ≤ 6 := by rw [lr_len hW hx hc]; exact lsM_len M x
  have hin : ∀ e ∈ c :: rmv c (lsM M x), e < M.1 1 ∧ M.2 2 e = 0 := fun e he => lsM_mem (lr_mem hc he)
  have h9 : ∀ e ∈ c :: rmv c (lsM M x), e < 9 := fun e he => by have := (hin e he).1; omega
  have hlt : lr (lsM M x) c < 1000000 := Nat.lt_of_lt_of_le (ofD_lt _ h9) (Nat.pow_le_pow_right (n := 10) (by decide) hlen)
  have hd : dgs 6 (lr (lsM M x) c) = (c :: rmv c (lsM M x)).map (· + 1) := dgs_ofD _ 6 h9 hlen
  have hnd : (c :: rmv c (lsM M x)).Nodup := List.nodup_cons.mpr ⟨fun h => ((rmv_mem _).mp h).2 rfl, rmv_nd _ (lsM_nd hW hx)⟩
  have hs : spS (M.1 1) (nI (lr (lsM M x) c)) = 0 := by
    rw [spS_0 hlt, hd]
    refine ⟨fun d hd => ?_, ?_⟩
    · obtain ⟨e, he, rfl⟩ := List.mem_map.mp hd
      have := (hin e he).1
      exact ⟨by omega, by omega, by simp⟩
    · exact List.Pairwise.map _ (fun a b h h1 => h (Nat.succ.inj h1)) hnd
  refine ⟨⟨?_, hlt⟩, hs, ?_⟩
  · unfold lr
    rw [ofD]
    omega
  · rw [hs]
    unfold lstOf
    rw [if_pos rfl, hd]
    refine lsd_map _ (fun e he => ?_)
    exact decide_eq_true (hin e he)
/-- the best of a list, as the places are compared -/
noncomputable def lf (M : TM) (x d w : Nat) (L : List Nat) : List Nat → Int32 → Nat → Int32
  | [], b, _ => b
  | c :: l, b, p => if pv (wn (oM M x (lr L c)) d w) L < p then lf M x d w L l (nI c) (pv (wn (oM M x (lr L c)) d w) L) else lf M x d w L l b p
theorem swz_swz {x : Nat} {Z : Mem} (hx : x < 24) : swz x (swz x Z) = Z := by
  refine Prod.ext ?_ ?_
  · funext i
    show Z.1 (tw x (tw x i)) = Z.1 i
    rw [tw_tw hx]
  · funext i
    show Z.2 (tw x (tw x i)) = Z.2 i
    rw [tw_tw hx]
theorem tw_ne {x a : Nat} (hx : x < 24) (h1 : a ≠ 39 + 24) (h2 : a ≠ 64 + 24) : tw x a ≠ 39 + x ∧ tw x a ≠ 64 + x := by
  unfold tw
  constructor <;> (intro h3; revert h3; (repeat' split) <;> intro h3 <;> omega)
/-- the box is the same, where the spare one's rows alone differ -/
theorem Bx_spare {pc sl : Int32} {M : TM} {Z Z1 : Mem} (hs : M.1 4 ≤ 24) (hB : Bx True pc sl M Z) (h : ∀ a b, a ≠ 39 + 24 → a ≠ 64 + 24 → Z1.1 a b = Z.1 a b) : Bx True pc sl M Z1 :=
  ⟨Br_cong hB.1 rfl rfl rfl rfl (fun a b ha => h a b (by omega) (by omega)), fun k hk => Sk_cong (hB.2 k hk) rfl rfl rfl rfl (fun j hj => by rw [h _ _ (by omega) (by omega)]; exact (hB.2 k hk).1 j hj (fun _ => trivial)) (h _ _ (by omega) (by omega)) (fun j => h _ _ (by omega) (by omega))⟩
set_option maxHeartbeats 400000 in
theorem lie_loop {M : TM} {x d w : Nat} {L : List Nat} (hW : WFm M) (hx : x < M.1 4) (hd : M.2 (5 + x) 0 = nI d) (hL : lsM M x = L) : ∀ (r fuel i : Nat) (Z : Mem) (b : Int32) (p : Nat), i + r = L.length → r < fuel → Bx True 0 0 M (swz x Z) → Vb Z → Z.1 (39 + x) 0 = nI d → Z.1 (39 + x) 2 = M.2 (5 + x) 2 → p ≤ 6 →
    ∃ Z1, F_X5_lie_l82 (nI x) (nI w) (F_X5_lie_x82 (nI x)) fuel Z b (nI p) (nI i) = some (Z1, lf M x d w L (L.drop i) b p) ∧ Bx True 0 0 M Z1 ∧ Vb Z1 := by
  have hs24 : M.1 4 ≤ 24 := hW.1.2.2
  have hx24 : x < 24 := by omega
  have hl6 : L.length ≤ 6 := by rw [← hL]; exact lsM_len M x
  have eix : ix (nI x) = x := nI_clamp (by omega)
  obtain ⟨t1, t2, t3, t4⟩ := tw_x (x := x) hx24
  intro r
  induction r with
  | zero =>
    intro fuel i Z b p hi hf hB hV h0 h2 hp
    obtain ⟨f, rfl⟩ : ∃ f, fuel = f + 1 := ⟨fuel - 1, by omega⟩
    have h5 : Z.1 (39 + 24) 5 = nI L.length := by
      have := (hB.2 x hx).2.1
      rwa [swz_1, t1, hL] at this
    refine ⟨swz x Z, ?_, hB, Vb_swz hx24 hV⟩
    rw [F_X5_lie_l82, bv_e, h5, brt (nI_le (by omega) (by omega)), List.drop_eq_nil_of_le (by omega), lf]
    unfold F_X5_lie_x82
    rw [bv_e, eix]
  | succ r IH =>
    intro fuel i Z b p hi hf hB hV h0 h2 hp
    obtain ⟨f, rfl⟩ : ∃ f, fuel = f + 1 := ⟨fuel - 1, by omega⟩
    have hiL : i < L.length := by omega
    have hSx := hB.2 x hx
    have h5 : Z.1 (39 + 24) 5 = nI L.length := by
      have := hSx.2.1
      rwa [swz_1, t1, hL] at this
    have hl : ∀ j, j < L.length → Z.1 (64 + 24) j = nI (L.getD j 0) := by
      intro j hj
      have := hSx.2.2 j (by rw [hL]; exact hj)
      rwa [swz_1, t2, hL] at this
    have hsp : M.2 (5 + x) 3 = 0 := by
      have : 0 < (lsM M x).length := by rw [hL]; omega
      unfold lsM lstOf at this
      split at this
      · rename_i h; exact h
      · exact absurd this (by decide)
    have h3 : Z.1 (39 + 24) 3 = 0 := by
      have := hSx.1 3 (by decide) (fun _ => trivial)
      rwa [swz_1, t1, hsp] at this
    have h00 : Z.1 (39 + 24) 0 = nI d := by
      have := hSx.1 0 (by decide) (fun _ => trivial)
      rwa [swz_1, t1, hd] at this
    obtain ⟨c, ec⟩ : ∃ c, L.getD i 0 = c := ⟨_, rfl⟩
    have hc : c ∈ lsM M x := by rw [hL, ← ec]; exact getD_mem hiL
    obtain ⟨Z34, e34, w1, w2, w3, w4, w5⟩ := sl_ok (ka := x) (kb := 24) (p := i) (by omega) (by decide) (by omega) hl6 hiL h5 hl (Or.inl h3)
    obtain ⟨g1, g2⟩ := frm_get (p := i) (by rw [← hL]; exact lsM_nd hW hx) hiL
    obtain ⟨hr, hs0, hT⟩ := lr_ok hW hx hc
    rw [hL] at hr hs0 hT
    rw [ec] at g1 g2
    have eo : ∀ a b, a ≠ 39 + x → a ≠ 64 + x → Z34.1 a b = Z.1 a b := fun a b h1 h9 => w2 a b (fun h8 => h1 h8.1) h9
    have hB1 : Bx True 0 0 M (swz x Z34) := Bx_spare hs24 hB (fun a b h1 h9 => by rw [swz_1, swz_1]; exact eo _ _ (tw_ne hx24 h1 h9).1 (tw_ne hx24 h1 h9).2)
    have hV34 : Vb Z34 := by unfold Vb; rw [w1]; exact hV
    have k0 : Z34.1 (39 + x) 0 = nI d := by rw [w2 _ _ (by omega) (by omega)]; exact h0
    have k2 : Z34.1 (39 + x) 2 = M.2 (5 + x) 2 := by rw [w2 _ _ (by omega) (by omega)]; exact h2
    have hBo := Bx_sw hW hr hx hB1 (by rw [swz_1, t3, k0, hd]) (by rw [swz_1, t3, k2]) (by rw [swz_1, t3, w3, h3, hs0]) _ hT (by rw [swz_1, t3, w4, g1]) (fun j hj => by rw [swz_1, t4, w5 j (by omega), g2 j (by omega)])
    rw [swz_swz hx24] at hBo
    obtain ⟨Y, eY, y1, y2, y3⟩ := win1 d w (oM_W hW hr) hBo hV34
    have hBY : Bx True 0 0 M (swz x Y) := Bx_back hW hx hB1 y1 (fun j hj => by rw [swz_swz hx24]; exact y2 j hj)
    have l0 : Y.1 (39 + x) 0 = nI d := by rw [y2 _ (by omega)]; exact k0
    have l2 : Y.1 (39 + x) 2 = M.2 (5 + x) 2 := by rw [y2 _ (by omega)]; exact k2
    have l5 : Y.1 (39 + 24) 5 = nI L.length := by rw [y2 _ (by omega), eo _ _ (by omega) (by omega)]; exact h5
    have ll : ∀ j, j < L.length → Y.1 (64 + 24) j = nI (L.getD j 0) := fun j hj => by rw [y2 _ (by omega), eo _ _ (by omega) (by omega)]; exact hl j hj
    obtain ⟨q, eq⟩ : ∃ q, pv (wn (oM M x (lr L c)) d w) L = q := ⟨_, rfl⟩
    have hq6 : q ≤ 6 := by rw [← eq]; exact Nat.le_trans (pv_le _ _) hl6
    have epl : F_X3_placeOf Y 24 (wn (oM M x (lr L c)) d w) = some (nI q) := by rw [pc_ok _ l5 ll hl6, eq]
    rw [F_X5_lie_l82, bv_e, h5, brf (nI_ge (by omega) (by omega)), eix, cal_e e34, bv_e, eo _ _ (show 39 + 24 ≠ 39 + x by omega) (by omega), h00, cal_e eY, calp_e epl, drop_c hiL, ec, lf, eq]
    by_cases hqp : q < p
    · rw [brf (nI_ge hqp (by omega)), gdt (nI_in (by omega) (by omega)), show ix (nI i) = i from nI_clamp (by omega), bv_e, ll i hiL, ec, if_pos hqp, nI_1]
      exact IH f (i + 1) Y (nI c) q (by omega) (by omega) hBY y3 l0 l2 hq6
    · rw [brt (nI_le (by omega) (by omega)), if_neg hqp, nI_1]
      exact IH f (i + 1) Y b p (by omega) (by omega) hBY y3 l0 l2 hp
theorem lie_ok {M : TM} {Z : Mem} {x d w : Nat} (hW : WFm M) (hB : Bx True 0 0 M Z) (hV : Vb Z) (hx : x < M.1 4) (hw : w < 4) (hd : M.2 (5 + x) 0 = nI d) :
    ∃ Z1, F_X5_lie Z (nI x) (nI w) = some (Z1, lf M x d w (lsM M x) (lsM M x) (-1) (pv (wn M d w) (lsM M x))) ∧ Bx True 0 0 M Z1 ∧ Vb Z1 := by
  have hs24 : M.1 4 ≤ 24 := hW.1.2.2
  have hx24 : x < 24 := by omega
  have b7 : Z.1 1 7 = nI (M.1 4) := hB.1.1 7 (by decide)
  obtain ⟨t1, t2, t3, t4⟩ := tw_x (x := x) hx24
  have eix : ix (nI x) = x := nI_clamp (by omega)
  have hS := hB.2 x hx
  have k0 : Z.1 (39 + x) 0 = nI d := by rw [hS.1 0 (by decide) (fun _ => trivial)]; exact hd
  have k2 : Z.1 (39 + x) 2 = M.2 (5 + x) 2 := hS.1 2 (by decide) (fun _ => trivial)
  obtain ⟨Y, eY, y1, y2, y3⟩ := win1 d w hW (Bx_f hB) hV
  have hBY : Bx True 0 0 M Y := Bx_keep hB y1 y2
  have epl : F_X3_placeOf Y x (wn M d w) = some (nI (pv (wn M d w) (lsM M x))) := pc_ok _ (hBY.2 x hx).2.1 (hBY.2 x hx).2.2 (lsM_len M x)
  obtain ⟨Z18, e18⟩ : ∃ Z18, Z18 = si (si Y (39 + 24) 0 (nI d)) (39 + 24) 2 (M.2 (5 + x) 2) := ⟨_, rfl⟩
  have hB18 : Bx True 0 0 M Z18 := Bx_spare hs24 hBY (fun a b h1 h2 => by rw [e18, si_ne h1, si_ne h1])
  have hV18 : Vb Z18 := by rw [e18]; exact y3
  have l0 : Y.1 (39 + x) 0 = nI d := by rw [y2 _ (by omega)]; exact k0
  have l2 : Y.1 (39 + x) 2 = M.2 (5 + x) 2 := by rw [y2 _ (by omega)]; exact k2
  obtain ⟨Z1, e1, h1, h2⟩ := lie_loop (w := w) (L := lsM M x) hW hx hd rfl (lsM M x).length 100 0 (swz x Z18) (-1) (pv (wn M d w) (lsM M x)) (by omega) (by have := lsM_len M x; omega) (by rw [swz_swz hx24]; exact hB18) (Vb_swz hx24 hV18) (by rw [swz_1, t1, e18, si_row, if_neg (by decide)]; exact si_same) (by rw [swz_1, t1, e18]; exact si_same) (Nat.le_trans (pv_le _ _) (lsM_len M x))
  refine ⟨Z1, ?_, h1, h2⟩
  unfold F_X5_lie
  rw [calp_e (ckS b7 (by omega) hx), calp_e (ckW hw), gdt (nI_in (by omega) (by omega)), eix, bv_e, k0, cal_e eY, calp_e epl, bv_e, bv_e, bv_e, bv_e, bv_e, l0, si_ne (show 39 + x ≠ 39 + 24 by omega), l2, ← e18]
  exact e1
theorem lw_j {Y : TS} {B : TS → Int32 → Int32 → Int32 → Option Int32} {c : Nat} {l : List Nat} {v1 v2 : Int32} (hc : c < 9) (h : ofD (c :: l) < 2 ^ 31) : F_L_law_j256 Y (nI (ofD (c :: l))) B v1 v2 = B Y v1 v2 (nI (ofD l)) := by
  unfold F_L_law_j256
  rw [bv_e, q10 h, ofD_div hc]
theorem lw197 {Y : TS} {x d w : Nat} (K : TS → Int32 → Option Int32) (hW : WFm Y.1) (hx : x < Y.1.1 4) (hw : w < 4) (hd : d < Y.1.1 3) : ∀ (l : List Nat) (fuel : Nat) (b : Int32) (p : Nat), l.length < fuel → l.length ≤ 6 → (∀ c ∈ l, c ∈ lsM Y.1 x) → p ≤ 6 →
    F_L_law_l197 (nI x) (nI d) (nI w) (nI (ofD (lsM Y.1 x))) K fuel Y (nI p) b (nI (ofD l)) = K Y (lf Y.1 x d w (lsM Y.1 x) l b p) := by
  have h6 := hW.1.1
  have hs24 : Y.1.1 4 ≤ 24 := hW.1.2.2
  have hL6 := lsM_len Y.1 x
  have hL9 : ∀ c ∈ lsM Y.1 x, c < 9 := fun c hc => by have := (lsM_mem hc).1; omega
  intro l
  induction l with
  | nil =>
    intro fuel b p hf _ _ _
    obtain ⟨f, rfl⟩ : ∃ f, fuel = f + 1 := ⟨fuel - 1, by omega⟩
    rw [F_L_law_l197, brt (by decide), lf]
  | cons c l IH =>
    intro fuel b p hf hl hc hp
    obtain ⟨f, rfl⟩ : ∃ f, fuel = f + 1 := ⟨fuel - 1, by omega⟩
    rw [List.length_cons] at hf hl
    have hcL := hc c List.mem_cons_self
    have hc9 := hL9 c hcL
    have hlt : ofD (c :: l) < 2 ^ 31 := Nat.lt_of_lt_of_le (ofD_lt _ (fun e he => hL9 e (hc e he))) (Nat.le_trans (Nat.pow_le_pow_right (n := 10) (by decide) (show (c :: l).length ≤ 9 by rw [List.length_cons]; omega)) (by decide))
    obtain ⟨hr, hs0, hT⟩ := lr_ok hW hx hcL
    obtain ⟨Zo, eo, hBo, hVo⟩ := oth_ok (Y := Y) (x := x) hW hr (by omega)
    obtain ⟨Yo, eY, -⟩ := win1 d w (oM_W hW hr) (Bx_f hBo) hVo
    have eW := w_ok (oM_W hW hr) hBo.1 hd hw eY
    have ef : F_X6_firstOf (nI (ofD (lsM Y.1 x))) (nI c) = some (nI (lr (lsM Y.1 x) c)) := fo_ok hc9 (by omega) hL9
    obtain ⟨q, eq⟩ : ∃ q, pv (wn (oM Y.1 x (lr (lsM Y.1 x) c)) d w) (lsM Y.1 x) = q := ⟨_, rfl⟩
    have hq6 : q ≤ 6 := by rw [← eq]; exact Nat.le_trans (pv_le _ _) hL6
    have ep : F_X6_place (nI (ofD (lsM Y.1 x))) (wn (oM Y.1 x (lr (lsM Y.1 x) c)) d w) = some (nI q) := by rw [pv_ok (by omega) hL9, eq]
    have hc2 : ∀ e ∈ l, e ∈ lsM Y.1 x := fun e he => hc e (List.mem_cons_of_mem _ he)
    rw [F_L_law_l197, brf (nI_nle (by rw [ofD]; omega) hlt), bv_e, r10 hlt, ofD_mod hc9, bv_e, nI_pred, calp_e ef, cal_e eo, cal_e eW, calp_e ep, lw_j hc9 hlt, lw_j hc9 hlt, lf, eq]
    by_cases hqp : q < p
    · rw [brt (nI_lt hqp (by omega)), if_pos hqp]
      exact IH f (nI c) q (by omega) (by omega) hc2 hq6
    · rw [brf (nI_nlt (by omega) (by omega)), if_neg hqp]
      exact IH f b p (by omega) (by omega) hc2 hp
