/-! p31: the law's own helpers: draws, lists as digits, places. -/
/-- what is told and the box say the same; m: no more draws than that -/
def Rel (m : Nat) (Y : TS) : Prop := WFm Y.1 ∧ Bx True 0 0 Y.1 Y.2 ∧ Vb Y.2 ∧ (∃ d, Y.1.2 0 2 = nI d ∧ d ≤ m) ∧ Y.1.2 0 8 = 0
/-- the same but the number of draws -/
def Sm (Y Y1 : TS) : Prop := Y1.1.1 = Y.1.1 ∧ (∀ i, i ≠ 0 → Y1.1.2 i = Y.1.2 i) ∧ Y1.2 = Y.2
theorem Sm.rfl {Y : TS} : Sm Y Y := ⟨Eq.refl _, fun _ _ => Eq.refl _, Eq.refl _⟩
theorem Sm.trans {Y Y1 Y2 : TS} (h : Sm Y Y1) (h2 : Sm Y1 Y2) : Sm Y Y2 := ⟨h2.1.trans h.1, fun i hi => (h2.2.1 i hi).trans (h.2.1 i hi), h2.2.2.trans h.2.2⟩
theorem WFm_cong {M M2 : TM} (h0 : M2.1 = M.1) (h : ∀ i, i ≠ 0 → M2.2 i = M.2 i) (hW : WFm M) : WFm M2 := by
  unfold WFm at hW ⊢
  rw [h0, h 1 (by decide), h 2 (by decide), h 3 (by decide)]
  refine ⟨hW.1, hW.2.1, hW.2.2.1, hW.2.2.2.1, fun k hk => ?_⟩
  rw [h (5 + k) (by omega)]
  exact hW.2.2.2.2 k hk
theorem Bx_cong {rk : Prop} {pc sl : Int32} {M M2 : TM} {Z : Mem} (h0 : M2.1 = M.1) (h : ∀ i, i ≠ 0 → M2.2 i = M.2 i) (hB : Bx rk pc sl M Z) : Bx rk pc sl M2 Z := by
  refine ⟨Br_cong hB.1 h0 (h 1 (by decide)) (h 2 (by decide)) (h 3 (by decide)) (fun _ _ _ => rfl), fun k hk => ?_⟩
  rw [h0] at hk
  have h9 := hB.2 k hk
  unfold Sk at h9 ⊢
  rw [lsM_cong (M := M) (M2 := M2) (by rw [h0]) (h 2 (by decide)) (by rw [h (5 + k) (by omega)]) (by rw [h (5 + k) (by omega)]), h (5 + k) (by omega)]
  exact h9
theorem Rel_mono {m n : Nat} {Y : TS} (h : Rel m Y) (hn : m ≤ n) : Rel n Y := by
  obtain ⟨h1, h2, h3, ⟨d, e, hd⟩, h4⟩ := h
  exact ⟨h1, h2, h3, ⟨d, e, by omega⟩, h4⟩
theorem below_ok (v : Int32) {n : Nat} (h0 : 0 < n) (hn : n < 2 ^ 31) : ∃ r, r < n ∧ F_L_below v (nI n) = some (nI r) := by
  unfold F_L_below
  simp only [bv]
  obtain ⟨j, hj, e⟩ := pk_andE v (m := 2147483647) 31 (by decide)
  rw [e, gdt (nI_ne0 h0 hn), pk_rem hj h0 hn]
  exact ⟨j % n, Nat.mod_lt _ h0, rfl⟩
theorem cell_ok {L k : Nat} {xs : Nat → Int32} (hL : L < 2 ^ 31) (hk : k < 2 ^ 31) : ∃ r, F_L_cell L xs (nI k) = some r := by
  unfold F_L_cell
  simp only [bv]
  by_cases h : L ≤ k
  · rw [brt (nI_le h hk)]
    exact ⟨_, rfl⟩
  · rw [brf (nI_ge (by omega) hL), gdt (nI_in (by omega) hL)]
    exact ⟨_, rfl⟩
theorem dr_ok {L m n : Nat} {xs : Nat → Int32} {Y : TS} (hL : L < 2 ^ 31) (h : Rel m Y) (hm : m < 100000) (h0 : 0 < n) (hn : n < 2 ^ 31) : ∃ r Y1, r < n ∧ F_X6_draw L xs Y (nI n) = some (Y1, nI r) ∧ Rel (m + 1) Y1 ∧ Sm Y Y1 := by
  obtain ⟨h1, h2, h3, ⟨d, e, hd⟩, h4⟩ := h
  unfold F_X6_draw
  simp only [bv]
  rw [e, show nI d - nI d / 24 * 24 = nI (d % 24) from pk_rem (d := 24) (by omega) (by decide) (by decide)]
  obtain ⟨a, ea⟩ := cell_ok (xs := xs) hL (show d % 24 < 2 ^ 31 by omega)
  rw [calp_e ea]
  obtain ⟨r, hr, er⟩ := below_ok (a >>> ((nI d / 24 - nI d / 24 / 8 * 8) &&& 31) + 421 * nI d) h0 hn
  rw [calp_e er, nI_1]
  refine ⟨r, tsi Y 0 2 (nI (d + 1)), hr, rfl, ⟨?_, ?_, h3, ⟨d + 1, ?_, by omega⟩, ?_⟩, rfl, fun i hi => if_neg hi, rfl⟩
  · exact WFm_cong (M := Y.1) rfl (fun i hi => if_neg hi) h1
  · exact Bx_cong (M := Y.1) rfl (fun i hi => if_neg hi) h2
  · show (if (0 : Nat) = 0 then upd (Y.1.2 0) 2 (nI (d + 1)) else Y.1.2 0) 2 = _
    rw [if_pos rfl, pk_us]
  · show (if (0 : Nat) = 0 then upd (Y.1.2 0) 2 (nI (d + 1)) else Y.1.2 0) 8 = _
    rw [if_pos rfl, pk_un (by decide)]
    exact h4
theorem st_loop (Y : TS) (hn : Y.1.1 1 ≤ 6) : ∀ (r fuel k : Nat), k + r = Y.1.1 1 → r < fuel → F_X6_standing_l4 Y F_X6_standing_x4 fuel (nI (cnt (Y.1.2 2) k)) (nI k) = some (nI (sto Y.1)) := by
  intro r
  induction r with
  | zero =>
    intro fuel k hk hf
    obtain ⟨f, rfl⟩ : ∃ f, fuel = f + 1 := ⟨fuel - 1, by omega⟩
    rw [F_X6_standing_l4]
    simp only [bv]
    rw [brt (nI_le (by omega) (by omega))]
    unfold sto
    rw [← hk]
    rfl
  | succ r IH =>
    intro fuel k hk hf
    obtain ⟨f, rfl⟩ : ∃ f, fuel = f + 1 := ⟨fuel - 1, by omega⟩
    rw [F_X6_standing_l4]
    simp only [bv]
    rw [brf (nI_ge (by omega) (by omega)), gdt (nI_in (by omega) (by omega)), show ix (nI k) = k from nI_clamp (by omega)]
    have h := IH f (k + 1) (by omega) (by omega)
    rw [cnt] at h
    by_cases hg : Y.1.2 2 k = 0
    · rw [if_pos hg] at h
      rw [brt hg, nI_1, nI_1]
      exact h
    · rw [if_neg hg] at h
      rw [brf hg, show nI (cnt (Y.1.2 2) k) + 0 = nI (cnt (Y.1.2 2) k + 0) from nI_add _ 0, nI_1]
      exact h
theorem st_ok {L : Nat} {xs : Nat → Int32} {Y : TS} (hn : Y.1.1 1 ≤ 6) : F_X6_standing L xs Y = some (nI (sto Y.1)) := st_loop Y hn (Y.1.1 1) 100 0 (by omega) (by omega)
/-- a list as digits, the first is the lowest -/
def ofD : List Nat → Nat
  | [] => 0
  | c :: l => c + 1 + 10 * ofD l
theorem ofD_mod {c : Nat} {l : List Nat} (h : c < 9) : ofD (c :: l) % 10 = c + 1 := by rw [ofD]; omega
theorem ofD_div {c : Nat} {l : List Nat} (h : c < 9) : ofD (c :: l) / 10 = ofD l := by rw [ofD]; omega
theorem ofD_lt : ∀ (l : List Nat), (∀ c ∈ l, c < 9) → ofD l < 10 ^ l.length := by
  intro l
  induction l with
  | nil => intro _; exact Nat.one_pos
  | cons c l IH =>
    intro h
    have h1 := IH (fun d hd => h d (List.mem_cons_of_mem _ hd))
    have h2 := h c List.mem_cons_self
    rw [ofD, List.length_cons, Nat.pow_succ]
    omega
theorem dgs_ofD : ∀ (l : List Nat) (f : Nat), (∀ c ∈ l, c < 9) → l.length ≤ f → dgs f (ofD l) = l.map (· + 1) := by
  intro l
  induction l with
  | nil => intro f _ _; exact dgs_0 f
  | cons c l IH =>
    intro f h hf
    rw [List.length_cons] at hf
    obtain ⟨g, rfl⟩ : ∃ g, f = g + 1 := ⟨f - 1, by omega⟩
    have hc := h c List.mem_cons_self
    rw [dgs_S (by rw [ofD]; omega), ofD_mod hc, ofD_div hc, IH g (fun d hd => h d (List.mem_cons_of_mem _ hd)) (by omega)]
    rfl
theorem li_loop (Y : TS) (hn : Y.1.1 1 ≤ 6) : ∀ (r fuel a s x : Nat), r < fuel → x < 10 ^ r → r ≤ 9 → (∀ d ∈ dgs r x, 1 ≤ d ∧ d ≤ Y.1.1 1) → F_X6_list_l20 Y F_X6_list_x20 fuel (nI a) (nI s) (nI x) = some (nI (a + s * ofD (lsd (stM Y.1) (dgs r x)))) := by
  intro r
  induction r with
  | zero =>
    intro fuel a s x hf hx hr hd
    obtain ⟨f, rfl⟩ : ∃ f, fuel = f + 1 := ⟨fuel - 1, by omega⟩
    have h0 : x = 0 := by simpa using hx
    subst h0
    rw [F_X6_list_l20, brt (by decide)]
    rfl
  | succ r IH =>
    intro fuel a s x hf hx hr hd
    obtain ⟨f, rfl⟩ : ∃ f, fuel = f + 1 := ⟨fuel - 1, by omega⟩
    rw [F_X6_list_l20]
    by_cases h0 : x = 0
    · subst h0
      rw [brt (by decide), dgs_0]
      rfl
    · have hx2 : x < 2 ^ 31 := Nat.lt_of_lt_of_le hx (Nat.le_trans (Nat.pow_le_pow_right (by decide) hr) (by decide))
      rw [brf (nI_nle (by omega) hx2)]
      simp only [bv]
      rw [r10 hx2]
      rw [dgs_S h0] at hd ⊢
      have hd0 := hd _ List.mem_cons_self
      have hd1 : ∀ d ∈ dgs r (x / 10), 1 ≤ d ∧ d ≤ Y.1.1 1 := fun d h => hd d (List.mem_cons_of_mem _ h)
      have hxr : x / 10 < 10 ^ r := by rw [Nat.pow_succ] at hx; omega
      generalize x % 10 = d at hd0 ⊢
      obtain ⟨c, rfl⟩ : ∃ c, d = c + 1 := ⟨d - 1, by omega⟩
      rw [nI_pred, gdt (nI_in (by omega) (by omega)), show ix (nI c) = c from nI_clamp (by omega), lsd]
      unfold F_X6_list_j58
      simp only [bv]
      rw [q10 hx2]
      by_cases hg : Y.1.2 2 c = 0
      · rw [brt hg, if_pos ⟨by omega, decide_eq_true (show c + 1 - 1 < Y.1.1 1 ∧ Y.1.2 2 (c + 1 - 1) = 0 from ⟨by omega, hg⟩)⟩, pk_mul, nI_add, show nI s * 10 = nI (s * 10) from pk_mul s 10, IH f _ _ _ (by omega) hxr (by omega) hd1, ofD]
        congr 2
        rw [show c + 1 - 1 = c by omega, Nat.mul_add, Nat.mul_comm (c + 1) s, Nat.mul_assoc]
        omega
      · rw [brf hg, if_neg (fun h9 => hg (of_decide_eq_true h9.2).2), IH f _ _ _ (by omega) hxr (by omega) hd1]
theorem li_ok {L k : Nat} {xs : Nat → Int32} {Y : TS} (hW : WFm Y.1) (hk : k < Y.1.1 4) : F_X6_list L xs Y k = some (nI (ofD (lsM Y.1 k))) := by
  obtain ⟨⟨hn, _, _⟩, _, _, _, h7⟩ := hW
  obtain ⟨_, ⟨x, ex, hx1, hx2⟩, _, es⟩ := h7 k hk
  unfold F_X6_list
  simp only [bv]
  rw [show ix (3 : Int32) = 3 from rfl, show ix (1 : Int32) = 1 from rfl, ex]
  unfold F_X6_list_j18 lsM lstOf
  rw [ex] at es
  rw [ex, show ix (nI x) = x from nI_clamp (by omega)]
  rcases spS_01 (Y.1.1 1) (nI x) with h | h
  · rw [es, h, brf (by decide), if_pos rfl]
    have hG := (spS_0 hx2).mp h
    have := li_loop Y hn 6 100 0 1 x (by decide) hx2 (by decide) (fun d hd => ⟨(hG.1 d hd).1, (hG.1 d hd).2.1⟩)
    rw [Nat.zero_add, Nat.one_mul] at this
    exact this
  · rw [es, h, brt rfl, if_neg (by decide)]
    exact li_loop Y hn 0 100 0 1 0 (by decide) (by decide) (by decide) (fun d hd => by cases hd)
/-- a place in a list; e: the candidate's number and 1 -/
def pl (e : Nat) : List Nat → Nat
  | [] => 0
  | d :: l => if d + 1 = e then 0 else pl e l + 1
theorem pl_le (e : Nat) : ∀ l, pl e l ≤ l.length := by
  intro l
  induction l with
  | nil => exact Nat.le_refl _
  | cons d l IH =>
    rw [pl]
    split
    · exact Nat.zero_le _
    · rw [List.length_cons]; omega
theorem pl_loop (v : Int32) (e : Nat) (he : e < 100) (hv : v + 1 = nI e) : ∀ (l : List Nat) (fuel a : Nat), l.length < fuel → l.length ≤ 9 → (∀ c ∈ l, c < 9) → F_X6_place_l4 v F_X6_place_x4 fuel (nI a) (nI (ofD l)) = some (nI (a + pl e l)) := by
  intro l
  induction l with
  | nil =>
    intro fuel a hf _ _
    obtain ⟨f, rfl⟩ : ∃ f, fuel = f + 1 := ⟨fuel - 1, by omega⟩
    rw [F_X6_place_l4, brt (by decide)]
    rfl
  | cons c l IH =>
    intro fuel a hf h9 hc
    obtain ⟨f, rfl⟩ : ∃ f, fuel = f + 1 := ⟨fuel - 1, by omega⟩
    have hlt : ofD (c :: l) < 2 ^ 31 := Nat.lt_of_lt_of_le (ofD_lt _ hc) (Nat.le_trans (Nat.pow_le_pow_right (by decide) h9) (by decide))
    have hc0 := hc c List.mem_cons_self
    rw [F_X6_place_l4, brf (nI_nle (by rw [ofD]; omega) hlt)]
    simp only [bv]
    rw [r10 hlt, q10 hlt, ofD_mod hc0, ofD_div hc0, hv, pl]
    rw [List.length_cons] at hf h9
    by_cases h : c + 1 = e
    · rw [brt (by rw [h]), if_pos h]
      rfl
    · rw [brf (fun h1 => h ((nI_eq (by omega) (by omega)).mp h1)), if_neg h, nI_1, IH f (a + 1) (by omega) (by omega) (fun d hd => hc d (List.mem_cons_of_mem _ hd))]
      congr 2
      omega
theorem pl_ok {v : Int32} {e : Nat} {l : List Nat} (he : e < 100) (hv : v + 1 = nI e) (h9 : l.length ≤ 9) (hc : ∀ c ∈ l, c < 9) : F_X6_place (nI (ofD l)) v = some (nI (pl e l)) := by
  have h := pl_loop v e he hv l 100 0 (by omega) h9 hc
  rw [Nat.zero_add] at h
  exact h
/-- without one -/
def rmv (c : Nat) : List Nat → List Nat
  | [] => []
  | d :: l => if d = c then rmv c l else d :: rmv c l
theorem fo_loop (c : Nat) (hc9 : c < 9) : ∀ (l : List Nat) (fuel a s : Nat), l.length < fuel → l.length ≤ 9 → (∀ d ∈ l, d < 9) → F_X6_firstOf_l10 (nI c) F_X6_firstOf_x10 fuel (nI a) (nI s) (nI (ofD l)) = some (nI (a + s * ofD (rmv c l))) := by
  intro l
  induction l with
  | nil =>
    intro fuel a s hf _ _
    obtain ⟨f, rfl⟩ : ∃ f, fuel = f + 1 := ⟨fuel - 1, by omega⟩
    rw [F_X6_firstOf_l10, brt (by decide)]
    rfl
  | cons d l IH =>
    intro fuel a s hf h9 hc
    obtain ⟨f, rfl⟩ : ∃ f, fuel = f + 1 := ⟨fuel - 1, by omega⟩
    have hlt : ofD (d :: l) < 2 ^ 31 := Nat.lt_of_lt_of_le (ofD_lt _ hc) (Nat.le_trans (Nat.pow_le_pow_right (by decide) h9) (by decide))
    have hd0 := hc d List.mem_cons_self
    rw [F_X6_firstOf_l10, brf (nI_nle (by rw [ofD]; omega) hlt)]
    simp only [bv]
    unfold F_X6_firstOf_j44
    simp only [bv]
    rw [r10 hlt, q10 hlt, ofD_mod hd0, ofD_div hd0, nI_1, rmv]
    rw [List.length_cons] at hf h9
    have hc1 : ∀ e ∈ l, e < 9 := fun e he => hc e (List.mem_cons_of_mem _ he)
    by_cases h : d = c
    · rw [brt (by rw [h]), if_pos h]
      exact IH f a s (by omega) (by omega) hc1
    · rw [brf (fun h1 => h (by have := (nI_eq (by omega) (by omega)).mp h1; omega)), if_neg h, pk_mul, nI_add, show nI s * 10 = nI (s * 10) from pk_mul s 10, IH f _ _ (by omega) (by omega) hc1, ofD]
      congr 2
      rw [Nat.mul_add, Nat.mul_comm (d + 1) s, Nat.mul_assoc]
      omega
theorem fo_ok {c : Nat} {l : List Nat} (hc9 : c < 9) (h9 : l.length ≤ 9) (hc : ∀ d ∈ l, d < 9) : F_X6_firstOf (nI (ofD l)) (nI c) = some (nI (ofD (c :: rmv c l))) := by
  unfold F_X6_firstOf
  simp only [bv]
  rw [nI_1]
  exact fo_loop c hc9 l 100 (c + 1) 10 (by omega) h9 hc
