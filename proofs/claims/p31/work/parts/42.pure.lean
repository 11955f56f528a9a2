/-! p31: the box's numbers, as they are told (M: the law's own rows), and what the telling methods do. -/
def cnt (f : Nat → Int32) : Nat → Nat
  | 0 => 0
  | k + 1 => cnt f k + (if f k = 0 then 1 else 0)
def sto (M : TM) : Nat := cnt (M.2 2) (M.1 1)
def stM (M : TM) (c : Nat) : Bool := decide (c < M.1 1 ∧ M.2 2 c = 0)
def lsM (M : TM) (k : Nat) : List Nat := lstOf (stM M) (M.2 (5 + k) 3) (ix (M.2 (5 + k) 1))
def boxv (pc sl : Int32) (M : TM) (j : Nat) : Int32 := if j = 2 then nI (M.1 1) else if j = 3 then nI (sto M) else if j = 5 then nI (M.1 3) else if j = 7 then nI (M.1 4) else if j = 8 then pc else if j = 9 then sl else 0
def prt (M : TM) (j : Nat) : Int32 := if j < M.1 1 then M.2 1 j else 0
def stdv (M : TM) (j : Nat) : Int32 := if j < M.1 1 ∧ M.2 2 j = 0 then 1 else 0
def seav (M : TM) (j : Nat) : Int32 := if j < M.1 3 then M.2 3 j else 0
def Sk (rk : Prop) (M : TM) (k : Nat) (Z : Mem) : Prop := (∀ j, j < 4 → (j = 1 → rk) → Z.1 (39 + k) j = M.2 (5 + k) j) ∧ Z.1 (39 + k) 5 = nI (lsM M k).length ∧ ∀ j, j < (lsM M k).length → Z.1 (64 + k) j = nI ((lsM M k).getD j 0)
def Br (pc sl : Int32) (M : TM) (Z : Mem) : Prop := (∀ j, j < 11 → Z.1 1 j = boxv pc sl M j) ∧ (∀ j, j < 6 → Z.1 2 j = prt M j) ∧ (∀ j, j < 6 → Z.1 3 j = stdv M j) ∧ (∀ j, j < 6 → Z.1 4 j = seav M j)
def Bx (rk : Prop) (pc sl : Int32) (M : TM) (Z : Mem) : Prop := Br pc sl M Z ∧ ∀ k, k < M.1 4 → Sk rk M k Z
/-- the law's rows are well formed -/
def WFm (M : TM) : Prop := (M.1 1 ≤ 6 ∧ M.1 3 ≤ 4 ∧ M.1 4 ≤ 24) ∧ (∀ j, j < M.1 1 → ∃ p, M.2 1 j = nI p ∧ p < 4) ∧ ((∀ j, M.2 2 j = 0 ∨ M.2 2 j = 1) ∧ ∀ j, M.1 1 ≤ j → M.2 2 j = 0) ∧ (∀ j, j < M.1 3 → ∃ p, M.2 3 j = nI p ∧ 1 ≤ p ∧ p < 6) ∧
  ∀ k, k < M.1 4 → (∃ d, M.2 (5 + k) 0 = nI d ∧ d < M.1 3) ∧ (∃ x, M.2 (5 + k) 1 = nI x ∧ 1 ≤ x ∧ x < 1000000) ∧ (∃ c, M.2 (5 + k) 2 = nI c ∧ 1 ≤ c ∧ c ≤ 80) ∧ M.2 (5 + k) 3 = spS (M.1 1) (M.2 (5 + k) 1)
theorem cnt_le (f : Nat → Int32) : ∀ k, cnt f k ≤ k := by
  intro k
  induction k with
  | zero => exact Nat.le_refl _
  | succ k IH =>
    rw [cnt]
    split <;> omega
theorem cnt_up {f g : Nat → Int32} : ∀ k, (∀ j, j < k → g j = f j) → cnt g k = cnt f k := by
  intro k
  induction k with
  | zero => intro _; rfl
  | succ k IH =>
    intro h
    rw [cnt, cnt, IH (fun j hj => h j (by omega)), h k (by omega)]
theorem cnt_off {f : Nat → Int32} {c : Nat} {v : Int32} (hv : ¬ v = 0) (h : f c = 0) : ∀ k, cnt (upd f c v) k + (if c < k then 1 else 0) = cnt f k := by
  intro k
  induction k with
  | zero => rfl
  | succ k IH =>
    rw [cnt, cnt]
    by_cases hk : k = c
    · subst hk
      rw [if_pos h, if_neg (by rw [pk_us]; exact hv), if_pos (by omega)]
      rw [if_neg (by omega)] at IH
      omega
    · rw [pk_un hk]
      by_cases h1 : c < k
      · rw [if_pos (show c < k + 1 by omega)]
        rw [if_pos h1] at IH
        omega
      · rw [if_neg (show ¬ c < k + 1 by omega)]
        rw [if_neg h1] at IH
        omega
theorem sto_le (M : TM) : sto M ≤ M.1 1 := cnt_le _ _
theorem Br_St {pc sl : Int32} {M : TM} {Z : Mem} (h : Br pc sl M Z) (hW : M.1 1 ≤ 6) : St (M.1 1) (stM M) Z := by
  refine ⟨hW, h.1 2 (by decide), fun c => ?_⟩
  unfold stM
  by_cases hc : c < M.1 1
  · rw [h.2.2.1 c (by omega)]
    unfold stdv
    by_cases hg : M.2 2 c = 0
    · rw [if_pos ⟨hc, hg⟩, decide_eq_true ⟨hc, hg⟩, decide_eq_true ⟨hc, by decide⟩]
    · rw [if_neg (fun h9 => hg h9.2), decide_eq_false (fun h9 => hg h9.2), decide_eq_false (fun h9 => h9.2 rfl)]
  · rw [decide_eq_false (fun h9 => hc h9.1), decide_eq_false (fun h9 => hc h9.1)]
theorem lsd_mem {st : Nat → Bool} {c : Nat} : ∀ l, c ∈ lsd st l → st c = true ∧ c + 1 ∈ l := by
  intro l
  induction l with
  | nil => intro h; cases h
  | cons d l IH =>
    intro h
    rw [lsd] at h
    split at h
    · rename_i hc
      rcases List.mem_cons.mp h with h1 | h1
      · subst h1
        exact ⟨hc.2, by rw [show d - 1 + 1 = d by omega]; exact List.mem_cons_self⟩
      · exact ⟨(IH h1).1, List.mem_cons_of_mem _ (IH h1).2⟩
    · exact ⟨(IH h).1, List.mem_cons_of_mem _ (IH h).2⟩
theorem lsd_len {st : Nat → Bool} : ∀ l, (lsd st l).length ≤ l.length := by
  intro l
  induction l with
  | nil => exact Nat.le_refl _
  | cons d l IH =>
    rw [lsd]
    split
    · rw [List.length_cons, List.length_cons]; omega
    · rw [List.length_cons]; omega
theorem dgs_len : ∀ f x, (dgs f x).length ≤ f := by
  intro f
  induction f with
  | zero => intro x; exact Nat.le_refl _
  | succ f IH =>
    intro x
    rw [dgs]
    split
    · exact Nat.zero_le _
    · rw [List.length_cons]
      have := IH (x / 10)
      omega
theorem lsM_len (M : TM) (k : Nat) : (lsM M k).length ≤ 6 := by
  unfold lsM lstOf
  split
  · exact Nat.le_trans (lsd_len _) (dgs_len _ _)
  · exact Nat.zero_le _
theorem lsM_mem {M : TM} {k c : Nat} (h : c ∈ lsM M k) : c < M.1 1 ∧ M.2 2 c = 0 := by
  unfold lsM lstOf at h
  split at h
  · exact of_decide_eq_true (lsd_mem _ h).1
  · cases h
theorem getD_lt {l : List Nat} {j n : Nat} (h : ∀ c ∈ l, c < n) (h0 : 0 < n) : l.getD j 0 < n := by
  rw [List.getD_eq_getElem?_getD]
  cases e : l[j]? with
  | none => exact h0
  | some c => exact h c (List.mem_of_getElem? e)
/-- what is told, as numbers -/
def cm (pc sl : Int32) (M : TM) : Mem := (fun i j => if i = 1 then boxv pc sl M j else if i = 2 then prt M j else if i = 3 then stdv M j else if i = 4 then seav M j else if 39 ≤ i ∧ i < 39 + M.1 4 then (if j = 5 then nI (lsM M (i - 39)).length else M.2 (5 + (i - 39)) j) else if 64 ≤ i ∧ i < 64 + M.1 4 then nI ((lsM M (i - 64)).getD j 0) else 0, fun _ _ => 0)
theorem cm_s {pc sl : Int32} {M : TM} {k j : Nat} (hM : M.1 4 ≤ 24) (h : k < M.1 4) : (cm pc sl M).1 (39 + k) j = if j = 5 then nI (lsM M k).length else M.2 (5 + k) j := by
  show (if 39 + k = 1 then _ else _) = _
  rw [if_neg (by omega), if_neg (by omega), if_neg (by omega), if_neg (by omega), if_pos (by omega), show 39 + k - 39 = k by omega]
theorem cm_l {pc sl : Int32} {M : TM} {k j : Nat} (hM : M.1 4 ≤ 24) (h : k < M.1 4) : (cm pc sl M).1 (64 + k) j = nI ((lsM M k).getD j 0) := by
  show (if 64 + k = 1 then _ else _) = _
  rw [if_neg (by omega), if_neg (by omega), if_neg (by omega), if_neg (by omega), if_neg (by omega), if_pos (by omega), show 64 + k - 64 = k by omega]
theorem cm_s0 {pc sl : Int32} {M : TM} {k j : Nat} (hM : M.1 4 ≤ 24) (h : ¬ k < M.1 4) (hk : k < 24) : (cm pc sl M).1 (39 + k) j = 0 := by
  show (if 39 + k = 1 then _ else _) = _
  rw [if_neg (by omega), if_neg (by omega), if_neg (by omega), if_neg (by omega), if_neg (by omega), if_neg (by omega)]
theorem cm_l0 {pc sl : Int32} {M : TM} {k j : Nat} (hM : M.1 4 ≤ 24) (h : ¬ k < M.1 4) (hk : k < 24) : (cm pc sl M).1 (64 + k) j = 0 := by
  show (if 64 + k = 1 then _ else _) = _
  rw [if_neg (by omega), if_neg (by omega), if_neg (by omega), if_neg (by omega), if_neg (by omega), if_neg (by omega)]
theorem Bx_tl {rk : Prop} {pc sl : Int32} {M : TM} {Z : Mem} (hM : M.1 4 ≤ 24) (h : Bx rk pc sl M Z) : tl rk (cm pc sl M) Z := by
  refine ⟨fun j hj => h.1.1 j hj, fun i j h1 h2 hj => ?_, fun k hk => ?_⟩
  · have hi : i = 2 ∨ i = 3 ∨ i = 4 := by omega
    rcases hi with rfl | rfl | rfl
    · exact h.1.2.1 j hj
    · exact h.1.2.2.1 j hj
    · exact h.1.2.2.2 j hj
  · have hk2 : k < M.1 4 := by
      have e : ix ((cm pc sl M).1 1 7) = M.1 4 := by
        show ix (nI (M.1 4)) = _
        exact nI_clamp (by omega)
      rwa [e] at hk
    obtain ⟨a1, a2, a3⟩ := h.2 k hk2
    refine ⟨fun j hj hr h4 => ?_, fun j hj => ?_⟩
    · rw [cm_s hM hk2]
      by_cases h5 : j = 5
      · subst h5
        rw [if_pos rfl]
        exact a2
      · rw [if_neg h5]
        exact a1 j (by omega) hr
    · rw [cm_s hM hk2, if_pos rfl, show ix (nI (lsM M k).length) = _ from nI_clamp (by have := lsM_len M k; omega)] at hj
      rw [cm_l hM hk2]
      exact a3 j hj
theorem Nn_nI {k n : Nat} (h : k ≤ n) (hn : n < 2 ^ 31) : Nn (nI k) n := by
  have e : ix (nI k) = k := nI_clamp (by omega)
  exact ⟨by rw [e], by rw [e]; exact h⟩
theorem WFm_t {pc sl : Int32} {M : TM} (h : WFm M) (hpc : Nn pc 20) : WFt (cm pc sl M) := by
  obtain ⟨⟨h1, h2, h3⟩, h4, h5, h6, h7⟩ := h
  have es : ix ((cm pc sl M).1 1 7) = M.1 4 := by
    show ix (nI (M.1 4)) = _
    exact nI_clamp (by omega)
  have ed : ix ((cm pc sl M).1 1 5) = M.1 3 := by
    show ix (nI (M.1 3)) = _
    exact nI_clamp (by omega)
  refine ⟨⟨Nn_nI h1 (by decide), Nn_nI (Nat.le_trans (sto_le M) h1) (by decide), Nn_nI h2 (by decide), Nn_nI h3 (by decide), hpc⟩, fun j hj => ?_, fun j hj => ?_, fun k hk => ?_, fun k hk => ?_⟩
  · show Nn (prt M j) 3
    unfold prt
    split
    · rename_i hc
      obtain ⟨p, e, hp⟩ := h4 j hc
      rw [e]
      exact Nn_nI (by omega) (by decide)
    · exact nn_0 3
  · show Nn (seav M j) 5
    unfold seav
    split
    · rename_i hc
      obtain ⟨p, e, hp⟩ := h6 j hc
      rw [e]
      exact Nn_nI (by omega) (by decide)
    · exact nn_0 5
  · by_cases hc : k < M.1 4
    · obtain ⟨a1, a2, ⟨c, ec, hc1, hc2⟩, a4⟩ := h7 k hc
      rw [cm_s h3 hc, cm_s h3 hc, cm_s h3 hc]
      rw [if_pos rfl, if_neg (by decide), if_neg (by decide)]
      refine ⟨Nn_nI (lsM_len M k) (by decide), by rw [ec]; exact Nn_nI (by omega) (by decide), by rw [a4]; exact spS_01 _ _, fun j hj => ?_⟩
      rw [cm_l h3 hc]
      refine Nn_nI ?_ (by decide)
      have := getD_lt (l := lsM M k) (j := j) (n := 6) (fun c hc => Nat.lt_of_lt_of_le (lsM_mem hc).1 h1) (by decide)
      omega
    · rw [cm_s0 h3 hc hk, cm_s0 h3 hc hk, cm_s0 h3 hc hk]
      refine ⟨nn_0 6, nn_0 500, Or.inl rfl, fun j hj => ?_⟩
      rw [cm_l0 h3 hc hk]
      exact nn_0 5
  · rw [es] at hk
    obtain ⟨⟨d, e, hd⟩, a2⟩ := h7 k hk
    rw [cm_s h3 hk, if_neg (by decide), e, ed]
    have e9 : ix (nI d) = d := nI_clamp (by omega)
    exact ⟨Nn_nI (by omega) (by decide), by rw [e9]; exact hd⟩
