/-! p31: who would win, as a number of what is told; places in a list. -/
noncomputable def wn (M : TM) (d w : Nat) : Int32 := ((F_X2_winnerBy (cm 0 0 M) (nI d) (nI w)).map (fun z => z.2)).getD 0
theorem cm_tl (rk : Prop) (pc sl : Int32) (M : TM) : tl rk (cm pc sl M) (cm pc sl M) := ⟨fun _ _ => rfl, fun _ _ _ _ _ => rfl, fun _ _ => ⟨fun _ _ _ _ => rfl, fun _ _ => rfl⟩⟩
theorem cm_Vb (pc sl : Int32) (M : TM) : Vb (cm pc sl M) := fun _ _ => mg_0 (by decide)
theorem Bx_f {pc sl : Int32} {M : TM} {Z : Mem} (h : Bx True pc sl M Z) : Bx False pc sl M Z := ⟨h.1, fun k hk => ⟨fun j hj _ => (h.2 k hk).1 j hj (fun _ => trivial), (h.2 k hk).2⟩⟩
theorem win1 {M : TM} {Z : Mem} (d w : Nat) (hW : WFm M) (hB : Bx False 0 0 M Z) (hV : Vb Z) : ∃ Y, F_X2_winnerBy Z (nI d) (nI w) = some (Y, wn M d w) ∧ tl False (cm 0 0 M) Y ∧ (∀ i, 39 ≤ i → Y.1 i = Z.1 i) ∧ Vb Y := by
  obtain ⟨Y1, Y2, r, e1, e2, h3, h4, h5⟩ := win2 (nI d) (nI w) (WFm_t hW (nn_0 20)) (Bx_tl hW.1.2.2 hB) (cm_tl False 0 0 M) hV (cm_Vb 0 0 M)
  refine ⟨Y1, ?_, h3, h4, h5⟩
  unfold wn
  rw [e2]
  exact e1
theorem Bx_keep {rk : Prop} {pc sl : Int32} {M : TM} {Z Y : Mem} (hB : Bx True pc sl M Z) (ht : tl rk (cm pc sl M) Y) (hf : ∀ i, 39 ≤ i → Y.1 i = Z.1 i) : Bx True pc sl M Y :=
  ⟨Br_tl ht, fun k hk => Sk_cong (hB.2 k hk) rfl rfl rfl rfl (fun j hj => by rw [hf _ (by omega)]; exact (hB.2 k hk).1 j hj (fun _ => trivial)) (by rw [hf _ (by omega)]) (fun j => by rw [hf _ (by omega)])⟩
/-- a place in a list, of any number -/
def pv (v : Int32) : List Nat → Nat
  | [] => 0
  | d :: l => if nI d = v then 0 else pv v l + 1
theorem pv_le (v : Int32) : ∀ l, pv v l ≤ l.length := by
  intro l
  induction l with
  | nil => exact Nat.le_refl _
  | cons d l IH =>
    rw [pv]
    split
    · exact Nat.zero_le _
    · rw [List.length_cons]; omega
theorem s1_eq {c : Nat} {v : Int32} : nI (c + 1) = v + 1 ↔ nI c = v := by
  constructor
  · intro h
    have h1 := congrArg (fun t => t - 1) h
    simp only [nI_pred, Int32.add_sub_cancel] at h1
    exact h1
  · intro h
    rw [← h, nI_1]
theorem pv_loop (v : Int32) : ∀ (l : List Nat) (fuel a : Nat), l.length < fuel → l.length ≤ 9 → (∀ c ∈ l, c < 9) → F_X6_place_l4 v F_X6_place_x4 fuel (nI a) (nI (ofD l)) = some (nI (a + pv v l)) := by
  intro l
  induction l with
  | nil =>
    intro fuel a hf _ _
    obtain ⟨f, rfl⟩ : ∃ f, fuel = f + 1 := ⟨fuel - 1, by omega⟩
    rw [F_X6_place_l4, brt (by decide)]
    rfl
  | cons c l IH =>
    intro fuel a hf h9 hc
    obtain ⟨f, rfl⟩ : ∃ f, fuel = f + 1 := ⟨fuel - 1, by omega⟩
    have hlt : ofD (c :: l) < 2 ^ 31 := Nat.lt_of_lt_of_le (ofD_lt _ hc) (Nat.le_trans (Nat.pow_le_pow_right (by decide) h9) (by decide))
    have hc0 := hc c List.mem_cons_self
    rw [F_X6_place_l4, brf (nI_nle (by rw [ofD]; omega) hlt)]
    simp only [bv]
    rw [r10 hlt, q10 hlt, ofD_mod hc0, ofD_div hc0, pv]
    rw [List.length_cons] at hf h9
    by_cases h : nI c = v
    · rw [brt (s1_eq.mpr h), if_pos h]
      rfl
    · rw [brf (fun h1 => h (s1_eq.mp h1)), if_neg h, nI_1, IH f (a + 1) (by omega) (by omega) (fun d hd => hc d (List.mem_cons_of_mem _ hd))]
      congr 2
      omega
theorem pv_ok {v : Int32} {l : List Nat} (h9 : l.length ≤ 9) (hc : ∀ c ∈ l, c < 9) : F_X6_place (nI (ofD l)) v = some (nI (pv v l)) := by
  have h := pv_loop v l 100 0 (by omega) h9 hc
  rw [Nat.zero_add] at h
  exact h
theorem drop_c {l : List Nat} {i : Nat} (h : i < l.length) : l.drop i = l.getD i 0 :: l.drop (i + 1) := by
  rw [List.drop_eq_getElem_cons h, List.getD_eq_getElem?_getD, List.getElem?_eq_getElem h]
  rfl
theorem pc_loop {Z : Mem} {ka : Nat} {l : List Nat} (v : Int32) (h5 : Z.1 (39 + ka) 5 = nI l.length) (hl : ∀ j, j < l.length → Z.1 (64 + ka) j = nI (l.getD j 0)) (h6 : l.length ≤ 6) : ∀ (r fuel i : Nat), i + r = l.length → r < fuel → F_X3_placeOf_l2 Z ka v (F_X3_placeOf_x2 Z ka) fuel (nI i) = some (nI (i + pv v (l.drop i))) := by
  intro r
  induction r with
  | zero =>
    intro fuel i hi hf
    obtain ⟨f, rfl⟩ : ∃ f, fuel = f + 1 := ⟨fuel - 1, by omega⟩
    rw [F_X3_placeOf_l2]
    simp only [bv]
    rw [h5, brt (nI_le (by omega) (by omega)), List.drop_eq_nil_of_le (by omega)]
    unfold F_X3_placeOf_x2
    simp only [bv]
    rw [h5, pv]
    congr 2
    omega
  | succ r IH =>
    intro fuel i hi hf
    obtain ⟨f, rfl⟩ : ∃ f, fuel = f + 1 := ⟨fuel - 1, by omega⟩
    rw [F_X3_placeOf_l2]
    simp only [bv]
    rw [h5, brf (nI_ge (by omega) (by omega)), gdt (nI_in (by omega) (by omega)), show ix (nI i) = i from nI_clamp (by omega), hl i (by omega), drop_c (by omega), pv]
    by_cases h : nI (l.getD i 0) = v
    · rw [brt h, if_pos h]
      rfl
    · rw [brf h, if_neg h, nI_1, IH f (i + 1) (by omega) (by omega)]
      congr 2
      omega
theorem pc_ok {Z : Mem} {ka : Nat} {l : List Nat} (v : Int32) (h5 : Z.1 (39 + ka) 5 = nI l.length) (hl : ∀ j, j < l.length → Z.1 (64 + ka) j = nI (l.getD j 0)) (h6 : l.length ≤ 6) : F_X3_placeOf Z ka v = some (nI (pv v l)) := by
  have h := pc_loop v h5 hl h6 l.length 100 0 (by omega) (by omega)
  rw [Nat.zero_add] at h
  exact h
/-- where the list with one put first takes its j-th from -/
def frm (p j : Nat) : Nat := if j = 0 then p else if p < j then j else j - 1
theorem sl_j {ka kb f0 k : Nat} {Z : Mem} {B : Mem → Int32 → Option (Mem × Unit)} (hk : k < 6) (hf : f0 < 6) (h5 : Z.1 (39 + ka) 5 = nI k) : F_X3_setListWithFirst_j43 ka kb Z (nI k) B (nI f0) = B (si (si Z (64 + ka) k (Z.1 (64 + kb) f0)) (39 + ka) 5 (nI (k + 1))) (nI (k + 1)) := by
  unfold F_X3_setListWithFirst_j43
  rw [bv_e, gdt (nI_in hf (by omega)), show ix (nI f0) = f0 from nI_clamp (by omega), bv_e, h5, gdt (nI_in hk (by omega)), show ix (nI k) = k from nI_clamp (by omega), bv_e, bv_e, si_ne (show 39 + ka ≠ 64 + ka by omega), h5, bv_e, nI_1, bv_e]
theorem sl_e0 {ka kb n k f : Nat} {xp : Int32} {Z : Mem} {K : Mem → Option (Mem × Unit)} (hb : Z.1 (39 + kb) 5 = nI n) (hk : n ≤ k) (hn : k < 1000) : F_X3_setListWithFirst_l15 ka kb xp K (f + 1) Z (nI k) = K Z := by
  rw [F_X3_setListWithFirst_l15, bv_e, hb]
  exact brt (nI_le hk (by omega))
theorem sl_e1 {ka kb p n k f : Nat} {Z : Mem} {K : Mem → Option (Mem × Unit)} (hb : Z.1 (39 + kb) 5 = nI n) (hk : k < n) (hn : n ≤ 6) (hp : p < 6) : F_X3_setListWithFirst_l15 ka kb (nI p) K (f + 1) Z (nI k) = F_X3_setListWithFirst_j43 ka kb Z (nI k) (F_X3_setListWithFirst_l15 ka kb (nI p) K f) (nI (frm p k)) := by
  rw [F_X3_setListWithFirst_l15, bv_e, hb, brf (nI_ge hk (by omega))]
  by_cases hk0 : k = 0
  · have e : frm p k = p := if_pos hk0
    have e0 : nI k = 0 := by rw [hk0]; exact nI_0
    rw [brt e0, e]
  · rw [brf (nI_ne0 (by omega) (by omega))]
    by_cases hpk : p < k
    · have e : frm p k = k := by unfold frm; rw [if_neg hk0, if_pos hpk]
      rw [brt (nI_lt hpk (by omega)), e]
    · have e : frm p k = k - 1 := by unfold frm; rw [if_neg hk0, if_neg hpk]
      have e1 : nI k - 1 = nI (k - 1) := by
        obtain ⟨k2, rfl⟩ : ∃ k2, k = k2 + 1 := ⟨k - 1, by omega⟩
        exact nI_pred k2
      rw [brf (nI_nlt (by omega) (by omega)), bv_e, e, e1]
theorem sl_loop {ka kb p : Nat} {l : List Nat} (K : Mem → Option (Mem × Unit)) (hka : ka < 25) (hkb : kb < 25) (ne : ka ≠ kb) (h6 : l.length ≤ 6) (hp : p < l.length) : ∀ (r fuel k : Nat) (Z : Mem), k + r = l.length → r < fuel → Z.1 (39 + kb) 5 = nI l.length → (∀ j, j < l.length → Z.1 (64 + kb) j = nI (l.getD j 0)) → Z.1 (39 + ka) 5 = nI k →
    ∃ Z1, F_X3_setListWithFirst_l15 ka kb (nI p) K fuel Z (nI k) = K Z1 ∧ Z1.2 = Z.2 ∧ (∀ a b, ¬ (a = 39 + ka ∧ b = 5) → a ≠ 64 + ka → Z1.1 a b = Z.1 a b) ∧ Z1.1 (39 + ka) 5 = nI l.length ∧ (∀ j, j < k → Z1.1 (64 + ka) j = Z.1 (64 + ka) j) ∧ ∀ j, k ≤ j → j < l.length → Z1.1 (64 + ka) j = nI (l.getD (frm p j) 0) := by
  intro r
  induction r with
  | zero =>
    intro fuel k Z hk hf hb hl ha
    obtain ⟨f, rfl⟩ : ∃ f, fuel = f + 1 := ⟨fuel - 1, by omega⟩
    rw [sl_e0 hb (by omega) (by omega)]
    exact ⟨Z, rfl, rfl, fun _ _ _ _ => rfl, by rw [ha, show k = l.length by omega], fun _ _ => rfl, fun j h1 h2 => absurd h2 (by omega)⟩
  | succ r IH =>
    intro fuel k Z hk hf hb hl ha
    obtain ⟨f, rfl⟩ : ∃ f, fuel = f + 1 := ⟨fuel - 1, by omega⟩
    obtain ⟨Z2, e2⟩ : ∃ Z2, Z2 = si (si Z (64 + ka) k (Z.1 (64 + kb) (frm p k))) (39 + ka) 5 (nI (k + 1)) := ⟨_, rfl⟩
    have hfr : frm p k < l.length := by unfold frm; split; exact hp; split <;> omega
    have q0 : Z2.2 = Z.2 := by rw [e2]; rfl
    have q1 : Z2.1 (39 + kb) 5 = nI l.length := by rw [e2, si_ne (by omega), si_ne (by omega)]; exact hb
    have q2 : ∀ j, j < l.length → Z2.1 (64 + kb) j = nI (l.getD j 0) := fun j hj => by rw [e2, si_ne (by omega), si_ne (by omega)]; exact hl j hj
    have q3 : Z2.1 (39 + ka) 5 = nI (k + 1) := by rw [e2]; exact si_same
    have q4 : ∀ a b, ¬ (a = 39 + ka ∧ b = 5) → a ≠ 64 + ka → Z2.1 a b = Z.1 a b := by
      intro a b h1 h2
      rw [e2]
      by_cases h3 : a = 39 + ka
      · subst h3
        rw [si_row, if_neg (fun h9 => h1 ⟨rfl, h9⟩), si_ne (by omega)]
      · rw [si_ne h3, si_ne h2]
    have q5 : ∀ j, j < k → Z2.1 (64 + ka) j = Z.1 (64 + ka) j := fun j hj => by rw [e2, si_ne (by omega), si_row, if_neg (by omega)]
    have q6 : Z2.1 (64 + ka) k = nI (l.getD (frm p k) 0) := by rw [e2, si_ne (by omega), si_row, if_pos rfl, hl _ hfr]
    have ej : F_X3_setListWithFirst_l15 ka kb (nI p) K (f + 1) Z (nI k) = F_X3_setListWithFirst_l15 ka kb (nI p) K f Z2 (nI (k + 1)) := by
      rw [sl_e1 hb (by omega) h6 (by omega), sl_j (by omega) (by omega) ha, ← e2]
    clear e2
    obtain ⟨Z1, e1, w1, w2, w3, w4, w5⟩ := IH f (k + 1) Z2 (by omega) (by omega) q1 q2 q3
    refine ⟨Z1, ej.trans e1, w1.trans q0, fun a b h1 h2 => (w2 a b h1 h2).trans (q4 a b h1 h2), w3, fun j hj => (w4 j (by omega)).trans (q5 j hj), fun j h1 h2 => ?_⟩
    by_cases h3 : j = k
    · subst h3
      exact (w4 j (by omega)).trans q6
    · exact w5 j (by omega) h2
theorem sl_ok {ka kb p : Nat} {l : List Nat} {Z : Mem} (hka : ka < 25) (hkb : kb < 25) (ne : ka ≠ kb) (h6 : l.length ≤ 6) (hp : p < l.length) (hb : Z.1 (39 + kb) 5 = nI l.length) (hl : ∀ j, j < l.length → Z.1 (64 + kb) j = nI (l.getD j 0)) (h3 : Z.1 (39 + kb) 3 = 0 ∨ Z.1 (39 + kb) 3 = 1) :
    ∃ Z1, F_X3_setListWithFirst Z ka kb (nI p) = some (Z1, ()) ∧ Z1.2 = Z.2 ∧ (∀ a b, ¬ (a = 39 + ka ∧ (b = 3 ∨ b = 5)) → a ≠ 64 + ka → Z1.1 a b = Z.1 a b) ∧ Z1.1 (39 + ka) 3 = Z.1 (39 + kb) 3 ∧ Z1.1 (39 + ka) 5 = nI l.length ∧ ∀ j, j < l.length → Z1.1 (64 + ka) j = nI (l.getD (frm p j) 0) := by
  obtain ⟨Z2, e2⟩ : ∃ Z2, Z2 = si (si Z (39 + ka) 3 (Z.1 (39 + kb) 3)) (39 + ka) 5 0 := ⟨_, rfl⟩
  have eo : ∀ a b, a ≠ 39 + ka → Z2.1 a b = Z.1 a b := fun a b h => by rw [e2, si_ne h, si_ne h]
  obtain ⟨Z1, e1, w1, w2, w3, w4, w5⟩ := sl_loop (p := p) F_X3_setListWithFirst_x15 hka hkb ne h6 hp l.length 100 0 Z2 (by omega) (by omega) (by rw [eo _ _ (by omega)]; exact hb) (fun j hj => by rw [eo _ _ (by omega)]; exact hl j hj) (by rw [e2]; exact si_same)
  refine ⟨Z1, ?_, by rw [w1, e2]; rfl, fun a b h1 h2 => ?_, ?_, w3, fun j hj => w5 j (Nat.zero_le _) hj⟩
  · unfold F_X3_setListWithFirst
    rw [bv_e, gdt h3, bv_e, bv_e, ← e2]
    exact e1
  · rw [w2 a b (fun h9 => h1 ⟨h9.1, Or.inr h9.2⟩) h2, e2]
    by_cases h3 : a = 39 + ka
    · subst h3
      rw [si_row, if_neg (fun h9 => h1 ⟨rfl, Or.inr h9⟩), si_row, if_neg (fun h9 => h1 ⟨rfl, Or.inl h9⟩)]
    · rw [si_ne h3, si_ne h3]
  · rw [w2 _ _ (by omega) (by omega), e2, si_row, if_neg (by decide)]
    exact si_same
/-! lists without twice the same -/
theorem rmv_mem {c e : Nat} : ∀ l, e ∈ rmv c l ↔ e ∈ l ∧ e ≠ c := by
  intro l
  induction l with
  | nil => simp [rmv]
  | cons d l IH =>
    rw [rmv]
    by_cases h : d = c
    · rw [if_pos h, IH, List.mem_cons]
      constructor
      · intro h1
        exact ⟨Or.inr h1.1, h1.2⟩
      · rintro ⟨h1 | h1, h2⟩
        · exact absurd (h1.trans h) h2
        · exact ⟨h1, h2⟩
    · rw [if_neg h, List.mem_cons, List.mem_cons, IH]
      constructor
      · rintro (h1 | h1)
        · exact ⟨Or.inl h1, fun h2 => h (h1.symm.trans h2)⟩
        · exact ⟨Or.inr h1.1, h1.2⟩
      · rintro ⟨h1 | h1, h2⟩
        · exact Or.inl h1
        · exact Or.inr ⟨h1, h2⟩
theorem rmv_no {c : Nat} : ∀ l, c ∉ l → rmv c l = l := by
  intro l
  induction l with
  | nil => intro _; rfl
  | cons d l IH =>
    intro h
    rw [rmv, if_neg (fun h1 => h (by rw [h1]; exact List.mem_cons_self)), IH (fun h1 => h (List.mem_cons_of_mem _ h1))]
theorem rmv_nd {c : Nat} : ∀ l : List Nat, l.Nodup → (rmv c l).Nodup := by
  intro l
  induction l with
  | nil => intro _; exact List.nodup_nil
  | cons d l IH =>
    intro h
    obtain ⟨h1, h2⟩ := List.nodup_cons.mp h
    rw [rmv]
    split
    · exact IH h2
    · exact List.nodup_cons.mpr ⟨fun h3 => h1 ((rmv_mem l).mp h3).1, IH h2⟩
theorem getD_mem {l : List Nat} {p : Nat} (h : p < l.length) : l.getD p 0 ∈ l := by
  rw [List.getD_eq_getElem?_getD, List.getElem?_eq_getElem h]
  exact List.getElem_mem h
theorem rmv_get : ∀ (l : List Nat) (p : Nat), l.Nodup → p < l.length → (rmv (l.getD p 0) l).length + 1 = l.length ∧ ∀ j, j + 1 < l.length → (rmv (l.getD p 0) l).getD j 0 = l.getD (if j < p then j else j + 1) 0 := by
  intro l
  induction l with
  | nil => intro p _ h; exact absurd h (Nat.not_lt_zero _)
  | cons d l IH =>
    intro p h hp
    obtain ⟨h1, h2⟩ := List.nodup_cons.mp h
    cases p with
    | zero =>
      have e : (d :: l).getD 0 0 = d := rfl
      rw [e, rmv, if_pos rfl, rmv_no l h1]
      refine ⟨rfl, fun j hj => ?_⟩
      rw [if_neg (Nat.not_lt_zero _)]
      rfl
    | succ q =>
      have e : (d :: l).getD (q + 1) 0 = l.getD q 0 := rfl
      have hq : q < l.length := by rw [List.length_cons] at hp; omega
      obtain ⟨a1, a2⟩ := IH q h2 hq
      have hne : d ≠ l.getD q 0 := fun h9 => h1 (by rw [h9]; exact getD_mem hq)
      rw [e, rmv, if_neg hne]
      refine ⟨by rw [List.length_cons, List.length_cons, a1], fun j hj => ?_⟩
      cases j with
      | zero => rw [if_pos (Nat.succ_pos _)]; rfl
      | succ i =>
        have e1 : (d :: rmv (l.getD q 0) l).getD (i + 1) 0 = (rmv (l.getD q 0) l).getD i 0 := rfl
        rw [List.length_cons] at hj
        rw [e1, a2 i (by omega)]
        by_cases hiq : i < q
        · rw [if_pos hiq, if_pos (show i + 1 < q + 1 by omega)]
          rfl
        · rw [if_neg hiq, if_neg (show ¬ i + 1 < q + 1 by omega)]
          rfl
theorem frm_get {l : List Nat} {p : Nat} (h : l.Nodup) (hp : p < l.length) : (l.getD p 0 :: rmv (l.getD p 0) l).length = l.length ∧ ∀ j, j < l.length → l.getD (frm p j) 0 = (l.getD p 0 :: rmv (l.getD p 0) l).getD j 0 := by
  obtain ⟨a1, a2⟩ := rmv_get l p h hp
  refine ⟨a1, fun j hj => ?_⟩
  unfold frm
  cases j with
  | zero => rfl
  | succ i =>
    have e1 : (l.getD p 0 :: rmv (l.getD p 0) l).getD (i + 1) 0 = (rmv (l.getD p 0) l).getD i 0 := rfl
    rw [e1, a2 i hj, if_neg (Nat.succ_ne_zero _)]
    by_cases h1 : i < p
    · rw [if_neg (show ¬ p < i + 1 by omega), if_pos h1, Nat.add_sub_cancel]
    · rw [if_pos (show p < i + 1 by omega), if_neg h1]
theorem lsd_nd {st : Nat → Bool} : ∀ l : List Nat, l.Nodup → (lsd st l).Nodup := by
  intro l
  induction l with
  | nil => intro _; exact List.nodup_nil
  | cons d l IH =>
    intro h
    obtain ⟨h1, h2⟩ := List.nodup_cons.mp h
    rw [lsd]
    split
    · rename_i hc
      refine List.nodup_cons.mpr ⟨fun h3 => h1 ?_, IH h2⟩
      have := (lsd_mem _ h3).2
      rwa [show d - 1 + 1 = d by omega] at this
    · exact IH h2
theorem lsd_map {st : Nat → Bool} : ∀ l : List Nat, (∀ c ∈ l, st c = true) → lsd st (l.map (· + 1)) = l := by
  intro l
  induction l with
  | nil => intro _; rfl
  | cons c l IH =>
    intro h
    rw [List.map_cons, lsd, if_pos ⟨by omega, by rw [Nat.add_sub_cancel]; exact h c List.mem_cons_self⟩, Nat.add_sub_cancel, IH (fun d hd => h d (List.mem_cons_of_mem _ hd))]
