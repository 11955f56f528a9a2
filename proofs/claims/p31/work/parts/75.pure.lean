/-! p31: who is barred has no seat. -/
def Fr {T : Type} (P : Mem → T → Prop) (x : Option (Mem × T)) : Prop := ∀ Z r, x = some (Z, r) → P Z r
section FR
variable {α T T2 : Type} {P : Mem → T → Prop}
theorem fr_bv {x : α} {f : α → Option (Mem × T)} (h : Fr P (f x)) : Fr P (bv x f) := h
theorem fr_gd {c : Prop} [Decidable c] {x : Option (Mem × T)} (h : c → Fr P x) : Fr P (gd c x) := fun Z r e => h (gd_some e).1 Z r (gd_some e).2
theorem fr_br {c : Prop} [Decidable c] {x y : Option (Mem × T)} (h1 : c → Fr P x) (h2 : ¬ c → Fr P y) : Fr P (br c x y) := by
  intro Z r e
  by_cases h : c
  · exact h1 h Z r (br_pos h e)
  · exact h2 h Z r (br_neg h e)
theorem fr_calp {x : Option T2} {f : T2 → Option (Mem × T)} (h : ∀ r, x = some r → Fr P (f r)) : Fr P (calp x f) := by
  intro Z r e
  obtain ⟨t, e1, e2⟩ := calp_some e
  exact h t e1 Z r e2
theorem fr_cal {Q : Mem → T2 → Prop} {x : Option (Mem × T2)} {f : Mem → T2 → Option (Mem × T)} (h : Fr Q x) (k : ∀ Y r, Q Y r → Fr P (f Y r)) : Fr P (cal x f) := by
  intro Z r e
  obtain ⟨Y, t, e1, e2⟩ := cal_some e
  exact k Y t (h Y t e1) Z r e2
theorem fr_some {Z : Mem} {r : T} (h : P Z r) : Fr P (some (Z, r)) := by
  intro Z1 r1 e
  cases e
  exact h
theorem fr_none : Fr P (none : Option (Mem × T)) := fun Z r e => by cases e
end FR
/-- the row of who is barred stays -/
def R33 {T : Type} (v : Nat → Int32) : Mem → T → Prop := fun Z _ => Z.1 33 = v
theorem r33_si {v : Nat → Int32} {Z : Mem} {i j : Nat} {a : Int32} (h : Z.1 33 = v) (hi : i ≠ 33) : (si Z i j a).1 33 = v := by
  rw [← h]
  funext b
  exact si_ne (fun e => hi e.symm)
theorem f_cf23 (v : Nat → Int32) (xa : Int32) (K : Mem → Option (Mem × Unit)) (hK : ∀ Z, Z.1 33 = v → Fr (R33 v) (K Z)) : ∀ (n : Nat) (Z : Mem) (u : Int32), Z.1 33 = v → Fr (R33 v) (F_X2_countFirsts_l23 xa K n Z u) := by
  intro n
  induction n with
  | zero =>
    intro Z u hv
    rw [F_X2_countFirsts_l23]
    exact fr_none
  | succ n IH =>
    intro Z u hv
    rw [F_X2_countFirsts_l23]
    simp only [bv]
    repeat' (first
      | exact fr_none
      | exact hK _ hv
      | exact IH _ _ hv
      | exact IH _ _ (r33_si hv (by decide))
      | exact IH _ _ (r33_si (r33_si hv (by decide)) (by decide))
      | refine fr_br (fun _ => ?_) (fun _ => ?_)
      | refine fr_gd (fun _ => ?_)
      | refine fr_calp (fun _ _ => ?_))
theorem f_cf2 (v : Nat → Int32) (K : Mem → Option (Mem × Unit)) (hK : ∀ Z, Z.1 33 = v → Fr (R33 v) (K Z)) : ∀ (n : Nat) (Z : Mem) (u : Int32), Z.1 33 = v → Fr (R33 v) (F_X2_countFirsts_l2 K n Z u) := by
  intro n
  induction n with
  | zero =>
    intro Z u hv
    rw [F_X2_countFirsts_l2]
    exact fr_none
  | succ n IH =>
    intro Z u hv
    rw [F_X2_countFirsts_l2]
    simp only [bv]
    repeat' (first
      | exact fr_none
      | exact hK _ hv
      | exact IH _ _ hv
      | exact IH _ _ (r33_si hv (by decide))
      | exact IH _ _ (r33_si (r33_si hv (by decide)) (by decide))
      | refine fr_br (fun _ => ?_) (fun _ => ?_)
      | refine fr_gd (fun _ => ?_)
      | refine fr_calp (fun _ _ => ?_))
theorem f_cf {v : Nat → Int32} {Z : Mem} (xa : Int32) (hv : Z.1 33 = v) : Fr (R33 v) (F_X2_countFirsts Z xa) := by
  unfold F_X2_countFirsts
  refine f_cf2 v _ (fun Z1 h1 => ?_) 100 Z 0 hv
  unfold F_X2_countFirsts_x2
  exact f_cf23 v xa _ (fun Z2 h2 => fr_some h2) 100 Z1 0 h1
theorem f_vh28 (v : Nat → Int32) (K : Mem → Int32 → Option (Mem × Int32)) (hK : ∀ Z w, Z.1 33 = v → Fr (R33 v) (K Z w)) : ∀ (n : Nat) (Z : Mem) (u t : Int32), Z.1 33 = v → Fr (R33 v) (F_X1_countVotesHere_l28 K n Z u t) := by
  intro n
  induction n with
  | zero =>
    intro Z u t hv
    rw [F_X1_countVotesHere_l28]
    exact fr_none
  | succ n IH =>
    intro Z u t hv
    rw [F_X1_countVotesHere_l28]
    simp only [bv]
    repeat' (first
      | exact fr_none
      | exact hK _ _ hv
      | exact IH _ _ _ hv
      | exact IH _ _ _ (r33_si hv (by decide))
      | refine fr_br (fun _ => ?_) (fun _ => ?_)
      | refine fr_gd (fun _ => ?_)
      | refine fr_calp (fun _ _ => ?_))
theorem f_vh5 (v : Nat → Int32) (K : Mem → Option (Mem × Int32)) (hK : ∀ Z, Z.1 33 = v → Fr (R33 v) (K Z)) : ∀ (n : Nat) (Z : Mem) (u : Int32), Z.1 33 = v → Fr (R33 v) (F_X1_countVotesHere_l5 K n Z u) := by
  intro n
  induction n with
  | zero =>
    intro Z u hv
    rw [F_X1_countVotesHere_l5]
    exact fr_none
  | succ n IH =>
    intro Z u hv
    rw [F_X1_countVotesHere_l5]
    simp only [bv]
    repeat' (first
      | exact fr_none
      | exact hK _ hv
      | exact IH _ _ hv
      | exact IH _ _ (r33_si hv (by decide))
      | exact IH _ _ (r33_si (r33_si hv (by decide)) (by decide))
      | refine fr_br (fun _ => ?_) (fun _ => ?_)
      | refine fr_gd (fun _ => ?_)
      | refine fr_calp (fun _ _ => ?_))
theorem f_vh {v : Nat → Int32} {Z : Mem} (hv : Z.1 33 = v) : Fr (R33 v) (F_X1_countVotesHere Z) := by
  unfold F_X1_countVotesHere
  refine f_vh5 v _ (fun Z1 h1 => ?_) 100 Z 0 hv
  unfold F_X1_countVotesHere_x5
  exact f_vh28 v _ (fun Z2 w h2 => fr_some h2) 100 Z1 0 0 h1
theorem f_aw44 {v : Nat → Int32} {Z : Mem} {u w : Int32} {B : Mem → Int32 → Option (Mem × Unit)} (hB : ∀ Z u, Z.1 33 = v → Fr (R33 v) (B Z u)) (hv : Z.1 33 = v) : Fr (R33 v) (F_X1_addWasted_j44 Z u B w) := by
  unfold F_X1_addWasted_j44
  simp only [bv]
  exact fr_gd (fun _ => hB _ _ (r33_si hv (by decide)))
theorem f_aw9 (v : Nat → Int32) (xa y2 : Int32) (K : Mem → Option (Mem × Unit)) (hK : ∀ Z, Z.1 33 = v → Fr (R33 v) (K Z)) : ∀ (n : Nat) (Z : Mem) (u : Int32), Z.1 33 = v → Fr (R33 v) (F_X1_addWasted_l9 xa y2 K n Z u) := by
  intro n
  induction n with
  | zero =>
    intro Z u hv
    rw [F_X1_addWasted_l9]
    exact fr_none
  | succ n IH =>
    intro Z u hv
    rw [F_X1_addWasted_l9]
    simp only [bv]
    repeat' (first
      | exact fr_none
      | exact hK _ hv
      | exact IH _ _ hv
      | exact IH _ _ (r33_si hv (by decide))
      | exact IH _ _ (r33_si (r33_si hv (by decide)) (by decide))
      | exact f_aw44 IH hv
      | refine fr_br (fun _ => ?_) (fun _ => ?_)
      | refine fr_gd (fun _ => ?_)
      | refine fr_calp (fun _ _ => ?_))
theorem f_aw {v : Nat → Int32} {Z : Mem} (xa xb : Int32) (hv : Z.1 33 = v) : Fr (R33 v) (F_X1_addWasted Z xa xb) := by
  unfold F_X1_addWasted
  simp only [bv]
  exact f_aw9 v _ _ _ (fun Z2 h2 => fr_some h2) 100 Z 0 hv
theorem f_cd29 (v : Nat → Int32) (K : Mem → Option (Mem × Unit)) (hK : ∀ Z, Z.1 33 = v → Fr (R33 v) (K Z)) : ∀ (n : Nat) (Z : Mem) (u : Int32), Z.1 33 = v → Fr (R33 v) (F_X1_countDistricts_l29 K n Z u) := by
  intro n
  induction n with
  | zero =>
    intro Z u hv
    rw [F_X1_countDistricts_l29]
    exact fr_none
  | succ n IH =>
    intro Z u hv
    rw [F_X1_countDistricts_l29]
    simp only [bv]
    repeat' (first
      | exact fr_none
      | assumption
      | exact hK _ hv
      | exact IH _ _ hv
      | exact IH _ _ (r33_si hv (by decide))
      | exact IH _ _ (r33_si (r33_si hv (by decide)) (by decide))
      | refine fr_cal (f_cf _ (by assumption)) (fun Y r hY => ?_)
      | refine fr_cal (f_vh (r33_si (by assumption) (by decide))) (fun Y2 r2 hY2 => ?_)
      | refine fr_cal (f_aw _ _ (by assumption)) (fun Y3 r3 hY3 => ?_)
      | exact IH _ _ (by assumption)
      | refine fr_br (fun _ => ?_) (fun _ => ?_)
      | refine fr_gd (fun _ => ?_)
      | refine fr_calp (fun _ _ => ?_))
theorem f_cd2 (v : Nat → Int32) (K : Mem → Option (Mem × Unit)) (hK : ∀ Z, Z.1 33 = v → Fr (R33 v) (K Z)) : ∀ (n : Nat) (Z : Mem) (u : Int32), Z.1 33 = v → Fr (R33 v) (F_X1_countDistricts_l2 K n Z u) := by
  intro n
  induction n with
  | zero =>
    intro Z u hv
    rw [F_X1_countDistricts_l2]
    exact fr_none
  | succ n IH =>
    intro Z u hv
    rw [F_X1_countDistricts_l2]
    simp only [bv]
    repeat' (first
      | exact fr_none
      | exact hK _ hv
      | exact IH _ _ hv
      | exact IH _ _ (r33_si hv (by decide))
      | exact IH _ _ (r33_si (r33_si hv (by decide)) (by decide))
      | refine fr_br (fun _ => ?_) (fun _ => ?_)
      | refine fr_gd (fun _ => ?_)
      | refine fr_calp (fun _ _ => ?_))
theorem f_cd {v : Nat → Int32} {Z : Mem} (hv : Z.1 33 = v) : Fr (R33 v) (F_X1_countDistricts Z) := by
  unfold F_X1_countDistricts
  refine f_cd2 v _ (fun Z1 h1 => ?_) 100 Z 0 hv
  unfold F_X1_countDistricts_x2
  exact f_cd29 v _ (fun Z2 h2 => fr_some h2) 100 Z1 0 h1
/-! the shares -/
theorem tp_33 {Z : Mem} {u r : Int32} (h : F_X1_takesPart Z u = some r) (hr : ¬ r = 0) : Z.1 33 (ix u) = 0 := by
  unfold F_X1_takesPart at h
  simp only [bv] at h
  have h := (gd_some h).2
  by_cases h1 : Z.1 31 (ix u) ≤ 0
  · exact absurd (some1 (br_pos h1 h)) hr
  · have h := br_neg h1 h
    by_cases h2 : Z.1 33 (ix u) = 0
    · exact h2
    · exact absurd (some1 (br_neg h2 h)) hr
/-- who is barred has no seat -/
def NS {T : Type} (v : Nat → Int32) : Mem → T → Prop := fun Z _ => Z.1 33 = v ∧ ∀ p, p < 4 → ¬ v p = 0 → Z.1 36 p = 0
/-- .. and no remainder, below k -/
def NR (k : Nat) (v : Nat → Int32) (Z : Mem) : Prop := (Z.1 33 = v ∧ ∀ p, p < 4 → ¬ v p = 0 → Z.1 36 p = 0) ∧ ∀ p, p < k → ¬ v p = 0 → Z.1 38 p = -1
theorem ns_si {v : Nat → Int32} {Z : Mem} {j : Nat} {a : Int32} (h : Z.1 33 = v ∧ ∀ p, p < 4 → ¬ v p = 0 → Z.1 36 p = 0) (hj : v j = 0 ∨ a = 0) : (si Z 36 j a).1 33 = v ∧ ∀ p, p < 4 → ¬ v p = 0 → (si Z 36 j a).1 36 p = 0 := by
  refine ⟨r33_si h.1 (by decide), fun p hp hb => ?_⟩
  rw [si_row]
  by_cases hpj : p = j
  · rw [if_pos hpj]
    rcases hj with hj | hj
    · exact absurd (by rw [hpj]; exact hj) hb
    · exact hj
  · rw [if_neg hpj]
    exact h.2 p hp hb
theorem ns_38 {v : Nat → Int32} {Z : Mem} {j : Nat} {a : Int32} (h : Z.1 33 = v ∧ ∀ p, p < 4 → ¬ v p = 0 → Z.1 36 p = 0) : (si Z 38 j a).1 33 = v ∧ ∀ p, p < 4 → ¬ v p = 0 → (si Z 38 j a).1 36 p = 0 :=
  ⟨r33_si h.1 (by decide), fun p hp hb => by rw [si_ne (by decide)]; exact h.2 p hp hb⟩
theorem sd16 (v : Nat → Int32) (xb : Int32) {Z : Mem} (hZ : Z.1 33 = v ∧ ∀ p, p < 4 → ¬ v p = 0 → Z.1 36 p = 0) (K : Int32 → Option (Mem × Unit)) (hK : ∀ w, (w = -1 ∨ v (ix w) = 0) → Fr (NS v) (K w)) : ∀ (n : Nat) (a : Int32) (b : UInt64) (u : Int32), (a = -1 ∨ v (ix a) = 0) → Fr (NS v) (F_X1_shareByDivisors_l16 xb Z K n a b u) := by
  intro n
  induction n with
  | zero =>
    intro a b u _
    rw [F_X1_shareByDivisors_l16]
    exact fr_none
  | succ n IH =>
    intro a b u ha
    rw [F_X1_shareByDivisors_l16]
    simp only [bv]
    refine fr_br (fun _ => hK _ ha) (fun _ => fr_gd (fun _ => fr_gd (fun _ => fr_calp (fun r er => fr_br (fun _ => IH _ _ _ ha) (fun hr => ?_)))))
    have h0 : v (ix u) = 0 := by rw [← hZ.1]; exact tp_33 er hr
    repeat' (first
      | exact fr_none
      | exact IH _ _ _ ha
      | exact IH _ _ _ (Or.inr h0)
      | refine fr_br (fun _ => ?_) (fun _ => ?_)
      | refine fr_gd (fun _ => ?_))
theorem sd2 (v : Nat → Int32) (xa xb : Int32) (K : Mem → Option (Mem × Unit)) (hK : ∀ Z, (Z.1 33 = v ∧ ∀ p, p < 4 → ¬ v p = 0 → Z.1 36 p = 0) → Fr (NS v) (K Z)) : ∀ (n : Nat) (Z : Mem) (u : Int32), (Z.1 33 = v ∧ ∀ p, p < 4 → ¬ v p = 0 → Z.1 36 p = 0) → Fr (NS v) (F_X1_shareByDivisors_l2 xa xb K n Z u) := by
  intro n
  induction n with
  | zero =>
    intro Z u _
    rw [F_X1_shareByDivisors_l2]
    exact fr_none
  | succ n IH =>
    intro Z u hZ
    rw [F_X1_shareByDivisors_l2]
    refine fr_br (fun _ => hK _ hZ) (fun _ => ?_)
    refine sd16 v xb hZ _ (fun w hw => ?_) 100 _ _ _ (Or.inl rfl)
    unfold F_X1_shareByDivisors_x16
    simp only [bv]
    refine fr_br (fun _ => fr_some hZ) (fun h1 => fr_gd (fun _ => ?_))
    exact IH _ _ (ns_si hZ (Or.inl (hw.resolve_left h1)))
theorem sdv {v : Nat → Int32} {Z : Mem} (xa xb : Int32) (hZ : Z.1 33 = v ∧ ∀ p, p < 4 → ¬ v p = 0 → Z.1 36 p = 0) : Fr (NS v) (F_X1_shareByDivisors Z xa xb) := by
  unfold F_X1_shareByDivisors
  exact sd2 v xa xb _ (fun Z1 h1 => fr_some h1) 100 Z 0 hZ
theorem gr4 (v : Nat → Int32) {Z : Mem} (hZ : NR 4 v Z) (K : Int32 → Option (Mem × Unit)) (hK : ∀ w, (w = -1 ∨ ¬ Z.1 38 (ix w) = -1) → Fr (fun Z1 (_ : Unit) => NR 4 v Z1) (K w)) : ∀ (n : Nat) (a u : Int32), (a = -1 ∨ ¬ Z.1 38 (ix a) = -1) → Fr (fun Z1 (_ : Unit) => NR 4 v Z1) (F_X1_giveToGreatestRemainder_l4 Z K n a u) := by
  intro n
  induction n with
  | zero =>
    intro a u _
    rw [F_X1_giveToGreatestRemainder_l4]
    exact fr_none
  | succ n IH =>
    intro a u ha
    rw [F_X1_giveToGreatestRemainder_l4]
    simp only [bv]
    refine fr_br (fun _ => hK _ ha) (fun _ => fr_gd (fun _ => fr_br (fun _ => IH _ _ ha) (fun hr => ?_)))
    repeat' (first
      | exact fr_none
      | exact IH _ _ ha
      | exact IH _ _ (Or.inr hr)
      | refine fr_br (fun _ => ?_) (fun _ => ?_)
      | refine fr_gd (fun _ => ?_))
theorem ggr {v : Nat → Int32} {Z : Mem} (hZ : NR 4 v Z) : Fr (fun Z1 (_ : Unit) => NR 4 v Z1) (F_X1_giveToGreatestRemainder Z) := by
  unfold F_X1_giveToGreatestRemainder
  refine gr4 v hZ _ (fun w hw => ?_) 100 _ _ (Or.inl rfl)
  unfold F_X1_giveToGreatestRemainder_x4
  simp only [bv]
  refine fr_br (fun _ => fr_some hZ) (fun h1 => fr_gd (fun hin => fr_some ?_))
  have hw4 : ix w < 4 := Nat.not_le.mp fun h9 => hin (Or.inr h9)
  have hv0 : v (ix w) = 0 := by
    by_cases h9 : v (ix w) = 0
    · exact h9
    · exact absurd (hZ.2 _ hw4 h9) (hw.resolve_left h1)
  refine ⟨ns_38 (ns_si hZ.1 (Or.inl hv0)), fun p hp hb => ?_⟩
  rw [si_row]
  by_cases h9 : p = ix w
  · rw [if_pos h9]
  · rw [if_neg h9, si_ne (by decide)]
    exact hZ.2 p hp hb
theorem sr130 (v : Nat → Int32) (w3 : Int32) (K : Mem → Option (Mem × Unit)) (hK : ∀ Z, NR 4 v Z → Fr (NS v) (K Z)) : ∀ (n : Nat) (Z : Mem) (u : Int32), NR 4 v Z → Fr (NS v) (F_X1_shareByRemainders_l130 w3 K n Z u) := by
  intro n
  induction n with
  | zero =>
    intro Z u _
    rw [F_X1_shareByRemainders_l130]
    exact fr_none
  | succ n IH =>
    intro Z u hZ
    rw [F_X1_shareByRemainders_l130]
    exact fr_br (fun _ => hK _ hZ) (fun _ => fr_cal (ggr hZ) (fun Y _ hY => IH Y _ hY))
theorem sr110 {v : Nat → Int32} {k : Nat} (a u : Int32) {Z : Mem} {w : Int32} {B : Mem → Int32 → Int32 → Option (Mem × Unit)} (hk : ix u = k) (hB : ∀ Z a, NR (k + 1) v Z → Fr (NS v) (B Z a (u + 1))) (hZ : NR k v Z) (hw : v k = 0 ∨ w = -1) : Fr (NS v) (F_X1_shareByRemainders_j110 a u B Z w) := by
  unfold F_X1_shareByRemainders_j110
  simp only [bv]
  refine hB _ _ ⟨ns_38 hZ.1, fun p hp hb => ?_⟩
  rw [si_row, hk]
  by_cases h9 : p = k
  · rw [if_pos h9]
    rcases hw with hw | hw
    · exact absurd (by rw [h9]; exact hw) hb
    · exact hw
  · rw [if_neg h9]
    exact hZ.2 p (by omega) hb
theorem sr74 {v : Nat → Int32} {k : Nat} (w1 a u : Int32) {Z : Mem} {y : Int32} {B : Mem → Int32 → Int32 → Option (Mem × Unit)} (hk : ix u = k) (hB : ∀ Z a, NR (k + 1) v Z → Fr (NS v) (B Z a (u + 1))) (hZ : NR k v Z) (hy : v k = 0 ∨ y = 0) : Fr (NS v) (F_X1_shareByRemainders_j74 w1 Z a u B y) := by
  unfold F_X1_shareByRemainders_j74
  simp only [bv]
  refine fr_gd (fun _ => fr_gd (fun _ => ?_))
  have hZ2 : NR k v (si Z 36 (ix u) (y / w1)) := by
    refine ⟨ns_si hZ.1 ?_, fun p hp hb => ?_⟩
    · rw [hk]
      rcases hy with hy | hy
      · exact Or.inl hy
      · rw [hy]
        exact Or.inr (Int32.zero_div)
    · rw [si_ne (by decide)]
      exact hZ.2 p hp hb
  refine fr_calp (fun r er => fr_br (fun _ => ?_) (fun hr => fr_gd (fun _ => ?_)))
  · exact sr110 a u hk hB hZ2 (Or.inr rfl)
  · refine sr110 a u hk hB hZ2 (Or.inl ?_)
    have h9 := tp_33 er hr
    rw [hZ2.1.1, hk] at h9
    exact h9
theorem sr46 (v : Nat → Int32) (xa w1 : Int32) (K : Mem → Int32 → Option (Mem × Unit)) (hK : ∀ Z w, NR 4 v Z → Fr (NS v) (K Z w)) : ∀ (n : Nat) (Z : Mem) (a : Int32) (k : Nat), k ≤ 4 → NR k v Z → Fr (NS v) (F_X1_shareByRemainders_l46 xa w1 K n Z a (nI k)) := by
  intro n
  induction n with
  | zero =>
    intro Z a k _ _
    rw [F_X1_shareByRemainders_l46]
    exact fr_none
  | succ n IH =>
    intro Z a k hk hZ
    rw [F_X1_shareByRemainders_l46]
    simp only [bv]
    have eix : ix (nI k) = k := nI_clamp (by omega)
    refine fr_br (fun h4 => ?_) (fun h4 => ?_)
    · have h5 : k = 4 := by
        have : 4 ≤ k := (nI_leI (a := 4) (by decide) (by omega)).mp h4
        omega
      subst h5
      exact hK _ _ hZ
    · have h5 : k < 4 := by
        refine Nat.not_le.mp (fun h9 => h4 (nI_le (a := 4) h9 (by omega)))
      have hB : ∀ Z a, NR (k + 1) v Z → Fr (NS v) (F_X1_shareByRemainders_l46 xa w1 K n Z a (nI k + 1)) := fun Z a h => by
        rw [nI_1]
        exact IH Z a (k + 1) (by omega) h
      refine fr_calp (fun r er => fr_br (fun _ => ?_) (fun hr => fr_gd (fun _ => ?_)))
      · exact sr74 w1 a (nI k) eix hB hZ (Or.inr rfl)
      · refine sr74 w1 a (nI k) eix hB hZ (Or.inl ?_)
        have h9 := tp_33 er hr
        rw [hZ.1.1, eix] at h9
        exact h9
theorem sr4 (v : Nat → Int32) {Z : Mem} (K : Int32 → Option (Mem × Unit)) (hK : ∀ w, Fr (NS v) (K w)) : ∀ (n : Nat) (a u : Int32), Fr (NS v) (F_X1_shareByRemainders_l4 Z K n a u) := by
  intro n
  induction n with
  | zero =>
    intro a u
    rw [F_X1_shareByRemainders_l4]
    exact fr_none
  | succ n IH =>
    intro a u
    rw [F_X1_shareByRemainders_l4]
    simp only [bv]
    exact fr_br (fun _ => hK _) (fun _ => fr_calp (fun r er => fr_br (fun _ => IH _ _) (fun hr => fr_gd (fun _ => IH _ _))))
theorem sre {v : Nat → Int32} {Z : Mem} (xa : Int32) (hZ : Z.1 33 = v ∧ ∀ p, p < 4 → ¬ v p = 0 → Z.1 36 p = 0) : Fr (NS v) (F_X1_shareByRemainders Z xa) := by
  unfold F_X1_shareByRemainders
  refine sr4 v _ (fun w => ?_) 100 0 0
  unfold F_X1_shareByRemainders_x4
  refine fr_br (fun _ => fr_some hZ) (fun _ => ?_)
  refine sr46 v xa w _ (fun Z1 w3 h1 => ?_) 100 Z xa 0 (by decide) ⟨hZ, fun p hp => absurd hp (Nat.not_lt_zero _)⟩
  unfold F_X1_shareByRemainders_x46
  exact sr130 v w3 _ (fun Z2 h2 => fr_some h2.1) bigN Z1 0 h1
theorem ss2 (v : Nat → Int32) (K : Mem → Option (Mem × Unit)) (hK : ∀ Z, (Z.1 33 = v ∧ ∀ p, p < 4 → ¬ v p = 0 → Z.1 36 p = 0) → Fr (NS v) (K Z)) : ∀ (n : Nat) (Z : Mem) (k : Nat), k ≤ 4 → (Z.1 33 = v ∧ ∀ p, p < k → Z.1 36 p = 0) → Fr (NS v) (F_X1_shareSeats_l2 K n Z (nI k)) := by
  intro n
  induction n with
  | zero =>
    intro Z k _ _
    rw [F_X1_shareSeats_l2]
    exact fr_none
  | succ n IH =>
    intro Z k hk hZ
    rw [F_X1_shareSeats_l2]
    simp only [bv]
    have eix : ix (nI k) = k := nI_clamp (by omega)
    refine fr_br (fun h4 => ?_) (fun h4 => fr_gd (fun _ => ?_))
    · have h5 : 4 ≤ k := (nI_leI (a := 4) (by decide) (by omega)).mp h4
      exact hK _ ⟨hZ.1, fun p hp _ => hZ.2 p (by omega)⟩
    · have h5 : k < 4 := by
        refine Nat.not_le.mp (fun h9 => h4 (nI_le (a := 4) h9 (by omega)))
      rw [nI_1, eix]
      refine IH _ (k + 1) (by omega) ⟨r33_si hZ.1 (by decide), fun p hp => ?_⟩
      rw [si_row]
      by_cases h9 : p = k
      · rw [if_pos h9]
      · rw [if_neg h9]
        exact hZ.2 p (by omega)
theorem shs {v : Nat → Int32} {Z : Mem} (xa xb : Int32) (hv : Z.1 33 = v) : Fr (NS v) (F_X1_shareSeats Z xa xb) := by
  unfold F_X1_shareSeats
  refine ss2 v _ (fun Z1 h1 => ?_) 100 Z 0 (by decide) ⟨hv, fun p hp => absurd hp (Nat.not_lt_zero _)⟩
  unfold F_X1_shareSeats_x2 F_X1_shareSeats_j45
  refine fr_br (fun _ => ?_) (fun _ => fr_br (fun _ => ?_) (fun _ => ?_))
  · exact fr_cal (sre xa h1) (fun Y _ hY => fr_some hY)
  · exact fr_cal (sdv xa 2 h1) (fun Y _ hY => fr_some hY)
  · exact fr_cal (sdv xa 1 h1) (fun Y _ hY => fr_some hY)
