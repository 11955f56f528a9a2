/-! p31: two runs side by side: what is told is the same, so the answers are. -/
def Sg {β : Type} (Q : β → β → Prop) (x1 x2 : Option β) : Prop := ∃ r1 r2, x1 = some r1 ∧ x2 = some r2 ∧ Q r1 r2
section SG
variable {α β T0 : Type} {Q : β → β → Prop}
theorem sg_bv {x1 x2 t : α} {f1 f2 : α → Option β} (e1 : x1 = t) (e2 : x2 = t) (k : ∀ y, y = t → Sg Q (f1 y) (f2 y)) : Sg Q (bv x1 f1) (bv x2 f2) := by
  subst e1
  subst e2
  exact k _ rfl
theorem sg_bz {x1 x2 : α} {f1 f2 : α → Option β} (k : ∀ Y1 Y2, Y1 = x1 → Y2 = x2 → Sg Q (f1 Y1) (f2 Y2)) : Sg Q (bv x1 f1) (bv x2 f2) := k _ _ rfl rfl
theorem sg_gd {c : Prop} [Decidable c] {x1 x2 : Option β} (h : c) (k : Sg Q x1 x2) : Sg Q (gd c x1) (gd c x2) := by
  unfold gd
  rw [if_pos h, if_pos h]
  exact k
theorem sg_br {c : Prop} [Decidable c] {x1 x2 y1 y2 : Option β} (k1 : c → Sg Q x1 x2) (k2 : ¬ c → Sg Q y1 y2) : Sg Q (br c x1 y1) (br c x2 y2) := by
  unfold br
  by_cases h : c
  · rw [if_pos h, if_pos h]
    exact k1 h
  · rw [if_neg h, if_neg h]
    exact k2 h
theorem sg_brn {c : Prop} [Decidable c] {x1 x2 y1 y2 : Option β} (k2 : ¬ c → Sg Q y1 y2) (k1 : c → Sg Q x1 x2) : Sg Q (br c x1 y1) (br c x2 y2) := sg_br k1 k2
/-- both answer alike, and so are the numbers behind -/
def Qi (P : Mem → Mem → T0 → Prop) : Mem × T0 → Mem × T0 → Prop := fun a b => a.2 = b.2 ∧ P a.1 b.1 a.2
theorem sg_calp {P : T0 → Prop} {x1 x2 : Option T0} {f1 f2 : T0 → Option β} (h : Sg (fun a b => a = b ∧ P a) x1 x2) (k : ∀ r, P r → Sg Q (f1 r) (f2 r)) : Sg Q (calp x1 f1) (calp x2 f2) := by
  obtain ⟨r1, r2, rfl, rfl, rfl, hP⟩ := h
  exact k r1 hP
theorem sg_cal {P : Mem → Mem → T0 → Prop} {x1 x2 : Option (Mem × T0)} {f1 f2 : Mem → T0 → Option β} (h : Sg (Qi P) x1 x2) (k : ∀ Y1 Y2 r, P Y1 Y2 r → Sg Q (f1 Y1 r) (f2 Y2 r)) : Sg Q (cal x1 f1) (cal x2 f2) := by
  obtain ⟨⟨Y1, r1⟩, ⟨Y2, r2⟩, rfl, rfl, h1, hP⟩ := h
  have h2 : r1 = r2 := h1
  subst h2
  exact k Y1 Y2 r1 hP
theorem sg_go {x1 x2 : Option β} (k : ∀ Q' : β → β → Prop, Q' = Q → Sg Q' x1 x2) : Sg Q x1 x2 := k Q rfl
theorem sg_retm {P : Mem → Mem → T0 → Prop} {Z1 Z2 : Mem} {r : T0} (h : P Z1 Z2 r) : Sg (Qi P) (some (Z1, r)) (some (Z2, r)) := ⟨_, _, rfl, rfl, rfl, h⟩
theorem sg_ret {r1 r2 : β} (h : Q r1 r2) : Sg Q (some r1) (some r2) := ⟨r1, r2, rfl, rfl, h⟩
end SG
/-- a count: not below 0, not above n -/
def Nn (v : Int32) (n : Nat) : Prop := v = nI (ix v) ∧ ix v ≤ n
/-- one of n places, or none -/
def Op (v : Int32) (n : Nat) : Prop := v = -1 ∨ ¬ (v < 0 ∨ n ≤ ix v)
/-- a double's magnitude is bounded -/
def Mg (x : UInt64) (K : Nat) : Prop := x.toNat % 2 ^ 63 < K * 2 ^ 52
theorem ix_nI {k : Nat} (h : k < 2 ^ 31) : ix (nI k) = k := nI_clamp h
theorem nle_nI {a b : Nat} (ha : a < 2 ^ 31) (hb : b < 2 ^ 31) : nI a ≤ nI b ↔ a ≤ b := nI_leI ha hb
theorem nIs (k : Nat) : nI k + (1 : Int32) = nI (k + 1) := nI_1 k
theorem n0_nI {k : Nat} (h : k < 2 ^ 31) : ¬ nI k < 0 := nI_pos h
theorem in_nI {k n : Nat} (h : k < n) (hn : n ≤ 1000) : ¬ (nI k < 0 ∨ n ≤ ix (nI k)) := by
  intro h1
  rcases h1 with h1 | h1
  · exact n0_nI (by omega) h1
  · rw [ix_nI (by omega)] at h1
    omega
theorem in_Nn {v : Int32} {n m : Nat} (h : Nn v n) (hm : n < m) (h1 : m ≤ 1000) : ¬ (v < 0 ∨ m ≤ ix v) := by
  rw [h.1]
  exact in_nI (Nat.lt_of_le_of_lt h.2 hm) h1
theorem in_mono {v : Int32} {n m : Nat} (h : ¬ (v < 0 ∨ n ≤ ix v)) (hm : n ≤ m) : ¬ (v < 0 ∨ m ≤ ix v) := fun h1 => h (h1.elim Or.inl (fun h2 => Or.inr (Nat.le_trans hm h2)))
theorem in_Op {v : Int32} {n : Nat} (h : Op v n) (hc : ¬ v = -1) : ¬ (v < 0 ∨ n ≤ ix v) := h.elim (fun h1 => absurd h1 hc) id
theorem ix_in {v : Int32} {n : Nat} (h : ¬ (v < 0 ∨ n ≤ ix v)) : ix v < n := Nat.not_le.mp fun h9 => h (Or.inr h9)
/-- a counter that has not come to its bound, or has -/
theorem ct_lt {y : Int32} {B k : Nat} (e : y = nI B) (hB : B ≤ 1000) (hk : k ≤ 1000) (h : ¬ y ≤ nI k) : k < B := by
  rw [e, nle_nI (by omega) (by omega)] at h
  omega
theorem ct_le {y : Int32} {B k : Nat} (e : y = nI B) (hB : B ≤ 1000) (hk : k ≤ 1000) (h : y ≤ nI k) : B ≤ k := by
  rwa [e, nle_nI (by omega) (by omega)] at h
theorem ct_lt9 {y : Int32} {B k : Nat} (e : y = nI B) (hB : B ≤ 1000) (hk : k ≤ 1000) (h : ¬ y < nI k) : k < B + 1 := by
  rw [e, nI_ltI (by omega) (by omega)] at h
  omega
theorem ct_le9 {y : Int32} {B k : Nat} (e : y = nI B) (hB : B ≤ 1000) (hk : k ≤ 1000) (h : y < nI k) : B + 1 ≤ k := by
  rw [e, nI_ltI (by omega) (by omega)] at h
  omega
theorem in_btw {x y : Int32} {n : Nat} (h0 : ¬ x < 0) (hc : ¬ y ≤ x) (h : Nn y n) : ¬ (x < 0 ∨ n ≤ ix x) := by
  intro h1
  rcases h1 with h1 | h1
  · exact h0 h1
  · obtain ⟨j, hj, rfl⟩ := nI_of h0
    have hj2 : ix (nI j) = j := nI_clamp hj
    rw [h.1] at hc
    have h2 := h.2
    refine hc ?_
    exact nI_le (by omega) hj
theorem len_pos {y : Int32} {n : Nat} (h : Nn y n) (hn : n ≤ 1000) (hc : ¬ y ≤ 0) : 0 < ix y := by
  rw [h.1] at hc
  have h1 := h.2
  refine Nat.pos_of_ne_zero (fun h2 => hc ?_)
  rw [h2]
  decide
/-- one place more -/
def one (S : Nat → Nat → Prop) (i j : Nat) : Nat → Nat → Prop := fun a b => S a b ∨ (a = i ∧ b = j)
theorem one_l {S : Nat → Nat → Prop} {i j a b : Nat} (h : S a b) : one S i j a b := Or.inl h
theorem one_in {S : Nat → Nat → Prop} {i j : Nat} : one S i j i j := Or.inr ⟨rfl, rfl⟩
/-- more places -/
def ext (S : Nat → Nat → Prop) (i n : Nat) : Nat → Nat → Prop := fun a b => S a b ∨ (a = i ∧ b < n)
theorem ext_in {S : Nat → Nat → Prop} {i n j : Nat} (h : j < n) : ext S i n i j := Or.inr ⟨rfl, h⟩
theorem ext_l {S : Nat → Nat → Prop} {i n a b : Nat} (h : S a b) : ext S i n a b := Or.inl h
/-- rows b .. b + k - 1, and m places of the next -/
def ext2 (S : Nat → Nat → Prop) (i k m : Nat) : Nat → Nat → Prop := fun a b => S a b ∨ (i ≤ a ∧ a < i + k ∧ b < 6) ∨ (a = i + k ∧ b < m)
theorem ext2_l {S : Nat → Nat → Prop} {i k m a b : Nat} (h : S a b) : ext2 S i k m a b := Or.inl h
theorem ext2_in {S : Nat → Nat → Prop} {i k m r j : Nat} (h1 : r < k) (h2 : j < 6) : ext2 S i k m (i + r) j := Or.inr (Or.inl ⟨by omega, by omega, h2⟩)
/-- what is told is well formed -/
def WFt (T : Mem) : Prop := (Nn (T.1 1 2) 6 ∧ Nn (T.1 1 3) 6 ∧ Nn (T.1 1 5) 4 ∧ Nn (T.1 1 7) 24 ∧ Nn (T.1 1 8) 20) ∧ (∀ j, j < 6 → Nn (T.1 2 j) 3) ∧ (∀ j, j < 4 → Nn (T.1 4 j) 5) ∧ (∀ k, k < 24 → Nn (T.1 (39 + k) 5) 6 ∧ Nn (T.1 (39 + k) 2) 500 ∧ (T.1 (39 + k) 3 = 0 ∨ T.1 (39 + k) 3 = 1) ∧ ∀ j, j < 6 → Nn (T.1 (64 + k) j) 5) ∧ (∀ k, k < ix (T.1 1 7) → Nn (T.1 (39 + k) 0) 3 ∧ ix (T.1 (39 + k) 0) < ix (T.1 1 5))
/-- these numbers are what T tells -/
def tl (rk : Prop) (T Z : Mem) : Prop := (∀ j, j < 11 → Z.1 1 j = T.1 1 j) ∧ (∀ i j, 2 ≤ i → i ≤ 4 → j < 6 → Z.1 i j = T.1 i j) ∧ (∀ k, k < ix (T.1 1 7) → (∀ j, j < 6 → (j = 1 → rk) → j ≠ 4 → Z.1 (39 + k) j = T.1 (39 + k) j) ∧ ∀ j, j < ix (T.1 (39 + k) 5) → Z.1 (64 + k) j = T.1 (64 + k) j)
def Vb (Z : Mem) : Prop := ∀ k, k < 25 → Mg (Z.2 (39 + k) 6) 1100
/-- .. and the stacks' numbers are those of B -/
def tb (rk : Prop) (T B Z : Mem) : Prop := tl rk T Z ∧ ∀ i, 39 ≤ i → Z.1 i = B.1 i
def Ag (B : Mem × Mem) (T : Mem) (rk : Prop) (S D : Nat → Nat → Prop) (Z1 Z2 : Mem) : Prop := WFt T ∧ (tb rk T B.1 Z1 ∧ tb rk T B.2 Z2) ∧ (Vb Z1 ∧ Vb Z2) ∧ (∀ a b, S a b → Z1.1 a b = Z2.1 a b) ∧ (∀ a b, D a b → Z1.2 a b = Z2.2 a b)
section AG
variable {B : Mem × Mem} {T : Mem} {rk : Prop} {S D S' D' : Nat → Nat → Prop} {Z1 Z2 Z : Mem}
theorem si_ne {i j a b : Nat} {v : Int32} (h : a ≠ i) : (si Z i j v).1 a b = Z.1 a b := by
  unfold si
  simp [h]
theorem si_same {i j : Nat} {v : Int32} : (si Z i j v).1 i j = v := by
  unfold si upd
  simp
theorem si_row {i j b : Nat} {v : Int32} : (si Z i j v).1 i b = if b = j then v else Z.1 i b := by
  unfold si upd
  simp
theorem sd_ne {i j a b : Nat} {v : UInt64} (h : a ≠ i) : (sd Z i j v).2 a b = Z.2 a b := by
  unfold sd
  simp [h]
theorem sd_row {i j b : Nat} {v : UInt64} : (sd Z i j v).2 i b = if b = j then v else Z.2 i b := by
  unfold sd vf_upd
  simp
theorem tl_si {i j : Nat} {v : Int32} (hi : 4 < i ∧ i < 39) (h : tl rk T Z) : tl rk T (si Z i j v) := by
  refine ⟨fun b hb => ?_, fun a b h1 h2 h3 => ?_, fun k hk => ⟨fun b hb h1 h2 => ?_, fun b hb => ?_⟩⟩
  · rw [si_ne (by omega)]; exact h.1 b hb
  · rw [si_ne (by omega)]; exact h.2.1 a b h1 h2 h3
  · rw [si_ne (by omega)]; exact (h.2.2 k hk).1 b hb h1 h2
  · rw [si_ne (by omega)]; exact (h.2.2 k hk).2 b hb
theorem tb_si {i j : Nat} {v : Int32} {B1 : Mem} (hi : 4 < i ∧ i < 39) (h : tb rk T B1 Z) : tb rk T B1 (si Z i j v) := by
  refine ⟨tl_si hi h.1, fun a ha => ?_⟩
  rw [← h.2 a ha]
  funext b
  exact si_ne (by omega)
theorem ag_mono (h : Ag B T rk S D Z1 Z2) (hS : ∀ a b, S' a b → S a b) (hD : ∀ a b, D' a b → D a b) : Ag B T rk S' D' Z1 Z2 := ⟨h.1, h.2.1, h.2.2.1, fun a b h1 => h.2.2.2.1 a b (hS a b h1), fun a b h1 => h.2.2.2.2 a b (hD a b h1)⟩
theorem ag_si {i j : Nat} {v : Int32} (h : Ag B T rk S D Z1 Z2) (hi : 4 < i ∧ i < 39) (hS : ∀ a b, S' a b → S a b ∨ (a = i ∧ b = j)) : Ag B T rk S' D (si Z1 i j v) (si Z2 i j v) := by
  refine ⟨h.1, ⟨tb_si hi h.2.1.1, tb_si hi h.2.1.2⟩, h.2.2.1, fun a b h1 => ?_, h.2.2.2.2⟩
  by_cases ha : a = i
  · subst ha
    rw [si_row, si_row]
    by_cases hb : b = j
    · rw [if_pos hb, if_pos hb]
    · rw [if_neg hb, if_neg hb]
      rcases hS a b h1 with h2 | h2
      · exact h.2.2.2.1 a b h2
      · exact absurd h2.2 hb
  · rw [si_ne ha, si_ne ha]
    rcases hS a b h1 with h2 | h2
    · exact h.2.2.2.1 a b h2
    · exact absurd h2.1 ha
theorem Vb_sd {i j : Nat} {v : UInt64} (h : Vb Z) (hv : (i < 39) ∨ Mg v 1100) : Vb (sd Z i j v) := by
  intro k hk
  by_cases ha : 39 + k = i
  · subst ha
    rw [sd_row]
    split
    · rcases hv with hv | hv
      · omega
      · exact hv
    · exact h k hk
  · rw [sd_ne ha]
    exact h k hk
theorem ag_sd {i j : Nat} {v : UInt64} (h : Ag B T rk S D Z1 Z2) (hv : (i < 39) ∨ Mg v 1100) (hD : ∀ a b, D' a b → D a b ∨ (a = i ∧ b = j)) : Ag B T rk S D' (sd Z1 i j v) (sd Z2 i j v) := by
  refine ⟨h.1, h.2.1, ⟨Vb_sd h.2.2.1.1 hv, Vb_sd h.2.2.1.2 hv⟩, h.2.2.2.1, fun a b h1 => ?_⟩
  by_cases ha : a = i
  · subst ha
    rw [sd_row, sd_row]
    by_cases hb : b = j
    · rw [if_pos hb, if_pos hb]
    · rw [if_neg hb, if_neg hb]
      rcases hD a b h1 with h2 | h2
      · exact h.2.2.2.2 a b h2
      · exact absurd h2.2 hb
  · rw [sd_ne ha, sd_ne ha]
    rcases hD a b h1 with h2 | h2
    · exact h.2.2.2.2 a b h2
    · exact absurd h2.1 ha
/-- the same places -/
theorem st_id {i j : Nat} : ∀ a b, S a b → S a b ∨ (a = i ∧ b = j) := fun _ _ h => Or.inl h
/-- one place more of the row -/
theorem st_ext {i k : Nat} (hk : k < 1000) : ∀ a b, ext S i (k + 1) a b → ext S i k a b ∨ (a = i ∧ b = ix (nI k)) := by
  intro a b h
  rw [ix_nI (by omega)]
  rcases h with h | ⟨rfl, h⟩
  · exact Or.inl (Or.inl h)
  · by_cases hb : b = k
    · exact Or.inr ⟨rfl, hb⟩
    · exact Or.inl (Or.inr ⟨rfl, by omega⟩)
theorem st_cong {i j r n : Nat} (h : ∀ a b, S' a b → S a b ∨ (a = i ∧ b = j)) : ∀ a b, ext S' r n a b → ext S r n a b ∨ (a = i ∧ b = j) := by
  intro a b h1
  rcases h1 with h1 | h1
  · rcases h a b h1 with h2 | h2
    · exact Or.inl (Or.inl h2)
    · exact Or.inr h2
  · exact Or.inl (Or.inr h1)
theorem st_ext2 {i k m : Nat} (hm : m < 1000) : ∀ a b, ext2 S i k (m + 1) a b → ext2 S i k m a b ∨ (a = i + k ∧ b = ix (nI m)) := by
  intro a b h
  rw [ix_nI (by omega)]
  rcases h with h | h | ⟨h1, h2⟩
  · exact Or.inl (Or.inl h)
  · exact Or.inl (Or.inr (Or.inl h))
  · by_cases hb : b = m
    · exact Or.inr ⟨h1, hb⟩
    · exact Or.inl (Or.inr (Or.inr ⟨h1, by omega⟩))
theorem st_one {i j : Nat} : ∀ a b, one S i j a b → S a b ∨ (a = i ∧ b = j) := fun _ _ h => h
theorem st_cong1 {i j r n : Nat} (h : ∀ a b, S' a b → S a b ∨ (a = i ∧ b = j)) : ∀ a b, one S' r n a b → one S r n a b ∨ (a = i ∧ b = j) := by
  intro a b h1
  rcases h1 with h1 | h1
  · rcases h a b h1 with h2 | h2
    · exact Or.inl (Or.inl h2)
    · exact Or.inr h2
  · exact Or.inl (Or.inr h1)
theorem m_l1 {i n : Nat} (h : ∀ a b, S' a b → S a b) : ∀ a b, S' a b → one S i n a b := fun a b h1 => Or.inl (h a b h1)
theorem m_c1 {i n : Nat} (h : ∀ a b, S' a b → S a b) : ∀ a b, one S' i n a b → one S i n a b := fun a b h1 => h1.elim (fun h2 => Or.inl (h a b h2)) Or.inr
theorem m_l2 {i n m : Nat} (h : ∀ a b, S' a b → S a b) : ∀ a b, S' a b → ext2 S i n m a b := fun a b h1 => Or.inl (h a b h1)
theorem m_c2 {i n m : Nat} (h : ∀ a b, S' a b → S a b) : ∀ a b, ext2 S' i n m a b → ext2 S i n m a b := fun a b h1 => h1.elim (fun h2 => Or.inl (h a b h2)) Or.inr
theorem ext0 {i : Nat} : ∀ a b, ext S i 0 a b → S a b := fun _ _ h => h.elim id (fun h1 => absurd h1.2 (by omega))
theorem ext20 {i : Nat} : ∀ a b, ext2 S i 0 0 a b → S a b := fun _ _ h => h.elim id (fun h1 => h1.elim (fun h2 => by omega) (fun h2 => by omega))
theorem ext2n {i k : Nat} : ∀ a b, ext2 S i (k + 1) 0 a b → ext2 S i k 6 a b := by
  intro a b h
  rcases h with h | h | h
  · exact Or.inl h
  · by_cases ha : a = i + k
    · exact Or.inr (Or.inr ⟨ha, h.2.2⟩)
    · exact Or.inr (Or.inl ⟨h.1, by omega, h.2.2⟩)
  · exact absurd h.2 (by omega)
theorem st_ext2r {i k m r : Nat} (hm : m < 1000) (hr : r = k) : ∀ a b, ext2 S i k (m + 1) a b → ext2 S i k m a b ∨ (a = i + r ∧ b = ix (nI m)) := by
  subst hr
  exact st_ext2 hm
theorem m_id : ∀ a b : Nat, S a b → S a b := fun _ _ h => h
theorem m_l {i n : Nat} (h : ∀ a b, S' a b → S a b) : ∀ a b, S' a b → ext S i n a b := fun a b h1 => Or.inl (h a b h1)
theorem m_c {i n : Nat} (h : ∀ a b, S' a b → S a b) : ∀ a b, ext S' i n a b → ext S i n a b := fun a b h1 => h1.elim (fun h2 => Or.inl (h a b h2)) Or.inr
theorem m_0 {i : Nat} (h : ∀ a b, S' a b → S a b) : ∀ a b, ext S' i 0 a b → S a b := fun a b h1 => h a b (ext0 a b h1)
theorem m_02 {i : Nat} (h : ∀ a b, S' a b → S a b) : ∀ a b, ext2 S' i 0 0 a b → S a b := fun a b h1 => h a b (ext20 a b h1)
/-- reading -/
theorem ag_b (h : Ag B T rk S D Z1 Z2) {j : Nat} (hj : j < 11) : Z1.1 1 j = T.1 1 j ∧ Z2.1 1 j = T.1 1 j := ⟨h.2.1.1.1.1 j hj, h.2.1.2.1.1 j hj⟩
theorem ag_r (h : Ag B T rk S D Z1 Z2) {i j : Nat} (h1 : 2 ≤ i ∧ i ≤ 4) (hj : j < 6) : Z1.1 i j = T.1 i j ∧ Z2.1 i j = T.1 i j := ⟨h.2.1.1.1.2.1 i j h1.1 h1.2 hj, h.2.1.2.1.2.1 i j h1.1 h1.2 hj⟩
theorem ag_s (h : Ag B T rk S D Z1 Z2) {k j : Nat} (hk : k < ix (T.1 1 7)) (hj : j < 6 ∧ (j = 1 → rk) ∧ j ≠ 4) : Z1.1 (39 + k) j = T.1 (39 + k) j ∧ Z2.1 (39 + k) j = T.1 (39 + k) j := ⟨(h.2.1.1.1.2.2 k hk).1 j hj.1 hj.2.1 hj.2.2, (h.2.1.2.1.2.2 k hk).1 j hj.1 hj.2.1 hj.2.2⟩
theorem ag_l (h : Ag B T rk S D Z1 Z2) {k j : Nat} (hk : k < ix (T.1 1 7)) (hj : j < ix (T.1 (39 + k) 5)) : Z1.1 (64 + k) j = T.1 (64 + k) j ∧ Z2.1 (64 + k) j = T.1 (64 + k) j := ⟨(h.2.1.1.1.2.2 k hk).2 j hj, (h.2.1.2.1.2.2 k hk).2 j hj⟩
theorem wf_l (h : WFt T) {k j : Nat} (hk : k < ix (T.1 1 7)) (hj : j < 6) : Nn (T.1 (64 + k) j) 5 := (h.2.2.2.1 k (Nat.lt_of_lt_of_le hk h.1.2.2.2.1.2)).2.2.2 j hj
theorem wf_len (h : WFt T) {k : Nat} (hk : k < ix (T.1 1 7)) : Nn (T.1 (39 + k) 5) 6 := (h.2.2.2.1 k (Nat.lt_of_lt_of_le hk h.1.2.2.2.1.2)).1
theorem wf_cnt (h : WFt T) {k : Nat} (hk : k < ix (T.1 1 7)) : Nn (T.1 (39 + k) 2) 500 := (h.2.2.2.1 k (Nat.lt_of_lt_of_le hk h.1.2.2.2.1.2)).2.1
theorem wf_dis (h : WFt T) {k : Nat} (hk : k < ix (T.1 1 7)) : Nn (T.1 (39 + k) 0) 3 := (h.2.2.2.2 k hk).1
theorem wf_cast (h : WFt T) : ix (T.1 1 7) ≤ 24 := h.1.2.2.2.1.2
end AG
/-! p31: doubles: no NaN comes up. -/
theorem fp_bits {x : UInt64} (h : x.toNat % 2 ^ 63 ≤ 9218868437227405312) : x &&& 0x7fffffffffffffff ≤ 0x7ff0000000000000 := by
  rw [UInt64.le_iff_toNat_le, UInt64.toNat_and]
  have e1 : (0x7fffffffffffffff : UInt64).toNat = 2 ^ 63 - 1 := by decide
  have e2 : (0x7ff0000000000000 : UInt64).toNat = 9218868437227405312 := by decide
  rw [e1, e2, Nat.and_two_pow_sub_one_eq_mod]
  exact h
theorem mg_g {x : UInt64} {K : Nat} (h : Mg x K) (hK : K ≤ 2047) : x &&& 0x7fffffffffffffff ≤ 0x7ff0000000000000 := by
  refine fp_bits (Nat.le_of_lt (Nat.lt_of_lt_of_le h ?_))
  exact Nat.le_trans (Nat.mul_le_mul_right _ hK) (by decide)
theorem nn_g {x : UInt64} (h : FP.Core.dIsNaN x = false) : x &&& 0x7fffffffffffffff ≤ 0x7ff0000000000000 := fp_bits ((FP.Core.ne_nan x).mp ((FP.Core.notNaN_iff x).mp h))
theorem mg_mono {x : UInt64} {K L : Nat} (h : Mg x K) (hk : K ≤ L) : Mg x L := by
  exact Nat.lt_of_lt_of_le h (Nat.mul_le_mul_right _ hk)
theorem mg_fin {x : UInt64} {K : Nat} (h : Mg x K) (hK : K ≤ 2047) : FP.Core.DFin x := by
  rw [FP.Core.fin_bits]
  exact Nat.lt_of_lt_of_le h (Nat.le_trans (Nat.mul_le_mul_right _ hK) (by decide))
theorem fin_nn {x : UInt64} (h : FP.Core.DFin x) : FP.Core.dIsNaN x = false := by
  rw [FP.Core.notNaN_iff]
  obtain ⟨s, c, q, h1⟩ := h
  rw [h1]
  intro h2
  cases h2
theorem mg_i2d (v : Int32) : Mg (FP.i2d v) 1056 := FP.Core.i2d_mag v
theorem mg_l2d (v : Int64) : Mg (FP.l2d v) 1088 := FP.Core.l2d_mag v
theorem mg_c {x : UInt64} {K : Nat} (h : decide (x.toNat % 2 ^ 63 < K * 2 ^ 52) = true) : Mg x K := by
  unfold Mg
  exact of_decide_eq_true h
theorem mg_add {a b : UInt64} {K : Nat} (ha : Mg a K) (hb : Mg b K) (hK : K ≤ 2047) : Mg (FP.dadd a b) (K + 2) := FP.Core.dadd_mag ha hb hK
theorem mg_sub {a b : UInt64} {K : Nat} (ha : Mg a K) (hb : Mg b K) (hK : K ≤ 2047) : Mg (FP.dsub a b) (K + 2) := FP.Core.dsub_mag ha hb hK
theorem mg_mul {a b : UInt64} {K L : Nat} (ha : Mg a K) (hb : Mg b L) (hK : K ≤ 2047) (hL : L ≤ 2047) : Mg (FP.dmul a b) (K + L - 1025 + 3) := FP.Core.dmul_mag ha hb hK hL
theorem mg_div {a b : UInt64} {K L : Nat} (ha : Mg a K) (hb : decide (L * 2 ^ 52 ≤ b.toNat % 2 ^ 63 ∧ b.toNat % 2 ^ 63 < 2047 * 2 ^ 52) = true) (hK : K ≤ 2047) (hL : 1 ≤ L) : Mg (FP.ddiv a b) (K + (1074 - 52 - 1) - L + 3) := by
  have h := of_decide_eq_true hb
  exact FP.Core.ddiv_mag ha h.1 h.2 hK hL
/-- points while they are added up: m stacks are through, of the next one the candidates below k -/
def PtC (m k : Nat) (Z : Mem) : Prop := ∀ j, j < 6 → Mg (Z.2 8 j) (1060 + 2 * m + (if j < k then 2 else 0))
def Pt (m : Nat) (Z : Mem) : Prop := ∀ j, j < 6 → Mg (Z.2 8 j) (1060 + 2 * m)
theorem pt_0 {m : Nat} {Z : Mem} (h : Pt m Z) : PtC m 0 Z := fun j hj => mg_mono (h j hj) (by omega)
theorem pt_6 {m k : Nat} {Z : Mem} (h : PtC m k Z) : Pt (m + 1) Z := fun j hj => mg_mono (h j hj) (by split <;> omega)
theorem pt_up {m k : Nat} {Z : Mem} (h : PtC m k Z) : PtC m (k + 1) Z := fun j hj => mg_mono (h j hj) (by (repeat' split) <;> omega)
theorem pt_mono {m n : Nat} {Z : Mem} (h : Pt m Z) (hm : m ≤ n) : Pt n Z := fun j hj => mg_mono (h j hj) (by omega)
theorem pt_at {m k : Nat} {Z : Mem} (h : PtC m k Z) (hk : k < 6) : Mg (Z.2 8 (ix (nI k))) (1060 + 2 * m) := by
  have h1 := h k hk
  rw [if_neg (by omega)] at h1
  rw [ix_nI (by omega)]
  exact h1
theorem pt_sd {m k : Nat} {Z : Mem} {v : UInt64} (h : PtC m k Z) (hk : k < 6) (hv : Mg v (1060 + 2 * m + 2)) : PtC m (k + 1) (sd Z 8 (ix (nI k)) v) := by
  intro j hj
  rw [sd_row, ix_nI (by omega)]
  by_cases hb : j = k
  · rw [if_pos hb, if_pos (by omega)]
    exact hv
  · rw [if_neg hb]
    exact mg_mono (h j hj) (by (repeat' split) <;> omega)
/-- a row of doubles below a bound, as far as it is filled -/
def Rd (i n K : Nat) (Z : Mem) : Prop := ∀ j, j < n → Mg (Z.2 i j) K
theorem rd_0 {i K : Nat} {Z : Mem} : Rd i 0 K Z := fun j hj => absurd hj (by omega)
theorem rd_sd {i k K : Nat} {Z : Mem} {v : UInt64} (h : Rd i k K Z) (hk : k < 1000) (hv : Mg v K) : Rd i (k + 1) K (sd Z i (ix (nI k)) v) := by
  intro j hj
  rw [sd_row, ix_nI (by omega)]
  by_cases hb : j = k
  · rw [if_pos hb]
    exact hv
  · rw [if_neg hb]
    exact h j (by omega)
theorem rd_any {i n m j K : Nat} {Z : Mem} {v : UInt64} (h : Rd i n K Z) (hv : Mg v m) (h1 : K ≤ m) : Rd i n m (sd Z i j v) := by
  intro b hb
  rw [sd_row]
  split
  · exact hv
  · exact mg_mono (h b hb) h1
theorem rd_mono {i n K L : Nat} {Z : Mem} (h : Rd i n K Z) (h1 : K ≤ L) : Rd i n L Z := fun j hj => mg_mono (h j hj) h1
theorem rd_ne {i n a j K : Nat} {Z : Mem} {v : UInt64} (h : Rd i n K Z) (h1 : i ≠ a) : Rd i n K (sd Z a j v) := by
  intro b hb
  rw [sd_ne h1]
  exact h b hb
/-- a row of numbers that is 0 as far as it is filled -/
def Zr (i n : Nat) (Z : Mem) : Prop := ∀ j, j < n → Z.1 i j = 0
theorem zr_0 {i : Nat} {Z : Mem} : Zr i 0 Z := fun j hj => absurd hj (by omega)
theorem zr_si {i k : Nat} {Z : Mem} (h : Zr i k Z) (hk : k < 1000) : Zr i (k + 1) (si Z i (ix (nI k)) 0) := by
  intro j hj
  rw [si_row, ix_nI (by omega)]
  by_cases hb : j = k
  · rw [if_pos hb]
  · rw [if_neg hb]
    exact h j (by omega)
/-- seats while they are given: none has more than k, none who is barred has any -/
def Se (k : Nat) (Z : Mem) : Prop := (∀ j, j < 4 → Nn (Z.1 36 j) k) ∧ ∀ j, j < 4 → ¬ Z.1 33 j = 0 → Z.1 36 j = 0
theorem nn_0 (k : Nat) : Nn 0 k := ⟨rfl, Nat.zero_le k⟩
theorem nn_mono {v : Int32} {m n : Nat} (h : Nn v m) (hm : m ≤ n) : Nn v n := ⟨h.1, Nat.le_trans h.2 hm⟩
theorem nn_up {v : Int32} {n : Nat} (h : Nn v n) (hn : n < 100000) : Nn (v + 1) (n + 1) := by
  have h2 := h.2
  rw [h.1, nI_1]
  refine ⟨?_, ?_⟩
  · rw [ix_nI (by omega)]
  · rw [ix_nI (by omega)]
    omega
theorem se_0 {Z : Mem} (h : Zr 36 4 Z) : Se 0 Z := ⟨fun j hj => by rw [h j hj]; exact nn_0 0, fun j hj _ => h j hj⟩
theorem se_up {k : Nat} {Z : Mem} (h : Se k Z) : Se (k + 1) Z := ⟨fun j hj => nn_mono (h.1 j hj) (by omega), h.2⟩
theorem se_mono {k n : Nat} {Z : Mem} (h : Se k Z) (hk : k ≤ n) : Se n Z := ⟨fun j hj => nn_mono (h.1 j hj) hk, h.2⟩
theorem se_si {k : Nat} {Z : Mem} {v : Int32} (h : Se k Z) (hk : k < 1000) (hv : ¬ (v < 0 ∨ 4 ≤ ix v)) (hb : Z.1 33 (ix v) = 0) : Se (k + 1) (si Z 36 (ix v) (Z.1 36 (ix v) + 1)) := by
  have h4 := ix_in hv
  refine ⟨fun j hj => ?_, fun j hj h1 => ?_⟩
  · rw [si_row]
    split
    · exact nn_up (h.1 _ h4) (by omega)
    · exact nn_mono (h.1 j hj) (by omega)
  · rw [si_ne (by decide)] at h1
    rw [si_row]
    by_cases hj2 : j = ix v
    · rw [hj2] at h1
      exact absurd hb h1
    · rw [if_neg hj2]
      exact h.2 j hj h1
/-- what is divided by is not 0 -/
theorem dv_ne {xb s y1 y2 : Int32} {k : Nat} (hb : xb = 1 ∨ xb = 2) (hs : Nn s k) (hk : k ≤ 1000) (e1 : y1 = xb * s) (e2 : y2 = 1 + y1) : y2.toInt ≠ 0 := by
  subst e2
  subst e1
  have h2 := hs.2
  rw [hs.1]
  rcases hb with rfl | rfl
  · have e : (1 : Int32) + 1 * nI (ix s) = nI (1 + 1 * ix s) := by
      rw [show (1 : Int32) = nI 1 from rfl, pk_mul, nI_add]
    rw [e, nI_toInt (by omega)]
    omega
  · have e : (1 : Int32) + 2 * nI (ix s) = nI (1 + 2 * ix s) := by
      rw [show (1 : Int32) = nI 1 from rfl, show (2 : Int32) = nI 2 from rfl, pk_mul, nI_add]
    rw [e, nI_toInt (by omega)]
    omega
theorem sh_g {a b : Int32} (h : b.toInt ≠ 0) : FP.ddiv (FP.i2d a) (FP.i2d b) &&& 0x7fffffffffffffff ≤ 0x7ff0000000000000 := by
  have h1 := FP.Core.i2d_big h
  have h2 : Mg (FP.ddiv (FP.i2d a) (FP.i2d b)) (1056 + (1074 - 52 - 1) - 1023 + 3) := FP.Core.ddiv_mag (mg_i2d a) h1.1 h1.2 (by decide) (by decide)
  exact mg_g h2 (by decide)
/-- the transfers' divisor: it is above 0 -/
theorem lw_nz {x : UInt64} {K : Nat} {y : Int32} (hx : Mg x K) (hK : K ≤ 2047) (e : y = Op.cmpValue (FP.dcmp x FP.dconst0) .g) (hy : ¬ y ≤ 0) : ¬ FP.Core.DZero x := by
  intro hz
  have h1 : FP.dcmp x 0 = some .eq := FP.Core.zero_iff.mpr hz
  have h0 : FP.dconst0 = 0 := rfl
  rw [h0, h1] at e
  subst e
  exact hy (by decide)
theorem lw_nz2 {x : UInt64} {y : Int32} (e : y = Op.cmpValue (FP.dcmp x FP.dconst0) .g) (hy : 0 < y) : ¬ FP.Core.DZero x := by
  intro hz
  have h1 : FP.dcmp x 0 = some .eq := FP.Core.zero_iff.mpr hz
  have h0 : FP.dconst0 = 0 := rfl
  rw [h0, h1] at e
  subst e
  exact absurd hy (by decide)
theorem nn_ne {y z : Int32} {n : Nat} (h : Nn y n) (hn : n ≤ 1000) (e : z = y + 1) : ¬ z = 0 := by
  subst e
  have h2 := h.2
  rw [h.1, nI_1]
  exact nI_ne0 (by omega) (by omega)
theorem nn_lt {y u : Int32} {n m : Nat} (hy : Nn y n) (hu : Nn u m) (hn : n ≤ 1000) (hm : m ≤ 1000) (hc : ¬ y ≤ u) : ix u < ix y := by
  have h1 := hy.2
  have h2 := hu.2
  rw [hy.1, hu.1, nI_leI (by omega) (by omega)] at hc
  omega
theorem nn_in {y u : Int32} {n m : Nat} (hy : Nn y n) (hu : Nn u m) (hn : n ≤ 1000) (hm : m ≤ 1000) (hc : ¬ y ≤ u) : ¬ (u < 0 ∨ n ≤ ix u) := by
  have h3 := nn_lt hy hu hn hm hc
  have h1 := hy.2
  rw [hu.1]
  exact in_nI (by omega) hn
theorem nn_up2 {y u : Int32} {n m : Nat} (hy : Nn y n) (hu : Nn u m) (hn : n ≤ 1000) (hm : m ≤ 1000) (hc : ¬ y ≤ u) : Nn (u + 1) n := by
  have h3 := nn_lt hy hu hn hm hc
  have h1 := hy.2
  have h4 : Nn u (n - 1) := ⟨hu.1, by omega⟩
  have h5 := nn_up h4 (by omega)
  rwa [show n - 1 + 1 = n by omega] at h5
/-- values of a district's stacks that are agreed on -/
def vds (D : Nat → Nat → Prop) (T : Mem) (d : Int32) (n : Nat) : Nat → Nat → Prop := fun a b => D a b ∨ (b = 6 ∧ ∃ k, k < n ∧ a = 39 + k ∧ T.1 (39 + k) 0 = d)
def vall (D : Nat → Nat → Prop) (T : Mem) (n : Nat) : Nat → Nat → Prop := fun a b => D a b ∨ (b = 6 ∧ ∃ k, k < ix (T.1 1 7) ∧ a = 39 + k ∧ ix (T.1 (39 + k) 0) < n)
section VD
variable {D D' : Nat → Nat → Prop} {T : Mem} {d : Int32}
theorem vds_l {n a b : Nat} (h : D a b) : vds D T d n a b := Or.inl h
theorem vall_l {n a b : Nat} (h : D a b) : vall D T n a b := Or.inl h
theorem vds_in {n k : Nat} (hk : k < n) (h : T.1 (39 + k) 0 = d) : vds D T d n (39 + k) 6 := Or.inr ⟨rfl, k, hk, rfl, h⟩
theorem vall_in {n k : Nat} (hk : k < ix (T.1 1 7)) (h : ix (T.1 (39 + k) 0) < n) : vall D T n (39 + k) 6 := Or.inr ⟨rfl, k, hk, rfl, h⟩
theorem vds_0 (h : ∀ a b, D' a b → D a b) : ∀ a b, vds D' T d 0 a b → D a b := fun a b h1 => h1.elim (h a b) (fun h2 => by obtain ⟨_, k, hk, _⟩ := h2; omega)
theorem vall_0 (h : ∀ a b, D' a b → D a b) : ∀ a b, vall D' T 0 a b → D a b := fun a b h1 => h1.elim (h a b) (fun h2 => by obtain ⟨_, k, _, _, hk⟩ := h2; omega)
theorem m_lv {n : Nat} (h : ∀ a b, D' a b → D a b) : ∀ a b, D' a b → vds D T d n a b := fun a b h1 => Or.inl (h a b h1)
theorem m_cv {n : Nat} (h : ∀ a b, D' a b → D a b) : ∀ a b, vds D' T d n a b → vds D T d n a b := fun a b h1 => h1.elim (fun h2 => Or.inl (h a b h2)) Or.inr
theorem m_la {n : Nat} (h : ∀ a b, D' a b → D a b) : ∀ a b, D' a b → vall D T n a b := fun a b h1 => Or.inl (h a b h1)
theorem m_ca {n : Nat} (h : ∀ a b, D' a b → D a b) : ∀ a b, vall D' T n a b → vall D T n a b := fun a b h1 => h1.elim (fun h2 => Or.inl (h a b h2)) Or.inr
/-- the next stack is of another district -/
theorem vds_no {k : Nat} (h : ¬ T.1 (39 + k) 0 = d) : ∀ a b, vds D T d (k + 1) a b → vds D T d k a b := by
  intro a b h1
  rcases h1 with h1 | ⟨h1, j, hj, h2, h3⟩
  · exact Or.inl h1
  · by_cases hb : j = k
    · rw [hb] at h3
      exact absurd h3 h
    · exact Or.inr ⟨h1, j, by omega, h2, h3⟩
theorem st_vds {k r : Nat} (hr : r = k) : ∀ a b, vds D T d (k + 1) a b → vds D T d k a b ∨ (a = 39 + r ∧ b = 6) := by
  intro a b h1
  subst hr
  rcases h1 with h1 | ⟨h1, j, hj, h2, h3⟩
  · exact Or.inl (Or.inl h1)
  · by_cases hb : j = r
    · rw [hb] at h2
      exact Or.inr ⟨h2, h1⟩
    · exact Or.inl (Or.inr ⟨h1, j, by omega, h2, h3⟩)
theorem vall_s {k : Nat} (hW : WFt T) : ∀ a b, vall D T (k + 1) a b → vds (vall D T k) T (nI k) (ix (T.1 1 7)) a b := by
  intro a b h1
  rcases h1 with h1 | ⟨h1, j, hj, h2, h3⟩
  · exact Or.inl (Or.inl h1)
  · by_cases hb : ix (T.1 (39 + j) 0) = k
    · refine Or.inr ⟨h1, j, hj, h2, ?_⟩
      rw [(wf_dis hW hj).1, hb]
    · exact Or.inl (Or.inr ⟨h1, j, hj, h2, by omega⟩)
end VD
theorem ixlt (x : Int32) : ix x < 2147483648 := by
  have h1 := x.toInt_lt
  unfold ix Int32.toNatClampNeg
  omega
theorem ct_ltg {y : Int32} {k : Nat} (hk : k < 2147483648) (h : ¬ y ≤ nI k) : k < ix y := by
  have hy : ¬ y < 0 := by
    intro h1
    refine h (Int32.le_trans (Int32.le_of_lt h1) ?_)
    exact nI_pos' (by omega)
  obtain ⟨j, hj, rfl⟩ := nI_of hy
  rw [nI_leI hj (by omega)] at h
  rw [ix_nI hj]
  omega
theorem vb_at {Z : Mem} {k : Nat} (h : Vb Z) (hk : k < 25) : Mg (Z.2 (39 + k) 6) 1100 := h k hk
