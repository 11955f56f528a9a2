/-! p31: two runs side by side: what is told is the same, so the answers are. -/
def Sg {β : Type} (Q : β → β → Prop) (x1 x2 : Option β) : Prop := ∃ r1 r2, x1 = some r1 ∧ x2 = some r2 ∧ Q r1 r2
section SG
variable {α β T0 : Type} {Q : β → β → Prop}
theorem sg_bv {x1 x2 t : α} {f1 f2 : α → Option β} (e1 : x1 = t) (e2 : x2 = t) (k : ∀ y, y = t → Sg Q (f1 y) (f2 y)) : Sg Q (bv x1 f1) (bv x2 f2) := by
  subst e1
  subst e2
  exact k _ rfl
theorem sg_bz {x1 x2 : α} {f1 f2 : α → Option β} (k : ∀ Y1 Y2, Y1 = x1 → Y2 = x2 → Sg Q (f1 Y1) (f2 Y2)) : Sg Q (bv x1 f1) (bv x2 f2) := k _ _ rfl rfl
theorem sg_gd {c : Prop} [Decidable c] {x1 x2 : Option β} (h : c) (k : Sg Q x1 x2) : Sg Q (gd c x1) (gd c x2) := by
  unfold gd
  rw [if_pos h, if_pos h]
  exact k
theorem sg_br {c : Prop} [Decidable c] {x1 x2 y1 y2 : Option β} (k1 : c → Sg Q x1 x2) (k2 : ¬ c → Sg Q y1 y2) : Sg Q (br c x1 y1) (br c x2 y2) := by
  unfold br
  by_cases h : c
  · rw [if_pos h, if_pos h]
    exact k1 h
  · rw [if_neg h, if_neg h]
    exact k2 h
theorem sg_brn {c : Prop} [Decidable c] {x1 x2 y1 y2 : Option β} (k2 : ¬ c → Sg Q y1 y2) (k1 : c → Sg Q x1 x2) : Sg Q (br c x1 y1) (br c x2 y2) := sg_br k1 k2
theorem sg_calp {P : T0 → Prop} {x1 x2 : Option T0} {f1 f2 : T0 → Option β} (h : Sg (fun a b => a = b ∧ P a) x1 x2) (k : ∀ r, P r → Sg Q (f1 r) (f2 r)) : Sg Q (calp x1 f1) (calp x2 f2) := by
  obtain ⟨r1, r2, rfl, rfl, rfl, hP⟩ := h
  exact k r1 hP
theorem sg_cal {P : Mem → Mem → T0 → Prop} {x1 x2 : Option (Mem × T0)} {f1 f2 : Mem → T0 → Option β} (h : Sg (fun a b => a.2 = b.2 ∧ P a.1 b.1 a.2) x1 x2) (k : ∀ Y1 Y2 r, P Y1 Y2 r → Sg Q (f1 Y1 r) (f2 Y2 r)) : Sg Q (cal x1 f1) (cal x2 f2) := by
  obtain ⟨⟨Y1, r1⟩, ⟨Y2, r2⟩, rfl, rfl, h1, hP⟩ := h
  have h2 : r1 = r2 := h1
  subst h2
  exact k Y1 Y2 r1 hP
theorem sg_ret {r1 r2 : β} (h : Q r1 r2) : Sg Q (some r1) (some r2) := ⟨r1, r2, rfl, rfl, h⟩
end SG
/-- a count: not below 0, not above n -/
def Nn (v : Int32) (n : Nat) : Prop := v = nI (ix v) ∧ ix v ≤ n
/-- one of n places, or none -/
def Op (v : Int32) (n : Nat) : Prop := v = -1 ∨ ¬ (v < 0 ∨ n ≤ ix v)
/-- a double's magnitude is bounded -/
def Mg (x : UInt64) (K : Nat) : Prop := x.toNat % 2 ^ 63 < K * 2 ^ 52
theorem ix_nI {k : Nat} (h : k < 2 ^ 31) : ix (nI k) = k := nI_clamp h
theorem nle_nI {a b : Nat} (ha : a < 2 ^ 31) (hb : b < 2 ^ 31) : nI a ≤ nI b ↔ a ≤ b := nI_leI ha hb
theorem nIs (k : Nat) : nI k + (1 : Int32) = nI (k + 1) := nI_1 k
theorem n0_nI {k : Nat} (h : k < 2 ^ 31) : ¬ nI k < 0 := nI_pos h
theorem in_nI {k n : Nat} (h : k < n) (hn : n ≤ 1000) : ¬ (nI k < 0 ∨ n ≤ ix (nI k)) := by
  intro h1
  rcases h1 with h1 | h1
  · exact n0_nI (by omega) h1
  · rw [ix_nI (by omega)] at h1
    omega
theorem in_Nn {v : Int32} {n m : Nat} (h : Nn v n) (hm : n < m) (h1 : m ≤ 1000) : ¬ (v < 0 ∨ m ≤ ix v) := by
  rw [h.1]
  exact in_nI (Nat.lt_of_le_of_lt h.2 hm) h1
theorem in_mono {v : Int32} {n m : Nat} (h : ¬ (v < 0 ∨ n ≤ ix v)) (hm : n ≤ m) : ¬ (v < 0 ∨ m ≤ ix v) := fun h1 => h (h1.elim Or.inl (fun h2 => Or.inr (Nat.le_trans hm h2)))
theorem in_Op {v : Int32} {n : Nat} (h : Op v n) (hc : ¬ v = -1) : ¬ (v < 0 ∨ n ≤ ix v) := h.elim (fun h1 => absurd h1 hc) id
theorem ix_in {v : Int32} {n : Nat} (h : ¬ (v < 0 ∨ n ≤ ix v)) : ix v < n := Nat.not_le.mp fun h9 => h (Or.inr h9)
/-- a counter that has not come to its bound, or has -/
theorem ct_lt {y : Int32} {B k : Nat} (e : y = nI B) (hB : B ≤ 1000) (hk : k ≤ 1000) (h : ¬ y ≤ nI k) : k < B := by
  rw [e, nle_nI (by omega) (by omega)] at h
  omega
theorem ct_le {y : Int32} {B k : Nat} (e : y = nI B) (hB : B ≤ 1000) (hk : k ≤ 1000) (h : y ≤ nI k) : B ≤ k := by
  rwa [e, nle_nI (by omega) (by omega)] at h
theorem ct_lt9 {y : Int32} {B k : Nat} (e : y = nI B) (hB : B ≤ 1000) (hk : k ≤ 1000) (h : ¬ y < nI k) : k < B + 1 := by
  rw [e, nI_ltI (by omega) (by omega)] at h
  omega
theorem ct_le9 {y : Int32} {B k : Nat} (e : y = nI B) (hB : B ≤ 1000) (hk : k ≤ 1000) (h : y < nI k) : B + 1 ≤ k := by
  rw [e, nI_ltI (by omega) (by omega)] at h
  omega
theorem len_pos {y : Int32} {n : Nat} (h : Nn y n) (hn : n ≤ 1000) (hc : ¬ y ≤ 0) : 0 < ix y := by
  rw [h.1] at hc
  have h1 := h.2
  refine Nat.pos_of_ne_zero (fun h2 => hc ?_)
  rw [h2]
  decide
/-- one place more -/
def one (S : Nat → Nat → Prop) (i j : Nat) : Nat → Nat → Prop := fun a b => S a b ∨ (a = i ∧ b = j)
theorem one_l {S : Nat → Nat → Prop} {i j a b : Nat} (h : S a b) : one S i j a b := Or.inl h
theorem one_in {S : Nat → Nat → Prop} {i j : Nat} : one S i j i j := Or.inr ⟨rfl, rfl⟩
/-- more places -/
def ext (S : Nat → Nat → Prop) (i n : Nat) : Nat → Nat → Prop := fun a b => S a b ∨ (a = i ∧ b < n)
theorem ext_in {S : Nat → Nat → Prop} {i n j : Nat} (h : j < n) : ext S i n i j := Or.inr ⟨rfl, h⟩
theorem ext_l {S : Nat → Nat → Prop} {i n a b : Nat} (h : S a b) : ext S i n a b := Or.inl h
/-- rows b .. b + k - 1, and m places of the next -/
def ext2 (S : Nat → Nat → Prop) (i k m : Nat) : Nat → Nat → Prop := fun a b => S a b ∨ (i ≤ a ∧ a < i + k ∧ b < 6) ∨ (a = i + k ∧ b < m)
theorem ext2_l {S : Nat → Nat → Prop} {i k m a b : Nat} (h : S a b) : ext2 S i k m a b := Or.inl h
theorem ext2_in {S : Nat → Nat → Prop} {i k m r j : Nat} (h1 : r < k) (h2 : j < 6) : ext2 S i k m (i + r) j := Or.inr (Or.inl ⟨by omega, by omega, h2⟩)
/-- what is told is well formed -/
def WFt (T : Mem) : Prop := (Nn (T.1 1 2) 6 ∧ Nn (T.1 1 3) 6 ∧ Nn (T.1 1 5) 4 ∧ Nn (T.1 1 7) 24 ∧ Nn (T.1 1 8) 20) ∧ (∀ j, j < 6 → Nn (T.1 2 j) 3) ∧ (∀ j, j < 4 → Nn (T.1 4 j) 5) ∧ (∀ k, k < 24 → Nn (T.1 (39 + k) 5) 6 ∧ Nn (T.1 (39 + k) 2) 500 ∧ (T.1 (39 + k) 3 = 0 ∨ T.1 (39 + k) 3 = 1) ∧ ∀ j, j < 6 → Nn (T.1 (64 + k) j) 5) ∧ (∀ k, k < ix (T.1 1 7) → Nn (T.1 (39 + k) 0) 3 ∧ ix (T.1 (39 + k) 0) < ix (T.1 1 5))
/-- these numbers are what T tells -/
def tl (rk : Prop) (T Z : Mem) : Prop := (∀ j, j < 11 → Z.1 1 j = T.1 1 j) ∧ (∀ i j, 2 ≤ i → i ≤ 4 → j < 6 → Z.1 i j = T.1 i j) ∧ (∀ k, k < ix (T.1 1 7) → (∀ j, j < 6 → (j = 1 → rk) → j ≠ 4 → Z.1 (39 + k) j = T.1 (39 + k) j) ∧ ∀ j, j < ix (T.1 (39 + k) 5) → Z.1 (64 + k) j = T.1 (64 + k) j)
def Vb (Z : Mem) : Prop := ∀ k, k < 25 → Mg (Z.2 (39 + k) 6) 1100
def Ag (T : Mem) (rk : Prop) (S D : Nat → Nat → Prop) (Z1 Z2 : Mem) : Prop := WFt T ∧ (tl rk T Z1 ∧ tl rk T Z2) ∧ (Vb Z1 ∧ Vb Z2) ∧ (∀ a b, S a b → Z1.1 a b = Z2.1 a b) ∧ (∀ a b, D a b → Z1.2 a b = Z2.2 a b)
section AG
variable {T : Mem} {rk : Prop} {S D S' D' : Nat → Nat → Prop} {Z1 Z2 Z : Mem}
theorem si_ne {i j a b : Nat} {v : Int32} (h : a ≠ i) : (si Z i j v).1 a b = Z.1 a b := by
  unfold si
  simp [h]
theorem si_same {i j : Nat} {v : Int32} : (si Z i j v).1 i j = v := by
  unfold si upd
  simp
theorem si_row {i j b : Nat} {v : Int32} : (si Z i j v).1 i b = if b = j then v else Z.1 i b := by
  unfold si upd
  simp
theorem sd_ne {i j a b : Nat} {v : UInt64} (h : a ≠ i) : (sd Z i j v).2 a b = Z.2 a b := by
  unfold sd
  simp [h]
theorem sd_row {i j b : Nat} {v : UInt64} : (sd Z i j v).2 i b = if b = j then v else Z.2 i b := by
  unfold sd vf_upd
  simp
theorem tl_si {i j : Nat} {v : Int32} (hi : 4 < i ∧ i < 39) (h : tl rk T Z) : tl rk T (si Z i j v) := by
  refine ⟨fun b hb => ?_, fun a b h1 h2 h3 => ?_, fun k hk => ⟨fun b hb h1 h2 => ?_, fun b hb => ?_⟩⟩
  · rw [si_ne (by omega)]; exact h.1 b hb
  · rw [si_ne (by omega)]; exact h.2.1 a b h1 h2 h3
  · rw [si_ne (by omega)]; exact (h.2.2 k hk).1 b hb h1 h2
  · rw [si_ne (by omega)]; exact (h.2.2 k hk).2 b hb
theorem ag_mono (h : Ag T rk S D Z1 Z2) (hS : ∀ a b, S' a b → S a b) (hD : ∀ a b, D' a b → D a b) : Ag T rk S' D' Z1 Z2 := ⟨h.1, h.2.1, h.2.2.1, fun a b h1 => h.2.2.2.1 a b (hS a b h1), fun a b h1 => h.2.2.2.2 a b (hD a b h1)⟩
theorem ag_si {i j : Nat} {v : Int32} (h : Ag T rk S D Z1 Z2) (hi : 4 < i ∧ i < 39) (hS : ∀ a b, S' a b → S a b ∨ (a = i ∧ b = j)) : Ag T rk S' D (si Z1 i j v) (si Z2 i j v) := by
  refine ⟨h.1, ⟨tl_si hi h.2.1.1, tl_si hi h.2.1.2⟩, h.2.2.1, fun a b h1 => ?_, h.2.2.2.2⟩
  by_cases ha : a = i
  · subst ha
    rw [si_row, si_row]
    by_cases hb : b = j
    · rw [if_pos hb, if_pos hb]
    · rw [if_neg hb, if_neg hb]
      rcases hS a b h1 with h2 | h2
      · exact h.2.2.2.1 a b h2
      · exact absurd h2.2 hb
  · rw [si_ne ha, si_ne ha]
    rcases hS a b h1 with h2 | h2
    · exact h.2.2.2.1 a b h2
    · exact absurd h2.1 ha
theorem Vb_sd {i j : Nat} {v : UInt64} (h : Vb Z) (hv : (i < 39) ∨ Mg v 1100) : Vb (sd Z i j v) := by
  intro k hk
  by_cases ha : 39 + k = i
  · subst ha
    rw [sd_row]
    split
    · rcases hv with hv | hv
      · omega
      · exact hv
    · exact h k hk
  · rw [sd_ne ha]
    exact h k hk
theorem ag_sd {i j : Nat} {v : UInt64} (h : Ag T rk S D Z1 Z2) (hv : (i < 39) ∨ Mg v 1100) (hD : ∀ a b, D' a b → D a b ∨ (a = i ∧ b = j)) : Ag T rk S D' (sd Z1 i j v) (sd Z2 i j v) := by
  refine ⟨h.1, h.2.1, ⟨Vb_sd h.2.2.1.1 hv, Vb_sd h.2.2.1.2 hv⟩, h.2.2.2.1, fun a b h1 => ?_⟩
  by_cases ha : a = i
  · subst ha
    rw [sd_row, sd_row]
    by_cases hb : b = j
    · rw [if_pos hb, if_pos hb]
    · rw [if_neg hb, if_neg hb]
      rcases hD a b h1 with h2 | h2
      · exact h.2.2.2.2 a b h2
      · exact absurd h2.2 hb
  · rw [sd_ne ha, sd_ne ha]
    rcases hD a b h1 with h2 | h2
    · exact h.2.2.2.2 a b h2
    · exact absurd h2.1 ha
/-- the same places -/
theorem st_id {i j : Nat} : ∀ a b, S a b → S a b ∨ (a = i ∧ b = j) := fun _ _ h => Or.inl h
/-- one place more of the row -/
theorem st_ext {i k : Nat} (hk : k < 1000) : ∀ a b, ext S i (k + 1) a b → ext S i k a b ∨ (a = i ∧ b = ix (nI k)) := by
  intro a b h
  rw [ix_nI (by omega)]
  rcases h with h | ⟨rfl, h⟩
  · exact Or.inl (Or.inl h)
  · by_cases hb : b = k
    · exact Or.inr ⟨rfl, hb⟩
    · exact Or.inl (Or.inr ⟨rfl, by omega⟩)
theorem st_cong {i j r n : Nat} (h : ∀ a b, S' a b → S a b ∨ (a = i ∧ b = j)) : ∀ a b, ext S' r n a b → ext S r n a b ∨ (a = i ∧ b = j) := by
  intro a b h1
  rcases h1 with h1 | h1
  · rcases h a b h1 with h2 | h2
    · exact Or.inl (Or.inl h2)
    · exact Or.inr h2
  · exact Or.inl (Or.inr h1)
theorem st_ext2 {i k m : Nat} (hm : m < 1000) : ∀ a b, ext2 S i k (m + 1) a b → ext2 S i k m a b ∨ (a = i + k ∧ b = ix (nI m)) := by
  intro a b h
  rw [ix_nI (by omega)]
  rcases h with h | h | ⟨h1, h2⟩
  · exact Or.inl (Or.inl h)
  · exact Or.inl (Or.inr (Or.inl h))
  · by_cases hb : b = m
    · exact Or.inr ⟨h1, hb⟩
    · exact Or.inl (Or.inr (Or.inr ⟨h1, by omega⟩))
theorem st_one {i j : Nat} : ∀ a b, one S i j a b → S a b ∨ (a = i ∧ b = j) := fun _ _ h => h
theorem st_cong1 {i j r n : Nat} (h : ∀ a b, S' a b → S a b ∨ (a = i ∧ b = j)) : ∀ a b, one S' r n a b → one S r n a b ∨ (a = i ∧ b = j) := by
  intro a b h1
  rcases h1 with h1 | h1
  · rcases h a b h1 with h2 | h2
    · exact Or.inl (Or.inl h2)
    · exact Or.inr h2
  · exact Or.inl (Or.inr h1)
theorem m_l1 {i n : Nat} (h : ∀ a b, S' a b → S a b) : ∀ a b, S' a b → one S i n a b := fun a b h1 => Or.inl (h a b h1)
theorem m_c1 {i n : Nat} (h : ∀ a b, S' a b → S a b) : ∀ a b, one S' i n a b → one S i n a b := fun a b h1 => h1.elim (fun h2 => Or.inl (h a b h2)) Or.inr
theorem m_l2 {i n m : Nat} (h : ∀ a b, S' a b → S a b) : ∀ a b, S' a b → ext2 S i n m a b := fun a b h1 => Or.inl (h a b h1)
theorem m_c2 {i n m : Nat} (h : ∀ a b, S' a b → S a b) : ∀ a b, ext2 S' i n m a b → ext2 S i n m a b := fun a b h1 => h1.elim (fun h2 => Or.inl (h a b h2)) Or.inr
theorem m_02 {i : Nat} (h : ∀ a b, S' a b → S a b) : ∀ a b, ext2 S' i 0 0 a b → S a b := fun a b h1 => h a b (ext20 a b h1)
theorem ext0 {i : Nat} : ∀ a b, ext S i 0 a b → S a b := fun _ _ h => h.elim id (fun h1 => absurd h1.2 (by omega))
theorem ext20 {i : Nat} : ∀ a b, ext2 S i 0 0 a b → S a b := fun _ _ h => h.elim id (fun h1 => h1.elim (fun h2 => by omega) (fun h2 => by omega))
theorem ext2n {i k : Nat} : ∀ a b, ext2 S i (k + 1) 0 a b → ext2 S i k 6 a b := by
  intro a b h
  rcases h with h | h | h
  · exact Or.inl h
  · by_cases ha : a = i + k
    · exact Or.inr (Or.inr ⟨ha, h.2.2⟩)
    · exact Or.inr (Or.inl ⟨h.1, by omega, h.2.2⟩)
  · exact absurd h.2 (by omega)
theorem m_id : ∀ a b : Nat, S a b → S a b := fun _ _ h => h
theorem m_l {i n : Nat} (h : ∀ a b, S' a b → S a b) : ∀ a b, S' a b → ext S i n a b := fun a b h1 => Or.inl (h a b h1)
theorem m_c {i n : Nat} (h : ∀ a b, S' a b → S a b) : ∀ a b, ext S' i n a b → ext S i n a b := fun a b h1 => h1.elim (fun h2 => Or.inl (h a b h2)) Or.inr
theorem m_0 {i : Nat} (h : ∀ a b, S' a b → S a b) : ∀ a b, ext S' i 0 a b → S a b := fun a b h1 => h a b (ext0 a b h1)
/-- reading -/
theorem ag_b (h : Ag T rk S D Z1 Z2) {j : Nat} (hj : j < 11) : Z1.1 1 j = T.1 1 j ∧ Z2.1 1 j = T.1 1 j := ⟨h.2.1.1.1 j hj, h.2.1.2.1 j hj⟩
theorem ag_r (h : Ag T rk S D Z1 Z2) {i j : Nat} (h1 : 2 ≤ i ∧ i ≤ 4) (hj : j < 6) : Z1.1 i j = T.1 i j ∧ Z2.1 i j = T.1 i j := ⟨h.2.1.1.2.1 i j h1.1 h1.2 hj, h.2.1.2.2.1 i j h1.1 h1.2 hj⟩
theorem ag_s (h : Ag T rk S D Z1 Z2) {k j : Nat} (hk : k < ix (T.1 1 7)) (hj : j < 6 ∧ (j = 1 → rk) ∧ j ≠ 4) : Z1.1 (39 + k) j = T.1 (39 + k) j ∧ Z2.1 (39 + k) j = T.1 (39 + k) j := ⟨(h.2.1.1.2.2 k hk).1 j hj.1 hj.2.1 hj.2.2, (h.2.1.2.2.2 k hk).1 j hj.1 hj.2.1 hj.2.2⟩
theorem ag_l (h : Ag T rk S D Z1 Z2) {k j : Nat} (hk : k < ix (T.1 1 7)) (hj : j < ix (T.1 (39 + k) 5)) : Z1.1 (64 + k) j = T.1 (64 + k) j ∧ Z2.1 (64 + k) j = T.1 (64 + k) j := ⟨(h.2.1.1.2.2 k hk).2 j hj, (h.2.1.2.2.2 k hk).2 j hj⟩
theorem wf_l (h : WFt T) {k j : Nat} (hk : k < ix (T.1 1 7)) (hj : j < 6) : Nn (T.1 (64 + k) j) 5 := (h.2.2.2.1 k (Nat.lt_of_lt_of_le hk h.1.2.2.2.1.2)).2.2.2 j hj
theorem wf_len (h : WFt T) {k : Nat} (hk : k < ix (T.1 1 7)) : Nn (T.1 (39 + k) 5) 6 := (h.2.2.2.1 k (Nat.lt_of_lt_of_le hk h.1.2.2.2.1.2)).1
theorem wf_cnt (h : WFt T) {k : Nat} (hk : k < ix (T.1 1 7)) : Nn (T.1 (39 + k) 2) 500 := (h.2.2.2.1 k (Nat.lt_of_lt_of_le hk h.1.2.2.2.1.2)).2.1
theorem wf_dis (h : WFt T) {k : Nat} (hk : k < ix (T.1 1 7)) : Nn (T.1 (39 + k) 0) 3 := (h.2.2.2.2 k hk).1
theorem wf_cast (h : WFt T) : ix (T.1 1 7) ≤ 24 := h.1.2.2.2.1.2
end AG
