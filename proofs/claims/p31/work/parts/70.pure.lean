/-! p31: the same box again. -/
/-- what a stack is cast with in the other box -/
def rkO (M : TM) (x r k : Nat) : Nat := if k = x then r else if M.2 (5 + k) 3 = 1 then 11 else ix (M.2 (5 + k) 1)
noncomputable def rowO (M : TM) (x r k : Nat) : Nat → Int32 := fun j => if j = 1 then nI (rkO M x r k) else if j = 3 then spS (M.1 1) (nI (rkO M x r k)) else M.2 (5 + k) j
/-- c candidates, d districts, s stacks, and of g it is known that they are gone -/
noncomputable def tM (M : TM) (x r c d s g : Nat) : TM := (fun a => if a = 1 then c else if a = 3 then d else if a = 4 then s else 0,
  fun a => if a = 1 then (fun j => if j < c then M.2 1 j else 0) else if a = 2 then (fun j => if j < g then M.2 2 j else 0) else if a = 3 then (fun j => if j < d then M.2 3 j else 0) else if 5 ≤ a ∧ a < 5 + s then rowO M x r (a - 5) else fun _ => 0)
section TMO
variable {M : TM} {x r c d s g : Nat}
theorem tM_row {k : Nat} (h : k < s) : (tM M x r c d s g).2 (5 + k) = rowO M x r k := by
  show (if 5 + k = 1 then _ else if 5 + k = 2 then _ else if 5 + k = 3 then _ else if 5 ≤ 5 + k ∧ 5 + k < 5 + s then rowO M x r (5 + k - 5) else fun _ => 0) = _
  rw [if_neg (by omega), if_neg (by omega), if_neg (by omega), if_pos (by omega), show 5 + k - 5 = k by omega]
theorem tM_c : gM (tM M x r c 0 0 0) 1 (M.2 1 c) = tM M x r (c + 1) 0 0 0 := by
  refine Prod.ext ?_ ?_
  · funext a
    show (if a = 1 then c + 1 else if a = 1 then c else if a = 3 then 0 else if a = 4 then 0 else 0) = if a = 1 then c + 1 else if a = 3 then 0 else if a = 4 then 0 else 0
    by_cases h : a = 1
    · rw [if_pos h, if_pos h]
    · rw [if_neg h, if_neg h, if_neg h]
  · funext a
    by_cases h : a = 1
    · subst h
      funext j
      show (if j < c then (if j < c then M.2 1 j else 0) else if j = c then M.2 1 c else 0) = if j < c + 1 then M.2 1 j else 0
      by_cases h1 : j < c
      · rw [if_pos h1, if_pos h1, if_pos (by omega)]
      · by_cases h2 : j = c
        · subst h2
          rw [if_neg h1, if_pos rfl, if_pos (by omega)]
        · rw [if_neg h1, if_neg h2, if_neg (by omega)]
    · rw [gM_o h]
      show (if a = 1 then _ else _) = if a = 1 then _ else _
      rw [if_neg h, if_neg h]
theorem tM_d : gM (tM M x r c d 0 0) 3 (M.2 3 d) = tM M x r c (d + 1) 0 0 := by
  refine Prod.ext ?_ ?_
  · funext a
    show (if a = 3 then d + 1 else if a = 1 then c else if a = 3 then d else if a = 4 then 0 else 0) = if a = 1 then c else if a = 3 then d + 1 else if a = 4 then 0 else 0
    by_cases h : a = 3
    · subst h
      rfl
    · rw [if_neg h, if_neg h, if_neg h]
  · funext a
    by_cases h : a = 3
    · subst h
      funext j
      show (if j < d then (if j < d then M.2 3 j else 0) else if j = d then M.2 3 d else 0) = if j < d + 1 then M.2 3 j else 0
      by_cases h1 : j < d
      · rw [if_pos h1, if_pos h1, if_pos (by omega)]
      · by_cases h2 : j = d
        · subst h2
          rw [if_neg h1, if_pos rfl, if_pos (by omega)]
        · rw [if_neg h1, if_neg h2, if_neg (by omega)]
    · rw [gM_o h]
      show (if a = 1 then _ else if a = 2 then _ else if a = 3 then _ else _) = if a = 1 then _ else if a = 2 then _ else if a = 3 then _ else _
      rw [if_neg h, if_neg h]
theorem tM_s : rM (tM M x r c d s 0) (rowO M x r s) = tM M x r c d (s + 1) 0 := by
  refine Prod.ext ?_ ?_
  · funext a
    show (if a = 4 then s + 1 else if a = 1 then c else if a = 3 then d else if a = 4 then s else 0) = if a = 1 then c else if a = 3 then d else if a = 4 then s + 1 else 0
    by_cases h : a = 4
    · subst h
      rfl
    · rw [if_neg h, if_neg h, if_neg h]
  · funext a
    show (if a = 5 + s then rowO M x r s else if a = 1 then (fun j => if j < c then M.2 1 j else 0) else if a = 2 then (fun j => if j < 0 then M.2 2 j else 0) else if a = 3 then (fun j => if j < d then M.2 3 j else 0) else if 5 ≤ a ∧ a < 5 + s then rowO M x r (a - 5) else fun _ => 0) = if a = 1 then (fun j => if j < c then M.2 1 j else 0) else if a = 2 then (fun j => if j < 0 then M.2 2 j else 0) else if a = 3 then (fun j => if j < d then M.2 3 j else 0) else if 5 ≤ a ∧ a < 5 + (s + 1) then rowO M x r (a - 5) else fun _ => 0
    by_cases h : a = 5 + s
    · subst h
      rw [if_pos rfl, if_neg (by omega), if_neg (by omega), if_neg (by omega), if_pos (by omega), show 5 + s - 5 = s by omega]
    · rw [if_neg h]
      by_cases h5 : 5 ≤ a ∧ a < 5 + s
      · rw [if_pos h5, if_pos (show 5 ≤ a ∧ a < 5 + (s + 1) by omega)]
      · rw [if_neg h5, if_neg (show ¬ (5 ≤ a ∧ a < 5 + (s + 1)) by omega)]
theorem tM_g1 (h : M.2 2 g = 1) : sM (tM M x r c d s g) 2 g 1 = tM M x r c d s (g + 1) := by
  refine Prod.ext rfl ?_
  funext a
  by_cases h2 : a = 2
  · subst h2
    rw [sM_i]
    funext j
    show upd (fun j => if j < g then M.2 2 j else 0) g 1 j = if j < g + 1 then M.2 2 j else 0
    by_cases h1 : j = g
    · subst h1
      rw [pk_us, if_pos (by omega), h]
    · rw [pk_un h1]
      by_cases h3 : j < g
      · rw [if_pos h3, if_pos (by omega)]
      · rw [if_neg h3, if_neg (by omega)]
  · rw [sM_o h2]
    show (if a = 1 then _ else if a = 2 then _ else _) = if a = 1 then _ else if a = 2 then _ else _
    rw [if_neg h2, if_neg h2]
theorem tM_g0 (h : M.2 2 g = 0) : tM M x r c d s g = tM M x r c d s (g + 1) := by
  refine Prod.ext rfl ?_
  funext a
  by_cases h2 : a = 2
  · subst h2
    funext j
    show (if j < g then M.2 2 j else 0) = if j < g + 1 then M.2 2 j else 0
    by_cases h1 : j = g
    · subst h1
      rw [if_neg (by omega), if_pos (by omega), h]
    · by_cases h3 : j < g
      · rw [if_pos h3, if_pos (by omega)]
      · rw [if_neg h3, if_neg (by omega)]
  · show (if a = 1 then _ else if a = 2 then _ else _) = if a = 1 then _ else if a = 2 then _ else _
    rw [if_neg h2, if_neg h2]
end TMO
/-- the other box, as it is told -/
noncomputable abbrev oM (M : TM) (x r : Nat) : TM := tM M x r (M.1 1) (M.1 3) (M.1 4) (M.1 1)
theorem rkO_ok {M : TM} {x r k : Nat} (hW : WFm M) (hr : 1 ≤ r ∧ r < 1000000) (hk : k < M.1 4) : 1 ≤ rkO M x r k ∧ rkO M x r k < 1000000 := by
  unfold rkO
  split
  · exact hr
  · split
    · exact ⟨by decide, by decide⟩
    · obtain ⟨_, ⟨y, ey, h1, h2⟩, _⟩ := hW.2.2.2.2 k hk
      rw [ey, show ix (nI y) = y from nI_clamp (by omega)]
      exact ⟨h1, h2⟩
theorem oth_g (Y : TS) (x r : Nat) (hW : WFm Y.1) (hr : 1 ≤ r ∧ r < 1000000) : ∀ (t fuel g : Nat) (Z : Mem), g + t = Y.1.1 1 → t < fuel → Bx True 0 0 (tM Y.1 x r (Y.1.1 1) (Y.1.1 3) (Y.1.1 4) g) Z → Vb Z →
    ∃ Z1, F_L_other_l161 Y F_L_other_x161 fuel Z (nI g) = some (Z1, ()) ∧ Bx True 0 0 (oM Y.1 x r) Z1 ∧ Vb Z1 := by
  have h6 : Y.1.1 1 ≤ 6 := hW.1.1
  intro t
  induction t with
  | zero =>
    intro fuel g Z hg hf hB hV
    obtain ⟨f, rfl⟩ : ∃ f, fuel = f + 1 := ⟨fuel - 1, by omega⟩
    rw [F_L_other_l161]
    simp only [bv]
    rw [brt (nI_le (by omega) (by omega))]
    rw [show g = Y.1.1 1 by omega] at hB
    exact ⟨Z, rfl, hB, hV⟩
  | succ t IH =>
    intro fuel g Z hg hf hB hV
    obtain ⟨f, rfl⟩ : ∃ f, fuel = f + 1 := ⟨fuel - 1, by omega⟩
    rw [F_L_other_l161]
    simp only [bv]
    rw [brf (nI_ge (by omega) (by omega)), gdt (nI_in (by omega) (by omega)), show ix (nI g) = g from nI_clamp (by omega)]
    rcases hW.2.2.1.1 g with h0 | h1
    · rw [brt h0, nI_1]
      rw [tM_g0 h0] at hB
      exact IH f (g + 1) Z (by omega) (by omega) hB hV
    · rw [brf (by rw [h1]; decide)]
      have hg0 : (tM Y.1 x r (Y.1.1 1) (Y.1.1 3) (Y.1.1 4) g).2 2 g = 0 := if_neg (Nat.lt_irrefl g)
      obtain ⟨Z1, e, q1, q2⟩ := b_with (c := g) hB h6 hW.1.2.2 (fun k hk => by
        have hk2 : k < Y.1.1 4 := hk
        rw [tM_row hk2]
        exact ⟨_, rfl, (rkO_ok hW hr hk2).2⟩) (show g < Y.1.1 1 by omega) hg0
      rw [cal_e e, nI_1]
      rw [tM_g1 h1] at q2
      exact IH f (g + 1) Z1 (by omega) (by omega) q2 (by unfold Vb; rw [q1]; exact hV)
theorem bv_e {α β : Type} (x : α) (f : α → Option β) : bv x f = f x := rfl
theorem oth_v {M : TM} {x r s : Nat} (f : Int32 → Option (Mem × Unit)) (hr : ∃ y, M.2 (5 + s) 1 = nI y ∧ y < 1000000) (hx : x < 1000) (hs : s < 1000) : br (nI s = nI x) (f (nI r)) (br (M.2 (5 + s) 3 = 1) (f 11) (f (M.2 (5 + s) 1))) = f (nI (rkO M x r s)) := by
  unfold rkO
  by_cases h1 : s = x
  · rw [brt (by rw [h1]), if_pos h1]
  · rw [brf (fun h9 => h1 ((nI_eq (by omega) (by omega)).mp h9)), if_neg h1]
    by_cases h3 : M.2 (5 + s) 3 = 1
    · rw [brt h3, if_pos h3]
      rfl
    · obtain ⟨y, ey, hy⟩ := hr
      rw [brf h3, if_neg h3, ey, show ix (nI y) = y from nI_clamp (by omega)]
theorem oth_j {Y : TS} {x r s d c f : Nat} {Z Z1 : Mem} {res : Option (Mem × Unit)} (hs : s < 1000) (ed : Y.1.2 (5 + s) 0 = nI d) (ec : Y.1.2 (5 + s) 2 = nI c) (B : Mem → Int32 → Option (Mem × Unit)) (v : Int32) (e : F_X5_cast Z (nI d) v (nI c) = some (Z1, nI s)) (h : B Z1 (nI (s + 1)) = res) : F_L_other_j144 Y Z (nI s) B (Y.1.2 (5 + s) 0) v = res := by
  unfold F_L_other_j144
  simp only [bv]
  rw [show ix (nI s) = s from nI_clamp (by omega), show ix (2 : Int32) = 2 from rfl, ed, ec, cal_e e, nI_1]
  exact h
theorem rowO_0 {M : TM} {x r s : Nat} : rowO M x r s 0 = M.2 (5 + s) 0 := rfl
theorem rowO_1 {M : TM} {x r s : Nat} : rowO M x r s 1 = nI (rkO M x r s) := rfl
theorem rowO_2 {M : TM} {x r s : Nat} : rowO M x r s 2 = M.2 (5 + s) 2 := rfl
theorem rowO_3 {M : TM} {x r s : Nat} : rowO M x r s 3 = spS (M.1 1) (nI (rkO M x r s)) := rfl
theorem oth_cast {M : TM} {x r s d c : Nat} {Z : Mem} (hW : WFm M) (hr : 1 ≤ r ∧ r < 1000000) (hs : s < M.1 4) (ed : M.2 (5 + s) 0 = nI d) (hd : d < M.1 3) (ec : M.2 (5 + s) 2 = nI c) (hc : 1 ≤ c ∧ c ≤ 80) (hB : Bx True 0 0 (tM M x r (M.1 1) (M.1 3) s 0) Z) (hV : Vb Z) : ∃ Z1, F_X5_cast Z (nI d) (nI (rkO M x r s)) (nI c) = some (Z1, nI s) ∧ Vb Z1 ∧ Bx True 0 0 (tM M x r (M.1 1) (M.1 3) (s + 1) 0) Z1 := by
  have hs24 : M.1 4 ≤ 24 := hW.1.2.2
  have e4 : (tM M x r (M.1 1) (M.1 3) s 0).1 4 = s := rfl
  have e1 : (tM M x r (M.1 1) (M.1 3) s 0).1 1 = M.1 1 := rfl
  have e3 : (tM M x r (M.1 1) (M.1 3) s 0).1 3 = M.1 3 := rfl
  obtain ⟨Z1, e, q1, q2⟩ := b_cast (r := rowO M x r s) (d := d) (x := rkO M x r s) (c := c) hB (by rw [e1]; exact hW.1.1) (by rw [e4]; omega) (by rw [e3]; exact hW.1.2.1) (by rw [e3]; exact hd) (rkO_ok hW hr hs) ⟨hc.1, by omega⟩ (by rw [rowO_0, ed]) rowO_1 (by rw [rowO_2, ec]) (by rw [rowO_3, e1])
  rw [tM_s] at q2
  rw [e4] at e
  exact ⟨Z1, e, by unfold Vb; rw [q1]; exact hV, q2⟩
set_option maxHeartbeats 20000 in
theorem oth_e0 {Y : TS} {xa xb : Int32} {K : Mem → Option (Mem × Unit)} {s f : Nat} {Z : Mem} (hs : Y.1.1 4 ≤ s) (h24 : s < 1000) : F_L_other_l93 Y xa xb K (f + 1) Z (nI s) = K Z := by
  rw [F_L_other_l93]
  exact brt (nI_le hs (by omega))
set_option maxHeartbeats 20000 in
theorem oth_e1 {Y : TS} {xa xb : Int32} {K : Mem → Option (Mem × Unit)} {s f : Nat} {Z : Mem} (hs : s < Y.1.1 4) (h24 : Y.1.1 4 < 1000) : F_L_other_l93 Y xa xb K (f + 1) Z (nI s) = br (nI s = xa) (F_L_other_j144 Y Z (nI s) (F_L_other_l93 Y xa xb K f) (Y.1.2 (5 + ix (nI s)) (ix 0)) xb) (br (Y.1.2 (5 + ix (nI s)) (ix 3) = 1) (F_L_other_j144 Y Z (nI s) (F_L_other_l93 Y xa xb K f) (Y.1.2 (5 + ix (nI s)) (ix 0)) 11) (F_L_other_j144 Y Z (nI s) (F_L_other_l93 Y xa xb K f) (Y.1.2 (5 + ix (nI s)) (ix 0)) (Y.1.2 (5 + ix (nI s)) (ix 1)))) := by
  rw [F_L_other_l93, bv_e, brf (nI_ge hs (by omega)), gdt (nI_in hs (by omega)), bv_e, bv_e, bv_e]
set_option maxHeartbeats 20000 in
theorem ix0 : ix (0 : Int32) = 0 := by decide
set_option maxHeartbeats 20000 in
theorem ix1 : ix (1 : Int32) = 1 := by decide
set_option maxHeartbeats 20000 in
theorem ix2 : ix (2 : Int32) = 2 := by decide
set_option maxHeartbeats 20000 in
theorem ix3 : ix (3 : Int32) = 3 := by decide
theorem ixn {s : Nat} (h : s < 1000) : ix (nI s) = s := nI_clamp (by omega)
set_option maxHeartbeats 20000 in
theorem oth_e2 {Y : TS} {xa xb : Int32} {K : Mem → Option (Mem × Unit)} {s f : Nat} {Z : Mem} (hs : s < Y.1.1 4) (h24 : Y.1.1 4 < 1000) : F_L_other_l93 Y xa xb K (f + 1) Z (nI s) = br (nI s = xa) (F_L_other_j144 Y Z (nI s) (F_L_other_l93 Y xa xb K f) (Y.1.2 (5 + s) 0) xb) (br (Y.1.2 (5 + s) 3 = 1) (F_L_other_j144 Y Z (nI s) (F_L_other_l93 Y xa xb K f) (Y.1.2 (5 + s) 0) 11) (F_L_other_j144 Y Z (nI s) (F_L_other_l93 Y xa xb K f) (Y.1.2 (5 + s) 0) (Y.1.2 (5 + s) 1))) := by
  have h := oth_e1 (xa := xa) (xb := xb) (K := K) (f := f) (Z := Z) hs h24
  rw [ixn (by omega), ix0, ix1, ix3] at h
  exact h
set_option maxHeartbeats 40000 in
theorem oth_s (Y : TS) (x r : Nat) (hW : WFm Y.1) (hr : 1 ≤ r ∧ r < 1000000) (hx : x < 1000) : ∀ (t fuel s : Nat) (Z : Mem), s + t = Y.1.1 4 → t < fuel → Bx True 0 0 (tM Y.1 x r (Y.1.1 1) (Y.1.1 3) s 0) Z → Vb Z →
    ∃ Z1, F_L_other_l93 Y (nI x) (nI r) (F_L_other_x93 Y) fuel Z (nI s) = some (Z1, ()) ∧ Bx True 0 0 (oM Y.1 x r) Z1 ∧ Vb Z1 := by
  have h6 : Y.1.1 1 ≤ 6 := hW.1.1
  have hs24 : Y.1.1 4 ≤ 24 := hW.1.2.2
  intro t
  induction t with
  | zero =>
    intro fuel s Z hs hf hB hV
    obtain ⟨f, rfl⟩ : ∃ f, fuel = f + 1 := ⟨fuel - 1, by omega⟩
    rw [show s = Y.1.1 4 by omega] at hB
    rw [oth_e0 (by omega) (by omega)]
    exact oth_g Y x r hW hr (Y.1.1 1) 100 0 Z (by omega) (by omega) hB hV
  | succ t IH =>
    intro fuel s Z hs hf hB hV
    obtain ⟨f, rfl⟩ : ∃ f, fuel = f + 1 := ⟨fuel - 1, by omega⟩
    obtain ⟨⟨d, ed, hd⟩, ⟨y, ey, hy1, hy2⟩, ⟨c, ec, hc1, hc2⟩, es⟩ := hW.2.2.2.2 s (by omega)
    obtain ⟨Z1, e, q1, q2⟩ := oth_cast hW hr (by omega) ed hd ec ⟨hc1, hc2⟩ hB hV
    obtain ⟨Z2, e2, h2⟩ := IH f (s + 1) Z1 (by omega) (by omega) q2 q1
    rw [oth_e2 (by omega) (by omega)]
    refine ⟨Z2, (oth_v (M := Y.1) (x := x) (r := r) (s := s) (fun v => F_L_other_j144 Y Z (nI s) (F_L_other_l93 Y (nI x) (nI r) (F_L_other_x93 Y) f) (Y.1.2 (5 + s) 0) v) ⟨y, ey, hy2⟩ hx (by omega)).trans ?_, h2⟩
    exact oth_j (x := x) (r := r) (f := f) (by omega) ed ec _ _ e e2
theorem oth_d (Y : TS) (x r : Nat) (hW : WFm Y.1) (hr : 1 ≤ r ∧ r < 1000000) (hx : x < 1000) : ∀ (t fuel d : Nat) (Z : Mem), d + t = Y.1.1 3 → t < fuel → Bx True 0 0 (tM Y.1 x r (Y.1.1 1) d 0 0) Z → Vb Z →
    ∃ Z1, F_L_other_l63 Y (nI (Y.1.1 3)) (F_L_other_x63 Y (nI x) (nI r)) fuel Z (nI d) = some (Z1, ()) ∧ Bx True 0 0 (oM Y.1 x r) Z1 ∧ Vb Z1 := by
  have hd4 : Y.1.1 3 ≤ 4 := hW.1.2.1
  have hs24 : Y.1.1 4 ≤ 24 := hW.1.2.2
  intro t
  induction t with
  | zero =>
    intro fuel d Z hs hf hB hV
    obtain ⟨f, rfl⟩ : ∃ f, fuel = f + 1 := ⟨fuel - 1, by omega⟩
    rw [F_L_other_l63, brt (nI_le (by omega) (by omega))]
    rw [show d = Y.1.1 3 by omega] at hB
    unfold F_L_other_x63
    exact oth_s Y x r hW hr hx (Y.1.1 4) 100 0 Z (by omega) (by omega) hB hV
  | succ t IH =>
    intro fuel d Z hs hf hB hV
    obtain ⟨f, rfl⟩ : ∃ f, fuel = f + 1 := ⟨fuel - 1, by omega⟩
    rw [F_L_other_l63, brf (nI_ge (by omega) (by omega)), gdt (nI_in (by omega) (by omega)), show ix (nI d) = d from nI_clamp (by omega)]
    simp only [bv]
    obtain ⟨p, ep, hp⟩ := hW.2.2.2.1 d (by omega)
    obtain ⟨Z1, e, q1, q2⟩ := b_dist (p := p) hB (show d < 4 by omega) hp
    rw [← ep, tM_d] at q2
    rw [ep, cal_e e, nI_1]
    exact IH f (d + 1) Z1 (by omega) (by omega) q2 (by unfold Vb; rw [q1]; exact hV)
theorem oth_c (Y : TS) (x r : Nat) (hW : WFm Y.1) (hr : 1 ≤ r ∧ r < 1000000) (hx : x < 1000) : ∀ (t fuel c : Nat) (Z : Mem), c + t = Y.1.1 1 → t < fuel → Bx True 0 0 (tM Y.1 x r c 0 0 0) Z → Vb Z →
    ∃ Z1, F_L_other_l22 Y (nI (Y.1.1 1)) (F_L_other_x22 Y (nI x) (nI r)) fuel Z (nI c) = some (Z1, ()) ∧ Bx True 0 0 (oM Y.1 x r) Z1 ∧ Vb Z1 := by
  have h6 : Y.1.1 1 ≤ 6 := hW.1.1
  have hd4 : Y.1.1 3 ≤ 4 := hW.1.2.1
  intro t
  induction t with
  | zero =>
    intro fuel c Z hs hf hB hV
    obtain ⟨f, rfl⟩ : ∃ f, fuel = f + 1 := ⟨fuel - 1, by omega⟩
    rw [F_L_other_l22, brt (nI_le (by omega) (by omega))]
    rw [show c = Y.1.1 1 by omega] at hB
    unfold F_L_other_x22
    simp only [bv]
    exact oth_d Y x r hW hr hx (Y.1.1 3) 100 0 Z (by omega) (by omega) hB hV
  | succ t IH =>
    intro fuel c Z hs hf hB hV
    obtain ⟨f, rfl⟩ : ∃ f, fuel = f + 1 := ⟨fuel - 1, by omega⟩
    rw [F_L_other_l22, brf (nI_ge (by omega) (by omega)), gdt (nI_in (by omega) (by omega)), show ix (nI c) = c from nI_clamp (by omega)]
    simp only [bv]
    obtain ⟨p, ep, hp⟩ := hW.2.1 c (by omega)
    obtain ⟨Z1, e, q1, q2⟩ := b_cand (p := p) hB (show c < 6 by omega) rfl (by show (if c < 0 then Y.1.2 2 c else 0) = 0; rw [if_neg (Nat.not_lt_zero _)]) hp
    rw [← ep, tM_c] at q2
    rw [ep, cal_e e, nI_1]
    exact IH f (c + 1) Z1 (by omega) (by omega) q2 (by unfold Vb; rw [q1]; exact hV)
theorem oth_ok {Y : TS} {x r : Nat} (hW : WFm Y.1) (hr : 1 ≤ r ∧ r < 1000000) (hx : x < 1000) : ∃ Z1, F_L_other Y (nI x) (nI r) = some (Z1, ()) ∧ Bx True 0 0 (oM Y.1 x r) Z1 ∧ Vb Z1 := by
  have h6 : Y.1.1 1 ≤ 6 := hW.1.1
  unfold F_L_other
  simp only [bv]
  have e0 : (tM Y.1 x r 0 0 0 0).1 = (Yi 0).1.1 := by
    funext a
    show (if a = 1 then 0 else if a = 3 then 0 else if a = 4 then 0 else 0) = 0
    rw [ite_self, ite_self, ite_self]
  refine oth_c Y x r hW hr hx (Y.1.1 1) 100 0 Z0 (by omega) (by omega) (Bx_cong (M := (Yi 0).1) e0 (fun i hi => ?_) Bx_Z0) Vb_Z0
  show (if i = 1 then (fun j => if j < 0 then Y.1.2 1 j else 0) else if i = 2 then (fun j => if j < 0 then Y.1.2 2 j else 0) else if i = 3 then (fun j => if j < 0 then Y.1.2 3 j else 0) else if 5 ≤ i ∧ i < 5 + 0 then rowO Y.1 x r (i - 5) else fun _ => 0) = if i = 0 then (fun j => if j = 2 then 0 else 0) else fun _ => 0
  rw [if_neg hi, if_neg (show ¬ (5 ≤ i ∧ i < 5 + 0) by omega)]
  have e : ∀ f : Nat → Int32, (fun j => if j < 0 then f j else 0) = fun _ => 0 := fun f => funext fun j => if_neg (Nat.not_lt_zero _)
  rw [e, e, e, ite_self, ite_self, ite_self]
