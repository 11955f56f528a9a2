/-! p31: isSpoiled. -/
/-- what the tables say besides, the script, and what stands in the JDK's classes -/
def tx_ (A : Nat → Prop) (sa L : Nat) (xs : Nat → Int32) (U : State) : Prop := sx_ A sa L xs U ∧ ao_ U ∧ ∃ jk jv jo jt, jd_ A jk jv jo jt U
theorem tx_mk {s U : State} {H : Heap} {A B : Nat → Prop} {locs : List Loc} {sa L : Nat} {xs : Nat → Int32} (hU : U.heap = H) (hW : s.WarmedH U.vm) (hS : va_S A s.heap H locs) (hF : ∀ x, B x → A x) (h : tx_ A sa L xs s) : tx_ B sa L xs U := by
  obtain ⟨h1, h2, jk, jv, jo, jt, h3⟩ := h
  exact ⟨sx_mk hU hW hS hF h1, ao_mk hW h2, jk, jv, jo, jt, jd_mk hU hW hS hF h3⟩
theorem tx_bl (A : Nat → Prop) (sa L : Nat) (xs : Nat → Int32) (U : State) (g : JFrame) (mk : MethodId) (a : Array Value) (h : tx_ A sa L xs U) : tx_ A sa L xs (U.calling g mk a) := by
  obtain ⟨h1, h2, jk, jv, jo, jt, h3⟩ := h
  exact ⟨sx_bl _ _ _ _ _ _ _ _ h1, ao_bl _ _ _ _ h2, jk, jv, jo, jt, jd_bl _ _ _ _ h3⟩
theorem dg_ex {x : Nat} (h1 : 1 ≤ x) (h2 : x < 1000000) : ∃ n, Dg x n := by
  unfold Dg
  by_cases a1 : x < 10
  · exact ⟨1, by decide, by decide, h1, a1⟩
  · by_cases a2 : x < 100
    · exact ⟨2, by decide, by decide, by show 10 ≤ x; omega, a2⟩
    · by_cases a3 : x < 1000
      · exact ⟨3, by decide, by decide, by show 100 ≤ x; omega, a3⟩
      · by_cases a4 : x < 10000
        · exact ⟨4, by decide, by decide, by show 1000 ≤ x; omega, a4⟩
        · by_cases a5 : x < 100000
          · exact ⟨5, by decide, by decide, by show 10000 ≤ x; omega, a5⟩
          · exact ⟨6, by decide, by decide, by show 100000 ≤ x; omega, h2⟩
theorem jg_list : ∀ (n f x : Nat), n ≤ f → x < 10 ^ n → (n = 0 ∨ 10 ^ (n - 1) ≤ x) → dgs f x = (List.range n).map (fun k => x / 10 ^ k % 10) := by
  intro n
  induction n with
  | zero =>
    intro f x _ hx _
    have h0 : x = 0 := by simpa using hx
    subst h0
    cases f <;> rfl
  | succ n IH =>
    intro f x hf hx hl
    obtain ⟨g, rfl⟩ : ∃ g, f = g + 1 := ⟨f - 1, by omega⟩
    have h1 : 10 ^ n ≤ x := hl.elim (fun h => absurd h (Nat.succ_ne_zero _)) (fun h => by rwa [Nat.add_sub_cancel] at h)
    have h0 : x ≠ 0 := by
      have := Nat.pow_pos (a := 10) (n := n) (by decide)
      omega
    have hx2 : x / 10 < 10 ^ n := by rw [Nat.pow_succ] at hx; omega
    have hl2 : n = 0 ∨ 10 ^ (n - 1) ≤ x / 10 := by
      by_cases hn : n = 0
      · exact Or.inl hn
      · refine Or.inr ?_
        obtain ⟨m, rfl⟩ : ∃ m, n = m + 1 := ⟨n - 1, by omega⟩
        rw [Nat.add_sub_cancel]
        rw [Nat.pow_succ] at h1
        omega
    rw [dgs, if_neg h0, IH g (x / 10) (by omega) hx2 hl2, List.range_succ_eq_map, List.map_cons, List.map_map, Nat.pow_zero, Nat.div_one]
    congr 1
    refine List.map_congr_left (fun k _ => ?_)
    show x / 10 / 10 ^ k % 10 = x / 10 ^ (k + 1) % 10
    rw [Nat.div_div_eq_div_mul, Nat.pow_succ, Nat.mul_comm]
theorem jg_l {x n : Nat} (hd : Dg x n) : dgs 10 (ix (nI x)) = (List.range n).map (fun k => x / 10 ^ k % 10) := by
  have h6 := hd.2.1
  have hx := dg_x hd
  rw [show ix (nI x) = x from nI_clamp (by omega)]
  exact jg_list n 10 x (by omega) hd.2.2.2 (Or.inr hd.2.2.1)
theorem jg_0 {x n np : Nat} (hd : Dg x n) (h : ∀ k, k < n → (1 ≤ dgt x n k ∧ dgt x n k ≤ np) ∧ ∀ j, j < k → dgt x n j ≠ dgt x n k) : spS np (nI x) = 0 := by
  unfold spS
  rw [jg_l hd, if_pos]
  refine ⟨fun d h1 => ?_, ?_⟩
  · obtain ⟨k, hk, rfl⟩ := List.mem_map.mp h1
    have hk := List.mem_range.mp hk
    have h2 := (h (n - 1 - k) (by omega)).1
    unfold dgt at h2
    rw [show n - 1 - (n - 1 - k) = k by omega] at h2
    exact h2
  · refine List.pairwise_iff_getElem.mpr (fun i j hi hj hij => ?_)
    rw [List.length_map, List.length_range] at hi hj
    rw [List.getElem_map, List.getElem_map, List.getElem_range, List.getElem_range]
    have h2 := (h (n - 1 - i) (by omega)).2 (n - 1 - j) (by omega)
    unfold dgt at h2
    rw [show n - 1 - (n - 1 - i) = i by omega, show n - 1 - (n - 1 - j) = j by omega] at h2
    exact fun h3 => h2 h3.symm
theorem jg_1 {x n np k : Nat} (hd : Dg x n) (hk : k < n) (h : ¬ (1 ≤ dgt x n k ∧ dgt x n k ≤ np)) : spS np (nI x) = 1 := by
  unfold spS
  rw [jg_l hd, if_neg]
  intro h1
  exact h (h1.1 _ (List.mem_map.mpr ⟨n - 1 - k, List.mem_range.mpr (by omega), rfl⟩))
theorem jg_2 {x n np k j : Nat} (hd : Dg x n) (hk : k < n) (hj : j < k) (e : dgt x n j = dgt x n k) : spS np (nI x) = 1 := by
  unfold spS
  rw [jg_l hd, if_neg]
  intro h1
  have h2 := List.pairwise_iff_getElem.mp h1.2 (n - 1 - k) (n - 1 - j) (by rw [List.length_map, List.length_range]; omega) (by rw [List.length_map, List.length_range]; omega) (by omega)
  rw [List.getElem_map, List.getElem_map, List.getElem_range, List.getElem_range] at h2
  exact h2 e.symm
theorem jg_first {x n k : Nat} (hk : k < n) : ∃ j, j ≤ k ∧ gcF x n j = nI (48 + dgt x n k) ∧ ∀ j2, j2 < j → ¬ gcF x n j2 = nI (48 + dgt x n k) := by
  have h : ∀ m, (∃ j, j ≤ m ∧ gcF x n j = nI (48 + dgt x n k)) → ∃ j, j ≤ m ∧ gcF x n j = nI (48 + dgt x n k) ∧ ∀ j2, j2 < j → ¬ gcF x n j2 = nI (48 + dgt x n k) := by
    intro m
    induction m with
    | zero =>
      rintro ⟨j, hj, e⟩
      exact ⟨j, hj, e, fun j2 h2 => absurd h2 (by omega)⟩
    | succ m IH =>
      rintro ⟨j, hj, e⟩
      by_cases h9 : ∃ j, j ≤ m ∧ gcF x n j = nI (48 + dgt x n k)
      · obtain ⟨j2, a1, a2⟩ := IH h9
        exact ⟨j2, by omega, a2⟩
      · exact ⟨j, hj, e, fun j2 h2 h3 => h9 ⟨j2, by omega, h3⟩⟩
  exact h k ⟨k, Nat.le_refl k, gc_at hk⟩
theorem jg_e {x n k j : Nat} (hjk : j ≤ k) (hk : k < n) (e : gcF x n j = nI (48 + dgt x n k)) : dgt x n j = dgt x n k := by
  rw [gc_at (by omega)] at e
  have h1 := dgt_lt x n j
  have h2 := dgt_lt x n k
  have := (nI_eq (by omega) (by omega)).mp e
  omega
set_option maxHeartbeats 4000000 in
set_option maxRecDepth 100000 in
theorem c_X6_isSpoiled (l : Launch) (dC : Nat → ClassId) (dI : Nat → Nat → Nat) (q : Nat → ClassId) (ta aa : Nat → Nat) (sa : Nat) (L : Nat) (xs : Nat → Int32) (Y : TS) (xa : Int32) (sz : Nat) (ro : Int32) (hF : F_X6_isSpoiled L xs Y xa = some ro) : Met l yX6_isSpoiled wsX6_isSpoiled ({ frames := 11, cells := 6, slots := 60, locals := 240 }) (va_Pc [.ref (ta 0), .int xa] (fun U => pr_ dC dI (ww q ta aa sa Y) (bty q) sz U ∧ tx_ (va_A (ww q ta aa sa Y) sz) sa L xs U)) (va_Qi (fun (r : Int32) (_ : Unit) => r = ro) (fun (_ : Unit) t => po_ dC dI (ww q ta aa sa Y) (bty q) (va_A (ww q ta aa sa Y) sz) t) (va_A (ww q ta aa sa Y) sz)) 6 60 (va_A (ww q ta aa sa Y) sz) := by
  obtain ⟨⟨⟨hx1, hx2⟩, hn9⟩, hF2⟩ := gd_some hF
  obtain ⟨x, hx9, rfl⟩ := nI_of2 (n := 999999) (by decide) (fun h9 => absurd hx1 (by
    intro h8
    have := Int32.lt_iff_toInt_lt.mp h9
    have := Int32.le_iff_toInt_le.mp h8
    have e0 : (0 : Int32).toInt = 0 := by decide
    have e1 : (1 : Int32).toInt = 1 := by decide
    omega)) hx2
  have hxp : 1 ≤ x := (nI_leI (a := 1) (by decide) (by omega)).mp hx1
  have hro : spS (Y.1.1 1) (nI x) = ro := Option.some.inj hF2
  obtain ⟨n, hd⟩ := dg_ex hxp (show x < 1000000 by omega)
  have hn1 : 1 ≤ n := hd.1
  have hn6 : n ≤ 6 := hd.2.1
  refine Met.ofW (cc := cX6_isSpoiled) (maxL := 5) (ret := (some .boolean)) (by decide) rfl ?_
  intro p e s m args below meth c s₁ B hml hv
  obtain ⟨hargs, ⟨hsz, hPT, hKT, hDT⟩, hXt⟩ := hv
  have hx := B.exec
  have hb := B.bytes
  have hr := B.returns
  have hts := atoms_spec (ws := wsX6_isSpoiled) B.pre
  have hown : s.vm.findClass RX6 = some m.cls := findClass_of_methodNamed B.named
  have hlocks := B.notSynchronized
  subst hsz
  obtain ⟨jk, jv, jo, jt, hXj⟩ := hXt.2.2
  have hA2 : ∀ y, va_A [] s.heap.size y → va_A (ww q ta aa sa Y) s.heap.size y := fun y h9 => h9.elim (fun h8 => by obtain ⟨k8, e8, h8⟩ := h8; cases h8) Or.inr
  have hAn : ∀ y, y < s.heap.size → ¬ va_A [] s.heap.size y := fun y h8 h9 => h9.elim (fun h7 => by obtain ⟨k8, e8, h7⟩ := h7; cases h7) (fun h7 => absurd h8 (Nat.not_lt.mpr h7))
  have hXs := jd_narrow hA2 hXj
  have hA : ∀ y, s.heap.size ≤ y → va_A [] s.heap.size y := fun y h9 => Or.inr h9
  generalize va_A [] s.heap.size = A at hA hA2 hAn hXs
  have hS : va_S A s.heap s.heap [] := va_S.rf
  have hP : va_P (dC, dI) vwCl [] s.heap := va_Pn _
  have hD : va_D A [] := va_Dn A
  have hK : va_K (dC, dI) vwCl [] s := hKT.sub (tys' := []) [] rfl
  have hinX6 : ∀ w ∈ u_ws RX6 TX6 9, w ∈ wsX6_isSpoiled := by decide +kernel
  have hl := lv_entry ([.ref (ta 0), .int (nI x)]) (n := 5) (Nat.le_of_ble_eq_true rfl)
  refine w_ent hargs ?_
  rw [lg_entry_eq]
  generalize (lg_sl ([.ref (ta 0), .int (nI x)]) ++ List.replicate (5 - (lg_sl ([.ref (ta 0), .int (nI x)])).length) Slot.unset).toArray = ls at hl ⊢
  have hl : lv_has ls 5 [(0, .ref (ta 0)), (1, .int (nI x))] := hl
  have hinJ4 : ∀ w ∈ u_ws RJ4 TJ4 4, w ∈ wsX6_isSpoiled := by decide +kernel
  refine va_new (ci := 1) (fs := [.null, .int 0, .int 0, .int 0]) (C := RJ4) (T := TJ4) (N := 4) hx hb hts hinJ4 tyJ4 tyJ4_ok hown (hts (.classLink RX6 77 RJ4) (by decide +kernel)) (hts (.instantiable RJ4 4) (by decide +kernel)) (hts (.initialized RJ4) (by decide +kernel)) hK hP hD hS hA rfl (by intro j hj; match j, hj with | 0, _ => rfl | 1, _ => rfl | 2, _ => rfl | 3, _ => rfl) (Nat.le_of_ble_eq_true rfl) (Nat.le_of_ble_eq_true rfl) dX6_isSpoiled_0 (fun q_1 H hP hD hS => ?_)
  have hP : va_P (dC, dI) vwCl [(q_1, .inr (1, [.null, .int 0, .int 0, .int 0]))] H := hP
  have hD : va_D A [(q_1, .inr (1, [.null, .int 0, .int 0, .int 0]))] := hD
  refine W.widen (k := 1) (n := 4) (Nat.le_of_ble_eq_true rfl) (Nat.le_of_ble_eq_true rfl) ?_
  refine lv_dup hx hb dX6_isSpoiled_3 rfl ?_
  have hPc := hP.sub (ws' := [(q_1, .inr (1, [.null, .int 0, .int 0, .int 0]))]) [0] rfl
  have hDc := hD.sub (ws' := [(q_1, .inr (1, [.null, .int 0, .int 0, .int 0]))]) [0] (by decide) rfl
  have hKc := hK.sub (tys' := []) [] rfl
  have hFc := va_free (wc := [(q_1, .inr (1, [.null, .int 0, .int 0, .int 0]))]) hD hS hA [0] rfl
  refine va_callv (va_runI (As := []) (rest := [.ref q_1]) ⟨hx, hb, hml, hown, hts⟩ (c_J4_init_da8c8 l dC dI jk jv jo jt q_1 _ ) (cwI 0 hts gX6_isSpoiled_J4_init_da8c8 rfl rfl rfl (hts (.initialized RJ4) (by decide +kernel)) (hts (.methodLink RX6 79 yJ4_init_da8c8) (by decide +kernel)) (hts (.instanceMethod yJ4_init_da8c8) (by decide +kernel)) rfl (by decide +kernel) ⟨Nat.le_of_ble_eq_true rfl, Nat.le_of_ble_eq_true rfl⟩) ⟨pe_blind jd_bl, fun U hU hW => ⟨rfl, pr_mk hU hW hPc hKc hDc, jd_mk hU hW hS hFc hXs⟩⟩ rfl rfl hl.1 rfl (lv_room (Nat.le_of_ble_eq_true rfl)) dX6_isSpoiled_4 ⟨Nat.le_of_ble_eq_true rfl, Nat.le_of_ble_eq_true rfl⟩) hS (fun q _ h => hFc q h) hFc (fun u_2 t H1 locs ht hvm hw hB hz1 hk1 hS => ?_)
  obtain ⟨q_4, q_5⟩ := u_2
  obtain ⟨hP1, hK1, hD1⟩ := hB
  rw [ht] at hP1
  obtain ⟨hP, hD⟩ := va_join (wr := []) (w1 := [(q_1, .inr (1, [.ref q_4, .int 0, .int 0, .int 0])), (q_4, .inl (q_5, 16, .inl zi))]) hP hD [0] [] rfl rfl (by decide) (by decide) hk1 hFc hP1 hD1
  have hK := hK.app (va_K.moved hvm.symm hK1)
  have hK : va_K (dC, dI) vwCl [(q_5, .byte)] s := hK
  generalize H1 = H at hP hS ⊢
  have hP : va_P (dC, dI) vwCl [(q_1, .inr (1, [.ref q_4, .int 0, .int 0, .int 0])), (q_4, .inl (q_5, 16, .inl zi))] H := hP
  have hD : va_D A [(q_1, .inr (1, [.ref q_4, .int 0, .int 0, .int 0])), (q_4, .inl (q_5, 16, .inl zi))] := hD
  refine W.widen (k := 2) (n := 20) (Nat.le_of_ble_eq_true rfl) (Nat.le_of_ble_eq_true rfl) ?_
  refine va_ldcS hx hb hown (jd_r hXs) dX6_isSpoiled_7 ?_
  have hPc := hP.sub (ws' := [(q_1, .inr (1, [.ref q_4, .int 0, .int 0, .int 0])), (q_4, .inl (q_5, 16, .inl zi))]) [0, 1] rfl
  have hDc := hD.sub (ws' := [(q_1, .inr (1, [.ref q_4, .int 0, .int 0, .int 0])), (q_4, .inl (q_5, 16, .inl zi))]) [0, 1] (by decide) rfl
  have hKc := hK.sub (tys' := [(q_5, .byte)]) [0] rfl
  have hFc := va_free (wc := [(q_1, .inr (1, [.ref q_4, .int 0, .int 0, .int 0])), (q_4, .inl (q_5, 16, .inl zi))]) hD hS hA [0, 1] rfl
  refine va_callr (va_runV (As := [.ref jk]) (rest := []) ⟨hx, hb, hml, hown, hts⟩ (c_J4_append_15ec4 l dC dI jk jv jo jt q_1 q_4 q_5 _ ) (cwV 1 hts gX6_isSpoiled_J4_append_15ec4 rfl rfl rfl (by decide +kernel) ⟨Nat.le_of_ble_eq_true rfl, Nat.le_of_ble_eq_true rfl⟩) ⟨pe_blind jd_bl, va_recv hKc hPc (ci := 1) (q0 := 0) rfl rfl, fun U hU hW => ⟨rfl, pr_mk hU hW hPc hKc hDc, jd_mk hU hW hS hFc hXs⟩⟩ rfl rfl hl.1 rfl (lv_room (Nat.le_of_ble_eq_true rfl)) dX6_isSpoiled_9 ⟨Nat.le_of_ble_eq_true rfl, Nat.le_of_ble_eq_true rfl⟩) hS (fun q _ h => hFc q h) hFc (fun u_6 r_7 t H1 locs ht hvm hw hB hz1 hk1 hS => ?_)
  obtain ⟨hrb, hP1, hK1, hD1⟩ := hB
  have hrb := hrb.symm
  subst hrb
  have hw9 := hw
  rw [ht] at hP1
  obtain ⟨hP, hD⟩ := va_join (wr := []) (w1 := [(q_1, .inr (1, [.ref q_4, .int 0, .int 0, .int 0])), (q_4, .inl (q_5, 16, .inl zi))]) hP hD [0, 1] [] rfl rfl (by decide) (by decide) hk1 hFc hP1 hD1
  generalize H1 = H at hP hS ⊢
  have hP : va_P (dC, dI) vwCl [(q_1, .inr (1, [.ref q_4, .int 0, .int 0, .int 0])), (q_4, .inl (q_5, 16, .inl zi))] H := hP
  have hD : va_D A [(q_1, .inr (1, [.ref q_4, .int 0, .int 0, .int 0])), (q_4, .inl (q_5, 16, .inl zi))] := hD
  refine W.widen (k := 2) (n := 20) (Nat.le_refl _) (Nat.le_refl _) ?_
  refine lv_iload_n hx hb dX6_isSpoiled_12 rfl (lv_at hl 1 rfl) ?_
  have hPc := hP.sub (ws' := [(q_1, .inr (1, [.ref q_4, .int 0, .int 0, .int 0])), (q_4, .inl (q_5, 16, .inl zi))]) [0, 1] rfl
  have hDc := hD.sub (ws' := [(q_1, .inr (1, [.ref q_4, .int 0, .int 0, .int 0])), (q_4, .inl (q_5, 16, .inl zi))]) [0, 1] (by decide) rfl
  have hKc := hK.sub (tys' := [(q_5, .byte)]) [0] rfl
  have hFc := va_free (wc := [(q_1, .inr (1, [.ref q_4, .int 0, .int 0, .int 0])), (q_4, .inl (q_5, 16, .inl zi))]) hD hS hA [0, 1] rfl
  refine va_callr (va_runV (As := [.int (nI x)]) (rest := []) ⟨hx, hb, hml, hown, hts⟩ (c_J4_append_bf812 l dC dI jk jv jo jt q_1 q_4 q_5 x n _ hd) (cwV 1 hts gX6_isSpoiled_J4_append_bf812 rfl rfl rfl (by decide +kernel) ⟨Nat.le_of_ble_eq_true rfl, Nat.le_of_ble_eq_true rfl⟩) ⟨pe_blind jd_bl, va_recv hKc hPc (ci := 1) (q0 := 0) rfl rfl, fun U hU hW => ⟨rfl, pr_mk hU hW hPc hKc hDc, jd_mk hU hW hS hFc hXs⟩⟩ rfl rfl hl.1 rfl (lv_room (Nat.le_of_ble_eq_true rfl)) dX6_isSpoiled_13 ⟨Nat.le_of_ble_eq_true rfl, Nat.le_of_ble_eq_true rfl⟩) hS (fun q _ h => hFc q h) hFc (fun u_8 r_9 t H1 locs ht hvm hw hB hz1 hk1 hS => ?_)
  obtain ⟨hrb, hP1, hK1, hD1⟩ := hB
  have hrb := hrb.symm
  subst hrb
  have hw9 := hw
  rw [ht] at hP1
  obtain ⟨hP, hD⟩ := va_join (wr := []) (w1 := [(q_1, .inr (1, [.ref q_4, .int 0, .int 0, .int (nI n)])), (q_4, .inl (q_5, 16, .inl (gcF x n)))]) hP hD [0, 1] [] rfl rfl (by decide) (by decide) hk1 hFc hP1 hD1
  generalize H1 = H at hP hS ⊢
  have hP : va_P (dC, dI) vwCl [(q_1, .inr (1, [.ref q_4, .int 0, .int 0, .int (nI n)])), (q_4, .inl (q_5, 16, .inl (gcF x n)))] H := hP
  have hD : va_D A [(q_1, .inr (1, [.ref q_4, .int 0, .int 0, .int (nI n)])), (q_4, .inl (q_5, 16, .inl (gcF x n)))] := hD
  refine W.widen (k := 2) (n := 20) (Nat.le_refl _) (Nat.le_refl _) ?_
  have hPc := hP.sub (ws' := [(q_1, .inr (1, [.ref q_4, .int 0, .int 0, .int (nI n)])), (q_4, .inl (q_5, 16, .inl (gcF x n)))]) [0, 1] rfl
  have hDc := hD.sub (ws' := [(q_1, .inr (1, [.ref q_4, .int 0, .int 0, .int (nI n)])), (q_4, .inl (q_5, 16, .inl (gcF x n)))]) [0, 1] (by decide) rfl
  have hKc := hK.sub (tys' := [(q_5, .byte)]) [0] rfl
  have hFc := va_free (wc := [(q_1, .inr (1, [.ref q_4, .int 0, .int 0, .int (nI n)])), (q_4, .inl (q_5, 16, .inl (gcF x n)))]) hD hS hA [0, 1] rfl
  refine va_callr (va_runV (As := []) (rest := []) ⟨hx, hb, hml, hown, hts⟩ (c_J4_toString_0e30d l dC dI jk jv jo jt q_1 q_4 q_5 x n _ hd) (cwV 0 hts gX6_isSpoiled_J4_toString_0e30d rfl rfl rfl (by decide +kernel) ⟨Nat.le_of_ble_eq_true rfl, Nat.le_of_ble_eq_true rfl⟩) ⟨pe_blind jd_bl, va_recv hKc hPc (ci := 1) (q0 := 0) rfl rfl, fun U hU hW => ⟨rfl, pr_mk hU hW hPc hKc hDc, jd_mk hU hW hS hFc hXs⟩⟩ rfl rfl hl.1 rfl (lv_room (Nat.le_of_ble_eq_true rfl)) dX6_isSpoiled_16 ⟨Nat.le_of_ble_eq_true rfl, Nat.le_of_ble_eq_true rfl⟩) hS (fun q _ h => hFc q h) hFc (fun u_10 r_11 t H1 locs ht hvm hw hB hz1 hk1 hS => ?_)
  obtain ⟨q_12, rfl⟩ : ∃ z, z = u_10 := ⟨_, rfl⟩
  obtain ⟨hP1, hK1, hD1⟩ := hB
  rw [ht] at hP1
  obtain ⟨hP, hD⟩ := va_join (wr := []) (w1 := [(q_1, .inr (1, [.ref q_4, .int 0, .int 0, .int (nI n)])), (q_4, .inl (q_5, 16, .inl (gcF x n))), (r_11, .inr (0, [.ref q_12, .int 0, .int 0, .int 0])), (q_12, .inl (q_5, n, .inl (gcF x n)))]) hP hD [0, 1] [] rfl rfl (by decide) (by decide) hk1 hFc hP1 hD1
  generalize H1 = H at hP hS ⊢
  have hP : va_P (dC, dI) vwCl [(q_1, .inr (1, [.ref q_4, .int 0, .int 0, .int (nI n)])), (q_4, .inl (q_5, 16, .inl (gcF x n))), (r_11, .inr (0, [.ref q_12, .int 0, .int 0, .int 0])), (q_12, .inl (q_5, n, .inl (gcF x n)))] H := hP
  have hD : va_D A [(q_1, .inr (1, [.ref q_4, .int 0, .int 0, .int (nI n)])), (q_4, .inl (q_5, 16, .inl (gcF x n))), (r_11, .inr (0, [.ref q_12, .int 0, .int 0, .int 0])), (q_12, .inl (q_5, n, .inl (gcF x n)))] := hD
  refine W.widen (k := 4) (n := 30) (Nat.le_of_ble_eq_true rfl) (Nat.le_of_ble_eq_true rfl) ?_
  refine lv_astore_n (lv' := [(2, .ref r_11), (0, .ref (ta 0)), (1, .int (nI x))]) hx hb dX6_isSpoiled_19 rfl hl (by decide) rfl (fun ls hl => ?_)
  refine lv_iconst (v := 0) hx hb dX6_isSpoiled_20 (by decide) ?_
  refine lv_istore_n (lv' := [(3, .int 0), (2, .ref r_11), (0, .ref (ta 0)), (1, .int (nI x))]) hx hb dX6_isSpoiled_21 rfl hl (by decide) rfl (fun ls hl => ?_)
  have hP := hP.sub (ws' := [(r_11, .inr (0, [.ref q_12, .int 0, .int 0, .int 0])), (q_12, .inl (q_5, n, .inl (gcF x n)))]) [2, 3] rfl
  have hD := hD.sub (ws' := [(r_11, .inr (0, [.ref q_12, .int 0, .int 0, .int 0])), (q_12, .inl (q_5, n, .inl (gcF x n)))]) [2, 3] (by decide) rfl
  refine (?_ : ∀ (r k : Nat) (H : Heap) (locs : List Loc) (ls : Array Slot), k + r = n → (∀ k0, k0 < k → (1 ≤ dgt x n k0 ∧ dgt x n k0 ≤ Y.1.1 1) ∧ ∀ j, j < k0 → dgt x n j ≠ dgt x n k0) → va_P (dC, dI) vwCl [(r_11, .inr (0, [.ref q_12, .int 0, .int 0, .int 0])), (q_12, .inl (q_5, n, .inl (gcF x n)))] H → va_D A [(r_11, .inr (0, [.ref q_12, .int 0, .int 0, .int 0])), (q_12, .inl (q_5, n, .inl (gcF x n)))] → va_S A s.heap H locs → lv_has ls 5 [(3, .int (nI k)), (0, .ref (ta 0)), (2, .ref r_11)] → W p l e _ s m _ below meth c H locs 4 30 _ (F0 m 22 ls [])) n 0 _ _ _ (by omega) (fun k0 h9 => absurd h9 (Nat.not_lt_zero _)) hP hD hS (lv_sub hl [0, 2, 1] rfl)
  clear hP hD hS hl
  intro r
  induction r with
  | zero =>
    intro k H locs ls hkr hG hP hD hS hl
    refine lv_iload_n hx hb dX6_isSpoiled_22 rfl (lv_at hl 0 rfl) ?_
    refine lv_aload_n hx hb dX6_isSpoiled_23 rfl (lv_at hl 2 rfl) ?_
    have hPc := hP.sub (ws' := [(r_11, .inr (0, [.ref q_12, .int 0, .int 0, .int 0])), (q_12, .inl (q_5, n, .inl (gcF x n)))]) [0, 1] rfl
    have hDc := hD.sub (ws' := [(r_11, .inr (0, [.ref q_12, .int 0, .int 0, .int 0])), (q_12, .inl (q_5, n, .inl (gcF x n)))]) [0, 1] (by decide) rfl
    have hKc := hK.sub (tys' := [(q_5, .byte)]) [0] rfl
    have hFc := va_free (wc := [(r_11, .inr (0, [.ref q_12, .int 0, .int 0, .int 0])), (q_12, .inl (q_5, n, .inl (gcF x n)))]) hD hS hA [0, 1] rfl
    refine va_calli (va_runV (As := []) (rest := [.int (nI k)]) ⟨hx, hb, hml, hown, hts⟩ (c_J0_length_8abf5 l dC dI jk jv jo jt q_5 (gcF x n) r_11 q_12 n _ ) (cwV 0 hts gX6_isSpoiled_J0_length_8abf5 rfl rfl rfl (by decide +kernel) ⟨Nat.le_of_ble_eq_true rfl, Nat.le_of_ble_eq_true rfl⟩) ⟨pe_blind jd_bl, va_recv hKc hPc (ci := 0) (q0 := 0) rfl rfl, fun U hU hW => ⟨rfl, pr_mk hU hW hPc hKc hDc, jd_mk hU hW hS hFc hXs⟩⟩ rfl rfl hl.1 rfl (lv_room (Nat.le_of_ble_eq_true rfl)) dX6_isSpoiled_24 ⟨Nat.le_of_ble_eq_true rfl, Nat.le_of_ble_eq_true rfl⟩) hS (fun q _ h => hFc q h) hFc (fun r_14 u_13 t H1 locs ht hvm hw hB hz1 hk1 hS => ?_)
    obtain ⟨hP1, hK1, hD1⟩ := hB
    rw [ht] at hP1
    obtain ⟨hP, hD⟩ := va_join (wr := []) (w1 := [(r_11, .inr (0, [.ref q_12, .int 0, .int 0, .int 0])), (q_12, .inl (q_5, n, .inl (gcF x n)))]) hP hD [0, 1] [] rfl rfl (by decide) (by decide) hk1 hFc hP1 hD1
    generalize H1 = H at hP hS ⊢
    have hP : va_P (dC, dI) vwCl [(r_11, .inr (0, [.ref q_12, .int 0, .int 0, .int 0])), (q_12, .inl (q_5, n, .inl (gcF x n)))] H := hP
    have hD : va_D A [(r_11, .inr (0, [.ref q_12, .int 0, .int 0, .int 0])), (q_12, .inl (q_5, n, .inl (gcF x n)))] := hD
    refine W.widen (k := 4) (n := 30) (Nat.le_refl _) (Nat.le_refl _) ?_
    have hw : nI n = r_14 := Eq.symm hw
    subst hw
    refine lv_icmp_ge (tgt := 77) hx hb dX6_isSpoiled_27 (by decide) (fun _ => ?_) (fun h9 => (h9 (nI_le (by omega) (by omega))).elim)
    refine lv_iconst (v := 0) hx hb dX6_isSpoiled_77 (by decide) ?_
    have hPT9 : va_P (dC, dI) vwCl (ww q ta aa sa Y) H := hPT.kept (fun k9 r9 h9 => hS.2.1 r9.1 ((hPT k9 r9 h9).lt) (hAn _ ((hPT k9 r9 h9).lt)))
    have hS9 : va_S (va_A (ww q ta aa sa Y) s.heap.size) s.heap H locs := ⟨hS.1, fun y9 h8 h9 => hS.2.1 y9 h8 (fun h7 => h9 (hA2 y9 h7)), fun l9 h9 => hA2 _ (hS.2.2 l9 h9)⟩
    refine W.widen (k := 6) (n := 60) (Nat.le_of_ble_eq_true rfl) (Nat.le_of_ble_eq_true rfl) ?_
    exact W.zret (v := 0) hx hb hr rfl (fun t ht hW => ⟨⟨0, (), rfl, by rw [← hro, jg_0 hd (fun k0 h9 => hG k0 (by omega))], po_mk ht hW hPT9 hKT (hDT.self (sz := s.heap.size))⟩, hS9.F ht⟩) hS9.2.2 dX6_isSpoiled_78
  | succ r IH =>
    intro k H locs ls hkr hG hP hD hS hl
    refine lv_iload_n hx hb dX6_isSpoiled_22 rfl (lv_at hl 0 rfl) ?_
    refine lv_aload_n hx hb dX6_isSpoiled_23 rfl (lv_at hl 2 rfl) ?_
    have hPc := hP.sub (ws' := [(r_11, .inr (0, [.ref q_12, .int 0, .int 0, .int 0])), (q_12, .inl (q_5, n, .inl (gcF x n)))]) [0, 1] rfl
    have hDc := hD.sub (ws' := [(r_11, .inr (0, [.ref q_12, .int 0, .int 0, .int 0])), (q_12, .inl (q_5, n, .inl (gcF x n)))]) [0, 1] (by decide) rfl
    have hKc := hK.sub (tys' := [(q_5, .byte)]) [0] rfl
    have hFc := va_free (wc := [(r_11, .inr (0, [.ref q_12, .int 0, .int 0, .int 0])), (q_12, .inl (q_5, n, .inl (gcF x n)))]) hD hS hA [0, 1] rfl
    refine va_calli (va_runV (As := []) (rest := [.int (nI k)]) ⟨hx, hb, hml, hown, hts⟩ (c_J0_length_8abf5 l dC dI jk jv jo jt q_5 (gcF x n) r_11 q_12 n _ ) (cwV 0 hts gX6_isSpoiled_J0_length_8abf5 rfl rfl rfl (by decide +kernel) ⟨Nat.le_of_ble_eq_true rfl, Nat.le_of_ble_eq_true rfl⟩) ⟨pe_blind jd_bl, va_recv hKc hPc (ci := 0) (q0 := 0) rfl rfl, fun U hU hW => ⟨rfl, pr_mk hU hW hPc hKc hDc, jd_mk hU hW hS hFc hXs⟩⟩ rfl rfl hl.1 rfl (lv_room (Nat.le_of_ble_eq_true rfl)) dX6_isSpoiled_24 ⟨Nat.le_of_ble_eq_true rfl, Nat.le_of_ble_eq_true rfl⟩) hS (fun q _ h => hFc q h) hFc (fun r_16 u_15 t H1 locs ht hvm hw hB hz1 hk1 hS => ?_)
    obtain ⟨hP1, hK1, hD1⟩ := hB
    rw [ht] at hP1
    obtain ⟨hP, hD⟩ := va_join (wr := []) (w1 := [(r_11, .inr (0, [.ref q_12, .int 0, .int 0, .int 0])), (q_12, .inl (q_5, n, .inl (gcF x n)))]) hP hD [0, 1] [] rfl rfl (by decide) (by decide) hk1 hFc hP1 hD1
    generalize H1 = H at hP hS ⊢
    have hP : va_P (dC, dI) vwCl [(r_11, .inr (0, [.ref q_12, .int 0, .int 0, .int 0])), (q_12, .inl (q_5, n, .inl (gcF x n)))] H := hP
    have hD : va_D A [(r_11, .inr (0, [.ref q_12, .int 0, .int 0, .int 0])), (q_12, .inl (q_5, n, .inl (gcF x n)))] := hD
    refine W.widen (k := 4) (n := 30) (Nat.le_refl _) (Nat.le_refl _) ?_
    have hw : nI n = r_16 := Eq.symm hw
    subst hw
    refine lv_icmp_ge (tgt := 77) hx hb dX6_isSpoiled_27 (by decide) (fun h9 => (nI_ge (by omega) (by omega) h9).elim) (fun _ => ?_)
    have hdk := dgt_lt x n k
    refine lv_aload_n hx hb dX6_isSpoiled_30 rfl (lv_at hl 2 rfl) ?_
    refine lv_iload_n hx hb dX6_isSpoiled_31 rfl (lv_at hl 0 rfl) ?_
    have hPc := hP.sub (ws' := [(r_11, .inr (0, [.ref q_12, .int 0, .int 0, .int 0])), (q_12, .inl (q_5, n, .inl (gcF x n)))]) [0, 1] rfl
    have hDc := hD.sub (ws' := [(r_11, .inr (0, [.ref q_12, .int 0, .int 0, .int 0])), (q_12, .inl (q_5, n, .inl (gcF x n)))]) [0, 1] (by decide) rfl
    have hKc := hK.sub (tys' := [(q_5, .byte)]) [0] rfl
    have hFc := va_free (wc := [(r_11, .inr (0, [.ref q_12, .int 0, .int 0, .int 0])), (q_12, .inl (q_5, n, .inl (gcF x n)))]) hD hS hA [0, 1] rfl
    refine va_calli (va_runV (As := [.int (nI k)]) (rest := []) ⟨hx, hb, hml, hown, hts⟩ (c_J0_charAt_5068e l dC dI jk jv jo jt q_5 r_11 q_12 x n k _ hd (by omega)) (cwV 1 hts gX6_isSpoiled_J0_charAt_5068e rfl rfl rfl (by decide +kernel) ⟨Nat.le_of_ble_eq_true rfl, Nat.le_of_ble_eq_true rfl⟩) ⟨pe_blind jd_bl, va_recv hKc hPc (ci := 0) (q0 := 0) rfl rfl, fun U hU hW => ⟨rfl, pr_mk hU hW hPc hKc hDc, jd_mk hU hW hS hFc hXs⟩⟩ rfl rfl hl.1 rfl (lv_room (Nat.le_of_ble_eq_true rfl)) dX6_isSpoiled_32 ⟨Nat.le_of_ble_eq_true rfl, Nat.le_of_ble_eq_true rfl⟩) hS (fun q _ h => hFc q h) hFc (fun r_18 u_17 t H1 locs ht hvm hw hB hz1 hk1 hS => ?_)
    obtain ⟨hP1, hK1, hD1⟩ := hB
    rw [ht] at hP1
    obtain ⟨hP, hD⟩ := va_join (wr := []) (w1 := [(r_11, .inr (0, [.ref q_12, .int 0, .int 0, .int 0])), (q_12, .inl (q_5, n, .inl (gcF x n)))]) hP hD [0, 1] [] rfl rfl (by decide) (by decide) hk1 hFc hP1 hD1
    generalize H1 = H at hP hS ⊢
    have hP : va_P (dC, dI) vwCl [(r_11, .inr (0, [.ref q_12, .int 0, .int 0, .int 0])), (q_12, .inl (q_5, n, .inl (gcF x n)))] H := hP
    have hD : va_D A [(r_11, .inr (0, [.ref q_12, .int 0, .int 0, .int 0])), (q_12, .inl (q_5, n, .inl (gcF x n)))] := hD
    refine W.widen (k := 4) (n := 30) (Nat.le_refl _) (Nat.le_refl _) ?_
    have hw : nI (48 + dgt x n k) = r_18 := Eq.symm hw
    subst hw
    refine lv_bipush (v := 48) hx hb dX6_isSpoiled_35 (by decide) ?_
    refine lv_isub hx hb dX6_isSpoiled_37 ?_
    refine lv_topi (fun y_19 ey_19 => ?_)
    obtain rfl : y_19 = nI (dgt x n k) := ey_19.trans ((pk_sub (a := 48 + dgt x n k) (b := 48) (by omega)).trans (by rw [Nat.add_sub_cancel_left]))
    refine lv_istore (lv' := [(4, .int (nI (dgt x n k))), (3, .int (nI k)), (0, .ref (ta 0)), (2, .ref r_11)]) hx hb dX6_isSpoiled_38 hl (by decide) rfl (fun ls hl => ?_)
    refine lv_iload hx hb dX6_isSpoiled_40 (lv_at hl 0 rfl) ?_
    refine lv_iconst (v := 1) hx hb dX6_isSpoiled_42 (by decide) ?_
    refine lv_icmp_lt (tgt := 69) hx hb dX6_isSpoiled_43 (by decide) (fun hc_20 => ?_) (fun hc_20 => ?_)
    · refine lv_iconst (v := 1) hx hb dX6_isSpoiled_69 (by decide) ?_
      have hPT9 : va_P (dC, dI) vwCl (ww q ta aa sa Y) H := hPT.kept (fun k9 r9 h9 => hS.2.1 r9.1 ((hPT k9 r9 h9).lt) (hAn _ ((hPT k9 r9 h9).lt)))
      have hS9 : va_S (va_A (ww q ta aa sa Y) s.heap.size) s.heap H locs := ⟨hS.1, fun y9 h8 h9 => hS.2.1 y9 h8 (fun h7 => h9 (hA2 y9 h7)), fun l9 h9 => hA2 _ (hS.2.2 l9 h9)⟩
      refine W.widen (k := 6) (n := 60) (Nat.le_of_ble_eq_true rfl) (Nat.le_of_ble_eq_true rfl) ?_
      exact W.zret (v := 1) hx hb hr rfl (fun t ht hW => ⟨⟨1, (), rfl, by rw [← hro, jg_1 hd (show k < n by omega) (fun h9 => absurd ((nI_ltI (b := 1) (by omega) (by decide)).mp hc_20) (by omega))], po_mk ht hW hPT9 hKT (hDT.self (sz := s.heap.size))⟩, hS9.F ht⟩) hS9.2.2 dX6_isSpoiled_70
    · refine lv_iload hx hb dX6_isSpoiled_46 (lv_at hl 0 rfl) ?_
      refine lv_aload_n hx hb dX6_isSpoiled_48 rfl (lv_at hl 2 rfl) ?_
      have hPT9 : va_P (dC, dI) vwCl (ww q ta aa sa Y) H := hPT.kept (fun k9 r9 h9 => hS.2.1 r9.1 ((hPT k9 r9 h9).lt) (hAn _ ((hPT k9 r9 h9).lt)))
      refine va_get (D := (dC, dI)) (ci := 8) (v := .ref (ta 1)) (C := RX6) (T := TX6) (N := 9) hx hb hts hinX6 hown hKT hPT9 0 ww_0 rfl 3 (by decide) (hts (.fieldLink RX6 16 "BallotLoomLaw$Told" "parties" "[I") (by decide +kernel)) (fun _ h9 => h9) rfl dX6_isSpoiled_49 ?_
      refine va_alen (v := nI (Y.1.1 1)) hx hb hKT hPT9 1 0 ww_1 rfl rfl dX6_isSpoiled_52 ?_
      refine lv_icmp_gt (tgt := 69) hx hb dX6_isSpoiled_53 (by decide) (fun hc_21 => ?_) (fun hc_21 => ?_)
      · refine lv_iconst (v := 1) hx hb dX6_isSpoiled_69 (by decide) ?_
        have hPT9 : va_P (dC, dI) vwCl (ww q ta aa sa Y) H := hPT.kept (fun k9 r9 h9 => hS.2.1 r9.1 ((hPT k9 r9 h9).lt) (hAn _ ((hPT k9 r9 h9).lt)))
        have hS9 : va_S (va_A (ww q ta aa sa Y) s.heap.size) s.heap H locs := ⟨hS.1, fun y9 h8 h9 => hS.2.1 y9 h8 (fun h7 => h9 (hA2 y9 h7)), fun l9 h9 => hA2 _ (hS.2.2 l9 h9)⟩
        refine W.widen (k := 6) (n := 60) (Nat.le_of_ble_eq_true rfl) (Nat.le_of_ble_eq_true rfl) ?_
        exact W.zret (v := 1) hx hb hr rfl (fun t ht hW => ⟨⟨1, (), rfl, by rw [← hro, jg_1 hd (show k < n by omega) (fun h9 => absurd ((nI_ltI (by omega) (by omega)).mp hc_21) (by omega))], po_mk ht hW hPT9 hKT (hDT.self (sz := s.heap.size))⟩, hS9.F ht⟩) hS9.2.2 dX6_isSpoiled_70
      · obtain ⟨j, hjk, hf9⟩ := jg_first (x := x) (n := n) (k := k) (by omega)
        refine lv_aload_n hx hb dX6_isSpoiled_56 rfl (lv_at hl 3 rfl) ?_
        refine lv_aload_n hx hb dX6_isSpoiled_57 rfl (lv_at hl 3 rfl) ?_
        refine lv_iload_n hx hb dX6_isSpoiled_58 rfl (lv_at hl 1 rfl) ?_
        have hPc := hP.sub (ws' := [(r_11, .inr (0, [.ref q_12, .int 0, .int 0, .int 0])), (q_12, .inl (q_5, n, .inl (gcF x n)))]) [0, 1] rfl
        have hDc := hD.sub (ws' := [(r_11, .inr (0, [.ref q_12, .int 0, .int 0, .int 0])), (q_12, .inl (q_5, n, .inl (gcF x n)))]) [0, 1] (by decide) rfl
        have hKc := hK.sub (tys' := [(q_5, .byte)]) [0] rfl
        have hFc := va_free (wc := [(r_11, .inr (0, [.ref q_12, .int 0, .int 0, .int 0])), (q_12, .inl (q_5, n, .inl (gcF x n)))]) hD hS hA [0, 1] rfl
        refine va_calli (va_runV (As := [.int (nI k)]) (rest := [.ref r_11]) ⟨hx, hb, hml, hown, hts⟩ (c_J0_charAt_5068e l dC dI jk jv jo jt q_5 r_11 q_12 x n k _ hd (by omega)) (cwV 1 hts gX6_isSpoiled_J0_charAt_5068e rfl rfl rfl (by decide +kernel) ⟨Nat.le_of_ble_eq_true rfl, Nat.le_of_ble_eq_true rfl⟩) ⟨pe_blind jd_bl, va_recv hKc hPc (ci := 0) (q0 := 0) rfl rfl, fun U hU hW => ⟨rfl, pr_mk hU hW hPc hKc hDc, jd_mk hU hW hS hFc hXs⟩⟩ rfl rfl hl.1 rfl (lv_room (Nat.le_of_ble_eq_true rfl)) dX6_isSpoiled_59 ⟨Nat.le_of_ble_eq_true rfl, Nat.le_of_ble_eq_true rfl⟩) hS (fun q _ h => hFc q h) hFc (fun r_23 u_22 t H1 locs ht hvm hw hB hz1 hk1 hS => ?_)
        obtain ⟨hP1, hK1, hD1⟩ := hB
        rw [ht] at hP1
        obtain ⟨hP, hD⟩ := va_join (wr := []) (w1 := [(r_11, .inr (0, [.ref q_12, .int 0, .int 0, .int 0])), (q_12, .inl (q_5, n, .inl (gcF x n)))]) hP hD [0, 1] [] rfl rfl (by decide) (by decide) hk1 hFc hP1 hD1
        generalize H1 = H at hP hS ⊢
        have hP : va_P (dC, dI) vwCl [(r_11, .inr (0, [.ref q_12, .int 0, .int 0, .int 0])), (q_12, .inl (q_5, n, .inl (gcF x n)))] H := hP
        have hD : va_D A [(r_11, .inr (0, [.ref q_12, .int 0, .int 0, .int 0])), (q_12, .inl (q_5, n, .inl (gcF x n)))] := hD
        refine W.widen (k := 4) (n := 30) (Nat.le_refl _) (Nat.le_refl _) ?_
        have hw : nI (48 + dgt x n k) = r_23 := Eq.symm hw
        subst hw
        have hPc := hP.sub (ws' := [(r_11, .inr (0, [.ref q_12, .int 0, .int 0, .int 0])), (q_12, .inl (q_5, n, .inl (gcF x n)))]) [0, 1] rfl
        have hDc := hD.sub (ws' := [(r_11, .inr (0, [.ref q_12, .int 0, .int 0, .int 0])), (q_12, .inl (q_5, n, .inl (gcF x n)))]) [0, 1] (by decide) rfl
        have hKc := hK.sub (tys' := [(q_5, .byte)]) [0] rfl
        have hFc := va_free (wc := [(r_11, .inr (0, [.ref q_12, .int 0, .int 0, .int 0])), (q_12, .inl (q_5, n, .inl (gcF x n)))]) hD hS hA [0, 1] rfl
        refine va_calli (va_runV (As := [.int (nI (48 + dgt x n k))]) (rest := []) ⟨hx, hb, hml, hown, hts⟩ (c_J0_indexOf_0f7a4 l dC dI jk jv jo jt q_5 r_11 q_12 x n j (48 + dgt x n k) _ hd (by omega) (by have := dgt_lt x n k; omega) hf9) (cwV 1 hts gX6_isSpoiled_J0_indexOf_0f7a4 rfl rfl rfl (by decide +kernel) ⟨Nat.le_of_ble_eq_true rfl, Nat.le_of_ble_eq_true rfl⟩) ⟨pe_blind jd_bl, va_recv hKc hPc (ci := 0) (q0 := 0) rfl rfl, fun U hU hW => ⟨rfl, pr_mk hU hW hPc hKc hDc, jd_mk hU hW hS hFc hXs⟩⟩ rfl rfl hl.1 rfl (lv_room (Nat.le_of_ble_eq_true rfl)) dX6_isSpoiled_62 ⟨Nat.le_of_ble_eq_true rfl, Nat.le_of_ble_eq_true rfl⟩) hS (fun q _ h => hFc q h) hFc (fun r_25 u_24 t H1 locs ht hvm hw hB hz1 hk1 hS => ?_)
        obtain ⟨hP1, hK1, hD1⟩ := hB
        rw [ht] at hP1
        obtain ⟨hP, hD⟩ := va_join (wr := []) (w1 := [(r_11, .inr (0, [.ref q_12, .int 0, .int 0, .int 0])), (q_12, .inl (q_5, n, .inl (gcF x n)))]) hP hD [0, 1] [] rfl rfl (by decide) (by decide) hk1 hFc hP1 hD1
        generalize H1 = H at hP hS ⊢
        have hP : va_P (dC, dI) vwCl [(r_11, .inr (0, [.ref q_12, .int 0, .int 0, .int 0])), (q_12, .inl (q_5, n, .inl (gcF x n)))] H := hP
        have hD : va_D A [(r_11, .inr (0, [.ref q_12, .int 0, .int 0, .int 0])), (q_12, .inl (q_5, n, .inl (gcF x n)))] := hD
        refine W.widen (k := 4) (n := 30) (Nat.le_refl _) (Nat.le_refl _) ?_
        have hw : nI j = r_25 := Eq.symm hw
        subst hw
        refine lv_iload_n hx hb dX6_isSpoiled_65 rfl (lv_at hl 1 rfl) ?_
        refine lv_icmp_eq (tgt := 71) hx hb dX6_isSpoiled_66 (by decide) (fun hc_26 => ?_) (fun hc_26 => ?_)
        · have hjk9 : j = k := (nI_eq (by omega) (by omega)).mp hc_26
          refine lv_iinc (k := 1) (v := nI (k + 1)) (lv' := [(3, .int (nI (k + 1))), (4, .int (nI (dgt x n k))), (0, .ref (ta 0)), (2, .ref r_11)]) hx hb dX6_isSpoiled_71 hl rfl (nI_succ1 _) (by decide) rfl (fun ls hl => ?_)
          refine lv_goto (tgt := 22) hx hb dX6_isSpoiled_74 (by decide) ?_
          refine IH (k + 1) H locs ls (by omega) (fun k0 h9 => ?_) hP hD hS (lv_sub hl [0, 2, 3] rfl)
          by_cases hk0 : k0 = k
          · subst hk0
            refine ⟨⟨?_, ?_⟩, fun j2 h8 h7 => ?_⟩
            · exact Nat.pos_of_ne_zero (fun h8 => hc_20 (by rw [h8]; decide))
            · exact Nat.not_lt.mp (fun h8 => hc_21 (nI_lt h8 (by omega)))
            · exact hf9.2 j2 (by omega) (by rw [gc_at (by omega), h7])
          · exact hG k0 (by omega)
        · refine lv_iconst (v := 1) hx hb dX6_isSpoiled_69 (by decide) ?_
          have hPT9 : va_P (dC, dI) vwCl (ww q ta aa sa Y) H := hPT.kept (fun k9 r9 h9 => hS.2.1 r9.1 ((hPT k9 r9 h9).lt) (hAn _ ((hPT k9 r9 h9).lt)))
          have hS9 : va_S (va_A (ww q ta aa sa Y) s.heap.size) s.heap H locs := ⟨hS.1, fun y9 h8 h9 => hS.2.1 y9 h8 (fun h7 => h9 (hA2 y9 h7)), fun l9 h9 => hA2 _ (hS.2.2 l9 h9)⟩
          refine W.widen (k := 6) (n := 60) (Nat.le_of_ble_eq_true rfl) (Nat.le_of_ble_eq_true rfl) ?_
          exact W.zret (v := 1) hx hb hr rfl (fun t ht hW => ⟨⟨1, (), rfl, by rw [← hro, jg_2 hd (show k < n by omega) (show j < k from Nat.lt_of_le_of_ne hjk (fun h9 => hc_26 (by rw [h9]))) (jg_e hjk (by omega) hf9.1)], po_mk ht hW hPT9 hKT (hDT.self (sz := s.heap.size))⟩, hS9.F ht⟩) hS9.2.2 dX6_isSpoiled_70
