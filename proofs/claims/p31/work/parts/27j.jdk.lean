/-! p31: numbers as text: the JDK's own methods. -/
def Dg (x n : Nat) : Prop := 1 ≤ n ∧ n ≤ 6 ∧ 10 ^ (n - 1) ≤ x ∧ x < 10 ^ n
def dgt (x n j : Nat) : Nat := x / 10 ^ (n - 1 - j) % 10
/-- the digits of x, n of them, as letters -/
def gcF (x n : Nat) : Nat → Int32 := fun j => if j < n then nI (48 + dgt x n j) else 0
theorem dg_x {x n : Nat} (h : Dg x n) : x < 1000000 := Nat.lt_of_lt_of_le h.2.2.2 (Nat.pow_le_pow_right (n := 10) (by decide) h.2.1)
theorem dg_n {x n k : Nat} (h : Dg x n) (h1 : 1 ≤ k ∧ 10 ^ (k - 1) ≤ x) (h2 : x < 10 ^ k) : n = k := by
  obtain ⟨a1, a2, a3, a4⟩ := h
  have b1 : n - 1 < k := (Nat.pow_lt_pow_iff_right (a := 10) (by decide)).mp (Nat.lt_of_le_of_lt a3 h2)
  have b2 : k - 1 < n := (Nat.pow_lt_pow_iff_right (a := 10) (by decide)).mp (Nat.lt_of_le_of_lt h1.2 a4)
  omega
theorem dg_1 {x n : Nat} (h : Dg x n) : 1 ≤ x := Nat.le_trans (Nat.pow_pos (by decide)) h.2.2.1
theorem ecap {x n : Nat} (h : Dg x n) : nI n - 16 ≤ 0 := by
  have h9 : n = 1 ∨ n = 2 ∨ n = 3 ∨ n = 4 ∨ n = 5 ∨ n = 6 := by
    have h1 := h.1
    have h2 := h.2.1
    omega
  rcases h9 with rfl | rfl | rfl | rfl | rfl | rfl <;> decide
theorem n_16 {x n : Nat} (h : Dg x n) : ¬ nI n = 16 := fun h9 => by
  have h2 := h.2.1
  have := (nI_eq (b := 16) (by omega) (by decide)).mp h9
  omega
theorem j255 : ∀ {d : Nat}, d < 10 → nI (48 + d) &&& 255 = nI (48 + d) := by
  have h : ∀ d, d < 10 → nI (48 + d) &&& 255 = nI (48 + d) := by decide +kernel
  exact fun {d} hd => h d hd
theorem ji2c : ∀ {d : Nat}, d < 10 → ((nI (48 + d)).toUInt32 % 65536).toInt32 = nI (48 + d) := by
  have h : ∀ d, d < 10 → ((nI (48 + d)).toUInt32 % 65536).toInt32 = nI (48 + d) := by decide +kernel
  exact fun {d} hd => h d hd
theorem jchr {d : Nat} (hd : d < 10) : narrow .char (.int (nI (48 + d))) = .int (nI (48 + d)) := (pk_charN (by omega)).1
theorem ji2b : ∀ {q : Nat}, q < 128 → (nI q).toInt8.toInt32 = nI q := by
  have h : ∀ q, q < 128 → (nI q).toInt8.toInt32 = nI q := by decide +kernel
  exact fun {q} hq => h q hq
theorem dgt_lt (x n j : Nat) : dgt x n j < 10 := Nat.mod_lt _ (by decide)
theorem gc_at {x n i : Nat} (h : i < n) : gcF x n i = nI (48 + dgt x n i) := if_pos h
theorem jnb : ∀ {d : Nat}, d < 10 → vp_nar .byte (nI (48 + d)) = nI (48 + d) := by
  have h : ∀ d, d < 10 → vp_nar .byte (nI (48 + d)) = nI (48 + d) := by decide +kernel
  exact fun {d} hd => h d hd
theorem jfit : ∀ d, d < 10 → fits .byte (.int (nI (48 + d))) = true := by decide +kernel
theorem gc_fit (x n i : Nat) : fits .byte (.int (gcF x n i)) = true := by
  unfold gcF
  split
  · exact jfit _ (dgt_lt x n i)
  · decide +kernel
theorem jz0 : (0 : Int32).toNatClampNeg = 0 := by decide
theorem jcp0 {f g : Nat → Int32} : va_cpy f g (0 : Int32).toNatClampNeg (0 : Int32).toNatClampNeg (0 : Int32).toNatClampNeg = g := by
  rw [jz0]
  funext j
  unfold va_cpy
  rw [if_neg (by omega)]
theorem gc_cpy {x n : Nat} (hd : Dg x n) : va_cpy (gcF x n) zi (0 : Int32).toNatClampNeg (0 : Int32).toNatClampNeg (nI n : Int32).toNatClampNeg = gcF x n := by
  have h6 := hd.2.1
  rw [jz0, nI_clamp (by omega)]
  funext j
  unfold va_cpy
  by_cases h : j < n
  · rw [if_pos (by omega), Nat.sub_zero, Nat.zero_add]
  · rw [if_neg (by omega)]
    unfold gcF
    rw [if_neg h]
    rfl
theorem gc_d4 {x : Nat} : -nI (x / 10000) = -nI (x / 100 / 100) := by rw [Nat.div_div_eq_div_mul]
theorem ng_le {a b : Nat} (ha : a < 2 ^ 31) (hb : b < 2 ^ 31) (h : a < b) : ¬ -nI a ≤ -nI b := fun h9 => absurd ((sb_nle ha hb).mp h9) (by omega)
theorem ng_lt {a b : Nat} (ha : a < 2 ^ 31) (hb : b < 2 ^ 31) (h : a ≤ b) : ¬ -nI a < -nI b := fun h9 => absurd ((sb_nlt ha hb).mp h9) (by omega)
/-- what stands in the JDK's classes from the start on -/
def jd_ (A : Nat → Prop) (jk jv jo jt : Nat) (U : State) : Prop := vk_R "BallotLoomLaw$Told" 80 "" jk U ∧ vk_S 1 [0] [[]] (fun _ => jk) (fun _ => jv) A U U.heap ∧ va_Z "java/lang/String" "COMPACT_STRINGS" "Z" (.int 1) A U U.heap ∧ va_Zq "jdk/internal/util/Preconditions" "SIOOBE_FORMATTER" "Ljava/util/function/BiFunction;" A U U.heap ∧ (va_Z "java/lang/Integer" "DigitOnes" "[B" (.ref jo) A U U.heap ∧ va_T .byte jo 100 (fun j => .int (nI (48 + j % 10))) A U U.heap) ∧ (va_Z "java/lang/Integer" "DigitTens" "[B" (.ref jt) A U U.heap ∧ va_T .byte jt 100 (fun j => .int (nI (48 + j / 10))) A U U.heap)
section JD
variable {A A1 : Nat → Prop} {jk jv jo jt : Nat} {U : State}
theorem jd_r (h : jd_ A jk jv jo jt U) : vk_R "BallotLoomLaw$Told" 80 "" jk U := h.1
theorem jd_s (h : jd_ A jk jv jo jt U) : vk_S 1 [0] [[]] (fun _ => jk) (fun _ => jv) A U U.heap := h.2.1
theorem jd_lc (h : jd_ A jk jv jo jt U) : va_OF "java/lang/String" "coder" "B" (.int 0) jk A U U.heap := (h.2.1.1 0 Nat.zero_lt_one).2.1
theorem jd_lv (h : jd_ A jk jv jo jt U) : va_OF "java/lang/String" "value" "[B" (.ref jv) jk A U U.heap := (h.2.1.1 0 Nat.zero_lt_one).2.2.1
theorem jd_la (h : jd_ A jk jv jo jt U) : va_T .byte jv 0 (fun j => .int ((([[]] : List (List Int32)).getD 0 []).getD j 0)) A U U.heap := (h.2.1.1 0 Nat.zero_lt_one).2.2.2
theorem jd_c (h : jd_ A jk jv jo jt U) : va_Z "java/lang/String" "COMPACT_STRINGS" "Z" (.int 1) A U U.heap := h.2.2.1
theorem jd_q (h : jd_ A jk jv jo jt U) : va_Zq "jdk/internal/util/Preconditions" "SIOOBE_FORMATTER" "Ljava/util/function/BiFunction;" A U U.heap := h.2.2.2.1
theorem jd_o (h : jd_ A jk jv jo jt U) : va_Z "java/lang/Integer" "DigitOnes" "[B" (.ref jo) A U U.heap := h.2.2.2.2.1.1
theorem jd_ot (h : jd_ A jk jv jo jt U) : va_T .byte jo 100 (fun j => .int (nI (48 + j % 10))) A U U.heap := h.2.2.2.2.1.2
theorem jd_t (h : jd_ A jk jv jo jt U) : va_Z "java/lang/Integer" "DigitTens" "[B" (.ref jt) A U U.heap := h.2.2.2.2.2.1
theorem jd_tt (h : jd_ A jk jv jo jt U) : va_T .byte jt 100 (fun j => .int (nI (48 + j / 10))) A U U.heap := h.2.2.2.2.2.2
theorem jd_bl (U : State) (g : JFrame) (mk : MethodId) (a : Array Value) (h : jd_ A jk jv jo jt U) : jd_ A jk jv jo jt (U.calling g mk a) :=
  ⟨vk_R.same (u := U) (U := U.calling g mk a) rfl (jd_r h), vk_S.moved (u := U) (U := U.calling g mk a) (Vm.Alike.refl U.vm) (jd_s h), va_Z.moved (u := U) (U := U.calling g mk a) (Vm.Alike.refl U.vm) (jd_c h), va_Zq.moved (u := U) (U := U.calling g mk a) (Vm.Alike.refl U.vm) (jd_q h), ⟨va_Z.moved (u := U) (U := U.calling g mk a) (Vm.Alike.refl U.vm) (jd_o h), va_T.moved (u := U) (U := U.calling g mk a) (Vm.Alike.refl U.vm) (jd_ot h)⟩, ⟨va_Z.moved (u := U) (U := U.calling g mk a) (Vm.Alike.refl U.vm) (jd_t h), va_T.moved (u := U) (U := U.calling g mk a) (Vm.Alike.refl U.vm) (jd_tt h)⟩⟩
theorem jd_narrow (hF : ∀ q, A1 q → A q) (h : jd_ A jk jv jo jt U) : jd_ A1 jk jv jo jt U :=
  ⟨jd_r h, (jd_s h).narrow hF, (jd_c h).narrow hF, (jd_q h).narrow hF, ⟨(jd_o h).narrow hF, (jd_ot h).narrow hF⟩, ⟨(jd_t h).narrow hF, (jd_tt h).narrow hF⟩⟩
theorem jd_mk {s : State} {H : Heap} {locs : List Loc} (hU : U.heap = H) (hW : s.WarmedH U.vm) (hS : va_S A s.heap H locs) (hF : ∀ q, A1 q → A q) (h : jd_ A jk jv jo jt s) : jd_ A1 jk jv jo jt U := by
  refine ⟨vk_R.warm hW (jd_r h), ?_, ?_, ?_, ⟨?_, ?_⟩, ⟨?_, ?_⟩⟩
  · rw [hU]; exact vk_S.moved hW.alike ((vk_S.kept (jd_s h) hS.2.1).narrow hF)
  · rw [hU]; exact va_Z.moved hW.alike ((va_Z.kept (jd_c h) hS.2.1).narrow hF)
  · rw [hU]; exact va_Zq.moved hW.alike ((va_Zq.kept (jd_q h) hS.2.1).narrow hF)
  · rw [hU]; exact va_Z.moved hW.alike ((va_Z.kept (jd_o h) hS.2.1).narrow hF)
  · rw [hU]; exact va_T.moved hW.alike ((va_T.kept (jd_ot h) hS.2.1).narrow hF)
  · rw [hU]; exact va_Z.moved hW.alike ((va_Z.kept (jd_t h) hS.2.1).narrow hF)
  · rw [hU]; exact va_T.moved hW.alike ((va_T.kept (jd_tt h) hS.2.1).narrow hF)
end JD
set_option maxHeartbeats 4000000 in
set_option maxRecDepth 100000 in
theorem c_J5_init_d00df (l : Launch) (dC : Nat → ClassId) (dI : Nat → Nat → Nat) (jk : Nat) (jv : Nat) (jo : Nat) (jt : Nat) (sb : Nat) (sz : Nat)  : Met l yJ5_init_d00df wsJ5_init_d00df ({ frames := 3, cells := 1, slots := 16, locals := 90 }) (va_Pc [.ref sb, .int 16] (fun U => pr_ dC dI [(sb, .inr (1, [.null, .int 0, .int 0, .int 0]))] [] sz U ∧ jd_ (va_A [(sb, .inr (1, [.null, .int 0, .int 0, .int 0]))] sz) jk jv jo jt U)) (va_Qv (fun (_ : Nat × ClassId) => True) (fun (u : Nat × ClassId) t => match u with | (b, cB) => po_ dC dI [(sb, .inr (1, [.ref b, .int 0, .int 0, .int 0])), (b, .inl (cB, 16, .inl zi))] [(cB, .byte)] (va_A [(sb, .inr (1, [.null, .int 0, .int 0, .int 0]))] sz) t) (va_A [(sb, .inr (1, [.null, .int 0, .int 0, .int 0]))] sz)) 1 16 (va_A [(sb, .inr (1, [.null, .int 0, .int 0, .int 0]))] sz) := by
  refine Met.ofW (cc := cJ5_init_d00df) (maxL := 2) (ret := none) (by decide) rfl ?_
  intro p e s m args below meth c s₁ B hml hv
  obtain ⟨rfl, ⟨hsz, hP, hK, hD0⟩, hXs⟩ := hv
  have hx := B.exec
  have hb := B.bytes
  have hr := B.returns
  have hts := atoms_spec (ws := wsJ5_init_d00df) B.pre
  have hown : s.vm.findClass RJ5 = some m.cls := findClass_of_methodNamed B.named
  have hlocks := B.notSynchronized
  have hin : meth.name = "<init>" := (name_of_methodNamed B.named B.method).1
  subst hsz
  have hD := hD0.self (sz := s.heap.size)
  generalize hAe : va_A [(sb, .inr (1, [.null, .int 0, .int 0, .int 0]))] s.heap.size = A at hD hXs ⊢
  have hA : ∀ q : Nat, s.heap.size ≤ q → A q := fun q h => by rw [← hAe]; exact Or.inr h
  have hS : va_S A s.heap s.heap [] := va_S.rf
  have hP : va_P (dC, dI) vwCl [(sb, .inr (1, [.null, .int 0, .int 0, .int 0]))] s.heap := hP
  have hK : va_K (dC, dI) vwCl [] s := hK
  have hl := lv_entry ([.ref sb, .int 16]) (n := 2) (Nat.le_of_ble_eq_true rfl)
  rw [lg_entry_eq]
  generalize (lg_sl ([.ref sb, .int 16]) ++ List.replicate (2 - (lg_sl ([.ref sb, .int 16])).length) Slot.unset).toArray = ls at hl ⊢
  have hl : lv_has ls 2 [(0, .ref sb), (1, .int 16)] := hl
  refine lv_aload_n hx hb dJ5_init_d00df_0 rfl (lv_at hl 0 rfl) ?_
  refine W.objInit hx hb hown (hts (.methodLink RJ5 3 objectInit) (by decide +kernel)) (hts (.instanceMethod objectInit) (by decide +kernel)) (hts (.code objectInit ⟨#[0xb1]⟩ 1 none) (by decide +kernel)) rfl (by rw [hml]; exact hl.1) rfl dJ5_init_d00df_1 (Nat.le_of_ble_eq_true rfl) (Nat.le_of_ble_eq_true rfl) ?_
  refine W.eq (g2 := F0 m 4 ls []) rfl ?_
  refine va_gets hx hb (jd_c hXs) hS hown (hts (.fieldLink RJ5 18 "java/lang/String" "COMPACT_STRINGS" "Z") (by decide +kernel)) (fun _ h9 => h9) dJ5_init_d00df_4 ?_
  refine lv_if_eq (tgt := 25) hx hb dJ5_init_d00df_7 (by decide) (fun h9 => absurd h9 (by decide)) (fun _ => ?_)
  refine lv_aload_n hx hb dJ5_init_d00df_10 rfl (lv_at hl 0 rfl) ?_
  refine lv_iload_n hx hb dJ5_init_d00df_11 rfl (lv_at hl 1 rfl) ?_
  refine va_newa (atype := .byte) (ty := .byte) (N' := 16) (a0 := (16, .inl zi)) hx hb (hts (.arrayClass (newarray.typeOf .byte)) (by decide +kernel)) rfl hK hP hD hS hA (fun _ => rfl) (by decide) (by decide) (by decide) (Nat.le_of_ble_eq_true rfl) (Nat.le_of_ble_eq_true rfl) dJ5_init_d00df_12 (fun q_1 c_2 H hK hP hD hS => ?_)
  have hK : va_K (dC, dI) vwCl [(c_2, .byte)] s := hK
  have hP : va_P (dC, dI) vwCl [(sb, .inr (1, [.null, .int 0, .int 0, .int 0])), (q_1, .inl (c_2, 16, .inl zi))] H := hP
  have hD : va_D A [(sb, .inr (1, [.null, .int 0, .int 0, .int 0])), (q_1, .inl (c_2, 16, .inl zi))] := hD
  refine W.widen (k := 1) (n := 16) (by omega) (by omega) ?_
  have hinJ4 : ∀ w ∈ u_ws RJ4 TJ4 4, w ∈ wsJ5_init_d00df := by decide +kernel
  refine va_put (D := (dC, dI)) (ci := 1) (v := .ref q_1) (ty := (.array .byte)) (C := RJ4) (T := TJ4) (N := 4) hx hb hts hinJ4 tyJ4 tyJ4_ok nmJ4 hown hK hP hD hS 0 rfl rfl 0 (by decide) (hts (.fieldLink RJ5 15 "java/lang/AbstractStringBuilder" "value" "[B") (by decide +kernel)) (fun _ h9 => h9) rfl (by decide +kernel) rfl rfl (Nat.le_of_ble_eq_true rfl) dJ5_init_d00df_14 (fun H locs hP hD hS => ?_)
  have hP : va_P (dC, dI) vwCl [(sb, .inr (1, [.ref q_1, .int 0, .int 0, .int 0])), (q_1, .inl (c_2, 16, .inl zi))] H := hP
  have hD : va_D A [(sb, .inr (1, [.ref q_1, .int 0, .int 0, .int 0])), (q_1, .inl (c_2, 16, .inl zi))] := hD
  refine lv_aload_n hx hb dJ5_init_d00df_17 rfl (lv_at hl 0 rfl) ?_
  refine lv_iconst (v := 0) hx hb dJ5_init_d00df_18 (by decide) ?_
  refine va_put (D := (dC, dI)) (ci := 1) (v := .int 0) (ty := .byte) (C := RJ4) (T := TJ4) (N := 4) hx hb hts hinJ4 tyJ4 tyJ4_ok nmJ4 hown hK hP hD hS 0 rfl rfl 1 (by decide) (hts (.fieldLink RJ5 22 "java/lang/AbstractStringBuilder" "coder" "B") (by decide +kernel)) (fun _ h9 => h9) rfl (by decide +kernel) rfl rfl (Nat.le_of_ble_eq_true rfl) dJ5_init_d00df_19 (fun H locs hP hD hS => ?_)
  have hP : va_P (dC, dI) vwCl [(sb, .inr (1, [.ref q_1, .int 0, .int 0, .int 0])), (q_1, .inl (c_2, 16, .inl zi))] H := hP
  have hD : va_D A [(sb, .inr (1, [.ref q_1, .int 0, .int 0, .int 0])), (q_1, .inl (c_2, 16, .inl zi))] := hD
  refine lv_goto (tgt := 38) hx hb dJ5_init_d00df_22 (by decide) ?_
  have hP9 := hP.sub (ws' := [(sb, .inr (1, [.ref q_1, .int 0, .int 0, .int 0])), (q_1, .inl (c_2, 16, .inl zi))]) [0, 1] rfl
  have hD9 := hD.sub (ws' := [(sb, .inr (1, [.ref q_1, .int 0, .int 0, .int 0])), (q_1, .inl (c_2, 16, .inl zi))]) [0, 1] (by decide) rfl
  have hK9 := hK.sub (tys' := [(c_2, .byte)]) [0] rfl
  refine W.widen (k := 1) (n := 16) (Nat.le_of_ble_eq_true rfl) (Nat.le_of_ble_eq_true rfl) ?_
  exact W.vret hx hb hr (fun t ht hW => ⟨⟨⟨q_1, c_2⟩, rfl, trivial, po_mk ht hW hP9 hK9 hD9⟩, hS.F ht⟩) hS.2.2 dJ5_init_d00df_38

set_option maxHeartbeats 4000000 in
set_option maxRecDepth 100000 in
theorem c_J4_init_da8c8 (l : Launch) (dC : Nat → ClassId) (dI : Nat → Nat → Nat) (jk : Nat) (jv : Nat) (jo : Nat) (jt : Nat) (sb : Nat) (sz : Nat)  : Met l yJ4_init_da8c8 wsJ4_init_da8c8 ({ frames := 4, cells := 1, slots := 16, locals := 120 }) (va_Pc [.ref sb] (fun U => pr_ dC dI [(sb, .inr (1, [.null, .int 0, .int 0, .int 0]))] [] sz U ∧ jd_ (va_A [(sb, .inr (1, [.null, .int 0, .int 0, .int 0]))] sz) jk jv jo jt U)) (va_Qv (fun (_ : Nat × ClassId) => True) (fun (u : Nat × ClassId) t => match u with | (b, cB) => po_ dC dI [(sb, .inr (1, [.ref b, .int 0, .int 0, .int 0])), (b, .inl (cB, 16, .inl zi))] [(cB, .byte)] (va_A [(sb, .inr (1, [.null, .int 0, .int 0, .int 0]))] sz) t) (va_A [(sb, .inr (1, [.null, .int 0, .int 0, .int 0]))] sz)) 1 16 (va_A [(sb, .inr (1, [.null, .int 0, .int 0, .int 0]))] sz) := by
  refine Met.ofW (cc := cJ4_init_da8c8) (maxL := 1) (ret := none) (by decide) rfl ?_
  intro p e s m args below meth c s₁ B hml hv
  obtain ⟨rfl, ⟨hsz, hP, hK, hD0⟩, hXs⟩ := hv
  have hx := B.exec
  have hb := B.bytes
  have hr := B.returns
  have hts := atoms_spec (ws := wsJ4_init_da8c8) B.pre
  have hown : s.vm.findClass RJ4 = some m.cls := findClass_of_methodNamed B.named
  have hlocks := B.notSynchronized
  have hin : meth.name = "<init>" := (name_of_methodNamed B.named B.method).1
  subst hsz
  have hD := hD0.self (sz := s.heap.size)
  generalize hAe : va_A [(sb, .inr (1, [.null, .int 0, .int 0, .int 0]))] s.heap.size = A at hD hXs ⊢
  have hA : ∀ q : Nat, s.heap.size ≤ q → A q := fun q h => by rw [← hAe]; exact Or.inr h
  have hS : va_S A s.heap s.heap [] := va_S.rf
  have hP : va_P (dC, dI) vwCl [(sb, .inr (1, [.null, .int 0, .int 0, .int 0]))] s.heap := hP
  have hK : va_K (dC, dI) vwCl [] s := hK
  have hl := lv_entry ([.ref sb]) (n := 1) (Nat.le_of_ble_eq_true rfl)
  rw [lg_entry_eq]
  generalize (lg_sl ([.ref sb]) ++ List.replicate (1 - (lg_sl ([.ref sb])).length) Slot.unset).toArray = ls at hl ⊢
  have hl : lv_has ls 1 [(0, .ref sb)] := hl
  refine lv_aload_n hx hb dJ4_init_da8c8_0 rfl (lv_at hl 0 rfl) ?_
  refine lv_bipush (v := 16) hx hb dJ4_init_da8c8_1 (by decide) ?_
  have hPc := hP.sub (ws' := [(sb, .inr (1, [.null, .int 0, .int 0, .int 0]))]) [0] rfl
  have hDc := hD.sub (ws' := [(sb, .inr (1, [.null, .int 0, .int 0, .int 0]))]) [0] (by decide) rfl
  have hKc := hK.sub (tys' := []) [] rfl
  have hFc := va_free (wc := [(sb, .inr (1, [.null, .int 0, .int 0, .int 0]))]) hD hS hA [0] rfl
  refine va_callv (va_runI (As := [.int 16]) (rest := []) ⟨hx, hb, hml, hown, hts⟩ (c_J5_init_d00df l dC dI jk jv jo jt sb _ ) (cwI 1 hts gJ4_init_da8c8_J5_init_d00df rfl rfl rfl (hts (.initialized RJ5) (by decide +kernel)) (hts (.methodLink RJ4 1 yJ5_init_d00df) (by decide +kernel)) (hts (.instanceMethod yJ5_init_d00df) (by decide +kernel)) rfl (by decide +kernel) ⟨Nat.le_of_ble_eq_true rfl, Nat.le_of_ble_eq_true rfl⟩) ⟨pe_blind jd_bl, fun U hU hW => ⟨rfl, pr_mk hU hW hPc hKc hDc, jd_mk hU hW hS hFc hXs⟩⟩ rfl rfl hl.1 rfl (lv_room (Nat.le_of_ble_eq_true rfl)) dJ4_init_da8c8_3 ⟨Nat.le_of_ble_eq_true rfl, Nat.le_of_ble_eq_true rfl⟩) hS (fun q _ h => hFc q h) hFc (fun u_1 t H1 locs ht hvm hw hB hz1 hk1 hS => ?_)
  obtain ⟨q_3, q_4⟩ := u_1
  obtain ⟨hP1, hK1, hD1⟩ := hB
  rw [ht] at hP1
  obtain ⟨hP, hD⟩ := va_join (wr := []) (w1 := [(sb, .inr (1, [.ref q_3, .int 0, .int 0, .int 0])), (q_3, .inl (q_4, 16, .inl zi))]) hP hD [0] [] rfl rfl (by decide) (by decide) hk1 hFc hP1 hD1
  have hK := hK.app (va_K.moved hvm.symm hK1)
  have hK : va_K (dC, dI) vwCl [(q_4, .byte)] s := hK
  generalize H1 = H at hP hS ⊢
  have hP : va_P (dC, dI) vwCl [(sb, .inr (1, [.ref q_3, .int 0, .int 0, .int 0])), (q_3, .inl (q_4, 16, .inl zi))] H := hP
  have hD : va_D A [(sb, .inr (1, [.ref q_3, .int 0, .int 0, .int 0])), (q_3, .inl (q_4, 16, .inl zi))] := hD
  refine W.widen (k := 1) (n := 16) (Nat.le_of_ble_eq_true rfl) (Nat.le_of_ble_eq_true rfl) ?_
  have hP9 := hP.sub (ws' := [(sb, .inr (1, [.ref q_3, .int 0, .int 0, .int 0])), (q_3, .inl (q_4, 16, .inl zi))]) [0, 1] rfl
  have hD9 := hD.sub (ws' := [(sb, .inr (1, [.ref q_3, .int 0, .int 0, .int 0])), (q_3, .inl (q_4, 16, .inl zi))]) [0, 1] (by decide) rfl
  have hK9 := hK.sub (tys' := [(q_4, .byte)]) [0] rfl
  refine W.widen (k := 1) (n := 16) (Nat.le_of_ble_eq_true rfl) (Nat.le_of_ble_eq_true rfl) ?_
  exact W.vret hx hb hr (fun t ht hW => ⟨⟨⟨q_3, q_4⟩, rfl, trivial, po_mk ht hW hP9 hK9 hD9⟩, hS.F ht⟩) hS.2.2 dJ4_init_da8c8_6

set_option maxHeartbeats 4000000 in
set_option maxRecDepth 100000 in
theorem c_J0_coder_l (l : Launch) (dC : Nat → ClassId) (dI : Nat → Nat → Nat) (jk : Nat) (jv : Nat) (jo : Nat) (jt : Nat) (sz : Nat)  : Met l yJ0_coder_7d493 wsJ0_coder_7d493 ({ frames := 2, cells := 0, slots := 0, locals := 40 }) (va_Pc [.ref jk] (fun U => pr_ dC dI [] [] sz U ∧ jd_ (va_A [] sz) jk jv jo jt U)) (va_Qi (fun (r : Int32) (_ : Unit) => r = 0) (fun (_ : Unit) t => po_ dC dI [] [] (va_A [] sz) t) (va_A [] sz)) 0 0 (va_A [] sz) := by
  refine Met.ofW (cc := cJ0_coder_7d493) (maxL := 1) (ret := (some .byte)) (by decide) rfl ?_
  intro p e s m args below meth c s₁ B hml hv
  obtain ⟨rfl, ⟨hsz, hP, hK, hD0⟩, hXs⟩ := hv
  have hx := B.exec
  have hb := B.bytes
  have hr := B.returns
  have hts := atoms_spec (ws := wsJ0_coder_7d493) B.pre
  have hown : s.vm.findClass RJ0 = some m.cls := findClass_of_methodNamed B.named
  have hlocks := B.notSynchronized
  subst hsz
  have hD := hD0.self (sz := s.heap.size)
  generalize hAe : va_A [] s.heap.size = A at hD hXs ⊢
  have hA : ∀ q : Nat, s.heap.size ≤ q → A q := fun q h => by rw [← hAe]; exact Or.inr h
  have hS : va_S A s.heap s.heap [] := va_S.rf
  have hP : va_P (dC, dI) vwCl [] s.heap := hP
  have hK : va_K (dC, dI) vwCl [] s := hK
  have hl := lv_entry ([.ref jk]) (n := 1) (Nat.le_of_ble_eq_true rfl)
  rw [lg_entry_eq]
  generalize (lg_sl ([.ref jk]) ++ List.replicate (1 - (lg_sl ([.ref jk])).length) Slot.unset).toArray = ls at hl ⊢
  have hl : lv_has ls 1 [(0, .ref jk)] := hl
  refine va_gets hx hb (jd_c hXs) hS hown (hts (.fieldLink RJ0 38 "java/lang/String" "COMPACT_STRINGS" "Z") (by decide +kernel)) (fun _ h9 => h9) dJ0_coder_7d493_0 ?_
  refine lv_if_eq (tgt := 13) hx hb dJ0_coder_7d493_3 (by decide) (fun h9 => absurd h9 (by decide)) (fun _ => ?_)
  refine lv_aload_n hx hb dJ0_coder_7d493_6 rfl (lv_at hl 0 rfl) ?_
  refine vk_getf hx hb (jd_lc hXs) hS hown (hts (.fieldLink RJ0 15 "java/lang/String" "coder" "B") (by decide +kernel)) (fun _ h9 => h9) dJ0_coder_7d493_7 ?_
  refine lv_goto (tgt := 14) hx hb dJ0_coder_7d493_10 (by decide) ?_
  have hP9 := hP.sub (ws' := []) [] rfl
  have hD9 := hD.sub (ws' := []) [] (by decide) rfl
  have hK9 := hK.sub (tys' := []) [] rfl
  refine W.widen (k := 0) (n := 0) (Nat.le_of_ble_eq_true rfl) (Nat.le_of_ble_eq_true rfl) ?_
  exact W.zret (v := 0) hx hb hr rfl (fun t ht hW => ⟨⟨0, (), rfl, rfl, po_mk ht hW hP9 hK9 hD9⟩, hS.F ht⟩) hS.2.2 dJ0_coder_7d493_14

set_option maxHeartbeats 4000000 in
set_option maxRecDepth 100000 in
theorem c_J0_coder_7d493 (l : Launch) (dC : Nat → ClassId) (dI : Nat → Nat → Nat) (jk : Nat) (jv : Nat) (jo : Nat) (jt : Nat) (st : Nat) (b2 : Nat) (sz : Nat)  : Met l yJ0_coder_7d493 wsJ0_coder_7d493 ({ frames := 2, cells := 0, slots := 0, locals := 40 }) (va_Pc [.ref st] (fun U => pr_ dC dI [(st, .inr (0, [.ref b2, .int 0, .int 0, .int 0]))] [] sz U ∧ jd_ (va_A [(st, .inr (0, [.ref b2, .int 0, .int 0, .int 0]))] sz) jk jv jo jt U)) (va_Qi (fun (r : Int32) (_ : Unit) => r = 0) (fun (_ : Unit) t => po_ dC dI [(st, .inr (0, [.ref b2, .int 0, .int 0, .int 0]))] [] (va_A [(st, .inr (0, [.ref b2, .int 0, .int 0, .int 0]))] sz) t) (va_A [(st, .inr (0, [.ref b2, .int 0, .int 0, .int 0]))] sz)) 0 0 (va_A [(st, .inr (0, [.ref b2, .int 0, .int 0, .int 0]))] sz) := by
  refine Met.ofW (cc := cJ0_coder_7d493) (maxL := 1) (ret := (some .byte)) (by decide) rfl ?_
  intro p e s m args below meth c s₁ B hml hv
  obtain ⟨rfl, ⟨hsz, hP, hK, hD0⟩, hXs⟩ := hv
  have hx := B.exec
  have hb := B.bytes
  have hr := B.returns
  have hts := atoms_spec (ws := wsJ0_coder_7d493) B.pre
  have hown : s.vm.findClass RJ0 = some m.cls := findClass_of_methodNamed B.named
  have hlocks := B.notSynchronized
  subst hsz
  have hD := hD0.self (sz := s.heap.size)
  generalize hAe : va_A [(st, .inr (0, [.ref b2, .int 0, .int 0, .int 0]))] s.heap.size = A at hD hXs ⊢
  have hA : ∀ q : Nat, s.heap.size ≤ q → A q := fun q h => by rw [← hAe]; exact Or.inr h
  have hS : va_S A s.heap s.heap [] := va_S.rf
  have hP : va_P (dC, dI) vwCl [(st, .inr (0, [.ref b2, .int 0, .int 0, .int 0]))] s.heap := hP
  have hK : va_K (dC, dI) vwCl [] s := hK
  have hl := lv_entry ([.ref st]) (n := 1) (Nat.le_of_ble_eq_true rfl)
  rw [lg_entry_eq]
  generalize (lg_sl ([.ref st]) ++ List.replicate (1 - (lg_sl ([.ref st])).length) Slot.unset).toArray = ls at hl ⊢
  have hl : lv_has ls 1 [(0, .ref st)] := hl
  refine va_gets hx hb (jd_c hXs) hS hown (hts (.fieldLink RJ0 38 "java/lang/String" "COMPACT_STRINGS" "Z") (by decide +kernel)) (fun _ h9 => h9) dJ0_coder_7d493_0 ?_
  refine lv_if_eq (tgt := 13) hx hb dJ0_coder_7d493_3 (by decide) (fun h9 => absurd h9 (by decide)) (fun _ => ?_)
  refine lv_aload_n hx hb dJ0_coder_7d493_6 rfl (lv_at hl 0 rfl) ?_
  have hinJ0 : ∀ w ∈ u_ws RJ0 TJ0 4, w ∈ wsJ0_coder_7d493 := by decide +kernel
  refine va_get (D := (dC, dI)) (ci := 0) (v := .int 0) (C := RJ0) (T := TJ0) (N := 4) hx hb hts hinJ0 hown hK hP 0 rfl rfl 1 (by decide) (hts (.fieldLink RJ0 15 "java/lang/String" "coder" "B") (by decide +kernel)) (fun _ h9 => h9) rfl dJ0_coder_7d493_7 ?_
  refine lv_goto (tgt := 14) hx hb dJ0_coder_7d493_10 (by decide) ?_
  have hP9 := hP.sub (ws' := [(st, .inr (0, [.ref b2, .int 0, .int 0, .int 0]))]) [0] rfl
  have hD9 := hD.sub (ws' := [(st, .inr (0, [.ref b2, .int 0, .int 0, .int 0]))]) [0] (by decide) rfl
  have hK9 := hK.sub (tys' := []) [] rfl
  refine W.widen (k := 0) (n := 0) (Nat.le_of_ble_eq_true rfl) (Nat.le_of_ble_eq_true rfl) ?_
  exact W.zret (v := 0) hx hb hr rfl (fun t ht hW => ⟨⟨0, (), rfl, rfl, po_mk ht hW hP9 hK9 hD9⟩, hS.F ht⟩) hS.2.2 dJ0_coder_7d493_14

set_option maxHeartbeats 4000000 in
set_option maxRecDepth 100000 in
theorem c_J0_length_l (l : Launch) (dC : Nat → ClassId) (dI : Nat → Nat → Nat) (jk : Nat) (jv : Nat) (jo : Nat) (jt : Nat) (sz : Nat)  : Met l yJ0_length_8abf5 wsJ0_length_8abf5 ({ frames := 3, cells := 0, slots := 0, locals := 70 }) (va_Pc [.ref jk] (fun U => pr_ dC dI [] [] sz U ∧ jd_ (va_A [] sz) jk jv jo jt U)) (va_Qi (fun (r : Int32) (_ : Unit) => r = 0) (fun (_ : Unit) t => po_ dC dI [] [] (va_A [] sz) t) (va_A [] sz)) 0 0 (va_A [] sz) := by
  refine Met.ofW (cc := cJ0_length_8abf5) (maxL := 1) (ret := (some .int)) (by decide) rfl ?_
  intro p e s m args below meth c s₁ B hml hv
  obtain ⟨rfl, ⟨hsz, hP, hK, hD0⟩, hXs⟩ := hv
  have hx := B.exec
  have hb := B.bytes
  have hr := B.returns
  have hts := atoms_spec (ws := wsJ0_length_8abf5) B.pre
  have hown : s.vm.findClass RJ0 = some m.cls := findClass_of_methodNamed B.named
  have hlocks := B.notSynchronized
  subst hsz
  have hD := hD0.self (sz := s.heap.size)
  generalize hAe : va_A [] s.heap.size = A at hD hXs ⊢
  have hA : ∀ q : Nat, s.heap.size ≤ q → A q := fun q h => by rw [← hAe]; exact Or.inr h
  have hS : va_S A s.heap s.heap [] := va_S.rf
  have hP : va_P (dC, dI) vwCl [] s.heap := hP
  have hK : va_K (dC, dI) vwCl [] s := hK
  have hl := lv_entry ([.ref jk]) (n := 1) (Nat.le_of_ble_eq_true rfl)
  rw [lg_entry_eq]
  generalize (lg_sl ([.ref jk]) ++ List.replicate (1 - (lg_sl ([.ref jk])).length) Slot.unset).toArray = ls at hl ⊢
  have hl : lv_has ls 1 [(0, .ref jk)] := hl
  refine lv_aload_n hx hb dJ0_length_8abf5_0 rfl (lv_at hl 0 rfl) ?_
  refine vk_getf hx hb (jd_lv hXs) hS hown (hts (.fieldLink RJ0 9 "java/lang/String" "value" "[B") (by decide +kernel)) (fun _ h9 => h9) dJ0_length_8abf5_1 ?_
  refine va_tlen (v := 0) hx hb (jd_la hXs) hS (by decide) dJ0_length_8abf5_4 ?_
  refine lv_aload_n hx hb dJ0_length_8abf5_5 rfl (lv_at hl 0 rfl) ?_
  have hPc := hP.sub (ws' := []) [] rfl
  have hDc := hD.sub (ws' := []) [] (by decide) rfl
  have hKc := hK.sub (tys' := []) [] rfl
  have hFc := va_free (wc := []) hD hS hA [] rfl
  refine va_calli (va_runV (As := []) (rest := [.int 0]) ⟨hx, hb, hml, hown, hts⟩ (c_J0_coder_l l dC dI jk jv jo jt _ ) (cwV 0 hts gJ0_length_8abf5_J0_coder_7d493 rfl rfl rfl (by decide +kernel) ⟨Nat.le_of_ble_eq_true rfl, Nat.le_of_ble_eq_true rfl⟩) ⟨pe_blind jd_bl, vk_recv (jd_s hXs) Nat.zero_lt_one hS, fun U hU hW => ⟨rfl, pr_mk hU hW hPc hKc hDc, jd_mk hU hW hS hFc hXs⟩⟩ rfl rfl hl.1 rfl (lv_room (Nat.le_of_ble_eq_true rfl)) dJ0_length_8abf5_6 ⟨Nat.le_of_ble_eq_true rfl, Nat.le_of_ble_eq_true rfl⟩) hS (fun q _ h => hFc q h) hFc (fun r_2 u_1 t H1 locs ht hvm hw hB hz1 hk1 hS => ?_)
  obtain ⟨hP1, hK1, hD1⟩ := hB
  rw [ht] at hP1
  obtain ⟨hP, hD⟩ := va_join (wr := []) (w1 := []) hP hD [] [] rfl rfl (by decide) (by decide) hk1 hFc hP1 hD1
  generalize H1 = H at hP hS ⊢
  have hP : va_P (dC, dI) vwCl [] H := hP
  have hD : va_D A [] := hD
  refine W.widen (k := 0) (n := 0) (Nat.le_refl _) (Nat.le_refl _) ?_
  have hw : 0 = r_2 := Eq.symm hw
  subst hw
  refine lv_ishr hx hb dJ0_length_8abf5_9 ?_
  refine lv_topi (fun y_3 ey_3 => ?_)
  obtain rfl : y_3 = 0 := ey_3.trans (by decide)
  have hP9 := hP.sub (ws' := []) [] rfl
  have hD9 := hD.sub (ws' := []) [] (by decide) rfl
  have hK9 := hK.sub (tys' := []) [] rfl
  refine W.widen (k := 0) (n := 0) (Nat.le_of_ble_eq_true rfl) (Nat.le_of_ble_eq_true rfl) ?_
  exact W.iret (v := 0) hx hb hr (fun t ht hW => ⟨⟨0, (), rfl, rfl, po_mk ht hW hP9 hK9 hD9⟩, hS.F ht⟩) hS.2.2 dJ0_length_8abf5_10

set_option maxHeartbeats 4000000 in
set_option maxRecDepth 100000 in
theorem c_J0_length_8abf5 (l : Launch) (dC : Nat → ClassId) (dI : Nat → Nat → Nat) (jk : Nat) (jv : Nat) (jo : Nat) (jt : Nat) (cB : ClassId) (f : Nat → Int32) (st : Nat) (b2 : Nat) (n : Nat) (sz : Nat)  : Met l yJ0_length_8abf5 wsJ0_length_8abf5 ({ frames := 3, cells := 0, slots := 0, locals := 70 }) (va_Pc [.ref st] (fun U => pr_ dC dI [(st, .inr (0, [.ref b2, .int 0, .int 0, .int 0])), (b2, .inl (cB, n, .inl f))] [(cB, .byte)] sz U ∧ jd_ (va_A [(st, .inr (0, [.ref b2, .int 0, .int 0, .int 0])), (b2, .inl (cB, n, .inl f))] sz) jk jv jo jt U)) (va_Qi (fun (r : Int32) (_ : Unit) => r = nI n) (fun (_ : Unit) t => po_ dC dI [(st, .inr (0, [.ref b2, .int 0, .int 0, .int 0])), (b2, .inl (cB, n, .inl f))] [(cB, .byte)] (va_A [(st, .inr (0, [.ref b2, .int 0, .int 0, .int 0])), (b2, .inl (cB, n, .inl f))] sz) t) (va_A [(st, .inr (0, [.ref b2, .int 0, .int 0, .int 0])), (b2, .inl (cB, n, .inl f))] sz)) 0 0 (va_A [(st, .inr (0, [.ref b2, .int 0, .int 0, .int 0])), (b2, .inl (cB, n, .inl f))] sz) := by
  refine Met.ofW (cc := cJ0_length_8abf5) (maxL := 1) (ret := (some .int)) (by decide) rfl ?_
  intro p e s m args below meth c s₁ B hml hv
  obtain ⟨rfl, ⟨hsz, hP, hK, hD0⟩, hXs⟩ := hv
  have hx := B.exec
  have hb := B.bytes
  have hr := B.returns
  have hts := atoms_spec (ws := wsJ0_length_8abf5) B.pre
  have hown : s.vm.findClass RJ0 = some m.cls := findClass_of_methodNamed B.named
  have hlocks := B.notSynchronized
  subst hsz
  have hD := hD0.self (sz := s.heap.size)
  generalize hAe : va_A [(st, .inr (0, [.ref b2, .int 0, .int 0, .int 0])), (b2, .inl (cB, n, .inl f))] s.heap.size = A at hD hXs ⊢
  have hA : ∀ q : Nat, s.heap.size ≤ q → A q := fun q h => by rw [← hAe]; exact Or.inr h
  have hS : va_S A s.heap s.heap [] := va_S.rf
  have hP : va_P (dC, dI) vwCl [(st, .inr (0, [.ref b2, .int 0, .int 0, .int 0])), (b2, .inl (cB, n, .inl f))] s.heap := hP
  have hK : va_K (dC, dI) vwCl [(cB, .byte)] s := hK
  have hl := lv_entry ([.ref st]) (n := 1) (Nat.le_of_ble_eq_true rfl)
  rw [lg_entry_eq]
  generalize (lg_sl ([.ref st]) ++ List.replicate (1 - (lg_sl ([.ref st])).length) Slot.unset).toArray = ls at hl ⊢
  have hl : lv_has ls 1 [(0, .ref st)] := hl
  refine lv_aload_n hx hb dJ0_length_8abf5_0 rfl (lv_at hl 0 rfl) ?_
  have hinJ0 : ∀ w ∈ u_ws RJ0 TJ0 4, w ∈ wsJ0_length_8abf5 := by decide +kernel
  refine va_get (D := (dC, dI)) (ci := 0) (v := .ref b2) (C := RJ0) (T := TJ0) (N := 4) hx hb hts hinJ0 hown hK hP 0 rfl rfl 0 (by decide) (hts (.fieldLink RJ0 9 "java/lang/String" "value" "[B") (by decide +kernel)) (fun _ h9 => h9) rfl dJ0_length_8abf5_1 ?_
  refine va_alen (v := nI n) hx hb hK hP 1 0 rfl rfl rfl dJ0_length_8abf5_4 ?_
  refine lv_aload_n hx hb dJ0_length_8abf5_5 rfl (lv_at hl 0 rfl) ?_
  have hPc := hP.sub (ws' := [(st, .inr (0, [.ref b2, .int 0, .int 0, .int 0]))]) [0] rfl
  have hDc := hD.sub (ws' := [(st, .inr (0, [.ref b2, .int 0, .int 0, .int 0]))]) [0] (by decide) rfl
  have hKc := hK.sub (tys' := []) [] rfl
  have hFc := va_free (wc := [(st, .inr (0, [.ref b2, .int 0, .int 0, .int 0]))]) hD hS hA [0] rfl
  refine va_calli (va_runV (As := []) (rest := [.int (nI n)]) ⟨hx, hb, hml, hown, hts⟩ (c_J0_coder_7d493 l dC dI jk jv jo jt st b2 _ ) (cwV 0 hts gJ0_length_8abf5_J0_coder_7d493 rfl rfl rfl (by decide +kernel) ⟨Nat.le_of_ble_eq_true rfl, Nat.le_of_ble_eq_true rfl⟩) ⟨pe_blind jd_bl, va_recv hKc hPc (ci := 0) (q0 := 0) rfl rfl, fun U hU hW => ⟨rfl, pr_mk hU hW hPc hKc hDc, jd_mk hU hW hS hFc hXs⟩⟩ rfl rfl hl.1 rfl (lv_room (Nat.le_of_ble_eq_true rfl)) dJ0_length_8abf5_6 ⟨Nat.le_of_ble_eq_true rfl, Nat.le_of_ble_eq_true rfl⟩) hS (fun q _ h => hFc q h) hFc (fun r_2 u_1 t H1 locs ht hvm hw hB hz1 hk1 hS => ?_)
  obtain ⟨hP1, hK1, hD1⟩ := hB
  rw [ht] at hP1
  obtain ⟨hP, hD⟩ := va_join (wr := [(b2, .inl (cB, n, .inl f))]) (w1 := [(st, .inr (0, [.ref b2, .int 0, .int 0, .int 0]))]) hP hD [0] [1] rfl rfl (by decide) (by decide) hk1 hFc hP1 hD1
  generalize H1 = H at hP hS ⊢
  have hP : va_P (dC, dI) vwCl [(b2, .inl (cB, n, .inl f)), (st, .inr (0, [.ref b2, .int 0, .int 0, .int 0]))] H := hP
  have hD : va_D A [(b2, .inl (cB, n, .inl f)), (st, .inr (0, [.ref b2, .int 0, .int 0, .int 0]))] := hD
  refine W.widen (k := 0) (n := 0) (Nat.le_refl _) (Nat.le_refl _) ?_
  have hw : 0 = r_2 := Eq.symm hw
  subst hw
  refine lv_ishr hx hb dJ0_length_8abf5_9 ?_
  refine lv_topi (fun y_3 ey_3 => ?_)
  obtain rfl : y_3 = nI n := ey_3.trans (sb_shr0 _)
  have hP9 := hP.sub (ws' := [(st, .inr (0, [.ref b2, .int 0, .int 0, .int 0])), (b2, .inl (cB, n, .inl f))]) [1, 0] rfl
  have hD9 := hD.sub (ws' := [(st, .inr (0, [.ref b2, .int 0, .int 0, .int 0])), (b2, .inl (cB, n, .inl f))]) [1, 0] (by decide) rfl
  have hK9 := hK.sub (tys' := [(cB, .byte)]) [0] rfl
  refine W.widen (k := 0) (n := 0) (Nat.le_of_ble_eq_true rfl) (Nat.le_of_ble_eq_true rfl) ?_
  exact W.iret (v := nI n) hx hb hr (fun t ht hW => ⟨⟨nI n, (), rfl, rfl, po_mk ht hW hP9 hK9 hD9⟩, hS.F ht⟩) hS.2.2 dJ0_length_8abf5_10

set_option maxHeartbeats 4000000 in
set_option maxRecDepth 100000 in
theorem c_J5_isLatin1_aae02 (l : Launch) (dC : Nat → ClassId) (dI : Nat → Nat → Nat) (jk : Nat) (jv : Nat) (jo : Nat) (jt : Nat) (sb : Nat) (b : Nat) (cn : Int32) (sz : Nat)  : Met l yJ5_isLatin1_aae02 wsJ5_isLatin1_aae02 ({ frames := 2, cells := 0, slots := 0, locals := 40 }) (va_Pc [.ref sb] (fun U => pr_ dC dI [(sb, .inr (1, [.ref b, .int 0, .int 0, .int cn]))] [] sz U ∧ jd_ (va_A [(sb, .inr (1, [.ref b, .int 0, .int 0, .int cn]))] sz) jk jv jo jt U)) (va_Qi (fun (r : Int32) (_ : Unit) => r = 1) (fun (_ : Unit) t => po_ dC dI [(sb, .inr (1, [.ref b, .int 0, .int 0, .int cn]))] [] (va_A [(sb, .inr (1, [.ref b, .int 0, .int 0, .int cn]))] sz) t) (va_A [(sb, .inr (1, [.ref b, .int 0, .int 0, .int cn]))] sz)) 0 0 (va_A [(sb, .inr (1, [.ref b, .int 0, .int 0, .int cn]))] sz) := by
  refine Met.ofW (cc := cJ5_isLatin1_aae02) (maxL := 1) (ret := (some .boolean)) (by decide) rfl ?_
  intro p e s m args below meth c s₁ B hml hv
  obtain ⟨rfl, ⟨hsz, hP, hK, hD0⟩, hXs⟩ := hv
  have hx := B.exec
  have hb := B.bytes
  have hr := B.returns
  have hts := atoms_spec (ws := wsJ5_isLatin1_aae02) B.pre
  have hown : s.vm.findClass RJ5 = some m.cls := findClass_of_methodNamed B.named
  have hlocks := B.notSynchronized
  subst hsz
  have hD := hD0.self (sz := s.heap.size)
  generalize hAe : va_A [(sb, .inr (1, [.ref b, .int 0, .int 0, .int cn]))] s.heap.size = A at hD hXs ⊢
  have hA : ∀ q : Nat, s.heap.size ≤ q → A q := fun q h => by rw [← hAe]; exact Or.inr h
  have hS : va_S A s.heap s.heap [] := va_S.rf
  have hP : va_P (dC, dI) vwCl [(sb, .inr (1, [.ref b, .int 0, .int 0, .int cn]))] s.heap := hP
  have hK : va_K (dC, dI) vwCl [] s := hK
  have hl := lv_entry ([.ref sb]) (n := 1) (Nat.le_of_ble_eq_true rfl)
  rw [lg_entry_eq]
  generalize (lg_sl ([.ref sb]) ++ List.replicate (1 - (lg_sl ([.ref sb])).length) Slot.unset).toArray = ls at hl ⊢
  have hl : lv_has ls 1 [(0, .ref sb)] := hl
  refine va_gets hx hb (jd_c hXs) hS hown (hts (.fieldLink RJ5 18 "java/lang/String" "COMPACT_STRINGS" "Z") (by decide +kernel)) (fun _ h9 => h9) dJ5_isLatin1_aae02_0 ?_
  refine lv_if_eq (tgt := 17) hx hb dJ5_isLatin1_aae02_3 (by decide) (fun h9 => absurd h9 (by decide)) (fun _ => ?_)
  refine lv_aload_n hx hb dJ5_isLatin1_aae02_6 rfl (lv_at hl 0 rfl) ?_
  have hinJ4 : ∀ w ∈ u_ws RJ4 TJ4 4, w ∈ wsJ5_isLatin1_aae02 := by decide +kernel
  refine va_get (D := (dC, dI)) (ci := 1) (v := .int 0) (C := RJ4) (T := TJ4) (N := 4) hx hb hts hinJ4 hown hK hP 0 rfl rfl 1 (by decide) (hts (.fieldLink RJ5 22 "java/lang/AbstractStringBuilder" "coder" "B") (by decide +kernel)) (fun _ h9 => h9) rfl dJ5_isLatin1_aae02_7 ?_
  refine lv_if_ne (tgt := 17) hx hb dJ5_isLatin1_aae02_10 (by decide) (fun h9 => absurd h9 (by decide)) (fun _ => ?_)
  refine lv_iconst (v := 1) hx hb dJ5_isLatin1_aae02_13 (by decide) ?_
  refine lv_goto (tgt := 18) hx hb dJ5_isLatin1_aae02_14 (by decide) ?_
  have hP9 := hP.sub (ws' := [(sb, .inr (1, [.ref b, .int 0, .int 0, .int cn]))]) [0] rfl
  have hD9 := hD.sub (ws' := [(sb, .inr (1, [.ref b, .int 0, .int 0, .int cn]))]) [0] (by decide) rfl
  have hK9 := hK.sub (tys' := []) [] rfl
  refine W.widen (k := 0) (n := 0) (Nat.le_of_ble_eq_true rfl) (Nat.le_of_ble_eq_true rfl) ?_
  exact W.zret (v := 1) hx hb hr rfl (fun t ht hW => ⟨⟨1, (), rfl, rfl, po_mk ht hW hP9 hK9 hD9⟩, hS.F ht⟩) hS.2.2 dJ5_isLatin1_aae02_18

set_option maxHeartbeats 4000000 in
set_option maxRecDepth 100000 in
theorem c_J0_isLatin1_aae02 (l : Launch) (dC : Nat → ClassId) (dI : Nat → Nat → Nat) (jk : Nat) (jv : Nat) (jo : Nat) (jt : Nat) (st : Nat) (b2 : Nat) (sz : Nat)  : Met l yJ0_isLatin1_aae02 wsJ0_isLatin1_aae02 ({ frames := 2, cells := 0, slots := 0, locals := 40 }) (va_Pc [.ref st] (fun U => pr_ dC dI [(st, .inr (0, [.ref b2, .int 0, .int 0, .int 0]))] [] sz U ∧ jd_ (va_A [(st, .inr (0, [.ref b2, .int 0, .int 0, .int 0]))] sz) jk jv jo jt U)) (va_Qi (fun (r : Int32) (_ : Unit) => r = 1) (fun (_ : Unit) t => po_ dC dI [(st, .inr (0, [.ref b2, .int 0, .int 0, .int 0]))] [] (va_A [(st, .inr (0, [.ref b2, .int 0, .int 0, .int 0]))] sz) t) (va_A [(st, .inr (0, [.ref b2, .int 0, .int 0, .int 0]))] sz)) 0 0 (va_A [(st, .inr (0, [.ref b2, .int 0, .int 0, .int 0]))] sz) := by
  refine Met.ofW (cc := cJ0_isLatin1_aae02) (maxL := 1) (ret := (some .boolean)) (by decide) rfl ?_
  intro p e s m args below meth c s₁ B hml hv
  obtain ⟨rfl, ⟨hsz, hP, hK, hD0⟩, hXs⟩ := hv
  have hx := B.exec
  have hb := B.bytes
  have hr := B.returns
  have hts := atoms_spec (ws := wsJ0_isLatin1_aae02) B.pre
  have hown : s.vm.findClass RJ0 = some m.cls := findClass_of_methodNamed B.named
  have hlocks := B.notSynchronized
  subst hsz
  have hD := hD0.self (sz := s.heap.size)
  generalize hAe : va_A [(st, .inr (0, [.ref b2, .int 0, .int 0, .int 0]))] s.heap.size = A at hD hXs ⊢
  have hA : ∀ q : Nat, s.heap.size ≤ q → A q := fun q h => by rw [← hAe]; exact Or.inr h
  have hS : va_S A s.heap s.heap [] := va_S.rf
  have hP : va_P (dC, dI) vwCl [(st, .inr (0, [.ref b2, .int 0, .int 0, .int 0]))] s.heap := hP
  have hK : va_K (dC, dI) vwCl [] s := hK
  have hl := lv_entry ([.ref st]) (n := 1) (Nat.le_of_ble_eq_true rfl)
  rw [lg_entry_eq]
  generalize (lg_sl ([.ref st]) ++ List.replicate (1 - (lg_sl ([.ref st])).length) Slot.unset).toArray = ls at hl ⊢
  have hl : lv_has ls 1 [(0, .ref st)] := hl
  refine va_gets hx hb (jd_c hXs) hS hown (hts (.fieldLink RJ0 38 "java/lang/String" "COMPACT_STRINGS" "Z") (by decide +kernel)) (fun _ h9 => h9) dJ0_isLatin1_aae02_0 ?_
  refine lv_if_eq (tgt := 17) hx hb dJ0_isLatin1_aae02_3 (by decide) (fun h9 => absurd h9 (by decide)) (fun _ => ?_)
  refine lv_aload_n hx hb dJ0_isLatin1_aae02_6 rfl (lv_at hl 0 rfl) ?_
  have hinJ0 : ∀ w ∈ u_ws RJ0 TJ0 4, w ∈ wsJ0_isLatin1_aae02 := by decide +kernel
  refine va_get (D := (dC, dI)) (ci := 0) (v := .int 0) (C := RJ0) (T := TJ0) (N := 4) hx hb hts hinJ0 hown hK hP 0 rfl rfl 1 (by decide) (hts (.fieldLink RJ0 15 "java/lang/String" "coder" "B") (by decide +kernel)) (fun _ h9 => h9) rfl dJ0_isLatin1_aae02_7 ?_
  refine lv_if_ne (tgt := 17) hx hb dJ0_isLatin1_aae02_10 (by decide) (fun h9 => absurd h9 (by decide)) (fun _ => ?_)
  refine lv_iconst (v := 1) hx hb dJ0_isLatin1_aae02_13 (by decide) ?_
  refine lv_goto (tgt := 18) hx hb dJ0_isLatin1_aae02_14 (by decide) ?_
  have hP9 := hP.sub (ws' := [(st, .inr (0, [.ref b2, .int 0, .int 0, .int 0]))]) [0] rfl
  have hD9 := hD.sub (ws' := [(st, .inr (0, [.ref b2, .int 0, .int 0, .int 0]))]) [0] (by decide) rfl
  have hK9 := hK.sub (tys' := []) [] rfl
  refine W.widen (k := 0) (n := 0) (Nat.le_of_ble_eq_true rfl) (Nat.le_of_ble_eq_true rfl) ?_
  exact W.zret (v := 1) hx hb hr rfl (fun t ht hW => ⟨⟨1, (), rfl, rfl, po_mk ht hW hP9 hK9 hD9⟩, hS.F ht⟩) hS.2.2 dJ0_isLatin1_aae02_18

set_option maxHeartbeats 4000000 in
set_option maxRecDepth 100000 in
theorem c_J5_ensureCapacityInternal_d00df (l : Launch) (dC : Nat → ClassId) (dI : Nat → Nat → Nat) (jk : Nat) (jv : Nat) (jo : Nat) (jt : Nat) (sb : Nat) (b : Nat) (cB : ClassId) (cn : Int32) (f : Nat → Int32) (kq : Int32) (sz : Nat) (hk : kq - 16 ≤ 0) : Met l yJ5_ensureCapacityInternal_d00df wsJ5_ensureCapacityInternal_d00df ({ frames := 2, cells := 0, slots := 0, locals := 40 }) (va_Pc [.ref sb, .int kq] (fun U => pr_ dC dI [(sb, .inr (1, [.ref b, .int 0, .int 0, .int cn])), (b, .inl (cB, 16, .inl f))] [(cB, .byte)] sz U ∧ jd_ (va_A [(sb, .inr (1, [.ref b, .int 0, .int 0, .int cn])), (b, .inl (cB, 16, .inl f))] sz) jk jv jo jt U)) (va_Qv (fun (_ : Unit) => True) (fun (_ : Unit) t => po_ dC dI [(sb, .inr (1, [.ref b, .int 0, .int 0, .int cn])), (b, .inl (cB, 16, .inl f))] [(cB, .byte)] (va_A [(sb, .inr (1, [.ref b, .int 0, .int 0, .int cn])), (b, .inl (cB, 16, .inl f))] sz) t) (va_A [(sb, .inr (1, [.ref b, .int 0, .int 0, .int cn])), (b, .inl (cB, 16, .inl f))] sz)) 0 0 (va_A [(sb, .inr (1, [.ref b, .int 0, .int 0, .int cn])), (b, .inl (cB, 16, .inl f))] sz) := by
  refine Met.ofW (cc := cJ5_ensureCapacityInternal_d00df) (maxL := 3) (ret := none) (by decide) rfl ?_
  intro p e s m args below meth c s₁ B hml hv
  obtain ⟨rfl, ⟨hsz, hP, hK, hD0⟩, hXs⟩ := hv
  have hx := B.exec
  have hb := B.bytes
  have hr := B.returns
  have hts := atoms_spec (ws := wsJ5_ensureCapacityInternal_d00df) B.pre
  have hown : s.vm.findClass RJ5 = some m.cls := findClass_of_methodNamed B.named
  have hlocks := B.notSynchronized
  subst hsz
  have hD := hD0.self (sz := s.heap.size)
  generalize hAe : va_A [(sb, .inr (1, [.ref b, .int 0, .int 0, .int cn])), (b, .inl (cB, 16, .inl f))] s.heap.size = A at hD hXs ⊢
  have hA : ∀ q : Nat, s.heap.size ≤ q → A q := fun q h => by rw [← hAe]; exact Or.inr h
  have hS : va_S A s.heap s.heap [] := va_S.rf
  have hP : va_P (dC, dI) vwCl [(sb, .inr (1, [.ref b, .int 0, .int 0, .int cn])), (b, .inl (cB, 16, .inl f))] s.heap := hP
  have hK : va_K (dC, dI) vwCl [(cB, .byte)] s := hK
  have hl := lv_entry ([.ref sb, .int kq]) (n := 3) (Nat.le_of_ble_eq_true rfl)
  rw [lg_entry_eq]
  generalize (lg_sl ([.ref sb, .int kq]) ++ List.replicate (3 - (lg_sl ([.ref sb, .int kq])).length) Slot.unset).toArray = ls at hl ⊢
  have hl : lv_has ls 3 [(0, .ref sb), (1, .int kq)] := hl
  refine lv_aload_n hx hb dJ5_ensureCapacityInternal_d00df_0 rfl (lv_at hl 0 rfl) ?_
  have hinJ4 : ∀ w ∈ u_ws RJ4 TJ4 4, w ∈ wsJ5_ensureCapacityInternal_d00df := by decide +kernel
  refine va_get (D := (dC, dI)) (ci := 1) (v := .ref b) (C := RJ4) (T := TJ4) (N := 4) hx hb hts hinJ4 hown hK hP 0 rfl rfl 0 (by decide) (hts (.fieldLink RJ5 15 "java/lang/AbstractStringBuilder" "value" "[B") (by decide +kernel)) (fun _ h9 => h9) rfl dJ5_ensureCapacityInternal_d00df_1 ?_
  refine va_alen (v := 16) hx hb hK hP 1 0 rfl rfl rfl dJ5_ensureCapacityInternal_d00df_4 ?_
  refine lv_aload_n hx hb dJ5_ensureCapacityInternal_d00df_5 rfl (lv_at hl 0 rfl) ?_
  refine va_get (D := (dC, dI)) (ci := 1) (v := .int 0) (C := RJ4) (T := TJ4) (N := 4) hx hb hts hinJ4 hown hK hP 0 rfl rfl 1 (by decide) (hts (.fieldLink RJ5 22 "java/lang/AbstractStringBuilder" "coder" "B") (by decide +kernel)) (fun _ h9 => h9) rfl dJ5_ensureCapacityInternal_d00df_6 ?_
  refine lv_ishr hx hb dJ5_ensureCapacityInternal_d00df_9 ?_
  refine lv_topi (fun y_1 ey_1 => ?_)
  obtain rfl : y_1 = 16 := ey_1.trans (by decide)
  refine lv_istore_n (lv' := [(2, .int 16), (0, .ref sb), (1, .int kq)]) hx hb dJ5_ensureCapacityInternal_d00df_10 rfl hl (by decide) rfl (fun ls hl => ?_)
  refine lv_iload_n hx hb dJ5_ensureCapacityInternal_d00df_11 rfl (lv_at hl 2 rfl) ?_
  refine lv_iload_n hx hb dJ5_ensureCapacityInternal_d00df_12 rfl (lv_at hl 0 rfl) ?_
  refine lv_isub hx hb dJ5_ensureCapacityInternal_d00df_13 ?_
  refine lv_topi (fun y_2 ey_2 => ?_)
  refine lv_if_le (tgt := 38) hx hb dJ5_ensureCapacityInternal_d00df_14 (by decide) (fun _ => ?_) (fun h9 => (h9 (by rw [ey_2]; exact hk)).elim)
  have hP9 := hP.sub (ws' := [(sb, .inr (1, [.ref b, .int 0, .int 0, .int cn])), (b, .inl (cB, 16, .inl f))]) [0, 1] rfl
  have hD9 := hD.sub (ws' := [(sb, .inr (1, [.ref b, .int 0, .int 0, .int cn])), (b, .inl (cB, 16, .inl f))]) [0, 1] (by decide) rfl
  have hK9 := hK.sub (tys' := [(cB, .byte)]) [0] rfl
  refine W.widen (k := 0) (n := 0) (Nat.le_of_ble_eq_true rfl) (Nat.le_of_ble_eq_true rfl) ?_
  exact W.vret hx hb hr (fun t ht hW => ⟨⟨(), rfl, trivial, po_mk ht hW hP9 hK9 hD9⟩, hS.F ht⟩) hS.2.2 dJ5_ensureCapacityInternal_d00df_38

set_option maxHeartbeats 4000000 in
set_option maxRecDepth 100000 in
theorem c_J5_inflateIfNeededFor_a7421 (l : Launch) (dC : Nat → ClassId) (dI : Nat → Nat → Nat) (jk : Nat) (jv : Nat) (jo : Nat) (jt : Nat) (sb : Nat) (b : Nat) (cn : Int32) (sz : Nat)  : Met l yJ5_inflateIfNeededFor_a7421 wsJ5_inflateIfNeededFor_a7421 ({ frames := 3, cells := 0, slots := 0, locals := 70 }) (va_Pc [.ref sb, .ref jk] (fun U => pr_ dC dI [(sb, .inr (1, [.ref b, .int 0, .int 0, .int cn]))] [] sz U ∧ jd_ (va_A [(sb, .inr (1, [.ref b, .int 0, .int 0, .int cn]))] sz) jk jv jo jt U)) (va_Qv (fun (_ : Unit) => True) (fun (_ : Unit) t => po_ dC dI [(sb, .inr (1, [.ref b, .int 0, .int 0, .int cn]))] [] (va_A [(sb, .inr (1, [.ref b, .int 0, .int 0, .int cn]))] sz) t) (va_A [(sb, .inr (1, [.ref b, .int 0, .int 0, .int cn]))] sz)) 0 0 (va_A [(sb, .inr (1, [.ref b, .int 0, .int 0, .int cn]))] sz) := by
  refine Met.ofW (cc := cJ5_inflateIfNeededFor_a7421) (maxL := 2) (ret := none) (by decide) rfl ?_
  intro p e s m args below meth c s₁ B hml hv
  obtain ⟨rfl, ⟨hsz, hP, hK, hD0⟩, hXs⟩ := hv
  have hx := B.exec
  have hb := B.bytes
  have hr := B.returns
  have hts := atoms_spec (ws := wsJ5_inflateIfNeededFor_a7421) B.pre
  have hown : s.vm.findClass RJ5 = some m.cls := findClass_of_methodNamed B.named
  have hlocks := B.notSynchronized
  subst hsz
  have hD := hD0.self (sz := s.heap.size)
  generalize hAe : va_A [(sb, .inr (1, [.ref b, .int 0, .int 0, .int cn]))] s.heap.size = A at hD hXs ⊢
  have hA : ∀ q : Nat, s.heap.size ≤ q → A q := fun q h => by rw [← hAe]; exact Or.inr h
  have hS : va_S A s.heap s.heap [] := va_S.rf
  have hP : va_P (dC, dI) vwCl [(sb, .inr (1, [.ref b, .int 0, .int 0, .int cn]))] s.heap := hP
  have hK : va_K (dC, dI) vwCl [] s := hK
  have hl := lv_entry ([.ref sb, .ref jk]) (n := 2) (Nat.le_of_ble_eq_true rfl)
  rw [lg_entry_eq]
  generalize (lg_sl ([.ref sb, .ref jk]) ++ List.replicate (2 - (lg_sl ([.ref sb, .ref jk])).length) Slot.unset).toArray = ls at hl ⊢
  have hl : lv_has ls 2 [(0, .ref sb), (1, .ref jk)] := hl
  refine va_gets hx hb (jd_c hXs) hS hown (hts (.fieldLink RJ5 18 "java/lang/String" "COMPACT_STRINGS" "Z") (by decide +kernel)) (fun _ h9 => h9) dJ5_inflateIfNeededFor_a7421_0 ?_
  refine lv_if_eq (tgt := 21) hx hb dJ5_inflateIfNeededFor_a7421_3 (by decide) (fun h9 => absurd h9 (by decide)) (fun _ => ?_)
  refine lv_aload_n hx hb dJ5_inflateIfNeededFor_a7421_6 rfl (lv_at hl 0 rfl) ?_
  have hinJ4 : ∀ w ∈ u_ws RJ4 TJ4 4, w ∈ wsJ5_inflateIfNeededFor_a7421 := by decide +kernel
  refine va_get (D := (dC, dI)) (ci := 1) (v := .int 0) (C := RJ4) (T := TJ4) (N := 4) hx hb hts hinJ4 hown hK hP 0 rfl rfl 1 (by decide) (hts (.fieldLink RJ5 22 "java/lang/AbstractStringBuilder" "coder" "B") (by decide +kernel)) (fun _ h9 => h9) rfl dJ5_inflateIfNeededFor_a7421_7 ?_
  refine lv_aload_n hx hb dJ5_inflateIfNeededFor_a7421_10 rfl (lv_at hl 1 rfl) ?_
  have hPc := hP.sub (ws' := []) [] rfl
  have hDc := hD.sub (ws' := []) [] (by decide) rfl
  have hKc := hK.sub (tys' := []) [] rfl
  have hFc := va_free (wc := []) hD hS hA [] rfl
  refine va_calli (va_runV (As := []) (rest := [.int 0]) ⟨hx, hb, hml, hown, hts⟩ (c_J0_coder_l l dC dI jk jv jo jt _ ) (cwV 0 hts gJ5_inflateIfNeededFor_a7421_J0_coder_7d493 rfl rfl rfl (by decide +kernel) ⟨Nat.le_of_ble_eq_true rfl, Nat.le_of_ble_eq_true rfl⟩) ⟨pe_blind jd_bl, vk_recv (jd_s hXs) Nat.zero_lt_one hS, fun U hU hW => ⟨rfl, pr_mk hU hW hPc hKc hDc, jd_mk hU hW hS hFc hXs⟩⟩ rfl rfl hl.1 rfl (lv_room (Nat.le_of_ble_eq_true rfl)) dJ5_inflateIfNeededFor_a7421_11 ⟨Nat.le_of_ble_eq_true rfl, Nat.le_of_ble_eq_true rfl⟩) hS (fun q _ h => hFc q h) hFc (fun r_2 u_1 t H1 locs ht hvm hw hB hz1 hk1 hS => ?_)
  obtain ⟨hP1, hK1, hD1⟩ := hB
  rw [ht] at hP1
  obtain ⟨hP, hD⟩ := va_join (wr := [(sb, .inr (1, [.ref b, .int 0, .int 0, .int cn]))]) (w1 := []) hP hD [] [0] rfl rfl (by decide) (by decide) hk1 hFc hP1 hD1
  generalize H1 = H at hP hS ⊢
  have hP : va_P (dC, dI) vwCl [(sb, .inr (1, [.ref b, .int 0, .int 0, .int cn]))] H := hP
  have hD : va_D A [(sb, .inr (1, [.ref b, .int 0, .int 0, .int cn]))] := hD
  refine W.widen (k := 0) (n := 0) (Nat.le_refl _) (Nat.le_refl _) ?_
  have hw : 0 = r_2 := Eq.symm hw
  subst hw
  refine lv_icmp_eq (tgt := 21) hx hb dJ5_inflateIfNeededFor_a7421_14 (by decide) (fun _ => ?_) (fun h9 => absurd h9 (by decide))
  have hP9 := hP.sub (ws' := [(sb, .inr (1, [.ref b, .int 0, .int 0, .int cn]))]) [0] rfl
  have hD9 := hD.sub (ws' := [(sb, .inr (1, [.ref b, .int 0, .int 0, .int cn]))]) [0] (by decide) rfl
  have hK9 := hK.sub (tys' := []) [] rfl
  refine W.widen (k := 0) (n := 0) (Nat.le_of_ble_eq_true rfl) (Nat.le_of_ble_eq_true rfl) ?_
  exact W.vret hx hb hr (fun t ht hW => ⟨⟨(), rfl, trivial, po_mk ht hW hP9 hK9 hD9⟩, hS.F ht⟩) hS.2.2 dJ5_inflateIfNeededFor_a7421_21

set_option maxHeartbeats 4000000 in
set_option maxRecDepth 100000 in
theorem c_J0_getBytes_840e7 (l : Launch) (dC : Nat → ClassId) (dI : Nat → Nat → Nat) (jk : Nat) (jv : Nat) (jo : Nat) (jt : Nat) (b : Nat) (cB : ClassId) (sz : Nat)  : Met l yJ0_getBytes_840e7 wsJ0_getBytes_840e7 ({ frames := 3, cells := 0, slots := 0, locals := 90 }) (va_Pc [.ref jk, .ref b, .int 0, .int 0] (fun U => pr_ dC dI [(b, .inl (cB, 16, .inl zi))] [(cB, .byte)] sz U ∧ jd_ (va_A [(b, .inl (cB, 16, .inl zi))] sz) jk jv jo jt U)) (va_Qv (fun (_ : Unit) => True) (fun (_ : Unit) t => po_ dC dI [(b, .inl (cB, 16, .inl zi))] [(cB, .byte)] (va_A [(b, .inl (cB, 16, .inl zi))] sz) t) (va_A [(b, .inl (cB, 16, .inl zi))] sz)) 0 0 (va_A [(b, .inl (cB, 16, .inl zi))] sz) := by
  refine Met.ofW (cc := cJ0_getBytes_840e7) (maxL := 4) (ret := none) (by decide) rfl ?_
  intro p e s m args below meth c s₁ B hml hv
  obtain ⟨rfl, ⟨hsz, hP, hK, hD0⟩, hXs⟩ := hv
  have hx := B.exec
  have hb := B.bytes
  have hr := B.returns
  have hts := atoms_spec (ws := wsJ0_getBytes_840e7) B.pre
  have hown : s.vm.findClass RJ0 = some m.cls := findClass_of_methodNamed B.named
  have hlocks := B.notSynchronized
  subst hsz
  have hD := hD0.self (sz := s.heap.size)
  generalize hAe : va_A [(b, .inl (cB, 16, .inl zi))] s.heap.size = A at hD hXs ⊢
  have hA : ∀ q : Nat, s.heap.size ≤ q → A q := fun q h => by rw [← hAe]; exact Or.inr h
  have hS : va_S A s.heap s.heap [] := va_S.rf
  have hP : va_P (dC, dI) vwCl [(b, .inl (cB, 16, .inl zi))] s.heap := hP
  have hK : va_K (dC, dI) vwCl [(cB, .byte)] s := hK
  have hl := lv_entry ([.ref jk, .ref b, .int 0, .int 0]) (n := 4) (Nat.le_of_ble_eq_true rfl)
  rw [lg_entry_eq]
  generalize (lg_sl ([.ref jk, .ref b, .int 0, .int 0]) ++ List.replicate (4 - (lg_sl ([.ref jk, .ref b, .int 0, .int 0])).length) Slot.unset).toArray = ls at hl ⊢
  have hl : lv_has ls 4 [(0, .ref jk), (1, .ref b), (2, .int 0), (3, .int 0)] := hl
  refine lv_aload_n hx hb dJ0_getBytes_840e7_0 rfl (lv_at hl 0 rfl) ?_
  have hPc := hP.sub (ws' := []) [] rfl
  have hDc := hD.sub (ws' := []) [] (by decide) rfl
  have hKc := hK.sub (tys' := []) [] rfl
  have hFc := va_free (wc := []) hD hS hA [] rfl
  refine va_calli (va_runV (As := []) (rest := []) ⟨hx, hb, hml, hown, hts⟩ (c_J0_coder_l l dC dI jk jv jo jt _ ) (cwV 0 hts gJ0_getBytes_840e7_J0_coder_7d493 rfl rfl rfl (by decide +kernel) ⟨Nat.le_of_ble_eq_true rfl, Nat.le_of_ble_eq_true rfl⟩) ⟨pe_blind jd_bl, vk_recv (jd_s hXs) Nat.zero_lt_one hS, fun U hU hW => ⟨rfl, pr_mk hU hW hPc hKc hDc, jd_mk hU hW hS hFc hXs⟩⟩ rfl rfl hl.1 rfl (lv_room (Nat.le_of_ble_eq_true rfl)) dJ0_getBytes_840e7_1 ⟨Nat.le_of_ble_eq_true rfl, Nat.le_of_ble_eq_true rfl⟩) hS (fun q _ h => hFc q h) hFc (fun r_2 u_1 t H1 locs ht hvm hw hB hz1 hk1 hS => ?_)
  obtain ⟨hP1, hK1, hD1⟩ := hB
  rw [ht] at hP1
  obtain ⟨hP, hD⟩ := va_join (wr := [(b, .inl (cB, 16, .inl zi))]) (w1 := []) hP hD [] [0] rfl rfl (by decide) (by decide) hk1 hFc hP1 hD1
  generalize H1 = H at hP hS ⊢
  have hP : va_P (dC, dI) vwCl [(b, .inl (cB, 16, .inl zi))] H := hP
  have hD : va_D A [(b, .inl (cB, 16, .inl zi))] := hD
  refine W.widen (k := 0) (n := 0) (Nat.le_refl _) (Nat.le_refl _) ?_
  have hw : 0 = r_2 := Eq.symm hw
  subst hw
  refine lv_iload_n hx hb dJ0_getBytes_840e7_4 rfl (lv_at hl 3 rfl) ?_
  refine lv_icmp_ne (tgt := 28) hx hb dJ0_getBytes_840e7_5 (by decide) (fun h9 => absurd h9 (by decide)) (fun _ => ?_)
  refine lv_aload_n hx hb dJ0_getBytes_840e7_8 rfl (lv_at hl 0 rfl) ?_
  refine vk_getf hx hb (jd_lv hXs) hS hown (hts (.fieldLink RJ0 9 "java/lang/String" "value" "[B") (by decide +kernel)) (fun _ h9 => h9) dJ0_getBytes_840e7_9 ?_
  refine lv_iconst (v := 0) hx hb dJ0_getBytes_840e7_12 (by decide) ?_
  refine lv_aload_n hx hb dJ0_getBytes_840e7_13 rfl (lv_at hl 1 rfl) ?_
  refine lv_iload_n hx hb dJ0_getBytes_840e7_14 rfl (lv_at hl 2 rfl) ?_
  refine lv_iload_n hx hb dJ0_getBytes_840e7_15 rfl (lv_at hl 3 rfl) ?_
  refine lv_ishl hx hb dJ0_getBytes_840e7_16 ?_
  refine lv_topi (fun y_3 ey_3 => ?_)
  obtain rfl : y_3 = 0 := ey_3.trans (by decide)
  refine lv_aload_n hx hb dJ0_getBytes_840e7_17 rfl (lv_at hl 0 rfl) ?_
  refine vk_getf hx hb (jd_lv hXs) hS hown (hts (.fieldLink RJ0 9 "java/lang/String" "value" "[B") (by decide +kernel)) (fun _ h9 => h9) dJ0_getBytes_840e7_18 ?_
  refine va_tlen (v := 0) hx hb (jd_la hXs) hS (by decide) dJ0_getBytes_840e7_21 ?_
  refine vk_copyt (f := fun j => (([[]] : List (List Int32)).getD 0 []).getD j 0) hx hb (by rw [hml]; exact hl.1.symm) hown (hts (.methodLink RJ0 212 arraycopyName) (by decide +kernel)) (hts (.native arraycopyName) (by decide +kernel)) (hts (.static arraycopyName) (by decide +kernel)) (hts (.initialized "java/lang/System") (by decide +kernel)) hK hP hD hS (jd_la hXs) 0 0 rfl rfl (by decide) (by decide) (by decide) (by decide) (by decide) (fun i h9 => absurd h9 (by rw [jz0]; omega)) (Nat.le_of_ble_eq_true rfl) (Nat.le_of_ble_eq_true rfl) dJ0_getBytes_840e7_22 (fun H locs hP hD hS => ?_)
  rw [jcp0] at hP hD
  have hP : va_P (dC, dI) vwCl [(b, .inl (cB, 16, .inl zi))] H := hP
  have hD : va_D A [(b, .inl (cB, 16, .inl zi))] := hD
  refine lv_goto (tgt := 43) hx hb dJ0_getBytes_840e7_25 (by decide) ?_
  have hP9 := hP.sub (ws' := [(b, .inl (cB, 16, .inl zi))]) [0] rfl
  have hD9 := hD.sub (ws' := [(b, .inl (cB, 16, .inl zi))]) [0] (by decide) rfl
  have hK9 := hK.sub (tys' := [(cB, .byte)]) [0] rfl
  refine W.widen (k := 0) (n := 0) (Nat.le_of_ble_eq_true rfl) (Nat.le_of_ble_eq_true rfl) ?_
  exact W.vret hx hb hr (fun t ht hW => ⟨⟨(), rfl, trivial, po_mk ht hW hP9 hK9 hD9⟩, hS.F ht⟩) hS.2.2 dJ0_getBytes_840e7_43

set_option maxHeartbeats 4000000 in
set_option maxRecDepth 100000 in
theorem c_J5_putStringAt_47b60 (l : Launch) (dC : Nat → ClassId) (dI : Nat → Nat → Nat) (jk : Nat) (jv : Nat) (jo : Nat) (jt : Nat) (sb : Nat) (b : Nat) (cB : ClassId) (cn : Int32) (sz : Nat)  : Met l yJ5_putStringAt_47b60 wsJ5_putStringAt_47b60 ({ frames := 4, cells := 0, slots := 0, locals := 120 }) (va_Pc [.ref sb, .int 0, .ref jk] (fun U => pr_ dC dI [(sb, .inr (1, [.ref b, .int 0, .int 0, .int cn])), (b, .inl (cB, 16, .inl zi))] [(cB, .byte)] sz U ∧ jd_ (va_A [(sb, .inr (1, [.ref b, .int 0, .int 0, .int cn])), (b, .inl (cB, 16, .inl zi))] sz) jk jv jo jt U)) (va_Qv (fun (_ : Unit) => True) (fun (_ : Unit) t => po_ dC dI [(sb, .inr (1, [.ref b, .int 0, .int 0, .int cn])), (b, .inl (cB, 16, .inl zi))] [(cB, .byte)] (va_A [(sb, .inr (1, [.ref b, .int 0, .int 0, .int cn])), (b, .inl (cB, 16, .inl zi))] sz) t) (va_A [(sb, .inr (1, [.ref b, .int 0, .int 0, .int cn])), (b, .inl (cB, 16, .inl zi))] sz)) 0 0 (va_A [(sb, .inr (1, [.ref b, .int 0, .int 0, .int cn])), (b, .inl (cB, 16, .inl zi))] sz) := by
  refine Met.ofW (cc := cJ5_putStringAt_47b60) (maxL := 3) (ret := none) (by decide) rfl ?_
  intro p e s m args below meth c s₁ B hml hv
  obtain ⟨rfl, ⟨hsz, hP, hK, hD0⟩, hXs⟩ := hv
  have hx := B.exec
  have hb := B.bytes
  have hr := B.returns
  have hts := atoms_spec (ws := wsJ5_putStringAt_47b60) B.pre
  have hown : s.vm.findClass RJ5 = some m.cls := findClass_of_methodNamed B.named
  have hlocks := B.notSynchronized
  subst hsz
  have hD := hD0.self (sz := s.heap.size)
  generalize hAe : va_A [(sb, .inr (1, [.ref b, .int 0, .int 0, .int cn])), (b, .inl (cB, 16, .inl zi))] s.heap.size = A at hD hXs ⊢
  have hA : ∀ q : Nat, s.heap.size ≤ q → A q := fun q h => by rw [← hAe]; exact Or.inr h
  have hS : va_S A s.heap s.heap [] := va_S.rf
  have hP : va_P (dC, dI) vwCl [(sb, .inr (1, [.ref b, .int 0, .int 0, .int cn])), (b, .inl (cB, 16, .inl zi))] s.heap := hP
  have hK : va_K (dC, dI) vwCl [(cB, .byte)] s := hK
  have hl := lv_entry ([.ref sb, .int 0, .ref jk]) (n := 3) (Nat.le_of_ble_eq_true rfl)
  rw [lg_entry_eq]
  generalize (lg_sl ([.ref sb, .int 0, .ref jk]) ++ List.replicate (3 - (lg_sl ([.ref sb, .int 0, .ref jk])).length) Slot.unset).toArray = ls at hl ⊢
  have hl : lv_has ls 3 [(0, .ref sb), (1, .int 0), (2, .ref jk)] := hl
  refine lv_aload_n hx hb dJ5_putStringAt_47b60_0 rfl (lv_at hl 0 rfl) ?_
  refine lv_aload_n hx hb dJ5_putStringAt_47b60_1 rfl (lv_at hl 2 rfl) ?_
  have hPc := hP.sub (ws' := [(sb, .inr (1, [.ref b, .int 0, .int 0, .int cn]))]) [0] rfl
  have hDc := hD.sub (ws' := [(sb, .inr (1, [.ref b, .int 0, .int 0, .int cn]))]) [0] (by decide) rfl
  have hKc := hK.sub (tys' := []) [] rfl
  have hFc := va_free (wc := [(sb, .inr (1, [.ref b, .int 0, .int 0, .int cn]))]) hD hS hA [0] rfl
  refine va_callv (va_runU (As := [.ref jk]) (rest := []) ⟨hx, hb, hml, hown, hts⟩ (c_J5_inflateIfNeededFor_a7421 l dC dI jk jv jo jt sb b cn _ ) (va_cwU (C := RJ4) (owner := "java/lang/AbstractStringBuilder") (x := yJ5_inflateIfNeededFor_a7421) (y := yJ5_inflateIfNeededFor_a7421) 1 hts (show GoodIn wsJ5_putStringAt_47b60 (va_wsU RJ5 397 RJ4 "java/lang/AbstractStringBuilder" yJ5_inflateIfNeededFor_a7421 yJ5_inflateIfNeededFor_a7421 wsJ5_inflateIfNeededFor_a7421) from goodIn_app (goodIn_of _ (by decide +kernel)) ggJ5_putStringAt_47b60_J5_inflateIfNeededFor_a7421) rfl rfl rfl rfl (by decide +kernel) ⟨Nat.le_of_ble_eq_true rfl, Nat.le_of_ble_eq_true rfl⟩) ⟨pe_blind jd_bl, va_recv hKc hPc (ci := 1) (q0 := 0) rfl rfl, fun U hU hW => ⟨rfl, pr_mk hU hW hPc hKc hDc, jd_mk hU hW hS hFc hXs⟩⟩ rfl rfl hl.1 rfl (lv_room (Nat.le_of_ble_eq_true rfl)) dJ5_putStringAt_47b60_2 ⟨Nat.le_of_ble_eq_true rfl, Nat.le_of_ble_eq_true rfl⟩) hS (fun q _ h => hFc q h) hFc (fun u_1 t H1 locs ht hvm hw hB hz1 hk1 hS => ?_)
  obtain ⟨hP1, hK1, hD1⟩ := hB
  rw [ht] at hP1
  obtain ⟨hP, hD⟩ := va_join (wr := [(b, .inl (cB, 16, .inl zi))]) (w1 := [(sb, .inr (1, [.ref b, .int 0, .int 0, .int cn]))]) hP hD [0] [1] rfl rfl (by decide) (by decide) hk1 hFc hP1 hD1
  generalize H1 = H at hP hS ⊢
  have hP : va_P (dC, dI) vwCl [(b, .inl (cB, 16, .inl zi)), (sb, .inr (1, [.ref b, .int 0, .int 0, .int cn]))] H := hP
  have hD : va_D A [(b, .inl (cB, 16, .inl zi)), (sb, .inr (1, [.ref b, .int 0, .int 0, .int cn]))] := hD
  refine W.widen (k := 0) (n := 0) (Nat.le_refl _) (Nat.le_refl _) ?_
  refine lv_aload_n hx hb dJ5_putStringAt_47b60_5 rfl (lv_at hl 2 rfl) ?_
  refine lv_aload_n hx hb dJ5_putStringAt_47b60_6 rfl (lv_at hl 0 rfl) ?_
  have hinJ4 : ∀ w ∈ u_ws RJ4 TJ4 4, w ∈ wsJ5_putStringAt_47b60 := by decide +kernel
  refine va_get (D := (dC, dI)) (ci := 1) (v := .ref b) (C := RJ4) (T := TJ4) (N := 4) hx hb hts hinJ4 hown hK hP 1 rfl rfl 0 (by decide) (hts (.fieldLink RJ5 15 "java/lang/AbstractStringBuilder" "value" "[B") (by decide +kernel)) (fun _ h9 => h9) rfl dJ5_putStringAt_47b60_7 ?_
  refine lv_iload_n hx hb dJ5_putStringAt_47b60_10 rfl (lv_at hl 1 rfl) ?_
  refine lv_aload_n hx hb dJ5_putStringAt_47b60_11 rfl (lv_at hl 0 rfl) ?_
  refine va_get (D := (dC, dI)) (ci := 1) (v := .int 0) (C := RJ4) (T := TJ4) (N := 4) hx hb hts hinJ4 hown hK hP 1 rfl rfl 1 (by decide) (hts (.fieldLink RJ5 22 "java/lang/AbstractStringBuilder" "coder" "B") (by decide +kernel)) (fun _ h9 => h9) rfl dJ5_putStringAt_47b60_12 ?_
  have hPc := hP.sub (ws' := [(b, .inl (cB, 16, .inl zi))]) [0] rfl
  have hDc := hD.sub (ws' := [(b, .inl (cB, 16, .inl zi))]) [0] (by decide) rfl
  have hKc := hK.sub (tys' := [(cB, .byte)]) [0] rfl
  have hFc := va_free (wc := [(b, .inl (cB, 16, .inl zi))]) hD hS hA [0] rfl
  refine va_callv (va_runV (As := [.ref b, .int 0, .int 0]) (rest := []) ⟨hx, hb, hml, hown, hts⟩ (c_J0_getBytes_840e7 l dC dI jk jv jo jt b cB _ ) (cwV 3 hts gJ5_putStringAt_47b60_J0_getBytes_840e7 rfl rfl rfl (by decide +kernel) ⟨Nat.le_of_ble_eq_true rfl, Nat.le_of_ble_eq_true rfl⟩) ⟨pe_blind jd_bl, vk_recv (jd_s hXs) Nat.zero_lt_one hS, fun U hU hW => ⟨rfl, pr_mk hU hW hPc hKc hDc, jd_mk hU hW hS hFc hXs⟩⟩ rfl rfl hl.1 rfl (lv_room (Nat.le_of_ble_eq_true rfl)) dJ5_putStringAt_47b60_15 ⟨Nat.le_of_ble_eq_true rfl, Nat.le_of_ble_eq_true rfl⟩) hS (fun q _ h => hFc q h) hFc (fun u_3 t H1 locs ht hvm hw hB hz1 hk1 hS => ?_)
  obtain ⟨hP1, hK1, hD1⟩ := hB
  rw [ht] at hP1
  obtain ⟨hP, hD⟩ := va_join (wr := [(sb, .inr (1, [.ref b, .int 0, .int 0, .int cn]))]) (w1 := [(b, .inl (cB, 16, .inl zi))]) hP hD [0] [1] rfl rfl (by decide) (by decide) hk1 hFc hP1 hD1
  generalize H1 = H at hP hS ⊢
  have hP : va_P (dC, dI) vwCl [(sb, .inr (1, [.ref b, .int 0, .int 0, .int cn])), (b, .inl (cB, 16, .inl zi))] H := hP
  have hD : va_D A [(sb, .inr (1, [.ref b, .int 0, .int 0, .int cn])), (b, .inl (cB, 16, .inl zi))] := hD
  refine W.widen (k := 0) (n := 0) (Nat.le_refl _) (Nat.le_refl _) ?_
  have hP9 := hP.sub (ws' := [(sb, .inr (1, [.ref b, .int 0, .int 0, .int cn])), (b, .inl (cB, 16, .inl zi))]) [0, 1] rfl
  have hD9 := hD.sub (ws' := [(sb, .inr (1, [.ref b, .int 0, .int 0, .int cn])), (b, .inl (cB, 16, .inl zi))]) [0, 1] (by decide) rfl
  have hK9 := hK.sub (tys' := [(cB, .byte)]) [0] rfl
  refine W.widen (k := 0) (n := 0) (Nat.le_of_ble_eq_true rfl) (Nat.le_of_ble_eq_true rfl) ?_
  exact W.vret hx hb hr (fun t ht hW => ⟨⟨(), rfl, trivial, po_mk ht hW hP9 hK9 hD9⟩, hS.F ht⟩) hS.2.2 dJ5_putStringAt_47b60_18

set_option maxHeartbeats 4000000 in
set_option maxRecDepth 100000 in
theorem c_J5_append_cf1ce (l : Launch) (dC : Nat → ClassId) (dI : Nat → Nat → Nat) (jk : Nat) (jv : Nat) (jo : Nat) (jt : Nat) (sb : Nat) (b : Nat) (cB : ClassId) (sz : Nat)  : Met l yJ5_append_cf1ce wsJ5_append_cf1ce ({ frames := 5, cells := 0, slots := 0, locals := 150 }) (va_Pc [.ref sb, .ref jk] (fun U => pr_ dC dI [(sb, .inr (1, [.ref b, .int 0, .int 0, .int 0])), (b, .inl (cB, 16, .inl zi))] [(cB, .byte)] sz U ∧ jd_ (va_A [(sb, .inr (1, [.ref b, .int 0, .int 0, .int 0])), (b, .inl (cB, 16, .inl zi))] sz) jk jv jo jt U)) (va_Qr (fun (_ : Unit) => True) (fun (_ : Unit) RES t => RES = sb ∧ po_ dC dI [(sb, .inr (1, [.ref b, .int 0, .int 0, .int 0])), (b, .inl (cB, 16, .inl zi))] [(cB, .byte)] (va_A [(sb, .inr (1, [.ref b, .int 0, .int 0, .int 0])), (b, .inl (cB, 16, .inl zi))] sz) t) (va_A [(sb, .inr (1, [.ref b, .int 0, .int 0, .int 0])), (b, .inl (cB, 16, .inl zi))] sz)) 0 0 (va_A [(sb, .inr (1, [.ref b, .int 0, .int 0, .int 0])), (b, .inl (cB, 16, .inl zi))] sz) := by
  refine Met.ofW (cc := cJ5_append_cf1ce) (maxL := 3) (ret := (some (.object "java/lang/AbstractStringBuilder"))) (by decide) rfl ?_
  intro p e s m args below meth c s₁ B hml hv
  obtain ⟨rfl, ⟨hsz, hP, hK, hD0⟩, hXs⟩ := hv
  have hx := B.exec
  have hb := B.bytes
  have hr := B.returns
  have hts := atoms_spec (ws := wsJ5_append_cf1ce) B.pre
  have hown : s.vm.findClass RJ5 = some m.cls := findClass_of_methodNamed B.named
  have hlocks := B.notSynchronized
  subst hsz
  have hD := hD0.self (sz := s.heap.size)
  generalize hAe : va_A [(sb, .inr (1, [.ref b, .int 0, .int 0, .int 0])), (b, .inl (cB, 16, .inl zi))] s.heap.size = A at hD hXs ⊢
  have hA : ∀ q : Nat, s.heap.size ≤ q → A q := fun q h => by rw [← hAe]; exact Or.inr h
  have hS : va_S A s.heap s.heap [] := va_S.rf
  have hP : va_P (dC, dI) vwCl [(sb, .inr (1, [.ref b, .int 0, .int 0, .int 0])), (b, .inl (cB, 16, .inl zi))] s.heap := hP
  have hK : va_K (dC, dI) vwCl [(cB, .byte)] s := hK
  have hl := lv_entry ([.ref sb, .ref jk]) (n := 3) (Nat.le_of_ble_eq_true rfl)
  rw [lg_entry_eq]
  generalize (lg_sl ([.ref sb, .ref jk]) ++ List.replicate (3 - (lg_sl ([.ref sb, .ref jk])).length) Slot.unset).toArray = ls at hl ⊢
  have hl : lv_has ls 3 [(0, .ref sb), (1, .ref jk)] := hl
  refine lv_aload_n hx hb dJ5_append_cf1ce_0 rfl (lv_at hl 1 rfl) ?_
  refine lv_ifnonnull (tgt := 9) hx hb dJ5_append_cf1ce_1 (by decide) ?_
  refine lv_aload_n hx hb dJ5_append_cf1ce_9 rfl (lv_at hl 1 rfl) ?_
  have hPc := hP.sub (ws' := []) [] rfl
  have hDc := hD.sub (ws' := []) [] (by decide) rfl
  have hKc := hK.sub (tys' := []) [] rfl
  have hFc := va_free (wc := []) hD hS hA [] rfl
  refine va_calli (va_runV (As := []) (rest := []) ⟨hx, hb, hml, hown, hts⟩ (c_J0_length_l l dC dI jk jv jo jt _ ) (cwV 0 hts gJ5_append_cf1ce_J0_length_8abf5 rfl rfl rfl (by decide +kernel) ⟨Nat.le_of_ble_eq_true rfl, Nat.le_of_ble_eq_true rfl⟩) ⟨pe_blind jd_bl, vk_recv (jd_s hXs) Nat.zero_lt_one hS, fun U hU hW => ⟨rfl, pr_mk hU hW hPc hKc hDc, jd_mk hU hW hS hFc hXs⟩⟩ rfl rfl hl.1 rfl (lv_room (Nat.le_of_ble_eq_true rfl)) dJ5_append_cf1ce_10 ⟨Nat.le_of_ble_eq_true rfl, Nat.le_of_ble_eq_true rfl⟩) hS (fun q _ h => hFc q h) hFc (fun r_2 u_1 t H1 locs ht hvm hw hB hz1 hk1 hS => ?_)
  obtain ⟨hP1, hK1, hD1⟩ := hB
  rw [ht] at hP1
  obtain ⟨hP, hD⟩ := va_join (wr := [(sb, .inr (1, [.ref b, .int 0, .int 0, .int 0])), (b, .inl (cB, 16, .inl zi))]) (w1 := []) hP hD [] [0, 1] rfl rfl (by decide) (by decide) hk1 hFc hP1 hD1
  generalize H1 = H at hP hS ⊢
  have hP : va_P (dC, dI) vwCl [(sb, .inr (1, [.ref b, .int 0, .int 0, .int 0])), (b, .inl (cB, 16, .inl zi))] H := hP
  have hD : va_D A [(sb, .inr (1, [.ref b, .int 0, .int 0, .int 0])), (b, .inl (cB, 16, .inl zi))] := hD
  refine W.widen (k := 0) (n := 0) (Nat.le_refl _) (Nat.le_refl _) ?_
  have hw : 0 = r_2 := Eq.symm hw
  subst hw
  refine lv_istore_n (lv' := [(2, .int 0), (0, .ref sb), (1, .ref jk)]) hx hb dJ5_append_cf1ce_13 rfl hl (by decide) rfl (fun ls hl => ?_)
  refine lv_aload_n hx hb dJ5_append_cf1ce_14 rfl (lv_at hl 1 rfl) ?_
  refine lv_aload_n hx hb dJ5_append_cf1ce_15 rfl (lv_at hl 1 rfl) ?_
  have hinJ4 : ∀ w ∈ u_ws RJ4 TJ4 4, w ∈ wsJ5_append_cf1ce := by decide +kernel
  refine va_get (D := (dC, dI)) (ci := 1) (v := .int 0) (C := RJ4) (T := TJ4) (N := 4) hx hb hts hinJ4 hown hK hP 0 rfl rfl 3 (by decide) (hts (.fieldLink RJ5 79 "java/lang/AbstractStringBuilder" "count" "I") (by decide +kernel)) (fun _ h9 => h9) rfl dJ5_append_cf1ce_16 ?_
  refine lv_iload_n hx hb dJ5_append_cf1ce_19 rfl (lv_at hl 0 rfl) ?_
  refine lv_iadd hx hb dJ5_append_cf1ce_20 ?_
  refine lv_topi (fun y_3 ey_3 => ?_)
  obtain rfl : y_3 = 0 := ey_3.trans (by decide)
  have hPc := hP.sub (ws' := [(sb, .inr (1, [.ref b, .int 0, .int 0, .int 0])), (b, .inl (cB, 16, .inl zi))]) [0, 1] rfl
  have hDc := hD.sub (ws' := [(sb, .inr (1, [.ref b, .int 0, .int 0, .int 0])), (b, .inl (cB, 16, .inl zi))]) [0, 1] (by decide) rfl
  have hKc := hK.sub (tys' := [(cB, .byte)]) [0] rfl
  have hFc := va_free (wc := [(sb, .inr (1, [.ref b, .int 0, .int 0, .int 0])), (b, .inl (cB, 16, .inl zi))]) hD hS hA [0, 1] rfl
  refine va_callv (va_runU (As := [.int 0]) (rest := []) ⟨hx, hb, hml, hown, hts⟩ (c_J5_ensureCapacityInternal_d00df l dC dI jk jv jo jt sb b cB (0 : Int32) zi (0 : Int32) _ (by decide)) (va_cwU (C := RJ4) (owner := "java/lang/AbstractStringBuilder") (x := yJ5_ensureCapacityInternal_d00df) (y := yJ5_ensureCapacityInternal_d00df) 1 hts (show GoodIn wsJ5_append_cf1ce (va_wsU RJ5 100 RJ4 "java/lang/AbstractStringBuilder" yJ5_ensureCapacityInternal_d00df yJ5_ensureCapacityInternal_d00df wsJ5_ensureCapacityInternal_d00df) from goodIn_app (goodIn_of _ (by decide +kernel)) ggJ5_append_cf1ce_J5_ensureCapacityInternal_d00df) rfl rfl rfl rfl (by decide +kernel) ⟨Nat.le_of_ble_eq_true rfl, Nat.le_of_ble_eq_true rfl⟩) ⟨pe_blind jd_bl, va_recv hKc hPc (ci := 1) (q0 := 0) rfl rfl, fun U hU hW => ⟨rfl, pr_mk hU hW hPc hKc hDc, jd_mk hU hW hS hFc hXs⟩⟩ rfl rfl hl.1 rfl (lv_room (Nat.le_of_ble_eq_true rfl)) dJ5_append_cf1ce_21 ⟨Nat.le_of_ble_eq_true rfl, Nat.le_of_ble_eq_true rfl⟩) hS (fun q _ h => hFc q h) hFc (fun u_4 t H1 locs ht hvm hw hB hz1 hk1 hS => ?_)
  obtain ⟨hP1, hK1, hD1⟩ := hB
  rw [ht] at hP1
  obtain ⟨hP, hD⟩ := va_join (wr := []) (w1 := [(sb, .inr (1, [.ref b, .int 0, .int 0, .int 0])), (b, .inl (cB, 16, .inl zi))]) hP hD [0, 1] [] rfl rfl (by decide) (by decide) hk1 hFc hP1 hD1
  generalize H1 = H at hP hS ⊢
  have hP : va_P (dC, dI) vwCl [(sb, .inr (1, [.ref b, .int 0, .int 0, .int 0])), (b, .inl (cB, 16, .inl zi))] H := hP
  have hD : va_D A [(sb, .inr (1, [.ref b, .int 0, .int 0, .int 0])), (b, .inl (cB, 16, .inl zi))] := hD
  refine W.widen (k := 0) (n := 0) (Nat.le_refl _) (Nat.le_refl _) ?_
  refine lv_aload_n hx hb dJ5_append_cf1ce_24 rfl (lv_at hl 1 rfl) ?_
  refine lv_aload_n hx hb dJ5_append_cf1ce_25 rfl (lv_at hl 1 rfl) ?_
  refine va_get (D := (dC, dI)) (ci := 1) (v := .int 0) (C := RJ4) (T := TJ4) (N := 4) hx hb hts hinJ4 hown hK hP 0 rfl rfl 3 (by decide) (hts (.fieldLink RJ5 79 "java/lang/AbstractStringBuilder" "count" "I") (by decide +kernel)) (fun _ h9 => h9) rfl dJ5_append_cf1ce_26 ?_
  refine lv_aload_n hx hb dJ5_append_cf1ce_29 rfl (lv_at hl 2 rfl) ?_
  have hPc := hP.sub (ws' := [(sb, .inr (1, [.ref b, .int 0, .int 0, .int 0])), (b, .inl (cB, 16, .inl zi))]) [0, 1] rfl
  have hDc := hD.sub (ws' := [(sb, .inr (1, [.ref b, .int 0, .int 0, .int 0])), (b, .inl (cB, 16, .inl zi))]) [0, 1] (by decide) rfl
  have hKc := hK.sub (tys' := [(cB, .byte)]) [0] rfl
  have hFc := va_free (wc := [(sb, .inr (1, [.ref b, .int 0, .int 0, .int 0])), (b, .inl (cB, 16, .inl zi))]) hD hS hA [0, 1] rfl
  refine va_callv (va_runU (As := [.int 0, .ref jk]) (rest := []) ⟨hx, hb, hml, hown, hts⟩ (c_J5_putStringAt_47b60 l dC dI jk jv jo jt sb b cB (0 : Int32) _ ) (va_cwU (C := RJ4) (owner := "java/lang/AbstractStringBuilder") (x := yJ5_putStringAt_47b60) (y := yJ5_putStringAt_47b60) 2 hts (show GoodIn wsJ5_append_cf1ce (va_wsU RJ5 208 RJ4 "java/lang/AbstractStringBuilder" yJ5_putStringAt_47b60 yJ5_putStringAt_47b60 wsJ5_putStringAt_47b60) from goodIn_app (goodIn_of _ (by decide +kernel)) ggJ5_append_cf1ce_J5_putStringAt_47b60) rfl rfl rfl rfl (by decide +kernel) ⟨Nat.le_of_ble_eq_true rfl, Nat.le_of_ble_eq_true rfl⟩) ⟨pe_blind jd_bl, va_recv hKc hPc (ci := 1) (q0 := 0) rfl rfl, fun U hU hW => ⟨rfl, pr_mk hU hW hPc hKc hDc, jd_mk hU hW hS hFc hXs⟩⟩ rfl rfl hl.1 rfl (lv_room (Nat.le_of_ble_eq_true rfl)) dJ5_append_cf1ce_30 ⟨Nat.le_of_ble_eq_true rfl, Nat.le_of_ble_eq_true rfl⟩) hS (fun q _ h => hFc q h) hFc (fun u_6 t H1 locs ht hvm hw hB hz1 hk1 hS => ?_)
  obtain ⟨hP1, hK1, hD1⟩ := hB
  rw [ht] at hP1
  obtain ⟨hP, hD⟩ := va_join (wr := []) (w1 := [(sb, .inr (1, [.ref b, .int 0, .int 0, .int 0])), (b, .inl (cB, 16, .inl zi))]) hP hD [0, 1] [] rfl rfl (by decide) (by decide) hk1 hFc hP1 hD1
  generalize H1 = H at hP hS ⊢
  have hP : va_P (dC, dI) vwCl [(sb, .inr (1, [.ref b, .int 0, .int 0, .int 0])), (b, .inl (cB, 16, .inl zi))] H := hP
  have hD : va_D A [(sb, .inr (1, [.ref b, .int 0, .int 0, .int 0])), (b, .inl (cB, 16, .inl zi))] := hD
  refine W.widen (k := 0) (n := 0) (Nat.le_refl _) (Nat.le_refl _) ?_
  refine lv_aload_n hx hb dJ5_append_cf1ce_33 rfl (lv_at hl 1 rfl) ?_
  refine lv_dup hx hb dJ5_append_cf1ce_34 rfl ?_
  refine va_get (D := (dC, dI)) (ci := 1) (v := .int 0) (C := RJ4) (T := TJ4) (N := 4) hx hb hts hinJ4 hown hK hP 0 rfl rfl 3 (by decide) (hts (.fieldLink RJ5 79 "java/lang/AbstractStringBuilder" "count" "I") (by decide +kernel)) (fun _ h9 => h9) rfl dJ5_append_cf1ce_35 ?_
  refine lv_iload_n hx hb dJ5_append_cf1ce_38 rfl (lv_at hl 0 rfl) ?_
  refine lv_iadd hx hb dJ5_append_cf1ce_39 ?_
  refine lv_topi (fun y_8 ey_8 => ?_)
  obtain rfl : y_8 = 0 := ey_8.trans (by decide)
  refine va_put (D := (dC, dI)) (ci := 1) (v := .int 0) (ty := .int) (C := RJ4) (T := TJ4) (N := 4) hx hb hts hinJ4 tyJ4 tyJ4_ok nmJ4 hown hK hP hD hS 0 rfl rfl 3 (by decide) (hts (.fieldLink RJ5 79 "java/lang/AbstractStringBuilder" "count" "I") (by decide +kernel)) (fun _ h9 => h9) rfl (by decide +kernel) rfl rfl (Nat.le_of_ble_eq_true rfl) dJ5_append_cf1ce_40 (fun H locs hP hD hS => ?_)
  have hP : va_P (dC, dI) vwCl [(sb, .inr (1, [.ref b, .int 0, .int 0, .int 0])), (b, .inl (cB, 16, .inl zi))] H := hP
  have hD : va_D A [(sb, .inr (1, [.ref b, .int 0, .int 0, .int 0])), (b, .inl (cB, 16, .inl zi))] := hD
  refine lv_aload_n hx hb dJ5_append_cf1ce_43 rfl (lv_at hl 1 rfl) ?_
  have hP9 := hP.sub (ws' := [(sb, .inr (1, [.ref b, .int 0, .int 0, .int 0])), (b, .inl (cB, 16, .inl zi))]) [0, 1] rfl
  have hD9 := hD.sub (ws' := [(sb, .inr (1, [.ref b, .int 0, .int 0, .int 0])), (b, .inl (cB, 16, .inl zi))]) [0, 1] (by decide) rfl
  have hK9 := hK.sub (tys' := [(cB, .byte)]) [0] rfl
  refine W.widen (k := 0) (n := 0) (Nat.le_of_ble_eq_true rfl) (Nat.le_of_ble_eq_true rfl) ?_
  exact W.aret (v := .ref sb) (rt := (.object "java/lang/AbstractStringBuilder")) hx hb hr (Or.inl ⟨_, rfl⟩) (Or.inr ⟨_, rfl⟩) (fun t ht hW => ⟨⟨(), sb, rfl, trivial, ⟨rfl, po_mk ht hW hP9 hK9 hD9⟩⟩, hS.F ht⟩) hS.2.2 dJ5_append_cf1ce_44

set_option maxHeartbeats 4000000 in
set_option maxRecDepth 100000 in
theorem c_J4_append_15ec4 (l : Launch) (dC : Nat → ClassId) (dI : Nat → Nat → Nat) (jk : Nat) (jv : Nat) (jo : Nat) (jt : Nat) (sb : Nat) (b : Nat) (cB : ClassId) (sz : Nat)  : Met l yJ4_append_15ec4 wsJ4_append_15ec4 ({ frames := 6, cells := 0, slots := 0, locals := 180 }) (va_Pc [.ref sb, .ref jk] (fun U => pr_ dC dI [(sb, .inr (1, [.ref b, .int 0, .int 0, .int 0])), (b, .inl (cB, 16, .inl zi))] [(cB, .byte)] sz U ∧ jd_ (va_A [(sb, .inr (1, [.ref b, .int 0, .int 0, .int 0])), (b, .inl (cB, 16, .inl zi))] sz) jk jv jo jt U)) (va_Qr (fun (_ : Unit) => True) (fun (_ : Unit) RES t => RES = sb ∧ po_ dC dI [(sb, .inr (1, [.ref b, .int 0, .int 0, .int 0])), (b, .inl (cB, 16, .inl zi))] [(cB, .byte)] (va_A [(sb, .inr (1, [.ref b, .int 0, .int 0, .int 0])), (b, .inl (cB, 16, .inl zi))] sz) t) (va_A [(sb, .inr (1, [.ref b, .int 0, .int 0, .int 0])), (b, .inl (cB, 16, .inl zi))] sz)) 0 0 (va_A [(sb, .inr (1, [.ref b, .int 0, .int 0, .int 0])), (b, .inl (cB, 16, .inl zi))] sz) := by
  refine Met.ofW (cc := cJ4_append_15ec4) (maxL := 2) (ret := (some (.object "java/lang/StringBuilder"))) (by decide) rfl ?_
  intro p e s m args below meth c s₁ B hml hv
  obtain ⟨rfl, ⟨hsz, hP, hK, hD0⟩, hXs⟩ := hv
  have hx := B.exec
  have hb := B.bytes
  have hr := B.returns
  have hts := atoms_spec (ws := wsJ4_append_15ec4) B.pre
  have hown : s.vm.findClass RJ4 = some m.cls := findClass_of_methodNamed B.named
  have hlocks := B.notSynchronized
  subst hsz
  have hD := hD0.self (sz := s.heap.size)
  generalize hAe : va_A [(sb, .inr (1, [.ref b, .int 0, .int 0, .int 0])), (b, .inl (cB, 16, .inl zi))] s.heap.size = A at hD hXs ⊢
  have hA : ∀ q : Nat, s.heap.size ≤ q → A q := fun q h => by rw [← hAe]; exact Or.inr h
  have hS : va_S A s.heap s.heap [] := va_S.rf
  have hP : va_P (dC, dI) vwCl [(sb, .inr (1, [.ref b, .int 0, .int 0, .int 0])), (b, .inl (cB, 16, .inl zi))] s.heap := hP
  have hK : va_K (dC, dI) vwCl [(cB, .byte)] s := hK
  have hl := lv_entry ([.ref sb, .ref jk]) (n := 2) (Nat.le_of_ble_eq_true rfl)
  rw [lg_entry_eq]
  generalize (lg_sl ([.ref sb, .ref jk]) ++ List.replicate (2 - (lg_sl ([.ref sb, .ref jk])).length) Slot.unset).toArray = ls at hl ⊢
  have hl : lv_has ls 2 [(0, .ref sb), (1, .ref jk)] := hl
  refine lv_aload_n hx hb dJ4_append_15ec4_0 rfl (lv_at hl 0 rfl) ?_
  refine lv_aload_n hx hb dJ4_append_15ec4_1 rfl (lv_at hl 1 rfl) ?_
  have hPc := hP.sub (ws' := [(sb, .inr (1, [.ref b, .int 0, .int 0, .int 0])), (b, .inl (cB, 16, .inl zi))]) [0, 1] rfl
  have hDc := hD.sub (ws' := [(sb, .inr (1, [.ref b, .int 0, .int 0, .int 0])), (b, .inl (cB, 16, .inl zi))]) [0, 1] (by decide) rfl
  have hKc := hK.sub (tys' := [(cB, .byte)]) [0] rfl
  have hFc := va_free (wc := [(sb, .inr (1, [.ref b, .int 0, .int 0, .int 0])), (b, .inl (cB, 16, .inl zi))]) hD hS hA [0, 1] rfl
  refine va_callr (va_runSU (hK.1 1 _ rfl).2 (As := [.ref jk]) (rest := []) ⟨hx, hb, hml, hown, hts⟩ (c_J5_append_cf1ce l dC dI jk jv jo jt sb b cB _ ) (va_cwSU (y := yJ5_append_cf1ce) 1 hts (show GoodIn wsJ4_append_15ec4 (va_wsSU RJ4 29 yJ5_append_cf1ce wsJ5_append_cf1ce) from goodIn_app (goodIn_of _ (by decide +kernel)) ggJ4_append_15ec4_J5_append_cf1ce) rfl rfl rfl (by decide +kernel) ⟨Nat.le_of_ble_eq_true rfl, Nat.le_of_ble_eq_true rfl⟩) ⟨pe_blind jd_bl, va_recv hKc hPc (ci := 1) (q0 := 0) rfl rfl, fun U hU hW => ⟨rfl, pr_mk hU hW hPc hKc hDc, jd_mk hU hW hS hFc hXs⟩⟩ rfl rfl hl.1 rfl (lv_room (Nat.le_of_ble_eq_true rfl)) dJ4_append_15ec4_2 ⟨Nat.le_of_ble_eq_true rfl, Nat.le_of_ble_eq_true rfl⟩) hS (fun q _ h => hFc q h) hFc (fun u_1 r_2 t H1 locs ht hvm hw hB hz1 hk1 hS => ?_)
  obtain ⟨hrb, hP1, hK1, hD1⟩ := hB
  have hrb := hrb.symm
  subst hrb
  have hw9 := hw
  rw [ht] at hP1
  obtain ⟨hP, hD⟩ := va_join (wr := []) (w1 := [(sb, .inr (1, [.ref b, .int 0, .int 0, .int 0])), (b, .inl (cB, 16, .inl zi))]) hP hD [0, 1] [] rfl rfl (by decide) (by decide) hk1 hFc hP1 hD1
  generalize H1 = H at hP hS ⊢
  have hP : va_P (dC, dI) vwCl [(sb, .inr (1, [.ref b, .int 0, .int 0, .int 0])), (b, .inl (cB, 16, .inl zi))] H := hP
  have hD : va_D A [(sb, .inr (1, [.ref b, .int 0, .int 0, .int 0])), (b, .inl (cB, 16, .inl zi))] := hD
  refine W.widen (k := 0) (n := 0) (Nat.le_refl _) (Nat.le_refl _) ?_
  refine lv_pop hx hb dJ4_append_15ec4_5 rfl ?_
  refine lv_aload_n hx hb dJ4_append_15ec4_6 rfl (lv_at hl 0 rfl) ?_
  have hP9 := hP.sub (ws' := [(sb, .inr (1, [.ref b, .int 0, .int 0, .int 0])), (b, .inl (cB, 16, .inl zi))]) [0, 1] rfl
  have hD9 := hD.sub (ws' := [(sb, .inr (1, [.ref b, .int 0, .int 0, .int 0])), (b, .inl (cB, 16, .inl zi))]) [0, 1] (by decide) rfl
  have hK9 := hK.sub (tys' := [(cB, .byte)]) [0] rfl
  refine W.widen (k := 0) (n := 0) (Nat.le_of_ble_eq_true rfl) (Nat.le_of_ble_eq_true rfl) ?_
  exact W.aret (v := .ref sb) (rt := (.object "java/lang/StringBuilder")) hx hb hr (Or.inl ⟨_, rfl⟩) (Or.inr ⟨_, rfl⟩) (fun t ht hW => ⟨⟨(), sb, rfl, trivial, ⟨rfl, po_mk ht hW hP9 hK9 hD9⟩⟩, hS.F ht⟩) hS.2.2 dJ4_append_15ec4_7

set_option maxHeartbeats 4000000 in
set_option maxRecDepth 100000 in
theorem c_J6_stringSize_0f7a4 (l : Launch) (dC : Nat → ClassId) (dI : Nat → Nat → Nat) (x : Nat) (n : Nat) (sz : Nat) (hd : Dg x n) : Met l yJ6_stringSize_0f7a4 wsJ6_stringSize_0f7a4 ({ frames := 2, cells := 0, slots := 0, locals := 40 }) (va_Pc [.int (nI x)] (pr_ dC dI [] [] sz)) (va_Qi (fun (r : Int32) (_ : Unit) => r = nI n) (fun (_ : Unit) t => po_ dC dI [] [] (va_A [] sz) t) (va_A [] sz)) 0 0 (va_A [] sz) := by
  refine Met.ofW (cc := cJ6_stringSize_0f7a4) (maxL := 4) (ret := (some .int)) (by decide) rfl ?_
  intro p e s m args below meth c s₁ B hml hv
  obtain ⟨rfl, hsz, hP, hK, hD0⟩ := hv
  have hx := B.exec
  have hb := B.bytes
  have hr := B.returns
  have hts := atoms_spec (ws := wsJ6_stringSize_0f7a4) B.pre
  have hown : s.vm.findClass RJ6 = some m.cls := findClass_of_methodNamed B.named
  have hlocks := B.notSynchronized
  subst hsz
  have hD := hD0.self (sz := s.heap.size)
  have hn1 : 1 ≤ n := hd.1
  have hn6 : n ≤ 6 := hd.2.1
  have hx6 : x < 1000000 := dg_x hd
  have hx1 : 1 ≤ x := dg_1 hd
  generalize hAe : va_A [] s.heap.size = A at hD ⊢
  have hA : ∀ q : Nat, s.heap.size ≤ q → A q := fun q h => by rw [← hAe]; exact Or.inr h
  have hS : va_S A s.heap s.heap [] := va_S.rf
  have hP : va_P (dC, dI) vwCl [] s.heap := hP
  have hK : va_K (dC, dI) vwCl [] s := hK
  have hl := lv_entry ([.int (nI x)]) (n := 4) (Nat.le_of_ble_eq_true rfl)
  rw [lg_entry_eq]
  generalize (lg_sl ([.int (nI x)]) ++ List.replicate (4 - (lg_sl ([.int (nI x)])).length) Slot.unset).toArray = ls at hl ⊢
  have hl : lv_has ls 4 [(0, .int (nI x))] := hl
  refine lv_iconst (v := 1) hx hb dJ6_stringSize_0f7a4_0 (by decide) ?_
  refine lv_istore_n (lv' := [(1, .int 1), (0, .int (nI x))]) hx hb dJ6_stringSize_0f7a4_1 rfl hl (by decide) rfl (fun ls hl => ?_)
  refine lv_iload_n hx hb dJ6_stringSize_0f7a4_2 rfl (lv_at hl 1 rfl) ?_
  refine lv_if_lt (tgt := 11) hx hb dJ6_stringSize_0f7a4_3 (by decide) (fun h9 => ((nI_pos (by omega)) h9).elim) (fun _ => ?_)
  refine lv_iconst (v := 0) hx hb dJ6_stringSize_0f7a4_6 (by decide) ?_
  refine lv_istore_n (lv' := [(1, .int 0), (0, .int (nI x))]) hx hb dJ6_stringSize_0f7a4_7 rfl hl (by decide) rfl (fun ls hl => ?_)
  refine lv_iload_n hx hb dJ6_stringSize_0f7a4_8 rfl (lv_at hl 1 rfl) ?_
  refine lv_ineg hx hb dJ6_stringSize_0f7a4_9 ?_
  refine lv_istore_n (lv' := [(0, .int (-nI x)), (1, .int 0)]) hx hb dJ6_stringSize_0f7a4_10 rfl hl (by decide) rfl (fun ls hl => ?_)
  refine lv_bipush (v := (-10)) hx hb dJ6_stringSize_0f7a4_11 (by decide) ?_
  refine lv_istore_n (lv' := [(2, .int (-10)), (0, .int (-nI x)), (1, .int 0)]) hx hb dJ6_stringSize_0f7a4_13 rfl hl (by decide) rfl (fun ls hl => ?_)
  refine lv_iconst (v := 1) hx hb dJ6_stringSize_0f7a4_14 (by decide) ?_
  refine lv_istore_n (lv' := [(3, .int 1), (2, .int (-10)), (0, .int (-nI x)), (1, .int 0)]) hx hb dJ6_stringSize_0f7a4_15 rfl hl (by decide) rfl (fun ls hl => ?_)
  refine lv_iload_n hx hb dJ6_stringSize_0f7a4_16 rfl (lv_at hl 0 rfl) ?_
  refine lv_bipush (v := 10) hx hb dJ6_stringSize_0f7a4_17 (by decide) ?_
  refine lv_icmp_ge (tgt := 42) hx hb dJ6_stringSize_0f7a4_19 (by decide) (fun h9 => absurd h9 (by decide)) (fun _ => ?_)
  refine lv_iload_n hx hb dJ6_stringSize_0f7a4_22 rfl (lv_at hl 2 rfl) ?_
  refine lv_iload_n hx hb dJ6_stringSize_0f7a4_23 rfl (lv_at hl 1 rfl) ?_
  refine lv_icmp_le (tgt := 31) hx hb dJ6_stringSize_0f7a4_24 (by decide) (fun hc_1 => ?_) (fun hc_1 => ?_)
  · refine lv_bipush (v := 10) hx hb dJ6_stringSize_0f7a4_31 (by decide) ?_
    refine lv_iload_n hx hb dJ6_stringSize_0f7a4_33 rfl (lv_at hl 1 rfl) ?_
    refine lv_imul hx hb dJ6_stringSize_0f7a4_34 ?_
    refine lv_topi (fun y_2 ey_2 => ?_)
    obtain rfl : y_2 = (-100) := ey_2.trans (by decide)
    refine lv_istore_n (lv' := [(2, .int (-100)), (3, .int 1), (0, .int (-nI x)), (1, .int 0)]) hx hb dJ6_stringSize_0f7a4_35 rfl hl (by decide) rfl (fun ls hl => ?_)
    refine lv_iinc (k := 1) (v := 2) (lv' := [(3, .int 2), (2, .int (-100)), (0, .int (-nI x)), (1, .int 0)]) hx hb dJ6_stringSize_0f7a4_36 hl rfl (by decide) (by decide) rfl (fun ls hl => ?_)
    refine lv_goto (tgt := 16) hx hb dJ6_stringSize_0f7a4_39 (by decide) ?_
    refine lv_iload_n hx hb dJ6_stringSize_0f7a4_16 rfl (lv_at hl 0 rfl) ?_
    refine lv_bipush (v := 10) hx hb dJ6_stringSize_0f7a4_17 (by decide) ?_
    refine lv_icmp_ge (tgt := 42) hx hb dJ6_stringSize_0f7a4_19 (by decide) (fun h9 => absurd h9 (by decide)) (fun _ => ?_)
    refine lv_iload_n hx hb dJ6_stringSize_0f7a4_22 rfl (lv_at hl 2 rfl) ?_
    refine lv_iload_n hx hb dJ6_stringSize_0f7a4_23 rfl (lv_at hl 1 rfl) ?_
    refine lv_icmp_le (tgt := 31) hx hb dJ6_stringSize_0f7a4_24 (by decide) (fun hc_3 => ?_) (fun hc_3 => ?_)
    · refine lv_bipush (v := 10) hx hb dJ6_stringSize_0f7a4_31 (by decide) ?_
      refine lv_iload_n hx hb dJ6_stringSize_0f7a4_33 rfl (lv_at hl 1 rfl) ?_
      refine lv_imul hx hb dJ6_stringSize_0f7a4_34 ?_
      refine lv_topi (fun y_4 ey_4 => ?_)
      obtain rfl : y_4 = (-1000) := ey_4.trans (by decide)
      refine lv_istore_n (lv' := [(2, .int (-1000)), (3, .int 2), (0, .int (-nI x)), (1, .int 0)]) hx hb dJ6_stringSize_0f7a4_35 rfl hl (by decide) rfl (fun ls hl => ?_)
      refine lv_iinc (k := 1) (v := 3) (lv' := [(3, .int 3), (2, .int (-1000)), (0, .int (-nI x)), (1, .int 0)]) hx hb dJ6_stringSize_0f7a4_36 hl rfl (by decide) (by decide) rfl (fun ls hl => ?_)
      refine lv_goto (tgt := 16) hx hb dJ6_stringSize_0f7a4_39 (by decide) ?_
      refine lv_iload_n hx hb dJ6_stringSize_0f7a4_16 rfl (lv_at hl 0 rfl) ?_
      refine lv_bipush (v := 10) hx hb dJ6_stringSize_0f7a4_17 (by decide) ?_
      refine lv_icmp_ge (tgt := 42) hx hb dJ6_stringSize_0f7a4_19 (by decide) (fun h9 => absurd h9 (by decide)) (fun _ => ?_)
      refine lv_iload_n hx hb dJ6_stringSize_0f7a4_22 rfl (lv_at hl 2 rfl) ?_
      refine lv_iload_n hx hb dJ6_stringSize_0f7a4_23 rfl (lv_at hl 1 rfl) ?_
      refine lv_icmp_le (tgt := 31) hx hb dJ6_stringSize_0f7a4_24 (by decide) (fun hc_5 => ?_) (fun hc_5 => ?_)
      · refine lv_bipush (v := 10) hx hb dJ6_stringSize_0f7a4_31 (by decide) ?_
        refine lv_iload_n hx hb dJ6_stringSize_0f7a4_33 rfl (lv_at hl 1 rfl) ?_
        refine lv_imul hx hb dJ6_stringSize_0f7a4_34 ?_
        refine lv_topi (fun y_6 ey_6 => ?_)
        obtain rfl : y_6 = (-10000) := ey_6.trans (by decide)
        refine lv_istore_n (lv' := [(2, .int (-10000)), (3, .int 3), (0, .int (-nI x)), (1, .int 0)]) hx hb dJ6_stringSize_0f7a4_35 rfl hl (by decide) rfl (fun ls hl => ?_)
        refine lv_iinc (k := 1) (v := 4) (lv' := [(3, .int 4), (2, .int (-10000)), (0, .int (-nI x)), (1, .int 0)]) hx hb dJ6_stringSize_0f7a4_36 hl rfl (by decide) (by decide) rfl (fun ls hl => ?_)
        refine lv_goto (tgt := 16) hx hb dJ6_stringSize_0f7a4_39 (by decide) ?_
        refine lv_iload_n hx hb dJ6_stringSize_0f7a4_16 rfl (lv_at hl 0 rfl) ?_
        refine lv_bipush (v := 10) hx hb dJ6_stringSize_0f7a4_17 (by decide) ?_
        refine lv_icmp_ge (tgt := 42) hx hb dJ6_stringSize_0f7a4_19 (by decide) (fun h9 => absurd h9 (by decide)) (fun _ => ?_)
        refine lv_iload_n hx hb dJ6_stringSize_0f7a4_22 rfl (lv_at hl 2 rfl) ?_
        refine lv_iload_n hx hb dJ6_stringSize_0f7a4_23 rfl (lv_at hl 1 rfl) ?_
        refine lv_icmp_le (tgt := 31) hx hb dJ6_stringSize_0f7a4_24 (by decide) (fun hc_7 => ?_) (fun hc_7 => ?_)
        · refine lv_bipush (v := 10) hx hb dJ6_stringSize_0f7a4_31 (by decide) ?_
          refine lv_iload_n hx hb dJ6_stringSize_0f7a4_33 rfl (lv_at hl 1 rfl) ?_
          refine lv_imul hx hb dJ6_stringSize_0f7a4_34 ?_
          refine lv_topi (fun y_8 ey_8 => ?_)
          obtain rfl : y_8 = (-100000) := ey_8.trans (by decide)
          refine lv_istore_n (lv' := [(2, .int (-100000)), (3, .int 4), (0, .int (-nI x)), (1, .int 0)]) hx hb dJ6_stringSize_0f7a4_35 rfl hl (by decide) rfl (fun ls hl => ?_)
          refine lv_iinc (k := 1) (v := 5) (lv' := [(3, .int 5), (2, .int (-100000)), (0, .int (-nI x)), (1, .int 0)]) hx hb dJ6_stringSize_0f7a4_36 hl rfl (by decide) (by decide) rfl (fun ls hl => ?_)
          refine lv_goto (tgt := 16) hx hb dJ6_stringSize_0f7a4_39 (by decide) ?_
          refine lv_iload_n hx hb dJ6_stringSize_0f7a4_16 rfl (lv_at hl 0 rfl) ?_
          refine lv_bipush (v := 10) hx hb dJ6_stringSize_0f7a4_17 (by decide) ?_
          refine lv_icmp_ge (tgt := 42) hx hb dJ6_stringSize_0f7a4_19 (by decide) (fun h9 => absurd h9 (by decide)) (fun _ => ?_)
          refine lv_iload_n hx hb dJ6_stringSize_0f7a4_22 rfl (lv_at hl 2 rfl) ?_
          refine lv_iload_n hx hb dJ6_stringSize_0f7a4_23 rfl (lv_at hl 1 rfl) ?_
          refine lv_icmp_le (tgt := 31) hx hb dJ6_stringSize_0f7a4_24 (by decide) (fun hc_9 => ?_) (fun hc_9 => ?_)
          · refine lv_bipush (v := 10) hx hb dJ6_stringSize_0f7a4_31 (by decide) ?_
            refine lv_iload_n hx hb dJ6_stringSize_0f7a4_33 rfl (lv_at hl 1 rfl) ?_
            refine lv_imul hx hb dJ6_stringSize_0f7a4_34 ?_
            refine lv_topi (fun y_10 ey_10 => ?_)
            obtain rfl : y_10 = (-1000000) := ey_10.trans (by decide)
            refine lv_istore_n (lv' := [(2, .int (-1000000)), (3, .int 5), (0, .int (-nI x)), (1, .int 0)]) hx hb dJ6_stringSize_0f7a4_35 rfl hl (by decide) rfl (fun ls hl => ?_)
            refine lv_iinc (k := 1) (v := 6) (lv' := [(3, .int 6), (2, .int (-1000000)), (0, .int (-nI x)), (1, .int 0)]) hx hb dJ6_stringSize_0f7a4_36 hl rfl (by decide) (by decide) rfl (fun ls hl => ?_)
            refine lv_goto (tgt := 16) hx hb dJ6_stringSize_0f7a4_39 (by decide) ?_
            refine lv_iload_n hx hb dJ6_stringSize_0f7a4_16 rfl (lv_at hl 0 rfl) ?_
            refine lv_bipush (v := 10) hx hb dJ6_stringSize_0f7a4_17 (by decide) ?_
            refine lv_icmp_ge (tgt := 42) hx hb dJ6_stringSize_0f7a4_19 (by decide) (fun h9 => absurd h9 (by decide)) (fun _ => ?_)
            refine lv_iload_n hx hb dJ6_stringSize_0f7a4_22 rfl (lv_at hl 2 rfl) ?_
            refine lv_iload_n hx hb dJ6_stringSize_0f7a4_23 rfl (lv_at hl 1 rfl) ?_
            refine lv_icmp_le (tgt := 31) hx hb dJ6_stringSize_0f7a4_24 (by decide) (fun h9 => ((ng_le (a := x) (b := 1000000) (by omega) (by decide) (by omega)) h9).elim) (fun _ => ?_)
            refine lv_iload_n hx hb dJ6_stringSize_0f7a4_27 rfl (lv_at hl 0 rfl) ?_
            refine lv_iload_n hx hb dJ6_stringSize_0f7a4_28 rfl (lv_at hl 3 rfl) ?_
            refine lv_iadd hx hb dJ6_stringSize_0f7a4_29 ?_
            refine lv_topi (fun y_11 ey_11 => ?_)
            obtain rfl : y_11 = 6 := ey_11.trans (by decide)
            have hP9 := hP.sub (ws' := []) [] rfl
            have hD9 := hD.sub (ws' := []) [] (by decide) rfl
            have hK9 := hK.sub (tys' := []) [] rfl
            refine W.widen (k := 0) (n := 0) (Nat.le_of_ble_eq_true rfl) (Nat.le_of_ble_eq_true rfl) ?_
            have hk9 : n = 6 := by
              have hc_19 :  10 ≤ x := (sb_nle (a := x) (b := 10) (by omega) (by decide)).mp hc_1
              have hc_39 :  100 ≤ x := (sb_nle (a := x) (b := 100) (by omega) (by decide)).mp hc_3
              have hc_59 :  1000 ≤ x := (sb_nle (a := x) (b := 1000) (by omega) (by decide)).mp hc_5
              have hc_79 :  10000 ≤ x := (sb_nle (a := x) (b := 10000) (by omega) (by decide)).mp hc_7
              have hc_99 :  100000 ≤ x := (sb_nle (a := x) (b := 100000) (by omega) (by decide)).mp hc_9
              exact dg_n hd ⟨by decide, by show 100000 ≤ x; omega⟩ (by show x < 1000000; omega)
            exact W.iret (v := 6) hx hb hr (fun t ht hW => ⟨⟨6, (), rfl, (by rw [hk9]; rfl), po_mk ht hW hP9 hK9 hD9⟩, hS.F ht⟩) hS.2.2 dJ6_stringSize_0f7a4_30
          · refine lv_iload_n hx hb dJ6_stringSize_0f7a4_27 rfl (lv_at hl 0 rfl) ?_
            refine lv_iload_n hx hb dJ6_stringSize_0f7a4_28 rfl (lv_at hl 3 rfl) ?_
            refine lv_iadd hx hb dJ6_stringSize_0f7a4_29 ?_
            refine lv_topi (fun y_12 ey_12 => ?_)
            obtain rfl : y_12 = 5 := ey_12.trans (by decide)
            have hP9 := hP.sub (ws' := []) [] rfl
            have hD9 := hD.sub (ws' := []) [] (by decide) rfl
            have hK9 := hK.sub (tys' := []) [] rfl
            refine W.widen (k := 0) (n := 0) (Nat.le_of_ble_eq_true rfl) (Nat.le_of_ble_eq_true rfl) ?_
            have hk9 : n = 5 := by
              have hc_19 :  10 ≤ x := (sb_nle (a := x) (b := 10) (by omega) (by decide)).mp hc_1
              have hc_39 :  100 ≤ x := (sb_nle (a := x) (b := 100) (by omega) (by decide)).mp hc_3
              have hc_59 :  1000 ≤ x := (sb_nle (a := x) (b := 1000) (by omega) (by decide)).mp hc_5
              have hc_79 :  10000 ≤ x := (sb_nle (a := x) (b := 10000) (by omega) (by decide)).mp hc_7
              have hc_99 : ¬ 100000 ≤ x := fun h8 => hc_9 ((sb_nle (a := x) (b := 100000) (by omega) (by decide)).mpr h8)
              exact dg_n hd ⟨by decide, by show 10000 ≤ x; omega⟩ (by show x < 100000; omega)
            exact W.iret (v := 5) hx hb hr (fun t ht hW => ⟨⟨5, (), rfl, (by rw [hk9]; rfl), po_mk ht hW hP9 hK9 hD9⟩, hS.F ht⟩) hS.2.2 dJ6_stringSize_0f7a4_30
        · refine lv_iload_n hx hb dJ6_stringSize_0f7a4_27 rfl (lv_at hl 0 rfl) ?_
          refine lv_iload_n hx hb dJ6_stringSize_0f7a4_28 rfl (lv_at hl 3 rfl) ?_
          refine lv_iadd hx hb dJ6_stringSize_0f7a4_29 ?_
          refine lv_topi (fun y_13 ey_13 => ?_)
          obtain rfl : y_13 = 4 := ey_13.trans (by decide)
          have hP9 := hP.sub (ws' := []) [] rfl
          have hD9 := hD.sub (ws' := []) [] (by decide) rfl
          have hK9 := hK.sub (tys' := []) [] rfl
          refine W.widen (k := 0) (n := 0) (Nat.le_of_ble_eq_true rfl) (Nat.le_of_ble_eq_true rfl) ?_
          have hk9 : n = 4 := by
            have hc_19 :  10 ≤ x := (sb_nle (a := x) (b := 10) (by omega) (by decide)).mp hc_1
            have hc_39 :  100 ≤ x := (sb_nle (a := x) (b := 100) (by omega) (by decide)).mp hc_3
            have hc_59 :  1000 ≤ x := (sb_nle (a := x) (b := 1000) (by omega) (by decide)).mp hc_5
            have hc_79 : ¬ 10000 ≤ x := fun h8 => hc_7 ((sb_nle (a := x) (b := 10000) (by omega) (by decide)).mpr h8)
            exact dg_n hd ⟨by decide, by show 1000 ≤ x; omega⟩ (by show x < 10000; omega)
          exact W.iret (v := 4) hx hb hr (fun t ht hW => ⟨⟨4, (), rfl, (by rw [hk9]; rfl), po_mk ht hW hP9 hK9 hD9⟩, hS.F ht⟩) hS.2.2 dJ6_stringSize_0f7a4_30
      · refine lv_iload_n hx hb dJ6_stringSize_0f7a4_27 rfl (lv_at hl 0 rfl) ?_
        refine lv_iload_n hx hb dJ6_stringSize_0f7a4_28 rfl (lv_at hl 3 rfl) ?_
        refine lv_iadd hx hb dJ6_stringSize_0f7a4_29 ?_
        refine lv_topi (fun y_14 ey_14 => ?_)
        obtain rfl : y_14 = 3 := ey_14.trans (by decide)
        have hP9 := hP.sub (ws' := []) [] rfl
        have hD9 := hD.sub (ws' := []) [] (by decide) rfl
        have hK9 := hK.sub (tys' := []) [] rfl
        refine W.widen (k := 0) (n := 0) (Nat.le_of_ble_eq_true rfl) (Nat.le_of_ble_eq_true rfl) ?_
        have hk9 : n = 3 := by
          have hc_19 :  10 ≤ x := (sb_nle (a := x) (b := 10) (by omega) (by decide)).mp hc_1
          have hc_39 :  100 ≤ x := (sb_nle (a := x) (b := 100) (by omega) (by decide)).mp hc_3
          have hc_59 : ¬ 1000 ≤ x := fun h8 => hc_5 ((sb_nle (a := x) (b := 1000) (by omega) (by decide)).mpr h8)
          exact dg_n hd ⟨by decide, by show 100 ≤ x; omega⟩ (by show x < 1000; omega)
        exact W.iret (v := 3) hx hb hr (fun t ht hW => ⟨⟨3, (), rfl, (by rw [hk9]; rfl), po_mk ht hW hP9 hK9 hD9⟩, hS.F ht⟩) hS.2.2 dJ6_stringSize_0f7a4_30
    · refine lv_iload_n hx hb dJ6_stringSize_0f7a4_27 rfl (lv_at hl 0 rfl) ?_
      refine lv_iload_n hx hb dJ6_stringSize_0f7a4_28 rfl (lv_at hl 3 rfl) ?_
      refine lv_iadd hx hb dJ6_stringSize_0f7a4_29 ?_
      refine lv_topi (fun y_15 ey_15 => ?_)
      obtain rfl : y_15 = 2 := ey_15.trans (by decide)
      have hP9 := hP.sub (ws' := []) [] rfl
      have hD9 := hD.sub (ws' := []) [] (by decide) rfl
      have hK9 := hK.sub (tys' := []) [] rfl
      refine W.widen (k := 0) (n := 0) (Nat.le_of_ble_eq_true rfl) (Nat.le_of_ble_eq_true rfl) ?_
      have hk9 : n = 2 := by
        have hc_19 :  10 ≤ x := (sb_nle (a := x) (b := 10) (by omega) (by decide)).mp hc_1
        have hc_39 : ¬ 100 ≤ x := fun h8 => hc_3 ((sb_nle (a := x) (b := 100) (by omega) (by decide)).mpr h8)
        exact dg_n hd ⟨by decide, by show 10 ≤ x; omega⟩ (by show x < 100; omega)
      exact W.iret (v := 2) hx hb hr (fun t ht hW => ⟨⟨2, (), rfl, (by rw [hk9]; rfl), po_mk ht hW hP9 hK9 hD9⟩, hS.F ht⟩) hS.2.2 dJ6_stringSize_0f7a4_30
  · refine lv_iload_n hx hb dJ6_stringSize_0f7a4_27 rfl (lv_at hl 0 rfl) ?_
    refine lv_iload_n hx hb dJ6_stringSize_0f7a4_28 rfl (lv_at hl 3 rfl) ?_
    refine lv_iadd hx hb dJ6_stringSize_0f7a4_29 ?_
    refine lv_topi (fun y_16 ey_16 => ?_)
    obtain rfl : y_16 = 1 := ey_16.trans (by decide)
    have hP9 := hP.sub (ws' := []) [] rfl
    have hD9 := hD.sub (ws' := []) [] (by decide) rfl
    have hK9 := hK.sub (tys' := []) [] rfl
    refine W.widen (k := 0) (n := 0) (Nat.le_of_ble_eq_true rfl) (Nat.le_of_ble_eq_true rfl) ?_
    have hk9 : n = 1 := by
      have hc_19 : ¬ 10 ≤ x := fun h8 => hc_1 ((sb_nle (a := x) (b := 10) (by omega) (by decide)).mpr h8)
      exact dg_n hd ⟨by decide, by show 1 ≤ x; omega⟩ (by show x < 10; omega)
    exact W.iret (v := 1) hx hb hr (fun t ht hW => ⟨⟨1, (), rfl, (by rw [hk9]; rfl), po_mk ht hW hP9 hK9 hD9⟩, hS.F ht⟩) hS.2.2 dJ6_stringSize_0f7a4_30

theorem gc1 {x : Nat} (hxl : 1 ≤ x) (hxh : x < 10) : upd zi 0 (nI (48 + x % 10)) = gcF x 1 := by
  funext j
  unfold gcF dgt
  by_cases hj : j < 1
  · rw [if_pos hj]
    have hj9 : j = 0 := by omega
    rcases hj9 with rfl
    · exact congrArg (fun t => nI (48 + t)) (show x % 10 = x / 1 % 10 by omega)
  · rw [if_neg hj, pk_un (by omega)]
    rfl

set_option maxHeartbeats 4000000 in
set_option maxRecDepth 100000 in
theorem c_J6_getChars_1 (l : Launch) (dC : Nat → ClassId) (dI : Nat → Nat → Nat) (jk : Nat) (jv : Nat) (jo : Nat) (jt : Nat) (x : Nat) (b : Nat) (cB : ClassId) (sz : Nat) (hxl : 1 ≤ x) (hxh : x < 10) : Met l yJ6_getChars_ba4f3 wsJ6_getChars_ba4f3 ({ frames := 2, cells := 0, slots := 0, locals := 40 }) (va_Pc [.int (nI x), .int 1, .ref b] (fun U => pr_ dC dI [(b, .inl (cB, 16, .inl zi))] [(cB, .byte)] sz U ∧ jd_ (va_A [(b, .inl (cB, 16, .inl zi))] sz) jk jv jo jt U)) (va_Qi (fun (r : Int32) (_ : Unit) => r = 0) (fun (_ : Unit) t => po_ dC dI [(b, .inl (cB, 16, .inl (gcF x 1)))] [(cB, .byte)] (va_A [(b, .inl (cB, 16, .inl zi))] sz) t) (va_A [(b, .inl (cB, 16, .inl zi))] sz)) 0 0 (va_A [(b, .inl (cB, 16, .inl zi))] sz) := by
  refine Met.ofW (cc := cJ6_getChars_ba4f3) (maxL := 7) (ret := (some .int)) (by decide) rfl ?_
  intro p e s m args below meth c s₁ B hml hv
  obtain ⟨rfl, ⟨hsz, hP, hK, hD0⟩, hXs⟩ := hv
  have hx := B.exec
  have hb := B.bytes
  have hr := B.returns
  have hts := atoms_spec (ws := wsJ6_getChars_ba4f3) B.pre
  have hown : s.vm.findClass RJ6 = some m.cls := findClass_of_methodNamed B.named
  have hlocks := B.notSynchronized
  subst hsz
  have hD := hD0.self (sz := s.heap.size)
  generalize hAe : va_A [(b, .inl (cB, 16, .inl zi))] s.heap.size = A at hD hXs ⊢
  have hA : ∀ q : Nat, s.heap.size ≤ q → A q := fun q h => by rw [← hAe]; exact Or.inr h
  have hS : va_S A s.heap s.heap [] := va_S.rf
  have hP : va_P (dC, dI) vwCl [(b, .inl (cB, 16, .inl zi))] s.heap := hP
  have hK : va_K (dC, dI) vwCl [(cB, .byte)] s := hK
  have hl := lv_entry ([.int (nI x), .int 1, .ref b]) (n := 7) (Nat.le_of_ble_eq_true rfl)
  rw [lg_entry_eq]
  generalize (lg_sl ([.int (nI x), .int 1, .ref b]) ++ List.replicate (7 - (lg_sl ([.int (nI x), .int 1, .ref b])).length) Slot.unset).toArray = ls at hl ⊢
  have hl : lv_has ls 7 [(0, .int (nI x)), (1, .int 1), (2, .ref b)] := hl
  refine lv_iload_n hx hb dJ6_getChars_ba4f3_0 rfl (lv_at hl 1 rfl) ?_
  refine lv_istore (lv' := [(5, .int 1), (0, .int (nI x)), (1, .int 1), (2, .ref b)]) hx hb dJ6_getChars_ba4f3_1 hl (by decide) rfl (fun ls hl => ?_)
  refine lv_iload_n hx hb dJ6_getChars_ba4f3_3 rfl (lv_at hl 1 rfl) ?_
  refine lv_if_ge (tgt := 11) hx hb dJ6_getChars_ba4f3_4 (by decide) (fun _ => ?_) (fun h9 => (h9 (nI_pos' (by omega))).elim)
  refine lv_iconst (v := 0) hx hb dJ6_getChars_ba4f3_11 (by decide) ?_
  refine lv_istore (lv' := [(6, .int 0), (5, .int 1), (0, .int (nI x)), (1, .int 1), (2, .ref b)]) hx hb dJ6_getChars_ba4f3_12 hl (by decide) rfl (fun ls hl => ?_)
  refine lv_iload hx hb dJ6_getChars_ba4f3_14 (lv_at hl 0 rfl) ?_
  refine lv_if_ne (tgt := 22) hx hb dJ6_getChars_ba4f3_16 (by decide) (fun h9 => absurd h9 (by decide)) (fun _ => ?_)
  refine lv_iload_n hx hb dJ6_getChars_ba4f3_19 rfl (lv_at hl 2 rfl) ?_
  refine lv_ineg hx hb dJ6_getChars_ba4f3_20 ?_
  refine lv_istore_n (lv' := [(0, .int (-nI x)), (6, .int 0), (5, .int 1), (1, .int 1), (2, .ref b)]) hx hb dJ6_getChars_ba4f3_21 rfl hl (by decide) rfl (fun ls hl => ?_)
  refine lv_iload_n hx hb dJ6_getChars_ba4f3_22 rfl (lv_at hl 0 rfl) ?_
  refine lv_bipush (v := (-100)) hx hb dJ6_getChars_ba4f3_23 (by decide) ?_
  refine lv_icmp_gt (tgt := 72) hx hb dJ6_getChars_ba4f3_25 (by decide) (fun _ => ?_) (fun h9 => (h9 ((sb_nlt (a := 100) (b := x) (by decide) (by omega)).mpr (by omega))).elim)
  refine lv_aload_n hx hb dJ6_getChars_ba4f3_72 rfl (lv_at hl 4 rfl) ?_
  refine lv_iinc (k := 2) (v := 0) (lv' := [(5, .int 0), (0, .int (-nI x)), (6, .int 0), (1, .int 1), (2, .ref b)]) hx hb dJ6_getChars_ba4f3_73 hl rfl (by decide) (by decide) rfl (fun ls hl => ?_)
  refine lv_iload hx hb dJ6_getChars_ba4f3_76 (lv_at hl 0 rfl) ?_
  refine va_gets hx hb (jd_o hXs) hS hown (hts (.fieldLink RJ6 83 "java/lang/Integer" "DigitOnes" "[B") (by decide +kernel)) (fun _ h9 => h9) dJ6_getChars_ba4f3_78 ?_
  refine lv_iload_n hx hb dJ6_getChars_ba4f3_81 rfl (lv_at hl 1 rfl) ?_
  refine lv_ineg hx hb dJ6_getChars_ba4f3_82 ?_
  refine lv_topi (fun y_1 ey_1 => ?_)
  obtain rfl : y_1 = nI x := ey_1.trans (Int32.neg_neg)
  refine va_tb (v := .int (nI (48 + x % 10))) hx hb (jd_ot hXs) hS (vp_in_nI (by omega) (by decide)) (by show Value.int _ = _; rw [nI_clamp (by omega)]) dJ6_getChars_ba4f3_83 ?_
  refine va_bast hx hb hK hP hD hS 0 0 rfl rfl (by unfold vp_in; decide) dJ6_getChars_ba4f3_84 (fun H locs hP hD hS => ?_)
  have hP : va_P (dC, dI) vwCl [(b, .inl (cB, 16, .inl (upd zi 0 (nI (48 + x % 10)))))] H := by have h9 := hP; rw [show (0 : Int32).toNatClampNeg = 0 from by decide, jnb (by omega)] at h9; exact h9
  have hD : va_D A [(b, .inl (cB, 16, .inl (upd zi 0 (nI (48 + x % 10)))))] := by have h9 := hD; rw [show (0 : Int32).toNatClampNeg = 0 from by decide, jnb (by omega)] at h9; exact h9
  refine lv_iload_n hx hb dJ6_getChars_ba4f3_85 rfl (lv_at hl 1 rfl) ?_
  refine lv_bipush (v := (-9)) hx hb dJ6_getChars_ba4f3_86 (by decide) ?_
  refine lv_icmp_ge (tgt := 104) hx hb dJ6_getChars_ba4f3_88 (by decide) (fun _ => ?_) (fun h9 => (h9 ((sb_nle (a := 9) (b := x) (by decide) (by omega)).mpr (by omega))).elim)
  refine lv_iload hx hb dJ6_getChars_ba4f3_104 (lv_at hl 2 rfl) ?_
  refine lv_if_eq (tgt := 118) hx hb dJ6_getChars_ba4f3_106 (by decide) (fun _ => ?_) (fun h9 => absurd h9 (by decide))
  refine lv_iload hx hb dJ6_getChars_ba4f3_118 (lv_at hl 0 rfl) ?_
  rw [gc1 hxl hxh] at hP hD
  have hP : va_P (dC, dI) vwCl [(b, .inl (cB, 16, .inl (gcF x 1)))] H := hP
  have hD : va_D A [(b, .inl (cB, 16, .inl (gcF x 1)))] := hD
  have hP9 := hP.sub (ws' := [(b, .inl (cB, 16, .inl (gcF x 1)))]) [0] rfl
  have hD9 := hD.sub (ws' := [(b, .inl (cB, 16, .inl (gcF x 1)))]) [0] (by decide) rfl
  have hK9 := hK.sub (tys' := [(cB, .byte)]) [0] rfl
  refine W.widen (k := 0) (n := 0) (Nat.le_of_ble_eq_true rfl) (Nat.le_of_ble_eq_true rfl) ?_
  exact W.iret (v := 0) hx hb hr (fun t ht hW => ⟨⟨0, (), rfl, rfl, po_mk ht hW hP9 hK9 hD9⟩, hS.F ht⟩) hS.2.2 dJ6_getChars_ba4f3_120

theorem gc2 {x : Nat} (hxl : 10 ≤ x) (hxh : x < 100) : upd (upd zi 1 (nI (48 + x % 10))) 0 (nI (48 + x / 10)) = gcF x 2 := by
  funext j
  unfold gcF dgt
  by_cases hj : j < 2
  · rw [if_pos hj]
    have hj9 : j = 0 ∨ j = 1 := by omega
    rcases hj9 with rfl | rfl
    · exact congrArg (fun t => nI (48 + t)) (show x / 10 = x / 10 % 10 by omega)
    · exact congrArg (fun t => nI (48 + t)) (show x % 10 = x / 1 % 10 by omega)
  · rw [if_neg hj, pk_un (by omega), pk_un (by omega)]
    rfl

set_option maxHeartbeats 4000000 in
set_option maxRecDepth 100000 in
theorem c_J6_getChars_2 (l : Launch) (dC : Nat → ClassId) (dI : Nat → Nat → Nat) (jk : Nat) (jv : Nat) (jo : Nat) (jt : Nat) (x : Nat) (b : Nat) (cB : ClassId) (sz : Nat) (hxl : 10 ≤ x) (hxh : x < 100) : Met l yJ6_getChars_ba4f3 wsJ6_getChars_ba4f3 ({ frames := 2, cells := 0, slots := 0, locals := 40 }) (va_Pc [.int (nI x), .int 2, .ref b] (fun U => pr_ dC dI [(b, .inl (cB, 16, .inl zi))] [(cB, .byte)] sz U ∧ jd_ (va_A [(b, .inl (cB, 16, .inl zi))] sz) jk jv jo jt U)) (va_Qi (fun (r : Int32) (_ : Unit) => r = 0) (fun (_ : Unit) t => po_ dC dI [(b, .inl (cB, 16, .inl (gcF x 2)))] [(cB, .byte)] (va_A [(b, .inl (cB, 16, .inl zi))] sz) t) (va_A [(b, .inl (cB, 16, .inl zi))] sz)) 0 0 (va_A [(b, .inl (cB, 16, .inl zi))] sz) := by
  refine Met.ofW (cc := cJ6_getChars_ba4f3) (maxL := 7) (ret := (some .int)) (by decide) rfl ?_
  intro p e s m args below meth c s₁ B hml hv
  obtain ⟨rfl, ⟨hsz, hP, hK, hD0⟩, hXs⟩ := hv
  have hx := B.exec
  have hb := B.bytes
  have hr := B.returns
  have hts := atoms_spec (ws := wsJ6_getChars_ba4f3) B.pre
  have hown : s.vm.findClass RJ6 = some m.cls := findClass_of_methodNamed B.named
  have hlocks := B.notSynchronized
  subst hsz
  have hD := hD0.self (sz := s.heap.size)
  generalize hAe : va_A [(b, .inl (cB, 16, .inl zi))] s.heap.size = A at hD hXs ⊢
  have hA : ∀ q : Nat, s.heap.size ≤ q → A q := fun q h => by rw [← hAe]; exact Or.inr h
  have hS : va_S A s.heap s.heap [] := va_S.rf
  have hP : va_P (dC, dI) vwCl [(b, .inl (cB, 16, .inl zi))] s.heap := hP
  have hK : va_K (dC, dI) vwCl [(cB, .byte)] s := hK
  have hl := lv_entry ([.int (nI x), .int 2, .ref b]) (n := 7) (Nat.le_of_ble_eq_true rfl)
  rw [lg_entry_eq]
  generalize (lg_sl ([.int (nI x), .int 2, .ref b]) ++ List.replicate (7 - (lg_sl ([.int (nI x), .int 2, .ref b])).length) Slot.unset).toArray = ls at hl ⊢
  have hl : lv_has ls 7 [(0, .int (nI x)), (1, .int 2), (2, .ref b)] := hl
  refine lv_iload_n hx hb dJ6_getChars_ba4f3_0 rfl (lv_at hl 1 rfl) ?_
  refine lv_istore (lv' := [(5, .int 2), (0, .int (nI x)), (1, .int 2), (2, .ref b)]) hx hb dJ6_getChars_ba4f3_1 hl (by decide) rfl (fun ls hl => ?_)
  refine lv_iload_n hx hb dJ6_getChars_ba4f3_3 rfl (lv_at hl 1 rfl) ?_
  refine lv_if_ge (tgt := 11) hx hb dJ6_getChars_ba4f3_4 (by decide) (fun _ => ?_) (fun h9 => (h9 (nI_pos' (by omega))).elim)
  refine lv_iconst (v := 0) hx hb dJ6_getChars_ba4f3_11 (by decide) ?_
  refine lv_istore (lv' := [(6, .int 0), (5, .int 2), (0, .int (nI x)), (1, .int 2), (2, .ref b)]) hx hb dJ6_getChars_ba4f3_12 hl (by decide) rfl (fun ls hl => ?_)
  refine lv_iload hx hb dJ6_getChars_ba4f3_14 (lv_at hl 0 rfl) ?_
  refine lv_if_ne (tgt := 22) hx hb dJ6_getChars_ba4f3_16 (by decide) (fun h9 => absurd h9 (by decide)) (fun _ => ?_)
  refine lv_iload_n hx hb dJ6_getChars_ba4f3_19 rfl (lv_at hl 2 rfl) ?_
  refine lv_ineg hx hb dJ6_getChars_ba4f3_20 ?_
  refine lv_istore_n (lv' := [(0, .int (-nI x)), (6, .int 0), (5, .int 2), (1, .int 2), (2, .ref b)]) hx hb dJ6_getChars_ba4f3_21 rfl hl (by decide) rfl (fun ls hl => ?_)
  refine lv_iload_n hx hb dJ6_getChars_ba4f3_22 rfl (lv_at hl 0 rfl) ?_
  refine lv_bipush (v := (-100)) hx hb dJ6_getChars_ba4f3_23 (by decide) ?_
  refine lv_icmp_gt (tgt := 72) hx hb dJ6_getChars_ba4f3_25 (by decide) (fun _ => ?_) (fun h9 => (h9 ((sb_nlt (a := 100) (b := x) (by decide) (by omega)).mpr (by omega))).elim)
  refine lv_aload_n hx hb dJ6_getChars_ba4f3_72 rfl (lv_at hl 4 rfl) ?_
  refine lv_iinc (k := 2) (v := 1) (lv' := [(5, .int 1), (0, .int (-nI x)), (6, .int 0), (1, .int 2), (2, .ref b)]) hx hb dJ6_getChars_ba4f3_73 hl rfl (by decide) (by decide) rfl (fun ls hl => ?_)
  refine lv_iload hx hb dJ6_getChars_ba4f3_76 (lv_at hl 0 rfl) ?_
  refine va_gets hx hb (jd_o hXs) hS hown (hts (.fieldLink RJ6 83 "java/lang/Integer" "DigitOnes" "[B") (by decide +kernel)) (fun _ h9 => h9) dJ6_getChars_ba4f3_78 ?_
  refine lv_iload_n hx hb dJ6_getChars_ba4f3_81 rfl (lv_at hl 1 rfl) ?_
  refine lv_ineg hx hb dJ6_getChars_ba4f3_82 ?_
  refine lv_topi (fun y_1 ey_1 => ?_)
  obtain rfl : y_1 = nI x := ey_1.trans (Int32.neg_neg)
  refine va_tb (v := .int (nI (48 + x % 10))) hx hb (jd_ot hXs) hS (vp_in_nI (by omega) (by decide)) (by show Value.int _ = _; rw [nI_clamp (by omega)]) dJ6_getChars_ba4f3_83 ?_
  refine va_bast hx hb hK hP hD hS 0 0 rfl rfl (by unfold vp_in; decide) dJ6_getChars_ba4f3_84 (fun H locs hP hD hS => ?_)
  have hP : va_P (dC, dI) vwCl [(b, .inl (cB, 16, .inl (upd zi 1 (nI (48 + x % 10)))))] H := by have h9 := hP; rw [show (1 : Int32).toNatClampNeg = 1 from by decide, jnb (by omega)] at h9; exact h9
  have hD : va_D A [(b, .inl (cB, 16, .inl (upd zi 1 (nI (48 + x % 10)))))] := by have h9 := hD; rw [show (1 : Int32).toNatClampNeg = 1 from by decide, jnb (by omega)] at h9; exact h9
  refine lv_iload_n hx hb dJ6_getChars_ba4f3_85 rfl (lv_at hl 1 rfl) ?_
  refine lv_bipush (v := (-9)) hx hb dJ6_getChars_ba4f3_86 (by decide) ?_
  refine lv_icmp_ge (tgt := 104) hx hb dJ6_getChars_ba4f3_88 (by decide) (fun h9 => ((ng_le (a := 9) (b := x) (by decide) (by omega) (by omega)) h9).elim) (fun _ => ?_)
  refine lv_aload_n hx hb dJ6_getChars_ba4f3_91 rfl (lv_at hl 4 rfl) ?_
  refine lv_iinc (k := 0) (v := 0) (lv' := [(5, .int 0), (0, .int (-nI x)), (6, .int 0), (1, .int 2), (2, .ref b)]) hx hb dJ6_getChars_ba4f3_92 hl rfl (by decide) (by decide) rfl (fun ls hl => ?_)
  refine lv_iload hx hb dJ6_getChars_ba4f3_95 (lv_at hl 0 rfl) ?_
  refine va_gets hx hb (jd_t hXs) hS hown (hts (.fieldLink RJ6 87 "java/lang/Integer" "DigitTens" "[B") (by decide +kernel)) (fun _ h9 => h9) dJ6_getChars_ba4f3_97 ?_
  refine lv_iload_n hx hb dJ6_getChars_ba4f3_100 rfl (lv_at hl 1 rfl) ?_
  refine lv_ineg hx hb dJ6_getChars_ba4f3_101 ?_
  refine lv_topi (fun y_2 ey_2 => ?_)
  obtain rfl : y_2 = nI x := ey_2.trans (Int32.neg_neg)
  refine va_tb (v := .int (nI (48 + x / 10))) hx hb (jd_tt hXs) hS (vp_in_nI (by omega) (by decide)) (by show Value.int _ = _; rw [nI_clamp (by omega)]) dJ6_getChars_ba4f3_102 ?_
  refine va_bast hx hb hK hP hD hS 0 0 rfl rfl (by unfold vp_in; decide) dJ6_getChars_ba4f3_103 (fun H locs hP hD hS => ?_)
  have hP : va_P (dC, dI) vwCl [(b, .inl (cB, 16, .inl (upd (upd zi 1 (nI (48 + x % 10))) 0 (nI (48 + x / 10)))))] H := by have h9 := hP; rw [show (0 : Int32).toNatClampNeg = 0 from by decide, jnb (by omega)] at h9; exact h9
  have hD : va_D A [(b, .inl (cB, 16, .inl (upd (upd zi 1 (nI (48 + x % 10))) 0 (nI (48 + x / 10)))))] := by have h9 := hD; rw [show (0 : Int32).toNatClampNeg = 0 from by decide, jnb (by omega)] at h9; exact h9
  refine lv_iload hx hb dJ6_getChars_ba4f3_104 (lv_at hl 2 rfl) ?_
  refine lv_if_eq (tgt := 118) hx hb dJ6_getChars_ba4f3_106 (by decide) (fun _ => ?_) (fun h9 => absurd h9 (by decide))
  refine lv_iload hx hb dJ6_getChars_ba4f3_118 (lv_at hl 0 rfl) ?_
  rw [gc2 hxl hxh] at hP hD
  have hP : va_P (dC, dI) vwCl [(b, .inl (cB, 16, .inl (gcF x 2)))] H := hP
  have hD : va_D A [(b, .inl (cB, 16, .inl (gcF x 2)))] := hD
  have hP9 := hP.sub (ws' := [(b, .inl (cB, 16, .inl (gcF x 2)))]) [0] rfl
  have hD9 := hD.sub (ws' := [(b, .inl (cB, 16, .inl (gcF x 2)))]) [0] (by decide) rfl
  have hK9 := hK.sub (tys' := [(cB, .byte)]) [0] rfl
  refine W.widen (k := 0) (n := 0) (Nat.le_of_ble_eq_true rfl) (Nat.le_of_ble_eq_true rfl) ?_
  exact W.iret (v := 0) hx hb hr (fun t ht hW => ⟨⟨0, (), rfl, rfl, po_mk ht hW hP9 hK9 hD9⟩, hS.F ht⟩) hS.2.2 dJ6_getChars_ba4f3_120

theorem gc3 {x : Nat} (hxl : 100 ≤ x) (hxh : x < 1000) : upd (upd (upd zi 2 (nI (48 + (x % 100) % 10))) 1 (nI (48 + (x % 100) / 10))) 0 (nI (48 + (x / 100) % 10)) = gcF x 3 := by
  funext j
  unfold gcF dgt
  by_cases hj : j < 3
  · rw [if_pos hj]
    have hj9 : j = 0 ∨ j = 1 ∨ j = 2 := by omega
    rcases hj9 with rfl | rfl | rfl
    · exact congrArg (fun t => nI (48 + t)) (show (x / 100) % 10 = x / 100 % 10 by omega)
    · exact congrArg (fun t => nI (48 + t)) (show (x % 100) / 10 = x / 10 % 10 by omega)
    · exact congrArg (fun t => nI (48 + t)) (show (x % 100) % 10 = x / 1 % 10 by omega)
  · rw [if_neg hj, pk_un (by omega), pk_un (by omega), pk_un (by omega)]
    rfl

set_option maxHeartbeats 4000000 in
set_option maxRecDepth 100000 in
theorem c_J6_getChars_3 (l : Launch) (dC : Nat → ClassId) (dI : Nat → Nat → Nat) (jk : Nat) (jv : Nat) (jo : Nat) (jt : Nat) (x : Nat) (b : Nat) (cB : ClassId) (sz : Nat) (hxl : 100 ≤ x) (hxh : x < 1000) : Met l yJ6_getChars_ba4f3 wsJ6_getChars_ba4f3 ({ frames := 2, cells := 0, slots := 0, locals := 40 }) (va_Pc [.int (nI x), .int 3, .ref b] (fun U => pr_ dC dI [(b, .inl (cB, 16, .inl zi))] [(cB, .byte)] sz U ∧ jd_ (va_A [(b, .inl (cB, 16, .inl zi))] sz) jk jv jo jt U)) (va_Qi (fun (r : Int32) (_ : Unit) => r = 0) (fun (_ : Unit) t => po_ dC dI [(b, .inl (cB, 16, .inl (gcF x 3)))] [(cB, .byte)] (va_A [(b, .inl (cB, 16, .inl zi))] sz) t) (va_A [(b, .inl (cB, 16, .inl zi))] sz)) 0 0 (va_A [(b, .inl (cB, 16, .inl zi))] sz) := by
  refine Met.ofW (cc := cJ6_getChars_ba4f3) (maxL := 7) (ret := (some .int)) (by decide) rfl ?_
  intro p e s m args below meth c s₁ B hml hv
  obtain ⟨rfl, ⟨hsz, hP, hK, hD0⟩, hXs⟩ := hv
  have hx := B.exec
  have hb := B.bytes
  have hr := B.returns
  have hts := atoms_spec (ws := wsJ6_getChars_ba4f3) B.pre
  have hown : s.vm.findClass RJ6 = some m.cls := findClass_of_methodNamed B.named
  have hlocks := B.notSynchronized
  subst hsz
  have hD := hD0.self (sz := s.heap.size)
  generalize hAe : va_A [(b, .inl (cB, 16, .inl zi))] s.heap.size = A at hD hXs ⊢
  have hA : ∀ q : Nat, s.heap.size ≤ q → A q := fun q h => by rw [← hAe]; exact Or.inr h
  have hS : va_S A s.heap s.heap [] := va_S.rf
  have hP : va_P (dC, dI) vwCl [(b, .inl (cB, 16, .inl zi))] s.heap := hP
  have hK : va_K (dC, dI) vwCl [(cB, .byte)] s := hK
  have hl := lv_entry ([.int (nI x), .int 3, .ref b]) (n := 7) (Nat.le_of_ble_eq_true rfl)
  rw [lg_entry_eq]
  generalize (lg_sl ([.int (nI x), .int 3, .ref b]) ++ List.replicate (7 - (lg_sl ([.int (nI x), .int 3, .ref b])).length) Slot.unset).toArray = ls at hl ⊢
  have hl : lv_has ls 7 [(0, .int (nI x)), (1, .int 3), (2, .ref b)] := hl
  refine lv_iload_n hx hb dJ6_getChars_ba4f3_0 rfl (lv_at hl 1 rfl) ?_
  refine lv_istore (lv' := [(5, .int 3), (0, .int (nI x)), (1, .int 3), (2, .ref b)]) hx hb dJ6_getChars_ba4f3_1 hl (by decide) rfl (fun ls hl => ?_)
  refine lv_iload_n hx hb dJ6_getChars_ba4f3_3 rfl (lv_at hl 1 rfl) ?_
  refine lv_if_ge (tgt := 11) hx hb dJ6_getChars_ba4f3_4 (by decide) (fun _ => ?_) (fun h9 => (h9 (nI_pos' (by omega))).elim)
  refine lv_iconst (v := 0) hx hb dJ6_getChars_ba4f3_11 (by decide) ?_
  refine lv_istore (lv' := [(6, .int 0), (5, .int 3), (0, .int (nI x)), (1, .int 3), (2, .ref b)]) hx hb dJ6_getChars_ba4f3_12 hl (by decide) rfl (fun ls hl => ?_)
  refine lv_iload hx hb dJ6_getChars_ba4f3_14 (lv_at hl 0 rfl) ?_
  refine lv_if_ne (tgt := 22) hx hb dJ6_getChars_ba4f3_16 (by decide) (fun h9 => absurd h9 (by decide)) (fun _ => ?_)
  refine lv_iload_n hx hb dJ6_getChars_ba4f3_19 rfl (lv_at hl 2 rfl) ?_
  refine lv_ineg hx hb dJ6_getChars_ba4f3_20 ?_
  refine lv_istore_n (lv' := [(0, .int (-nI x)), (6, .int 0), (5, .int 3), (1, .int 3), (2, .ref b)]) hx hb dJ6_getChars_ba4f3_21 rfl hl (by decide) rfl (fun ls hl => ?_)
  refine lv_iload_n hx hb dJ6_getChars_ba4f3_22 rfl (lv_at hl 0 rfl) ?_
  refine lv_bipush (v := (-100)) hx hb dJ6_getChars_ba4f3_23 (by decide) ?_
  refine lv_icmp_gt (tgt := 72) hx hb dJ6_getChars_ba4f3_25 (by decide) (fun h9 => ((ng_lt (a := 100) (b := x) (by decide) (by omega) (by omega)) h9).elim) (fun _ => ?_)
  refine lv_iload_n hx hb dJ6_getChars_ba4f3_28 rfl (lv_at hl 0 rfl) ?_
  refine lv_bipush (v := 100) hx hb dJ6_getChars_ba4f3_29 (by decide) ?_
  refine lv_idiv hx hb dJ6_getChars_ba4f3_31 (by decide) ?_
  refine lv_topi (fun y_1 ey_1 => ?_)
  obtain rfl : y_1 = (-nI (x / 100)) := ey_1.trans (sb_ndiv (by omega))
  refine lv_istore_n (lv' := [(3, .int (-nI (x / 100))), (0, .int (-nI x)), (6, .int 0), (5, .int 3), (1, .int 3), (2, .ref b)]) hx hb dJ6_getChars_ba4f3_32 rfl hl (by decide) rfl (fun ls hl => ?_)
  refine lv_iload_n hx hb dJ6_getChars_ba4f3_33 rfl (lv_at hl 0 rfl) ?_
  refine lv_bipush (v := 100) hx hb dJ6_getChars_ba4f3_34 (by decide) ?_
  refine lv_imul hx hb dJ6_getChars_ba4f3_36 ?_
  refine lv_iload_n hx hb dJ6_getChars_ba4f3_37 rfl (lv_at hl 1 rfl) ?_
  refine lv_isub hx hb dJ6_getChars_ba4f3_38 ?_
  refine lv_topi (fun y_2 ey_2 => ?_)
  obtain rfl : y_2 = nI (x % 100) := ey_2.trans (sb_nrem (by omega))
  refine lv_istore (lv' := [(4, .int (nI (x % 100))), (3, .int (-nI (x / 100))), (0, .int (-nI x)), (6, .int 0), (5, .int 3), (1, .int 3), (2, .ref b)]) hx hb dJ6_getChars_ba4f3_39 hl (by decide) rfl (fun ls hl => ?_)
  refine lv_iload_n hx hb dJ6_getChars_ba4f3_41 rfl (lv_at hl 1 rfl) ?_
  refine lv_istore_n (lv' := [(0, .int (-nI (x / 100))), (4, .int (nI (x % 100))), (3, .int (-nI (x / 100))), (6, .int 0), (5, .int 3), (1, .int 3), (2, .ref b)]) hx hb dJ6_getChars_ba4f3_42 rfl hl (by decide) rfl (fun ls hl => ?_)
  refine lv_aload_n hx hb dJ6_getChars_ba4f3_43 rfl (lv_at hl 6 rfl) ?_
  refine lv_iinc (k := 4) (v := 2) (lv' := [(5, .int 2), (0, .int (-nI (x / 100))), (4, .int (nI (x % 100))), (3, .int (-nI (x / 100))), (6, .int 0), (1, .int 3), (2, .ref b)]) hx hb dJ6_getChars_ba4f3_44 hl rfl (by decide) (by decide) rfl (fun ls hl => ?_)
  refine lv_iload hx hb dJ6_getChars_ba4f3_47 (lv_at hl 0 rfl) ?_
  refine va_gets hx hb (jd_o hXs) hS hown (hts (.fieldLink RJ6 83 "java/lang/Integer" "DigitOnes" "[B") (by decide +kernel)) (fun _ h9 => h9) dJ6_getChars_ba4f3_49 ?_
  refine lv_iload hx hb dJ6_getChars_ba4f3_52 (lv_at hl 2 rfl) ?_
  refine va_tb (v := .int (nI (48 + (x % 100) % 10))) hx hb (jd_ot hXs) hS (vp_in_nI (by omega) (by decide)) (by show Value.int _ = _; rw [nI_clamp (by omega)]) dJ6_getChars_ba4f3_54 ?_
  refine va_bast hx hb hK hP hD hS 0 0 rfl rfl (by unfold vp_in; decide) dJ6_getChars_ba4f3_55 (fun H locs hP hD hS => ?_)
  have hP : va_P (dC, dI) vwCl [(b, .inl (cB, 16, .inl (upd zi 2 (nI (48 + (x % 100) % 10)))))] H := by have h9 := hP; rw [show (2 : Int32).toNatClampNeg = 2 from by decide, jnb (by omega)] at h9; exact h9
  have hD : va_D A [(b, .inl (cB, 16, .inl (upd zi 2 (nI (48 + (x % 100) % 10)))))] := by have h9 := hD; rw [show (2 : Int32).toNatClampNeg = 2 from by decide, jnb (by omega)] at h9; exact h9
  refine lv_aload_n hx hb dJ6_getChars_ba4f3_56 rfl (lv_at hl 6 rfl) ?_
  refine lv_iinc (k := 0) (v := 1) (lv' := [(5, .int 1), (0, .int (-nI (x / 100))), (4, .int (nI (x % 100))), (3, .int (-nI (x / 100))), (6, .int 0), (1, .int 3), (2, .ref b)]) hx hb dJ6_getChars_ba4f3_57 hl rfl (by decide) (by decide) rfl (fun ls hl => ?_)
  refine lv_iload hx hb dJ6_getChars_ba4f3_60 (lv_at hl 0 rfl) ?_
  refine va_gets hx hb (jd_t hXs) hS hown (hts (.fieldLink RJ6 87 "java/lang/Integer" "DigitTens" "[B") (by decide +kernel)) (fun _ h9 => h9) dJ6_getChars_ba4f3_62 ?_
  refine lv_iload hx hb dJ6_getChars_ba4f3_65 (lv_at hl 2 rfl) ?_
  refine va_tb (v := .int (nI (48 + (x % 100) / 10))) hx hb (jd_tt hXs) hS (vp_in_nI (by omega) (by decide)) (by show Value.int _ = _; rw [nI_clamp (by omega)]) dJ6_getChars_ba4f3_67 ?_
  refine va_bast hx hb hK hP hD hS 0 0 rfl rfl (by unfold vp_in; decide) dJ6_getChars_ba4f3_68 (fun H locs hP hD hS => ?_)
  have hP : va_P (dC, dI) vwCl [(b, .inl (cB, 16, .inl (upd (upd zi 2 (nI (48 + (x % 100) % 10))) 1 (nI (48 + (x % 100) / 10)))))] H := by have h9 := hP; rw [show (1 : Int32).toNatClampNeg = 1 from by decide, jnb (by omega)] at h9; exact h9
  have hD : va_D A [(b, .inl (cB, 16, .inl (upd (upd zi 2 (nI (48 + (x % 100) % 10))) 1 (nI (48 + (x % 100) / 10)))))] := by have h9 := hD; rw [show (1 : Int32).toNatClampNeg = 1 from by decide, jnb (by omega)] at h9; exact h9
  refine lv_goto (tgt := 22) hx hb dJ6_getChars_ba4f3_69 (by decide) ?_
  refine lv_iload_n hx hb dJ6_getChars_ba4f3_22 rfl (lv_at hl 1 rfl) ?_
  refine lv_bipush (v := (-100)) hx hb dJ6_getChars_ba4f3_23 (by decide) ?_
  refine lv_icmp_gt (tgt := 72) hx hb dJ6_getChars_ba4f3_25 (by decide) (fun _ => ?_) (fun h9 => (h9 ((sb_nlt (a := 100) (b := x / 100) (by decide) (by omega)).mpr (by omega))).elim)
  refine lv_aload_n hx hb dJ6_getChars_ba4f3_72 rfl (lv_at hl 6 rfl) ?_
  refine lv_iinc (k := 0) (v := 0) (lv' := [(5, .int 0), (0, .int (-nI (x / 100))), (4, .int (nI (x % 100))), (3, .int (-nI (x / 100))), (6, .int 0), (1, .int 3), (2, .ref b)]) hx hb dJ6_getChars_ba4f3_73 hl rfl (by decide) (by decide) rfl (fun ls hl => ?_)
  refine lv_iload hx hb dJ6_getChars_ba4f3_76 (lv_at hl 0 rfl) ?_
  refine va_gets hx hb (jd_o hXs) hS hown (hts (.fieldLink RJ6 83 "java/lang/Integer" "DigitOnes" "[B") (by decide +kernel)) (fun _ h9 => h9) dJ6_getChars_ba4f3_78 ?_
  refine lv_iload_n hx hb dJ6_getChars_ba4f3_81 rfl (lv_at hl 1 rfl) ?_
  refine lv_ineg hx hb dJ6_getChars_ba4f3_82 ?_
  refine lv_topi (fun y_3 ey_3 => ?_)
  obtain rfl : y_3 = nI (x / 100) := ey_3.trans (Int32.neg_neg)
  refine va_tb (v := .int (nI (48 + (x / 100) % 10))) hx hb (jd_ot hXs) hS (vp_in_nI (by omega) (by decide)) (by show Value.int _ = _; rw [nI_clamp (by omega)]) dJ6_getChars_ba4f3_83 ?_
  refine va_bast hx hb hK hP hD hS 0 0 rfl rfl (by unfold vp_in; decide) dJ6_getChars_ba4f3_84 (fun H locs hP hD hS => ?_)
  have hP : va_P (dC, dI) vwCl [(b, .inl (cB, 16, .inl (upd (upd (upd zi 2 (nI (48 + (x % 100) % 10))) 1 (nI (48 + (x % 100) / 10))) 0 (nI (48 + (x / 100) % 10)))))] H := by have h9 := hP; rw [show (0 : Int32).toNatClampNeg = 0 from by decide, jnb (by omega)] at h9; exact h9
  have hD : va_D A [(b, .inl (cB, 16, .inl (upd (upd (upd zi 2 (nI (48 + (x % 100) % 10))) 1 (nI (48 + (x % 100) / 10))) 0 (nI (48 + (x / 100) % 10)))))] := by have h9 := hD; rw [show (0 : Int32).toNatClampNeg = 0 from by decide, jnb (by omega)] at h9; exact h9
  refine lv_iload_n hx hb dJ6_getChars_ba4f3_85 rfl (lv_at hl 1 rfl) ?_
  refine lv_bipush (v := (-9)) hx hb dJ6_getChars_ba4f3_86 (by decide) ?_
  refine lv_icmp_ge (tgt := 104) hx hb dJ6_getChars_ba4f3_88 (by decide) (fun _ => ?_) (fun h9 => (h9 ((sb_nle (a := 9) (b := x / 100) (by decide) (by omega)).mpr (by omega))).elim)
  refine lv_iload hx hb dJ6_getChars_ba4f3_104 (lv_at hl 4 rfl) ?_
  refine lv_if_eq (tgt := 118) hx hb dJ6_getChars_ba4f3_106 (by decide) (fun _ => ?_) (fun h9 => absurd h9 (by decide))
  refine lv_iload hx hb dJ6_getChars_ba4f3_118 (lv_at hl 0 rfl) ?_
  rw [gc3 hxl hxh] at hP hD
  have hP : va_P (dC, dI) vwCl [(b, .inl (cB, 16, .inl (gcF x 3)))] H := hP
  have hD : va_D A [(b, .inl (cB, 16, .inl (gcF x 3)))] := hD
  have hP9 := hP.sub (ws' := [(b, .inl (cB, 16, .inl (gcF x 3)))]) [0] rfl
  have hD9 := hD.sub (ws' := [(b, .inl (cB, 16, .inl (gcF x 3)))]) [0] (by decide) rfl
  have hK9 := hK.sub (tys' := [(cB, .byte)]) [0] rfl
  refine W.widen (k := 0) (n := 0) (Nat.le_of_ble_eq_true rfl) (Nat.le_of_ble_eq_true rfl) ?_
  exact W.iret (v := 0) hx hb hr (fun t ht hW => ⟨⟨0, (), rfl, rfl, po_mk ht hW hP9 hK9 hD9⟩, hS.F ht⟩) hS.2.2 dJ6_getChars_ba4f3_120

theorem gc4 {x : Nat} (hxl : 1000 ≤ x) (hxh : x < 10000) : upd (upd (upd (upd zi 3 (nI (48 + (x % 100) % 10))) 2 (nI (48 + (x % 100) / 10))) 1 (nI (48 + (x / 100) % 10))) 0 (nI (48 + (x / 100) / 10)) = gcF x 4 := by
  funext j
  unfold gcF dgt
  by_cases hj : j < 4
  · rw [if_pos hj]
    have hj9 : j = 0 ∨ j = 1 ∨ j = 2 ∨ j = 3 := by omega
    rcases hj9 with rfl | rfl | rfl | rfl
    · exact congrArg (fun t => nI (48 + t)) (show (x / 100) / 10 = x / 1000 % 10 by omega)
    · exact congrArg (fun t => nI (48 + t)) (show (x / 100) % 10 = x / 100 % 10 by omega)
    · exact congrArg (fun t => nI (48 + t)) (show (x % 100) / 10 = x / 10 % 10 by omega)
    · exact congrArg (fun t => nI (48 + t)) (show (x % 100) % 10 = x / 1 % 10 by omega)
  · rw [if_neg hj, pk_un (by omega), pk_un (by omega), pk_un (by omega), pk_un (by omega)]
    rfl

set_option maxHeartbeats 4000000 in
set_option maxRecDepth 100000 in
theorem c_J6_getChars_4 (l : Launch) (dC : Nat → ClassId) (dI : Nat → Nat → Nat) (jk : Nat) (jv : Nat) (jo : Nat) (jt : Nat) (x : Nat) (b : Nat) (cB : ClassId) (sz : Nat) (hxl : 1000 ≤ x) (hxh : x < 10000) : Met l yJ6_getChars_ba4f3 wsJ6_getChars_ba4f3 ({ frames := 2, cells := 0, slots := 0, locals := 40 }) (va_Pc [.int (nI x), .int 4, .ref b] (fun U => pr_ dC dI [(b, .inl (cB, 16, .inl zi))] [(cB, .byte)] sz U ∧ jd_ (va_A [(b, .inl (cB, 16, .inl zi))] sz) jk jv jo jt U)) (va_Qi (fun (r : Int32) (_ : Unit) => r = 0) (fun (_ : Unit) t => po_ dC dI [(b, .inl (cB, 16, .inl (gcF x 4)))] [(cB, .byte)] (va_A [(b, .inl (cB, 16, .inl zi))] sz) t) (va_A [(b, .inl (cB, 16, .inl zi))] sz)) 0 0 (va_A [(b, .inl (cB, 16, .inl zi))] sz) := by
  refine Met.ofW (cc := cJ6_getChars_ba4f3) (maxL := 7) (ret := (some .int)) (by decide) rfl ?_
  intro p e s m args below meth c s₁ B hml hv
  obtain ⟨rfl, ⟨hsz, hP, hK, hD0⟩, hXs⟩ := hv
  have hx := B.exec
  have hb := B.bytes
  have hr := B.returns
  have hts := atoms_spec (ws := wsJ6_getChars_ba4f3) B.pre
  have hown : s.vm.findClass RJ6 = some m.cls := findClass_of_methodNamed B.named
  have hlocks := B.notSynchronized
  subst hsz
  have hD := hD0.self (sz := s.heap.size)
  generalize hAe : va_A [(b, .inl (cB, 16, .inl zi))] s.heap.size = A at hD hXs ⊢
  have hA : ∀ q : Nat, s.heap.size ≤ q → A q := fun q h => by rw [← hAe]; exact Or.inr h
  have hS : va_S A s.heap s.heap [] := va_S.rf
  have hP : va_P (dC, dI) vwCl [(b, .inl (cB, 16, .inl zi))] s.heap := hP
  have hK : va_K (dC, dI) vwCl [(cB, .byte)] s := hK
  have hl := lv_entry ([.int (nI x), .int 4, .ref b]) (n := 7) (Nat.le_of_ble_eq_true rfl)
  rw [lg_entry_eq]
  generalize (lg_sl ([.int (nI x), .int 4, .ref b]) ++ List.replicate (7 - (lg_sl ([.int (nI x), .int 4, .ref b])).length) Slot.unset).toArray = ls at hl ⊢
  have hl : lv_has ls 7 [(0, .int (nI x)), (1, .int 4), (2, .ref b)] := hl
  refine lv_iload_n hx hb dJ6_getChars_ba4f3_0 rfl (lv_at hl 1 rfl) ?_
  refine lv_istore (lv' := [(5, .int 4), (0, .int (nI x)), (1, .int 4), (2, .ref b)]) hx hb dJ6_getChars_ba4f3_1 hl (by decide) rfl (fun ls hl => ?_)
  refine lv_iload_n hx hb dJ6_getChars_ba4f3_3 rfl (lv_at hl 1 rfl) ?_
  refine lv_if_ge (tgt := 11) hx hb dJ6_getChars_ba4f3_4 (by decide) (fun _ => ?_) (fun h9 => (h9 (nI_pos' (by omega))).elim)
  refine lv_iconst (v := 0) hx hb dJ6_getChars_ba4f3_11 (by decide) ?_
  refine lv_istore (lv' := [(6, .int 0), (5, .int 4), (0, .int (nI x)), (1, .int 4), (2, .ref b)]) hx hb dJ6_getChars_ba4f3_12 hl (by decide) rfl (fun ls hl => ?_)
  refine lv_iload hx hb dJ6_getChars_ba4f3_14 (lv_at hl 0 rfl) ?_
  refine lv_if_ne (tgt := 22) hx hb dJ6_getChars_ba4f3_16 (by decide) (fun h9 => absurd h9 (by decide)) (fun _ => ?_)
  refine lv_iload_n hx hb dJ6_getChars_ba4f3_19 rfl (lv_at hl 2 rfl) ?_
  refine lv_ineg hx hb dJ6_getChars_ba4f3_20 ?_
  refine lv_istore_n (lv' := [(0, .int (-nI x)), (6, .int 0), (5, .int 4), (1, .int 4), (2, .ref b)]) hx hb dJ6_getChars_ba4f3_21 rfl hl (by decide) rfl (fun ls hl => ?_)
  refine lv_iload_n hx hb dJ6_getChars_ba4f3_22 rfl (lv_at hl 0 rfl) ?_
  refine lv_bipush (v := (-100)) hx hb dJ6_getChars_ba4f3_23 (by decide) ?_
  refine lv_icmp_gt (tgt := 72) hx hb dJ6_getChars_ba4f3_25 (by decide) (fun h9 => ((ng_lt (a := 100) (b := x) (by decide) (by omega) (by omega)) h9).elim) (fun _ => ?_)
  refine lv_iload_n hx hb dJ6_getChars_ba4f3_28 rfl (lv_at hl 0 rfl) ?_
  refine lv_bipush (v := 100) hx hb dJ6_getChars_ba4f3_29 (by decide) ?_
  refine lv_idiv hx hb dJ6_getChars_ba4f3_31 (by decide) ?_
  refine lv_topi (fun y_1 ey_1 => ?_)
  obtain rfl : y_1 = (-nI (x / 100)) := ey_1.trans (sb_ndiv (by omega))
  refine lv_istore_n (lv' := [(3, .int (-nI (x / 100))), (0, .int (-nI x)), (6, .int 0), (5, .int 4), (1, .int 4), (2, .ref b)]) hx hb dJ6_getChars_ba4f3_32 rfl hl (by decide) rfl (fun ls hl => ?_)
  refine lv_iload_n hx hb dJ6_getChars_ba4f3_33 rfl (lv_at hl 0 rfl) ?_
  refine lv_bipush (v := 100) hx hb dJ6_getChars_ba4f3_34 (by decide) ?_
  refine lv_imul hx hb dJ6_getChars_ba4f3_36 ?_
  refine lv_iload_n hx hb dJ6_getChars_ba4f3_37 rfl (lv_at hl 1 rfl) ?_
  refine lv_isub hx hb dJ6_getChars_ba4f3_38 ?_
  refine lv_topi (fun y_2 ey_2 => ?_)
  obtain rfl : y_2 = nI (x % 100) := ey_2.trans (sb_nrem (by omega))
  refine lv_istore (lv' := [(4, .int (nI (x % 100))), (3, .int (-nI (x / 100))), (0, .int (-nI x)), (6, .int 0), (5, .int 4), (1, .int 4), (2, .ref b)]) hx hb dJ6_getChars_ba4f3_39 hl (by decide) rfl (fun ls hl => ?_)
  refine lv_iload_n hx hb dJ6_getChars_ba4f3_41 rfl (lv_at hl 1 rfl) ?_
  refine lv_istore_n (lv' := [(0, .int (-nI (x / 100))), (4, .int (nI (x % 100))), (3, .int (-nI (x / 100))), (6, .int 0), (5, .int 4), (1, .int 4), (2, .ref b)]) hx hb dJ6_getChars_ba4f3_42 rfl hl (by decide) rfl (fun ls hl => ?_)
  refine lv_aload_n hx hb dJ6_getChars_ba4f3_43 rfl (lv_at hl 6 rfl) ?_
  refine lv_iinc (k := 4) (v := 3) (lv' := [(5, .int 3), (0, .int (-nI (x / 100))), (4, .int (nI (x % 100))), (3, .int (-nI (x / 100))), (6, .int 0), (1, .int 4), (2, .ref b)]) hx hb dJ6_getChars_ba4f3_44 hl rfl (by decide) (by decide) rfl (fun ls hl => ?_)
  refine lv_iload hx hb dJ6_getChars_ba4f3_47 (lv_at hl 0 rfl) ?_
  refine va_gets hx hb (jd_o hXs) hS hown (hts (.fieldLink RJ6 83 "java/lang/Integer" "DigitOnes" "[B") (by decide +kernel)) (fun _ h9 => h9) dJ6_getChars_ba4f3_49 ?_
  refine lv_iload hx hb dJ6_getChars_ba4f3_52 (lv_at hl 2 rfl) ?_
  refine va_tb (v := .int (nI (48 + (x % 100) % 10))) hx hb (jd_ot hXs) hS (vp_in_nI (by omega) (by decide)) (by show Value.int _ = _; rw [nI_clamp (by omega)]) dJ6_getChars_ba4f3_54 ?_
  refine va_bast hx hb hK hP hD hS 0 0 rfl rfl (by unfold vp_in; decide) dJ6_getChars_ba4f3_55 (fun H locs hP hD hS => ?_)
  have hP : va_P (dC, dI) vwCl [(b, .inl (cB, 16, .inl (upd zi 3 (nI (48 + (x % 100) % 10)))))] H := by have h9 := hP; rw [show (3 : Int32).toNatClampNeg = 3 from by decide, jnb (by omega)] at h9; exact h9
  have hD : va_D A [(b, .inl (cB, 16, .inl (upd zi 3 (nI (48 + (x % 100) % 10)))))] := by have h9 := hD; rw [show (3 : Int32).toNatClampNeg = 3 from by decide, jnb (by omega)] at h9; exact h9
  refine lv_aload_n hx hb dJ6_getChars_ba4f3_56 rfl (lv_at hl 6 rfl) ?_
  refine lv_iinc (k := 0) (v := 2) (lv' := [(5, .int 2), (0, .int (-nI (x / 100))), (4, .int (nI (x % 100))), (3, .int (-nI (x / 100))), (6, .int 0), (1, .int 4), (2, .ref b)]) hx hb dJ6_getChars_ba4f3_57 hl rfl (by decide) (by decide) rfl (fun ls hl => ?_)
  refine lv_iload hx hb dJ6_getChars_ba4f3_60 (lv_at hl 0 rfl) ?_
  refine va_gets hx hb (jd_t hXs) hS hown (hts (.fieldLink RJ6 87 "java/lang/Integer" "DigitTens" "[B") (by decide +kernel)) (fun _ h9 => h9) dJ6_getChars_ba4f3_62 ?_
  refine lv_iload hx hb dJ6_getChars_ba4f3_65 (lv_at hl 2 rfl) ?_
  refine va_tb (v := .int (nI (48 + (x % 100) / 10))) hx hb (jd_tt hXs) hS (vp_in_nI (by omega) (by decide)) (by show Value.int _ = _; rw [nI_clamp (by omega)]) dJ6_getChars_ba4f3_67 ?_
  refine va_bast hx hb hK hP hD hS 0 0 rfl rfl (by unfold vp_in; decide) dJ6_getChars_ba4f3_68 (fun H locs hP hD hS => ?_)
  have hP : va_P (dC, dI) vwCl [(b, .inl (cB, 16, .inl (upd (upd zi 3 (nI (48 + (x % 100) % 10))) 2 (nI (48 + (x % 100) / 10)))))] H := by have h9 := hP; rw [show (2 : Int32).toNatClampNeg = 2 from by decide, jnb (by omega)] at h9; exact h9
  have hD : va_D A [(b, .inl (cB, 16, .inl (upd (upd zi 3 (nI (48 + (x % 100) % 10))) 2 (nI (48 + (x % 100) / 10)))))] := by have h9 := hD; rw [show (2 : Int32).toNatClampNeg = 2 from by decide, jnb (by omega)] at h9; exact h9
  refine lv_goto (tgt := 22) hx hb dJ6_getChars_ba4f3_69 (by decide) ?_
  refine lv_iload_n hx hb dJ6_getChars_ba4f3_22 rfl (lv_at hl 1 rfl) ?_
  refine lv_bipush (v := (-100)) hx hb dJ6_getChars_ba4f3_23 (by decide) ?_
  refine lv_icmp_gt (tgt := 72) hx hb dJ6_getChars_ba4f3_25 (by decide) (fun _ => ?_) (fun h9 => (h9 ((sb_nlt (a := 100) (b := x / 100) (by decide) (by omega)).mpr (by omega))).elim)
  refine lv_aload_n hx hb dJ6_getChars_ba4f3_72 rfl (lv_at hl 6 rfl) ?_
  refine lv_iinc (k := 0) (v := 1) (lv' := [(5, .int 1), (0, .int (-nI (x / 100))), (4, .int (nI (x % 100))), (3, .int (-nI (x / 100))), (6, .int 0), (1, .int 4), (2, .ref b)]) hx hb dJ6_getChars_ba4f3_73 hl rfl (by decide) (by decide) rfl (fun ls hl => ?_)
  refine lv_iload hx hb dJ6_getChars_ba4f3_76 (lv_at hl 0 rfl) ?_
  refine va_gets hx hb (jd_o hXs) hS hown (hts (.fieldLink RJ6 83 "java/lang/Integer" "DigitOnes" "[B") (by decide +kernel)) (fun _ h9 => h9) dJ6_getChars_ba4f3_78 ?_
  refine lv_iload_n hx hb dJ6_getChars_ba4f3_81 rfl (lv_at hl 1 rfl) ?_
  refine lv_ineg hx hb dJ6_getChars_ba4f3_82 ?_
  refine lv_topi (fun y_3 ey_3 => ?_)
  obtain rfl : y_3 = nI (x / 100) := ey_3.trans (Int32.neg_neg)
  refine va_tb (v := .int (nI (48 + (x / 100) % 10))) hx hb (jd_ot hXs) hS (vp_in_nI (by omega) (by decide)) (by show Value.int _ = _; rw [nI_clamp (by omega)]) dJ6_getChars_ba4f3_83 ?_
  refine va_bast hx hb hK hP hD hS 0 0 rfl rfl (by unfold vp_in; decide) dJ6_getChars_ba4f3_84 (fun H locs hP hD hS => ?_)
  have hP : va_P (dC, dI) vwCl [(b, .inl (cB, 16, .inl (upd (upd (upd zi 3 (nI (48 + (x % 100) % 10))) 2 (nI (48 + (x % 100) / 10))) 1 (nI (48 + (x / 100) % 10)))))] H := by have h9 := hP; rw [show (1 : Int32).toNatClampNeg = 1 from by decide, jnb (by omega)] at h9; exact h9
  have hD : va_D A [(b, .inl (cB, 16, .inl (upd (upd (upd zi 3 (nI (48 + (x % 100) % 10))) 2 (nI (48 + (x % 100) / 10))) 1 (nI (48 + (x / 100) % 10)))))] := by have h9 := hD; rw [show (1 : Int32).toNatClampNeg = 1 from by decide, jnb (by omega)] at h9; exact h9
  refine lv_iload_n hx hb dJ6_getChars_ba4f3_85 rfl (lv_at hl 1 rfl) ?_
  refine lv_bipush (v := (-9)) hx hb dJ6_getChars_ba4f3_86 (by decide) ?_
  refine lv_icmp_ge (tgt := 104) hx hb dJ6_getChars_ba4f3_88 (by decide) (fun h9 => ((ng_le (a := 9) (b := x / 100) (by decide) (by omega) (by omega)) h9).elim) (fun _ => ?_)
  refine lv_aload_n hx hb dJ6_getChars_ba4f3_91 rfl (lv_at hl 6 rfl) ?_
  refine lv_iinc (k := 0) (v := 0) (lv' := [(5, .int 0), (0, .int (-nI (x / 100))), (4, .int (nI (x % 100))), (3, .int (-nI (x / 100))), (6, .int 0), (1, .int 4), (2, .ref b)]) hx hb dJ6_getChars_ba4f3_92 hl rfl (by decide) (by decide) rfl (fun ls hl => ?_)
  refine lv_iload hx hb dJ6_getChars_ba4f3_95 (lv_at hl 0 rfl) ?_
  refine va_gets hx hb (jd_t hXs) hS hown (hts (.fieldLink RJ6 87 "java/lang/Integer" "DigitTens" "[B") (by decide +kernel)) (fun _ h9 => h9) dJ6_getChars_ba4f3_97 ?_
  refine lv_iload_n hx hb dJ6_getChars_ba4f3_100 rfl (lv_at hl 1 rfl) ?_
  refine lv_ineg hx hb dJ6_getChars_ba4f3_101 ?_
  refine lv_topi (fun y_4 ey_4 => ?_)
  obtain rfl : y_4 = nI (x / 100) := ey_4.trans (Int32.neg_neg)
  refine va_tb (v := .int (nI (48 + (x / 100) / 10))) hx hb (jd_tt hXs) hS (vp_in_nI (by omega) (by decide)) (by show Value.int _ = _; rw [nI_clamp (by omega)]) dJ6_getChars_ba4f3_102 ?_
  refine va_bast hx hb hK hP hD hS 0 0 rfl rfl (by unfold vp_in; decide) dJ6_getChars_ba4f3_103 (fun H locs hP hD hS => ?_)
  have hP : va_P (dC, dI) vwCl [(b, .inl (cB, 16, .inl (upd (upd (upd (upd zi 3 (nI (48 + (x % 100) % 10))) 2 (nI (48 + (x % 100) / 10))) 1 (nI (48 + (x / 100) % 10))) 0 (nI (48 + (x / 100) / 10)))))] H := by have h9 := hP; rw [show (0 : Int32).toNatClampNeg = 0 from by decide, jnb (by omega)] at h9; exact h9
  have hD : va_D A [(b, .inl (cB, 16, .inl (upd (upd (upd (upd zi 3 (nI (48 + (x % 100) % 10))) 2 (nI (48 + (x % 100) / 10))) 1 (nI (48 + (x / 100) % 10))) 0 (nI (48 + (x / 100) / 10)))))] := by have h9 := hD; rw [show (0 : Int32).toNatClampNeg = 0 from by decide, jnb (by omega)] at h9; exact h9
  refine lv_iload hx hb dJ6_getChars_ba4f3_104 (lv_at hl 4 rfl) ?_
  refine lv_if_eq (tgt := 118) hx hb dJ6_getChars_ba4f3_106 (by decide) (fun _ => ?_) (fun h9 => absurd h9 (by decide))
  refine lv_iload hx hb dJ6_getChars_ba4f3_118 (lv_at hl 0 rfl) ?_
  rw [gc4 hxl hxh] at hP hD
  have hP : va_P (dC, dI) vwCl [(b, .inl (cB, 16, .inl (gcF x 4)))] H := hP
  have hD : va_D A [(b, .inl (cB, 16, .inl (gcF x 4)))] := hD
  have hP9 := hP.sub (ws' := [(b, .inl (cB, 16, .inl (gcF x 4)))]) [0] rfl
  have hD9 := hD.sub (ws' := [(b, .inl (cB, 16, .inl (gcF x 4)))]) [0] (by decide) rfl
  have hK9 := hK.sub (tys' := [(cB, .byte)]) [0] rfl
  refine W.widen (k := 0) (n := 0) (Nat.le_of_ble_eq_true rfl) (Nat.le_of_ble_eq_true rfl) ?_
  exact W.iret (v := 0) hx hb hr (fun t ht hW => ⟨⟨0, (), rfl, rfl, po_mk ht hW hP9 hK9 hD9⟩, hS.F ht⟩) hS.2.2 dJ6_getChars_ba4f3_120

theorem gc5 {x : Nat} (hxl : 10000 ≤ x) (hxh : x < 100000) : upd (upd (upd (upd (upd zi 4 (nI (48 + (x % 100) % 10))) 3 (nI (48 + (x % 100) / 10))) 2 (nI (48 + ((x / 100) % 100) % 10))) 1 (nI (48 + ((x / 100) % 100) / 10))) 0 (nI (48 + (x / 10000) % 10)) = gcF x 5 := by
  funext j
  unfold gcF dgt
  by_cases hj : j < 5
  · rw [if_pos hj]
    have hj9 : j = 0 ∨ j = 1 ∨ j = 2 ∨ j = 3 ∨ j = 4 := by omega
    rcases hj9 with rfl | rfl | rfl | rfl | rfl
    · exact congrArg (fun t => nI (48 + t)) (show (x / 10000) % 10 = x / 10000 % 10 by omega)
    · exact congrArg (fun t => nI (48 + t)) (show ((x / 100) % 100) / 10 = x / 1000 % 10 by omega)
    · exact congrArg (fun t => nI (48 + t)) (show ((x / 100) % 100) % 10 = x / 100 % 10 by omega)
    · exact congrArg (fun t => nI (48 + t)) (show (x % 100) / 10 = x / 10 % 10 by omega)
    · exact congrArg (fun t => nI (48 + t)) (show (x % 100) % 10 = x / 1 % 10 by omega)
  · rw [if_neg hj, pk_un (by omega), pk_un (by omega), pk_un (by omega), pk_un (by omega), pk_un (by omega)]
    rfl

set_option maxHeartbeats 4000000 in
set_option maxRecDepth 100000 in
theorem c_J6_getChars_5 (l : Launch) (dC : Nat → ClassId) (dI : Nat → Nat → Nat) (jk : Nat) (jv : Nat) (jo : Nat) (jt : Nat) (x : Nat) (b : Nat) (cB : ClassId) (sz : Nat) (hxl : 10000 ≤ x) (hxh : x < 100000) : Met l yJ6_getChars_ba4f3 wsJ6_getChars_ba4f3 ({ frames := 2, cells := 0, slots := 0, locals := 40 }) (va_Pc [.int (nI x), .int 5, .ref b] (fun U => pr_ dC dI [(b, .inl (cB, 16, .inl zi))] [(cB, .byte)] sz U ∧ jd_ (va_A [(b, .inl (cB, 16, .inl zi))] sz) jk jv jo jt U)) (va_Qi (fun (r : Int32) (_ : Unit) => r = 0) (fun (_ : Unit) t => po_ dC dI [(b, .inl (cB, 16, .inl (gcF x 5)))] [(cB, .byte)] (va_A [(b, .inl (cB, 16, .inl zi))] sz) t) (va_A [(b, .inl (cB, 16, .inl zi))] sz)) 0 0 (va_A [(b, .inl (cB, 16, .inl zi))] sz) := by
  refine Met.ofW (cc := cJ6_getChars_ba4f3) (maxL := 7) (ret := (some .int)) (by decide) rfl ?_
  intro p e s m args below meth c s₁ B hml hv
  obtain ⟨rfl, ⟨hsz, hP, hK, hD0⟩, hXs⟩ := hv
  have hx := B.exec
  have hb := B.bytes
  have hr := B.returns
  have hts := atoms_spec (ws := wsJ6_getChars_ba4f3) B.pre
  have hown : s.vm.findClass RJ6 = some m.cls := findClass_of_methodNamed B.named
  have hlocks := B.notSynchronized
  subst hsz
  have hD := hD0.self (sz := s.heap.size)
  generalize hAe : va_A [(b, .inl (cB, 16, .inl zi))] s.heap.size = A at hD hXs ⊢
  have hA : ∀ q : Nat, s.heap.size ≤ q → A q := fun q h => by rw [← hAe]; exact Or.inr h
  have hS : va_S A s.heap s.heap [] := va_S.rf
  have hP : va_P (dC, dI) vwCl [(b, .inl (cB, 16, .inl zi))] s.heap := hP
  have hK : va_K (dC, dI) vwCl [(cB, .byte)] s := hK
  have hl := lv_entry ([.int (nI x), .int 5, .ref b]) (n := 7) (Nat.le_of_ble_eq_true rfl)
  rw [lg_entry_eq]
  generalize (lg_sl ([.int (nI x), .int 5, .ref b]) ++ List.replicate (7 - (lg_sl ([.int (nI x), .int 5, .ref b])).length) Slot.unset).toArray = ls at hl ⊢
  have hl : lv_has ls 7 [(0, .int (nI x)), (1, .int 5), (2, .ref b)] := hl
  refine lv_iload_n hx hb dJ6_getChars_ba4f3_0 rfl (lv_at hl 1 rfl) ?_
  refine lv_istore (lv' := [(5, .int 5), (0, .int (nI x)), (1, .int 5), (2, .ref b)]) hx hb dJ6_getChars_ba4f3_1 hl (by decide) rfl (fun ls hl => ?_)
  refine lv_iload_n hx hb dJ6_getChars_ba4f3_3 rfl (lv_at hl 1 rfl) ?_
  refine lv_if_ge (tgt := 11) hx hb dJ6_getChars_ba4f3_4 (by decide) (fun _ => ?_) (fun h9 => (h9 (nI_pos' (by omega))).elim)
  refine lv_iconst (v := 0) hx hb dJ6_getChars_ba4f3_11 (by decide) ?_
  refine lv_istore (lv' := [(6, .int 0), (5, .int 5), (0, .int (nI x)), (1, .int 5), (2, .ref b)]) hx hb dJ6_getChars_ba4f3_12 hl (by decide) rfl (fun ls hl => ?_)
  refine lv_iload hx hb dJ6_getChars_ba4f3_14 (lv_at hl 0 rfl) ?_
  refine lv_if_ne (tgt := 22) hx hb dJ6_getChars_ba4f3_16 (by decide) (fun h9 => absurd h9 (by decide)) (fun _ => ?_)
  refine lv_iload_n hx hb dJ6_getChars_ba4f3_19 rfl (lv_at hl 2 rfl) ?_
  refine lv_ineg hx hb dJ6_getChars_ba4f3_20 ?_
  refine lv_istore_n (lv' := [(0, .int (-nI x)), (6, .int 0), (5, .int 5), (1, .int 5), (2, .ref b)]) hx hb dJ6_getChars_ba4f3_21 rfl hl (by decide) rfl (fun ls hl => ?_)
  refine lv_iload_n hx hb dJ6_getChars_ba4f3_22 rfl (lv_at hl 0 rfl) ?_
  refine lv_bipush (v := (-100)) hx hb dJ6_getChars_ba4f3_23 (by decide) ?_
  refine lv_icmp_gt (tgt := 72) hx hb dJ6_getChars_ba4f3_25 (by decide) (fun h9 => ((ng_lt (a := 100) (b := x) (by decide) (by omega) (by omega)) h9).elim) (fun _ => ?_)
  refine lv_iload_n hx hb dJ6_getChars_ba4f3_28 rfl (lv_at hl 0 rfl) ?_
  refine lv_bipush (v := 100) hx hb dJ6_getChars_ba4f3_29 (by decide) ?_
  refine lv_idiv hx hb dJ6_getChars_ba4f3_31 (by decide) ?_
  refine lv_topi (fun y_1 ey_1 => ?_)
  obtain rfl : y_1 = (-nI (x / 100)) := ey_1.trans (sb_ndiv (by omega))
  refine lv_istore_n (lv' := [(3, .int (-nI (x / 100))), (0, .int (-nI x)), (6, .int 0), (5, .int 5), (1, .int 5), (2, .ref b)]) hx hb dJ6_getChars_ba4f3_32 rfl hl (by decide) rfl (fun ls hl => ?_)
  refine lv_iload_n hx hb dJ6_getChars_ba4f3_33 rfl (lv_at hl 0 rfl) ?_
  refine lv_bipush (v := 100) hx hb dJ6_getChars_ba4f3_34 (by decide) ?_
  refine lv_imul hx hb dJ6_getChars_ba4f3_36 ?_
  refine lv_iload_n hx hb dJ6_getChars_ba4f3_37 rfl (lv_at hl 1 rfl) ?_
  refine lv_isub hx hb dJ6_getChars_ba4f3_38 ?_
  refine lv_topi (fun y_2 ey_2 => ?_)
  obtain rfl : y_2 = nI (x % 100) := ey_2.trans (sb_nrem (by omega))
  refine lv_istore (lv' := [(4, .int (nI (x % 100))), (3, .int (-nI (x / 100))), (0, .int (-nI x)), (6, .int 0), (5, .int 5), (1, .int 5), (2, .ref b)]) hx hb dJ6_getChars_ba4f3_39 hl (by decide) rfl (fun ls hl => ?_)
  refine lv_iload_n hx hb dJ6_getChars_ba4f3_41 rfl (lv_at hl 1 rfl) ?_
  refine lv_istore_n (lv' := [(0, .int (-nI (x / 100))), (4, .int (nI (x % 100))), (3, .int (-nI (x / 100))), (6, .int 0), (5, .int 5), (1, .int 5), (2, .ref b)]) hx hb dJ6_getChars_ba4f3_42 rfl hl (by decide) rfl (fun ls hl => ?_)
  refine lv_aload_n hx hb dJ6_getChars_ba4f3_43 rfl (lv_at hl 6 rfl) ?_
  refine lv_iinc (k := 4) (v := 4) (lv' := [(5, .int 4), (0, .int (-nI (x / 100))), (4, .int (nI (x % 100))), (3, .int (-nI (x / 100))), (6, .int 0), (1, .int 5), (2, .ref b)]) hx hb dJ6_getChars_ba4f3_44 hl rfl (by decide) (by decide) rfl (fun ls hl => ?_)
  refine lv_iload hx hb dJ6_getChars_ba4f3_47 (lv_at hl 0 rfl) ?_
  refine va_gets hx hb (jd_o hXs) hS hown (hts (.fieldLink RJ6 83 "java/lang/Integer" "DigitOnes" "[B") (by decide +kernel)) (fun _ h9 => h9) dJ6_getChars_ba4f3_49 ?_
  refine lv_iload hx hb dJ6_getChars_ba4f3_52 (lv_at hl 2 rfl) ?_
  refine va_tb (v := .int (nI (48 + (x % 100) % 10))) hx hb (jd_ot hXs) hS (vp_in_nI (by omega) (by decide)) (by show Value.int _ = _; rw [nI_clamp (by omega)]) dJ6_getChars_ba4f3_54 ?_
  refine va_bast hx hb hK hP hD hS 0 0 rfl rfl (by unfold vp_in; decide) dJ6_getChars_ba4f3_55 (fun H locs hP hD hS => ?_)
  have hP : va_P (dC, dI) vwCl [(b, .inl (cB, 16, .inl (upd zi 4 (nI (48 + (x % 100) % 10)))))] H := by have h9 := hP; rw [show (4 : Int32).toNatClampNeg = 4 from by decide, jnb (by omega)] at h9; exact h9
  have hD : va_D A [(b, .inl (cB, 16, .inl (upd zi 4 (nI (48 + (x % 100) % 10)))))] := by have h9 := hD; rw [show (4 : Int32).toNatClampNeg = 4 from by decide, jnb (by omega)] at h9; exact h9
  refine lv_aload_n hx hb dJ6_getChars_ba4f3_56 rfl (lv_at hl 6 rfl) ?_
  refine lv_iinc (k := 0) (v := 3) (lv' := [(5, .int 3), (0, .int (-nI (x / 100))), (4, .int (nI (x % 100))), (3, .int (-nI (x / 100))), (6, .int 0), (1, .int 5), (2, .ref b)]) hx hb dJ6_getChars_ba4f3_57 hl rfl (by decide) (by decide) rfl (fun ls hl => ?_)
  refine lv_iload hx hb dJ6_getChars_ba4f3_60 (lv_at hl 0 rfl) ?_
  refine va_gets hx hb (jd_t hXs) hS hown (hts (.fieldLink RJ6 87 "java/lang/Integer" "DigitTens" "[B") (by decide +kernel)) (fun _ h9 => h9) dJ6_getChars_ba4f3_62 ?_
  refine lv_iload hx hb dJ6_getChars_ba4f3_65 (lv_at hl 2 rfl) ?_
  refine va_tb (v := .int (nI (48 + (x % 100) / 10))) hx hb (jd_tt hXs) hS (vp_in_nI (by omega) (by decide)) (by show Value.int _ = _; rw [nI_clamp (by omega)]) dJ6_getChars_ba4f3_67 ?_
  refine va_bast hx hb hK hP hD hS 0 0 rfl rfl (by unfold vp_in; decide) dJ6_getChars_ba4f3_68 (fun H locs hP hD hS => ?_)
  have hP : va_P (dC, dI) vwCl [(b, .inl (cB, 16, .inl (upd (upd zi 4 (nI (48 + (x % 100) % 10))) 3 (nI (48 + (x % 100) / 10)))))] H := by have h9 := hP; rw [show (3 : Int32).toNatClampNeg = 3 from by decide, jnb (by omega)] at h9; exact h9
  have hD : va_D A [(b, .inl (cB, 16, .inl (upd (upd zi 4 (nI (48 + (x % 100) % 10))) 3 (nI (48 + (x % 100) / 10)))))] := by have h9 := hD; rw [show (3 : Int32).toNatClampNeg = 3 from by decide, jnb (by omega)] at h9; exact h9
  refine lv_goto (tgt := 22) hx hb dJ6_getChars_ba4f3_69 (by decide) ?_
  refine lv_iload_n hx hb dJ6_getChars_ba4f3_22 rfl (lv_at hl 1 rfl) ?_
  refine lv_bipush (v := (-100)) hx hb dJ6_getChars_ba4f3_23 (by decide) ?_
  refine lv_icmp_gt (tgt := 72) hx hb dJ6_getChars_ba4f3_25 (by decide) (fun h9 => ((ng_lt (a := 100) (b := x / 100) (by decide) (by omega) (by omega)) h9).elim) (fun _ => ?_)
  refine lv_iload_n hx hb dJ6_getChars_ba4f3_28 rfl (lv_at hl 1 rfl) ?_
  refine lv_bipush (v := 100) hx hb dJ6_getChars_ba4f3_29 (by decide) ?_
  refine lv_idiv hx hb dJ6_getChars_ba4f3_31 (by decide) ?_
  refine lv_topi (fun y_3 ey_3 => ?_)
  obtain rfl : y_3 = (-nI (x / 10000)) := ey_3.trans (by rw [sb_ndiv (by omega), Nat.div_div_eq_div_mul])
  refine lv_istore_n (lv' := [(3, .int (-nI (x / 10000))), (5, .int 3), (0, .int (-nI (x / 100))), (4, .int (nI (x % 100))), (6, .int 0), (1, .int 5), (2, .ref b)]) hx hb dJ6_getChars_ba4f3_32 rfl hl (by decide) rfl (fun ls hl => ?_)
  refine lv_iload_n hx hb dJ6_getChars_ba4f3_33 rfl (lv_at hl 0 rfl) ?_
  refine lv_bipush (v := 100) hx hb dJ6_getChars_ba4f3_34 (by decide) ?_
  refine lv_imul hx hb dJ6_getChars_ba4f3_36 ?_
  refine lv_iload_n hx hb dJ6_getChars_ba4f3_37 rfl (lv_at hl 2 rfl) ?_
  refine lv_isub hx hb dJ6_getChars_ba4f3_38 ?_
  refine lv_topi (fun y_4 ey_4 => ?_)
  obtain rfl : y_4 = nI ((x / 100) % 100) := ey_4.trans (by rw [gc_d4]; exact sb_nrem (by omega))
  refine lv_istore (lv' := [(4, .int (nI ((x / 100) % 100))), (3, .int (-nI (x / 10000))), (5, .int 3), (0, .int (-nI (x / 100))), (6, .int 0), (1, .int 5), (2, .ref b)]) hx hb dJ6_getChars_ba4f3_39 hl (by decide) rfl (fun ls hl => ?_)
  refine lv_iload_n hx hb dJ6_getChars_ba4f3_41 rfl (lv_at hl 1 rfl) ?_
  refine lv_istore_n (lv' := [(0, .int (-nI (x / 10000))), (4, .int (nI ((x / 100) % 100))), (3, .int (-nI (x / 10000))), (5, .int 3), (6, .int 0), (1, .int 5), (2, .ref b)]) hx hb dJ6_getChars_ba4f3_42 rfl hl (by decide) rfl (fun ls hl => ?_)
  refine lv_aload_n hx hb dJ6_getChars_ba4f3_43 rfl (lv_at hl 6 rfl) ?_
  refine lv_iinc (k := 3) (v := 2) (lv' := [(5, .int 2), (0, .int (-nI (x / 10000))), (4, .int (nI ((x / 100) % 100))), (3, .int (-nI (x / 10000))), (6, .int 0), (1, .int 5), (2, .ref b)]) hx hb dJ6_getChars_ba4f3_44 hl rfl (by decide) (by decide) rfl (fun ls hl => ?_)
  refine lv_iload hx hb dJ6_getChars_ba4f3_47 (lv_at hl 0 rfl) ?_
  refine va_gets hx hb (jd_o hXs) hS hown (hts (.fieldLink RJ6 83 "java/lang/Integer" "DigitOnes" "[B") (by decide +kernel)) (fun _ h9 => h9) dJ6_getChars_ba4f3_49 ?_
  refine lv_iload hx hb dJ6_getChars_ba4f3_52 (lv_at hl 2 rfl) ?_
  refine va_tb (v := .int (nI (48 + ((x / 100) % 100) % 10))) hx hb (jd_ot hXs) hS (vp_in_nI (by omega) (by decide)) (by show Value.int _ = _; rw [nI_clamp (by omega)]) dJ6_getChars_ba4f3_54 ?_
  refine va_bast hx hb hK hP hD hS 0 0 rfl rfl (by unfold vp_in; decide) dJ6_getChars_ba4f3_55 (fun H locs hP hD hS => ?_)
  have hP : va_P (dC, dI) vwCl [(b, .inl (cB, 16, .inl (upd (upd (upd zi 4 (nI (48 + (x % 100) % 10))) 3 (nI (48 + (x % 100) / 10))) 2 (nI (48 + ((x / 100) % 100) % 10)))))] H := by have h9 := hP; rw [show (2 : Int32).toNatClampNeg = 2 from by decide, jnb (by omega)] at h9; exact h9
  have hD : va_D A [(b, .inl (cB, 16, .inl (upd (upd (upd zi 4 (nI (48 + (x % 100) % 10))) 3 (nI (48 + (x % 100) / 10))) 2 (nI (48 + ((x / 100) % 100) % 10)))))] := by have h9 := hD; rw [show (2 : Int32).toNatClampNeg = 2 from by decide, jnb (by omega)] at h9; exact h9
  refine lv_aload_n hx hb dJ6_getChars_ba4f3_56 rfl (lv_at hl 6 rfl) ?_
  refine lv_iinc (k := 0) (v := 1) (lv' := [(5, .int 1), (0, .int (-nI (x / 10000))), (4, .int (nI ((x / 100) % 100))), (3, .int (-nI (x / 10000))), (6, .int 0), (1, .int 5), (2, .ref b)]) hx hb dJ6_getChars_ba4f3_57 hl rfl (by decide) (by decide) rfl (fun ls hl => ?_)
  refine lv_iload hx hb dJ6_getChars_ba4f3_60 (lv_at hl 0 rfl) ?_
  refine va_gets hx hb (jd_t hXs) hS hown (hts (.fieldLink RJ6 87 "java/lang/Integer" "DigitTens" "[B") (by decide +kernel)) (fun _ h9 => h9) dJ6_getChars_ba4f3_62 ?_
  refine lv_iload hx hb dJ6_getChars_ba4f3_65 (lv_at hl 2 rfl) ?_
  refine va_tb (v := .int (nI (48 + ((x / 100) % 100) / 10))) hx hb (jd_tt hXs) hS (vp_in_nI (by omega) (by decide)) (by show Value.int _ = _; rw [nI_clamp (by omega)]) dJ6_getChars_ba4f3_67 ?_
  refine va_bast hx hb hK hP hD hS 0 0 rfl rfl (by unfold vp_in; decide) dJ6_getChars_ba4f3_68 (fun H locs hP hD hS => ?_)
  have hP : va_P (dC, dI) vwCl [(b, .inl (cB, 16, .inl (upd (upd (upd (upd zi 4 (nI (48 + (x % 100) % 10))) 3 (nI (48 + (x % 100) / 10))) 2 (nI (48 + ((x / 100) % 100) % 10))) 1 (nI (48 + ((x / 100) % 100) / 10)))))] H := by have h9 := hP; rw [show (1 : Int32).toNatClampNeg = 1 from by decide, jnb (by omega)] at h9; exact h9
  have hD : va_D A [(b, .inl (cB, 16, .inl (upd (upd (upd (upd zi 4 (nI (48 + (x % 100) % 10))) 3 (nI (48 + (x % 100) / 10))) 2 (nI (48 + ((x / 100) % 100) % 10))) 1 (nI (48 + ((x / 100) % 100) / 10)))))] := by have h9 := hD; rw [show (1 : Int32).toNatClampNeg = 1 from by decide, jnb (by omega)] at h9; exact h9
  refine lv_goto (tgt := 22) hx hb dJ6_getChars_ba4f3_69 (by decide) ?_
  refine lv_iload_n hx hb dJ6_getChars_ba4f3_22 rfl (lv_at hl 1 rfl) ?_
  refine lv_bipush (v := (-100)) hx hb dJ6_getChars_ba4f3_23 (by decide) ?_
  refine lv_icmp_gt (tgt := 72) hx hb dJ6_getChars_ba4f3_25 (by decide) (fun _ => ?_) (fun h9 => (h9 ((sb_nlt (a := 100) (b := x / 10000) (by decide) (by omega)).mpr (by omega))).elim)
  refine lv_aload_n hx hb dJ6_getChars_ba4f3_72 rfl (lv_at hl 6 rfl) ?_
  refine lv_iinc (k := 0) (v := 0) (lv' := [(5, .int 0), (0, .int (-nI (x / 10000))), (4, .int (nI ((x / 100) % 100))), (3, .int (-nI (x / 10000))), (6, .int 0), (1, .int 5), (2, .ref b)]) hx hb dJ6_getChars_ba4f3_73 hl rfl (by decide) (by decide) rfl (fun ls hl => ?_)
  refine lv_iload hx hb dJ6_getChars_ba4f3_76 (lv_at hl 0 rfl) ?_
  refine va_gets hx hb (jd_o hXs) hS hown (hts (.fieldLink RJ6 83 "java/lang/Integer" "DigitOnes" "[B") (by decide +kernel)) (fun _ h9 => h9) dJ6_getChars_ba4f3_78 ?_
  refine lv_iload_n hx hb dJ6_getChars_ba4f3_81 rfl (lv_at hl 1 rfl) ?_
  refine lv_ineg hx hb dJ6_getChars_ba4f3_82 ?_
  refine lv_topi (fun y_5 ey_5 => ?_)
  obtain rfl : y_5 = nI (x / 10000) := ey_5.trans (Int32.neg_neg)
  refine va_tb (v := .int (nI (48 + (x / 10000) % 10))) hx hb (jd_ot hXs) hS (vp_in_nI (by omega) (by decide)) (by show Value.int _ = _; rw [nI_clamp (by omega)]) dJ6_getChars_ba4f3_83 ?_
  refine va_bast hx hb hK hP hD hS 0 0 rfl rfl (by unfold vp_in; decide) dJ6_getChars_ba4f3_84 (fun H locs hP hD hS => ?_)
  have hP : va_P (dC, dI) vwCl [(b, .inl (cB, 16, .inl (upd (upd (upd (upd (upd zi 4 (nI (48 + (x % 100) % 10))) 3 (nI (48 + (x % 100) / 10))) 2 (nI (48 + ((x / 100) % 100) % 10))) 1 (nI (48 + ((x / 100) % 100) / 10))) 0 (nI (48 + (x / 10000) % 10)))))] H := by have h9 := hP; rw [show (0 : Int32).toNatClampNeg = 0 from by decide, jnb (by omega)] at h9; exact h9
  have hD : va_D A [(b, .inl (cB, 16, .inl (upd (upd (upd (upd (upd zi 4 (nI (48 + (x % 100) % 10))) 3 (nI (48 + (x % 100) / 10))) 2 (nI (48 + ((x / 100) % 100) % 10))) 1 (nI (48 + ((x / 100) % 100) / 10))) 0 (nI (48 + (x / 10000) % 10)))))] := by have h9 := hD; rw [show (0 : Int32).toNatClampNeg = 0 from by decide, jnb (by omega)] at h9; exact h9
  refine lv_iload_n hx hb dJ6_getChars_ba4f3_85 rfl (lv_at hl 1 rfl) ?_
  refine lv_bipush (v := (-9)) hx hb dJ6_getChars_ba4f3_86 (by decide) ?_
  refine lv_icmp_ge (tgt := 104) hx hb dJ6_getChars_ba4f3_88 (by decide) (fun _ => ?_) (fun h9 => (h9 ((sb_nle (a := 9) (b := x / 10000) (by decide) (by omega)).mpr (by omega))).elim)
  refine lv_iload hx hb dJ6_getChars_ba4f3_104 (lv_at hl 4 rfl) ?_
  refine lv_if_eq (tgt := 118) hx hb dJ6_getChars_ba4f3_106 (by decide) (fun _ => ?_) (fun h9 => absurd h9 (by decide))
  refine lv_iload hx hb dJ6_getChars_ba4f3_118 (lv_at hl 0 rfl) ?_
  rw [gc5 hxl hxh] at hP hD
  have hP : va_P (dC, dI) vwCl [(b, .inl (cB, 16, .inl (gcF x 5)))] H := hP
  have hD : va_D A [(b, .inl (cB, 16, .inl (gcF x 5)))] := hD
  have hP9 := hP.sub (ws' := [(b, .inl (cB, 16, .inl (gcF x 5)))]) [0] rfl
  have hD9 := hD.sub (ws' := [(b, .inl (cB, 16, .inl (gcF x 5)))]) [0] (by decide) rfl
  have hK9 := hK.sub (tys' := [(cB, .byte)]) [0] rfl
  refine W.widen (k := 0) (n := 0) (Nat.le_of_ble_eq_true rfl) (Nat.le_of_ble_eq_true rfl) ?_
  exact W.iret (v := 0) hx hb hr (fun t ht hW => ⟨⟨0, (), rfl, rfl, po_mk ht hW hP9 hK9 hD9⟩, hS.F ht⟩) hS.2.2 dJ6_getChars_ba4f3_120

theorem gc6 {x : Nat} (hxl : 100000 ≤ x) (hxh : x < 1000000) : upd (upd (upd (upd (upd (upd zi 5 (nI (48 + (x % 100) % 10))) 4 (nI (48 + (x % 100) / 10))) 3 (nI (48 + ((x / 100) % 100) % 10))) 2 (nI (48 + ((x / 100) % 100) / 10))) 1 (nI (48 + (x / 10000) % 10))) 0 (nI (48 + (x / 10000) / 10)) = gcF x 6 := by
  funext j
  unfold gcF dgt
  by_cases hj : j < 6
  · rw [if_pos hj]
    have hj9 : j = 0 ∨ j = 1 ∨ j = 2 ∨ j = 3 ∨ j = 4 ∨ j = 5 := by omega
    rcases hj9 with rfl | rfl | rfl | rfl | rfl | rfl
    · exact congrArg (fun t => nI (48 + t)) (show (x / 10000) / 10 = x / 100000 % 10 by omega)
    · exact congrArg (fun t => nI (48 + t)) (show (x / 10000) % 10 = x / 10000 % 10 by omega)
    · exact congrArg (fun t => nI (48 + t)) (show ((x / 100) % 100) / 10 = x / 1000 % 10 by omega)
    · exact congrArg (fun t => nI (48 + t)) (show ((x / 100) % 100) % 10 = x / 100 % 10 by omega)
    · exact congrArg (fun t => nI (48 + t)) (show (x % 100) / 10 = x / 10 % 10 by omega)
    · exact congrArg (fun t => nI (48 + t)) (show (x % 100) % 10 = x / 1 % 10 by omega)
  · rw [if_neg hj, pk_un (by omega), pk_un (by omega), pk_un (by omega), pk_un (by omega), pk_un (by omega), pk_un (by omega)]
    rfl

set_option maxHeartbeats 4000000 in
set_option maxRecDepth 100000 in
theorem c_J6_getChars_6 (l : Launch) (dC : Nat → ClassId) (dI : Nat → Nat → Nat) (jk : Nat) (jv : Nat) (jo : Nat) (jt : Nat) (x : Nat) (b : Nat) (cB : ClassId) (sz : Nat) (hxl : 100000 ≤ x) (hxh : x < 1000000) : Met l yJ6_getChars_ba4f3 wsJ6_getChars_ba4f3 ({ frames := 2, cells := 0, slots := 0, locals := 40 }) (va_Pc [.int (nI x), .int 6, .ref b] (fun U => pr_ dC dI [(b, .inl (cB, 16, .inl zi))] [(cB, .byte)] sz U ∧ jd_ (va_A [(b, .inl (cB, 16, .inl zi))] sz) jk jv jo jt U)) (va_Qi (fun (r : Int32) (_ : Unit) => r = 0) (fun (_ : Unit) t => po_ dC dI [(b, .inl (cB, 16, .inl (gcF x 6)))] [(cB, .byte)] (va_A [(b, .inl (cB, 16, .inl zi))] sz) t) (va_A [(b, .inl (cB, 16, .inl zi))] sz)) 0 0 (va_A [(b, .inl (cB, 16, .inl zi))] sz) := by
  refine Met.ofW (cc := cJ6_getChars_ba4f3) (maxL := 7) (ret := (some .int)) (by decide) rfl ?_
  intro p e s m args below meth c s₁ B hml hv
  obtain ⟨rfl, ⟨hsz, hP, hK, hD0⟩, hXs⟩ := hv
  have hx := B.exec
  have hb := B.bytes
  have hr := B.returns
  have hts := atoms_spec (ws := wsJ6_getChars_ba4f3) B.pre
  have hown : s.vm.findClass RJ6 = some m.cls := findClass_of_methodNamed B.named
  have hlocks := B.notSynchronized
  subst hsz
  have hD := hD0.self (sz := s.heap.size)
  generalize hAe : va_A [(b, .inl (cB, 16, .inl zi))] s.heap.size = A at hD hXs ⊢
  have hA : ∀ q : Nat, s.heap.size ≤ q → A q := fun q h => by rw [← hAe]; exact Or.inr h
  have hS : va_S A s.heap s.heap [] := va_S.rf
  have hP : va_P (dC, dI) vwCl [(b, .inl (cB, 16, .inl zi))] s.heap := hP
  have hK : va_K (dC, dI) vwCl [(cB, .byte)] s := hK
  have hl := lv_entry ([.int (nI x), .int 6, .ref b]) (n := 7) (Nat.le_of_ble_eq_true rfl)
  rw [lg_entry_eq]
  generalize (lg_sl ([.int (nI x), .int 6, .ref b]) ++ List.replicate (7 - (lg_sl ([.int (nI x), .int 6, .ref b])).length) Slot.unset).toArray = ls at hl ⊢
  have hl : lv_has ls 7 [(0, .int (nI x)), (1, .int 6), (2, .ref b)] := hl
  refine lv_iload_n hx hb dJ6_getChars_ba4f3_0 rfl (lv_at hl 1 rfl) ?_
  refine lv_istore (lv' := [(5, .int 6), (0, .int (nI x)), (1, .int 6), (2, .ref b)]) hx hb dJ6_getChars_ba4f3_1 hl (by decide) rfl (fun ls hl => ?_)
  refine lv_iload_n hx hb dJ6_getChars_ba4f3_3 rfl (lv_at hl 1 rfl) ?_
  refine lv_if_ge (tgt := 11) hx hb dJ6_getChars_ba4f3_4 (by decide) (fun _ => ?_) (fun h9 => (h9 (nI_pos' (by omega))).elim)
  refine lv_iconst (v := 0) hx hb dJ6_getChars_ba4f3_11 (by decide) ?_
  refine lv_istore (lv' := [(6, .int 0), (5, .int 6), (0, .int (nI x)), (1, .int 6), (2, .ref b)]) hx hb dJ6_getChars_ba4f3_12 hl (by decide) rfl (fun ls hl => ?_)
  refine lv_iload hx hb dJ6_getChars_ba4f3_14 (lv_at hl 0 rfl) ?_
  refine lv_if_ne (tgt := 22) hx hb dJ6_getChars_ba4f3_16 (by decide) (fun h9 => absurd h9 (by decide)) (fun _ => ?_)
  refine lv_iload_n hx hb dJ6_getChars_ba4f3_19 rfl (lv_at hl 2 rfl) ?_
  refine lv_ineg hx hb dJ6_getChars_ba4f3_20 ?_
  refine lv_istore_n (lv' := [(0, .int (-nI x)), (6, .int 0), (5, .int 6), (1, .int 6), (2, .ref b)]) hx hb dJ6_getChars_ba4f3_21 rfl hl (by decide) rfl (fun ls hl => ?_)
  refine lv_iload_n hx hb dJ6_getChars_ba4f3_22 rfl (lv_at hl 0 rfl) ?_
  refine lv_bipush (v := (-100)) hx hb dJ6_getChars_ba4f3_23 (by decide) ?_
  refine lv_icmp_gt (tgt := 72) hx hb dJ6_getChars_ba4f3_25 (by decide) (fun h9 => ((ng_lt (a := 100) (b := x) (by decide) (by omega) (by omega)) h9).elim) (fun _ => ?_)
  refine lv_iload_n hx hb dJ6_getChars_ba4f3_28 rfl (lv_at hl 0 rfl) ?_
  refine lv_bipush (v := 100) hx hb dJ6_getChars_ba4f3_29 (by decide) ?_
  refine lv_idiv hx hb dJ6_getChars_ba4f3_31 (by decide) ?_
  refine lv_topi (fun y_1 ey_1 => ?_)
  obtain rfl : y_1 = (-nI (x / 100)) := ey_1.trans (sb_ndiv (by omega))
  refine lv_istore_n (lv' := [(3, .int (-nI (x / 100))), (0, .int (-nI x)), (6, .int 0), (5, .int 6), (1, .int 6), (2, .ref b)]) hx hb dJ6_getChars_ba4f3_32 rfl hl (by decide) rfl (fun ls hl => ?_)
  refine lv_iload_n hx hb dJ6_getChars_ba4f3_33 rfl (lv_at hl 0 rfl) ?_
  refine lv_bipush (v := 100) hx hb dJ6_getChars_ba4f3_34 (by decide) ?_
  refine lv_imul hx hb dJ6_getChars_ba4f3_36 ?_
  refine lv_iload_n hx hb dJ6_getChars_ba4f3_37 rfl (lv_at hl 1 rfl) ?_
  refine lv_isub hx hb dJ6_getChars_ba4f3_38 ?_
  refine lv_topi (fun y_2 ey_2 => ?_)
  obtain rfl : y_2 = nI (x % 100) := ey_2.trans (sb_nrem (by omega))
  refine lv_istore (lv' := [(4, .int (nI (x % 100))), (3, .int (-nI (x / 100))), (0, .int (-nI x)), (6, .int 0), (5, .int 6), (1, .int 6), (2, .ref b)]) hx hb dJ6_getChars_ba4f3_39 hl (by decide) rfl (fun ls hl => ?_)
  refine lv_iload_n hx hb dJ6_getChars_ba4f3_41 rfl (lv_at hl 1 rfl) ?_
  refine lv_istore_n (lv' := [(0, .int (-nI (x / 100))), (4, .int (nI (x % 100))), (3, .int (-nI (x / 100))), (6, .int 0), (5, .int 6), (1, .int 6), (2, .ref b)]) hx hb dJ6_getChars_ba4f3_42 rfl hl (by decide) rfl (fun ls hl => ?_)
  refine lv_aload_n hx hb dJ6_getChars_ba4f3_43 rfl (lv_at hl 6 rfl) ?_
  refine lv_iinc (k := 4) (v := 5) (lv' := [(5, .int 5), (0, .int (-nI (x / 100))), (4, .int (nI (x % 100))), (3, .int (-nI (x / 100))), (6, .int 0), (1, .int 6), (2, .ref b)]) hx hb dJ6_getChars_ba4f3_44 hl rfl (by decide) (by decide) rfl (fun ls hl => ?_)
  refine lv_iload hx hb dJ6_getChars_ba4f3_47 (lv_at hl 0 rfl) ?_
  refine va_gets hx hb (jd_o hXs) hS hown (hts (.fieldLink RJ6 83 "java/lang/Integer" "DigitOnes" "[B") (by decide +kernel)) (fun _ h9 => h9) dJ6_getChars_ba4f3_49 ?_
  refine lv_iload hx hb dJ6_getChars_ba4f3_52 (lv_at hl 2 rfl) ?_
  refine va_tb (v := .int (nI (48 + (x % 100) % 10))) hx hb (jd_ot hXs) hS (vp_in_nI (by omega) (by decide)) (by show Value.int _ = _; rw [nI_clamp (by omega)]) dJ6_getChars_ba4f3_54 ?_
  refine va_bast hx hb hK hP hD hS 0 0 rfl rfl (by unfold vp_in; decide) dJ6_getChars_ba4f3_55 (fun H locs hP hD hS => ?_)
  have hP : va_P (dC, dI) vwCl [(b, .inl (cB, 16, .inl (upd zi 5 (nI (48 + (x % 100) % 10)))))] H := by have h9 := hP; rw [show (5 : Int32).toNatClampNeg = 5 from by decide, jnb (by omega)] at h9; exact h9
  have hD : va_D A [(b, .inl (cB, 16, .inl (upd zi 5 (nI (48 + (x % 100) % 10)))))] := by have h9 := hD; rw [show (5 : Int32).toNatClampNeg = 5 from by decide, jnb (by omega)] at h9; exact h9
  refine lv_aload_n hx hb dJ6_getChars_ba4f3_56 rfl (lv_at hl 6 rfl) ?_
  refine lv_iinc (k := 0) (v := 4) (lv' := [(5, .int 4), (0, .int (-nI (x / 100))), (4, .int (nI (x % 100))), (3, .int (-nI (x / 100))), (6, .int 0), (1, .int 6), (2, .ref b)]) hx hb dJ6_getChars_ba4f3_57 hl rfl (by decide) (by decide) rfl (fun ls hl => ?_)
  refine lv_iload hx hb dJ6_getChars_ba4f3_60 (lv_at hl 0 rfl) ?_
  refine va_gets hx hb (jd_t hXs) hS hown (hts (.fieldLink RJ6 87 "java/lang/Integer" "DigitTens" "[B") (by decide +kernel)) (fun _ h9 => h9) dJ6_getChars_ba4f3_62 ?_
  refine lv_iload hx hb dJ6_getChars_ba4f3_65 (lv_at hl 2 rfl) ?_
  refine va_tb (v := .int (nI (48 + (x % 100) / 10))) hx hb (jd_tt hXs) hS (vp_in_nI (by omega) (by decide)) (by show Value.int _ = _; rw [nI_clamp (by omega)]) dJ6_getChars_ba4f3_67 ?_
  refine va_bast hx hb hK hP hD hS 0 0 rfl rfl (by unfold vp_in; decide) dJ6_getChars_ba4f3_68 (fun H locs hP hD hS => ?_)
  have hP : va_P (dC, dI) vwCl [(b, .inl (cB, 16, .inl (upd (upd zi 5 (nI (48 + (x % 100) % 10))) 4 (nI (48 + (x % 100) / 10)))))] H := by have h9 := hP; rw [show (4 : Int32).toNatClampNeg = 4 from by decide, jnb (by omega)] at h9; exact h9
  have hD : va_D A [(b, .inl (cB, 16, .inl (upd (upd zi 5 (nI (48 + (x % 100) % 10))) 4 (nI (48 + (x % 100) / 10)))))] := by have h9 := hD; rw [show (4 : Int32).toNatClampNeg = 4 from by decide, jnb (by omega)] at h9; exact h9
  refine lv_goto (tgt := 22) hx hb dJ6_getChars_ba4f3_69 (by decide) ?_
  refine lv_iload_n hx hb dJ6_getChars_ba4f3_22 rfl (lv_at hl 1 rfl) ?_
  refine lv_bipush (v := (-100)) hx hb dJ6_getChars_ba4f3_23 (by decide) ?_
  refine lv_icmp_gt (tgt := 72) hx hb dJ6_getChars_ba4f3_25 (by decide) (fun h9 => ((ng_lt (a := 100) (b := x / 100) (by decide) (by omega) (by omega)) h9).elim) (fun _ => ?_)
  refine lv_iload_n hx hb dJ6_getChars_ba4f3_28 rfl (lv_at hl 1 rfl) ?_
  refine lv_bipush (v := 100) hx hb dJ6_getChars_ba4f3_29 (by decide) ?_
  refine lv_idiv hx hb dJ6_getChars_ba4f3_31 (by decide) ?_
  refine lv_topi (fun y_3 ey_3 => ?_)
  obtain rfl : y_3 = (-nI (x / 10000)) := ey_3.trans (by rw [sb_ndiv (by omega), Nat.div_div_eq_div_mul])
  refine lv_istore_n (lv' := [(3, .int (-nI (x / 10000))), (5, .int 4), (0, .int (-nI (x / 100))), (4, .int (nI (x % 100))), (6, .int 0), (1, .int 6), (2, .ref b)]) hx hb dJ6_getChars_ba4f3_32 rfl hl (by decide) rfl (fun ls hl => ?_)
  refine lv_iload_n hx hb dJ6_getChars_ba4f3_33 rfl (lv_at hl 0 rfl) ?_
  refine lv_bipush (v := 100) hx hb dJ6_getChars_ba4f3_34 (by decide) ?_
  refine lv_imul hx hb dJ6_getChars_ba4f3_36 ?_
  refine lv_iload_n hx hb dJ6_getChars_ba4f3_37 rfl (lv_at hl 2 rfl) ?_
  refine lv_isub hx hb dJ6_getChars_ba4f3_38 ?_
  refine lv_topi (fun y_4 ey_4 => ?_)
  obtain rfl : y_4 = nI ((x / 100) % 100) := ey_4.trans (by rw [gc_d4]; exact sb_nrem (by omega))
  refine lv_istore (lv' := [(4, .int (nI ((x / 100) % 100))), (3, .int (-nI (x / 10000))), (5, .int 4), (0, .int (-nI (x / 100))), (6, .int 0), (1, .int 6), (2, .ref b)]) hx hb dJ6_getChars_ba4f3_39 hl (by decide) rfl (fun ls hl => ?_)
  refine lv_iload_n hx hb dJ6_getChars_ba4f3_41 rfl (lv_at hl 1 rfl) ?_
  refine lv_istore_n (lv' := [(0, .int (-nI (x / 10000))), (4, .int (nI ((x / 100) % 100))), (3, .int (-nI (x / 10000))), (5, .int 4), (6, .int 0), (1, .int 6), (2, .ref b)]) hx hb dJ6_getChars_ba4f3_42 rfl hl (by decide) rfl (fun ls hl => ?_)
  refine lv_aload_n hx hb dJ6_getChars_ba4f3_43 rfl (lv_at hl 6 rfl) ?_
  refine lv_iinc (k := 3) (v := 3) (lv' := [(5, .int 3), (0, .int (-nI (x / 10000))), (4, .int (nI ((x / 100) % 100))), (3, .int (-nI (x / 10000))), (6, .int 0), (1, .int 6), (2, .ref b)]) hx hb dJ6_getChars_ba4f3_44 hl rfl (by decide) (by decide) rfl (fun ls hl => ?_)
  refine lv_iload hx hb dJ6_getChars_ba4f3_47 (lv_at hl 0 rfl) ?_
  refine va_gets hx hb (jd_o hXs) hS hown (hts (.fieldLink RJ6 83 "java/lang/Integer" "DigitOnes" "[B") (by decide +kernel)) (fun _ h9 => h9) dJ6_getChars_ba4f3_49 ?_
  refine lv_iload hx hb dJ6_getChars_ba4f3_52 (lv_at hl 2 rfl) ?_
  refine va_tb (v := .int (nI (48 + ((x / 100) % 100) % 10))) hx hb (jd_ot hXs) hS (vp_in_nI (by omega) (by decide)) (by show Value.int _ = _; rw [nI_clamp (by omega)]) dJ6_getChars_ba4f3_54 ?_
  refine va_bast hx hb hK hP hD hS 0 0 rfl rfl (by unfold vp_in; decide) dJ6_getChars_ba4f3_55 (fun H locs hP hD hS => ?_)
  have hP : va_P (dC, dI) vwCl [(b, .inl (cB, 16, .inl (upd (upd (upd zi 5 (nI (48 + (x % 100) % 10))) 4 (nI (48 + (x % 100) / 10))) 3 (nI (48 + ((x / 100) % 100) % 10)))))] H := by have h9 := hP; rw [show (3 : Int32).toNatClampNeg = 3 from by decide, jnb (by omega)] at h9; exact h9
  have hD : va_D A [(b, .inl (cB, 16, .inl (upd (upd (upd zi 5 (nI (48 + (x % 100) % 10))) 4 (nI (48 + (x % 100) / 10))) 3 (nI (48 + ((x / 100) % 100) % 10)))))] := by have h9 := hD; rw [show (3 : Int32).toNatClampNeg = 3 from by decide, jnb (by omega)] at h9; exact h9
  refine lv_aload_n hx hb dJ6_getChars_ba4f3_56 rfl (lv_at hl 6 rfl) ?_
  refine lv_iinc (k := 0) (v := 2) (lv' := [(5, .int 2), (0, .int (-nI (x / 10000))), (4, .int (nI ((x / 100) % 100))), (3, .int (-nI (x / 10000))), (6, .int 0), (1, .int 6), (2, .ref b)]) hx hb dJ6_getChars_ba4f3_57 hl rfl (by decide) (by decide) rfl (fun ls hl => ?_)
  refine lv_iload hx hb dJ6_getChars_ba4f3_60 (lv_at hl 0 rfl) ?_
  refine va_gets hx hb (jd_t hXs) hS hown (hts (.fieldLink RJ6 87 "java/lang/Integer" "DigitTens" "[B") (by decide +kernel)) (fun _ h9 => h9) dJ6_getChars_ba4f3_62 ?_
  refine lv_iload hx hb dJ6_getChars_ba4f3_65 (lv_at hl 2 rfl) ?_
  refine va_tb (v := .int (nI (48 + ((x / 100) % 100) / 10))) hx hb (jd_tt hXs) hS (vp_in_nI (by omega) (by decide)) (by show Value.int _ = _; rw [nI_clamp (by omega)]) dJ6_getChars_ba4f3_67 ?_
  refine va_bast hx hb hK hP hD hS 0 0 rfl rfl (by unfold vp_in; decide) dJ6_getChars_ba4f3_68 (fun H locs hP hD hS => ?_)
  have hP : va_P (dC, dI) vwCl [(b, .inl (cB, 16, .inl (upd (upd (upd (upd zi 5 (nI (48 + (x % 100) % 10))) 4 (nI (48 + (x % 100) / 10))) 3 (nI (48 + ((x / 100) % 100) % 10))) 2 (nI (48 + ((x / 100) % 100) / 10)))))] H := by have h9 := hP; rw [show (2 : Int32).toNatClampNeg = 2 from by decide, jnb (by omega)] at h9; exact h9
  have hD : va_D A [(b, .inl (cB, 16, .inl (upd (upd (upd (upd zi 5 (nI (48 + (x % 100) % 10))) 4 (nI (48 + (x % 100) / 10))) 3 (nI (48 + ((x / 100) % 100) % 10))) 2 (nI (48 + ((x / 100) % 100) / 10)))))] := by have h9 := hD; rw [show (2 : Int32).toNatClampNeg = 2 from by decide, jnb (by omega)] at h9; exact h9
  refine lv_goto (tgt := 22) hx hb dJ6_getChars_ba4f3_69 (by decide) ?_
  refine lv_iload_n hx hb dJ6_getChars_ba4f3_22 rfl (lv_at hl 1 rfl) ?_
  refine lv_bipush (v := (-100)) hx hb dJ6_getChars_ba4f3_23 (by decide) ?_
  refine lv_icmp_gt (tgt := 72) hx hb dJ6_getChars_ba4f3_25 (by decide) (fun _ => ?_) (fun h9 => (h9 ((sb_nlt (a := 100) (b := x / 10000) (by decide) (by omega)).mpr (by omega))).elim)
  refine lv_aload_n hx hb dJ6_getChars_ba4f3_72 rfl (lv_at hl 6 rfl) ?_
  refine lv_iinc (k := 0) (v := 1) (lv' := [(5, .int 1), (0, .int (-nI (x / 10000))), (4, .int (nI ((x / 100) % 100))), (3, .int (-nI (x / 10000))), (6, .int 0), (1, .int 6), (2, .ref b)]) hx hb dJ6_getChars_ba4f3_73 hl rfl (by decide) (by decide) rfl (fun ls hl => ?_)
  refine lv_iload hx hb dJ6_getChars_ba4f3_76 (lv_at hl 0 rfl) ?_
  refine va_gets hx hb (jd_o hXs) hS hown (hts (.fieldLink RJ6 83 "java/lang/Integer" "DigitOnes" "[B") (by decide +kernel)) (fun _ h9 => h9) dJ6_getChars_ba4f3_78 ?_
  refine lv_iload_n hx hb dJ6_getChars_ba4f3_81 rfl (lv_at hl 1 rfl) ?_
  refine lv_ineg hx hb dJ6_getChars_ba4f3_82 ?_
  refine lv_topi (fun y_5 ey_5 => ?_)
  obtain rfl : y_5 = nI (x / 10000) := ey_5.trans (Int32.neg_neg)
  refine va_tb (v := .int (nI (48 + (x / 10000) % 10))) hx hb (jd_ot hXs) hS (vp_in_nI (by omega) (by decide)) (by show Value.int _ = _; rw [nI_clamp (by omega)]) dJ6_getChars_ba4f3_83 ?_
  refine va_bast hx hb hK hP hD hS 0 0 rfl rfl (by unfold vp_in; decide) dJ6_getChars_ba4f3_84 (fun H locs hP hD hS => ?_)
  have hP : va_P (dC, dI) vwCl [(b, .inl (cB, 16, .inl (upd (upd (upd (upd (upd zi 5 (nI (48 + (x % 100) % 10))) 4 (nI (48 + (x % 100) / 10))) 3 (nI (48 + ((x / 100) % 100) % 10))) 2 (nI (48 + ((x / 100) % 100) / 10))) 1 (nI (48 + (x / 10000) % 10)))))] H := by have h9 := hP; rw [show (1 : Int32).toNatClampNeg = 1 from by decide, jnb (by omega)] at h9; exact h9
  have hD : va_D A [(b, .inl (cB, 16, .inl (upd (upd (upd (upd (upd zi 5 (nI (48 + (x % 100) % 10))) 4 (nI (48 + (x % 100) / 10))) 3 (nI (48 + ((x / 100) % 100) % 10))) 2 (nI (48 + ((x / 100) % 100) / 10))) 1 (nI (48 + (x / 10000) % 10)))))] := by have h9 := hD; rw [show (1 : Int32).toNatClampNeg = 1 from by decide, jnb (by omega)] at h9; exact h9
  refine lv_iload_n hx hb dJ6_getChars_ba4f3_85 rfl (lv_at hl 1 rfl) ?_
  refine lv_bipush (v := (-9)) hx hb dJ6_getChars_ba4f3_86 (by decide) ?_
  refine lv_icmp_ge (tgt := 104) hx hb dJ6_getChars_ba4f3_88 (by decide) (fun h9 => ((ng_le (a := 9) (b := x / 10000) (by decide) (by omega) (by omega)) h9).elim) (fun _ => ?_)
  refine lv_aload_n hx hb dJ6_getChars_ba4f3_91 rfl (lv_at hl 6 rfl) ?_
  refine lv_iinc (k := 0) (v := 0) (lv' := [(5, .int 0), (0, .int (-nI (x / 10000))), (4, .int (nI ((x / 100) % 100))), (3, .int (-nI (x / 10000))), (6, .int 0), (1, .int 6), (2, .ref b)]) hx hb dJ6_getChars_ba4f3_92 hl rfl (by decide) (by decide) rfl (fun ls hl => ?_)
  refine lv_iload hx hb dJ6_getChars_ba4f3_95 (lv_at hl 0 rfl) ?_
  refine va_gets hx hb (jd_t hXs) hS hown (hts (.fieldLink RJ6 87 "java/lang/Integer" "DigitTens" "[B") (by decide +kernel)) (fun _ h9 => h9) dJ6_getChars_ba4f3_97 ?_
  refine lv_iload_n hx hb dJ6_getChars_ba4f3_100 rfl (lv_at hl 1 rfl) ?_
  refine lv_ineg hx hb dJ6_getChars_ba4f3_101 ?_
  refine lv_topi (fun y_6 ey_6 => ?_)
  obtain rfl : y_6 = nI (x / 10000) := ey_6.trans (Int32.neg_neg)
  refine va_tb (v := .int (nI (48 + (x / 10000) / 10))) hx hb (jd_tt hXs) hS (vp_in_nI (by omega) (by decide)) (by show Value.int _ = _; rw [nI_clamp (by omega)]) dJ6_getChars_ba4f3_102 ?_
  refine va_bast hx hb hK hP hD hS 0 0 rfl rfl (by unfold vp_in; decide) dJ6_getChars_ba4f3_103 (fun H locs hP hD hS => ?_)
  have hP : va_P (dC, dI) vwCl [(b, .inl (cB, 16, .inl (upd (upd (upd (upd (upd (upd zi 5 (nI (48 + (x % 100) % 10))) 4 (nI (48 + (x % 100) / 10))) 3 (nI (48 + ((x / 100) % 100) % 10))) 2 (nI (48 + ((x / 100) % 100) / 10))) 1 (nI (48 + (x / 10000) % 10))) 0 (nI (48 + (x / 10000) / 10)))))] H := by have h9 := hP; rw [show (0 : Int32).toNatClampNeg = 0 from by decide, jnb (by omega)] at h9; exact h9
  have hD : va_D A [(b, .inl (cB, 16, .inl (upd (upd (upd (upd (upd (upd zi 5 (nI (48 + (x % 100) % 10))) 4 (nI (48 + (x % 100) / 10))) 3 (nI (48 + ((x / 100) % 100) % 10))) 2 (nI (48 + ((x / 100) % 100) / 10))) 1 (nI (48 + (x / 10000) % 10))) 0 (nI (48 + (x / 10000) / 10)))))] := by have h9 := hD; rw [show (0 : Int32).toNatClampNeg = 0 from by decide, jnb (by omega)] at h9; exact h9
  refine lv_iload hx hb dJ6_getChars_ba4f3_104 (lv_at hl 4 rfl) ?_
  refine lv_if_eq (tgt := 118) hx hb dJ6_getChars_ba4f3_106 (by decide) (fun _ => ?_) (fun h9 => absurd h9 (by decide))
  refine lv_iload hx hb dJ6_getChars_ba4f3_118 (lv_at hl 0 rfl) ?_
  rw [gc6 hxl hxh] at hP hD
  have hP : va_P (dC, dI) vwCl [(b, .inl (cB, 16, .inl (gcF x 6)))] H := hP
  have hD : va_D A [(b, .inl (cB, 16, .inl (gcF x 6)))] := hD
  have hP9 := hP.sub (ws' := [(b, .inl (cB, 16, .inl (gcF x 6)))]) [0] rfl
  have hD9 := hD.sub (ws' := [(b, .inl (cB, 16, .inl (gcF x 6)))]) [0] (by decide) rfl
  have hK9 := hK.sub (tys' := [(cB, .byte)]) [0] rfl
  refine W.widen (k := 0) (n := 0) (Nat.le_of_ble_eq_true rfl) (Nat.le_of_ble_eq_true rfl) ?_
  exact W.iret (v := 0) hx hb hr (fun t ht hW => ⟨⟨0, (), rfl, rfl, po_mk ht hW hP9 hK9 hD9⟩, hS.F ht⟩) hS.2.2 dJ6_getChars_ba4f3_120

theorem c_J6_getChars (l : Launch) (dC : Nat → ClassId) (dI : Nat → Nat → Nat) (jk : Nat) (jv : Nat) (jo : Nat) (jt : Nat) (x : Nat) (n : Nat) (b : Nat) (cB : ClassId) (sz : Nat) (hd : Dg x n) : Met l yJ6_getChars_ba4f3 wsJ6_getChars_ba4f3 ({ frames := 2, cells := 0, slots := 0, locals := 40 }) (va_Pc [.int (nI x), .int (nI n), .ref b] (fun U => pr_ dC dI [(b, .inl (cB, 16, .inl zi))] [(cB, .byte)] sz U ∧ jd_ (va_A [(b, .inl (cB, 16, .inl zi))] sz) jk jv jo jt U)) (va_Qi (fun (r : Int32) (_ : Unit) => r = 0) (fun (_ : Unit) t => po_ dC dI [(b, .inl (cB, 16, .inl (gcF x n)))] [(cB, .byte)] (va_A [(b, .inl (cB, 16, .inl zi))] sz) t) (va_A [(b, .inl (cB, 16, .inl zi))] sz)) 0 0 (va_A [(b, .inl (cB, 16, .inl zi))] sz) := by
  have h : n = 1 ∨ n = 2 ∨ n = 3 ∨ n = 4 ∨ n = 5 ∨ n = 6 := by
    have h1 := hd.1
    have h2 := hd.2.1
    omega
  rcases h with rfl | rfl | rfl | rfl | rfl | rfl
  · exact c_J6_getChars_1 l dC dI jk jv jo jt x b cB sz hd.2.2.1 hd.2.2.2
  · exact c_J6_getChars_2 l dC dI jk jv jo jt x b cB sz hd.2.2.1 hd.2.2.2
  · exact c_J6_getChars_3 l dC dI jk jv jo jt x b cB sz hd.2.2.1 hd.2.2.2
  · exact c_J6_getChars_4 l dC dI jk jv jo jt x b cB sz hd.2.2.1 hd.2.2.2
  · exact c_J6_getChars_5 l dC dI jk jv jo jt x b cB sz hd.2.2.1 hd.2.2.2
  · exact c_J6_getChars_6 l dC dI jk jv jo jt x b cB sz hd.2.2.1 hd.2.2.2

set_option maxHeartbeats 4000000 in
set_option maxRecDepth 100000 in
theorem c_J5_append_c97b9 (l : Launch) (dC : Nat → ClassId) (dI : Nat → Nat → Nat) (jk : Nat) (jv : Nat) (jo : Nat) (jt : Nat) (sb : Nat) (b : Nat) (cB : ClassId) (x : Nat) (n : Nat) (sz : Nat) (hd : Dg x n) : Met l yJ5_append_c97b9 wsJ5_append_c97b9 ({ frames := 4, cells := 0, slots := 0, locals := 120 }) (va_Pc [.ref sb, .int (nI x)] (fun U => pr_ dC dI [(sb, .inr (1, [.ref b, .int 0, .int 0, .int 0])), (b, .inl (cB, 16, .inl zi))] [(cB, .byte)] sz U ∧ jd_ (va_A [(sb, .inr (1, [.ref b, .int 0, .int 0, .int 0])), (b, .inl (cB, 16, .inl zi))] sz) jk jv jo jt U)) (va_Qr (fun (_ : Unit) => True) (fun (_ : Unit) RES t => RES = sb ∧ po_ dC dI [(sb, .inr (1, [.ref b, .int 0, .int 0, .int (nI n)])), (b, .inl (cB, 16, .inl (gcF x n)))] [(cB, .byte)] (va_A [(sb, .inr (1, [.ref b, .int 0, .int 0, .int 0])), (b, .inl (cB, 16, .inl zi))] sz) t) (va_A [(sb, .inr (1, [.ref b, .int 0, .int 0, .int 0])), (b, .inl (cB, 16, .inl zi))] sz)) 0 0 (va_A [(sb, .inr (1, [.ref b, .int 0, .int 0, .int 0])), (b, .inl (cB, 16, .inl zi))] sz) := by
  refine Met.ofW (cc := cJ5_append_c97b9) (maxL := 4) (ret := (some (.object "java/lang/AbstractStringBuilder"))) (by decide) rfl ?_
  intro p e s m args below meth c s₁ B hml hv
  obtain ⟨rfl, ⟨hsz, hP, hK, hD0⟩, hXs⟩ := hv
  have hx := B.exec
  have hb := B.bytes
  have hr := B.returns
  have hts := atoms_spec (ws := wsJ5_append_c97b9) B.pre
  have hown : s.vm.findClass RJ5 = some m.cls := findClass_of_methodNamed B.named
  have hlocks := B.notSynchronized
  subst hsz
  have hD := hD0.self (sz := s.heap.size)
  have hn1 : 1 ≤ n := hd.1
  have hn6 : n ≤ 6 := hd.2.1
  have hx6 : x < 1000000 := dg_x hd
  have hx1 : 1 ≤ x := dg_1 hd
  generalize hAe : va_A [(sb, .inr (1, [.ref b, .int 0, .int 0, .int 0])), (b, .inl (cB, 16, .inl zi))] s.heap.size = A at hD hXs ⊢
  have hA : ∀ q : Nat, s.heap.size ≤ q → A q := fun q h => by rw [← hAe]; exact Or.inr h
  have hS : va_S A s.heap s.heap [] := va_S.rf
  have hP : va_P (dC, dI) vwCl [(sb, .inr (1, [.ref b, .int 0, .int 0, .int 0])), (b, .inl (cB, 16, .inl zi))] s.heap := hP
  have hK : va_K (dC, dI) vwCl [(cB, .byte)] s := hK
  have hl := lv_entry ([.ref sb, .int (nI x)]) (n := 4) (Nat.le_of_ble_eq_true rfl)
  rw [lg_entry_eq]
  generalize (lg_sl ([.ref sb, .int (nI x)]) ++ List.replicate (4 - (lg_sl ([.ref sb, .int (nI x)])).length) Slot.unset).toArray = ls at hl ⊢
  have hl : lv_has ls 4 [(0, .ref sb), (1, .int (nI x))] := hl
  refine lv_aload_n hx hb dJ5_append_c97b9_0 rfl (lv_at hl 0 rfl) ?_
  have hinJ4 : ∀ w ∈ u_ws RJ4 TJ4 4, w ∈ wsJ5_append_c97b9 := by decide +kernel
  refine va_get (D := (dC, dI)) (ci := 1) (v := .int 0) (C := RJ4) (T := TJ4) (N := 4) hx hb hts hinJ4 hown hK hP 0 rfl rfl 3 (by decide) (hts (.fieldLink RJ5 79 "java/lang/AbstractStringBuilder" "count" "I") (by decide +kernel)) (fun _ h9 => h9) rfl dJ5_append_c97b9_1 ?_
  refine lv_istore_n (lv' := [(2, .int 0), (0, .ref sb), (1, .int (nI x))]) hx hb dJ5_append_c97b9_4 rfl hl (by decide) rfl (fun ls hl => ?_)
  refine lv_iload_n hx hb dJ5_append_c97b9_5 rfl (lv_at hl 0 rfl) ?_
  refine lv_iload_n hx hb dJ5_append_c97b9_6 rfl (lv_at hl 2 rfl) ?_
  have hPc := hP.sub (ws' := []) [] rfl
  have hDc := hD.sub (ws' := []) [] (by decide) rfl
  have hKc := hK.sub (tys' := []) [] rfl
  have hFc := va_free (wc := []) hD hS hA [] rfl
  refine va_calli (va_runS (As := [.int (nI x)]) (rest := [.int 0]) ⟨hx, hb, hml, hown, hts⟩ (c_J6_stringSize_0f7a4 l dC dI x n _ hd) (va_cwS 1 hts gJ5_append_c97b9_J6_stringSize_0f7a4 rfl rfl rfl (by decide +kernel) ⟨Nat.le_of_ble_eq_true rfl, Nat.le_of_ble_eq_true rfl⟩) ⟨pr_blind, fun U hU hW => ⟨rfl, pr_mk hU hW hPc hKc hDc⟩⟩ rfl rfl hl.1 rfl (lv_room (Nat.le_of_ble_eq_true rfl)) dJ5_append_c97b9_7 ⟨Nat.le_of_ble_eq_true rfl, Nat.le_of_ble_eq_true rfl⟩) hS (fun q _ h => hFc q h) hFc (fun r_2 u_1 t H1 locs ht hvm hw hB hz1 hk1 hS => ?_)
  obtain ⟨hP1, hK1, hD1⟩ := hB
  rw [ht] at hP1
  obtain ⟨hP, hD⟩ := va_join (wr := [(sb, .inr (1, [.ref b, .int 0, .int 0, .int 0])), (b, .inl (cB, 16, .inl zi))]) (w1 := []) hP hD [] [0, 1] rfl rfl (by decide) (by decide) hk1 hFc hP1 hD1
  generalize H1 = H at hP hS ⊢
  have hP : va_P (dC, dI) vwCl [(sb, .inr (1, [.ref b, .int 0, .int 0, .int 0])), (b, .inl (cB, 16, .inl zi))] H := hP
  have hD : va_D A [(sb, .inr (1, [.ref b, .int 0, .int 0, .int 0])), (b, .inl (cB, 16, .inl zi))] := hD
  refine W.widen (k := 0) (n := 0) (Nat.le_refl _) (Nat.le_refl _) ?_
  have hw : nI n = r_2 := Eq.symm hw
  subst hw
  refine lv_iadd hx hb dJ5_append_c97b9_10 ?_
  refine lv_topi (fun y_3 ey_3 => ?_)
  obtain rfl : y_3 = nI n := ey_3.trans (Int32.zero_add _)
  refine lv_istore_n (lv' := [(3, .int (nI n)), (2, .int 0), (0, .ref sb), (1, .int (nI x))]) hx hb dJ5_append_c97b9_11 rfl hl (by decide) rfl (fun ls hl => ?_)
  refine lv_aload_n hx hb dJ5_append_c97b9_12 rfl (lv_at hl 2 rfl) ?_
  refine lv_iload_n hx hb dJ5_append_c97b9_13 rfl (lv_at hl 0 rfl) ?_
  have hPc := hP.sub (ws' := [(sb, .inr (1, [.ref b, .int 0, .int 0, .int 0])), (b, .inl (cB, 16, .inl zi))]) [0, 1] rfl
  have hDc := hD.sub (ws' := [(sb, .inr (1, [.ref b, .int 0, .int 0, .int 0])), (b, .inl (cB, 16, .inl zi))]) [0, 1] (by decide) rfl
  have hKc := hK.sub (tys' := [(cB, .byte)]) [0] rfl
  have hFc := va_free (wc := [(sb, .inr (1, [.ref b, .int 0, .int 0, .int 0])), (b, .inl (cB, 16, .inl zi))]) hD hS hA [0, 1] rfl
  refine va_callv (va_runU (As := [.int (nI n)]) (rest := []) ⟨hx, hb, hml, hown, hts⟩ (c_J5_ensureCapacityInternal_d00df l dC dI jk jv jo jt sb b cB (0 : Int32) zi (nI n) _ (ecap hd)) (va_cwU (C := RJ4) (owner := "java/lang/AbstractStringBuilder") (x := yJ5_ensureCapacityInternal_d00df) (y := yJ5_ensureCapacityInternal_d00df) 1 hts (show GoodIn wsJ5_append_c97b9 (va_wsU RJ5 100 RJ4 "java/lang/AbstractStringBuilder" yJ5_ensureCapacityInternal_d00df yJ5_ensureCapacityInternal_d00df wsJ5_ensureCapacityInternal_d00df) from goodIn_app (goodIn_of _ (by decide +kernel)) ggJ5_append_c97b9_J5_ensureCapacityInternal_d00df) rfl rfl rfl rfl (by decide +kernel) ⟨Nat.le_of_ble_eq_true rfl, Nat.le_of_ble_eq_true rfl⟩) ⟨pe_blind jd_bl, va_recv hKc hPc (ci := 1) (q0 := 0) rfl rfl, fun U hU hW => ⟨rfl, pr_mk hU hW hPc hKc hDc, jd_mk hU hW hS hFc hXs⟩⟩ rfl rfl hl.1 rfl (lv_room (Nat.le_of_ble_eq_true rfl)) dJ5_append_c97b9_14 ⟨Nat.le_of_ble_eq_true rfl, Nat.le_of_ble_eq_true rfl⟩) hS (fun q _ h => hFc q h) hFc (fun u_4 t H1 locs ht hvm hw hB hz1 hk1 hS => ?_)
  obtain ⟨hP1, hK1, hD1⟩ := hB
  rw [ht] at hP1
  obtain ⟨hP, hD⟩ := va_join (wr := []) (w1 := [(sb, .inr (1, [.ref b, .int 0, .int 0, .int 0])), (b, .inl (cB, 16, .inl zi))]) hP hD [0, 1] [] rfl rfl (by decide) (by decide) hk1 hFc hP1 hD1
  generalize H1 = H at hP hS ⊢
  have hP : va_P (dC, dI) vwCl [(sb, .inr (1, [.ref b, .int 0, .int 0, .int 0])), (b, .inl (cB, 16, .inl zi))] H := hP
  have hD : va_D A [(sb, .inr (1, [.ref b, .int 0, .int 0, .int 0])), (b, .inl (cB, 16, .inl zi))] := hD
  refine W.widen (k := 0) (n := 0) (Nat.le_refl _) (Nat.le_refl _) ?_
  refine lv_aload_n hx hb dJ5_append_c97b9_17 rfl (lv_at hl 2 rfl) ?_
  have hPc := hP.sub (ws' := [(sb, .inr (1, [.ref b, .int 0, .int 0, .int 0]))]) [0] rfl
  have hDc := hD.sub (ws' := [(sb, .inr (1, [.ref b, .int 0, .int 0, .int 0]))]) [0] (by decide) rfl
  have hKc := hK.sub (tys' := []) [] rfl
  have hFc := va_free (wc := [(sb, .inr (1, [.ref b, .int 0, .int 0, .int 0]))]) hD hS hA [0] rfl
  refine va_calli (va_runU (As := []) (rest := []) ⟨hx, hb, hml, hown, hts⟩ (c_J5_isLatin1_aae02 l dC dI jk jv jo jt sb b (0 : Int32) _ ) (va_cwU (C := RJ4) (owner := "java/lang/AbstractStringBuilder") (x := yJ5_isLatin1_aae02) (y := yJ5_isLatin1_aae02) 0 hts (show GoodIn wsJ5_append_c97b9 (va_wsU RJ5 83 RJ4 "java/lang/AbstractStringBuilder" yJ5_isLatin1_aae02 yJ5_isLatin1_aae02 wsJ5_isLatin1_aae02) from goodIn_app (goodIn_of _ (by decide +kernel)) ggJ5_append_c97b9_J5_isLatin1_aae02) rfl rfl rfl rfl (by decide +kernel) ⟨Nat.le_of_ble_eq_true rfl, Nat.le_of_ble_eq_true rfl⟩) ⟨pe_blind jd_bl, va_recv hKc hPc (ci := 1) (q0 := 0) rfl rfl, fun U hU hW => ⟨rfl, pr_mk hU hW hPc hKc hDc, jd_mk hU hW hS hFc hXs⟩⟩ rfl rfl hl.1 rfl (lv_room (Nat.le_of_ble_eq_true rfl)) dJ5_append_c97b9_18 ⟨Nat.le_of_ble_eq_true rfl, Nat.le_of_ble_eq_true rfl⟩) hS (fun q _ h => hFc q h) hFc (fun r_7 u_6 t H1 locs ht hvm hw hB hz1 hk1 hS => ?_)
  obtain ⟨hP1, hK1, hD1⟩ := hB
  rw [ht] at hP1
  obtain ⟨hP, hD⟩ := va_join (wr := [(b, .inl (cB, 16, .inl zi))]) (w1 := [(sb, .inr (1, [.ref b, .int 0, .int 0, .int 0]))]) hP hD [0] [1] rfl rfl (by decide) (by decide) hk1 hFc hP1 hD1
  generalize H1 = H at hP hS ⊢
  have hP : va_P (dC, dI) vwCl [(b, .inl (cB, 16, .inl zi)), (sb, .inr (1, [.ref b, .int 0, .int 0, .int 0]))] H := hP
  have hD : va_D A [(b, .inl (cB, 16, .inl zi)), (sb, .inr (1, [.ref b, .int 0, .int 0, .int 0]))] := hD
  refine W.widen (k := 0) (n := 0) (Nat.le_refl _) (Nat.le_refl _) ?_
  have hw : 1 = r_7 := Eq.symm hw
  subst hw
  refine lv_if_eq (tgt := 37) hx hb dJ5_append_c97b9_21 (by decide) (fun h9 => absurd h9 (by decide)) (fun _ => ?_)
  refine lv_iload_n hx hb dJ5_append_c97b9_24 rfl (lv_at hl 3 rfl) ?_
  refine lv_iload_n hx hb dJ5_append_c97b9_25 rfl (lv_at hl 0 rfl) ?_
  refine lv_aload_n hx hb dJ5_append_c97b9_26 rfl (lv_at hl 2 rfl) ?_
  refine va_get (D := (dC, dI)) (ci := 1) (v := .ref b) (C := RJ4) (T := TJ4) (N := 4) hx hb hts hinJ4 hown hK hP 1 rfl rfl 0 (by decide) (hts (.fieldLink RJ5 15 "java/lang/AbstractStringBuilder" "value" "[B") (by decide +kernel)) (fun _ h9 => h9) rfl dJ5_append_c97b9_27 ?_
  have hPc := hP.sub (ws' := [(b, .inl (cB, 16, .inl zi))]) [0] rfl
  have hDc := hD.sub (ws' := [(b, .inl (cB, 16, .inl zi))]) [0] (by decide) rfl
  have hKc := hK.sub (tys' := [(cB, .byte)]) [0] rfl
  have hFc := va_free (wc := [(b, .inl (cB, 16, .inl zi))]) hD hS hA [0] rfl
  refine va_calli (va_runS (As := [.int (nI x), .int (nI n), .ref b]) (rest := []) ⟨hx, hb, hml, hown, hts⟩ (c_J6_getChars l dC dI jk jv jo jt x n b cB _ hd) (va_cwS 3 hts gJ5_append_c97b9_J6_getChars_ba4f3 rfl rfl rfl (by decide +kernel) ⟨Nat.le_of_ble_eq_true rfl, Nat.le_of_ble_eq_true rfl⟩) ⟨pe_blind jd_bl, fun U hU hW => ⟨rfl, pr_mk hU hW hPc hKc hDc, jd_mk hU hW hS hFc hXs⟩⟩ rfl rfl hl.1 rfl (lv_room (Nat.le_of_ble_eq_true rfl)) dJ5_append_c97b9_30 ⟨Nat.le_of_ble_eq_true rfl, Nat.le_of_ble_eq_true rfl⟩) hS (fun q _ h => hFc q h) hFc (fun r_9 u_8 t H1 locs ht hvm hw hB hz1 hk1 hS => ?_)
  obtain ⟨hP1, hK1, hD1⟩ := hB
  rw [ht] at hP1
  obtain ⟨hP, hD⟩ := va_join (wr := [(sb, .inr (1, [.ref b, .int 0, .int 0, .int 0]))]) (w1 := [(b, .inl (cB, 16, .inl (gcF x n)))]) hP hD [0] [1] rfl rfl (by decide) (by decide) hk1 hFc hP1 hD1
  generalize H1 = H at hP hS ⊢
  have hP : va_P (dC, dI) vwCl [(sb, .inr (1, [.ref b, .int 0, .int 0, .int 0])), (b, .inl (cB, 16, .inl (gcF x n)))] H := hP
  have hD : va_D A [(sb, .inr (1, [.ref b, .int 0, .int 0, .int 0])), (b, .inl (cB, 16, .inl (gcF x n)))] := hD
  refine W.widen (k := 0) (n := 0) (Nat.le_refl _) (Nat.le_refl _) ?_
  have hw : 0 = r_9 := Eq.symm hw
  subst hw
  refine lv_pop hx hb dJ5_append_c97b9_33 rfl ?_
  refine lv_goto (tgt := 48) hx hb dJ5_append_c97b9_34 (by decide) ?_
  refine lv_aload_n hx hb dJ5_append_c97b9_48 rfl (lv_at hl 2 rfl) ?_
  refine lv_iload_n hx hb dJ5_append_c97b9_49 rfl (lv_at hl 0 rfl) ?_
  refine va_put (D := (dC, dI)) (ci := 1) (v := .int (nI n)) (ty := .int) (C := RJ4) (T := TJ4) (N := 4) hx hb hts hinJ4 tyJ4 tyJ4_ok nmJ4 hown hK hP hD hS 0 rfl rfl 3 (by decide) (hts (.fieldLink RJ5 79 "java/lang/AbstractStringBuilder" "count" "I") (by decide +kernel)) (fun _ h9 => h9) rfl (by decide +kernel) rfl rfl (Nat.le_of_ble_eq_true rfl) dJ5_append_c97b9_50 (fun H locs hP hD hS => ?_)
  have hP : va_P (dC, dI) vwCl [(sb, .inr (1, [.ref b, .int 0, .int 0, .int (nI n)])), (b, .inl (cB, 16, .inl (gcF x n)))] H := hP
  have hD : va_D A [(sb, .inr (1, [.ref b, .int 0, .int 0, .int (nI n)])), (b, .inl (cB, 16, .inl (gcF x n)))] := hD
  refine lv_aload_n hx hb dJ5_append_c97b9_53 rfl (lv_at hl 2 rfl) ?_
  have hP9 := hP.sub (ws' := [(sb, .inr (1, [.ref b, .int 0, .int 0, .int (nI n)])), (b, .inl (cB, 16, .inl (gcF x n)))]) [0, 1] rfl
  have hD9 := hD.sub (ws' := [(sb, .inr (1, [.ref b, .int 0, .int 0, .int (nI n)])), (b, .inl (cB, 16, .inl (gcF x n)))]) [0, 1] (by decide) rfl
  have hK9 := hK.sub (tys' := [(cB, .byte)]) [0] rfl
  refine W.widen (k := 0) (n := 0) (Nat.le_of_ble_eq_true rfl) (Nat.le_of_ble_eq_true rfl) ?_
  exact W.aret (v := .ref sb) (rt := (.object "java/lang/AbstractStringBuilder")) hx hb hr (Or.inl ⟨_, rfl⟩) (Or.inr ⟨_, rfl⟩) (fun t ht hW => ⟨⟨(), sb, rfl, trivial, ⟨rfl, po_mk ht hW hP9 hK9 hD9⟩⟩, hS.F ht⟩) hS.2.2 dJ5_append_c97b9_54

set_option maxHeartbeats 4000000 in
set_option maxRecDepth 100000 in
theorem c_J4_append_bf812 (l : Launch) (dC : Nat → ClassId) (dI : Nat → Nat → Nat) (jk : Nat) (jv : Nat) (jo : Nat) (jt : Nat) (sb : Nat) (b : Nat) (cB : ClassId) (x : Nat) (n : Nat) (sz : Nat) (hd : Dg x n) : Met l yJ4_append_bf812 wsJ4_append_bf812 ({ frames := 5, cells := 0, slots := 0, locals := 150 }) (va_Pc [.ref sb, .int (nI x)] (fun U => pr_ dC dI [(sb, .inr (1, [.ref b, .int 0, .int 0, .int 0])), (b, .inl (cB, 16, .inl zi))] [(cB, .byte)] sz U ∧ jd_ (va_A [(sb, .inr (1, [.ref b, .int 0, .int 0, .int 0])), (b, .inl (cB, 16, .inl zi))] sz) jk jv jo jt U)) (va_Qr (fun (_ : Unit) => True) (fun (_ : Unit) RES t => RES = sb ∧ po_ dC dI [(sb, .inr (1, [.ref b, .int 0, .int 0, .int (nI n)])), (b, .inl (cB, 16, .inl (gcF x n)))] [(cB, .byte)] (va_A [(sb, .inr (1, [.ref b, .int 0, .int 0, .int 0])), (b, .inl (cB, 16, .inl zi))] sz) t) (va_A [(sb, .inr (1, [.ref b, .int 0, .int 0, .int 0])), (b, .inl (cB, 16, .inl zi))] sz)) 0 0 (va_A [(sb, .inr (1, [.ref b, .int 0, .int 0, .int 0])), (b, .inl (cB, 16, .inl zi))] sz) := by
  refine Met.ofW (cc := cJ4_append_bf812) (maxL := 2) (ret := (some (.object "java/lang/StringBuilder"))) (by decide) rfl ?_
  intro p e s m args below meth c s₁ B hml hv
  obtain ⟨rfl, ⟨hsz, hP, hK, hD0⟩, hXs⟩ := hv
  have hx := B.exec
  have hb := B.bytes
  have hr := B.returns
  have hts := atoms_spec (ws := wsJ4_append_bf812) B.pre
  have hown : s.vm.findClass RJ4 = some m.cls := findClass_of_methodNamed B.named
  have hlocks := B.notSynchronized
  subst hsz
  have hD := hD0.self (sz := s.heap.size)
  have hn1 : 1 ≤ n := hd.1
  have hn6 : n ≤ 6 := hd.2.1
  have hx6 : x < 1000000 := dg_x hd
  have hx1 : 1 ≤ x := dg_1 hd
  generalize hAe : va_A [(sb, .inr (1, [.ref b, .int 0, .int 0, .int 0])), (b, .inl (cB, 16, .inl zi))] s.heap.size = A at hD hXs ⊢
  have hA : ∀ q : Nat, s.heap.size ≤ q → A q := fun q h => by rw [← hAe]; exact Or.inr h
  have hS : va_S A s.heap s.heap [] := va_S.rf
  have hP : va_P (dC, dI) vwCl [(sb, .inr (1, [.ref b, .int 0, .int 0, .int 0])), (b, .inl (cB, 16, .inl zi))] s.heap := hP
  have hK : va_K (dC, dI) vwCl [(cB, .byte)] s := hK
  have hl := lv_entry ([.ref sb, .int (nI x)]) (n := 2) (Nat.le_of_ble_eq_true rfl)
  rw [lg_entry_eq]
  generalize (lg_sl ([.ref sb, .int (nI x)]) ++ List.replicate (2 - (lg_sl ([.ref sb, .int (nI x)])).length) Slot.unset).toArray = ls at hl ⊢
  have hl : lv_has ls 2 [(0, .ref sb), (1, .int (nI x))] := hl
  refine lv_aload_n hx hb dJ4_append_bf812_0 rfl (lv_at hl 0 rfl) ?_
  refine lv_iload_n hx hb dJ4_append_bf812_1 rfl (lv_at hl 1 rfl) ?_
  have hPc := hP.sub (ws' := [(sb, .inr (1, [.ref b, .int 0, .int 0, .int 0])), (b, .inl (cB, 16, .inl zi))]) [0, 1] rfl
  have hDc := hD.sub (ws' := [(sb, .inr (1, [.ref b, .int 0, .int 0, .int 0])), (b, .inl (cB, 16, .inl zi))]) [0, 1] (by decide) rfl
  have hKc := hK.sub (tys' := [(cB, .byte)]) [0] rfl
  have hFc := va_free (wc := [(sb, .inr (1, [.ref b, .int 0, .int 0, .int 0])), (b, .inl (cB, 16, .inl zi))]) hD hS hA [0, 1] rfl
  refine va_callr (va_runSU (hK.1 1 _ rfl).2 (As := [.int (nI x)]) (rest := []) ⟨hx, hb, hml, hown, hts⟩ (c_J5_append_c97b9 l dC dI jk jv jo jt sb b cB x n _ hd) (va_cwSU (y := yJ5_append_c97b9) 1 hts (show GoodIn wsJ4_append_bf812 (va_wsSU RJ4 53 yJ5_append_c97b9 wsJ5_append_c97b9) from goodIn_app (goodIn_of _ (by decide +kernel)) ggJ4_append_bf812_J5_append_c97b9) rfl rfl rfl (by decide +kernel) ⟨Nat.le_of_ble_eq_true rfl, Nat.le_of_ble_eq_true rfl⟩) ⟨pe_blind jd_bl, va_recv hKc hPc (ci := 1) (q0 := 0) rfl rfl, fun U hU hW => ⟨rfl, pr_mk hU hW hPc hKc hDc, jd_mk hU hW hS hFc hXs⟩⟩ rfl rfl hl.1 rfl (lv_room (Nat.le_of_ble_eq_true rfl)) dJ4_append_bf812_2 ⟨Nat.le_of_ble_eq_true rfl, Nat.le_of_ble_eq_true rfl⟩) hS (fun q _ h => hFc q h) hFc (fun u_1 r_2 t H1 locs ht hvm hw hB hz1 hk1 hS => ?_)
  obtain ⟨hrb, hP1, hK1, hD1⟩ := hB
  have hrb := hrb.symm
  subst hrb
  have hw9 := hw
  rw [ht] at hP1
  obtain ⟨hP, hD⟩ := va_join (wr := []) (w1 := [(sb, .inr (1, [.ref b, .int 0, .int 0, .int (nI n)])), (b, .inl (cB, 16, .inl (gcF x n)))]) hP hD [0, 1] [] rfl rfl (by decide) (by decide) hk1 hFc hP1 hD1
  generalize H1 = H at hP hS ⊢
  have hP : va_P (dC, dI) vwCl [(sb, .inr (1, [.ref b, .int 0, .int 0, .int (nI n)])), (b, .inl (cB, 16, .inl (gcF x n)))] H := hP
  have hD : va_D A [(sb, .inr (1, [.ref b, .int 0, .int 0, .int (nI n)])), (b, .inl (cB, 16, .inl (gcF x n)))] := hD
  refine W.widen (k := 0) (n := 0) (Nat.le_refl _) (Nat.le_refl _) ?_
  refine lv_pop hx hb dJ4_append_bf812_5 rfl ?_
  refine lv_aload_n hx hb dJ4_append_bf812_6 rfl (lv_at hl 0 rfl) ?_
  have hP9 := hP.sub (ws' := [(sb, .inr (1, [.ref b, .int 0, .int 0, .int (nI n)])), (b, .inl (cB, 16, .inl (gcF x n)))]) [0, 1] rfl
  have hD9 := hD.sub (ws' := [(sb, .inr (1, [.ref b, .int 0, .int 0, .int (nI n)])), (b, .inl (cB, 16, .inl (gcF x n)))]) [0, 1] (by decide) rfl
  have hK9 := hK.sub (tys' := [(cB, .byte)]) [0] rfl
  refine W.widen (k := 0) (n := 0) (Nat.le_of_ble_eq_true rfl) (Nat.le_of_ble_eq_true rfl) ?_
  exact W.aret (v := .ref sb) (rt := (.object "java/lang/StringBuilder")) hx hb hr (Or.inl ⟨_, rfl⟩) (Or.inr ⟨_, rfl⟩) (fun t ht hW => ⟨⟨(), sb, rfl, trivial, ⟨rfl, po_mk ht hW hP9 hK9 hD9⟩⟩, hS.F ht⟩) hS.2.2 dJ4_append_bf812_7

set_option maxHeartbeats 4000000 in
set_option maxRecDepth 100000 in
theorem c_J7_checkLength_df160 (l : Launch) (dC : Nat → ClassId) (dI : Nat → Nat → Nat) (x : Nat) (n : Nat) (sz : Nat) (hd : Dg x n) : Met l yJ7_checkLength_df160 wsJ7_checkLength_df160 ({ frames := 2, cells := 0, slots := 0, locals := 40 }) (va_Pc [.int 0, .int (nI n)] (pr_ dC dI [] [] sz)) (va_Qv (fun (_ : Unit) => True) (fun (_ : Unit) t => po_ dC dI [] [] (va_A [] sz) t) (va_A [] sz)) 0 0 (va_A [] sz) := by
  refine Met.ofW (cc := cJ7_checkLength_df160) (maxL := 2) (ret := none) (by decide) rfl ?_
  intro p e s m args below meth c s₁ B hml hv
  obtain ⟨rfl, hsz, hP, hK, hD0⟩ := hv
  have hx := B.exec
  have hb := B.bytes
  have hr := B.returns
  have hts := atoms_spec (ws := wsJ7_checkLength_df160) B.pre
  have hown : s.vm.findClass RJ7 = some m.cls := findClass_of_methodNamed B.named
  have hlocks := B.notSynchronized
  subst hsz
  have hD := hD0.self (sz := s.heap.size)
  have hn1 : 1 ≤ n := hd.1
  have hn6 : n ≤ 6 := hd.2.1
  have hx6 : x < 1000000 := dg_x hd
  have hx1 : 1 ≤ x := dg_1 hd
  generalize hAe : va_A [] s.heap.size = A at hD ⊢
  have hA : ∀ q : Nat, s.heap.size ≤ q → A q := fun q h => by rw [← hAe]; exact Or.inr h
  have hS : va_S A s.heap s.heap [] := va_S.rf
  have hP : va_P (dC, dI) vwCl [] s.heap := hP
  have hK : va_K (dC, dI) vwCl [] s := hK
  have hl := lv_entry ([.int 0, .int (nI n)]) (n := 2) (Nat.le_of_ble_eq_true rfl)
  rw [lg_entry_eq]
  generalize (lg_sl ([.int 0, .int (nI n)]) ++ List.replicate (2 - (lg_sl ([.int 0, .int (nI n)])).length) Slot.unset).toArray = ls at hl ⊢
  have hl : lv_has ls 2 [(0, .int 0), (1, .int (nI n))] := hl
  refine lv_iload_n hx hb dJ7_checkLength_df160_0 rfl (lv_at hl 1 rfl) ?_
  refine lv_iload_n hx hb dJ7_checkLength_df160_1 rfl (lv_at hl 0 rfl) ?_
  refine lv_icmp_ge (tgt := 37) hx hb dJ7_checkLength_df160_2 (by decide) (fun _ => ?_) (fun h9 => (h9 (nI_pos' (by omega))).elim)
  have hP9 := hP.sub (ws' := []) [] rfl
  have hD9 := hD.sub (ws' := []) [] (by decide) rfl
  have hK9 := hK.sub (tys' := []) [] rfl
  refine W.widen (k := 0) (n := 0) (Nat.le_of_ble_eq_true rfl) (Nat.le_of_ble_eq_true rfl) ?_
  exact W.vret hx hb hr (fun t ht hW => ⟨⟨(), rfl, trivial, po_mk ht hW hP9 hK9 hD9⟩, hS.F ht⟩) hS.2.2 dJ7_checkLength_df160_37

set_option maxHeartbeats 4000000 in
set_option maxRecDepth 100000 in
theorem c_J7_copyOfRangeByte_39247 (l : Launch) (dC : Nat → ClassId) (dI : Nat → Nat → Nat) (jk : Nat) (jv : Nat) (jo : Nat) (jt : Nat) (b : Nat) (cB : ClassId) (x : Nat) (n : Nat) (sz : Nat) (hd : Dg x n) : Met l yJ7_copyOfRangeByte_39247 wsJ7_copyOfRangeByte_39247 ({ frames := 3, cells := 1, slots := 6, locals := 80 }) (va_Pc [.ref b, .int 0, .int (nI n)] (fun U => pr_ dC dI [(b, .inl (cB, 16, .inl (gcF x n)))] [(cB, .byte)] sz U ∧ jd_ (va_A [(b, .inl (cB, 16, .inl (gcF x n)))] sz) jk jv jo jt U)) (va_Qr (fun (_ : Unit) => True) (fun (_ : Unit) RES t => po_ dC dI [(b, .inl (cB, 16, .inl (gcF x n))), (RES, .inl (cB, n, .inl (gcF x n)))] [(cB, .byte)] (va_A [(b, .inl (cB, 16, .inl (gcF x n)))] sz) t) (va_A [(b, .inl (cB, 16, .inl (gcF x n)))] sz)) 1 6 (va_A [(b, .inl (cB, 16, .inl (gcF x n)))] sz) := by
  refine Met.ofW (cc := cJ7_copyOfRangeByte_39247) (maxL := 5) (ret := (some (.array .byte))) (by decide) rfl ?_
  intro p e s m args below meth c s₁ B hml hv
  obtain ⟨rfl, ⟨hsz, hP, hK, hD0⟩, hXs⟩ := hv
  have hx := B.exec
  have hb := B.bytes
  have hr := B.returns
  have hts := atoms_spec (ws := wsJ7_copyOfRangeByte_39247) B.pre
  have hown : s.vm.findClass RJ7 = some m.cls := findClass_of_methodNamed B.named
  have hlocks := B.notSynchronized
  subst hsz
  have hD := hD0.self (sz := s.heap.size)
  have hn1 : 1 ≤ n := hd.1
  have hn6 : n ≤ 6 := hd.2.1
  have hx6 : x < 1000000 := dg_x hd
  have hx1 : 1 ≤ x := dg_1 hd
  generalize hAe : va_A [(b, .inl (cB, 16, .inl (gcF x n)))] s.heap.size = A at hD hXs ⊢
  have hA : ∀ q : Nat, s.heap.size ≤ q → A q := fun q h => by rw [← hAe]; exact Or.inr h
  have hS : va_S A s.heap s.heap [] := va_S.rf
  have hP : va_P (dC, dI) vwCl [(b, .inl (cB, 16, .inl (gcF x n)))] s.heap := hP
  have hK : va_K (dC, dI) vwCl [(cB, .byte)] s := hK
  have hl := lv_entry ([.ref b, .int 0, .int (nI n)]) (n := 5) (Nat.le_of_ble_eq_true rfl)
  rw [lg_entry_eq]
  generalize (lg_sl ([.ref b, .int 0, .int (nI n)]) ++ List.replicate (5 - (lg_sl ([.ref b, .int 0, .int (nI n)])).length) Slot.unset).toArray = ls at hl ⊢
  have hl : lv_has ls 5 [(0, .ref b), (1, .int 0), (2, .int (nI n))] := hl
  refine lv_iload_n hx hb dJ7_copyOfRangeByte_39247_0 rfl (lv_at hl 1 rfl) ?_
  refine lv_iload_n hx hb dJ7_copyOfRangeByte_39247_1 rfl (lv_at hl 2 rfl) ?_
  have hPc := hP.sub (ws' := []) [] rfl
  have hDc := hD.sub (ws' := []) [] (by decide) rfl
  have hKc := hK.sub (tys' := []) [] rfl
  have hFc := va_free (wc := []) hD hS hA [] rfl
  refine va_callv (va_runS (As := [.int 0, .int (nI n)]) (rest := []) ⟨hx, hb, hml, hown, hts⟩ (c_J7_checkLength_df160 l dC dI x n _ hd) (va_cwS 2 hts gJ7_copyOfRangeByte_39247_J7_checkLength_df160 rfl rfl rfl (by decide +kernel) ⟨Nat.le_of_ble_eq_true rfl, Nat.le_of_ble_eq_true rfl⟩) ⟨pr_blind, fun U hU hW => ⟨rfl, pr_mk hU hW hPc hKc hDc⟩⟩ rfl rfl hl.1 rfl (lv_room (Nat.le_of_ble_eq_true rfl)) dJ7_copyOfRangeByte_39247_2 ⟨Nat.le_of_ble_eq_true rfl, Nat.le_of_ble_eq_true rfl⟩) hS (fun q _ h => hFc q h) hFc (fun u_1 t H1 locs ht hvm hw hB hz1 hk1 hS => ?_)
  obtain ⟨hP1, hK1, hD1⟩ := hB
  rw [ht] at hP1
  obtain ⟨hP, hD⟩ := va_join (wr := [(b, .inl (cB, 16, .inl (gcF x n)))]) (w1 := []) hP hD [] [0] rfl rfl (by decide) (by decide) hk1 hFc hP1 hD1
  generalize H1 = H at hP hS ⊢
  have hP : va_P (dC, dI) vwCl [(b, .inl (cB, 16, .inl (gcF x n)))] H := hP
  have hD : va_D A [(b, .inl (cB, 16, .inl (gcF x n)))] := hD
  refine W.widen (k := 0) (n := 0) (Nat.le_refl _) (Nat.le_refl _) ?_
  refine lv_iload_n hx hb dJ7_copyOfRangeByte_39247_5 rfl (lv_at hl 2 rfl) ?_
  refine lv_iload_n hx hb dJ7_copyOfRangeByte_39247_6 rfl (lv_at hl 1 rfl) ?_
  refine lv_isub hx hb dJ7_copyOfRangeByte_39247_7 ?_
  refine lv_topi (fun y_3 ey_3 => ?_)
  obtain rfl : y_3 = nI n := ey_3.trans (Int32.sub_zero _)
  refine lv_istore_n (lv' := [(3, .int (nI n)), (0, .ref b), (1, .int 0), (2, .int (nI n))]) hx hb dJ7_copyOfRangeByte_39247_8 rfl hl (by decide) rfl (fun ls hl => ?_)
  refine lv_iload_n hx hb dJ7_copyOfRangeByte_39247_9 rfl (lv_at hl 0 rfl) ?_
  refine va_newa (atype := .byte) (ty := .byte) (N' := n) (a0 := (n, .inl zi)) hx hb (hts (.arrayClass (newarray.typeOf .byte)) (by decide +kernel)) rfl hK hP hD hS hA (fun _ => rfl) (nI_pos (by omega)) (nI_clamp (by omega)) (by show n * 1 ≤ 536870912; omega) (Nat.le_of_ble_eq_true rfl) (by show 0 + n ≤ 6; omega) dJ7_copyOfRangeByte_39247_10 (fun q_4 c_5 H hK hP hD hS => ?_)
  have hK : va_K (dC, dI) vwCl [(cB, .byte), (c_5, .byte)] s := hK
  have hP : va_P (dC, dI) vwCl [(b, .inl (cB, 16, .inl (gcF x n))), (q_4, .inl (c_5, n, .inl zi))] H := hP
  have hD : va_D A [(b, .inl (cB, 16, .inl (gcF x n))), (q_4, .inl (c_5, n, .inl zi))] := hD
  have hcc : c_5 = cB := ty_one (t := .byte) hK 1 0 rfl rfl (fun _ h => FieldType.noConfusion h)
  rw [hcc] at hP hD
  have hK := hK.sub (tys' := [(cB, .byte)]) [0] rfl
  have hP : va_P (dC, dI) vwCl [(b, .inl (cB, 16, .inl (gcF x n))), (q_4, .inl (cB, n, .inl zi))] H := hP
  have hD : va_D A [(b, .inl (cB, 16, .inl (gcF x n))), (q_4, .inl (cB, n, .inl zi))] := hD
  refine W.widen (k := 1) (n := 6) (by omega) (by omega) ?_
  refine lv_astore (lv' := [(4, .ref q_4), (3, .int (nI n)), (0, .ref b), (1, .int 0), (2, .int (nI n))]) hx hb dJ7_copyOfRangeByte_39247_12 hl (by decide) rfl (fun ls hl => ?_)
  refine lv_aload_n hx hb dJ7_copyOfRangeByte_39247_14 rfl (lv_at hl 2 rfl) ?_
  refine lv_iload_n hx hb dJ7_copyOfRangeByte_39247_15 rfl (lv_at hl 3 rfl) ?_
  refine lv_aload hx hb dJ7_copyOfRangeByte_39247_16 (lv_at hl 0 rfl) ?_
  refine lv_iconst (v := 0) hx hb dJ7_copyOfRangeByte_39247_18 (by decide) ?_
  refine lv_aload_n hx hb dJ7_copyOfRangeByte_39247_19 rfl (lv_at hl 2 rfl) ?_
  refine va_alen (v := 16) hx hb hK hP 0 0 rfl rfl rfl dJ7_copyOfRangeByte_39247_20 ?_
  refine lv_iload_n hx hb dJ7_copyOfRangeByte_39247_21 rfl (lv_at hl 3 rfl) ?_
  refine lv_isub hx hb dJ7_copyOfRangeByte_39247_22 ?_
  refine lv_topi (fun y_6 ey_6 => ?_)
  obtain rfl : y_6 = 16 := ey_6.trans (by decide)
  refine lv_iload_n hx hb dJ7_copyOfRangeByte_39247_23 rfl (lv_at hl 1 rfl) ?_
  refine va_mmin hx hb (by rw [hml]; exact hl.1.symm) hown (hts (.methodLink RJ7 304 Lib.Math.min.name) (by decide +kernel)) (hts (.static Lib.Math.min.name) (by decide +kernel)) (hts (.initialized "java/lang/Math") (by decide +kernel)) (hts (.code Lib.Math.min.name Lib.Math.min.code 2 (some .int)) (by decide +kernel)) (Nat.le_of_ble_eq_true rfl) (Nat.le_of_ble_eq_true rfl) (Nat.le_of_ble_eq_true rfl) (Nat.le_of_ble_eq_true rfl) dJ7_copyOfRangeByte_39247_24 ?_
  refine lv_topi (fun y_7 ey_7 => ?_)
  obtain rfl : y_7 = nI n := ey_7.trans (if_pos (nI_lt (b := 16) (by omega) (by decide)))
  refine va_copyi hx hb (by rw [hml]; exact hl.1.symm) hown (hts (.methodLink RJ7 150 arraycopyName) (by decide +kernel)) (hts (.native arraycopyName) (by decide +kernel)) (hts (.static arraycopyName) (by decide +kernel)) (hts (.initialized "java/lang/System") (by decide +kernel)) hK hP hD hS 0 1 0 0 rfl rfl rfl rfl rfl (by decide) (by decide) (nI_pos (by omega)) (by rw [jz0, nI_clamp (by omega)]; omega) (by rw [jz0, nI_clamp (by omega)]; omega) (fun i h9 => by rw [jz0, Nat.zero_add]; exact gc_fit x n i) (Nat.le_of_ble_eq_true rfl) (Nat.le_of_ble_eq_true rfl) dJ7_copyOfRangeByte_39247_27 (fun H locs hP hD hS => ?_)
  rw [gc_cpy hd] at hP hD
  have hP : va_P (dC, dI) vwCl [(b, .inl (cB, 16, .inl (gcF x n))), (q_4, .inl (cB, n, .inl (gcF x n)))] H := hP
  have hD : va_D A [(b, .inl (cB, 16, .inl (gcF x n))), (q_4, .inl (cB, n, .inl (gcF x n)))] := hD
  refine lv_aload hx hb dJ7_copyOfRangeByte_39247_30 (lv_at hl 0 rfl) ?_
  have hP9 := hP.sub (ws' := [(b, .inl (cB, 16, .inl (gcF x n))), (q_4, .inl (cB, n, .inl (gcF x n)))]) [0, 1] rfl
  have hD9 := hD.sub (ws' := [(b, .inl (cB, 16, .inl (gcF x n))), (q_4, .inl (cB, n, .inl (gcF x n)))]) [0, 1] (by decide) rfl
  have hK9 := hK.sub (tys' := [(cB, .byte)]) [0] rfl
  refine W.widen (k := 1) (n := 6) (Nat.le_of_ble_eq_true rfl) (Nat.le_of_ble_eq_true rfl) ?_
  exact W.aret (v := .ref q_4) (rt := (.array .byte)) hx hb hr (Or.inr ⟨_, rfl⟩) (Or.inr ⟨_, rfl⟩) (fun t ht hW => ⟨⟨(), q_4, rfl, trivial, po_mk ht hW hP9 hK9 hD9⟩, hS.F ht⟩) hS.2.2 dJ7_copyOfRangeByte_39247_32

set_option maxHeartbeats 4000000 in
set_option maxRecDepth 100000 in
theorem c_J7_copyOfRange_39247 (l : Launch) (dC : Nat → ClassId) (dI : Nat → Nat → Nat) (jk : Nat) (jv : Nat) (jo : Nat) (jt : Nat) (b : Nat) (cB : ClassId) (x : Nat) (n : Nat) (sz : Nat) (hd : Dg x n) : Met l yJ7_copyOfRange_39247 wsJ7_copyOfRange_39247 ({ frames := 4, cells := 1, slots := 6, locals := 110 }) (va_Pc [.ref b, .int 0, .int (nI n)] (fun U => pr_ dC dI [(b, .inl (cB, 16, .inl (gcF x n)))] [(cB, .byte)] sz U ∧ jd_ (va_A [(b, .inl (cB, 16, .inl (gcF x n)))] sz) jk jv jo jt U)) (va_Qr (fun (_ : Unit) => True) (fun (_ : Unit) RES t => po_ dC dI [(b, .inl (cB, 16, .inl (gcF x n))), (RES, .inl (cB, n, .inl (gcF x n)))] [(cB, .byte)] (va_A [(b, .inl (cB, 16, .inl (gcF x n)))] sz) t) (va_A [(b, .inl (cB, 16, .inl (gcF x n)))] sz)) 1 6 (va_A [(b, .inl (cB, 16, .inl (gcF x n)))] sz) := by
  refine Met.ofW (cc := cJ7_copyOfRange_39247) (maxL := 3) (ret := (some (.array .byte))) (by decide) rfl ?_
  intro p e s m args below meth c s₁ B hml hv
  obtain ⟨rfl, ⟨hsz, hP, hK, hD0⟩, hXs⟩ := hv
  have hx := B.exec
  have hb := B.bytes
  have hr := B.returns
  have hts := atoms_spec (ws := wsJ7_copyOfRange_39247) B.pre
  have hown : s.vm.findClass RJ7 = some m.cls := findClass_of_methodNamed B.named
  have hlocks := B.notSynchronized
  subst hsz
  have hD := hD0.self (sz := s.heap.size)
  have hn1 : 1 ≤ n := hd.1
  have hn6 : n ≤ 6 := hd.2.1
  have hx6 : x < 1000000 := dg_x hd
  have hx1 : 1 ≤ x := dg_1 hd
  generalize hAe : va_A [(b, .inl (cB, 16, .inl (gcF x n)))] s.heap.size = A at hD hXs ⊢
  have hA : ∀ q : Nat, s.heap.size ≤ q → A q := fun q h => by rw [← hAe]; exact Or.inr h
  have hS : va_S A s.heap s.heap [] := va_S.rf
  have hP : va_P (dC, dI) vwCl [(b, .inl (cB, 16, .inl (gcF x n)))] s.heap := hP
  have hK : va_K (dC, dI) vwCl [(cB, .byte)] s := hK
  have hl := lv_entry ([.ref b, .int 0, .int (nI n)]) (n := 3) (Nat.le_of_ble_eq_true rfl)
  rw [lg_entry_eq]
  generalize (lg_sl ([.ref b, .int 0, .int (nI n)]) ++ List.replicate (3 - (lg_sl ([.ref b, .int 0, .int (nI n)])).length) Slot.unset).toArray = ls at hl ⊢
  have hl : lv_has ls 3 [(0, .ref b), (1, .int 0), (2, .int (nI n))] := hl
  refine lv_iload_n hx hb dJ7_copyOfRange_39247_0 rfl (lv_at hl 1 rfl) ?_
  refine lv_if_ne (tgt := 10) hx hb dJ7_copyOfRange_39247_1 (by decide) (fun h9 => absurd h9 (by decide)) (fun _ => ?_)
  refine lv_iload_n hx hb dJ7_copyOfRange_39247_4 rfl (lv_at hl 2 rfl) ?_
  refine lv_aload_n hx hb dJ7_copyOfRange_39247_5 rfl (lv_at hl 0 rfl) ?_
  refine va_alen (v := 16) hx hb hK hP 0 0 rfl rfl rfl dJ7_copyOfRange_39247_6 ?_
  refine lv_icmp_eq (tgt := 17) hx hb dJ7_copyOfRange_39247_7 (by decide) (fun h9 => ((n_16 hd) h9).elim) (fun _ => ?_)
  refine lv_aload_n hx hb dJ7_copyOfRange_39247_10 rfl (lv_at hl 0 rfl) ?_
  refine lv_iload_n hx hb dJ7_copyOfRange_39247_11 rfl (lv_at hl 1 rfl) ?_
  refine lv_iload_n hx hb dJ7_copyOfRange_39247_12 rfl (lv_at hl 2 rfl) ?_
  have hPc := hP.sub (ws' := [(b, .inl (cB, 16, .inl (gcF x n)))]) [0] rfl
  have hDc := hD.sub (ws' := [(b, .inl (cB, 16, .inl (gcF x n)))]) [0] (by decide) rfl
  have hKc := hK.sub (tys' := [(cB, .byte)]) [0] rfl
  have hFc := va_free (wc := [(b, .inl (cB, 16, .inl (gcF x n)))]) hD hS hA [0] rfl
  refine va_callr (va_runS (As := [.ref b, .int 0, .int (nI n)]) (rest := []) ⟨hx, hb, hml, hown, hts⟩ (c_J7_copyOfRangeByte_39247 l dC dI jk jv jo jt b cB x n _ hd) (va_cwS 3 hts gJ7_copyOfRange_39247_J7_copyOfRangeByte_39247 rfl rfl rfl (by decide +kernel) ⟨Nat.le_of_ble_eq_true rfl, Nat.le_of_ble_eq_true rfl⟩) ⟨pe_blind jd_bl, fun U hU hW => ⟨rfl, pr_mk hU hW hPc hKc hDc, jd_mk hU hW hS hFc hXs⟩⟩ rfl rfl hl.1 rfl (lv_room (Nat.le_of_ble_eq_true rfl)) dJ7_copyOfRange_39247_13 ⟨Nat.le_of_ble_eq_true rfl, Nat.le_of_ble_eq_true rfl⟩) hS (fun q _ h => hFc q h) hFc (fun u_1 r_2 t H1 locs ht hvm hw hB hz1 hk1 hS => ?_)
  obtain ⟨hP1, hK1, hD1⟩ := hB
  rw [ht] at hP1
  obtain ⟨hP, hD⟩ := va_join (wr := []) (w1 := [(b, .inl (cB, 16, .inl (gcF x n))), (r_2, .inl (cB, n, .inl (gcF x n)))]) hP hD [0] [] rfl rfl (by decide) (by decide) hk1 hFc hP1 hD1
  generalize H1 = H at hP hS ⊢
  have hP : va_P (dC, dI) vwCl [(b, .inl (cB, 16, .inl (gcF x n))), (r_2, .inl (cB, n, .inl (gcF x n)))] H := hP
  have hD : va_D A [(b, .inl (cB, 16, .inl (gcF x n))), (r_2, .inl (cB, n, .inl (gcF x n)))] := hD
  refine W.widen (k := 1) (n := 6) (Nat.le_of_ble_eq_true rfl) (Nat.le_of_ble_eq_true rfl) ?_
  have hP9 := hP.sub (ws' := [(b, .inl (cB, 16, .inl (gcF x n))), (r_2, .inl (cB, n, .inl (gcF x n)))]) [0, 1] rfl
  have hD9 := hD.sub (ws' := [(b, .inl (cB, 16, .inl (gcF x n))), (r_2, .inl (cB, n, .inl (gcF x n)))]) [0, 1] (by decide) rfl
  have hK9 := hK.sub (tys' := [(cB, .byte)]) [0] rfl
  refine W.widen (k := 1) (n := 6) (Nat.le_of_ble_eq_true rfl) (Nat.le_of_ble_eq_true rfl) ?_
  exact W.aret (v := .ref r_2) (rt := (.array .byte)) hx hb hr (Or.inr ⟨_, rfl⟩) (Or.inr ⟨_, rfl⟩) (fun t ht hW => ⟨⟨(), r_2, rfl, trivial, po_mk ht hW hP9 hK9 hD9⟩, hS.F ht⟩) hS.2.2 dJ7_copyOfRange_39247_16

set_option maxHeartbeats 4000000 in
set_option maxRecDepth 100000 in
theorem c_J5_getValue_6d5f1 (l : Launch) (dC : Nat → ClassId) (dI : Nat → Nat → Nat) (sb : Nat) (b : Nat) (cn : Int32) (sz : Nat)  : Met l yJ5_getValue_6d5f1 wsJ5_getValue_6d5f1 ({ frames := 2, cells := 0, slots := 0, locals := 40 }) (va_Pc [.ref sb] (pr_ dC dI [(sb, .inr (1, [.ref b, .int 0, .int 0, .int cn]))] [] sz)) (va_Qr (fun (_ : Unit) => True) (fun (_ : Unit) RES t => RES = b ∧ po_ dC dI [(sb, .inr (1, [.ref b, .int 0, .int 0, .int cn]))] [] (va_A [(sb, .inr (1, [.ref b, .int 0, .int 0, .int cn]))] sz) t) (va_A [(sb, .inr (1, [.ref b, .int 0, .int 0, .int cn]))] sz)) 0 0 (va_A [(sb, .inr (1, [.ref b, .int 0, .int 0, .int cn]))] sz) := by
  refine Met.ofW (cc := cJ5_getValue_6d5f1) (maxL := 1) (ret := (some (.array .byte))) (by decide) rfl ?_
  intro p e s m args below meth c s₁ B hml hv
  obtain ⟨rfl, hsz, hP, hK, hD0⟩ := hv
  have hx := B.exec
  have hb := B.bytes
  have hr := B.returns
  have hts := atoms_spec (ws := wsJ5_getValue_6d5f1) B.pre
  have hown : s.vm.findClass RJ5 = some m.cls := findClass_of_methodNamed B.named
  have hlocks := B.notSynchronized
  subst hsz
  have hD := hD0.self (sz := s.heap.size)
  generalize hAe : va_A [(sb, .inr (1, [.ref b, .int 0, .int 0, .int cn]))] s.heap.size = A at hD ⊢
  have hA : ∀ q : Nat, s.heap.size ≤ q → A q := fun q h => by rw [← hAe]; exact Or.inr h
  have hS : va_S A s.heap s.heap [] := va_S.rf
  have hP : va_P (dC, dI) vwCl [(sb, .inr (1, [.ref b, .int 0, .int 0, .int cn]))] s.heap := hP
  have hK : va_K (dC, dI) vwCl [] s := hK
  have hl := lv_entry ([.ref sb]) (n := 1) (Nat.le_of_ble_eq_true rfl)
  rw [lg_entry_eq]
  generalize (lg_sl ([.ref sb]) ++ List.replicate (1 - (lg_sl ([.ref sb])).length) Slot.unset).toArray = ls at hl ⊢
  have hl : lv_has ls 1 [(0, .ref sb)] := hl
  refine lv_aload_n hx hb dJ5_getValue_6d5f1_0 rfl (lv_at hl 0 rfl) ?_
  have hinJ4 : ∀ w ∈ u_ws RJ4 TJ4 4, w ∈ wsJ5_getValue_6d5f1 := by decide +kernel
  refine va_get (D := (dC, dI)) (ci := 1) (v := .ref b) (C := RJ4) (T := TJ4) (N := 4) hx hb hts hinJ4 hown hK hP 0 rfl rfl 0 (by decide) (hts (.fieldLink RJ5 15 "java/lang/AbstractStringBuilder" "value" "[B") (by decide +kernel)) (fun _ h9 => h9) rfl dJ5_getValue_6d5f1_1 ?_
  have hP9 := hP.sub (ws' := [(sb, .inr (1, [.ref b, .int 0, .int 0, .int cn]))]) [0] rfl
  have hD9 := hD.sub (ws' := [(sb, .inr (1, [.ref b, .int 0, .int 0, .int cn]))]) [0] (by decide) rfl
  have hK9 := hK.sub (tys' := []) [] rfl
  refine W.widen (k := 0) (n := 0) (Nat.le_of_ble_eq_true rfl) (Nat.le_of_ble_eq_true rfl) ?_
  exact W.aret (v := .ref b) (rt := (.array .byte)) hx hb hr (Or.inr ⟨_, rfl⟩) (Or.inr ⟨_, rfl⟩) (fun t ht hW => ⟨⟨(), b, rfl, trivial, ⟨rfl, po_mk ht hW hP9 hK9 hD9⟩⟩, hS.F ht⟩) hS.2.2 dJ5_getValue_6d5f1_4

set_option maxHeartbeats 4000000 in
set_option maxRecDepth 100000 in
theorem c_J5_length_8abf5 (l : Launch) (dC : Nat → ClassId) (dI : Nat → Nat → Nat) (sb : Nat) (b : Nat) (cn : Int32) (sz : Nat)  : Met l yJ5_length_8abf5 wsJ5_length_8abf5 ({ frames := 2, cells := 0, slots := 0, locals := 40 }) (va_Pc [.ref sb] (pr_ dC dI [(sb, .inr (1, [.ref b, .int 0, .int 0, .int cn]))] [] sz)) (va_Qi (fun (r : Int32) (_ : Unit) => r = cn) (fun (_ : Unit) t => po_ dC dI [(sb, .inr (1, [.ref b, .int 0, .int 0, .int cn]))] [] (va_A [(sb, .inr (1, [.ref b, .int 0, .int 0, .int cn]))] sz) t) (va_A [(sb, .inr (1, [.ref b, .int 0, .int 0, .int cn]))] sz)) 0 0 (va_A [(sb, .inr (1, [.ref b, .int 0, .int 0, .int cn]))] sz) := by
  refine Met.ofW (cc := cJ5_length_8abf5) (maxL := 1) (ret := (some .int)) (by decide) rfl ?_
  intro p e s m args below meth c s₁ B hml hv
  obtain ⟨rfl, hsz, hP, hK, hD0⟩ := hv
  have hx := B.exec
  have hb := B.bytes
  have hr := B.returns
  have hts := atoms_spec (ws := wsJ5_length_8abf5) B.pre
  have hown : s.vm.findClass RJ5 = some m.cls := findClass_of_methodNamed B.named
  have hlocks := B.notSynchronized
  subst hsz
  have hD := hD0.self (sz := s.heap.size)
  generalize hAe : va_A [(sb, .inr (1, [.ref b, .int 0, .int 0, .int cn]))] s.heap.size = A at hD ⊢
  have hA : ∀ q : Nat, s.heap.size ≤ q → A q := fun q h => by rw [← hAe]; exact Or.inr h
  have hS : va_S A s.heap s.heap [] := va_S.rf
  have hP : va_P (dC, dI) vwCl [(sb, .inr (1, [.ref b, .int 0, .int 0, .int cn]))] s.heap := hP
  have hK : va_K (dC, dI) vwCl [] s := hK
  have hl := lv_entry ([.ref sb]) (n := 1) (Nat.le_of_ble_eq_true rfl)
  rw [lg_entry_eq]
  generalize (lg_sl ([.ref sb]) ++ List.replicate (1 - (lg_sl ([.ref sb])).length) Slot.unset).toArray = ls at hl ⊢
  have hl : lv_has ls 1 [(0, .ref sb)] := hl
  refine lv_aload_n hx hb dJ5_length_8abf5_0 rfl (lv_at hl 0 rfl) ?_
  have hinJ4 : ∀ w ∈ u_ws RJ4 TJ4 4, w ∈ wsJ5_length_8abf5 := by decide +kernel
  refine va_get (D := (dC, dI)) (ci := 1) (v := .int cn) (C := RJ4) (T := TJ4) (N := 4) hx hb hts hinJ4 hown hK hP 0 rfl rfl 3 (by decide) (hts (.fieldLink RJ5 79 "java/lang/AbstractStringBuilder" "count" "I") (by decide +kernel)) (fun _ h9 => h9) rfl dJ5_length_8abf5_1 ?_
  have hP9 := hP.sub (ws' := [(sb, .inr (1, [.ref b, .int 0, .int 0, .int cn]))]) [0] rfl
  have hD9 := hD.sub (ws' := [(sb, .inr (1, [.ref b, .int 0, .int 0, .int cn]))]) [0] (by decide) rfl
  have hK9 := hK.sub (tys' := []) [] rfl
  refine W.widen (k := 0) (n := 0) (Nat.le_of_ble_eq_true rfl) (Nat.le_of_ble_eq_true rfl) ?_
  exact W.iret (v := cn) hx hb hr (fun t ht hW => ⟨⟨cn, (), rfl, rfl, po_mk ht hW hP9 hK9 hD9⟩, hS.F ht⟩) hS.2.2 dJ5_length_8abf5_4

set_option maxHeartbeats 4000000 in
set_option maxRecDepth 100000 in
theorem c_J4_length_8abf5 (l : Launch) (dC : Nat → ClassId) (dI : Nat → Nat → Nat) (sb : Nat) (b : Nat) (cn : Int32) (sz : Nat)  : Met l yJ4_length_8abf5 wsJ4_length_8abf5 ({ frames := 3, cells := 0, slots := 0, locals := 70 }) (va_Pc [.ref sb] (pr_ dC dI [(sb, .inr (1, [.ref b, .int 0, .int 0, .int cn]))] [] sz)) (va_Qi (fun (r : Int32) (_ : Unit) => r = cn) (fun (_ : Unit) t => po_ dC dI [(sb, .inr (1, [.ref b, .int 0, .int 0, .int cn]))] [] (va_A [(sb, .inr (1, [.ref b, .int 0, .int 0, .int cn]))] sz) t) (va_A [(sb, .inr (1, [.ref b, .int 0, .int 0, .int cn]))] sz)) 0 0 (va_A [(sb, .inr (1, [.ref b, .int 0, .int 0, .int cn]))] sz) := by
  refine Met.ofW (cc := cJ4_length_8abf5) (maxL := 1) (ret := (some .int)) (by decide) rfl ?_
  intro p e s m args below meth c s₁ B hml hv
  obtain ⟨rfl, hsz, hP, hK, hD0⟩ := hv
  have hx := B.exec
  have hb := B.bytes
  have hr := B.returns
  have hts := atoms_spec (ws := wsJ4_length_8abf5) B.pre
  have hown : s.vm.findClass RJ4 = some m.cls := findClass_of_methodNamed B.named
  have hlocks := B.notSynchronized
  subst hsz
  have hD := hD0.self (sz := s.heap.size)
  generalize hAe : va_A [(sb, .inr (1, [.ref b, .int 0, .int 0, .int cn]))] s.heap.size = A at hD ⊢
  have hA : ∀ q : Nat, s.heap.size ≤ q → A q := fun q h => by rw [← hAe]; exact Or.inr h
  have hS : va_S A s.heap s.heap [] := va_S.rf
  have hP : va_P (dC, dI) vwCl [(sb, .inr (1, [.ref b, .int 0, .int 0, .int cn]))] s.heap := hP
  have hK : va_K (dC, dI) vwCl [] s := hK
  have hl := lv_entry ([.ref sb]) (n := 1) (Nat.le_of_ble_eq_true rfl)
  rw [lg_entry_eq]
  generalize (lg_sl ([.ref sb]) ++ List.replicate (1 - (lg_sl ([.ref sb])).length) Slot.unset).toArray = ls at hl ⊢
  have hl : lv_has ls 1 [(0, .ref sb)] := hl
  refine lv_aload_n hx hb dJ4_length_8abf5_0 rfl (lv_at hl 0 rfl) ?_
  have hPc := hP.sub (ws' := [(sb, .inr (1, [.ref b, .int 0, .int 0, .int cn]))]) [0] rfl
  have hDc := hD.sub (ws' := [(sb, .inr (1, [.ref b, .int 0, .int 0, .int cn]))]) [0] (by decide) rfl
  have hKc := hK.sub (tys' := []) [] rfl
  have hFc := va_free (wc := [(sb, .inr (1, [.ref b, .int 0, .int 0, .int cn]))]) hD hS hA [0] rfl
  refine va_calli (va_runSU (hK.1 1 _ rfl).2 (As := []) (rest := []) ⟨hx, hb, hml, hown, hts⟩ (c_J5_length_8abf5 l dC dI sb b cn _ ) (va_cwSU (y := yJ5_length_8abf5) 0 hts (show GoodIn wsJ4_length_8abf5 (va_wsSU RJ4 343 yJ5_length_8abf5 wsJ5_length_8abf5) from goodIn_app (goodIn_of _ (by decide +kernel)) ggJ4_length_8abf5_J5_length_8abf5) rfl rfl rfl (by decide +kernel) ⟨Nat.le_of_ble_eq_true rfl, Nat.le_of_ble_eq_true rfl⟩) ⟨pr_blind, va_recv hKc hPc (ci := 1) (q0 := 0) rfl rfl, fun U hU hW => ⟨rfl, pr_mk hU hW hPc hKc hDc⟩⟩ rfl rfl hl.1 rfl (lv_room (Nat.le_of_ble_eq_true rfl)) dJ4_length_8abf5_1 ⟨Nat.le_of_ble_eq_true rfl, Nat.le_of_ble_eq_true rfl⟩) hS (fun q _ h => hFc q h) hFc (fun r_2 u_1 t H1 locs ht hvm hw hB hz1 hk1 hS => ?_)
  obtain ⟨hP1, hK1, hD1⟩ := hB
  rw [ht] at hP1
  obtain ⟨hP, hD⟩ := va_join (wr := []) (w1 := [(sb, .inr (1, [.ref b, .int 0, .int 0, .int cn]))]) hP hD [0] [] rfl rfl (by decide) (by decide) hk1 hFc hP1 hD1
  generalize H1 = H at hP hS ⊢
  have hP : va_P (dC, dI) vwCl [(sb, .inr (1, [.ref b, .int 0, .int 0, .int cn]))] H := hP
  have hD : va_D A [(sb, .inr (1, [.ref b, .int 0, .int 0, .int cn]))] := hD
  refine W.widen (k := 0) (n := 0) (Nat.le_refl _) (Nat.le_refl _) ?_
  have hw : cn = r_2 := Eq.symm hw
  subst hw
  have hP9 := hP.sub (ws' := [(sb, .inr (1, [.ref b, .int 0, .int 0, .int cn]))]) [0] rfl
  have hD9 := hD.sub (ws' := [(sb, .inr (1, [.ref b, .int 0, .int 0, .int cn]))]) [0] (by decide) rfl
  have hK9 := hK.sub (tys' := []) [] rfl
  refine W.widen (k := 0) (n := 0) (Nat.le_of_ble_eq_true rfl) (Nat.le_of_ble_eq_true rfl) ?_
  exact W.iret (v := cn) hx hb hr (fun t ht hW => ⟨⟨cn, (), rfl, rfl, po_mk ht hW hP9 hK9 hD9⟩, hS.F ht⟩) hS.2.2 dJ4_length_8abf5_4

set_option maxHeartbeats 4000000 in
set_option maxRecDepth 100000 in
theorem c_J0_init_db425 (l : Launch) (dC : Nat → ClassId) (dI : Nat → Nat → Nat) (jk : Nat) (jv : Nat) (jo : Nat) (jt : Nat) (sb : Nat) (b : Nat) (cB : ClassId) (st : Nat) (x : Nat) (n : Nat) (sz : Nat) (hd : Dg x n) : Met l yJ0_init_db425 wsJ0_init_db425 ({ frames := 5, cells := 1, slots := 6, locals := 140 }) (va_Pc [.ref st, .ref sb, .null] (fun U => pr_ dC dI [(st, .inr (0, [.null, .int 0, .int 0, .int 0])), (sb, .inr (1, [.ref b, .int 0, .int 0, .int (nI n)])), (b, .inl (cB, 16, .inl (gcF x n)))] [(cB, .byte)] sz U ∧ jd_ (va_A [(st, .inr (0, [.null, .int 0, .int 0, .int 0])), (sb, .inr (1, [.ref b, .int 0, .int 0, .int (nI n)])), (b, .inl (cB, 16, .inl (gcF x n)))] sz) jk jv jo jt U)) (va_Qv (fun (_ : Nat) => True) (fun (b2 : Nat) t => po_ dC dI [(st, .inr (0, [.ref b2, .int 0, .int 0, .int 0])), (sb, .inr (1, [.ref b, .int 0, .int 0, .int (nI n)])), (b, .inl (cB, 16, .inl (gcF x n))), (b2, .inl (cB, n, .inl (gcF x n)))] [(cB, .byte)] (va_A [(st, .inr (0, [.null, .int 0, .int 0, .int 0])), (sb, .inr (1, [.ref b, .int 0, .int 0, .int (nI n)])), (b, .inl (cB, 16, .inl (gcF x n)))] sz) t) (va_A [(st, .inr (0, [.null, .int 0, .int 0, .int 0])), (sb, .inr (1, [.ref b, .int 0, .int 0, .int (nI n)])), (b, .inl (cB, 16, .inl (gcF x n)))] sz)) 1 6 (va_A [(st, .inr (0, [.null, .int 0, .int 0, .int 0])), (sb, .inr (1, [.ref b, .int 0, .int 0, .int (nI n)])), (b, .inl (cB, 16, .inl (gcF x n)))] sz) := by
  refine Met.ofW (cc := cJ0_init_db425) (maxL := 5) (ret := none) (by decide) rfl ?_
  intro p e s m args below meth c s₁ B hml hv
  obtain ⟨rfl, ⟨hsz, hP, hK, hD0⟩, hXs⟩ := hv
  have hx := B.exec
  have hb := B.bytes
  have hr := B.returns
  have hts := atoms_spec (ws := wsJ0_init_db425) B.pre
  have hown : s.vm.findClass RJ0 = some m.cls := findClass_of_methodNamed B.named
  have hlocks := B.notSynchronized
  have hin : meth.name = "<init>" := (name_of_methodNamed B.named B.method).1
  subst hsz
  have hD := hD0.self (sz := s.heap.size)
  have hn1 : 1 ≤ n := hd.1
  have hn6 : n ≤ 6 := hd.2.1
  have hx6 : x < 1000000 := dg_x hd
  have hx1 : 1 ≤ x := dg_1 hd
  generalize hAe : va_A [(st, .inr (0, [.null, .int 0, .int 0, .int 0])), (sb, .inr (1, [.ref b, .int 0, .int 0, .int (nI n)])), (b, .inl (cB, 16, .inl (gcF x n)))] s.heap.size = A at hD hXs ⊢
  have hA : ∀ q : Nat, s.heap.size ≤ q → A q := fun q h => by rw [← hAe]; exact Or.inr h
  have hS : va_S A s.heap s.heap [] := va_S.rf
  have hP : va_P (dC, dI) vwCl [(st, .inr (0, [.null, .int 0, .int 0, .int 0])), (sb, .inr (1, [.ref b, .int 0, .int 0, .int (nI n)])), (b, .inl (cB, 16, .inl (gcF x n)))] s.heap := hP
  have hK : va_K (dC, dI) vwCl [(cB, .byte)] s := hK
  have hl := lv_entry ([.ref st, .ref sb, .null]) (n := 5) (Nat.le_of_ble_eq_true rfl)
  rw [lg_entry_eq]
  generalize (lg_sl ([.ref st, .ref sb, .null]) ++ List.replicate (5 - (lg_sl ([.ref st, .ref sb, .null])).length) Slot.unset).toArray = ls at hl ⊢
  have hl : lv_has ls 5 [(0, .ref st), (1, .ref sb), (2, .null)] := hl
  refine lv_aload_n hx hb dJ0_init_db425_0 rfl (lv_at hl 0 rfl) ?_
  refine W.objInit hx hb hown (hts (.methodLink RJ0 1 objectInit) (by decide +kernel)) (hts (.instanceMethod objectInit) (by decide +kernel)) (hts (.code objectInit ⟨#[0xb1]⟩ 1 none) (by decide +kernel)) rfl (by rw [hml]; exact hl.1) rfl dJ0_init_db425_1 (Nat.le_of_ble_eq_true rfl) (Nat.le_of_ble_eq_true rfl) ?_
  refine W.eq (g2 := F0 m 4 ls []) rfl ?_
  refine lv_aload_n hx hb dJ0_init_db425_4 rfl (lv_at hl 1 rfl) ?_
  have hPc := hP.sub (ws' := [(sb, .inr (1, [.ref b, .int 0, .int 0, .int (nI n)]))]) [1] rfl
  have hDc := hD.sub (ws' := [(sb, .inr (1, [.ref b, .int 0, .int 0, .int (nI n)]))]) [1] (by decide) rfl
  have hKc := hK.sub (tys' := []) [] rfl
  have hFc := va_free (wc := [(sb, .inr (1, [.ref b, .int 0, .int 0, .int (nI n)]))]) hD hS hA [1] rfl
  refine va_callr (va_runU (As := []) (rest := []) ⟨hx, hb, hml, hown, hts⟩ (c_J5_getValue_6d5f1 l dC dI sb b (nI n) _ ) (va_cwU (C := RJ4) (owner := "java/lang/AbstractStringBuilder") (x := yJ5_getValue_6d5f1) (y := yJ5_getValue_6d5f1) 0 hts (show GoodIn wsJ0_init_db425 (va_wsU RJ0 552 RJ4 "java/lang/AbstractStringBuilder" yJ5_getValue_6d5f1 yJ5_getValue_6d5f1 wsJ5_getValue_6d5f1) from goodIn_app (goodIn_of _ (by decide +kernel)) ggJ0_init_db425_J5_getValue_6d5f1) rfl rfl rfl rfl (by decide +kernel) ⟨Nat.le_of_ble_eq_true rfl, Nat.le_of_ble_eq_true rfl⟩) ⟨pr_blind, va_recv hKc hPc (ci := 1) (q0 := 0) rfl rfl, fun U hU hW => ⟨rfl, pr_mk hU hW hPc hKc hDc⟩⟩ rfl rfl hl.1 rfl (lv_room (Nat.le_of_ble_eq_true rfl)) dJ0_init_db425_5 ⟨Nat.le_of_ble_eq_true rfl, Nat.le_of_ble_eq_true rfl⟩) hS (fun q _ h => hFc q h) hFc (fun u_1 r_2 t H1 locs ht hvm hw hB hz1 hk1 hS => ?_)
  obtain ⟨hrb, hP1, hK1, hD1⟩ := hB
  have hrb := hrb.symm
  subst hrb
  have hw9 := hw
  rw [ht] at hP1
  obtain ⟨hP, hD⟩ := va_join (wr := [(st, .inr (0, [.null, .int 0, .int 0, .int 0])), (b, .inl (cB, 16, .inl (gcF x n)))]) (w1 := [(sb, .inr (1, [.ref b, .int 0, .int 0, .int (nI n)]))]) hP hD [1] [0, 2] rfl rfl (by decide) (by decide) hk1 hFc hP1 hD1
  generalize H1 = H at hP hS ⊢
  have hP : va_P (dC, dI) vwCl [(st, .inr (0, [.null, .int 0, .int 0, .int 0])), (b, .inl (cB, 16, .inl (gcF x n))), (sb, .inr (1, [.ref b, .int 0, .int 0, .int (nI n)]))] H := hP
  have hD : va_D A [(st, .inr (0, [.null, .int 0, .int 0, .int 0])), (b, .inl (cB, 16, .inl (gcF x n))), (sb, .inr (1, [.ref b, .int 0, .int 0, .int (nI n)]))] := hD
  refine W.widen (k := 0) (n := 0) (Nat.le_refl _) (Nat.le_refl _) ?_
  refine lv_astore_n (lv' := [(3, .ref b), (0, .ref st), (1, .ref sb), (2, .null)]) hx hb dJ0_init_db425_8 rfl hl (by decide) rfl (fun ls hl => ?_)
  refine lv_aload_n hx hb dJ0_init_db425_9 rfl (lv_at hl 2 rfl) ?_
  have hPc := hP.sub (ws' := [(sb, .inr (1, [.ref b, .int 0, .int 0, .int (nI n)]))]) [2] rfl
  have hDc := hD.sub (ws' := [(sb, .inr (1, [.ref b, .int 0, .int 0, .int (nI n)]))]) [2] (by decide) rfl
  have hKc := hK.sub (tys' := []) [] rfl
  have hFc := va_free (wc := [(sb, .inr (1, [.ref b, .int 0, .int 0, .int (nI n)]))]) hD hS hA [2] rfl
  refine va_calli (va_runU (As := []) (rest := []) ⟨hx, hb, hml, hown, hts⟩ (c_J4_length_8abf5 l dC dI sb b (nI n) _ ) (va_cwO (C := RJ4) (owner := "java/lang/AbstractStringBuilder") (x := yJ5_length_8abf5) (y := yJ4_length_8abf5) 0 hts (show GoodIn wsJ0_init_db425 (va_wsO RJ0 549 RJ4 "java/lang/AbstractStringBuilder" yJ5_length_8abf5 yJ4_length_8abf5 wsJ4_length_8abf5) from goodIn_app (goodIn_of _ (by decide +kernel)) ggJ0_init_db425_J4_length_8abf5) rfl rfl rfl (b0 := cJ5_length_8abf5) (m0 := 1) (r0 := some .int) (by decide +kernel) (by decide +kernel) ⟨Nat.le_of_ble_eq_true rfl, Nat.le_of_ble_eq_true rfl⟩) ⟨pr_blind, va_recv hKc hPc (ci := 1) (q0 := 0) rfl rfl, fun U hU hW => ⟨rfl, pr_mk hU hW hPc hKc hDc⟩⟩ rfl rfl hl.1 rfl (lv_room (Nat.le_of_ble_eq_true rfl)) dJ0_init_db425_10 ⟨Nat.le_of_ble_eq_true rfl, Nat.le_of_ble_eq_true rfl⟩) hS (fun q _ h => hFc q h) hFc (fun r_4 u_3 t H1 locs ht hvm hw hB hz1 hk1 hS => ?_)
  obtain ⟨hP1, hK1, hD1⟩ := hB
  rw [ht] at hP1
  obtain ⟨hP, hD⟩ := va_join (wr := [(st, .inr (0, [.null, .int 0, .int 0, .int 0])), (b, .inl (cB, 16, .inl (gcF x n)))]) (w1 := [(sb, .inr (1, [.ref b, .int 0, .int 0, .int (nI n)]))]) hP hD [2] [0, 1] rfl rfl (by decide) (by decide) hk1 hFc hP1 hD1
  generalize H1 = H at hP hS ⊢
  have hP : va_P (dC, dI) vwCl [(st, .inr (0, [.null, .int 0, .int 0, .int 0])), (b, .inl (cB, 16, .inl (gcF x n))), (sb, .inr (1, [.ref b, .int 0, .int 0, .int (nI n)]))] H := hP
  have hD : va_D A [(st, .inr (0, [.null, .int 0, .int 0, .int 0])), (b, .inl (cB, 16, .inl (gcF x n))), (sb, .inr (1, [.ref b, .int 0, .int 0, .int (nI n)]))] := hD
  refine W.widen (k := 0) (n := 0) (Nat.le_refl _) (Nat.le_refl _) ?_
  have hw : nI n = r_4 := Eq.symm hw
  subst hw
  refine lv_istore (lv' := [(4, .int (nI n)), (3, .ref b), (0, .ref st), (1, .ref sb), (2, .null)]) hx hb dJ0_init_db425_13 hl (by decide) rfl (fun ls hl => ?_)
  refine lv_aload_n hx hb dJ0_init_db425_15 rfl (lv_at hl 3 rfl) ?_
  have hPc := hP.sub (ws' := [(sb, .inr (1, [.ref b, .int 0, .int 0, .int (nI n)]))]) [2] rfl
  have hDc := hD.sub (ws' := [(sb, .inr (1, [.ref b, .int 0, .int 0, .int (nI n)]))]) [2] (by decide) rfl
  have hKc := hK.sub (tys' := []) [] rfl
  have hFc := va_free (wc := [(sb, .inr (1, [.ref b, .int 0, .int 0, .int (nI n)]))]) hD hS hA [2] rfl
  refine va_calli (va_runU (As := []) (rest := []) ⟨hx, hb, hml, hown, hts⟩ (c_J5_isLatin1_aae02 l dC dI jk jv jo jt sb b (nI n) _ ) (va_cwU (C := RJ4) (owner := "java/lang/AbstractStringBuilder") (x := yJ5_isLatin1_aae02) (y := yJ5_isLatin1_aae02) 0 hts (show GoodIn wsJ0_init_db425 (va_wsU RJ0 1047 RJ4 "java/lang/AbstractStringBuilder" yJ5_isLatin1_aae02 yJ5_isLatin1_aae02 wsJ5_isLatin1_aae02) from goodIn_app (goodIn_of _ (by decide +kernel)) ggJ0_init_db425_J5_isLatin1_aae02) rfl rfl rfl rfl (by decide +kernel) ⟨Nat.le_of_ble_eq_true rfl, Nat.le_of_ble_eq_true rfl⟩) ⟨pe_blind jd_bl, va_recv hKc hPc (ci := 1) (q0 := 0) rfl rfl, fun U hU hW => ⟨rfl, pr_mk hU hW hPc hKc hDc, jd_mk hU hW hS hFc hXs⟩⟩ rfl rfl hl.1 rfl (lv_room (Nat.le_of_ble_eq_true rfl)) dJ0_init_db425_16 ⟨Nat.le_of_ble_eq_true rfl, Nat.le_of_ble_eq_true rfl⟩) hS (fun q _ h => hFc q h) hFc (fun r_6 u_5 t H1 locs ht hvm hw hB hz1 hk1 hS => ?_)
  obtain ⟨hP1, hK1, hD1⟩ := hB
  rw [ht] at hP1
  obtain ⟨hP, hD⟩ := va_join (wr := [(st, .inr (0, [.null, .int 0, .int 0, .int 0])), (b, .inl (cB, 16, .inl (gcF x n)))]) (w1 := [(sb, .inr (1, [.ref b, .int 0, .int 0, .int (nI n)]))]) hP hD [2] [0, 1] rfl rfl (by decide) (by decide) hk1 hFc hP1 hD1
  generalize H1 = H at hP hS ⊢
  have hP : va_P (dC, dI) vwCl [(st, .inr (0, [.null, .int 0, .int 0, .int 0])), (b, .inl (cB, 16, .inl (gcF x n))), (sb, .inr (1, [.ref b, .int 0, .int 0, .int (nI n)]))] H := hP
  have hD : va_D A [(st, .inr (0, [.null, .int 0, .int 0, .int 0])), (b, .inl (cB, 16, .inl (gcF x n))), (sb, .inr (1, [.ref b, .int 0, .int 0, .int (nI n)]))] := hD
  refine W.widen (k := 0) (n := 0) (Nat.le_refl _) (Nat.le_refl _) ?_
  have hw : 1 = r_6 := Eq.symm hw
  subst hw
  refine lv_if_eq (tgt := 41) hx hb dJ0_init_db425_19 (by decide) (fun h9 => absurd h9 (by decide)) (fun _ => ?_)
  refine lv_aload_n hx hb dJ0_init_db425_22 rfl (lv_at hl 2 rfl) ?_
  refine lv_iconst (v := 0) hx hb dJ0_init_db425_23 (by decide) ?_
  have hinJ0 : ∀ w ∈ u_ws RJ0 TJ0 4, w ∈ wsJ0_init_db425 := by decide +kernel
  refine va_putF (D := (dC, dI)) (ci := 0) (v := .int 0) (ty := .byte) (C := RJ0) (T := TJ0) (N := 4) hx hb hts hinJ0 tyJ0 tyJ0_ok nmJ0 hown hK hP hD hS 0 rfl rfl 1 (by decide) (hts (.fieldLink RJ0 15 "java/lang/String" "coder" "B") (by decide +kernel)) (fun _ h9 => h9) rfl hin rfl (by decide +kernel) rfl rfl (Nat.le_of_ble_eq_true rfl) dJ0_init_db425_24 (fun H locs hP hD hS => ?_)
  have hP : va_P (dC, dI) vwCl [(st, .inr (0, [.null, .int 0, .int 0, .int 0])), (b, .inl (cB, 16, .inl (gcF x n))), (sb, .inr (1, [.ref b, .int 0, .int 0, .int (nI n)]))] H := hP
  have hD : va_D A [(st, .inr (0, [.null, .int 0, .int 0, .int 0])), (b, .inl (cB, 16, .inl (gcF x n))), (sb, .inr (1, [.ref b, .int 0, .int 0, .int (nI n)]))] := hD
  refine lv_aload_n hx hb dJ0_init_db425_27 rfl (lv_at hl 2 rfl) ?_
  refine lv_aload_n hx hb dJ0_init_db425_28 rfl (lv_at hl 1 rfl) ?_
  refine lv_iconst (v := 0) hx hb dJ0_init_db425_29 (by decide) ?_
  refine lv_iload hx hb dJ0_init_db425_30 (lv_at hl 0 rfl) ?_
  have hPc := hP.sub (ws' := [(b, .inl (cB, 16, .inl (gcF x n)))]) [1] rfl
  have hDc := hD.sub (ws' := [(b, .inl (cB, 16, .inl (gcF x n)))]) [1] (by decide) rfl
  have hKc := hK.sub (tys' := [(cB, .byte)]) [0] rfl
  have hFc := va_free (wc := [(b, .inl (cB, 16, .inl (gcF x n)))]) hD hS hA [1] rfl
  refine va_callr (va_runS (As := [.ref b, .int 0, .int (nI n)]) (rest := [.ref st]) ⟨hx, hb, hml, hown, hts⟩ (c_J7_copyOfRange_39247 l dC dI jk jv jo jt b cB x n _ hd) (va_cwS 3 hts gJ0_init_db425_J7_copyOfRange_39247 rfl rfl rfl (by decide +kernel) ⟨Nat.le_of_ble_eq_true rfl, Nat.le_of_ble_eq_true rfl⟩) ⟨pe_blind jd_bl, fun U hU hW => ⟨rfl, pr_mk hU hW hPc hKc hDc, jd_mk hU hW hS hFc hXs⟩⟩ rfl rfl hl.1 rfl (lv_room (Nat.le_of_ble_eq_true rfl)) dJ0_init_db425_32 ⟨Nat.le_of_ble_eq_true rfl, Nat.le_of_ble_eq_true rfl⟩) hS (fun q _ h => hFc q h) hFc (fun u_7 r_8 t H1 locs ht hvm hw hB hz1 hk1 hS => ?_)
  obtain ⟨hP1, hK1, hD1⟩ := hB
  rw [ht] at hP1
  obtain ⟨hP, hD⟩ := va_join (wr := [(st, .inr (0, [.null, .int 0, .int 0, .int 0])), (sb, .inr (1, [.ref b, .int 0, .int 0, .int (nI n)]))]) (w1 := [(b, .inl (cB, 16, .inl (gcF x n))), (r_8, .inl (cB, n, .inl (gcF x n)))]) hP hD [1] [0, 2] rfl rfl (by decide) (by decide) hk1 hFc hP1 hD1
  generalize H1 = H at hP hS ⊢
  have hP : va_P (dC, dI) vwCl [(st, .inr (0, [.null, .int 0, .int 0, .int 0])), (sb, .inr (1, [.ref b, .int 0, .int 0, .int (nI n)])), (b, .inl (cB, 16, .inl (gcF x n))), (r_8, .inl (cB, n, .inl (gcF x n)))] H := hP
  have hD : va_D A [(st, .inr (0, [.null, .int 0, .int 0, .int 0])), (sb, .inr (1, [.ref b, .int 0, .int 0, .int (nI n)])), (b, .inl (cB, 16, .inl (gcF x n))), (r_8, .inl (cB, n, .inl (gcF x n)))] := hD
  refine W.widen (k := 1) (n := 6) (Nat.le_of_ble_eq_true rfl) (Nat.le_of_ble_eq_true rfl) ?_
  refine va_putF (D := (dC, dI)) (ci := 0) (v := .ref r_8) (ty := (.array .byte)) (C := RJ0) (T := TJ0) (N := 4) hx hb hts hinJ0 tyJ0 tyJ0_ok nmJ0 hown hK hP hD hS 0 rfl rfl 0 (by decide) (hts (.fieldLink RJ0 9 "java/lang/String" "value" "[B") (by decide +kernel)) (fun _ h9 => h9) rfl hin rfl (by decide +kernel) rfl rfl (Nat.le_of_ble_eq_true rfl) dJ0_init_db425_35 (fun H locs hP hD hS => ?_)
  have hP : va_P (dC, dI) vwCl [(st, .inr (0, [.ref r_8, .int 0, .int 0, .int 0])), (sb, .inr (1, [.ref b, .int 0, .int 0, .int (nI n)])), (b, .inl (cB, 16, .inl (gcF x n))), (r_8, .inl (cB, n, .inl (gcF x n)))] H := hP
  have hD : va_D A [(st, .inr (0, [.ref r_8, .int 0, .int 0, .int 0])), (sb, .inr (1, [.ref b, .int 0, .int 0, .int (nI n)])), (b, .inl (cB, 16, .inl (gcF x n))), (r_8, .inl (cB, n, .inl (gcF x n)))] := hD
  refine lv_goto (tgt := 97) hx hb dJ0_init_db425_38 (by decide) ?_
  have hP9 := hP.sub (ws' := [(st, .inr (0, [.ref r_8, .int 0, .int 0, .int 0])), (sb, .inr (1, [.ref b, .int 0, .int 0, .int (nI n)])), (b, .inl (cB, 16, .inl (gcF x n))), (r_8, .inl (cB, n, .inl (gcF x n)))]) [0, 1, 2, 3] rfl
  have hD9 := hD.sub (ws' := [(st, .inr (0, [.ref r_8, .int 0, .int 0, .int 0])), (sb, .inr (1, [.ref b, .int 0, .int 0, .int (nI n)])), (b, .inl (cB, 16, .inl (gcF x n))), (r_8, .inl (cB, n, .inl (gcF x n)))]) [0, 1, 2, 3] (by decide) rfl
  have hK9 := hK.sub (tys' := [(cB, .byte)]) [0] rfl
  refine W.widen (k := 1) (n := 6) (Nat.le_of_ble_eq_true rfl) (Nat.le_of_ble_eq_true rfl) ?_
  exact W.vret hx hb hr (fun t ht hW => ⟨⟨r_8, rfl, trivial, po_mk ht hW hP9 hK9 hD9⟩, hS.F ht⟩) hS.2.2 dJ0_init_db425_97

set_option maxHeartbeats 4000000 in
set_option maxRecDepth 100000 in
theorem c_J0_init_81219 (l : Launch) (dC : Nat → ClassId) (dI : Nat → Nat → Nat) (jk : Nat) (jv : Nat) (jo : Nat) (jt : Nat) (sb : Nat) (b : Nat) (cB : ClassId) (st : Nat) (x : Nat) (n : Nat) (sz : Nat) (hd : Dg x n) : Met l yJ0_init_81219 wsJ0_init_81219 ({ frames := 6, cells := 1, slots := 6, locals := 170 }) (va_Pc [.ref st, .ref sb] (fun U => pr_ dC dI [(st, .inr (0, [.null, .int 0, .int 0, .int 0])), (sb, .inr (1, [.ref b, .int 0, .int 0, .int (nI n)])), (b, .inl (cB, 16, .inl (gcF x n)))] [(cB, .byte)] sz U ∧ jd_ (va_A [(st, .inr (0, [.null, .int 0, .int 0, .int 0])), (sb, .inr (1, [.ref b, .int 0, .int 0, .int (nI n)])), (b, .inl (cB, 16, .inl (gcF x n)))] sz) jk jv jo jt U)) (va_Qv (fun (_ : Nat) => True) (fun (b2 : Nat) t => po_ dC dI [(st, .inr (0, [.ref b2, .int 0, .int 0, .int 0])), (sb, .inr (1, [.ref b, .int 0, .int 0, .int (nI n)])), (b, .inl (cB, 16, .inl (gcF x n))), (b2, .inl (cB, n, .inl (gcF x n)))] [(cB, .byte)] (va_A [(st, .inr (0, [.null, .int 0, .int 0, .int 0])), (sb, .inr (1, [.ref b, .int 0, .int 0, .int (nI n)])), (b, .inl (cB, 16, .inl (gcF x n)))] sz) t) (va_A [(st, .inr (0, [.null, .int 0, .int 0, .int 0])), (sb, .inr (1, [.ref b, .int 0, .int 0, .int (nI n)])), (b, .inl (cB, 16, .inl (gcF x n)))] sz)) 1 6 (va_A [(st, .inr (0, [.null, .int 0, .int 0, .int 0])), (sb, .inr (1, [.ref b, .int 0, .int 0, .int (nI n)])), (b, .inl (cB, 16, .inl (gcF x n)))] sz) := by
  refine Met.ofW (cc := cJ0_init_81219) (maxL := 2) (ret := none) (by decide) rfl ?_
  intro p e s m args below meth c s₁ B hml hv
  obtain ⟨rfl, ⟨hsz, hP, hK, hD0⟩, hXs⟩ := hv
  have hx := B.exec
  have hb := B.bytes
  have hr := B.returns
  have hts := atoms_spec (ws := wsJ0_init_81219) B.pre
  have hown : s.vm.findClass RJ0 = some m.cls := findClass_of_methodNamed B.named
  have hlocks := B.notSynchronized
  have hin : meth.name = "<init>" := (name_of_methodNamed B.named B.method).1
  subst hsz
  have hD := hD0.self (sz := s.heap.size)
  have hn1 : 1 ≤ n := hd.1
  have hn6 : n ≤ 6 := hd.2.1
  have hx6 : x < 1000000 := dg_x hd
  have hx1 : 1 ≤ x := dg_1 hd
  generalize hAe : va_A [(st, .inr (0, [.null, .int 0, .int 0, .int 0])), (sb, .inr (1, [.ref b, .int 0, .int 0, .int (nI n)])), (b, .inl (cB, 16, .inl (gcF x n)))] s.heap.size = A at hD hXs ⊢
  have hA : ∀ q : Nat, s.heap.size ≤ q → A q := fun q h => by rw [← hAe]; exact Or.inr h
  have hS : va_S A s.heap s.heap [] := va_S.rf
  have hP : va_P (dC, dI) vwCl [(st, .inr (0, [.null, .int 0, .int 0, .int 0])), (sb, .inr (1, [.ref b, .int 0, .int 0, .int (nI n)])), (b, .inl (cB, 16, .inl (gcF x n)))] s.heap := hP
  have hK : va_K (dC, dI) vwCl [(cB, .byte)] s := hK
  have hl := lv_entry ([.ref st, .ref sb]) (n := 2) (Nat.le_of_ble_eq_true rfl)
  rw [lg_entry_eq]
  generalize (lg_sl ([.ref st, .ref sb]) ++ List.replicate (2 - (lg_sl ([.ref st, .ref sb])).length) Slot.unset).toArray = ls at hl ⊢
  have hl : lv_has ls 2 [(0, .ref st), (1, .ref sb)] := hl
  refine lv_aload_n hx hb dJ0_init_81219_0 rfl (lv_at hl 0 rfl) ?_
  refine lv_aload_n hx hb dJ0_init_81219_1 rfl (lv_at hl 1 rfl) ?_
  refine lv_null hx hb dJ0_init_81219_2 ?_
  have hPc := hP.sub (ws' := [(st, .inr (0, [.null, .int 0, .int 0, .int 0])), (sb, .inr (1, [.ref b, .int 0, .int 0, .int (nI n)])), (b, .inl (cB, 16, .inl (gcF x n)))]) [0, 1, 2] rfl
  have hDc := hD.sub (ws' := [(st, .inr (0, [.null, .int 0, .int 0, .int 0])), (sb, .inr (1, [.ref b, .int 0, .int 0, .int (nI n)])), (b, .inl (cB, 16, .inl (gcF x n)))]) [0, 1, 2] (by decide) rfl
  have hKc := hK.sub (tys' := [(cB, .byte)]) [0] rfl
  have hFc := va_free (wc := [(st, .inr (0, [.null, .int 0, .int 0, .int 0])), (sb, .inr (1, [.ref b, .int 0, .int 0, .int (nI n)])), (b, .inl (cB, 16, .inl (gcF x n)))]) hD hS hA [0, 1, 2] rfl
  refine va_callv (va_runI (As := [.ref sb, .null]) (rest := []) ⟨hx, hb, hml, hown, hts⟩ (c_J0_init_db425 l dC dI jk jv jo jt sb b cB st x n _ hd) (cwI 2 hts gJ0_init_81219_J0_init_db425 rfl rfl rfl (hts (.initialized RJ0) (by decide +kernel)) (hts (.methodLink RJ0 489 yJ0_init_db425) (by decide +kernel)) (hts (.instanceMethod yJ0_init_db425) (by decide +kernel)) rfl (by decide +kernel) ⟨Nat.le_of_ble_eq_true rfl, Nat.le_of_ble_eq_true rfl⟩) ⟨pe_blind jd_bl, fun U hU hW => ⟨rfl, pr_mk hU hW hPc hKc hDc, jd_mk hU hW hS hFc hXs⟩⟩ rfl rfl hl.1 rfl (lv_room (Nat.le_of_ble_eq_true rfl)) dJ0_init_81219_3 ⟨Nat.le_of_ble_eq_true rfl, Nat.le_of_ble_eq_true rfl⟩) hS (fun q _ h => hFc q h) hFc (fun u_1 t H1 locs ht hvm hw hB hz1 hk1 hS => ?_)
  obtain ⟨q_3, rfl⟩ : ∃ z, z = u_1 := ⟨_, rfl⟩
  obtain ⟨hP1, hK1, hD1⟩ := hB
  rw [ht] at hP1
  obtain ⟨hP, hD⟩ := va_join (wr := []) (w1 := [(st, .inr (0, [.ref q_3, .int 0, .int 0, .int 0])), (sb, .inr (1, [.ref b, .int 0, .int 0, .int (nI n)])), (b, .inl (cB, 16, .inl (gcF x n))), (q_3, .inl (cB, n, .inl (gcF x n)))]) hP hD [0, 1, 2] [] rfl rfl (by decide) (by decide) hk1 hFc hP1 hD1
  generalize H1 = H at hP hS ⊢
  have hP : va_P (dC, dI) vwCl [(st, .inr (0, [.ref q_3, .int 0, .int 0, .int 0])), (sb, .inr (1, [.ref b, .int 0, .int 0, .int (nI n)])), (b, .inl (cB, 16, .inl (gcF x n))), (q_3, .inl (cB, n, .inl (gcF x n)))] H := hP
  have hD : va_D A [(st, .inr (0, [.ref q_3, .int 0, .int 0, .int 0])), (sb, .inr (1, [.ref b, .int 0, .int 0, .int (nI n)])), (b, .inl (cB, 16, .inl (gcF x n))), (q_3, .inl (cB, n, .inl (gcF x n)))] := hD
  refine W.widen (k := 1) (n := 6) (Nat.le_of_ble_eq_true rfl) (Nat.le_of_ble_eq_true rfl) ?_
  have hP9 := hP.sub (ws' := [(st, .inr (0, [.ref q_3, .int 0, .int 0, .int 0])), (sb, .inr (1, [.ref b, .int 0, .int 0, .int (nI n)])), (b, .inl (cB, 16, .inl (gcF x n))), (q_3, .inl (cB, n, .inl (gcF x n)))]) [0, 1, 2, 3] rfl
  have hD9 := hD.sub (ws' := [(st, .inr (0, [.ref q_3, .int 0, .int 0, .int 0])), (sb, .inr (1, [.ref b, .int 0, .int 0, .int (nI n)])), (b, .inl (cB, 16, .inl (gcF x n))), (q_3, .inl (cB, n, .inl (gcF x n)))]) [0, 1, 2, 3] (by decide) rfl
  have hK9 := hK.sub (tys' := [(cB, .byte)]) [0] rfl
  refine W.widen (k := 1) (n := 6) (Nat.le_of_ble_eq_true rfl) (Nat.le_of_ble_eq_true rfl) ?_
  exact W.vret hx hb hr (fun t ht hW => ⟨⟨q_3, rfl, trivial, po_mk ht hW hP9 hK9 hD9⟩, hS.F ht⟩) hS.2.2 dJ0_init_81219_6

set_option maxHeartbeats 4000000 in
set_option maxRecDepth 100000 in
theorem c_J4_toString_0e30d (l : Launch) (dC : Nat → ClassId) (dI : Nat → Nat → Nat) (jk : Nat) (jv : Nat) (jo : Nat) (jt : Nat) (sb : Nat) (b : Nat) (cB : ClassId) (x : Nat) (n : Nat) (sz : Nat) (hd : Dg x n) : Met l yJ4_toString_0e30d wsJ4_toString_0e30d ({ frames := 7, cells := 2, slots := 10, locals := 200 }) (va_Pc [.ref sb] (fun U => pr_ dC dI [(sb, .inr (1, [.ref b, .int 0, .int 0, .int (nI n)])), (b, .inl (cB, 16, .inl (gcF x n)))] [(cB, .byte)] sz U ∧ jd_ (va_A [(sb, .inr (1, [.ref b, .int 0, .int 0, .int (nI n)])), (b, .inl (cB, 16, .inl (gcF x n)))] sz) jk jv jo jt U)) (va_Qr (fun (_ : Nat) => True) (fun (b2 : Nat) RES t => po_ dC dI [(sb, .inr (1, [.ref b, .int 0, .int 0, .int (nI n)])), (b, .inl (cB, 16, .inl (gcF x n))), (RES, .inr (0, [.ref b2, .int 0, .int 0, .int 0])), (b2, .inl (cB, n, .inl (gcF x n)))] [(cB, .byte)] (va_A [(sb, .inr (1, [.ref b, .int 0, .int 0, .int (nI n)])), (b, .inl (cB, 16, .inl (gcF x n)))] sz) t) (va_A [(sb, .inr (1, [.ref b, .int 0, .int 0, .int (nI n)])), (b, .inl (cB, 16, .inl (gcF x n)))] sz)) 2 10 (va_A [(sb, .inr (1, [.ref b, .int 0, .int 0, .int (nI n)])), (b, .inl (cB, 16, .inl (gcF x n)))] sz) := by
  refine Met.ofW (cc := cJ4_toString_0e30d) (maxL := 1) (ret := (some (.object "java/lang/String"))) (by decide) rfl ?_
  intro p e s m args below meth c s₁ B hml hv
  obtain ⟨rfl, ⟨hsz, hP, hK, hD0⟩, hXs⟩ := hv
  have hx := B.exec
  have hb := B.bytes
  have hr := B.returns
  have hts := atoms_spec (ws := wsJ4_toString_0e30d) B.pre
  have hown : s.vm.findClass RJ4 = some m.cls := findClass_of_methodNamed B.named
  have hlocks := B.notSynchronized
  subst hsz
  have hD := hD0.self (sz := s.heap.size)
  have hn1 : 1 ≤ n := hd.1
  have hn6 : n ≤ 6 := hd.2.1
  have hx6 : x < 1000000 := dg_x hd
  have hx1 : 1 ≤ x := dg_1 hd
  generalize hAe : va_A [(sb, .inr (1, [.ref b, .int 0, .int 0, .int (nI n)])), (b, .inl (cB, 16, .inl (gcF x n)))] s.heap.size = A at hD hXs ⊢
  have hA : ∀ q : Nat, s.heap.size ≤ q → A q := fun q h => by rw [← hAe]; exact Or.inr h
  have hS : va_S A s.heap s.heap [] := va_S.rf
  have hP : va_P (dC, dI) vwCl [(sb, .inr (1, [.ref b, .int 0, .int 0, .int (nI n)])), (b, .inl (cB, 16, .inl (gcF x n)))] s.heap := hP
  have hK : va_K (dC, dI) vwCl [(cB, .byte)] s := hK
  have hl := lv_entry ([.ref sb]) (n := 1) (Nat.le_of_ble_eq_true rfl)
  rw [lg_entry_eq]
  generalize (lg_sl ([.ref sb]) ++ List.replicate (1 - (lg_sl ([.ref sb])).length) Slot.unset).toArray = ls at hl ⊢
  have hl : lv_has ls 1 [(0, .ref sb)] := hl
  have hinJ0 : ∀ w ∈ u_ws RJ0 TJ0 4, w ∈ wsJ4_toString_0e30d := by decide +kernel
  refine va_new (ci := 0) (fs := [.null, .int 0, .int 0, .int 0]) (C := RJ0) (T := TJ0) (N := 4) hx hb hts hinJ0 tyJ0 tyJ0_ok hown (hts (.classLink RJ4 18 RJ0) (by decide +kernel)) (hts (.instantiable RJ0 4) (by decide +kernel)) (hts (.initialized RJ0) (by decide +kernel)) hK hP hD hS hA rfl (by intro j hj; match j, hj with | 0, _ => rfl | 1, _ => rfl | 2, _ => rfl | 3, _ => rfl) (Nat.le_of_ble_eq_true rfl) (Nat.le_of_ble_eq_true rfl) dJ4_toString_0e30d_0 (fun q_1 H hP hD hS => ?_)
  have hP : va_P (dC, dI) vwCl [(sb, .inr (1, [.ref b, .int 0, .int 0, .int (nI n)])), (b, .inl (cB, 16, .inl (gcF x n))), (q_1, .inr (0, [.null, .int 0, .int 0, .int 0]))] H := hP
  have hD : va_D A [(sb, .inr (1, [.ref b, .int 0, .int 0, .int (nI n)])), (b, .inl (cB, 16, .inl (gcF x n))), (q_1, .inr (0, [.null, .int 0, .int 0, .int 0]))] := hD
  refine W.widen (k := 1) (n := 4) (Nat.le_of_ble_eq_true rfl) (Nat.le_of_ble_eq_true rfl) ?_
  refine lv_dup hx hb dJ4_toString_0e30d_3 rfl ?_
  refine lv_aload_n hx hb dJ4_toString_0e30d_4 rfl (lv_at hl 0 rfl) ?_
  have hPc := hP.sub (ws' := [(q_1, .inr (0, [.null, .int 0, .int 0, .int 0])), (sb, .inr (1, [.ref b, .int 0, .int 0, .int (nI n)])), (b, .inl (cB, 16, .inl (gcF x n)))]) [2, 0, 1] rfl
  have hDc := hD.sub (ws' := [(q_1, .inr (0, [.null, .int 0, .int 0, .int 0])), (sb, .inr (1, [.ref b, .int 0, .int 0, .int (nI n)])), (b, .inl (cB, 16, .inl (gcF x n)))]) [2, 0, 1] (by decide) rfl
  have hKc := hK.sub (tys' := [(cB, .byte)]) [0] rfl
  have hFc := va_free (wc := [(q_1, .inr (0, [.null, .int 0, .int 0, .int 0])), (sb, .inr (1, [.ref b, .int 0, .int 0, .int (nI n)])), (b, .inl (cB, 16, .inl (gcF x n)))]) hD hS hA [2, 0, 1] rfl
  refine va_callv (va_runI (As := [.ref sb]) (rest := [.ref q_1]) ⟨hx, hb, hml, hown, hts⟩ (c_J0_init_81219 l dC dI jk jv jo jt sb b cB q_1 x n _ hd) (cwI 1 hts gJ4_toString_0e30d_J0_init_81219 rfl rfl rfl (hts (.initialized RJ0) (by decide +kernel)) (hts (.methodLink RJ4 137 yJ0_init_81219) (by decide +kernel)) (hts (.instanceMethod yJ0_init_81219) (by decide +kernel)) rfl (by decide +kernel) ⟨Nat.le_of_ble_eq_true rfl, Nat.le_of_ble_eq_true rfl⟩) ⟨pe_blind jd_bl, fun U hU hW => ⟨rfl, pr_mk hU hW hPc hKc hDc, jd_mk hU hW hS hFc hXs⟩⟩ rfl rfl hl.1 rfl (lv_room (Nat.le_of_ble_eq_true rfl)) dJ4_toString_0e30d_5 ⟨Nat.le_of_ble_eq_true rfl, Nat.le_of_ble_eq_true rfl⟩) hS (fun q _ h => hFc q h) hFc (fun u_2 t H1 locs ht hvm hw hB hz1 hk1 hS => ?_)
  obtain ⟨q_4, rfl⟩ : ∃ z, z = u_2 := ⟨_, rfl⟩
  obtain ⟨hP1, hK1, hD1⟩ := hB
  rw [ht] at hP1
  obtain ⟨hP, hD⟩ := va_join (wr := []) (w1 := [(q_1, .inr (0, [.ref q_4, .int 0, .int 0, .int 0])), (sb, .inr (1, [.ref b, .int 0, .int 0, .int (nI n)])), (b, .inl (cB, 16, .inl (gcF x n))), (q_4, .inl (cB, n, .inl (gcF x n)))]) hP hD [2, 0, 1] [] rfl rfl (by decide) (by decide) hk1 hFc hP1 hD1
  generalize H1 = H at hP hS ⊢
  have hP : va_P (dC, dI) vwCl [(q_1, .inr (0, [.ref q_4, .int 0, .int 0, .int 0])), (sb, .inr (1, [.ref b, .int 0, .int 0, .int (nI n)])), (b, .inl (cB, 16, .inl (gcF x n))), (q_4, .inl (cB, n, .inl (gcF x n)))] H := hP
  have hD : va_D A [(q_1, .inr (0, [.ref q_4, .int 0, .int 0, .int 0])), (sb, .inr (1, [.ref b, .int 0, .int 0, .int (nI n)])), (b, .inl (cB, 16, .inl (gcF x n))), (q_4, .inl (cB, n, .inl (gcF x n)))] := hD
  refine W.widen (k := 2) (n := 10) (Nat.le_of_ble_eq_true rfl) (Nat.le_of_ble_eq_true rfl) ?_
  have hP9 := hP.sub (ws' := [(sb, .inr (1, [.ref b, .int 0, .int 0, .int (nI n)])), (b, .inl (cB, 16, .inl (gcF x n))), (q_1, .inr (0, [.ref q_4, .int 0, .int 0, .int 0])), (q_4, .inl (cB, n, .inl (gcF x n)))]) [1, 2, 0, 3] rfl
  have hD9 := hD.sub (ws' := [(sb, .inr (1, [.ref b, .int 0, .int 0, .int (nI n)])), (b, .inl (cB, 16, .inl (gcF x n))), (q_1, .inr (0, [.ref q_4, .int 0, .int 0, .int 0])), (q_4, .inl (cB, n, .inl (gcF x n)))]) [1, 2, 0, 3] (by decide) rfl
  have hK9 := hK.sub (tys' := [(cB, .byte)]) [0] rfl
  refine W.widen (k := 2) (n := 10) (Nat.le_of_ble_eq_true rfl) (Nat.le_of_ble_eq_true rfl) ?_
  exact W.aret (v := .ref q_1) (rt := (.object "java/lang/String")) hx hb hr (Or.inl ⟨_, rfl⟩) (Or.inr ⟨_, rfl⟩) (fun t ht hW => ⟨⟨q_4, q_1, rfl, trivial, po_mk ht hW hP9 hK9 hD9⟩, hS.F ht⟩) hS.2.2 dJ4_toString_0e30d_8

set_option maxHeartbeats 4000000 in
set_option maxRecDepth 100000 in
theorem c_J3_checkIndex_n (l : Launch) (dC : Nat → ClassId) (dI : Nat → Nat → Nat) (x : Nat) (n : Nat) (i : Nat) (sz : Nat) (hd : Dg x n) (hi : i < n) : Met l yJ3_checkIndex_8e157 wsJ3_checkIndex_8e157 ({ frames := 2, cells := 0, slots := 0, locals := 40 }) (va_Pc [.int (nI i), .int (nI n), .null] (pr_ dC dI [] [] sz)) (va_Qi (fun (r : Int32) (_ : Unit) => r = nI i) (fun (_ : Unit) t => po_ dC dI [] [] (va_A [] sz) t) (va_A [] sz)) 0 0 (va_A [] sz) := by
  refine Met.ofW (cc := cJ3_checkIndex_8e157) (maxL := 3) (ret := (some .int)) (by decide) rfl ?_
  intro p e s m args below meth c s₁ B hml hv
  obtain ⟨rfl, hsz, hP, hK, hD0⟩ := hv
  have hx := B.exec
  have hb := B.bytes
  have hr := B.returns
  have hts := atoms_spec (ws := wsJ3_checkIndex_8e157) B.pre
  have hown : s.vm.findClass RJ3 = some m.cls := findClass_of_methodNamed B.named
  have hlocks := B.notSynchronized
  subst hsz
  have hD := hD0.self (sz := s.heap.size)
  have hn1 : 1 ≤ n := hd.1
  have hn6 : n ≤ 6 := hd.2.1
  have hx6 : x < 1000000 := dg_x hd
  have hx1 : 1 ≤ x := dg_1 hd
  have hi9 : i < n := hi
  generalize hAe : va_A [] s.heap.size = A at hD ⊢
  have hA : ∀ q : Nat, s.heap.size ≤ q → A q := fun q h => by rw [← hAe]; exact Or.inr h
  have hS : va_S A s.heap s.heap [] := va_S.rf
  have hP : va_P (dC, dI) vwCl [] s.heap := hP
  have hK : va_K (dC, dI) vwCl [] s := hK
  have hl := lv_entry ([.int (nI i), .int (nI n), .null]) (n := 3) (Nat.le_of_ble_eq_true rfl)
  rw [lg_entry_eq]
  generalize (lg_sl ([.int (nI i), .int (nI n), .null]) ++ List.replicate (3 - (lg_sl ([.int (nI i), .int (nI n), .null])).length) Slot.unset).toArray = ls at hl ⊢
  have hl : lv_has ls 3 [(0, .int (nI i)), (1, .int (nI n)), (2, .null)] := hl
  refine lv_iload_n hx hb dJ3_checkIndex_8e157_0 rfl (lv_at hl 0 rfl) ?_
  refine lv_if_lt (tgt := 9) hx hb dJ3_checkIndex_8e157_1 (by decide) (fun h9 => ((nI_pos (by omega)) h9).elim) (fun _ => ?_)
  refine lv_iload_n hx hb dJ3_checkIndex_8e157_4 rfl (lv_at hl 0 rfl) ?_
  refine lv_iload_n hx hb dJ3_checkIndex_8e157_5 rfl (lv_at hl 1 rfl) ?_
  refine lv_icmp_lt (tgt := 16) hx hb dJ3_checkIndex_8e157_6 (by decide) (fun _ => ?_) (fun h9 => (h9 (nI_lt hi (by omega))).elim)
  refine lv_iload_n hx hb dJ3_checkIndex_8e157_16 rfl (lv_at hl 0 rfl) ?_
  have hP9 := hP.sub (ws' := []) [] rfl
  have hD9 := hD.sub (ws' := []) [] (by decide) rfl
  have hK9 := hK.sub (tys' := []) [] rfl
  refine W.widen (k := 0) (n := 0) (Nat.le_of_ble_eq_true rfl) (Nat.le_of_ble_eq_true rfl) ?_
  exact W.iret (v := nI i) hx hb hr (fun t ht hW => ⟨⟨nI i, (), rfl, rfl, po_mk ht hW hP9 hK9 hD9⟩, hS.F ht⟩) hS.2.2 dJ3_checkIndex_8e157_17

set_option maxHeartbeats 4000000 in
set_option maxRecDepth 100000 in
theorem c_J3_checkIndex_r (l : Launch) (dC : Nat → ClassId) (dI : Nat → Nat → Nat) (x : Nat) (n : Nat) (i : Nat) (tq : Nat) (sz : Nat) (hd : Dg x n) (hi : i < n) : Met l yJ3_checkIndex_8e157 wsJ3_checkIndex_8e157 ({ frames := 2, cells := 0, slots := 0, locals := 40 }) (va_Pc [.int (nI i), .int (nI n), .ref tq] (pr_ dC dI [] [] sz)) (va_Qi (fun (r : Int32) (_ : Unit) => r = nI i) (fun (_ : Unit) t => po_ dC dI [] [] (va_A [] sz) t) (va_A [] sz)) 0 0 (va_A [] sz) := by
  refine Met.ofW (cc := cJ3_checkIndex_8e157) (maxL := 3) (ret := (some .int)) (by decide) rfl ?_
  intro p e s m args below meth c s₁ B hml hv
  obtain ⟨rfl, hsz, hP, hK, hD0⟩ := hv
  have hx := B.exec
  have hb := B.bytes
  have hr := B.returns
  have hts := atoms_spec (ws := wsJ3_checkIndex_8e157) B.pre
  have hown : s.vm.findClass RJ3 = some m.cls := findClass_of_methodNamed B.named
  have hlocks := B.notSynchronized
  subst hsz
  have hD := hD0.self (sz := s.heap.size)
  have hn1 : 1 ≤ n := hd.1
  have hn6 : n ≤ 6 := hd.2.1
  have hx6 : x < 1000000 := dg_x hd
  have hx1 : 1 ≤ x := dg_1 hd
  have hi9 : i < n := hi
  generalize hAe : va_A [] s.heap.size = A at hD ⊢
  have hA : ∀ q : Nat, s.heap.size ≤ q → A q := fun q h => by rw [← hAe]; exact Or.inr h
  have hS : va_S A s.heap s.heap [] := va_S.rf
  have hP : va_P (dC, dI) vwCl [] s.heap := hP
  have hK : va_K (dC, dI) vwCl [] s := hK
  have hl := lv_entry ([.int (nI i), .int (nI n), .ref tq]) (n := 3) (Nat.le_of_ble_eq_true rfl)
  rw [lg_entry_eq]
  generalize (lg_sl ([.int (nI i), .int (nI n), .ref tq]) ++ List.replicate (3 - (lg_sl ([.int (nI i), .int (nI n), .ref tq])).length) Slot.unset).toArray = ls at hl ⊢
  have hl : lv_has ls 3 [(0, .int (nI i)), (1, .int (nI n)), (2, .ref tq)] := hl
  refine lv_iload_n hx hb dJ3_checkIndex_8e157_0 rfl (lv_at hl 0 rfl) ?_
  refine lv_if_lt (tgt := 9) hx hb dJ3_checkIndex_8e157_1 (by decide) (fun h9 => ((nI_pos (by omega)) h9).elim) (fun _ => ?_)
  refine lv_iload_n hx hb dJ3_checkIndex_8e157_4 rfl (lv_at hl 0 rfl) ?_
  refine lv_iload_n hx hb dJ3_checkIndex_8e157_5 rfl (lv_at hl 1 rfl) ?_
  refine lv_icmp_lt (tgt := 16) hx hb dJ3_checkIndex_8e157_6 (by decide) (fun _ => ?_) (fun h9 => (h9 (nI_lt hi (by omega))).elim)
  refine lv_iload_n hx hb dJ3_checkIndex_8e157_16 rfl (lv_at hl 0 rfl) ?_
  have hP9 := hP.sub (ws' := []) [] rfl
  have hD9 := hD.sub (ws' := []) [] (by decide) rfl
  have hK9 := hK.sub (tys' := []) [] rfl
  refine W.widen (k := 0) (n := 0) (Nat.le_of_ble_eq_true rfl) (Nat.le_of_ble_eq_true rfl) ?_
  exact W.iret (v := nI i) hx hb hr (fun t ht hW => ⟨⟨nI i, (), rfl, rfl, po_mk ht hW hP9 hK9 hD9⟩, hS.F ht⟩) hS.2.2 dJ3_checkIndex_8e157_17

set_option maxHeartbeats 4000000 in
set_option maxRecDepth 100000 in
theorem c_J0_checkIndex_df160 (l : Launch) (dC : Nat → ClassId) (dI : Nat → Nat → Nat) (jk : Nat) (jv : Nat) (jo : Nat) (jt : Nat) (x : Nat) (n : Nat) (i : Nat) (sz : Nat) (hd : Dg x n) (hi : i < n) : Met l yJ0_checkIndex_df160 wsJ0_checkIndex_df160 ({ frames := 3, cells := 0, slots := 0, locals := 70 }) (va_Pc [.int (nI i), .int (nI n)] (fun U => pr_ dC dI [] [] sz U ∧ jd_ (va_A [] sz) jk jv jo jt U)) (va_Qv (fun (_ : Unit) => True) (fun (_ : Unit) t => po_ dC dI [] [] (va_A [] sz) t) (va_A [] sz)) 0 0 (va_A [] sz) := by
  refine Met.ofW (cc := cJ0_checkIndex_df160) (maxL := 2) (ret := none) (by decide) rfl ?_
  intro p e s m args below meth c s₁ B hml hv
  obtain ⟨rfl, ⟨hsz, hP, hK, hD0⟩, hXs⟩ := hv
  have hx := B.exec
  have hb := B.bytes
  have hr := B.returns
  have hts := atoms_spec (ws := wsJ0_checkIndex_df160) B.pre
  have hown : s.vm.findClass RJ0 = some m.cls := findClass_of_methodNamed B.named
  have hlocks := B.notSynchronized
  subst hsz
  have hD := hD0.self (sz := s.heap.size)
  have hn1 : 1 ≤ n := hd.1
  have hn6 : n ≤ 6 := hd.2.1
  have hx6 : x < 1000000 := dg_x hd
  have hx1 : 1 ≤ x := dg_1 hd
  have hi9 : i < n := hi
  generalize hAe : va_A [] s.heap.size = A at hD hXs ⊢
  have hA : ∀ q : Nat, s.heap.size ≤ q → A q := fun q h => by rw [← hAe]; exact Or.inr h
  have hS : va_S A s.heap s.heap [] := va_S.rf
  have hP : va_P (dC, dI) vwCl [] s.heap := hP
  have hK : va_K (dC, dI) vwCl [] s := hK
  have hl := lv_entry ([.int (nI i), .int (nI n)]) (n := 2) (Nat.le_of_ble_eq_true rfl)
  rw [lg_entry_eq]
  generalize (lg_sl ([.int (nI i), .int (nI n)]) ++ List.replicate (2 - (lg_sl ([.int (nI i), .int (nI n)])).length) Slot.unset).toArray = ls at hl ⊢
  have hl : lv_has ls 2 [(0, .int (nI i)), (1, .int (nI n))] := hl
  refine lv_iload_n hx hb dJ0_checkIndex_df160_0 rfl (lv_at hl 0 rfl) ?_
  refine lv_iload_n hx hb dJ0_checkIndex_df160_1 rfl (lv_at hl 1 rfl) ?_
  rcases jd_q hXs with hz9 | ⟨tq, hz9⟩
  · refine va_gets hx hb hz9 hS hown (hts (.fieldLink RJ0 1053 "jdk/internal/util/Preconditions" "SIOOBE_FORMATTER" "Ljava/util/function/BiFunction;") (by decide +kernel)) (fun _ h9 => h9) dJ0_checkIndex_df160_2 ?_
    have hPc := hP.sub (ws' := []) [] rfl
    have hDc := hD.sub (ws' := []) [] (by decide) rfl
    have hKc := hK.sub (tys' := []) [] rfl
    have hFc := va_free (wc := []) hD hS hA [] rfl
    refine va_calli (va_runS (As := [.int (nI i), .int (nI n), .null]) (rest := []) ⟨hx, hb, hml, hown, hts⟩ (c_J3_checkIndex_n l dC dI x n i _ hd hi) (va_cwS 3 hts gJ0_checkIndex_df160_J3_checkIndex_8e157 rfl rfl rfl (by decide +kernel) ⟨Nat.le_of_ble_eq_true rfl, Nat.le_of_ble_eq_true rfl⟩) ⟨pr_blind, fun U hU hW => ⟨rfl, pr_mk hU hW hPc hKc hDc⟩⟩ rfl rfl hl.1 rfl (lv_room (Nat.le_of_ble_eq_true rfl)) dJ0_checkIndex_df160_5 ⟨Nat.le_of_ble_eq_true rfl, Nat.le_of_ble_eq_true rfl⟩) hS (fun q _ h => hFc q h) hFc (fun r_2 u_1 t H1 locs ht hvm hw hB hz1 hk1 hS => ?_)
    obtain ⟨hP1, hK1, hD1⟩ := hB
    rw [ht] at hP1
    obtain ⟨hP, hD⟩ := va_join (wr := []) (w1 := []) hP hD [] [] rfl rfl (by decide) (by decide) hk1 hFc hP1 hD1
    generalize H1 = H at hP hS ⊢
    have hP : va_P (dC, dI) vwCl [] H := hP
    have hD : va_D A [] := hD
    refine W.widen (k := 0) (n := 0) (Nat.le_refl _) (Nat.le_refl _) ?_
    have hw : nI i = r_2 := Eq.symm hw
    subst hw
    refine lv_pop hx hb dJ0_checkIndex_df160_8 rfl ?_
    have hP9 := hP.sub (ws' := []) [] rfl
    have hD9 := hD.sub (ws' := []) [] (by decide) rfl
    have hK9 := hK.sub (tys' := []) [] rfl
    refine W.widen (k := 0) (n := 0) (Nat.le_of_ble_eq_true rfl) (Nat.le_of_ble_eq_true rfl) ?_
    exact W.vret hx hb hr (fun t ht hW => ⟨⟨(), rfl, trivial, po_mk ht hW hP9 hK9 hD9⟩, hS.F ht⟩) hS.2.2 dJ0_checkIndex_df160_9
  · refine va_gets hx hb hz9 hS hown (hts (.fieldLink RJ0 1053 "jdk/internal/util/Preconditions" "SIOOBE_FORMATTER" "Ljava/util/function/BiFunction;") (by decide +kernel)) (fun _ h9 => h9) dJ0_checkIndex_df160_2 ?_
    have hPc := hP.sub (ws' := []) [] rfl
    have hDc := hD.sub (ws' := []) [] (by decide) rfl
    have hKc := hK.sub (tys' := []) [] rfl
    have hFc := va_free (wc := []) hD hS hA [] rfl
    refine va_calli (va_runS (As := [.int (nI i), .int (nI n), .ref tq]) (rest := []) ⟨hx, hb, hml, hown, hts⟩ (c_J3_checkIndex_r l dC dI x n i tq _ hd hi) (va_cwS 3 hts gJ0_checkIndex_df160_J3_checkIndex_8e157 rfl rfl rfl (by decide +kernel) ⟨Nat.le_of_ble_eq_true rfl, Nat.le_of_ble_eq_true rfl⟩) ⟨pr_blind, fun U hU hW => ⟨rfl, pr_mk hU hW hPc hKc hDc⟩⟩ rfl rfl hl.1 rfl (lv_room (Nat.le_of_ble_eq_true rfl)) dJ0_checkIndex_df160_5 ⟨Nat.le_of_ble_eq_true rfl, Nat.le_of_ble_eq_true rfl⟩) hS (fun q _ h => hFc q h) hFc (fun r_4 u_3 t H1 locs ht hvm hw hB hz1 hk1 hS => ?_)
    obtain ⟨hP1, hK1, hD1⟩ := hB
    rw [ht] at hP1
    obtain ⟨hP, hD⟩ := va_join (wr := []) (w1 := []) hP hD [] [] rfl rfl (by decide) (by decide) hk1 hFc hP1 hD1
    generalize H1 = H at hP hS ⊢
    have hP : va_P (dC, dI) vwCl [] H := hP
    have hD : va_D A [] := hD
    refine W.widen (k := 0) (n := 0) (Nat.le_refl _) (Nat.le_refl _) ?_
    have hw : nI i = r_4 := Eq.symm hw
    subst hw
    refine lv_pop hx hb dJ0_checkIndex_df160_8 rfl ?_
    have hP9 := hP.sub (ws' := []) [] rfl
    have hD9 := hD.sub (ws' := []) [] (by decide) rfl
    have hK9 := hK.sub (tys' := []) [] rfl
    refine W.widen (k := 0) (n := 0) (Nat.le_of_ble_eq_true rfl) (Nat.le_of_ble_eq_true rfl) ?_
    exact W.vret hx hb hr (fun t ht hW => ⟨⟨(), rfl, trivial, po_mk ht hW hP9 hK9 hD9⟩, hS.F ht⟩) hS.2.2 dJ0_checkIndex_df160_9

set_option maxHeartbeats 4000000 in
set_option maxRecDepth 100000 in
theorem c_J1_charAt_3b067 (l : Launch) (dC : Nat → ClassId) (dI : Nat → Nat → Nat) (jk : Nat) (jv : Nat) (jo : Nat) (jt : Nat) (cB : ClassId) (b2 : Nat) (x : Nat) (n : Nat) (i : Nat) (sz : Nat) (hd : Dg x n) (hi : i < n) : Met l yJ1_charAt_3b067 wsJ1_charAt_3b067 ({ frames := 4, cells := 0, slots := 0, locals := 100 }) (va_Pc [.ref b2, .int (nI i)] (fun U => pr_ dC dI [(b2, .inl (cB, n, .inl (gcF x n)))] [(cB, .byte)] sz U ∧ jd_ (va_A [(b2, .inl (cB, n, .inl (gcF x n)))] sz) jk jv jo jt U)) (va_Qi (fun (r : Int32) (_ : Unit) => r = nI (48 + dgt x n i)) (fun (_ : Unit) t => po_ dC dI [(b2, .inl (cB, n, .inl (gcF x n)))] [(cB, .byte)] (va_A [(b2, .inl (cB, n, .inl (gcF x n)))] sz) t) (va_A [(b2, .inl (cB, n, .inl (gcF x n)))] sz)) 0 0 (va_A [(b2, .inl (cB, n, .inl (gcF x n)))] sz) := by
  refine Met.ofW (cc := cJ1_charAt_3b067) (maxL := 2) (ret := (some .char)) (by decide) rfl ?_
  intro p e s m args below meth c s₁ B hml hv
  obtain ⟨rfl, ⟨hsz, hP, hK, hD0⟩, hXs⟩ := hv
  have hx := B.exec
  have hb := B.bytes
  have hr := B.returns
  have hts := atoms_spec (ws := wsJ1_charAt_3b067) B.pre
  have hown : s.vm.findClass RJ1 = some m.cls := findClass_of_methodNamed B.named
  have hlocks := B.notSynchronized
  subst hsz
  have hD := hD0.self (sz := s.heap.size)
  have hn1 : 1 ≤ n := hd.1
  have hn6 : n ≤ 6 := hd.2.1
  have hx6 : x < 1000000 := dg_x hd
  have hx1 : 1 ≤ x := dg_1 hd
  have hi9 : i < n := hi
  generalize hAe : va_A [(b2, .inl (cB, n, .inl (gcF x n)))] s.heap.size = A at hD hXs ⊢
  have hA : ∀ q : Nat, s.heap.size ≤ q → A q := fun q h => by rw [← hAe]; exact Or.inr h
  have hS : va_S A s.heap s.heap [] := va_S.rf
  have hP : va_P (dC, dI) vwCl [(b2, .inl (cB, n, .inl (gcF x n)))] s.heap := hP
  have hK : va_K (dC, dI) vwCl [(cB, .byte)] s := hK
  have hl := lv_entry ([.ref b2, .int (nI i)]) (n := 2) (Nat.le_of_ble_eq_true rfl)
  rw [lg_entry_eq]
  generalize (lg_sl ([.ref b2, .int (nI i)]) ++ List.replicate (2 - (lg_sl ([.ref b2, .int (nI i)])).length) Slot.unset).toArray = ls at hl ⊢
  have hl : lv_has ls 2 [(0, .ref b2), (1, .int (nI i))] := hl
  refine lv_iload_n hx hb dJ1_charAt_3b067_0 rfl (lv_at hl 1 rfl) ?_
  refine lv_aload_n hx hb dJ1_charAt_3b067_1 rfl (lv_at hl 0 rfl) ?_
  refine va_alen (v := nI n) hx hb hK hP 0 0 rfl rfl rfl dJ1_charAt_3b067_2 ?_
  have hPc := hP.sub (ws' := []) [] rfl
  have hDc := hD.sub (ws' := []) [] (by decide) rfl
  have hKc := hK.sub (tys' := []) [] rfl
  have hFc := va_free (wc := []) hD hS hA [] rfl
  refine va_callv (va_runS (As := [.int (nI i), .int (nI n)]) (rest := []) ⟨hx, hb, hml, hown, hts⟩ (c_J0_checkIndex_df160 l dC dI jk jv jo jt x n i _ hd hi) (va_cwS 2 hts gJ1_charAt_3b067_J0_checkIndex_df160 rfl rfl rfl (by decide +kernel) ⟨Nat.le_of_ble_eq_true rfl, Nat.le_of_ble_eq_true rfl⟩) ⟨pe_blind jd_bl, fun U hU hW => ⟨rfl, pr_mk hU hW hPc hKc hDc, jd_mk hU hW hS hFc hXs⟩⟩ rfl rfl hl.1 rfl (lv_room (Nat.le_of_ble_eq_true rfl)) dJ1_charAt_3b067_3 ⟨Nat.le_of_ble_eq_true rfl, Nat.le_of_ble_eq_true rfl⟩) hS (fun q _ h => hFc q h) hFc (fun u_1 t H1 locs ht hvm hw hB hz1 hk1 hS => ?_)
  obtain ⟨hP1, hK1, hD1⟩ := hB
  rw [ht] at hP1
  obtain ⟨hP, hD⟩ := va_join (wr := [(b2, .inl (cB, n, .inl (gcF x n)))]) (w1 := []) hP hD [] [0] rfl rfl (by decide) (by decide) hk1 hFc hP1 hD1
  generalize H1 = H at hP hS ⊢
  have hP : va_P (dC, dI) vwCl [(b2, .inl (cB, n, .inl (gcF x n)))] H := hP
  have hD : va_D A [(b2, .inl (cB, n, .inl (gcF x n)))] := hD
  refine W.widen (k := 0) (n := 0) (Nat.le_refl _) (Nat.le_refl _) ?_
  refine lv_aload_n hx hb dJ1_charAt_3b067_6 rfl (lv_at hl 0 rfl) ?_
  refine lv_iload_n hx hb dJ1_charAt_3b067_7 rfl (lv_at hl 1 rfl) ?_
  refine va_bald hx hb hK hP 0 0 rfl rfl (vp_in_nI hi (by omega)) dJ1_charAt_3b067_8 ?_
  refine lv_topi (fun y_3 ey_3 => ?_)
  obtain rfl : y_3 = nI (48 + dgt x n i) := ey_3.trans (by rw [nI_clamp (by omega)]; exact gc_at hi)
  refine lv_sipush (v := 255) hx hb dJ1_charAt_3b067_9 (by decide) ?_
  refine lv_iand hx hb dJ1_charAt_3b067_12 ?_
  refine lv_topi (fun y_4 ey_4 => ?_)
  obtain rfl : y_4 = nI (48 + dgt x n i) := ey_4.trans (j255 (dgt_lt x n i))
  refine lv_i2c hx hb dJ1_charAt_3b067_13 (ji2c (dgt_lt x n i)) ?_
  have hP9 := hP.sub (ws' := [(b2, .inl (cB, n, .inl (gcF x n)))]) [0] rfl
  have hD9 := hD.sub (ws' := [(b2, .inl (cB, n, .inl (gcF x n)))]) [0] (by decide) rfl
  have hK9 := hK.sub (tys' := [(cB, .byte)]) [0] rfl
  refine W.widen (k := 0) (n := 0) (Nat.le_of_ble_eq_true rfl) (Nat.le_of_ble_eq_true rfl) ?_
  exact W.zret (v := nI (48 + dgt x n i)) hx hb hr (jchr (dgt_lt x n i)) (fun t ht hW => ⟨⟨nI (48 + dgt x n i), (), rfl, rfl, po_mk ht hW hP9 hK9 hD9⟩, hS.F ht⟩) hS.2.2 dJ1_charAt_3b067_14

set_option maxHeartbeats 4000000 in
set_option maxRecDepth 100000 in
theorem c_J0_charAt_5068e (l : Launch) (dC : Nat → ClassId) (dI : Nat → Nat → Nat) (jk : Nat) (jv : Nat) (jo : Nat) (jt : Nat) (cB : ClassId) (st : Nat) (b2 : Nat) (x : Nat) (n : Nat) (i : Nat) (sz : Nat) (hd : Dg x n) (hi : i < n) : Met l yJ0_charAt_5068e wsJ0_charAt_5068e ({ frames := 5, cells := 0, slots := 0, locals := 130 }) (va_Pc [.ref st, .int (nI i)] (fun U => pr_ dC dI [(st, .inr (0, [.ref b2, .int 0, .int 0, .int 0])), (b2, .inl (cB, n, .inl (gcF x n)))] [(cB, .byte)] sz U ∧ jd_ (va_A [(st, .inr (0, [.ref b2, .int 0, .int 0, .int 0])), (b2, .inl (cB, n, .inl (gcF x n)))] sz) jk jv jo jt U)) (va_Qi (fun (r : Int32) (_ : Unit) => r = nI (48 + dgt x n i)) (fun (_ : Unit) t => po_ dC dI [(st, .inr (0, [.ref b2, .int 0, .int 0, .int 0])), (b2, .inl (cB, n, .inl (gcF x n)))] [(cB, .byte)] (va_A [(st, .inr (0, [.ref b2, .int 0, .int 0, .int 0])), (b2, .inl (cB, n, .inl (gcF x n)))] sz) t) (va_A [(st, .inr (0, [.ref b2, .int 0, .int 0, .int 0])), (b2, .inl (cB, n, .inl (gcF x n)))] sz)) 0 0 (va_A [(st, .inr (0, [.ref b2, .int 0, .int 0, .int 0])), (b2, .inl (cB, n, .inl (gcF x n)))] sz) := by
  refine Met.ofW (cc := cJ0_charAt_5068e) (maxL := 2) (ret := (some .char)) (by decide) rfl ?_
  intro p e s m args below meth c s₁ B hml hv
  obtain ⟨rfl, ⟨hsz, hP, hK, hD0⟩, hXs⟩ := hv
  have hx := B.exec
  have hb := B.bytes
  have hr := B.returns
  have hts := atoms_spec (ws := wsJ0_charAt_5068e) B.pre
  have hown : s.vm.findClass RJ0 = some m.cls := findClass_of_methodNamed B.named
  have hlocks := B.notSynchronized
  subst hsz
  have hD := hD0.self (sz := s.heap.size)
  have hn1 : 1 ≤ n := hd.1
  have hn6 : n ≤ 6 := hd.2.1
  have hx6 : x < 1000000 := dg_x hd
  have hx1 : 1 ≤ x := dg_1 hd
  have hi9 : i < n := hi
  generalize hAe : va_A [(st, .inr (0, [.ref b2, .int 0, .int 0, .int 0])), (b2, .inl (cB, n, .inl (gcF x n)))] s.heap.size = A at hD hXs ⊢
  have hA : ∀ q : Nat, s.heap.size ≤ q → A q := fun q h => by rw [← hAe]; exact Or.inr h
  have hS : va_S A s.heap s.heap [] := va_S.rf
  have hP : va_P (dC, dI) vwCl [(st, .inr (0, [.ref b2, .int 0, .int 0, .int 0])), (b2, .inl (cB, n, .inl (gcF x n)))] s.heap := hP
  have hK : va_K (dC, dI) vwCl [(cB, .byte)] s := hK
  have hl := lv_entry ([.ref st, .int (nI i)]) (n := 2) (Nat.le_of_ble_eq_true rfl)
  rw [lg_entry_eq]
  generalize (lg_sl ([.ref st, .int (nI i)]) ++ List.replicate (2 - (lg_sl ([.ref st, .int (nI i)])).length) Slot.unset).toArray = ls at hl ⊢
  have hl : lv_has ls 2 [(0, .ref st), (1, .int (nI i))] := hl
  refine lv_aload_n hx hb dJ0_charAt_5068e_0 rfl (lv_at hl 0 rfl) ?_
  have hPc := hP.sub (ws' := [(st, .inr (0, [.ref b2, .int 0, .int 0, .int 0]))]) [0] rfl
  have hDc := hD.sub (ws' := [(st, .inr (0, [.ref b2, .int 0, .int 0, .int 0]))]) [0] (by decide) rfl
  have hKc := hK.sub (tys' := []) [] rfl
  have hFc := va_free (wc := [(st, .inr (0, [.ref b2, .int 0, .int 0, .int 0]))]) hD hS hA [0] rfl
  refine va_calli (va_runV (As := []) (rest := []) ⟨hx, hb, hml, hown, hts⟩ (c_J0_isLatin1_aae02 l dC dI jk jv jo jt st b2 _ ) (cwV 0 hts gJ0_charAt_5068e_J0_isLatin1_aae02 rfl rfl rfl (by decide +kernel) ⟨Nat.le_of_ble_eq_true rfl, Nat.le_of_ble_eq_true rfl⟩) ⟨pe_blind jd_bl, va_recv hKc hPc (ci := 0) (q0 := 0) rfl rfl, fun U hU hW => ⟨rfl, pr_mk hU hW hPc hKc hDc, jd_mk hU hW hS hFc hXs⟩⟩ rfl rfl hl.1 rfl (lv_room (Nat.le_of_ble_eq_true rfl)) dJ0_charAt_5068e_1 ⟨Nat.le_of_ble_eq_true rfl, Nat.le_of_ble_eq_true rfl⟩) hS (fun q _ h => hFc q h) hFc (fun r_2 u_1 t H1 locs ht hvm hw hB hz1 hk1 hS => ?_)
  obtain ⟨hP1, hK1, hD1⟩ := hB
  rw [ht] at hP1
  obtain ⟨hP, hD⟩ := va_join (wr := [(b2, .inl (cB, n, .inl (gcF x n)))]) (w1 := [(st, .inr (0, [.ref b2, .int 0, .int 0, .int 0]))]) hP hD [0] [1] rfl rfl (by decide) (by decide) hk1 hFc hP1 hD1
  generalize H1 = H at hP hS ⊢
  have hP : va_P (dC, dI) vwCl [(b2, .inl (cB, n, .inl (gcF x n))), (st, .inr (0, [.ref b2, .int 0, .int 0, .int 0]))] H := hP
  have hD : va_D A [(b2, .inl (cB, n, .inl (gcF x n))), (st, .inr (0, [.ref b2, .int 0, .int 0, .int 0]))] := hD
  refine W.widen (k := 0) (n := 0) (Nat.le_refl _) (Nat.le_refl _) ?_
  have hw : 1 = r_2 := Eq.symm hw
  subst hw
  refine lv_if_eq (tgt := 16) hx hb dJ0_charAt_5068e_4 (by decide) (fun h9 => absurd h9 (by decide)) (fun _ => ?_)
  refine lv_aload_n hx hb dJ0_charAt_5068e_7 rfl (lv_at hl 0 rfl) ?_
  have hinJ0 : ∀ w ∈ u_ws RJ0 TJ0 4, w ∈ wsJ0_charAt_5068e := by decide +kernel
  refine va_get (D := (dC, dI)) (ci := 0) (v := .ref b2) (C := RJ0) (T := TJ0) (N := 4) hx hb hts hinJ0 hown hK hP 1 rfl rfl 0 (by decide) (hts (.fieldLink RJ0 9 "java/lang/String" "value" "[B") (by decide +kernel)) (fun _ h9 => h9) rfl dJ0_charAt_5068e_8 ?_
  refine lv_iload_n hx hb dJ0_charAt_5068e_11 rfl (lv_at hl 1 rfl) ?_
  have hPc := hP.sub (ws' := [(b2, .inl (cB, n, .inl (gcF x n)))]) [0] rfl
  have hDc := hD.sub (ws' := [(b2, .inl (cB, n, .inl (gcF x n)))]) [0] (by decide) rfl
  have hKc := hK.sub (tys' := [(cB, .byte)]) [0] rfl
  have hFc := va_free (wc := [(b2, .inl (cB, n, .inl (gcF x n)))]) hD hS hA [0] rfl
  refine va_calli (va_runS (As := [.ref b2, .int (nI i)]) (rest := []) ⟨hx, hb, hml, hown, hts⟩ (c_J1_charAt_3b067 l dC dI jk jv jo jt cB b2 x n i _ hd hi) (va_cwS 2 hts gJ0_charAt_5068e_J1_charAt_3b067 rfl rfl rfl (by decide +kernel) ⟨Nat.le_of_ble_eq_true rfl, Nat.le_of_ble_eq_true rfl⟩) ⟨pe_blind jd_bl, fun U hU hW => ⟨rfl, pr_mk hU hW hPc hKc hDc, jd_mk hU hW hS hFc hXs⟩⟩ rfl rfl hl.1 rfl (lv_room (Nat.le_of_ble_eq_true rfl)) dJ0_charAt_5068e_12 ⟨Nat.le_of_ble_eq_true rfl, Nat.le_of_ble_eq_true rfl⟩) hS (fun q _ h => hFc q h) hFc (fun r_4 u_3 t H1 locs ht hvm hw hB hz1 hk1 hS => ?_)
  obtain ⟨hP1, hK1, hD1⟩ := hB
  rw [ht] at hP1
  obtain ⟨hP, hD⟩ := va_join (wr := [(st, .inr (0, [.ref b2, .int 0, .int 0, .int 0]))]) (w1 := [(b2, .inl (cB, n, .inl (gcF x n)))]) hP hD [0] [1] rfl rfl (by decide) (by decide) hk1 hFc hP1 hD1
  generalize H1 = H at hP hS ⊢
  have hP : va_P (dC, dI) vwCl [(st, .inr (0, [.ref b2, .int 0, .int 0, .int 0])), (b2, .inl (cB, n, .inl (gcF x n)))] H := hP
  have hD : va_D A [(st, .inr (0, [.ref b2, .int 0, .int 0, .int 0])), (b2, .inl (cB, n, .inl (gcF x n)))] := hD
  refine W.widen (k := 0) (n := 0) (Nat.le_refl _) (Nat.le_refl _) ?_
  have hw : nI (48 + dgt x n i) = r_4 := Eq.symm hw
  subst hw
  have hP9 := hP.sub (ws' := [(st, .inr (0, [.ref b2, .int 0, .int 0, .int 0])), (b2, .inl (cB, n, .inl (gcF x n)))]) [0, 1] rfl
  have hD9 := hD.sub (ws' := [(st, .inr (0, [.ref b2, .int 0, .int 0, .int 0])), (b2, .inl (cB, n, .inl (gcF x n)))]) [0, 1] (by decide) rfl
  have hK9 := hK.sub (tys' := [(cB, .byte)]) [0] rfl
  refine W.widen (k := 0) (n := 0) (Nat.le_of_ble_eq_true rfl) (Nat.le_of_ble_eq_true rfl) ?_
  exact W.zret (v := nI (48 + dgt x n i)) hx hb hr (jchr (dgt_lt x n i)) (fun t ht hW => ⟨⟨nI (48 + dgt x n i), (), rfl, rfl, po_mk ht hW hP9 hK9 hD9⟩, hS.F ht⟩) hS.2.2 dJ0_charAt_5068e_15

set_option maxHeartbeats 4000000 in
set_option maxRecDepth 100000 in
theorem c_J1_canEncode_9a6ad (l : Launch) (dC : Nat → ClassId) (dI : Nat → Nat → Nat) (cq : Nat) (sz : Nat) (hq : cq < 128) : Met l yJ1_canEncode_9a6ad wsJ1_canEncode_9a6ad ({ frames := 2, cells := 0, slots := 0, locals := 40 }) (va_Pc [.int (nI cq)] (pr_ dC dI [] [] sz)) (va_Qi (fun (r : Int32) (_ : Unit) => r = 1) (fun (_ : Unit) t => po_ dC dI [] [] (va_A [] sz) t) (va_A [] sz)) 0 0 (va_A [] sz) := by
  refine Met.ofW (cc := cJ1_canEncode_9a6ad) (maxL := 1) (ret := (some .boolean)) (by decide) rfl ?_
  intro p e s m args below meth c s₁ B hml hv
  obtain ⟨rfl, hsz, hP, hK, hD0⟩ := hv
  have hx := B.exec
  have hb := B.bytes
  have hr := B.returns
  have hts := atoms_spec (ws := wsJ1_canEncode_9a6ad) B.pre
  have hown : s.vm.findClass RJ1 = some m.cls := findClass_of_methodNamed B.named
  have hlocks := B.notSynchronized
  subst hsz
  have hD := hD0.self (sz := s.heap.size)
  generalize hAe : va_A [] s.heap.size = A at hD ⊢
  have hA : ∀ q : Nat, s.heap.size ≤ q → A q := fun q h => by rw [← hAe]; exact Or.inr h
  have hS : va_S A s.heap s.heap [] := va_S.rf
  have hP : va_P (dC, dI) vwCl [] s.heap := hP
  have hK : va_K (dC, dI) vwCl [] s := hK
  have hl := lv_entry ([.int (nI cq)]) (n := 1) (Nat.le_of_ble_eq_true rfl)
  rw [lg_entry_eq]
  generalize (lg_sl ([.int (nI cq)]) ++ List.replicate (1 - (lg_sl ([.int (nI cq)])).length) Slot.unset).toArray = ls at hl ⊢
  have hl : lv_has ls 1 [(0, .int (nI cq))] := hl
  refine lv_iload_n hx hb dJ1_canEncode_9a6ad_0 rfl (lv_at hl 0 rfl) ?_
  refine lv_if_lt (tgt := 15) hx hb dJ1_canEncode_9a6ad_1 (by decide) (fun h9 => ((nI_pos (by omega)) h9).elim) (fun _ => ?_)
  refine lv_iload_n hx hb dJ1_canEncode_9a6ad_4 rfl (lv_at hl 0 rfl) ?_
  refine lv_sipush (v := 255) hx hb dJ1_canEncode_9a6ad_5 (by decide) ?_
  refine lv_icmp_gt (tgt := 15) hx hb dJ1_canEncode_9a6ad_8 (by decide) (fun h9 => ((nI_nlt (a := 255) (by omega) (by decide)) h9).elim) (fun _ => ?_)
  refine lv_iconst (v := 1) hx hb dJ1_canEncode_9a6ad_11 (by decide) ?_
  refine lv_goto (tgt := 16) hx hb dJ1_canEncode_9a6ad_12 (by decide) ?_
  have hP9 := hP.sub (ws' := []) [] rfl
  have hD9 := hD.sub (ws' := []) [] (by decide) rfl
  have hK9 := hK.sub (tys' := []) [] rfl
  refine W.widen (k := 0) (n := 0) (Nat.le_of_ble_eq_true rfl) (Nat.le_of_ble_eq_true rfl) ?_
  exact W.zret (v := 1) hx hb hr rfl (fun t ht hW => ⟨⟨1, (), rfl, rfl, po_mk ht hW hP9 hK9 hD9⟩, hS.F ht⟩) hS.2.2 dJ1_canEncode_9a6ad_16

set_option maxHeartbeats 4000000 in
set_option maxRecDepth 100000 in
theorem c_J1_indexOfChar_4cfef (l : Launch) (dC : Nat → ClassId) (dI : Nat → Nat → Nat) (jk : Nat) (jv : Nat) (jo : Nat) (jt : Nat) (cB : ClassId) (b2 : Nat) (x : Nat) (n : Nat) (i : Nat) (cq : Nat) (sz : Nat) (hd : Dg x n) (hi : i < n) (hq : cq < 128) (hf : gcF x n i = nI cq ∧ ∀ j, j < i → ¬ gcF x n j = nI cq) : Met l yJ1_indexOfChar_4cfef wsJ1_indexOfChar_4cfef ({ frames := 2, cells := 0, slots := 0, locals := 40 }) (va_Pc [.ref b2, .int (nI cq), .int 0, .int (nI n)] (fun U => pr_ dC dI [(b2, .inl (cB, n, .inl (gcF x n)))] [(cB, .byte)] sz U ∧ jd_ (va_A [(b2, .inl (cB, n, .inl (gcF x n)))] sz) jk jv jo jt U)) (va_Qi (fun (r : Int32) (_ : Unit) => r = nI i) (fun (_ : Unit) t => po_ dC dI [(b2, .inl (cB, n, .inl (gcF x n)))] [(cB, .byte)] (va_A [(b2, .inl (cB, n, .inl (gcF x n)))] sz) t) (va_A [(b2, .inl (cB, n, .inl (gcF x n)))] sz)) 0 0 (va_A [(b2, .inl (cB, n, .inl (gcF x n)))] sz) := by
  refine Met.ofW (cc := cJ1_indexOfChar_4cfef) (maxL := 6) (ret := (some .int)) (by decide) rfl ?_
  intro p e s m args below meth c s₁ B hml hv
  obtain ⟨rfl, ⟨hsz, hP, hK, hD0⟩, hXs⟩ := hv
  have hx := B.exec
  have hb := B.bytes
  have hr := B.returns
  have hts := atoms_spec (ws := wsJ1_indexOfChar_4cfef) B.pre
  have hown : s.vm.findClass RJ1 = some m.cls := findClass_of_methodNamed B.named
  have hlocks := B.notSynchronized
  subst hsz
  have hD := hD0.self (sz := s.heap.size)
  have hn1 : 1 ≤ n := hd.1
  have hn6 : n ≤ 6 := hd.2.1
  have hx6 : x < 1000000 := dg_x hd
  have hx1 : 1 ≤ x := dg_1 hd
  have hi9 : i < n := hi
  generalize hAe : va_A [(b2, .inl (cB, n, .inl (gcF x n)))] s.heap.size = A at hD hXs ⊢
  have hA : ∀ q : Nat, s.heap.size ≤ q → A q := fun q h => by rw [← hAe]; exact Or.inr h
  have hS : va_S A s.heap s.heap [] := va_S.rf
  have hP : va_P (dC, dI) vwCl [(b2, .inl (cB, n, .inl (gcF x n)))] s.heap := hP
  have hK : va_K (dC, dI) vwCl [(cB, .byte)] s := hK
  have hl := lv_entry ([.ref b2, .int (nI cq), .int 0, .int (nI n)]) (n := 6) (Nat.le_of_ble_eq_true rfl)
  rw [lg_entry_eq]
  generalize (lg_sl ([.ref b2, .int (nI cq), .int 0, .int (nI n)]) ++ List.replicate (6 - (lg_sl ([.ref b2, .int (nI cq), .int 0, .int (nI n)])).length) Slot.unset).toArray = ls at hl ⊢
  have hl : lv_has ls 6 [(0, .ref b2), (1, .int (nI cq)), (2, .int 0), (3, .int (nI n))] := hl
  refine lv_iload_n hx hb dJ1_indexOfChar_4cfef_0 rfl (lv_at hl 1 rfl) ?_
  refine lv_i2b hx hb dJ1_indexOfChar_4cfef_1 (ji2b hq) ?_
  refine lv_istore (lv' := [(4, .int (nI cq)), (0, .ref b2), (1, .int (nI cq)), (2, .int 0), (3, .int (nI n))]) hx hb dJ1_indexOfChar_4cfef_2 hl (by decide) rfl (fun ls hl => ?_)
  refine lv_iload_n hx hb dJ1_indexOfChar_4cfef_4 rfl (lv_at hl 3 rfl) ?_
  refine lv_istore (lv' := [(5, .int 0), (4, .int (nI cq)), (0, .ref b2), (1, .int (nI cq)), (2, .int 0), (3, .int (nI n))]) hx hb dJ1_indexOfChar_4cfef_5 hl (by decide) rfl (fun ls hl => ?_)
  refine (?_ : ∀ (r k : Nat) (H : Heap) (locs : List Loc) (ls : Array Slot), k + r = i → va_P (dC, dI) vwCl [(b2, .inl (cB, n, .inl (gcF x n)))] H → va_D A [(b2, .inl (cB, n, .inl (gcF x n)))] → va_S A s.heap H locs → lv_has ls 6 [(5, .int (nI k)), (0, .ref b2), (3, .int (nI n)), (4, .int (nI cq))] → W p l e _ s m _ below meth c H locs 0 0 _ (F0 m 7 ls [])) i 0 _ _ _ (by omega) hP hD hS (lv_sub hl [0, 2, 5, 1] rfl)
  intro r
  induction r with
  | zero =>
    intro k H locs ls hki hP hD hS hl
    have hk9 : k = i := by omega
    subst hk9
    refine lv_iload hx hb dJ1_indexOfChar_4cfef_7 (lv_at hl 0 rfl) ?_
    refine lv_iload_n hx hb dJ1_indexOfChar_4cfef_9 rfl (lv_at hl 2 rfl) ?_
    refine lv_icmp_ge (tgt := 31) hx hb dJ1_indexOfChar_4cfef_10 (by decide) (fun h9 => ((nI_ge (by omega) (by omega)) h9).elim) (fun _ => ?_)
    refine lv_aload_n hx hb dJ1_indexOfChar_4cfef_13 rfl (lv_at hl 1 rfl) ?_
    refine lv_iload hx hb dJ1_indexOfChar_4cfef_14 (lv_at hl 0 rfl) ?_
    refine va_bald hx hb hK hP 0 0 rfl rfl (vp_in_nI (by omega) (by omega)) dJ1_indexOfChar_4cfef_16 ?_
    refine lv_topi (fun y_1 ey_1 => ?_)
    obtain rfl : y_1 = gcF x n k := ey_1.trans (by rw [nI_clamp (by omega)])
    refine lv_iload hx hb dJ1_indexOfChar_4cfef_17 (lv_at hl 3 rfl) ?_
    refine lv_icmp_ne (tgt := 25) hx hb dJ1_indexOfChar_4cfef_19 (by decide) (fun h9 => (h9 hf.1).elim) (fun _ => ?_)
    refine lv_iload hx hb dJ1_indexOfChar_4cfef_22 (lv_at hl 0 rfl) ?_
    have hP9 := hP.sub (ws' := [(b2, .inl (cB, n, .inl (gcF x n)))]) [0] rfl
    have hD9 := hD.sub (ws' := [(b2, .inl (cB, n, .inl (gcF x n)))]) [0] (by decide) rfl
    have hK9 := hK.sub (tys' := [(cB, .byte)]) [0] rfl
    refine W.widen (k := 0) (n := 0) (Nat.le_of_ble_eq_true rfl) (Nat.le_of_ble_eq_true rfl) ?_
    exact W.iret (v := nI k) hx hb hr (fun t ht hW => ⟨⟨nI k, (), rfl, rfl, po_mk ht hW hP9 hK9 hD9⟩, hS.F ht⟩) hS.2.2 dJ1_indexOfChar_4cfef_24
  | succ r IH =>
    intro k H locs ls hki hP hD hS hl
    refine lv_iload hx hb dJ1_indexOfChar_4cfef_7 (lv_at hl 0 rfl) ?_
    refine lv_iload_n hx hb dJ1_indexOfChar_4cfef_9 rfl (lv_at hl 2 rfl) ?_
    refine lv_icmp_ge (tgt := 31) hx hb dJ1_indexOfChar_4cfef_10 (by decide) (fun h9 => ((nI_ge (by omega) (by omega)) h9).elim) (fun _ => ?_)
    refine lv_aload_n hx hb dJ1_indexOfChar_4cfef_13 rfl (lv_at hl 1 rfl) ?_
    refine lv_iload hx hb dJ1_indexOfChar_4cfef_14 (lv_at hl 0 rfl) ?_
    refine va_bald hx hb hK hP 0 0 rfl rfl (vp_in_nI (by omega) (by omega)) dJ1_indexOfChar_4cfef_16 ?_
    refine lv_topi (fun y_2 ey_2 => ?_)
    obtain rfl : y_2 = gcF x n k := ey_2.trans (by rw [nI_clamp (by omega)])
    refine lv_iload hx hb dJ1_indexOfChar_4cfef_17 (lv_at hl 3 rfl) ?_
    refine lv_icmp_ne (tgt := 25) hx hb dJ1_indexOfChar_4cfef_19 (by decide) (fun _ => ?_) (fun h9 => ((hf.2 k (by omega)) h9).elim)
    refine lv_iinc (k := 0) (v := nI (k + 1)) (lv' := [(5, .int (nI (k + 1))), (0, .ref b2), (3, .int (nI n)), (4, .int (nI cq))]) hx hb dJ1_indexOfChar_4cfef_25 hl rfl (nI_succ1 _) (by decide) rfl (fun ls hl => ?_)
    refine lv_goto (tgt := 7) hx hb dJ1_indexOfChar_4cfef_28 (by decide) ?_
    have hl : lv_has ls 6 [(5, .int (nI (k + 1))), (0, .ref b2), (3, .int (nI n)), (4, .int (nI cq))] := hl
    exact IH (k + 1) H locs ls (by omega) hP hD hS (lv_sub hl [0, 1, 2, 3] rfl)

set_option maxHeartbeats 4000000 in
set_option maxRecDepth 100000 in
theorem c_J1_indexOf_4cfef (l : Launch) (dC : Nat → ClassId) (dI : Nat → Nat → Nat) (jk : Nat) (jv : Nat) (jo : Nat) (jt : Nat) (cB : ClassId) (b2 : Nat) (x : Nat) (n : Nat) (i : Nat) (cq : Nat) (sz : Nat) (hd : Dg x n) (hi : i < n) (hq : cq < 128) (hf : gcF x n i = nI cq ∧ ∀ j, j < i → ¬ gcF x n j = nI cq) : Met l yJ1_indexOf_4cfef wsJ1_indexOf_4cfef ({ frames := 3, cells := 0, slots := 0, locals := 80 }) (va_Pc [.ref b2, .int (nI cq), .int 0, .int (nI n)] (fun U => pr_ dC dI [(b2, .inl (cB, n, .inl (gcF x n)))] [(cB, .byte)] sz U ∧ jd_ (va_A [(b2, .inl (cB, n, .inl (gcF x n)))] sz) jk jv jo jt U)) (va_Qi (fun (r : Int32) (_ : Unit) => r = nI i) (fun (_ : Unit) t => po_ dC dI [(b2, .inl (cB, n, .inl (gcF x n)))] [(cB, .byte)] (va_A [(b2, .inl (cB, n, .inl (gcF x n)))] sz) t) (va_A [(b2, .inl (cB, n, .inl (gcF x n)))] sz)) 0 0 (va_A [(b2, .inl (cB, n, .inl (gcF x n)))] sz) := by
  refine Met.ofW (cc := cJ1_indexOf_4cfef) (maxL := 4) (ret := (some .int)) (by decide) rfl ?_
  intro p e s m args below meth c s₁ B hml hv
  obtain ⟨rfl, ⟨hsz, hP, hK, hD0⟩, hXs⟩ := hv
  have hx := B.exec
  have hb := B.bytes
  have hr := B.returns
  have hts := atoms_spec (ws := wsJ1_indexOf_4cfef) B.pre
  have hown : s.vm.findClass RJ1 = some m.cls := findClass_of_methodNamed B.named
  have hlocks := B.notSynchronized
  subst hsz
  have hD := hD0.self (sz := s.heap.size)
  have hn1 : 1 ≤ n := hd.1
  have hn6 : n ≤ 6 := hd.2.1
  have hx6 : x < 1000000 := dg_x hd
  have hx1 : 1 ≤ x := dg_1 hd
  have hi9 : i < n := hi
  generalize hAe : va_A [(b2, .inl (cB, n, .inl (gcF x n)))] s.heap.size = A at hD hXs ⊢
  have hA : ∀ q : Nat, s.heap.size ≤ q → A q := fun q h => by rw [← hAe]; exact Or.inr h
  have hS : va_S A s.heap s.heap [] := va_S.rf
  have hP : va_P (dC, dI) vwCl [(b2, .inl (cB, n, .inl (gcF x n)))] s.heap := hP
  have hK : va_K (dC, dI) vwCl [(cB, .byte)] s := hK
  have hl := lv_entry ([.ref b2, .int (nI cq), .int 0, .int (nI n)]) (n := 4) (Nat.le_of_ble_eq_true rfl)
  rw [lg_entry_eq]
  generalize (lg_sl ([.ref b2, .int (nI cq), .int 0, .int (nI n)]) ++ List.replicate (4 - (lg_sl ([.ref b2, .int (nI cq), .int 0, .int (nI n)])).length) Slot.unset).toArray = ls at hl ⊢
  have hl : lv_has ls 4 [(0, .ref b2), (1, .int (nI cq)), (2, .int 0), (3, .int (nI n))] := hl
  refine lv_iload_n hx hb dJ1_indexOf_4cfef_0 rfl (lv_at hl 1 rfl) ?_
  have hPc := hP.sub (ws' := []) [] rfl
  have hDc := hD.sub (ws' := []) [] (by decide) rfl
  have hKc := hK.sub (tys' := []) [] rfl
  have hFc := va_free (wc := []) hD hS hA [] rfl
  refine va_calli (va_runS (As := [.int (nI cq)]) (rest := []) ⟨hx, hb, hml, hown, hts⟩ (c_J1_canEncode_9a6ad l dC dI cq _ hq) (va_cwS 1 hts gJ1_indexOf_4cfef_J1_canEncode_9a6ad rfl rfl rfl (by decide +kernel) ⟨Nat.le_of_ble_eq_true rfl, Nat.le_of_ble_eq_true rfl⟩) ⟨pr_blind, fun U hU hW => ⟨rfl, pr_mk hU hW hPc hKc hDc⟩⟩ rfl rfl hl.1 rfl (lv_room (Nat.le_of_ble_eq_true rfl)) dJ1_indexOf_4cfef_1 ⟨Nat.le_of_ble_eq_true rfl, Nat.le_of_ble_eq_true rfl⟩) hS (fun q _ h => hFc q h) hFc (fun r_2 u_1 t H1 locs ht hvm hw hB hz1 hk1 hS => ?_)
  obtain ⟨hP1, hK1, hD1⟩ := hB
  rw [ht] at hP1
  obtain ⟨hP, hD⟩ := va_join (wr := [(b2, .inl (cB, n, .inl (gcF x n)))]) (w1 := []) hP hD [] [0] rfl rfl (by decide) (by decide) hk1 hFc hP1 hD1
  generalize H1 = H at hP hS ⊢
  have hP : va_P (dC, dI) vwCl [(b2, .inl (cB, n, .inl (gcF x n)))] H := hP
  have hD : va_D A [(b2, .inl (cB, n, .inl (gcF x n)))] := hD
  refine W.widen (k := 0) (n := 0) (Nat.le_refl _) (Nat.le_refl _) ?_
  have hw : 1 = r_2 := Eq.symm hw
  subst hw
  refine lv_if_ne (tgt := 9) hx hb dJ1_indexOf_4cfef_4 (by decide) (fun _ => ?_) (fun h9 => absurd h9 (by decide))
  refine lv_iload_n hx hb dJ1_indexOf_4cfef_9 rfl (lv_at hl 2 rfl) ?_
  refine lv_iconst (v := 0) hx hb dJ1_indexOf_4cfef_10 (by decide) ?_
  refine va_mmax hx hb (by rw [hml]; exact hl.1.symm) hown (hts (.methodLink RJ1 92 Lib.Math.max.name) (by decide +kernel)) (hts (.static Lib.Math.max.name) (by decide +kernel)) (hts (.initialized "java/lang/Math") (by decide +kernel)) (hts (.code Lib.Math.max.name Lib.Math.max.code 2 (some .int)) (by decide +kernel)) (Nat.le_of_ble_eq_true rfl) (Nat.le_of_ble_eq_true rfl) (Nat.le_of_ble_eq_true rfl) (Nat.le_of_ble_eq_true rfl) dJ1_indexOf_4cfef_11 ?_
  refine lv_topi (fun y_3 ey_3 => ?_)
  obtain rfl : y_3 = 0 := ey_3.trans (by decide)
  refine lv_istore_n (lv' := [(2, .int 0), (0, .ref b2), (1, .int (nI cq)), (3, .int (nI n))]) hx hb dJ1_indexOf_4cfef_14 rfl hl (by decide) rfl (fun ls hl => ?_)
  refine lv_iload_n hx hb dJ1_indexOf_4cfef_15 rfl (lv_at hl 3 rfl) ?_
  refine lv_aload_n hx hb dJ1_indexOf_4cfef_16 rfl (lv_at hl 1 rfl) ?_
  refine va_alen (v := nI n) hx hb hK hP 0 0 rfl rfl rfl dJ1_indexOf_4cfef_17 ?_
  refine va_mmin hx hb (by rw [hml]; exact hl.1.symm) hown (hts (.methodLink RJ1 38 Lib.Math.min.name) (by decide +kernel)) (hts (.static Lib.Math.min.name) (by decide +kernel)) (hts (.initialized "java/lang/Math") (by decide +kernel)) (hts (.code Lib.Math.min.name Lib.Math.min.code 2 (some .int)) (by decide +kernel)) (Nat.le_of_ble_eq_true rfl) (Nat.le_of_ble_eq_true rfl) (Nat.le_of_ble_eq_true rfl) (Nat.le_of_ble_eq_true rfl) dJ1_indexOf_4cfef_18 ?_
  refine lv_topi (fun y_4 ey_4 => ?_)
  obtain rfl : y_4 = nI n := ey_4.trans (ite_self _)
  refine lv_istore_n (lv' := [(3, .int (nI n)), (2, .int 0), (0, .ref b2), (1, .int (nI cq))]) hx hb dJ1_indexOf_4cfef_21 rfl hl (by decide) rfl (fun ls hl => ?_)
  refine lv_iload_n hx hb dJ1_indexOf_4cfef_22 rfl (lv_at hl 1 rfl) ?_
  refine lv_iload_n hx hb dJ1_indexOf_4cfef_23 rfl (lv_at hl 0 rfl) ?_
  refine lv_icmp_lt (tgt := 29) hx hb dJ1_indexOf_4cfef_24 (by decide) (fun _ => ?_) (fun h9 => (h9 (nI_lt (a := 0) (by omega) (by omega))).elim)
  refine lv_aload_n hx hb dJ1_indexOf_4cfef_29 rfl (lv_at hl 2 rfl) ?_
  refine lv_iload_n hx hb dJ1_indexOf_4cfef_30 rfl (lv_at hl 3 rfl) ?_
  refine lv_iload_n hx hb dJ1_indexOf_4cfef_31 rfl (lv_at hl 1 rfl) ?_
  refine lv_iload_n hx hb dJ1_indexOf_4cfef_32 rfl (lv_at hl 0 rfl) ?_
  have hPc := hP.sub (ws' := [(b2, .inl (cB, n, .inl (gcF x n)))]) [0] rfl
  have hDc := hD.sub (ws' := [(b2, .inl (cB, n, .inl (gcF x n)))]) [0] (by decide) rfl
  have hKc := hK.sub (tys' := [(cB, .byte)]) [0] rfl
  have hFc := va_free (wc := [(b2, .inl (cB, n, .inl (gcF x n)))]) hD hS hA [0] rfl
  refine va_calli (va_runS (As := [.ref b2, .int (nI cq), .int 0, .int (nI n)]) (rest := []) ⟨hx, hb, hml, hown, hts⟩ (c_J1_indexOfChar_4cfef l dC dI jk jv jo jt cB b2 x n i cq _ hd hi hq hf) (va_cwS 4 hts gJ1_indexOf_4cfef_J1_indexOfChar_4cfef rfl rfl rfl (by decide +kernel) ⟨Nat.le_of_ble_eq_true rfl, Nat.le_of_ble_eq_true rfl⟩) ⟨pe_blind jd_bl, fun U hU hW => ⟨rfl, pr_mk hU hW hPc hKc hDc, jd_mk hU hW hS hFc hXs⟩⟩ rfl rfl hl.1 rfl (lv_room (Nat.le_of_ble_eq_true rfl)) dJ1_indexOf_4cfef_33 ⟨Nat.le_of_ble_eq_true rfl, Nat.le_of_ble_eq_true rfl⟩) hS (fun q _ h => hFc q h) hFc (fun r_6 u_5 t H1 locs ht hvm hw hB hz1 hk1 hS => ?_)
  obtain ⟨hP1, hK1, hD1⟩ := hB
  rw [ht] at hP1
  obtain ⟨hP, hD⟩ := va_join (wr := []) (w1 := [(b2, .inl (cB, n, .inl (gcF x n)))]) hP hD [0] [] rfl rfl (by decide) (by decide) hk1 hFc hP1 hD1
  generalize H1 = H at hP hS ⊢
  have hP : va_P (dC, dI) vwCl [(b2, .inl (cB, n, .inl (gcF x n)))] H := hP
  have hD : va_D A [(b2, .inl (cB, n, .inl (gcF x n)))] := hD
  refine W.widen (k := 0) (n := 0) (Nat.le_refl _) (Nat.le_refl _) ?_
  have hw : nI i = r_6 := Eq.symm hw
  subst hw
  have hP9 := hP.sub (ws' := [(b2, .inl (cB, n, .inl (gcF x n)))]) [0] rfl
  have hD9 := hD.sub (ws' := [(b2, .inl (cB, n, .inl (gcF x n)))]) [0] (by decide) rfl
  have hK9 := hK.sub (tys' := [(cB, .byte)]) [0] rfl
  refine W.widen (k := 0) (n := 0) (Nat.le_of_ble_eq_true rfl) (Nat.le_of_ble_eq_true rfl) ?_
  exact W.iret (v := nI i) hx hb hr (fun t ht hW => ⟨⟨nI i, (), rfl, rfl, po_mk ht hW hP9 hK9 hD9⟩, hS.F ht⟩) hS.2.2 dJ1_indexOf_4cfef_36

set_option maxHeartbeats 4000000 in
set_option maxRecDepth 100000 in
theorem c_J0_indexOf_7cf53 (l : Launch) (dC : Nat → ClassId) (dI : Nat → Nat → Nat) (jk : Nat) (jv : Nat) (jo : Nat) (jt : Nat) (cB : ClassId) (st : Nat) (b2 : Nat) (x : Nat) (n : Nat) (i : Nat) (cq : Nat) (sz : Nat) (hd : Dg x n) (hi : i < n) (hq : cq < 128) (hf : gcF x n i = nI cq ∧ ∀ j, j < i → ¬ gcF x n j = nI cq) : Met l yJ0_indexOf_7cf53 wsJ0_indexOf_7cf53 ({ frames := 4, cells := 0, slots := 0, locals := 110 }) (va_Pc [.ref st, .int (nI cq), .int 0] (fun U => pr_ dC dI [(st, .inr (0, [.ref b2, .int 0, .int 0, .int 0])), (b2, .inl (cB, n, .inl (gcF x n)))] [(cB, .byte)] sz U ∧ jd_ (va_A [(st, .inr (0, [.ref b2, .int 0, .int 0, .int 0])), (b2, .inl (cB, n, .inl (gcF x n)))] sz) jk jv jo jt U)) (va_Qi (fun (r : Int32) (_ : Unit) => r = nI i) (fun (_ : Unit) t => po_ dC dI [(st, .inr (0, [.ref b2, .int 0, .int 0, .int 0])), (b2, .inl (cB, n, .inl (gcF x n)))] [(cB, .byte)] (va_A [(st, .inr (0, [.ref b2, .int 0, .int 0, .int 0])), (b2, .inl (cB, n, .inl (gcF x n)))] sz) t) (va_A [(st, .inr (0, [.ref b2, .int 0, .int 0, .int 0])), (b2, .inl (cB, n, .inl (gcF x n)))] sz)) 0 0 (va_A [(st, .inr (0, [.ref b2, .int 0, .int 0, .int 0])), (b2, .inl (cB, n, .inl (gcF x n)))] sz) := by
  refine Met.ofW (cc := cJ0_indexOf_7cf53) (maxL := 3) (ret := (some .int)) (by decide) rfl ?_
  intro p e s m args below meth c s₁ B hml hv
  obtain ⟨rfl, ⟨hsz, hP, hK, hD0⟩, hXs⟩ := hv
  have hx := B.exec
  have hb := B.bytes
  have hr := B.returns
  have hts := atoms_spec (ws := wsJ0_indexOf_7cf53) B.pre
  have hown : s.vm.findClass RJ0 = some m.cls := findClass_of_methodNamed B.named
  have hlocks := B.notSynchronized
  subst hsz
  have hD := hD0.self (sz := s.heap.size)
  have hn1 : 1 ≤ n := hd.1
  have hn6 : n ≤ 6 := hd.2.1
  have hx6 : x < 1000000 := dg_x hd
  have hx1 : 1 ≤ x := dg_1 hd
  have hi9 : i < n := hi
  generalize hAe : va_A [(st, .inr (0, [.ref b2, .int 0, .int 0, .int 0])), (b2, .inl (cB, n, .inl (gcF x n)))] s.heap.size = A at hD hXs ⊢
  have hA : ∀ q : Nat, s.heap.size ≤ q → A q := fun q h => by rw [← hAe]; exact Or.inr h
  have hS : va_S A s.heap s.heap [] := va_S.rf
  have hP : va_P (dC, dI) vwCl [(st, .inr (0, [.ref b2, .int 0, .int 0, .int 0])), (b2, .inl (cB, n, .inl (gcF x n)))] s.heap := hP
  have hK : va_K (dC, dI) vwCl [(cB, .byte)] s := hK
  have hl := lv_entry ([.ref st, .int (nI cq), .int 0]) (n := 3) (Nat.le_of_ble_eq_true rfl)
  rw [lg_entry_eq]
  generalize (lg_sl ([.ref st, .int (nI cq), .int 0]) ++ List.replicate (3 - (lg_sl ([.ref st, .int (nI cq), .int 0])).length) Slot.unset).toArray = ls at hl ⊢
  have hl : lv_has ls 3 [(0, .ref st), (1, .int (nI cq)), (2, .int 0)] := hl
  refine lv_aload_n hx hb dJ0_indexOf_7cf53_0 rfl (lv_at hl 0 rfl) ?_
  have hPc := hP.sub (ws' := [(st, .inr (0, [.ref b2, .int 0, .int 0, .int 0]))]) [0] rfl
  have hDc := hD.sub (ws' := [(st, .inr (0, [.ref b2, .int 0, .int 0, .int 0]))]) [0] (by decide) rfl
  have hKc := hK.sub (tys' := []) [] rfl
  have hFc := va_free (wc := [(st, .inr (0, [.ref b2, .int 0, .int 0, .int 0]))]) hD hS hA [0] rfl
  refine va_calli (va_runV (As := []) (rest := []) ⟨hx, hb, hml, hown, hts⟩ (c_J0_isLatin1_aae02 l dC dI jk jv jo jt st b2 _ ) (cwV 0 hts gJ0_indexOf_7cf53_J0_isLatin1_aae02 rfl rfl rfl (by decide +kernel) ⟨Nat.le_of_ble_eq_true rfl, Nat.le_of_ble_eq_true rfl⟩) ⟨pe_blind jd_bl, va_recv hKc hPc (ci := 0) (q0 := 0) rfl rfl, fun U hU hW => ⟨rfl, pr_mk hU hW hPc hKc hDc, jd_mk hU hW hS hFc hXs⟩⟩ rfl rfl hl.1 rfl (lv_room (Nat.le_of_ble_eq_true rfl)) dJ0_indexOf_7cf53_1 ⟨Nat.le_of_ble_eq_true rfl, Nat.le_of_ble_eq_true rfl⟩) hS (fun q _ h => hFc q h) hFc (fun r_2 u_1 t H1 locs ht hvm hw hB hz1 hk1 hS => ?_)
  obtain ⟨hP1, hK1, hD1⟩ := hB
  rw [ht] at hP1
  obtain ⟨hP, hD⟩ := va_join (wr := [(b2, .inl (cB, n, .inl (gcF x n)))]) (w1 := [(st, .inr (0, [.ref b2, .int 0, .int 0, .int 0]))]) hP hD [0] [1] rfl rfl (by decide) (by decide) hk1 hFc hP1 hD1
  generalize H1 = H at hP hS ⊢
  have hP : va_P (dC, dI) vwCl [(b2, .inl (cB, n, .inl (gcF x n))), (st, .inr (0, [.ref b2, .int 0, .int 0, .int 0]))] H := hP
  have hD : va_D A [(b2, .inl (cB, n, .inl (gcF x n))), (st, .inr (0, [.ref b2, .int 0, .int 0, .int 0]))] := hD
  refine W.widen (k := 0) (n := 0) (Nat.le_refl _) (Nat.le_refl _) ?_
  have hw : 1 = r_2 := Eq.symm hw
  subst hw
  refine lv_if_eq (tgt := 23) hx hb dJ0_indexOf_7cf53_4 (by decide) (fun h9 => absurd h9 (by decide)) (fun _ => ?_)
  refine lv_aload_n hx hb dJ0_indexOf_7cf53_7 rfl (lv_at hl 0 rfl) ?_
  have hinJ0 : ∀ w ∈ u_ws RJ0 TJ0 4, w ∈ wsJ0_indexOf_7cf53 := by decide +kernel
  refine va_get (D := (dC, dI)) (ci := 0) (v := .ref b2) (C := RJ0) (T := TJ0) (N := 4) hx hb hts hinJ0 hown hK hP 1 rfl rfl 0 (by decide) (hts (.fieldLink RJ0 9 "java/lang/String" "value" "[B") (by decide +kernel)) (fun _ h9 => h9) rfl dJ0_indexOf_7cf53_8 ?_
  refine lv_iload_n hx hb dJ0_indexOf_7cf53_11 rfl (lv_at hl 1 rfl) ?_
  refine lv_iload_n hx hb dJ0_indexOf_7cf53_12 rfl (lv_at hl 2 rfl) ?_
  refine lv_aload_n hx hb dJ0_indexOf_7cf53_13 rfl (lv_at hl 0 rfl) ?_
  have hPc := hP.sub (ws' := [(st, .inr (0, [.ref b2, .int 0, .int 0, .int 0])), (b2, .inl (cB, n, .inl (gcF x n)))]) [1, 0] rfl
  have hDc := hD.sub (ws' := [(st, .inr (0, [.ref b2, .int 0, .int 0, .int 0])), (b2, .inl (cB, n, .inl (gcF x n)))]) [1, 0] (by decide) rfl
  have hKc := hK.sub (tys' := [(cB, .byte)]) [0] rfl
  have hFc := va_free (wc := [(st, .inr (0, [.ref b2, .int 0, .int 0, .int 0])), (b2, .inl (cB, n, .inl (gcF x n)))]) hD hS hA [1, 0] rfl
  refine va_calli (va_runV (As := []) (rest := [.int 0, .int (nI cq), .ref b2]) ⟨hx, hb, hml, hown, hts⟩ (c_J0_length_8abf5 l dC dI jk jv jo jt cB (gcF x n) st b2 n _ ) (cwV 0 hts gJ0_indexOf_7cf53_J0_length_8abf5 rfl rfl rfl (by decide +kernel) ⟨Nat.le_of_ble_eq_true rfl, Nat.le_of_ble_eq_true rfl⟩) ⟨pe_blind jd_bl, va_recv hKc hPc (ci := 0) (q0 := 0) rfl rfl, fun U hU hW => ⟨rfl, pr_mk hU hW hPc hKc hDc, jd_mk hU hW hS hFc hXs⟩⟩ rfl rfl hl.1 rfl (lv_room (Nat.le_of_ble_eq_true rfl)) dJ0_indexOf_7cf53_14 ⟨Nat.le_of_ble_eq_true rfl, Nat.le_of_ble_eq_true rfl⟩) hS (fun q _ h => hFc q h) hFc (fun r_4 u_3 t H1 locs ht hvm hw hB hz1 hk1 hS => ?_)
  obtain ⟨hP1, hK1, hD1⟩ := hB
  rw [ht] at hP1
  obtain ⟨hP, hD⟩ := va_join (wr := []) (w1 := [(st, .inr (0, [.ref b2, .int 0, .int 0, .int 0])), (b2, .inl (cB, n, .inl (gcF x n)))]) hP hD [1, 0] [] rfl rfl (by decide) (by decide) hk1 hFc hP1 hD1
  generalize H1 = H at hP hS ⊢
  have hP : va_P (dC, dI) vwCl [(st, .inr (0, [.ref b2, .int 0, .int 0, .int 0])), (b2, .inl (cB, n, .inl (gcF x n)))] H := hP
  have hD : va_D A [(st, .inr (0, [.ref b2, .int 0, .int 0, .int 0])), (b2, .inl (cB, n, .inl (gcF x n)))] := hD
  refine W.widen (k := 0) (n := 0) (Nat.le_refl _) (Nat.le_refl _) ?_
  have hw : nI n = r_4 := Eq.symm hw
  subst hw
  have hPc := hP.sub (ws' := [(b2, .inl (cB, n, .inl (gcF x n)))]) [1] rfl
  have hDc := hD.sub (ws' := [(b2, .inl (cB, n, .inl (gcF x n)))]) [1] (by decide) rfl
  have hKc := hK.sub (tys' := [(cB, .byte)]) [0] rfl
  have hFc := va_free (wc := [(b2, .inl (cB, n, .inl (gcF x n)))]) hD hS hA [1] rfl
  refine va_calli (va_runS (As := [.ref b2, .int (nI cq), .int 0, .int (nI n)]) (rest := []) ⟨hx, hb, hml, hown, hts⟩ (c_J1_indexOf_4cfef l dC dI jk jv jo jt cB b2 x n i cq _ hd hi hq hf) (va_cwS 4 hts gJ0_indexOf_7cf53_J1_indexOf_4cfef rfl rfl rfl (by decide +kernel) ⟨Nat.le_of_ble_eq_true rfl, Nat.le_of_ble_eq_true rfl⟩) ⟨pe_blind jd_bl, fun U hU hW => ⟨rfl, pr_mk hU hW hPc hKc hDc, jd_mk hU hW hS hFc hXs⟩⟩ rfl rfl hl.1 rfl (lv_room (Nat.le_of_ble_eq_true rfl)) dJ0_indexOf_7cf53_17 ⟨Nat.le_of_ble_eq_true rfl, Nat.le_of_ble_eq_true rfl⟩) hS (fun q _ h => hFc q h) hFc (fun r_6 u_5 t H1 locs ht hvm hw hB hz1 hk1 hS => ?_)
  obtain ⟨hP1, hK1, hD1⟩ := hB
  rw [ht] at hP1
  obtain ⟨hP, hD⟩ := va_join (wr := [(st, .inr (0, [.ref b2, .int 0, .int 0, .int 0]))]) (w1 := [(b2, .inl (cB, n, .inl (gcF x n)))]) hP hD [1] [0] rfl rfl (by decide) (by decide) hk1 hFc hP1 hD1
  generalize H1 = H at hP hS ⊢
  have hP : va_P (dC, dI) vwCl [(st, .inr (0, [.ref b2, .int 0, .int 0, .int 0])), (b2, .inl (cB, n, .inl (gcF x n)))] H := hP
  have hD : va_D A [(st, .inr (0, [.ref b2, .int 0, .int 0, .int 0])), (b2, .inl (cB, n, .inl (gcF x n)))] := hD
  refine W.widen (k := 0) (n := 0) (Nat.le_refl _) (Nat.le_refl _) ?_
  have hw : nI i = r_6 := Eq.symm hw
  subst hw
  refine lv_goto (tgt := 36) hx hb dJ0_indexOf_7cf53_20 (by decide) ?_
  have hP9 := hP.sub (ws' := [(st, .inr (0, [.ref b2, .int 0, .int 0, .int 0])), (b2, .inl (cB, n, .inl (gcF x n)))]) [0, 1] rfl
  have hD9 := hD.sub (ws' := [(st, .inr (0, [.ref b2, .int 0, .int 0, .int 0])), (b2, .inl (cB, n, .inl (gcF x n)))]) [0, 1] (by decide) rfl
  have hK9 := hK.sub (tys' := [(cB, .byte)]) [0] rfl
  refine W.widen (k := 0) (n := 0) (Nat.le_of_ble_eq_true rfl) (Nat.le_of_ble_eq_true rfl) ?_
  exact W.iret (v := nI i) hx hb hr (fun t ht hW => ⟨⟨nI i, (), rfl, rfl, po_mk ht hW hP9 hK9 hD9⟩, hS.F ht⟩) hS.2.2 dJ0_indexOf_7cf53_36

set_option maxHeartbeats 4000000 in
set_option maxRecDepth 100000 in
theorem c_J0_indexOf_0f7a4 (l : Launch) (dC : Nat → ClassId) (dI : Nat → Nat → Nat) (jk : Nat) (jv : Nat) (jo : Nat) (jt : Nat) (cB : ClassId) (st : Nat) (b2 : Nat) (x : Nat) (n : Nat) (i : Nat) (cq : Nat) (sz : Nat) (hd : Dg x n) (hi : i < n) (hq : cq < 128) (hf : gcF x n i = nI cq ∧ ∀ j, j < i → ¬ gcF x n j = nI cq) : Met l yJ0_indexOf_0f7a4 wsJ0_indexOf_0f7a4 ({ frames := 5, cells := 0, slots := 0, locals := 140 }) (va_Pc [.ref st, .int (nI cq)] (fun U => pr_ dC dI [(st, .inr (0, [.ref b2, .int 0, .int 0, .int 0])), (b2, .inl (cB, n, .inl (gcF x n)))] [(cB, .byte)] sz U ∧ jd_ (va_A [(st, .inr (0, [.ref b2, .int 0, .int 0, .int 0])), (b2, .inl (cB, n, .inl (gcF x n)))] sz) jk jv jo jt U)) (va_Qi (fun (r : Int32) (_ : Unit) => r = nI i) (fun (_ : Unit) t => po_ dC dI [(st, .inr (0, [.ref b2, .int 0, .int 0, .int 0])), (b2, .inl (cB, n, .inl (gcF x n)))] [(cB, .byte)] (va_A [(st, .inr (0, [.ref b2, .int 0, .int 0, .int 0])), (b2, .inl (cB, n, .inl (gcF x n)))] sz) t) (va_A [(st, .inr (0, [.ref b2, .int 0, .int 0, .int 0])), (b2, .inl (cB, n, .inl (gcF x n)))] sz)) 0 0 (va_A [(st, .inr (0, [.ref b2, .int 0, .int 0, .int 0])), (b2, .inl (cB, n, .inl (gcF x n)))] sz) := by
  refine Met.ofW (cc := cJ0_indexOf_0f7a4) (maxL := 2) (ret := (some .int)) (by decide) rfl ?_
  intro p e s m args below meth c s₁ B hml hv
  obtain ⟨rfl, ⟨hsz, hP, hK, hD0⟩, hXs⟩ := hv
  have hx := B.exec
  have hb := B.bytes
  have hr := B.returns
  have hts := atoms_spec (ws := wsJ0_indexOf_0f7a4) B.pre
  have hown : s.vm.findClass RJ0 = some m.cls := findClass_of_methodNamed B.named
  have hlocks := B.notSynchronized
  subst hsz
  have hD := hD0.self (sz := s.heap.size)
  have hn1 : 1 ≤ n := hd.1
  have hn6 : n ≤ 6 := hd.2.1
  have hx6 : x < 1000000 := dg_x hd
  have hx1 : 1 ≤ x := dg_1 hd
  have hi9 : i < n := hi
  generalize hAe : va_A [(st, .inr (0, [.ref b2, .int 0, .int 0, .int 0])), (b2, .inl (cB, n, .inl (gcF x n)))] s.heap.size = A at hD hXs ⊢
  have hA : ∀ q : Nat, s.heap.size ≤ q → A q := fun q h => by rw [← hAe]; exact Or.inr h
  have hS : va_S A s.heap s.heap [] := va_S.rf
  have hP : va_P (dC, dI) vwCl [(st, .inr (0, [.ref b2, .int 0, .int 0, .int 0])), (b2, .inl (cB, n, .inl (gcF x n)))] s.heap := hP
  have hK : va_K (dC, dI) vwCl [(cB, .byte)] s := hK
  have hl := lv_entry ([.ref st, .int (nI cq)]) (n := 2) (Nat.le_of_ble_eq_true rfl)
  rw [lg_entry_eq]
  generalize (lg_sl ([.ref st, .int (nI cq)]) ++ List.replicate (2 - (lg_sl ([.ref st, .int (nI cq)])).length) Slot.unset).toArray = ls at hl ⊢
  have hl : lv_has ls 2 [(0, .ref st), (1, .int (nI cq))] := hl
  refine lv_aload_n hx hb dJ0_indexOf_0f7a4_0 rfl (lv_at hl 0 rfl) ?_
  refine lv_iload_n hx hb dJ0_indexOf_0f7a4_1 rfl (lv_at hl 1 rfl) ?_
  refine lv_iconst (v := 0) hx hb dJ0_indexOf_0f7a4_2 (by decide) ?_
  have hPc := hP.sub (ws' := [(st, .inr (0, [.ref b2, .int 0, .int 0, .int 0])), (b2, .inl (cB, n, .inl (gcF x n)))]) [0, 1] rfl
  have hDc := hD.sub (ws' := [(st, .inr (0, [.ref b2, .int 0, .int 0, .int 0])), (b2, .inl (cB, n, .inl (gcF x n)))]) [0, 1] (by decide) rfl
  have hKc := hK.sub (tys' := [(cB, .byte)]) [0] rfl
  have hFc := va_free (wc := [(st, .inr (0, [.ref b2, .int 0, .int 0, .int 0])), (b2, .inl (cB, n, .inl (gcF x n)))]) hD hS hA [0, 1] rfl
  refine va_calli (va_runV (As := [.int (nI cq), .int 0]) (rest := []) ⟨hx, hb, hml, hown, hts⟩ (c_J0_indexOf_7cf53 l dC dI jk jv jo jt cB st b2 x n i cq _ hd hi hq hf) (cwV 2 hts gJ0_indexOf_0f7a4_J0_indexOf_7cf53 rfl rfl rfl (by decide +kernel) ⟨Nat.le_of_ble_eq_true rfl, Nat.le_of_ble_eq_true rfl⟩) ⟨pe_blind jd_bl, va_recv hKc hPc (ci := 0) (q0 := 0) rfl rfl, fun U hU hW => ⟨rfl, pr_mk hU hW hPc hKc hDc, jd_mk hU hW hS hFc hXs⟩⟩ rfl rfl hl.1 rfl (lv_room (Nat.le_of_ble_eq_true rfl)) dJ0_indexOf_0f7a4_3 ⟨Nat.le_of_ble_eq_true rfl, Nat.le_of_ble_eq_true rfl⟩) hS (fun q _ h => hFc q h) hFc (fun r_2 u_1 t H1 locs ht hvm hw hB hz1 hk1 hS => ?_)
  obtain ⟨hP1, hK1, hD1⟩ := hB
  rw [ht] at hP1
  obtain ⟨hP, hD⟩ := va_join (wr := []) (w1 := [(st, .inr (0, [.ref b2, .int 0, .int 0, .int 0])), (b2, .inl (cB, n, .inl (gcF x n)))]) hP hD [0, 1] [] rfl rfl (by decide) (by decide) hk1 hFc hP1 hD1
  generalize H1 = H at hP hS ⊢
  have hP : va_P (dC, dI) vwCl [(st, .inr (0, [.ref b2, .int 0, .int 0, .int 0])), (b2, .inl (cB, n, .inl (gcF x n)))] H := hP
  have hD : va_D A [(st, .inr (0, [.ref b2, .int 0, .int 0, .int 0])), (b2, .inl (cB, n, .inl (gcF x n)))] := hD
  refine W.widen (k := 0) (n := 0) (Nat.le_refl _) (Nat.le_refl _) ?_
  have hw : nI i = r_2 := Eq.symm hw
  subst hw
  have hP9 := hP.sub (ws' := [(st, .inr (0, [.ref b2, .int 0, .int 0, .int 0])), (b2, .inl (cB, n, .inl (gcF x n)))]) [0, 1] rfl
  have hD9 := hD.sub (ws' := [(st, .inr (0, [.ref b2, .int 0, .int 0, .int 0])), (b2, .inl (cB, n, .inl (gcF x n)))]) [0, 1] (by decide) rfl
  have hK9 := hK.sub (tys' := [(cB, .byte)]) [0] rfl
  refine W.widen (k := 0) (n := 0) (Nat.le_of_ble_eq_true rfl) (Nat.le_of_ble_eq_true rfl) ?_
  exact W.iret (v := nI i) hx hb hr (fun t ht hW => ⟨⟨nI i, (), rfl, rfl, po_mk ht hW hP9 hK9 hD9⟩, hS.F ht⟩) hS.2.2 dJ0_indexOf_0f7a4_6
