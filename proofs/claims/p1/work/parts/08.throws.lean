/-! p1: what a throw needs beside its cells; small facts of numbers. -/
def dn_ (U : State) : Prop := va_Nw (.declares ⟨"java/lang/RuntimeException", "<init>", "(Ljava/lang/String;)V"⟩) U ∧ va_Nw (.declares ⟨"java/lang/Exception", "<init>", "(Ljava/lang/String;)V"⟩) U ∧ va_Nw (.declares ⟨"java/lang/Throwable", "<init>", "(Ljava/lang/String;)V"⟩) U
theorem dn_bl (U : State) (g : JFrame) (mk : MethodId) (a : Array Value) (h : dn_ U) : dn_ (U.calling g mk a) := ⟨va_Nw.same (u := U) (U := U.calling g mk a) rfl rfl h.1, va_Nw.same (u := U) (U := U.calling g mk a) rfl rfl h.2.1, va_Nw.same (u := U) (U := U.calling g mk a) rfl rfl h.2.2⟩
theorem dn_mk {s U : State} (hW : s.WarmedH U.vm) (h : dn_ s) : dn_ U := ⟨va_Nw.warmD hW h.1, va_Nw.warmD hW h.2.1, va_Nw.warmD hW h.2.2⟩
def xs_ (A : Nat → Prop) (is : Nat) (tx : String) (sa : Nat) (E : String) (U : State) : Prop := vx_Zq Bundle.tN "UNASSIGNED_STACK" Bundle.steD A U U.heap ∧ vx_Zq Bundle.tN "SUPPRESSED_SENTINEL" Bundle.listD A U U.heap ∧ vk_R RX5 is tx sa U ∧ va_Nw (.castable E E) U ∧ dn_ U
theorem px_blind {dC : Nat → ClassId} {dI : Nat → Nat → Nat} {ws : va_W} {tys : List (ClassId × FieldType)} {sz : Nat} {av : List Value} {A : Nat → Prop} {is sa : Nat} {tx E : String} : FrameBlind (va_Pc av (fun U => pr_ dC dI ws tys sz U ∧ xs_ A is tx sa E U)) := fun a U g mk q => by
  obtain ⟨q0, ⟨q1, qP, qK, qD⟩, x1, x2, x3, x4, x5⟩ := q
  exact ⟨q0, ⟨q1, qP, va_K.moved (u := U) (U := U.calling g mk a) (Vm.Alike.refl U.vm) qK, qD⟩, vx_Zq.moved (u := U) (U := U.calling g mk a) (Vm.Alike.refl U.vm) x1, vx_Zq.moved (u := U) (U := U.calling g mk a) (Vm.Alike.refl U.vm) x2, vk_R.same (u := U) (U := U.calling g mk a) rfl x3, va_Nw.same (u := U) (U := U.calling g mk a) rfl rfl x4, dn_bl U g mk a x5⟩
theorem xs_mk {A A1 : Nat → Prop} {is sa : Nat} {tx E : String} {s U : State} {H : Heap} {locs : List Loc} (hU : U.heap = H) (hW : s.WarmedH U.vm) (hS : va_S A s.heap H locs) (hF : ∀ q, A1 q → A q) (h : xs_ A is tx sa E s) : xs_ A1 is tx sa E U := by
  obtain ⟨x1, x2, x3, x4, x5⟩ := h
  exact ⟨by rw [hU]; exact vx_Zq.moved hW.alike ((x1.kept hS.2.1).narrow hF), by rw [hU]; exact vx_Zq.moved hW.alike ((x2.kept hS.2.1).narrow hF), vk_R.warm hW x3, va_Nw.warmC hW x4, dn_mk hW x5⟩
theorem xB_298 : ∀ w ∈ (vx_atS RX5 298 "java/lang/IndexOutOfBoundsException" ["java/lang/RuntimeException", "java/lang/Exception"]).filter (fun w => !goodWord w), w ∈ [Cond.declares ⟨"java/lang/RuntimeException", "<init>", "(Ljava/lang/String;)V"⟩, Cond.declares ⟨"java/lang/Exception", "<init>", "(Ljava/lang/String;)V"⟩, Cond.declares ⟨"java/lang/Throwable", "<init>", "(Ljava/lang/String;)V"⟩, Cond.castable "java/lang/IndexOutOfBoundsException" "java/lang/IndexOutOfBoundsException"] := by decide +kernel
theorem xB_52 : ∀ w ∈ (vx_atS RX5 52 "java/lang/IllegalArgumentException" ["java/lang/RuntimeException", "java/lang/Exception"]).filter (fun w => !goodWord w), w ∈ [Cond.declares ⟨"java/lang/RuntimeException", "<init>", "(Ljava/lang/String;)V"⟩, Cond.declares ⟨"java/lang/Exception", "<init>", "(Ljava/lang/String;)V"⟩, Cond.declares ⟨"java/lang/Throwable", "<init>", "(Ljava/lang/String;)V"⟩, Cond.castable "java/lang/IllegalArgumentException" "java/lang/IllegalArgumentException"] := by decide +kernel
theorem xG0_298 : ∀ w ∈ vx_atS RX5 298 "java/lang/IndexOutOfBoundsException" ["java/lang/RuntimeException", "java/lang/Exception"], vx_ot w = true := by decide +kernel
theorem xG0_52 : ∀ w ∈ vx_atS RX5 52 "java/lang/IllegalArgumentException" ["java/lang/RuntimeException", "java/lang/Exception"], vx_ot w = true := by decide +kernel
theorem xG_298 : ∀ w ∈ Cond.classLink RX5 294 "java/lang/IndexOutOfBoundsException" :: Cond.initialized "java/lang/IndexOutOfBoundsException" :: vx_atS RX5 298 "java/lang/IndexOutOfBoundsException" ["java/lang/RuntimeException", "java/lang/Exception"], vx_ot w = true := List.forall_mem_cons.mpr ⟨rfl, List.forall_mem_cons.mpr ⟨rfl, xG0_298⟩⟩
theorem xG_52 : ∀ w ∈ Cond.classLink RX5 48 "java/lang/IllegalArgumentException" :: Cond.initialized "java/lang/IllegalArgumentException" :: vx_atS RX5 52 "java/lang/IllegalArgumentException" ["java/lang/RuntimeException", "java/lang/Exception"], vx_ot w = true := List.forall_mem_cons.mpr ⟨rfl, List.forall_mem_cons.mpr ⟨rfl, xG0_52⟩⟩
theorem toI0 : (0 : Int32).toInt = 0 := by decide
theorem toI1 : (1 : Int32).toInt = 1 := by decide
theorem toI4 : (4 : Int32).toInt = 4 := by decide
theorem toI9 : (9 : Int32).toInt = 9 := by decide
theorem ho0 {h : Int32} (h1 : ¬ h < 1) : 0 ≤ h := by
  rw [Int32.lt_iff_toInt_lt, toI1] at h1
  rw [Int32.le_iff_toInt_le, toI0]; omega
theorem ho1 {h : Int32} (h1 : ¬ h < 1) : ¬ h ≤ 0 := by
  rw [Int32.lt_iff_toInt_lt, toI1] at h1
  rw [Int32.le_iff_toInt_le, toI0]; omega
theorem in4 {q : Int32} (h1 : ¬ q < 0) (h2 : ¬ 4 ≤ q) : vp_in q 4 := by
  rw [Int32.lt_iff_toInt_lt, toI0] at h1
  rw [Int32.le_iff_toInt_le, toI4] at h2
  intro h
  rcases h with h | h
  · rw [Int32.lt_iff_toInt_lt, toI0] at h; omega
  · have h9 : q.toNatClampNeg = q.toInt.toNat := rfl
    omega
theorem i_lit {q : Int32} {n : Nat} (hn : n < 2147483648) (h : q.toInt = (n : Int)) : q = nI n := Int32.toInt_inj.mp (h.trans (nI_toInt hn).symm)
theorem up4 {q : Int32} (h1 : ¬ q < 0) (h2 : q ≤ 4) : q = 0 ∨ q = 1 ∨ q = 2 ∨ q = 3 ∨ q = 4 := by
  rw [Int32.lt_iff_toInt_lt, toI0] at h1
  rw [Int32.le_iff_toInt_le, toI4] at h2
  have h : q.toInt = 0 ∨ q.toInt = 1 ∨ q.toInt = 2 ∨ q.toInt = 3 ∨ q.toInt = 4 := by omega
  rcases h with h | h | h | h | h
  · exact Or.inl (i_lit (n := 0) (by decide) h)
  · exact Or.inr (Or.inl (i_lit (n := 1) (by decide) h))
  · exact Or.inr (Or.inr (Or.inl (i_lit (n := 2) (by decide) h)))
  · exact Or.inr (Or.inr (Or.inr (Or.inl (i_lit (n := 3) (by decide) h))))
  · exact Or.inr (Or.inr (Or.inr (Or.inr (i_lit (n := 4) (by decide) h))))
theorem up9 {q : Int32} (h1 : ¬ q < 0) (h2 : q ≤ 9) : q = 0 ∨ q = 1 ∨ q = 2 ∨ q = 3 ∨ q = 4 ∨ q = 5 ∨ q = 6 ∨ q = 7 ∨ q = 8 ∨ q = 9 := by
  rw [Int32.lt_iff_toInt_lt, toI0] at h1
  rw [Int32.le_iff_toInt_le, toI9] at h2
  have h : q.toInt = 0 ∨ q.toInt = 1 ∨ q.toInt = 2 ∨ q.toInt = 3 ∨ q.toInt = 4 ∨ q.toInt = 5 ∨ q.toInt = 6 ∨ q.toInt = 7 ∨ q.toInt = 8 ∨ q.toInt = 9 := by omega
  rcases h with h | h | h | h | h | h | h | h | h | h
  · exact Or.inl (i_lit (n := 0) (by decide) h)
  · exact Or.inr (Or.inl (i_lit (n := 1) (by decide) h))
  · exact Or.inr (Or.inr (Or.inl (i_lit (n := 2) (by decide) h)))
  · exact Or.inr (Or.inr (Or.inr (Or.inl (i_lit (n := 3) (by decide) h))))
  · exact Or.inr (Or.inr (Or.inr (Or.inr (Or.inl (i_lit (n := 4) (by decide) h)))))
  · exact Or.inr (Or.inr (Or.inr (Or.inr (Or.inr (Or.inl (i_lit (n := 5) (by decide) h))))))
  · exact Or.inr (Or.inr (Or.inr (Or.inr (Or.inr (Or.inr (Or.inl (i_lit (n := 6) (by decide) h)))))))
  · exact Or.inr (Or.inr (Or.inr (Or.inr (Or.inr (Or.inr (Or.inr (Or.inl (i_lit (n := 7) (by decide) h))))))))
  · exact Or.inr (Or.inr (Or.inr (Or.inr (Or.inr (Or.inr (Or.inr (Or.inr (Or.inl (i_lit (n := 8) (by decide) h)))))))))
  · exact Or.inr (Or.inr (Or.inr (Or.inr (Or.inr (Or.inr (Or.inr (Or.inr (Or.inr (i_lit (n := 9) (by decide) h)))))))))
/-- the checksum's step, n times, with nothing to add -/
def mx : Nat → Int64 → Int64
  | 0, d => d
  | n + 1, d => mx n (d * 31 + 0)
