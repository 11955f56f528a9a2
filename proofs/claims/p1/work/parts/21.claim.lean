/-! THE CLAIM OUT OF ONE WALK OF THE LAW'S BODY. Your part is whole_start (and what it stands on); all else here is the same for every law, but numbers. -/
def R_law : String := "BallotLoomLaw"
def lw_P (b : Addr) (xs : List Int32) (args : Array Value) (s : State) : Prop := args = #[.ref b] ∧ s.IntsAt b xs ∧ xs.length ≤ 5 ∧ (Jvm.Cond.and given_1 narrow_1).before args s = true
/-- what a walk over the start with the record d0 says of its end, said of the start itself -/
theorem lw_closed {s t : State} {o : Outcome} {d0 : Drawn} {L : List Loc} {k n : Nat} (hd0 : s.drawn.sameBut d0 lw_cs) (hv : ∃ v, o = .returned v) (hW : (s.setDrawn d0).WarmedH t.vm) (hs : (s.setDrawn d0).sameButNew ({ t with vm := s.vm } : State) L k n) : State.butDraws s t lw_cs (fun t1 => Framed s o t1 L k n) := by
  have h2 : t.drawn = d0 := congrArg State.drawn hs.1
  refine ⟨⟨hv, hW, State.sameButNew.setDrawn hs s.drawn⟩, ?_, by decide⟩
  rw [h2]
  exact hd0
def lw_Q (_ : Array Value) (s : State) (o : Outcome) (t : State) : Prop := o = .returned (some (.int 1)) ∧ State.butDraws s t lw_cs (fun t1 => Framed s o t1 [] 654649 7138290)
def lw_Z (below : List Frame) (a : Array Value) (s : State) : State → Prop := fun t => ∃ o, t.status = .running ∧ Ended t below o ∧ lw_Q a s o t
/-- the law's own end, with 1 on the stack, nothing written that was there before, its room as the claim has it; d0: the record of draws at this point (at the entry s.drawn: begin with 'refine W.base ?_' and 'have hd0 := Drawn.sameBut.refl s.drawn lw_cs') -/
theorem lw_ret {p : Program} {l : Launch} {e : Env} {s : State} {m : MethodId} {below : List Frame} {meth : Method} {c : Code} {b : Nat} {d0 : Drawn} (hd0 : s.drawn.sameBut d0 lw_cs) (hx : p.tables.exec = Jvm.exec) (hb : c.code = code) (hr : meth.sig.returnType = ret) (hlocks : meth.locks = false) {pc : Nat} {H : Heap} {ls : Array Slot} (hdg : decode code pc = .ok (.ireturn, 1)) : W p l e room_1 (s.setDrawn d0) m #[Value.ref b] below meth c H [] 654649 7138290 (lw_Z below #[Value.ref b] s) (F0 m pc ls [.int 1]) := by
  intro T hT X
  obtain ⟨fs, hret, hrun, hended, hW, hframe⟩ := X.leave (v := some (.int 1)) (hlocks := hlocks) (fun h => by rw [hr] at h; cases h)
  have hmeth' : T.vm.method? m = some meth := X.method'
  refine ⟨T.setFrames fs, ?_, .returned (some (.int 1)), hrun, hended, rfl, lw_closed hd0 ⟨_, rfl⟩ hW hframe⟩
  jvm_step X.here [X.here.top, hx, hb, hdg, hmeth', hr, ret, narrow_b1]
  (try refine ⟨rfl, ?_⟩); (try refine ⟨rfl, ?_⟩)
  first | (intro acts; rw [hret _ acts rfl rfl rfl]) | rw [hret _ _ rfl rfl rfl]
  exact Steps.refl _
/-- what holds at the law's entry: the machine, the code, the tables' words (any of lw_tbl by 'hts w (by decide +kernel)'), the script of L ints xs at the cell b, what the Statement gives of the start (any of its parts by flat_of_before) -/
def lw_At (p : Program) (s : State) (m : MethodId) (meth : Method) (c : Code) (b L : Nat) (xs : Nat → Int32) : Prop :=
  p.tables.exec = Jvm.exec ∧ c.code = code ∧ meth.sig.returnType = ret ∧ c.maxLocals = 9 ∧ s.vm.findClass R_law = some m.cls ∧ (∀ w ∈ lw_tbl, w.before #[Value.ref b] s = true) ∧ va_X b L xs s s.heap ∧ b < s.heap.size ∧ meth.locks = false ∧ (Jvm.Cond.and given_1 narrow_1).before #[Value.ref b] s = true
/-! p1: the law: what its start gives, the guards' words in two forms, its end. -/
def lx_ (A : Nat → Prop) (dz tc : Nat) (ad : Nat → Nat) (s : State) : Prop := ao_ s ∧ ca_ A dz tc ad s ∧ qo_ s ∧ vx_Zq Bundle.tN "UNASSIGNED_STACK" Bundle.steD A s s.heap ∧ vx_Zq Bundle.tN "SUPPRESSED_SENTINEL" Bundle.listD A s s.heap ∧ va_Nw (.castable "java/lang/IndexOutOfBoundsException" "java/lang/IndexOutOfBoundsException") s ∧ va_Nw (.castable "java/lang/IllegalArgumentException" "java/lang/IllegalArgumentException") s ∧ va_Nc "java/lang/IllegalArgumentException" "java/lang/IndexOutOfBoundsException" s ∧ dn_ s ∧ (∃ tx sa, vk_R RX5 50 tx sa s) ∧ (∃ tx sa, vk_R RX5 84 tx sa s) ∧ (∃ tx sa, vk_R RX5 128 tx sa s) ∧ (∃ tx sa, vk_R RX5 296 tx sa s) ∧ (∃ tx sa, vk_R RX5 299 tx sa s) ∧ (∃ tx sa, vk_R RX5 301 tx sa s) ∧ (∃ tx sa, vk_R RX5 308 tx sa s) ∧ (∃ tx sa, vk_R RX5 312 tx sa s) ∧ (∃ tx sa, vk_R RX5 314 tx sa s)
section LX
variable {A : Nat → Prop} {dz tc : Nat} {ad : Nat → Nat} {s : State}
theorem lx_a (h : lx_ A dz tc ad s) : ao_ s := h.1
theorem lx_c (h : lx_ A dz tc ad s) : ca_ A dz tc ad s := h.2.1
theorem lx_m (h : lx_ A dz tc ad s) : mo_ s := (lx_c h).1
theorem lx_d (h : lx_ A dz tc ad s) : dg_ A dz s := ⟨lx_m h, ca_em (lx_c h), h.2.2.1⟩
theorem lx_n (h : lx_ A dz tc ad s) : va_Nc "java/lang/IllegalArgumentException" "java/lang/IndexOutOfBoundsException" s := h.2.2.2.2.2.2.2.1
theorem lx_xo {k sa : Nat} {tx : String} (h : lx_ A dz tc ad s) (hv : vk_R RX5 k tx sa s) : xs_ A k tx sa "java/lang/IndexOutOfBoundsException" s := ⟨h.2.2.2.1, h.2.2.2.2.1, hv, h.2.2.2.2.2.1, h.2.2.2.2.2.2.2.2.1⟩
theorem lx_xa {k sa : Nat} {tx : String} (h : lx_ A dz tc ad s) (hv : vk_R RX5 k tx sa s) : xs_ A k tx sa "java/lang/IllegalArgumentException" s := ⟨h.2.2.2.1, h.2.2.2.2.1, hv, h.2.2.2.2.2.2.1, h.2.2.2.2.2.2.2.2.1⟩
theorem lx_s50 (h : lx_ A dz tc ad s) : ∃ tx sa, vk_R RX5 50 tx sa s := h.2.2.2.2.2.2.2.2.2.1
theorem lx_s84 (h : lx_ A dz tc ad s) : ∃ tx sa, vk_R RX5 84 tx sa s := h.2.2.2.2.2.2.2.2.2.2.1
theorem lx_s128 (h : lx_ A dz tc ad s) : ∃ tx sa, vk_R RX5 128 tx sa s := h.2.2.2.2.2.2.2.2.2.2.2.1
theorem lx_s296 (h : lx_ A dz tc ad s) : ∃ tx sa, vk_R RX5 296 tx sa s := h.2.2.2.2.2.2.2.2.2.2.2.2.1
theorem lx_s299 (h : lx_ A dz tc ad s) : ∃ tx sa, vk_R RX5 299 tx sa s := h.2.2.2.2.2.2.2.2.2.2.2.2.2.1
theorem lx_s301 (h : lx_ A dz tc ad s) : ∃ tx sa, vk_R RX5 301 tx sa s := h.2.2.2.2.2.2.2.2.2.2.2.2.2.2.1
theorem lx_s308 (h : lx_ A dz tc ad s) : ∃ tx sa, vk_R RX5 308 tx sa s := h.2.2.2.2.2.2.2.2.2.2.2.2.2.2.2.1
theorem lx_s312 (h : lx_ A dz tc ad s) : ∃ tx sa, vk_R RX5 312 tx sa s := h.2.2.2.2.2.2.2.2.2.2.2.2.2.2.2.2.1
theorem lx_s314 (h : lx_ A dz tc ad s) : ∃ tx sa, vk_R RX5 314 tx sa s := h.2.2.2.2.2.2.2.2.2.2.2.2.2.2.2.2.2
end LX
theorem n4_3 {a : Int32} : 4 ≤ a ↔ 3 < a := by
  rw [Int32.le_iff_toInt_le, Int32.lt_iff_toInt_lt, toI4, toI3]; omega
theorem gP_b {a : Int32} (h : a < 0 ∨ 4 ≤ a) : a < 0 ∨ 3 < a := h.imp id n4_3.mp
theorem gP_g {a : Int32} (h : ¬ 4 ≤ a) : ¬ 3 < a := fun h9 => h (n4_3.mpr h9)
theorem gN_g {a n : Int32} (h : a ≤ n) : ¬ n < a := by
  rw [Int32.le_iff_toInt_le] at h
  rw [Int32.lt_iff_toInt_lt]; omega
theorem gN_b {a n : Int32} {q : Prop} (h : q ∨ ¬ a ≤ n) : q ∨ n < a := h.imp id (fun h => by
  rw [Int32.le_iff_toInt_le] at h
  rw [Int32.lt_iff_toInt_lt]; omega)
theorem up3 {q : Int32} (h1 : ¬ q < 0) (h2 : ¬ 3 < q) : q = 0 ∨ q = 1 ∨ q = 2 ∨ q = 3 := by
  rw [Int32.lt_iff_toInt_lt, toI0] at h1
  rw [Int32.lt_iff_toInt_lt, toI3] at h2
  have h : q.toInt = 0 ∨ q.toInt = 1 ∨ q.toInt = 2 ∨ q.toInt = 3 := by omega
  rcases h with h | h | h | h
  · exact Or.inl (i_lit (n := 0) (by decide) h)
  · exact Or.inr (Or.inl (i_lit (n := 1) (by decide) h))
  · exact Or.inr (Or.inr (Or.inl (i_lit (n := 2) (by decide) h)))
  · exact Or.inr (Or.inr (Or.inr (i_lit (n := 3) (by decide) h)))
theorem toI5 : (5 : Int32).toInt = 5 := by decide
theorem up15 {q : Int32} (h1 : ¬ q < 1) (h2 : ¬ 5 < q) : q = 1 ∨ q = 2 ∨ q = 3 ∨ q = 4 ∨ q = 5 := by
  rw [Int32.lt_iff_toInt_lt, toI1] at h1
  rw [Int32.lt_iff_toInt_lt, toI5] at h2
  have h : q.toInt = 1 ∨ q.toInt = 2 ∨ q.toInt = 3 ∨ q.toInt = 4 ∨ q.toInt = 5 := by omega
  rcases h with h | h | h | h | h
  · exact Or.inl (i_lit (n := 1) (by decide) h)
  · exact Or.inr (Or.inl (i_lit (n := 2) (by decide) h))
  · exact Or.inr (Or.inr (Or.inl (i_lit (n := 3) (by decide) h)))
  · exact Or.inr (Or.inr (Or.inr (Or.inl (i_lit (n := 4) (by decide) h))))
  · exact Or.inr (Or.inr (Or.inr (Or.inr (i_lit (n := 5) (by decide) h))))
/-- the end of a turn with a script of five: the loop ends, the answer is 1 -/
theorem law_tail {p : Program} {e : Env} {s : State} {m : MethodId} {below : List Frame} {meth : Method} {c : Code} (l : Launch) {b : Nat} {xs : Nat → Int32} (C0 : lw_At p s m meth c b 5 xs) {A : Nat → Prop} (hAe : (fun q : Nat => s.heap.size ≤ q) = A) {H : Heap} {locs : List Loc} {ls : Array Slot} {cells slots : Nat} (hS : va_S A s.heap H locs) (hl : lv_has ls 9 [(5, .int 0), (0, .ref b)]) (hc : cells ≤ 654649) (hs : slots ≤ 7138290) : W p l e room_1 s m #[Value.ref b] below meth c H locs cells slots (lw_Z below #[Value.ref b] s) (F0 m 2007 ls []) := by
  subst hAe
  obtain ⟨hx, hb, hr, hml, hown, hts0, hX, hbl, hlocks, hgv⟩ := id C0
  have hbA : ¬ (fun q : Nat => s.heap.size ≤ q) b := Nat.not_le.mpr hbl
  refine lv_iinc (k := 0) (v := 5) (lv' := [(5, .int 5), (0, .ref b)]) hx hb dL_law_2007 hl rfl (by decide) (by decide) rfl (fun ls hl => ?_)
  refine lv_goto (tgt := 28) hx hb dL_law_2010 (by decide) ?_
  refine lv_iload hx hb dL_law_28 (lv_at hl 0 rfl) ?_
  refine lv_aload_n hx hb dL_law_30 rfl (lv_at hl 1 rfl) ?_
  refine va_slen hx hb hX hbl hbA hS dL_law_31 ?_
  refine lv_iconst (v := 5) hx hb dL_law_32 (by decide) ?_
  refine lv_isub hx hb dL_law_33 ?_
  refine lv_icmp_gt (tgt := 2013) hx hb dL_law_34 (by decide) (fun _ => ?_) (fun h9 => absurd (by decide) h9)
  refine lv_iconst (v := 1) hx hb dL_law_2013 (by decide) ?_
  refine W.widen (k := 654649) (n := 7138290) hc hs ?_
  refine va_forget (fun q hq => hS.2.2 q hq) ?_
  exact lw_ret (d0 := s.drawn) (Drawn.sameBut.refl s.drawn lw_cs) hx hb hr hlocks dL_law_2014
