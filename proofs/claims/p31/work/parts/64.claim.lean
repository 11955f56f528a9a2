/-! THE CLAIM OUT OF ONE WALK OF THE LAW'S BODY. Your part is whole_start (and what it stands on); all else here is the same for every law, but numbers. -/
def R_law : String := "BallotLoomLaw"
def lw_P (b : Addr) (xs : List Int32) (args : Array Value) (s : State) : Prop := args = #[.ref b] ∧ s.IntsAt b xs ∧ xs.length ≤ 260 ∧ (Jvm.Cond.and given_1 narrow_1).before args s = true
/-- what a walk over the start with the record d0 says of its end, said of the start itself -/
theorem lw_closed {s t : State} {o : Outcome} {d0 : Drawn} {L : List Loc} {k n : Nat} (hd0 : s.drawn.sameBut d0 lw_cs) (hv : ∃ v, o = .returned v) (hW : (s.setDrawn d0).WarmedH t.vm) (hs : (s.setDrawn d0).sameButNew ({ t with vm := s.vm } : State) L k n) : State.butDraws s t lw_cs (fun t1 => Framed s o t1 L k n) := by
  have h2 : t.drawn = d0 := congrArg State.drawn hs.1
  refine ⟨⟨hv, hW, State.sameButNew.setDrawn hs s.drawn⟩, ?_, by decide⟩
  rw [h2]
  exact hd0
def lw_Q (_ : Array Value) (s : State) (o : Outcome) (t : State) : Prop := o = .returned (some (.int 1)) ∧ State.butDraws s t lw_cs (fun t1 => Framed s o t1 [] 654152 7139168)
def lw_Z (below : List Frame) (a : Array Value) (s : State) : State → Prop := fun t => ∃ o, t.status = .running ∧ Ended t below o ∧ lw_Q a s o t
/-- the law's own end, with 1 on the stack, nothing written that was there before, its room as the claim has it; d0: the record of draws at this point (at the entry s.drawn: begin with 'refine W.base ?_' and 'have hd0 := Drawn.sameBut.refl s.drawn lw_cs') -/
theorem lw_ret {p : Program} {l : Launch} {e : Env} {s : State} {m : MethodId} {below : List Frame} {meth : Method} {c : Code} {b : Nat} {d0 : Drawn} (hd0 : s.drawn.sameBut d0 lw_cs) (hx : p.tables.exec = Jvm.exec) (hb : c.code = code) (hr : meth.sig.returnType = ret) (hlocks : meth.locks = false) {pc : Nat} {H : Heap} {ls : Array Slot} (hdg : decode code pc = .ok (.ireturn, 1)) : W p l e room_1 (s.setDrawn d0) m #[Value.ref b] below meth c H [] 654152 7139168 (lw_Z below #[Value.ref b] s) (F0 m pc ls [.int 1]) := by
  intro T hT X
  obtain ⟨fs, hret, hrun, hended, hW, hframe⟩ := X.leave (v := some (.int 1)) (hlocks := hlocks) (fun h => by rw [hr] at h; cases h)
  have hmeth' : T.vm.method? m = some meth := X.method'
  refine ⟨T.setFrames fs, ?_, .returned (some (.int 1)), hrun, hended, rfl, lw_closed hd0 ⟨_, rfl⟩ hW hframe⟩
  jvm_step X.here [X.here.top, hx, hb, hdg, hmeth', hr, ret, narrow_b1]
  (try refine ⟨rfl, ?_⟩); (try refine ⟨rfl, ?_⟩)
  first | (intro acts; rw [hret _ acts rfl rfl rfl]) | rw [hret _ _ rfl rfl rfl]
  exact Steps.refl _
/-- what holds at the law's entry: the machine, the code, the tables' words (any of lw_tbl by 'hts w (by decide +kernel)'), the script of L ints xs at the cell b, what the Statement gives of the start (any of its parts by flat_of_before) -/
def lw_At (p : Program) (s : State) (m : MethodId) (meth : Method) (c : Code) (b L : Nat) (xs : Nat → Int32) : Prop :=
  p.tables.exec = Jvm.exec ∧ c.code = code ∧ meth.sig.returnType = ret ∧ c.maxLocals = 20 ∧ s.vm.findClass R_law = some m.cls ∧ (∀ w ∈ lw_tbl, w.before #[Value.ref b] s = true) ∧ va_X b L xs s s.heap ∧ b < s.heap.size ∧ meth.locks = false ∧ (Jvm.Cond.and given_1 narrow_1).before #[Value.ref b] s = true

/-! p31: what the law's start gives. -/
theorem sel_sub {C : String} {x0 y0 y : MethodName} {s : State} {args : Array Value} (h0 : (Cond.selects C x0 y0).before args s = true) (hc : y0.cls = y.cls) (hy : y.cls ≠ "java/lang/invoke/MethodHandle" ∧ y.cls ≠ "java/lang/invoke/VarHandle") (hpriv : (Cond.privateMethod y).before args s = true) (hinst : (Cond.instanceMethod y).before args s = true) : (Cond.selects C y y).before args s = true := by
  obtain ⟨c, r, m0, hfc, -, hn0, -, k, hk, hki⟩ := Cond.selects_spec h0
  obtain ⟨mk, methM, hnamed, hmethM, -, -⟩ := Cond.instanceMethod_spec hinst
  have hfound : s.methodFound? y.cls y.name y.desc = some mk := State.methodFound?_of_named hnamed hy
  have e1 := findClass_of_methodNamed hn0
  rw [hc] at e1
  have hcls : mk.cls = m0.cls := Option.some.inj ((findClass_of_methodNamed hnamed).symm.trans e1)
  have hsel : selectMethod {} s.vm c mk = .method mk := selectMethod_private hmethM (Cond.privateMethod_at hpriv mk methM hnamed hmethM)
  simp only [Cond.before, Cond.holds, Cond.value, hfc, hfound, hnamed, hsel, hcls, hk]
  simp; exact hki
theorem lw_ex_ok {args : Array Value} {s : State} (hts : ∀ w ∈ lw_tbl, w.before args s = true) : ∀ w ∈ lw_tbl9, w.before args s = true := by
  refine fun w hw => (List.mem_append.mp hw).elim (fun h => ?_) (fun h => hts w h)
  have h0 := hts (.selects RJ4 yJ5_isLatin1_aae02 yJ5_isLatin1_aae02) (by decide +kernel)
  simp only [lw_ex, List.mem_cons, List.not_mem_nil, or_false] at h
  rcases h with rfl | rfl | rfl | rfl | rfl | rfl
  · exact sel_sub h0 rfl ⟨by decide +kernel, by decide +kernel⟩ (hts (.privateMethod yJ5_appendNull_278bc) (by decide +kernel)) (hts (.instanceMethod yJ5_appendNull_278bc) (by decide +kernel))
  · exact sel_sub h0 rfl ⟨by decide +kernel, by decide +kernel⟩ (hts (.privateMethod yJ5_ensureCapacityInternal_d00df) (by decide +kernel)) (hts (.instanceMethod yJ5_ensureCapacityInternal_d00df) (by decide +kernel))
  · exact sel_sub h0 rfl ⟨by decide +kernel, by decide +kernel⟩ (hts (.privateMethod yJ5_newCapacity_0f7a4) (by decide +kernel)) (hts (.instanceMethod yJ5_newCapacity_0f7a4) (by decide +kernel))
  · exact sel_sub h0 rfl ⟨by decide +kernel, by decide +kernel⟩ (hts (.privateMethod yJ5_putStringAt_47b60) (by decide +kernel)) (hts (.instanceMethod yJ5_putStringAt_47b60) (by decide +kernel))
  · exact sel_sub h0 rfl ⟨by decide +kernel, by decide +kernel⟩ (hts (.privateMethod yJ5_inflateIfNeededFor_a7421) (by decide +kernel)) (hts (.instanceMethod yJ5_inflateIfNeededFor_a7421) (by decide +kernel))
  · exact sel_sub h0 rfl ⟨by decide +kernel, by decide +kernel⟩ (hts (.privateMethod yJ5_inflate_da8c8) (by decide +kernel)) (hts (.instanceMethod yJ5_inflate_da8c8) (by decide +kernel))
theorem jels_o : List.Sublist ((List.range 100).map (fun j => Cond.eq (.elem (.static "java/lang/Integer" "DigitOnes" "[B") (.int (Int32.ofNat j))) (.int (nI (48 + j % 10))))) (flatC (Jvm.Cond.and given_1 narrow_1)) := by decide +kernel
theorem jel_o : ∀ j, j < 100 → (Cond.eq (.elem (.static "java/lang/Integer" "DigitOnes" "[B") (.int (Int32.ofNat j))) (.int (nI (48 + j % 10)))) ∈ flatC (Jvm.Cond.and given_1 narrow_1) := fun j hj => jels_o.subset (List.mem_map.mpr ⟨j, List.mem_range.mpr hj, rfl⟩)
theorem jels_t : List.Sublist ((List.range 100).map (fun j => Cond.eq (.elem (.static "java/lang/Integer" "DigitTens" "[B") (.int (Int32.ofNat j))) (.int (nI (48 + j / 10))))) (flatC (Jvm.Cond.and given_1 narrow_1)) := by decide +kernel
theorem jel_t : ∀ j, j < 100 → (Cond.eq (.elem (.static "java/lang/Integer" "DigitTens" "[B") (.int (Int32.ofNat j))) (.int (nI (48 + j / 10)))) ∈ flatC (Jvm.Cond.and given_1 narrow_1) := fun j hj => jels_t.subset (List.mem_map.mpr ⟨j, List.mem_range.mpr hj, rfl⟩)
theorem lw_jd {args : Array Value} {s : State} {A : Nat → Prop} (hts0 : ∀ w ∈ lw_tbl, w.before args s = true) (hg : ∀ w ∈ flatC (Jvm.Cond.and given_1 narrow_1), w.before args s = true) (hA : ∀ a : Nat, a < s.heap.size → ¬ A a) : ∃ jk jv jo jt, jd_ A jk jv jo jt s := by
  obtain ⟨adK, adV, hS, hev⟩ := vk_Sof (N := 1) (tm := fun _ => .string "BallotLoomLaw$Told" 80) (len := [0]) (byt := [[]]) (A := A) (fun i hi => by
      obtain rfl : i = 0 := by omega
      decide) (fun _ _ => hg (.exactly (.string "BallotLoomLaw$Told" 80) "java/lang/String") (by decide +kernel)) (fun _ _ => hg (.eq (.field (.string "BallotLoomLaw$Told" 80) "java/lang/String" "coder" "B") (.int 0)) (by decide +kernel)) (fun _ _ => hg (.arrayOf (.field (.string "BallotLoomLaw$Told" 80) "java/lang/String" "value" "[B") .byte) (by decide +kernel)) (fun i hi => by
      obtain rfl : i = 0 := by omega
      exact hg (.eq (.length (.field (.string "BallotLoomLaw$Told" 80) "java/lang/String" "value" "[B")) (.int 0)) (by decide +kernel)) (fun i hi j hj => by
      obtain rfl : i = 0 := by omega
      exact absurd hj (Nat.not_lt_zero _)) (fun i j hi hj hij => absurd (by omega) hij) hA
  obtain ⟨jo, ho, hoT⟩ := va_Tof (tm := .static "java/lang/Integer" "DigitOnes" "[B") (ty := .byte) (N := 100) (f := fun j => .int (nI (48 + j % 10))) (A := A) (by decide) (hg (.arrayOf (.static "java/lang/Integer" "DigitOnes" "[B") .byte) (by decide +kernel)) (va_eqt (hg (.eq (.length (.static "java/lang/Integer" "DigitOnes" "[B")) (.int 100)) (by decide +kernel))) (fun j hj => va_eqt (hg _ (jel_o j hj))) hA
  obtain ⟨jt, ht, htT⟩ := va_Tof (tm := .static "java/lang/Integer" "DigitTens" "[B") (ty := .byte) (N := 100) (f := fun j => .int (nI (48 + j / 10))) (A := A) (by decide) (hg (.arrayOf (.static "java/lang/Integer" "DigitTens" "[B") .byte) (by decide +kernel)) (va_eqt (hg (.eq (.length (.static "java/lang/Integer" "DigitTens" "[B")) (.int 100)) (by decide +kernel))) (fun j hj => va_eqt (hg _ (jel_t j hj))) hA
  refine ⟨adK 0, adV 0, jo, jt, vk_R.of (hts0 (.stringRef "BallotLoomLaw$Told" 80 "") (by decide +kernel)) (hev 0 Nat.zero_lt_one), ⟨fun i hi => ?_, fun i j hi hj _ => by omega⟩, va_Zof (hts0 (.laysStatic "java/lang/String" "COMPACT_STRINGS" "Z") (by decide +kernel)) (hts0 (.initialized "java/lang/String") (by decide +kernel)) (va_eqi (hg (.eq (.static "java/lang/String" "COMPACT_STRINGS" "Z") (.int 1)) (by decide +kernel))) hA, va_Zqof (hts0 (.laysStatic "jdk/internal/util/Preconditions" "SIOOBE_FORMATTER" "Ljava/util/function/BiFunction;") (by decide +kernel)) (hts0 (.initialized "jdk/internal/util/Preconditions") (by decide +kernel)) (hg (.isRef (.static "jdk/internal/util/Preconditions" "SIOOBE_FORMATTER" "Ljava/util/function/BiFunction;")) (by decide +kernel)) hA, ⟨va_Zref (hts0 (.laysStatic "java/lang/Integer" "DigitOnes" "[B") (by decide +kernel)) (hts0 (.initialized "java/lang/Integer") (by decide +kernel)) ho hA, hoT⟩, ⟨va_Zref (hts0 (.laysStatic "java/lang/Integer" "DigitTens" "[B") (by decide +kernel)) (hts0 (.initialized "java/lang/Integer") (by decide +kernel)) ht hA, htT⟩⟩
  obtain rfl : i = 0 := by omega
  exact hS.1 0 Nat.zero_lt_one
theorem lw_start {p : Program} {s : State} {m : MethodId} {meth : Method} {c : Code} {b L : Nat} {xs : Nat → Int32} (C0 : lw_At p s m meth c b L xs) : tx_ (fun q : Nat => s.heap.size ≤ q) b L xs s ∧ ∃ (tx : String) (sc : Nat), xs_ (fun q : Nat => s.heap.size ≤ q) 316 tx sc "java/lang/IllegalStateException" s := by
  obtain ⟨hx, hb, hr, hml, hown, hts0, hX, hbl, hlocks, hgv⟩ := id C0
  have hg := flat_of_before _ hgv
  have hA : ∀ a : Nat, a < s.heap.size → ¬ (fun q : Nat => s.heap.size ≤ q) a := fun a h => Nat.not_le.mpr h
  have hnd : nd_ s := ⟨va_Nw.of rfl (hts0 (.methodLinkNest RX6 39 yL_cell "BallotLoomLaw") (by decide +kernel)), va_Nw.of rfl (hts0 (.methodLinkNest RX6 45 yL_below "BallotLoomLaw") (by decide +kernel))⟩
  have hbo : bo_ s := ⟨va_AO.of (hts0 (.arrayOver (.object "BallotLoom$Stack")) (by decide +kernel)), va_Nw.of rfl (hts0 (.methodLinkNest RX0 28 yX3_init "BallotLoom") (by decide +kernel))⟩
  have hqo : qo_ s := hts0 (.arrayOver (.array .int)) (by decide +kernel)
  have hao : ao_ s := ⟨hbo, hqo, va_Nw.of rfl (hts0 (.methodLinkNest RX5 18 yX2_init "BallotLoom") (by decide +kernel)), va_Nw.of rfl (hts0 (.methodLinkNest RX5 25 yX4_init "BallotLoom") (by decide +kernel)), va_Nw.of rfl (hts0 (.methodLinkNest RX5 32 yX1_init "BallotLoom") (by decide +kernel)), va_Nw.of rfl (hts0 (.methodLinkNest RX5 39 yX3_init "BallotLoom") (by decide +kernel))⟩
  refine ⟨⟨⟨hX, hbl, Nat.not_le.mpr hbl, hnd⟩, hao, lw_jd hts0 hg hA⟩, ?_⟩
  obtain ⟨q, _, _, _, q1, -⟩ := Cond.exactly_spec (hg (.exactly (.string "BallotLoom" 316) "java/lang/String") (by decide +kernel))
  refine ⟨_, q, vx_Zqof (hts0 (.laysStatic "java/lang/Throwable" "UNASSIGNED_STACK" "[Ljava/lang/StackTraceElement;") (by decide +kernel)) (hts0 (.initialized "java/lang/Throwable") (by decide +kernel)) (hg (.isRef (.static "java/lang/Throwable" "UNASSIGNED_STACK" "[Ljava/lang/StackTraceElement;")) (by decide +kernel)) hA, vx_Zqof (hts0 (.laysStatic "java/lang/Throwable" "SUPPRESSED_SENTINEL" "Ljava/util/List;") (by decide +kernel)) (hts0 (.initialized "java/lang/Throwable") (by decide +kernel)) (hg (.isRef (.static "java/lang/Throwable" "SUPPRESSED_SENTINEL" "Ljava/util/List;")) (by decide +kernel)) hA, vk_R.of (hts0 (.stringRef "BallotLoom" 316 "the box is sealed") (by decide +kernel)) q1, va_Nw.of rfl (hts0 (.castable "java/lang/IllegalStateException" "java/lang/IllegalStateException") (by decide +kernel)), ⟨va_Nw.of rfl (hts0 (.declares ⟨"java/lang/RuntimeException", "<init>", "(Ljava/lang/String;)V"⟩) (by decide +kernel)), va_Nw.of rfl (hts0 (.declares ⟨"java/lang/Exception", "<init>", "(Ljava/lang/String;)V"⟩) (by decide +kernel)), va_Nw.of rfl (hts0 (.declares ⟨"java/lang/Throwable", "<init>", "(Ljava/lang/String;)V"⟩) (by decide +kernel))⟩⟩
