set_option maxRecDepth 100000 in
set_option maxHeartbeats 4000000 in
/-- what the law's start gives -/
theorem lx_of {p : Program} {s : State} {m : MethodId} {meth : Method} {c : Code} {b L : Nat} {xs : Nat → Int32} (C0 : lw_At p s m meth c b L xs) : ∃ (dz tc : Nat) (ad : Nat → Nat), lx_ (fun q : Nat => s.heap.size ≤ q) dz tc ad s := by
  obtain ⟨hx, hb, hr, hml, hown, hts0, hX, hbl, hlocks, hgv⟩ := id C0
  have hg := flat_of_before _ hgv
  have hA : ∀ a : Nat, a < s.heap.size → ¬ (fun q : Nat => s.heap.size ≤ q) a := fun a h => Nat.not_le.mpr h
  have tE : Term := .static "java/util/ArrayList" "DEFAULTCAPACITY_EMPTY_ELEMENTDATA" "[Ljava/lang/Object;"
  obtain ⟨dz, hdz, hdT⟩ := va_Tof (args := #[Value.ref b]) (s := s) (tm := .static "java/util/ArrayList" "DEFAULTCAPACITY_EMPTY_ELEMENTDATA" "[Ljava/lang/Object;") (ty := .object "java/lang/Object") (N := 0) (f := fun _ => .null) (A := fun q : Nat => s.heap.size ≤ q) (by decide) (hg _ (by decide +kernel)) (va_eqt (hg (.eq (.length (.static "java/util/ArrayList" "DEFAULTCAPACITY_EMPTY_ELEMENTDATA" "[Ljava/lang/Object;")) (.int 0)) (by decide +kernel))) (fun j hj => absurd hj (Nat.not_lt_zero j)) hA
  have hlen := va_eqt (hg (.eq (.length (.static "java/lang/Integer$IntegerCache" "cache" "[Ljava/lang/Integer;")) (.int 256)) (by decide +kernel))
  obtain ⟨ad, hC, hel⟩ := vb_Cof (args := #[Value.ref b]) (s := s) (A := fun q : Nat => s.heap.size ≤ q) (st := .static "java/lang/Integer$IntegerCache" "cache" "[Ljava/lang/Integer;") rfl hlen (hg _ (by decide +kernel)) hA
  obtain ⟨tc, htc, hcT⟩ := va_Tof (args := #[Value.ref b]) (s := s) (tm := .static "java/lang/Integer$IntegerCache" "cache" "[Ljava/lang/Integer;") (ty := .object "java/lang/Integer") (N := 256) (f := fun j => .ref (ad j)) (A := fun q : Nat => s.heap.size ≤ q) (by decide) (hg _ (by decide +kernel)) hlen hel hA
  have hem : em_ (fun q : Nat => s.heap.size ≤ q) dz s := va_Zref (hts0 (.laysStatic "java/util/ArrayList" "DEFAULTCAPACITY_EMPTY_ELEMENTDATA" "[Ljava/lang/Object;") (by decide +kernel)) (hts0 (.initialized "java/util/ArrayList") (by decide +kernel)) hdz hA
  have hhi : va_Z "java/lang/Integer$IntegerCache" "high" "I" (.int 127) (fun q : Nat => s.heap.size ≤ q) s s.heap := va_Zof (hts0 (.laysStatic "java/lang/Integer$IntegerCache" "high" "I") (by decide +kernel)) (hts0 (.initialized "java/lang/Integer$IntegerCache") (by decide +kernel)) (va_eqi (hg (.eq (.static "java/lang/Integer$IntegerCache" "high" "I") (.int 127)) (by decide +kernel))) hA
  have hca : va_Z "java/lang/Integer$IntegerCache" "cache" "[Ljava/lang/Integer;" (.ref tc) (fun q : Nat => s.heap.size ≤ q) s s.heap := va_Zref (hts0 (.laysStatic "java/lang/Integer$IntegerCache" "cache" "[Ljava/lang/Integer;") (by decide +kernel)) (hts0 (.initialized "java/lang/Integer$IntegerCache") (by decide +kernel)) htc hA
  have hbo : bo_ s := ⟨va_AO.of (hts0 (.arrayOver (.object "BallotLoom$Stack")) (by decide +kernel)), va_Nw.of rfl (hts0 (.methodLinkNest RX0 28 yX3_init "BallotLoom") (by decide +kernel))⟩
  have hqo : qo_ s := hts0 (.arrayOver (.array .int)) (by decide +kernel)
  have hao : ao_ s := ⟨hbo, hqo, va_Nw.of rfl (hts0 (.methodLinkNest RX5 18 yX2_init "BallotLoom") (by decide +kernel)), va_Nw.of rfl (hts0 (.methodLinkNest RX5 25 yX4_init "BallotLoom") (by decide +kernel)), va_Nw.of rfl (hts0 (.methodLinkNest RX5 32 yX1_init "BallotLoom") (by decide +kernel)), va_Nw.of rfl (hts0 (.methodLinkNest RX5 39 yX3_init "BallotLoom") (by decide +kernel))⟩
  have hmo : mo_ s := va_Fw.of (C := RJx4a65c) (x := ⟨"java/util/List", "size", "()I"⟩) (y := yJx4a65c_size_8abf5) (A := #[Value.ref b]) (hts0 (.declares ⟨"java/util/List", "size", "()I"⟩) (by decide +kernel)) (hts0 (.interfaceMethod "java/util/List" "java/util/List" "size" "()I") (by decide +kernel)) (hts0 (.publicMethod yJx4a65c_size_8abf5) (by decide +kernel)) (hts0 (.unhidden "java/util/ArrayList" "size" "()I") (by decide +kernel)) (hts0 (.castable "java/util/ArrayList" "java/util/List") (by decide +kernel))
  have hcc : ca_ (fun q : Nat => s.heap.size ≤ q) dz tc ad s := ⟨hmo, va_Fw.of (C := RJx4a65c) (x := ⟨"java/util/List", "add", "(Ljava/lang/Object;)Z"⟩) (y := yJx4a65c_add_9ea2d) (A := #[Value.ref b]) (hts0 (.declares ⟨"java/util/List", "add", "(Ljava/lang/Object;)Z"⟩) (by decide +kernel)) (hts0 (.interfaceMethod "java/util/List" "java/util/List" "add" "(Ljava/lang/Object;)Z") (by decide +kernel)) (hts0 (.publicMethod yJx4a65c_add_9ea2d) (by decide +kernel)) (hts0 (.unhidden "java/util/ArrayList" "add" "(Ljava/lang/Object;)Z") (by decide +kernel)) (hts0 (.castable "java/util/ArrayList" "java/util/List") (by decide +kernel)), va_AO.of (hts0 (.arrayOver (.object "java/lang/Object")) (by decide +kernel)), hem, hdT, hhi, hca, hcT, hC, va_Nw.of rfl (hts0 (.castable "java/lang/Integer" "java/lang/Object") (by decide +kernel))⟩
  have h50 : ∃ tx sa, vk_R RX5 50 tx sa s := by
    obtain ⟨q, _, _, _, q1, -⟩ := Cond.exactly_spec (hg (.exactly (.string "BallotLoom" 50) "java/lang/String") (by decide +kernel))
    exact ⟨_, q, vk_R.of (hts0 (.stringRef "BallotLoom" 50 "party is not 0 to 3") (by decide +kernel)) q1⟩
  have h84 : ∃ tx sa, vk_R RX5 84 tx sa s := by
    obtain ⟨q, _, _, _, q1, -⟩ := Cond.exactly_spec (hg (.exactly (.string "BallotLoom" 84) "java/lang/String") (by decide +kernel))
    exact ⟨_, q, vk_R.of (hts0 (.stringRef "BallotLoom" 84 "seats is not 1 to 5") (by decide +kernel)) q1⟩
  have h128 : ∃ tx sa, vk_R RX5 128 tx sa s := by
    obtain ⟨q, _, _, _, q1, -⟩ := Cond.exactly_spec (hg (.exactly (.string "BallotLoom" 128) "java/lang/String") (by decide +kernel))
    exact ⟨_, q, vk_R.of (hts0 (.stringRef "BallotLoom" 128 "percent is not 0 to 20") (by decide +kernel)) q1⟩
  have h296 : ∃ tx sa, vk_R RX5 296 tx sa s := by
    obtain ⟨q, _, _, _, q1, -⟩ := Cond.exactly_spec (hg (.exactly (.string "BallotLoom" 296) "java/lang/String") (by decide +kernel))
    exact ⟨_, q, vk_R.of (hts0 (.stringRef "BallotLoom" 296 "there is no such candidate") (by decide +kernel)) q1⟩
  have h299 : ∃ tx sa, vk_R RX5 299 tx sa s := by
    obtain ⟨q, _, _, _, q1, -⟩ := Cond.exactly_spec (hg (.exactly (.string "BallotLoom" 299) "java/lang/String") (by decide +kernel))
    exact ⟨_, q, vk_R.of (hts0 (.stringRef "BallotLoom" 299 "there is no such district") (by decide +kernel)) q1⟩
  have h301 : ∃ tx sa, vk_R RX5 301 tx sa s := by
    obtain ⟨q, _, _, _, q1, -⟩ := Cond.exactly_spec (hg (.exactly (.string "BallotLoom" 301) "java/lang/String") (by decide +kernel))
    exact ⟨_, q, vk_R.of (hts0 (.stringRef "BallotLoom" 301 "there is no such stack") (by decide +kernel)) q1⟩
  have h308 : ∃ tx sa, vk_R RX5 308 tx sa s := by
    obtain ⟨q, _, _, _, q1, -⟩ := Cond.exactly_spec (hg (.exactly (.string "BallotLoom" 308) "java/lang/String") (by decide +kernel))
    exact ⟨_, q, vk_R.of (hts0 (.stringRef "BallotLoom" 308 "there is no such what") (by decide +kernel)) q1⟩
  have h312 : ∃ tx sa, vk_R RX5 312 tx sa s := by
    obtain ⟨q, _, _, _, q1, -⟩ := Cond.exactly_spec (hg (.exactly (.string "BallotLoom" 312) "java/lang/String") (by decide +kernel))
    exact ⟨_, q, vk_R.of (hts0 (.stringRef "BallotLoom" 312 "house is not 1 to 60") (by decide +kernel)) q1⟩
  have h314 : ∃ tx sa, vk_R RX5 314 tx sa s := by
    obtain ⟨q, _, _, _, q1, -⟩ := Cond.exactly_spec (hg (.exactly (.string "BallotLoom" 314) "java/lang/String") (by decide +kernel))
    exact ⟨_, q, vk_R.of (hts0 (.stringRef "BallotLoom" 314 "rule is not 0 to 2") (by decide +kernel)) q1⟩
  exact ⟨dz, tc, ad, hao, hcc, hqo, vx_Zqof (hts0 (.laysStatic "java/lang/Throwable" "UNASSIGNED_STACK" "[Ljava/lang/StackTraceElement;") (by decide +kernel)) (hts0 (.initialized "java/lang/Throwable") (by decide +kernel)) (hg (.isRef (.static "java/lang/Throwable" "UNASSIGNED_STACK" "[Ljava/lang/StackTraceElement;")) (by decide +kernel)) hA, vx_Zqof (hts0 (.laysStatic "java/lang/Throwable" "SUPPRESSED_SENTINEL" "Ljava/util/List;") (by decide +kernel)) (hts0 (.initialized "java/lang/Throwable") (by decide +kernel)) (hg (.isRef (.static "java/lang/Throwable" "SUPPRESSED_SENTINEL" "Ljava/util/List;")) (by decide +kernel)) hA, va_Nw.of rfl (hts0 (.castable "java/lang/IndexOutOfBoundsException" "java/lang/IndexOutOfBoundsException") (by decide +kernel)), va_Nw.of rfl (hts0 (.castable "java/lang/IllegalArgumentException" "java/lang/IllegalArgumentException") (by decide +kernel)), va_Nc.of (hg (.not (.castable "java/lang/IllegalArgumentException" "java/lang/IndexOutOfBoundsException")) (by decide +kernel)), ⟨va_Nw.of rfl (hts0 (.declares ⟨"java/lang/RuntimeException", "<init>", "(Ljava/lang/String;)V"⟩) (by decide +kernel)), va_Nw.of rfl (hts0 (.declares ⟨"java/lang/Exception", "<init>", "(Ljava/lang/String;)V"⟩) (by decide +kernel)), va_Nw.of rfl (hts0 (.declares ⟨"java/lang/Throwable", "<init>", "(Ljava/lang/String;)V"⟩) (by decide +kernel))⟩, h50, h84, h128, h296, h299, h301, h308, h312, h314⟩
