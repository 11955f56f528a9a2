section
-- ===== PART A: goes FIRST, ahead of the names: the tables' words, and 'selects' of the private methods out of them =====
/-- a private method of a class that the tables say can be made, by its rows of tables_1 -/
def lw_okq (q : MethodName × Nat) : Prop := (q.1.cls ≠ "java/lang/invoke/MethodHandle" ∧ q.1.cls ≠ "java/lang/invoke/VarHandle") ∧ Cond.instantiable q.1.cls q.2 ∈ tables_1 ∧ Cond.privateMethod q.1 ∈ tables_1 ∧ Cond.instanceMethod q.1 ∈ tables_1
theorem lw_p0 : lw_okq (⟨"java/lang/Throwable", "fillInStackTrace", "(I)Ljava/lang/Throwable;"⟩, 6) := ⟨⟨by decide +kernel, by decide +kernel⟩, List.mem_of_getElem? (i := 72) (by decide +kernel), List.mem_of_getElem? (i := 70) (by decide +kernel), List.mem_of_getElem? (i := 71) (by decide +kernel)⟩
theorem lw_p1 : lw_okq (⟨"BallotLoom", "checkDistrict", "(I)V"⟩, 5) := ⟨⟨by decide +kernel, by decide +kernel⟩, List.mem_of_getElem? (i := 120) (by decide +kernel), List.mem_of_getElem? (i := 118) (by decide +kernel), List.mem_of_getElem? (i := 119) (by decide +kernel)⟩
theorem lw_p2 : lw_okq (⟨"BallotLoom$Poll", "addPoints", "(LBallotLoom$Box;LBallotLoom$Stack;)V"⟩, 7) := ⟨⟨by decide +kernel, by decide +kernel⟩, List.mem_of_getElem? (i := 170) (by decide +kernel), List.mem_of_getElem? (i := 168) (by decide +kernel), List.mem_of_getElem? (i := 169) (by decide +kernel)⟩
theorem lw_p3 : lw_okq (⟨"BallotLoom$Poll", "mostPoints", "(LBallotLoom$Box;)I"⟩, 7) := ⟨⟨by decide +kernel, by decide +kernel⟩, List.mem_of_getElem? (i := 170) (by decide +kernel), List.mem_of_getElem? (i := 178) (by decide +kernel), List.mem_of_getElem? (i := 179) (by decide +kernel)⟩
theorem lw_p4 : lw_okq (⟨"BallotLoom$Poll", "addBeats", "(LBallotLoom$Box;LBallotLoom$Stack;)V"⟩, 7) := ⟨⟨by decide +kernel, by decide +kernel⟩, List.mem_of_getElem? (i := 170) (by decide +kernel), List.mem_of_getElem? (i := 186) (by decide +kernel), List.mem_of_getElem? (i := 187) (by decide +kernel)⟩
theorem lw_p5 : lw_okq (⟨"BallotLoom$Poll", "findPaths", "()V"⟩, 7) := ⟨⟨by decide +kernel, by decide +kernel⟩, List.mem_of_getElem? (i := 170) (by decide +kernel), List.mem_of_getElem? (i := 190) (by decide +kernel), List.mem_of_getElem? (i := 191) (by decide +kernel)⟩
theorem lw_p6 : lw_okq (⟨"BallotLoom$Poll", "widestPaths", "(LBallotLoom$Box;)I"⟩, 7) := ⟨⟨by decide +kernel, by decide +kernel⟩, List.mem_of_getElem? (i := 170) (by decide +kernel), List.mem_of_getElem? (i := 200) (by decide +kernel), List.mem_of_getElem? (i := 201) (by decide +kernel)⟩
theorem lw_p7 : lw_okq (⟨"BallotLoom$Poll", "isNowhereNarrower", "(LBallotLoom$Box;I)Z"⟩, 7) := ⟨⟨by decide +kernel, by decide +kernel⟩, List.mem_of_getElem? (i := 170) (by decide +kernel), List.mem_of_getElem? (i := 204) (by decide +kernel), List.mem_of_getElem? (i := 205) (by decide +kernel)⟩
theorem lw_p8 : lw_okq (⟨"BallotLoom$Poll", "countBehind", "(LBallotLoom$Box;I)I"⟩, 7) := ⟨⟨by decide +kernel, by decide +kernel⟩, List.mem_of_getElem? (i := 170) (by decide +kernel), List.mem_of_getElem? (i := 212) (by decide +kernel), List.mem_of_getElem? (i := 213) (by decide +kernel)⟩
theorem lw_p9 : lw_okq (⟨"BallotLoom$Poll", "mostBehind", "()I"⟩, 7) := ⟨⟨by decide +kernel, by decide +kernel⟩, List.mem_of_getElem? (i := 170) (by decide +kernel), List.mem_of_getElem? (i := 220) (by decide +kernel), List.mem_of_getElem? (i := 221) (by decide +kernel)⟩
theorem lw_p10 : lw_okq (⟨"BallotLoom$Poll", "leastBehind", "(I)I"⟩, 7) := ⟨⟨by decide +kernel, by decide +kernel⟩, List.mem_of_getElem? (i := 170) (by decide +kernel), List.mem_of_getElem? (i := 224) (by decide +kernel), List.mem_of_getElem? (i := 225) (by decide +kernel)⟩
theorem lw_p11 : lw_okq (⟨"BallotLoom$Poll", "isNoStronger", "(II)Z"⟩, 7) := ⟨⟨by decide +kernel, by decide +kernel⟩, List.mem_of_getElem? (i := 170) (by decide +kernel), List.mem_of_getElem? (i := 228) (by decide +kernel), List.mem_of_getElem? (i := 229) (by decide +kernel)⟩
theorem lw_p12 : lw_okq (⟨"BallotLoom$Parties", "countVotesHere", "(LBallotLoom$Box;LBallotLoom$Poll;)I"⟩, 9) := ⟨⟨by decide +kernel, by decide +kernel⟩, List.mem_of_getElem? (i := 255) (by decide +kernel), List.mem_of_getElem? (i := 253) (by decide +kernel), List.mem_of_getElem? (i := 254) (by decide +kernel)⟩
theorem lw_p13 : lw_okq (⟨"BallotLoom$Parties", "addWasted", "(II)V"⟩, 9) := ⟨⟨by decide +kernel, by decide +kernel⟩, List.mem_of_getElem? (i := 255) (by decide +kernel), List.mem_of_getElem? (i := 258) (by decide +kernel), List.mem_of_getElem? (i := 259) (by decide +kernel)⟩
theorem lw_p14 : lw_okq (⟨"BallotLoom", "shareHouse", "(II)V"⟩, 5) := ⟨⟨by decide +kernel, by decide +kernel⟩, List.mem_of_getElem? (i := 120) (by decide +kernel), List.mem_of_getElem? (i := 279) (by decide +kernel), List.mem_of_getElem? (i := 280) (by decide +kernel)⟩
theorem lw_p15 : lw_okq (⟨"BallotLoom$Parties", "shareByRemainders", "(I)V"⟩, 9) := ⟨⟨by decide +kernel, by decide +kernel⟩, List.mem_of_getElem? (i := 255) (by decide +kernel), List.mem_of_getElem? (i := 287) (by decide +kernel), List.mem_of_getElem? (i := 288) (by decide +kernel)⟩
def lw_privs_1 : List (MethodName × Nat) := [(⟨"java/lang/Throwable", "fillInStackTrace", "(I)Ljava/lang/Throwable;"⟩, 6), (⟨"BallotLoom", "checkDistrict", "(I)V"⟩, 5), (⟨"BallotLoom$Poll", "addPoints", "(LBallotLoom$Box;LBallotLoom$Stack;)V"⟩, 7), (⟨"BallotLoom$Poll", "mostPoints", "(LBallotLoom$Box;)I"⟩, 7), (⟨"BallotLoom$Poll", "addBeats", "(LBallotLoom$Box;LBallotLoom$Stack;)V"⟩, 7), (⟨"BallotLoom$Poll", "findPaths", "()V"⟩, 7), (⟨"BallotLoom$Poll", "widestPaths", "(LBallotLoom$Box;)I"⟩, 7), (⟨"BallotLoom$Poll", "isNowhereNarrower", "(LBallotLoom$Box;I)Z"⟩, 7), (⟨"BallotLoom$Poll", "countBehind", "(LBallotLoom$Box;I)I"⟩, 7), (⟨"BallotLoom$Poll", "mostBehind", "()I"⟩, 7), (⟨"BallotLoom$Poll", "leastBehind", "(I)I"⟩, 7), (⟨"BallotLoom$Poll", "isNoStronger", "(II)Z"⟩, 7), (⟨"BallotLoom$Parties", "countVotesHere", "(LBallotLoom$Box;LBallotLoom$Poll;)I"⟩, 9), (⟨"BallotLoom$Parties", "addWasted", "(II)V"⟩, 9), (⟨"BallotLoom", "shareHouse", "(II)V"⟩, 5), (⟨"BallotLoom$Parties", "shareByRemainders", "(I)V"⟩, 9)]
theorem lw_r1 : ∀ q ∈ lw_privs_1, lw_okq q := List.forall_mem_cons.mpr ⟨lw_p0, List.forall_mem_cons.mpr ⟨lw_p1, List.forall_mem_cons.mpr ⟨lw_p2, List.forall_mem_cons.mpr ⟨lw_p3, List.forall_mem_cons.mpr ⟨lw_p4, List.forall_mem_cons.mpr ⟨lw_p5, List.forall_mem_cons.mpr ⟨lw_p6, List.forall_mem_cons.mpr ⟨lw_p7, List.forall_mem_cons.mpr ⟨lw_p8, List.forall_mem_cons.mpr ⟨lw_p9, List.forall_mem_cons.mpr ⟨lw_p10, List.forall_mem_cons.mpr ⟨lw_p11, List.forall_mem_cons.mpr ⟨lw_p12, List.forall_mem_cons.mpr ⟨lw_p13, List.forall_mem_cons.mpr ⟨lw_p14, List.forall_mem_cons.mpr ⟨lw_p15, fun _ h => absurd h List.not_mem_nil⟩⟩⟩⟩⟩⟩⟩⟩⟩⟩⟩⟩⟩⟩⟩⟩
theorem lw_p16 : lw_okq (⟨"BallotLoom$Parties", "takesPart", "(I)Z"⟩, 9) := ⟨⟨by decide +kernel, by decide +kernel⟩, List.mem_of_getElem? (i := 255) (by decide +kernel), List.mem_of_getElem? (i := 291) (by decide +kernel), List.mem_of_getElem? (i := 292) (by decide +kernel)⟩
theorem lw_p17 : lw_okq (⟨"BallotLoom$Parties", "giveToGreatestRemainder", "()V"⟩, 9) := ⟨⟨by decide +kernel, by decide +kernel⟩, List.mem_of_getElem? (i := 255) (by decide +kernel), List.mem_of_getElem? (i := 295) (by decide +kernel), List.mem_of_getElem? (i := 296) (by decide +kernel)⟩
theorem lw_p18 : lw_okq (⟨"BallotLoom$Parties", "shareByDivisors", "(II)V"⟩, 9) := ⟨⟨by decide +kernel, by decide +kernel⟩, List.mem_of_getElem? (i := 255) (by decide +kernel), List.mem_of_getElem? (i := 299) (by decide +kernel), List.mem_of_getElem? (i := 300) (by decide +kernel)⟩
theorem lw_p19 : lw_okq (⟨"BallotLoom", "checkStack", "(I)V"⟩, 5) := ⟨⟨by decide +kernel, by decide +kernel⟩, List.mem_of_getElem? (i := 120) (by decide +kernel), List.mem_of_getElem? (i := 307) (by decide +kernel), List.mem_of_getElem? (i := 308) (by decide +kernel)⟩
theorem lw_p20 : lw_okq (⟨"BallotLoom$Transfers", "start", "(LBallotLoom$Box;I)V"⟩, 3) := ⟨⟨by decide +kernel, by decide +kernel⟩, List.mem_of_getElem? (i := 374) (by decide +kernel), List.mem_of_getElem? (i := 372) (by decide +kernel), List.mem_of_getElem? (i := 373) (by decide +kernel)⟩
theorem lw_p21 : lw_okq (⟨"BallotLoom$Transfers", "countHeld", "(LBallotLoom$Box;I)V"⟩, 3) := ⟨⟨by decide +kernel, by decide +kernel⟩, List.mem_of_getElem? (i := 374) (by decide +kernel), List.mem_of_getElem? (i := 379) (by decide +kernel), List.mem_of_getElem? (i := 380) (by decide +kernel)⟩
theorem lw_p22 : lw_okq (⟨"BallotLoom$Transfers", "mostHeld", "()I"⟩, 3) := ⟨⟨by decide +kernel, by decide +kernel⟩, List.mem_of_getElem? (i := 374) (by decide +kernel), List.mem_of_getElem? (i := 385) (by decide +kernel), List.mem_of_getElem? (i := 386) (by decide +kernel)⟩
theorem lw_p23 : lw_okq (⟨"BallotLoom$Transfers", "lowerValues", "(LBallotLoom$Box;III)V"⟩, 3) := ⟨⟨by decide +kernel, by decide +kernel⟩, List.mem_of_getElem? (i := 374) (by decide +kernel), List.mem_of_getElem? (i := 389) (by decide +kernel), List.mem_of_getElem? (i := 390) (by decide +kernel)⟩
theorem lw_p24 : lw_okq (⟨"BallotLoom$Transfers", "leastHeld", "(I)I"⟩, 3) := ⟨⟨by decide +kernel, by decide +kernel⟩, List.mem_of_getElem? (i := 374) (by decide +kernel), List.mem_of_getElem? (i := 397) (by decide +kernel), List.mem_of_getElem? (i := 398) (by decide +kernel)⟩
theorem lw_p25 : lw_okq (⟨"BallotLoom", "mixDistrict", "(JI)J"⟩, 5) := ⟨⟨by decide +kernel, by decide +kernel⟩, List.mem_of_getElem? (i := 120) (by decide +kernel), List.mem_of_getElem? (i := 409) (by decide +kernel), List.mem_of_getElem? (i := 410) (by decide +kernel)⟩
theorem lw_p26 : lw_okq (⟨"BallotLoom$Poll", "shiftTo", "(II)I"⟩, 7) := ⟨⟨by decide +kernel, by decide +kernel⟩, List.mem_of_getElem? (i := 170) (by decide +kernel), List.mem_of_getElem? (i := 418) (by decide +kernel), List.mem_of_getElem? (i := 419) (by decide +kernel)⟩
theorem lw_p27 : lw_okq (⟨"BallotLoom", "mixParty", "(JI)J"⟩, 5) := ⟨⟨by decide +kernel, by decide +kernel⟩, List.mem_of_getElem? (i := 120) (by decide +kernel), List.mem_of_getElem? (i := 425) (by decide +kernel), List.mem_of_getElem? (i := 426) (by decide +kernel)⟩
theorem lw_p28 : lw_okq (⟨"BallotLoom$Parties", "isRuling", "(II)Z"⟩, 9) := ⟨⟨by decide +kernel, by decide +kernel⟩, List.mem_of_getElem? (i := 255) (by decide +kernel), List.mem_of_getElem? (i := 433) (by decide +kernel), List.mem_of_getElem? (i := 434) (by decide +kernel)⟩
theorem lw_p29 : lw_okq (⟨"BallotLoom$Parties", "seatsTogether", "(I)I"⟩, 9) := ⟨⟨by decide +kernel, by decide +kernel⟩, List.mem_of_getElem? (i := 255) (by decide +kernel), List.mem_of_getElem? (i := 437) (by decide +kernel), List.mem_of_getElem? (i := 438) (by decide +kernel)⟩
theorem lw_p30 : lw_okq (⟨"BallotLoom$Parties", "isLess", "(II)Z"⟩, 9) := ⟨⟨by decide +kernel, by decide +kernel⟩, List.mem_of_getElem? (i := 255) (by decide +kernel), List.mem_of_getElem? (i := 445) (by decide +kernel), List.mem_of_getElem? (i := 446) (by decide +kernel)⟩
theorem lw_p31 : lw_okq (⟨"BallotLoom", "checkCandidate", "(I)V"⟩, 5) := ⟨⟨by decide +kernel, by decide +kernel⟩, List.mem_of_getElem? (i := 120) (by decide +kernel), List.mem_of_getElem? (i := 739) (by decide +kernel), List.mem_of_getElem? (i := 740) (by decide +kernel)⟩
def lw_privs_2 : List (MethodName × Nat) := [(⟨"BallotLoom$Parties", "takesPart", "(I)Z"⟩, 9), (⟨"BallotLoom$Parties", "giveToGreatestRemainder", "()V"⟩, 9), (⟨"BallotLoom$Parties", "shareByDivisors", "(II)V"⟩, 9), (⟨"BallotLoom", "checkStack", "(I)V"⟩, 5), (⟨"BallotLoom$Transfers", "start", "(LBallotLoom$Box;I)V"⟩, 3), (⟨"BallotLoom$Transfers", "countHeld", "(LBallotLoom$Box;I)V"⟩, 3), (⟨"BallotLoom$Transfers", "mostHeld", "()I"⟩, 3), (⟨"BallotLoom$Transfers", "lowerValues", "(LBallotLoom$Box;III)V"⟩, 3), (⟨"BallotLoom$Transfers", "leastHeld", "(I)I"⟩, 3), (⟨"BallotLoom", "mixDistrict", "(JI)J"⟩, 5), (⟨"BallotLoom$Poll", "shiftTo", "(II)I"⟩, 7), (⟨"BallotLoom", "mixParty", "(JI)J"⟩, 5), (⟨"BallotLoom$Parties", "isRuling", "(II)Z"⟩, 9), (⟨"BallotLoom$Parties", "seatsTogether", "(I)I"⟩, 9), (⟨"BallotLoom$Parties", "isLess", "(II)Z"⟩, 9), (⟨"BallotLoom", "checkCandidate", "(I)V"⟩, 5)]
theorem lw_r2 : ∀ q ∈ lw_privs_2, lw_okq q := List.forall_mem_cons.mpr ⟨lw_p16, List.forall_mem_cons.mpr ⟨lw_p17, List.forall_mem_cons.mpr ⟨lw_p18, List.forall_mem_cons.mpr ⟨lw_p19, List.forall_mem_cons.mpr ⟨lw_p20, List.forall_mem_cons.mpr ⟨lw_p21, List.forall_mem_cons.mpr ⟨lw_p22, List.forall_mem_cons.mpr ⟨lw_p23, List.forall_mem_cons.mpr ⟨lw_p24, List.forall_mem_cons.mpr ⟨lw_p25, List.forall_mem_cons.mpr ⟨lw_p26, List.forall_mem_cons.mpr ⟨lw_p27, List.forall_mem_cons.mpr ⟨lw_p28, List.forall_mem_cons.mpr ⟨lw_p29, List.forall_mem_cons.mpr ⟨lw_p30, List.forall_mem_cons.mpr ⟨lw_p31, fun _ h => absurd h List.not_mem_nil⟩⟩⟩⟩⟩⟩⟩⟩⟩⟩⟩⟩⟩⟩⟩⟩
theorem lw_p32 : lw_okq (⟨"BallotLoom", "checkOpen", "()V"⟩, 5) := ⟨⟨by decide +kernel, by decide +kernel⟩, List.mem_of_getElem? (i := 120) (by decide +kernel), List.mem_of_getElem? (i := 782) (by decide +kernel), List.mem_of_getElem? (i := 783) (by decide +kernel)⟩
def lw_privs_3 : List (MethodName × Nat) := [(⟨"BallotLoom", "checkOpen", "()V"⟩, 5)]
theorem lw_r3 : ∀ q ∈ lw_privs_3, lw_okq q := List.forall_mem_cons.mpr ⟨lw_p32, fun _ h => absurd h List.not_mem_nil⟩
def lw_privs : List (MethodName × Nat) := lw_privs_1 ++ (lw_privs_2 ++ (lw_privs_3))
def lw_tbl : List Cond := k2_sels lw_privs ++ tables_1
theorem lw_privs_ok : ∀ q ∈ lw_privs, lw_okq q := by
  show ∀ q ∈ lw_privs_1 ++ (lw_privs_2 ++ (lw_privs_3)), lw_okq q
  exact List.forall_mem_append.mpr ⟨lw_r1, List.forall_mem_append.mpr ⟨lw_r2, lw_r3⟩⟩
/-- the streams that the claim lets the run draw from -/
abbrev lw_cs : List Choice := [Jvm.Choice.named "NaN.bits"]
theorem lw_bits : nanBits ∈ lw_cs := by first | decide | exact List.mem_cons_self | simp [lw_cs, nanBits]
-- ===== end of PART A; then your names; then what follows =====
end
section
/-! ===== BEGIN words of one list among another's, by their places ===== -/
theorem goodIn_r {big : List Cond} (ws : List Cond) (ps : List Nat) (hp : ws = ps.filterMap (fun i => big[i]?)) (h : ws.all goodWord = true) : GoodIn big ws := by
  intro w hw
  have h1 := List.all_eq_true.mp h w hw
  rw [hp] at hw
  obtain ⟨i, -, hi⟩ := List.mem_filterMap.mp hw
  have hm : w ∈ big := by first | exact List.mem_of_getElem? hi | exact List.getElem?_mem hi
  exact ⟨hm, good_of_word h1⟩
theorem goodIn_app {big a b : List Cond} (ha : GoodIn big a) (hb : GoodIn big b) : GoodIn big (a ++ b) := fun w h => (List.mem_append.mp h).elim (ha w) (hb w)
theorem goodIn_ca {big a b : List Cond} {c : Cond} (ha : GoodIn big (c :: a)) (hb : GoodIn big b) : GoodIn big (c :: (a ++ b)) := fun w h => (List.mem_cons.mp h).elim (fun e => ha w (List.mem_cons.mpr (Or.inl e))) (fun h => (List.mem_append.mp h).elim (fun h => ha w (List.mem_cons.mpr (Or.inr h))) (hb w))
theorem goodIn_sub {big ws : List Cond} (hm : ∀ w ∈ ws, w ∈ big) (h : ws.all goodWord = true) : GoodIn big ws := fun w hw => ⟨hm w hw, good_of_word (List.all_eq_true.mp h w hw)⟩
/-! ===== END ===== -/

/-! ===== BEGIN new T[n][m]: the outer array a place, the inner ones among the pooled ===== -/
/-- f, but v at every address of l -/
def vr_up {α : Type} (f : Nat → α) (l : List Nat) (v : α) : Nat → α := fun a => if a ∈ l then v else f a
theorem vr_up_in {α : Type} {f : Nat → α} {l : List Nat} {v : α} {a : Nat} (h : a ∈ l) : vr_up f l v a = v := if_pos h
theorem vr_up_ne {α : Type} {f : Nat → α} {l : List Nat} {v : α} {a : Nat} (h : a ∉ l) : vr_up f l v a = f a := if_neg h
theorem vr_rows {L l : List Nat} {f : Nat → va_E} {e : va_E} (h : ∀ a, a ∈ l → a ∉ L) : va_pl L f ++ l.map (fun a => (a, e)) = va_pl (L ++ l) (vr_up f l e) := by
  unfold va_pl
  rw [List.map_append]
  congr 1
  · apply List.map_congr_left
    intro a ha
    rw [vr_up_ne (fun q => h a q ha)]
  · apply List.map_congr_left
    intro a ha
    rw [vr_up_in ha]
theorem vr_lay {X rows : va_W} {x : Nat × va_E} {pl : va_W} {D : va_G} {cl : List vw_C} {H : Heap} (hP : va_P D cl (((X ++ pl) ++ [x]) ++ rows) H) : va_P D cl ((X ++ [x]) ++ (pl ++ rows)) H := by
  rw [List.append_assoc (X ++ pl)] at hP
  have h := va_P.swap hP
  rw [← List.append_assoc X] at h
  have h2 := va_P.swap h
  rw [List.append_assoc (X ++ [x])] at h2
  exact h2
theorem vr_layD {X rows : va_W} {x : Nat × va_E} {pl : va_W} {A : Nat → Prop} (hD : va_D A (((X ++ pl) ++ [x]) ++ rows)) : va_D A ((X ++ [x]) ++ (pl ++ rows)) := by
  rw [List.append_assoc (X ++ pl)] at hD
  have h := va_D.swap hD
  rw [← List.append_assoc X] at h
  have h2 := va_D.swap h
  rw [List.append_assoc (X ++ [x])] at h2
  exact h2
theorem vr_outer (c : ClassId) (N h0 : Nat) : ∀ i : Nat, Jvm.Free.Multi.outerC c N h0 i = arrV c N (fun j => va_rf (if j < i then some (h0 + 1 + j) else none))
  | 0 => by
    show ({ cls := c, slots := Array.replicate N .null, vm := .none } : Cell) = _
    rw [arrV_new]
    refine congrArg (arrV c N) (funext fun j => ?_)
    simp [va_rf]
  | i + 1 => by
    show (Jvm.Free.Multi.outerC c N h0 i).setSlot i (.ref (h0 + 1 + i)) = _
    rw [vr_outer c N h0 i, arrV_store]
    refine congrArg (arrV c N) (funext fun j => ?_)
    by_cases e : j = i
    · subst e
      simp [updV, va_rf]
    · by_cases h : j < i
      · simp [updV, e, h, Nat.lt_succ_of_lt h]
      · simp [updV, e, h, show ¬ j < i + 1 by omega]
def va_AOA (ty : FieldType) (U : State) : Prop := (Cond.arrayOver (.array ty)).before #[] U = true
theorem va_AOA.use {ty : FieldType} {A : Array Value} {U : State} (h : va_AOA ty U) : (Cond.arrayOver (.array ty)).before A U = true := h
theorem va_AOA.moved {ty : FieldType} {u U : State} (hvm : u.vm.Alike U.vm) (h : va_AOA ty u) : va_AOA ty U := by
  have h1 : (Cond.arrayOver (.array ty)).before #[] (u.setVm U.vm) = true := (Cond.arrayOver_setVmC hvm _).trans h
  exact h1
section VGM
variable {p : Program} {l : Launch} {e : Env} {R : Room} {s : State} {m : MethodId} {args : Array Value} {below : List Frame} {meth : Method} {c : Code} {H : Heap} {locs : List Loc} {cells slots : Nat} {Q : State → Prop}
variable {cc : ByteArray} {pc : Nat} {ls : Array Slot} {rest : List Value} {D : va_G} {cl : List vw_C} {A : Nat → Prop} {a : Nat} {tys : List (ClassId × FieldType)} {ws : va_W} {H0 : Heap}
theorem va_mna {X : va_W} {L : List Nat} {f : Nat → va_E} {cc : ByteArray} (hexec : p.tables.exec = Jvm.exec) (hb : c.code = cc) {own : String} {index : Nat} {ty : FieldType} {cy : ClassId} (hown : s.vm.findClass own = some m.cls) (hclink : (Cond.classLink own index ("[" ++ (FieldType.array ty).toString)).before args s = true) (hover : va_AOA ty s) (harr : (Cond.arrayClass ty).before args s = true) (hcy : s.vm.findClass (FieldType.array ty).toString = some cy)
    (hK : va_K D cl tys s) (hP : va_P D cl (X ++ va_pl L f) H) (hD : va_D A (X ++ va_pl L f)) (hS : va_S A H0 H locs) (hA : ∀ q, H0.size ≤ q → A q) {n k : Int32} {N' K' : Nat} {z : vp_A} (hn : ¬ n < 0) (hk : ¬ k < 0) (hN : n.toNatClampNeg = N') (hM : k.toNatClampNeg = K')
    (hb1 : N' * 4 ≤ 536870912) (hb2 : K' * componentBytes ty ≤ 536870912) (hb3 : K' ≤ 536870912) (hdf : fits ty (defaultValue ty) = true) (hdd : (defaultValue ty).isDefault = true) (hcells : cells + (1 + N') ≤ R.cells) (hslots : slots + (N' + N' * K') ≤ R.slots) (hz : ∀ c : ClassId, Jvm.Free.Multi.innerC c K' (defaultValue ty) = vp_cell c z) (hdg : decode cc pc = .ok (.multianewarray index 2, 4))
    (kk : ∀ (q : Nat) (r : Nat → Nat) (cA : ClassId) (H1 : Heap), (∀ i j : Nat, i < N' → j < N' → r i = r j → i = j) → (∀ i : Nat, i < N' → r i ∉ L) → va_K D cl (tys ++ [(cA, .array ty)]) s →
      va_P D cl ((X ++ [(q, .inl (cA, N', .inr (.inr (.inr (.inr (fun i => if i < N' then some (r i) else none))))))]) ++ va_pl (L ++ (List.range N').map r) (vr_up f ((List.range N').map r) (.inl (cy, z)))) H1 → va_D A ((X ++ [(q, .inl (cA, N', .inr (.inr (.inr (.inr (fun i => if i < N' then some (r i) else none))))))]) ++ va_pl (L ++ (List.range N').map r) (vr_up f ((List.range N').map r) (.inl (cy, z)))) → va_S A H0 H1 locs →
      W p l e R s m args below meth c H1 locs (cells + 1 + N') (slots + N' + N' * K') Q (F0 m (pc + 4) ls (.ref q :: rest))) : W p l e R s m args below meth c H locs cells slots Q (F0 m pc ls (.int k :: .int n :: rest)) := by
  subst hN
  subst hM
  intro T hT Xs
  obtain ⟨vm₁, cA, comp, -, fA, fC, hO, -, X', step⟩ := Xs.multianewarray2F hexec hown hclink (va_AOA.use hover) harr (g := F0 m pc ls (.int k :: .int n :: rest)) rfl (by rw [hb]; exact hdg) rfl hn hk hb1 hb2 hb3 hdf hdd hcells hslots
  have ec : some cy = some comp := hcy.symm.trans fC
  cases ec
  generalize hF : Jvm.Free.Multi.fill (T.setVm vm₁) cA cy n.toNatClampNeg k.toNatClampNeg (defaultValue ty) n.toNatClampNeg = F at X' step
  have hTh : (T.setVm vm₁).heap = H := hT
  obtain ⟨f1, f2, -, -⟩ := Jvm.Free.Multi.fill_facts (T.setVm vm₁) cA cy n.toNatClampNeg k.toNatClampNeg (defaultValue ty) n.toNatClampNeg
  rw [hF, hTh] at f1 f2
  have hold : ∀ x : Nat, x < H.size → F.heap[x]? = H[x]? := fun x hx => by
    have := Jvm.Free.Multi.fill_old (T.setVm vm₁) cA cy n.toNatClampNeg k.toNatClampNeg (defaultValue ty) (a := x) (by rw [hTh]; exact hx) n.toNatClampNeg
    rw [hF, hTh] at this
    exact this
  have hrow : ∀ j : Nat, j < n.toNatClampNeg → F.heap[H.size + 1 + j]? = some (vp_cell cy z) := fun j hj => by
    have := Jvm.Free.Multi.fill_inner (T.setVm vm₁) cA cy n.toNatClampNeg k.toNatClampNeg (defaultValue ty) n.toNatClampNeg j hj
    rw [hF, hTh, hz] at this
    exact this
  have hout : Jvm.Free.Multi.outerC cA n.toNatClampNeg H.size n.toNatClampNeg = vp_cell cA (n.toNatClampNeg, .inr (.inr (.inr (.inr (fun i => if i < n.toNatClampNeg then some (H.size + 1 + i) else none))))) := by
    rw [vp_cell_q]
    exact vr_outer cA n.toNatClampNeg H.size n.toNatClampNeg
  rw [hout] at f2
  have hlt : ∀ a, a ∈ L → a < H.size := fun a ha => by
    obtain ⟨k9, hk9⟩ := va_pl_get (X := X) (f := f) ha
    exact (hP k9 _ hk9).lt
  have hnl : ∀ i : Nat, i < n.toNatClampNeg → H.size + 1 + i ∉ L := fun i _ h => by
    have := hlt _ h
    omega
  have hnm : ∀ a, a ∈ (List.range n.toNatClampNeg).map (fun i => H.size + 1 + i) → a ∉ L := fun a ha h => by
    obtain ⟨i, -, rfl⟩ := List.mem_map.mp ha
    have := hlt _ h
    omega
  have hP0 : va_P D cl (X ++ va_pl L f) F.heap := hP.kept (fun k9 x hx => hold x.1 ((hP k9 x hx).lt))
  have hP1 : va_P D cl ((X ++ va_pl L f) ++ [(H.size, .inl (cA, n.toNatClampNeg, .inr (.inr (.inr (.inr (fun i => if i < n.toNatClampNeg then some (H.size + 1 + i) else none))))))]) F.heap := hP0.app (fun k9 x hx => by
    have h0 : k9 < 1 := (List.getElem?_eq_some_iff.mp hx).1
    rw [show k9 = 0 by omega] at hx
    cases hx
    exact f2)
  have hP2 : va_P D cl (((X ++ va_pl L f) ++ [(H.size, .inl (cA, n.toNatClampNeg, .inr (.inr (.inr (.inr (fun i => if i < n.toNatClampNeg then some (H.size + 1 + i) else none))))))]) ++ ((List.range n.toNatClampNeg).map (fun i => H.size + 1 + i)).map (fun a => (a, .inl (cy, z)))) F.heap := hP1.app (fun k9 x hx => by
    obtain ⟨a, ha, rfl⟩ := List.mem_map.mp (List.mem_of_getElem? hx)
    obtain ⟨i, hi, rfl⟩ := List.mem_map.mp ha
    exact hrow i (List.mem_range.mp hi))
  have hD2 : va_D A (((X ++ va_pl L f) ++ [(H.size, .inl (cA, n.toNatClampNeg, .inr (.inr (.inr (.inr (fun i => if i < n.toNatClampNeg then some (H.size + 1 + i) else none))))))]) ++ ((List.range n.toNatClampNeg).map (fun i => H.size + 1 + i)).map (fun a => (a, .inl (cy, z)))) := by
    have hD1 := hD.push (e := .inl (cA, n.toNatClampNeg, .inr (.inr (.inr (.inr (fun i => if i < n.toNatClampNeg then some (H.size + 1 + i) else none)))))) hP rfl (hA _ hS.1)
    generalize hW1 : (X ++ va_pl L f) ++ [(H.size, .inl (cA, n.toNatClampNeg, .inr (.inr (.inr (.inr (fun i => if i < n.toNatClampNeg then some (H.size + 1 + i) else none))))))] = W1 at hD1 hP1 ⊢
    have hle : ∀ (k9 : Nat) (x : Nat × va_E), W1[k9]? = some x → x.1 ≤ H.size := fun k9 x hx => by
      rw [← hW1] at hx
      by_cases hl : k9 < (X ++ va_pl L f).length
      · rw [List.getElem?_append_left hl] at hx
        exact Nat.le_of_lt ((hP k9 x hx).lt)
      · rw [List.getElem?_append_right (by omega)] at hx
        have h0 : k9 - (X ++ va_pl L f).length < 1 := (List.getElem?_eq_some_iff.mp hx).1
        rw [show k9 - (X ++ va_pl L f).length = 0 by omega] at hx
        cases hx
        exact Nat.le_refl _
    have hr : ∀ (k9 : Nat) (x : Nat × va_E), (((List.range n.toNatClampNeg).map (fun i => H.size + 1 + i)).map (fun a => ((a, .inl (cy, z)) : Nat × va_E)))[k9]? = some x → x.1 = H.size + 1 + k9 := fun k9 x hx => by
      rw [List.getElem?_map, List.getElem?_map] at hx
      by_cases h9 : k9 < n.toNatClampNeg
      · rw [List.getElem?_range h9] at hx
        cases hx
        rfl
      · have hn0 : (List.range n.toNatClampNeg)[k9]? = none := List.getElem?_eq_none (by rw [List.length_range]; omega)
        rw [hn0] at hx
        cases hx
    refine ⟨fun i j x y hi hj hxy => ?_, fun k9 x hx => ?_⟩
    · by_cases h1 : i < W1.length <;> by_cases h2 : j < W1.length
      · rw [List.getElem?_append_left h1] at hi
        rw [List.getElem?_append_left h2] at hj
        exact hD1.1 i j x y hi hj hxy
      · rw [List.getElem?_append_left h1] at hi
        rw [List.getElem?_append_right (by omega)] at hj
        have := hle _ _ hi
        have := hr _ _ hj
        omega
      · rw [List.getElem?_append_right (by omega)] at hi
        rw [List.getElem?_append_left h2] at hj
        have := hle _ _ hj
        have := hr _ _ hi
        omega
      · rw [List.getElem?_append_right (by omega)] at hi hj
        have := hr _ _ hi
        have := hr _ _ hj
        omega
    · by_cases h1 : k9 < W1.length
      · rw [List.getElem?_append_left h1] at hx
        exact hD1.2 k9 x hx
      · rw [List.getElem?_append_right (by omega)] at hx
        have := hr _ _ hx
        exact hA _ (by have := hS.1; omega)
  have hAr : ArrOfT s cA (.array ty) := fun N9 z9 => by
    obtain ⟨-, k9, hk9, cm9, hkk9⟩ := (hO 0 0 0).1
    exact ⟨(fun q hq => by cases hq), k9, hk9, cm9, hkk9⟩
  have hK2 : va_K D cl (tys ++ [(cA, .array ty)]) s := ⟨hK.1, fun k9 x hx => by
    by_cases hl : k9 < tys.length
    · rw [List.getElem?_append_left hl] at hx
      exact hK.2 k9 x hx
    · rw [List.getElem?_append_right (by omega)] at hx
      have h0 : k9 - tys.length < 1 := (List.getElem?_eq_some_iff.mp hx).1
      rw [show k9 - tys.length = 0 by omega] at hx
      cases hx
      exact ⟨hAr, fA⟩⟩
  obtain ⟨t, a1, b1⟩ := kk H.size (fun i => H.size + 1 + i) cA F.heap (fun i j _ _ h => by have h9 : H.size + 1 + i = H.size + 1 + j := h; omega) hnl hK2 (by rw [← vr_rows hnm]; exact vr_lay hP2) (by rw [← vr_rows hnm]; exact vr_layD hD2) ⟨by rw [f1]; have := hS.1; omega, fun x h1 h2 => (hold x (Nat.lt_of_lt_of_le h1 hS.1)).trans (hS.2.1 x h1 h2), hS.2.2⟩ F rfl X'
  refine ⟨t, step t ?_, b1⟩
  have e : T.heap.size = H.size := by rw [hT]
  rw [e]
  exact a1
end VGM
/-! ===== END ===== -/

/-! ===== BEGIN exceptions that leave a method, and their catching by the caller (launches without stack traces) ===== -/
section VXA
/-! The laws vx_back, vx_callV, vx_callS, vx_callSW, vx_throw0, vx_throwS follow proofs of the library, with one case more: JvmDerived/Free/Laws.lean (Back.of_free), Shelf42/LK1.lean (callV, callS), Shelf/KitTraced.lean (throwNew0V, throwNewS). -/
/-- where a method has thrown q: the class by its name, the cell, what was written, the world -/
def vx_T (XC : String → State → State → Prop) (st : State) (q : Addr) (t : State) (mc ms : Nat) (free : Addr → Prop) : Prop :=
  ∃ (E : String) (ce : Cell) (L : List Loc), XC E st t ∧ t.heap[q]? = some ce ∧ ce.vm = .none ∧ st.vm.findClass E = some ce.cls ∧ st.WarmedH t.vm ∧ st.sameButNew ({ t with vm := st.vm } : State) L mc ms ∧ ∀ z ∈ L, free z.base
def vx_Q (Qc : Array Value → State → Outcome → State → Prop) (XC : String → State → State → Prop) (mc ms : Nat) (free : Addr → Prop) : Array Value → State → Outcome → State → Prop := fun a st o t =>
  (Qc a st o t ∧ ∃ L, FrameEnd st o t L mc ms ∧ ∀ q ∈ L, free q.base) ∨ ∃ q, o = .threw q ∧ vx_T XC st q t mc ms free
/-- a callee that returns or throws -/
def vx_Met (l : Launch) (y : MethodName) (ws : List Cond) (rm : Room) (Pc : Array Value → State → Prop) (Qc : Array Value → State → Outcome → State → Prop) (XC : String → State → State → Prop) (mc ms : Nat) (free : Addr → Prop) : Prop :=
  MetFree l y (headSpec ws rm) Pc (fun _ _ _ _ _ => True) (vx_Q Qc XC mc ms free)
def vx_Post (XC : String → State → State → Prop) (mc ms : Nat) (free : Addr → Prop) : Pt → Array Value → Addr → Pt → Prop := fun A a q B =>
  ∃ (g : JFrame) (mk : MethodId) (t : State) (L : List Loc) (E : String) (ce : Cell), B.U.heap = t.heap ∧ B.U.vm = t.vm ∧ XC E (A.U.calling g mk a) t ∧ t.heap[q]? = some ce ∧ ce.vm = .none ∧ A.U.vm.findClass E = some ce.cls ∧ B.locs = A.locs ++ L ∧ (∀ z ∈ L, free z.base) ∧ B.cells = A.cells + mc ∧ B.slots = A.slots + ms
def vx_Back (l : Launch) (R : Room) (p : Program) (e : Env) (below : List Frame) (s : State) (sargs : Array Value) (y : MethodName) (len W9 : Nat)
    (Pre : Pt → Array Value → Prop) (Post : Pt → Array Value → Option Value → Pt → Prop) (PostX : Pt → Array Value → Addr → Pt → Prop) : Prop :=
  ∀ (m : MethodId) (meth : Method) (c : Code) (A : Pt) (g : JFrame) (ig : Instr) (mk : MethodId) (a : Array Value),
    Stand p l e R s m sargs below meth c A.U A.locs A.cells A.slots → g.method = m → g.locals.size = c.maxLocals → decode c.code g.pc = .ok (ig, len) →
    2 * g.monitorRoom + (g.stack.map fun v => v.category).sum ≤ W9 → A.U.methodNamed? y = some mk → Pre A a →
    (∃ (v : Option Value) (B : Pt), Stand p l e R s m sargs below meth c B.U B.locs B.cells B.slots ∧ Post A a v B ∧
      Steps p.tables e below (doInvoke e (A.U.setTop g) [] mk a).1 (B.U.setTop { g with pc := g.pc + len, stack := v.toList ++ g.stack })) ∨
    (∃ (q : Addr) (B : Pt), Stand p l e R s m sargs below meth c B.U B.locs B.cells B.slots ∧ PostX A a q B ∧
      Steps p.tables e below (doInvoke e (A.U.setTop g) [] mk a).1 ((B.U.setTop g).pushFrame (.throwing q)))
section Payer
variable {l : Launch} {R : Room} {p : Program} {e : Env} {below : List Frame} {s : State} {sargs : Array Value} {y : MethodName} {len W9 : Nat}
theorem vx_back {ws : List Cond} {rm : Room} {Pc : Array Value → State → Prop} {Qc : Array Value → State → Outcome → State → Prop} {XC : String → State → State → Prop} {mc ms : Nat} {free : Addr → Prop} {bytes : ByteArray} {maxL : Nat} {ret : Option FieldType}
    (hM : vx_Met l y ws rm Pc Qc XC mc ms free) (hblind : FrameBlind Pc) (hrc : rm.cells = mc) (hrs : rm.slots = ms)
    (hframes : rm.frames + 1 ≤ R.frames) (hlocals : W9 + (maxL + 11) + rm.locals ≤ R.locals)
    (hws : ∀ w ∈ ws, ∀ a' U, s.WarmedH U.vm → w.before a' U = true) (hcode : Cond.code y bytes maxL ret ∈ ws) (hinit : ∀ a' U, s.WarmedH U.vm → (Cond.initialized y.cls).before a' U = true) :
    vx_Back l R p e below s sargs y len W9 (PreOf R mc ms Pc) (PostOf Qc mc ms free) (vx_Post XC mc ms free) := by
  intro m meth c A g ig mk a X hg hsize hdg hW hn hp
  have h1 : (headSpec ws rm).pre.before a A.U = true := atoms_intro fun w hw => hws w hw _ _ X.warmed
  have h2 : (Cond.code y bytes maxL ret).before a A.U = true := hws _ hcode _ _ X.warmed
  have h3 : (Cond.initialized y.cls).before a A.U = true := hinit _ _ X.warmed
  have h4 : A.cells + (headSpec ws rm).room.cells ≤ R.cells := by rw [show (headSpec ws rm).room.cells = mc from hrc]; exact hp.1
  have h5 : A.slots + (headSpec ws rm).room.slots ≤ R.slots := by rw [show (headSpec ws rm).room.slots = ms from hrs]; exact hp.2.1
  have hPc : Pc a (A.U.calling g mk a) := hblind _ _ _ _ hp.2.2
  obtain ⟨U, Ls, c0, s0⟩ := A
  dsimp only [Pt.U, Pt.locs, Pt.cells, Pt.slots] at h1 h2 h3 h4 h5 X hn hPc ⊢
  obtain ⟨methY, cY, hmY, hcY, -, hlY, -, -, -, -⟩ := Cond.code_spec hn h2
  obtain ⟨kY, hkY, -⟩ := className_of_methodNamed hn
  have hinitY : kY.init = .initialized := Cond.initialized_spec (findClass_of_methodNamed hn) hkY h3
  have h : At U g.method c below := by rw [hg]; exact X.here
  have hlocals9 : W9 + (maxL + 11) + (headSpec ws rm).room.locals ≤ R.locals := hlocals
  have happ : (headSpec ws rm).appliesLoose y e.platform (U.calling g mk a) = true :=
    Spec.appliesLoose_calling (g := g) h hdg hn hkY hinitY
      (X.room_calling (g := g) (R' := (headSpec ws rm).room) hsize hmY hcY hframes (by rw [hlY]; omega) h4 h5) h1
  obtain ⟨mid, hmid⟩ := h.above
  have hfr : (U.setTop g).frames = (.java g :: mid) ++ below := by rw [State.frames_setTop' g h.top, hmid]; rfl
  obtain ⟨o, s₂, hsteps, -, hend, hq⟩ := Steps.callFree hM p X.admits X.cas X.clock (acts := []) hfr happ hPc trivial
  have hq' : vx_Q Qc XC mc ms free a (U.calling g mk a) o s₂ := hq
  rw [State.frames_setTop' g h.top] at hend
  obtain ⟨g₀, hg0⟩ := Option.isSome_iff_exists.mp h.top
  obtain ⟨r, hr⟩ := State.topJava?_eq_some.mp hg0
  have hr' : (({ U with heap := s₂.heap, slotsUsed := s₂.slotsUsed } : State).setVm s₂.vm).frames = .java g₀ :: r := hr
  rcases hq' with ⟨hqc, L, hfe, hL⟩ | ⟨q, rfl, E, ce, L, hx, hce, hcv, hcl, hW₂, hsm, hL⟩
  · obtain ⟨⟨v, rfl⟩, hW₂, e2, q2, q3, q4, q5, q6⟩ := id hfe
    have e3 : s₂ = ({ (U.calling g mk a).setFrames s₂.frames with heap := s₂.heap, slotsUsed := s₂.slotsUsed } : State).setVm s₂.vm := by
      have : s₂ = ({ s₂ with vm := (U.calling g mk a).vm } : State).setVm s₂.vm := rfl
      rw [e2] at this
      exact this
    obtain ⟨c₂, i₂, len₂, hc₂, hd₂, hf₂⟩ := hend
    have hW' : U.WarmedH s₂.vm := hW₂
    have hcc : c₂ = c := by
      have h1 : s₂.code? g.method = U.code? g.method := by
        rw [State.code?_eq, State.code?_eq, hW'.alike.method?]
      exact Option.some.inj (hc₂.symm.trans (h1.trans h.code))
    subst hcc
    have hlen : len₂ = len := by rw [hdg] at hd₂; cases hd₂; rfl
    subst hlen
    have hs₂ : s₂ = (({ U with heap := s₂.heap, slotsUsed := s₂.slotsUsed } : State).setVm s₂.vm).setTop { g with pc := g.pc + len₂, stack := v.toList ++ g.stack } := by
      refine e3.trans ?_
      rw [hf₂, State.calling_eq h.top, State.setFrames_setFrames, State.setTop_of_frames _ hr', hr]
      rfl
    have hsame : U.sameButNew ({ U with heap := s₂.heap, slotsUsed := s₂.slotsUsed } : State) L mc ms := by
      refine ⟨?_, q2, q3, q4, q5, q6⟩
      obtain ⟨t, ht, -⟩ := State.frames_cons hr
      show ({ U with heap := s₂.heap, slotsUsed := s₂.slotsUsed } : State) = { U.setFrames U.frames with heap := s₂.heap, slotsUsed := s₂.slotsUsed }
      rw [State.setFrames_self ht]
    subst hg
    refine Or.inl ⟨v, ⟨(({ U with heap := s₂.heap, slotsUsed := s₂.slotsUsed } : State).setVm s₂.vm), Ls ++ L, c0 + mc, s0 + ms⟩,
      ⟨X.admits, X.cas, X.clock, X.frames, X.room, X.hears, X.method, X.code, (X.here.setHeapUsed s₂.heap s₂.slotsUsed).setVm hW'.alike, X.tail, State.WarmedH.trans X.warmed hW', X.limits, X.bytes, X.same.trans (hsame.setVm s.vm)⟩,
      ⟨g, mk, s₂, L, rfl, rfl, hqc, rfl, hL, rfl, rfl⟩, ?_⟩
    show Steps p.tables e below _ ((({ U with heap := s₂.heap, slotsUsed := s₂.slotsUsed } : State).setVm s₂.vm).setTop { g with pc := g.pc + len₂, stack := v.toList ++ g.stack })
    rw [← hs₂]
    exact hsteps
  · obtain ⟨e2, q2, q3, q4, q5, q6⟩ := id hsm
    have e3 : s₂ = ({ (U.calling g mk a).setFrames s₂.frames with heap := s₂.heap, slotsUsed := s₂.slotsUsed } : State).setVm s₂.vm := by
      have : s₂ = ({ s₂ with vm := (U.calling g mk a).vm } : State).setVm s₂.vm := rfl
      rw [e2] at this
      exact this
    have hf₂ : s₂.frames = .throwing q :: .java g :: U.frames.tail := hend
    have hW' : U.WarmedH s₂.vm := hW₂
    have hs₂ : s₂ = ((({ U with heap := s₂.heap, slotsUsed := s₂.slotsUsed } : State).setVm s₂.vm).setTop g).pushFrame (.throwing q) := by
      refine e3.trans ?_
      rw [hf₂, State.calling_eq h.top, State.setFrames_setFrames, State.pushFrame, State.frames_setTop _ hr', State.setTop_of_frames _ hr', State.setFrames_setFrames, hr]
      rfl
    have hsame : U.sameButNew ({ U with heap := s₂.heap, slotsUsed := s₂.slotsUsed } : State) L mc ms := by
      refine ⟨?_, q2, q3, q4, q5, q6⟩
      obtain ⟨t, ht, -⟩ := State.frames_cons hr
      show ({ U with heap := s₂.heap, slotsUsed := s₂.slotsUsed } : State) = { U.setFrames U.frames with heap := s₂.heap, slotsUsed := s₂.slotsUsed }
      rw [State.setFrames_self ht]
    subst hg
    refine Or.inr ⟨q, ⟨(({ U with heap := s₂.heap, slotsUsed := s₂.slotsUsed } : State).setVm s₂.vm), Ls ++ L, c0 + mc, s0 + ms⟩,
      ⟨X.admits, X.cas, X.clock, X.frames, X.room, X.hears, X.method, X.code, (X.here.setHeapUsed s₂.heap s₂.slotsUsed).setVm hW'.alike, X.tail, State.WarmedH.trans X.warmed hW', X.limits, X.bytes, X.same.trans (hsame.setVm s.vm)⟩,
      ⟨g, mk, s₂, L, E, ce, rfl, rfl, hx, hce, hcv, hcl, rfl, hL, rfl, rfl⟩, ?_⟩
    show Steps p.tables e below _ (((({ U with heap := s₂.heap, slotsUsed := s₂.slotsUsed } : State).setVm s₂.vm).setTop g).pushFrame (.throwing q))
    rw [← hs₂]
    exact hsteps
end Payer
section Calls
variable {p : Program} {l : Launch} {e : Env} {R : Room} {s : State} {m : MethodId} {args : Array Value} {below : List Frame} {meth : Method} {c : Code} {T : State} {locs : List Loc} {cells slots : Nat}
theorem vx_callV (X : Stand p l e R s m args below meth c T locs cells slots) (hexec : p.tables.exec = Jvm.exec) {own C : String} {index : Nat} {y : MethodName} {bytes : ByteArray} {maxL : Nat} {ret : Option FieldType}
    (hown : s.vm.findClass own = some m.cls) (hlink : (Cond.methodLink own index y).before args s = true) (hinst : (Cond.instanceMethod y).before args s = true) (hsel : (Cond.selects C y y).before args s = true)
    (hcode : (Cond.code y bytes maxL ret).before args s = true) (hy : y.cls ≠ "java/lang/invoke/MethodHandle" ∧ y.cls ≠ "java/lang/invoke/VarHandle")
    {W9 : Nat} {Pre : Pt → Array Value → Prop} {Post : Pt → Array Value → Option Value → Pt → Prop} {PostX : Pt → Array Value → Addr → Pt → Prop} (hK : vx_Back l R p e below s args y 3 W9 Pre Post PostX)
    {b : Addr} {cellB : Cell} (hcell : T.heap[b]? = some cellB) (hobj : cellB.vm.isStatics = false) (hcls : s.vm.findClass C = some cellB.cls)
    {g : JFrame} (hg : g.method = m) (hsize : g.locals.size = c.maxLocals) {argsL rest : List Value} (hlen : ∀ sig, parseMethodDescriptor y.desc = some sig → argsL.length = sig.parameters.length)
    (hstack : g.stack = argsL.reverse ++ .ref b :: rest) (hW : 2 * g.monitorRoom + (rest.map fun v => v.category).sum ≤ W9) (hdg : decode c.code g.pc = .ok (.invokevirtual index, 3))
    (hpre : ∀ vm₁, s.WarmedH vm₁ → Pre ⟨T.setVm vm₁, locs, cells, slots⟩ (Value.ref b :: argsL).toArray) :
    (∃ (v : Option Value) (vm₁ : Vm) (B : Pt), s.WarmedH vm₁ ∧ Stand p l e R s m args below meth c B.U B.locs B.cells B.slots ∧ Post ⟨T.setVm vm₁, locs, cells, slots⟩ (Value.ref b :: argsL).toArray v B ∧
      ∀ target, Steps p.tables e below (B.U.setTop { g with pc := g.pc + 3, stack := v.toList ++ rest }) target → Steps p.tables e below (T.setTop g) target) ∨
    (∃ (q : Addr) (vm₁ : Vm) (B : Pt), s.WarmedH vm₁ ∧ Stand p l e R s m args below meth c B.U B.locs B.cells B.slots ∧ PostX ⟨T.setVm vm₁, locs, cells, slots⟩ (Value.ref b :: argsL).toArray q B ∧
      Steps p.tables e below (T.setTop g) ((B.U.setTop { g with stack := rest }).pushFrame (.throwing q))) := by
  obtain ⟨mk, methM, hnamed, hmethM, hstM, habM⟩ := Cond.instanceMethod_spec hinst
  obtain ⟨methM', cM, hmethM', -, -, -, -, -, -, hsigM⟩ := Cond.code_spec hnamed hcode
  cases hmethM.symm.trans hmethM'
  obtain ⟨c2, r2, m2, q1, q2, q3, q4, kP, hkP, hkPi⟩ := Cond.selects_spec hsel
  cases hcls.symm.trans q1
  cases (State.methodFound?_of_named hnamed hy).symm.trans q2
  cases hnamed.symm.trans q3
  have hselP : selectMethod e.platform s.vm cellB.cls mk = .method mk := by rw [Launch.admits_selectMethod X.admits]; exact q4
  obtain ⟨vm₁, X₁, hstep₁⟩ := X.invokevirtual hexec hown hlink hnamed hmethM hstM hkP hkPi hy (a := b) (cell := cellB) hcell
    (fun z h => by rw [h] at hobj; cases hobj) hselP hmethM habM hkP hkPi (g := g) hg (argsL := argsL) (rest := rest) (hlen _ hsigM) hstack hdg
  rcases hK m meth c ⟨T.setVm vm₁, locs, cells, slots⟩ { g with stack := rest } (.invokevirtual index) mk (Value.ref b :: argsL).toArray X₁ hg hsize hdg hW (X₁.named hnamed) (hpre vm₁ X₁.warmed) with ⟨v, B, X', hpost, hsteps⟩ | ⟨q, B, X', hpost, hsteps⟩
  · exact Or.inl ⟨v, vm₁, B, X₁.warmed, X', hpost, fun target h => hstep₁ _ fun acts => by rw [doInvoke_state]; exact hsteps.trans h⟩
  · exact Or.inr ⟨q, vm₁, B, X₁.warmed, X', hpost, hstep₁ _ fun acts => by rw [doInvoke_state]; exact hsteps⟩
theorem vx_callS (X : Stand p l e R s m args below meth c T locs cells slots) (hexec : p.tables.exec = Jvm.exec) {own : String} {index : Nat} {y : MethodName} {bytes : ByteArray} {maxL : Nat} {ret : Option FieldType}
    (hown : s.vm.findClass own = some m.cls) (hlink : (Cond.methodLink own index y).before args s = true) (hstat : (Cond.static y).before args s = true) (hinit : (Cond.initialized y.cls).before args s = true)
    (hcode : (Cond.code y bytes maxL ret).before args s = true) (hy : y.cls ≠ "java/lang/invoke/MethodHandle" ∧ y.cls ≠ "java/lang/invoke/VarHandle")
    {W9 : Nat} {Pre : Pt → Array Value → Prop} {Post : Pt → Array Value → Option Value → Pt → Prop} {PostX : Pt → Array Value → Addr → Pt → Prop} (hK : vx_Back l R p e below s args y 3 W9 Pre Post PostX)
    {g : JFrame} (hg : g.method = m) (hsize : g.locals.size = c.maxLocals) {argsL rest : List Value} (hlen : ∀ sig, parseMethodDescriptor y.desc = some sig → argsL.length = sig.parameters.length)
    (hstack : g.stack = argsL.reverse ++ rest) (hW : 2 * g.monitorRoom + (rest.map fun v => v.category).sum ≤ W9) (hdg : decode c.code g.pc = .ok (.invokestatic index, 3))
    (hpre : ∀ vm₁, s.WarmedH vm₁ → Pre ⟨T.setVm vm₁, locs, cells, slots⟩ argsL.toArray) :
    (∃ (v : Option Value) (vm₁ : Vm) (B : Pt), s.WarmedH vm₁ ∧ Stand p l e R s m args below meth c B.U B.locs B.cells B.slots ∧ Post ⟨T.setVm vm₁, locs, cells, slots⟩ argsL.toArray v B ∧
      ∀ target, Steps p.tables e below (B.U.setTop { g with pc := g.pc + 3, stack := v.toList ++ rest }) target → Steps p.tables e below (T.setTop g) target) ∨
    (∃ (q : Addr) (vm₁ : Vm) (B : Pt), s.WarmedH vm₁ ∧ Stand p l e R s m args below meth c B.U B.locs B.cells B.slots ∧ PostX ⟨T.setVm vm₁, locs, cells, slots⟩ argsL.toArray q B ∧
      Steps p.tables e below (T.setTop g) ((B.U.setTop { g with stack := rest }).pushFrame (.throwing q))) := by
  obtain ⟨mk, hnamed⟩ := Cond.code_named hcode
  obtain ⟨methM, cM, hmethM, -, -, -, -, -, -, hsigM⟩ := Cond.code_spec hnamed hcode
  have hstatic : methM.isStatic = true := Cond.static_spec hnamed hmethM hstat
  obtain ⟨kP, hkP, -⟩ := className_of_methodNamed hnamed
  have hinitP : kP.init = .initialized := Cond.initialized_spec (findClass_of_methodNamed hnamed) hkP hinit
  obtain ⟨vm₁, X₁, hstep₁⟩ := X.invokestatic hexec hown hlink hnamed hmethM hstatic hkP hinitP hy (g := g) hg (argsL := argsL) (rest := rest) (hlen _ hsigM) hstack hdg
  rcases hK m meth c ⟨T.setVm vm₁, locs, cells, slots⟩ { g with stack := rest } (.invokestatic index) mk argsL.toArray X₁ hg hsize hdg hW (X₁.named hnamed) (hpre vm₁ X₁.warmed) with ⟨v, B, X', hpost, hsteps⟩ | ⟨q, B, X', hpost, hsteps⟩
  · exact Or.inl ⟨v, vm₁, B, X₁.warmed, X', hpost, fun target h => hstep₁ _ fun acts => by rw [doInvoke_state]; exact hsteps.trans h⟩
  · exact Or.inr ⟨q, vm₁, B, X₁.warmed, X', hpost, hstep₁ _ fun acts => by rw [doInvoke_state]; exact hsteps⟩
end Calls
theorem vx_cls {s : State} {T : State} {vm₁ : Vm} {E : String} {k : ClassId} (hW : s.WarmedH vm₁) (h : (T.setVm vm₁).vm.findClass E = some k) : s.vm.findClass E = some k := by
  have h1 : vm₁.findClass E = some k := h
  rw [hW.alike.findClass] at h1
  exact h1
/-- the method's frame g, with q thrown over it -/
def vx_W (p : Program) (l : Launch) (e : Env) (R : Room) (s : State) (m : MethodId) (args : Array Value) (below : List Frame) (meth : Method) (c : Code) (H : Heap) (locs : List Loc) (cells slots : Nat) (Q : State → Prop) (g : JFrame) (q : Addr) : Prop :=
  ∀ T : State, T.heap = H → Stand p l e R s m args below meth c T locs cells slots → ∃ t, Steps p.tables e below ((T.setTop g).pushFrame (.throwing q)) t ∧ Q t
def vx_Run (p : Program) (l : Launch) (e : Env) (R : Room) (s : State) (m : MethodId) (args : Array Value) (below : List Frame) (meth : Method) (c : Code) (H : Heap) (locs : List Loc) (cells slots mc ms : Nat) (g : JFrame) (rest : List Value) (Qa : State → Outcome → State → Prop) (XC : String → State → State → Prop) (free : Addr → Prop) : Prop :=
  ∀ T : State, T.heap = H → Stand p l e R s m args below meth c T locs cells slots →
    (∃ (v : Option Value) (st₀ t T' : State) (L : List Loc), st₀.heap = H ∧ Stand p l e R s m args below meth c T' (locs ++ L) (cells + mc) (slots + ms) ∧ (∀ q ∈ L, free q.base) ∧ T'.heap = t.heap ∧ T'.vm = t.vm ∧ Qa st₀ (.returned v) t ∧
      Goes p e below T g T' { g with pc := g.pc + 3, stack := v.toList ++ rest }) ∨
    (∃ (q : Addr) (st₀ t T' : State) (L : List Loc) (E : String) (ce : Cell), st₀.heap = H ∧ Stand p l e R s m args below meth c T' (locs ++ L) (cells + mc) (slots + ms) ∧ (∀ z ∈ L, free z.base) ∧ T'.heap = t.heap ∧ T'.vm = t.vm ∧ XC E st₀ t ∧ t.heap[q]? = some ce ∧ ce.vm = .none ∧ s.vm.findClass E = some ce.cls ∧
      Steps p.tables e below (T.setTop g) ((T'.setTop { g with stack := rest }).pushFrame (.throwing q)))
def vx_X {S : Type} (px : S → Prop) (B : String → S → State → Prop) (A : Nat → Prop) : String → State → State → Prop := fun E st t => ∃ u : S, px u ∧ B E u t ∧ va_F A st t
section Runs
variable {p : Program} {l : Launch} {e : Env} {R : Room} {s : State} {m : MethodId} {args : Array Value} {below : List Frame} {meth : Method} {c : Code} {H : Heap} {locs : List Loc} {cells slots : Nat}
variable {y : MethodName} {bytes cc : ByteArray} {maxL nL mc ms n index : Nat} {ret : Option FieldType} {ws : List Cond} {rm : Room} {Pc : Array Value → State → Prop} {Qc : Array Value → State → Outcome → State → Prop} {XC : String → State → State → Prop} {free : Addr → Prop} {Ts : List Cond} {own C : String} {b : Addr} {As rest : List Value} {g : JFrame}
theorem vx_callBack (cb : CallB R s args own index y bytes maxL ret ws rm mc ms n) (hM : vx_Met l y ws rm Pc Qc XC mc ms free) (hbl : FrameBlind Pc) : vx_Back l R p e below s args y 3 8 (PreOf R mc ms Pc) (PostOf Qc mc ms free) (vx_Post XC mc ms free) := by
  obtain ⟨hrc, hrs, hfr, hlo, hws, hcw, -, hini, -⟩ := cb
  exact vx_back (bytes := bytes) (maxL := maxL) (ret := ret) hM hbl hrc hrs hfr hlo hws hcw (fun a' U hW => word_at hW (Or.inl (by first | rfl | simp [Cond.onTables, Cond.keeps, Cond.steady])) hini)
theorem vx_runV (S : CallFix p m c cc nL s args Ts own) (hM : vx_Met l y ws rm Pc Qc XC mc ms free) (cw : CallW R s args own C index y bytes maxL ret ws rm mc ms n) (hp : PreV s H C b Pc As)
    (hg : g.method = m) (hn : As.length = n) (hsize : g.locals.size = nL) (hstack : g.stack = As.reverse ++ .ref b :: rest) (hW : 2 * g.monitorRoom + (rest.map fun v => v.category).sum ≤ 8) (hdg : decode cc g.pc = .ok (.invokevirtual index, 3)) (hf : cells + mc ≤ R.cells ∧ slots + ms ≤ R.slots) :
    vx_Run p l e R s m args below meth c H locs cells slots mc ms g rest (Qc (Value.ref b :: As).toArray) XC free := by
  have hK : vx_Back l R p e below s args y 3 8 (PreOf R mc ms Pc) (PostOf Qc mc ms free) (vx_Post XC mc ms free) := vx_callBack cw.1 hM hp.1
  obtain ⟨⟨-, -, -, -, -, -, hcode, -, hy, hlen, hl⟩, hin, hse⟩ := cw
  obtain ⟨hx, hb, hml, ho, -⟩ := S
  obtain ⟨-, ⟨cellB, hcB, hoB, hclB⟩, hPc⟩ := hp
  intro T hT X
  rcases vx_callV X hx (C := C) (bytes := bytes) (maxL := maxL) (ret := ret) ho hl hin hse hcode hy hK (by rw [hT]; exact hcB) hoB hclB hg (hsize.trans hml.symm) (argsL := As) (rest := rest) (fun sig h => hn.trans (hlen sig h)) hstack hW (by rw [hb]; exact hdg)
    (fun vm₁ hW₁ => ⟨hf.1, hf.2, hPc (T.setVm vm₁) hT hW₁⟩) with ⟨v, vm₁, ⟨U', l2, c2, s2⟩, hW₁, X', ⟨g', mk, t, L, e1, e2, hq, h1, hL, h2, h3⟩, st⟩ | ⟨q, vm₁, ⟨U', l2, c2, s2⟩, hW₁, X', ⟨g', mk, t, L, E, ce, e1, e2, hq, hce, hcv, hcl, h1, hL, h2, h3⟩, st⟩
  · dsimp only [Pt.U, Pt.locs, Pt.cells, Pt.slots] at X' e1 e2 h1 h2 h3 st
    subst h1; subst h2; subst h3
    exact Or.inl ⟨v, (T.setVm vm₁).calling g' mk (Value.ref b :: As).toArray, t, U', L, hT, X', hL, e1, e2, hq, st⟩
  · dsimp only [Pt.U, Pt.locs, Pt.cells, Pt.slots] at X' e1 e2 h1 h2 h3 st hcl
    subst h1; subst h2; subst h3
    exact Or.inr ⟨q, (T.setVm vm₁).calling g' mk (Value.ref b :: As).toArray, t, U', L, E, ce, hT, X', hL, e1, e2, hq, hce, hcv, vx_cls hW₁ hcl, st⟩
theorem vx_runS (S : CallFix p m c cc nL s args Ts own) (hM : vx_Met l y ws rm Pc Qc XC mc ms free) (cw : CallB R s args own index y bytes maxL ret ws rm mc ms n ∧ (Cond.static y).before args s = true) (hp : PreS s H Pc As)
    (hg : g.method = m) (hn : As.length = n) (hsize : g.locals.size = nL) (hstack : g.stack = As.reverse ++ rest) (hW : 2 * g.monitorRoom + (rest.map fun v => v.category).sum ≤ 8) (hdg : decode cc g.pc = .ok (.invokestatic index, 3)) (hf : cells + mc ≤ R.cells ∧ slots + ms ≤ R.slots) :
    vx_Run p l e R s m args below meth c H locs cells slots mc ms g rest (Qc As.toArray) XC free := by
  have hK : vx_Back l R p e below s args y 3 8 (PreOf R mc ms Pc) (PostOf Qc mc ms free) (vx_Post XC mc ms free) := vx_callBack cw.1 hM hp.1
  obtain ⟨⟨-, -, -, -, -, -, hcode, hini, hy, hlen, hl⟩, hstt⟩ := cw
  obtain ⟨hx, hb, hml, ho, -⟩ := S
  intro T hT X
  rcases vx_callS X hx (bytes := bytes) (maxL := maxL) (ret := ret) ho hl hstt hini hcode hy hK hg (hsize.trans hml.symm) (argsL := As) (rest := rest) (fun sig h => hn.trans (hlen sig h)) hstack hW (by rw [hb]; exact hdg)
    (fun vm₁ hW₁ => ⟨hf.1, hf.2, hp.2 (T.setVm vm₁) hT hW₁⟩) with ⟨v, vm₁, ⟨U', l2, c2, s2⟩, hW₁, X', ⟨g', mk, t, L, e1, e2, hq, h1, hL, h2, h3⟩, st⟩ | ⟨q, vm₁, ⟨U', l2, c2, s2⟩, hW₁, X', ⟨g', mk, t, L, E, ce, e1, e2, hq, hce, hcv, hcl, h1, hL, h2, h3⟩, st⟩
  · dsimp only [Pt.U, Pt.locs, Pt.cells, Pt.slots] at X' e1 e2 h1 h2 h3 st
    subst h1; subst h2; subst h3
    exact Or.inl ⟨v, (T.setVm vm₁).calling g' mk As.toArray, t, U', L, hT, X', hL, e1, e2, hq, st⟩
  · dsimp only [Pt.U, Pt.locs, Pt.cells, Pt.slots] at X' e1 e2 h1 h2 h3 st hcl
    subst h1; subst h2; subst h3
    exact Or.inr ⟨q, (T.setVm vm₁).calling g' mk As.toArray, t, U', L, E, ce, hT, X', hL, e1, e2, hq, hce, hcv, vx_cls hW₁ hcl, st⟩
end Runs
section Rows
variable {p : Program} {l : Launch} {e : Env} {R : Room} {s : State} {m : MethodId} {args : Array Value} {below : List Frame} {meth : Method} {c : Code} {H : Heap} {locs : List Loc} {cells slots : Nat} {Q : State → Prop}
variable {mc ms : Nat} {free : Addr → Prop} {A0 A1 : Nat → Prop} {H0 : Heap} {a : Array Value} {pc : Nat} {ls : Array Slot} {st0 rest : List Value}
theorem vx_keep {st₀ t T' : State} {L : List Loc} (h0 : st₀.heap = H) (e1 : T'.heap = t.heap) (hS : va_S A0 H0 H locs) (hA : ∀ q, q < H.size → A1 q → A0 q) (hf : ∀ q, free q → A0 q) (hL : ∀ q ∈ L, free q.base) (hF : va_F A1 st₀ t) :
    H.size ≤ T'.heap.size ∧ (∀ q : Nat, q < H.size → ¬ A1 q → T'.heap[q]? = H[q]?) ∧ va_S A0 H0 T'.heap (locs ++ L) := by
  obtain ⟨hz, hk⟩ := hF
  rw [h0] at hz hk
  exact ⟨by rw [e1]; exact hz, fun q h1 h2 => by rw [e1]; exact hk q h1 h2,
    ⟨Nat.le_trans hS.1 (by rw [e1]; exact hz), fun q h1 h2 => by rw [e1, hk q (Nat.lt_of_lt_of_le h1 hS.1) (fun z => h2 (hA q (Nat.lt_of_lt_of_le h1 hS.1) z))]; exact hS.2.1 q h1 h2, fun q hq => by
      rcases List.mem_append.mp hq with h | h
      · exact hS.2.2 q h
      · exact hf _ (hL q h)⟩⟩
theorem vx_calli {S SX : Type} {post : Int32 → S → Prop} {px : SX → Prop} {B : S → State → Prop} {BX : String → SX → State → Prop} {AX : Nat → Prop} (hr : vx_Run p l e R s m args below meth c H locs cells slots mc ms (F0 m pc ls st0) rest (va_Qi post B A1 a) (vx_X px BX AX) free) (hS : va_S A0 H0 H locs) (hA : ∀ q, q < H.size → A1 q → A0 q) (hf : ∀ q, free q → A0 q) (hAX : ∀ q, q < H.size → AX q → A0 q)
    (kx : ∀ (E : String) (ce : Cell) (q9 : Addr) (u : SX) (t : State) (H1 : Heap) (locs1 : List Loc), t.heap = H1 → s.vm.Alike t.vm → px u → BX E u t → H.size ≤ H1.size → (∀ q : Nat, q < H.size → ¬ AX q → H1[q]? = H[q]?) → va_S A0 H0 H1 locs1 → H1[q9]? = some ce → ce.vm = .none → s.vm.findClass E = some ce.cls → vx_W p l e R s m args below meth c H1 locs1 (cells + mc) (slots + ms) Q (F0 m pc ls rest) q9)
    (kk : ∀ (r : Int32) (u : S) (t : State) (H1 : Heap) (locs1 : List Loc), t.heap = H1 → s.vm.Alike t.vm → post r u → B u t → H.size ≤ H1.size → (∀ q : Nat, q < H.size → ¬ A1 q → H1[q]? = H[q]?) → va_S A0 H0 H1 locs1 → W p l e R s m args below meth c H1 locs1 (cells + mc) (slots + ms) Q (F0 m (pc + 3) ls (.int r :: rest))) : W p l e R s m args below meth c H locs cells slots Q (F0 m pc ls st0) := by
  intro T hT X
  rcases hr T hT X with ⟨v, st₀, t, T', L, h0, X', hL, e1, e2, ⟨⟨r, u, hv, hp, hb⟩, hF⟩, st⟩ | ⟨q, st₀, t, T', L, E, ce, h0, X', hL, e1, e2, ⟨u, hp, hb, hF⟩, hce, hcv, hcl, st⟩
  · cases hv
    obtain ⟨k1, k2, k3⟩ := vx_keep h0 e1 hS hA hf hL hF
    obtain ⟨t2, a1, b1⟩ := kk r u t T'.heap (locs ++ L) e1.symm (by rw [← e2]; exact X'.warmed.alike) hp hb k1 k2 k3 T' rfl X'
    exact ⟨t2, st t2 a1, b1⟩
  · obtain ⟨k1, k2, k3⟩ := vx_keep h0 e1 hS hAX hf hL hF
    obtain ⟨t2, a1, b1⟩ := kx E ce q u t T'.heap (locs ++ L) e1.symm (by rw [← e2]; exact X'.warmed.alike) hp hb k1 k2 k3 (by rw [e1]; exact hce) hcv hcl T' rfl X'
    exact ⟨t2, st.trans a1, b1⟩
theorem vx_calll {S SX : Type} {post : Int64 → S → Prop} {px : SX → Prop} {B : S → State → Prop} {BX : String → SX → State → Prop} {AX : Nat → Prop} (hr : vx_Run p l e R s m args below meth c H locs cells slots mc ms (F0 m pc ls st0) rest (va_Ql post B A1 a) (vx_X px BX AX) free) (hS : va_S A0 H0 H locs) (hA : ∀ q, q < H.size → A1 q → A0 q) (hf : ∀ q, free q → A0 q) (hAX : ∀ q, q < H.size → AX q → A0 q)
    (kx : ∀ (E : String) (ce : Cell) (q9 : Addr) (u : SX) (t : State) (H1 : Heap) (locs1 : List Loc), t.heap = H1 → s.vm.Alike t.vm → px u → BX E u t → H.size ≤ H1.size → (∀ q : Nat, q < H.size → ¬ AX q → H1[q]? = H[q]?) → va_S A0 H0 H1 locs1 → H1[q9]? = some ce → ce.vm = .none → s.vm.findClass E = some ce.cls → vx_W p l e R s m args below meth c H1 locs1 (cells + mc) (slots + ms) Q (F0 m pc ls rest) q9)
    (kk : ∀ (r : Int64) (u : S) (t : State) (H1 : Heap) (locs1 : List Loc), t.heap = H1 → s.vm.Alike t.vm → post r u → B u t → H.size ≤ H1.size → (∀ q : Nat, q < H.size → ¬ A1 q → H1[q]? = H[q]?) → va_S A0 H0 H1 locs1 → W p l e R s m args below meth c H1 locs1 (cells + mc) (slots + ms) Q (F0 m (pc + 3) ls (.long r :: rest))) : W p l e R s m args below meth c H locs cells slots Q (F0 m pc ls st0) := by
  intro T hT X
  rcases hr T hT X with ⟨v, st₀, t, T', L, h0, X', hL, e1, e2, ⟨⟨r, u, hv, hp, hb⟩, hF⟩, st⟩ | ⟨q, st₀, t, T', L, E, ce, h0, X', hL, e1, e2, ⟨u, hp, hb, hF⟩, hce, hcv, hcl, st⟩
  · cases hv
    obtain ⟨k1, k2, k3⟩ := vx_keep h0 e1 hS hA hf hL hF
    obtain ⟨t2, a1, b1⟩ := kk r u t T'.heap (locs ++ L) e1.symm (by rw [← e2]; exact X'.warmed.alike) hp hb k1 k2 k3 T' rfl X'
    exact ⟨t2, st t2 a1, b1⟩
  · obtain ⟨k1, k2, k3⟩ := vx_keep h0 e1 hS hAX hf hL hF
    obtain ⟨t2, a1, b1⟩ := kx E ce q u t T'.heap (locs ++ L) e1.symm (by rw [← e2]; exact X'.warmed.alike) hp hb k1 k2 k3 (by rw [e1]; exact hce) hcv hcl T' rfl X'
    exact ⟨t2, st.trans a1, b1⟩
theorem vx_callf {S SX : Type} {post : UInt32 → S → Prop} {px : SX → Prop} {B : S → State → Prop} {BX : String → SX → State → Prop} {AX : Nat → Prop} (hr : vx_Run p l e R s m args below meth c H locs cells slots mc ms (F0 m pc ls st0) rest (va_Qf post B A1 a) (vx_X px BX AX) free) (hS : va_S A0 H0 H locs) (hA : ∀ q, q < H.size → A1 q → A0 q) (hf : ∀ q, free q → A0 q) (hAX : ∀ q, q < H.size → AX q → A0 q)
    (kx : ∀ (E : String) (ce : Cell) (q9 : Addr) (u : SX) (t : State) (H1 : Heap) (locs1 : List Loc), t.heap = H1 → s.vm.Alike t.vm → px u → BX E u t → H.size ≤ H1.size → (∀ q : Nat, q < H.size → ¬ AX q → H1[q]? = H[q]?) → va_S A0 H0 H1 locs1 → H1[q9]? = some ce → ce.vm = .none → s.vm.findClass E = some ce.cls → vx_W p l e R s m args below meth c H1 locs1 (cells + mc) (slots + ms) Q (F0 m pc ls rest) q9)
    (kk : ∀ (r : UInt32) (u : S) (t : State) (H1 : Heap) (locs1 : List Loc), t.heap = H1 → s.vm.Alike t.vm → post r u → B u t → H.size ≤ H1.size → (∀ q : Nat, q < H.size → ¬ A1 q → H1[q]? = H[q]?) → va_S A0 H0 H1 locs1 → W p l e R s m args below meth c H1 locs1 (cells + mc) (slots + ms) Q (F0 m (pc + 3) ls (.float r :: rest))) : W p l e R s m args below meth c H locs cells slots Q (F0 m pc ls st0) := by
  intro T hT X
  rcases hr T hT X with ⟨v, st₀, t, T', L, h0, X', hL, e1, e2, ⟨⟨r, u, hv, hp, hb⟩, hF⟩, st⟩ | ⟨q, st₀, t, T', L, E, ce, h0, X', hL, e1, e2, ⟨u, hp, hb, hF⟩, hce, hcv, hcl, st⟩
  · cases hv
    obtain ⟨k1, k2, k3⟩ := vx_keep h0 e1 hS hA hf hL hF
    obtain ⟨t2, a1, b1⟩ := kk r u t T'.heap (locs ++ L) e1.symm (by rw [← e2]; exact X'.warmed.alike) hp hb k1 k2 k3 T' rfl X'
    exact ⟨t2, st t2 a1, b1⟩
  · obtain ⟨k1, k2, k3⟩ := vx_keep h0 e1 hS hAX hf hL hF
    obtain ⟨t2, a1, b1⟩ := kx E ce q u t T'.heap (locs ++ L) e1.symm (by rw [← e2]; exact X'.warmed.alike) hp hb k1 k2 k3 (by rw [e1]; exact hce) hcv hcl T' rfl X'
    exact ⟨t2, st.trans a1, b1⟩
theorem vx_calld {S SX : Type} {post : UInt64 → S → Prop} {px : SX → Prop} {B : S → State → Prop} {BX : String → SX → State → Prop} {AX : Nat → Prop} (hr : vx_Run p l e R s m args below meth c H locs cells slots mc ms (F0 m pc ls st0) rest (va_Qd post B A1 a) (vx_X px BX AX) free) (hS : va_S A0 H0 H locs) (hA : ∀ q, q < H.size → A1 q → A0 q) (hf : ∀ q, free q → A0 q) (hAX : ∀ q, q < H.size → AX q → A0 q)
    (kx : ∀ (E : String) (ce : Cell) (q9 : Addr) (u : SX) (t : State) (H1 : Heap) (locs1 : List Loc), t.heap = H1 → s.vm.Alike t.vm → px u → BX E u t → H.size ≤ H1.size → (∀ q : Nat, q < H.size → ¬ AX q → H1[q]? = H[q]?) → va_S A0 H0 H1 locs1 → H1[q9]? = some ce → ce.vm = .none → s.vm.findClass E = some ce.cls → vx_W p l e R s m args below meth c H1 locs1 (cells + mc) (slots + ms) Q (F0 m pc ls rest) q9)
    (kk : ∀ (r : UInt64) (u : S) (t : State) (H1 : Heap) (locs1 : List Loc), t.heap = H1 → s.vm.Alike t.vm → post r u → B u t → H.size ≤ H1.size → (∀ q : Nat, q < H.size → ¬ A1 q → H1[q]? = H[q]?) → va_S A0 H0 H1 locs1 → W p l e R s m args below meth c H1 locs1 (cells + mc) (slots + ms) Q (F0 m (pc + 3) ls (.double r :: rest))) : W p l e R s m args below meth c H locs cells slots Q (F0 m pc ls st0) := by
  intro T hT X
  rcases hr T hT X with ⟨v, st₀, t, T', L, h0, X', hL, e1, e2, ⟨⟨r, u, hv, hp, hb⟩, hF⟩, st⟩ | ⟨q, st₀, t, T', L, E, ce, h0, X', hL, e1, e2, ⟨u, hp, hb, hF⟩, hce, hcv, hcl, st⟩
  · cases hv
    obtain ⟨k1, k2, k3⟩ := vx_keep h0 e1 hS hA hf hL hF
    obtain ⟨t2, a1, b1⟩ := kk r u t T'.heap (locs ++ L) e1.symm (by rw [← e2]; exact X'.warmed.alike) hp hb k1 k2 k3 T' rfl X'
    exact ⟨t2, st t2 a1, b1⟩
  · obtain ⟨k1, k2, k3⟩ := vx_keep h0 e1 hS hAX hf hL hF
    obtain ⟨t2, a1, b1⟩ := kx E ce q u t T'.heap (locs ++ L) e1.symm (by rw [← e2]; exact X'.warmed.alike) hp hb k1 k2 k3 (by rw [e1]; exact hce) hcv hcl T' rfl X'
    exact ⟨t2, st.trans a1, b1⟩
theorem vx_callv {S SX : Type} {post : S → Prop} {px : SX → Prop} {B : S → State → Prop} {BX : String → SX → State → Prop} {AX : Nat → Prop} (hr : vx_Run p l e R s m args below meth c H locs cells slots mc ms (F0 m pc ls st0) rest (va_Qv post B A1 a) (vx_X px BX AX) free) (hS : va_S A0 H0 H locs) (hA : ∀ q, q < H.size → A1 q → A0 q) (hf : ∀ q, free q → A0 q) (hAX : ∀ q, q < H.size → AX q → A0 q)
    (kx : ∀ (E : String) (ce : Cell) (q9 : Addr) (u : SX) (t : State) (H1 : Heap) (locs1 : List Loc), t.heap = H1 → s.vm.Alike t.vm → px u → BX E u t → H.size ≤ H1.size → (∀ q : Nat, q < H.size → ¬ AX q → H1[q]? = H[q]?) → va_S A0 H0 H1 locs1 → H1[q9]? = some ce → ce.vm = .none → s.vm.findClass E = some ce.cls → vx_W p l e R s m args below meth c H1 locs1 (cells + mc) (slots + ms) Q (F0 m pc ls rest) q9)
    (kk : ∀ (u : S) (t : State) (H1 : Heap) (locs1 : List Loc), t.heap = H1 → s.vm.Alike t.vm → post u → B u t → H.size ≤ H1.size → (∀ q : Nat, q < H.size → ¬ A1 q → H1[q]? = H[q]?) → va_S A0 H0 H1 locs1 → W p l e R s m args below meth c H1 locs1 (cells + mc) (slots + ms) Q (F0 m (pc + 3) ls (rest))) : W p l e R s m args below meth c H locs cells slots Q (F0 m pc ls st0) := by
  intro T hT X
  rcases hr T hT X with ⟨v, st₀, t, T', L, h0, X', hL, e1, e2, ⟨⟨u, hv, hp, hb⟩, hF⟩, st⟩ | ⟨q, st₀, t, T', L, E, ce, h0, X', hL, e1, e2, ⟨u, hp, hb, hF⟩, hce, hcv, hcl, st⟩
  · cases hv
    obtain ⟨k1, k2, k3⟩ := vx_keep h0 e1 hS hA hf hL hF
    obtain ⟨t2, a1, b1⟩ := kk u t T'.heap (locs ++ L) e1.symm (by rw [← e2]; exact X'.warmed.alike) hp hb k1 k2 k3 T' rfl X'
    exact ⟨t2, st t2 a1, b1⟩
  · obtain ⟨k1, k2, k3⟩ := vx_keep h0 e1 hS hAX hf hL hF
    obtain ⟨t2, a1, b1⟩ := kx E ce q u t T'.heap (locs ++ L) e1.symm (by rw [← e2]; exact X'.warmed.alike) hp hb k1 k2 k3 (by rw [e1]; exact hce) hcv hcl T' rfl X'
    exact ⟨t2, st.trans a1, b1⟩
/-- caught by the row x of this method's table; the rows ahead don't take it -/
theorem vx_catch {own name : String} {E : String} {ce : Cell} {q : Addr} (hown : s.vm.findClass own = some m.cls) (pre : List ExceptionTableEntry) (x : ExceptionTableEntry) (suf : List ExceptionTableEntry) (hsplit : c.exceptionTable.toList = pre ++ x :: suf)
    (hpass : ∀ z ∈ pre, covers z pc = false ∨ (z.catchType ≠ 0 ∧ ∃ nm : String, (Cond.classLink own z.catchType nm).before args s = true ∧ va_Nc E nm s)) (hx : covers x pc = true) (h0 : x.catchType ≠ 0)
    (hlink : (Cond.classLink own x.catchType name).before args s = true) (hcast : (Cond.castable E name).before args s = true) (hcell : H[q]? = some ce) (hv : ce.vm = .none) (hcl : s.vm.findClass E = some ce.cls)
    (kk : W p l e R s m args below meth c H locs cells slots Q (F0 m x.handlerPc ls [.ref q])) : vx_W p l e R s m args below meth c H locs cells slots Q (F0 m pc ls rest) q := by
  intro T hT X
  have hpl : e.platform.magicAccessors = ({} : Platform).magicAccessors := by rw [X.admits.platform]
  obtain ⟨c3, c4, hc3, hc4, hasg⟩ := Cond.castable_spec hcast
  cases Option.some.inj (hc3.symm.trans hcl)
  obtain ⟨c5, hc5, hcl5⟩ := Cond.classLink_spec hown hlink e.platform hpl
  cases Option.some.inj (hc4.symm.trans hc5)
  obtain ⟨vm', X', st⟩ := X.thenCaughtThrough q (g := F0 m pc ls rest) rfl (Steps.refl _) (by rw [hT]; exact hcell) (by rw [hv]; rfl) (by obtain ⟨k9, h9, -⟩ := Vm.findClass_spec hcl; exact ⟨k9, h9⟩) pre x suf hsplit
    (fun z hz => by
      rcases hpass z hz with h | ⟨hz0, nm, hl1, hn1⟩
      · exact Or.inl h
      · obtain ⟨c6, hc6, hcl6⟩ := Cond.classLink_spec hown hl1 e.platform hpl
        obtain ⟨a8, b8, h1, h2, h3⟩ := hn1
        cases Option.some.inj (h1.symm.trans hcl)
        cases Option.some.inj (h2.symm.trans hc6)
        exact Or.inr ⟨hz0, _, hcl6, h3⟩) hx (Or.inr ⟨h0, c4, hcl5, hasg⟩)
  obtain ⟨t, a1, b1⟩ := kk (T.setVm vm') hT X'
  exact ⟨t, st.trans a1, b1⟩
end Rows
section Ends
variable {p : Program} {l : Launch} {e : Env} {R : Room} {s : State} {m : MethodId} {args : Array Value} {below : List Frame} {meth : Method} {c : Code} {H : Heap} {locs : List Loc} {cells slots : Nat} {Q : State → Prop}
variable {mc ms : Nat} {free : Addr → Prop} {A0 A1 : Nat → Prop} {H0 : Heap} {a : Array Value} {ls : Array Slot} {st0 rest : List Value}
variable {Qc : Array Value → State → Outcome → State → Prop} {XC : String → State → State → Prop}
/-- what a body that may throw owes at its end -/
def vx_MQ (below : List Frame) (Qc : Array Value → State → Outcome → State → Prop) (XC : String → State → State → Prop) (a : Array Value) (s : State) (mc ms : Nat) (free : Addr → Prop) : State → Prop := fun t =>
  ∃ o, t.status = .running ∧ Ended t below o ∧ vx_Q Qc XC mc ms free a s o t
theorem vx_ret {g : JFrame} {mc ms : Nat} (k : W p l e R s m args below meth c H locs cells slots (MQ below Qc args s mc ms free) g) : W p l e R s m args below meth c H locs cells slots (vx_MQ below Qc XC args s mc ms free) g := by
  intro T hT X
  obtain ⟨t, a1, o, b1, b2, b3, b4⟩ := k T hT X
  exact ⟨t, a1, o, b1, b2, Or.inl ⟨b3, b4⟩⟩
/-- not caught here: it goes on to the caller -/
theorem vx_widen {g : JFrame} {q : Addr} {k n : Nat} (h1 : cells ≤ k) (h2 : slots ≤ n) (kk : vx_W p l e R s m args below meth c H locs k n Q g q) : vx_W p l e R s m args below meth c H locs cells slots Q g q := fun T hT X => kk T hT (stand_widen X h1 h2)
theorem vx_out {pc : Nat} {E : String} {ce : Cell} {q : Addr} {mc ms : Nat} (hout : ∀ x ∈ c.exceptionTable.toList, covers x pc = false) (hlocks : meth.locks = false) (hcell : H[q]? = some ce) (hv : ce.vm = .none) (hcl : s.vm.findClass E = some ce.cls)
    (hx : ∀ t : State, t.heap = H → s.vm.Alike t.vm → XC E s t) (hf : ∀ z ∈ locs, free z.base) (hc : cells ≤ mc) (hs : slots ≤ ms) :
    vx_W p l e R s m args below meth c H locs cells slots (vx_MQ below Qc XC args s mc ms free) (F0 m pc ls rest) q := by
  intro T hT X
  obtain ⟨st1, hrun, hend, hW, hsm⟩ := X.leaveThrown q (g := F0 m pc ls rest) rfl rfl rfl hout hlocks
  have hcell9 : (T.setFrames (.throwing q :: below)).heap[q]? = some ce := by
    show T.heap[q]? = some ce
    rw [hT]; exact hcell
  exact ⟨_, st1, .threw q, hrun, hend, Or.inr ⟨q, rfl, E, ce, locs, hx _ hT hW.alike, hcell9, hv, hcl, hW, hsm.mono hc hs, hf⟩⟩
theorem vx_frame {U : State} {k n : Nat} (h : s.sameButNew ({ U with vm := s.vm } : State) locs k n) : s.heap.size ≤ U.heap.size ∧ ∀ q : Nat, q < s.heap.size → (∀ z ∈ locs, z.base ≠ q) → U.heap[q]? = s.heap[q]? := by
  obtain ⟨-, h2, -, -, -, h6⟩ := h
  refine ⟨h2, fun q hq hz => ?_⟩
  obtain ⟨c9, e1, e2, e3, e4⟩ := h6 q _ (Array.getElem?_eq_getElem hq)
  have hs : c9.slots = (s.heap[q]).slots := Array.ext_getElem? fun i => e4 i fun hm => hz _ hm rfl
  have h9 : c9 = s.heap[q] := by
    rw [hs] at e2
    exact e2
  have e5 : U.heap[q]? = some c9 := e1
  rw [e5, h9, Array.getElem?_eq_getElem hq]
/-- the words of a throw but the four that speak of the heap -/
def vx_no (w : Cond) : Bool := decide (w ≠ .isRef (.static Bundle.tN "UNASSIGNED_STACK" Bundle.steD)) && decide (w ≠ .isRef (.static Bundle.tN "SUPPRESSED_SENTINEL" Bundle.listD)) && decide (w ≠ .laysStatic Bundle.tN "UNASSIGNED_STACK" Bundle.steD) && decide (w ≠ .laysStatic Bundle.tN "SUPPRESSED_SENTINEL" Bundle.listD)
def vx_at0 (own : String) (ic : Nat) (X : String) (names : List String) : List Cond := (Bundle.ownAtoms0 own ic X names).filter vx_no
def vx_atS (own : String) (ic : Nat) (X : String) (names : List String) : List Cond := (Bundle.ownAtoms own ic X names).filter vx_no
/-- a word that the tables alone decide, or a good one -/
def vx_ot (w : Cond) : Bool := w.onTables || goodWord w
theorem vx_ot_at {args a' : Array Value} {s U : State} {w : Cond} (hW : s.WarmedH U.vm) (hvm : s.vm = U.vm) (hg : vx_ot w = true) (h : w.before args s = true) : w.before a' U = true := by
  simp only [vx_ot, Bool.or_eq_true] at hg
  rcases hg with hg | hg
  · exact va_tabs hg hvm h
  · exact word_at hW (good_of_word hg) h
/-- a list's words: the good ones out of the method's own list, the others by premises of their own -/
theorem vx_hat {args : Array Value} {s : State} {L B : List Cond} (h1 : ∀ w ∈ L.filter goodWord, w.before args s = true) (h2 : ∀ w ∈ L.filter (fun w => !goodWord w), w ∈ B) (h3 : ∀ w ∈ B, w.before args s = true) : ∀ w ∈ L, w.before args s = true := by
  intro w hw
  by_cases g : goodWord w = true
  · exact h1 w (List.mem_filter.mpr ⟨hw, g⟩)
  · refine h3 w (h2 w (List.mem_filter.mpr ⟨hw, ?_⟩))
    show (!goodWord w) = true
    cases hgw : goodWord w
    · rfl
    · exact absurd hgw g
theorem vx_c {args : Array Value} {s : State} {w : Cond} {B : List Cond} (h : w.before args s = true) (t : ∀ w ∈ B, w.before args s = true) : ∀ w' ∈ w :: B, w'.before args s = true := fun w' h' => (List.mem_cons.mp h').elim (fun e => by rw [e]; exact h) (t w')
theorem vx_n {args : Array Value} {s : State} : ∀ w ∈ ([] : List Cond), w.before args s = true := fun _ h => nomatch h
theorem vx_own {args : Array Value} {s : State} {L : List Cond} (h1 : ∀ w ∈ L.filter vx_no, w.before args s = true)
    (hU : (Cond.isRef (.static Bundle.tN "UNASSIGNED_STACK" Bundle.steD)).before args s = true) (hN : (Cond.isRef (.static Bundle.tN "SUPPRESSED_SENTINEL" Bundle.listD)).before args s = true)
    (lU : (Cond.laysStatic Bundle.tN "UNASSIGNED_STACK" Bundle.steD).before args s = true) (lN : (Cond.laysStatic Bundle.tN "SUPPRESSED_SENTINEL" Bundle.listD).before args s = true) : ∀ w ∈ L, w.before args s = true := by
  intro w hw
  by_cases e1 : w = .isRef (.static Bundle.tN "UNASSIGNED_STACK" Bundle.steD)
  · rw [e1]; exact hU
  · by_cases e2 : w = .isRef (.static Bundle.tN "SUPPRESSED_SENTINEL" Bundle.listD)
    · rw [e2]; exact hN
    · by_cases e3 : w = .laysStatic Bundle.tN "UNASSIGNED_STACK" Bundle.steD
      · rw [e3]; exact lU
      · by_cases e4 : w = .laysStatic Bundle.tN "SUPPRESSED_SENTINEL" Bundle.listD
        · rw [e4]; exact lN
        · exact h1 w (List.mem_filter.mpr ⟨hw, by unfold vx_no; rw [decide_eq_true e1, decide_eq_true e2, decide_eq_true e3, decide_eq_true e4]; rfl⟩)
/-- where a static field lies, its class's statics cell in H -/
def vx_L (C n d : String) (A : Nat → Prop) (U : State) (H : Heap) : Prop := ∃ (c : ClassId) (k : Class) (i : Nat) (f : Field) (a : Nat) (cell : Cell), U.vm.findClass C = some c ∧ U.fieldFound? C n d = some (c, k, i, f) ∧ f.isStatic = true ∧ k.statics = some a ∧ H[a]? = some cell ∧ cell.vm.isStatics = true ∧ cell.cls = c ∧ f.slot < cell.slots.size ∧ k.staticTypes[f.slot]? = some f.type ∧ ¬ A a
theorem vx_L.moved {C n d : String} {A : Nat → Prop} {u U : State} {H : Heap} (hvm : u.vm.Alike U.vm) (h : vx_L C n d A u H) : vx_L C n d A U H := by
  obtain ⟨c, k, i, f, a, cell, h1, h2, h3, h4, h5, h6, h7, h8, h9, h10⟩ := h
  obtain ⟨k', hi', he⟩ := State.fieldFound?_setVm hvm h2
  exact ⟨c, k', i, f, a, cell, by rw [hvm.findClass]; exact h1, hi', h3, by rw [he]; exact h4, h5, h6, h7, h8, by rw [he]; exact h9, h10⟩
theorem vx_L.kept {C n d : String} {A : Nat → Prop} {U : State} {H H1 : Heap} (h : vx_L C n d A U H) (hq : ∀ a : Nat, a < H.size → ¬ A a → H1[a]? = H[a]?) : vx_L C n d A U H1 := by
  obtain ⟨c, k, i, f, a, cell, h1, h2, h3, h4, h5, h6, h7, h8, h9, h10⟩ := h
  exact ⟨c, k, i, f, a, cell, h1, h2, h3, h4, by rw [hq a (Array.getElem?_eq_some_iff.mp h5).1 h10]; exact h5, h6, h7, h8, h9, h10⟩
theorem vx_L.narrow {C n d : String} {A B : Nat → Prop} {U : State} {H : Heap} (h : vx_L C n d A U H) (hAB : ∀ q, B q → A q) : vx_L C n d B U H := by
  obtain ⟨c, k, i, f, a, cell, h1, h2, h3, h4, h5, h6, h7, h8, h9, h10⟩ := h
  exact ⟨c, k, i, f, a, cell, h1, h2, h3, h4, h5, h6, h7, h8, h9, fun z => h10 (hAB _ z)⟩
theorem vx_L.word {C n d : String} {A : Nat → Prop} {s : State} {args : Array Value} (h : vx_L C n d A s s.heap) : (Cond.laysStatic C n d).before args s = true := by
  obtain ⟨c, k, i, f, a, cell, h1, h2, h3, h4, h5, h6, h7, h8, h9, -⟩ := h
  show (Cond.laysStatic C n d).holds args s none s [] = true
  exact Cond.laysStatic_of h1 h2 h3 h4 h5 h6 h7 h8 h9
/-- .. and what it holds: null or some reference -/
def vx_Zq (C n d : String) (A : Nat → Prop) (U : State) (H : Heap) : Prop := va_Zq C n d A U H ∧ vx_L C n d A U H
theorem vx_Zq.moved {C n d : String} {A : Nat → Prop} {u U : State} {H : Heap} (hvm : u.vm.Alike U.vm) (h : vx_Zq C n d A u H) : vx_Zq C n d A U H := ⟨va_Zq.moved hvm h.1, vx_L.moved hvm h.2⟩
theorem vx_Zq.kept {C n d : String} {A : Nat → Prop} {U : State} {H H1 : Heap} (h : vx_Zq C n d A U H) (hq : ∀ a : Nat, a < H.size → ¬ A a → H1[a]? = H[a]?) : vx_Zq C n d A U H1 := ⟨va_Zq.kept h.1 hq, vx_L.kept h.2 hq⟩
theorem vx_Zq.narrow {C n d : String} {A B : Nat → Prop} {U : State} {H : Heap} (h : vx_Zq C n d A U H) (hAB : ∀ q, B q → A q) : vx_Zq C n d B U H := ⟨va_Zq.narrow h.1 hAB, vx_L.narrow h.2 hAB⟩
theorem vx_Zqof {args : Array Value} {s : State} {C n d : String} {A : Nat → Prop} (hl : (Cond.laysStatic C n d).before args s = true) (hini : (Cond.initialized C).before args s = true) (h : (Cond.isRef (.static C n d)).before args s = true) (hA : ∀ a : Nat, a < s.heap.size → ¬ A a) : vx_Zq C n d A s s.heap := by
  refine ⟨va_Zqof hl hini h hA, ?_⟩
  obtain ⟨c, k, i, f, a, cell, h1, h2, h3, h4, h5, h6, h7, h8, h9⟩ := Cond.laysStatic_spec hl
  exact ⟨c, k, i, f, a, cell, h1, h2, h3, h4, h5, h6, h7, h8, h9, hA a (Array.getElem?_eq_some_iff.mp h5).1⟩
theorem vx_isRef {C n d : String} {v : Value} {A : Nat → Prop} {s : State} {args : Array Value} (h : va_Z C n d v A s s.heap) (hv : v.isRef = true) : (Cond.isRef (.static C n d)).before args s = true := by
  obtain ⟨cf, kf, fi, f, a, cell, h1, h2, h3, h4, h5, h6, h7, -⟩ := h
  have he : (Term.static C n d).eval args s none [] s = some v := by
    simp [Term.eval, State.fieldNamed?, h1, h2, h4, h5, h6, h7]
  simp only [Cond.before, Cond.holds, Cond.value, he]
  cases v <;> simp_all [Value.isRef]
theorem vx_isRefq {C n d : String} {A : Nat → Prop} {s : State} {args : Array Value} (h : va_Zq C n d A s s.heap) : (Cond.isRef (.static C n d)).before args s = true := by
  rcases h with h | ⟨t, h⟩
  · exact vx_isRef h rfl
  · exact vx_isRef h rfl
/-- the same frame, seen from here: as if the method were called anew in this heap -/
theorem vx_rebase {T : State} (X : Stand p l e R s m args below meth c T locs cells slots) {R' : Room} (hf : R'.frames ≤ R.frames) (hl : R'.locals ≤ R.locals) (hc : cells + R'.cells ≤ R.cells) (hs : slots + R'.slots ≤ R.slots) :
    Stand p l e R' ((T.setVm s.vm).setFrames (.invoking m args :: below)) m args below meth c T [] 0 0 := by
  have htop : (T.setVm s.vm).topJava?.isSome := X.here.top
  have hF : ((T.setVm s.vm).setFrames (.invoking m args :: below)).frames = .invoking m args :: below := State.frames_setFrames _ (State.cur_lt_of_top htop)
  obtain ⟨g₀, hg0⟩ := Option.isSome_iff_exists.mp htop
  obtain ⟨r, hr⟩ := State.topJava?_eq_some.mp hg0
  have hl9 : e.platform.stackLimits (T.setVm s.vm).me = e.platform.stackLimits s.me := X.limits
  have hb9 : (T.setVm s.vm).me.stackBytes = s.me.stackBytes := X.bytes
  refine ⟨X.admits, X.cas, X.clock, hF, ?_, X.hears, X.method, X.code, X.here, X.tail, X.warmed, ?_, ?_, ?_⟩
  · have h := X.room
    have hU : ((T.setVm s.vm).setFrames (.invoking m args :: below)).localsInUse = s.localsInUse := by
      rw [State.localsInUse_invoking hF (meth := meth) (c := c) X.method X.code, State.localsInUse_invoking X.frames X.method X.code]
    simp only [State.hasRoom, Bool.and_eq_true, decide_eq_true_eq] at h ⊢
    obtain ⟨⟨⟨⟨h1, h2, h3, h4, h5, h6⟩, h7⟩, h8⟩, h9⟩ := h
    rw [X.frames, List.length_cons] at h2 h3
    have q1 := X.heapSize
    have q2 := X.used
    simp only [hF, hU, List.length_cons, State.stackLimits_setFrames, State.stackBytes_setFrames, hl9, hb9]
    refine ⟨⟨⟨⟨by omega, by omega, by omega, by omega, by omega, h6⟩, ?_⟩, ?_⟩, X.book⟩
    · show T.heap.size + R'.cells ≤ e.platform.maxCells
      omega
    · show T.slotsUsed + R'.slots ≤ e.platform.maxSlots
      omega
  · rw [State.stackLimits_setFrames]; rfl
  · rw [State.stackBytes_setFrames]; rfl
  · refine ⟨?_, Nat.le_refl _, Nat.le_refl _, ?_, ?_, fun a c9 h9 => ⟨c9, h9, rfl, rfl, fun _ _ => rfl⟩⟩
    · obtain ⟨t, ht, -⟩ := State.frames_cons hr
      show T.setVm s.vm = { ((T.setVm s.vm).setFrames (.invoking m args :: below)).setFrames (T.setVm s.vm).frames with heap := T.heap, slotsUsed := T.slotsUsed }
      rw [State.setFrames_setFrames, State.setFrames_self ht]
      rfl
    · show T.slotsUsed = T.slotsUsed + ((T.heap.toList.drop T.heap.size).map (·.slots.size)).sum
      rw [List.drop_eq_nil_of_le (Nat.le_of_eq Array.length_toList)]
      rfl
    · show ((T.heap.toList.drop T.heap.size).map (·.slots.size)).sum ≤ 0
      rw [List.drop_eq_nil_of_le (Nat.le_of_eq Array.length_toList)]
      exact Nat.le_refl _
/-- 'throw new E()': new; dup; invokespecial; athrow -/
theorem vx_throw0 {cc : ByteArray} {pc : Nat} (hexec : p.tables.exec = Jvm.exec) (hb : c.code = cc) (hl : l.stackTraces = false) {own cls : String} {names : List String} {ik ic mc ms : Nat} {A : Nat → Prop}
    (hown : s.vm.findClass own = some m.cls) (hcls : Bundle.fit cls = true) (hnames : ∀ n ∈ names, Bundle.fit n = true)
    (hk : (Cond.classLink own ik cls).before args s = true) (hini : (Cond.initialized cls).before args s = true) (hat : ∀ w ∈ vx_at0 own ic cls names, w.before args s = true)
    (hgood : ∀ w ∈ Cond.classLink own ik cls :: Cond.initialized cls :: vx_at0 own ic cls names, vx_ot w = true)
    (hU : vx_Zq Bundle.tN "UNASSIGNED_STACK" Bundle.steD A s s.heap) (hN : vx_Zq Bundle.tN "SUPPRESSED_SENTINEL" Bundle.listD A s s.heap) (hS : va_S A s.heap H locs) (hsize : ls.size = c.maxLocals)
    (d0 : decode cc pc = .ok (.new ik, 3)) (d3 : decode cc (pc + 3) = .ok (.dup, 1)) (d4 : decode cc (pc + 4) = .ok (.invokespecial ic, 3)) (d7 : decode cc (pc + 7) = .ok (.athrow, 1))
    (hout : ∀ x ∈ c.exceptionTable.toList, covers x (pc + 7) = false)
    (hRframes : names.length + 3 < R.frames) (hRlocals : (rest.map fun v => v.category).sum + (13 * (names.length + 1) + 42) ≤ R.locals) (hRcells : cells + 1 ≤ R.cells) (hRslots : slots + 6 ≤ R.slots) (hlocks : meth.locks = false)
    (hx : ∀ t : State, s.vm.Alike t.vm → H.size ≤ t.heap.size → (∀ q : Nat, q < H.size → t.heap[q]? = H[q]?) → XC cls s t)
    (hf : ∀ z ∈ locs, free z.base) (hc : cells + 1 ≤ mc) (hs : slots + 6 ≤ ms) :
    W p l e R s m args below meth c H locs cells slots (vx_MQ below Qc XC args s mc ms free) (F0 m pc ls rest) := by
  intro T hT X
  have htr : e.platform.stackTraces = false := (show e.platform.stackTraces = l.stackTraces by rw [X.admits.platform]).trans hl
  have Y := vx_rebase X (R' := { frames := R.frames, locals := R.locals, cells := 1, slots := 6 }) (Nat.le_refl _) (Nat.le_refl _) hRcells hRslots
  obtain ⟨s', hA⟩ : ∃ z, z = (T.setVm s.vm).setFrames (.invoking m args :: below) := ⟨_, rfl⟩
  rw [← hA] at Y
  have hvm : s'.vm = s.vm := by rw [hA]; rfl
  have hhp : s'.heap = H := by rw [hA]; exact hT
  have hW0 : s.WarmedH s'.vm := by rw [hvm]; exact State.WarmedH.refl s
  have hat' : ∀ w ∈ vx_at0 own ic cls names, w.before args s' = true := fun w hw => vx_ot_at hW0 hvm.symm (hgood w (List.mem_cons_of_mem _ (List.mem_cons_of_mem _ hw))) (hat w hw)
  have hk' : (Cond.classLink own ik cls).before args s' = true := vx_ot_at hW0 hvm.symm (hgood _ List.mem_cons_self) hk
  have hini' : (Cond.initialized cls).before args s' = true := vx_ot_at hW0 hvm.symm (hgood _ (List.mem_cons_of_mem _ List.mem_cons_self)) hini
  have hU' : vx_Zq Bundle.tN "UNASSIGNED_STACK" Bundle.steD A s' s'.heap := by rw [hhp]; exact vx_Zq.moved hW0.alike (hU.kept hS.2.1)
  have hN' : vx_Zq Bundle.tN "SUPPRESSED_SENTINEL" Bundle.listD A s' s'.heap := by rw [hhp]; exact vx_Zq.moved hW0.alike (hN.kept hS.2.1)
  have h : ∀ w ∈ Bundle.ownAtoms0 own ic cls names, w.before args s' = true := vx_own hat' (vx_isRefq hU'.1) (vx_isRefq hN'.1) hU'.2.word hN'.2.word
  have hown' : s'.vm.findClass own = some m.cls := by rw [hvm]; exact hown
  have hins : (Cond.instantiable cls 6).before args s' = true := h _ (by simp [Bundle.ownAtoms0])
  obtain ⟨vm₁, cX, kX, hfX, hkX, -, -, X₁, st1⟩ := Y.newCold hexec (own := own) (C := cls) (index := ik) (n := 6) hown' hk' hins hini'
    (g := F0 m pc ls rest) rfl (by rw [hb]; exact d0) (Nat.le_refl _) (Nat.le_refl _)
  generalize hT1 : (T.setVm vm₁).pushCell { cls := cX, slots := kX.instanceTypes.map defaultValue, vm := .none } = T1 at X₁ st1
  have hcat : (Value.ref T.heap.size).category = 1 := rfl
  have hcellA : T1.heap[T.heap.size]? = some (freshCell cX kX) := by rw [← hT1]; exact State.heap_pushCell_size _ _
  have d3' : decode c.code (pc + 3) = .ok (.dup, 1) := by rw [hb]; exact d3
  obtain ⟨U, hsteps, hrun, hend, hW, hsame, ce, hce, hO⟩ := X₁.ctorThrow0 hexec htr (own := own) (cls := cls) (names := names) (ic := ic) hown' hcls hnames h (fun x hx => nomatch hx) hfX hkX hcellA (by rw [hhp, hT]; exact Nat.le_refl _)
    (g := { method := m, pc := pc + 4, locals := ls, stack := .ref T.heap.size :: .ref T.heap.size :: rest, locked := none }) rfl hsize rfl rfl (rest := rest) rfl
    (by rw [hb]; exact d4) (by rw [hb]; exact d7) hout hRframes (by simp only [List.map_cons, List.sum_cons, hcat]; omega) hlocks
  obtain ⟨f1, f2⟩ := vx_frame hsame
  rw [hhp] at f1 f2
  have hWs : s.WarmedH U.vm := State.WarmedH.trans hW0 hW
  have hcl : s.vm.findClass cls = some ce.cls := by
    have h9 := hO.cls
    rw [hvm] at h9
    exact h9
  have hall : s.sameButNew ({ U with vm := s.vm } : State) locs mc ms := by
    subst hA
    obtain ⟨e1, e2⟩ := hsame
    rw [State.setFrames_setFrames] at e1
    have h2 : (T.setVm s.vm).sameButNew ({ U with vm := s.vm } : State) [] (0 + 1) (0 + 6) := ⟨e1, e2⟩
    have h3 := X.same.trans h2
    rw [List.append_nil] at h3
    exact h3.mono hc hs
  refine ⟨U, ?_, .threw T.heap.size, hrun, hend, Or.inr ⟨T.heap.size, rfl, cls, ce, locs, hx U hWs.alike f1 (fun q hq => f2 q hq (fun z hz => nomatch hz)), hce, hO.vm, hcl, hWs, hall, hf⟩⟩
  refine st1 _ ?_
  show Steps p.tables e below (T1.setTop { method := m, pc := pc + 3, locals := ls, stack := .ref T.heap.size :: rest, locked := none }) _
  jvm_step X₁.here [X₁.here.top, hexec, d3', Value.category]
  exact hsteps
/-- 'throw new E("text")': new; dup; ldc; invokespecial; athrow -/
theorem vx_throwS {cc : ByteArray} {pc : Nat} (hexec : p.tables.exec = Jvm.exec) (hb : c.code = cc) (hl : l.stackTraces = false) {own cls text : String} {names : List String} {ik is ic mc ms sa : Nat} {A : Nat → Prop}
    (hown : s.vm.findClass own = some m.cls) (hcls : Bundle.fit cls = true) (hnames : ∀ n ∈ names, Bundle.fit n = true)
    (hk : (Cond.classLink own ik cls).before args s = true) (hini : (Cond.initialized cls).before args s = true) (hstr : vk_R own is text sa s) (hat : ∀ w ∈ vx_atS own ic cls names, w.before args s = true)
    (hgood : ∀ w ∈ Cond.classLink own ik cls :: Cond.initialized cls :: vx_atS own ic cls names, vx_ot w = true)
    (hU : vx_Zq Bundle.tN "UNASSIGNED_STACK" Bundle.steD A s s.heap) (hN : vx_Zq Bundle.tN "SUPPRESSED_SENTINEL" Bundle.listD A s s.heap) (hS : va_S A s.heap H locs) (hsize : ls.size = c.maxLocals)
    (d0 : decode cc pc = .ok (.new ik, 3)) (d3 : decode cc (pc + 3) = .ok (.dup, 1)) (d4 : decode cc (pc + 4) = .ok (.ldc is, 2)) (d6 : decode cc (pc + 6) = .ok (.invokespecial ic, 3)) (d9 : decode cc (pc + 9) = .ok (.athrow, 1))
    (hout : ∀ x ∈ c.exceptionTable.toList, covers x (pc + 9) = false)
    (hRframes : names.length + 3 < R.frames) (hRlocals : (rest.map fun v => v.category).sum + (13 * (names.length + 1) + 43) ≤ R.locals) (hRcells : cells + 1 ≤ R.cells) (hRslots : slots + 6 ≤ R.slots) (hlocks : meth.locks = false)
    (hx : ∀ t : State, s.vm.Alike t.vm → H.size ≤ t.heap.size → (∀ q : Nat, q < H.size → t.heap[q]? = H[q]?) → XC cls s t)
    (hf : ∀ z ∈ locs, free z.base) (hc : cells + 1 ≤ mc) (hs : slots + 6 ≤ ms) :
    W p l e R s m args below meth c H locs cells slots (vx_MQ below Qc XC args s mc ms free) (F0 m pc ls rest) := by
  intro T hT X
  have htr : e.platform.stackTraces = false := (show e.platform.stackTraces = l.stackTraces by rw [X.admits.platform]).trans hl
  have Y := vx_rebase X (R' := { frames := R.frames, locals := R.locals, cells := 1, slots := 6 }) (Nat.le_refl _) (Nat.le_refl _) hRcells hRslots
  obtain ⟨s', hA⟩ : ∃ z, z = (T.setVm s.vm).setFrames (.invoking m args :: below) := ⟨_, rfl⟩
  rw [← hA] at Y
  have hvm : s'.vm = s.vm := by rw [hA]; rfl
  have hhp : s'.heap = H := by rw [hA]; exact hT
  have hW0 : s.WarmedH s'.vm := by rw [hvm]; exact State.WarmedH.refl s
  have hat' : ∀ w ∈ vx_atS own ic cls names, w.before args s' = true := fun w hw => vx_ot_at hW0 hvm.symm (hgood w (List.mem_cons_of_mem _ (List.mem_cons_of_mem _ hw))) (hat w hw)
  have hk' : (Cond.classLink own ik cls).before args s' = true := vx_ot_at hW0 hvm.symm (hgood _ List.mem_cons_self) hk
  have hini' : (Cond.initialized cls).before args s' = true := vx_ot_at hW0 hvm.symm (hgood _ (List.mem_cons_of_mem _ List.mem_cons_self)) hini
  have hU' : vx_Zq Bundle.tN "UNASSIGNED_STACK" Bundle.steD A s' s'.heap := by rw [hhp]; exact vx_Zq.moved hW0.alike (hU.kept hS.2.1)
  have hN' : vx_Zq Bundle.tN "SUPPRESSED_SENTINEL" Bundle.listD A s' s'.heap := by rw [hhp]; exact vx_Zq.moved hW0.alike (hN.kept hS.2.1)
  have h : ∀ w ∈ Bundle.ownAtoms own ic cls names, w.before args s' = true := vx_own hat' (vx_isRefq hU'.1) (vx_isRefq hN'.1) hU'.2.word hN'.2.word
  have hown' : s'.vm.findClass own = some m.cls := by rw [hvm]; exact hown
  have hins : (Cond.instantiable cls 6).before args s' = true := h _ (by simp [Bundle.ownAtoms])
  obtain ⟨vm₁, cX, kX, hfX, hkX, -, -, X₁, st1⟩ := Y.newCold hexec (own := own) (C := cls) (index := ik) (n := 6) hown' hk' hins hini'
    (g := F0 m pc ls rest) rfl (by rw [hb]; exact d0) (Nat.le_refl _) (Nat.le_refl _)
  generalize hT1 : (T.setVm vm₁).pushCell { cls := cX, slots := kX.instanceTypes.map defaultValue, vm := .none } = T1 at X₁ st1
  have hcat : (Value.ref T.heap.size).category = 1 := rfl
  have hcellA : T1.heap[T.heap.size]? = some (freshCell cX kX) := by rw [← hT1]; exact State.heap_pushCell_size _ _
  have d3' : decode c.code (pc + 3) = .ok (.dup, 1) := by rw [hb]; exact d3
  have d4' : decode c.code (pc + 4) = .ok (.ldc is, 2) := by rw [hb]; exact d4
  have hstr' : vk_R own is text sa s' := vk_R.warm hW0 hstr
  obtain ⟨U, hsteps, hrun, hend, hW, hsame, ce, hce, hO⟩ := X₁.ctorThrowS hexec htr (own := own) (cls := cls) (names := names) (ic := ic) hown' hcls hnames h (fun x hx => nomatch hx) hfX hkX hcellA (by rw [hhp, hT]; exact Nat.le_refl _) (msg := .ref sa) rfl
    (g := { method := m, pc := pc + 6, locals := ls, stack := .ref sa :: .ref T.heap.size :: .ref T.heap.size :: rest, locked := none }) rfl hsize rfl rfl (rest := rest) rfl
    (by rw [hb]; exact d6) (by rw [hb]; exact d9) hout hRframes (by simp only [List.map_cons, List.sum_cons, hcat]; omega) hlocks
  obtain ⟨f1, f2⟩ := vx_frame hsame
  rw [hhp] at f1 f2
  have hWs : s.WarmedH U.vm := State.WarmedH.trans hW0 hW
  have hcl : s.vm.findClass cls = some ce.cls := by
    have h9 := hO.cls
    rw [hvm] at h9
    exact h9
  have hall : s.sameButNew ({ U with vm := s.vm } : State) locs mc ms := by
    subst hA
    obtain ⟨e1, e2⟩ := hsame
    rw [State.setFrames_setFrames] at e1
    have h2 : (T.setVm s.vm).sameButNew ({ U with vm := s.vm } : State) [] (0 + 1) (0 + 6) := ⟨e1, e2⟩
    have h3 := X.same.trans h2
    rw [List.append_nil] at h3
    exact h3.mono hc hs
  refine ⟨U, ?_, .threw T.heap.size, hrun, hend, Or.inr ⟨T.heap.size, rfl, cls, ce, locs, hx U hWs.alike f1 (fun q hq => f2 q hq (fun z hz => nomatch hz)), hce, hO.vm, hcl, hWs, hall, hf⟩⟩
  refine st1 _ ?_
  show Steps p.tables e below (T1.setTop { method := m, pc := pc + 3, locals := ls, stack := .ref T.heap.size :: rest, locked := none }) _
  jvm_step X₁.here [X₁.here.top, hexec, d3', Value.category]
  exact X₁.ldcString hexec (own := own) (text := text) (index := is) (a := sa) hown' hstr'.1 hstr'.2
    (g := { method := m, pc := pc + 4, locals := ls, stack := .ref T.heap.size :: .ref T.heap.size :: rest, locked := none }) rfl d4' _ hsteps
/-- 'throw new E("text")', the text by a wide index -/
theorem vx_throwSW {cc : ByteArray} {pc : Nat} (hexec : p.tables.exec = Jvm.exec) (hb : c.code = cc) (hl : l.stackTraces = false) {own cls text : String} {names : List String} {ik is ic mc ms sa : Nat} {A : Nat → Prop}
    (hown : s.vm.findClass own = some m.cls) (hcls : Bundle.fit cls = true) (hnames : ∀ n ∈ names, Bundle.fit n = true)
    (hk : (Cond.classLink own ik cls).before args s = true) (hini : (Cond.initialized cls).before args s = true) (hstr : vk_R own is text sa s) (hat : ∀ w ∈ vx_atS own ic cls names, w.before args s = true)
    (hgood : ∀ w ∈ Cond.classLink own ik cls :: Cond.initialized cls :: vx_atS own ic cls names, vx_ot w = true)
    (hU : vx_Zq Bundle.tN "UNASSIGNED_STACK" Bundle.steD A s s.heap) (hN : vx_Zq Bundle.tN "SUPPRESSED_SENTINEL" Bundle.listD A s s.heap) (hS : va_S A s.heap H locs) (hsize : ls.size = c.maxLocals)
    (d0 : decode cc pc = .ok (.new ik, 3)) (d3 : decode cc (pc + 3) = .ok (.dup, 1)) (d4 : decode cc (pc + 4) = .ok (.ldc_w is, 3)) (d7 : decode cc (pc + 7) = .ok (.invokespecial ic, 3)) (d10 : decode cc (pc + 10) = .ok (.athrow, 1))
    (hout : ∀ x ∈ c.exceptionTable.toList, covers x (pc + 10) = false)
    (hRframes : names.length + 3 < R.frames) (hRlocals : (rest.map fun v => v.category).sum + (13 * (names.length + 1) + 43) ≤ R.locals) (hRcells : cells + 1 ≤ R.cells) (hRslots : slots + 6 ≤ R.slots) (hlocks : meth.locks = false)
    (hx : ∀ t : State, s.vm.Alike t.vm → H.size ≤ t.heap.size → (∀ q : Nat, q < H.size → t.heap[q]? = H[q]?) → XC cls s t)
    (hf : ∀ z ∈ locs, free z.base) (hc : cells + 1 ≤ mc) (hs : slots + 6 ≤ ms) :
    W p l e R s m args below meth c H locs cells slots (vx_MQ below Qc XC args s mc ms free) (F0 m pc ls rest) := by
  intro T hT X
  have htr : e.platform.stackTraces = false := (show e.platform.stackTraces = l.stackTraces by rw [X.admits.platform]).trans hl
  have Y := vx_rebase X (R' := { frames := R.frames, locals := R.locals, cells := 1, slots := 6 }) (Nat.le_refl _) (Nat.le_refl _) hRcells hRslots
  obtain ⟨s', hA⟩ : ∃ z, z = (T.setVm s.vm).setFrames (.invoking m args :: below) := ⟨_, rfl⟩
  rw [← hA] at Y
  have hvm : s'.vm = s.vm := by rw [hA]; rfl
  have hhp : s'.heap = H := by rw [hA]; exact hT
  have hW0 : s.WarmedH s'.vm := by rw [hvm]; exact State.WarmedH.refl s
  have hat' : ∀ w ∈ vx_atS own ic cls names, w.before args s' = true := fun w hw => vx_ot_at hW0 hvm.symm (hgood w (List.mem_cons_of_mem _ (List.mem_cons_of_mem _ hw))) (hat w hw)
  have hk' : (Cond.classLink own ik cls).before args s' = true := vx_ot_at hW0 hvm.symm (hgood _ List.mem_cons_self) hk
  have hini' : (Cond.initialized cls).before args s' = true := vx_ot_at hW0 hvm.symm (hgood _ (List.mem_cons_of_mem _ List.mem_cons_self)) hini
  have hU' : vx_Zq Bundle.tN "UNASSIGNED_STACK" Bundle.steD A s' s'.heap := by rw [hhp]; exact vx_Zq.moved hW0.alike (hU.kept hS.2.1)
  have hN' : vx_Zq Bundle.tN "SUPPRESSED_SENTINEL" Bundle.listD A s' s'.heap := by rw [hhp]; exact vx_Zq.moved hW0.alike (hN.kept hS.2.1)
  have h : ∀ w ∈ Bundle.ownAtoms own ic cls names, w.before args s' = true := vx_own hat' (vx_isRefq hU'.1) (vx_isRefq hN'.1) hU'.2.word hN'.2.word
  have hown' : s'.vm.findClass own = some m.cls := by rw [hvm]; exact hown
  have hins : (Cond.instantiable cls 6).before args s' = true := h _ (by simp [Bundle.ownAtoms])
  obtain ⟨vm₁, cX, kX, hfX, hkX, -, -, X₁, st1⟩ := Y.newCold hexec (own := own) (C := cls) (index := ik) (n := 6) hown' hk' hins hini'
    (g := F0 m pc ls rest) rfl (by rw [hb]; exact d0) (Nat.le_refl _) (Nat.le_refl _)
  generalize hT1 : (T.setVm vm₁).pushCell { cls := cX, slots := kX.instanceTypes.map defaultValue, vm := .none } = T1 at X₁ st1
  have hcat : (Value.ref T.heap.size).category = 1 := rfl
  have hcellA : T1.heap[T.heap.size]? = some (freshCell cX kX) := by rw [← hT1]; exact State.heap_pushCell_size _ _
  have d3' : decode c.code (pc + 3) = .ok (.dup, 1) := by rw [hb]; exact d3
  have d4' : decode c.code (pc + 4) = .ok (.ldc_w is, 3) := by rw [hb]; exact d4
  have hstr' : vk_R own is text sa s' := vk_R.warm hW0 hstr
  obtain ⟨U, hsteps, hrun, hend, hW, hsame, ce, hce, hO⟩ := X₁.ctorThrowS hexec htr (own := own) (cls := cls) (names := names) (ic := ic) hown' hcls hnames h (fun x hx => nomatch hx) hfX hkX hcellA (by rw [hhp, hT]; exact Nat.le_refl _) (msg := .ref sa) rfl
    (g := { method := m, pc := pc + 7, locals := ls, stack := .ref sa :: .ref T.heap.size :: .ref T.heap.size :: rest, locked := none }) rfl hsize rfl rfl (rest := rest) rfl
    (by rw [hb]; exact d7) (by rw [hb]; exact d10) hout hRframes (by simp only [List.map_cons, List.sum_cons, hcat]; omega) hlocks
  obtain ⟨f1, f2⟩ := vx_frame hsame
  rw [hhp] at f1 f2
  have hWs : s.WarmedH U.vm := State.WarmedH.trans hW0 hW
  have hcl : s.vm.findClass cls = some ce.cls := by
    have h9 := hO.cls
    rw [hvm] at h9
    exact h9
  have hall : s.sameButNew ({ U with vm := s.vm } : State) locs mc ms := by
    subst hA
    obtain ⟨e1, e2⟩ := hsame
    rw [State.setFrames_setFrames] at e1
    have h2 : (T.setVm s.vm).sameButNew ({ U with vm := s.vm } : State) [] (0 + 1) (0 + 6) := ⟨e1, e2⟩
    have h3 := X.same.trans h2
    rw [List.append_nil] at h3
    exact h3.mono hc hs
  refine ⟨U, ?_, .threw T.heap.size, hrun, hend, Or.inr ⟨T.heap.size, rfl, cls, ce, locs, hx U hWs.alike f1 (fun q hq => f2 q hq (fun z hz => nomatch hz)), hce, hO.vm, hcl, hWs, hall, hf⟩⟩
  refine st1 _ ?_
  show Steps p.tables e below (T1.setTop { method := m, pc := pc + 3, locals := ls, stack := .ref T.heap.size :: rest, locked := none }) _
  jvm_step X₁.here [X₁.here.top, hexec, d3', Value.category]
  exact X₁.ldcStringW hexec (own := own) (text := text) (index := is) (a := sa) hown' hstr'.1 hstr'.2
    (g := { method := m, pc := pc + 4, locals := ls, stack := .ref T.heap.size :: .ref T.heap.size :: rest, locked := none }) rfl d4' _ hsteps
end Ends
section Bodies
variable {l : Launch}
theorem vx_ofW {y : MethodName} {ws ws' : List Cond} {rm : Room} {Pc : Array Value → State → Prop} {Qc : Array Value → State → Outcome → State → Prop} {XC : String → State → State → Prop} {mc ms : Nat} {free : Addr → Prop} {cc : ByteArray} {maxL : Nat} {ret : Option FieldType}
    (hy : plainName y.cls = true) (hw : ws = Cond.code y cc maxL ret :: ws')
    (body : ∀ p e s m args below meth c s₁, BodyLoose p l y (headSpec ws rm) cc maxL ret e s m args below meth c s₁ → c.maxLocals = maxL → (∀ x ∈ c.exceptionTable.toList, False) → Pc args s →
      W p l e (headSpec ws rm).room s m args below meth c s.heap [] 0 0 (vx_MQ below Qc XC args s mc ms free) (entryFrame m args maxL)) : vx_Met l y ws rm Pc Qc XC mc ms free := by
  refine MetFree.of_bodyS (code := cc) (maxLocals := maxL) (ret := ret) hy ?_ ?_
  · intro args s m h hn
    obtain ⟨meth, c, h1, h2, h3, h4, h5, h6, -, -⟩ := Cond.code_spec hn (atoms_spec (ws := ws) h _ (by rw [hw]; exact List.mem_cons_self))
    exact ⟨meth, c, h1, h2, h3, h4, h5, h6⟩
  · intro p e s m args below meth c s₁ B hml hP _
    have hh0 : s₁.heap = s.heap := by rw [B.state]; rfl
    have ht : ∀ x ∈ c.exceptionTable.toList, False := by
      obtain ⟨meth9, c9, h1, h2, -, -, -, -, h7, -⟩ := Cond.code_spec B.named (atoms_spec (ws := ws) B.pre _ (by rw [hw]; exact List.mem_cons_self))
      cases Option.some.inj (h1.symm.trans B.method)
      cases Option.some.inj (h2.symm.trans (Stand.of_body B).code)
      intro x hx
      rw [Array.isEmpty_iff.mp h7] at hx
      cases hx
    obtain ⟨t, a1, o, b1, b2, b3⟩ := body p e s m args below meth c s₁ B hml ht hP s₁ hh0 (Stand.of_body B)
    exact ⟨t, o, a1, b1, b2, b3⟩
/-- the table of a body with handlers -/
theorem vx_table {p : Program} {x y : MethodName} {S : Spec} {cc bytes : ByteArray} {maxL maxL' : Nat} {ret ret' : Option FieldType} {e : Env} {s s₁ : State} {m : MethodId} {args : Array Value} {below : List Frame} {meth : Method} {c : Code} {hh : List (Nat × Nat × Nat × Nat)}
    (B : BodyLoose p l y S cc maxL ret e s m args below meth c s₁) (h : (Cond.codeWith y bytes maxL' ret' hh).before args s = true) : c.exceptionTable.toList = tableOf hh := by
  obtain ⟨m9, meth9, c9, hn9, h1, h2, -, -, h6, -⟩ := Cond.codeWith_spec h
  cases Option.some.inj (hn9.symm.trans B.named)
  cases Option.some.inj (h1.symm.trans B.method)
  cases Option.some.inj (h2.symm.trans (Stand.of_body B).code)
  rw [← h6, table_eq]
end Bodies
end VXA
/-! ===== END ===== -/
/-! ===== BEGIN a static call of a method with an exception table ===== -/
section VXS
variable {p : Program} {l : Launch} {e : Env} {R : Room} {s : State} {m : MethodId} {args : Array Value} {below : List Frame} {meth : Method} {c : Code} {T : State} {H : Heap} {locs : List Loc} {cells slots : Nat}
abbrev vx_CSW (R : Room) (s : State) (args : Array Value) (own : String) (index : Nat) (y : MethodName) (bytes : ByteArray) (maxL : Nat) (ret : Option FieldType) (hh : List (Nat × Nat × Nat × Nat)) (ws : List Cond) (rm : Room) (mc ms n : Nat) : Prop :=
  (rm.cells = mc ∧ rm.slots = ms ∧ rm.frames + 1 ≤ R.frames ∧ 8 + (maxL + 11) + rm.locals ≤ R.locals ∧ (∀ w ∈ ws, ∀ (a' : Array Value) (U : State), s.WarmedH U.vm → w.before a' U = true) ∧ Cond.codeWith y bytes maxL ret hh ∈ ws) ∧
  (Cond.codeWith y bytes maxL ret hh).before args s = true ∧ (Cond.initialized y.cls).before args s = true ∧ (y.cls ≠ "java/lang/invoke/MethodHandle" ∧ y.cls ≠ "java/lang/invoke/VarHandle") ∧
  (∀ sig, parseMethodDescriptor y.desc = some sig → n = sig.parameters.length) ∧ (Cond.methodLink own index y).before args s = true ∧ (Cond.static y).before args s = true
theorem vx_cwSW {own : String} {index maxL mc ms : Nat} {y : MethodName} {bytes : ByteArray} {ret : Option FieldType} {hh : List (Nat × Nat × Nat × Nat)} {Ts ws ws' : List Cond} {rm : Room} (n : Nat) (ht : ∀ w ∈ Ts, w.before args s = true) (hT : GoodIn Ts (va_wsS own index y ws)) (hw : ws = Cond.codeWith y bytes maxL ret hh :: ws') (hrc : rm.cells = mc) (hrs : rm.slots = ms)
    (hd : y.cls ≠ "java/lang/invoke/MethodHandle" ∧ y.cls ≠ "java/lang/invoke/VarHandle" ∧ (parseMethodDescriptor y.desc).map (fun d => d.parameters.length) = some n) (hR : rm.frames + 1 ≤ R.frames ∧ 8 + (maxL + 11) + rm.locals ≤ R.locals) :
    vx_CSW R s args own index y bytes maxL ret hh ws rm mc ms n := by
  have ok : ∀ w ∈ va_wsS own index y ws, w.before args s = true := fun w h => ht w (hT w h).1
  have hG : GoodIn Ts ws := fun w h => hT w (by unfold va_wsS; exact List.mem_append_right _ h)
  have hc : Cond.codeWith y bytes maxL ret hh ∈ ws := by rw [hw]; exact List.mem_cons_self
  refine ⟨⟨hrc, hrs, hR.1, hR.2, pay_in ht hG, hc⟩, ht _ (hG _ hc).1, ok _ (by simp [va_wsS]), ⟨hd.1, hd.2.1⟩, fun sig h => ?_, ok _ (by simp [va_wsS]), ok _ (by simp [va_wsS])⟩
  have h2 := hd.2.2
  rw [h] at h2
  exact (Option.some.inj h2).symm
theorem vx_callSW (X : Stand p l e R s m args below meth c T locs cells slots) (hexec : p.tables.exec = Jvm.exec) {own : String} {index : Nat} {y : MethodName} {bytes : ByteArray} {maxL : Nat} {ret : Option FieldType} {hh : List (Nat × Nat × Nat × Nat)}
    (hown : s.vm.findClass own = some m.cls) (hlink : (Cond.methodLink own index y).before args s = true) (hstat : (Cond.static y).before args s = true) (hinit : (Cond.initialized y.cls).before args s = true)
    (hcode : (Cond.codeWith y bytes maxL ret hh).before args s = true) (hy : y.cls ≠ "java/lang/invoke/MethodHandle" ∧ y.cls ≠ "java/lang/invoke/VarHandle")
    {W9 : Nat} {Pre : Pt → Array Value → Prop} {Post : Pt → Array Value → Option Value → Pt → Prop} (hK : Back l R p e below s args y 3 W9 Pre Post)
    {g : JFrame} (hg : g.method = m) (hsize : g.locals.size = c.maxLocals) {argsL rest : List Value} (hlen : ∀ sig, parseMethodDescriptor y.desc = some sig → argsL.length = sig.parameters.length)
    (hstack : g.stack = argsL.reverse ++ rest) (hW : 2 * g.monitorRoom + (rest.map fun v => v.category).sum ≤ W9) (hdg : decode c.code g.pc = .ok (.invokestatic index, 3))
    (hpre : ∀ vm₁, s.WarmedH vm₁ → Pre ⟨T.setVm vm₁, locs, cells, slots⟩ argsL.toArray) :
    ∃ (v : Option Value) (vm₁ : Vm) (B : Pt), s.WarmedH vm₁ ∧ Stand p l e R s m args below meth c B.U B.locs B.cells B.slots ∧ Post ⟨T.setVm vm₁, locs, cells, slots⟩ argsL.toArray v B ∧
      ∀ target, Steps p.tables e below (B.U.setTop { g with pc := g.pc + 3, stack := v.toList ++ rest }) target → Steps p.tables e below (T.setTop g) target := by
  obtain ⟨mk, methM, cM, hnamed, hmethM, -, -, -, -, -, -, hsigM⟩ := Cond.codeWith_spec hcode
  have hstatic : methM.isStatic = true := Cond.static_spec hnamed hmethM hstat
  obtain ⟨kP, hkP, -⟩ := className_of_methodNamed hnamed
  have hinitP : kP.init = .initialized := Cond.initialized_spec (findClass_of_methodNamed hnamed) hkP hinit
  obtain ⟨vm₁, X₁, hstep₁⟩ := X.invokestatic hexec hown hlink hnamed hmethM hstatic hkP hinitP hy (g := g) hg (argsL := argsL) (rest := rest) (hlen _ hsigM) hstack hdg
  obtain ⟨v, B, X', hpost, hsteps⟩ := hK m meth c ⟨T.setVm vm₁, locs, cells, slots⟩ { g with stack := rest } (.invokestatic index) mk argsL.toArray X₁ hg hsize hdg hW (X₁.named hnamed) (hpre vm₁ X₁.warmed)
  exact ⟨v, vm₁, B, X₁.warmed, X', hpost, fun target h => hstep₁ _ fun acts => by rw [doInvoke_state]; exact hsteps.trans h⟩
theorem vx_runSW {y : MethodName} {bytes cc : ByteArray} {maxL nL mc ms n index : Nat} {ret : Option FieldType} {hh : List (Nat × Nat × Nat × Nat)} {ws : List Cond} {rm : Room} {Pc : Array Value → State → Prop} {Qc : Array Value → State → Outcome → State → Prop} {free : Addr → Prop} {Ts : List Cond} {own : String} {As rest : List Value} {g : JFrame}
    (S : CallFix p m c cc nL s args Ts own) (hM : Met l y ws rm Pc Qc mc ms free) (cw : vx_CSW R s args own index y bytes maxL ret hh ws rm mc ms n) (hp : PreS s H Pc As)
    (hg : g.method = m) (hn : As.length = n) (hsize : g.locals.size = nL) (hstack : g.stack = As.reverse ++ rest) (hW : 2 * g.monitorRoom + (rest.map fun v => v.category).sum ≤ 8) (hdg : decode cc g.pc = .ok (.invokestatic index, 3)) (hf : cells + mc ≤ R.cells ∧ slots + ms ≤ R.slots) :
    va_Run p l e R s m args below meth c H locs cells slots mc ms g rest (Qc As.toArray) (free) := by
  obtain ⟨⟨hrc, hrs, hfr, hlo, hws, hcw⟩, hcode, hini, hy, hlen, hl, hstt⟩ := cw
  have hK : Back l R p e below s args y 3 8 (PreOf R mc ms Pc) (PostOf Qc mc ms free) := va_backW (hh := hh) (bytes := bytes) (maxL := maxL) (ret := ret) hM hp.1 hrc hrs hfr hlo hws hcw (fun a' U hW => word_at hW (Or.inl (by first | rfl | simp [Cond.onTables, Cond.keeps, Cond.steady])) hini)
  obtain ⟨hx, hb, hml, ho, -⟩ := S
  intro T hT X
  obtain ⟨v, vm₁, ⟨U', l2, c2, s2⟩, hW₁, X', ⟨g', mk, t, L, e1, e2, hq, h1, hL, h2, h3⟩, st⟩ := vx_callSW X hx (hh := hh) (bytes := bytes) (maxL := maxL) (ret := ret) ho hl hstt hini hcode hy hK hg (hsize.trans hml.symm) (argsL := As) (rest := rest) (fun sig h => hn.trans (hlen sig h)) hstack hW (by rw [hb]; exact hdg)
    (fun vm₁ hW₁ => ⟨hf.1, hf.2, hp.2 (T.setVm vm₁) hT hW₁⟩)
  dsimp only [Pt.U, Pt.locs, Pt.cells, Pt.slots] at X' e1 e2 h1 h2 h3 st
  subst h1; subst h2; subst h3
  exact ⟨v, (T.setVm vm₁).calling g' mk As.toArray, t, U', L, hT, X', hL, e1, e2, hq, st⟩
/-- not caught here, past rows that name other classes: it goes on to the caller -/
theorem vx_outP {p : Program} {l : Launch} {e : Env} {R : Room} {s : State} {m : MethodId} {args : Array Value} {below : List Frame} {meth : Method} {c : Code} {H : Heap} {locs : List Loc} {cells slots : Nat} {free : Addr → Prop} {ls : Array Slot} {rest : List Value} {Qc : Array Value → State → Outcome → State → Prop} {XC : String → State → State → Prop}
    {pc : Nat} {own E : String} {ce : Cell} {q : Addr} {mc ms : Nat} (hown : s.vm.findClass own = some m.cls) (hlocks : meth.locks = false)
    (hpass : ∀ z ∈ c.exceptionTable.toList, covers z pc = false ∨ (z.catchType ≠ 0 ∧ ∃ nm : String, (Cond.classLink own z.catchType nm).before args s = true ∧ va_Nc E nm s)) (hcell : H[q]? = some ce) (hv : ce.vm = .none) (hcl : s.vm.findClass E = some ce.cls)
    (hx : ∀ t : State, t.heap = H → s.vm.Alike t.vm → XC E s t) (hf : ∀ z ∈ locs, free z.base) (hc : cells ≤ mc) (hs : slots ≤ ms) :
    vx_W p l e R s m args below meth c H locs cells slots (vx_MQ below Qc XC args s mc ms free) (F0 m pc ls rest) q := by
  intro T hT X
  have hpl : e.platform.magicAccessors = ({} : Platform).magicAccessors := by rw [X.admits.platform]
  obtain ⟨vm', hW', X', st⟩ := X.outThrough hlocks q (g := F0 m pc ls rest) rfl rfl rfl (cell := ce) (by rw [hT]; exact hcell) (by rw [hv]; rfl)
    (by obtain ⟨k9, h9, -⟩ := Vm.findClass_spec hcl; exact ⟨k9, h9⟩) (fun z hz => by
      rcases hpass z hz with h | ⟨hz0, nm, hl1, hn1⟩
      · exact Or.inl h
      · obtain ⟨c6, hc6, hcl6⟩ := Cond.classLink_spec hown hl1 e.platform hpl
        obtain ⟨a8, b8, h1, h2, h3⟩ := hn1
        cases Option.some.inj (h1.symm.trans hcl)
        cases Option.some.inj (h2.symm.trans hc6)
        exact Or.inr ⟨hz0, _, hcl6, h3⟩)
  obtain ⟨g₀, hfr⟩ := X'.frames_eq
  have hcell9 : ((T.setVm vm').setFrames (.throwing q :: below)).heap[q]? = some ce := by
    show T.heap[q]? = some ce
    rw [hT]; exact hcell
  have hend : Ended ((T.setVm vm').setFrames (.throwing q :: below)) below (.threw q) := State.frames_setFrames _ (State.cur_lt_of_frames hfr)
  refine ⟨(T.setVm vm').setFrames (.throwing q :: below), ?_, .threw q, X'.here.running, hend, Or.inr ⟨q, rfl, E, ce, locs, hx _ hT (X'.ends _).1.alike, hcell9, hv, hcl, (X'.ends _).1, (X'.ends _).2.mono hc hs, hf⟩⟩
  rw [X.pushThrowing_eq]
  exact st
/-- a thing of a world lies in the heap -/
theorem vx_lt {D : va_G} {cl : List vw_C} {ws : va_W} {H1 : Heap} (h : va_P D cl ws H1) {k : Nat} {q : Nat × va_E} (hk : ws[k]? = some q) : q.1 < H1.size := (h k q hk).lt
end VXS
/-! ===== END ===== -/
/-! ===== BEGIN methods with a table of their own: called by a name, returning or throwing ===== -/
section VXH
/-! vx_backW, vx_callVX, vx_callSX, vx_callVW, vx_runVW, vx_runVX, vx_runSX, vx_ofWH follow the same proofs as their sisters above (Free/Laws.lean, Shelf42/LK1.lean); vx_outP calls Shelf42/NT130.lean (outThrough). -/
section
variable {l : Launch} {R : Room} {p : Program} {e : Env} {below : List Frame} {s : State} {sargs : Array Value} {y : MethodName} {len W9 : Nat}
theorem vx_backW {ws : List Cond} {rm : Room} {Pc : Array Value → State → Prop} {Qc : Array Value → State → Outcome → State → Prop} {XC : String → State → State → Prop} {mc ms : Nat} {free : Addr → Prop} {bytes : ByteArray} {maxL : Nat} {ret : Option FieldType} {hh : List (Nat × Nat × Nat × Nat)}
    (hM : vx_Met l y ws rm Pc Qc XC mc ms free) (hblind : FrameBlind Pc) (hrc : rm.cells = mc) (hrs : rm.slots = ms)
    (hframes : rm.frames + 1 ≤ R.frames) (hlocals : W9 + (maxL + 11) + rm.locals ≤ R.locals)
    (hws : ∀ w ∈ ws, ∀ a' U, s.WarmedH U.vm → w.before a' U = true) (hcode : Cond.codeWith y bytes maxL ret hh ∈ ws) (hinit : ∀ a' U, s.WarmedH U.vm → (Cond.initialized y.cls).before a' U = true) :
    vx_Back l R p e below s sargs y len W9 (PreOf R mc ms Pc) (PostOf Qc mc ms free) (vx_Post XC mc ms free) := by
  intro m meth c A g ig mk a X hg hsize hdg hW hn hp
  have h1 : (headSpec ws rm).pre.before a A.U = true := atoms_intro fun w hw => hws w hw _ _ X.warmed
  have h2 : (Cond.codeWith y bytes maxL ret hh).before a A.U = true := hws _ hcode _ _ X.warmed
  have h3 : (Cond.initialized y.cls).before a A.U = true := hinit _ _ X.warmed
  have h4 : A.cells + (headSpec ws rm).room.cells ≤ R.cells := by rw [show (headSpec ws rm).room.cells = mc from hrc]; exact hp.1
  have h5 : A.slots + (headSpec ws rm).room.slots ≤ R.slots := by rw [show (headSpec ws rm).room.slots = ms from hrs]; exact hp.2.1
  have hPc : Pc a (A.U.calling g mk a) := hblind _ _ _ _ hp.2.2
  obtain ⟨U, Ls, c0, s0⟩ := A
  dsimp only [Pt.U, Pt.locs, Pt.cells, Pt.slots] at h1 h2 h3 h4 h5 X hn hPc ⊢
  obtain ⟨m9, methY, cY, hn9, hmY, hcY, -, hlY, -⟩ := Cond.codeWith_spec h2
  cases Option.some.inj (hn9.symm.trans hn)
  obtain ⟨kY, hkY, -⟩ := className_of_methodNamed hn
  have hinitY : kY.init = .initialized := Cond.initialized_spec (findClass_of_methodNamed hn) hkY h3
  have h : At U g.method c below := by rw [hg]; exact X.here
  have hlocals9 : W9 + (maxL + 11) + (headSpec ws rm).room.locals ≤ R.locals := hlocals
  have happ : (headSpec ws rm).appliesLoose y e.platform (U.calling g mk a) = true :=
    Spec.appliesLoose_calling (g := g) h hdg hn hkY hinitY
      (X.room_calling (g := g) (R' := (headSpec ws rm).room) hsize hmY hcY hframes (by rw [hlY]; omega) h4 h5) h1
  obtain ⟨mid, hmid⟩ := h.above
  have hfr : (U.setTop g).frames = (.java g :: mid) ++ below := by rw [State.frames_setTop' g h.top, hmid]; rfl
  obtain ⟨o, s₂, hsteps, -, hend, hq⟩ := Steps.callFree hM p X.admits X.cas X.clock (acts := []) hfr happ hPc trivial
  have hq' : vx_Q Qc XC mc ms free a (U.calling g mk a) o s₂ := hq
  rw [State.frames_setTop' g h.top] at hend
  obtain ⟨g₀, hg0⟩ := Option.isSome_iff_exists.mp h.top
  obtain ⟨r, hr⟩ := State.topJava?_eq_some.mp hg0
  have hr' : (({ U with heap := s₂.heap, slotsUsed := s₂.slotsUsed } : State).setVm s₂.vm).frames = .java g₀ :: r := hr
  rcases hq' with ⟨hqc, L, hfe, hL⟩ | ⟨q, rfl, E, ce, L, hx, hce, hcv, hcl, hW₂, hsm, hL⟩
  · obtain ⟨⟨v, rfl⟩, hW₂, e2, q2, q3, q4, q5, q6⟩ := id hfe
    have e3 : s₂ = ({ (U.calling g mk a).setFrames s₂.frames with heap := s₂.heap, slotsUsed := s₂.slotsUsed } : State).setVm s₂.vm := by
      have : s₂ = ({ s₂ with vm := (U.calling g mk a).vm } : State).setVm s₂.vm := rfl
      rw [e2] at this
      exact this
    obtain ⟨c₂, i₂, len₂, hc₂, hd₂, hf₂⟩ := hend
    have hW' : U.WarmedH s₂.vm := hW₂
    have hcc : c₂ = c := by
      have h1 : s₂.code? g.method = U.code? g.method := by
        rw [State.code?_eq, State.code?_eq, hW'.alike.method?]
      exact Option.some.inj (hc₂.symm.trans (h1.trans h.code))
    subst hcc
    have hlen : len₂ = len := by rw [hdg] at hd₂; cases hd₂; rfl
    subst hlen
    have hs₂ : s₂ = (({ U with heap := s₂.heap, slotsUsed := s₂.slotsUsed } : State).setVm s₂.vm).setTop { g with pc := g.pc + len₂, stack := v.toList ++ g.stack } := by
      refine e3.trans ?_
      rw [hf₂, State.calling_eq h.top, State.setFrames_setFrames, State.setTop_of_frames _ hr', hr]
      rfl
    have hsame : U.sameButNew ({ U with heap := s₂.heap, slotsUsed := s₂.slotsUsed } : State) L mc ms := by
      refine ⟨?_, q2, q3, q4, q5, q6⟩
      obtain ⟨t, ht, -⟩ := State.frames_cons hr
      show ({ U with heap := s₂.heap, slotsUsed := s₂.slotsUsed } : State) = { U.setFrames U.frames with heap := s₂.heap, slotsUsed := s₂.slotsUsed }
      rw [State.setFrames_self ht]
    subst hg
    refine Or.inl ⟨v, ⟨(({ U with heap := s₂.heap, slotsUsed := s₂.slotsUsed } : State).setVm s₂.vm), Ls ++ L, c0 + mc, s0 + ms⟩,
      ⟨X.admits, X.cas, X.clock, X.frames, X.room, X.hears, X.method, X.code, (X.here.setHeapUsed s₂.heap s₂.slotsUsed).setVm hW'.alike, X.tail, State.WarmedH.trans X.warmed hW', X.limits, X.bytes, X.same.trans (hsame.setVm s.vm)⟩,
      ⟨g, mk, s₂, L, rfl, rfl, hqc, rfl, hL, rfl, rfl⟩, ?_⟩
    show Steps p.tables e below _ ((({ U with heap := s₂.heap, slotsUsed := s₂.slotsUsed } : State).setVm s₂.vm).setTop { g with pc := g.pc + len₂, stack := v.toList ++ g.stack })
    rw [← hs₂]
    exact hsteps
  · obtain ⟨e2, q2, q3, q4, q5, q6⟩ := id hsm
    have e3 : s₂ = ({ (U.calling g mk a).setFrames s₂.frames with heap := s₂.heap, slotsUsed := s₂.slotsUsed } : State).setVm s₂.vm := by
      have : s₂ = ({ s₂ with vm := (U.calling g mk a).vm } : State).setVm s₂.vm := rfl
      rw [e2] at this
      exact this
    have hf₂ : s₂.frames = .throwing q :: .java g :: U.frames.tail := hend
    have hW' : U.WarmedH s₂.vm := hW₂
    have hs₂ : s₂ = ((({ U with heap := s₂.heap, slotsUsed := s₂.slotsUsed } : State).setVm s₂.vm).setTop g).pushFrame (.throwing q) := by
      refine e3.trans ?_
      rw [hf₂, State.calling_eq h.top, State.setFrames_setFrames, State.pushFrame, State.frames_setTop _ hr', State.setTop_of_frames _ hr', State.setFrames_setFrames, hr]
      rfl
    have hsame : U.sameButNew ({ U with heap := s₂.heap, slotsUsed := s₂.slotsUsed } : State) L mc ms := by
      refine ⟨?_, q2, q3, q4, q5, q6⟩
      obtain ⟨t, ht, -⟩ := State.frames_cons hr
      show ({ U with heap := s₂.heap, slotsUsed := s₂.slotsUsed } : State) = { U.setFrames U.frames with heap := s₂.heap, slotsUsed := s₂.slotsUsed }
      rw [State.setFrames_self ht]
    subst hg
    refine Or.inr ⟨q, ⟨(({ U with heap := s₂.heap, slotsUsed := s₂.slotsUsed } : State).setVm s₂.vm), Ls ++ L, c0 + mc, s0 + ms⟩,
      ⟨X.admits, X.cas, X.clock, X.frames, X.room, X.hears, X.method, X.code, (X.here.setHeapUsed s₂.heap s₂.slotsUsed).setVm hW'.alike, X.tail, State.WarmedH.trans X.warmed hW', X.limits, X.bytes, X.same.trans (hsame.setVm s.vm)⟩,
      ⟨g, mk, s₂, L, E, ce, rfl, rfl, hx, hce, hcv, hcl, rfl, hL, rfl, rfl⟩, ?_⟩
    show Steps p.tables e below _ (((({ U with heap := s₂.heap, slotsUsed := s₂.slotsUsed } : State).setVm s₂.vm).setTop g).pushFrame (.throwing q))
    rw [← hs₂]
    exact hsteps
end
variable {p : Program} {l : Launch} {e : Env} {R : Room} {s : State} {m : MethodId} {args : Array Value} {below : List Frame} {meth : Method} {c : Code} {T : State} {H : Heap} {locs : List Loc} {cells slots : Nat}
theorem vx_callVX (X : Stand p l e R s m args below meth c T locs cells slots) (hexec : p.tables.exec = Jvm.exec) {own C : String} {index : Nat} {y : MethodName} {bytes : ByteArray} {maxL : Nat} {ret : Option FieldType} {hh : List (Nat × Nat × Nat × Nat)}
    (hown : s.vm.findClass own = some m.cls) (hlink : (Cond.methodLink own index y).before args s = true) (hinst : (Cond.instanceMethod y).before args s = true) (hsel : (Cond.selects C y y).before args s = true)
    (hcode : (Cond.codeWith y bytes maxL ret hh).before args s = true) (hy : y.cls ≠ "java/lang/invoke/MethodHandle" ∧ y.cls ≠ "java/lang/invoke/VarHandle")
    {W9 : Nat} {Pre : Pt → Array Value → Prop} {Post : Pt → Array Value → Option Value → Pt → Prop} {PostX : Pt → Array Value → Addr → Pt → Prop} (hK : vx_Back l R p e below s args y 3 W9 Pre Post PostX)
    {b : Addr} {cellB : Cell} (hcell : T.heap[b]? = some cellB) (hobj : cellB.vm.isStatics = false) (hcls : s.vm.findClass C = some cellB.cls)
    {g : JFrame} (hg : g.method = m) (hsize : g.locals.size = c.maxLocals) {argsL rest : List Value} (hlen : ∀ sig, parseMethodDescriptor y.desc = some sig → argsL.length = sig.parameters.length)
    (hstack : g.stack = argsL.reverse ++ .ref b :: rest) (hW : 2 * g.monitorRoom + (rest.map fun v => v.category).sum ≤ W9) (hdg : decode c.code g.pc = .ok (.invokevirtual index, 3))
    (hpre : ∀ vm₁, s.WarmedH vm₁ → Pre ⟨T.setVm vm₁, locs, cells, slots⟩ (Value.ref b :: argsL).toArray) :
    (∃ (v : Option Value) (vm₁ : Vm) (B : Pt), s.WarmedH vm₁ ∧ Stand p l e R s m args below meth c B.U B.locs B.cells B.slots ∧ Post ⟨T.setVm vm₁, locs, cells, slots⟩ (Value.ref b :: argsL).toArray v B ∧
      ∀ target, Steps p.tables e below (B.U.setTop { g with pc := g.pc + 3, stack := v.toList ++ rest }) target → Steps p.tables e below (T.setTop g) target) ∨
    (∃ (q : Addr) (vm₁ : Vm) (B : Pt), s.WarmedH vm₁ ∧ Stand p l e R s m args below meth c B.U B.locs B.cells B.slots ∧ PostX ⟨T.setVm vm₁, locs, cells, slots⟩ (Value.ref b :: argsL).toArray q B ∧
      Steps p.tables e below (T.setTop g) ((B.U.setTop { g with stack := rest }).pushFrame (.throwing q))) := by
  obtain ⟨mk, methM, hnamed, hmethM, hstM, habM⟩ := Cond.instanceMethod_spec hinst
  obtain ⟨m8, methM', cM, hn8, hmethM', -, -, -, -, -, -, hsigM⟩ := Cond.codeWith_spec hcode
  cases Option.some.inj (hn8.symm.trans hnamed)
  cases hmethM.symm.trans hmethM'
  obtain ⟨c2, r2, m2, q1, q2, q3, q4, kP, hkP, hkPi⟩ := Cond.selects_spec hsel
  cases hcls.symm.trans q1
  cases (State.methodFound?_of_named hnamed hy).symm.trans q2
  cases hnamed.symm.trans q3
  have hselP : selectMethod e.platform s.vm cellB.cls mk = .method mk := by rw [Launch.admits_selectMethod X.admits]; exact q4
  obtain ⟨vm₁, X₁, hstep₁⟩ := X.invokevirtual hexec hown hlink hnamed hmethM hstM hkP hkPi hy (a := b) (cell := cellB) hcell
    (fun z h => by rw [h] at hobj; cases hobj) hselP hmethM habM hkP hkPi (g := g) hg (argsL := argsL) (rest := rest) (hlen _ hsigM) hstack hdg
  rcases hK m meth c ⟨T.setVm vm₁, locs, cells, slots⟩ { g with stack := rest } (.invokevirtual index) mk (Value.ref b :: argsL).toArray X₁ hg hsize hdg hW (X₁.named hnamed) (hpre vm₁ X₁.warmed) with ⟨v, B, X', hpost, hsteps⟩ | ⟨q, B, X', hpost, hsteps⟩
  · exact Or.inl ⟨v, vm₁, B, X₁.warmed, X', hpost, fun target h => hstep₁ _ fun acts => by rw [doInvoke_state]; exact hsteps.trans h⟩
  · exact Or.inr ⟨q, vm₁, B, X₁.warmed, X', hpost, hstep₁ _ fun acts => by rw [doInvoke_state]; exact hsteps⟩
theorem vx_callSX (X : Stand p l e R s m args below meth c T locs cells slots) (hexec : p.tables.exec = Jvm.exec) {own : String} {index : Nat} {y : MethodName} {bytes : ByteArray} {maxL : Nat} {ret : Option FieldType} {hh : List (Nat × Nat × Nat × Nat)}
    (hown : s.vm.findClass own = some m.cls) (hlink : (Cond.methodLink own index y).before args s = true) (hstat : (Cond.static y).before args s = true) (hinit : (Cond.initialized y.cls).before args s = true)
    (hcode : (Cond.codeWith y bytes maxL ret hh).before args s = true) (hy : y.cls ≠ "java/lang/invoke/MethodHandle" ∧ y.cls ≠ "java/lang/invoke/VarHandle")
    {W9 : Nat} {Pre : Pt → Array Value → Prop} {Post : Pt → Array Value → Option Value → Pt → Prop} {PostX : Pt → Array Value → Addr → Pt → Prop} (hK : vx_Back l R p e below s args y 3 W9 Pre Post PostX)
    {g : JFrame} (hg : g.method = m) (hsize : g.locals.size = c.maxLocals) {argsL rest : List Value} (hlen : ∀ sig, parseMethodDescriptor y.desc = some sig → argsL.length = sig.parameters.length)
    (hstack : g.stack = argsL.reverse ++ rest) (hW : 2 * g.monitorRoom + (rest.map fun v => v.category).sum ≤ W9) (hdg : decode c.code g.pc = .ok (.invokestatic index, 3))
    (hpre : ∀ vm₁, s.WarmedH vm₁ → Pre ⟨T.setVm vm₁, locs, cells, slots⟩ argsL.toArray) :
    (∃ (v : Option Value) (vm₁ : Vm) (B : Pt), s.WarmedH vm₁ ∧ Stand p l e R s m args below meth c B.U B.locs B.cells B.slots ∧ Post ⟨T.setVm vm₁, locs, cells, slots⟩ argsL.toArray v B ∧
      ∀ target, Steps p.tables e below (B.U.setTop { g with pc := g.pc + 3, stack := v.toList ++ rest }) target → Steps p.tables e below (T.setTop g) target) ∨
    (∃ (q : Addr) (vm₁ : Vm) (B : Pt), s.WarmedH vm₁ ∧ Stand p l e R s m args below meth c B.U B.locs B.cells B.slots ∧ PostX ⟨T.setVm vm₁, locs, cells, slots⟩ argsL.toArray q B ∧
      Steps p.tables e below (T.setTop g) ((B.U.setTop { g with stack := rest }).pushFrame (.throwing q))) := by
  obtain ⟨mk, methM, cM, hnamed, hmethM, -, -, -, -, -, -, hsigM⟩ := Cond.codeWith_spec hcode
  have hstatic : methM.isStatic = true := Cond.static_spec hnamed hmethM hstat
  obtain ⟨kP, hkP, -⟩ := className_of_methodNamed hnamed
  have hinitP : kP.init = .initialized := Cond.initialized_spec (findClass_of_methodNamed hnamed) hkP hinit
  obtain ⟨vm₁, X₁, hstep₁⟩ := X.invokestatic hexec hown hlink hnamed hmethM hstatic hkP hinitP hy (g := g) hg (argsL := argsL) (rest := rest) (hlen _ hsigM) hstack hdg
  rcases hK m meth c ⟨T.setVm vm₁, locs, cells, slots⟩ { g with stack := rest } (.invokestatic index) mk argsL.toArray X₁ hg hsize hdg hW (X₁.named hnamed) (hpre vm₁ X₁.warmed) with ⟨v, B, X', hpost, hsteps⟩ | ⟨q, B, X', hpost, hsteps⟩
  · exact Or.inl ⟨v, vm₁, B, X₁.warmed, X', hpost, fun target h => hstep₁ _ fun acts => by rw [doInvoke_state]; exact hsteps.trans h⟩
  · exact Or.inr ⟨q, vm₁, B, X₁.warmed, X', hpost, hstep₁ _ fun acts => by rw [doInvoke_state]; exact hsteps⟩
theorem vx_callVW (X : Stand p l e R s m args below meth c T locs cells slots) (hexec : p.tables.exec = Jvm.exec) {own C : String} {index : Nat} {y : MethodName} {bytes : ByteArray} {maxL : Nat} {ret : Option FieldType} {hh : List (Nat × Nat × Nat × Nat)}
    (hown : s.vm.findClass own = some m.cls) (hlink : (Cond.methodLink own index y).before args s = true) (hinst : (Cond.instanceMethod y).before args s = true) (hsel : (Cond.selects C y y).before args s = true)
    (hcode : (Cond.codeWith y bytes maxL ret hh).before args s = true) (hy : y.cls ≠ "java/lang/invoke/MethodHandle" ∧ y.cls ≠ "java/lang/invoke/VarHandle")
    {W9 : Nat} {Pre : Pt → Array Value → Prop} {Post : Pt → Array Value → Option Value → Pt → Prop} (hK : Back l R p e below s args y 3 W9 Pre Post)
    {b : Addr} {cellB : Cell} (hcell : T.heap[b]? = some cellB) (hobj : cellB.vm.isStatics = false) (hcls : s.vm.findClass C = some cellB.cls)
    {g : JFrame} (hg : g.method = m) (hsize : g.locals.size = c.maxLocals) {argsL rest : List Value} (hlen : ∀ sig, parseMethodDescriptor y.desc = some sig → argsL.length = sig.parameters.length)
    (hstack : g.stack = argsL.reverse ++ .ref b :: rest) (hW : 2 * g.monitorRoom + (rest.map fun v => v.category).sum ≤ W9) (hdg : decode c.code g.pc = .ok (.invokevirtual index, 3))
    (hpre : ∀ vm₁, s.WarmedH vm₁ → Pre ⟨T.setVm vm₁, locs, cells, slots⟩ (Value.ref b :: argsL).toArray) :
    ∃ (v : Option Value) (vm₁ : Vm) (B : Pt), s.WarmedH vm₁ ∧ Stand p l e R s m args below meth c B.U B.locs B.cells B.slots ∧ Post ⟨T.setVm vm₁, locs, cells, slots⟩ (Value.ref b :: argsL).toArray v B ∧
      ∀ target, Steps p.tables e below (B.U.setTop { g with pc := g.pc + 3, stack := v.toList ++ rest }) target → Steps p.tables e below (T.setTop g) target := by
  obtain ⟨mk, methM, hnamed, hmethM, hstM, habM⟩ := Cond.instanceMethod_spec hinst
  obtain ⟨m8, methM', cM, hn8, hmethM', -, -, -, -, -, -, hsigM⟩ := Cond.codeWith_spec hcode
  cases Option.some.inj (hn8.symm.trans hnamed)
  cases hmethM.symm.trans hmethM'
  obtain ⟨c2, r2, m2, q1, q2, q3, q4, kP, hkP, hkPi⟩ := Cond.selects_spec hsel
  cases hcls.symm.trans q1
  cases (State.methodFound?_of_named hnamed hy).symm.trans q2
  cases hnamed.symm.trans q3
  have hselP : selectMethod e.platform s.vm cellB.cls mk = .method mk := by rw [Launch.admits_selectMethod X.admits]; exact q4
  obtain ⟨vm₁, X₁, hstep₁⟩ := X.invokevirtual hexec hown hlink hnamed hmethM hstM hkP hkPi hy (a := b) (cell := cellB) hcell
    (fun z h => by rw [h] at hobj; cases hobj) hselP hmethM habM hkP hkPi (g := g) hg (argsL := argsL) (rest := rest) (hlen _ hsigM) hstack hdg
  obtain ⟨v, B, X', hpost, hsteps⟩ := hK m meth c ⟨T.setVm vm₁, locs, cells, slots⟩ { g with stack := rest } (.invokevirtual index) mk (Value.ref b :: argsL).toArray X₁ hg hsize hdg hW (X₁.named hnamed) (hpre vm₁ X₁.warmed)
  exact ⟨v, vm₁, B, X₁.warmed, X', hpost, fun target h => hstep₁ _ fun acts => by rw [doInvoke_state]; exact hsteps.trans h⟩
abbrev vx_CVW (R : Room) (s : State) (args : Array Value) (own C : String) (index : Nat) (y : MethodName) (bytes : ByteArray) (maxL : Nat) (ret : Option FieldType) (hh : List (Nat × Nat × Nat × Nat)) (ws : List Cond) (rm : Room) (mc ms n : Nat) : Prop :=
  (rm.cells = mc ∧ rm.slots = ms ∧ rm.frames + 1 ≤ R.frames ∧ 8 + (maxL + 11) + rm.locals ≤ R.locals ∧ (∀ w ∈ ws, ∀ (a' : Array Value) (U : State), s.WarmedH U.vm → w.before a' U = true) ∧ Cond.codeWith y bytes maxL ret hh ∈ ws) ∧
  (Cond.codeWith y bytes maxL ret hh).before args s = true ∧ (Cond.initialized y.cls).before args s = true ∧ (y.cls ≠ "java/lang/invoke/MethodHandle" ∧ y.cls ≠ "java/lang/invoke/VarHandle") ∧
  (∀ sig, parseMethodDescriptor y.desc = some sig → n = sig.parameters.length) ∧ (Cond.methodLink own index y).before args s = true ∧ (Cond.instanceMethod y).before args s = true ∧ (Cond.selects C y y).before args s = true
theorem vx_cwVW {own C : String} {index maxL mc ms : Nat} {y : MethodName} {bytes : ByteArray} {ret : Option FieldType} {hh : List (Nat × Nat × Nat × Nat)} {Ts ws ws' : List Cond} {rm : Room} (n : Nat) (ht : ∀ w ∈ Ts, w.before args s = true) (hT : GoodIn Ts (wsV own index C y ws)) (hw : ws = Cond.codeWith y bytes maxL ret hh :: ws') (hrc : rm.cells = mc) (hrs : rm.slots = ms)
    (hd : y.cls = C ∧ y.cls ≠ "java/lang/invoke/MethodHandle" ∧ y.cls ≠ "java/lang/invoke/VarHandle" ∧ (parseMethodDescriptor y.desc).map (fun d => d.parameters.length) = some n) (hR : rm.frames + 1 ≤ R.frames ∧ 8 + (maxL + 11) + rm.locals ≤ R.locals) :
    vx_CVW R s args own C index y bytes maxL ret hh ws rm mc ms n := by
  obtain ⟨hC, hd⟩ := hd
  subst hC
  have ok : ∀ w ∈ wsV own index y.cls y ws, w.before args s = true := fun w h => ht w (hT w h).1
  have hG : GoodIn Ts ws := fun w h => hT w (by unfold wsV; exact List.mem_append_right _ h)
  have hc : Cond.codeWith y bytes maxL ret hh ∈ ws := by rw [hw]; exact List.mem_cons_self
  refine ⟨⟨hrc, hrs, hR.1, hR.2, pay_in ht hG, hc⟩, ht _ (hG _ hc).1, ok _ (by simp [wsV]), ⟨hd.1, hd.2.1⟩, fun sig h => ?_, ok _ (by simp [wsV]), ok _ (by simp [wsV]), ok _ (by simp [wsV])⟩
  have h2 := hd.2.2
  rw [h] at h2
  exact (Option.some.inj h2).symm
theorem vx_runVW {y : MethodName} {bytes cc : ByteArray} {maxL nL mc ms n index : Nat} {ret : Option FieldType} {hh : List (Nat × Nat × Nat × Nat)} {ws : List Cond} {rm : Room} {Pc : Array Value → State → Prop} {Qc : Array Value → State → Outcome → State → Prop} {free : Addr → Prop} {Ts : List Cond} {own C : String} {b : Addr} {As rest : List Value} {g : JFrame}
    (S : CallFix p m c cc nL s args Ts own) (hM : Met l y ws rm Pc Qc mc ms free) (cw : vx_CVW R s args own C index y bytes maxL ret hh ws rm mc ms n) (hp : PreV s H C b Pc As)
    (hg : g.method = m) (hn : As.length = n) (hsize : g.locals.size = nL) (hstack : g.stack = As.reverse ++ .ref b :: rest) (hW : 2 * g.monitorRoom + (rest.map fun v => v.category).sum ≤ 8) (hdg : decode cc g.pc = .ok (.invokevirtual index, 3)) (hf : cells + mc ≤ R.cells ∧ slots + ms ≤ R.slots) :
    va_Run p l e R s m args below meth c H locs cells slots mc ms g rest (Qc (Value.ref b :: As).toArray) free := by
  obtain ⟨⟨hrc, hrs, hfr, hlo, hws, hcw⟩, hcode, hini, hy, hlen, hl, hin, hse⟩ := cw
  have hK : Back l R p e below s args y 3 8 (PreOf R mc ms Pc) (PostOf Qc mc ms free) := va_backW (hh := hh) (bytes := bytes) (maxL := maxL) (ret := ret) hM hp.1 hrc hrs hfr hlo hws hcw (fun a' U hW => word_at hW (Or.inl (by first | rfl | simp [Cond.onTables, Cond.keeps, Cond.steady])) hini)
  obtain ⟨hx, hb, hml, ho, -⟩ := S
  obtain ⟨-, ⟨cellB, hcB, hoB, hclB⟩, hPc⟩ := hp
  intro T hT X
  obtain ⟨v, vm₁, ⟨U', l2, c2, s2⟩, hW₁, X', ⟨g', mk, t, L, e1, e2, hq, h1, hL, h2, h3⟩, st⟩ := vx_callVW X hx (C := C) (hh := hh) (bytes := bytes) (maxL := maxL) (ret := ret) ho hl hin hse hcode hy hK (by rw [hT]; exact hcB) hoB hclB hg (hsize.trans hml.symm) (argsL := As) (rest := rest) (fun sig h => hn.trans (hlen sig h)) hstack hW (by rw [hb]; exact hdg)
    (fun vm₁ hW₁ => ⟨hf.1, hf.2, hPc (T.setVm vm₁) hT hW₁⟩)
  dsimp only [Pt.U, Pt.locs, Pt.cells, Pt.slots] at X' e1 e2 h1 h2 h3 st
  subst h1; subst h2; subst h3
  exact ⟨v, (T.setVm vm₁).calling g' mk (Value.ref b :: As).toArray, t, U', L, hT, X', hL, e1, e2, hq, st⟩
section
variable {y : MethodName} {bytes cc : ByteArray} {maxL nL mc ms n index : Nat} {ret : Option FieldType} {ws : List Cond} {rm : Room} {Pc : Array Value → State → Prop} {Qc : Array Value → State → Outcome → State → Prop} {XC : String → State → State → Prop} {free : Addr → Prop} {Ts : List Cond} {own C : String} {b : Addr} {As rest : List Value} {g : JFrame}
theorem vx_runVX {hh : List (Nat × Nat × Nat × Nat)} (S : CallFix p m c cc nL s args Ts own) (hM : vx_Met l y ws rm Pc Qc XC mc ms free) (cw : vx_CVW R s args own C index y bytes maxL ret hh ws rm mc ms n) (hp : PreV s H C b Pc As)
    (hg : g.method = m) (hn : As.length = n) (hsize : g.locals.size = nL) (hstack : g.stack = As.reverse ++ .ref b :: rest) (hW : 2 * g.monitorRoom + (rest.map fun v => v.category).sum ≤ 8) (hdg : decode cc g.pc = .ok (.invokevirtual index, 3)) (hf : cells + mc ≤ R.cells ∧ slots + ms ≤ R.slots) :
    vx_Run p l e R s m args below meth c H locs cells slots mc ms g rest (Qc (Value.ref b :: As).toArray) XC free := by
  obtain ⟨⟨hrc, hrs, hfr, hlo, hws, hcw⟩, hcode, hini, hy, hlen, hl, hin, hse⟩ := cw
  have hK : vx_Back l R p e below s args y 3 8 (PreOf R mc ms Pc) (PostOf Qc mc ms free) (vx_Post XC mc ms free) := vx_backW (hh := hh) (bytes := bytes) (maxL := maxL) (ret := ret) hM hp.1 hrc hrs hfr hlo hws hcw (fun a' U hW => word_at hW (Or.inl (by first | rfl | simp [Cond.onTables, Cond.keeps, Cond.steady])) hini)
  obtain ⟨hx, hb, hml, ho, -⟩ := S
  obtain ⟨-, ⟨cellB, hcB, hoB, hclB⟩, hPc⟩ := hp
  intro T hT X
  rcases vx_callVX X hx (C := C) (hh := hh) (bytes := bytes) (maxL := maxL) (ret := ret) ho hl hin hse hcode hy hK (by rw [hT]; exact hcB) hoB hclB hg (hsize.trans hml.symm) (argsL := As) (rest := rest) (fun sig h => hn.trans (hlen sig h)) hstack hW (by rw [hb]; exact hdg)
    (fun vm₁ hW₁ => ⟨hf.1, hf.2, hPc (T.setVm vm₁) hT hW₁⟩) with ⟨v, vm₁, ⟨U', l2, c2, s2⟩, hW₁, X', ⟨g', mk, t, L, e1, e2, hq, h1, hL, h2, h3⟩, st⟩ | ⟨q, vm₁, ⟨U', l2, c2, s2⟩, hW₁, X', ⟨g', mk, t, L, E, ce, e1, e2, hq, hce, hcv, hcl, h1, hL, h2, h3⟩, st⟩
  · dsimp only [Pt.U, Pt.locs, Pt.cells, Pt.slots] at X' e1 e2 h1 h2 h3 st
    subst h1; subst h2; subst h3
    exact Or.inl ⟨v, (T.setVm vm₁).calling g' mk (Value.ref b :: As).toArray, t, U', L, hT, X', hL, e1, e2, hq, st⟩
  · dsimp only [Pt.U, Pt.locs, Pt.cells, Pt.slots] at X' e1 e2 h1 h2 h3 st hcl
    subst h1; subst h2; subst h3
    exact Or.inr ⟨q, (T.setVm vm₁).calling g' mk (Value.ref b :: As).toArray, t, U', L, E, ce, hT, X', hL, e1, e2, hq, hce, hcv, vx_cls hW₁ hcl, st⟩
theorem vx_runSX {hh : List (Nat × Nat × Nat × Nat)} (S : CallFix p m c cc nL s args Ts own) (hM : vx_Met l y ws rm Pc Qc XC mc ms free) (cw : vx_CSW R s args own index y bytes maxL ret hh ws rm mc ms n) (hp : PreS s H Pc As)
    (hg : g.method = m) (hn : As.length = n) (hsize : g.locals.size = nL) (hstack : g.stack = As.reverse ++ rest) (hW : 2 * g.monitorRoom + (rest.map fun v => v.category).sum ≤ 8) (hdg : decode cc g.pc = .ok (.invokestatic index, 3)) (hf : cells + mc ≤ R.cells ∧ slots + ms ≤ R.slots) :
    vx_Run p l e R s m args below meth c H locs cells slots mc ms g rest (Qc As.toArray) XC free := by
  obtain ⟨⟨hrc, hrs, hfr, hlo, hws, hcw⟩, hcode, hini, hy, hlen, hl, hstt⟩ := cw
  have hK : vx_Back l R p e below s args y 3 8 (PreOf R mc ms Pc) (PostOf Qc mc ms free) (vx_Post XC mc ms free) := vx_backW (hh := hh) (bytes := bytes) (maxL := maxL) (ret := ret) hM hp.1 hrc hrs hfr hlo hws hcw (fun a' U hW => word_at hW (Or.inl (by first | rfl | simp [Cond.onTables, Cond.keeps, Cond.steady])) hini)
  obtain ⟨hx, hb, hml, ho, -⟩ := S
  intro T hT X
  rcases vx_callSX X hx (hh := hh) (bytes := bytes) (maxL := maxL) (ret := ret) ho hl hstt hini hcode hy hK hg (hsize.trans hml.symm) (argsL := As) (rest := rest) (fun sig h => hn.trans (hlen sig h)) hstack hW (by rw [hb]; exact hdg)
    (fun vm₁ hW₁ => ⟨hf.1, hf.2, hp.2 (T.setVm vm₁) hT hW₁⟩) with ⟨v, vm₁, ⟨U', l2, c2, s2⟩, hW₁, X', ⟨g', mk, t, L, e1, e2, hq, h1, hL, h2, h3⟩, st⟩ | ⟨q, vm₁, ⟨U', l2, c2, s2⟩, hW₁, X', ⟨g', mk, t, L, E, ce, e1, e2, hq, hce, hcv, hcl, h1, hL, h2, h3⟩, st⟩
  · dsimp only [Pt.U, Pt.locs, Pt.cells, Pt.slots] at X' e1 e2 h1 h2 h3 st
    subst h1; subst h2; subst h3
    exact Or.inl ⟨v, (T.setVm vm₁).calling g' mk As.toArray, t, U', L, hT, X', hL, e1, e2, hq, st⟩
  · dsimp only [Pt.U, Pt.locs, Pt.cells, Pt.slots] at X' e1 e2 h1 h2 h3 st hcl
    subst h1; subst h2; subst h3
    exact Or.inr ⟨q, (T.setVm vm₁).calling g' mk As.toArray, t, U', L, E, ce, hT, X', hL, e1, e2, hq, hce, hcv, vx_cls hW₁ hcl, st⟩
end
end VXH
theorem vx_ofWH {l : Launch} {y : MethodName} {ws ws' : List Cond} {rm : Room} {Pc : Array Value → State → Prop} {Qc : Array Value → State → Outcome → State → Prop} {XC : String → State → State → Prop} {mc ms : Nat} {free : Addr → Prop} {cc : ByteArray} {maxL : Nat} {ret : Option FieldType} {hh : List (Nat × Nat × Nat × Nat)}
    (hy : plainName y.cls = true) (hw : ws = Cond.codeWith y cc maxL ret hh :: ws')
    (body : ∀ p e s m args below meth c s₁, BodyLoose p l y (headSpec ws rm) cc maxL ret e s m args below meth c s₁ → c.maxLocals = maxL → Pc args s →
      W p l e (headSpec ws rm).room s m args below meth c s.heap [] 0 0 (vx_MQ below Qc XC args s mc ms free) (entryFrame m args maxL)) : vx_Met l y ws rm Pc Qc XC mc ms free := by
  refine MetFree.of_bodyS (code := cc) (maxLocals := maxL) (ret := ret) hy ?_ ?_
  · intro args s m h hn
    obtain ⟨m9, meth, c, hn9, h1, h2, h3, h4, -, h5, h6, -⟩ := Cond.codeWith_spec (atoms_spec (ws := ws) h _ (by rw [hw]; exact List.mem_cons_self))
    cases hn.symm.trans hn9
    exact ⟨meth, c, h1, h2, h3, h4, h5, h6⟩
  · intro p e s m args below meth c s₁ B hml hP _
    have hh0 : s₁.heap = s.heap := by rw [B.state]; rfl
    obtain ⟨t, a1, o, b1, b2, b3⟩ := body p e s m args below meth c s₁ B hml hP s₁ hh0 (Stand.of_body B)
    exact ⟨t, o, a1, b1, b2, b3⟩
/-! ===== END ===== -/

theorem goodIn_s {big ws : List Cond} (ps : List Nat) (hp : ps.map (fun i => big[i]?) = ws.map some) (h : ws.all goodWord = true) : GoodIn big ws := by
  intro w hw
  have h1 : some w ∈ ps.map (fun i => big[i]?) := by rw [hp]; exact List.mem_map.mpr ⟨w, hw, rfl⟩
  obtain ⟨i, -, hi⟩ := List.mem_map.mp h1
  exact ⟨List.mem_of_getElem? hi, good_of_word (List.all_eq_true.mp h w hw)⟩
theorem goodIn_f {big L : List Cond} (hm : ∀ w ∈ L.filter goodWord, w ∈ big) : GoodIn big (L.filter goodWord) := goodIn_sub hm (List.all_eq_true.mpr (fun _ h => (List.mem_filter.mp h).2))
end
section
/-! ===== BEGIN printed: names, fields, word lists, decode rows ===== -/
def RX0 : String := "BallotLoom$Box"
def TX0 : u_T := fun k => match k with
  | 0 => ("BallotLoom$Box", "partyOf", "[I", true)
  | 1 => ("BallotLoom$Box", "stands", "[Z", true)
  | 2 => ("BallotLoom$Box", "candidates", "I", false)
  | 3 => ("BallotLoom$Box", "standing", "I", false)
  | 4 => ("BallotLoom$Box", "seatsOf", "[I", true)
  | 5 => ("BallotLoom$Box", "districts", "I", false)
  | 6 => ("BallotLoom$Box", "stacks", "[LBallotLoom$Stack;", true)
  | 7 => ("BallotLoom$Box", "cast", "I", false)
  | 8 => ("BallotLoom$Box", "percent", "I", false)
  | 9 => ("BallotLoom$Box", "isSealed", "Z", false)
  | _ => ("BallotLoom$Box", "refused", "I", false)
def tyX0 : Nat → FieldType := fun k => match k with
  | 0 => .array .int
  | 1 => .array .boolean
  | 2 => .int
  | 3 => .int
  | 4 => .array .int
  | 5 => .int
  | 6 => .array (.object "BallotLoom$Stack")
  | 7 => .int
  | 8 => .int
  | 9 => .boolean
  | _ => .int
abbrev wsX00 : List Cond := u_ws RX0 TX0 11
theorem nmX0 : ∀ a, a < 11 → ∀ b, b < 11 → a ≠ b → (TX0 a).2.1 ≠ (TX0 b).2.1 := by decide +kernel
theorem tyX0_ok : ∀ k, k < 11 → parseFieldDescriptor (TX0 k).2.2.1 = some (tyX0 k) := by decide +kernel
abbrev cX0_init : ByteArray := prog_2_method_1_code
def yX0_init : MethodName := ⟨RX0, "<init>", "()V"⟩
abbrev cX0_addCandidate : ByteArray := prog_2_method_2_code
def yX0_addCandidate : MethodName := ⟨RX0, "addCandidate", "(I)I"⟩
abbrev cX0_addDistrict : ByteArray := prog_2_method_3_code
def yX0_addDistrict : MethodName := ⟨RX0, "addDistrict", "(I)I"⟩
abbrev cX0_addStack : ByteArray := prog_2_method_4_code
def yX0_addStack : MethodName := ⟨RX0, "addStack", "(III)I"⟩
abbrev cX0_takeOff : ByteArray := prog_2_method_5_code
def yX0_takeOff : MethodName := ⟨RX0, "takeOff", "(I)V"⟩
abbrev cX0_isStanding : ByteArray := prog_2_method_6_code
def yX0_isStanding : MethodName := ⟨RX0, "isStanding", "(I)Z"⟩
abbrev cX0_standingOf : ByteArray := prog_2_method_7_code
def yX0_standingOf : MethodName := ⟨RX0, "standingOf", "(I)I"⟩
abbrev cX0_spoiledStacks : ByteArray := prog_2_method_8_code
def yX0_spoiledStacks : MethodName := ⟨RX0, "spoiledStacks", "()I"⟩
abbrev cX0_allCounts : ByteArray := prog_2_method_9_code
def yX0_allCounts : MethodName := ⟨RX0, "allCounts", "()I"⟩
abbrev cX0_countsOfLists : ByteArray := prog_2_method_10_code
def yX0_countsOfLists : MethodName := ⟨RX0, "countsOfLists", "()I"⟩
abbrev cX0_countsOfListsIn : ByteArray := prog_2_method_11_code
def yX0_countsOfListsIn : MethodName := ⟨RX0, "countsOfListsIn", "(I)I"⟩
abbrev cX0_figure : ByteArray := prog_2_method_12_code
def yX0_figure : MethodName := ⟨RX0, "figure", "(I)I"⟩
def RX1 : String := "BallotLoom$Parties"
def TX1 : u_T := fun k => match k with
  | 0 => ("BallotLoom$Parties", "votes", "[I", true)
  | 1 => ("BallotLoom$Parties", "allVotes", "I", false)
  | 2 => ("BallotLoom$Parties", "standing", "[I", true)
  | 3 => ("BallotLoom$Parties", "isBarred", "[Z", true)
  | 4 => ("BallotLoom$Parties", "direct", "[I", true)
  | 5 => ("BallotLoom$Parties", "wasted", "[I", true)
  | 6 => ("BallotLoom$Parties", "seats", "[I", true)
  | 7 => ("BallotLoom$Parties", "votesHere", "[I", true)
  | _ => ("BallotLoom$Parties", "remainders", "[I", true)
def tyX1 : Nat → FieldType := fun k => match k with
  | 0 => .array .int
  | 1 => .int
  | 2 => .array .int
  | 3 => .array .boolean
  | 4 => .array .int
  | 5 => .array .int
  | 6 => .array .int
  | 7 => .array .int
  | _ => .array .int
abbrev wsX10 : List Cond := u_ws RX1 TX1 9
theorem nmX1 : ∀ a, a < 9 → ∀ b, b < 9 → a ≠ b → (TX1 a).2.1 ≠ (TX1 b).2.1 := by decide +kernel
theorem tyX1_ok : ∀ k, k < 9 → parseFieldDescriptor (TX1 k).2.2.1 = some (tyX1 k) := by decide +kernel
abbrev cX1_init : ByteArray := prog_3_method_1_code
def yX1_init : MethodName := ⟨RX1, "<init>", "()V"⟩
abbrev cX1_countVotes : ByteArray := prog_3_method_2_code
def yX1_countVotes : MethodName := ⟨RX1, "countVotes", "(LBallotLoom$Box;)V"⟩
abbrev cX1_barredSet : ByteArray := prog_3_method_3_code
def yX1_barredSet : MethodName := ⟨RX1, "barredSet", "()I"⟩
abbrev cX1_countDistricts : ByteArray := prog_3_method_4_code
def yX1_countDistricts : MethodName := ⟨RX1, "countDistricts", "(LBallotLoom$Box;LBallotLoom$Poll;)V"⟩
abbrev cX1_countVotesHere : ByteArray := prog_3_method_5_code
def yX1_countVotesHere : MethodName := ⟨RX1, "countVotesHere", "(LBallotLoom$Box;LBallotLoom$Poll;)I"⟩
abbrev cX1_addWasted : ByteArray := prog_3_method_6_code
def yX1_addWasted : MethodName := ⟨RX1, "addWasted", "(II)V"⟩
abbrev cX1_figure : ByteArray := prog_3_method_7_code
def yX1_figure : MethodName := ⟨RX1, "figure", "(II)I"⟩
abbrev cX1_shareSeats : ByteArray := prog_3_method_8_code
def yX1_shareSeats : MethodName := ⟨RX1, "shareSeats", "(II)V"⟩
abbrev cX1_takesPart : ByteArray := prog_3_method_9_code
def yX1_takesPart : MethodName := ⟨RX1, "takesPart", "(I)Z"⟩
abbrev cX1_shareByDivisors : ByteArray := prog_3_method_10_code
def yX1_shareByDivisors : MethodName := ⟨RX1, "shareByDivisors", "(II)V"⟩
abbrev cX1_shareByRemainders : ByteArray := prog_3_method_11_code
def yX1_shareByRemainders : MethodName := ⟨RX1, "shareByRemainders", "(I)V"⟩
abbrev cX1_giveToGreatestRemainder : ByteArray := prog_3_method_12_code
def yX1_giveToGreatestRemainder : MethodName := ⟨RX1, "giveToGreatestRemainder", "()V"⟩
abbrev cX1_seatsTogether : ByteArray := prog_3_method_14_code
def yX1_seatsTogether : MethodName := ⟨RX1, "seatsTogether", "(I)I"⟩
abbrev cX1_isRuling : ByteArray := prog_3_method_15_code
def yX1_isRuling : MethodName := ⟨RX1, "isRuling", "(II)Z"⟩
abbrev cX1_swingsOf : ByteArray := prog_3_method_16_code
def yX1_swingsOf : MethodName := ⟨RX1, "swingsOf", "(II)I"⟩
abbrev cX1_leastRulers : ByteArray := prog_3_method_17_code
def yX1_leastRulers : MethodName := ⟨RX1, "leastRulers", "(I)I"⟩
abbrev cX1_isLess : ByteArray := prog_3_method_18_code
def yX1_isLess : MethodName := ⟨RX1, "isLess", "(II)Z"⟩
def RX2 : String := "BallotLoom$Poll"
def TX2 : u_T := fun k => match k with
  | 0 => ("BallotLoom$Poll", "firsts", "[I", true)
  | 1 => ("BallotLoom$Poll", "points", "[D", true)
  | 2 => ("BallotLoom$Poll", "beats", "[[I", true)
  | 3 => ("BallotLoom$Poll", "paths", "[[I", true)
  | 4 => ("BallotLoom$Poll", "goneOut", "[I", true)
  | 5 => ("BallotLoom$Poll", "isIn", "[Z", true)
  | _ => ("BallotLoom$Poll", "behind", "[I", true)
def tyX2 : Nat → FieldType := fun k => match k with
  | 0 => .array .int
  | 1 => .array .double
  | 2 => .array (.array .int)
  | 3 => .array (.array .int)
  | 4 => .array .int
  | 5 => .array .boolean
  | _ => .array .int
abbrev wsX20 : List Cond := u_ws RX2 TX2 7
theorem nmX2 : ∀ a, a < 7 → ∀ b, b < 7 → a ≠ b → (TX2 a).2.1 ≠ (TX2 b).2.1 := by decide +kernel
theorem tyX2_ok : ∀ k, k < 7 → parseFieldDescriptor (TX2 k).2.2.1 = some (tyX2 k) := by decide +kernel
abbrev cX2_init : ByteArray := prog_4_method_1_code
def yX2_init : MethodName := ⟨RX2, "<init>", "()V"⟩
abbrev cX2_winnerBy : ByteArray := prog_4_method_2_code
def yX2_winnerBy : MethodName := ⟨RX2, "winnerBy", "(LBallotLoom$Box;II)I"⟩
abbrev cX2_countFirsts : ByteArray := prog_4_method_3_code
def yX2_countFirsts : MethodName := ⟨RX2, "countFirsts", "(LBallotLoom$Box;I)V"⟩
abbrev cX2_mostFirsts : ByteArray := prog_4_method_4_code
def yX2_mostFirsts : MethodName := ⟨RX2, "mostFirsts", "(LBallotLoom$Box;)I"⟩
abbrev cX2_countPoints : ByteArray := prog_4_method_5_code
def yX2_countPoints : MethodName := ⟨RX2, "countPoints", "(LBallotLoom$Box;I)V"⟩
abbrev cX2_addPoints : ByteArray := prog_4_method_6_code
def yX2_addPoints : MethodName := ⟨RX2, "addPoints", "(LBallotLoom$Box;LBallotLoom$Stack;)V"⟩
abbrev cX2_mostPoints : ByteArray := prog_4_method_7_code
def yX2_mostPoints : MethodName := ⟨RX2, "mostPoints", "(LBallotLoom$Box;)I"⟩
abbrev cX2_countPairs : ByteArray := prog_4_method_8_code
def yX2_countPairs : MethodName := ⟨RX2, "countPairs", "(LBallotLoom$Box;I)V"⟩
abbrev cX2_addBeats : ByteArray := prog_4_method_9_code
def yX2_addBeats : MethodName := ⟨RX2, "addBeats", "(LBallotLoom$Box;LBallotLoom$Stack;)V"⟩
abbrev cX2_findPaths : ByteArray := prog_4_method_10_code
def yX2_findPaths : MethodName := ⟨RX2, "findPaths", "()V"⟩
abbrev cX2_widestPaths : ByteArray := prog_4_method_11_code
def yX2_widestPaths : MethodName := ⟨RX2, "widestPaths", "(LBallotLoom$Box;)I"⟩
abbrev cX2_isNowhereNarrower : ByteArray := prog_4_method_12_code
def yX2_isNowhereNarrower : MethodName := ⟨RX2, "isNowhereNarrower", "(LBallotLoom$Box;I)Z"⟩
abbrev cX2_goRounds : ByteArray := prog_4_method_13_code
def yX2_goRounds : MethodName := ⟨RX2, "goRounds", "(LBallotLoom$Box;I)I"⟩
abbrev cX2_countBehind : ByteArray := prog_4_method_14_code
def yX2_countBehind : MethodName := ⟨RX2, "countBehind", "(LBallotLoom$Box;I)I"⟩
abbrev cX2_mostBehind : ByteArray := prog_4_method_15_code
def yX2_mostBehind : MethodName := ⟨RX2, "mostBehind", "()I"⟩
abbrev cX2_leastBehind : ByteArray := prog_4_method_16_code
def yX2_leastBehind : MethodName := ⟨RX2, "leastBehind", "(I)I"⟩
abbrev cX2_isNoStronger : ByteArray := prog_4_method_17_code
def yX2_isNoStronger : MethodName := ⟨RX2, "isNoStronger", "(II)Z"⟩
abbrev cX2_leastShift : ByteArray := prog_4_method_18_code
def yX2_leastShift : MethodName := ⟨RX2, "leastShift", "(LBallotLoom$Box;I)I"⟩
abbrev cX2_shiftTo : ByteArray := prog_4_method_19_code
def yX2_shiftTo : MethodName := ⟨RX2, "shiftTo", "(II)I"⟩
def RX3 : String := "BallotLoom$Stack"
def TX3 : u_T := fun k => match k with
  | 0 => ("BallotLoom$Stack", "district", "I", false)
  | 1 => ("BallotLoom$Stack", "ranks", "I", false)
  | 2 => ("BallotLoom$Stack", "count", "I", false)
  | 3 => ("BallotLoom$Stack", "isSpoiled", "Z", false)
  | 4 => ("BallotLoom$Stack", "list", "[I", true)
  | 5 => ("BallotLoom$Stack", "length", "I", false)
  | _ => ("BallotLoom$Stack", "value", "D", false)
def tyX3 : Nat → FieldType := fun k => match k with
  | 0 => .int
  | 1 => .int
  | 2 => .int
  | 3 => .boolean
  | 4 => .array .int
  | 5 => .int
  | _ => .double
abbrev wsX30 : List Cond := u_ws RX3 TX3 7
theorem nmX3 : ∀ a, a < 7 → ∀ b, b < 7 → a ≠ b → (TX3 a).2.1 ≠ (TX3 b).2.1 := by decide +kernel
theorem tyX3_ok : ∀ k, k < 7 → parseFieldDescriptor (TX3 k).2.2.1 = some (tyX3 k) := by decide +kernel
abbrev cX3_init : ByteArray := prog_5_method_1_code
def yX3_init : MethodName := ⟨RX3, "<init>", "()V"⟩
abbrev cX3_setRanks : ByteArray := prog_5_method_2_code
def yX3_setRanks : MethodName := ⟨RX3, "setRanks", "(ILBallotLoom$Box;)V"⟩
abbrev cX3_makeList : ByteArray := prog_5_method_3_code
def yX3_makeList : MethodName := ⟨RX3, "makeList", "(LBallotLoom$Box;)V"⟩
abbrev cX3_setListWithFirst : ByteArray := prog_5_method_4_code
def yX3_setListWithFirst : MethodName := ⟨RX3, "setListWithFirst", "(LBallotLoom$Stack;I)V"⟩
abbrev cX3_isSpoiling : ByteArray := prog_5_method_5_code
def yX3_isSpoiling : MethodName := ⟨RX3, "isSpoiling", "(II)Z"⟩
abbrev cX3_countsIn : ByteArray := prog_5_method_6_code
def yX3_countsIn : MethodName := ⟨RX3, "countsIn", "(I)Z"⟩
abbrev cX3_placeOf : ByteArray := prog_5_method_7_code
def yX3_placeOf : MethodName := ⟨RX3, "placeOf", "(I)I"⟩
abbrev cX3_firstOf : ByteArray := prog_5_method_8_code
def yX3_firstOf : MethodName := ⟨RX3, "firstOf", "([Z)I"⟩
abbrev cX3_figure : ByteArray := prog_5_method_9_code
def yX3_figure : MethodName := ⟨RX3, "figure", "(I)I"⟩
def RX4 : String := "BallotLoom$Transfers"
def TX4 : u_T := fun k => match k with
  | 0 => ("BallotLoom$Transfers", "chosen", "[I", true)
  | 1 => ("BallotLoom$Transfers", "isIn", "[Z", true)
  | _ => ("BallotLoom$Transfers", "held", "[D", true)
def tyX4 : Nat → FieldType := fun k => match k with
  | 0 => .array .int
  | 1 => .array .boolean
  | _ => .array .double
abbrev wsX40 : List Cond := u_ws RX4 TX4 3
theorem nmX4 : ∀ a, a < 3 → ∀ b, b < 3 → a ≠ b → (TX4 a).2.1 ≠ (TX4 b).2.1 := by decide +kernel
theorem tyX4_ok : ∀ k, k < 3 → parseFieldDescriptor (TX4 k).2.2.1 = some (tyX4 k) := by decide +kernel
abbrev cX4_init : ByteArray := prog_6_method_1_code
def yX4_init : MethodName := ⟨RX4, "<init>", "()V"⟩
abbrev cX4_fillSeats : ByteArray := prog_6_method_2_code
def yX4_fillSeats : MethodName := ⟨RX4, "fillSeats", "(LBallotLoom$Box;I)V"⟩
abbrev cX4_start : ByteArray := prog_6_method_3_code
def yX4_start : MethodName := ⟨RX4, "start", "(LBallotLoom$Box;I)V"⟩
abbrev cX4_countHeld : ByteArray := prog_6_method_4_code
def yX4_countHeld : MethodName := ⟨RX4, "countHeld", "(LBallotLoom$Box;I)V"⟩
abbrev cX4_mostHeld : ByteArray := prog_6_method_5_code
def yX4_mostHeld : MethodName := ⟨RX4, "mostHeld", "()I"⟩
abbrev cX4_leastHeld : ByteArray := prog_6_method_6_code
def yX4_leastHeld : MethodName := ⟨RX4, "leastHeld", "(I)I"⟩
abbrev cX4_lowerValues : ByteArray := prog_6_method_7_code
def yX4_lowerValues : MethodName := ⟨RX4, "lowerValues", "(LBallotLoom$Box;III)V"⟩
abbrev cX4_loweredValue : ByteArray := prog_6_method_8_code
def yX4_loweredValue : MethodName := ⟨RX4, "loweredValue", "(DDI)D"⟩
def RX5 : String := "BallotLoom"
def TX5 : u_T := fun k => match k with
  | 0 => ("BallotLoom", "box", "LBallotLoom$Box;", true)
  | 1 => ("BallotLoom", "poll", "LBallotLoom$Poll;", true)
  | 2 => ("BallotLoom", "transfers", "LBallotLoom$Transfers;", true)
  | 3 => ("BallotLoom", "parties", "LBallotLoom$Parties;", true)
  | _ => ("BallotLoom", "spare", "LBallotLoom$Stack;", true)
def tyX5 : Nat → FieldType := fun k => match k with
  | 0 => .object "BallotLoom$Box"
  | 1 => .object "BallotLoom$Poll"
  | 2 => .object "BallotLoom$Transfers"
  | 3 => .object "BallotLoom$Parties"
  | _ => .object "BallotLoom$Stack"
abbrev wsX50 : List Cond := u_ws RX5 TX5 5
theorem nmX5 : ∀ a, a < 5 → ∀ b, b < 5 → a ≠ b → (TX5 a).2.1 ≠ (TX5 b).2.1 := by decide +kernel
theorem tyX5_ok : ∀ k, k < 5 → parseFieldDescriptor (TX5 k).2.2.1 = some (tyX5 k) := by decide +kernel
abbrev cX5_init : ByteArray := prog_1_method_1_code
def yX5_init : MethodName := ⟨RX5, "<init>", "()V"⟩
abbrev cX5_candidate : ByteArray := prog_1_method_2_code
def yX5_candidate : MethodName := ⟨RX5, "candidate", "(I)I"⟩
abbrev cX5_withdraw : ByteArray := prog_1_method_3_code
def yX5_withdraw : MethodName := ⟨RX5, "withdraw", "(I)I"⟩
abbrev cX5_district : ByteArray := prog_1_method_4_code
def yX5_district : MethodName := ⟨RX5, "district", "(I)I"⟩
abbrev cX5_cast : ByteArray := prog_1_method_5_code
def yX5_cast : MethodName := ⟨RX5, "cast", "(III)I"⟩
abbrev cX5_recount : ByteArray := prog_1_method_6_code
def yX5_recount : MethodName := ⟨RX5, "recount", "(II)I"⟩
abbrev cX5_move : ByteArray := prog_1_method_7_code
def yX5_move : MethodName := ⟨RX5, "move", "(II)I"⟩
abbrev cX5_threshold : ByteArray := prog_1_method_8_code
def yX5_threshold : MethodName := ⟨RX5, "threshold", "(I)I"⟩
abbrev cX5_seal : ByteArray := prog_1_method_9_code
def yX5_seal : MethodName := ⟨RX5, "seal", "(Z)Z"⟩
abbrev cX5_ofStack : ByteArray := prog_1_method_11_code
def yX5_ofStack : MethodName := ⟨RX5, "ofStack", "(II)I"⟩
abbrev cX5_winner : ByteArray := prog_1_method_15_code
def yX5_winner : MethodName := ⟨RX5, "winner", "(II)I"⟩
abbrev cX5_ofParty : ByteArray := prog_1_method_19_code
def yX5_ofParty : MethodName := ⟨RX5, "ofParty", "(II)I"⟩
abbrev cX5_share : ByteArray := prog_1_method_20_code
def yX5_share : MethodName := ⟨RX5, "share", "(III)I"⟩
abbrev cX5_wouldWin : ByteArray := prog_1_method_27_code
def yX5_wouldWin : MethodName := ⟨RX5, "wouldWin", "(III)I"⟩
abbrev cX5_lie : ByteArray := prog_1_method_28_code
def yX5_lie : MethodName := ⟨RX5, "lie", "(II)I"⟩
abbrev cX5_digest : ByteArray := prog_1_method_29_code
def yX5_digest : MethodName := ⟨RX5, "digest", "()J"⟩
abbrev cX5_mix : ByteArray := prog_1_method_30_code
def yX5_mix : MethodName := ⟨RX5, "mix", "(JJ)J"⟩
abbrev cX5_mixStack : ByteArray := prog_1_method_31_code
def yX5_mixStack : MethodName := ⟨RX5, "mixStack", "(JLBallotLoom$Stack;)J"⟩
abbrev cX5_mixDistrict : ByteArray := prog_1_method_32_code
def yX5_mixDistrict : MethodName := ⟨RX5, "mixDistrict", "(JI)J"⟩
abbrev cX5_mixParty : ByteArray := prog_1_method_33_code
def yX5_mixParty : MethodName := ⟨RX5, "mixParty", "(JI)J"⟩
abbrev cX5_shareHouse : ByteArray := prog_1_method_34_code
def yX5_shareHouse : MethodName := ⟨RX5, "shareHouse", "(II)V"⟩
abbrev cX5_isParty : ByteArray := prog_1_method_35_code
def yX5_isParty : MethodName := ⟨RX5, "isParty", "(I)Z"⟩
abbrev cX5_checkCandidate : ByteArray := prog_1_method_36_code
def yX5_checkCandidate : MethodName := ⟨RX5, "checkCandidate", "(I)V"⟩
abbrev cX5_checkDistrict : ByteArray := prog_1_method_37_code
def yX5_checkDistrict : MethodName := ⟨RX5, "checkDistrict", "(I)V"⟩
abbrev cX5_checkStack : ByteArray := prog_1_method_38_code
def yX5_checkStack : MethodName := ⟨RX5, "checkStack", "(I)V"⟩
abbrev cX5_checkParty : ByteArray := prog_1_method_39_code
def yX5_checkParty : MethodName := ⟨RX5, "checkParty", "(I)V"⟩
abbrev cX5_checkRanks : ByteArray := prog_1_method_40_code
def yX5_checkRanks : MethodName := ⟨RX5, "checkRanks", "(I)V"⟩
abbrev cX5_checkCount : ByteArray := prog_1_method_41_code
def yX5_checkCount : MethodName := ⟨RX5, "checkCount", "(I)V"⟩
abbrev cX5_checkWhat : ByteArray := prog_1_method_42_code
def yX5_checkWhat : MethodName := ⟨RX5, "checkWhat", "(II)V"⟩
abbrev cX5_checkWay : ByteArray := prog_1_method_43_code
def yX5_checkWay : MethodName := ⟨RX5, "checkWay", "(I)V"⟩
abbrev cX5_checkHouse : ByteArray := prog_1_method_44_code
def yX5_checkHouse : MethodName := ⟨RX5, "checkHouse", "(I)V"⟩
abbrev cX5_checkRule : ByteArray := prog_1_method_45_code
def yX5_checkRule : MethodName := ⟨RX5, "checkRule", "(I)V"⟩
abbrev cX5_checkOpen : ByteArray := prog_1_method_46_code
def yX5_checkOpen : MethodName := ⟨RX5, "checkOpen", "()V"⟩
def RX6 : String := "BallotLoomLaw$Told"
def TX6 : u_T := fun k => match k with
  | 0 => ("BallotLoomLaw$Told", "m", "LBallotLoom;", true)
  | 1 => ("BallotLoomLaw$Told", "s", "[I", true)
  | 2 => ("BallotLoomLaw$Told", "draws", "I", false)
  | 3 => ("BallotLoomLaw$Told", "parties", "[I", false)
  | 4 => ("BallotLoomLaw$Told", "gone", "[Z", false)
  | 5 => ("BallotLoomLaw$Told", "seats", "[I", false)
  | 6 => ("BallotLoomLaw$Told", "stacks", "[[I", false)
  | 7 => ("BallotLoomLaw$Told", "threshold", "I", false)
  | _ => ("BallotLoomLaw$Told", "isSealed", "Z", false)
def tyX6 : Nat → FieldType := fun k => match k with
  | 0 => .object "BallotLoom"
  | 1 => .array .int
  | 2 => .int
  | 3 => .array .int
  | 4 => .array .boolean
  | 5 => .array .int
  | 6 => .array (.array .int)
  | 7 => .int
  | _ => .boolean
abbrev wsX60 : List Cond := u_ws RX6 TX6 9
theorem nmX6 : ∀ a, a < 9 → ∀ b, b < 9 → a ≠ b → (TX6 a).2.1 ≠ (TX6 b).2.1 := by decide +kernel
theorem tyX6_ok : ∀ k, k < 9 → parseFieldDescriptor (TX6 k).2.2.1 = some (tyX6 k) := by decide +kernel
abbrev cX6_init : ByteArray := prog_8_method_1_code
def yX6_init : MethodName := ⟨RX6, "<init>", "([II)V"⟩
abbrev cX6_draw : ByteArray := prog_8_method_2_code
def yX6_draw : MethodName := ⟨RX6, "draw", "(I)I"⟩
abbrev cX6_plus : ByteArray := prog_8_method_3_code
def yX6_plus : MethodName := ⟨RX6, "plus", "([II)[I"⟩
abbrev cX6_plus_ : ByteArray := prog_8_method_4_code
def yX6_plus_ : MethodName := ⟨RX6, "plus", "([[I[I)[[I"⟩
abbrev cX6_candidate : ByteArray := prog_8_method_5_code
def yX6_candidate : MethodName := ⟨RX6, "candidate", "()Z"⟩
abbrev cX6_standing : ByteArray := prog_8_method_6_code
def yX6_standing : MethodName := ⟨RX6, "standing", "()I"⟩
abbrev cX6_withdraw : ByteArray := prog_8_method_7_code
def yX6_withdraw : MethodName := ⟨RX6, "withdraw", "()Z"⟩
abbrev cX6_district : ByteArray := prog_8_method_8_code
def yX6_district : MethodName := ⟨RX6, "district", "()Z"⟩
abbrev cX6_ranks : ByteArray := prog_8_method_9_code
def yX6_ranks : MethodName := ⟨RX6, "ranks", "()I"⟩
abbrev cX6_isSpoiled : ByteArray := prog_8_method_10_code
def yX6_isSpoiled : MethodName := ⟨RX6, "isSpoiled", "(I)Z"⟩
abbrev cX6_cast : ByteArray := prog_8_method_11_code
def yX6_cast : MethodName := ⟨RX6, "cast", "()Z"⟩
abbrev cX6_change : ByteArray := prog_8_method_12_code
def yX6_change : MethodName := ⟨RX6, "change", "()Z"⟩
abbrev cX6_founded : ByteArray := prog_8_method_13_code
def yX6_founded : MethodName := ⟨RX6, "founded", "(II)Z"⟩
abbrev cX6_list : ByteArray := prog_8_method_14_code
def yX6_list : MethodName := ⟨RX6, "list", "([I)I"⟩
abbrev cX6_place : ByteArray := prog_8_method_16_code
def yX6_place : MethodName := ⟨RX6, "place", "(II)I"⟩
abbrev cX6_firstOf : ByteArray := prog_8_method_17_code
def yX6_firstOf : MethodName := ⟨RX6, "firstOf", "(II)I"⟩
def RX7 : String := "BallotLoomModel$Count"
def TX7 : u_T := fun k => match k with
  | _ => ("", "", "", false)
def tyX7 : Nat → FieldType := fun k => match k with
  | _ => .int
abbrev wsX70 : List Cond := u_ws RX7 TX7 0
theorem nmX7 : ∀ a, a < 0 → ∀ b, b < 0 → a ≠ b → (TX7 a).2.1 ≠ (TX7 b).2.1 := by decide +kernel
theorem tyX7_ok : ∀ k, k < 0 → parseFieldDescriptor (TX7 k).2.2.1 = some (tyX7 k) := by decide +kernel
def RX8 : String := "BallotLoomModel$Stack"
def TX8 : u_T := fun k => match k with
  | _ => ("", "", "", false)
def tyX8 : Nat → FieldType := fun k => match k with
  | _ => .int
abbrev wsX80 : List Cond := u_ws RX8 TX8 0
theorem nmX8 : ∀ a, a < 0 → ∀ b, b < 0 → a ≠ b → (TX8 a).2.1 ≠ (TX8 b).2.1 := by decide +kernel
theorem tyX8_ok : ∀ k, k < 0 → parseFieldDescriptor (TX8 k).2.2.1 = some (tyX8 k) := by decide +kernel
def RX9 : String := "BallotLoomModel"
def TX9 : u_T := fun k => match k with
  | _ => ("", "", "", false)
def tyX9 : Nat → FieldType := fun k => match k with
  | _ => .int
abbrev wsX90 : List Cond := u_ws RX9 TX9 0
theorem nmX9 : ∀ a, a < 0 → ∀ b, b < 0 → a ≠ b → (TX9 a).2.1 ≠ (TX9 b).2.1 := by decide +kernel
theorem tyX9_ok : ∀ k, k < 0 → parseFieldDescriptor (TX9 k).2.2.1 = some (tyX9 k) := by decide +kernel
def RJx145de : String := "java/io/Serializable"
def TJx145de : u_T := fun k => match k with
  | _ => ("", "", "", false)
def tyJx145de : Nat → FieldType := fun k => match k with
  | _ => .int
abbrev wsJx145de0 : List Cond := u_ws RJx145de TJx145de 0
theorem nmJx145de : ∀ a, a < 0 → ∀ b, b < 0 → a ≠ b → (TJx145de a).2.1 ≠ (TJx145de b).2.1 := by decide +kernel
theorem tyJx145de_ok : ∀ k, k < 0 → parseFieldDescriptor (TJx145de k).2.2.1 = some (tyJx145de k) := by decide +kernel
def RJ5 : String := "java/lang/AbstractStringBuilder"
def TJ5 : u_T := fun k => match k with
  | _ => ("", "", "", false)
def tyJ5 : Nat → FieldType := fun k => match k with
  | _ => .int
abbrev wsJ50 : List Cond := u_ws RJ5 TJ5 0
theorem nmJ5 : ∀ a, a < 0 → ∀ b, b < 0 → a ≠ b → (TJ5 a).2.1 ≠ (TJ5 b).2.1 := by decide +kernel
theorem tyJ5_ok : ∀ k, k < 0 → parseFieldDescriptor (TJ5 k).2.2.1 = some (tyJ5 k) := by decide +kernel
abbrev cJ5_init_d00df : ByteArray := prog_12_method_2_code
def yJ5_init_d00df : MethodName := ⟨RJ5, "<init>", "(I)V"⟩
abbrev cJ5_length_8abf5 : ByteArray := prog_12_method_6_code
def yJ5_length_8abf5 : MethodName := ⟨RJ5, "length", "()I"⟩
abbrev cJ5_ensureCapacityInternal_d00df : ByteArray := prog_12_method_9_code
def yJ5_ensureCapacityInternal_d00df : MethodName := ⟨RJ5, "ensureCapacityInternal", "(I)V"⟩
abbrev cJ5_newCapacity_0f7a4 : ByteArray := prog_12_method_10_code
def yJ5_newCapacity_0f7a4 : MethodName := ⟨RJ5, "newCapacity", "(I)I"⟩
abbrev cJ5_inflate_da8c8 : ByteArray := prog_12_method_11_code
def yJ5_inflate_da8c8 : MethodName := ⟨RJ5, "inflate", "()V"⟩
abbrev cJ5_append_cf1ce : ByteArray := prog_12_method_22_code
def yJ5_append_cf1ce : MethodName := ⟨RJ5, "append", "(Ljava/lang/String;)Ljava/lang/AbstractStringBuilder;"⟩
abbrev cJ5_appendNull_278bc : ByteArray := prog_12_method_26_code
def yJ5_appendNull_278bc : MethodName := ⟨RJ5, "appendNull", "()Ljava/lang/AbstractStringBuilder;"⟩
abbrev cJ5_append_c97b9 : ByteArray := prog_12_method_32_code
def yJ5_append_c97b9 : MethodName := ⟨RJ5, "append", "(I)Ljava/lang/AbstractStringBuilder;"⟩
abbrev cJ5_getValue_6d5f1 : ByteArray := prog_12_method_64_code
def yJ5_getValue_6d5f1 : MethodName := ⟨RJ5, "getValue", "()[B"⟩
abbrev cJ5_isLatin1_aae02 : ByteArray := prog_12_method_68_code
def yJ5_isLatin1_aae02 : MethodName := ⟨RJ5, "isLatin1", "()Z"⟩
abbrev cJ5_inflateIfNeededFor_a7421 : ByteArray := prog_12_method_71_code
def yJ5_inflateIfNeededFor_a7421 : MethodName := ⟨RJ5, "inflateIfNeededFor", "(Ljava/lang/String;)V"⟩
abbrev cJ5_putStringAt_47b60 : ByteArray := prog_12_method_73_code
def yJ5_putStringAt_47b60 : MethodName := ⟨RJ5, "putStringAt", "(ILjava/lang/String;)V"⟩
def RJx2cfe8 : String := "java/lang/Appendable"
def TJx2cfe8 : u_T := fun k => match k with
  | _ => ("", "", "", false)
def tyJx2cfe8 : Nat → FieldType := fun k => match k with
  | _ => .int
abbrev wsJx2cfe80 : List Cond := u_ws RJx2cfe8 TJx2cfe8 0
theorem nmJx2cfe8 : ∀ a, a < 0 → ∀ b, b < 0 → a ≠ b → (TJx2cfe8 a).2.1 ≠ (TJx2cfe8 b).2.1 := by decide +kernel
theorem tyJx2cfe8_ok : ∀ k, k < 0 → parseFieldDescriptor (TJx2cfe8 k).2.2.1 = some (tyJx2cfe8 k) := by decide +kernel
def RJx9f9b0 : String := "java/lang/CharSequence"
def TJx9f9b0 : u_T := fun k => match k with
  | _ => ("", "", "", false)
def tyJx9f9b0 : Nat → FieldType := fun k => match k with
  | _ => .int
abbrev wsJx9f9b00 : List Cond := u_ws RJx9f9b0 TJx9f9b0 0
theorem nmJx9f9b0 : ∀ a, a < 0 → ∀ b, b < 0 → a ≠ b → (TJx9f9b0 a).2.1 ≠ (TJx9f9b0 b).2.1 := by decide +kernel
theorem tyJx9f9b0_ok : ∀ k, k < 0 → parseFieldDescriptor (TJx9f9b0 k).2.2.1 = some (tyJx9f9b0 k) := by decide +kernel
def RJ11 : String := "java/lang/Character"
def TJ11 : u_T := fun k => match k with
  | _ => ("", "", "", false)
def tyJ11 : Nat → FieldType := fun k => match k with
  | _ => .int
abbrev wsJ110 : List Cond := u_ws RJ11 TJ11 0
theorem nmJ11 : ∀ a, a < 0 → ∀ b, b < 0 → a ≠ b → (TJ11 a).2.1 ≠ (TJ11 b).2.1 := by decide +kernel
theorem tyJ11_ok : ∀ k, k < 0 → parseFieldDescriptor (TJ11 k).2.2.1 = some (tyJ11 k) := by decide +kernel
abbrev cJ11_isValidCodePoint_9a6ad : ByteArray := prog_13_method_11_code
def yJ11_isValidCodePoint_9a6ad : MethodName := ⟨RJ11, "isValidCodePoint", "(I)Z"⟩
abbrev cJ11_highSurrogate_5068e : ByteArray := prog_13_method_28_code
def yJ11_highSurrogate_5068e : MethodName := ⟨RJ11, "highSurrogate", "(I)C"⟩
abbrev cJ11_lowSurrogate_5068e : ByteArray := prog_13_method_29_code
def yJ11_lowSurrogate_5068e : MethodName := ⟨RJ11, "lowSurrogate", "(I)C"⟩
def RJx8e188 : String := "java/lang/Cloneable"
def TJx8e188 : u_T := fun k => match k with
  | _ => ("", "", "", false)
def tyJx8e188 : Nat → FieldType := fun k => match k with
  | _ => .int
abbrev wsJx8e1880 : List Cond := u_ws RJx8e188 TJx8e188 0
theorem nmJx8e188 : ∀ a, a < 0 → ∀ b, b < 0 → a ≠ b → (TJx8e188 a).2.1 ≠ (TJx8e188 b).2.1 := by decide +kernel
theorem tyJx8e188_ok : ∀ k, k < 0 → parseFieldDescriptor (TJx8e188 k).2.2.1 = some (tyJx8e188 k) := by decide +kernel
def RJxb160c : String := "java/lang/Comparable"
def TJxb160c : u_T := fun k => match k with
  | _ => ("", "", "", false)
def tyJxb160c : Nat → FieldType := fun k => match k with
  | _ => .int
abbrev wsJxb160c0 : List Cond := u_ws RJxb160c TJxb160c 0
theorem nmJxb160c : ∀ a, a < 0 → ∀ b, b < 0 → a ≠ b → (TJxb160c a).2.1 ≠ (TJxb160c b).2.1 := by decide +kernel
theorem tyJxb160c_ok : ∀ k, k < 0 → parseFieldDescriptor (TJxb160c k).2.2.1 = some (tyJxb160c k) := by decide +kernel
def RJ6 : String := "java/lang/Integer"
def TJ6 : u_T := fun k => match k with
  | _ => ("", "", "", false)
def tyJ6 : Nat → FieldType := fun k => match k with
  | _ => .int
abbrev wsJ60 : List Cond := u_ws RJ6 TJ6 0
theorem nmJ6 : ∀ a, a < 0 → ∀ b, b < 0 → a ≠ b → (TJ6 a).2.1 ≠ (TJ6 b).2.1 := by decide +kernel
theorem tyJ6_ok : ∀ k, k < 0 → parseFieldDescriptor (TJ6 k).2.2.1 = some (tyJ6 k) := by decide +kernel
abbrev cJ6_getChars_ba4f3 : ByteArray := prog_19_method_12_code
def yJ6_getChars_ba4f3 : MethodName := ⟨RJ6, "getChars", "(II[B)I"⟩
abbrev cJ6_stringSize_0f7a4 : ByteArray := prog_19_method_13_code
def yJ6_stringSize_0f7a4 : MethodName := ⟨RJ6, "stringSize", "(I)I"⟩
abbrev cJ6_bitCount_0f7a4 : ByteArray := prog_19_method_49_code
def yJ6_bitCount_0f7a4 : MethodName := ⟨RJ6, "bitCount", "(I)I"⟩
def RJ9 : String := "java/lang/Math"
def TJ9 : u_T := fun k => match k with
  | _ => ("", "", "", false)
def tyJ9 : Nat → FieldType := fun k => match k with
  | _ => .int
abbrev wsJ90 : List Cond := u_ws RJ9 TJ9 0
theorem nmJ9 : ∀ a, a < 0 → ∀ b, b < 0 → a ≠ b → (TJ9 a).2.1 ≠ (TJ9 b).2.1 := by decide +kernel
theorem tyJ9_ok : ∀ k, k < 0 → parseFieldDescriptor (TJ9 k).2.2.1 = some (tyJ9 k) := by decide +kernel
abbrev cJ9_max_7cf53 : ByteArray := prog_20_method_65_code
def yJ9_max_7cf53 : MethodName := ⟨RJ9, "max", "(II)I"⟩
abbrev cJ9_min_7cf53 : ByteArray := prog_20_method_69_code
def yJ9_min_7cf53 : MethodName := ⟨RJ9, "min", "(II)I"⟩
def RJxd2413 : String := "java/lang/Number"
def TJxd2413 : u_T := fun k => match k with
  | _ => ("", "", "", false)
def tyJxd2413 : Nat → FieldType := fun k => match k with
  | _ => .int
abbrev wsJxd24130 : List Cond := u_ws RJxd2413 TJxd2413 0
theorem nmJxd2413 : ∀ a, a < 0 → ∀ b, b < 0 → a ≠ b → (TJxd2413 a).2.1 ≠ (TJxd2413 b).2.1 := by decide +kernel
theorem tyJxd2413_ok : ∀ k, k < 0 → parseFieldDescriptor (TJxd2413 k).2.2.1 = some (tyJxd2413 k) := by decide +kernel
def RJ0 : String := "java/lang/String"
def TJ0 : u_T := fun k => match k with
  | 0 => ("java/lang/String", "value", "[B", true)
  | 1 => ("java/lang/String", "coder", "B", true)
  | 2 => ("java/lang/String", "hash", "I", false)
  | _ => ("java/lang/String", "hashIsZero", "Z", false)
def tyJ0 : Nat → FieldType := fun k => match k with
  | 0 => .array .byte
  | 1 => .byte
  | 2 => .int
  | _ => .boolean
abbrev wsJ00 : List Cond := u_ws RJ0 TJ0 4
theorem nmJ0 : ∀ a, a < 4 → ∀ b, b < 4 → a ≠ b → (TJ0 a).2.1 ≠ (TJ0 b).2.1 := by decide +kernel
theorem tyJ0_ok : ∀ k, k < 4 → parseFieldDescriptor (TJ0 k).2.2.1 = some (tyJ0 k) := by decide +kernel
abbrev cJ0_init_81219 : ByteArray := prog_23_method_53_code
def yJ0_init_81219 : MethodName := ⟨RJ0, "<init>", "(Ljava/lang/StringBuilder;)V"⟩
abbrev cJ0_length_8abf5 : ByteArray := prog_23_method_54_code
def yJ0_length_8abf5 : MethodName := ⟨RJ0, "length", "()I"⟩
abbrev cJ0_charAt_5068e : ByteArray := prog_23_method_56_code
def yJ0_charAt_5068e : MethodName := ⟨RJ0, "charAt", "(I)C"⟩
abbrev cJ0_indexOf_0f7a4 : ByteArray := prog_23_method_79_code
def yJ0_indexOf_0f7a4 : MethodName := ⟨RJ0, "indexOf", "(I)I"⟩
abbrev cJ0_indexOf_7cf53 : ByteArray := prog_23_method_80_code
def yJ0_indexOf_7cf53 : MethodName := ⟨RJ0, "indexOf", "(II)I"⟩
abbrev cJ0_getBytes_840e7 : ByteArray := prog_23_method_147_code
def yJ0_getBytes_840e7 : MethodName := ⟨RJ0, "getBytes", "([BIB)V"⟩
abbrev cJ0_init_db425 : ByteArray := prog_23_method_150_code
def yJ0_init_db425 : MethodName := ⟨RJ0, "<init>", "(Ljava/lang/AbstractStringBuilder;Ljava/lang/Void;)V"⟩
abbrev cJ0_coder_7d493 : ByteArray := prog_23_method_152_code
def yJ0_coder_7d493 : MethodName := ⟨RJ0, "coder", "()B"⟩
abbrev cJ0_isLatin1_aae02 : ByteArray := prog_23_method_154_code
def yJ0_isLatin1_aae02 : MethodName := ⟨RJ0, "isLatin1", "()Z"⟩
abbrev cJ0_checkIndex_df160 : ByteArray := prog_23_method_155_code
def yJ0_checkIndex_df160 : MethodName := ⟨RJ0, "checkIndex", "(II)V"⟩
abbrev cJ0_checkBoundsOffCount_cabcc : ByteArray := prog_23_method_157_code
def yJ0_checkBoundsOffCount_cabcc : MethodName := ⟨RJ0, "checkBoundsOffCount", "(III)I"⟩
abbrev cJ0_checkBoundsBeginEnd_23922 : ByteArray := prog_23_method_158_code
def yJ0_checkBoundsBeginEnd_23922 : MethodName := ⟨RJ0, "checkBoundsBeginEnd", "(III)V"⟩
def RJ4 : String := "java/lang/StringBuilder"
def TJ4 : u_T := fun k => match k with
  | 0 => ("java/lang/AbstractStringBuilder", "value", "[B", false)
  | 1 => ("java/lang/AbstractStringBuilder", "coder", "B", false)
  | 2 => ("java/lang/AbstractStringBuilder", "maybeLatin1", "Z", false)
  | _ => ("java/lang/AbstractStringBuilder", "count", "I", false)
def tyJ4 : Nat → FieldType := fun k => match k with
  | 0 => .array .byte
  | 1 => .byte
  | 2 => .boolean
  | _ => .int
abbrev wsJ40 : List Cond := u_ws RJ4 TJ4 4
theorem nmJ4 : ∀ a, a < 4 → ∀ b, b < 4 → a ≠ b → (TJ4 a).2.1 ≠ (TJ4 b).2.1 := by decide +kernel
theorem tyJ4_ok : ∀ k, k < 4 → parseFieldDescriptor (TJ4 k).2.2.1 = some (tyJ4 k) := by decide +kernel
abbrev cJ4_init_da8c8 : ByteArray := prog_24_method_1_code
def yJ4_init_da8c8 : MethodName := ⟨RJ4, "<init>", "()V"⟩
abbrev cJ4_append_15ec4 : ByteArray := prog_24_method_7_code
def yJ4_append_15ec4 : MethodName := ⟨RJ4, "append", "(Ljava/lang/String;)Ljava/lang/StringBuilder;"⟩
abbrev cJ4_append_bf812 : ByteArray := prog_24_method_15_code
def yJ4_append_bf812 : MethodName := ⟨RJ4, "append", "(I)Ljava/lang/StringBuilder;"⟩
abbrev cJ4_toString_0e30d : ByteArray := prog_24_method_42_code
def yJ4_toString_0e30d : MethodName := ⟨RJ4, "toString", "()Ljava/lang/String;"⟩
abbrev cJ4_length_8abf5 : ByteArray := prog_24_method_93_code
def yJ4_length_8abf5 : MethodName := ⟨RJ4, "length", "()I"⟩
def RJ1 : String := "java/lang/StringLatin1"
def TJ1 : u_T := fun k => match k with
  | _ => ("", "", "", false)
def tyJ1 : Nat → FieldType := fun k => match k with
  | _ => .int
abbrev wsJ10 : List Cond := u_ws RJ1 TJ1 0
theorem nmJ1 : ∀ a, a < 0 → ∀ b, b < 0 → a ≠ b → (TJ1 a).2.1 ≠ (TJ1 b).2.1 := by decide +kernel
theorem tyJ1_ok : ∀ k, k < 0 → parseFieldDescriptor (TJ1 k).2.2.1 = some (tyJ1 k) := by decide +kernel
abbrev cJ1_charAt_3b067 : ByteArray := prog_25_method_2_code
def yJ1_charAt_3b067 : MethodName := ⟨RJ1, "charAt", "([BI)C"⟩
abbrev cJ1_canEncode_9a6ad : ByteArray := prog_25_method_4_code
def yJ1_canEncode_9a6ad : MethodName := ⟨RJ1, "canEncode", "(I)Z"⟩
abbrev cJ1_indexOf_4cfef : ByteArray := prog_25_method_22_code
def yJ1_indexOf_4cfef : MethodName := ⟨RJ1, "indexOf", "([BIII)I"⟩
abbrev cJ1_indexOfChar_4cfef : ByteArray := prog_25_method_23_code
def yJ1_indexOfChar_4cfef : MethodName := ⟨RJ1, "indexOfChar", "([BIII)I"⟩
abbrev cJ1_inflate_0e8fd : ByteArray := prog_25_method_50_code
def yJ1_inflate_0e8fd : MethodName := ⟨RJ1, "inflate", "([BI[BII)V"⟩
def RJ2 : String := "java/lang/StringUTF16"
def TJ2 : u_T := fun k => match k with
  | _ => ("", "", "", false)
def tyJ2 : Nat → FieldType := fun k => match k with
  | _ => .int
abbrev wsJ20 : List Cond := u_ws RJ2 TJ2 0
theorem nmJ2 : ∀ a, a < 0 → ∀ b, b < 0 → a ≠ b → (TJ2 a).2.1 ≠ (TJ2 b).2.1 := by decide +kernel
theorem tyJ2_ok : ∀ k, k < 0 → parseFieldDescriptor (TJ2 k).2.2.1 = some (tyJ2 k) := by decide +kernel
abbrev cJ2_newBytesFor_77867 : ByteArray := prog_26_method_2_code
def yJ2_newBytesFor_77867 : MethodName := ⟨RJ2, "newBytesFor", "(I)[B"⟩
abbrev cJ2_newBytesLength_0f7a4 : ByteArray := prog_26_method_3_code
def yJ2_newBytesLength_0f7a4 : MethodName := ⟨RJ2, "newBytesLength", "(I)I"⟩
abbrev cJ2_putChar_b72d1 : ByteArray := prog_26_method_4_code
def yJ2_putChar_b72d1 : MethodName := ⟨RJ2, "putChar", "([BII)V"⟩
abbrev cJ2_getChar_3b067 : ByteArray := prog_26_method_5_code
def yJ2_getChar_3b067 : MethodName := ⟨RJ2, "getChar", "([BI)C"⟩
abbrev cJ2_length_9d52b : ByteArray := prog_26_method_6_code
def yJ2_length_9d52b : MethodName := ⟨RJ2, "length", "([B)I"⟩
abbrev cJ2_coderFromArrayLen_85cad : ByteArray := prog_26_method_15_code
def yJ2_coderFromArrayLen_85cad : MethodName := ⟨RJ2, "coderFromArrayLen", "([BI)B"⟩
abbrev cJ2_compress_39247 : ByteArray := prog_26_method_17_code
def yJ2_compress_39247 : MethodName := ⟨RJ2, "compress", "([BII)[B"⟩
abbrev cJ2_compress_5af95 : ByteArray := prog_26_method_22_code
def yJ2_compress_5af95 : MethodName := ⟨RJ2, "compress", "([BI[BII)I"⟩
abbrev cJ2_indexOf_4cfef : ByteArray := prog_26_method_40_code
def yJ2_indexOf_4cfef : MethodName := ⟨RJ2, "indexOf", "([BIII)I"⟩
abbrev cJ2_indexOfChar_4cfef : ByteArray := prog_26_method_47_code
def yJ2_indexOfChar_4cfef : MethodName := ⟨RJ2, "indexOfChar", "([BIII)I"⟩
abbrev cJ2_indexOfCharUnsafe_4cfef : ByteArray := prog_26_method_48_code
def yJ2_indexOfCharUnsafe_4cfef : MethodName := ⟨RJ2, "indexOfCharUnsafe", "([BIII)I"⟩
abbrev cJ2_indexOfSupplementary_4cfef : ByteArray := prog_26_method_49_code
def yJ2_indexOfSupplementary_4cfef : MethodName := ⟨RJ2, "indexOfSupplementary", "([BIII)I"⟩
abbrev cJ2_getChars_46870 : ByteArray := prog_26_method_77_code
def yJ2_getChars_46870 : MethodName := ⟨RJ2, "getChars", "(III[B)I"⟩
abbrev cJ2_putCharsAt_cd4e5 : ByteArray := prog_26_method_81_code
def yJ2_putCharsAt_cd4e5 : MethodName := ⟨RJ2, "putCharsAt", "([BICCCC)I"⟩
abbrev cJ2_charAt_3b067 : ByteArray := prog_26_method_83_code
def yJ2_charAt_3b067 : MethodName := ⟨RJ2, "charAt", "([BI)C"⟩
abbrev cJ2_inflate_0e8fd : ByteArray := prog_26_method_86_code
def yJ2_inflate_0e8fd : MethodName := ⟨RJ2, "inflate", "([BI[BII)V"⟩
abbrev cJ2_getChars_ba4f3 : ByteArray := prog_26_method_89_code
def yJ2_getChars_ba4f3 : MethodName := ⟨RJ2, "getChars", "(II[B)I"⟩
abbrev cJ2_checkIndex_2214a : ByteArray := prog_26_method_91_code
def yJ2_checkIndex_2214a : MethodName := ⟨RJ2, "checkIndex", "(I[B)V"⟩
abbrev cJ2_checkBoundsBeginEnd_d044e : ByteArray := prog_26_method_93_code
def yJ2_checkBoundsBeginEnd_d044e : MethodName := ⟨RJ2, "checkBoundsBeginEnd", "(II[B)V"⟩
abbrev cJ2_checkBoundsOffCount_d044e : ByteArray := prog_26_method_94_code
def yJ2_checkBoundsOffCount_d044e : MethodName := ⟨RJ2, "checkBoundsOffCount", "(II[B)V"⟩
def RJ10 : String := "java/lang/System"
def TJ10 : u_T := fun k => match k with
  | _ => ("", "", "", false)
def tyJ10 : Nat → FieldType := fun k => match k with
  | _ => .int
abbrev wsJ100 : List Cond := u_ws RJ10 TJ10 0
theorem nmJ10 : ∀ a, a < 0 → ∀ b, b < 0 → a ≠ b → (TJ10 a).2.1 ≠ (TJ10 b).2.1 := by decide +kernel
theorem tyJ10_ok : ∀ k, k < 0 → parseFieldDescriptor (TJ10 k).2.2.1 = some (tyJ10 k) := by decide +kernel
def RJxfd54e : String := "java/lang/constant/Constable"
def TJxfd54e : u_T := fun k => match k with
  | _ => ("", "", "", false)
def tyJxfd54e : Nat → FieldType := fun k => match k with
  | _ => .int
abbrev wsJxfd54e0 : List Cond := u_ws RJxfd54e TJxfd54e 0
theorem nmJxfd54e : ∀ a, a < 0 → ∀ b, b < 0 → a ≠ b → (TJxfd54e a).2.1 ≠ (TJxfd54e b).2.1 := by decide +kernel
theorem tyJxfd54e_ok : ∀ k, k < 0 → parseFieldDescriptor (TJxfd54e k).2.2.1 = some (tyJxfd54e k) := by decide +kernel
def RJx3cf43 : String := "java/lang/constant/ConstantDesc"
def TJx3cf43 : u_T := fun k => match k with
  | _ => ("", "", "", false)
def tyJx3cf43 : Nat → FieldType := fun k => match k with
  | _ => .int
abbrev wsJx3cf430 : List Cond := u_ws RJx3cf43 TJx3cf43 0
theorem nmJx3cf43 : ∀ a, a < 0 → ∀ b, b < 0 → a ≠ b → (TJx3cf43 a).2.1 ≠ (TJx3cf43 b).2.1 := by decide +kernel
theorem tyJx3cf43_ok : ∀ k, k < 0 → parseFieldDescriptor (TJx3cf43 k).2.2.1 = some (tyJx3cf43 k) := by decide +kernel
def RJ7 : String := "java/util/Arrays"
def TJ7 : u_T := fun k => match k with
  | _ => ("", "", "", false)
def tyJ7 : Nat → FieldType := fun k => match k with
  | _ => .int
abbrev wsJ70 : List Cond := u_ws RJ7 TJ7 0
theorem nmJ7 : ∀ a, a < 0 → ∀ b, b < 0 → a ≠ b → (TJ7 a).2.1 ≠ (TJ7 b).2.1 := by decide +kernel
theorem tyJ7_ok : ∀ k, k < 0 → parseFieldDescriptor (TJ7 k).2.2.1 = some (tyJ7 k) := by decide +kernel
abbrev cJ7_copyOf_9075b : ByteArray := prog_29_method_121_code
def yJ7_copyOf_9075b : MethodName := ⟨RJ7, "copyOf", "([BI)[B"⟩
abbrev cJ7_checkLength_df160 : ByteArray := prog_29_method_131_code
def yJ7_checkLength_df160 : MethodName := ⟨RJ7, "checkLength", "(II)V"⟩
abbrev cJ7_copyOfRange_39247 : ByteArray := prog_29_method_132_code
def yJ7_copyOfRange_39247 : MethodName := ⟨RJ7, "copyOfRange", "([BII)[B"⟩
abbrev cJ7_copyOfRangeByte_39247 : ByteArray := prog_29_method_133_code
def yJ7_copyOfRangeByte_39247 : MethodName := ⟨RJ7, "copyOfRangeByte", "([BII)[B"⟩
def RJ8 : String := "jdk/internal/util/ArraysSupport"
def TJ8 : u_T := fun k => match k with
  | _ => ("", "", "", false)
def tyJ8 : Nat → FieldType := fun k => match k with
  | _ => .int
abbrev wsJ80 : List Cond := u_ws RJ8 TJ8 0
theorem nmJ8 : ∀ a, a < 0 → ∀ b, b < 0 → a ≠ b → (TJ8 a).2.1 ≠ (TJ8 b).2.1 := by decide +kernel
theorem tyJ8_ok : ∀ k, k < 0 → parseFieldDescriptor (TJ8 k).2.2.1 = some (tyJ8 k) := by decide +kernel
abbrev cJ8_newLength_cabcc : ByteArray := prog_30_method_27_code
def yJ8_newLength_cabcc : MethodName := ⟨RJ8, "newLength", "(III)I"⟩
abbrev cJ8_hugeLength_7cf53 : ByteArray := prog_30_method_28_code
def yJ8_hugeLength_7cf53 : MethodName := ⟨RJ8, "hugeLength", "(II)I"⟩
def RJ3 : String := "jdk/internal/util/Preconditions"
def TJ3 : u_T := fun k => match k with
  | _ => ("", "", "", false)
def tyJ3 : Nat → FieldType := fun k => match k with
  | _ => .int
abbrev wsJ30 : List Cond := u_ws RJ3 TJ3 0
theorem nmJ3 : ∀ a, a < 0 → ∀ b, b < 0 → a ≠ b → (TJ3 a).2.1 ≠ (TJ3 b).2.1 := by decide +kernel
theorem tyJ3_ok : ∀ k, k < 0 → parseFieldDescriptor (TJ3 k).2.2.1 = some (tyJ3 k) := by decide +kernel
abbrev cJ3_checkIndex_8e157 : ByteArray := prog_31_method_11_code
def yJ3_checkIndex_8e157 : MethodName := ⟨RJ3, "checkIndex", "(IILjava/util/function/BiFunction;)I"⟩
abbrev cJ3_checkFromToIndex_8c36e : ByteArray := prog_31_method_12_code
def yJ3_checkFromToIndex_8c36e : MethodName := ⟨RJ3, "checkFromToIndex", "(IIILjava/util/function/BiFunction;)I"⟩
abbrev cJ3_checkFromIndexSize_8c36e : ByteArray := prog_31_method_13_code
def yJ3_checkFromIndexSize_8c36e : MethodName := ⟨RJ3, "checkFromIndexSize", "(IIILjava/util/function/BiFunction;)I"⟩
def RL : String := "BallotLoomLaw"
def wsX3_init : List Cond := .code yX3_init cX3_init 1 none :: ([.methodLink RX3 3 objectInit, .instanceMethod objectInit, .code objectInit ⟨#[0xb1]⟩ 1 none, .arrayClass .int, .fieldLink RX3 9 "BallotLoom$Stack" "list" "[I"] ++ wsX30)
def wsX0_init : List Cond := .code yX0_init cX0_init 2 none :: ([.methodLink RX0 3 objectInit, .instanceMethod objectInit, .code objectInit ⟨#[0xb1]⟩ 1 none, .arrayClass .int, .fieldLink RX0 9 "BallotLoom$Box" "partyOf" "[I", .arrayClass .boolean, .fieldLink RX0 15 "BallotLoom$Box" "stands" "[Z", .fieldLink RX0 19 "BallotLoom$Box" "seatsOf" "[I", .classLink RX0 22 RX3, .fieldLink RX0 24 "BallotLoom$Box" "stacks" "[LBallotLoom$Stack;", .instantiable RX3 7, .initialized RX3, .instanceMethod yX3_init, .code yX3_init cX3_init 1 none, .methodLink RX3 3 objectInit, .fieldLink RX3 9 "BallotLoom$Stack" "list" "[I"] ++ wsX00 ++ wsX30)
def wsX0_addCandidate : List Cond := .code yX0_addCandidate cX0_addCandidate 3 (some .int) :: ([.fieldLink RX0 29 "BallotLoom$Box" "candidates" "I", .fieldLink RX0 9 "BallotLoom$Box" "partyOf" "[I", .fieldLink RX0 15 "BallotLoom$Box" "stands" "[Z", .fieldLink RX0 33 "BallotLoom$Box" "standing" "I"] ++ wsX00)
def wsX0_addDistrict : List Cond := .code yX0_addDistrict cX0_addDistrict 3 (some .int) :: ([.fieldLink RX0 36 "BallotLoom$Box" "districts" "I", .fieldLink RX0 19 "BallotLoom$Box" "seatsOf" "[I"] ++ wsX00)
def wsX3_isSpoiling : List Cond := .code yX3_isSpoiling cX3_isSpoiling 7 (some .boolean) :: ([])
def wsX0_isStanding : List Cond := .code yX0_isStanding cX0_isStanding 2 (some .boolean) :: ([.fieldLink RX0 29 "BallotLoom$Box" "candidates" "I", .fieldLink RX0 15 "BallotLoom$Box" "stands" "[Z"] ++ wsX00)
def wsX3_makeList : List Cond := .code yX3_makeList cX3_makeList 5 none :: ([.fieldLink RX3 36 "BallotLoom$Stack" "length" "I", .fieldLink RX3 28 "BallotLoom$Stack" "isSpoiled" "Z", .fieldLink RX3 15 "BallotLoom$Stack" "ranks" "I", .fieldLink RX3 9 "BallotLoom$Stack" "list" "[I", .methodLink RX3 39 yX0_isStanding, .instanceMethod yX0_isStanding, .selects RX0 yX0_isStanding yX0_isStanding, .initialized RX0, .code yX0_isStanding cX0_isStanding 2 (some .boolean), .fieldLink RX0 29 "BallotLoom$Box" "candidates" "I", .fieldLink RX0 15 "BallotLoom$Box" "stands" "[Z"] ++ wsX30 ++ wsX00)
def wsX3_setRanks : List Cond := .code yX3_setRanks cX3_setRanks 3 none :: ([.fieldLink RX3 15 "BallotLoom$Stack" "ranks" "I", .fieldLink RX3 19 "BallotLoom$Box" "candidates" "I", .fieldLink RX3 28 "BallotLoom$Stack" "isSpoiled" "Z", .methodLink RX3 24 yX3_isSpoiling, .static yX3_isSpoiling, .initialized RX3, .code yX3_isSpoiling cX3_isSpoiling 7 (some .boolean), .methodLink RX3 32 yX3_makeList, .instanceMethod yX3_makeList, .selects RX3 yX3_makeList yX3_makeList, .code yX3_makeList cX3_makeList 5 none, .fieldLink RX3 36 "BallotLoom$Stack" "length" "I", .fieldLink RX3 9 "BallotLoom$Stack" "list" "[I", .methodLink RX3 39 yX0_isStanding, .instanceMethod yX0_isStanding, .selects RX0 yX0_isStanding yX0_isStanding, .initialized RX0, .code yX0_isStanding cX0_isStanding 2 (some .boolean), .fieldLink RX0 29 "BallotLoom$Box" "candidates" "I", .fieldLink RX0 15 "BallotLoom$Box" "stands" "[Z"] ++ wsX30 ++ wsX00)
def wsX0_addStack_r1 : List Cond := [Cond.fieldLink RX0 39 "BallotLoom$Box" "cast" "I", Cond.fieldLink RX0 24 "BallotLoom$Box" "stacks" "[LBallotLoom$Stack;", Cond.fieldLink RX0 42 "BallotLoom$Stack" "district" "I", Cond.fieldLink RX0 45 "BallotLoom$Stack" "count" "I", Cond.methodLink RX0 48 yX3_setRanks, Cond.instanceMethod yX3_setRanks, Cond.selects RX3 yX3_setRanks yX3_setRanks, Cond.initialized RX3, Cond.code yX3_setRanks cX3_setRanks 3 none, Cond.fieldLink RX3 15 "BallotLoom$Stack" "ranks" "I", Cond.fieldLink RX3 19 "BallotLoom$Box" "candidates" "I", Cond.fieldLink RX3 28 "BallotLoom$Stack" "isSpoiled" "Z", Cond.methodLink RX3 24 yX3_isSpoiling, Cond.static yX3_isSpoiling, Cond.code yX3_isSpoiling cX3_isSpoiling 7 (some .boolean), Cond.methodLink RX3 32 yX3_makeList, Cond.instanceMethod yX3_makeList, Cond.selects RX3 yX3_makeList yX3_makeList, Cond.code yX3_makeList cX3_makeList 5 none, Cond.fieldLink RX3 36 "BallotLoom$Stack" "length" "I", Cond.fieldLink RX3 9 "BallotLoom$Stack" "list" "[I", Cond.methodLink RX3 39 yX0_isStanding, Cond.instanceMethod yX0_isStanding, Cond.selects RX0 yX0_isStanding yX0_isStanding]
def wsX0_addStack_r2 : List Cond := [Cond.initialized RX0, Cond.code yX0_isStanding cX0_isStanding 2 (some .boolean), Cond.fieldLink RX0 29 "BallotLoom$Box" "candidates" "I", Cond.fieldLink RX0 15 "BallotLoom$Box" "stands" "[Z"]
def wsX0_addStack : List Cond := .code yX0_addStack cX0_addStack 6 (some .int) :: ((wsX0_addStack_r1 ++ wsX0_addStack_r2) ++ wsX00 ++ wsX30)
def wsX0_takeOff : List Cond := .code yX0_takeOff cX0_takeOff 3 none :: ([.fieldLink RX0 15 "BallotLoom$Box" "stands" "[Z", .fieldLink RX0 33 "BallotLoom$Box" "standing" "I", .fieldLink RX0 39 "BallotLoom$Box" "cast" "I", .fieldLink RX0 24 "BallotLoom$Box" "stacks" "[LBallotLoom$Stack;", .methodLink RX0 52 yX3_makeList, .instanceMethod yX3_makeList, .selects RX3 yX3_makeList yX3_makeList, .initialized RX3, .code yX3_makeList cX3_makeList 5 none, .fieldLink RX3 36 "BallotLoom$Stack" "length" "I", .fieldLink RX3 28 "BallotLoom$Stack" "isSpoiled" "Z", .fieldLink RX3 15 "BallotLoom$Stack" "ranks" "I", .fieldLink RX3 9 "BallotLoom$Stack" "list" "[I", .methodLink RX3 39 yX0_isStanding, .instanceMethod yX0_isStanding, .selects RX0 yX0_isStanding yX0_isStanding, .initialized RX0, .code yX0_isStanding cX0_isStanding 2 (some .boolean), .fieldLink RX0 29 "BallotLoom$Box" "candidates" "I"] ++ wsX00 ++ wsX30)
def wsX0_standingOf : List Cond := .code yX0_standingOf cX0_standingOf 4 (some .int) :: ([.fieldLink RX0 29 "BallotLoom$Box" "candidates" "I", .fieldLink RX0 15 "BallotLoom$Box" "stands" "[Z", .fieldLink RX0 9 "BallotLoom$Box" "partyOf" "[I"] ++ wsX00)
def wsX0_spoiledStacks : List Cond := .code yX0_spoiledStacks cX0_spoiledStacks 3 (some .int) :: ([.fieldLink RX0 39 "BallotLoom$Box" "cast" "I", .fieldLink RX0 24 "BallotLoom$Box" "stacks" "[LBallotLoom$Stack;", .fieldLink RX0 56 "BallotLoom$Stack" "isSpoiled" "Z"] ++ wsX00 ++ wsX30)
def wsX0_allCounts : List Cond := .code yX0_allCounts cX0_allCounts 3 (some .int) :: ([.fieldLink RX0 39 "BallotLoom$Box" "cast" "I", .fieldLink RX0 24 "BallotLoom$Box" "stacks" "[LBallotLoom$Stack;", .fieldLink RX0 45 "BallotLoom$Stack" "count" "I"] ++ wsX00 ++ wsX30)
def wsX3_countsIn : List Cond := .code yX3_countsIn cX3_countsIn 2 (some .boolean) :: ([.fieldLink RX3 43 "BallotLoom$Stack" "district" "I", .fieldLink RX3 28 "BallotLoom$Stack" "isSpoiled" "Z"] ++ wsX30)
def wsX0_countsOfListsIn : List Cond := .code yX0_countsOfListsIn cX0_countsOfListsIn 4 (some .int) :: ([.fieldLink RX0 39 "BallotLoom$Box" "cast" "I", .fieldLink RX0 24 "BallotLoom$Box" "stacks" "[LBallotLoom$Stack;", .fieldLink RX0 68 "BallotLoom$Stack" "length" "I", .fieldLink RX0 45 "BallotLoom$Stack" "count" "I", .methodLink RX0 64 yX3_countsIn, .instanceMethod yX3_countsIn, .selects RX3 yX3_countsIn yX3_countsIn, .initialized RX3, .code yX3_countsIn cX3_countsIn 2 (some .boolean), .fieldLink RX3 43 "BallotLoom$Stack" "district" "I", .fieldLink RX3 28 "BallotLoom$Stack" "isSpoiled" "Z"] ++ wsX00 ++ wsX30)
def wsX0_countsOfLists : List Cond := .code yX0_countsOfLists cX0_countsOfLists 3 (some .int) :: ([.fieldLink RX0 36 "BallotLoom$Box" "districts" "I", .methodLink RX0 60 yX0_countsOfListsIn, .instanceMethod yX0_countsOfListsIn, .selects RX0 yX0_countsOfListsIn yX0_countsOfListsIn, .initialized RX0, .code yX0_countsOfListsIn cX0_countsOfListsIn 4 (some .int), .fieldLink RX0 39 "BallotLoom$Box" "cast" "I", .fieldLink RX0 24 "BallotLoom$Box" "stacks" "[LBallotLoom$Stack;", .fieldLink RX0 68 "BallotLoom$Stack" "length" "I", .fieldLink RX0 45 "BallotLoom$Stack" "count" "I", .methodLink RX0 64 yX3_countsIn, .instanceMethod yX3_countsIn, .selects RX3 yX3_countsIn yX3_countsIn, .initialized RX3, .code yX3_countsIn cX3_countsIn 2 (some .boolean), .fieldLink RX3 43 "BallotLoom$Stack" "district" "I", .fieldLink RX3 28 "BallotLoom$Stack" "isSpoiled" "Z"] ++ wsX00 ++ wsX30)
def wsX0_figure_r1 : List Cond := [Cond.fieldLink RX0 29 "BallotLoom$Box" "candidates" "I", Cond.fieldLink RX0 33 "BallotLoom$Box" "standing" "I", Cond.fieldLink RX0 36 "BallotLoom$Box" "districts" "I", Cond.fieldLink RX0 39 "BallotLoom$Box" "cast" "I", Cond.fieldLink RX0 81 "BallotLoom$Box" "percent" "I", Cond.fieldLink RX0 84 "BallotLoom$Box" "isSealed" "Z", Cond.fieldLink RX0 87 "BallotLoom$Box" "refused" "I", Cond.methodLink RX0 71 yX0_spoiledStacks, Cond.instanceMethod yX0_spoiledStacks, Cond.selects RX0 yX0_spoiledStacks yX0_spoiledStacks, Cond.initialized RX0, Cond.code yX0_spoiledStacks cX0_spoiledStacks 3 (some .int), Cond.fieldLink RX0 24 "BallotLoom$Box" "stacks" "[LBallotLoom$Stack;", Cond.fieldLink RX0 56 "BallotLoom$Stack" "isSpoiled" "Z", Cond.methodLink RX0 75 yX0_allCounts, Cond.instanceMethod yX0_allCounts, Cond.selects RX0 yX0_allCounts yX0_allCounts, Cond.code yX0_allCounts cX0_allCounts 3 (some .int), Cond.fieldLink RX0 45 "BallotLoom$Stack" "count" "I", Cond.methodLink RX0 78 yX0_countsOfLists, Cond.instanceMethod yX0_countsOfLists, Cond.selects RX0 yX0_countsOfLists yX0_countsOfLists, Cond.code yX0_countsOfLists cX0_countsOfLists 3 (some .int), Cond.methodLink RX0 60 yX0_countsOfListsIn]
def wsX0_figure_r2 : List Cond := [Cond.instanceMethod yX0_countsOfListsIn, Cond.selects RX0 yX0_countsOfListsIn yX0_countsOfListsIn, Cond.code yX0_countsOfListsIn cX0_countsOfListsIn 4 (some .int), Cond.fieldLink RX0 68 "BallotLoom$Stack" "length" "I", Cond.methodLink RX0 64 yX3_countsIn, Cond.instanceMethod yX3_countsIn, Cond.selects RX3 yX3_countsIn yX3_countsIn, Cond.initialized RX3, Cond.code yX3_countsIn cX3_countsIn 2 (some .boolean), Cond.fieldLink RX3 43 "BallotLoom$Stack" "district" "I", Cond.fieldLink RX3 28 "BallotLoom$Stack" "isSpoiled" "Z"]
def wsX0_figure : List Cond := .code yX0_figure cX0_figure 2 (some .int) :: ((wsX0_figure_r1 ++ wsX0_figure_r2) ++ wsX00 ++ wsX30)
def wsX1_init : List Cond := .code yX1_init cX1_init 1 none :: ([.methodLink RX1 3 objectInit, .instanceMethod objectInit, .code objectInit ⟨#[0xb1]⟩ 1 none, .arrayClass .int, .fieldLink RX1 9 "BallotLoom$Parties" "votes" "[I", .fieldLink RX1 15 "BallotLoom$Parties" "standing" "[I", .arrayClass .boolean, .fieldLink RX1 18 "BallotLoom$Parties" "isBarred" "[Z", .fieldLink RX1 22 "BallotLoom$Parties" "direct" "[I", .fieldLink RX1 25 "BallotLoom$Parties" "wasted" "[I", .fieldLink RX1 28 "BallotLoom$Parties" "seats" "[I", .fieldLink RX1 31 "BallotLoom$Parties" "votesHere" "[I", .fieldLink RX1 34 "BallotLoom$Parties" "remainders" "[I"] ++ wsX10)
def wsX1_countVotes : List Cond := .code yX1_countVotes cX1_countVotes 4 none :: ([.fieldLink RX1 37 "BallotLoom$Parties" "allVotes" "I", .fieldLink RX1 9 "BallotLoom$Parties" "votes" "[I", .fieldLink RX1 15 "BallotLoom$Parties" "standing" "[I", .fieldLink RX1 47 "BallotLoom$Box" "cast" "I", .fieldLink RX1 50 "BallotLoom$Box" "stacks" "[LBallotLoom$Stack;", .fieldLink RX1 54 "BallotLoom$Stack" "length" "I", .fieldLink RX1 59 "BallotLoom$Box" "partyOf" "[I", .fieldLink RX1 62 "BallotLoom$Stack" "list" "[I", .fieldLink RX1 65 "BallotLoom$Stack" "count" "I", .fieldLink RX1 18 "BallotLoom$Parties" "isBarred" "[Z", .fieldLink RX1 68 "BallotLoom$Box" "percent" "I", .methodLink RX1 41 yX0_standingOf, .instanceMethod yX0_standingOf, .selects RX0 yX0_standingOf yX0_standingOf, .initialized RX0, .code yX0_standingOf cX0_standingOf 4 (some .int), .fieldLink RX0 29 "BallotLoom$Box" "candidates" "I", .fieldLink RX0 15 "BallotLoom$Box" "stands" "[Z", .fieldLink RX0 9 "BallotLoom$Box" "partyOf" "[I"] ++ wsX10 ++ wsX00 ++ wsX30)
def wsX1_barredSet : List Cond := .code yX1_barredSet cX1_barredSet 3 (some .int) :: ([.fieldLink RX1 18 "BallotLoom$Parties" "isBarred" "[Z"] ++ wsX10)
def wsX2_countFirsts : List Cond := .code yX2_countFirsts cX2_countFirsts 5 none :: ([.fieldLink RX2 9 "BallotLoom$Poll" "firsts" "[I", .fieldLink RX2 61 "BallotLoom$Box" "cast" "I", .fieldLink RX2 67 "BallotLoom$Box" "stacks" "[LBallotLoom$Stack;", .fieldLink RX2 77 "BallotLoom$Stack" "length" "I", .fieldLink RX2 80 "BallotLoom$Stack" "list" "[I", .fieldLink RX2 83 "BallotLoom$Stack" "count" "I", .methodLink RX2 71 yX3_countsIn, .instanceMethod yX3_countsIn, .selects RX3 yX3_countsIn yX3_countsIn, .initialized RX3, .code yX3_countsIn cX3_countsIn 2 (some .boolean), .fieldLink RX3 43 "BallotLoom$Stack" "district" "I", .fieldLink RX3 28 "BallotLoom$Stack" "isSpoiled" "Z"] ++ wsX20 ++ wsX00 ++ wsX30)
def wsX2_mostFirsts : List Cond := .code yX2_mostFirsts cX2_mostFirsts 4 (some .int) :: ([.fieldLink RX2 86 "BallotLoom$Box" "candidates" "I", .fieldLink RX2 89 "BallotLoom$Box" "stands" "[Z", .fieldLink RX2 9 "BallotLoom$Poll" "firsts" "[I"] ++ wsX00 ++ wsX20)
def wsX1_countVotesHere : List Cond := .code yX1_countVotesHere cX1_countVotesHere 5 (some .int) :: ([.fieldLink RX1 31 "BallotLoom$Parties" "votesHere" "[I", .fieldLink RX1 95 "BallotLoom$Box" "candidates" "I", .fieldLink RX1 59 "BallotLoom$Box" "partyOf" "[I", .fieldLink RX1 84 "BallotLoom$Poll" "firsts" "[I"] ++ wsX10 ++ wsX00 ++ wsX20)
def wsX1_addWasted : List Cond := .code yX1_addWasted cX1_addWasted 6 none :: ([.fieldLink RX1 31 "BallotLoom$Parties" "votesHere" "[I", .methodLink RX1 98 Lib.Math.max.name, .static Lib.Math.max.name, .initialized "java/lang/Math", .code Lib.Math.max.name Lib.Math.max.code 2 (some .int), .fieldLink RX1 25 "BallotLoom$Parties" "wasted" "[I"] ++ wsX10)
def wsX1_countDistricts_r1 : List Cond := [Cond.fieldLink RX1 22 "BallotLoom$Parties" "direct" "[I", Cond.fieldLink RX1 25 "BallotLoom$Parties" "wasted" "[I", Cond.fieldLink RX1 71 "BallotLoom$Box" "districts" "I", Cond.fieldLink RX1 84 "BallotLoom$Poll" "firsts" "[I", Cond.fieldLink RX1 59 "BallotLoom$Box" "partyOf" "[I", Cond.methodLink RX1 74 yX2_countFirsts, Cond.instanceMethod yX2_countFirsts, Cond.selects RX2 yX2_countFirsts yX2_countFirsts, Cond.initialized RX2, Cond.code yX2_countFirsts cX2_countFirsts 5 none, Cond.fieldLink RX2 9 "BallotLoom$Poll" "firsts" "[I", Cond.fieldLink RX2 61 "BallotLoom$Box" "cast" "I", Cond.fieldLink RX2 67 "BallotLoom$Box" "stacks" "[LBallotLoom$Stack;", Cond.fieldLink RX2 77 "BallotLoom$Stack" "length" "I", Cond.fieldLink RX2 80 "BallotLoom$Stack" "list" "[I", Cond.fieldLink RX2 83 "BallotLoom$Stack" "count" "I", Cond.methodLink RX2 71 yX3_countsIn, Cond.instanceMethod yX3_countsIn, Cond.selects RX3 yX3_countsIn yX3_countsIn, Cond.initialized RX3, Cond.code yX3_countsIn cX3_countsIn 2 (some .boolean), Cond.fieldLink RX3 43 "BallotLoom$Stack" "district" "I", Cond.fieldLink RX3 28 "BallotLoom$Stack" "isSpoiled" "Z", Cond.methodLink RX1 80 yX2_mostFirsts]
def wsX1_countDistricts_r2 : List Cond := [Cond.instanceMethod yX2_mostFirsts, Cond.selects RX2 yX2_mostFirsts yX2_mostFirsts, Cond.code yX2_mostFirsts cX2_mostFirsts 4 (some .int), Cond.fieldLink RX2 86 "BallotLoom$Box" "candidates" "I", Cond.fieldLink RX2 89 "BallotLoom$Box" "stands" "[Z", Cond.methodLink RX1 87 yX1_countVotesHere, Cond.instanceMethod yX1_countVotesHere, Cond.selects RX1 yX1_countVotesHere yX1_countVotesHere, Cond.initialized RX1, Cond.code yX1_countVotesHere cX1_countVotesHere 5 (some .int), Cond.fieldLink RX1 31 "BallotLoom$Parties" "votesHere" "[I", Cond.fieldLink RX1 95 "BallotLoom$Box" "candidates" "I", Cond.methodLink RX1 91 yX1_addWasted, Cond.instanceMethod yX1_addWasted, Cond.selects RX1 yX1_addWasted yX1_addWasted, Cond.code yX1_addWasted cX1_addWasted 6 none, Cond.methodLink RX1 98 Lib.Math.max.name, Cond.static Lib.Math.max.name, Cond.initialized "java/lang/Math", Cond.code Lib.Math.max.name Lib.Math.max.code 2 (some .int)]
def wsX1_countDistricts : List Cond := .code yX1_countDistricts cX1_countDistricts 6 none :: ((wsX1_countDistricts_r1 ++ wsX1_countDistricts_r2) ++ wsX10 ++ wsX00 ++ wsX20 ++ wsX30)
def wsX1_figure : List Cond := .code yX1_figure cX1_figure 3 (some .int) :: ([.fieldLink RX1 9 "BallotLoom$Parties" "votes" "[I", .fieldLink RX1 15 "BallotLoom$Parties" "standing" "[I", .fieldLink RX1 22 "BallotLoom$Parties" "direct" "[I", .fieldLink RX1 25 "BallotLoom$Parties" "wasted" "[I", .fieldLink RX1 18 "BallotLoom$Parties" "isBarred" "[Z"] ++ wsX10)
def wsX1_takesPart : List Cond := .code yX1_takesPart cX1_takesPart 2 (some .boolean) :: ([.fieldLink RX1 9 "BallotLoom$Parties" "votes" "[I", .fieldLink RX1 18 "BallotLoom$Parties" "isBarred" "[Z"] ++ wsX10)
def wsX1_giveToGreatestRemainder : List Cond := .code yX1_giveToGreatestRemainder cX1_giveToGreatestRemainder 3 none :: ([.fieldLink RX1 34 "BallotLoom$Parties" "remainders" "[I", .fieldLink RX1 9 "BallotLoom$Parties" "votes" "[I", .fieldLink RX1 28 "BallotLoom$Parties" "seats" "[I"] ++ wsX10)
def wsX1_shareByRemainders : List Cond := .code yX1_shareByRemainders cX1_shareByRemainders 6 none :: ([.fieldLink RX1 9 "BallotLoom$Parties" "votes" "[I", .fieldLink RX1 28 "BallotLoom$Parties" "seats" "[I", .fieldLink RX1 34 "BallotLoom$Parties" "remainders" "[I", .methodLink RX1 111 yX1_takesPart, .instanceMethod yX1_takesPart, .selects RX1 yX1_takesPart yX1_takesPart, .initialized RX1, .code yX1_takesPart cX1_takesPart 2 (some .boolean), .fieldLink RX1 18 "BallotLoom$Parties" "isBarred" "[Z", .methodLink RX1 115 yX1_giveToGreatestRemainder, .instanceMethod yX1_giveToGreatestRemainder, .selects RX1 yX1_giveToGreatestRemainder yX1_giveToGreatestRemainder, .code yX1_giveToGreatestRemainder cX1_giveToGreatestRemainder 3 none] ++ wsX10)
def wsX1_shareByDivisors : List Cond := .code yX1_shareByDivisors cX1_shareByDivisors 10 none :: ([.fieldLink RX1 9 "BallotLoom$Parties" "votes" "[I", .fieldLink RX1 28 "BallotLoom$Parties" "seats" "[I", .methodLink RX1 111 yX1_takesPart, .instanceMethod yX1_takesPart, .selects RX1 yX1_takesPart yX1_takesPart, .initialized RX1, .code yX1_takesPart cX1_takesPart 2 (some .boolean), .fieldLink RX1 18 "BallotLoom$Parties" "isBarred" "[Z"] ++ wsX10)
def wsX1_shareSeats : List Cond := .code yX1_shareSeats cX1_shareSeats 4 none :: ([.fieldLink RX1 28 "BallotLoom$Parties" "seats" "[I", .methodLink RX1 104 yX1_shareByRemainders, .instanceMethod yX1_shareByRemainders, .selects RX1 yX1_shareByRemainders yX1_shareByRemainders, .initialized RX1, .code yX1_shareByRemainders cX1_shareByRemainders 6 none, .fieldLink RX1 9 "BallotLoom$Parties" "votes" "[I", .fieldLink RX1 34 "BallotLoom$Parties" "remainders" "[I", .methodLink RX1 111 yX1_takesPart, .instanceMethod yX1_takesPart, .selects RX1 yX1_takesPart yX1_takesPart, .code yX1_takesPart cX1_takesPart 2 (some .boolean), .fieldLink RX1 18 "BallotLoom$Parties" "isBarred" "[Z", .methodLink RX1 115 yX1_giveToGreatestRemainder, .instanceMethod yX1_giveToGreatestRemainder, .selects RX1 yX1_giveToGreatestRemainder yX1_giveToGreatestRemainder, .code yX1_giveToGreatestRemainder cX1_giveToGreatestRemainder 3 none, .methodLink RX1 108 yX1_shareByDivisors, .instanceMethod yX1_shareByDivisors, .selects RX1 yX1_shareByDivisors yX1_shareByDivisors, .code yX1_shareByDivisors cX1_shareByDivisors 10 none] ++ wsX10)
def wsX1_seatsTogether : List Cond := .code yX1_seatsTogether cX1_seatsTogether 4 (some .int) :: ([.fieldLink RX1 28 "BallotLoom$Parties" "seats" "[I"] ++ wsX10)
def wsX1_isRuling : List Cond := .code yX1_isRuling cX1_isRuling 3 (some .boolean) :: ([.methodLink RX1 118 yX1_seatsTogether, .instanceMethod yX1_seatsTogether, .selects RX1 yX1_seatsTogether yX1_seatsTogether, .initialized RX1, .code yX1_seatsTogether cX1_seatsTogether 4 (some .int), .fieldLink RX1 28 "BallotLoom$Parties" "seats" "[I"] ++ wsX10)
def wsX1_swingsOf : List Cond := .code yX1_swingsOf cX1_swingsOf 6 (some .int) :: ([.methodLink RX1 121 yX1_isRuling, .instanceMethod yX1_isRuling, .selects RX1 yX1_isRuling yX1_isRuling, .initialized RX1, .code yX1_isRuling cX1_isRuling 3 (some .boolean), .methodLink RX1 118 yX1_seatsTogether, .instanceMethod yX1_seatsTogether, .selects RX1 yX1_seatsTogether yX1_seatsTogether, .code yX1_seatsTogether cX1_seatsTogether 4 (some .int), .fieldLink RX1 28 "BallotLoom$Parties" "seats" "[I"] ++ wsX10)
def wsJ6_bitCount_0f7a4 : List Cond := .code yJ6_bitCount_0f7a4 cJ6_bitCount_0f7a4 1 (some .int) :: ([.constant RJ6 265 (1431655765), .constant RJ6 266 (858993459), .constant RJ6 267 (252645135)])
def wsX1_isLess : List Cond := .code yX1_isLess cX1_isLess 5 (some .boolean) :: ([.methodLink RX1 128 yJ6_bitCount_0f7a4, .static yJ6_bitCount_0f7a4, .initialized RJ6, .code yJ6_bitCount_0f7a4 cJ6_bitCount_0f7a4 1 (some .int), .constant RJ6 265 (1431655765), .constant RJ6 266 (858993459), .constant RJ6 267 (252645135), .methodLink RX1 118 yX1_seatsTogether, .instanceMethod yX1_seatsTogether, .selects RX1 yX1_seatsTogether yX1_seatsTogether, .initialized RX1, .code yX1_seatsTogether cX1_seatsTogether 4 (some .int), .fieldLink RX1 28 "BallotLoom$Parties" "seats" "[I"] ++ wsX10)
def wsX1_leastRulers : List Cond := .code yX1_leastRulers cX1_leastRulers 4 (some .int) :: ([.methodLink RX1 121 yX1_isRuling, .instanceMethod yX1_isRuling, .selects RX1 yX1_isRuling yX1_isRuling, .initialized RX1, .code yX1_isRuling cX1_isRuling 3 (some .boolean), .methodLink RX1 118 yX1_seatsTogether, .instanceMethod yX1_seatsTogether, .selects RX1 yX1_seatsTogether yX1_seatsTogether, .code yX1_seatsTogether cX1_seatsTogether 4 (some .int), .fieldLink RX1 28 "BallotLoom$Parties" "seats" "[I", .methodLink RX1 125 yX1_isLess, .instanceMethod yX1_isLess, .selects RX1 yX1_isLess yX1_isLess, .code yX1_isLess cX1_isLess 5 (some .boolean), .methodLink RX1 128 yJ6_bitCount_0f7a4, .static yJ6_bitCount_0f7a4, .initialized RJ6, .code yJ6_bitCount_0f7a4 cJ6_bitCount_0f7a4 1 (some .int), .constant RJ6 265 (1431655765), .constant RJ6 266 (858993459), .constant RJ6 267 (252645135)] ++ wsX10)
def wsX2_init : List Cond := .code yX2_init cX2_init 1 none :: ([.methodLink RX2 3 objectInit, .instanceMethod objectInit, .code objectInit ⟨#[0xb1]⟩ 1 none, .arrayClass .int, .fieldLink RX2 9 "BallotLoom$Poll" "firsts" "[I", .arrayClass .double, .fieldLink RX2 15 "BallotLoom$Poll" "points" "[D", .classLink RX2 19 "[[I", .fieldLink RX2 21 "BallotLoom$Poll" "beats" "[[I", .fieldLink RX2 24 "BallotLoom$Poll" "paths" "[[I", .fieldLink RX2 27 "BallotLoom$Poll" "goneOut" "[I", .arrayClass .boolean, .fieldLink RX2 30 "BallotLoom$Poll" "isIn" "[Z", .fieldLink RX2 34 "BallotLoom$Poll" "behind" "[I"] ++ wsX20)
def wsX3_placeOf : List Cond := .code yX3_placeOf cX3_placeOf 3 (some .int) :: ([.fieldLink RX3 36 "BallotLoom$Stack" "length" "I", .fieldLink RX3 9 "BallotLoom$Stack" "list" "[I"] ++ wsX30)
def wsX2_addPoints : List Cond := .code yX2_addPoints cX2_addPoints 6 none :: ([.fieldLink RX2 101 "BallotLoom$Box" "standing" "I", .fieldLink RX2 77 "BallotLoom$Stack" "length" "I", .fieldLink RX2 86 "BallotLoom$Box" "candidates" "I", .fieldLink RX2 89 "BallotLoom$Box" "stands" "[Z", .fieldLink RX2 15 "BallotLoom$Poll" "points" "[D", .fieldLink RX2 83 "BallotLoom$Stack" "count" "I", .constantDouble RX2 108 (4611686018427387904), .methodLink RX2 104 yX3_placeOf, .instanceMethod yX3_placeOf, .selects RX3 yX3_placeOf yX3_placeOf, .initialized RX3, .code yX3_placeOf cX3_placeOf 3 (some .int), .fieldLink RX3 36 "BallotLoom$Stack" "length" "I", .fieldLink RX3 9 "BallotLoom$Stack" "list" "[I"] ++ wsX00 ++ wsX30 ++ wsX20)
def wsX2_countPoints_r1 : List Cond := [Cond.fieldLink RX2 15 "BallotLoom$Poll" "points" "[D", Cond.constantDouble RX2 95 (13830554455654793216), Cond.fieldLink RX2 61 "BallotLoom$Box" "cast" "I", Cond.fieldLink RX2 67 "BallotLoom$Box" "stacks" "[LBallotLoom$Stack;", Cond.methodLink RX2 92 yX0_isStanding, Cond.instanceMethod yX0_isStanding, Cond.selects RX0 yX0_isStanding yX0_isStanding, Cond.initialized RX0, Cond.code yX0_isStanding cX0_isStanding 2 (some .boolean), Cond.fieldLink RX0 29 "BallotLoom$Box" "candidates" "I", Cond.fieldLink RX0 15 "BallotLoom$Box" "stands" "[Z", Cond.methodLink RX2 71 yX3_countsIn, Cond.instanceMethod yX3_countsIn, Cond.selects RX3 yX3_countsIn yX3_countsIn, Cond.initialized RX3, Cond.code yX3_countsIn cX3_countsIn 2 (some .boolean), Cond.fieldLink RX3 43 "BallotLoom$Stack" "district" "I", Cond.fieldLink RX3 28 "BallotLoom$Stack" "isSpoiled" "Z", Cond.methodLink RX2 97 yX2_addPoints, Cond.instanceMethod yX2_addPoints, Cond.selects RX2 yX2_addPoints yX2_addPoints, Cond.initialized RX2, Cond.code yX2_addPoints cX2_addPoints 6 none, Cond.fieldLink RX2 101 "BallotLoom$Box" "standing" "I"]
def wsX2_countPoints_r2 : List Cond := [Cond.fieldLink RX2 77 "BallotLoom$Stack" "length" "I", Cond.fieldLink RX2 86 "BallotLoom$Box" "candidates" "I", Cond.fieldLink RX2 89 "BallotLoom$Box" "stands" "[Z", Cond.fieldLink RX2 83 "BallotLoom$Stack" "count" "I", Cond.constantDouble RX2 108 (4611686018427387904), Cond.methodLink RX2 104 yX3_placeOf, Cond.instanceMethod yX3_placeOf, Cond.selects RX3 yX3_placeOf yX3_placeOf, Cond.code yX3_placeOf cX3_placeOf 3 (some .int), Cond.fieldLink RX3 36 "BallotLoom$Stack" "length" "I", Cond.fieldLink RX3 9 "BallotLoom$Stack" "list" "[I"]
def wsX2_countPoints : List Cond := .code yX2_countPoints cX2_countPoints 5 none :: ((wsX2_countPoints_r1 ++ wsX2_countPoints_r2) ++ wsX20 ++ wsX00 ++ wsX30)
def wsX2_mostPoints : List Cond := .code yX2_mostPoints cX2_mostPoints 4 (some .int) :: ([.fieldLink RX2 86 "BallotLoom$Box" "candidates" "I", .fieldLink RX2 89 "BallotLoom$Box" "stands" "[Z", .fieldLink RX2 15 "BallotLoom$Poll" "points" "[D"] ++ wsX00 ++ wsX20)
def wsX2_addBeats : List Cond := .code yX2_addBeats cX2_addBeats 6 none :: ([.fieldLink RX2 77 "BallotLoom$Stack" "length" "I", .fieldLink RX2 80 "BallotLoom$Stack" "list" "[I", .fieldLink RX2 86 "BallotLoom$Box" "candidates" "I", .fieldLink RX2 89 "BallotLoom$Box" "stands" "[Z", .fieldLink RX2 21 "BallotLoom$Poll" "beats" "[[I", .fieldLink RX2 83 "BallotLoom$Stack" "count" "I", .methodLink RX2 104 yX3_placeOf, .instanceMethod yX3_placeOf, .selects RX3 yX3_placeOf yX3_placeOf, .initialized RX3, .code yX3_placeOf cX3_placeOf 3 (some .int), .fieldLink RX3 36 "BallotLoom$Stack" "length" "I", .fieldLink RX3 9 "BallotLoom$Stack" "list" "[I"] ++ wsX30 ++ wsX00 ++ wsX20)
def wsX2_findPaths : List Cond := .code yX2_findPaths cX2_findPaths 5 none :: ([.fieldLink RX2 21 "BallotLoom$Poll" "beats" "[[I", .fieldLink RX2 24 "BallotLoom$Poll" "paths" "[[I", .methodLink RX2 116 Lib.Math.min.name, .static Lib.Math.min.name, .initialized "java/lang/Math", .code Lib.Math.min.name Lib.Math.min.code 2 (some .int), .methodLink RX2 122 Lib.Math.max.name, .static Lib.Math.max.name, .code Lib.Math.max.name Lib.Math.max.code 2 (some .int)] ++ wsX20)
def wsX2_countPairs_r1 : List Cond := [Cond.fieldLink RX2 21 "BallotLoom$Poll" "beats" "[[I", Cond.fieldLink RX2 61 "BallotLoom$Box" "cast" "I", Cond.fieldLink RX2 67 "BallotLoom$Box" "stacks" "[LBallotLoom$Stack;", Cond.methodLink RX2 71 yX3_countsIn, Cond.instanceMethod yX3_countsIn, Cond.selects RX3 yX3_countsIn yX3_countsIn, Cond.initialized RX3, Cond.code yX3_countsIn cX3_countsIn 2 (some .boolean), Cond.fieldLink RX3 43 "BallotLoom$Stack" "district" "I", Cond.fieldLink RX3 28 "BallotLoom$Stack" "isSpoiled" "Z", Cond.methodLink RX2 110 yX2_addBeats, Cond.instanceMethod yX2_addBeats, Cond.selects RX2 yX2_addBeats yX2_addBeats, Cond.initialized RX2, Cond.code yX2_addBeats cX2_addBeats 6 none, Cond.fieldLink RX2 77 "BallotLoom$Stack" "length" "I", Cond.fieldLink RX2 80 "BallotLoom$Stack" "list" "[I", Cond.fieldLink RX2 86 "BallotLoom$Box" "candidates" "I", Cond.fieldLink RX2 89 "BallotLoom$Box" "stands" "[Z", Cond.fieldLink RX2 83 "BallotLoom$Stack" "count" "I", Cond.methodLink RX2 104 yX3_placeOf, Cond.instanceMethod yX3_placeOf, Cond.selects RX3 yX3_placeOf yX3_placeOf, Cond.code yX3_placeOf cX3_placeOf 3 (some .int)]
def wsX2_countPairs_r2 : List Cond := [Cond.fieldLink RX3 36 "BallotLoom$Stack" "length" "I", Cond.fieldLink RX3 9 "BallotLoom$Stack" "list" "[I", Cond.methodLink RX2 113 yX2_findPaths, Cond.instanceMethod yX2_findPaths, Cond.selects RX2 yX2_findPaths yX2_findPaths, Cond.code yX2_findPaths cX2_findPaths 5 none, Cond.fieldLink RX2 24 "BallotLoom$Poll" "paths" "[[I", Cond.methodLink RX2 116 Lib.Math.min.name, Cond.static Lib.Math.min.name, Cond.initialized "java/lang/Math", Cond.code Lib.Math.min.name Lib.Math.min.code 2 (some .int), Cond.methodLink RX2 122 Lib.Math.max.name, Cond.static Lib.Math.max.name, Cond.code Lib.Math.max.name Lib.Math.max.code 2 (some .int)]
def wsX2_countPairs : List Cond := .code yX2_countPairs cX2_countPairs 5 none :: ((wsX2_countPairs_r1 ++ wsX2_countPairs_r2) ++ wsX20 ++ wsX00 ++ wsX30)
def wsX2_isNowhereNarrower : List Cond := .code yX2_isNowhereNarrower cX2_isNowhereNarrower 4 (some .boolean) :: ([.fieldLink RX2 86 "BallotLoom$Box" "candidates" "I", .fieldLink RX2 89 "BallotLoom$Box" "stands" "[Z", .fieldLink RX2 24 "BallotLoom$Poll" "paths" "[[I"] ++ wsX00 ++ wsX20)
def wsX2_widestPaths : List Cond := .code yX2_widestPaths cX2_widestPaths 3 (some .int) :: ([.fieldLink RX2 86 "BallotLoom$Box" "candidates" "I", .fieldLink RX2 89 "BallotLoom$Box" "stands" "[Z", .methodLink RX2 125 yX2_isNowhereNarrower, .instanceMethod yX2_isNowhereNarrower, .selects RX2 yX2_isNowhereNarrower yX2_isNowhereNarrower, .initialized RX2, .code yX2_isNowhereNarrower cX2_isNowhereNarrower 4 (some .boolean), .fieldLink RX2 24 "BallotLoom$Poll" "paths" "[[I"] ++ wsX00 ++ wsX20)
def wsX3_firstOf : List Cond := .code yX3_firstOf cX3_firstOf 3 (some .int) :: ([.fieldLink RX3 36 "BallotLoom$Stack" "length" "I", .fieldLink RX3 9 "BallotLoom$Stack" "list" "[I"] ++ wsX30)
def wsX2_countBehind : List Cond := .code yX2_countBehind cX2_countBehind 7 (some .int) :: ([.fieldLink RX2 34 "BallotLoom$Poll" "behind" "[I", .fieldLink RX2 61 "BallotLoom$Box" "cast" "I", .fieldLink RX2 67 "BallotLoom$Box" "stacks" "[LBallotLoom$Stack;", .fieldLink RX2 30 "BallotLoom$Poll" "isIn" "[Z", .fieldLink RX2 83 "BallotLoom$Stack" "count" "I", .methodLink RX2 71 yX3_countsIn, .instanceMethod yX3_countsIn, .selects RX3 yX3_countsIn yX3_countsIn, .initialized RX3, .code yX3_countsIn cX3_countsIn 2 (some .boolean), .fieldLink RX3 43 "BallotLoom$Stack" "district" "I", .fieldLink RX3 28 "BallotLoom$Stack" "isSpoiled" "Z", .methodLink RX2 139 yX3_firstOf, .instanceMethod yX3_firstOf, .selects RX3 yX3_firstOf yX3_firstOf, .code yX3_firstOf cX3_firstOf 3 (some .int), .fieldLink RX3 36 "BallotLoom$Stack" "length" "I", .fieldLink RX3 9 "BallotLoom$Stack" "list" "[I"] ++ wsX20 ++ wsX00 ++ wsX30)
def wsX2_mostBehind : List Cond := .code yX2_mostBehind cX2_mostBehind 3 (some .int) :: ([.fieldLink RX2 30 "BallotLoom$Poll" "isIn" "[Z", .fieldLink RX2 34 "BallotLoom$Poll" "behind" "[I"] ++ wsX20)
def wsX2_isNoStronger : List Cond := .code yX2_isNoStronger cX2_isNoStronger 3 (some .boolean) :: ([.fieldLink RX2 34 "BallotLoom$Poll" "behind" "[I", .fieldLink RX2 15 "BallotLoom$Poll" "points" "[D"] ++ wsX20)
def wsX2_leastBehind : List Cond := .code yX2_leastBehind cX2_leastBehind 4 (some .int) :: ([.fieldLink RX2 30 "BallotLoom$Poll" "isIn" "[Z", .methodLink RX2 143 yX2_isNoStronger, .instanceMethod yX2_isNoStronger, .selects RX2 yX2_isNoStronger yX2_isNoStronger, .initialized RX2, .code yX2_isNoStronger cX2_isNoStronger 3 (some .boolean), .fieldLink RX2 34 "BallotLoom$Poll" "behind" "[I", .fieldLink RX2 15 "BallotLoom$Poll" "points" "[D"] ++ wsX20)
def wsX2_goRounds_r1 : List Cond := [Cond.fieldLink RX2 30 "BallotLoom$Poll" "isIn" "[Z", Cond.fieldLink RX2 27 "BallotLoom$Poll" "goneOut" "[I", Cond.fieldLink RX2 101 "BallotLoom$Box" "standing" "I", Cond.fieldLink RX2 34 "BallotLoom$Poll" "behind" "[I", Cond.methodLink RX2 45 yX2_countPoints, Cond.instanceMethod yX2_countPoints, Cond.selects RX2 yX2_countPoints yX2_countPoints, Cond.initialized RX2, Cond.code yX2_countPoints cX2_countPoints 5 none, Cond.fieldLink RX2 15 "BallotLoom$Poll" "points" "[D", Cond.constantDouble RX2 95 (13830554455654793216), Cond.fieldLink RX2 61 "BallotLoom$Box" "cast" "I", Cond.fieldLink RX2 67 "BallotLoom$Box" "stacks" "[LBallotLoom$Stack;", Cond.methodLink RX2 92 yX0_isStanding, Cond.instanceMethod yX0_isStanding, Cond.selects RX0 yX0_isStanding yX0_isStanding, Cond.initialized RX0, Cond.code yX0_isStanding cX0_isStanding 2 (some .boolean), Cond.fieldLink RX0 29 "BallotLoom$Box" "candidates" "I", Cond.fieldLink RX0 15 "BallotLoom$Box" "stands" "[Z", Cond.methodLink RX2 71 yX3_countsIn, Cond.instanceMethod yX3_countsIn, Cond.selects RX3 yX3_countsIn yX3_countsIn, Cond.initialized RX3]
def wsX2_goRounds_r2 : List Cond := [Cond.code yX3_countsIn cX3_countsIn 2 (some .boolean), Cond.fieldLink RX3 43 "BallotLoom$Stack" "district" "I", Cond.fieldLink RX3 28 "BallotLoom$Stack" "isSpoiled" "Z", Cond.methodLink RX2 97 yX2_addPoints, Cond.instanceMethod yX2_addPoints, Cond.selects RX2 yX2_addPoints yX2_addPoints, Cond.code yX2_addPoints cX2_addPoints 6 none, Cond.fieldLink RX2 77 "BallotLoom$Stack" "length" "I", Cond.fieldLink RX2 86 "BallotLoom$Box" "candidates" "I", Cond.fieldLink RX2 89 "BallotLoom$Box" "stands" "[Z", Cond.fieldLink RX2 83 "BallotLoom$Stack" "count" "I", Cond.constantDouble RX2 108 (4611686018427387904), Cond.methodLink RX2 104 yX3_placeOf, Cond.instanceMethod yX3_placeOf, Cond.selects RX3 yX3_placeOf yX3_placeOf, Cond.code yX3_placeOf cX3_placeOf 3 (some .int), Cond.fieldLink RX3 36 "BallotLoom$Stack" "length" "I", Cond.fieldLink RX3 9 "BallotLoom$Stack" "list" "[I", Cond.methodLink RX2 129 yX2_countBehind, Cond.instanceMethod yX2_countBehind, Cond.selects RX2 yX2_countBehind yX2_countBehind, Cond.code yX2_countBehind cX2_countBehind 7 (some .int), Cond.methodLink RX2 139 yX3_firstOf, Cond.instanceMethod yX3_firstOf]
def wsX2_goRounds_r3 : List Cond := [Cond.selects RX3 yX3_firstOf yX3_firstOf, Cond.code yX3_firstOf cX3_firstOf 3 (some .int), Cond.methodLink RX2 132 yX2_mostBehind, Cond.instanceMethod yX2_mostBehind, Cond.selects RX2 yX2_mostBehind yX2_mostBehind, Cond.code yX2_mostBehind cX2_mostBehind 3 (some .int), Cond.methodLink RX2 136 yX2_leastBehind, Cond.instanceMethod yX2_leastBehind, Cond.selects RX2 yX2_leastBehind yX2_leastBehind, Cond.code yX2_leastBehind cX2_leastBehind 4 (some .int), Cond.methodLink RX2 143 yX2_isNoStronger, Cond.instanceMethod yX2_isNoStronger, Cond.selects RX2 yX2_isNoStronger yX2_isNoStronger, Cond.code yX2_isNoStronger cX2_isNoStronger 3 (some .boolean)]
def wsX2_goRounds : List Cond := .code yX2_goRounds cX2_goRounds 8 (some .int) :: ((wsX2_goRounds_r1 ++ (wsX2_goRounds_r2 ++ wsX2_goRounds_r3)) ++ wsX20 ++ wsX00 ++ wsX30)
def wsX2_winnerBy_r1 : List Cond := [Cond.methodLink RX2 37 yX2_countFirsts, Cond.instanceMethod yX2_countFirsts, Cond.selects RX2 yX2_countFirsts yX2_countFirsts, Cond.initialized RX2, Cond.code yX2_countFirsts cX2_countFirsts 5 none, Cond.fieldLink RX2 9 "BallotLoom$Poll" "firsts" "[I", Cond.fieldLink RX2 61 "BallotLoom$Box" "cast" "I", Cond.fieldLink RX2 67 "BallotLoom$Box" "stacks" "[LBallotLoom$Stack;", Cond.fieldLink RX2 77 "BallotLoom$Stack" "length" "I", Cond.fieldLink RX2 80 "BallotLoom$Stack" "list" "[I", Cond.fieldLink RX2 83 "BallotLoom$Stack" "count" "I", Cond.methodLink RX2 71 yX3_countsIn, Cond.instanceMethod yX3_countsIn, Cond.selects RX3 yX3_countsIn yX3_countsIn, Cond.initialized RX3, Cond.code yX3_countsIn cX3_countsIn 2 (some .boolean), Cond.fieldLink RX3 43 "BallotLoom$Stack" "district" "I", Cond.fieldLink RX3 28 "BallotLoom$Stack" "isSpoiled" "Z", Cond.methodLink RX2 41 yX2_mostFirsts, Cond.instanceMethod yX2_mostFirsts, Cond.selects RX2 yX2_mostFirsts yX2_mostFirsts, Cond.code yX2_mostFirsts cX2_mostFirsts 4 (some .int), Cond.fieldLink RX2 86 "BallotLoom$Box" "candidates" "I", Cond.fieldLink RX2 89 "BallotLoom$Box" "stands" "[Z"]
def wsX2_winnerBy_r2 : List Cond := [Cond.methodLink RX2 45 yX2_countPoints, Cond.instanceMethod yX2_countPoints, Cond.selects RX2 yX2_countPoints yX2_countPoints, Cond.code yX2_countPoints cX2_countPoints 5 none, Cond.fieldLink RX2 15 "BallotLoom$Poll" "points" "[D", Cond.constantDouble RX2 95 (13830554455654793216), Cond.methodLink RX2 92 yX0_isStanding, Cond.instanceMethod yX0_isStanding, Cond.selects RX0 yX0_isStanding yX0_isStanding, Cond.initialized RX0, Cond.code yX0_isStanding cX0_isStanding 2 (some .boolean), Cond.fieldLink RX0 29 "BallotLoom$Box" "candidates" "I", Cond.fieldLink RX0 15 "BallotLoom$Box" "stands" "[Z", Cond.methodLink RX2 97 yX2_addPoints, Cond.instanceMethod yX2_addPoints, Cond.selects RX2 yX2_addPoints yX2_addPoints, Cond.code yX2_addPoints cX2_addPoints 6 none, Cond.fieldLink RX2 101 "BallotLoom$Box" "standing" "I", Cond.constantDouble RX2 108 (4611686018427387904), Cond.methodLink RX2 104 yX3_placeOf, Cond.instanceMethod yX3_placeOf, Cond.selects RX3 yX3_placeOf yX3_placeOf, Cond.code yX3_placeOf cX3_placeOf 3 (some .int), Cond.fieldLink RX3 36 "BallotLoom$Stack" "length" "I"]
def wsX2_winnerBy_r3 : List Cond := [Cond.fieldLink RX3 9 "BallotLoom$Stack" "list" "[I", Cond.methodLink RX2 48 yX2_mostPoints, Cond.instanceMethod yX2_mostPoints, Cond.selects RX2 yX2_mostPoints yX2_mostPoints, Cond.code yX2_mostPoints cX2_mostPoints 4 (some .int), Cond.methodLink RX2 51 yX2_countPairs, Cond.instanceMethod yX2_countPairs, Cond.selects RX2 yX2_countPairs yX2_countPairs, Cond.code yX2_countPairs cX2_countPairs 5 none, Cond.fieldLink RX2 21 "BallotLoom$Poll" "beats" "[[I", Cond.methodLink RX2 110 yX2_addBeats, Cond.instanceMethod yX2_addBeats, Cond.selects RX2 yX2_addBeats yX2_addBeats, Cond.code yX2_addBeats cX2_addBeats 6 none, Cond.methodLink RX2 113 yX2_findPaths, Cond.instanceMethod yX2_findPaths, Cond.selects RX2 yX2_findPaths yX2_findPaths, Cond.code yX2_findPaths cX2_findPaths 5 none, Cond.fieldLink RX2 24 "BallotLoom$Poll" "paths" "[[I", Cond.methodLink RX2 116 Lib.Math.min.name, Cond.static Lib.Math.min.name, Cond.initialized "java/lang/Math", Cond.code Lib.Math.min.name Lib.Math.min.code 2 (some .int), Cond.methodLink RX2 122 Lib.Math.max.name]
def wsX2_winnerBy_r4 : List Cond := [Cond.static Lib.Math.max.name, Cond.code Lib.Math.max.name Lib.Math.max.code 2 (some .int), Cond.methodLink RX2 54 yX2_widestPaths, Cond.instanceMethod yX2_widestPaths, Cond.selects RX2 yX2_widestPaths yX2_widestPaths, Cond.code yX2_widestPaths cX2_widestPaths 3 (some .int), Cond.methodLink RX2 125 yX2_isNowhereNarrower, Cond.instanceMethod yX2_isNowhereNarrower, Cond.selects RX2 yX2_isNowhereNarrower yX2_isNowhereNarrower, Cond.code yX2_isNowhereNarrower cX2_isNowhereNarrower 4 (some .boolean), Cond.methodLink RX2 57 yX2_goRounds, Cond.instanceMethod yX2_goRounds, Cond.selects RX2 yX2_goRounds yX2_goRounds, Cond.code yX2_goRounds cX2_goRounds 8 (some .int), Cond.fieldLink RX2 30 "BallotLoom$Poll" "isIn" "[Z", Cond.fieldLink RX2 27 "BallotLoom$Poll" "goneOut" "[I", Cond.fieldLink RX2 34 "BallotLoom$Poll" "behind" "[I", Cond.methodLink RX2 129 yX2_countBehind, Cond.instanceMethod yX2_countBehind, Cond.selects RX2 yX2_countBehind yX2_countBehind, Cond.code yX2_countBehind cX2_countBehind 7 (some .int), Cond.methodLink RX2 139 yX3_firstOf, Cond.instanceMethod yX3_firstOf, Cond.selects RX3 yX3_firstOf yX3_firstOf]
def wsX2_winnerBy_r5 : List Cond := [Cond.code yX3_firstOf cX3_firstOf 3 (some .int), Cond.methodLink RX2 132 yX2_mostBehind, Cond.instanceMethod yX2_mostBehind, Cond.selects RX2 yX2_mostBehind yX2_mostBehind, Cond.code yX2_mostBehind cX2_mostBehind 3 (some .int), Cond.methodLink RX2 136 yX2_leastBehind, Cond.instanceMethod yX2_leastBehind, Cond.selects RX2 yX2_leastBehind yX2_leastBehind, Cond.code yX2_leastBehind cX2_leastBehind 4 (some .int), Cond.methodLink RX2 143 yX2_isNoStronger, Cond.instanceMethod yX2_isNoStronger, Cond.selects RX2 yX2_isNoStronger yX2_isNoStronger, Cond.code yX2_isNoStronger cX2_isNoStronger 3 (some .boolean)]
def wsX2_winnerBy : List Cond := .code yX2_winnerBy cX2_winnerBy 4 (some .int) :: ((wsX2_winnerBy_r1 ++ (wsX2_winnerBy_r2 ++ (wsX2_winnerBy_r3 ++ (wsX2_winnerBy_r4 ++ wsX2_winnerBy_r5)))) ++ wsX20 ++ wsX00 ++ wsX30)
def wsX2_shiftTo : List Cond := .code yX2_shiftTo cX2_shiftTo 4 (some .int) :: ([.fieldLink RX2 9 "BallotLoom$Poll" "firsts" "[I"] ++ wsX20)
def wsX2_leastShift_r1 : List Cond := [Cond.fieldLink RX2 9 "BallotLoom$Poll" "firsts" "[I", Cond.fieldLink RX2 86 "BallotLoom$Box" "candidates" "I", Cond.fieldLink RX2 89 "BallotLoom$Box" "stands" "[Z", Cond.methodLink RX2 116 Lib.Math.min.name, Cond.static Lib.Math.min.name, Cond.initialized "java/lang/Math", Cond.code Lib.Math.min.name Lib.Math.min.code 2 (some .int), Cond.methodLink RX2 37 yX2_countFirsts, Cond.instanceMethod yX2_countFirsts, Cond.selects RX2 yX2_countFirsts yX2_countFirsts, Cond.initialized RX2, Cond.code yX2_countFirsts cX2_countFirsts 5 none, Cond.fieldLink RX2 61 "BallotLoom$Box" "cast" "I", Cond.fieldLink RX2 67 "BallotLoom$Box" "stacks" "[LBallotLoom$Stack;", Cond.fieldLink RX2 77 "BallotLoom$Stack" "length" "I", Cond.fieldLink RX2 80 "BallotLoom$Stack" "list" "[I", Cond.fieldLink RX2 83 "BallotLoom$Stack" "count" "I", Cond.methodLink RX2 71 yX3_countsIn, Cond.instanceMethod yX3_countsIn, Cond.selects RX3 yX3_countsIn yX3_countsIn, Cond.initialized RX3, Cond.code yX3_countsIn cX3_countsIn 2 (some .boolean), Cond.fieldLink RX3 43 "BallotLoom$Stack" "district" "I", Cond.fieldLink RX3 28 "BallotLoom$Stack" "isSpoiled" "Z"]
def wsX2_leastShift_r2 : List Cond := [Cond.methodLink RX2 41 yX2_mostFirsts, Cond.instanceMethod yX2_mostFirsts, Cond.selects RX2 yX2_mostFirsts yX2_mostFirsts, Cond.code yX2_mostFirsts cX2_mostFirsts 4 (some .int), Cond.methodLink RX2 147 yX2_shiftTo, Cond.instanceMethod yX2_shiftTo, Cond.selects RX2 yX2_shiftTo yX2_shiftTo, Cond.code yX2_shiftTo cX2_shiftTo 4 (some .int)]
def wsX2_leastShift : List Cond := .code yX2_leastShift cX2_leastShift 7 (some .int) :: ((wsX2_leastShift_r1 ++ wsX2_leastShift_r2) ++ wsX20 ++ wsX00 ++ wsX30)
def wsX3_setListWithFirst : List Cond := .code yX3_setListWithFirst cX3_setListWithFirst 5 none :: ([.fieldLink RX3 28 "BallotLoom$Stack" "isSpoiled" "Z", .fieldLink RX3 36 "BallotLoom$Stack" "length" "I", .fieldLink RX3 9 "BallotLoom$Stack" "list" "[I"] ++ wsX30)
def wsX3_figure : List Cond := .code yX3_figure cX3_figure 2 (some .int) :: ([.fieldLink RX3 43 "BallotLoom$Stack" "district" "I", .fieldLink RX3 15 "BallotLoom$Stack" "ranks" "I", .fieldLink RX3 46 "BallotLoom$Stack" "count" "I", .fieldLink RX3 28 "BallotLoom$Stack" "isSpoiled" "Z", .fieldLink RX3 36 "BallotLoom$Stack" "length" "I", .fieldLink RX3 9 "BallotLoom$Stack" "list" "[I"] ++ wsX30)
def wsX4_init : List Cond := .code yX4_init cX4_init 1 none :: ([.methodLink RX4 3 objectInit, .instanceMethod objectInit, .code objectInit ⟨#[0xb1]⟩ 1 none, .arrayClass .int, .fieldLink RX4 9 "BallotLoom$Transfers" "chosen" "[I", .arrayClass .boolean, .fieldLink RX4 15 "BallotLoom$Transfers" "isIn" "[Z", .arrayClass .double, .fieldLink RX4 19 "BallotLoom$Transfers" "held" "[D"] ++ wsX40)
def wsX4_start : List Cond := .code yX4_start cX4_start 5 none :: ([.fieldLink RX4 9 "BallotLoom$Transfers" "chosen" "[I", .fieldLink RX4 15 "BallotLoom$Transfers" "isIn" "[Z", .fieldLink RX4 58 "BallotLoom$Box" "cast" "I", .fieldLink RX4 61 "BallotLoom$Box" "stacks" "[LBallotLoom$Stack;", .fieldLink RX4 65 "BallotLoom$Stack" "district" "I", .fieldLink RX4 70 "BallotLoom$Stack" "isSpoiled" "Z", .fieldLink RX4 74 "BallotLoom$Stack" "count" "I", .fieldLink RX4 77 "BallotLoom$Stack" "value" "D", .methodLink RX4 54 yX0_isStanding, .instanceMethod yX0_isStanding, .selects RX0 yX0_isStanding yX0_isStanding, .initialized RX0, .code yX0_isStanding cX0_isStanding 2 (some .boolean), .fieldLink RX0 29 "BallotLoom$Box" "candidates" "I", .fieldLink RX0 15 "BallotLoom$Box" "stands" "[Z"] ++ wsX40 ++ wsX00 ++ wsX30)
def wsX4_countHeld : List Cond := .code yX4_countHeld cX4_countHeld 6 none :: ([.fieldLink RX4 19 "BallotLoom$Transfers" "held" "[D", .fieldLink RX4 58 "BallotLoom$Box" "cast" "I", .fieldLink RX4 61 "BallotLoom$Box" "stacks" "[LBallotLoom$Stack;", .fieldLink RX4 15 "BallotLoom$Transfers" "isIn" "[Z", .fieldLink RX4 77 "BallotLoom$Stack" "value" "D", .methodLink RX4 81 yX3_countsIn, .instanceMethod yX3_countsIn, .selects RX3 yX3_countsIn yX3_countsIn, .initialized RX3, .code yX3_countsIn cX3_countsIn 2 (some .boolean), .fieldLink RX3 43 "BallotLoom$Stack" "district" "I", .fieldLink RX3 28 "BallotLoom$Stack" "isSpoiled" "Z", .methodLink RX4 84 yX3_firstOf, .instanceMethod yX3_firstOf, .selects RX3 yX3_firstOf yX3_firstOf, .code yX3_firstOf cX3_firstOf 3 (some .int), .fieldLink RX3 36 "BallotLoom$Stack" "length" "I", .fieldLink RX3 9 "BallotLoom$Stack" "list" "[I"] ++ wsX40 ++ wsX00 ++ wsX30)
def wsX4_mostHeld : List Cond := .code yX4_mostHeld cX4_mostHeld 3 (some .int) :: ([.fieldLink RX4 15 "BallotLoom$Transfers" "isIn" "[Z", .fieldLink RX4 19 "BallotLoom$Transfers" "held" "[D"] ++ wsX40)
def wsX4_loweredValue : List Cond := .code yX4_loweredValue cX4_loweredValue 7 (some .double) :: ([.constantDouble RX4 92 (4652218415073722368)])
def wsX4_lowerValues : List Cond := .code yX4_lowerValues cX4_lowerValues 7 none :: ([.fieldLink RX4 58 "BallotLoom$Box" "cast" "I", .fieldLink RX4 61 "BallotLoom$Box" "stacks" "[LBallotLoom$Stack;", .fieldLink RX4 15 "BallotLoom$Transfers" "isIn" "[Z", .fieldLink RX4 77 "BallotLoom$Stack" "value" "D", .fieldLink RX4 19 "BallotLoom$Transfers" "held" "[D", .methodLink RX4 81 yX3_countsIn, .instanceMethod yX3_countsIn, .selects RX3 yX3_countsIn yX3_countsIn, .initialized RX3, .code yX3_countsIn cX3_countsIn 2 (some .boolean), .fieldLink RX3 43 "BallotLoom$Stack" "district" "I", .fieldLink RX3 28 "BallotLoom$Stack" "isSpoiled" "Z", .methodLink RX4 84 yX3_firstOf, .instanceMethod yX3_firstOf, .selects RX3 yX3_firstOf yX3_firstOf, .code yX3_firstOf cX3_firstOf 3 (some .int), .fieldLink RX3 36 "BallotLoom$Stack" "length" "I", .fieldLink RX3 9 "BallotLoom$Stack" "list" "[I", .methodLink RX4 88 yX4_loweredValue, .static yX4_loweredValue, .initialized RX4, .code yX4_loweredValue cX4_loweredValue 7 (some .double), .constantDouble RX4 92 (4652218415073722368)] ++ wsX00 ++ wsX40 ++ wsX30)
def wsX4_leastHeld : List Cond := .code yX4_leastHeld cX4_leastHeld 4 (some .int) :: ([.fieldLink RX4 15 "BallotLoom$Transfers" "isIn" "[Z", .fieldLink RX4 19 "BallotLoom$Transfers" "held" "[D"] ++ wsX40)
def wsX4_fillSeats_r1 : List Cond := [Cond.fieldLink RX4 27 "BallotLoom$Box" "seatsOf" "[I", Cond.fieldLink RX4 43 "BallotLoom$Box" "standing" "I", Cond.fieldLink RX4 19 "BallotLoom$Transfers" "held" "[D", Cond.fieldLink RX4 15 "BallotLoom$Transfers" "isIn" "[Z", Cond.fieldLink RX4 9 "BallotLoom$Transfers" "chosen" "[I", Cond.methodLink RX4 23 yX4_start, Cond.instanceMethod yX4_start, Cond.selects RX4 yX4_start yX4_start, Cond.initialized RX4, Cond.code yX4_start cX4_start 5 none, Cond.fieldLink RX4 58 "BallotLoom$Box" "cast" "I", Cond.fieldLink RX4 61 "BallotLoom$Box" "stacks" "[LBallotLoom$Stack;", Cond.fieldLink RX4 65 "BallotLoom$Stack" "district" "I", Cond.fieldLink RX4 70 "BallotLoom$Stack" "isSpoiled" "Z", Cond.fieldLink RX4 74 "BallotLoom$Stack" "count" "I", Cond.fieldLink RX4 77 "BallotLoom$Stack" "value" "D", Cond.methodLink RX4 54 yX0_isStanding, Cond.instanceMethod yX0_isStanding, Cond.selects RX0 yX0_isStanding yX0_isStanding, Cond.initialized RX0, Cond.code yX0_isStanding cX0_isStanding 2 (some .boolean), Cond.fieldLink RX0 29 "BallotLoom$Box" "candidates" "I", Cond.fieldLink RX0 15 "BallotLoom$Box" "stands" "[Z", Cond.methodLink RX4 32 yX0_countsOfListsIn]
def wsX4_fillSeats_r2 : List Cond := [Cond.instanceMethod yX0_countsOfListsIn, Cond.selects RX0 yX0_countsOfListsIn yX0_countsOfListsIn, Cond.code yX0_countsOfListsIn cX0_countsOfListsIn 4 (some .int), Cond.fieldLink RX0 39 "BallotLoom$Box" "cast" "I", Cond.fieldLink RX0 24 "BallotLoom$Box" "stacks" "[LBallotLoom$Stack;", Cond.fieldLink RX0 68 "BallotLoom$Stack" "length" "I", Cond.fieldLink RX0 45 "BallotLoom$Stack" "count" "I", Cond.methodLink RX0 64 yX3_countsIn, Cond.instanceMethod yX3_countsIn, Cond.selects RX3 yX3_countsIn yX3_countsIn, Cond.initialized RX3, Cond.code yX3_countsIn cX3_countsIn 2 (some .boolean), Cond.fieldLink RX3 43 "BallotLoom$Stack" "district" "I", Cond.fieldLink RX3 28 "BallotLoom$Stack" "isSpoiled" "Z", Cond.methodLink RX4 36 yX4_countHeld, Cond.instanceMethod yX4_countHeld, Cond.selects RX4 yX4_countHeld yX4_countHeld, Cond.code yX4_countHeld cX4_countHeld 6 none, Cond.methodLink RX4 81 yX3_countsIn, Cond.methodLink RX4 84 yX3_firstOf, Cond.instanceMethod yX3_firstOf, Cond.selects RX3 yX3_firstOf yX3_firstOf, Cond.code yX3_firstOf cX3_firstOf 3 (some .int), Cond.fieldLink RX3 36 "BallotLoom$Stack" "length" "I"]
def wsX4_fillSeats_r3 : List Cond := [Cond.fieldLink RX3 9 "BallotLoom$Stack" "list" "[I", Cond.methodLink RX4 39 yX4_mostHeld, Cond.instanceMethod yX4_mostHeld, Cond.selects RX4 yX4_mostHeld yX4_mostHeld, Cond.code yX4_mostHeld cX4_mostHeld 3 (some .int), Cond.methodLink RX4 47 yX4_lowerValues, Cond.instanceMethod yX4_lowerValues, Cond.selects RX4 yX4_lowerValues yX4_lowerValues, Cond.code yX4_lowerValues cX4_lowerValues 7 none, Cond.methodLink RX4 88 yX4_loweredValue, Cond.static yX4_loweredValue, Cond.code yX4_loweredValue cX4_loweredValue 7 (some .double), Cond.constantDouble RX4 92 (4652218415073722368), Cond.methodLink RX4 51 yX4_leastHeld, Cond.instanceMethod yX4_leastHeld, Cond.selects RX4 yX4_leastHeld yX4_leastHeld, Cond.code yX4_leastHeld cX4_leastHeld 4 (some .int)]
def wsX4_fillSeats : List Cond := .code yX4_fillSeats cX4_fillSeats 9 none :: ((wsX4_fillSeats_r1 ++ (wsX4_fillSeats_r2 ++ wsX4_fillSeats_r3)) ++ wsX00 ++ wsX40 ++ wsX30)
def wsX5_init_r1 : List Cond := [Cond.methodLink RX5 1 objectInit, Cond.instanceMethod objectInit, Cond.code objectInit ⟨#[0xb1]⟩ 1 none, Cond.classLink RX5 7 RX0, Cond.instantiable RX0 11, Cond.initialized RX0, Cond.fieldLink RX5 10 "BallotLoom" "box" "LBallotLoom$Box;", Cond.classLink RX5 16 RX2, Cond.instantiable RX2 7, Cond.initialized RX2, Cond.fieldLink RX5 19 "BallotLoom" "poll" "LBallotLoom$Poll;", Cond.classLink RX5 23 RX4, Cond.instantiable RX4 3, Cond.initialized RX4, Cond.fieldLink RX5 26 "BallotLoom" "transfers" "LBallotLoom$Transfers;", Cond.classLink RX5 30 RX1, Cond.instantiable RX1 9, Cond.initialized RX1, Cond.fieldLink RX5 33 "BallotLoom" "parties" "LBallotLoom$Parties;", Cond.classLink RX5 37 RX3, Cond.instantiable RX3 7, Cond.initialized RX3, Cond.fieldLink RX5 40 "BallotLoom" "spare" "LBallotLoom$Stack;", Cond.methodLink RX5 9 yX0_init]
def wsX5_init_r2 : List Cond := [Cond.instanceMethod yX0_init, Cond.code yX0_init cX0_init 2 none, Cond.methodLink RX0 3 objectInit, Cond.arrayClass .int, Cond.fieldLink RX0 9 "BallotLoom$Box" "partyOf" "[I", Cond.arrayClass .boolean, Cond.fieldLink RX0 15 "BallotLoom$Box" "stands" "[Z", Cond.fieldLink RX0 19 "BallotLoom$Box" "seatsOf" "[I", Cond.classLink RX0 22 RX3, Cond.fieldLink RX0 24 "BallotLoom$Box" "stacks" "[LBallotLoom$Stack;", Cond.instanceMethod yX3_init, Cond.code yX3_init cX3_init 1 none, Cond.methodLink RX3 3 objectInit, Cond.fieldLink RX3 9 "BallotLoom$Stack" "list" "[I", Cond.instanceMethod yX2_init, Cond.code yX2_init cX2_init 1 none, Cond.methodLink RX2 3 objectInit, Cond.fieldLink RX2 9 "BallotLoom$Poll" "firsts" "[I", Cond.arrayClass .double, Cond.fieldLink RX2 15 "BallotLoom$Poll" "points" "[D", Cond.classLink RX2 19 "[[I", Cond.fieldLink RX2 21 "BallotLoom$Poll" "beats" "[[I", Cond.fieldLink RX2 24 "BallotLoom$Poll" "paths" "[[I", Cond.fieldLink RX2 27 "BallotLoom$Poll" "goneOut" "[I"]
def wsX5_init_r3 : List Cond := [Cond.fieldLink RX2 30 "BallotLoom$Poll" "isIn" "[Z", Cond.fieldLink RX2 34 "BallotLoom$Poll" "behind" "[I", Cond.instanceMethod yX4_init, Cond.code yX4_init cX4_init 1 none, Cond.methodLink RX4 3 objectInit, Cond.fieldLink RX4 9 "BallotLoom$Transfers" "chosen" "[I", Cond.fieldLink RX4 15 "BallotLoom$Transfers" "isIn" "[Z", Cond.fieldLink RX4 19 "BallotLoom$Transfers" "held" "[D", Cond.instanceMethod yX1_init, Cond.code yX1_init cX1_init 1 none, Cond.methodLink RX1 3 objectInit, Cond.fieldLink RX1 9 "BallotLoom$Parties" "votes" "[I", Cond.fieldLink RX1 15 "BallotLoom$Parties" "standing" "[I", Cond.fieldLink RX1 18 "BallotLoom$Parties" "isBarred" "[Z", Cond.fieldLink RX1 22 "BallotLoom$Parties" "direct" "[I", Cond.fieldLink RX1 25 "BallotLoom$Parties" "wasted" "[I", Cond.fieldLink RX1 28 "BallotLoom$Parties" "seats" "[I", Cond.fieldLink RX1 31 "BallotLoom$Parties" "votesHere" "[I", Cond.fieldLink RX1 34 "BallotLoom$Parties" "remainders" "[I"]
def wsX5_init : List Cond := .code yX5_init cX5_init 1 none :: ((wsX5_init_r1 ++ (wsX5_init_r2 ++ wsX5_init_r3)) ++ wsX00 ++ wsX50 ++ wsX20 ++ wsX40 ++ wsX10 ++ wsX30)
def wsX5_isParty : List Cond := .code yX5_isParty cX5_isParty 1 (some .boolean) :: ([])
def wsX5_candidate : List Cond := .code yX5_candidate cX5_candidate 2 (some .int) :: ([.classLink RX5 48 "java/lang/IllegalArgumentException", .initialized "java/lang/IllegalArgumentException", .classLink RX5 59 "java/lang/IllegalStateException", .initialized "java/lang/IllegalStateException", .fieldLink RX5 10 "BallotLoom" "box" "LBallotLoom$Box;", .fieldLink RX5 55 "BallotLoom$Box" "candidates" "I", .methodLink RX5 44 yX5_isParty, .static yX5_isParty, .initialized RX5, .code yX5_isParty cX5_isParty 1 (some .boolean), .methodLink RX5 64 yX0_addCandidate, .instanceMethod yX0_addCandidate, .selects RX0 yX0_addCandidate yX0_addCandidate, .initialized RX0, .code yX0_addCandidate cX0_addCandidate 3 (some .int), .fieldLink RX0 29 "BallotLoom$Box" "candidates" "I", .fieldLink RX0 9 "BallotLoom$Box" "partyOf" "[I", .fieldLink RX0 15 "BallotLoom$Box" "stands" "[Z", .fieldLink RX0 33 "BallotLoom$Box" "standing" "I"] ++ wsX50 ++ wsX00 ++ (vx_atS RX5 52 "java/lang/IllegalArgumentException" ["java/lang/RuntimeException", "java/lang/Exception"]).filter goodWord ++ (vx_atS RX5 63 "java/lang/IllegalStateException" ["java/lang/RuntimeException", "java/lang/Exception"]).filter goodWord)
def wsX5_checkCandidate : List Cond := .code yX5_checkCandidate cX5_checkCandidate 2 none :: ([.classLink RX5 294 "java/lang/IndexOutOfBoundsException", .initialized "java/lang/IndexOutOfBoundsException", .fieldLink RX5 10 "BallotLoom" "box" "LBallotLoom$Box;", .fieldLink RX5 55 "BallotLoom$Box" "candidates" "I"] ++ wsX50 ++ wsX00 ++ (vx_atS RX5 298 "java/lang/IndexOutOfBoundsException" ["java/lang/RuntimeException", "java/lang/Exception"]).filter goodWord)
def wsX5_withdraw_r1 : List Cond := [Cond.classLink RX5 59 "java/lang/IllegalStateException", Cond.initialized "java/lang/IllegalStateException", Cond.fieldLink RX5 10 "BallotLoom" "box" "LBallotLoom$Box;", Cond.fieldLink RX5 72 "BallotLoom$Box" "stands" "[Z", Cond.fieldLink RX5 81 "BallotLoom$Box" "standing" "I", Cond.methodLink RX5 68 yX5_checkCandidate, Cond.instanceMethod yX5_checkCandidate, Cond.selects RX5 yX5_checkCandidate yX5_checkCandidate, Cond.initialized RX5, Cond.code yX5_checkCandidate cX5_checkCandidate 2 none, Cond.classLink RX5 294 "java/lang/IndexOutOfBoundsException", Cond.initialized "java/lang/IndexOutOfBoundsException", Cond.fieldLink RX5 55 "BallotLoom$Box" "candidates" "I", Cond.methodLink RX5 78 yX0_takeOff, Cond.instanceMethod yX0_takeOff, Cond.selects RX0 yX0_takeOff yX0_takeOff, Cond.initialized RX0, Cond.code yX0_takeOff cX0_takeOff 3 none, Cond.fieldLink RX0 15 "BallotLoom$Box" "stands" "[Z", Cond.fieldLink RX0 33 "BallotLoom$Box" "standing" "I", Cond.fieldLink RX0 39 "BallotLoom$Box" "cast" "I", Cond.fieldLink RX0 24 "BallotLoom$Box" "stacks" "[LBallotLoom$Stack;", Cond.methodLink RX0 52 yX3_makeList, Cond.instanceMethod yX3_makeList]
def wsX5_withdraw_r2 : List Cond := [Cond.selects RX3 yX3_makeList yX3_makeList, Cond.initialized RX3, Cond.code yX3_makeList cX3_makeList 5 none, Cond.fieldLink RX3 36 "BallotLoom$Stack" "length" "I", Cond.fieldLink RX3 28 "BallotLoom$Stack" "isSpoiled" "Z", Cond.fieldLink RX3 15 "BallotLoom$Stack" "ranks" "I", Cond.fieldLink RX3 9 "BallotLoom$Stack" "list" "[I", Cond.methodLink RX3 39 yX0_isStanding, Cond.instanceMethod yX0_isStanding, Cond.selects RX0 yX0_isStanding yX0_isStanding, Cond.code yX0_isStanding cX0_isStanding 2 (some .boolean), Cond.fieldLink RX0 29 "BallotLoom$Box" "candidates" "I"]
def wsX5_withdraw : List Cond := .code yX5_withdraw cX5_withdraw 2 (some .int) :: ((wsX5_withdraw_r1 ++ wsX5_withdraw_r2) ++ wsX50 ++ wsX00 ++ wsX30 ++ (vx_atS RX5 63 "java/lang/IllegalStateException" ["java/lang/RuntimeException", "java/lang/Exception"]).filter goodWord ++ (vx_atS RX5 298 "java/lang/IndexOutOfBoundsException" ["java/lang/RuntimeException", "java/lang/Exception"]).filter goodWord)
def wsX5_district : List Cond := .code yX5_district cX5_district 2 (some .int) :: ([.classLink RX5 48 "java/lang/IllegalArgumentException", .initialized "java/lang/IllegalArgumentException", .classLink RX5 59 "java/lang/IllegalStateException", .initialized "java/lang/IllegalStateException", .fieldLink RX5 10 "BallotLoom" "box" "LBallotLoom$Box;", .fieldLink RX5 86 "BallotLoom$Box" "districts" "I", .methodLink RX5 91 yX0_addDistrict, .instanceMethod yX0_addDistrict, .selects RX0 yX0_addDistrict yX0_addDistrict, .initialized RX0, .code yX0_addDistrict cX0_addDistrict 3 (some .int), .fieldLink RX0 36 "BallotLoom$Box" "districts" "I", .fieldLink RX0 19 "BallotLoom$Box" "seatsOf" "[I"] ++ wsX50 ++ wsX00 ++ (vx_atS RX5 52 "java/lang/IllegalArgumentException" ["java/lang/RuntimeException", "java/lang/Exception"]).filter goodWord ++ (vx_atS RX5 63 "java/lang/IllegalStateException" ["java/lang/RuntimeException", "java/lang/Exception"]).filter goodWord)
def wsX5_checkDistrict : List Cond := .code yX5_checkDistrict cX5_checkDistrict 2 none :: ([.classLink RX5 294 "java/lang/IndexOutOfBoundsException", .initialized "java/lang/IndexOutOfBoundsException", .fieldLink RX5 10 "BallotLoom" "box" "LBallotLoom$Box;", .fieldLink RX5 86 "BallotLoom$Box" "districts" "I"] ++ wsX50 ++ wsX00 ++ (vx_atS RX5 298 "java/lang/IndexOutOfBoundsException" ["java/lang/RuntimeException", "java/lang/Exception"]).filter goodWord)
def wsX5_checkRanks : List Cond := .code yX5_checkRanks cX5_checkRanks 1 none :: ([.classLink RX5 48 "java/lang/IllegalArgumentException", .initialized "java/lang/IllegalArgumentException", .constant RX5 303 (999999)] ++ (vx_atS RX5 52 "java/lang/IllegalArgumentException" ["java/lang/RuntimeException", "java/lang/Exception"]).filter goodWord)
def wsX5_checkCount : List Cond := .code yX5_checkCount cX5_checkCount 1 none :: ([.classLink RX5 48 "java/lang/IllegalArgumentException", .initialized "java/lang/IllegalArgumentException"] ++ (vx_atS RX5 52 "java/lang/IllegalArgumentException" ["java/lang/RuntimeException", "java/lang/Exception"]).filter goodWord)
def wsX5_checkOpen : List Cond := .code yX5_checkOpen cX5_checkOpen 1 none :: ([.classLink RX5 59 "java/lang/IllegalStateException", .initialized "java/lang/IllegalStateException", .fieldLink RX5 10 "BallotLoom" "box" "LBallotLoom$Box;", .fieldLink RX5 141 "BallotLoom$Box" "isSealed" "Z"] ++ wsX50 ++ wsX00 ++ (vx_atS RX5 63 "java/lang/IllegalStateException" ["java/lang/RuntimeException", "java/lang/Exception"]).filter goodWord)
def wsX5_cast_r1 : List Cond := [Cond.classLink RX5 59 "java/lang/IllegalStateException", Cond.initialized "java/lang/IllegalStateException", Cond.fieldLink RX5 10 "BallotLoom" "box" "LBallotLoom$Box;", Cond.fieldLink RX5 106 "BallotLoom$Box" "cast" "I", Cond.methodLink RX5 94 yX5_checkDistrict, Cond.instanceMethod yX5_checkDistrict, Cond.selects RX5 yX5_checkDistrict yX5_checkDistrict, Cond.initialized RX5, Cond.code yX5_checkDistrict cX5_checkDistrict 2 none, Cond.classLink RX5 294 "java/lang/IndexOutOfBoundsException", Cond.initialized "java/lang/IndexOutOfBoundsException", Cond.fieldLink RX5 86 "BallotLoom$Box" "districts" "I", Cond.methodLink RX5 97 yX5_checkRanks, Cond.static yX5_checkRanks, Cond.code yX5_checkRanks cX5_checkRanks 1 none, Cond.classLink RX5 48 "java/lang/IllegalArgumentException", Cond.initialized "java/lang/IllegalArgumentException", Cond.constant RX5 303 (999999), Cond.methodLink RX5 100 yX5_checkCount, Cond.static yX5_checkCount, Cond.code yX5_checkCount cX5_checkCount 1 none, Cond.methodLink RX5 103 yX5_checkOpen, Cond.instanceMethod yX5_checkOpen, Cond.selects RX5 yX5_checkOpen yX5_checkOpen]
def wsX5_cast_r2 : List Cond := [Cond.code yX5_checkOpen cX5_checkOpen 1 none, Cond.fieldLink RX5 141 "BallotLoom$Box" "isSealed" "Z", Cond.methodLink RX5 111 yX0_addStack, Cond.instanceMethod yX0_addStack, Cond.selects RX0 yX0_addStack yX0_addStack, Cond.initialized RX0, Cond.code yX0_addStack cX0_addStack 6 (some .int), Cond.fieldLink RX0 39 "BallotLoom$Box" "cast" "I", Cond.fieldLink RX0 24 "BallotLoom$Box" "stacks" "[LBallotLoom$Stack;", Cond.fieldLink RX0 42 "BallotLoom$Stack" "district" "I", Cond.fieldLink RX0 45 "BallotLoom$Stack" "count" "I", Cond.methodLink RX0 48 yX3_setRanks, Cond.instanceMethod yX3_setRanks, Cond.selects RX3 yX3_setRanks yX3_setRanks, Cond.initialized RX3, Cond.code yX3_setRanks cX3_setRanks 3 none, Cond.fieldLink RX3 15 "BallotLoom$Stack" "ranks" "I", Cond.fieldLink RX3 19 "BallotLoom$Box" "candidates" "I", Cond.fieldLink RX3 28 "BallotLoom$Stack" "isSpoiled" "Z", Cond.methodLink RX3 24 yX3_isSpoiling, Cond.static yX3_isSpoiling, Cond.code yX3_isSpoiling cX3_isSpoiling 7 (some .boolean), Cond.methodLink RX3 32 yX3_makeList, Cond.instanceMethod yX3_makeList]
def wsX5_cast_r3 : List Cond := [Cond.selects RX3 yX3_makeList yX3_makeList, Cond.code yX3_makeList cX3_makeList 5 none, Cond.fieldLink RX3 36 "BallotLoom$Stack" "length" "I", Cond.fieldLink RX3 9 "BallotLoom$Stack" "list" "[I", Cond.methodLink RX3 39 yX0_isStanding, Cond.instanceMethod yX0_isStanding, Cond.selects RX0 yX0_isStanding yX0_isStanding, Cond.code yX0_isStanding cX0_isStanding 2 (some .boolean), Cond.fieldLink RX0 29 "BallotLoom$Box" "candidates" "I", Cond.fieldLink RX0 15 "BallotLoom$Box" "stands" "[Z"]
def wsX5_cast : List Cond := .code yX5_cast cX5_cast 4 (some .int) :: ((wsX5_cast_r1 ++ (wsX5_cast_r2 ++ wsX5_cast_r3)) ++ wsX50 ++ wsX00 ++ wsX30 ++ (vx_atS RX5 63 "java/lang/IllegalStateException" ["java/lang/RuntimeException", "java/lang/Exception"]).filter goodWord ++ (vx_atS RX5 298 "java/lang/IndexOutOfBoundsException" ["java/lang/RuntimeException", "java/lang/Exception"]).filter goodWord ++ (vx_atS RX5 52 "java/lang/IllegalArgumentException" ["java/lang/RuntimeException", "java/lang/Exception"]).filter goodWord)
def wsX5_checkStack : List Cond := .code yX5_checkStack cX5_checkStack 2 none :: ([.classLink RX5 294 "java/lang/IndexOutOfBoundsException", .initialized "java/lang/IndexOutOfBoundsException", .fieldLink RX5 10 "BallotLoom" "box" "LBallotLoom$Box;", .fieldLink RX5 106 "BallotLoom$Box" "cast" "I"] ++ wsX50 ++ wsX00 ++ (vx_atS RX5 298 "java/lang/IndexOutOfBoundsException" ["java/lang/RuntimeException", "java/lang/Exception"]).filter goodWord)
def wsX5_recount : List Cond := .code yX5_recount cX5_recount 5 (some .int) :: ([.fieldLink RX5 10 "BallotLoom" "box" "LBallotLoom$Box;", .fieldLink RX5 118 "BallotLoom$Box" "stacks" "[LBallotLoom$Stack;", .fieldLink RX5 122 "BallotLoom$Stack" "count" "I", .methodLink RX5 115 yX5_checkStack, .instanceMethod yX5_checkStack, .selects RX5 yX5_checkStack yX5_checkStack, .initialized RX5, .code yX5_checkStack cX5_checkStack 2 none, .classLink RX5 294 "java/lang/IndexOutOfBoundsException", .initialized "java/lang/IndexOutOfBoundsException", .fieldLink RX5 106 "BallotLoom$Box" "cast" "I", .methodLink RX5 100 yX5_checkCount, .static yX5_checkCount, .code yX5_checkCount cX5_checkCount 1 none, .classLink RX5 48 "java/lang/IllegalArgumentException", .initialized "java/lang/IllegalArgumentException", .methodLink RX5 103 yX5_checkOpen, .instanceMethod yX5_checkOpen, .selects RX5 yX5_checkOpen yX5_checkOpen, .code yX5_checkOpen cX5_checkOpen 1 none, .classLink RX5 59 "java/lang/IllegalStateException", .initialized "java/lang/IllegalStateException", .fieldLink RX5 141 "BallotLoom$Box" "isSealed" "Z"] ++ wsX50 ++ wsX00 ++ wsX30 ++ (vx_atS RX5 298 "java/lang/IndexOutOfBoundsException" ["java/lang/RuntimeException", "java/lang/Exception"]).filter goodWord ++ (vx_atS RX5 52 "java/lang/IllegalArgumentException" ["java/lang/RuntimeException", "java/lang/Exception"]).filter goodWord ++ (vx_atS RX5 63 "java/lang/IllegalStateException" ["java/lang/RuntimeException", "java/lang/Exception"]).filter goodWord)
def wsX5_move : List Cond := .code yX5_move cX5_move 5 (some .int) :: ([.fieldLink RX5 10 "BallotLoom" "box" "LBallotLoom$Box;", .fieldLink RX5 118 "BallotLoom$Box" "stacks" "[LBallotLoom$Stack;", .fieldLink RX5 125 "BallotLoom$Stack" "district" "I", .methodLink RX5 115 yX5_checkStack, .instanceMethod yX5_checkStack, .selects RX5 yX5_checkStack yX5_checkStack, .initialized RX5, .code yX5_checkStack cX5_checkStack 2 none, .classLink RX5 294 "java/lang/IndexOutOfBoundsException", .initialized "java/lang/IndexOutOfBoundsException", .fieldLink RX5 106 "BallotLoom$Box" "cast" "I", .methodLink RX5 94 yX5_checkDistrict, .instanceMethod yX5_checkDistrict, .selects RX5 yX5_checkDistrict yX5_checkDistrict, .code yX5_checkDistrict cX5_checkDistrict 2 none, .fieldLink RX5 86 "BallotLoom$Box" "districts" "I", .methodLink RX5 103 yX5_checkOpen, .instanceMethod yX5_checkOpen, .selects RX5 yX5_checkOpen yX5_checkOpen, .code yX5_checkOpen cX5_checkOpen 1 none, .classLink RX5 59 "java/lang/IllegalStateException", .initialized "java/lang/IllegalStateException", .fieldLink RX5 141 "BallotLoom$Box" "isSealed" "Z"] ++ wsX50 ++ wsX00 ++ wsX30 ++ (vx_atS RX5 298 "java/lang/IndexOutOfBoundsException" ["java/lang/RuntimeException", "java/lang/Exception"]).filter goodWord ++ (vx_atS RX5 63 "java/lang/IllegalStateException" ["java/lang/RuntimeException", "java/lang/Exception"]).filter goodWord)
def wsX5_threshold_r1 : List Cond := [Cond.classLink RX5 48 "java/lang/IllegalArgumentException", Cond.initialized "java/lang/IllegalArgumentException", Cond.fieldLink RX5 10 "BallotLoom" "box" "LBallotLoom$Box;", Cond.fieldLink RX5 130 "BallotLoom$Box" "percent" "I", Cond.fieldLink RX5 33 "BallotLoom" "parties" "LBallotLoom$Parties;", Cond.methodLink RX5 133 yX1_countVotes, Cond.instanceMethod yX1_countVotes, Cond.selects RX1 yX1_countVotes yX1_countVotes, Cond.initialized RX1, Cond.code yX1_countVotes cX1_countVotes 4 none, Cond.fieldLink RX1 37 "BallotLoom$Parties" "allVotes" "I", Cond.fieldLink RX1 9 "BallotLoom$Parties" "votes" "[I", Cond.fieldLink RX1 15 "BallotLoom$Parties" "standing" "[I", Cond.fieldLink RX1 47 "BallotLoom$Box" "cast" "I", Cond.fieldLink RX1 50 "BallotLoom$Box" "stacks" "[LBallotLoom$Stack;", Cond.fieldLink RX1 54 "BallotLoom$Stack" "length" "I", Cond.fieldLink RX1 59 "BallotLoom$Box" "partyOf" "[I", Cond.fieldLink RX1 62 "BallotLoom$Stack" "list" "[I", Cond.fieldLink RX1 65 "BallotLoom$Stack" "count" "I", Cond.fieldLink RX1 18 "BallotLoom$Parties" "isBarred" "[Z", Cond.fieldLink RX1 68 "BallotLoom$Box" "percent" "I", Cond.methodLink RX1 41 yX0_standingOf, Cond.instanceMethod yX0_standingOf, Cond.selects RX0 yX0_standingOf yX0_standingOf]
def wsX5_threshold_r2 : List Cond := [Cond.initialized RX0, Cond.code yX0_standingOf cX0_standingOf 4 (some .int), Cond.fieldLink RX0 29 "BallotLoom$Box" "candidates" "I", Cond.fieldLink RX0 15 "BallotLoom$Box" "stands" "[Z", Cond.fieldLink RX0 9 "BallotLoom$Box" "partyOf" "[I", Cond.methodLink RX5 137 yX1_barredSet, Cond.instanceMethod yX1_barredSet, Cond.selects RX1 yX1_barredSet yX1_barredSet, Cond.code yX1_barredSet cX1_barredSet 3 (some .int)]
def wsX5_threshold : List Cond := .code yX5_threshold cX5_threshold 2 (some .int) :: ((wsX5_threshold_r1 ++ wsX5_threshold_r2) ++ wsX50 ++ wsX00 ++ wsX10 ++ wsX30 ++ (vx_atS RX5 52 "java/lang/IllegalArgumentException" ["java/lang/RuntimeException", "java/lang/Exception"]).filter goodWord)
def wsX5_seal : List Cond := .code yX5_seal cX5_seal 3 (some .boolean) :: ([.fieldLink RX5 10 "BallotLoom" "box" "LBallotLoom$Box;", .fieldLink RX5 141 "BallotLoom$Box" "isSealed" "Z"] ++ wsX50 ++ wsX00)
def wsX5_checkWhat : List Cond := .code yX5_checkWhat cX5_checkWhat 2 none :: ([.classLink RX5 48 "java/lang/IllegalArgumentException", .initialized "java/lang/IllegalArgumentException"] ++ (vx_atS RX5 52 "java/lang/IllegalArgumentException" ["java/lang/RuntimeException", "java/lang/Exception"]).filter goodWord)
def wsX5_ofStack_r1 : List Cond := [Cond.fieldLink RX5 10 "BallotLoom" "box" "LBallotLoom$Box;", Cond.fieldLink RX5 118 "BallotLoom$Box" "stacks" "[LBallotLoom$Stack;", Cond.methodLink RX5 115 yX5_checkStack, Cond.instanceMethod yX5_checkStack, Cond.selects RX5 yX5_checkStack yX5_checkStack, Cond.initialized RX5, Cond.code yX5_checkStack cX5_checkStack 2 none, Cond.classLink RX5 294 "java/lang/IndexOutOfBoundsException", Cond.initialized "java/lang/IndexOutOfBoundsException", Cond.fieldLink RX5 106 "BallotLoom$Box" "cast" "I", Cond.methodLink RX5 148 yX5_checkWhat, Cond.static yX5_checkWhat, Cond.code yX5_checkWhat cX5_checkWhat 2 none, Cond.classLink RX5 48 "java/lang/IllegalArgumentException", Cond.initialized "java/lang/IllegalArgumentException", Cond.methodLink RX5 152 yX3_figure, Cond.instanceMethod yX3_figure, Cond.selects RX3 yX3_figure yX3_figure, Cond.initialized RX3, Cond.code yX3_figure cX3_figure 2 (some .int), Cond.fieldLink RX3 43 "BallotLoom$Stack" "district" "I", Cond.fieldLink RX3 15 "BallotLoom$Stack" "ranks" "I", Cond.fieldLink RX3 46 "BallotLoom$Stack" "count" "I", Cond.fieldLink RX3 28 "BallotLoom$Stack" "isSpoiled" "Z"]
def wsX5_ofStack_r2 : List Cond := [Cond.fieldLink RX3 36 "BallotLoom$Stack" "length" "I", Cond.fieldLink RX3 9 "BallotLoom$Stack" "list" "[I"]
def wsX5_ofStack : List Cond := .code yX5_ofStack cX5_ofStack 3 (some .int) :: ((wsX5_ofStack_r1 ++ wsX5_ofStack_r2) ++ wsX50 ++ wsX00 ++ wsX30 ++ (vx_atS RX5 298 "java/lang/IndexOutOfBoundsException" ["java/lang/RuntimeException", "java/lang/Exception"]).filter goodWord ++ (vx_atS RX5 52 "java/lang/IllegalArgumentException" ["java/lang/RuntimeException", "java/lang/Exception"]).filter goodWord)
def wsX5_checkWay : List Cond := .code yX5_checkWay cX5_checkWay 1 none :: ([.classLink RX5 48 "java/lang/IllegalArgumentException", .initialized "java/lang/IllegalArgumentException"] ++ (vx_atS RX5 52 "java/lang/IllegalArgumentException" ["java/lang/RuntimeException", "java/lang/Exception"]).filter goodWord)
def wsX5_winner_r1 : List Cond := [Cond.fieldLink RX5 19 "BallotLoom" "poll" "LBallotLoom$Poll;", Cond.fieldLink RX5 10 "BallotLoom" "box" "LBallotLoom$Box;", Cond.methodLink RX5 94 yX5_checkDistrict, Cond.instanceMethod yX5_checkDistrict, Cond.selects RX5 yX5_checkDistrict yX5_checkDistrict, Cond.initialized RX5, Cond.code yX5_checkDistrict cX5_checkDistrict 2 none, Cond.classLink RX5 294 "java/lang/IndexOutOfBoundsException", Cond.initialized "java/lang/IndexOutOfBoundsException", Cond.fieldLink RX5 86 "BallotLoom$Box" "districts" "I", Cond.methodLink RX5 182 yX5_checkWay, Cond.static yX5_checkWay, Cond.code yX5_checkWay cX5_checkWay 1 none, Cond.classLink RX5 48 "java/lang/IllegalArgumentException", Cond.initialized "java/lang/IllegalArgumentException", Cond.methodLink RX5 185 yX2_winnerBy, Cond.instanceMethod yX2_winnerBy, Cond.selects RX2 yX2_winnerBy yX2_winnerBy, Cond.initialized RX2, Cond.code yX2_winnerBy cX2_winnerBy 4 (some .int), Cond.methodLink RX2 37 yX2_countFirsts, Cond.instanceMethod yX2_countFirsts, Cond.selects RX2 yX2_countFirsts yX2_countFirsts, Cond.code yX2_countFirsts cX2_countFirsts 5 none]
def wsX5_winner_r2 : List Cond := [Cond.fieldLink RX2 9 "BallotLoom$Poll" "firsts" "[I", Cond.fieldLink RX2 61 "BallotLoom$Box" "cast" "I", Cond.fieldLink RX2 67 "BallotLoom$Box" "stacks" "[LBallotLoom$Stack;", Cond.fieldLink RX2 77 "BallotLoom$Stack" "length" "I", Cond.fieldLink RX2 80 "BallotLoom$Stack" "list" "[I", Cond.fieldLink RX2 83 "BallotLoom$Stack" "count" "I", Cond.methodLink RX2 71 yX3_countsIn, Cond.instanceMethod yX3_countsIn, Cond.selects RX3 yX3_countsIn yX3_countsIn, Cond.initialized RX3, Cond.code yX3_countsIn cX3_countsIn 2 (some .boolean), Cond.fieldLink RX3 43 "BallotLoom$Stack" "district" "I", Cond.fieldLink RX3 28 "BallotLoom$Stack" "isSpoiled" "Z", Cond.methodLink RX2 41 yX2_mostFirsts, Cond.instanceMethod yX2_mostFirsts, Cond.selects RX2 yX2_mostFirsts yX2_mostFirsts, Cond.code yX2_mostFirsts cX2_mostFirsts 4 (some .int), Cond.fieldLink RX2 86 "BallotLoom$Box" "candidates" "I", Cond.fieldLink RX2 89 "BallotLoom$Box" "stands" "[Z", Cond.methodLink RX2 45 yX2_countPoints, Cond.instanceMethod yX2_countPoints, Cond.selects RX2 yX2_countPoints yX2_countPoints, Cond.code yX2_countPoints cX2_countPoints 5 none, Cond.fieldLink RX2 15 "BallotLoom$Poll" "points" "[D"]
def wsX5_winner_r3 : List Cond := [Cond.constantDouble RX2 95 (13830554455654793216), Cond.methodLink RX2 92 yX0_isStanding, Cond.instanceMethod yX0_isStanding, Cond.selects RX0 yX0_isStanding yX0_isStanding, Cond.initialized RX0, Cond.code yX0_isStanding cX0_isStanding 2 (some .boolean), Cond.fieldLink RX0 29 "BallotLoom$Box" "candidates" "I", Cond.fieldLink RX0 15 "BallotLoom$Box" "stands" "[Z", Cond.methodLink RX2 97 yX2_addPoints, Cond.instanceMethod yX2_addPoints, Cond.selects RX2 yX2_addPoints yX2_addPoints, Cond.code yX2_addPoints cX2_addPoints 6 none, Cond.fieldLink RX2 101 "BallotLoom$Box" "standing" "I", Cond.constantDouble RX2 108 (4611686018427387904), Cond.methodLink RX2 104 yX3_placeOf, Cond.instanceMethod yX3_placeOf, Cond.selects RX3 yX3_placeOf yX3_placeOf, Cond.code yX3_placeOf cX3_placeOf 3 (some .int), Cond.fieldLink RX3 36 "BallotLoom$Stack" "length" "I", Cond.fieldLink RX3 9 "BallotLoom$Stack" "list" "[I", Cond.methodLink RX2 48 yX2_mostPoints, Cond.instanceMethod yX2_mostPoints, Cond.selects RX2 yX2_mostPoints yX2_mostPoints, Cond.code yX2_mostPoints cX2_mostPoints 4 (some .int)]
def wsX5_winner_r4 : List Cond := [Cond.methodLink RX2 51 yX2_countPairs, Cond.instanceMethod yX2_countPairs, Cond.selects RX2 yX2_countPairs yX2_countPairs, Cond.code yX2_countPairs cX2_countPairs 5 none, Cond.fieldLink RX2 21 "BallotLoom$Poll" "beats" "[[I", Cond.methodLink RX2 110 yX2_addBeats, Cond.instanceMethod yX2_addBeats, Cond.selects RX2 yX2_addBeats yX2_addBeats, Cond.code yX2_addBeats cX2_addBeats 6 none, Cond.methodLink RX2 113 yX2_findPaths, Cond.instanceMethod yX2_findPaths, Cond.selects RX2 yX2_findPaths yX2_findPaths, Cond.code yX2_findPaths cX2_findPaths 5 none, Cond.fieldLink RX2 24 "BallotLoom$Poll" "paths" "[[I", Cond.methodLink RX2 116 Lib.Math.min.name, Cond.static Lib.Math.min.name, Cond.initialized "java/lang/Math", Cond.code Lib.Math.min.name Lib.Math.min.code 2 (some .int), Cond.methodLink RX2 122 Lib.Math.max.name, Cond.static Lib.Math.max.name, Cond.code Lib.Math.max.name Lib.Math.max.code 2 (some .int), Cond.methodLink RX2 54 yX2_widestPaths, Cond.instanceMethod yX2_widestPaths, Cond.selects RX2 yX2_widestPaths yX2_widestPaths]
def wsX5_winner_r5 : List Cond := [Cond.code yX2_widestPaths cX2_widestPaths 3 (some .int), Cond.methodLink RX2 125 yX2_isNowhereNarrower, Cond.instanceMethod yX2_isNowhereNarrower, Cond.selects RX2 yX2_isNowhereNarrower yX2_isNowhereNarrower, Cond.code yX2_isNowhereNarrower cX2_isNowhereNarrower 4 (some .boolean), Cond.methodLink RX2 57 yX2_goRounds, Cond.instanceMethod yX2_goRounds, Cond.selects RX2 yX2_goRounds yX2_goRounds, Cond.code yX2_goRounds cX2_goRounds 8 (some .int), Cond.fieldLink RX2 30 "BallotLoom$Poll" "isIn" "[Z", Cond.fieldLink RX2 27 "BallotLoom$Poll" "goneOut" "[I", Cond.fieldLink RX2 34 "BallotLoom$Poll" "behind" "[I", Cond.methodLink RX2 129 yX2_countBehind, Cond.instanceMethod yX2_countBehind, Cond.selects RX2 yX2_countBehind yX2_countBehind, Cond.code yX2_countBehind cX2_countBehind 7 (some .int), Cond.methodLink RX2 139 yX3_firstOf, Cond.instanceMethod yX3_firstOf, Cond.selects RX3 yX3_firstOf yX3_firstOf, Cond.code yX3_firstOf cX3_firstOf 3 (some .int), Cond.methodLink RX2 132 yX2_mostBehind, Cond.instanceMethod yX2_mostBehind, Cond.selects RX2 yX2_mostBehind yX2_mostBehind, Cond.code yX2_mostBehind cX2_mostBehind 3 (some .int)]
def wsX5_winner_r6 : List Cond := [Cond.methodLink RX2 136 yX2_leastBehind, Cond.instanceMethod yX2_leastBehind, Cond.selects RX2 yX2_leastBehind yX2_leastBehind, Cond.code yX2_leastBehind cX2_leastBehind 4 (some .int), Cond.methodLink RX2 143 yX2_isNoStronger, Cond.instanceMethod yX2_isNoStronger, Cond.selects RX2 yX2_isNoStronger yX2_isNoStronger, Cond.code yX2_isNoStronger cX2_isNoStronger 3 (some .boolean)]
def wsX5_winner : List Cond := .code yX5_winner cX5_winner 3 (some .int) :: ((wsX5_winner_r1 ++ (wsX5_winner_r2 ++ (wsX5_winner_r3 ++ (wsX5_winner_r4 ++ (wsX5_winner_r5 ++ wsX5_winner_r6))))) ++ wsX50 ++ wsX00 ++ wsX20 ++ wsX30 ++ (vx_atS RX5 298 "java/lang/IndexOutOfBoundsException" ["java/lang/RuntimeException", "java/lang/Exception"]).filter goodWord ++ (vx_atS RX5 52 "java/lang/IllegalArgumentException" ["java/lang/RuntimeException", "java/lang/Exception"]).filter goodWord)
def wsX5_checkParty : List Cond := .code yX5_checkParty cX5_checkParty 1 none :: ([.classLink RX5 294 "java/lang/IndexOutOfBoundsException", .initialized "java/lang/IndexOutOfBoundsException", .methodLink RX5 44 yX5_isParty, .static yX5_isParty, .initialized RX5, .code yX5_isParty cX5_isParty 1 (some .boolean)] ++ (vx_atS RX5 298 "java/lang/IndexOutOfBoundsException" ["java/lang/RuntimeException", "java/lang/Exception"]).filter goodWord)
def wsX5_ofParty_r1 : List Cond := [Cond.fieldLink RX5 33 "BallotLoom" "parties" "LBallotLoom$Parties;", Cond.fieldLink RX5 10 "BallotLoom" "box" "LBallotLoom$Box;", Cond.fieldLink RX5 19 "BallotLoom" "poll" "LBallotLoom$Poll;", Cond.methodLink RX5 210 yX5_checkParty, Cond.static yX5_checkParty, Cond.initialized RX5, Cond.code yX5_checkParty cX5_checkParty 1 none, Cond.classLink RX5 294 "java/lang/IndexOutOfBoundsException", Cond.initialized "java/lang/IndexOutOfBoundsException", Cond.methodLink RX5 44 yX5_isParty, Cond.static yX5_isParty, Cond.code yX5_isParty cX5_isParty 1 (some .boolean), Cond.methodLink RX5 148 yX5_checkWhat, Cond.static yX5_checkWhat, Cond.code yX5_checkWhat cX5_checkWhat 2 none, Cond.classLink RX5 48 "java/lang/IllegalArgumentException", Cond.initialized "java/lang/IllegalArgumentException", Cond.methodLink RX5 133 yX1_countVotes, Cond.instanceMethod yX1_countVotes, Cond.selects RX1 yX1_countVotes yX1_countVotes, Cond.initialized RX1, Cond.code yX1_countVotes cX1_countVotes 4 none, Cond.fieldLink RX1 37 "BallotLoom$Parties" "allVotes" "I", Cond.fieldLink RX1 9 "BallotLoom$Parties" "votes" "[I"]
def wsX5_ofParty_r2 : List Cond := [Cond.fieldLink RX1 15 "BallotLoom$Parties" "standing" "[I", Cond.fieldLink RX1 47 "BallotLoom$Box" "cast" "I", Cond.fieldLink RX1 50 "BallotLoom$Box" "stacks" "[LBallotLoom$Stack;", Cond.fieldLink RX1 54 "BallotLoom$Stack" "length" "I", Cond.fieldLink RX1 59 "BallotLoom$Box" "partyOf" "[I", Cond.fieldLink RX1 62 "BallotLoom$Stack" "list" "[I", Cond.fieldLink RX1 65 "BallotLoom$Stack" "count" "I", Cond.fieldLink RX1 18 "BallotLoom$Parties" "isBarred" "[Z", Cond.fieldLink RX1 68 "BallotLoom$Box" "percent" "I", Cond.methodLink RX1 41 yX0_standingOf, Cond.instanceMethod yX0_standingOf, Cond.selects RX0 yX0_standingOf yX0_standingOf, Cond.initialized RX0, Cond.code yX0_standingOf cX0_standingOf 4 (some .int), Cond.fieldLink RX0 29 "BallotLoom$Box" "candidates" "I", Cond.fieldLink RX0 15 "BallotLoom$Box" "stands" "[Z", Cond.fieldLink RX0 9 "BallotLoom$Box" "partyOf" "[I", Cond.methodLink RX5 213 yX1_countDistricts, Cond.instanceMethod yX1_countDistricts, Cond.selects RX1 yX1_countDistricts yX1_countDistricts, Cond.code yX1_countDistricts cX1_countDistricts 6 none, Cond.fieldLink RX1 22 "BallotLoom$Parties" "direct" "[I", Cond.fieldLink RX1 25 "BallotLoom$Parties" "wasted" "[I", Cond.fieldLink RX1 71 "BallotLoom$Box" "districts" "I"]
def wsX5_ofParty_r3 : List Cond := [Cond.fieldLink RX1 84 "BallotLoom$Poll" "firsts" "[I", Cond.methodLink RX1 74 yX2_countFirsts, Cond.instanceMethod yX2_countFirsts, Cond.selects RX2 yX2_countFirsts yX2_countFirsts, Cond.initialized RX2, Cond.code yX2_countFirsts cX2_countFirsts 5 none, Cond.fieldLink RX2 9 "BallotLoom$Poll" "firsts" "[I", Cond.fieldLink RX2 61 "BallotLoom$Box" "cast" "I", Cond.fieldLink RX2 67 "BallotLoom$Box" "stacks" "[LBallotLoom$Stack;", Cond.fieldLink RX2 77 "BallotLoom$Stack" "length" "I", Cond.fieldLink RX2 80 "BallotLoom$Stack" "list" "[I", Cond.fieldLink RX2 83 "BallotLoom$Stack" "count" "I", Cond.methodLink RX2 71 yX3_countsIn, Cond.instanceMethod yX3_countsIn, Cond.selects RX3 yX3_countsIn yX3_countsIn, Cond.initialized RX3, Cond.code yX3_countsIn cX3_countsIn 2 (some .boolean), Cond.fieldLink RX3 43 "BallotLoom$Stack" "district" "I", Cond.fieldLink RX3 28 "BallotLoom$Stack" "isSpoiled" "Z", Cond.methodLink RX1 80 yX2_mostFirsts, Cond.instanceMethod yX2_mostFirsts, Cond.selects RX2 yX2_mostFirsts yX2_mostFirsts, Cond.code yX2_mostFirsts cX2_mostFirsts 4 (some .int), Cond.fieldLink RX2 86 "BallotLoom$Box" "candidates" "I"]
def wsX5_ofParty_r4 : List Cond := [Cond.fieldLink RX2 89 "BallotLoom$Box" "stands" "[Z", Cond.methodLink RX1 87 yX1_countVotesHere, Cond.instanceMethod yX1_countVotesHere, Cond.selects RX1 yX1_countVotesHere yX1_countVotesHere, Cond.code yX1_countVotesHere cX1_countVotesHere 5 (some .int), Cond.fieldLink RX1 31 "BallotLoom$Parties" "votesHere" "[I", Cond.fieldLink RX1 95 "BallotLoom$Box" "candidates" "I", Cond.methodLink RX1 91 yX1_addWasted, Cond.instanceMethod yX1_addWasted, Cond.selects RX1 yX1_addWasted yX1_addWasted, Cond.code yX1_addWasted cX1_addWasted 6 none, Cond.methodLink RX1 98 Lib.Math.max.name, Cond.static Lib.Math.max.name, Cond.initialized "java/lang/Math", Cond.code Lib.Math.max.name Lib.Math.max.code 2 (some .int), Cond.methodLink RX5 217 yX1_figure, Cond.instanceMethod yX1_figure, Cond.selects RX1 yX1_figure yX1_figure, Cond.code yX1_figure cX1_figure 3 (some .int)]
def wsX5_ofParty : List Cond := .code yX5_ofParty cX5_ofParty 3 (some .int) :: ((wsX5_ofParty_r1 ++ (wsX5_ofParty_r2 ++ (wsX5_ofParty_r3 ++ wsX5_ofParty_r4))) ++ wsX50 ++ wsX10 ++ wsX00 ++ wsX30 ++ wsX20 ++ (vx_atS RX5 298 "java/lang/IndexOutOfBoundsException" ["java/lang/RuntimeException", "java/lang/Exception"]).filter goodWord ++ (vx_atS RX5 52 "java/lang/IllegalArgumentException" ["java/lang/RuntimeException", "java/lang/Exception"]).filter goodWord)
def wsX5_checkHouse : List Cond := .code yX5_checkHouse cX5_checkHouse 1 none :: ([.classLink RX5 48 "java/lang/IllegalArgumentException", .initialized "java/lang/IllegalArgumentException"] ++ (vx_atS RX5 52 "java/lang/IllegalArgumentException" ["java/lang/RuntimeException", "java/lang/Exception"]).filter goodWord)
def wsX5_checkRule : List Cond := .code yX5_checkRule cX5_checkRule 1 none :: ([.classLink RX5 48 "java/lang/IllegalArgumentException", .initialized "java/lang/IllegalArgumentException"] ++ (vx_atS RX5 52 "java/lang/IllegalArgumentException" ["java/lang/RuntimeException", "java/lang/Exception"]).filter goodWord)
def wsX5_shareHouse_r1 : List Cond := [Cond.fieldLink RX5 33 "BallotLoom" "parties" "LBallotLoom$Parties;", Cond.fieldLink RX5 10 "BallotLoom" "box" "LBallotLoom$Box;", Cond.methodLink RX5 133 yX1_countVotes, Cond.instanceMethod yX1_countVotes, Cond.selects RX1 yX1_countVotes yX1_countVotes, Cond.initialized RX1, Cond.code yX1_countVotes cX1_countVotes 4 none, Cond.fieldLink RX1 37 "BallotLoom$Parties" "allVotes" "I", Cond.fieldLink RX1 9 "BallotLoom$Parties" "votes" "[I", Cond.fieldLink RX1 15 "BallotLoom$Parties" "standing" "[I", Cond.fieldLink RX1 47 "BallotLoom$Box" "cast" "I", Cond.fieldLink RX1 50 "BallotLoom$Box" "stacks" "[LBallotLoom$Stack;", Cond.fieldLink RX1 54 "BallotLoom$Stack" "length" "I", Cond.fieldLink RX1 59 "BallotLoom$Box" "partyOf" "[I", Cond.fieldLink RX1 62 "BallotLoom$Stack" "list" "[I", Cond.fieldLink RX1 65 "BallotLoom$Stack" "count" "I", Cond.fieldLink RX1 18 "BallotLoom$Parties" "isBarred" "[Z", Cond.fieldLink RX1 68 "BallotLoom$Box" "percent" "I", Cond.methodLink RX1 41 yX0_standingOf, Cond.instanceMethod yX0_standingOf, Cond.selects RX0 yX0_standingOf yX0_standingOf, Cond.initialized RX0, Cond.code yX0_standingOf cX0_standingOf 4 (some .int), Cond.fieldLink RX0 29 "BallotLoom$Box" "candidates" "I"]
def wsX5_shareHouse_r2 : List Cond := [Cond.fieldLink RX0 15 "BallotLoom$Box" "stands" "[Z", Cond.fieldLink RX0 9 "BallotLoom$Box" "partyOf" "[I", Cond.methodLink RX5 285 yX1_shareSeats, Cond.instanceMethod yX1_shareSeats, Cond.selects RX1 yX1_shareSeats yX1_shareSeats, Cond.code yX1_shareSeats cX1_shareSeats 4 none, Cond.fieldLink RX1 28 "BallotLoom$Parties" "seats" "[I", Cond.methodLink RX1 104 yX1_shareByRemainders, Cond.instanceMethod yX1_shareByRemainders, Cond.selects RX1 yX1_shareByRemainders yX1_shareByRemainders, Cond.code yX1_shareByRemainders cX1_shareByRemainders 6 none, Cond.fieldLink RX1 34 "BallotLoom$Parties" "remainders" "[I", Cond.methodLink RX1 111 yX1_takesPart, Cond.instanceMethod yX1_takesPart, Cond.selects RX1 yX1_takesPart yX1_takesPart, Cond.code yX1_takesPart cX1_takesPart 2 (some .boolean), Cond.methodLink RX1 115 yX1_giveToGreatestRemainder, Cond.instanceMethod yX1_giveToGreatestRemainder, Cond.selects RX1 yX1_giveToGreatestRemainder yX1_giveToGreatestRemainder, Cond.code yX1_giveToGreatestRemainder cX1_giveToGreatestRemainder 3 none, Cond.methodLink RX1 108 yX1_shareByDivisors, Cond.instanceMethod yX1_shareByDivisors, Cond.selects RX1 yX1_shareByDivisors yX1_shareByDivisors, Cond.code yX1_shareByDivisors cX1_shareByDivisors 10 none]
def wsX5_shareHouse : List Cond := .code yX5_shareHouse cX5_shareHouse 3 none :: ((wsX5_shareHouse_r1 ++ wsX5_shareHouse_r2) ++ wsX50 ++ wsX10 ++ wsX00 ++ wsX30)
def wsX5_share_r1 : List Cond := [Cond.fieldLink RX5 33 "BallotLoom" "parties" "LBallotLoom$Parties;", Cond.fieldLink RX5 229 "BallotLoom$Parties" "seats" "[I", Cond.methodLink RX5 210 yX5_checkParty, Cond.static yX5_checkParty, Cond.initialized RX5, Cond.code yX5_checkParty cX5_checkParty 1 none, Cond.classLink RX5 294 "java/lang/IndexOutOfBoundsException", Cond.initialized "java/lang/IndexOutOfBoundsException", Cond.methodLink RX5 44 yX5_isParty, Cond.static yX5_isParty, Cond.code yX5_isParty cX5_isParty 1 (some .boolean), Cond.methodLink RX5 220 yX5_checkHouse, Cond.static yX5_checkHouse, Cond.code yX5_checkHouse cX5_checkHouse 1 none, Cond.classLink RX5 48 "java/lang/IllegalArgumentException", Cond.initialized "java/lang/IllegalArgumentException", Cond.methodLink RX5 223 yX5_checkRule, Cond.static yX5_checkRule, Cond.code yX5_checkRule cX5_checkRule 1 none, Cond.methodLink RX5 226 yX5_shareHouse, Cond.instanceMethod yX5_shareHouse, Cond.selects RX5 yX5_shareHouse yX5_shareHouse, Cond.code yX5_shareHouse cX5_shareHouse 3 none, Cond.fieldLink RX5 10 "BallotLoom" "box" "LBallotLoom$Box;"]
def wsX5_share_r2 : List Cond := [Cond.methodLink RX5 133 yX1_countVotes, Cond.instanceMethod yX1_countVotes, Cond.selects RX1 yX1_countVotes yX1_countVotes, Cond.initialized RX1, Cond.code yX1_countVotes cX1_countVotes 4 none, Cond.fieldLink RX1 37 "BallotLoom$Parties" "allVotes" "I", Cond.fieldLink RX1 9 "BallotLoom$Parties" "votes" "[I", Cond.fieldLink RX1 15 "BallotLoom$Parties" "standing" "[I", Cond.fieldLink RX1 47 "BallotLoom$Box" "cast" "I", Cond.fieldLink RX1 50 "BallotLoom$Box" "stacks" "[LBallotLoom$Stack;", Cond.fieldLink RX1 54 "BallotLoom$Stack" "length" "I", Cond.fieldLink RX1 59 "BallotLoom$Box" "partyOf" "[I", Cond.fieldLink RX1 62 "BallotLoom$Stack" "list" "[I", Cond.fieldLink RX1 65 "BallotLoom$Stack" "count" "I", Cond.fieldLink RX1 18 "BallotLoom$Parties" "isBarred" "[Z", Cond.fieldLink RX1 68 "BallotLoom$Box" "percent" "I", Cond.methodLink RX1 41 yX0_standingOf, Cond.instanceMethod yX0_standingOf, Cond.selects RX0 yX0_standingOf yX0_standingOf, Cond.initialized RX0, Cond.code yX0_standingOf cX0_standingOf 4 (some .int), Cond.fieldLink RX0 29 "BallotLoom$Box" "candidates" "I", Cond.fieldLink RX0 15 "BallotLoom$Box" "stands" "[Z", Cond.fieldLink RX0 9 "BallotLoom$Box" "partyOf" "[I"]
def wsX5_share_r3 : List Cond := [Cond.methodLink RX5 285 yX1_shareSeats, Cond.instanceMethod yX1_shareSeats, Cond.selects RX1 yX1_shareSeats yX1_shareSeats, Cond.code yX1_shareSeats cX1_shareSeats 4 none, Cond.fieldLink RX1 28 "BallotLoom$Parties" "seats" "[I", Cond.methodLink RX1 104 yX1_shareByRemainders, Cond.instanceMethod yX1_shareByRemainders, Cond.selects RX1 yX1_shareByRemainders yX1_shareByRemainders, Cond.code yX1_shareByRemainders cX1_shareByRemainders 6 none, Cond.fieldLink RX1 34 "BallotLoom$Parties" "remainders" "[I", Cond.methodLink RX1 111 yX1_takesPart, Cond.instanceMethod yX1_takesPart, Cond.selects RX1 yX1_takesPart yX1_takesPart, Cond.code yX1_takesPart cX1_takesPart 2 (some .boolean), Cond.methodLink RX1 115 yX1_giveToGreatestRemainder, Cond.instanceMethod yX1_giveToGreatestRemainder, Cond.selects RX1 yX1_giveToGreatestRemainder yX1_giveToGreatestRemainder, Cond.code yX1_giveToGreatestRemainder cX1_giveToGreatestRemainder 3 none, Cond.methodLink RX1 108 yX1_shareByDivisors, Cond.instanceMethod yX1_shareByDivisors, Cond.selects RX1 yX1_shareByDivisors yX1_shareByDivisors, Cond.code yX1_shareByDivisors cX1_shareByDivisors 10 none]
def wsX5_share : List Cond := .code yX5_share cX5_share 4 (some .int) :: ((wsX5_share_r1 ++ (wsX5_share_r2 ++ wsX5_share_r3)) ++ wsX50 ++ wsX10 ++ wsX00 ++ wsX30 ++ (vx_atS RX5 298 "java/lang/IndexOutOfBoundsException" ["java/lang/RuntimeException", "java/lang/Exception"]).filter goodWord ++ (vx_atS RX5 52 "java/lang/IllegalArgumentException" ["java/lang/RuntimeException", "java/lang/Exception"]).filter goodWord)
def wsX5_wouldWin_r1 : List Cond := [Cond.fieldLink RX5 10 "BallotLoom" "box" "LBallotLoom$Box;", Cond.fieldLink RX5 118 "BallotLoom$Box" "stacks" "[LBallotLoom$Stack;", Cond.fieldLink RX5 40 "BallotLoom" "spare" "LBallotLoom$Stack;", Cond.fieldLink RX5 125 "BallotLoom$Stack" "district" "I", Cond.fieldLink RX5 122 "BallotLoom$Stack" "count" "I", Cond.fieldLink RX5 19 "BallotLoom" "poll" "LBallotLoom$Poll;", Cond.methodLink RX5 115 yX5_checkStack, Cond.instanceMethod yX5_checkStack, Cond.selects RX5 yX5_checkStack yX5_checkStack, Cond.initialized RX5, Cond.code yX5_checkStack cX5_checkStack 2 none, Cond.classLink RX5 294 "java/lang/IndexOutOfBoundsException", Cond.initialized "java/lang/IndexOutOfBoundsException", Cond.fieldLink RX5 106 "BallotLoom$Box" "cast" "I", Cond.methodLink RX5 97 yX5_checkRanks, Cond.static yX5_checkRanks, Cond.code yX5_checkRanks cX5_checkRanks 1 none, Cond.classLink RX5 48 "java/lang/IllegalArgumentException", Cond.initialized "java/lang/IllegalArgumentException", Cond.constant RX5 303 (999999), Cond.methodLink RX5 182 yX5_checkWay, Cond.static yX5_checkWay, Cond.code yX5_checkWay cX5_checkWay 1 none, Cond.methodLink RX5 251 yX3_setRanks]
def wsX5_wouldWin_r2 : List Cond := [Cond.instanceMethod yX3_setRanks, Cond.selects RX3 yX3_setRanks yX3_setRanks, Cond.initialized RX3, Cond.code yX3_setRanks cX3_setRanks 3 none, Cond.fieldLink RX3 15 "BallotLoom$Stack" "ranks" "I", Cond.fieldLink RX3 19 "BallotLoom$Box" "candidates" "I", Cond.fieldLink RX3 28 "BallotLoom$Stack" "isSpoiled" "Z", Cond.methodLink RX3 24 yX3_isSpoiling, Cond.static yX3_isSpoiling, Cond.code yX3_isSpoiling cX3_isSpoiling 7 (some .boolean), Cond.methodLink RX3 32 yX3_makeList, Cond.instanceMethod yX3_makeList, Cond.selects RX3 yX3_makeList yX3_makeList, Cond.code yX3_makeList cX3_makeList 5 none, Cond.fieldLink RX3 36 "BallotLoom$Stack" "length" "I", Cond.fieldLink RX3 9 "BallotLoom$Stack" "list" "[I", Cond.methodLink RX3 39 yX0_isStanding, Cond.instanceMethod yX0_isStanding, Cond.selects RX0 yX0_isStanding yX0_isStanding, Cond.initialized RX0, Cond.code yX0_isStanding cX0_isStanding 2 (some .boolean), Cond.fieldLink RX0 29 "BallotLoom$Box" "candidates" "I", Cond.fieldLink RX0 15 "BallotLoom$Box" "stands" "[Z", Cond.methodLink RX5 185 yX2_winnerBy]
def wsX5_wouldWin_r3 : List Cond := [Cond.instanceMethod yX2_winnerBy, Cond.selects RX2 yX2_winnerBy yX2_winnerBy, Cond.initialized RX2, Cond.code yX2_winnerBy cX2_winnerBy 4 (some .int), Cond.methodLink RX2 37 yX2_countFirsts, Cond.instanceMethod yX2_countFirsts, Cond.selects RX2 yX2_countFirsts yX2_countFirsts, Cond.code yX2_countFirsts cX2_countFirsts 5 none, Cond.fieldLink RX2 9 "BallotLoom$Poll" "firsts" "[I", Cond.fieldLink RX2 61 "BallotLoom$Box" "cast" "I", Cond.fieldLink RX2 67 "BallotLoom$Box" "stacks" "[LBallotLoom$Stack;", Cond.fieldLink RX2 77 "BallotLoom$Stack" "length" "I", Cond.fieldLink RX2 80 "BallotLoom$Stack" "list" "[I", Cond.fieldLink RX2 83 "BallotLoom$Stack" "count" "I", Cond.methodLink RX2 71 yX3_countsIn, Cond.instanceMethod yX3_countsIn, Cond.selects RX3 yX3_countsIn yX3_countsIn, Cond.code yX3_countsIn cX3_countsIn 2 (some .boolean), Cond.fieldLink RX3 43 "BallotLoom$Stack" "district" "I", Cond.methodLink RX2 41 yX2_mostFirsts, Cond.instanceMethod yX2_mostFirsts, Cond.selects RX2 yX2_mostFirsts yX2_mostFirsts, Cond.code yX2_mostFirsts cX2_mostFirsts 4 (some .int), Cond.fieldLink RX2 86 "BallotLoom$Box" "candidates" "I"]
def wsX5_wouldWin_r4 : List Cond := [Cond.fieldLink RX2 89 "BallotLoom$Box" "stands" "[Z", Cond.methodLink RX2 45 yX2_countPoints, Cond.instanceMethod yX2_countPoints, Cond.selects RX2 yX2_countPoints yX2_countPoints, Cond.code yX2_countPoints cX2_countPoints 5 none, Cond.fieldLink RX2 15 "BallotLoom$Poll" "points" "[D", Cond.constantDouble RX2 95 (13830554455654793216), Cond.methodLink RX2 92 yX0_isStanding, Cond.methodLink RX2 97 yX2_addPoints, Cond.instanceMethod yX2_addPoints, Cond.selects RX2 yX2_addPoints yX2_addPoints, Cond.code yX2_addPoints cX2_addPoints 6 none, Cond.fieldLink RX2 101 "BallotLoom$Box" "standing" "I", Cond.constantDouble RX2 108 (4611686018427387904), Cond.methodLink RX2 104 yX3_placeOf, Cond.instanceMethod yX3_placeOf, Cond.selects RX3 yX3_placeOf yX3_placeOf, Cond.code yX3_placeOf cX3_placeOf 3 (some .int), Cond.methodLink RX2 48 yX2_mostPoints, Cond.instanceMethod yX2_mostPoints, Cond.selects RX2 yX2_mostPoints yX2_mostPoints, Cond.code yX2_mostPoints cX2_mostPoints 4 (some .int), Cond.methodLink RX2 51 yX2_countPairs, Cond.instanceMethod yX2_countPairs]
def wsX5_wouldWin_r5 : List Cond := [Cond.selects RX2 yX2_countPairs yX2_countPairs, Cond.code yX2_countPairs cX2_countPairs 5 none, Cond.fieldLink RX2 21 "BallotLoom$Poll" "beats" "[[I", Cond.methodLink RX2 110 yX2_addBeats, Cond.instanceMethod yX2_addBeats, Cond.selects RX2 yX2_addBeats yX2_addBeats, Cond.code yX2_addBeats cX2_addBeats 6 none, Cond.methodLink RX2 113 yX2_findPaths, Cond.instanceMethod yX2_findPaths, Cond.selects RX2 yX2_findPaths yX2_findPaths, Cond.code yX2_findPaths cX2_findPaths 5 none, Cond.fieldLink RX2 24 "BallotLoom$Poll" "paths" "[[I", Cond.methodLink RX2 116 Lib.Math.min.name, Cond.static Lib.Math.min.name, Cond.initialized "java/lang/Math", Cond.code Lib.Math.min.name Lib.Math.min.code 2 (some .int), Cond.methodLink RX2 122 Lib.Math.max.name, Cond.static Lib.Math.max.name, Cond.code Lib.Math.max.name Lib.Math.max.code 2 (some .int), Cond.methodLink RX2 54 yX2_widestPaths, Cond.instanceMethod yX2_widestPaths, Cond.selects RX2 yX2_widestPaths yX2_widestPaths, Cond.code yX2_widestPaths cX2_widestPaths 3 (some .int), Cond.methodLink RX2 125 yX2_isNowhereNarrower]
def wsX5_wouldWin_r6 : List Cond := [Cond.instanceMethod yX2_isNowhereNarrower, Cond.selects RX2 yX2_isNowhereNarrower yX2_isNowhereNarrower, Cond.code yX2_isNowhereNarrower cX2_isNowhereNarrower 4 (some .boolean), Cond.methodLink RX2 57 yX2_goRounds, Cond.instanceMethod yX2_goRounds, Cond.selects RX2 yX2_goRounds yX2_goRounds, Cond.code yX2_goRounds cX2_goRounds 8 (some .int), Cond.fieldLink RX2 30 "BallotLoom$Poll" "isIn" "[Z", Cond.fieldLink RX2 27 "BallotLoom$Poll" "goneOut" "[I", Cond.fieldLink RX2 34 "BallotLoom$Poll" "behind" "[I", Cond.methodLink RX2 129 yX2_countBehind, Cond.instanceMethod yX2_countBehind, Cond.selects RX2 yX2_countBehind yX2_countBehind, Cond.code yX2_countBehind cX2_countBehind 7 (some .int), Cond.methodLink RX2 139 yX3_firstOf, Cond.instanceMethod yX3_firstOf, Cond.selects RX3 yX3_firstOf yX3_firstOf, Cond.code yX3_firstOf cX3_firstOf 3 (some .int), Cond.methodLink RX2 132 yX2_mostBehind, Cond.instanceMethod yX2_mostBehind, Cond.selects RX2 yX2_mostBehind yX2_mostBehind, Cond.code yX2_mostBehind cX2_mostBehind 3 (some .int), Cond.methodLink RX2 136 yX2_leastBehind, Cond.instanceMethod yX2_leastBehind]
def wsX5_wouldWin_r7 : List Cond := [Cond.selects RX2 yX2_leastBehind yX2_leastBehind, Cond.code yX2_leastBehind cX2_leastBehind 4 (some .int), Cond.methodLink RX2 143 yX2_isNoStronger, Cond.instanceMethod yX2_isNoStronger, Cond.selects RX2 yX2_isNoStronger yX2_isNoStronger, Cond.code yX2_isNoStronger cX2_isNoStronger 3 (some .boolean)]
def wsX5_wouldWin : List Cond := .code yX5_wouldWin cX5_wouldWin 6 (some .int) :: ((wsX5_wouldWin_r1 ++ (wsX5_wouldWin_r2 ++ (wsX5_wouldWin_r3 ++ (wsX5_wouldWin_r4 ++ (wsX5_wouldWin_r5 ++ (wsX5_wouldWin_r6 ++ wsX5_wouldWin_r7)))))) ++ wsX50 ++ wsX00 ++ wsX30 ++ wsX20 ++ (vx_atS RX5 298 "java/lang/IndexOutOfBoundsException" ["java/lang/RuntimeException", "java/lang/Exception"]).filter goodWord ++ (vx_atS RX5 52 "java/lang/IllegalArgumentException" ["java/lang/RuntimeException", "java/lang/Exception"]).filter goodWord)
def wsX5_lie_r1 : List Cond := [Cond.fieldLink RX5 10 "BallotLoom" "box" "LBallotLoom$Box;", Cond.fieldLink RX5 118 "BallotLoom$Box" "stacks" "[LBallotLoom$Stack;", Cond.fieldLink RX5 19 "BallotLoom" "poll" "LBallotLoom$Poll;", Cond.fieldLink RX5 125 "BallotLoom$Stack" "district" "I", Cond.fieldLink RX5 40 "BallotLoom" "spare" "LBallotLoom$Stack;", Cond.fieldLink RX5 122 "BallotLoom$Stack" "count" "I", Cond.fieldLink RX5 258 "BallotLoom$Stack" "length" "I", Cond.fieldLink RX5 265 "BallotLoom$Stack" "list" "[I", Cond.methodLink RX5 115 yX5_checkStack, Cond.instanceMethod yX5_checkStack, Cond.selects RX5 yX5_checkStack yX5_checkStack, Cond.initialized RX5, Cond.code yX5_checkStack cX5_checkStack 2 none, Cond.classLink RX5 294 "java/lang/IndexOutOfBoundsException", Cond.initialized "java/lang/IndexOutOfBoundsException", Cond.fieldLink RX5 106 "BallotLoom$Box" "cast" "I", Cond.methodLink RX5 182 yX5_checkWay, Cond.static yX5_checkWay, Cond.code yX5_checkWay cX5_checkWay 1 none, Cond.classLink RX5 48 "java/lang/IllegalArgumentException", Cond.initialized "java/lang/IllegalArgumentException", Cond.methodLink RX5 185 yX2_winnerBy, Cond.instanceMethod yX2_winnerBy, Cond.selects RX2 yX2_winnerBy yX2_winnerBy]
def wsX5_lie_r2 : List Cond := [Cond.initialized RX2, Cond.code yX2_winnerBy cX2_winnerBy 4 (some .int), Cond.methodLink RX2 37 yX2_countFirsts, Cond.instanceMethod yX2_countFirsts, Cond.selects RX2 yX2_countFirsts yX2_countFirsts, Cond.code yX2_countFirsts cX2_countFirsts 5 none, Cond.fieldLink RX2 9 "BallotLoom$Poll" "firsts" "[I", Cond.fieldLink RX2 61 "BallotLoom$Box" "cast" "I", Cond.fieldLink RX2 67 "BallotLoom$Box" "stacks" "[LBallotLoom$Stack;", Cond.fieldLink RX2 77 "BallotLoom$Stack" "length" "I", Cond.fieldLink RX2 80 "BallotLoom$Stack" "list" "[I", Cond.fieldLink RX2 83 "BallotLoom$Stack" "count" "I", Cond.methodLink RX2 71 yX3_countsIn, Cond.instanceMethod yX3_countsIn, Cond.selects RX3 yX3_countsIn yX3_countsIn, Cond.initialized RX3, Cond.code yX3_countsIn cX3_countsIn 2 (some .boolean), Cond.fieldLink RX3 43 "BallotLoom$Stack" "district" "I", Cond.fieldLink RX3 28 "BallotLoom$Stack" "isSpoiled" "Z", Cond.methodLink RX2 41 yX2_mostFirsts, Cond.instanceMethod yX2_mostFirsts, Cond.selects RX2 yX2_mostFirsts yX2_mostFirsts, Cond.code yX2_mostFirsts cX2_mostFirsts 4 (some .int), Cond.fieldLink RX2 86 "BallotLoom$Box" "candidates" "I"]
def wsX5_lie_r3 : List Cond := [Cond.fieldLink RX2 89 "BallotLoom$Box" "stands" "[Z", Cond.methodLink RX2 45 yX2_countPoints, Cond.instanceMethod yX2_countPoints, Cond.selects RX2 yX2_countPoints yX2_countPoints, Cond.code yX2_countPoints cX2_countPoints 5 none, Cond.fieldLink RX2 15 "BallotLoom$Poll" "points" "[D", Cond.constantDouble RX2 95 (13830554455654793216), Cond.methodLink RX2 92 yX0_isStanding, Cond.instanceMethod yX0_isStanding, Cond.selects RX0 yX0_isStanding yX0_isStanding, Cond.initialized RX0, Cond.code yX0_isStanding cX0_isStanding 2 (some .boolean), Cond.fieldLink RX0 29 "BallotLoom$Box" "candidates" "I", Cond.fieldLink RX0 15 "BallotLoom$Box" "stands" "[Z", Cond.methodLink RX2 97 yX2_addPoints, Cond.instanceMethod yX2_addPoints, Cond.selects RX2 yX2_addPoints yX2_addPoints, Cond.code yX2_addPoints cX2_addPoints 6 none, Cond.fieldLink RX2 101 "BallotLoom$Box" "standing" "I", Cond.constantDouble RX2 108 (4611686018427387904), Cond.methodLink RX2 104 yX3_placeOf, Cond.instanceMethod yX3_placeOf, Cond.selects RX3 yX3_placeOf yX3_placeOf, Cond.code yX3_placeOf cX3_placeOf 3 (some .int)]
def wsX5_lie_r4 : List Cond := [Cond.fieldLink RX3 36 "BallotLoom$Stack" "length" "I", Cond.fieldLink RX3 9 "BallotLoom$Stack" "list" "[I", Cond.methodLink RX2 48 yX2_mostPoints, Cond.instanceMethod yX2_mostPoints, Cond.selects RX2 yX2_mostPoints yX2_mostPoints, Cond.code yX2_mostPoints cX2_mostPoints 4 (some .int), Cond.methodLink RX2 51 yX2_countPairs, Cond.instanceMethod yX2_countPairs, Cond.selects RX2 yX2_countPairs yX2_countPairs, Cond.code yX2_countPairs cX2_countPairs 5 none, Cond.fieldLink RX2 21 "BallotLoom$Poll" "beats" "[[I", Cond.methodLink RX2 110 yX2_addBeats, Cond.instanceMethod yX2_addBeats, Cond.selects RX2 yX2_addBeats yX2_addBeats, Cond.code yX2_addBeats cX2_addBeats 6 none, Cond.methodLink RX2 113 yX2_findPaths, Cond.instanceMethod yX2_findPaths, Cond.selects RX2 yX2_findPaths yX2_findPaths, Cond.code yX2_findPaths cX2_findPaths 5 none, Cond.fieldLink RX2 24 "BallotLoom$Poll" "paths" "[[I", Cond.methodLink RX2 116 Lib.Math.min.name, Cond.static Lib.Math.min.name, Cond.initialized "java/lang/Math", Cond.code Lib.Math.min.name Lib.Math.min.code 2 (some .int)]
def wsX5_lie_r5 : List Cond := [Cond.methodLink RX2 122 Lib.Math.max.name, Cond.static Lib.Math.max.name, Cond.code Lib.Math.max.name Lib.Math.max.code 2 (some .int), Cond.methodLink RX2 54 yX2_widestPaths, Cond.instanceMethod yX2_widestPaths, Cond.selects RX2 yX2_widestPaths yX2_widestPaths, Cond.code yX2_widestPaths cX2_widestPaths 3 (some .int), Cond.methodLink RX2 125 yX2_isNowhereNarrower, Cond.instanceMethod yX2_isNowhereNarrower, Cond.selects RX2 yX2_isNowhereNarrower yX2_isNowhereNarrower, Cond.code yX2_isNowhereNarrower cX2_isNowhereNarrower 4 (some .boolean), Cond.methodLink RX2 57 yX2_goRounds, Cond.instanceMethod yX2_goRounds, Cond.selects RX2 yX2_goRounds yX2_goRounds, Cond.code yX2_goRounds cX2_goRounds 8 (some .int), Cond.fieldLink RX2 30 "BallotLoom$Poll" "isIn" "[Z", Cond.fieldLink RX2 27 "BallotLoom$Poll" "goneOut" "[I", Cond.fieldLink RX2 34 "BallotLoom$Poll" "behind" "[I", Cond.methodLink RX2 129 yX2_countBehind, Cond.instanceMethod yX2_countBehind, Cond.selects RX2 yX2_countBehind yX2_countBehind, Cond.code yX2_countBehind cX2_countBehind 7 (some .int), Cond.methodLink RX2 139 yX3_firstOf, Cond.instanceMethod yX3_firstOf]
def wsX5_lie_r6 : List Cond := [Cond.selects RX3 yX3_firstOf yX3_firstOf, Cond.code yX3_firstOf cX3_firstOf 3 (some .int), Cond.methodLink RX2 132 yX2_mostBehind, Cond.instanceMethod yX2_mostBehind, Cond.selects RX2 yX2_mostBehind yX2_mostBehind, Cond.code yX2_mostBehind cX2_mostBehind 3 (some .int), Cond.methodLink RX2 136 yX2_leastBehind, Cond.instanceMethod yX2_leastBehind, Cond.selects RX2 yX2_leastBehind yX2_leastBehind, Cond.code yX2_leastBehind cX2_leastBehind 4 (some .int), Cond.methodLink RX2 143 yX2_isNoStronger, Cond.instanceMethod yX2_isNoStronger, Cond.selects RX2 yX2_isNoStronger yX2_isNoStronger, Cond.code yX2_isNoStronger cX2_isNoStronger 3 (some .boolean), Cond.methodLink RX5 255 yX3_placeOf, Cond.methodLink RX5 261 yX3_setListWithFirst, Cond.instanceMethod yX3_setListWithFirst, Cond.selects RX3 yX3_setListWithFirst yX3_setListWithFirst, Cond.code yX3_setListWithFirst cX3_setListWithFirst 5 none]
def wsX5_lie : List Cond := .code yX5_lie cX5_lie 8 (some .int) :: ((wsX5_lie_r1 ++ (wsX5_lie_r2 ++ (wsX5_lie_r3 ++ (wsX5_lie_r4 ++ (wsX5_lie_r5 ++ wsX5_lie_r6))))) ++ wsX50 ++ wsX00 ++ wsX30 ++ wsX20 ++ (vx_atS RX5 298 "java/lang/IndexOutOfBoundsException" ["java/lang/RuntimeException", "java/lang/Exception"]).filter goodWord ++ (vx_atS RX5 52 "java/lang/IllegalArgumentException" ["java/lang/RuntimeException", "java/lang/Exception"]).filter goodWord)
def wsX5_mix : List Cond := .code yX5_mix cX5_mix 4 (some .long) :: ([.constantLong RX5 288 (31)])
def wsX5_mixStack : List Cond := .code yX5_mixStack cX5_mixStack 6 (some .long) :: ([.constantDouble RX5 290 (4652218415073722368), .fieldLink RX5 206 "BallotLoom$Stack" "value" "D", .methodLink RX5 152 yX3_figure, .instanceMethod yX3_figure, .selects RX3 yX3_figure yX3_figure, .initialized RX3, .code yX3_figure cX3_figure 2 (some .int), .fieldLink RX3 43 "BallotLoom$Stack" "district" "I", .fieldLink RX3 15 "BallotLoom$Stack" "ranks" "I", .fieldLink RX3 46 "BallotLoom$Stack" "count" "I", .fieldLink RX3 28 "BallotLoom$Stack" "isSpoiled" "Z", .fieldLink RX3 36 "BallotLoom$Stack" "length" "I", .fieldLink RX3 9 "BallotLoom$Stack" "list" "[I", .methodLink RX5 270 yX5_mix, .static yX5_mix, .initialized RX5, .code yX5_mix cX5_mix 4 (some .long), .constantLong RX5 288 (31)] ++ wsX30)
def wsX5_mixDistrict_r1 : List Cond := [Cond.fieldLink RX5 19 "BallotLoom" "poll" "LBallotLoom$Poll;", Cond.fieldLink RX5 10 "BallotLoom" "box" "LBallotLoom$Box;", Cond.fieldLink RX5 195 "BallotLoom$Poll" "goneOut" "[I", Cond.fieldLink RX5 26 "BallotLoom" "transfers" "LBallotLoom$Transfers;", Cond.fieldLink RX5 203 "BallotLoom$Transfers" "chosen" "[I", Cond.fieldLink RX5 55 "BallotLoom$Box" "candidates" "I", Cond.fieldLink RX5 159 "BallotLoom$Poll" "firsts" "[I", Cond.constantDouble RX5 292 (4611686018427387904), Cond.fieldLink RX5 166 "BallotLoom$Poll" "points" "[D", Cond.methodLink RX5 185 yX2_winnerBy, Cond.instanceMethod yX2_winnerBy, Cond.selects RX2 yX2_winnerBy yX2_winnerBy, Cond.initialized RX2, Cond.code yX2_winnerBy cX2_winnerBy 4 (some .int), Cond.methodLink RX2 37 yX2_countFirsts, Cond.instanceMethod yX2_countFirsts, Cond.selects RX2 yX2_countFirsts yX2_countFirsts, Cond.code yX2_countFirsts cX2_countFirsts 5 none, Cond.fieldLink RX2 9 "BallotLoom$Poll" "firsts" "[I", Cond.fieldLink RX2 61 "BallotLoom$Box" "cast" "I", Cond.fieldLink RX2 67 "BallotLoom$Box" "stacks" "[LBallotLoom$Stack;", Cond.fieldLink RX2 77 "BallotLoom$Stack" "length" "I", Cond.fieldLink RX2 80 "BallotLoom$Stack" "list" "[I", Cond.fieldLink RX2 83 "BallotLoom$Stack" "count" "I"]
def wsX5_mixDistrict_r2 : List Cond := [Cond.methodLink RX2 71 yX3_countsIn, Cond.instanceMethod yX3_countsIn, Cond.selects RX3 yX3_countsIn yX3_countsIn, Cond.initialized RX3, Cond.code yX3_countsIn cX3_countsIn 2 (some .boolean), Cond.fieldLink RX3 43 "BallotLoom$Stack" "district" "I", Cond.fieldLink RX3 28 "BallotLoom$Stack" "isSpoiled" "Z", Cond.methodLink RX2 41 yX2_mostFirsts, Cond.instanceMethod yX2_mostFirsts, Cond.selects RX2 yX2_mostFirsts yX2_mostFirsts, Cond.code yX2_mostFirsts cX2_mostFirsts 4 (some .int), Cond.fieldLink RX2 86 "BallotLoom$Box" "candidates" "I", Cond.fieldLink RX2 89 "BallotLoom$Box" "stands" "[Z", Cond.methodLink RX2 45 yX2_countPoints, Cond.instanceMethod yX2_countPoints, Cond.selects RX2 yX2_countPoints yX2_countPoints, Cond.code yX2_countPoints cX2_countPoints 5 none, Cond.fieldLink RX2 15 "BallotLoom$Poll" "points" "[D", Cond.constantDouble RX2 95 (13830554455654793216), Cond.methodLink RX2 92 yX0_isStanding, Cond.instanceMethod yX0_isStanding, Cond.selects RX0 yX0_isStanding yX0_isStanding, Cond.initialized RX0, Cond.code yX0_isStanding cX0_isStanding 2 (some .boolean)]
def wsX5_mixDistrict_r3 : List Cond := [Cond.fieldLink RX0 29 "BallotLoom$Box" "candidates" "I", Cond.fieldLink RX0 15 "BallotLoom$Box" "stands" "[Z", Cond.methodLink RX2 97 yX2_addPoints, Cond.instanceMethod yX2_addPoints, Cond.selects RX2 yX2_addPoints yX2_addPoints, Cond.code yX2_addPoints cX2_addPoints 6 none, Cond.fieldLink RX2 101 "BallotLoom$Box" "standing" "I", Cond.constantDouble RX2 108 (4611686018427387904), Cond.methodLink RX2 104 yX3_placeOf, Cond.instanceMethod yX3_placeOf, Cond.selects RX3 yX3_placeOf yX3_placeOf, Cond.code yX3_placeOf cX3_placeOf 3 (some .int), Cond.fieldLink RX3 36 "BallotLoom$Stack" "length" "I", Cond.fieldLink RX3 9 "BallotLoom$Stack" "list" "[I", Cond.methodLink RX2 48 yX2_mostPoints, Cond.instanceMethod yX2_mostPoints, Cond.selects RX2 yX2_mostPoints yX2_mostPoints, Cond.code yX2_mostPoints cX2_mostPoints 4 (some .int), Cond.methodLink RX2 51 yX2_countPairs, Cond.instanceMethod yX2_countPairs, Cond.selects RX2 yX2_countPairs yX2_countPairs, Cond.code yX2_countPairs cX2_countPairs 5 none, Cond.fieldLink RX2 21 "BallotLoom$Poll" "beats" "[[I", Cond.methodLink RX2 110 yX2_addBeats]
def wsX5_mixDistrict_r4 : List Cond := [Cond.instanceMethod yX2_addBeats, Cond.selects RX2 yX2_addBeats yX2_addBeats, Cond.code yX2_addBeats cX2_addBeats 6 none, Cond.methodLink RX2 113 yX2_findPaths, Cond.instanceMethod yX2_findPaths, Cond.selects RX2 yX2_findPaths yX2_findPaths, Cond.code yX2_findPaths cX2_findPaths 5 none, Cond.fieldLink RX2 24 "BallotLoom$Poll" "paths" "[[I", Cond.methodLink RX2 116 Lib.Math.min.name, Cond.static Lib.Math.min.name, Cond.initialized "java/lang/Math", Cond.code Lib.Math.min.name Lib.Math.min.code 2 (some .int), Cond.methodLink RX2 122 Lib.Math.max.name, Cond.static Lib.Math.max.name, Cond.code Lib.Math.max.name Lib.Math.max.code 2 (some .int), Cond.methodLink RX2 54 yX2_widestPaths, Cond.instanceMethod yX2_widestPaths, Cond.selects RX2 yX2_widestPaths yX2_widestPaths, Cond.code yX2_widestPaths cX2_widestPaths 3 (some .int), Cond.methodLink RX2 125 yX2_isNowhereNarrower, Cond.instanceMethod yX2_isNowhereNarrower, Cond.selects RX2 yX2_isNowhereNarrower yX2_isNowhereNarrower, Cond.code yX2_isNowhereNarrower cX2_isNowhereNarrower 4 (some .boolean), Cond.methodLink RX2 57 yX2_goRounds]
def wsX5_mixDistrict_r5 : List Cond := [Cond.instanceMethod yX2_goRounds, Cond.selects RX2 yX2_goRounds yX2_goRounds, Cond.code yX2_goRounds cX2_goRounds 8 (some .int), Cond.fieldLink RX2 30 "BallotLoom$Poll" "isIn" "[Z", Cond.fieldLink RX2 27 "BallotLoom$Poll" "goneOut" "[I", Cond.fieldLink RX2 34 "BallotLoom$Poll" "behind" "[I", Cond.methodLink RX2 129 yX2_countBehind, Cond.instanceMethod yX2_countBehind, Cond.selects RX2 yX2_countBehind yX2_countBehind, Cond.code yX2_countBehind cX2_countBehind 7 (some .int), Cond.methodLink RX2 139 yX3_firstOf, Cond.instanceMethod yX3_firstOf, Cond.selects RX3 yX3_firstOf yX3_firstOf, Cond.code yX3_firstOf cX3_firstOf 3 (some .int), Cond.methodLink RX2 132 yX2_mostBehind, Cond.instanceMethod yX2_mostBehind, Cond.selects RX2 yX2_mostBehind yX2_mostBehind, Cond.code yX2_mostBehind cX2_mostBehind 3 (some .int), Cond.methodLink RX2 136 yX2_leastBehind, Cond.instanceMethod yX2_leastBehind, Cond.selects RX2 yX2_leastBehind yX2_leastBehind, Cond.code yX2_leastBehind cX2_leastBehind 4 (some .int), Cond.methodLink RX2 143 yX2_isNoStronger, Cond.instanceMethod yX2_isNoStronger]
def wsX5_mixDistrict_r6 : List Cond := [Cond.selects RX2 yX2_isNoStronger yX2_isNoStronger, Cond.code yX2_isNoStronger cX2_isNoStronger 3 (some .boolean), Cond.methodLink RX5 270 yX5_mix, Cond.static yX5_mix, Cond.initialized RX5, Cond.code yX5_mix cX5_mix 4 (some .long), Cond.constantLong RX5 288 (31), Cond.methodLink RX5 191 yX2_goRounds, Cond.methodLink RX5 200 yX4_fillSeats, Cond.instanceMethod yX4_fillSeats, Cond.selects RX4 yX4_fillSeats yX4_fillSeats, Cond.initialized RX4, Cond.code yX4_fillSeats cX4_fillSeats 9 none, Cond.fieldLink RX4 27 "BallotLoom$Box" "seatsOf" "[I", Cond.fieldLink RX4 43 "BallotLoom$Box" "standing" "I", Cond.fieldLink RX4 19 "BallotLoom$Transfers" "held" "[D", Cond.fieldLink RX4 15 "BallotLoom$Transfers" "isIn" "[Z", Cond.fieldLink RX4 9 "BallotLoom$Transfers" "chosen" "[I", Cond.methodLink RX4 23 yX4_start, Cond.instanceMethod yX4_start, Cond.selects RX4 yX4_start yX4_start, Cond.code yX4_start cX4_start 5 none, Cond.fieldLink RX4 58 "BallotLoom$Box" "cast" "I", Cond.fieldLink RX4 61 "BallotLoom$Box" "stacks" "[LBallotLoom$Stack;"]
def wsX5_mixDistrict_r7 : List Cond := [Cond.fieldLink RX4 65 "BallotLoom$Stack" "district" "I", Cond.fieldLink RX4 70 "BallotLoom$Stack" "isSpoiled" "Z", Cond.fieldLink RX4 74 "BallotLoom$Stack" "count" "I", Cond.fieldLink RX4 77 "BallotLoom$Stack" "value" "D", Cond.methodLink RX4 54 yX0_isStanding, Cond.methodLink RX4 32 yX0_countsOfListsIn, Cond.instanceMethod yX0_countsOfListsIn, Cond.selects RX0 yX0_countsOfListsIn yX0_countsOfListsIn, Cond.code yX0_countsOfListsIn cX0_countsOfListsIn 4 (some .int), Cond.fieldLink RX0 39 "BallotLoom$Box" "cast" "I", Cond.fieldLink RX0 24 "BallotLoom$Box" "stacks" "[LBallotLoom$Stack;", Cond.fieldLink RX0 68 "BallotLoom$Stack" "length" "I", Cond.fieldLink RX0 45 "BallotLoom$Stack" "count" "I", Cond.methodLink RX0 64 yX3_countsIn, Cond.methodLink RX4 36 yX4_countHeld, Cond.instanceMethod yX4_countHeld, Cond.selects RX4 yX4_countHeld yX4_countHeld, Cond.code yX4_countHeld cX4_countHeld 6 none, Cond.methodLink RX4 81 yX3_countsIn, Cond.methodLink RX4 84 yX3_firstOf, Cond.methodLink RX4 39 yX4_mostHeld, Cond.instanceMethod yX4_mostHeld, Cond.selects RX4 yX4_mostHeld yX4_mostHeld, Cond.code yX4_mostHeld cX4_mostHeld 3 (some .int)]
def wsX5_mixDistrict_r8 : List Cond := [Cond.methodLink RX4 47 yX4_lowerValues, Cond.instanceMethod yX4_lowerValues, Cond.selects RX4 yX4_lowerValues yX4_lowerValues, Cond.code yX4_lowerValues cX4_lowerValues 7 none, Cond.methodLink RX4 88 yX4_loweredValue, Cond.static yX4_loweredValue, Cond.code yX4_loweredValue cX4_loweredValue 7 (some .double), Cond.constantDouble RX4 92 (4652218415073722368), Cond.methodLink RX4 51 yX4_leastHeld, Cond.instanceMethod yX4_leastHeld, Cond.selects RX4 yX4_leastHeld yX4_leastHeld, Cond.code yX4_leastHeld cX4_leastHeld 4 (some .int), Cond.methodLink RX5 248 yX2_leastShift, Cond.instanceMethod yX2_leastShift, Cond.selects RX2 yX2_leastShift yX2_leastShift, Cond.code yX2_leastShift cX2_leastShift 7 (some .int), Cond.methodLink RX2 147 yX2_shiftTo, Cond.instanceMethod yX2_shiftTo, Cond.selects RX2 yX2_shiftTo yX2_shiftTo, Cond.code yX2_shiftTo cX2_shiftTo 4 (some .int), Cond.methodLink RX5 155 yX2_countFirsts, Cond.methodLink RX5 163 yX2_countPoints]
def wsX5_mixDistrict : List Cond := .code yX5_mixDistrict cX5_mixDistrict 7 (some .long) :: ((wsX5_mixDistrict_r1 ++ (wsX5_mixDistrict_r2 ++ (wsX5_mixDistrict_r3 ++ (wsX5_mixDistrict_r4 ++ (wsX5_mixDistrict_r5 ++ (wsX5_mixDistrict_r6 ++ (wsX5_mixDistrict_r7 ++ wsX5_mixDistrict_r8))))))) ++ wsX50 ++ wsX20 ++ wsX40 ++ wsX00 ++ wsX30)
def wsX5_mixParty_r1 : List Cond := [Cond.fieldLink RX5 33 "BallotLoom" "parties" "LBallotLoom$Parties;", Cond.fieldLink RX5 229 "BallotLoom$Parties" "seats" "[I", Cond.methodLink RX5 217 yX1_figure, Cond.instanceMethod yX1_figure, Cond.selects RX1 yX1_figure yX1_figure, Cond.initialized RX1, Cond.code yX1_figure cX1_figure 3 (some .int), Cond.fieldLink RX1 9 "BallotLoom$Parties" "votes" "[I", Cond.fieldLink RX1 15 "BallotLoom$Parties" "standing" "[I", Cond.fieldLink RX1 22 "BallotLoom$Parties" "direct" "[I", Cond.fieldLink RX1 25 "BallotLoom$Parties" "wasted" "[I", Cond.fieldLink RX1 18 "BallotLoom$Parties" "isBarred" "[Z", Cond.methodLink RX5 270 yX5_mix, Cond.static yX5_mix, Cond.initialized RX5, Cond.code yX5_mix cX5_mix 4 (some .long), Cond.constantLong RX5 288 (31), Cond.methodLink RX5 285 yX1_shareSeats, Cond.instanceMethod yX1_shareSeats, Cond.selects RX1 yX1_shareSeats yX1_shareSeats, Cond.code yX1_shareSeats cX1_shareSeats 4 none, Cond.fieldLink RX1 28 "BallotLoom$Parties" "seats" "[I", Cond.methodLink RX1 104 yX1_shareByRemainders, Cond.instanceMethod yX1_shareByRemainders]
def wsX5_mixParty_r2 : List Cond := [Cond.selects RX1 yX1_shareByRemainders yX1_shareByRemainders, Cond.code yX1_shareByRemainders cX1_shareByRemainders 6 none, Cond.fieldLink RX1 34 "BallotLoom$Parties" "remainders" "[I", Cond.methodLink RX1 111 yX1_takesPart, Cond.instanceMethod yX1_takesPart, Cond.selects RX1 yX1_takesPart yX1_takesPart, Cond.code yX1_takesPart cX1_takesPart 2 (some .boolean), Cond.methodLink RX1 115 yX1_giveToGreatestRemainder, Cond.instanceMethod yX1_giveToGreatestRemainder, Cond.selects RX1 yX1_giveToGreatestRemainder yX1_giveToGreatestRemainder, Cond.code yX1_giveToGreatestRemainder cX1_giveToGreatestRemainder 3 none, Cond.methodLink RX1 108 yX1_shareByDivisors, Cond.instanceMethod yX1_shareByDivisors, Cond.selects RX1 yX1_shareByDivisors yX1_shareByDivisors, Cond.code yX1_shareByDivisors cX1_shareByDivisors 10 none, Cond.methodLink RX5 235 yX1_swingsOf, Cond.instanceMethod yX1_swingsOf, Cond.selects RX1 yX1_swingsOf yX1_swingsOf, Cond.code yX1_swingsOf cX1_swingsOf 6 (some .int), Cond.methodLink RX1 121 yX1_isRuling, Cond.instanceMethod yX1_isRuling, Cond.selects RX1 yX1_isRuling yX1_isRuling, Cond.code yX1_isRuling cX1_isRuling 3 (some .boolean), Cond.methodLink RX1 118 yX1_seatsTogether]
def wsX5_mixParty_r3 : List Cond := [Cond.instanceMethod yX1_seatsTogether, Cond.selects RX1 yX1_seatsTogether yX1_seatsTogether, Cond.code yX1_seatsTogether cX1_seatsTogether 4 (some .int)]
def wsX5_mixParty : List Cond := .code yX5_mixParty cX5_mixParty 7 (some .long) :: ((wsX5_mixParty_r1 ++ (wsX5_mixParty_r2 ++ wsX5_mixParty_r3)) ++ wsX50 ++ wsX10)
def wsX5_digest_r1 : List Cond := [Cond.constantLong RX5 268 (58308), Cond.fieldLink RX5 10 "BallotLoom" "box" "LBallotLoom$Box;", Cond.fieldLink RX5 86 "BallotLoom$Box" "districts" "I", Cond.fieldLink RX5 26 "BallotLoom" "transfers" "LBallotLoom$Transfers;", Cond.fieldLink RX5 106 "BallotLoom$Box" "cast" "I", Cond.fieldLink RX5 118 "BallotLoom$Box" "stacks" "[LBallotLoom$Stack;", Cond.fieldLink RX5 33 "BallotLoom" "parties" "LBallotLoom$Parties;", Cond.fieldLink RX5 19 "BallotLoom" "poll" "LBallotLoom$Poll;", Cond.methodLink RX5 247 yX0_figure, Cond.instanceMethod yX0_figure, Cond.selects RX0 yX0_figure yX0_figure, Cond.initialized RX0, Cond.code yX0_figure cX0_figure 2 (some .int), Cond.fieldLink RX0 29 "BallotLoom$Box" "candidates" "I", Cond.fieldLink RX0 33 "BallotLoom$Box" "standing" "I", Cond.fieldLink RX0 36 "BallotLoom$Box" "districts" "I", Cond.fieldLink RX0 39 "BallotLoom$Box" "cast" "I", Cond.fieldLink RX0 81 "BallotLoom$Box" "percent" "I", Cond.fieldLink RX0 84 "BallotLoom$Box" "isSealed" "Z", Cond.fieldLink RX0 87 "BallotLoom$Box" "refused" "I", Cond.methodLink RX0 71 yX0_spoiledStacks, Cond.instanceMethod yX0_spoiledStacks, Cond.selects RX0 yX0_spoiledStacks yX0_spoiledStacks, Cond.code yX0_spoiledStacks cX0_spoiledStacks 3 (some .int)]
def wsX5_digest_r2 : List Cond := [Cond.fieldLink RX0 24 "BallotLoom$Box" "stacks" "[LBallotLoom$Stack;", Cond.fieldLink RX0 56 "BallotLoom$Stack" "isSpoiled" "Z", Cond.methodLink RX0 75 yX0_allCounts, Cond.instanceMethod yX0_allCounts, Cond.selects RX0 yX0_allCounts yX0_allCounts, Cond.code yX0_allCounts cX0_allCounts 3 (some .int), Cond.fieldLink RX0 45 "BallotLoom$Stack" "count" "I", Cond.methodLink RX0 78 yX0_countsOfLists, Cond.instanceMethod yX0_countsOfLists, Cond.selects RX0 yX0_countsOfLists yX0_countsOfLists, Cond.code yX0_countsOfLists cX0_countsOfLists 3 (some .int), Cond.methodLink RX0 60 yX0_countsOfListsIn, Cond.instanceMethod yX0_countsOfListsIn, Cond.selects RX0 yX0_countsOfListsIn yX0_countsOfListsIn, Cond.code yX0_countsOfListsIn cX0_countsOfListsIn 4 (some .int), Cond.fieldLink RX0 68 "BallotLoom$Stack" "length" "I", Cond.methodLink RX0 64 yX3_countsIn, Cond.instanceMethod yX3_countsIn, Cond.selects RX3 yX3_countsIn yX3_countsIn, Cond.initialized RX3, Cond.code yX3_countsIn cX3_countsIn 2 (some .boolean), Cond.fieldLink RX3 43 "BallotLoom$Stack" "district" "I", Cond.fieldLink RX3 28 "BallotLoom$Stack" "isSpoiled" "Z", Cond.methodLink RX5 270 yX5_mix]
def wsX5_digest_r3 : List Cond := [Cond.static yX5_mix, Cond.initialized RX5, Cond.code yX5_mix cX5_mix 4 (some .long), Cond.constantLong RX5 288 (31), Cond.methodLink RX5 200 yX4_fillSeats, Cond.instanceMethod yX4_fillSeats, Cond.selects RX4 yX4_fillSeats yX4_fillSeats, Cond.initialized RX4, Cond.code yX4_fillSeats cX4_fillSeats 9 none, Cond.fieldLink RX4 27 "BallotLoom$Box" "seatsOf" "[I", Cond.fieldLink RX4 43 "BallotLoom$Box" "standing" "I", Cond.fieldLink RX4 19 "BallotLoom$Transfers" "held" "[D", Cond.fieldLink RX4 15 "BallotLoom$Transfers" "isIn" "[Z", Cond.fieldLink RX4 9 "BallotLoom$Transfers" "chosen" "[I", Cond.methodLink RX4 23 yX4_start, Cond.instanceMethod yX4_start, Cond.selects RX4 yX4_start yX4_start, Cond.code yX4_start cX4_start 5 none, Cond.fieldLink RX4 58 "BallotLoom$Box" "cast" "I", Cond.fieldLink RX4 61 "BallotLoom$Box" "stacks" "[LBallotLoom$Stack;", Cond.fieldLink RX4 65 "BallotLoom$Stack" "district" "I", Cond.fieldLink RX4 70 "BallotLoom$Stack" "isSpoiled" "Z", Cond.fieldLink RX4 74 "BallotLoom$Stack" "count" "I", Cond.fieldLink RX4 77 "BallotLoom$Stack" "value" "D"]
def wsX5_digest_r4 : List Cond := [Cond.methodLink RX4 54 yX0_isStanding, Cond.instanceMethod yX0_isStanding, Cond.selects RX0 yX0_isStanding yX0_isStanding, Cond.code yX0_isStanding cX0_isStanding 2 (some .boolean), Cond.fieldLink RX0 15 "BallotLoom$Box" "stands" "[Z", Cond.methodLink RX4 32 yX0_countsOfListsIn, Cond.methodLink RX4 36 yX4_countHeld, Cond.instanceMethod yX4_countHeld, Cond.selects RX4 yX4_countHeld yX4_countHeld, Cond.code yX4_countHeld cX4_countHeld 6 none, Cond.methodLink RX4 81 yX3_countsIn, Cond.methodLink RX4 84 yX3_firstOf, Cond.instanceMethod yX3_firstOf, Cond.selects RX3 yX3_firstOf yX3_firstOf, Cond.code yX3_firstOf cX3_firstOf 3 (some .int), Cond.fieldLink RX3 36 "BallotLoom$Stack" "length" "I", Cond.fieldLink RX3 9 "BallotLoom$Stack" "list" "[I", Cond.methodLink RX4 39 yX4_mostHeld, Cond.instanceMethod yX4_mostHeld, Cond.selects RX4 yX4_mostHeld yX4_mostHeld, Cond.code yX4_mostHeld cX4_mostHeld 3 (some .int), Cond.methodLink RX4 47 yX4_lowerValues, Cond.instanceMethod yX4_lowerValues, Cond.selects RX4 yX4_lowerValues yX4_lowerValues]
def wsX5_digest_r5 : List Cond := [Cond.code yX4_lowerValues cX4_lowerValues 7 none, Cond.methodLink RX4 88 yX4_loweredValue, Cond.static yX4_loweredValue, Cond.code yX4_loweredValue cX4_loweredValue 7 (some .double), Cond.constantDouble RX4 92 (4652218415073722368), Cond.methodLink RX4 51 yX4_leastHeld, Cond.instanceMethod yX4_leastHeld, Cond.selects RX4 yX4_leastHeld yX4_leastHeld, Cond.code yX4_leastHeld cX4_leastHeld 4 (some .int), Cond.methodLink RX5 274 yX5_mixStack, Cond.static yX5_mixStack, Cond.code yX5_mixStack cX5_mixStack 6 (some .long), Cond.constantDouble RX5 290 (4652218415073722368), Cond.fieldLink RX5 206 "BallotLoom$Stack" "value" "D", Cond.methodLink RX5 152 yX3_figure, Cond.instanceMethod yX3_figure, Cond.selects RX3 yX3_figure yX3_figure, Cond.code yX3_figure cX3_figure 2 (some .int), Cond.fieldLink RX3 15 "BallotLoom$Stack" "ranks" "I", Cond.fieldLink RX3 46 "BallotLoom$Stack" "count" "I", Cond.methodLink RX5 278 yX5_mixDistrict, Cond.instanceMethod yX5_mixDistrict, Cond.selects RX5 yX5_mixDistrict yX5_mixDistrict, Cond.code yX5_mixDistrict cX5_mixDistrict 7 (some .long)]
def wsX5_digest_r6 : List Cond := [Cond.fieldLink RX5 195 "BallotLoom$Poll" "goneOut" "[I", Cond.fieldLink RX5 203 "BallotLoom$Transfers" "chosen" "[I", Cond.fieldLink RX5 55 "BallotLoom$Box" "candidates" "I", Cond.fieldLink RX5 159 "BallotLoom$Poll" "firsts" "[I", Cond.constantDouble RX5 292 (4611686018427387904), Cond.fieldLink RX5 166 "BallotLoom$Poll" "points" "[D", Cond.methodLink RX5 185 yX2_winnerBy, Cond.instanceMethod yX2_winnerBy, Cond.selects RX2 yX2_winnerBy yX2_winnerBy, Cond.initialized RX2, Cond.code yX2_winnerBy cX2_winnerBy 4 (some .int), Cond.methodLink RX2 37 yX2_countFirsts, Cond.instanceMethod yX2_countFirsts, Cond.selects RX2 yX2_countFirsts yX2_countFirsts, Cond.code yX2_countFirsts cX2_countFirsts 5 none, Cond.fieldLink RX2 9 "BallotLoom$Poll" "firsts" "[I", Cond.fieldLink RX2 61 "BallotLoom$Box" "cast" "I", Cond.fieldLink RX2 67 "BallotLoom$Box" "stacks" "[LBallotLoom$Stack;", Cond.fieldLink RX2 77 "BallotLoom$Stack" "length" "I", Cond.fieldLink RX2 80 "BallotLoom$Stack" "list" "[I", Cond.fieldLink RX2 83 "BallotLoom$Stack" "count" "I", Cond.methodLink RX2 71 yX3_countsIn, Cond.methodLink RX2 41 yX2_mostFirsts, Cond.instanceMethod yX2_mostFirsts]
def wsX5_digest_r7 : List Cond := [Cond.selects RX2 yX2_mostFirsts yX2_mostFirsts, Cond.code yX2_mostFirsts cX2_mostFirsts 4 (some .int), Cond.fieldLink RX2 86 "BallotLoom$Box" "candidates" "I", Cond.fieldLink RX2 89 "BallotLoom$Box" "stands" "[Z", Cond.methodLink RX2 45 yX2_countPoints, Cond.instanceMethod yX2_countPoints, Cond.selects RX2 yX2_countPoints yX2_countPoints, Cond.code yX2_countPoints cX2_countPoints 5 none, Cond.fieldLink RX2 15 "BallotLoom$Poll" "points" "[D", Cond.constantDouble RX2 95 (13830554455654793216), Cond.methodLink RX2 92 yX0_isStanding, Cond.methodLink RX2 97 yX2_addPoints, Cond.instanceMethod yX2_addPoints, Cond.selects RX2 yX2_addPoints yX2_addPoints, Cond.code yX2_addPoints cX2_addPoints 6 none, Cond.fieldLink RX2 101 "BallotLoom$Box" "standing" "I", Cond.constantDouble RX2 108 (4611686018427387904), Cond.methodLink RX2 104 yX3_placeOf, Cond.instanceMethod yX3_placeOf, Cond.selects RX3 yX3_placeOf yX3_placeOf, Cond.code yX3_placeOf cX3_placeOf 3 (some .int), Cond.methodLink RX2 48 yX2_mostPoints, Cond.instanceMethod yX2_mostPoints, Cond.selects RX2 yX2_mostPoints yX2_mostPoints]
def wsX5_digest_r8 : List Cond := [Cond.code yX2_mostPoints cX2_mostPoints 4 (some .int), Cond.methodLink RX2 51 yX2_countPairs, Cond.instanceMethod yX2_countPairs, Cond.selects RX2 yX2_countPairs yX2_countPairs, Cond.code yX2_countPairs cX2_countPairs 5 none, Cond.fieldLink RX2 21 "BallotLoom$Poll" "beats" "[[I", Cond.methodLink RX2 110 yX2_addBeats, Cond.instanceMethod yX2_addBeats, Cond.selects RX2 yX2_addBeats yX2_addBeats, Cond.code yX2_addBeats cX2_addBeats 6 none, Cond.methodLink RX2 113 yX2_findPaths, Cond.instanceMethod yX2_findPaths, Cond.selects RX2 yX2_findPaths yX2_findPaths, Cond.code yX2_findPaths cX2_findPaths 5 none, Cond.fieldLink RX2 24 "BallotLoom$Poll" "paths" "[[I", Cond.methodLink RX2 116 Lib.Math.min.name, Cond.static Lib.Math.min.name, Cond.initialized "java/lang/Math", Cond.code Lib.Math.min.name Lib.Math.min.code 2 (some .int), Cond.methodLink RX2 122 Lib.Math.max.name, Cond.static Lib.Math.max.name, Cond.code Lib.Math.max.name Lib.Math.max.code 2 (some .int), Cond.methodLink RX2 54 yX2_widestPaths, Cond.instanceMethod yX2_widestPaths]
def wsX5_digest_r9 : List Cond := [Cond.selects RX2 yX2_widestPaths yX2_widestPaths, Cond.code yX2_widestPaths cX2_widestPaths 3 (some .int), Cond.methodLink RX2 125 yX2_isNowhereNarrower, Cond.instanceMethod yX2_isNowhereNarrower, Cond.selects RX2 yX2_isNowhereNarrower yX2_isNowhereNarrower, Cond.code yX2_isNowhereNarrower cX2_isNowhereNarrower 4 (some .boolean), Cond.methodLink RX2 57 yX2_goRounds, Cond.instanceMethod yX2_goRounds, Cond.selects RX2 yX2_goRounds yX2_goRounds, Cond.code yX2_goRounds cX2_goRounds 8 (some .int), Cond.fieldLink RX2 30 "BallotLoom$Poll" "isIn" "[Z", Cond.fieldLink RX2 27 "BallotLoom$Poll" "goneOut" "[I", Cond.fieldLink RX2 34 "BallotLoom$Poll" "behind" "[I", Cond.methodLink RX2 129 yX2_countBehind, Cond.instanceMethod yX2_countBehind, Cond.selects RX2 yX2_countBehind yX2_countBehind, Cond.code yX2_countBehind cX2_countBehind 7 (some .int), Cond.methodLink RX2 139 yX3_firstOf, Cond.methodLink RX2 132 yX2_mostBehind, Cond.instanceMethod yX2_mostBehind, Cond.selects RX2 yX2_mostBehind yX2_mostBehind, Cond.code yX2_mostBehind cX2_mostBehind 3 (some .int), Cond.methodLink RX2 136 yX2_leastBehind, Cond.instanceMethod yX2_leastBehind]
def wsX5_digest_r10 : List Cond := [Cond.selects RX2 yX2_leastBehind yX2_leastBehind, Cond.code yX2_leastBehind cX2_leastBehind 4 (some .int), Cond.methodLink RX2 143 yX2_isNoStronger, Cond.instanceMethod yX2_isNoStronger, Cond.selects RX2 yX2_isNoStronger yX2_isNoStronger, Cond.code yX2_isNoStronger cX2_isNoStronger 3 (some .boolean), Cond.methodLink RX5 191 yX2_goRounds, Cond.methodLink RX5 248 yX2_leastShift, Cond.instanceMethod yX2_leastShift, Cond.selects RX2 yX2_leastShift yX2_leastShift, Cond.code yX2_leastShift cX2_leastShift 7 (some .int), Cond.methodLink RX2 147 yX2_shiftTo, Cond.instanceMethod yX2_shiftTo, Cond.selects RX2 yX2_shiftTo yX2_shiftTo, Cond.code yX2_shiftTo cX2_shiftTo 4 (some .int), Cond.methodLink RX5 155 yX2_countFirsts, Cond.methodLink RX5 163 yX2_countPoints, Cond.methodLink RX5 133 yX1_countVotes, Cond.instanceMethod yX1_countVotes, Cond.selects RX1 yX1_countVotes yX1_countVotes, Cond.initialized RX1, Cond.code yX1_countVotes cX1_countVotes 4 none, Cond.fieldLink RX1 37 "BallotLoom$Parties" "allVotes" "I", Cond.fieldLink RX1 9 "BallotLoom$Parties" "votes" "[I"]
def wsX5_digest_r11 : List Cond := [Cond.fieldLink RX1 15 "BallotLoom$Parties" "standing" "[I", Cond.fieldLink RX1 47 "BallotLoom$Box" "cast" "I", Cond.fieldLink RX1 50 "BallotLoom$Box" "stacks" "[LBallotLoom$Stack;", Cond.fieldLink RX1 54 "BallotLoom$Stack" "length" "I", Cond.fieldLink RX1 59 "BallotLoom$Box" "partyOf" "[I", Cond.fieldLink RX1 62 "BallotLoom$Stack" "list" "[I", Cond.fieldLink RX1 65 "BallotLoom$Stack" "count" "I", Cond.fieldLink RX1 18 "BallotLoom$Parties" "isBarred" "[Z", Cond.fieldLink RX1 68 "BallotLoom$Box" "percent" "I", Cond.methodLink RX1 41 yX0_standingOf, Cond.instanceMethod yX0_standingOf, Cond.selects RX0 yX0_standingOf yX0_standingOf, Cond.code yX0_standingOf cX0_standingOf 4 (some .int), Cond.fieldLink RX0 9 "BallotLoom$Box" "partyOf" "[I", Cond.methodLink RX5 213 yX1_countDistricts, Cond.instanceMethod yX1_countDistricts, Cond.selects RX1 yX1_countDistricts yX1_countDistricts, Cond.code yX1_countDistricts cX1_countDistricts 6 none, Cond.fieldLink RX1 22 "BallotLoom$Parties" "direct" "[I", Cond.fieldLink RX1 25 "BallotLoom$Parties" "wasted" "[I", Cond.fieldLink RX1 71 "BallotLoom$Box" "districts" "I", Cond.fieldLink RX1 84 "BallotLoom$Poll" "firsts" "[I", Cond.methodLink RX1 74 yX2_countFirsts, Cond.methodLink RX1 80 yX2_mostFirsts]
def wsX5_digest_r12 : List Cond := [Cond.methodLink RX1 87 yX1_countVotesHere, Cond.instanceMethod yX1_countVotesHere, Cond.selects RX1 yX1_countVotesHere yX1_countVotesHere, Cond.code yX1_countVotesHere cX1_countVotesHere 5 (some .int), Cond.fieldLink RX1 31 "BallotLoom$Parties" "votesHere" "[I", Cond.fieldLink RX1 95 "BallotLoom$Box" "candidates" "I", Cond.methodLink RX1 91 yX1_addWasted, Cond.instanceMethod yX1_addWasted, Cond.selects RX1 yX1_addWasted yX1_addWasted, Cond.code yX1_addWasted cX1_addWasted 6 none, Cond.methodLink RX1 98 Lib.Math.max.name, Cond.methodLink RX5 282 yX5_mixParty, Cond.instanceMethod yX5_mixParty, Cond.selects RX5 yX5_mixParty yX5_mixParty, Cond.code yX5_mixParty cX5_mixParty 7 (some .long), Cond.fieldLink RX5 229 "BallotLoom$Parties" "seats" "[I", Cond.methodLink RX5 217 yX1_figure, Cond.instanceMethod yX1_figure, Cond.selects RX1 yX1_figure yX1_figure, Cond.code yX1_figure cX1_figure 3 (some .int), Cond.methodLink RX5 285 yX1_shareSeats, Cond.instanceMethod yX1_shareSeats, Cond.selects RX1 yX1_shareSeats yX1_shareSeats, Cond.code yX1_shareSeats cX1_shareSeats 4 none]
def wsX5_digest_r13 : List Cond := [Cond.fieldLink RX1 28 "BallotLoom$Parties" "seats" "[I", Cond.methodLink RX1 104 yX1_shareByRemainders, Cond.instanceMethod yX1_shareByRemainders, Cond.selects RX1 yX1_shareByRemainders yX1_shareByRemainders, Cond.code yX1_shareByRemainders cX1_shareByRemainders 6 none, Cond.fieldLink RX1 34 "BallotLoom$Parties" "remainders" "[I", Cond.methodLink RX1 111 yX1_takesPart, Cond.instanceMethod yX1_takesPart, Cond.selects RX1 yX1_takesPart yX1_takesPart, Cond.code yX1_takesPart cX1_takesPart 2 (some .boolean), Cond.methodLink RX1 115 yX1_giveToGreatestRemainder, Cond.instanceMethod yX1_giveToGreatestRemainder, Cond.selects RX1 yX1_giveToGreatestRemainder yX1_giveToGreatestRemainder, Cond.code yX1_giveToGreatestRemainder cX1_giveToGreatestRemainder 3 none, Cond.methodLink RX1 108 yX1_shareByDivisors, Cond.instanceMethod yX1_shareByDivisors, Cond.selects RX1 yX1_shareByDivisors yX1_shareByDivisors, Cond.code yX1_shareByDivisors cX1_shareByDivisors 10 none, Cond.methodLink RX5 235 yX1_swingsOf, Cond.instanceMethod yX1_swingsOf, Cond.selects RX1 yX1_swingsOf yX1_swingsOf, Cond.code yX1_swingsOf cX1_swingsOf 6 (some .int), Cond.methodLink RX1 121 yX1_isRuling, Cond.instanceMethod yX1_isRuling]
def wsX5_digest_r14 : List Cond := [Cond.selects RX1 yX1_isRuling yX1_isRuling, Cond.code yX1_isRuling cX1_isRuling 3 (some .boolean), Cond.methodLink RX1 118 yX1_seatsTogether, Cond.instanceMethod yX1_seatsTogether, Cond.selects RX1 yX1_seatsTogether yX1_seatsTogether, Cond.code yX1_seatsTogether cX1_seatsTogether 4 (some .int), Cond.methodLink RX5 238 yX1_leastRulers, Cond.instanceMethod yX1_leastRulers, Cond.selects RX1 yX1_leastRulers yX1_leastRulers, Cond.code yX1_leastRulers cX1_leastRulers 4 (some .int), Cond.methodLink RX1 125 yX1_isLess, Cond.instanceMethod yX1_isLess, Cond.selects RX1 yX1_isLess yX1_isLess, Cond.code yX1_isLess cX1_isLess 5 (some .boolean), Cond.methodLink RX1 128 yJ6_bitCount_0f7a4, Cond.static yJ6_bitCount_0f7a4, Cond.initialized RJ6, Cond.code yJ6_bitCount_0f7a4 cJ6_bitCount_0f7a4 1 (some .int), Cond.constant RJ6 265 (1431655765), Cond.constant RJ6 266 (858993459), Cond.constant RJ6 267 (252645135)]
def wsX5_digest : List Cond := .code yX5_digest cX5_digest 4 (some .long) :: ((wsX5_digest_r1 ++ (wsX5_digest_r2 ++ (wsX5_digest_r3 ++ (wsX5_digest_r4 ++ (wsX5_digest_r5 ++ (wsX5_digest_r6 ++ (wsX5_digest_r7 ++ (wsX5_digest_r8 ++ (wsX5_digest_r9 ++ (wsX5_digest_r10 ++ (wsX5_digest_r11 ++ (wsX5_digest_r12 ++ (wsX5_digest_r13 ++ wsX5_digest_r14))))))))))))) ++ wsX50 ++ wsX00 ++ wsX30 ++ wsX40 ++ wsX20 ++ wsX10)
def wsJ9_max_7cf53 : List Cond := .code yJ9_max_7cf53 cJ9_max_7cf53 2 (some .int) :: ([])
def wsJ9_min_7cf53 : List Cond := .code yJ9_min_7cf53 cJ9_min_7cf53 2 (some .int) :: ([])
set_option maxRecDepth 20000 in
theorem ggX0_init_X3_init : GoodIn wsX0_init wsX3_init := goodIn_s [14, 15, 2, 3, 4, 16, 28, 29, 30, 31, 32, 33, 34] (by rfl) (by decide +kernel)
set_option maxRecDepth 20000 in
theorem gX0_init_X3_init_n28 : GoodIn wsX0_init (wsX3_init) := ggX0_init_X3_init
theorem dX0_init_0 : decode cX0_init 0 = .ok (.aload_n 0, 1) := by decide +kernel
theorem dX0_init_1 : decode cX0_init 1 = .ok (.invokespecial 3, 3) := by decide +kernel
theorem dX0_init_4 : decode cX0_init 4 = .ok (.aload_n 0, 1) := by decide +kernel
theorem dX0_init_5 : decode cX0_init 5 = .ok (.bipush 6, 2) := by decide +kernel
theorem dX0_init_7 : decode cX0_init 7 = .ok (.newarray .int, 2) := by decide +kernel
theorem dX0_init_9 : decode cX0_init 9 = .ok (.putfield 9, 3) := by decide +kernel
theorem dX0_init_12 : decode cX0_init 12 = .ok (.aload_n 0, 1) := by decide +kernel
theorem dX0_init_13 : decode cX0_init 13 = .ok (.bipush 6, 2) := by decide +kernel
theorem dX0_init_15 : decode cX0_init 15 = .ok (.newarray .boolean, 2) := by decide +kernel
theorem dX0_init_17 : decode cX0_init 17 = .ok (.putfield 15, 3) := by decide +kernel
theorem dX0_init_20 : decode cX0_init 20 = .ok (.aload_n 0, 1) := by decide +kernel
theorem dX0_init_21 : decode cX0_init 21 = .ok (.iconst 4, 1) := by decide +kernel
theorem dX0_init_22 : decode cX0_init 22 = .ok (.newarray .int, 2) := by decide +kernel
theorem dX0_init_24 : decode cX0_init 24 = .ok (.putfield 19, 3) := by decide +kernel
theorem dX0_init_27 : decode cX0_init 27 = .ok (.aload_n 0, 1) := by decide +kernel
theorem dX0_init_28 : decode cX0_init 28 = .ok (.bipush 24, 2) := by decide +kernel
theorem dX0_init_30 : decode cX0_init 30 = .ok (.anewarray 22, 3) := by decide +kernel
theorem dX0_init_33 : decode cX0_init 33 = .ok (.putfield 24, 3) := by decide +kernel
theorem dX0_init_36 : decode cX0_init 36 = .ok (.iconst 0, 1) := by decide +kernel
theorem dX0_init_37 : decode cX0_init 37 = .ok (.istore_n 1, 1) := by decide +kernel
theorem dX0_init_38 : decode cX0_init 38 = .ok (.iload_n 1, 1) := by decide +kernel
theorem dX0_init_39 : decode cX0_init 39 = .ok (.bipush 24, 2) := by decide +kernel
theorem dX0_init_41 : decode cX0_init 41 = .ok (.if_icmp .ge 22, 3) := by decide +kernel
theorem dX0_init_44 : decode cX0_init 44 = .ok (.aload_n 0, 1) := by decide +kernel
theorem dX0_init_45 : decode cX0_init 45 = .ok (.getfield 24, 3) := by decide +kernel
theorem dX0_init_48 : decode cX0_init 48 = .ok (.iload_n 1, 1) := by decide +kernel
theorem dX0_init_49 : decode cX0_init 49 = .ok (.new 22, 3) := by decide +kernel
theorem dX0_init_52 : decode cX0_init 52 = .ok (.dup, 1) := by decide +kernel
theorem dX0_init_53 : decode cX0_init 53 = .ok (.invokespecial 28, 3) := by decide +kernel
theorem dX0_init_56 : decode cX0_init 56 = .ok (.aastore, 1) := by decide +kernel
theorem dX0_init_57 : decode cX0_init 57 = .ok (.iinc 1 1, 3) := by decide +kernel
theorem dX0_init_60 : decode cX0_init 60 = .ok (.goto (-22), 3) := by decide +kernel
theorem dX0_init_63 : decode cX0_init 63 = .ok (.return_, 1) := by decide +kernel
theorem dX0_addCandidate_0 : decode cX0_addCandidate 0 = .ok (.aload_n 0, 1) := by decide +kernel
theorem dX0_addCandidate_1 : decode cX0_addCandidate 1 = .ok (.getfield 29, 3) := by decide +kernel
theorem dX0_addCandidate_4 : decode cX0_addCandidate 4 = .ok (.istore_n 2, 1) := by decide +kernel
theorem dX0_addCandidate_5 : decode cX0_addCandidate 5 = .ok (.aload_n 0, 1) := by decide +kernel
theorem dX0_addCandidate_6 : decode cX0_addCandidate 6 = .ok (.getfield 9, 3) := by decide +kernel
theorem dX0_addCandidate_9 : decode cX0_addCandidate 9 = .ok (.iload_n 2, 1) := by decide +kernel
theorem dX0_addCandidate_10 : decode cX0_addCandidate 10 = .ok (.iload_n 1, 1) := by decide +kernel
theorem dX0_addCandidate_11 : decode cX0_addCandidate 11 = .ok (.iastore, 1) := by decide +kernel
theorem dX0_addCandidate_12 : decode cX0_addCandidate 12 = .ok (.aload_n 0, 1) := by decide +kernel
theorem dX0_addCandidate_13 : decode cX0_addCandidate 13 = .ok (.getfield 15, 3) := by decide +kernel
theorem dX0_addCandidate_16 : decode cX0_addCandidate 16 = .ok (.iload_n 2, 1) := by decide +kernel
theorem dX0_addCandidate_17 : decode cX0_addCandidate 17 = .ok (.iconst 1, 1) := by decide +kernel
theorem dX0_addCandidate_18 : decode cX0_addCandidate 18 = .ok (.bastore, 1) := by decide +kernel
theorem dX0_addCandidate_19 : decode cX0_addCandidate 19 = .ok (.aload_n 0, 1) := by decide +kernel
theorem dX0_addCandidate_20 : decode cX0_addCandidate 20 = .ok (.dup, 1) := by decide +kernel
theorem dX0_addCandidate_21 : decode cX0_addCandidate 21 = .ok (.getfield 29, 3) := by decide +kernel
theorem dX0_addCandidate_24 : decode cX0_addCandidate 24 = .ok (.iconst 1, 1) := by decide +kernel
theorem dX0_addCandidate_25 : decode cX0_addCandidate 25 = .ok (.iadd, 1) := by decide +kernel
theorem dX0_addCandidate_26 : decode cX0_addCandidate 26 = .ok (.putfield 29, 3) := by decide +kernel
theorem dX0_addCandidate_29 : decode cX0_addCandidate 29 = .ok (.aload_n 0, 1) := by decide +kernel
theorem dX0_addCandidate_30 : decode cX0_addCandidate 30 = .ok (.dup, 1) := by decide +kernel
theorem dX0_addCandidate_31 : decode cX0_addCandidate 31 = .ok (.getfield 33, 3) := by decide +kernel
theorem dX0_addCandidate_34 : decode cX0_addCandidate 34 = .ok (.iconst 1, 1) := by decide +kernel
theorem dX0_addCandidate_35 : decode cX0_addCandidate 35 = .ok (.iadd, 1) := by decide +kernel
theorem dX0_addCandidate_36 : decode cX0_addCandidate 36 = .ok (.putfield 33, 3) := by decide +kernel
theorem dX0_addCandidate_39 : decode cX0_addCandidate 39 = .ok (.iload_n 2, 1) := by decide +kernel
theorem dX0_addCandidate_40 : decode cX0_addCandidate 40 = .ok (.ireturn, 1) := by decide +kernel
theorem dX0_addDistrict_0 : decode cX0_addDistrict 0 = .ok (.aload_n 0, 1) := by decide +kernel
theorem dX0_addDistrict_1 : decode cX0_addDistrict 1 = .ok (.getfield 36, 3) := by decide +kernel
theorem dX0_addDistrict_4 : decode cX0_addDistrict 4 = .ok (.istore_n 2, 1) := by decide +kernel
theorem dX0_addDistrict_5 : decode cX0_addDistrict 5 = .ok (.aload_n 0, 1) := by decide +kernel
theorem dX0_addDistrict_6 : decode cX0_addDistrict 6 = .ok (.getfield 19, 3) := by decide +kernel
theorem dX0_addDistrict_9 : decode cX0_addDistrict 9 = .ok (.iload_n 2, 1) := by decide +kernel
theorem dX0_addDistrict_10 : decode cX0_addDistrict 10 = .ok (.iload_n 1, 1) := by decide +kernel
theorem dX0_addDistrict_11 : decode cX0_addDistrict 11 = .ok (.iastore, 1) := by decide +kernel
theorem dX0_addDistrict_12 : decode cX0_addDistrict 12 = .ok (.aload_n 0, 1) := by decide +kernel
theorem dX0_addDistrict_13 : decode cX0_addDistrict 13 = .ok (.dup, 1) := by decide +kernel
theorem dX0_addDistrict_14 : decode cX0_addDistrict 14 = .ok (.getfield 36, 3) := by decide +kernel
theorem dX0_addDistrict_17 : decode cX0_addDistrict 17 = .ok (.iconst 1, 1) := by decide +kernel
theorem dX0_addDistrict_18 : decode cX0_addDistrict 18 = .ok (.iadd, 1) := by decide +kernel
theorem dX0_addDistrict_19 : decode cX0_addDistrict 19 = .ok (.putfield 36, 3) := by decide +kernel
theorem dX0_addDistrict_22 : decode cX0_addDistrict 22 = .ok (.iload_n 2, 1) := by decide +kernel
theorem dX0_addDistrict_23 : decode cX0_addDistrict 23 = .ok (.ireturn, 1) := by decide +kernel
set_option maxRecDepth 20000 in
theorem ggX0_addStack_X3_setRanks : GoodIn wsX0_addStack wsX3_setRanks := goodIn_s [9, 10, 11, 12, 13, 14, 8, 15, 16, 17, 18, 19, 20, 21, 22, 23, 24, 25, 26, 27, 28, 40, 41, 42, 43, 44, 45, 46, 29, 30, 31, 32, 33, 34, 35, 36, 37, 38, 39] (by rfl) (by decide +kernel)
set_option maxRecDepth 20000 in
theorem gX0_addStack_X3_setRanks : GoodIn wsX0_addStack (wsV RX0 48 RX3 yX3_setRanks wsX3_setRanks) := goodIn_app (goodIn_of _ (by decide +kernel)) ggX0_addStack_X3_setRanks
theorem dX0_addStack_0 : decode cX0_addStack 0 = .ok (.aload_n 0, 1) := by decide +kernel
theorem dX0_addStack_1 : decode cX0_addStack 1 = .ok (.getfield 39, 3) := by decide +kernel
theorem dX0_addStack_4 : decode cX0_addStack 4 = .ok (.istore 4, 2) := by decide +kernel
theorem dX0_addStack_6 : decode cX0_addStack 6 = .ok (.aload_n 0, 1) := by decide +kernel
theorem dX0_addStack_7 : decode cX0_addStack 7 = .ok (.getfield 24, 3) := by decide +kernel
theorem dX0_addStack_10 : decode cX0_addStack 10 = .ok (.iload 4, 2) := by decide +kernel
theorem dX0_addStack_12 : decode cX0_addStack 12 = .ok (.aaload, 1) := by decide +kernel
theorem dX0_addStack_13 : decode cX0_addStack 13 = .ok (.astore 5, 2) := by decide +kernel
theorem dX0_addStack_15 : decode cX0_addStack 15 = .ok (.aload 5, 2) := by decide +kernel
theorem dX0_addStack_17 : decode cX0_addStack 17 = .ok (.iload_n 1, 1) := by decide +kernel
theorem dX0_addStack_18 : decode cX0_addStack 18 = .ok (.putfield 42, 3) := by decide +kernel
theorem dX0_addStack_21 : decode cX0_addStack 21 = .ok (.aload 5, 2) := by decide +kernel
theorem dX0_addStack_23 : decode cX0_addStack 23 = .ok (.iload_n 3, 1) := by decide +kernel
theorem dX0_addStack_24 : decode cX0_addStack 24 = .ok (.putfield 45, 3) := by decide +kernel
theorem dX0_addStack_27 : decode cX0_addStack 27 = .ok (.aload 5, 2) := by decide +kernel
theorem dX0_addStack_29 : decode cX0_addStack 29 = .ok (.iload_n 2, 1) := by decide +kernel
theorem dX0_addStack_30 : decode cX0_addStack 30 = .ok (.aload_n 0, 1) := by decide +kernel
theorem dX0_addStack_31 : decode cX0_addStack 31 = .ok (.invokevirtual 48, 3) := by decide +kernel
theorem dX0_addStack_34 : decode cX0_addStack 34 = .ok (.aload_n 0, 1) := by decide +kernel
theorem dX0_addStack_35 : decode cX0_addStack 35 = .ok (.dup, 1) := by decide +kernel
theorem dX0_addStack_36 : decode cX0_addStack 36 = .ok (.getfield 39, 3) := by decide +kernel
theorem dX0_addStack_39 : decode cX0_addStack 39 = .ok (.iconst 1, 1) := by decide +kernel
theorem dX0_addStack_40 : decode cX0_addStack 40 = .ok (.iadd, 1) := by decide +kernel
theorem dX0_addStack_41 : decode cX0_addStack 41 = .ok (.putfield 39, 3) := by decide +kernel
theorem dX0_addStack_44 : decode cX0_addStack 44 = .ok (.iload 4, 2) := by decide +kernel
theorem dX0_addStack_46 : decode cX0_addStack 46 = .ok (.ireturn, 1) := by decide +kernel
set_option maxRecDepth 20000 in
theorem ggX0_takeOff_X3_makeList : GoodIn wsX0_takeOff wsX3_makeList := goodIn_s [9, 10, 11, 12, 13, 14, 15, 16, 17, 18, 19, 1, 31, 32, 33, 34, 35, 36, 37, 20, 21, 22, 23, 24, 25, 26, 27, 28, 29, 30] (by rfl) (by decide +kernel)
set_option maxRecDepth 20000 in
theorem gX0_takeOff_X3_makeList : GoodIn wsX0_takeOff (wsV RX0 52 RX3 yX3_makeList wsX3_makeList) := goodIn_app (goodIn_of _ (by decide +kernel)) ggX0_takeOff_X3_makeList
theorem dX0_takeOff_0 : decode cX0_takeOff 0 = .ok (.aload_n 0, 1) := by decide +kernel
theorem dX0_takeOff_1 : decode cX0_takeOff 1 = .ok (.getfield 15, 3) := by decide +kernel
theorem dX0_takeOff_4 : decode cX0_takeOff 4 = .ok (.iload_n 1, 1) := by decide +kernel
theorem dX0_takeOff_5 : decode cX0_takeOff 5 = .ok (.iconst 0, 1) := by decide +kernel
theorem dX0_takeOff_6 : decode cX0_takeOff 6 = .ok (.bastore, 1) := by decide +kernel
theorem dX0_takeOff_7 : decode cX0_takeOff 7 = .ok (.aload_n 0, 1) := by decide +kernel
theorem dX0_takeOff_8 : decode cX0_takeOff 8 = .ok (.dup, 1) := by decide +kernel
theorem dX0_takeOff_9 : decode cX0_takeOff 9 = .ok (.getfield 33, 3) := by decide +kernel
theorem dX0_takeOff_12 : decode cX0_takeOff 12 = .ok (.iconst 1, 1) := by decide +kernel
theorem dX0_takeOff_13 : decode cX0_takeOff 13 = .ok (.isub, 1) := by decide +kernel
theorem dX0_takeOff_14 : decode cX0_takeOff 14 = .ok (.putfield 33, 3) := by decide +kernel
theorem dX0_takeOff_17 : decode cX0_takeOff 17 = .ok (.iconst 0, 1) := by decide +kernel
theorem dX0_takeOff_18 : decode cX0_takeOff 18 = .ok (.istore_n 2, 1) := by decide +kernel
theorem dX0_takeOff_19 : decode cX0_takeOff 19 = .ok (.iload_n 2, 1) := by decide +kernel
theorem dX0_takeOff_20 : decode cX0_takeOff 20 = .ok (.aload_n 0, 1) := by decide +kernel
theorem dX0_takeOff_21 : decode cX0_takeOff 21 = .ok (.getfield 39, 3) := by decide +kernel
theorem dX0_takeOff_24 : decode cX0_takeOff 24 = .ok (.if_icmp .ge 19, 3) := by decide +kernel
theorem dX0_takeOff_27 : decode cX0_takeOff 27 = .ok (.aload_n 0, 1) := by decide +kernel
theorem dX0_takeOff_28 : decode cX0_takeOff 28 = .ok (.getfield 24, 3) := by decide +kernel
theorem dX0_takeOff_31 : decode cX0_takeOff 31 = .ok (.iload_n 2, 1) := by decide +kernel
theorem dX0_takeOff_32 : decode cX0_takeOff 32 = .ok (.aaload, 1) := by decide +kernel
theorem dX0_takeOff_33 : decode cX0_takeOff 33 = .ok (.aload_n 0, 1) := by decide +kernel
theorem dX0_takeOff_34 : decode cX0_takeOff 34 = .ok (.invokevirtual 52, 3) := by decide +kernel
theorem dX0_takeOff_37 : decode cX0_takeOff 37 = .ok (.iinc 2 1, 3) := by decide +kernel
theorem dX0_takeOff_40 : decode cX0_takeOff 40 = .ok (.goto (-21), 3) := by decide +kernel
theorem dX0_takeOff_43 : decode cX0_takeOff 43 = .ok (.return_, 1) := by decide +kernel
theorem dX0_isStanding_0 : decode cX0_isStanding 0 = .ok (.iload_n 1, 1) := by decide +kernel
theorem dX0_isStanding_1 : decode cX0_isStanding 1 = .ok (.ifCond .lt 24, 3) := by decide +kernel
theorem dX0_isStanding_4 : decode cX0_isStanding 4 = .ok (.iload_n 1, 1) := by decide +kernel
theorem dX0_isStanding_5 : decode cX0_isStanding 5 = .ok (.aload_n 0, 1) := by decide +kernel
theorem dX0_isStanding_6 : decode cX0_isStanding 6 = .ok (.getfield 29, 3) := by decide +kernel
theorem dX0_isStanding_9 : decode cX0_isStanding 9 = .ok (.if_icmp .ge 16, 3) := by decide +kernel
theorem dX0_isStanding_12 : decode cX0_isStanding 12 = .ok (.aload_n 0, 1) := by decide +kernel
theorem dX0_isStanding_13 : decode cX0_isStanding 13 = .ok (.getfield 15, 3) := by decide +kernel
theorem dX0_isStanding_16 : decode cX0_isStanding 16 = .ok (.iload_n 1, 1) := by decide +kernel
theorem dX0_isStanding_17 : decode cX0_isStanding 17 = .ok (.baload, 1) := by decide +kernel
theorem dX0_isStanding_18 : decode cX0_isStanding 18 = .ok (.ifCond .eq 7, 3) := by decide +kernel
theorem dX0_isStanding_21 : decode cX0_isStanding 21 = .ok (.iconst 1, 1) := by decide +kernel
theorem dX0_isStanding_22 : decode cX0_isStanding 22 = .ok (.goto 4, 3) := by decide +kernel
theorem dX0_isStanding_25 : decode cX0_isStanding 25 = .ok (.iconst 0, 1) := by decide +kernel
theorem dX0_isStanding_26 : decode cX0_isStanding 26 = .ok (.ireturn, 1) := by decide +kernel
theorem dX0_standingOf_0 : decode cX0_standingOf 0 = .ok (.iconst 0, 1) := by decide +kernel
theorem dX0_standingOf_1 : decode cX0_standingOf 1 = .ok (.istore_n 2, 1) := by decide +kernel
theorem dX0_standingOf_2 : decode cX0_standingOf 2 = .ok (.iconst 0, 1) := by decide +kernel
theorem dX0_standingOf_3 : decode cX0_standingOf 3 = .ok (.istore_n 3, 1) := by decide +kernel
theorem dX0_standingOf_4 : decode cX0_standingOf 4 = .ok (.iload_n 3, 1) := by decide +kernel
theorem dX0_standingOf_5 : decode cX0_standingOf 5 = .ok (.aload_n 0, 1) := by decide +kernel
theorem dX0_standingOf_6 : decode cX0_standingOf 6 = .ok (.getfield 29, 3) := by decide +kernel
theorem dX0_standingOf_9 : decode cX0_standingOf 9 = .ok (.if_icmp .ge 31, 3) := by decide +kernel
theorem dX0_standingOf_12 : decode cX0_standingOf 12 = .ok (.aload_n 0, 1) := by decide +kernel
theorem dX0_standingOf_13 : decode cX0_standingOf 13 = .ok (.getfield 15, 3) := by decide +kernel
theorem dX0_standingOf_16 : decode cX0_standingOf 16 = .ok (.iload_n 3, 1) := by decide +kernel
theorem dX0_standingOf_17 : decode cX0_standingOf 17 = .ok (.baload, 1) := by decide +kernel
theorem dX0_standingOf_18 : decode cX0_standingOf 18 = .ok (.ifCond .eq 16, 3) := by decide +kernel
theorem dX0_standingOf_21 : decode cX0_standingOf 21 = .ok (.aload_n 0, 1) := by decide +kernel
theorem dX0_standingOf_22 : decode cX0_standingOf 22 = .ok (.getfield 9, 3) := by decide +kernel
theorem dX0_standingOf_25 : decode cX0_standingOf 25 = .ok (.iload_n 3, 1) := by decide +kernel
theorem dX0_standingOf_26 : decode cX0_standingOf 26 = .ok (.iaload, 1) := by decide +kernel
theorem dX0_standingOf_27 : decode cX0_standingOf 27 = .ok (.iload_n 1, 1) := by decide +kernel
theorem dX0_standingOf_28 : decode cX0_standingOf 28 = .ok (.if_icmp .ne 6, 3) := by decide +kernel
theorem dX0_standingOf_31 : decode cX0_standingOf 31 = .ok (.iinc 2 1, 3) := by decide +kernel
theorem dX0_standingOf_34 : decode cX0_standingOf 34 = .ok (.iinc 3 1, 3) := by decide +kernel
theorem dX0_standingOf_37 : decode cX0_standingOf 37 = .ok (.goto (-33), 3) := by decide +kernel
theorem dX0_standingOf_40 : decode cX0_standingOf 40 = .ok (.iload_n 2, 1) := by decide +kernel
theorem dX0_standingOf_41 : decode cX0_standingOf 41 = .ok (.ireturn, 1) := by decide +kernel
theorem dX0_spoiledStacks_0 : decode cX0_spoiledStacks 0 = .ok (.iconst 0, 1) := by decide +kernel
theorem dX0_spoiledStacks_1 : decode cX0_spoiledStacks 1 = .ok (.istore_n 1, 1) := by decide +kernel
theorem dX0_spoiledStacks_2 : decode cX0_spoiledStacks 2 = .ok (.iconst 0, 1) := by decide +kernel
theorem dX0_spoiledStacks_3 : decode cX0_spoiledStacks 3 = .ok (.istore_n 2, 1) := by decide +kernel
theorem dX0_spoiledStacks_4 : decode cX0_spoiledStacks 4 = .ok (.iload_n 2, 1) := by decide +kernel
theorem dX0_spoiledStacks_5 : decode cX0_spoiledStacks 5 = .ok (.aload_n 0, 1) := by decide +kernel
theorem dX0_spoiledStacks_6 : decode cX0_spoiledStacks 6 = .ok (.getfield 39, 3) := by decide +kernel
theorem dX0_spoiledStacks_9 : decode cX0_spoiledStacks 9 = .ok (.if_icmp .ge 24, 3) := by decide +kernel
theorem dX0_spoiledStacks_12 : decode cX0_spoiledStacks 12 = .ok (.aload_n 0, 1) := by decide +kernel
theorem dX0_spoiledStacks_13 : decode cX0_spoiledStacks 13 = .ok (.getfield 24, 3) := by decide +kernel
theorem dX0_spoiledStacks_16 : decode cX0_spoiledStacks 16 = .ok (.iload_n 2, 1) := by decide +kernel
theorem dX0_spoiledStacks_17 : decode cX0_spoiledStacks 17 = .ok (.aaload, 1) := by decide +kernel
theorem dX0_spoiledStacks_18 : decode cX0_spoiledStacks 18 = .ok (.getfield 56, 3) := by decide +kernel
theorem dX0_spoiledStacks_21 : decode cX0_spoiledStacks 21 = .ok (.ifCond .eq 6, 3) := by decide +kernel
theorem dX0_spoiledStacks_24 : decode cX0_spoiledStacks 24 = .ok (.iinc 1 1, 3) := by decide +kernel
theorem dX0_spoiledStacks_27 : decode cX0_spoiledStacks 27 = .ok (.iinc 2 1, 3) := by decide +kernel
theorem dX0_spoiledStacks_30 : decode cX0_spoiledStacks 30 = .ok (.goto (-26), 3) := by decide +kernel
theorem dX0_spoiledStacks_33 : decode cX0_spoiledStacks 33 = .ok (.iload_n 1, 1) := by decide +kernel
theorem dX0_spoiledStacks_34 : decode cX0_spoiledStacks 34 = .ok (.ireturn, 1) := by decide +kernel
theorem dX0_allCounts_0 : decode cX0_allCounts 0 = .ok (.iconst 0, 1) := by decide +kernel
theorem dX0_allCounts_1 : decode cX0_allCounts 1 = .ok (.istore_n 1, 1) := by decide +kernel
theorem dX0_allCounts_2 : decode cX0_allCounts 2 = .ok (.iconst 0, 1) := by decide +kernel
theorem dX0_allCounts_3 : decode cX0_allCounts 3 = .ok (.istore_n 2, 1) := by decide +kernel
theorem dX0_allCounts_4 : decode cX0_allCounts 4 = .ok (.iload_n 2, 1) := by decide +kernel
theorem dX0_allCounts_5 : decode cX0_allCounts 5 = .ok (.aload_n 0, 1) := by decide +kernel
theorem dX0_allCounts_6 : decode cX0_allCounts 6 = .ok (.getfield 39, 3) := by decide +kernel
theorem dX0_allCounts_9 : decode cX0_allCounts 9 = .ok (.if_icmp .ge 21, 3) := by decide +kernel
theorem dX0_allCounts_12 : decode cX0_allCounts 12 = .ok (.iload_n 1, 1) := by decide +kernel
theorem dX0_allCounts_13 : decode cX0_allCounts 13 = .ok (.aload_n 0, 1) := by decide +kernel
theorem dX0_allCounts_14 : decode cX0_allCounts 14 = .ok (.getfield 24, 3) := by decide +kernel
theorem dX0_allCounts_17 : decode cX0_allCounts 17 = .ok (.iload_n 2, 1) := by decide +kernel
theorem dX0_allCounts_18 : decode cX0_allCounts 18 = .ok (.aaload, 1) := by decide +kernel
theorem dX0_allCounts_19 : decode cX0_allCounts 19 = .ok (.getfield 45, 3) := by decide +kernel
theorem dX0_allCounts_22 : decode cX0_allCounts 22 = .ok (.iadd, 1) := by decide +kernel
theorem dX0_allCounts_23 : decode cX0_allCounts 23 = .ok (.istore_n 1, 1) := by decide +kernel
theorem dX0_allCounts_24 : decode cX0_allCounts 24 = .ok (.iinc 2 1, 3) := by decide +kernel
theorem dX0_allCounts_27 : decode cX0_allCounts 27 = .ok (.goto (-23), 3) := by decide +kernel
theorem dX0_allCounts_30 : decode cX0_allCounts 30 = .ok (.iload_n 1, 1) := by decide +kernel
theorem dX0_allCounts_31 : decode cX0_allCounts 31 = .ok (.ireturn, 1) := by decide +kernel
set_option maxRecDepth 20000 in
theorem ggX0_countsOfLists_X0_countsOfListsIn : GoodIn wsX0_countsOfLists wsX0_countsOfListsIn := goodIn_s [6, 7, 8, 9, 10, 11, 12, 13, 14, 15, 16, 17, 18, 19, 20, 21, 22, 23, 24, 25, 26, 27, 28, 29, 30, 31, 32, 33, 34, 35] (by rfl) (by decide +kernel)
set_option maxRecDepth 20000 in
theorem gX0_countsOfLists_X0_countsOfListsIn : GoodIn wsX0_countsOfLists (wsV RX0 60 RX0 yX0_countsOfListsIn wsX0_countsOfListsIn) := goodIn_app (goodIn_of _ (by decide +kernel)) ggX0_countsOfLists_X0_countsOfListsIn
theorem dX0_countsOfLists_0 : decode cX0_countsOfLists 0 = .ok (.iconst 0, 1) := by decide +kernel
theorem dX0_countsOfLists_1 : decode cX0_countsOfLists 1 = .ok (.istore_n 1, 1) := by decide +kernel
theorem dX0_countsOfLists_2 : decode cX0_countsOfLists 2 = .ok (.iconst 0, 1) := by decide +kernel
theorem dX0_countsOfLists_3 : decode cX0_countsOfLists 3 = .ok (.istore_n 2, 1) := by decide +kernel
theorem dX0_countsOfLists_4 : decode cX0_countsOfLists 4 = .ok (.iload_n 2, 1) := by decide +kernel
theorem dX0_countsOfLists_5 : decode cX0_countsOfLists 5 = .ok (.aload_n 0, 1) := by decide +kernel
theorem dX0_countsOfLists_6 : decode cX0_countsOfLists 6 = .ok (.getfield 36, 3) := by decide +kernel
theorem dX0_countsOfLists_9 : decode cX0_countsOfLists 9 = .ok (.if_icmp .ge 17, 3) := by decide +kernel
theorem dX0_countsOfLists_12 : decode cX0_countsOfLists 12 = .ok (.iload_n 1, 1) := by decide +kernel
theorem dX0_countsOfLists_13 : decode cX0_countsOfLists 13 = .ok (.aload_n 0, 1) := by decide +kernel
theorem dX0_countsOfLists_14 : decode cX0_countsOfLists 14 = .ok (.iload_n 2, 1) := by decide +kernel
theorem dX0_countsOfLists_15 : decode cX0_countsOfLists 15 = .ok (.invokevirtual 60, 3) := by decide +kernel
theorem dX0_countsOfLists_18 : decode cX0_countsOfLists 18 = .ok (.iadd, 1) := by decide +kernel
theorem dX0_countsOfLists_19 : decode cX0_countsOfLists 19 = .ok (.istore_n 1, 1) := by decide +kernel
theorem dX0_countsOfLists_20 : decode cX0_countsOfLists 20 = .ok (.iinc 2 1, 3) := by decide +kernel
theorem dX0_countsOfLists_23 : decode cX0_countsOfLists 23 = .ok (.goto (-19), 3) := by decide +kernel
theorem dX0_countsOfLists_26 : decode cX0_countsOfLists 26 = .ok (.iload_n 1, 1) := by decide +kernel
theorem dX0_countsOfLists_27 : decode cX0_countsOfLists 27 = .ok (.ireturn, 1) := by decide +kernel
set_option maxRecDepth 20000 in
theorem ggX0_countsOfListsIn_X3_countsIn : GoodIn wsX0_countsOfListsIn wsX3_countsIn := goodIn_s [9, 10, 11, 23, 24, 25, 26, 27, 28, 29] (by rfl) (by decide +kernel)
set_option maxRecDepth 20000 in
theorem gX0_countsOfListsIn_X3_countsIn : GoodIn wsX0_countsOfListsIn (wsV RX0 64 RX3 yX3_countsIn wsX3_countsIn) := goodIn_app (goodIn_of _ (by decide +kernel)) ggX0_countsOfListsIn_X3_countsIn
theorem dX0_countsOfListsIn_0 : decode cX0_countsOfListsIn 0 = .ok (.iconst 0, 1) := by decide +kernel
theorem dX0_countsOfListsIn_1 : decode cX0_countsOfListsIn 1 = .ok (.istore_n 2, 1) := by decide +kernel
theorem dX0_countsOfListsIn_2 : decode cX0_countsOfListsIn 2 = .ok (.iconst 0, 1) := by decide +kernel
theorem dX0_countsOfListsIn_3 : decode cX0_countsOfListsIn 3 = .ok (.istore_n 3, 1) := by decide +kernel
theorem dX0_countsOfListsIn_4 : decode cX0_countsOfListsIn 4 = .ok (.iload_n 3, 1) := by decide +kernel
theorem dX0_countsOfListsIn_5 : decode cX0_countsOfListsIn 5 = .ok (.aload_n 0, 1) := by decide +kernel
theorem dX0_countsOfListsIn_6 : decode cX0_countsOfListsIn 6 = .ok (.getfield 39, 3) := by decide +kernel
theorem dX0_countsOfListsIn_9 : decode cX0_countsOfListsIn 9 = .ok (.if_icmp .ge 46, 3) := by decide +kernel
theorem dX0_countsOfListsIn_12 : decode cX0_countsOfListsIn 12 = .ok (.aload_n 0, 1) := by decide +kernel
theorem dX0_countsOfListsIn_13 : decode cX0_countsOfListsIn 13 = .ok (.getfield 24, 3) := by decide +kernel
theorem dX0_countsOfListsIn_16 : decode cX0_countsOfListsIn 16 = .ok (.iload_n 3, 1) := by decide +kernel
theorem dX0_countsOfListsIn_17 : decode cX0_countsOfListsIn 17 = .ok (.aaload, 1) := by decide +kernel
theorem dX0_countsOfListsIn_18 : decode cX0_countsOfListsIn 18 = .ok (.iload_n 1, 1) := by decide +kernel
theorem dX0_countsOfListsIn_19 : decode cX0_countsOfListsIn 19 = .ok (.invokevirtual 64, 3) := by decide +kernel
theorem dX0_countsOfListsIn_22 : decode cX0_countsOfListsIn 22 = .ok (.ifCond .eq 27, 3) := by decide +kernel
theorem dX0_countsOfListsIn_25 : decode cX0_countsOfListsIn 25 = .ok (.aload_n 0, 1) := by decide +kernel
theorem dX0_countsOfListsIn_26 : decode cX0_countsOfListsIn 26 = .ok (.getfield 24, 3) := by decide +kernel
theorem dX0_countsOfListsIn_29 : decode cX0_countsOfListsIn 29 = .ok (.iload_n 3, 1) := by decide +kernel
theorem dX0_countsOfListsIn_30 : decode cX0_countsOfListsIn 30 = .ok (.aaload, 1) := by decide +kernel
theorem dX0_countsOfListsIn_31 : decode cX0_countsOfListsIn 31 = .ok (.getfield 68, 3) := by decide +kernel
theorem dX0_countsOfListsIn_34 : decode cX0_countsOfListsIn 34 = .ok (.ifCond .le 15, 3) := by decide +kernel
theorem dX0_countsOfListsIn_37 : decode cX0_countsOfListsIn 37 = .ok (.iload_n 2, 1) := by decide +kernel
theorem dX0_countsOfListsIn_38 : decode cX0_countsOfListsIn 38 = .ok (.aload_n 0, 1) := by decide +kernel
theorem dX0_countsOfListsIn_39 : decode cX0_countsOfListsIn 39 = .ok (.getfield 24, 3) := by decide +kernel
theorem dX0_countsOfListsIn_42 : decode cX0_countsOfListsIn 42 = .ok (.iload_n 3, 1) := by decide +kernel
theorem dX0_countsOfListsIn_43 : decode cX0_countsOfListsIn 43 = .ok (.aaload, 1) := by decide +kernel
theorem dX0_countsOfListsIn_44 : decode cX0_countsOfListsIn 44 = .ok (.getfield 45, 3) := by decide +kernel
theorem dX0_countsOfListsIn_47 : decode cX0_countsOfListsIn 47 = .ok (.iadd, 1) := by decide +kernel
theorem dX0_countsOfListsIn_48 : decode cX0_countsOfListsIn 48 = .ok (.istore_n 2, 1) := by decide +kernel
theorem dX0_countsOfListsIn_49 : decode cX0_countsOfListsIn 49 = .ok (.iinc 3 1, 3) := by decide +kernel
theorem dX0_countsOfListsIn_52 : decode cX0_countsOfListsIn 52 = .ok (.goto (-48), 3) := by decide +kernel
theorem dX0_countsOfListsIn_55 : decode cX0_countsOfListsIn 55 = .ok (.iload_n 2, 1) := by decide +kernel
theorem dX0_countsOfListsIn_56 : decode cX0_countsOfListsIn 56 = .ok (.ireturn, 1) := by decide +kernel
set_option maxRecDepth 20000 in
theorem ggX0_figure_X0_spoiledStacks : GoodIn wsX0_figure wsX0_spoiledStacks := goodIn_s [12, 4, 13, 14, 36, 37, 38, 39, 40, 41, 42, 43, 44, 45, 46, 47, 48, 49, 50, 51, 52, 53] (by rfl) (by decide +kernel)
set_option maxRecDepth 20000 in
theorem gX0_figure_X0_spoiledStacks : GoodIn wsX0_figure (wsV RX0 71 RX0 yX0_spoiledStacks wsX0_spoiledStacks) := goodIn_app (goodIn_of _ (by decide +kernel)) ggX0_figure_X0_spoiledStacks
set_option maxRecDepth 20000 in
theorem ggX0_figure_X0_allCounts : GoodIn wsX0_figure wsX0_allCounts := goodIn_s [18, 4, 13, 19, 36, 37, 38, 39, 40, 41, 42, 43, 44, 45, 46, 47, 48, 49, 50, 51, 52, 53] (by rfl) (by decide +kernel)
set_option maxRecDepth 20000 in
theorem gX0_figure_X0_allCounts : GoodIn wsX0_figure (wsV RX0 75 RX0 yX0_allCounts wsX0_allCounts) := goodIn_app (goodIn_of _ (by decide +kernel)) ggX0_figure_X0_allCounts
set_option maxRecDepth 20000 in
theorem ggX0_figure_X0_countsOfLists : GoodIn wsX0_figure wsX0_countsOfLists := goodIn_s [23, 3, 24, 25, 26, 11, 27, 4, 13, 28, 19, 29, 30, 31, 32, 33, 34, 35, 36, 37, 38, 39, 40, 41, 42, 43, 44, 45, 46, 47, 48, 49, 50, 51, 52, 53] (by rfl) (by decide +kernel)
set_option maxRecDepth 20000 in
theorem gX0_figure_X0_countsOfLists : GoodIn wsX0_figure (wsV RX0 78 RX0 yX0_countsOfLists wsX0_countsOfLists) := goodIn_app (goodIn_of _ (by decide +kernel)) ggX0_figure_X0_countsOfLists
theorem dX0_figure_0 : decode cX0_figure 0 = .ok (.iload_n 1, 1) := by decide +kernel
theorem dX0_figure_1 : decode cX0_figure 1 = .ok (.tableswitch 104 0 8 #[51, 56, 61, 66, 71, 76, 81, 86, 91], 51) := by decide +kernel
theorem dX0_figure_52 : decode cX0_figure 52 = .ok (.aload_n 0, 1) := by decide +kernel
theorem dX0_figure_53 : decode cX0_figure 53 = .ok (.getfield 29, 3) := by decide +kernel
theorem dX0_figure_56 : decode cX0_figure 56 = .ok (.ireturn, 1) := by decide +kernel
theorem dX0_figure_57 : decode cX0_figure 57 = .ok (.aload_n 0, 1) := by decide +kernel
theorem dX0_figure_58 : decode cX0_figure 58 = .ok (.getfield 33, 3) := by decide +kernel
theorem dX0_figure_61 : decode cX0_figure 61 = .ok (.ireturn, 1) := by decide +kernel
theorem dX0_figure_62 : decode cX0_figure 62 = .ok (.aload_n 0, 1) := by decide +kernel
theorem dX0_figure_63 : decode cX0_figure 63 = .ok (.getfield 36, 3) := by decide +kernel
theorem dX0_figure_66 : decode cX0_figure 66 = .ok (.ireturn, 1) := by decide +kernel
theorem dX0_figure_67 : decode cX0_figure 67 = .ok (.aload_n 0, 1) := by decide +kernel
theorem dX0_figure_68 : decode cX0_figure 68 = .ok (.getfield 39, 3) := by decide +kernel
theorem dX0_figure_71 : decode cX0_figure 71 = .ok (.ireturn, 1) := by decide +kernel
theorem dX0_figure_72 : decode cX0_figure 72 = .ok (.aload_n 0, 1) := by decide +kernel
theorem dX0_figure_73 : decode cX0_figure 73 = .ok (.invokevirtual 71, 3) := by decide +kernel
theorem dX0_figure_76 : decode cX0_figure 76 = .ok (.ireturn, 1) := by decide +kernel
theorem dX0_figure_77 : decode cX0_figure 77 = .ok (.aload_n 0, 1) := by decide +kernel
theorem dX0_figure_78 : decode cX0_figure 78 = .ok (.invokevirtual 75, 3) := by decide +kernel
theorem dX0_figure_81 : decode cX0_figure 81 = .ok (.ireturn, 1) := by decide +kernel
theorem dX0_figure_82 : decode cX0_figure 82 = .ok (.aload_n 0, 1) := by decide +kernel
theorem dX0_figure_83 : decode cX0_figure 83 = .ok (.invokevirtual 78, 3) := by decide +kernel
theorem dX0_figure_86 : decode cX0_figure 86 = .ok (.ireturn, 1) := by decide +kernel
theorem dX0_figure_87 : decode cX0_figure 87 = .ok (.aload_n 0, 1) := by decide +kernel
theorem dX0_figure_88 : decode cX0_figure 88 = .ok (.getfield 81, 3) := by decide +kernel
theorem dX0_figure_91 : decode cX0_figure 91 = .ok (.ireturn, 1) := by decide +kernel
theorem dX0_figure_92 : decode cX0_figure 92 = .ok (.aload_n 0, 1) := by decide +kernel
theorem dX0_figure_93 : decode cX0_figure 93 = .ok (.getfield 84, 3) := by decide +kernel
theorem dX0_figure_96 : decode cX0_figure 96 = .ok (.ifCond .eq 7, 3) := by decide +kernel
theorem dX0_figure_99 : decode cX0_figure 99 = .ok (.iconst 1, 1) := by decide +kernel
theorem dX0_figure_100 : decode cX0_figure 100 = .ok (.goto 4, 3) := by decide +kernel
theorem dX0_figure_103 : decode cX0_figure 103 = .ok (.iconst 0, 1) := by decide +kernel
theorem dX0_figure_104 : decode cX0_figure 104 = .ok (.ireturn, 1) := by decide +kernel
theorem dX0_figure_105 : decode cX0_figure 105 = .ok (.aload_n 0, 1) := by decide +kernel
theorem dX0_figure_106 : decode cX0_figure 106 = .ok (.getfield 87, 3) := by decide +kernel
theorem dX0_figure_109 : decode cX0_figure 109 = .ok (.ireturn, 1) := by decide +kernel
theorem dX1_init_0 : decode cX1_init 0 = .ok (.aload_n 0, 1) := by decide +kernel
theorem dX1_init_1 : decode cX1_init 1 = .ok (.invokespecial 3, 3) := by decide +kernel
theorem dX1_init_4 : decode cX1_init 4 = .ok (.aload_n 0, 1) := by decide +kernel
theorem dX1_init_5 : decode cX1_init 5 = .ok (.iconst 4, 1) := by decide +kernel
theorem dX1_init_6 : decode cX1_init 6 = .ok (.newarray .int, 2) := by decide +kernel
theorem dX1_init_8 : decode cX1_init 8 = .ok (.putfield 9, 3) := by decide +kernel
theorem dX1_init_11 : decode cX1_init 11 = .ok (.aload_n 0, 1) := by decide +kernel
theorem dX1_init_12 : decode cX1_init 12 = .ok (.iconst 4, 1) := by decide +kernel
theorem dX1_init_13 : decode cX1_init 13 = .ok (.newarray .int, 2) := by decide +kernel
theorem dX1_init_15 : decode cX1_init 15 = .ok (.putfield 15, 3) := by decide +kernel
theorem dX1_init_18 : decode cX1_init 18 = .ok (.aload_n 0, 1) := by decide +kernel
theorem dX1_init_19 : decode cX1_init 19 = .ok (.iconst 4, 1) := by decide +kernel
theorem dX1_init_20 : decode cX1_init 20 = .ok (.newarray .boolean, 2) := by decide +kernel
theorem dX1_init_22 : decode cX1_init 22 = .ok (.putfield 18, 3) := by decide +kernel
theorem dX1_init_25 : decode cX1_init 25 = .ok (.aload_n 0, 1) := by decide +kernel
theorem dX1_init_26 : decode cX1_init 26 = .ok (.iconst 4, 1) := by decide +kernel
theorem dX1_init_27 : decode cX1_init 27 = .ok (.newarray .int, 2) := by decide +kernel
theorem dX1_init_29 : decode cX1_init 29 = .ok (.putfield 22, 3) := by decide +kernel
theorem dX1_init_32 : decode cX1_init 32 = .ok (.aload_n 0, 1) := by decide +kernel
theorem dX1_init_33 : decode cX1_init 33 = .ok (.iconst 4, 1) := by decide +kernel
theorem dX1_init_34 : decode cX1_init 34 = .ok (.newarray .int, 2) := by decide +kernel
theorem dX1_init_36 : decode cX1_init 36 = .ok (.putfield 25, 3) := by decide +kernel
theorem dX1_init_39 : decode cX1_init 39 = .ok (.aload_n 0, 1) := by decide +kernel
theorem dX1_init_40 : decode cX1_init 40 = .ok (.iconst 4, 1) := by decide +kernel
theorem dX1_init_41 : decode cX1_init 41 = .ok (.newarray .int, 2) := by decide +kernel
theorem dX1_init_43 : decode cX1_init 43 = .ok (.putfield 28, 3) := by decide +kernel
theorem dX1_init_46 : decode cX1_init 46 = .ok (.aload_n 0, 1) := by decide +kernel
theorem dX1_init_47 : decode cX1_init 47 = .ok (.iconst 4, 1) := by decide +kernel
theorem dX1_init_48 : decode cX1_init 48 = .ok (.newarray .int, 2) := by decide +kernel
theorem dX1_init_50 : decode cX1_init 50 = .ok (.putfield 31, 3) := by decide +kernel
theorem dX1_init_53 : decode cX1_init 53 = .ok (.aload_n 0, 1) := by decide +kernel
theorem dX1_init_54 : decode cX1_init 54 = .ok (.iconst 4, 1) := by decide +kernel
theorem dX1_init_55 : decode cX1_init 55 = .ok (.newarray .int, 2) := by decide +kernel
theorem dX1_init_57 : decode cX1_init 57 = .ok (.putfield 34, 3) := by decide +kernel
theorem dX1_init_60 : decode cX1_init 60 = .ok (.return_, 1) := by decide +kernel
set_option maxRecDepth 20000 in
theorem ggX1_countVotes_X0_standingOf : GoodIn wsX1_countVotes wsX0_standingOf := goodIn_s [16, 17, 18, 19, 29, 30, 31, 32, 33, 34, 35, 36, 37, 38, 39] (by rfl) (by decide +kernel)
set_option maxRecDepth 20000 in
theorem gX1_countVotes_X0_standingOf : GoodIn wsX1_countVotes (wsV RX1 41 RX0 yX0_standingOf wsX0_standingOf) := goodIn_app (goodIn_of _ (by decide +kernel)) ggX1_countVotes_X0_standingOf
theorem dX1_countVotes_0 : decode cX1_countVotes 0 = .ok (.aload_n 0, 1) := by decide +kernel
theorem dX1_countVotes_1 : decode cX1_countVotes 1 = .ok (.iconst 0, 1) := by decide +kernel
theorem dX1_countVotes_2 : decode cX1_countVotes 2 = .ok (.putfield 37, 3) := by decide +kernel
theorem dX1_countVotes_5 : decode cX1_countVotes 5 = .ok (.iconst 0, 1) := by decide +kernel
theorem dX1_countVotes_6 : decode cX1_countVotes 6 = .ok (.istore_n 2, 1) := by decide +kernel
theorem dX1_countVotes_7 : decode cX1_countVotes 7 = .ok (.iload_n 2, 1) := by decide +kernel
theorem dX1_countVotes_8 : decode cX1_countVotes 8 = .ok (.iconst 4, 1) := by decide +kernel
theorem dX1_countVotes_9 : decode cX1_countVotes 9 = .ok (.if_icmp .ge 27, 3) := by decide +kernel
theorem dX1_countVotes_12 : decode cX1_countVotes 12 = .ok (.aload_n 0, 1) := by decide +kernel
theorem dX1_countVotes_13 : decode cX1_countVotes 13 = .ok (.getfield 9, 3) := by decide +kernel
theorem dX1_countVotes_16 : decode cX1_countVotes 16 = .ok (.iload_n 2, 1) := by decide +kernel
theorem dX1_countVotes_17 : decode cX1_countVotes 17 = .ok (.iconst 0, 1) := by decide +kernel
theorem dX1_countVotes_18 : decode cX1_countVotes 18 = .ok (.iastore, 1) := by decide +kernel
theorem dX1_countVotes_19 : decode cX1_countVotes 19 = .ok (.aload_n 0, 1) := by decide +kernel
theorem dX1_countVotes_20 : decode cX1_countVotes 20 = .ok (.getfield 15, 3) := by decide +kernel
theorem dX1_countVotes_23 : decode cX1_countVotes 23 = .ok (.iload_n 2, 1) := by decide +kernel
theorem dX1_countVotes_24 : decode cX1_countVotes 24 = .ok (.aload_n 1, 1) := by decide +kernel
theorem dX1_countVotes_25 : decode cX1_countVotes 25 = .ok (.iload_n 2, 1) := by decide +kernel
theorem dX1_countVotes_26 : decode cX1_countVotes 26 = .ok (.invokevirtual 41, 3) := by decide +kernel
theorem dX1_countVotes_29 : decode cX1_countVotes 29 = .ok (.iastore, 1) := by decide +kernel
theorem dX1_countVotes_30 : decode cX1_countVotes 30 = .ok (.iinc 2 1, 3) := by decide +kernel
theorem dX1_countVotes_33 : decode cX1_countVotes 33 = .ok (.goto (-26), 3) := by decide +kernel
theorem dX1_countVotes_36 : decode cX1_countVotes 36 = .ok (.iconst 0, 1) := by decide +kernel
theorem dX1_countVotes_37 : decode cX1_countVotes 37 = .ok (.istore_n 2, 1) := by decide +kernel
theorem dX1_countVotes_38 : decode cX1_countVotes 38 = .ok (.iload_n 2, 1) := by decide +kernel
theorem dX1_countVotes_39 : decode cX1_countVotes 39 = .ok (.aload_n 1, 1) := by decide +kernel
theorem dX1_countVotes_40 : decode cX1_countVotes 40 = .ok (.getfield 47, 3) := by decide +kernel
theorem dX1_countVotes_43 : decode cX1_countVotes 43 = .ok (.if_icmp .ge 59, 3) := by decide +kernel
theorem dX1_countVotes_46 : decode cX1_countVotes 46 = .ok (.aload_n 1, 1) := by decide +kernel
theorem dX1_countVotes_47 : decode cX1_countVotes 47 = .ok (.getfield 50, 3) := by decide +kernel
theorem dX1_countVotes_50 : decode cX1_countVotes 50 = .ok (.iload_n 2, 1) := by decide +kernel
theorem dX1_countVotes_51 : decode cX1_countVotes 51 = .ok (.aaload, 1) := by decide +kernel
theorem dX1_countVotes_52 : decode cX1_countVotes 52 = .ok (.astore_n 3, 1) := by decide +kernel
theorem dX1_countVotes_53 : decode cX1_countVotes 53 = .ok (.aload_n 3, 1) := by decide +kernel
theorem dX1_countVotes_54 : decode cX1_countVotes 54 = .ok (.getfield 54, 3) := by decide +kernel
theorem dX1_countVotes_57 : decode cX1_countVotes 57 = .ok (.ifCond .le 39, 3) := by decide +kernel
theorem dX1_countVotes_60 : decode cX1_countVotes 60 = .ok (.aload_n 0, 1) := by decide +kernel
theorem dX1_countVotes_61 : decode cX1_countVotes 61 = .ok (.getfield 9, 3) := by decide +kernel
theorem dX1_countVotes_64 : decode cX1_countVotes 64 = .ok (.aload_n 1, 1) := by decide +kernel
theorem dX1_countVotes_65 : decode cX1_countVotes 65 = .ok (.getfield 59, 3) := by decide +kernel
theorem dX1_countVotes_68 : decode cX1_countVotes 68 = .ok (.aload_n 3, 1) := by decide +kernel
theorem dX1_countVotes_69 : decode cX1_countVotes 69 = .ok (.getfield 62, 3) := by decide +kernel
theorem dX1_countVotes_72 : decode cX1_countVotes 72 = .ok (.iconst 0, 1) := by decide +kernel
theorem dX1_countVotes_73 : decode cX1_countVotes 73 = .ok (.iaload, 1) := by decide +kernel
theorem dX1_countVotes_74 : decode cX1_countVotes 74 = .ok (.iaload, 1) := by decide +kernel
theorem dX1_countVotes_75 : decode cX1_countVotes 75 = .ok (.dup2, 1) := by decide +kernel
theorem dX1_countVotes_76 : decode cX1_countVotes 76 = .ok (.iaload, 1) := by decide +kernel
theorem dX1_countVotes_77 : decode cX1_countVotes 77 = .ok (.aload_n 3, 1) := by decide +kernel
theorem dX1_countVotes_78 : decode cX1_countVotes 78 = .ok (.getfield 65, 3) := by decide +kernel
theorem dX1_countVotes_81 : decode cX1_countVotes 81 = .ok (.iadd, 1) := by decide +kernel
theorem dX1_countVotes_82 : decode cX1_countVotes 82 = .ok (.iastore, 1) := by decide +kernel
theorem dX1_countVotes_83 : decode cX1_countVotes 83 = .ok (.aload_n 0, 1) := by decide +kernel
theorem dX1_countVotes_84 : decode cX1_countVotes 84 = .ok (.dup, 1) := by decide +kernel
theorem dX1_countVotes_85 : decode cX1_countVotes 85 = .ok (.getfield 37, 3) := by decide +kernel
theorem dX1_countVotes_88 : decode cX1_countVotes 88 = .ok (.aload_n 3, 1) := by decide +kernel
theorem dX1_countVotes_89 : decode cX1_countVotes 89 = .ok (.getfield 65, 3) := by decide +kernel
theorem dX1_countVotes_92 : decode cX1_countVotes 92 = .ok (.iadd, 1) := by decide +kernel
theorem dX1_countVotes_93 : decode cX1_countVotes 93 = .ok (.putfield 37, 3) := by decide +kernel
theorem dX1_countVotes_96 : decode cX1_countVotes 96 = .ok (.iinc 2 1, 3) := by decide +kernel
theorem dX1_countVotes_99 : decode cX1_countVotes 99 = .ok (.goto (-61), 3) := by decide +kernel
theorem dX1_countVotes_102 : decode cX1_countVotes 102 = .ok (.iconst 0, 1) := by decide +kernel
theorem dX1_countVotes_103 : decode cX1_countVotes 103 = .ok (.istore_n 2, 1) := by decide +kernel
theorem dX1_countVotes_104 : decode cX1_countVotes 104 = .ok (.iload_n 2, 1) := by decide +kernel
theorem dX1_countVotes_105 : decode cX1_countVotes 105 = .ok (.iconst 4, 1) := by decide +kernel
theorem dX1_countVotes_106 : decode cX1_countVotes 106 = .ok (.if_icmp .ge 41, 3) := by decide +kernel
theorem dX1_countVotes_109 : decode cX1_countVotes 109 = .ok (.aload_n 0, 1) := by decide +kernel
theorem dX1_countVotes_110 : decode cX1_countVotes 110 = .ok (.getfield 18, 3) := by decide +kernel
theorem dX1_countVotes_113 : decode cX1_countVotes 113 = .ok (.iload_n 2, 1) := by decide +kernel
theorem dX1_countVotes_114 : decode cX1_countVotes 114 = .ok (.bipush 100, 2) := by decide +kernel
theorem dX1_countVotes_116 : decode cX1_countVotes 116 = .ok (.aload_n 0, 1) := by decide +kernel
theorem dX1_countVotes_117 : decode cX1_countVotes 117 = .ok (.getfield 9, 3) := by decide +kernel
theorem dX1_countVotes_120 : decode cX1_countVotes 120 = .ok (.iload_n 2, 1) := by decide +kernel
theorem dX1_countVotes_121 : decode cX1_countVotes 121 = .ok (.iaload, 1) := by decide +kernel
theorem dX1_countVotes_122 : decode cX1_countVotes 122 = .ok (.imul, 1) := by decide +kernel
theorem dX1_countVotes_123 : decode cX1_countVotes 123 = .ok (.aload_n 1, 1) := by decide +kernel
theorem dX1_countVotes_124 : decode cX1_countVotes 124 = .ok (.getfield 68, 3) := by decide +kernel
theorem dX1_countVotes_127 : decode cX1_countVotes 127 = .ok (.aload_n 0, 1) := by decide +kernel
theorem dX1_countVotes_128 : decode cX1_countVotes 128 = .ok (.getfield 37, 3) := by decide +kernel
theorem dX1_countVotes_131 : decode cX1_countVotes 131 = .ok (.imul, 1) := by decide +kernel
theorem dX1_countVotes_132 : decode cX1_countVotes 132 = .ok (.if_icmp .ge 7, 3) := by decide +kernel
theorem dX1_countVotes_135 : decode cX1_countVotes 135 = .ok (.iconst 1, 1) := by decide +kernel
theorem dX1_countVotes_136 : decode cX1_countVotes 136 = .ok (.goto 4, 3) := by decide +kernel
theorem dX1_countVotes_139 : decode cX1_countVotes 139 = .ok (.iconst 0, 1) := by decide +kernel
theorem dX1_countVotes_140 : decode cX1_countVotes 140 = .ok (.bastore, 1) := by decide +kernel
theorem dX1_countVotes_141 : decode cX1_countVotes 141 = .ok (.iinc 2 1, 3) := by decide +kernel
theorem dX1_countVotes_144 : decode cX1_countVotes 144 = .ok (.goto (-40), 3) := by decide +kernel
theorem dX1_countVotes_147 : decode cX1_countVotes 147 = .ok (.return_, 1) := by decide +kernel
theorem dX1_barredSet_0 : decode cX1_barredSet 0 = .ok (.iconst 0, 1) := by decide +kernel
theorem dX1_barredSet_1 : decode cX1_barredSet 1 = .ok (.istore_n 1, 1) := by decide +kernel
theorem dX1_barredSet_2 : decode cX1_barredSet 2 = .ok (.iconst 0, 1) := by decide +kernel
theorem dX1_barredSet_3 : decode cX1_barredSet 3 = .ok (.istore_n 2, 1) := by decide +kernel
theorem dX1_barredSet_4 : decode cX1_barredSet 4 = .ok (.iload_n 2, 1) := by decide +kernel
theorem dX1_barredSet_5 : decode cX1_barredSet 5 = .ok (.iconst 4, 1) := by decide +kernel
theorem dX1_barredSet_6 : decode cX1_barredSet 6 = .ok (.if_icmp .ge 24, 3) := by decide +kernel
theorem dX1_barredSet_9 : decode cX1_barredSet 9 = .ok (.aload_n 0, 1) := by decide +kernel
theorem dX1_barredSet_10 : decode cX1_barredSet 10 = .ok (.getfield 18, 3) := by decide +kernel
theorem dX1_barredSet_13 : decode cX1_barredSet 13 = .ok (.iload_n 2, 1) := by decide +kernel
theorem dX1_barredSet_14 : decode cX1_barredSet 14 = .ok (.baload, 1) := by decide +kernel
theorem dX1_barredSet_15 : decode cX1_barredSet 15 = .ok (.ifCond .eq 9, 3) := by decide +kernel
theorem dX1_barredSet_18 : decode cX1_barredSet 18 = .ok (.iload_n 1, 1) := by decide +kernel
theorem dX1_barredSet_19 : decode cX1_barredSet 19 = .ok (.iconst 1, 1) := by decide +kernel
theorem dX1_barredSet_20 : decode cX1_barredSet 20 = .ok (.iload_n 2, 1) := by decide +kernel
theorem dX1_barredSet_21 : decode cX1_barredSet 21 = .ok (.ishl, 1) := by decide +kernel
theorem dX1_barredSet_22 : decode cX1_barredSet 22 = .ok (.ior, 1) := by decide +kernel
theorem dX1_barredSet_23 : decode cX1_barredSet 23 = .ok (.istore_n 1, 1) := by decide +kernel
theorem dX1_barredSet_24 : decode cX1_barredSet 24 = .ok (.iinc 2 1, 3) := by decide +kernel
theorem dX1_barredSet_27 : decode cX1_barredSet 27 = .ok (.goto (-23), 3) := by decide +kernel
theorem dX1_barredSet_30 : decode cX1_barredSet 30 = .ok (.iload_n 1, 1) := by decide +kernel
theorem dX1_barredSet_31 : decode cX1_barredSet 31 = .ok (.ireturn, 1) := by decide +kernel
set_option maxRecDepth 20000 in
theorem ggX1_countDistricts_X2_countFirsts : GoodIn wsX1_countDistricts wsX2_countFirsts := goodIn_s [10, 11, 12, 13, 14, 15, 16, 17, 18, 19, 20, 21, 22, 23, 65, 66, 67, 68, 69, 70, 71, 54, 55, 56, 57, 58, 59, 60, 61, 62, 63, 64, 72, 73, 74, 75, 76, 77, 78] (by rfl) (by decide +kernel)
set_option maxRecDepth 20000 in
theorem gX1_countDistricts_X2_countFirsts : GoodIn wsX1_countDistricts (wsV RX1 74 RX2 yX2_countFirsts wsX2_countFirsts) := goodIn_app (goodIn_of _ (by decide +kernel)) ggX1_countDistricts_X2_countFirsts
set_option maxRecDepth 20000 in
theorem ggX1_countDistricts_X2_mostFirsts : GoodIn wsX1_countDistricts wsX2_mostFirsts := goodIn_s [27, 28, 29, 11, 54, 55, 56, 57, 58, 59, 60, 61, 62, 63, 64, 65, 66, 67, 68, 69, 70, 71] (by rfl) (by decide +kernel)
set_option maxRecDepth 20000 in
theorem gX1_countDistricts_X2_mostFirsts : GoodIn wsX1_countDistricts (wsV RX1 80 RX2 yX2_mostFirsts wsX2_mostFirsts) := goodIn_app (goodIn_of _ (by decide +kernel)) ggX1_countDistricts_X2_mostFirsts
set_option maxRecDepth 20000 in
theorem ggX1_countDistricts_X1_countVotesHere : GoodIn wsX1_countDistricts wsX1_countVotesHere := goodIn_s [34, 35, 36, 5, 4, 45, 46, 47, 48, 49, 50, 51, 52, 53, 54, 55, 56, 57, 58, 59, 60, 61, 62, 63, 64, 65, 66, 67, 68, 69, 70, 71] (by rfl) (by decide +kernel)
set_option maxRecDepth 20000 in
theorem gX1_countDistricts_X1_countVotesHere : GoodIn wsX1_countDistricts (wsV RX1 87 RX1 yX1_countVotesHere wsX1_countVotesHere) := goodIn_app (goodIn_of _ (by decide +kernel)) ggX1_countDistricts_X1_countVotesHere
set_option maxRecDepth 20000 in
theorem ggX1_countDistricts_X1_addWasted : GoodIn wsX1_countDistricts wsX1_addWasted := goodIn_s [40, 35, 41, 42, 43, 44, 2, 45, 46, 47, 48, 49, 50, 51, 52, 53] (by rfl) (by decide +kernel)
set_option maxRecDepth 20000 in
theorem gX1_countDistricts_X1_addWasted : GoodIn wsX1_countDistricts (wsV RX1 91 RX1 yX1_addWasted wsX1_addWasted) := goodIn_app (goodIn_of _ (by decide +kernel)) ggX1_countDistricts_X1_addWasted
theorem dX1_countDistricts_0 : decode cX1_countDistricts 0 = .ok (.iconst 0, 1) := by decide +kernel
theorem dX1_countDistricts_1 : decode cX1_countDistricts 1 = .ok (.istore_n 3, 1) := by decide +kernel
theorem dX1_countDistricts_2 : decode cX1_countDistricts 2 = .ok (.iload_n 3, 1) := by decide +kernel
theorem dX1_countDistricts_3 : decode cX1_countDistricts 3 = .ok (.iconst 4, 1) := by decide +kernel
theorem dX1_countDistricts_4 : decode cX1_countDistricts 4 = .ok (.if_icmp .ge 23, 3) := by decide +kernel
theorem dX1_countDistricts_7 : decode cX1_countDistricts 7 = .ok (.aload_n 0, 1) := by decide +kernel
theorem dX1_countDistricts_8 : decode cX1_countDistricts 8 = .ok (.getfield 22, 3) := by decide +kernel
theorem dX1_countDistricts_11 : decode cX1_countDistricts 11 = .ok (.iload_n 3, 1) := by decide +kernel
theorem dX1_countDistricts_12 : decode cX1_countDistricts 12 = .ok (.iconst 0, 1) := by decide +kernel
theorem dX1_countDistricts_13 : decode cX1_countDistricts 13 = .ok (.iastore, 1) := by decide +kernel
theorem dX1_countDistricts_14 : decode cX1_countDistricts 14 = .ok (.aload_n 0, 1) := by decide +kernel
theorem dX1_countDistricts_15 : decode cX1_countDistricts 15 = .ok (.getfield 25, 3) := by decide +kernel
theorem dX1_countDistricts_18 : decode cX1_countDistricts 18 = .ok (.iload_n 3, 1) := by decide +kernel
theorem dX1_countDistricts_19 : decode cX1_countDistricts 19 = .ok (.iconst 0, 1) := by decide +kernel
theorem dX1_countDistricts_20 : decode cX1_countDistricts 20 = .ok (.iastore, 1) := by decide +kernel
theorem dX1_countDistricts_21 : decode cX1_countDistricts 21 = .ok (.iinc 3 1, 3) := by decide +kernel
theorem dX1_countDistricts_24 : decode cX1_countDistricts 24 = .ok (.goto (-22), 3) := by decide +kernel
theorem dX1_countDistricts_27 : decode cX1_countDistricts 27 = .ok (.iconst 0, 1) := by decide +kernel
theorem dX1_countDistricts_28 : decode cX1_countDistricts 28 = .ok (.istore_n 3, 1) := by decide +kernel
theorem dX1_countDistricts_29 : decode cX1_countDistricts 29 = .ok (.iload_n 3, 1) := by decide +kernel
theorem dX1_countDistricts_30 : decode cX1_countDistricts 30 = .ok (.aload_n 1, 1) := by decide +kernel
theorem dX1_countDistricts_31 : decode cX1_countDistricts 31 = .ok (.getfield 71, 3) := by decide +kernel
theorem dX1_countDistricts_34 : decode cX1_countDistricts 34 = .ok (.if_icmp .ge 70, 3) := by decide +kernel
theorem dX1_countDistricts_37 : decode cX1_countDistricts 37 = .ok (.aload_n 2, 1) := by decide +kernel
theorem dX1_countDistricts_38 : decode cX1_countDistricts 38 = .ok (.aload_n 1, 1) := by decide +kernel
theorem dX1_countDistricts_39 : decode cX1_countDistricts 39 = .ok (.iload_n 3, 1) := by decide +kernel
theorem dX1_countDistricts_40 : decode cX1_countDistricts 40 = .ok (.invokevirtual 74, 3) := by decide +kernel
theorem dX1_countDistricts_43 : decode cX1_countDistricts 43 = .ok (.aload_n 2, 1) := by decide +kernel
theorem dX1_countDistricts_44 : decode cX1_countDistricts 44 = .ok (.aload_n 1, 1) := by decide +kernel
theorem dX1_countDistricts_45 : decode cX1_countDistricts 45 = .ok (.invokevirtual 80, 3) := by decide +kernel
theorem dX1_countDistricts_48 : decode cX1_countDistricts 48 = .ok (.istore 4, 2) := by decide +kernel
theorem dX1_countDistricts_50 : decode cX1_countDistricts 50 = .ok (.iload 4, 2) := by decide +kernel
theorem dX1_countDistricts_52 : decode cX1_countDistricts 52 = .ok (.iconst (-1), 1) := by decide +kernel
theorem dX1_countDistricts_53 : decode cX1_countDistricts 53 = .ok (.if_icmp .eq 45, 3) := by decide +kernel
theorem dX1_countDistricts_56 : decode cX1_countDistricts 56 = .ok (.aload_n 2, 1) := by decide +kernel
theorem dX1_countDistricts_57 : decode cX1_countDistricts 57 = .ok (.getfield 84, 3) := by decide +kernel
theorem dX1_countDistricts_60 : decode cX1_countDistricts 60 = .ok (.iload 4, 2) := by decide +kernel
theorem dX1_countDistricts_62 : decode cX1_countDistricts 62 = .ok (.iaload, 1) := by decide +kernel
theorem dX1_countDistricts_63 : decode cX1_countDistricts 63 = .ok (.ifCond .le 35, 3) := by decide +kernel
theorem dX1_countDistricts_66 : decode cX1_countDistricts 66 = .ok (.aload_n 1, 1) := by decide +kernel
theorem dX1_countDistricts_67 : decode cX1_countDistricts 67 = .ok (.getfield 59, 3) := by decide +kernel
theorem dX1_countDistricts_70 : decode cX1_countDistricts 70 = .ok (.iload 4, 2) := by decide +kernel
theorem dX1_countDistricts_72 : decode cX1_countDistricts 72 = .ok (.iaload, 1) := by decide +kernel
theorem dX1_countDistricts_73 : decode cX1_countDistricts 73 = .ok (.istore 5, 2) := by decide +kernel
theorem dX1_countDistricts_75 : decode cX1_countDistricts 75 = .ok (.aload_n 0, 1) := by decide +kernel
theorem dX1_countDistricts_76 : decode cX1_countDistricts 76 = .ok (.getfield 22, 3) := by decide +kernel
theorem dX1_countDistricts_79 : decode cX1_countDistricts 79 = .ok (.iload 5, 2) := by decide +kernel
theorem dX1_countDistricts_81 : decode cX1_countDistricts 81 = .ok (.dup2, 1) := by decide +kernel
theorem dX1_countDistricts_82 : decode cX1_countDistricts 82 = .ok (.iaload, 1) := by decide +kernel
theorem dX1_countDistricts_83 : decode cX1_countDistricts 83 = .ok (.iconst 1, 1) := by decide +kernel
theorem dX1_countDistricts_84 : decode cX1_countDistricts 84 = .ok (.iadd, 1) := by decide +kernel
theorem dX1_countDistricts_85 : decode cX1_countDistricts 85 = .ok (.iastore, 1) := by decide +kernel
theorem dX1_countDistricts_86 : decode cX1_countDistricts 86 = .ok (.aload_n 0, 1) := by decide +kernel
theorem dX1_countDistricts_87 : decode cX1_countDistricts 87 = .ok (.iload 5, 2) := by decide +kernel
theorem dX1_countDistricts_89 : decode cX1_countDistricts 89 = .ok (.aload_n 0, 1) := by decide +kernel
theorem dX1_countDistricts_90 : decode cX1_countDistricts 90 = .ok (.aload_n 1, 1) := by decide +kernel
theorem dX1_countDistricts_91 : decode cX1_countDistricts 91 = .ok (.aload_n 2, 1) := by decide +kernel
theorem dX1_countDistricts_92 : decode cX1_countDistricts 92 = .ok (.invokevirtual 87, 3) := by decide +kernel
theorem dX1_countDistricts_95 : decode cX1_countDistricts 95 = .ok (.invokevirtual 91, 3) := by decide +kernel
theorem dX1_countDistricts_98 : decode cX1_countDistricts 98 = .ok (.iinc 3 1, 3) := by decide +kernel
theorem dX1_countDistricts_101 : decode cX1_countDistricts 101 = .ok (.goto (-72), 3) := by decide +kernel
theorem dX1_countDistricts_104 : decode cX1_countDistricts 104 = .ok (.return_, 1) := by decide +kernel
theorem dX1_countVotesHere_0 : decode cX1_countVotesHere 0 = .ok (.iconst 0, 1) := by decide +kernel
theorem dX1_countVotesHere_1 : decode cX1_countVotesHere 1 = .ok (.istore_n 3, 1) := by decide +kernel
theorem dX1_countVotesHere_2 : decode cX1_countVotesHere 2 = .ok (.iconst 0, 1) := by decide +kernel
theorem dX1_countVotesHere_3 : decode cX1_countVotesHere 3 = .ok (.istore 4, 2) := by decide +kernel
theorem dX1_countVotesHere_5 : decode cX1_countVotesHere 5 = .ok (.iload 4, 2) := by decide +kernel
theorem dX1_countVotesHere_7 : decode cX1_countVotesHere 7 = .ok (.iconst 4, 1) := by decide +kernel
theorem dX1_countVotesHere_8 : decode cX1_countVotesHere 8 = .ok (.if_icmp .ge 17, 3) := by decide +kernel
theorem dX1_countVotesHere_11 : decode cX1_countVotesHere 11 = .ok (.aload_n 0, 1) := by decide +kernel
theorem dX1_countVotesHere_12 : decode cX1_countVotesHere 12 = .ok (.getfield 31, 3) := by decide +kernel
theorem dX1_countVotesHere_15 : decode cX1_countVotesHere 15 = .ok (.iload 4, 2) := by decide +kernel
theorem dX1_countVotesHere_17 : decode cX1_countVotesHere 17 = .ok (.iconst 0, 1) := by decide +kernel
theorem dX1_countVotesHere_18 : decode cX1_countVotesHere 18 = .ok (.iastore, 1) := by decide +kernel
theorem dX1_countVotesHere_19 : decode cX1_countVotesHere 19 = .ok (.iinc 4 1, 3) := by decide +kernel
theorem dX1_countVotesHere_22 : decode cX1_countVotesHere 22 = .ok (.goto (-17), 3) := by decide +kernel
theorem dX1_countVotesHere_25 : decode cX1_countVotesHere 25 = .ok (.iconst 0, 1) := by decide +kernel
theorem dX1_countVotesHere_26 : decode cX1_countVotesHere 26 = .ok (.istore 4, 2) := by decide +kernel
theorem dX1_countVotesHere_28 : decode cX1_countVotesHere 28 = .ok (.iload 4, 2) := by decide +kernel
theorem dX1_countVotesHere_30 : decode cX1_countVotesHere 30 = .ok (.aload_n 1, 1) := by decide +kernel
theorem dX1_countVotesHere_31 : decode cX1_countVotesHere 31 = .ok (.getfield 95, 3) := by decide +kernel
theorem dX1_countVotesHere_34 : decode cX1_countVotesHere 34 = .ok (.if_icmp .ge 41, 3) := by decide +kernel
theorem dX1_countVotesHere_37 : decode cX1_countVotesHere 37 = .ok (.aload_n 0, 1) := by decide +kernel
theorem dX1_countVotesHere_38 : decode cX1_countVotesHere 38 = .ok (.getfield 31, 3) := by decide +kernel
theorem dX1_countVotesHere_41 : decode cX1_countVotesHere 41 = .ok (.aload_n 1, 1) := by decide +kernel
theorem dX1_countVotesHere_42 : decode cX1_countVotesHere 42 = .ok (.getfield 59, 3) := by decide +kernel
theorem dX1_countVotesHere_45 : decode cX1_countVotesHere 45 = .ok (.iload 4, 2) := by decide +kernel
theorem dX1_countVotesHere_47 : decode cX1_countVotesHere 47 = .ok (.iaload, 1) := by decide +kernel
theorem dX1_countVotesHere_48 : decode cX1_countVotesHere 48 = .ok (.dup2, 1) := by decide +kernel
theorem dX1_countVotesHere_49 : decode cX1_countVotesHere 49 = .ok (.iaload, 1) := by decide +kernel
theorem dX1_countVotesHere_50 : decode cX1_countVotesHere 50 = .ok (.aload_n 2, 1) := by decide +kernel
theorem dX1_countVotesHere_51 : decode cX1_countVotesHere 51 = .ok (.getfield 84, 3) := by decide +kernel
theorem dX1_countVotesHere_54 : decode cX1_countVotesHere 54 = .ok (.iload 4, 2) := by decide +kernel
theorem dX1_countVotesHere_56 : decode cX1_countVotesHere 56 = .ok (.iaload, 1) := by decide +kernel
theorem dX1_countVotesHere_57 : decode cX1_countVotesHere 57 = .ok (.iadd, 1) := by decide +kernel
theorem dX1_countVotesHere_58 : decode cX1_countVotesHere 58 = .ok (.iastore, 1) := by decide +kernel
theorem dX1_countVotesHere_59 : decode cX1_countVotesHere 59 = .ok (.iload_n 3, 1) := by decide +kernel
theorem dX1_countVotesHere_60 : decode cX1_countVotesHere 60 = .ok (.aload_n 2, 1) := by decide +kernel
theorem dX1_countVotesHere_61 : decode cX1_countVotesHere 61 = .ok (.getfield 84, 3) := by decide +kernel
theorem dX1_countVotesHere_64 : decode cX1_countVotesHere 64 = .ok (.iload 4, 2) := by decide +kernel
theorem dX1_countVotesHere_66 : decode cX1_countVotesHere 66 = .ok (.iaload, 1) := by decide +kernel
theorem dX1_countVotesHere_67 : decode cX1_countVotesHere 67 = .ok (.iadd, 1) := by decide +kernel
theorem dX1_countVotesHere_68 : decode cX1_countVotesHere 68 = .ok (.istore_n 3, 1) := by decide +kernel
theorem dX1_countVotesHere_69 : decode cX1_countVotesHere 69 = .ok (.iinc 4 1, 3) := by decide +kernel
theorem dX1_countVotesHere_72 : decode cX1_countVotesHere 72 = .ok (.goto (-44), 3) := by decide +kernel
theorem dX1_countVotesHere_75 : decode cX1_countVotesHere 75 = .ok (.iload_n 3, 1) := by decide +kernel
theorem dX1_countVotesHere_76 : decode cX1_countVotesHere 76 = .ok (.ireturn, 1) := by decide +kernel
theorem dX1_addWasted_0 : decode cX1_addWasted 0 = .ok (.iload_n 2, 1) := by decide +kernel
theorem dX1_addWasted_1 : decode cX1_addWasted 1 = .ok (.iconst 2, 1) := by decide +kernel
theorem dX1_addWasted_2 : decode cX1_addWasted 2 = .ok (.idiv, 1) := by decide +kernel
theorem dX1_addWasted_3 : decode cX1_addWasted 3 = .ok (.iconst 1, 1) := by decide +kernel
theorem dX1_addWasted_4 : decode cX1_addWasted 4 = .ok (.iadd, 1) := by decide +kernel
theorem dX1_addWasted_5 : decode cX1_addWasted 5 = .ok (.istore_n 3, 1) := by decide +kernel
theorem dX1_addWasted_6 : decode cX1_addWasted 6 = .ok (.iconst 0, 1) := by decide +kernel
theorem dX1_addWasted_7 : decode cX1_addWasted 7 = .ok (.istore 4, 2) := by decide +kernel
theorem dX1_addWasted_9 : decode cX1_addWasted 9 = .ok (.iload 4, 2) := by decide +kernel
theorem dX1_addWasted_11 : decode cX1_addWasted 11 = .ok (.iconst 4, 1) := by decide +kernel
theorem dX1_addWasted_12 : decode cX1_addWasted 12 = .ok (.if_icmp .ge 52, 3) := by decide +kernel
theorem dX1_addWasted_15 : decode cX1_addWasted 15 = .ok (.iload 4, 2) := by decide +kernel
theorem dX1_addWasted_17 : decode cX1_addWasted 17 = .ok (.iload_n 1, 1) := by decide +kernel
theorem dX1_addWasted_18 : decode cX1_addWasted 18 = .ok (.if_icmp .ne 19, 3) := by decide +kernel
theorem dX1_addWasted_21 : decode cX1_addWasted 21 = .ok (.aload_n 0, 1) := by decide +kernel
theorem dX1_addWasted_22 : decode cX1_addWasted 22 = .ok (.getfield 31, 3) := by decide +kernel
theorem dX1_addWasted_25 : decode cX1_addWasted 25 = .ok (.iload 4, 2) := by decide +kernel
theorem dX1_addWasted_27 : decode cX1_addWasted 27 = .ok (.iaload, 1) := by decide +kernel
theorem dX1_addWasted_28 : decode cX1_addWasted 28 = .ok (.iload_n 3, 1) := by decide +kernel
theorem dX1_addWasted_29 : decode cX1_addWasted 29 = .ok (.isub, 1) := by decide +kernel
theorem dX1_addWasted_30 : decode cX1_addWasted 30 = .ok (.iconst 0, 1) := by decide +kernel
theorem dX1_addWasted_31 : decode cX1_addWasted 31 = .ok (.invokestatic 98, 3) := by decide +kernel
theorem dX1_addWasted_34 : decode cX1_addWasted 34 = .ok (.goto 10, 3) := by decide +kernel
theorem dX1_addWasted_37 : decode cX1_addWasted 37 = .ok (.aload_n 0, 1) := by decide +kernel
theorem dX1_addWasted_38 : decode cX1_addWasted 38 = .ok (.getfield 31, 3) := by decide +kernel
theorem dX1_addWasted_41 : decode cX1_addWasted 41 = .ok (.iload 4, 2) := by decide +kernel
theorem dX1_addWasted_43 : decode cX1_addWasted 43 = .ok (.iaload, 1) := by decide +kernel
theorem dX1_addWasted_44 : decode cX1_addWasted 44 = .ok (.istore 5, 2) := by decide +kernel
theorem dX1_addWasted_46 : decode cX1_addWasted 46 = .ok (.aload_n 0, 1) := by decide +kernel
theorem dX1_addWasted_47 : decode cX1_addWasted 47 = .ok (.getfield 25, 3) := by decide +kernel
theorem dX1_addWasted_50 : decode cX1_addWasted 50 = .ok (.iload 4, 2) := by decide +kernel
theorem dX1_addWasted_52 : decode cX1_addWasted 52 = .ok (.dup2, 1) := by decide +kernel
theorem dX1_addWasted_53 : decode cX1_addWasted 53 = .ok (.iaload, 1) := by decide +kernel
theorem dX1_addWasted_54 : decode cX1_addWasted 54 = .ok (.iload 5, 2) := by decide +kernel
theorem dX1_addWasted_56 : decode cX1_addWasted 56 = .ok (.iadd, 1) := by decide +kernel
theorem dX1_addWasted_57 : decode cX1_addWasted 57 = .ok (.iastore, 1) := by decide +kernel
theorem dX1_addWasted_58 : decode cX1_addWasted 58 = .ok (.iinc 4 1, 3) := by decide +kernel
theorem dX1_addWasted_61 : decode cX1_addWasted 61 = .ok (.goto (-52), 3) := by decide +kernel
theorem dX1_addWasted_64 : decode cX1_addWasted 64 = .ok (.return_, 1) := by decide +kernel
theorem dX1_figure_0 : decode cX1_figure 0 = .ok (.iload_n 2, 1) := by decide +kernel
theorem dX1_figure_1 : decode cX1_figure 1 = .ok (.tableswitch 59 0 3 #[31, 38, 45, 52], 31) := by decide +kernel
theorem dX1_figure_32 : decode cX1_figure 32 = .ok (.aload_n 0, 1) := by decide +kernel
theorem dX1_figure_33 : decode cX1_figure 33 = .ok (.getfield 9, 3) := by decide +kernel
theorem dX1_figure_36 : decode cX1_figure 36 = .ok (.iload_n 1, 1) := by decide +kernel
theorem dX1_figure_37 : decode cX1_figure 37 = .ok (.iaload, 1) := by decide +kernel
theorem dX1_figure_38 : decode cX1_figure 38 = .ok (.ireturn, 1) := by decide +kernel
theorem dX1_figure_39 : decode cX1_figure 39 = .ok (.aload_n 0, 1) := by decide +kernel
theorem dX1_figure_40 : decode cX1_figure 40 = .ok (.getfield 15, 3) := by decide +kernel
theorem dX1_figure_43 : decode cX1_figure 43 = .ok (.iload_n 1, 1) := by decide +kernel
theorem dX1_figure_44 : decode cX1_figure 44 = .ok (.iaload, 1) := by decide +kernel
theorem dX1_figure_45 : decode cX1_figure 45 = .ok (.ireturn, 1) := by decide +kernel
theorem dX1_figure_46 : decode cX1_figure 46 = .ok (.aload_n 0, 1) := by decide +kernel
theorem dX1_figure_47 : decode cX1_figure 47 = .ok (.getfield 22, 3) := by decide +kernel
theorem dX1_figure_50 : decode cX1_figure 50 = .ok (.iload_n 1, 1) := by decide +kernel
theorem dX1_figure_51 : decode cX1_figure 51 = .ok (.iaload, 1) := by decide +kernel
theorem dX1_figure_52 : decode cX1_figure 52 = .ok (.ireturn, 1) := by decide +kernel
theorem dX1_figure_53 : decode cX1_figure 53 = .ok (.aload_n 0, 1) := by decide +kernel
theorem dX1_figure_54 : decode cX1_figure 54 = .ok (.getfield 25, 3) := by decide +kernel
theorem dX1_figure_57 : decode cX1_figure 57 = .ok (.iload_n 1, 1) := by decide +kernel
theorem dX1_figure_58 : decode cX1_figure 58 = .ok (.iaload, 1) := by decide +kernel
theorem dX1_figure_59 : decode cX1_figure 59 = .ok (.ireturn, 1) := by decide +kernel
theorem dX1_figure_60 : decode cX1_figure 60 = .ok (.aload_n 0, 1) := by decide +kernel
theorem dX1_figure_61 : decode cX1_figure 61 = .ok (.getfield 18, 3) := by decide +kernel
theorem dX1_figure_64 : decode cX1_figure 64 = .ok (.iload_n 1, 1) := by decide +kernel
theorem dX1_figure_65 : decode cX1_figure 65 = .ok (.baload, 1) := by decide +kernel
theorem dX1_figure_66 : decode cX1_figure 66 = .ok (.ifCond .eq 7, 3) := by decide +kernel
theorem dX1_figure_69 : decode cX1_figure 69 = .ok (.iconst 1, 1) := by decide +kernel
theorem dX1_figure_70 : decode cX1_figure 70 = .ok (.goto 4, 3) := by decide +kernel
theorem dX1_figure_73 : decode cX1_figure 73 = .ok (.iconst 0, 1) := by decide +kernel
theorem dX1_figure_74 : decode cX1_figure 74 = .ok (.ireturn, 1) := by decide +kernel
set_option maxRecDepth 20000 in
theorem ggX1_shareSeats_X1_shareByRemainders : GoodIn wsX1_shareSeats wsX1_shareByRemainders := goodIn_s [6, 7, 1, 8, 9, 10, 11, 5, 12, 13, 14, 15, 16, 17, 22, 23, 24, 25, 26, 27, 28, 29, 30] (by rfl) (by decide +kernel)
set_option maxRecDepth 20000 in
theorem gX1_shareSeats_X1_shareByRemainders : GoodIn wsX1_shareSeats (wsV RX1 104 RX1 yX1_shareByRemainders wsX1_shareByRemainders) := goodIn_app (goodIn_of _ (by decide +kernel)) ggX1_shareSeats_X1_shareByRemainders
set_option maxRecDepth 20000 in
theorem ggX1_shareSeats_X1_shareByDivisors : GoodIn wsX1_shareSeats wsX1_shareByDivisors := goodIn_s [21, 7, 1, 9, 10, 11, 5, 12, 13, 22, 23, 24, 25, 26, 27, 28, 29, 30] (by rfl) (by decide +kernel)
set_option maxRecDepth 20000 in
theorem gX1_shareSeats_X1_shareByDivisors : GoodIn wsX1_shareSeats (wsV RX1 108 RX1 yX1_shareByDivisors wsX1_shareByDivisors) := goodIn_app (goodIn_of _ (by decide +kernel)) ggX1_shareSeats_X1_shareByDivisors
theorem dX1_shareSeats_0 : decode cX1_shareSeats 0 = .ok (.iconst 0, 1) := by decide +kernel
theorem dX1_shareSeats_1 : decode cX1_shareSeats 1 = .ok (.istore_n 3, 1) := by decide +kernel
theorem dX1_shareSeats_2 : decode cX1_shareSeats 2 = .ok (.iload_n 3, 1) := by decide +kernel
theorem dX1_shareSeats_3 : decode cX1_shareSeats 3 = .ok (.iconst 4, 1) := by decide +kernel
theorem dX1_shareSeats_4 : decode cX1_shareSeats 4 = .ok (.if_icmp .ge 16, 3) := by decide +kernel
theorem dX1_shareSeats_7 : decode cX1_shareSeats 7 = .ok (.aload_n 0, 1) := by decide +kernel
theorem dX1_shareSeats_8 : decode cX1_shareSeats 8 = .ok (.getfield 28, 3) := by decide +kernel
theorem dX1_shareSeats_11 : decode cX1_shareSeats 11 = .ok (.iload_n 3, 1) := by decide +kernel
theorem dX1_shareSeats_12 : decode cX1_shareSeats 12 = .ok (.iconst 0, 1) := by decide +kernel
theorem dX1_shareSeats_13 : decode cX1_shareSeats 13 = .ok (.iastore, 1) := by decide +kernel
theorem dX1_shareSeats_14 : decode cX1_shareSeats 14 = .ok (.iinc 3 1, 3) := by decide +kernel
theorem dX1_shareSeats_17 : decode cX1_shareSeats 17 = .ok (.goto (-15), 3) := by decide +kernel
theorem dX1_shareSeats_20 : decode cX1_shareSeats 20 = .ok (.iload_n 2, 1) := by decide +kernel
theorem dX1_shareSeats_21 : decode cX1_shareSeats 21 = .ok (.iconst 2, 1) := by decide +kernel
theorem dX1_shareSeats_22 : decode cX1_shareSeats 22 = .ok (.if_icmp .ne 11, 3) := by decide +kernel
theorem dX1_shareSeats_25 : decode cX1_shareSeats 25 = .ok (.aload_n 0, 1) := by decide +kernel
theorem dX1_shareSeats_26 : decode cX1_shareSeats 26 = .ok (.iload_n 1, 1) := by decide +kernel
theorem dX1_shareSeats_27 : decode cX1_shareSeats 27 = .ok (.invokevirtual 104, 3) := by decide +kernel
theorem dX1_shareSeats_30 : decode cX1_shareSeats 30 = .ok (.goto 18, 3) := by decide +kernel
theorem dX1_shareSeats_33 : decode cX1_shareSeats 33 = .ok (.aload_n 0, 1) := by decide +kernel
theorem dX1_shareSeats_34 : decode cX1_shareSeats 34 = .ok (.iload_n 1, 1) := by decide +kernel
theorem dX1_shareSeats_35 : decode cX1_shareSeats 35 = .ok (.iload_n 2, 1) := by decide +kernel
theorem dX1_shareSeats_36 : decode cX1_shareSeats 36 = .ok (.iconst 1, 1) := by decide +kernel
theorem dX1_shareSeats_37 : decode cX1_shareSeats 37 = .ok (.if_icmp .ne 7, 3) := by decide +kernel
theorem dX1_shareSeats_40 : decode cX1_shareSeats 40 = .ok (.iconst 2, 1) := by decide +kernel
theorem dX1_shareSeats_41 : decode cX1_shareSeats 41 = .ok (.goto 4, 3) := by decide +kernel
theorem dX1_shareSeats_44 : decode cX1_shareSeats 44 = .ok (.iconst 1, 1) := by decide +kernel
theorem dX1_shareSeats_45 : decode cX1_shareSeats 45 = .ok (.invokevirtual 108, 3) := by decide +kernel
theorem dX1_shareSeats_48 : decode cX1_shareSeats 48 = .ok (.return_, 1) := by decide +kernel
theorem dX1_takesPart_0 : decode cX1_takesPart 0 = .ok (.aload_n 0, 1) := by decide +kernel
theorem dX1_takesPart_1 : decode cX1_takesPart 1 = .ok (.getfield 9, 3) := by decide +kernel
theorem dX1_takesPart_4 : decode cX1_takesPart 4 = .ok (.iload_n 1, 1) := by decide +kernel
theorem dX1_takesPart_5 : decode cX1_takesPart 5 = .ok (.iaload, 1) := by decide +kernel
theorem dX1_takesPart_6 : decode cX1_takesPart 6 = .ok (.ifCond .le 16, 3) := by decide +kernel
theorem dX1_takesPart_9 : decode cX1_takesPart 9 = .ok (.aload_n 0, 1) := by decide +kernel
theorem dX1_takesPart_10 : decode cX1_takesPart 10 = .ok (.getfield 18, 3) := by decide +kernel
theorem dX1_takesPart_13 : decode cX1_takesPart 13 = .ok (.iload_n 1, 1) := by decide +kernel
theorem dX1_takesPart_14 : decode cX1_takesPart 14 = .ok (.baload, 1) := by decide +kernel
theorem dX1_takesPart_15 : decode cX1_takesPart 15 = .ok (.ifCond .ne 7, 3) := by decide +kernel
theorem dX1_takesPart_18 : decode cX1_takesPart 18 = .ok (.iconst 1, 1) := by decide +kernel
theorem dX1_takesPart_19 : decode cX1_takesPart 19 = .ok (.goto 4, 3) := by decide +kernel
theorem dX1_takesPart_22 : decode cX1_takesPart 22 = .ok (.iconst 0, 1) := by decide +kernel
theorem dX1_takesPart_23 : decode cX1_takesPart 23 = .ok (.ireturn, 1) := by decide +kernel
set_option maxRecDepth 20000 in
theorem ggX1_shareByDivisors_X1_takesPart : GoodIn wsX1_shareByDivisors wsX1_takesPart := goodIn_s [7, 1, 8, 9, 10, 11, 12, 13, 14, 15, 16, 17] (by rfl) (by decide +kernel)
set_option maxRecDepth 20000 in
theorem gX1_shareByDivisors_X1_takesPart : GoodIn wsX1_shareByDivisors (wsV RX1 111 RX1 yX1_takesPart wsX1_takesPart) := goodIn_app (goodIn_of _ (by decide +kernel)) ggX1_shareByDivisors_X1_takesPart
theorem dX1_shareByDivisors_0 : decode cX1_shareByDivisors 0 = .ok (.iconst 0, 1) := by decide +kernel
theorem dX1_shareByDivisors_1 : decode cX1_shareByDivisors 1 = .ok (.istore_n 3, 1) := by decide +kernel
theorem dX1_shareByDivisors_2 : decode cX1_shareByDivisors 2 = .ok (.iload_n 3, 1) := by decide +kernel
theorem dX1_shareByDivisors_3 : decode cX1_shareByDivisors 3 = .ok (.iload_n 1, 1) := by decide +kernel
theorem dX1_shareByDivisors_4 : decode cX1_shareByDivisors 4 = .ok (.if_icmp .ge 127, 3) := by decide +kernel
theorem dX1_shareByDivisors_7 : decode cX1_shareByDivisors 7 = .ok (.iconst (-1), 1) := by decide +kernel
theorem dX1_shareByDivisors_8 : decode cX1_shareByDivisors 8 = .ok (.istore 4, 2) := by decide +kernel
theorem dX1_shareByDivisors_10 : decode cX1_shareByDivisors 10 = .ok (.dconst 0, 1) := by decide +kernel
theorem dX1_shareByDivisors_11 : decode cX1_shareByDivisors 11 = .ok (.dstore 5, 2) := by decide +kernel
theorem dX1_shareByDivisors_13 : decode cX1_shareByDivisors 13 = .ok (.iconst 0, 1) := by decide +kernel
theorem dX1_shareByDivisors_14 : decode cX1_shareByDivisors 14 = .ok (.istore 7, 2) := by decide +kernel
theorem dX1_shareByDivisors_16 : decode cX1_shareByDivisors 16 = .ok (.iload 7, 2) := by decide +kernel
theorem dX1_shareByDivisors_18 : decode cX1_shareByDivisors 18 = .ok (.iconst 4, 1) := by decide +kernel
theorem dX1_shareByDivisors_19 : decode cX1_shareByDivisors 19 = .ok (.if_icmp .ge 88, 3) := by decide +kernel
theorem dX1_shareByDivisors_22 : decode cX1_shareByDivisors 22 = .ok (.aload_n 0, 1) := by decide +kernel
theorem dX1_shareByDivisors_23 : decode cX1_shareByDivisors 23 = .ok (.getfield 9, 3) := by decide +kernel
theorem dX1_shareByDivisors_26 : decode cX1_shareByDivisors 26 = .ok (.iload 7, 2) := by decide +kernel
theorem dX1_shareByDivisors_28 : decode cX1_shareByDivisors 28 = .ok (.iaload, 1) := by decide +kernel
theorem dX1_shareByDivisors_29 : decode cX1_shareByDivisors 29 = .ok (.i2d, 1) := by decide +kernel
theorem dX1_shareByDivisors_30 : decode cX1_shareByDivisors 30 = .ok (.iconst 1, 1) := by decide +kernel
theorem dX1_shareByDivisors_31 : decode cX1_shareByDivisors 31 = .ok (.iload_n 2, 1) := by decide +kernel
theorem dX1_shareByDivisors_32 : decode cX1_shareByDivisors 32 = .ok (.aload_n 0, 1) := by decide +kernel
theorem dX1_shareByDivisors_33 : decode cX1_shareByDivisors 33 = .ok (.getfield 28, 3) := by decide +kernel
theorem dX1_shareByDivisors_36 : decode cX1_shareByDivisors 36 = .ok (.iload 7, 2) := by decide +kernel
theorem dX1_shareByDivisors_38 : decode cX1_shareByDivisors 38 = .ok (.iaload, 1) := by decide +kernel
theorem dX1_shareByDivisors_39 : decode cX1_shareByDivisors 39 = .ok (.imul, 1) := by decide +kernel
theorem dX1_shareByDivisors_40 : decode cX1_shareByDivisors 40 = .ok (.iadd, 1) := by decide +kernel
theorem dX1_shareByDivisors_41 : decode cX1_shareByDivisors 41 = .ok (.i2d, 1) := by decide +kernel
theorem dX1_shareByDivisors_42 : decode cX1_shareByDivisors 42 = .ok (.ddiv, 1) := by decide +kernel
theorem dX1_shareByDivisors_43 : decode cX1_shareByDivisors 43 = .ok (.dstore 8, 2) := by decide +kernel
theorem dX1_shareByDivisors_45 : decode cX1_shareByDivisors 45 = .ok (.aload_n 0, 1) := by decide +kernel
theorem dX1_shareByDivisors_46 : decode cX1_shareByDivisors 46 = .ok (.iload 7, 2) := by decide +kernel
theorem dX1_shareByDivisors_48 : decode cX1_shareByDivisors 48 = .ok (.invokevirtual 111, 3) := by decide +kernel
theorem dX1_shareByDivisors_51 : decode cX1_shareByDivisors 51 = .ok (.ifCond .eq 50, 3) := by decide +kernel
theorem dX1_shareByDivisors_54 : decode cX1_shareByDivisors 54 = .ok (.iload 4, 2) := by decide +kernel
theorem dX1_shareByDivisors_56 : decode cX1_shareByDivisors 56 = .ok (.iconst (-1), 1) := by decide +kernel
theorem dX1_shareByDivisors_57 : decode cX1_shareByDivisors 57 = .ok (.if_icmp .eq 36, 3) := by decide +kernel
theorem dX1_shareByDivisors_60 : decode cX1_shareByDivisors 60 = .ok (.dload 8, 2) := by decide +kernel
theorem dX1_shareByDivisors_62 : decode cX1_shareByDivisors 62 = .ok (.dload 5, 2) := by decide +kernel
theorem dX1_shareByDivisors_64 : decode cX1_shareByDivisors 64 = .ok (.dcmp .l, 1) := by decide +kernel
theorem dX1_shareByDivisors_65 : decode cX1_shareByDivisors 65 = .ok (.ifCond .gt 28, 3) := by decide +kernel
theorem dX1_shareByDivisors_68 : decode cX1_shareByDivisors 68 = .ok (.dload 8, 2) := by decide +kernel
theorem dX1_shareByDivisors_70 : decode cX1_shareByDivisors 70 = .ok (.dload 5, 2) := by decide +kernel
theorem dX1_shareByDivisors_72 : decode cX1_shareByDivisors 72 = .ok (.dcmp .l, 1) := by decide +kernel
theorem dX1_shareByDivisors_73 : decode cX1_shareByDivisors 73 = .ok (.ifCond .ne 28, 3) := by decide +kernel
theorem dX1_shareByDivisors_76 : decode cX1_shareByDivisors 76 = .ok (.aload_n 0, 1) := by decide +kernel
theorem dX1_shareByDivisors_77 : decode cX1_shareByDivisors 77 = .ok (.getfield 9, 3) := by decide +kernel
theorem dX1_shareByDivisors_80 : decode cX1_shareByDivisors 80 = .ok (.iload 7, 2) := by decide +kernel
theorem dX1_shareByDivisors_82 : decode cX1_shareByDivisors 82 = .ok (.iaload, 1) := by decide +kernel
theorem dX1_shareByDivisors_83 : decode cX1_shareByDivisors 83 = .ok (.aload_n 0, 1) := by decide +kernel
theorem dX1_shareByDivisors_84 : decode cX1_shareByDivisors 84 = .ok (.getfield 9, 3) := by decide +kernel
theorem dX1_shareByDivisors_87 : decode cX1_shareByDivisors 87 = .ok (.iload 4, 2) := by decide +kernel
theorem dX1_shareByDivisors_89 : decode cX1_shareByDivisors 89 = .ok (.iaload, 1) := by decide +kernel
theorem dX1_shareByDivisors_90 : decode cX1_shareByDivisors 90 = .ok (.if_icmp .le 11, 3) := by decide +kernel
theorem dX1_shareByDivisors_93 : decode cX1_shareByDivisors 93 = .ok (.iload 7, 2) := by decide +kernel
theorem dX1_shareByDivisors_95 : decode cX1_shareByDivisors 95 = .ok (.istore 4, 2) := by decide +kernel
theorem dX1_shareByDivisors_97 : decode cX1_shareByDivisors 97 = .ok (.dload 8, 2) := by decide +kernel
theorem dX1_shareByDivisors_99 : decode cX1_shareByDivisors 99 = .ok (.dstore 5, 2) := by decide +kernel
theorem dX1_shareByDivisors_101 : decode cX1_shareByDivisors 101 = .ok (.iinc 7 1, 3) := by decide +kernel
theorem dX1_shareByDivisors_104 : decode cX1_shareByDivisors 104 = .ok (.goto (-88), 3) := by decide +kernel
theorem dX1_shareByDivisors_107 : decode cX1_shareByDivisors 107 = .ok (.iload 4, 2) := by decide +kernel
theorem dX1_shareByDivisors_109 : decode cX1_shareByDivisors 109 = .ok (.iconst (-1), 1) := by decide +kernel
theorem dX1_shareByDivisors_110 : decode cX1_shareByDivisors 110 = .ok (.if_icmp .ne 4, 3) := by decide +kernel
theorem dX1_shareByDivisors_113 : decode cX1_shareByDivisors 113 = .ok (.return_, 1) := by decide +kernel
theorem dX1_shareByDivisors_114 : decode cX1_shareByDivisors 114 = .ok (.aload_n 0, 1) := by decide +kernel
theorem dX1_shareByDivisors_115 : decode cX1_shareByDivisors 115 = .ok (.getfield 28, 3) := by decide +kernel
theorem dX1_shareByDivisors_118 : decode cX1_shareByDivisors 118 = .ok (.iload 4, 2) := by decide +kernel
theorem dX1_shareByDivisors_120 : decode cX1_shareByDivisors 120 = .ok (.dup2, 1) := by decide +kernel
theorem dX1_shareByDivisors_121 : decode cX1_shareByDivisors 121 = .ok (.iaload, 1) := by decide +kernel
theorem dX1_shareByDivisors_122 : decode cX1_shareByDivisors 122 = .ok (.iconst 1, 1) := by decide +kernel
theorem dX1_shareByDivisors_123 : decode cX1_shareByDivisors 123 = .ok (.iadd, 1) := by decide +kernel
theorem dX1_shareByDivisors_124 : decode cX1_shareByDivisors 124 = .ok (.iastore, 1) := by decide +kernel
theorem dX1_shareByDivisors_125 : decode cX1_shareByDivisors 125 = .ok (.iinc 3 1, 3) := by decide +kernel
theorem dX1_shareByDivisors_128 : decode cX1_shareByDivisors 128 = .ok (.goto (-126), 3) := by decide +kernel
theorem dX1_shareByDivisors_131 : decode cX1_shareByDivisors 131 = .ok (.return_, 1) := by decide +kernel
set_option maxRecDepth 20000 in
theorem ggX1_shareByRemainders_X1_takesPart : GoodIn wsX1_shareByRemainders wsX1_takesPart := goodIn_s [8, 1, 9, 14, 15, 16, 17, 18, 19, 20, 21, 22] (by rfl) (by decide +kernel)
set_option maxRecDepth 20000 in
theorem gX1_shareByRemainders_X1_takesPart : GoodIn wsX1_shareByRemainders (wsV RX1 111 RX1 yX1_takesPart wsX1_takesPart) := goodIn_app (goodIn_of _ (by decide +kernel)) ggX1_shareByRemainders_X1_takesPart
set_option maxRecDepth 20000 in
theorem ggX1_shareByRemainders_X1_giveToGreatestRemainder : GoodIn wsX1_shareByRemainders wsX1_giveToGreatestRemainder := goodIn_s [13, 3, 1, 2, 14, 15, 16, 17, 18, 19, 20, 21, 22] (by rfl) (by decide +kernel)
set_option maxRecDepth 20000 in
theorem gX1_shareByRemainders_X1_giveToGreatestRemainder : GoodIn wsX1_shareByRemainders (wsV RX1 115 RX1 yX1_giveToGreatestRemainder wsX1_giveToGreatestRemainder) := goodIn_app (goodIn_of _ (by decide +kernel)) ggX1_shareByRemainders_X1_giveToGreatestRemainder
theorem dX1_shareByRemainders_0 : decode cX1_shareByRemainders 0 = .ok (.iconst 0, 1) := by decide +kernel
theorem dX1_shareByRemainders_1 : decode cX1_shareByRemainders 1 = .ok (.istore_n 2, 1) := by decide +kernel
theorem dX1_shareByRemainders_2 : decode cX1_shareByRemainders 2 = .ok (.iconst 0, 1) := by decide +kernel
theorem dX1_shareByRemainders_3 : decode cX1_shareByRemainders 3 = .ok (.istore_n 3, 1) := by decide +kernel
theorem dX1_shareByRemainders_4 : decode cX1_shareByRemainders 4 = .ok (.iload_n 3, 1) := by decide +kernel
theorem dX1_shareByRemainders_5 : decode cX1_shareByRemainders 5 = .ok (.iconst 4, 1) := by decide +kernel
theorem dX1_shareByRemainders_6 : decode cX1_shareByRemainders 6 = .ok (.if_icmp .ge 30, 3) := by decide +kernel
theorem dX1_shareByRemainders_9 : decode cX1_shareByRemainders 9 = .ok (.iload_n 2, 1) := by decide +kernel
theorem dX1_shareByRemainders_10 : decode cX1_shareByRemainders 10 = .ok (.aload_n 0, 1) := by decide +kernel
theorem dX1_shareByRemainders_11 : decode cX1_shareByRemainders 11 = .ok (.iload_n 3, 1) := by decide +kernel
theorem dX1_shareByRemainders_12 : decode cX1_shareByRemainders 12 = .ok (.invokevirtual 111, 3) := by decide +kernel
theorem dX1_shareByRemainders_15 : decode cX1_shareByRemainders 15 = .ok (.ifCond .eq 12, 3) := by decide +kernel
theorem dX1_shareByRemainders_18 : decode cX1_shareByRemainders 18 = .ok (.aload_n 0, 1) := by decide +kernel
theorem dX1_shareByRemainders_19 : decode cX1_shareByRemainders 19 = .ok (.getfield 9, 3) := by decide +kernel
theorem dX1_shareByRemainders_22 : decode cX1_shareByRemainders 22 = .ok (.iload_n 3, 1) := by decide +kernel
theorem dX1_shareByRemainders_23 : decode cX1_shareByRemainders 23 = .ok (.iaload, 1) := by decide +kernel
theorem dX1_shareByRemainders_24 : decode cX1_shareByRemainders 24 = .ok (.goto 4, 3) := by decide +kernel
theorem dX1_shareByRemainders_27 : decode cX1_shareByRemainders 27 = .ok (.iconst 0, 1) := by decide +kernel
theorem dX1_shareByRemainders_28 : decode cX1_shareByRemainders 28 = .ok (.iadd, 1) := by decide +kernel
theorem dX1_shareByRemainders_29 : decode cX1_shareByRemainders 29 = .ok (.istore_n 2, 1) := by decide +kernel
theorem dX1_shareByRemainders_30 : decode cX1_shareByRemainders 30 = .ok (.iinc 3 1, 3) := by decide +kernel
theorem dX1_shareByRemainders_33 : decode cX1_shareByRemainders 33 = .ok (.goto (-29), 3) := by decide +kernel
theorem dX1_shareByRemainders_36 : decode cX1_shareByRemainders 36 = .ok (.iload_n 2, 1) := by decide +kernel
theorem dX1_shareByRemainders_37 : decode cX1_shareByRemainders 37 = .ok (.ifCond .ne 4, 3) := by decide +kernel
theorem dX1_shareByRemainders_40 : decode cX1_shareByRemainders 40 = .ok (.return_, 1) := by decide +kernel
theorem dX1_shareByRemainders_41 : decode cX1_shareByRemainders 41 = .ok (.iload_n 1, 1) := by decide +kernel
theorem dX1_shareByRemainders_42 : decode cX1_shareByRemainders 42 = .ok (.istore_n 3, 1) := by decide +kernel
theorem dX1_shareByRemainders_43 : decode cX1_shareByRemainders 43 = .ok (.iconst 0, 1) := by decide +kernel
theorem dX1_shareByRemainders_44 : decode cX1_shareByRemainders 44 = .ok (.istore 4, 2) := by decide +kernel
theorem dX1_shareByRemainders_46 : decode cX1_shareByRemainders 46 = .ok (.iload 4, 2) := by decide +kernel
theorem dX1_shareByRemainders_48 : decode cX1_shareByRemainders 48 = .ok (.iconst 4, 1) := by decide +kernel
theorem dX1_shareByRemainders_49 : decode cX1_shareByRemainders 49 = .ok (.if_icmp .ge 78, 3) := by decide +kernel
theorem dX1_shareByRemainders_52 : decode cX1_shareByRemainders 52 = .ok (.aload_n 0, 1) := by decide +kernel
theorem dX1_shareByRemainders_53 : decode cX1_shareByRemainders 53 = .ok (.iload 4, 2) := by decide +kernel
theorem dX1_shareByRemainders_55 : decode cX1_shareByRemainders 55 = .ok (.invokevirtual 111, 3) := by decide +kernel
theorem dX1_shareByRemainders_58 : decode cX1_shareByRemainders 58 = .ok (.ifCond .eq 15, 3) := by decide +kernel
theorem dX1_shareByRemainders_61 : decode cX1_shareByRemainders 61 = .ok (.iload_n 1, 1) := by decide +kernel
theorem dX1_shareByRemainders_62 : decode cX1_shareByRemainders 62 = .ok (.aload_n 0, 1) := by decide +kernel
theorem dX1_shareByRemainders_63 : decode cX1_shareByRemainders 63 = .ok (.getfield 9, 3) := by decide +kernel
theorem dX1_shareByRemainders_66 : decode cX1_shareByRemainders 66 = .ok (.iload 4, 2) := by decide +kernel
theorem dX1_shareByRemainders_68 : decode cX1_shareByRemainders 68 = .ok (.iaload, 1) := by decide +kernel
theorem dX1_shareByRemainders_69 : decode cX1_shareByRemainders 69 = .ok (.imul, 1) := by decide +kernel
theorem dX1_shareByRemainders_70 : decode cX1_shareByRemainders 70 = .ok (.goto 4, 3) := by decide +kernel
theorem dX1_shareByRemainders_73 : decode cX1_shareByRemainders 73 = .ok (.iconst 0, 1) := by decide +kernel
theorem dX1_shareByRemainders_74 : decode cX1_shareByRemainders 74 = .ok (.istore 5, 2) := by decide +kernel
theorem dX1_shareByRemainders_76 : decode cX1_shareByRemainders 76 = .ok (.aload_n 0, 1) := by decide +kernel
theorem dX1_shareByRemainders_77 : decode cX1_shareByRemainders 77 = .ok (.getfield 28, 3) := by decide +kernel
theorem dX1_shareByRemainders_80 : decode cX1_shareByRemainders 80 = .ok (.iload 4, 2) := by decide +kernel
theorem dX1_shareByRemainders_82 : decode cX1_shareByRemainders 82 = .ok (.iload 5, 2) := by decide +kernel
theorem dX1_shareByRemainders_84 : decode cX1_shareByRemainders 84 = .ok (.iload_n 2, 1) := by decide +kernel
theorem dX1_shareByRemainders_85 : decode cX1_shareByRemainders 85 = .ok (.idiv, 1) := by decide +kernel
theorem dX1_shareByRemainders_86 : decode cX1_shareByRemainders 86 = .ok (.iastore, 1) := by decide +kernel
theorem dX1_shareByRemainders_87 : decode cX1_shareByRemainders 87 = .ok (.aload_n 0, 1) := by decide +kernel
theorem dX1_shareByRemainders_88 : decode cX1_shareByRemainders 88 = .ok (.getfield 34, 3) := by decide +kernel
theorem dX1_shareByRemainders_91 : decode cX1_shareByRemainders 91 = .ok (.iload 4, 2) := by decide +kernel
theorem dX1_shareByRemainders_93 : decode cX1_shareByRemainders 93 = .ok (.aload_n 0, 1) := by decide +kernel
theorem dX1_shareByRemainders_94 : decode cX1_shareByRemainders 94 = .ok (.iload 4, 2) := by decide +kernel
theorem dX1_shareByRemainders_96 : decode cX1_shareByRemainders 96 = .ok (.invokevirtual 111, 3) := by decide +kernel
theorem dX1_shareByRemainders_99 : decode cX1_shareByRemainders 99 = .ok (.ifCond .eq 10, 3) := by decide +kernel
theorem dX1_shareByRemainders_102 : decode cX1_shareByRemainders 102 = .ok (.iload 5, 2) := by decide +kernel
theorem dX1_shareByRemainders_104 : decode cX1_shareByRemainders 104 = .ok (.iload_n 2, 1) := by decide +kernel
theorem dX1_shareByRemainders_105 : decode cX1_shareByRemainders 105 = .ok (.irem, 1) := by decide +kernel
theorem dX1_shareByRemainders_106 : decode cX1_shareByRemainders 106 = .ok (.goto 4, 3) := by decide +kernel
theorem dX1_shareByRemainders_109 : decode cX1_shareByRemainders 109 = .ok (.iconst (-1), 1) := by decide +kernel
theorem dX1_shareByRemainders_110 : decode cX1_shareByRemainders 110 = .ok (.iastore, 1) := by decide +kernel
theorem dX1_shareByRemainders_111 : decode cX1_shareByRemainders 111 = .ok (.iload_n 3, 1) := by decide +kernel
theorem dX1_shareByRemainders_112 : decode cX1_shareByRemainders 112 = .ok (.aload_n 0, 1) := by decide +kernel
theorem dX1_shareByRemainders_113 : decode cX1_shareByRemainders 113 = .ok (.getfield 28, 3) := by decide +kernel
theorem dX1_shareByRemainders_116 : decode cX1_shareByRemainders 116 = .ok (.iload 4, 2) := by decide +kernel
theorem dX1_shareByRemainders_118 : decode cX1_shareByRemainders 118 = .ok (.iaload, 1) := by decide +kernel
theorem dX1_shareByRemainders_119 : decode cX1_shareByRemainders 119 = .ok (.isub, 1) := by decide +kernel
theorem dX1_shareByRemainders_120 : decode cX1_shareByRemainders 120 = .ok (.istore_n 3, 1) := by decide +kernel
theorem dX1_shareByRemainders_121 : decode cX1_shareByRemainders 121 = .ok (.iinc 4 1, 3) := by decide +kernel
theorem dX1_shareByRemainders_124 : decode cX1_shareByRemainders 124 = .ok (.goto (-78), 3) := by decide +kernel
theorem dX1_shareByRemainders_127 : decode cX1_shareByRemainders 127 = .ok (.iconst 0, 1) := by decide +kernel
theorem dX1_shareByRemainders_128 : decode cX1_shareByRemainders 128 = .ok (.istore 4, 2) := by decide +kernel
theorem dX1_shareByRemainders_130 : decode cX1_shareByRemainders 130 = .ok (.iload 4, 2) := by decide +kernel
theorem dX1_shareByRemainders_132 : decode cX1_shareByRemainders 132 = .ok (.iload_n 3, 1) := by decide +kernel
theorem dX1_shareByRemainders_133 : decode cX1_shareByRemainders 133 = .ok (.if_icmp .ge 13, 3) := by decide +kernel
theorem dX1_shareByRemainders_136 : decode cX1_shareByRemainders 136 = .ok (.aload_n 0, 1) := by decide +kernel
theorem dX1_shareByRemainders_137 : decode cX1_shareByRemainders 137 = .ok (.invokevirtual 115, 3) := by decide +kernel
theorem dX1_shareByRemainders_140 : decode cX1_shareByRemainders 140 = .ok (.iinc 4 1, 3) := by decide +kernel
theorem dX1_shareByRemainders_143 : decode cX1_shareByRemainders 143 = .ok (.goto (-13), 3) := by decide +kernel
theorem dX1_shareByRemainders_146 : decode cX1_shareByRemainders 146 = .ok (.return_, 1) := by decide +kernel
theorem dX1_giveToGreatestRemainder_0 : decode cX1_giveToGreatestRemainder 0 = .ok (.iconst (-1), 1) := by decide +kernel
theorem dX1_giveToGreatestRemainder_1 : decode cX1_giveToGreatestRemainder 1 = .ok (.istore_n 1, 1) := by decide +kernel
theorem dX1_giveToGreatestRemainder_2 : decode cX1_giveToGreatestRemainder 2 = .ok (.iconst 0, 1) := by decide +kernel
theorem dX1_giveToGreatestRemainder_3 : decode cX1_giveToGreatestRemainder 3 = .ok (.istore_n 2, 1) := by decide +kernel
theorem dX1_giveToGreatestRemainder_4 : decode cX1_giveToGreatestRemainder 4 = .ok (.iload_n 2, 1) := by decide +kernel
theorem dX1_giveToGreatestRemainder_5 : decode cX1_giveToGreatestRemainder 5 = .ok (.iconst 4, 1) := by decide +kernel
theorem dX1_giveToGreatestRemainder_6 : decode cX1_giveToGreatestRemainder 6 = .ok (.if_icmp .ge 71, 3) := by decide +kernel
theorem dX1_giveToGreatestRemainder_9 : decode cX1_giveToGreatestRemainder 9 = .ok (.aload_n 0, 1) := by decide +kernel
theorem dX1_giveToGreatestRemainder_10 : decode cX1_giveToGreatestRemainder 10 = .ok (.getfield 34, 3) := by decide +kernel
theorem dX1_giveToGreatestRemainder_13 : decode cX1_giveToGreatestRemainder 13 = .ok (.iload_n 2, 1) := by decide +kernel
theorem dX1_giveToGreatestRemainder_14 : decode cX1_giveToGreatestRemainder 14 = .ok (.iaload, 1) := by decide +kernel
theorem dX1_giveToGreatestRemainder_15 : decode cX1_giveToGreatestRemainder 15 = .ok (.iconst (-1), 1) := by decide +kernel
theorem dX1_giveToGreatestRemainder_16 : decode cX1_giveToGreatestRemainder 16 = .ok (.if_icmp .eq 55, 3) := by decide +kernel
theorem dX1_giveToGreatestRemainder_19 : decode cX1_giveToGreatestRemainder 19 = .ok (.iload_n 1, 1) := by decide +kernel
theorem dX1_giveToGreatestRemainder_20 : decode cX1_giveToGreatestRemainder 20 = .ok (.iconst (-1), 1) := by decide +kernel
theorem dX1_giveToGreatestRemainder_21 : decode cX1_giveToGreatestRemainder 21 = .ok (.if_icmp .eq 48, 3) := by decide +kernel
theorem dX1_giveToGreatestRemainder_24 : decode cX1_giveToGreatestRemainder 24 = .ok (.aload_n 0, 1) := by decide +kernel
theorem dX1_giveToGreatestRemainder_25 : decode cX1_giveToGreatestRemainder 25 = .ok (.getfield 34, 3) := by decide +kernel
theorem dX1_giveToGreatestRemainder_28 : decode cX1_giveToGreatestRemainder 28 = .ok (.iload_n 2, 1) := by decide +kernel
theorem dX1_giveToGreatestRemainder_29 : decode cX1_giveToGreatestRemainder 29 = .ok (.iaload, 1) := by decide +kernel
theorem dX1_giveToGreatestRemainder_30 : decode cX1_giveToGreatestRemainder 30 = .ok (.aload_n 0, 1) := by decide +kernel
theorem dX1_giveToGreatestRemainder_31 : decode cX1_giveToGreatestRemainder 31 = .ok (.getfield 34, 3) := by decide +kernel
theorem dX1_giveToGreatestRemainder_34 : decode cX1_giveToGreatestRemainder 34 = .ok (.iload_n 1, 1) := by decide +kernel
theorem dX1_giveToGreatestRemainder_35 : decode cX1_giveToGreatestRemainder 35 = .ok (.iaload, 1) := by decide +kernel
theorem dX1_giveToGreatestRemainder_36 : decode cX1_giveToGreatestRemainder 36 = .ok (.if_icmp .gt 33, 3) := by decide +kernel
theorem dX1_giveToGreatestRemainder_39 : decode cX1_giveToGreatestRemainder 39 = .ok (.aload_n 0, 1) := by decide +kernel
theorem dX1_giveToGreatestRemainder_40 : decode cX1_giveToGreatestRemainder 40 = .ok (.getfield 34, 3) := by decide +kernel
theorem dX1_giveToGreatestRemainder_43 : decode cX1_giveToGreatestRemainder 43 = .ok (.iload_n 2, 1) := by decide +kernel
theorem dX1_giveToGreatestRemainder_44 : decode cX1_giveToGreatestRemainder 44 = .ok (.iaload, 1) := by decide +kernel
theorem dX1_giveToGreatestRemainder_45 : decode cX1_giveToGreatestRemainder 45 = .ok (.aload_n 0, 1) := by decide +kernel
theorem dX1_giveToGreatestRemainder_46 : decode cX1_giveToGreatestRemainder 46 = .ok (.getfield 34, 3) := by decide +kernel
theorem dX1_giveToGreatestRemainder_49 : decode cX1_giveToGreatestRemainder 49 = .ok (.iload_n 1, 1) := by decide +kernel
theorem dX1_giveToGreatestRemainder_50 : decode cX1_giveToGreatestRemainder 50 = .ok (.iaload, 1) := by decide +kernel
theorem dX1_giveToGreatestRemainder_51 : decode cX1_giveToGreatestRemainder 51 = .ok (.if_icmp .ne 20, 3) := by decide +kernel
theorem dX1_giveToGreatestRemainder_54 : decode cX1_giveToGreatestRemainder 54 = .ok (.aload_n 0, 1) := by decide +kernel
theorem dX1_giveToGreatestRemainder_55 : decode cX1_giveToGreatestRemainder 55 = .ok (.getfield 9, 3) := by decide +kernel
theorem dX1_giveToGreatestRemainder_58 : decode cX1_giveToGreatestRemainder 58 = .ok (.iload_n 2, 1) := by decide +kernel
theorem dX1_giveToGreatestRemainder_59 : decode cX1_giveToGreatestRemainder 59 = .ok (.iaload, 1) := by decide +kernel
theorem dX1_giveToGreatestRemainder_60 : decode cX1_giveToGreatestRemainder 60 = .ok (.aload_n 0, 1) := by decide +kernel
theorem dX1_giveToGreatestRemainder_61 : decode cX1_giveToGreatestRemainder 61 = .ok (.getfield 9, 3) := by decide +kernel
theorem dX1_giveToGreatestRemainder_64 : decode cX1_giveToGreatestRemainder 64 = .ok (.iload_n 1, 1) := by decide +kernel
theorem dX1_giveToGreatestRemainder_65 : decode cX1_giveToGreatestRemainder 65 = .ok (.iaload, 1) := by decide +kernel
theorem dX1_giveToGreatestRemainder_66 : decode cX1_giveToGreatestRemainder 66 = .ok (.if_icmp .le 5, 3) := by decide +kernel
theorem dX1_giveToGreatestRemainder_69 : decode cX1_giveToGreatestRemainder 69 = .ok (.iload_n 2, 1) := by decide +kernel
theorem dX1_giveToGreatestRemainder_70 : decode cX1_giveToGreatestRemainder 70 = .ok (.istore_n 1, 1) := by decide +kernel
theorem dX1_giveToGreatestRemainder_71 : decode cX1_giveToGreatestRemainder 71 = .ok (.iinc 2 1, 3) := by decide +kernel
theorem dX1_giveToGreatestRemainder_74 : decode cX1_giveToGreatestRemainder 74 = .ok (.goto (-70), 3) := by decide +kernel
theorem dX1_giveToGreatestRemainder_77 : decode cX1_giveToGreatestRemainder 77 = .ok (.iload_n 1, 1) := by decide +kernel
theorem dX1_giveToGreatestRemainder_78 : decode cX1_giveToGreatestRemainder 78 = .ok (.iconst (-1), 1) := by decide +kernel
theorem dX1_giveToGreatestRemainder_79 : decode cX1_giveToGreatestRemainder 79 = .ok (.if_icmp .eq 20, 3) := by decide +kernel
theorem dX1_giveToGreatestRemainder_82 : decode cX1_giveToGreatestRemainder 82 = .ok (.aload_n 0, 1) := by decide +kernel
theorem dX1_giveToGreatestRemainder_83 : decode cX1_giveToGreatestRemainder 83 = .ok (.getfield 28, 3) := by decide +kernel
theorem dX1_giveToGreatestRemainder_86 : decode cX1_giveToGreatestRemainder 86 = .ok (.iload_n 1, 1) := by decide +kernel
theorem dX1_giveToGreatestRemainder_87 : decode cX1_giveToGreatestRemainder 87 = .ok (.dup2, 1) := by decide +kernel
theorem dX1_giveToGreatestRemainder_88 : decode cX1_giveToGreatestRemainder 88 = .ok (.iaload, 1) := by decide +kernel
theorem dX1_giveToGreatestRemainder_89 : decode cX1_giveToGreatestRemainder 89 = .ok (.iconst 1, 1) := by decide +kernel
theorem dX1_giveToGreatestRemainder_90 : decode cX1_giveToGreatestRemainder 90 = .ok (.iadd, 1) := by decide +kernel
theorem dX1_giveToGreatestRemainder_91 : decode cX1_giveToGreatestRemainder 91 = .ok (.iastore, 1) := by decide +kernel
theorem dX1_giveToGreatestRemainder_92 : decode cX1_giveToGreatestRemainder 92 = .ok (.aload_n 0, 1) := by decide +kernel
theorem dX1_giveToGreatestRemainder_93 : decode cX1_giveToGreatestRemainder 93 = .ok (.getfield 34, 3) := by decide +kernel
theorem dX1_giveToGreatestRemainder_96 : decode cX1_giveToGreatestRemainder 96 = .ok (.iload_n 1, 1) := by decide +kernel
theorem dX1_giveToGreatestRemainder_97 : decode cX1_giveToGreatestRemainder 97 = .ok (.iconst (-1), 1) := by decide +kernel
theorem dX1_giveToGreatestRemainder_98 : decode cX1_giveToGreatestRemainder 98 = .ok (.iastore, 1) := by decide +kernel
theorem dX1_giveToGreatestRemainder_99 : decode cX1_giveToGreatestRemainder 99 = .ok (.return_, 1) := by decide +kernel
theorem dX1_seatsTogether_0 : decode cX1_seatsTogether 0 = .ok (.iconst 0, 1) := by decide +kernel
theorem dX1_seatsTogether_1 : decode cX1_seatsTogether 1 = .ok (.istore_n 2, 1) := by decide +kernel
theorem dX1_seatsTogether_2 : decode cX1_seatsTogether 2 = .ok (.iconst 0, 1) := by decide +kernel
theorem dX1_seatsTogether_3 : decode cX1_seatsTogether 3 = .ok (.istore_n 3, 1) := by decide +kernel
theorem dX1_seatsTogether_4 : decode cX1_seatsTogether 4 = .ok (.iload_n 3, 1) := by decide +kernel
theorem dX1_seatsTogether_5 : decode cX1_seatsTogether 5 = .ok (.iconst 4, 1) := by decide +kernel
theorem dX1_seatsTogether_6 : decode cX1_seatsTogether 6 = .ok (.if_icmp .ge 26, 3) := by decide +kernel
theorem dX1_seatsTogether_9 : decode cX1_seatsTogether 9 = .ok (.iload_n 1, 1) := by decide +kernel
theorem dX1_seatsTogether_10 : decode cX1_seatsTogether 10 = .ok (.iconst 1, 1) := by decide +kernel
theorem dX1_seatsTogether_11 : decode cX1_seatsTogether 11 = .ok (.iload_n 3, 1) := by decide +kernel
theorem dX1_seatsTogether_12 : decode cX1_seatsTogether 12 = .ok (.ishl, 1) := by decide +kernel
theorem dX1_seatsTogether_13 : decode cX1_seatsTogether 13 = .ok (.iand, 1) := by decide +kernel
theorem dX1_seatsTogether_14 : decode cX1_seatsTogether 14 = .ok (.ifCond .eq 12, 3) := by decide +kernel
theorem dX1_seatsTogether_17 : decode cX1_seatsTogether 17 = .ok (.iload_n 2, 1) := by decide +kernel
theorem dX1_seatsTogether_18 : decode cX1_seatsTogether 18 = .ok (.aload_n 0, 1) := by decide +kernel
theorem dX1_seatsTogether_19 : decode cX1_seatsTogether 19 = .ok (.getfield 28, 3) := by decide +kernel
theorem dX1_seatsTogether_22 : decode cX1_seatsTogether 22 = .ok (.iload_n 3, 1) := by decide +kernel
theorem dX1_seatsTogether_23 : decode cX1_seatsTogether 23 = .ok (.iaload, 1) := by decide +kernel
theorem dX1_seatsTogether_24 : decode cX1_seatsTogether 24 = .ok (.iadd, 1) := by decide +kernel
theorem dX1_seatsTogether_25 : decode cX1_seatsTogether 25 = .ok (.istore_n 2, 1) := by decide +kernel
theorem dX1_seatsTogether_26 : decode cX1_seatsTogether 26 = .ok (.iinc 3 1, 3) := by decide +kernel
theorem dX1_seatsTogether_29 : decode cX1_seatsTogether 29 = .ok (.goto (-25), 3) := by decide +kernel
theorem dX1_seatsTogether_32 : decode cX1_seatsTogether 32 = .ok (.iload_n 2, 1) := by decide +kernel
theorem dX1_seatsTogether_33 : decode cX1_seatsTogether 33 = .ok (.ireturn, 1) := by decide +kernel
set_option maxRecDepth 20000 in
theorem ggX1_isRuling_X1_seatsTogether : GoodIn wsX1_isRuling wsX1_seatsTogether := goodIn_s [5, 6, 7, 8, 9, 10, 11, 12, 13, 14, 15] (by rfl) (by decide +kernel)
set_option maxRecDepth 20000 in
theorem gX1_isRuling_X1_seatsTogether : GoodIn wsX1_isRuling (wsV RX1 118 RX1 yX1_seatsTogether wsX1_seatsTogether) := goodIn_app (goodIn_of _ (by decide +kernel)) ggX1_isRuling_X1_seatsTogether
theorem dX1_isRuling_0 : decode cX1_isRuling 0 = .ok (.iconst 2, 1) := by decide +kernel
theorem dX1_isRuling_1 : decode cX1_isRuling 1 = .ok (.aload_n 0, 1) := by decide +kernel
theorem dX1_isRuling_2 : decode cX1_isRuling 2 = .ok (.iload_n 1, 1) := by decide +kernel
theorem dX1_isRuling_3 : decode cX1_isRuling 3 = .ok (.invokevirtual 118, 3) := by decide +kernel
theorem dX1_isRuling_6 : decode cX1_isRuling 6 = .ok (.imul, 1) := by decide +kernel
theorem dX1_isRuling_7 : decode cX1_isRuling 7 = .ok (.iload_n 2, 1) := by decide +kernel
theorem dX1_isRuling_8 : decode cX1_isRuling 8 = .ok (.if_icmp .le 7, 3) := by decide +kernel
theorem dX1_isRuling_11 : decode cX1_isRuling 11 = .ok (.iconst 1, 1) := by decide +kernel
theorem dX1_isRuling_12 : decode cX1_isRuling 12 = .ok (.goto 4, 3) := by decide +kernel
theorem dX1_isRuling_15 : decode cX1_isRuling 15 = .ok (.iconst 0, 1) := by decide +kernel
theorem dX1_isRuling_16 : decode cX1_isRuling 16 = .ok (.ireturn, 1) := by decide +kernel
set_option maxRecDepth 20000 in
theorem ggX1_swingsOf_X1_isRuling : GoodIn wsX1_swingsOf wsX1_isRuling := goodIn_s [5, 6, 7, 8, 4, 9, 10, 11, 12, 13, 14, 15, 16, 17, 18, 19] (by rfl) (by decide +kernel)
set_option maxRecDepth 20000 in
theorem gX1_swingsOf_X1_isRuling : GoodIn wsX1_swingsOf (wsV RX1 121 RX1 yX1_isRuling wsX1_isRuling) := goodIn_app (goodIn_of _ (by decide +kernel)) ggX1_swingsOf_X1_isRuling
theorem dX1_swingsOf_0 : decode cX1_swingsOf 0 = .ok (.iconst 1, 1) := by decide +kernel
theorem dX1_swingsOf_1 : decode cX1_swingsOf 1 = .ok (.iload_n 1, 1) := by decide +kernel
theorem dX1_swingsOf_2 : decode cX1_swingsOf 2 = .ok (.ishl, 1) := by decide +kernel
theorem dX1_swingsOf_3 : decode cX1_swingsOf 3 = .ok (.istore_n 3, 1) := by decide +kernel
theorem dX1_swingsOf_4 : decode cX1_swingsOf 4 = .ok (.iconst 0, 1) := by decide +kernel
theorem dX1_swingsOf_5 : decode cX1_swingsOf 5 = .ok (.istore 4, 2) := by decide +kernel
theorem dX1_swingsOf_7 : decode cX1_swingsOf 7 = .ok (.iconst 0, 1) := by decide +kernel
theorem dX1_swingsOf_8 : decode cX1_swingsOf 8 = .ok (.istore 5, 2) := by decide +kernel
theorem dX1_swingsOf_10 : decode cX1_swingsOf 10 = .ok (.iload 5, 2) := by decide +kernel
theorem dX1_swingsOf_12 : decode cX1_swingsOf 12 = .ok (.bipush 16, 2) := by decide +kernel
theorem dX1_swingsOf_14 : decode cX1_swingsOf 14 = .ok (.if_icmp .ge 41, 3) := by decide +kernel
theorem dX1_swingsOf_17 : decode cX1_swingsOf 17 = .ok (.iload 5, 2) := by decide +kernel
theorem dX1_swingsOf_19 : decode cX1_swingsOf 19 = .ok (.iload_n 3, 1) := by decide +kernel
theorem dX1_swingsOf_20 : decode cX1_swingsOf 20 = .ok (.iand, 1) := by decide +kernel
theorem dX1_swingsOf_21 : decode cX1_swingsOf 21 = .ok (.ifCond .ne 28, 3) := by decide +kernel
theorem dX1_swingsOf_24 : decode cX1_swingsOf 24 = .ok (.aload_n 0, 1) := by decide +kernel
theorem dX1_swingsOf_25 : decode cX1_swingsOf 25 = .ok (.iload 5, 2) := by decide +kernel
theorem dX1_swingsOf_27 : decode cX1_swingsOf 27 = .ok (.iload_n 2, 1) := by decide +kernel
theorem dX1_swingsOf_28 : decode cX1_swingsOf 28 = .ok (.invokevirtual 121, 3) := by decide +kernel
theorem dX1_swingsOf_31 : decode cX1_swingsOf 31 = .ok (.ifCond .ne 18, 3) := by decide +kernel
theorem dX1_swingsOf_34 : decode cX1_swingsOf 34 = .ok (.aload_n 0, 1) := by decide +kernel
theorem dX1_swingsOf_35 : decode cX1_swingsOf 35 = .ok (.iload 5, 2) := by decide +kernel
theorem dX1_swingsOf_37 : decode cX1_swingsOf 37 = .ok (.iload_n 3, 1) := by decide +kernel
theorem dX1_swingsOf_38 : decode cX1_swingsOf 38 = .ok (.ior, 1) := by decide +kernel
theorem dX1_swingsOf_39 : decode cX1_swingsOf 39 = .ok (.iload_n 2, 1) := by decide +kernel
theorem dX1_swingsOf_40 : decode cX1_swingsOf 40 = .ok (.invokevirtual 121, 3) := by decide +kernel
theorem dX1_swingsOf_43 : decode cX1_swingsOf 43 = .ok (.ifCond .eq 6, 3) := by decide +kernel
theorem dX1_swingsOf_46 : decode cX1_swingsOf 46 = .ok (.iinc 4 1, 3) := by decide +kernel
theorem dX1_swingsOf_49 : decode cX1_swingsOf 49 = .ok (.iinc 5 1, 3) := by decide +kernel
theorem dX1_swingsOf_52 : decode cX1_swingsOf 52 = .ok (.goto (-42), 3) := by decide +kernel
theorem dX1_swingsOf_55 : decode cX1_swingsOf 55 = .ok (.iload 4, 2) := by decide +kernel
theorem dX1_swingsOf_57 : decode cX1_swingsOf 57 = .ok (.ireturn, 1) := by decide +kernel
set_option maxRecDepth 20000 in
theorem ggX1_leastRulers_X1_isRuling : GoodIn wsX1_leastRulers wsX1_isRuling := goodIn_s [5, 6, 7, 8, 4, 9, 10, 22, 23, 24, 25, 26, 27, 28, 29, 30] (by rfl) (by decide +kernel)
set_option maxRecDepth 20000 in
theorem gX1_leastRulers_X1_isRuling : GoodIn wsX1_leastRulers (wsV RX1 121 RX1 yX1_isRuling wsX1_isRuling) := goodIn_app (goodIn_of _ (by decide +kernel)) ggX1_leastRulers_X1_isRuling
set_option maxRecDepth 20000 in
theorem ggX1_leastRulers_X1_isLess : GoodIn wsX1_leastRulers wsX1_isLess := goodIn_s [14, 15, 16, 17, 18, 19, 20, 21, 6, 7, 8, 4, 9, 10, 22, 23, 24, 25, 26, 27, 28, 29, 30] (by rfl) (by decide +kernel)
set_option maxRecDepth 20000 in
theorem gX1_leastRulers_X1_isLess : GoodIn wsX1_leastRulers (wsV RX1 125 RX1 yX1_isLess wsX1_isLess) := goodIn_app (goodIn_of _ (by decide +kernel)) ggX1_leastRulers_X1_isLess
theorem dX1_leastRulers_0 : decode cX1_leastRulers 0 = .ok (.iconst 0, 1) := by decide +kernel
theorem dX1_leastRulers_1 : decode cX1_leastRulers 1 = .ok (.istore_n 2, 1) := by decide +kernel
theorem dX1_leastRulers_2 : decode cX1_leastRulers 2 = .ok (.iconst 1, 1) := by decide +kernel
theorem dX1_leastRulers_3 : decode cX1_leastRulers 3 = .ok (.istore_n 3, 1) := by decide +kernel
theorem dX1_leastRulers_4 : decode cX1_leastRulers 4 = .ok (.iload_n 3, 1) := by decide +kernel
theorem dX1_leastRulers_5 : decode cX1_leastRulers 5 = .ok (.bipush 16, 2) := by decide +kernel
theorem dX1_leastRulers_7 : decode cX1_leastRulers 7 = .ok (.if_icmp .ge 33, 3) := by decide +kernel
theorem dX1_leastRulers_10 : decode cX1_leastRulers 10 = .ok (.aload_n 0, 1) := by decide +kernel
theorem dX1_leastRulers_11 : decode cX1_leastRulers 11 = .ok (.iload_n 3, 1) := by decide +kernel
theorem dX1_leastRulers_12 : decode cX1_leastRulers 12 = .ok (.iload_n 1, 1) := by decide +kernel
theorem dX1_leastRulers_13 : decode cX1_leastRulers 13 = .ok (.invokevirtual 121, 3) := by decide +kernel
theorem dX1_leastRulers_16 : decode cX1_leastRulers 16 = .ok (.ifCond .eq 18, 3) := by decide +kernel
theorem dX1_leastRulers_19 : decode cX1_leastRulers 19 = .ok (.iload_n 2, 1) := by decide +kernel
theorem dX1_leastRulers_20 : decode cX1_leastRulers 20 = .ok (.ifCond .eq 12, 3) := by decide +kernel
theorem dX1_leastRulers_23 : decode cX1_leastRulers 23 = .ok (.aload_n 0, 1) := by decide +kernel
theorem dX1_leastRulers_24 : decode cX1_leastRulers 24 = .ok (.iload_n 3, 1) := by decide +kernel
theorem dX1_leastRulers_25 : decode cX1_leastRulers 25 = .ok (.iload_n 2, 1) := by decide +kernel
theorem dX1_leastRulers_26 : decode cX1_leastRulers 26 = .ok (.invokevirtual 125, 3) := by decide +kernel
theorem dX1_leastRulers_29 : decode cX1_leastRulers 29 = .ok (.ifCond .eq 5, 3) := by decide +kernel
theorem dX1_leastRulers_32 : decode cX1_leastRulers 32 = .ok (.iload_n 3, 1) := by decide +kernel
theorem dX1_leastRulers_33 : decode cX1_leastRulers 33 = .ok (.istore_n 2, 1) := by decide +kernel
theorem dX1_leastRulers_34 : decode cX1_leastRulers 34 = .ok (.iinc 3 1, 3) := by decide +kernel
theorem dX1_leastRulers_37 : decode cX1_leastRulers 37 = .ok (.goto (-33), 3) := by decide +kernel
theorem dX1_leastRulers_40 : decode cX1_leastRulers 40 = .ok (.iload_n 2, 1) := by decide +kernel
theorem dX1_leastRulers_41 : decode cX1_leastRulers 41 = .ok (.ireturn, 1) := by decide +kernel
set_option maxRecDepth 20000 in
theorem ggX1_isLess_J6_bitCount_0f7a4 : GoodIn wsX1_isLess wsJ6_bitCount_0f7a4 := goodIn_s [4, 5, 6, 7] (by rfl) (by decide +kernel)
set_option maxRecDepth 20000 in
theorem gX1_isLess_J6_bitCount_0f7a4 : GoodIn wsX1_isLess (va_wsS RX1 128 yJ6_bitCount_0f7a4 wsJ6_bitCount_0f7a4) := goodIn_app (goodIn_of _ (by decide +kernel)) ggX1_isLess_J6_bitCount_0f7a4
set_option maxRecDepth 20000 in
theorem ggX1_isLess_X1_seatsTogether : GoodIn wsX1_isLess wsX1_seatsTogether := goodIn_s [12, 13, 14, 15, 16, 17, 18, 19, 20, 21, 22] (by rfl) (by decide +kernel)
set_option maxRecDepth 20000 in
theorem gX1_isLess_X1_seatsTogether : GoodIn wsX1_isLess (wsV RX1 118 RX1 yX1_seatsTogether wsX1_seatsTogether) := goodIn_app (goodIn_of _ (by decide +kernel)) ggX1_isLess_X1_seatsTogether
theorem dX1_isLess_0 : decode cX1_isLess 0 = .ok (.iload_n 1, 1) := by decide +kernel
theorem dX1_isLess_1 : decode cX1_isLess 1 = .ok (.invokestatic 128, 3) := by decide +kernel
theorem dX1_isLess_4 : decode cX1_isLess 4 = .ok (.istore_n 3, 1) := by decide +kernel
theorem dX1_isLess_5 : decode cX1_isLess 5 = .ok (.iload_n 2, 1) := by decide +kernel
theorem dX1_isLess_6 : decode cX1_isLess 6 = .ok (.invokestatic 128, 3) := by decide +kernel
theorem dX1_isLess_9 : decode cX1_isLess 9 = .ok (.istore 4, 2) := by decide +kernel
theorem dX1_isLess_11 : decode cX1_isLess 11 = .ok (.iload_n 3, 1) := by decide +kernel
theorem dX1_isLess_12 : decode cX1_isLess 12 = .ok (.iload 4, 2) := by decide +kernel
theorem dX1_isLess_14 : decode cX1_isLess 14 = .ok (.if_icmp .eq 15, 3) := by decide +kernel
theorem dX1_isLess_17 : decode cX1_isLess 17 = .ok (.iload_n 3, 1) := by decide +kernel
theorem dX1_isLess_18 : decode cX1_isLess 18 = .ok (.iload 4, 2) := by decide +kernel
theorem dX1_isLess_20 : decode cX1_isLess 20 = .ok (.if_icmp .ge 7, 3) := by decide +kernel
theorem dX1_isLess_23 : decode cX1_isLess 23 = .ok (.iconst 1, 1) := by decide +kernel
theorem dX1_isLess_24 : decode cX1_isLess 24 = .ok (.goto 4, 3) := by decide +kernel
theorem dX1_isLess_27 : decode cX1_isLess 27 = .ok (.iconst 0, 1) := by decide +kernel
theorem dX1_isLess_28 : decode cX1_isLess 28 = .ok (.ireturn, 1) := by decide +kernel
theorem dX1_isLess_29 : decode cX1_isLess 29 = .ok (.aload_n 0, 1) := by decide +kernel
theorem dX1_isLess_30 : decode cX1_isLess 30 = .ok (.iload_n 1, 1) := by decide +kernel
theorem dX1_isLess_31 : decode cX1_isLess 31 = .ok (.invokevirtual 118, 3) := by decide +kernel
theorem dX1_isLess_34 : decode cX1_isLess 34 = .ok (.aload_n 0, 1) := by decide +kernel
theorem dX1_isLess_35 : decode cX1_isLess 35 = .ok (.iload_n 2, 1) := by decide +kernel
theorem dX1_isLess_36 : decode cX1_isLess 36 = .ok (.invokevirtual 118, 3) := by decide +kernel
theorem dX1_isLess_39 : decode cX1_isLess 39 = .ok (.if_icmp .ge 7, 3) := by decide +kernel
theorem dX1_isLess_42 : decode cX1_isLess 42 = .ok (.iconst 1, 1) := by decide +kernel
theorem dX1_isLess_43 : decode cX1_isLess 43 = .ok (.goto 4, 3) := by decide +kernel
theorem dX1_isLess_46 : decode cX1_isLess 46 = .ok (.iconst 0, 1) := by decide +kernel
theorem dX1_isLess_47 : decode cX1_isLess 47 = .ok (.ireturn, 1) := by decide +kernel
theorem dX2_init_0 : decode cX2_init 0 = .ok (.aload_n 0, 1) := by decide +kernel
theorem dX2_init_1 : decode cX2_init 1 = .ok (.invokespecial 3, 3) := by decide +kernel
theorem dX2_init_4 : decode cX2_init 4 = .ok (.aload_n 0, 1) := by decide +kernel
theorem dX2_init_5 : decode cX2_init 5 = .ok (.bipush 6, 2) := by decide +kernel
theorem dX2_init_7 : decode cX2_init 7 = .ok (.newarray .int, 2) := by decide +kernel
theorem dX2_init_9 : decode cX2_init 9 = .ok (.putfield 9, 3) := by decide +kernel
theorem dX2_init_12 : decode cX2_init 12 = .ok (.aload_n 0, 1) := by decide +kernel
theorem dX2_init_13 : decode cX2_init 13 = .ok (.bipush 6, 2) := by decide +kernel
theorem dX2_init_15 : decode cX2_init 15 = .ok (.newarray .double, 2) := by decide +kernel
theorem dX2_init_17 : decode cX2_init 17 = .ok (.putfield 15, 3) := by decide +kernel
theorem dX2_init_20 : decode cX2_init 20 = .ok (.aload_n 0, 1) := by decide +kernel
theorem dX2_init_21 : decode cX2_init 21 = .ok (.bipush 6, 2) := by decide +kernel
theorem dX2_init_23 : decode cX2_init 23 = .ok (.bipush 6, 2) := by decide +kernel
theorem dX2_init_25 : decode cX2_init 25 = .ok (.multianewarray 19 2, 4) := by decide +kernel
theorem dX2_init_29 : decode cX2_init 29 = .ok (.putfield 21, 3) := by decide +kernel
theorem dX2_init_32 : decode cX2_init 32 = .ok (.aload_n 0, 1) := by decide +kernel
theorem dX2_init_33 : decode cX2_init 33 = .ok (.bipush 6, 2) := by decide +kernel
theorem dX2_init_35 : decode cX2_init 35 = .ok (.bipush 6, 2) := by decide +kernel
theorem dX2_init_37 : decode cX2_init 37 = .ok (.multianewarray 19 2, 4) := by decide +kernel
theorem dX2_init_41 : decode cX2_init 41 = .ok (.putfield 24, 3) := by decide +kernel
theorem dX2_init_44 : decode cX2_init 44 = .ok (.aload_n 0, 1) := by decide +kernel
theorem dX2_init_45 : decode cX2_init 45 = .ok (.bipush 6, 2) := by decide +kernel
theorem dX2_init_47 : decode cX2_init 47 = .ok (.newarray .int, 2) := by decide +kernel
theorem dX2_init_49 : decode cX2_init 49 = .ok (.putfield 27, 3) := by decide +kernel
theorem dX2_init_52 : decode cX2_init 52 = .ok (.aload_n 0, 1) := by decide +kernel
theorem dX2_init_53 : decode cX2_init 53 = .ok (.bipush 6, 2) := by decide +kernel
theorem dX2_init_55 : decode cX2_init 55 = .ok (.newarray .boolean, 2) := by decide +kernel
theorem dX2_init_57 : decode cX2_init 57 = .ok (.putfield 30, 3) := by decide +kernel
theorem dX2_init_60 : decode cX2_init 60 = .ok (.aload_n 0, 1) := by decide +kernel
theorem dX2_init_61 : decode cX2_init 61 = .ok (.bipush 6, 2) := by decide +kernel
theorem dX2_init_63 : decode cX2_init 63 = .ok (.newarray .int, 2) := by decide +kernel
theorem dX2_init_65 : decode cX2_init 65 = .ok (.putfield 34, 3) := by decide +kernel
theorem dX2_init_68 : decode cX2_init 68 = .ok (.return_, 1) := by decide +kernel
set_option maxRecDepth 20000 in
theorem ggX2_winnerBy_X2_countFirsts : GoodIn wsX2_winnerBy wsX2_countFirsts := goodIn_s [5, 6, 7, 8, 9, 10, 11, 12, 13, 14, 15, 16, 17, 18, 110, 111, 112, 113, 114, 115, 116, 117, 118, 119, 120, 121, 122, 123, 124, 125, 126, 127, 128, 129, 130, 131, 132, 133, 134] (by rfl) (by decide +kernel)
set_option maxRecDepth 20000 in
theorem gX2_winnerBy_X2_countFirsts : GoodIn wsX2_winnerBy (wsV RX2 37 RX2 yX2_countFirsts wsX2_countFirsts) := goodIn_app (goodIn_of _ (by decide +kernel)) ggX2_winnerBy_X2_countFirsts
set_option maxRecDepth 20000 in
theorem ggX2_winnerBy_X2_mostFirsts : GoodIn wsX2_winnerBy wsX2_mostFirsts := goodIn_s [22, 23, 24, 6, 117, 118, 119, 120, 121, 122, 123, 124, 125, 126, 127, 110, 111, 112, 113, 114, 115, 116] (by rfl) (by decide +kernel)
set_option maxRecDepth 20000 in
theorem gX2_winnerBy_X2_mostFirsts : GoodIn wsX2_winnerBy (wsV RX2 41 RX2 yX2_mostFirsts wsX2_mostFirsts) := goodIn_app (goodIn_of _ (by decide +kernel)) ggX2_winnerBy_X2_mostFirsts
set_option maxRecDepth 20000 in
theorem ggX2_winnerBy_X2_countPoints : GoodIn wsX2_winnerBy wsX2_countPoints := goodIn_s [28, 29, 30, 7, 8, 31, 32, 33, 34, 35, 36, 37, 12, 13, 14, 15, 16, 17, 18, 38, 39, 40, 4, 41, 42, 9, 23, 24, 11, 43, 44, 45, 46, 47, 48, 49, 110, 111, 112, 113, 114, 115, 116, 117, 118, 119, 120, 121, 122, 123, 124, 125, 126, 127, 128, 129, 130, 131, 132, 133, 134] (by rfl) (by decide +kernel)
set_option maxRecDepth 20000 in
theorem gX2_winnerBy_X2_countPoints : GoodIn wsX2_winnerBy (wsV RX2 45 RX2 yX2_countPoints wsX2_countPoints) := goodIn_app (goodIn_of _ (by decide +kernel)) ggX2_winnerBy_X2_countPoints
set_option maxRecDepth 20000 in
theorem ggX2_winnerBy_X2_mostPoints : GoodIn wsX2_winnerBy wsX2_mostPoints := goodIn_s [53, 23, 24, 29, 117, 118, 119, 120, 121, 122, 123, 124, 125, 126, 127, 110, 111, 112, 113, 114, 115, 116] (by rfl) (by decide +kernel)
set_option maxRecDepth 20000 in
theorem gX2_winnerBy_X2_mostPoints : GoodIn wsX2_winnerBy (wsV RX2 48 RX2 yX2_mostPoints wsX2_mostPoints) := goodIn_app (goodIn_of _ (by decide +kernel)) ggX2_winnerBy_X2_mostPoints
set_option maxRecDepth 20000 in
theorem ggX2_winnerBy_X2_countPairs : GoodIn wsX2_winnerBy wsX2_countPairs := goodIn_s [57, 58, 7, 8, 12, 13, 14, 15, 16, 17, 18, 59, 60, 61, 4, 62, 9, 10, 23, 24, 11, 44, 45, 46, 47, 48, 49, 63, 64, 65, 66, 67, 68, 69, 70, 71, 72, 73, 74, 110, 111, 112, 113, 114, 115, 116, 117, 118, 119, 120, 121, 122, 123, 124, 125, 126, 127, 128, 129, 130, 131, 132, 133, 134] (by rfl) (by decide +kernel)
set_option maxRecDepth 20000 in
theorem gX2_winnerBy_X2_countPairs : GoodIn wsX2_winnerBy (wsV RX2 51 RX2 yX2_countPairs wsX2_countPairs) := goodIn_app (goodIn_of _ (by decide +kernel)) ggX2_winnerBy_X2_countPairs
set_option maxRecDepth 20000 in
theorem ggX2_winnerBy_X2_widestPaths : GoodIn wsX2_winnerBy wsX2_widestPaths := goodIn_s [78, 23, 24, 79, 80, 81, 4, 82, 67, 117, 118, 119, 120, 121, 122, 123, 124, 125, 126, 127, 110, 111, 112, 113, 114, 115, 116] (by rfl) (by decide +kernel)
set_option maxRecDepth 20000 in
theorem gX2_winnerBy_X2_widestPaths : GoodIn wsX2_winnerBy (wsV RX2 54 RX2 yX2_widestPaths wsX2_widestPaths) := goodIn_app (goodIn_of _ (by decide +kernel)) ggX2_winnerBy_X2_widestPaths
set_option maxRecDepth 20000 in
theorem ggX2_winnerBy_X2_goRounds : GoodIn wsX2_winnerBy wsX2_goRounds := goodIn_s [86, 87, 88, 42, 89, 25, 26, 27, 4, 28, 29, 30, 7, 8, 31, 32, 33, 34, 35, 36, 37, 12, 13, 14, 15, 16, 17, 18, 38, 39, 40, 41, 9, 23, 24, 11, 43, 44, 45, 46, 47, 48, 49, 90, 91, 92, 93, 94, 95, 96, 97, 98, 99, 100, 101, 102, 103, 104, 105, 106, 107, 108, 109, 110, 111, 112, 113, 114, 115, 116, 117, 118, 119, 120, 121, 122, 123, 124, 125, 126, 127, 128, 129, 130, 131, 132, 133, 134] (by rfl) (by decide +kernel)
set_option maxRecDepth 20000 in
theorem gX2_winnerBy_X2_goRounds : GoodIn wsX2_winnerBy (wsV RX2 57 RX2 yX2_goRounds wsX2_goRounds) := goodIn_app (goodIn_of _ (by decide +kernel)) ggX2_winnerBy_X2_goRounds
theorem dX2_winnerBy_0 : decode cX2_winnerBy 0 = .ok (.iload_n 3, 1) := by decide +kernel
theorem dX2_winnerBy_1 : decode cX2_winnerBy 1 = .ok (.tableswitch 63 0 2 #[27, 39, 51], 27) := by decide +kernel
theorem dX2_winnerBy_28 : decode cX2_winnerBy 28 = .ok (.aload_n 0, 1) := by decide +kernel
theorem dX2_winnerBy_29 : decode cX2_winnerBy 29 = .ok (.aload_n 1, 1) := by decide +kernel
theorem dX2_winnerBy_30 : decode cX2_winnerBy 30 = .ok (.iload_n 2, 1) := by decide +kernel
theorem dX2_winnerBy_31 : decode cX2_winnerBy 31 = .ok (.invokevirtual 37, 3) := by decide +kernel
theorem dX2_winnerBy_34 : decode cX2_winnerBy 34 = .ok (.aload_n 0, 1) := by decide +kernel
theorem dX2_winnerBy_35 : decode cX2_winnerBy 35 = .ok (.aload_n 1, 1) := by decide +kernel
theorem dX2_winnerBy_36 : decode cX2_winnerBy 36 = .ok (.invokevirtual 41, 3) := by decide +kernel
theorem dX2_winnerBy_39 : decode cX2_winnerBy 39 = .ok (.ireturn, 1) := by decide +kernel
theorem dX2_winnerBy_40 : decode cX2_winnerBy 40 = .ok (.aload_n 0, 1) := by decide +kernel
theorem dX2_winnerBy_41 : decode cX2_winnerBy 41 = .ok (.aload_n 1, 1) := by decide +kernel
theorem dX2_winnerBy_42 : decode cX2_winnerBy 42 = .ok (.iload_n 2, 1) := by decide +kernel
theorem dX2_winnerBy_43 : decode cX2_winnerBy 43 = .ok (.invokevirtual 45, 3) := by decide +kernel
theorem dX2_winnerBy_46 : decode cX2_winnerBy 46 = .ok (.aload_n 0, 1) := by decide +kernel
theorem dX2_winnerBy_47 : decode cX2_winnerBy 47 = .ok (.aload_n 1, 1) := by decide +kernel
theorem dX2_winnerBy_48 : decode cX2_winnerBy 48 = .ok (.invokevirtual 48, 3) := by decide +kernel
theorem dX2_winnerBy_51 : decode cX2_winnerBy 51 = .ok (.ireturn, 1) := by decide +kernel
theorem dX2_winnerBy_52 : decode cX2_winnerBy 52 = .ok (.aload_n 0, 1) := by decide +kernel
theorem dX2_winnerBy_53 : decode cX2_winnerBy 53 = .ok (.aload_n 1, 1) := by decide +kernel
theorem dX2_winnerBy_54 : decode cX2_winnerBy 54 = .ok (.iload_n 2, 1) := by decide +kernel
theorem dX2_winnerBy_55 : decode cX2_winnerBy 55 = .ok (.invokevirtual 51, 3) := by decide +kernel
theorem dX2_winnerBy_58 : decode cX2_winnerBy 58 = .ok (.aload_n 0, 1) := by decide +kernel
theorem dX2_winnerBy_59 : decode cX2_winnerBy 59 = .ok (.aload_n 1, 1) := by decide +kernel
theorem dX2_winnerBy_60 : decode cX2_winnerBy 60 = .ok (.invokevirtual 54, 3) := by decide +kernel
theorem dX2_winnerBy_63 : decode cX2_winnerBy 63 = .ok (.ireturn, 1) := by decide +kernel
theorem dX2_winnerBy_64 : decode cX2_winnerBy 64 = .ok (.aload_n 0, 1) := by decide +kernel
theorem dX2_winnerBy_65 : decode cX2_winnerBy 65 = .ok (.aload_n 1, 1) := by decide +kernel
theorem dX2_winnerBy_66 : decode cX2_winnerBy 66 = .ok (.iload_n 2, 1) := by decide +kernel
theorem dX2_winnerBy_67 : decode cX2_winnerBy 67 = .ok (.invokevirtual 57, 3) := by decide +kernel
theorem dX2_winnerBy_70 : decode cX2_winnerBy 70 = .ok (.ireturn, 1) := by decide +kernel
set_option maxRecDepth 20000 in
theorem ggX2_countFirsts_X3_countsIn : GoodIn wsX2_countFirsts wsX3_countsIn := goodIn_s [11, 12, 13, 32, 33, 34, 35, 36, 37, 38] (by rfl) (by decide +kernel)
set_option maxRecDepth 20000 in
theorem gX2_countFirsts_X3_countsIn : GoodIn wsX2_countFirsts (wsV RX2 71 RX3 yX3_countsIn wsX3_countsIn) := goodIn_app (goodIn_of _ (by decide +kernel)) ggX2_countFirsts_X3_countsIn
theorem dX2_countFirsts_0 : decode cX2_countFirsts 0 = .ok (.iconst 0, 1) := by decide +kernel
theorem dX2_countFirsts_1 : decode cX2_countFirsts 1 = .ok (.istore_n 3, 1) := by decide +kernel
theorem dX2_countFirsts_2 : decode cX2_countFirsts 2 = .ok (.iload_n 3, 1) := by decide +kernel
theorem dX2_countFirsts_3 : decode cX2_countFirsts 3 = .ok (.bipush 6, 2) := by decide +kernel
theorem dX2_countFirsts_5 : decode cX2_countFirsts 5 = .ok (.if_icmp .ge 16, 3) := by decide +kernel
theorem dX2_countFirsts_8 : decode cX2_countFirsts 8 = .ok (.aload_n 0, 1) := by decide +kernel
theorem dX2_countFirsts_9 : decode cX2_countFirsts 9 = .ok (.getfield 9, 3) := by decide +kernel
theorem dX2_countFirsts_12 : decode cX2_countFirsts 12 = .ok (.iload_n 3, 1) := by decide +kernel
theorem dX2_countFirsts_13 : decode cX2_countFirsts 13 = .ok (.iconst 0, 1) := by decide +kernel
theorem dX2_countFirsts_14 : decode cX2_countFirsts 14 = .ok (.iastore, 1) := by decide +kernel
theorem dX2_countFirsts_15 : decode cX2_countFirsts 15 = .ok (.iinc 3 1, 3) := by decide +kernel
theorem dX2_countFirsts_18 : decode cX2_countFirsts 18 = .ok (.goto (-16), 3) := by decide +kernel
theorem dX2_countFirsts_21 : decode cX2_countFirsts 21 = .ok (.iconst 0, 1) := by decide +kernel
theorem dX2_countFirsts_22 : decode cX2_countFirsts 22 = .ok (.istore_n 3, 1) := by decide +kernel
theorem dX2_countFirsts_23 : decode cX2_countFirsts 23 = .ok (.iload_n 3, 1) := by decide +kernel
theorem dX2_countFirsts_24 : decode cX2_countFirsts 24 = .ok (.aload_n 1, 1) := by decide +kernel
theorem dX2_countFirsts_25 : decode cX2_countFirsts 25 = .ok (.getfield 61, 3) := by decide +kernel
theorem dX2_countFirsts_28 : decode cX2_countFirsts 28 = .ok (.if_icmp .ge 54, 3) := by decide +kernel
theorem dX2_countFirsts_31 : decode cX2_countFirsts 31 = .ok (.aload_n 1, 1) := by decide +kernel
theorem dX2_countFirsts_32 : decode cX2_countFirsts 32 = .ok (.getfield 67, 3) := by decide +kernel
theorem dX2_countFirsts_35 : decode cX2_countFirsts 35 = .ok (.iload_n 3, 1) := by decide +kernel
theorem dX2_countFirsts_36 : decode cX2_countFirsts 36 = .ok (.aaload, 1) := by decide +kernel
theorem dX2_countFirsts_37 : decode cX2_countFirsts 37 = .ok (.astore 4, 2) := by decide +kernel
theorem dX2_countFirsts_39 : decode cX2_countFirsts 39 = .ok (.aload 4, 2) := by decide +kernel
theorem dX2_countFirsts_41 : decode cX2_countFirsts 41 = .ok (.iload_n 2, 1) := by decide +kernel
theorem dX2_countFirsts_42 : decode cX2_countFirsts 42 = .ok (.invokevirtual 71, 3) := by decide +kernel
theorem dX2_countFirsts_45 : decode cX2_countFirsts 45 = .ok (.ifCond .eq 31, 3) := by decide +kernel
theorem dX2_countFirsts_48 : decode cX2_countFirsts 48 = .ok (.aload 4, 2) := by decide +kernel
theorem dX2_countFirsts_50 : decode cX2_countFirsts 50 = .ok (.getfield 77, 3) := by decide +kernel
theorem dX2_countFirsts_53 : decode cX2_countFirsts 53 = .ok (.ifCond .le 23, 3) := by decide +kernel
theorem dX2_countFirsts_56 : decode cX2_countFirsts 56 = .ok (.aload_n 0, 1) := by decide +kernel
theorem dX2_countFirsts_57 : decode cX2_countFirsts 57 = .ok (.getfield 9, 3) := by decide +kernel
theorem dX2_countFirsts_60 : decode cX2_countFirsts 60 = .ok (.aload 4, 2) := by decide +kernel
theorem dX2_countFirsts_62 : decode cX2_countFirsts 62 = .ok (.getfield 80, 3) := by decide +kernel
theorem dX2_countFirsts_65 : decode cX2_countFirsts 65 = .ok (.iconst 0, 1) := by decide +kernel
theorem dX2_countFirsts_66 : decode cX2_countFirsts 66 = .ok (.iaload, 1) := by decide +kernel
theorem dX2_countFirsts_67 : decode cX2_countFirsts 67 = .ok (.dup2, 1) := by decide +kernel
theorem dX2_countFirsts_68 : decode cX2_countFirsts 68 = .ok (.iaload, 1) := by decide +kernel
theorem dX2_countFirsts_69 : decode cX2_countFirsts 69 = .ok (.aload 4, 2) := by decide +kernel
theorem dX2_countFirsts_71 : decode cX2_countFirsts 71 = .ok (.getfield 83, 3) := by decide +kernel
theorem dX2_countFirsts_74 : decode cX2_countFirsts 74 = .ok (.iadd, 1) := by decide +kernel
theorem dX2_countFirsts_75 : decode cX2_countFirsts 75 = .ok (.iastore, 1) := by decide +kernel
theorem dX2_countFirsts_76 : decode cX2_countFirsts 76 = .ok (.iinc 3 1, 3) := by decide +kernel
theorem dX2_countFirsts_79 : decode cX2_countFirsts 79 = .ok (.goto (-56), 3) := by decide +kernel
theorem dX2_countFirsts_82 : decode cX2_countFirsts 82 = .ok (.return_, 1) := by decide +kernel
theorem dX2_mostFirsts_0 : decode cX2_mostFirsts 0 = .ok (.iconst (-1), 1) := by decide +kernel
theorem dX2_mostFirsts_1 : decode cX2_mostFirsts 1 = .ok (.istore_n 2, 1) := by decide +kernel
theorem dX2_mostFirsts_2 : decode cX2_mostFirsts 2 = .ok (.iconst 0, 1) := by decide +kernel
theorem dX2_mostFirsts_3 : decode cX2_mostFirsts 3 = .ok (.istore_n 3, 1) := by decide +kernel
theorem dX2_mostFirsts_4 : decode cX2_mostFirsts 4 = .ok (.iload_n 3, 1) := by decide +kernel
theorem dX2_mostFirsts_5 : decode cX2_mostFirsts 5 = .ok (.aload_n 1, 1) := by decide +kernel
theorem dX2_mostFirsts_6 : decode cX2_mostFirsts 6 = .ok (.getfield 86, 3) := by decide +kernel
theorem dX2_mostFirsts_9 : decode cX2_mostFirsts 9 = .ok (.if_icmp .ge 40, 3) := by decide +kernel
theorem dX2_mostFirsts_12 : decode cX2_mostFirsts 12 = .ok (.aload_n 1, 1) := by decide +kernel
theorem dX2_mostFirsts_13 : decode cX2_mostFirsts 13 = .ok (.getfield 89, 3) := by decide +kernel
theorem dX2_mostFirsts_16 : decode cX2_mostFirsts 16 = .ok (.iload_n 3, 1) := by decide +kernel
theorem dX2_mostFirsts_17 : decode cX2_mostFirsts 17 = .ok (.baload, 1) := by decide +kernel
theorem dX2_mostFirsts_18 : decode cX2_mostFirsts 18 = .ok (.ifCond .eq 25, 3) := by decide +kernel
theorem dX2_mostFirsts_21 : decode cX2_mostFirsts 21 = .ok (.iload_n 2, 1) := by decide +kernel
theorem dX2_mostFirsts_22 : decode cX2_mostFirsts 22 = .ok (.iconst (-1), 1) := by decide +kernel
theorem dX2_mostFirsts_23 : decode cX2_mostFirsts 23 = .ok (.if_icmp .eq 18, 3) := by decide +kernel
theorem dX2_mostFirsts_26 : decode cX2_mostFirsts 26 = .ok (.aload_n 0, 1) := by decide +kernel
theorem dX2_mostFirsts_27 : decode cX2_mostFirsts 27 = .ok (.getfield 9, 3) := by decide +kernel
theorem dX2_mostFirsts_30 : decode cX2_mostFirsts 30 = .ok (.iload_n 3, 1) := by decide +kernel
theorem dX2_mostFirsts_31 : decode cX2_mostFirsts 31 = .ok (.iaload, 1) := by decide +kernel
theorem dX2_mostFirsts_32 : decode cX2_mostFirsts 32 = .ok (.aload_n 0, 1) := by decide +kernel
theorem dX2_mostFirsts_33 : decode cX2_mostFirsts 33 = .ok (.getfield 9, 3) := by decide +kernel
theorem dX2_mostFirsts_36 : decode cX2_mostFirsts 36 = .ok (.iload_n 2, 1) := by decide +kernel
theorem dX2_mostFirsts_37 : decode cX2_mostFirsts 37 = .ok (.iaload, 1) := by decide +kernel
theorem dX2_mostFirsts_38 : decode cX2_mostFirsts 38 = .ok (.if_icmp .le 5, 3) := by decide +kernel
theorem dX2_mostFirsts_41 : decode cX2_mostFirsts 41 = .ok (.iload_n 3, 1) := by decide +kernel
theorem dX2_mostFirsts_42 : decode cX2_mostFirsts 42 = .ok (.istore_n 2, 1) := by decide +kernel
theorem dX2_mostFirsts_43 : decode cX2_mostFirsts 43 = .ok (.iinc 3 1, 3) := by decide +kernel
theorem dX2_mostFirsts_46 : decode cX2_mostFirsts 46 = .ok (.goto (-42), 3) := by decide +kernel
theorem dX2_mostFirsts_49 : decode cX2_mostFirsts 49 = .ok (.iload_n 2, 1) := by decide +kernel
theorem dX2_mostFirsts_50 : decode cX2_mostFirsts 50 = .ok (.ireturn, 1) := by decide +kernel
set_option maxRecDepth 20000 in
theorem ggX2_countPoints_X0_isStanding : GoodIn wsX2_countPoints wsX0_isStanding := goodIn_s [9, 10, 11, 43, 44, 45, 46, 47, 48, 49, 50, 51, 52, 53] (by rfl) (by decide +kernel)
set_option maxRecDepth 20000 in
theorem gX2_countPoints_X0_isStanding : GoodIn wsX2_countPoints (wsV RX2 92 RX0 yX0_isStanding wsX0_isStanding) := goodIn_app (goodIn_of _ (by decide +kernel)) ggX2_countPoints_X0_isStanding
set_option maxRecDepth 20000 in
theorem ggX2_countPoints_X3_countsIn : GoodIn wsX2_countPoints wsX3_countsIn := goodIn_s [16, 17, 18, 54, 55, 56, 57, 58, 59, 60] (by rfl) (by decide +kernel)
set_option maxRecDepth 20000 in
theorem gX2_countPoints_X3_countsIn : GoodIn wsX2_countPoints (wsV RX2 71 RX3 yX3_countsIn wsX3_countsIn) := goodIn_app (goodIn_of _ (by decide +kernel)) ggX2_countPoints_X3_countsIn
set_option maxRecDepth 20000 in
theorem ggX2_countPoints_X2_addPoints : GoodIn wsX2_countPoints wsX2_addPoints := goodIn_s [23, 24, 25, 26, 27, 1, 28, 29, 30, 31, 32, 15, 33, 34, 35, 43, 44, 45, 46, 47, 48, 49, 50, 51, 52, 53, 54, 55, 56, 57, 58, 59, 60, 36, 37, 38, 39, 40, 41, 42] (by rfl) (by decide +kernel)
set_option maxRecDepth 20000 in
theorem gX2_countPoints_X2_addPoints : GoodIn wsX2_countPoints (wsV RX2 97 RX2 yX2_addPoints wsX2_addPoints) := goodIn_app (goodIn_of _ (by decide +kernel)) ggX2_countPoints_X2_addPoints
theorem dX2_countPoints_0 : decode cX2_countPoints 0 = .ok (.iconst 0, 1) := by decide +kernel
theorem dX2_countPoints_1 : decode cX2_countPoints 1 = .ok (.istore_n 3, 1) := by decide +kernel
theorem dX2_countPoints_2 : decode cX2_countPoints 2 = .ok (.iload_n 3, 1) := by decide +kernel
theorem dX2_countPoints_3 : decode cX2_countPoints 3 = .ok (.bipush 6, 2) := by decide +kernel
theorem dX2_countPoints_5 : decode cX2_countPoints 5 = .ok (.if_icmp .ge 30, 3) := by decide +kernel
theorem dX2_countPoints_8 : decode cX2_countPoints 8 = .ok (.aload_n 0, 1) := by decide +kernel
theorem dX2_countPoints_9 : decode cX2_countPoints 9 = .ok (.getfield 15, 3) := by decide +kernel
theorem dX2_countPoints_12 : decode cX2_countPoints 12 = .ok (.iload_n 3, 1) := by decide +kernel
theorem dX2_countPoints_13 : decode cX2_countPoints 13 = .ok (.aload_n 1, 1) := by decide +kernel
theorem dX2_countPoints_14 : decode cX2_countPoints 14 = .ok (.iload_n 3, 1) := by decide +kernel
theorem dX2_countPoints_15 : decode cX2_countPoints 15 = .ok (.invokevirtual 92, 3) := by decide +kernel
theorem dX2_countPoints_18 : decode cX2_countPoints 18 = .ok (.ifCond .eq 7, 3) := by decide +kernel
theorem dX2_countPoints_21 : decode cX2_countPoints 21 = .ok (.dconst 0, 1) := by decide +kernel
theorem dX2_countPoints_22 : decode cX2_countPoints 22 = .ok (.goto 6, 3) := by decide +kernel
theorem dX2_countPoints_25 : decode cX2_countPoints 25 = .ok (.ldc2_w 95, 3) := by decide +kernel
theorem dX2_countPoints_28 : decode cX2_countPoints 28 = .ok (.dastore, 1) := by decide +kernel
theorem dX2_countPoints_29 : decode cX2_countPoints 29 = .ok (.iinc 3 1, 3) := by decide +kernel
theorem dX2_countPoints_32 : decode cX2_countPoints 32 = .ok (.goto (-30), 3) := by decide +kernel
theorem dX2_countPoints_35 : decode cX2_countPoints 35 = .ok (.iconst 0, 1) := by decide +kernel
theorem dX2_countPoints_36 : decode cX2_countPoints 36 = .ok (.istore_n 3, 1) := by decide +kernel
theorem dX2_countPoints_37 : decode cX2_countPoints 37 = .ok (.iload_n 3, 1) := by decide +kernel
theorem dX2_countPoints_38 : decode cX2_countPoints 38 = .ok (.aload_n 1, 1) := by decide +kernel
theorem dX2_countPoints_39 : decode cX2_countPoints 39 = .ok (.getfield 61, 3) := by decide +kernel
theorem dX2_countPoints_42 : decode cX2_countPoints 42 = .ok (.if_icmp .ge 33, 3) := by decide +kernel
theorem dX2_countPoints_45 : decode cX2_countPoints 45 = .ok (.aload_n 1, 1) := by decide +kernel
theorem dX2_countPoints_46 : decode cX2_countPoints 46 = .ok (.getfield 67, 3) := by decide +kernel
theorem dX2_countPoints_49 : decode cX2_countPoints 49 = .ok (.iload_n 3, 1) := by decide +kernel
theorem dX2_countPoints_50 : decode cX2_countPoints 50 = .ok (.aaload, 1) := by decide +kernel
theorem dX2_countPoints_51 : decode cX2_countPoints 51 = .ok (.astore 4, 2) := by decide +kernel
theorem dX2_countPoints_53 : decode cX2_countPoints 53 = .ok (.aload 4, 2) := by decide +kernel
theorem dX2_countPoints_55 : decode cX2_countPoints 55 = .ok (.iload_n 2, 1) := by decide +kernel
theorem dX2_countPoints_56 : decode cX2_countPoints 56 = .ok (.invokevirtual 71, 3) := by decide +kernel
theorem dX2_countPoints_59 : decode cX2_countPoints 59 = .ok (.ifCond .eq 10, 3) := by decide +kernel
theorem dX2_countPoints_62 : decode cX2_countPoints 62 = .ok (.aload_n 0, 1) := by decide +kernel
theorem dX2_countPoints_63 : decode cX2_countPoints 63 = .ok (.aload_n 1, 1) := by decide +kernel
theorem dX2_countPoints_64 : decode cX2_countPoints 64 = .ok (.aload 4, 2) := by decide +kernel
theorem dX2_countPoints_66 : decode cX2_countPoints 66 = .ok (.invokevirtual 97, 3) := by decide +kernel
theorem dX2_countPoints_69 : decode cX2_countPoints 69 = .ok (.iinc 3 1, 3) := by decide +kernel
theorem dX2_countPoints_72 : decode cX2_countPoints 72 = .ok (.goto (-35), 3) := by decide +kernel
theorem dX2_countPoints_75 : decode cX2_countPoints 75 = .ok (.return_, 1) := by decide +kernel
set_option maxRecDepth 20000 in
theorem ggX2_addPoints_X3_placeOf : GoodIn wsX2_addPoints wsX3_placeOf := goodIn_s [12, 13, 14, 26, 27, 28, 29, 30, 31, 32] (by rfl) (by decide +kernel)
set_option maxRecDepth 20000 in
theorem gX2_addPoints_X3_placeOf : GoodIn wsX2_addPoints (wsV RX2 104 RX3 yX3_placeOf wsX3_placeOf) := goodIn_app (goodIn_of _ (by decide +kernel)) ggX2_addPoints_X3_placeOf
theorem dX2_addPoints_0 : decode cX2_addPoints 0 = .ok (.aload_n 1, 1) := by decide +kernel
theorem dX2_addPoints_1 : decode cX2_addPoints 1 = .ok (.getfield 101, 3) := by decide +kernel
theorem dX2_addPoints_4 : decode cX2_addPoints 4 = .ok (.aload_n 2, 1) := by decide +kernel
theorem dX2_addPoints_5 : decode cX2_addPoints 5 = .ok (.getfield 77, 3) := by decide +kernel
theorem dX2_addPoints_8 : decode cX2_addPoints 8 = .ok (.isub, 1) := by decide +kernel
theorem dX2_addPoints_9 : decode cX2_addPoints 9 = .ok (.istore_n 3, 1) := by decide +kernel
theorem dX2_addPoints_10 : decode cX2_addPoints 10 = .ok (.iconst 0, 1) := by decide +kernel
theorem dX2_addPoints_11 : decode cX2_addPoints 11 = .ok (.istore 4, 2) := by decide +kernel
theorem dX2_addPoints_13 : decode cX2_addPoints 13 = .ok (.iload 4, 2) := by decide +kernel
theorem dX2_addPoints_15 : decode cX2_addPoints 15 = .ok (.aload_n 1, 1) := by decide +kernel
theorem dX2_addPoints_16 : decode cX2_addPoints 16 = .ok (.getfield 86, 3) := by decide +kernel
theorem dX2_addPoints_19 : decode cX2_addPoints 19 = .ok (.if_icmp .ge 90, 3) := by decide +kernel
theorem dX2_addPoints_22 : decode cX2_addPoints 22 = .ok (.aload_n 2, 1) := by decide +kernel
theorem dX2_addPoints_23 : decode cX2_addPoints 23 = .ok (.iload 4, 2) := by decide +kernel
theorem dX2_addPoints_25 : decode cX2_addPoints 25 = .ok (.invokevirtual 104, 3) := by decide +kernel
theorem dX2_addPoints_28 : decode cX2_addPoints 28 = .ok (.istore 5, 2) := by decide +kernel
theorem dX2_addPoints_30 : decode cX2_addPoints 30 = .ok (.aload_n 1, 1) := by decide +kernel
theorem dX2_addPoints_31 : decode cX2_addPoints 31 = .ok (.getfield 89, 3) := by decide +kernel
theorem dX2_addPoints_34 : decode cX2_addPoints 34 = .ok (.iload 4, 2) := by decide +kernel
theorem dX2_addPoints_36 : decode cX2_addPoints 36 = .ok (.baload, 1) := by decide +kernel
theorem dX2_addPoints_37 : decode cX2_addPoints 37 = .ok (.ifCond .ne 6, 3) := by decide +kernel
theorem dX2_addPoints_40 : decode cX2_addPoints 40 = .ok (.goto 63, 3) := by decide +kernel
theorem dX2_addPoints_43 : decode cX2_addPoints 43 = .ok (.iload 5, 2) := by decide +kernel
theorem dX2_addPoints_45 : decode cX2_addPoints 45 = .ok (.aload_n 2, 1) := by decide +kernel
theorem dX2_addPoints_46 : decode cX2_addPoints 46 = .ok (.getfield 77, 3) := by decide +kernel
theorem dX2_addPoints_49 : decode cX2_addPoints 49 = .ok (.if_icmp .ge 31, 3) := by decide +kernel
theorem dX2_addPoints_52 : decode cX2_addPoints 52 = .ok (.aload_n 0, 1) := by decide +kernel
theorem dX2_addPoints_53 : decode cX2_addPoints 53 = .ok (.getfield 15, 3) := by decide +kernel
theorem dX2_addPoints_56 : decode cX2_addPoints 56 = .ok (.iload 4, 2) := by decide +kernel
theorem dX2_addPoints_58 : decode cX2_addPoints 58 = .ok (.dup2, 1) := by decide +kernel
theorem dX2_addPoints_59 : decode cX2_addPoints 59 = .ok (.daload, 1) := by decide +kernel
theorem dX2_addPoints_60 : decode cX2_addPoints 60 = .ok (.aload_n 2, 1) := by decide +kernel
theorem dX2_addPoints_61 : decode cX2_addPoints 61 = .ok (.getfield 83, 3) := by decide +kernel
theorem dX2_addPoints_64 : decode cX2_addPoints 64 = .ok (.aload_n 1, 1) := by decide +kernel
theorem dX2_addPoints_65 : decode cX2_addPoints 65 = .ok (.getfield 101, 3) := by decide +kernel
theorem dX2_addPoints_68 : decode cX2_addPoints 68 = .ok (.iconst 1, 1) := by decide +kernel
theorem dX2_addPoints_69 : decode cX2_addPoints 69 = .ok (.isub, 1) := by decide +kernel
theorem dX2_addPoints_70 : decode cX2_addPoints 70 = .ok (.iload 5, 2) := by decide +kernel
theorem dX2_addPoints_72 : decode cX2_addPoints 72 = .ok (.isub, 1) := by decide +kernel
theorem dX2_addPoints_73 : decode cX2_addPoints 73 = .ok (.imul, 1) := by decide +kernel
theorem dX2_addPoints_74 : decode cX2_addPoints 74 = .ok (.i2d, 1) := by decide +kernel
theorem dX2_addPoints_75 : decode cX2_addPoints 75 = .ok (.dadd, 1) := by decide +kernel
theorem dX2_addPoints_76 : decode cX2_addPoints 76 = .ok (.dastore, 1) := by decide +kernel
theorem dX2_addPoints_77 : decode cX2_addPoints 77 = .ok (.goto 26, 3) := by decide +kernel
theorem dX2_addPoints_80 : decode cX2_addPoints 80 = .ok (.aload_n 0, 1) := by decide +kernel
theorem dX2_addPoints_81 : decode cX2_addPoints 81 = .ok (.getfield 15, 3) := by decide +kernel
theorem dX2_addPoints_84 : decode cX2_addPoints 84 = .ok (.iload 4, 2) := by decide +kernel
theorem dX2_addPoints_86 : decode cX2_addPoints 86 = .ok (.dup2, 1) := by decide +kernel
theorem dX2_addPoints_87 : decode cX2_addPoints 87 = .ok (.daload, 1) := by decide +kernel
theorem dX2_addPoints_88 : decode cX2_addPoints 88 = .ok (.aload_n 2, 1) := by decide +kernel
theorem dX2_addPoints_89 : decode cX2_addPoints 89 = .ok (.getfield 83, 3) := by decide +kernel
theorem dX2_addPoints_92 : decode cX2_addPoints 92 = .ok (.iload_n 3, 1) := by decide +kernel
theorem dX2_addPoints_93 : decode cX2_addPoints 93 = .ok (.iconst 1, 1) := by decide +kernel
theorem dX2_addPoints_94 : decode cX2_addPoints 94 = .ok (.isub, 1) := by decide +kernel
theorem dX2_addPoints_95 : decode cX2_addPoints 95 = .ok (.imul, 1) := by decide +kernel
theorem dX2_addPoints_96 : decode cX2_addPoints 96 = .ok (.i2d, 1) := by decide +kernel
theorem dX2_addPoints_97 : decode cX2_addPoints 97 = .ok (.ldc2_w 108, 3) := by decide +kernel
theorem dX2_addPoints_100 : decode cX2_addPoints 100 = .ok (.ddiv, 1) := by decide +kernel
theorem dX2_addPoints_101 : decode cX2_addPoints 101 = .ok (.dadd, 1) := by decide +kernel
theorem dX2_addPoints_102 : decode cX2_addPoints 102 = .ok (.dastore, 1) := by decide +kernel
theorem dX2_addPoints_103 : decode cX2_addPoints 103 = .ok (.iinc 4 1, 3) := by decide +kernel
theorem dX2_addPoints_106 : decode cX2_addPoints 106 = .ok (.goto (-93), 3) := by decide +kernel
theorem dX2_addPoints_109 : decode cX2_addPoints 109 = .ok (.return_, 1) := by decide +kernel
theorem dX2_mostPoints_0 : decode cX2_mostPoints 0 = .ok (.iconst (-1), 1) := by decide +kernel
theorem dX2_mostPoints_1 : decode cX2_mostPoints 1 = .ok (.istore_n 2, 1) := by decide +kernel
theorem dX2_mostPoints_2 : decode cX2_mostPoints 2 = .ok (.iconst 0, 1) := by decide +kernel
theorem dX2_mostPoints_3 : decode cX2_mostPoints 3 = .ok (.istore_n 3, 1) := by decide +kernel
theorem dX2_mostPoints_4 : decode cX2_mostPoints 4 = .ok (.iload_n 3, 1) := by decide +kernel
theorem dX2_mostPoints_5 : decode cX2_mostPoints 5 = .ok (.aload_n 1, 1) := by decide +kernel
theorem dX2_mostPoints_6 : decode cX2_mostPoints 6 = .ok (.getfield 86, 3) := by decide +kernel
theorem dX2_mostPoints_9 : decode cX2_mostPoints 9 = .ok (.if_icmp .ge 41, 3) := by decide +kernel
theorem dX2_mostPoints_12 : decode cX2_mostPoints 12 = .ok (.aload_n 1, 1) := by decide +kernel
theorem dX2_mostPoints_13 : decode cX2_mostPoints 13 = .ok (.getfield 89, 3) := by decide +kernel
theorem dX2_mostPoints_16 : decode cX2_mostPoints 16 = .ok (.iload_n 3, 1) := by decide +kernel
theorem dX2_mostPoints_17 : decode cX2_mostPoints 17 = .ok (.baload, 1) := by decide +kernel
theorem dX2_mostPoints_18 : decode cX2_mostPoints 18 = .ok (.ifCond .eq 26, 3) := by decide +kernel
theorem dX2_mostPoints_21 : decode cX2_mostPoints 21 = .ok (.iload_n 2, 1) := by decide +kernel
theorem dX2_mostPoints_22 : decode cX2_mostPoints 22 = .ok (.iconst (-1), 1) := by decide +kernel
theorem dX2_mostPoints_23 : decode cX2_mostPoints 23 = .ok (.if_icmp .eq 19, 3) := by decide +kernel
theorem dX2_mostPoints_26 : decode cX2_mostPoints 26 = .ok (.aload_n 0, 1) := by decide +kernel
theorem dX2_mostPoints_27 : decode cX2_mostPoints 27 = .ok (.getfield 15, 3) := by decide +kernel
theorem dX2_mostPoints_30 : decode cX2_mostPoints 30 = .ok (.iload_n 3, 1) := by decide +kernel
theorem dX2_mostPoints_31 : decode cX2_mostPoints 31 = .ok (.daload, 1) := by decide +kernel
theorem dX2_mostPoints_32 : decode cX2_mostPoints 32 = .ok (.aload_n 0, 1) := by decide +kernel
theorem dX2_mostPoints_33 : decode cX2_mostPoints 33 = .ok (.getfield 15, 3) := by decide +kernel
theorem dX2_mostPoints_36 : decode cX2_mostPoints 36 = .ok (.iload_n 2, 1) := by decide +kernel
theorem dX2_mostPoints_37 : decode cX2_mostPoints 37 = .ok (.daload, 1) := by decide +kernel
theorem dX2_mostPoints_38 : decode cX2_mostPoints 38 = .ok (.dcmp .l, 1) := by decide +kernel
theorem dX2_mostPoints_39 : decode cX2_mostPoints 39 = .ok (.ifCond .le 5, 3) := by decide +kernel
theorem dX2_mostPoints_42 : decode cX2_mostPoints 42 = .ok (.iload_n 3, 1) := by decide +kernel
theorem dX2_mostPoints_43 : decode cX2_mostPoints 43 = .ok (.istore_n 2, 1) := by decide +kernel
theorem dX2_mostPoints_44 : decode cX2_mostPoints 44 = .ok (.iinc 3 1, 3) := by decide +kernel
theorem dX2_mostPoints_47 : decode cX2_mostPoints 47 = .ok (.goto (-43), 3) := by decide +kernel
theorem dX2_mostPoints_50 : decode cX2_mostPoints 50 = .ok (.iload_n 2, 1) := by decide +kernel
theorem dX2_mostPoints_51 : decode cX2_mostPoints 51 = .ok (.ireturn, 1) := by decide +kernel
set_option maxRecDepth 20000 in
theorem ggX2_countPairs_X3_countsIn : GoodIn wsX2_countPairs wsX3_countsIn := goodIn_s [8, 9, 10, 57, 58, 59, 60, 61, 62, 63] (by rfl) (by decide +kernel)
set_option maxRecDepth 20000 in
theorem gX2_countPairs_X3_countsIn : GoodIn wsX2_countPairs (wsV RX2 71 RX3 yX3_countsIn wsX3_countsIn) := goodIn_app (goodIn_of _ (by decide +kernel)) ggX2_countPairs_X3_countsIn
set_option maxRecDepth 20000 in
theorem ggX2_countPairs_X2_addBeats : GoodIn wsX2_countPairs wsX2_addBeats := goodIn_s [15, 16, 17, 18, 19, 1, 20, 21, 22, 23, 7, 24, 25, 26, 57, 58, 59, 60, 61, 62, 63, 46, 47, 48, 49, 50, 51, 52, 53, 54, 55, 56, 39, 40, 41, 42, 43, 44, 45] (by rfl) (by decide +kernel)
set_option maxRecDepth 20000 in
theorem gX2_countPairs_X2_addBeats : GoodIn wsX2_countPairs (wsV RX2 110 RX2 yX2_addBeats wsX2_addBeats) := goodIn_app (goodIn_of _ (by decide +kernel)) ggX2_countPairs_X2_addBeats
set_option maxRecDepth 20000 in
theorem ggX2_countPairs_X2_findPaths : GoodIn wsX2_countPairs wsX2_findPaths := goodIn_s [30, 1, 31, 32, 33, 34, 35, 36, 37, 38, 39, 40, 41, 42, 43, 44, 45] (by rfl) (by decide +kernel)
set_option maxRecDepth 20000 in
theorem gX2_countPairs_X2_findPaths : GoodIn wsX2_countPairs (wsV RX2 113 RX2 yX2_findPaths wsX2_findPaths) := goodIn_app (goodIn_of _ (by decide +kernel)) ggX2_countPairs_X2_findPaths
theorem dX2_countPairs_0 : decode cX2_countPairs 0 = .ok (.iconst 0, 1) := by decide +kernel
theorem dX2_countPairs_1 : decode cX2_countPairs 1 = .ok (.istore_n 3, 1) := by decide +kernel
theorem dX2_countPairs_2 : decode cX2_countPairs 2 = .ok (.iload_n 3, 1) := by decide +kernel
theorem dX2_countPairs_3 : decode cX2_countPairs 3 = .ok (.bipush 6, 2) := by decide +kernel
theorem dX2_countPairs_5 : decode cX2_countPairs 5 = .ok (.if_icmp .ge 35, 3) := by decide +kernel
theorem dX2_countPairs_8 : decode cX2_countPairs 8 = .ok (.iconst 0, 1) := by decide +kernel
theorem dX2_countPairs_9 : decode cX2_countPairs 9 = .ok (.istore 4, 2) := by decide +kernel
theorem dX2_countPairs_11 : decode cX2_countPairs 11 = .ok (.iload 4, 2) := by decide +kernel
theorem dX2_countPairs_13 : decode cX2_countPairs 13 = .ok (.bipush 6, 2) := by decide +kernel
theorem dX2_countPairs_15 : decode cX2_countPairs 15 = .ok (.if_icmp .ge 19, 3) := by decide +kernel
theorem dX2_countPairs_18 : decode cX2_countPairs 18 = .ok (.aload_n 0, 1) := by decide +kernel
theorem dX2_countPairs_19 : decode cX2_countPairs 19 = .ok (.getfield 21, 3) := by decide +kernel
theorem dX2_countPairs_22 : decode cX2_countPairs 22 = .ok (.iload_n 3, 1) := by decide +kernel
theorem dX2_countPairs_23 : decode cX2_countPairs 23 = .ok (.aaload, 1) := by decide +kernel
theorem dX2_countPairs_24 : decode cX2_countPairs 24 = .ok (.iload 4, 2) := by decide +kernel
theorem dX2_countPairs_26 : decode cX2_countPairs 26 = .ok (.iconst 0, 1) := by decide +kernel
theorem dX2_countPairs_27 : decode cX2_countPairs 27 = .ok (.iastore, 1) := by decide +kernel
theorem dX2_countPairs_28 : decode cX2_countPairs 28 = .ok (.iinc 4 1, 3) := by decide +kernel
theorem dX2_countPairs_31 : decode cX2_countPairs 31 = .ok (.goto (-20), 3) := by decide +kernel
theorem dX2_countPairs_34 : decode cX2_countPairs 34 = .ok (.iinc 3 1, 3) := by decide +kernel
theorem dX2_countPairs_37 : decode cX2_countPairs 37 = .ok (.goto (-35), 3) := by decide +kernel
theorem dX2_countPairs_40 : decode cX2_countPairs 40 = .ok (.iconst 0, 1) := by decide +kernel
theorem dX2_countPairs_41 : decode cX2_countPairs 41 = .ok (.istore_n 3, 1) := by decide +kernel
theorem dX2_countPairs_42 : decode cX2_countPairs 42 = .ok (.iload_n 3, 1) := by decide +kernel
theorem dX2_countPairs_43 : decode cX2_countPairs 43 = .ok (.aload_n 1, 1) := by decide +kernel
theorem dX2_countPairs_44 : decode cX2_countPairs 44 = .ok (.getfield 61, 3) := by decide +kernel
theorem dX2_countPairs_47 : decode cX2_countPairs 47 = .ok (.if_icmp .ge 33, 3) := by decide +kernel
theorem dX2_countPairs_50 : decode cX2_countPairs 50 = .ok (.aload_n 1, 1) := by decide +kernel
theorem dX2_countPairs_51 : decode cX2_countPairs 51 = .ok (.getfield 67, 3) := by decide +kernel
theorem dX2_countPairs_54 : decode cX2_countPairs 54 = .ok (.iload_n 3, 1) := by decide +kernel
theorem dX2_countPairs_55 : decode cX2_countPairs 55 = .ok (.aaload, 1) := by decide +kernel
theorem dX2_countPairs_56 : decode cX2_countPairs 56 = .ok (.astore 4, 2) := by decide +kernel
theorem dX2_countPairs_58 : decode cX2_countPairs 58 = .ok (.aload 4, 2) := by decide +kernel
theorem dX2_countPairs_60 : decode cX2_countPairs 60 = .ok (.iload_n 2, 1) := by decide +kernel
theorem dX2_countPairs_61 : decode cX2_countPairs 61 = .ok (.invokevirtual 71, 3) := by decide +kernel
theorem dX2_countPairs_64 : decode cX2_countPairs 64 = .ok (.ifCond .eq 10, 3) := by decide +kernel
theorem dX2_countPairs_67 : decode cX2_countPairs 67 = .ok (.aload_n 0, 1) := by decide +kernel
theorem dX2_countPairs_68 : decode cX2_countPairs 68 = .ok (.aload_n 1, 1) := by decide +kernel
theorem dX2_countPairs_69 : decode cX2_countPairs 69 = .ok (.aload 4, 2) := by decide +kernel
theorem dX2_countPairs_71 : decode cX2_countPairs 71 = .ok (.invokevirtual 110, 3) := by decide +kernel
theorem dX2_countPairs_74 : decode cX2_countPairs 74 = .ok (.iinc 3 1, 3) := by decide +kernel
theorem dX2_countPairs_77 : decode cX2_countPairs 77 = .ok (.goto (-35), 3) := by decide +kernel
theorem dX2_countPairs_80 : decode cX2_countPairs 80 = .ok (.aload_n 0, 1) := by decide +kernel
theorem dX2_countPairs_81 : decode cX2_countPairs 81 = .ok (.invokevirtual 113, 3) := by decide +kernel
theorem dX2_countPairs_84 : decode cX2_countPairs 84 = .ok (.return_, 1) := by decide +kernel
set_option maxRecDepth 20000 in
theorem ggX2_addBeats_X3_placeOf : GoodIn wsX2_addBeats wsX3_placeOf := goodIn_s [11, 12, 13, 14, 15, 16, 17, 18, 19, 20] (by rfl) (by decide +kernel)
set_option maxRecDepth 20000 in
theorem gX2_addBeats_X3_placeOf : GoodIn wsX2_addBeats (wsV RX2 104 RX3 yX3_placeOf wsX3_placeOf) := goodIn_app (goodIn_of _ (by decide +kernel)) ggX2_addBeats_X3_placeOf
theorem dX2_addBeats_0 : decode cX2_addBeats 0 = .ok (.iconst 0, 1) := by decide +kernel
theorem dX2_addBeats_1 : decode cX2_addBeats 1 = .ok (.istore_n 3, 1) := by decide +kernel
theorem dX2_addBeats_2 : decode cX2_addBeats 2 = .ok (.iload_n 3, 1) := by decide +kernel
theorem dX2_addBeats_3 : decode cX2_addBeats 3 = .ok (.aload_n 2, 1) := by decide +kernel
theorem dX2_addBeats_4 : decode cX2_addBeats 4 = .ok (.getfield 77, 3) := by decide +kernel
theorem dX2_addBeats_7 : decode cX2_addBeats 7 = .ok (.if_icmp .ge 72, 3) := by decide +kernel
theorem dX2_addBeats_10 : decode cX2_addBeats 10 = .ok (.aload_n 2, 1) := by decide +kernel
theorem dX2_addBeats_11 : decode cX2_addBeats 11 = .ok (.getfield 80, 3) := by decide +kernel
theorem dX2_addBeats_14 : decode cX2_addBeats 14 = .ok (.iload_n 3, 1) := by decide +kernel
theorem dX2_addBeats_15 : decode cX2_addBeats 15 = .ok (.iaload, 1) := by decide +kernel
theorem dX2_addBeats_16 : decode cX2_addBeats 16 = .ok (.istore 4, 2) := by decide +kernel
theorem dX2_addBeats_18 : decode cX2_addBeats 18 = .ok (.iconst 0, 1) := by decide +kernel
theorem dX2_addBeats_19 : decode cX2_addBeats 19 = .ok (.istore 5, 2) := by decide +kernel
theorem dX2_addBeats_21 : decode cX2_addBeats 21 = .ok (.iload 5, 2) := by decide +kernel
theorem dX2_addBeats_23 : decode cX2_addBeats 23 = .ok (.aload_n 1, 1) := by decide +kernel
theorem dX2_addBeats_24 : decode cX2_addBeats 24 = .ok (.getfield 86, 3) := by decide +kernel
theorem dX2_addBeats_27 : decode cX2_addBeats 27 = .ok (.if_icmp .ge 46, 3) := by decide +kernel
theorem dX2_addBeats_30 : decode cX2_addBeats 30 = .ok (.aload_n 1, 1) := by decide +kernel
theorem dX2_addBeats_31 : decode cX2_addBeats 31 = .ok (.getfield 89, 3) := by decide +kernel
theorem dX2_addBeats_34 : decode cX2_addBeats 34 = .ok (.iload 5, 2) := by decide +kernel
theorem dX2_addBeats_36 : decode cX2_addBeats 36 = .ok (.baload, 1) := by decide +kernel
theorem dX2_addBeats_37 : decode cX2_addBeats 37 = .ok (.ifCond .eq 30, 3) := by decide +kernel
theorem dX2_addBeats_40 : decode cX2_addBeats 40 = .ok (.aload_n 2, 1) := by decide +kernel
theorem dX2_addBeats_41 : decode cX2_addBeats 41 = .ok (.iload 5, 2) := by decide +kernel
theorem dX2_addBeats_43 : decode cX2_addBeats 43 = .ok (.invokevirtual 104, 3) := by decide +kernel
theorem dX2_addBeats_46 : decode cX2_addBeats 46 = .ok (.iload_n 3, 1) := by decide +kernel
theorem dX2_addBeats_47 : decode cX2_addBeats 47 = .ok (.if_icmp .le 20, 3) := by decide +kernel
theorem dX2_addBeats_50 : decode cX2_addBeats 50 = .ok (.aload_n 0, 1) := by decide +kernel
theorem dX2_addBeats_51 : decode cX2_addBeats 51 = .ok (.getfield 21, 3) := by decide +kernel
theorem dX2_addBeats_54 : decode cX2_addBeats 54 = .ok (.iload 4, 2) := by decide +kernel
theorem dX2_addBeats_56 : decode cX2_addBeats 56 = .ok (.aaload, 1) := by decide +kernel
theorem dX2_addBeats_57 : decode cX2_addBeats 57 = .ok (.iload 5, 2) := by decide +kernel
theorem dX2_addBeats_59 : decode cX2_addBeats 59 = .ok (.dup2, 1) := by decide +kernel
theorem dX2_addBeats_60 : decode cX2_addBeats 60 = .ok (.iaload, 1) := by decide +kernel
theorem dX2_addBeats_61 : decode cX2_addBeats 61 = .ok (.aload_n 2, 1) := by decide +kernel
theorem dX2_addBeats_62 : decode cX2_addBeats 62 = .ok (.getfield 83, 3) := by decide +kernel
theorem dX2_addBeats_65 : decode cX2_addBeats 65 = .ok (.iadd, 1) := by decide +kernel
theorem dX2_addBeats_66 : decode cX2_addBeats 66 = .ok (.iastore, 1) := by decide +kernel
theorem dX2_addBeats_67 : decode cX2_addBeats 67 = .ok (.iinc 5 1, 3) := by decide +kernel
theorem dX2_addBeats_70 : decode cX2_addBeats 70 = .ok (.goto (-49), 3) := by decide +kernel
theorem dX2_addBeats_73 : decode cX2_addBeats 73 = .ok (.iinc 3 1, 3) := by decide +kernel
theorem dX2_addBeats_76 : decode cX2_addBeats 76 = .ok (.goto (-74), 3) := by decide +kernel
theorem dX2_addBeats_79 : decode cX2_addBeats 79 = .ok (.return_, 1) := by decide +kernel
theorem dX2_findPaths_0 : decode cX2_findPaths 0 = .ok (.iconst 0, 1) := by decide +kernel
theorem dX2_findPaths_1 : decode cX2_findPaths 1 = .ok (.istore_n 1, 1) := by decide +kernel
theorem dX2_findPaths_2 : decode cX2_findPaths 2 = .ok (.iload_n 1, 1) := by decide +kernel
theorem dX2_findPaths_3 : decode cX2_findPaths 3 = .ok (.bipush 6, 2) := by decide +kernel
theorem dX2_findPaths_5 : decode cX2_findPaths 5 = .ok (.if_icmp .ge 57, 3) := by decide +kernel
theorem dX2_findPaths_8 : decode cX2_findPaths 8 = .ok (.iconst 0, 1) := by decide +kernel
theorem dX2_findPaths_9 : decode cX2_findPaths 9 = .ok (.istore_n 2, 1) := by decide +kernel
theorem dX2_findPaths_10 : decode cX2_findPaths 10 = .ok (.iload_n 2, 1) := by decide +kernel
theorem dX2_findPaths_11 : decode cX2_findPaths 11 = .ok (.bipush 6, 2) := by decide +kernel
theorem dX2_findPaths_13 : decode cX2_findPaths 13 = .ok (.if_icmp .ge 43, 3) := by decide +kernel
theorem dX2_findPaths_16 : decode cX2_findPaths 16 = .ok (.aload_n 0, 1) := by decide +kernel
theorem dX2_findPaths_17 : decode cX2_findPaths 17 = .ok (.getfield 21, 3) := by decide +kernel
theorem dX2_findPaths_20 : decode cX2_findPaths 20 = .ok (.iload_n 1, 1) := by decide +kernel
theorem dX2_findPaths_21 : decode cX2_findPaths 21 = .ok (.aaload, 1) := by decide +kernel
theorem dX2_findPaths_22 : decode cX2_findPaths 22 = .ok (.iload_n 2, 1) := by decide +kernel
theorem dX2_findPaths_23 : decode cX2_findPaths 23 = .ok (.iaload, 1) := by decide +kernel
theorem dX2_findPaths_24 : decode cX2_findPaths 24 = .ok (.istore_n 3, 1) := by decide +kernel
theorem dX2_findPaths_25 : decode cX2_findPaths 25 = .ok (.aload_n 0, 1) := by decide +kernel
theorem dX2_findPaths_26 : decode cX2_findPaths 26 = .ok (.getfield 24, 3) := by decide +kernel
theorem dX2_findPaths_29 : decode cX2_findPaths 29 = .ok (.iload_n 1, 1) := by decide +kernel
theorem dX2_findPaths_30 : decode cX2_findPaths 30 = .ok (.aaload, 1) := by decide +kernel
theorem dX2_findPaths_31 : decode cX2_findPaths 31 = .ok (.iload_n 2, 1) := by decide +kernel
theorem dX2_findPaths_32 : decode cX2_findPaths 32 = .ok (.iload_n 3, 1) := by decide +kernel
theorem dX2_findPaths_33 : decode cX2_findPaths 33 = .ok (.aload_n 0, 1) := by decide +kernel
theorem dX2_findPaths_34 : decode cX2_findPaths 34 = .ok (.getfield 21, 3) := by decide +kernel
theorem dX2_findPaths_37 : decode cX2_findPaths 37 = .ok (.iload_n 2, 1) := by decide +kernel
theorem dX2_findPaths_38 : decode cX2_findPaths 38 = .ok (.aaload, 1) := by decide +kernel
theorem dX2_findPaths_39 : decode cX2_findPaths 39 = .ok (.iload_n 1, 1) := by decide +kernel
theorem dX2_findPaths_40 : decode cX2_findPaths 40 = .ok (.iaload, 1) := by decide +kernel
theorem dX2_findPaths_41 : decode cX2_findPaths 41 = .ok (.if_icmp .le 7, 3) := by decide +kernel
theorem dX2_findPaths_44 : decode cX2_findPaths 44 = .ok (.iload_n 3, 1) := by decide +kernel
theorem dX2_findPaths_45 : decode cX2_findPaths 45 = .ok (.goto 4, 3) := by decide +kernel
theorem dX2_findPaths_48 : decode cX2_findPaths 48 = .ok (.iconst 0, 1) := by decide +kernel
theorem dX2_findPaths_49 : decode cX2_findPaths 49 = .ok (.iastore, 1) := by decide +kernel
theorem dX2_findPaths_50 : decode cX2_findPaths 50 = .ok (.iinc 2 1, 3) := by decide +kernel
theorem dX2_findPaths_53 : decode cX2_findPaths 53 = .ok (.goto (-43), 3) := by decide +kernel
theorem dX2_findPaths_56 : decode cX2_findPaths 56 = .ok (.iinc 1 1, 3) := by decide +kernel
theorem dX2_findPaths_59 : decode cX2_findPaths 59 = .ok (.goto (-57), 3) := by decide +kernel
theorem dX2_findPaths_62 : decode cX2_findPaths 62 = .ok (.iconst 0, 1) := by decide +kernel
theorem dX2_findPaths_63 : decode cX2_findPaths 63 = .ok (.istore_n 1, 1) := by decide +kernel
theorem dX2_findPaths_64 : decode cX2_findPaths 64 = .ok (.iload_n 1, 1) := by decide +kernel
theorem dX2_findPaths_65 : decode cX2_findPaths 65 = .ok (.bipush 6, 2) := by decide +kernel
theorem dX2_findPaths_67 : decode cX2_findPaths 67 = .ok (.if_icmp .ge 79, 3) := by decide +kernel
theorem dX2_findPaths_70 : decode cX2_findPaths 70 = .ok (.iconst 0, 1) := by decide +kernel
theorem dX2_findPaths_71 : decode cX2_findPaths 71 = .ok (.istore_n 2, 1) := by decide +kernel
theorem dX2_findPaths_72 : decode cX2_findPaths 72 = .ok (.iload_n 2, 1) := by decide +kernel
theorem dX2_findPaths_73 : decode cX2_findPaths 73 = .ok (.bipush 6, 2) := by decide +kernel
theorem dX2_findPaths_75 : decode cX2_findPaths 75 = .ok (.if_icmp .ge 65, 3) := by decide +kernel
theorem dX2_findPaths_78 : decode cX2_findPaths 78 = .ok (.iconst 0, 1) := by decide +kernel
theorem dX2_findPaths_79 : decode cX2_findPaths 79 = .ok (.istore_n 3, 1) := by decide +kernel
theorem dX2_findPaths_80 : decode cX2_findPaths 80 = .ok (.iload_n 3, 1) := by decide +kernel
theorem dX2_findPaths_81 : decode cX2_findPaths 81 = .ok (.bipush 6, 2) := by decide +kernel
theorem dX2_findPaths_83 : decode cX2_findPaths 83 = .ok (.if_icmp .ge 51, 3) := by decide +kernel
theorem dX2_findPaths_86 : decode cX2_findPaths 86 = .ok (.aload_n 0, 1) := by decide +kernel
theorem dX2_findPaths_87 : decode cX2_findPaths 87 = .ok (.getfield 24, 3) := by decide +kernel
theorem dX2_findPaths_90 : decode cX2_findPaths 90 = .ok (.iload_n 2, 1) := by decide +kernel
theorem dX2_findPaths_91 : decode cX2_findPaths 91 = .ok (.aaload, 1) := by decide +kernel
theorem dX2_findPaths_92 : decode cX2_findPaths 92 = .ok (.iload_n 1, 1) := by decide +kernel
theorem dX2_findPaths_93 : decode cX2_findPaths 93 = .ok (.iaload, 1) := by decide +kernel
theorem dX2_findPaths_94 : decode cX2_findPaths 94 = .ok (.aload_n 0, 1) := by decide +kernel
theorem dX2_findPaths_95 : decode cX2_findPaths 95 = .ok (.getfield 24, 3) := by decide +kernel
theorem dX2_findPaths_98 : decode cX2_findPaths 98 = .ok (.iload_n 1, 1) := by decide +kernel
theorem dX2_findPaths_99 : decode cX2_findPaths 99 = .ok (.aaload, 1) := by decide +kernel
theorem dX2_findPaths_100 : decode cX2_findPaths 100 = .ok (.iload_n 3, 1) := by decide +kernel
theorem dX2_findPaths_101 : decode cX2_findPaths 101 = .ok (.iaload, 1) := by decide +kernel
theorem dX2_findPaths_102 : decode cX2_findPaths 102 = .ok (.invokestatic 116, 3) := by decide +kernel
theorem dX2_findPaths_105 : decode cX2_findPaths 105 = .ok (.istore 4, 2) := by decide +kernel
theorem dX2_findPaths_107 : decode cX2_findPaths 107 = .ok (.aload_n 0, 1) := by decide +kernel
theorem dX2_findPaths_108 : decode cX2_findPaths 108 = .ok (.getfield 24, 3) := by decide +kernel
theorem dX2_findPaths_111 : decode cX2_findPaths 111 = .ok (.iload_n 2, 1) := by decide +kernel
theorem dX2_findPaths_112 : decode cX2_findPaths 112 = .ok (.aaload, 1) := by decide +kernel
theorem dX2_findPaths_113 : decode cX2_findPaths 113 = .ok (.iload_n 3, 1) := by decide +kernel
theorem dX2_findPaths_114 : decode cX2_findPaths 114 = .ok (.aload_n 0, 1) := by decide +kernel
theorem dX2_findPaths_115 : decode cX2_findPaths 115 = .ok (.getfield 24, 3) := by decide +kernel
theorem dX2_findPaths_118 : decode cX2_findPaths 118 = .ok (.iload_n 2, 1) := by decide +kernel
theorem dX2_findPaths_119 : decode cX2_findPaths 119 = .ok (.aaload, 1) := by decide +kernel
theorem dX2_findPaths_120 : decode cX2_findPaths 120 = .ok (.iload_n 3, 1) := by decide +kernel
theorem dX2_findPaths_121 : decode cX2_findPaths 121 = .ok (.iaload, 1) := by decide +kernel
theorem dX2_findPaths_122 : decode cX2_findPaths 122 = .ok (.iload 4, 2) := by decide +kernel
theorem dX2_findPaths_124 : decode cX2_findPaths 124 = .ok (.invokestatic 122, 3) := by decide +kernel
theorem dX2_findPaths_127 : decode cX2_findPaths 127 = .ok (.iastore, 1) := by decide +kernel
theorem dX2_findPaths_128 : decode cX2_findPaths 128 = .ok (.iinc 3 1, 3) := by decide +kernel
theorem dX2_findPaths_131 : decode cX2_findPaths 131 = .ok (.goto (-51), 3) := by decide +kernel
theorem dX2_findPaths_134 : decode cX2_findPaths 134 = .ok (.iinc 2 1, 3) := by decide +kernel
theorem dX2_findPaths_137 : decode cX2_findPaths 137 = .ok (.goto (-65), 3) := by decide +kernel
theorem dX2_findPaths_140 : decode cX2_findPaths 140 = .ok (.iinc 1 1, 3) := by decide +kernel
theorem dX2_findPaths_143 : decode cX2_findPaths 143 = .ok (.goto (-79), 3) := by decide +kernel
theorem dX2_findPaths_146 : decode cX2_findPaths 146 = .ok (.return_, 1) := by decide +kernel
set_option maxRecDepth 20000 in
theorem ggX2_widestPaths_X2_isNowhereNarrower : GoodIn wsX2_widestPaths wsX2_isNowhereNarrower := goodIn_s [7, 1, 2, 8, 9, 10, 11, 12, 13, 14, 15, 16, 17, 18, 19, 20, 21, 22, 23, 24, 25, 26] (by rfl) (by decide +kernel)
set_option maxRecDepth 20000 in
theorem gX2_widestPaths_X2_isNowhereNarrower : GoodIn wsX2_widestPaths (wsV RX2 125 RX2 yX2_isNowhereNarrower wsX2_isNowhereNarrower) := goodIn_app (goodIn_of _ (by decide +kernel)) ggX2_widestPaths_X2_isNowhereNarrower
theorem dX2_widestPaths_0 : decode cX2_widestPaths 0 = .ok (.iconst 0, 1) := by decide +kernel
theorem dX2_widestPaths_1 : decode cX2_widestPaths 1 = .ok (.istore_n 2, 1) := by decide +kernel
theorem dX2_widestPaths_2 : decode cX2_widestPaths 2 = .ok (.iload_n 2, 1) := by decide +kernel
theorem dX2_widestPaths_3 : decode cX2_widestPaths 3 = .ok (.aload_n 1, 1) := by decide +kernel
theorem dX2_widestPaths_4 : decode cX2_widestPaths 4 = .ok (.getfield 86, 3) := by decide +kernel
theorem dX2_widestPaths_7 : decode cX2_widestPaths 7 = .ok (.if_icmp .ge 29, 3) := by decide +kernel
theorem dX2_widestPaths_10 : decode cX2_widestPaths 10 = .ok (.aload_n 1, 1) := by decide +kernel
theorem dX2_widestPaths_11 : decode cX2_widestPaths 11 = .ok (.getfield 89, 3) := by decide +kernel
theorem dX2_widestPaths_14 : decode cX2_widestPaths 14 = .ok (.iload_n 2, 1) := by decide +kernel
theorem dX2_widestPaths_15 : decode cX2_widestPaths 15 = .ok (.baload, 1) := by decide +kernel
theorem dX2_widestPaths_16 : decode cX2_widestPaths 16 = .ok (.ifCond .eq 14, 3) := by decide +kernel
theorem dX2_widestPaths_19 : decode cX2_widestPaths 19 = .ok (.aload_n 0, 1) := by decide +kernel
theorem dX2_widestPaths_20 : decode cX2_widestPaths 20 = .ok (.aload_n 1, 1) := by decide +kernel
theorem dX2_widestPaths_21 : decode cX2_widestPaths 21 = .ok (.iload_n 2, 1) := by decide +kernel
theorem dX2_widestPaths_22 : decode cX2_widestPaths 22 = .ok (.invokevirtual 125, 3) := by decide +kernel
theorem dX2_widestPaths_25 : decode cX2_widestPaths 25 = .ok (.ifCond .eq 5, 3) := by decide +kernel
theorem dX2_widestPaths_28 : decode cX2_widestPaths 28 = .ok (.iload_n 2, 1) := by decide +kernel
theorem dX2_widestPaths_29 : decode cX2_widestPaths 29 = .ok (.ireturn, 1) := by decide +kernel
theorem dX2_widestPaths_30 : decode cX2_widestPaths 30 = .ok (.iinc 2 1, 3) := by decide +kernel
theorem dX2_widestPaths_33 : decode cX2_widestPaths 33 = .ok (.goto (-31), 3) := by decide +kernel
theorem dX2_widestPaths_36 : decode cX2_widestPaths 36 = .ok (.iconst (-1), 1) := by decide +kernel
theorem dX2_widestPaths_37 : decode cX2_widestPaths 37 = .ok (.ireturn, 1) := by decide +kernel
theorem dX2_isNowhereNarrower_0 : decode cX2_isNowhereNarrower 0 = .ok (.iconst 0, 1) := by decide +kernel
theorem dX2_isNowhereNarrower_1 : decode cX2_isNowhereNarrower 1 = .ok (.istore_n 3, 1) := by decide +kernel
theorem dX2_isNowhereNarrower_2 : decode cX2_isNowhereNarrower 2 = .ok (.iload_n 3, 1) := by decide +kernel
theorem dX2_isNowhereNarrower_3 : decode cX2_isNowhereNarrower 3 = .ok (.aload_n 1, 1) := by decide +kernel
theorem dX2_isNowhereNarrower_4 : decode cX2_isNowhereNarrower 4 = .ok (.getfield 86, 3) := by decide +kernel
theorem dX2_isNowhereNarrower_7 : decode cX2_isNowhereNarrower 7 = .ok (.if_icmp .ge 39, 3) := by decide +kernel
theorem dX2_isNowhereNarrower_10 : decode cX2_isNowhereNarrower 10 = .ok (.aload_n 1, 1) := by decide +kernel
theorem dX2_isNowhereNarrower_11 : decode cX2_isNowhereNarrower 11 = .ok (.getfield 89, 3) := by decide +kernel
theorem dX2_isNowhereNarrower_14 : decode cX2_isNowhereNarrower 14 = .ok (.iload_n 3, 1) := by decide +kernel
theorem dX2_isNowhereNarrower_15 : decode cX2_isNowhereNarrower 15 = .ok (.baload, 1) := by decide +kernel
theorem dX2_isNowhereNarrower_16 : decode cX2_isNowhereNarrower 16 = .ok (.ifCond .eq 24, 3) := by decide +kernel
theorem dX2_isNowhereNarrower_19 : decode cX2_isNowhereNarrower 19 = .ok (.aload_n 0, 1) := by decide +kernel
theorem dX2_isNowhereNarrower_20 : decode cX2_isNowhereNarrower 20 = .ok (.getfield 24, 3) := by decide +kernel
theorem dX2_isNowhereNarrower_23 : decode cX2_isNowhereNarrower 23 = .ok (.iload_n 2, 1) := by decide +kernel
theorem dX2_isNowhereNarrower_24 : decode cX2_isNowhereNarrower 24 = .ok (.aaload, 1) := by decide +kernel
theorem dX2_isNowhereNarrower_25 : decode cX2_isNowhereNarrower 25 = .ok (.iload_n 3, 1) := by decide +kernel
theorem dX2_isNowhereNarrower_26 : decode cX2_isNowhereNarrower 26 = .ok (.iaload, 1) := by decide +kernel
theorem dX2_isNowhereNarrower_27 : decode cX2_isNowhereNarrower 27 = .ok (.aload_n 0, 1) := by decide +kernel
theorem dX2_isNowhereNarrower_28 : decode cX2_isNowhereNarrower 28 = .ok (.getfield 24, 3) := by decide +kernel
theorem dX2_isNowhereNarrower_31 : decode cX2_isNowhereNarrower 31 = .ok (.iload_n 3, 1) := by decide +kernel
theorem dX2_isNowhereNarrower_32 : decode cX2_isNowhereNarrower 32 = .ok (.aaload, 1) := by decide +kernel
theorem dX2_isNowhereNarrower_33 : decode cX2_isNowhereNarrower 33 = .ok (.iload_n 2, 1) := by decide +kernel
theorem dX2_isNowhereNarrower_34 : decode cX2_isNowhereNarrower 34 = .ok (.iaload, 1) := by decide +kernel
theorem dX2_isNowhereNarrower_35 : decode cX2_isNowhereNarrower 35 = .ok (.if_icmp .ge 5, 3) := by decide +kernel
theorem dX2_isNowhereNarrower_38 : decode cX2_isNowhereNarrower 38 = .ok (.iconst 0, 1) := by decide +kernel
theorem dX2_isNowhereNarrower_39 : decode cX2_isNowhereNarrower 39 = .ok (.ireturn, 1) := by decide +kernel
theorem dX2_isNowhereNarrower_40 : decode cX2_isNowhereNarrower 40 = .ok (.iinc 3 1, 3) := by decide +kernel
theorem dX2_isNowhereNarrower_43 : decode cX2_isNowhereNarrower 43 = .ok (.goto (-41), 3) := by decide +kernel
theorem dX2_isNowhereNarrower_46 : decode cX2_isNowhereNarrower 46 = .ok (.iconst 1, 1) := by decide +kernel
theorem dX2_isNowhereNarrower_47 : decode cX2_isNowhereNarrower 47 = .ok (.ireturn, 1) := by decide +kernel
set_option maxRecDepth 20000 in
theorem ggX2_goRounds_X2_countPoints : GoodIn wsX2_goRounds wsX2_countPoints := goodIn_s [9, 10, 11, 12, 13, 14, 15, 16, 17, 18, 19, 20, 21, 22, 23, 24, 25, 26, 27, 28, 29, 30, 8, 31, 3, 32, 33, 34, 35, 36, 37, 38, 39, 40, 41, 42, 63, 64, 65, 66, 67, 68, 69, 70, 71, 72, 73, 74, 75, 76, 77, 78, 79, 80, 81, 82, 83, 84, 85, 86, 87] (by rfl) (by decide +kernel)
set_option maxRecDepth 20000 in
theorem gX2_goRounds_X2_countPoints : GoodIn wsX2_goRounds (wsV RX2 45 RX2 yX2_countPoints wsX2_countPoints) := goodIn_app (goodIn_of _ (by decide +kernel)) ggX2_goRounds_X2_countPoints
set_option maxRecDepth 20000 in
theorem ggX2_goRounds_X0_isStanding : GoodIn wsX2_goRounds wsX0_isStanding := goodIn_s [18, 19, 20, 70, 71, 72, 73, 74, 75, 76, 77, 78, 79, 80] (by rfl) (by decide +kernel)
set_option maxRecDepth 20000 in
theorem gX2_goRounds_X0_isStanding : GoodIn wsX2_goRounds (wsV RX2 92 RX0 yX0_isStanding wsX0_isStanding) := goodIn_app (goodIn_of _ (by decide +kernel)) ggX2_goRounds_X0_isStanding
set_option maxRecDepth 20000 in
theorem ggX2_goRounds_X2_countBehind : GoodIn wsX2_goRounds wsX2_countBehind := goodIn_s [46, 4, 12, 13, 1, 35, 21, 22, 23, 24, 25, 26, 27, 47, 48, 49, 50, 41, 42, 63, 64, 65, 66, 67, 68, 69, 70, 71, 72, 73, 74, 75, 76, 77, 78, 79, 80, 81, 82, 83, 84, 85, 86, 87] (by rfl) (by decide +kernel)
set_option maxRecDepth 20000 in
theorem gX2_goRounds_X2_countBehind : GoodIn wsX2_goRounds (wsV RX2 129 RX2 yX2_countBehind wsX2_countBehind) := goodIn_app (goodIn_of _ (by decide +kernel)) ggX2_goRounds_X2_countBehind
set_option maxRecDepth 20000 in
theorem ggX2_goRounds_X2_mostBehind : GoodIn wsX2_goRounds wsX2_mostBehind := goodIn_s [54, 1, 4, 63, 64, 65, 66, 67, 68, 69] (by rfl) (by decide +kernel)
set_option maxRecDepth 20000 in
theorem gX2_goRounds_X2_mostBehind : GoodIn wsX2_goRounds (wsV RX2 132 RX2 yX2_mostBehind wsX2_mostBehind) := goodIn_app (goodIn_of _ (by decide +kernel)) ggX2_goRounds_X2_mostBehind
set_option maxRecDepth 20000 in
theorem ggX2_goRounds_X2_leastBehind : GoodIn wsX2_goRounds wsX2_leastBehind := goodIn_s [58, 1, 59, 60, 61, 8, 62, 4, 10, 63, 64, 65, 66, 67, 68, 69] (by rfl) (by decide +kernel)
set_option maxRecDepth 20000 in
theorem gX2_goRounds_X2_leastBehind : GoodIn wsX2_goRounds (wsV RX2 136 RX2 yX2_leastBehind wsX2_leastBehind) := goodIn_app (goodIn_of _ (by decide +kernel)) ggX2_goRounds_X2_leastBehind
theorem dX2_goRounds_0 : decode cX2_goRounds 0 = .ok (.aload_n 0, 1) := by decide +kernel
theorem dX2_goRounds_1 : decode cX2_goRounds 1 = .ok (.aload_n 1, 1) := by decide +kernel
theorem dX2_goRounds_2 : decode cX2_goRounds 2 = .ok (.iload_n 2, 1) := by decide +kernel
theorem dX2_goRounds_3 : decode cX2_goRounds 3 = .ok (.invokevirtual 45, 3) := by decide +kernel
theorem dX2_goRounds_6 : decode cX2_goRounds 6 = .ok (.iconst 0, 1) := by decide +kernel
theorem dX2_goRounds_7 : decode cX2_goRounds 7 = .ok (.istore_n 3, 1) := by decide +kernel
theorem dX2_goRounds_8 : decode cX2_goRounds 8 = .ok (.iload_n 3, 1) := by decide +kernel
theorem dX2_goRounds_9 : decode cX2_goRounds 9 = .ok (.bipush 6, 2) := by decide +kernel
theorem dX2_goRounds_11 : decode cX2_goRounds 11 = .ok (.if_icmp .ge 27, 3) := by decide +kernel
theorem dX2_goRounds_14 : decode cX2_goRounds 14 = .ok (.aload_n 0, 1) := by decide +kernel
theorem dX2_goRounds_15 : decode cX2_goRounds 15 = .ok (.getfield 30, 3) := by decide +kernel
theorem dX2_goRounds_18 : decode cX2_goRounds 18 = .ok (.iload_n 3, 1) := by decide +kernel
theorem dX2_goRounds_19 : decode cX2_goRounds 19 = .ok (.aload_n 1, 1) := by decide +kernel
theorem dX2_goRounds_20 : decode cX2_goRounds 20 = .ok (.iload_n 3, 1) := by decide +kernel
theorem dX2_goRounds_21 : decode cX2_goRounds 21 = .ok (.invokevirtual 92, 3) := by decide +kernel
theorem dX2_goRounds_24 : decode cX2_goRounds 24 = .ok (.bastore, 1) := by decide +kernel
theorem dX2_goRounds_25 : decode cX2_goRounds 25 = .ok (.aload_n 0, 1) := by decide +kernel
theorem dX2_goRounds_26 : decode cX2_goRounds 26 = .ok (.getfield 27, 3) := by decide +kernel
theorem dX2_goRounds_29 : decode cX2_goRounds 29 = .ok (.iload_n 3, 1) := by decide +kernel
theorem dX2_goRounds_30 : decode cX2_goRounds 30 = .ok (.iconst (-1), 1) := by decide +kernel
theorem dX2_goRounds_31 : decode cX2_goRounds 31 = .ok (.iastore, 1) := by decide +kernel
theorem dX2_goRounds_32 : decode cX2_goRounds 32 = .ok (.iinc 3 1, 3) := by decide +kernel
theorem dX2_goRounds_35 : decode cX2_goRounds 35 = .ok (.goto (-27), 3) := by decide +kernel
theorem dX2_goRounds_38 : decode cX2_goRounds 38 = .ok (.iconst 0, 1) := by decide +kernel
theorem dX2_goRounds_39 : decode cX2_goRounds 39 = .ok (.istore_n 3, 1) := by decide +kernel
theorem dX2_goRounds_40 : decode cX2_goRounds 40 = .ok (.iload_n 3, 1) := by decide +kernel
theorem dX2_goRounds_41 : decode cX2_goRounds 41 = .ok (.bipush 6, 2) := by decide +kernel
theorem dX2_goRounds_43 : decode cX2_goRounds 43 = .ok (.if_icmp .ge 94, 3) := by decide +kernel
theorem dX2_goRounds_46 : decode cX2_goRounds 46 = .ok (.aload_n 0, 1) := by decide +kernel
theorem dX2_goRounds_47 : decode cX2_goRounds 47 = .ok (.aload_n 1, 1) := by decide +kernel
theorem dX2_goRounds_48 : decode cX2_goRounds 48 = .ok (.iload_n 2, 1) := by decide +kernel
theorem dX2_goRounds_49 : decode cX2_goRounds 49 = .ok (.invokevirtual 129, 3) := by decide +kernel
theorem dX2_goRounds_52 : decode cX2_goRounds 52 = .ok (.istore 4, 2) := by decide +kernel
theorem dX2_goRounds_54 : decode cX2_goRounds 54 = .ok (.aload_n 0, 1) := by decide +kernel
theorem dX2_goRounds_55 : decode cX2_goRounds 55 = .ok (.invokevirtual 132, 3) := by decide +kernel
theorem dX2_goRounds_58 : decode cX2_goRounds 58 = .ok (.istore 5, 2) := by decide +kernel
theorem dX2_goRounds_60 : decode cX2_goRounds 60 = .ok (.iload 5, 2) := by decide +kernel
theorem dX2_goRounds_62 : decode cX2_goRounds 62 = .ok (.iconst (-1), 1) := by decide +kernel
theorem dX2_goRounds_63 : decode cX2_goRounds 63 = .ok (.if_icmp .ne 5, 3) := by decide +kernel
theorem dX2_goRounds_66 : decode cX2_goRounds 66 = .ok (.iconst (-1), 1) := by decide +kernel
theorem dX2_goRounds_67 : decode cX2_goRounds 67 = .ok (.ireturn, 1) := by decide +kernel
theorem dX2_goRounds_68 : decode cX2_goRounds 68 = .ok (.aload_n 1, 1) := by decide +kernel
theorem dX2_goRounds_69 : decode cX2_goRounds 69 = .ok (.getfield 101, 3) := by decide +kernel
theorem dX2_goRounds_72 : decode cX2_goRounds 72 = .ok (.iload_n 3, 1) := by decide +kernel
theorem dX2_goRounds_73 : decode cX2_goRounds 73 = .ok (.isub, 1) := by decide +kernel
theorem dX2_goRounds_74 : decode cX2_goRounds 74 = .ok (.iconst 1, 1) := by decide +kernel
theorem dX2_goRounds_75 : decode cX2_goRounds 75 = .ok (.if_icmp .ne 7, 3) := by decide +kernel
theorem dX2_goRounds_78 : decode cX2_goRounds 78 = .ok (.iconst 1, 1) := by decide +kernel
theorem dX2_goRounds_79 : decode cX2_goRounds 79 = .ok (.goto 4, 3) := by decide +kernel
theorem dX2_goRounds_82 : decode cX2_goRounds 82 = .ok (.iconst 0, 1) := by decide +kernel
theorem dX2_goRounds_83 : decode cX2_goRounds 83 = .ok (.istore 6, 2) := by decide +kernel
theorem dX2_goRounds_85 : decode cX2_goRounds 85 = .ok (.iload 6, 2) := by decide +kernel
theorem dX2_goRounds_87 : decode cX2_goRounds 87 = .ok (.ifCond .ne 17, 3) := by decide +kernel
theorem dX2_goRounds_90 : decode cX2_goRounds 90 = .ok (.iconst 2, 1) := by decide +kernel
theorem dX2_goRounds_91 : decode cX2_goRounds 91 = .ok (.aload_n 0, 1) := by decide +kernel
theorem dX2_goRounds_92 : decode cX2_goRounds 92 = .ok (.getfield 34, 3) := by decide +kernel
theorem dX2_goRounds_95 : decode cX2_goRounds 95 = .ok (.iload 5, 2) := by decide +kernel
theorem dX2_goRounds_97 : decode cX2_goRounds 97 = .ok (.iaload, 1) := by decide +kernel
theorem dX2_goRounds_98 : decode cX2_goRounds 98 = .ok (.imul, 1) := by decide +kernel
theorem dX2_goRounds_99 : decode cX2_goRounds 99 = .ok (.iload 4, 2) := by decide +kernel
theorem dX2_goRounds_101 : decode cX2_goRounds 101 = .ok (.if_icmp .le 6, 3) := by decide +kernel
theorem dX2_goRounds_104 : decode cX2_goRounds 104 = .ok (.iload 5, 2) := by decide +kernel
theorem dX2_goRounds_106 : decode cX2_goRounds 106 = .ok (.ireturn, 1) := by decide +kernel
theorem dX2_goRounds_107 : decode cX2_goRounds 107 = .ok (.aload_n 0, 1) := by decide +kernel
theorem dX2_goRounds_108 : decode cX2_goRounds 108 = .ok (.iload 5, 2) := by decide +kernel
theorem dX2_goRounds_110 : decode cX2_goRounds 110 = .ok (.invokevirtual 136, 3) := by decide +kernel
theorem dX2_goRounds_113 : decode cX2_goRounds 113 = .ok (.istore 7, 2) := by decide +kernel
theorem dX2_goRounds_115 : decode cX2_goRounds 115 = .ok (.aload_n 0, 1) := by decide +kernel
theorem dX2_goRounds_116 : decode cX2_goRounds 116 = .ok (.getfield 30, 3) := by decide +kernel
theorem dX2_goRounds_119 : decode cX2_goRounds 119 = .ok (.iload 7, 2) := by decide +kernel
theorem dX2_goRounds_121 : decode cX2_goRounds 121 = .ok (.iconst 0, 1) := by decide +kernel
theorem dX2_goRounds_122 : decode cX2_goRounds 122 = .ok (.bastore, 1) := by decide +kernel
theorem dX2_goRounds_123 : decode cX2_goRounds 123 = .ok (.aload_n 0, 1) := by decide +kernel
theorem dX2_goRounds_124 : decode cX2_goRounds 124 = .ok (.getfield 27, 3) := by decide +kernel
theorem dX2_goRounds_127 : decode cX2_goRounds 127 = .ok (.iload_n 3, 1) := by decide +kernel
theorem dX2_goRounds_128 : decode cX2_goRounds 128 = .ok (.iload 7, 2) := by decide +kernel
theorem dX2_goRounds_130 : decode cX2_goRounds 130 = .ok (.iastore, 1) := by decide +kernel
theorem dX2_goRounds_131 : decode cX2_goRounds 131 = .ok (.iinc 3 1, 3) := by decide +kernel
theorem dX2_goRounds_134 : decode cX2_goRounds 134 = .ok (.goto (-94), 3) := by decide +kernel
theorem dX2_goRounds_137 : decode cX2_goRounds 137 = .ok (.iconst (-1), 1) := by decide +kernel
theorem dX2_goRounds_138 : decode cX2_goRounds 138 = .ok (.ireturn, 1) := by decide +kernel
set_option maxRecDepth 20000 in
theorem ggX2_countBehind_X3_countsIn : GoodIn wsX2_countBehind wsX3_countsIn := goodIn_s [10, 11, 12, 37, 38, 39, 40, 41, 42, 43] (by rfl) (by decide +kernel)
set_option maxRecDepth 20000 in
theorem gX2_countBehind_X3_countsIn : GoodIn wsX2_countBehind (wsV RX2 71 RX3 yX3_countsIn wsX3_countsIn) := goodIn_app (goodIn_of _ (by decide +kernel)) ggX2_countBehind_X3_countsIn
set_option maxRecDepth 20000 in
theorem ggX2_countBehind_X3_firstOf : GoodIn wsX2_countBehind wsX3_firstOf := goodIn_s [16, 17, 18, 37, 38, 39, 40, 41, 42, 43] (by rfl) (by decide +kernel)
set_option maxRecDepth 20000 in
theorem gX2_countBehind_X3_firstOf : GoodIn wsX2_countBehind (wsV RX2 139 RX3 yX3_firstOf wsX3_firstOf) := goodIn_app (goodIn_of _ (by decide +kernel)) ggX2_countBehind_X3_firstOf
theorem dX2_countBehind_0 : decode cX2_countBehind 0 = .ok (.iconst 0, 1) := by decide +kernel
theorem dX2_countBehind_1 : decode cX2_countBehind 1 = .ok (.istore_n 3, 1) := by decide +kernel
theorem dX2_countBehind_2 : decode cX2_countBehind 2 = .ok (.iload_n 3, 1) := by decide +kernel
theorem dX2_countBehind_3 : decode cX2_countBehind 3 = .ok (.bipush 6, 2) := by decide +kernel
theorem dX2_countBehind_5 : decode cX2_countBehind 5 = .ok (.if_icmp .ge 16, 3) := by decide +kernel
theorem dX2_countBehind_8 : decode cX2_countBehind 8 = .ok (.aload_n 0, 1) := by decide +kernel
theorem dX2_countBehind_9 : decode cX2_countBehind 9 = .ok (.getfield 34, 3) := by decide +kernel
theorem dX2_countBehind_12 : decode cX2_countBehind 12 = .ok (.iload_n 3, 1) := by decide +kernel
theorem dX2_countBehind_13 : decode cX2_countBehind 13 = .ok (.iconst 0, 1) := by decide +kernel
theorem dX2_countBehind_14 : decode cX2_countBehind 14 = .ok (.iastore, 1) := by decide +kernel
theorem dX2_countBehind_15 : decode cX2_countBehind 15 = .ok (.iinc 3 1, 3) := by decide +kernel
theorem dX2_countBehind_18 : decode cX2_countBehind 18 = .ok (.goto (-16), 3) := by decide +kernel
theorem dX2_countBehind_21 : decode cX2_countBehind 21 = .ok (.iconst 0, 1) := by decide +kernel
theorem dX2_countBehind_22 : decode cX2_countBehind 22 = .ok (.istore_n 3, 1) := by decide +kernel
theorem dX2_countBehind_23 : decode cX2_countBehind 23 = .ok (.iconst 0, 1) := by decide +kernel
theorem dX2_countBehind_24 : decode cX2_countBehind 24 = .ok (.istore 4, 2) := by decide +kernel
theorem dX2_countBehind_26 : decode cX2_countBehind 26 = .ok (.iload 4, 2) := by decide +kernel
theorem dX2_countBehind_28 : decode cX2_countBehind 28 = .ok (.aload_n 1, 1) := by decide +kernel
theorem dX2_countBehind_29 : decode cX2_countBehind 29 = .ok (.getfield 61, 3) := by decide +kernel
theorem dX2_countBehind_32 : decode cX2_countBehind 32 = .ok (.if_icmp .ge 71, 3) := by decide +kernel
theorem dX2_countBehind_35 : decode cX2_countBehind 35 = .ok (.aload_n 1, 1) := by decide +kernel
theorem dX2_countBehind_36 : decode cX2_countBehind 36 = .ok (.getfield 67, 3) := by decide +kernel
theorem dX2_countBehind_39 : decode cX2_countBehind 39 = .ok (.iload 4, 2) := by decide +kernel
theorem dX2_countBehind_41 : decode cX2_countBehind 41 = .ok (.aaload, 1) := by decide +kernel
theorem dX2_countBehind_42 : decode cX2_countBehind 42 = .ok (.astore 5, 2) := by decide +kernel
theorem dX2_countBehind_44 : decode cX2_countBehind 44 = .ok (.aload 5, 2) := by decide +kernel
theorem dX2_countBehind_46 : decode cX2_countBehind 46 = .ok (.iload_n 2, 1) := by decide +kernel
theorem dX2_countBehind_47 : decode cX2_countBehind 47 = .ok (.invokevirtual 71, 3) := by decide +kernel
theorem dX2_countBehind_50 : decode cX2_countBehind 50 = .ok (.ifCond .eq 15, 3) := by decide +kernel
theorem dX2_countBehind_53 : decode cX2_countBehind 53 = .ok (.aload 5, 2) := by decide +kernel
theorem dX2_countBehind_55 : decode cX2_countBehind 55 = .ok (.aload_n 0, 1) := by decide +kernel
theorem dX2_countBehind_56 : decode cX2_countBehind 56 = .ok (.getfield 30, 3) := by decide +kernel
theorem dX2_countBehind_59 : decode cX2_countBehind 59 = .ok (.invokevirtual 139, 3) := by decide +kernel
theorem dX2_countBehind_62 : decode cX2_countBehind 62 = .ok (.goto 4, 3) := by decide +kernel
theorem dX2_countBehind_65 : decode cX2_countBehind 65 = .ok (.iconst (-1), 1) := by decide +kernel
theorem dX2_countBehind_66 : decode cX2_countBehind 66 = .ok (.istore 6, 2) := by decide +kernel
theorem dX2_countBehind_68 : decode cX2_countBehind 68 = .ok (.iload 6, 2) := by decide +kernel
theorem dX2_countBehind_70 : decode cX2_countBehind 70 = .ok (.iconst (-1), 1) := by decide +kernel
theorem dX2_countBehind_71 : decode cX2_countBehind 71 = .ok (.if_icmp .eq 26, 3) := by decide +kernel
theorem dX2_countBehind_74 : decode cX2_countBehind 74 = .ok (.aload_n 0, 1) := by decide +kernel
theorem dX2_countBehind_75 : decode cX2_countBehind 75 = .ok (.getfield 34, 3) := by decide +kernel
theorem dX2_countBehind_78 : decode cX2_countBehind 78 = .ok (.iload 6, 2) := by decide +kernel
theorem dX2_countBehind_80 : decode cX2_countBehind 80 = .ok (.dup2, 1) := by decide +kernel
theorem dX2_countBehind_81 : decode cX2_countBehind 81 = .ok (.iaload, 1) := by decide +kernel
theorem dX2_countBehind_82 : decode cX2_countBehind 82 = .ok (.aload 5, 2) := by decide +kernel
theorem dX2_countBehind_84 : decode cX2_countBehind 84 = .ok (.getfield 83, 3) := by decide +kernel
theorem dX2_countBehind_87 : decode cX2_countBehind 87 = .ok (.iadd, 1) := by decide +kernel
theorem dX2_countBehind_88 : decode cX2_countBehind 88 = .ok (.iastore, 1) := by decide +kernel
theorem dX2_countBehind_89 : decode cX2_countBehind 89 = .ok (.iload_n 3, 1) := by decide +kernel
theorem dX2_countBehind_90 : decode cX2_countBehind 90 = .ok (.aload 5, 2) := by decide +kernel
theorem dX2_countBehind_92 : decode cX2_countBehind 92 = .ok (.getfield 83, 3) := by decide +kernel
theorem dX2_countBehind_95 : decode cX2_countBehind 95 = .ok (.iadd, 1) := by decide +kernel
theorem dX2_countBehind_96 : decode cX2_countBehind 96 = .ok (.istore_n 3, 1) := by decide +kernel
theorem dX2_countBehind_97 : decode cX2_countBehind 97 = .ok (.iinc 4 1, 3) := by decide +kernel
theorem dX2_countBehind_100 : decode cX2_countBehind 100 = .ok (.goto (-74), 3) := by decide +kernel
theorem dX2_countBehind_103 : decode cX2_countBehind 103 = .ok (.iload_n 3, 1) := by decide +kernel
theorem dX2_countBehind_104 : decode cX2_countBehind 104 = .ok (.ireturn, 1) := by decide +kernel
theorem dX2_mostBehind_0 : decode cX2_mostBehind 0 = .ok (.iconst (-1), 1) := by decide +kernel
theorem dX2_mostBehind_1 : decode cX2_mostBehind 1 = .ok (.istore_n 1, 1) := by decide +kernel
theorem dX2_mostBehind_2 : decode cX2_mostBehind 2 = .ok (.iconst 0, 1) := by decide +kernel
theorem dX2_mostBehind_3 : decode cX2_mostBehind 3 = .ok (.istore_n 2, 1) := by decide +kernel
theorem dX2_mostBehind_4 : decode cX2_mostBehind 4 = .ok (.iload_n 2, 1) := by decide +kernel
theorem dX2_mostBehind_5 : decode cX2_mostBehind 5 = .ok (.bipush 6, 2) := by decide +kernel
theorem dX2_mostBehind_7 : decode cX2_mostBehind 7 = .ok (.if_icmp .ge 40, 3) := by decide +kernel
theorem dX2_mostBehind_10 : decode cX2_mostBehind 10 = .ok (.aload_n 0, 1) := by decide +kernel
theorem dX2_mostBehind_11 : decode cX2_mostBehind 11 = .ok (.getfield 30, 3) := by decide +kernel
theorem dX2_mostBehind_14 : decode cX2_mostBehind 14 = .ok (.iload_n 2, 1) := by decide +kernel
theorem dX2_mostBehind_15 : decode cX2_mostBehind 15 = .ok (.baload, 1) := by decide +kernel
theorem dX2_mostBehind_16 : decode cX2_mostBehind 16 = .ok (.ifCond .eq 25, 3) := by decide +kernel
theorem dX2_mostBehind_19 : decode cX2_mostBehind 19 = .ok (.iload_n 1, 1) := by decide +kernel
theorem dX2_mostBehind_20 : decode cX2_mostBehind 20 = .ok (.iconst (-1), 1) := by decide +kernel
theorem dX2_mostBehind_21 : decode cX2_mostBehind 21 = .ok (.if_icmp .eq 18, 3) := by decide +kernel
theorem dX2_mostBehind_24 : decode cX2_mostBehind 24 = .ok (.aload_n 0, 1) := by decide +kernel
theorem dX2_mostBehind_25 : decode cX2_mostBehind 25 = .ok (.getfield 34, 3) := by decide +kernel
theorem dX2_mostBehind_28 : decode cX2_mostBehind 28 = .ok (.iload_n 2, 1) := by decide +kernel
theorem dX2_mostBehind_29 : decode cX2_mostBehind 29 = .ok (.iaload, 1) := by decide +kernel
theorem dX2_mostBehind_30 : decode cX2_mostBehind 30 = .ok (.aload_n 0, 1) := by decide +kernel
theorem dX2_mostBehind_31 : decode cX2_mostBehind 31 = .ok (.getfield 34, 3) := by decide +kernel
theorem dX2_mostBehind_34 : decode cX2_mostBehind 34 = .ok (.iload_n 1, 1) := by decide +kernel
theorem dX2_mostBehind_35 : decode cX2_mostBehind 35 = .ok (.iaload, 1) := by decide +kernel
theorem dX2_mostBehind_36 : decode cX2_mostBehind 36 = .ok (.if_icmp .le 5, 3) := by decide +kernel
theorem dX2_mostBehind_39 : decode cX2_mostBehind 39 = .ok (.iload_n 2, 1) := by decide +kernel
theorem dX2_mostBehind_40 : decode cX2_mostBehind 40 = .ok (.istore_n 1, 1) := by decide +kernel
theorem dX2_mostBehind_41 : decode cX2_mostBehind 41 = .ok (.iinc 2 1, 3) := by decide +kernel
theorem dX2_mostBehind_44 : decode cX2_mostBehind 44 = .ok (.goto (-40), 3) := by decide +kernel
theorem dX2_mostBehind_47 : decode cX2_mostBehind 47 = .ok (.iload_n 1, 1) := by decide +kernel
theorem dX2_mostBehind_48 : decode cX2_mostBehind 48 = .ok (.ireturn, 1) := by decide +kernel
set_option maxRecDepth 20000 in
theorem ggX2_leastBehind_X2_isNoStronger : GoodIn wsX2_leastBehind wsX2_isNoStronger := goodIn_s [6, 7, 8, 9, 10, 11, 12, 13, 14, 15] (by rfl) (by decide +kernel)
set_option maxRecDepth 20000 in
theorem gX2_leastBehind_X2_isNoStronger : GoodIn wsX2_leastBehind (wsV RX2 143 RX2 yX2_isNoStronger wsX2_isNoStronger) := goodIn_app (goodIn_of _ (by decide +kernel)) ggX2_leastBehind_X2_isNoStronger
theorem dX2_leastBehind_0 : decode cX2_leastBehind 0 = .ok (.iload_n 1, 1) := by decide +kernel
theorem dX2_leastBehind_1 : decode cX2_leastBehind 1 = .ok (.istore_n 2, 1) := by decide +kernel
theorem dX2_leastBehind_2 : decode cX2_leastBehind 2 = .ok (.iconst 0, 1) := by decide +kernel
theorem dX2_leastBehind_3 : decode cX2_leastBehind 3 = .ok (.istore_n 3, 1) := by decide +kernel
theorem dX2_leastBehind_4 : decode cX2_leastBehind 4 = .ok (.iload_n 3, 1) := by decide +kernel
theorem dX2_leastBehind_5 : decode cX2_leastBehind 5 = .ok (.bipush 6, 2) := by decide +kernel
theorem dX2_leastBehind_7 : decode cX2_leastBehind 7 = .ok (.if_icmp .ge 29, 3) := by decide +kernel
theorem dX2_leastBehind_10 : decode cX2_leastBehind 10 = .ok (.aload_n 0, 1) := by decide +kernel
theorem dX2_leastBehind_11 : decode cX2_leastBehind 11 = .ok (.getfield 30, 3) := by decide +kernel
theorem dX2_leastBehind_14 : decode cX2_leastBehind 14 = .ok (.iload_n 3, 1) := by decide +kernel
theorem dX2_leastBehind_15 : decode cX2_leastBehind 15 = .ok (.baload, 1) := by decide +kernel
theorem dX2_leastBehind_16 : decode cX2_leastBehind 16 = .ok (.ifCond .eq 14, 3) := by decide +kernel
theorem dX2_leastBehind_19 : decode cX2_leastBehind 19 = .ok (.aload_n 0, 1) := by decide +kernel
theorem dX2_leastBehind_20 : decode cX2_leastBehind 20 = .ok (.iload_n 3, 1) := by decide +kernel
theorem dX2_leastBehind_21 : decode cX2_leastBehind 21 = .ok (.iload_n 2, 1) := by decide +kernel
theorem dX2_leastBehind_22 : decode cX2_leastBehind 22 = .ok (.invokevirtual 143, 3) := by decide +kernel
theorem dX2_leastBehind_25 : decode cX2_leastBehind 25 = .ok (.ifCond .eq 5, 3) := by decide +kernel
theorem dX2_leastBehind_28 : decode cX2_leastBehind 28 = .ok (.iload_n 3, 1) := by decide +kernel
theorem dX2_leastBehind_29 : decode cX2_leastBehind 29 = .ok (.istore_n 2, 1) := by decide +kernel
theorem dX2_leastBehind_30 : decode cX2_leastBehind 30 = .ok (.iinc 3 1, 3) := by decide +kernel
theorem dX2_leastBehind_33 : decode cX2_leastBehind 33 = .ok (.goto (-29), 3) := by decide +kernel
theorem dX2_leastBehind_36 : decode cX2_leastBehind 36 = .ok (.iload_n 2, 1) := by decide +kernel
theorem dX2_leastBehind_37 : decode cX2_leastBehind 37 = .ok (.ireturn, 1) := by decide +kernel
theorem dX2_isNoStronger_0 : decode cX2_isNoStronger 0 = .ok (.aload_n 0, 1) := by decide +kernel
theorem dX2_isNoStronger_1 : decode cX2_isNoStronger 1 = .ok (.getfield 34, 3) := by decide +kernel
theorem dX2_isNoStronger_4 : decode cX2_isNoStronger 4 = .ok (.iload_n 1, 1) := by decide +kernel
theorem dX2_isNoStronger_5 : decode cX2_isNoStronger 5 = .ok (.iaload, 1) := by decide +kernel
theorem dX2_isNoStronger_6 : decode cX2_isNoStronger 6 = .ok (.aload_n 0, 1) := by decide +kernel
theorem dX2_isNoStronger_7 : decode cX2_isNoStronger 7 = .ok (.getfield 34, 3) := by decide +kernel
theorem dX2_isNoStronger_10 : decode cX2_isNoStronger 10 = .ok (.iload_n 2, 1) := by decide +kernel
theorem dX2_isNoStronger_11 : decode cX2_isNoStronger 11 = .ok (.iaload, 1) := by decide +kernel
theorem dX2_isNoStronger_12 : decode cX2_isNoStronger 12 = .ok (.if_icmp .eq 24, 3) := by decide +kernel
theorem dX2_isNoStronger_15 : decode cX2_isNoStronger 15 = .ok (.aload_n 0, 1) := by decide +kernel
theorem dX2_isNoStronger_16 : decode cX2_isNoStronger 16 = .ok (.getfield 34, 3) := by decide +kernel
theorem dX2_isNoStronger_19 : decode cX2_isNoStronger 19 = .ok (.iload_n 1, 1) := by decide +kernel
theorem dX2_isNoStronger_20 : decode cX2_isNoStronger 20 = .ok (.iaload, 1) := by decide +kernel
theorem dX2_isNoStronger_21 : decode cX2_isNoStronger 21 = .ok (.aload_n 0, 1) := by decide +kernel
theorem dX2_isNoStronger_22 : decode cX2_isNoStronger 22 = .ok (.getfield 34, 3) := by decide +kernel
theorem dX2_isNoStronger_25 : decode cX2_isNoStronger 25 = .ok (.iload_n 2, 1) := by decide +kernel
theorem dX2_isNoStronger_26 : decode cX2_isNoStronger 26 = .ok (.iaload, 1) := by decide +kernel
theorem dX2_isNoStronger_27 : decode cX2_isNoStronger 27 = .ok (.if_icmp .ge 7, 3) := by decide +kernel
theorem dX2_isNoStronger_30 : decode cX2_isNoStronger 30 = .ok (.iconst 1, 1) := by decide +kernel
theorem dX2_isNoStronger_31 : decode cX2_isNoStronger 31 = .ok (.goto 4, 3) := by decide +kernel
theorem dX2_isNoStronger_34 : decode cX2_isNoStronger 34 = .ok (.iconst 0, 1) := by decide +kernel
theorem dX2_isNoStronger_35 : decode cX2_isNoStronger 35 = .ok (.ireturn, 1) := by decide +kernel
theorem dX2_isNoStronger_36 : decode cX2_isNoStronger 36 = .ok (.aload_n 0, 1) := by decide +kernel
theorem dX2_isNoStronger_37 : decode cX2_isNoStronger 37 = .ok (.getfield 15, 3) := by decide +kernel
theorem dX2_isNoStronger_40 : decode cX2_isNoStronger 40 = .ok (.iload_n 1, 1) := by decide +kernel
theorem dX2_isNoStronger_41 : decode cX2_isNoStronger 41 = .ok (.daload, 1) := by decide +kernel
theorem dX2_isNoStronger_42 : decode cX2_isNoStronger 42 = .ok (.aload_n 0, 1) := by decide +kernel
theorem dX2_isNoStronger_43 : decode cX2_isNoStronger 43 = .ok (.getfield 15, 3) := by decide +kernel
theorem dX2_isNoStronger_46 : decode cX2_isNoStronger 46 = .ok (.iload_n 2, 1) := by decide +kernel
theorem dX2_isNoStronger_47 : decode cX2_isNoStronger 47 = .ok (.daload, 1) := by decide +kernel
theorem dX2_isNoStronger_48 : decode cX2_isNoStronger 48 = .ok (.dcmp .g, 1) := by decide +kernel
theorem dX2_isNoStronger_49 : decode cX2_isNoStronger 49 = .ok (.ifCond .gt 7, 3) := by decide +kernel
theorem dX2_isNoStronger_52 : decode cX2_isNoStronger 52 = .ok (.iconst 1, 1) := by decide +kernel
theorem dX2_isNoStronger_53 : decode cX2_isNoStronger 53 = .ok (.goto 4, 3) := by decide +kernel
theorem dX2_isNoStronger_56 : decode cX2_isNoStronger 56 = .ok (.iconst 0, 1) := by decide +kernel
theorem dX2_isNoStronger_57 : decode cX2_isNoStronger 57 = .ok (.ireturn, 1) := by decide +kernel
set_option maxRecDepth 20000 in
theorem ggX2_leastShift_X2_countFirsts : GoodIn wsX2_leastShift wsX2_countFirsts := goodIn_s [12, 1, 13, 14, 15, 16, 17, 18, 19, 20, 21, 22, 23, 24, 33, 34, 35, 36, 37, 38, 39, 40, 41, 42, 43, 44, 45, 46, 47, 48, 49, 50, 51, 52, 53, 54, 55, 56, 57] (by rfl) (by decide +kernel)
set_option maxRecDepth 20000 in
theorem gX2_leastShift_X2_countFirsts : GoodIn wsX2_leastShift (wsV RX2 37 RX2 yX2_countFirsts wsX2_countFirsts) := goodIn_app (goodIn_of _ (by decide +kernel)) ggX2_leastShift_X2_countFirsts
set_option maxRecDepth 20000 in
theorem ggX2_leastShift_X2_mostFirsts : GoodIn wsX2_leastShift wsX2_mostFirsts := goodIn_s [28, 2, 3, 1, 40, 41, 42, 43, 44, 45, 46, 47, 48, 49, 50, 33, 34, 35, 36, 37, 38, 39] (by rfl) (by decide +kernel)
set_option maxRecDepth 20000 in
theorem gX2_leastShift_X2_mostFirsts : GoodIn wsX2_leastShift (wsV RX2 41 RX2 yX2_mostFirsts wsX2_mostFirsts) := goodIn_app (goodIn_of _ (by decide +kernel)) ggX2_leastShift_X2_mostFirsts
set_option maxRecDepth 20000 in
theorem ggX2_leastShift_X2_shiftTo : GoodIn wsX2_leastShift wsX2_shiftTo := goodIn_s [32, 1, 33, 34, 35, 36, 37, 38, 39] (by rfl) (by decide +kernel)
set_option maxRecDepth 20000 in
theorem gX2_leastShift_X2_shiftTo : GoodIn wsX2_leastShift (wsV RX2 147 RX2 yX2_shiftTo wsX2_shiftTo) := goodIn_app (goodIn_of _ (by decide +kernel)) ggX2_leastShift_X2_shiftTo
theorem dX2_leastShift_0 : decode cX2_leastShift 0 = .ok (.aload_n 0, 1) := by decide +kernel
theorem dX2_leastShift_1 : decode cX2_leastShift 1 = .ok (.aload_n 1, 1) := by decide +kernel
theorem dX2_leastShift_2 : decode cX2_leastShift 2 = .ok (.iload_n 2, 1) := by decide +kernel
theorem dX2_leastShift_3 : decode cX2_leastShift 3 = .ok (.invokevirtual 37, 3) := by decide +kernel
theorem dX2_leastShift_6 : decode cX2_leastShift 6 = .ok (.aload_n 0, 1) := by decide +kernel
theorem dX2_leastShift_7 : decode cX2_leastShift 7 = .ok (.aload_n 1, 1) := by decide +kernel
theorem dX2_leastShift_8 : decode cX2_leastShift 8 = .ok (.invokevirtual 41, 3) := by decide +kernel
theorem dX2_leastShift_11 : decode cX2_leastShift 11 = .ok (.istore_n 3, 1) := by decide +kernel
theorem dX2_leastShift_12 : decode cX2_leastShift 12 = .ok (.iload_n 3, 1) := by decide +kernel
theorem dX2_leastShift_13 : decode cX2_leastShift 13 = .ok (.iconst (-1), 1) := by decide +kernel
theorem dX2_leastShift_14 : decode cX2_leastShift 14 = .ok (.if_icmp .eq 12, 3) := by decide +kernel
theorem dX2_leastShift_17 : decode cX2_leastShift 17 = .ok (.aload_n 0, 1) := by decide +kernel
theorem dX2_leastShift_18 : decode cX2_leastShift 18 = .ok (.getfield 9, 3) := by decide +kernel
theorem dX2_leastShift_21 : decode cX2_leastShift 21 = .ok (.iload_n 3, 1) := by decide +kernel
theorem dX2_leastShift_22 : decode cX2_leastShift 22 = .ok (.iaload, 1) := by decide +kernel
theorem dX2_leastShift_23 : decode cX2_leastShift 23 = .ok (.ifCond .ne 5, 3) := by decide +kernel
theorem dX2_leastShift_26 : decode cX2_leastShift 26 = .ok (.iconst (-1), 1) := by decide +kernel
theorem dX2_leastShift_27 : decode cX2_leastShift 27 = .ok (.ireturn, 1) := by decide +kernel
theorem dX2_leastShift_28 : decode cX2_leastShift 28 = .ok (.iconst (-1), 1) := by decide +kernel
theorem dX2_leastShift_29 : decode cX2_leastShift 29 = .ok (.istore 4, 2) := by decide +kernel
theorem dX2_leastShift_31 : decode cX2_leastShift 31 = .ok (.iconst 0, 1) := by decide +kernel
theorem dX2_leastShift_32 : decode cX2_leastShift 32 = .ok (.istore 5, 2) := by decide +kernel
theorem dX2_leastShift_34 : decode cX2_leastShift 34 = .ok (.iload 5, 2) := by decide +kernel
theorem dX2_leastShift_36 : decode cX2_leastShift 36 = .ok (.aload_n 1, 1) := by decide +kernel
theorem dX2_leastShift_37 : decode cX2_leastShift 37 = .ok (.getfield 86, 3) := by decide +kernel
theorem dX2_leastShift_40 : decode cX2_leastShift 40 = .ok (.if_icmp .ge 54, 3) := by decide +kernel
theorem dX2_leastShift_43 : decode cX2_leastShift 43 = .ok (.aload_n 1, 1) := by decide +kernel
theorem dX2_leastShift_44 : decode cX2_leastShift 44 = .ok (.getfield 89, 3) := by decide +kernel
theorem dX2_leastShift_47 : decode cX2_leastShift 47 = .ok (.iload 5, 2) := by decide +kernel
theorem dX2_leastShift_49 : decode cX2_leastShift 49 = .ok (.baload, 1) := by decide +kernel
theorem dX2_leastShift_50 : decode cX2_leastShift 50 = .ok (.ifCond .eq 38, 3) := by decide +kernel
theorem dX2_leastShift_53 : decode cX2_leastShift 53 = .ok (.iload 5, 2) := by decide +kernel
theorem dX2_leastShift_55 : decode cX2_leastShift 55 = .ok (.iload_n 3, 1) := by decide +kernel
theorem dX2_leastShift_56 : decode cX2_leastShift 56 = .ok (.if_icmp .eq 32, 3) := by decide +kernel
theorem dX2_leastShift_59 : decode cX2_leastShift 59 = .ok (.aload_n 0, 1) := by decide +kernel
theorem dX2_leastShift_60 : decode cX2_leastShift 60 = .ok (.iload_n 3, 1) := by decide +kernel
theorem dX2_leastShift_61 : decode cX2_leastShift 61 = .ok (.iload 5, 2) := by decide +kernel
theorem dX2_leastShift_63 : decode cX2_leastShift 63 = .ok (.invokevirtual 147, 3) := by decide +kernel
theorem dX2_leastShift_66 : decode cX2_leastShift 66 = .ok (.istore 6, 2) := by decide +kernel
theorem dX2_leastShift_68 : decode cX2_leastShift 68 = .ok (.iload 4, 2) := by decide +kernel
theorem dX2_leastShift_70 : decode cX2_leastShift 70 = .ok (.iconst (-1), 1) := by decide +kernel
theorem dX2_leastShift_71 : decode cX2_leastShift 71 = .ok (.if_icmp .ne 8, 3) := by decide +kernel
theorem dX2_leastShift_74 : decode cX2_leastShift 74 = .ok (.iload 6, 2) := by decide +kernel
theorem dX2_leastShift_76 : decode cX2_leastShift 76 = .ok (.goto 10, 3) := by decide +kernel
theorem dX2_leastShift_79 : decode cX2_leastShift 79 = .ok (.iload 4, 2) := by decide +kernel
theorem dX2_leastShift_81 : decode cX2_leastShift 81 = .ok (.iload 6, 2) := by decide +kernel
theorem dX2_leastShift_83 : decode cX2_leastShift 83 = .ok (.invokestatic 116, 3) := by decide +kernel
theorem dX2_leastShift_86 : decode cX2_leastShift 86 = .ok (.istore 4, 2) := by decide +kernel
theorem dX2_leastShift_88 : decode cX2_leastShift 88 = .ok (.iinc 5 1, 3) := by decide +kernel
theorem dX2_leastShift_91 : decode cX2_leastShift 91 = .ok (.goto (-57), 3) := by decide +kernel
theorem dX2_leastShift_94 : decode cX2_leastShift 94 = .ok (.iload 4, 2) := by decide +kernel
theorem dX2_leastShift_96 : decode cX2_leastShift 96 = .ok (.ireturn, 1) := by decide +kernel
theorem dX2_shiftTo_0 : decode cX2_shiftTo 0 = .ok (.aload_n 0, 1) := by decide +kernel
theorem dX2_shiftTo_1 : decode cX2_shiftTo 1 = .ok (.getfield 9, 3) := by decide +kernel
theorem dX2_shiftTo_4 : decode cX2_shiftTo 4 = .ok (.iload_n 1, 1) := by decide +kernel
theorem dX2_shiftTo_5 : decode cX2_shiftTo 5 = .ok (.iaload, 1) := by decide +kernel
theorem dX2_shiftTo_6 : decode cX2_shiftTo 6 = .ok (.aload_n 0, 1) := by decide +kernel
theorem dX2_shiftTo_7 : decode cX2_shiftTo 7 = .ok (.getfield 9, 3) := by decide +kernel
theorem dX2_shiftTo_10 : decode cX2_shiftTo 10 = .ok (.iload_n 2, 1) := by decide +kernel
theorem dX2_shiftTo_11 : decode cX2_shiftTo 11 = .ok (.iaload, 1) := by decide +kernel
theorem dX2_shiftTo_12 : decode cX2_shiftTo 12 = .ok (.isub, 1) := by decide +kernel
theorem dX2_shiftTo_13 : decode cX2_shiftTo 13 = .ok (.istore_n 3, 1) := by decide +kernel
theorem dX2_shiftTo_14 : decode cX2_shiftTo 14 = .ok (.iload_n 2, 1) := by decide +kernel
theorem dX2_shiftTo_15 : decode cX2_shiftTo 15 = .ok (.iload_n 1, 1) := by decide +kernel
theorem dX2_shiftTo_16 : decode cX2_shiftTo 16 = .ok (.if_icmp .ge 11, 3) := by decide +kernel
theorem dX2_shiftTo_19 : decode cX2_shiftTo 19 = .ok (.iload_n 3, 1) := by decide +kernel
theorem dX2_shiftTo_20 : decode cX2_shiftTo 20 = .ok (.iconst 1, 1) := by decide +kernel
theorem dX2_shiftTo_21 : decode cX2_shiftTo 21 = .ok (.iadd, 1) := by decide +kernel
theorem dX2_shiftTo_22 : decode cX2_shiftTo 22 = .ok (.iconst 2, 1) := by decide +kernel
theorem dX2_shiftTo_23 : decode cX2_shiftTo 23 = .ok (.idiv, 1) := by decide +kernel
theorem dX2_shiftTo_24 : decode cX2_shiftTo 24 = .ok (.goto 8, 3) := by decide +kernel
theorem dX2_shiftTo_27 : decode cX2_shiftTo 27 = .ok (.iload_n 3, 1) := by decide +kernel
theorem dX2_shiftTo_28 : decode cX2_shiftTo 28 = .ok (.iconst 2, 1) := by decide +kernel
theorem dX2_shiftTo_29 : decode cX2_shiftTo 29 = .ok (.idiv, 1) := by decide +kernel
theorem dX2_shiftTo_30 : decode cX2_shiftTo 30 = .ok (.iconst 1, 1) := by decide +kernel
theorem dX2_shiftTo_31 : decode cX2_shiftTo 31 = .ok (.iadd, 1) := by decide +kernel
theorem dX2_shiftTo_32 : decode cX2_shiftTo 32 = .ok (.ireturn, 1) := by decide +kernel
theorem dX3_init_0 : decode cX3_init 0 = .ok (.aload_n 0, 1) := by decide +kernel
theorem dX3_init_1 : decode cX3_init 1 = .ok (.invokespecial 3, 3) := by decide +kernel
theorem dX3_init_4 : decode cX3_init 4 = .ok (.aload_n 0, 1) := by decide +kernel
theorem dX3_init_5 : decode cX3_init 5 = .ok (.bipush 6, 2) := by decide +kernel
theorem dX3_init_7 : decode cX3_init 7 = .ok (.newarray .int, 2) := by decide +kernel
theorem dX3_init_9 : decode cX3_init 9 = .ok (.putfield 9, 3) := by decide +kernel
theorem dX3_init_12 : decode cX3_init 12 = .ok (.return_, 1) := by decide +kernel
set_option maxRecDepth 20000 in
theorem ggX3_setRanks_X3_isSpoiling : GoodIn wsX3_setRanks wsX3_isSpoiling := goodIn_s [7] (by rfl) (by decide +kernel)
set_option maxRecDepth 20000 in
theorem gX3_setRanks_X3_isSpoiling : GoodIn wsX3_setRanks (va_wsS RX3 24 yX3_isSpoiling wsX3_isSpoiling) := goodIn_app (goodIn_of _ (by decide +kernel)) ggX3_setRanks_X3_isSpoiling
set_option maxRecDepth 20000 in
theorem ggX3_setRanks_X3_makeList : GoodIn wsX3_setRanks wsX3_makeList := goodIn_s [11, 12, 3, 1, 13, 14, 15, 16, 17, 18, 19, 20, 21, 22, 23, 24, 25, 26, 27, 28, 29, 30, 31, 32, 33, 34, 35, 36, 37, 38] (by rfl) (by decide +kernel)
set_option maxRecDepth 20000 in
theorem gX3_setRanks_X3_makeList : GoodIn wsX3_setRanks (wsV RX3 32 RX3 yX3_makeList wsX3_makeList) := goodIn_app (goodIn_of _ (by decide +kernel)) ggX3_setRanks_X3_makeList
theorem dX3_setRanks_0 : decode cX3_setRanks 0 = .ok (.aload_n 0, 1) := by decide +kernel
theorem dX3_setRanks_1 : decode cX3_setRanks 1 = .ok (.iload_n 1, 1) := by decide +kernel
theorem dX3_setRanks_2 : decode cX3_setRanks 2 = .ok (.putfield 15, 3) := by decide +kernel
theorem dX3_setRanks_5 : decode cX3_setRanks 5 = .ok (.aload_n 0, 1) := by decide +kernel
theorem dX3_setRanks_6 : decode cX3_setRanks 6 = .ok (.iload_n 1, 1) := by decide +kernel
theorem dX3_setRanks_7 : decode cX3_setRanks 7 = .ok (.aload_n 2, 1) := by decide +kernel
theorem dX3_setRanks_8 : decode cX3_setRanks 8 = .ok (.getfield 19, 3) := by decide +kernel
theorem dX3_setRanks_11 : decode cX3_setRanks 11 = .ok (.invokestatic 24, 3) := by decide +kernel
theorem dX3_setRanks_14 : decode cX3_setRanks 14 = .ok (.putfield 28, 3) := by decide +kernel
theorem dX3_setRanks_17 : decode cX3_setRanks 17 = .ok (.aload_n 0, 1) := by decide +kernel
theorem dX3_setRanks_18 : decode cX3_setRanks 18 = .ok (.aload_n 2, 1) := by decide +kernel
theorem dX3_setRanks_19 : decode cX3_setRanks 19 = .ok (.invokevirtual 32, 3) := by decide +kernel
theorem dX3_setRanks_22 : decode cX3_setRanks 22 = .ok (.return_, 1) := by decide +kernel
set_option maxRecDepth 20000 in
theorem ggX3_makeList_X0_isStanding : GoodIn wsX3_makeList wsX0_isStanding := goodIn_s [9, 10, 11, 19, 20, 21, 22, 23, 24, 25, 26, 27, 28, 29] (by rfl) (by decide +kernel)
set_option maxRecDepth 20000 in
theorem gX3_makeList_X0_isStanding : GoodIn wsX3_makeList (wsV RX3 39 RX0 yX0_isStanding wsX0_isStanding) := goodIn_app (goodIn_of _ (by decide +kernel)) ggX3_makeList_X0_isStanding
theorem dX3_makeList_0 : decode cX3_makeList 0 = .ok (.aload_n 0, 1) := by decide +kernel
theorem dX3_makeList_1 : decode cX3_makeList 1 = .ok (.iconst 0, 1) := by decide +kernel
theorem dX3_makeList_2 : decode cX3_makeList 2 = .ok (.putfield 36, 3) := by decide +kernel
theorem dX3_makeList_5 : decode cX3_makeList 5 = .ok (.aload_n 0, 1) := by decide +kernel
theorem dX3_makeList_6 : decode cX3_makeList 6 = .ok (.getfield 28, 3) := by decide +kernel
theorem dX3_makeList_9 : decode cX3_makeList 9 = .ok (.ifCond .eq 4, 3) := by decide +kernel
theorem dX3_makeList_12 : decode cX3_makeList 12 = .ok (.return_, 1) := by decide +kernel
theorem dX3_makeList_13 : decode cX3_makeList 13 = .ok (.aload_n 0, 1) := by decide +kernel
theorem dX3_makeList_14 : decode cX3_makeList 14 = .ok (.getfield 15, 3) := by decide +kernel
theorem dX3_makeList_17 : decode cX3_makeList 17 = .ok (.istore_n 2, 1) := by decide +kernel
theorem dX3_makeList_18 : decode cX3_makeList 18 = .ok (.iconst 0, 1) := by decide +kernel
theorem dX3_makeList_19 : decode cX3_makeList 19 = .ok (.istore_n 3, 1) := by decide +kernel
theorem dX3_makeList_20 : decode cX3_makeList 20 = .ok (.iload_n 3, 1) := by decide +kernel
theorem dX3_makeList_21 : decode cX3_makeList 21 = .ok (.bipush 6, 2) := by decide +kernel
theorem dX3_makeList_23 : decode cX3_makeList 23 = .ok (.if_icmp .ge 56, 3) := by decide +kernel
theorem dX3_makeList_26 : decode cX3_makeList 26 = .ok (.iload_n 2, 1) := by decide +kernel
theorem dX3_makeList_27 : decode cX3_makeList 27 = .ok (.ifCond .le 52, 3) := by decide +kernel
theorem dX3_makeList_30 : decode cX3_makeList 30 = .ok (.iload_n 2, 1) := by decide +kernel
theorem dX3_makeList_31 : decode cX3_makeList 31 = .ok (.bipush 10, 2) := by decide +kernel
theorem dX3_makeList_33 : decode cX3_makeList 33 = .ok (.irem, 1) := by decide +kernel
theorem dX3_makeList_34 : decode cX3_makeList 34 = .ok (.iconst 1, 1) := by decide +kernel
theorem dX3_makeList_35 : decode cX3_makeList 35 = .ok (.isub, 1) := by decide +kernel
theorem dX3_makeList_36 : decode cX3_makeList 36 = .ok (.istore 4, 2) := by decide +kernel
theorem dX3_makeList_38 : decode cX3_makeList 38 = .ok (.aload_n 1, 1) := by decide +kernel
theorem dX3_makeList_39 : decode cX3_makeList 39 = .ok (.iload 4, 2) := by decide +kernel
theorem dX3_makeList_41 : decode cX3_makeList 41 = .ok (.invokevirtual 39, 3) := by decide +kernel
theorem dX3_makeList_44 : decode cX3_makeList 44 = .ok (.ifCond .eq 24, 3) := by decide +kernel
theorem dX3_makeList_47 : decode cX3_makeList 47 = .ok (.aload_n 0, 1) := by decide +kernel
theorem dX3_makeList_48 : decode cX3_makeList 48 = .ok (.getfield 9, 3) := by decide +kernel
theorem dX3_makeList_51 : decode cX3_makeList 51 = .ok (.aload_n 0, 1) := by decide +kernel
theorem dX3_makeList_52 : decode cX3_makeList 52 = .ok (.getfield 36, 3) := by decide +kernel
theorem dX3_makeList_55 : decode cX3_makeList 55 = .ok (.iload 4, 2) := by decide +kernel
theorem dX3_makeList_57 : decode cX3_makeList 57 = .ok (.iastore, 1) := by decide +kernel
theorem dX3_makeList_58 : decode cX3_makeList 58 = .ok (.aload_n 0, 1) := by decide +kernel
theorem dX3_makeList_59 : decode cX3_makeList 59 = .ok (.dup, 1) := by decide +kernel
theorem dX3_makeList_60 : decode cX3_makeList 60 = .ok (.getfield 36, 3) := by decide +kernel
theorem dX3_makeList_63 : decode cX3_makeList 63 = .ok (.iconst 1, 1) := by decide +kernel
theorem dX3_makeList_64 : decode cX3_makeList 64 = .ok (.iadd, 1) := by decide +kernel
theorem dX3_makeList_65 : decode cX3_makeList 65 = .ok (.putfield 36, 3) := by decide +kernel
theorem dX3_makeList_68 : decode cX3_makeList 68 = .ok (.iload_n 2, 1) := by decide +kernel
theorem dX3_makeList_69 : decode cX3_makeList 69 = .ok (.bipush 10, 2) := by decide +kernel
theorem dX3_makeList_71 : decode cX3_makeList 71 = .ok (.idiv, 1) := by decide +kernel
theorem dX3_makeList_72 : decode cX3_makeList 72 = .ok (.istore_n 2, 1) := by decide +kernel
theorem dX3_makeList_73 : decode cX3_makeList 73 = .ok (.iinc 3 1, 3) := by decide +kernel
theorem dX3_makeList_76 : decode cX3_makeList 76 = .ok (.goto (-56), 3) := by decide +kernel
theorem dX3_makeList_79 : decode cX3_makeList 79 = .ok (.return_, 1) := by decide +kernel
theorem dX3_setListWithFirst_0 : decode cX3_setListWithFirst 0 = .ok (.aload_n 0, 1) := by decide +kernel
theorem dX3_setListWithFirst_1 : decode cX3_setListWithFirst 1 = .ok (.aload_n 1, 1) := by decide +kernel
theorem dX3_setListWithFirst_2 : decode cX3_setListWithFirst 2 = .ok (.getfield 28, 3) := by decide +kernel
theorem dX3_setListWithFirst_5 : decode cX3_setListWithFirst 5 = .ok (.putfield 28, 3) := by decide +kernel
theorem dX3_setListWithFirst_8 : decode cX3_setListWithFirst 8 = .ok (.aload_n 0, 1) := by decide +kernel
theorem dX3_setListWithFirst_9 : decode cX3_setListWithFirst 9 = .ok (.iconst 0, 1) := by decide +kernel
theorem dX3_setListWithFirst_10 : decode cX3_setListWithFirst 10 = .ok (.putfield 36, 3) := by decide +kernel
theorem dX3_setListWithFirst_13 : decode cX3_setListWithFirst 13 = .ok (.iconst 0, 1) := by decide +kernel
theorem dX3_setListWithFirst_14 : decode cX3_setListWithFirst 14 = .ok (.istore_n 3, 1) := by decide +kernel
theorem dX3_setListWithFirst_15 : decode cX3_setListWithFirst 15 = .ok (.iload_n 3, 1) := by decide +kernel
theorem dX3_setListWithFirst_16 : decode cX3_setListWithFirst 16 = .ok (.aload_n 1, 1) := by decide +kernel
theorem dX3_setListWithFirst_17 : decode cX3_setListWithFirst 17 = .ok (.getfield 36, 3) := by decide +kernel
theorem dX3_setListWithFirst_20 : decode cX3_setListWithFirst 20 = .ok (.if_icmp .ge 57, 3) := by decide +kernel
theorem dX3_setListWithFirst_23 : decode cX3_setListWithFirst 23 = .ok (.iload_n 3, 1) := by decide +kernel
theorem dX3_setListWithFirst_24 : decode cX3_setListWithFirst 24 = .ok (.ifCond .ne 7, 3) := by decide +kernel
theorem dX3_setListWithFirst_27 : decode cX3_setListWithFirst 27 = .ok (.iload_n 2, 1) := by decide +kernel
theorem dX3_setListWithFirst_28 : decode cX3_setListWithFirst 28 = .ok (.goto 15, 3) := by decide +kernel
theorem dX3_setListWithFirst_31 : decode cX3_setListWithFirst 31 = .ok (.iload_n 3, 1) := by decide +kernel
theorem dX3_setListWithFirst_32 : decode cX3_setListWithFirst 32 = .ok (.iload_n 2, 1) := by decide +kernel
theorem dX3_setListWithFirst_33 : decode cX3_setListWithFirst 33 = .ok (.if_icmp .gt 9, 3) := by decide +kernel
theorem dX3_setListWithFirst_36 : decode cX3_setListWithFirst 36 = .ok (.iload_n 3, 1) := by decide +kernel
theorem dX3_setListWithFirst_37 : decode cX3_setListWithFirst 37 = .ok (.iconst 1, 1) := by decide +kernel
theorem dX3_setListWithFirst_38 : decode cX3_setListWithFirst 38 = .ok (.isub, 1) := by decide +kernel
theorem dX3_setListWithFirst_39 : decode cX3_setListWithFirst 39 = .ok (.goto 4, 3) := by decide +kernel
theorem dX3_setListWithFirst_42 : decode cX3_setListWithFirst 42 = .ok (.iload_n 3, 1) := by decide +kernel
theorem dX3_setListWithFirst_43 : decode cX3_setListWithFirst 43 = .ok (.istore 4, 2) := by decide +kernel
theorem dX3_setListWithFirst_45 : decode cX3_setListWithFirst 45 = .ok (.aload_n 0, 1) := by decide +kernel
theorem dX3_setListWithFirst_46 : decode cX3_setListWithFirst 46 = .ok (.getfield 9, 3) := by decide +kernel
theorem dX3_setListWithFirst_49 : decode cX3_setListWithFirst 49 = .ok (.aload_n 0, 1) := by decide +kernel
theorem dX3_setListWithFirst_50 : decode cX3_setListWithFirst 50 = .ok (.getfield 36, 3) := by decide +kernel
theorem dX3_setListWithFirst_53 : decode cX3_setListWithFirst 53 = .ok (.aload_n 1, 1) := by decide +kernel
theorem dX3_setListWithFirst_54 : decode cX3_setListWithFirst 54 = .ok (.getfield 9, 3) := by decide +kernel
theorem dX3_setListWithFirst_57 : decode cX3_setListWithFirst 57 = .ok (.iload 4, 2) := by decide +kernel
theorem dX3_setListWithFirst_59 : decode cX3_setListWithFirst 59 = .ok (.iaload, 1) := by decide +kernel
theorem dX3_setListWithFirst_60 : decode cX3_setListWithFirst 60 = .ok (.iastore, 1) := by decide +kernel
theorem dX3_setListWithFirst_61 : decode cX3_setListWithFirst 61 = .ok (.aload_n 0, 1) := by decide +kernel
theorem dX3_setListWithFirst_62 : decode cX3_setListWithFirst 62 = .ok (.dup, 1) := by decide +kernel
theorem dX3_setListWithFirst_63 : decode cX3_setListWithFirst 63 = .ok (.getfield 36, 3) := by decide +kernel
theorem dX3_setListWithFirst_66 : decode cX3_setListWithFirst 66 = .ok (.iconst 1, 1) := by decide +kernel
theorem dX3_setListWithFirst_67 : decode cX3_setListWithFirst 67 = .ok (.iadd, 1) := by decide +kernel
theorem dX3_setListWithFirst_68 : decode cX3_setListWithFirst 68 = .ok (.putfield 36, 3) := by decide +kernel
theorem dX3_setListWithFirst_71 : decode cX3_setListWithFirst 71 = .ok (.iinc 3 1, 3) := by decide +kernel
theorem dX3_setListWithFirst_74 : decode cX3_setListWithFirst 74 = .ok (.goto (-59), 3) := by decide +kernel
theorem dX3_setListWithFirst_77 : decode cX3_setListWithFirst 77 = .ok (.return_, 1) := by decide +kernel
theorem dX3_isSpoiling_0 : decode cX3_isSpoiling 0 = .ok (.iconst 0, 1) := by decide +kernel
theorem dX3_isSpoiling_1 : decode cX3_isSpoiling 1 = .ok (.istore_n 2, 1) := by decide +kernel
theorem dX3_isSpoiling_2 : decode cX3_isSpoiling 2 = .ok (.iload_n 0, 1) := by decide +kernel
theorem dX3_isSpoiling_3 : decode cX3_isSpoiling 3 = .ok (.istore_n 3, 1) := by decide +kernel
theorem dX3_isSpoiling_4 : decode cX3_isSpoiling 4 = .ok (.iconst 0, 1) := by decide +kernel
theorem dX3_isSpoiling_5 : decode cX3_isSpoiling 5 = .ok (.istore 4, 2) := by decide +kernel
theorem dX3_isSpoiling_7 : decode cX3_isSpoiling 7 = .ok (.iload 4, 2) := by decide +kernel
theorem dX3_isSpoiling_9 : decode cX3_isSpoiling 9 = .ok (.bipush 6, 2) := by decide +kernel
theorem dX3_isSpoiling_11 : decode cX3_isSpoiling 11 = .ok (.if_icmp .ge 55, 3) := by decide +kernel
theorem dX3_isSpoiling_14 : decode cX3_isSpoiling 14 = .ok (.iload_n 3, 1) := by decide +kernel
theorem dX3_isSpoiling_15 : decode cX3_isSpoiling 15 = .ok (.ifCond .le 51, 3) := by decide +kernel
theorem dX3_isSpoiling_18 : decode cX3_isSpoiling 18 = .ok (.iload_n 3, 1) := by decide +kernel
theorem dX3_isSpoiling_19 : decode cX3_isSpoiling 19 = .ok (.bipush 10, 2) := by decide +kernel
theorem dX3_isSpoiling_21 : decode cX3_isSpoiling 21 = .ok (.irem, 1) := by decide +kernel
theorem dX3_isSpoiling_22 : decode cX3_isSpoiling 22 = .ok (.istore 5, 2) := by decide +kernel
theorem dX3_isSpoiling_24 : decode cX3_isSpoiling 24 = .ok (.iconst 1, 1) := by decide +kernel
theorem dX3_isSpoiling_25 : decode cX3_isSpoiling 25 = .ok (.iload 5, 2) := by decide +kernel
theorem dX3_isSpoiling_27 : decode cX3_isSpoiling 27 = .ok (.ishl, 1) := by decide +kernel
theorem dX3_isSpoiling_28 : decode cX3_isSpoiling 28 = .ok (.istore 6, 2) := by decide +kernel
theorem dX3_isSpoiling_30 : decode cX3_isSpoiling 30 = .ok (.iload 5, 2) := by decide +kernel
theorem dX3_isSpoiling_32 : decode cX3_isSpoiling 32 = .ok (.ifCond .eq 16, 3) := by decide +kernel
theorem dX3_isSpoiling_35 : decode cX3_isSpoiling 35 = .ok (.iload 5, 2) := by decide +kernel
theorem dX3_isSpoiling_37 : decode cX3_isSpoiling 37 = .ok (.iload_n 1, 1) := by decide +kernel
theorem dX3_isSpoiling_38 : decode cX3_isSpoiling 38 = .ok (.if_icmp .gt 10, 3) := by decide +kernel
theorem dX3_isSpoiling_41 : decode cX3_isSpoiling 41 = .ok (.iload_n 2, 1) := by decide +kernel
theorem dX3_isSpoiling_42 : decode cX3_isSpoiling 42 = .ok (.iload 6, 2) := by decide +kernel
theorem dX3_isSpoiling_44 : decode cX3_isSpoiling 44 = .ok (.iand, 1) := by decide +kernel
theorem dX3_isSpoiling_45 : decode cX3_isSpoiling 45 = .ok (.ifCond .eq 5, 3) := by decide +kernel
theorem dX3_isSpoiling_48 : decode cX3_isSpoiling 48 = .ok (.iconst 1, 1) := by decide +kernel
theorem dX3_isSpoiling_49 : decode cX3_isSpoiling 49 = .ok (.ireturn, 1) := by decide +kernel
theorem dX3_isSpoiling_50 : decode cX3_isSpoiling 50 = .ok (.iload_n 2, 1) := by decide +kernel
theorem dX3_isSpoiling_51 : decode cX3_isSpoiling 51 = .ok (.iload 6, 2) := by decide +kernel
theorem dX3_isSpoiling_53 : decode cX3_isSpoiling 53 = .ok (.ior, 1) := by decide +kernel
theorem dX3_isSpoiling_54 : decode cX3_isSpoiling 54 = .ok (.istore_n 2, 1) := by decide +kernel
theorem dX3_isSpoiling_55 : decode cX3_isSpoiling 55 = .ok (.iload_n 3, 1) := by decide +kernel
theorem dX3_isSpoiling_56 : decode cX3_isSpoiling 56 = .ok (.bipush 10, 2) := by decide +kernel
theorem dX3_isSpoiling_58 : decode cX3_isSpoiling 58 = .ok (.idiv, 1) := by decide +kernel
theorem dX3_isSpoiling_59 : decode cX3_isSpoiling 59 = .ok (.istore_n 3, 1) := by decide +kernel
theorem dX3_isSpoiling_60 : decode cX3_isSpoiling 60 = .ok (.iinc 4 1, 3) := by decide +kernel
theorem dX3_isSpoiling_63 : decode cX3_isSpoiling 63 = .ok (.goto (-56), 3) := by decide +kernel
theorem dX3_isSpoiling_66 : decode cX3_isSpoiling 66 = .ok (.iconst 0, 1) := by decide +kernel
theorem dX3_isSpoiling_67 : decode cX3_isSpoiling 67 = .ok (.ireturn, 1) := by decide +kernel
theorem dX3_countsIn_0 : decode cX3_countsIn 0 = .ok (.aload_n 0, 1) := by decide +kernel
theorem dX3_countsIn_1 : decode cX3_countsIn 1 = .ok (.getfield 43, 3) := by decide +kernel
theorem dX3_countsIn_4 : decode cX3_countsIn 4 = .ok (.iload_n 1, 1) := by decide +kernel
theorem dX3_countsIn_5 : decode cX3_countsIn 5 = .ok (.if_icmp .ne 14, 3) := by decide +kernel
theorem dX3_countsIn_8 : decode cX3_countsIn 8 = .ok (.aload_n 0, 1) := by decide +kernel
theorem dX3_countsIn_9 : decode cX3_countsIn 9 = .ok (.getfield 28, 3) := by decide +kernel
theorem dX3_countsIn_12 : decode cX3_countsIn 12 = .ok (.ifCond .ne 7, 3) := by decide +kernel
theorem dX3_countsIn_15 : decode cX3_countsIn 15 = .ok (.iconst 1, 1) := by decide +kernel
theorem dX3_countsIn_16 : decode cX3_countsIn 16 = .ok (.goto 4, 3) := by decide +kernel
theorem dX3_countsIn_19 : decode cX3_countsIn 19 = .ok (.iconst 0, 1) := by decide +kernel
theorem dX3_countsIn_20 : decode cX3_countsIn 20 = .ok (.ireturn, 1) := by decide +kernel
theorem dX3_placeOf_0 : decode cX3_placeOf 0 = .ok (.iconst 0, 1) := by decide +kernel
theorem dX3_placeOf_1 : decode cX3_placeOf 1 = .ok (.istore_n 2, 1) := by decide +kernel
theorem dX3_placeOf_2 : decode cX3_placeOf 2 = .ok (.iload_n 2, 1) := by decide +kernel
theorem dX3_placeOf_3 : decode cX3_placeOf 3 = .ok (.aload_n 0, 1) := by decide +kernel
theorem dX3_placeOf_4 : decode cX3_placeOf 4 = .ok (.getfield 36, 3) := by decide +kernel
theorem dX3_placeOf_7 : decode cX3_placeOf 7 = .ok (.if_icmp .ge 21, 3) := by decide +kernel
theorem dX3_placeOf_10 : decode cX3_placeOf 10 = .ok (.aload_n 0, 1) := by decide +kernel
theorem dX3_placeOf_11 : decode cX3_placeOf 11 = .ok (.getfield 9, 3) := by decide +kernel
theorem dX3_placeOf_14 : decode cX3_placeOf 14 = .ok (.iload_n 2, 1) := by decide +kernel
theorem dX3_placeOf_15 : decode cX3_placeOf 15 = .ok (.iaload, 1) := by decide +kernel
theorem dX3_placeOf_16 : decode cX3_placeOf 16 = .ok (.iload_n 1, 1) := by decide +kernel
theorem dX3_placeOf_17 : decode cX3_placeOf 17 = .ok (.if_icmp .ne 5, 3) := by decide +kernel
theorem dX3_placeOf_20 : decode cX3_placeOf 20 = .ok (.iload_n 2, 1) := by decide +kernel
theorem dX3_placeOf_21 : decode cX3_placeOf 21 = .ok (.ireturn, 1) := by decide +kernel
theorem dX3_placeOf_22 : decode cX3_placeOf 22 = .ok (.iinc 2 1, 3) := by decide +kernel
theorem dX3_placeOf_25 : decode cX3_placeOf 25 = .ok (.goto (-23), 3) := by decide +kernel
theorem dX3_placeOf_28 : decode cX3_placeOf 28 = .ok (.aload_n 0, 1) := by decide +kernel
theorem dX3_placeOf_29 : decode cX3_placeOf 29 = .ok (.getfield 36, 3) := by decide +kernel
theorem dX3_placeOf_32 : decode cX3_placeOf 32 = .ok (.ireturn, 1) := by decide +kernel
theorem dX3_firstOf_0 : decode cX3_firstOf 0 = .ok (.iconst 0, 1) := by decide +kernel
theorem dX3_firstOf_1 : decode cX3_firstOf 1 = .ok (.istore_n 2, 1) := by decide +kernel
theorem dX3_firstOf_2 : decode cX3_firstOf 2 = .ok (.iload_n 2, 1) := by decide +kernel
theorem dX3_firstOf_3 : decode cX3_firstOf 3 = .ok (.aload_n 0, 1) := by decide +kernel
theorem dX3_firstOf_4 : decode cX3_firstOf 4 = .ok (.getfield 36, 3) := by decide +kernel
theorem dX3_firstOf_7 : decode cX3_firstOf 7 = .ok (.if_icmp .ge 27, 3) := by decide +kernel
theorem dX3_firstOf_10 : decode cX3_firstOf 10 = .ok (.aload_n 1, 1) := by decide +kernel
theorem dX3_firstOf_11 : decode cX3_firstOf 11 = .ok (.aload_n 0, 1) := by decide +kernel
theorem dX3_firstOf_12 : decode cX3_firstOf 12 = .ok (.getfield 9, 3) := by decide +kernel
theorem dX3_firstOf_15 : decode cX3_firstOf 15 = .ok (.iload_n 2, 1) := by decide +kernel
theorem dX3_firstOf_16 : decode cX3_firstOf 16 = .ok (.iaload, 1) := by decide +kernel
theorem dX3_firstOf_17 : decode cX3_firstOf 17 = .ok (.baload, 1) := by decide +kernel
theorem dX3_firstOf_18 : decode cX3_firstOf 18 = .ok (.ifCond .eq 10, 3) := by decide +kernel
theorem dX3_firstOf_21 : decode cX3_firstOf 21 = .ok (.aload_n 0, 1) := by decide +kernel
theorem dX3_firstOf_22 : decode cX3_firstOf 22 = .ok (.getfield 9, 3) := by decide +kernel
theorem dX3_firstOf_25 : decode cX3_firstOf 25 = .ok (.iload_n 2, 1) := by decide +kernel
theorem dX3_firstOf_26 : decode cX3_firstOf 26 = .ok (.iaload, 1) := by decide +kernel
theorem dX3_firstOf_27 : decode cX3_firstOf 27 = .ok (.ireturn, 1) := by decide +kernel
theorem dX3_firstOf_28 : decode cX3_firstOf 28 = .ok (.iinc 2 1, 3) := by decide +kernel
theorem dX3_firstOf_31 : decode cX3_firstOf 31 = .ok (.goto (-29), 3) := by decide +kernel
theorem dX3_firstOf_34 : decode cX3_firstOf 34 = .ok (.iconst (-1), 1) := by decide +kernel
theorem dX3_firstOf_35 : decode cX3_firstOf 35 = .ok (.ireturn, 1) := by decide +kernel
theorem dX3_figure_0 : decode cX3_figure 0 = .ok (.iload_n 1, 1) := by decide +kernel
theorem dX3_figure_1 : decode cX3_figure 1 = .ok (.tableswitch 68 0 4 #[35, 40, 45, 50, 63], 35) := by decide +kernel
theorem dX3_figure_36 : decode cX3_figure 36 = .ok (.aload_n 0, 1) := by decide +kernel
theorem dX3_figure_37 : decode cX3_figure 37 = .ok (.getfield 43, 3) := by decide +kernel
theorem dX3_figure_40 : decode cX3_figure 40 = .ok (.ireturn, 1) := by decide +kernel
theorem dX3_figure_41 : decode cX3_figure 41 = .ok (.aload_n 0, 1) := by decide +kernel
theorem dX3_figure_42 : decode cX3_figure 42 = .ok (.getfield 15, 3) := by decide +kernel
theorem dX3_figure_45 : decode cX3_figure 45 = .ok (.ireturn, 1) := by decide +kernel
theorem dX3_figure_46 : decode cX3_figure 46 = .ok (.aload_n 0, 1) := by decide +kernel
theorem dX3_figure_47 : decode cX3_figure 47 = .ok (.getfield 46, 3) := by decide +kernel
theorem dX3_figure_50 : decode cX3_figure 50 = .ok (.ireturn, 1) := by decide +kernel
theorem dX3_figure_51 : decode cX3_figure 51 = .ok (.aload_n 0, 1) := by decide +kernel
theorem dX3_figure_52 : decode cX3_figure 52 = .ok (.getfield 28, 3) := by decide +kernel
theorem dX3_figure_55 : decode cX3_figure 55 = .ok (.ifCond .eq 7, 3) := by decide +kernel
theorem dX3_figure_58 : decode cX3_figure 58 = .ok (.iconst 1, 1) := by decide +kernel
theorem dX3_figure_59 : decode cX3_figure 59 = .ok (.goto 4, 3) := by decide +kernel
theorem dX3_figure_62 : decode cX3_figure 62 = .ok (.iconst 0, 1) := by decide +kernel
theorem dX3_figure_63 : decode cX3_figure 63 = .ok (.ireturn, 1) := by decide +kernel
theorem dX3_figure_64 : decode cX3_figure 64 = .ok (.aload_n 0, 1) := by decide +kernel
theorem dX3_figure_65 : decode cX3_figure 65 = .ok (.getfield 36, 3) := by decide +kernel
theorem dX3_figure_68 : decode cX3_figure 68 = .ok (.ireturn, 1) := by decide +kernel
theorem dX3_figure_69 : decode cX3_figure 69 = .ok (.aload_n 0, 1) := by decide +kernel
theorem dX3_figure_70 : decode cX3_figure 70 = .ok (.getfield 36, 3) := by decide +kernel
theorem dX3_figure_73 : decode cX3_figure 73 = .ok (.ifCond .le 12, 3) := by decide +kernel
theorem dX3_figure_76 : decode cX3_figure 76 = .ok (.aload_n 0, 1) := by decide +kernel
theorem dX3_figure_77 : decode cX3_figure 77 = .ok (.getfield 9, 3) := by decide +kernel
theorem dX3_figure_80 : decode cX3_figure 80 = .ok (.iconst 0, 1) := by decide +kernel
theorem dX3_figure_81 : decode cX3_figure 81 = .ok (.iaload, 1) := by decide +kernel
theorem dX3_figure_82 : decode cX3_figure 82 = .ok (.goto 4, 3) := by decide +kernel
theorem dX3_figure_85 : decode cX3_figure 85 = .ok (.iconst (-1), 1) := by decide +kernel
theorem dX3_figure_86 : decode cX3_figure 86 = .ok (.ireturn, 1) := by decide +kernel
theorem dX4_init_0 : decode cX4_init 0 = .ok (.aload_n 0, 1) := by decide +kernel
theorem dX4_init_1 : decode cX4_init 1 = .ok (.invokespecial 3, 3) := by decide +kernel
theorem dX4_init_4 : decode cX4_init 4 = .ok (.aload_n 0, 1) := by decide +kernel
theorem dX4_init_5 : decode cX4_init 5 = .ok (.iconst 5, 1) := by decide +kernel
theorem dX4_init_6 : decode cX4_init 6 = .ok (.newarray .int, 2) := by decide +kernel
theorem dX4_init_8 : decode cX4_init 8 = .ok (.putfield 9, 3) := by decide +kernel
theorem dX4_init_11 : decode cX4_init 11 = .ok (.aload_n 0, 1) := by decide +kernel
theorem dX4_init_12 : decode cX4_init 12 = .ok (.bipush 6, 2) := by decide +kernel
theorem dX4_init_14 : decode cX4_init 14 = .ok (.newarray .boolean, 2) := by decide +kernel
theorem dX4_init_16 : decode cX4_init 16 = .ok (.putfield 15, 3) := by decide +kernel
theorem dX4_init_19 : decode cX4_init 19 = .ok (.aload_n 0, 1) := by decide +kernel
theorem dX4_init_20 : decode cX4_init 20 = .ok (.bipush 6, 2) := by decide +kernel
theorem dX4_init_22 : decode cX4_init 22 = .ok (.newarray .double, 2) := by decide +kernel
theorem dX4_init_24 : decode cX4_init 24 = .ok (.putfield 19, 3) := by decide +kernel
theorem dX4_init_27 : decode cX4_init 27 = .ok (.return_, 1) := by decide +kernel
set_option maxRecDepth 20000 in
theorem ggX4_fillSeats_X4_start : GoodIn wsX4_fillSeats wsX4_start := goodIn_s [10, 5, 4, 11, 12, 13, 14, 15, 16, 17, 18, 19, 20, 21, 22, 23, 77, 78, 79, 66, 67, 68, 69, 70, 71, 72, 73, 74, 75, 76, 80, 81, 82, 83, 84, 85, 86] (by rfl) (by decide +kernel)
set_option maxRecDepth 20000 in
theorem gX4_fillSeats_X4_start : GoodIn wsX4_fillSeats (wsV RX4 23 RX4 yX4_start wsX4_start) := goodIn_app (goodIn_of _ (by decide +kernel)) ggX4_fillSeats_X4_start
set_option maxRecDepth 20000 in
theorem ggX4_fillSeats_X0_countsOfListsIn : GoodIn wsX4_fillSeats wsX0_countsOfListsIn := goodIn_s [27, 28, 29, 30, 31, 32, 33, 34, 35, 36, 37, 38, 66, 67, 68, 69, 70, 71, 72, 73, 74, 75, 76, 80, 81, 82, 83, 84, 85, 86] (by rfl) (by decide +kernel)
set_option maxRecDepth 20000 in
theorem gX4_fillSeats_X0_countsOfListsIn : GoodIn wsX4_fillSeats (wsV RX4 32 RX0 yX0_countsOfListsIn wsX0_countsOfListsIn) := goodIn_app (goodIn_of _ (by decide +kernel)) ggX4_fillSeats_X0_countsOfListsIn
set_option maxRecDepth 20000 in
theorem ggX4_fillSeats_X4_countHeld : GoodIn wsX4_fillSeats wsX4_countHeld := goodIn_s [42, 3, 11, 12, 4, 16, 43, 33, 34, 35, 36, 37, 38, 44, 45, 46, 47, 48, 49, 77, 78, 79, 66, 67, 68, 69, 70, 71, 72, 73, 74, 75, 76, 80, 81, 82, 83, 84, 85, 86] (by rfl) (by decide +kernel)
set_option maxRecDepth 20000 in
theorem gX4_fillSeats_X4_countHeld : GoodIn wsX4_fillSeats (wsV RX4 36 RX4 yX4_countHeld wsX4_countHeld) := goodIn_app (goodIn_of _ (by decide +kernel)) ggX4_fillSeats_X4_countHeld
set_option maxRecDepth 20000 in
theorem ggX4_fillSeats_X4_mostHeld : GoodIn wsX4_fillSeats wsX4_mostHeld := goodIn_s [53, 4, 3, 77, 78, 79] (by rfl) (by decide +kernel)
set_option maxRecDepth 20000 in
theorem gX4_fillSeats_X4_mostHeld : GoodIn wsX4_fillSeats (wsV RX4 39 RX4 yX4_mostHeld wsX4_mostHeld) := goodIn_app (goodIn_of _ (by decide +kernel)) ggX4_fillSeats_X4_mostHeld
set_option maxRecDepth 20000 in
theorem ggX4_fillSeats_X4_lowerValues : GoodIn wsX4_fillSeats wsX4_lowerValues := goodIn_s [57, 11, 12, 4, 16, 3, 43, 33, 34, 35, 36, 37, 38, 44, 45, 46, 47, 48, 49, 58, 59, 9, 60, 61, 66, 67, 68, 69, 70, 71, 72, 73, 74, 75, 76, 77, 78, 79, 80, 81, 82, 83, 84, 85, 86] (by rfl) (by decide +kernel)
set_option maxRecDepth 20000 in
theorem gX4_fillSeats_X4_lowerValues : GoodIn wsX4_fillSeats (wsV RX4 47 RX4 yX4_lowerValues wsX4_lowerValues) := goodIn_app (goodIn_of _ (by decide +kernel)) ggX4_fillSeats_X4_lowerValues
set_option maxRecDepth 20000 in
theorem ggX4_fillSeats_X4_leastHeld : GoodIn wsX4_fillSeats wsX4_leastHeld := goodIn_s [65, 4, 3, 77, 78, 79] (by rfl) (by decide +kernel)
set_option maxRecDepth 20000 in
theorem gX4_fillSeats_X4_leastHeld : GoodIn wsX4_fillSeats (wsV RX4 51 RX4 yX4_leastHeld wsX4_leastHeld) := goodIn_app (goodIn_of _ (by decide +kernel)) ggX4_fillSeats_X4_leastHeld
theorem dX4_fillSeats_0 : decode cX4_fillSeats 0 = .ok (.aload_n 0, 1) := by decide +kernel
theorem dX4_fillSeats_1 : decode cX4_fillSeats 1 = .ok (.aload_n 1, 1) := by decide +kernel
theorem dX4_fillSeats_2 : decode cX4_fillSeats 2 = .ok (.iload_n 2, 1) := by decide +kernel
theorem dX4_fillSeats_3 : decode cX4_fillSeats 3 = .ok (.invokevirtual 23, 3) := by decide +kernel
theorem dX4_fillSeats_6 : decode cX4_fillSeats 6 = .ok (.aload_n 1, 1) := by decide +kernel
theorem dX4_fillSeats_7 : decode cX4_fillSeats 7 = .ok (.getfield 27, 3) := by decide +kernel
theorem dX4_fillSeats_10 : decode cX4_fillSeats 10 = .ok (.iload_n 2, 1) := by decide +kernel
theorem dX4_fillSeats_11 : decode cX4_fillSeats 11 = .ok (.iaload, 1) := by decide +kernel
theorem dX4_fillSeats_12 : decode cX4_fillSeats 12 = .ok (.istore_n 3, 1) := by decide +kernel
theorem dX4_fillSeats_13 : decode cX4_fillSeats 13 = .ok (.aload_n 1, 1) := by decide +kernel
theorem dX4_fillSeats_14 : decode cX4_fillSeats 14 = .ok (.iload_n 2, 1) := by decide +kernel
theorem dX4_fillSeats_15 : decode cX4_fillSeats 15 = .ok (.invokevirtual 32, 3) := by decide +kernel
theorem dX4_fillSeats_18 : decode cX4_fillSeats 18 = .ok (.iload_n 3, 1) := by decide +kernel
theorem dX4_fillSeats_19 : decode cX4_fillSeats 19 = .ok (.iconst 1, 1) := by decide +kernel
theorem dX4_fillSeats_20 : decode cX4_fillSeats 20 = .ok (.iadd, 1) := by decide +kernel
theorem dX4_fillSeats_21 : decode cX4_fillSeats 21 = .ok (.idiv, 1) := by decide +kernel
theorem dX4_fillSeats_22 : decode cX4_fillSeats 22 = .ok (.iconst 1, 1) := by decide +kernel
theorem dX4_fillSeats_23 : decode cX4_fillSeats 23 = .ok (.iadd, 1) := by decide +kernel
theorem dX4_fillSeats_24 : decode cX4_fillSeats 24 = .ok (.istore 4, 2) := by decide +kernel
theorem dX4_fillSeats_26 : decode cX4_fillSeats 26 = .ok (.iconst 0, 1) := by decide +kernel
theorem dX4_fillSeats_27 : decode cX4_fillSeats 27 = .ok (.istore 5, 2) := by decide +kernel
theorem dX4_fillSeats_29 : decode cX4_fillSeats 29 = .ok (.iconst 0, 1) := by decide +kernel
theorem dX4_fillSeats_30 : decode cX4_fillSeats 30 = .ok (.istore 6, 2) := by decide +kernel
theorem dX4_fillSeats_32 : decode cX4_fillSeats 32 = .ok (.iload 6, 2) := by decide +kernel
theorem dX4_fillSeats_34 : decode cX4_fillSeats 34 = .ok (.bipush 6, 2) := by decide +kernel
theorem dX4_fillSeats_36 : decode cX4_fillSeats 36 = .ok (.if_icmp .ge 119, 3) := by decide +kernel
theorem dX4_fillSeats_39 : decode cX4_fillSeats 39 = .ok (.iload 5, 2) := by decide +kernel
theorem dX4_fillSeats_41 : decode cX4_fillSeats 41 = .ok (.iload_n 3, 1) := by decide +kernel
theorem dX4_fillSeats_42 : decode cX4_fillSeats 42 = .ok (.if_icmp .ge 113, 3) := by decide +kernel
theorem dX4_fillSeats_45 : decode cX4_fillSeats 45 = .ok (.aload_n 0, 1) := by decide +kernel
theorem dX4_fillSeats_46 : decode cX4_fillSeats 46 = .ok (.aload_n 1, 1) := by decide +kernel
theorem dX4_fillSeats_47 : decode cX4_fillSeats 47 = .ok (.iload_n 2, 1) := by decide +kernel
theorem dX4_fillSeats_48 : decode cX4_fillSeats 48 = .ok (.invokevirtual 36, 3) := by decide +kernel
theorem dX4_fillSeats_51 : decode cX4_fillSeats 51 = .ok (.aload_n 0, 1) := by decide +kernel
theorem dX4_fillSeats_52 : decode cX4_fillSeats 52 = .ok (.invokevirtual 39, 3) := by decide +kernel
theorem dX4_fillSeats_55 : decode cX4_fillSeats 55 = .ok (.istore 7, 2) := by decide +kernel
theorem dX4_fillSeats_57 : decode cX4_fillSeats 57 = .ok (.iload 7, 2) := by decide +kernel
theorem dX4_fillSeats_59 : decode cX4_fillSeats 59 = .ok (.iconst (-1), 1) := by decide +kernel
theorem dX4_fillSeats_60 : decode cX4_fillSeats 60 = .ok (.if_icmp .ne 4, 3) := by decide +kernel
theorem dX4_fillSeats_63 : decode cX4_fillSeats 63 = .ok (.return_, 1) := by decide +kernel
theorem dX4_fillSeats_64 : decode cX4_fillSeats 64 = .ok (.aload_n 1, 1) := by decide +kernel
theorem dX4_fillSeats_65 : decode cX4_fillSeats 65 = .ok (.getfield 43, 3) := by decide +kernel
theorem dX4_fillSeats_68 : decode cX4_fillSeats 68 = .ok (.iload 6, 2) := by decide +kernel
theorem dX4_fillSeats_70 : decode cX4_fillSeats 70 = .ok (.isub, 1) := by decide +kernel
theorem dX4_fillSeats_71 : decode cX4_fillSeats 71 = .ok (.iload_n 3, 1) := by decide +kernel
theorem dX4_fillSeats_72 : decode cX4_fillSeats 72 = .ok (.iload 5, 2) := by decide +kernel
theorem dX4_fillSeats_74 : decode cX4_fillSeats 74 = .ok (.isub, 1) := by decide +kernel
theorem dX4_fillSeats_75 : decode cX4_fillSeats 75 = .ok (.if_icmp .gt 7, 3) := by decide +kernel
theorem dX4_fillSeats_78 : decode cX4_fillSeats 78 = .ok (.iconst 1, 1) := by decide +kernel
theorem dX4_fillSeats_79 : decode cX4_fillSeats 79 = .ok (.goto 4, 3) := by decide +kernel
theorem dX4_fillSeats_82 : decode cX4_fillSeats 82 = .ok (.iconst 0, 1) := by decide +kernel
theorem dX4_fillSeats_83 : decode cX4_fillSeats 83 = .ok (.istore 8, 2) := by decide +kernel
theorem dX4_fillSeats_85 : decode cX4_fillSeats 85 = .ok (.iload 8, 2) := by decide +kernel
theorem dX4_fillSeats_87 : decode cX4_fillSeats 87 = .ok (.ifCond .ne 17, 3) := by decide +kernel
theorem dX4_fillSeats_90 : decode cX4_fillSeats 90 = .ok (.aload_n 0, 1) := by decide +kernel
theorem dX4_fillSeats_91 : decode cX4_fillSeats 91 = .ok (.getfield 19, 3) := by decide +kernel
theorem dX4_fillSeats_94 : decode cX4_fillSeats 94 = .ok (.iload 7, 2) := by decide +kernel
theorem dX4_fillSeats_96 : decode cX4_fillSeats 96 = .ok (.daload, 1) := by decide +kernel
theorem dX4_fillSeats_97 : decode cX4_fillSeats 97 = .ok (.iload 4, 2) := by decide +kernel
theorem dX4_fillSeats_99 : decode cX4_fillSeats 99 = .ok (.i2d, 1) := by decide +kernel
theorem dX4_fillSeats_100 : decode cX4_fillSeats 100 = .ok (.dcmp .l, 1) := by decide +kernel
theorem dX4_fillSeats_101 : decode cX4_fillSeats 101 = .ok (.ifCond .lt 36, 3) := by decide +kernel
theorem dX4_fillSeats_104 : decode cX4_fillSeats 104 = .ok (.aload_n 0, 1) := by decide +kernel
theorem dX4_fillSeats_105 : decode cX4_fillSeats 105 = .ok (.aload_n 1, 1) := by decide +kernel
theorem dX4_fillSeats_106 : decode cX4_fillSeats 106 = .ok (.iload_n 2, 1) := by decide +kernel
theorem dX4_fillSeats_107 : decode cX4_fillSeats 107 = .ok (.iload 7, 2) := by decide +kernel
theorem dX4_fillSeats_109 : decode cX4_fillSeats 109 = .ok (.iload 4, 2) := by decide +kernel
theorem dX4_fillSeats_111 : decode cX4_fillSeats 111 = .ok (.invokevirtual 47, 3) := by decide +kernel
theorem dX4_fillSeats_114 : decode cX4_fillSeats 114 = .ok (.aload_n 0, 1) := by decide +kernel
theorem dX4_fillSeats_115 : decode cX4_fillSeats 115 = .ok (.getfield 15, 3) := by decide +kernel
theorem dX4_fillSeats_118 : decode cX4_fillSeats 118 = .ok (.iload 7, 2) := by decide +kernel
theorem dX4_fillSeats_120 : decode cX4_fillSeats 120 = .ok (.iconst 0, 1) := by decide +kernel
theorem dX4_fillSeats_121 : decode cX4_fillSeats 121 = .ok (.bastore, 1) := by decide +kernel
theorem dX4_fillSeats_122 : decode cX4_fillSeats 122 = .ok (.aload_n 0, 1) := by decide +kernel
theorem dX4_fillSeats_123 : decode cX4_fillSeats 123 = .ok (.getfield 9, 3) := by decide +kernel
theorem dX4_fillSeats_126 : decode cX4_fillSeats 126 = .ok (.iload 5, 2) := by decide +kernel
theorem dX4_fillSeats_128 : decode cX4_fillSeats 128 = .ok (.iload 7, 2) := by decide +kernel
theorem dX4_fillSeats_130 : decode cX4_fillSeats 130 = .ok (.iastore, 1) := by decide +kernel
theorem dX4_fillSeats_131 : decode cX4_fillSeats 131 = .ok (.iinc 5 1, 3) := by decide +kernel
theorem dX4_fillSeats_134 : decode cX4_fillSeats 134 = .ok (.goto 15, 3) := by decide +kernel
theorem dX4_fillSeats_137 : decode cX4_fillSeats 137 = .ok (.aload_n 0, 1) := by decide +kernel
theorem dX4_fillSeats_138 : decode cX4_fillSeats 138 = .ok (.getfield 15, 3) := by decide +kernel
theorem dX4_fillSeats_141 : decode cX4_fillSeats 141 = .ok (.aload_n 0, 1) := by decide +kernel
theorem dX4_fillSeats_142 : decode cX4_fillSeats 142 = .ok (.iload 7, 2) := by decide +kernel
theorem dX4_fillSeats_144 : decode cX4_fillSeats 144 = .ok (.invokevirtual 51, 3) := by decide +kernel
theorem dX4_fillSeats_147 : decode cX4_fillSeats 147 = .ok (.iconst 0, 1) := by decide +kernel
theorem dX4_fillSeats_148 : decode cX4_fillSeats 148 = .ok (.bastore, 1) := by decide +kernel
theorem dX4_fillSeats_149 : decode cX4_fillSeats 149 = .ok (.iinc 6 1, 3) := by decide +kernel
theorem dX4_fillSeats_152 : decode cX4_fillSeats 152 = .ok (.goto (-120), 3) := by decide +kernel
theorem dX4_fillSeats_155 : decode cX4_fillSeats 155 = .ok (.return_, 1) := by decide +kernel
set_option maxRecDepth 20000 in
theorem ggX4_start_X0_isStanding : GoodIn wsX4_start wsX0_isStanding := goodIn_s [13, 14, 15, 19, 20, 21, 22, 23, 24, 25, 26, 27, 28, 29] (by rfl) (by decide +kernel)
set_option maxRecDepth 20000 in
theorem gX4_start_X0_isStanding : GoodIn wsX4_start (wsV RX4 54 RX0 yX0_isStanding wsX0_isStanding) := goodIn_app (goodIn_of _ (by decide +kernel)) ggX4_start_X0_isStanding
theorem dX4_start_0 : decode cX4_start 0 = .ok (.iconst 0, 1) := by decide +kernel
theorem dX4_start_1 : decode cX4_start 1 = .ok (.istore_n 3, 1) := by decide +kernel
theorem dX4_start_2 : decode cX4_start 2 = .ok (.iload_n 3, 1) := by decide +kernel
theorem dX4_start_3 : decode cX4_start 3 = .ok (.iconst 5, 1) := by decide +kernel
theorem dX4_start_4 : decode cX4_start 4 = .ok (.if_icmp .ge 16, 3) := by decide +kernel
theorem dX4_start_7 : decode cX4_start 7 = .ok (.aload_n 0, 1) := by decide +kernel
theorem dX4_start_8 : decode cX4_start 8 = .ok (.getfield 9, 3) := by decide +kernel
theorem dX4_start_11 : decode cX4_start 11 = .ok (.iload_n 3, 1) := by decide +kernel
theorem dX4_start_12 : decode cX4_start 12 = .ok (.iconst (-1), 1) := by decide +kernel
theorem dX4_start_13 : decode cX4_start 13 = .ok (.iastore, 1) := by decide +kernel
theorem dX4_start_14 : decode cX4_start 14 = .ok (.iinc 3 1, 3) := by decide +kernel
theorem dX4_start_17 : decode cX4_start 17 = .ok (.goto (-15), 3) := by decide +kernel
theorem dX4_start_20 : decode cX4_start 20 = .ok (.iconst 0, 1) := by decide +kernel
theorem dX4_start_21 : decode cX4_start 21 = .ok (.istore_n 3, 1) := by decide +kernel
theorem dX4_start_22 : decode cX4_start 22 = .ok (.iload_n 3, 1) := by decide +kernel
theorem dX4_start_23 : decode cX4_start 23 = .ok (.bipush 6, 2) := by decide +kernel
theorem dX4_start_25 : decode cX4_start 25 = .ok (.if_icmp .ge 20, 3) := by decide +kernel
theorem dX4_start_28 : decode cX4_start 28 = .ok (.aload_n 0, 1) := by decide +kernel
theorem dX4_start_29 : decode cX4_start 29 = .ok (.getfield 15, 3) := by decide +kernel
theorem dX4_start_32 : decode cX4_start 32 = .ok (.iload_n 3, 1) := by decide +kernel
theorem dX4_start_33 : decode cX4_start 33 = .ok (.aload_n 1, 1) := by decide +kernel
theorem dX4_start_34 : decode cX4_start 34 = .ok (.iload_n 3, 1) := by decide +kernel
theorem dX4_start_35 : decode cX4_start 35 = .ok (.invokevirtual 54, 3) := by decide +kernel
theorem dX4_start_38 : decode cX4_start 38 = .ok (.bastore, 1) := by decide +kernel
theorem dX4_start_39 : decode cX4_start 39 = .ok (.iinc 3 1, 3) := by decide +kernel
theorem dX4_start_42 : decode cX4_start 42 = .ok (.goto (-20), 3) := by decide +kernel
theorem dX4_start_45 : decode cX4_start 45 = .ok (.iconst 0, 1) := by decide +kernel
theorem dX4_start_46 : decode cX4_start 46 = .ok (.istore_n 3, 1) := by decide +kernel
theorem dX4_start_47 : decode cX4_start 47 = .ok (.iload_n 3, 1) := by decide +kernel
theorem dX4_start_48 : decode cX4_start 48 = .ok (.aload_n 1, 1) := by decide +kernel
theorem dX4_start_49 : decode cX4_start 49 = .ok (.getfield 58, 3) := by decide +kernel
theorem dX4_start_52 : decode cX4_start 52 = .ok (.if_icmp .ge 49, 3) := by decide +kernel
theorem dX4_start_55 : decode cX4_start 55 = .ok (.aload_n 1, 1) := by decide +kernel
theorem dX4_start_56 : decode cX4_start 56 = .ok (.getfield 61, 3) := by decide +kernel
theorem dX4_start_59 : decode cX4_start 59 = .ok (.iload_n 3, 1) := by decide +kernel
theorem dX4_start_60 : decode cX4_start 60 = .ok (.aaload, 1) := by decide +kernel
theorem dX4_start_61 : decode cX4_start 61 = .ok (.astore 4, 2) := by decide +kernel
theorem dX4_start_63 : decode cX4_start 63 = .ok (.aload 4, 2) := by decide +kernel
theorem dX4_start_65 : decode cX4_start 65 = .ok (.getfield 65, 3) := by decide +kernel
theorem dX4_start_68 : decode cX4_start 68 = .ok (.iload_n 2, 1) := by decide +kernel
theorem dX4_start_69 : decode cX4_start 69 = .ok (.if_icmp .ne 26, 3) := by decide +kernel
theorem dX4_start_72 : decode cX4_start 72 = .ok (.aload 4, 2) := by decide +kernel
theorem dX4_start_74 : decode cX4_start 74 = .ok (.aload 4, 2) := by decide +kernel
theorem dX4_start_76 : decode cX4_start 76 = .ok (.getfield 70, 3) := by decide +kernel
theorem dX4_start_79 : decode cX4_start 79 = .ok (.ifCond .eq 7, 3) := by decide +kernel
theorem dX4_start_82 : decode cX4_start 82 = .ok (.dconst 0, 1) := by decide +kernel
theorem dX4_start_83 : decode cX4_start 83 = .ok (.goto 9, 3) := by decide +kernel
theorem dX4_start_86 : decode cX4_start 86 = .ok (.aload 4, 2) := by decide +kernel
theorem dX4_start_88 : decode cX4_start 88 = .ok (.getfield 74, 3) := by decide +kernel
theorem dX4_start_91 : decode cX4_start 91 = .ok (.i2d, 1) := by decide +kernel
theorem dX4_start_92 : decode cX4_start 92 = .ok (.putfield 77, 3) := by decide +kernel
theorem dX4_start_95 : decode cX4_start 95 = .ok (.iinc 3 1, 3) := by decide +kernel
theorem dX4_start_98 : decode cX4_start 98 = .ok (.goto (-51), 3) := by decide +kernel
theorem dX4_start_101 : decode cX4_start 101 = .ok (.return_, 1) := by decide +kernel
set_option maxRecDepth 20000 in
theorem ggX4_countHeld_X3_countsIn : GoodIn wsX4_countHeld wsX3_countsIn := goodIn_s [10, 11, 12, 33, 34, 35, 36, 37, 38, 39] (by rfl) (by decide +kernel)
set_option maxRecDepth 20000 in
theorem gX4_countHeld_X3_countsIn : GoodIn wsX4_countHeld (wsV RX4 81 RX3 yX3_countsIn wsX3_countsIn) := goodIn_app (goodIn_of _ (by decide +kernel)) ggX4_countHeld_X3_countsIn
set_option maxRecDepth 20000 in
theorem ggX4_countHeld_X3_firstOf : GoodIn wsX4_countHeld wsX3_firstOf := goodIn_s [16, 17, 18, 33, 34, 35, 36, 37, 38, 39] (by rfl) (by decide +kernel)
set_option maxRecDepth 20000 in
theorem gX4_countHeld_X3_firstOf : GoodIn wsX4_countHeld (wsV RX4 84 RX3 yX3_firstOf wsX3_firstOf) := goodIn_app (goodIn_of _ (by decide +kernel)) ggX4_countHeld_X3_firstOf
theorem dX4_countHeld_0 : decode cX4_countHeld 0 = .ok (.iconst 0, 1) := by decide +kernel
theorem dX4_countHeld_1 : decode cX4_countHeld 1 = .ok (.istore_n 3, 1) := by decide +kernel
theorem dX4_countHeld_2 : decode cX4_countHeld 2 = .ok (.iload_n 3, 1) := by decide +kernel
theorem dX4_countHeld_3 : decode cX4_countHeld 3 = .ok (.bipush 6, 2) := by decide +kernel
theorem dX4_countHeld_5 : decode cX4_countHeld 5 = .ok (.if_icmp .ge 16, 3) := by decide +kernel
theorem dX4_countHeld_8 : decode cX4_countHeld 8 = .ok (.aload_n 0, 1) := by decide +kernel
theorem dX4_countHeld_9 : decode cX4_countHeld 9 = .ok (.getfield 19, 3) := by decide +kernel
theorem dX4_countHeld_12 : decode cX4_countHeld 12 = .ok (.iload_n 3, 1) := by decide +kernel
theorem dX4_countHeld_13 : decode cX4_countHeld 13 = .ok (.dconst 0, 1) := by decide +kernel
theorem dX4_countHeld_14 : decode cX4_countHeld 14 = .ok (.dastore, 1) := by decide +kernel
theorem dX4_countHeld_15 : decode cX4_countHeld 15 = .ok (.iinc 3 1, 3) := by decide +kernel
theorem dX4_countHeld_18 : decode cX4_countHeld 18 = .ok (.goto (-16), 3) := by decide +kernel
theorem dX4_countHeld_21 : decode cX4_countHeld 21 = .ok (.iconst 0, 1) := by decide +kernel
theorem dX4_countHeld_22 : decode cX4_countHeld 22 = .ok (.istore_n 3, 1) := by decide +kernel
theorem dX4_countHeld_23 : decode cX4_countHeld 23 = .ok (.iload_n 3, 1) := by decide +kernel
theorem dX4_countHeld_24 : decode cX4_countHeld 24 = .ok (.aload_n 1, 1) := by decide +kernel
theorem dX4_countHeld_25 : decode cX4_countHeld 25 = .ok (.getfield 58, 3) := by decide +kernel
theorem dX4_countHeld_28 : decode cX4_countHeld 28 = .ok (.if_icmp .ge 62, 3) := by decide +kernel
theorem dX4_countHeld_31 : decode cX4_countHeld 31 = .ok (.aload_n 1, 1) := by decide +kernel
theorem dX4_countHeld_32 : decode cX4_countHeld 32 = .ok (.getfield 61, 3) := by decide +kernel
theorem dX4_countHeld_35 : decode cX4_countHeld 35 = .ok (.iload_n 3, 1) := by decide +kernel
theorem dX4_countHeld_36 : decode cX4_countHeld 36 = .ok (.aaload, 1) := by decide +kernel
theorem dX4_countHeld_37 : decode cX4_countHeld 37 = .ok (.astore 4, 2) := by decide +kernel
theorem dX4_countHeld_39 : decode cX4_countHeld 39 = .ok (.aload 4, 2) := by decide +kernel
theorem dX4_countHeld_41 : decode cX4_countHeld 41 = .ok (.iload_n 2, 1) := by decide +kernel
theorem dX4_countHeld_42 : decode cX4_countHeld 42 = .ok (.invokevirtual 81, 3) := by decide +kernel
theorem dX4_countHeld_45 : decode cX4_countHeld 45 = .ok (.ifCond .eq 15, 3) := by decide +kernel
theorem dX4_countHeld_48 : decode cX4_countHeld 48 = .ok (.aload 4, 2) := by decide +kernel
theorem dX4_countHeld_50 : decode cX4_countHeld 50 = .ok (.aload_n 0, 1) := by decide +kernel
theorem dX4_countHeld_51 : decode cX4_countHeld 51 = .ok (.getfield 15, 3) := by decide +kernel
theorem dX4_countHeld_54 : decode cX4_countHeld 54 = .ok (.invokevirtual 84, 3) := by decide +kernel
theorem dX4_countHeld_57 : decode cX4_countHeld 57 = .ok (.goto 4, 3) := by decide +kernel
theorem dX4_countHeld_60 : decode cX4_countHeld 60 = .ok (.iconst (-1), 1) := by decide +kernel
theorem dX4_countHeld_61 : decode cX4_countHeld 61 = .ok (.istore 5, 2) := by decide +kernel
theorem dX4_countHeld_63 : decode cX4_countHeld 63 = .ok (.iload 5, 2) := by decide +kernel
theorem dX4_countHeld_65 : decode cX4_countHeld 65 = .ok (.iconst (-1), 1) := by decide +kernel
theorem dX4_countHeld_66 : decode cX4_countHeld 66 = .ok (.if_icmp .eq 18, 3) := by decide +kernel
theorem dX4_countHeld_69 : decode cX4_countHeld 69 = .ok (.aload_n 0, 1) := by decide +kernel
theorem dX4_countHeld_70 : decode cX4_countHeld 70 = .ok (.getfield 19, 3) := by decide +kernel
theorem dX4_countHeld_73 : decode cX4_countHeld 73 = .ok (.iload 5, 2) := by decide +kernel
theorem dX4_countHeld_75 : decode cX4_countHeld 75 = .ok (.dup2, 1) := by decide +kernel
theorem dX4_countHeld_76 : decode cX4_countHeld 76 = .ok (.daload, 1) := by decide +kernel
theorem dX4_countHeld_77 : decode cX4_countHeld 77 = .ok (.aload 4, 2) := by decide +kernel
theorem dX4_countHeld_79 : decode cX4_countHeld 79 = .ok (.getfield 77, 3) := by decide +kernel
theorem dX4_countHeld_82 : decode cX4_countHeld 82 = .ok (.dadd, 1) := by decide +kernel
theorem dX4_countHeld_83 : decode cX4_countHeld 83 = .ok (.dastore, 1) := by decide +kernel
theorem dX4_countHeld_84 : decode cX4_countHeld 84 = .ok (.iinc 3 1, 3) := by decide +kernel
theorem dX4_countHeld_87 : decode cX4_countHeld 87 = .ok (.goto (-64), 3) := by decide +kernel
theorem dX4_countHeld_90 : decode cX4_countHeld 90 = .ok (.return_, 1) := by decide +kernel
theorem dX4_mostHeld_0 : decode cX4_mostHeld 0 = .ok (.iconst (-1), 1) := by decide +kernel
theorem dX4_mostHeld_1 : decode cX4_mostHeld 1 = .ok (.istore_n 1, 1) := by decide +kernel
theorem dX4_mostHeld_2 : decode cX4_mostHeld 2 = .ok (.iconst 0, 1) := by decide +kernel
theorem dX4_mostHeld_3 : decode cX4_mostHeld 3 = .ok (.istore_n 2, 1) := by decide +kernel
theorem dX4_mostHeld_4 : decode cX4_mostHeld 4 = .ok (.iload_n 2, 1) := by decide +kernel
theorem dX4_mostHeld_5 : decode cX4_mostHeld 5 = .ok (.bipush 6, 2) := by decide +kernel
theorem dX4_mostHeld_7 : decode cX4_mostHeld 7 = .ok (.if_icmp .ge 41, 3) := by decide +kernel
theorem dX4_mostHeld_10 : decode cX4_mostHeld 10 = .ok (.aload_n 0, 1) := by decide +kernel
theorem dX4_mostHeld_11 : decode cX4_mostHeld 11 = .ok (.getfield 15, 3) := by decide +kernel
theorem dX4_mostHeld_14 : decode cX4_mostHeld 14 = .ok (.iload_n 2, 1) := by decide +kernel
theorem dX4_mostHeld_15 : decode cX4_mostHeld 15 = .ok (.baload, 1) := by decide +kernel
theorem dX4_mostHeld_16 : decode cX4_mostHeld 16 = .ok (.ifCond .eq 26, 3) := by decide +kernel
theorem dX4_mostHeld_19 : decode cX4_mostHeld 19 = .ok (.iload_n 1, 1) := by decide +kernel
theorem dX4_mostHeld_20 : decode cX4_mostHeld 20 = .ok (.iconst (-1), 1) := by decide +kernel
theorem dX4_mostHeld_21 : decode cX4_mostHeld 21 = .ok (.if_icmp .eq 19, 3) := by decide +kernel
theorem dX4_mostHeld_24 : decode cX4_mostHeld 24 = .ok (.aload_n 0, 1) := by decide +kernel
theorem dX4_mostHeld_25 : decode cX4_mostHeld 25 = .ok (.getfield 19, 3) := by decide +kernel
theorem dX4_mostHeld_28 : decode cX4_mostHeld 28 = .ok (.iload_n 2, 1) := by decide +kernel
theorem dX4_mostHeld_29 : decode cX4_mostHeld 29 = .ok (.daload, 1) := by decide +kernel
theorem dX4_mostHeld_30 : decode cX4_mostHeld 30 = .ok (.aload_n 0, 1) := by decide +kernel
theorem dX4_mostHeld_31 : decode cX4_mostHeld 31 = .ok (.getfield 19, 3) := by decide +kernel
theorem dX4_mostHeld_34 : decode cX4_mostHeld 34 = .ok (.iload_n 1, 1) := by decide +kernel
theorem dX4_mostHeld_35 : decode cX4_mostHeld 35 = .ok (.daload, 1) := by decide +kernel
theorem dX4_mostHeld_36 : decode cX4_mostHeld 36 = .ok (.dcmp .l, 1) := by decide +kernel
theorem dX4_mostHeld_37 : decode cX4_mostHeld 37 = .ok (.ifCond .le 5, 3) := by decide +kernel
theorem dX4_mostHeld_40 : decode cX4_mostHeld 40 = .ok (.iload_n 2, 1) := by decide +kernel
theorem dX4_mostHeld_41 : decode cX4_mostHeld 41 = .ok (.istore_n 1, 1) := by decide +kernel
theorem dX4_mostHeld_42 : decode cX4_mostHeld 42 = .ok (.iinc 2 1, 3) := by decide +kernel
theorem dX4_mostHeld_45 : decode cX4_mostHeld 45 = .ok (.goto (-41), 3) := by decide +kernel
theorem dX4_mostHeld_48 : decode cX4_mostHeld 48 = .ok (.iload_n 1, 1) := by decide +kernel
theorem dX4_mostHeld_49 : decode cX4_mostHeld 49 = .ok (.ireturn, 1) := by decide +kernel
theorem dX4_leastHeld_0 : decode cX4_leastHeld 0 = .ok (.iload_n 1, 1) := by decide +kernel
theorem dX4_leastHeld_1 : decode cX4_leastHeld 1 = .ok (.istore_n 2, 1) := by decide +kernel
theorem dX4_leastHeld_2 : decode cX4_leastHeld 2 = .ok (.iconst 0, 1) := by decide +kernel
theorem dX4_leastHeld_3 : decode cX4_leastHeld 3 = .ok (.istore_n 3, 1) := by decide +kernel
theorem dX4_leastHeld_4 : decode cX4_leastHeld 4 = .ok (.iload_n 3, 1) := by decide +kernel
theorem dX4_leastHeld_5 : decode cX4_leastHeld 5 = .ok (.bipush 6, 2) := by decide +kernel
theorem dX4_leastHeld_7 : decode cX4_leastHeld 7 = .ok (.if_icmp .ge 36, 3) := by decide +kernel
theorem dX4_leastHeld_10 : decode cX4_leastHeld 10 = .ok (.aload_n 0, 1) := by decide +kernel
theorem dX4_leastHeld_11 : decode cX4_leastHeld 11 = .ok (.getfield 15, 3) := by decide +kernel
theorem dX4_leastHeld_14 : decode cX4_leastHeld 14 = .ok (.iload_n 3, 1) := by decide +kernel
theorem dX4_leastHeld_15 : decode cX4_leastHeld 15 = .ok (.baload, 1) := by decide +kernel
theorem dX4_leastHeld_16 : decode cX4_leastHeld 16 = .ok (.ifCond .eq 21, 3) := by decide +kernel
theorem dX4_leastHeld_19 : decode cX4_leastHeld 19 = .ok (.aload_n 0, 1) := by decide +kernel
theorem dX4_leastHeld_20 : decode cX4_leastHeld 20 = .ok (.getfield 19, 3) := by decide +kernel
theorem dX4_leastHeld_23 : decode cX4_leastHeld 23 = .ok (.iload_n 3, 1) := by decide +kernel
theorem dX4_leastHeld_24 : decode cX4_leastHeld 24 = .ok (.daload, 1) := by decide +kernel
theorem dX4_leastHeld_25 : decode cX4_leastHeld 25 = .ok (.aload_n 0, 1) := by decide +kernel
theorem dX4_leastHeld_26 : decode cX4_leastHeld 26 = .ok (.getfield 19, 3) := by decide +kernel
theorem dX4_leastHeld_29 : decode cX4_leastHeld 29 = .ok (.iload_n 2, 1) := by decide +kernel
theorem dX4_leastHeld_30 : decode cX4_leastHeld 30 = .ok (.daload, 1) := by decide +kernel
theorem dX4_leastHeld_31 : decode cX4_leastHeld 31 = .ok (.dcmp .g, 1) := by decide +kernel
theorem dX4_leastHeld_32 : decode cX4_leastHeld 32 = .ok (.ifCond .gt 5, 3) := by decide +kernel
theorem dX4_leastHeld_35 : decode cX4_leastHeld 35 = .ok (.iload_n 3, 1) := by decide +kernel
theorem dX4_leastHeld_36 : decode cX4_leastHeld 36 = .ok (.istore_n 2, 1) := by decide +kernel
theorem dX4_leastHeld_37 : decode cX4_leastHeld 37 = .ok (.iinc 3 1, 3) := by decide +kernel
theorem dX4_leastHeld_40 : decode cX4_leastHeld 40 = .ok (.goto (-36), 3) := by decide +kernel
theorem dX4_leastHeld_43 : decode cX4_leastHeld 43 = .ok (.iload_n 2, 1) := by decide +kernel
theorem dX4_leastHeld_44 : decode cX4_leastHeld 44 = .ok (.ireturn, 1) := by decide +kernel
set_option maxRecDepth 20000 in
theorem ggX4_lowerValues_X3_countsIn : GoodIn wsX4_lowerValues wsX3_countsIn := goodIn_s [10, 11, 12, 38, 39, 40, 41, 42, 43, 44] (by rfl) (by decide +kernel)
set_option maxRecDepth 20000 in
theorem gX4_lowerValues_X3_countsIn : GoodIn wsX4_lowerValues (wsV RX4 81 RX3 yX3_countsIn wsX3_countsIn) := goodIn_app (goodIn_of _ (by decide +kernel)) ggX4_lowerValues_X3_countsIn
set_option maxRecDepth 20000 in
theorem ggX4_lowerValues_X3_firstOf : GoodIn wsX4_lowerValues wsX3_firstOf := goodIn_s [16, 17, 18, 38, 39, 40, 41, 42, 43, 44] (by rfl) (by decide +kernel)
set_option maxRecDepth 20000 in
theorem gX4_lowerValues_X3_firstOf : GoodIn wsX4_lowerValues (wsV RX4 84 RX3 yX3_firstOf wsX3_firstOf) := goodIn_app (goodIn_of _ (by decide +kernel)) ggX4_lowerValues_X3_firstOf
set_option maxRecDepth 20000 in
theorem ggX4_lowerValues_X4_loweredValue : GoodIn wsX4_lowerValues wsX4_loweredValue := goodIn_s [22, 23] (by rfl) (by decide +kernel)
set_option maxRecDepth 20000 in
theorem gX4_lowerValues_X4_loweredValue : GoodIn wsX4_lowerValues (va_wsS RX4 88 yX4_loweredValue wsX4_loweredValue) := goodIn_app (goodIn_of _ (by decide +kernel)) ggX4_lowerValues_X4_loweredValue
theorem dX4_lowerValues_0 : decode cX4_lowerValues 0 = .ok (.iconst 0, 1) := by decide +kernel
theorem dX4_lowerValues_1 : decode cX4_lowerValues 1 = .ok (.istore 5, 2) := by decide +kernel
theorem dX4_lowerValues_3 : decode cX4_lowerValues 3 = .ok (.iload 5, 2) := by decide +kernel
theorem dX4_lowerValues_5 : decode cX4_lowerValues 5 = .ok (.aload_n 1, 1) := by decide +kernel
theorem dX4_lowerValues_6 : decode cX4_lowerValues 6 = .ok (.getfield 58, 3) := by decide +kernel
theorem dX4_lowerValues_9 : decode cX4_lowerValues 9 = .ok (.if_icmp .ge 61, 3) := by decide +kernel
theorem dX4_lowerValues_12 : decode cX4_lowerValues 12 = .ok (.aload_n 1, 1) := by decide +kernel
theorem dX4_lowerValues_13 : decode cX4_lowerValues 13 = .ok (.getfield 61, 3) := by decide +kernel
theorem dX4_lowerValues_16 : decode cX4_lowerValues 16 = .ok (.iload 5, 2) := by decide +kernel
theorem dX4_lowerValues_18 : decode cX4_lowerValues 18 = .ok (.aaload, 1) := by decide +kernel
theorem dX4_lowerValues_19 : decode cX4_lowerValues 19 = .ok (.astore 6, 2) := by decide +kernel
theorem dX4_lowerValues_21 : decode cX4_lowerValues 21 = .ok (.aload 6, 2) := by decide +kernel
theorem dX4_lowerValues_23 : decode cX4_lowerValues 23 = .ok (.iload_n 2, 1) := by decide +kernel
theorem dX4_lowerValues_24 : decode cX4_lowerValues 24 = .ok (.invokevirtual 81, 3) := by decide +kernel
theorem dX4_lowerValues_27 : decode cX4_lowerValues 27 = .ok (.ifCond .eq 37, 3) := by decide +kernel
theorem dX4_lowerValues_30 : decode cX4_lowerValues 30 = .ok (.aload 6, 2) := by decide +kernel
theorem dX4_lowerValues_32 : decode cX4_lowerValues 32 = .ok (.aload_n 0, 1) := by decide +kernel
theorem dX4_lowerValues_33 : decode cX4_lowerValues 33 = .ok (.getfield 15, 3) := by decide +kernel
theorem dX4_lowerValues_36 : decode cX4_lowerValues 36 = .ok (.invokevirtual 84, 3) := by decide +kernel
theorem dX4_lowerValues_39 : decode cX4_lowerValues 39 = .ok (.iload_n 3, 1) := by decide +kernel
theorem dX4_lowerValues_40 : decode cX4_lowerValues 40 = .ok (.if_icmp .ne 24, 3) := by decide +kernel
theorem dX4_lowerValues_43 : decode cX4_lowerValues 43 = .ok (.aload 6, 2) := by decide +kernel
theorem dX4_lowerValues_45 : decode cX4_lowerValues 45 = .ok (.aload 6, 2) := by decide +kernel
theorem dX4_lowerValues_47 : decode cX4_lowerValues 47 = .ok (.getfield 77, 3) := by decide +kernel
theorem dX4_lowerValues_50 : decode cX4_lowerValues 50 = .ok (.aload_n 0, 1) := by decide +kernel
theorem dX4_lowerValues_51 : decode cX4_lowerValues 51 = .ok (.getfield 19, 3) := by decide +kernel
theorem dX4_lowerValues_54 : decode cX4_lowerValues 54 = .ok (.iload_n 3, 1) := by decide +kernel
theorem dX4_lowerValues_55 : decode cX4_lowerValues 55 = .ok (.daload, 1) := by decide +kernel
theorem dX4_lowerValues_56 : decode cX4_lowerValues 56 = .ok (.iload 4, 2) := by decide +kernel
theorem dX4_lowerValues_58 : decode cX4_lowerValues 58 = .ok (.invokestatic 88, 3) := by decide +kernel
theorem dX4_lowerValues_61 : decode cX4_lowerValues 61 = .ok (.putfield 77, 3) := by decide +kernel
theorem dX4_lowerValues_64 : decode cX4_lowerValues 64 = .ok (.iinc 5 1, 3) := by decide +kernel
theorem dX4_lowerValues_67 : decode cX4_lowerValues 67 = .ok (.goto (-64), 3) := by decide +kernel
theorem dX4_lowerValues_70 : decode cX4_lowerValues 70 = .ok (.return_, 1) := by decide +kernel
theorem dX4_loweredValue_0 : decode cX4_loweredValue 0 = .ok (.dload_n 2, 1) := by decide +kernel
theorem dX4_loweredValue_1 : decode cX4_loweredValue 1 = .ok (.iload 4, 2) := by decide +kernel
theorem dX4_loweredValue_3 : decode cX4_loweredValue 3 = .ok (.i2d, 1) := by decide +kernel
theorem dX4_loweredValue_4 : decode cX4_loweredValue 4 = .ok (.dcmp .g, 1) := by decide +kernel
theorem dX4_loweredValue_5 : decode cX4_loweredValue 5 = .ok (.ifCond .lt 9, 3) := by decide +kernel
theorem dX4_loweredValue_8 : decode cX4_loweredValue 8 = .ok (.dload_n 2, 1) := by decide +kernel
theorem dX4_loweredValue_9 : decode cX4_loweredValue 9 = .ok (.dconst 0, 1) := by decide +kernel
theorem dX4_loweredValue_10 : decode cX4_loweredValue 10 = .ok (.dcmp .g, 1) := by decide +kernel
theorem dX4_loweredValue_11 : decode cX4_loweredValue 11 = .ok (.ifCond .gt 5, 3) := by decide +kernel
theorem dX4_loweredValue_14 : decode cX4_loweredValue 14 = .ok (.dconst 0, 1) := by decide +kernel
theorem dX4_loweredValue_15 : decode cX4_loweredValue 15 = .ok (.dreturn, 1) := by decide +kernel
theorem dX4_loweredValue_16 : decode cX4_loweredValue 16 = .ok (.ldc2_w 92, 3) := by decide +kernel
theorem dX4_loweredValue_19 : decode cX4_loweredValue 19 = .ok (.dload_n 0, 1) := by decide +kernel
theorem dX4_loweredValue_20 : decode cX4_loweredValue 20 = .ok (.dmul, 1) := by decide +kernel
theorem dX4_loweredValue_21 : decode cX4_loweredValue 21 = .ok (.dload_n 2, 1) := by decide +kernel
theorem dX4_loweredValue_22 : decode cX4_loweredValue 22 = .ok (.iload 4, 2) := by decide +kernel
theorem dX4_loweredValue_24 : decode cX4_loweredValue 24 = .ok (.i2d, 1) := by decide +kernel
theorem dX4_loweredValue_25 : decode cX4_loweredValue 25 = .ok (.dsub, 1) := by decide +kernel
theorem dX4_loweredValue_26 : decode cX4_loweredValue 26 = .ok (.dmul, 1) := by decide +kernel
theorem dX4_loweredValue_27 : decode cX4_loweredValue 27 = .ok (.dload_n 2, 1) := by decide +kernel
theorem dX4_loweredValue_28 : decode cX4_loweredValue 28 = .ok (.ddiv, 1) := by decide +kernel
theorem dX4_loweredValue_29 : decode cX4_loweredValue 29 = .ok (.dstore 5, 2) := by decide +kernel
theorem dX4_loweredValue_31 : decode cX4_loweredValue 31 = .ok (.dload 5, 2) := by decide +kernel
theorem dX4_loweredValue_33 : decode cX4_loweredValue 33 = .ok (.d2l, 1) := by decide +kernel
theorem dX4_loweredValue_34 : decode cX4_loweredValue 34 = .ok (.l2d, 1) := by decide +kernel
theorem dX4_loweredValue_35 : decode cX4_loweredValue 35 = .ok (.ldc2_w 92, 3) := by decide +kernel
theorem dX4_loweredValue_38 : decode cX4_loweredValue 38 = .ok (.ddiv, 1) := by decide +kernel
theorem dX4_loweredValue_39 : decode cX4_loweredValue 39 = .ok (.dreturn, 1) := by decide +kernel
set_option maxRecDepth 20000 in
theorem ggX5_init_X0_init : GoodIn wsX5_init wsX0_init := goodIn_s [26, 27, 2, 3, 28, 29, 30, 31, 32, 33, 34, 21, 22, 35, 36, 37, 38, 68, 69, 70, 71, 72, 73, 74, 75, 76, 77, 78, 103, 104, 105, 106, 107, 108, 109] (by rfl) (by decide +kernel)
set_option maxRecDepth 20000 in
theorem gX5_init_X0_init : GoodIn wsX5_init (wsX0_init) := ggX5_init_X0_init
set_option maxRecDepth 20000 in
theorem ggX5_init_X2_init : GoodIn wsX5_init wsX2_init := goodIn_s [40, 41, 2, 3, 28, 42, 43, 44, 45, 46, 47, 48, 30, 49, 50, 84, 85, 86, 87, 88, 89, 90] (by rfl) (by decide +kernel)
set_option maxRecDepth 20000 in
theorem gX5_init_X2_init_n18 : GoodIn wsX5_init (wsX2_init) := ggX5_init_X2_init
set_option maxRecDepth 20000 in
theorem ggX5_init_X4_init : GoodIn wsX5_init wsX4_init := goodIn_s [52, 53, 2, 3, 28, 54, 30, 55, 43, 56, 91, 92, 93] (by rfl) (by decide +kernel)
set_option maxRecDepth 20000 in
theorem gX5_init_X4_init_n25 : GoodIn wsX5_init (wsX4_init) := ggX5_init_X4_init
set_option maxRecDepth 20000 in
theorem ggX5_init_X1_init : GoodIn wsX5_init wsX1_init := goodIn_s [58, 59, 2, 3, 28, 60, 61, 30, 62, 63, 64, 65, 66, 67, 94, 95, 96, 97, 98, 99, 100, 101, 102] (by rfl) (by decide +kernel)
set_option maxRecDepth 20000 in
theorem gX5_init_X1_init_n32 : GoodIn wsX5_init (wsX1_init) := ggX5_init_X1_init
set_option maxRecDepth 20000 in
theorem ggX5_init_X3_init : GoodIn wsX5_init wsX3_init := goodIn_s [36, 37, 2, 3, 28, 38, 103, 104, 105, 106, 107, 108, 109] (by rfl) (by decide +kernel)
set_option maxRecDepth 20000 in
theorem gX5_init_X3_init_n39 : GoodIn wsX5_init (wsX3_init) := ggX5_init_X3_init
theorem dX5_init_0 : decode cX5_init 0 = .ok (.aload_n 0, 1) := by decide +kernel
theorem dX5_init_1 : decode cX5_init 1 = .ok (.invokespecial 1, 3) := by decide +kernel
theorem dX5_init_4 : decode cX5_init 4 = .ok (.aload_n 0, 1) := by decide +kernel
theorem dX5_init_5 : decode cX5_init 5 = .ok (.new 7, 3) := by decide +kernel
theorem dX5_init_8 : decode cX5_init 8 = .ok (.dup, 1) := by decide +kernel
theorem dX5_init_9 : decode cX5_init 9 = .ok (.invokespecial 9, 3) := by decide +kernel
theorem dX5_init_12 : decode cX5_init 12 = .ok (.putfield 10, 3) := by decide +kernel
theorem dX5_init_15 : decode cX5_init 15 = .ok (.aload_n 0, 1) := by decide +kernel
theorem dX5_init_16 : decode cX5_init 16 = .ok (.new 16, 3) := by decide +kernel
theorem dX5_init_19 : decode cX5_init 19 = .ok (.dup, 1) := by decide +kernel
theorem dX5_init_20 : decode cX5_init 20 = .ok (.invokespecial 18, 3) := by decide +kernel
theorem dX5_init_23 : decode cX5_init 23 = .ok (.putfield 19, 3) := by decide +kernel
theorem dX5_init_26 : decode cX5_init 26 = .ok (.aload_n 0, 1) := by decide +kernel
theorem dX5_init_27 : decode cX5_init 27 = .ok (.new 23, 3) := by decide +kernel
theorem dX5_init_30 : decode cX5_init 30 = .ok (.dup, 1) := by decide +kernel
theorem dX5_init_31 : decode cX5_init 31 = .ok (.invokespecial 25, 3) := by decide +kernel
theorem dX5_init_34 : decode cX5_init 34 = .ok (.putfield 26, 3) := by decide +kernel
theorem dX5_init_37 : decode cX5_init 37 = .ok (.aload_n 0, 1) := by decide +kernel
theorem dX5_init_38 : decode cX5_init 38 = .ok (.new 30, 3) := by decide +kernel
theorem dX5_init_41 : decode cX5_init 41 = .ok (.dup, 1) := by decide +kernel
theorem dX5_init_42 : decode cX5_init 42 = .ok (.invokespecial 32, 3) := by decide +kernel
theorem dX5_init_45 : decode cX5_init 45 = .ok (.putfield 33, 3) := by decide +kernel
theorem dX5_init_48 : decode cX5_init 48 = .ok (.aload_n 0, 1) := by decide +kernel
theorem dX5_init_49 : decode cX5_init 49 = .ok (.new 37, 3) := by decide +kernel
theorem dX5_init_52 : decode cX5_init 52 = .ok (.dup, 1) := by decide +kernel
theorem dX5_init_53 : decode cX5_init 53 = .ok (.invokespecial 39, 3) := by decide +kernel
theorem dX5_init_56 : decode cX5_init 56 = .ok (.putfield 40, 3) := by decide +kernel
theorem dX5_init_59 : decode cX5_init 59 = .ok (.return_, 1) := by decide +kernel
set_option maxRecDepth 20000 in
theorem ggX5_candidate_X5_isParty : GoodIn wsX5_candidate wsX5_isParty := goodIn_s [10] (by rfl) (by decide +kernel)
set_option maxRecDepth 20000 in
theorem gX5_candidate_X5_isParty : GoodIn wsX5_candidate (va_wsS RX5 44 yX5_isParty wsX5_isParty) := goodIn_app (goodIn_of _ (by decide +kernel)) ggX5_candidate_X5_isParty
set_option maxRecDepth 20000 in
theorem ggX5_candidate_X0_addCandidate : GoodIn wsX5_candidate wsX0_addCandidate := goodIn_s [15, 16, 17, 18, 19, 25, 26, 27, 28, 29, 30, 31, 32, 33, 34, 35] (by rfl) (by decide +kernel)
set_option maxRecDepth 20000 in
theorem gX5_candidate_X0_addCandidate : GoodIn wsX5_candidate (wsV RX5 64 RX0 yX0_addCandidate wsX0_addCandidate) := goodIn_app (goodIn_of _ (by decide +kernel)) ggX5_candidate_X0_addCandidate
theorem dX5_candidate_0 : decode cX5_candidate 0 = .ok (.iload_n 1, 1) := by decide +kernel
theorem dX5_candidate_1 : decode cX5_candidate 1 = .ok (.invokestatic 44, 3) := by decide +kernel
theorem dX5_candidate_4 : decode cX5_candidate 4 = .ok (.ifCond .ne 13, 3) := by decide +kernel
theorem dX5_candidate_7 : decode cX5_candidate 7 = .ok (.new 48, 3) := by decide +kernel
theorem dX5_candidate_10 : decode cX5_candidate 10 = .ok (.dup, 1) := by decide +kernel
theorem dX5_candidate_11 : decode cX5_candidate 11 = .ok (.ldc 50, 2) := by decide +kernel
theorem dX5_candidate_13 : decode cX5_candidate 13 = .ok (.invokespecial 52, 3) := by decide +kernel
theorem dX5_candidate_16 : decode cX5_candidate 16 = .ok (.athrow, 1) := by decide +kernel
theorem dX5_candidate_17 : decode cX5_candidate 17 = .ok (.aload_n 0, 1) := by decide +kernel
theorem dX5_candidate_18 : decode cX5_candidate 18 = .ok (.getfield 10, 3) := by decide +kernel
theorem dX5_candidate_21 : decode cX5_candidate 21 = .ok (.getfield 55, 3) := by decide +kernel
theorem dX5_candidate_24 : decode cX5_candidate 24 = .ok (.bipush 6, 2) := by decide +kernel
theorem dX5_candidate_26 : decode cX5_candidate 26 = .ok (.if_icmp .lt 13, 3) := by decide +kernel
theorem dX5_candidate_29 : decode cX5_candidate 29 = .ok (.new 59, 3) := by decide +kernel
theorem dX5_candidate_32 : decode cX5_candidate 32 = .ok (.dup, 1) := by decide +kernel
theorem dX5_candidate_33 : decode cX5_candidate 33 = .ok (.ldc 61, 2) := by decide +kernel
theorem dX5_candidate_35 : decode cX5_candidate 35 = .ok (.invokespecial 63, 3) := by decide +kernel
theorem dX5_candidate_38 : decode cX5_candidate 38 = .ok (.athrow, 1) := by decide +kernel
theorem dX5_candidate_39 : decode cX5_candidate 39 = .ok (.aload_n 0, 1) := by decide +kernel
theorem dX5_candidate_40 : decode cX5_candidate 40 = .ok (.getfield 10, 3) := by decide +kernel
theorem dX5_candidate_43 : decode cX5_candidate 43 = .ok (.iload_n 1, 1) := by decide +kernel
theorem dX5_candidate_44 : decode cX5_candidate 44 = .ok (.invokevirtual 64, 3) := by decide +kernel
theorem dX5_candidate_47 : decode cX5_candidate 47 = .ok (.ireturn, 1) := by decide +kernel
set_option maxRecDepth 20000 in
theorem ggX5_withdraw_X5_checkCandidate : GoodIn wsX5_withdraw wsX5_checkCandidate := goodIn_ca (goodIn_s [10, 11, 12, 3, 13, 37, 38, 39, 40, 41, 42, 43, 44, 45, 46, 47, 48, 49, 50, 51, 52] (by rfl) (by decide +kernel)) (goodIn_f (fun _ h => List.mem_cons_of_mem _ (List.mem_append_right _ h)))
set_option maxRecDepth 20000 in
theorem gX5_withdraw_X5_checkCandidate : GoodIn wsX5_withdraw (wsV RX5 68 RX5 yX5_checkCandidate wsX5_checkCandidate) := goodIn_app (goodIn_of _ (by decide +kernel)) ggX5_withdraw_X5_checkCandidate
set_option maxRecDepth 20000 in
theorem ggX5_withdraw_X0_takeOff : GoodIn wsX5_withdraw wsX0_takeOff := goodIn_s [18, 19, 20, 21, 22, 23, 24, 25, 26, 27, 28, 29, 30, 31, 32, 33, 34, 17, 35, 36, 42, 43, 44, 45, 46, 47, 48, 49, 50, 51, 52, 53, 54, 55, 56, 57, 58, 59] (by rfl) (by decide +kernel)
set_option maxRecDepth 20000 in
theorem gX5_withdraw_X0_takeOff : GoodIn wsX5_withdraw (wsV RX5 78 RX0 yX0_takeOff wsX0_takeOff) := goodIn_app (goodIn_of _ (by decide +kernel)) ggX5_withdraw_X0_takeOff
theorem dX5_withdraw_0 : decode cX5_withdraw 0 = .ok (.aload_n 0, 1) := by decide +kernel
theorem dX5_withdraw_1 : decode cX5_withdraw 1 = .ok (.iload_n 1, 1) := by decide +kernel
theorem dX5_withdraw_2 : decode cX5_withdraw 2 = .ok (.invokevirtual 68, 3) := by decide +kernel
theorem dX5_withdraw_5 : decode cX5_withdraw 5 = .ok (.aload_n 0, 1) := by decide +kernel
theorem dX5_withdraw_6 : decode cX5_withdraw 6 = .ok (.getfield 10, 3) := by decide +kernel
theorem dX5_withdraw_9 : decode cX5_withdraw 9 = .ok (.getfield 72, 3) := by decide +kernel
theorem dX5_withdraw_12 : decode cX5_withdraw 12 = .ok (.iload_n 1, 1) := by decide +kernel
theorem dX5_withdraw_13 : decode cX5_withdraw 13 = .ok (.baload, 1) := by decide +kernel
theorem dX5_withdraw_14 : decode cX5_withdraw 14 = .ok (.ifCond .ne 13, 3) := by decide +kernel
theorem dX5_withdraw_17 : decode cX5_withdraw 17 = .ok (.new 59, 3) := by decide +kernel
theorem dX5_withdraw_20 : decode cX5_withdraw 20 = .ok (.dup, 1) := by decide +kernel
theorem dX5_withdraw_21 : decode cX5_withdraw 21 = .ok (.ldc 76, 2) := by decide +kernel
theorem dX5_withdraw_23 : decode cX5_withdraw 23 = .ok (.invokespecial 63, 3) := by decide +kernel
theorem dX5_withdraw_26 : decode cX5_withdraw 26 = .ok (.athrow, 1) := by decide +kernel
theorem dX5_withdraw_27 : decode cX5_withdraw 27 = .ok (.aload_n 0, 1) := by decide +kernel
theorem dX5_withdraw_28 : decode cX5_withdraw 28 = .ok (.getfield 10, 3) := by decide +kernel
theorem dX5_withdraw_31 : decode cX5_withdraw 31 = .ok (.iload_n 1, 1) := by decide +kernel
theorem dX5_withdraw_32 : decode cX5_withdraw 32 = .ok (.invokevirtual 78, 3) := by decide +kernel
theorem dX5_withdraw_35 : decode cX5_withdraw 35 = .ok (.aload_n 0, 1) := by decide +kernel
theorem dX5_withdraw_36 : decode cX5_withdraw 36 = .ok (.getfield 10, 3) := by decide +kernel
theorem dX5_withdraw_39 : decode cX5_withdraw 39 = .ok (.getfield 81, 3) := by decide +kernel
theorem dX5_withdraw_42 : decode cX5_withdraw 42 = .ok (.ireturn, 1) := by decide +kernel
set_option maxRecDepth 20000 in
theorem ggX5_district_X0_addDistrict : GoodIn wsX5_district wsX0_addDistrict := goodIn_s [11, 12, 13, 19, 20, 21, 22, 23, 24, 25, 26, 27, 28, 29] (by rfl) (by decide +kernel)
set_option maxRecDepth 20000 in
theorem gX5_district_X0_addDistrict : GoodIn wsX5_district (wsV RX5 91 RX0 yX0_addDistrict wsX0_addDistrict) := goodIn_app (goodIn_of _ (by decide +kernel)) ggX5_district_X0_addDistrict
theorem dX5_district_0 : decode cX5_district 0 = .ok (.iload_n 1, 1) := by decide +kernel
theorem dX5_district_1 : decode cX5_district 1 = .ok (.iconst 1, 1) := by decide +kernel
theorem dX5_district_2 : decode cX5_district 2 = .ok (.if_icmp .lt 8, 3) := by decide +kernel
theorem dX5_district_5 : decode cX5_district 5 = .ok (.iload_n 1, 1) := by decide +kernel
theorem dX5_district_6 : decode cX5_district 6 = .ok (.iconst 5, 1) := by decide +kernel
theorem dX5_district_7 : decode cX5_district 7 = .ok (.if_icmp .le 13, 3) := by decide +kernel
theorem dX5_district_10 : decode cX5_district 10 = .ok (.new 48, 3) := by decide +kernel
theorem dX5_district_13 : decode cX5_district 13 = .ok (.dup, 1) := by decide +kernel
theorem dX5_district_14 : decode cX5_district 14 = .ok (.ldc 84, 2) := by decide +kernel
theorem dX5_district_16 : decode cX5_district 16 = .ok (.invokespecial 52, 3) := by decide +kernel
theorem dX5_district_19 : decode cX5_district 19 = .ok (.athrow, 1) := by decide +kernel
theorem dX5_district_20 : decode cX5_district 20 = .ok (.aload_n 0, 1) := by decide +kernel
theorem dX5_district_21 : decode cX5_district 21 = .ok (.getfield 10, 3) := by decide +kernel
theorem dX5_district_24 : decode cX5_district 24 = .ok (.getfield 86, 3) := by decide +kernel
theorem dX5_district_27 : decode cX5_district 27 = .ok (.iconst 4, 1) := by decide +kernel
theorem dX5_district_28 : decode cX5_district 28 = .ok (.if_icmp .lt 13, 3) := by decide +kernel
theorem dX5_district_31 : decode cX5_district 31 = .ok (.new 59, 3) := by decide +kernel
theorem dX5_district_34 : decode cX5_district 34 = .ok (.dup, 1) := by decide +kernel
theorem dX5_district_35 : decode cX5_district 35 = .ok (.ldc 89, 2) := by decide +kernel
theorem dX5_district_37 : decode cX5_district 37 = .ok (.invokespecial 63, 3) := by decide +kernel
theorem dX5_district_40 : decode cX5_district 40 = .ok (.athrow, 1) := by decide +kernel
theorem dX5_district_41 : decode cX5_district 41 = .ok (.aload_n 0, 1) := by decide +kernel
theorem dX5_district_42 : decode cX5_district 42 = .ok (.getfield 10, 3) := by decide +kernel
theorem dX5_district_45 : decode cX5_district 45 = .ok (.iload_n 1, 1) := by decide +kernel
theorem dX5_district_46 : decode cX5_district 46 = .ok (.invokevirtual 91, 3) := by decide +kernel
theorem dX5_district_49 : decode cX5_district 49 = .ok (.ireturn, 1) := by decide +kernel
set_option maxRecDepth 20000 in
theorem ggX5_cast_X5_checkDistrict : GoodIn wsX5_cast wsX5_checkDistrict := goodIn_ca (goodIn_s [9, 10, 11, 3, 12, 59, 60, 61, 62, 63, 64, 65, 66, 67, 68, 69, 70, 71, 72, 73, 74] (by rfl) (by decide +kernel)) (goodIn_f (fun _ h => List.mem_cons_of_mem _ (List.mem_append_left _ (List.mem_append_right _ h))))
set_option maxRecDepth 20000 in
theorem gX5_cast_X5_checkDistrict : GoodIn wsX5_cast (wsV RX5 94 RX5 yX5_checkDistrict wsX5_checkDistrict) := goodIn_app (goodIn_of _ (by decide +kernel)) ggX5_cast_X5_checkDistrict
set_option maxRecDepth 20000 in
theorem ggX5_cast_X5_checkRanks : GoodIn wsX5_cast wsX5_checkRanks := goodIn_ca (goodIn_s [15, 16, 17, 18] (by rfl) (by decide +kernel)) (goodIn_f (fun _ h => List.mem_cons_of_mem _ (List.mem_append_right _ h)))
set_option maxRecDepth 20000 in
theorem gX5_cast_X5_checkRanks : GoodIn wsX5_cast (va_wsS RX5 97 yX5_checkRanks wsX5_checkRanks) := goodIn_app (goodIn_of _ (by decide +kernel)) ggX5_cast_X5_checkRanks
set_option maxRecDepth 20000 in
theorem ggX5_cast_X5_checkCount : GoodIn wsX5_cast wsX5_checkCount := goodIn_ca (goodIn_s [21, 16, 17] (by rfl) (by decide +kernel)) (goodIn_f (fun _ h => List.mem_cons_of_mem _ (List.mem_append_right _ h)))
set_option maxRecDepth 20000 in
theorem gX5_cast_X5_checkCount : GoodIn wsX5_cast (va_wsS RX5 100 yX5_checkCount wsX5_checkCount) := goodIn_app (goodIn_of _ (by decide +kernel)) ggX5_cast_X5_checkCount
set_option maxRecDepth 20000 in
theorem ggX5_cast_X5_checkOpen : GoodIn wsX5_cast wsX5_checkOpen := goodIn_ca (goodIn_s [25, 1, 2, 3, 26, 59, 60, 61, 62, 63, 64, 65, 66, 67, 68, 69, 70, 71, 72, 73, 74] (by rfl) (by decide +kernel)) (goodIn_f (fun _ h => List.mem_cons_of_mem _ (List.mem_append_left _ (List.mem_append_left _ (List.mem_append_right _ h)))))
set_option maxRecDepth 20000 in
theorem gX5_cast_X5_checkOpen : GoodIn wsX5_cast (wsV RX5 103 RX5 yX5_checkOpen wsX5_checkOpen) := goodIn_app (goodIn_of _ (by decide +kernel)) ggX5_cast_X5_checkOpen
set_option maxRecDepth 20000 in
theorem ggX5_cast_X0_addStack : GoodIn wsX5_cast wsX0_addStack := goodIn_s [31, 32, 33, 34, 35, 36, 37, 38, 39, 40, 41, 42, 43, 44, 45, 46, 47, 48, 49, 50, 51, 52, 53, 54, 55, 30, 56, 57, 58, 64, 65, 66, 67, 68, 69, 70, 71, 72, 73, 74, 75, 76, 77, 78, 79, 80, 81] (by rfl) (by decide +kernel)
set_option maxRecDepth 20000 in
theorem gX5_cast_X0_addStack : GoodIn wsX5_cast (wsV RX5 111 RX0 yX0_addStack wsX0_addStack) := goodIn_app (goodIn_of _ (by decide +kernel)) ggX5_cast_X0_addStack
theorem dX5_cast_0 : decode cX5_cast 0 = .ok (.aload_n 0, 1) := by decide +kernel
theorem dX5_cast_1 : decode cX5_cast 1 = .ok (.iload_n 1, 1) := by decide +kernel
theorem dX5_cast_2 : decode cX5_cast 2 = .ok (.invokevirtual 94, 3) := by decide +kernel
theorem dX5_cast_5 : decode cX5_cast 5 = .ok (.iload_n 2, 1) := by decide +kernel
theorem dX5_cast_6 : decode cX5_cast 6 = .ok (.invokestatic 97, 3) := by decide +kernel
theorem dX5_cast_9 : decode cX5_cast 9 = .ok (.iload_n 3, 1) := by decide +kernel
theorem dX5_cast_10 : decode cX5_cast 10 = .ok (.invokestatic 100, 3) := by decide +kernel
theorem dX5_cast_13 : decode cX5_cast 13 = .ok (.aload_n 0, 1) := by decide +kernel
theorem dX5_cast_14 : decode cX5_cast 14 = .ok (.invokevirtual 103, 3) := by decide +kernel
theorem dX5_cast_17 : decode cX5_cast 17 = .ok (.aload_n 0, 1) := by decide +kernel
theorem dX5_cast_18 : decode cX5_cast 18 = .ok (.getfield 10, 3) := by decide +kernel
theorem dX5_cast_21 : decode cX5_cast 21 = .ok (.getfield 106, 3) := by decide +kernel
theorem dX5_cast_24 : decode cX5_cast 24 = .ok (.bipush 24, 2) := by decide +kernel
theorem dX5_cast_26 : decode cX5_cast 26 = .ok (.if_icmp .lt 13, 3) := by decide +kernel
theorem dX5_cast_29 : decode cX5_cast 29 = .ok (.new 59, 3) := by decide +kernel
theorem dX5_cast_32 : decode cX5_cast 32 = .ok (.dup, 1) := by decide +kernel
theorem dX5_cast_33 : decode cX5_cast 33 = .ok (.ldc 109, 2) := by decide +kernel
theorem dX5_cast_35 : decode cX5_cast 35 = .ok (.invokespecial 63, 3) := by decide +kernel
theorem dX5_cast_38 : decode cX5_cast 38 = .ok (.athrow, 1) := by decide +kernel
theorem dX5_cast_39 : decode cX5_cast 39 = .ok (.aload_n 0, 1) := by decide +kernel
theorem dX5_cast_40 : decode cX5_cast 40 = .ok (.getfield 10, 3) := by decide +kernel
theorem dX5_cast_43 : decode cX5_cast 43 = .ok (.iload_n 1, 1) := by decide +kernel
theorem dX5_cast_44 : decode cX5_cast 44 = .ok (.iload_n 2, 1) := by decide +kernel
theorem dX5_cast_45 : decode cX5_cast 45 = .ok (.iload_n 3, 1) := by decide +kernel
theorem dX5_cast_46 : decode cX5_cast 46 = .ok (.invokevirtual 111, 3) := by decide +kernel
theorem dX5_cast_49 : decode cX5_cast 49 = .ok (.ireturn, 1) := by decide +kernel
set_option maxRecDepth 20000 in
theorem ggX5_recount_X5_checkStack : GoodIn wsX5_recount wsX5_checkStack := goodIn_ca (goodIn_s [8, 9, 10, 1, 11, 24, 25, 26, 27, 28, 29, 30, 31, 32, 33, 34, 35, 36, 37, 38, 39] (by rfl) (by decide +kernel)) (goodIn_f (fun _ h => List.mem_cons_of_mem _ (List.mem_append_left _ (List.mem_append_left _ (List.mem_append_right _ h)))))
set_option maxRecDepth 20000 in
theorem gX5_recount_X5_checkStack : GoodIn wsX5_recount (wsV RX5 115 RX5 yX5_checkStack wsX5_checkStack) := goodIn_app (goodIn_of _ (by decide +kernel)) ggX5_recount_X5_checkStack
set_option maxRecDepth 20000 in
theorem ggX5_recount_X5_checkCount : GoodIn wsX5_recount wsX5_checkCount := goodIn_ca (goodIn_s [14, 15, 16] (by rfl) (by decide +kernel)) (goodIn_f (fun _ h => List.mem_cons_of_mem _ (List.mem_append_left _ (List.mem_append_right _ h))))
set_option maxRecDepth 20000 in
theorem gX5_recount_X5_checkCount : GoodIn wsX5_recount (va_wsS RX5 100 yX5_checkCount wsX5_checkCount) := goodIn_app (goodIn_of _ (by decide +kernel)) ggX5_recount_X5_checkCount
set_option maxRecDepth 20000 in
theorem ggX5_recount_X5_checkOpen : GoodIn wsX5_recount wsX5_checkOpen := goodIn_ca (goodIn_s [20, 21, 22, 1, 23, 24, 25, 26, 27, 28, 29, 30, 31, 32, 33, 34, 35, 36, 37, 38, 39] (by rfl) (by decide +kernel)) (goodIn_f (fun _ h => List.mem_cons_of_mem _ (List.mem_append_right _ h)))
set_option maxRecDepth 20000 in
theorem gX5_recount_X5_checkOpen : GoodIn wsX5_recount (wsV RX5 103 RX5 yX5_checkOpen wsX5_checkOpen) := goodIn_app (goodIn_of _ (by decide +kernel)) ggX5_recount_X5_checkOpen
theorem dX5_recount_0 : decode cX5_recount 0 = .ok (.aload_n 0, 1) := by decide +kernel
theorem dX5_recount_1 : decode cX5_recount 1 = .ok (.iload_n 1, 1) := by decide +kernel
theorem dX5_recount_2 : decode cX5_recount 2 = .ok (.invokevirtual 115, 3) := by decide +kernel
theorem dX5_recount_5 : decode cX5_recount 5 = .ok (.iload_n 2, 1) := by decide +kernel
theorem dX5_recount_6 : decode cX5_recount 6 = .ok (.invokestatic 100, 3) := by decide +kernel
theorem dX5_recount_9 : decode cX5_recount 9 = .ok (.aload_n 0, 1) := by decide +kernel
theorem dX5_recount_10 : decode cX5_recount 10 = .ok (.invokevirtual 103, 3) := by decide +kernel
theorem dX5_recount_13 : decode cX5_recount 13 = .ok (.aload_n 0, 1) := by decide +kernel
theorem dX5_recount_14 : decode cX5_recount 14 = .ok (.getfield 10, 3) := by decide +kernel
theorem dX5_recount_17 : decode cX5_recount 17 = .ok (.getfield 118, 3) := by decide +kernel
theorem dX5_recount_20 : decode cX5_recount 20 = .ok (.iload_n 1, 1) := by decide +kernel
theorem dX5_recount_21 : decode cX5_recount 21 = .ok (.aaload, 1) := by decide +kernel
theorem dX5_recount_22 : decode cX5_recount 22 = .ok (.astore_n 3, 1) := by decide +kernel
theorem dX5_recount_23 : decode cX5_recount 23 = .ok (.aload_n 3, 1) := by decide +kernel
theorem dX5_recount_24 : decode cX5_recount 24 = .ok (.getfield 122, 3) := by decide +kernel
theorem dX5_recount_27 : decode cX5_recount 27 = .ok (.istore 4, 2) := by decide +kernel
theorem dX5_recount_29 : decode cX5_recount 29 = .ok (.aload_n 3, 1) := by decide +kernel
theorem dX5_recount_30 : decode cX5_recount 30 = .ok (.iload_n 2, 1) := by decide +kernel
theorem dX5_recount_31 : decode cX5_recount 31 = .ok (.putfield 122, 3) := by decide +kernel
theorem dX5_recount_34 : decode cX5_recount 34 = .ok (.iload 4, 2) := by decide +kernel
theorem dX5_recount_36 : decode cX5_recount 36 = .ok (.ireturn, 1) := by decide +kernel
set_option maxRecDepth 20000 in
theorem ggX5_move_X5_checkStack : GoodIn wsX5_move wsX5_checkStack := goodIn_ca (goodIn_s [8, 9, 10, 1, 11, 24, 25, 26, 27, 28, 29, 30, 31, 32, 33, 34, 35, 36, 37, 38, 39] (by rfl) (by decide +kernel)) (goodIn_f (fun _ h => List.mem_cons_of_mem _ (List.mem_append_left _ (List.mem_append_right _ h))))
set_option maxRecDepth 20000 in
theorem gX5_move_X5_checkStack : GoodIn wsX5_move (wsV RX5 115 RX5 yX5_checkStack wsX5_checkStack) := goodIn_app (goodIn_of _ (by decide +kernel)) ggX5_move_X5_checkStack
set_option maxRecDepth 20000 in
theorem ggX5_move_X5_checkDistrict : GoodIn wsX5_move wsX5_checkDistrict := goodIn_ca (goodIn_s [15, 9, 10, 1, 16, 24, 25, 26, 27, 28, 29, 30, 31, 32, 33, 34, 35, 36, 37, 38, 39] (by rfl) (by decide +kernel)) (goodIn_f (fun _ h => List.mem_cons_of_mem _ (List.mem_append_left _ (List.mem_append_right _ h))))
set_option maxRecDepth 20000 in
theorem gX5_move_X5_checkDistrict : GoodIn wsX5_move (wsV RX5 94 RX5 yX5_checkDistrict wsX5_checkDistrict) := goodIn_app (goodIn_of _ (by decide +kernel)) ggX5_move_X5_checkDistrict
set_option maxRecDepth 20000 in
theorem ggX5_move_X5_checkOpen : GoodIn wsX5_move wsX5_checkOpen := goodIn_ca (goodIn_s [20, 21, 22, 1, 23, 24, 25, 26, 27, 28, 29, 30, 31, 32, 33, 34, 35, 36, 37, 38, 39] (by rfl) (by decide +kernel)) (goodIn_f (fun _ h => List.mem_cons_of_mem _ (List.mem_append_right _ h)))
set_option maxRecDepth 20000 in
theorem gX5_move_X5_checkOpen : GoodIn wsX5_move (wsV RX5 103 RX5 yX5_checkOpen wsX5_checkOpen) := goodIn_app (goodIn_of _ (by decide +kernel)) ggX5_move_X5_checkOpen
theorem dX5_move_0 : decode cX5_move 0 = .ok (.aload_n 0, 1) := by decide +kernel
theorem dX5_move_1 : decode cX5_move 1 = .ok (.iload_n 1, 1) := by decide +kernel
theorem dX5_move_2 : decode cX5_move 2 = .ok (.invokevirtual 115, 3) := by decide +kernel
theorem dX5_move_5 : decode cX5_move 5 = .ok (.aload_n 0, 1) := by decide +kernel
theorem dX5_move_6 : decode cX5_move 6 = .ok (.iload_n 2, 1) := by decide +kernel
theorem dX5_move_7 : decode cX5_move 7 = .ok (.invokevirtual 94, 3) := by decide +kernel
theorem dX5_move_10 : decode cX5_move 10 = .ok (.aload_n 0, 1) := by decide +kernel
theorem dX5_move_11 : decode cX5_move 11 = .ok (.invokevirtual 103, 3) := by decide +kernel
theorem dX5_move_14 : decode cX5_move 14 = .ok (.aload_n 0, 1) := by decide +kernel
theorem dX5_move_15 : decode cX5_move 15 = .ok (.getfield 10, 3) := by decide +kernel
theorem dX5_move_18 : decode cX5_move 18 = .ok (.getfield 118, 3) := by decide +kernel
theorem dX5_move_21 : decode cX5_move 21 = .ok (.iload_n 1, 1) := by decide +kernel
theorem dX5_move_22 : decode cX5_move 22 = .ok (.aaload, 1) := by decide +kernel
theorem dX5_move_23 : decode cX5_move 23 = .ok (.astore_n 3, 1) := by decide +kernel
theorem dX5_move_24 : decode cX5_move 24 = .ok (.aload_n 3, 1) := by decide +kernel
theorem dX5_move_25 : decode cX5_move 25 = .ok (.getfield 125, 3) := by decide +kernel
theorem dX5_move_28 : decode cX5_move 28 = .ok (.istore 4, 2) := by decide +kernel
theorem dX5_move_30 : decode cX5_move 30 = .ok (.aload_n 3, 1) := by decide +kernel
theorem dX5_move_31 : decode cX5_move 31 = .ok (.iload_n 2, 1) := by decide +kernel
theorem dX5_move_32 : decode cX5_move 32 = .ok (.putfield 125, 3) := by decide +kernel
theorem dX5_move_35 : decode cX5_move 35 = .ok (.iload 4, 2) := by decide +kernel
theorem dX5_move_37 : decode cX5_move 37 = .ok (.ireturn, 1) := by decide +kernel
set_option maxRecDepth 20000 in
theorem ggX5_threshold_X1_countVotes : GoodIn wsX5_threshold wsX1_countVotes := goodIn_s [10, 11, 12, 13, 14, 15, 16, 17, 18, 19, 20, 21, 22, 23, 24, 25, 26, 27, 28, 29, 50, 51, 52, 53, 54, 55, 56, 57, 58, 39, 40, 41, 42, 43, 44, 45, 46, 47, 48, 49, 59, 60, 61, 62, 63, 64, 65] (by rfl) (by decide +kernel)
set_option maxRecDepth 20000 in
theorem gX5_threshold_X1_countVotes : GoodIn wsX5_threshold (wsV RX5 133 RX1 yX1_countVotes wsX1_countVotes) := goodIn_app (goodIn_of _ (by decide +kernel)) ggX5_threshold_X1_countVotes
set_option maxRecDepth 20000 in
theorem ggX5_threshold_X1_barredSet : GoodIn wsX5_threshold wsX1_barredSet := goodIn_s [33, 20, 50, 51, 52, 53, 54, 55, 56, 57, 58] (by rfl) (by decide +kernel)
set_option maxRecDepth 20000 in
theorem gX5_threshold_X1_barredSet : GoodIn wsX5_threshold (wsV RX5 137 RX1 yX1_barredSet wsX1_barredSet) := goodIn_app (goodIn_of _ (by decide +kernel)) ggX5_threshold_X1_barredSet
theorem dX5_threshold_0 : decode cX5_threshold 0 = .ok (.iload_n 1, 1) := by decide +kernel
theorem dX5_threshold_1 : decode cX5_threshold 1 = .ok (.ifCond .lt 9, 3) := by decide +kernel
theorem dX5_threshold_4 : decode cX5_threshold 4 = .ok (.iload_n 1, 1) := by decide +kernel
theorem dX5_threshold_5 : decode cX5_threshold 5 = .ok (.bipush 20, 2) := by decide +kernel
theorem dX5_threshold_7 : decode cX5_threshold 7 = .ok (.if_icmp .le 13, 3) := by decide +kernel
theorem dX5_threshold_10 : decode cX5_threshold 10 = .ok (.new 48, 3) := by decide +kernel
theorem dX5_threshold_13 : decode cX5_threshold 13 = .ok (.dup, 1) := by decide +kernel
theorem dX5_threshold_14 : decode cX5_threshold 14 = .ok (.ldc 128, 2) := by decide +kernel
theorem dX5_threshold_16 : decode cX5_threshold 16 = .ok (.invokespecial 52, 3) := by decide +kernel
theorem dX5_threshold_19 : decode cX5_threshold 19 = .ok (.athrow, 1) := by decide +kernel
theorem dX5_threshold_20 : decode cX5_threshold 20 = .ok (.aload_n 0, 1) := by decide +kernel
theorem dX5_threshold_21 : decode cX5_threshold 21 = .ok (.getfield 10, 3) := by decide +kernel
theorem dX5_threshold_24 : decode cX5_threshold 24 = .ok (.iload_n 1, 1) := by decide +kernel
theorem dX5_threshold_25 : decode cX5_threshold 25 = .ok (.putfield 130, 3) := by decide +kernel
theorem dX5_threshold_28 : decode cX5_threshold 28 = .ok (.aload_n 0, 1) := by decide +kernel
theorem dX5_threshold_29 : decode cX5_threshold 29 = .ok (.getfield 33, 3) := by decide +kernel
theorem dX5_threshold_32 : decode cX5_threshold 32 = .ok (.aload_n 0, 1) := by decide +kernel
theorem dX5_threshold_33 : decode cX5_threshold 33 = .ok (.getfield 10, 3) := by decide +kernel
theorem dX5_threshold_36 : decode cX5_threshold 36 = .ok (.invokevirtual 133, 3) := by decide +kernel
theorem dX5_threshold_39 : decode cX5_threshold 39 = .ok (.aload_n 0, 1) := by decide +kernel
theorem dX5_threshold_40 : decode cX5_threshold 40 = .ok (.getfield 33, 3) := by decide +kernel
theorem dX5_threshold_43 : decode cX5_threshold 43 = .ok (.invokevirtual 137, 3) := by decide +kernel
theorem dX5_threshold_46 : decode cX5_threshold 46 = .ok (.ireturn, 1) := by decide +kernel
theorem dX5_seal_0 : decode cX5_seal 0 = .ok (.aload_n 0, 1) := by decide +kernel
theorem dX5_seal_1 : decode cX5_seal 1 = .ok (.getfield 10, 3) := by decide +kernel
theorem dX5_seal_4 : decode cX5_seal 4 = .ok (.getfield 141, 3) := by decide +kernel
theorem dX5_seal_7 : decode cX5_seal 7 = .ok (.istore_n 2, 1) := by decide +kernel
theorem dX5_seal_8 : decode cX5_seal 8 = .ok (.aload_n 0, 1) := by decide +kernel
theorem dX5_seal_9 : decode cX5_seal 9 = .ok (.getfield 10, 3) := by decide +kernel
theorem dX5_seal_12 : decode cX5_seal 12 = .ok (.iload_n 1, 1) := by decide +kernel
theorem dX5_seal_13 : decode cX5_seal 13 = .ok (.putfield 141, 3) := by decide +kernel
theorem dX5_seal_16 : decode cX5_seal 16 = .ok (.iload_n 2, 1) := by decide +kernel
theorem dX5_seal_17 : decode cX5_seal 17 = .ok (.ireturn, 1) := by decide +kernel
set_option maxRecDepth 20000 in
theorem ggX5_ofStack_X5_checkStack : GoodIn wsX5_ofStack wsX5_checkStack := goodIn_ca (goodIn_s [7, 8, 9, 1, 10, 27, 28, 29, 30, 31, 32, 33, 34, 35, 36, 37, 38, 39, 40, 41, 42] (by rfl) (by decide +kernel)) (goodIn_f (fun _ h => List.mem_cons_of_mem _ (List.mem_append_left _ (List.mem_append_right _ h))))
set_option maxRecDepth 20000 in
theorem gX5_ofStack_X5_checkStack : GoodIn wsX5_ofStack (wsV RX5 115 RX5 yX5_checkStack wsX5_checkStack) := goodIn_app (goodIn_of _ (by decide +kernel)) ggX5_ofStack_X5_checkStack
set_option maxRecDepth 20000 in
theorem ggX5_ofStack_X5_checkWhat : GoodIn wsX5_ofStack wsX5_checkWhat := goodIn_ca (goodIn_s [13, 14, 15] (by rfl) (by decide +kernel)) (goodIn_f (fun _ h => List.mem_cons_of_mem _ (List.mem_append_right _ h)))
set_option maxRecDepth 20000 in
theorem gX5_ofStack_X5_checkWhat : GoodIn wsX5_ofStack (va_wsS RX5 148 yX5_checkWhat wsX5_checkWhat) := goodIn_app (goodIn_of _ (by decide +kernel)) ggX5_ofStack_X5_checkWhat
set_option maxRecDepth 20000 in
theorem ggX5_ofStack_X3_figure : GoodIn wsX5_ofStack wsX3_figure := goodIn_s [20, 21, 22, 23, 24, 25, 26, 43, 44, 45, 46, 47, 48, 49] (by rfl) (by decide +kernel)
set_option maxRecDepth 20000 in
theorem gX5_ofStack_X3_figure : GoodIn wsX5_ofStack (wsV RX5 152 RX3 yX3_figure wsX3_figure) := goodIn_app (goodIn_of _ (by decide +kernel)) ggX5_ofStack_X3_figure
theorem dX5_ofStack_0 : decode cX5_ofStack 0 = .ok (.aload_n 0, 1) := by decide +kernel
theorem dX5_ofStack_1 : decode cX5_ofStack 1 = .ok (.iload_n 1, 1) := by decide +kernel
theorem dX5_ofStack_2 : decode cX5_ofStack 2 = .ok (.invokevirtual 115, 3) := by decide +kernel
theorem dX5_ofStack_5 : decode cX5_ofStack 5 = .ok (.iload_n 2, 1) := by decide +kernel
theorem dX5_ofStack_6 : decode cX5_ofStack 6 = .ok (.iconst 5, 1) := by decide +kernel
theorem dX5_ofStack_7 : decode cX5_ofStack 7 = .ok (.invokestatic 148, 3) := by decide +kernel
theorem dX5_ofStack_10 : decode cX5_ofStack 10 = .ok (.aload_n 0, 1) := by decide +kernel
theorem dX5_ofStack_11 : decode cX5_ofStack 11 = .ok (.getfield 10, 3) := by decide +kernel
theorem dX5_ofStack_14 : decode cX5_ofStack 14 = .ok (.getfield 118, 3) := by decide +kernel
theorem dX5_ofStack_17 : decode cX5_ofStack 17 = .ok (.iload_n 1, 1) := by decide +kernel
theorem dX5_ofStack_18 : decode cX5_ofStack 18 = .ok (.aaload, 1) := by decide +kernel
theorem dX5_ofStack_19 : decode cX5_ofStack 19 = .ok (.iload_n 2, 1) := by decide +kernel
theorem dX5_ofStack_20 : decode cX5_ofStack 20 = .ok (.invokevirtual 152, 3) := by decide +kernel
theorem dX5_ofStack_23 : decode cX5_ofStack 23 = .ok (.ireturn, 1) := by decide +kernel
set_option maxRecDepth 20000 in
theorem ggX5_winner_X5_checkDistrict : GoodIn wsX5_winner wsX5_checkDistrict := goodIn_ca (goodIn_s [7, 8, 9, 2, 10, 129, 130, 131, 132, 133, 134, 135, 136, 137, 138, 139, 140, 141, 142, 143, 144] (by rfl) (by decide +kernel)) (goodIn_f (fun _ h => List.mem_cons_of_mem _ (List.mem_append_left _ (List.mem_append_right _ h))))
set_option maxRecDepth 20000 in
theorem gX5_winner_X5_checkDistrict : GoodIn wsX5_winner (wsV RX5 94 RX5 yX5_checkDistrict wsX5_checkDistrict) := goodIn_app (goodIn_of _ (by decide +kernel)) ggX5_winner_X5_checkDistrict
set_option maxRecDepth 20000 in
theorem ggX5_winner_X5_checkWay : GoodIn wsX5_winner wsX5_checkWay := goodIn_ca (goodIn_s [13, 14, 15] (by rfl) (by decide +kernel)) (goodIn_f (fun _ h => List.mem_cons_of_mem _ (List.mem_append_right _ h)))
set_option maxRecDepth 20000 in
theorem gX5_winner_X5_checkWay : GoodIn wsX5_winner (va_wsS RX5 182 yX5_checkWay wsX5_checkWay) := goodIn_app (goodIn_of _ (by decide +kernel)) ggX5_winner_X5_checkWay
set_option maxRecDepth 20000 in
theorem ggX5_winner_X2_winnerBy : GoodIn wsX5_winner wsX2_winnerBy := goodIn_s [20, 21, 22, 23, 19, 24, 25, 26, 27, 28, 29, 30, 31, 32, 33, 34, 35, 36, 37, 38, 39, 40, 41, 42, 43, 44, 45, 46, 47, 48, 49, 50, 51, 52, 53, 54, 55, 56, 57, 58, 59, 60, 61, 62, 63, 64, 65, 66, 67, 68, 69, 70, 71, 72, 73, 74, 75, 76, 77, 78, 79, 80, 81, 82, 83, 84, 85, 86, 87, 88, 89, 90, 91, 92, 93, 94, 95, 96, 97, 98, 99, 100, 101, 102, 103, 104, 105, 106, 107, 108, 109, 110, 111, 112, 113, 114, 115, 116, 117, 118, 119, 120, 121, 122, 123, 124, 125, 126, 127, 128, 145, 146, 147, 148, 149, 150, 151, 134, 135, 136, 137, 138, 139, 140, 141, 142, 143, 144, 152, 153, 154, 155, 156, 157, 158] (by rfl) (by decide +kernel)
set_option maxRecDepth 20000 in
theorem gX5_winner_X2_winnerBy : GoodIn wsX5_winner (wsV RX5 185 RX2 yX2_winnerBy wsX2_winnerBy) := goodIn_app (goodIn_of _ (by decide +kernel)) ggX5_winner_X2_winnerBy
theorem dX5_winner_0 : decode cX5_winner 0 = .ok (.aload_n 0, 1) := by decide +kernel
theorem dX5_winner_1 : decode cX5_winner 1 = .ok (.iload_n 1, 1) := by decide +kernel
theorem dX5_winner_2 : decode cX5_winner 2 = .ok (.invokevirtual 94, 3) := by decide +kernel
theorem dX5_winner_5 : decode cX5_winner 5 = .ok (.iload_n 2, 1) := by decide +kernel
theorem dX5_winner_6 : decode cX5_winner 6 = .ok (.invokestatic 182, 3) := by decide +kernel
theorem dX5_winner_9 : decode cX5_winner 9 = .ok (.aload_n 0, 1) := by decide +kernel
theorem dX5_winner_10 : decode cX5_winner 10 = .ok (.getfield 19, 3) := by decide +kernel
theorem dX5_winner_13 : decode cX5_winner 13 = .ok (.aload_n 0, 1) := by decide +kernel
theorem dX5_winner_14 : decode cX5_winner 14 = .ok (.getfield 10, 3) := by decide +kernel
theorem dX5_winner_17 : decode cX5_winner 17 = .ok (.iload_n 1, 1) := by decide +kernel
theorem dX5_winner_18 : decode cX5_winner 18 = .ok (.iload_n 2, 1) := by decide +kernel
theorem dX5_winner_19 : decode cX5_winner 19 = .ok (.invokevirtual 185, 3) := by decide +kernel
theorem dX5_winner_22 : decode cX5_winner 22 = .ok (.ireturn, 1) := by decide +kernel
set_option maxRecDepth 20000 in
theorem ggX5_ofParty_X5_checkParty : GoodIn wsX5_ofParty wsX5_checkParty := goodIn_ca (goodIn_s [7, 8, 9, 10, 11, 6, 12] (by rfl) (by decide +kernel)) (goodIn_f (fun _ h => List.mem_cons_of_mem _ (List.mem_append_left _ (List.mem_append_right _ h))))
set_option maxRecDepth 20000 in
theorem gX5_ofParty_X5_checkParty : GoodIn wsX5_ofParty (va_wsS RX5 210 yX5_checkParty wsX5_checkParty) := goodIn_app (goodIn_of _ (by decide +kernel)) ggX5_ofParty_X5_checkParty
set_option maxRecDepth 20000 in
theorem ggX5_ofParty_X5_checkWhat : GoodIn wsX5_ofParty wsX5_checkWhat := goodIn_ca (goodIn_s [15, 16, 17] (by rfl) (by decide +kernel)) (goodIn_f (fun _ h => List.mem_cons_of_mem _ (List.mem_append_right _ h)))
set_option maxRecDepth 20000 in
theorem gX5_ofParty_X5_checkWhat : GoodIn wsX5_ofParty (va_wsS RX5 148 yX5_checkWhat wsX5_checkWhat) := goodIn_app (goodIn_of _ (by decide +kernel)) ggX5_ofParty_X5_checkWhat
set_option maxRecDepth 20000 in
theorem ggX5_ofParty_X1_countVotes : GoodIn wsX5_ofParty wsX1_countVotes := goodIn_s [22, 23, 24, 25, 26, 27, 28, 29, 30, 31, 32, 33, 34, 35, 36, 37, 38, 39, 40, 41, 97, 98, 99, 100, 101, 102, 103, 104, 105, 106, 107, 108, 109, 110, 111, 112, 113, 114, 115, 116, 117, 118, 119, 120, 121, 122, 123] (by rfl) (by decide +kernel)
set_option maxRecDepth 20000 in
theorem gX5_ofParty_X1_countVotes : GoodIn wsX5_ofParty (wsV RX5 133 RX1 yX1_countVotes wsX1_countVotes) := goodIn_app (goodIn_of _ (by decide +kernel)) ggX5_ofParty_X1_countVotes
set_option maxRecDepth 20000 in
theorem ggX5_ofParty_X1_countDistricts : GoodIn wsX5_ofParty wsX1_countDistricts := goodIn_s [45, 46, 47, 48, 49, 29, 50, 51, 52, 53, 54, 55, 56, 57, 58, 59, 60, 61, 62, 63, 64, 65, 66, 67, 68, 69, 70, 71, 72, 73, 74, 75, 76, 21, 77, 78, 79, 80, 81, 82, 83, 84, 85, 86, 87, 97, 98, 99, 100, 101, 102, 103, 104, 105, 106, 107, 108, 109, 110, 111, 112, 113, 114, 115, 116, 124, 125, 126, 127, 128, 129, 130, 117, 118, 119, 120, 121, 122, 123] (by rfl) (by decide +kernel)
set_option maxRecDepth 20000 in
theorem gX5_ofParty_X1_countDistricts : GoodIn wsX5_ofParty (wsV RX5 213 RX1 yX1_countDistricts wsX1_countDistricts) := goodIn_app (goodIn_of _ (by decide +kernel)) ggX5_ofParty_X1_countDistricts
set_option maxRecDepth 20000 in
theorem ggX5_ofParty_X1_figure : GoodIn wsX5_ofParty wsX1_figure := goodIn_s [91, 24, 25, 46, 47, 32, 97, 98, 99, 100, 101, 102, 103, 104, 105] (by rfl) (by decide +kernel)
set_option maxRecDepth 20000 in
theorem gX5_ofParty_X1_figure : GoodIn wsX5_ofParty (wsV RX5 217 RX1 yX1_figure wsX1_figure) := goodIn_app (goodIn_of _ (by decide +kernel)) ggX5_ofParty_X1_figure
theorem dX5_ofParty_0 : decode cX5_ofParty 0 = .ok (.iload_n 1, 1) := by decide +kernel
theorem dX5_ofParty_1 : decode cX5_ofParty 1 = .ok (.invokestatic 210, 3) := by decide +kernel
theorem dX5_ofParty_4 : decode cX5_ofParty 4 = .ok (.iload_n 2, 1) := by decide +kernel
theorem dX5_ofParty_5 : decode cX5_ofParty 5 = .ok (.iconst 4, 1) := by decide +kernel
theorem dX5_ofParty_6 : decode cX5_ofParty 6 = .ok (.invokestatic 148, 3) := by decide +kernel
theorem dX5_ofParty_9 : decode cX5_ofParty 9 = .ok (.aload_n 0, 1) := by decide +kernel
theorem dX5_ofParty_10 : decode cX5_ofParty 10 = .ok (.getfield 33, 3) := by decide +kernel
theorem dX5_ofParty_13 : decode cX5_ofParty 13 = .ok (.aload_n 0, 1) := by decide +kernel
theorem dX5_ofParty_14 : decode cX5_ofParty 14 = .ok (.getfield 10, 3) := by decide +kernel
theorem dX5_ofParty_17 : decode cX5_ofParty 17 = .ok (.invokevirtual 133, 3) := by decide +kernel
theorem dX5_ofParty_20 : decode cX5_ofParty 20 = .ok (.aload_n 0, 1) := by decide +kernel
theorem dX5_ofParty_21 : decode cX5_ofParty 21 = .ok (.getfield 33, 3) := by decide +kernel
theorem dX5_ofParty_24 : decode cX5_ofParty 24 = .ok (.aload_n 0, 1) := by decide +kernel
theorem dX5_ofParty_25 : decode cX5_ofParty 25 = .ok (.getfield 10, 3) := by decide +kernel
theorem dX5_ofParty_28 : decode cX5_ofParty 28 = .ok (.aload_n 0, 1) := by decide +kernel
theorem dX5_ofParty_29 : decode cX5_ofParty 29 = .ok (.getfield 19, 3) := by decide +kernel
theorem dX5_ofParty_32 : decode cX5_ofParty 32 = .ok (.invokevirtual 213, 3) := by decide +kernel
theorem dX5_ofParty_35 : decode cX5_ofParty 35 = .ok (.aload_n 0, 1) := by decide +kernel
theorem dX5_ofParty_36 : decode cX5_ofParty 36 = .ok (.getfield 33, 3) := by decide +kernel
theorem dX5_ofParty_39 : decode cX5_ofParty 39 = .ok (.iload_n 1, 1) := by decide +kernel
theorem dX5_ofParty_40 : decode cX5_ofParty 40 = .ok (.iload_n 2, 1) := by decide +kernel
theorem dX5_ofParty_41 : decode cX5_ofParty 41 = .ok (.invokevirtual 217, 3) := by decide +kernel
theorem dX5_ofParty_44 : decode cX5_ofParty 44 = .ok (.ireturn, 1) := by decide +kernel
set_option maxRecDepth 20000 in
theorem ggX5_share_X5_checkParty : GoodIn wsX5_share wsX5_checkParty := goodIn_ca (goodIn_s [6, 7, 8, 9, 10, 5, 11] (by rfl) (by decide +kernel)) (goodIn_f (fun _ h => List.mem_cons_of_mem _ (List.mem_append_left _ (List.mem_append_right _ h))))
set_option maxRecDepth 20000 in
theorem gX5_share_X5_checkParty : GoodIn wsX5_share (va_wsS RX5 210 yX5_checkParty wsX5_checkParty) := goodIn_app (goodIn_of _ (by decide +kernel)) ggX5_share_X5_checkParty
set_option maxRecDepth 20000 in
theorem ggX5_share_X5_checkHouse : GoodIn wsX5_share wsX5_checkHouse := goodIn_ca (goodIn_s [14, 15, 16] (by rfl) (by decide +kernel)) (goodIn_f (fun _ h => List.mem_cons_of_mem _ (List.mem_append_right _ h)))
set_option maxRecDepth 20000 in
theorem gX5_share_X5_checkHouse : GoodIn wsX5_share (va_wsS RX5 220 yX5_checkHouse wsX5_checkHouse) := goodIn_app (goodIn_of _ (by decide +kernel)) ggX5_share_X5_checkHouse
set_option maxRecDepth 20000 in
theorem ggX5_share_X5_checkRule : GoodIn wsX5_share wsX5_checkRule := goodIn_ca (goodIn_s [19, 15, 16] (by rfl) (by decide +kernel)) (goodIn_f (fun _ h => List.mem_cons_of_mem _ (List.mem_append_right _ h)))
set_option maxRecDepth 20000 in
theorem gX5_share_X5_checkRule : GoodIn wsX5_share (va_wsS RX5 223 yX5_checkRule wsX5_checkRule) := goodIn_app (goodIn_of _ (by decide +kernel)) ggX5_share_X5_checkRule
set_option maxRecDepth 20000 in
theorem ggX5_share_X5_shareHouse : GoodIn wsX5_share wsX5_shareHouse := goodIn_s [23, 1, 24, 25, 26, 27, 28, 29, 30, 31, 32, 33, 34, 35, 36, 37, 38, 39, 40, 41, 42, 43, 44, 45, 46, 47, 48, 49, 50, 51, 52, 53, 54, 55, 56, 57, 58, 59, 60, 61, 62, 63, 64, 65, 66, 67, 68, 69, 70, 71, 72, 73, 74, 75, 76, 77, 78, 79, 80, 81, 82, 83, 84, 85, 86, 87, 88, 89, 90, 91, 92, 93, 94, 95, 96, 97, 98, 99, 100, 101, 102] (by rfl) (by decide +kernel)
set_option maxRecDepth 20000 in
theorem gX5_share_X5_shareHouse : GoodIn wsX5_share (wsV RX5 226 RX5 yX5_shareHouse wsX5_shareHouse) := goodIn_app (goodIn_of _ (by decide +kernel)) ggX5_share_X5_shareHouse
theorem dX5_share_0 : decode cX5_share 0 = .ok (.iload_n 1, 1) := by decide +kernel
theorem dX5_share_1 : decode cX5_share 1 = .ok (.invokestatic 210, 3) := by decide +kernel
theorem dX5_share_4 : decode cX5_share 4 = .ok (.iload_n 2, 1) := by decide +kernel
theorem dX5_share_5 : decode cX5_share 5 = .ok (.invokestatic 220, 3) := by decide +kernel
theorem dX5_share_8 : decode cX5_share 8 = .ok (.iload_n 3, 1) := by decide +kernel
theorem dX5_share_9 : decode cX5_share 9 = .ok (.invokestatic 223, 3) := by decide +kernel
theorem dX5_share_12 : decode cX5_share 12 = .ok (.aload_n 0, 1) := by decide +kernel
theorem dX5_share_13 : decode cX5_share 13 = .ok (.iload_n 2, 1) := by decide +kernel
theorem dX5_share_14 : decode cX5_share 14 = .ok (.iload_n 3, 1) := by decide +kernel
theorem dX5_share_15 : decode cX5_share 15 = .ok (.invokevirtual 226, 3) := by decide +kernel
theorem dX5_share_18 : decode cX5_share 18 = .ok (.aload_n 0, 1) := by decide +kernel
theorem dX5_share_19 : decode cX5_share 19 = .ok (.getfield 33, 3) := by decide +kernel
theorem dX5_share_22 : decode cX5_share 22 = .ok (.getfield 229, 3) := by decide +kernel
theorem dX5_share_25 : decode cX5_share 25 = .ok (.iload_n 1, 1) := by decide +kernel
theorem dX5_share_26 : decode cX5_share 26 = .ok (.iaload, 1) := by decide +kernel
theorem dX5_share_27 : decode cX5_share 27 = .ok (.ireturn, 1) := by decide +kernel
set_option maxRecDepth 20000 in
theorem ggX5_wouldWin_X5_checkStack : GoodIn wsX5_wouldWin wsX5_checkStack := goodIn_ca (goodIn_s [11, 12, 13, 1, 14, 151, 152, 153, 154, 155, 156, 157, 158, 159, 160, 161, 162, 163, 164, 165, 166] (by rfl) (by decide +kernel)) (goodIn_f (fun _ h => List.mem_cons_of_mem _ (List.mem_append_left _ (List.mem_append_right _ h))))
set_option maxRecDepth 20000 in
theorem gX5_wouldWin_X5_checkStack : GoodIn wsX5_wouldWin (wsV RX5 115 RX5 yX5_checkStack wsX5_checkStack) := goodIn_app (goodIn_of _ (by decide +kernel)) ggX5_wouldWin_X5_checkStack
set_option maxRecDepth 20000 in
theorem ggX5_wouldWin_X5_checkRanks : GoodIn wsX5_wouldWin wsX5_checkRanks := goodIn_ca (goodIn_s [17, 18, 19, 20] (by rfl) (by decide +kernel)) (goodIn_f (fun _ h => List.mem_cons_of_mem _ (List.mem_append_right _ h)))
set_option maxRecDepth 20000 in
theorem gX5_wouldWin_X5_checkRanks : GoodIn wsX5_wouldWin (va_wsS RX5 97 yX5_checkRanks wsX5_checkRanks) := goodIn_app (goodIn_of _ (by decide +kernel)) ggX5_wouldWin_X5_checkRanks
set_option maxRecDepth 20000 in
theorem ggX5_wouldWin_X5_checkWay : GoodIn wsX5_wouldWin wsX5_checkWay := goodIn_ca (goodIn_s [23, 18, 19] (by rfl) (by decide +kernel)) (goodIn_f (fun _ h => List.mem_cons_of_mem _ (List.mem_append_right _ h)))
set_option maxRecDepth 20000 in
theorem gX5_wouldWin_X5_checkWay : GoodIn wsX5_wouldWin (va_wsS RX5 182 yX5_checkWay wsX5_checkWay) := goodIn_app (goodIn_of _ (by decide +kernel)) ggX5_wouldWin_X5_checkWay
set_option maxRecDepth 20000 in
theorem ggX5_wouldWin_X3_setRanks : GoodIn wsX5_wouldWin wsX3_setRanks := goodIn_s [28, 29, 30, 31, 32, 33, 27, 34, 35, 36, 37, 38, 39, 40, 41, 42, 43, 44, 45, 46, 47, 167, 168, 169, 170, 171, 172, 173, 156, 157, 158, 159, 160, 161, 162, 163, 164, 165, 166] (by rfl) (by decide +kernel)
set_option maxRecDepth 20000 in
theorem gX5_wouldWin_X3_setRanks : GoodIn wsX5_wouldWin (wsV RX5 251 RX3 yX3_setRanks wsX3_setRanks) := goodIn_app (goodIn_of _ (by decide +kernel)) ggX5_wouldWin_X3_setRanks
set_option maxRecDepth 20000 in
theorem ggX5_wouldWin_X2_winnerBy : GoodIn wsX5_wouldWin wsX2_winnerBy := goodIn_s [52, 53, 54, 55, 51, 56, 57, 58, 59, 60, 61, 62, 63, 64, 65, 27, 66, 67, 31, 68, 69, 70, 71, 72, 73, 74, 75, 76, 77, 78, 79, 80, 42, 43, 44, 45, 46, 47, 81, 82, 83, 84, 85, 86, 87, 88, 89, 90, 39, 40, 91, 92, 93, 94, 95, 96, 97, 98, 99, 100, 101, 102, 103, 104, 105, 106, 107, 108, 109, 110, 111, 112, 113, 114, 115, 116, 117, 118, 119, 120, 121, 122, 123, 124, 125, 126, 127, 128, 129, 130, 131, 132, 133, 134, 135, 136, 137, 138, 139, 140, 141, 142, 143, 144, 145, 146, 147, 148, 149, 150, 174, 175, 176, 177, 178, 179, 180, 156, 157, 158, 159, 160, 161, 162, 163, 164, 165, 166, 167, 168, 169, 170, 171, 172, 173] (by rfl) (by decide +kernel)
set_option maxRecDepth 20000 in
theorem gX5_wouldWin_X2_winnerBy : GoodIn wsX5_wouldWin (wsV RX5 185 RX2 yX2_winnerBy wsX2_winnerBy) := goodIn_app (goodIn_of _ (by decide +kernel)) ggX5_wouldWin_X2_winnerBy
theorem dX5_wouldWin_0 : decode cX5_wouldWin 0 = .ok (.aload_n 0, 1) := by decide +kernel
theorem dX5_wouldWin_1 : decode cX5_wouldWin 1 = .ok (.iload_n 1, 1) := by decide +kernel
theorem dX5_wouldWin_2 : decode cX5_wouldWin 2 = .ok (.invokevirtual 115, 3) := by decide +kernel
theorem dX5_wouldWin_5 : decode cX5_wouldWin 5 = .ok (.iload_n 2, 1) := by decide +kernel
theorem dX5_wouldWin_6 : decode cX5_wouldWin 6 = .ok (.invokestatic 97, 3) := by decide +kernel
theorem dX5_wouldWin_9 : decode cX5_wouldWin 9 = .ok (.iload_n 3, 1) := by decide +kernel
theorem dX5_wouldWin_10 : decode cX5_wouldWin 10 = .ok (.invokestatic 182, 3) := by decide +kernel
theorem dX5_wouldWin_13 : decode cX5_wouldWin 13 = .ok (.aload_n 0, 1) := by decide +kernel
theorem dX5_wouldWin_14 : decode cX5_wouldWin 14 = .ok (.getfield 10, 3) := by decide +kernel
theorem dX5_wouldWin_17 : decode cX5_wouldWin 17 = .ok (.getfield 118, 3) := by decide +kernel
theorem dX5_wouldWin_20 : decode cX5_wouldWin 20 = .ok (.iload_n 1, 1) := by decide +kernel
theorem dX5_wouldWin_21 : decode cX5_wouldWin 21 = .ok (.aaload, 1) := by decide +kernel
theorem dX5_wouldWin_22 : decode cX5_wouldWin 22 = .ok (.astore 4, 2) := by decide +kernel
theorem dX5_wouldWin_24 : decode cX5_wouldWin 24 = .ok (.aload_n 0, 1) := by decide +kernel
theorem dX5_wouldWin_25 : decode cX5_wouldWin 25 = .ok (.getfield 40, 3) := by decide +kernel
theorem dX5_wouldWin_28 : decode cX5_wouldWin 28 = .ok (.aload 4, 2) := by decide +kernel
theorem dX5_wouldWin_30 : decode cX5_wouldWin 30 = .ok (.getfield 125, 3) := by decide +kernel
theorem dX5_wouldWin_33 : decode cX5_wouldWin 33 = .ok (.putfield 125, 3) := by decide +kernel
theorem dX5_wouldWin_36 : decode cX5_wouldWin 36 = .ok (.aload_n 0, 1) := by decide +kernel
theorem dX5_wouldWin_37 : decode cX5_wouldWin 37 = .ok (.getfield 40, 3) := by decide +kernel
theorem dX5_wouldWin_40 : decode cX5_wouldWin 40 = .ok (.aload 4, 2) := by decide +kernel
theorem dX5_wouldWin_42 : decode cX5_wouldWin 42 = .ok (.getfield 122, 3) := by decide +kernel
theorem dX5_wouldWin_45 : decode cX5_wouldWin 45 = .ok (.putfield 122, 3) := by decide +kernel
theorem dX5_wouldWin_48 : decode cX5_wouldWin 48 = .ok (.aload_n 0, 1) := by decide +kernel
theorem dX5_wouldWin_49 : decode cX5_wouldWin 49 = .ok (.getfield 40, 3) := by decide +kernel
theorem dX5_wouldWin_52 : decode cX5_wouldWin 52 = .ok (.iload_n 2, 1) := by decide +kernel
theorem dX5_wouldWin_53 : decode cX5_wouldWin 53 = .ok (.aload_n 0, 1) := by decide +kernel
theorem dX5_wouldWin_54 : decode cX5_wouldWin 54 = .ok (.getfield 10, 3) := by decide +kernel
theorem dX5_wouldWin_57 : decode cX5_wouldWin 57 = .ok (.invokevirtual 251, 3) := by decide +kernel
theorem dX5_wouldWin_60 : decode cX5_wouldWin 60 = .ok (.aload_n 0, 1) := by decide +kernel
theorem dX5_wouldWin_61 : decode cX5_wouldWin 61 = .ok (.getfield 10, 3) := by decide +kernel
theorem dX5_wouldWin_64 : decode cX5_wouldWin 64 = .ok (.getfield 118, 3) := by decide +kernel
theorem dX5_wouldWin_67 : decode cX5_wouldWin 67 = .ok (.iload_n 1, 1) := by decide +kernel
theorem dX5_wouldWin_68 : decode cX5_wouldWin 68 = .ok (.aload_n 0, 1) := by decide +kernel
theorem dX5_wouldWin_69 : decode cX5_wouldWin 69 = .ok (.getfield 40, 3) := by decide +kernel
theorem dX5_wouldWin_72 : decode cX5_wouldWin 72 = .ok (.aastore, 1) := by decide +kernel
theorem dX5_wouldWin_73 : decode cX5_wouldWin 73 = .ok (.aload_n 0, 1) := by decide +kernel
theorem dX5_wouldWin_74 : decode cX5_wouldWin 74 = .ok (.getfield 19, 3) := by decide +kernel
theorem dX5_wouldWin_77 : decode cX5_wouldWin 77 = .ok (.aload_n 0, 1) := by decide +kernel
theorem dX5_wouldWin_78 : decode cX5_wouldWin 78 = .ok (.getfield 10, 3) := by decide +kernel
theorem dX5_wouldWin_81 : decode cX5_wouldWin 81 = .ok (.aload 4, 2) := by decide +kernel
theorem dX5_wouldWin_83 : decode cX5_wouldWin 83 = .ok (.getfield 125, 3) := by decide +kernel
theorem dX5_wouldWin_86 : decode cX5_wouldWin 86 = .ok (.iload_n 3, 1) := by decide +kernel
theorem dX5_wouldWin_87 : decode cX5_wouldWin 87 = .ok (.invokevirtual 185, 3) := by decide +kernel
theorem dX5_wouldWin_90 : decode cX5_wouldWin 90 = .ok (.istore 5, 2) := by decide +kernel
theorem dX5_wouldWin_92 : decode cX5_wouldWin 92 = .ok (.aload_n 0, 1) := by decide +kernel
theorem dX5_wouldWin_93 : decode cX5_wouldWin 93 = .ok (.getfield 10, 3) := by decide +kernel
theorem dX5_wouldWin_96 : decode cX5_wouldWin 96 = .ok (.getfield 118, 3) := by decide +kernel
theorem dX5_wouldWin_99 : decode cX5_wouldWin 99 = .ok (.iload_n 1, 1) := by decide +kernel
theorem dX5_wouldWin_100 : decode cX5_wouldWin 100 = .ok (.aload 4, 2) := by decide +kernel
theorem dX5_wouldWin_102 : decode cX5_wouldWin 102 = .ok (.aastore, 1) := by decide +kernel
theorem dX5_wouldWin_103 : decode cX5_wouldWin 103 = .ok (.iload 5, 2) := by decide +kernel
theorem dX5_wouldWin_105 : decode cX5_wouldWin 105 = .ok (.ireturn, 1) := by decide +kernel
set_option maxRecDepth 20000 in
theorem ggX5_lie_X5_checkStack : GoodIn wsX5_lie wsX5_checkStack := goodIn_ca (goodIn_s [13, 14, 15, 1, 16, 140, 141, 142, 143, 144, 145, 146, 147, 148, 149, 150, 151, 152, 153, 154, 155] (by rfl) (by decide +kernel)) (goodIn_f (fun _ h => List.mem_cons_of_mem _ (List.mem_append_left _ (List.mem_append_right _ h))))
set_option maxRecDepth 20000 in
theorem gX5_lie_X5_checkStack : GoodIn wsX5_lie (wsV RX5 115 RX5 yX5_checkStack wsX5_checkStack) := goodIn_app (goodIn_of _ (by decide +kernel)) ggX5_lie_X5_checkStack
set_option maxRecDepth 20000 in
theorem ggX5_lie_X5_checkWay : GoodIn wsX5_lie wsX5_checkWay := goodIn_ca (goodIn_s [19, 20, 21] (by rfl) (by decide +kernel)) (goodIn_f (fun _ h => List.mem_cons_of_mem _ (List.mem_append_right _ h)))
set_option maxRecDepth 20000 in
theorem gX5_lie_X5_checkWay : GoodIn wsX5_lie (va_wsS RX5 182 yX5_checkWay wsX5_checkWay) := goodIn_app (goodIn_of _ (by decide +kernel)) ggX5_lie_X5_checkWay
set_option maxRecDepth 20000 in
theorem ggX5_lie_X2_winnerBy : GoodIn wsX5_lie wsX2_winnerBy := goodIn_s [26, 27, 28, 29, 25, 30, 31, 32, 33, 34, 35, 36, 37, 38, 39, 40, 41, 42, 43, 44, 45, 46, 47, 48, 49, 50, 51, 52, 53, 54, 55, 56, 57, 58, 59, 60, 61, 62, 63, 64, 65, 66, 67, 68, 69, 70, 71, 72, 73, 74, 75, 76, 77, 78, 79, 80, 81, 82, 83, 84, 85, 86, 87, 88, 89, 90, 91, 92, 93, 94, 95, 96, 97, 98, 99, 100, 101, 102, 103, 104, 105, 106, 107, 108, 109, 110, 111, 112, 113, 114, 115, 116, 117, 118, 119, 120, 121, 122, 123, 124, 125, 126, 127, 128, 129, 130, 131, 132, 133, 134, 163, 164, 165, 166, 167, 168, 169, 145, 146, 147, 148, 149, 150, 151, 152, 153, 154, 155, 156, 157, 158, 159, 160, 161, 162] (by rfl) (by decide +kernel)
set_option maxRecDepth 20000 in
theorem gX5_lie_X2_winnerBy : GoodIn wsX5_lie (wsV RX5 185 RX2 yX2_winnerBy wsX2_winnerBy) := goodIn_app (goodIn_of _ (by decide +kernel)) ggX5_lie_X2_winnerBy
set_option maxRecDepth 20000 in
theorem ggX5_lie_X3_placeOf : GoodIn wsX5_lie wsX3_placeOf := goodIn_s [72, 73, 74, 156, 157, 158, 159, 160, 161, 162] (by rfl) (by decide +kernel)
set_option maxRecDepth 20000 in
theorem gX5_lie_X3_placeOf : GoodIn wsX5_lie (wsV RX5 255 RX3 yX3_placeOf wsX3_placeOf) := goodIn_app (goodIn_of _ (by decide +kernel)) ggX5_lie_X3_placeOf
set_option maxRecDepth 20000 in
theorem ggX5_lie_X3_setListWithFirst : GoodIn wsX5_lie wsX3_setListWithFirst := goodIn_s [139, 43, 73, 74, 156, 157, 158, 159, 160, 161, 162] (by rfl) (by decide +kernel)
set_option maxRecDepth 20000 in
theorem gX5_lie_X3_setListWithFirst : GoodIn wsX5_lie (wsV RX5 261 RX3 yX3_setListWithFirst wsX3_setListWithFirst) := goodIn_app (goodIn_of _ (by decide +kernel)) ggX5_lie_X3_setListWithFirst
theorem dX5_lie_0 : decode cX5_lie 0 = .ok (.aload_n 0, 1) := by decide +kernel
theorem dX5_lie_1 : decode cX5_lie 1 = .ok (.iload_n 1, 1) := by decide +kernel
theorem dX5_lie_2 : decode cX5_lie 2 = .ok (.invokevirtual 115, 3) := by decide +kernel
theorem dX5_lie_5 : decode cX5_lie 5 = .ok (.iload_n 2, 1) := by decide +kernel
theorem dX5_lie_6 : decode cX5_lie 6 = .ok (.invokestatic 182, 3) := by decide +kernel
theorem dX5_lie_9 : decode cX5_lie 9 = .ok (.aload_n 0, 1) := by decide +kernel
theorem dX5_lie_10 : decode cX5_lie 10 = .ok (.getfield 10, 3) := by decide +kernel
theorem dX5_lie_13 : decode cX5_lie 13 = .ok (.getfield 118, 3) := by decide +kernel
theorem dX5_lie_16 : decode cX5_lie 16 = .ok (.iload_n 1, 1) := by decide +kernel
theorem dX5_lie_17 : decode cX5_lie 17 = .ok (.aaload, 1) := by decide +kernel
theorem dX5_lie_18 : decode cX5_lie 18 = .ok (.astore_n 3, 1) := by decide +kernel
theorem dX5_lie_19 : decode cX5_lie 19 = .ok (.iconst (-1), 1) := by decide +kernel
theorem dX5_lie_20 : decode cX5_lie 20 = .ok (.istore 4, 2) := by decide +kernel
theorem dX5_lie_22 : decode cX5_lie 22 = .ok (.aload_n 3, 1) := by decide +kernel
theorem dX5_lie_23 : decode cX5_lie 23 = .ok (.aload_n 0, 1) := by decide +kernel
theorem dX5_lie_24 : decode cX5_lie 24 = .ok (.getfield 19, 3) := by decide +kernel
theorem dX5_lie_27 : decode cX5_lie 27 = .ok (.aload_n 0, 1) := by decide +kernel
theorem dX5_lie_28 : decode cX5_lie 28 = .ok (.getfield 10, 3) := by decide +kernel
theorem dX5_lie_31 : decode cX5_lie 31 = .ok (.aload_n 3, 1) := by decide +kernel
theorem dX5_lie_32 : decode cX5_lie 32 = .ok (.getfield 125, 3) := by decide +kernel
theorem dX5_lie_35 : decode cX5_lie 35 = .ok (.iload_n 2, 1) := by decide +kernel
theorem dX5_lie_36 : decode cX5_lie 36 = .ok (.invokevirtual 185, 3) := by decide +kernel
theorem dX5_lie_39 : decode cX5_lie 39 = .ok (.invokevirtual 255, 3) := by decide +kernel
theorem dX5_lie_42 : decode cX5_lie 42 = .ok (.istore 5, 2) := by decide +kernel
theorem dX5_lie_44 : decode cX5_lie 44 = .ok (.aload_n 0, 1) := by decide +kernel
theorem dX5_lie_45 : decode cX5_lie 45 = .ok (.getfield 40, 3) := by decide +kernel
theorem dX5_lie_48 : decode cX5_lie 48 = .ok (.aload_n 3, 1) := by decide +kernel
theorem dX5_lie_49 : decode cX5_lie 49 = .ok (.getfield 125, 3) := by decide +kernel
theorem dX5_lie_52 : decode cX5_lie 52 = .ok (.putfield 125, 3) := by decide +kernel
theorem dX5_lie_55 : decode cX5_lie 55 = .ok (.aload_n 0, 1) := by decide +kernel
theorem dX5_lie_56 : decode cX5_lie 56 = .ok (.getfield 40, 3) := by decide +kernel
theorem dX5_lie_59 : decode cX5_lie 59 = .ok (.aload_n 3, 1) := by decide +kernel
theorem dX5_lie_60 : decode cX5_lie 60 = .ok (.getfield 122, 3) := by decide +kernel
theorem dX5_lie_63 : decode cX5_lie 63 = .ok (.putfield 122, 3) := by decide +kernel
theorem dX5_lie_66 : decode cX5_lie 66 = .ok (.aload_n 0, 1) := by decide +kernel
theorem dX5_lie_67 : decode cX5_lie 67 = .ok (.getfield 10, 3) := by decide +kernel
theorem dX5_lie_70 : decode cX5_lie 70 = .ok (.getfield 118, 3) := by decide +kernel
theorem dX5_lie_73 : decode cX5_lie 73 = .ok (.iload_n 1, 1) := by decide +kernel
theorem dX5_lie_74 : decode cX5_lie 74 = .ok (.aload_n 0, 1) := by decide +kernel
theorem dX5_lie_75 : decode cX5_lie 75 = .ok (.getfield 40, 3) := by decide +kernel
theorem dX5_lie_78 : decode cX5_lie 78 = .ok (.aastore, 1) := by decide +kernel
theorem dX5_lie_79 : decode cX5_lie 79 = .ok (.iconst 0, 1) := by decide +kernel
theorem dX5_lie_80 : decode cX5_lie 80 = .ok (.istore 6, 2) := by decide +kernel
theorem dX5_lie_82 : decode cX5_lie 82 = .ok (.iload 6, 2) := by decide +kernel
theorem dX5_lie_84 : decode cX5_lie 84 = .ok (.aload_n 3, 1) := by decide +kernel
theorem dX5_lie_85 : decode cX5_lie 85 = .ok (.getfield 258, 3) := by decide +kernel
theorem dX5_lie_88 : decode cX5_lie 88 = .ok (.if_icmp .ge 61, 3) := by decide +kernel
theorem dX5_lie_91 : decode cX5_lie 91 = .ok (.aload_n 0, 1) := by decide +kernel
theorem dX5_lie_92 : decode cX5_lie 92 = .ok (.getfield 40, 3) := by decide +kernel
theorem dX5_lie_95 : decode cX5_lie 95 = .ok (.aload_n 3, 1) := by decide +kernel
theorem dX5_lie_96 : decode cX5_lie 96 = .ok (.iload 6, 2) := by decide +kernel
theorem dX5_lie_98 : decode cX5_lie 98 = .ok (.invokevirtual 261, 3) := by decide +kernel
theorem dX5_lie_101 : decode cX5_lie 101 = .ok (.aload_n 3, 1) := by decide +kernel
theorem dX5_lie_102 : decode cX5_lie 102 = .ok (.aload_n 0, 1) := by decide +kernel
theorem dX5_lie_103 : decode cX5_lie 103 = .ok (.getfield 19, 3) := by decide +kernel
theorem dX5_lie_106 : decode cX5_lie 106 = .ok (.aload_n 0, 1) := by decide +kernel
theorem dX5_lie_107 : decode cX5_lie 107 = .ok (.getfield 10, 3) := by decide +kernel
theorem dX5_lie_110 : decode cX5_lie 110 = .ok (.aload_n 3, 1) := by decide +kernel
theorem dX5_lie_111 : decode cX5_lie 111 = .ok (.getfield 125, 3) := by decide +kernel
theorem dX5_lie_114 : decode cX5_lie 114 = .ok (.iload_n 2, 1) := by decide +kernel
theorem dX5_lie_115 : decode cX5_lie 115 = .ok (.invokevirtual 185, 3) := by decide +kernel
theorem dX5_lie_118 : decode cX5_lie 118 = .ok (.invokevirtual 255, 3) := by decide +kernel
theorem dX5_lie_121 : decode cX5_lie 121 = .ok (.istore 7, 2) := by decide +kernel
theorem dX5_lie_123 : decode cX5_lie 123 = .ok (.iload 7, 2) := by decide +kernel
theorem dX5_lie_125 : decode cX5_lie 125 = .ok (.iload 5, 2) := by decide +kernel
theorem dX5_lie_127 : decode cX5_lie 127 = .ok (.if_icmp .ge 16, 3) := by decide +kernel
theorem dX5_lie_130 : decode cX5_lie 130 = .ok (.aload_n 3, 1) := by decide +kernel
theorem dX5_lie_131 : decode cX5_lie 131 = .ok (.getfield 265, 3) := by decide +kernel
theorem dX5_lie_134 : decode cX5_lie 134 = .ok (.iload 6, 2) := by decide +kernel
theorem dX5_lie_136 : decode cX5_lie 136 = .ok (.iaload, 1) := by decide +kernel
theorem dX5_lie_137 : decode cX5_lie 137 = .ok (.istore 4, 2) := by decide +kernel
theorem dX5_lie_139 : decode cX5_lie 139 = .ok (.iload 7, 2) := by decide +kernel
theorem dX5_lie_141 : decode cX5_lie 141 = .ok (.istore 5, 2) := by decide +kernel
theorem dX5_lie_143 : decode cX5_lie 143 = .ok (.iinc 6 1, 3) := by decide +kernel
theorem dX5_lie_146 : decode cX5_lie 146 = .ok (.goto (-64), 3) := by decide +kernel
theorem dX5_lie_149 : decode cX5_lie 149 = .ok (.aload_n 0, 1) := by decide +kernel
theorem dX5_lie_150 : decode cX5_lie 150 = .ok (.getfield 10, 3) := by decide +kernel
theorem dX5_lie_153 : decode cX5_lie 153 = .ok (.getfield 118, 3) := by decide +kernel
theorem dX5_lie_156 : decode cX5_lie 156 = .ok (.iload_n 1, 1) := by decide +kernel
theorem dX5_lie_157 : decode cX5_lie 157 = .ok (.aload_n 3, 1) := by decide +kernel
theorem dX5_lie_158 : decode cX5_lie 158 = .ok (.aastore, 1) := by decide +kernel
theorem dX5_lie_159 : decode cX5_lie 159 = .ok (.iload 4, 2) := by decide +kernel
theorem dX5_lie_161 : decode cX5_lie 161 = .ok (.ireturn, 1) := by decide +kernel
set_option maxRecDepth 20000 in
theorem ggX5_digest_X0_figure : GoodIn wsX5_digest wsX0_figure := goodIn_s [13, 14, 15, 16, 17, 18, 19, 20, 21, 22, 23, 12, 24, 25, 26, 27, 28, 29, 30, 31, 32, 33, 34, 35, 36, 37, 38, 39, 40, 41, 42, 43, 44, 45, 46, 47, 339, 340, 341, 342, 343, 344, 345, 346, 347, 348, 349, 350, 351, 352, 353, 354, 355, 356] (by rfl) (by decide +kernel)
set_option maxRecDepth 20000 in
theorem gX5_digest_X0_figure : GoodIn wsX5_digest (wsV RX5 247 RX0 yX0_figure wsX0_figure) := goodIn_app (goodIn_of _ (by decide +kernel)) ggX5_digest_X0_figure
set_option maxRecDepth 20000 in
theorem ggX5_digest_X5_mix : GoodIn wsX5_digest wsX5_mix := goodIn_s [51, 52] (by rfl) (by decide +kernel)
set_option maxRecDepth 20000 in
theorem gX5_digest_X5_mix : GoodIn wsX5_digest (va_wsS RX5 270 yX5_mix wsX5_mix) := goodIn_app (goodIn_of _ (by decide +kernel)) ggX5_digest_X5_mix
set_option maxRecDepth 20000 in
theorem ggX5_digest_X4_fillSeats : GoodIn wsX5_digest wsX4_fillSeats := goodIn_s [57, 58, 59, 60, 61, 62, 63, 64, 65, 56, 66, 67, 68, 69, 70, 71, 72, 73, 74, 75, 12, 76, 14, 77, 78, 37, 38, 39, 17, 25, 40, 31, 41, 42, 43, 44, 45, 46, 47, 79, 80, 81, 82, 83, 84, 85, 86, 87, 88, 89, 90, 91, 92, 93, 94, 95, 96, 97, 98, 99, 100, 101, 102, 103, 104, 105, 339, 340, 341, 342, 343, 344, 345, 346, 347, 348, 349, 357, 358, 359, 350, 351, 352, 353, 354, 355, 356] (by rfl) (by decide +kernel)
set_option maxRecDepth 20000 in
theorem gX5_digest_X4_fillSeats : GoodIn wsX5_digest (wsV RX5 200 RX4 yX4_fillSeats wsX4_fillSeats) := goodIn_app (goodIn_of _ (by decide +kernel)) ggX5_digest_X4_fillSeats
set_option maxRecDepth 20000 in
theorem ggX5_digest_X5_mixStack : GoodIn wsX5_digest wsX5_mixStack := goodIn_s [108, 109, 110, 111, 112, 113, 44, 114, 46, 115, 116, 47, 88, 89, 48, 49, 50, 51, 52, 350, 351, 352, 353, 354, 355, 356] (by rfl) (by decide +kernel)
set_option maxRecDepth 20000 in
theorem gX5_digest_X5_mixStack : GoodIn wsX5_digest (va_wsS RX5 274 yX5_mixStack wsX5_mixStack) := goodIn_app (goodIn_of _ (by decide +kernel)) ggX5_digest_X5_mixStack
set_option maxRecDepth 20000 in
theorem ggX5_digest_X5_mixDistrict : GoodIn wsX5_digest wsX5_mixDistrict := goodIn_s [120, 8, 2, 121, 4, 122, 123, 124, 125, 126, 127, 128, 129, 130, 131, 132, 133, 134, 135, 136, 137, 138, 139, 140, 141, 142, 42, 43, 44, 45, 46, 47, 143, 144, 145, 146, 147, 148, 149, 150, 151, 152, 153, 154, 155, 74, 75, 12, 76, 14, 77, 156, 157, 158, 159, 160, 161, 162, 163, 164, 165, 88, 89, 166, 167, 168, 169, 170, 171, 172, 173, 174, 175, 176, 177, 178, 179, 180, 181, 182, 183, 184, 185, 186, 187, 188, 189, 190, 191, 192, 193, 194, 195, 196, 197, 198, 199, 200, 201, 202, 203, 204, 205, 206, 207, 208, 209, 210, 85, 86, 87, 211, 212, 213, 214, 215, 216, 217, 218, 219, 220, 221, 222, 48, 49, 50, 51, 52, 223, 53, 54, 55, 56, 57, 58, 59, 60, 61, 62, 63, 64, 65, 66, 67, 68, 69, 70, 71, 72, 73, 78, 37, 38, 39, 17, 25, 40, 31, 41, 79, 80, 81, 82, 83, 84, 90, 91, 92, 93, 94, 95, 96, 97, 98, 99, 100, 101, 102, 103, 104, 105, 224, 225, 226, 227, 228, 229, 230, 231, 232, 233, 334, 335, 336, 337, 338, 360, 361, 362, 363, 364, 365, 366, 357, 358, 359, 339, 340, 341, 342, 343, 344, 345, 346, 347, 348, 349, 350, 351, 352, 353, 354, 355, 356] (by rfl) (by decide +kernel)
set_option maxRecDepth 20000 in
theorem gX5_digest_X5_mixDistrict : GoodIn wsX5_digest (wsV RX5 278 RX5 yX5_mixDistrict wsX5_mixDistrict) := goodIn_app (goodIn_of _ (by decide +kernel)) ggX5_digest_X5_mixDistrict
set_option maxRecDepth 20000 in
theorem ggX5_digest_X1_countVotes : GoodIn wsX5_digest wsX1_countVotes := goodIn_s [238, 239, 240, 241, 242, 243, 244, 245, 246, 247, 248, 249, 250, 251, 252, 12, 253, 14, 77, 254, 367, 368, 369, 370, 371, 372, 373, 374, 375, 339, 340, 341, 342, 343, 344, 345, 346, 347, 348, 349, 350, 351, 352, 353, 354, 355, 356] (by rfl) (by decide +kernel)
set_option maxRecDepth 20000 in
theorem gX5_digest_X1_countVotes : GoodIn wsX5_digest (wsV RX5 133 RX1 yX1_countVotes wsX1_countVotes) := goodIn_app (goodIn_of _ (by decide +kernel)) ggX5_digest_X1_countVotes
set_option maxRecDepth 20000 in
theorem ggX5_digest_X1_countDistricts : GoodIn wsX5_digest wsX1_countDistricts := goodIn_s [258, 259, 260, 261, 262, 245, 263, 133, 134, 130, 135, 136, 137, 138, 139, 140, 141, 142, 42, 43, 44, 45, 46, 47, 264, 144, 145, 146, 147, 148, 265, 266, 267, 237, 268, 269, 270, 271, 272, 273, 274, 275, 189, 186, 190, 367, 368, 369, 370, 371, 372, 373, 374, 375, 339, 340, 341, 342, 343, 344, 345, 346, 347, 348, 349, 360, 361, 362, 363, 364, 365, 366, 350, 351, 352, 353, 354, 355, 356] (by rfl) (by decide +kernel)
set_option maxRecDepth 20000 in
theorem gX5_digest_X1_countDistricts : GoodIn wsX5_digest (wsV RX5 213 RX1 yX1_countDistricts wsX1_countDistricts) := goodIn_app (goodIn_of _ (by decide +kernel)) ggX5_digest_X1_countDistricts
set_option maxRecDepth 20000 in
theorem ggX5_digest_X5_mixParty : GoodIn wsX5_digest wsX5_mixParty := goodIn_s [279, 7, 280, 281, 282, 283, 237, 284, 240, 241, 259, 260, 248, 48, 49, 50, 51, 52, 285, 286, 287, 288, 289, 290, 291, 292, 293, 294, 295, 296, 297, 298, 299, 300, 301, 302, 303, 304, 305, 306, 307, 308, 309, 310, 311, 312, 313, 314, 315, 316, 317, 318, 334, 335, 336, 337, 338, 367, 368, 369, 370, 371, 372, 373, 374, 375] (by rfl) (by decide +kernel)
set_option maxRecDepth 20000 in
theorem gX5_digest_X5_mixParty : GoodIn wsX5_digest (wsV RX5 282 RX5 yX5_mixParty wsX5_mixParty) := goodIn_app (goodIn_of _ (by decide +kernel)) ggX5_digest_X5_mixParty
set_option maxRecDepth 20000 in
theorem ggX5_digest_X1_shareSeats : GoodIn wsX5_digest wsX1_shareSeats := goodIn_s [288, 289, 290, 291, 292, 237, 293, 240, 294, 295, 296, 297, 298, 248, 299, 300, 301, 302, 303, 304, 305, 306, 367, 368, 369, 370, 371, 372, 373, 374, 375] (by rfl) (by decide +kernel)
set_option maxRecDepth 20000 in
theorem gX5_digest_X1_shareSeats : GoodIn wsX5_digest (wsV RX5 285 RX1 yX1_shareSeats wsX1_shareSeats) := goodIn_app (goodIn_of _ (by decide +kernel)) ggX5_digest_X1_shareSeats
set_option maxRecDepth 20000 in
theorem ggX5_digest_X1_leastRulers : GoodIn wsX5_digest wsX1_leastRulers := goodIn_s [322, 311, 312, 313, 237, 314, 315, 316, 317, 318, 289, 323, 324, 325, 326, 327, 328, 329, 330, 331, 332, 333, 367, 368, 369, 370, 371, 372, 373, 374, 375] (by rfl) (by decide +kernel)
set_option maxRecDepth 20000 in
theorem gX5_digest_X1_leastRulers : GoodIn wsX5_digest (wsV RX5 238 RX1 yX1_leastRulers wsX1_leastRulers) := goodIn_app (goodIn_of _ (by decide +kernel)) ggX5_digest_X1_leastRulers
theorem dX5_digest_0 : decode cX5_digest 0 = .ok (.ldc2_w 268, 3) := by decide +kernel
theorem dX5_digest_3 : decode cX5_digest 3 = .ok (.lstore_n 1, 1) := by decide +kernel
theorem dX5_digest_4 : decode cX5_digest 4 = .ok (.iconst 0, 1) := by decide +kernel
theorem dX5_digest_5 : decode cX5_digest 5 = .ok (.istore_n 3, 1) := by decide +kernel
theorem dX5_digest_6 : decode cX5_digest 6 = .ok (.iload_n 3, 1) := by decide +kernel
theorem dX5_digest_7 : decode cX5_digest 7 = .ok (.bipush 9, 2) := by decide +kernel
theorem dX5_digest_9 : decode cX5_digest 9 = .ok (.if_icmp .gt 23, 3) := by decide +kernel
theorem dX5_digest_12 : decode cX5_digest 12 = .ok (.lload_n 1, 1) := by decide +kernel
theorem dX5_digest_13 : decode cX5_digest 13 = .ok (.aload_n 0, 1) := by decide +kernel
theorem dX5_digest_14 : decode cX5_digest 14 = .ok (.getfield 10, 3) := by decide +kernel
theorem dX5_digest_17 : decode cX5_digest 17 = .ok (.iload_n 3, 1) := by decide +kernel
theorem dX5_digest_18 : decode cX5_digest 18 = .ok (.invokevirtual 247, 3) := by decide +kernel
theorem dX5_digest_21 : decode cX5_digest 21 = .ok (.i2l, 1) := by decide +kernel
theorem dX5_digest_22 : decode cX5_digest 22 = .ok (.invokestatic 270, 3) := by decide +kernel
theorem dX5_digest_25 : decode cX5_digest 25 = .ok (.lstore_n 1, 1) := by decide +kernel
theorem dX5_digest_26 : decode cX5_digest 26 = .ok (.iinc 3 1, 3) := by decide +kernel
theorem dX5_digest_29 : decode cX5_digest 29 = .ok (.goto (-23), 3) := by decide +kernel
theorem dX5_digest_32 : decode cX5_digest 32 = .ok (.iconst 0, 1) := by decide +kernel
theorem dX5_digest_33 : decode cX5_digest 33 = .ok (.istore_n 3, 1) := by decide +kernel
theorem dX5_digest_34 : decode cX5_digest 34 = .ok (.iload_n 3, 1) := by decide +kernel
theorem dX5_digest_35 : decode cX5_digest 35 = .ok (.aload_n 0, 1) := by decide +kernel
theorem dX5_digest_36 : decode cX5_digest 36 = .ok (.getfield 10, 3) := by decide +kernel
theorem dX5_digest_39 : decode cX5_digest 39 = .ok (.getfield 86, 3) := by decide +kernel
theorem dX5_digest_42 : decode cX5_digest 42 = .ok (.if_icmp .ge 21, 3) := by decide +kernel
theorem dX5_digest_45 : decode cX5_digest 45 = .ok (.aload_n 0, 1) := by decide +kernel
theorem dX5_digest_46 : decode cX5_digest 46 = .ok (.getfield 26, 3) := by decide +kernel
theorem dX5_digest_49 : decode cX5_digest 49 = .ok (.aload_n 0, 1) := by decide +kernel
theorem dX5_digest_50 : decode cX5_digest 50 = .ok (.getfield 10, 3) := by decide +kernel
theorem dX5_digest_53 : decode cX5_digest 53 = .ok (.iload_n 3, 1) := by decide +kernel
theorem dX5_digest_54 : decode cX5_digest 54 = .ok (.invokevirtual 200, 3) := by decide +kernel
theorem dX5_digest_57 : decode cX5_digest 57 = .ok (.iinc 3 1, 3) := by decide +kernel
theorem dX5_digest_60 : decode cX5_digest 60 = .ok (.goto (-26), 3) := by decide +kernel
theorem dX5_digest_63 : decode cX5_digest 63 = .ok (.iconst 0, 1) := by decide +kernel
theorem dX5_digest_64 : decode cX5_digest 64 = .ok (.istore_n 3, 1) := by decide +kernel
theorem dX5_digest_65 : decode cX5_digest 65 = .ok (.iload_n 3, 1) := by decide +kernel
theorem dX5_digest_66 : decode cX5_digest 66 = .ok (.aload_n 0, 1) := by decide +kernel
theorem dX5_digest_67 : decode cX5_digest 67 = .ok (.getfield 10, 3) := by decide +kernel
theorem dX5_digest_70 : decode cX5_digest 70 = .ok (.getfield 106, 3) := by decide +kernel
theorem dX5_digest_73 : decode cX5_digest 73 = .ok (.if_icmp .ge 23, 3) := by decide +kernel
theorem dX5_digest_76 : decode cX5_digest 76 = .ok (.lload_n 1, 1) := by decide +kernel
theorem dX5_digest_77 : decode cX5_digest 77 = .ok (.aload_n 0, 1) := by decide +kernel
theorem dX5_digest_78 : decode cX5_digest 78 = .ok (.getfield 10, 3) := by decide +kernel
theorem dX5_digest_81 : decode cX5_digest 81 = .ok (.getfield 118, 3) := by decide +kernel
theorem dX5_digest_84 : decode cX5_digest 84 = .ok (.iload_n 3, 1) := by decide +kernel
theorem dX5_digest_85 : decode cX5_digest 85 = .ok (.aaload, 1) := by decide +kernel
theorem dX5_digest_86 : decode cX5_digest 86 = .ok (.invokestatic 274, 3) := by decide +kernel
theorem dX5_digest_89 : decode cX5_digest 89 = .ok (.lstore_n 1, 1) := by decide +kernel
theorem dX5_digest_90 : decode cX5_digest 90 = .ok (.iinc 3 1, 3) := by decide +kernel
theorem dX5_digest_93 : decode cX5_digest 93 = .ok (.goto (-28), 3) := by decide +kernel
theorem dX5_digest_96 : decode cX5_digest 96 = .ok (.iconst 0, 1) := by decide +kernel
theorem dX5_digest_97 : decode cX5_digest 97 = .ok (.istore_n 3, 1) := by decide +kernel
theorem dX5_digest_98 : decode cX5_digest 98 = .ok (.iload_n 3, 1) := by decide +kernel
theorem dX5_digest_99 : decode cX5_digest 99 = .ok (.aload_n 0, 1) := by decide +kernel
theorem dX5_digest_100 : decode cX5_digest 100 = .ok (.getfield 10, 3) := by decide +kernel
theorem dX5_digest_103 : decode cX5_digest 103 = .ok (.getfield 86, 3) := by decide +kernel
theorem dX5_digest_106 : decode cX5_digest 106 = .ok (.if_icmp .ge 16, 3) := by decide +kernel
theorem dX5_digest_109 : decode cX5_digest 109 = .ok (.aload_n 0, 1) := by decide +kernel
theorem dX5_digest_110 : decode cX5_digest 110 = .ok (.lload_n 1, 1) := by decide +kernel
theorem dX5_digest_111 : decode cX5_digest 111 = .ok (.iload_n 3, 1) := by decide +kernel
theorem dX5_digest_112 : decode cX5_digest 112 = .ok (.invokevirtual 278, 3) := by decide +kernel
theorem dX5_digest_115 : decode cX5_digest 115 = .ok (.lstore_n 1, 1) := by decide +kernel
theorem dX5_digest_116 : decode cX5_digest 116 = .ok (.iinc 3 1, 3) := by decide +kernel
theorem dX5_digest_119 : decode cX5_digest 119 = .ok (.goto (-21), 3) := by decide +kernel
theorem dX5_digest_122 : decode cX5_digest 122 = .ok (.aload_n 0, 1) := by decide +kernel
theorem dX5_digest_123 : decode cX5_digest 123 = .ok (.getfield 33, 3) := by decide +kernel
theorem dX5_digest_126 : decode cX5_digest 126 = .ok (.aload_n 0, 1) := by decide +kernel
theorem dX5_digest_127 : decode cX5_digest 127 = .ok (.getfield 10, 3) := by decide +kernel
theorem dX5_digest_130 : decode cX5_digest 130 = .ok (.invokevirtual 133, 3) := by decide +kernel
theorem dX5_digest_133 : decode cX5_digest 133 = .ok (.aload_n 0, 1) := by decide +kernel
theorem dX5_digest_134 : decode cX5_digest 134 = .ok (.getfield 33, 3) := by decide +kernel
theorem dX5_digest_137 : decode cX5_digest 137 = .ok (.aload_n 0, 1) := by decide +kernel
theorem dX5_digest_138 : decode cX5_digest 138 = .ok (.getfield 10, 3) := by decide +kernel
theorem dX5_digest_141 : decode cX5_digest 141 = .ok (.aload_n 0, 1) := by decide +kernel
theorem dX5_digest_142 : decode cX5_digest 142 = .ok (.getfield 19, 3) := by decide +kernel
theorem dX5_digest_145 : decode cX5_digest 145 = .ok (.invokevirtual 213, 3) := by decide +kernel
theorem dX5_digest_148 : decode cX5_digest 148 = .ok (.iconst 0, 1) := by decide +kernel
theorem dX5_digest_149 : decode cX5_digest 149 = .ok (.istore_n 3, 1) := by decide +kernel
theorem dX5_digest_150 : decode cX5_digest 150 = .ok (.iload_n 3, 1) := by decide +kernel
theorem dX5_digest_151 : decode cX5_digest 151 = .ok (.iconst 4, 1) := by decide +kernel
theorem dX5_digest_152 : decode cX5_digest 152 = .ok (.if_icmp .ge 16, 3) := by decide +kernel
theorem dX5_digest_155 : decode cX5_digest 155 = .ok (.aload_n 0, 1) := by decide +kernel
theorem dX5_digest_156 : decode cX5_digest 156 = .ok (.lload_n 1, 1) := by decide +kernel
theorem dX5_digest_157 : decode cX5_digest 157 = .ok (.iload_n 3, 1) := by decide +kernel
theorem dX5_digest_158 : decode cX5_digest 158 = .ok (.invokevirtual 282, 3) := by decide +kernel
theorem dX5_digest_161 : decode cX5_digest 161 = .ok (.lstore_n 1, 1) := by decide +kernel
theorem dX5_digest_162 : decode cX5_digest 162 = .ok (.iinc 3 1, 3) := by decide +kernel
theorem dX5_digest_165 : decode cX5_digest 165 = .ok (.goto (-15), 3) := by decide +kernel
theorem dX5_digest_168 : decode cX5_digest 168 = .ok (.iconst 0, 1) := by decide +kernel
theorem dX5_digest_169 : decode cX5_digest 169 = .ok (.istore_n 3, 1) := by decide +kernel
theorem dX5_digest_170 : decode cX5_digest 170 = .ok (.iload_n 3, 1) := by decide +kernel
theorem dX5_digest_171 : decode cX5_digest 171 = .ok (.iconst 2, 1) := by decide +kernel
theorem dX5_digest_172 : decode cX5_digest 172 = .ok (.if_icmp .gt 34, 3) := by decide +kernel
theorem dX5_digest_175 : decode cX5_digest 175 = .ok (.aload_n 0, 1) := by decide +kernel
theorem dX5_digest_176 : decode cX5_digest 176 = .ok (.getfield 33, 3) := by decide +kernel
theorem dX5_digest_179 : decode cX5_digest 179 = .ok (.bipush 20, 2) := by decide +kernel
theorem dX5_digest_181 : decode cX5_digest 181 = .ok (.iload_n 3, 1) := by decide +kernel
theorem dX5_digest_182 : decode cX5_digest 182 = .ok (.invokevirtual 285, 3) := by decide +kernel
theorem dX5_digest_185 : decode cX5_digest 185 = .ok (.lload_n 1, 1) := by decide +kernel
theorem dX5_digest_186 : decode cX5_digest 186 = .ok (.aload_n 0, 1) := by decide +kernel
theorem dX5_digest_187 : decode cX5_digest 187 = .ok (.getfield 33, 3) := by decide +kernel
theorem dX5_digest_190 : decode cX5_digest 190 = .ok (.bipush 20, 2) := by decide +kernel
theorem dX5_digest_192 : decode cX5_digest 192 = .ok (.invokevirtual 238, 3) := by decide +kernel
theorem dX5_digest_195 : decode cX5_digest 195 = .ok (.i2l, 1) := by decide +kernel
theorem dX5_digest_196 : decode cX5_digest 196 = .ok (.invokestatic 270, 3) := by decide +kernel
theorem dX5_digest_199 : decode cX5_digest 199 = .ok (.lstore_n 1, 1) := by decide +kernel
theorem dX5_digest_200 : decode cX5_digest 200 = .ok (.iinc 3 1, 3) := by decide +kernel
theorem dX5_digest_203 : decode cX5_digest 203 = .ok (.goto (-33), 3) := by decide +kernel
theorem dX5_digest_206 : decode cX5_digest 206 = .ok (.lload_n 1, 1) := by decide +kernel
theorem dX5_digest_207 : decode cX5_digest 207 = .ok (.lreturn, 1) := by decide +kernel
theorem dX5_mix_0 : decode cX5_mix 0 = .ok (.lload_n 0, 1) := by decide +kernel
theorem dX5_mix_1 : decode cX5_mix 1 = .ok (.ldc2_w 288, 3) := by decide +kernel
theorem dX5_mix_4 : decode cX5_mix 4 = .ok (.lmul, 1) := by decide +kernel
theorem dX5_mix_5 : decode cX5_mix 5 = .ok (.lload_n 2, 1) := by decide +kernel
theorem dX5_mix_6 : decode cX5_mix 6 = .ok (.ladd, 1) := by decide +kernel
theorem dX5_mix_7 : decode cX5_mix 7 = .ok (.lreturn, 1) := by decide +kernel
set_option maxRecDepth 20000 in
theorem ggX5_mixStack_X3_figure : GoodIn wsX5_mixStack wsX3_figure := goodIn_s [7, 8, 9, 10, 11, 12, 13, 19, 20, 21, 22, 23, 24, 25] (by rfl) (by decide +kernel)
set_option maxRecDepth 20000 in
theorem gX5_mixStack_X3_figure : GoodIn wsX5_mixStack (wsV RX5 152 RX3 yX3_figure wsX3_figure) := goodIn_app (goodIn_of _ (by decide +kernel)) ggX5_mixStack_X3_figure
set_option maxRecDepth 20000 in
theorem ggX5_mixStack_X5_mix : GoodIn wsX5_mixStack wsX5_mix := goodIn_s [17, 18] (by rfl) (by decide +kernel)
set_option maxRecDepth 20000 in
theorem gX5_mixStack_X5_mix : GoodIn wsX5_mixStack (va_wsS RX5 270 yX5_mix wsX5_mix) := goodIn_app (goodIn_of _ (by decide +kernel)) ggX5_mixStack_X5_mix
theorem dX5_mixStack_0 : decode cX5_mixStack 0 = .ok (.lload_n 0, 1) := by decide +kernel
theorem dX5_mixStack_1 : decode cX5_mixStack 1 = .ok (.lstore_n 3, 1) := by decide +kernel
theorem dX5_mixStack_2 : decode cX5_mixStack 2 = .ok (.iconst 0, 1) := by decide +kernel
theorem dX5_mixStack_3 : decode cX5_mixStack 3 = .ok (.istore 5, 2) := by decide +kernel
theorem dX5_mixStack_5 : decode cX5_mixStack 5 = .ok (.iload 5, 2) := by decide +kernel
theorem dX5_mixStack_7 : decode cX5_mixStack 7 = .ok (.iconst 5, 1) := by decide +kernel
theorem dX5_mixStack_8 : decode cX5_mixStack 8 = .ok (.if_icmp .gt 21, 3) := by decide +kernel
theorem dX5_mixStack_11 : decode cX5_mixStack 11 = .ok (.lload_n 3, 1) := by decide +kernel
theorem dX5_mixStack_12 : decode cX5_mixStack 12 = .ok (.aload_n 2, 1) := by decide +kernel
theorem dX5_mixStack_13 : decode cX5_mixStack 13 = .ok (.iload 5, 2) := by decide +kernel
theorem dX5_mixStack_15 : decode cX5_mixStack 15 = .ok (.invokevirtual 152, 3) := by decide +kernel
theorem dX5_mixStack_18 : decode cX5_mixStack 18 = .ok (.i2l, 1) := by decide +kernel
theorem dX5_mixStack_19 : decode cX5_mixStack 19 = .ok (.invokestatic 270, 3) := by decide +kernel
theorem dX5_mixStack_22 : decode cX5_mixStack 22 = .ok (.lstore_n 3, 1) := by decide +kernel
theorem dX5_mixStack_23 : decode cX5_mixStack 23 = .ok (.iinc 5 1, 3) := by decide +kernel
theorem dX5_mixStack_26 : decode cX5_mixStack 26 = .ok (.goto (-21), 3) := by decide +kernel
theorem dX5_mixStack_29 : decode cX5_mixStack 29 = .ok (.lload_n 3, 1) := by decide +kernel
theorem dX5_mixStack_30 : decode cX5_mixStack 30 = .ok (.ldc2_w 290, 3) := by decide +kernel
theorem dX5_mixStack_33 : decode cX5_mixStack 33 = .ok (.aload_n 2, 1) := by decide +kernel
theorem dX5_mixStack_34 : decode cX5_mixStack 34 = .ok (.getfield 206, 3) := by decide +kernel
theorem dX5_mixStack_37 : decode cX5_mixStack 37 = .ok (.dmul, 1) := by decide +kernel
theorem dX5_mixStack_38 : decode cX5_mixStack 38 = .ok (.d2l, 1) := by decide +kernel
theorem dX5_mixStack_39 : decode cX5_mixStack 39 = .ok (.invokestatic 270, 3) := by decide +kernel
theorem dX5_mixStack_42 : decode cX5_mixStack 42 = .ok (.lreturn, 1) := by decide +kernel
set_option maxRecDepth 20000 in
theorem ggX5_mixDistrict_X2_winnerBy : GoodIn wsX5_mixDistrict wsX2_winnerBy := goodIn_s [14, 15, 16, 17, 13, 18, 19, 20, 21, 22, 23, 24, 25, 26, 27, 28, 29, 30, 31, 32, 33, 34, 35, 36, 37, 38, 39, 40, 41, 42, 43, 44, 45, 46, 47, 48, 49, 50, 51, 52, 53, 54, 55, 56, 57, 58, 59, 60, 61, 62, 63, 64, 65, 66, 67, 68, 69, 70, 71, 72, 73, 74, 75, 76, 77, 78, 79, 80, 81, 82, 83, 84, 85, 86, 87, 88, 89, 90, 91, 92, 93, 94, 95, 96, 97, 98, 99, 100, 101, 102, 103, 104, 105, 106, 107, 108, 109, 110, 111, 112, 113, 114, 115, 116, 117, 118, 119, 120, 121, 122, 196, 197, 198, 199, 200, 201, 202, 206, 207, 208, 209, 210, 211, 212, 213, 214, 215, 216, 217, 218, 219, 220, 221, 222, 223] (by rfl) (by decide +kernel)
set_option maxRecDepth 20000 in
theorem gX5_mixDistrict_X2_winnerBy : GoodIn wsX5_mixDistrict (wsV RX5 185 RX2 yX2_winnerBy wsX2_winnerBy) := goodIn_app (goodIn_of _ (by decide +kernel)) ggX5_mixDistrict_X2_winnerBy
set_option maxRecDepth 20000 in
theorem ggX5_mixDistrict_X5_mix : GoodIn wsX5_mixDistrict wsX5_mix := goodIn_s [126, 127] (by rfl) (by decide +kernel)
set_option maxRecDepth 20000 in
theorem gX5_mixDistrict_X5_mix : GoodIn wsX5_mixDistrict (va_wsS RX5 270 yX5_mix wsX5_mix) := goodIn_app (goodIn_of _ (by decide +kernel)) ggX5_mixDistrict_X5_mix
set_option maxRecDepth 20000 in
theorem ggX5_mixDistrict_X2_goRounds : GoodIn wsX5_mixDistrict wsX2_goRounds := goodIn_s [99, 100, 101, 55, 102, 38, 39, 40, 13, 41, 42, 43, 20, 21, 44, 45, 46, 47, 48, 49, 50, 25, 26, 27, 28, 29, 30, 31, 51, 52, 53, 54, 22, 36, 37, 24, 56, 57, 58, 59, 60, 61, 62, 103, 104, 105, 106, 107, 108, 109, 110, 111, 112, 113, 114, 115, 116, 117, 118, 119, 120, 121, 122, 196, 197, 198, 199, 200, 201, 202, 206, 207, 208, 209, 210, 211, 212, 213, 214, 215, 216, 217, 218, 219, 220, 221, 222, 223] (by rfl) (by decide +kernel)
set_option maxRecDepth 20000 in
theorem gX5_mixDistrict_X2_goRounds : GoodIn wsX5_mixDistrict (wsV RX5 191 RX2 yX2_goRounds wsX2_goRounds) := goodIn_app (goodIn_of _ (by decide +kernel)) ggX5_mixDistrict_X2_goRounds
set_option maxRecDepth 20000 in
theorem ggX5_mixDistrict_X4_fillSeats : GoodIn wsX5_mixDistrict wsX4_fillSeats := goodIn_s [133, 134, 135, 136, 137, 138, 139, 140, 141, 132, 142, 143, 144, 145, 146, 147, 148, 149, 45, 46, 47, 48, 49, 50, 150, 151, 152, 153, 154, 155, 156, 157, 158, 26, 27, 28, 29, 30, 31, 159, 160, 161, 162, 163, 164, 108, 109, 110, 61, 62, 165, 166, 167, 168, 169, 170, 171, 172, 173, 174, 175, 176, 177, 178, 179, 180, 206, 207, 208, 209, 210, 211, 212, 213, 214, 215, 216, 203, 204, 205, 217, 218, 219, 220, 221, 222, 223] (by rfl) (by decide +kernel)
set_option maxRecDepth 20000 in
theorem gX5_mixDistrict_X4_fillSeats : GoodIn wsX5_mixDistrict (wsV RX5 200 RX4 yX4_fillSeats wsX4_fillSeats) := goodIn_app (goodIn_of _ (by decide +kernel)) ggX5_mixDistrict_X4_fillSeats
set_option maxRecDepth 20000 in
theorem ggX5_mixDistrict_X2_leastShift : GoodIn wsX5_mixDistrict wsX2_leastShift := goodIn_s [184, 19, 36, 37, 81, 82, 83, 84, 15, 16, 17, 13, 18, 20, 21, 22, 23, 24, 25, 26, 27, 28, 29, 30, 31, 32, 33, 34, 35, 185, 186, 187, 188, 196, 197, 198, 199, 200, 201, 202, 206, 207, 208, 209, 210, 211, 212, 213, 214, 215, 216, 217, 218, 219, 220, 221, 222, 223] (by rfl) (by decide +kernel)
set_option maxRecDepth 20000 in
theorem gX5_mixDistrict_X2_leastShift : GoodIn wsX5_mixDistrict (wsV RX5 248 RX2 yX2_leastShift wsX2_leastShift) := goodIn_app (goodIn_of _ (by decide +kernel)) ggX5_mixDistrict_X2_leastShift
set_option maxRecDepth 20000 in
theorem ggX5_mixDistrict_X2_countFirsts : GoodIn wsX5_mixDistrict wsX2_countFirsts := goodIn_s [18, 19, 20, 21, 22, 23, 24, 25, 26, 27, 28, 29, 30, 31, 196, 197, 198, 199, 200, 201, 202, 206, 207, 208, 209, 210, 211, 212, 213, 214, 215, 216, 217, 218, 219, 220, 221, 222, 223] (by rfl) (by decide +kernel)
set_option maxRecDepth 20000 in
theorem gX5_mixDistrict_X2_countFirsts : GoodIn wsX5_mixDistrict (wsV RX5 155 RX2 yX2_countFirsts wsX2_countFirsts) := goodIn_app (goodIn_of _ (by decide +kernel)) ggX5_mixDistrict_X2_countFirsts
set_option maxRecDepth 20000 in
theorem ggX5_mixDistrict_X2_countPoints : GoodIn wsX5_mixDistrict wsX2_countPoints := goodIn_s [41, 42, 43, 20, 21, 44, 45, 46, 47, 48, 49, 50, 25, 26, 27, 28, 29, 30, 31, 51, 52, 53, 13, 54, 55, 22, 36, 37, 24, 56, 57, 58, 59, 60, 61, 62, 196, 197, 198, 199, 200, 201, 202, 206, 207, 208, 209, 210, 211, 212, 213, 214, 215, 216, 217, 218, 219, 220, 221, 222, 223] (by rfl) (by decide +kernel)
set_option maxRecDepth 20000 in
theorem gX5_mixDistrict_X2_countPoints : GoodIn wsX5_mixDistrict (wsV RX5 163 RX2 yX2_countPoints wsX2_countPoints) := goodIn_app (goodIn_of _ (by decide +kernel)) ggX5_mixDistrict_X2_countPoints
theorem dX5_mixDistrict_0 : decode cX5_mixDistrict 0 = .ok (.lload_n 1, 1) := by decide +kernel
theorem dX5_mixDistrict_1 : decode cX5_mixDistrict 1 = .ok (.lstore 4, 2) := by decide +kernel
theorem dX5_mixDistrict_3 : decode cX5_mixDistrict 3 = .ok (.iconst 0, 1) := by decide +kernel
theorem dX5_mixDistrict_4 : decode cX5_mixDistrict 4 = .ok (.istore 6, 2) := by decide +kernel
theorem dX5_mixDistrict_6 : decode cX5_mixDistrict 6 = .ok (.iload 6, 2) := by decide +kernel
theorem dX5_mixDistrict_8 : decode cX5_mixDistrict 8 = .ok (.iconst 3, 1) := by decide +kernel
theorem dX5_mixDistrict_9 : decode cX5_mixDistrict 9 = .ok (.if_icmp .gt 31, 3) := by decide +kernel
theorem dX5_mixDistrict_12 : decode cX5_mixDistrict 12 = .ok (.lload 4, 2) := by decide +kernel
theorem dX5_mixDistrict_14 : decode cX5_mixDistrict 14 = .ok (.aload_n 0, 1) := by decide +kernel
theorem dX5_mixDistrict_15 : decode cX5_mixDistrict 15 = .ok (.getfield 19, 3) := by decide +kernel
theorem dX5_mixDistrict_18 : decode cX5_mixDistrict 18 = .ok (.aload_n 0, 1) := by decide +kernel
theorem dX5_mixDistrict_19 : decode cX5_mixDistrict 19 = .ok (.getfield 10, 3) := by decide +kernel
theorem dX5_mixDistrict_22 : decode cX5_mixDistrict 22 = .ok (.iload_n 3, 1) := by decide +kernel
theorem dX5_mixDistrict_23 : decode cX5_mixDistrict 23 = .ok (.iload 6, 2) := by decide +kernel
theorem dX5_mixDistrict_25 : decode cX5_mixDistrict 25 = .ok (.invokevirtual 185, 3) := by decide +kernel
theorem dX5_mixDistrict_28 : decode cX5_mixDistrict 28 = .ok (.i2l, 1) := by decide +kernel
theorem dX5_mixDistrict_29 : decode cX5_mixDistrict 29 = .ok (.invokestatic 270, 3) := by decide +kernel
theorem dX5_mixDistrict_32 : decode cX5_mixDistrict 32 = .ok (.lstore 4, 2) := by decide +kernel
theorem dX5_mixDistrict_34 : decode cX5_mixDistrict 34 = .ok (.iinc 6 1, 3) := by decide +kernel
theorem dX5_mixDistrict_37 : decode cX5_mixDistrict 37 = .ok (.goto (-31), 3) := by decide +kernel
theorem dX5_mixDistrict_40 : decode cX5_mixDistrict 40 = .ok (.aload_n 0, 1) := by decide +kernel
theorem dX5_mixDistrict_41 : decode cX5_mixDistrict 41 = .ok (.getfield 19, 3) := by decide +kernel
theorem dX5_mixDistrict_44 : decode cX5_mixDistrict 44 = .ok (.aload_n 0, 1) := by decide +kernel
theorem dX5_mixDistrict_45 : decode cX5_mixDistrict 45 = .ok (.getfield 10, 3) := by decide +kernel
theorem dX5_mixDistrict_48 : decode cX5_mixDistrict 48 = .ok (.iload_n 3, 1) := by decide +kernel
theorem dX5_mixDistrict_49 : decode cX5_mixDistrict 49 = .ok (.invokevirtual 191, 3) := by decide +kernel
theorem dX5_mixDistrict_52 : decode cX5_mixDistrict 52 = .ok (.pop, 1) := by decide +kernel
theorem dX5_mixDistrict_53 : decode cX5_mixDistrict 53 = .ok (.iconst 0, 1) := by decide +kernel
theorem dX5_mixDistrict_54 : decode cX5_mixDistrict 54 = .ok (.istore 6, 2) := by decide +kernel
theorem dX5_mixDistrict_56 : decode cX5_mixDistrict 56 = .ok (.iload 6, 2) := by decide +kernel
theorem dX5_mixDistrict_58 : decode cX5_mixDistrict 58 = .ok (.bipush 6, 2) := by decide +kernel
theorem dX5_mixDistrict_60 : decode cX5_mixDistrict 60 = .ok (.if_icmp .ge 27, 3) := by decide +kernel
theorem dX5_mixDistrict_63 : decode cX5_mixDistrict 63 = .ok (.lload 4, 2) := by decide +kernel
theorem dX5_mixDistrict_65 : decode cX5_mixDistrict 65 = .ok (.aload_n 0, 1) := by decide +kernel
theorem dX5_mixDistrict_66 : decode cX5_mixDistrict 66 = .ok (.getfield 19, 3) := by decide +kernel
theorem dX5_mixDistrict_69 : decode cX5_mixDistrict 69 = .ok (.getfield 195, 3) := by decide +kernel
theorem dX5_mixDistrict_72 : decode cX5_mixDistrict 72 = .ok (.iload 6, 2) := by decide +kernel
theorem dX5_mixDistrict_74 : decode cX5_mixDistrict 74 = .ok (.iaload, 1) := by decide +kernel
theorem dX5_mixDistrict_75 : decode cX5_mixDistrict 75 = .ok (.i2l, 1) := by decide +kernel
theorem dX5_mixDistrict_76 : decode cX5_mixDistrict 76 = .ok (.invokestatic 270, 3) := by decide +kernel
theorem dX5_mixDistrict_79 : decode cX5_mixDistrict 79 = .ok (.lstore 4, 2) := by decide +kernel
theorem dX5_mixDistrict_81 : decode cX5_mixDistrict 81 = .ok (.iinc 6 1, 3) := by decide +kernel
theorem dX5_mixDistrict_84 : decode cX5_mixDistrict 84 = .ok (.goto (-28), 3) := by decide +kernel
theorem dX5_mixDistrict_87 : decode cX5_mixDistrict 87 = .ok (.aload_n 0, 1) := by decide +kernel
theorem dX5_mixDistrict_88 : decode cX5_mixDistrict 88 = .ok (.getfield 26, 3) := by decide +kernel
theorem dX5_mixDistrict_91 : decode cX5_mixDistrict 91 = .ok (.aload_n 0, 1) := by decide +kernel
theorem dX5_mixDistrict_92 : decode cX5_mixDistrict 92 = .ok (.getfield 10, 3) := by decide +kernel
theorem dX5_mixDistrict_95 : decode cX5_mixDistrict 95 = .ok (.iload_n 3, 1) := by decide +kernel
theorem dX5_mixDistrict_96 : decode cX5_mixDistrict 96 = .ok (.invokevirtual 200, 3) := by decide +kernel
theorem dX5_mixDistrict_99 : decode cX5_mixDistrict 99 = .ok (.iconst 0, 1) := by decide +kernel
theorem dX5_mixDistrict_100 : decode cX5_mixDistrict 100 = .ok (.istore 6, 2) := by decide +kernel
theorem dX5_mixDistrict_102 : decode cX5_mixDistrict 102 = .ok (.iload 6, 2) := by decide +kernel
theorem dX5_mixDistrict_104 : decode cX5_mixDistrict 104 = .ok (.iconst 5, 1) := by decide +kernel
theorem dX5_mixDistrict_105 : decode cX5_mixDistrict 105 = .ok (.if_icmp .ge 27, 3) := by decide +kernel
theorem dX5_mixDistrict_108 : decode cX5_mixDistrict 108 = .ok (.lload 4, 2) := by decide +kernel
theorem dX5_mixDistrict_110 : decode cX5_mixDistrict 110 = .ok (.aload_n 0, 1) := by decide +kernel
theorem dX5_mixDistrict_111 : decode cX5_mixDistrict 111 = .ok (.getfield 26, 3) := by decide +kernel
theorem dX5_mixDistrict_114 : decode cX5_mixDistrict 114 = .ok (.getfield 203, 3) := by decide +kernel
theorem dX5_mixDistrict_117 : decode cX5_mixDistrict 117 = .ok (.iload 6, 2) := by decide +kernel
theorem dX5_mixDistrict_119 : decode cX5_mixDistrict 119 = .ok (.iaload, 1) := by decide +kernel
theorem dX5_mixDistrict_120 : decode cX5_mixDistrict 120 = .ok (.i2l, 1) := by decide +kernel
theorem dX5_mixDistrict_121 : decode cX5_mixDistrict 121 = .ok (.invokestatic 270, 3) := by decide +kernel
theorem dX5_mixDistrict_124 : decode cX5_mixDistrict 124 = .ok (.lstore 4, 2) := by decide +kernel
theorem dX5_mixDistrict_126 : decode cX5_mixDistrict 126 = .ok (.iinc 6 1, 3) := by decide +kernel
theorem dX5_mixDistrict_129 : decode cX5_mixDistrict 129 = .ok (.goto (-27), 3) := by decide +kernel
theorem dX5_mixDistrict_132 : decode cX5_mixDistrict 132 = .ok (.lload 4, 2) := by decide +kernel
theorem dX5_mixDistrict_134 : decode cX5_mixDistrict 134 = .ok (.aload_n 0, 1) := by decide +kernel
theorem dX5_mixDistrict_135 : decode cX5_mixDistrict 135 = .ok (.getfield 19, 3) := by decide +kernel
theorem dX5_mixDistrict_138 : decode cX5_mixDistrict 138 = .ok (.aload_n 0, 1) := by decide +kernel
theorem dX5_mixDistrict_139 : decode cX5_mixDistrict 139 = .ok (.getfield 10, 3) := by decide +kernel
theorem dX5_mixDistrict_142 : decode cX5_mixDistrict 142 = .ok (.iload_n 3, 1) := by decide +kernel
theorem dX5_mixDistrict_143 : decode cX5_mixDistrict 143 = .ok (.invokevirtual 248, 3) := by decide +kernel
theorem dX5_mixDistrict_146 : decode cX5_mixDistrict 146 = .ok (.i2l, 1) := by decide +kernel
theorem dX5_mixDistrict_147 : decode cX5_mixDistrict 147 = .ok (.invokestatic 270, 3) := by decide +kernel
theorem dX5_mixDistrict_150 : decode cX5_mixDistrict 150 = .ok (.lstore 4, 2) := by decide +kernel
theorem dX5_mixDistrict_152 : decode cX5_mixDistrict 152 = .ok (.aload_n 0, 1) := by decide +kernel
theorem dX5_mixDistrict_153 : decode cX5_mixDistrict 153 = .ok (.getfield 19, 3) := by decide +kernel
theorem dX5_mixDistrict_156 : decode cX5_mixDistrict 156 = .ok (.aload_n 0, 1) := by decide +kernel
theorem dX5_mixDistrict_157 : decode cX5_mixDistrict 157 = .ok (.getfield 10, 3) := by decide +kernel
theorem dX5_mixDistrict_160 : decode cX5_mixDistrict 160 = .ok (.iload_n 3, 1) := by decide +kernel
theorem dX5_mixDistrict_161 : decode cX5_mixDistrict 161 = .ok (.invokevirtual 155, 3) := by decide +kernel
theorem dX5_mixDistrict_164 : decode cX5_mixDistrict 164 = .ok (.aload_n 0, 1) := by decide +kernel
theorem dX5_mixDistrict_165 : decode cX5_mixDistrict 165 = .ok (.getfield 19, 3) := by decide +kernel
theorem dX5_mixDistrict_168 : decode cX5_mixDistrict 168 = .ok (.aload_n 0, 1) := by decide +kernel
theorem dX5_mixDistrict_169 : decode cX5_mixDistrict 169 = .ok (.getfield 10, 3) := by decide +kernel
theorem dX5_mixDistrict_172 : decode cX5_mixDistrict 172 = .ok (.iload_n 3, 1) := by decide +kernel
theorem dX5_mixDistrict_173 : decode cX5_mixDistrict 173 = .ok (.invokevirtual 163, 3) := by decide +kernel
theorem dX5_mixDistrict_176 : decode cX5_mixDistrict 176 = .ok (.iconst 0, 1) := by decide +kernel
theorem dX5_mixDistrict_177 : decode cX5_mixDistrict 177 = .ok (.istore 6, 2) := by decide +kernel
theorem dX5_mixDistrict_179 : decode cX5_mixDistrict 179 = .ok (.iload 6, 2) := by decide +kernel
theorem dX5_mixDistrict_181 : decode cX5_mixDistrict 181 = .ok (.aload_n 0, 1) := by decide +kernel
theorem dX5_mixDistrict_182 : decode cX5_mixDistrict 182 = .ok (.getfield 10, 3) := by decide +kernel
theorem dX5_mixDistrict_185 : decode cX5_mixDistrict 185 = .ok (.getfield 55, 3) := by decide +kernel
theorem dX5_mixDistrict_188 : decode cX5_mixDistrict 188 = .ok (.if_icmp .ge 49, 3) := by decide +kernel
theorem dX5_mixDistrict_191 : decode cX5_mixDistrict 191 = .ok (.lload 4, 2) := by decide +kernel
theorem dX5_mixDistrict_193 : decode cX5_mixDistrict 193 = .ok (.aload_n 0, 1) := by decide +kernel
theorem dX5_mixDistrict_194 : decode cX5_mixDistrict 194 = .ok (.getfield 19, 3) := by decide +kernel
theorem dX5_mixDistrict_197 : decode cX5_mixDistrict 197 = .ok (.getfield 159, 3) := by decide +kernel
theorem dX5_mixDistrict_200 : decode cX5_mixDistrict 200 = .ok (.iload 6, 2) := by decide +kernel
theorem dX5_mixDistrict_202 : decode cX5_mixDistrict 202 = .ok (.iaload, 1) := by decide +kernel
theorem dX5_mixDistrict_203 : decode cX5_mixDistrict 203 = .ok (.i2l, 1) := by decide +kernel
theorem dX5_mixDistrict_204 : decode cX5_mixDistrict 204 = .ok (.invokestatic 270, 3) := by decide +kernel
theorem dX5_mixDistrict_207 : decode cX5_mixDistrict 207 = .ok (.lstore 4, 2) := by decide +kernel
theorem dX5_mixDistrict_209 : decode cX5_mixDistrict 209 = .ok (.lload 4, 2) := by decide +kernel
theorem dX5_mixDistrict_211 : decode cX5_mixDistrict 211 = .ok (.ldc2_w 292, 3) := by decide +kernel
theorem dX5_mixDistrict_214 : decode cX5_mixDistrict 214 = .ok (.aload_n 0, 1) := by decide +kernel
theorem dX5_mixDistrict_215 : decode cX5_mixDistrict 215 = .ok (.getfield 19, 3) := by decide +kernel
theorem dX5_mixDistrict_218 : decode cX5_mixDistrict 218 = .ok (.getfield 166, 3) := by decide +kernel
theorem dX5_mixDistrict_221 : decode cX5_mixDistrict 221 = .ok (.iload 6, 2) := by decide +kernel
theorem dX5_mixDistrict_223 : decode cX5_mixDistrict 223 = .ok (.daload, 1) := by decide +kernel
theorem dX5_mixDistrict_224 : decode cX5_mixDistrict 224 = .ok (.dmul, 1) := by decide +kernel
theorem dX5_mixDistrict_225 : decode cX5_mixDistrict 225 = .ok (.d2l, 1) := by decide +kernel
theorem dX5_mixDistrict_226 : decode cX5_mixDistrict 226 = .ok (.invokestatic 270, 3) := by decide +kernel
theorem dX5_mixDistrict_229 : decode cX5_mixDistrict 229 = .ok (.lstore 4, 2) := by decide +kernel
theorem dX5_mixDistrict_231 : decode cX5_mixDistrict 231 = .ok (.iinc 6 1, 3) := by decide +kernel
theorem dX5_mixDistrict_234 : decode cX5_mixDistrict 234 = .ok (.goto (-55), 3) := by decide +kernel
theorem dX5_mixDistrict_237 : decode cX5_mixDistrict 237 = .ok (.lload 4, 2) := by decide +kernel
theorem dX5_mixDistrict_239 : decode cX5_mixDistrict 239 = .ok (.lreturn, 1) := by decide +kernel
set_option maxRecDepth 20000 in
theorem ggX5_mixParty_X1_figure : GoodIn wsX5_mixParty wsX1_figure := goodIn_s [7, 8, 9, 10, 11, 12, 57, 58, 59, 60, 61, 62, 63, 64, 65] (by rfl) (by decide +kernel)
set_option maxRecDepth 20000 in
theorem gX5_mixParty_X1_figure : GoodIn wsX5_mixParty (wsV RX5 217 RX1 yX1_figure wsX1_figure) := goodIn_app (goodIn_of _ (by decide +kernel)) ggX5_mixParty_X1_figure
set_option maxRecDepth 20000 in
theorem ggX5_mixParty_X5_mix : GoodIn wsX5_mixParty wsX5_mix := goodIn_s [16, 17] (by rfl) (by decide +kernel)
set_option maxRecDepth 20000 in
theorem gX5_mixParty_X5_mix : GoodIn wsX5_mixParty (va_wsS RX5 270 yX5_mix wsX5_mix) := goodIn_app (goodIn_of _ (by decide +kernel)) ggX5_mixParty_X5_mix
set_option maxRecDepth 20000 in
theorem ggX5_mixParty_X1_shareSeats : GoodIn wsX5_mixParty wsX1_shareSeats := goodIn_s [21, 22, 23, 24, 25, 6, 26, 8, 27, 28, 29, 30, 31, 12, 32, 33, 34, 35, 36, 37, 38, 39, 57, 58, 59, 60, 61, 62, 63, 64, 65] (by rfl) (by decide +kernel)
set_option maxRecDepth 20000 in
theorem gX5_mixParty_X1_shareSeats : GoodIn wsX5_mixParty (wsV RX5 285 RX1 yX1_shareSeats wsX1_shareSeats) := goodIn_app (goodIn_of _ (by decide +kernel)) ggX5_mixParty_X1_shareSeats
set_option maxRecDepth 20000 in
theorem ggX5_mixParty_X1_swingsOf : GoodIn wsX5_mixParty wsX1_swingsOf := goodIn_s [43, 44, 45, 46, 6, 47, 48, 49, 50, 51, 22, 57, 58, 59, 60, 61, 62, 63, 64, 65] (by rfl) (by decide +kernel)
set_option maxRecDepth 20000 in
theorem gX5_mixParty_X1_swingsOf : GoodIn wsX5_mixParty (wsV RX5 235 RX1 yX1_swingsOf wsX1_swingsOf) := goodIn_app (goodIn_of _ (by decide +kernel)) ggX5_mixParty_X1_swingsOf
theorem dX5_mixParty_0 : decode cX5_mixParty 0 = .ok (.lload_n 1, 1) := by decide +kernel
theorem dX5_mixParty_1 : decode cX5_mixParty 1 = .ok (.lstore 4, 2) := by decide +kernel
theorem dX5_mixParty_3 : decode cX5_mixParty 3 = .ok (.iconst 0, 1) := by decide +kernel
theorem dX5_mixParty_4 : decode cX5_mixParty 4 = .ok (.istore 6, 2) := by decide +kernel
theorem dX5_mixParty_6 : decode cX5_mixParty 6 = .ok (.iload 6, 2) := by decide +kernel
theorem dX5_mixParty_8 : decode cX5_mixParty 8 = .ok (.iconst 4, 1) := by decide +kernel
theorem dX5_mixParty_9 : decode cX5_mixParty 9 = .ok (.if_icmp .gt 27, 3) := by decide +kernel
theorem dX5_mixParty_12 : decode cX5_mixParty 12 = .ok (.lload 4, 2) := by decide +kernel
theorem dX5_mixParty_14 : decode cX5_mixParty 14 = .ok (.aload_n 0, 1) := by decide +kernel
theorem dX5_mixParty_15 : decode cX5_mixParty 15 = .ok (.getfield 33, 3) := by decide +kernel
theorem dX5_mixParty_18 : decode cX5_mixParty 18 = .ok (.iload_n 3, 1) := by decide +kernel
theorem dX5_mixParty_19 : decode cX5_mixParty 19 = .ok (.iload 6, 2) := by decide +kernel
theorem dX5_mixParty_21 : decode cX5_mixParty 21 = .ok (.invokevirtual 217, 3) := by decide +kernel
theorem dX5_mixParty_24 : decode cX5_mixParty 24 = .ok (.i2l, 1) := by decide +kernel
theorem dX5_mixParty_25 : decode cX5_mixParty 25 = .ok (.invokestatic 270, 3) := by decide +kernel
theorem dX5_mixParty_28 : decode cX5_mixParty 28 = .ok (.lstore 4, 2) := by decide +kernel
theorem dX5_mixParty_30 : decode cX5_mixParty 30 = .ok (.iinc 6 1, 3) := by decide +kernel
theorem dX5_mixParty_33 : decode cX5_mixParty 33 = .ok (.goto (-27), 3) := by decide +kernel
theorem dX5_mixParty_36 : decode cX5_mixParty 36 = .ok (.iconst 0, 1) := by decide +kernel
theorem dX5_mixParty_37 : decode cX5_mixParty 37 = .ok (.istore 6, 2) := by decide +kernel
theorem dX5_mixParty_39 : decode cX5_mixParty 39 = .ok (.iload 6, 2) := by decide +kernel
theorem dX5_mixParty_41 : decode cX5_mixParty 41 = .ok (.iconst 2, 1) := by decide +kernel
theorem dX5_mixParty_42 : decode cX5_mixParty 42 = .ok (.if_icmp .gt 55, 3) := by decide +kernel
theorem dX5_mixParty_45 : decode cX5_mixParty 45 = .ok (.aload_n 0, 1) := by decide +kernel
theorem dX5_mixParty_46 : decode cX5_mixParty 46 = .ok (.getfield 33, 3) := by decide +kernel
theorem dX5_mixParty_49 : decode cX5_mixParty 49 = .ok (.bipush 20, 2) := by decide +kernel
theorem dX5_mixParty_51 : decode cX5_mixParty 51 = .ok (.iload 6, 2) := by decide +kernel
theorem dX5_mixParty_53 : decode cX5_mixParty 53 = .ok (.invokevirtual 285, 3) := by decide +kernel
theorem dX5_mixParty_56 : decode cX5_mixParty 56 = .ok (.lload 4, 2) := by decide +kernel
theorem dX5_mixParty_58 : decode cX5_mixParty 58 = .ok (.aload_n 0, 1) := by decide +kernel
theorem dX5_mixParty_59 : decode cX5_mixParty 59 = .ok (.getfield 33, 3) := by decide +kernel
theorem dX5_mixParty_62 : decode cX5_mixParty 62 = .ok (.getfield 229, 3) := by decide +kernel
theorem dX5_mixParty_65 : decode cX5_mixParty 65 = .ok (.iload_n 3, 1) := by decide +kernel
theorem dX5_mixParty_66 : decode cX5_mixParty 66 = .ok (.iaload, 1) := by decide +kernel
theorem dX5_mixParty_67 : decode cX5_mixParty 67 = .ok (.i2l, 1) := by decide +kernel
theorem dX5_mixParty_68 : decode cX5_mixParty 68 = .ok (.invokestatic 270, 3) := by decide +kernel
theorem dX5_mixParty_71 : decode cX5_mixParty 71 = .ok (.lstore 4, 2) := by decide +kernel
theorem dX5_mixParty_73 : decode cX5_mixParty 73 = .ok (.lload 4, 2) := by decide +kernel
theorem dX5_mixParty_75 : decode cX5_mixParty 75 = .ok (.aload_n 0, 1) := by decide +kernel
theorem dX5_mixParty_76 : decode cX5_mixParty 76 = .ok (.getfield 33, 3) := by decide +kernel
theorem dX5_mixParty_79 : decode cX5_mixParty 79 = .ok (.iload_n 3, 1) := by decide +kernel
theorem dX5_mixParty_80 : decode cX5_mixParty 80 = .ok (.bipush 20, 2) := by decide +kernel
theorem dX5_mixParty_82 : decode cX5_mixParty 82 = .ok (.invokevirtual 235, 3) := by decide +kernel
theorem dX5_mixParty_85 : decode cX5_mixParty 85 = .ok (.i2l, 1) := by decide +kernel
theorem dX5_mixParty_86 : decode cX5_mixParty 86 = .ok (.invokestatic 270, 3) := by decide +kernel
theorem dX5_mixParty_89 : decode cX5_mixParty 89 = .ok (.lstore 4, 2) := by decide +kernel
theorem dX5_mixParty_91 : decode cX5_mixParty 91 = .ok (.iinc 6 1, 3) := by decide +kernel
theorem dX5_mixParty_94 : decode cX5_mixParty 94 = .ok (.goto (-55), 3) := by decide +kernel
theorem dX5_mixParty_97 : decode cX5_mixParty 97 = .ok (.lload 4, 2) := by decide +kernel
theorem dX5_mixParty_99 : decode cX5_mixParty 99 = .ok (.lreturn, 1) := by decide +kernel
set_option maxRecDepth 20000 in
theorem ggX5_shareHouse_X1_countVotes : GoodIn wsX5_shareHouse wsX1_countVotes := goodIn_s [7, 8, 9, 10, 11, 12, 13, 14, 15, 16, 17, 18, 19, 20, 21, 22, 23, 24, 25, 26, 54, 55, 56, 57, 58, 59, 60, 61, 62, 63, 64, 65, 66, 67, 68, 69, 70, 71, 72, 73, 74, 75, 76, 77, 78, 79, 80] (by rfl) (by decide +kernel)
set_option maxRecDepth 20000 in
theorem gX5_shareHouse_X1_countVotes : GoodIn wsX5_shareHouse (wsV RX5 133 RX1 yX1_countVotes wsX1_countVotes) := goodIn_app (goodIn_of _ (by decide +kernel)) ggX5_shareHouse_X1_countVotes
set_option maxRecDepth 20000 in
theorem ggX5_shareHouse_X1_shareSeats : GoodIn wsX5_shareHouse wsX1_shareSeats := goodIn_s [30, 31, 32, 33, 34, 6, 35, 9, 36, 37, 38, 39, 40, 17, 41, 42, 43, 44, 45, 46, 47, 48, 54, 55, 56, 57, 58, 59, 60, 61, 62] (by rfl) (by decide +kernel)
set_option maxRecDepth 20000 in
theorem gX5_shareHouse_X1_shareSeats : GoodIn wsX5_shareHouse (wsV RX5 285 RX1 yX1_shareSeats wsX1_shareSeats) := goodIn_app (goodIn_of _ (by decide +kernel)) ggX5_shareHouse_X1_shareSeats
theorem dX5_shareHouse_0 : decode cX5_shareHouse 0 = .ok (.aload_n 0, 1) := by decide +kernel
theorem dX5_shareHouse_1 : decode cX5_shareHouse 1 = .ok (.getfield 33, 3) := by decide +kernel
theorem dX5_shareHouse_4 : decode cX5_shareHouse 4 = .ok (.aload_n 0, 1) := by decide +kernel
theorem dX5_shareHouse_5 : decode cX5_shareHouse 5 = .ok (.getfield 10, 3) := by decide +kernel
theorem dX5_shareHouse_8 : decode cX5_shareHouse 8 = .ok (.invokevirtual 133, 3) := by decide +kernel
theorem dX5_shareHouse_11 : decode cX5_shareHouse 11 = .ok (.aload_n 0, 1) := by decide +kernel
theorem dX5_shareHouse_12 : decode cX5_shareHouse 12 = .ok (.getfield 33, 3) := by decide +kernel
theorem dX5_shareHouse_15 : decode cX5_shareHouse 15 = .ok (.iload_n 1, 1) := by decide +kernel
theorem dX5_shareHouse_16 : decode cX5_shareHouse 16 = .ok (.iload_n 2, 1) := by decide +kernel
theorem dX5_shareHouse_17 : decode cX5_shareHouse 17 = .ok (.invokevirtual 285, 3) := by decide +kernel
theorem dX5_shareHouse_20 : decode cX5_shareHouse 20 = .ok (.return_, 1) := by decide +kernel
theorem dX5_isParty_0 : decode cX5_isParty 0 = .ok (.iload_n 0, 1) := by decide +kernel
theorem dX5_isParty_1 : decode cX5_isParty 1 = .ok (.ifCond .lt 12, 3) := by decide +kernel
theorem dX5_isParty_4 : decode cX5_isParty 4 = .ok (.iload_n 0, 1) := by decide +kernel
theorem dX5_isParty_5 : decode cX5_isParty 5 = .ok (.iconst 4, 1) := by decide +kernel
theorem dX5_isParty_6 : decode cX5_isParty 6 = .ok (.if_icmp .ge 7, 3) := by decide +kernel
theorem dX5_isParty_9 : decode cX5_isParty 9 = .ok (.iconst 1, 1) := by decide +kernel
theorem dX5_isParty_10 : decode cX5_isParty 10 = .ok (.goto 4, 3) := by decide +kernel
theorem dX5_isParty_13 : decode cX5_isParty 13 = .ok (.iconst 0, 1) := by decide +kernel
theorem dX5_isParty_14 : decode cX5_isParty 14 = .ok (.ireturn, 1) := by decide +kernel
theorem dX5_checkCandidate_0 : decode cX5_checkCandidate 0 = .ok (.iload_n 1, 1) := by decide +kernel
theorem dX5_checkCandidate_1 : decode cX5_checkCandidate 1 = .ok (.ifCond .lt 14, 3) := by decide +kernel
theorem dX5_checkCandidate_4 : decode cX5_checkCandidate 4 = .ok (.iload_n 1, 1) := by decide +kernel
theorem dX5_checkCandidate_5 : decode cX5_checkCandidate 5 = .ok (.aload_n 0, 1) := by decide +kernel
theorem dX5_checkCandidate_6 : decode cX5_checkCandidate 6 = .ok (.getfield 10, 3) := by decide +kernel
theorem dX5_checkCandidate_9 : decode cX5_checkCandidate 9 = .ok (.getfield 55, 3) := by decide +kernel
theorem dX5_checkCandidate_12 : decode cX5_checkCandidate 12 = .ok (.if_icmp .lt 14, 3) := by decide +kernel
theorem dX5_checkCandidate_15 : decode cX5_checkCandidate 15 = .ok (.new 294, 3) := by decide +kernel
theorem dX5_checkCandidate_18 : decode cX5_checkCandidate 18 = .ok (.dup, 1) := by decide +kernel
theorem dX5_checkCandidate_19 : decode cX5_checkCandidate 19 = .ok (.ldc_w 296, 3) := by decide +kernel
theorem dX5_checkCandidate_22 : decode cX5_checkCandidate 22 = .ok (.invokespecial 298, 3) := by decide +kernel
theorem dX5_checkCandidate_25 : decode cX5_checkCandidate 25 = .ok (.athrow, 1) := by decide +kernel
theorem dX5_checkCandidate_26 : decode cX5_checkCandidate 26 = .ok (.return_, 1) := by decide +kernel
theorem dX5_checkDistrict_0 : decode cX5_checkDistrict 0 = .ok (.iload_n 1, 1) := by decide +kernel
theorem dX5_checkDistrict_1 : decode cX5_checkDistrict 1 = .ok (.ifCond .lt 14, 3) := by decide +kernel
theorem dX5_checkDistrict_4 : decode cX5_checkDistrict 4 = .ok (.iload_n 1, 1) := by decide +kernel
theorem dX5_checkDistrict_5 : decode cX5_checkDistrict 5 = .ok (.aload_n 0, 1) := by decide +kernel
theorem dX5_checkDistrict_6 : decode cX5_checkDistrict 6 = .ok (.getfield 10, 3) := by decide +kernel
theorem dX5_checkDistrict_9 : decode cX5_checkDistrict 9 = .ok (.getfield 86, 3) := by decide +kernel
theorem dX5_checkDistrict_12 : decode cX5_checkDistrict 12 = .ok (.if_icmp .lt 14, 3) := by decide +kernel
theorem dX5_checkDistrict_15 : decode cX5_checkDistrict 15 = .ok (.new 294, 3) := by decide +kernel
theorem dX5_checkDistrict_18 : decode cX5_checkDistrict 18 = .ok (.dup, 1) := by decide +kernel
theorem dX5_checkDistrict_19 : decode cX5_checkDistrict 19 = .ok (.ldc_w 299, 3) := by decide +kernel
theorem dX5_checkDistrict_22 : decode cX5_checkDistrict 22 = .ok (.invokespecial 298, 3) := by decide +kernel
theorem dX5_checkDistrict_25 : decode cX5_checkDistrict 25 = .ok (.athrow, 1) := by decide +kernel
theorem dX5_checkDistrict_26 : decode cX5_checkDistrict 26 = .ok (.return_, 1) := by decide +kernel
theorem dX5_checkStack_0 : decode cX5_checkStack 0 = .ok (.iload_n 1, 1) := by decide +kernel
theorem dX5_checkStack_1 : decode cX5_checkStack 1 = .ok (.ifCond .lt 14, 3) := by decide +kernel
theorem dX5_checkStack_4 : decode cX5_checkStack 4 = .ok (.iload_n 1, 1) := by decide +kernel
theorem dX5_checkStack_5 : decode cX5_checkStack 5 = .ok (.aload_n 0, 1) := by decide +kernel
theorem dX5_checkStack_6 : decode cX5_checkStack 6 = .ok (.getfield 10, 3) := by decide +kernel
theorem dX5_checkStack_9 : decode cX5_checkStack 9 = .ok (.getfield 106, 3) := by decide +kernel
theorem dX5_checkStack_12 : decode cX5_checkStack 12 = .ok (.if_icmp .lt 14, 3) := by decide +kernel
theorem dX5_checkStack_15 : decode cX5_checkStack 15 = .ok (.new 294, 3) := by decide +kernel
theorem dX5_checkStack_18 : decode cX5_checkStack 18 = .ok (.dup, 1) := by decide +kernel
theorem dX5_checkStack_19 : decode cX5_checkStack 19 = .ok (.ldc_w 301, 3) := by decide +kernel
theorem dX5_checkStack_22 : decode cX5_checkStack 22 = .ok (.invokespecial 298, 3) := by decide +kernel
theorem dX5_checkStack_25 : decode cX5_checkStack 25 = .ok (.athrow, 1) := by decide +kernel
theorem dX5_checkStack_26 : decode cX5_checkStack 26 = .ok (.return_, 1) := by decide +kernel
set_option maxRecDepth 20000 in
theorem ggX5_checkParty_X5_isParty : GoodIn wsX5_checkParty wsX5_isParty := goodIn_s [6] (by rfl) (by decide +kernel)
set_option maxRecDepth 20000 in
theorem gX5_checkParty_X5_isParty : GoodIn wsX5_checkParty (va_wsS RX5 44 yX5_isParty wsX5_isParty) := goodIn_app (goodIn_of _ (by decide +kernel)) ggX5_checkParty_X5_isParty
theorem dX5_checkParty_0 : decode cX5_checkParty 0 = .ok (.iload_n 0, 1) := by decide +kernel
theorem dX5_checkParty_1 : decode cX5_checkParty 1 = .ok (.invokestatic 44, 3) := by decide +kernel
theorem dX5_checkParty_4 : decode cX5_checkParty 4 = .ok (.ifCond .ne 13, 3) := by decide +kernel
theorem dX5_checkParty_7 : decode cX5_checkParty 7 = .ok (.new 294, 3) := by decide +kernel
theorem dX5_checkParty_10 : decode cX5_checkParty 10 = .ok (.dup, 1) := by decide +kernel
theorem dX5_checkParty_11 : decode cX5_checkParty 11 = .ok (.ldc 50, 2) := by decide +kernel
theorem dX5_checkParty_13 : decode cX5_checkParty 13 = .ok (.invokespecial 298, 3) := by decide +kernel
theorem dX5_checkParty_16 : decode cX5_checkParty 16 = .ok (.athrow, 1) := by decide +kernel
theorem dX5_checkParty_17 : decode cX5_checkParty 17 = .ok (.return_, 1) := by decide +kernel
theorem dX5_checkRanks_0 : decode cX5_checkRanks 0 = .ok (.iload_n 0, 1) := by decide +kernel
theorem dX5_checkRanks_1 : decode cX5_checkRanks 1 = .ok (.iconst 1, 1) := by decide +kernel
theorem dX5_checkRanks_2 : decode cX5_checkRanks 2 = .ok (.if_icmp .lt 10, 3) := by decide +kernel
theorem dX5_checkRanks_5 : decode cX5_checkRanks 5 = .ok (.iload_n 0, 1) := by decide +kernel
theorem dX5_checkRanks_6 : decode cX5_checkRanks 6 = .ok (.ldc_w 303, 3) := by decide +kernel
theorem dX5_checkRanks_9 : decode cX5_checkRanks 9 = .ok (.if_icmp .le 14, 3) := by decide +kernel
theorem dX5_checkRanks_12 : decode cX5_checkRanks 12 = .ok (.new 48, 3) := by decide +kernel
theorem dX5_checkRanks_15 : decode cX5_checkRanks 15 = .ok (.dup, 1) := by decide +kernel
theorem dX5_checkRanks_16 : decode cX5_checkRanks 16 = .ok (.ldc_w 304, 3) := by decide +kernel
theorem dX5_checkRanks_19 : decode cX5_checkRanks 19 = .ok (.invokespecial 52, 3) := by decide +kernel
theorem dX5_checkRanks_22 : decode cX5_checkRanks 22 = .ok (.athrow, 1) := by decide +kernel
theorem dX5_checkRanks_23 : decode cX5_checkRanks 23 = .ok (.return_, 1) := by decide +kernel
theorem dX5_checkCount_0 : decode cX5_checkCount 0 = .ok (.iload_n 0, 1) := by decide +kernel
theorem dX5_checkCount_1 : decode cX5_checkCount 1 = .ok (.iconst 1, 1) := by decide +kernel
theorem dX5_checkCount_2 : decode cX5_checkCount 2 = .ok (.if_icmp .lt 10, 3) := by decide +kernel
theorem dX5_checkCount_5 : decode cX5_checkCount 5 = .ok (.iload_n 0, 1) := by decide +kernel
theorem dX5_checkCount_6 : decode cX5_checkCount 6 = .ok (.sipush 500, 3) := by decide +kernel
theorem dX5_checkCount_9 : decode cX5_checkCount 9 = .ok (.if_icmp .le 14, 3) := by decide +kernel
theorem dX5_checkCount_12 : decode cX5_checkCount 12 = .ok (.new 48, 3) := by decide +kernel
theorem dX5_checkCount_15 : decode cX5_checkCount 15 = .ok (.dup, 1) := by decide +kernel
theorem dX5_checkCount_16 : decode cX5_checkCount 16 = .ok (.ldc_w 306, 3) := by decide +kernel
theorem dX5_checkCount_19 : decode cX5_checkCount 19 = .ok (.invokespecial 52, 3) := by decide +kernel
theorem dX5_checkCount_22 : decode cX5_checkCount 22 = .ok (.athrow, 1) := by decide +kernel
theorem dX5_checkCount_23 : decode cX5_checkCount 23 = .ok (.return_, 1) := by decide +kernel
theorem dX5_checkWhat_0 : decode cX5_checkWhat 0 = .ok (.iload_n 0, 1) := by decide +kernel
theorem dX5_checkWhat_1 : decode cX5_checkWhat 1 = .ok (.ifCond .lt 8, 3) := by decide +kernel
theorem dX5_checkWhat_4 : decode cX5_checkWhat 4 = .ok (.iload_n 0, 1) := by decide +kernel
theorem dX5_checkWhat_5 : decode cX5_checkWhat 5 = .ok (.iload_n 1, 1) := by decide +kernel
theorem dX5_checkWhat_6 : decode cX5_checkWhat 6 = .ok (.if_icmp .le 14, 3) := by decide +kernel
theorem dX5_checkWhat_9 : decode cX5_checkWhat 9 = .ok (.new 48, 3) := by decide +kernel
theorem dX5_checkWhat_12 : decode cX5_checkWhat 12 = .ok (.dup, 1) := by decide +kernel
theorem dX5_checkWhat_13 : decode cX5_checkWhat 13 = .ok (.ldc_w 308, 3) := by decide +kernel
theorem dX5_checkWhat_16 : decode cX5_checkWhat 16 = .ok (.invokespecial 52, 3) := by decide +kernel
theorem dX5_checkWhat_19 : decode cX5_checkWhat 19 = .ok (.athrow, 1) := by decide +kernel
theorem dX5_checkWhat_20 : decode cX5_checkWhat 20 = .ok (.return_, 1) := by decide +kernel
theorem dX5_checkWay_0 : decode cX5_checkWay 0 = .ok (.iload_n 0, 1) := by decide +kernel
theorem dX5_checkWay_1 : decode cX5_checkWay 1 = .ok (.ifCond .lt 8, 3) := by decide +kernel
theorem dX5_checkWay_4 : decode cX5_checkWay 4 = .ok (.iload_n 0, 1) := by decide +kernel
theorem dX5_checkWay_5 : decode cX5_checkWay 5 = .ok (.iconst 3, 1) := by decide +kernel
theorem dX5_checkWay_6 : decode cX5_checkWay 6 = .ok (.if_icmp .le 14, 3) := by decide +kernel
theorem dX5_checkWay_9 : decode cX5_checkWay 9 = .ok (.new 48, 3) := by decide +kernel
theorem dX5_checkWay_12 : decode cX5_checkWay 12 = .ok (.dup, 1) := by decide +kernel
theorem dX5_checkWay_13 : decode cX5_checkWay 13 = .ok (.ldc_w 310, 3) := by decide +kernel
theorem dX5_checkWay_16 : decode cX5_checkWay 16 = .ok (.invokespecial 52, 3) := by decide +kernel
theorem dX5_checkWay_19 : decode cX5_checkWay 19 = .ok (.athrow, 1) := by decide +kernel
theorem dX5_checkWay_20 : decode cX5_checkWay 20 = .ok (.return_, 1) := by decide +kernel
theorem dX5_checkHouse_0 : decode cX5_checkHouse 0 = .ok (.iload_n 0, 1) := by decide +kernel
theorem dX5_checkHouse_1 : decode cX5_checkHouse 1 = .ok (.iconst 1, 1) := by decide +kernel
theorem dX5_checkHouse_2 : decode cX5_checkHouse 2 = .ok (.if_icmp .lt 9, 3) := by decide +kernel
theorem dX5_checkHouse_5 : decode cX5_checkHouse 5 = .ok (.iload_n 0, 1) := by decide +kernel
theorem dX5_checkHouse_6 : decode cX5_checkHouse 6 = .ok (.bipush 60, 2) := by decide +kernel
theorem dX5_checkHouse_8 : decode cX5_checkHouse 8 = .ok (.if_icmp .le 14, 3) := by decide +kernel
theorem dX5_checkHouse_11 : decode cX5_checkHouse 11 = .ok (.new 48, 3) := by decide +kernel
theorem dX5_checkHouse_14 : decode cX5_checkHouse 14 = .ok (.dup, 1) := by decide +kernel
theorem dX5_checkHouse_15 : decode cX5_checkHouse 15 = .ok (.ldc_w 312, 3) := by decide +kernel
theorem dX5_checkHouse_18 : decode cX5_checkHouse 18 = .ok (.invokespecial 52, 3) := by decide +kernel
theorem dX5_checkHouse_21 : decode cX5_checkHouse 21 = .ok (.athrow, 1) := by decide +kernel
theorem dX5_checkHouse_22 : decode cX5_checkHouse 22 = .ok (.return_, 1) := by decide +kernel
theorem dX5_checkRule_0 : decode cX5_checkRule 0 = .ok (.iload_n 0, 1) := by decide +kernel
theorem dX5_checkRule_1 : decode cX5_checkRule 1 = .ok (.ifCond .lt 8, 3) := by decide +kernel
theorem dX5_checkRule_4 : decode cX5_checkRule 4 = .ok (.iload_n 0, 1) := by decide +kernel
theorem dX5_checkRule_5 : decode cX5_checkRule 5 = .ok (.iconst 2, 1) := by decide +kernel
theorem dX5_checkRule_6 : decode cX5_checkRule 6 = .ok (.if_icmp .le 14, 3) := by decide +kernel
theorem dX5_checkRule_9 : decode cX5_checkRule 9 = .ok (.new 48, 3) := by decide +kernel
theorem dX5_checkRule_12 : decode cX5_checkRule 12 = .ok (.dup, 1) := by decide +kernel
theorem dX5_checkRule_13 : decode cX5_checkRule 13 = .ok (.ldc_w 314, 3) := by decide +kernel
theorem dX5_checkRule_16 : decode cX5_checkRule 16 = .ok (.invokespecial 52, 3) := by decide +kernel
theorem dX5_checkRule_19 : decode cX5_checkRule 19 = .ok (.athrow, 1) := by decide +kernel
theorem dX5_checkRule_20 : decode cX5_checkRule 20 = .ok (.return_, 1) := by decide +kernel
theorem dX5_checkOpen_0 : decode cX5_checkOpen 0 = .ok (.aload_n 0, 1) := by decide +kernel
theorem dX5_checkOpen_1 : decode cX5_checkOpen 1 = .ok (.getfield 10, 3) := by decide +kernel
theorem dX5_checkOpen_4 : decode cX5_checkOpen 4 = .ok (.getfield 141, 3) := by decide +kernel
theorem dX5_checkOpen_7 : decode cX5_checkOpen 7 = .ok (.ifCond .eq 14, 3) := by decide +kernel
theorem dX5_checkOpen_10 : decode cX5_checkOpen 10 = .ok (.new 59, 3) := by decide +kernel
theorem dX5_checkOpen_13 : decode cX5_checkOpen 13 = .ok (.dup, 1) := by decide +kernel
theorem dX5_checkOpen_14 : decode cX5_checkOpen 14 = .ok (.ldc_w 316, 3) := by decide +kernel
theorem dX5_checkOpen_17 : decode cX5_checkOpen 17 = .ok (.invokespecial 63, 3) := by decide +kernel
theorem dX5_checkOpen_20 : decode cX5_checkOpen 20 = .ok (.athrow, 1) := by decide +kernel
theorem dX5_checkOpen_21 : decode cX5_checkOpen 21 = .ok (.return_, 1) := by decide +kernel
theorem dJ6_bitCount_0f7a4_0 : decode cJ6_bitCount_0f7a4 0 = .ok (.iload_n 0, 1) := by decide +kernel
theorem dJ6_bitCount_0f7a4_1 : decode cJ6_bitCount_0f7a4 1 = .ok (.iload_n 0, 1) := by decide +kernel
theorem dJ6_bitCount_0f7a4_2 : decode cJ6_bitCount_0f7a4 2 = .ok (.iconst 1, 1) := by decide +kernel
theorem dJ6_bitCount_0f7a4_3 : decode cJ6_bitCount_0f7a4 3 = .ok (.iushr, 1) := by decide +kernel
theorem dJ6_bitCount_0f7a4_4 : decode cJ6_bitCount_0f7a4 4 = .ok (.ldc_w 265, 3) := by decide +kernel
theorem dJ6_bitCount_0f7a4_7 : decode cJ6_bitCount_0f7a4 7 = .ok (.iand, 1) := by decide +kernel
theorem dJ6_bitCount_0f7a4_8 : decode cJ6_bitCount_0f7a4 8 = .ok (.isub, 1) := by decide +kernel
theorem dJ6_bitCount_0f7a4_9 : decode cJ6_bitCount_0f7a4 9 = .ok (.istore_n 0, 1) := by decide +kernel
theorem dJ6_bitCount_0f7a4_10 : decode cJ6_bitCount_0f7a4 10 = .ok (.iload_n 0, 1) := by decide +kernel
theorem dJ6_bitCount_0f7a4_11 : decode cJ6_bitCount_0f7a4 11 = .ok (.ldc_w 266, 3) := by decide +kernel
theorem dJ6_bitCount_0f7a4_14 : decode cJ6_bitCount_0f7a4 14 = .ok (.iand, 1) := by decide +kernel
theorem dJ6_bitCount_0f7a4_15 : decode cJ6_bitCount_0f7a4 15 = .ok (.iload_n 0, 1) := by decide +kernel
theorem dJ6_bitCount_0f7a4_16 : decode cJ6_bitCount_0f7a4 16 = .ok (.iconst 2, 1) := by decide +kernel
theorem dJ6_bitCount_0f7a4_17 : decode cJ6_bitCount_0f7a4 17 = .ok (.iushr, 1) := by decide +kernel
theorem dJ6_bitCount_0f7a4_18 : decode cJ6_bitCount_0f7a4 18 = .ok (.ldc_w 266, 3) := by decide +kernel
theorem dJ6_bitCount_0f7a4_21 : decode cJ6_bitCount_0f7a4 21 = .ok (.iand, 1) := by decide +kernel
theorem dJ6_bitCount_0f7a4_22 : decode cJ6_bitCount_0f7a4 22 = .ok (.iadd, 1) := by decide +kernel
theorem dJ6_bitCount_0f7a4_23 : decode cJ6_bitCount_0f7a4 23 = .ok (.istore_n 0, 1) := by decide +kernel
theorem dJ6_bitCount_0f7a4_24 : decode cJ6_bitCount_0f7a4 24 = .ok (.iload_n 0, 1) := by decide +kernel
theorem dJ6_bitCount_0f7a4_25 : decode cJ6_bitCount_0f7a4 25 = .ok (.iload_n 0, 1) := by decide +kernel
theorem dJ6_bitCount_0f7a4_26 : decode cJ6_bitCount_0f7a4 26 = .ok (.iconst 4, 1) := by decide +kernel
theorem dJ6_bitCount_0f7a4_27 : decode cJ6_bitCount_0f7a4 27 = .ok (.iushr, 1) := by decide +kernel
theorem dJ6_bitCount_0f7a4_28 : decode cJ6_bitCount_0f7a4 28 = .ok (.iadd, 1) := by decide +kernel
theorem dJ6_bitCount_0f7a4_29 : decode cJ6_bitCount_0f7a4 29 = .ok (.ldc_w 267, 3) := by decide +kernel
theorem dJ6_bitCount_0f7a4_32 : decode cJ6_bitCount_0f7a4 32 = .ok (.iand, 1) := by decide +kernel
theorem dJ6_bitCount_0f7a4_33 : decode cJ6_bitCount_0f7a4 33 = .ok (.istore_n 0, 1) := by decide +kernel
theorem dJ6_bitCount_0f7a4_34 : decode cJ6_bitCount_0f7a4 34 = .ok (.iload_n 0, 1) := by decide +kernel
theorem dJ6_bitCount_0f7a4_35 : decode cJ6_bitCount_0f7a4 35 = .ok (.iload_n 0, 1) := by decide +kernel
theorem dJ6_bitCount_0f7a4_36 : decode cJ6_bitCount_0f7a4 36 = .ok (.bipush 8, 2) := by decide +kernel
theorem dJ6_bitCount_0f7a4_38 : decode cJ6_bitCount_0f7a4 38 = .ok (.iushr, 1) := by decide +kernel
theorem dJ6_bitCount_0f7a4_39 : decode cJ6_bitCount_0f7a4 39 = .ok (.iadd, 1) := by decide +kernel
theorem dJ6_bitCount_0f7a4_40 : decode cJ6_bitCount_0f7a4 40 = .ok (.istore_n 0, 1) := by decide +kernel
theorem dJ6_bitCount_0f7a4_41 : decode cJ6_bitCount_0f7a4 41 = .ok (.iload_n 0, 1) := by decide +kernel
theorem dJ6_bitCount_0f7a4_42 : decode cJ6_bitCount_0f7a4 42 = .ok (.iload_n 0, 1) := by decide +kernel
theorem dJ6_bitCount_0f7a4_43 : decode cJ6_bitCount_0f7a4 43 = .ok (.bipush 16, 2) := by decide +kernel
theorem dJ6_bitCount_0f7a4_45 : decode cJ6_bitCount_0f7a4 45 = .ok (.iushr, 1) := by decide +kernel
theorem dJ6_bitCount_0f7a4_46 : decode cJ6_bitCount_0f7a4 46 = .ok (.iadd, 1) := by decide +kernel
theorem dJ6_bitCount_0f7a4_47 : decode cJ6_bitCount_0f7a4 47 = .ok (.istore_n 0, 1) := by decide +kernel
theorem dJ6_bitCount_0f7a4_48 : decode cJ6_bitCount_0f7a4 48 = .ok (.iload_n 0, 1) := by decide +kernel
theorem dJ6_bitCount_0f7a4_49 : decode cJ6_bitCount_0f7a4 49 = .ok (.bipush 63, 2) := by decide +kernel
theorem dJ6_bitCount_0f7a4_51 : decode cJ6_bitCount_0f7a4 51 = .ok (.iand, 1) := by decide +kernel
theorem dJ6_bitCount_0f7a4_52 : decode cJ6_bitCount_0f7a4 52 = .ok (.ireturn, 1) := by decide +kernel
theorem dJ9_max_7cf53_0 : decode cJ9_max_7cf53 0 = .ok (.iload_n 0, 1) := by decide +kernel
theorem dJ9_max_7cf53_1 : decode cJ9_max_7cf53 1 = .ok (.iload_n 1, 1) := by decide +kernel
theorem dJ9_max_7cf53_2 : decode cJ9_max_7cf53 2 = .ok (.if_icmp .lt 7, 3) := by decide +kernel
theorem dJ9_max_7cf53_5 : decode cJ9_max_7cf53 5 = .ok (.iload_n 0, 1) := by decide +kernel
theorem dJ9_max_7cf53_6 : decode cJ9_max_7cf53 6 = .ok (.goto 4, 3) := by decide +kernel
theorem dJ9_max_7cf53_9 : decode cJ9_max_7cf53 9 = .ok (.iload_n 1, 1) := by decide +kernel
theorem dJ9_max_7cf53_10 : decode cJ9_max_7cf53 10 = .ok (.ireturn, 1) := by decide +kernel
theorem dJ9_min_7cf53_0 : decode cJ9_min_7cf53 0 = .ok (.iload_n 0, 1) := by decide +kernel
theorem dJ9_min_7cf53_1 : decode cJ9_min_7cf53 1 = .ok (.iload_n 1, 1) := by decide +kernel
theorem dJ9_min_7cf53_2 : decode cJ9_min_7cf53 2 = .ok (.if_icmp .gt 7, 3) := by decide +kernel
theorem dJ9_min_7cf53_5 : decode cJ9_min_7cf53 5 = .ok (.iload_n 0, 1) := by decide +kernel
theorem dJ9_min_7cf53_6 : decode cJ9_min_7cf53 6 = .ok (.goto 4, 3) := by decide +kernel
theorem dJ9_min_7cf53_9 : decode cJ9_min_7cf53 9 = .ok (.iload_n 1, 1) := by decide +kernel
theorem dJ9_min_7cf53_10 : decode cJ9_min_7cf53 10 = .ok (.ireturn, 1) := by decide +kernel
abbrev vwCl : List vw_C := [(RJ0, TJ0, 4), (RJ4, TJ4, 4), (RX0, TX0, 11), (RX1, TX1, 9), (RX2, TX2, 7), (RX3, TX3, 7), (RX4, TX4, 3), (RX5, TX5, 5), (RX6, TX6, 9)]
end
section
/-- a method's start: the cells, their classes, apart -/
def pr_ (dC : Nat → ClassId) (dI : Nat → Nat → Nat) (ws : va_W) (tys : List (ClassId × FieldType)) (sz : Nat) (U : State) : Prop := U.heap.size = sz ∧ va_P (dC, dI) vwCl ws U.heap ∧ va_K (dC, dI) vwCl tys U ∧ va_D (fun _ => True) ws
/-- a method's end -/
def po_ (dC : Nat → ClassId) (dI : Nat → Nat → Nat) (ws : va_W) (tys : List (ClassId × FieldType)) (A : Nat → Prop) (t : State) : Prop := va_P (dC, dI) vwCl ws t.heap ∧ va_K (dC, dI) vwCl tys t ∧ va_D A ws
theorem pr_blind {dC : Nat → ClassId} {dI : Nat → Nat → Nat} {ws : va_W} {tys : List (ClassId × FieldType)} {sz : Nat} {av : List Value} : FrameBlind (va_Pc av (pr_ dC dI ws tys sz)) := fun a U g mk q => by
  obtain ⟨q0, q1, qP, qK, qD⟩ := q
  exact ⟨q0, q1, qP, va_K.moved (u := U) (U := U.calling g mk a) (Vm.Alike.refl U.vm) qK, qD⟩
theorem pe_blind {dC : Nat → ClassId} {dI : Nat → Nat → Nat} {ws : va_W} {tys : List (ClassId × FieldType)} {sz : Nat} {av : List Value} {E : State → Prop} (hE : ∀ (U : State) (g : JFrame) (mk : MethodId) (a : Array Value), E U → E (U.calling g mk a)) : FrameBlind (va_Pc av (fun U => pr_ dC dI ws tys sz U ∧ E U)) := fun a U g mk q => by
  obtain ⟨q0, ⟨q1, qP, qK, qD⟩, x1⟩ := q
  exact ⟨q0, ⟨q1, qP, va_K.moved (u := U) (U := U.calling g mk a) (Vm.Alike.refl U.vm) qK, qD⟩, hE U g mk a x1⟩
theorem pr_mk {dC : Nat → ClassId} {dI : Nat → Nat → Nat} {ws : va_W} {tys : List (ClassId × FieldType)} {s U : State} {H : Heap} {A : Nat → Prop} (hU : U.heap = H) (hW : s.WarmedH U.vm) (hP : va_P (dC, dI) vwCl ws H) (hK : va_K (dC, dI) vwCl tys s) (hD : va_D A ws) : pr_ dC dI ws tys H.size U :=
  ⟨by rw [hU], by rw [hU]; exact hP, va_K.moved hW.alike hK, hD.weaken (fun _ _ _ _ => trivial)⟩
theorem po_mk {dC : Nat → ClassId} {dI : Nat → Nat → Nat} {ws : va_W} {tys : List (ClassId × FieldType)} {s t : State} {H : Heap} {A : Nat → Prop} (ht : t.heap = H) (hW : s.WarmedH t.vm) (hP : va_P (dC, dI) vwCl ws H) (hK : va_K (dC, dI) vwCl tys s) (hD : va_D A ws) : po_ dC dI ws tys A t :=
  ⟨by rw [ht]; exact hP, va_K.moved hW.alike hK, hD⟩
/-! p31: a box's cells as one world: numbers by cell and place (Mem), addresses by cell (aa). -/
abbrev Mem : Type := (Nat → Nat → Int32) × (Nat → Nat → UInt64)
abbrev ix (i : Int32) : Nat := i.toNatClampNeg
def si (Z : Mem) (i j : Nat) (v : Int32) : Mem := (fun a => if a = i then upd (Z.1 i) j v else Z.1 a, Z.2)
def sd (Z : Mem) (i j : Nat) (v : UInt64) : Mem := (Z.1, fun a => if a = i then vf_upd (Z.2 i) j v else Z.2 a)
/-- what a walk leaves to be said: a number by its name, a bound, a branch, a call -/
def bv {α β : Type} (x : α) (f : α → Option β) : Option β := f x
def gd {β : Type} (c : Prop) [Decidable c] (x : Option β) : Option β := if c then x else none
def br {β : Type} (c : Prop) [Decidable c] (x y : Option β) : Option β := if c then x else y
def cal {T β : Type} (x : Option (Mem × T)) (f : Mem → T → Option β) : Option β := match x with
  | some r => f r.1 r.2
  | none => none
def calp {T β : Type} (x : Option T) (f : T → Option β) : Option β := match x with
  | some r => f r
  | none => none
theorem bv_some {α β : Type} {x : α} {f : α → Option β} {r : β} (h : bv x f = some r) : ∃ y, y = x ∧ f y = some r := ⟨x, rfl, h⟩
theorem bv_at {α β : Type} {x y : α} {f : α → Option β} {r : β} (e : y = x) (h : bv x f = some r) : f y = some r := by
  subst e
  exact h
theorem gd_some {β : Type} {c : Prop} [Decidable c] {x : Option β} {r : β} (h : gd c x = some r) : c ∧ x = some r := by
  unfold gd at h
  split at h
  · exact ⟨‹c›, h⟩
  · cases h
theorem br_pos {β : Type} {c : Prop} [Decidable c] {x y : Option β} {r : β} (hc : c) (h : br c x y = some r) : x = some r := by
  unfold br at h
  rw [if_pos hc] at h
  exact h
theorem br_neg {β : Type} {c : Prop} [Decidable c] {x y : Option β} {r : β} (hc : ¬ c) (h : br c x y = some r) : y = some r := by
  unfold br at h
  rw [if_neg hc] at h
  exact h
theorem cal_some {T β : Type} {x : Option (Mem × T)} {f : Mem → T → Option β} {r : β} (h : cal x f = some r) : ∃ (Z : Mem) (t : T), x = some (Z, t) ∧ f Z t = some r := by
  unfold cal at h
  cases x with
  | none => cases h
  | some v => exact ⟨v.1, v.2, rfl, h⟩
theorem calp_some {T β : Type} {x : Option T} {f : T → Option β} {r : β} (h : calp x f = some r) : ∃ t : T, x = some t ∧ f t = some r := by
  unfold calp at h
  cases x with
  | none => cases h
  | some v => exact ⟨v, rfl, h⟩
theorem some2 {T : Type} {Z Z9 : Mem} {r r9 : T} (h : some (Z, r) = some (Z9, r9)) : Z9 = Z ∧ r9 = r := by
  cases h
  exact ⟨rfl, rfl⟩
theorem some1 {T : Type} {r r9 : T} (h : some r = some r9) : r9 = r := by
  cases h
  rfl
theorem ii_ (x n : Int32) (k : Int) (h : Int32.ofInt k = n) : x + Int32.ofInt k = x + n := by rw [h]
def bk0 (q : Nat → ClassId) (aa : Nat → Nat) : Nat → (Nat → Int32) → va_E
  | 0, _ => .inr (7, [.ref (aa 1), .ref (aa 6), .ref (aa 26), .ref (aa 30), .ref (aa 100)])
  | 1, f => .inr (2, [.ref (aa 2), .ref (aa 3), .int (f 2), .int (f 3), .ref (aa 4), .int (f 5), .ref (aa 5), .int (f 7), .int (f 8), .int (f 9), .int (f 10)])
  | 2, f => .inl (q 0, 6, .inl f)
  | 3, f => .inl (q 1, 6, .inl f)
  | 4, f => .inl (q 0, 4, .inl f)
  | 5, _ => .inl (q 3, 24, .inr (.inr (.inr (.inr (fun k => if k < 24 then some (aa (39 + k)) else none)))))
  | 6, _ => .inr (4, [.ref (aa 7), .ref (aa 8), .ref (aa 9), .ref (aa 10), .ref (aa 11), .ref (aa 12), .ref (aa 13)])
  | 9, _ => .inl (q 4, 6, .inr (.inr (.inr (.inr (fun k => if k < 6 then some (aa (14 + k)) else none)))))
  | 10, _ => .inl (q 4, 6, .inr (.inr (.inr (.inr (fun k => if k < 6 then some (aa (20 + k)) else none)))))
  | 12, f => .inl (q 1, 6, .inl f)
  | 26, _ => .inr (6, [.ref (aa 27), .ref (aa 28), .ref (aa 29)])
  | 27, f => .inl (q 0, 5, .inl f)
  | 28, f => .inl (q 1, 6, .inl f)
  | 30, f => .inr (3, [.ref (aa 31), .int (f 1), .ref (aa 32), .ref (aa 33), .ref (aa 34), .ref (aa 35), .ref (aa 36), .ref (aa 37), .ref (aa 38)])
  | 31, f => .inl (q 0, 4, .inl f)
  | 32, f => .inl (q 0, 4, .inl f)
  | 33, f => .inl (q 1, 4, .inl f)
  | 34, f => .inl (q 0, 4, .inl f)
  | 35, f => .inl (q 0, 4, .inl f)
  | 36, f => .inl (q 0, 4, .inl f)
  | 37, f => .inl (q 0, 4, .inl f)
  | 38, f => .inl (q 0, 4, .inl f)
  | _, f => .inl (q 0, 6, .inl f)
/-- a cell: its numbers f, its doubles g -/
def bk (q : Nat → ClassId) (aa : Nat → Nat) (i : Nat) (f : Nat → Int32) (g : Nat → UInt64) : va_E :=
  if i < 39 then (if i = 8 then .inl (q 2, 6, .inr (.inr (.inr (.inl g)))) else if i = 29 then .inl (q 2, 6, .inr (.inr (.inr (.inl g)))) else bk0 q aa i f)
  else if i < 64 then .inr (5, [.int (f 0), .int (f 1), .int (f 2), .int (f 3), .ref (aa (i + 25)), .int (f 5), .double (g 6)])
  else .inl (q 0, 6, .inl f)
def bw (q : Nat → ClassId) (aa : Nat → Nat) (Z : Mem) : va_W := (List.range 89).map (fun i => (aa i, bk q aa i (Z.1 i) (Z.2 i)))
abbrev bty (q : Nat → ClassId) : List (ClassId × FieldType) := [(q 0, .int), (q 1, .boolean), (q 2, .double), (q 3, .object "BallotLoom$Stack"), (q 4, .array .int)]
section WG
variable {p : Program} {l : Launch} {e : Env} {R : Room} {s : State} {m : MethodId} {args : Array Value} {below : List Frame} {meth : Method} {c : Code} {Q : State → Prop}
theorem w_go {cells slots : Nat} {H : Heap} {locs : List Loc} {g : JFrame} (k : ∀ Q' : State → Prop, Q' = Q → W p l e R s m args below meth c H locs cells slots Q' g) : W p l e R s m args below meth c H locs cells slots Q g := k Q rfl
theorem w_ent {cells slots n : Nat} {H : Heap} {locs : List Loc} {av : List Value} (h : args = av.toArray) (k : W p l e R s m args below meth c H locs cells slots Q (entryFrame m av.toArray n)) : W p l e R s m args below meth c H locs cells slots Q (entryFrame m args n) := by
  subst h
  exact k
/-- a place of a row of references -/
theorem bq_ald {pc : Nat} {cells slots : Nat} {H : Heap} {locs : List Loc} {ls : Array Slot} {rest : List Value} {a : Nat} {D : va_G} {cl : List vw_C} {tys : List (ClassId × FieldType)} {ws : va_W} {cc : ByteArray} (hexec : p.tables.exec = Jvm.exec) (hb : c.code = cc) (hK : va_K D cl tys s) (hP : va_P D cl ws H) (q0 t0 : Nat) {cA : ClassId} {ty : FieldType} {n v : Nat} {f : Nat → Option Nat} (ha : ws[q0]? = some (a, .inl (cA, n, .inr (.inr (.inr (.inr f)))))) (ht : tys[t0]? = some (cA, ty)) {i : Int32} (hin : vp_in i n) (hf : f (ix i) = some v) (hdg : decode cc pc = .ok (.aaload, 1))
    (kk : W p l e R s m args below meth c H locs cells slots Q (F0 m (pc + 1) ls (.ref v :: rest))) : W p l e R s m args below meth c H locs cells slots Q (F0 m pc ls (.int i :: .ref a :: rest)) := by
  have hlt : i.toNatClampNeg < n := Nat.not_le.mp fun q => hin (Or.inr q)
  have hf2 : va_rf (f i.toNatClampNeg) = .ref v := by rw [show f i.toNatClampNeg = some v from hf]; rfl
  rw [← hf2] at kk
  exact W.aald (v := va_rf (f i.toNatClampNeg)) (ty := ty) hexec hb (hP q0 _ ha) ((hK.2 t0 _ ht).1 n (fun j => va_rf (f j))) rfl (fun q => by cases q) (by show ¬ (i < 0 ∨ (arrV _ _ _).slots.size ≤ _); rw [arrV_size]; exact hin) (by show (arrV _ _ _).slots[_]? = _; rw [arrV_read _ _ hlt]) rfl rfl hdg kk
theorem nar_b {x : Int32} (h : vp_nar .boolean x = x) : narrow .boolean (.int x) = .int x := by
  unfold vp_nar at h
  unfold narrow at h ⊢
  simp only at h ⊢
  rw [h]
end WG
theorem i32_of_toInt {x : Int32} {k : Int} (h : x.toInt = k) : x = Int32.ofInt k := by rw [← h, Int32.ofInt_toInt]
/-- a switch's other numbers -/
theorem sw_out (hi : Nat) {x : Int32} (h : ∀ k : Nat, k ≤ hi → True → ¬ x = Int32.ofInt k) : x.toInt < 0 ∨ (hi : Int) < x.toInt := by
  by_cases h1 : x.toInt < 0
  · exact Or.inl h1
  · refine Or.inr (Int.not_le.mp fun h2 => ?_)
    refine h x.toInt.toNat (by omega) trivial ?_
    rw [Int.toNat_of_nonneg (by omega), Int32.ofInt_toInt]
section BW
variable {q : Nat → ClassId} {aa : Nat → Nat} {Z Z1 : Mem}
theorem bk_stk {k : Nat} (h : k < 25) (f : Nat → Int32) (g : Nat → UInt64) : bk q aa (39 + k) f g = .inr (5, [.int (f 0), .int (f 1), .int (f 2), .int (f 3), .ref (aa (64 + k)), .int (f 5), .double (g 6)]) := by
  unfold bk
  rw [if_neg (by omega), if_pos (by omega), show 39 + k + 25 = 64 + k by omega]
theorem bk_lst {k : Nat} (h : k < 25) (f : Nat → Int32) (g : Nat → UInt64) : bk q aa (64 + k) f g = .inl (q 0, 6, .inl f) := by
  unfold bk
  rw [if_neg (by omega), if_neg (by omega)]
theorem bk_row {b k : Nat} (hb : b = 14 ∨ b = 20) (h : k < 6) (f : Nat → Int32) (g : Nat → UInt64) : bk q aa (b + k) f g = .inl (q 0, 6, .inl f) := by
  unfold bk
  rw [if_pos (by omega), if_neg (by omega), if_neg (by omega)]
  have h6 : k = 0 ∨ k = 1 ∨ k = 2 ∨ k = 3 ∨ k = 4 ∨ k = 5 := by omega
  rcases hb with rfl | rfl <;> rcases h6 with rfl | rfl | rfl | rfl | rfl | rfl <;> rfl
theorem bw_at {i : Nat} (h : i < 89) {e : va_E} (he : bk q aa i (Z.1 i) (Z.2 i) = e) : (bw q aa Z)[i]? = some (aa i, e) := by
  unfold bw
  rw [List.getElem?_map, List.getElem?_range h, ← he]
  rfl
theorem bw_set {i : Nat} {e : va_E} (he : bk q aa i (Z1.1 i) (Z1.2 i) = e) (h1 : ∀ j, j ≠ i → Z1.1 j = Z.1 j) (h2 : ∀ j, j ≠ i → Z1.2 j = Z.2 j) : (bw q aa Z).set i (aa i, e) = bw q aa Z1 := by
  apply List.ext_getElem?
  intro k
  rw [List.getElem?_set]
  unfold bw
  rw [List.length_map, List.length_range, List.getElem?_map, List.getElem?_map]
  by_cases hk : i = k
  · subst hk
    rw [if_pos rfl]
    by_cases h89 : i < 89
    · rw [if_pos h89, List.getElem?_range h89, ← he]
      rfl
    · rw [if_neg h89, List.getElem?_eq_none (by rw [List.length_range]; omega)]
      rfl
  · rw [if_neg hk]
    by_cases h89 : k < 89
    · rw [List.getElem?_range h89]
      simp only [Option.map_some]
      rw [h1 k (fun h => hk h.symm), h2 k (fun h => hk h.symm)]
    · rw [List.getElem?_eq_none (by rw [List.length_range]; omega)]
theorem at_i {i n : Nat} {c : ClassId} (h : i < 89) (hc : ∀ f g, bk q aa i f g = .inl (c, n, .inl f)) : (bw q aa Z)[i]? = some (aa i, .inl (c, n, .inl (Z.1 i))) := bw_at h (hc _ _)
theorem at_d {i n : Nat} {c : ClassId} (h : i < 89) (hc : ∀ f g, bk q aa i f g = .inl (c, n, .inr (.inr (.inr (.inl g))))) : (bw q aa Z)[i]? = some (aa i, .inl (c, n, .inr (.inr (.inr (.inl (Z.2 i)))))) := bw_at h (hc _ _)
theorem at_q {i n : Nat} {c : ClassId} {r : Nat → Option Nat} (h : i < 89) (hc : ∀ f g, bk q aa i f g = .inl (c, n, .inr (.inr (.inr (.inr r))))) : (bw q aa Z)[i]? = some (aa i, .inl (c, n, .inr (.inr (.inr (.inr r))))) := bw_at h (hc _ _)
theorem wz_i {i n j : Nat} {v : Int32} {c : ClassId} (hc : ∀ f g, bk q aa i f g = .inl (c, n, .inl f)) (e : Z1 = si Z i j v) : (bw q aa Z).set i (aa i, .inl (c, n, .inl (upd (Z.1 i) j v))) = bw q aa Z1 := by
  subst e
  refine bw_set ?_ (fun k hk => ?_) (fun k hk => rfl)
  · rw [hc]
    unfold si
    simp
  · unfold si
    exact if_neg hk
theorem wz_d {i n j : Nat} {v : UInt64} {c : ClassId} (hc : ∀ f g, bk q aa i f g = .inl (c, n, .inr (.inr (.inr (.inl g))))) (e : Z1 = sd Z i j v) : (bw q aa Z).set i (aa i, .inl (c, n, .inr (.inr (.inr (.inl (vf_upd (Z.2 i) j v)))))) = bw q aa Z1 := by
  subst e
  refine bw_set ?_ (fun k hk => rfl) (fun k hk => ?_)
  · rw [hc]
    unfold sd
    simp
  · unfold sd
    exact if_neg hk
/-- a number of an object's -/
theorem wz_o {i j ci : Nat} {v : Int32} {fs : List Value} (hc : bk q aa i (upd (Z.1 i) j v) (Z.2 i) = .inr (ci, fs)) (e : Z1 = si Z i j v) : (bw q aa Z).set i (aa i, .inr (ci, fs)) = bw q aa Z1 := by
  subst e
  refine bw_set ?_ (fun k hk => ?_) (fun k hk => rfl)
  · unfold si
    simp only [if_pos]
    exact hc
  · unfold si
    exact if_neg hk
theorem wz_od {i j ci : Nat} {v : UInt64} {fs : List Value} (hc : bk q aa i (Z.1 i) (vf_upd (Z.2 i) j v) = .inr (ci, fs)) (e : Z1 = sd Z i j v) : (bw q aa Z).set i (aa i, .inr (ci, fs)) = bw q aa Z1 := by
  subst e
  refine bw_set ?_ (fun k hk => rfl) (fun k hk => ?_)
  · unfold sd
    simp only [if_pos]
    exact hc
  · unfold sd
    exact if_neg hk
theorem in_lt {i : Int32} {n m : Nat} (h : ¬ (i < 0 ∨ n ≤ ix i)) (hm : n ≤ m) : ix i < m := Nat.lt_of_lt_of_le (Nat.not_le.mp fun h9 => h (Or.inr h9)) hm
theorem b_free {A : Nat → Prop} {ws : va_W} {H0 H : Heap} {locs : List Loc} (hD : va_D A ws) (hS : va_S A H0 H locs) (hA : ∀ x, H0.size ≤ x → A x) : ∀ x, va_A ws H.size x → A x := by
  intro x hx
  rcases hx with ⟨k, e, hk⟩ | h
  · exact hD.2 k _ hk
  · exact hA x (Nat.le_trans hS.1 h)

/-- a stack and the spare one change places -/
def tw (k i : Nat) : Nat := if i = 39 + k then 63 else if i = 63 then 39 + k else if i = 64 + k then 88 else if i = 88 then 64 + k else i
def sw (k : Nat) (aa : Nat → Nat) : Nat → Nat := fun i => aa (tw k i)
def swz (k : Nat) (Z : Mem) : Mem := (fun i => Z.1 (tw k i), fun i => Z.2 (tw k i))
theorem tw_lo {k i : Nat} (hk : k < 24) (hi : i < 39) : tw k i = i := by
  unfold tw
  rw [if_neg (by omega), if_neg (by omega), if_neg (by omega), if_neg (by omega)]
theorem tw_100 {k : Nat} (hk : k < 24) : tw k 100 = 100 := by
  unfold tw
  rw [if_neg (by omega), if_neg (by omega), if_neg (by omega), if_neg (by omega)]
theorem tw_lt {k i : Nat} (hk : k < 24) (hi : i < 89) : tw k i < 89 := by
  unfold tw
  repeat' split
  all_goals omega
theorem tw_tw {k i : Nat} (hk : k < 24) : tw k (tw k i) = i := by
  unfold tw
  repeat' split
  all_goals omega
theorem tw_stk {k i : Nat} (hk : k < 24) (h1 : 39 ≤ i) (h2 : i < 64) : tw k (i + 25) = tw k i + 25 ∧ 39 ≤ tw k i ∧ tw k i < 64 := by
  unfold tw
  repeat' split
  all_goals omega
theorem tw_lst {k i : Nat} (hk : k < 24) (h1 : 64 ≤ i) : 64 ≤ tw k i := by
  unfold tw
  repeat' split
  all_goals omega
theorem sw_sw {k : Nat} (hk : k < 24) : sw k (sw k aa) = aa := by
  funext i
  unfold sw
  rw [tw_tw hk]
theorem sw_lo {k i : Nat} (hk : k < 24) (hi : i < 39) : sw k aa i = aa i := by unfold sw; rw [tw_lo hk hi]
theorem sw_100 {k : Nat} (hk : k < 24) : sw k aa 100 = aa 100 := by unfold sw; rw [tw_100 hk]
theorem sw_24 {k : Nat} (_ : k < 24) : sw k aa (39 + 24) = aa (39 + k) := by
  unfold sw tw
  rw [if_neg (by omega), if_pos rfl]
theorem sw_k {k : Nat} (_ : k < 24) : sw k aa (39 + k) = aa (39 + 24) := by
  unfold sw tw
  rw [if_pos rfl]
theorem bk0_congr {ab : Nat → Nat} (h : ∀ n, n < 39 ∨ n = 100 → ab n = aa n) (i : Nat) (hi : i ≠ 5) (f : Nat → Int32) : bk0 q ab i f = bk0 q aa i f := by
  have e14 : (fun k => if k < 6 then some (ab (14 + k)) else none) = (fun k => if k < 6 then some (aa (14 + k)) else none) := by
    funext k
    by_cases hk : k < 6
    · rw [if_pos hk, if_pos hk, h _ (by omega)]
    · rw [if_neg hk, if_neg hk]
  have e20 : (fun k => if k < 6 then some (ab (20 + k)) else none) = (fun k => if k < 6 then some (aa (20 + k)) else none) := by
    funext k
    by_cases hk : k < 6
    · rw [if_pos hk, if_pos hk, h _ (by omega)]
    · rw [if_neg hk, if_neg hk]
  have hh : ∀ n, (n < 39 ∨ n = 100) → ab n = aa n := h
  unfold bk0
  split
  all_goals first | rfl | (exact absurd rfl hi) | (rw [e14]) | (rw [e20]) | (repeat rw [hh _ (by decide)])
theorem bk_swap {k i : Nat} (hk : k < 24) (hi : i ≠ 5) (f : Nat → Int32) (g : Nat → UInt64) : bk q (sw k aa) i f g = bk q aa (tw k i) f g := by
  by_cases h1 : i < 39
  · rw [tw_lo hk h1]
    unfold bk
    rw [if_pos h1, if_pos h1, bk0_congr (fun n hn => ?_) i hi f]
    rcases hn with hn | rfl
    · exact sw_lo hk hn
    · exact sw_100 hk
  · by_cases h2 : i < 64
    · obtain ⟨a1, a2, a3⟩ := tw_stk hk (by omega) h2
      unfold bk
      rw [if_neg h1, if_pos h2, if_neg (by omega), if_pos a3]
      unfold sw
      rw [a1]
    · have a1 := tw_lst hk (show 64 ≤ i by omega)
      unfold bk
      rw [if_neg h1, if_neg h2, if_neg (by omega), if_neg (by omega)]
theorem bw_get {i : Nat} {e : Nat × va_E} (h : (bw q aa Z)[i]? = some e) : i < 89 ∧ e = (aa i, bk q aa i (Z.1 i) (Z.2 i)) := by
  unfold bw at h
  rw [List.getElem?_map] at h
  by_cases hi : i < 89
  · rw [List.getElem?_range hi] at h
    exact ⟨hi, (Option.some.inj h).symm⟩
  · rw [List.getElem?_eq_none (by rw [List.length_range]; omega)] at h
    cases h
theorem b_swapG {k v : Nat} (hk : k < 24) (hv : v = aa (39 + 24)) (i : Nat) (e : Nat × va_E) (h : (bw q (sw k aa) (swz k Z))[i]? = some e) : ((bw q aa Z).set 5 (aa 5, .inl (q 3, 24, .inr (.inr (.inr (.inr (va_up (fun j => if j < 24 then some (aa (39 + j)) else none) k (some v)))))))) [tw k i]? = some e := by
  obtain ⟨hi, rfl⟩ := bw_get h
  subst hv
  by_cases h5 : i = 5
  · subst h5
    rw [tw_lo hk (by decide), List.getElem?_set]
    rw [if_pos rfl, if_pos (by unfold bw; rw [List.length_map, List.length_range]; decide)]
    have e1 : sw k aa 5 = aa 5 := sw_lo hk (by decide)
    rw [e1]
    have e2 : (va_up (fun j => if j < 24 then some (aa (39 + j)) else none) k (some (aa (39 + 24)))) = (fun j => if j < 24 then some (sw k aa (39 + j)) else none) := by
      funext j
      unfold va_up
      by_cases hj : j = k
      · subst hj
        rw [if_pos rfl, if_pos hk, sw_k hk]
      · rw [if_neg hj]
        by_cases hj2 : j < 24
        · rw [if_pos hj2, if_pos hj2]
          unfold sw tw
          rw [if_neg (by omega), if_neg (by omega), if_neg (by omega), if_neg (by omega)]
        · rw [if_neg hj2, if_neg hj2]
    rw [e2]
    rfl
  · have h6 : tw k i ≠ 5 := by
      intro h7
      have h8 := tw_tw (i := i) hk
      rw [h7, tw_lo hk (by decide)] at h8
      exact h5 h8.symm
    rw [List.getElem?_set, if_neg (fun h9 => h6 h9.symm), bk_swap hk h5]
    exact bw_at (tw_lt hk hi) rfl
theorem b_swap {k v : Nat} {D : va_G} {cl : List vw_C} {H : Heap} (hk : k < 24) (hv : v = aa (39 + 24)) (h : va_P D cl ((bw q aa Z).set 5 (aa 5, .inl (q 3, 24, .inr (.inr (.inr (.inr (va_up (fun j => if j < 24 then some (aa (39 + j)) else none) k (some v)))))))) H) : va_P D cl (bw q (sw k aa) (swz k Z)) H := h.by (tw k) (b_swapG hk hv)
theorem b_swapD {k v : Nat} {A : Nat → Prop} (hk : k < 24) (hv : v = aa (39 + 24)) (h : va_D A ((bw q aa Z).set 5 (aa 5, .inl (q 3, 24, .inr (.inr (.inr (.inr (va_up (fun j => if j < 24 then some (aa (39 + j)) else none) k (some v))))))))) : va_D A (bw q (sw k aa) (swz k Z)) := by
  refine ⟨fun i j p r hp hr e => ?_, fun i p hp => h.2 _ p (b_swapG hk hv i p hp)⟩
  have h1 := h.1 _ _ p r (b_swapG hk hv i p hp) (b_swapG hk hv j r hr) e
  have h2 := congrArg (tw k) h1
  rwa [tw_tw hk, tw_tw hk] at h2
end BW
end
section
/-! p31: 11.stack (laid by wip/gen31/bgen.py) -/
def F_J6_bitCount_0f7a4 (Z : Mem) (xa : Int32) : Option Int32 :=
  bv ((xa.toUInt32 >>> ((1 : Int32).toUInt32 &&& Int32.toUInt32 31)).toInt32) fun y1 => bv (y1 &&& (1431655765 : Int32)) fun y2 => bv (xa - y2) fun y3 => bv (y3 &&& (858993459 : Int32)) fun y4 => bv ((y3.toUInt32 >>> ((2 : Int32).toUInt32 &&& Int32.toUInt32 31)).toInt32) fun y5 => bv (y5 &&& (858993459 : Int32)) fun y6 => bv (y4 + y6) fun y7 => bv ((y7.toUInt32 >>> ((4 : Int32).toUInt32 &&& Int32.toUInt32 31)).toInt32) fun y8 => bv (y7 + y8) fun y9 => bv (y9 &&& (252645135 : Int32)) fun y10 => bv ((y10.toUInt32 >>> ((8 : Int32).toUInt32 &&& Int32.toUInt32 31)).toInt32) fun y11 => bv (y10 + y11) fun y12 => bv ((y12.toUInt32 >>> ((16 : Int32).toUInt32 &&& Int32.toUInt32 31)).toInt32) fun y13 => bv (y12 + y13) fun y14 => bv (y14 &&& (63 : Int32)) fun y15 => some y15

set_option maxHeartbeats 4000000 in
set_option maxRecDepth 100000 in
theorem c_J6_bitCount_0f7a4 (l : Launch) (dC : Nat → ClassId) (dI : Nat → Nat → Nat) (q : Nat → ClassId) (aa : Nat → Nat) (Z : Mem) (xa : Int32)  (sz : Nat) (r9 : Int32) (hF : F_J6_bitCount_0f7a4 Z xa = some r9) : Met l yJ6_bitCount_0f7a4 wsJ6_bitCount_0f7a4 ({ frames := 2, cells := 0, slots := 0, locals := 40 }) (va_Pc [.int xa] (pr_ dC dI (bw q aa Z) (bty q) sz)) (va_Qi (fun (r : Int32) (_ : Unit) => r = r9) (fun (_ : Unit) t => po_ dC dI (bw q aa Z) (bty q) (va_A (bw q aa Z) sz) t) (va_A (bw q aa Z) sz)) 0 0 (va_A (bw q aa Z) sz) := by
  refine Met.ofW (cc := cJ6_bitCount_0f7a4) (maxL := 1) (ret := (some .int)) (by decide) rfl ?_
  intro p e s m args below meth c s₁ B hml hv
  obtain ⟨hargs, hsz, hP, hK, hD0⟩ := hv
  have hx := B.exec
  have hb := B.bytes
  have hr := B.returns
  have hts := atoms_spec (ws := wsJ6_bitCount_0f7a4) B.pre
  have hown : s.vm.findClass RJ6 = some m.cls := findClass_of_methodNamed B.named
  subst hsz
  have hD := hD0.self (sz := s.heap.size)
  generalize hAe : va_A (bw q aa Z) s.heap.size = A at hD ⊢
  have hA : ∀ x : Nat, s.heap.size ≤ x → A x := fun x h => by rw [← hAe]; exact Or.inr h
  have hS : va_S A s.heap s.heap [] := va_S.rf
  have hl := lv_entry ([.int xa]) (n := 1) (Nat.le_of_ble_eq_true rfl)
  refine w_ent hargs ?_
  rw [lg_entry_eq]
  generalize (lg_sl ([.int xa]) ++ List.replicate (1 - (lg_sl ([.int xa])).length) Slot.unset).toArray = ls at hl ⊢
  have hl : lv_has ls 1 [(0, .int xa)] := hl
  unfold F_J6_bitCount_0f7a4 at hF
  refine w_go (fun Q hQ => ?_)
  refine lv_iload_n hx hb dJ6_bitCount_0f7a4_0 rfl (lv_at hl 0 rfl) ?_
  refine lv_iload_n hx hb dJ6_bitCount_0f7a4_1 rfl (lv_at hl 0 rfl) ?_
  refine lv_iconst (v := 1) hx hb dJ6_bitCount_0f7a4_2 (by decide) ?_
  refine lv_iushr hx hb dJ6_bitCount_0f7a4_3 rfl ?_
  refine lv_topi (fun y1 ey1 => ?_)
  have hF := bv_at ey1 hF
  refine lv_ldcw (v := 1431655765) hx hb hown (hts (.constant RJ6 265 1431655765) (by decide +kernel)) dJ6_bitCount_0f7a4_4 ?_
  refine lv_iand hx hb dJ6_bitCount_0f7a4_7 ?_
  refine lv_topi (fun y2 ey2 => ?_)
  have hF := bv_at ey2 hF
  refine lv_isub hx hb dJ6_bitCount_0f7a4_8 ?_
  refine lv_topi (fun y3 ey3 => ?_)
  have hF := bv_at ey3 hF
  refine lv_istore_n (lv' := [(0, .int y3)]) hx hb dJ6_bitCount_0f7a4_9 rfl hl (by decide) rfl (fun ls hl => ?_)
  refine lv_iload_n hx hb dJ6_bitCount_0f7a4_10 rfl (lv_at hl 0 rfl) ?_
  refine lv_ldcw (v := 858993459) hx hb hown (hts (.constant RJ6 266 858993459) (by decide +kernel)) dJ6_bitCount_0f7a4_11 ?_
  refine lv_iand hx hb dJ6_bitCount_0f7a4_14 ?_
  refine lv_topi (fun y4 ey4 => ?_)
  have hF := bv_at ey4 hF
  refine lv_iload_n hx hb dJ6_bitCount_0f7a4_15 rfl (lv_at hl 0 rfl) ?_
  refine lv_iconst (v := 2) hx hb dJ6_bitCount_0f7a4_16 (by decide) ?_
  refine lv_iushr hx hb dJ6_bitCount_0f7a4_17 rfl ?_
  refine lv_topi (fun y5 ey5 => ?_)
  have hF := bv_at ey5 hF
  refine lv_ldcw (v := 858993459) hx hb hown (hts (.constant RJ6 266 858993459) (by decide +kernel)) dJ6_bitCount_0f7a4_18 ?_
  refine lv_iand hx hb dJ6_bitCount_0f7a4_21 ?_
  refine lv_topi (fun y6 ey6 => ?_)
  have hF := bv_at ey6 hF
  refine lv_iadd hx hb dJ6_bitCount_0f7a4_22 ?_
  refine lv_topi (fun y7 ey7 => ?_)
  have hF := bv_at ey7 hF
  refine lv_istore_n (lv' := [(0, .int y7)]) hx hb dJ6_bitCount_0f7a4_23 rfl hl (by decide) rfl (fun ls hl => ?_)
  refine lv_iload_n hx hb dJ6_bitCount_0f7a4_24 rfl (lv_at hl 0 rfl) ?_
  refine lv_iload_n hx hb dJ6_bitCount_0f7a4_25 rfl (lv_at hl 0 rfl) ?_
  refine lv_iconst (v := 4) hx hb dJ6_bitCount_0f7a4_26 (by decide) ?_
  refine lv_iushr hx hb dJ6_bitCount_0f7a4_27 rfl ?_
  refine lv_topi (fun y8 ey8 => ?_)
  have hF := bv_at ey8 hF
  refine lv_iadd hx hb dJ6_bitCount_0f7a4_28 ?_
  refine lv_topi (fun y9 ey9 => ?_)
  have hF := bv_at ey9 hF
  refine lv_ldcw (v := 252645135) hx hb hown (hts (.constant RJ6 267 252645135) (by decide +kernel)) dJ6_bitCount_0f7a4_29 ?_
  refine lv_iand hx hb dJ6_bitCount_0f7a4_32 ?_
  refine lv_topi (fun y10 ey10 => ?_)
  have hF := bv_at ey10 hF
  refine lv_istore_n (lv' := [(0, .int y10)]) hx hb dJ6_bitCount_0f7a4_33 rfl hl (by decide) rfl (fun ls hl => ?_)
  refine lv_iload_n hx hb dJ6_bitCount_0f7a4_34 rfl (lv_at hl 0 rfl) ?_
  refine lv_iload_n hx hb dJ6_bitCount_0f7a4_35 rfl (lv_at hl 0 rfl) ?_
  refine lv_bipush (v := 8) hx hb dJ6_bitCount_0f7a4_36 (by decide) ?_
  refine lv_iushr hx hb dJ6_bitCount_0f7a4_38 rfl ?_
  refine lv_topi (fun y11 ey11 => ?_)
  have hF := bv_at ey11 hF
  refine lv_iadd hx hb dJ6_bitCount_0f7a4_39 ?_
  refine lv_topi (fun y12 ey12 => ?_)
  have hF := bv_at ey12 hF
  refine lv_istore_n (lv' := [(0, .int y12)]) hx hb dJ6_bitCount_0f7a4_40 rfl hl (by decide) rfl (fun ls hl => ?_)
  refine lv_iload_n hx hb dJ6_bitCount_0f7a4_41 rfl (lv_at hl 0 rfl) ?_
  refine lv_iload_n hx hb dJ6_bitCount_0f7a4_42 rfl (lv_at hl 0 rfl) ?_
  refine lv_bipush (v := 16) hx hb dJ6_bitCount_0f7a4_43 (by decide) ?_
  refine lv_iushr hx hb dJ6_bitCount_0f7a4_45 rfl ?_
  refine lv_topi (fun y13 ey13 => ?_)
  have hF := bv_at ey13 hF
  refine lv_iadd hx hb dJ6_bitCount_0f7a4_46 ?_
  refine lv_topi (fun y14 ey14 => ?_)
  have hF := bv_at ey14 hF
  refine lv_istore_n (lv' := [(0, .int y14)]) hx hb dJ6_bitCount_0f7a4_47 rfl hl (by decide) rfl (fun ls hl => ?_)
  refine lv_iload_n hx hb dJ6_bitCount_0f7a4_48 rfl (lv_at hl 0 rfl) ?_
  refine lv_bipush (v := 63) hx hb dJ6_bitCount_0f7a4_49 (by decide) ?_
  refine lv_iand hx hb dJ6_bitCount_0f7a4_51 ?_
  refine lv_topi (fun y15 ey15 => ?_)
  have hF := bv_at ey15 hF
  have e9 := some1 hF
  subst hQ
  exact W.iret (v := y15) hx hb hr (fun t ht hW => ⟨⟨y15, (), rfl, e9.symm, po_mk ht hW hP hK hD⟩, hS.F ht⟩) hS.2.2 dJ6_bitCount_0f7a4_52

def F_X3_countsIn (Z : Mem) (ka : Nat) (xa : Int32) : Option Int32 :=
  bv (Z.1 (39 + ka) 0) fun y1 => br (¬ y1 = xa) (some (0 : Int32)) (bv (Z.1 (39 + ka) 3) fun y3 => br (¬ y3 = (0 : Int32)) (some (0 : Int32)) (some (1 : Int32)))

set_option maxHeartbeats 4000000 in
set_option maxRecDepth 100000 in
theorem c_X3_countsIn (l : Launch) (dC : Nat → ClassId) (dI : Nat → Nat → Nat) (q : Nat → ClassId) (aa : Nat → Nat) (Z : Mem) (ka : Nat) (xa : Int32) (hka : ka < 25) (sz : Nat) (r9 : Int32) (hF : F_X3_countsIn Z ka xa = some r9) : Met l yX3_countsIn wsX3_countsIn ({ frames := 2, cells := 0, slots := 0, locals := 40 }) (va_Pc [.ref (aa (39 + ka)), .int xa] (pr_ dC dI (bw q aa Z) (bty q) sz)) (va_Qi (fun (r : Int32) (_ : Unit) => r = r9) (fun (_ : Unit) t => po_ dC dI (bw q aa Z) (bty q) (va_A (bw q aa Z) sz) t) (va_A (bw q aa Z) sz)) 0 0 (va_A (bw q aa Z) sz) := by
  refine Met.ofW (cc := cX3_countsIn) (maxL := 2) (ret := (some .boolean)) (by decide) rfl ?_
  intro p e s m args below meth c s₁ B hml hv
  obtain ⟨hargs, hsz, hP, hK, hD0⟩ := hv
  have hx := B.exec
  have hb := B.bytes
  have hr := B.returns
  have hts := atoms_spec (ws := wsX3_countsIn) B.pre
  have hown : s.vm.findClass RX3 = some m.cls := findClass_of_methodNamed B.named
  subst hsz
  have hD := hD0.self (sz := s.heap.size)
  generalize hAe : va_A (bw q aa Z) s.heap.size = A at hD ⊢
  have hA : ∀ x : Nat, s.heap.size ≤ x → A x := fun x h => by rw [← hAe]; exact Or.inr h
  have hS : va_S A s.heap s.heap [] := va_S.rf
  have hinX3 : ∀ w ∈ u_ws RX3 TX3 7, w ∈ wsX3_countsIn := by decide +kernel
  have hl := lv_entry ([.ref (aa (39 + ka)), .int xa]) (n := 2) (Nat.le_of_ble_eq_true rfl)
  refine w_ent hargs ?_
  rw [lg_entry_eq]
  generalize (lg_sl ([.ref (aa (39 + ka)), .int xa]) ++ List.replicate (2 - (lg_sl ([.ref (aa (39 + ka)), .int xa])).length) Slot.unset).toArray = ls at hl ⊢
  have hl : lv_has ls 2 [(0, .ref (aa (39 + ka))), (1, .int xa)] := hl
  unfold F_X3_countsIn at hF
  refine w_go (fun Q hQ => ?_)
  refine lv_aload_n hx hb dX3_countsIn_0 rfl (lv_at hl 0 rfl) ?_
  refine va_get (D := (dC, dI)) (ci := 5) (v := .int (Z.1 (39 + ka) 0)) (C := RX3) (T := TX3) (N := 7) hx hb hts hinX3 hown hK hP (39 + ka) (bw_at (i := 39 + ka) (by omega) (bk_stk hka _ _)) rfl 0 (by decide) (hts (.fieldLink RX3 43 "BallotLoom$Stack" "district" "I") (by decide +kernel)) (fun _ h9 => h9) rfl dX3_countsIn_1 ?_
  refine lv_topi (fun y1 ey1 => ?_)
  have hF := bv_at ey1 hF
  refine lv_iload_n hx hb dX3_countsIn_4 rfl (lv_at hl 1 rfl) ?_
  refine lv_icmp_ne (tgt := 19) hx hb dX3_countsIn_5 (by decide) (fun hc2 => ?_) (fun hc2 => ?_)
  · have hF := br_pos hc2 hF
    refine lv_iconst (v := 0) hx hb dX3_countsIn_19 (by decide) ?_
    have e9 := some1 hF
    subst hQ
    exact W.zret (v := 0) hx hb hr rfl (fun t ht hW => ⟨⟨0, (), rfl, e9.symm, po_mk ht hW hP hK hD⟩, hS.F ht⟩) hS.2.2 dX3_countsIn_20
  · have hF := br_neg hc2 hF
    refine lv_aload_n hx hb dX3_countsIn_8 rfl (lv_at hl 0 rfl) ?_
    refine va_get (D := (dC, dI)) (ci := 5) (v := .int (Z.1 (39 + ka) 3)) (C := RX3) (T := TX3) (N := 7) hx hb hts hinX3 hown hK hP (39 + ka) (bw_at (i := 39 + ka) (by omega) (bk_stk hka _ _)) rfl 3 (by decide) (hts (.fieldLink RX3 28 "BallotLoom$Stack" "isSpoiled" "Z") (by decide +kernel)) (fun _ h9 => h9) rfl dX3_countsIn_9 ?_
    refine lv_topi (fun y3 ey3 => ?_)
    have hF := bv_at ey3 hF
    refine lv_if_ne (tgt := 19) hx hb dX3_countsIn_12 (by decide) (fun hc4 => ?_) (fun hc4 => ?_)
    · have hF := br_pos hc4 hF
      refine lv_iconst (v := 0) hx hb dX3_countsIn_19 (by decide) ?_
      have e9 := some1 hF
      subst hQ
      exact W.zret (v := 0) hx hb hr rfl (fun t ht hW => ⟨⟨0, (), rfl, e9.symm, po_mk ht hW hP hK hD⟩, hS.F ht⟩) hS.2.2 dX3_countsIn_20
    · have hF := br_neg hc4 hF
      refine lv_iconst (v := 1) hx hb dX3_countsIn_15 (by decide) ?_
      refine lv_goto (tgt := 20) hx hb dX3_countsIn_16 (by decide) ?_
      have e9 := some1 hF
      subst hQ
      exact W.zret (v := 1) hx hb hr rfl (fun t ht hW => ⟨⟨1, (), rfl, e9.symm, po_mk ht hW hP hK hD⟩, hS.F ht⟩) hS.2.2 dX3_countsIn_20

def F_X3_placeOf_x2 (Z : Mem) (ka : Nat) : Option Int32 :=
  bv (Z.1 (39 + ka) 5) fun y1 => some y1

def F_X3_placeOf_l2 (Z : Mem) (ka : Nat) (xa : Int32) (K_2 : Option Int32) : Nat → Int32 → Option Int32
  | 0, _ => none
  | n2 + 1, u2 =>
  bv (Z.1 (39 + ka) 5) fun y3 => br (y3 ≤ u2) (K_2) (gd (¬ (u2 < 0 ∨ 6 ≤ ix u2)) <| bv (Z.1 (64 + ka) (ix u2)) fun y6 => br (¬ y6 = xa) ((F_X3_placeOf_l2 Z ka xa K_2 n2) (u2 + (1 : Int32))) (some u2))

def F_X3_placeOf (Z : Mem) (ka : Nat) (xa : Int32) : Option Int32 :=
  F_X3_placeOf_l2 Z ka xa (F_X3_placeOf_x2 Z ka) 100 (0 : Int32)

set_option maxHeartbeats 4000000 in
set_option maxRecDepth 100000 in
theorem c_X3_placeOf (l : Launch) (dC : Nat → ClassId) (dI : Nat → Nat → Nat) (q : Nat → ClassId) (aa : Nat → Nat) (Z : Mem) (ka : Nat) (xa : Int32) (hka : ka < 25) (sz : Nat) (r9 : Int32) (hF : F_X3_placeOf Z ka xa = some r9) : Met l yX3_placeOf wsX3_placeOf ({ frames := 2, cells := 0, slots := 0, locals := 40 }) (va_Pc [.ref (aa (39 + ka)), .int xa] (pr_ dC dI (bw q aa Z) (bty q) sz)) (va_Qi (fun (r : Int32) (_ : Unit) => r = r9) (fun (_ : Unit) t => po_ dC dI (bw q aa Z) (bty q) (va_A (bw q aa Z) sz) t) (va_A (bw q aa Z) sz)) 0 0 (va_A (bw q aa Z) sz) := by
  refine Met.ofW (cc := cX3_placeOf) (maxL := 3) (ret := (some .int)) (by decide) rfl ?_
  intro p e s m args below meth c s₁ B hml hv
  obtain ⟨hargs, hsz, hP, hK, hD0⟩ := hv
  have hx := B.exec
  have hb := B.bytes
  have hr := B.returns
  have hts := atoms_spec (ws := wsX3_placeOf) B.pre
  have hown : s.vm.findClass RX3 = some m.cls := findClass_of_methodNamed B.named
  subst hsz
  have hD := hD0.self (sz := s.heap.size)
  generalize hAe : va_A (bw q aa Z) s.heap.size = A at hD ⊢
  have hA : ∀ x : Nat, s.heap.size ≤ x → A x := fun x h => by rw [← hAe]; exact Or.inr h
  have hS : va_S A s.heap s.heap [] := va_S.rf
  have hinX3 : ∀ w ∈ u_ws RX3 TX3 7, w ∈ wsX3_placeOf := by decide +kernel
  have hl := lv_entry ([.ref (aa (39 + ka)), .int xa]) (n := 3) (Nat.le_of_ble_eq_true rfl)
  refine w_ent hargs ?_
  rw [lg_entry_eq]
  generalize (lg_sl ([.ref (aa (39 + ka)), .int xa]) ++ List.replicate (3 - (lg_sl ([.ref (aa (39 + ka)), .int xa])).length) Slot.unset).toArray = ls at hl ⊢
  have hl : lv_has ls 3 [(0, .ref (aa (39 + ka))), (1, .int xa)] := hl
  unfold F_X3_placeOf at hF
  refine w_go (fun Q hQ => ?_)
  refine lv_iconst (v := 0) hx hb dX3_placeOf_0 (by decide) ?_
  refine lv_istore_n (lv' := [(2, .int 0), (0, .ref (aa (39 + ka))), (1, .int xa)]) hx hb dX3_placeOf_1 rfl hl (by decide) rfl (fun ls hl => ?_)
  have Jx2 : ∀  (H : Heap) (locs : List Loc) (ls : Array Slot), (F_X3_placeOf_x2 Z ka) = some r9 → va_P (dC, dI) vwCl (bw q aa Z) H → va_D A (bw q aa Z) → va_S A s.heap H locs → lv_has ls 3 [(0, .ref (aa (39 + ka)))] → W p l e (headSpec wsX3_placeOf ({ frames := 2, cells := 0, slots := 0, locals := 40 } : Room)).room s m args below meth c H locs 0 0 Q (F0 m 28 ls []) := by
    intro  H locs ls hF hP hD hS hl
    unfold F_X3_placeOf_x2 at hF
    refine lv_aload_n hx hb dX3_placeOf_28 rfl (lv_at hl 0 rfl) ?_
    refine va_get (D := (dC, dI)) (ci := 5) (v := .int (Z.1 (39 + ka) 5)) (C := RX3) (T := TX3) (N := 7) hx hb hts hinX3 hown hK hP (39 + ka) (bw_at (i := 39 + ka) (by omega) (bk_stk hka _ _)) rfl 5 (by decide) (hts (.fieldLink RX3 36 "BallotLoom$Stack" "length" "I") (by decide +kernel)) (fun _ h9 => h9) rfl dX3_placeOf_29 ?_
    refine lv_topi (fun y1 ey1 => ?_)
    have hF := bv_at ey1 hF
    have e9 := some1 hF
    subst hQ
    exact W.iret (v := y1) hx hb hr (fun t ht hW => ⟨⟨y1, (), rfl, e9.symm, po_mk ht hW hP hK hD⟩, hS.F ht⟩) hS.2.2 dX3_placeOf_32
  have L2 : ∀ (n2 : Nat) (u2 : Int32) (H : Heap) (locs : List Loc) (ls : Array Slot), F_X3_placeOf_l2 Z ka xa (F_X3_placeOf_x2 Z ka) n2 u2 = some r9 → va_P (dC, dI) vwCl (bw q aa Z) H → va_D A (bw q aa Z) → va_S A s.heap H locs → lv_has ls 3 [(2, .int u2), (0, .ref (aa (39 + ka))), (1, .int xa)] → W p l e (headSpec wsX3_placeOf ({ frames := 2, cells := 0, slots := 0, locals := 40 } : Room)).room s m args below meth c H locs 0 0 Q (F0 m 2 ls []) := by
    intro n2
    induction n2 with
    | zero =>
      intro u2 H locs ls hF
      rw [F_X3_placeOf_l2] at hF
      cases hF
    | succ n2 IH2 =>
      intro u2 H locs ls hF hP hD hS hl
      rw [F_X3_placeOf_l2] at hF
      refine lv_iload_n hx hb dX3_placeOf_2 rfl (lv_at hl 0 rfl) ?_
      refine lv_aload_n hx hb dX3_placeOf_3 rfl (lv_at hl 1 rfl) ?_
      refine va_get (D := (dC, dI)) (ci := 5) (v := .int (Z.1 (39 + ka) 5)) (C := RX3) (T := TX3) (N := 7) hx hb hts hinX3 hown hK hP (39 + ka) (bw_at (i := 39 + ka) (by omega) (bk_stk hka _ _)) rfl 5 (by decide) (hts (.fieldLink RX3 36 "BallotLoom$Stack" "length" "I") (by decide +kernel)) (fun _ h9 => h9) rfl dX3_placeOf_4 ?_
      refine lv_topi (fun y3 ey3 => ?_)
      have hF := bv_at ey3 hF
      refine lv_icmp_ge (tgt := 28) hx hb dX3_placeOf_7 (by decide) (fun hc4 => ?_) (fun hc4 => ?_)
      · have hF := br_pos hc4 hF
        exact Jx2  _ _ _ hF hP hD hS (lv_sub hl [1] rfl)
      · have hF := br_neg hc4 hF
        refine lv_aload_n hx hb dX3_placeOf_10 rfl (lv_at hl 1 rfl) ?_
        refine va_get (D := (dC, dI)) (ci := 5) (v := .ref (aa (64 + ka))) (C := RX3) (T := TX3) (N := 7) hx hb hts hinX3 hown hK hP (39 + ka) (bw_at (i := 39 + ka) (by omega) (bk_stk hka _ _)) rfl 4 (by decide) (hts (.fieldLink RX3 9 "BallotLoom$Stack" "list" "[I") (by decide +kernel)) (fun _ h9 => h9) rfl dX3_placeOf_11 ?_
        refine lv_iload_n hx hb dX3_placeOf_14 rfl (lv_at hl 0 rfl) ?_
        obtain ⟨hg5, hF⟩ := gd_some hF
        refine va_iald hx hb hK hP (64 + ka) 0 (at_i (by omega) (bk_lst hka)) rfl hg5 dX3_placeOf_15 ?_
        refine lv_topi (fun y6 ey6 => ?_)
        have hF := bv_at ey6 hF
        refine lv_iload_n hx hb dX3_placeOf_16 rfl (lv_at hl 2 rfl) ?_
        refine lv_icmp_ne (tgt := 22) hx hb dX3_placeOf_17 (by decide) (fun hc7 => ?_) (fun hc7 => ?_)
        · have hF := br_pos hc7 hF
          refine lv_iinc (k := 0) (v := (u2 + (1 : Int32))) (lv' := [(2, .int (u2 + (1 : Int32))), (0, .ref (aa (39 + ka))), (1, .int xa)]) hx hb dX3_placeOf_22 hl rfl (ii_ _ _ _ (by decide)) (by decide) rfl (fun ls hl => ?_)
          refine lv_goto (tgt := 2) hx hb dX3_placeOf_25 (by decide) ?_
          exact IH2 (u2 + (1 : Int32)) _ _ _ hF hP hD hS (lv_sub hl [0, 1, 2] rfl)
        · have hF := br_neg hc7 hF
          refine lv_iload_n hx hb dX3_placeOf_20 rfl (lv_at hl 0 rfl) ?_
          have e9 := some1 hF
          subst hQ
          exact W.iret (v := u2) hx hb hr (fun t ht hW => ⟨⟨u2, (), rfl, e9.symm, po_mk ht hW hP hK hD⟩, hS.F ht⟩) hS.2.2 dX3_placeOf_21
  exact L2 100 (0 : Int32) _ _ _ hF hP hD hS (lv_sub hl [0, 1, 2] rfl)

def F_X3_firstOf_12_x2  : Option Int32 :=
  some ((-1) : Int32)

def F_X3_firstOf_12_l2 (Z : Mem) (ka : Nat) (K_2 : Option Int32) : Nat → Int32 → Option Int32
  | 0, _ => none
  | n2 + 1, u1 =>
  bv (Z.1 (39 + ka) 5) fun y2 => br (y2 ≤ u1) (K_2) (gd (¬ (u1 < 0 ∨ 6 ≤ ix u1)) <| bv (Z.1 (64 + ka) (ix u1)) fun y5 => gd (¬ (y5 < 0 ∨ 6 ≤ ix y5)) <| bv (Z.1 12 (ix y5)) fun y7 => br (y7 = (0 : Int32)) ((F_X3_firstOf_12_l2 Z ka K_2 n2) (u1 + (1 : Int32))) (bv (Z.1 (64 + ka) (ix u1)) fun y9 => some y9))

def F_X3_firstOf_12 (Z : Mem) (ka : Nat) : Option Int32 :=
  F_X3_firstOf_12_l2 Z ka F_X3_firstOf_12_x2 100 (0 : Int32)

set_option maxHeartbeats 4000000 in
set_option maxRecDepth 100000 in
theorem c_X3_firstOf_12 (l : Launch) (dC : Nat → ClassId) (dI : Nat → Nat → Nat) (q : Nat → ClassId) (aa : Nat → Nat) (Z : Mem) (ka : Nat) (hka : ka < 25) (sz : Nat) (r9 : Int32) (hF : F_X3_firstOf_12 Z ka = some r9) : Met l yX3_firstOf wsX3_firstOf ({ frames := 2, cells := 0, slots := 0, locals := 40 }) (va_Pc [.ref (aa (39 + ka)), .ref (aa 12)] (pr_ dC dI (bw q aa Z) (bty q) sz)) (va_Qi (fun (r : Int32) (_ : Unit) => r = r9) (fun (_ : Unit) t => po_ dC dI (bw q aa Z) (bty q) (va_A (bw q aa Z) sz) t) (va_A (bw q aa Z) sz)) 0 0 (va_A (bw q aa Z) sz) := by
  refine Met.ofW (cc := cX3_firstOf) (maxL := 3) (ret := (some .int)) (by decide) rfl ?_
  intro p e s m args below meth c s₁ B hml hv
  obtain ⟨hargs, hsz, hP, hK, hD0⟩ := hv
  have hx := B.exec
  have hb := B.bytes
  have hr := B.returns
  have hts := atoms_spec (ws := wsX3_firstOf) B.pre
  have hown : s.vm.findClass RX3 = some m.cls := findClass_of_methodNamed B.named
  subst hsz
  have hD := hD0.self (sz := s.heap.size)
  generalize hAe : va_A (bw q aa Z) s.heap.size = A at hD ⊢
  have hA : ∀ x : Nat, s.heap.size ≤ x → A x := fun x h => by rw [← hAe]; exact Or.inr h
  have hS : va_S A s.heap s.heap [] := va_S.rf
  have hinX3 : ∀ w ∈ u_ws RX3 TX3 7, w ∈ wsX3_firstOf := by decide +kernel
  have hl := lv_entry ([.ref (aa (39 + ka)), .ref (aa 12)]) (n := 3) (Nat.le_of_ble_eq_true rfl)
  refine w_ent hargs ?_
  rw [lg_entry_eq]
  generalize (lg_sl ([.ref (aa (39 + ka)), .ref (aa 12)]) ++ List.replicate (3 - (lg_sl ([.ref (aa (39 + ka)), .ref (aa 12)])).length) Slot.unset).toArray = ls at hl ⊢
  have hl : lv_has ls 3 [(0, .ref (aa (39 + ka))), (1, .ref (aa 12))] := hl
  unfold F_X3_firstOf_12 at hF
  refine w_go (fun Q hQ => ?_)
  refine lv_iconst (v := 0) hx hb dX3_firstOf_0 (by decide) ?_
  refine lv_istore_n (lv' := [(2, .int 0), (0, .ref (aa (39 + ka))), (1, .ref (aa 12))]) hx hb dX3_firstOf_1 rfl hl (by decide) rfl (fun ls hl => ?_)
  have Jx2 : ∀  (H : Heap) (locs : List Loc) (ls : Array Slot), F_X3_firstOf_12_x2 = some r9 → va_P (dC, dI) vwCl (bw q aa Z) H → va_D A (bw q aa Z) → va_S A s.heap H locs → lv_has ls 3 [] → W p l e (headSpec wsX3_firstOf ({ frames := 2, cells := 0, slots := 0, locals := 40 } : Room)).room s m args below meth c H locs 0 0 Q (F0 m 34 ls []) := by
    intro  H locs ls hF hP hD hS hl
    unfold F_X3_firstOf_12_x2 at hF
    refine lv_iconst (v := (-1)) hx hb dX3_firstOf_34 (by decide) ?_
    have e9 := some1 hF
    subst hQ
    exact W.iret (v := (-1)) hx hb hr (fun t ht hW => ⟨⟨(-1), (), rfl, e9.symm, po_mk ht hW hP hK hD⟩, hS.F ht⟩) hS.2.2 dX3_firstOf_35
  have L2 : ∀ (n2 : Nat) (u1 : Int32) (H : Heap) (locs : List Loc) (ls : Array Slot), F_X3_firstOf_12_l2 Z ka F_X3_firstOf_12_x2 n2 u1 = some r9 → va_P (dC, dI) vwCl (bw q aa Z) H → va_D A (bw q aa Z) → va_S A s.heap H locs → lv_has ls 3 [(2, .int u1), (0, .ref (aa (39 + ka))), (1, .ref (aa 12))] → W p l e (headSpec wsX3_firstOf ({ frames := 2, cells := 0, slots := 0, locals := 40 } : Room)).room s m args below meth c H locs 0 0 Q (F0 m 2 ls []) := by
    intro n2
    induction n2 with
    | zero =>
      intro u1 H locs ls hF
      rw [F_X3_firstOf_12_l2] at hF
      cases hF
    | succ n2 IH2 =>
      intro u1 H locs ls hF hP hD hS hl
      rw [F_X3_firstOf_12_l2] at hF
      refine lv_iload_n hx hb dX3_firstOf_2 rfl (lv_at hl 0 rfl) ?_
      refine lv_aload_n hx hb dX3_firstOf_3 rfl (lv_at hl 1 rfl) ?_
      refine va_get (D := (dC, dI)) (ci := 5) (v := .int (Z.1 (39 + ka) 5)) (C := RX3) (T := TX3) (N := 7) hx hb hts hinX3 hown hK hP (39 + ka) (bw_at (i := 39 + ka) (by omega) (bk_stk hka _ _)) rfl 5 (by decide) (hts (.fieldLink RX3 36 "BallotLoom$Stack" "length" "I") (by decide +kernel)) (fun _ h9 => h9) rfl dX3_firstOf_4 ?_
      refine lv_topi (fun y2 ey2 => ?_)
      have hF := bv_at ey2 hF
      refine lv_icmp_ge (tgt := 34) hx hb dX3_firstOf_7 (by decide) (fun hc3 => ?_) (fun hc3 => ?_)
      · have hF := br_pos hc3 hF
        exact Jx2  _ _ _ hF hP hD hS (lv_sub hl [] rfl)
      · have hF := br_neg hc3 hF
        refine lv_aload_n hx hb dX3_firstOf_10 rfl (lv_at hl 2 rfl) ?_
        refine lv_aload_n hx hb dX3_firstOf_11 rfl (lv_at hl 1 rfl) ?_
        refine va_get (D := (dC, dI)) (ci := 5) (v := .ref (aa (64 + ka))) (C := RX3) (T := TX3) (N := 7) hx hb hts hinX3 hown hK hP (39 + ka) (bw_at (i := 39 + ka) (by omega) (bk_stk hka _ _)) rfl 4 (by decide) (hts (.fieldLink RX3 9 "BallotLoom$Stack" "list" "[I") (by decide +kernel)) (fun _ h9 => h9) rfl dX3_firstOf_12 ?_
        refine lv_iload_n hx hb dX3_firstOf_15 rfl (lv_at hl 0 rfl) ?_
        obtain ⟨hg4, hF⟩ := gd_some hF
        refine va_iald hx hb hK hP (64 + ka) 0 (at_i (by omega) (bk_lst hka)) rfl hg4 dX3_firstOf_16 ?_
        refine lv_topi (fun y5 ey5 => ?_)
        have hF := bv_at ey5 hF
        obtain ⟨hg6, hF⟩ := gd_some hF
        refine va_zald hx hb hK hP 12 1 (at_i (by decide) (fun _ _ => rfl)) rfl hg6 dX3_firstOf_17 ?_
        refine lv_topi (fun y7 ey7 => ?_)
        have hF := bv_at ey7 hF
        refine lv_if_eq (tgt := 28) hx hb dX3_firstOf_18 (by decide) (fun hc8 => ?_) (fun hc8 => ?_)
        · have hF := br_pos hc8 hF
          refine lv_iinc (k := 0) (v := (u1 + (1 : Int32))) (lv' := [(2, .int (u1 + (1 : Int32))), (0, .ref (aa (39 + ka))), (1, .ref (aa 12))]) hx hb dX3_firstOf_28 hl rfl (ii_ _ _ _ (by decide)) (by decide) rfl (fun ls hl => ?_)
          refine lv_goto (tgt := 2) hx hb dX3_firstOf_31 (by decide) ?_
          exact IH2 (u1 + (1 : Int32)) _ _ _ hF hP hD hS (lv_sub hl [0, 1, 2] rfl)
        · have hF := br_neg hc8 hF
          refine lv_aload_n hx hb dX3_firstOf_21 rfl (lv_at hl 1 rfl) ?_
          refine va_get (D := (dC, dI)) (ci := 5) (v := .ref (aa (64 + ka))) (C := RX3) (T := TX3) (N := 7) hx hb hts hinX3 hown hK hP (39 + ka) (bw_at (i := 39 + ka) (by omega) (bk_stk hka _ _)) rfl 4 (by decide) (hts (.fieldLink RX3 9 "BallotLoom$Stack" "list" "[I") (by decide +kernel)) (fun _ h9 => h9) rfl dX3_firstOf_22 ?_
          refine lv_iload_n hx hb dX3_firstOf_25 rfl (lv_at hl 0 rfl) ?_
          refine va_iald hx hb hK hP (64 + ka) 0 (at_i (by omega) (bk_lst hka)) rfl hg4 dX3_firstOf_26 ?_
          refine lv_topi (fun y9 ey9 => ?_)
          have hF := bv_at ey9 hF
          have e9 := some1 hF
          subst hQ
          exact W.iret (v := y9) hx hb hr (fun t ht hW => ⟨⟨y9, (), rfl, e9.symm, po_mk ht hW hP hK hD⟩, hS.F ht⟩) hS.2.2 dX3_firstOf_27
  exact L2 100 (0 : Int32) _ _ _ hF hP hD hS (lv_sub hl [0, 1, 2] rfl)

def F_X3_firstOf_28_x2  : Option Int32 :=
  some ((-1) : Int32)

def F_X3_firstOf_28_l2 (Z : Mem) (ka : Nat) (K_2 : Option Int32) : Nat → Int32 → Option Int32
  | 0, _ => none
  | n2 + 1, u1 =>
  bv (Z.1 (39 + ka) 5) fun y2 => br (y2 ≤ u1) (K_2) (gd (¬ (u1 < 0 ∨ 6 ≤ ix u1)) <| bv (Z.1 (64 + ka) (ix u1)) fun y5 => gd (¬ (y5 < 0 ∨ 6 ≤ ix y5)) <| bv (Z.1 28 (ix y5)) fun y7 => br (y7 = (0 : Int32)) ((F_X3_firstOf_28_l2 Z ka K_2 n2) (u1 + (1 : Int32))) (bv (Z.1 (64 + ka) (ix u1)) fun y9 => some y9))

def F_X3_firstOf_28 (Z : Mem) (ka : Nat) : Option Int32 :=
  F_X3_firstOf_28_l2 Z ka F_X3_firstOf_28_x2 100 (0 : Int32)

set_option maxHeartbeats 4000000 in
set_option maxRecDepth 100000 in
theorem c_X3_firstOf_28 (l : Launch) (dC : Nat → ClassId) (dI : Nat → Nat → Nat) (q : Nat → ClassId) (aa : Nat → Nat) (Z : Mem) (ka : Nat) (hka : ka < 25) (sz : Nat) (r9 : Int32) (hF : F_X3_firstOf_28 Z ka = some r9) : Met l yX3_firstOf wsX3_firstOf ({ frames := 2, cells := 0, slots := 0, locals := 40 }) (va_Pc [.ref (aa (39 + ka)), .ref (aa 28)] (pr_ dC dI (bw q aa Z) (bty q) sz)) (va_Qi (fun (r : Int32) (_ : Unit) => r = r9) (fun (_ : Unit) t => po_ dC dI (bw q aa Z) (bty q) (va_A (bw q aa Z) sz) t) (va_A (bw q aa Z) sz)) 0 0 (va_A (bw q aa Z) sz) := by
  refine Met.ofW (cc := cX3_firstOf) (maxL := 3) (ret := (some .int)) (by decide) rfl ?_
  intro p e s m args below meth c s₁ B hml hv
  obtain ⟨hargs, hsz, hP, hK, hD0⟩ := hv
  have hx := B.exec
  have hb := B.bytes
  have hr := B.returns
  have hts := atoms_spec (ws := wsX3_firstOf) B.pre
  have hown : s.vm.findClass RX3 = some m.cls := findClass_of_methodNamed B.named
  subst hsz
  have hD := hD0.self (sz := s.heap.size)
  generalize hAe : va_A (bw q aa Z) s.heap.size = A at hD ⊢
  have hA : ∀ x : Nat, s.heap.size ≤ x → A x := fun x h => by rw [← hAe]; exact Or.inr h
  have hS : va_S A s.heap s.heap [] := va_S.rf
  have hinX3 : ∀ w ∈ u_ws RX3 TX3 7, w ∈ wsX3_firstOf := by decide +kernel
  have hl := lv_entry ([.ref (aa (39 + ka)), .ref (aa 28)]) (n := 3) (Nat.le_of_ble_eq_true rfl)
  refine w_ent hargs ?_
  rw [lg_entry_eq]
  generalize (lg_sl ([.ref (aa (39 + ka)), .ref (aa 28)]) ++ List.replicate (3 - (lg_sl ([.ref (aa (39 + ka)), .ref (aa 28)])).length) Slot.unset).toArray = ls at hl ⊢
  have hl : lv_has ls 3 [(0, .ref (aa (39 + ka))), (1, .ref (aa 28))] := hl
  unfold F_X3_firstOf_28 at hF
  refine w_go (fun Q hQ => ?_)
  refine lv_iconst (v := 0) hx hb dX3_firstOf_0 (by decide) ?_
  refine lv_istore_n (lv' := [(2, .int 0), (0, .ref (aa (39 + ka))), (1, .ref (aa 28))]) hx hb dX3_firstOf_1 rfl hl (by decide) rfl (fun ls hl => ?_)
  have Jx2 : ∀  (H : Heap) (locs : List Loc) (ls : Array Slot), F_X3_firstOf_28_x2 = some r9 → va_P (dC, dI) vwCl (bw q aa Z) H → va_D A (bw q aa Z) → va_S A s.heap H locs → lv_has ls 3 [] → W p l e (headSpec wsX3_firstOf ({ frames := 2, cells := 0, slots := 0, locals := 40 } : Room)).room s m args below meth c H locs 0 0 Q (F0 m 34 ls []) := by
    intro  H locs ls hF hP hD hS hl
    unfold F_X3_firstOf_28_x2 at hF
    refine lv_iconst (v := (-1)) hx hb dX3_firstOf_34 (by decide) ?_
    have e9 := some1 hF
    subst hQ
    exact W.iret (v := (-1)) hx hb hr (fun t ht hW => ⟨⟨(-1), (), rfl, e9.symm, po_mk ht hW hP hK hD⟩, hS.F ht⟩) hS.2.2 dX3_firstOf_35
  have L2 : ∀ (n2 : Nat) (u1 : Int32) (H : Heap) (locs : List Loc) (ls : Array Slot), F_X3_firstOf_28_l2 Z ka F_X3_firstOf_28_x2 n2 u1 = some r9 → va_P (dC, dI) vwCl (bw q aa Z) H → va_D A (bw q aa Z) → va_S A s.heap H locs → lv_has ls 3 [(2, .int u1), (0, .ref (aa (39 + ka))), (1, .ref (aa 28))] → W p l e (headSpec wsX3_firstOf ({ frames := 2, cells := 0, slots := 0, locals := 40 } : Room)).room s m args below meth c H locs 0 0 Q (F0 m 2 ls []) := by
    intro n2
    induction n2 with
    | zero =>
      intro u1 H locs ls hF
      rw [F_X3_firstOf_28_l2] at hF
      cases hF
    | succ n2 IH2 =>
      intro u1 H locs ls hF hP hD hS hl
      rw [F_X3_firstOf_28_l2] at hF
      refine lv_iload_n hx hb dX3_firstOf_2 rfl (lv_at hl 0 rfl) ?_
      refine lv_aload_n hx hb dX3_firstOf_3 rfl (lv_at hl 1 rfl) ?_
      refine va_get (D := (dC, dI)) (ci := 5) (v := .int (Z.1 (39 + ka) 5)) (C := RX3) (T := TX3) (N := 7) hx hb hts hinX3 hown hK hP (39 + ka) (bw_at (i := 39 + ka) (by omega) (bk_stk hka _ _)) rfl 5 (by decide) (hts (.fieldLink RX3 36 "BallotLoom$Stack" "length" "I") (by decide +kernel)) (fun _ h9 => h9) rfl dX3_firstOf_4 ?_
      refine lv_topi (fun y2 ey2 => ?_)
      have hF := bv_at ey2 hF
      refine lv_icmp_ge (tgt := 34) hx hb dX3_firstOf_7 (by decide) (fun hc3 => ?_) (fun hc3 => ?_)
      · have hF := br_pos hc3 hF
        exact Jx2  _ _ _ hF hP hD hS (lv_sub hl [] rfl)
      · have hF := br_neg hc3 hF
        refine lv_aload_n hx hb dX3_firstOf_10 rfl (lv_at hl 2 rfl) ?_
        refine lv_aload_n hx hb dX3_firstOf_11 rfl (lv_at hl 1 rfl) ?_
        refine va_get (D := (dC, dI)) (ci := 5) (v := .ref (aa (64 + ka))) (C := RX3) (T := TX3) (N := 7) hx hb hts hinX3 hown hK hP (39 + ka) (bw_at (i := 39 + ka) (by omega) (bk_stk hka _ _)) rfl 4 (by decide) (hts (.fieldLink RX3 9 "BallotLoom$Stack" "list" "[I") (by decide +kernel)) (fun _ h9 => h9) rfl dX3_firstOf_12 ?_
        refine lv_iload_n hx hb dX3_firstOf_15 rfl (lv_at hl 0 rfl) ?_
        obtain ⟨hg4, hF⟩ := gd_some hF
        refine va_iald hx hb hK hP (64 + ka) 0 (at_i (by omega) (bk_lst hka)) rfl hg4 dX3_firstOf_16 ?_
        refine lv_topi (fun y5 ey5 => ?_)
        have hF := bv_at ey5 hF
        obtain ⟨hg6, hF⟩ := gd_some hF
        refine va_zald hx hb hK hP 28 1 (at_i (by decide) (fun _ _ => rfl)) rfl hg6 dX3_firstOf_17 ?_
        refine lv_topi (fun y7 ey7 => ?_)
        have hF := bv_at ey7 hF
        refine lv_if_eq (tgt := 28) hx hb dX3_firstOf_18 (by decide) (fun hc8 => ?_) (fun hc8 => ?_)
        · have hF := br_pos hc8 hF
          refine lv_iinc (k := 0) (v := (u1 + (1 : Int32))) (lv' := [(2, .int (u1 + (1 : Int32))), (0, .ref (aa (39 + ka))), (1, .ref (aa 28))]) hx hb dX3_firstOf_28 hl rfl (ii_ _ _ _ (by decide)) (by decide) rfl (fun ls hl => ?_)
          refine lv_goto (tgt := 2) hx hb dX3_firstOf_31 (by decide) ?_
          exact IH2 (u1 + (1 : Int32)) _ _ _ hF hP hD hS (lv_sub hl [0, 1, 2] rfl)
        · have hF := br_neg hc8 hF
          refine lv_aload_n hx hb dX3_firstOf_21 rfl (lv_at hl 1 rfl) ?_
          refine va_get (D := (dC, dI)) (ci := 5) (v := .ref (aa (64 + ka))) (C := RX3) (T := TX3) (N := 7) hx hb hts hinX3 hown hK hP (39 + ka) (bw_at (i := 39 + ka) (by omega) (bk_stk hka _ _)) rfl 4 (by decide) (hts (.fieldLink RX3 9 "BallotLoom$Stack" "list" "[I") (by decide +kernel)) (fun _ h9 => h9) rfl dX3_firstOf_22 ?_
          refine lv_iload_n hx hb dX3_firstOf_25 rfl (lv_at hl 0 rfl) ?_
          refine va_iald hx hb hK hP (64 + ka) 0 (at_i (by omega) (bk_lst hka)) rfl hg4 dX3_firstOf_26 ?_
          refine lv_topi (fun y9 ey9 => ?_)
          have hF := bv_at ey9 hF
          have e9 := some1 hF
          subst hQ
          exact W.iret (v := y9) hx hb hr (fun t ht hW => ⟨⟨y9, (), rfl, e9.symm, po_mk ht hW hP hK hD⟩, hS.F ht⟩) hS.2.2 dX3_firstOf_27
  exact L2 100 (0 : Int32) _ _ _ hF hP hD hS (lv_sub hl [0, 1, 2] rfl)

def F_X3_figure (Z : Mem) (ka : Nat) (xa : Int32) : Option Int32 :=
  br (xa = 0) (bv (Z.1 (39 + ka) 0) fun y2 => some y2) (br (xa = 1) (bv (Z.1 (39 + ka) 1) fun y4 => some y4) (br (xa = 2) (bv (Z.1 (39 + ka) 2) fun y6 => some y6) (br (xa = 3) (bv (Z.1 (39 + ka) 3) fun y8 => br (y8 = (0 : Int32)) (some (0 : Int32)) (some (1 : Int32))) (br (xa = 4) (bv (Z.1 (39 + ka) 5) fun y11 => some y11) (bv (Z.1 (39 + ka) 5) fun y12 => br (y12 ≤ (0 : Int32)) (some ((-1) : Int32)) (bv (Z.1 (64 + ka) (ix (0 : Int32))) fun y14 => some y14))))))

set_option maxHeartbeats 4000000 in
set_option maxRecDepth 100000 in
theorem c_X3_figure (l : Launch) (dC : Nat → ClassId) (dI : Nat → Nat → Nat) (q : Nat → ClassId) (aa : Nat → Nat) (Z : Mem) (ka : Nat) (xa : Int32) (hka : ka < 25) (sz : Nat) (r9 : Int32) (hF : F_X3_figure Z ka xa = some r9) : Met l yX3_figure wsX3_figure ({ frames := 2, cells := 0, slots := 0, locals := 40 }) (va_Pc [.ref (aa (39 + ka)), .int xa] (pr_ dC dI (bw q aa Z) (bty q) sz)) (va_Qi (fun (r : Int32) (_ : Unit) => r = r9) (fun (_ : Unit) t => po_ dC dI (bw q aa Z) (bty q) (va_A (bw q aa Z) sz) t) (va_A (bw q aa Z) sz)) 0 0 (va_A (bw q aa Z) sz) := by
  refine Met.ofW (cc := cX3_figure) (maxL := 2) (ret := (some .int)) (by decide) rfl ?_
  intro p e s m args below meth c s₁ B hml hv
  obtain ⟨hargs, hsz, hP, hK, hD0⟩ := hv
  have hx := B.exec
  have hb := B.bytes
  have hr := B.returns
  have hts := atoms_spec (ws := wsX3_figure) B.pre
  have hown : s.vm.findClass RX3 = some m.cls := findClass_of_methodNamed B.named
  subst hsz
  have hD := hD0.self (sz := s.heap.size)
  generalize hAe : va_A (bw q aa Z) s.heap.size = A at hD ⊢
  have hA : ∀ x : Nat, s.heap.size ≤ x → A x := fun x h => by rw [← hAe]; exact Or.inr h
  have hS : va_S A s.heap s.heap [] := va_S.rf
  have hinX3 : ∀ w ∈ u_ws RX3 TX3 7, w ∈ wsX3_figure := by decide +kernel
  have hl := lv_entry ([.ref (aa (39 + ka)), .int xa]) (n := 2) (Nat.le_of_ble_eq_true rfl)
  refine w_ent hargs ?_
  rw [lg_entry_eq]
  generalize (lg_sl ([.ref (aa (39 + ka)), .int xa]) ++ List.replicate (2 - (lg_sl ([.ref (aa (39 + ka)), .int xa])).length) Slot.unset).toArray = ls at hl ⊢
  have hl : lv_has ls 2 [(0, .ref (aa (39 + ka))), (1, .int xa)] := hl
  unfold F_X3_figure at hF
  refine w_go (fun Q hQ => ?_)
  refine lv_iload_n hx hb dX3_figure_0 rfl (lv_at hl 1 rfl) ?_
  by_cases hq1 : xa = 0
  · have hF := br_pos hq1 hF
    refine lv_tableIn (off := 35) (tgt := 36) hx hb dX3_figure_1 (by rw [hq1]; decide) (by rw [hq1]; decide) (by rw [hq1]; rfl) (by decide) ?_
    refine lv_aload_n hx hb dX3_figure_36 rfl (lv_at hl 0 rfl) ?_
    refine va_get (D := (dC, dI)) (ci := 5) (v := .int (Z.1 (39 + ka) 0)) (C := RX3) (T := TX3) (N := 7) hx hb hts hinX3 hown hK hP (39 + ka) (bw_at (i := 39 + ka) (by omega) (bk_stk hka _ _)) rfl 0 (by decide) (hts (.fieldLink RX3 43 "BallotLoom$Stack" "district" "I") (by decide +kernel)) (fun _ h9 => h9) rfl dX3_figure_37 ?_
    refine lv_topi (fun y2 ey2 => ?_)
    have hF := bv_at ey2 hF
    have e9 := some1 hF
    subst hQ
    exact W.iret (v := y2) hx hb hr (fun t ht hW => ⟨⟨y2, (), rfl, e9.symm, po_mk ht hW hP hK hD⟩, hS.F ht⟩) hS.2.2 dX3_figure_40
  have hF := br_neg hq1 hF
  by_cases hq3 : xa = 1
  · have hF := br_pos hq3 hF
    refine lv_tableIn (off := 40) (tgt := 41) hx hb dX3_figure_1 (by rw [hq3]; decide) (by rw [hq3]; decide) (by rw [hq3]; rfl) (by decide) ?_
    refine lv_aload_n hx hb dX3_figure_41 rfl (lv_at hl 0 rfl) ?_
    refine va_get (D := (dC, dI)) (ci := 5) (v := .int (Z.1 (39 + ka) 1)) (C := RX3) (T := TX3) (N := 7) hx hb hts hinX3 hown hK hP (39 + ka) (bw_at (i := 39 + ka) (by omega) (bk_stk hka _ _)) rfl 1 (by decide) (hts (.fieldLink RX3 15 "BallotLoom$Stack" "ranks" "I") (by decide +kernel)) (fun _ h9 => h9) rfl dX3_figure_42 ?_
    refine lv_topi (fun y4 ey4 => ?_)
    have hF := bv_at ey4 hF
    have e9 := some1 hF
    subst hQ
    exact W.iret (v := y4) hx hb hr (fun t ht hW => ⟨⟨y4, (), rfl, e9.symm, po_mk ht hW hP hK hD⟩, hS.F ht⟩) hS.2.2 dX3_figure_45
  have hF := br_neg hq3 hF
  by_cases hq5 : xa = 2
  · have hF := br_pos hq5 hF
    refine lv_tableIn (off := 45) (tgt := 46) hx hb dX3_figure_1 (by rw [hq5]; decide) (by rw [hq5]; decide) (by rw [hq5]; rfl) (by decide) ?_
    refine lv_aload_n hx hb dX3_figure_46 rfl (lv_at hl 0 rfl) ?_
    refine va_get (D := (dC, dI)) (ci := 5) (v := .int (Z.1 (39 + ka) 2)) (C := RX3) (T := TX3) (N := 7) hx hb hts hinX3 hown hK hP (39 + ka) (bw_at (i := 39 + ka) (by omega) (bk_stk hka _ _)) rfl 2 (by decide) (hts (.fieldLink RX3 46 "BallotLoom$Stack" "count" "I") (by decide +kernel)) (fun _ h9 => h9) rfl dX3_figure_47 ?_
    refine lv_topi (fun y6 ey6 => ?_)
    have hF := bv_at ey6 hF
    have e9 := some1 hF
    subst hQ
    exact W.iret (v := y6) hx hb hr (fun t ht hW => ⟨⟨y6, (), rfl, e9.symm, po_mk ht hW hP hK hD⟩, hS.F ht⟩) hS.2.2 dX3_figure_50
  have hF := br_neg hq5 hF
  by_cases hq7 : xa = 3
  · have hF := br_pos hq7 hF
    refine lv_tableIn (off := 50) (tgt := 51) hx hb dX3_figure_1 (by rw [hq7]; decide) (by rw [hq7]; decide) (by rw [hq7]; rfl) (by decide) ?_
    refine lv_aload_n hx hb dX3_figure_51 rfl (lv_at hl 0 rfl) ?_
    refine va_get (D := (dC, dI)) (ci := 5) (v := .int (Z.1 (39 + ka) 3)) (C := RX3) (T := TX3) (N := 7) hx hb hts hinX3 hown hK hP (39 + ka) (bw_at (i := 39 + ka) (by omega) (bk_stk hka _ _)) rfl 3 (by decide) (hts (.fieldLink RX3 28 "BallotLoom$Stack" "isSpoiled" "Z") (by decide +kernel)) (fun _ h9 => h9) rfl dX3_figure_52 ?_
    refine lv_topi (fun y8 ey8 => ?_)
    have hF := bv_at ey8 hF
    refine lv_if_eq (tgt := 62) hx hb dX3_figure_55 (by decide) (fun hc9 => ?_) (fun hc9 => ?_)
    · have hF := br_pos hc9 hF
      refine lv_iconst (v := 0) hx hb dX3_figure_62 (by decide) ?_
      have e9 := some1 hF
      subst hQ
      exact W.iret (v := 0) hx hb hr (fun t ht hW => ⟨⟨0, (), rfl, e9.symm, po_mk ht hW hP hK hD⟩, hS.F ht⟩) hS.2.2 dX3_figure_63
    · have hF := br_neg hc9 hF
      refine lv_iconst (v := 1) hx hb dX3_figure_58 (by decide) ?_
      refine lv_goto (tgt := 63) hx hb dX3_figure_59 (by decide) ?_
      have e9 := some1 hF
      subst hQ
      exact W.iret (v := 1) hx hb hr (fun t ht hW => ⟨⟨1, (), rfl, e9.symm, po_mk ht hW hP hK hD⟩, hS.F ht⟩) hS.2.2 dX3_figure_63
  have hF := br_neg hq7 hF
  by_cases hq10 : xa = 4
  · have hF := br_pos hq10 hF
    refine lv_tableIn (off := 63) (tgt := 64) hx hb dX3_figure_1 (by rw [hq10]; decide) (by rw [hq10]; decide) (by rw [hq10]; rfl) (by decide) ?_
    refine lv_aload_n hx hb dX3_figure_64 rfl (lv_at hl 0 rfl) ?_
    refine va_get (D := (dC, dI)) (ci := 5) (v := .int (Z.1 (39 + ka) 5)) (C := RX3) (T := TX3) (N := 7) hx hb hts hinX3 hown hK hP (39 + ka) (bw_at (i := 39 + ka) (by omega) (bk_stk hka _ _)) rfl 5 (by decide) (hts (.fieldLink RX3 36 "BallotLoom$Stack" "length" "I") (by decide +kernel)) (fun _ h9 => h9) rfl dX3_figure_65 ?_
    refine lv_topi (fun y11 ey11 => ?_)
    have hF := bv_at ey11 hF
    have e9 := some1 hF
    subst hQ
    exact W.iret (v := y11) hx hb hr (fun t ht hW => ⟨⟨y11, (), rfl, e9.symm, po_mk ht hW hP hK hD⟩, hS.F ht⟩) hS.2.2 dX3_figure_68
  have hF := br_neg hq10 hF
  refine lv_tableOut (tgt := 69) hx hb dX3_figure_1 (sw_out 4 (by intro k h0 _; have h2 : k = 0 ∨ k = 1 ∨ k = 2 ∨ k = 3 ∨ k = 4 := by omega; rcases h2 with rfl | rfl | rfl | rfl | rfl; · exact hq1; · exact hq3; · exact hq5; · exact hq7; · exact hq10)) (by decide) ?_
  refine lv_aload_n hx hb dX3_figure_69 rfl (lv_at hl 0 rfl) ?_
  refine va_get (D := (dC, dI)) (ci := 5) (v := .int (Z.1 (39 + ka) 5)) (C := RX3) (T := TX3) (N := 7) hx hb hts hinX3 hown hK hP (39 + ka) (bw_at (i := 39 + ka) (by omega) (bk_stk hka _ _)) rfl 5 (by decide) (hts (.fieldLink RX3 36 "BallotLoom$Stack" "length" "I") (by decide +kernel)) (fun _ h9 => h9) rfl dX3_figure_70 ?_
  refine lv_topi (fun y12 ey12 => ?_)
  have hF := bv_at ey12 hF
  refine lv_if_le (tgt := 85) hx hb dX3_figure_73 (by decide) (fun hc13 => ?_) (fun hc13 => ?_)
  · have hF := br_pos hc13 hF
    refine lv_iconst (v := (-1)) hx hb dX3_figure_85 (by decide) ?_
    have e9 := some1 hF
    subst hQ
    exact W.iret (v := (-1)) hx hb hr (fun t ht hW => ⟨⟨(-1), (), rfl, e9.symm, po_mk ht hW hP hK hD⟩, hS.F ht⟩) hS.2.2 dX3_figure_86
  · have hF := br_neg hc13 hF
    refine lv_aload_n hx hb dX3_figure_76 rfl (lv_at hl 0 rfl) ?_
    refine va_get (D := (dC, dI)) (ci := 5) (v := .ref (aa (64 + ka))) (C := RX3) (T := TX3) (N := 7) hx hb hts hinX3 hown hK hP (39 + ka) (bw_at (i := 39 + ka) (by omega) (bk_stk hka _ _)) rfl 4 (by decide) (hts (.fieldLink RX3 9 "BallotLoom$Stack" "list" "[I") (by decide +kernel)) (fun _ h9 => h9) rfl dX3_figure_77 ?_
    refine lv_iconst (v := 0) hx hb dX3_figure_80 (by decide) ?_
    refine va_iald hx hb hK hP (64 + ka) 0 (at_i (by omega) (bk_lst hka)) rfl (by unfold vp_in; decide) dX3_figure_81 ?_
    refine lv_topi (fun y14 ey14 => ?_)
    have hF := bv_at ey14 hF
    refine lv_goto (tgt := 86) hx hb dX3_figure_82 (by decide) ?_
    have e9 := some1 hF
    subst hQ
    exact W.iret (v := y14) hx hb hr (fun t ht hW => ⟨⟨y14, (), rfl, e9.symm, po_mk ht hW hP hK hD⟩, hS.F ht⟩) hS.2.2 dX3_figure_86

def F_X3_isSpoiling_x7  : Option Int32 :=
  some (0 : Int32)

def F_X3_isSpoiling_l7 (xb : Int32) (K_7 : Option Int32) : Nat → Int32 → Int32 → Int32 → Option Int32
  | 0, _, _, _ => none
  | n7 + 1, u1, u2, u3 =>
  br ((6 : Int32) ≤ u3) (K_7) (br (u2 ≤ (0 : Int32)) (K_7) (bv (u2 - u2 / (10 : Int32) * (10 : Int32)) fun y6 => bv ((1 : Int32) <<< (y6 &&& 31)) fun y7 => br (y6 = (0 : Int32)) (some (1 : Int32)) (br (xb < y6) (some (1 : Int32)) (bv (u1 &&& y7) fun y10 => br (y10 = (0 : Int32)) (bv (u1 ||| y7) fun y12 => bv (u2 / (10 : Int32)) fun y13 => (F_X3_isSpoiling_l7 xb K_7 n7) y12 y13 (u3 + (1 : Int32))) (some (1 : Int32))))))

def F_X3_isSpoiling (Z : Mem) (xa : Int32) (xb : Int32) : Option Int32 :=
  F_X3_isSpoiling_l7 xb F_X3_isSpoiling_x7 100 (0 : Int32) xa (0 : Int32)

set_option maxHeartbeats 4000000 in
set_option maxRecDepth 100000 in
theorem c_X3_isSpoiling (l : Launch) (dC : Nat → ClassId) (dI : Nat → Nat → Nat) (q : Nat → ClassId) (aa : Nat → Nat) (Z : Mem) (xa : Int32) (xb : Int32)  (sz : Nat) (r9 : Int32) (hF : F_X3_isSpoiling Z xa xb = some r9) : Met l yX3_isSpoiling wsX3_isSpoiling ({ frames := 2, cells := 0, slots := 0, locals := 40 }) (va_Pc [.int xa, .int xb] (pr_ dC dI (bw q aa Z) (bty q) sz)) (va_Qi (fun (r : Int32) (_ : Unit) => r = r9) (fun (_ : Unit) t => po_ dC dI (bw q aa Z) (bty q) (va_A (bw q aa Z) sz) t) (va_A (bw q aa Z) sz)) 0 0 (va_A (bw q aa Z) sz) := by
  refine Met.ofW (cc := cX3_isSpoiling) (maxL := 7) (ret := (some .boolean)) (by decide) rfl ?_
  intro p e s m args below meth c s₁ B hml hv
  obtain ⟨hargs, hsz, hP, hK, hD0⟩ := hv
  have hx := B.exec
  have hb := B.bytes
  have hr := B.returns
  have hts := atoms_spec (ws := wsX3_isSpoiling) B.pre
  have hown : s.vm.findClass RX3 = some m.cls := findClass_of_methodNamed B.named
  subst hsz
  have hD := hD0.self (sz := s.heap.size)
  generalize hAe : va_A (bw q aa Z) s.heap.size = A at hD ⊢
  have hA : ∀ x : Nat, s.heap.size ≤ x → A x := fun x h => by rw [← hAe]; exact Or.inr h
  have hS : va_S A s.heap s.heap [] := va_S.rf
  have hl := lv_entry ([.int xa, .int xb]) (n := 7) (Nat.le_of_ble_eq_true rfl)
  refine w_ent hargs ?_
  rw [lg_entry_eq]
  generalize (lg_sl ([.int xa, .int xb]) ++ List.replicate (7 - (lg_sl ([.int xa, .int xb])).length) Slot.unset).toArray = ls at hl ⊢
  have hl : lv_has ls 7 [(0, .int xa), (1, .int xb)] := hl
  unfold F_X3_isSpoiling at hF
  refine w_go (fun Q hQ => ?_)
  refine lv_iconst (v := 0) hx hb dX3_isSpoiling_0 (by decide) ?_
  refine lv_istore_n (lv' := [(2, .int 0), (0, .int xa), (1, .int xb)]) hx hb dX3_isSpoiling_1 rfl hl (by decide) rfl (fun ls hl => ?_)
  refine lv_iload_n hx hb dX3_isSpoiling_2 rfl (lv_at hl 1 rfl) ?_
  refine lv_istore_n (lv' := [(3, .int xa), (2, .int 0), (0, .int xa), (1, .int xb)]) hx hb dX3_isSpoiling_3 rfl hl (by decide) rfl (fun ls hl => ?_)
  refine lv_iconst (v := 0) hx hb dX3_isSpoiling_4 (by decide) ?_
  refine lv_istore (lv' := [(4, .int 0), (3, .int xa), (2, .int 0), (0, .int xa), (1, .int xb)]) hx hb dX3_isSpoiling_5 hl (by decide) rfl (fun ls hl => ?_)
  have Jx7 : ∀  (H : Heap) (locs : List Loc) (ls : Array Slot), F_X3_isSpoiling_x7 = some r9 → va_P (dC, dI) vwCl (bw q aa Z) H → va_D A (bw q aa Z) → va_S A s.heap H locs → lv_has ls 7 [] → W p l e (headSpec wsX3_isSpoiling ({ frames := 2, cells := 0, slots := 0, locals := 40 } : Room)).room s m args below meth c H locs 0 0 Q (F0 m 66 ls []) := by
    intro  H locs ls hF hP hD hS hl
    unfold F_X3_isSpoiling_x7 at hF
    refine lv_iconst (v := 0) hx hb dX3_isSpoiling_66 (by decide) ?_
    have e9 := some1 hF
    subst hQ
    exact W.zret (v := 0) hx hb hr rfl (fun t ht hW => ⟨⟨0, (), rfl, e9.symm, po_mk ht hW hP hK hD⟩, hS.F ht⟩) hS.2.2 dX3_isSpoiling_67
  have L7 : ∀ (n7 : Nat) (u1 : Int32) (u2 : Int32) (u3 : Int32) (H : Heap) (locs : List Loc) (ls : Array Slot), F_X3_isSpoiling_l7 xb F_X3_isSpoiling_x7 n7 u1 u2 u3 = some r9 → va_P (dC, dI) vwCl (bw q aa Z) H → va_D A (bw q aa Z) → va_S A s.heap H locs → lv_has ls 7 [(4, .int u3), (3, .int u2), (2, .int u1), (1, .int xb)] → W p l e (headSpec wsX3_isSpoiling ({ frames := 2, cells := 0, slots := 0, locals := 40 } : Room)).room s m args below meth c H locs 0 0 Q (F0 m 7 ls []) := by
    intro n7
    induction n7 with
    | zero =>
      intro u1 u2 u3 H locs ls hF
      rw [F_X3_isSpoiling_l7] at hF
      cases hF
    | succ n7 IH7 =>
      intro u1 u2 u3 H locs ls hF hP hD hS hl
      rw [F_X3_isSpoiling_l7] at hF
      refine lv_iload hx hb dX3_isSpoiling_7 (lv_at hl 0 rfl) ?_
      refine lv_bipush (v := 6) hx hb dX3_isSpoiling_9 (by decide) ?_
      refine lv_icmp_ge (tgt := 66) hx hb dX3_isSpoiling_11 (by decide) (fun hc4 => ?_) (fun hc4 => ?_)
      · have hF := br_pos hc4 hF
        exact Jx7  _ _ _ hF hP hD hS (lv_sub hl [] rfl)
      · have hF := br_neg hc4 hF
        refine lv_iload_n hx hb dX3_isSpoiling_14 rfl (lv_at hl 1 rfl) ?_
        refine lv_if_le (tgt := 66) hx hb dX3_isSpoiling_15 (by decide) (fun hc5 => ?_) (fun hc5 => ?_)
        · have hF := br_pos hc5 hF
          exact Jx7  _ _ _ hF hP hD hS (lv_sub hl [] rfl)
        · have hF := br_neg hc5 hF
          refine lv_iload_n hx hb dX3_isSpoiling_18 rfl (lv_at hl 1 rfl) ?_
          refine lv_bipush (v := 10) hx hb dX3_isSpoiling_19 (by decide) ?_
          refine lv_irem hx hb dX3_isSpoiling_21 (by decide) ?_
          refine lv_topi (fun y6 ey6 => ?_)
          have hF := bv_at ey6 hF
          refine lv_istore (lv' := [(5, .int y6), (4, .int u3), (3, .int u2), (2, .int u1), (1, .int xb)]) hx hb dX3_isSpoiling_22 hl (by decide) rfl (fun ls hl => ?_)
          refine lv_iconst (v := 1) hx hb dX3_isSpoiling_24 (by decide) ?_
          refine lv_iload hx hb dX3_isSpoiling_25 (lv_at hl 0 rfl) ?_
          refine lv_ishl hx hb dX3_isSpoiling_27 ?_
          refine lv_topi (fun y7 ey7 => ?_)
          have hF := bv_at ey7 hF
          refine lv_istore (lv' := [(6, .int y7), (5, .int y6), (4, .int u3), (3, .int u2), (2, .int u1), (1, .int xb)]) hx hb dX3_isSpoiling_28 hl (by decide) rfl (fun ls hl => ?_)
          refine lv_iload hx hb dX3_isSpoiling_30 (lv_at hl 1 rfl) ?_
          refine lv_if_eq (tgt := 48) hx hb dX3_isSpoiling_32 (by decide) (fun hc8 => ?_) (fun hc8 => ?_)
          · have hF := br_pos hc8 hF
            refine lv_iconst (v := 1) hx hb dX3_isSpoiling_48 (by decide) ?_
            have e9 := some1 hF
            subst hQ
            exact W.zret (v := 1) hx hb hr rfl (fun t ht hW => ⟨⟨1, (), rfl, e9.symm, po_mk ht hW hP hK hD⟩, hS.F ht⟩) hS.2.2 dX3_isSpoiling_49
          · have hF := br_neg hc8 hF
            refine lv_iload hx hb dX3_isSpoiling_35 (lv_at hl 1 rfl) ?_
            refine lv_iload_n hx hb dX3_isSpoiling_37 rfl (lv_at hl 5 rfl) ?_
            refine lv_icmp_gt (tgt := 48) hx hb dX3_isSpoiling_38 (by decide) (fun hc9 => ?_) (fun hc9 => ?_)
            · have hF := br_pos hc9 hF
              refine lv_iconst (v := 1) hx hb dX3_isSpoiling_48 (by decide) ?_
              have e9 := some1 hF
              subst hQ
              exact W.zret (v := 1) hx hb hr rfl (fun t ht hW => ⟨⟨1, (), rfl, e9.symm, po_mk ht hW hP hK hD⟩, hS.F ht⟩) hS.2.2 dX3_isSpoiling_49
            · have hF := br_neg hc9 hF
              refine lv_iload_n hx hb dX3_isSpoiling_41 rfl (lv_at hl 4 rfl) ?_
              refine lv_iload hx hb dX3_isSpoiling_42 (lv_at hl 0 rfl) ?_
              refine lv_iand hx hb dX3_isSpoiling_44 ?_
              refine lv_topi (fun y10 ey10 => ?_)
              have hF := bv_at ey10 hF
              refine lv_if_eq (tgt := 50) hx hb dX3_isSpoiling_45 (by decide) (fun hc11 => ?_) (fun hc11 => ?_)
              · have hF := br_pos hc11 hF
                refine lv_iload_n hx hb dX3_isSpoiling_50 rfl (lv_at hl 4 rfl) ?_
                refine lv_iload hx hb dX3_isSpoiling_51 (lv_at hl 0 rfl) ?_
                refine lv_ior hx hb dX3_isSpoiling_53 ?_
                refine lv_topi (fun y12 ey12 => ?_)
                have hF := bv_at ey12 hF
                refine lv_istore_n (lv' := [(2, .int y12), (6, .int y7), (5, .int y6), (4, .int u3), (3, .int u2), (1, .int xb)]) hx hb dX3_isSpoiling_54 rfl hl (by decide) rfl (fun ls hl => ?_)
                refine lv_iload_n hx hb dX3_isSpoiling_55 rfl (lv_at hl 4 rfl) ?_
                refine lv_bipush (v := 10) hx hb dX3_isSpoiling_56 (by decide) ?_
                refine lv_idiv hx hb dX3_isSpoiling_58 (by decide) ?_
                refine lv_topi (fun y13 ey13 => ?_)
                have hF := bv_at ey13 hF
                refine lv_istore_n (lv' := [(3, .int y13), (2, .int y12), (6, .int y7), (5, .int y6), (4, .int u3), (1, .int xb)]) hx hb dX3_isSpoiling_59 rfl hl (by decide) rfl (fun ls hl => ?_)
                refine lv_iinc (k := 4) (v := (u3 + (1 : Int32))) (lv' := [(4, .int (u3 + (1 : Int32))), (3, .int y13), (2, .int y12), (6, .int y7), (5, .int y6), (1, .int xb)]) hx hb dX3_isSpoiling_60 hl rfl (ii_ _ _ _ (by decide)) (by decide) rfl (fun ls hl => ?_)
                refine lv_goto (tgt := 7) hx hb dX3_isSpoiling_63 (by decide) ?_
                exact IH7 y12 y13 (u3 + (1 : Int32)) _ _ _ hF hP hD hS (lv_sub hl [0, 1, 2, 5] rfl)
              · have hF := br_neg hc11 hF
                refine lv_iconst (v := 1) hx hb dX3_isSpoiling_48 (by decide) ?_
                have e9 := some1 hF
                subst hQ
                exact W.zret (v := 1) hx hb hr rfl (fun t ht hW => ⟨⟨1, (), rfl, e9.symm, po_mk ht hW hP hK hD⟩, hS.F ht⟩) hS.2.2 dX3_isSpoiling_49
  exact L7 100 (0 : Int32) xa (0 : Int32) _ _ _ hF hP hD hS (lv_sub hl [0, 1, 2, 4] rfl)

def F_X0_isStanding (Z : Mem) (xa : Int32) : Option Int32 :=
  br (xa < (0 : Int32)) (some (0 : Int32)) (bv (Z.1 1 2) fun y2 => br (y2 ≤ xa) (some (0 : Int32)) (gd (¬ (xa < 0 ∨ 6 ≤ ix xa)) <| bv (Z.1 3 (ix xa)) fun y5 => br (y5 = (0 : Int32)) (some (0 : Int32)) (some (1 : Int32))))

set_option maxHeartbeats 4000000 in
set_option maxRecDepth 100000 in
theorem c_X0_isStanding (l : Launch) (dC : Nat → ClassId) (dI : Nat → Nat → Nat) (q : Nat → ClassId) (aa : Nat → Nat) (Z : Mem) (xa : Int32)  (sz : Nat) (r9 : Int32) (hF : F_X0_isStanding Z xa = some r9) : Met l yX0_isStanding wsX0_isStanding ({ frames := 2, cells := 0, slots := 0, locals := 40 }) (va_Pc [.ref (aa 1), .int xa] (pr_ dC dI (bw q aa Z) (bty q) sz)) (va_Qi (fun (r : Int32) (_ : Unit) => r = r9) (fun (_ : Unit) t => po_ dC dI (bw q aa Z) (bty q) (va_A (bw q aa Z) sz) t) (va_A (bw q aa Z) sz)) 0 0 (va_A (bw q aa Z) sz) := by
  refine Met.ofW (cc := cX0_isStanding) (maxL := 2) (ret := (some .boolean)) (by decide) rfl ?_
  intro p e s m args below meth c s₁ B hml hv
  obtain ⟨hargs, hsz, hP, hK, hD0⟩ := hv
  have hx := B.exec
  have hb := B.bytes
  have hr := B.returns
  have hts := atoms_spec (ws := wsX0_isStanding) B.pre
  have hown : s.vm.findClass RX0 = some m.cls := findClass_of_methodNamed B.named
  subst hsz
  have hD := hD0.self (sz := s.heap.size)
  generalize hAe : va_A (bw q aa Z) s.heap.size = A at hD ⊢
  have hA : ∀ x : Nat, s.heap.size ≤ x → A x := fun x h => by rw [← hAe]; exact Or.inr h
  have hS : va_S A s.heap s.heap [] := va_S.rf
  have hinX0 : ∀ w ∈ u_ws RX0 TX0 11, w ∈ wsX0_isStanding := by decide +kernel
  have hl := lv_entry ([.ref (aa 1), .int xa]) (n := 2) (Nat.le_of_ble_eq_true rfl)
  refine w_ent hargs ?_
  rw [lg_entry_eq]
  generalize (lg_sl ([.ref (aa 1), .int xa]) ++ List.replicate (2 - (lg_sl ([.ref (aa 1), .int xa])).length) Slot.unset).toArray = ls at hl ⊢
  have hl : lv_has ls 2 [(0, .ref (aa 1)), (1, .int xa)] := hl
  unfold F_X0_isStanding at hF
  refine w_go (fun Q hQ => ?_)
  refine lv_iload_n hx hb dX0_isStanding_0 rfl (lv_at hl 1 rfl) ?_
  refine lv_if_lt (tgt := 25) hx hb dX0_isStanding_1 (by decide) (fun hc1 => ?_) (fun hc1 => ?_)
  · have hF := br_pos hc1 hF
    refine lv_iconst (v := 0) hx hb dX0_isStanding_25 (by decide) ?_
    have e9 := some1 hF
    subst hQ
    exact W.zret (v := 0) hx hb hr rfl (fun t ht hW => ⟨⟨0, (), rfl, e9.symm, po_mk ht hW hP hK hD⟩, hS.F ht⟩) hS.2.2 dX0_isStanding_26
  · have hF := br_neg hc1 hF
    refine lv_iload_n hx hb dX0_isStanding_4 rfl (lv_at hl 1 rfl) ?_
    refine lv_aload_n hx hb dX0_isStanding_5 rfl (lv_at hl 0 rfl) ?_
    refine va_get (D := (dC, dI)) (ci := 2) (v := .int (Z.1 1 2)) (C := RX0) (T := TX0) (N := 11) hx hb hts hinX0 hown hK hP 1 (bw_at (i := 1) (by decide) rfl) rfl 2 (by decide) (hts (.fieldLink RX0 29 "BallotLoom$Box" "candidates" "I") (by decide +kernel)) (fun _ h9 => h9) rfl dX0_isStanding_6 ?_
    refine lv_topi (fun y2 ey2 => ?_)
    have hF := bv_at ey2 hF
    refine lv_icmp_ge (tgt := 25) hx hb dX0_isStanding_9 (by decide) (fun hc3 => ?_) (fun hc3 => ?_)
    · have hF := br_pos hc3 hF
      refine lv_iconst (v := 0) hx hb dX0_isStanding_25 (by decide) ?_
      have e9 := some1 hF
      subst hQ
      exact W.zret (v := 0) hx hb hr rfl (fun t ht hW => ⟨⟨0, (), rfl, e9.symm, po_mk ht hW hP hK hD⟩, hS.F ht⟩) hS.2.2 dX0_isStanding_26
    · have hF := br_neg hc3 hF
      refine lv_aload_n hx hb dX0_isStanding_12 rfl (lv_at hl 0 rfl) ?_
      refine va_get (D := (dC, dI)) (ci := 2) (v := .ref (aa 3)) (C := RX0) (T := TX0) (N := 11) hx hb hts hinX0 hown hK hP 1 (bw_at (i := 1) (by decide) rfl) rfl 1 (by decide) (hts (.fieldLink RX0 15 "BallotLoom$Box" "stands" "[Z") (by decide +kernel)) (fun _ h9 => h9) rfl dX0_isStanding_13 ?_
      refine lv_iload_n hx hb dX0_isStanding_16 rfl (lv_at hl 1 rfl) ?_
      obtain ⟨hg4, hF⟩ := gd_some hF
      refine va_zald hx hb hK hP 3 1 (at_i (by decide) (fun _ _ => rfl)) rfl hg4 dX0_isStanding_17 ?_
      refine lv_topi (fun y5 ey5 => ?_)
      have hF := bv_at ey5 hF
      refine lv_if_eq (tgt := 25) hx hb dX0_isStanding_18 (by decide) (fun hc6 => ?_) (fun hc6 => ?_)
      · have hF := br_pos hc6 hF
        refine lv_iconst (v := 0) hx hb dX0_isStanding_25 (by decide) ?_
        have e9 := some1 hF
        subst hQ
        exact W.zret (v := 0) hx hb hr rfl (fun t ht hW => ⟨⟨0, (), rfl, e9.symm, po_mk ht hW hP hK hD⟩, hS.F ht⟩) hS.2.2 dX0_isStanding_26
      · have hF := br_neg hc6 hF
        refine lv_iconst (v := 1) hx hb dX0_isStanding_21 (by decide) ?_
        refine lv_goto (tgt := 26) hx hb dX0_isStanding_22 (by decide) ?_
        have e9 := some1 hF
        subst hQ
        exact W.zret (v := 1) hx hb hr rfl (fun t ht hW => ⟨⟨1, (), rfl, e9.symm, po_mk ht hW hP hK hD⟩, hS.F ht⟩) hS.2.2 dX0_isStanding_26

def F_X3_makeList_x20 (Z5 : Mem) : Option (Mem × Unit) :=
  some (Z5, ())

def F_X3_makeList_j68 (u6 : Int32) (u7 : Int32) (B_20 : Mem → Int32 → Int32 → Option (Mem × Unit)) (Z16 : Mem) : Option (Mem × Unit) :=
  bv (u6 / (10 : Int32)) fun y17 => B_20 Z16 y17 (u7 + (1 : Int32))

def F_X3_makeList_l20 (ka : Nat) (K_20 : Mem → Option (Mem × Unit)) : Nat → Mem → Int32 → Int32 → Option (Mem × Unit)
  | 0, _, _, _ => none
  | n20 + 1, Z8, u6, u7 =>
  br ((6 : Int32) ≤ u7) (K_20 Z8) (br (u6 ≤ (0 : Int32)) (K_20 Z8) (bv (u6 - u6 / (10 : Int32) * (10 : Int32)) fun y11 => bv (y11 - (1 : Int32)) fun y12 => calp (F_X0_isStanding Z8 y12) fun rr15 => br (rr15 = (0 : Int32)) ((F_X3_makeList_j68 u6 u7 (F_X3_makeList_l20 ka K_20 n20)) Z8) (bv (Z8.1 (39 + ka) 5) fun y19 => gd (¬ (y19 < 0 ∨ 6 ≤ ix y19)) <| bv (si Z8 (64 + ka) (ix y19) y12) fun Z21 => bv (Z21.1 (39 + ka) 5) fun y22 => bv (y22 + (1 : Int32)) fun y23 => bv (si Z21 (39 + ka) 5 y23) fun Z24 => (F_X3_makeList_j68 u6 u7 (F_X3_makeList_l20 ka K_20 n20)) Z24)))

def F_X3_makeList (Z : Mem) (ka : Nat) : Option (Mem × Unit) :=
  bv (si Z (39 + ka) 5 (0 : Int32)) fun Z1 => bv (Z1.1 (39 + ka) 3) fun y2 => br (y2 = (0 : Int32)) (bv (Z1.1 (39 + ka) 1) fun y4 => F_X3_makeList_l20 ka F_X3_makeList_x20 100 Z1 y4 (0 : Int32)) (some (Z1, ()))

set_option maxHeartbeats 4000000 in
set_option maxRecDepth 100000 in
theorem c_X3_makeList (l : Launch) (dC : Nat → ClassId) (dI : Nat → Nat → Nat) (q : Nat → ClassId) (aa : Nat → Nat) (Z : Mem) (ka : Nat) (hka : ka < 25) (sz : Nat) (Z9 : Mem) (r9 : Unit) (hF : F_X3_makeList Z ka = some (Z9, r9)) : Met l yX3_makeList wsX3_makeList ({ frames := 3, cells := 0, slots := 0, locals := 61 }) (va_Pc [.ref (aa (39 + ka)), .ref (aa 1)] (pr_ dC dI (bw q aa Z) (bty q) sz)) (va_Qv (fun (_ : Unit) => True) (fun (_ : Unit) t => po_ dC dI (bw q aa Z9) (bty q) (va_A (bw q aa Z) sz) t) (va_A (bw q aa Z) sz)) 0 0 (va_A (bw q aa Z) sz) := by
  refine Met.ofW (cc := cX3_makeList) (maxL := 5) (ret := none) (by decide) rfl ?_
  intro p e s m args below meth c s₁ B hml hv
  obtain ⟨hargs, hsz, hP, hK, hD0⟩ := hv
  have hx := B.exec
  have hb := B.bytes
  have hr := B.returns
  have hts := atoms_spec (ws := wsX3_makeList) B.pre
  have hown : s.vm.findClass RX3 = some m.cls := findClass_of_methodNamed B.named
  subst hsz
  have hD := hD0.self (sz := s.heap.size)
  generalize hAe : va_A (bw q aa Z) s.heap.size = A at hD ⊢
  have hA : ∀ x : Nat, s.heap.size ≤ x → A x := fun x h => by rw [← hAe]; exact Or.inr h
  have hS : va_S A s.heap s.heap [] := va_S.rf
  have hinX3 : ∀ w ∈ u_ws RX3 TX3 7, w ∈ wsX3_makeList := by decide +kernel
  have hl := lv_entry ([.ref (aa (39 + ka)), .ref (aa 1)]) (n := 5) (Nat.le_of_ble_eq_true rfl)
  refine w_ent hargs ?_
  rw [lg_entry_eq]
  generalize (lg_sl ([.ref (aa (39 + ka)), .ref (aa 1)]) ++ List.replicate (5 - (lg_sl ([.ref (aa (39 + ka)), .ref (aa 1)])).length) Slot.unset).toArray = ls at hl ⊢
  have hl : lv_has ls 5 [(0, .ref (aa (39 + ka))), (1, .ref (aa 1))] := hl
  unfold F_X3_makeList at hF
  refine w_go (fun Q hQ => ?_)
  refine lv_aload_n hx hb dX3_makeList_0 rfl (lv_at hl 0 rfl) ?_
  refine lv_iconst (v := 0) hx hb dX3_makeList_1 (by decide) ?_
  obtain ⟨Z1, eZ1, hF⟩ := bv_some hF
  refine va_put (D := (dC, dI)) (ci := 5) (v := .int 0) (ty := .int) (C := RX3) (T := TX3) (N := 7) hx hb hts hinX3 tyX3 tyX3_ok nmX3 hown hK hP hD hS (39 + ka) (bw_at (i := 39 + ka) (by omega) (bk_stk hka _ _)) rfl 5 (by decide) (hts (.fieldLink RX3 36 "BallotLoom$Stack" "length" "I") (by decide +kernel)) (fun _ h9 => h9) rfl (by decide +kernel) rfl rfl (Nat.le_of_ble_eq_true rfl) dX3_makeList_2 (fun H locs hP hD hS => ?_)
  have eW := wz_o (q := q) (aa := aa) (i := (39 + ka)) (ci := 5) (fs := [.int (Z.1 (39 + ka) 0), .int (Z.1 (39 + ka) 1), .int (Z.1 (39 + ka) 2), .int (Z.1 (39 + ka) 3), .ref (aa (64 + ka)), .int 0, .double (Z.2 (39 + ka) 6)]) (bk_stk hka _ _) eZ1
  have hP : va_P (dC, dI) vwCl (bw q aa Z1) H := eW ▸ hP
  have hD : va_D A (bw q aa Z1) := eW ▸ hD
  clear eW
  refine lv_aload_n hx hb dX3_makeList_5 rfl (lv_at hl 0 rfl) ?_
  refine va_get (D := (dC, dI)) (ci := 5) (v := .int (Z1.1 (39 + ka) 3)) (C := RX3) (T := TX3) (N := 7) hx hb hts hinX3 hown hK hP (39 + ka) (bw_at (i := 39 + ka) (by omega) (bk_stk hka _ _)) rfl 3 (by decide) (hts (.fieldLink RX3 28 "BallotLoom$Stack" "isSpoiled" "Z") (by decide +kernel)) (fun _ h9 => h9) rfl dX3_makeList_6 ?_
  refine lv_topi (fun y2 ey2 => ?_)
  have hF := bv_at ey2 hF
  refine lv_if_eq (tgt := 13) hx hb dX3_makeList_9 (by decide) (fun hc3 => ?_) (fun hc3 => ?_)
  · have hF := br_pos hc3 hF
    refine lv_aload_n hx hb dX3_makeList_13 rfl (lv_at hl 0 rfl) ?_
    refine va_get (D := (dC, dI)) (ci := 5) (v := .int (Z1.1 (39 + ka) 1)) (C := RX3) (T := TX3) (N := 7) hx hb hts hinX3 hown hK hP (39 + ka) (bw_at (i := 39 + ka) (by omega) (bk_stk hka _ _)) rfl 1 (by decide) (hts (.fieldLink RX3 15 "BallotLoom$Stack" "ranks" "I") (by decide +kernel)) (fun _ h9 => h9) rfl dX3_makeList_14 ?_
    refine lv_topi (fun y4 ey4 => ?_)
    have hF := bv_at ey4 hF
    refine lv_istore_n (lv' := [(2, .int y4), (0, .ref (aa (39 + ka))), (1, .ref (aa 1))]) hx hb dX3_makeList_17 rfl hl (by decide) rfl (fun ls hl => ?_)
    refine lv_iconst (v := 0) hx hb dX3_makeList_18 (by decide) ?_
    refine lv_istore_n (lv' := [(3, .int 0), (2, .int y4), (0, .ref (aa (39 + ka))), (1, .ref (aa 1))]) hx hb dX3_makeList_19 rfl hl (by decide) rfl (fun ls hl => ?_)
    have Jx20 : ∀ (Z5 : Mem) (H : Heap) (locs : List Loc) (ls : Array Slot), F_X3_makeList_x20 Z5 = some (Z9, r9) → va_P (dC, dI) vwCl (bw q aa Z5) H → va_D A (bw q aa Z5) → va_S A s.heap H locs → lv_has ls 5 [] → W p l e (headSpec wsX3_makeList ({ frames := 3, cells := 0, slots := 0, locals := 61 } : Room)).room s m args below meth c H locs 0 0 Q (F0 m 79 ls []) := by
      intro Z5 H locs ls hF hP hD hS hl
      unfold F_X3_makeList_x20 at hF
      obtain ⟨e8, e9⟩ := some2 hF
      rw [← e8] at hP hD
      subst hQ
      exact W.vret hx hb hr (fun t ht hW => ⟨⟨(), rfl, trivial, po_mk ht hW hP hK hD⟩, hS.F ht⟩) hS.2.2 dX3_makeList_79
    have L20 : ∀ (n20 : Nat) (Z8 : Mem) (u6 : Int32) (u7 : Int32) (H : Heap) (locs : List Loc) (ls : Array Slot), F_X3_makeList_l20 ka F_X3_makeList_x20 n20 Z8 u6 u7 = some (Z9, r9) → va_P (dC, dI) vwCl (bw q aa Z8) H → va_D A (bw q aa Z8) → va_S A s.heap H locs → lv_has ls 5 [(3, .int u7), (2, .int u6), (0, .ref (aa (39 + ka))), (1, .ref (aa 1))] → W p l e (headSpec wsX3_makeList ({ frames := 3, cells := 0, slots := 0, locals := 61 } : Room)).room s m args below meth c H locs 0 0 Q (F0 m 20 ls []) := by
      intro n20
      induction n20 with
      | zero =>
        intro Z8 u6 u7 H locs ls hF
        rw [F_X3_makeList_l20] at hF
        cases hF
      | succ n20 IH20 =>
        intro Z8 u6 u7 H locs ls hF hP hD hS hl
        rw [F_X3_makeList_l20] at hF
        refine lv_iload_n hx hb dX3_makeList_20 rfl (lv_at hl 0 rfl) ?_
        refine lv_bipush (v := 6) hx hb dX3_makeList_21 (by decide) ?_
        refine lv_icmp_ge (tgt := 79) hx hb dX3_makeList_23 (by decide) (fun hc9 => ?_) (fun hc9 => ?_)
        · have hF := br_pos hc9 hF
          exact Jx20 Z8 _ _ _ hF hP hD hS (lv_sub hl [] rfl)
        · have hF := br_neg hc9 hF
          refine lv_iload_n hx hb dX3_makeList_26 rfl (lv_at hl 1 rfl) ?_
          refine lv_if_le (tgt := 79) hx hb dX3_makeList_27 (by decide) (fun hc10 => ?_) (fun hc10 => ?_)
          · have hF := br_pos hc10 hF
            exact Jx20 Z8 _ _ _ hF hP hD hS (lv_sub hl [] rfl)
          · have hF := br_neg hc10 hF
            refine lv_iload_n hx hb dX3_makeList_30 rfl (lv_at hl 1 rfl) ?_
            refine lv_bipush (v := 10) hx hb dX3_makeList_31 (by decide) ?_
            refine lv_irem hx hb dX3_makeList_33 (by decide) ?_
            refine lv_topi (fun y11 ey11 => ?_)
            have hF := bv_at ey11 hF
            refine lv_iconst (v := 1) hx hb dX3_makeList_34 (by decide) ?_
            refine lv_isub hx hb dX3_makeList_35 ?_
            refine lv_topi (fun y12 ey12 => ?_)
            have hF := bv_at ey12 hF
            refine lv_istore (lv' := [(4, .int y12), (3, .int u7), (2, .int u6), (0, .ref (aa (39 + ka))), (1, .ref (aa 1))]) hx hb dX3_makeList_36 hl (by decide) rfl (fun ls hl => ?_)
            refine lv_aload_n hx hb dX3_makeList_38 rfl (lv_at hl 4 rfl) ?_
            refine lv_iload hx hb dX3_makeList_39 (lv_at hl 0 rfl) ?_
            obtain ⟨r14, hC13, hF⟩ := calp_some hF
            have hFc := b_free (ws := bw q aa Z8) hD hS hA
            refine va_calli (va_runV (As := [.int y12]) (rest := []) ⟨hx, hb, hml, hown, hts⟩ (c_X0_isStanding l dC dI q aa Z8 y12  _ _  hC13) (cwV 1 hts gX3_makeList_X0_isStanding rfl rfl rfl (by decide +kernel) ⟨Nat.le_of_ble_eq_true rfl, Nat.le_of_ble_eq_true rfl⟩) ⟨pr_blind, va_recv hK hP (ci := 2) (q0 := 1) rfl (bw_at (i := 1) (by decide) rfl), fun U hU hW => ⟨rfl, pr_mk hU hW hP hK hD⟩⟩ rfl rfl hl.1 rfl (lv_room (Nat.le_of_ble_eq_true rfl)) dX3_makeList_41 ⟨Nat.le_of_ble_eq_true rfl, Nat.le_of_ble_eq_true rfl⟩) hS (fun x _ h => hFc x h) hFc (fun rr15 u t H1 locs ht hvm hw hB hz1 hk1 hS => ?_)
            obtain ⟨hP, hK1, hD1⟩ := hB
            rw [ht] at hP
            have hD := hD1.weaken (fun _ q9 _ h9 => hFc q9.1 h9)
            clear hFc hD1 hK1 hvm hz1 hk1
            generalize H1 = H at hP hS ⊢
            refine W.widen (k := 0) (n := 0) (Nat.le_refl _) (Nat.le_refl _) ?_
            obtain rfl : rr15 = r14 := hw
            have Jj68 : ∀ (Z16 : Mem) (H : Heap) (locs : List Loc) (ls : Array Slot), (F_X3_makeList_j68 u6 u7 (F_X3_makeList_l20 ka F_X3_makeList_x20 n20)) Z16 = some (Z9, r9) → va_P (dC, dI) vwCl (bw q aa Z16) H → va_D A (bw q aa Z16) → va_S A s.heap H locs → lv_has ls 5 [(3, .int u7), (2, .int u6), (0, .ref (aa (39 + ka))), (1, .ref (aa 1))] → W p l e (headSpec wsX3_makeList ({ frames := 3, cells := 0, slots := 0, locals := 61 } : Room)).room s m args below meth c H locs 0 0 Q (F0 m 68 ls []) := by
              intro Z16 H locs ls hF hP hD hS hl
              unfold F_X3_makeList_j68 at hF
              refine lv_iload_n hx hb dX3_makeList_68 rfl (lv_at hl 1 rfl) ?_
              refine lv_bipush (v := 10) hx hb dX3_makeList_69 (by decide) ?_
              refine lv_idiv hx hb dX3_makeList_71 (by decide) ?_
              refine lv_topi (fun y17 ey17 => ?_)
              have hF := bv_at ey17 hF
              refine lv_istore_n (lv' := [(2, .int y17), (3, .int u7), (0, .ref (aa (39 + ka))), (1, .ref (aa 1))]) hx hb dX3_makeList_72 rfl hl (by decide) rfl (fun ls hl => ?_)
              refine lv_iinc (k := 1) (v := (u7 + (1 : Int32))) (lv' := [(3, .int (u7 + (1 : Int32))), (2, .int y17), (0, .ref (aa (39 + ka))), (1, .ref (aa 1))]) hx hb dX3_makeList_73 hl rfl (ii_ _ _ _ (by decide)) (by decide) rfl (fun ls hl => ?_)
              refine lv_goto (tgt := 20) hx hb dX3_makeList_76 (by decide) ?_
              exact IH20 Z16 y17 (u7 + (1 : Int32)) _ _ _ hF hP hD hS (lv_sub hl [0, 1, 2, 3] rfl)
            refine lv_if_eq (tgt := 68) hx hb dX3_makeList_44 (by decide) (fun hc18 => ?_) (fun hc18 => ?_)
            · have hF := br_pos hc18 hF
              exact Jj68 Z8 _ _ _ hF hP hD hS (lv_sub hl [1, 2, 3, 4] rfl)
            · have hF := br_neg hc18 hF
              refine lv_aload_n hx hb dX3_makeList_47 rfl (lv_at hl 3 rfl) ?_
              refine va_get (D := (dC, dI)) (ci := 5) (v := .ref (aa (64 + ka))) (C := RX3) (T := TX3) (N := 7) hx hb hts hinX3 hown hK hP (39 + ka) (bw_at (i := 39 + ka) (by omega) (bk_stk hka _ _)) rfl 4 (by decide) (hts (.fieldLink RX3 9 "BallotLoom$Stack" "list" "[I") (by decide +kernel)) (fun _ h9 => h9) rfl dX3_makeList_48 ?_
              refine lv_aload_n hx hb dX3_makeList_51 rfl (lv_at hl 3 rfl) ?_
              refine va_get (D := (dC, dI)) (ci := 5) (v := .int (Z8.1 (39 + ka) 5)) (C := RX3) (T := TX3) (N := 7) hx hb hts hinX3 hown hK hP (39 + ka) (bw_at (i := 39 + ka) (by omega) (bk_stk hka _ _)) rfl 5 (by decide) (hts (.fieldLink RX3 36 "BallotLoom$Stack" "length" "I") (by decide +kernel)) (fun _ h9 => h9) rfl dX3_makeList_52 ?_
              refine lv_topi (fun y19 ey19 => ?_)
              have hF := bv_at ey19 hF
              refine lv_iload hx hb dX3_makeList_55 (lv_at hl 0 rfl) ?_
              obtain ⟨hg20, hF⟩ := gd_some hF
              obtain ⟨Z21, eZ21, hF⟩ := bv_some hF
              refine va_iast hx hb hK hP hD hS (64 + ka) 0 (at_i (by omega) (bk_lst hka)) rfl hg20 dX3_makeList_57 (fun H locs hP hD hS => ?_)
              have eW := wz_i (q := q) (aa := aa) (i := (64 + ka)) (bk_lst hka) eZ21
              have hP : va_P (dC, dI) vwCl (bw q aa Z21) H := eW ▸ hP
              have hD : va_D A (bw q aa Z21) := eW ▸ hD
              clear eW
              refine lv_aload_n hx hb dX3_makeList_58 rfl (lv_at hl 3 rfl) ?_
              refine lv_dup hx hb dX3_makeList_59 rfl ?_
              refine va_get (D := (dC, dI)) (ci := 5) (v := .int (Z21.1 (39 + ka) 5)) (C := RX3) (T := TX3) (N := 7) hx hb hts hinX3 hown hK hP (39 + ka) (bw_at (i := 39 + ka) (by omega) (bk_stk hka _ _)) rfl 5 (by decide) (hts (.fieldLink RX3 36 "BallotLoom$Stack" "length" "I") (by decide +kernel)) (fun _ h9 => h9) rfl dX3_makeList_60 ?_
              refine lv_topi (fun y22 ey22 => ?_)
              have hF := bv_at ey22 hF
              refine lv_iconst (v := 1) hx hb dX3_makeList_63 (by decide) ?_
              refine lv_iadd hx hb dX3_makeList_64 ?_
              refine lv_topi (fun y23 ey23 => ?_)
              have hF := bv_at ey23 hF
              obtain ⟨Z24, eZ24, hF⟩ := bv_some hF
              refine va_put (D := (dC, dI)) (ci := 5) (v := .int y23) (ty := .int) (C := RX3) (T := TX3) (N := 7) hx hb hts hinX3 tyX3 tyX3_ok nmX3 hown hK hP hD hS (39 + ka) (bw_at (i := 39 + ka) (by omega) (bk_stk hka _ _)) rfl 5 (by decide) (hts (.fieldLink RX3 36 "BallotLoom$Stack" "length" "I") (by decide +kernel)) (fun _ h9 => h9) rfl (by decide +kernel) rfl rfl (Nat.le_of_ble_eq_true rfl) dX3_makeList_65 (fun H locs hP hD hS => ?_)
              have eW := wz_o (q := q) (aa := aa) (i := (39 + ka)) (ci := 5) (fs := [.int (Z21.1 (39 + ka) 0), .int (Z21.1 (39 + ka) 1), .int (Z21.1 (39 + ka) 2), .int (Z21.1 (39 + ka) 3), .ref (aa (64 + ka)), .int y23, .double (Z21.2 (39 + ka) 6)]) (bk_stk hka _ _) eZ24
              have hP : va_P (dC, dI) vwCl (bw q aa Z24) H := eW ▸ hP
              have hD : va_D A (bw q aa Z24) := eW ▸ hD
              clear eW
              exact Jj68 Z24 _ _ _ hF hP hD hS (lv_sub hl [1, 2, 3, 4] rfl)
    exact L20 100 Z1 y4 (0 : Int32) _ _ _ hF hP hD hS (lv_sub hl [0, 1, 2, 3] rfl)
  · have hF := br_neg hc3 hF
    obtain ⟨e8, e9⟩ := some2 hF
    rw [← e8] at hP hD
    subst hQ
    exact W.vret hx hb hr (fun t ht hW => ⟨⟨(), rfl, trivial, po_mk ht hW hP hK hD⟩, hS.F ht⟩) hS.2.2 dX3_makeList_12

def F_X3_setRanks (Z : Mem) (ka : Nat) (xa : Int32) : Option (Mem × Unit) :=
  bv (si Z (39 + ka) 1 xa) fun Z1 => bv (Z1.1 1 2) fun y2 => calp (F_X3_isSpoiling Z1 xa y2) fun rr5 => gd (vp_nar .boolean rr5 = rr5) <| bv (si Z1 (39 + ka) 3 rr5) fun Z7 => cal (F_X3_makeList Z7 ka) fun Z9 _ => some (Z9, ())

set_option maxHeartbeats 4000000 in
set_option maxRecDepth 100000 in
theorem c_X3_setRanks (l : Launch) (dC : Nat → ClassId) (dI : Nat → Nat → Nat) (q : Nat → ClassId) (aa : Nat → Nat) (Z : Mem) (ka : Nat) (xa : Int32) (hka : ka < 25) (sz : Nat) (Z9 : Mem) (r9 : Unit) (hF : F_X3_setRanks Z ka xa = some (Z9, r9)) : Met l yX3_setRanks wsX3_setRanks ({ frames := 4, cells := 0, slots := 0, locals := 85 }) (va_Pc [.ref (aa (39 + ka)), .int xa, .ref (aa 1)] (pr_ dC dI (bw q aa Z) (bty q) sz)) (va_Qv (fun (_ : Unit) => True) (fun (_ : Unit) t => po_ dC dI (bw q aa Z9) (bty q) (va_A (bw q aa Z) sz) t) (va_A (bw q aa Z) sz)) 0 0 (va_A (bw q aa Z) sz) := by
  refine Met.ofW (cc := cX3_setRanks) (maxL := 3) (ret := none) (by decide) rfl ?_
  intro p e s m args below meth c s₁ B hml hv
  obtain ⟨hargs, hsz, hP, hK, hD0⟩ := hv
  have hx := B.exec
  have hb := B.bytes
  have hr := B.returns
  have hts := atoms_spec (ws := wsX3_setRanks) B.pre
  have hown : s.vm.findClass RX3 = some m.cls := findClass_of_methodNamed B.named
  subst hsz
  have hD := hD0.self (sz := s.heap.size)
  generalize hAe : va_A (bw q aa Z) s.heap.size = A at hD ⊢
  have hA : ∀ x : Nat, s.heap.size ≤ x → A x := fun x h => by rw [← hAe]; exact Or.inr h
  have hS : va_S A s.heap s.heap [] := va_S.rf
  have hinX0 : ∀ w ∈ u_ws RX0 TX0 11, w ∈ wsX3_setRanks := by decide +kernel
  have hinX3 : ∀ w ∈ u_ws RX3 TX3 7, w ∈ wsX3_setRanks := by decide +kernel
  have hl := lv_entry ([.ref (aa (39 + ka)), .int xa, .ref (aa 1)]) (n := 3) (Nat.le_of_ble_eq_true rfl)
  refine w_ent hargs ?_
  rw [lg_entry_eq]
  generalize (lg_sl ([.ref (aa (39 + ka)), .int xa, .ref (aa 1)]) ++ List.replicate (3 - (lg_sl ([.ref (aa (39 + ka)), .int xa, .ref (aa 1)])).length) Slot.unset).toArray = ls at hl ⊢
  have hl : lv_has ls 3 [(0, .ref (aa (39 + ka))), (1, .int xa), (2, .ref (aa 1))] := hl
  unfold F_X3_setRanks at hF
  refine w_go (fun Q hQ => ?_)
  refine lv_aload_n hx hb dX3_setRanks_0 rfl (lv_at hl 0 rfl) ?_
  refine lv_iload_n hx hb dX3_setRanks_1 rfl (lv_at hl 1 rfl) ?_
  obtain ⟨Z1, eZ1, hF⟩ := bv_some hF
  refine va_put (D := (dC, dI)) (ci := 5) (v := .int xa) (ty := .int) (C := RX3) (T := TX3) (N := 7) hx hb hts hinX3 tyX3 tyX3_ok nmX3 hown hK hP hD hS (39 + ka) (bw_at (i := 39 + ka) (by omega) (bk_stk hka _ _)) rfl 1 (by decide) (hts (.fieldLink RX3 15 "BallotLoom$Stack" "ranks" "I") (by decide +kernel)) (fun _ h9 => h9) rfl (by decide +kernel) rfl rfl (Nat.le_of_ble_eq_true rfl) dX3_setRanks_2 (fun H locs hP hD hS => ?_)
  have eW := wz_o (q := q) (aa := aa) (i := (39 + ka)) (ci := 5) (fs := [.int (Z.1 (39 + ka) 0), .int xa, .int (Z.1 (39 + ka) 2), .int (Z.1 (39 + ka) 3), .ref (aa (64 + ka)), .int (Z.1 (39 + ka) 5), .double (Z.2 (39 + ka) 6)]) (bk_stk hka _ _) eZ1
  have hP : va_P (dC, dI) vwCl (bw q aa Z1) H := eW ▸ hP
  have hD : va_D A (bw q aa Z1) := eW ▸ hD
  clear eW
  refine lv_aload_n hx hb dX3_setRanks_5 rfl (lv_at hl 0 rfl) ?_
  refine lv_iload_n hx hb dX3_setRanks_6 rfl (lv_at hl 1 rfl) ?_
  refine lv_aload_n hx hb dX3_setRanks_7 rfl (lv_at hl 2 rfl) ?_
  refine va_get (D := (dC, dI)) (ci := 2) (v := .int (Z1.1 1 2)) (C := RX0) (T := TX0) (N := 11) hx hb hts hinX0 hown hK hP 1 (bw_at (i := 1) (by decide) rfl) rfl 2 (by decide) (hts (.fieldLink RX3 19 "BallotLoom$Box" "candidates" "I") (by decide +kernel)) (fun _ h9 => h9) rfl dX3_setRanks_8 ?_
  refine lv_topi (fun y2 ey2 => ?_)
  have hF := bv_at ey2 hF
  obtain ⟨r4, hC3, hF⟩ := calp_some hF
  have hFc := b_free (ws := bw q aa Z1) hD hS hA
  refine va_calli (va_runS (As := [.int xa, .int y2]) (rest := [.ref (aa (39 + ka))]) ⟨hx, hb, hml, hown, hts⟩ (c_X3_isSpoiling l dC dI q aa Z1 xa y2  _ _  hC3) (va_cwS 2 hts gX3_setRanks_X3_isSpoiling rfl rfl rfl (by decide +kernel) ⟨Nat.le_of_ble_eq_true rfl, Nat.le_of_ble_eq_true rfl⟩) ⟨pr_blind, fun U hU hW => ⟨rfl, pr_mk hU hW hP hK hD⟩⟩ rfl rfl hl.1 rfl (lv_room (Nat.le_of_ble_eq_true rfl)) dX3_setRanks_11 ⟨Nat.le_of_ble_eq_true rfl, Nat.le_of_ble_eq_true rfl⟩) hS (fun x _ h => hFc x h) hFc (fun rr5 u t H1 locs ht hvm hw hB hz1 hk1 hS => ?_)
  obtain ⟨hP, hK1, hD1⟩ := hB
  rw [ht] at hP
  have hD := hD1.weaken (fun _ q9 _ h9 => hFc q9.1 h9)
  clear hFc hD1 hK1 hvm hz1 hk1
  generalize H1 = H at hP hS ⊢
  refine W.widen (k := 0) (n := 0) (Nat.le_refl _) (Nat.le_refl _) ?_
  obtain rfl : rr5 = r4 := hw
  obtain ⟨hg6, hF⟩ := gd_some hF
  obtain ⟨Z7, eZ7, hF⟩ := bv_some hF
  refine va_put (D := (dC, dI)) (ci := 5) (v := .int rr5) (ty := .boolean) (C := RX3) (T := TX3) (N := 7) hx hb hts hinX3 tyX3 tyX3_ok nmX3 hown hK hP hD hS (39 + ka) (bw_at (i := 39 + ka) (by omega) (bk_stk hka _ _)) rfl 3 (by decide) (hts (.fieldLink RX3 28 "BallotLoom$Stack" "isSpoiled" "Z") (by decide +kernel)) (fun _ h9 => h9) rfl (by decide +kernel) (nar_b hg6) rfl (Nat.le_of_ble_eq_true rfl) dX3_setRanks_14 (fun H locs hP hD hS => ?_)
  have eW := wz_o (q := q) (aa := aa) (i := (39 + ka)) (ci := 5) (fs := [.int (Z1.1 (39 + ka) 0), .int (Z1.1 (39 + ka) 1), .int (Z1.1 (39 + ka) 2), .int rr5, .ref (aa (64 + ka)), .int (Z1.1 (39 + ka) 5), .double (Z1.2 (39 + ka) 6)]) (bk_stk hka _ _) eZ7
  have hP : va_P (dC, dI) vwCl (bw q aa Z7) H := eW ▸ hP
  have hD : va_D A (bw q aa Z7) := eW ▸ hD
  clear eW
  refine lv_aload_n hx hb dX3_setRanks_17 rfl (lv_at hl 0 rfl) ?_
  refine lv_aload_n hx hb dX3_setRanks_18 rfl (lv_at hl 2 rfl) ?_
  obtain ⟨Z9, _, hC8, hF⟩ := cal_some hF
  have hFc := b_free (ws := bw q aa Z7) hD hS hA
  refine va_callv (va_runV (As := [.ref (aa 1)]) (rest := []) ⟨hx, hb, hml, hown, hts⟩ (c_X3_makeList l dC dI q aa Z7 ka hka _ _ _  hC8) (cwV 1 hts gX3_setRanks_X3_makeList rfl rfl rfl (by decide +kernel) ⟨Nat.le_of_ble_eq_true rfl, Nat.le_of_ble_eq_true rfl⟩) ⟨pr_blind, va_recv hK hP (ci := 5) (q0 := (39 + ka)) rfl (bw_at (i := 39 + ka) (by omega) (bk_stk hka _ _)), fun U hU hW => ⟨rfl, pr_mk hU hW hP hK hD⟩⟩ rfl rfl hl.1 rfl (lv_room (Nat.le_of_ble_eq_true rfl)) dX3_setRanks_19 ⟨Nat.le_of_ble_eq_true rfl, Nat.le_of_ble_eq_true rfl⟩) hS (fun x _ h => hFc x h) hFc (fun u t H1 locs ht hvm hw hB hz1 hk1 hS => ?_)
  obtain ⟨hP, hK1, hD1⟩ := hB
  rw [ht] at hP
  have hD := hD1.weaken (fun _ q9 _ h9 => hFc q9.1 h9)
  clear hFc hD1 hK1 hvm hz1 hk1
  generalize H1 = H at hP hS ⊢
  refine W.widen (k := 0) (n := 0) (Nat.le_refl _) (Nat.le_refl _) ?_
  obtain ⟨e8, e9⟩ := some2 hF
  rw [← e8] at hP hD
  subst hQ
  exact W.vret hx hb hr (fun t ht hW => ⟨⟨(), rfl, trivial, po_mk ht hW hP hK hD⟩, hS.F ht⟩) hS.2.2 dX3_setRanks_22

def F_X3_setListWithFirst_x15 (Z5 : Mem) : Option (Mem × Unit) :=
  some (Z5, ())

def F_X3_setListWithFirst_j43 (ka : Nat) (kb : Nat) (Z7 : Mem) (u6 : Int32) (B_15 : Mem → Int32 → Option (Mem × Unit)) (v10 : Int32) : Option (Mem × Unit) :=
  bv (Z7.1 (39 + ka) 5) fun y11 => gd (¬ (v10 < 0 ∨ 6 ≤ ix v10)) <| bv (Z7.1 (64 + kb) (ix v10)) fun y13 => gd (¬ (y11 < 0 ∨ 6 ≤ ix y11)) <| bv (si Z7 (64 + ka) (ix y11) y13) fun Z15 => bv (Z15.1 (39 + ka) 5) fun y16 => bv (y16 + (1 : Int32)) fun y17 => bv (si Z15 (39 + ka) 5 y17) fun Z18 => B_15 Z18 (u6 + (1 : Int32))

def F_X3_setListWithFirst_l15 (ka : Nat) (kb : Nat) (xa : Int32) (K_15 : Mem → Option (Mem × Unit)) : Nat → Mem → Int32 → Option (Mem × Unit)
  | 0, _, _ => none
  | n15 + 1, Z7, u6 =>
  bv (Z7.1 (39 + kb) 5) fun y8 => br (y8 ≤ u6) (K_15 Z7) (br (¬ u6 = (0 : Int32)) (br (xa < u6) ((F_X3_setListWithFirst_j43 ka kb Z7 u6 (F_X3_setListWithFirst_l15 ka kb xa K_15 n15)) u6) (bv (u6 - (1 : Int32)) fun y21 => (F_X3_setListWithFirst_j43 ka kb Z7 u6 (F_X3_setListWithFirst_l15 ka kb xa K_15 n15)) y21)) ((F_X3_setListWithFirst_j43 ka kb Z7 u6 (F_X3_setListWithFirst_l15 ka kb xa K_15 n15)) xa))

def F_X3_setListWithFirst (Z : Mem) (ka : Nat) (kb : Nat) (xa : Int32) : Option (Mem × Unit) :=
  bv (Z.1 (39 + kb) 3) fun y1 => gd (vp_nar .boolean y1 = y1) <| bv (si Z (39 + ka) 3 y1) fun Z3 => bv (si Z3 (39 + ka) 5 (0 : Int32)) fun Z4 => F_X3_setListWithFirst_l15 ka kb xa F_X3_setListWithFirst_x15 100 Z4 (0 : Int32)

set_option maxHeartbeats 4000000 in
set_option maxRecDepth 100000 in
theorem c_X3_setListWithFirst (l : Launch) (dC : Nat → ClassId) (dI : Nat → Nat → Nat) (q : Nat → ClassId) (aa : Nat → Nat) (Z : Mem) (ka : Nat) (kb : Nat) (xa : Int32) (hka : ka < 25) (hkb : kb < 25) (sz : Nat) (Z9 : Mem) (r9 : Unit) (hF : F_X3_setListWithFirst Z ka kb xa = some (Z9, r9)) : Met l yX3_setListWithFirst wsX3_setListWithFirst ({ frames := 2, cells := 0, slots := 0, locals := 40 }) (va_Pc [.ref (aa (39 + ka)), .ref (aa (39 + kb)), .int xa] (pr_ dC dI (bw q aa Z) (bty q) sz)) (va_Qv (fun (_ : Unit) => True) (fun (_ : Unit) t => po_ dC dI (bw q aa Z9) (bty q) (va_A (bw q aa Z) sz) t) (va_A (bw q aa Z) sz)) 0 0 (va_A (bw q aa Z) sz) := by
  refine Met.ofW (cc := cX3_setListWithFirst) (maxL := 5) (ret := none) (by decide) rfl ?_
  intro p e s m args below meth c s₁ B hml hv
  obtain ⟨hargs, hsz, hP, hK, hD0⟩ := hv
  have hx := B.exec
  have hb := B.bytes
  have hr := B.returns
  have hts := atoms_spec (ws := wsX3_setListWithFirst) B.pre
  have hown : s.vm.findClass RX3 = some m.cls := findClass_of_methodNamed B.named
  subst hsz
  have hD := hD0.self (sz := s.heap.size)
  generalize hAe : va_A (bw q aa Z) s.heap.size = A at hD ⊢
  have hA : ∀ x : Nat, s.heap.size ≤ x → A x := fun x h => by rw [← hAe]; exact Or.inr h
  have hS : va_S A s.heap s.heap [] := va_S.rf
  have hinX3 : ∀ w ∈ u_ws RX3 TX3 7, w ∈ wsX3_setListWithFirst := by decide +kernel
  have hl := lv_entry ([.ref (aa (39 + ka)), .ref (aa (39 + kb)), .int xa]) (n := 5) (Nat.le_of_ble_eq_true rfl)
  refine w_ent hargs ?_
  rw [lg_entry_eq]
  generalize (lg_sl ([.ref (aa (39 + ka)), .ref (aa (39 + kb)), .int xa]) ++ List.replicate (5 - (lg_sl ([.ref (aa (39 + ka)), .ref (aa (39 + kb)), .int xa])).length) Slot.unset).toArray = ls at hl ⊢
  have hl : lv_has ls 5 [(0, .ref (aa (39 + ka))), (1, .ref (aa (39 + kb))), (2, .int xa)] := hl
  unfold F_X3_setListWithFirst at hF
  refine w_go (fun Q hQ => ?_)
  refine lv_aload_n hx hb dX3_setListWithFirst_0 rfl (lv_at hl 0 rfl) ?_
  refine lv_aload_n hx hb dX3_setListWithFirst_1 rfl (lv_at hl 1 rfl) ?_
  refine va_get (D := (dC, dI)) (ci := 5) (v := .int (Z.1 (39 + kb) 3)) (C := RX3) (T := TX3) (N := 7) hx hb hts hinX3 hown hK hP (39 + kb) (bw_at (i := 39 + kb) (by omega) (bk_stk hkb _ _)) rfl 3 (by decide) (hts (.fieldLink RX3 28 "BallotLoom$Stack" "isSpoiled" "Z") (by decide +kernel)) (fun _ h9 => h9) rfl dX3_setListWithFirst_2 ?_
  refine lv_topi (fun y1 ey1 => ?_)
  have hF := bv_at ey1 hF
  obtain ⟨hg2, hF⟩ := gd_some hF
  obtain ⟨Z3, eZ3, hF⟩ := bv_some hF
  refine va_put (D := (dC, dI)) (ci := 5) (v := .int y1) (ty := .boolean) (C := RX3) (T := TX3) (N := 7) hx hb hts hinX3 tyX3 tyX3_ok nmX3 hown hK hP hD hS (39 + ka) (bw_at (i := 39 + ka) (by omega) (bk_stk hka _ _)) rfl 3 (by decide) (hts (.fieldLink RX3 28 "BallotLoom$Stack" "isSpoiled" "Z") (by decide +kernel)) (fun _ h9 => h9) rfl (by decide +kernel) (nar_b hg2) rfl (Nat.le_of_ble_eq_true rfl) dX3_setListWithFirst_5 (fun H locs hP hD hS => ?_)
  have eW := wz_o (q := q) (aa := aa) (i := (39 + ka)) (ci := 5) (fs := [.int (Z.1 (39 + ka) 0), .int (Z.1 (39 + ka) 1), .int (Z.1 (39 + ka) 2), .int y1, .ref (aa (64 + ka)), .int (Z.1 (39 + ka) 5), .double (Z.2 (39 + ka) 6)]) (bk_stk hka _ _) eZ3
  have hP : va_P (dC, dI) vwCl (bw q aa Z3) H := eW ▸ hP
  have hD : va_D A (bw q aa Z3) := eW ▸ hD
  clear eW
  refine lv_aload_n hx hb dX3_setListWithFirst_8 rfl (lv_at hl 0 rfl) ?_
  refine lv_iconst (v := 0) hx hb dX3_setListWithFirst_9 (by decide) ?_
  obtain ⟨Z4, eZ4, hF⟩ := bv_some hF
  refine va_put (D := (dC, dI)) (ci := 5) (v := .int 0) (ty := .int) (C := RX3) (T := TX3) (N := 7) hx hb hts hinX3 tyX3 tyX3_ok nmX3 hown hK hP hD hS (39 + ka) (bw_at (i := 39 + ka) (by omega) (bk_stk hka _ _)) rfl 5 (by decide) (hts (.fieldLink RX3 36 "BallotLoom$Stack" "length" "I") (by decide +kernel)) (fun _ h9 => h9) rfl (by decide +kernel) rfl rfl (Nat.le_of_ble_eq_true rfl) dX3_setListWithFirst_10 (fun H locs hP hD hS => ?_)
  have eW := wz_o (q := q) (aa := aa) (i := (39 + ka)) (ci := 5) (fs := [.int (Z3.1 (39 + ka) 0), .int (Z3.1 (39 + ka) 1), .int (Z3.1 (39 + ka) 2), .int (Z3.1 (39 + ka) 3), .ref (aa (64 + ka)), .int 0, .double (Z3.2 (39 + ka) 6)]) (bk_stk hka _ _) eZ4
  have hP : va_P (dC, dI) vwCl (bw q aa Z4) H := eW ▸ hP
  have hD : va_D A (bw q aa Z4) := eW ▸ hD
  clear eW
  refine lv_iconst (v := 0) hx hb dX3_setListWithFirst_13 (by decide) ?_
  refine lv_istore_n (lv' := [(3, .int 0), (0, .ref (aa (39 + ka))), (1, .ref (aa (39 + kb))), (2, .int xa)]) hx hb dX3_setListWithFirst_14 rfl hl (by decide) rfl (fun ls hl => ?_)
  have Jx15 : ∀ (Z5 : Mem) (H : Heap) (locs : List Loc) (ls : Array Slot), F_X3_setListWithFirst_x15 Z5 = some (Z9, r9) → va_P (dC, dI) vwCl (bw q aa Z5) H → va_D A (bw q aa Z5) → va_S A s.heap H locs → lv_has ls 5 [] → W p l e (headSpec wsX3_setListWithFirst ({ frames := 2, cells := 0, slots := 0, locals := 40 } : Room)).room s m args below meth c H locs 0 0 Q (F0 m 77 ls []) := by
    intro Z5 H locs ls hF hP hD hS hl
    unfold F_X3_setListWithFirst_x15 at hF
    obtain ⟨e8, e9⟩ := some2 hF
    rw [← e8] at hP hD
    subst hQ
    exact W.vret hx hb hr (fun t ht hW => ⟨⟨(), rfl, trivial, po_mk ht hW hP hK hD⟩, hS.F ht⟩) hS.2.2 dX3_setListWithFirst_77
  have L15 : ∀ (n15 : Nat) (Z7 : Mem) (u6 : Int32) (H : Heap) (locs : List Loc) (ls : Array Slot), F_X3_setListWithFirst_l15 ka kb xa F_X3_setListWithFirst_x15 n15 Z7 u6 = some (Z9, r9) → va_P (dC, dI) vwCl (bw q aa Z7) H → va_D A (bw q aa Z7) → va_S A s.heap H locs → lv_has ls 5 [(3, .int u6), (0, .ref (aa (39 + ka))), (1, .ref (aa (39 + kb))), (2, .int xa)] → W p l e (headSpec wsX3_setListWithFirst ({ frames := 2, cells := 0, slots := 0, locals := 40 } : Room)).room s m args below meth c H locs 0 0 Q (F0 m 15 ls []) := by
    intro n15
    induction n15 with
    | zero =>
      intro Z7 u6 H locs ls hF
      rw [F_X3_setListWithFirst_l15] at hF
      cases hF
    | succ n15 IH15 =>
      intro Z7 u6 H locs ls hF hP hD hS hl
      rw [F_X3_setListWithFirst_l15] at hF
      refine lv_iload_n hx hb dX3_setListWithFirst_15 rfl (lv_at hl 0 rfl) ?_
      refine lv_aload_n hx hb dX3_setListWithFirst_16 rfl (lv_at hl 2 rfl) ?_
      refine va_get (D := (dC, dI)) (ci := 5) (v := .int (Z7.1 (39 + kb) 5)) (C := RX3) (T := TX3) (N := 7) hx hb hts hinX3 hown hK hP (39 + kb) (bw_at (i := 39 + kb) (by omega) (bk_stk hkb _ _)) rfl 5 (by decide) (hts (.fieldLink RX3 36 "BallotLoom$Stack" "length" "I") (by decide +kernel)) (fun _ h9 => h9) rfl dX3_setListWithFirst_17 ?_
      refine lv_topi (fun y8 ey8 => ?_)
      have hF := bv_at ey8 hF
      refine lv_icmp_ge (tgt := 77) hx hb dX3_setListWithFirst_20 (by decide) (fun hc9 => ?_) (fun hc9 => ?_)
      · have hF := br_pos hc9 hF
        exact Jx15 Z7 _ _ _ hF hP hD hS (lv_sub hl [] rfl)
      · have hF := br_neg hc9 hF
        refine lv_iload_n hx hb dX3_setListWithFirst_23 rfl (lv_at hl 0 rfl) ?_
        have Jj43 : ∀ (v10 : Int32) (H : Heap) (locs : List Loc) (ls : Array Slot), (F_X3_setListWithFirst_j43 ka kb Z7 u6 (F_X3_setListWithFirst_l15 ka kb xa F_X3_setListWithFirst_x15 n15)) v10 = some (Z9, r9) → va_P (dC, dI) vwCl (bw q aa Z7) H → va_D A (bw q aa Z7) → va_S A s.heap H locs → lv_has ls 5 [(3, .int u6), (0, .ref (aa (39 + ka))), (1, .ref (aa (39 + kb))), (2, .int xa)] → W p l e (headSpec wsX3_setListWithFirst ({ frames := 2, cells := 0, slots := 0, locals := 40 } : Room)).room s m args below meth c H locs 0 0 Q (F0 m 43 ls [.int v10]) := by
          intro v10 H locs ls hF hP hD hS hl
          unfold F_X3_setListWithFirst_j43 at hF
          refine lv_istore (lv' := [(4, .int v10), (3, .int u6), (0, .ref (aa (39 + ka))), (1, .ref (aa (39 + kb))), (2, .int xa)]) hx hb dX3_setListWithFirst_43 hl (by decide) rfl (fun ls hl => ?_)
          refine lv_aload_n hx hb dX3_setListWithFirst_45 rfl (lv_at hl 2 rfl) ?_
          refine va_get (D := (dC, dI)) (ci := 5) (v := .ref (aa (64 + ka))) (C := RX3) (T := TX3) (N := 7) hx hb hts hinX3 hown hK hP (39 + ka) (bw_at (i := 39 + ka) (by omega) (bk_stk hka _ _)) rfl 4 (by decide) (hts (.fieldLink RX3 9 "BallotLoom$Stack" "list" "[I") (by decide +kernel)) (fun _ h9 => h9) rfl dX3_setListWithFirst_46 ?_
          refine lv_aload_n hx hb dX3_setListWithFirst_49 rfl (lv_at hl 2 rfl) ?_
          refine va_get (D := (dC, dI)) (ci := 5) (v := .int (Z7.1 (39 + ka) 5)) (C := RX3) (T := TX3) (N := 7) hx hb hts hinX3 hown hK hP (39 + ka) (bw_at (i := 39 + ka) (by omega) (bk_stk hka _ _)) rfl 5 (by decide) (hts (.fieldLink RX3 36 "BallotLoom$Stack" "length" "I") (by decide +kernel)) (fun _ h9 => h9) rfl dX3_setListWithFirst_50 ?_
          refine lv_topi (fun y11 ey11 => ?_)
          have hF := bv_at ey11 hF
          refine lv_aload_n hx hb dX3_setListWithFirst_53 rfl (lv_at hl 3 rfl) ?_
          refine va_get (D := (dC, dI)) (ci := 5) (v := .ref (aa (64 + kb))) (C := RX3) (T := TX3) (N := 7) hx hb hts hinX3 hown hK hP (39 + kb) (bw_at (i := 39 + kb) (by omega) (bk_stk hkb _ _)) rfl 4 (by decide) (hts (.fieldLink RX3 9 "BallotLoom$Stack" "list" "[I") (by decide +kernel)) (fun _ h9 => h9) rfl dX3_setListWithFirst_54 ?_
          refine lv_iload hx hb dX3_setListWithFirst_57 (lv_at hl 0 rfl) ?_
          obtain ⟨hg12, hF⟩ := gd_some hF
          refine va_iald hx hb hK hP (64 + kb) 0 (at_i (by omega) (bk_lst hkb)) rfl hg12 dX3_setListWithFirst_59 ?_
          refine lv_topi (fun y13 ey13 => ?_)
          have hF := bv_at ey13 hF
          obtain ⟨hg14, hF⟩ := gd_some hF
          obtain ⟨Z15, eZ15, hF⟩ := bv_some hF
          refine va_iast hx hb hK hP hD hS (64 + ka) 0 (at_i (by omega) (bk_lst hka)) rfl hg14 dX3_setListWithFirst_60 (fun H locs hP hD hS => ?_)
          have eW := wz_i (q := q) (aa := aa) (i := (64 + ka)) (bk_lst hka) eZ15
          have hP : va_P (dC, dI) vwCl (bw q aa Z15) H := eW ▸ hP
          have hD : va_D A (bw q aa Z15) := eW ▸ hD
          clear eW
          refine lv_aload_n hx hb dX3_setListWithFirst_61 rfl (lv_at hl 2 rfl) ?_
          refine lv_dup hx hb dX3_setListWithFirst_62 rfl ?_
          refine va_get (D := (dC, dI)) (ci := 5) (v := .int (Z15.1 (39 + ka) 5)) (C := RX3) (T := TX3) (N := 7) hx hb hts hinX3 hown hK hP (39 + ka) (bw_at (i := 39 + ka) (by omega) (bk_stk hka _ _)) rfl 5 (by decide) (hts (.fieldLink RX3 36 "BallotLoom$Stack" "length" "I") (by decide +kernel)) (fun _ h9 => h9) rfl dX3_setListWithFirst_63 ?_
          refine lv_topi (fun y16 ey16 => ?_)
          have hF := bv_at ey16 hF
          refine lv_iconst (v := 1) hx hb dX3_setListWithFirst_66 (by decide) ?_
          refine lv_iadd hx hb dX3_setListWithFirst_67 ?_
          refine lv_topi (fun y17 ey17 => ?_)
          have hF := bv_at ey17 hF
          obtain ⟨Z18, eZ18, hF⟩ := bv_some hF
          refine va_put (D := (dC, dI)) (ci := 5) (v := .int y17) (ty := .int) (C := RX3) (T := TX3) (N := 7) hx hb hts hinX3 tyX3 tyX3_ok nmX3 hown hK hP hD hS (39 + ka) (bw_at (i := 39 + ka) (by omega) (bk_stk hka _ _)) rfl 5 (by decide) (hts (.fieldLink RX3 36 "BallotLoom$Stack" "length" "I") (by decide +kernel)) (fun _ h9 => h9) rfl (by decide +kernel) rfl rfl (Nat.le_of_ble_eq_true rfl) dX3_setListWithFirst_68 (fun H locs hP hD hS => ?_)
          have eW := wz_o (q := q) (aa := aa) (i := (39 + ka)) (ci := 5) (fs := [.int (Z15.1 (39 + ka) 0), .int (Z15.1 (39 + ka) 1), .int (Z15.1 (39 + ka) 2), .int (Z15.1 (39 + ka) 3), .ref (aa (64 + ka)), .int y17, .double (Z15.2 (39 + ka) 6)]) (bk_stk hka _ _) eZ18
          have hP : va_P (dC, dI) vwCl (bw q aa Z18) H := eW ▸ hP
          have hD : va_D A (bw q aa Z18) := eW ▸ hD
          clear eW
          refine lv_iinc (k := 1) (v := (u6 + (1 : Int32))) (lv' := [(3, .int (u6 + (1 : Int32))), (4, .int v10), (0, .ref (aa (39 + ka))), (1, .ref (aa (39 + kb))), (2, .int xa)]) hx hb dX3_setListWithFirst_71 hl rfl (ii_ _ _ _ (by decide)) (by decide) rfl (fun ls hl => ?_)
          refine lv_goto (tgt := 15) hx hb dX3_setListWithFirst_74 (by decide) ?_
          exact IH15 Z18 (u6 + (1 : Int32)) _ _ _ hF hP hD hS (lv_sub hl [0, 2, 3, 4] rfl)
        refine lv_if_ne (tgt := 31) hx hb dX3_setListWithFirst_24 (by decide) (fun hc19 => ?_) (fun hc19 => ?_)
        · have hF := br_pos hc19 hF
          refine lv_iload_n hx hb dX3_setListWithFirst_31 rfl (lv_at hl 0 rfl) ?_
          refine lv_iload_n hx hb dX3_setListWithFirst_32 rfl (lv_at hl 3 rfl) ?_
          refine lv_icmp_gt (tgt := 42) hx hb dX3_setListWithFirst_33 (by decide) (fun hc20 => ?_) (fun hc20 => ?_)
          · have hF := br_pos hc20 hF
            refine lv_iload_n hx hb dX3_setListWithFirst_42 rfl (lv_at hl 0 rfl) ?_
            exact Jj43 u6 _ _ _ hF hP hD hS (lv_sub hl [0, 1, 2, 3] rfl)
          · have hF := br_neg hc20 hF
            refine lv_iload_n hx hb dX3_setListWithFirst_36 rfl (lv_at hl 0 rfl) ?_
            refine lv_iconst (v := 1) hx hb dX3_setListWithFirst_37 (by decide) ?_
            refine lv_isub hx hb dX3_setListWithFirst_38 ?_
            refine lv_topi (fun y21 ey21 => ?_)
            have hF := bv_at ey21 hF
            refine lv_goto (tgt := 43) hx hb dX3_setListWithFirst_39 (by decide) ?_
            exact Jj43 y21 _ _ _ hF hP hD hS (lv_sub hl [0, 1, 2, 3] rfl)
        · have hF := br_neg hc19 hF
          refine lv_iload_n hx hb dX3_setListWithFirst_27 rfl (lv_at hl 3 rfl) ?_
          refine lv_goto (tgt := 43) hx hb dX3_setListWithFirst_28 (by decide) ?_
          exact Jj43 xa _ _ _ hF hP hD hS (lv_sub hl [0, 1, 2, 3] rfl)
  exact L15 100 Z4 (0 : Int32) _ _ _ hF hP hD hS (lv_sub hl [0, 1, 2, 3] rfl)
end
