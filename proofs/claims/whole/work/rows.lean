section
-- ===== PART A: goes FIRST, ahead of the names: the tables' words, and 'selects' of the private methods out of them =====
/-- a private method of a class that the tables say can be made, by its rows of tables_1 -/
def lw_okq (q : MethodName × Nat) : Prop := (q.1.cls ≠ "java/lang/invoke/MethodHandle" ∧ q.1.cls ≠ "java/lang/invoke/VarHandle") ∧ Cond.instantiable q.1.cls q.2 ∈ tables_1 ∧ Cond.privateMethod q.1 ∈ tables_1 ∧ Cond.instanceMethod q.1 ∈ tables_1
theorem lw_p0 : lw_okq (⟨"FairQueue", "finding", "(I)J"⟩, 13) := ⟨⟨by decide +kernel, by decide +kernel⟩, List.mem_of_getElem? (i := 14) (by decide +kernel), List.mem_of_getElem? (i := 218) (by decide +kernel), List.mem_of_getElem? (i := 219) (by decide +kernel)⟩
theorem lw_p1 : lw_okq (⟨"FairQueue", "partyOf", "(III)I"⟩, 13) := ⟨⟨by decide +kernel, by decide +kernel⟩, List.mem_of_getElem? (i := 14) (by decide +kernel), List.mem_of_getElem? (i := 354) (by decide +kernel), List.mem_of_getElem? (i := 355) (by decide +kernel)⟩
theorem lw_p2 : lw_okq (⟨"FairQueue$Pairings", "add", "(IJ)V"⟩, 6) := ⟨⟨by decide +kernel, by decide +kernel⟩, List.mem_of_getElem? (i := 61) (by decide +kernel), List.mem_of_getElem? (i := 434) (by decide +kernel), List.mem_of_getElem? (i := 435) (by decide +kernel)⟩
theorem lw_p3 : lw_okq (⟨"FairQueue", "hasPairing", "(LFairQueue$Queue;I)Z"⟩, 13) := ⟨⟨by decide +kernel, by decide +kernel⟩, List.mem_of_getElem? (i := 14) (by decide +kernel), List.mem_of_getElem? (i := 438) (by decide +kernel), List.mem_of_getElem? (i := 439) (by decide +kernel)⟩
theorem lw_p4 : lw_okq (⟨"FairQueue$Pairings", "seekSecond", "(I)V"⟩, 6) := ⟨⟨by decide +kernel, by decide +kernel⟩, List.mem_of_getElem? (i := 61) (by decide +kernel), List.mem_of_getElem? (i := 447) (by decide +kernel), List.mem_of_getElem? (i := 448) (by decide +kernel)⟩
theorem lw_p5 : lw_okq (⟨"FairQueue", "planTick", "(LFairQueue$Queue;)V"⟩, 13) := ⟨⟨by decide +kernel, by decide +kernel⟩, List.mem_of_getElem? (i := 14) (by decide +kernel), List.mem_of_getElem? (i := 459) (by decide +kernel), List.mem_of_getElem? (i := 460) (by decide +kernel)⟩
theorem lw_p6 : lw_okq (⟨"FairQueue", "anyPairing", "(LFairQueue$Queue;)Z"⟩, 13) := ⟨⟨by decide +kernel, by decide +kernel⟩, List.mem_of_getElem? (i := 14) (by decide +kernel), List.mem_of_getElem? (i := 463) (by decide +kernel), List.mem_of_getElem? (i := 464) (by decide +kernel)⟩
theorem lw_p7 : lw_okq (⟨"FairQueue$Player", "moveNext", "([J)V"⟩, 5) := ⟨⟨by decide +kernel, by decide +kernel⟩, List.mem_of_getElem? (i := 226) (by decide +kernel), List.mem_of_getElem? (i := 530) (by decide +kernel), List.mem_of_getElem? (i := 531) (by decide +kernel)⟩
theorem lw_p8 : lw_okq (⟨"FairQueue$Player", "greatestNext", "()I"⟩, 5) := ⟨⟨by decide +kernel, by decide +kernel⟩, List.mem_of_getElem? (i := 226) (by decide +kernel), List.mem_of_getElem? (i := 534) (by decide +kernel), List.mem_of_getElem? (i := 535) (by decide +kernel)⟩
theorem lw_p9 : lw_okq (⟨"FairQueue", "isTold", "(II)Z"⟩, 13) := ⟨⟨by decide +kernel, by decide +kernel⟩, List.mem_of_getElem? (i := 14) (by decide +kernel), List.mem_of_getElem? (i := 603) (by decide +kernel), List.mem_of_getElem? (i := 604) (by decide +kernel)⟩
theorem lw_p10 : lw_okq (⟨"FairQueueModel", "finding", "(J)J"⟩, 33) := ⟨⟨by decide +kernel, by decide +kernel⟩, List.mem_of_getElem? (i := 616) (by decide +kernel), List.mem_of_getElem? (i := 736) (by decide +kernel), List.mem_of_getElem? (i := 737) (by decide +kernel)⟩
theorem lw_p11 : lw_okq (⟨"FairQueueModel", "isPlayer", "(I)Z"⟩, 33) := ⟨⟨by decide +kernel, by decide +kernel⟩, List.mem_of_getElem? (i := 616) (by decide +kernel), List.mem_of_getElem? (i := 751) (by decide +kernel), List.mem_of_getElem? (i := 752) (by decide +kernel)⟩
theorem lw_p12 : lw_okq (⟨"FairQueueModel", "meanOf", "(I)J"⟩, 33) := ⟨⟨by decide +kernel, by decide +kernel⟩, List.mem_of_getElem? (i := 616) (by decide +kernel), List.mem_of_getElem? (i := 759) (by decide +kernel), List.mem_of_getElem? (i := 760) (by decide +kernel)⟩
theorem lw_p13 : lw_okq (⟨"FairQueueModel", "layAside", "()V"⟩, 33) := ⟨⟨by decide +kernel, by decide +kernel⟩, List.mem_of_getElem? (i := 616) (by decide +kernel), List.mem_of_getElem? (i := 784) (by decide +kernel), List.mem_of_getElem? (i := 785) (by decide +kernel)⟩
theorem lw_p14 : lw_okq (⟨"FairQueueModel", "chanceOf", "(II)J"⟩, 33) := ⟨⟨by decide +kernel, by decide +kernel⟩, List.mem_of_getElem? (i := 616) (by decide +kernel), List.mem_of_getElem? (i := 788) (by decide +kernel), List.mem_of_getElem? (i := 789) (by decide +kernel)⟩
theorem lw_p15 : lw_okq (⟨"FairQueueModel", "chanceAt", "(II)J"⟩, 33) := ⟨⟨by decide +kernel, by decide +kernel⟩, List.mem_of_getElem? (i := 616) (by decide +kernel), List.mem_of_getElem? (i := 792) (by decide +kernel), List.mem_of_getElem? (i := 793) (by decide +kernel)⟩
def lw_privs_1 : List (MethodName × Nat) := [(⟨"FairQueue", "finding", "(I)J"⟩, 13), (⟨"FairQueue", "partyOf", "(III)I"⟩, 13), (⟨"FairQueue$Pairings", "add", "(IJ)V"⟩, 6), (⟨"FairQueue", "hasPairing", "(LFairQueue$Queue;I)Z"⟩, 13), (⟨"FairQueue$Pairings", "seekSecond", "(I)V"⟩, 6), (⟨"FairQueue", "planTick", "(LFairQueue$Queue;)V"⟩, 13), (⟨"FairQueue", "anyPairing", "(LFairQueue$Queue;)Z"⟩, 13), (⟨"FairQueue$Player", "moveNext", "([J)V"⟩, 5), (⟨"FairQueue$Player", "greatestNext", "()I"⟩, 5), (⟨"FairQueue", "isTold", "(II)Z"⟩, 13), (⟨"FairQueueModel", "finding", "(J)J"⟩, 33), (⟨"FairQueueModel", "isPlayer", "(I)Z"⟩, 33), (⟨"FairQueueModel", "meanOf", "(I)J"⟩, 33), (⟨"FairQueueModel", "layAside", "()V"⟩, 33), (⟨"FairQueueModel", "chanceOf", "(II)J"⟩, 33), (⟨"FairQueueModel", "chanceAt", "(II)J"⟩, 33)]
theorem lw_r1 : ∀ q ∈ lw_privs_1, lw_okq q := List.forall_mem_cons.mpr ⟨lw_p0, List.forall_mem_cons.mpr ⟨lw_p1, List.forall_mem_cons.mpr ⟨lw_p2, List.forall_mem_cons.mpr ⟨lw_p3, List.forall_mem_cons.mpr ⟨lw_p4, List.forall_mem_cons.mpr ⟨lw_p5, List.forall_mem_cons.mpr ⟨lw_p6, List.forall_mem_cons.mpr ⟨lw_p7, List.forall_mem_cons.mpr ⟨lw_p8, List.forall_mem_cons.mpr ⟨lw_p9, List.forall_mem_cons.mpr ⟨lw_p10, List.forall_mem_cons.mpr ⟨lw_p11, List.forall_mem_cons.mpr ⟨lw_p12, List.forall_mem_cons.mpr ⟨lw_p13, List.forall_mem_cons.mpr ⟨lw_p14, List.forall_mem_cons.mpr ⟨lw_p15, fun _ h => absurd h List.not_mem_nil⟩⟩⟩⟩⟩⟩⟩⟩⟩⟩⟩⟩⟩⟩⟩⟩
theorem lw_p16 : lw_okq (⟨"FairQueueModel", "somePlays", "()Z"⟩, 33) := ⟨⟨by decide +kernel, by decide +kernel⟩, List.mem_of_getElem? (i := 616) (by decide +kernel), List.mem_of_getElem? (i := 805) (by decide +kernel), List.mem_of_getElem? (i := 806) (by decide +kernel)⟩
theorem lw_p17 : lw_okq (⟨"FairQueueModel", "isBusy", "(I)Z"⟩, 33) := ⟨⟨by decide +kernel, by decide +kernel⟩, List.mem_of_getElem? (i := 616) (by decide +kernel), List.mem_of_getElem? (i := 824) (by decide +kernel), List.mem_of_getElem? (i := 825) (by decide +kernel)⟩
theorem lw_p18 : lw_okq (⟨"FairQueueModel", "partyOf", "(I)I"⟩, 33) := ⟨⟨by decide +kernel, by decide +kernel⟩, List.mem_of_getElem? (i := 616) (by decide +kernel), List.mem_of_getElem? (i := 828) (by decide +kernel), List.mem_of_getElem? (i := 829) (by decide +kernel)⟩
theorem lw_p19 : lw_okq (⟨"FairQueueModel", "matchOf", "(I)I"⟩, 33) := ⟨⟨by decide +kernel, by decide +kernel⟩, List.mem_of_getElem? (i := 616) (by decide +kernel), List.mem_of_getElem? (i := 832) (by decide +kernel), List.mem_of_getElem? (i := 833) (by decide +kernel)⟩
theorem lw_p20 : lw_okq (⟨"FairQueueModel", "takeOut", "(I)V"⟩, 33) := ⟨⟨by decide +kernel, by decide +kernel⟩, List.mem_of_getElem? (i := 616) (by decide +kernel), List.mem_of_getElem? (i := 841) (by decide +kernel), List.mem_of_getElem? (i := 842) (by decide +kernel)⟩
theorem lw_p21 : lw_okq (⟨"FairQueueModel", "boundOf", "(I)J"⟩, 33) := ⟨⟨by decide +kernel, by decide +kernel⟩, List.mem_of_getElem? (i := 616) (by decide +kernel), List.mem_of_getElem? (i := 849) (by decide +kernel), List.mem_of_getElem? (i := 850) (by decide +kernel)⟩
theorem lw_p22 : lw_okq (⟨"FairQueueModel", "laySets", "()V"⟩, 33) := ⟨⟨by decide +kernel, by decide +kernel⟩, List.mem_of_getElem? (i := 616) (by decide +kernel), List.mem_of_getElem? (i := 857) (by decide +kernel), List.mem_of_getElem? (i := 858) (by decide +kernel)⟩
theorem lw_p23 : lw_okq (⟨"FairQueueModel", "playersOf", "(I)I"⟩, 33) := ⟨⟨by decide +kernel, by decide +kernel⟩, List.mem_of_getElem? (i := 616) (by decide +kernel), List.mem_of_getElem? (i := 861) (by decide +kernel), List.mem_of_getElem? (i := 862) (by decide +kernel)⟩
theorem lw_p24 : lw_okq (⟨"FairQueueModel", "findPairing", "(II)Z"⟩, 33) := ⟨⟨by decide +kernel, by decide +kernel⟩, List.mem_of_getElem? (i := 616) (by decide +kernel), List.mem_of_getElem? (i := 865) (by decide +kernel), List.mem_of_getElem? (i := 866) (by decide +kernel)⟩
theorem lw_p25 : lw_okq (⟨"FairQueueModel", "plan", "()V"⟩, 33) := ⟨⟨by decide +kernel, by decide +kernel⟩, List.mem_of_getElem? (i := 616) (by decide +kernel), List.mem_of_getElem? (i := 873) (by decide +kernel), List.mem_of_getElem? (i := 874) (by decide +kernel)⟩
theorem lw_p26 : lw_okq (⟨"FairQueueModel", "playing", "()I"⟩, 33) := ⟨⟨by decide +kernel, by decide +kernel⟩, List.mem_of_getElem? (i := 616) (by decide +kernel), List.mem_of_getElem? (i := 877) (by decide +kernel), List.mem_of_getElem? (i := 878) (by decide +kernel)⟩
theorem lw_p27 : lw_okq (⟨"FairQueueModel", "teamChance", "(II)J"⟩, 33) := ⟨⟨by decide +kernel, by decide +kernel⟩, List.mem_of_getElem? (i := 616) (by decide +kernel), List.mem_of_getElem? (i := 889) (by decide +kernel), List.mem_of_getElem? (i := 890) (by decide +kernel)⟩
theorem lw_p28 : lw_okq (⟨"FairQueueModel", "endMatch", "(II)I"⟩, 33) := ⟨⟨by decide +kernel, by decide +kernel⟩, List.mem_of_getElem? (i := 616) (by decide +kernel), List.mem_of_getElem? (i := 897) (by decide +kernel), List.mem_of_getElem? (i := 898) (by decide +kernel)⟩
theorem lw_p29 : lw_okq (⟨"FairQueueModel", "takeResult", "(III)Z"⟩, 33) := ⟨⟨by decide +kernel, by decide +kernel⟩, List.mem_of_getElem? (i := 616) (by decide +kernel), List.mem_of_getElem? (i := 901) (by decide +kernel), List.mem_of_getElem? (i := 902) (by decide +kernel)⟩
theorem lw_p30 : lw_okq (⟨"FairQueueModel", "undoubted", "(I)I"⟩, 33) := ⟨⟨by decide +kernel, by decide +kernel⟩, List.mem_of_getElem? (i := 616) (by decide +kernel), List.mem_of_getElem? (i := 905) (by decide +kernel), List.mem_of_getElem? (i := 906) (by decide +kernel)⟩
theorem lw_p31 : lw_okq (⟨"FairQueueModel", "keepSurprise", "(IJ)V"⟩, 33) := ⟨⟨by decide +kernel, by decide +kernel⟩, List.mem_of_getElem? (i := 616) (by decide +kernel), List.mem_of_getElem? (i := 910) (by decide +kernel), List.mem_of_getElem? (i := 911) (by decide +kernel)⟩
def lw_privs_2 : List (MethodName × Nat) := [(⟨"FairQueueModel", "somePlays", "()Z"⟩, 33), (⟨"FairQueueModel", "isBusy", "(I)Z"⟩, 33), (⟨"FairQueueModel", "partyOf", "(I)I"⟩, 33), (⟨"FairQueueModel", "matchOf", "(I)I"⟩, 33), (⟨"FairQueueModel", "takeOut", "(I)V"⟩, 33), (⟨"FairQueueModel", "boundOf", "(I)J"⟩, 33), (⟨"FairQueueModel", "laySets", "()V"⟩, 33), (⟨"FairQueueModel", "playersOf", "(I)I"⟩, 33), (⟨"FairQueueModel", "findPairing", "(II)Z"⟩, 33), (⟨"FairQueueModel", "plan", "()V"⟩, 33), (⟨"FairQueueModel", "playing", "()I"⟩, 33), (⟨"FairQueueModel", "teamChance", "(II)J"⟩, 33), (⟨"FairQueueModel", "endMatch", "(II)I"⟩, 33), (⟨"FairQueueModel", "takeResult", "(III)Z"⟩, 33), (⟨"FairQueueModel", "undoubted", "(I)I"⟩, 33), (⟨"FairQueueModel", "keepSurprise", "(IJ)V"⟩, 33)]
theorem lw_r2 : ∀ q ∈ lw_privs_2, lw_okq q := List.forall_mem_cons.mpr ⟨lw_p16, List.forall_mem_cons.mpr ⟨lw_p17, List.forall_mem_cons.mpr ⟨lw_p18, List.forall_mem_cons.mpr ⟨lw_p19, List.forall_mem_cons.mpr ⟨lw_p20, List.forall_mem_cons.mpr ⟨lw_p21, List.forall_mem_cons.mpr ⟨lw_p22, List.forall_mem_cons.mpr ⟨lw_p23, List.forall_mem_cons.mpr ⟨lw_p24, List.forall_mem_cons.mpr ⟨lw_p25, List.forall_mem_cons.mpr ⟨lw_p26, List.forall_mem_cons.mpr ⟨lw_p27, List.forall_mem_cons.mpr ⟨lw_p28, List.forall_mem_cons.mpr ⟨lw_p29, List.forall_mem_cons.mpr ⟨lw_p30, List.forall_mem_cons.mpr ⟨lw_p31, fun _ h => absurd h List.not_mem_nil⟩⟩⟩⟩⟩⟩⟩⟩⟩⟩⟩⟩⟩⟩⟩⟩
theorem lw_p32 : lw_okq (⟨"FairQueueModel", "moveTable", "(III)V"⟩, 33) := ⟨⟨by decide +kernel, by decide +kernel⟩, List.mem_of_getElem? (i := 616) (by decide +kernel), List.mem_of_getElem? (i := 914) (by decide +kernel), List.mem_of_getElem? (i := 915) (by decide +kernel)⟩
theorem lw_p33 : lw_okq (⟨"FairQueueModel", "surpriseSum", "(I)J"⟩, 33) := ⟨⟨by decide +kernel, by decide +kernel⟩, List.mem_of_getElem? (i := 616) (by decide +kernel), List.mem_of_getElem? (i := 927) (by decide +kernel), List.mem_of_getElem? (i := 928) (by decide +kernel)⟩
def lw_privs_3 : List (MethodName × Nat) := [(⟨"FairQueueModel", "moveTable", "(III)V"⟩, 33), (⟨"FairQueueModel", "surpriseSum", "(I)J"⟩, 33)]
theorem lw_r3 : ∀ q ∈ lw_privs_3, lw_okq q := List.forall_mem_cons.mpr ⟨lw_p32, List.forall_mem_cons.mpr ⟨lw_p33, fun _ h => absurd h List.not_mem_nil⟩⟩
def lw_privs : List (MethodName × Nat) := lw_privs_1 ++ (lw_privs_2 ++ (lw_privs_3))
def lw_tbl : List Cond := k2_sels lw_privs ++ tables_1
theorem lw_privs_ok : ∀ q ∈ lw_privs, lw_okq q := by
  show ∀ q ∈ lw_privs_1 ++ (lw_privs_2 ++ (lw_privs_3)), lw_okq q
  exact List.forall_mem_append.mpr ⟨lw_r1, List.forall_mem_append.mpr ⟨lw_r2, lw_r3⟩⟩
-- ===== end of PART A; then your names; then what follows =====
end
section
/-! ===== BEGIN words of one list among another's, by their places ===== -/
theorem goodIn_r {big : List Cond} (ws : List Cond) (ps : List Nat) (hp : ws = ps.filterMap (fun i => big[i]?)) (h : ws.all goodWord = true) : GoodIn big ws := by
  intro w hw
  have h1 := List.all_eq_true.mp h w hw
  rw [hp] at hw
  obtain ⟨i, -, hi⟩ := List.mem_filterMap.mp hw
  have hm : w ∈ big := by first | exact List.mem_of_getElem? hi | exact List.getElem?_mem hi
  exact ⟨hm, good_of_word h1⟩
theorem goodIn_app {big a b : List Cond} (ha : GoodIn big a) (hb : GoodIn big b) : GoodIn big (a ++ b) := fun w h => (List.mem_append.mp h).elim (ha w) (hb w)
theorem goodIn_ca {big a b : List Cond} {c : Cond} (ha : GoodIn big (c :: a)) (hb : GoodIn big b) : GoodIn big (c :: (a ++ b)) := fun w h => (List.mem_cons.mp h).elim (fun e => ha w (List.mem_cons.mpr (Or.inl e))) (fun h => (List.mem_append.mp h).elim (fun h => ha w (List.mem_cons.mpr (Or.inr h))) (hb w))
theorem goodIn_sub {big ws : List Cond} (hm : ∀ w ∈ ws, w ∈ big) (h : ws.all goodWord = true) : GoodIn big ws := fun w hw => ⟨hm w hw, good_of_word (List.all_eq_true.mp h w hw)⟩
/-! ===== END ===== -/

/-! ===== BEGIN printed: names, fields, word lists, decode rows ===== -/
def RX0 : String := "FairQueue$Bounds"
def TX0 : u_T := fun k => match k with
  | 0 => ("FairQueue$Bounds", "base", "J", false)
  | 1 => ("FairQueue$Bounds", "step", "J", false)
  | _ => ("FairQueue$Bounds", "top", "J", false)
def tyX0 : Nat → FieldType := fun k => match k with
  | 0 => .long
  | 1 => .long
  | _ => .long
abbrev wsX00 : List Cond := u_ws RX0 TX0 3
theorem nmX0 : ∀ a, a < 3 → ∀ b, b < 3 → a ≠ b → (TX0 a).2.1 ≠ (TX0 b).2.1 := by decide +kernel
theorem tyX0_ok : ∀ k, k < 3 → parseFieldDescriptor (TX0 k).2.2.1 = some (tyX0 k) := by decide +kernel
abbrev cX0_init : ByteArray := prog_2_method_1_code
def yX0_init : MethodName := ⟨RX0, "<init>", "()V"⟩
abbrev cX0_behind : ByteArray := prog_2_method_2_code
def yX0_behind : MethodName := ⟨RX0, "behind", "(J)J"⟩
def RX1 : String := "FairQueue$Match"
def TX1 : u_T := fun k => match k with
  | 0 => ("FairQueue$Match", "first", "I", false)
  | 1 => ("FairQueue$Match", "second", "I", false)
  | 2 => ("FairQueue$Match", "dropped", "I", false)
  | _ => ("FairQueue$Match", "made", "J", false)
def tyX1 : Nat → FieldType := fun k => match k with
  | 0 => .int
  | 1 => .int
  | 2 => .int
  | _ => .long
abbrev wsX10 : List Cond := u_ws RX1 TX1 4
theorem nmX1 : ∀ a, a < 4 → ∀ b, b < 4 → a ≠ b → (TX1 a).2.1 ≠ (TX1 b).2.1 := by decide +kernel
theorem tyX1_ok : ∀ k, k < 4 → parseFieldDescriptor (TX1 k).2.2.1 = some (tyX1 k) := by decide +kernel
abbrev cX1_init : ByteArray := prog_3_method_1_code
def yX1_init : MethodName := ⟨RX1, "<init>", "()V"⟩
abbrev cX1_clear : ByteArray := prog_3_method_2_code
def yX1_clear : MethodName := ⟨RX1, "clear", "()V"⟩
abbrev cX1_goesOn : ByteArray := prog_3_method_3_code
def yX1_goesOn : MethodName := ⟨RX1, "goesOn", "()Z"⟩
abbrev cX1_playing : ByteArray := prog_3_method_4_code
def yX1_playing : MethodName := ⟨RX1, "playing", "()I"⟩
abbrev cX1_rivalsOf : ByteArray := prog_3_method_5_code
def yX1_rivalsOf : MethodName := ⟨RX1, "rivalsOf", "(I)I"⟩
abbrev cX1_isDeserted : ByteArray := prog_3_method_6_code
def yX1_isDeserted : MethodName := ⟨RX1, "isDeserted", "()Z"⟩
abbrev cX1_resultOfDeserted : ByteArray := prog_3_method_7_code
def yX1_resultOfDeserted : MethodName := ⟨RX1, "resultOfDeserted", "()I"⟩
def RX2 : String := "FairQueue$Matches"
def TX2 : u_T := fun k => match k with
  | 0 => ("FairQueue$Matches", "row", "[LFairQueue$Match;", true)
  | _ => ("FairQueue$Matches", "ended", "J", false)
def tyX2 : Nat → FieldType := fun k => match k with
  | 0 => .array (.object "FairQueue$Match")
  | _ => .long
abbrev wsX20 : List Cond := u_ws RX2 TX2 2
theorem nmX2 : ∀ a, a < 2 → ∀ b, b < 2 → a ≠ b → (TX2 a).2.1 ≠ (TX2 b).2.1 := by decide +kernel
theorem tyX2_ok : ∀ k, k < 2 → parseFieldDescriptor (TX2 k).2.2.1 = some (tyX2 k) := by decide +kernel
abbrev cX2_init : ByteArray := prog_4_method_1_code
def yX2_init : MethodName := ⟨RX2, "<init>", "()V"⟩
abbrev cX2_at : ByteArray := prog_4_method_2_code
def yX2_at : MethodName := ⟨RX2, "at", "(I)LFairQueue$Match;"⟩
abbrev cX2_going : ByteArray := prog_4_method_3_code
def yX2_going : MethodName := ⟨RX2, "going", "()I"⟩
abbrev cX2_everybody : ByteArray := prog_4_method_4_code
def yX2_everybody : MethodName := ⟨RX2, "everybody", "()I"⟩
abbrev cX2_withPlayer : ByteArray := prog_4_method_5_code
def yX2_withPlayer : MethodName := ⟨RX2, "withPlayer", "(I)LFairQueue$Match;"⟩
abbrev cX2_begin : ByteArray := prog_4_method_6_code
def yX2_begin : MethodName := ⟨RX2, "begin", "(IIJ)V"⟩
abbrev cX2_finish : ByteArray := prog_4_method_7_code
def yX2_finish : MethodName := ⟨RX2, "finish", "(LFairQueue$Match;ILFairQueue$Players;)I"⟩
def RX3 : String := "FairQueue$Pairings"
def TX3 : u_T := fun k => match k with
  | 0 => ("FairQueue$Pairings", "teams", "[I", true)
  | 1 => ("FairQueue$Pairings", "means", "[J", true)
  | 2 => ("FairQueue$Pairings", "number", "I", false)
  | 3 => ("FairQueue$Pairings", "first", "I", false)
  | 4 => ("FairQueue$Pairings", "second", "I", false)
  | _ => ("FairQueue$Pairings", "uneven", "J", false)
def tyX3 : Nat → FieldType := fun k => match k with
  | 0 => .array .int
  | 1 => .array .long
  | 2 => .int
  | 3 => .int
  | 4 => .int
  | _ => .long
abbrev wsX30 : List Cond := u_ws RX3 TX3 6
theorem nmX3 : ∀ a, a < 6 → ∀ b, b < 6 → a ≠ b → (TX3 a).2.1 ≠ (TX3 b).2.1 := by decide +kernel
theorem tyX3_ok : ∀ k, k < 6 → parseFieldDescriptor (TX3 k).2.2.1 = some (tyX3 k) := by decide +kernel
abbrev cX3_init : ByteArray := prog_5_method_1_code
def yX3_init : MethodName := ⟨RX3, "<init>", "()V"⟩
abbrev cX3_gather : ByteArray := prog_5_method_2_code
def yX3_gather : MethodName := ⟨RX3, "gather", "(LFairQueue$Queue;LFairQueue$Players;I)V"⟩
abbrev cX3_add : ByteArray := prog_5_method_3_code
def yX3_add : MethodName := ⟨RX3, "add", "(IJ)V"⟩
abbrev cX3_seek : ByteArray := prog_5_method_4_code
def yX3_seek : MethodName := ⟨RX3, "seek", "(I)Z"⟩
abbrev cX3_seekSecond : ByteArray := prog_5_method_5_code
def yX3_seekSecond : MethodName := ⟨RX3, "seekSecond", "(I)V"⟩
def RX4 : String := "FairQueue$Plan"
def TX4 : u_T := fun k => match k with
  | 0 => ("FairQueue$Plan", "firsts", "[I", true)
  | 1 => ("FairQueue$Plan", "seconds", "[I", true)
  | _ => ("FairQueue$Plan", "made", "I", false)
def tyX4 : Nat → FieldType := fun k => match k with
  | 0 => .array .int
  | 1 => .array .int
  | _ => .int
abbrev wsX40 : List Cond := u_ws RX4 TX4 3
theorem nmX4 : ∀ a, a < 3 → ∀ b, b < 3 → a ≠ b → (TX4 a).2.1 ≠ (TX4 b).2.1 := by decide +kernel
theorem tyX4_ok : ∀ k, k < 3 → parseFieldDescriptor (TX4 k).2.2.1 = some (tyX4 k) := by decide +kernel
abbrev cX4_init : ByteArray := prog_6_method_1_code
def yX4_init : MethodName := ⟨RX4, "<init>", "()V"⟩
abbrev cX4_add : ByteArray := prog_6_method_2_code
def yX4_add : MethodName := ⟨RX4, "add", "(II)V"⟩
abbrev cX4_firstAt : ByteArray := prog_6_method_3_code
def yX4_firstAt : MethodName := ⟨RX4, "firstAt", "(I)I"⟩
abbrev cX4_secondAt : ByteArray := prog_6_method_4_code
def yX4_secondAt : MethodName := ⟨RX4, "secondAt", "(I)I"⟩
def RX5 : String := "FairQueue$Player"
def TX5 : u_T := fun k => match k with
  | 0 => ("FairQueue$Player", "kind", "I", false)
  | 1 => ("FairQueue$Player", "shares", "[J", true)
  | 2 => ("FairQueue$Player", "next", "[J", true)
  | 3 => ("FairQueue$Player", "surprises", "[J", true)
  | _ => ("FairQueue$Player", "kept", "I", false)
def tyX5 : Nat → FieldType := fun k => match k with
  | 0 => .int
  | 1 => .array .long
  | 2 => .array .long
  | 3 => .array .long
  | _ => .int
abbrev wsX50 : List Cond := u_ws RX5 TX5 5
theorem nmX5 : ∀ a, a < 5 → ∀ b, b < 5 → a ≠ b → (TX5 a).2.1 ≠ (TX5 b).2.1 := by decide +kernel
theorem tyX5_ok : ∀ k, k < 5 → parseFieldDescriptor (TX5 k).2.2.1 = some (tyX5 k) := by decide +kernel
abbrev cX5_init : ByteArray := prog_7_method_1_code
def yX5_init : MethodName := ⟨RX5, "<init>", "(I)V"⟩
abbrev cX5_ownMean : ByteArray := prog_7_method_2_code
def yX5_ownMean : MethodName := ⟨RX5, "ownMean", "()J"⟩
abbrev cX5_drawToTheMiddle : ByteArray := prog_7_method_3_code
def yX5_drawToTheMiddle : MethodName := ⟨RX5, "drawToTheMiddle", "()V"⟩
abbrev cX5_reckonNext : ByteArray := prog_7_method_4_code
def yX5_reckonNext : MethodName := ⟨RX5, "reckonNext", "([J)V"⟩
abbrev cX5_moveNext : ByteArray := prog_7_method_5_code
def yX5_moveNext : MethodName := ⟨RX5, "moveNext", "([J)V"⟩
abbrev cX5_greatestNext : ByteArray := prog_7_method_6_code
def yX5_greatestNext : MethodName := ⟨RX5, "greatestNext", "()I"⟩
abbrev cX5_settle : ByteArray := prog_7_method_7_code
def yX5_settle : MethodName := ⟨RX5, "settle", "()V"⟩
abbrev cX5_keepSurprise : ByteArray := prog_7_method_8_code
def yX5_keepSurprise : MethodName := ⟨RX5, "keepSurprise", "(J)V"⟩
abbrev cX5_sumOfSurprises : ByteArray := prog_7_method_9_code
def yX5_sumOfSurprises : MethodName := ⟨RX5, "sumOfSurprises", "()J"⟩
def RX6 : String := "FairQueue$Players"
def TX6 : u_T := fun k => match k with
  | 0 => ("FairQueue$Players", "row", "[LFairQueue$Player;", true)
  | 1 => ("FairQueue$Players", "factors", "[J", true)
  | _ => ("FairQueue$Players", "number", "I", false)
def tyX6 : Nat → FieldType := fun k => match k with
  | 0 => .array (.object "FairQueue$Player")
  | 1 => .array .long
  | _ => .int
abbrev wsX60 : List Cond := u_ws RX6 TX6 3
theorem nmX6 : ∀ a, a < 3 → ∀ b, b < 3 → a ≠ b → (TX6 a).2.1 ≠ (TX6 b).2.1 := by decide +kernel
theorem tyX6_ok : ∀ k, k < 3 → parseFieldDescriptor (TX6 k).2.2.1 = some (tyX6 k) := by decide +kernel
abbrev cX6_init : ByteArray := prog_8_method_1_code
def yX6_init : MethodName := ⟨RX6, "<init>", "()V"⟩
abbrev cX6_at : ByteArray := prog_8_method_2_code
def yX6_at : MethodName := ⟨RX6, "at", "(I)LFairQueue$Player;"⟩
abbrev cX6_admit : ByteArray := prog_8_method_3_code
def yX6_admit : MethodName := ⟨RX6, "admit", "(I)I"⟩
abbrev cX6_drawToTheMiddle : ByteArray := prog_8_method_4_code
def yX6_drawToTheMiddle : MethodName := ⟨RX6, "drawToTheMiddle", "()V"⟩
abbrev cX6_meansOf : ByteArray := prog_8_method_5_code
def yX6_meansOf : MethodName := ⟨RX6, "meansOf", "(I)J"⟩
abbrev cX6_undoubted : ByteArray := prog_8_method_6_code
def yX6_undoubted : MethodName := ⟨RX6, "undoubted", "(I)I"⟩
abbrev cX6_chanceAt : ByteArray := prog_8_method_7_code
def yX6_chanceAt : MethodName := ⟨RX6, "chanceAt", "(II)J"⟩
abbrev cX6_oddsAgainst : ByteArray := prog_8_method_8_code
def yX6_oddsAgainst : MethodName := ⟨RX6, "oddsAgainst", "(ILFairQueue$Player;)J"⟩
abbrev cX6_chanceOf : ByteArray := prog_8_method_9_code
def yX6_chanceOf : MethodName := ⟨RX6, "chanceOf", "(LFairQueue$Player;I)J"⟩
abbrev cX6_teamChance : ByteArray := prog_8_method_10_code
def yX6_teamChance : MethodName := ⟨RX6, "teamChance", "(II)J"⟩
abbrev cX6_reckon : ByteArray := prog_8_method_11_code
def yX6_reckon : MethodName := ⟨RX6, "reckon", "(LFairQueue$Player;II)Z"⟩
abbrev cX6_factorOf : ByteArray := prog_8_method_12_code
def yX6_factorOf : MethodName := ⟨RX6, "factorOf", "(JI)J"⟩
abbrev cX6_reckonTeam : ByteArray := prog_8_method_13_code
def yX6_reckonTeam : MethodName := ⟨RX6, "reckonTeam", "(III)I"⟩
abbrev cX6_settleTeam : ByteArray := prog_8_method_14_code
def yX6_settleTeam : MethodName := ⟨RX6, "settleTeam", "(I)V"⟩
def RX7 : String := "FairQueue$Queue"
def TX7 : u_T := fun k => match k with
  | 0 => ("FairQueue$Queue", "parties", "[I", true)
  | 1 => ("FairQueue$Queue", "since", "[J", true)
  | _ => ("FairQueue$Queue", "waiting", "I", false)
def tyX7 : Nat → FieldType := fun k => match k with
  | 0 => .array .int
  | 1 => .array .long
  | _ => .int
abbrev wsX70 : List Cond := u_ws RX7 TX7 3
theorem nmX7 : ∀ a, a < 3 → ∀ b, b < 3 → a ≠ b → (TX7 a).2.1 ≠ (TX7 b).2.1 := by decide +kernel
theorem tyX7_ok : ∀ k, k < 3 → parseFieldDescriptor (TX7 k).2.2.1 = some (tyX7 k) := by decide +kernel
abbrev cX7_init : ByteArray := prog_9_method_1_code
def yX7_init : MethodName := ⟨RX7, "<init>", "()V"⟩
abbrev cX7_copyOf : ByteArray := prog_9_method_2_code
def yX7_copyOf : MethodName := ⟨RX7, "copyOf", "(LFairQueue$Queue;)V"⟩
abbrev cX7_join : ByteArray := prog_9_method_3_code
def yX7_join : MethodName := ⟨RX7, "join", "(IJ)Z"⟩
abbrev cX7_partyAt : ByteArray := prog_9_method_4_code
def yX7_partyAt : MethodName := ⟨RX7, "partyAt", "(I)I"⟩
abbrev cX7_sinceAt : ByteArray := prog_9_method_5_code
def yX7_sinceAt : MethodName := ⟨RX7, "sinceAt", "(I)J"⟩
abbrev cX7_everybody : ByteArray := prog_9_method_6_code
def yX7_everybody : MethodName := ⟨RX7, "everybody", "()I"⟩
abbrev cX7_playersAt : ByteArray := prog_9_method_7_code
def yX7_playersAt : MethodName := ⟨RX7, "playersAt", "(I)I"⟩
abbrev cX7_placeOf : ByteArray := prog_9_method_8_code
def yX7_placeOf : MethodName := ⟨RX7, "placeOf", "(I)I"⟩
abbrev cX7_release : ByteArray := prog_9_method_9_code
def yX7_release : MethodName := ⟨RX7, "release", "(I)V"⟩
def RX8 : String := "FairQueue"
def TX8 : u_T := fun k => match k with
  | 0 => ("FairQueue", "players", "LFairQueue$Players;", true)
  | 1 => ("FairQueue", "queue", "LFairQueue$Queue;", true)
  | 2 => ("FairQueue", "trial", "LFairQueue$Queue;", true)
  | 3 => ("FairQueue", "pairings", "LFairQueue$Pairings;", true)
  | 4 => ("FairQueue", "plan", "LFairQueue$Plan;", true)
  | 5 => ("FairQueue", "matches", "LFairQueue$Matches;", true)
  | 6 => ("FairQueue", "bounds", "LFairQueue$Bounds;", true)
  | 7 => ("FairQueue", "told", "[J", true)
  | 8 => ("FairQueue", "findings", "[J", true)
  | 9 => ("FairQueue", "toldCount", "I", false)
  | 10 => ("FairQueue", "teamSize", "I", false)
  | 11 => ("FairQueue", "limit", "J", false)
  | _ => ("FairQueue", "tick", "J", false)
def tyX8 : Nat → FieldType := fun k => match k with
  | 0 => .object "FairQueue$Players"
  | 1 => .object "FairQueue$Queue"
  | 2 => .object "FairQueue$Queue"
  | 3 => .object "FairQueue$Pairings"
  | 4 => .object "FairQueue$Plan"
  | 5 => .object "FairQueue$Matches"
  | 6 => .object "FairQueue$Bounds"
  | 7 => .array .long
  | 8 => .array .long
  | 9 => .int
  | 10 => .int
  | 11 => .long
  | _ => .long
abbrev wsX80 : List Cond := u_ws RX8 TX8 13
theorem nmX8 : ∀ a, a < 13 → ∀ b, b < 13 → a ≠ b → (TX8 a).2.1 ≠ (TX8 b).2.1 := by decide +kernel
theorem tyX8_ok : ∀ k, k < 13 → parseFieldDescriptor (TX8 k).2.2.1 = some (tyX8 k) := by decide +kernel
abbrev cX8_init : ByteArray := prog_1_method_1_code
def yX8_init : MethodName := ⟨RX8, "<init>", "()V"⟩
abbrev cX8_player : ByteArray := prog_1_method_2_code
def yX8_player : MethodName := ⟨RX8, "player", "(I)J"⟩
abbrev cX8_become : ByteArray := prog_1_method_3_code
def yX8_become : MethodName := ⟨RX8, "become", "(II)J"⟩
abbrev cX8_as : ByteArray := prog_1_method_4_code
def yX8_as : MethodName := ⟨RX8, "as", "(II)J"⟩
abbrev cX8_share : ByteArray := prog_1_method_5_code
def yX8_share : MethodName := ⟨RX8, "share", "(II)J"⟩
abbrev cX8_shift : ByteArray := prog_1_method_6_code
def yX8_shift : MethodName := ⟨RX8, "shift", "(IIII)J"⟩
abbrev cX8_mean : ByteArray := prog_1_method_7_code
def yX8_mean : MethodName := ⟨RX8, "mean", "(I)J"⟩
abbrev cX8_chance : ByteArray := prog_1_method_8_code
def yX8_chance : MethodName := ⟨RX8, "chance", "(II)J"⟩
abbrev cX8_season : ByteArray := prog_1_method_9_code
def yX8_season : MethodName := ⟨RX8, "season", "()J"⟩
abbrev cX8_size : ByteArray := prog_1_method_10_code
def yX8_size : MethodName := ⟨RX8, "size", "(I)J"⟩
abbrev cX8_bounds : ByteArray := prog_1_method_11_code
def yX8_bounds : MethodName := ⟨RX8, "bounds", "(III)J"⟩
abbrev cX8_wait : ByteArray := prog_1_method_12_code
def yX8_wait : MethodName := ⟨RX8, "wait", "(III)J"⟩
abbrev cX8_leave : ByteArray := prog_1_method_13_code
def yX8_leave : MethodName := ⟨RX8, "leave", "(I)J"⟩
abbrev cX8_waited : ByteArray := prog_1_method_14_code
def yX8_waited : MethodName := ⟨RX8, "waited", "(IZ)J"⟩
abbrev cX8_pairing : ByteArray := prog_1_method_15_code
def yX8_pairing : MethodName := ⟨RX8, "pairing", "(II)J"⟩
abbrev cX8_tick : ByteArray := prog_1_method_16_code
def yX8_tick : MethodName := ⟨RX8, "tick", "()J"⟩
abbrev cX8_match : ByteArray := prog_1_method_17_code
def yX8_match : MethodName := ⟨RX8, "match", "(II)J"⟩
abbrev cX8_end : ByteArray := prog_1_method_18_code
def yX8_end : MethodName := ⟨RX8, "end", "(II)J"⟩
abbrev cX8_drop : ByteArray := prog_1_method_19_code
def yX8_drop : MethodName := ⟨RX8, "drop", "(I)J"⟩
abbrev cX8_surprise : ByteArray := prog_1_method_20_code
def yX8_surprise : MethodName := ⟨RX8, "surprise", "(II)J"⟩
abbrev cX8_sinking : ByteArray := prog_1_method_21_code
def yX8_sinking : MethodName := ⟨RX8, "sinking", "()J"⟩
abbrev cX8_limit : ByteArray := prog_1_method_22_code
def yX8_limit : MethodName := ⟨RX8, "limit", "(I)J"⟩
abbrev cX8_tell : ByteArray := prog_1_method_23_code
def yX8_tell : MethodName := ⟨RX8, "tell", "(I)J"⟩
abbrev cX8_check : ByteArray := prog_1_method_24_code
def yX8_check : MethodName := ⟨RX8, "check", "()J"⟩
abbrev cX8_count : ByteArray := prog_1_method_25_code
def yX8_count : MethodName := ⟨RX8, "count", "(I)J"⟩
abbrev cX8_found : ByteArray := prog_1_method_26_code
def yX8_found : MethodName := ⟨RX8, "found", "(I)J"⟩
abbrev cX8_finding : ByteArray := prog_1_method_27_code
def yX8_finding : MethodName := ⟨RX8, "finding", "(I)J"⟩
abbrev cX8_isKind : ByteArray := prog_1_method_28_code
def yX8_isKind : MethodName := ⟨RX8, "isKind", "(I)Z"⟩
abbrev cX8_isLevel : ByteArray := prog_1_method_29_code
def yX8_isLevel : MethodName := ⟨RX8, "isLevel", "(I)Z"⟩
abbrev cX8_isBound : ByteArray := prog_1_method_30_code
def yX8_isBound : MethodName := ⟨RX8, "isBound", "(I)Z"⟩
abbrev cX8_bitOf : ByteArray := prog_1_method_31_code
def yX8_bitOf : MethodName := ⟨RX8, "bitOf", "(I)I"⟩
abbrev cX8_hasBit : ByteArray := prog_1_method_32_code
def yX8_hasBit : MethodName := ⟨RX8, "hasBit", "(II)Z"⟩
abbrev cX8_evenShare : ByteArray := prog_1_method_33_code
def yX8_evenShare : MethodName := ⟨RX8, "evenShare", "(I)J"⟩
abbrev cX8_partyOf : ByteArray := prog_1_method_34_code
def yX8_partyOf : MethodName := ⟨RX8, "partyOf", "(III)I"⟩
abbrev cX8_hasPairing : ByteArray := prog_1_method_35_code
def yX8_hasPairing : MethodName := ⟨RX8, "hasPairing", "(LFairQueue$Queue;I)Z"⟩
abbrev cX8_anyPairing : ByteArray := prog_1_method_36_code
def yX8_anyPairing : MethodName := ⟨RX8, "anyPairing", "(LFairQueue$Queue;)Z"⟩
abbrev cX8_planTick : ByteArray := prog_1_method_37_code
def yX8_planTick : MethodName := ⟨RX8, "planTick", "(LFairQueue$Queue;)V"⟩
abbrev cX8_isTold : ByteArray := prog_1_method_38_code
def yX8_isTold : MethodName := ⟨RX8, "isTold", "(II)Z"⟩
def RX9 : String := "FairQueueModel"
def TX9 : u_T := fun k => match k with
  | 0 => ("FairQueueModel", "foundMany", "[I", true)
  | 1 => ("FairQueueModel", "players", "I", false)
  | 2 => ("FairQueueModel", "kindOf", "[I", true)
  | 3 => ("FairQueueModel", "shares", "[J", true)
  | 4 => ("FairQueueModel", "surprises", "[J", true)
  | 5 => ("FairQueueModel", "surpriseMany", "[I", true)
  | 6 => ("FairQueueModel", "teamSize", "I", false)
  | 7 => ("FairQueueModel", "base", "I", false)
  | 8 => ("FairQueueModel", "step", "I", false)
  | 9 => ("FairQueueModel", "top", "I", false)
  | 10 => ("FairQueueModel", "ticks", "I", false)
  | 11 => ("FairQueueModel", "parties", "I", false)
  | 12 => ("FairQueueModel", "partyBits", "[I", true)
  | 13 => ("FairQueueModel", "partyTick", "[I", true)
  | 14 => ("FairQueueModel", "goesOn", "[Z", true)
  | 15 => ("FairQueueModel", "firstOf", "[I", true)
  | 16 => ("FairQueueModel", "secondOf", "[I", true)
  | 17 => ("FairQueueModel", "dropped", "[I", true)
  | 18 => ("FairQueueModel", "madeAt", "[I", true)
  | 19 => ("FairQueueModel", "ended", "I", false)
  | 20 => ("FairQueueModel", "limit", "I", false)
  | 21 => ("FairQueueModel", "toldMany", "I", false)
  | 22 => ("FairQueueModel", "told", "[I", true)
  | 23 => ("FairQueueModel", "aside", "[J", true)
  | 24 => ("FairQueueModel", "setSize", "[I", true)
  | 25 => ("FairQueueModel", "setMean", "[J", true)
  | 26 => ("FairQueueModel", "bestFirst", "I", false)
  | 27 => ("FairQueueModel", "bestSecond", "I", false)
  | 28 => ("FairQueueModel", "bestUneven", "J", false)
  | 29 => ("FairQueueModel", "plannedFirst", "[I", true)
  | 30 => ("FairQueueModel", "plannedSecond", "[I", true)
  | 31 => ("FairQueueModel", "planned", "I", false)
  | _ => ("FairQueueModel", "weighed", "[J", true)
def tyX9 : Nat → FieldType := fun k => match k with
  | 0 => .array .int
  | 1 => .int
  | 2 => .array .int
  | 3 => .array .long
  | 4 => .array .long
  | 5 => .array .int
  | 6 => .int
  | 7 => .int
  | 8 => .int
  | 9 => .int
  | 10 => .int
  | 11 => .int
  | 12 => .array .int
  | 13 => .array .int
  | 14 => .array .boolean
  | 15 => .array .int
  | 16 => .array .int
  | 17 => .array .int
  | 18 => .array .int
  | 19 => .int
  | 20 => .int
  | 21 => .int
  | 22 => .array .int
  | 23 => .array .long
  | 24 => .array .int
  | 25 => .array .long
  | 26 => .int
  | 27 => .int
  | 28 => .long
  | 29 => .array .int
  | 30 => .array .int
  | 31 => .int
  | _ => .array .long
abbrev wsX90 : List Cond := u_ws RX9 TX9 33
theorem nmX9 : ∀ a, a < 33 → ∀ b, b < 33 → a ≠ b → (TX9 a).2.1 ≠ (TX9 b).2.1 := by decide +kernel
theorem tyX9_ok : ∀ k, k < 33 → parseFieldDescriptor (TX9 k).2.2.1 = some (tyX9 k) := by decide +kernel
abbrev cX9_init : ByteArray := prog_11_method_1_code
def yX9_init : MethodName := ⟨RX9, "<init>", "()V"⟩
abbrev cX9_in : ByteArray := prog_11_method_2_code
def yX9_in : MethodName := ⟨RX9, "in", "(JJJ)Z"⟩
abbrev cX9_finding : ByteArray := prog_11_method_3_code
def yX9_finding : MethodName := ⟨RX9, "finding", "(J)J"⟩
abbrev cX9_isPlayer : ByteArray := prog_11_method_4_code
def yX9_isPlayer : MethodName := ⟨RX9, "isPlayer", "(I)Z"⟩
abbrev cX9_isLevel : ByteArray := prog_11_method_5_code
def yX9_isLevel : MethodName := ⟨RX9, "isLevel", "(I)Z"⟩
abbrev cX9_ones : ByteArray := prog_11_method_6_code
def yX9_ones : MethodName := ⟨RX9, "ones", "(I)I"⟩
abbrev cX9_middle : ByteArray := prog_11_method_7_code
def yX9_middle : MethodName := ⟨RX9, "middle", "(I)J"⟩
abbrev cX9_player : ByteArray := prog_11_method_8_code
def yX9_player : MethodName := ⟨RX9, "player", "(I)J"⟩
abbrev cX9_become : ByteArray := prog_11_method_9_code
def yX9_become : MethodName := ⟨RX9, "become", "(II)J"⟩
abbrev cX9_meanOf : ByteArray := prog_11_method_10_code
def yX9_meanOf : MethodName := ⟨RX9, "meanOf", "(I)J"⟩
abbrev cX9_as : ByteArray := prog_11_method_11_code
def yX9_as : MethodName := ⟨RX9, "as", "(II)J"⟩
abbrev cX9_share : ByteArray := prog_11_method_12_code
def yX9_share : MethodName := ⟨RX9, "share", "(II)J"⟩
abbrev cX9_shift : ByteArray := prog_11_method_13_code
def yX9_shift : MethodName := ⟨RX9, "shift", "(IIII)J"⟩
abbrev cX9_mean : ByteArray := prog_11_method_14_code
def yX9_mean : MethodName := ⟨RX9, "mean", "(I)J"⟩
abbrev cX9_layAside : ByteArray := prog_11_method_15_code
def yX9_layAside : MethodName := ⟨RX9, "layAside", "()V"⟩
abbrev cX9_chanceAt : ByteArray := prog_11_method_16_code
def yX9_chanceAt : MethodName := ⟨RX9, "chanceAt", "(II)J"⟩
abbrev cX9_chanceOf : ByteArray := prog_11_method_17_code
def yX9_chanceOf : MethodName := ⟨RX9, "chanceOf", "(II)J"⟩
abbrev cX9_teamChance : ByteArray := prog_11_method_18_code
def yX9_teamChance : MethodName := ⟨RX9, "teamChance", "(II)J"⟩
abbrev cX9_chance : ByteArray := prog_11_method_19_code
def yX9_chance : MethodName := ⟨RX9, "chance", "(II)J"⟩
abbrev cX9_somePlays : ByteArray := prog_11_method_20_code
def yX9_somePlays : MethodName := ⟨RX9, "somePlays", "()Z"⟩
abbrev cX9_season : ByteArray := prog_11_method_21_code
def yX9_season : MethodName := ⟨RX9, "season", "()J"⟩
abbrev cX9_size : ByteArray := prog_11_method_22_code
def yX9_size : MethodName := ⟨RX9, "size", "(I)J"⟩
abbrev cX9_bounds : ByteArray := prog_11_method_23_code
def yX9_bounds : MethodName := ⟨RX9, "bounds", "(III)J"⟩
abbrev cX9_partyOf : ByteArray := prog_11_method_24_code
def yX9_partyOf : MethodName := ⟨RX9, "partyOf", "(I)I"⟩
abbrev cX9_matchOf : ByteArray := prog_11_method_25_code
def yX9_matchOf : MethodName := ⟨RX9, "matchOf", "(I)I"⟩
abbrev cX9_isBusy : ByteArray := prog_11_method_26_code
def yX9_isBusy : MethodName := ⟨RX9, "isBusy", "(I)Z"⟩
abbrev cX9_wait : ByteArray := prog_11_method_27_code
def yX9_wait : MethodName := ⟨RX9, "wait", "(III)J"⟩
abbrev cX9_takeOut : ByteArray := prog_11_method_28_code
def yX9_takeOut : MethodName := ⟨RX9, "takeOut", "(I)V"⟩
abbrev cX9_leave : ByteArray := prog_11_method_29_code
def yX9_leave : MethodName := ⟨RX9, "leave", "(I)J"⟩
abbrev cX9_boundOf : ByteArray := prog_11_method_30_code
def yX9_boundOf : MethodName := ⟨RX9, "boundOf", "(I)J"⟩
abbrev cX9_waited : ByteArray := prog_11_method_31_code
def yX9_waited : MethodName := ⟨RX9, "waited", "(IZ)J"⟩
abbrev cX9_playersOf : ByteArray := prog_11_method_32_code
def yX9_playersOf : MethodName := ⟨RX9, "playersOf", "(I)I"⟩
abbrev cX9_laySets : ByteArray := prog_11_method_33_code
def yX9_laySets : MethodName := ⟨RX9, "laySets", "()V"⟩
abbrev cX9_findPairing : ByteArray := prog_11_method_34_code
def yX9_findPairing : MethodName := ⟨RX9, "findPairing", "(II)Z"⟩
abbrev cX9_pairing : ByteArray := prog_11_method_35_code
def yX9_pairing : MethodName := ⟨RX9, "pairing", "(II)J"⟩
abbrev cX9_playing : ByteArray := prog_11_method_36_code
def yX9_playing : MethodName := ⟨RX9, "playing", "()I"⟩
abbrev cX9_plan : ByteArray := prog_11_method_37_code
def yX9_plan : MethodName := ⟨RX9, "plan", "()V"⟩
abbrev cX9_tick : ByteArray := prog_11_method_38_code
def yX9_tick : MethodName := ⟨RX9, "tick", "()J"⟩
abbrev cX9_isPlaceOfMatch : ByteArray := prog_11_method_39_code
def yX9_isPlaceOfMatch : MethodName := ⟨RX9, "isPlaceOfMatch", "(I)Z"⟩
abbrev cX9_match : ByteArray := prog_11_method_40_code
def yX9_match : MethodName := ⟨RX9, "match", "(II)J"⟩
abbrev cX9_undoubted : ByteArray := prog_11_method_41_code
def yX9_undoubted : MethodName := ⟨RX9, "undoubted", "(I)I"⟩
abbrev cX9_keepSurprise : ByteArray := prog_11_method_42_code
def yX9_keepSurprise : MethodName := ⟨RX9, "keepSurprise", "(IJ)V"⟩
abbrev cX9_moveTable : ByteArray := prog_11_method_43_code
def yX9_moveTable : MethodName := ⟨RX9, "moveTable", "(III)V"⟩
abbrev cX9_takeResult : ByteArray := prog_11_method_44_code
def yX9_takeResult : MethodName := ⟨RX9, "takeResult", "(III)Z"⟩
abbrev cX9_endMatch : ByteArray := prog_11_method_45_code
def yX9_endMatch : MethodName := ⟨RX9, "endMatch", "(II)I"⟩
abbrev cX9_end : ByteArray := prog_11_method_46_code
def yX9_end : MethodName := ⟨RX9, "end", "(II)J"⟩
abbrev cX9_drop : ByteArray := prog_11_method_47_code
def yX9_drop : MethodName := ⟨RX9, "drop", "(I)J"⟩
abbrev cX9_surpriseSum : ByteArray := prog_11_method_48_code
def yX9_surpriseSum : MethodName := ⟨RX9, "surpriseSum", "(I)J"⟩
abbrev cX9_surprise : ByteArray := prog_11_method_49_code
def yX9_surprise : MethodName := ⟨RX9, "surprise", "(II)J"⟩
abbrev cX9_sinking : ByteArray := prog_11_method_50_code
def yX9_sinking : MethodName := ⟨RX9, "sinking", "()J"⟩
abbrev cX9_limit : ByteArray := prog_11_method_51_code
def yX9_limit : MethodName := ⟨RX9, "limit", "(I)J"⟩
abbrev cX9_tell : ByteArray := prog_11_method_52_code
def yX9_tell : MethodName := ⟨RX9, "tell", "(I)J"⟩
abbrev cX9_check : ByteArray := prog_11_method_53_code
def yX9_check : MethodName := ⟨RX9, "check", "()J"⟩
abbrev cX9_count : ByteArray := prog_11_method_54_code
def yX9_count : MethodName := ⟨RX9, "count", "(I)J"⟩
abbrev cX9_found : ByteArray := prog_11_method_55_code
def yX9_found : MethodName := ⟨RX9, "found", "(I)J"⟩
def RJ6 : String := "java/lang/Integer"
def TJ6 : u_T := fun k => match k with
  | _ => ("", "", "", false)
def tyJ6 : Nat → FieldType := fun k => match k with
  | _ => .int
abbrev wsJ60 : List Cond := u_ws RJ6 TJ6 0
theorem nmJ6 : ∀ a, a < 0 → ∀ b, b < 0 → a ≠ b → (TJ6 a).2.1 ≠ (TJ6 b).2.1 := by decide +kernel
theorem tyJ6_ok : ∀ k, k < 0 → parseFieldDescriptor (TJ6 k).2.2.1 = some (tyJ6 k) := by decide +kernel
abbrev cJ6_bitCount_0f7a4 : ByteArray := prog_12_method_49_code
def yJ6_bitCount_0f7a4 : MethodName := ⟨RJ6, "bitCount", "(I)I"⟩
def RJ9 : String := "java/lang/Math"
def TJ9 : u_T := fun k => match k with
  | _ => ("", "", "", false)
def tyJ9 : Nat → FieldType := fun k => match k with
  | _ => .int
abbrev wsJ90 : List Cond := u_ws RJ9 TJ9 0
theorem nmJ9 : ∀ a, a < 0 → ∀ b, b < 0 → a ≠ b → (TJ9 a).2.1 ≠ (TJ9 b).2.1 := by decide +kernel
theorem tyJ9_ok : ∀ k, k < 0 → parseFieldDescriptor (TJ9 k).2.2.1 = some (tyJ9 k) := by decide +kernel
abbrev cJ9_abs_067f4 : ByteArray := prog_13_method_61_code
def yJ9_abs_067f4 : MethodName := ⟨RJ9, "abs", "(J)J"⟩
abbrev cJ9_min_7cf53 : ByteArray := prog_13_method_69_code
def yJ9_min_7cf53 : MethodName := ⟨RJ9, "min", "(II)I"⟩
abbrev cJ9_min_f86c9 : ByteArray := prog_13_method_70_code
def yJ9_min_f86c9 : MethodName := ⟨RJ9, "min", "(JJ)J"⟩
def RL : String := "FairQueueLaw"
abbrev cL_law : ByteArray := code
def yL_law : MethodName := ⟨RL, "law", "([I)Z"⟩
def wsX0_init : List Cond := .code yX0_init cX0_init 1 none :: ([.methodLink RX0 1 objectInit, .instanceMethod objectInit, .code objectInit ⟨#[0xb1]⟩ 1 none, .constantLong RX0 7 (300000), .fieldLink RX0 9 "FairQueue$Bounds" "base" "J", .constantLong RX0 15 (100000), .fieldLink RX0 17 "FairQueue$Bounds" "step" "J", .constantLong RX0 20 (3000000), .fieldLink RX0 22 "FairQueue$Bounds" "top" "J"] ++ wsX00)
def wsX0_behind : List Cond := .code yX0_behind cX0_behind 3 (some .long) :: ([.fieldLink RX0 9 "FairQueue$Bounds" "base" "J", .fieldLink RX0 17 "FairQueue$Bounds" "step" "J", .fieldLink RX0 22 "FairQueue$Bounds" "top" "J", .methodLink RX0 25 Lib.MathLoose.min_long.x, .static Lib.MathLoose.min_long.x, .initialized "java/lang/Math", .code Lib.MathLoose.min_long.x Lib.MathLoose.min_long.code 4 (some .long)] ++ wsX00)
def wsX1_init : List Cond := .code yX1_init cX1_init 1 none :: ([.methodLink RX1 3 objectInit, .instanceMethod objectInit, .code objectInit ⟨#[0xb1]⟩ 1 none, .fieldLink RX1 9 "FairQueue$Match" "first" "I", .fieldLink RX1 15 "FairQueue$Match" "second" "I", .fieldLink RX1 18 "FairQueue$Match" "dropped" "I", .fieldLink RX1 21 "FairQueue$Match" "made" "J"] ++ wsX10)
def wsX1_clear : List Cond := .code yX1_clear cX1_clear 1 none :: ([.fieldLink RX1 9 "FairQueue$Match" "first" "I", .fieldLink RX1 15 "FairQueue$Match" "second" "I", .fieldLink RX1 18 "FairQueue$Match" "dropped" "I", .fieldLink RX1 21 "FairQueue$Match" "made" "J"] ++ wsX10)
def wsX1_goesOn : List Cond := .code yX1_goesOn cX1_goesOn 1 (some .boolean) :: ([.fieldLink RX1 9 "FairQueue$Match" "first" "I"] ++ wsX10)
def wsX1_playing : List Cond := .code yX1_playing cX1_playing 1 (some .int) :: ([.fieldLink RX1 9 "FairQueue$Match" "first" "I", .fieldLink RX1 15 "FairQueue$Match" "second" "I", .fieldLink RX1 18 "FairQueue$Match" "dropped" "I"] ++ wsX10)
def wsX1_rivalsOf : List Cond := .code yX1_rivalsOf cX1_rivalsOf 2 (some .int) :: ([.fieldLink RX1 9 "FairQueue$Match" "first" "I", .fieldLink RX1 15 "FairQueue$Match" "second" "I"] ++ wsX10)
def wsX1_isDeserted : List Cond := .code yX1_isDeserted cX1_isDeserted 1 (some .boolean) :: ([.fieldLink RX1 9 "FairQueue$Match" "first" "I", .fieldLink RX1 18 "FairQueue$Match" "dropped" "I", .fieldLink RX1 15 "FairQueue$Match" "second" "I"] ++ wsX10)
def wsX1_resultOfDeserted : List Cond := .code yX1_resultOfDeserted cX1_resultOfDeserted 1 (some .int) :: ([.fieldLink RX1 9 "FairQueue$Match" "first" "I", .fieldLink RX1 18 "FairQueue$Match" "dropped" "I"] ++ wsX10)
def wsX2_init : List Cond := .code yX2_init cX2_init 2 none :: ([.methodLink RX2 3 objectInit, .instanceMethod objectInit, .code objectInit ⟨#[0xb1]⟩ 1 none, .classLink RX2 9 RX1, .fieldLink RX2 11 "FairQueue$Matches" "row" "[LFairQueue$Match;", .instantiable RX1 4, .initialized RX1, .fieldLink RX2 18 "FairQueue$Matches" "ended" "J", .methodLink RX2 17 yX1_init, .instanceMethod yX1_init, .code yX1_init cX1_init 1 none, .methodLink RX1 3 objectInit, .fieldLink RX1 9 "FairQueue$Match" "first" "I", .fieldLink RX1 15 "FairQueue$Match" "second" "I", .fieldLink RX1 18 "FairQueue$Match" "dropped" "I", .fieldLink RX1 21 "FairQueue$Match" "made" "J"] ++ wsX20 ++ wsX10)
def wsX2_at : List Cond := .code yX2_at cX2_at 2 (some (.object "FairQueue$Match")) :: ([.fieldLink RX2 11 "FairQueue$Matches" "row" "[LFairQueue$Match;"] ++ wsX20)
def wsX2_going : List Cond := .code yX2_going cX2_going 4 (some .int) :: ([.fieldLink RX2 11 "FairQueue$Matches" "row" "[LFairQueue$Match;", .methodLink RX2 22 yX1_goesOn, .instanceMethod yX1_goesOn, .selects RX1 yX1_goesOn yX1_goesOn, .initialized RX1, .code yX1_goesOn cX1_goesOn 1 (some .boolean), .fieldLink RX1 9 "FairQueue$Match" "first" "I"] ++ wsX20 ++ wsX10)
def wsX2_everybody : List Cond := .code yX2_everybody cX2_everybody 4 (some .int) :: ([.fieldLink RX2 11 "FairQueue$Matches" "row" "[LFairQueue$Match;", .methodLink RX2 26 yX1_playing, .instanceMethod yX1_playing, .selects RX1 yX1_playing yX1_playing, .initialized RX1, .code yX1_playing cX1_playing 1 (some .int), .fieldLink RX1 9 "FairQueue$Match" "first" "I", .fieldLink RX1 15 "FairQueue$Match" "second" "I", .fieldLink RX1 18 "FairQueue$Match" "dropped" "I"] ++ wsX20 ++ wsX10)
def wsX2_withPlayer : List Cond := .code yX2_withPlayer cX2_withPlayer 4 (some (.object "FairQueue$Match")) :: ([.fieldLink RX2 11 "FairQueue$Matches" "row" "[LFairQueue$Match;", .methodLink RX2 26 yX1_playing, .instanceMethod yX1_playing, .selects RX1 yX1_playing yX1_playing, .initialized RX1, .code yX1_playing cX1_playing 1 (some .int), .fieldLink RX1 9 "FairQueue$Match" "first" "I", .fieldLink RX1 15 "FairQueue$Match" "second" "I", .fieldLink RX1 18 "FairQueue$Match" "dropped" "I"] ++ wsX20 ++ wsX10)
def wsX2_begin : List Cond := .code yX2_begin cX2_begin 7 none :: ([.fieldLink RX2 11 "FairQueue$Matches" "row" "[LFairQueue$Match;", .fieldLink RX2 30 "FairQueue$Match" "first" "I", .fieldLink RX2 34 "FairQueue$Match" "second" "I", .fieldLink RX2 37 "FairQueue$Match" "dropped" "I", .fieldLink RX2 40 "FairQueue$Match" "made" "J", .methodLink RX2 22 yX1_goesOn, .instanceMethod yX1_goesOn, .selects RX1 yX1_goesOn yX1_goesOn, .initialized RX1, .code yX1_goesOn cX1_goesOn 1 (some .boolean), .fieldLink RX1 9 "FairQueue$Match" "first" "I"] ++ wsX20 ++ wsX10)
def wsX6_at : List Cond := .code yX6_at cX6_at 2 (some (.object "FairQueue$Player")) :: ([.fieldLink RX6 21 "FairQueue$Players" "number" "I", .fieldLink RX6 11 "FairQueue$Players" "row" "[LFairQueue$Player;"] ++ wsX60)
def wsX8_hasBit : List Cond := .code yX8_hasBit cX8_hasBit 2 (some .boolean) :: ([])
def wsX8_bitOf : List Cond := .code yX8_bitOf cX8_bitOf 1 (some .int) :: ([])
def wsX6_undoubted : List Cond := .code yX6_undoubted cX6_undoubted 5 (some .int) :: ([.fieldLink RX6 11 "FairQueue$Players" "row" "[LFairQueue$Player;", .fieldLink RX6 43 "FairQueue$Player" "kind" "I", .methodLink RX6 28 yX6_at, .instanceMethod yX6_at, .selects RX6 yX6_at yX6_at, .initialized RX6, .code yX6_at cX6_at 2 (some (.object "FairQueue$Player")), .fieldLink RX6 21 "FairQueue$Players" "number" "I", .static yX8_hasBit, .initialized RX8, .code yX8_hasBit cX8_hasBit 2 (some .boolean), .static yX8_bitOf, .code yX8_bitOf cX8_bitOf 1 (some .int)] ++ wsX60 ++ wsX50)
def wsX6_oddsAgainst : List Cond := .code yX6_oddsAgainst cX6_oddsAgainst 5 (some .long) :: ([.fieldLink RX6 56 "FairQueue$Player" "shares" "[J", .constantLong RX6 59 (500), .constantLong RX6 61 (70)] ++ wsX50)
def wsX6_chanceAt : List Cond := .code yX6_chanceAt cX6_chanceAt 9 (some .long) :: ([.fieldLink RX6 11 "FairQueue$Players" "row" "[LFairQueue$Player;", .constantLong RX6 54 (1000), .methodLink RX6 28 yX6_at, .instanceMethod yX6_at, .selects RX6 yX6_at yX6_at, .initialized RX6, .code yX6_at cX6_at 2 (some (.object "FairQueue$Player")), .fieldLink RX6 21 "FairQueue$Players" "number" "I", .static yX8_hasBit, .initialized RX8, .code yX8_hasBit cX8_hasBit 2 (some .boolean), .methodLink RX6 50 yX6_oddsAgainst, .static yX6_oddsAgainst, .code yX6_oddsAgainst cX6_oddsAgainst 5 (some .long), .fieldLink RX6 56 "FairQueue$Player" "shares" "[J", .constantLong RX6 59 (500), .constantLong RX6 61 (70)] ++ wsX60 ++ wsX50)
def wsX6_chanceOf : List Cond := .code yX6_chanceOf cX6_chanceOf 6 (some .long) :: ([.fieldLink RX6 56 "FairQueue$Player" "shares" "[J", .constantLong RX6 67 (1000000), .methodLink RX6 63 yX6_chanceAt, .instanceMethod yX6_chanceAt, .selects RX6 yX6_chanceAt yX6_chanceAt, .initialized RX6, .code yX6_chanceAt cX6_chanceAt 9 (some .long), .fieldLink RX6 11 "FairQueue$Players" "row" "[LFairQueue$Player;", .constantLong RX6 54 (1000), .methodLink RX6 28 yX6_at, .instanceMethod yX6_at, .selects RX6 yX6_at yX6_at, .code yX6_at cX6_at 2 (some (.object "FairQueue$Player")), .fieldLink RX6 21 "FairQueue$Players" "number" "I", .static yX8_hasBit, .initialized RX8, .code yX8_hasBit cX8_hasBit 2 (some .boolean), .methodLink RX6 50 yX6_oddsAgainst, .static yX6_oddsAgainst, .code yX6_oddsAgainst cX6_oddsAgainst 5 (some .long), .constantLong RX6 59 (500), .constantLong RX6 61 (70)] ++ wsX50 ++ wsX60)
def wsX5_keepSurprise : List Cond := .code yX5_keepSurprise cX5_keepSurprise 4 none :: ([.fieldLink RX5 25 "FairQueue$Player" "kept" "I", .fieldLink RX5 22 "FairQueue$Player" "surprises" "[J"] ++ wsX50)
def wsX6_factorOf : List Cond := .code yX6_factorOf cX6_factorOf 3 (some .long) :: ([.constantLong RX6 67 (1000000)])
def wsX5_greatestNext : List Cond := .code yX5_greatestNext cX5_greatestNext 3 (some .int) :: ([.fieldLink RX5 19 "FairQueue$Player" "next" "[J"] ++ wsX50)
def wsX5_moveNext : List Cond := .code yX5_moveNext cX5_moveNext 7 none :: ([.fieldLink RX5 19 "FairQueue$Player" "next" "[J", .constantLong RX5 32 (1000000), .methodLink RX5 40 yX5_greatestNext, .instanceMethod yX5_greatestNext, .selects RX5 yX5_greatestNext yX5_greatestNext, .initialized RX5, .code yX5_greatestNext cX5_greatestNext 3 (some .int)] ++ wsX50)
def wsX5_reckonNext : List Cond := .code yX5_reckonNext cX5_reckonNext 3 none :: ([.fieldLink RX5 19 "FairQueue$Player" "next" "[J", .fieldLink RX5 15 "FairQueue$Player" "shares" "[J", .fieldLink RX5 9 "FairQueue$Player" "kind" "I", .methodLink RX5 36 yX5_moveNext, .instanceMethod yX5_moveNext, .selects RX5 yX5_moveNext yX5_moveNext, .initialized RX5, .code yX5_moveNext cX5_moveNext 7 none, .constantLong RX5 32 (1000000), .methodLink RX5 40 yX5_greatestNext, .instanceMethod yX5_greatestNext, .selects RX5 yX5_greatestNext yX5_greatestNext, .code yX5_greatestNext cX5_greatestNext 3 (some .int)] ++ wsX50)
def wsX6_reckon_r1 : List Cond := [Cond.constantLong RX6 76 (500000), Cond.fieldLink RX6 17 "FairQueue$Players" "factors" "[J", Cond.methodLink RX6 73 yX6_undoubted, Cond.instanceMethod yX6_undoubted, Cond.selects RX6 yX6_undoubted yX6_undoubted, Cond.initialized RX6, Cond.code yX6_undoubted cX6_undoubted 5 (some .int), Cond.fieldLink RX6 11 "FairQueue$Players" "row" "[LFairQueue$Player;", Cond.fieldLink RX6 43 "FairQueue$Player" "kind" "I", Cond.methodLink RX6 28 yX6_at, Cond.instanceMethod yX6_at, Cond.selects RX6 yX6_at yX6_at, Cond.code yX6_at cX6_at 2 (some (.object "FairQueue$Player")), Cond.fieldLink RX6 21 "FairQueue$Players" "number" "I", Cond.static yX8_hasBit, Cond.initialized RX8, Cond.code yX8_hasBit cX8_hasBit 2 (some .boolean), Cond.static yX8_bitOf, Cond.code yX8_bitOf cX8_bitOf 1 (some .int), Cond.methodLink RX6 69 yX6_chanceOf, Cond.instanceMethod yX6_chanceOf, Cond.selects RX6 yX6_chanceOf yX6_chanceOf, Cond.code yX6_chanceOf cX6_chanceOf 6 (some .long), Cond.fieldLink RX6 56 "FairQueue$Player" "shares" "[J"]
def wsX6_reckon_r2 : List Cond := [Cond.constantLong RX6 67 (1000000), Cond.methodLink RX6 63 yX6_chanceAt, Cond.instanceMethod yX6_chanceAt, Cond.selects RX6 yX6_chanceAt yX6_chanceAt, Cond.code yX6_chanceAt cX6_chanceAt 9 (some .long), Cond.constantLong RX6 54 (1000), Cond.methodLink RX6 50 yX6_oddsAgainst, Cond.static yX6_oddsAgainst, Cond.code yX6_oddsAgainst cX6_oddsAgainst 5 (some .long), Cond.constantLong RX6 59 (500), Cond.constantLong RX6 61 (70), Cond.methodLink RX6 78 yX5_keepSurprise, Cond.instanceMethod yX5_keepSurprise, Cond.selects RX5 yX5_keepSurprise yX5_keepSurprise, Cond.initialized RX5, Cond.code yX5_keepSurprise cX5_keepSurprise 4 none, Cond.fieldLink RX5 25 "FairQueue$Player" "kept" "I", Cond.fieldLink RX5 22 "FairQueue$Player" "surprises" "[J", Cond.methodLink RX6 82 yX6_factorOf, Cond.static yX6_factorOf, Cond.code yX6_factorOf cX6_factorOf 3 (some .long), Cond.methodLink RX6 86 yX5_reckonNext, Cond.instanceMethod yX5_reckonNext, Cond.selects RX5 yX5_reckonNext yX5_reckonNext]
def wsX6_reckon_r3 : List Cond := [Cond.code yX5_reckonNext cX5_reckonNext 3 none, Cond.fieldLink RX5 19 "FairQueue$Player" "next" "[J", Cond.fieldLink RX5 15 "FairQueue$Player" "shares" "[J", Cond.fieldLink RX5 9 "FairQueue$Player" "kind" "I", Cond.methodLink RX5 36 yX5_moveNext, Cond.instanceMethod yX5_moveNext, Cond.selects RX5 yX5_moveNext yX5_moveNext, Cond.code yX5_moveNext cX5_moveNext 7 none, Cond.constantLong RX5 32 (1000000), Cond.methodLink RX5 40 yX5_greatestNext, Cond.instanceMethod yX5_greatestNext, Cond.selects RX5 yX5_greatestNext yX5_greatestNext, Cond.code yX5_greatestNext cX5_greatestNext 3 (some .int)]
def wsX6_reckon : List Cond := .code yX6_reckon cX6_reckon 6 (some .boolean) :: ((wsX6_reckon_r1 ++ (wsX6_reckon_r2 ++ wsX6_reckon_r3)) ++ wsX60 ++ wsX50)
def wsX6_reckonTeam_r1 : List Cond := [Cond.fieldLink RX6 11 "FairQueue$Players" "row" "[LFairQueue$Player;", Cond.methodLink RX6 28 yX6_at, Cond.instanceMethod yX6_at, Cond.selects RX6 yX6_at yX6_at, Cond.initialized RX6, Cond.code yX6_at cX6_at 2 (some (.object "FairQueue$Player")), Cond.fieldLink RX6 21 "FairQueue$Players" "number" "I", Cond.static yX8_hasBit, Cond.initialized RX8, Cond.code yX8_hasBit cX8_hasBit 2 (some .boolean), Cond.methodLink RX6 90 yX6_reckon, Cond.instanceMethod yX6_reckon, Cond.selects RX6 yX6_reckon yX6_reckon, Cond.code yX6_reckon cX6_reckon 6 (some .boolean), Cond.constantLong RX6 76 (500000), Cond.fieldLink RX6 17 "FairQueue$Players" "factors" "[J", Cond.methodLink RX6 73 yX6_undoubted, Cond.instanceMethod yX6_undoubted, Cond.selects RX6 yX6_undoubted yX6_undoubted, Cond.code yX6_undoubted cX6_undoubted 5 (some .int), Cond.fieldLink RX6 43 "FairQueue$Player" "kind" "I", Cond.static yX8_bitOf, Cond.code yX8_bitOf cX8_bitOf 1 (some .int), Cond.methodLink RX6 69 yX6_chanceOf]
def wsX6_reckonTeam_r2 : List Cond := [Cond.instanceMethod yX6_chanceOf, Cond.selects RX6 yX6_chanceOf yX6_chanceOf, Cond.code yX6_chanceOf cX6_chanceOf 6 (some .long), Cond.fieldLink RX6 56 "FairQueue$Player" "shares" "[J", Cond.constantLong RX6 67 (1000000), Cond.methodLink RX6 63 yX6_chanceAt, Cond.instanceMethod yX6_chanceAt, Cond.selects RX6 yX6_chanceAt yX6_chanceAt, Cond.code yX6_chanceAt cX6_chanceAt 9 (some .long), Cond.constantLong RX6 54 (1000), Cond.methodLink RX6 50 yX6_oddsAgainst, Cond.static yX6_oddsAgainst, Cond.code yX6_oddsAgainst cX6_oddsAgainst 5 (some .long), Cond.constantLong RX6 59 (500), Cond.constantLong RX6 61 (70), Cond.methodLink RX6 78 yX5_keepSurprise, Cond.instanceMethod yX5_keepSurprise, Cond.selects RX5 yX5_keepSurprise yX5_keepSurprise, Cond.initialized RX5, Cond.code yX5_keepSurprise cX5_keepSurprise 4 none, Cond.fieldLink RX5 25 "FairQueue$Player" "kept" "I", Cond.fieldLink RX5 22 "FairQueue$Player" "surprises" "[J", Cond.methodLink RX6 82 yX6_factorOf, Cond.static yX6_factorOf]
def wsX6_reckonTeam_r3 : List Cond := [Cond.code yX6_factorOf cX6_factorOf 3 (some .long), Cond.methodLink RX6 86 yX5_reckonNext, Cond.instanceMethod yX5_reckonNext, Cond.selects RX5 yX5_reckonNext yX5_reckonNext, Cond.code yX5_reckonNext cX5_reckonNext 3 none, Cond.fieldLink RX5 19 "FairQueue$Player" "next" "[J", Cond.fieldLink RX5 15 "FairQueue$Player" "shares" "[J", Cond.fieldLink RX5 9 "FairQueue$Player" "kind" "I", Cond.methodLink RX5 36 yX5_moveNext, Cond.instanceMethod yX5_moveNext, Cond.selects RX5 yX5_moveNext yX5_moveNext, Cond.code yX5_moveNext cX5_moveNext 7 none, Cond.constantLong RX5 32 (1000000), Cond.methodLink RX5 40 yX5_greatestNext, Cond.instanceMethod yX5_greatestNext, Cond.selects RX5 yX5_greatestNext yX5_greatestNext, Cond.code yX5_greatestNext cX5_greatestNext 3 (some .int)]
def wsX6_reckonTeam : List Cond := .code yX6_reckonTeam cX6_reckonTeam 7 (some .int) :: ((wsX6_reckonTeam_r1 ++ (wsX6_reckonTeam_r2 ++ wsX6_reckonTeam_r3)) ++ wsX60 ++ wsX50)
def wsX5_settle : List Cond := .code yX5_settle cX5_settle 2 none :: ([.fieldLink RX5 15 "FairQueue$Player" "shares" "[J", .fieldLink RX5 19 "FairQueue$Player" "next" "[J"] ++ wsX50)
def wsX6_settleTeam : List Cond := .code yX6_settleTeam cX6_settleTeam 4 none :: ([.fieldLink RX6 11 "FairQueue$Players" "row" "[LFairQueue$Player;", .methodLink RX6 28 yX6_at, .instanceMethod yX6_at, .selects RX6 yX6_at yX6_at, .initialized RX6, .code yX6_at cX6_at 2 (some (.object "FairQueue$Player")), .fieldLink RX6 21 "FairQueue$Players" "number" "I", .static yX8_hasBit, .initialized RX8, .code yX8_hasBit cX8_hasBit 2 (some .boolean), .methodLink RX6 94 yX5_settle, .instanceMethod yX5_settle, .selects RX5 yX5_settle yX5_settle, .initialized RX5, .code yX5_settle cX5_settle 2 none, .fieldLink RX5 15 "FairQueue$Player" "shares" "[J", .fieldLink RX5 19 "FairQueue$Player" "next" "[J"] ++ wsX60 ++ wsX50)
def wsJ6_bitCount_0f7a4 : List Cond := .code yJ6_bitCount_0f7a4 cJ6_bitCount_0f7a4 1 (some .int) :: ([.constant RJ6 265 (1431655765), .constant RJ6 266 (858993459), .constant RJ6 267 (252645135)])
def wsX2_finish_r1 : List Cond := [Cond.fieldLink RX2 30 "FairQueue$Match" "first" "I", Cond.fieldLink RX2 37 "FairQueue$Match" "dropped" "I", Cond.fieldLink RX2 34 "FairQueue$Match" "second" "I", Cond.fieldLink RX2 18 "FairQueue$Matches" "ended" "J", Cond.methodLink RX2 43 yX6_reckonTeam, Cond.instanceMethod yX6_reckonTeam, Cond.selects RX6 yX6_reckonTeam yX6_reckonTeam, Cond.initialized RX6, Cond.code yX6_reckonTeam cX6_reckonTeam 7 (some .int), Cond.fieldLink RX6 11 "FairQueue$Players" "row" "[LFairQueue$Player;", Cond.methodLink RX6 28 yX6_at, Cond.instanceMethod yX6_at, Cond.selects RX6 yX6_at yX6_at, Cond.code yX6_at cX6_at 2 (some (.object "FairQueue$Player")), Cond.fieldLink RX6 21 "FairQueue$Players" "number" "I", Cond.static yX8_hasBit, Cond.initialized RX8, Cond.code yX8_hasBit cX8_hasBit 2 (some .boolean), Cond.methodLink RX6 90 yX6_reckon, Cond.instanceMethod yX6_reckon, Cond.selects RX6 yX6_reckon yX6_reckon, Cond.code yX6_reckon cX6_reckon 6 (some .boolean), Cond.constantLong RX6 76 (500000), Cond.fieldLink RX6 17 "FairQueue$Players" "factors" "[J"]
def wsX2_finish_r2 : List Cond := [Cond.methodLink RX6 73 yX6_undoubted, Cond.instanceMethod yX6_undoubted, Cond.selects RX6 yX6_undoubted yX6_undoubted, Cond.code yX6_undoubted cX6_undoubted 5 (some .int), Cond.fieldLink RX6 43 "FairQueue$Player" "kind" "I", Cond.static yX8_bitOf, Cond.code yX8_bitOf cX8_bitOf 1 (some .int), Cond.methodLink RX6 69 yX6_chanceOf, Cond.instanceMethod yX6_chanceOf, Cond.selects RX6 yX6_chanceOf yX6_chanceOf, Cond.code yX6_chanceOf cX6_chanceOf 6 (some .long), Cond.fieldLink RX6 56 "FairQueue$Player" "shares" "[J", Cond.constantLong RX6 67 (1000000), Cond.methodLink RX6 63 yX6_chanceAt, Cond.instanceMethod yX6_chanceAt, Cond.selects RX6 yX6_chanceAt yX6_chanceAt, Cond.code yX6_chanceAt cX6_chanceAt 9 (some .long), Cond.constantLong RX6 54 (1000), Cond.methodLink RX6 50 yX6_oddsAgainst, Cond.static yX6_oddsAgainst, Cond.code yX6_oddsAgainst cX6_oddsAgainst 5 (some .long), Cond.constantLong RX6 59 (500), Cond.constantLong RX6 61 (70), Cond.methodLink RX6 78 yX5_keepSurprise]
def wsX2_finish_r3 : List Cond := [Cond.instanceMethod yX5_keepSurprise, Cond.selects RX5 yX5_keepSurprise yX5_keepSurprise, Cond.initialized RX5, Cond.code yX5_keepSurprise cX5_keepSurprise 4 none, Cond.fieldLink RX5 25 "FairQueue$Player" "kept" "I", Cond.fieldLink RX5 22 "FairQueue$Player" "surprises" "[J", Cond.methodLink RX6 82 yX6_factorOf, Cond.static yX6_factorOf, Cond.code yX6_factorOf cX6_factorOf 3 (some .long), Cond.methodLink RX6 86 yX5_reckonNext, Cond.instanceMethod yX5_reckonNext, Cond.selects RX5 yX5_reckonNext yX5_reckonNext, Cond.code yX5_reckonNext cX5_reckonNext 3 none, Cond.fieldLink RX5 19 "FairQueue$Player" "next" "[J", Cond.fieldLink RX5 15 "FairQueue$Player" "shares" "[J", Cond.fieldLink RX5 9 "FairQueue$Player" "kind" "I", Cond.methodLink RX5 36 yX5_moveNext, Cond.instanceMethod yX5_moveNext, Cond.selects RX5 yX5_moveNext yX5_moveNext, Cond.code yX5_moveNext cX5_moveNext 7 none, Cond.constantLong RX5 32 (1000000), Cond.methodLink RX5 40 yX5_greatestNext, Cond.instanceMethod yX5_greatestNext, Cond.selects RX5 yX5_greatestNext yX5_greatestNext]
def wsX2_finish_r4 : List Cond := [Cond.code yX5_greatestNext cX5_greatestNext 3 (some .int), Cond.methodLink RX2 49 yX6_settleTeam, Cond.instanceMethod yX6_settleTeam, Cond.selects RX6 yX6_settleTeam yX6_settleTeam, Cond.code yX6_settleTeam cX6_settleTeam 4 none, Cond.methodLink RX6 94 yX5_settle, Cond.instanceMethod yX5_settle, Cond.selects RX5 yX5_settle yX5_settle, Cond.code yX5_settle cX5_settle 2 none, Cond.methodLink RX2 53 yX1_clear, Cond.instanceMethod yX1_clear, Cond.selects RX1 yX1_clear yX1_clear, Cond.initialized RX1, Cond.code yX1_clear cX1_clear 1 none, Cond.fieldLink RX1 9 "FairQueue$Match" "first" "I", Cond.fieldLink RX1 15 "FairQueue$Match" "second" "I", Cond.fieldLink RX1 18 "FairQueue$Match" "dropped" "I", Cond.fieldLink RX1 21 "FairQueue$Match" "made" "J", Cond.methodLink RX2 56 yJ6_bitCount_0f7a4, Cond.static yJ6_bitCount_0f7a4, Cond.initialized RJ6, Cond.code yJ6_bitCount_0f7a4 cJ6_bitCount_0f7a4 1 (some .int), Cond.constant RJ6 265 (1431655765), Cond.constant RJ6 266 (858993459)]
def wsX2_finish_r5 : List Cond := [Cond.constant RJ6 267 (252645135)]
def wsX2_finish : List Cond := .code yX2_finish cX2_finish 5 (some .int) :: ((wsX2_finish_r1 ++ (wsX2_finish_r2 ++ (wsX2_finish_r3 ++ (wsX2_finish_r4 ++ wsX2_finish_r5)))) ++ wsX10 ++ wsX20 ++ wsX60 ++ wsX50)
def wsX3_init : List Cond := .code yX3_init cX3_init 1 none :: ([.methodLink RX3 3 objectInit, .instanceMethod objectInit, .code objectInit ⟨#[0xb1]⟩ 1 none, .arrayClass .int, .fieldLink RX3 9 "FairQueue$Pairings" "teams" "[I", .arrayClass .long, .fieldLink RX3 15 "FairQueue$Pairings" "means" "[J", .fieldLink RX3 19 "FairQueue$Pairings" "number" "I", .fieldLink RX3 23 "FairQueue$Pairings" "first" "I", .fieldLink RX3 26 "FairQueue$Pairings" "second" "I", .fieldLink RX3 29 "FairQueue$Pairings" "uneven" "J"] ++ wsX30)
def wsX7_partyAt : List Cond := .code yX7_partyAt cX7_partyAt 2 (some .int) :: ([.fieldLink RX7 19 "FairQueue$Queue" "waiting" "I", .fieldLink RX7 9 "FairQueue$Queue" "parties" "[I"] ++ wsX70)
def wsX7_playersAt : List Cond := .code yX7_playersAt cX7_playersAt 4 (some .int) :: ([.fieldLink RX7 9 "FairQueue$Queue" "parties" "[I", .static yX8_hasBit, .initialized RX8, .code yX8_hasBit cX8_hasBit 2 (some .boolean), .methodLink RX7 23 yX7_partyAt, .instanceMethod yX7_partyAt, .selects RX7 yX7_partyAt yX7_partyAt, .initialized RX7, .code yX7_partyAt cX7_partyAt 2 (some .int), .fieldLink RX7 19 "FairQueue$Queue" "waiting" "I"] ++ wsX70)
def wsX5_ownMean : List Cond := .code yX5_ownMean cX5_ownMean 4 (some .long) :: ([.fieldLink RX5 15 "FairQueue$Player" "shares" "[J"] ++ wsX50)
def wsX6_meansOf : List Cond := .code yX6_meansOf cX6_meansOf 6 (some .long) :: ([.fieldLink RX6 11 "FairQueue$Players" "row" "[LFairQueue$Player;", .methodLink RX6 28 yX6_at, .instanceMethod yX6_at, .selects RX6 yX6_at yX6_at, .initialized RX6, .code yX6_at cX6_at 2 (some (.object "FairQueue$Player")), .fieldLink RX6 21 "FairQueue$Players" "number" "I", .static yX8_hasBit, .initialized RX8, .code yX8_hasBit cX8_hasBit 2 (some .boolean), .methodLink RX6 39 yX5_ownMean, .instanceMethod yX5_ownMean, .selects RX5 yX5_ownMean yX5_ownMean, .initialized RX5, .code yX5_ownMean cX5_ownMean 4 (some .long), .fieldLink RX5 15 "FairQueue$Player" "shares" "[J"] ++ wsX60 ++ wsX50)
def wsX3_add : List Cond := .code yX3_add cX3_add 4 none :: ([.fieldLink RX3 19 "FairQueue$Pairings" "number" "I", .fieldLink RX3 9 "FairQueue$Pairings" "teams" "[I", .fieldLink RX3 15 "FairQueue$Pairings" "means" "[J"] ++ wsX30)
def wsX3_gather_r1 : List Cond := [Cond.fieldLink RX3 19 "FairQueue$Pairings" "number" "I", Cond.fieldLink RX3 33 "FairQueue$Queue" "waiting" "I", Cond.methodLink RX3 38 Lib.Math.min.name, Cond.static Lib.Math.min.name, Cond.initialized "java/lang/Math", Cond.code Lib.Math.min.name Lib.Math.min.code 2 (some .int), Cond.methodLink RX3 44 yJ6_bitCount_0f7a4, Cond.static yJ6_bitCount_0f7a4, Cond.initialized RJ6, Cond.code yJ6_bitCount_0f7a4 cJ6_bitCount_0f7a4 1 (some .int), Cond.constant RJ6 265 (1431655765), Cond.constant RJ6 266 (858993459), Cond.constant RJ6 267 (252645135), Cond.methodLink RX3 50 yX7_playersAt, Cond.instanceMethod yX7_playersAt, Cond.selects RX7 yX7_playersAt yX7_playersAt, Cond.initialized RX7, Cond.code yX7_playersAt cX7_playersAt 4 (some .int), Cond.fieldLink RX7 9 "FairQueue$Queue" "parties" "[I", Cond.static yX8_hasBit, Cond.initialized RX8, Cond.code yX8_hasBit cX8_hasBit 2 (some .boolean), Cond.methodLink RX7 23 yX7_partyAt, Cond.instanceMethod yX7_partyAt]
def wsX3_gather_r2 : List Cond := [Cond.selects RX7 yX7_partyAt yX7_partyAt, Cond.code yX7_partyAt cX7_partyAt 2 (some .int), Cond.fieldLink RX7 19 "FairQueue$Queue" "waiting" "I", Cond.methodLink RX3 53 yX6_meansOf, Cond.instanceMethod yX6_meansOf, Cond.selects RX6 yX6_meansOf yX6_meansOf, Cond.initialized RX6, Cond.code yX6_meansOf cX6_meansOf 6 (some .long), Cond.fieldLink RX6 11 "FairQueue$Players" "row" "[LFairQueue$Player;", Cond.methodLink RX6 28 yX6_at, Cond.instanceMethod yX6_at, Cond.selects RX6 yX6_at yX6_at, Cond.code yX6_at cX6_at 2 (some (.object "FairQueue$Player")), Cond.fieldLink RX6 21 "FairQueue$Players" "number" "I", Cond.methodLink RX6 39 yX5_ownMean, Cond.instanceMethod yX5_ownMean, Cond.selects RX5 yX5_ownMean yX5_ownMean, Cond.initialized RX5, Cond.code yX5_ownMean cX5_ownMean 4 (some .long), Cond.fieldLink RX5 15 "FairQueue$Player" "shares" "[J", Cond.methodLink RX3 59 yX3_add, Cond.instanceMethod yX3_add, Cond.selects RX3 yX3_add yX3_add, Cond.initialized RX3]
def wsX3_gather_r3 : List Cond := [Cond.code yX3_add cX3_add 4 none, Cond.fieldLink RX3 9 "FairQueue$Pairings" "teams" "[I", Cond.fieldLink RX3 15 "FairQueue$Pairings" "means" "[J"]
def wsX3_gather : List Cond := .code yX3_gather cX3_gather 7 none :: ((wsX3_gather_r1 ++ (wsX3_gather_r2 ++ wsX3_gather_r3)) ++ wsX30 ++ wsX70 ++ wsX60 ++ wsX50)
def wsX3_seekSecond : List Cond := .code yX3_seekSecond cX3_seekSecond 5 none :: ([.fieldLink RX3 9 "FairQueue$Pairings" "teams" "[I", .fieldLink RX3 15 "FairQueue$Pairings" "means" "[J", .fieldLink RX3 19 "FairQueue$Pairings" "number" "I", .methodLink RX3 71 Lib.MathLoose.abs_long.x, .static Lib.MathLoose.abs_long.x, .initialized "java/lang/Math", .code Lib.MathLoose.abs_long.x Lib.MathLoose.abs_long.code 2 (some .long), .fieldLink RX3 23 "FairQueue$Pairings" "first" "I", .fieldLink RX3 29 "FairQueue$Pairings" "uneven" "J", .fieldLink RX3 26 "FairQueue$Pairings" "second" "I"] ++ wsX30)
def wsX3_seek : List Cond := .code yX3_seek cX3_seek 3 (some .boolean) :: ([.fieldLink RX3 23 "FairQueue$Pairings" "first" "I", .fieldLink RX3 26 "FairQueue$Pairings" "second" "I", .fieldLink RX3 29 "FairQueue$Pairings" "uneven" "J", .fieldLink RX3 19 "FairQueue$Pairings" "number" "I", .fieldLink RX3 9 "FairQueue$Pairings" "teams" "[I", .static yX8_hasBit, .initialized RX8, .code yX8_hasBit cX8_hasBit 2 (some .boolean), .methodLink RX3 67 yX3_seekSecond, .instanceMethod yX3_seekSecond, .selects RX3 yX3_seekSecond yX3_seekSecond, .initialized RX3, .code yX3_seekSecond cX3_seekSecond 5 none, .fieldLink RX3 15 "FairQueue$Pairings" "means" "[J", .methodLink RX3 71 Lib.MathLoose.abs_long.x, .static Lib.MathLoose.abs_long.x, .initialized "java/lang/Math", .code Lib.MathLoose.abs_long.x Lib.MathLoose.abs_long.code 2 (some .long)] ++ wsX30)
def wsX4_init : List Cond := .code yX4_init cX4_init 1 none :: ([.methodLink RX4 3 objectInit, .instanceMethod objectInit, .code objectInit ⟨#[0xb1]⟩ 1 none, .arrayClass .int, .fieldLink RX4 9 "FairQueue$Plan" "firsts" "[I", .fieldLink RX4 15 "FairQueue$Plan" "seconds" "[I", .fieldLink RX4 18 "FairQueue$Plan" "made" "I"] ++ wsX40)
def wsX4_add : List Cond := .code yX4_add cX4_add 3 none :: ([.fieldLink RX4 18 "FairQueue$Plan" "made" "I", .fieldLink RX4 9 "FairQueue$Plan" "firsts" "[I", .fieldLink RX4 15 "FairQueue$Plan" "seconds" "[I"] ++ wsX40)
def wsX4_firstAt : List Cond := .code yX4_firstAt cX4_firstAt 2 (some .int) :: ([.fieldLink RX4 9 "FairQueue$Plan" "firsts" "[I"] ++ wsX40)
def wsX4_secondAt : List Cond := .code yX4_secondAt cX4_secondAt 2 (some .int) :: ([.fieldLink RX4 15 "FairQueue$Plan" "seconds" "[I"] ++ wsX40)
def wsX8_evenShare : List Cond := .code yX8_evenShare cX8_evenShare 1 (some .long) :: ([.constantLong RX8 276 (142858), .constantLong RX8 278 (142857)])
def wsX5_init : List Cond := .code yX5_init cX5_init 3 none :: ([.methodLink RX5 3 objectInit, .instanceMethod objectInit, .code objectInit ⟨#[0xb1]⟩ 1 none, .fieldLink RX5 9 "FairQueue$Player" "kind" "I", .arrayClass .long, .fieldLink RX5 15 "FairQueue$Player" "shares" "[J", .fieldLink RX5 19 "FairQueue$Player" "next" "[J", .fieldLink RX5 22 "FairQueue$Player" "surprises" "[J", .fieldLink RX5 25 "FairQueue$Player" "kept" "I", .static yX8_evenShare, .initialized RX8, .code yX8_evenShare cX8_evenShare 1 (some .long), .constantLong RX8 276 (142858), .constantLong RX8 278 (142857)] ++ wsX50)
def wsX5_drawToTheMiddle : List Cond := .code yX5_drawToTheMiddle cX5_drawToTheMiddle 4 none :: ([.constantLong RX5 32 (1000000), .fieldLink RX5 15 "FairQueue$Player" "shares" "[J", .constantLong RX5 34 (2), .static yX8_evenShare, .initialized RX8, .code yX8_evenShare cX8_evenShare 1 (some .long), .constantLong RX8 276 (142858), .constantLong RX8 278 (142857)] ++ wsX50)
def wsX5_sumOfSurprises : List Cond := .code yX5_sumOfSurprises cX5_sumOfSurprises 4 (some .long) :: ([.fieldLink RX5 25 "FairQueue$Player" "kept" "I", .fieldLink RX5 22 "FairQueue$Player" "surprises" "[J"] ++ wsX50)
def wsX6_init : List Cond := .code yX6_init cX6_init 1 none :: ([.methodLink RX6 3 objectInit, .instanceMethod objectInit, .code objectInit ⟨#[0xb1]⟩ 1 none, .classLink RX6 9 RX5, .fieldLink RX6 11 "FairQueue$Players" "row" "[LFairQueue$Player;", .arrayClass .long, .fieldLink RX6 17 "FairQueue$Players" "factors" "[J", .fieldLink RX6 21 "FairQueue$Players" "number" "I"] ++ wsX60)
def wsX6_admit : List Cond := .code yX6_admit cX6_admit 2 (some .int) :: ([.fieldLink RX6 21 "FairQueue$Players" "number" "I", .fieldLink RX6 11 "FairQueue$Players" "row" "[LFairQueue$Player;", .classLink RX6 9 RX5, .instantiable RX5 5, .initialized RX5, .methodLink RX6 25 yX5_init, .instanceMethod yX5_init, .code yX5_init cX5_init 3 none, .methodLink RX5 3 objectInit, .instanceMethod objectInit, .code objectInit ⟨#[0xb1]⟩ 1 none, .fieldLink RX5 9 "FairQueue$Player" "kind" "I", .arrayClass .long, .fieldLink RX5 15 "FairQueue$Player" "shares" "[J", .fieldLink RX5 19 "FairQueue$Player" "next" "[J", .fieldLink RX5 22 "FairQueue$Player" "surprises" "[J", .fieldLink RX5 25 "FairQueue$Player" "kept" "I", .static yX8_evenShare, .initialized RX8, .code yX8_evenShare cX8_evenShare 1 (some .long), .constantLong RX8 276 (142858), .constantLong RX8 278 (142857)] ++ wsX60 ++ wsX50)
def wsX6_drawToTheMiddle : List Cond := .code yX6_drawToTheMiddle cX6_drawToTheMiddle 3 none :: ([.fieldLink RX6 11 "FairQueue$Players" "row" "[LFairQueue$Player;", .methodLink RX6 28 yX6_at, .instanceMethod yX6_at, .selects RX6 yX6_at yX6_at, .initialized RX6, .code yX6_at cX6_at 2 (some (.object "FairQueue$Player")), .fieldLink RX6 21 "FairQueue$Players" "number" "I", .methodLink RX6 32 yX5_drawToTheMiddle, .instanceMethod yX5_drawToTheMiddle, .selects RX5 yX5_drawToTheMiddle yX5_drawToTheMiddle, .initialized RX5, .code yX5_drawToTheMiddle cX5_drawToTheMiddle 4 none, .constantLong RX5 32 (1000000), .fieldLink RX5 15 "FairQueue$Player" "shares" "[J", .constantLong RX5 34 (2), .static yX8_evenShare, .initialized RX8, .code yX8_evenShare cX8_evenShare 1 (some .long), .constantLong RX8 276 (142858), .constantLong RX8 278 (142857)] ++ wsX60 ++ wsX50)
def wsX6_teamChance_r1 : List Cond := [Cond.fieldLink RX6 11 "FairQueue$Players" "row" "[LFairQueue$Player;", Cond.methodLink RX6 28 yX6_at, Cond.instanceMethod yX6_at, Cond.selects RX6 yX6_at yX6_at, Cond.initialized RX6, Cond.code yX6_at cX6_at 2 (some (.object "FairQueue$Player")), Cond.fieldLink RX6 21 "FairQueue$Players" "number" "I", Cond.static yX8_hasBit, Cond.initialized RX8, Cond.code yX8_hasBit cX8_hasBit 2 (some .boolean), Cond.methodLink RX6 69 yX6_chanceOf, Cond.instanceMethod yX6_chanceOf, Cond.selects RX6 yX6_chanceOf yX6_chanceOf, Cond.code yX6_chanceOf cX6_chanceOf 6 (some .long), Cond.fieldLink RX6 56 "FairQueue$Player" "shares" "[J", Cond.constantLong RX6 67 (1000000), Cond.methodLink RX6 63 yX6_chanceAt, Cond.instanceMethod yX6_chanceAt, Cond.selects RX6 yX6_chanceAt yX6_chanceAt, Cond.code yX6_chanceAt cX6_chanceAt 9 (some .long), Cond.constantLong RX6 54 (1000), Cond.methodLink RX6 50 yX6_oddsAgainst, Cond.static yX6_oddsAgainst, Cond.code yX6_oddsAgainst cX6_oddsAgainst 5 (some .long)]
def wsX6_teamChance_r2 : List Cond := [Cond.constantLong RX6 59 (500), Cond.constantLong RX6 61 (70)]
def wsX6_teamChance : List Cond := .code yX6_teamChance cX6_teamChance 9 (some .long) :: ((wsX6_teamChance_r1 ++ wsX6_teamChance_r2) ++ wsX60 ++ wsX50)
def wsX7_init : List Cond := .code yX7_init cX7_init 1 none :: ([.methodLink RX7 3 objectInit, .instanceMethod objectInit, .code objectInit ⟨#[0xb1]⟩ 1 none, .arrayClass .int, .fieldLink RX7 9 "FairQueue$Queue" "parties" "[I", .arrayClass .long, .fieldLink RX7 15 "FairQueue$Queue" "since" "[J", .fieldLink RX7 19 "FairQueue$Queue" "waiting" "I"] ++ wsX70)
def wsX7_sinceAt : List Cond := .code yX7_sinceAt cX7_sinceAt 2 (some .long) :: ([.fieldLink RX7 19 "FairQueue$Queue" "waiting" "I", .fieldLink RX7 15 "FairQueue$Queue" "since" "[J"] ++ wsX70)
def wsX7_copyOf : List Cond := .code yX7_copyOf cX7_copyOf 3 none :: ([.fieldLink RX7 9 "FairQueue$Queue" "parties" "[I", .fieldLink RX7 15 "FairQueue$Queue" "since" "[J", .fieldLink RX7 19 "FairQueue$Queue" "waiting" "I", .methodLink RX7 23 yX7_partyAt, .instanceMethod yX7_partyAt, .selects RX7 yX7_partyAt yX7_partyAt, .initialized RX7, .code yX7_partyAt cX7_partyAt 2 (some .int), .methodLink RX7 27 yX7_sinceAt, .instanceMethod yX7_sinceAt, .selects RX7 yX7_sinceAt yX7_sinceAt, .code yX7_sinceAt cX7_sinceAt 2 (some .long)] ++ wsX70)
def wsX7_join : List Cond := .code yX7_join cX7_join 4 (some .boolean) :: ([.fieldLink RX7 19 "FairQueue$Queue" "waiting" "I", .fieldLink RX7 9 "FairQueue$Queue" "parties" "[I", .fieldLink RX7 15 "FairQueue$Queue" "since" "[J"] ++ wsX70)
def wsX7_everybody : List Cond := .code yX7_everybody cX7_everybody 1 (some .int) :: ([.methodLink RX7 31 yX7_playersAt, .instanceMethod yX7_playersAt, .selects RX7 yX7_playersAt yX7_playersAt, .initialized RX7, .code yX7_playersAt cX7_playersAt 4 (some .int), .fieldLink RX7 9 "FairQueue$Queue" "parties" "[I", .static yX8_hasBit, .initialized RX8, .code yX8_hasBit cX8_hasBit 2 (some .boolean), .methodLink RX7 23 yX7_partyAt, .instanceMethod yX7_partyAt, .selects RX7 yX7_partyAt yX7_partyAt, .code yX7_partyAt cX7_partyAt 2 (some .int), .fieldLink RX7 19 "FairQueue$Queue" "waiting" "I"] ++ wsX70)
def wsX7_placeOf : List Cond := .code yX7_placeOf cX7_placeOf 3 (some .int) :: ([.fieldLink RX7 9 "FairQueue$Queue" "parties" "[I", .methodLink RX7 23 yX7_partyAt, .instanceMethod yX7_partyAt, .selects RX7 yX7_partyAt yX7_partyAt, .initialized RX7, .code yX7_partyAt cX7_partyAt 2 (some .int), .fieldLink RX7 19 "FairQueue$Queue" "waiting" "I"] ++ wsX70)
def wsX7_release : List Cond := .code yX7_release cX7_release 4 none :: ([.fieldLink RX7 19 "FairQueue$Queue" "waiting" "I", .fieldLink RX7 9 "FairQueue$Queue" "parties" "[I", .fieldLink RX7 15 "FairQueue$Queue" "since" "[J", .static yX8_hasBit, .initialized RX8, .code yX8_hasBit cX8_hasBit 2 (some .boolean)] ++ wsX70)
def wsX8_init_r1 : List Cond := [Cond.methodLink RX8 1 objectInit, Cond.instanceMethod objectInit, Cond.code objectInit ⟨#[0xb1]⟩ 1 none, Cond.classLink RX8 7 RX6, Cond.instantiable RX6 3, Cond.initialized RX6, Cond.fieldLink RX8 10 "FairQueue" "players" "LFairQueue$Players;", Cond.classLink RX8 16 RX7, Cond.instantiable RX7 3, Cond.initialized RX7, Cond.fieldLink RX8 19 "FairQueue" "queue" "LFairQueue$Queue;", Cond.fieldLink RX8 23 "FairQueue" "trial" "LFairQueue$Queue;", Cond.classLink RX8 26 RX3, Cond.instantiable RX3 6, Cond.initialized RX3, Cond.fieldLink RX8 29 "FairQueue" "pairings" "LFairQueue$Pairings;", Cond.classLink RX8 33 RX4, Cond.instantiable RX4 3, Cond.initialized RX4, Cond.fieldLink RX8 36 "FairQueue" "plan" "LFairQueue$Plan;", Cond.classLink RX8 40 RX2, Cond.instantiable RX2 2, Cond.initialized RX2, Cond.fieldLink RX8 43 "FairQueue" "matches" "LFairQueue$Matches;"]
def wsX8_init_r2 : List Cond := [Cond.classLink RX8 47 RX0, Cond.instantiable RX0 3, Cond.initialized RX0, Cond.fieldLink RX8 50 "FairQueue" "bounds" "LFairQueue$Bounds;", Cond.arrayClass .long, Cond.fieldLink RX8 54 "FairQueue" "told" "[J", Cond.fieldLink RX8 58 "FairQueue" "findings" "[J", Cond.fieldLink RX8 61 "FairQueue" "toldCount" "I", Cond.fieldLink RX8 65 "FairQueue" "teamSize" "I", Cond.constantLong RX8 68 (1500000), Cond.fieldLink RX8 70 "FairQueue" "limit" "J", Cond.fieldLink RX8 74 "FairQueue" "tick" "J", Cond.methodLink RX8 9 yX6_init, Cond.instanceMethod yX6_init, Cond.code yX6_init cX6_init 1 none, Cond.methodLink RX6 3 objectInit, Cond.classLink RX6 9 RX5, Cond.fieldLink RX6 11 "FairQueue$Players" "row" "[LFairQueue$Player;", Cond.fieldLink RX6 17 "FairQueue$Players" "factors" "[J", Cond.fieldLink RX6 21 "FairQueue$Players" "number" "I", Cond.methodLink RX8 18 yX7_init, Cond.instanceMethod yX7_init, Cond.code yX7_init cX7_init 1 none, Cond.methodLink RX7 3 objectInit]
def wsX8_init_r3 : List Cond := [Cond.arrayClass .int, Cond.fieldLink RX7 9 "FairQueue$Queue" "parties" "[I", Cond.fieldLink RX7 15 "FairQueue$Queue" "since" "[J", Cond.fieldLink RX7 19 "FairQueue$Queue" "waiting" "I", Cond.methodLink RX8 28 yX3_init, Cond.instanceMethod yX3_init, Cond.code yX3_init cX3_init 1 none, Cond.methodLink RX3 3 objectInit, Cond.fieldLink RX3 9 "FairQueue$Pairings" "teams" "[I", Cond.fieldLink RX3 15 "FairQueue$Pairings" "means" "[J", Cond.fieldLink RX3 19 "FairQueue$Pairings" "number" "I", Cond.fieldLink RX3 23 "FairQueue$Pairings" "first" "I", Cond.fieldLink RX3 26 "FairQueue$Pairings" "second" "I", Cond.fieldLink RX3 29 "FairQueue$Pairings" "uneven" "J", Cond.methodLink RX8 35 yX4_init, Cond.instanceMethod yX4_init, Cond.code yX4_init cX4_init 1 none, Cond.methodLink RX4 3 objectInit, Cond.fieldLink RX4 9 "FairQueue$Plan" "firsts" "[I", Cond.fieldLink RX4 15 "FairQueue$Plan" "seconds" "[I", Cond.fieldLink RX4 18 "FairQueue$Plan" "made" "I", Cond.methodLink RX8 42 yX2_init, Cond.instanceMethod yX2_init, Cond.code yX2_init cX2_init 2 none]
def wsX8_init_r4 : List Cond := [Cond.methodLink RX2 3 objectInit, Cond.classLink RX2 9 RX1, Cond.fieldLink RX2 11 "FairQueue$Matches" "row" "[LFairQueue$Match;", Cond.instantiable RX1 4, Cond.initialized RX1, Cond.fieldLink RX2 18 "FairQueue$Matches" "ended" "J", Cond.methodLink RX2 17 yX1_init, Cond.instanceMethod yX1_init, Cond.code yX1_init cX1_init 1 none, Cond.methodLink RX1 3 objectInit, Cond.fieldLink RX1 9 "FairQueue$Match" "first" "I", Cond.fieldLink RX1 15 "FairQueue$Match" "second" "I", Cond.fieldLink RX1 18 "FairQueue$Match" "dropped" "I", Cond.fieldLink RX1 21 "FairQueue$Match" "made" "J", Cond.methodLink RX8 49 yX0_init, Cond.instanceMethod yX0_init, Cond.code yX0_init cX0_init 1 none, Cond.methodLink RX0 1 objectInit, Cond.constantLong RX0 7 (300000), Cond.fieldLink RX0 9 "FairQueue$Bounds" "base" "J", Cond.constantLong RX0 15 (100000), Cond.fieldLink RX0 17 "FairQueue$Bounds" "step" "J", Cond.constantLong RX0 20 (3000000), Cond.fieldLink RX0 22 "FairQueue$Bounds" "top" "J"]
def wsX8_init : List Cond := .code yX8_init cX8_init 1 none :: ((wsX8_init_r1 ++ (wsX8_init_r2 ++ (wsX8_init_r3 ++ wsX8_init_r4))) ++ wsX60 ++ wsX80 ++ wsX70 ++ wsX30 ++ wsX40 ++ wsX20 ++ wsX00 ++ wsX10)
def wsX8_isKind : List Cond := .code yX8_isKind cX8_isKind 1 (some .boolean) :: ([])
def wsX8_finding : List Cond := .code yX8_finding cX8_finding 2 (some .long) :: ([.fieldLink RX8 58 "FairQueue" "findings" "[J", .constantLong RX8 273 (-1000000000)] ++ wsX80)
def wsX8_player_r1 : List Cond := [Cond.fieldLink RX8 10 "FairQueue" "players" "LFairQueue$Players;", Cond.methodLink RX8 77 yX8_isKind, Cond.static yX8_isKind, Cond.initialized RX8, Cond.code yX8_isKind cX8_isKind 1 (some .boolean), Cond.methodLink RX8 81 yX8_finding, Cond.instanceMethod yX8_finding, Cond.selects RX8 yX8_finding yX8_finding, Cond.code yX8_finding cX8_finding 2 (some .long), Cond.fieldLink RX8 58 "FairQueue" "findings" "[J", Cond.constantLong RX8 273 (-1000000000), Cond.methodLink RX8 85 yX6_admit, Cond.instanceMethod yX6_admit, Cond.selects RX6 yX6_admit yX6_admit, Cond.initialized RX6, Cond.code yX6_admit cX6_admit 2 (some .int), Cond.fieldLink RX6 21 "FairQueue$Players" "number" "I", Cond.fieldLink RX6 11 "FairQueue$Players" "row" "[LFairQueue$Player;", Cond.classLink RX6 9 RX5, Cond.instantiable RX5 5, Cond.initialized RX5, Cond.methodLink RX6 25 yX5_init, Cond.instanceMethod yX5_init, Cond.code yX5_init cX5_init 3 none]
def wsX8_player_r2 : List Cond := [Cond.methodLink RX5 3 objectInit, Cond.instanceMethod objectInit, Cond.code objectInit ⟨#[0xb1]⟩ 1 none, Cond.fieldLink RX5 9 "FairQueue$Player" "kind" "I", Cond.arrayClass .long, Cond.fieldLink RX5 15 "FairQueue$Player" "shares" "[J", Cond.fieldLink RX5 19 "FairQueue$Player" "next" "[J", Cond.fieldLink RX5 22 "FairQueue$Player" "surprises" "[J", Cond.fieldLink RX5 25 "FairQueue$Player" "kept" "I", Cond.static yX8_evenShare, Cond.code yX8_evenShare cX8_evenShare 1 (some .long), Cond.constantLong RX8 276 (142858), Cond.constantLong RX8 278 (142857)]
def wsX8_player : List Cond := .code yX8_player cX8_player 3 (some .long) :: ((wsX8_player_r1 ++ wsX8_player_r2) ++ wsX80 ++ wsX60 ++ wsX50)
def wsX8_become : List Cond := .code yX8_become cX8_become 5 (some .long) :: ([.fieldLink RX8 10 "FairQueue" "players" "LFairQueue$Players;", .fieldLink RX8 93 "FairQueue$Player" "kind" "I", .methodLink RX8 89 yX6_at, .instanceMethod yX6_at, .selects RX6 yX6_at yX6_at, .initialized RX6, .code yX6_at cX6_at 2 (some (.object "FairQueue$Player")), .fieldLink RX6 21 "FairQueue$Players" "number" "I", .fieldLink RX6 11 "FairQueue$Players" "row" "[LFairQueue$Player;", .methodLink RX8 77 yX8_isKind, .static yX8_isKind, .initialized RX8, .code yX8_isKind cX8_isKind 1 (some .boolean), .methodLink RX8 81 yX8_finding, .instanceMethod yX8_finding, .selects RX8 yX8_finding yX8_finding, .code yX8_finding cX8_finding 2 (some .long), .fieldLink RX8 58 "FairQueue" "findings" "[J", .constantLong RX8 273 (-1000000000)] ++ wsX80 ++ wsX50 ++ wsX60)
def wsX8_as_r1 : List Cond := [Cond.fieldLink RX8 10 "FairQueue" "players" "LFairQueue$Players;", Cond.fieldLink RX8 93 "FairQueue$Player" "kind" "I", Cond.methodLink RX8 89 yX6_at, Cond.instanceMethod yX6_at, Cond.selects RX6 yX6_at yX6_at, Cond.initialized RX6, Cond.code yX6_at cX6_at 2 (some (.object "FairQueue$Player")), Cond.fieldLink RX6 21 "FairQueue$Players" "number" "I", Cond.fieldLink RX6 11 "FairQueue$Players" "row" "[LFairQueue$Player;", Cond.methodLink RX8 77 yX8_isKind, Cond.static yX8_isKind, Cond.initialized RX8, Cond.code yX8_isKind cX8_isKind 1 (some .boolean), Cond.methodLink RX8 81 yX8_finding, Cond.instanceMethod yX8_finding, Cond.selects RX8 yX8_finding yX8_finding, Cond.code yX8_finding cX8_finding 2 (some .long), Cond.fieldLink RX8 58 "FairQueue" "findings" "[J", Cond.constantLong RX8 273 (-1000000000), Cond.methodLink RX8 98 yX5_ownMean, Cond.instanceMethod yX5_ownMean, Cond.selects RX5 yX5_ownMean yX5_ownMean, Cond.initialized RX5, Cond.code yX5_ownMean cX5_ownMean 4 (some .long)]
def wsX8_as_r2 : List Cond := [Cond.fieldLink RX5 15 "FairQueue$Player" "shares" "[J"]
def wsX8_as : List Cond := .code yX8_as cX8_as 4 (some .long) :: ((wsX8_as_r1 ++ wsX8_as_r2) ++ wsX80 ++ wsX50 ++ wsX60)
def wsX8_isLevel : List Cond := .code yX8_isLevel cX8_isLevel 1 (some .boolean) :: ([])
def wsX8_share : List Cond := .code yX8_share cX8_share 4 (some .long) :: ([.fieldLink RX8 10 "FairQueue" "players" "LFairQueue$Players;", .fieldLink RX8 105 "FairQueue$Player" "shares" "[J", .methodLink RX8 89 yX6_at, .instanceMethod yX6_at, .selects RX6 yX6_at yX6_at, .initialized RX6, .code yX6_at cX6_at 2 (some (.object "FairQueue$Player")), .fieldLink RX6 21 "FairQueue$Players" "number" "I", .fieldLink RX6 11 "FairQueue$Players" "row" "[LFairQueue$Player;", .methodLink RX8 102 yX8_isLevel, .static yX8_isLevel, .initialized RX8, .code yX8_isLevel cX8_isLevel 1 (some .boolean), .methodLink RX8 81 yX8_finding, .instanceMethod yX8_finding, .selects RX8 yX8_finding yX8_finding, .code yX8_finding cX8_finding 2 (some .long), .fieldLink RX8 58 "FairQueue" "findings" "[J", .constantLong RX8 273 (-1000000000)] ++ wsX80 ++ wsX50 ++ wsX60)
def wsX8_shift : List Cond := .code yX8_shift cX8_shift 6 (some .long) :: ([.fieldLink RX8 10 "FairQueue" "players" "LFairQueue$Players;", .fieldLink RX8 105 "FairQueue$Player" "shares" "[J", .methodLink RX8 89 yX6_at, .instanceMethod yX6_at, .selects RX6 yX6_at yX6_at, .initialized RX6, .code yX6_at cX6_at 2 (some (.object "FairQueue$Player")), .fieldLink RX6 21 "FairQueue$Players" "number" "I", .fieldLink RX6 11 "FairQueue$Players" "row" "[LFairQueue$Player;", .methodLink RX8 102 yX8_isLevel, .static yX8_isLevel, .initialized RX8, .code yX8_isLevel cX8_isLevel 1 (some .boolean), .methodLink RX8 81 yX8_finding, .instanceMethod yX8_finding, .selects RX8 yX8_finding yX8_finding, .code yX8_finding cX8_finding 2 (some .long), .fieldLink RX8 58 "FairQueue" "findings" "[J", .constantLong RX8 273 (-1000000000)] ++ wsX80 ++ wsX50 ++ wsX60)
def wsX8_mean : List Cond := .code yX8_mean cX8_mean 3 (some .long) :: ([.fieldLink RX8 10 "FairQueue" "players" "LFairQueue$Players;", .methodLink RX8 89 yX6_at, .instanceMethod yX6_at, .selects RX6 yX6_at yX6_at, .initialized RX6, .code yX6_at cX6_at 2 (some (.object "FairQueue$Player")), .fieldLink RX6 21 "FairQueue$Players" "number" "I", .fieldLink RX6 11 "FairQueue$Players" "row" "[LFairQueue$Player;", .methodLink RX8 81 yX8_finding, .instanceMethod yX8_finding, .selects RX8 yX8_finding yX8_finding, .initialized RX8, .code yX8_finding cX8_finding 2 (some .long), .fieldLink RX8 58 "FairQueue" "findings" "[J", .constantLong RX8 273 (-1000000000), .methodLink RX8 98 yX5_ownMean, .instanceMethod yX5_ownMean, .selects RX5 yX5_ownMean yX5_ownMean, .initialized RX5, .code yX5_ownMean cX5_ownMean 4 (some .long), .fieldLink RX5 15 "FairQueue$Player" "shares" "[J"] ++ wsX80 ++ wsX60 ++ wsX50)
def wsX8_chance_r1 : List Cond := [Cond.fieldLink RX8 10 "FairQueue" "players" "LFairQueue$Players;", Cond.methodLink RX8 89 yX6_at, Cond.instanceMethod yX6_at, Cond.selects RX6 yX6_at yX6_at, Cond.initialized RX6, Cond.code yX6_at cX6_at 2 (some (.object "FairQueue$Player")), Cond.fieldLink RX6 21 "FairQueue$Players" "number" "I", Cond.fieldLink RX6 11 "FairQueue$Players" "row" "[LFairQueue$Player;", Cond.methodLink RX8 81 yX8_finding, Cond.instanceMethod yX8_finding, Cond.selects RX8 yX8_finding yX8_finding, Cond.initialized RX8, Cond.code yX8_finding cX8_finding 2 (some .long), Cond.fieldLink RX8 58 "FairQueue" "findings" "[J", Cond.constantLong RX8 273 (-1000000000), Cond.methodLink RX8 108 yX8_bitOf, Cond.static yX8_bitOf, Cond.code yX8_bitOf cX8_bitOf 1 (some .int), Cond.methodLink RX8 111 yX6_chanceOf, Cond.instanceMethod yX6_chanceOf, Cond.selects RX6 yX6_chanceOf yX6_chanceOf, Cond.code yX6_chanceOf cX6_chanceOf 6 (some .long), Cond.fieldLink RX6 56 "FairQueue$Player" "shares" "[J", Cond.constantLong RX6 67 (1000000)]
def wsX8_chance_r2 : List Cond := [Cond.methodLink RX6 63 yX6_chanceAt, Cond.instanceMethod yX6_chanceAt, Cond.selects RX6 yX6_chanceAt yX6_chanceAt, Cond.code yX6_chanceAt cX6_chanceAt 9 (some .long), Cond.constantLong RX6 54 (1000), Cond.methodLink RX6 28 yX6_at, Cond.static yX8_hasBit, Cond.code yX8_hasBit cX8_hasBit 2 (some .boolean), Cond.methodLink RX6 50 yX6_oddsAgainst, Cond.static yX6_oddsAgainst, Cond.code yX6_oddsAgainst cX6_oddsAgainst 5 (some .long), Cond.constantLong RX6 59 (500), Cond.constantLong RX6 61 (70)]
def wsX8_chance : List Cond := .code yX8_chance cX8_chance 4 (some .long) :: ((wsX8_chance_r1 ++ wsX8_chance_r2) ++ wsX80 ++ wsX60 ++ wsX50)
def wsX8_season_r1 : List Cond := [Cond.fieldLink RX8 43 "FairQueue" "matches" "LFairQueue$Matches;", Cond.fieldLink RX8 10 "FairQueue" "players" "LFairQueue$Players;", Cond.fieldLink RX8 122 "FairQueue$Players" "number" "I", Cond.methodLink RX8 115 yX2_going, Cond.instanceMethod yX2_going, Cond.selects RX2 yX2_going yX2_going, Cond.initialized RX2, Cond.code yX2_going cX2_going 4 (some .int), Cond.fieldLink RX2 11 "FairQueue$Matches" "row" "[LFairQueue$Match;", Cond.methodLink RX2 22 yX1_goesOn, Cond.instanceMethod yX1_goesOn, Cond.selects RX1 yX1_goesOn yX1_goesOn, Cond.initialized RX1, Cond.code yX1_goesOn cX1_goesOn 1 (some .boolean), Cond.fieldLink RX1 9 "FairQueue$Match" "first" "I", Cond.methodLink RX8 81 yX8_finding, Cond.instanceMethod yX8_finding, Cond.selects RX8 yX8_finding yX8_finding, Cond.initialized RX8, Cond.code yX8_finding cX8_finding 2 (some .long), Cond.fieldLink RX8 58 "FairQueue" "findings" "[J", Cond.constantLong RX8 273 (-1000000000), Cond.methodLink RX8 119 yX6_drawToTheMiddle, Cond.instanceMethod yX6_drawToTheMiddle]
def wsX8_season_r2 : List Cond := [Cond.selects RX6 yX6_drawToTheMiddle yX6_drawToTheMiddle, Cond.initialized RX6, Cond.code yX6_drawToTheMiddle cX6_drawToTheMiddle 3 none, Cond.fieldLink RX6 11 "FairQueue$Players" "row" "[LFairQueue$Player;", Cond.methodLink RX6 28 yX6_at, Cond.instanceMethod yX6_at, Cond.selects RX6 yX6_at yX6_at, Cond.code yX6_at cX6_at 2 (some (.object "FairQueue$Player")), Cond.fieldLink RX6 21 "FairQueue$Players" "number" "I", Cond.methodLink RX6 32 yX5_drawToTheMiddle, Cond.instanceMethod yX5_drawToTheMiddle, Cond.selects RX5 yX5_drawToTheMiddle yX5_drawToTheMiddle, Cond.initialized RX5, Cond.code yX5_drawToTheMiddle cX5_drawToTheMiddle 4 none, Cond.constantLong RX5 32 (1000000), Cond.fieldLink RX5 15 "FairQueue$Player" "shares" "[J", Cond.constantLong RX5 34 (2), Cond.static yX8_evenShare, Cond.code yX8_evenShare cX8_evenShare 1 (some .long), Cond.constantLong RX8 276 (142858), Cond.constantLong RX8 278 (142857)]
def wsX8_season : List Cond := .code yX8_season cX8_season 1 (some .long) :: ((wsX8_season_r1 ++ wsX8_season_r2) ++ wsX80 ++ wsX60 ++ wsX20 ++ wsX10 ++ wsX50)
def wsX8_size : List Cond := .code yX8_size cX8_size 3 (some .long) :: ([.fieldLink RX8 43 "FairQueue" "matches" "LFairQueue$Matches;", .fieldLink RX8 19 "FairQueue" "queue" "LFairQueue$Queue;", .fieldLink RX8 125 "FairQueue$Queue" "waiting" "I", .fieldLink RX8 65 "FairQueue" "teamSize" "I", .methodLink RX8 81 yX8_finding, .instanceMethod yX8_finding, .selects RX8 yX8_finding yX8_finding, .initialized RX8, .code yX8_finding cX8_finding 2 (some .long), .fieldLink RX8 58 "FairQueue" "findings" "[J", .constantLong RX8 273 (-1000000000), .methodLink RX8 115 yX2_going, .instanceMethod yX2_going, .selects RX2 yX2_going yX2_going, .initialized RX2, .code yX2_going cX2_going 4 (some .int), .fieldLink RX2 11 "FairQueue$Matches" "row" "[LFairQueue$Match;", .methodLink RX2 22 yX1_goesOn, .instanceMethod yX1_goesOn, .selects RX1 yX1_goesOn yX1_goesOn, .initialized RX1, .code yX1_goesOn cX1_goesOn 1 (some .boolean), .fieldLink RX1 9 "FairQueue$Match" "first" "I"] ++ wsX80 ++ wsX70 ++ wsX20 ++ wsX10)
def wsX8_isBound : List Cond := .code yX8_isBound cX8_isBound 1 (some .boolean) :: ([.constant RX8 275 (10000000)])
def wsX8_bounds : List Cond := .code yX8_bounds cX8_bounds 4 (some .long) :: ([.fieldLink RX8 50 "FairQueue" "bounds" "LFairQueue$Bounds;", .fieldLink RX8 131 "FairQueue$Bounds" "base" "J", .fieldLink RX8 134 "FairQueue$Bounds" "step" "J", .fieldLink RX8 137 "FairQueue$Bounds" "top" "J", .methodLink RX8 128 yX8_isBound, .static yX8_isBound, .initialized RX8, .code yX8_isBound cX8_isBound 1 (some .boolean), .constant RX8 275 (10000000), .methodLink RX8 81 yX8_finding, .instanceMethod yX8_finding, .selects RX8 yX8_finding yX8_finding, .code yX8_finding cX8_finding 2 (some .long), .fieldLink RX8 58 "FairQueue" "findings" "[J", .constantLong RX8 273 (-1000000000)] ++ wsX80 ++ wsX00)
def wsX8_partyOf : List Cond := .code yX8_partyOf cX8_partyOf 4 (some .int) :: ([.fieldLink RX8 10 "FairQueue" "players" "LFairQueue$Players;", .methodLink RX8 89 yX6_at, .instanceMethod yX6_at, .selects RX6 yX6_at yX6_at, .initialized RX6, .code yX6_at cX6_at 2 (some (.object "FairQueue$Player")), .fieldLink RX6 21 "FairQueue$Players" "number" "I", .fieldLink RX6 11 "FairQueue$Players" "row" "[LFairQueue$Player;", .methodLink RX8 108 yX8_bitOf, .static yX8_bitOf, .initialized RX8, .code yX8_bitOf cX8_bitOf 1 (some .int)] ++ wsX80 ++ wsX60)
def wsX8_wait_r1 : List Cond := [Cond.fieldLink RX8 65 "FairQueue" "teamSize" "I", Cond.fieldLink RX8 19 "FairQueue" "queue" "LFairQueue$Queue;", Cond.fieldLink RX8 43 "FairQueue" "matches" "LFairQueue$Matches;", Cond.fieldLink RX8 74 "FairQueue" "tick" "J", Cond.fieldLink RX8 125 "FairQueue$Queue" "waiting" "I", Cond.methodLink RX8 140 yX8_partyOf, Cond.instanceMethod yX8_partyOf, Cond.selects RX8 yX8_partyOf yX8_partyOf, Cond.initialized RX8, Cond.code yX8_partyOf cX8_partyOf 4 (some .int), Cond.fieldLink RX8 10 "FairQueue" "players" "LFairQueue$Players;", Cond.methodLink RX8 89 yX6_at, Cond.instanceMethod yX6_at, Cond.selects RX6 yX6_at yX6_at, Cond.initialized RX6, Cond.code yX6_at cX6_at 2 (some (.object "FairQueue$Player")), Cond.fieldLink RX6 21 "FairQueue$Players" "number" "I", Cond.fieldLink RX6 11 "FairQueue$Players" "row" "[LFairQueue$Player;", Cond.methodLink RX8 108 yX8_bitOf, Cond.static yX8_bitOf, Cond.code yX8_bitOf cX8_bitOf 1 (some .int), Cond.methodLink RX8 81 yX8_finding, Cond.instanceMethod yX8_finding, Cond.selects RX8 yX8_finding yX8_finding]
def wsX8_wait_r2 : List Cond := [Cond.code yX8_finding cX8_finding 2 (some .long), Cond.fieldLink RX8 58 "FairQueue" "findings" "[J", Cond.constantLong RX8 273 (-1000000000), Cond.methodLink RX8 144 yJ6_bitCount_0f7a4, Cond.static yJ6_bitCount_0f7a4, Cond.initialized RJ6, Cond.code yJ6_bitCount_0f7a4 cJ6_bitCount_0f7a4 1 (some .int), Cond.constant RJ6 265 (1431655765), Cond.constant RJ6 266 (858993459), Cond.constant RJ6 267 (252645135), Cond.methodLink RX8 149 yX7_everybody, Cond.instanceMethod yX7_everybody, Cond.selects RX7 yX7_everybody yX7_everybody, Cond.initialized RX7, Cond.code yX7_everybody cX7_everybody 1 (some .int), Cond.methodLink RX7 31 yX7_playersAt, Cond.instanceMethod yX7_playersAt, Cond.selects RX7 yX7_playersAt yX7_playersAt, Cond.code yX7_playersAt cX7_playersAt 4 (some .int), Cond.fieldLink RX7 9 "FairQueue$Queue" "parties" "[I", Cond.static yX8_hasBit, Cond.code yX8_hasBit cX8_hasBit 2 (some .boolean), Cond.methodLink RX7 23 yX7_partyAt, Cond.instanceMethod yX7_partyAt]
def wsX8_wait_r3 : List Cond := [Cond.selects RX7 yX7_partyAt yX7_partyAt, Cond.code yX7_partyAt cX7_partyAt 2 (some .int), Cond.fieldLink RX7 19 "FairQueue$Queue" "waiting" "I", Cond.methodLink RX8 152 yX2_everybody, Cond.instanceMethod yX2_everybody, Cond.selects RX2 yX2_everybody yX2_everybody, Cond.initialized RX2, Cond.code yX2_everybody cX2_everybody 4 (some .int), Cond.fieldLink RX2 11 "FairQueue$Matches" "row" "[LFairQueue$Match;", Cond.methodLink RX2 26 yX1_playing, Cond.instanceMethod yX1_playing, Cond.selects RX1 yX1_playing yX1_playing, Cond.initialized RX1, Cond.code yX1_playing cX1_playing 1 (some .int), Cond.fieldLink RX1 9 "FairQueue$Match" "first" "I", Cond.fieldLink RX1 15 "FairQueue$Match" "second" "I", Cond.fieldLink RX1 18 "FairQueue$Match" "dropped" "I", Cond.methodLink RX8 153 yX7_join, Cond.instanceMethod yX7_join, Cond.selects RX7 yX7_join yX7_join, Cond.code yX7_join cX7_join 4 (some .boolean), Cond.fieldLink RX7 15 "FairQueue$Queue" "since" "[J"]
def wsX8_wait : List Cond := .code yX8_wait cX8_wait 5 (some .long) :: ((wsX8_wait_r1 ++ (wsX8_wait_r2 ++ wsX8_wait_r3)) ++ wsX80 ++ wsX70 ++ wsX60 ++ wsX20 ++ wsX10)
def wsX8_leave_r1 : List Cond := [Cond.fieldLink RX8 10 "FairQueue" "players" "LFairQueue$Players;", Cond.fieldLink RX8 19 "FairQueue" "queue" "LFairQueue$Queue;", Cond.fieldLink RX8 125 "FairQueue$Queue" "waiting" "I", Cond.methodLink RX8 89 yX6_at, Cond.instanceMethod yX6_at, Cond.selects RX6 yX6_at yX6_at, Cond.initialized RX6, Cond.code yX6_at cX6_at 2 (some (.object "FairQueue$Player")), Cond.fieldLink RX6 21 "FairQueue$Players" "number" "I", Cond.fieldLink RX6 11 "FairQueue$Players" "row" "[LFairQueue$Player;", Cond.methodLink RX8 81 yX8_finding, Cond.instanceMethod yX8_finding, Cond.selects RX8 yX8_finding yX8_finding, Cond.initialized RX8, Cond.code yX8_finding cX8_finding 2 (some .long), Cond.fieldLink RX8 58 "FairQueue" "findings" "[J", Cond.constantLong RX8 273 (-1000000000), Cond.methodLink RX8 108 yX8_bitOf, Cond.static yX8_bitOf, Cond.code yX8_bitOf cX8_bitOf 1 (some .int), Cond.methodLink RX8 157 yX7_placeOf, Cond.instanceMethod yX7_placeOf, Cond.selects RX7 yX7_placeOf yX7_placeOf, Cond.initialized RX7]
def wsX8_leave_r2 : List Cond := [Cond.code yX7_placeOf cX7_placeOf 3 (some .int), Cond.fieldLink RX7 9 "FairQueue$Queue" "parties" "[I", Cond.methodLink RX7 23 yX7_partyAt, Cond.instanceMethod yX7_partyAt, Cond.selects RX7 yX7_partyAt yX7_partyAt, Cond.code yX7_partyAt cX7_partyAt 2 (some .int), Cond.fieldLink RX7 19 "FairQueue$Queue" "waiting" "I", Cond.methodLink RX8 160 yX7_release, Cond.instanceMethod yX7_release, Cond.selects RX7 yX7_release yX7_release, Cond.code yX7_release cX7_release 4 none, Cond.fieldLink RX7 15 "FairQueue$Queue" "since" "[J", Cond.static yX8_hasBit, Cond.code yX8_hasBit cX8_hasBit 2 (some .boolean)]
def wsX8_leave : List Cond := .code yX8_leave cX8_leave 3 (some .long) :: ((wsX8_leave_r1 ++ wsX8_leave_r2) ++ wsX80 ++ wsX70 ++ wsX60)
def wsX8_waited_r1 : List Cond := [Cond.fieldLink RX8 10 "FairQueue" "players" "LFairQueue$Players;", Cond.fieldLink RX8 19 "FairQueue" "queue" "LFairQueue$Queue;", Cond.fieldLink RX8 74 "FairQueue" "tick" "J", Cond.fieldLink RX8 50 "FairQueue" "bounds" "LFairQueue$Bounds;", Cond.methodLink RX8 89 yX6_at, Cond.instanceMethod yX6_at, Cond.selects RX6 yX6_at yX6_at, Cond.initialized RX6, Cond.code yX6_at cX6_at 2 (some (.object "FairQueue$Player")), Cond.fieldLink RX6 21 "FairQueue$Players" "number" "I", Cond.fieldLink RX6 11 "FairQueue$Players" "row" "[LFairQueue$Player;", Cond.methodLink RX8 81 yX8_finding, Cond.instanceMethod yX8_finding, Cond.selects RX8 yX8_finding yX8_finding, Cond.initialized RX8, Cond.code yX8_finding cX8_finding 2 (some .long), Cond.fieldLink RX8 58 "FairQueue" "findings" "[J", Cond.constantLong RX8 273 (-1000000000), Cond.methodLink RX8 108 yX8_bitOf, Cond.static yX8_bitOf, Cond.code yX8_bitOf cX8_bitOf 1 (some .int), Cond.methodLink RX8 157 yX7_placeOf, Cond.instanceMethod yX7_placeOf, Cond.selects RX7 yX7_placeOf yX7_placeOf]
def wsX8_waited_r2 : List Cond := [Cond.initialized RX7, Cond.code yX7_placeOf cX7_placeOf 3 (some .int), Cond.fieldLink RX7 9 "FairQueue$Queue" "parties" "[I", Cond.methodLink RX7 23 yX7_partyAt, Cond.instanceMethod yX7_partyAt, Cond.selects RX7 yX7_partyAt yX7_partyAt, Cond.code yX7_partyAt cX7_partyAt 2 (some .int), Cond.fieldLink RX7 19 "FairQueue$Queue" "waiting" "I", Cond.methodLink RX8 164 yX7_sinceAt, Cond.instanceMethod yX7_sinceAt, Cond.selects RX7 yX7_sinceAt yX7_sinceAt, Cond.code yX7_sinceAt cX7_sinceAt 2 (some .long), Cond.fieldLink RX7 15 "FairQueue$Queue" "since" "[J", Cond.methodLink RX8 167 yX0_behind, Cond.instanceMethod yX0_behind, Cond.selects RX0 yX0_behind yX0_behind, Cond.initialized RX0, Cond.code yX0_behind cX0_behind 3 (some .long), Cond.fieldLink RX0 9 "FairQueue$Bounds" "base" "J", Cond.fieldLink RX0 17 "FairQueue$Bounds" "step" "J", Cond.fieldLink RX0 22 "FairQueue$Bounds" "top" "J", Cond.methodLink RX0 25 Lib.MathLoose.min_long.x, Cond.static Lib.MathLoose.min_long.x, Cond.initialized "java/lang/Math"]
def wsX8_waited_r3 : List Cond := [Cond.code Lib.MathLoose.min_long.x Lib.MathLoose.min_long.code 4 (some .long)]
def wsX8_waited : List Cond := .code yX8_waited cX8_waited 6 (some .long) :: ((wsX8_waited_r1 ++ (wsX8_waited_r2 ++ wsX8_waited_r3)) ++ wsX80 ++ wsX60 ++ wsX70 ++ wsX00)
def wsX8_hasPairing_r1 : List Cond := [Cond.fieldLink RX8 29 "FairQueue" "pairings" "LFairQueue$Pairings;", Cond.fieldLink RX8 179 "FairQueue$Pairings" "uneven" "J", Cond.fieldLink RX8 50 "FairQueue" "bounds" "LFairQueue$Bounds;", Cond.fieldLink RX8 74 "FairQueue" "tick" "J", Cond.methodLink RX8 280 yX3_seek, Cond.instanceMethod yX3_seek, Cond.selects RX3 yX3_seek yX3_seek, Cond.initialized RX3, Cond.code yX3_seek cX3_seek 3 (some .boolean), Cond.fieldLink RX3 23 "FairQueue$Pairings" "first" "I", Cond.fieldLink RX3 26 "FairQueue$Pairings" "second" "I", Cond.fieldLink RX3 29 "FairQueue$Pairings" "uneven" "J", Cond.fieldLink RX3 19 "FairQueue$Pairings" "number" "I", Cond.fieldLink RX3 9 "FairQueue$Pairings" "teams" "[I", Cond.static yX8_hasBit, Cond.initialized RX8, Cond.code yX8_hasBit cX8_hasBit 2 (some .boolean), Cond.methodLink RX3 67 yX3_seekSecond, Cond.instanceMethod yX3_seekSecond, Cond.selects RX3 yX3_seekSecond yX3_seekSecond, Cond.code yX3_seekSecond cX3_seekSecond 5 none, Cond.fieldLink RX3 15 "FairQueue$Pairings" "means" "[J", Cond.methodLink RX3 71 Lib.MathLoose.abs_long.x, Cond.static Lib.MathLoose.abs_long.x]
def wsX8_hasPairing_r2 : List Cond := [Cond.initialized "java/lang/Math", Cond.code Lib.MathLoose.abs_long.x Lib.MathLoose.abs_long.code 2 (some .long), Cond.methodLink RX8 164 yX7_sinceAt, Cond.instanceMethod yX7_sinceAt, Cond.selects RX7 yX7_sinceAt yX7_sinceAt, Cond.initialized RX7, Cond.code yX7_sinceAt cX7_sinceAt 2 (some .long), Cond.fieldLink RX7 19 "FairQueue$Queue" "waiting" "I", Cond.fieldLink RX7 15 "FairQueue$Queue" "since" "[J", Cond.methodLink RX8 167 yX0_behind, Cond.instanceMethod yX0_behind, Cond.selects RX0 yX0_behind yX0_behind, Cond.initialized RX0, Cond.code yX0_behind cX0_behind 3 (some .long), Cond.fieldLink RX0 9 "FairQueue$Bounds" "base" "J", Cond.fieldLink RX0 17 "FairQueue$Bounds" "step" "J", Cond.fieldLink RX0 22 "FairQueue$Bounds" "top" "J", Cond.methodLink RX0 25 Lib.MathLoose.min_long.x, Cond.static Lib.MathLoose.min_long.x, Cond.code Lib.MathLoose.min_long.x Lib.MathLoose.min_long.code 4 (some .long)]
def wsX8_hasPairing : List Cond := .code yX8_hasPairing cX8_hasPairing 3 (some .boolean) :: ((wsX8_hasPairing_r1 ++ wsX8_hasPairing_r2) ++ wsX80 ++ wsX30 ++ wsX70 ++ wsX00)
def wsX8_pairing_r1 : List Cond := [Cond.fieldLink RX8 10 "FairQueue" "players" "LFairQueue$Players;", Cond.fieldLink RX8 19 "FairQueue" "queue" "LFairQueue$Queue;", Cond.fieldLink RX8 29 "FairQueue" "pairings" "LFairQueue$Pairings;", Cond.fieldLink RX8 65 "FairQueue" "teamSize" "I", Cond.fieldLink RX8 179 "FairQueue$Pairings" "uneven" "J", Cond.fieldLink RX8 182 "FairQueue$Pairings" "first" "I", Cond.fieldLink RX8 185 "FairQueue$Pairings" "second" "I", Cond.methodLink RX8 89 yX6_at, Cond.instanceMethod yX6_at, Cond.selects RX6 yX6_at yX6_at, Cond.initialized RX6, Cond.code yX6_at cX6_at 2 (some (.object "FairQueue$Player")), Cond.fieldLink RX6 21 "FairQueue$Players" "number" "I", Cond.fieldLink RX6 11 "FairQueue$Players" "row" "[LFairQueue$Player;", Cond.methodLink RX8 81 yX8_finding, Cond.instanceMethod yX8_finding, Cond.selects RX8 yX8_finding yX8_finding, Cond.initialized RX8, Cond.code yX8_finding cX8_finding 2 (some .long), Cond.fieldLink RX8 58 "FairQueue" "findings" "[J", Cond.constantLong RX8 273 (-1000000000), Cond.methodLink RX8 108 yX8_bitOf, Cond.static yX8_bitOf, Cond.code yX8_bitOf cX8_bitOf 1 (some .int)]
def wsX8_pairing_r2 : List Cond := [Cond.methodLink RX8 157 yX7_placeOf, Cond.instanceMethod yX7_placeOf, Cond.selects RX7 yX7_placeOf yX7_placeOf, Cond.initialized RX7, Cond.code yX7_placeOf cX7_placeOf 3 (some .int), Cond.fieldLink RX7 9 "FairQueue$Queue" "parties" "[I", Cond.methodLink RX7 23 yX7_partyAt, Cond.instanceMethod yX7_partyAt, Cond.selects RX7 yX7_partyAt yX7_partyAt, Cond.code yX7_partyAt cX7_partyAt 2 (some .int), Cond.fieldLink RX7 19 "FairQueue$Queue" "waiting" "I", Cond.methodLink RX8 171 yX3_gather, Cond.instanceMethod yX3_gather, Cond.selects RX3 yX3_gather yX3_gather, Cond.initialized RX3, Cond.code yX3_gather cX3_gather 7 none, Cond.fieldLink RX3 19 "FairQueue$Pairings" "number" "I", Cond.fieldLink RX3 33 "FairQueue$Queue" "waiting" "I", Cond.methodLink RX3 38 Lib.Math.min.name, Cond.static Lib.Math.min.name, Cond.initialized "java/lang/Math", Cond.code Lib.Math.min.name Lib.Math.min.code 2 (some .int), Cond.methodLink RX3 44 yJ6_bitCount_0f7a4, Cond.static yJ6_bitCount_0f7a4]
def wsX8_pairing_r3 : List Cond := [Cond.initialized RJ6, Cond.code yJ6_bitCount_0f7a4 cJ6_bitCount_0f7a4 1 (some .int), Cond.constant RJ6 265 (1431655765), Cond.constant RJ6 266 (858993459), Cond.constant RJ6 267 (252645135), Cond.methodLink RX3 50 yX7_playersAt, Cond.instanceMethod yX7_playersAt, Cond.selects RX7 yX7_playersAt yX7_playersAt, Cond.code yX7_playersAt cX7_playersAt 4 (some .int), Cond.static yX8_hasBit, Cond.code yX8_hasBit cX8_hasBit 2 (some .boolean), Cond.methodLink RX3 53 yX6_meansOf, Cond.instanceMethod yX6_meansOf, Cond.selects RX6 yX6_meansOf yX6_meansOf, Cond.code yX6_meansOf cX6_meansOf 6 (some .long), Cond.methodLink RX6 28 yX6_at, Cond.methodLink RX6 39 yX5_ownMean, Cond.instanceMethod yX5_ownMean, Cond.selects RX5 yX5_ownMean yX5_ownMean, Cond.initialized RX5, Cond.code yX5_ownMean cX5_ownMean 4 (some .long), Cond.fieldLink RX5 15 "FairQueue$Player" "shares" "[J", Cond.methodLink RX3 59 yX3_add, Cond.instanceMethod yX3_add]
def wsX8_pairing_r4 : List Cond := [Cond.selects RX3 yX3_add yX3_add, Cond.code yX3_add cX3_add 4 none, Cond.fieldLink RX3 9 "FairQueue$Pairings" "teams" "[I", Cond.fieldLink RX3 15 "FairQueue$Pairings" "means" "[J", Cond.methodLink RX8 175 yX8_hasPairing, Cond.instanceMethod yX8_hasPairing, Cond.selects RX8 yX8_hasPairing yX8_hasPairing, Cond.code yX8_hasPairing cX8_hasPairing 3 (some .boolean), Cond.fieldLink RX8 50 "FairQueue" "bounds" "LFairQueue$Bounds;", Cond.fieldLink RX8 74 "FairQueue" "tick" "J", Cond.methodLink RX8 280 yX3_seek, Cond.instanceMethod yX3_seek, Cond.selects RX3 yX3_seek yX3_seek, Cond.code yX3_seek cX3_seek 3 (some .boolean), Cond.fieldLink RX3 23 "FairQueue$Pairings" "first" "I", Cond.fieldLink RX3 26 "FairQueue$Pairings" "second" "I", Cond.fieldLink RX3 29 "FairQueue$Pairings" "uneven" "J", Cond.methodLink RX3 67 yX3_seekSecond, Cond.instanceMethod yX3_seekSecond, Cond.selects RX3 yX3_seekSecond yX3_seekSecond, Cond.code yX3_seekSecond cX3_seekSecond 5 none, Cond.methodLink RX3 71 Lib.MathLoose.abs_long.x, Cond.static Lib.MathLoose.abs_long.x, Cond.code Lib.MathLoose.abs_long.x Lib.MathLoose.abs_long.code 2 (some .long)]
def wsX8_pairing_r5 : List Cond := [Cond.methodLink RX8 164 yX7_sinceAt, Cond.instanceMethod yX7_sinceAt, Cond.selects RX7 yX7_sinceAt yX7_sinceAt, Cond.code yX7_sinceAt cX7_sinceAt 2 (some .long), Cond.fieldLink RX7 15 "FairQueue$Queue" "since" "[J", Cond.methodLink RX8 167 yX0_behind, Cond.instanceMethod yX0_behind, Cond.selects RX0 yX0_behind yX0_behind, Cond.initialized RX0, Cond.code yX0_behind cX0_behind 3 (some .long), Cond.fieldLink RX0 9 "FairQueue$Bounds" "base" "J", Cond.fieldLink RX0 17 "FairQueue$Bounds" "step" "J", Cond.fieldLink RX0 22 "FairQueue$Bounds" "top" "J", Cond.methodLink RX0 25 Lib.MathLoose.min_long.x, Cond.static Lib.MathLoose.min_long.x, Cond.code Lib.MathLoose.min_long.x Lib.MathLoose.min_long.code 4 (some .long), Cond.methodLink RX8 188 yX7_playersAt]
def wsX8_pairing : List Cond := .code yX8_pairing cX8_pairing 4 (some .long) :: ((wsX8_pairing_r1 ++ (wsX8_pairing_r2 ++ (wsX8_pairing_r3 ++ (wsX8_pairing_r4 ++ wsX8_pairing_r5)))) ++ wsX80 ++ wsX30 ++ wsX60 ++ wsX70 ++ wsX50 ++ wsX00)
def wsX8_anyPairing_r1 : List Cond := [Cond.fieldLink RX8 29 "FairQueue" "pairings" "LFairQueue$Pairings;", Cond.fieldLink RX8 10 "FairQueue" "players" "LFairQueue$Players;", Cond.fieldLink RX8 65 "FairQueue" "teamSize" "I", Cond.fieldLink RX8 125 "FairQueue$Queue" "waiting" "I", Cond.methodLink RX8 171 yX3_gather, Cond.instanceMethod yX3_gather, Cond.selects RX3 yX3_gather yX3_gather, Cond.initialized RX3, Cond.code yX3_gather cX3_gather 7 none, Cond.fieldLink RX3 19 "FairQueue$Pairings" "number" "I", Cond.fieldLink RX3 33 "FairQueue$Queue" "waiting" "I", Cond.methodLink RX3 38 Lib.Math.min.name, Cond.static Lib.Math.min.name, Cond.initialized "java/lang/Math", Cond.code Lib.Math.min.name Lib.Math.min.code 2 (some .int), Cond.methodLink RX3 44 yJ6_bitCount_0f7a4, Cond.static yJ6_bitCount_0f7a4, Cond.initialized RJ6, Cond.code yJ6_bitCount_0f7a4 cJ6_bitCount_0f7a4 1 (some .int), Cond.constant RJ6 265 (1431655765), Cond.constant RJ6 266 (858993459), Cond.constant RJ6 267 (252645135), Cond.methodLink RX3 50 yX7_playersAt, Cond.instanceMethod yX7_playersAt]
def wsX8_anyPairing_r2 : List Cond := [Cond.selects RX7 yX7_playersAt yX7_playersAt, Cond.initialized RX7, Cond.code yX7_playersAt cX7_playersAt 4 (some .int), Cond.fieldLink RX7 9 "FairQueue$Queue" "parties" "[I", Cond.static yX8_hasBit, Cond.initialized RX8, Cond.code yX8_hasBit cX8_hasBit 2 (some .boolean), Cond.methodLink RX7 23 yX7_partyAt, Cond.instanceMethod yX7_partyAt, Cond.selects RX7 yX7_partyAt yX7_partyAt, Cond.code yX7_partyAt cX7_partyAt 2 (some .int), Cond.fieldLink RX7 19 "FairQueue$Queue" "waiting" "I", Cond.methodLink RX3 53 yX6_meansOf, Cond.instanceMethod yX6_meansOf, Cond.selects RX6 yX6_meansOf yX6_meansOf, Cond.initialized RX6, Cond.code yX6_meansOf cX6_meansOf 6 (some .long), Cond.fieldLink RX6 11 "FairQueue$Players" "row" "[LFairQueue$Player;", Cond.methodLink RX6 28 yX6_at, Cond.instanceMethod yX6_at, Cond.selects RX6 yX6_at yX6_at, Cond.code yX6_at cX6_at 2 (some (.object "FairQueue$Player")), Cond.fieldLink RX6 21 "FairQueue$Players" "number" "I", Cond.methodLink RX6 39 yX5_ownMean]
def wsX8_anyPairing_r3 : List Cond := [Cond.instanceMethod yX5_ownMean, Cond.selects RX5 yX5_ownMean yX5_ownMean, Cond.initialized RX5, Cond.code yX5_ownMean cX5_ownMean 4 (some .long), Cond.fieldLink RX5 15 "FairQueue$Player" "shares" "[J", Cond.methodLink RX3 59 yX3_add, Cond.instanceMethod yX3_add, Cond.selects RX3 yX3_add yX3_add, Cond.code yX3_add cX3_add 4 none, Cond.fieldLink RX3 9 "FairQueue$Pairings" "teams" "[I", Cond.fieldLink RX3 15 "FairQueue$Pairings" "means" "[J", Cond.methodLink RX8 175 yX8_hasPairing, Cond.instanceMethod yX8_hasPairing, Cond.selects RX8 yX8_hasPairing yX8_hasPairing, Cond.code yX8_hasPairing cX8_hasPairing 3 (some .boolean), Cond.fieldLink RX8 179 "FairQueue$Pairings" "uneven" "J", Cond.fieldLink RX8 50 "FairQueue" "bounds" "LFairQueue$Bounds;", Cond.fieldLink RX8 74 "FairQueue" "tick" "J", Cond.methodLink RX8 280 yX3_seek, Cond.instanceMethod yX3_seek, Cond.selects RX3 yX3_seek yX3_seek, Cond.code yX3_seek cX3_seek 3 (some .boolean), Cond.fieldLink RX3 23 "FairQueue$Pairings" "first" "I", Cond.fieldLink RX3 26 "FairQueue$Pairings" "second" "I"]
def wsX8_anyPairing_r4 : List Cond := [Cond.fieldLink RX3 29 "FairQueue$Pairings" "uneven" "J", Cond.methodLink RX3 67 yX3_seekSecond, Cond.instanceMethod yX3_seekSecond, Cond.selects RX3 yX3_seekSecond yX3_seekSecond, Cond.code yX3_seekSecond cX3_seekSecond 5 none, Cond.methodLink RX3 71 Lib.MathLoose.abs_long.x, Cond.static Lib.MathLoose.abs_long.x, Cond.code Lib.MathLoose.abs_long.x Lib.MathLoose.abs_long.code 2 (some .long), Cond.methodLink RX8 164 yX7_sinceAt, Cond.instanceMethod yX7_sinceAt, Cond.selects RX7 yX7_sinceAt yX7_sinceAt, Cond.code yX7_sinceAt cX7_sinceAt 2 (some .long), Cond.fieldLink RX7 15 "FairQueue$Queue" "since" "[J", Cond.methodLink RX8 167 yX0_behind, Cond.instanceMethod yX0_behind, Cond.selects RX0 yX0_behind yX0_behind, Cond.initialized RX0, Cond.code yX0_behind cX0_behind 3 (some .long), Cond.fieldLink RX0 9 "FairQueue$Bounds" "base" "J", Cond.fieldLink RX0 17 "FairQueue$Bounds" "step" "J", Cond.fieldLink RX0 22 "FairQueue$Bounds" "top" "J", Cond.methodLink RX0 25 Lib.MathLoose.min_long.x, Cond.static Lib.MathLoose.min_long.x, Cond.code Lib.MathLoose.min_long.x Lib.MathLoose.min_long.code 4 (some .long)]
def wsX8_anyPairing : List Cond := .code yX8_anyPairing cX8_anyPairing 3 (some .boolean) :: ((wsX8_anyPairing_r1 ++ (wsX8_anyPairing_r2 ++ (wsX8_anyPairing_r3 ++ wsX8_anyPairing_r4))) ++ wsX80 ++ wsX70 ++ wsX30 ++ wsX60 ++ wsX50 ++ wsX00)
def wsX8_planTick_r1 : List Cond := [Cond.fieldLink RX8 36 "FairQueue" "plan" "LFairQueue$Plan;", Cond.fieldLink RX8 195 "FairQueue$Plan" "made" "I", Cond.fieldLink RX8 43 "FairQueue" "matches" "LFairQueue$Matches;", Cond.fieldLink RX8 29 "FairQueue" "pairings" "LFairQueue$Pairings;", Cond.fieldLink RX8 182 "FairQueue$Pairings" "first" "I", Cond.fieldLink RX8 185 "FairQueue$Pairings" "second" "I", Cond.methodLink RX8 115 yX2_going, Cond.instanceMethod yX2_going, Cond.selects RX2 yX2_going yX2_going, Cond.initialized RX2, Cond.code yX2_going cX2_going 4 (some .int), Cond.fieldLink RX2 11 "FairQueue$Matches" "row" "[LFairQueue$Match;", Cond.methodLink RX2 22 yX1_goesOn, Cond.instanceMethod yX1_goesOn, Cond.selects RX1 yX1_goesOn yX1_goesOn, Cond.initialized RX1, Cond.code yX1_goesOn cX1_goesOn 1 (some .boolean), Cond.fieldLink RX1 9 "FairQueue$Match" "first" "I", Cond.methodLink RX8 283 yX8_anyPairing, Cond.instanceMethod yX8_anyPairing, Cond.selects RX8 yX8_anyPairing yX8_anyPairing, Cond.initialized RX8, Cond.code yX8_anyPairing cX8_anyPairing 3 (some .boolean), Cond.fieldLink RX8 10 "FairQueue" "players" "LFairQueue$Players;"]
def wsX8_planTick_r2 : List Cond := [Cond.fieldLink RX8 65 "FairQueue" "teamSize" "I", Cond.fieldLink RX8 125 "FairQueue$Queue" "waiting" "I", Cond.methodLink RX8 171 yX3_gather, Cond.instanceMethod yX3_gather, Cond.selects RX3 yX3_gather yX3_gather, Cond.initialized RX3, Cond.code yX3_gather cX3_gather 7 none, Cond.fieldLink RX3 19 "FairQueue$Pairings" "number" "I", Cond.fieldLink RX3 33 "FairQueue$Queue" "waiting" "I", Cond.methodLink RX3 38 Lib.Math.min.name, Cond.static Lib.Math.min.name, Cond.initialized "java/lang/Math", Cond.code Lib.Math.min.name Lib.Math.min.code 2 (some .int), Cond.methodLink RX3 44 yJ6_bitCount_0f7a4, Cond.static yJ6_bitCount_0f7a4, Cond.initialized RJ6, Cond.code yJ6_bitCount_0f7a4 cJ6_bitCount_0f7a4 1 (some .int), Cond.constant RJ6 265 (1431655765), Cond.constant RJ6 266 (858993459), Cond.constant RJ6 267 (252645135), Cond.methodLink RX3 50 yX7_playersAt, Cond.instanceMethod yX7_playersAt, Cond.selects RX7 yX7_playersAt yX7_playersAt, Cond.initialized RX7]
def wsX8_planTick_r3 : List Cond := [Cond.code yX7_playersAt cX7_playersAt 4 (some .int), Cond.fieldLink RX7 9 "FairQueue$Queue" "parties" "[I", Cond.static yX8_hasBit, Cond.code yX8_hasBit cX8_hasBit 2 (some .boolean), Cond.methodLink RX7 23 yX7_partyAt, Cond.instanceMethod yX7_partyAt, Cond.selects RX7 yX7_partyAt yX7_partyAt, Cond.code yX7_partyAt cX7_partyAt 2 (some .int), Cond.fieldLink RX7 19 "FairQueue$Queue" "waiting" "I", Cond.methodLink RX3 53 yX6_meansOf, Cond.instanceMethod yX6_meansOf, Cond.selects RX6 yX6_meansOf yX6_meansOf, Cond.initialized RX6, Cond.code yX6_meansOf cX6_meansOf 6 (some .long), Cond.fieldLink RX6 11 "FairQueue$Players" "row" "[LFairQueue$Player;", Cond.methodLink RX6 28 yX6_at, Cond.instanceMethod yX6_at, Cond.selects RX6 yX6_at yX6_at, Cond.code yX6_at cX6_at 2 (some (.object "FairQueue$Player")), Cond.fieldLink RX6 21 "FairQueue$Players" "number" "I", Cond.methodLink RX6 39 yX5_ownMean, Cond.instanceMethod yX5_ownMean, Cond.selects RX5 yX5_ownMean yX5_ownMean, Cond.initialized RX5]
def wsX8_planTick_r4 : List Cond := [Cond.code yX5_ownMean cX5_ownMean 4 (some .long), Cond.fieldLink RX5 15 "FairQueue$Player" "shares" "[J", Cond.methodLink RX3 59 yX3_add, Cond.instanceMethod yX3_add, Cond.selects RX3 yX3_add yX3_add, Cond.code yX3_add cX3_add 4 none, Cond.fieldLink RX3 9 "FairQueue$Pairings" "teams" "[I", Cond.fieldLink RX3 15 "FairQueue$Pairings" "means" "[J", Cond.methodLink RX8 175 yX8_hasPairing, Cond.instanceMethod yX8_hasPairing, Cond.selects RX8 yX8_hasPairing yX8_hasPairing, Cond.code yX8_hasPairing cX8_hasPairing 3 (some .boolean), Cond.fieldLink RX8 179 "FairQueue$Pairings" "uneven" "J", Cond.fieldLink RX8 50 "FairQueue" "bounds" "LFairQueue$Bounds;", Cond.fieldLink RX8 74 "FairQueue" "tick" "J", Cond.methodLink RX8 280 yX3_seek, Cond.instanceMethod yX3_seek, Cond.selects RX3 yX3_seek yX3_seek, Cond.code yX3_seek cX3_seek 3 (some .boolean), Cond.fieldLink RX3 23 "FairQueue$Pairings" "first" "I", Cond.fieldLink RX3 26 "FairQueue$Pairings" "second" "I", Cond.fieldLink RX3 29 "FairQueue$Pairings" "uneven" "J", Cond.methodLink RX3 67 yX3_seekSecond, Cond.instanceMethod yX3_seekSecond]
def wsX8_planTick_r5 : List Cond := [Cond.selects RX3 yX3_seekSecond yX3_seekSecond, Cond.code yX3_seekSecond cX3_seekSecond 5 none, Cond.methodLink RX3 71 Lib.MathLoose.abs_long.x, Cond.static Lib.MathLoose.abs_long.x, Cond.code Lib.MathLoose.abs_long.x Lib.MathLoose.abs_long.code 2 (some .long), Cond.methodLink RX8 164 yX7_sinceAt, Cond.instanceMethod yX7_sinceAt, Cond.selects RX7 yX7_sinceAt yX7_sinceAt, Cond.code yX7_sinceAt cX7_sinceAt 2 (some .long), Cond.fieldLink RX7 15 "FairQueue$Queue" "since" "[J", Cond.methodLink RX8 167 yX0_behind, Cond.instanceMethod yX0_behind, Cond.selects RX0 yX0_behind yX0_behind, Cond.initialized RX0, Cond.code yX0_behind cX0_behind 3 (some .long), Cond.fieldLink RX0 9 "FairQueue$Bounds" "base" "J", Cond.fieldLink RX0 17 "FairQueue$Bounds" "step" "J", Cond.fieldLink RX0 22 "FairQueue$Bounds" "top" "J", Cond.methodLink RX0 25 Lib.MathLoose.min_long.x, Cond.static Lib.MathLoose.min_long.x, Cond.code Lib.MathLoose.min_long.x Lib.MathLoose.min_long.code 4 (some .long), Cond.methodLink RX8 188 yX7_playersAt, Cond.methodLink RX8 287 yX4_add, Cond.instanceMethod yX4_add]
def wsX8_planTick_r6 : List Cond := [Cond.selects RX4 yX4_add yX4_add, Cond.initialized RX4, Cond.code yX4_add cX4_add 3 none, Cond.fieldLink RX4 18 "FairQueue$Plan" "made" "I", Cond.fieldLink RX4 9 "FairQueue$Plan" "firsts" "[I", Cond.fieldLink RX4 15 "FairQueue$Plan" "seconds" "[I", Cond.methodLink RX8 160 yX7_release, Cond.instanceMethod yX7_release, Cond.selects RX7 yX7_release yX7_release, Cond.code yX7_release cX7_release 4 none]
def wsX8_planTick : List Cond := .code yX8_planTick cX8_planTick 4 none :: ((wsX8_planTick_r1 ++ (wsX8_planTick_r2 ++ (wsX8_planTick_r3 ++ (wsX8_planTick_r4 ++ (wsX8_planTick_r5 ++ wsX8_planTick_r6))))) ++ wsX80 ++ wsX40 ++ wsX30 ++ wsX20 ++ wsX10 ++ wsX70 ++ wsX60 ++ wsX50 ++ wsX00)
def wsX8_tick_r1 : List Cond := [Cond.fieldLink RX8 19 "FairQueue" "queue" "LFairQueue$Queue;", Cond.fieldLink RX8 36 "FairQueue" "plan" "LFairQueue$Plan;", Cond.fieldLink RX8 195 "FairQueue$Plan" "made" "I", Cond.fieldLink RX8 43 "FairQueue" "matches" "LFairQueue$Matches;", Cond.fieldLink RX8 74 "FairQueue" "tick" "J", Cond.methodLink RX8 191 yX8_planTick, Cond.instanceMethod yX8_planTick, Cond.selects RX8 yX8_planTick yX8_planTick, Cond.initialized RX8, Cond.code yX8_planTick cX8_planTick 4 none, Cond.fieldLink RX8 29 "FairQueue" "pairings" "LFairQueue$Pairings;", Cond.fieldLink RX8 182 "FairQueue$Pairings" "first" "I", Cond.fieldLink RX8 185 "FairQueue$Pairings" "second" "I", Cond.methodLink RX8 115 yX2_going, Cond.instanceMethod yX2_going, Cond.selects RX2 yX2_going yX2_going, Cond.initialized RX2, Cond.code yX2_going cX2_going 4 (some .int), Cond.fieldLink RX2 11 "FairQueue$Matches" "row" "[LFairQueue$Match;", Cond.methodLink RX2 22 yX1_goesOn, Cond.instanceMethod yX1_goesOn, Cond.selects RX1 yX1_goesOn yX1_goesOn, Cond.initialized RX1, Cond.code yX1_goesOn cX1_goesOn 1 (some .boolean)]
def wsX8_tick_r2 : List Cond := [Cond.fieldLink RX1 9 "FairQueue$Match" "first" "I", Cond.methodLink RX8 283 yX8_anyPairing, Cond.instanceMethod yX8_anyPairing, Cond.selects RX8 yX8_anyPairing yX8_anyPairing, Cond.code yX8_anyPairing cX8_anyPairing 3 (some .boolean), Cond.fieldLink RX8 10 "FairQueue" "players" "LFairQueue$Players;", Cond.fieldLink RX8 65 "FairQueue" "teamSize" "I", Cond.fieldLink RX8 125 "FairQueue$Queue" "waiting" "I", Cond.methodLink RX8 171 yX3_gather, Cond.instanceMethod yX3_gather, Cond.selects RX3 yX3_gather yX3_gather, Cond.initialized RX3, Cond.code yX3_gather cX3_gather 7 none, Cond.fieldLink RX3 19 "FairQueue$Pairings" "number" "I", Cond.fieldLink RX3 33 "FairQueue$Queue" "waiting" "I", Cond.methodLink RX3 38 Lib.Math.min.name, Cond.static Lib.Math.min.name, Cond.initialized "java/lang/Math", Cond.code Lib.Math.min.name Lib.Math.min.code 2 (some .int), Cond.methodLink RX3 44 yJ6_bitCount_0f7a4, Cond.static yJ6_bitCount_0f7a4, Cond.initialized RJ6, Cond.code yJ6_bitCount_0f7a4 cJ6_bitCount_0f7a4 1 (some .int), Cond.constant RJ6 265 (1431655765)]
def wsX8_tick_r3 : List Cond := [Cond.constant RJ6 266 (858993459), Cond.constant RJ6 267 (252645135), Cond.methodLink RX3 50 yX7_playersAt, Cond.instanceMethod yX7_playersAt, Cond.selects RX7 yX7_playersAt yX7_playersAt, Cond.initialized RX7, Cond.code yX7_playersAt cX7_playersAt 4 (some .int), Cond.fieldLink RX7 9 "FairQueue$Queue" "parties" "[I", Cond.static yX8_hasBit, Cond.code yX8_hasBit cX8_hasBit 2 (some .boolean), Cond.methodLink RX7 23 yX7_partyAt, Cond.instanceMethod yX7_partyAt, Cond.selects RX7 yX7_partyAt yX7_partyAt, Cond.code yX7_partyAt cX7_partyAt 2 (some .int), Cond.fieldLink RX7 19 "FairQueue$Queue" "waiting" "I", Cond.methodLink RX3 53 yX6_meansOf, Cond.instanceMethod yX6_meansOf, Cond.selects RX6 yX6_meansOf yX6_meansOf, Cond.initialized RX6, Cond.code yX6_meansOf cX6_meansOf 6 (some .long), Cond.fieldLink RX6 11 "FairQueue$Players" "row" "[LFairQueue$Player;", Cond.methodLink RX6 28 yX6_at, Cond.instanceMethod yX6_at, Cond.selects RX6 yX6_at yX6_at]
def wsX8_tick_r4 : List Cond := [Cond.code yX6_at cX6_at 2 (some (.object "FairQueue$Player")), Cond.fieldLink RX6 21 "FairQueue$Players" "number" "I", Cond.methodLink RX6 39 yX5_ownMean, Cond.instanceMethod yX5_ownMean, Cond.selects RX5 yX5_ownMean yX5_ownMean, Cond.initialized RX5, Cond.code yX5_ownMean cX5_ownMean 4 (some .long), Cond.fieldLink RX5 15 "FairQueue$Player" "shares" "[J", Cond.methodLink RX3 59 yX3_add, Cond.instanceMethod yX3_add, Cond.selects RX3 yX3_add yX3_add, Cond.code yX3_add cX3_add 4 none, Cond.fieldLink RX3 9 "FairQueue$Pairings" "teams" "[I", Cond.fieldLink RX3 15 "FairQueue$Pairings" "means" "[J", Cond.methodLink RX8 175 yX8_hasPairing, Cond.instanceMethod yX8_hasPairing, Cond.selects RX8 yX8_hasPairing yX8_hasPairing, Cond.code yX8_hasPairing cX8_hasPairing 3 (some .boolean), Cond.fieldLink RX8 179 "FairQueue$Pairings" "uneven" "J", Cond.fieldLink RX8 50 "FairQueue" "bounds" "LFairQueue$Bounds;", Cond.methodLink RX8 280 yX3_seek, Cond.instanceMethod yX3_seek, Cond.selects RX3 yX3_seek yX3_seek, Cond.code yX3_seek cX3_seek 3 (some .boolean)]
def wsX8_tick_r5 : List Cond := [Cond.fieldLink RX3 23 "FairQueue$Pairings" "first" "I", Cond.fieldLink RX3 26 "FairQueue$Pairings" "second" "I", Cond.fieldLink RX3 29 "FairQueue$Pairings" "uneven" "J", Cond.methodLink RX3 67 yX3_seekSecond, Cond.instanceMethod yX3_seekSecond, Cond.selects RX3 yX3_seekSecond yX3_seekSecond, Cond.code yX3_seekSecond cX3_seekSecond 5 none, Cond.methodLink RX3 71 Lib.MathLoose.abs_long.x, Cond.static Lib.MathLoose.abs_long.x, Cond.code Lib.MathLoose.abs_long.x Lib.MathLoose.abs_long.code 2 (some .long), Cond.methodLink RX8 164 yX7_sinceAt, Cond.instanceMethod yX7_sinceAt, Cond.selects RX7 yX7_sinceAt yX7_sinceAt, Cond.code yX7_sinceAt cX7_sinceAt 2 (some .long), Cond.fieldLink RX7 15 "FairQueue$Queue" "since" "[J", Cond.methodLink RX8 167 yX0_behind, Cond.instanceMethod yX0_behind, Cond.selects RX0 yX0_behind yX0_behind, Cond.initialized RX0, Cond.code yX0_behind cX0_behind 3 (some .long), Cond.fieldLink RX0 9 "FairQueue$Bounds" "base" "J", Cond.fieldLink RX0 17 "FairQueue$Bounds" "step" "J", Cond.fieldLink RX0 22 "FairQueue$Bounds" "top" "J", Cond.methodLink RX0 25 Lib.MathLoose.min_long.x]
def wsX8_tick_r6 : List Cond := [Cond.static Lib.MathLoose.min_long.x, Cond.code Lib.MathLoose.min_long.x Lib.MathLoose.min_long.code 4 (some .long), Cond.methodLink RX8 188 yX7_playersAt, Cond.methodLink RX8 287 yX4_add, Cond.instanceMethod yX4_add, Cond.selects RX4 yX4_add yX4_add, Cond.initialized RX4, Cond.code yX4_add cX4_add 3 none, Cond.fieldLink RX4 18 "FairQueue$Plan" "made" "I", Cond.fieldLink RX4 9 "FairQueue$Plan" "firsts" "[I", Cond.fieldLink RX4 15 "FairQueue$Plan" "seconds" "[I", Cond.methodLink RX8 160 yX7_release, Cond.instanceMethod yX7_release, Cond.selects RX7 yX7_release yX7_release, Cond.code yX7_release cX7_release 4 none, Cond.methodLink RX8 198 yX4_firstAt, Cond.instanceMethod yX4_firstAt, Cond.selects RX4 yX4_firstAt yX4_firstAt, Cond.code yX4_firstAt cX4_firstAt 2 (some .int), Cond.methodLink RX8 201 yX4_secondAt, Cond.instanceMethod yX4_secondAt, Cond.selects RX4 yX4_secondAt yX4_secondAt, Cond.code yX4_secondAt cX4_secondAt 2 (some .int), Cond.methodLink RX8 204 yX2_begin]
def wsX8_tick_r7 : List Cond := [Cond.instanceMethod yX2_begin, Cond.selects RX2 yX2_begin yX2_begin, Cond.code yX2_begin cX2_begin 7 none, Cond.fieldLink RX2 30 "FairQueue$Match" "first" "I", Cond.fieldLink RX2 34 "FairQueue$Match" "second" "I", Cond.fieldLink RX2 37 "FairQueue$Match" "dropped" "I", Cond.fieldLink RX2 40 "FairQueue$Match" "made" "J"]
def wsX8_tick : List Cond := .code yX8_tick cX8_tick 2 (some .long) :: ((wsX8_tick_r1 ++ (wsX8_tick_r2 ++ (wsX8_tick_r3 ++ (wsX8_tick_r4 ++ (wsX8_tick_r5 ++ (wsX8_tick_r6 ++ wsX8_tick_r7)))))) ++ wsX80 ++ wsX40 ++ wsX30 ++ wsX20 ++ wsX10 ++ wsX70 ++ wsX60 ++ wsX50 ++ wsX00)
def wsX8_match_r1 : List Cond := [Cond.fieldLink RX8 43 "FairQueue" "matches" "LFairQueue$Matches;", Cond.fieldLink RX8 217 "FairQueue$Match" "first" "I", Cond.fieldLink RX8 218 "FairQueue$Match" "second" "I", Cond.fieldLink RX8 219 "FairQueue$Match" "dropped" "I", Cond.fieldLink RX8 222 "FairQueue$Match" "made" "J", Cond.fieldLink RX8 10 "FairQueue" "players" "LFairQueue$Players;", Cond.methodLink RX8 208 yX2_at, Cond.instanceMethod yX2_at, Cond.selects RX2 yX2_at yX2_at, Cond.initialized RX2, Cond.code yX2_at cX2_at 2 (some (.object "FairQueue$Match")), Cond.fieldLink RX2 11 "FairQueue$Matches" "row" "[LFairQueue$Match;", Cond.methodLink RX8 81 yX8_finding, Cond.instanceMethod yX8_finding, Cond.selects RX8 yX8_finding yX8_finding, Cond.initialized RX8, Cond.code yX8_finding cX8_finding 2 (some .long), Cond.fieldLink RX8 58 "FairQueue" "findings" "[J", Cond.constantLong RX8 273 (-1000000000), Cond.methodLink RX8 211 yX1_goesOn, Cond.instanceMethod yX1_goesOn, Cond.selects RX1 yX1_goesOn yX1_goesOn, Cond.initialized RX1, Cond.code yX1_goesOn cX1_goesOn 1 (some .boolean)]
def wsX8_match_r2 : List Cond := [Cond.fieldLink RX1 9 "FairQueue$Match" "first" "I", Cond.methodLink RX8 224 yX6_teamChance, Cond.instanceMethod yX6_teamChance, Cond.selects RX6 yX6_teamChance yX6_teamChance, Cond.initialized RX6, Cond.code yX6_teamChance cX6_teamChance 9 (some .long), Cond.fieldLink RX6 11 "FairQueue$Players" "row" "[LFairQueue$Player;", Cond.methodLink RX6 28 yX6_at, Cond.instanceMethod yX6_at, Cond.selects RX6 yX6_at yX6_at, Cond.code yX6_at cX6_at 2 (some (.object "FairQueue$Player")), Cond.fieldLink RX6 21 "FairQueue$Players" "number" "I", Cond.static yX8_hasBit, Cond.code yX8_hasBit cX8_hasBit 2 (some .boolean), Cond.methodLink RX6 69 yX6_chanceOf, Cond.instanceMethod yX6_chanceOf, Cond.selects RX6 yX6_chanceOf yX6_chanceOf, Cond.code yX6_chanceOf cX6_chanceOf 6 (some .long), Cond.fieldLink RX6 56 "FairQueue$Player" "shares" "[J", Cond.constantLong RX6 67 (1000000), Cond.methodLink RX6 63 yX6_chanceAt, Cond.instanceMethod yX6_chanceAt, Cond.selects RX6 yX6_chanceAt yX6_chanceAt, Cond.code yX6_chanceAt cX6_chanceAt 9 (some .long)]
def wsX8_match_r3 : List Cond := [Cond.constantLong RX6 54 (1000), Cond.methodLink RX6 50 yX6_oddsAgainst, Cond.static yX6_oddsAgainst, Cond.code yX6_oddsAgainst cX6_oddsAgainst 5 (some .long), Cond.constantLong RX6 59 (500), Cond.constantLong RX6 61 (70)]
def wsX8_match : List Cond := .code yX8_match cX8_match 4 (some .long) :: ((wsX8_match_r1 ++ (wsX8_match_r2 ++ wsX8_match_r3)) ++ wsX80 ++ wsX10 ++ wsX20 ++ wsX60 ++ wsX50)
def wsX8_end_r1 : List Cond := [Cond.fieldLink RX8 43 "FairQueue" "matches" "LFairQueue$Matches;", Cond.fieldLink RX8 10 "FairQueue" "players" "LFairQueue$Players;", Cond.methodLink RX8 208 yX2_at, Cond.instanceMethod yX2_at, Cond.selects RX2 yX2_at yX2_at, Cond.initialized RX2, Cond.code yX2_at cX2_at 2 (some (.object "FairQueue$Match")), Cond.fieldLink RX2 11 "FairQueue$Matches" "row" "[LFairQueue$Match;", Cond.methodLink RX8 81 yX8_finding, Cond.instanceMethod yX8_finding, Cond.selects RX8 yX8_finding yX8_finding, Cond.initialized RX8, Cond.code yX8_finding cX8_finding 2 (some .long), Cond.fieldLink RX8 58 "FairQueue" "findings" "[J", Cond.constantLong RX8 273 (-1000000000), Cond.methodLink RX8 211 yX1_goesOn, Cond.instanceMethod yX1_goesOn, Cond.selects RX1 yX1_goesOn yX1_goesOn, Cond.initialized RX1, Cond.code yX1_goesOn cX1_goesOn 1 (some .boolean), Cond.fieldLink RX1 9 "FairQueue$Match" "first" "I", Cond.methodLink RX8 228 yX2_finish, Cond.instanceMethod yX2_finish, Cond.selects RX2 yX2_finish yX2_finish]
def wsX8_end_r2 : List Cond := [Cond.code yX2_finish cX2_finish 5 (some .int), Cond.fieldLink RX2 30 "FairQueue$Match" "first" "I", Cond.fieldLink RX2 37 "FairQueue$Match" "dropped" "I", Cond.fieldLink RX2 34 "FairQueue$Match" "second" "I", Cond.fieldLink RX2 18 "FairQueue$Matches" "ended" "J", Cond.methodLink RX2 43 yX6_reckonTeam, Cond.instanceMethod yX6_reckonTeam, Cond.selects RX6 yX6_reckonTeam yX6_reckonTeam, Cond.initialized RX6, Cond.code yX6_reckonTeam cX6_reckonTeam 7 (some .int), Cond.fieldLink RX6 11 "FairQueue$Players" "row" "[LFairQueue$Player;", Cond.methodLink RX6 28 yX6_at, Cond.instanceMethod yX6_at, Cond.selects RX6 yX6_at yX6_at, Cond.code yX6_at cX6_at 2 (some (.object "FairQueue$Player")), Cond.fieldLink RX6 21 "FairQueue$Players" "number" "I", Cond.static yX8_hasBit, Cond.code yX8_hasBit cX8_hasBit 2 (some .boolean), Cond.methodLink RX6 90 yX6_reckon, Cond.instanceMethod yX6_reckon, Cond.selects RX6 yX6_reckon yX6_reckon, Cond.code yX6_reckon cX6_reckon 6 (some .boolean), Cond.constantLong RX6 76 (500000), Cond.fieldLink RX6 17 "FairQueue$Players" "factors" "[J"]
def wsX8_end_r3 : List Cond := [Cond.methodLink RX6 73 yX6_undoubted, Cond.instanceMethod yX6_undoubted, Cond.selects RX6 yX6_undoubted yX6_undoubted, Cond.code yX6_undoubted cX6_undoubted 5 (some .int), Cond.fieldLink RX6 43 "FairQueue$Player" "kind" "I", Cond.static yX8_bitOf, Cond.code yX8_bitOf cX8_bitOf 1 (some .int), Cond.methodLink RX6 69 yX6_chanceOf, Cond.instanceMethod yX6_chanceOf, Cond.selects RX6 yX6_chanceOf yX6_chanceOf, Cond.code yX6_chanceOf cX6_chanceOf 6 (some .long), Cond.fieldLink RX6 56 "FairQueue$Player" "shares" "[J", Cond.constantLong RX6 67 (1000000), Cond.methodLink RX6 63 yX6_chanceAt, Cond.instanceMethod yX6_chanceAt, Cond.selects RX6 yX6_chanceAt yX6_chanceAt, Cond.code yX6_chanceAt cX6_chanceAt 9 (some .long), Cond.constantLong RX6 54 (1000), Cond.methodLink RX6 50 yX6_oddsAgainst, Cond.static yX6_oddsAgainst, Cond.code yX6_oddsAgainst cX6_oddsAgainst 5 (some .long), Cond.constantLong RX6 59 (500), Cond.constantLong RX6 61 (70), Cond.methodLink RX6 78 yX5_keepSurprise]
def wsX8_end_r4 : List Cond := [Cond.instanceMethod yX5_keepSurprise, Cond.selects RX5 yX5_keepSurprise yX5_keepSurprise, Cond.initialized RX5, Cond.code yX5_keepSurprise cX5_keepSurprise 4 none, Cond.fieldLink RX5 25 "FairQueue$Player" "kept" "I", Cond.fieldLink RX5 22 "FairQueue$Player" "surprises" "[J", Cond.methodLink RX6 82 yX6_factorOf, Cond.static yX6_factorOf, Cond.code yX6_factorOf cX6_factorOf 3 (some .long), Cond.methodLink RX6 86 yX5_reckonNext, Cond.instanceMethod yX5_reckonNext, Cond.selects RX5 yX5_reckonNext yX5_reckonNext, Cond.code yX5_reckonNext cX5_reckonNext 3 none, Cond.fieldLink RX5 19 "FairQueue$Player" "next" "[J", Cond.fieldLink RX5 15 "FairQueue$Player" "shares" "[J", Cond.fieldLink RX5 9 "FairQueue$Player" "kind" "I", Cond.methodLink RX5 36 yX5_moveNext, Cond.instanceMethod yX5_moveNext, Cond.selects RX5 yX5_moveNext yX5_moveNext, Cond.code yX5_moveNext cX5_moveNext 7 none, Cond.constantLong RX5 32 (1000000), Cond.methodLink RX5 40 yX5_greatestNext, Cond.instanceMethod yX5_greatestNext, Cond.selects RX5 yX5_greatestNext yX5_greatestNext]
def wsX8_end_r5 : List Cond := [Cond.code yX5_greatestNext cX5_greatestNext 3 (some .int), Cond.methodLink RX2 49 yX6_settleTeam, Cond.instanceMethod yX6_settleTeam, Cond.selects RX6 yX6_settleTeam yX6_settleTeam, Cond.code yX6_settleTeam cX6_settleTeam 4 none, Cond.methodLink RX6 94 yX5_settle, Cond.instanceMethod yX5_settle, Cond.selects RX5 yX5_settle yX5_settle, Cond.code yX5_settle cX5_settle 2 none, Cond.methodLink RX2 53 yX1_clear, Cond.instanceMethod yX1_clear, Cond.selects RX1 yX1_clear yX1_clear, Cond.code yX1_clear cX1_clear 1 none, Cond.fieldLink RX1 15 "FairQueue$Match" "second" "I", Cond.fieldLink RX1 18 "FairQueue$Match" "dropped" "I", Cond.fieldLink RX1 21 "FairQueue$Match" "made" "J", Cond.methodLink RX2 56 yJ6_bitCount_0f7a4, Cond.static yJ6_bitCount_0f7a4, Cond.initialized RJ6, Cond.code yJ6_bitCount_0f7a4 cJ6_bitCount_0f7a4 1 (some .int), Cond.constant RJ6 265 (1431655765), Cond.constant RJ6 266 (858993459), Cond.constant RJ6 267 (252645135)]
def wsX8_end : List Cond := .code yX8_end cX8_end 4 (some .long) :: ((wsX8_end_r1 ++ (wsX8_end_r2 ++ (wsX8_end_r3 ++ (wsX8_end_r4 ++ wsX8_end_r5)))) ++ wsX80 ++ wsX20 ++ wsX10 ++ wsX60 ++ wsX50)
def wsX8_drop_r1 : List Cond := [Cond.fieldLink RX8 10 "FairQueue" "players" "LFairQueue$Players;", Cond.fieldLink RX8 43 "FairQueue" "matches" "LFairQueue$Matches;", Cond.fieldLink RX8 219 "FairQueue$Match" "dropped" "I", Cond.methodLink RX8 89 yX6_at, Cond.instanceMethod yX6_at, Cond.selects RX6 yX6_at yX6_at, Cond.initialized RX6, Cond.code yX6_at cX6_at 2 (some (.object "FairQueue$Player")), Cond.fieldLink RX6 21 "FairQueue$Players" "number" "I", Cond.fieldLink RX6 11 "FairQueue$Players" "row" "[LFairQueue$Player;", Cond.methodLink RX8 81 yX8_finding, Cond.instanceMethod yX8_finding, Cond.selects RX8 yX8_finding yX8_finding, Cond.initialized RX8, Cond.code yX8_finding cX8_finding 2 (some .long), Cond.fieldLink RX8 58 "FairQueue" "findings" "[J", Cond.constantLong RX8 273 (-1000000000), Cond.methodLink RX8 108 yX8_bitOf, Cond.static yX8_bitOf, Cond.code yX8_bitOf cX8_bitOf 1 (some .int), Cond.methodLink RX8 232 yX2_withPlayer, Cond.instanceMethod yX2_withPlayer, Cond.selects RX2 yX2_withPlayer yX2_withPlayer, Cond.initialized RX2]
def wsX8_drop_r2 : List Cond := [Cond.code yX2_withPlayer cX2_withPlayer 4 (some (.object "FairQueue$Match")), Cond.fieldLink RX2 11 "FairQueue$Matches" "row" "[LFairQueue$Match;", Cond.methodLink RX2 26 yX1_playing, Cond.instanceMethod yX1_playing, Cond.selects RX1 yX1_playing yX1_playing, Cond.initialized RX1, Cond.code yX1_playing cX1_playing 1 (some .int), Cond.fieldLink RX1 9 "FairQueue$Match" "first" "I", Cond.fieldLink RX1 15 "FairQueue$Match" "second" "I", Cond.fieldLink RX1 18 "FairQueue$Match" "dropped" "I", Cond.methodLink RX8 235 yX1_rivalsOf, Cond.instanceMethod yX1_rivalsOf, Cond.selects RX1 yX1_rivalsOf yX1_rivalsOf, Cond.code yX1_rivalsOf cX1_rivalsOf 2 (some .int), Cond.methodLink RX8 238 yX6_reckon, Cond.instanceMethod yX6_reckon, Cond.selects RX6 yX6_reckon yX6_reckon, Cond.code yX6_reckon cX6_reckon 6 (some .boolean), Cond.constantLong RX6 76 (500000), Cond.fieldLink RX6 17 "FairQueue$Players" "factors" "[J", Cond.methodLink RX6 73 yX6_undoubted, Cond.instanceMethod yX6_undoubted, Cond.selects RX6 yX6_undoubted yX6_undoubted, Cond.code yX6_undoubted cX6_undoubted 5 (some .int)]
def wsX8_drop_r3 : List Cond := [Cond.fieldLink RX6 43 "FairQueue$Player" "kind" "I", Cond.methodLink RX6 28 yX6_at, Cond.static yX8_hasBit, Cond.code yX8_hasBit cX8_hasBit 2 (some .boolean), Cond.methodLink RX6 69 yX6_chanceOf, Cond.instanceMethod yX6_chanceOf, Cond.selects RX6 yX6_chanceOf yX6_chanceOf, Cond.code yX6_chanceOf cX6_chanceOf 6 (some .long), Cond.fieldLink RX6 56 "FairQueue$Player" "shares" "[J", Cond.constantLong RX6 67 (1000000), Cond.methodLink RX6 63 yX6_chanceAt, Cond.instanceMethod yX6_chanceAt, Cond.selects RX6 yX6_chanceAt yX6_chanceAt, Cond.code yX6_chanceAt cX6_chanceAt 9 (some .long), Cond.constantLong RX6 54 (1000), Cond.methodLink RX6 50 yX6_oddsAgainst, Cond.static yX6_oddsAgainst, Cond.code yX6_oddsAgainst cX6_oddsAgainst 5 (some .long), Cond.constantLong RX6 59 (500), Cond.constantLong RX6 61 (70), Cond.methodLink RX6 78 yX5_keepSurprise, Cond.instanceMethod yX5_keepSurprise, Cond.selects RX5 yX5_keepSurprise yX5_keepSurprise, Cond.initialized RX5]
def wsX8_drop_r4 : List Cond := [Cond.code yX5_keepSurprise cX5_keepSurprise 4 none, Cond.fieldLink RX5 25 "FairQueue$Player" "kept" "I", Cond.fieldLink RX5 22 "FairQueue$Player" "surprises" "[J", Cond.methodLink RX6 82 yX6_factorOf, Cond.static yX6_factorOf, Cond.code yX6_factorOf cX6_factorOf 3 (some .long), Cond.methodLink RX6 86 yX5_reckonNext, Cond.instanceMethod yX5_reckonNext, Cond.selects RX5 yX5_reckonNext yX5_reckonNext, Cond.code yX5_reckonNext cX5_reckonNext 3 none, Cond.fieldLink RX5 19 "FairQueue$Player" "next" "[J", Cond.fieldLink RX5 15 "FairQueue$Player" "shares" "[J", Cond.fieldLink RX5 9 "FairQueue$Player" "kind" "I", Cond.methodLink RX5 36 yX5_moveNext, Cond.instanceMethod yX5_moveNext, Cond.selects RX5 yX5_moveNext yX5_moveNext, Cond.code yX5_moveNext cX5_moveNext 7 none, Cond.constantLong RX5 32 (1000000), Cond.methodLink RX5 40 yX5_greatestNext, Cond.instanceMethod yX5_greatestNext, Cond.selects RX5 yX5_greatestNext yX5_greatestNext, Cond.code yX5_greatestNext cX5_greatestNext 3 (some .int), Cond.methodLink RX8 242 yX5_settle, Cond.instanceMethod yX5_settle]
def wsX8_drop_r5 : List Cond := [Cond.selects RX5 yX5_settle yX5_settle, Cond.code yX5_settle cX5_settle 2 none, Cond.methodLink RX8 245 yX1_isDeserted, Cond.instanceMethod yX1_isDeserted, Cond.selects RX1 yX1_isDeserted yX1_isDeserted, Cond.code yX1_isDeserted cX1_isDeserted 1 (some .boolean), Cond.methodLink RX8 248 yX1_resultOfDeserted, Cond.instanceMethod yX1_resultOfDeserted, Cond.selects RX1 yX1_resultOfDeserted yX1_resultOfDeserted, Cond.code yX1_resultOfDeserted cX1_resultOfDeserted 1 (some .int), Cond.methodLink RX8 228 yX2_finish, Cond.instanceMethod yX2_finish, Cond.selects RX2 yX2_finish yX2_finish, Cond.code yX2_finish cX2_finish 5 (some .int), Cond.fieldLink RX2 30 "FairQueue$Match" "first" "I", Cond.fieldLink RX2 37 "FairQueue$Match" "dropped" "I", Cond.fieldLink RX2 34 "FairQueue$Match" "second" "I", Cond.fieldLink RX2 18 "FairQueue$Matches" "ended" "J", Cond.methodLink RX2 43 yX6_reckonTeam, Cond.instanceMethod yX6_reckonTeam, Cond.selects RX6 yX6_reckonTeam yX6_reckonTeam, Cond.code yX6_reckonTeam cX6_reckonTeam 7 (some .int), Cond.methodLink RX6 90 yX6_reckon, Cond.methodLink RX2 49 yX6_settleTeam]
def wsX8_drop_r6 : List Cond := [Cond.instanceMethod yX6_settleTeam, Cond.selects RX6 yX6_settleTeam yX6_settleTeam, Cond.code yX6_settleTeam cX6_settleTeam 4 none, Cond.methodLink RX6 94 yX5_settle, Cond.methodLink RX2 53 yX1_clear, Cond.instanceMethod yX1_clear, Cond.selects RX1 yX1_clear yX1_clear, Cond.code yX1_clear cX1_clear 1 none, Cond.fieldLink RX1 21 "FairQueue$Match" "made" "J", Cond.methodLink RX2 56 yJ6_bitCount_0f7a4, Cond.static yJ6_bitCount_0f7a4, Cond.initialized RJ6, Cond.code yJ6_bitCount_0f7a4 cJ6_bitCount_0f7a4 1 (some .int), Cond.constant RJ6 265 (1431655765), Cond.constant RJ6 266 (858993459), Cond.constant RJ6 267 (252645135)]
def wsX8_drop : List Cond := .code yX8_drop cX8_drop 5 (some .long) :: ((wsX8_drop_r1 ++ (wsX8_drop_r2 ++ (wsX8_drop_r3 ++ (wsX8_drop_r4 ++ (wsX8_drop_r5 ++ wsX8_drop_r6))))) ++ wsX80 ++ wsX10 ++ wsX60 ++ wsX20 ++ wsX50)
def wsX8_surprise : List Cond := .code yX8_surprise cX8_surprise 4 (some .long) :: ([.fieldLink RX8 10 "FairQueue" "players" "LFairQueue$Players;", .fieldLink RX8 251 "FairQueue$Player" "kept" "I", .fieldLink RX8 257 "FairQueue$Player" "surprises" "[J", .methodLink RX8 89 yX6_at, .instanceMethod yX6_at, .selects RX6 yX6_at yX6_at, .initialized RX6, .code yX6_at cX6_at 2 (some (.object "FairQueue$Player")), .fieldLink RX6 21 "FairQueue$Players" "number" "I", .fieldLink RX6 11 "FairQueue$Players" "row" "[LFairQueue$Player;", .methodLink RX8 81 yX8_finding, .instanceMethod yX8_finding, .selects RX8 yX8_finding yX8_finding, .initialized RX8, .code yX8_finding cX8_finding 2 (some .long), .fieldLink RX8 58 "FairQueue" "findings" "[J", .constantLong RX8 273 (-1000000000), .methodLink RX8 254 yX5_sumOfSurprises, .instanceMethod yX5_sumOfSurprises, .selects RX5 yX5_sumOfSurprises yX5_sumOfSurprises, .initialized RX5, .code yX5_sumOfSurprises cX5_sumOfSurprises 4 (some .long), .fieldLink RX5 25 "FairQueue$Player" "kept" "I", .fieldLink RX5 22 "FairQueue$Player" "surprises" "[J"] ++ wsX80 ++ wsX50 ++ wsX60)
def wsX8_sinking : List Cond := .code yX8_sinking cX8_sinking 4 (some .long) :: ([.fieldLink RX8 10 "FairQueue" "players" "LFairQueue$Players;", .fieldLink RX8 251 "FairQueue$Player" "kept" "I", .fieldLink RX8 70 "FairQueue" "limit" "J", .methodLink RX8 89 yX6_at, .instanceMethod yX6_at, .selects RX6 yX6_at yX6_at, .initialized RX6, .code yX6_at cX6_at 2 (some (.object "FairQueue$Player")), .fieldLink RX6 21 "FairQueue$Players" "number" "I", .fieldLink RX6 11 "FairQueue$Players" "row" "[LFairQueue$Player;", .methodLink RX8 254 yX5_sumOfSurprises, .instanceMethod yX5_sumOfSurprises, .selects RX5 yX5_sumOfSurprises yX5_sumOfSurprises, .initialized RX5, .code yX5_sumOfSurprises cX5_sumOfSurprises 4 (some .long), .fieldLink RX5 25 "FairQueue$Player" "kept" "I", .fieldLink RX5 22 "FairQueue$Player" "surprises" "[J", .methodLink RX8 108 yX8_bitOf, .static yX8_bitOf, .initialized RX8, .code yX8_bitOf cX8_bitOf 1 (some .int)] ++ wsX80 ++ wsX50 ++ wsX60)
def wsX8_limit : List Cond := .code yX8_limit cX8_limit 4 (some .long) :: ([.constant RX8 260 (8000000), .fieldLink RX8 70 "FairQueue" "limit" "J", .methodLink RX8 81 yX8_finding, .instanceMethod yX8_finding, .selects RX8 yX8_finding yX8_finding, .initialized RX8, .code yX8_finding cX8_finding 2 (some .long), .fieldLink RX8 58 "FairQueue" "findings" "[J", .constantLong RX8 273 (-1000000000)] ++ wsX80)
def wsX8_tell : List Cond := .code yX8_tell cX8_tell 2 (some .long) :: ([.fieldLink RX8 61 "FairQueue" "toldCount" "I", .fieldLink RX8 54 "FairQueue" "told" "[J", .methodLink RX8 81 yX8_finding, .instanceMethod yX8_finding, .selects RX8 yX8_finding yX8_finding, .initialized RX8, .code yX8_finding cX8_finding 2 (some .long), .fieldLink RX8 58 "FairQueue" "findings" "[J", .constantLong RX8 273 (-1000000000)] ++ wsX80)
def wsX8_isTold : List Cond := .code yX8_isTold cX8_isTold 4 (some .boolean) :: ([.fieldLink RX8 54 "FairQueue" "told" "[J", .fieldLink RX8 36 "FairQueue" "plan" "LFairQueue$Plan;", .methodLink RX8 198 yX4_firstAt, .instanceMethod yX4_firstAt, .selects RX4 yX4_firstAt yX4_firstAt, .initialized RX4, .code yX4_firstAt cX4_firstAt 2 (some .int), .fieldLink RX4 9 "FairQueue$Plan" "firsts" "[I", .methodLink RX8 201 yX4_secondAt, .instanceMethod yX4_secondAt, .selects RX4 yX4_secondAt yX4_secondAt, .code yX4_secondAt cX4_secondAt 2 (some .int), .fieldLink RX4 15 "FairQueue$Plan" "seconds" "[I"] ++ wsX80 ++ wsX40)
def wsX8_check_r1 : List Cond := [Cond.fieldLink RX8 23 "FairQueue" "trial" "LFairQueue$Queue;", Cond.fieldLink RX8 19 "FairQueue" "queue" "LFairQueue$Queue;", Cond.fieldLink RX8 61 "FairQueue" "toldCount" "I", Cond.fieldLink RX8 36 "FairQueue" "plan" "LFairQueue$Plan;", Cond.fieldLink RX8 195 "FairQueue$Plan" "made" "I", Cond.constantLong RX8 268 (99), Cond.methodLink RX8 261 yX7_copyOf, Cond.instanceMethod yX7_copyOf, Cond.selects RX7 yX7_copyOf yX7_copyOf, Cond.initialized RX7, Cond.code yX7_copyOf cX7_copyOf 3 none, Cond.fieldLink RX7 9 "FairQueue$Queue" "parties" "[I", Cond.fieldLink RX7 15 "FairQueue$Queue" "since" "[J", Cond.fieldLink RX7 19 "FairQueue$Queue" "waiting" "I", Cond.methodLink RX7 23 yX7_partyAt, Cond.instanceMethod yX7_partyAt, Cond.selects RX7 yX7_partyAt yX7_partyAt, Cond.code yX7_partyAt cX7_partyAt 2 (some .int), Cond.methodLink RX7 27 yX7_sinceAt, Cond.instanceMethod yX7_sinceAt, Cond.selects RX7 yX7_sinceAt yX7_sinceAt, Cond.code yX7_sinceAt cX7_sinceAt 2 (some .long), Cond.methodLink RX8 191 yX8_planTick, Cond.instanceMethod yX8_planTick]
def wsX8_check_r2 : List Cond := [Cond.selects RX8 yX8_planTick yX8_planTick, Cond.initialized RX8, Cond.code yX8_planTick cX8_planTick 4 none, Cond.fieldLink RX8 43 "FairQueue" "matches" "LFairQueue$Matches;", Cond.fieldLink RX8 29 "FairQueue" "pairings" "LFairQueue$Pairings;", Cond.fieldLink RX8 182 "FairQueue$Pairings" "first" "I", Cond.fieldLink RX8 185 "FairQueue$Pairings" "second" "I", Cond.methodLink RX8 115 yX2_going, Cond.instanceMethod yX2_going, Cond.selects RX2 yX2_going yX2_going, Cond.initialized RX2, Cond.code yX2_going cX2_going 4 (some .int), Cond.fieldLink RX2 11 "FairQueue$Matches" "row" "[LFairQueue$Match;", Cond.methodLink RX2 22 yX1_goesOn, Cond.instanceMethod yX1_goesOn, Cond.selects RX1 yX1_goesOn yX1_goesOn, Cond.initialized RX1, Cond.code yX1_goesOn cX1_goesOn 1 (some .boolean), Cond.fieldLink RX1 9 "FairQueue$Match" "first" "I", Cond.methodLink RX8 283 yX8_anyPairing, Cond.instanceMethod yX8_anyPairing, Cond.selects RX8 yX8_anyPairing yX8_anyPairing, Cond.code yX8_anyPairing cX8_anyPairing 3 (some .boolean), Cond.fieldLink RX8 10 "FairQueue" "players" "LFairQueue$Players;"]
def wsX8_check_r3 : List Cond := [Cond.fieldLink RX8 65 "FairQueue" "teamSize" "I", Cond.fieldLink RX8 125 "FairQueue$Queue" "waiting" "I", Cond.methodLink RX8 171 yX3_gather, Cond.instanceMethod yX3_gather, Cond.selects RX3 yX3_gather yX3_gather, Cond.initialized RX3, Cond.code yX3_gather cX3_gather 7 none, Cond.fieldLink RX3 19 "FairQueue$Pairings" "number" "I", Cond.fieldLink RX3 33 "FairQueue$Queue" "waiting" "I", Cond.methodLink RX3 38 Lib.Math.min.name, Cond.static Lib.Math.min.name, Cond.initialized "java/lang/Math", Cond.code Lib.Math.min.name Lib.Math.min.code 2 (some .int), Cond.methodLink RX3 44 yJ6_bitCount_0f7a4, Cond.static yJ6_bitCount_0f7a4, Cond.initialized RJ6, Cond.code yJ6_bitCount_0f7a4 cJ6_bitCount_0f7a4 1 (some .int), Cond.constant RJ6 265 (1431655765), Cond.constant RJ6 266 (858993459), Cond.constant RJ6 267 (252645135), Cond.methodLink RX3 50 yX7_playersAt, Cond.instanceMethod yX7_playersAt, Cond.selects RX7 yX7_playersAt yX7_playersAt, Cond.code yX7_playersAt cX7_playersAt 4 (some .int)]
def wsX8_check_r4 : List Cond := [Cond.static yX8_hasBit, Cond.code yX8_hasBit cX8_hasBit 2 (some .boolean), Cond.methodLink RX3 53 yX6_meansOf, Cond.instanceMethod yX6_meansOf, Cond.selects RX6 yX6_meansOf yX6_meansOf, Cond.initialized RX6, Cond.code yX6_meansOf cX6_meansOf 6 (some .long), Cond.fieldLink RX6 11 "FairQueue$Players" "row" "[LFairQueue$Player;", Cond.methodLink RX6 28 yX6_at, Cond.instanceMethod yX6_at, Cond.selects RX6 yX6_at yX6_at, Cond.code yX6_at cX6_at 2 (some (.object "FairQueue$Player")), Cond.fieldLink RX6 21 "FairQueue$Players" "number" "I", Cond.methodLink RX6 39 yX5_ownMean, Cond.instanceMethod yX5_ownMean, Cond.selects RX5 yX5_ownMean yX5_ownMean, Cond.initialized RX5, Cond.code yX5_ownMean cX5_ownMean 4 (some .long), Cond.fieldLink RX5 15 "FairQueue$Player" "shares" "[J", Cond.methodLink RX3 59 yX3_add, Cond.instanceMethod yX3_add, Cond.selects RX3 yX3_add yX3_add, Cond.code yX3_add cX3_add 4 none, Cond.fieldLink RX3 9 "FairQueue$Pairings" "teams" "[I"]
def wsX8_check_r5 : List Cond := [Cond.fieldLink RX3 15 "FairQueue$Pairings" "means" "[J", Cond.methodLink RX8 175 yX8_hasPairing, Cond.instanceMethod yX8_hasPairing, Cond.selects RX8 yX8_hasPairing yX8_hasPairing, Cond.code yX8_hasPairing cX8_hasPairing 3 (some .boolean), Cond.fieldLink RX8 179 "FairQueue$Pairings" "uneven" "J", Cond.fieldLink RX8 50 "FairQueue" "bounds" "LFairQueue$Bounds;", Cond.fieldLink RX8 74 "FairQueue" "tick" "J", Cond.methodLink RX8 280 yX3_seek, Cond.instanceMethod yX3_seek, Cond.selects RX3 yX3_seek yX3_seek, Cond.code yX3_seek cX3_seek 3 (some .boolean), Cond.fieldLink RX3 23 "FairQueue$Pairings" "first" "I", Cond.fieldLink RX3 26 "FairQueue$Pairings" "second" "I", Cond.fieldLink RX3 29 "FairQueue$Pairings" "uneven" "J", Cond.methodLink RX3 67 yX3_seekSecond, Cond.instanceMethod yX3_seekSecond, Cond.selects RX3 yX3_seekSecond yX3_seekSecond, Cond.code yX3_seekSecond cX3_seekSecond 5 none, Cond.methodLink RX3 71 Lib.MathLoose.abs_long.x, Cond.static Lib.MathLoose.abs_long.x, Cond.code Lib.MathLoose.abs_long.x Lib.MathLoose.abs_long.code 2 (some .long), Cond.methodLink RX8 164 yX7_sinceAt, Cond.methodLink RX8 167 yX0_behind]
def wsX8_check_r6 : List Cond := [Cond.instanceMethod yX0_behind, Cond.selects RX0 yX0_behind yX0_behind, Cond.initialized RX0, Cond.code yX0_behind cX0_behind 3 (some .long), Cond.fieldLink RX0 9 "FairQueue$Bounds" "base" "J", Cond.fieldLink RX0 17 "FairQueue$Bounds" "step" "J", Cond.fieldLink RX0 22 "FairQueue$Bounds" "top" "J", Cond.methodLink RX0 25 Lib.MathLoose.min_long.x, Cond.static Lib.MathLoose.min_long.x, Cond.code Lib.MathLoose.min_long.x Lib.MathLoose.min_long.code 4 (some .long), Cond.methodLink RX8 188 yX7_playersAt, Cond.methodLink RX8 287 yX4_add, Cond.instanceMethod yX4_add, Cond.selects RX4 yX4_add yX4_add, Cond.initialized RX4, Cond.code yX4_add cX4_add 3 none, Cond.fieldLink RX4 18 "FairQueue$Plan" "made" "I", Cond.fieldLink RX4 9 "FairQueue$Plan" "firsts" "[I", Cond.fieldLink RX4 15 "FairQueue$Plan" "seconds" "[I", Cond.methodLink RX8 160 yX7_release, Cond.instanceMethod yX7_release, Cond.selects RX7 yX7_release yX7_release, Cond.code yX7_release cX7_release 4 none, Cond.methodLink RX8 264 yX8_isTold]
def wsX8_check_r7 : List Cond := [Cond.instanceMethod yX8_isTold, Cond.selects RX8 yX8_isTold yX8_isTold, Cond.code yX8_isTold cX8_isTold 4 (some .boolean), Cond.fieldLink RX8 54 "FairQueue" "told" "[J", Cond.methodLink RX8 198 yX4_firstAt, Cond.instanceMethod yX4_firstAt, Cond.selects RX4 yX4_firstAt yX4_firstAt, Cond.code yX4_firstAt cX4_firstAt 2 (some .int), Cond.methodLink RX8 201 yX4_secondAt, Cond.instanceMethod yX4_secondAt, Cond.selects RX4 yX4_secondAt yX4_secondAt, Cond.code yX4_secondAt cX4_secondAt 2 (some .int)]
def wsX8_check : List Cond := .code yX8_check cX8_check 3 (some .long) :: ((wsX8_check_r1 ++ (wsX8_check_r2 ++ (wsX8_check_r3 ++ (wsX8_check_r4 ++ (wsX8_check_r5 ++ (wsX8_check_r6 ++ wsX8_check_r7)))))) ++ wsX80 ++ wsX40 ++ wsX70 ++ wsX30 ++ wsX20 ++ wsX10 ++ wsX60 ++ wsX50 ++ wsX00)
def wsX8_count_r1 : List Cond := [Cond.fieldLink RX8 10 "FairQueue" "players" "LFairQueue$Players;", Cond.fieldLink RX8 122 "FairQueue$Players" "number" "I", Cond.fieldLink RX8 74 "FairQueue" "tick" "J", Cond.fieldLink RX8 19 "FairQueue" "queue" "LFairQueue$Queue;", Cond.fieldLink RX8 125 "FairQueue$Queue" "waiting" "I", Cond.fieldLink RX8 43 "FairQueue" "matches" "LFairQueue$Matches;", Cond.fieldLink RX8 270 "FairQueue$Matches" "ended" "J", Cond.fieldLink RX8 61 "FairQueue" "toldCount" "I", Cond.fieldLink RX8 65 "FairQueue" "teamSize" "I", Cond.methodLink RX8 115 yX2_going, Cond.instanceMethod yX2_going, Cond.selects RX2 yX2_going yX2_going, Cond.initialized RX2, Cond.code yX2_going cX2_going 4 (some .int), Cond.fieldLink RX2 11 "FairQueue$Matches" "row" "[LFairQueue$Match;", Cond.methodLink RX2 22 yX1_goesOn, Cond.instanceMethod yX1_goesOn, Cond.selects RX1 yX1_goesOn yX1_goesOn, Cond.initialized RX1, Cond.code yX1_goesOn cX1_goesOn 1 (some .boolean), Cond.fieldLink RX1 9 "FairQueue$Match" "first" "I", Cond.methodLink RX8 81 yX8_finding, Cond.instanceMethod yX8_finding, Cond.selects RX8 yX8_finding yX8_finding]
def wsX8_count_r2 : List Cond := [Cond.initialized RX8, Cond.code yX8_finding cX8_finding 2 (some .long), Cond.fieldLink RX8 58 "FairQueue" "findings" "[J", Cond.constantLong RX8 273 (-1000000000)]
def wsX8_count : List Cond := .code yX8_count cX8_count 2 (some .long) :: ((wsX8_count_r1 ++ wsX8_count_r2) ++ wsX80 ++ wsX60 ++ wsX70 ++ wsX20 ++ wsX10)
def wsX8_found : List Cond := .code yX8_found cX8_found 2 (some .long) :: ([.fieldLink RX8 58 "FairQueue" "findings" "[J", .methodLink RX8 81 yX8_finding, .instanceMethod yX8_finding, .selects RX8 yX8_finding yX8_finding, .initialized RX8, .code yX8_finding cX8_finding 2 (some .long), .constantLong RX8 273 (-1000000000)] ++ wsX80)
def wsX9_init_r1 : List Cond := [Cond.methodLink RX9 3 objectInit, Cond.instanceMethod objectInit, Cond.code objectInit ⟨#[0xb1]⟩ 1 none, Cond.arrayClass .int, Cond.fieldLink RX9 9 "FairQueueModel" "foundMany" "[I", Cond.fieldLink RX9 13 "FairQueueModel" "kindOf" "[I", Cond.arrayClass .long, Cond.fieldLink RX9 16 "FairQueueModel" "shares" "[J", Cond.fieldLink RX9 20 "FairQueueModel" "surprises" "[J", Cond.fieldLink RX9 23 "FairQueueModel" "surpriseMany" "[I", Cond.fieldLink RX9 26 "FairQueueModel" "teamSize" "I", Cond.constant RX9 30 (300000), Cond.fieldLink RX9 31 "FairQueueModel" "base" "I", Cond.constant RX9 34 (100000), Cond.fieldLink RX9 35 "FairQueueModel" "step" "I", Cond.constant RX9 38 (3000000), Cond.fieldLink RX9 39 "FairQueueModel" "top" "I", Cond.fieldLink RX9 42 "FairQueueModel" "partyBits" "[I", Cond.fieldLink RX9 45 "FairQueueModel" "partyTick" "[I", Cond.arrayClass .boolean, Cond.fieldLink RX9 48 "FairQueueModel" "goesOn" "[Z", Cond.fieldLink RX9 52 "FairQueueModel" "firstOf" "[I", Cond.fieldLink RX9 55 "FairQueueModel" "secondOf" "[I", Cond.fieldLink RX9 58 "FairQueueModel" "dropped" "[I"]
def wsX9_init_r2 : List Cond := [Cond.fieldLink RX9 61 "FairQueueModel" "madeAt" "[I", Cond.constant RX9 64 (1500000), Cond.fieldLink RX9 65 "FairQueueModel" "limit" "I", Cond.fieldLink RX9 68 "FairQueueModel" "told" "[I", Cond.fieldLink RX9 71 "FairQueueModel" "aside" "[J", Cond.fieldLink RX9 74 "FairQueueModel" "setSize" "[I", Cond.fieldLink RX9 77 "FairQueueModel" "setMean" "[J", Cond.fieldLink RX9 80 "FairQueueModel" "plannedFirst" "[I", Cond.fieldLink RX9 83 "FairQueueModel" "plannedSecond" "[I", Cond.fieldLink RX9 86 "FairQueueModel" "weighed" "[J", Cond.fieldLink RX9 89 "FairQueueModel" "ticks" "I"]
def wsX9_init : List Cond := .code yX9_init cX9_init 1 none :: ((wsX9_init_r1 ++ wsX9_init_r2) ++ wsX90)
def wsX9_in : List Cond := .code yX9_in cX9_in 6 (some .boolean) :: ([])
def wsX9_finding : List Cond := .code yX9_finding cX9_finding 3 (some .long) :: ([.fieldLink RX9 9 "FairQueueModel" "foundMany" "[I", .constantLong RX9 92 (-1000000000)] ++ wsX90)
def wsX9_isPlayer : List Cond := .code yX9_isPlayer cX9_isPlayer 2 (some .boolean) :: ([.fieldLink RX9 94 "FairQueueModel" "players" "I", .methodLink RX9 97 yX9_in, .static yX9_in, .initialized RX9, .code yX9_in cX9_in 6 (some .boolean)] ++ wsX90)
def wsX9_isLevel : List Cond := .code yX9_isLevel cX9_isLevel 1 (some .boolean) :: ([.constantLong RX9 101 (6), .methodLink RX9 97 yX9_in, .static yX9_in, .initialized RX9, .code yX9_in cX9_in 6 (some .boolean)])
def wsX9_ones : List Cond := .code yX9_ones cX9_ones 3 (some .int) :: ([])
def wsX9_middle : List Cond := .code yX9_middle cX9_middle 1 (some .long) :: ([.constantLong RX9 103 (142858), .constantLong RX9 105 (142857)])
def wsX9_player : List Cond := .code yX9_player cX9_player 3 (some .long) :: ([.constantLong RX9 107 (2), .constantLong RX9 109 (-1000000001), .fieldLink RX9 94 "FairQueueModel" "players" "I", .constantLong RX9 115 (-1000000004), .fieldLink RX9 13 "FairQueueModel" "kindOf" "[I", .fieldLink RX9 16 "FairQueueModel" "shares" "[J", .methodLink RX9 97 yX9_in, .static yX9_in, .initialized RX9, .code yX9_in cX9_in 6 (some .boolean), .methodLink RX9 111 yX9_finding, .instanceMethod yX9_finding, .selects RX9 yX9_finding yX9_finding, .code yX9_finding cX9_finding 3 (some .long), .fieldLink RX9 9 "FairQueueModel" "foundMany" "[I", .constantLong RX9 92 (-1000000000), .methodLink RX9 117 yX9_middle, .static yX9_middle, .code yX9_middle cX9_middle 1 (some .long), .constantLong RX9 103 (142858), .constantLong RX9 105 (142857)] ++ wsX90)
def wsX9_become : List Cond := .code yX9_become cX9_become 4 (some .long) :: ([.constantLong RX9 107 (2), .constantLong RX9 109 (-1000000001), .fieldLink RX9 13 "FairQueueModel" "kindOf" "[I", .methodLink RX9 121 yX9_isPlayer, .instanceMethod yX9_isPlayer, .selects RX9 yX9_isPlayer yX9_isPlayer, .initialized RX9, .code yX9_isPlayer cX9_isPlayer 2 (some .boolean), .fieldLink RX9 94 "FairQueueModel" "players" "I", .methodLink RX9 97 yX9_in, .static yX9_in, .code yX9_in cX9_in 6 (some .boolean), .methodLink RX9 111 yX9_finding, .instanceMethod yX9_finding, .selects RX9 yX9_finding yX9_finding, .code yX9_finding cX9_finding 3 (some .long), .fieldLink RX9 9 "FairQueueModel" "foundMany" "[I", .constantLong RX9 92 (-1000000000)] ++ wsX90)
def wsX9_meanOf : List Cond := .code yX9_meanOf cX9_meanOf 5 (some .long) :: ([.fieldLink RX9 16 "FairQueueModel" "shares" "[J"] ++ wsX90)
def wsX9_as : List Cond := .code yX9_as cX9_as 3 (some .long) :: ([.constantLong RX9 107 (2), .constantLong RX9 109 (-1000000001), .fieldLink RX9 13 "FairQueueModel" "kindOf" "[I", .constantLong RX9 128 (-1000000005), .methodLink RX9 121 yX9_isPlayer, .instanceMethod yX9_isPlayer, .selects RX9 yX9_isPlayer yX9_isPlayer, .initialized RX9, .code yX9_isPlayer cX9_isPlayer 2 (some .boolean), .fieldLink RX9 94 "FairQueueModel" "players" "I", .methodLink RX9 97 yX9_in, .static yX9_in, .code yX9_in cX9_in 6 (some .boolean), .methodLink RX9 111 yX9_finding, .instanceMethod yX9_finding, .selects RX9 yX9_finding yX9_finding, .code yX9_finding cX9_finding 3 (some .long), .fieldLink RX9 9 "FairQueueModel" "foundMany" "[I", .constantLong RX9 92 (-1000000000), .methodLink RX9 125 yX9_meanOf, .instanceMethod yX9_meanOf, .selects RX9 yX9_meanOf yX9_meanOf, .code yX9_meanOf cX9_meanOf 5 (some .long), .fieldLink RX9 16 "FairQueueModel" "shares" "[J"] ++ wsX90)
def wsX9_share : List Cond := .code yX9_share cX9_share 3 (some .long) :: ([.fieldLink RX9 16 "FairQueueModel" "shares" "[J", .constantLong RX9 109 (-1000000001), .methodLink RX9 121 yX9_isPlayer, .instanceMethod yX9_isPlayer, .selects RX9 yX9_isPlayer yX9_isPlayer, .initialized RX9, .code yX9_isPlayer cX9_isPlayer 2 (some .boolean), .fieldLink RX9 94 "FairQueueModel" "players" "I", .methodLink RX9 97 yX9_in, .static yX9_in, .code yX9_in cX9_in 6 (some .boolean), .methodLink RX9 130 yX9_isLevel, .static yX9_isLevel, .code yX9_isLevel cX9_isLevel 1 (some .boolean), .constantLong RX9 101 (6), .methodLink RX9 111 yX9_finding, .instanceMethod yX9_finding, .selects RX9 yX9_finding yX9_finding, .code yX9_finding cX9_finding 3 (some .long), .fieldLink RX9 9 "FairQueueModel" "foundMany" "[I", .constantLong RX9 92 (-1000000000)] ++ wsX90)
def wsX9_shift : List Cond := .code yX9_shift cX9_shift 5 (some .long) :: ([.fieldLink RX9 16 "FairQueueModel" "shares" "[J", .constantLong RX9 109 (-1000000001), .methodLink RX9 121 yX9_isPlayer, .instanceMethod yX9_isPlayer, .selects RX9 yX9_isPlayer yX9_isPlayer, .initialized RX9, .code yX9_isPlayer cX9_isPlayer 2 (some .boolean), .fieldLink RX9 94 "FairQueueModel" "players" "I", .methodLink RX9 97 yX9_in, .static yX9_in, .code yX9_in cX9_in 6 (some .boolean), .methodLink RX9 130 yX9_isLevel, .static yX9_isLevel, .code yX9_isLevel cX9_isLevel 1 (some .boolean), .constantLong RX9 101 (6), .methodLink RX9 111 yX9_finding, .instanceMethod yX9_finding, .selects RX9 yX9_finding yX9_finding, .code yX9_finding cX9_finding 3 (some .long), .fieldLink RX9 9 "FairQueueModel" "foundMany" "[I", .constantLong RX9 92 (-1000000000)] ++ wsX90)
def wsX9_mean : List Cond := .code yX9_mean cX9_mean 2 (some .long) :: ([.constantLong RX9 109 (-1000000001), .methodLink RX9 121 yX9_isPlayer, .instanceMethod yX9_isPlayer, .selects RX9 yX9_isPlayer yX9_isPlayer, .initialized RX9, .code yX9_isPlayer cX9_isPlayer 2 (some .boolean), .fieldLink RX9 94 "FairQueueModel" "players" "I", .methodLink RX9 97 yX9_in, .static yX9_in, .code yX9_in cX9_in 6 (some .boolean), .methodLink RX9 125 yX9_meanOf, .instanceMethod yX9_meanOf, .selects RX9 yX9_meanOf yX9_meanOf, .code yX9_meanOf cX9_meanOf 5 (some .long), .fieldLink RX9 16 "FairQueueModel" "shares" "[J", .methodLink RX9 111 yX9_finding, .instanceMethod yX9_finding, .selects RX9 yX9_finding yX9_finding, .code yX9_finding cX9_finding 3 (some .long), .fieldLink RX9 9 "FairQueueModel" "foundMany" "[I", .constantLong RX9 92 (-1000000000)] ++ wsX90)
def wsX9_layAside : List Cond := .code yX9_layAside cX9_layAside 2 none :: ([.fieldLink RX9 71 "FairQueueModel" "aside" "[J", .fieldLink RX9 16 "FairQueueModel" "shares" "[J"] ++ wsX90)
def wsX9_chanceAt : List Cond := .code yX9_chanceAt cX9_chanceAt 7 (some .long) :: ([.fieldLink RX9 94 "FairQueueModel" "players" "I", .fieldLink RX9 71 "FairQueueModel" "aside" "[J", .constantLong RX9 133 (1000), .methodLink RX9 135 yX9_ones, .static yX9_ones, .initialized RX9, .code yX9_ones cX9_ones 3 (some .int)] ++ wsX90)
def wsX9_chanceOf : List Cond := .code yX9_chanceOf cX9_chanceOf 6 (some .long) :: ([.fieldLink RX9 71 "FairQueueModel" "aside" "[J", .constantLong RX9 143 (1000000), .methodLink RX9 139 yX9_chanceAt, .instanceMethod yX9_chanceAt, .selects RX9 yX9_chanceAt yX9_chanceAt, .initialized RX9, .code yX9_chanceAt cX9_chanceAt 7 (some .long), .fieldLink RX9 94 "FairQueueModel" "players" "I", .constantLong RX9 133 (1000), .methodLink RX9 135 yX9_ones, .static yX9_ones, .code yX9_ones cX9_ones 3 (some .int)] ++ wsX90)
def wsX9_teamChance : List Cond := .code yX9_teamChance cX9_teamChance 6 (some .long) :: ([.fieldLink RX9 94 "FairQueueModel" "players" "I", .methodLink RX9 145 yX9_chanceOf, .instanceMethod yX9_chanceOf, .selects RX9 yX9_chanceOf yX9_chanceOf, .initialized RX9, .code yX9_chanceOf cX9_chanceOf 6 (some .long), .fieldLink RX9 71 "FairQueueModel" "aside" "[J", .constantLong RX9 143 (1000000), .methodLink RX9 139 yX9_chanceAt, .instanceMethod yX9_chanceAt, .selects RX9 yX9_chanceAt yX9_chanceAt, .code yX9_chanceAt cX9_chanceAt 7 (some .long), .constantLong RX9 133 (1000), .methodLink RX9 135 yX9_ones, .static yX9_ones, .code yX9_ones cX9_ones 3 (some .int)] ++ wsX90)
def wsX9_chance_r1 : List Cond := [Cond.constantLong RX9 109 (-1000000001), Cond.methodLink RX9 121 yX9_isPlayer, Cond.instanceMethod yX9_isPlayer, Cond.selects RX9 yX9_isPlayer yX9_isPlayer, Cond.initialized RX9, Cond.code yX9_isPlayer cX9_isPlayer 2 (some .boolean), Cond.fieldLink RX9 94 "FairQueueModel" "players" "I", Cond.methodLink RX9 97 yX9_in, Cond.static yX9_in, Cond.code yX9_in cX9_in 6 (some .boolean), Cond.methodLink RX9 111 yX9_finding, Cond.instanceMethod yX9_finding, Cond.selects RX9 yX9_finding yX9_finding, Cond.code yX9_finding cX9_finding 3 (some .long), Cond.fieldLink RX9 9 "FairQueueModel" "foundMany" "[I", Cond.constantLong RX9 92 (-1000000000), Cond.methodLink RX9 148 yX9_layAside, Cond.instanceMethod yX9_layAside, Cond.selects RX9 yX9_layAside yX9_layAside, Cond.code yX9_layAside cX9_layAside 2 none, Cond.fieldLink RX9 71 "FairQueueModel" "aside" "[J", Cond.fieldLink RX9 16 "FairQueueModel" "shares" "[J", Cond.methodLink RX9 145 yX9_chanceOf, Cond.instanceMethod yX9_chanceOf]
def wsX9_chance_r2 : List Cond := [Cond.selects RX9 yX9_chanceOf yX9_chanceOf, Cond.code yX9_chanceOf cX9_chanceOf 6 (some .long), Cond.constantLong RX9 143 (1000000), Cond.methodLink RX9 139 yX9_chanceAt, Cond.instanceMethod yX9_chanceAt, Cond.selects RX9 yX9_chanceAt yX9_chanceAt, Cond.code yX9_chanceAt cX9_chanceAt 7 (some .long), Cond.constantLong RX9 133 (1000), Cond.methodLink RX9 135 yX9_ones, Cond.static yX9_ones, Cond.code yX9_ones cX9_ones 3 (some .int)]
def wsX9_chance : List Cond := .code yX9_chance cX9_chance 3 (some .long) :: ((wsX9_chance_r1 ++ wsX9_chance_r2) ++ wsX90)
def wsX9_somePlays : List Cond := .code yX9_somePlays cX9_somePlays 3 (some .boolean) :: ([.fieldLink RX9 48 "FairQueueModel" "goesOn" "[Z"] ++ wsX90)
def wsX9_season : List Cond := .code yX9_season cX9_season 7 (some .long) :: ([.constantLong RX9 155 (-1000000003), .fieldLink RX9 94 "FairQueueModel" "players" "I", .constantLong RX9 143 (1000000), .fieldLink RX9 16 "FairQueueModel" "shares" "[J", .constantLong RX9 107 (2), .methodLink RX9 151 yX9_somePlays, .instanceMethod yX9_somePlays, .selects RX9 yX9_somePlays yX9_somePlays, .initialized RX9, .code yX9_somePlays cX9_somePlays 3 (some .boolean), .fieldLink RX9 48 "FairQueueModel" "goesOn" "[Z", .methodLink RX9 111 yX9_finding, .instanceMethod yX9_finding, .selects RX9 yX9_finding yX9_finding, .code yX9_finding cX9_finding 3 (some .long), .fieldLink RX9 9 "FairQueueModel" "foundMany" "[I", .constantLong RX9 92 (-1000000000), .methodLink RX9 117 yX9_middle, .static yX9_middle, .code yX9_middle cX9_middle 1 (some .long), .constantLong RX9 103 (142858), .constantLong RX9 105 (142857)] ++ wsX90)
def wsX9_size : List Cond := .code yX9_size cX9_size 3 (some .long) :: ([.constantLong RX9 157 (3), .constantLong RX9 109 (-1000000001), .fieldLink RX9 159 "FairQueueModel" "parties" "I", .constantLong RX9 155 (-1000000003), .fieldLink RX9 26 "FairQueueModel" "teamSize" "I", .methodLink RX9 97 yX9_in, .static yX9_in, .initialized RX9, .code yX9_in cX9_in 6 (some .boolean), .methodLink RX9 111 yX9_finding, .instanceMethod yX9_finding, .selects RX9 yX9_finding yX9_finding, .code yX9_finding cX9_finding 3 (some .long), .fieldLink RX9 9 "FairQueueModel" "foundMany" "[I", .constantLong RX9 92 (-1000000000), .methodLink RX9 151 yX9_somePlays, .instanceMethod yX9_somePlays, .selects RX9 yX9_somePlays yX9_somePlays, .code yX9_somePlays cX9_somePlays 3 (some .boolean), .fieldLink RX9 48 "FairQueueModel" "goesOn" "[Z"] ++ wsX90)
def wsX9_bounds : List Cond := .code yX9_bounds cX9_bounds 4 (some .long) :: ([.constantLong RX9 162 (10000000), .constantLong RX9 109 (-1000000001), .fieldLink RX9 31 "FairQueueModel" "base" "I", .fieldLink RX9 35 "FairQueueModel" "step" "I", .fieldLink RX9 39 "FairQueueModel" "top" "I", .methodLink RX9 97 yX9_in, .static yX9_in, .initialized RX9, .code yX9_in cX9_in 6 (some .boolean), .methodLink RX9 111 yX9_finding, .instanceMethod yX9_finding, .selects RX9 yX9_finding yX9_finding, .code yX9_finding cX9_finding 3 (some .long), .fieldLink RX9 9 "FairQueueModel" "foundMany" "[I", .constantLong RX9 92 (-1000000000)] ++ wsX90)
def wsX9_partyOf : List Cond := .code yX9_partyOf cX9_partyOf 3 (some .int) :: ([.fieldLink RX9 159 "FairQueueModel" "parties" "I", .fieldLink RX9 42 "FairQueueModel" "partyBits" "[I"] ++ wsX90)
def wsX9_matchOf : List Cond := .code yX9_matchOf cX9_matchOf 3 (some .int) :: ([.fieldLink RX9 48 "FairQueueModel" "goesOn" "[Z", .fieldLink RX9 52 "FairQueueModel" "firstOf" "[I", .fieldLink RX9 55 "FairQueueModel" "secondOf" "[I", .fieldLink RX9 58 "FairQueueModel" "dropped" "[I"] ++ wsX90)
def wsX9_isBusy : List Cond := .code yX9_isBusy cX9_isBusy 2 (some .boolean) :: ([.methodLink RX9 164 yX9_partyOf, .instanceMethod yX9_partyOf, .selects RX9 yX9_partyOf yX9_partyOf, .initialized RX9, .code yX9_partyOf cX9_partyOf 3 (some .int), .fieldLink RX9 159 "FairQueueModel" "parties" "I", .fieldLink RX9 42 "FairQueueModel" "partyBits" "[I", .methodLink RX9 167 yX9_matchOf, .instanceMethod yX9_matchOf, .selects RX9 yX9_matchOf yX9_matchOf, .code yX9_matchOf cX9_matchOf 3 (some .int), .fieldLink RX9 48 "FairQueueModel" "goesOn" "[Z", .fieldLink RX9 52 "FairQueueModel" "firstOf" "[I", .fieldLink RX9 55 "FairQueueModel" "secondOf" "[I", .fieldLink RX9 58 "FairQueueModel" "dropped" "[I"] ++ wsX90)
def wsX9_wait_r1 : List Cond := [Cond.constantLong RX9 109 (-1000000001), Cond.fieldLink RX9 26 "FairQueueModel" "teamSize" "I", Cond.constantLong RX9 128 (-1000000005), Cond.constantLong RX9 155 (-1000000003), Cond.fieldLink RX9 159 "FairQueueModel" "parties" "I", Cond.constantLong RX9 115 (-1000000004), Cond.fieldLink RX9 42 "FairQueueModel" "partyBits" "[I", Cond.fieldLink RX9 45 "FairQueueModel" "partyTick" "[I", Cond.fieldLink RX9 89 "FairQueueModel" "ticks" "I", Cond.methodLink RX9 121 yX9_isPlayer, Cond.instanceMethod yX9_isPlayer, Cond.selects RX9 yX9_isPlayer yX9_isPlayer, Cond.initialized RX9, Cond.code yX9_isPlayer cX9_isPlayer 2 (some .boolean), Cond.fieldLink RX9 94 "FairQueueModel" "players" "I", Cond.methodLink RX9 97 yX9_in, Cond.static yX9_in, Cond.code yX9_in cX9_in 6 (some .boolean), Cond.methodLink RX9 111 yX9_finding, Cond.instanceMethod yX9_finding, Cond.selects RX9 yX9_finding yX9_finding, Cond.code yX9_finding cX9_finding 3 (some .long), Cond.fieldLink RX9 9 "FairQueueModel" "foundMany" "[I", Cond.constantLong RX9 92 (-1000000000)]
def wsX9_wait_r2 : List Cond := [Cond.methodLink RX9 170 yX9_isBusy, Cond.instanceMethod yX9_isBusy, Cond.selects RX9 yX9_isBusy yX9_isBusy, Cond.code yX9_isBusy cX9_isBusy 2 (some .boolean), Cond.methodLink RX9 164 yX9_partyOf, Cond.instanceMethod yX9_partyOf, Cond.selects RX9 yX9_partyOf yX9_partyOf, Cond.code yX9_partyOf cX9_partyOf 3 (some .int), Cond.methodLink RX9 167 yX9_matchOf, Cond.instanceMethod yX9_matchOf, Cond.selects RX9 yX9_matchOf yX9_matchOf, Cond.code yX9_matchOf cX9_matchOf 3 (some .int), Cond.fieldLink RX9 48 "FairQueueModel" "goesOn" "[Z", Cond.fieldLink RX9 52 "FairQueueModel" "firstOf" "[I", Cond.fieldLink RX9 55 "FairQueueModel" "secondOf" "[I", Cond.fieldLink RX9 58 "FairQueueModel" "dropped" "[I"]
def wsX9_wait : List Cond := .code yX9_wait cX9_wait 6 (some .long) :: ((wsX9_wait_r1 ++ wsX9_wait_r2) ++ wsX90)
def wsX9_takeOut : List Cond := .code yX9_takeOut cX9_takeOut 3 none :: ([.fieldLink RX9 159 "FairQueueModel" "parties" "I", .fieldLink RX9 42 "FairQueueModel" "partyBits" "[I", .fieldLink RX9 45 "FairQueueModel" "partyTick" "[I"] ++ wsX90)
def wsX9_leave_r1 : List Cond := [Cond.constantLong RX9 109 (-1000000001), Cond.constantLong RX9 173 (-1000000002), Cond.fieldLink RX9 159 "FairQueueModel" "parties" "I", Cond.methodLink RX9 121 yX9_isPlayer, Cond.instanceMethod yX9_isPlayer, Cond.selects RX9 yX9_isPlayer yX9_isPlayer, Cond.initialized RX9, Cond.code yX9_isPlayer cX9_isPlayer 2 (some .boolean), Cond.fieldLink RX9 94 "FairQueueModel" "players" "I", Cond.methodLink RX9 97 yX9_in, Cond.static yX9_in, Cond.code yX9_in cX9_in 6 (some .boolean), Cond.methodLink RX9 111 yX9_finding, Cond.instanceMethod yX9_finding, Cond.selects RX9 yX9_finding yX9_finding, Cond.code yX9_finding cX9_finding 3 (some .long), Cond.fieldLink RX9 9 "FairQueueModel" "foundMany" "[I", Cond.constantLong RX9 92 (-1000000000), Cond.methodLink RX9 164 yX9_partyOf, Cond.instanceMethod yX9_partyOf, Cond.selects RX9 yX9_partyOf yX9_partyOf, Cond.code yX9_partyOf cX9_partyOf 3 (some .int), Cond.fieldLink RX9 42 "FairQueueModel" "partyBits" "[I", Cond.methodLink RX9 175 yX9_takeOut]
def wsX9_leave_r2 : List Cond := [Cond.instanceMethod yX9_takeOut, Cond.selects RX9 yX9_takeOut yX9_takeOut, Cond.code yX9_takeOut cX9_takeOut 3 none, Cond.fieldLink RX9 45 "FairQueueModel" "partyTick" "[I"]
def wsX9_leave : List Cond := .code yX9_leave cX9_leave 3 (some .long) :: ((wsX9_leave_r1 ++ wsX9_leave_r2) ++ wsX90)
def wsX9_boundOf : List Cond := .code yX9_boundOf cX9_boundOf 4 (some .long) :: ([.fieldLink RX9 31 "FairQueueModel" "base" "I", .fieldLink RX9 35 "FairQueueModel" "step" "I", .fieldLink RX9 89 "FairQueueModel" "ticks" "I", .fieldLink RX9 45 "FairQueueModel" "partyTick" "[I", .fieldLink RX9 39 "FairQueueModel" "top" "I"] ++ wsX90)
def wsX9_waited_r1 : List Cond := [Cond.constantLong RX9 109 (-1000000001), Cond.constantLong RX9 173 (-1000000002), Cond.fieldLink RX9 89 "FairQueueModel" "ticks" "I", Cond.fieldLink RX9 45 "FairQueueModel" "partyTick" "[I", Cond.methodLink RX9 121 yX9_isPlayer, Cond.instanceMethod yX9_isPlayer, Cond.selects RX9 yX9_isPlayer yX9_isPlayer, Cond.initialized RX9, Cond.code yX9_isPlayer cX9_isPlayer 2 (some .boolean), Cond.fieldLink RX9 94 "FairQueueModel" "players" "I", Cond.methodLink RX9 97 yX9_in, Cond.static yX9_in, Cond.code yX9_in cX9_in 6 (some .boolean), Cond.methodLink RX9 111 yX9_finding, Cond.instanceMethod yX9_finding, Cond.selects RX9 yX9_finding yX9_finding, Cond.code yX9_finding cX9_finding 3 (some .long), Cond.fieldLink RX9 9 "FairQueueModel" "foundMany" "[I", Cond.constantLong RX9 92 (-1000000000), Cond.methodLink RX9 164 yX9_partyOf, Cond.instanceMethod yX9_partyOf, Cond.selects RX9 yX9_partyOf yX9_partyOf, Cond.code yX9_partyOf cX9_partyOf 3 (some .int), Cond.fieldLink RX9 159 "FairQueueModel" "parties" "I"]
def wsX9_waited_r2 : List Cond := [Cond.fieldLink RX9 42 "FairQueueModel" "partyBits" "[I", Cond.methodLink RX9 179 yX9_boundOf, Cond.instanceMethod yX9_boundOf, Cond.selects RX9 yX9_boundOf yX9_boundOf, Cond.code yX9_boundOf cX9_boundOf 4 (some .long), Cond.fieldLink RX9 31 "FairQueueModel" "base" "I", Cond.fieldLink RX9 35 "FairQueueModel" "step" "I", Cond.fieldLink RX9 39 "FairQueueModel" "top" "I"]
def wsX9_waited : List Cond := .code yX9_waited cX9_waited 4 (some .long) :: ((wsX9_waited_r1 ++ wsX9_waited_r2) ++ wsX90)
def wsX9_playersOf : List Cond := .code yX9_playersOf cX9_playersOf 4 (some .int) :: ([.fieldLink RX9 159 "FairQueueModel" "parties" "I", .fieldLink RX9 42 "FairQueueModel" "partyBits" "[I"] ++ wsX90)
def wsX9_laySets : List Cond := .code yX9_laySets cX9_laySets 4 none :: ([.fieldLink RX9 159 "FairQueueModel" "parties" "I", .fieldLink RX9 74 "FairQueueModel" "setSize" "[I", .fieldLink RX9 77 "FairQueueModel" "setMean" "[J", .fieldLink RX9 94 "FairQueueModel" "players" "I", .methodLink RX9 182 yX9_playersOf, .instanceMethod yX9_playersOf, .selects RX9 yX9_playersOf yX9_playersOf, .initialized RX9, .code yX9_playersOf cX9_playersOf 4 (some .int), .fieldLink RX9 42 "FairQueueModel" "partyBits" "[I", .methodLink RX9 135 yX9_ones, .static yX9_ones, .code yX9_ones cX9_ones 3 (some .int), .methodLink RX9 125 yX9_meanOf, .instanceMethod yX9_meanOf, .selects RX9 yX9_meanOf yX9_meanOf, .code yX9_meanOf cX9_meanOf 5 (some .long), .fieldLink RX9 16 "FairQueueModel" "shares" "[J"] ++ wsX90)
def wsX9_findPairing : List Cond := .code yX9_findPairing cX9_findPairing 7 (some .boolean) :: ([.fieldLink RX9 185 "FairQueueModel" "bestFirst" "I", .fieldLink RX9 159 "FairQueueModel" "parties" "I", .fieldLink RX9 74 "FairQueueModel" "setSize" "[I", .fieldLink RX9 26 "FairQueueModel" "teamSize" "I", .fieldLink RX9 77 "FairQueueModel" "setMean" "[J", .fieldLink RX9 188 "FairQueueModel" "bestUneven" "J", .fieldLink RX9 192 "FairQueueModel" "bestSecond" "I", .methodLink RX9 179 yX9_boundOf, .instanceMethod yX9_boundOf, .selects RX9 yX9_boundOf yX9_boundOf, .initialized RX9, .code yX9_boundOf cX9_boundOf 4 (some .long), .fieldLink RX9 31 "FairQueueModel" "base" "I", .fieldLink RX9 35 "FairQueueModel" "step" "I", .fieldLink RX9 89 "FairQueueModel" "ticks" "I", .fieldLink RX9 45 "FairQueueModel" "partyTick" "[I", .fieldLink RX9 39 "FairQueueModel" "top" "I"] ++ wsX90)
def wsX9_pairing_r1 : List Cond := [Cond.constantLong RX9 107 (2), Cond.constantLong RX9 109 (-1000000001), Cond.constantLong RX9 173 (-1000000002), Cond.fieldLink RX9 188 "FairQueueModel" "bestUneven" "J", Cond.fieldLink RX9 185 "FairQueueModel" "bestFirst" "I", Cond.fieldLink RX9 192 "FairQueueModel" "bestSecond" "I", Cond.methodLink RX9 121 yX9_isPlayer, Cond.instanceMethod yX9_isPlayer, Cond.selects RX9 yX9_isPlayer yX9_isPlayer, Cond.initialized RX9, Cond.code yX9_isPlayer cX9_isPlayer 2 (some .boolean), Cond.fieldLink RX9 94 "FairQueueModel" "players" "I", Cond.methodLink RX9 97 yX9_in, Cond.static yX9_in, Cond.code yX9_in cX9_in 6 (some .boolean), Cond.methodLink RX9 111 yX9_finding, Cond.instanceMethod yX9_finding, Cond.selects RX9 yX9_finding yX9_finding, Cond.code yX9_finding cX9_finding 3 (some .long), Cond.fieldLink RX9 9 "FairQueueModel" "foundMany" "[I", Cond.constantLong RX9 92 (-1000000000), Cond.methodLink RX9 164 yX9_partyOf, Cond.instanceMethod yX9_partyOf, Cond.selects RX9 yX9_partyOf yX9_partyOf]
def wsX9_pairing_r2 : List Cond := [Cond.code yX9_partyOf cX9_partyOf 3 (some .int), Cond.fieldLink RX9 159 "FairQueueModel" "parties" "I", Cond.fieldLink RX9 42 "FairQueueModel" "partyBits" "[I", Cond.methodLink RX9 195 yX9_laySets, Cond.instanceMethod yX9_laySets, Cond.selects RX9 yX9_laySets yX9_laySets, Cond.code yX9_laySets cX9_laySets 4 none, Cond.fieldLink RX9 74 "FairQueueModel" "setSize" "[I", Cond.fieldLink RX9 77 "FairQueueModel" "setMean" "[J", Cond.methodLink RX9 182 yX9_playersOf, Cond.instanceMethod yX9_playersOf, Cond.selects RX9 yX9_playersOf yX9_playersOf, Cond.code yX9_playersOf cX9_playersOf 4 (some .int), Cond.methodLink RX9 135 yX9_ones, Cond.static yX9_ones, Cond.code yX9_ones cX9_ones 3 (some .int), Cond.methodLink RX9 125 yX9_meanOf, Cond.instanceMethod yX9_meanOf, Cond.selects RX9 yX9_meanOf yX9_meanOf, Cond.code yX9_meanOf cX9_meanOf 5 (some .long), Cond.fieldLink RX9 16 "FairQueueModel" "shares" "[J", Cond.methodLink RX9 198 yX9_findPairing, Cond.instanceMethod yX9_findPairing, Cond.selects RX9 yX9_findPairing yX9_findPairing]
def wsX9_pairing_r3 : List Cond := [Cond.code yX9_findPairing cX9_findPairing 7 (some .boolean), Cond.fieldLink RX9 26 "FairQueueModel" "teamSize" "I", Cond.methodLink RX9 179 yX9_boundOf, Cond.instanceMethod yX9_boundOf, Cond.selects RX9 yX9_boundOf yX9_boundOf, Cond.code yX9_boundOf cX9_boundOf 4 (some .long), Cond.fieldLink RX9 31 "FairQueueModel" "base" "I", Cond.fieldLink RX9 35 "FairQueueModel" "step" "I", Cond.fieldLink RX9 89 "FairQueueModel" "ticks" "I", Cond.fieldLink RX9 45 "FairQueueModel" "partyTick" "[I", Cond.fieldLink RX9 39 "FairQueueModel" "top" "I"]
def wsX9_pairing : List Cond := .code yX9_pairing cX9_pairing 4 (some .long) :: ((wsX9_pairing_r1 ++ (wsX9_pairing_r2 ++ wsX9_pairing_r3)) ++ wsX90)
def wsX9_playing : List Cond := .code yX9_playing cX9_playing 3 (some .int) :: ([.fieldLink RX9 48 "FairQueueModel" "goesOn" "[Z"] ++ wsX90)
def wsX9_plan_r1 : List Cond := [Cond.fieldLink RX9 202 "FairQueueModel" "planned" "I", Cond.fieldLink RX9 159 "FairQueueModel" "parties" "I", Cond.fieldLink RX9 80 "FairQueueModel" "plannedFirst" "[I", Cond.fieldLink RX9 185 "FairQueueModel" "bestFirst" "I", Cond.fieldLink RX9 83 "FairQueueModel" "plannedSecond" "[I", Cond.fieldLink RX9 192 "FairQueueModel" "bestSecond" "I", Cond.methodLink RX9 195 yX9_laySets, Cond.instanceMethod yX9_laySets, Cond.selects RX9 yX9_laySets yX9_laySets, Cond.initialized RX9, Cond.code yX9_laySets cX9_laySets 4 none, Cond.fieldLink RX9 74 "FairQueueModel" "setSize" "[I", Cond.fieldLink RX9 77 "FairQueueModel" "setMean" "[J", Cond.fieldLink RX9 94 "FairQueueModel" "players" "I", Cond.methodLink RX9 182 yX9_playersOf, Cond.instanceMethod yX9_playersOf, Cond.selects RX9 yX9_playersOf yX9_playersOf, Cond.code yX9_playersOf cX9_playersOf 4 (some .int), Cond.fieldLink RX9 42 "FairQueueModel" "partyBits" "[I", Cond.methodLink RX9 135 yX9_ones, Cond.static yX9_ones, Cond.code yX9_ones cX9_ones 3 (some .int), Cond.methodLink RX9 125 yX9_meanOf, Cond.instanceMethod yX9_meanOf]
def wsX9_plan_r2 : List Cond := [Cond.selects RX9 yX9_meanOf yX9_meanOf, Cond.code yX9_meanOf cX9_meanOf 5 (some .long), Cond.fieldLink RX9 16 "FairQueueModel" "shares" "[J", Cond.methodLink RX9 205 yX9_playing, Cond.instanceMethod yX9_playing, Cond.selects RX9 yX9_playing yX9_playing, Cond.code yX9_playing cX9_playing 3 (some .int), Cond.fieldLink RX9 48 "FairQueueModel" "goesOn" "[Z", Cond.methodLink RX9 198 yX9_findPairing, Cond.instanceMethod yX9_findPairing, Cond.selects RX9 yX9_findPairing yX9_findPairing, Cond.code yX9_findPairing cX9_findPairing 7 (some .boolean), Cond.fieldLink RX9 26 "FairQueueModel" "teamSize" "I", Cond.fieldLink RX9 188 "FairQueueModel" "bestUneven" "J", Cond.methodLink RX9 179 yX9_boundOf, Cond.instanceMethod yX9_boundOf, Cond.selects RX9 yX9_boundOf yX9_boundOf, Cond.code yX9_boundOf cX9_boundOf 4 (some .long), Cond.fieldLink RX9 31 "FairQueueModel" "base" "I", Cond.fieldLink RX9 35 "FairQueueModel" "step" "I", Cond.fieldLink RX9 89 "FairQueueModel" "ticks" "I", Cond.fieldLink RX9 45 "FairQueueModel" "partyTick" "[I", Cond.fieldLink RX9 39 "FairQueueModel" "top" "I"]
def wsX9_plan : List Cond := .code yX9_plan cX9_plan 5 none :: ((wsX9_plan_r1 ++ wsX9_plan_r2) ++ wsX90)
def wsX9_tick_r1 : List Cond := [Cond.fieldLink RX9 202 "FairQueueModel" "planned" "I", Cond.fieldLink RX9 48 "FairQueueModel" "goesOn" "[Z", Cond.fieldLink RX9 52 "FairQueueModel" "firstOf" "[I", Cond.fieldLink RX9 80 "FairQueueModel" "plannedFirst" "[I", Cond.fieldLink RX9 55 "FairQueueModel" "secondOf" "[I", Cond.fieldLink RX9 83 "FairQueueModel" "plannedSecond" "[I", Cond.fieldLink RX9 58 "FairQueueModel" "dropped" "[I", Cond.fieldLink RX9 61 "FairQueueModel" "madeAt" "[I", Cond.fieldLink RX9 89 "FairQueueModel" "ticks" "I", Cond.fieldLink RX9 159 "FairQueueModel" "parties" "I", Cond.methodLink RX9 209 yX9_plan, Cond.instanceMethod yX9_plan, Cond.selects RX9 yX9_plan yX9_plan, Cond.initialized RX9, Cond.code yX9_plan cX9_plan 5 none, Cond.fieldLink RX9 185 "FairQueueModel" "bestFirst" "I", Cond.fieldLink RX9 192 "FairQueueModel" "bestSecond" "I", Cond.methodLink RX9 195 yX9_laySets, Cond.instanceMethod yX9_laySets, Cond.selects RX9 yX9_laySets yX9_laySets, Cond.code yX9_laySets cX9_laySets 4 none, Cond.fieldLink RX9 74 "FairQueueModel" "setSize" "[I", Cond.fieldLink RX9 77 "FairQueueModel" "setMean" "[J", Cond.fieldLink RX9 94 "FairQueueModel" "players" "I"]
def wsX9_tick_r2 : List Cond := [Cond.methodLink RX9 182 yX9_playersOf, Cond.instanceMethod yX9_playersOf, Cond.selects RX9 yX9_playersOf yX9_playersOf, Cond.code yX9_playersOf cX9_playersOf 4 (some .int), Cond.fieldLink RX9 42 "FairQueueModel" "partyBits" "[I", Cond.methodLink RX9 135 yX9_ones, Cond.static yX9_ones, Cond.code yX9_ones cX9_ones 3 (some .int), Cond.methodLink RX9 125 yX9_meanOf, Cond.instanceMethod yX9_meanOf, Cond.selects RX9 yX9_meanOf yX9_meanOf, Cond.code yX9_meanOf cX9_meanOf 5 (some .long), Cond.fieldLink RX9 16 "FairQueueModel" "shares" "[J", Cond.methodLink RX9 205 yX9_playing, Cond.instanceMethod yX9_playing, Cond.selects RX9 yX9_playing yX9_playing, Cond.code yX9_playing cX9_playing 3 (some .int), Cond.methodLink RX9 198 yX9_findPairing, Cond.instanceMethod yX9_findPairing, Cond.selects RX9 yX9_findPairing yX9_findPairing, Cond.code yX9_findPairing cX9_findPairing 7 (some .boolean), Cond.fieldLink RX9 26 "FairQueueModel" "teamSize" "I", Cond.fieldLink RX9 188 "FairQueueModel" "bestUneven" "J", Cond.methodLink RX9 179 yX9_boundOf]
def wsX9_tick_r3 : List Cond := [Cond.instanceMethod yX9_boundOf, Cond.selects RX9 yX9_boundOf yX9_boundOf, Cond.code yX9_boundOf cX9_boundOf 4 (some .long), Cond.fieldLink RX9 31 "FairQueueModel" "base" "I", Cond.fieldLink RX9 35 "FairQueueModel" "step" "I", Cond.fieldLink RX9 45 "FairQueueModel" "partyTick" "[I", Cond.fieldLink RX9 39 "FairQueueModel" "top" "I", Cond.methodLink RX9 175 yX9_takeOut, Cond.instanceMethod yX9_takeOut, Cond.selects RX9 yX9_takeOut yX9_takeOut, Cond.code yX9_takeOut cX9_takeOut 3 none]
def wsX9_tick : List Cond := .code yX9_tick cX9_tick 4 (some .long) :: ((wsX9_tick_r1 ++ (wsX9_tick_r2 ++ wsX9_tick_r3)) ++ wsX90)
def wsX9_isPlaceOfMatch : List Cond := .code yX9_isPlaceOfMatch cX9_isPlaceOfMatch 1 (some .boolean) :: ([.constantLong RX9 212 (4), .methodLink RX9 97 yX9_in, .static yX9_in, .initialized RX9, .code yX9_in cX9_in 6 (some .boolean)])
def wsX9_match_r1 : List Cond := [Cond.constantLong RX9 212 (4), Cond.constantLong RX9 109 (-1000000001), Cond.fieldLink RX9 48 "FairQueueModel" "goesOn" "[Z", Cond.constantLong RX9 173 (-1000000002), Cond.fieldLink RX9 52 "FairQueueModel" "firstOf" "[I", Cond.fieldLink RX9 55 "FairQueueModel" "secondOf" "[I", Cond.fieldLink RX9 58 "FairQueueModel" "dropped" "[I", Cond.fieldLink RX9 61 "FairQueueModel" "madeAt" "[I", Cond.methodLink RX9 214 yX9_isPlaceOfMatch, Cond.static yX9_isPlaceOfMatch, Cond.initialized RX9, Cond.code yX9_isPlaceOfMatch cX9_isPlaceOfMatch 1 (some .boolean), Cond.methodLink RX9 97 yX9_in, Cond.static yX9_in, Cond.code yX9_in cX9_in 6 (some .boolean), Cond.methodLink RX9 111 yX9_finding, Cond.instanceMethod yX9_finding, Cond.selects RX9 yX9_finding yX9_finding, Cond.code yX9_finding cX9_finding 3 (some .long), Cond.fieldLink RX9 9 "FairQueueModel" "foundMany" "[I", Cond.constantLong RX9 92 (-1000000000), Cond.methodLink RX9 148 yX9_layAside, Cond.instanceMethod yX9_layAside, Cond.selects RX9 yX9_layAside yX9_layAside]
def wsX9_match_r2 : List Cond := [Cond.code yX9_layAside cX9_layAside 2 none, Cond.fieldLink RX9 71 "FairQueueModel" "aside" "[J", Cond.fieldLink RX9 16 "FairQueueModel" "shares" "[J", Cond.methodLink RX9 217 yX9_teamChance, Cond.instanceMethod yX9_teamChance, Cond.selects RX9 yX9_teamChance yX9_teamChance, Cond.code yX9_teamChance cX9_teamChance 6 (some .long), Cond.fieldLink RX9 94 "FairQueueModel" "players" "I", Cond.methodLink RX9 145 yX9_chanceOf, Cond.instanceMethod yX9_chanceOf, Cond.selects RX9 yX9_chanceOf yX9_chanceOf, Cond.code yX9_chanceOf cX9_chanceOf 6 (some .long), Cond.constantLong RX9 143 (1000000), Cond.methodLink RX9 139 yX9_chanceAt, Cond.instanceMethod yX9_chanceAt, Cond.selects RX9 yX9_chanceAt yX9_chanceAt, Cond.code yX9_chanceAt cX9_chanceAt 7 (some .long), Cond.constantLong RX9 133 (1000), Cond.methodLink RX9 135 yX9_ones, Cond.static yX9_ones, Cond.code yX9_ones cX9_ones 3 (some .int)]
def wsX9_match : List Cond := .code yX9_match cX9_match 3 (some .long) :: ((wsX9_match_r1 ++ wsX9_match_r2) ++ wsX90)
def wsX9_undoubted : List Cond := .code yX9_undoubted cX9_undoubted 4 (some .int) :: ([.fieldLink RX9 94 "FairQueueModel" "players" "I", .fieldLink RX9 13 "FairQueueModel" "kindOf" "[I"] ++ wsX90)
def wsX9_keepSurprise : List Cond := .code yX9_keepSurprise cX9_keepSurprise 5 none :: ([.fieldLink RX9 23 "FairQueueModel" "surpriseMany" "[I", .fieldLink RX9 20 "FairQueueModel" "surprises" "[J"] ++ wsX90)
def wsX9_moveTable : List Cond := .code yX9_moveTable cX9_moveTable 12 none :: ([.constantLong RX9 143 (1000000), .fieldLink RX9 86 "FairQueueModel" "weighed" "[J", .fieldLink RX9 16 "FairQueueModel" "shares" "[J", .methodLink RX9 139 yX9_chanceAt, .instanceMethod yX9_chanceAt, .selects RX9 yX9_chanceAt yX9_chanceAt, .initialized RX9, .code yX9_chanceAt cX9_chanceAt 7 (some .long), .fieldLink RX9 94 "FairQueueModel" "players" "I", .fieldLink RX9 71 "FairQueueModel" "aside" "[J", .constantLong RX9 133 (1000), .methodLink RX9 135 yX9_ones, .static yX9_ones, .code yX9_ones cX9_ones 3 (some .int)] ++ wsX90)
def wsX9_takeResult_r1 : List Cond := [Cond.constantLong RX9 223 (500000), Cond.fieldLink RX9 13 "FairQueueModel" "kindOf" "[I", Cond.methodLink RX9 220 yX9_undoubted, Cond.instanceMethod yX9_undoubted, Cond.selects RX9 yX9_undoubted yX9_undoubted, Cond.initialized RX9, Cond.code yX9_undoubted cX9_undoubted 4 (some .int), Cond.fieldLink RX9 94 "FairQueueModel" "players" "I", Cond.methodLink RX9 145 yX9_chanceOf, Cond.instanceMethod yX9_chanceOf, Cond.selects RX9 yX9_chanceOf yX9_chanceOf, Cond.code yX9_chanceOf cX9_chanceOf 6 (some .long), Cond.fieldLink RX9 71 "FairQueueModel" "aside" "[J", Cond.constantLong RX9 143 (1000000), Cond.methodLink RX9 139 yX9_chanceAt, Cond.instanceMethod yX9_chanceAt, Cond.selects RX9 yX9_chanceAt yX9_chanceAt, Cond.code yX9_chanceAt cX9_chanceAt 7 (some .long), Cond.constantLong RX9 133 (1000), Cond.methodLink RX9 135 yX9_ones, Cond.static yX9_ones, Cond.code yX9_ones cX9_ones 3 (some .int), Cond.methodLink RX9 225 yX9_keepSurprise, Cond.instanceMethod yX9_keepSurprise]
def wsX9_takeResult_r2 : List Cond := [Cond.selects RX9 yX9_keepSurprise yX9_keepSurprise, Cond.code yX9_keepSurprise cX9_keepSurprise 5 none, Cond.fieldLink RX9 23 "FairQueueModel" "surpriseMany" "[I", Cond.fieldLink RX9 20 "FairQueueModel" "surprises" "[J", Cond.methodLink RX9 229 yX9_moveTable, Cond.instanceMethod yX9_moveTable, Cond.selects RX9 yX9_moveTable yX9_moveTable, Cond.code yX9_moveTable cX9_moveTable 12 none, Cond.fieldLink RX9 86 "FairQueueModel" "weighed" "[J", Cond.fieldLink RX9 16 "FairQueueModel" "shares" "[J"]
def wsX9_takeResult : List Cond := .code yX9_takeResult cX9_takeResult 5 (some .boolean) :: ((wsX9_takeResult_r1 ++ wsX9_takeResult_r2) ++ wsX90)
def wsX9_endMatch_r1 : List Cond := [Cond.fieldLink RX9 94 "FairQueueModel" "players" "I", Cond.fieldLink RX9 52 "FairQueueModel" "firstOf" "[I", Cond.fieldLink RX9 55 "FairQueueModel" "secondOf" "[I", Cond.fieldLink RX9 58 "FairQueueModel" "dropped" "[I", Cond.fieldLink RX9 48 "FairQueueModel" "goesOn" "[Z", Cond.fieldLink RX9 237 "FairQueueModel" "ended" "I", Cond.methodLink RX9 148 yX9_layAside, Cond.instanceMethod yX9_layAside, Cond.selects RX9 yX9_layAside yX9_layAside, Cond.initialized RX9, Cond.code yX9_layAside cX9_layAside 2 none, Cond.fieldLink RX9 71 "FairQueueModel" "aside" "[J", Cond.fieldLink RX9 16 "FairQueueModel" "shares" "[J", Cond.methodLink RX9 233 yX9_takeResult, Cond.instanceMethod yX9_takeResult, Cond.selects RX9 yX9_takeResult yX9_takeResult, Cond.code yX9_takeResult cX9_takeResult 5 (some .boolean), Cond.constantLong RX9 223 (500000), Cond.fieldLink RX9 13 "FairQueueModel" "kindOf" "[I", Cond.methodLink RX9 220 yX9_undoubted, Cond.instanceMethod yX9_undoubted, Cond.selects RX9 yX9_undoubted yX9_undoubted, Cond.code yX9_undoubted cX9_undoubted 4 (some .int), Cond.methodLink RX9 145 yX9_chanceOf]
def wsX9_endMatch_r2 : List Cond := [Cond.instanceMethod yX9_chanceOf, Cond.selects RX9 yX9_chanceOf yX9_chanceOf, Cond.code yX9_chanceOf cX9_chanceOf 6 (some .long), Cond.constantLong RX9 143 (1000000), Cond.methodLink RX9 139 yX9_chanceAt, Cond.instanceMethod yX9_chanceAt, Cond.selects RX9 yX9_chanceAt yX9_chanceAt, Cond.code yX9_chanceAt cX9_chanceAt 7 (some .long), Cond.constantLong RX9 133 (1000), Cond.methodLink RX9 135 yX9_ones, Cond.static yX9_ones, Cond.code yX9_ones cX9_ones 3 (some .int), Cond.methodLink RX9 225 yX9_keepSurprise, Cond.instanceMethod yX9_keepSurprise, Cond.selects RX9 yX9_keepSurprise yX9_keepSurprise, Cond.code yX9_keepSurprise cX9_keepSurprise 5 none, Cond.fieldLink RX9 23 "FairQueueModel" "surpriseMany" "[I", Cond.fieldLink RX9 20 "FairQueueModel" "surprises" "[J", Cond.methodLink RX9 229 yX9_moveTable, Cond.instanceMethod yX9_moveTable, Cond.selects RX9 yX9_moveTable yX9_moveTable, Cond.code yX9_moveTable cX9_moveTable 12 none, Cond.fieldLink RX9 86 "FairQueueModel" "weighed" "[J"]
def wsX9_endMatch : List Cond := .code yX9_endMatch cX9_endMatch 7 (some .int) :: ((wsX9_endMatch_r1 ++ wsX9_endMatch_r2) ++ wsX90)
def wsX9_end_r1 : List Cond := [Cond.constantLong RX9 107 (2), Cond.constantLong RX9 109 (-1000000001), Cond.fieldLink RX9 48 "FairQueueModel" "goesOn" "[Z", Cond.constantLong RX9 173 (-1000000002), Cond.methodLink RX9 214 yX9_isPlaceOfMatch, Cond.static yX9_isPlaceOfMatch, Cond.initialized RX9, Cond.code yX9_isPlaceOfMatch cX9_isPlaceOfMatch 1 (some .boolean), Cond.constantLong RX9 212 (4), Cond.methodLink RX9 97 yX9_in, Cond.static yX9_in, Cond.code yX9_in cX9_in 6 (some .boolean), Cond.methodLink RX9 111 yX9_finding, Cond.instanceMethod yX9_finding, Cond.selects RX9 yX9_finding yX9_finding, Cond.code yX9_finding cX9_finding 3 (some .long), Cond.fieldLink RX9 9 "FairQueueModel" "foundMany" "[I", Cond.constantLong RX9 92 (-1000000000), Cond.methodLink RX9 240 yX9_endMatch, Cond.instanceMethod yX9_endMatch, Cond.selects RX9 yX9_endMatch yX9_endMatch, Cond.code yX9_endMatch cX9_endMatch 7 (some .int), Cond.fieldLink RX9 94 "FairQueueModel" "players" "I", Cond.fieldLink RX9 52 "FairQueueModel" "firstOf" "[I"]
def wsX9_end_r2 : List Cond := [Cond.fieldLink RX9 55 "FairQueueModel" "secondOf" "[I", Cond.fieldLink RX9 58 "FairQueueModel" "dropped" "[I", Cond.fieldLink RX9 237 "FairQueueModel" "ended" "I", Cond.methodLink RX9 148 yX9_layAside, Cond.instanceMethod yX9_layAside, Cond.selects RX9 yX9_layAside yX9_layAside, Cond.code yX9_layAside cX9_layAside 2 none, Cond.fieldLink RX9 71 "FairQueueModel" "aside" "[J", Cond.fieldLink RX9 16 "FairQueueModel" "shares" "[J", Cond.methodLink RX9 233 yX9_takeResult, Cond.instanceMethod yX9_takeResult, Cond.selects RX9 yX9_takeResult yX9_takeResult, Cond.code yX9_takeResult cX9_takeResult 5 (some .boolean), Cond.constantLong RX9 223 (500000), Cond.fieldLink RX9 13 "FairQueueModel" "kindOf" "[I", Cond.methodLink RX9 220 yX9_undoubted, Cond.instanceMethod yX9_undoubted, Cond.selects RX9 yX9_undoubted yX9_undoubted, Cond.code yX9_undoubted cX9_undoubted 4 (some .int), Cond.methodLink RX9 145 yX9_chanceOf, Cond.instanceMethod yX9_chanceOf, Cond.selects RX9 yX9_chanceOf yX9_chanceOf, Cond.code yX9_chanceOf cX9_chanceOf 6 (some .long), Cond.constantLong RX9 143 (1000000)]
def wsX9_end_r3 : List Cond := [Cond.methodLink RX9 139 yX9_chanceAt, Cond.instanceMethod yX9_chanceAt, Cond.selects RX9 yX9_chanceAt yX9_chanceAt, Cond.code yX9_chanceAt cX9_chanceAt 7 (some .long), Cond.constantLong RX9 133 (1000), Cond.methodLink RX9 135 yX9_ones, Cond.static yX9_ones, Cond.code yX9_ones cX9_ones 3 (some .int), Cond.methodLink RX9 225 yX9_keepSurprise, Cond.instanceMethod yX9_keepSurprise, Cond.selects RX9 yX9_keepSurprise yX9_keepSurprise, Cond.code yX9_keepSurprise cX9_keepSurprise 5 none, Cond.fieldLink RX9 23 "FairQueueModel" "surpriseMany" "[I", Cond.fieldLink RX9 20 "FairQueueModel" "surprises" "[J", Cond.methodLink RX9 229 yX9_moveTable, Cond.instanceMethod yX9_moveTable, Cond.selects RX9 yX9_moveTable yX9_moveTable, Cond.code yX9_moveTable cX9_moveTable 12 none, Cond.fieldLink RX9 86 "FairQueueModel" "weighed" "[J"]
def wsX9_end : List Cond := .code yX9_end cX9_end 3 (some .long) :: ((wsX9_end_r1 ++ (wsX9_end_r2 ++ wsX9_end_r3)) ++ wsX90)
def wsX9_drop_r1 : List Cond := [Cond.constantLong RX9 109 (-1000000001), Cond.constantLong RX9 173 (-1000000002), Cond.fieldLink RX9 52 "FairQueueModel" "firstOf" "[I", Cond.fieldLink RX9 55 "FairQueueModel" "secondOf" "[I", Cond.fieldLink RX9 58 "FairQueueModel" "dropped" "[I", Cond.methodLink RX9 121 yX9_isPlayer, Cond.instanceMethod yX9_isPlayer, Cond.selects RX9 yX9_isPlayer yX9_isPlayer, Cond.initialized RX9, Cond.code yX9_isPlayer cX9_isPlayer 2 (some .boolean), Cond.fieldLink RX9 94 "FairQueueModel" "players" "I", Cond.methodLink RX9 97 yX9_in, Cond.static yX9_in, Cond.code yX9_in cX9_in 6 (some .boolean), Cond.methodLink RX9 111 yX9_finding, Cond.instanceMethod yX9_finding, Cond.selects RX9 yX9_finding yX9_finding, Cond.code yX9_finding cX9_finding 3 (some .long), Cond.fieldLink RX9 9 "FairQueueModel" "foundMany" "[I", Cond.constantLong RX9 92 (-1000000000), Cond.methodLink RX9 167 yX9_matchOf, Cond.instanceMethod yX9_matchOf, Cond.selects RX9 yX9_matchOf yX9_matchOf, Cond.code yX9_matchOf cX9_matchOf 3 (some .int)]
def wsX9_drop_r2 : List Cond := [Cond.fieldLink RX9 48 "FairQueueModel" "goesOn" "[Z", Cond.methodLink RX9 148 yX9_layAside, Cond.instanceMethod yX9_layAside, Cond.selects RX9 yX9_layAside yX9_layAside, Cond.code yX9_layAside cX9_layAside 2 none, Cond.fieldLink RX9 71 "FairQueueModel" "aside" "[J", Cond.fieldLink RX9 16 "FairQueueModel" "shares" "[J", Cond.methodLink RX9 233 yX9_takeResult, Cond.instanceMethod yX9_takeResult, Cond.selects RX9 yX9_takeResult yX9_takeResult, Cond.code yX9_takeResult cX9_takeResult 5 (some .boolean), Cond.constantLong RX9 223 (500000), Cond.fieldLink RX9 13 "FairQueueModel" "kindOf" "[I", Cond.methodLink RX9 220 yX9_undoubted, Cond.instanceMethod yX9_undoubted, Cond.selects RX9 yX9_undoubted yX9_undoubted, Cond.code yX9_undoubted cX9_undoubted 4 (some .int), Cond.methodLink RX9 145 yX9_chanceOf, Cond.instanceMethod yX9_chanceOf, Cond.selects RX9 yX9_chanceOf yX9_chanceOf, Cond.code yX9_chanceOf cX9_chanceOf 6 (some .long), Cond.constantLong RX9 143 (1000000), Cond.methodLink RX9 139 yX9_chanceAt, Cond.instanceMethod yX9_chanceAt]
def wsX9_drop_r3 : List Cond := [Cond.selects RX9 yX9_chanceAt yX9_chanceAt, Cond.code yX9_chanceAt cX9_chanceAt 7 (some .long), Cond.constantLong RX9 133 (1000), Cond.methodLink RX9 135 yX9_ones, Cond.static yX9_ones, Cond.code yX9_ones cX9_ones 3 (some .int), Cond.methodLink RX9 225 yX9_keepSurprise, Cond.instanceMethod yX9_keepSurprise, Cond.selects RX9 yX9_keepSurprise yX9_keepSurprise, Cond.code yX9_keepSurprise cX9_keepSurprise 5 none, Cond.fieldLink RX9 23 "FairQueueModel" "surpriseMany" "[I", Cond.fieldLink RX9 20 "FairQueueModel" "surprises" "[J", Cond.methodLink RX9 229 yX9_moveTable, Cond.instanceMethod yX9_moveTable, Cond.selects RX9 yX9_moveTable yX9_moveTable, Cond.code yX9_moveTable cX9_moveTable 12 none, Cond.fieldLink RX9 86 "FairQueueModel" "weighed" "[J", Cond.methodLink RX9 240 yX9_endMatch, Cond.instanceMethod yX9_endMatch, Cond.selects RX9 yX9_endMatch yX9_endMatch, Cond.code yX9_endMatch cX9_endMatch 7 (some .int), Cond.fieldLink RX9 237 "FairQueueModel" "ended" "I"]
def wsX9_drop : List Cond := .code yX9_drop cX9_drop 7 (some .long) :: ((wsX9_drop_r1 ++ (wsX9_drop_r2 ++ wsX9_drop_r3)) ++ wsX90)
def wsX9_surpriseSum : List Cond := .code yX9_surpriseSum cX9_surpriseSum 5 (some .long) :: ([.fieldLink RX9 23 "FairQueueModel" "surpriseMany" "[I", .fieldLink RX9 20 "FairQueueModel" "surprises" "[J"] ++ wsX90)
def wsX9_surprise : List Cond := .code yX9_surprise cX9_surprise 3 (some .long) :: ([.constantLong RX9 109 (-1000000001), .constantLong RX9 244 (-1), .fieldLink RX9 23 "FairQueueModel" "surpriseMany" "[I", .constantLong RX9 173 (-1000000002), .fieldLink RX9 20 "FairQueueModel" "surprises" "[J", .methodLink RX9 121 yX9_isPlayer, .instanceMethod yX9_isPlayer, .selects RX9 yX9_isPlayer yX9_isPlayer, .initialized RX9, .code yX9_isPlayer cX9_isPlayer 2 (some .boolean), .fieldLink RX9 94 "FairQueueModel" "players" "I", .methodLink RX9 97 yX9_in, .static yX9_in, .code yX9_in cX9_in 6 (some .boolean), .methodLink RX9 111 yX9_finding, .instanceMethod yX9_finding, .selects RX9 yX9_finding yX9_finding, .code yX9_finding cX9_finding 3 (some .long), .fieldLink RX9 9 "FairQueueModel" "foundMany" "[I", .constantLong RX9 92 (-1000000000), .methodLink RX9 246 yX9_surpriseSum, .instanceMethod yX9_surpriseSum, .selects RX9 yX9_surpriseSum yX9_surpriseSum, .code yX9_surpriseSum cX9_surpriseSum 5 (some .long)] ++ wsX90)
def wsX9_sinking : List Cond := .code yX9_sinking cX9_sinking 3 (some .long) :: ([.fieldLink RX9 94 "FairQueueModel" "players" "I", .fieldLink RX9 23 "FairQueueModel" "surpriseMany" "[I", .fieldLink RX9 65 "FairQueueModel" "limit" "I", .methodLink RX9 246 yX9_surpriseSum, .instanceMethod yX9_surpriseSum, .selects RX9 yX9_surpriseSum yX9_surpriseSum, .initialized RX9, .code yX9_surpriseSum cX9_surpriseSum 5 (some .long), .fieldLink RX9 20 "FairQueueModel" "surprises" "[J"] ++ wsX90)
def wsX9_limit : List Cond := .code yX9_limit cX9_limit 3 (some .long) :: ([.constantLong RX9 249 (8000000), .constantLong RX9 109 (-1000000001), .fieldLink RX9 65 "FairQueueModel" "limit" "I", .methodLink RX9 97 yX9_in, .static yX9_in, .initialized RX9, .code yX9_in cX9_in 6 (some .boolean), .methodLink RX9 111 yX9_finding, .instanceMethod yX9_finding, .selects RX9 yX9_finding yX9_finding, .code yX9_finding cX9_finding 3 (some .long), .fieldLink RX9 9 "FairQueueModel" "foundMany" "[I", .constantLong RX9 92 (-1000000000)] ++ wsX90)
def wsX9_tell : List Cond := .code yX9_tell cX9_tell 2 (some .long) :: ([.fieldLink RX9 251 "FairQueueModel" "toldMany" "I", .constantLong RX9 115 (-1000000004), .fieldLink RX9 68 "FairQueueModel" "told" "[I", .methodLink RX9 111 yX9_finding, .instanceMethod yX9_finding, .selects RX9 yX9_finding yX9_finding, .initialized RX9, .code yX9_finding cX9_finding 3 (some .long), .fieldLink RX9 9 "FairQueueModel" "foundMany" "[I", .constantLong RX9 92 (-1000000000)] ++ wsX90)
def wsX9_check_r1 : List Cond := [Cond.fieldLink RX9 251 "FairQueueModel" "toldMany" "I", Cond.fieldLink RX9 202 "FairQueueModel" "planned" "I", Cond.fieldLink RX9 68 "FairQueueModel" "told" "[I", Cond.fieldLink RX9 80 "FairQueueModel" "plannedFirst" "[I", Cond.fieldLink RX9 83 "FairQueueModel" "plannedSecond" "[I", Cond.constantLong RX9 254 (99), Cond.methodLink RX9 209 yX9_plan, Cond.instanceMethod yX9_plan, Cond.selects RX9 yX9_plan yX9_plan, Cond.initialized RX9, Cond.code yX9_plan cX9_plan 5 none, Cond.fieldLink RX9 159 "FairQueueModel" "parties" "I", Cond.fieldLink RX9 185 "FairQueueModel" "bestFirst" "I", Cond.fieldLink RX9 192 "FairQueueModel" "bestSecond" "I", Cond.methodLink RX9 195 yX9_laySets, Cond.instanceMethod yX9_laySets, Cond.selects RX9 yX9_laySets yX9_laySets, Cond.code yX9_laySets cX9_laySets 4 none, Cond.fieldLink RX9 74 "FairQueueModel" "setSize" "[I", Cond.fieldLink RX9 77 "FairQueueModel" "setMean" "[J", Cond.fieldLink RX9 94 "FairQueueModel" "players" "I", Cond.methodLink RX9 182 yX9_playersOf, Cond.instanceMethod yX9_playersOf, Cond.selects RX9 yX9_playersOf yX9_playersOf]
def wsX9_check_r2 : List Cond := [Cond.code yX9_playersOf cX9_playersOf 4 (some .int), Cond.fieldLink RX9 42 "FairQueueModel" "partyBits" "[I", Cond.methodLink RX9 135 yX9_ones, Cond.static yX9_ones, Cond.code yX9_ones cX9_ones 3 (some .int), Cond.methodLink RX9 125 yX9_meanOf, Cond.instanceMethod yX9_meanOf, Cond.selects RX9 yX9_meanOf yX9_meanOf, Cond.code yX9_meanOf cX9_meanOf 5 (some .long), Cond.fieldLink RX9 16 "FairQueueModel" "shares" "[J", Cond.methodLink RX9 205 yX9_playing, Cond.instanceMethod yX9_playing, Cond.selects RX9 yX9_playing yX9_playing, Cond.code yX9_playing cX9_playing 3 (some .int), Cond.fieldLink RX9 48 "FairQueueModel" "goesOn" "[Z", Cond.methodLink RX9 198 yX9_findPairing, Cond.instanceMethod yX9_findPairing, Cond.selects RX9 yX9_findPairing yX9_findPairing, Cond.code yX9_findPairing cX9_findPairing 7 (some .boolean), Cond.fieldLink RX9 26 "FairQueueModel" "teamSize" "I", Cond.fieldLink RX9 188 "FairQueueModel" "bestUneven" "J", Cond.methodLink RX9 179 yX9_boundOf, Cond.instanceMethod yX9_boundOf, Cond.selects RX9 yX9_boundOf yX9_boundOf]
def wsX9_check_r3 : List Cond := [Cond.code yX9_boundOf cX9_boundOf 4 (some .long), Cond.fieldLink RX9 31 "FairQueueModel" "base" "I", Cond.fieldLink RX9 35 "FairQueueModel" "step" "I", Cond.fieldLink RX9 89 "FairQueueModel" "ticks" "I", Cond.fieldLink RX9 45 "FairQueueModel" "partyTick" "[I", Cond.fieldLink RX9 39 "FairQueueModel" "top" "I"]
def wsX9_check : List Cond := .code yX9_check cX9_check 4 (some .long) :: ((wsX9_check_r1 ++ (wsX9_check_r2 ++ wsX9_check_r3)) ++ wsX90)
def wsX9_count : List Cond := .code yX9_count cX9_count 2 (some .long) :: ([.fieldLink RX9 94 "FairQueueModel" "players" "I", .fieldLink RX9 89 "FairQueueModel" "ticks" "I", .fieldLink RX9 159 "FairQueueModel" "parties" "I", .fieldLink RX9 237 "FairQueueModel" "ended" "I", .fieldLink RX9 251 "FairQueueModel" "toldMany" "I", .fieldLink RX9 26 "FairQueueModel" "teamSize" "I", .constantLong RX9 109 (-1000000001), .methodLink RX9 205 yX9_playing, .instanceMethod yX9_playing, .selects RX9 yX9_playing yX9_playing, .initialized RX9, .code yX9_playing cX9_playing 3 (some .int), .fieldLink RX9 48 "FairQueueModel" "goesOn" "[Z", .methodLink RX9 111 yX9_finding, .instanceMethod yX9_finding, .selects RX9 yX9_finding yX9_finding, .code yX9_finding cX9_finding 3 (some .long), .fieldLink RX9 9 "FairQueueModel" "foundMany" "[I", .constantLong RX9 92 (-1000000000)] ++ wsX90)
def wsX9_found : List Cond := .code yX9_found cX9_found 2 (some .long) :: ([.constantLong RX9 256 (5), .fieldLink RX9 9 "FairQueueModel" "foundMany" "[I", .constantLong RX9 109 (-1000000001), .methodLink RX9 97 yX9_in, .static yX9_in, .initialized RX9, .code yX9_in cX9_in 6 (some .boolean), .methodLink RX9 111 yX9_finding, .instanceMethod yX9_finding, .selects RX9 yX9_finding yX9_finding, .code yX9_finding cX9_finding 3 (some .long), .constantLong RX9 92 (-1000000000)] ++ wsX90)
def wsJ9_abs_067f4 : List Cond := .code yJ9_abs_067f4 cJ9_abs_067f4 2 (some .long) :: ([])
def wsJ9_min_7cf53 : List Cond := .code yJ9_min_7cf53 cJ9_min_7cf53 2 (some .int) :: ([])
def wsJ9_min_f86c9 : List Cond := .code yJ9_min_f86c9 cJ9_min_f86c9 4 (some .long) :: ([])
abbrev vwCl : List vw_C := [(RX0, TX0, 3), (RX1, TX1, 4), (RX2, TX2, 2), (RX3, TX3, 6), (RX4, TX4, 3), (RX5, TX5, 5), (RX6, TX6, 3), (RX7, TX7, 3), (RX8, TX8, 13), (RX9, TX9, 33)]
end
section
theorem dX0_init_0 : decode cX0_init 0 = .ok (.aload_n 0, 1) := by decide +kernel
theorem dX0_init_1 : decode cX0_init 1 = .ok (.invokespecial 1, 3) := by decide +kernel
theorem dX0_init_4 : decode cX0_init 4 = .ok (.aload_n 0, 1) := by decide +kernel
theorem dX0_init_5 : decode cX0_init 5 = .ok (.ldc2_w 7, 3) := by decide +kernel
theorem dX0_init_8 : decode cX0_init 8 = .ok (.putfield 9, 3) := by decide +kernel
theorem dX0_init_11 : decode cX0_init 11 = .ok (.aload_n 0, 1) := by decide +kernel
theorem dX0_init_12 : decode cX0_init 12 = .ok (.ldc2_w 15, 3) := by decide +kernel
theorem dX0_init_15 : decode cX0_init 15 = .ok (.putfield 17, 3) := by decide +kernel
theorem dX0_init_18 : decode cX0_init 18 = .ok (.aload_n 0, 1) := by decide +kernel
theorem dX0_init_19 : decode cX0_init 19 = .ok (.ldc2_w 20, 3) := by decide +kernel
theorem dX0_init_22 : decode cX0_init 22 = .ok (.putfield 22, 3) := by decide +kernel
theorem dX0_init_25 : decode cX0_init 25 = .ok (.return_, 1) := by decide +kernel
theorem dX0_behind_0 : decode cX0_behind 0 = .ok (.aload_n 0, 1) := by decide +kernel
theorem dX0_behind_1 : decode cX0_behind 1 = .ok (.getfield 9, 3) := by decide +kernel
theorem dX0_behind_4 : decode cX0_behind 4 = .ok (.aload_n 0, 1) := by decide +kernel
theorem dX0_behind_5 : decode cX0_behind 5 = .ok (.getfield 17, 3) := by decide +kernel
theorem dX0_behind_8 : decode cX0_behind 8 = .ok (.lload_n 1, 1) := by decide +kernel
theorem dX0_behind_9 : decode cX0_behind 9 = .ok (.lmul, 1) := by decide +kernel
theorem dX0_behind_10 : decode cX0_behind 10 = .ok (.ladd, 1) := by decide +kernel
theorem dX0_behind_11 : decode cX0_behind 11 = .ok (.aload_n 0, 1) := by decide +kernel
theorem dX0_behind_12 : decode cX0_behind 12 = .ok (.getfield 22, 3) := by decide +kernel
theorem dX0_behind_15 : decode cX0_behind 15 = .ok (.invokestatic 25, 3) := by decide +kernel
theorem dX0_behind_18 : decode cX0_behind 18 = .ok (.lreturn, 1) := by decide +kernel
theorem dX1_init_0 : decode cX1_init 0 = .ok (.aload_n 0, 1) := by decide +kernel
theorem dX1_init_1 : decode cX1_init 1 = .ok (.invokespecial 3, 3) := by decide +kernel
theorem dX1_init_4 : decode cX1_init 4 = .ok (.aload_n 0, 1) := by decide +kernel
theorem dX1_init_5 : decode cX1_init 5 = .ok (.iconst 0, 1) := by decide +kernel
theorem dX1_init_6 : decode cX1_init 6 = .ok (.putfield 9, 3) := by decide +kernel
theorem dX1_init_9 : decode cX1_init 9 = .ok (.aload_n 0, 1) := by decide +kernel
theorem dX1_init_10 : decode cX1_init 10 = .ok (.iconst 0, 1) := by decide +kernel
theorem dX1_init_11 : decode cX1_init 11 = .ok (.putfield 15, 3) := by decide +kernel
theorem dX1_init_14 : decode cX1_init 14 = .ok (.aload_n 0, 1) := by decide +kernel
theorem dX1_init_15 : decode cX1_init 15 = .ok (.iconst 0, 1) := by decide +kernel
theorem dX1_init_16 : decode cX1_init 16 = .ok (.putfield 18, 3) := by decide +kernel
theorem dX1_init_19 : decode cX1_init 19 = .ok (.aload_n 0, 1) := by decide +kernel
theorem dX1_init_20 : decode cX1_init 20 = .ok (.lconst 0, 1) := by decide +kernel
theorem dX1_init_21 : decode cX1_init 21 = .ok (.putfield 21, 3) := by decide +kernel
theorem dX1_init_24 : decode cX1_init 24 = .ok (.return_, 1) := by decide +kernel
theorem dX1_clear_0 : decode cX1_clear 0 = .ok (.aload_n 0, 1) := by decide +kernel
theorem dX1_clear_1 : decode cX1_clear 1 = .ok (.iconst 0, 1) := by decide +kernel
theorem dX1_clear_2 : decode cX1_clear 2 = .ok (.putfield 9, 3) := by decide +kernel
theorem dX1_clear_5 : decode cX1_clear 5 = .ok (.aload_n 0, 1) := by decide +kernel
theorem dX1_clear_6 : decode cX1_clear 6 = .ok (.iconst 0, 1) := by decide +kernel
theorem dX1_clear_7 : decode cX1_clear 7 = .ok (.putfield 15, 3) := by decide +kernel
theorem dX1_clear_10 : decode cX1_clear 10 = .ok (.aload_n 0, 1) := by decide +kernel
theorem dX1_clear_11 : decode cX1_clear 11 = .ok (.iconst 0, 1) := by decide +kernel
theorem dX1_clear_12 : decode cX1_clear 12 = .ok (.putfield 18, 3) := by decide +kernel
theorem dX1_clear_15 : decode cX1_clear 15 = .ok (.aload_n 0, 1) := by decide +kernel
theorem dX1_clear_16 : decode cX1_clear 16 = .ok (.lconst 0, 1) := by decide +kernel
theorem dX1_clear_17 : decode cX1_clear 17 = .ok (.putfield 21, 3) := by decide +kernel
theorem dX1_clear_20 : decode cX1_clear 20 = .ok (.return_, 1) := by decide +kernel
theorem dX1_goesOn_0 : decode cX1_goesOn 0 = .ok (.aload_n 0, 1) := by decide +kernel
theorem dX1_goesOn_1 : decode cX1_goesOn 1 = .ok (.getfield 9, 3) := by decide +kernel
theorem dX1_goesOn_4 : decode cX1_goesOn 4 = .ok (.ifCond .eq 7, 3) := by decide +kernel
theorem dX1_goesOn_7 : decode cX1_goesOn 7 = .ok (.iconst 1, 1) := by decide +kernel
theorem dX1_goesOn_8 : decode cX1_goesOn 8 = .ok (.goto 4, 3) := by decide +kernel
theorem dX1_goesOn_11 : decode cX1_goesOn 11 = .ok (.iconst 0, 1) := by decide +kernel
theorem dX1_goesOn_12 : decode cX1_goesOn 12 = .ok (.ireturn, 1) := by decide +kernel
theorem dX1_playing_0 : decode cX1_playing 0 = .ok (.aload_n 0, 1) := by decide +kernel
theorem dX1_playing_1 : decode cX1_playing 1 = .ok (.getfield 9, 3) := by decide +kernel
theorem dX1_playing_4 : decode cX1_playing 4 = .ok (.aload_n 0, 1) := by decide +kernel
theorem dX1_playing_5 : decode cX1_playing 5 = .ok (.getfield 15, 3) := by decide +kernel
theorem dX1_playing_8 : decode cX1_playing 8 = .ok (.ior, 1) := by decide +kernel
theorem dX1_playing_9 : decode cX1_playing 9 = .ok (.aload_n 0, 1) := by decide +kernel
theorem dX1_playing_10 : decode cX1_playing 10 = .ok (.getfield 18, 3) := by decide +kernel
theorem dX1_playing_13 : decode cX1_playing 13 = .ok (.iconst (-1), 1) := by decide +kernel
theorem dX1_playing_14 : decode cX1_playing 14 = .ok (.ixor, 1) := by decide +kernel
theorem dX1_playing_15 : decode cX1_playing 15 = .ok (.iand, 1) := by decide +kernel
theorem dX1_playing_16 : decode cX1_playing 16 = .ok (.ireturn, 1) := by decide +kernel
theorem dX1_rivalsOf_0 : decode cX1_rivalsOf 0 = .ok (.aload_n 0, 1) := by decide +kernel
theorem dX1_rivalsOf_1 : decode cX1_rivalsOf 1 = .ok (.getfield 9, 3) := by decide +kernel
theorem dX1_rivalsOf_4 : decode cX1_rivalsOf 4 = .ok (.iload_n 1, 1) := by decide +kernel
theorem dX1_rivalsOf_5 : decode cX1_rivalsOf 5 = .ok (.iand, 1) := by decide +kernel
theorem dX1_rivalsOf_6 : decode cX1_rivalsOf 6 = .ok (.ifCond .eq 10, 3) := by decide +kernel
theorem dX1_rivalsOf_9 : decode cX1_rivalsOf 9 = .ok (.aload_n 0, 1) := by decide +kernel
theorem dX1_rivalsOf_10 : decode cX1_rivalsOf 10 = .ok (.getfield 15, 3) := by decide +kernel
theorem dX1_rivalsOf_13 : decode cX1_rivalsOf 13 = .ok (.goto 7, 3) := by decide +kernel
theorem dX1_rivalsOf_16 : decode cX1_rivalsOf 16 = .ok (.aload_n 0, 1) := by decide +kernel
theorem dX1_rivalsOf_17 : decode cX1_rivalsOf 17 = .ok (.getfield 9, 3) := by decide +kernel
theorem dX1_rivalsOf_20 : decode cX1_rivalsOf 20 = .ok (.ireturn, 1) := by decide +kernel
theorem dX1_isDeserted_0 : decode cX1_isDeserted 0 = .ok (.aload_n 0, 1) := by decide +kernel
theorem dX1_isDeserted_1 : decode cX1_isDeserted 1 = .ok (.getfield 9, 3) := by decide +kernel
theorem dX1_isDeserted_4 : decode cX1_isDeserted 4 = .ok (.aload_n 0, 1) := by decide +kernel
theorem dX1_isDeserted_5 : decode cX1_isDeserted 5 = .ok (.getfield 18, 3) := by decide +kernel
theorem dX1_isDeserted_8 : decode cX1_isDeserted 8 = .ok (.iconst (-1), 1) := by decide +kernel
theorem dX1_isDeserted_9 : decode cX1_isDeserted 9 = .ok (.ixor, 1) := by decide +kernel
theorem dX1_isDeserted_10 : decode cX1_isDeserted 10 = .ok (.iand, 1) := by decide +kernel
theorem dX1_isDeserted_11 : decode cX1_isDeserted 11 = .ok (.ifCond .eq 17, 3) := by decide +kernel
theorem dX1_isDeserted_14 : decode cX1_isDeserted 14 = .ok (.aload_n 0, 1) := by decide +kernel
theorem dX1_isDeserted_15 : decode cX1_isDeserted 15 = .ok (.getfield 15, 3) := by decide +kernel
theorem dX1_isDeserted_18 : decode cX1_isDeserted 18 = .ok (.aload_n 0, 1) := by decide +kernel
theorem dX1_isDeserted_19 : decode cX1_isDeserted 19 = .ok (.getfield 18, 3) := by decide +kernel
theorem dX1_isDeserted_22 : decode cX1_isDeserted 22 = .ok (.iconst (-1), 1) := by decide +kernel
theorem dX1_isDeserted_23 : decode cX1_isDeserted 23 = .ok (.ixor, 1) := by decide +kernel
theorem dX1_isDeserted_24 : decode cX1_isDeserted 24 = .ok (.iand, 1) := by decide +kernel
theorem dX1_isDeserted_25 : decode cX1_isDeserted 25 = .ok (.ifCond .ne 7, 3) := by decide +kernel
theorem dX1_isDeserted_28 : decode cX1_isDeserted 28 = .ok (.iconst 1, 1) := by decide +kernel
theorem dX1_isDeserted_29 : decode cX1_isDeserted 29 = .ok (.goto 4, 3) := by decide +kernel
theorem dX1_isDeserted_32 : decode cX1_isDeserted 32 = .ok (.iconst 0, 1) := by decide +kernel
theorem dX1_isDeserted_33 : decode cX1_isDeserted 33 = .ok (.ireturn, 1) := by decide +kernel
theorem dX1_resultOfDeserted_0 : decode cX1_resultOfDeserted 0 = .ok (.aload_n 0, 1) := by decide +kernel
theorem dX1_resultOfDeserted_1 : decode cX1_resultOfDeserted 1 = .ok (.getfield 9, 3) := by decide +kernel
theorem dX1_resultOfDeserted_4 : decode cX1_resultOfDeserted 4 = .ok (.aload_n 0, 1) := by decide +kernel
theorem dX1_resultOfDeserted_5 : decode cX1_resultOfDeserted 5 = .ok (.getfield 18, 3) := by decide +kernel
theorem dX1_resultOfDeserted_8 : decode cX1_resultOfDeserted 8 = .ok (.iconst (-1), 1) := by decide +kernel
theorem dX1_resultOfDeserted_9 : decode cX1_resultOfDeserted 9 = .ok (.ixor, 1) := by decide +kernel
theorem dX1_resultOfDeserted_10 : decode cX1_resultOfDeserted 10 = .ok (.iand, 1) := by decide +kernel
theorem dX1_resultOfDeserted_11 : decode cX1_resultOfDeserted 11 = .ok (.ifCond .ne 7, 3) := by decide +kernel
theorem dX1_resultOfDeserted_14 : decode cX1_resultOfDeserted 14 = .ok (.iconst 0, 1) := by decide +kernel
theorem dX1_resultOfDeserted_15 : decode cX1_resultOfDeserted 15 = .ok (.goto 4, 3) := by decide +kernel
theorem dX1_resultOfDeserted_18 : decode cX1_resultOfDeserted 18 = .ok (.iconst 2, 1) := by decide +kernel
theorem dX1_resultOfDeserted_19 : decode cX1_resultOfDeserted 19 = .ok (.ireturn, 1) := by decide +kernel
set_option maxRecDepth 20000 in
theorem ggX2_init_X1_init : GoodIn wsX2_init wsX1_init := goodIn_r _ [11, 12, 2, 3, 13, 14, 15, 16, 19, 20, 21, 22] (by decide +kernel) (by decide +kernel)
set_option maxRecDepth 20000 in
theorem gX2_init_X1_init : GoodIn wsX2_init (wsX1_init) := ggX2_init_X1_init
theorem dX2_init_0 : decode cX2_init 0 = .ok (.aload_n 0, 1) := by decide +kernel
theorem dX2_init_1 : decode cX2_init 1 = .ok (.invokespecial 3, 3) := by decide +kernel
theorem dX2_init_4 : decode cX2_init 4 = .ok (.aload_n 0, 1) := by decide +kernel
theorem dX2_init_5 : decode cX2_init 5 = .ok (.iconst 5, 1) := by decide +kernel
theorem dX2_init_6 : decode cX2_init 6 = .ok (.anewarray 9, 3) := by decide +kernel
theorem dX2_init_9 : decode cX2_init 9 = .ok (.putfield 11, 3) := by decide +kernel
theorem dX2_init_12 : decode cX2_init 12 = .ok (.iconst 0, 1) := by decide +kernel
theorem dX2_init_13 : decode cX2_init 13 = .ok (.istore_n 1, 1) := by decide +kernel
theorem dX2_init_14 : decode cX2_init 14 = .ok (.iload_n 1, 1) := by decide +kernel
theorem dX2_init_15 : decode cX2_init 15 = .ok (.aload_n 0, 1) := by decide +kernel
theorem dX2_init_16 : decode cX2_init 16 = .ok (.getfield 11, 3) := by decide +kernel
theorem dX2_init_19 : decode cX2_init 19 = .ok (.arraylength, 1) := by decide +kernel
theorem dX2_init_20 : decode cX2_init 20 = .ok (.if_icmp .ge 22, 3) := by decide +kernel
theorem dX2_init_23 : decode cX2_init 23 = .ok (.aload_n 0, 1) := by decide +kernel
theorem dX2_init_24 : decode cX2_init 24 = .ok (.getfield 11, 3) := by decide +kernel
theorem dX2_init_27 : decode cX2_init 27 = .ok (.iload_n 1, 1) := by decide +kernel
theorem dX2_init_28 : decode cX2_init 28 = .ok (.new 9, 3) := by decide +kernel
theorem dX2_init_31 : decode cX2_init 31 = .ok (.dup, 1) := by decide +kernel
theorem dX2_init_32 : decode cX2_init 32 = .ok (.invokespecial 17, 3) := by decide +kernel
theorem dX2_init_35 : decode cX2_init 35 = .ok (.aastore, 1) := by decide +kernel
theorem dX2_init_36 : decode cX2_init 36 = .ok (.iinc 1 1, 3) := by decide +kernel
theorem dX2_init_39 : decode cX2_init 39 = .ok (.goto (-25), 3) := by decide +kernel
theorem dX2_init_42 : decode cX2_init 42 = .ok (.aload_n 0, 1) := by decide +kernel
theorem dX2_init_43 : decode cX2_init 43 = .ok (.lconst 0, 1) := by decide +kernel
theorem dX2_init_44 : decode cX2_init 44 = .ok (.putfield 18, 3) := by decide +kernel
theorem dX2_init_47 : decode cX2_init 47 = .ok (.return_, 1) := by decide +kernel
theorem dX2_at_0 : decode cX2_at 0 = .ok (.iload_n 1, 1) := by decide +kernel
theorem dX2_at_1 : decode cX2_at 1 = .ok (.ifCond .lt 21, 3) := by decide +kernel
theorem dX2_at_4 : decode cX2_at 4 = .ok (.iload_n 1, 1) := by decide +kernel
theorem dX2_at_5 : decode cX2_at 5 = .ok (.aload_n 0, 1) := by decide +kernel
theorem dX2_at_6 : decode cX2_at 6 = .ok (.getfield 11, 3) := by decide +kernel
theorem dX2_at_9 : decode cX2_at 9 = .ok (.arraylength, 1) := by decide +kernel
theorem dX2_at_10 : decode cX2_at 10 = .ok (.if_icmp .ge 12, 3) := by decide +kernel
theorem dX2_at_13 : decode cX2_at 13 = .ok (.aload_n 0, 1) := by decide +kernel
theorem dX2_at_14 : decode cX2_at 14 = .ok (.getfield 11, 3) := by decide +kernel
theorem dX2_at_17 : decode cX2_at 17 = .ok (.iload_n 1, 1) := by decide +kernel
theorem dX2_at_18 : decode cX2_at 18 = .ok (.aaload, 1) := by decide +kernel
theorem dX2_at_19 : decode cX2_at 19 = .ok (.goto 4, 3) := by decide +kernel
theorem dX2_at_22 : decode cX2_at 22 = .ok (.aconst_null, 1) := by decide +kernel
theorem dX2_at_23 : decode cX2_at 23 = .ok (.areturn, 1) := by decide +kernel
set_option maxRecDepth 20000 in
theorem ggX2_going_X1_goesOn : GoodIn wsX2_going wsX1_goesOn := goodIn_r _ [6, 7, 10, 11, 12, 13] (by decide +kernel) (by decide +kernel)
set_option maxRecDepth 20000 in
theorem gX2_going_X1_goesOn : GoodIn wsX2_going (wsV RX2 22 RX1 yX1_goesOn wsX1_goesOn) := goodIn_app (goodIn_of _ (by decide +kernel)) ggX2_going_X1_goesOn
theorem dX2_going_0 : decode cX2_going 0 = .ok (.iconst 0, 1) := by decide +kernel
theorem dX2_going_1 : decode cX2_going 1 = .ok (.istore_n 1, 1) := by decide +kernel
theorem dX2_going_2 : decode cX2_going 2 = .ok (.iconst 0, 1) := by decide +kernel
theorem dX2_going_3 : decode cX2_going 3 = .ok (.istore_n 2, 1) := by decide +kernel
theorem dX2_going_4 : decode cX2_going 4 = .ok (.iload_n 2, 1) := by decide +kernel
theorem dX2_going_5 : decode cX2_going 5 = .ok (.aload_n 0, 1) := by decide +kernel
theorem dX2_going_6 : decode cX2_going 6 = .ok (.getfield 11, 3) := by decide +kernel
theorem dX2_going_9 : decode cX2_going 9 = .ok (.arraylength, 1) := by decide +kernel
theorem dX2_going_10 : decode cX2_going 10 = .ok (.if_icmp .ge 30, 3) := by decide +kernel
theorem dX2_going_13 : decode cX2_going 13 = .ok (.aload_n 0, 1) := by decide +kernel
theorem dX2_going_14 : decode cX2_going 14 = .ok (.getfield 11, 3) := by decide +kernel
theorem dX2_going_17 : decode cX2_going 17 = .ok (.iload_n 2, 1) := by decide +kernel
theorem dX2_going_18 : decode cX2_going 18 = .ok (.aaload, 1) := by decide +kernel
theorem dX2_going_19 : decode cX2_going 19 = .ok (.astore_n 3, 1) := by decide +kernel
theorem dX2_going_20 : decode cX2_going 20 = .ok (.aload_n 3, 1) := by decide +kernel
theorem dX2_going_21 : decode cX2_going 21 = .ok (.ifnull 13, 3) := by decide +kernel
theorem dX2_going_24 : decode cX2_going 24 = .ok (.aload_n 3, 1) := by decide +kernel
theorem dX2_going_25 : decode cX2_going 25 = .ok (.invokevirtual 22, 3) := by decide +kernel
theorem dX2_going_28 : decode cX2_going 28 = .ok (.ifCond .eq 6, 3) := by decide +kernel
theorem dX2_going_31 : decode cX2_going 31 = .ok (.iinc 1 1, 3) := by decide +kernel
theorem dX2_going_34 : decode cX2_going 34 = .ok (.iinc 2 1, 3) := by decide +kernel
theorem dX2_going_37 : decode cX2_going 37 = .ok (.goto (-33), 3) := by decide +kernel
theorem dX2_going_40 : decode cX2_going 40 = .ok (.iload_n 1, 1) := by decide +kernel
theorem dX2_going_41 : decode cX2_going 41 = .ok (.ireturn, 1) := by decide +kernel
set_option maxRecDepth 20000 in
theorem ggX2_everybody_X1_playing : GoodIn wsX2_everybody wsX1_playing := goodIn_r _ [6, 7, 8, 9, 12, 13, 14, 15] (by decide +kernel) (by decide +kernel)
set_option maxRecDepth 20000 in
theorem gX2_everybody_X1_playing : GoodIn wsX2_everybody (wsV RX2 26 RX1 yX1_playing wsX1_playing) := goodIn_app (goodIn_of _ (by decide +kernel)) ggX2_everybody_X1_playing
theorem dX2_everybody_0 : decode cX2_everybody 0 = .ok (.iconst 0, 1) := by decide +kernel
theorem dX2_everybody_1 : decode cX2_everybody 1 = .ok (.istore_n 1, 1) := by decide +kernel
theorem dX2_everybody_2 : decode cX2_everybody 2 = .ok (.iconst 0, 1) := by decide +kernel
theorem dX2_everybody_3 : decode cX2_everybody 3 = .ok (.istore_n 2, 1) := by decide +kernel
theorem dX2_everybody_4 : decode cX2_everybody 4 = .ok (.iload_n 2, 1) := by decide +kernel
theorem dX2_everybody_5 : decode cX2_everybody 5 = .ok (.aload_n 0, 1) := by decide +kernel
theorem dX2_everybody_6 : decode cX2_everybody 6 = .ok (.getfield 11, 3) := by decide +kernel
theorem dX2_everybody_9 : decode cX2_everybody 9 = .ok (.arraylength, 1) := by decide +kernel
theorem dX2_everybody_10 : decode cX2_everybody 10 = .ok (.if_icmp .ge 27, 3) := by decide +kernel
theorem dX2_everybody_13 : decode cX2_everybody 13 = .ok (.aload_n 0, 1) := by decide +kernel
theorem dX2_everybody_14 : decode cX2_everybody 14 = .ok (.getfield 11, 3) := by decide +kernel
theorem dX2_everybody_17 : decode cX2_everybody 17 = .ok (.iload_n 2, 1) := by decide +kernel
theorem dX2_everybody_18 : decode cX2_everybody 18 = .ok (.aaload, 1) := by decide +kernel
theorem dX2_everybody_19 : decode cX2_everybody 19 = .ok (.astore_n 3, 1) := by decide +kernel
theorem dX2_everybody_20 : decode cX2_everybody 20 = .ok (.aload_n 3, 1) := by decide +kernel
theorem dX2_everybody_21 : decode cX2_everybody 21 = .ok (.ifnull 10, 3) := by decide +kernel
theorem dX2_everybody_24 : decode cX2_everybody 24 = .ok (.iload_n 1, 1) := by decide +kernel
theorem dX2_everybody_25 : decode cX2_everybody 25 = .ok (.aload_n 3, 1) := by decide +kernel
theorem dX2_everybody_26 : decode cX2_everybody 26 = .ok (.invokevirtual 26, 3) := by decide +kernel
theorem dX2_everybody_29 : decode cX2_everybody 29 = .ok (.ior, 1) := by decide +kernel
theorem dX2_everybody_30 : decode cX2_everybody 30 = .ok (.istore_n 1, 1) := by decide +kernel
theorem dX2_everybody_31 : decode cX2_everybody 31 = .ok (.iinc 2 1, 3) := by decide +kernel
theorem dX2_everybody_34 : decode cX2_everybody 34 = .ok (.goto (-30), 3) := by decide +kernel
theorem dX2_everybody_37 : decode cX2_everybody 37 = .ok (.iload_n 1, 1) := by decide +kernel
theorem dX2_everybody_38 : decode cX2_everybody 38 = .ok (.ireturn, 1) := by decide +kernel
set_option maxRecDepth 20000 in
theorem ggX2_withPlayer_X1_playing : GoodIn wsX2_withPlayer wsX1_playing := goodIn_r _ [6, 7, 8, 9, 12, 13, 14, 15] (by decide +kernel) (by decide +kernel)
set_option maxRecDepth 20000 in
theorem gX2_withPlayer_X1_playing : GoodIn wsX2_withPlayer (wsV RX2 26 RX1 yX1_playing wsX1_playing) := goodIn_app (goodIn_of _ (by decide +kernel)) ggX2_withPlayer_X1_playing
theorem dX2_withPlayer_0 : decode cX2_withPlayer 0 = .ok (.iconst 0, 1) := by decide +kernel
theorem dX2_withPlayer_1 : decode cX2_withPlayer 1 = .ok (.istore_n 2, 1) := by decide +kernel
theorem dX2_withPlayer_2 : decode cX2_withPlayer 2 = .ok (.iload_n 2, 1) := by decide +kernel
theorem dX2_withPlayer_3 : decode cX2_withPlayer 3 = .ok (.aload_n 0, 1) := by decide +kernel
theorem dX2_withPlayer_4 : decode cX2_withPlayer 4 = .ok (.getfield 11, 3) := by decide +kernel
theorem dX2_withPlayer_7 : decode cX2_withPlayer 7 = .ok (.arraylength, 1) := by decide +kernel
theorem dX2_withPlayer_8 : decode cX2_withPlayer 8 = .ok (.if_icmp .ge 31, 3) := by decide +kernel
theorem dX2_withPlayer_11 : decode cX2_withPlayer 11 = .ok (.aload_n 0, 1) := by decide +kernel
theorem dX2_withPlayer_12 : decode cX2_withPlayer 12 = .ok (.getfield 11, 3) := by decide +kernel
theorem dX2_withPlayer_15 : decode cX2_withPlayer 15 = .ok (.iload_n 2, 1) := by decide +kernel
theorem dX2_withPlayer_16 : decode cX2_withPlayer 16 = .ok (.aaload, 1) := by decide +kernel
theorem dX2_withPlayer_17 : decode cX2_withPlayer 17 = .ok (.astore_n 3, 1) := by decide +kernel
theorem dX2_withPlayer_18 : decode cX2_withPlayer 18 = .ok (.aload_n 3, 1) := by decide +kernel
theorem dX2_withPlayer_19 : decode cX2_withPlayer 19 = .ok (.ifnull 14, 3) := by decide +kernel
theorem dX2_withPlayer_22 : decode cX2_withPlayer 22 = .ok (.aload_n 3, 1) := by decide +kernel
theorem dX2_withPlayer_23 : decode cX2_withPlayer 23 = .ok (.invokevirtual 26, 3) := by decide +kernel
theorem dX2_withPlayer_26 : decode cX2_withPlayer 26 = .ok (.iload_n 1, 1) := by decide +kernel
theorem dX2_withPlayer_27 : decode cX2_withPlayer 27 = .ok (.iand, 1) := by decide +kernel
theorem dX2_withPlayer_28 : decode cX2_withPlayer 28 = .ok (.ifCond .eq 5, 3) := by decide +kernel
theorem dX2_withPlayer_31 : decode cX2_withPlayer 31 = .ok (.aload_n 3, 1) := by decide +kernel
theorem dX2_withPlayer_32 : decode cX2_withPlayer 32 = .ok (.areturn, 1) := by decide +kernel
theorem dX2_withPlayer_33 : decode cX2_withPlayer 33 = .ok (.iinc 2 1, 3) := by decide +kernel
theorem dX2_withPlayer_36 : decode cX2_withPlayer 36 = .ok (.goto (-34), 3) := by decide +kernel
theorem dX2_withPlayer_39 : decode cX2_withPlayer 39 = .ok (.aconst_null, 1) := by decide +kernel
theorem dX2_withPlayer_40 : decode cX2_withPlayer 40 = .ok (.areturn, 1) := by decide +kernel
set_option maxRecDepth 20000 in
theorem ggX2_begin_X1_goesOn : GoodIn wsX2_begin wsX1_goesOn := goodIn_r _ [10, 11, 14, 15, 16, 17] (by decide +kernel) (by decide +kernel)
set_option maxRecDepth 20000 in
theorem gX2_begin_X1_goesOn : GoodIn wsX2_begin (wsV RX2 22 RX1 yX1_goesOn wsX1_goesOn) := goodIn_app (goodIn_of _ (by decide +kernel)) ggX2_begin_X1_goesOn
theorem dX2_begin_0 : decode cX2_begin 0 = .ok (.iconst 0, 1) := by decide +kernel
theorem dX2_begin_1 : decode cX2_begin 1 = .ok (.istore 5, 2) := by decide +kernel
theorem dX2_begin_3 : decode cX2_begin 3 = .ok (.iload 5, 2) := by decide +kernel
theorem dX2_begin_5 : decode cX2_begin 5 = .ok (.aload_n 0, 1) := by decide +kernel
theorem dX2_begin_6 : decode cX2_begin 6 = .ok (.getfield 11, 3) := by decide +kernel
theorem dX2_begin_9 : decode cX2_begin 9 = .ok (.arraylength, 1) := by decide +kernel
theorem dX2_begin_10 : decode cX2_begin 10 = .ok (.if_icmp .ge 56, 3) := by decide +kernel
theorem dX2_begin_13 : decode cX2_begin 13 = .ok (.aload_n 0, 1) := by decide +kernel
theorem dX2_begin_14 : decode cX2_begin 14 = .ok (.getfield 11, 3) := by decide +kernel
theorem dX2_begin_17 : decode cX2_begin 17 = .ok (.iload 5, 2) := by decide +kernel
theorem dX2_begin_19 : decode cX2_begin 19 = .ok (.aaload, 1) := by decide +kernel
theorem dX2_begin_20 : decode cX2_begin 20 = .ok (.astore 6, 2) := by decide +kernel
theorem dX2_begin_22 : decode cX2_begin 22 = .ok (.aload 6, 2) := by decide +kernel
theorem dX2_begin_24 : decode cX2_begin 24 = .ok (.ifnull 36, 3) := by decide +kernel
theorem dX2_begin_27 : decode cX2_begin 27 = .ok (.aload 6, 2) := by decide +kernel
theorem dX2_begin_29 : decode cX2_begin 29 = .ok (.invokevirtual 22, 3) := by decide +kernel
theorem dX2_begin_32 : decode cX2_begin 32 = .ok (.ifCond .ne 28, 3) := by decide +kernel
theorem dX2_begin_35 : decode cX2_begin 35 = .ok (.aload 6, 2) := by decide +kernel
theorem dX2_begin_37 : decode cX2_begin 37 = .ok (.iload_n 1, 1) := by decide +kernel
theorem dX2_begin_38 : decode cX2_begin 38 = .ok (.putfield 30, 3) := by decide +kernel
theorem dX2_begin_41 : decode cX2_begin 41 = .ok (.aload 6, 2) := by decide +kernel
theorem dX2_begin_43 : decode cX2_begin 43 = .ok (.iload_n 2, 1) := by decide +kernel
theorem dX2_begin_44 : decode cX2_begin 44 = .ok (.putfield 34, 3) := by decide +kernel
theorem dX2_begin_47 : decode cX2_begin 47 = .ok (.aload 6, 2) := by decide +kernel
theorem dX2_begin_49 : decode cX2_begin 49 = .ok (.iconst 0, 1) := by decide +kernel
theorem dX2_begin_50 : decode cX2_begin 50 = .ok (.putfield 37, 3) := by decide +kernel
theorem dX2_begin_53 : decode cX2_begin 53 = .ok (.aload 6, 2) := by decide +kernel
theorem dX2_begin_55 : decode cX2_begin 55 = .ok (.lload_n 3, 1) := by decide +kernel
theorem dX2_begin_56 : decode cX2_begin 56 = .ok (.putfield 40, 3) := by decide +kernel
theorem dX2_begin_59 : decode cX2_begin 59 = .ok (.return_, 1) := by decide +kernel
theorem dX2_begin_60 : decode cX2_begin 60 = .ok (.iinc 5 1, 3) := by decide +kernel
theorem dX2_begin_63 : decode cX2_begin 63 = .ok (.goto (-60), 3) := by decide +kernel
theorem dX2_begin_66 : decode cX2_begin 66 = .ok (.return_, 1) := by decide +kernel
set_option maxRecDepth 20000 in
theorem ggX2_finish_X6_reckonTeam : GoodIn wsX2_finish wsX6_reckonTeam := goodIn_r _ [9, 10, 11, 12, 13, 8, 14, 15, 16, 17, 18, 19, 20, 21, 22, 23, 24, 25, 26, 27, 28, 29, 30, 31, 32, 33, 34, 35, 36, 37, 38, 39, 40, 41, 42, 43, 44, 45, 46, 47, 48, 49, 50, 51, 52, 53, 54, 55, 56, 57, 58, 59, 60, 61, 62, 63, 64, 65, 66, 67, 68, 69, 70, 71, 72, 73, 104, 105, 106, 107, 108, 109, 110, 111] (by decide +kernel) (by decide +kernel)
set_option maxRecDepth 20000 in
theorem gX2_finish_X6_reckonTeam : GoodIn wsX2_finish (wsV RX2 43 RX6 yX6_reckonTeam wsX6_reckonTeam) := goodIn_app (goodIn_of _ (by decide +kernel)) ggX2_finish_X6_reckonTeam
set_option maxRecDepth 20000 in
theorem ggX2_finish_X6_settleTeam : GoodIn wsX2_finish wsX6_settleTeam := goodIn_r _ [77, 10, 11, 12, 13, 8, 14, 15, 16, 17, 18, 78, 79, 80, 51, 81, 63, 62, 104, 105, 106, 107, 108, 109, 110, 111] (by decide +kernel) (by decide +kernel)
set_option maxRecDepth 20000 in
theorem gX2_finish_X6_settleTeam : GoodIn wsX2_finish (wsV RX2 49 RX6 yX6_settleTeam wsX6_settleTeam) := goodIn_app (goodIn_of _ (by decide +kernel)) ggX2_finish_X6_settleTeam
set_option maxRecDepth 20000 in
theorem ggX2_finish_X1_clear : GoodIn wsX2_finish wsX1_clear := goodIn_r _ [86, 87, 88, 89, 90, 98, 99, 100, 101] (by decide +kernel) (by decide +kernel)
set_option maxRecDepth 20000 in
theorem gX2_finish_X1_clear : GoodIn wsX2_finish (wsV RX2 53 RX1 yX1_clear wsX1_clear) := goodIn_app (goodIn_of _ (by decide +kernel)) ggX2_finish_X1_clear
set_option maxRecDepth 20000 in
theorem ggX2_finish_J6_bitCount_0f7a4 : GoodIn wsX2_finish wsJ6_bitCount_0f7a4 := goodIn_r _ [94, 95, 96, 97] (by decide +kernel) (by decide +kernel)
set_option maxRecDepth 20000 in
theorem gX2_finish_J6_bitCount_0f7a4 : GoodIn wsX2_finish (va_wsS RX2 56 yJ6_bitCount_0f7a4 wsJ6_bitCount_0f7a4) := goodIn_app (goodIn_of _ (by decide +kernel)) ggX2_finish_J6_bitCount_0f7a4
theorem dX2_finish_0 : decode cX2_finish 0 = .ok (.aload_n 3, 1) := by decide +kernel
theorem dX2_finish_1 : decode cX2_finish 1 = .ok (.aload_n 1, 1) := by decide +kernel
theorem dX2_finish_2 : decode cX2_finish 2 = .ok (.getfield 30, 3) := by decide +kernel
theorem dX2_finish_5 : decode cX2_finish 5 = .ok (.aload_n 1, 1) := by decide +kernel
theorem dX2_finish_6 : decode cX2_finish 6 = .ok (.getfield 37, 3) := by decide +kernel
theorem dX2_finish_9 : decode cX2_finish 9 = .ok (.iconst (-1), 1) := by decide +kernel
theorem dX2_finish_10 : decode cX2_finish 10 = .ok (.ixor, 1) := by decide +kernel
theorem dX2_finish_11 : decode cX2_finish 11 = .ok (.iand, 1) := by decide +kernel
theorem dX2_finish_12 : decode cX2_finish 12 = .ok (.aload_n 1, 1) := by decide +kernel
theorem dX2_finish_13 : decode cX2_finish 13 = .ok (.getfield 34, 3) := by decide +kernel
theorem dX2_finish_16 : decode cX2_finish 16 = .ok (.iload_n 2, 1) := by decide +kernel
theorem dX2_finish_17 : decode cX2_finish 17 = .ok (.invokevirtual 43, 3) := by decide +kernel
theorem dX2_finish_20 : decode cX2_finish 20 = .ok (.aload_n 3, 1) := by decide +kernel
theorem dX2_finish_21 : decode cX2_finish 21 = .ok (.aload_n 1, 1) := by decide +kernel
theorem dX2_finish_22 : decode cX2_finish 22 = .ok (.getfield 34, 3) := by decide +kernel
theorem dX2_finish_25 : decode cX2_finish 25 = .ok (.aload_n 1, 1) := by decide +kernel
theorem dX2_finish_26 : decode cX2_finish 26 = .ok (.getfield 37, 3) := by decide +kernel
theorem dX2_finish_29 : decode cX2_finish 29 = .ok (.iconst (-1), 1) := by decide +kernel
theorem dX2_finish_30 : decode cX2_finish 30 = .ok (.ixor, 1) := by decide +kernel
theorem dX2_finish_31 : decode cX2_finish 31 = .ok (.iand, 1) := by decide +kernel
theorem dX2_finish_32 : decode cX2_finish 32 = .ok (.aload_n 1, 1) := by decide +kernel
theorem dX2_finish_33 : decode cX2_finish 33 = .ok (.getfield 30, 3) := by decide +kernel
theorem dX2_finish_36 : decode cX2_finish 36 = .ok (.iconst 2, 1) := by decide +kernel
theorem dX2_finish_37 : decode cX2_finish 37 = .ok (.iload_n 2, 1) := by decide +kernel
theorem dX2_finish_38 : decode cX2_finish 38 = .ok (.isub, 1) := by decide +kernel
theorem dX2_finish_39 : decode cX2_finish 39 = .ok (.invokevirtual 43, 3) := by decide +kernel
theorem dX2_finish_42 : decode cX2_finish 42 = .ok (.ior, 1) := by decide +kernel
theorem dX2_finish_43 : decode cX2_finish 43 = .ok (.istore 4, 2) := by decide +kernel
theorem dX2_finish_45 : decode cX2_finish 45 = .ok (.aload_n 3, 1) := by decide +kernel
theorem dX2_finish_46 : decode cX2_finish 46 = .ok (.iload 4, 2) := by decide +kernel
theorem dX2_finish_48 : decode cX2_finish 48 = .ok (.invokevirtual 49, 3) := by decide +kernel
theorem dX2_finish_51 : decode cX2_finish 51 = .ok (.aload_n 1, 1) := by decide +kernel
theorem dX2_finish_52 : decode cX2_finish 52 = .ok (.invokevirtual 53, 3) := by decide +kernel
theorem dX2_finish_55 : decode cX2_finish 55 = .ok (.aload_n 0, 1) := by decide +kernel
theorem dX2_finish_56 : decode cX2_finish 56 = .ok (.dup, 1) := by decide +kernel
theorem dX2_finish_57 : decode cX2_finish 57 = .ok (.getfield 18, 3) := by decide +kernel
theorem dX2_finish_60 : decode cX2_finish 60 = .ok (.lconst 1, 1) := by decide +kernel
theorem dX2_finish_61 : decode cX2_finish 61 = .ok (.ladd, 1) := by decide +kernel
theorem dX2_finish_62 : decode cX2_finish 62 = .ok (.putfield 18, 3) := by decide +kernel
theorem dX2_finish_65 : decode cX2_finish 65 = .ok (.iload 4, 2) := by decide +kernel
theorem dX2_finish_67 : decode cX2_finish 67 = .ok (.invokestatic 56, 3) := by decide +kernel
theorem dX2_finish_70 : decode cX2_finish 70 = .ok (.ireturn, 1) := by decide +kernel
theorem dX3_init_0 : decode cX3_init 0 = .ok (.aload_n 0, 1) := by decide +kernel
theorem dX3_init_1 : decode cX3_init 1 = .ok (.invokespecial 3, 3) := by decide +kernel
theorem dX3_init_4 : decode cX3_init 4 = .ok (.aload_n 0, 1) := by decide +kernel
theorem dX3_init_5 : decode cX3_init 5 = .ok (.sipush 175, 3) := by decide +kernel
theorem dX3_init_8 : decode cX3_init 8 = .ok (.newarray .int, 2) := by decide +kernel
theorem dX3_init_10 : decode cX3_init 10 = .ok (.putfield 9, 3) := by decide +kernel
theorem dX3_init_13 : decode cX3_init 13 = .ok (.aload_n 0, 1) := by decide +kernel
theorem dX3_init_14 : decode cX3_init 14 = .ok (.sipush 175, 3) := by decide +kernel
theorem dX3_init_17 : decode cX3_init 17 = .ok (.newarray .long, 2) := by decide +kernel
theorem dX3_init_19 : decode cX3_init 19 = .ok (.putfield 15, 3) := by decide +kernel
theorem dX3_init_22 : decode cX3_init 22 = .ok (.aload_n 0, 1) := by decide +kernel
theorem dX3_init_23 : decode cX3_init 23 = .ok (.iconst 0, 1) := by decide +kernel
theorem dX3_init_24 : decode cX3_init 24 = .ok (.putfield 19, 3) := by decide +kernel
theorem dX3_init_27 : decode cX3_init 27 = .ok (.aload_n 0, 1) := by decide +kernel
theorem dX3_init_28 : decode cX3_init 28 = .ok (.iconst 0, 1) := by decide +kernel
theorem dX3_init_29 : decode cX3_init 29 = .ok (.putfield 23, 3) := by decide +kernel
theorem dX3_init_32 : decode cX3_init 32 = .ok (.aload_n 0, 1) := by decide +kernel
theorem dX3_init_33 : decode cX3_init 33 = .ok (.iconst 0, 1) := by decide +kernel
theorem dX3_init_34 : decode cX3_init 34 = .ok (.putfield 26, 3) := by decide +kernel
theorem dX3_init_37 : decode cX3_init 37 = .ok (.aload_n 0, 1) := by decide +kernel
theorem dX3_init_38 : decode cX3_init 38 = .ok (.lconst 0, 1) := by decide +kernel
theorem dX3_init_39 : decode cX3_init 39 = .ok (.putfield 29, 3) := by decide +kernel
theorem dX3_init_42 : decode cX3_init 42 = .ok (.return_, 1) := by decide +kernel
set_option maxRecDepth 20000 in
theorem ggX3_gather_J6_bitCount_0f7a4 : GoodIn wsX3_gather wsJ6_bitCount_0f7a4 := goodIn_r _ [10, 11, 12, 13] (by decide +kernel) (by decide +kernel)
set_option maxRecDepth 20000 in
theorem gX3_gather_J6_bitCount_0f7a4 : GoodIn wsX3_gather (va_wsS RX3 44 yJ6_bitCount_0f7a4 wsJ6_bitCount_0f7a4) := goodIn_app (goodIn_of _ (by decide +kernel)) ggX3_gather_J6_bitCount_0f7a4
set_option maxRecDepth 20000 in
theorem ggX3_gather_X7_playersAt : GoodIn wsX3_gather wsX7_playersAt := goodIn_r _ [18, 19, 20, 21, 22, 23, 24, 25, 17, 26, 27, 58, 59, 60] (by decide +kernel) (by decide +kernel)
set_option maxRecDepth 20000 in
theorem gX3_gather_X7_playersAt : GoodIn wsX3_gather (wsV RX3 50 RX7 yX7_playersAt wsX7_playersAt) := goodIn_app (goodIn_of _ (by decide +kernel)) ggX3_gather_X7_playersAt
set_option maxRecDepth 20000 in
theorem ggX3_gather_X6_meansOf : GoodIn wsX3_gather wsX6_meansOf := goodIn_r _ [32, 33, 34, 35, 36, 31, 37, 38, 20, 21, 22, 39, 40, 41, 42, 43, 44, 61, 62, 63, 64, 65, 66, 67, 68] (by decide +kernel) (by decide +kernel)
set_option maxRecDepth 20000 in
theorem gX3_gather_X6_meansOf : GoodIn wsX3_gather (wsV RX3 53 RX6 yX6_meansOf wsX6_meansOf) := goodIn_app (goodIn_of _ (by decide +kernel)) ggX3_gather_X6_meansOf
set_option maxRecDepth 20000 in
theorem ggX3_gather_X3_add : GoodIn wsX3_gather wsX3_add := goodIn_r _ [49, 1, 50, 51, 52, 53, 54, 55, 56, 57] (by decide +kernel) (by decide +kernel)
set_option maxRecDepth 20000 in
theorem gX3_gather_X3_add : GoodIn wsX3_gather (wsV RX3 59 RX3 yX3_add wsX3_add) := goodIn_app (goodIn_of _ (by decide +kernel)) ggX3_gather_X3_add
theorem dX3_gather_0 : decode cX3_gather 0 = .ok (.aload_n 0, 1) := by decide +kernel
theorem dX3_gather_1 : decode cX3_gather 1 = .ok (.iconst 0, 1) := by decide +kernel
theorem dX3_gather_2 : decode cX3_gather 2 = .ok (.putfield 19, 3) := by decide +kernel
theorem dX3_gather_5 : decode cX3_gather 5 = .ok (.iconst 1, 1) := by decide +kernel
theorem dX3_gather_6 : decode cX3_gather 6 = .ok (.aload_n 1, 1) := by decide +kernel
theorem dX3_gather_7 : decode cX3_gather 7 = .ok (.getfield 33, 3) := by decide +kernel
theorem dX3_gather_10 : decode cX3_gather 10 = .ok (.bipush 10, 2) := by decide +kernel
theorem dX3_gather_12 : decode cX3_gather 12 = .ok (.invokestatic 38, 3) := by decide +kernel
theorem dX3_gather_15 : decode cX3_gather 15 = .ok (.ishl, 1) := by decide +kernel
theorem dX3_gather_16 : decode cX3_gather 16 = .ok (.istore 4, 2) := by decide +kernel
theorem dX3_gather_18 : decode cX3_gather 18 = .ok (.iconst 1, 1) := by decide +kernel
theorem dX3_gather_19 : decode cX3_gather 19 = .ok (.istore 5, 2) := by decide +kernel
theorem dX3_gather_21 : decode cX3_gather 21 = .ok (.iload 5, 2) := by decide +kernel
theorem dX3_gather_23 : decode cX3_gather 23 = .ok (.iload 4, 2) := by decide +kernel
theorem dX3_gather_25 : decode cX3_gather 25 = .ok (.if_icmp .ge 47, 3) := by decide +kernel
theorem dX3_gather_28 : decode cX3_gather 28 = .ok (.iload 5, 2) := by decide +kernel
theorem dX3_gather_30 : decode cX3_gather 30 = .ok (.invokestatic 44, 3) := by decide +kernel
theorem dX3_gather_33 : decode cX3_gather 33 = .ok (.iload_n 3, 1) := by decide +kernel
theorem dX3_gather_34 : decode cX3_gather 34 = .ok (.if_icmp .gt 32, 3) := by decide +kernel
theorem dX3_gather_37 : decode cX3_gather 37 = .ok (.aload_n 1, 1) := by decide +kernel
theorem dX3_gather_38 : decode cX3_gather 38 = .ok (.iload 5, 2) := by decide +kernel
theorem dX3_gather_40 : decode cX3_gather 40 = .ok (.invokevirtual 50, 3) := by decide +kernel
theorem dX3_gather_43 : decode cX3_gather 43 = .ok (.istore 6, 2) := by decide +kernel
theorem dX3_gather_45 : decode cX3_gather 45 = .ok (.iload 6, 2) := by decide +kernel
theorem dX3_gather_47 : decode cX3_gather 47 = .ok (.invokestatic 44, 3) := by decide +kernel
theorem dX3_gather_50 : decode cX3_gather 50 = .ok (.iload_n 3, 1) := by decide +kernel
theorem dX3_gather_51 : decode cX3_gather 51 = .ok (.if_icmp .ne 15, 3) := by decide +kernel
theorem dX3_gather_54 : decode cX3_gather 54 = .ok (.aload_n 0, 1) := by decide +kernel
theorem dX3_gather_55 : decode cX3_gather 55 = .ok (.iload 5, 2) := by decide +kernel
theorem dX3_gather_57 : decode cX3_gather 57 = .ok (.aload_n 2, 1) := by decide +kernel
theorem dX3_gather_58 : decode cX3_gather 58 = .ok (.iload 6, 2) := by decide +kernel
theorem dX3_gather_60 : decode cX3_gather 60 = .ok (.invokevirtual 53, 3) := by decide +kernel
theorem dX3_gather_63 : decode cX3_gather 63 = .ok (.invokevirtual 59, 3) := by decide +kernel
theorem dX3_gather_66 : decode cX3_gather 66 = .ok (.iinc 5 1, 3) := by decide +kernel
theorem dX3_gather_69 : decode cX3_gather 69 = .ok (.goto (-48), 3) := by decide +kernel
theorem dX3_gather_72 : decode cX3_gather 72 = .ok (.return_, 1) := by decide +kernel
theorem dX3_add_0 : decode cX3_add 0 = .ok (.aload_n 0, 1) := by decide +kernel
theorem dX3_add_1 : decode cX3_add 1 = .ok (.getfield 19, 3) := by decide +kernel
theorem dX3_add_4 : decode cX3_add 4 = .ok (.ifCond .lt 57, 3) := by decide +kernel
theorem dX3_add_7 : decode cX3_add 7 = .ok (.aload_n 0, 1) := by decide +kernel
theorem dX3_add_8 : decode cX3_add 8 = .ok (.getfield 19, 3) := by decide +kernel
theorem dX3_add_11 : decode cX3_add 11 = .ok (.aload_n 0, 1) := by decide +kernel
theorem dX3_add_12 : decode cX3_add 12 = .ok (.getfield 9, 3) := by decide +kernel
theorem dX3_add_15 : decode cX3_add 15 = .ok (.arraylength, 1) := by decide +kernel
theorem dX3_add_16 : decode cX3_add 16 = .ok (.if_icmp .ge 45, 3) := by decide +kernel
theorem dX3_add_19 : decode cX3_add 19 = .ok (.aload_n 0, 1) := by decide +kernel
theorem dX3_add_20 : decode cX3_add 20 = .ok (.getfield 19, 3) := by decide +kernel
theorem dX3_add_23 : decode cX3_add 23 = .ok (.aload_n 0, 1) := by decide +kernel
theorem dX3_add_24 : decode cX3_add 24 = .ok (.getfield 15, 3) := by decide +kernel
theorem dX3_add_27 : decode cX3_add 27 = .ok (.arraylength, 1) := by decide +kernel
theorem dX3_add_28 : decode cX3_add 28 = .ok (.if_icmp .ge 33, 3) := by decide +kernel
theorem dX3_add_31 : decode cX3_add 31 = .ok (.aload_n 0, 1) := by decide +kernel
theorem dX3_add_32 : decode cX3_add 32 = .ok (.getfield 9, 3) := by decide +kernel
theorem dX3_add_35 : decode cX3_add 35 = .ok (.aload_n 0, 1) := by decide +kernel
theorem dX3_add_36 : decode cX3_add 36 = .ok (.getfield 19, 3) := by decide +kernel
theorem dX3_add_39 : decode cX3_add 39 = .ok (.iload_n 1, 1) := by decide +kernel
theorem dX3_add_40 : decode cX3_add 40 = .ok (.iastore, 1) := by decide +kernel
theorem dX3_add_41 : decode cX3_add 41 = .ok (.aload_n 0, 1) := by decide +kernel
theorem dX3_add_42 : decode cX3_add 42 = .ok (.getfield 15, 3) := by decide +kernel
theorem dX3_add_45 : decode cX3_add 45 = .ok (.aload_n 0, 1) := by decide +kernel
theorem dX3_add_46 : decode cX3_add 46 = .ok (.getfield 19, 3) := by decide +kernel
theorem dX3_add_49 : decode cX3_add 49 = .ok (.lload_n 2, 1) := by decide +kernel
theorem dX3_add_50 : decode cX3_add 50 = .ok (.lastore, 1) := by decide +kernel
theorem dX3_add_51 : decode cX3_add 51 = .ok (.aload_n 0, 1) := by decide +kernel
theorem dX3_add_52 : decode cX3_add 52 = .ok (.dup, 1) := by decide +kernel
theorem dX3_add_53 : decode cX3_add 53 = .ok (.getfield 19, 3) := by decide +kernel
theorem dX3_add_56 : decode cX3_add 56 = .ok (.iconst 1, 1) := by decide +kernel
theorem dX3_add_57 : decode cX3_add 57 = .ok (.iadd, 1) := by decide +kernel
theorem dX3_add_58 : decode cX3_add 58 = .ok (.putfield 19, 3) := by decide +kernel
theorem dX3_add_61 : decode cX3_add 61 = .ok (.return_, 1) := by decide +kernel
set_option maxRecDepth 20000 in
theorem ggX3_seek_X8_hasBit : GoodIn wsX3_seek wsX8_hasBit := goodIn_r _ [8] (by decide +kernel) (by decide +kernel)
set_option maxRecDepth 20000 in
theorem gX3_seek_X8_hasBit_n63 : GoodIn wsX3_seek (wsX8_hasBit) := ggX3_seek_X8_hasBit
set_option maxRecDepth 20000 in
theorem ggX3_seek_X3_seekSecond : GoodIn wsX3_seek wsX3_seekSecond := goodIn_r _ [13, 5, 14, 4, 15, 16, 17, 18, 1, 3, 2, 19, 20, 21, 22, 23, 24] (by decide +kernel) (by decide +kernel)
set_option maxRecDepth 20000 in
theorem gX3_seek_X3_seekSecond : GoodIn wsX3_seek (wsV RX3 67 RX3 yX3_seekSecond wsX3_seekSecond) := goodIn_app (goodIn_of _ (by decide +kernel)) ggX3_seek_X3_seekSecond
theorem dX3_seek_0 : decode cX3_seek 0 = .ok (.aload_n 0, 1) := by decide +kernel
theorem dX3_seek_1 : decode cX3_seek 1 = .ok (.iconst 0, 1) := by decide +kernel
theorem dX3_seek_2 : decode cX3_seek 2 = .ok (.putfield 23, 3) := by decide +kernel
theorem dX3_seek_5 : decode cX3_seek 5 = .ok (.aload_n 0, 1) := by decide +kernel
theorem dX3_seek_6 : decode cX3_seek 6 = .ok (.iconst 0, 1) := by decide +kernel
theorem dX3_seek_7 : decode cX3_seek 7 = .ok (.putfield 26, 3) := by decide +kernel
theorem dX3_seek_10 : decode cX3_seek 10 = .ok (.aload_n 0, 1) := by decide +kernel
theorem dX3_seek_11 : decode cX3_seek 11 = .ok (.lconst 0, 1) := by decide +kernel
theorem dX3_seek_12 : decode cX3_seek 12 = .ok (.putfield 29, 3) := by decide +kernel
theorem dX3_seek_15 : decode cX3_seek 15 = .ok (.iconst 0, 1) := by decide +kernel
theorem dX3_seek_16 : decode cX3_seek 16 = .ok (.istore_n 2, 1) := by decide +kernel
theorem dX3_seek_17 : decode cX3_seek 17 = .ok (.iload_n 2, 1) := by decide +kernel
theorem dX3_seek_18 : decode cX3_seek 18 = .ok (.aload_n 0, 1) := by decide +kernel
theorem dX3_seek_19 : decode cX3_seek 19 = .ok (.getfield 19, 3) := by decide +kernel
theorem dX3_seek_22 : decode cX3_seek 22 = .ok (.if_icmp .ge 36, 3) := by decide +kernel
theorem dX3_seek_25 : decode cX3_seek 25 = .ok (.iload_n 2, 1) := by decide +kernel
theorem dX3_seek_26 : decode cX3_seek 26 = .ok (.aload_n 0, 1) := by decide +kernel
theorem dX3_seek_27 : decode cX3_seek 27 = .ok (.getfield 9, 3) := by decide +kernel
theorem dX3_seek_30 : decode cX3_seek 30 = .ok (.arraylength, 1) := by decide +kernel
theorem dX3_seek_31 : decode cX3_seek 31 = .ok (.if_icmp .ge 27, 3) := by decide +kernel
theorem dX3_seek_34 : decode cX3_seek 34 = .ok (.aload_n 0, 1) := by decide +kernel
theorem dX3_seek_35 : decode cX3_seek 35 = .ok (.getfield 9, 3) := by decide +kernel
theorem dX3_seek_38 : decode cX3_seek 38 = .ok (.iload_n 2, 1) := by decide +kernel
theorem dX3_seek_39 : decode cX3_seek 39 = .ok (.iaload, 1) := by decide +kernel
theorem dX3_seek_40 : decode cX3_seek 40 = .ok (.iload_n 1, 1) := by decide +kernel
theorem dX3_seek_41 : decode cX3_seek 41 = .ok (.invokestatic 63, 3) := by decide +kernel
theorem dX3_seek_44 : decode cX3_seek 44 = .ok (.ifCond .eq 8, 3) := by decide +kernel
theorem dX3_seek_47 : decode cX3_seek 47 = .ok (.aload_n 0, 1) := by decide +kernel
theorem dX3_seek_48 : decode cX3_seek 48 = .ok (.iload_n 2, 1) := by decide +kernel
theorem dX3_seek_49 : decode cX3_seek 49 = .ok (.invokevirtual 67, 3) := by decide +kernel
theorem dX3_seek_52 : decode cX3_seek 52 = .ok (.iinc 2 1, 3) := by decide +kernel
theorem dX3_seek_55 : decode cX3_seek 55 = .ok (.goto (-38), 3) := by decide +kernel
theorem dX3_seek_58 : decode cX3_seek 58 = .ok (.aload_n 0, 1) := by decide +kernel
theorem dX3_seek_59 : decode cX3_seek 59 = .ok (.getfield 23, 3) := by decide +kernel
theorem dX3_seek_62 : decode cX3_seek 62 = .ok (.ifCond .eq 7, 3) := by decide +kernel
theorem dX3_seek_65 : decode cX3_seek 65 = .ok (.iconst 1, 1) := by decide +kernel
theorem dX3_seek_66 : decode cX3_seek 66 = .ok (.goto 4, 3) := by decide +kernel
theorem dX3_seek_69 : decode cX3_seek 69 = .ok (.iconst 0, 1) := by decide +kernel
theorem dX3_seek_70 : decode cX3_seek 70 = .ok (.ireturn, 1) := by decide +kernel
theorem dX3_seekSecond_0 : decode cX3_seekSecond 0 = .ok (.iload_n 1, 1) := by decide +kernel
theorem dX3_seekSecond_1 : decode cX3_seekSecond 1 = .ok (.ifCond .lt 21, 3) := by decide +kernel
theorem dX3_seekSecond_4 : decode cX3_seekSecond 4 = .ok (.iload_n 1, 1) := by decide +kernel
theorem dX3_seekSecond_5 : decode cX3_seekSecond 5 = .ok (.aload_n 0, 1) := by decide +kernel
theorem dX3_seekSecond_6 : decode cX3_seekSecond 6 = .ok (.getfield 9, 3) := by decide +kernel
theorem dX3_seekSecond_9 : decode cX3_seekSecond 9 = .ok (.arraylength, 1) := by decide +kernel
theorem dX3_seekSecond_10 : decode cX3_seekSecond 10 = .ok (.if_icmp .ge 12, 3) := by decide +kernel
theorem dX3_seekSecond_13 : decode cX3_seekSecond 13 = .ok (.iload_n 1, 1) := by decide +kernel
theorem dX3_seekSecond_14 : decode cX3_seekSecond 14 = .ok (.aload_n 0, 1) := by decide +kernel
theorem dX3_seekSecond_15 : decode cX3_seekSecond 15 = .ok (.getfield 15, 3) := by decide +kernel
theorem dX3_seekSecond_18 : decode cX3_seekSecond 18 = .ok (.arraylength, 1) := by decide +kernel
theorem dX3_seekSecond_19 : decode cX3_seekSecond 19 = .ok (.if_icmp .lt 4, 3) := by decide +kernel
theorem dX3_seekSecond_22 : decode cX3_seekSecond 22 = .ok (.return_, 1) := by decide +kernel
theorem dX3_seekSecond_23 : decode cX3_seekSecond 23 = .ok (.iconst 0, 1) := by decide +kernel
theorem dX3_seekSecond_24 : decode cX3_seekSecond 24 = .ok (.istore_n 2, 1) := by decide +kernel
theorem dX3_seekSecond_25 : decode cX3_seekSecond 25 = .ok (.iload_n 2, 1) := by decide +kernel
theorem dX3_seekSecond_26 : decode cX3_seekSecond 26 = .ok (.aload_n 0, 1) := by decide +kernel
theorem dX3_seekSecond_27 : decode cX3_seekSecond 27 = .ok (.getfield 19, 3) := by decide +kernel
theorem dX3_seekSecond_30 : decode cX3_seekSecond 30 = .ok (.if_icmp .ge 101, 3) := by decide +kernel
theorem dX3_seekSecond_33 : decode cX3_seekSecond 33 = .ok (.iload_n 2, 1) := by decide +kernel
theorem dX3_seekSecond_34 : decode cX3_seekSecond 34 = .ok (.aload_n 0, 1) := by decide +kernel
theorem dX3_seekSecond_35 : decode cX3_seekSecond 35 = .ok (.getfield 9, 3) := by decide +kernel
theorem dX3_seekSecond_38 : decode cX3_seekSecond 38 = .ok (.arraylength, 1) := by decide +kernel
theorem dX3_seekSecond_39 : decode cX3_seekSecond 39 = .ok (.if_icmp .ge 92, 3) := by decide +kernel
theorem dX3_seekSecond_42 : decode cX3_seekSecond 42 = .ok (.iload_n 2, 1) := by decide +kernel
theorem dX3_seekSecond_43 : decode cX3_seekSecond 43 = .ok (.aload_n 0, 1) := by decide +kernel
theorem dX3_seekSecond_44 : decode cX3_seekSecond 44 = .ok (.getfield 15, 3) := by decide +kernel
theorem dX3_seekSecond_47 : decode cX3_seekSecond 47 = .ok (.arraylength, 1) := by decide +kernel
theorem dX3_seekSecond_48 : decode cX3_seekSecond 48 = .ok (.if_icmp .ge 83, 3) := by decide +kernel
theorem dX3_seekSecond_51 : decode cX3_seekSecond 51 = .ok (.aload_n 0, 1) := by decide +kernel
theorem dX3_seekSecond_52 : decode cX3_seekSecond 52 = .ok (.getfield 9, 3) := by decide +kernel
theorem dX3_seekSecond_55 : decode cX3_seekSecond 55 = .ok (.iload_n 1, 1) := by decide +kernel
theorem dX3_seekSecond_56 : decode cX3_seekSecond 56 = .ok (.iaload, 1) := by decide +kernel
theorem dX3_seekSecond_57 : decode cX3_seekSecond 57 = .ok (.aload_n 0, 1) := by decide +kernel
theorem dX3_seekSecond_58 : decode cX3_seekSecond 58 = .ok (.getfield 9, 3) := by decide +kernel
theorem dX3_seekSecond_61 : decode cX3_seekSecond 61 = .ok (.iload_n 2, 1) := by decide +kernel
theorem dX3_seekSecond_62 : decode cX3_seekSecond 62 = .ok (.iaload, 1) := by decide +kernel
theorem dX3_seekSecond_63 : decode cX3_seekSecond 63 = .ok (.iand, 1) := by decide +kernel
theorem dX3_seekSecond_64 : decode cX3_seekSecond 64 = .ok (.ifCond .ne 61, 3) := by decide +kernel
theorem dX3_seekSecond_67 : decode cX3_seekSecond 67 = .ok (.aload_n 0, 1) := by decide +kernel
theorem dX3_seekSecond_68 : decode cX3_seekSecond 68 = .ok (.getfield 15, 3) := by decide +kernel
theorem dX3_seekSecond_71 : decode cX3_seekSecond 71 = .ok (.iload_n 1, 1) := by decide +kernel
theorem dX3_seekSecond_72 : decode cX3_seekSecond 72 = .ok (.laload, 1) := by decide +kernel
theorem dX3_seekSecond_73 : decode cX3_seekSecond 73 = .ok (.aload_n 0, 1) := by decide +kernel
theorem dX3_seekSecond_74 : decode cX3_seekSecond 74 = .ok (.getfield 15, 3) := by decide +kernel
theorem dX3_seekSecond_77 : decode cX3_seekSecond 77 = .ok (.iload_n 2, 1) := by decide +kernel
theorem dX3_seekSecond_78 : decode cX3_seekSecond 78 = .ok (.laload, 1) := by decide +kernel
theorem dX3_seekSecond_79 : decode cX3_seekSecond 79 = .ok (.lsub, 1) := by decide +kernel
theorem dX3_seekSecond_80 : decode cX3_seekSecond 80 = .ok (.invokestatic 71, 3) := by decide +kernel
theorem dX3_seekSecond_83 : decode cX3_seekSecond 83 = .ok (.lstore_n 3, 1) := by decide +kernel
theorem dX3_seekSecond_84 : decode cX3_seekSecond 84 = .ok (.aload_n 0, 1) := by decide +kernel
theorem dX3_seekSecond_85 : decode cX3_seekSecond 85 = .ok (.getfield 23, 3) := by decide +kernel
theorem dX3_seekSecond_88 : decode cX3_seekSecond 88 = .ok (.ifCond .eq 12, 3) := by decide +kernel
theorem dX3_seekSecond_91 : decode cX3_seekSecond 91 = .ok (.lload_n 3, 1) := by decide +kernel
theorem dX3_seekSecond_92 : decode cX3_seekSecond 92 = .ok (.aload_n 0, 1) := by decide +kernel
theorem dX3_seekSecond_93 : decode cX3_seekSecond 93 = .ok (.getfield 29, 3) := by decide +kernel
theorem dX3_seekSecond_96 : decode cX3_seekSecond 96 = .ok (.lcmp, 1) := by decide +kernel
theorem dX3_seekSecond_97 : decode cX3_seekSecond 97 = .ok (.ifCond .ge 28, 3) := by decide +kernel
theorem dX3_seekSecond_100 : decode cX3_seekSecond 100 = .ok (.aload_n 0, 1) := by decide +kernel
theorem dX3_seekSecond_101 : decode cX3_seekSecond 101 = .ok (.aload_n 0, 1) := by decide +kernel
theorem dX3_seekSecond_102 : decode cX3_seekSecond 102 = .ok (.getfield 9, 3) := by decide +kernel
theorem dX3_seekSecond_105 : decode cX3_seekSecond 105 = .ok (.iload_n 1, 1) := by decide +kernel
theorem dX3_seekSecond_106 : decode cX3_seekSecond 106 = .ok (.iaload, 1) := by decide +kernel
theorem dX3_seekSecond_107 : decode cX3_seekSecond 107 = .ok (.putfield 23, 3) := by decide +kernel
theorem dX3_seekSecond_110 : decode cX3_seekSecond 110 = .ok (.aload_n 0, 1) := by decide +kernel
theorem dX3_seekSecond_111 : decode cX3_seekSecond 111 = .ok (.aload_n 0, 1) := by decide +kernel
theorem dX3_seekSecond_112 : decode cX3_seekSecond 112 = .ok (.getfield 9, 3) := by decide +kernel
theorem dX3_seekSecond_115 : decode cX3_seekSecond 115 = .ok (.iload_n 2, 1) := by decide +kernel
theorem dX3_seekSecond_116 : decode cX3_seekSecond 116 = .ok (.iaload, 1) := by decide +kernel
theorem dX3_seekSecond_117 : decode cX3_seekSecond 117 = .ok (.putfield 26, 3) := by decide +kernel
theorem dX3_seekSecond_120 : decode cX3_seekSecond 120 = .ok (.aload_n 0, 1) := by decide +kernel
theorem dX3_seekSecond_121 : decode cX3_seekSecond 121 = .ok (.lload_n 3, 1) := by decide +kernel
theorem dX3_seekSecond_122 : decode cX3_seekSecond 122 = .ok (.putfield 29, 3) := by decide +kernel
theorem dX3_seekSecond_125 : decode cX3_seekSecond 125 = .ok (.iinc 2 1, 3) := by decide +kernel
theorem dX3_seekSecond_128 : decode cX3_seekSecond 128 = .ok (.goto (-103), 3) := by decide +kernel
theorem dX3_seekSecond_131 : decode cX3_seekSecond 131 = .ok (.return_, 1) := by decide +kernel
theorem dX4_init_0 : decode cX4_init 0 = .ok (.aload_n 0, 1) := by decide +kernel
theorem dX4_init_1 : decode cX4_init 1 = .ok (.invokespecial 3, 3) := by decide +kernel
theorem dX4_init_4 : decode cX4_init 4 = .ok (.aload_n 0, 1) := by decide +kernel
theorem dX4_init_5 : decode cX4_init 5 = .ok (.iconst 5, 1) := by decide +kernel
theorem dX4_init_6 : decode cX4_init 6 = .ok (.newarray .int, 2) := by decide +kernel
theorem dX4_init_8 : decode cX4_init 8 = .ok (.putfield 9, 3) := by decide +kernel
theorem dX4_init_11 : decode cX4_init 11 = .ok (.aload_n 0, 1) := by decide +kernel
theorem dX4_init_12 : decode cX4_init 12 = .ok (.iconst 5, 1) := by decide +kernel
theorem dX4_init_13 : decode cX4_init 13 = .ok (.newarray .int, 2) := by decide +kernel
theorem dX4_init_15 : decode cX4_init 15 = .ok (.putfield 15, 3) := by decide +kernel
theorem dX4_init_18 : decode cX4_init 18 = .ok (.aload_n 0, 1) := by decide +kernel
theorem dX4_init_19 : decode cX4_init 19 = .ok (.iconst 0, 1) := by decide +kernel
theorem dX4_init_20 : decode cX4_init 20 = .ok (.putfield 18, 3) := by decide +kernel
theorem dX4_init_23 : decode cX4_init 23 = .ok (.return_, 1) := by decide +kernel
theorem dX4_add_0 : decode cX4_add 0 = .ok (.aload_n 0, 1) := by decide +kernel
theorem dX4_add_1 : decode cX4_add 1 = .ok (.getfield 18, 3) := by decide +kernel
theorem dX4_add_4 : decode cX4_add 4 = .ok (.ifCond .lt 57, 3) := by decide +kernel
theorem dX4_add_7 : decode cX4_add 7 = .ok (.aload_n 0, 1) := by decide +kernel
theorem dX4_add_8 : decode cX4_add 8 = .ok (.getfield 18, 3) := by decide +kernel
theorem dX4_add_11 : decode cX4_add 11 = .ok (.aload_n 0, 1) := by decide +kernel
theorem dX4_add_12 : decode cX4_add 12 = .ok (.getfield 9, 3) := by decide +kernel
theorem dX4_add_15 : decode cX4_add 15 = .ok (.arraylength, 1) := by decide +kernel
theorem dX4_add_16 : decode cX4_add 16 = .ok (.if_icmp .ge 45, 3) := by decide +kernel
theorem dX4_add_19 : decode cX4_add 19 = .ok (.aload_n 0, 1) := by decide +kernel
theorem dX4_add_20 : decode cX4_add 20 = .ok (.getfield 18, 3) := by decide +kernel
theorem dX4_add_23 : decode cX4_add 23 = .ok (.aload_n 0, 1) := by decide +kernel
theorem dX4_add_24 : decode cX4_add 24 = .ok (.getfield 15, 3) := by decide +kernel
theorem dX4_add_27 : decode cX4_add 27 = .ok (.arraylength, 1) := by decide +kernel
theorem dX4_add_28 : decode cX4_add 28 = .ok (.if_icmp .ge 33, 3) := by decide +kernel
theorem dX4_add_31 : decode cX4_add 31 = .ok (.aload_n 0, 1) := by decide +kernel
theorem dX4_add_32 : decode cX4_add 32 = .ok (.getfield 9, 3) := by decide +kernel
theorem dX4_add_35 : decode cX4_add 35 = .ok (.aload_n 0, 1) := by decide +kernel
theorem dX4_add_36 : decode cX4_add 36 = .ok (.getfield 18, 3) := by decide +kernel
theorem dX4_add_39 : decode cX4_add 39 = .ok (.iload_n 1, 1) := by decide +kernel
theorem dX4_add_40 : decode cX4_add 40 = .ok (.iastore, 1) := by decide +kernel
theorem dX4_add_41 : decode cX4_add 41 = .ok (.aload_n 0, 1) := by decide +kernel
theorem dX4_add_42 : decode cX4_add 42 = .ok (.getfield 15, 3) := by decide +kernel
theorem dX4_add_45 : decode cX4_add 45 = .ok (.aload_n 0, 1) := by decide +kernel
theorem dX4_add_46 : decode cX4_add 46 = .ok (.getfield 18, 3) := by decide +kernel
theorem dX4_add_49 : decode cX4_add 49 = .ok (.iload_n 2, 1) := by decide +kernel
theorem dX4_add_50 : decode cX4_add 50 = .ok (.iastore, 1) := by decide +kernel
theorem dX4_add_51 : decode cX4_add 51 = .ok (.aload_n 0, 1) := by decide +kernel
theorem dX4_add_52 : decode cX4_add 52 = .ok (.dup, 1) := by decide +kernel
theorem dX4_add_53 : decode cX4_add 53 = .ok (.getfield 18, 3) := by decide +kernel
theorem dX4_add_56 : decode cX4_add 56 = .ok (.iconst 1, 1) := by decide +kernel
theorem dX4_add_57 : decode cX4_add 57 = .ok (.iadd, 1) := by decide +kernel
theorem dX4_add_58 : decode cX4_add 58 = .ok (.putfield 18, 3) := by decide +kernel
theorem dX4_add_61 : decode cX4_add 61 = .ok (.return_, 1) := by decide +kernel
theorem dX4_firstAt_0 : decode cX4_firstAt 0 = .ok (.iload_n 1, 1) := by decide +kernel
theorem dX4_firstAt_1 : decode cX4_firstAt 1 = .ok (.ifCond .lt 21, 3) := by decide +kernel
theorem dX4_firstAt_4 : decode cX4_firstAt 4 = .ok (.iload_n 1, 1) := by decide +kernel
theorem dX4_firstAt_5 : decode cX4_firstAt 5 = .ok (.aload_n 0, 1) := by decide +kernel
theorem dX4_firstAt_6 : decode cX4_firstAt 6 = .ok (.getfield 9, 3) := by decide +kernel
theorem dX4_firstAt_9 : decode cX4_firstAt 9 = .ok (.arraylength, 1) := by decide +kernel
theorem dX4_firstAt_10 : decode cX4_firstAt 10 = .ok (.if_icmp .ge 12, 3) := by decide +kernel
theorem dX4_firstAt_13 : decode cX4_firstAt 13 = .ok (.aload_n 0, 1) := by decide +kernel
theorem dX4_firstAt_14 : decode cX4_firstAt 14 = .ok (.getfield 9, 3) := by decide +kernel
theorem dX4_firstAt_17 : decode cX4_firstAt 17 = .ok (.iload_n 1, 1) := by decide +kernel
theorem dX4_firstAt_18 : decode cX4_firstAt 18 = .ok (.iaload, 1) := by decide +kernel
theorem dX4_firstAt_19 : decode cX4_firstAt 19 = .ok (.goto 4, 3) := by decide +kernel
theorem dX4_firstAt_22 : decode cX4_firstAt 22 = .ok (.iconst 0, 1) := by decide +kernel
theorem dX4_firstAt_23 : decode cX4_firstAt 23 = .ok (.ireturn, 1) := by decide +kernel
theorem dX4_secondAt_0 : decode cX4_secondAt 0 = .ok (.iload_n 1, 1) := by decide +kernel
theorem dX4_secondAt_1 : decode cX4_secondAt 1 = .ok (.ifCond .lt 21, 3) := by decide +kernel
theorem dX4_secondAt_4 : decode cX4_secondAt 4 = .ok (.iload_n 1, 1) := by decide +kernel
theorem dX4_secondAt_5 : decode cX4_secondAt 5 = .ok (.aload_n 0, 1) := by decide +kernel
theorem dX4_secondAt_6 : decode cX4_secondAt 6 = .ok (.getfield 15, 3) := by decide +kernel
theorem dX4_secondAt_9 : decode cX4_secondAt 9 = .ok (.arraylength, 1) := by decide +kernel
theorem dX4_secondAt_10 : decode cX4_secondAt 10 = .ok (.if_icmp .ge 12, 3) := by decide +kernel
theorem dX4_secondAt_13 : decode cX4_secondAt 13 = .ok (.aload_n 0, 1) := by decide +kernel
theorem dX4_secondAt_14 : decode cX4_secondAt 14 = .ok (.getfield 15, 3) := by decide +kernel
theorem dX4_secondAt_17 : decode cX4_secondAt 17 = .ok (.iload_n 1, 1) := by decide +kernel
theorem dX4_secondAt_18 : decode cX4_secondAt 18 = .ok (.iaload, 1) := by decide +kernel
theorem dX4_secondAt_19 : decode cX4_secondAt 19 = .ok (.goto 4, 3) := by decide +kernel
theorem dX4_secondAt_22 : decode cX4_secondAt 22 = .ok (.iconst 0, 1) := by decide +kernel
theorem dX4_secondAt_23 : decode cX4_secondAt 23 = .ok (.ireturn, 1) := by decide +kernel
set_option maxRecDepth 20000 in
theorem ggX5_init_X8_evenShare : GoodIn wsX5_init wsX8_evenShare := goodIn_r _ [12, 13, 14] (by decide +kernel) (by decide +kernel)
set_option maxRecDepth 20000 in
theorem gX5_init_X8_evenShare_n28 : GoodIn wsX5_init (wsX8_evenShare) := ggX5_init_X8_evenShare
theorem dX5_init_0 : decode cX5_init 0 = .ok (.aload_n 0, 1) := by decide +kernel
theorem dX5_init_1 : decode cX5_init 1 = .ok (.invokespecial 3, 3) := by decide +kernel
theorem dX5_init_4 : decode cX5_init 4 = .ok (.aload_n 0, 1) := by decide +kernel
theorem dX5_init_5 : decode cX5_init 5 = .ok (.iload_n 1, 1) := by decide +kernel
theorem dX5_init_6 : decode cX5_init 6 = .ok (.putfield 9, 3) := by decide +kernel
theorem dX5_init_9 : decode cX5_init 9 = .ok (.aload_n 0, 1) := by decide +kernel
theorem dX5_init_10 : decode cX5_init 10 = .ok (.bipush 7, 2) := by decide +kernel
theorem dX5_init_12 : decode cX5_init 12 = .ok (.newarray .long, 2) := by decide +kernel
theorem dX5_init_14 : decode cX5_init 14 = .ok (.putfield 15, 3) := by decide +kernel
theorem dX5_init_17 : decode cX5_init 17 = .ok (.aload_n 0, 1) := by decide +kernel
theorem dX5_init_18 : decode cX5_init 18 = .ok (.bipush 7, 2) := by decide +kernel
theorem dX5_init_20 : decode cX5_init 20 = .ok (.newarray .long, 2) := by decide +kernel
theorem dX5_init_22 : decode cX5_init 22 = .ok (.putfield 19, 3) := by decide +kernel
theorem dX5_init_25 : decode cX5_init 25 = .ok (.aload_n 0, 1) := by decide +kernel
theorem dX5_init_26 : decode cX5_init 26 = .ok (.bipush 8, 2) := by decide +kernel
theorem dX5_init_28 : decode cX5_init 28 = .ok (.newarray .long, 2) := by decide +kernel
theorem dX5_init_30 : decode cX5_init 30 = .ok (.putfield 22, 3) := by decide +kernel
theorem dX5_init_33 : decode cX5_init 33 = .ok (.aload_n 0, 1) := by decide +kernel
theorem dX5_init_34 : decode cX5_init 34 = .ok (.iconst 0, 1) := by decide +kernel
theorem dX5_init_35 : decode cX5_init 35 = .ok (.putfield 25, 3) := by decide +kernel
theorem dX5_init_38 : decode cX5_init 38 = .ok (.iconst 0, 1) := by decide +kernel
theorem dX5_init_39 : decode cX5_init 39 = .ok (.istore_n 2, 1) := by decide +kernel
theorem dX5_init_40 : decode cX5_init 40 = .ok (.iload_n 2, 1) := by decide +kernel
theorem dX5_init_41 : decode cX5_init 41 = .ok (.aload_n 0, 1) := by decide +kernel
theorem dX5_init_42 : decode cX5_init 42 = .ok (.getfield 15, 3) := by decide +kernel
theorem dX5_init_45 : decode cX5_init 45 = .ok (.arraylength, 1) := by decide +kernel
theorem dX5_init_46 : decode cX5_init 46 = .ok (.if_icmp .ge 19, 3) := by decide +kernel
theorem dX5_init_49 : decode cX5_init 49 = .ok (.aload_n 0, 1) := by decide +kernel
theorem dX5_init_50 : decode cX5_init 50 = .ok (.getfield 15, 3) := by decide +kernel
theorem dX5_init_53 : decode cX5_init 53 = .ok (.iload_n 2, 1) := by decide +kernel
theorem dX5_init_54 : decode cX5_init 54 = .ok (.iload_n 2, 1) := by decide +kernel
theorem dX5_init_55 : decode cX5_init 55 = .ok (.invokestatic 28, 3) := by decide +kernel
theorem dX5_init_58 : decode cX5_init 58 = .ok (.lastore, 1) := by decide +kernel
theorem dX5_init_59 : decode cX5_init 59 = .ok (.iinc 2 1, 3) := by decide +kernel
theorem dX5_init_62 : decode cX5_init 62 = .ok (.goto (-22), 3) := by decide +kernel
theorem dX5_init_65 : decode cX5_init 65 = .ok (.return_, 1) := by decide +kernel
theorem dX5_ownMean_0 : decode cX5_ownMean 0 = .ok (.lconst 0, 1) := by decide +kernel
theorem dX5_ownMean_1 : decode cX5_ownMean 1 = .ok (.lstore_n 1, 1) := by decide +kernel
theorem dX5_ownMean_2 : decode cX5_ownMean 2 = .ok (.iconst 0, 1) := by decide +kernel
theorem dX5_ownMean_3 : decode cX5_ownMean 3 = .ok (.istore_n 3, 1) := by decide +kernel
theorem dX5_ownMean_4 : decode cX5_ownMean 4 = .ok (.iload_n 3, 1) := by decide +kernel
theorem dX5_ownMean_5 : decode cX5_ownMean 5 = .ok (.aload_n 0, 1) := by decide +kernel
theorem dX5_ownMean_6 : decode cX5_ownMean 6 = .ok (.getfield 15, 3) := by decide +kernel
theorem dX5_ownMean_9 : decode cX5_ownMean 9 = .ok (.arraylength, 1) := by decide +kernel
theorem dX5_ownMean_10 : decode cX5_ownMean 10 = .ok (.if_icmp .ge 21, 3) := by decide +kernel
theorem dX5_ownMean_13 : decode cX5_ownMean 13 = .ok (.lload_n 1, 1) := by decide +kernel
theorem dX5_ownMean_14 : decode cX5_ownMean 14 = .ok (.iload_n 3, 1) := by decide +kernel
theorem dX5_ownMean_15 : decode cX5_ownMean 15 = .ok (.i2l, 1) := by decide +kernel
theorem dX5_ownMean_16 : decode cX5_ownMean 16 = .ok (.aload_n 0, 1) := by decide +kernel
theorem dX5_ownMean_17 : decode cX5_ownMean 17 = .ok (.getfield 15, 3) := by decide +kernel
theorem dX5_ownMean_20 : decode cX5_ownMean 20 = .ok (.iload_n 3, 1) := by decide +kernel
theorem dX5_ownMean_21 : decode cX5_ownMean 21 = .ok (.laload, 1) := by decide +kernel
theorem dX5_ownMean_22 : decode cX5_ownMean 22 = .ok (.lmul, 1) := by decide +kernel
theorem dX5_ownMean_23 : decode cX5_ownMean 23 = .ok (.ladd, 1) := by decide +kernel
theorem dX5_ownMean_24 : decode cX5_ownMean 24 = .ok (.lstore_n 1, 1) := by decide +kernel
theorem dX5_ownMean_25 : decode cX5_ownMean 25 = .ok (.iinc 3 1, 3) := by decide +kernel
theorem dX5_ownMean_28 : decode cX5_ownMean 28 = .ok (.goto (-24), 3) := by decide +kernel
theorem dX5_ownMean_31 : decode cX5_ownMean 31 = .ok (.lload_n 1, 1) := by decide +kernel
theorem dX5_ownMean_32 : decode cX5_ownMean 32 = .ok (.lreturn, 1) := by decide +kernel
set_option maxRecDepth 20000 in
theorem ggX5_drawToTheMiddle_X8_evenShare : GoodIn wsX5_drawToTheMiddle wsX8_evenShare := goodIn_r _ [6, 7, 8] (by decide +kernel) (by decide +kernel)
set_option maxRecDepth 20000 in
theorem gX5_drawToTheMiddle_X8_evenShare_n28 : GoodIn wsX5_drawToTheMiddle (wsX8_evenShare) := ggX5_drawToTheMiddle_X8_evenShare
theorem dX5_drawToTheMiddle_0 : decode cX5_drawToTheMiddle 0 = .ok (.ldc2_w 32, 3) := by decide +kernel
theorem dX5_drawToTheMiddle_3 : decode cX5_drawToTheMiddle 3 = .ok (.lstore_n 1, 1) := by decide +kernel
theorem dX5_drawToTheMiddle_4 : decode cX5_drawToTheMiddle 4 = .ok (.iconst 0, 1) := by decide +kernel
theorem dX5_drawToTheMiddle_5 : decode cX5_drawToTheMiddle 5 = .ok (.istore_n 3, 1) := by decide +kernel
theorem dX5_drawToTheMiddle_6 : decode cX5_drawToTheMiddle 6 = .ok (.iload_n 3, 1) := by decide +kernel
theorem dX5_drawToTheMiddle_7 : decode cX5_drawToTheMiddle 7 = .ok (.aload_n 0, 1) := by decide +kernel
theorem dX5_drawToTheMiddle_8 : decode cX5_drawToTheMiddle 8 = .ok (.getfield 15, 3) := by decide +kernel
theorem dX5_drawToTheMiddle_11 : decode cX5_drawToTheMiddle 11 = .ok (.arraylength, 1) := by decide +kernel
theorem dX5_drawToTheMiddle_12 : decode cX5_drawToTheMiddle 12 = .ok (.if_icmp .ge 39, 3) := by decide +kernel
theorem dX5_drawToTheMiddle_15 : decode cX5_drawToTheMiddle 15 = .ok (.aload_n 0, 1) := by decide +kernel
theorem dX5_drawToTheMiddle_16 : decode cX5_drawToTheMiddle 16 = .ok (.getfield 15, 3) := by decide +kernel
theorem dX5_drawToTheMiddle_19 : decode cX5_drawToTheMiddle 19 = .ok (.iload_n 3, 1) := by decide +kernel
theorem dX5_drawToTheMiddle_20 : decode cX5_drawToTheMiddle 20 = .ok (.aload_n 0, 1) := by decide +kernel
theorem dX5_drawToTheMiddle_21 : decode cX5_drawToTheMiddle 21 = .ok (.getfield 15, 3) := by decide +kernel
theorem dX5_drawToTheMiddle_24 : decode cX5_drawToTheMiddle 24 = .ok (.iload_n 3, 1) := by decide +kernel
theorem dX5_drawToTheMiddle_25 : decode cX5_drawToTheMiddle 25 = .ok (.laload, 1) := by decide +kernel
theorem dX5_drawToTheMiddle_26 : decode cX5_drawToTheMiddle 26 = .ok (.iload_n 3, 1) := by decide +kernel
theorem dX5_drawToTheMiddle_27 : decode cX5_drawToTheMiddle 27 = .ok (.invokestatic 28, 3) := by decide +kernel
theorem dX5_drawToTheMiddle_30 : decode cX5_drawToTheMiddle 30 = .ok (.ladd, 1) := by decide +kernel
theorem dX5_drawToTheMiddle_31 : decode cX5_drawToTheMiddle 31 = .ok (.ldc2_w 34, 3) := by decide +kernel
theorem dX5_drawToTheMiddle_34 : decode cX5_drawToTheMiddle 34 = .ok (.ldiv, 1) := by decide +kernel
theorem dX5_drawToTheMiddle_35 : decode cX5_drawToTheMiddle 35 = .ok (.lastore, 1) := by decide +kernel
theorem dX5_drawToTheMiddle_36 : decode cX5_drawToTheMiddle 36 = .ok (.lload_n 1, 1) := by decide +kernel
theorem dX5_drawToTheMiddle_37 : decode cX5_drawToTheMiddle 37 = .ok (.aload_n 0, 1) := by decide +kernel
theorem dX5_drawToTheMiddle_38 : decode cX5_drawToTheMiddle 38 = .ok (.getfield 15, 3) := by decide +kernel
theorem dX5_drawToTheMiddle_41 : decode cX5_drawToTheMiddle 41 = .ok (.iload_n 3, 1) := by decide +kernel
theorem dX5_drawToTheMiddle_42 : decode cX5_drawToTheMiddle 42 = .ok (.laload, 1) := by decide +kernel
theorem dX5_drawToTheMiddle_43 : decode cX5_drawToTheMiddle 43 = .ok (.lsub, 1) := by decide +kernel
theorem dX5_drawToTheMiddle_44 : decode cX5_drawToTheMiddle 44 = .ok (.lstore_n 1, 1) := by decide +kernel
theorem dX5_drawToTheMiddle_45 : decode cX5_drawToTheMiddle 45 = .ok (.iinc 3 1, 3) := by decide +kernel
theorem dX5_drawToTheMiddle_48 : decode cX5_drawToTheMiddle 48 = .ok (.goto (-42), 3) := by decide +kernel
theorem dX5_drawToTheMiddle_51 : decode cX5_drawToTheMiddle 51 = .ok (.aload_n 0, 1) := by decide +kernel
theorem dX5_drawToTheMiddle_52 : decode cX5_drawToTheMiddle 52 = .ok (.getfield 15, 3) := by decide +kernel
theorem dX5_drawToTheMiddle_55 : decode cX5_drawToTheMiddle 55 = .ok (.iconst 3, 1) := by decide +kernel
theorem dX5_drawToTheMiddle_56 : decode cX5_drawToTheMiddle 56 = .ok (.dup2, 1) := by decide +kernel
theorem dX5_drawToTheMiddle_57 : decode cX5_drawToTheMiddle 57 = .ok (.laload, 1) := by decide +kernel
theorem dX5_drawToTheMiddle_58 : decode cX5_drawToTheMiddle 58 = .ok (.lload_n 1, 1) := by decide +kernel
theorem dX5_drawToTheMiddle_59 : decode cX5_drawToTheMiddle 59 = .ok (.ladd, 1) := by decide +kernel
theorem dX5_drawToTheMiddle_60 : decode cX5_drawToTheMiddle 60 = .ok (.lastore, 1) := by decide +kernel
theorem dX5_drawToTheMiddle_61 : decode cX5_drawToTheMiddle 61 = .ok (.return_, 1) := by decide +kernel
set_option maxRecDepth 20000 in
theorem ggX5_reckonNext_X5_moveNext : GoodIn wsX5_reckonNext wsX5_moveNext := goodIn_r _ [8, 1, 9, 10, 11, 12, 7, 13, 14, 15, 16, 17, 18] (by decide +kernel) (by decide +kernel)
set_option maxRecDepth 20000 in
theorem gX5_reckonNext_X5_moveNext : GoodIn wsX5_reckonNext (wsV RX5 36 RX5 yX5_moveNext wsX5_moveNext) := goodIn_app (goodIn_of _ (by decide +kernel)) ggX5_reckonNext_X5_moveNext
theorem dX5_reckonNext_0 : decode cX5_reckonNext 0 = .ok (.iconst 0, 1) := by decide +kernel
theorem dX5_reckonNext_1 : decode cX5_reckonNext 1 = .ok (.istore_n 2, 1) := by decide +kernel
theorem dX5_reckonNext_2 : decode cX5_reckonNext 2 = .ok (.iload_n 2, 1) := by decide +kernel
theorem dX5_reckonNext_3 : decode cX5_reckonNext 3 = .ok (.aload_n 0, 1) := by decide +kernel
theorem dX5_reckonNext_4 : decode cX5_reckonNext 4 = .ok (.getfield 19, 3) := by decide +kernel
theorem dX5_reckonNext_7 : decode cX5_reckonNext 7 = .ok (.arraylength, 1) := by decide +kernel
theorem dX5_reckonNext_8 : decode cX5_reckonNext 8 = .ok (.if_icmp .ge 30, 3) := by decide +kernel
theorem dX5_reckonNext_11 : decode cX5_reckonNext 11 = .ok (.iload_n 2, 1) := by decide +kernel
theorem dX5_reckonNext_12 : decode cX5_reckonNext 12 = .ok (.aload_n 0, 1) := by decide +kernel
theorem dX5_reckonNext_13 : decode cX5_reckonNext 13 = .ok (.getfield 15, 3) := by decide +kernel
theorem dX5_reckonNext_16 : decode cX5_reckonNext 16 = .ok (.arraylength, 1) := by decide +kernel
theorem dX5_reckonNext_17 : decode cX5_reckonNext 17 = .ok (.if_icmp .ge 21, 3) := by decide +kernel
theorem dX5_reckonNext_20 : decode cX5_reckonNext 20 = .ok (.aload_n 0, 1) := by decide +kernel
theorem dX5_reckonNext_21 : decode cX5_reckonNext 21 = .ok (.getfield 19, 3) := by decide +kernel
theorem dX5_reckonNext_24 : decode cX5_reckonNext 24 = .ok (.iload_n 2, 1) := by decide +kernel
theorem dX5_reckonNext_25 : decode cX5_reckonNext 25 = .ok (.aload_n 0, 1) := by decide +kernel
theorem dX5_reckonNext_26 : decode cX5_reckonNext 26 = .ok (.getfield 15, 3) := by decide +kernel
theorem dX5_reckonNext_29 : decode cX5_reckonNext 29 = .ok (.iload_n 2, 1) := by decide +kernel
theorem dX5_reckonNext_30 : decode cX5_reckonNext 30 = .ok (.laload, 1) := by decide +kernel
theorem dX5_reckonNext_31 : decode cX5_reckonNext 31 = .ok (.lastore, 1) := by decide +kernel
theorem dX5_reckonNext_32 : decode cX5_reckonNext 32 = .ok (.iinc 2 1, 3) := by decide +kernel
theorem dX5_reckonNext_35 : decode cX5_reckonNext 35 = .ok (.goto (-33), 3) := by decide +kernel
theorem dX5_reckonNext_38 : decode cX5_reckonNext 38 = .ok (.aload_n 0, 1) := by decide +kernel
theorem dX5_reckonNext_39 : decode cX5_reckonNext 39 = .ok (.aload_n 1, 1) := by decide +kernel
theorem dX5_reckonNext_40 : decode cX5_reckonNext 40 = .ok (.invokevirtual 36, 3) := by decide +kernel
theorem dX5_reckonNext_43 : decode cX5_reckonNext 43 = .ok (.aload_n 0, 1) := by decide +kernel
theorem dX5_reckonNext_44 : decode cX5_reckonNext 44 = .ok (.getfield 9, 3) := by decide +kernel
theorem dX5_reckonNext_47 : decode cX5_reckonNext 47 = .ok (.iconst 1, 1) := by decide +kernel
theorem dX5_reckonNext_48 : decode cX5_reckonNext 48 = .ok (.if_icmp .ne 8, 3) := by decide +kernel
theorem dX5_reckonNext_51 : decode cX5_reckonNext 51 = .ok (.aload_n 0, 1) := by decide +kernel
theorem dX5_reckonNext_52 : decode cX5_reckonNext 52 = .ok (.aload_n 1, 1) := by decide +kernel
theorem dX5_reckonNext_53 : decode cX5_reckonNext 53 = .ok (.invokevirtual 36, 3) := by decide +kernel
theorem dX5_reckonNext_56 : decode cX5_reckonNext 56 = .ok (.return_, 1) := by decide +kernel
set_option maxRecDepth 20000 in
theorem ggX5_moveNext_X5_greatestNext : GoodIn wsX5_moveNext wsX5_greatestNext := goodIn_r _ [7, 1, 8, 9, 10, 11, 12] (by decide +kernel) (by decide +kernel)
set_option maxRecDepth 20000 in
theorem gX5_moveNext_X5_greatestNext : GoodIn wsX5_moveNext (wsV RX5 40 RX5 yX5_greatestNext wsX5_greatestNext) := goodIn_app (goodIn_of _ (by decide +kernel)) ggX5_moveNext_X5_greatestNext
theorem dX5_moveNext_0 : decode cX5_moveNext 0 = .ok (.lconst 0, 1) := by decide +kernel
theorem dX5_moveNext_1 : decode cX5_moveNext 1 = .ok (.lstore_n 2, 1) := by decide +kernel
theorem dX5_moveNext_2 : decode cX5_moveNext 2 = .ok (.iconst 0, 1) := by decide +kernel
theorem dX5_moveNext_3 : decode cX5_moveNext 3 = .ok (.istore 4, 2) := by decide +kernel
theorem dX5_moveNext_5 : decode cX5_moveNext 5 = .ok (.iload 4, 2) := by decide +kernel
theorem dX5_moveNext_7 : decode cX5_moveNext 7 = .ok (.aload_n 0, 1) := by decide +kernel
theorem dX5_moveNext_8 : decode cX5_moveNext 8 = .ok (.getfield 19, 3) := by decide +kernel
theorem dX5_moveNext_11 : decode cX5_moveNext 11 = .ok (.arraylength, 1) := by decide +kernel
theorem dX5_moveNext_12 : decode cX5_moveNext 12 = .ok (.if_icmp .ge 31, 3) := by decide +kernel
theorem dX5_moveNext_15 : decode cX5_moveNext 15 = .ok (.iload 4, 2) := by decide +kernel
theorem dX5_moveNext_17 : decode cX5_moveNext 17 = .ok (.aload_n 1, 1) := by decide +kernel
theorem dX5_moveNext_18 : decode cX5_moveNext 18 = .ok (.arraylength, 1) := by decide +kernel
theorem dX5_moveNext_19 : decode cX5_moveNext 19 = .ok (.if_icmp .ge 24, 3) := by decide +kernel
theorem dX5_moveNext_22 : decode cX5_moveNext 22 = .ok (.lload_n 2, 1) := by decide +kernel
theorem dX5_moveNext_23 : decode cX5_moveNext 23 = .ok (.aload_n 0, 1) := by decide +kernel
theorem dX5_moveNext_24 : decode cX5_moveNext 24 = .ok (.getfield 19, 3) := by decide +kernel
theorem dX5_moveNext_27 : decode cX5_moveNext 27 = .ok (.iload 4, 2) := by decide +kernel
theorem dX5_moveNext_29 : decode cX5_moveNext 29 = .ok (.laload, 1) := by decide +kernel
theorem dX5_moveNext_30 : decode cX5_moveNext 30 = .ok (.aload_n 1, 1) := by decide +kernel
theorem dX5_moveNext_31 : decode cX5_moveNext 31 = .ok (.iload 4, 2) := by decide +kernel
theorem dX5_moveNext_33 : decode cX5_moveNext 33 = .ok (.laload, 1) := by decide +kernel
theorem dX5_moveNext_34 : decode cX5_moveNext 34 = .ok (.lmul, 1) := by decide +kernel
theorem dX5_moveNext_35 : decode cX5_moveNext 35 = .ok (.ladd, 1) := by decide +kernel
theorem dX5_moveNext_36 : decode cX5_moveNext 36 = .ok (.lstore_n 2, 1) := by decide +kernel
theorem dX5_moveNext_37 : decode cX5_moveNext 37 = .ok (.iinc 4 1, 3) := by decide +kernel
theorem dX5_moveNext_40 : decode cX5_moveNext 40 = .ok (.goto (-35), 3) := by decide +kernel
theorem dX5_moveNext_43 : decode cX5_moveNext 43 = .ok (.lload_n 2, 1) := by decide +kernel
theorem dX5_moveNext_44 : decode cX5_moveNext 44 = .ok (.lconst 0, 1) := by decide +kernel
theorem dX5_moveNext_45 : decode cX5_moveNext 45 = .ok (.lcmp, 1) := by decide +kernel
theorem dX5_moveNext_46 : decode cX5_moveNext 46 = .ok (.ifCond .gt 4, 3) := by decide +kernel
theorem dX5_moveNext_49 : decode cX5_moveNext 49 = .ok (.return_, 1) := by decide +kernel
theorem dX5_moveNext_50 : decode cX5_moveNext 50 = .ok (.ldc2_w 32, 3) := by decide +kernel
theorem dX5_moveNext_53 : decode cX5_moveNext 53 = .ok (.lstore 4, 2) := by decide +kernel
theorem dX5_moveNext_55 : decode cX5_moveNext 55 = .ok (.iconst 0, 1) := by decide +kernel
theorem dX5_moveNext_56 : decode cX5_moveNext 56 = .ok (.istore 6, 2) := by decide +kernel
theorem dX5_moveNext_58 : decode cX5_moveNext 58 = .ok (.iload 6, 2) := by decide +kernel
theorem dX5_moveNext_60 : decode cX5_moveNext 60 = .ok (.aload_n 0, 1) := by decide +kernel
theorem dX5_moveNext_61 : decode cX5_moveNext 61 = .ok (.getfield 19, 3) := by decide +kernel
theorem dX5_moveNext_64 : decode cX5_moveNext 64 = .ok (.arraylength, 1) := by decide +kernel
theorem dX5_moveNext_65 : decode cX5_moveNext 65 = .ok (.if_icmp .ge 53, 3) := by decide +kernel
theorem dX5_moveNext_68 : decode cX5_moveNext 68 = .ok (.iload 6, 2) := by decide +kernel
theorem dX5_moveNext_70 : decode cX5_moveNext 70 = .ok (.aload_n 1, 1) := by decide +kernel
theorem dX5_moveNext_71 : decode cX5_moveNext 71 = .ok (.arraylength, 1) := by decide +kernel
theorem dX5_moveNext_72 : decode cX5_moveNext 72 = .ok (.if_icmp .ge 46, 3) := by decide +kernel
theorem dX5_moveNext_75 : decode cX5_moveNext 75 = .ok (.aload_n 0, 1) := by decide +kernel
theorem dX5_moveNext_76 : decode cX5_moveNext 76 = .ok (.getfield 19, 3) := by decide +kernel
theorem dX5_moveNext_79 : decode cX5_moveNext 79 = .ok (.iload 6, 2) := by decide +kernel
theorem dX5_moveNext_81 : decode cX5_moveNext 81 = .ok (.aload_n 0, 1) := by decide +kernel
theorem dX5_moveNext_82 : decode cX5_moveNext 82 = .ok (.getfield 19, 3) := by decide +kernel
theorem dX5_moveNext_85 : decode cX5_moveNext 85 = .ok (.iload 6, 2) := by decide +kernel
theorem dX5_moveNext_87 : decode cX5_moveNext 87 = .ok (.laload, 1) := by decide +kernel
theorem dX5_moveNext_88 : decode cX5_moveNext 88 = .ok (.aload_n 1, 1) := by decide +kernel
theorem dX5_moveNext_89 : decode cX5_moveNext 89 = .ok (.iload 6, 2) := by decide +kernel
theorem dX5_moveNext_91 : decode cX5_moveNext 91 = .ok (.laload, 1) := by decide +kernel
theorem dX5_moveNext_92 : decode cX5_moveNext 92 = .ok (.lmul, 1) := by decide +kernel
theorem dX5_moveNext_93 : decode cX5_moveNext 93 = .ok (.ldc2_w 32, 3) := by decide +kernel
theorem dX5_moveNext_96 : decode cX5_moveNext 96 = .ok (.lmul, 1) := by decide +kernel
theorem dX5_moveNext_97 : decode cX5_moveNext 97 = .ok (.lload_n 2, 1) := by decide +kernel
theorem dX5_moveNext_98 : decode cX5_moveNext 98 = .ok (.ldiv, 1) := by decide +kernel
theorem dX5_moveNext_99 : decode cX5_moveNext 99 = .ok (.lastore, 1) := by decide +kernel
theorem dX5_moveNext_100 : decode cX5_moveNext 100 = .ok (.lload 4, 2) := by decide +kernel
theorem dX5_moveNext_102 : decode cX5_moveNext 102 = .ok (.aload_n 0, 1) := by decide +kernel
theorem dX5_moveNext_103 : decode cX5_moveNext 103 = .ok (.getfield 19, 3) := by decide +kernel
theorem dX5_moveNext_106 : decode cX5_moveNext 106 = .ok (.iload 6, 2) := by decide +kernel
theorem dX5_moveNext_108 : decode cX5_moveNext 108 = .ok (.laload, 1) := by decide +kernel
theorem dX5_moveNext_109 : decode cX5_moveNext 109 = .ok (.lsub, 1) := by decide +kernel
theorem dX5_moveNext_110 : decode cX5_moveNext 110 = .ok (.lstore 4, 2) := by decide +kernel
theorem dX5_moveNext_112 : decode cX5_moveNext 112 = .ok (.iinc 6 1, 3) := by decide +kernel
theorem dX5_moveNext_115 : decode cX5_moveNext 115 = .ok (.goto (-57), 3) := by decide +kernel
theorem dX5_moveNext_118 : decode cX5_moveNext 118 = .ok (.aload_n 0, 1) := by decide +kernel
theorem dX5_moveNext_119 : decode cX5_moveNext 119 = .ok (.getfield 19, 3) := by decide +kernel
theorem dX5_moveNext_122 : decode cX5_moveNext 122 = .ok (.aload_n 0, 1) := by decide +kernel
theorem dX5_moveNext_123 : decode cX5_moveNext 123 = .ok (.invokevirtual 40, 3) := by decide +kernel
theorem dX5_moveNext_126 : decode cX5_moveNext 126 = .ok (.dup2, 1) := by decide +kernel
theorem dX5_moveNext_127 : decode cX5_moveNext 127 = .ok (.laload, 1) := by decide +kernel
theorem dX5_moveNext_128 : decode cX5_moveNext 128 = .ok (.lload 4, 2) := by decide +kernel
theorem dX5_moveNext_130 : decode cX5_moveNext 130 = .ok (.ladd, 1) := by decide +kernel
theorem dX5_moveNext_131 : decode cX5_moveNext 131 = .ok (.lastore, 1) := by decide +kernel
theorem dX5_moveNext_132 : decode cX5_moveNext 132 = .ok (.return_, 1) := by decide +kernel
theorem dX5_greatestNext_0 : decode cX5_greatestNext 0 = .ok (.iconst 0, 1) := by decide +kernel
theorem dX5_greatestNext_1 : decode cX5_greatestNext 1 = .ok (.istore_n 1, 1) := by decide +kernel
theorem dX5_greatestNext_2 : decode cX5_greatestNext 2 = .ok (.iconst 1, 1) := by decide +kernel
theorem dX5_greatestNext_3 : decode cX5_greatestNext 3 = .ok (.istore_n 2, 1) := by decide +kernel
theorem dX5_greatestNext_4 : decode cX5_greatestNext 4 = .ok (.iload_n 2, 1) := by decide +kernel
theorem dX5_greatestNext_5 : decode cX5_greatestNext 5 = .ok (.aload_n 0, 1) := by decide +kernel
theorem dX5_greatestNext_6 : decode cX5_greatestNext 6 = .ok (.getfield 19, 3) := by decide +kernel
theorem dX5_greatestNext_9 : decode cX5_greatestNext 9 = .ok (.arraylength, 1) := by decide +kernel
theorem dX5_greatestNext_10 : decode cX5_greatestNext 10 = .ok (.if_icmp .ge 27, 3) := by decide +kernel
theorem dX5_greatestNext_13 : decode cX5_greatestNext 13 = .ok (.aload_n 0, 1) := by decide +kernel
theorem dX5_greatestNext_14 : decode cX5_greatestNext 14 = .ok (.getfield 19, 3) := by decide +kernel
theorem dX5_greatestNext_17 : decode cX5_greatestNext 17 = .ok (.iload_n 2, 1) := by decide +kernel
theorem dX5_greatestNext_18 : decode cX5_greatestNext 18 = .ok (.laload, 1) := by decide +kernel
theorem dX5_greatestNext_19 : decode cX5_greatestNext 19 = .ok (.aload_n 0, 1) := by decide +kernel
theorem dX5_greatestNext_20 : decode cX5_greatestNext 20 = .ok (.getfield 19, 3) := by decide +kernel
theorem dX5_greatestNext_23 : decode cX5_greatestNext 23 = .ok (.iload_n 1, 1) := by decide +kernel
theorem dX5_greatestNext_24 : decode cX5_greatestNext 24 = .ok (.laload, 1) := by decide +kernel
theorem dX5_greatestNext_25 : decode cX5_greatestNext 25 = .ok (.lcmp, 1) := by decide +kernel
theorem dX5_greatestNext_26 : decode cX5_greatestNext 26 = .ok (.ifCond .le 5, 3) := by decide +kernel
theorem dX5_greatestNext_29 : decode cX5_greatestNext 29 = .ok (.iload_n 2, 1) := by decide +kernel
theorem dX5_greatestNext_30 : decode cX5_greatestNext 30 = .ok (.istore_n 1, 1) := by decide +kernel
theorem dX5_greatestNext_31 : decode cX5_greatestNext 31 = .ok (.iinc 2 1, 3) := by decide +kernel
theorem dX5_greatestNext_34 : decode cX5_greatestNext 34 = .ok (.goto (-30), 3) := by decide +kernel
theorem dX5_greatestNext_37 : decode cX5_greatestNext 37 = .ok (.iload_n 1, 1) := by decide +kernel
theorem dX5_greatestNext_38 : decode cX5_greatestNext 38 = .ok (.ireturn, 1) := by decide +kernel
theorem dX5_settle_0 : decode cX5_settle 0 = .ok (.iconst 0, 1) := by decide +kernel
theorem dX5_settle_1 : decode cX5_settle 1 = .ok (.istore_n 1, 1) := by decide +kernel
theorem dX5_settle_2 : decode cX5_settle 2 = .ok (.iload_n 1, 1) := by decide +kernel
theorem dX5_settle_3 : decode cX5_settle 3 = .ok (.aload_n 0, 1) := by decide +kernel
theorem dX5_settle_4 : decode cX5_settle 4 = .ok (.getfield 15, 3) := by decide +kernel
theorem dX5_settle_7 : decode cX5_settle 7 = .ok (.arraylength, 1) := by decide +kernel
theorem dX5_settle_8 : decode cX5_settle 8 = .ok (.if_icmp .ge 30, 3) := by decide +kernel
theorem dX5_settle_11 : decode cX5_settle 11 = .ok (.iload_n 1, 1) := by decide +kernel
theorem dX5_settle_12 : decode cX5_settle 12 = .ok (.aload_n 0, 1) := by decide +kernel
theorem dX5_settle_13 : decode cX5_settle 13 = .ok (.getfield 19, 3) := by decide +kernel
theorem dX5_settle_16 : decode cX5_settle 16 = .ok (.arraylength, 1) := by decide +kernel
theorem dX5_settle_17 : decode cX5_settle 17 = .ok (.if_icmp .ge 21, 3) := by decide +kernel
theorem dX5_settle_20 : decode cX5_settle 20 = .ok (.aload_n 0, 1) := by decide +kernel
theorem dX5_settle_21 : decode cX5_settle 21 = .ok (.getfield 15, 3) := by decide +kernel
theorem dX5_settle_24 : decode cX5_settle 24 = .ok (.iload_n 1, 1) := by decide +kernel
theorem dX5_settle_25 : decode cX5_settle 25 = .ok (.aload_n 0, 1) := by decide +kernel
theorem dX5_settle_26 : decode cX5_settle 26 = .ok (.getfield 19, 3) := by decide +kernel
theorem dX5_settle_29 : decode cX5_settle 29 = .ok (.iload_n 1, 1) := by decide +kernel
theorem dX5_settle_30 : decode cX5_settle 30 = .ok (.laload, 1) := by decide +kernel
theorem dX5_settle_31 : decode cX5_settle 31 = .ok (.lastore, 1) := by decide +kernel
theorem dX5_settle_32 : decode cX5_settle 32 = .ok (.iinc 1 1, 3) := by decide +kernel
theorem dX5_settle_35 : decode cX5_settle 35 = .ok (.goto (-33), 3) := by decide +kernel
theorem dX5_settle_38 : decode cX5_settle 38 = .ok (.return_, 1) := by decide +kernel
theorem dX5_keepSurprise_0 : decode cX5_keepSurprise 0 = .ok (.aload_n 0, 1) := by decide +kernel
theorem dX5_keepSurprise_1 : decode cX5_keepSurprise 1 = .ok (.getfield 25, 3) := by decide +kernel
theorem dX5_keepSurprise_4 : decode cX5_keepSurprise 4 = .ok (.aload_n 0, 1) := by decide +kernel
theorem dX5_keepSurprise_5 : decode cX5_keepSurprise 5 = .ok (.getfield 22, 3) := by decide +kernel
theorem dX5_keepSurprise_8 : decode cX5_keepSurprise 8 = .ok (.arraylength, 1) := by decide +kernel
theorem dX5_keepSurprise_9 : decode cX5_keepSurprise 9 = .ok (.if_icmp .lt 45, 3) := by decide +kernel
theorem dX5_keepSurprise_12 : decode cX5_keepSurprise 12 = .ok (.iconst 1, 1) := by decide +kernel
theorem dX5_keepSurprise_13 : decode cX5_keepSurprise 13 = .ok (.istore_n 3, 1) := by decide +kernel
theorem dX5_keepSurprise_14 : decode cX5_keepSurprise 14 = .ok (.iload_n 3, 1) := by decide +kernel
theorem dX5_keepSurprise_15 : decode cX5_keepSurprise 15 = .ok (.aload_n 0, 1) := by decide +kernel
theorem dX5_keepSurprise_16 : decode cX5_keepSurprise 16 = .ok (.getfield 22, 3) := by decide +kernel
theorem dX5_keepSurprise_19 : decode cX5_keepSurprise 19 = .ok (.arraylength, 1) := by decide +kernel
theorem dX5_keepSurprise_20 : decode cX5_keepSurprise 20 = .ok (.if_icmp .ge 23, 3) := by decide +kernel
theorem dX5_keepSurprise_23 : decode cX5_keepSurprise 23 = .ok (.aload_n 0, 1) := by decide +kernel
theorem dX5_keepSurprise_24 : decode cX5_keepSurprise 24 = .ok (.getfield 22, 3) := by decide +kernel
theorem dX5_keepSurprise_27 : decode cX5_keepSurprise 27 = .ok (.iload_n 3, 1) := by decide +kernel
theorem dX5_keepSurprise_28 : decode cX5_keepSurprise 28 = .ok (.iconst 1, 1) := by decide +kernel
theorem dX5_keepSurprise_29 : decode cX5_keepSurprise 29 = .ok (.isub, 1) := by decide +kernel
theorem dX5_keepSurprise_30 : decode cX5_keepSurprise 30 = .ok (.aload_n 0, 1) := by decide +kernel
theorem dX5_keepSurprise_31 : decode cX5_keepSurprise 31 = .ok (.getfield 22, 3) := by decide +kernel
theorem dX5_keepSurprise_34 : decode cX5_keepSurprise 34 = .ok (.iload_n 3, 1) := by decide +kernel
theorem dX5_keepSurprise_35 : decode cX5_keepSurprise 35 = .ok (.laload, 1) := by decide +kernel
theorem dX5_keepSurprise_36 : decode cX5_keepSurprise 36 = .ok (.lastore, 1) := by decide +kernel
theorem dX5_keepSurprise_37 : decode cX5_keepSurprise 37 = .ok (.iinc 3 1, 3) := by decide +kernel
theorem dX5_keepSurprise_40 : decode cX5_keepSurprise 40 = .ok (.goto (-26), 3) := by decide +kernel
theorem dX5_keepSurprise_43 : decode cX5_keepSurprise 43 = .ok (.aload_n 0, 1) := by decide +kernel
theorem dX5_keepSurprise_44 : decode cX5_keepSurprise 44 = .ok (.aload_n 0, 1) := by decide +kernel
theorem dX5_keepSurprise_45 : decode cX5_keepSurprise 45 = .ok (.getfield 22, 3) := by decide +kernel
theorem dX5_keepSurprise_48 : decode cX5_keepSurprise 48 = .ok (.arraylength, 1) := by decide +kernel
theorem dX5_keepSurprise_49 : decode cX5_keepSurprise 49 = .ok (.iconst 1, 1) := by decide +kernel
theorem dX5_keepSurprise_50 : decode cX5_keepSurprise 50 = .ok (.isub, 1) := by decide +kernel
theorem dX5_keepSurprise_51 : decode cX5_keepSurprise 51 = .ok (.putfield 25, 3) := by decide +kernel
theorem dX5_keepSurprise_54 : decode cX5_keepSurprise 54 = .ok (.aload_n 0, 1) := by decide +kernel
theorem dX5_keepSurprise_55 : decode cX5_keepSurprise 55 = .ok (.getfield 22, 3) := by decide +kernel
theorem dX5_keepSurprise_58 : decode cX5_keepSurprise 58 = .ok (.aload_n 0, 1) := by decide +kernel
theorem dX5_keepSurprise_59 : decode cX5_keepSurprise 59 = .ok (.getfield 25, 3) := by decide +kernel
theorem dX5_keepSurprise_62 : decode cX5_keepSurprise 62 = .ok (.lload_n 1, 1) := by decide +kernel
theorem dX5_keepSurprise_63 : decode cX5_keepSurprise 63 = .ok (.lastore, 1) := by decide +kernel
theorem dX5_keepSurprise_64 : decode cX5_keepSurprise 64 = .ok (.aload_n 0, 1) := by decide +kernel
theorem dX5_keepSurprise_65 : decode cX5_keepSurprise 65 = .ok (.dup, 1) := by decide +kernel
theorem dX5_keepSurprise_66 : decode cX5_keepSurprise 66 = .ok (.getfield 25, 3) := by decide +kernel
theorem dX5_keepSurprise_69 : decode cX5_keepSurprise 69 = .ok (.iconst 1, 1) := by decide +kernel
theorem dX5_keepSurprise_70 : decode cX5_keepSurprise 70 = .ok (.iadd, 1) := by decide +kernel
theorem dX5_keepSurprise_71 : decode cX5_keepSurprise 71 = .ok (.putfield 25, 3) := by decide +kernel
theorem dX5_keepSurprise_74 : decode cX5_keepSurprise 74 = .ok (.return_, 1) := by decide +kernel
theorem dX5_sumOfSurprises_0 : decode cX5_sumOfSurprises 0 = .ok (.lconst 0, 1) := by decide +kernel
theorem dX5_sumOfSurprises_1 : decode cX5_sumOfSurprises 1 = .ok (.lstore_n 1, 1) := by decide +kernel
theorem dX5_sumOfSurprises_2 : decode cX5_sumOfSurprises 2 = .ok (.iconst 0, 1) := by decide +kernel
theorem dX5_sumOfSurprises_3 : decode cX5_sumOfSurprises 3 = .ok (.istore_n 3, 1) := by decide +kernel
theorem dX5_sumOfSurprises_4 : decode cX5_sumOfSurprises 4 = .ok (.iload_n 3, 1) := by decide +kernel
theorem dX5_sumOfSurprises_5 : decode cX5_sumOfSurprises 5 = .ok (.aload_n 0, 1) := by decide +kernel
theorem dX5_sumOfSurprises_6 : decode cX5_sumOfSurprises 6 = .ok (.getfield 25, 3) := by decide +kernel
theorem dX5_sumOfSurprises_9 : decode cX5_sumOfSurprises 9 = .ok (.if_icmp .ge 27, 3) := by decide +kernel
theorem dX5_sumOfSurprises_12 : decode cX5_sumOfSurprises 12 = .ok (.iload_n 3, 1) := by decide +kernel
theorem dX5_sumOfSurprises_13 : decode cX5_sumOfSurprises 13 = .ok (.aload_n 0, 1) := by decide +kernel
theorem dX5_sumOfSurprises_14 : decode cX5_sumOfSurprises 14 = .ok (.getfield 22, 3) := by decide +kernel
theorem dX5_sumOfSurprises_17 : decode cX5_sumOfSurprises 17 = .ok (.arraylength, 1) := by decide +kernel
theorem dX5_sumOfSurprises_18 : decode cX5_sumOfSurprises 18 = .ok (.if_icmp .ge 18, 3) := by decide +kernel
theorem dX5_sumOfSurprises_21 : decode cX5_sumOfSurprises 21 = .ok (.lload_n 1, 1) := by decide +kernel
theorem dX5_sumOfSurprises_22 : decode cX5_sumOfSurprises 22 = .ok (.aload_n 0, 1) := by decide +kernel
theorem dX5_sumOfSurprises_23 : decode cX5_sumOfSurprises 23 = .ok (.getfield 22, 3) := by decide +kernel
theorem dX5_sumOfSurprises_26 : decode cX5_sumOfSurprises 26 = .ok (.iload_n 3, 1) := by decide +kernel
theorem dX5_sumOfSurprises_27 : decode cX5_sumOfSurprises 27 = .ok (.laload, 1) := by decide +kernel
theorem dX5_sumOfSurprises_28 : decode cX5_sumOfSurprises 28 = .ok (.ladd, 1) := by decide +kernel
theorem dX5_sumOfSurprises_29 : decode cX5_sumOfSurprises 29 = .ok (.lstore_n 1, 1) := by decide +kernel
theorem dX5_sumOfSurprises_30 : decode cX5_sumOfSurprises 30 = .ok (.iinc 3 1, 3) := by decide +kernel
theorem dX5_sumOfSurprises_33 : decode cX5_sumOfSurprises 33 = .ok (.goto (-29), 3) := by decide +kernel
theorem dX5_sumOfSurprises_36 : decode cX5_sumOfSurprises 36 = .ok (.lload_n 1, 1) := by decide +kernel
theorem dX5_sumOfSurprises_37 : decode cX5_sumOfSurprises 37 = .ok (.lreturn, 1) := by decide +kernel
theorem dX6_init_0 : decode cX6_init 0 = .ok (.aload_n 0, 1) := by decide +kernel
theorem dX6_init_1 : decode cX6_init 1 = .ok (.invokespecial 3, 3) := by decide +kernel
theorem dX6_init_4 : decode cX6_init 4 = .ok (.aload_n 0, 1) := by decide +kernel
theorem dX6_init_5 : decode cX6_init 5 = .ok (.bipush 16, 2) := by decide +kernel
theorem dX6_init_7 : decode cX6_init 7 = .ok (.anewarray 9, 3) := by decide +kernel
theorem dX6_init_10 : decode cX6_init 10 = .ok (.putfield 11, 3) := by decide +kernel
theorem dX6_init_13 : decode cX6_init 13 = .ok (.aload_n 0, 1) := by decide +kernel
theorem dX6_init_14 : decode cX6_init 14 = .ok (.bipush 7, 2) := by decide +kernel
theorem dX6_init_16 : decode cX6_init 16 = .ok (.newarray .long, 2) := by decide +kernel
theorem dX6_init_18 : decode cX6_init 18 = .ok (.putfield 17, 3) := by decide +kernel
theorem dX6_init_21 : decode cX6_init 21 = .ok (.aload_n 0, 1) := by decide +kernel
theorem dX6_init_22 : decode cX6_init 22 = .ok (.iconst 0, 1) := by decide +kernel
theorem dX6_init_23 : decode cX6_init 23 = .ok (.putfield 21, 3) := by decide +kernel
theorem dX6_init_26 : decode cX6_init 26 = .ok (.return_, 1) := by decide +kernel
theorem dX6_at_0 : decode cX6_at 0 = .ok (.iload_n 1, 1) := by decide +kernel
theorem dX6_at_1 : decode cX6_at 1 = .ok (.ifCond .lt 20, 3) := by decide +kernel
theorem dX6_at_4 : decode cX6_at 4 = .ok (.iload_n 1, 1) := by decide +kernel
theorem dX6_at_5 : decode cX6_at 5 = .ok (.aload_n 0, 1) := by decide +kernel
theorem dX6_at_6 : decode cX6_at 6 = .ok (.getfield 21, 3) := by decide +kernel
theorem dX6_at_9 : decode cX6_at 9 = .ok (.if_icmp .ge 12, 3) := by decide +kernel
theorem dX6_at_12 : decode cX6_at 12 = .ok (.iload_n 1, 1) := by decide +kernel
theorem dX6_at_13 : decode cX6_at 13 = .ok (.aload_n 0, 1) := by decide +kernel
theorem dX6_at_14 : decode cX6_at 14 = .ok (.getfield 11, 3) := by decide +kernel
theorem dX6_at_17 : decode cX6_at 17 = .ok (.arraylength, 1) := by decide +kernel
theorem dX6_at_18 : decode cX6_at 18 = .ok (.if_icmp .lt 5, 3) := by decide +kernel
theorem dX6_at_21 : decode cX6_at 21 = .ok (.aconst_null, 1) := by decide +kernel
theorem dX6_at_22 : decode cX6_at 22 = .ok (.areturn, 1) := by decide +kernel
theorem dX6_at_23 : decode cX6_at 23 = .ok (.aload_n 0, 1) := by decide +kernel
theorem dX6_at_24 : decode cX6_at 24 = .ok (.getfield 11, 3) := by decide +kernel
theorem dX6_at_27 : decode cX6_at 27 = .ok (.iload_n 1, 1) := by decide +kernel
theorem dX6_at_28 : decode cX6_at 28 = .ok (.aaload, 1) := by decide +kernel
theorem dX6_at_29 : decode cX6_at 29 = .ok (.areturn, 1) := by decide +kernel
set_option maxRecDepth 20000 in
theorem ggX6_admit_X5_init : GoodIn wsX6_admit wsX5_init := goodIn_r _ [8, 9, 10, 11, 12, 13, 14, 15, 16, 17, 18, 19, 20, 21, 22, 26, 27, 28, 29, 30] (by decide +kernel) (by decide +kernel)
set_option maxRecDepth 20000 in
theorem gX6_admit_X5_init : GoodIn wsX6_admit (wsX5_init) := ggX6_admit_X5_init
theorem dX6_admit_0 : decode cX6_admit 0 = .ok (.aload_n 0, 1) := by decide +kernel
theorem dX6_admit_1 : decode cX6_admit 1 = .ok (.getfield 21, 3) := by decide +kernel
theorem dX6_admit_4 : decode cX6_admit 4 = .ok (.ifCond .lt 15, 3) := by decide +kernel
theorem dX6_admit_7 : decode cX6_admit 7 = .ok (.aload_n 0, 1) := by decide +kernel
theorem dX6_admit_8 : decode cX6_admit 8 = .ok (.getfield 21, 3) := by decide +kernel
theorem dX6_admit_11 : decode cX6_admit 11 = .ok (.aload_n 0, 1) := by decide +kernel
theorem dX6_admit_12 : decode cX6_admit 12 = .ok (.getfield 11, 3) := by decide +kernel
theorem dX6_admit_15 : decode cX6_admit 15 = .ok (.arraylength, 1) := by decide +kernel
theorem dX6_admit_16 : decode cX6_admit 16 = .ok (.if_icmp .lt 5, 3) := by decide +kernel
theorem dX6_admit_19 : decode cX6_admit 19 = .ok (.iconst (-1), 1) := by decide +kernel
theorem dX6_admit_20 : decode cX6_admit 20 = .ok (.ireturn, 1) := by decide +kernel
theorem dX6_admit_21 : decode cX6_admit 21 = .ok (.aload_n 0, 1) := by decide +kernel
theorem dX6_admit_22 : decode cX6_admit 22 = .ok (.getfield 11, 3) := by decide +kernel
theorem dX6_admit_25 : decode cX6_admit 25 = .ok (.aload_n 0, 1) := by decide +kernel
theorem dX6_admit_26 : decode cX6_admit 26 = .ok (.getfield 21, 3) := by decide +kernel
theorem dX6_admit_29 : decode cX6_admit 29 = .ok (.new 9, 3) := by decide +kernel
theorem dX6_admit_32 : decode cX6_admit 32 = .ok (.dup, 1) := by decide +kernel
theorem dX6_admit_33 : decode cX6_admit 33 = .ok (.iload_n 1, 1) := by decide +kernel
theorem dX6_admit_34 : decode cX6_admit 34 = .ok (.invokespecial 25, 3) := by decide +kernel
theorem dX6_admit_37 : decode cX6_admit 37 = .ok (.aastore, 1) := by decide +kernel
theorem dX6_admit_38 : decode cX6_admit 38 = .ok (.aload_n 0, 1) := by decide +kernel
theorem dX6_admit_39 : decode cX6_admit 39 = .ok (.dup, 1) := by decide +kernel
theorem dX6_admit_40 : decode cX6_admit 40 = .ok (.getfield 21, 3) := by decide +kernel
theorem dX6_admit_43 : decode cX6_admit 43 = .ok (.iconst 1, 1) := by decide +kernel
theorem dX6_admit_44 : decode cX6_admit 44 = .ok (.iadd, 1) := by decide +kernel
theorem dX6_admit_45 : decode cX6_admit 45 = .ok (.putfield 21, 3) := by decide +kernel
theorem dX6_admit_48 : decode cX6_admit 48 = .ok (.aload_n 0, 1) := by decide +kernel
theorem dX6_admit_49 : decode cX6_admit 49 = .ok (.getfield 21, 3) := by decide +kernel
theorem dX6_admit_52 : decode cX6_admit 52 = .ok (.iconst 1, 1) := by decide +kernel
theorem dX6_admit_53 : decode cX6_admit 53 = .ok (.isub, 1) := by decide +kernel
theorem dX6_admit_54 : decode cX6_admit 54 = .ok (.ireturn, 1) := by decide +kernel
set_option maxRecDepth 20000 in
theorem ggX6_drawToTheMiddle_X6_at : GoodIn wsX6_drawToTheMiddle wsX6_at := goodIn_r _ [6, 7, 1, 21, 22, 23] (by decide +kernel) (by decide +kernel)
set_option maxRecDepth 20000 in
theorem gX6_drawToTheMiddle_X6_at : GoodIn wsX6_drawToTheMiddle (wsV RX6 28 RX6 yX6_at wsX6_at) := goodIn_app (goodIn_of _ (by decide +kernel)) ggX6_drawToTheMiddle_X6_at
set_option maxRecDepth 20000 in
theorem ggX6_drawToTheMiddle_X5_drawToTheMiddle : GoodIn wsX6_drawToTheMiddle wsX5_drawToTheMiddle := goodIn_r _ [12, 13, 14, 15, 16, 17, 18, 19, 20, 24, 25, 26, 27, 28] (by decide +kernel) (by decide +kernel)
set_option maxRecDepth 20000 in
theorem gX6_drawToTheMiddle_X5_drawToTheMiddle : GoodIn wsX6_drawToTheMiddle (wsV RX6 32 RX5 yX5_drawToTheMiddle wsX5_drawToTheMiddle) := goodIn_app (goodIn_of _ (by decide +kernel)) ggX6_drawToTheMiddle_X5_drawToTheMiddle
theorem dX6_drawToTheMiddle_0 : decode cX6_drawToTheMiddle 0 = .ok (.iconst 0, 1) := by decide +kernel
theorem dX6_drawToTheMiddle_1 : decode cX6_drawToTheMiddle 1 = .ok (.istore_n 1, 1) := by decide +kernel
theorem dX6_drawToTheMiddle_2 : decode cX6_drawToTheMiddle 2 = .ok (.iload_n 1, 1) := by decide +kernel
theorem dX6_drawToTheMiddle_3 : decode cX6_drawToTheMiddle 3 = .ok (.aload_n 0, 1) := by decide +kernel
theorem dX6_drawToTheMiddle_4 : decode cX6_drawToTheMiddle 4 = .ok (.getfield 11, 3) := by decide +kernel
theorem dX6_drawToTheMiddle_7 : decode cX6_drawToTheMiddle 7 = .ok (.arraylength, 1) := by decide +kernel
theorem dX6_drawToTheMiddle_8 : decode cX6_drawToTheMiddle 8 = .ok (.if_icmp .ge 23, 3) := by decide +kernel
theorem dX6_drawToTheMiddle_11 : decode cX6_drawToTheMiddle 11 = .ok (.aload_n 0, 1) := by decide +kernel
theorem dX6_drawToTheMiddle_12 : decode cX6_drawToTheMiddle 12 = .ok (.iload_n 1, 1) := by decide +kernel
theorem dX6_drawToTheMiddle_13 : decode cX6_drawToTheMiddle 13 = .ok (.invokevirtual 28, 3) := by decide +kernel
theorem dX6_drawToTheMiddle_16 : decode cX6_drawToTheMiddle 16 = .ok (.astore_n 2, 1) := by decide +kernel
theorem dX6_drawToTheMiddle_17 : decode cX6_drawToTheMiddle 17 = .ok (.aload_n 2, 1) := by decide +kernel
theorem dX6_drawToTheMiddle_18 : decode cX6_drawToTheMiddle 18 = .ok (.ifnull 7, 3) := by decide +kernel
theorem dX6_drawToTheMiddle_21 : decode cX6_drawToTheMiddle 21 = .ok (.aload_n 2, 1) := by decide +kernel
theorem dX6_drawToTheMiddle_22 : decode cX6_drawToTheMiddle 22 = .ok (.invokevirtual 32, 3) := by decide +kernel
theorem dX6_drawToTheMiddle_25 : decode cX6_drawToTheMiddle 25 = .ok (.iinc 1 1, 3) := by decide +kernel
theorem dX6_drawToTheMiddle_28 : decode cX6_drawToTheMiddle 28 = .ok (.goto (-26), 3) := by decide +kernel
theorem dX6_drawToTheMiddle_31 : decode cX6_drawToTheMiddle 31 = .ok (.return_, 1) := by decide +kernel
set_option maxRecDepth 20000 in
theorem ggX6_meansOf_X6_at : GoodIn wsX6_meansOf wsX6_at := goodIn_r _ [6, 7, 1, 17, 18, 19] (by decide +kernel) (by decide +kernel)
set_option maxRecDepth 20000 in
theorem gX6_meansOf_X6_at : GoodIn wsX6_meansOf (wsV RX6 28 RX6 yX6_at wsX6_at) := goodIn_app (goodIn_of _ (by decide +kernel)) ggX6_meansOf_X6_at
set_option maxRecDepth 20000 in
theorem ggX6_meansOf_X8_hasBit : GoodIn wsX6_meansOf wsX8_hasBit := goodIn_r _ [10] (by decide +kernel) (by decide +kernel)
set_option maxRecDepth 20000 in
theorem gX6_meansOf_X8_hasBit_n35 : GoodIn wsX6_meansOf (wsX8_hasBit) := ggX6_meansOf_X8_hasBit
set_option maxRecDepth 20000 in
theorem ggX6_meansOf_X5_ownMean : GoodIn wsX6_meansOf wsX5_ownMean := goodIn_r _ [15, 16, 20, 21, 22, 23, 24] (by decide +kernel) (by decide +kernel)
set_option maxRecDepth 20000 in
theorem gX6_meansOf_X5_ownMean : GoodIn wsX6_meansOf (wsV RX6 39 RX5 yX5_ownMean wsX5_ownMean) := goodIn_app (goodIn_of _ (by decide +kernel)) ggX6_meansOf_X5_ownMean
theorem dX6_meansOf_0 : decode cX6_meansOf 0 = .ok (.lconst 0, 1) := by decide +kernel
theorem dX6_meansOf_1 : decode cX6_meansOf 1 = .ok (.lstore_n 2, 1) := by decide +kernel
theorem dX6_meansOf_2 : decode cX6_meansOf 2 = .ok (.iconst 0, 1) := by decide +kernel
theorem dX6_meansOf_3 : decode cX6_meansOf 3 = .ok (.istore 4, 2) := by decide +kernel
theorem dX6_meansOf_5 : decode cX6_meansOf 5 = .ok (.iload 4, 2) := by decide +kernel
theorem dX6_meansOf_7 : decode cX6_meansOf 7 = .ok (.aload_n 0, 1) := by decide +kernel
theorem dX6_meansOf_8 : decode cX6_meansOf 8 = .ok (.getfield 11, 3) := by decide +kernel
theorem dX6_meansOf_11 : decode cX6_meansOf 11 = .ok (.arraylength, 1) := by decide +kernel
theorem dX6_meansOf_12 : decode cX6_meansOf 12 = .ok (.if_icmp .ge 39, 3) := by decide +kernel
theorem dX6_meansOf_15 : decode cX6_meansOf 15 = .ok (.aload_n 0, 1) := by decide +kernel
theorem dX6_meansOf_16 : decode cX6_meansOf 16 = .ok (.iload 4, 2) := by decide +kernel
theorem dX6_meansOf_18 : decode cX6_meansOf 18 = .ok (.invokevirtual 28, 3) := by decide +kernel
theorem dX6_meansOf_21 : decode cX6_meansOf 21 = .ok (.astore 5, 2) := by decide +kernel
theorem dX6_meansOf_23 : decode cX6_meansOf 23 = .ok (.aload 5, 2) := by decide +kernel
theorem dX6_meansOf_25 : decode cX6_meansOf 25 = .ok (.ifnull 20, 3) := by decide +kernel
theorem dX6_meansOf_28 : decode cX6_meansOf 28 = .ok (.iload_n 1, 1) := by decide +kernel
theorem dX6_meansOf_29 : decode cX6_meansOf 29 = .ok (.iload 4, 2) := by decide +kernel
theorem dX6_meansOf_31 : decode cX6_meansOf 31 = .ok (.invokestatic 35, 3) := by decide +kernel
theorem dX6_meansOf_34 : decode cX6_meansOf 34 = .ok (.ifCond .eq 11, 3) := by decide +kernel
theorem dX6_meansOf_37 : decode cX6_meansOf 37 = .ok (.lload_n 2, 1) := by decide +kernel
theorem dX6_meansOf_38 : decode cX6_meansOf 38 = .ok (.aload 5, 2) := by decide +kernel
theorem dX6_meansOf_40 : decode cX6_meansOf 40 = .ok (.invokevirtual 39, 3) := by decide +kernel
theorem dX6_meansOf_43 : decode cX6_meansOf 43 = .ok (.ladd, 1) := by decide +kernel
theorem dX6_meansOf_44 : decode cX6_meansOf 44 = .ok (.lstore_n 2, 1) := by decide +kernel
theorem dX6_meansOf_45 : decode cX6_meansOf 45 = .ok (.iinc 4 1, 3) := by decide +kernel
theorem dX6_meansOf_48 : decode cX6_meansOf 48 = .ok (.goto (-43), 3) := by decide +kernel
theorem dX6_meansOf_51 : decode cX6_meansOf 51 = .ok (.lload_n 2, 1) := by decide +kernel
theorem dX6_meansOf_52 : decode cX6_meansOf 52 = .ok (.lreturn, 1) := by decide +kernel
set_option maxRecDepth 20000 in
theorem ggX6_undoubted_X6_at : GoodIn wsX6_undoubted wsX6_at := goodIn_r _ [7, 8, 1, 14, 15, 16] (by decide +kernel) (by decide +kernel)
set_option maxRecDepth 20000 in
theorem gX6_undoubted_X6_at : GoodIn wsX6_undoubted (wsV RX6 28 RX6 yX6_at wsX6_at) := goodIn_app (goodIn_of _ (by decide +kernel)) ggX6_undoubted_X6_at
set_option maxRecDepth 20000 in
theorem ggX6_undoubted_X8_hasBit : GoodIn wsX6_undoubted wsX8_hasBit := goodIn_r _ [11] (by decide +kernel) (by decide +kernel)
set_option maxRecDepth 20000 in
theorem gX6_undoubted_X8_hasBit_n35 : GoodIn wsX6_undoubted (wsX8_hasBit) := ggX6_undoubted_X8_hasBit
set_option maxRecDepth 20000 in
theorem ggX6_undoubted_X8_bitOf : GoodIn wsX6_undoubted wsX8_bitOf := goodIn_r _ [13] (by decide +kernel) (by decide +kernel)
set_option maxRecDepth 20000 in
theorem gX6_undoubted_X8_bitOf_n46 : GoodIn wsX6_undoubted (wsX8_bitOf) := ggX6_undoubted_X8_bitOf
theorem dX6_undoubted_0 : decode cX6_undoubted 0 = .ok (.iconst 0, 1) := by decide +kernel
theorem dX6_undoubted_1 : decode cX6_undoubted 1 = .ok (.istore_n 2, 1) := by decide +kernel
theorem dX6_undoubted_2 : decode cX6_undoubted 2 = .ok (.iconst 0, 1) := by decide +kernel
theorem dX6_undoubted_3 : decode cX6_undoubted 3 = .ok (.istore_n 3, 1) := by decide +kernel
theorem dX6_undoubted_4 : decode cX6_undoubted 4 = .ok (.iload_n 3, 1) := by decide +kernel
theorem dX6_undoubted_5 : decode cX6_undoubted 5 = .ok (.aload_n 0, 1) := by decide +kernel
theorem dX6_undoubted_6 : decode cX6_undoubted 6 = .ok (.getfield 11, 3) := by decide +kernel
theorem dX6_undoubted_9 : decode cX6_undoubted 9 = .ok (.arraylength, 1) := by decide +kernel
theorem dX6_undoubted_10 : decode cX6_undoubted 10 = .ok (.if_icmp .ge 45, 3) := by decide +kernel
theorem dX6_undoubted_13 : decode cX6_undoubted 13 = .ok (.aload_n 0, 1) := by decide +kernel
theorem dX6_undoubted_14 : decode cX6_undoubted 14 = .ok (.iload_n 3, 1) := by decide +kernel
theorem dX6_undoubted_15 : decode cX6_undoubted 15 = .ok (.invokevirtual 28, 3) := by decide +kernel
theorem dX6_undoubted_18 : decode cX6_undoubted 18 = .ok (.astore 4, 2) := by decide +kernel
theorem dX6_undoubted_20 : decode cX6_undoubted 20 = .ok (.aload 4, 2) := by decide +kernel
theorem dX6_undoubted_22 : decode cX6_undoubted 22 = .ok (.ifnull 27, 3) := by decide +kernel
theorem dX6_undoubted_25 : decode cX6_undoubted 25 = .ok (.iload_n 1, 1) := by decide +kernel
theorem dX6_undoubted_26 : decode cX6_undoubted 26 = .ok (.iload_n 3, 1) := by decide +kernel
theorem dX6_undoubted_27 : decode cX6_undoubted 27 = .ok (.invokestatic 35, 3) := by decide +kernel
theorem dX6_undoubted_30 : decode cX6_undoubted 30 = .ok (.ifCond .eq 19, 3) := by decide +kernel
theorem dX6_undoubted_33 : decode cX6_undoubted 33 = .ok (.aload 4, 2) := by decide +kernel
theorem dX6_undoubted_35 : decode cX6_undoubted 35 = .ok (.getfield 43, 3) := by decide +kernel
theorem dX6_undoubted_38 : decode cX6_undoubted 38 = .ok (.iconst 2, 1) := by decide +kernel
theorem dX6_undoubted_39 : decode cX6_undoubted 39 = .ok (.if_icmp .eq 10, 3) := by decide +kernel
theorem dX6_undoubted_42 : decode cX6_undoubted 42 = .ok (.iload_n 2, 1) := by decide +kernel
theorem dX6_undoubted_43 : decode cX6_undoubted 43 = .ok (.iload_n 3, 1) := by decide +kernel
theorem dX6_undoubted_44 : decode cX6_undoubted 44 = .ok (.invokestatic 46, 3) := by decide +kernel
theorem dX6_undoubted_47 : decode cX6_undoubted 47 = .ok (.ior, 1) := by decide +kernel
theorem dX6_undoubted_48 : decode cX6_undoubted 48 = .ok (.istore_n 2, 1) := by decide +kernel
theorem dX6_undoubted_49 : decode cX6_undoubted 49 = .ok (.iinc 3 1, 3) := by decide +kernel
theorem dX6_undoubted_52 : decode cX6_undoubted 52 = .ok (.goto (-48), 3) := by decide +kernel
theorem dX6_undoubted_55 : decode cX6_undoubted 55 = .ok (.iload_n 2, 1) := by decide +kernel
theorem dX6_undoubted_56 : decode cX6_undoubted 56 = .ok (.ireturn, 1) := by decide +kernel
set_option maxRecDepth 20000 in
theorem ggX6_chanceAt_X6_at : GoodIn wsX6_chanceAt wsX6_at := goodIn_r _ [7, 8, 1, 18, 19, 20] (by decide +kernel) (by decide +kernel)
set_option maxRecDepth 20000 in
theorem gX6_chanceAt_X6_at : GoodIn wsX6_chanceAt (wsV RX6 28 RX6 yX6_at wsX6_at) := goodIn_app (goodIn_of _ (by decide +kernel)) ggX6_chanceAt_X6_at
set_option maxRecDepth 20000 in
theorem ggX6_chanceAt_X8_hasBit : GoodIn wsX6_chanceAt wsX8_hasBit := goodIn_r _ [11] (by decide +kernel) (by decide +kernel)
set_option maxRecDepth 20000 in
theorem gX6_chanceAt_X8_hasBit_n35 : GoodIn wsX6_chanceAt (wsX8_hasBit) := ggX6_chanceAt_X8_hasBit
set_option maxRecDepth 20000 in
theorem ggX6_chanceAt_X6_oddsAgainst : GoodIn wsX6_chanceAt wsX6_oddsAgainst := goodIn_r _ [14, 15, 16, 17, 21, 22, 23, 24, 25] (by decide +kernel) (by decide +kernel)
set_option maxRecDepth 20000 in
theorem gX6_chanceAt_X6_oddsAgainst : GoodIn wsX6_chanceAt (va_wsS RX6 50 yX6_oddsAgainst wsX6_oddsAgainst) := goodIn_app (goodIn_of _ (by decide +kernel)) ggX6_chanceAt_X6_oddsAgainst
theorem dX6_chanceAt_0 : decode cX6_chanceAt 0 = .ok (.lconst 0, 1) := by decide +kernel
theorem dX6_chanceAt_1 : decode cX6_chanceAt 1 = .ok (.lstore_n 3, 1) := by decide +kernel
theorem dX6_chanceAt_2 : decode cX6_chanceAt 2 = .ok (.lconst 0, 1) := by decide +kernel
theorem dX6_chanceAt_3 : decode cX6_chanceAt 3 = .ok (.lstore 5, 2) := by decide +kernel
theorem dX6_chanceAt_5 : decode cX6_chanceAt 5 = .ok (.iconst 0, 1) := by decide +kernel
theorem dX6_chanceAt_6 : decode cX6_chanceAt 6 = .ok (.istore 7, 2) := by decide +kernel
theorem dX6_chanceAt_8 : decode cX6_chanceAt 8 = .ok (.iload 7, 2) := by decide +kernel
theorem dX6_chanceAt_10 : decode cX6_chanceAt 10 = .ok (.aload_n 0, 1) := by decide +kernel
theorem dX6_chanceAt_11 : decode cX6_chanceAt 11 = .ok (.getfield 11, 3) := by decide +kernel
theorem dX6_chanceAt_14 : decode cX6_chanceAt 14 = .ok (.arraylength, 1) := by decide +kernel
theorem dX6_chanceAt_15 : decode cX6_chanceAt 15 = .ok (.if_icmp .ge 46, 3) := by decide +kernel
theorem dX6_chanceAt_18 : decode cX6_chanceAt 18 = .ok (.aload_n 0, 1) := by decide +kernel
theorem dX6_chanceAt_19 : decode cX6_chanceAt 19 = .ok (.iload 7, 2) := by decide +kernel
theorem dX6_chanceAt_21 : decode cX6_chanceAt 21 = .ok (.invokevirtual 28, 3) := by decide +kernel
theorem dX6_chanceAt_24 : decode cX6_chanceAt 24 = .ok (.astore 8, 2) := by decide +kernel
theorem dX6_chanceAt_26 : decode cX6_chanceAt 26 = .ok (.aload 8, 2) := by decide +kernel
theorem dX6_chanceAt_28 : decode cX6_chanceAt 28 = .ok (.ifnull 27, 3) := by decide +kernel
theorem dX6_chanceAt_31 : decode cX6_chanceAt 31 = .ok (.iload_n 2, 1) := by decide +kernel
theorem dX6_chanceAt_32 : decode cX6_chanceAt 32 = .ok (.iload 7, 2) := by decide +kernel
theorem dX6_chanceAt_34 : decode cX6_chanceAt 34 = .ok (.invokestatic 35, 3) := by decide +kernel
theorem dX6_chanceAt_37 : decode cX6_chanceAt 37 = .ok (.ifCond .eq 18, 3) := by decide +kernel
theorem dX6_chanceAt_40 : decode cX6_chanceAt 40 = .ok (.lload_n 3, 1) := by decide +kernel
theorem dX6_chanceAt_41 : decode cX6_chanceAt 41 = .ok (.iload_n 1, 1) := by decide +kernel
theorem dX6_chanceAt_42 : decode cX6_chanceAt 42 = .ok (.aload 8, 2) := by decide +kernel
theorem dX6_chanceAt_44 : decode cX6_chanceAt 44 = .ok (.invokestatic 50, 3) := by decide +kernel
theorem dX6_chanceAt_47 : decode cX6_chanceAt 47 = .ok (.ladd, 1) := by decide +kernel
theorem dX6_chanceAt_48 : decode cX6_chanceAt 48 = .ok (.lstore_n 3, 1) := by decide +kernel
theorem dX6_chanceAt_49 : decode cX6_chanceAt 49 = .ok (.lload 5, 2) := by decide +kernel
theorem dX6_chanceAt_51 : decode cX6_chanceAt 51 = .ok (.lconst 1, 1) := by decide +kernel
theorem dX6_chanceAt_52 : decode cX6_chanceAt 52 = .ok (.ladd, 1) := by decide +kernel
theorem dX6_chanceAt_53 : decode cX6_chanceAt 53 = .ok (.lstore 5, 2) := by decide +kernel
theorem dX6_chanceAt_55 : decode cX6_chanceAt 55 = .ok (.iinc 7 1, 3) := by decide +kernel
theorem dX6_chanceAt_58 : decode cX6_chanceAt 58 = .ok (.goto (-50), 3) := by decide +kernel
theorem dX6_chanceAt_61 : decode cX6_chanceAt 61 = .ok (.lload 5, 2) := by decide +kernel
theorem dX6_chanceAt_63 : decode cX6_chanceAt 63 = .ok (.lconst 0, 1) := by decide +kernel
theorem dX6_chanceAt_64 : decode cX6_chanceAt 64 = .ok (.lcmp, 1) := by decide +kernel
theorem dX6_chanceAt_65 : decode cX6_chanceAt 65 = .ok (.ifCond .le 14, 3) := by decide +kernel
theorem dX6_chanceAt_68 : decode cX6_chanceAt 68 = .ok (.lload_n 3, 1) := by decide +kernel
theorem dX6_chanceAt_69 : decode cX6_chanceAt 69 = .ok (.ldc2_w 54, 3) := by decide +kernel
theorem dX6_chanceAt_72 : decode cX6_chanceAt 72 = .ok (.lload 5, 2) := by decide +kernel
theorem dX6_chanceAt_74 : decode cX6_chanceAt 74 = .ok (.lmul, 1) := by decide +kernel
theorem dX6_chanceAt_75 : decode cX6_chanceAt 75 = .ok (.ldiv, 1) := by decide +kernel
theorem dX6_chanceAt_76 : decode cX6_chanceAt 76 = .ok (.goto 4, 3) := by decide +kernel
theorem dX6_chanceAt_79 : decode cX6_chanceAt 79 = .ok (.lconst 0, 1) := by decide +kernel
theorem dX6_chanceAt_80 : decode cX6_chanceAt 80 = .ok (.lreturn, 1) := by decide +kernel
theorem dX6_oddsAgainst_0 : decode cX6_oddsAgainst 0 = .ok (.lconst 0, 1) := by decide +kernel
theorem dX6_oddsAgainst_1 : decode cX6_oddsAgainst 1 = .ok (.lstore_n 2, 1) := by decide +kernel
theorem dX6_oddsAgainst_2 : decode cX6_oddsAgainst 2 = .ok (.iconst 0, 1) := by decide +kernel
theorem dX6_oddsAgainst_3 : decode cX6_oddsAgainst 3 = .ok (.istore 4, 2) := by decide +kernel
theorem dX6_oddsAgainst_5 : decode cX6_oddsAgainst 5 = .ok (.iload 4, 2) := by decide +kernel
theorem dX6_oddsAgainst_7 : decode cX6_oddsAgainst 7 = .ok (.aload_n 1, 1) := by decide +kernel
theorem dX6_oddsAgainst_8 : decode cX6_oddsAgainst 8 = .ok (.getfield 56, 3) := by decide +kernel
theorem dX6_oddsAgainst_11 : decode cX6_oddsAgainst 11 = .ok (.arraylength, 1) := by decide +kernel
theorem dX6_oddsAgainst_12 : decode cX6_oddsAgainst 12 = .ok (.if_icmp .ge 33, 3) := by decide +kernel
theorem dX6_oddsAgainst_15 : decode cX6_oddsAgainst 15 = .ok (.lload_n 2, 1) := by decide +kernel
theorem dX6_oddsAgainst_16 : decode cX6_oddsAgainst 16 = .ok (.aload_n 1, 1) := by decide +kernel
theorem dX6_oddsAgainst_17 : decode cX6_oddsAgainst 17 = .ok (.getfield 56, 3) := by decide +kernel
theorem dX6_oddsAgainst_20 : decode cX6_oddsAgainst 20 = .ok (.iload 4, 2) := by decide +kernel
theorem dX6_oddsAgainst_22 : decode cX6_oddsAgainst 22 = .ok (.laload, 1) := by decide +kernel
theorem dX6_oddsAgainst_23 : decode cX6_oddsAgainst 23 = .ok (.ldc2_w 59, 3) := by decide +kernel
theorem dX6_oddsAgainst_26 : decode cX6_oddsAgainst 26 = .ok (.ldc2_w 61, 3) := by decide +kernel
theorem dX6_oddsAgainst_29 : decode cX6_oddsAgainst 29 = .ok (.iload_n 0, 1) := by decide +kernel
theorem dX6_oddsAgainst_30 : decode cX6_oddsAgainst 30 = .ok (.iload 4, 2) := by decide +kernel
theorem dX6_oddsAgainst_32 : decode cX6_oddsAgainst 32 = .ok (.isub, 1) := by decide +kernel
theorem dX6_oddsAgainst_33 : decode cX6_oddsAgainst 33 = .ok (.i2l, 1) := by decide +kernel
theorem dX6_oddsAgainst_34 : decode cX6_oddsAgainst 34 = .ok (.lmul, 1) := by decide +kernel
theorem dX6_oddsAgainst_35 : decode cX6_oddsAgainst 35 = .ok (.ladd, 1) := by decide +kernel
theorem dX6_oddsAgainst_36 : decode cX6_oddsAgainst 36 = .ok (.lmul, 1) := by decide +kernel
theorem dX6_oddsAgainst_37 : decode cX6_oddsAgainst 37 = .ok (.ladd, 1) := by decide +kernel
theorem dX6_oddsAgainst_38 : decode cX6_oddsAgainst 38 = .ok (.lstore_n 2, 1) := by decide +kernel
theorem dX6_oddsAgainst_39 : decode cX6_oddsAgainst 39 = .ok (.iinc 4 1, 3) := by decide +kernel
theorem dX6_oddsAgainst_42 : decode cX6_oddsAgainst 42 = .ok (.goto (-37), 3) := by decide +kernel
theorem dX6_oddsAgainst_45 : decode cX6_oddsAgainst 45 = .ok (.lload_n 2, 1) := by decide +kernel
theorem dX6_oddsAgainst_46 : decode cX6_oddsAgainst 46 = .ok (.lreturn, 1) := by decide +kernel
set_option maxRecDepth 20000 in
theorem ggX6_chanceOf_X6_chanceAt : GoodIn wsX6_chanceOf wsX6_chanceAt := goodIn_r _ [7, 8, 9, 10, 11, 12, 6, 13, 14, 15, 16, 17, 18, 19, 20, 1, 21, 22, 28, 29, 30, 23, 24, 25, 26, 27] (by decide +kernel) (by decide +kernel)
set_option maxRecDepth 20000 in
theorem gX6_chanceOf_X6_chanceAt : GoodIn wsX6_chanceOf (wsV RX6 63 RX6 yX6_chanceAt wsX6_chanceAt) := goodIn_app (goodIn_of _ (by decide +kernel)) ggX6_chanceOf_X6_chanceAt
theorem dX6_chanceOf_0 : decode cX6_chanceOf 0 = .ok (.lconst 0, 1) := by decide +kernel
theorem dX6_chanceOf_1 : decode cX6_chanceOf 1 = .ok (.lstore_n 3, 1) := by decide +kernel
theorem dX6_chanceOf_2 : decode cX6_chanceOf 2 = .ok (.iconst 0, 1) := by decide +kernel
theorem dX6_chanceOf_3 : decode cX6_chanceOf 3 = .ok (.istore 5, 2) := by decide +kernel
theorem dX6_chanceOf_5 : decode cX6_chanceOf 5 = .ok (.iload 5, 2) := by decide +kernel
theorem dX6_chanceOf_7 : decode cX6_chanceOf 7 = .ok (.aload_n 1, 1) := by decide +kernel
theorem dX6_chanceOf_8 : decode cX6_chanceOf 8 = .ok (.getfield 56, 3) := by decide +kernel
theorem dX6_chanceOf_11 : decode cX6_chanceOf 11 = .ok (.arraylength, 1) := by decide +kernel
theorem dX6_chanceOf_12 : decode cX6_chanceOf 12 = .ok (.if_icmp .ge 27, 3) := by decide +kernel
theorem dX6_chanceOf_15 : decode cX6_chanceOf 15 = .ok (.lload_n 3, 1) := by decide +kernel
theorem dX6_chanceOf_16 : decode cX6_chanceOf 16 = .ok (.aload_n 1, 1) := by decide +kernel
theorem dX6_chanceOf_17 : decode cX6_chanceOf 17 = .ok (.getfield 56, 3) := by decide +kernel
theorem dX6_chanceOf_20 : decode cX6_chanceOf 20 = .ok (.iload 5, 2) := by decide +kernel
theorem dX6_chanceOf_22 : decode cX6_chanceOf 22 = .ok (.laload, 1) := by decide +kernel
theorem dX6_chanceOf_23 : decode cX6_chanceOf 23 = .ok (.aload_n 0, 1) := by decide +kernel
theorem dX6_chanceOf_24 : decode cX6_chanceOf 24 = .ok (.iload 5, 2) := by decide +kernel
theorem dX6_chanceOf_26 : decode cX6_chanceOf 26 = .ok (.iload_n 2, 1) := by decide +kernel
theorem dX6_chanceOf_27 : decode cX6_chanceOf 27 = .ok (.invokevirtual 63, 3) := by decide +kernel
theorem dX6_chanceOf_30 : decode cX6_chanceOf 30 = .ok (.lmul, 1) := by decide +kernel
theorem dX6_chanceOf_31 : decode cX6_chanceOf 31 = .ok (.ladd, 1) := by decide +kernel
theorem dX6_chanceOf_32 : decode cX6_chanceOf 32 = .ok (.lstore_n 3, 1) := by decide +kernel
theorem dX6_chanceOf_33 : decode cX6_chanceOf 33 = .ok (.iinc 5 1, 3) := by decide +kernel
theorem dX6_chanceOf_36 : decode cX6_chanceOf 36 = .ok (.goto (-31), 3) := by decide +kernel
theorem dX6_chanceOf_39 : decode cX6_chanceOf 39 = .ok (.lload_n 3, 1) := by decide +kernel
theorem dX6_chanceOf_40 : decode cX6_chanceOf 40 = .ok (.ldc2_w 67, 3) := by decide +kernel
theorem dX6_chanceOf_43 : decode cX6_chanceOf 43 = .ok (.ldiv, 1) := by decide +kernel
theorem dX6_chanceOf_44 : decode cX6_chanceOf 44 = .ok (.lreturn, 1) := by decide +kernel
set_option maxRecDepth 20000 in
theorem ggX6_teamChance_X6_at : GoodIn wsX6_teamChance wsX6_at := goodIn_r _ [6, 7, 1, 27, 28, 29] (by decide +kernel) (by decide +kernel)
set_option maxRecDepth 20000 in
theorem gX6_teamChance_X6_at : GoodIn wsX6_teamChance (wsV RX6 28 RX6 yX6_at wsX6_at) := goodIn_app (goodIn_of _ (by decide +kernel)) ggX6_teamChance_X6_at
set_option maxRecDepth 20000 in
theorem ggX6_teamChance_X8_hasBit : GoodIn wsX6_teamChance wsX8_hasBit := goodIn_r _ [10] (by decide +kernel) (by decide +kernel)
set_option maxRecDepth 20000 in
theorem gX6_teamChance_X8_hasBit_n35 : GoodIn wsX6_teamChance (wsX8_hasBit) := ggX6_teamChance_X8_hasBit
set_option maxRecDepth 20000 in
theorem ggX6_teamChance_X6_chanceOf : GoodIn wsX6_teamChance wsX6_chanceOf := goodIn_r _ [14, 15, 16, 17, 18, 19, 5, 20, 1, 21, 2, 3, 4, 6, 7, 8, 9, 10, 22, 23, 24, 25, 26, 30, 31, 32, 33, 34, 27, 28, 29] (by decide +kernel) (by decide +kernel)
set_option maxRecDepth 20000 in
theorem gX6_teamChance_X6_chanceOf : GoodIn wsX6_teamChance (wsV RX6 69 RX6 yX6_chanceOf wsX6_chanceOf) := goodIn_app (goodIn_of _ (by decide +kernel)) ggX6_teamChance_X6_chanceOf
theorem dX6_teamChance_0 : decode cX6_teamChance 0 = .ok (.lconst 0, 1) := by decide +kernel
theorem dX6_teamChance_1 : decode cX6_teamChance 1 = .ok (.lstore_n 3, 1) := by decide +kernel
theorem dX6_teamChance_2 : decode cX6_teamChance 2 = .ok (.lconst 0, 1) := by decide +kernel
theorem dX6_teamChance_3 : decode cX6_teamChance 3 = .ok (.lstore 5, 2) := by decide +kernel
theorem dX6_teamChance_5 : decode cX6_teamChance 5 = .ok (.iconst 0, 1) := by decide +kernel
theorem dX6_teamChance_6 : decode cX6_teamChance 6 = .ok (.istore 7, 2) := by decide +kernel
theorem dX6_teamChance_8 : decode cX6_teamChance 8 = .ok (.iload 7, 2) := by decide +kernel
theorem dX6_teamChance_10 : decode cX6_teamChance 10 = .ok (.aload_n 0, 1) := by decide +kernel
theorem dX6_teamChance_11 : decode cX6_teamChance 11 = .ok (.getfield 11, 3) := by decide +kernel
theorem dX6_teamChance_14 : decode cX6_teamChance 14 = .ok (.arraylength, 1) := by decide +kernel
theorem dX6_teamChance_15 : decode cX6_teamChance 15 = .ok (.if_icmp .ge 47, 3) := by decide +kernel
theorem dX6_teamChance_18 : decode cX6_teamChance 18 = .ok (.aload_n 0, 1) := by decide +kernel
theorem dX6_teamChance_19 : decode cX6_teamChance 19 = .ok (.iload 7, 2) := by decide +kernel
theorem dX6_teamChance_21 : decode cX6_teamChance 21 = .ok (.invokevirtual 28, 3) := by decide +kernel
theorem dX6_teamChance_24 : decode cX6_teamChance 24 = .ok (.astore 8, 2) := by decide +kernel
theorem dX6_teamChance_26 : decode cX6_teamChance 26 = .ok (.aload 8, 2) := by decide +kernel
theorem dX6_teamChance_28 : decode cX6_teamChance 28 = .ok (.ifnull 28, 3) := by decide +kernel
theorem dX6_teamChance_31 : decode cX6_teamChance 31 = .ok (.iload_n 1, 1) := by decide +kernel
theorem dX6_teamChance_32 : decode cX6_teamChance 32 = .ok (.iload 7, 2) := by decide +kernel
theorem dX6_teamChance_34 : decode cX6_teamChance 34 = .ok (.invokestatic 35, 3) := by decide +kernel
theorem dX6_teamChance_37 : decode cX6_teamChance 37 = .ok (.ifCond .eq 19, 3) := by decide +kernel
theorem dX6_teamChance_40 : decode cX6_teamChance 40 = .ok (.lload_n 3, 1) := by decide +kernel
theorem dX6_teamChance_41 : decode cX6_teamChance 41 = .ok (.aload_n 0, 1) := by decide +kernel
theorem dX6_teamChance_42 : decode cX6_teamChance 42 = .ok (.aload 8, 2) := by decide +kernel
theorem dX6_teamChance_44 : decode cX6_teamChance 44 = .ok (.iload_n 2, 1) := by decide +kernel
theorem dX6_teamChance_45 : decode cX6_teamChance 45 = .ok (.invokevirtual 69, 3) := by decide +kernel
theorem dX6_teamChance_48 : decode cX6_teamChance 48 = .ok (.ladd, 1) := by decide +kernel
theorem dX6_teamChance_49 : decode cX6_teamChance 49 = .ok (.lstore_n 3, 1) := by decide +kernel
theorem dX6_teamChance_50 : decode cX6_teamChance 50 = .ok (.lload 5, 2) := by decide +kernel
theorem dX6_teamChance_52 : decode cX6_teamChance 52 = .ok (.lconst 1, 1) := by decide +kernel
theorem dX6_teamChance_53 : decode cX6_teamChance 53 = .ok (.ladd, 1) := by decide +kernel
theorem dX6_teamChance_54 : decode cX6_teamChance 54 = .ok (.lstore 5, 2) := by decide +kernel
theorem dX6_teamChance_56 : decode cX6_teamChance 56 = .ok (.iinc 7 1, 3) := by decide +kernel
theorem dX6_teamChance_59 : decode cX6_teamChance 59 = .ok (.goto (-51), 3) := by decide +kernel
theorem dX6_teamChance_62 : decode cX6_teamChance 62 = .ok (.lload 5, 2) := by decide +kernel
theorem dX6_teamChance_64 : decode cX6_teamChance 64 = .ok (.lconst 0, 1) := by decide +kernel
theorem dX6_teamChance_65 : decode cX6_teamChance 65 = .ok (.lcmp, 1) := by decide +kernel
theorem dX6_teamChance_66 : decode cX6_teamChance 66 = .ok (.ifCond .le 10, 3) := by decide +kernel
theorem dX6_teamChance_69 : decode cX6_teamChance 69 = .ok (.lload_n 3, 1) := by decide +kernel
theorem dX6_teamChance_70 : decode cX6_teamChance 70 = .ok (.lload 5, 2) := by decide +kernel
theorem dX6_teamChance_72 : decode cX6_teamChance 72 = .ok (.ldiv, 1) := by decide +kernel
theorem dX6_teamChance_73 : decode cX6_teamChance 73 = .ok (.goto 4, 3) := by decide +kernel
theorem dX6_teamChance_76 : decode cX6_teamChance 76 = .ok (.lconst 0, 1) := by decide +kernel
theorem dX6_teamChance_77 : decode cX6_teamChance 77 = .ok (.lreturn, 1) := by decide +kernel
set_option maxRecDepth 20000 in
theorem ggX6_reckon_X6_undoubted : GoodIn wsX6_reckon wsX6_undoubted := goodIn_r _ [7, 8, 9, 10, 11, 12, 6, 13, 14, 15, 16, 17, 18, 19, 62, 63, 64, 65, 66, 67, 68, 69] (by decide +kernel) (by decide +kernel)
set_option maxRecDepth 20000 in
theorem gX6_reckon_X6_undoubted : GoodIn wsX6_reckon (wsV RX6 73 RX6 yX6_undoubted wsX6_undoubted) := goodIn_app (goodIn_of _ (by decide +kernel)) ggX6_reckon_X6_undoubted
set_option maxRecDepth 20000 in
theorem ggX6_reckon_X6_chanceOf : GoodIn wsX6_reckon wsX6_chanceOf := goodIn_r _ [23, 24, 25, 26, 27, 28, 6, 29, 8, 30, 10, 11, 12, 13, 14, 15, 16, 17, 31, 32, 33, 34, 35, 65, 66, 67, 68, 69, 62, 63, 64] (by decide +kernel) (by decide +kernel)
set_option maxRecDepth 20000 in
theorem gX6_reckon_X6_chanceOf : GoodIn wsX6_reckon (wsV RX6 69 RX6 yX6_chanceOf wsX6_chanceOf) := goodIn_app (goodIn_of _ (by decide +kernel)) ggX6_reckon_X6_chanceOf
set_option maxRecDepth 20000 in
theorem ggX6_reckon_X5_keepSurprise : GoodIn wsX6_reckon wsX5_keepSurprise := goodIn_r _ [40, 41, 42, 65, 66, 67, 68, 69] (by decide +kernel) (by decide +kernel)
set_option maxRecDepth 20000 in
theorem gX6_reckon_X5_keepSurprise : GoodIn wsX6_reckon (wsV RX6 78 RX5 yX5_keepSurprise wsX5_keepSurprise) := goodIn_app (goodIn_of _ (by decide +kernel)) ggX6_reckon_X5_keepSurprise
set_option maxRecDepth 20000 in
theorem ggX6_reckon_X6_chanceAt : GoodIn wsX6_reckon wsX6_chanceAt := goodIn_r _ [29, 8, 30, 10, 11, 12, 6, 13, 14, 15, 16, 17, 31, 32, 33, 24, 34, 35, 62, 63, 64, 65, 66, 67, 68, 69] (by decide +kernel) (by decide +kernel)
set_option maxRecDepth 20000 in
theorem gX6_reckon_X6_chanceAt : GoodIn wsX6_reckon (wsV RX6 63 RX6 yX6_chanceAt wsX6_chanceAt) := goodIn_app (goodIn_of _ (by decide +kernel)) ggX6_reckon_X6_chanceAt
set_option maxRecDepth 20000 in
theorem ggX6_reckon_X6_factorOf : GoodIn wsX6_reckon wsX6_factorOf := goodIn_r _ [45, 25] (by decide +kernel) (by decide +kernel)
set_option maxRecDepth 20000 in
theorem gX6_reckon_X6_factorOf : GoodIn wsX6_reckon (va_wsS RX6 82 yX6_factorOf wsX6_factorOf) := goodIn_app (goodIn_of _ (by decide +kernel)) ggX6_reckon_X6_factorOf
set_option maxRecDepth 20000 in
theorem ggX6_reckon_X5_reckonNext : GoodIn wsX6_reckon wsX5_reckonNext := goodIn_r _ [49, 50, 51, 52, 53, 54, 55, 39, 56, 57, 58, 59, 60, 61, 65, 66, 67, 68, 69] (by decide +kernel) (by decide +kernel)
set_option maxRecDepth 20000 in
theorem gX6_reckon_X5_reckonNext : GoodIn wsX6_reckon (wsV RX6 86 RX5 yX5_reckonNext wsX5_reckonNext) := goodIn_app (goodIn_of _ (by decide +kernel)) ggX6_reckon_X5_reckonNext
theorem dX6_reckon_0 : decode cX6_reckon 0 = .ok (.aload_n 0, 1) := by decide +kernel
theorem dX6_reckon_1 : decode cX6_reckon 1 = .ok (.iload_n 2, 1) := by decide +kernel
theorem dX6_reckon_2 : decode cX6_reckon 2 = .ok (.invokevirtual 73, 3) := by decide +kernel
theorem dX6_reckon_5 : decode cX6_reckon 5 = .ok (.istore 4, 2) := by decide +kernel
theorem dX6_reckon_7 : decode cX6_reckon 7 = .ok (.iload 4, 2) := by decide +kernel
theorem dX6_reckon_9 : decode cX6_reckon 9 = .ok (.ifCond .ne 5, 3) := by decide +kernel
theorem dX6_reckon_12 : decode cX6_reckon 12 = .ok (.iconst 0, 1) := by decide +kernel
theorem dX6_reckon_13 : decode cX6_reckon 13 = .ok (.ireturn, 1) := by decide +kernel
theorem dX6_reckon_14 : decode cX6_reckon 14 = .ok (.aload_n 1, 1) := by decide +kernel
theorem dX6_reckon_15 : decode cX6_reckon 15 = .ok (.ldc2_w 76, 3) := by decide +kernel
theorem dX6_reckon_18 : decode cX6_reckon 18 = .ok (.iload_n 3, 1) := by decide +kernel
theorem dX6_reckon_19 : decode cX6_reckon 19 = .ok (.i2l, 1) := by decide +kernel
theorem dX6_reckon_20 : decode cX6_reckon 20 = .ok (.lmul, 1) := by decide +kernel
theorem dX6_reckon_21 : decode cX6_reckon 21 = .ok (.aload_n 0, 1) := by decide +kernel
theorem dX6_reckon_22 : decode cX6_reckon 22 = .ok (.aload_n 1, 1) := by decide +kernel
theorem dX6_reckon_23 : decode cX6_reckon 23 = .ok (.iload 4, 2) := by decide +kernel
theorem dX6_reckon_25 : decode cX6_reckon 25 = .ok (.invokevirtual 69, 3) := by decide +kernel
theorem dX6_reckon_28 : decode cX6_reckon 28 = .ok (.lsub, 1) := by decide +kernel
theorem dX6_reckon_29 : decode cX6_reckon 29 = .ok (.invokevirtual 78, 3) := by decide +kernel
theorem dX6_reckon_32 : decode cX6_reckon 32 = .ok (.iconst 0, 1) := by decide +kernel
theorem dX6_reckon_33 : decode cX6_reckon 33 = .ok (.istore 5, 2) := by decide +kernel
theorem dX6_reckon_35 : decode cX6_reckon 35 = .ok (.iload 5, 2) := by decide +kernel
theorem dX6_reckon_37 : decode cX6_reckon 37 = .ok (.aload_n 0, 1) := by decide +kernel
theorem dX6_reckon_38 : decode cX6_reckon 38 = .ok (.getfield 17, 3) := by decide +kernel
theorem dX6_reckon_41 : decode cX6_reckon 41 = .ok (.arraylength, 1) := by decide +kernel
theorem dX6_reckon_42 : decode cX6_reckon 42 = .ok (.if_icmp .ge 28, 3) := by decide +kernel
theorem dX6_reckon_45 : decode cX6_reckon 45 = .ok (.aload_n 0, 1) := by decide +kernel
theorem dX6_reckon_46 : decode cX6_reckon 46 = .ok (.getfield 17, 3) := by decide +kernel
theorem dX6_reckon_49 : decode cX6_reckon 49 = .ok (.iload 5, 2) := by decide +kernel
theorem dX6_reckon_51 : decode cX6_reckon 51 = .ok (.aload_n 0, 1) := by decide +kernel
theorem dX6_reckon_52 : decode cX6_reckon 52 = .ok (.iload 5, 2) := by decide +kernel
theorem dX6_reckon_54 : decode cX6_reckon 54 = .ok (.iload 4, 2) := by decide +kernel
theorem dX6_reckon_56 : decode cX6_reckon 56 = .ok (.invokevirtual 63, 3) := by decide +kernel
theorem dX6_reckon_59 : decode cX6_reckon 59 = .ok (.iload_n 3, 1) := by decide +kernel
theorem dX6_reckon_60 : decode cX6_reckon 60 = .ok (.invokestatic 82, 3) := by decide +kernel
theorem dX6_reckon_63 : decode cX6_reckon 63 = .ok (.lastore, 1) := by decide +kernel
theorem dX6_reckon_64 : decode cX6_reckon 64 = .ok (.iinc 5 1, 3) := by decide +kernel
theorem dX6_reckon_67 : decode cX6_reckon 67 = .ok (.goto (-32), 3) := by decide +kernel
theorem dX6_reckon_70 : decode cX6_reckon 70 = .ok (.aload_n 1, 1) := by decide +kernel
theorem dX6_reckon_71 : decode cX6_reckon 71 = .ok (.aload_n 0, 1) := by decide +kernel
theorem dX6_reckon_72 : decode cX6_reckon 72 = .ok (.getfield 17, 3) := by decide +kernel
theorem dX6_reckon_75 : decode cX6_reckon 75 = .ok (.invokevirtual 86, 3) := by decide +kernel
theorem dX6_reckon_78 : decode cX6_reckon 78 = .ok (.iconst 1, 1) := by decide +kernel
theorem dX6_reckon_79 : decode cX6_reckon 79 = .ok (.ireturn, 1) := by decide +kernel
theorem dX6_factorOf_0 : decode cX6_factorOf 0 = .ok (.iload_n 2, 1) := by decide +kernel
theorem dX6_factorOf_1 : decode cX6_factorOf 1 = .ok (.iconst 2, 1) := by decide +kernel
theorem dX6_factorOf_2 : decode cX6_factorOf 2 = .ok (.if_icmp .ne 5, 3) := by decide +kernel
theorem dX6_factorOf_5 : decode cX6_factorOf 5 = .ok (.lload_n 0, 1) := by decide +kernel
theorem dX6_factorOf_6 : decode cX6_factorOf 6 = .ok (.lreturn, 1) := by decide +kernel
theorem dX6_factorOf_7 : decode cX6_factorOf 7 = .ok (.iload_n 2, 1) := by decide +kernel
theorem dX6_factorOf_8 : decode cX6_factorOf 8 = .ok (.iconst 1, 1) := by decide +kernel
theorem dX6_factorOf_9 : decode cX6_factorOf 9 = .ok (.if_icmp .ne 15, 3) := by decide +kernel
theorem dX6_factorOf_12 : decode cX6_factorOf 12 = .ok (.lload_n 0, 1) := by decide +kernel
theorem dX6_factorOf_13 : decode cX6_factorOf 13 = .ok (.ldc2_w 67, 3) := by decide +kernel
theorem dX6_factorOf_16 : decode cX6_factorOf 16 = .ok (.lload_n 0, 1) := by decide +kernel
theorem dX6_factorOf_17 : decode cX6_factorOf 17 = .ok (.lsub, 1) := by decide +kernel
theorem dX6_factorOf_18 : decode cX6_factorOf 18 = .ok (.lmul, 1) := by decide +kernel
theorem dX6_factorOf_19 : decode cX6_factorOf 19 = .ok (.ldc2_w 67, 3) := by decide +kernel
theorem dX6_factorOf_22 : decode cX6_factorOf 22 = .ok (.ldiv, 1) := by decide +kernel
theorem dX6_factorOf_23 : decode cX6_factorOf 23 = .ok (.lreturn, 1) := by decide +kernel
theorem dX6_factorOf_24 : decode cX6_factorOf 24 = .ok (.ldc2_w 67, 3) := by decide +kernel
theorem dX6_factorOf_27 : decode cX6_factorOf 27 = .ok (.lload_n 0, 1) := by decide +kernel
theorem dX6_factorOf_28 : decode cX6_factorOf 28 = .ok (.lsub, 1) := by decide +kernel
theorem dX6_factorOf_29 : decode cX6_factorOf 29 = .ok (.lreturn, 1) := by decide +kernel
set_option maxRecDepth 20000 in
theorem ggX6_reckonTeam_X6_at : GoodIn wsX6_reckonTeam wsX6_at := goodIn_r _ [6, 7, 1, 66, 67, 68] (by decide +kernel) (by decide +kernel)
set_option maxRecDepth 20000 in
theorem gX6_reckonTeam_X6_at : GoodIn wsX6_reckonTeam (wsV RX6 28 RX6 yX6_at wsX6_at) := goodIn_app (goodIn_of _ (by decide +kernel)) ggX6_reckonTeam_X6_at
set_option maxRecDepth 20000 in
theorem ggX6_reckonTeam_X8_hasBit : GoodIn wsX6_reckonTeam wsX8_hasBit := goodIn_r _ [10] (by decide +kernel) (by decide +kernel)
set_option maxRecDepth 20000 in
theorem gX6_reckonTeam_X8_hasBit_n35 : GoodIn wsX6_reckonTeam (wsX8_hasBit) := ggX6_reckonTeam_X8_hasBit
set_option maxRecDepth 20000 in
theorem ggX6_reckonTeam_X6_reckon : GoodIn wsX6_reckonTeam wsX6_reckon := goodIn_r _ [14, 15, 16, 17, 18, 19, 5, 20, 1, 21, 2, 3, 4, 6, 7, 8, 9, 10, 22, 23, 24, 25, 26, 27, 28, 29, 30, 31, 32, 33, 34, 35, 36, 37, 38, 39, 40, 41, 42, 43, 44, 45, 46, 47, 48, 49, 50, 51, 52, 53, 54, 55, 56, 57, 58, 59, 60, 61, 62, 63, 64, 65, 66, 67, 68, 69, 70, 71, 72, 73] (by decide +kernel) (by decide +kernel)
set_option maxRecDepth 20000 in
theorem gX6_reckonTeam_X6_reckon : GoodIn wsX6_reckonTeam (wsV RX6 90 RX6 yX6_reckon wsX6_reckon) := goodIn_app (goodIn_of _ (by decide +kernel)) ggX6_reckonTeam_X6_reckon
set_option maxRecDepth 20000 in
theorem ggX6_reckonTeam_X8_bitOf : GoodIn wsX6_reckonTeam wsX8_bitOf := goodIn_r _ [23] (by decide +kernel) (by decide +kernel)
set_option maxRecDepth 20000 in
theorem gX6_reckonTeam_X8_bitOf_n46 : GoodIn wsX6_reckonTeam (wsX8_bitOf) := ggX6_reckonTeam_X8_bitOf
theorem dX6_reckonTeam_0 : decode cX6_reckonTeam 0 = .ok (.iconst 0, 1) := by decide +kernel
theorem dX6_reckonTeam_1 : decode cX6_reckonTeam 1 = .ok (.istore 4, 2) := by decide +kernel
theorem dX6_reckonTeam_3 : decode cX6_reckonTeam 3 = .ok (.iconst 0, 1) := by decide +kernel
theorem dX6_reckonTeam_4 : decode cX6_reckonTeam 4 = .ok (.istore 5, 2) := by decide +kernel
theorem dX6_reckonTeam_6 : decode cX6_reckonTeam 6 = .ok (.iload 5, 2) := by decide +kernel
theorem dX6_reckonTeam_8 : decode cX6_reckonTeam 8 = .ok (.aload_n 0, 1) := by decide +kernel
theorem dX6_reckonTeam_9 : decode cX6_reckonTeam 9 = .ok (.getfield 11, 3) := by decide +kernel
theorem dX6_reckonTeam_12 : decode cX6_reckonTeam 12 = .ok (.arraylength, 1) := by decide +kernel
theorem dX6_reckonTeam_13 : decode cX6_reckonTeam 13 = .ok (.if_icmp .ge 52, 3) := by decide +kernel
theorem dX6_reckonTeam_16 : decode cX6_reckonTeam 16 = .ok (.aload_n 0, 1) := by decide +kernel
theorem dX6_reckonTeam_17 : decode cX6_reckonTeam 17 = .ok (.iload 5, 2) := by decide +kernel
theorem dX6_reckonTeam_19 : decode cX6_reckonTeam 19 = .ok (.invokevirtual 28, 3) := by decide +kernel
theorem dX6_reckonTeam_22 : decode cX6_reckonTeam 22 = .ok (.astore 6, 2) := by decide +kernel
theorem dX6_reckonTeam_24 : decode cX6_reckonTeam 24 = .ok (.aload 6, 2) := by decide +kernel
theorem dX6_reckonTeam_26 : decode cX6_reckonTeam 26 = .ok (.ifnull 33, 3) := by decide +kernel
theorem dX6_reckonTeam_29 : decode cX6_reckonTeam 29 = .ok (.iload_n 1, 1) := by decide +kernel
theorem dX6_reckonTeam_30 : decode cX6_reckonTeam 30 = .ok (.iload 5, 2) := by decide +kernel
theorem dX6_reckonTeam_32 : decode cX6_reckonTeam 32 = .ok (.invokestatic 35, 3) := by decide +kernel
theorem dX6_reckonTeam_35 : decode cX6_reckonTeam 35 = .ok (.ifCond .eq 24, 3) := by decide +kernel
theorem dX6_reckonTeam_38 : decode cX6_reckonTeam 38 = .ok (.aload_n 0, 1) := by decide +kernel
theorem dX6_reckonTeam_39 : decode cX6_reckonTeam 39 = .ok (.aload 6, 2) := by decide +kernel
theorem dX6_reckonTeam_41 : decode cX6_reckonTeam 41 = .ok (.iload_n 2, 1) := by decide +kernel
theorem dX6_reckonTeam_42 : decode cX6_reckonTeam 42 = .ok (.iload_n 3, 1) := by decide +kernel
theorem dX6_reckonTeam_43 : decode cX6_reckonTeam 43 = .ok (.invokevirtual 90, 3) := by decide +kernel
theorem dX6_reckonTeam_46 : decode cX6_reckonTeam 46 = .ok (.ifCond .eq 13, 3) := by decide +kernel
theorem dX6_reckonTeam_49 : decode cX6_reckonTeam 49 = .ok (.iload 4, 2) := by decide +kernel
theorem dX6_reckonTeam_51 : decode cX6_reckonTeam 51 = .ok (.iload 5, 2) := by decide +kernel
theorem dX6_reckonTeam_53 : decode cX6_reckonTeam 53 = .ok (.invokestatic 46, 3) := by decide +kernel
theorem dX6_reckonTeam_56 : decode cX6_reckonTeam 56 = .ok (.ior, 1) := by decide +kernel
theorem dX6_reckonTeam_57 : decode cX6_reckonTeam 57 = .ok (.istore 4, 2) := by decide +kernel
theorem dX6_reckonTeam_59 : decode cX6_reckonTeam 59 = .ok (.iinc 5 1, 3) := by decide +kernel
theorem dX6_reckonTeam_62 : decode cX6_reckonTeam 62 = .ok (.goto (-56), 3) := by decide +kernel
theorem dX6_reckonTeam_65 : decode cX6_reckonTeam 65 = .ok (.iload 4, 2) := by decide +kernel
theorem dX6_reckonTeam_67 : decode cX6_reckonTeam 67 = .ok (.ireturn, 1) := by decide +kernel
set_option maxRecDepth 20000 in
theorem ggX6_settleTeam_X6_at : GoodIn wsX6_settleTeam wsX6_at := goodIn_r _ [6, 7, 1, 18, 19, 20] (by decide +kernel) (by decide +kernel)
set_option maxRecDepth 20000 in
theorem gX6_settleTeam_X6_at : GoodIn wsX6_settleTeam (wsV RX6 28 RX6 yX6_at wsX6_at) := goodIn_app (goodIn_of _ (by decide +kernel)) ggX6_settleTeam_X6_at
set_option maxRecDepth 20000 in
theorem ggX6_settleTeam_X8_hasBit : GoodIn wsX6_settleTeam wsX8_hasBit := goodIn_r _ [10] (by decide +kernel) (by decide +kernel)
set_option maxRecDepth 20000 in
theorem gX6_settleTeam_X8_hasBit_n35 : GoodIn wsX6_settleTeam (wsX8_hasBit) := ggX6_settleTeam_X8_hasBit
set_option maxRecDepth 20000 in
theorem ggX6_settleTeam_X5_settle : GoodIn wsX6_settleTeam wsX5_settle := goodIn_r _ [15, 16, 17, 21, 22, 23, 24, 25] (by decide +kernel) (by decide +kernel)
set_option maxRecDepth 20000 in
theorem gX6_settleTeam_X5_settle : GoodIn wsX6_settleTeam (wsV RX6 94 RX5 yX5_settle wsX5_settle) := goodIn_app (goodIn_of _ (by decide +kernel)) ggX6_settleTeam_X5_settle
theorem dX6_settleTeam_0 : decode cX6_settleTeam 0 = .ok (.iconst 0, 1) := by decide +kernel
theorem dX6_settleTeam_1 : decode cX6_settleTeam 1 = .ok (.istore_n 2, 1) := by decide +kernel
theorem dX6_settleTeam_2 : decode cX6_settleTeam 2 = .ok (.iload_n 2, 1) := by decide +kernel
theorem dX6_settleTeam_3 : decode cX6_settleTeam 3 = .ok (.aload_n 0, 1) := by decide +kernel
theorem dX6_settleTeam_4 : decode cX6_settleTeam 4 = .ok (.getfield 11, 3) := by decide +kernel
theorem dX6_settleTeam_7 : decode cX6_settleTeam 7 = .ok (.arraylength, 1) := by decide +kernel
theorem dX6_settleTeam_8 : decode cX6_settleTeam 8 = .ok (.if_icmp .ge 31, 3) := by decide +kernel
theorem dX6_settleTeam_11 : decode cX6_settleTeam 11 = .ok (.aload_n 0, 1) := by decide +kernel
theorem dX6_settleTeam_12 : decode cX6_settleTeam 12 = .ok (.iload_n 2, 1) := by decide +kernel
theorem dX6_settleTeam_13 : decode cX6_settleTeam 13 = .ok (.invokevirtual 28, 3) := by decide +kernel
theorem dX6_settleTeam_16 : decode cX6_settleTeam 16 = .ok (.astore_n 3, 1) := by decide +kernel
theorem dX6_settleTeam_17 : decode cX6_settleTeam 17 = .ok (.aload_n 3, 1) := by decide +kernel
theorem dX6_settleTeam_18 : decode cX6_settleTeam 18 = .ok (.ifnull 15, 3) := by decide +kernel
theorem dX6_settleTeam_21 : decode cX6_settleTeam 21 = .ok (.iload_n 1, 1) := by decide +kernel
theorem dX6_settleTeam_22 : decode cX6_settleTeam 22 = .ok (.iload_n 2, 1) := by decide +kernel
theorem dX6_settleTeam_23 : decode cX6_settleTeam 23 = .ok (.invokestatic 35, 3) := by decide +kernel
theorem dX6_settleTeam_26 : decode cX6_settleTeam 26 = .ok (.ifCond .eq 7, 3) := by decide +kernel
theorem dX6_settleTeam_29 : decode cX6_settleTeam 29 = .ok (.aload_n 3, 1) := by decide +kernel
theorem dX6_settleTeam_30 : decode cX6_settleTeam 30 = .ok (.invokevirtual 94, 3) := by decide +kernel
theorem dX6_settleTeam_33 : decode cX6_settleTeam 33 = .ok (.iinc 2 1, 3) := by decide +kernel
theorem dX6_settleTeam_36 : decode cX6_settleTeam 36 = .ok (.goto (-34), 3) := by decide +kernel
theorem dX6_settleTeam_39 : decode cX6_settleTeam 39 = .ok (.return_, 1) := by decide +kernel
theorem dX7_init_0 : decode cX7_init 0 = .ok (.aload_n 0, 1) := by decide +kernel
theorem dX7_init_1 : decode cX7_init 1 = .ok (.invokespecial 3, 3) := by decide +kernel
theorem dX7_init_4 : decode cX7_init 4 = .ok (.aload_n 0, 1) := by decide +kernel
theorem dX7_init_5 : decode cX7_init 5 = .ok (.bipush 10, 2) := by decide +kernel
theorem dX7_init_7 : decode cX7_init 7 = .ok (.newarray .int, 2) := by decide +kernel
theorem dX7_init_9 : decode cX7_init 9 = .ok (.putfield 9, 3) := by decide +kernel
theorem dX7_init_12 : decode cX7_init 12 = .ok (.aload_n 0, 1) := by decide +kernel
theorem dX7_init_13 : decode cX7_init 13 = .ok (.bipush 10, 2) := by decide +kernel
theorem dX7_init_15 : decode cX7_init 15 = .ok (.newarray .long, 2) := by decide +kernel
theorem dX7_init_17 : decode cX7_init 17 = .ok (.putfield 15, 3) := by decide +kernel
theorem dX7_init_20 : decode cX7_init 20 = .ok (.aload_n 0, 1) := by decide +kernel
theorem dX7_init_21 : decode cX7_init 21 = .ok (.iconst 0, 1) := by decide +kernel
theorem dX7_init_22 : decode cX7_init 22 = .ok (.putfield 19, 3) := by decide +kernel
theorem dX7_init_25 : decode cX7_init 25 = .ok (.return_, 1) := by decide +kernel
set_option maxRecDepth 20000 in
theorem ggX7_copyOf_X7_partyAt : GoodIn wsX7_copyOf wsX7_partyAt := goodIn_r _ [8, 3, 1, 13, 14, 15] (by decide +kernel) (by decide +kernel)
set_option maxRecDepth 20000 in
theorem gX7_copyOf_X7_partyAt : GoodIn wsX7_copyOf (wsV RX7 23 RX7 yX7_partyAt wsX7_partyAt) := goodIn_app (goodIn_of _ (by decide +kernel)) ggX7_copyOf_X7_partyAt
set_option maxRecDepth 20000 in
theorem ggX7_copyOf_X7_sinceAt : GoodIn wsX7_copyOf wsX7_sinceAt := goodIn_r _ [12, 3, 2, 13, 14, 15] (by decide +kernel) (by decide +kernel)
set_option maxRecDepth 20000 in
theorem gX7_copyOf_X7_sinceAt : GoodIn wsX7_copyOf (wsV RX7 27 RX7 yX7_sinceAt wsX7_sinceAt) := goodIn_app (goodIn_of _ (by decide +kernel)) ggX7_copyOf_X7_sinceAt
theorem dX7_copyOf_0 : decode cX7_copyOf 0 = .ok (.iconst 0, 1) := by decide +kernel
theorem dX7_copyOf_1 : decode cX7_copyOf 1 = .ok (.istore_n 2, 1) := by decide +kernel
theorem dX7_copyOf_2 : decode cX7_copyOf 2 = .ok (.iload_n 2, 1) := by decide +kernel
theorem dX7_copyOf_3 : decode cX7_copyOf 3 = .ok (.aload_n 0, 1) := by decide +kernel
theorem dX7_copyOf_4 : decode cX7_copyOf 4 = .ok (.getfield 9, 3) := by decide +kernel
theorem dX7_copyOf_7 : decode cX7_copyOf 7 = .ok (.arraylength, 1) := by decide +kernel
theorem dX7_copyOf_8 : decode cX7_copyOf 8 = .ok (.if_icmp .ge 31, 3) := by decide +kernel
theorem dX7_copyOf_11 : decode cX7_copyOf 11 = .ok (.aload_n 0, 1) := by decide +kernel
theorem dX7_copyOf_12 : decode cX7_copyOf 12 = .ok (.getfield 9, 3) := by decide +kernel
theorem dX7_copyOf_15 : decode cX7_copyOf 15 = .ok (.iload_n 2, 1) := by decide +kernel
theorem dX7_copyOf_16 : decode cX7_copyOf 16 = .ok (.aload_n 1, 1) := by decide +kernel
theorem dX7_copyOf_17 : decode cX7_copyOf 17 = .ok (.iload_n 2, 1) := by decide +kernel
theorem dX7_copyOf_18 : decode cX7_copyOf 18 = .ok (.invokevirtual 23, 3) := by decide +kernel
theorem dX7_copyOf_21 : decode cX7_copyOf 21 = .ok (.iastore, 1) := by decide +kernel
theorem dX7_copyOf_22 : decode cX7_copyOf 22 = .ok (.aload_n 0, 1) := by decide +kernel
theorem dX7_copyOf_23 : decode cX7_copyOf 23 = .ok (.getfield 15, 3) := by decide +kernel
theorem dX7_copyOf_26 : decode cX7_copyOf 26 = .ok (.iload_n 2, 1) := by decide +kernel
theorem dX7_copyOf_27 : decode cX7_copyOf 27 = .ok (.aload_n 1, 1) := by decide +kernel
theorem dX7_copyOf_28 : decode cX7_copyOf 28 = .ok (.iload_n 2, 1) := by decide +kernel
theorem dX7_copyOf_29 : decode cX7_copyOf 29 = .ok (.invokevirtual 27, 3) := by decide +kernel
theorem dX7_copyOf_32 : decode cX7_copyOf 32 = .ok (.lastore, 1) := by decide +kernel
theorem dX7_copyOf_33 : decode cX7_copyOf 33 = .ok (.iinc 2 1, 3) := by decide +kernel
theorem dX7_copyOf_36 : decode cX7_copyOf 36 = .ok (.goto (-34), 3) := by decide +kernel
theorem dX7_copyOf_39 : decode cX7_copyOf 39 = .ok (.aload_n 0, 1) := by decide +kernel
theorem dX7_copyOf_40 : decode cX7_copyOf 40 = .ok (.aload_n 1, 1) := by decide +kernel
theorem dX7_copyOf_41 : decode cX7_copyOf 41 = .ok (.getfield 19, 3) := by decide +kernel
theorem dX7_copyOf_44 : decode cX7_copyOf 44 = .ok (.putfield 19, 3) := by decide +kernel
theorem dX7_copyOf_47 : decode cX7_copyOf 47 = .ok (.return_, 1) := by decide +kernel
theorem dX7_join_0 : decode cX7_join 0 = .ok (.aload_n 0, 1) := by decide +kernel
theorem dX7_join_1 : decode cX7_join 1 = .ok (.getfield 19, 3) := by decide +kernel
theorem dX7_join_4 : decode cX7_join 4 = .ok (.ifCond .lt 27, 3) := by decide +kernel
theorem dX7_join_7 : decode cX7_join 7 = .ok (.aload_n 0, 1) := by decide +kernel
theorem dX7_join_8 : decode cX7_join 8 = .ok (.getfield 19, 3) := by decide +kernel
theorem dX7_join_11 : decode cX7_join 11 = .ok (.aload_n 0, 1) := by decide +kernel
theorem dX7_join_12 : decode cX7_join 12 = .ok (.getfield 9, 3) := by decide +kernel
theorem dX7_join_15 : decode cX7_join 15 = .ok (.arraylength, 1) := by decide +kernel
theorem dX7_join_16 : decode cX7_join 16 = .ok (.if_icmp .ge 15, 3) := by decide +kernel
theorem dX7_join_19 : decode cX7_join 19 = .ok (.aload_n 0, 1) := by decide +kernel
theorem dX7_join_20 : decode cX7_join 20 = .ok (.getfield 19, 3) := by decide +kernel
theorem dX7_join_23 : decode cX7_join 23 = .ok (.aload_n 0, 1) := by decide +kernel
theorem dX7_join_24 : decode cX7_join 24 = .ok (.getfield 15, 3) := by decide +kernel
theorem dX7_join_27 : decode cX7_join 27 = .ok (.arraylength, 1) := by decide +kernel
theorem dX7_join_28 : decode cX7_join 28 = .ok (.if_icmp .lt 5, 3) := by decide +kernel
theorem dX7_join_31 : decode cX7_join 31 = .ok (.iconst 0, 1) := by decide +kernel
theorem dX7_join_32 : decode cX7_join 32 = .ok (.ireturn, 1) := by decide +kernel
theorem dX7_join_33 : decode cX7_join 33 = .ok (.aload_n 0, 1) := by decide +kernel
theorem dX7_join_34 : decode cX7_join 34 = .ok (.getfield 9, 3) := by decide +kernel
theorem dX7_join_37 : decode cX7_join 37 = .ok (.aload_n 0, 1) := by decide +kernel
theorem dX7_join_38 : decode cX7_join 38 = .ok (.getfield 19, 3) := by decide +kernel
theorem dX7_join_41 : decode cX7_join 41 = .ok (.iload_n 1, 1) := by decide +kernel
theorem dX7_join_42 : decode cX7_join 42 = .ok (.iastore, 1) := by decide +kernel
theorem dX7_join_43 : decode cX7_join 43 = .ok (.aload_n 0, 1) := by decide +kernel
theorem dX7_join_44 : decode cX7_join 44 = .ok (.getfield 15, 3) := by decide +kernel
theorem dX7_join_47 : decode cX7_join 47 = .ok (.aload_n 0, 1) := by decide +kernel
theorem dX7_join_48 : decode cX7_join 48 = .ok (.getfield 19, 3) := by decide +kernel
theorem dX7_join_51 : decode cX7_join 51 = .ok (.lload_n 2, 1) := by decide +kernel
theorem dX7_join_52 : decode cX7_join 52 = .ok (.lastore, 1) := by decide +kernel
theorem dX7_join_53 : decode cX7_join 53 = .ok (.aload_n 0, 1) := by decide +kernel
theorem dX7_join_54 : decode cX7_join 54 = .ok (.dup, 1) := by decide +kernel
theorem dX7_join_55 : decode cX7_join 55 = .ok (.getfield 19, 3) := by decide +kernel
theorem dX7_join_58 : decode cX7_join 58 = .ok (.iconst 1, 1) := by decide +kernel
theorem dX7_join_59 : decode cX7_join 59 = .ok (.iadd, 1) := by decide +kernel
theorem dX7_join_60 : decode cX7_join 60 = .ok (.putfield 19, 3) := by decide +kernel
theorem dX7_join_63 : decode cX7_join 63 = .ok (.iconst 1, 1) := by decide +kernel
theorem dX7_join_64 : decode cX7_join 64 = .ok (.ireturn, 1) := by decide +kernel
theorem dX7_partyAt_0 : decode cX7_partyAt 0 = .ok (.iload_n 1, 1) := by decide +kernel
theorem dX7_partyAt_1 : decode cX7_partyAt 1 = .ok (.ifCond .lt 29, 3) := by decide +kernel
theorem dX7_partyAt_4 : decode cX7_partyAt 4 = .ok (.iload_n 1, 1) := by decide +kernel
theorem dX7_partyAt_5 : decode cX7_partyAt 5 = .ok (.aload_n 0, 1) := by decide +kernel
theorem dX7_partyAt_6 : decode cX7_partyAt 6 = .ok (.getfield 19, 3) := by decide +kernel
theorem dX7_partyAt_9 : decode cX7_partyAt 9 = .ok (.if_icmp .ge 21, 3) := by decide +kernel
theorem dX7_partyAt_12 : decode cX7_partyAt 12 = .ok (.iload_n 1, 1) := by decide +kernel
theorem dX7_partyAt_13 : decode cX7_partyAt 13 = .ok (.aload_n 0, 1) := by decide +kernel
theorem dX7_partyAt_14 : decode cX7_partyAt 14 = .ok (.getfield 9, 3) := by decide +kernel
theorem dX7_partyAt_17 : decode cX7_partyAt 17 = .ok (.arraylength, 1) := by decide +kernel
theorem dX7_partyAt_18 : decode cX7_partyAt 18 = .ok (.if_icmp .ge 12, 3) := by decide +kernel
theorem dX7_partyAt_21 : decode cX7_partyAt 21 = .ok (.aload_n 0, 1) := by decide +kernel
theorem dX7_partyAt_22 : decode cX7_partyAt 22 = .ok (.getfield 9, 3) := by decide +kernel
theorem dX7_partyAt_25 : decode cX7_partyAt 25 = .ok (.iload_n 1, 1) := by decide +kernel
theorem dX7_partyAt_26 : decode cX7_partyAt 26 = .ok (.iaload, 1) := by decide +kernel
theorem dX7_partyAt_27 : decode cX7_partyAt 27 = .ok (.goto 4, 3) := by decide +kernel
theorem dX7_partyAt_30 : decode cX7_partyAt 30 = .ok (.iconst 0, 1) := by decide +kernel
theorem dX7_partyAt_31 : decode cX7_partyAt 31 = .ok (.ireturn, 1) := by decide +kernel
theorem dX7_sinceAt_0 : decode cX7_sinceAt 0 = .ok (.iload_n 1, 1) := by decide +kernel
theorem dX7_sinceAt_1 : decode cX7_sinceAt 1 = .ok (.ifCond .lt 29, 3) := by decide +kernel
theorem dX7_sinceAt_4 : decode cX7_sinceAt 4 = .ok (.iload_n 1, 1) := by decide +kernel
theorem dX7_sinceAt_5 : decode cX7_sinceAt 5 = .ok (.aload_n 0, 1) := by decide +kernel
theorem dX7_sinceAt_6 : decode cX7_sinceAt 6 = .ok (.getfield 19, 3) := by decide +kernel
theorem dX7_sinceAt_9 : decode cX7_sinceAt 9 = .ok (.if_icmp .ge 21, 3) := by decide +kernel
theorem dX7_sinceAt_12 : decode cX7_sinceAt 12 = .ok (.iload_n 1, 1) := by decide +kernel
theorem dX7_sinceAt_13 : decode cX7_sinceAt 13 = .ok (.aload_n 0, 1) := by decide +kernel
theorem dX7_sinceAt_14 : decode cX7_sinceAt 14 = .ok (.getfield 15, 3) := by decide +kernel
theorem dX7_sinceAt_17 : decode cX7_sinceAt 17 = .ok (.arraylength, 1) := by decide +kernel
theorem dX7_sinceAt_18 : decode cX7_sinceAt 18 = .ok (.if_icmp .ge 12, 3) := by decide +kernel
theorem dX7_sinceAt_21 : decode cX7_sinceAt 21 = .ok (.aload_n 0, 1) := by decide +kernel
theorem dX7_sinceAt_22 : decode cX7_sinceAt 22 = .ok (.getfield 15, 3) := by decide +kernel
theorem dX7_sinceAt_25 : decode cX7_sinceAt 25 = .ok (.iload_n 1, 1) := by decide +kernel
theorem dX7_sinceAt_26 : decode cX7_sinceAt 26 = .ok (.laload, 1) := by decide +kernel
theorem dX7_sinceAt_27 : decode cX7_sinceAt 27 = .ok (.goto 4, 3) := by decide +kernel
theorem dX7_sinceAt_30 : decode cX7_sinceAt 30 = .ok (.lconst 0, 1) := by decide +kernel
theorem dX7_sinceAt_31 : decode cX7_sinceAt 31 = .ok (.lreturn, 1) := by decide +kernel
set_option maxRecDepth 20000 in
theorem ggX7_everybody_X7_playersAt : GoodIn wsX7_everybody wsX7_playersAt := goodIn_r _ [5, 6, 7, 8, 9, 10, 11, 12, 4, 13, 14, 15, 16, 17] (by decide +kernel) (by decide +kernel)
set_option maxRecDepth 20000 in
theorem gX7_everybody_X7_playersAt : GoodIn wsX7_everybody (wsV RX7 31 RX7 yX7_playersAt wsX7_playersAt) := goodIn_app (goodIn_of _ (by decide +kernel)) ggX7_everybody_X7_playersAt
theorem dX7_everybody_0 : decode cX7_everybody 0 = .ok (.aload_n 0, 1) := by decide +kernel
theorem dX7_everybody_1 : decode cX7_everybody 1 = .ok (.iconst (-1), 1) := by decide +kernel
theorem dX7_everybody_2 : decode cX7_everybody 2 = .ok (.invokevirtual 31, 3) := by decide +kernel
theorem dX7_everybody_5 : decode cX7_everybody 5 = .ok (.ireturn, 1) := by decide +kernel
set_option maxRecDepth 20000 in
theorem ggX7_playersAt_X8_hasBit : GoodIn wsX7_playersAt wsX8_hasBit := goodIn_r _ [4] (by decide +kernel) (by decide +kernel)
set_option maxRecDepth 20000 in
theorem gX7_playersAt_X8_hasBit_n34 : GoodIn wsX7_playersAt (wsX8_hasBit) := ggX7_playersAt_X8_hasBit
set_option maxRecDepth 20000 in
theorem ggX7_playersAt_X7_partyAt : GoodIn wsX7_playersAt wsX7_partyAt := goodIn_r _ [9, 10, 1, 11, 12, 13] (by decide +kernel) (by decide +kernel)
set_option maxRecDepth 20000 in
theorem gX7_playersAt_X7_partyAt : GoodIn wsX7_playersAt (wsV RX7 23 RX7 yX7_partyAt wsX7_partyAt) := goodIn_app (goodIn_of _ (by decide +kernel)) ggX7_playersAt_X7_partyAt
theorem dX7_playersAt_0 : decode cX7_playersAt 0 = .ok (.iconst 0, 1) := by decide +kernel
theorem dX7_playersAt_1 : decode cX7_playersAt 1 = .ok (.istore_n 2, 1) := by decide +kernel
theorem dX7_playersAt_2 : decode cX7_playersAt 2 = .ok (.iconst 0, 1) := by decide +kernel
theorem dX7_playersAt_3 : decode cX7_playersAt 3 = .ok (.istore_n 3, 1) := by decide +kernel
theorem dX7_playersAt_4 : decode cX7_playersAt 4 = .ok (.iload_n 3, 1) := by decide +kernel
theorem dX7_playersAt_5 : decode cX7_playersAt 5 = .ok (.aload_n 0, 1) := by decide +kernel
theorem dX7_playersAt_6 : decode cX7_playersAt 6 = .ok (.getfield 9, 3) := by decide +kernel
theorem dX7_playersAt_9 : decode cX7_playersAt 9 = .ok (.arraylength, 1) := by decide +kernel
theorem dX7_playersAt_10 : decode cX7_playersAt 10 = .ok (.if_icmp .ge 25, 3) := by decide +kernel
theorem dX7_playersAt_13 : decode cX7_playersAt 13 = .ok (.iload_n 1, 1) := by decide +kernel
theorem dX7_playersAt_14 : decode cX7_playersAt 14 = .ok (.iload_n 3, 1) := by decide +kernel
theorem dX7_playersAt_15 : decode cX7_playersAt 15 = .ok (.invokestatic 34, 3) := by decide +kernel
theorem dX7_playersAt_18 : decode cX7_playersAt 18 = .ok (.ifCond .eq 11, 3) := by decide +kernel
theorem dX7_playersAt_21 : decode cX7_playersAt 21 = .ok (.iload_n 2, 1) := by decide +kernel
theorem dX7_playersAt_22 : decode cX7_playersAt 22 = .ok (.aload_n 0, 1) := by decide +kernel
theorem dX7_playersAt_23 : decode cX7_playersAt 23 = .ok (.iload_n 3, 1) := by decide +kernel
theorem dX7_playersAt_24 : decode cX7_playersAt 24 = .ok (.invokevirtual 23, 3) := by decide +kernel
theorem dX7_playersAt_27 : decode cX7_playersAt 27 = .ok (.ior, 1) := by decide +kernel
theorem dX7_playersAt_28 : decode cX7_playersAt 28 = .ok (.istore_n 2, 1) := by decide +kernel
theorem dX7_playersAt_29 : decode cX7_playersAt 29 = .ok (.iinc 3 1, 3) := by decide +kernel
theorem dX7_playersAt_32 : decode cX7_playersAt 32 = .ok (.goto (-28), 3) := by decide +kernel
theorem dX7_playersAt_35 : decode cX7_playersAt 35 = .ok (.iload_n 2, 1) := by decide +kernel
theorem dX7_playersAt_36 : decode cX7_playersAt 36 = .ok (.ireturn, 1) := by decide +kernel
set_option maxRecDepth 20000 in
theorem ggX7_placeOf_X7_partyAt : GoodIn wsX7_placeOf wsX7_partyAt := goodIn_r _ [6, 7, 1, 8, 9, 10] (by decide +kernel) (by decide +kernel)
set_option maxRecDepth 20000 in
theorem gX7_placeOf_X7_partyAt : GoodIn wsX7_placeOf (wsV RX7 23 RX7 yX7_partyAt wsX7_partyAt) := goodIn_app (goodIn_of _ (by decide +kernel)) ggX7_placeOf_X7_partyAt
theorem dX7_placeOf_0 : decode cX7_placeOf 0 = .ok (.iconst 0, 1) := by decide +kernel
theorem dX7_placeOf_1 : decode cX7_placeOf 1 = .ok (.istore_n 2, 1) := by decide +kernel
theorem dX7_placeOf_2 : decode cX7_placeOf 2 = .ok (.iload_n 2, 1) := by decide +kernel
theorem dX7_placeOf_3 : decode cX7_placeOf 3 = .ok (.aload_n 0, 1) := by decide +kernel
theorem dX7_placeOf_4 : decode cX7_placeOf 4 = .ok (.getfield 9, 3) := by decide +kernel
theorem dX7_placeOf_7 : decode cX7_placeOf 7 = .ok (.arraylength, 1) := by decide +kernel
theorem dX7_placeOf_8 : decode cX7_placeOf 8 = .ok (.if_icmp .ge 21, 3) := by decide +kernel
theorem dX7_placeOf_11 : decode cX7_placeOf 11 = .ok (.aload_n 0, 1) := by decide +kernel
theorem dX7_placeOf_12 : decode cX7_placeOf 12 = .ok (.iload_n 2, 1) := by decide +kernel
theorem dX7_placeOf_13 : decode cX7_placeOf 13 = .ok (.invokevirtual 23, 3) := by decide +kernel
theorem dX7_placeOf_16 : decode cX7_placeOf 16 = .ok (.iload_n 1, 1) := by decide +kernel
theorem dX7_placeOf_17 : decode cX7_placeOf 17 = .ok (.iand, 1) := by decide +kernel
theorem dX7_placeOf_18 : decode cX7_placeOf 18 = .ok (.ifCond .eq 5, 3) := by decide +kernel
theorem dX7_placeOf_21 : decode cX7_placeOf 21 = .ok (.iload_n 2, 1) := by decide +kernel
theorem dX7_placeOf_22 : decode cX7_placeOf 22 = .ok (.ireturn, 1) := by decide +kernel
theorem dX7_placeOf_23 : decode cX7_placeOf 23 = .ok (.iinc 2 1, 3) := by decide +kernel
theorem dX7_placeOf_26 : decode cX7_placeOf 26 = .ok (.goto (-24), 3) := by decide +kernel
theorem dX7_placeOf_29 : decode cX7_placeOf 29 = .ok (.iconst (-1), 1) := by decide +kernel
theorem dX7_placeOf_30 : decode cX7_placeOf 30 = .ok (.ireturn, 1) := by decide +kernel
set_option maxRecDepth 20000 in
theorem ggX7_release_X8_hasBit : GoodIn wsX7_release wsX8_hasBit := goodIn_r _ [6] (by decide +kernel) (by decide +kernel)
set_option maxRecDepth 20000 in
theorem gX7_release_X8_hasBit_n34 : GoodIn wsX7_release (wsX8_hasBit) := ggX7_release_X8_hasBit
theorem dX7_release_0 : decode cX7_release 0 = .ok (.iconst 0, 1) := by decide +kernel
theorem dX7_release_1 : decode cX7_release 1 = .ok (.istore_n 2, 1) := by decide +kernel
theorem dX7_release_2 : decode cX7_release 2 = .ok (.iconst 0, 1) := by decide +kernel
theorem dX7_release_3 : decode cX7_release 3 = .ok (.istore_n 3, 1) := by decide +kernel
theorem dX7_release_4 : decode cX7_release 4 = .ok (.iload_n 3, 1) := by decide +kernel
theorem dX7_release_5 : decode cX7_release 5 = .ok (.aload_n 0, 1) := by decide +kernel
theorem dX7_release_6 : decode cX7_release 6 = .ok (.getfield 19, 3) := by decide +kernel
theorem dX7_release_9 : decode cX7_release 9 = .ok (.if_icmp .ge 62, 3) := by decide +kernel
theorem dX7_release_12 : decode cX7_release 12 = .ok (.iload_n 3, 1) := by decide +kernel
theorem dX7_release_13 : decode cX7_release 13 = .ok (.aload_n 0, 1) := by decide +kernel
theorem dX7_release_14 : decode cX7_release 14 = .ok (.getfield 9, 3) := by decide +kernel
theorem dX7_release_17 : decode cX7_release 17 = .ok (.arraylength, 1) := by decide +kernel
theorem dX7_release_18 : decode cX7_release 18 = .ok (.if_icmp .ge 53, 3) := by decide +kernel
theorem dX7_release_21 : decode cX7_release 21 = .ok (.iload_n 3, 1) := by decide +kernel
theorem dX7_release_22 : decode cX7_release 22 = .ok (.aload_n 0, 1) := by decide +kernel
theorem dX7_release_23 : decode cX7_release 23 = .ok (.getfield 15, 3) := by decide +kernel
theorem dX7_release_26 : decode cX7_release 26 = .ok (.arraylength, 1) := by decide +kernel
theorem dX7_release_27 : decode cX7_release 27 = .ok (.if_icmp .ge 44, 3) := by decide +kernel
theorem dX7_release_30 : decode cX7_release 30 = .ok (.iload_n 1, 1) := by decide +kernel
theorem dX7_release_31 : decode cX7_release 31 = .ok (.iload_n 3, 1) := by decide +kernel
theorem dX7_release_32 : decode cX7_release 32 = .ok (.invokestatic 34, 3) := by decide +kernel
theorem dX7_release_35 : decode cX7_release 35 = .ok (.ifCond .ne 30, 3) := by decide +kernel
theorem dX7_release_38 : decode cX7_release 38 = .ok (.aload_n 0, 1) := by decide +kernel
theorem dX7_release_39 : decode cX7_release 39 = .ok (.getfield 9, 3) := by decide +kernel
theorem dX7_release_42 : decode cX7_release 42 = .ok (.iload_n 2, 1) := by decide +kernel
theorem dX7_release_43 : decode cX7_release 43 = .ok (.aload_n 0, 1) := by decide +kernel
theorem dX7_release_44 : decode cX7_release 44 = .ok (.getfield 9, 3) := by decide +kernel
theorem dX7_release_47 : decode cX7_release 47 = .ok (.iload_n 3, 1) := by decide +kernel
theorem dX7_release_48 : decode cX7_release 48 = .ok (.iaload, 1) := by decide +kernel
theorem dX7_release_49 : decode cX7_release 49 = .ok (.iastore, 1) := by decide +kernel
theorem dX7_release_50 : decode cX7_release 50 = .ok (.aload_n 0, 1) := by decide +kernel
theorem dX7_release_51 : decode cX7_release 51 = .ok (.getfield 15, 3) := by decide +kernel
theorem dX7_release_54 : decode cX7_release 54 = .ok (.iload_n 2, 1) := by decide +kernel
theorem dX7_release_55 : decode cX7_release 55 = .ok (.aload_n 0, 1) := by decide +kernel
theorem dX7_release_56 : decode cX7_release 56 = .ok (.getfield 15, 3) := by decide +kernel
theorem dX7_release_59 : decode cX7_release 59 = .ok (.iload_n 3, 1) := by decide +kernel
theorem dX7_release_60 : decode cX7_release 60 = .ok (.laload, 1) := by decide +kernel
theorem dX7_release_61 : decode cX7_release 61 = .ok (.lastore, 1) := by decide +kernel
theorem dX7_release_62 : decode cX7_release 62 = .ok (.iinc 2 1, 3) := by decide +kernel
theorem dX7_release_65 : decode cX7_release 65 = .ok (.iinc 3 1, 3) := by decide +kernel
theorem dX7_release_68 : decode cX7_release 68 = .ok (.goto (-64), 3) := by decide +kernel
theorem dX7_release_71 : decode cX7_release 71 = .ok (.aload_n 0, 1) := by decide +kernel
theorem dX7_release_72 : decode cX7_release 72 = .ok (.iload_n 2, 1) := by decide +kernel
theorem dX7_release_73 : decode cX7_release 73 = .ok (.putfield 19, 3) := by decide +kernel
theorem dX7_release_76 : decode cX7_release 76 = .ok (.return_, 1) := by decide +kernel
set_option maxRecDepth 20000 in
theorem ggX8_init_X6_init : GoodIn wsX8_init wsX6_init := goodIn_r _ [39, 40, 2, 3, 41, 42, 29, 43, 44, 97, 98, 99] (by decide +kernel) (by decide +kernel)
set_option maxRecDepth 20000 in
theorem gX8_init_X6_init : GoodIn wsX8_init (wsX6_init) := ggX8_init_X6_init
set_option maxRecDepth 20000 in
theorem ggX8_init_X7_init : GoodIn wsX8_init wsX7_init := goodIn_r _ [47, 48, 2, 3, 49, 50, 29, 51, 52, 113, 114, 115] (by decide +kernel) (by decide +kernel)
set_option maxRecDepth 20000 in
theorem gX8_init_X7_init : GoodIn wsX8_init (wsX7_init) := ggX8_init_X7_init
set_option maxRecDepth 20000 in
theorem ggX8_init_X3_init : GoodIn wsX8_init wsX3_init := goodIn_r _ [55, 56, 2, 3, 49, 57, 29, 58, 59, 60, 61, 62, 116, 117, 118, 119, 120, 121] (by decide +kernel) (by decide +kernel)
set_option maxRecDepth 20000 in
theorem gX8_init_X3_init : GoodIn wsX8_init (wsX3_init) := ggX8_init_X3_init
set_option maxRecDepth 20000 in
theorem ggX8_init_X4_init : GoodIn wsX8_init wsX4_init := goodIn_r _ [65, 66, 2, 3, 49, 67, 68, 69, 122, 123, 124] (by decide +kernel) (by decide +kernel)
set_option maxRecDepth 20000 in
theorem gX8_init_X4_init : GoodIn wsX8_init (wsX4_init) := ggX8_init_X4_init
set_option maxRecDepth 20000 in
theorem ggX8_init_X2_init : GoodIn wsX8_init wsX2_init := goodIn_r _ [72, 73, 2, 3, 74, 75, 76, 77, 78, 79, 80, 81, 82, 83, 84, 85, 86, 125, 126, 130, 131, 132, 133] (by decide +kernel) (by decide +kernel)
set_option maxRecDepth 20000 in
theorem gX8_init_X2_init : GoodIn wsX8_init (wsX2_init) := ggX8_init_X2_init
set_option maxRecDepth 20000 in
theorem ggX8_init_X0_init : GoodIn wsX8_init wsX0_init := goodIn_r _ [89, 90, 2, 3, 91, 92, 93, 94, 95, 96, 127, 128, 129] (by decide +kernel) (by decide +kernel)
set_option maxRecDepth 20000 in
theorem gX8_init_X0_init : GoodIn wsX8_init (wsX0_init) := ggX8_init_X0_init
end
section
theorem dX8_init_0 : decode cX8_init 0 = .ok (.aload_n 0, 1) := by decide +kernel
theorem dX8_init_1 : decode cX8_init 1 = .ok (.invokespecial 1, 3) := by decide +kernel
theorem dX8_init_4 : decode cX8_init 4 = .ok (.aload_n 0, 1) := by decide +kernel
theorem dX8_init_5 : decode cX8_init 5 = .ok (.new 7, 3) := by decide +kernel
theorem dX8_init_8 : decode cX8_init 8 = .ok (.dup, 1) := by decide +kernel
theorem dX8_init_9 : decode cX8_init 9 = .ok (.invokespecial 9, 3) := by decide +kernel
theorem dX8_init_12 : decode cX8_init 12 = .ok (.putfield 10, 3) := by decide +kernel
theorem dX8_init_15 : decode cX8_init 15 = .ok (.aload_n 0, 1) := by decide +kernel
theorem dX8_init_16 : decode cX8_init 16 = .ok (.new 16, 3) := by decide +kernel
theorem dX8_init_19 : decode cX8_init 19 = .ok (.dup, 1) := by decide +kernel
theorem dX8_init_20 : decode cX8_init 20 = .ok (.invokespecial 18, 3) := by decide +kernel
theorem dX8_init_23 : decode cX8_init 23 = .ok (.putfield 19, 3) := by decide +kernel
theorem dX8_init_26 : decode cX8_init 26 = .ok (.aload_n 0, 1) := by decide +kernel
theorem dX8_init_27 : decode cX8_init 27 = .ok (.new 16, 3) := by decide +kernel
theorem dX8_init_30 : decode cX8_init 30 = .ok (.dup, 1) := by decide +kernel
theorem dX8_init_31 : decode cX8_init 31 = .ok (.invokespecial 18, 3) := by decide +kernel
theorem dX8_init_34 : decode cX8_init 34 = .ok (.putfield 23, 3) := by decide +kernel
theorem dX8_init_37 : decode cX8_init 37 = .ok (.aload_n 0, 1) := by decide +kernel
theorem dX8_init_38 : decode cX8_init 38 = .ok (.new 26, 3) := by decide +kernel
theorem dX8_init_41 : decode cX8_init 41 = .ok (.dup, 1) := by decide +kernel
theorem dX8_init_42 : decode cX8_init 42 = .ok (.invokespecial 28, 3) := by decide +kernel
theorem dX8_init_45 : decode cX8_init 45 = .ok (.putfield 29, 3) := by decide +kernel
theorem dX8_init_48 : decode cX8_init 48 = .ok (.aload_n 0, 1) := by decide +kernel
theorem dX8_init_49 : decode cX8_init 49 = .ok (.new 33, 3) := by decide +kernel
theorem dX8_init_52 : decode cX8_init 52 = .ok (.dup, 1) := by decide +kernel
theorem dX8_init_53 : decode cX8_init 53 = .ok (.invokespecial 35, 3) := by decide +kernel
theorem dX8_init_56 : decode cX8_init 56 = .ok (.putfield 36, 3) := by decide +kernel
theorem dX8_init_59 : decode cX8_init 59 = .ok (.aload_n 0, 1) := by decide +kernel
theorem dX8_init_60 : decode cX8_init 60 = .ok (.new 40, 3) := by decide +kernel
theorem dX8_init_63 : decode cX8_init 63 = .ok (.dup, 1) := by decide +kernel
theorem dX8_init_64 : decode cX8_init 64 = .ok (.invokespecial 42, 3) := by decide +kernel
theorem dX8_init_67 : decode cX8_init 67 = .ok (.putfield 43, 3) := by decide +kernel
theorem dX8_init_70 : decode cX8_init 70 = .ok (.aload_n 0, 1) := by decide +kernel
theorem dX8_init_71 : decode cX8_init 71 = .ok (.new 47, 3) := by decide +kernel
theorem dX8_init_74 : decode cX8_init 74 = .ok (.dup, 1) := by decide +kernel
theorem dX8_init_75 : decode cX8_init 75 = .ok (.invokespecial 49, 3) := by decide +kernel
theorem dX8_init_78 : decode cX8_init 78 = .ok (.putfield 50, 3) := by decide +kernel
theorem dX8_init_81 : decode cX8_init 81 = .ok (.aload_n 0, 1) := by decide +kernel
theorem dX8_init_82 : decode cX8_init 82 = .ok (.bipush 20, 2) := by decide +kernel
theorem dX8_init_84 : decode cX8_init 84 = .ok (.newarray .long, 2) := by decide +kernel
theorem dX8_init_86 : decode cX8_init 86 = .ok (.putfield 54, 3) := by decide +kernel
theorem dX8_init_89 : decode cX8_init 89 = .ok (.aload_n 0, 1) := by decide +kernel
theorem dX8_init_90 : decode cX8_init 90 = .ok (.bipush 6, 2) := by decide +kernel
theorem dX8_init_92 : decode cX8_init 92 = .ok (.newarray .long, 2) := by decide +kernel
theorem dX8_init_94 : decode cX8_init 94 = .ok (.putfield 58, 3) := by decide +kernel
theorem dX8_init_97 : decode cX8_init 97 = .ok (.aload_n 0, 1) := by decide +kernel
theorem dX8_init_98 : decode cX8_init 98 = .ok (.iconst 0, 1) := by decide +kernel
theorem dX8_init_99 : decode cX8_init 99 = .ok (.putfield 61, 3) := by decide +kernel
theorem dX8_init_102 : decode cX8_init 102 = .ok (.aload_n 0, 1) := by decide +kernel
theorem dX8_init_103 : decode cX8_init 103 = .ok (.iconst 2, 1) := by decide +kernel
theorem dX8_init_104 : decode cX8_init 104 = .ok (.putfield 65, 3) := by decide +kernel
theorem dX8_init_107 : decode cX8_init 107 = .ok (.aload_n 0, 1) := by decide +kernel
theorem dX8_init_108 : decode cX8_init 108 = .ok (.ldc2_w 68, 3) := by decide +kernel
theorem dX8_init_111 : decode cX8_init 111 = .ok (.putfield 70, 3) := by decide +kernel
theorem dX8_init_114 : decode cX8_init 114 = .ok (.aload_n 0, 1) := by decide +kernel
theorem dX8_init_115 : decode cX8_init 115 = .ok (.lconst 0, 1) := by decide +kernel
theorem dX8_init_116 : decode cX8_init 116 = .ok (.putfield 74, 3) := by decide +kernel
theorem dX8_init_119 : decode cX8_init 119 = .ok (.return_, 1) := by decide +kernel
set_option maxRecDepth 20000 in
theorem ggX8_player_X8_isKind : GoodIn wsX8_player wsX8_isKind := goodIn_r _ [5] (by decide +kernel) (by decide +kernel)
set_option maxRecDepth 20000 in
theorem gX8_player_X8_isKind : GoodIn wsX8_player (va_wsS RX8 77 yX8_isKind wsX8_isKind) := goodIn_app (goodIn_of _ (by decide +kernel)) ggX8_player_X8_isKind
set_option maxRecDepth 20000 in
theorem ggX8_player_X8_finding : GoodIn wsX8_player wsX8_finding := goodIn_r _ [9, 10, 11, 38, 39, 40, 41, 42, 43, 44, 45, 46, 47, 48, 49, 50] (by decide +kernel) (by decide +kernel)
set_option maxRecDepth 20000 in
theorem gX8_player_X8_finding : GoodIn wsX8_player (wsV RX8 81 RX8 yX8_finding wsX8_finding) := goodIn_app (goodIn_of _ (by decide +kernel)) ggX8_player_X8_finding
set_option maxRecDepth 20000 in
theorem ggX8_player_X6_admit : GoodIn wsX8_player wsX6_admit := goodIn_r _ [16, 17, 18, 19, 20, 21, 22, 23, 24, 25, 26, 27, 28, 29, 30, 31, 32, 33, 34, 4, 35, 36, 37, 51, 52, 53, 54, 55, 56, 57, 58] (by decide +kernel) (by decide +kernel)
set_option maxRecDepth 20000 in
theorem gX8_player_X6_admit : GoodIn wsX8_player (wsV RX8 85 RX6 yX6_admit wsX6_admit) := goodIn_app (goodIn_of _ (by decide +kernel)) ggX8_player_X6_admit
theorem dX8_player_0 : decode cX8_player 0 = .ok (.iload_n 1, 1) := by decide +kernel
theorem dX8_player_1 : decode cX8_player 1 = .ok (.invokestatic 77, 3) := by decide +kernel
theorem dX8_player_4 : decode cX8_player 4 = .ok (.ifCond .ne 9, 3) := by decide +kernel
theorem dX8_player_7 : decode cX8_player 7 = .ok (.aload_n 0, 1) := by decide +kernel
theorem dX8_player_8 : decode cX8_player 8 = .ok (.iconst 1, 1) := by decide +kernel
theorem dX8_player_9 : decode cX8_player 9 = .ok (.invokevirtual 81, 3) := by decide +kernel
theorem dX8_player_12 : decode cX8_player 12 = .ok (.lreturn, 1) := by decide +kernel
theorem dX8_player_13 : decode cX8_player 13 = .ok (.aload_n 0, 1) := by decide +kernel
theorem dX8_player_14 : decode cX8_player 14 = .ok (.getfield 10, 3) := by decide +kernel
theorem dX8_player_17 : decode cX8_player 17 = .ok (.iload_n 1, 1) := by decide +kernel
theorem dX8_player_18 : decode cX8_player 18 = .ok (.invokevirtual 85, 3) := by decide +kernel
theorem dX8_player_21 : decode cX8_player 21 = .ok (.istore_n 2, 1) := by decide +kernel
theorem dX8_player_22 : decode cX8_player 22 = .ok (.iload_n 2, 1) := by decide +kernel
theorem dX8_player_23 : decode cX8_player 23 = .ok (.ifCond .ge 9, 3) := by decide +kernel
theorem dX8_player_26 : decode cX8_player 26 = .ok (.aload_n 0, 1) := by decide +kernel
theorem dX8_player_27 : decode cX8_player 27 = .ok (.iconst 4, 1) := by decide +kernel
theorem dX8_player_28 : decode cX8_player 28 = .ok (.invokevirtual 81, 3) := by decide +kernel
theorem dX8_player_31 : decode cX8_player 31 = .ok (.lreturn, 1) := by decide +kernel
theorem dX8_player_32 : decode cX8_player 32 = .ok (.iload_n 2, 1) := by decide +kernel
theorem dX8_player_33 : decode cX8_player 33 = .ok (.i2l, 1) := by decide +kernel
theorem dX8_player_34 : decode cX8_player 34 = .ok (.lreturn, 1) := by decide +kernel
set_option maxRecDepth 20000 in
theorem ggX8_become_X6_at : GoodIn wsX8_become wsX6_at := goodIn_r _ [7, 8, 9, 38, 39, 40] (by decide +kernel) (by decide +kernel)
set_option maxRecDepth 20000 in
theorem gX8_become_X6_at : GoodIn wsX8_become (wsV RX8 89 RX6 yX6_at wsX6_at) := goodIn_app (goodIn_of _ (by decide +kernel)) ggX8_become_X6_at
set_option maxRecDepth 20000 in
theorem ggX8_become_X8_isKind : GoodIn wsX8_become wsX8_isKind := goodIn_r _ [13] (by decide +kernel) (by decide +kernel)
set_option maxRecDepth 20000 in
theorem gX8_become_X8_isKind : GoodIn wsX8_become (va_wsS RX8 77 yX8_isKind wsX8_isKind) := goodIn_app (goodIn_of _ (by decide +kernel)) ggX8_become_X8_isKind
set_option maxRecDepth 20000 in
theorem ggX8_become_X8_finding : GoodIn wsX8_become wsX8_finding := goodIn_r _ [17, 18, 19, 20, 21, 22, 23, 24, 25, 26, 27, 28, 29, 30, 31, 32] (by decide +kernel) (by decide +kernel)
set_option maxRecDepth 20000 in
theorem gX8_become_X8_finding : GoodIn wsX8_become (wsV RX8 81 RX8 yX8_finding wsX8_finding) := goodIn_app (goodIn_of _ (by decide +kernel)) ggX8_become_X8_finding
theorem dX8_become_0 : decode cX8_become 0 = .ok (.aload_n 0, 1) := by decide +kernel
theorem dX8_become_1 : decode cX8_become 1 = .ok (.getfield 10, 3) := by decide +kernel
theorem dX8_become_4 : decode cX8_become 4 = .ok (.iload_n 1, 1) := by decide +kernel
theorem dX8_become_5 : decode cX8_become 5 = .ok (.invokevirtual 89, 3) := by decide +kernel
theorem dX8_become_8 : decode cX8_become 8 = .ok (.astore_n 3, 1) := by decide +kernel
theorem dX8_become_9 : decode cX8_become 9 = .ok (.aload_n 3, 1) := by decide +kernel
theorem dX8_become_10 : decode cX8_become 10 = .ok (.ifnull 10, 3) := by decide +kernel
theorem dX8_become_13 : decode cX8_become 13 = .ok (.iload_n 2, 1) := by decide +kernel
theorem dX8_become_14 : decode cX8_become 14 = .ok (.invokestatic 77, 3) := by decide +kernel
theorem dX8_become_17 : decode cX8_become 17 = .ok (.ifCond .ne 9, 3) := by decide +kernel
theorem dX8_become_20 : decode cX8_become 20 = .ok (.aload_n 0, 1) := by decide +kernel
theorem dX8_become_21 : decode cX8_become 21 = .ok (.iconst 1, 1) := by decide +kernel
theorem dX8_become_22 : decode cX8_become 22 = .ok (.invokevirtual 81, 3) := by decide +kernel
theorem dX8_become_25 : decode cX8_become 25 = .ok (.lreturn, 1) := by decide +kernel
theorem dX8_become_26 : decode cX8_become 26 = .ok (.aload_n 3, 1) := by decide +kernel
theorem dX8_become_27 : decode cX8_become 27 = .ok (.getfield 93, 3) := by decide +kernel
theorem dX8_become_30 : decode cX8_become 30 = .ok (.istore 4, 2) := by decide +kernel
theorem dX8_become_32 : decode cX8_become 32 = .ok (.aload_n 3, 1) := by decide +kernel
theorem dX8_become_33 : decode cX8_become 33 = .ok (.iload_n 2, 1) := by decide +kernel
theorem dX8_become_34 : decode cX8_become 34 = .ok (.putfield 93, 3) := by decide +kernel
theorem dX8_become_37 : decode cX8_become 37 = .ok (.iload 4, 2) := by decide +kernel
theorem dX8_become_39 : decode cX8_become 39 = .ok (.i2l, 1) := by decide +kernel
theorem dX8_become_40 : decode cX8_become 40 = .ok (.lreturn, 1) := by decide +kernel
set_option maxRecDepth 20000 in
theorem ggX8_as_X6_at : GoodIn wsX8_as wsX6_at := goodIn_r _ [7, 8, 9, 44, 45, 46] (by decide +kernel) (by decide +kernel)
set_option maxRecDepth 20000 in
theorem gX8_as_X6_at : GoodIn wsX8_as (wsV RX8 89 RX6 yX6_at wsX6_at) := goodIn_app (goodIn_of _ (by decide +kernel)) ggX8_as_X6_at
set_option maxRecDepth 20000 in
theorem ggX8_as_X8_isKind : GoodIn wsX8_as wsX8_isKind := goodIn_r _ [13] (by decide +kernel) (by decide +kernel)
set_option maxRecDepth 20000 in
theorem gX8_as_X8_isKind : GoodIn wsX8_as (va_wsS RX8 77 yX8_isKind wsX8_isKind) := goodIn_app (goodIn_of _ (by decide +kernel)) ggX8_as_X8_isKind
set_option maxRecDepth 20000 in
theorem ggX8_as_X8_finding : GoodIn wsX8_as wsX8_finding := goodIn_r _ [17, 18, 19, 26, 27, 28, 29, 30, 31, 32, 33, 34, 35, 36, 37, 38] (by decide +kernel) (by decide +kernel)
set_option maxRecDepth 20000 in
theorem gX8_as_X8_finding : GoodIn wsX8_as (wsV RX8 81 RX8 yX8_finding wsX8_finding) := goodIn_app (goodIn_of _ (by decide +kernel)) ggX8_as_X8_finding
set_option maxRecDepth 20000 in
theorem ggX8_as_X5_ownMean : GoodIn wsX8_as wsX5_ownMean := goodIn_r _ [24, 25, 39, 40, 41, 42, 43] (by decide +kernel) (by decide +kernel)
set_option maxRecDepth 20000 in
theorem gX8_as_X5_ownMean : GoodIn wsX8_as (wsV RX8 98 RX5 yX5_ownMean wsX5_ownMean) := goodIn_app (goodIn_of _ (by decide +kernel)) ggX8_as_X5_ownMean
theorem dX8_as_0 : decode cX8_as 0 = .ok (.aload_n 0, 1) := by decide +kernel
theorem dX8_as_1 : decode cX8_as 1 = .ok (.getfield 10, 3) := by decide +kernel
theorem dX8_as_4 : decode cX8_as 4 = .ok (.iload_n 1, 1) := by decide +kernel
theorem dX8_as_5 : decode cX8_as 5 = .ok (.invokevirtual 89, 3) := by decide +kernel
theorem dX8_as_8 : decode cX8_as 8 = .ok (.astore_n 3, 1) := by decide +kernel
theorem dX8_as_9 : decode cX8_as 9 = .ok (.aload_n 3, 1) := by decide +kernel
theorem dX8_as_10 : decode cX8_as 10 = .ok (.ifnull 10, 3) := by decide +kernel
theorem dX8_as_13 : decode cX8_as 13 = .ok (.iload_n 2, 1) := by decide +kernel
theorem dX8_as_14 : decode cX8_as 14 = .ok (.invokestatic 77, 3) := by decide +kernel
theorem dX8_as_17 : decode cX8_as 17 = .ok (.ifCond .ne 9, 3) := by decide +kernel
theorem dX8_as_20 : decode cX8_as 20 = .ok (.aload_n 0, 1) := by decide +kernel
theorem dX8_as_21 : decode cX8_as 21 = .ok (.iconst 1, 1) := by decide +kernel
theorem dX8_as_22 : decode cX8_as 22 = .ok (.invokevirtual 81, 3) := by decide +kernel
theorem dX8_as_25 : decode cX8_as 25 = .ok (.lreturn, 1) := by decide +kernel
theorem dX8_as_26 : decode cX8_as 26 = .ok (.iload_n 2, 1) := by decide +kernel
theorem dX8_as_27 : decode cX8_as 27 = .ok (.ifCond .eq 17, 3) := by decide +kernel
theorem dX8_as_30 : decode cX8_as 30 = .ok (.iload_n 2, 1) := by decide +kernel
theorem dX8_as_31 : decode cX8_as 31 = .ok (.aload_n 3, 1) := by decide +kernel
theorem dX8_as_32 : decode cX8_as 32 = .ok (.getfield 93, 3) := by decide +kernel
theorem dX8_as_35 : decode cX8_as 35 = .ok (.if_icmp .eq 9, 3) := by decide +kernel
theorem dX8_as_38 : decode cX8_as 38 = .ok (.aload_n 0, 1) := by decide +kernel
theorem dX8_as_39 : decode cX8_as 39 = .ok (.iconst 5, 1) := by decide +kernel
theorem dX8_as_40 : decode cX8_as 40 = .ok (.invokevirtual 81, 3) := by decide +kernel
theorem dX8_as_43 : decode cX8_as 43 = .ok (.lreturn, 1) := by decide +kernel
theorem dX8_as_44 : decode cX8_as 44 = .ok (.aload_n 3, 1) := by decide +kernel
theorem dX8_as_45 : decode cX8_as 45 = .ok (.invokevirtual 98, 3) := by decide +kernel
theorem dX8_as_48 : decode cX8_as 48 = .ok (.lreturn, 1) := by decide +kernel
set_option maxRecDepth 20000 in
theorem ggX8_share_X6_at : GoodIn wsX8_share wsX6_at := goodIn_r _ [7, 8, 9, 38, 39, 40] (by decide +kernel) (by decide +kernel)
set_option maxRecDepth 20000 in
theorem gX8_share_X6_at : GoodIn wsX8_share (wsV RX8 89 RX6 yX6_at wsX6_at) := goodIn_app (goodIn_of _ (by decide +kernel)) ggX8_share_X6_at
set_option maxRecDepth 20000 in
theorem ggX8_share_X8_isLevel : GoodIn wsX8_share wsX8_isLevel := goodIn_r _ [13] (by decide +kernel) (by decide +kernel)
set_option maxRecDepth 20000 in
theorem gX8_share_X8_isLevel : GoodIn wsX8_share (va_wsS RX8 102 yX8_isLevel wsX8_isLevel) := goodIn_app (goodIn_of _ (by decide +kernel)) ggX8_share_X8_isLevel
set_option maxRecDepth 20000 in
theorem ggX8_share_X8_finding : GoodIn wsX8_share wsX8_finding := goodIn_r _ [17, 18, 19, 20, 21, 22, 23, 24, 25, 26, 27, 28, 29, 30, 31, 32] (by decide +kernel) (by decide +kernel)
set_option maxRecDepth 20000 in
theorem gX8_share_X8_finding : GoodIn wsX8_share (wsV RX8 81 RX8 yX8_finding wsX8_finding) := goodIn_app (goodIn_of _ (by decide +kernel)) ggX8_share_X8_finding
theorem dX8_share_0 : decode cX8_share 0 = .ok (.aload_n 0, 1) := by decide +kernel
theorem dX8_share_1 : decode cX8_share 1 = .ok (.getfield 10, 3) := by decide +kernel
theorem dX8_share_4 : decode cX8_share 4 = .ok (.iload_n 1, 1) := by decide +kernel
theorem dX8_share_5 : decode cX8_share 5 = .ok (.invokevirtual 89, 3) := by decide +kernel
theorem dX8_share_8 : decode cX8_share 8 = .ok (.astore_n 3, 1) := by decide +kernel
theorem dX8_share_9 : decode cX8_share 9 = .ok (.aload_n 3, 1) := by decide +kernel
theorem dX8_share_10 : decode cX8_share 10 = .ok (.ifnull 10, 3) := by decide +kernel
theorem dX8_share_13 : decode cX8_share 13 = .ok (.iload_n 2, 1) := by decide +kernel
theorem dX8_share_14 : decode cX8_share 14 = .ok (.invokestatic 102, 3) := by decide +kernel
theorem dX8_share_17 : decode cX8_share 17 = .ok (.ifCond .ne 9, 3) := by decide +kernel
theorem dX8_share_20 : decode cX8_share 20 = .ok (.aload_n 0, 1) := by decide +kernel
theorem dX8_share_21 : decode cX8_share 21 = .ok (.iconst 1, 1) := by decide +kernel
theorem dX8_share_22 : decode cX8_share 22 = .ok (.invokevirtual 81, 3) := by decide +kernel
theorem dX8_share_25 : decode cX8_share 25 = .ok (.lreturn, 1) := by decide +kernel
theorem dX8_share_26 : decode cX8_share 26 = .ok (.aload_n 3, 1) := by decide +kernel
theorem dX8_share_27 : decode cX8_share 27 = .ok (.getfield 105, 3) := by decide +kernel
theorem dX8_share_30 : decode cX8_share 30 = .ok (.iload_n 2, 1) := by decide +kernel
theorem dX8_share_31 : decode cX8_share 31 = .ok (.laload, 1) := by decide +kernel
theorem dX8_share_32 : decode cX8_share 32 = .ok (.lreturn, 1) := by decide +kernel
set_option maxRecDepth 20000 in
theorem ggX8_shift_X6_at : GoodIn wsX8_shift wsX6_at := goodIn_r _ [7, 8, 9, 38, 39, 40] (by decide +kernel) (by decide +kernel)
set_option maxRecDepth 20000 in
theorem gX8_shift_X6_at : GoodIn wsX8_shift (wsV RX8 89 RX6 yX6_at wsX6_at) := goodIn_app (goodIn_of _ (by decide +kernel)) ggX8_shift_X6_at
set_option maxRecDepth 20000 in
theorem ggX8_shift_X8_isLevel : GoodIn wsX8_shift wsX8_isLevel := goodIn_r _ [13] (by decide +kernel) (by decide +kernel)
set_option maxRecDepth 20000 in
theorem gX8_shift_X8_isLevel : GoodIn wsX8_shift (va_wsS RX8 102 yX8_isLevel wsX8_isLevel) := goodIn_app (goodIn_of _ (by decide +kernel)) ggX8_shift_X8_isLevel
set_option maxRecDepth 20000 in
theorem ggX8_shift_X8_finding : GoodIn wsX8_shift wsX8_finding := goodIn_r _ [17, 18, 19, 20, 21, 22, 23, 24, 25, 26, 27, 28, 29, 30, 31, 32] (by decide +kernel) (by decide +kernel)
set_option maxRecDepth 20000 in
theorem gX8_shift_X8_finding : GoodIn wsX8_shift (wsV RX8 81 RX8 yX8_finding wsX8_finding) := goodIn_app (goodIn_of _ (by decide +kernel)) ggX8_shift_X8_finding
theorem dX8_shift_0 : decode cX8_shift 0 = .ok (.aload_n 0, 1) := by decide +kernel
theorem dX8_shift_1 : decode cX8_shift 1 = .ok (.getfield 10, 3) := by decide +kernel
theorem dX8_shift_4 : decode cX8_shift 4 = .ok (.iload_n 1, 1) := by decide +kernel
theorem dX8_shift_5 : decode cX8_shift 5 = .ok (.invokevirtual 89, 3) := by decide +kernel
theorem dX8_shift_8 : decode cX8_shift 8 = .ok (.astore 5, 2) := by decide +kernel
theorem dX8_shift_10 : decode cX8_shift 10 = .ok (.aload 5, 2) := by decide +kernel
theorem dX8_shift_12 : decode cX8_shift 12 = .ok (.ifnull 17, 3) := by decide +kernel
theorem dX8_shift_15 : decode cX8_shift 15 = .ok (.iload_n 2, 1) := by decide +kernel
theorem dX8_shift_16 : decode cX8_shift 16 = .ok (.invokestatic 102, 3) := by decide +kernel
theorem dX8_shift_19 : decode cX8_shift 19 = .ok (.ifCond .eq 10, 3) := by decide +kernel
theorem dX8_shift_22 : decode cX8_shift 22 = .ok (.iload_n 3, 1) := by decide +kernel
theorem dX8_shift_23 : decode cX8_shift 23 = .ok (.invokestatic 102, 3) := by decide +kernel
theorem dX8_shift_26 : decode cX8_shift 26 = .ok (.ifCond .ne 9, 3) := by decide +kernel
theorem dX8_shift_29 : decode cX8_shift 29 = .ok (.aload_n 0, 1) := by decide +kernel
theorem dX8_shift_30 : decode cX8_shift 30 = .ok (.iconst 1, 1) := by decide +kernel
theorem dX8_shift_31 : decode cX8_shift 31 = .ok (.invokevirtual 81, 3) := by decide +kernel
theorem dX8_shift_34 : decode cX8_shift 34 = .ok (.lreturn, 1) := by decide +kernel
theorem dX8_shift_35 : decode cX8_shift 35 = .ok (.iload 4, 2) := by decide +kernel
theorem dX8_shift_37 : decode cX8_shift 37 = .ok (.ifCond .lt 17, 3) := by decide +kernel
theorem dX8_shift_40 : decode cX8_shift 40 = .ok (.iload 4, 2) := by decide +kernel
theorem dX8_shift_42 : decode cX8_shift 42 = .ok (.i2l, 1) := by decide +kernel
theorem dX8_shift_43 : decode cX8_shift 43 = .ok (.aload 5, 2) := by decide +kernel
theorem dX8_shift_45 : decode cX8_shift 45 = .ok (.getfield 105, 3) := by decide +kernel
theorem dX8_shift_48 : decode cX8_shift 48 = .ok (.iload_n 2, 1) := by decide +kernel
theorem dX8_shift_49 : decode cX8_shift 49 = .ok (.laload, 1) := by decide +kernel
theorem dX8_shift_50 : decode cX8_shift 50 = .ok (.lcmp, 1) := by decide +kernel
theorem dX8_shift_51 : decode cX8_shift 51 = .ok (.ifCond .le 9, 3) := by decide +kernel
theorem dX8_shift_54 : decode cX8_shift 54 = .ok (.aload_n 0, 1) := by decide +kernel
theorem dX8_shift_55 : decode cX8_shift 55 = .ok (.iconst 1, 1) := by decide +kernel
theorem dX8_shift_56 : decode cX8_shift 56 = .ok (.invokevirtual 81, 3) := by decide +kernel
theorem dX8_shift_59 : decode cX8_shift 59 = .ok (.lreturn, 1) := by decide +kernel
theorem dX8_shift_60 : decode cX8_shift 60 = .ok (.aload 5, 2) := by decide +kernel
theorem dX8_shift_62 : decode cX8_shift 62 = .ok (.getfield 105, 3) := by decide +kernel
theorem dX8_shift_65 : decode cX8_shift 65 = .ok (.iload_n 2, 1) := by decide +kernel
theorem dX8_shift_66 : decode cX8_shift 66 = .ok (.dup2, 1) := by decide +kernel
theorem dX8_shift_67 : decode cX8_shift 67 = .ok (.laload, 1) := by decide +kernel
theorem dX8_shift_68 : decode cX8_shift 68 = .ok (.iload 4, 2) := by decide +kernel
theorem dX8_shift_70 : decode cX8_shift 70 = .ok (.i2l, 1) := by decide +kernel
theorem dX8_shift_71 : decode cX8_shift 71 = .ok (.lsub, 1) := by decide +kernel
theorem dX8_shift_72 : decode cX8_shift 72 = .ok (.lastore, 1) := by decide +kernel
theorem dX8_shift_73 : decode cX8_shift 73 = .ok (.aload 5, 2) := by decide +kernel
theorem dX8_shift_75 : decode cX8_shift 75 = .ok (.getfield 105, 3) := by decide +kernel
theorem dX8_shift_78 : decode cX8_shift 78 = .ok (.iload_n 3, 1) := by decide +kernel
theorem dX8_shift_79 : decode cX8_shift 79 = .ok (.dup2, 1) := by decide +kernel
theorem dX8_shift_80 : decode cX8_shift 80 = .ok (.laload, 1) := by decide +kernel
theorem dX8_shift_81 : decode cX8_shift 81 = .ok (.iload 4, 2) := by decide +kernel
theorem dX8_shift_83 : decode cX8_shift 83 = .ok (.i2l, 1) := by decide +kernel
theorem dX8_shift_84 : decode cX8_shift 84 = .ok (.ladd, 1) := by decide +kernel
theorem dX8_shift_85 : decode cX8_shift 85 = .ok (.lastore, 1) := by decide +kernel
theorem dX8_shift_86 : decode cX8_shift 86 = .ok (.aload 5, 2) := by decide +kernel
theorem dX8_shift_88 : decode cX8_shift 88 = .ok (.getfield 105, 3) := by decide +kernel
theorem dX8_shift_91 : decode cX8_shift 91 = .ok (.iload_n 3, 1) := by decide +kernel
theorem dX8_shift_92 : decode cX8_shift 92 = .ok (.laload, 1) := by decide +kernel
theorem dX8_shift_93 : decode cX8_shift 93 = .ok (.lreturn, 1) := by decide +kernel
set_option maxRecDepth 20000 in
theorem ggX8_mean_X6_at : GoodIn wsX8_mean wsX6_at := goodIn_r _ [6, 7, 8, 35, 36, 37] (by decide +kernel) (by decide +kernel)
set_option maxRecDepth 20000 in
theorem gX8_mean_X6_at : GoodIn wsX8_mean (wsV RX8 89 RX6 yX6_at wsX6_at) := goodIn_app (goodIn_of _ (by decide +kernel)) ggX8_mean_X6_at
set_option maxRecDepth 20000 in
theorem ggX8_mean_X8_finding : GoodIn wsX8_mean wsX8_finding := goodIn_r _ [13, 14, 15, 22, 23, 24, 25, 26, 27, 28, 29, 30, 31, 32, 33, 34] (by decide +kernel) (by decide +kernel)
set_option maxRecDepth 20000 in
theorem gX8_mean_X8_finding : GoodIn wsX8_mean (wsV RX8 81 RX8 yX8_finding wsX8_finding) := goodIn_app (goodIn_of _ (by decide +kernel)) ggX8_mean_X8_finding
set_option maxRecDepth 20000 in
theorem ggX8_mean_X5_ownMean : GoodIn wsX8_mean wsX5_ownMean := goodIn_r _ [20, 21, 38, 39, 40, 41, 42] (by decide +kernel) (by decide +kernel)
set_option maxRecDepth 20000 in
theorem gX8_mean_X5_ownMean : GoodIn wsX8_mean (wsV RX8 98 RX5 yX5_ownMean wsX5_ownMean) := goodIn_app (goodIn_of _ (by decide +kernel)) ggX8_mean_X5_ownMean
theorem dX8_mean_0 : decode cX8_mean 0 = .ok (.aload_n 0, 1) := by decide +kernel
theorem dX8_mean_1 : decode cX8_mean 1 = .ok (.getfield 10, 3) := by decide +kernel
theorem dX8_mean_4 : decode cX8_mean 4 = .ok (.iload_n 1, 1) := by decide +kernel
theorem dX8_mean_5 : decode cX8_mean 5 = .ok (.invokevirtual 89, 3) := by decide +kernel
theorem dX8_mean_8 : decode cX8_mean 8 = .ok (.astore_n 2, 1) := by decide +kernel
theorem dX8_mean_9 : decode cX8_mean 9 = .ok (.aload_n 2, 1) := by decide +kernel
theorem dX8_mean_10 : decode cX8_mean 10 = .ok (.ifnonnull 9, 3) := by decide +kernel
theorem dX8_mean_13 : decode cX8_mean 13 = .ok (.aload_n 0, 1) := by decide +kernel
theorem dX8_mean_14 : decode cX8_mean 14 = .ok (.iconst 1, 1) := by decide +kernel
theorem dX8_mean_15 : decode cX8_mean 15 = .ok (.invokevirtual 81, 3) := by decide +kernel
theorem dX8_mean_18 : decode cX8_mean 18 = .ok (.lreturn, 1) := by decide +kernel
theorem dX8_mean_19 : decode cX8_mean 19 = .ok (.aload_n 2, 1) := by decide +kernel
theorem dX8_mean_20 : decode cX8_mean 20 = .ok (.invokevirtual 98, 3) := by decide +kernel
theorem dX8_mean_23 : decode cX8_mean 23 = .ok (.lreturn, 1) := by decide +kernel
set_option maxRecDepth 20000 in
theorem ggX8_chance_X6_at : GoodIn wsX8_chance wsX6_at := goodIn_r _ [6, 7, 8, 51, 52, 53] (by decide +kernel) (by decide +kernel)
set_option maxRecDepth 20000 in
theorem gX8_chance_X6_at : GoodIn wsX8_chance (wsV RX8 89 RX6 yX6_at wsX6_at) := goodIn_app (goodIn_of _ (by decide +kernel)) ggX8_chance_X6_at
set_option maxRecDepth 20000 in
theorem ggX8_chance_X8_finding : GoodIn wsX8_chance wsX8_finding := goodIn_r _ [13, 14, 15, 38, 39, 40, 41, 42, 43, 44, 45, 46, 47, 48, 49, 50] (by decide +kernel) (by decide +kernel)
set_option maxRecDepth 20000 in
theorem gX8_chance_X8_finding : GoodIn wsX8_chance (wsV RX8 81 RX8 yX8_finding wsX8_finding) := goodIn_app (goodIn_of _ (by decide +kernel)) ggX8_chance_X8_finding
set_option maxRecDepth 20000 in
theorem ggX8_chance_X8_bitOf : GoodIn wsX8_chance wsX8_bitOf := goodIn_r _ [18] (by decide +kernel) (by decide +kernel)
set_option maxRecDepth 20000 in
theorem gX8_chance_X8_bitOf : GoodIn wsX8_chance (va_wsS RX8 108 yX8_bitOf wsX8_bitOf) := goodIn_app (goodIn_of _ (by decide +kernel)) ggX8_chance_X8_bitOf
set_option maxRecDepth 20000 in
theorem ggX8_chance_X6_chanceOf : GoodIn wsX8_chance wsX6_chanceOf := goodIn_r _ [22, 23, 24, 25, 26, 27, 5, 28, 8, 29, 30, 3, 4, 6, 7, 31, 12, 32, 33, 34, 35, 36, 37, 54, 55, 56, 57, 58, 51, 52, 53] (by decide +kernel) (by decide +kernel)
set_option maxRecDepth 20000 in
theorem gX8_chance_X6_chanceOf : GoodIn wsX8_chance (wsV RX8 111 RX6 yX6_chanceOf wsX6_chanceOf) := goodIn_app (goodIn_of _ (by decide +kernel)) ggX8_chance_X6_chanceOf
theorem dX8_chance_0 : decode cX8_chance 0 = .ok (.aload_n 0, 1) := by decide +kernel
theorem dX8_chance_1 : decode cX8_chance 1 = .ok (.getfield 10, 3) := by decide +kernel
theorem dX8_chance_4 : decode cX8_chance 4 = .ok (.iload_n 1, 1) := by decide +kernel
theorem dX8_chance_5 : decode cX8_chance 5 = .ok (.invokevirtual 89, 3) := by decide +kernel
theorem dX8_chance_8 : decode cX8_chance 8 = .ok (.astore_n 3, 1) := by decide +kernel
theorem dX8_chance_9 : decode cX8_chance 9 = .ok (.aload_n 3, 1) := by decide +kernel
theorem dX8_chance_10 : decode cX8_chance 10 = .ok (.ifnull 19, 3) := by decide +kernel
theorem dX8_chance_13 : decode cX8_chance 13 = .ok (.aload_n 0, 1) := by decide +kernel
theorem dX8_chance_14 : decode cX8_chance 14 = .ok (.getfield 10, 3) := by decide +kernel
theorem dX8_chance_17 : decode cX8_chance 17 = .ok (.iload_n 2, 1) := by decide +kernel
theorem dX8_chance_18 : decode cX8_chance 18 = .ok (.invokevirtual 89, 3) := by decide +kernel
theorem dX8_chance_21 : decode cX8_chance 21 = .ok (.ifnull 8, 3) := by decide +kernel
theorem dX8_chance_24 : decode cX8_chance 24 = .ok (.iload_n 1, 1) := by decide +kernel
theorem dX8_chance_25 : decode cX8_chance 25 = .ok (.iload_n 2, 1) := by decide +kernel
theorem dX8_chance_26 : decode cX8_chance 26 = .ok (.if_icmp .ne 9, 3) := by decide +kernel
theorem dX8_chance_29 : decode cX8_chance 29 = .ok (.aload_n 0, 1) := by decide +kernel
theorem dX8_chance_30 : decode cX8_chance 30 = .ok (.iconst 1, 1) := by decide +kernel
theorem dX8_chance_31 : decode cX8_chance 31 = .ok (.invokevirtual 81, 3) := by decide +kernel
theorem dX8_chance_34 : decode cX8_chance 34 = .ok (.lreturn, 1) := by decide +kernel
theorem dX8_chance_35 : decode cX8_chance 35 = .ok (.aload_n 0, 1) := by decide +kernel
theorem dX8_chance_36 : decode cX8_chance 36 = .ok (.getfield 10, 3) := by decide +kernel
theorem dX8_chance_39 : decode cX8_chance 39 = .ok (.aload_n 3, 1) := by decide +kernel
theorem dX8_chance_40 : decode cX8_chance 40 = .ok (.iload_n 2, 1) := by decide +kernel
theorem dX8_chance_41 : decode cX8_chance 41 = .ok (.invokestatic 108, 3) := by decide +kernel
theorem dX8_chance_44 : decode cX8_chance 44 = .ok (.invokevirtual 111, 3) := by decide +kernel
theorem dX8_chance_47 : decode cX8_chance 47 = .ok (.lreturn, 1) := by decide +kernel
set_option maxRecDepth 20000 in
theorem ggX8_season_X2_going : GoodIn wsX8_season wsX2_going := goodIn_r _ [8, 9, 10, 11, 12, 13, 14, 15, 62, 63, 64, 65, 66, 67] (by decide +kernel) (by decide +kernel)
set_option maxRecDepth 20000 in
theorem gX8_season_X2_going : GoodIn wsX8_season (wsV RX8 115 RX2 yX2_going wsX2_going) := goodIn_app (goodIn_of _ (by decide +kernel)) ggX8_season_X2_going
set_option maxRecDepth 20000 in
theorem ggX8_season_X8_finding : GoodIn wsX8_season wsX8_finding := goodIn_r _ [20, 21, 22, 46, 47, 48, 49, 50, 51, 52, 53, 54, 55, 56, 57, 58] (by decide +kernel) (by decide +kernel)
set_option maxRecDepth 20000 in
theorem gX8_season_X8_finding : GoodIn wsX8_season (wsV RX8 81 RX8 yX8_finding wsX8_finding) := goodIn_app (goodIn_of _ (by decide +kernel)) ggX8_season_X8_finding
set_option maxRecDepth 20000 in
theorem ggX8_season_X6_drawToTheMiddle : GoodIn wsX8_season wsX6_drawToTheMiddle := goodIn_r _ [27, 28, 29, 30, 31, 26, 32, 33, 34, 35, 36, 37, 38, 39, 40, 41, 42, 19, 43, 44, 45, 59, 60, 61, 68, 69, 70, 71, 72] (by decide +kernel) (by decide +kernel)
set_option maxRecDepth 20000 in
theorem gX8_season_X6_drawToTheMiddle : GoodIn wsX8_season (wsV RX8 119 RX6 yX6_drawToTheMiddle wsX6_drawToTheMiddle) := goodIn_app (goodIn_of _ (by decide +kernel)) ggX8_season_X6_drawToTheMiddle
theorem dX8_season_0 : decode cX8_season 0 = .ok (.aload_n 0, 1) := by decide +kernel
theorem dX8_season_1 : decode cX8_season 1 = .ok (.getfield 43, 3) := by decide +kernel
theorem dX8_season_4 : decode cX8_season 4 = .ok (.invokevirtual 115, 3) := by decide +kernel
theorem dX8_season_7 : decode cX8_season 7 = .ok (.ifCond .le 9, 3) := by decide +kernel
theorem dX8_season_10 : decode cX8_season 10 = .ok (.aload_n 0, 1) := by decide +kernel
theorem dX8_season_11 : decode cX8_season 11 = .ok (.iconst 3, 1) := by decide +kernel
theorem dX8_season_12 : decode cX8_season 12 = .ok (.invokevirtual 81, 3) := by decide +kernel
theorem dX8_season_15 : decode cX8_season 15 = .ok (.lreturn, 1) := by decide +kernel
theorem dX8_season_16 : decode cX8_season 16 = .ok (.aload_n 0, 1) := by decide +kernel
theorem dX8_season_17 : decode cX8_season 17 = .ok (.getfield 10, 3) := by decide +kernel
theorem dX8_season_20 : decode cX8_season 20 = .ok (.invokevirtual 119, 3) := by decide +kernel
theorem dX8_season_23 : decode cX8_season 23 = .ok (.aload_n 0, 1) := by decide +kernel
theorem dX8_season_24 : decode cX8_season 24 = .ok (.getfield 10, 3) := by decide +kernel
theorem dX8_season_27 : decode cX8_season 27 = .ok (.getfield 122, 3) := by decide +kernel
theorem dX8_season_30 : decode cX8_season 30 = .ok (.i2l, 1) := by decide +kernel
theorem dX8_season_31 : decode cX8_season 31 = .ok (.lreturn, 1) := by decide +kernel
set_option maxRecDepth 20000 in
theorem ggX8_size_X8_finding : GoodIn wsX8_size wsX8_finding := goodIn_r _ [9, 10, 11, 24, 25, 26, 27, 28, 29, 30, 31, 32, 33, 34, 35, 36] (by decide +kernel) (by decide +kernel)
set_option maxRecDepth 20000 in
theorem gX8_size_X8_finding : GoodIn wsX8_size (wsV RX8 81 RX8 yX8_finding wsX8_finding) := goodIn_app (goodIn_of _ (by decide +kernel)) ggX8_size_X8_finding
set_option maxRecDepth 20000 in
theorem ggX8_size_X2_going : GoodIn wsX8_size wsX2_going := goodIn_r _ [16, 17, 18, 19, 20, 21, 22, 23, 40, 41, 42, 43, 44, 45] (by decide +kernel) (by decide +kernel)
set_option maxRecDepth 20000 in
theorem gX8_size_X2_going : GoodIn wsX8_size (wsV RX8 115 RX2 yX2_going wsX2_going) := goodIn_app (goodIn_of _ (by decide +kernel)) ggX8_size_X2_going
theorem dX8_size_0 : decode cX8_size 0 = .ok (.iload_n 1, 1) := by decide +kernel
theorem dX8_size_1 : decode cX8_size 1 = .ok (.iconst 1, 1) := by decide +kernel
theorem dX8_size_2 : decode cX8_size 2 = .ok (.if_icmp .lt 8, 3) := by decide +kernel
theorem dX8_size_5 : decode cX8_size 5 = .ok (.iload_n 1, 1) := by decide +kernel
theorem dX8_size_6 : decode cX8_size 6 = .ok (.iconst 3, 1) := by decide +kernel
theorem dX8_size_7 : decode cX8_size 7 = .ok (.if_icmp .le 9, 3) := by decide +kernel
theorem dX8_size_10 : decode cX8_size 10 = .ok (.aload_n 0, 1) := by decide +kernel
theorem dX8_size_11 : decode cX8_size 11 = .ok (.iconst 1, 1) := by decide +kernel
theorem dX8_size_12 : decode cX8_size 12 = .ok (.invokevirtual 81, 3) := by decide +kernel
theorem dX8_size_15 : decode cX8_size 15 = .ok (.lreturn, 1) := by decide +kernel
theorem dX8_size_16 : decode cX8_size 16 = .ok (.aload_n 0, 1) := by decide +kernel
theorem dX8_size_17 : decode cX8_size 17 = .ok (.getfield 43, 3) := by decide +kernel
theorem dX8_size_20 : decode cX8_size 20 = .ok (.invokevirtual 115, 3) := by decide +kernel
theorem dX8_size_23 : decode cX8_size 23 = .ok (.ifCond .gt 13, 3) := by decide +kernel
theorem dX8_size_26 : decode cX8_size 26 = .ok (.aload_n 0, 1) := by decide +kernel
theorem dX8_size_27 : decode cX8_size 27 = .ok (.getfield 19, 3) := by decide +kernel
theorem dX8_size_30 : decode cX8_size 30 = .ok (.getfield 125, 3) := by decide +kernel
theorem dX8_size_33 : decode cX8_size 33 = .ok (.ifCond .le 9, 3) := by decide +kernel
theorem dX8_size_36 : decode cX8_size 36 = .ok (.aload_n 0, 1) := by decide +kernel
theorem dX8_size_37 : decode cX8_size 37 = .ok (.iconst 3, 1) := by decide +kernel
theorem dX8_size_38 : decode cX8_size 38 = .ok (.invokevirtual 81, 3) := by decide +kernel
theorem dX8_size_41 : decode cX8_size 41 = .ok (.lreturn, 1) := by decide +kernel
theorem dX8_size_42 : decode cX8_size 42 = .ok (.aload_n 0, 1) := by decide +kernel
theorem dX8_size_43 : decode cX8_size 43 = .ok (.getfield 65, 3) := by decide +kernel
theorem dX8_size_46 : decode cX8_size 46 = .ok (.istore_n 2, 1) := by decide +kernel
theorem dX8_size_47 : decode cX8_size 47 = .ok (.aload_n 0, 1) := by decide +kernel
theorem dX8_size_48 : decode cX8_size 48 = .ok (.iload_n 1, 1) := by decide +kernel
theorem dX8_size_49 : decode cX8_size 49 = .ok (.putfield 65, 3) := by decide +kernel
theorem dX8_size_52 : decode cX8_size 52 = .ok (.iload_n 2, 1) := by decide +kernel
theorem dX8_size_53 : decode cX8_size 53 = .ok (.i2l, 1) := by decide +kernel
theorem dX8_size_54 : decode cX8_size 54 = .ok (.lreturn, 1) := by decide +kernel
set_option maxRecDepth 20000 in
theorem ggX8_bounds_X8_isBound : GoodIn wsX8_bounds wsX8_isBound := goodIn_r _ [8, 9] (by decide +kernel) (by decide +kernel)
set_option maxRecDepth 20000 in
theorem gX8_bounds_X8_isBound : GoodIn wsX8_bounds (va_wsS RX8 128 yX8_isBound wsX8_isBound) := goodIn_app (goodIn_of _ (by decide +kernel)) ggX8_bounds_X8_isBound
set_option maxRecDepth 20000 in
theorem ggX8_bounds_X8_finding : GoodIn wsX8_bounds wsX8_finding := goodIn_r _ [13, 14, 15, 16, 17, 18, 19, 20, 21, 22, 23, 24, 25, 26, 27, 28] (by decide +kernel) (by decide +kernel)
set_option maxRecDepth 20000 in
theorem gX8_bounds_X8_finding : GoodIn wsX8_bounds (wsV RX8 81 RX8 yX8_finding wsX8_finding) := goodIn_app (goodIn_of _ (by decide +kernel)) ggX8_bounds_X8_finding
theorem dX8_bounds_0 : decode cX8_bounds 0 = .ok (.iload_n 1, 1) := by decide +kernel
theorem dX8_bounds_1 : decode cX8_bounds 1 = .ok (.invokestatic 128, 3) := by decide +kernel
theorem dX8_bounds_4 : decode cX8_bounds 4 = .ok (.ifCond .eq 17, 3) := by decide +kernel
theorem dX8_bounds_7 : decode cX8_bounds 7 = .ok (.iload_n 2, 1) := by decide +kernel
theorem dX8_bounds_8 : decode cX8_bounds 8 = .ok (.invokestatic 128, 3) := by decide +kernel
theorem dX8_bounds_11 : decode cX8_bounds 11 = .ok (.ifCond .eq 10, 3) := by decide +kernel
theorem dX8_bounds_14 : decode cX8_bounds 14 = .ok (.iload_n 3, 1) := by decide +kernel
theorem dX8_bounds_15 : decode cX8_bounds 15 = .ok (.invokestatic 128, 3) := by decide +kernel
theorem dX8_bounds_18 : decode cX8_bounds 18 = .ok (.ifCond .ne 9, 3) := by decide +kernel
theorem dX8_bounds_21 : decode cX8_bounds 21 = .ok (.aload_n 0, 1) := by decide +kernel
theorem dX8_bounds_22 : decode cX8_bounds 22 = .ok (.iconst 1, 1) := by decide +kernel
theorem dX8_bounds_23 : decode cX8_bounds 23 = .ok (.invokevirtual 81, 3) := by decide +kernel
theorem dX8_bounds_26 : decode cX8_bounds 26 = .ok (.lreturn, 1) := by decide +kernel
theorem dX8_bounds_27 : decode cX8_bounds 27 = .ok (.aload_n 0, 1) := by decide +kernel
theorem dX8_bounds_28 : decode cX8_bounds 28 = .ok (.getfield 50, 3) := by decide +kernel
theorem dX8_bounds_31 : decode cX8_bounds 31 = .ok (.iload_n 1, 1) := by decide +kernel
theorem dX8_bounds_32 : decode cX8_bounds 32 = .ok (.i2l, 1) := by decide +kernel
theorem dX8_bounds_33 : decode cX8_bounds 33 = .ok (.putfield 131, 3) := by decide +kernel
theorem dX8_bounds_36 : decode cX8_bounds 36 = .ok (.aload_n 0, 1) := by decide +kernel
theorem dX8_bounds_37 : decode cX8_bounds 37 = .ok (.getfield 50, 3) := by decide +kernel
theorem dX8_bounds_40 : decode cX8_bounds 40 = .ok (.iload_n 2, 1) := by decide +kernel
theorem dX8_bounds_41 : decode cX8_bounds 41 = .ok (.i2l, 1) := by decide +kernel
theorem dX8_bounds_42 : decode cX8_bounds 42 = .ok (.putfield 134, 3) := by decide +kernel
theorem dX8_bounds_45 : decode cX8_bounds 45 = .ok (.aload_n 0, 1) := by decide +kernel
theorem dX8_bounds_46 : decode cX8_bounds 46 = .ok (.getfield 50, 3) := by decide +kernel
theorem dX8_bounds_49 : decode cX8_bounds 49 = .ok (.iload_n 3, 1) := by decide +kernel
theorem dX8_bounds_50 : decode cX8_bounds 50 = .ok (.i2l, 1) := by decide +kernel
theorem dX8_bounds_51 : decode cX8_bounds 51 = .ok (.putfield 137, 3) := by decide +kernel
theorem dX8_bounds_54 : decode cX8_bounds 54 = .ok (.lconst 1, 1) := by decide +kernel
theorem dX8_bounds_55 : decode cX8_bounds 55 = .ok (.lreturn, 1) := by decide +kernel
set_option maxRecDepth 20000 in
theorem ggX8_wait_X8_partyOf : GoodIn wsX8_wait wsX8_partyOf := goodIn_r _ [10, 11, 12, 13, 14, 15, 16, 17, 18, 19, 20, 9, 21, 71, 72, 73, 74, 75, 76, 77, 78, 79, 80, 81, 82, 83, 87, 88, 89] (by decide +kernel) (by decide +kernel)
set_option maxRecDepth 20000 in
theorem gX8_wait_X8_partyOf : GoodIn wsX8_wait (wsV RX8 140 RX8 yX8_partyOf wsX8_partyOf) := goodIn_app (goodIn_of _ (by decide +kernel)) ggX8_wait_X8_partyOf
set_option maxRecDepth 20000 in
theorem ggX8_wait_X8_finding : GoodIn wsX8_wait wsX8_finding := goodIn_r _ [25, 26, 27, 71, 72, 73, 74, 75, 76, 77, 78, 79, 80, 81, 82, 83] (by decide +kernel) (by decide +kernel)
set_option maxRecDepth 20000 in
theorem gX8_wait_X8_finding : GoodIn wsX8_wait (wsV RX8 81 RX8 yX8_finding wsX8_finding) := goodIn_app (goodIn_of _ (by decide +kernel)) ggX8_wait_X8_finding
set_option maxRecDepth 20000 in
theorem ggX8_wait_J6_bitCount_0f7a4 : GoodIn wsX8_wait wsJ6_bitCount_0f7a4 := goodIn_r _ [31, 32, 33, 34] (by decide +kernel) (by decide +kernel)
set_option maxRecDepth 20000 in
theorem gX8_wait_J6_bitCount_0f7a4 : GoodIn wsX8_wait (va_wsS RX8 144 yJ6_bitCount_0f7a4 wsJ6_bitCount_0f7a4) := goodIn_app (goodIn_of _ (by decide +kernel)) ggX8_wait_J6_bitCount_0f7a4
set_option maxRecDepth 20000 in
theorem ggX8_wait_X7_everybody : GoodIn wsX8_wait wsX7_everybody := goodIn_r _ [39, 40, 41, 42, 38, 43, 44, 45, 9, 46, 47, 48, 49, 50, 51, 84, 85, 86] (by decide +kernel) (by decide +kernel)
set_option maxRecDepth 20000 in
theorem gX8_wait_X7_everybody : GoodIn wsX8_wait (wsV RX8 149 RX7 yX7_everybody wsX7_everybody) := goodIn_app (goodIn_of _ (by decide +kernel)) ggX8_wait_X7_everybody
set_option maxRecDepth 20000 in
theorem ggX8_wait_X2_everybody : GoodIn wsX8_wait wsX2_everybody := goodIn_r _ [56, 57, 58, 59, 60, 61, 62, 63, 64, 65, 90, 91, 92, 93, 94, 95] (by decide +kernel) (by decide +kernel)
set_option maxRecDepth 20000 in
theorem gX8_wait_X2_everybody : GoodIn wsX8_wait (wsV RX8 152 RX2 yX2_everybody wsX2_everybody) := goodIn_app (goodIn_of _ (by decide +kernel)) ggX8_wait_X2_everybody
set_option maxRecDepth 20000 in
theorem ggX8_wait_X7_join : GoodIn wsX8_wait wsX7_join := goodIn_r _ [69, 51, 44, 70, 84, 85, 86] (by decide +kernel) (by decide +kernel)
set_option maxRecDepth 20000 in
theorem gX8_wait_X7_join : GoodIn wsX8_wait (wsV RX8 153 RX7 yX7_join wsX7_join) := goodIn_app (goodIn_of _ (by decide +kernel)) ggX8_wait_X7_join
theorem dX8_wait_0 : decode cX8_wait 0 = .ok (.aload_n 0, 1) := by decide +kernel
theorem dX8_wait_1 : decode cX8_wait 1 = .ok (.iload_n 1, 1) := by decide +kernel
theorem dX8_wait_2 : decode cX8_wait 2 = .ok (.iload_n 2, 1) := by decide +kernel
theorem dX8_wait_3 : decode cX8_wait 3 = .ok (.iload_n 3, 1) := by decide +kernel
theorem dX8_wait_4 : decode cX8_wait 4 = .ok (.invokevirtual 140, 3) := by decide +kernel
theorem dX8_wait_7 : decode cX8_wait 7 = .ok (.istore 4, 2) := by decide +kernel
theorem dX8_wait_9 : decode cX8_wait 9 = .ok (.iload 4, 2) := by decide +kernel
theorem dX8_wait_11 : decode cX8_wait 11 = .ok (.ifCond .ne 9, 3) := by decide +kernel
theorem dX8_wait_14 : decode cX8_wait 14 = .ok (.aload_n 0, 1) := by decide +kernel
theorem dX8_wait_15 : decode cX8_wait 15 = .ok (.iconst 1, 1) := by decide +kernel
theorem dX8_wait_16 : decode cX8_wait 16 = .ok (.invokevirtual 81, 3) := by decide +kernel
theorem dX8_wait_19 : decode cX8_wait 19 = .ok (.lreturn, 1) := by decide +kernel
theorem dX8_wait_20 : decode cX8_wait 20 = .ok (.iload 4, 2) := by decide +kernel
theorem dX8_wait_22 : decode cX8_wait 22 = .ok (.invokestatic 144, 3) := by decide +kernel
theorem dX8_wait_25 : decode cX8_wait 25 = .ok (.aload_n 0, 1) := by decide +kernel
theorem dX8_wait_26 : decode cX8_wait 26 = .ok (.getfield 65, 3) := by decide +kernel
theorem dX8_wait_29 : decode cX8_wait 29 = .ok (.if_icmp .le 9, 3) := by decide +kernel
theorem dX8_wait_32 : decode cX8_wait 32 = .ok (.aload_n 0, 1) := by decide +kernel
theorem dX8_wait_33 : decode cX8_wait 33 = .ok (.iconst 5, 1) := by decide +kernel
theorem dX8_wait_34 : decode cX8_wait 34 = .ok (.invokevirtual 81, 3) := by decide +kernel
theorem dX8_wait_37 : decode cX8_wait 37 = .ok (.lreturn, 1) := by decide +kernel
theorem dX8_wait_38 : decode cX8_wait 38 = .ok (.iload 4, 2) := by decide +kernel
theorem dX8_wait_40 : decode cX8_wait 40 = .ok (.aload_n 0, 1) := by decide +kernel
theorem dX8_wait_41 : decode cX8_wait 41 = .ok (.getfield 19, 3) := by decide +kernel
theorem dX8_wait_44 : decode cX8_wait 44 = .ok (.invokevirtual 149, 3) := by decide +kernel
theorem dX8_wait_47 : decode cX8_wait 47 = .ok (.aload_n 0, 1) := by decide +kernel
theorem dX8_wait_48 : decode cX8_wait 48 = .ok (.getfield 43, 3) := by decide +kernel
theorem dX8_wait_51 : decode cX8_wait 51 = .ok (.invokevirtual 152, 3) := by decide +kernel
theorem dX8_wait_54 : decode cX8_wait 54 = .ok (.ior, 1) := by decide +kernel
theorem dX8_wait_55 : decode cX8_wait 55 = .ok (.iand, 1) := by decide +kernel
theorem dX8_wait_56 : decode cX8_wait 56 = .ok (.ifCond .eq 9, 3) := by decide +kernel
theorem dX8_wait_59 : decode cX8_wait 59 = .ok (.aload_n 0, 1) := by decide +kernel
theorem dX8_wait_60 : decode cX8_wait 60 = .ok (.iconst 3, 1) := by decide +kernel
theorem dX8_wait_61 : decode cX8_wait 61 = .ok (.invokevirtual 81, 3) := by decide +kernel
theorem dX8_wait_64 : decode cX8_wait 64 = .ok (.lreturn, 1) := by decide +kernel
theorem dX8_wait_65 : decode cX8_wait 65 = .ok (.aload_n 0, 1) := by decide +kernel
theorem dX8_wait_66 : decode cX8_wait 66 = .ok (.getfield 19, 3) := by decide +kernel
theorem dX8_wait_69 : decode cX8_wait 69 = .ok (.iload 4, 2) := by decide +kernel
theorem dX8_wait_71 : decode cX8_wait 71 = .ok (.aload_n 0, 1) := by decide +kernel
theorem dX8_wait_72 : decode cX8_wait 72 = .ok (.getfield 74, 3) := by decide +kernel
theorem dX8_wait_75 : decode cX8_wait 75 = .ok (.invokevirtual 153, 3) := by decide +kernel
theorem dX8_wait_78 : decode cX8_wait 78 = .ok (.ifCond .ne 9, 3) := by decide +kernel
theorem dX8_wait_81 : decode cX8_wait 81 = .ok (.aload_n 0, 1) := by decide +kernel
theorem dX8_wait_82 : decode cX8_wait 82 = .ok (.iconst 4, 1) := by decide +kernel
theorem dX8_wait_83 : decode cX8_wait 83 = .ok (.invokevirtual 81, 3) := by decide +kernel
theorem dX8_wait_86 : decode cX8_wait 86 = .ok (.lreturn, 1) := by decide +kernel
theorem dX8_wait_87 : decode cX8_wait 87 = .ok (.aload_n 0, 1) := by decide +kernel
theorem dX8_wait_88 : decode cX8_wait 88 = .ok (.getfield 19, 3) := by decide +kernel
theorem dX8_wait_91 : decode cX8_wait 91 = .ok (.getfield 125, 3) := by decide +kernel
theorem dX8_wait_94 : decode cX8_wait 94 = .ok (.i2l, 1) := by decide +kernel
theorem dX8_wait_95 : decode cX8_wait 95 = .ok (.lreturn, 1) := by decide +kernel
set_option maxRecDepth 20000 in
theorem ggX8_leave_X6_at : GoodIn wsX8_leave wsX6_at := goodIn_r _ [8, 9, 10, 55, 56, 57] (by decide +kernel) (by decide +kernel)
set_option maxRecDepth 20000 in
theorem gX8_leave_X6_at : GoodIn wsX8_leave (wsV RX8 89 RX6 yX6_at wsX6_at) := goodIn_app (goodIn_of _ (by decide +kernel)) ggX8_leave_X6_at
set_option maxRecDepth 20000 in
theorem ggX8_leave_X8_finding : GoodIn wsX8_leave wsX8_finding := goodIn_r _ [15, 16, 17, 39, 40, 41, 42, 43, 44, 45, 46, 47, 48, 49, 50, 51] (by decide +kernel) (by decide +kernel)
set_option maxRecDepth 20000 in
theorem gX8_leave_X8_finding : GoodIn wsX8_leave (wsV RX8 81 RX8 yX8_finding wsX8_finding) := goodIn_app (goodIn_of _ (by decide +kernel)) ggX8_leave_X8_finding
set_option maxRecDepth 20000 in
theorem ggX8_leave_X8_bitOf : GoodIn wsX8_leave wsX8_bitOf := goodIn_r _ [20] (by decide +kernel) (by decide +kernel)
set_option maxRecDepth 20000 in
theorem gX8_leave_X8_bitOf : GoodIn wsX8_leave (va_wsS RX8 108 yX8_bitOf wsX8_bitOf) := goodIn_app (goodIn_of _ (by decide +kernel)) ggX8_leave_X8_bitOf
set_option maxRecDepth 20000 in
theorem ggX8_leave_X7_placeOf : GoodIn wsX8_leave wsX7_placeOf := goodIn_r _ [25, 26, 27, 28, 29, 24, 30, 31, 52, 53, 54] (by decide +kernel) (by decide +kernel)
set_option maxRecDepth 20000 in
theorem gX8_leave_X7_placeOf : GoodIn wsX8_leave (wsV RX8 157 RX7 yX7_placeOf wsX7_placeOf) := goodIn_app (goodIn_of _ (by decide +kernel)) ggX8_leave_X7_placeOf
set_option maxRecDepth 20000 in
theorem ggX8_leave_X7_release : GoodIn wsX8_leave wsX7_release := goodIn_r _ [35, 31, 26, 36, 37, 14, 38, 52, 53, 54] (by decide +kernel) (by decide +kernel)
set_option maxRecDepth 20000 in
theorem gX8_leave_X7_release : GoodIn wsX8_leave (wsV RX8 160 RX7 yX7_release wsX7_release) := goodIn_app (goodIn_of _ (by decide +kernel)) ggX8_leave_X7_release
theorem dX8_leave_0 : decode cX8_leave 0 = .ok (.aload_n 0, 1) := by decide +kernel
theorem dX8_leave_1 : decode cX8_leave 1 = .ok (.getfield 10, 3) := by decide +kernel
theorem dX8_leave_4 : decode cX8_leave 4 = .ok (.iload_n 1, 1) := by decide +kernel
theorem dX8_leave_5 : decode cX8_leave 5 = .ok (.invokevirtual 89, 3) := by decide +kernel
theorem dX8_leave_8 : decode cX8_leave 8 = .ok (.ifnonnull 9, 3) := by decide +kernel
theorem dX8_leave_11 : decode cX8_leave 11 = .ok (.aload_n 0, 1) := by decide +kernel
theorem dX8_leave_12 : decode cX8_leave 12 = .ok (.iconst 1, 1) := by decide +kernel
theorem dX8_leave_13 : decode cX8_leave 13 = .ok (.invokevirtual 81, 3) := by decide +kernel
theorem dX8_leave_16 : decode cX8_leave 16 = .ok (.lreturn, 1) := by decide +kernel
theorem dX8_leave_17 : decode cX8_leave 17 = .ok (.aload_n 0, 1) := by decide +kernel
theorem dX8_leave_18 : decode cX8_leave 18 = .ok (.getfield 19, 3) := by decide +kernel
theorem dX8_leave_21 : decode cX8_leave 21 = .ok (.iload_n 1, 1) := by decide +kernel
theorem dX8_leave_22 : decode cX8_leave 22 = .ok (.invokestatic 108, 3) := by decide +kernel
theorem dX8_leave_25 : decode cX8_leave 25 = .ok (.invokevirtual 157, 3) := by decide +kernel
theorem dX8_leave_28 : decode cX8_leave 28 = .ok (.istore_n 2, 1) := by decide +kernel
theorem dX8_leave_29 : decode cX8_leave 29 = .ok (.iload_n 2, 1) := by decide +kernel
theorem dX8_leave_30 : decode cX8_leave 30 = .ok (.ifCond .ge 9, 3) := by decide +kernel
theorem dX8_leave_33 : decode cX8_leave 33 = .ok (.aload_n 0, 1) := by decide +kernel
theorem dX8_leave_34 : decode cX8_leave 34 = .ok (.iconst 2, 1) := by decide +kernel
theorem dX8_leave_35 : decode cX8_leave 35 = .ok (.invokevirtual 81, 3) := by decide +kernel
theorem dX8_leave_38 : decode cX8_leave 38 = .ok (.lreturn, 1) := by decide +kernel
theorem dX8_leave_39 : decode cX8_leave 39 = .ok (.aload_n 0, 1) := by decide +kernel
theorem dX8_leave_40 : decode cX8_leave 40 = .ok (.getfield 19, 3) := by decide +kernel
theorem dX8_leave_43 : decode cX8_leave 43 = .ok (.iconst 1, 1) := by decide +kernel
theorem dX8_leave_44 : decode cX8_leave 44 = .ok (.iload_n 2, 1) := by decide +kernel
theorem dX8_leave_45 : decode cX8_leave 45 = .ok (.ishl, 1) := by decide +kernel
theorem dX8_leave_46 : decode cX8_leave 46 = .ok (.invokevirtual 160, 3) := by decide +kernel
theorem dX8_leave_49 : decode cX8_leave 49 = .ok (.aload_n 0, 1) := by decide +kernel
theorem dX8_leave_50 : decode cX8_leave 50 = .ok (.getfield 19, 3) := by decide +kernel
theorem dX8_leave_53 : decode cX8_leave 53 = .ok (.getfield 125, 3) := by decide +kernel
theorem dX8_leave_56 : decode cX8_leave 56 = .ok (.i2l, 1) := by decide +kernel
theorem dX8_leave_57 : decode cX8_leave 57 = .ok (.lreturn, 1) := by decide +kernel
set_option maxRecDepth 20000 in
theorem ggX8_waited_X6_at : GoodIn wsX8_waited wsX6_at := goodIn_r _ [9, 10, 11, 63, 64, 65] (by decide +kernel) (by decide +kernel)
set_option maxRecDepth 20000 in
theorem gX8_waited_X6_at : GoodIn wsX8_waited (wsV RX8 89 RX6 yX6_at wsX6_at) := goodIn_app (goodIn_of _ (by decide +kernel)) ggX8_waited_X6_at
set_option maxRecDepth 20000 in
theorem ggX8_waited_X8_finding : GoodIn wsX8_waited wsX8_finding := goodIn_r _ [16, 17, 18, 50, 51, 52, 53, 54, 55, 56, 57, 58, 59, 60, 61, 62] (by decide +kernel) (by decide +kernel)
set_option maxRecDepth 20000 in
theorem gX8_waited_X8_finding : GoodIn wsX8_waited (wsV RX8 81 RX8 yX8_finding wsX8_finding) := goodIn_app (goodIn_of _ (by decide +kernel)) ggX8_waited_X8_finding
set_option maxRecDepth 20000 in
theorem ggX8_waited_X8_bitOf : GoodIn wsX8_waited wsX8_bitOf := goodIn_r _ [21] (by decide +kernel) (by decide +kernel)
set_option maxRecDepth 20000 in
theorem gX8_waited_X8_bitOf : GoodIn wsX8_waited (va_wsS RX8 108 yX8_bitOf wsX8_bitOf) := goodIn_app (goodIn_of _ (by decide +kernel)) ggX8_waited_X8_bitOf
set_option maxRecDepth 20000 in
theorem ggX8_waited_X7_placeOf : GoodIn wsX8_waited wsX7_placeOf := goodIn_r _ [26, 27, 28, 29, 30, 25, 31, 32, 66, 67, 68] (by decide +kernel) (by decide +kernel)
set_option maxRecDepth 20000 in
theorem gX8_waited_X7_placeOf : GoodIn wsX8_waited (wsV RX8 157 RX7 yX7_placeOf wsX7_placeOf) := goodIn_app (goodIn_of _ (by decide +kernel)) ggX8_waited_X7_placeOf
set_option maxRecDepth 20000 in
theorem ggX8_waited_X7_sinceAt : GoodIn wsX8_waited wsX7_sinceAt := goodIn_r _ [36, 32, 37, 66, 67, 68] (by decide +kernel) (by decide +kernel)
set_option maxRecDepth 20000 in
theorem gX8_waited_X7_sinceAt : GoodIn wsX8_waited (wsV RX8 164 RX7 yX7_sinceAt wsX7_sinceAt) := goodIn_app (goodIn_of _ (by decide +kernel)) ggX8_waited_X7_sinceAt
set_option maxRecDepth 20000 in
theorem ggX8_waited_X0_behind : GoodIn wsX8_waited wsX0_behind := goodIn_r _ [42, 43, 44, 45, 46, 47, 48, 49, 69, 70, 71] (by decide +kernel) (by decide +kernel)
set_option maxRecDepth 20000 in
theorem gX8_waited_X0_behind : GoodIn wsX8_waited (wsV RX8 167 RX0 yX0_behind wsX0_behind) := goodIn_app (goodIn_of _ (by decide +kernel)) ggX8_waited_X0_behind
theorem dX8_waited_0 : decode cX8_waited 0 = .ok (.aload_n 0, 1) := by decide +kernel
theorem dX8_waited_1 : decode cX8_waited 1 = .ok (.getfield 10, 3) := by decide +kernel
theorem dX8_waited_4 : decode cX8_waited 4 = .ok (.iload_n 1, 1) := by decide +kernel
theorem dX8_waited_5 : decode cX8_waited 5 = .ok (.invokevirtual 89, 3) := by decide +kernel
theorem dX8_waited_8 : decode cX8_waited 8 = .ok (.ifnonnull 9, 3) := by decide +kernel
theorem dX8_waited_11 : decode cX8_waited 11 = .ok (.aload_n 0, 1) := by decide +kernel
theorem dX8_waited_12 : decode cX8_waited 12 = .ok (.iconst 1, 1) := by decide +kernel
theorem dX8_waited_13 : decode cX8_waited 13 = .ok (.invokevirtual 81, 3) := by decide +kernel
theorem dX8_waited_16 : decode cX8_waited 16 = .ok (.lreturn, 1) := by decide +kernel
theorem dX8_waited_17 : decode cX8_waited 17 = .ok (.aload_n 0, 1) := by decide +kernel
theorem dX8_waited_18 : decode cX8_waited 18 = .ok (.getfield 19, 3) := by decide +kernel
theorem dX8_waited_21 : decode cX8_waited 21 = .ok (.iload_n 1, 1) := by decide +kernel
theorem dX8_waited_22 : decode cX8_waited 22 = .ok (.invokestatic 108, 3) := by decide +kernel
theorem dX8_waited_25 : decode cX8_waited 25 = .ok (.invokevirtual 157, 3) := by decide +kernel
theorem dX8_waited_28 : decode cX8_waited 28 = .ok (.istore_n 3, 1) := by decide +kernel
theorem dX8_waited_29 : decode cX8_waited 29 = .ok (.iload_n 3, 1) := by decide +kernel
theorem dX8_waited_30 : decode cX8_waited 30 = .ok (.ifCond .ge 9, 3) := by decide +kernel
theorem dX8_waited_33 : decode cX8_waited 33 = .ok (.aload_n 0, 1) := by decide +kernel
theorem dX8_waited_34 : decode cX8_waited 34 = .ok (.iconst 2, 1) := by decide +kernel
theorem dX8_waited_35 : decode cX8_waited 35 = .ok (.invokevirtual 81, 3) := by decide +kernel
theorem dX8_waited_38 : decode cX8_waited 38 = .ok (.lreturn, 1) := by decide +kernel
theorem dX8_waited_39 : decode cX8_waited 39 = .ok (.aload_n 0, 1) := by decide +kernel
theorem dX8_waited_40 : decode cX8_waited 40 = .ok (.getfield 74, 3) := by decide +kernel
theorem dX8_waited_43 : decode cX8_waited 43 = .ok (.aload_n 0, 1) := by decide +kernel
theorem dX8_waited_44 : decode cX8_waited 44 = .ok (.getfield 19, 3) := by decide +kernel
theorem dX8_waited_47 : decode cX8_waited 47 = .ok (.iload_n 3, 1) := by decide +kernel
theorem dX8_waited_48 : decode cX8_waited 48 = .ok (.invokevirtual 164, 3) := by decide +kernel
theorem dX8_waited_51 : decode cX8_waited 51 = .ok (.lsub, 1) := by decide +kernel
theorem dX8_waited_52 : decode cX8_waited 52 = .ok (.lstore 4, 2) := by decide +kernel
theorem dX8_waited_54 : decode cX8_waited 54 = .ok (.iload_n 2, 1) := by decide +kernel
theorem dX8_waited_55 : decode cX8_waited 55 = .ok (.ifCond .eq 15, 3) := by decide +kernel
theorem dX8_waited_58 : decode cX8_waited 58 = .ok (.aload_n 0, 1) := by decide +kernel
theorem dX8_waited_59 : decode cX8_waited 59 = .ok (.getfield 50, 3) := by decide +kernel
theorem dX8_waited_62 : decode cX8_waited 62 = .ok (.lload 4, 2) := by decide +kernel
theorem dX8_waited_64 : decode cX8_waited 64 = .ok (.invokevirtual 167, 3) := by decide +kernel
theorem dX8_waited_67 : decode cX8_waited 67 = .ok (.goto 5, 3) := by decide +kernel
theorem dX8_waited_70 : decode cX8_waited 70 = .ok (.lload 4, 2) := by decide +kernel
theorem dX8_waited_72 : decode cX8_waited 72 = .ok (.lreturn, 1) := by decide +kernel
set_option maxRecDepth 20000 in
theorem ggX8_pairing_X6_at : GoodIn wsX8_pairing wsX6_at := goodIn_r _ [12, 13, 14, 133, 134, 135] (by decide +kernel) (by decide +kernel)
set_option maxRecDepth 20000 in
theorem gX8_pairing_X6_at : GoodIn wsX8_pairing (wsV RX8 89 RX6 yX6_at wsX6_at) := goodIn_app (goodIn_of _ (by decide +kernel)) ggX8_pairing_X6_at
set_option maxRecDepth 20000 in
theorem ggX8_pairing_X8_finding : GoodIn wsX8_pairing wsX8_finding := goodIn_r _ [19, 20, 21, 114, 115, 116, 117, 118, 119, 120, 121, 122, 123, 124, 125, 126] (by decide +kernel) (by decide +kernel)
set_option maxRecDepth 20000 in
theorem gX8_pairing_X8_finding : GoodIn wsX8_pairing (wsV RX8 81 RX8 yX8_finding wsX8_finding) := goodIn_app (goodIn_of _ (by decide +kernel)) ggX8_pairing_X8_finding
set_option maxRecDepth 20000 in
theorem ggX8_pairing_X8_bitOf : GoodIn wsX8_pairing wsX8_bitOf := goodIn_r _ [24] (by decide +kernel) (by decide +kernel)
set_option maxRecDepth 20000 in
theorem gX8_pairing_X8_bitOf : GoodIn wsX8_pairing (va_wsS RX8 108 yX8_bitOf wsX8_bitOf) := goodIn_app (goodIn_of _ (by decide +kernel)) ggX8_pairing_X8_bitOf
set_option maxRecDepth 20000 in
theorem ggX8_pairing_X7_placeOf : GoodIn wsX8_pairing wsX7_placeOf := goodIn_r _ [29, 30, 31, 32, 33, 28, 34, 35, 136, 137, 138] (by decide +kernel) (by decide +kernel)
set_option maxRecDepth 20000 in
theorem gX8_pairing_X7_placeOf : GoodIn wsX8_pairing (wsV RX8 157 RX7 yX7_placeOf wsX7_placeOf) := goodIn_app (goodIn_of _ (by decide +kernel)) ggX8_pairing_X7_placeOf
set_option maxRecDepth 20000 in
theorem ggX8_pairing_X3_gather : GoodIn wsX8_pairing wsX3_gather := goodIn_r _ [40, 41, 42, 43, 44, 45, 46, 47, 48, 49, 50, 51, 52, 53, 54, 55, 56, 28, 57, 30, 58, 18, 59, 31, 32, 33, 34, 35, 60, 61, 62, 11, 63, 14, 64, 9, 10, 12, 13, 65, 66, 67, 68, 69, 70, 71, 72, 73, 39, 74, 75, 76, 127, 128, 129, 130, 131, 132, 136, 137, 138, 133, 134, 135, 139, 140, 141, 142, 143] (by decide +kernel) (by decide +kernel)
set_option maxRecDepth 20000 in
theorem gX8_pairing_X3_gather : GoodIn wsX8_pairing (wsV RX8 171 RX3 yX3_gather wsX3_gather) := goodIn_app (goodIn_of _ (by decide +kernel)) ggX8_pairing_X3_gather
set_option maxRecDepth 20000 in
theorem ggX8_pairing_X8_hasPairing : GoodIn wsX8_pairing wsX8_hasPairing := goodIn_r _ [80, 3, 5, 81, 82, 83, 84, 85, 39, 86, 87, 88, 89, 41, 75, 58, 18, 59, 90, 91, 92, 93, 76, 94, 95, 45, 96, 97, 98, 99, 28, 100, 35, 101, 102, 103, 104, 105, 106, 107, 108, 109, 110, 111, 112, 114, 115, 116, 117, 118, 119, 120, 121, 122, 123, 124, 125, 126, 127, 128, 129, 130, 131, 132, 136, 137, 138, 144, 145, 146] (by decide +kernel) (by decide +kernel)
set_option maxRecDepth 20000 in
theorem gX8_pairing_X8_hasPairing : GoodIn wsX8_pairing (wsV RX8 175 RX8 yX8_hasPairing wsX8_hasPairing) := goodIn_app (goodIn_of _ (by decide +kernel)) ggX8_pairing_X8_hasPairing
set_option maxRecDepth 20000 in
theorem ggX8_pairing_X7_playersAt : GoodIn wsX8_pairing wsX7_playersAt := goodIn_r _ [57, 30, 58, 18, 59, 31, 32, 33, 28, 34, 35, 136, 137, 138] (by decide +kernel) (by decide +kernel)
set_option maxRecDepth 20000 in
theorem gX8_pairing_X7_playersAt : GoodIn wsX8_pairing (wsV RX8 188 RX7 yX7_playersAt wsX7_playersAt) := goodIn_app (goodIn_of _ (by decide +kernel)) ggX8_pairing_X7_playersAt
theorem dX8_pairing_0 : decode cX8_pairing 0 = .ok (.aload_n 0, 1) := by decide +kernel
theorem dX8_pairing_1 : decode cX8_pairing 1 = .ok (.getfield 10, 3) := by decide +kernel
theorem dX8_pairing_4 : decode cX8_pairing 4 = .ok (.iload_n 1, 1) := by decide +kernel
theorem dX8_pairing_5 : decode cX8_pairing 5 = .ok (.invokevirtual 89, 3) := by decide +kernel
theorem dX8_pairing_8 : decode cX8_pairing 8 = .ok (.ifnull 12, 3) := by decide +kernel
theorem dX8_pairing_11 : decode cX8_pairing 11 = .ok (.iload_n 2, 1) := by decide +kernel
theorem dX8_pairing_12 : decode cX8_pairing 12 = .ok (.ifCond .lt 8, 3) := by decide +kernel
theorem dX8_pairing_15 : decode cX8_pairing 15 = .ok (.iload_n 2, 1) := by decide +kernel
theorem dX8_pairing_16 : decode cX8_pairing 16 = .ok (.iconst 2, 1) := by decide +kernel
theorem dX8_pairing_17 : decode cX8_pairing 17 = .ok (.if_icmp .le 9, 3) := by decide +kernel
theorem dX8_pairing_20 : decode cX8_pairing 20 = .ok (.aload_n 0, 1) := by decide +kernel
theorem dX8_pairing_21 : decode cX8_pairing 21 = .ok (.iconst 1, 1) := by decide +kernel
theorem dX8_pairing_22 : decode cX8_pairing 22 = .ok (.invokevirtual 81, 3) := by decide +kernel
theorem dX8_pairing_25 : decode cX8_pairing 25 = .ok (.lreturn, 1) := by decide +kernel
theorem dX8_pairing_26 : decode cX8_pairing 26 = .ok (.aload_n 0, 1) := by decide +kernel
theorem dX8_pairing_27 : decode cX8_pairing 27 = .ok (.getfield 19, 3) := by decide +kernel
theorem dX8_pairing_30 : decode cX8_pairing 30 = .ok (.iload_n 1, 1) := by decide +kernel
theorem dX8_pairing_31 : decode cX8_pairing 31 = .ok (.invokestatic 108, 3) := by decide +kernel
theorem dX8_pairing_34 : decode cX8_pairing 34 = .ok (.invokevirtual 157, 3) := by decide +kernel
theorem dX8_pairing_37 : decode cX8_pairing 37 = .ok (.istore_n 3, 1) := by decide +kernel
theorem dX8_pairing_38 : decode cX8_pairing 38 = .ok (.iload_n 3, 1) := by decide +kernel
theorem dX8_pairing_39 : decode cX8_pairing 39 = .ok (.ifCond .ge 9, 3) := by decide +kernel
theorem dX8_pairing_42 : decode cX8_pairing 42 = .ok (.aload_n 0, 1) := by decide +kernel
theorem dX8_pairing_43 : decode cX8_pairing 43 = .ok (.iconst 2, 1) := by decide +kernel
theorem dX8_pairing_44 : decode cX8_pairing 44 = .ok (.invokevirtual 81, 3) := by decide +kernel
theorem dX8_pairing_47 : decode cX8_pairing 47 = .ok (.lreturn, 1) := by decide +kernel
theorem dX8_pairing_48 : decode cX8_pairing 48 = .ok (.aload_n 0, 1) := by decide +kernel
theorem dX8_pairing_49 : decode cX8_pairing 49 = .ok (.getfield 29, 3) := by decide +kernel
theorem dX8_pairing_52 : decode cX8_pairing 52 = .ok (.aload_n 0, 1) := by decide +kernel
theorem dX8_pairing_53 : decode cX8_pairing 53 = .ok (.getfield 19, 3) := by decide +kernel
theorem dX8_pairing_56 : decode cX8_pairing 56 = .ok (.aload_n 0, 1) := by decide +kernel
theorem dX8_pairing_57 : decode cX8_pairing 57 = .ok (.getfield 10, 3) := by decide +kernel
theorem dX8_pairing_60 : decode cX8_pairing 60 = .ok (.aload_n 0, 1) := by decide +kernel
theorem dX8_pairing_61 : decode cX8_pairing 61 = .ok (.getfield 65, 3) := by decide +kernel
theorem dX8_pairing_64 : decode cX8_pairing 64 = .ok (.invokevirtual 171, 3) := by decide +kernel
theorem dX8_pairing_67 : decode cX8_pairing 67 = .ok (.aload_n 0, 1) := by decide +kernel
theorem dX8_pairing_68 : decode cX8_pairing 68 = .ok (.aload_n 0, 1) := by decide +kernel
theorem dX8_pairing_69 : decode cX8_pairing 69 = .ok (.getfield 19, 3) := by decide +kernel
theorem dX8_pairing_72 : decode cX8_pairing 72 = .ok (.iload_n 3, 1) := by decide +kernel
theorem dX8_pairing_73 : decode cX8_pairing 73 = .ok (.invokevirtual 175, 3) := by decide +kernel
theorem dX8_pairing_76 : decode cX8_pairing 76 = .ok (.ifCond .ne 9, 3) := by decide +kernel
theorem dX8_pairing_79 : decode cX8_pairing 79 = .ok (.aload_n 0, 1) := by decide +kernel
theorem dX8_pairing_80 : decode cX8_pairing 80 = .ok (.iconst 2, 1) := by decide +kernel
theorem dX8_pairing_81 : decode cX8_pairing 81 = .ok (.invokevirtual 81, 3) := by decide +kernel
theorem dX8_pairing_84 : decode cX8_pairing 84 = .ok (.lreturn, 1) := by decide +kernel
theorem dX8_pairing_85 : decode cX8_pairing 85 = .ok (.iload_n 2, 1) := by decide +kernel
theorem dX8_pairing_86 : decode cX8_pairing 86 = .ok (.ifCond .ne 11, 3) := by decide +kernel
theorem dX8_pairing_89 : decode cX8_pairing 89 = .ok (.aload_n 0, 1) := by decide +kernel
theorem dX8_pairing_90 : decode cX8_pairing 90 = .ok (.getfield 29, 3) := by decide +kernel
theorem dX8_pairing_93 : decode cX8_pairing 93 = .ok (.getfield 179, 3) := by decide +kernel
theorem dX8_pairing_96 : decode cX8_pairing 96 = .ok (.lreturn, 1) := by decide +kernel
theorem dX8_pairing_97 : decode cX8_pairing 97 = .ok (.aload_n 0, 1) := by decide +kernel
theorem dX8_pairing_98 : decode cX8_pairing 98 = .ok (.getfield 19, 3) := by decide +kernel
theorem dX8_pairing_101 : decode cX8_pairing 101 = .ok (.iload_n 2, 1) := by decide +kernel
theorem dX8_pairing_102 : decode cX8_pairing 102 = .ok (.iconst 1, 1) := by decide +kernel
theorem dX8_pairing_103 : decode cX8_pairing 103 = .ok (.if_icmp .ne 13, 3) := by decide +kernel
theorem dX8_pairing_106 : decode cX8_pairing 106 = .ok (.aload_n 0, 1) := by decide +kernel
theorem dX8_pairing_107 : decode cX8_pairing 107 = .ok (.getfield 29, 3) := by decide +kernel
theorem dX8_pairing_110 : decode cX8_pairing 110 = .ok (.getfield 182, 3) := by decide +kernel
theorem dX8_pairing_113 : decode cX8_pairing 113 = .ok (.goto 10, 3) := by decide +kernel
theorem dX8_pairing_116 : decode cX8_pairing 116 = .ok (.aload_n 0, 1) := by decide +kernel
theorem dX8_pairing_117 : decode cX8_pairing 117 = .ok (.getfield 29, 3) := by decide +kernel
theorem dX8_pairing_120 : decode cX8_pairing 120 = .ok (.getfield 185, 3) := by decide +kernel
theorem dX8_pairing_123 : decode cX8_pairing 123 = .ok (.invokevirtual 188, 3) := by decide +kernel
theorem dX8_pairing_126 : decode cX8_pairing 126 = .ok (.i2l, 1) := by decide +kernel
theorem dX8_pairing_127 : decode cX8_pairing 127 = .ok (.lreturn, 1) := by decide +kernel
set_option maxRecDepth 20000 in
theorem ggX8_tick_X8_planTick : GoodIn wsX8_tick wsX8_planTick := goodIn_r _ [10, 2, 3, 4, 11, 12, 13, 14, 15, 16, 17, 18, 19, 20, 21, 22, 23, 24, 25, 26, 27, 28, 9, 29, 30, 31, 32, 33, 34, 35, 36, 37, 38, 39, 40, 41, 42, 43, 44, 45, 46, 47, 48, 49, 50, 51, 52, 53, 54, 55, 56, 57, 58, 59, 60, 61, 62, 63, 64, 65, 66, 67, 68, 69, 70, 71, 72, 73, 74, 75, 76, 77, 78, 79, 80, 81, 82, 83, 84, 85, 86, 87, 88, 89, 90, 91, 92, 5, 93, 94, 95, 96, 97, 98, 99, 100, 101, 102, 103, 104, 105, 106, 107, 108, 109, 110, 111, 112, 113, 114, 115, 116, 117, 118, 119, 120, 121, 122, 123, 124, 125, 126, 127, 128, 129, 130, 131, 132, 133, 134, 135, 152, 153, 154, 155, 156, 157, 158, 159, 160, 161, 162, 163, 164, 165, 166, 167, 168, 169, 170, 171, 172, 173, 174, 175, 176, 177, 178, 179, 180, 181, 182, 183, 184, 185, 186, 187, 188, 189, 190, 191, 192, 193] (by decide +kernel) (by decide +kernel)
set_option maxRecDepth 20000 in
theorem gX8_tick_X8_planTick : GoodIn wsX8_tick (wsV RX8 191 RX8 yX8_planTick wsX8_planTick) := goodIn_app (goodIn_of _ (by decide +kernel)) ggX8_tick_X8_planTick
set_option maxRecDepth 20000 in
theorem ggX8_tick_X4_firstAt : GoodIn wsX8_tick wsX4_firstAt := goodIn_r _ [139, 130, 165, 166, 167] (by decide +kernel) (by decide +kernel)
set_option maxRecDepth 20000 in
theorem gX8_tick_X4_firstAt : GoodIn wsX8_tick (wsV RX8 198 RX4 yX4_firstAt wsX4_firstAt) := goodIn_app (goodIn_of _ (by decide +kernel)) ggX8_tick_X4_firstAt
set_option maxRecDepth 20000 in
theorem ggX8_tick_X4_secondAt : GoodIn wsX8_tick wsX4_secondAt := goodIn_r _ [143, 131, 165, 166, 167] (by decide +kernel) (by decide +kernel)
set_option maxRecDepth 20000 in
theorem gX8_tick_X4_secondAt : GoodIn wsX8_tick (wsV RX8 201 RX4 yX4_secondAt wsX4_secondAt) := goodIn_app (goodIn_of _ (by decide +kernel)) ggX8_tick_X4_secondAt
set_option maxRecDepth 20000 in
theorem ggX8_tick_X2_begin : GoodIn wsX8_tick wsX2_begin := goodIn_r _ [147, 19, 148, 149, 150, 151, 20, 21, 22, 23, 24, 25, 174, 175, 176, 177, 178, 179] (by decide +kernel) (by decide +kernel)
set_option maxRecDepth 20000 in
theorem gX8_tick_X2_begin : GoodIn wsX8_tick (wsV RX8 204 RX2 yX2_begin wsX2_begin) := goodIn_app (goodIn_of _ (by decide +kernel)) ggX8_tick_X2_begin
theorem dX8_tick_0 : decode cX8_tick 0 = .ok (.aload_n 0, 1) := by decide +kernel
theorem dX8_tick_1 : decode cX8_tick 1 = .ok (.aload_n 0, 1) := by decide +kernel
theorem dX8_tick_2 : decode cX8_tick 2 = .ok (.getfield 19, 3) := by decide +kernel
theorem dX8_tick_5 : decode cX8_tick 5 = .ok (.invokevirtual 191, 3) := by decide +kernel
theorem dX8_tick_8 : decode cX8_tick 8 = .ok (.iconst 0, 1) := by decide +kernel
theorem dX8_tick_9 : decode cX8_tick 9 = .ok (.istore_n 1, 1) := by decide +kernel
theorem dX8_tick_10 : decode cX8_tick 10 = .ok (.iload_n 1, 1) := by decide +kernel
theorem dX8_tick_11 : decode cX8_tick 11 = .ok (.aload_n 0, 1) := by decide +kernel
theorem dX8_tick_12 : decode cX8_tick 12 = .ok (.getfield 36, 3) := by decide +kernel
theorem dX8_tick_15 : decode cX8_tick 15 = .ok (.getfield 195, 3) := by decide +kernel
theorem dX8_tick_18 : decode cX8_tick 18 = .ok (.if_icmp .ge 36, 3) := by decide +kernel
theorem dX8_tick_21 : decode cX8_tick 21 = .ok (.aload_n 0, 1) := by decide +kernel
theorem dX8_tick_22 : decode cX8_tick 22 = .ok (.getfield 43, 3) := by decide +kernel
theorem dX8_tick_25 : decode cX8_tick 25 = .ok (.aload_n 0, 1) := by decide +kernel
theorem dX8_tick_26 : decode cX8_tick 26 = .ok (.getfield 36, 3) := by decide +kernel
theorem dX8_tick_29 : decode cX8_tick 29 = .ok (.iload_n 1, 1) := by decide +kernel
theorem dX8_tick_30 : decode cX8_tick 30 = .ok (.invokevirtual 198, 3) := by decide +kernel
theorem dX8_tick_33 : decode cX8_tick 33 = .ok (.aload_n 0, 1) := by decide +kernel
theorem dX8_tick_34 : decode cX8_tick 34 = .ok (.getfield 36, 3) := by decide +kernel
theorem dX8_tick_37 : decode cX8_tick 37 = .ok (.iload_n 1, 1) := by decide +kernel
theorem dX8_tick_38 : decode cX8_tick 38 = .ok (.invokevirtual 201, 3) := by decide +kernel
theorem dX8_tick_41 : decode cX8_tick 41 = .ok (.aload_n 0, 1) := by decide +kernel
theorem dX8_tick_42 : decode cX8_tick 42 = .ok (.getfield 74, 3) := by decide +kernel
theorem dX8_tick_45 : decode cX8_tick 45 = .ok (.invokevirtual 204, 3) := by decide +kernel
theorem dX8_tick_48 : decode cX8_tick 48 = .ok (.iinc 1 1, 3) := by decide +kernel
theorem dX8_tick_51 : decode cX8_tick 51 = .ok (.goto (-41), 3) := by decide +kernel
theorem dX8_tick_54 : decode cX8_tick 54 = .ok (.aload_n 0, 1) := by decide +kernel
theorem dX8_tick_55 : decode cX8_tick 55 = .ok (.dup, 1) := by decide +kernel
theorem dX8_tick_56 : decode cX8_tick 56 = .ok (.getfield 74, 3) := by decide +kernel
theorem dX8_tick_59 : decode cX8_tick 59 = .ok (.lconst 1, 1) := by decide +kernel
theorem dX8_tick_60 : decode cX8_tick 60 = .ok (.ladd, 1) := by decide +kernel
theorem dX8_tick_61 : decode cX8_tick 61 = .ok (.putfield 74, 3) := by decide +kernel
theorem dX8_tick_64 : decode cX8_tick 64 = .ok (.aload_n 0, 1) := by decide +kernel
theorem dX8_tick_65 : decode cX8_tick 65 = .ok (.getfield 36, 3) := by decide +kernel
theorem dX8_tick_68 : decode cX8_tick 68 = .ok (.getfield 195, 3) := by decide +kernel
theorem dX8_tick_71 : decode cX8_tick 71 = .ok (.i2l, 1) := by decide +kernel
theorem dX8_tick_72 : decode cX8_tick 72 = .ok (.lreturn, 1) := by decide +kernel
set_option maxRecDepth 20000 in
theorem ggX8_match_X2_at : GoodIn wsX8_match wsX2_at := goodIn_r _ [11, 12, 72, 73] (by decide +kernel) (by decide +kernel)
set_option maxRecDepth 20000 in
theorem gX8_match_X2_at : GoodIn wsX8_match (wsV RX8 208 RX2 yX2_at wsX2_at) := goodIn_app (goodIn_of _ (by decide +kernel)) ggX8_match_X2_at
set_option maxRecDepth 20000 in
theorem ggX8_match_X8_finding : GoodIn wsX8_match wsX8_finding := goodIn_r _ [17, 18, 19, 55, 56, 57, 58, 59, 60, 61, 62, 63, 64, 65, 66, 67] (by decide +kernel) (by decide +kernel)
set_option maxRecDepth 20000 in
theorem gX8_match_X8_finding : GoodIn wsX8_match (wsV RX8 81 RX8 yX8_finding wsX8_finding) := goodIn_app (goodIn_of _ (by decide +kernel)) ggX8_match_X8_finding
set_option maxRecDepth 20000 in
theorem ggX8_match_X1_goesOn : GoodIn wsX8_match wsX1_goesOn := goodIn_r _ [24, 25, 68, 69, 70, 71] (by decide +kernel) (by decide +kernel)
set_option maxRecDepth 20000 in
theorem gX8_match_X1_goesOn : GoodIn wsX8_match (wsV RX8 211 RX1 yX1_goesOn wsX1_goesOn) := goodIn_app (goodIn_of _ (by decide +kernel)) ggX8_match_X1_goesOn
set_option maxRecDepth 20000 in
theorem ggX8_match_X6_teamChance : GoodIn wsX8_match wsX6_teamChance := goodIn_r _ [30, 31, 32, 33, 34, 29, 35, 36, 37, 16, 38, 39, 40, 41, 42, 43, 44, 45, 46, 47, 48, 49, 50, 51, 52, 53, 54, 74, 75, 76, 77, 78, 79, 80, 81] (by decide +kernel) (by decide +kernel)
set_option maxRecDepth 20000 in
theorem gX8_match_X6_teamChance : GoodIn wsX8_match (wsV RX8 224 RX6 yX6_teamChance wsX6_teamChance) := goodIn_app (goodIn_of _ (by decide +kernel)) ggX8_match_X6_teamChance
theorem dX8_match_0 : decode cX8_match 0 = .ok (.aload_n 0, 1) := by decide +kernel
theorem dX8_match_1 : decode cX8_match 1 = .ok (.getfield 43, 3) := by decide +kernel
theorem dX8_match_4 : decode cX8_match 4 = .ok (.iload_n 1, 1) := by decide +kernel
theorem dX8_match_5 : decode cX8_match 5 = .ok (.invokevirtual 208, 3) := by decide +kernel
theorem dX8_match_8 : decode cX8_match 8 = .ok (.astore_n 3, 1) := by decide +kernel
theorem dX8_match_9 : decode cX8_match 9 = .ok (.aload_n 3, 1) := by decide +kernel
theorem dX8_match_10 : decode cX8_match 10 = .ok (.ifnull 12, 3) := by decide +kernel
theorem dX8_match_13 : decode cX8_match 13 = .ok (.iload_n 2, 1) := by decide +kernel
theorem dX8_match_14 : decode cX8_match 14 = .ok (.ifCond .lt 8, 3) := by decide +kernel
theorem dX8_match_17 : decode cX8_match 17 = .ok (.iload_n 2, 1) := by decide +kernel
theorem dX8_match_18 : decode cX8_match 18 = .ok (.iconst 4, 1) := by decide +kernel
theorem dX8_match_19 : decode cX8_match 19 = .ok (.if_icmp .le 9, 3) := by decide +kernel
theorem dX8_match_22 : decode cX8_match 22 = .ok (.aload_n 0, 1) := by decide +kernel
theorem dX8_match_23 : decode cX8_match 23 = .ok (.iconst 1, 1) := by decide +kernel
theorem dX8_match_24 : decode cX8_match 24 = .ok (.invokevirtual 81, 3) := by decide +kernel
theorem dX8_match_27 : decode cX8_match 27 = .ok (.lreturn, 1) := by decide +kernel
theorem dX8_match_28 : decode cX8_match 28 = .ok (.aload_n 3, 1) := by decide +kernel
theorem dX8_match_29 : decode cX8_match 29 = .ok (.invokevirtual 211, 3) := by decide +kernel
theorem dX8_match_32 : decode cX8_match 32 = .ok (.ifCond .ne 9, 3) := by decide +kernel
theorem dX8_match_35 : decode cX8_match 35 = .ok (.aload_n 0, 1) := by decide +kernel
theorem dX8_match_36 : decode cX8_match 36 = .ok (.iconst 2, 1) := by decide +kernel
theorem dX8_match_37 : decode cX8_match 37 = .ok (.invokevirtual 81, 3) := by decide +kernel
theorem dX8_match_40 : decode cX8_match 40 = .ok (.lreturn, 1) := by decide +kernel
theorem dX8_match_41 : decode cX8_match 41 = .ok (.iload_n 2, 1) := by decide +kernel
theorem dX8_match_42 : decode cX8_match 42 = .ok (.tableswitch 53 0 3 #[30, 36, 42, 48], 30) := by decide +kernel
theorem dX8_match_72 : decode cX8_match 72 = .ok (.aload_n 3, 1) := by decide +kernel
theorem dX8_match_73 : decode cX8_match 73 = .ok (.getfield 217, 3) := by decide +kernel
theorem dX8_match_76 : decode cX8_match 76 = .ok (.i2l, 1) := by decide +kernel
theorem dX8_match_77 : decode cX8_match 77 = .ok (.lreturn, 1) := by decide +kernel
theorem dX8_match_78 : decode cX8_match 78 = .ok (.aload_n 3, 1) := by decide +kernel
theorem dX8_match_79 : decode cX8_match 79 = .ok (.getfield 218, 3) := by decide +kernel
theorem dX8_match_82 : decode cX8_match 82 = .ok (.i2l, 1) := by decide +kernel
theorem dX8_match_83 : decode cX8_match 83 = .ok (.lreturn, 1) := by decide +kernel
theorem dX8_match_84 : decode cX8_match 84 = .ok (.aload_n 3, 1) := by decide +kernel
theorem dX8_match_85 : decode cX8_match 85 = .ok (.getfield 219, 3) := by decide +kernel
theorem dX8_match_88 : decode cX8_match 88 = .ok (.i2l, 1) := by decide +kernel
theorem dX8_match_89 : decode cX8_match 89 = .ok (.lreturn, 1) := by decide +kernel
theorem dX8_match_90 : decode cX8_match 90 = .ok (.aload_n 3, 1) := by decide +kernel
theorem dX8_match_91 : decode cX8_match 91 = .ok (.getfield 222, 3) := by decide +kernel
theorem dX8_match_94 : decode cX8_match 94 = .ok (.lreturn, 1) := by decide +kernel
theorem dX8_match_95 : decode cX8_match 95 = .ok (.aload_n 0, 1) := by decide +kernel
theorem dX8_match_96 : decode cX8_match 96 = .ok (.getfield 10, 3) := by decide +kernel
theorem dX8_match_99 : decode cX8_match 99 = .ok (.aload_n 3, 1) := by decide +kernel
theorem dX8_match_100 : decode cX8_match 100 = .ok (.getfield 217, 3) := by decide +kernel
theorem dX8_match_103 : decode cX8_match 103 = .ok (.aload_n 3, 1) := by decide +kernel
theorem dX8_match_104 : decode cX8_match 104 = .ok (.getfield 218, 3) := by decide +kernel
theorem dX8_match_107 : decode cX8_match 107 = .ok (.invokevirtual 224, 3) := by decide +kernel
theorem dX8_match_110 : decode cX8_match 110 = .ok (.lreturn, 1) := by decide +kernel
set_option maxRecDepth 20000 in
theorem ggX8_end_X2_at : GoodIn wsX8_end wsX2_at := goodIn_r _ [7, 8, 133, 134] (by decide +kernel) (by decide +kernel)
set_option maxRecDepth 20000 in
theorem gX8_end_X2_at : GoodIn wsX8_end (wsV RX8 208 RX2 yX2_at wsX2_at) := goodIn_app (goodIn_of _ (by decide +kernel)) ggX8_end_X2_at
set_option maxRecDepth 20000 in
theorem ggX8_end_X8_finding : GoodIn wsX8_end wsX8_finding := goodIn_r _ [13, 14, 15, 120, 121, 122, 123, 124, 125, 126, 127, 128, 129, 130, 131, 132] (by decide +kernel) (by decide +kernel)
set_option maxRecDepth 20000 in
theorem gX8_end_X8_finding : GoodIn wsX8_end (wsV RX8 81 RX8 yX8_finding wsX8_finding) := goodIn_app (goodIn_of _ (by decide +kernel)) ggX8_end_X8_finding
set_option maxRecDepth 20000 in
theorem ggX8_end_X1_goesOn : GoodIn wsX8_end wsX1_goesOn := goodIn_r _ [20, 21, 135, 136, 137, 138] (by decide +kernel) (by decide +kernel)
set_option maxRecDepth 20000 in
theorem gX8_end_X1_goesOn : GoodIn wsX8_end (wsV RX8 211 RX1 yX1_goesOn wsX1_goesOn) := goodIn_app (goodIn_of _ (by decide +kernel)) ggX8_end_X1_goesOn
set_option maxRecDepth 20000 in
theorem ggX8_end_X2_finish : GoodIn wsX8_end wsX2_finish := goodIn_r _ [25, 26, 27, 28, 29, 30, 31, 32, 33, 34, 35, 36, 37, 38, 39, 40, 41, 12, 42, 43, 44, 45, 46, 47, 48, 49, 50, 51, 52, 53, 54, 55, 56, 57, 58, 59, 60, 61, 62, 63, 64, 65, 66, 67, 68, 69, 70, 71, 72, 73, 74, 75, 76, 77, 78, 79, 80, 81, 82, 83, 84, 85, 86, 87, 88, 89, 90, 91, 92, 93, 94, 95, 96, 97, 98, 99, 100, 101, 102, 103, 104, 105, 106, 107, 108, 19, 109, 21, 110, 111, 112, 113, 114, 115, 116, 117, 118, 119, 135, 136, 137, 138, 133, 134, 139, 140, 141, 142, 143, 144, 145, 146] (by decide +kernel) (by decide +kernel)
set_option maxRecDepth 20000 in
theorem gX8_end_X2_finish : GoodIn wsX8_end (wsV RX8 228 RX2 yX2_finish wsX2_finish) := goodIn_app (goodIn_of _ (by decide +kernel)) ggX8_end_X2_finish
theorem dX8_end_0 : decode cX8_end 0 = .ok (.aload_n 0, 1) := by decide +kernel
theorem dX8_end_1 : decode cX8_end 1 = .ok (.getfield 43, 3) := by decide +kernel
theorem dX8_end_4 : decode cX8_end 4 = .ok (.iload_n 1, 1) := by decide +kernel
theorem dX8_end_5 : decode cX8_end 5 = .ok (.invokevirtual 208, 3) := by decide +kernel
theorem dX8_end_8 : decode cX8_end 8 = .ok (.astore_n 3, 1) := by decide +kernel
theorem dX8_end_9 : decode cX8_end 9 = .ok (.aload_n 3, 1) := by decide +kernel
theorem dX8_end_10 : decode cX8_end 10 = .ok (.ifnull 12, 3) := by decide +kernel
theorem dX8_end_13 : decode cX8_end 13 = .ok (.iload_n 2, 1) := by decide +kernel
theorem dX8_end_14 : decode cX8_end 14 = .ok (.ifCond .lt 8, 3) := by decide +kernel
theorem dX8_end_17 : decode cX8_end 17 = .ok (.iload_n 2, 1) := by decide +kernel
theorem dX8_end_18 : decode cX8_end 18 = .ok (.iconst 2, 1) := by decide +kernel
theorem dX8_end_19 : decode cX8_end 19 = .ok (.if_icmp .le 9, 3) := by decide +kernel
theorem dX8_end_22 : decode cX8_end 22 = .ok (.aload_n 0, 1) := by decide +kernel
theorem dX8_end_23 : decode cX8_end 23 = .ok (.iconst 1, 1) := by decide +kernel
theorem dX8_end_24 : decode cX8_end 24 = .ok (.invokevirtual 81, 3) := by decide +kernel
theorem dX8_end_27 : decode cX8_end 27 = .ok (.lreturn, 1) := by decide +kernel
theorem dX8_end_28 : decode cX8_end 28 = .ok (.aload_n 3, 1) := by decide +kernel
theorem dX8_end_29 : decode cX8_end 29 = .ok (.invokevirtual 211, 3) := by decide +kernel
theorem dX8_end_32 : decode cX8_end 32 = .ok (.ifCond .ne 9, 3) := by decide +kernel
theorem dX8_end_35 : decode cX8_end 35 = .ok (.aload_n 0, 1) := by decide +kernel
theorem dX8_end_36 : decode cX8_end 36 = .ok (.iconst 2, 1) := by decide +kernel
theorem dX8_end_37 : decode cX8_end 37 = .ok (.invokevirtual 81, 3) := by decide +kernel
theorem dX8_end_40 : decode cX8_end 40 = .ok (.lreturn, 1) := by decide +kernel
theorem dX8_end_41 : decode cX8_end 41 = .ok (.aload_n 0, 1) := by decide +kernel
theorem dX8_end_42 : decode cX8_end 42 = .ok (.getfield 43, 3) := by decide +kernel
theorem dX8_end_45 : decode cX8_end 45 = .ok (.aload_n 3, 1) := by decide +kernel
theorem dX8_end_46 : decode cX8_end 46 = .ok (.iload_n 2, 1) := by decide +kernel
theorem dX8_end_47 : decode cX8_end 47 = .ok (.aload_n 0, 1) := by decide +kernel
theorem dX8_end_48 : decode cX8_end 48 = .ok (.getfield 10, 3) := by decide +kernel
theorem dX8_end_51 : decode cX8_end 51 = .ok (.invokevirtual 228, 3) := by decide +kernel
theorem dX8_end_54 : decode cX8_end 54 = .ok (.i2l, 1) := by decide +kernel
theorem dX8_end_55 : decode cX8_end 55 = .ok (.lreturn, 1) := by decide +kernel
set_option maxRecDepth 20000 in
theorem ggX8_drop_X6_at : GoodIn wsX8_drop wsX6_at := goodIn_r _ [8, 9, 10, 154, 155, 156] (by decide +kernel) (by decide +kernel)
set_option maxRecDepth 20000 in
theorem gX8_drop_X6_at : GoodIn wsX8_drop (wsV RX8 89 RX6 yX6_at wsX6_at) := goodIn_app (goodIn_of _ (by decide +kernel)) ggX8_drop_X6_at
set_option maxRecDepth 20000 in
theorem ggX8_drop_X8_finding : GoodIn wsX8_drop wsX8_finding := goodIn_r _ [15, 16, 17, 137, 138, 139, 140, 141, 142, 143, 144, 145, 146, 147, 148, 149] (by decide +kernel) (by decide +kernel)
set_option maxRecDepth 20000 in
theorem gX8_drop_X8_finding : GoodIn wsX8_drop (wsV RX8 81 RX8 yX8_finding wsX8_finding) := goodIn_app (goodIn_of _ (by decide +kernel)) ggX8_drop_X8_finding
set_option maxRecDepth 20000 in
theorem ggX8_drop_X8_bitOf : GoodIn wsX8_drop wsX8_bitOf := goodIn_r _ [20] (by decide +kernel) (by decide +kernel)
set_option maxRecDepth 20000 in
theorem gX8_drop_X8_bitOf : GoodIn wsX8_drop (va_wsS RX8 108 yX8_bitOf wsX8_bitOf) := goodIn_app (goodIn_of _ (by decide +kernel)) ggX8_drop_X8_bitOf
set_option maxRecDepth 20000 in
theorem ggX8_drop_X2_withPlayer : GoodIn wsX8_drop wsX2_withPlayer := goodIn_r _ [25, 26, 27, 28, 29, 30, 31, 32, 33, 34, 157, 158, 150, 151, 152, 153] (by decide +kernel) (by decide +kernel)
set_option maxRecDepth 20000 in
theorem gX8_drop_X2_withPlayer : GoodIn wsX8_drop (wsV RX8 232 RX2 yX2_withPlayer wsX2_withPlayer) := goodIn_app (goodIn_of _ (by decide +kernel)) ggX8_drop_X2_withPlayer
set_option maxRecDepth 20000 in
theorem ggX8_drop_X1_rivalsOf : GoodIn wsX8_drop wsX1_rivalsOf := goodIn_r _ [38, 32, 33, 150, 151, 152, 153] (by decide +kernel) (by decide +kernel)
set_option maxRecDepth 20000 in
theorem gX8_drop_X1_rivalsOf : GoodIn wsX8_drop (wsV RX8 235 RX1 yX1_rivalsOf wsX1_rivalsOf) := goodIn_app (goodIn_of _ (by decide +kernel)) ggX8_drop_X1_rivalsOf
set_option maxRecDepth 20000 in
theorem ggX8_drop_X6_reckon : GoodIn wsX8_drop wsX6_reckon := goodIn_r _ [42, 43, 44, 45, 46, 47, 7, 48, 10, 49, 50, 5, 6, 8, 9, 51, 14, 52, 19, 20, 53, 54, 55, 56, 57, 58, 59, 60, 61, 62, 63, 64, 65, 66, 67, 68, 69, 70, 71, 72, 73, 74, 75, 76, 77, 78, 79, 80, 81, 82, 83, 84, 85, 86, 87, 88, 89, 90, 91, 92, 93, 94, 154, 155, 156, 159, 160, 161, 162, 163] (by decide +kernel) (by decide +kernel)
set_option maxRecDepth 20000 in
theorem gX8_drop_X6_reckon : GoodIn wsX8_drop (wsV RX8 238 RX6 yX6_reckon wsX6_reckon) := goodIn_app (goodIn_of _ (by decide +kernel)) ggX8_drop_X6_reckon
set_option maxRecDepth 20000 in
theorem ggX8_drop_X5_settle : GoodIn wsX8_drop wsX5_settle := goodIn_r _ [98, 84, 83, 159, 160, 161, 162, 163] (by decide +kernel) (by decide +kernel)
set_option maxRecDepth 20000 in
theorem gX8_drop_X5_settle : GoodIn wsX8_drop (wsV RX8 242 RX5 yX5_settle wsX5_settle) := goodIn_app (goodIn_of _ (by decide +kernel)) ggX8_drop_X5_settle
set_option maxRecDepth 20000 in
theorem ggX8_drop_X1_isDeserted : GoodIn wsX8_drop wsX1_isDeserted := goodIn_r _ [102, 32, 34, 33, 150, 151, 152, 153] (by decide +kernel) (by decide +kernel)
set_option maxRecDepth 20000 in
theorem gX8_drop_X1_isDeserted : GoodIn wsX8_drop (wsV RX8 245 RX1 yX1_isDeserted wsX1_isDeserted) := goodIn_app (goodIn_of _ (by decide +kernel)) ggX8_drop_X1_isDeserted
set_option maxRecDepth 20000 in
theorem ggX8_drop_X1_resultOfDeserted : GoodIn wsX8_drop wsX1_resultOfDeserted := goodIn_r _ [106, 32, 34, 150, 151, 152, 153] (by decide +kernel) (by decide +kernel)
set_option maxRecDepth 20000 in
theorem gX8_drop_X1_resultOfDeserted : GoodIn wsX8_drop (wsV RX8 248 RX1 yX1_resultOfDeserted wsX1_resultOfDeserted) := goodIn_app (goodIn_of _ (by decide +kernel)) ggX8_drop_X1_resultOfDeserted
set_option maxRecDepth 20000 in
theorem ggX8_drop_X2_finish : GoodIn wsX8_drop wsX2_finish := goodIn_r _ [110, 111, 112, 113, 114, 115, 116, 117, 7, 118, 10, 50, 5, 6, 8, 9, 51, 14, 52, 119, 40, 41, 42, 43, 44, 45, 46, 47, 48, 49, 19, 20, 53, 54, 55, 56, 57, 58, 59, 60, 61, 62, 63, 64, 65, 66, 67, 68, 69, 70, 71, 72, 73, 74, 75, 76, 77, 78, 79, 80, 81, 82, 83, 84, 85, 86, 87, 88, 89, 90, 91, 92, 93, 94, 120, 121, 122, 123, 124, 96, 97, 98, 125, 126, 127, 30, 128, 32, 33, 34, 129, 130, 131, 132, 133, 134, 135, 136, 150, 151, 152, 153, 157, 158, 154, 155, 156, 159, 160, 161, 162, 163] (by decide +kernel) (by decide +kernel)
set_option maxRecDepth 20000 in
theorem gX8_drop_X2_finish : GoodIn wsX8_drop (wsV RX8 228 RX2 yX2_finish wsX2_finish) := goodIn_app (goodIn_of _ (by decide +kernel)) ggX8_drop_X2_finish
theorem dX8_drop_0 : decode cX8_drop 0 = .ok (.aload_n 0, 1) := by decide +kernel
theorem dX8_drop_1 : decode cX8_drop 1 = .ok (.getfield 10, 3) := by decide +kernel
theorem dX8_drop_4 : decode cX8_drop 4 = .ok (.iload_n 1, 1) := by decide +kernel
theorem dX8_drop_5 : decode cX8_drop 5 = .ok (.invokevirtual 89, 3) := by decide +kernel
theorem dX8_drop_8 : decode cX8_drop 8 = .ok (.astore_n 2, 1) := by decide +kernel
theorem dX8_drop_9 : decode cX8_drop 9 = .ok (.aload_n 2, 1) := by decide +kernel
theorem dX8_drop_10 : decode cX8_drop 10 = .ok (.ifnonnull 9, 3) := by decide +kernel
theorem dX8_drop_13 : decode cX8_drop 13 = .ok (.aload_n 0, 1) := by decide +kernel
theorem dX8_drop_14 : decode cX8_drop 14 = .ok (.iconst 1, 1) := by decide +kernel
theorem dX8_drop_15 : decode cX8_drop 15 = .ok (.invokevirtual 81, 3) := by decide +kernel
theorem dX8_drop_18 : decode cX8_drop 18 = .ok (.lreturn, 1) := by decide +kernel
theorem dX8_drop_19 : decode cX8_drop 19 = .ok (.iload_n 1, 1) := by decide +kernel
theorem dX8_drop_20 : decode cX8_drop 20 = .ok (.invokestatic 108, 3) := by decide +kernel
theorem dX8_drop_23 : decode cX8_drop 23 = .ok (.istore_n 3, 1) := by decide +kernel
theorem dX8_drop_24 : decode cX8_drop 24 = .ok (.aload_n 0, 1) := by decide +kernel
theorem dX8_drop_25 : decode cX8_drop 25 = .ok (.getfield 43, 3) := by decide +kernel
theorem dX8_drop_28 : decode cX8_drop 28 = .ok (.iload_n 3, 1) := by decide +kernel
theorem dX8_drop_29 : decode cX8_drop 29 = .ok (.invokevirtual 232, 3) := by decide +kernel
theorem dX8_drop_32 : decode cX8_drop 32 = .ok (.astore 4, 2) := by decide +kernel
theorem dX8_drop_34 : decode cX8_drop 34 = .ok (.aload 4, 2) := by decide +kernel
theorem dX8_drop_36 : decode cX8_drop 36 = .ok (.ifnonnull 9, 3) := by decide +kernel
theorem dX8_drop_39 : decode cX8_drop 39 = .ok (.aload_n 0, 1) := by decide +kernel
theorem dX8_drop_40 : decode cX8_drop 40 = .ok (.iconst 2, 1) := by decide +kernel
theorem dX8_drop_41 : decode cX8_drop 41 = .ok (.invokevirtual 81, 3) := by decide +kernel
theorem dX8_drop_44 : decode cX8_drop 44 = .ok (.lreturn, 1) := by decide +kernel
theorem dX8_drop_45 : decode cX8_drop 45 = .ok (.aload_n 0, 1) := by decide +kernel
theorem dX8_drop_46 : decode cX8_drop 46 = .ok (.getfield 10, 3) := by decide +kernel
theorem dX8_drop_49 : decode cX8_drop 49 = .ok (.aload_n 2, 1) := by decide +kernel
theorem dX8_drop_50 : decode cX8_drop 50 = .ok (.aload 4, 2) := by decide +kernel
theorem dX8_drop_52 : decode cX8_drop 52 = .ok (.iload_n 3, 1) := by decide +kernel
theorem dX8_drop_53 : decode cX8_drop 53 = .ok (.invokevirtual 235, 3) := by decide +kernel
theorem dX8_drop_56 : decode cX8_drop 56 = .ok (.iconst 0, 1) := by decide +kernel
theorem dX8_drop_57 : decode cX8_drop 57 = .ok (.invokevirtual 238, 3) := by decide +kernel
theorem dX8_drop_60 : decode cX8_drop 60 = .ok (.ifCond .eq 7, 3) := by decide +kernel
theorem dX8_drop_63 : decode cX8_drop 63 = .ok (.aload_n 2, 1) := by decide +kernel
theorem dX8_drop_64 : decode cX8_drop 64 = .ok (.invokevirtual 242, 3) := by decide +kernel
theorem dX8_drop_67 : decode cX8_drop 67 = .ok (.aload 4, 2) := by decide +kernel
theorem dX8_drop_69 : decode cX8_drop 69 = .ok (.dup, 1) := by decide +kernel
theorem dX8_drop_70 : decode cX8_drop 70 = .ok (.getfield 219, 3) := by decide +kernel
theorem dX8_drop_73 : decode cX8_drop 73 = .ok (.iload_n 3, 1) := by decide +kernel
theorem dX8_drop_74 : decode cX8_drop 74 = .ok (.ior, 1) := by decide +kernel
theorem dX8_drop_75 : decode cX8_drop 75 = .ok (.putfield 219, 3) := by decide +kernel
theorem dX8_drop_78 : decode cX8_drop 78 = .ok (.aload 4, 2) := by decide +kernel
theorem dX8_drop_80 : decode cX8_drop 80 = .ok (.invokevirtual 245, 3) := by decide +kernel
theorem dX8_drop_83 : decode cX8_drop 83 = .ok (.ifCond .ne 5, 3) := by decide +kernel
theorem dX8_drop_86 : decode cX8_drop 86 = .ok (.lconst 0, 1) := by decide +kernel
theorem dX8_drop_87 : decode cX8_drop 87 = .ok (.lreturn, 1) := by decide +kernel
theorem dX8_drop_88 : decode cX8_drop 88 = .ok (.aload_n 0, 1) := by decide +kernel
theorem dX8_drop_89 : decode cX8_drop 89 = .ok (.getfield 43, 3) := by decide +kernel
theorem dX8_drop_92 : decode cX8_drop 92 = .ok (.aload 4, 2) := by decide +kernel
theorem dX8_drop_94 : decode cX8_drop 94 = .ok (.aload 4, 2) := by decide +kernel
theorem dX8_drop_96 : decode cX8_drop 96 = .ok (.invokevirtual 248, 3) := by decide +kernel
theorem dX8_drop_99 : decode cX8_drop 99 = .ok (.aload_n 0, 1) := by decide +kernel
theorem dX8_drop_100 : decode cX8_drop 100 = .ok (.getfield 10, 3) := by decide +kernel
theorem dX8_drop_103 : decode cX8_drop 103 = .ok (.invokevirtual 228, 3) := by decide +kernel
theorem dX8_drop_106 : decode cX8_drop 106 = .ok (.pop, 1) := by decide +kernel
theorem dX8_drop_107 : decode cX8_drop 107 = .ok (.lconst 1, 1) := by decide +kernel
theorem dX8_drop_108 : decode cX8_drop 108 = .ok (.lreturn, 1) := by decide +kernel
set_option maxRecDepth 20000 in
theorem ggX8_surprise_X6_at : GoodIn wsX8_surprise wsX6_at := goodIn_r _ [8, 9, 10, 43, 44, 45] (by decide +kernel) (by decide +kernel)
set_option maxRecDepth 20000 in
theorem gX8_surprise_X6_at : GoodIn wsX8_surprise (wsV RX8 89 RX6 yX6_at wsX6_at) := goodIn_app (goodIn_of _ (by decide +kernel)) ggX8_surprise_X6_at
set_option maxRecDepth 20000 in
theorem ggX8_surprise_X8_finding : GoodIn wsX8_surprise wsX8_finding := goodIn_r _ [15, 16, 17, 25, 26, 27, 28, 29, 30, 31, 32, 33, 34, 35, 36, 37] (by decide +kernel) (by decide +kernel)
set_option maxRecDepth 20000 in
theorem gX8_surprise_X8_finding : GoodIn wsX8_surprise (wsV RX8 81 RX8 yX8_finding wsX8_finding) := goodIn_app (goodIn_of _ (by decide +kernel)) ggX8_surprise_X8_finding
set_option maxRecDepth 20000 in
theorem ggX8_surprise_X5_sumOfSurprises : GoodIn wsX8_surprise wsX5_sumOfSurprises := goodIn_r _ [22, 23, 24, 38, 39, 40, 41, 42] (by decide +kernel) (by decide +kernel)
set_option maxRecDepth 20000 in
theorem gX8_surprise_X5_sumOfSurprises : GoodIn wsX8_surprise (wsV RX8 254 RX5 yX5_sumOfSurprises wsX5_sumOfSurprises) := goodIn_app (goodIn_of _ (by decide +kernel)) ggX8_surprise_X5_sumOfSurprises
theorem dX8_surprise_0 : decode cX8_surprise 0 = .ok (.aload_n 0, 1) := by decide +kernel
theorem dX8_surprise_1 : decode cX8_surprise 1 = .ok (.getfield 10, 3) := by decide +kernel
theorem dX8_surprise_4 : decode cX8_surprise 4 = .ok (.iload_n 1, 1) := by decide +kernel
theorem dX8_surprise_5 : decode cX8_surprise 5 = .ok (.invokevirtual 89, 3) := by decide +kernel
theorem dX8_surprise_8 : decode cX8_surprise 8 = .ok (.astore_n 3, 1) := by decide +kernel
theorem dX8_surprise_9 : decode cX8_surprise 9 = .ok (.aload_n 3, 1) := by decide +kernel
theorem dX8_surprise_10 : decode cX8_surprise 10 = .ok (.ifnonnull 9, 3) := by decide +kernel
theorem dX8_surprise_13 : decode cX8_surprise 13 = .ok (.aload_n 0, 1) := by decide +kernel
theorem dX8_surprise_14 : decode cX8_surprise 14 = .ok (.iconst 1, 1) := by decide +kernel
theorem dX8_surprise_15 : decode cX8_surprise 15 = .ok (.invokevirtual 81, 3) := by decide +kernel
theorem dX8_surprise_18 : decode cX8_surprise 18 = .ok (.lreturn, 1) := by decide +kernel
theorem dX8_surprise_19 : decode cX8_surprise 19 = .ok (.iload_n 2, 1) := by decide +kernel
theorem dX8_surprise_20 : decode cX8_surprise 20 = .ok (.iconst (-1), 1) := by decide +kernel
theorem dX8_surprise_21 : decode cX8_surprise 21 = .ok (.if_icmp .lt 18, 3) := by decide +kernel
theorem dX8_surprise_24 : decode cX8_surprise 24 = .ok (.iload_n 2, 1) := by decide +kernel
theorem dX8_surprise_25 : decode cX8_surprise 25 = .ok (.aload_n 3, 1) := by decide +kernel
theorem dX8_surprise_26 : decode cX8_surprise 26 = .ok (.getfield 251, 3) := by decide +kernel
theorem dX8_surprise_29 : decode cX8_surprise 29 = .ok (.if_icmp .ge 10, 3) := by decide +kernel
theorem dX8_surprise_32 : decode cX8_surprise 32 = .ok (.aload_n 3, 1) := by decide +kernel
theorem dX8_surprise_33 : decode cX8_surprise 33 = .ok (.getfield 251, 3) := by decide +kernel
theorem dX8_surprise_36 : decode cX8_surprise 36 = .ok (.ifCond .ne 9, 3) := by decide +kernel
theorem dX8_surprise_39 : decode cX8_surprise 39 = .ok (.aload_n 0, 1) := by decide +kernel
theorem dX8_surprise_40 : decode cX8_surprise 40 = .ok (.iconst 2, 1) := by decide +kernel
theorem dX8_surprise_41 : decode cX8_surprise 41 = .ok (.invokevirtual 81, 3) := by decide +kernel
theorem dX8_surprise_44 : decode cX8_surprise 44 = .ok (.lreturn, 1) := by decide +kernel
theorem dX8_surprise_45 : decode cX8_surprise 45 = .ok (.iload_n 2, 1) := by decide +kernel
theorem dX8_surprise_46 : decode cX8_surprise 46 = .ok (.iconst (-1), 1) := by decide +kernel
theorem dX8_surprise_47 : decode cX8_surprise 47 = .ok (.if_icmp .ne 10, 3) := by decide +kernel
theorem dX8_surprise_50 : decode cX8_surprise 50 = .ok (.aload_n 3, 1) := by decide +kernel
theorem dX8_surprise_51 : decode cX8_surprise 51 = .ok (.invokevirtual 254, 3) := by decide +kernel
theorem dX8_surprise_54 : decode cX8_surprise 54 = .ok (.goto 9, 3) := by decide +kernel
theorem dX8_surprise_57 : decode cX8_surprise 57 = .ok (.aload_n 3, 1) := by decide +kernel
theorem dX8_surprise_58 : decode cX8_surprise 58 = .ok (.getfield 257, 3) := by decide +kernel
theorem dX8_surprise_61 : decode cX8_surprise 61 = .ok (.iload_n 2, 1) := by decide +kernel
theorem dX8_surprise_62 : decode cX8_surprise 62 = .ok (.laload, 1) := by decide +kernel
theorem dX8_surprise_63 : decode cX8_surprise 63 = .ok (.lreturn, 1) := by decide +kernel
set_option maxRecDepth 20000 in
theorem ggX8_sinking_X6_at : GoodIn wsX8_sinking wsX6_at := goodIn_r _ [8, 9, 10, 40, 41, 42] (by decide +kernel) (by decide +kernel)
set_option maxRecDepth 20000 in
theorem gX8_sinking_X6_at : GoodIn wsX8_sinking (wsV RX8 89 RX6 yX6_at wsX6_at) := goodIn_app (goodIn_of _ (by decide +kernel)) ggX8_sinking_X6_at
set_option maxRecDepth 20000 in
theorem ggX8_sinking_X5_sumOfSurprises : GoodIn wsX8_sinking wsX5_sumOfSurprises := goodIn_r _ [15, 16, 17, 35, 36, 37, 38, 39] (by decide +kernel) (by decide +kernel)
set_option maxRecDepth 20000 in
theorem gX8_sinking_X5_sumOfSurprises : GoodIn wsX8_sinking (wsV RX8 254 RX5 yX5_sumOfSurprises wsX5_sumOfSurprises) := goodIn_app (goodIn_of _ (by decide +kernel)) ggX8_sinking_X5_sumOfSurprises
set_option maxRecDepth 20000 in
theorem ggX8_sinking_X8_bitOf : GoodIn wsX8_sinking wsX8_bitOf := goodIn_r _ [21] (by decide +kernel) (by decide +kernel)
set_option maxRecDepth 20000 in
theorem gX8_sinking_X8_bitOf : GoodIn wsX8_sinking (va_wsS RX8 108 yX8_bitOf wsX8_bitOf) := goodIn_app (goodIn_of _ (by decide +kernel)) ggX8_sinking_X8_bitOf
theorem dX8_sinking_0 : decode cX8_sinking 0 = .ok (.iconst 0, 1) := by decide +kernel
theorem dX8_sinking_1 : decode cX8_sinking 1 = .ok (.istore_n 1, 1) := by decide +kernel
theorem dX8_sinking_2 : decode cX8_sinking 2 = .ok (.iconst 0, 1) := by decide +kernel
theorem dX8_sinking_3 : decode cX8_sinking 3 = .ok (.istore_n 2, 1) := by decide +kernel
theorem dX8_sinking_4 : decode cX8_sinking 4 = .ok (.iload_n 2, 1) := by decide +kernel
theorem dX8_sinking_5 : decode cX8_sinking 5 = .ok (.bipush 16, 2) := by decide +kernel
theorem dX8_sinking_7 : decode cX8_sinking 7 = .ok (.if_icmp .ge 50, 3) := by decide +kernel
theorem dX8_sinking_10 : decode cX8_sinking 10 = .ok (.aload_n 0, 1) := by decide +kernel
theorem dX8_sinking_11 : decode cX8_sinking 11 = .ok (.getfield 10, 3) := by decide +kernel
theorem dX8_sinking_14 : decode cX8_sinking 14 = .ok (.iload_n 2, 1) := by decide +kernel
theorem dX8_sinking_15 : decode cX8_sinking 15 = .ok (.invokevirtual 89, 3) := by decide +kernel
theorem dX8_sinking_18 : decode cX8_sinking 18 = .ok (.astore_n 3, 1) := by decide +kernel
theorem dX8_sinking_19 : decode cX8_sinking 19 = .ok (.aload_n 3, 1) := by decide +kernel
theorem dX8_sinking_20 : decode cX8_sinking 20 = .ok (.ifnull 31, 3) := by decide +kernel
theorem dX8_sinking_23 : decode cX8_sinking 23 = .ok (.aload_n 3, 1) := by decide +kernel
theorem dX8_sinking_24 : decode cX8_sinking 24 = .ok (.getfield 251, 3) := by decide +kernel
theorem dX8_sinking_27 : decode cX8_sinking 27 = .ok (.iconst 5, 1) := by decide +kernel
theorem dX8_sinking_28 : decode cX8_sinking 28 = .ok (.if_icmp .lt 23, 3) := by decide +kernel
theorem dX8_sinking_31 : decode cX8_sinking 31 = .ok (.aload_n 3, 1) := by decide +kernel
theorem dX8_sinking_32 : decode cX8_sinking 32 = .ok (.invokevirtual 254, 3) := by decide +kernel
theorem dX8_sinking_35 : decode cX8_sinking 35 = .ok (.aload_n 0, 1) := by decide +kernel
theorem dX8_sinking_36 : decode cX8_sinking 36 = .ok (.getfield 70, 3) := by decide +kernel
theorem dX8_sinking_39 : decode cX8_sinking 39 = .ok (.lneg, 1) := by decide +kernel
theorem dX8_sinking_40 : decode cX8_sinking 40 = .ok (.lcmp, 1) := by decide +kernel
theorem dX8_sinking_41 : decode cX8_sinking 41 = .ok (.ifCond .ge 10, 3) := by decide +kernel
theorem dX8_sinking_44 : decode cX8_sinking 44 = .ok (.iload_n 1, 1) := by decide +kernel
theorem dX8_sinking_45 : decode cX8_sinking 45 = .ok (.iload_n 2, 1) := by decide +kernel
theorem dX8_sinking_46 : decode cX8_sinking 46 = .ok (.invokestatic 108, 3) := by decide +kernel
theorem dX8_sinking_49 : decode cX8_sinking 49 = .ok (.ior, 1) := by decide +kernel
theorem dX8_sinking_50 : decode cX8_sinking 50 = .ok (.istore_n 1, 1) := by decide +kernel
theorem dX8_sinking_51 : decode cX8_sinking 51 = .ok (.iinc 2 1, 3) := by decide +kernel
theorem dX8_sinking_54 : decode cX8_sinking 54 = .ok (.goto (-50), 3) := by decide +kernel
theorem dX8_sinking_57 : decode cX8_sinking 57 = .ok (.iload_n 1, 1) := by decide +kernel
theorem dX8_sinking_58 : decode cX8_sinking 58 = .ok (.i2l, 1) := by decide +kernel
theorem dX8_sinking_59 : decode cX8_sinking 59 = .ok (.lreturn, 1) := by decide +kernel
set_option maxRecDepth 20000 in
theorem ggX8_limit_X8_finding : GoodIn wsX8_limit wsX8_finding := goodIn_r _ [7, 8, 9, 10, 11, 12, 13, 14, 15, 16, 17, 18, 19, 20, 21, 22] (by decide +kernel) (by decide +kernel)
set_option maxRecDepth 20000 in
theorem gX8_limit_X8_finding : GoodIn wsX8_limit (wsV RX8 81 RX8 yX8_finding wsX8_finding) := goodIn_app (goodIn_of _ (by decide +kernel)) ggX8_limit_X8_finding
theorem dX8_limit_0 : decode cX8_limit 0 = .ok (.iload_n 1, 1) := by decide +kernel
theorem dX8_limit_1 : decode cX8_limit 1 = .ok (.ifCond .lt 10, 3) := by decide +kernel
theorem dX8_limit_4 : decode cX8_limit 4 = .ok (.iload_n 1, 1) := by decide +kernel
theorem dX8_limit_5 : decode cX8_limit 5 = .ok (.ldc_w 260, 3) := by decide +kernel
theorem dX8_limit_8 : decode cX8_limit 8 = .ok (.if_icmp .le 9, 3) := by decide +kernel
theorem dX8_limit_11 : decode cX8_limit 11 = .ok (.aload_n 0, 1) := by decide +kernel
theorem dX8_limit_12 : decode cX8_limit 12 = .ok (.iconst 1, 1) := by decide +kernel
theorem dX8_limit_13 : decode cX8_limit 13 = .ok (.invokevirtual 81, 3) := by decide +kernel
theorem dX8_limit_16 : decode cX8_limit 16 = .ok (.lreturn, 1) := by decide +kernel
theorem dX8_limit_17 : decode cX8_limit 17 = .ok (.aload_n 0, 1) := by decide +kernel
theorem dX8_limit_18 : decode cX8_limit 18 = .ok (.getfield 70, 3) := by decide +kernel
theorem dX8_limit_21 : decode cX8_limit 21 = .ok (.lstore_n 2, 1) := by decide +kernel
theorem dX8_limit_22 : decode cX8_limit 22 = .ok (.aload_n 0, 1) := by decide +kernel
theorem dX8_limit_23 : decode cX8_limit 23 = .ok (.iload_n 1, 1) := by decide +kernel
theorem dX8_limit_24 : decode cX8_limit 24 = .ok (.i2l, 1) := by decide +kernel
theorem dX8_limit_25 : decode cX8_limit 25 = .ok (.putfield 70, 3) := by decide +kernel
theorem dX8_limit_28 : decode cX8_limit 28 = .ok (.lload_n 2, 1) := by decide +kernel
theorem dX8_limit_29 : decode cX8_limit 29 = .ok (.lreturn, 1) := by decide +kernel
set_option maxRecDepth 20000 in
theorem ggX8_tell_X8_finding : GoodIn wsX8_tell wsX8_finding := goodIn_r _ [7, 8, 9, 10, 11, 12, 13, 14, 15, 16, 17, 18, 19, 20, 21, 22] (by decide +kernel) (by decide +kernel)
set_option maxRecDepth 20000 in
theorem gX8_tell_X8_finding : GoodIn wsX8_tell (wsV RX8 81 RX8 yX8_finding wsX8_finding) := goodIn_app (goodIn_of _ (by decide +kernel)) ggX8_tell_X8_finding
theorem dX8_tell_0 : decode cX8_tell 0 = .ok (.aload_n 0, 1) := by decide +kernel
theorem dX8_tell_1 : decode cX8_tell 1 = .ok (.getfield 61, 3) := by decide +kernel
theorem dX8_tell_4 : decode cX8_tell 4 = .ok (.ifCond .lt 15, 3) := by decide +kernel
theorem dX8_tell_7 : decode cX8_tell 7 = .ok (.aload_n 0, 1) := by decide +kernel
theorem dX8_tell_8 : decode cX8_tell 8 = .ok (.getfield 61, 3) := by decide +kernel
theorem dX8_tell_11 : decode cX8_tell 11 = .ok (.aload_n 0, 1) := by decide +kernel
theorem dX8_tell_12 : decode cX8_tell 12 = .ok (.getfield 54, 3) := by decide +kernel
theorem dX8_tell_15 : decode cX8_tell 15 = .ok (.arraylength, 1) := by decide +kernel
theorem dX8_tell_16 : decode cX8_tell 16 = .ok (.if_icmp .lt 9, 3) := by decide +kernel
theorem dX8_tell_19 : decode cX8_tell 19 = .ok (.aload_n 0, 1) := by decide +kernel
theorem dX8_tell_20 : decode cX8_tell 20 = .ok (.iconst 4, 1) := by decide +kernel
theorem dX8_tell_21 : decode cX8_tell 21 = .ok (.invokevirtual 81, 3) := by decide +kernel
theorem dX8_tell_24 : decode cX8_tell 24 = .ok (.lreturn, 1) := by decide +kernel
theorem dX8_tell_25 : decode cX8_tell 25 = .ok (.aload_n 0, 1) := by decide +kernel
theorem dX8_tell_26 : decode cX8_tell 26 = .ok (.getfield 54, 3) := by decide +kernel
theorem dX8_tell_29 : decode cX8_tell 29 = .ok (.aload_n 0, 1) := by decide +kernel
theorem dX8_tell_30 : decode cX8_tell 30 = .ok (.getfield 61, 3) := by decide +kernel
theorem dX8_tell_33 : decode cX8_tell 33 = .ok (.iload_n 1, 1) := by decide +kernel
theorem dX8_tell_34 : decode cX8_tell 34 = .ok (.i2l, 1) := by decide +kernel
theorem dX8_tell_35 : decode cX8_tell 35 = .ok (.lastore, 1) := by decide +kernel
theorem dX8_tell_36 : decode cX8_tell 36 = .ok (.aload_n 0, 1) := by decide +kernel
theorem dX8_tell_37 : decode cX8_tell 37 = .ok (.dup, 1) := by decide +kernel
theorem dX8_tell_38 : decode cX8_tell 38 = .ok (.getfield 61, 3) := by decide +kernel
theorem dX8_tell_41 : decode cX8_tell 41 = .ok (.iconst 1, 1) := by decide +kernel
theorem dX8_tell_42 : decode cX8_tell 42 = .ok (.iadd, 1) := by decide +kernel
theorem dX8_tell_43 : decode cX8_tell 43 = .ok (.putfield 61, 3) := by decide +kernel
theorem dX8_tell_46 : decode cX8_tell 46 = .ok (.aload_n 0, 1) := by decide +kernel
theorem dX8_tell_47 : decode cX8_tell 47 = .ok (.getfield 61, 3) := by decide +kernel
theorem dX8_tell_50 : decode cX8_tell 50 = .ok (.i2l, 1) := by decide +kernel
theorem dX8_tell_51 : decode cX8_tell 51 = .ok (.lreturn, 1) := by decide +kernel
set_option maxRecDepth 20000 in
theorem ggX8_check_X7_copyOf : GoodIn wsX8_check wsX7_copyOf := goodIn_r _ [11, 12, 13, 14, 15, 16, 17, 10, 18, 19, 20, 21, 22, 173, 174, 175] (by decide +kernel) (by decide +kernel)
set_option maxRecDepth 20000 in
theorem gX8_check_X7_copyOf : GoodIn wsX8_check (wsV RX8 261 RX7 yX7_copyOf wsX7_copyOf) := goodIn_app (goodIn_of _ (by decide +kernel)) ggX8_check_X7_copyOf
set_option maxRecDepth 20000 in
theorem ggX8_check_X8_planTick : GoodIn wsX8_check wsX8_planTick := goodIn_r _ [27, 4, 5, 28, 29, 30, 31, 32, 33, 34, 35, 36, 37, 38, 39, 40, 41, 42, 43, 44, 45, 46, 26, 47, 48, 49, 50, 51, 52, 53, 54, 55, 56, 57, 58, 59, 60, 61, 62, 63, 64, 65, 66, 67, 68, 69, 70, 71, 10, 72, 12, 73, 74, 15, 16, 17, 18, 14, 75, 76, 77, 78, 79, 80, 81, 82, 83, 84, 85, 86, 87, 88, 89, 90, 91, 92, 93, 94, 95, 96, 97, 98, 99, 100, 101, 102, 103, 104, 105, 106, 107, 108, 109, 110, 111, 112, 113, 114, 115, 116, 117, 118, 119, 20, 21, 22, 13, 120, 121, 122, 123, 124, 125, 126, 127, 128, 129, 130, 131, 132, 133, 134, 135, 136, 137, 138, 139, 140, 141, 142, 143, 157, 158, 159, 160, 161, 162, 163, 164, 165, 166, 167, 168, 169, 170, 171, 172, 176, 177, 178, 179, 180, 181, 182, 183, 184, 185, 186, 187, 173, 174, 175, 188, 189, 190, 191, 192, 193, 194, 195, 196, 197, 198] (by decide +kernel) (by decide +kernel)
set_option maxRecDepth 20000 in
theorem gX8_check_X8_planTick : GoodIn wsX8_check (wsV RX8 191 RX8 yX8_planTick wsX8_planTick) := goodIn_app (goodIn_of _ (by decide +kernel)) ggX8_check_X8_planTick
set_option maxRecDepth 20000 in
theorem ggX8_check_X8_isTold : GoodIn wsX8_check wsX8_isTold := goodIn_r _ [147, 148, 4, 149, 150, 151, 135, 152, 138, 153, 154, 155, 156, 139, 157, 158, 159, 160, 161, 162, 163, 164, 165, 166, 167, 168, 169, 170, 171, 172] (by decide +kernel) (by decide +kernel)
set_option maxRecDepth 20000 in
theorem gX8_check_X8_isTold : GoodIn wsX8_check (wsV RX8 264 RX8 yX8_isTold wsX8_isTold) := goodIn_app (goodIn_of _ (by decide +kernel)) ggX8_check_X8_isTold
theorem dX8_check_0 : decode cX8_check 0 = .ok (.aload_n 0, 1) := by decide +kernel
theorem dX8_check_1 : decode cX8_check 1 = .ok (.getfield 23, 3) := by decide +kernel
theorem dX8_check_4 : decode cX8_check 4 = .ok (.aload_n 0, 1) := by decide +kernel
theorem dX8_check_5 : decode cX8_check 5 = .ok (.getfield 19, 3) := by decide +kernel
theorem dX8_check_8 : decode cX8_check 8 = .ok (.invokevirtual 261, 3) := by decide +kernel
theorem dX8_check_11 : decode cX8_check 11 = .ok (.aload_n 0, 1) := by decide +kernel
theorem dX8_check_12 : decode cX8_check 12 = .ok (.aload_n 0, 1) := by decide +kernel
theorem dX8_check_13 : decode cX8_check 13 = .ok (.getfield 23, 3) := by decide +kernel
theorem dX8_check_16 : decode cX8_check 16 = .ok (.invokevirtual 191, 3) := by decide +kernel
theorem dX8_check_19 : decode cX8_check 19 = .ok (.aload_n 0, 1) := by decide +kernel
theorem dX8_check_20 : decode cX8_check 20 = .ok (.getfield 61, 3) := by decide +kernel
theorem dX8_check_23 : decode cX8_check 23 = .ok (.istore_n 1, 1) := by decide +kernel
theorem dX8_check_24 : decode cX8_check 24 = .ok (.aload_n 0, 1) := by decide +kernel
theorem dX8_check_25 : decode cX8_check 25 = .ok (.iconst 0, 1) := by decide +kernel
theorem dX8_check_26 : decode cX8_check 26 = .ok (.putfield 61, 3) := by decide +kernel
theorem dX8_check_29 : decode cX8_check 29 = .ok (.iconst 0, 1) := by decide +kernel
theorem dX8_check_30 : decode cX8_check 30 = .ok (.istore_n 2, 1) := by decide +kernel
theorem dX8_check_31 : decode cX8_check 31 = .ok (.iload_n 2, 1) := by decide +kernel
theorem dX8_check_32 : decode cX8_check 32 = .ok (.aload_n 0, 1) := by decide +kernel
theorem dX8_check_33 : decode cX8_check 33 = .ok (.getfield 36, 3) := by decide +kernel
theorem dX8_check_36 : decode cX8_check 36 = .ok (.getfield 195, 3) := by decide +kernel
theorem dX8_check_39 : decode cX8_check 39 = .ok (.if_icmp .ge 23, 3) := by decide +kernel
theorem dX8_check_42 : decode cX8_check 42 = .ok (.aload_n 0, 1) := by decide +kernel
theorem dX8_check_43 : decode cX8_check 43 = .ok (.iload_n 2, 1) := by decide +kernel
theorem dX8_check_44 : decode cX8_check 44 = .ok (.iload_n 1, 1) := by decide +kernel
theorem dX8_check_45 : decode cX8_check 45 = .ok (.invokevirtual 264, 3) := by decide +kernel
theorem dX8_check_48 : decode cX8_check 48 = .ok (.ifCond .ne 8, 3) := by decide +kernel
theorem dX8_check_51 : decode cX8_check 51 = .ok (.lconst 1, 1) := by decide +kernel
theorem dX8_check_52 : decode cX8_check 52 = .ok (.iload_n 2, 1) := by decide +kernel
theorem dX8_check_53 : decode cX8_check 53 = .ok (.i2l, 1) := by decide +kernel
theorem dX8_check_54 : decode cX8_check 54 = .ok (.ladd, 1) := by decide +kernel
theorem dX8_check_55 : decode cX8_check 55 = .ok (.lreturn, 1) := by decide +kernel
theorem dX8_check_56 : decode cX8_check 56 = .ok (.iinc 2 1, 3) := by decide +kernel
theorem dX8_check_59 : decode cX8_check 59 = .ok (.goto (-28), 3) := by decide +kernel
theorem dX8_check_62 : decode cX8_check 62 = .ok (.iload_n 1, 1) := by decide +kernel
theorem dX8_check_63 : decode cX8_check 63 = .ok (.iconst 2, 1) := by decide +kernel
theorem dX8_check_64 : decode cX8_check 64 = .ok (.aload_n 0, 1) := by decide +kernel
theorem dX8_check_65 : decode cX8_check 65 = .ok (.getfield 36, 3) := by decide +kernel
theorem dX8_check_68 : decode cX8_check 68 = .ok (.getfield 195, 3) := by decide +kernel
theorem dX8_check_71 : decode cX8_check 71 = .ok (.imul, 1) := by decide +kernel
theorem dX8_check_72 : decode cX8_check 72 = .ok (.if_icmp .le 9, 3) := by decide +kernel
theorem dX8_check_75 : decode cX8_check 75 = .ok (.ldc2_w 268, 3) := by decide +kernel
theorem dX8_check_78 : decode cX8_check 78 = .ok (.goto 4, 3) := by decide +kernel
theorem dX8_check_81 : decode cX8_check 81 = .ok (.lconst 0, 1) := by decide +kernel
theorem dX8_check_82 : decode cX8_check 82 = .ok (.lreturn, 1) := by decide +kernel
set_option maxRecDepth 20000 in
theorem ggX8_count_X2_going : GoodIn wsX8_count wsX2_going := goodIn_r _ [14, 15, 16, 17, 18, 19, 20, 21, 48, 49, 50, 51, 52, 53] (by decide +kernel) (by decide +kernel)
set_option maxRecDepth 20000 in
theorem gX8_count_X2_going : GoodIn wsX8_count (wsV RX8 115 RX2 yX2_going wsX2_going) := goodIn_app (goodIn_of _ (by decide +kernel)) ggX8_count_X2_going
set_option maxRecDepth 20000 in
theorem ggX8_count_X8_finding : GoodIn wsX8_count wsX8_finding := goodIn_r _ [26, 27, 28, 29, 30, 31, 32, 33, 34, 35, 36, 37, 38, 39, 40, 41] (by decide +kernel) (by decide +kernel)
set_option maxRecDepth 20000 in
theorem gX8_count_X8_finding : GoodIn wsX8_count (wsV RX8 81 RX8 yX8_finding wsX8_finding) := goodIn_app (goodIn_of _ (by decide +kernel)) ggX8_count_X8_finding
theorem dX8_count_0 : decode cX8_count 0 = .ok (.iload_n 1, 1) := by decide +kernel
theorem dX8_count_1 : decode cX8_count 1 = .ok (.tableswitch 95 0 6 #[43, 52, 57, 66, 75, 83, 89], 43) := by decide +kernel
theorem dX8_count_44 : decode cX8_count 44 = .ok (.aload_n 0, 1) := by decide +kernel
theorem dX8_count_45 : decode cX8_count 45 = .ok (.getfield 10, 3) := by decide +kernel
theorem dX8_count_48 : decode cX8_count 48 = .ok (.getfield 122, 3) := by decide +kernel
theorem dX8_count_51 : decode cX8_count 51 = .ok (.i2l, 1) := by decide +kernel
theorem dX8_count_52 : decode cX8_count 52 = .ok (.lreturn, 1) := by decide +kernel
theorem dX8_count_53 : decode cX8_count 53 = .ok (.aload_n 0, 1) := by decide +kernel
theorem dX8_count_54 : decode cX8_count 54 = .ok (.getfield 74, 3) := by decide +kernel
theorem dX8_count_57 : decode cX8_count 57 = .ok (.lreturn, 1) := by decide +kernel
theorem dX8_count_58 : decode cX8_count 58 = .ok (.aload_n 0, 1) := by decide +kernel
theorem dX8_count_59 : decode cX8_count 59 = .ok (.getfield 19, 3) := by decide +kernel
theorem dX8_count_62 : decode cX8_count 62 = .ok (.getfield 125, 3) := by decide +kernel
theorem dX8_count_65 : decode cX8_count 65 = .ok (.i2l, 1) := by decide +kernel
theorem dX8_count_66 : decode cX8_count 66 = .ok (.lreturn, 1) := by decide +kernel
theorem dX8_count_67 : decode cX8_count 67 = .ok (.aload_n 0, 1) := by decide +kernel
theorem dX8_count_68 : decode cX8_count 68 = .ok (.getfield 43, 3) := by decide +kernel
theorem dX8_count_71 : decode cX8_count 71 = .ok (.invokevirtual 115, 3) := by decide +kernel
theorem dX8_count_74 : decode cX8_count 74 = .ok (.i2l, 1) := by decide +kernel
theorem dX8_count_75 : decode cX8_count 75 = .ok (.lreturn, 1) := by decide +kernel
theorem dX8_count_76 : decode cX8_count 76 = .ok (.aload_n 0, 1) := by decide +kernel
theorem dX8_count_77 : decode cX8_count 77 = .ok (.getfield 43, 3) := by decide +kernel
theorem dX8_count_80 : decode cX8_count 80 = .ok (.getfield 270, 3) := by decide +kernel
theorem dX8_count_83 : decode cX8_count 83 = .ok (.lreturn, 1) := by decide +kernel
theorem dX8_count_84 : decode cX8_count 84 = .ok (.aload_n 0, 1) := by decide +kernel
theorem dX8_count_85 : decode cX8_count 85 = .ok (.getfield 61, 3) := by decide +kernel
theorem dX8_count_88 : decode cX8_count 88 = .ok (.i2l, 1) := by decide +kernel
theorem dX8_count_89 : decode cX8_count 89 = .ok (.lreturn, 1) := by decide +kernel
theorem dX8_count_90 : decode cX8_count 90 = .ok (.aload_n 0, 1) := by decide +kernel
theorem dX8_count_91 : decode cX8_count 91 = .ok (.getfield 65, 3) := by decide +kernel
theorem dX8_count_94 : decode cX8_count 94 = .ok (.i2l, 1) := by decide +kernel
theorem dX8_count_95 : decode cX8_count 95 = .ok (.lreturn, 1) := by decide +kernel
theorem dX8_count_96 : decode cX8_count 96 = .ok (.aload_n 0, 1) := by decide +kernel
theorem dX8_count_97 : decode cX8_count 97 = .ok (.iconst 1, 1) := by decide +kernel
theorem dX8_count_98 : decode cX8_count 98 = .ok (.invokevirtual 81, 3) := by decide +kernel
theorem dX8_count_101 : decode cX8_count 101 = .ok (.lreturn, 1) := by decide +kernel
set_option maxRecDepth 20000 in
theorem ggX8_found_X8_finding : GoodIn wsX8_found wsX8_finding := goodIn_r _ [6, 1, 7, 8, 9, 10, 11, 12, 13, 14, 15, 16, 17, 18, 19, 20] (by decide +kernel) (by decide +kernel)
set_option maxRecDepth 20000 in
theorem gX8_found_X8_finding : GoodIn wsX8_found (wsV RX8 81 RX8 yX8_finding wsX8_finding) := goodIn_app (goodIn_of _ (by decide +kernel)) ggX8_found_X8_finding
theorem dX8_found_0 : decode cX8_found 0 = .ok (.iload_n 1, 1) := by decide +kernel
theorem dX8_found_1 : decode cX8_found 1 = .ok (.iconst 1, 1) := by decide +kernel
theorem dX8_found_2 : decode cX8_found 2 = .ok (.if_icmp .lt 17, 3) := by decide +kernel
theorem dX8_found_5 : decode cX8_found 5 = .ok (.iload_n 1, 1) := by decide +kernel
theorem dX8_found_6 : decode cX8_found 6 = .ok (.iconst 5, 1) := by decide +kernel
theorem dX8_found_7 : decode cX8_found 7 = .ok (.if_icmp .gt 12, 3) := by decide +kernel
theorem dX8_found_10 : decode cX8_found 10 = .ok (.iload_n 1, 1) := by decide +kernel
theorem dX8_found_11 : decode cX8_found 11 = .ok (.aload_n 0, 1) := by decide +kernel
theorem dX8_found_12 : decode cX8_found 12 = .ok (.getfield 58, 3) := by decide +kernel
theorem dX8_found_15 : decode cX8_found 15 = .ok (.arraylength, 1) := by decide +kernel
theorem dX8_found_16 : decode cX8_found 16 = .ok (.if_icmp .lt 9, 3) := by decide +kernel
theorem dX8_found_19 : decode cX8_found 19 = .ok (.aload_n 0, 1) := by decide +kernel
theorem dX8_found_20 : decode cX8_found 20 = .ok (.iconst 1, 1) := by decide +kernel
theorem dX8_found_21 : decode cX8_found 21 = .ok (.invokevirtual 81, 3) := by decide +kernel
theorem dX8_found_24 : decode cX8_found 24 = .ok (.lreturn, 1) := by decide +kernel
theorem dX8_found_25 : decode cX8_found 25 = .ok (.aload_n 0, 1) := by decide +kernel
theorem dX8_found_26 : decode cX8_found 26 = .ok (.getfield 58, 3) := by decide +kernel
theorem dX8_found_29 : decode cX8_found 29 = .ok (.iload_n 1, 1) := by decide +kernel
theorem dX8_found_30 : decode cX8_found 30 = .ok (.laload, 1) := by decide +kernel
theorem dX8_found_31 : decode cX8_found 31 = .ok (.lreturn, 1) := by decide +kernel
theorem dX8_finding_0 : decode cX8_finding 0 = .ok (.iload_n 1, 1) := by decide +kernel
theorem dX8_finding_1 : decode cX8_finding 1 = .ok (.ifCond .lt 22, 3) := by decide +kernel
theorem dX8_finding_4 : decode cX8_finding 4 = .ok (.iload_n 1, 1) := by decide +kernel
theorem dX8_finding_5 : decode cX8_finding 5 = .ok (.aload_n 0, 1) := by decide +kernel
theorem dX8_finding_6 : decode cX8_finding 6 = .ok (.getfield 58, 3) := by decide +kernel
theorem dX8_finding_9 : decode cX8_finding 9 = .ok (.arraylength, 1) := by decide +kernel
theorem dX8_finding_10 : decode cX8_finding 10 = .ok (.if_icmp .ge 13, 3) := by decide +kernel
theorem dX8_finding_13 : decode cX8_finding 13 = .ok (.aload_n 0, 1) := by decide +kernel
theorem dX8_finding_14 : decode cX8_finding 14 = .ok (.getfield 58, 3) := by decide +kernel
theorem dX8_finding_17 : decode cX8_finding 17 = .ok (.iload_n 1, 1) := by decide +kernel
theorem dX8_finding_18 : decode cX8_finding 18 = .ok (.dup2, 1) := by decide +kernel
theorem dX8_finding_19 : decode cX8_finding 19 = .ok (.laload, 1) := by decide +kernel
theorem dX8_finding_20 : decode cX8_finding 20 = .ok (.lconst 1, 1) := by decide +kernel
theorem dX8_finding_21 : decode cX8_finding 21 = .ok (.ladd, 1) := by decide +kernel
theorem dX8_finding_22 : decode cX8_finding 22 = .ok (.lastore, 1) := by decide +kernel
theorem dX8_finding_23 : decode cX8_finding 23 = .ok (.ldc2_w 273, 3) := by decide +kernel
theorem dX8_finding_26 : decode cX8_finding 26 = .ok (.iload_n 1, 1) := by decide +kernel
theorem dX8_finding_27 : decode cX8_finding 27 = .ok (.i2l, 1) := by decide +kernel
theorem dX8_finding_28 : decode cX8_finding 28 = .ok (.lsub, 1) := by decide +kernel
theorem dX8_finding_29 : decode cX8_finding 29 = .ok (.lreturn, 1) := by decide +kernel
theorem dX8_isKind_0 : decode cX8_isKind 0 = .ok (.iload_n 0, 1) := by decide +kernel
theorem dX8_isKind_1 : decode cX8_isKind 1 = .ok (.ifCond .lt 12, 3) := by decide +kernel
theorem dX8_isKind_4 : decode cX8_isKind 4 = .ok (.iload_n 0, 1) := by decide +kernel
theorem dX8_isKind_5 : decode cX8_isKind 5 = .ok (.iconst 2, 1) := by decide +kernel
theorem dX8_isKind_6 : decode cX8_isKind 6 = .ok (.if_icmp .gt 7, 3) := by decide +kernel
theorem dX8_isKind_9 : decode cX8_isKind 9 = .ok (.iconst 1, 1) := by decide +kernel
theorem dX8_isKind_10 : decode cX8_isKind 10 = .ok (.goto 4, 3) := by decide +kernel
theorem dX8_isKind_13 : decode cX8_isKind 13 = .ok (.iconst 0, 1) := by decide +kernel
theorem dX8_isKind_14 : decode cX8_isKind 14 = .ok (.ireturn, 1) := by decide +kernel
theorem dX8_isLevel_0 : decode cX8_isLevel 0 = .ok (.iload_n 0, 1) := by decide +kernel
theorem dX8_isLevel_1 : decode cX8_isLevel 1 = .ok (.ifCond .lt 13, 3) := by decide +kernel
theorem dX8_isLevel_4 : decode cX8_isLevel 4 = .ok (.iload_n 0, 1) := by decide +kernel
theorem dX8_isLevel_5 : decode cX8_isLevel 5 = .ok (.bipush 7, 2) := by decide +kernel
theorem dX8_isLevel_7 : decode cX8_isLevel 7 = .ok (.if_icmp .ge 7, 3) := by decide +kernel
theorem dX8_isLevel_10 : decode cX8_isLevel 10 = .ok (.iconst 1, 1) := by decide +kernel
theorem dX8_isLevel_11 : decode cX8_isLevel 11 = .ok (.goto 4, 3) := by decide +kernel
theorem dX8_isLevel_14 : decode cX8_isLevel 14 = .ok (.iconst 0, 1) := by decide +kernel
theorem dX8_isLevel_15 : decode cX8_isLevel 15 = .ok (.ireturn, 1) := by decide +kernel
theorem dX8_isBound_0 : decode cX8_isBound 0 = .ok (.iload_n 0, 1) := by decide +kernel
theorem dX8_isBound_1 : decode cX8_isBound 1 = .ok (.ifCond .lt 14, 3) := by decide +kernel
theorem dX8_isBound_4 : decode cX8_isBound 4 = .ok (.iload_n 0, 1) := by decide +kernel
theorem dX8_isBound_5 : decode cX8_isBound 5 = .ok (.ldc_w 275, 3) := by decide +kernel
theorem dX8_isBound_8 : decode cX8_isBound 8 = .ok (.if_icmp .gt 7, 3) := by decide +kernel
theorem dX8_isBound_11 : decode cX8_isBound 11 = .ok (.iconst 1, 1) := by decide +kernel
theorem dX8_isBound_12 : decode cX8_isBound 12 = .ok (.goto 4, 3) := by decide +kernel
theorem dX8_isBound_15 : decode cX8_isBound 15 = .ok (.iconst 0, 1) := by decide +kernel
theorem dX8_isBound_16 : decode cX8_isBound 16 = .ok (.ireturn, 1) := by decide +kernel
theorem dX8_bitOf_0 : decode cX8_bitOf 0 = .ok (.iconst 1, 1) := by decide +kernel
theorem dX8_bitOf_1 : decode cX8_bitOf 1 = .ok (.iload_n 0, 1) := by decide +kernel
theorem dX8_bitOf_2 : decode cX8_bitOf 2 = .ok (.ishl, 1) := by decide +kernel
theorem dX8_bitOf_3 : decode cX8_bitOf 3 = .ok (.ireturn, 1) := by decide +kernel
theorem dX8_hasBit_0 : decode cX8_hasBit 0 = .ok (.iload_n 0, 1) := by decide +kernel
theorem dX8_hasBit_1 : decode cX8_hasBit 1 = .ok (.iload_n 1, 1) := by decide +kernel
theorem dX8_hasBit_2 : decode cX8_hasBit 2 = .ok (.ishr, 1) := by decide +kernel
theorem dX8_hasBit_3 : decode cX8_hasBit 3 = .ok (.iconst 1, 1) := by decide +kernel
theorem dX8_hasBit_4 : decode cX8_hasBit 4 = .ok (.iand, 1) := by decide +kernel
theorem dX8_hasBit_5 : decode cX8_hasBit 5 = .ok (.iconst 1, 1) := by decide +kernel
theorem dX8_hasBit_6 : decode cX8_hasBit 6 = .ok (.if_icmp .ne 7, 3) := by decide +kernel
theorem dX8_hasBit_9 : decode cX8_hasBit 9 = .ok (.iconst 1, 1) := by decide +kernel
theorem dX8_hasBit_10 : decode cX8_hasBit 10 = .ok (.goto 4, 3) := by decide +kernel
theorem dX8_hasBit_13 : decode cX8_hasBit 13 = .ok (.iconst 0, 1) := by decide +kernel
theorem dX8_hasBit_14 : decode cX8_hasBit 14 = .ok (.ireturn, 1) := by decide +kernel
theorem dX8_evenShare_0 : decode cX8_evenShare 0 = .ok (.iload_n 0, 1) := by decide +kernel
theorem dX8_evenShare_1 : decode cX8_evenShare 1 = .ok (.iconst 3, 1) := by decide +kernel
theorem dX8_evenShare_2 : decode cX8_evenShare 2 = .ok (.if_icmp .ne 9, 3) := by decide +kernel
theorem dX8_evenShare_5 : decode cX8_evenShare 5 = .ok (.ldc2_w 276, 3) := by decide +kernel
theorem dX8_evenShare_8 : decode cX8_evenShare 8 = .ok (.goto 6, 3) := by decide +kernel
theorem dX8_evenShare_11 : decode cX8_evenShare 11 = .ok (.ldc2_w 278, 3) := by decide +kernel
theorem dX8_evenShare_14 : decode cX8_evenShare 14 = .ok (.lreturn, 1) := by decide +kernel
set_option maxRecDepth 20000 in
theorem ggX8_partyOf_X6_at : GoodIn wsX8_partyOf wsX6_at := goodIn_r _ [6, 7, 8, 26, 27, 28] (by decide +kernel) (by decide +kernel)
set_option maxRecDepth 20000 in
theorem gX8_partyOf_X6_at : GoodIn wsX8_partyOf (wsV RX8 89 RX6 yX6_at wsX6_at) := goodIn_app (goodIn_of _ (by decide +kernel)) ggX8_partyOf_X6_at
set_option maxRecDepth 20000 in
theorem ggX8_partyOf_X8_bitOf : GoodIn wsX8_partyOf wsX8_bitOf := goodIn_r _ [12] (by decide +kernel) (by decide +kernel)
set_option maxRecDepth 20000 in
theorem gX8_partyOf_X8_bitOf : GoodIn wsX8_partyOf (va_wsS RX8 108 yX8_bitOf wsX8_bitOf) := goodIn_app (goodIn_of _ (by decide +kernel)) ggX8_partyOf_X8_bitOf
theorem dX8_partyOf_0 : decode cX8_partyOf 0 = .ok (.aload_n 0, 1) := by decide +kernel
theorem dX8_partyOf_1 : decode cX8_partyOf 1 = .ok (.getfield 10, 3) := by decide +kernel
theorem dX8_partyOf_4 : decode cX8_partyOf 4 = .ok (.iload_n 1, 1) := by decide +kernel
theorem dX8_partyOf_5 : decode cX8_partyOf 5 = .ok (.invokevirtual 89, 3) := by decide +kernel
theorem dX8_partyOf_8 : decode cX8_partyOf 8 = .ok (.ifnonnull 5, 3) := by decide +kernel
theorem dX8_partyOf_11 : decode cX8_partyOf 11 = .ok (.iconst 0, 1) := by decide +kernel
theorem dX8_partyOf_12 : decode cX8_partyOf 12 = .ok (.ireturn, 1) := by decide +kernel
theorem dX8_partyOf_13 : decode cX8_partyOf 13 = .ok (.iload_n 2, 1) := by decide +kernel
theorem dX8_partyOf_14 : decode cX8_partyOf 14 = .ok (.iconst (-1), 1) := by decide +kernel
theorem dX8_partyOf_15 : decode cX8_partyOf 15 = .ok (.if_icmp .ne 17, 3) := by decide +kernel
theorem dX8_partyOf_18 : decode cX8_partyOf 18 = .ok (.iload_n 3, 1) := by decide +kernel
theorem dX8_partyOf_19 : decode cX8_partyOf 19 = .ok (.iconst (-1), 1) := by decide +kernel
theorem dX8_partyOf_20 : decode cX8_partyOf 20 = .ok (.if_icmp .ne 10, 3) := by decide +kernel
theorem dX8_partyOf_23 : decode cX8_partyOf 23 = .ok (.iload_n 1, 1) := by decide +kernel
theorem dX8_partyOf_24 : decode cX8_partyOf 24 = .ok (.invokestatic 108, 3) := by decide +kernel
theorem dX8_partyOf_27 : decode cX8_partyOf 27 = .ok (.goto 4, 3) := by decide +kernel
theorem dX8_partyOf_30 : decode cX8_partyOf 30 = .ok (.iconst 0, 1) := by decide +kernel
theorem dX8_partyOf_31 : decode cX8_partyOf 31 = .ok (.ireturn, 1) := by decide +kernel
theorem dX8_partyOf_32 : decode cX8_partyOf 32 = .ok (.aload_n 0, 1) := by decide +kernel
theorem dX8_partyOf_33 : decode cX8_partyOf 33 = .ok (.getfield 10, 3) := by decide +kernel
theorem dX8_partyOf_36 : decode cX8_partyOf 36 = .ok (.iload_n 2, 1) := by decide +kernel
theorem dX8_partyOf_37 : decode cX8_partyOf 37 = .ok (.invokevirtual 89, 3) := by decide +kernel
theorem dX8_partyOf_40 : decode cX8_partyOf 40 = .ok (.ifnull 8, 3) := by decide +kernel
theorem dX8_partyOf_43 : decode cX8_partyOf 43 = .ok (.iload_n 2, 1) := by decide +kernel
theorem dX8_partyOf_44 : decode cX8_partyOf 44 = .ok (.iload_n 1, 1) := by decide +kernel
theorem dX8_partyOf_45 : decode cX8_partyOf 45 = .ok (.if_icmp .ne 5, 3) := by decide +kernel
theorem dX8_partyOf_48 : decode cX8_partyOf 48 = .ok (.iconst 0, 1) := by decide +kernel
theorem dX8_partyOf_49 : decode cX8_partyOf 49 = .ok (.ireturn, 1) := by decide +kernel
theorem dX8_partyOf_50 : decode cX8_partyOf 50 = .ok (.iload_n 3, 1) := by decide +kernel
theorem dX8_partyOf_51 : decode cX8_partyOf 51 = .ok (.iconst (-1), 1) := by decide +kernel
theorem dX8_partyOf_52 : decode cX8_partyOf 52 = .ok (.if_icmp .ne 13, 3) := by decide +kernel
theorem dX8_partyOf_55 : decode cX8_partyOf 55 = .ok (.iload_n 1, 1) := by decide +kernel
theorem dX8_partyOf_56 : decode cX8_partyOf 56 = .ok (.invokestatic 108, 3) := by decide +kernel
theorem dX8_partyOf_59 : decode cX8_partyOf 59 = .ok (.iload_n 2, 1) := by decide +kernel
theorem dX8_partyOf_60 : decode cX8_partyOf 60 = .ok (.invokestatic 108, 3) := by decide +kernel
theorem dX8_partyOf_63 : decode cX8_partyOf 63 = .ok (.ior, 1) := by decide +kernel
theorem dX8_partyOf_64 : decode cX8_partyOf 64 = .ok (.ireturn, 1) := by decide +kernel
theorem dX8_partyOf_65 : decode cX8_partyOf 65 = .ok (.aload_n 0, 1) := by decide +kernel
theorem dX8_partyOf_66 : decode cX8_partyOf 66 = .ok (.getfield 10, 3) := by decide +kernel
theorem dX8_partyOf_69 : decode cX8_partyOf 69 = .ok (.iload_n 3, 1) := by decide +kernel
theorem dX8_partyOf_70 : decode cX8_partyOf 70 = .ok (.invokevirtual 89, 3) := by decide +kernel
theorem dX8_partyOf_73 : decode cX8_partyOf 73 = .ok (.ifnull 13, 3) := by decide +kernel
theorem dX8_partyOf_76 : decode cX8_partyOf 76 = .ok (.iload_n 3, 1) := by decide +kernel
theorem dX8_partyOf_77 : decode cX8_partyOf 77 = .ok (.iload_n 1, 1) := by decide +kernel
theorem dX8_partyOf_78 : decode cX8_partyOf 78 = .ok (.if_icmp .eq 8, 3) := by decide +kernel
theorem dX8_partyOf_81 : decode cX8_partyOf 81 = .ok (.iload_n 3, 1) := by decide +kernel
theorem dX8_partyOf_82 : decode cX8_partyOf 82 = .ok (.iload_n 2, 1) := by decide +kernel
theorem dX8_partyOf_83 : decode cX8_partyOf 83 = .ok (.if_icmp .ne 5, 3) := by decide +kernel
theorem dX8_partyOf_86 : decode cX8_partyOf 86 = .ok (.iconst 0, 1) := by decide +kernel
theorem dX8_partyOf_87 : decode cX8_partyOf 87 = .ok (.ireturn, 1) := by decide +kernel
theorem dX8_partyOf_88 : decode cX8_partyOf 88 = .ok (.iload_n 1, 1) := by decide +kernel
theorem dX8_partyOf_89 : decode cX8_partyOf 89 = .ok (.invokestatic 108, 3) := by decide +kernel
theorem dX8_partyOf_92 : decode cX8_partyOf 92 = .ok (.iload_n 2, 1) := by decide +kernel
theorem dX8_partyOf_93 : decode cX8_partyOf 93 = .ok (.invokestatic 108, 3) := by decide +kernel
theorem dX8_partyOf_96 : decode cX8_partyOf 96 = .ok (.ior, 1) := by decide +kernel
theorem dX8_partyOf_97 : decode cX8_partyOf 97 = .ok (.iload_n 3, 1) := by decide +kernel
theorem dX8_partyOf_98 : decode cX8_partyOf 98 = .ok (.invokestatic 108, 3) := by decide +kernel
theorem dX8_partyOf_101 : decode cX8_partyOf 101 = .ok (.ior, 1) := by decide +kernel
theorem dX8_partyOf_102 : decode cX8_partyOf 102 = .ok (.ireturn, 1) := by decide +kernel
set_option maxRecDepth 20000 in
theorem ggX8_hasPairing_X3_seek : GoodIn wsX8_hasPairing wsX3_seek := goodIn_r _ [9, 10, 11, 12, 13, 14, 15, 16, 17, 18, 19, 20, 8, 21, 22, 23, 24, 25, 26, 58, 59, 60, 61, 62, 63] (by decide +kernel) (by decide +kernel)
set_option maxRecDepth 20000 in
theorem gX8_hasPairing_X3_seek : GoodIn wsX8_hasPairing (wsV RX8 280 RX3 yX3_seek wsX3_seek) := goodIn_app (goodIn_of _ (by decide +kernel)) ggX8_hasPairing_X3_seek
set_option maxRecDepth 20000 in
theorem ggX8_hasPairing_X7_sinceAt : GoodIn wsX8_hasPairing wsX7_sinceAt := goodIn_r _ [31, 32, 33, 64, 65, 66] (by decide +kernel) (by decide +kernel)
set_option maxRecDepth 20000 in
theorem gX8_hasPairing_X7_sinceAt : GoodIn wsX8_hasPairing (wsV RX8 164 RX7 yX7_sinceAt wsX7_sinceAt) := goodIn_app (goodIn_of _ (by decide +kernel)) ggX8_hasPairing_X7_sinceAt
set_option maxRecDepth 20000 in
theorem ggX8_hasPairing_X0_behind : GoodIn wsX8_hasPairing wsX0_behind := goodIn_r _ [38, 39, 40, 41, 42, 43, 25, 44, 67, 68, 69] (by decide +kernel) (by decide +kernel)
set_option maxRecDepth 20000 in
theorem gX8_hasPairing_X0_behind : GoodIn wsX8_hasPairing (wsV RX8 167 RX0 yX0_behind wsX0_behind) := goodIn_app (goodIn_of _ (by decide +kernel)) ggX8_hasPairing_X0_behind
theorem dX8_hasPairing_0 : decode cX8_hasPairing 0 = .ok (.aload_n 0, 1) := by decide +kernel
theorem dX8_hasPairing_1 : decode cX8_hasPairing 1 = .ok (.getfield 29, 3) := by decide +kernel
theorem dX8_hasPairing_4 : decode cX8_hasPairing 4 = .ok (.iload_n 2, 1) := by decide +kernel
theorem dX8_hasPairing_5 : decode cX8_hasPairing 5 = .ok (.invokevirtual 280, 3) := by decide +kernel
theorem dX8_hasPairing_8 : decode cX8_hasPairing 8 = .ok (.ifCond .eq 35, 3) := by decide +kernel
theorem dX8_hasPairing_11 : decode cX8_hasPairing 11 = .ok (.aload_n 0, 1) := by decide +kernel
theorem dX8_hasPairing_12 : decode cX8_hasPairing 12 = .ok (.getfield 29, 3) := by decide +kernel
theorem dX8_hasPairing_15 : decode cX8_hasPairing 15 = .ok (.getfield 179, 3) := by decide +kernel
theorem dX8_hasPairing_18 : decode cX8_hasPairing 18 = .ok (.aload_n 0, 1) := by decide +kernel
theorem dX8_hasPairing_19 : decode cX8_hasPairing 19 = .ok (.getfield 50, 3) := by decide +kernel
theorem dX8_hasPairing_22 : decode cX8_hasPairing 22 = .ok (.aload_n 0, 1) := by decide +kernel
theorem dX8_hasPairing_23 : decode cX8_hasPairing 23 = .ok (.getfield 74, 3) := by decide +kernel
theorem dX8_hasPairing_26 : decode cX8_hasPairing 26 = .ok (.aload_n 1, 1) := by decide +kernel
theorem dX8_hasPairing_27 : decode cX8_hasPairing 27 = .ok (.iload_n 2, 1) := by decide +kernel
theorem dX8_hasPairing_28 : decode cX8_hasPairing 28 = .ok (.invokevirtual 164, 3) := by decide +kernel
theorem dX8_hasPairing_31 : decode cX8_hasPairing 31 = .ok (.lsub, 1) := by decide +kernel
theorem dX8_hasPairing_32 : decode cX8_hasPairing 32 = .ok (.invokevirtual 167, 3) := by decide +kernel
theorem dX8_hasPairing_35 : decode cX8_hasPairing 35 = .ok (.lcmp, 1) := by decide +kernel
theorem dX8_hasPairing_36 : decode cX8_hasPairing 36 = .ok (.ifCond .gt 7, 3) := by decide +kernel
theorem dX8_hasPairing_39 : decode cX8_hasPairing 39 = .ok (.iconst 1, 1) := by decide +kernel
theorem dX8_hasPairing_40 : decode cX8_hasPairing 40 = .ok (.goto 4, 3) := by decide +kernel
theorem dX8_hasPairing_43 : decode cX8_hasPairing 43 = .ok (.iconst 0, 1) := by decide +kernel
theorem dX8_hasPairing_44 : decode cX8_hasPairing 44 = .ok (.ireturn, 1) := by decide +kernel
set_option maxRecDepth 20000 in
theorem ggX8_anyPairing_X3_gather : GoodIn wsX8_anyPairing wsX3_gather := goodIn_r _ [9, 10, 11, 12, 13, 14, 15, 16, 17, 18, 19, 20, 21, 22, 23, 24, 25, 26, 27, 28, 29, 30, 31, 32, 33, 34, 35, 36, 37, 38, 39, 40, 41, 42, 43, 44, 45, 46, 47, 48, 49, 50, 51, 52, 53, 54, 55, 56, 8, 57, 58, 59, 113, 114, 115, 116, 117, 118, 110, 111, 112, 119, 120, 121, 122, 123, 124, 125, 126] (by decide +kernel) (by decide +kernel)
set_option maxRecDepth 20000 in
theorem gX8_anyPairing_X3_gather : GoodIn wsX8_anyPairing (wsV RX8 171 RX3 yX3_gather wsX3_gather) := goodIn_app (goodIn_of _ (by decide +kernel)) ggX8_anyPairing_X3_gather
set_option maxRecDepth 20000 in
theorem ggX8_anyPairing_X8_hasPairing : GoodIn wsX8_anyPairing wsX8_hasPairing := goodIn_r _ [63, 1, 64, 65, 66, 67, 68, 69, 8, 70, 71, 72, 73, 10, 58, 29, 30, 31, 74, 75, 76, 77, 59, 78, 79, 14, 80, 81, 82, 83, 26, 84, 36, 85, 86, 87, 88, 89, 90, 91, 92, 93, 94, 95, 96, 97, 98, 99, 100, 101, 102, 103, 104, 105, 106, 107, 108, 109, 113, 114, 115, 116, 117, 118, 110, 111, 112, 127, 128, 129] (by decide +kernel) (by decide +kernel)
set_option maxRecDepth 20000 in
theorem gX8_anyPairing_X8_hasPairing : GoodIn wsX8_anyPairing (wsV RX8 175 RX8 yX8_hasPairing wsX8_hasPairing) := goodIn_app (goodIn_of _ (by decide +kernel)) ggX8_anyPairing_X8_hasPairing
theorem dX8_anyPairing_0 : decode cX8_anyPairing 0 = .ok (.aload_n 0, 1) := by decide +kernel
theorem dX8_anyPairing_1 : decode cX8_anyPairing 1 = .ok (.getfield 29, 3) := by decide +kernel
theorem dX8_anyPairing_4 : decode cX8_anyPairing 4 = .ok (.aload_n 1, 1) := by decide +kernel
theorem dX8_anyPairing_5 : decode cX8_anyPairing 5 = .ok (.aload_n 0, 1) := by decide +kernel
theorem dX8_anyPairing_6 : decode cX8_anyPairing 6 = .ok (.getfield 10, 3) := by decide +kernel
theorem dX8_anyPairing_9 : decode cX8_anyPairing 9 = .ok (.aload_n 0, 1) := by decide +kernel
theorem dX8_anyPairing_10 : decode cX8_anyPairing 10 = .ok (.getfield 65, 3) := by decide +kernel
theorem dX8_anyPairing_13 : decode cX8_anyPairing 13 = .ok (.invokevirtual 171, 3) := by decide +kernel
theorem dX8_anyPairing_16 : decode cX8_anyPairing 16 = .ok (.iconst 0, 1) := by decide +kernel
theorem dX8_anyPairing_17 : decode cX8_anyPairing 17 = .ok (.istore_n 2, 1) := by decide +kernel
theorem dX8_anyPairing_18 : decode cX8_anyPairing 18 = .ok (.iload_n 2, 1) := by decide +kernel
theorem dX8_anyPairing_19 : decode cX8_anyPairing 19 = .ok (.aload_n 1, 1) := by decide +kernel
theorem dX8_anyPairing_20 : decode cX8_anyPairing 20 = .ok (.getfield 125, 3) := by decide +kernel
theorem dX8_anyPairing_23 : decode cX8_anyPairing 23 = .ok (.if_icmp .ge 20, 3) := by decide +kernel
theorem dX8_anyPairing_26 : decode cX8_anyPairing 26 = .ok (.aload_n 0, 1) := by decide +kernel
theorem dX8_anyPairing_27 : decode cX8_anyPairing 27 = .ok (.aload_n 1, 1) := by decide +kernel
theorem dX8_anyPairing_28 : decode cX8_anyPairing 28 = .ok (.iload_n 2, 1) := by decide +kernel
theorem dX8_anyPairing_29 : decode cX8_anyPairing 29 = .ok (.invokevirtual 175, 3) := by decide +kernel
theorem dX8_anyPairing_32 : decode cX8_anyPairing 32 = .ok (.ifCond .eq 5, 3) := by decide +kernel
theorem dX8_anyPairing_35 : decode cX8_anyPairing 35 = .ok (.iconst 1, 1) := by decide +kernel
theorem dX8_anyPairing_36 : decode cX8_anyPairing 36 = .ok (.ireturn, 1) := by decide +kernel
theorem dX8_anyPairing_37 : decode cX8_anyPairing 37 = .ok (.iinc 2 1, 3) := by decide +kernel
theorem dX8_anyPairing_40 : decode cX8_anyPairing 40 = .ok (.goto (-22), 3) := by decide +kernel
theorem dX8_anyPairing_43 : decode cX8_anyPairing 43 = .ok (.iconst 0, 1) := by decide +kernel
theorem dX8_anyPairing_44 : decode cX8_anyPairing 44 = .ok (.ireturn, 1) := by decide +kernel
set_option maxRecDepth 20000 in
theorem ggX8_planTick_X2_going : GoodIn wsX8_planTick wsX2_going := goodIn_r _ [11, 12, 13, 14, 15, 16, 17, 18, 153, 154, 155, 156, 157, 158] (by decide +kernel) (by decide +kernel)
set_option maxRecDepth 20000 in
theorem gX8_planTick_X2_going : GoodIn wsX8_planTick (wsV RX8 115 RX2 yX2_going wsX2_going) := goodIn_app (goodIn_of _ (by decide +kernel)) ggX8_planTick_X2_going
set_option maxRecDepth 20000 in
theorem ggX8_planTick_X8_anyPairing : GoodIn wsX8_planTick wsX8_anyPairing := goodIn_r _ [23, 4, 24, 25, 26, 27, 28, 29, 30, 31, 32, 33, 34, 35, 36, 37, 38, 39, 40, 41, 42, 43, 44, 45, 46, 47, 48, 49, 50, 51, 22, 52, 53, 54, 55, 56, 57, 58, 59, 60, 61, 62, 63, 64, 65, 66, 67, 68, 69, 70, 71, 72, 73, 74, 75, 76, 77, 78, 79, 80, 81, 82, 83, 84, 85, 86, 87, 88, 89, 90, 91, 92, 93, 94, 95, 96, 97, 98, 99, 100, 101, 102, 103, 104, 105, 106, 107, 108, 109, 110, 111, 112, 113, 114, 115, 116, 117, 131, 132, 133, 134, 135, 136, 137, 138, 139, 140, 141, 142, 143, 159, 160, 161, 147, 148, 149, 150, 151, 152, 162, 163, 164, 165, 166, 167, 168, 169, 170, 171, 172] (by decide +kernel) (by decide +kernel)
set_option maxRecDepth 20000 in
theorem gX8_planTick_X8_anyPairing : GoodIn wsX8_planTick (wsV RX8 283 RX8 yX8_anyPairing wsX8_anyPairing) := goodIn_app (goodIn_of _ (by decide +kernel)) ggX8_planTick_X8_anyPairing
set_option maxRecDepth 20000 in
theorem ggX8_planTick_X7_playersAt : GoodIn wsX8_planTick wsX7_playersAt := goodIn_r _ [49, 50, 51, 22, 52, 53, 54, 55, 48, 56, 57, 159, 160, 161] (by decide +kernel) (by decide +kernel)
set_option maxRecDepth 20000 in
theorem gX8_planTick_X7_playersAt : GoodIn wsX8_planTick (wsV RX8 188 RX7 yX7_playersAt wsX7_playersAt) := goodIn_app (goodIn_of _ (by decide +kernel)) ggX8_planTick_X7_playersAt
set_option maxRecDepth 20000 in
theorem ggX8_planTick_X4_add : GoodIn wsX8_planTick wsX4_add := goodIn_r _ [123, 124, 125, 126, 144, 145, 146] (by decide +kernel) (by decide +kernel)
set_option maxRecDepth 20000 in
theorem gX8_planTick_X4_add : GoodIn wsX8_planTick (wsV RX8 287 RX4 yX4_add wsX4_add) := goodIn_app (goodIn_of _ (by decide +kernel)) ggX8_planTick_X4_add
set_option maxRecDepth 20000 in
theorem ggX8_planTick_X7_release : GoodIn wsX8_planTick wsX7_release := goodIn_r _ [130, 57, 50, 106, 51, 22, 52, 159, 160, 161] (by decide +kernel) (by decide +kernel)
set_option maxRecDepth 20000 in
theorem gX8_planTick_X7_release : GoodIn wsX8_planTick (wsV RX8 160 RX7 yX7_release wsX7_release) := goodIn_app (goodIn_of _ (by decide +kernel)) ggX8_planTick_X7_release
theorem dX8_planTick_0 : decode cX8_planTick 0 = .ok (.aload_n 0, 1) := by decide +kernel
theorem dX8_planTick_1 : decode cX8_planTick 1 = .ok (.getfield 36, 3) := by decide +kernel
theorem dX8_planTick_4 : decode cX8_planTick 4 = .ok (.iconst 0, 1) := by decide +kernel
theorem dX8_planTick_5 : decode cX8_planTick 5 = .ok (.putfield 195, 3) := by decide +kernel
theorem dX8_planTick_8 : decode cX8_planTick 8 = .ok (.iconst 5, 1) := by decide +kernel
theorem dX8_planTick_9 : decode cX8_planTick 9 = .ok (.aload_n 0, 1) := by decide +kernel
theorem dX8_planTick_10 : decode cX8_planTick 10 = .ok (.getfield 43, 3) := by decide +kernel
theorem dX8_planTick_13 : decode cX8_planTick 13 = .ok (.invokevirtual 115, 3) := by decide +kernel
theorem dX8_planTick_16 : decode cX8_planTick 16 = .ok (.isub, 1) := by decide +kernel
theorem dX8_planTick_17 : decode cX8_planTick 17 = .ok (.istore_n 2, 1) := by decide +kernel
theorem dX8_planTick_18 : decode cX8_planTick 18 = .ok (.iconst 0, 1) := by decide +kernel
theorem dX8_planTick_19 : decode cX8_planTick 19 = .ok (.istore_n 3, 1) := by decide +kernel
theorem dX8_planTick_20 : decode cX8_planTick 20 = .ok (.iload_n 3, 1) := by decide +kernel
theorem dX8_planTick_21 : decode cX8_planTick 21 = .ok (.iload_n 2, 1) := by decide +kernel
theorem dX8_planTick_22 : decode cX8_planTick 22 = .ok (.if_icmp .ge 66, 3) := by decide +kernel
theorem dX8_planTick_25 : decode cX8_planTick 25 = .ok (.aload_n 0, 1) := by decide +kernel
theorem dX8_planTick_26 : decode cX8_planTick 26 = .ok (.aload_n 1, 1) := by decide +kernel
theorem dX8_planTick_27 : decode cX8_planTick 27 = .ok (.invokevirtual 283, 3) := by decide +kernel
theorem dX8_planTick_30 : decode cX8_planTick 30 = .ok (.ifCond .ne 4, 3) := by decide +kernel
theorem dX8_planTick_33 : decode cX8_planTick 33 = .ok (.return_, 1) := by decide +kernel
theorem dX8_planTick_34 : decode cX8_planTick 34 = .ok (.aload_n 0, 1) := by decide +kernel
theorem dX8_planTick_35 : decode cX8_planTick 35 = .ok (.getfield 36, 3) := by decide +kernel
theorem dX8_planTick_38 : decode cX8_planTick 38 = .ok (.aload_n 1, 1) := by decide +kernel
theorem dX8_planTick_39 : decode cX8_planTick 39 = .ok (.aload_n 0, 1) := by decide +kernel
theorem dX8_planTick_40 : decode cX8_planTick 40 = .ok (.getfield 29, 3) := by decide +kernel
theorem dX8_planTick_43 : decode cX8_planTick 43 = .ok (.getfield 182, 3) := by decide +kernel
theorem dX8_planTick_46 : decode cX8_planTick 46 = .ok (.invokevirtual 188, 3) := by decide +kernel
theorem dX8_planTick_49 : decode cX8_planTick 49 = .ok (.aload_n 1, 1) := by decide +kernel
theorem dX8_planTick_50 : decode cX8_planTick 50 = .ok (.aload_n 0, 1) := by decide +kernel
theorem dX8_planTick_51 : decode cX8_planTick 51 = .ok (.getfield 29, 3) := by decide +kernel
theorem dX8_planTick_54 : decode cX8_planTick 54 = .ok (.getfield 185, 3) := by decide +kernel
theorem dX8_planTick_57 : decode cX8_planTick 57 = .ok (.invokevirtual 188, 3) := by decide +kernel
theorem dX8_planTick_60 : decode cX8_planTick 60 = .ok (.invokevirtual 287, 3) := by decide +kernel
theorem dX8_planTick_63 : decode cX8_planTick 63 = .ok (.aload_n 1, 1) := by decide +kernel
theorem dX8_planTick_64 : decode cX8_planTick 64 = .ok (.aload_n 0, 1) := by decide +kernel
theorem dX8_planTick_65 : decode cX8_planTick 65 = .ok (.getfield 29, 3) := by decide +kernel
theorem dX8_planTick_68 : decode cX8_planTick 68 = .ok (.getfield 182, 3) := by decide +kernel
theorem dX8_planTick_71 : decode cX8_planTick 71 = .ok (.aload_n 0, 1) := by decide +kernel
theorem dX8_planTick_72 : decode cX8_planTick 72 = .ok (.getfield 29, 3) := by decide +kernel
theorem dX8_planTick_75 : decode cX8_planTick 75 = .ok (.getfield 185, 3) := by decide +kernel
theorem dX8_planTick_78 : decode cX8_planTick 78 = .ok (.ior, 1) := by decide +kernel
theorem dX8_planTick_79 : decode cX8_planTick 79 = .ok (.invokevirtual 160, 3) := by decide +kernel
theorem dX8_planTick_82 : decode cX8_planTick 82 = .ok (.iinc 3 1, 3) := by decide +kernel
theorem dX8_planTick_85 : decode cX8_planTick 85 = .ok (.goto (-65), 3) := by decide +kernel
theorem dX8_planTick_88 : decode cX8_planTick 88 = .ok (.return_, 1) := by decide +kernel
set_option maxRecDepth 20000 in
theorem ggX8_isTold_X4_firstAt : GoodIn wsX8_isTold wsX4_firstAt := goodIn_r _ [7, 8, 27, 28, 29] (by decide +kernel) (by decide +kernel)
set_option maxRecDepth 20000 in
theorem gX8_isTold_X4_firstAt : GoodIn wsX8_isTold (wsV RX8 198 RX4 yX4_firstAt wsX4_firstAt) := goodIn_app (goodIn_of _ (by decide +kernel)) ggX8_isTold_X4_firstAt
set_option maxRecDepth 20000 in
theorem ggX8_isTold_X4_secondAt : GoodIn wsX8_isTold wsX4_secondAt := goodIn_r _ [12, 13, 27, 28, 29] (by decide +kernel) (by decide +kernel)
set_option maxRecDepth 20000 in
theorem gX8_isTold_X4_secondAt : GoodIn wsX8_isTold (wsV RX8 201 RX4 yX4_secondAt wsX4_secondAt) := goodIn_app (goodIn_of _ (by decide +kernel)) ggX8_isTold_X4_secondAt
theorem dX8_isTold_0 : decode cX8_isTold 0 = .ok (.iconst 2, 1) := by decide +kernel
theorem dX8_isTold_1 : decode cX8_isTold 1 = .ok (.iload_n 1, 1) := by decide +kernel
theorem dX8_isTold_2 : decode cX8_isTold 2 = .ok (.imul, 1) := by decide +kernel
theorem dX8_isTold_3 : decode cX8_isTold 3 = .ok (.istore_n 3, 1) := by decide +kernel
theorem dX8_isTold_4 : decode cX8_isTold 4 = .ok (.iload_n 3, 1) := by decide +kernel
theorem dX8_isTold_5 : decode cX8_isTold 5 = .ok (.ifCond .lt 21, 3) := by decide +kernel
theorem dX8_isTold_8 : decode cX8_isTold 8 = .ok (.iload_n 3, 1) := by decide +kernel
theorem dX8_isTold_9 : decode cX8_isTold 9 = .ok (.iconst 1, 1) := by decide +kernel
theorem dX8_isTold_10 : decode cX8_isTold 10 = .ok (.iadd, 1) := by decide +kernel
theorem dX8_isTold_11 : decode cX8_isTold 11 = .ok (.iload_n 2, 1) := by decide +kernel
theorem dX8_isTold_12 : decode cX8_isTold 12 = .ok (.if_icmp .ge 14, 3) := by decide +kernel
theorem dX8_isTold_15 : decode cX8_isTold 15 = .ok (.iload_n 3, 1) := by decide +kernel
theorem dX8_isTold_16 : decode cX8_isTold 16 = .ok (.iconst 1, 1) := by decide +kernel
theorem dX8_isTold_17 : decode cX8_isTold 17 = .ok (.iadd, 1) := by decide +kernel
theorem dX8_isTold_18 : decode cX8_isTold 18 = .ok (.aload_n 0, 1) := by decide +kernel
theorem dX8_isTold_19 : decode cX8_isTold 19 = .ok (.getfield 54, 3) := by decide +kernel
theorem dX8_isTold_22 : decode cX8_isTold 22 = .ok (.arraylength, 1) := by decide +kernel
theorem dX8_isTold_23 : decode cX8_isTold 23 = .ok (.if_icmp .lt 5, 3) := by decide +kernel
theorem dX8_isTold_26 : decode cX8_isTold 26 = .ok (.iconst 0, 1) := by decide +kernel
theorem dX8_isTold_27 : decode cX8_isTold 27 = .ok (.ireturn, 1) := by decide +kernel
theorem dX8_isTold_28 : decode cX8_isTold 28 = .ok (.aload_n 0, 1) := by decide +kernel
theorem dX8_isTold_29 : decode cX8_isTold 29 = .ok (.getfield 54, 3) := by decide +kernel
theorem dX8_isTold_32 : decode cX8_isTold 32 = .ok (.iload_n 3, 1) := by decide +kernel
theorem dX8_isTold_33 : decode cX8_isTold 33 = .ok (.laload, 1) := by decide +kernel
theorem dX8_isTold_34 : decode cX8_isTold 34 = .ok (.aload_n 0, 1) := by decide +kernel
theorem dX8_isTold_35 : decode cX8_isTold 35 = .ok (.getfield 36, 3) := by decide +kernel
theorem dX8_isTold_38 : decode cX8_isTold 38 = .ok (.iload_n 1, 1) := by decide +kernel
theorem dX8_isTold_39 : decode cX8_isTold 39 = .ok (.invokevirtual 198, 3) := by decide +kernel
theorem dX8_isTold_42 : decode cX8_isTold 42 = .ok (.i2l, 1) := by decide +kernel
theorem dX8_isTold_43 : decode cX8_isTold 43 = .ok (.lcmp, 1) := by decide +kernel
theorem dX8_isTold_44 : decode cX8_isTold 44 = .ok (.ifCond .ne 28, 3) := by decide +kernel
theorem dX8_isTold_47 : decode cX8_isTold 47 = .ok (.aload_n 0, 1) := by decide +kernel
theorem dX8_isTold_48 : decode cX8_isTold 48 = .ok (.getfield 54, 3) := by decide +kernel
theorem dX8_isTold_51 : decode cX8_isTold 51 = .ok (.iload_n 3, 1) := by decide +kernel
theorem dX8_isTold_52 : decode cX8_isTold 52 = .ok (.iconst 1, 1) := by decide +kernel
theorem dX8_isTold_53 : decode cX8_isTold 53 = .ok (.iadd, 1) := by decide +kernel
theorem dX8_isTold_54 : decode cX8_isTold 54 = .ok (.laload, 1) := by decide +kernel
theorem dX8_isTold_55 : decode cX8_isTold 55 = .ok (.aload_n 0, 1) := by decide +kernel
theorem dX8_isTold_56 : decode cX8_isTold 56 = .ok (.getfield 36, 3) := by decide +kernel
theorem dX8_isTold_59 : decode cX8_isTold 59 = .ok (.iload_n 1, 1) := by decide +kernel
theorem dX8_isTold_60 : decode cX8_isTold 60 = .ok (.invokevirtual 201, 3) := by decide +kernel
theorem dX8_isTold_63 : decode cX8_isTold 63 = .ok (.i2l, 1) := by decide +kernel
theorem dX8_isTold_64 : decode cX8_isTold 64 = .ok (.lcmp, 1) := by decide +kernel
theorem dX8_isTold_65 : decode cX8_isTold 65 = .ok (.ifCond .ne 7, 3) := by decide +kernel
theorem dX8_isTold_68 : decode cX8_isTold 68 = .ok (.iconst 1, 1) := by decide +kernel
theorem dX8_isTold_69 : decode cX8_isTold 69 = .ok (.goto 4, 3) := by decide +kernel
theorem dX8_isTold_72 : decode cX8_isTold 72 = .ok (.iconst 0, 1) := by decide +kernel
theorem dX8_isTold_73 : decode cX8_isTold 73 = .ok (.ireturn, 1) := by decide +kernel
end
section
theorem dX9_init_0 : decode cX9_init 0 = .ok (.aload_n 0, 1) := by decide +kernel
theorem dX9_init_1 : decode cX9_init 1 = .ok (.invokespecial 3, 3) := by decide +kernel
theorem dX9_init_4 : decode cX9_init 4 = .ok (.aload_n 0, 1) := by decide +kernel
theorem dX9_init_5 : decode cX9_init 5 = .ok (.bipush 6, 2) := by decide +kernel
theorem dX9_init_7 : decode cX9_init 7 = .ok (.newarray .int, 2) := by decide +kernel
theorem dX9_init_9 : decode cX9_init 9 = .ok (.putfield 9, 3) := by decide +kernel
theorem dX9_init_12 : decode cX9_init 12 = .ok (.aload_n 0, 1) := by decide +kernel
theorem dX9_init_13 : decode cX9_init 13 = .ok (.bipush 16, 2) := by decide +kernel
theorem dX9_init_15 : decode cX9_init 15 = .ok (.newarray .int, 2) := by decide +kernel
theorem dX9_init_17 : decode cX9_init 17 = .ok (.putfield 13, 3) := by decide +kernel
theorem dX9_init_20 : decode cX9_init 20 = .ok (.aload_n 0, 1) := by decide +kernel
theorem dX9_init_21 : decode cX9_init 21 = .ok (.bipush 112, 2) := by decide +kernel
theorem dX9_init_23 : decode cX9_init 23 = .ok (.newarray .long, 2) := by decide +kernel
theorem dX9_init_25 : decode cX9_init 25 = .ok (.putfield 16, 3) := by decide +kernel
theorem dX9_init_28 : decode cX9_init 28 = .ok (.aload_n 0, 1) := by decide +kernel
theorem dX9_init_29 : decode cX9_init 29 = .ok (.sipush 128, 3) := by decide +kernel
theorem dX9_init_32 : decode cX9_init 32 = .ok (.newarray .long, 2) := by decide +kernel
theorem dX9_init_34 : decode cX9_init 34 = .ok (.putfield 20, 3) := by decide +kernel
theorem dX9_init_37 : decode cX9_init 37 = .ok (.aload_n 0, 1) := by decide +kernel
theorem dX9_init_38 : decode cX9_init 38 = .ok (.bipush 16, 2) := by decide +kernel
theorem dX9_init_40 : decode cX9_init 40 = .ok (.newarray .int, 2) := by decide +kernel
theorem dX9_init_42 : decode cX9_init 42 = .ok (.putfield 23, 3) := by decide +kernel
theorem dX9_init_45 : decode cX9_init 45 = .ok (.aload_n 0, 1) := by decide +kernel
theorem dX9_init_46 : decode cX9_init 46 = .ok (.iconst 2, 1) := by decide +kernel
theorem dX9_init_47 : decode cX9_init 47 = .ok (.putfield 26, 3) := by decide +kernel
theorem dX9_init_50 : decode cX9_init 50 = .ok (.aload_n 0, 1) := by decide +kernel
theorem dX9_init_51 : decode cX9_init 51 = .ok (.ldc 30, 2) := by decide +kernel
theorem dX9_init_53 : decode cX9_init 53 = .ok (.putfield 31, 3) := by decide +kernel
theorem dX9_init_56 : decode cX9_init 56 = .ok (.aload_n 0, 1) := by decide +kernel
theorem dX9_init_57 : decode cX9_init 57 = .ok (.ldc 34, 2) := by decide +kernel
theorem dX9_init_59 : decode cX9_init 59 = .ok (.putfield 35, 3) := by decide +kernel
theorem dX9_init_62 : decode cX9_init 62 = .ok (.aload_n 0, 1) := by decide +kernel
theorem dX9_init_63 : decode cX9_init 63 = .ok (.ldc 38, 2) := by decide +kernel
theorem dX9_init_65 : decode cX9_init 65 = .ok (.putfield 39, 3) := by decide +kernel
theorem dX9_init_68 : decode cX9_init 68 = .ok (.aload_n 0, 1) := by decide +kernel
theorem dX9_init_69 : decode cX9_init 69 = .ok (.bipush 10, 2) := by decide +kernel
theorem dX9_init_71 : decode cX9_init 71 = .ok (.newarray .int, 2) := by decide +kernel
theorem dX9_init_73 : decode cX9_init 73 = .ok (.putfield 42, 3) := by decide +kernel
theorem dX9_init_76 : decode cX9_init 76 = .ok (.aload_n 0, 1) := by decide +kernel
theorem dX9_init_77 : decode cX9_init 77 = .ok (.bipush 10, 2) := by decide +kernel
theorem dX9_init_79 : decode cX9_init 79 = .ok (.newarray .int, 2) := by decide +kernel
theorem dX9_init_81 : decode cX9_init 81 = .ok (.putfield 45, 3) := by decide +kernel
theorem dX9_init_84 : decode cX9_init 84 = .ok (.aload_n 0, 1) := by decide +kernel
theorem dX9_init_85 : decode cX9_init 85 = .ok (.iconst 5, 1) := by decide +kernel
theorem dX9_init_86 : decode cX9_init 86 = .ok (.newarray .boolean, 2) := by decide +kernel
theorem dX9_init_88 : decode cX9_init 88 = .ok (.putfield 48, 3) := by decide +kernel
theorem dX9_init_91 : decode cX9_init 91 = .ok (.aload_n 0, 1) := by decide +kernel
theorem dX9_init_92 : decode cX9_init 92 = .ok (.iconst 5, 1) := by decide +kernel
theorem dX9_init_93 : decode cX9_init 93 = .ok (.newarray .int, 2) := by decide +kernel
theorem dX9_init_95 : decode cX9_init 95 = .ok (.putfield 52, 3) := by decide +kernel
theorem dX9_init_98 : decode cX9_init 98 = .ok (.aload_n 0, 1) := by decide +kernel
theorem dX9_init_99 : decode cX9_init 99 = .ok (.iconst 5, 1) := by decide +kernel
theorem dX9_init_100 : decode cX9_init 100 = .ok (.newarray .int, 2) := by decide +kernel
theorem dX9_init_102 : decode cX9_init 102 = .ok (.putfield 55, 3) := by decide +kernel
theorem dX9_init_105 : decode cX9_init 105 = .ok (.aload_n 0, 1) := by decide +kernel
theorem dX9_init_106 : decode cX9_init 106 = .ok (.iconst 5, 1) := by decide +kernel
theorem dX9_init_107 : decode cX9_init 107 = .ok (.newarray .int, 2) := by decide +kernel
theorem dX9_init_109 : decode cX9_init 109 = .ok (.putfield 58, 3) := by decide +kernel
theorem dX9_init_112 : decode cX9_init 112 = .ok (.aload_n 0, 1) := by decide +kernel
theorem dX9_init_113 : decode cX9_init 113 = .ok (.iconst 5, 1) := by decide +kernel
theorem dX9_init_114 : decode cX9_init 114 = .ok (.newarray .int, 2) := by decide +kernel
theorem dX9_init_116 : decode cX9_init 116 = .ok (.putfield 61, 3) := by decide +kernel
theorem dX9_init_119 : decode cX9_init 119 = .ok (.aload_n 0, 1) := by decide +kernel
theorem dX9_init_120 : decode cX9_init 120 = .ok (.ldc 64, 2) := by decide +kernel
theorem dX9_init_122 : decode cX9_init 122 = .ok (.putfield 65, 3) := by decide +kernel
theorem dX9_init_125 : decode cX9_init 125 = .ok (.aload_n 0, 1) := by decide +kernel
theorem dX9_init_126 : decode cX9_init 126 = .ok (.bipush 20, 2) := by decide +kernel
theorem dX9_init_128 : decode cX9_init 128 = .ok (.newarray .int, 2) := by decide +kernel
theorem dX9_init_130 : decode cX9_init 130 = .ok (.putfield 68, 3) := by decide +kernel
theorem dX9_init_133 : decode cX9_init 133 = .ok (.aload_n 0, 1) := by decide +kernel
theorem dX9_init_134 : decode cX9_init 134 = .ok (.bipush 112, 2) := by decide +kernel
theorem dX9_init_136 : decode cX9_init 136 = .ok (.newarray .long, 2) := by decide +kernel
theorem dX9_init_138 : decode cX9_init 138 = .ok (.putfield 71, 3) := by decide +kernel
theorem dX9_init_141 : decode cX9_init 141 = .ok (.aload_n 0, 1) := by decide +kernel
theorem dX9_init_142 : decode cX9_init 142 = .ok (.sipush 1024, 3) := by decide +kernel
theorem dX9_init_145 : decode cX9_init 145 = .ok (.newarray .int, 2) := by decide +kernel
theorem dX9_init_147 : decode cX9_init 147 = .ok (.putfield 74, 3) := by decide +kernel
theorem dX9_init_150 : decode cX9_init 150 = .ok (.aload_n 0, 1) := by decide +kernel
theorem dX9_init_151 : decode cX9_init 151 = .ok (.sipush 1024, 3) := by decide +kernel
theorem dX9_init_154 : decode cX9_init 154 = .ok (.newarray .long, 2) := by decide +kernel
theorem dX9_init_156 : decode cX9_init 156 = .ok (.putfield 77, 3) := by decide +kernel
theorem dX9_init_159 : decode cX9_init 159 = .ok (.aload_n 0, 1) := by decide +kernel
theorem dX9_init_160 : decode cX9_init 160 = .ok (.iconst 5, 1) := by decide +kernel
theorem dX9_init_161 : decode cX9_init 161 = .ok (.newarray .int, 2) := by decide +kernel
theorem dX9_init_163 : decode cX9_init 163 = .ok (.putfield 80, 3) := by decide +kernel
theorem dX9_init_166 : decode cX9_init 166 = .ok (.aload_n 0, 1) := by decide +kernel
theorem dX9_init_167 : decode cX9_init 167 = .ok (.iconst 5, 1) := by decide +kernel
theorem dX9_init_168 : decode cX9_init 168 = .ok (.newarray .int, 2) := by decide +kernel
theorem dX9_init_170 : decode cX9_init 170 = .ok (.putfield 83, 3) := by decide +kernel
theorem dX9_init_173 : decode cX9_init 173 = .ok (.aload_n 0, 1) := by decide +kernel
theorem dX9_init_174 : decode cX9_init 174 = .ok (.bipush 7, 2) := by decide +kernel
theorem dX9_init_176 : decode cX9_init 176 = .ok (.newarray .long, 2) := by decide +kernel
theorem dX9_init_178 : decode cX9_init 178 = .ok (.putfield 86, 3) := by decide +kernel
theorem dX9_init_181 : decode cX9_init 181 = .ok (.aload_n 0, 1) := by decide +kernel
theorem dX9_init_182 : decode cX9_init 182 = .ok (.iconst 0, 1) := by decide +kernel
theorem dX9_init_183 : decode cX9_init 183 = .ok (.putfield 89, 3) := by decide +kernel
theorem dX9_init_186 : decode cX9_init 186 = .ok (.return_, 1) := by decide +kernel
theorem dX9_in_0 : decode cX9_in 0 = .ok (.lload_n 0, 1) := by decide +kernel
theorem dX9_in_1 : decode cX9_in 1 = .ok (.lload_n 2, 1) := by decide +kernel
theorem dX9_in_2 : decode cX9_in 2 = .ok (.lcmp, 1) := by decide +kernel
theorem dX9_in_3 : decode cX9_in 3 = .ok (.ifCond .lt 14, 3) := by decide +kernel
theorem dX9_in_6 : decode cX9_in 6 = .ok (.lload_n 0, 1) := by decide +kernel
theorem dX9_in_7 : decode cX9_in 7 = .ok (.lload 4, 2) := by decide +kernel
theorem dX9_in_9 : decode cX9_in 9 = .ok (.lcmp, 1) := by decide +kernel
theorem dX9_in_10 : decode cX9_in 10 = .ok (.ifCond .gt 7, 3) := by decide +kernel
theorem dX9_in_13 : decode cX9_in 13 = .ok (.iconst 1, 1) := by decide +kernel
theorem dX9_in_14 : decode cX9_in 14 = .ok (.goto 4, 3) := by decide +kernel
theorem dX9_in_17 : decode cX9_in 17 = .ok (.iconst 0, 1) := by decide +kernel
theorem dX9_in_18 : decode cX9_in 18 = .ok (.ireturn, 1) := by decide +kernel
theorem dX9_finding_0 : decode cX9_finding 0 = .ok (.aload_n 0, 1) := by decide +kernel
theorem dX9_finding_1 : decode cX9_finding 1 = .ok (.getfield 9, 3) := by decide +kernel
theorem dX9_finding_4 : decode cX9_finding 4 = .ok (.ldc2_w 92, 3) := by decide +kernel
theorem dX9_finding_7 : decode cX9_finding 7 = .ok (.lload_n 1, 1) := by decide +kernel
theorem dX9_finding_8 : decode cX9_finding 8 = .ok (.lsub, 1) := by decide +kernel
theorem dX9_finding_9 : decode cX9_finding 9 = .ok (.l2i, 1) := by decide +kernel
theorem dX9_finding_10 : decode cX9_finding 10 = .ok (.dup2, 1) := by decide +kernel
theorem dX9_finding_11 : decode cX9_finding 11 = .ok (.iaload, 1) := by decide +kernel
theorem dX9_finding_12 : decode cX9_finding 12 = .ok (.iconst 1, 1) := by decide +kernel
theorem dX9_finding_13 : decode cX9_finding 13 = .ok (.iadd, 1) := by decide +kernel
theorem dX9_finding_14 : decode cX9_finding 14 = .ok (.iastore, 1) := by decide +kernel
theorem dX9_finding_15 : decode cX9_finding 15 = .ok (.lload_n 1, 1) := by decide +kernel
theorem dX9_finding_16 : decode cX9_finding 16 = .ok (.lreturn, 1) := by decide +kernel
set_option maxRecDepth 20000 in
theorem ggX9_isPlayer_X9_in : GoodIn wsX9_isPlayer wsX9_in := goodIn_r _ [5] (by decide +kernel) (by decide +kernel)
set_option maxRecDepth 20000 in
theorem gX9_isPlayer_X9_in : GoodIn wsX9_isPlayer (va_wsS RX9 97 yX9_in wsX9_in) := goodIn_app (goodIn_of _ (by decide +kernel)) ggX9_isPlayer_X9_in
theorem dX9_isPlayer_0 : decode cX9_isPlayer 0 = .ok (.iload_n 1, 1) := by decide +kernel
theorem dX9_isPlayer_1 : decode cX9_isPlayer 1 = .ok (.i2l, 1) := by decide +kernel
theorem dX9_isPlayer_2 : decode cX9_isPlayer 2 = .ok (.lconst 0, 1) := by decide +kernel
theorem dX9_isPlayer_3 : decode cX9_isPlayer 3 = .ok (.aload_n 0, 1) := by decide +kernel
theorem dX9_isPlayer_4 : decode cX9_isPlayer 4 = .ok (.getfield 94, 3) := by decide +kernel
theorem dX9_isPlayer_7 : decode cX9_isPlayer 7 = .ok (.iconst 1, 1) := by decide +kernel
theorem dX9_isPlayer_8 : decode cX9_isPlayer 8 = .ok (.isub, 1) := by decide +kernel
theorem dX9_isPlayer_9 : decode cX9_isPlayer 9 = .ok (.i2l, 1) := by decide +kernel
theorem dX9_isPlayer_10 : decode cX9_isPlayer 10 = .ok (.invokestatic 97, 3) := by decide +kernel
theorem dX9_isPlayer_13 : decode cX9_isPlayer 13 = .ok (.ireturn, 1) := by decide +kernel
set_option maxRecDepth 20000 in
theorem ggX9_isLevel_X9_in : GoodIn wsX9_isLevel wsX9_in := goodIn_r _ [5] (by decide +kernel) (by decide +kernel)
set_option maxRecDepth 20000 in
theorem gX9_isLevel_X9_in : GoodIn wsX9_isLevel (va_wsS RX9 97 yX9_in wsX9_in) := goodIn_app (goodIn_of _ (by decide +kernel)) ggX9_isLevel_X9_in
theorem dX9_isLevel_0 : decode cX9_isLevel 0 = .ok (.iload_n 0, 1) := by decide +kernel
theorem dX9_isLevel_1 : decode cX9_isLevel 1 = .ok (.i2l, 1) := by decide +kernel
theorem dX9_isLevel_2 : decode cX9_isLevel 2 = .ok (.lconst 0, 1) := by decide +kernel
theorem dX9_isLevel_3 : decode cX9_isLevel 3 = .ok (.ldc2_w 101, 3) := by decide +kernel
theorem dX9_isLevel_6 : decode cX9_isLevel 6 = .ok (.invokestatic 97, 3) := by decide +kernel
theorem dX9_isLevel_9 : decode cX9_isLevel 9 = .ok (.ireturn, 1) := by decide +kernel
theorem dX9_ones_0 : decode cX9_ones 0 = .ok (.iconst 0, 1) := by decide +kernel
theorem dX9_ones_1 : decode cX9_ones 1 = .ok (.istore_n 1, 1) := by decide +kernel
theorem dX9_ones_2 : decode cX9_ones 2 = .ok (.iconst 0, 1) := by decide +kernel
theorem dX9_ones_3 : decode cX9_ones 3 = .ok (.istore_n 2, 1) := by decide +kernel
theorem dX9_ones_4 : decode cX9_ones 4 = .ok (.iload_n 2, 1) := by decide +kernel
theorem dX9_ones_5 : decode cX9_ones 5 = .ok (.bipush 16, 2) := by decide +kernel
theorem dX9_ones_7 : decode cX9_ones 7 = .ok (.if_icmp .ge 17, 3) := by decide +kernel
theorem dX9_ones_10 : decode cX9_ones 10 = .ok (.iload_n 1, 1) := by decide +kernel
theorem dX9_ones_11 : decode cX9_ones 11 = .ok (.iload_n 0, 1) := by decide +kernel
theorem dX9_ones_12 : decode cX9_ones 12 = .ok (.iload_n 2, 1) := by decide +kernel
theorem dX9_ones_13 : decode cX9_ones 13 = .ok (.ishr, 1) := by decide +kernel
theorem dX9_ones_14 : decode cX9_ones 14 = .ok (.iconst 1, 1) := by decide +kernel
theorem dX9_ones_15 : decode cX9_ones 15 = .ok (.iand, 1) := by decide +kernel
theorem dX9_ones_16 : decode cX9_ones 16 = .ok (.iadd, 1) := by decide +kernel
theorem dX9_ones_17 : decode cX9_ones 17 = .ok (.istore_n 1, 1) := by decide +kernel
theorem dX9_ones_18 : decode cX9_ones 18 = .ok (.iinc 2 1, 3) := by decide +kernel
theorem dX9_ones_21 : decode cX9_ones 21 = .ok (.goto (-17), 3) := by decide +kernel
theorem dX9_ones_24 : decode cX9_ones 24 = .ok (.iload_n 1, 1) := by decide +kernel
theorem dX9_ones_25 : decode cX9_ones 25 = .ok (.ireturn, 1) := by decide +kernel
theorem dX9_middle_0 : decode cX9_middle 0 = .ok (.iload_n 0, 1) := by decide +kernel
theorem dX9_middle_1 : decode cX9_middle 1 = .ok (.iconst 3, 1) := by decide +kernel
theorem dX9_middle_2 : decode cX9_middle 2 = .ok (.if_icmp .ne 9, 3) := by decide +kernel
theorem dX9_middle_5 : decode cX9_middle 5 = .ok (.ldc2_w 103, 3) := by decide +kernel
theorem dX9_middle_8 : decode cX9_middle 8 = .ok (.goto 6, 3) := by decide +kernel
theorem dX9_middle_11 : decode cX9_middle 11 = .ok (.ldc2_w 105, 3) := by decide +kernel
theorem dX9_middle_14 : decode cX9_middle 14 = .ok (.lreturn, 1) := by decide +kernel
set_option maxRecDepth 20000 in
theorem ggX9_player_X9_in : GoodIn wsX9_player wsX9_in := goodIn_r _ [10] (by decide +kernel) (by decide +kernel)
set_option maxRecDepth 20000 in
theorem gX9_player_X9_in : GoodIn wsX9_player (va_wsS RX9 97 yX9_in wsX9_in) := goodIn_app (goodIn_of _ (by decide +kernel)) ggX9_player_X9_in
set_option maxRecDepth 20000 in
theorem ggX9_player_X9_finding : GoodIn wsX9_player wsX9_finding := goodIn_r _ [14, 15, 16, 22, 23, 24, 25, 26, 27, 28, 29, 30, 31, 32, 33, 34, 35, 36, 37, 38, 39, 40, 41, 42, 43, 44, 45, 46, 47, 48, 49, 50, 51, 52, 53, 54] (by decide +kernel) (by decide +kernel)
set_option maxRecDepth 20000 in
theorem gX9_player_X9_finding : GoodIn wsX9_player (wsV RX9 111 RX9 yX9_finding wsX9_finding) := goodIn_app (goodIn_of _ (by decide +kernel)) ggX9_player_X9_finding
set_option maxRecDepth 20000 in
theorem ggX9_player_X9_middle : GoodIn wsX9_player wsX9_middle := goodIn_r _ [19, 20, 21] (by decide +kernel) (by decide +kernel)
set_option maxRecDepth 20000 in
theorem gX9_player_X9_middle : GoodIn wsX9_player (va_wsS RX9 117 yX9_middle wsX9_middle) := goodIn_app (goodIn_of _ (by decide +kernel)) ggX9_player_X9_middle
theorem dX9_player_0 : decode cX9_player 0 = .ok (.iload_n 1, 1) := by decide +kernel
theorem dX9_player_1 : decode cX9_player 1 = .ok (.i2l, 1) := by decide +kernel
theorem dX9_player_2 : decode cX9_player 2 = .ok (.lconst 0, 1) := by decide +kernel
theorem dX9_player_3 : decode cX9_player 3 = .ok (.ldc2_w 107, 3) := by decide +kernel
theorem dX9_player_6 : decode cX9_player 6 = .ok (.invokestatic 97, 3) := by decide +kernel
theorem dX9_player_9 : decode cX9_player 9 = .ok (.ifCond .ne 11, 3) := by decide +kernel
theorem dX9_player_12 : decode cX9_player 12 = .ok (.aload_n 0, 1) := by decide +kernel
theorem dX9_player_13 : decode cX9_player 13 = .ok (.ldc2_w 109, 3) := by decide +kernel
theorem dX9_player_16 : decode cX9_player 16 = .ok (.invokevirtual 111, 3) := by decide +kernel
theorem dX9_player_19 : decode cX9_player 19 = .ok (.lreturn, 1) := by decide +kernel
theorem dX9_player_20 : decode cX9_player 20 = .ok (.aload_n 0, 1) := by decide +kernel
theorem dX9_player_21 : decode cX9_player 21 = .ok (.getfield 94, 3) := by decide +kernel
theorem dX9_player_24 : decode cX9_player 24 = .ok (.bipush 16, 2) := by decide +kernel
theorem dX9_player_26 : decode cX9_player 26 = .ok (.if_icmp .ne 11, 3) := by decide +kernel
theorem dX9_player_29 : decode cX9_player 29 = .ok (.aload_n 0, 1) := by decide +kernel
theorem dX9_player_30 : decode cX9_player 30 = .ok (.ldc2_w 115, 3) := by decide +kernel
theorem dX9_player_33 : decode cX9_player 33 = .ok (.invokevirtual 111, 3) := by decide +kernel
theorem dX9_player_36 : decode cX9_player 36 = .ok (.lreturn, 1) := by decide +kernel
theorem dX9_player_37 : decode cX9_player 37 = .ok (.aload_n 0, 1) := by decide +kernel
theorem dX9_player_38 : decode cX9_player 38 = .ok (.getfield 13, 3) := by decide +kernel
theorem dX9_player_41 : decode cX9_player 41 = .ok (.aload_n 0, 1) := by decide +kernel
theorem dX9_player_42 : decode cX9_player 42 = .ok (.getfield 94, 3) := by decide +kernel
theorem dX9_player_45 : decode cX9_player 45 = .ok (.iload_n 1, 1) := by decide +kernel
theorem dX9_player_46 : decode cX9_player 46 = .ok (.iastore, 1) := by decide +kernel
theorem dX9_player_47 : decode cX9_player 47 = .ok (.iconst 0, 1) := by decide +kernel
theorem dX9_player_48 : decode cX9_player 48 = .ok (.istore_n 2, 1) := by decide +kernel
theorem dX9_player_49 : decode cX9_player 49 = .ok (.iload_n 2, 1) := by decide +kernel
theorem dX9_player_50 : decode cX9_player 50 = .ok (.bipush 7, 2) := by decide +kernel
theorem dX9_player_52 : decode cX9_player 52 = .ok (.if_icmp .ge 27, 3) := by decide +kernel
theorem dX9_player_55 : decode cX9_player 55 = .ok (.aload_n 0, 1) := by decide +kernel
theorem dX9_player_56 : decode cX9_player 56 = .ok (.getfield 16, 3) := by decide +kernel
theorem dX9_player_59 : decode cX9_player 59 = .ok (.bipush 7, 2) := by decide +kernel
theorem dX9_player_61 : decode cX9_player 61 = .ok (.aload_n 0, 1) := by decide +kernel
theorem dX9_player_62 : decode cX9_player 62 = .ok (.getfield 94, 3) := by decide +kernel
theorem dX9_player_65 : decode cX9_player 65 = .ok (.imul, 1) := by decide +kernel
theorem dX9_player_66 : decode cX9_player 66 = .ok (.iload_n 2, 1) := by decide +kernel
theorem dX9_player_67 : decode cX9_player 67 = .ok (.iadd, 1) := by decide +kernel
theorem dX9_player_68 : decode cX9_player 68 = .ok (.iload_n 2, 1) := by decide +kernel
theorem dX9_player_69 : decode cX9_player 69 = .ok (.invokestatic 117, 3) := by decide +kernel
theorem dX9_player_72 : decode cX9_player 72 = .ok (.lastore, 1) := by decide +kernel
theorem dX9_player_73 : decode cX9_player 73 = .ok (.iinc 2 1, 3) := by decide +kernel
theorem dX9_player_76 : decode cX9_player 76 = .ok (.goto (-27), 3) := by decide +kernel
theorem dX9_player_79 : decode cX9_player 79 = .ok (.aload_n 0, 1) := by decide +kernel
theorem dX9_player_80 : decode cX9_player 80 = .ok (.dup, 1) := by decide +kernel
theorem dX9_player_81 : decode cX9_player 81 = .ok (.getfield 94, 3) := by decide +kernel
theorem dX9_player_84 : decode cX9_player 84 = .ok (.iconst 1, 1) := by decide +kernel
theorem dX9_player_85 : decode cX9_player 85 = .ok (.iadd, 1) := by decide +kernel
theorem dX9_player_86 : decode cX9_player 86 = .ok (.putfield 94, 3) := by decide +kernel
theorem dX9_player_89 : decode cX9_player 89 = .ok (.aload_n 0, 1) := by decide +kernel
theorem dX9_player_90 : decode cX9_player 90 = .ok (.getfield 94, 3) := by decide +kernel
theorem dX9_player_93 : decode cX9_player 93 = .ok (.iconst 1, 1) := by decide +kernel
theorem dX9_player_94 : decode cX9_player 94 = .ok (.isub, 1) := by decide +kernel
theorem dX9_player_95 : decode cX9_player 95 = .ok (.i2l, 1) := by decide +kernel
theorem dX9_player_96 : decode cX9_player 96 = .ok (.lreturn, 1) := by decide +kernel
set_option maxRecDepth 20000 in
theorem ggX9_become_X9_isPlayer : GoodIn wsX9_become wsX9_isPlayer := goodIn_r _ [8, 9, 10, 11, 7, 12, 19, 20, 21, 22, 23, 24, 25, 26, 27, 28, 29, 30, 31, 32, 33, 34, 35, 36, 37, 38, 39, 40, 41, 42, 43, 44, 45, 46, 47, 48, 49, 50, 51] (by decide +kernel) (by decide +kernel)
set_option maxRecDepth 20000 in
theorem gX9_become_X9_isPlayer : GoodIn wsX9_become (wsV RX9 121 RX9 yX9_isPlayer wsX9_isPlayer) := goodIn_app (goodIn_of _ (by decide +kernel)) ggX9_become_X9_isPlayer
set_option maxRecDepth 20000 in
theorem ggX9_become_X9_in : GoodIn wsX9_become wsX9_in := goodIn_r _ [12] (by decide +kernel) (by decide +kernel)
set_option maxRecDepth 20000 in
theorem gX9_become_X9_in : GoodIn wsX9_become (va_wsS RX9 97 yX9_in wsX9_in) := goodIn_app (goodIn_of _ (by decide +kernel)) ggX9_become_X9_in
set_option maxRecDepth 20000 in
theorem ggX9_become_X9_finding : GoodIn wsX9_become wsX9_finding := goodIn_r _ [16, 17, 18, 19, 20, 21, 22, 23, 24, 25, 26, 27, 28, 29, 30, 31, 32, 33, 34, 35, 36, 37, 38, 39, 40, 41, 42, 43, 44, 45, 46, 47, 48, 49, 50, 51] (by decide +kernel) (by decide +kernel)
set_option maxRecDepth 20000 in
theorem gX9_become_X9_finding : GoodIn wsX9_become (wsV RX9 111 RX9 yX9_finding wsX9_finding) := goodIn_app (goodIn_of _ (by decide +kernel)) ggX9_become_X9_finding
theorem dX9_become_0 : decode cX9_become 0 = .ok (.aload_n 0, 1) := by decide +kernel
theorem dX9_become_1 : decode cX9_become 1 = .ok (.iload_n 1, 1) := by decide +kernel
theorem dX9_become_2 : decode cX9_become 2 = .ok (.invokevirtual 121, 3) := by decide +kernel
theorem dX9_become_5 : decode cX9_become 5 = .ok (.ifCond .eq 15, 3) := by decide +kernel
theorem dX9_become_8 : decode cX9_become 8 = .ok (.iload_n 2, 1) := by decide +kernel
theorem dX9_become_9 : decode cX9_become 9 = .ok (.i2l, 1) := by decide +kernel
theorem dX9_become_10 : decode cX9_become 10 = .ok (.lconst 0, 1) := by decide +kernel
theorem dX9_become_11 : decode cX9_become 11 = .ok (.ldc2_w 107, 3) := by decide +kernel
theorem dX9_become_14 : decode cX9_become 14 = .ok (.invokestatic 97, 3) := by decide +kernel
theorem dX9_become_17 : decode cX9_become 17 = .ok (.ifCond .ne 11, 3) := by decide +kernel
theorem dX9_become_20 : decode cX9_become 20 = .ok (.aload_n 0, 1) := by decide +kernel
theorem dX9_become_21 : decode cX9_become 21 = .ok (.ldc2_w 109, 3) := by decide +kernel
theorem dX9_become_24 : decode cX9_become 24 = .ok (.invokevirtual 111, 3) := by decide +kernel
theorem dX9_become_27 : decode cX9_become 27 = .ok (.lreturn, 1) := by decide +kernel
theorem dX9_become_28 : decode cX9_become 28 = .ok (.aload_n 0, 1) := by decide +kernel
theorem dX9_become_29 : decode cX9_become 29 = .ok (.getfield 13, 3) := by decide +kernel
theorem dX9_become_32 : decode cX9_become 32 = .ok (.iload_n 1, 1) := by decide +kernel
theorem dX9_become_33 : decode cX9_become 33 = .ok (.iaload, 1) := by decide +kernel
theorem dX9_become_34 : decode cX9_become 34 = .ok (.istore_n 3, 1) := by decide +kernel
theorem dX9_become_35 : decode cX9_become 35 = .ok (.aload_n 0, 1) := by decide +kernel
theorem dX9_become_36 : decode cX9_become 36 = .ok (.getfield 13, 3) := by decide +kernel
theorem dX9_become_39 : decode cX9_become 39 = .ok (.iload_n 1, 1) := by decide +kernel
theorem dX9_become_40 : decode cX9_become 40 = .ok (.iload_n 2, 1) := by decide +kernel
theorem dX9_become_41 : decode cX9_become 41 = .ok (.iastore, 1) := by decide +kernel
theorem dX9_become_42 : decode cX9_become 42 = .ok (.iload_n 3, 1) := by decide +kernel
theorem dX9_become_43 : decode cX9_become 43 = .ok (.i2l, 1) := by decide +kernel
theorem dX9_become_44 : decode cX9_become 44 = .ok (.lreturn, 1) := by decide +kernel
theorem dX9_meanOf_0 : decode cX9_meanOf 0 = .ok (.lconst 0, 1) := by decide +kernel
theorem dX9_meanOf_1 : decode cX9_meanOf 1 = .ok (.lstore_n 2, 1) := by decide +kernel
theorem dX9_meanOf_2 : decode cX9_meanOf 2 = .ok (.iconst 0, 1) := by decide +kernel
theorem dX9_meanOf_3 : decode cX9_meanOf 3 = .ok (.istore 4, 2) := by decide +kernel
theorem dX9_meanOf_5 : decode cX9_meanOf 5 = .ok (.iload 4, 2) := by decide +kernel
theorem dX9_meanOf_7 : decode cX9_meanOf 7 = .ok (.bipush 7, 2) := by decide +kernel
theorem dX9_meanOf_9 : decode cX9_meanOf 9 = .ok (.if_icmp .ge 28, 3) := by decide +kernel
theorem dX9_meanOf_12 : decode cX9_meanOf 12 = .ok (.lload_n 2, 1) := by decide +kernel
theorem dX9_meanOf_13 : decode cX9_meanOf 13 = .ok (.iload 4, 2) := by decide +kernel
theorem dX9_meanOf_15 : decode cX9_meanOf 15 = .ok (.i2l, 1) := by decide +kernel
theorem dX9_meanOf_16 : decode cX9_meanOf 16 = .ok (.aload_n 0, 1) := by decide +kernel
theorem dX9_meanOf_17 : decode cX9_meanOf 17 = .ok (.getfield 16, 3) := by decide +kernel
theorem dX9_meanOf_20 : decode cX9_meanOf 20 = .ok (.bipush 7, 2) := by decide +kernel
theorem dX9_meanOf_22 : decode cX9_meanOf 22 = .ok (.iload_n 1, 1) := by decide +kernel
theorem dX9_meanOf_23 : decode cX9_meanOf 23 = .ok (.imul, 1) := by decide +kernel
theorem dX9_meanOf_24 : decode cX9_meanOf 24 = .ok (.iload 4, 2) := by decide +kernel
theorem dX9_meanOf_26 : decode cX9_meanOf 26 = .ok (.iadd, 1) := by decide +kernel
theorem dX9_meanOf_27 : decode cX9_meanOf 27 = .ok (.laload, 1) := by decide +kernel
theorem dX9_meanOf_28 : decode cX9_meanOf 28 = .ok (.lmul, 1) := by decide +kernel
theorem dX9_meanOf_29 : decode cX9_meanOf 29 = .ok (.ladd, 1) := by decide +kernel
theorem dX9_meanOf_30 : decode cX9_meanOf 30 = .ok (.lstore_n 2, 1) := by decide +kernel
theorem dX9_meanOf_31 : decode cX9_meanOf 31 = .ok (.iinc 4 1, 3) := by decide +kernel
theorem dX9_meanOf_34 : decode cX9_meanOf 34 = .ok (.goto (-29), 3) := by decide +kernel
theorem dX9_meanOf_37 : decode cX9_meanOf 37 = .ok (.lload_n 2, 1) := by decide +kernel
theorem dX9_meanOf_38 : decode cX9_meanOf 38 = .ok (.lreturn, 1) := by decide +kernel
set_option maxRecDepth 20000 in
theorem ggX9_as_X9_isPlayer : GoodIn wsX9_as wsX9_isPlayer := goodIn_r _ [9, 10, 11, 12, 8, 13, 25, 26, 27, 28, 29, 30, 31, 32, 33, 34, 35, 36, 37, 38, 39, 40, 41, 42, 43, 44, 45, 46, 47, 48, 49, 50, 51, 52, 53, 54, 55, 56, 57] (by decide +kernel) (by decide +kernel)
set_option maxRecDepth 20000 in
theorem gX9_as_X9_isPlayer : GoodIn wsX9_as (wsV RX9 121 RX9 yX9_isPlayer wsX9_isPlayer) := goodIn_app (goodIn_of _ (by decide +kernel)) ggX9_as_X9_isPlayer
set_option maxRecDepth 20000 in
theorem ggX9_as_X9_in : GoodIn wsX9_as wsX9_in := goodIn_r _ [13] (by decide +kernel) (by decide +kernel)
set_option maxRecDepth 20000 in
theorem gX9_as_X9_in : GoodIn wsX9_as (va_wsS RX9 97 yX9_in wsX9_in) := goodIn_app (goodIn_of _ (by decide +kernel)) ggX9_as_X9_in
set_option maxRecDepth 20000 in
theorem ggX9_as_X9_finding : GoodIn wsX9_as wsX9_finding := goodIn_r _ [17, 18, 19, 25, 26, 27, 28, 29, 30, 31, 32, 33, 34, 35, 36, 37, 38, 39, 40, 41, 42, 43, 44, 45, 46, 47, 48, 49, 50, 51, 52, 53, 54, 55, 56, 57] (by decide +kernel) (by decide +kernel)
set_option maxRecDepth 20000 in
theorem gX9_as_X9_finding : GoodIn wsX9_as (wsV RX9 111 RX9 yX9_finding wsX9_finding) := goodIn_app (goodIn_of _ (by decide +kernel)) ggX9_as_X9_finding
set_option maxRecDepth 20000 in
theorem ggX9_as_X9_meanOf : GoodIn wsX9_as wsX9_meanOf := goodIn_r _ [23, 24, 25, 26, 27, 28, 29, 30, 31, 32, 33, 34, 35, 36, 37, 38, 39, 40, 41, 42, 43, 44, 45, 46, 47, 48, 49, 50, 51, 52, 53, 54, 55, 56, 57] (by decide +kernel) (by decide +kernel)
set_option maxRecDepth 20000 in
theorem gX9_as_X9_meanOf : GoodIn wsX9_as (wsV RX9 125 RX9 yX9_meanOf wsX9_meanOf) := goodIn_app (goodIn_of _ (by decide +kernel)) ggX9_as_X9_meanOf
theorem dX9_as_0 : decode cX9_as 0 = .ok (.aload_n 0, 1) := by decide +kernel
theorem dX9_as_1 : decode cX9_as 1 = .ok (.iload_n 1, 1) := by decide +kernel
theorem dX9_as_2 : decode cX9_as 2 = .ok (.invokevirtual 121, 3) := by decide +kernel
theorem dX9_as_5 : decode cX9_as 5 = .ok (.ifCond .eq 15, 3) := by decide +kernel
theorem dX9_as_8 : decode cX9_as 8 = .ok (.iload_n 2, 1) := by decide +kernel
theorem dX9_as_9 : decode cX9_as 9 = .ok (.i2l, 1) := by decide +kernel
theorem dX9_as_10 : decode cX9_as 10 = .ok (.lconst 0, 1) := by decide +kernel
theorem dX9_as_11 : decode cX9_as 11 = .ok (.ldc2_w 107, 3) := by decide +kernel
theorem dX9_as_14 : decode cX9_as 14 = .ok (.invokestatic 97, 3) := by decide +kernel
theorem dX9_as_17 : decode cX9_as 17 = .ok (.ifCond .ne 11, 3) := by decide +kernel
theorem dX9_as_20 : decode cX9_as 20 = .ok (.aload_n 0, 1) := by decide +kernel
theorem dX9_as_21 : decode cX9_as 21 = .ok (.ldc2_w 109, 3) := by decide +kernel
theorem dX9_as_24 : decode cX9_as 24 = .ok (.invokevirtual 111, 3) := by decide +kernel
theorem dX9_as_27 : decode cX9_as 27 = .ok (.lreturn, 1) := by decide +kernel
theorem dX9_as_28 : decode cX9_as 28 = .ok (.iload_n 2, 1) := by decide +kernel
theorem dX9_as_29 : decode cX9_as 29 = .ok (.ifCond .eq 13, 3) := by decide +kernel
theorem dX9_as_32 : decode cX9_as 32 = .ok (.aload_n 0, 1) := by decide +kernel
theorem dX9_as_33 : decode cX9_as 33 = .ok (.getfield 13, 3) := by decide +kernel
theorem dX9_as_36 : decode cX9_as 36 = .ok (.iload_n 1, 1) := by decide +kernel
theorem dX9_as_37 : decode cX9_as 37 = .ok (.iaload, 1) := by decide +kernel
theorem dX9_as_38 : decode cX9_as 38 = .ok (.iload_n 2, 1) := by decide +kernel
theorem dX9_as_39 : decode cX9_as 39 = .ok (.if_icmp .ne 11, 3) := by decide +kernel
theorem dX9_as_42 : decode cX9_as 42 = .ok (.aload_n 0, 1) := by decide +kernel
theorem dX9_as_43 : decode cX9_as 43 = .ok (.iload_n 1, 1) := by decide +kernel
theorem dX9_as_44 : decode cX9_as 44 = .ok (.invokevirtual 125, 3) := by decide +kernel
theorem dX9_as_47 : decode cX9_as 47 = .ok (.goto 10, 3) := by decide +kernel
theorem dX9_as_50 : decode cX9_as 50 = .ok (.aload_n 0, 1) := by decide +kernel
theorem dX9_as_51 : decode cX9_as 51 = .ok (.ldc2_w 128, 3) := by decide +kernel
theorem dX9_as_54 : decode cX9_as 54 = .ok (.invokevirtual 111, 3) := by decide +kernel
theorem dX9_as_57 : decode cX9_as 57 = .ok (.lreturn, 1) := by decide +kernel
set_option maxRecDepth 20000 in
theorem ggX9_share_X9_isPlayer : GoodIn wsX9_share wsX9_isPlayer := goodIn_r _ [7, 8, 9, 10, 6, 11, 22, 23, 24, 25, 26, 27, 28, 29, 30, 31, 32, 33, 34, 35, 36, 37, 38, 39, 40, 41, 42, 43, 44, 45, 46, 47, 48, 49, 50, 51, 52, 53, 54] (by decide +kernel) (by decide +kernel)
set_option maxRecDepth 20000 in
theorem gX9_share_X9_isPlayer : GoodIn wsX9_share (wsV RX9 121 RX9 yX9_isPlayer wsX9_isPlayer) := goodIn_app (goodIn_of _ (by decide +kernel)) ggX9_share_X9_isPlayer
set_option maxRecDepth 20000 in
theorem ggX9_share_X9_isLevel : GoodIn wsX9_share wsX9_isLevel := goodIn_r _ [14, 15, 9, 10, 6, 11] (by decide +kernel) (by decide +kernel)
set_option maxRecDepth 20000 in
theorem gX9_share_X9_isLevel : GoodIn wsX9_share (va_wsS RX9 130 yX9_isLevel wsX9_isLevel) := goodIn_app (goodIn_of _ (by decide +kernel)) ggX9_share_X9_isLevel
set_option maxRecDepth 20000 in
theorem ggX9_share_X9_finding : GoodIn wsX9_share wsX9_finding := goodIn_r _ [19, 20, 21, 22, 23, 24, 25, 26, 27, 28, 29, 30, 31, 32, 33, 34, 35, 36, 37, 38, 39, 40, 41, 42, 43, 44, 45, 46, 47, 48, 49, 50, 51, 52, 53, 54] (by decide +kernel) (by decide +kernel)
set_option maxRecDepth 20000 in
theorem gX9_share_X9_finding : GoodIn wsX9_share (wsV RX9 111 RX9 yX9_finding wsX9_finding) := goodIn_app (goodIn_of _ (by decide +kernel)) ggX9_share_X9_finding
theorem dX9_share_0 : decode cX9_share 0 = .ok (.aload_n 0, 1) := by decide +kernel
theorem dX9_share_1 : decode cX9_share 1 = .ok (.iload_n 1, 1) := by decide +kernel
theorem dX9_share_2 : decode cX9_share 2 = .ok (.invokevirtual 121, 3) := by decide +kernel
theorem dX9_share_5 : decode cX9_share 5 = .ok (.ifCond .eq 24, 3) := by decide +kernel
theorem dX9_share_8 : decode cX9_share 8 = .ok (.iload_n 2, 1) := by decide +kernel
theorem dX9_share_9 : decode cX9_share 9 = .ok (.invokestatic 130, 3) := by decide +kernel
theorem dX9_share_12 : decode cX9_share 12 = .ok (.ifCond .eq 17, 3) := by decide +kernel
theorem dX9_share_15 : decode cX9_share 15 = .ok (.aload_n 0, 1) := by decide +kernel
theorem dX9_share_16 : decode cX9_share 16 = .ok (.getfield 16, 3) := by decide +kernel
theorem dX9_share_19 : decode cX9_share 19 = .ok (.bipush 7, 2) := by decide +kernel
theorem dX9_share_21 : decode cX9_share 21 = .ok (.iload_n 1, 1) := by decide +kernel
theorem dX9_share_22 : decode cX9_share 22 = .ok (.imul, 1) := by decide +kernel
theorem dX9_share_23 : decode cX9_share 23 = .ok (.iload_n 2, 1) := by decide +kernel
theorem dX9_share_24 : decode cX9_share 24 = .ok (.iadd, 1) := by decide +kernel
theorem dX9_share_25 : decode cX9_share 25 = .ok (.laload, 1) := by decide +kernel
theorem dX9_share_26 : decode cX9_share 26 = .ok (.goto 10, 3) := by decide +kernel
theorem dX9_share_29 : decode cX9_share 29 = .ok (.aload_n 0, 1) := by decide +kernel
theorem dX9_share_30 : decode cX9_share 30 = .ok (.ldc2_w 109, 3) := by decide +kernel
theorem dX9_share_33 : decode cX9_share 33 = .ok (.invokevirtual 111, 3) := by decide +kernel
theorem dX9_share_36 : decode cX9_share 36 = .ok (.lreturn, 1) := by decide +kernel
set_option maxRecDepth 20000 in
theorem ggX9_shift_X9_isPlayer : GoodIn wsX9_shift wsX9_isPlayer := goodIn_r _ [7, 8, 9, 10, 6, 11, 22, 23, 24, 25, 26, 27, 28, 29, 30, 31, 32, 33, 34, 35, 36, 37, 38, 39, 40, 41, 42, 43, 44, 45, 46, 47, 48, 49, 50, 51, 52, 53, 54] (by decide +kernel) (by decide +kernel)
set_option maxRecDepth 20000 in
theorem gX9_shift_X9_isPlayer : GoodIn wsX9_shift (wsV RX9 121 RX9 yX9_isPlayer wsX9_isPlayer) := goodIn_app (goodIn_of _ (by decide +kernel)) ggX9_shift_X9_isPlayer
set_option maxRecDepth 20000 in
theorem ggX9_shift_X9_isLevel : GoodIn wsX9_shift wsX9_isLevel := goodIn_r _ [14, 15, 9, 10, 6, 11] (by decide +kernel) (by decide +kernel)
set_option maxRecDepth 20000 in
theorem gX9_shift_X9_isLevel : GoodIn wsX9_shift (va_wsS RX9 130 yX9_isLevel wsX9_isLevel) := goodIn_app (goodIn_of _ (by decide +kernel)) ggX9_shift_X9_isLevel
set_option maxRecDepth 20000 in
theorem ggX9_shift_X9_in : GoodIn wsX9_shift wsX9_in := goodIn_r _ [11] (by decide +kernel) (by decide +kernel)
set_option maxRecDepth 20000 in
theorem gX9_shift_X9_in : GoodIn wsX9_shift (va_wsS RX9 97 yX9_in wsX9_in) := goodIn_app (goodIn_of _ (by decide +kernel)) ggX9_shift_X9_in
set_option maxRecDepth 20000 in
theorem ggX9_shift_X9_finding : GoodIn wsX9_shift wsX9_finding := goodIn_r _ [19, 20, 21, 22, 23, 24, 25, 26, 27, 28, 29, 30, 31, 32, 33, 34, 35, 36, 37, 38, 39, 40, 41, 42, 43, 44, 45, 46, 47, 48, 49, 50, 51, 52, 53, 54] (by decide +kernel) (by decide +kernel)
set_option maxRecDepth 20000 in
theorem gX9_shift_X9_finding : GoodIn wsX9_shift (wsV RX9 111 RX9 yX9_finding wsX9_finding) := goodIn_app (goodIn_of _ (by decide +kernel)) ggX9_shift_X9_finding
theorem dX9_shift_0 : decode cX9_shift 0 = .ok (.aload_n 0, 1) := by decide +kernel
theorem dX9_shift_1 : decode cX9_shift 1 = .ok (.iload_n 1, 1) := by decide +kernel
theorem dX9_shift_2 : decode cX9_shift 2 = .ok (.invokevirtual 121, 3) := by decide +kernel
theorem dX9_shift_5 : decode cX9_shift 5 = .ok (.ifCond .eq 38, 3) := by decide +kernel
theorem dX9_shift_8 : decode cX9_shift 8 = .ok (.iload_n 2, 1) := by decide +kernel
theorem dX9_shift_9 : decode cX9_shift 9 = .ok (.invokestatic 130, 3) := by decide +kernel
theorem dX9_shift_12 : decode cX9_shift 12 = .ok (.ifCond .eq 31, 3) := by decide +kernel
theorem dX9_shift_15 : decode cX9_shift 15 = .ok (.iload_n 3, 1) := by decide +kernel
theorem dX9_shift_16 : decode cX9_shift 16 = .ok (.invokestatic 130, 3) := by decide +kernel
theorem dX9_shift_19 : decode cX9_shift 19 = .ok (.ifCond .eq 24, 3) := by decide +kernel
theorem dX9_shift_22 : decode cX9_shift 22 = .ok (.iload 4, 2) := by decide +kernel
theorem dX9_shift_24 : decode cX9_shift 24 = .ok (.i2l, 1) := by decide +kernel
theorem dX9_shift_25 : decode cX9_shift 25 = .ok (.lconst 0, 1) := by decide +kernel
theorem dX9_shift_26 : decode cX9_shift 26 = .ok (.aload_n 0, 1) := by decide +kernel
theorem dX9_shift_27 : decode cX9_shift 27 = .ok (.getfield 16, 3) := by decide +kernel
theorem dX9_shift_30 : decode cX9_shift 30 = .ok (.bipush 7, 2) := by decide +kernel
theorem dX9_shift_32 : decode cX9_shift 32 = .ok (.iload_n 1, 1) := by decide +kernel
theorem dX9_shift_33 : decode cX9_shift 33 = .ok (.imul, 1) := by decide +kernel
theorem dX9_shift_34 : decode cX9_shift 34 = .ok (.iload_n 2, 1) := by decide +kernel
theorem dX9_shift_35 : decode cX9_shift 35 = .ok (.iadd, 1) := by decide +kernel
theorem dX9_shift_36 : decode cX9_shift 36 = .ok (.laload, 1) := by decide +kernel
theorem dX9_shift_37 : decode cX9_shift 37 = .ok (.invokestatic 97, 3) := by decide +kernel
theorem dX9_shift_40 : decode cX9_shift 40 = .ok (.ifCond .ne 11, 3) := by decide +kernel
theorem dX9_shift_43 : decode cX9_shift 43 = .ok (.aload_n 0, 1) := by decide +kernel
theorem dX9_shift_44 : decode cX9_shift 44 = .ok (.ldc2_w 109, 3) := by decide +kernel
theorem dX9_shift_47 : decode cX9_shift 47 = .ok (.invokevirtual 111, 3) := by decide +kernel
theorem dX9_shift_50 : decode cX9_shift 50 = .ok (.lreturn, 1) := by decide +kernel
theorem dX9_shift_51 : decode cX9_shift 51 = .ok (.aload_n 0, 1) := by decide +kernel
theorem dX9_shift_52 : decode cX9_shift 52 = .ok (.getfield 16, 3) := by decide +kernel
theorem dX9_shift_55 : decode cX9_shift 55 = .ok (.bipush 7, 2) := by decide +kernel
theorem dX9_shift_57 : decode cX9_shift 57 = .ok (.iload_n 1, 1) := by decide +kernel
theorem dX9_shift_58 : decode cX9_shift 58 = .ok (.imul, 1) := by decide +kernel
theorem dX9_shift_59 : decode cX9_shift 59 = .ok (.iload_n 2, 1) := by decide +kernel
theorem dX9_shift_60 : decode cX9_shift 60 = .ok (.iadd, 1) := by decide +kernel
theorem dX9_shift_61 : decode cX9_shift 61 = .ok (.dup2, 1) := by decide +kernel
theorem dX9_shift_62 : decode cX9_shift 62 = .ok (.laload, 1) := by decide +kernel
theorem dX9_shift_63 : decode cX9_shift 63 = .ok (.iload 4, 2) := by decide +kernel
theorem dX9_shift_65 : decode cX9_shift 65 = .ok (.i2l, 1) := by decide +kernel
theorem dX9_shift_66 : decode cX9_shift 66 = .ok (.lsub, 1) := by decide +kernel
theorem dX9_shift_67 : decode cX9_shift 67 = .ok (.lastore, 1) := by decide +kernel
theorem dX9_shift_68 : decode cX9_shift 68 = .ok (.aload_n 0, 1) := by decide +kernel
theorem dX9_shift_69 : decode cX9_shift 69 = .ok (.getfield 16, 3) := by decide +kernel
theorem dX9_shift_72 : decode cX9_shift 72 = .ok (.bipush 7, 2) := by decide +kernel
theorem dX9_shift_74 : decode cX9_shift 74 = .ok (.iload_n 1, 1) := by decide +kernel
theorem dX9_shift_75 : decode cX9_shift 75 = .ok (.imul, 1) := by decide +kernel
theorem dX9_shift_76 : decode cX9_shift 76 = .ok (.iload_n 3, 1) := by decide +kernel
theorem dX9_shift_77 : decode cX9_shift 77 = .ok (.iadd, 1) := by decide +kernel
theorem dX9_shift_78 : decode cX9_shift 78 = .ok (.dup2, 1) := by decide +kernel
theorem dX9_shift_79 : decode cX9_shift 79 = .ok (.laload, 1) := by decide +kernel
theorem dX9_shift_80 : decode cX9_shift 80 = .ok (.iload 4, 2) := by decide +kernel
theorem dX9_shift_82 : decode cX9_shift 82 = .ok (.i2l, 1) := by decide +kernel
theorem dX9_shift_83 : decode cX9_shift 83 = .ok (.ladd, 1) := by decide +kernel
theorem dX9_shift_84 : decode cX9_shift 84 = .ok (.lastore, 1) := by decide +kernel
theorem dX9_shift_85 : decode cX9_shift 85 = .ok (.aload_n 0, 1) := by decide +kernel
theorem dX9_shift_86 : decode cX9_shift 86 = .ok (.getfield 16, 3) := by decide +kernel
theorem dX9_shift_89 : decode cX9_shift 89 = .ok (.bipush 7, 2) := by decide +kernel
theorem dX9_shift_91 : decode cX9_shift 91 = .ok (.iload_n 1, 1) := by decide +kernel
theorem dX9_shift_92 : decode cX9_shift 92 = .ok (.imul, 1) := by decide +kernel
theorem dX9_shift_93 : decode cX9_shift 93 = .ok (.iload_n 3, 1) := by decide +kernel
theorem dX9_shift_94 : decode cX9_shift 94 = .ok (.iadd, 1) := by decide +kernel
theorem dX9_shift_95 : decode cX9_shift 95 = .ok (.laload, 1) := by decide +kernel
theorem dX9_shift_96 : decode cX9_shift 96 = .ok (.lreturn, 1) := by decide +kernel
set_option maxRecDepth 20000 in
theorem ggX9_mean_X9_isPlayer : GoodIn wsX9_mean wsX9_isPlayer := goodIn_r _ [6, 7, 8, 9, 5, 10, 22, 23, 24, 25, 26, 27, 28, 29, 30, 31, 32, 33, 34, 35, 36, 37, 38, 39, 40, 41, 42, 43, 44, 45, 46, 47, 48, 49, 50, 51, 52, 53, 54] (by decide +kernel) (by decide +kernel)
set_option maxRecDepth 20000 in
theorem gX9_mean_X9_isPlayer : GoodIn wsX9_mean (wsV RX9 121 RX9 yX9_isPlayer wsX9_isPlayer) := goodIn_app (goodIn_of _ (by decide +kernel)) ggX9_mean_X9_isPlayer
set_option maxRecDepth 20000 in
theorem ggX9_mean_X9_meanOf : GoodIn wsX9_mean wsX9_meanOf := goodIn_r _ [14, 15, 22, 23, 24, 25, 26, 27, 28, 29, 30, 31, 32, 33, 34, 35, 36, 37, 38, 39, 40, 41, 42, 43, 44, 45, 46, 47, 48, 49, 50, 51, 52, 53, 54] (by decide +kernel) (by decide +kernel)
set_option maxRecDepth 20000 in
theorem gX9_mean_X9_meanOf : GoodIn wsX9_mean (wsV RX9 125 RX9 yX9_meanOf wsX9_meanOf) := goodIn_app (goodIn_of _ (by decide +kernel)) ggX9_mean_X9_meanOf
set_option maxRecDepth 20000 in
theorem ggX9_mean_X9_finding : GoodIn wsX9_mean wsX9_finding := goodIn_r _ [19, 20, 21, 22, 23, 24, 25, 26, 27, 28, 29, 30, 31, 32, 33, 34, 35, 36, 37, 38, 39, 40, 41, 42, 43, 44, 45, 46, 47, 48, 49, 50, 51, 52, 53, 54] (by decide +kernel) (by decide +kernel)
set_option maxRecDepth 20000 in
theorem gX9_mean_X9_finding : GoodIn wsX9_mean (wsV RX9 111 RX9 yX9_finding wsX9_finding) := goodIn_app (goodIn_of _ (by decide +kernel)) ggX9_mean_X9_finding
theorem dX9_mean_0 : decode cX9_mean 0 = .ok (.aload_n 0, 1) := by decide +kernel
theorem dX9_mean_1 : decode cX9_mean 1 = .ok (.iload_n 1, 1) := by decide +kernel
theorem dX9_mean_2 : decode cX9_mean 2 = .ok (.invokevirtual 121, 3) := by decide +kernel
theorem dX9_mean_5 : decode cX9_mean 5 = .ok (.ifCond .eq 11, 3) := by decide +kernel
theorem dX9_mean_8 : decode cX9_mean 8 = .ok (.aload_n 0, 1) := by decide +kernel
theorem dX9_mean_9 : decode cX9_mean 9 = .ok (.iload_n 1, 1) := by decide +kernel
theorem dX9_mean_10 : decode cX9_mean 10 = .ok (.invokevirtual 125, 3) := by decide +kernel
theorem dX9_mean_13 : decode cX9_mean 13 = .ok (.goto 10, 3) := by decide +kernel
theorem dX9_mean_16 : decode cX9_mean 16 = .ok (.aload_n 0, 1) := by decide +kernel
theorem dX9_mean_17 : decode cX9_mean 17 = .ok (.ldc2_w 109, 3) := by decide +kernel
theorem dX9_mean_20 : decode cX9_mean 20 = .ok (.invokevirtual 111, 3) := by decide +kernel
theorem dX9_mean_23 : decode cX9_mean 23 = .ok (.lreturn, 1) := by decide +kernel
theorem dX9_layAside_0 : decode cX9_layAside 0 = .ok (.iconst 0, 1) := by decide +kernel
theorem dX9_layAside_1 : decode cX9_layAside 1 = .ok (.istore_n 1, 1) := by decide +kernel
theorem dX9_layAside_2 : decode cX9_layAside 2 = .ok (.iload_n 1, 1) := by decide +kernel
theorem dX9_layAside_3 : decode cX9_layAside 3 = .ok (.bipush 112, 2) := by decide +kernel
theorem dX9_layAside_5 : decode cX9_layAside 5 = .ok (.if_icmp .ge 21, 3) := by decide +kernel
theorem dX9_layAside_8 : decode cX9_layAside 8 = .ok (.aload_n 0, 1) := by decide +kernel
theorem dX9_layAside_9 : decode cX9_layAside 9 = .ok (.getfield 71, 3) := by decide +kernel
theorem dX9_layAside_12 : decode cX9_layAside 12 = .ok (.iload_n 1, 1) := by decide +kernel
theorem dX9_layAside_13 : decode cX9_layAside 13 = .ok (.aload_n 0, 1) := by decide +kernel
theorem dX9_layAside_14 : decode cX9_layAside 14 = .ok (.getfield 16, 3) := by decide +kernel
theorem dX9_layAside_17 : decode cX9_layAside 17 = .ok (.iload_n 1, 1) := by decide +kernel
theorem dX9_layAside_18 : decode cX9_layAside 18 = .ok (.laload, 1) := by decide +kernel
theorem dX9_layAside_19 : decode cX9_layAside 19 = .ok (.lastore, 1) := by decide +kernel
theorem dX9_layAside_20 : decode cX9_layAside 20 = .ok (.iinc 1 1, 3) := by decide +kernel
theorem dX9_layAside_23 : decode cX9_layAside 23 = .ok (.goto (-21), 3) := by decide +kernel
theorem dX9_layAside_26 : decode cX9_layAside 26 = .ok (.return_, 1) := by decide +kernel
set_option maxRecDepth 20000 in
theorem ggX9_chanceAt_X9_ones : GoodIn wsX9_chanceAt wsX9_ones := goodIn_r _ [7] (by decide +kernel) (by decide +kernel)
set_option maxRecDepth 20000 in
theorem gX9_chanceAt_X9_ones : GoodIn wsX9_chanceAt (va_wsS RX9 135 yX9_ones wsX9_ones) := goodIn_app (goodIn_of _ (by decide +kernel)) ggX9_chanceAt_X9_ones
theorem dX9_chanceAt_0 : decode cX9_chanceAt 0 = .ok (.lconst 0, 1) := by decide +kernel
theorem dX9_chanceAt_1 : decode cX9_chanceAt 1 = .ok (.lstore_n 3, 1) := by decide +kernel
theorem dX9_chanceAt_2 : decode cX9_chanceAt 2 = .ok (.iconst 0, 1) := by decide +kernel
theorem dX9_chanceAt_3 : decode cX9_chanceAt 3 = .ok (.istore 5, 2) := by decide +kernel
theorem dX9_chanceAt_5 : decode cX9_chanceAt 5 = .ok (.iload 5, 2) := by decide +kernel
theorem dX9_chanceAt_7 : decode cX9_chanceAt 7 = .ok (.aload_n 0, 1) := by decide +kernel
theorem dX9_chanceAt_8 : decode cX9_chanceAt 8 = .ok (.getfield 94, 3) := by decide +kernel
theorem dX9_chanceAt_11 : decode cX9_chanceAt 11 = .ok (.if_icmp .ge 64, 3) := by decide +kernel
theorem dX9_chanceAt_14 : decode cX9_chanceAt 14 = .ok (.iconst 0, 1) := by decide +kernel
theorem dX9_chanceAt_15 : decode cX9_chanceAt 15 = .ok (.istore 6, 2) := by decide +kernel
theorem dX9_chanceAt_17 : decode cX9_chanceAt 17 = .ok (.iload 6, 2) := by decide +kernel
theorem dX9_chanceAt_19 : decode cX9_chanceAt 19 = .ok (.bipush 7, 2) := by decide +kernel
theorem dX9_chanceAt_21 : decode cX9_chanceAt 21 = .ok (.if_icmp .ge 48, 3) := by decide +kernel
theorem dX9_chanceAt_24 : decode cX9_chanceAt 24 = .ok (.iload_n 2, 1) := by decide +kernel
theorem dX9_chanceAt_25 : decode cX9_chanceAt 25 = .ok (.iload 5, 2) := by decide +kernel
theorem dX9_chanceAt_27 : decode cX9_chanceAt 27 = .ok (.ishr, 1) := by decide +kernel
theorem dX9_chanceAt_28 : decode cX9_chanceAt 28 = .ok (.iconst 1, 1) := by decide +kernel
theorem dX9_chanceAt_29 : decode cX9_chanceAt 29 = .ok (.iand, 1) := by decide +kernel
theorem dX9_chanceAt_30 : decode cX9_chanceAt 30 = .ok (.iconst 1, 1) := by decide +kernel
theorem dX9_chanceAt_31 : decode cX9_chanceAt 31 = .ok (.if_icmp .ne 38, 3) := by decide +kernel
theorem dX9_chanceAt_34 : decode cX9_chanceAt 34 = .ok (.lload_n 3, 1) := by decide +kernel
theorem dX9_chanceAt_35 : decode cX9_chanceAt 35 = .ok (.aload_n 0, 1) := by decide +kernel
theorem dX9_chanceAt_36 : decode cX9_chanceAt 36 = .ok (.getfield 71, 3) := by decide +kernel
theorem dX9_chanceAt_39 : decode cX9_chanceAt 39 = .ok (.bipush 7, 2) := by decide +kernel
theorem dX9_chanceAt_41 : decode cX9_chanceAt 41 = .ok (.iload 5, 2) := by decide +kernel
theorem dX9_chanceAt_43 : decode cX9_chanceAt 43 = .ok (.imul, 1) := by decide +kernel
theorem dX9_chanceAt_44 : decode cX9_chanceAt 44 = .ok (.iload 6, 2) := by decide +kernel
theorem dX9_chanceAt_46 : decode cX9_chanceAt 46 = .ok (.iadd, 1) := by decide +kernel
theorem dX9_chanceAt_47 : decode cX9_chanceAt 47 = .ok (.laload, 1) := by decide +kernel
theorem dX9_chanceAt_48 : decode cX9_chanceAt 48 = .ok (.sipush 500, 3) := by decide +kernel
theorem dX9_chanceAt_51 : decode cX9_chanceAt 51 = .ok (.bipush 70, 2) := by decide +kernel
theorem dX9_chanceAt_53 : decode cX9_chanceAt 53 = .ok (.iload_n 1, 1) := by decide +kernel
theorem dX9_chanceAt_54 : decode cX9_chanceAt 54 = .ok (.iload 6, 2) := by decide +kernel
theorem dX9_chanceAt_56 : decode cX9_chanceAt 56 = .ok (.isub, 1) := by decide +kernel
theorem dX9_chanceAt_57 : decode cX9_chanceAt 57 = .ok (.imul, 1) := by decide +kernel
theorem dX9_chanceAt_58 : decode cX9_chanceAt 58 = .ok (.iadd, 1) := by decide +kernel
theorem dX9_chanceAt_59 : decode cX9_chanceAt 59 = .ok (.i2l, 1) := by decide +kernel
theorem dX9_chanceAt_60 : decode cX9_chanceAt 60 = .ok (.lmul, 1) := by decide +kernel
theorem dX9_chanceAt_61 : decode cX9_chanceAt 61 = .ok (.ladd, 1) := by decide +kernel
theorem dX9_chanceAt_62 : decode cX9_chanceAt 62 = .ok (.lstore_n 3, 1) := by decide +kernel
theorem dX9_chanceAt_63 : decode cX9_chanceAt 63 = .ok (.iinc 6 1, 3) := by decide +kernel
theorem dX9_chanceAt_66 : decode cX9_chanceAt 66 = .ok (.goto (-49), 3) := by decide +kernel
theorem dX9_chanceAt_69 : decode cX9_chanceAt 69 = .ok (.iinc 5 1, 3) := by decide +kernel
theorem dX9_chanceAt_72 : decode cX9_chanceAt 72 = .ok (.goto (-67), 3) := by decide +kernel
theorem dX9_chanceAt_75 : decode cX9_chanceAt 75 = .ok (.lload_n 3, 1) := by decide +kernel
theorem dX9_chanceAt_76 : decode cX9_chanceAt 76 = .ok (.ldc2_w 133, 3) := by decide +kernel
theorem dX9_chanceAt_79 : decode cX9_chanceAt 79 = .ok (.iload_n 2, 1) := by decide +kernel
theorem dX9_chanceAt_80 : decode cX9_chanceAt 80 = .ok (.invokestatic 135, 3) := by decide +kernel
theorem dX9_chanceAt_83 : decode cX9_chanceAt 83 = .ok (.i2l, 1) := by decide +kernel
theorem dX9_chanceAt_84 : decode cX9_chanceAt 84 = .ok (.lmul, 1) := by decide +kernel
theorem dX9_chanceAt_85 : decode cX9_chanceAt 85 = .ok (.ldiv, 1) := by decide +kernel
theorem dX9_chanceAt_86 : decode cX9_chanceAt 86 = .ok (.lreturn, 1) := by decide +kernel
set_option maxRecDepth 20000 in
theorem ggX9_chanceOf_X9_chanceAt : GoodIn wsX9_chanceOf wsX9_chanceAt := goodIn_r _ [7, 8, 1, 9, 10, 11, 6, 12, 13, 14, 15, 16, 17, 18, 19, 20, 21, 22, 23, 24, 25, 26, 27, 28, 29, 30, 31, 32, 33, 34, 35, 36, 37, 38, 39, 40, 41, 42, 43, 44, 45] (by decide +kernel) (by decide +kernel)
set_option maxRecDepth 20000 in
theorem gX9_chanceOf_X9_chanceAt : GoodIn wsX9_chanceOf (wsV RX9 139 RX9 yX9_chanceAt wsX9_chanceAt) := goodIn_app (goodIn_of _ (by decide +kernel)) ggX9_chanceOf_X9_chanceAt
theorem dX9_chanceOf_0 : decode cX9_chanceOf 0 = .ok (.lconst 0, 1) := by decide +kernel
theorem dX9_chanceOf_1 : decode cX9_chanceOf 1 = .ok (.lstore_n 3, 1) := by decide +kernel
theorem dX9_chanceOf_2 : decode cX9_chanceOf 2 = .ok (.iconst 0, 1) := by decide +kernel
theorem dX9_chanceOf_3 : decode cX9_chanceOf 3 = .ok (.istore 5, 2) := by decide +kernel
theorem dX9_chanceOf_5 : decode cX9_chanceOf 5 = .ok (.iload 5, 2) := by decide +kernel
theorem dX9_chanceOf_7 : decode cX9_chanceOf 7 = .ok (.bipush 7, 2) := by decide +kernel
theorem dX9_chanceOf_9 : decode cX9_chanceOf 9 = .ok (.if_icmp .ge 32, 3) := by decide +kernel
theorem dX9_chanceOf_12 : decode cX9_chanceOf 12 = .ok (.lload_n 3, 1) := by decide +kernel
theorem dX9_chanceOf_13 : decode cX9_chanceOf 13 = .ok (.aload_n 0, 1) := by decide +kernel
theorem dX9_chanceOf_14 : decode cX9_chanceOf 14 = .ok (.getfield 71, 3) := by decide +kernel
theorem dX9_chanceOf_17 : decode cX9_chanceOf 17 = .ok (.bipush 7, 2) := by decide +kernel
theorem dX9_chanceOf_19 : decode cX9_chanceOf 19 = .ok (.iload_n 1, 1) := by decide +kernel
theorem dX9_chanceOf_20 : decode cX9_chanceOf 20 = .ok (.imul, 1) := by decide +kernel
theorem dX9_chanceOf_21 : decode cX9_chanceOf 21 = .ok (.iload 5, 2) := by decide +kernel
theorem dX9_chanceOf_23 : decode cX9_chanceOf 23 = .ok (.iadd, 1) := by decide +kernel
theorem dX9_chanceOf_24 : decode cX9_chanceOf 24 = .ok (.laload, 1) := by decide +kernel
theorem dX9_chanceOf_25 : decode cX9_chanceOf 25 = .ok (.aload_n 0, 1) := by decide +kernel
theorem dX9_chanceOf_26 : decode cX9_chanceOf 26 = .ok (.iload 5, 2) := by decide +kernel
theorem dX9_chanceOf_28 : decode cX9_chanceOf 28 = .ok (.iload_n 2, 1) := by decide +kernel
theorem dX9_chanceOf_29 : decode cX9_chanceOf 29 = .ok (.invokevirtual 139, 3) := by decide +kernel
theorem dX9_chanceOf_32 : decode cX9_chanceOf 32 = .ok (.lmul, 1) := by decide +kernel
theorem dX9_chanceOf_33 : decode cX9_chanceOf 33 = .ok (.ladd, 1) := by decide +kernel
theorem dX9_chanceOf_34 : decode cX9_chanceOf 34 = .ok (.lstore_n 3, 1) := by decide +kernel
theorem dX9_chanceOf_35 : decode cX9_chanceOf 35 = .ok (.iinc 5 1, 3) := by decide +kernel
theorem dX9_chanceOf_38 : decode cX9_chanceOf 38 = .ok (.goto (-33), 3) := by decide +kernel
theorem dX9_chanceOf_41 : decode cX9_chanceOf 41 = .ok (.lload_n 3, 1) := by decide +kernel
theorem dX9_chanceOf_42 : decode cX9_chanceOf 42 = .ok (.ldc2_w 143, 3) := by decide +kernel
theorem dX9_chanceOf_45 : decode cX9_chanceOf 45 = .ok (.ldiv, 1) := by decide +kernel
theorem dX9_chanceOf_46 : decode cX9_chanceOf 46 = .ok (.lreturn, 1) := by decide +kernel
set_option maxRecDepth 20000 in
theorem ggX9_teamChance_X9_chanceOf : GoodIn wsX9_teamChance wsX9_chanceOf := goodIn_r _ [6, 7, 8, 9, 10, 11, 5, 12, 1, 13, 14, 15, 16, 17, 18, 19, 20, 21, 22, 23, 24, 25, 26, 27, 28, 29, 30, 31, 32, 33, 34, 35, 36, 37, 38, 39, 40, 41, 42, 43, 44, 45, 46, 47, 48, 49] (by decide +kernel) (by decide +kernel)
set_option maxRecDepth 20000 in
theorem gX9_teamChance_X9_chanceOf : GoodIn wsX9_teamChance (wsV RX9 145 RX9 yX9_chanceOf wsX9_chanceOf) := goodIn_app (goodIn_of _ (by decide +kernel)) ggX9_teamChance_X9_chanceOf
set_option maxRecDepth 20000 in
theorem ggX9_teamChance_X9_ones : GoodIn wsX9_teamChance wsX9_ones := goodIn_r _ [16] (by decide +kernel) (by decide +kernel)
set_option maxRecDepth 20000 in
theorem gX9_teamChance_X9_ones : GoodIn wsX9_teamChance (va_wsS RX9 135 yX9_ones wsX9_ones) := goodIn_app (goodIn_of _ (by decide +kernel)) ggX9_teamChance_X9_ones
theorem dX9_teamChance_0 : decode cX9_teamChance 0 = .ok (.lconst 0, 1) := by decide +kernel
theorem dX9_teamChance_1 : decode cX9_teamChance 1 = .ok (.lstore_n 3, 1) := by decide +kernel
theorem dX9_teamChance_2 : decode cX9_teamChance 2 = .ok (.iconst 0, 1) := by decide +kernel
theorem dX9_teamChance_3 : decode cX9_teamChance 3 = .ok (.istore 5, 2) := by decide +kernel
theorem dX9_teamChance_5 : decode cX9_teamChance 5 = .ok (.iload 5, 2) := by decide +kernel
theorem dX9_teamChance_7 : decode cX9_teamChance 7 = .ok (.aload_n 0, 1) := by decide +kernel
theorem dX9_teamChance_8 : decode cX9_teamChance 8 = .ok (.getfield 94, 3) := by decide +kernel
theorem dX9_teamChance_11 : decode cX9_teamChance 11 = .ok (.if_icmp .ge 33, 3) := by decide +kernel
theorem dX9_teamChance_14 : decode cX9_teamChance 14 = .ok (.lload_n 3, 1) := by decide +kernel
theorem dX9_teamChance_15 : decode cX9_teamChance 15 = .ok (.iload_n 1, 1) := by decide +kernel
theorem dX9_teamChance_16 : decode cX9_teamChance 16 = .ok (.iload 5, 2) := by decide +kernel
theorem dX9_teamChance_18 : decode cX9_teamChance 18 = .ok (.ishr, 1) := by decide +kernel
theorem dX9_teamChance_19 : decode cX9_teamChance 19 = .ok (.iconst 1, 1) := by decide +kernel
theorem dX9_teamChance_20 : decode cX9_teamChance 20 = .ok (.iand, 1) := by decide +kernel
theorem dX9_teamChance_21 : decode cX9_teamChance 21 = .ok (.iconst 1, 1) := by decide +kernel
theorem dX9_teamChance_22 : decode cX9_teamChance 22 = .ok (.if_icmp .ne 13, 3) := by decide +kernel
theorem dX9_teamChance_25 : decode cX9_teamChance 25 = .ok (.aload_n 0, 1) := by decide +kernel
theorem dX9_teamChance_26 : decode cX9_teamChance 26 = .ok (.iload 5, 2) := by decide +kernel
theorem dX9_teamChance_28 : decode cX9_teamChance 28 = .ok (.iload_n 2, 1) := by decide +kernel
theorem dX9_teamChance_29 : decode cX9_teamChance 29 = .ok (.invokevirtual 145, 3) := by decide +kernel
theorem dX9_teamChance_32 : decode cX9_teamChance 32 = .ok (.goto 4, 3) := by decide +kernel
theorem dX9_teamChance_35 : decode cX9_teamChance 35 = .ok (.lconst 0, 1) := by decide +kernel
theorem dX9_teamChance_36 : decode cX9_teamChance 36 = .ok (.ladd, 1) := by decide +kernel
theorem dX9_teamChance_37 : decode cX9_teamChance 37 = .ok (.lstore_n 3, 1) := by decide +kernel
theorem dX9_teamChance_38 : decode cX9_teamChance 38 = .ok (.iinc 5 1, 3) := by decide +kernel
theorem dX9_teamChance_41 : decode cX9_teamChance 41 = .ok (.goto (-36), 3) := by decide +kernel
theorem dX9_teamChance_44 : decode cX9_teamChance 44 = .ok (.lload_n 3, 1) := by decide +kernel
theorem dX9_teamChance_45 : decode cX9_teamChance 45 = .ok (.iload_n 1, 1) := by decide +kernel
theorem dX9_teamChance_46 : decode cX9_teamChance 46 = .ok (.invokestatic 135, 3) := by decide +kernel
theorem dX9_teamChance_49 : decode cX9_teamChance 49 = .ok (.i2l, 1) := by decide +kernel
theorem dX9_teamChance_50 : decode cX9_teamChance 50 = .ok (.ldiv, 1) := by decide +kernel
theorem dX9_teamChance_51 : decode cX9_teamChance 51 = .ok (.lreturn, 1) := by decide +kernel
set_option maxRecDepth 20000 in
theorem ggX9_chance_X9_isPlayer : GoodIn wsX9_chance wsX9_isPlayer := goodIn_r _ [6, 7, 8, 9, 5, 10, 36, 37, 38, 39, 40, 41, 42, 43, 44, 45, 46, 47, 48, 49, 50, 51, 52, 53, 54, 55, 56, 57, 58, 59, 60, 61, 62, 63, 64, 65, 66, 67, 68] (by decide +kernel) (by decide +kernel)
set_option maxRecDepth 20000 in
theorem gX9_chance_X9_isPlayer : GoodIn wsX9_chance (wsV RX9 121 RX9 yX9_isPlayer wsX9_isPlayer) := goodIn_app (goodIn_of _ (by decide +kernel)) ggX9_chance_X9_isPlayer
set_option maxRecDepth 20000 in
theorem ggX9_chance_X9_finding : GoodIn wsX9_chance wsX9_finding := goodIn_r _ [14, 15, 16, 36, 37, 38, 39, 40, 41, 42, 43, 44, 45, 46, 47, 48, 49, 50, 51, 52, 53, 54, 55, 56, 57, 58, 59, 60, 61, 62, 63, 64, 65, 66, 67, 68] (by decide +kernel) (by decide +kernel)
set_option maxRecDepth 20000 in
theorem gX9_chance_X9_finding : GoodIn wsX9_chance (wsV RX9 111 RX9 yX9_finding wsX9_finding) := goodIn_app (goodIn_of _ (by decide +kernel)) ggX9_chance_X9_finding
set_option maxRecDepth 20000 in
theorem ggX9_chance_X9_layAside : GoodIn wsX9_chance wsX9_layAside := goodIn_r _ [20, 21, 22, 36, 37, 38, 39, 40, 41, 42, 43, 44, 45, 46, 47, 48, 49, 50, 51, 52, 53, 54, 55, 56, 57, 58, 59, 60, 61, 62, 63, 64, 65, 66, 67, 68] (by decide +kernel) (by decide +kernel)
set_option maxRecDepth 20000 in
theorem gX9_chance_X9_layAside : GoodIn wsX9_chance (wsV RX9 148 RX9 yX9_layAside wsX9_layAside) := goodIn_app (goodIn_of _ (by decide +kernel)) ggX9_chance_X9_layAside
set_option maxRecDepth 20000 in
theorem ggX9_chance_X9_chanceOf : GoodIn wsX9_chance wsX9_chanceOf := goodIn_r _ [26, 21, 27, 28, 29, 30, 5, 31, 7, 32, 33, 34, 35, 36, 37, 38, 39, 40, 41, 42, 43, 44, 45, 46, 47, 48, 49, 50, 51, 52, 53, 54, 55, 56, 57, 58, 59, 60, 61, 62, 63, 64, 65, 66, 67, 68] (by decide +kernel) (by decide +kernel)
set_option maxRecDepth 20000 in
theorem gX9_chance_X9_chanceOf : GoodIn wsX9_chance (wsV RX9 145 RX9 yX9_chanceOf wsX9_chanceOf) := goodIn_app (goodIn_of _ (by decide +kernel)) ggX9_chance_X9_chanceOf
theorem dX9_chance_0 : decode cX9_chance 0 = .ok (.aload_n 0, 1) := by decide +kernel
theorem dX9_chance_1 : decode cX9_chance 1 = .ok (.iload_n 1, 1) := by decide +kernel
theorem dX9_chance_2 : decode cX9_chance 2 = .ok (.invokevirtual 121, 3) := by decide +kernel
theorem dX9_chance_5 : decode cX9_chance 5 = .ok (.ifCond .eq 16, 3) := by decide +kernel
theorem dX9_chance_8 : decode cX9_chance 8 = .ok (.aload_n 0, 1) := by decide +kernel
theorem dX9_chance_9 : decode cX9_chance 9 = .ok (.iload_n 2, 1) := by decide +kernel
theorem dX9_chance_10 : decode cX9_chance 10 = .ok (.invokevirtual 121, 3) := by decide +kernel
theorem dX9_chance_13 : decode cX9_chance 13 = .ok (.ifCond .eq 8, 3) := by decide +kernel
theorem dX9_chance_16 : decode cX9_chance 16 = .ok (.iload_n 1, 1) := by decide +kernel
theorem dX9_chance_17 : decode cX9_chance 17 = .ok (.iload_n 2, 1) := by decide +kernel
theorem dX9_chance_18 : decode cX9_chance 18 = .ok (.if_icmp .ne 11, 3) := by decide +kernel
theorem dX9_chance_21 : decode cX9_chance 21 = .ok (.aload_n 0, 1) := by decide +kernel
theorem dX9_chance_22 : decode cX9_chance 22 = .ok (.ldc2_w 109, 3) := by decide +kernel
theorem dX9_chance_25 : decode cX9_chance 25 = .ok (.invokevirtual 111, 3) := by decide +kernel
theorem dX9_chance_28 : decode cX9_chance 28 = .ok (.lreturn, 1) := by decide +kernel
theorem dX9_chance_29 : decode cX9_chance 29 = .ok (.aload_n 0, 1) := by decide +kernel
theorem dX9_chance_30 : decode cX9_chance 30 = .ok (.invokevirtual 148, 3) := by decide +kernel
theorem dX9_chance_33 : decode cX9_chance 33 = .ok (.aload_n 0, 1) := by decide +kernel
theorem dX9_chance_34 : decode cX9_chance 34 = .ok (.iload_n 1, 1) := by decide +kernel
theorem dX9_chance_35 : decode cX9_chance 35 = .ok (.iconst 1, 1) := by decide +kernel
theorem dX9_chance_36 : decode cX9_chance 36 = .ok (.iload_n 2, 1) := by decide +kernel
theorem dX9_chance_37 : decode cX9_chance 37 = .ok (.ishl, 1) := by decide +kernel
theorem dX9_chance_38 : decode cX9_chance 38 = .ok (.invokevirtual 145, 3) := by decide +kernel
theorem dX9_chance_41 : decode cX9_chance 41 = .ok (.lreturn, 1) := by decide +kernel
theorem dX9_somePlays_0 : decode cX9_somePlays 0 = .ok (.iconst 0, 1) := by decide +kernel
theorem dX9_somePlays_1 : decode cX9_somePlays 1 = .ok (.istore_n 1, 1) := by decide +kernel
theorem dX9_somePlays_2 : decode cX9_somePlays 2 = .ok (.iconst 0, 1) := by decide +kernel
theorem dX9_somePlays_3 : decode cX9_somePlays 3 = .ok (.istore_n 2, 1) := by decide +kernel
theorem dX9_somePlays_4 : decode cX9_somePlays 4 = .ok (.iload_n 2, 1) := by decide +kernel
theorem dX9_somePlays_5 : decode cX9_somePlays 5 = .ok (.iconst 5, 1) := by decide +kernel
theorem dX9_somePlays_6 : decode cX9_somePlays 6 = .ok (.if_icmp .ge 28, 3) := by decide +kernel
theorem dX9_somePlays_9 : decode cX9_somePlays 9 = .ok (.iload_n 1, 1) := by decide +kernel
theorem dX9_somePlays_10 : decode cX9_somePlays 10 = .ok (.ifCond .ne 12, 3) := by decide +kernel
theorem dX9_somePlays_13 : decode cX9_somePlays 13 = .ok (.aload_n 0, 1) := by decide +kernel
theorem dX9_somePlays_14 : decode cX9_somePlays 14 = .ok (.getfield 48, 3) := by decide +kernel
theorem dX9_somePlays_17 : decode cX9_somePlays 17 = .ok (.iload_n 2, 1) := by decide +kernel
theorem dX9_somePlays_18 : decode cX9_somePlays 18 = .ok (.baload, 1) := by decide +kernel
theorem dX9_somePlays_19 : decode cX9_somePlays 19 = .ok (.ifCond .eq 7, 3) := by decide +kernel
theorem dX9_somePlays_22 : decode cX9_somePlays 22 = .ok (.iconst 1, 1) := by decide +kernel
theorem dX9_somePlays_23 : decode cX9_somePlays 23 = .ok (.goto 4, 3) := by decide +kernel
theorem dX9_somePlays_26 : decode cX9_somePlays 26 = .ok (.iconst 0, 1) := by decide +kernel
theorem dX9_somePlays_27 : decode cX9_somePlays 27 = .ok (.istore_n 1, 1) := by decide +kernel
theorem dX9_somePlays_28 : decode cX9_somePlays 28 = .ok (.iinc 2 1, 3) := by decide +kernel
theorem dX9_somePlays_31 : decode cX9_somePlays 31 = .ok (.goto (-27), 3) := by decide +kernel
theorem dX9_somePlays_34 : decode cX9_somePlays 34 = .ok (.iload_n 1, 1) := by decide +kernel
theorem dX9_somePlays_35 : decode cX9_somePlays 35 = .ok (.ireturn, 1) := by decide +kernel
set_option maxRecDepth 20000 in
theorem ggX9_season_X9_somePlays : GoodIn wsX9_season wsX9_somePlays := goodIn_r _ [10, 11, 23, 24, 25, 26, 27, 28, 29, 30, 31, 32, 33, 34, 35, 36, 37, 38, 39, 40, 41, 42, 43, 44, 45, 46, 47, 48, 49, 50, 51, 52, 53, 54, 55] (by decide +kernel) (by decide +kernel)
set_option maxRecDepth 20000 in
theorem gX9_season_X9_somePlays : GoodIn wsX9_season (wsV RX9 151 RX9 yX9_somePlays wsX9_somePlays) := goodIn_app (goodIn_of _ (by decide +kernel)) ggX9_season_X9_somePlays
set_option maxRecDepth 20000 in
theorem ggX9_season_X9_finding : GoodIn wsX9_season wsX9_finding := goodIn_r _ [15, 16, 17, 23, 24, 25, 26, 27, 28, 29, 30, 31, 32, 33, 34, 35, 36, 37, 38, 39, 40, 41, 42, 43, 44, 45, 46, 47, 48, 49, 50, 51, 52, 53, 54, 55] (by decide +kernel) (by decide +kernel)
set_option maxRecDepth 20000 in
theorem gX9_season_X9_finding : GoodIn wsX9_season (wsV RX9 111 RX9 yX9_finding wsX9_finding) := goodIn_app (goodIn_of _ (by decide +kernel)) ggX9_season_X9_finding
set_option maxRecDepth 20000 in
theorem ggX9_season_X9_middle : GoodIn wsX9_season wsX9_middle := goodIn_r _ [20, 21, 22] (by decide +kernel) (by decide +kernel)
set_option maxRecDepth 20000 in
theorem gX9_season_X9_middle : GoodIn wsX9_season (va_wsS RX9 117 yX9_middle wsX9_middle) := goodIn_app (goodIn_of _ (by decide +kernel)) ggX9_season_X9_middle
theorem dX9_season_0 : decode cX9_season 0 = .ok (.aload_n 0, 1) := by decide +kernel
theorem dX9_season_1 : decode cX9_season 1 = .ok (.invokevirtual 151, 3) := by decide +kernel
theorem dX9_season_4 : decode cX9_season 4 = .ok (.ifCond .eq 11, 3) := by decide +kernel
theorem dX9_season_7 : decode cX9_season 7 = .ok (.aload_n 0, 1) := by decide +kernel
theorem dX9_season_8 : decode cX9_season 8 = .ok (.ldc2_w 155, 3) := by decide +kernel
theorem dX9_season_11 : decode cX9_season 11 = .ok (.invokevirtual 111, 3) := by decide +kernel
theorem dX9_season_14 : decode cX9_season 14 = .ok (.lreturn, 1) := by decide +kernel
theorem dX9_season_15 : decode cX9_season 15 = .ok (.iconst 0, 1) := by decide +kernel
theorem dX9_season_16 : decode cX9_season 16 = .ok (.istore_n 1, 1) := by decide +kernel
theorem dX9_season_17 : decode cX9_season 17 = .ok (.iload_n 1, 1) := by decide +kernel
theorem dX9_season_18 : decode cX9_season 18 = .ok (.aload_n 0, 1) := by decide +kernel
theorem dX9_season_19 : decode cX9_season 19 = .ok (.getfield 94, 3) := by decide +kernel
theorem dX9_season_22 : decode cX9_season 22 = .ok (.if_icmp .ge 87, 3) := by decide +kernel
theorem dX9_season_25 : decode cX9_season 25 = .ok (.ldc2_w 143, 3) := by decide +kernel
theorem dX9_season_28 : decode cX9_season 28 = .ok (.lstore_n 2, 1) := by decide +kernel
theorem dX9_season_29 : decode cX9_season 29 = .ok (.iconst 0, 1) := by decide +kernel
theorem dX9_season_30 : decode cX9_season 30 = .ok (.istore 4, 2) := by decide +kernel
theorem dX9_season_32 : decode cX9_season 32 = .ok (.iload 4, 2) := by decide +kernel
theorem dX9_season_34 : decode cX9_season 34 = .ok (.bipush 7, 2) := by decide +kernel
theorem dX9_season_36 : decode cX9_season 36 = .ok (.if_icmp .ge 52, 3) := by decide +kernel
theorem dX9_season_39 : decode cX9_season 39 = .ok (.aload_n 0, 1) := by decide +kernel
theorem dX9_season_40 : decode cX9_season 40 = .ok (.getfield 16, 3) := by decide +kernel
theorem dX9_season_43 : decode cX9_season 43 = .ok (.bipush 7, 2) := by decide +kernel
theorem dX9_season_45 : decode cX9_season 45 = .ok (.iload_n 1, 1) := by decide +kernel
theorem dX9_season_46 : decode cX9_season 46 = .ok (.imul, 1) := by decide +kernel
theorem dX9_season_47 : decode cX9_season 47 = .ok (.iload 4, 2) := by decide +kernel
theorem dX9_season_49 : decode cX9_season 49 = .ok (.iadd, 1) := by decide +kernel
theorem dX9_season_50 : decode cX9_season 50 = .ok (.laload, 1) := by decide +kernel
theorem dX9_season_51 : decode cX9_season 51 = .ok (.iload 4, 2) := by decide +kernel
theorem dX9_season_53 : decode cX9_season 53 = .ok (.invokestatic 117, 3) := by decide +kernel
theorem dX9_season_56 : decode cX9_season 56 = .ok (.ladd, 1) := by decide +kernel
theorem dX9_season_57 : decode cX9_season 57 = .ok (.ldc2_w 107, 3) := by decide +kernel
theorem dX9_season_60 : decode cX9_season 60 = .ok (.ldiv, 1) := by decide +kernel
theorem dX9_season_61 : decode cX9_season 61 = .ok (.lstore 5, 2) := by decide +kernel
theorem dX9_season_63 : decode cX9_season 63 = .ok (.aload_n 0, 1) := by decide +kernel
theorem dX9_season_64 : decode cX9_season 64 = .ok (.getfield 16, 3) := by decide +kernel
theorem dX9_season_67 : decode cX9_season 67 = .ok (.bipush 7, 2) := by decide +kernel
theorem dX9_season_69 : decode cX9_season 69 = .ok (.iload_n 1, 1) := by decide +kernel
theorem dX9_season_70 : decode cX9_season 70 = .ok (.imul, 1) := by decide +kernel
theorem dX9_season_71 : decode cX9_season 71 = .ok (.iload 4, 2) := by decide +kernel
theorem dX9_season_73 : decode cX9_season 73 = .ok (.iadd, 1) := by decide +kernel
theorem dX9_season_74 : decode cX9_season 74 = .ok (.lload 5, 2) := by decide +kernel
theorem dX9_season_76 : decode cX9_season 76 = .ok (.lastore, 1) := by decide +kernel
theorem dX9_season_77 : decode cX9_season 77 = .ok (.lload_n 2, 1) := by decide +kernel
theorem dX9_season_78 : decode cX9_season 78 = .ok (.lload 5, 2) := by decide +kernel
theorem dX9_season_80 : decode cX9_season 80 = .ok (.lsub, 1) := by decide +kernel
theorem dX9_season_81 : decode cX9_season 81 = .ok (.lstore_n 2, 1) := by decide +kernel
theorem dX9_season_82 : decode cX9_season 82 = .ok (.iinc 4 1, 3) := by decide +kernel
theorem dX9_season_85 : decode cX9_season 85 = .ok (.goto (-53), 3) := by decide +kernel
theorem dX9_season_88 : decode cX9_season 88 = .ok (.aload_n 0, 1) := by decide +kernel
theorem dX9_season_89 : decode cX9_season 89 = .ok (.getfield 16, 3) := by decide +kernel
theorem dX9_season_92 : decode cX9_season 92 = .ok (.bipush 7, 2) := by decide +kernel
theorem dX9_season_94 : decode cX9_season 94 = .ok (.iload_n 1, 1) := by decide +kernel
theorem dX9_season_95 : decode cX9_season 95 = .ok (.imul, 1) := by decide +kernel
theorem dX9_season_96 : decode cX9_season 96 = .ok (.iconst 3, 1) := by decide +kernel
theorem dX9_season_97 : decode cX9_season 97 = .ok (.iadd, 1) := by decide +kernel
theorem dX9_season_98 : decode cX9_season 98 = .ok (.dup2, 1) := by decide +kernel
theorem dX9_season_99 : decode cX9_season 99 = .ok (.laload, 1) := by decide +kernel
theorem dX9_season_100 : decode cX9_season 100 = .ok (.lload_n 2, 1) := by decide +kernel
theorem dX9_season_101 : decode cX9_season 101 = .ok (.ladd, 1) := by decide +kernel
theorem dX9_season_102 : decode cX9_season 102 = .ok (.lastore, 1) := by decide +kernel
theorem dX9_season_103 : decode cX9_season 103 = .ok (.iinc 1 1, 3) := by decide +kernel
theorem dX9_season_106 : decode cX9_season 106 = .ok (.goto (-89), 3) := by decide +kernel
theorem dX9_season_109 : decode cX9_season 109 = .ok (.aload_n 0, 1) := by decide +kernel
theorem dX9_season_110 : decode cX9_season 110 = .ok (.getfield 94, 3) := by decide +kernel
theorem dX9_season_113 : decode cX9_season 113 = .ok (.i2l, 1) := by decide +kernel
theorem dX9_season_114 : decode cX9_season 114 = .ok (.lreturn, 1) := by decide +kernel
set_option maxRecDepth 20000 in
theorem ggX9_size_X9_in : GoodIn wsX9_size wsX9_in := goodIn_r _ [9] (by decide +kernel) (by decide +kernel)
set_option maxRecDepth 20000 in
theorem gX9_size_X9_in : GoodIn wsX9_size (va_wsS RX9 97 yX9_in wsX9_in) := goodIn_app (goodIn_of _ (by decide +kernel)) ggX9_size_X9_in
set_option maxRecDepth 20000 in
theorem ggX9_size_X9_finding : GoodIn wsX9_size wsX9_finding := goodIn_r _ [13, 14, 15, 21, 22, 23, 24, 25, 26, 27, 28, 29, 30, 31, 32, 33, 34, 35, 36, 37, 38, 39, 40, 41, 42, 43, 44, 45, 46, 47, 48, 49, 50, 51, 52, 53] (by decide +kernel) (by decide +kernel)
set_option maxRecDepth 20000 in
theorem gX9_size_X9_finding : GoodIn wsX9_size (wsV RX9 111 RX9 yX9_finding wsX9_finding) := goodIn_app (goodIn_of _ (by decide +kernel)) ggX9_size_X9_finding
set_option maxRecDepth 20000 in
theorem ggX9_size_X9_somePlays : GoodIn wsX9_size wsX9_somePlays := goodIn_r _ [19, 20, 21, 22, 23, 24, 25, 26, 27, 28, 29, 30, 31, 32, 33, 34, 35, 36, 37, 38, 39, 40, 41, 42, 43, 44, 45, 46, 47, 48, 49, 50, 51, 52, 53] (by decide +kernel) (by decide +kernel)
set_option maxRecDepth 20000 in
theorem gX9_size_X9_somePlays : GoodIn wsX9_size (wsV RX9 151 RX9 yX9_somePlays wsX9_somePlays) := goodIn_app (goodIn_of _ (by decide +kernel)) ggX9_size_X9_somePlays
theorem dX9_size_0 : decode cX9_size 0 = .ok (.iload_n 1, 1) := by decide +kernel
theorem dX9_size_1 : decode cX9_size 1 = .ok (.i2l, 1) := by decide +kernel
theorem dX9_size_2 : decode cX9_size 2 = .ok (.lconst 1, 1) := by decide +kernel
theorem dX9_size_3 : decode cX9_size 3 = .ok (.ldc2_w 157, 3) := by decide +kernel
theorem dX9_size_6 : decode cX9_size 6 = .ok (.invokestatic 97, 3) := by decide +kernel
theorem dX9_size_9 : decode cX9_size 9 = .ok (.ifCond .ne 11, 3) := by decide +kernel
theorem dX9_size_12 : decode cX9_size 12 = .ok (.aload_n 0, 1) := by decide +kernel
theorem dX9_size_13 : decode cX9_size 13 = .ok (.ldc2_w 109, 3) := by decide +kernel
theorem dX9_size_16 : decode cX9_size 16 = .ok (.invokevirtual 111, 3) := by decide +kernel
theorem dX9_size_19 : decode cX9_size 19 = .ok (.lreturn, 1) := by decide +kernel
theorem dX9_size_20 : decode cX9_size 20 = .ok (.aload_n 0, 1) := by decide +kernel
theorem dX9_size_21 : decode cX9_size 21 = .ok (.invokevirtual 151, 3) := by decide +kernel
theorem dX9_size_24 : decode cX9_size 24 = .ok (.ifCond .ne 10, 3) := by decide +kernel
theorem dX9_size_27 : decode cX9_size 27 = .ok (.aload_n 0, 1) := by decide +kernel
theorem dX9_size_28 : decode cX9_size 28 = .ok (.getfield 159, 3) := by decide +kernel
theorem dX9_size_31 : decode cX9_size 31 = .ok (.ifCond .le 11, 3) := by decide +kernel
theorem dX9_size_34 : decode cX9_size 34 = .ok (.aload_n 0, 1) := by decide +kernel
theorem dX9_size_35 : decode cX9_size 35 = .ok (.ldc2_w 155, 3) := by decide +kernel
theorem dX9_size_38 : decode cX9_size 38 = .ok (.invokevirtual 111, 3) := by decide +kernel
theorem dX9_size_41 : decode cX9_size 41 = .ok (.lreturn, 1) := by decide +kernel
theorem dX9_size_42 : decode cX9_size 42 = .ok (.aload_n 0, 1) := by decide +kernel
theorem dX9_size_43 : decode cX9_size 43 = .ok (.getfield 26, 3) := by decide +kernel
theorem dX9_size_46 : decode cX9_size 46 = .ok (.istore_n 2, 1) := by decide +kernel
theorem dX9_size_47 : decode cX9_size 47 = .ok (.aload_n 0, 1) := by decide +kernel
theorem dX9_size_48 : decode cX9_size 48 = .ok (.iload_n 1, 1) := by decide +kernel
theorem dX9_size_49 : decode cX9_size 49 = .ok (.putfield 26, 3) := by decide +kernel
theorem dX9_size_52 : decode cX9_size 52 = .ok (.iload_n 2, 1) := by decide +kernel
theorem dX9_size_53 : decode cX9_size 53 = .ok (.i2l, 1) := by decide +kernel
theorem dX9_size_54 : decode cX9_size 54 = .ok (.lreturn, 1) := by decide +kernel
set_option maxRecDepth 20000 in
theorem ggX9_bounds_X9_in : GoodIn wsX9_bounds wsX9_in := goodIn_r _ [9] (by decide +kernel) (by decide +kernel)
set_option maxRecDepth 20000 in
theorem gX9_bounds_X9_in : GoodIn wsX9_bounds (va_wsS RX9 97 yX9_in wsX9_in) := goodIn_app (goodIn_of _ (by decide +kernel)) ggX9_bounds_X9_in
set_option maxRecDepth 20000 in
theorem ggX9_bounds_X9_finding : GoodIn wsX9_bounds wsX9_finding := goodIn_r _ [13, 14, 15, 16, 17, 18, 19, 20, 21, 22, 23, 24, 25, 26, 27, 28, 29, 30, 31, 32, 33, 34, 35, 36, 37, 38, 39, 40, 41, 42, 43, 44, 45, 46, 47, 48] (by decide +kernel) (by decide +kernel)
set_option maxRecDepth 20000 in
theorem gX9_bounds_X9_finding : GoodIn wsX9_bounds (wsV RX9 111 RX9 yX9_finding wsX9_finding) := goodIn_app (goodIn_of _ (by decide +kernel)) ggX9_bounds_X9_finding
theorem dX9_bounds_0 : decode cX9_bounds 0 = .ok (.iload_n 1, 1) := by decide +kernel
theorem dX9_bounds_1 : decode cX9_bounds 1 = .ok (.i2l, 1) := by decide +kernel
theorem dX9_bounds_2 : decode cX9_bounds 2 = .ok (.lconst 0, 1) := by decide +kernel
theorem dX9_bounds_3 : decode cX9_bounds 3 = .ok (.ldc2_w 162, 3) := by decide +kernel
theorem dX9_bounds_6 : decode cX9_bounds 6 = .ok (.invokestatic 97, 3) := by decide +kernel
theorem dX9_bounds_9 : decode cX9_bounds 9 = .ok (.ifCond .eq 27, 3) := by decide +kernel
theorem dX9_bounds_12 : decode cX9_bounds 12 = .ok (.iload_n 2, 1) := by decide +kernel
theorem dX9_bounds_13 : decode cX9_bounds 13 = .ok (.i2l, 1) := by decide +kernel
theorem dX9_bounds_14 : decode cX9_bounds 14 = .ok (.lconst 0, 1) := by decide +kernel
theorem dX9_bounds_15 : decode cX9_bounds 15 = .ok (.ldc2_w 162, 3) := by decide +kernel
theorem dX9_bounds_18 : decode cX9_bounds 18 = .ok (.invokestatic 97, 3) := by decide +kernel
theorem dX9_bounds_21 : decode cX9_bounds 21 = .ok (.ifCond .eq 15, 3) := by decide +kernel
theorem dX9_bounds_24 : decode cX9_bounds 24 = .ok (.iload_n 3, 1) := by decide +kernel
theorem dX9_bounds_25 : decode cX9_bounds 25 = .ok (.i2l, 1) := by decide +kernel
theorem dX9_bounds_26 : decode cX9_bounds 26 = .ok (.lconst 0, 1) := by decide +kernel
theorem dX9_bounds_27 : decode cX9_bounds 27 = .ok (.ldc2_w 162, 3) := by decide +kernel
theorem dX9_bounds_30 : decode cX9_bounds 30 = .ok (.invokestatic 97, 3) := by decide +kernel
theorem dX9_bounds_33 : decode cX9_bounds 33 = .ok (.ifCond .ne 11, 3) := by decide +kernel
theorem dX9_bounds_36 : decode cX9_bounds 36 = .ok (.aload_n 0, 1) := by decide +kernel
theorem dX9_bounds_37 : decode cX9_bounds 37 = .ok (.ldc2_w 109, 3) := by decide +kernel
theorem dX9_bounds_40 : decode cX9_bounds 40 = .ok (.invokevirtual 111, 3) := by decide +kernel
theorem dX9_bounds_43 : decode cX9_bounds 43 = .ok (.lreturn, 1) := by decide +kernel
theorem dX9_bounds_44 : decode cX9_bounds 44 = .ok (.aload_n 0, 1) := by decide +kernel
theorem dX9_bounds_45 : decode cX9_bounds 45 = .ok (.iload_n 1, 1) := by decide +kernel
theorem dX9_bounds_46 : decode cX9_bounds 46 = .ok (.putfield 31, 3) := by decide +kernel
theorem dX9_bounds_49 : decode cX9_bounds 49 = .ok (.aload_n 0, 1) := by decide +kernel
theorem dX9_bounds_50 : decode cX9_bounds 50 = .ok (.iload_n 2, 1) := by decide +kernel
theorem dX9_bounds_51 : decode cX9_bounds 51 = .ok (.putfield 35, 3) := by decide +kernel
theorem dX9_bounds_54 : decode cX9_bounds 54 = .ok (.aload_n 0, 1) := by decide +kernel
theorem dX9_bounds_55 : decode cX9_bounds 55 = .ok (.iload_n 3, 1) := by decide +kernel
theorem dX9_bounds_56 : decode cX9_bounds 56 = .ok (.putfield 39, 3) := by decide +kernel
theorem dX9_bounds_59 : decode cX9_bounds 59 = .ok (.lconst 1, 1) := by decide +kernel
theorem dX9_bounds_60 : decode cX9_bounds 60 = .ok (.lreturn, 1) := by decide +kernel
theorem dX9_partyOf_0 : decode cX9_partyOf 0 = .ok (.iconst 0, 1) := by decide +kernel
theorem dX9_partyOf_1 : decode cX9_partyOf 1 = .ok (.istore_n 2, 1) := by decide +kernel
theorem dX9_partyOf_2 : decode cX9_partyOf 2 = .ok (.iload_n 2, 1) := by decide +kernel
theorem dX9_partyOf_3 : decode cX9_partyOf 3 = .ok (.aload_n 0, 1) := by decide +kernel
theorem dX9_partyOf_4 : decode cX9_partyOf 4 = .ok (.getfield 159, 3) := by decide +kernel
theorem dX9_partyOf_7 : decode cX9_partyOf 7 = .ok (.if_icmp .ge 25, 3) := by decide +kernel
theorem dX9_partyOf_10 : decode cX9_partyOf 10 = .ok (.aload_n 0, 1) := by decide +kernel
theorem dX9_partyOf_11 : decode cX9_partyOf 11 = .ok (.getfield 42, 3) := by decide +kernel
theorem dX9_partyOf_14 : decode cX9_partyOf 14 = .ok (.iload_n 2, 1) := by decide +kernel
theorem dX9_partyOf_15 : decode cX9_partyOf 15 = .ok (.iaload, 1) := by decide +kernel
theorem dX9_partyOf_16 : decode cX9_partyOf 16 = .ok (.iload_n 1, 1) := by decide +kernel
theorem dX9_partyOf_17 : decode cX9_partyOf 17 = .ok (.ishr, 1) := by decide +kernel
theorem dX9_partyOf_18 : decode cX9_partyOf 18 = .ok (.iconst 1, 1) := by decide +kernel
theorem dX9_partyOf_19 : decode cX9_partyOf 19 = .ok (.iand, 1) := by decide +kernel
theorem dX9_partyOf_20 : decode cX9_partyOf 20 = .ok (.iconst 1, 1) := by decide +kernel
theorem dX9_partyOf_21 : decode cX9_partyOf 21 = .ok (.if_icmp .ne 5, 3) := by decide +kernel
theorem dX9_partyOf_24 : decode cX9_partyOf 24 = .ok (.iload_n 2, 1) := by decide +kernel
theorem dX9_partyOf_25 : decode cX9_partyOf 25 = .ok (.ireturn, 1) := by decide +kernel
theorem dX9_partyOf_26 : decode cX9_partyOf 26 = .ok (.iinc 2 1, 3) := by decide +kernel
theorem dX9_partyOf_29 : decode cX9_partyOf 29 = .ok (.goto (-27), 3) := by decide +kernel
theorem dX9_partyOf_32 : decode cX9_partyOf 32 = .ok (.iconst (-1), 1) := by decide +kernel
theorem dX9_partyOf_33 : decode cX9_partyOf 33 = .ok (.ireturn, 1) := by decide +kernel
theorem dX9_matchOf_0 : decode cX9_matchOf 0 = .ok (.iconst 0, 1) := by decide +kernel
theorem dX9_matchOf_1 : decode cX9_matchOf 1 = .ok (.istore_n 2, 1) := by decide +kernel
theorem dX9_matchOf_2 : decode cX9_matchOf 2 = .ok (.iload_n 2, 1) := by decide +kernel
theorem dX9_matchOf_3 : decode cX9_matchOf 3 = .ok (.iconst 5, 1) := by decide +kernel
theorem dX9_matchOf_4 : decode cX9_matchOf 4 = .ok (.if_icmp .ge 49, 3) := by decide +kernel
theorem dX9_matchOf_7 : decode cX9_matchOf 7 = .ok (.aload_n 0, 1) := by decide +kernel
theorem dX9_matchOf_8 : decode cX9_matchOf 8 = .ok (.getfield 48, 3) := by decide +kernel
theorem dX9_matchOf_11 : decode cX9_matchOf 11 = .ok (.iload_n 2, 1) := by decide +kernel
theorem dX9_matchOf_12 : decode cX9_matchOf 12 = .ok (.baload, 1) := by decide +kernel
theorem dX9_matchOf_13 : decode cX9_matchOf 13 = .ok (.ifCond .eq 34, 3) := by decide +kernel
theorem dX9_matchOf_16 : decode cX9_matchOf 16 = .ok (.aload_n 0, 1) := by decide +kernel
theorem dX9_matchOf_17 : decode cX9_matchOf 17 = .ok (.getfield 52, 3) := by decide +kernel
theorem dX9_matchOf_20 : decode cX9_matchOf 20 = .ok (.iload_n 2, 1) := by decide +kernel
theorem dX9_matchOf_21 : decode cX9_matchOf 21 = .ok (.iaload, 1) := by decide +kernel
theorem dX9_matchOf_22 : decode cX9_matchOf 22 = .ok (.aload_n 0, 1) := by decide +kernel
theorem dX9_matchOf_23 : decode cX9_matchOf 23 = .ok (.getfield 55, 3) := by decide +kernel
theorem dX9_matchOf_26 : decode cX9_matchOf 26 = .ok (.iload_n 2, 1) := by decide +kernel
theorem dX9_matchOf_27 : decode cX9_matchOf 27 = .ok (.iaload, 1) := by decide +kernel
theorem dX9_matchOf_28 : decode cX9_matchOf 28 = .ok (.ior, 1) := by decide +kernel
theorem dX9_matchOf_29 : decode cX9_matchOf 29 = .ok (.aload_n 0, 1) := by decide +kernel
theorem dX9_matchOf_30 : decode cX9_matchOf 30 = .ok (.getfield 58, 3) := by decide +kernel
theorem dX9_matchOf_33 : decode cX9_matchOf 33 = .ok (.iload_n 2, 1) := by decide +kernel
theorem dX9_matchOf_34 : decode cX9_matchOf 34 = .ok (.iaload, 1) := by decide +kernel
theorem dX9_matchOf_35 : decode cX9_matchOf 35 = .ok (.iconst (-1), 1) := by decide +kernel
theorem dX9_matchOf_36 : decode cX9_matchOf 36 = .ok (.ixor, 1) := by decide +kernel
theorem dX9_matchOf_37 : decode cX9_matchOf 37 = .ok (.iand, 1) := by decide +kernel
theorem dX9_matchOf_38 : decode cX9_matchOf 38 = .ok (.iconst 1, 1) := by decide +kernel
theorem dX9_matchOf_39 : decode cX9_matchOf 39 = .ok (.iload_n 1, 1) := by decide +kernel
theorem dX9_matchOf_40 : decode cX9_matchOf 40 = .ok (.ishl, 1) := by decide +kernel
theorem dX9_matchOf_41 : decode cX9_matchOf 41 = .ok (.iand, 1) := by decide +kernel
theorem dX9_matchOf_42 : decode cX9_matchOf 42 = .ok (.ifCond .eq 5, 3) := by decide +kernel
theorem dX9_matchOf_45 : decode cX9_matchOf 45 = .ok (.iload_n 2, 1) := by decide +kernel
theorem dX9_matchOf_46 : decode cX9_matchOf 46 = .ok (.ireturn, 1) := by decide +kernel
theorem dX9_matchOf_47 : decode cX9_matchOf 47 = .ok (.iinc 2 1, 3) := by decide +kernel
theorem dX9_matchOf_50 : decode cX9_matchOf 50 = .ok (.goto (-48), 3) := by decide +kernel
theorem dX9_matchOf_53 : decode cX9_matchOf 53 = .ok (.iconst (-1), 1) := by decide +kernel
theorem dX9_matchOf_54 : decode cX9_matchOf 54 = .ok (.ireturn, 1) := by decide +kernel
set_option maxRecDepth 20000 in
theorem ggX9_isBusy_X9_partyOf : GoodIn wsX9_isBusy wsX9_partyOf := goodIn_r _ [5, 6, 7, 16, 17, 18, 19, 20, 21, 22, 23, 24, 25, 26, 27, 28, 29, 30, 31, 32, 33, 34, 35, 36, 37, 38, 39, 40, 41, 42, 43, 44, 45, 46, 47, 48] (by decide +kernel) (by decide +kernel)
set_option maxRecDepth 20000 in
theorem gX9_isBusy_X9_partyOf : GoodIn wsX9_isBusy (wsV RX9 164 RX9 yX9_partyOf wsX9_partyOf) := goodIn_app (goodIn_of _ (by decide +kernel)) ggX9_isBusy_X9_partyOf
set_option maxRecDepth 20000 in
theorem ggX9_isBusy_X9_matchOf : GoodIn wsX9_isBusy wsX9_matchOf := goodIn_r _ [11, 12, 13, 14, 15, 16, 17, 18, 19, 20, 21, 22, 23, 24, 25, 26, 27, 28, 29, 30, 31, 32, 33, 34, 35, 36, 37, 38, 39, 40, 41, 42, 43, 44, 45, 46, 47, 48] (by decide +kernel) (by decide +kernel)
set_option maxRecDepth 20000 in
theorem gX9_isBusy_X9_matchOf : GoodIn wsX9_isBusy (wsV RX9 167 RX9 yX9_matchOf wsX9_matchOf) := goodIn_app (goodIn_of _ (by decide +kernel)) ggX9_isBusy_X9_matchOf
theorem dX9_isBusy_0 : decode cX9_isBusy 0 = .ok (.aload_n 0, 1) := by decide +kernel
theorem dX9_isBusy_1 : decode cX9_isBusy 1 = .ok (.iload_n 1, 1) := by decide +kernel
theorem dX9_isBusy_2 : decode cX9_isBusy 2 = .ok (.invokevirtual 164, 3) := by decide +kernel
theorem dX9_isBusy_5 : decode cX9_isBusy 5 = .ok (.ifCond .ge 11, 3) := by decide +kernel
theorem dX9_isBusy_8 : decode cX9_isBusy 8 = .ok (.aload_n 0, 1) := by decide +kernel
theorem dX9_isBusy_9 : decode cX9_isBusy 9 = .ok (.iload_n 1, 1) := by decide +kernel
theorem dX9_isBusy_10 : decode cX9_isBusy 10 = .ok (.invokevirtual 167, 3) := by decide +kernel
theorem dX9_isBusy_13 : decode cX9_isBusy 13 = .ok (.ifCond .lt 7, 3) := by decide +kernel
theorem dX9_isBusy_16 : decode cX9_isBusy 16 = .ok (.iconst 1, 1) := by decide +kernel
theorem dX9_isBusy_17 : decode cX9_isBusy 17 = .ok (.goto 4, 3) := by decide +kernel
theorem dX9_isBusy_20 : decode cX9_isBusy 20 = .ok (.iconst 0, 1) := by decide +kernel
theorem dX9_isBusy_21 : decode cX9_isBusy 21 = .ok (.ireturn, 1) := by decide +kernel
set_option maxRecDepth 20000 in
theorem ggX9_wait_X9_isPlayer : GoodIn wsX9_wait wsX9_isPlayer := goodIn_r _ [14, 15, 16, 17, 13, 18, 41, 42, 43, 44, 45, 46, 47, 48, 49, 50, 51, 52, 53, 54, 55, 56, 57, 58, 59, 60, 61, 62, 63, 64, 65, 66, 67, 68, 69, 70, 71, 72, 73] (by decide +kernel) (by decide +kernel)
set_option maxRecDepth 20000 in
theorem gX9_wait_X9_isPlayer : GoodIn wsX9_wait (wsV RX9 121 RX9 yX9_isPlayer wsX9_isPlayer) := goodIn_app (goodIn_of _ (by decide +kernel)) ggX9_wait_X9_isPlayer
set_option maxRecDepth 20000 in
theorem ggX9_wait_X9_finding : GoodIn wsX9_wait wsX9_finding := goodIn_r _ [22, 23, 24, 41, 42, 43, 44, 45, 46, 47, 48, 49, 50, 51, 52, 53, 54, 55, 56, 57, 58, 59, 60, 61, 62, 63, 64, 65, 66, 67, 68, 69, 70, 71, 72, 73] (by decide +kernel) (by decide +kernel)
set_option maxRecDepth 20000 in
theorem gX9_wait_X9_finding : GoodIn wsX9_wait (wsV RX9 111 RX9 yX9_finding wsX9_finding) := goodIn_app (goodIn_of _ (by decide +kernel)) ggX9_wait_X9_finding
set_option maxRecDepth 20000 in
theorem ggX9_wait_X9_isBusy : GoodIn wsX9_wait wsX9_isBusy := goodIn_r _ [28, 29, 30, 31, 13, 32, 5, 7, 33, 34, 35, 36, 37, 38, 39, 40, 41, 42, 43, 44, 45, 46, 47, 48, 49, 50, 51, 52, 53, 54, 55, 56, 57, 58, 59, 60, 61, 62, 63, 64, 65, 66, 67, 68, 69, 70, 71, 72, 73] (by decide +kernel) (by decide +kernel)
set_option maxRecDepth 20000 in
theorem gX9_wait_X9_isBusy : GoodIn wsX9_wait (wsV RX9 170 RX9 yX9_isBusy wsX9_isBusy) := goodIn_app (goodIn_of _ (by decide +kernel)) ggX9_wait_X9_isBusy
theorem dX9_wait_0 : decode cX9_wait 0 = .ok (.aload_n 0, 1) := by decide +kernel
theorem dX9_wait_1 : decode cX9_wait 1 = .ok (.iload_n 1, 1) := by decide +kernel
theorem dX9_wait_2 : decode cX9_wait 2 = .ok (.invokevirtual 121, 3) := by decide +kernel
theorem dX9_wait_5 : decode cX9_wait 5 = .ok (.ifCond .eq 33, 3) := by decide +kernel
theorem dX9_wait_8 : decode cX9_wait 8 = .ok (.iload_n 2, 1) := by decide +kernel
theorem dX9_wait_9 : decode cX9_wait 9 = .ok (.iconst (-1), 1) := by decide +kernel
theorem dX9_wait_10 : decode cX9_wait 10 = .ok (.if_icmp .eq 11, 3) := by decide +kernel
theorem dX9_wait_13 : decode cX9_wait 13 = .ok (.aload_n 0, 1) := by decide +kernel
theorem dX9_wait_14 : decode cX9_wait 14 = .ok (.iload_n 2, 1) := by decide +kernel
theorem dX9_wait_15 : decode cX9_wait 15 = .ok (.invokevirtual 121, 3) := by decide +kernel
theorem dX9_wait_18 : decode cX9_wait 18 = .ok (.ifCond .eq 20, 3) := by decide +kernel
theorem dX9_wait_21 : decode cX9_wait 21 = .ok (.iload_n 3, 1) := by decide +kernel
theorem dX9_wait_22 : decode cX9_wait 22 = .ok (.iconst (-1), 1) := by decide +kernel
theorem dX9_wait_23 : decode cX9_wait 23 = .ok (.if_icmp .eq 11, 3) := by decide +kernel
theorem dX9_wait_26 : decode cX9_wait 26 = .ok (.aload_n 0, 1) := by decide +kernel
theorem dX9_wait_27 : decode cX9_wait 27 = .ok (.iload_n 3, 1) := by decide +kernel
theorem dX9_wait_28 : decode cX9_wait 28 = .ok (.invokevirtual 121, 3) := by decide +kernel
theorem dX9_wait_31 : decode cX9_wait 31 = .ok (.ifCond .eq 7, 3) := by decide +kernel
theorem dX9_wait_34 : decode cX9_wait 34 = .ok (.iconst 1, 1) := by decide +kernel
theorem dX9_wait_35 : decode cX9_wait 35 = .ok (.goto 4, 3) := by decide +kernel
theorem dX9_wait_38 : decode cX9_wait 38 = .ok (.iconst 0, 1) := by decide +kernel
theorem dX9_wait_39 : decode cX9_wait 39 = .ok (.istore 4, 2) := by decide +kernel
theorem dX9_wait_41 : decode cX9_wait 41 = .ok (.iload 4, 2) := by decide +kernel
theorem dX9_wait_43 : decode cX9_wait 43 = .ok (.ifCond .eq 33, 3) := by decide +kernel
theorem dX9_wait_46 : decode cX9_wait 46 = .ok (.iload_n 2, 1) := by decide +kernel
theorem dX9_wait_47 : decode cX9_wait 47 = .ok (.iconst (-1), 1) := by decide +kernel
theorem dX9_wait_48 : decode cX9_wait 48 = .ok (.if_icmp .ne 8, 3) := by decide +kernel
theorem dX9_wait_51 : decode cX9_wait 51 = .ok (.iload_n 3, 1) := by decide +kernel
theorem dX9_wait_52 : decode cX9_wait 52 = .ok (.iconst (-1), 1) := by decide +kernel
theorem dX9_wait_53 : decode cX9_wait 53 = .ok (.if_icmp .ne 23, 3) := by decide +kernel
theorem dX9_wait_56 : decode cX9_wait 56 = .ok (.iload_n 1, 1) := by decide +kernel
theorem dX9_wait_57 : decode cX9_wait 57 = .ok (.iload_n 2, 1) := by decide +kernel
theorem dX9_wait_58 : decode cX9_wait 58 = .ok (.if_icmp .eq 18, 3) := by decide +kernel
theorem dX9_wait_61 : decode cX9_wait 61 = .ok (.iload_n 1, 1) := by decide +kernel
theorem dX9_wait_62 : decode cX9_wait 62 = .ok (.iload_n 3, 1) := by decide +kernel
theorem dX9_wait_63 : decode cX9_wait 63 = .ok (.if_icmp .eq 13, 3) := by decide +kernel
theorem dX9_wait_66 : decode cX9_wait 66 = .ok (.iload_n 2, 1) := by decide +kernel
theorem dX9_wait_67 : decode cX9_wait 67 = .ok (.iload_n 3, 1) := by decide +kernel
theorem dX9_wait_68 : decode cX9_wait 68 = .ok (.if_icmp .ne 16, 3) := by decide +kernel
theorem dX9_wait_71 : decode cX9_wait 71 = .ok (.iload_n 2, 1) := by decide +kernel
theorem dX9_wait_72 : decode cX9_wait 72 = .ok (.iconst (-1), 1) := by decide +kernel
theorem dX9_wait_73 : decode cX9_wait 73 = .ok (.if_icmp .eq 11, 3) := by decide +kernel
theorem dX9_wait_76 : decode cX9_wait 76 = .ok (.aload_n 0, 1) := by decide +kernel
theorem dX9_wait_77 : decode cX9_wait 77 = .ok (.ldc2_w 109, 3) := by decide +kernel
theorem dX9_wait_80 : decode cX9_wait 80 = .ok (.invokevirtual 111, 3) := by decide +kernel
theorem dX9_wait_83 : decode cX9_wait 83 = .ok (.lreturn, 1) := by decide +kernel
theorem dX9_wait_84 : decode cX9_wait 84 = .ok (.iconst 1, 1) := by decide +kernel
theorem dX9_wait_85 : decode cX9_wait 85 = .ok (.iload_n 2, 1) := by decide +kernel
theorem dX9_wait_86 : decode cX9_wait 86 = .ok (.iconst (-1), 1) := by decide +kernel
theorem dX9_wait_87 : decode cX9_wait 87 = .ok (.if_icmp .ne 7, 3) := by decide +kernel
theorem dX9_wait_90 : decode cX9_wait 90 = .ok (.iconst 0, 1) := by decide +kernel
theorem dX9_wait_91 : decode cX9_wait 91 = .ok (.goto 4, 3) := by decide +kernel
theorem dX9_wait_94 : decode cX9_wait 94 = .ok (.iconst 1, 1) := by decide +kernel
theorem dX9_wait_95 : decode cX9_wait 95 = .ok (.iadd, 1) := by decide +kernel
theorem dX9_wait_96 : decode cX9_wait 96 = .ok (.iload_n 3, 1) := by decide +kernel
theorem dX9_wait_97 : decode cX9_wait 97 = .ok (.iconst (-1), 1) := by decide +kernel
theorem dX9_wait_98 : decode cX9_wait 98 = .ok (.if_icmp .ne 7, 3) := by decide +kernel
theorem dX9_wait_101 : decode cX9_wait 101 = .ok (.iconst 0, 1) := by decide +kernel
theorem dX9_wait_102 : decode cX9_wait 102 = .ok (.goto 4, 3) := by decide +kernel
theorem dX9_wait_105 : decode cX9_wait 105 = .ok (.iconst 1, 1) := by decide +kernel
theorem dX9_wait_106 : decode cX9_wait 106 = .ok (.iadd, 1) := by decide +kernel
theorem dX9_wait_107 : decode cX9_wait 107 = .ok (.istore 5, 2) := by decide +kernel
theorem dX9_wait_109 : decode cX9_wait 109 = .ok (.iload 5, 2) := by decide +kernel
theorem dX9_wait_111 : decode cX9_wait 111 = .ok (.aload_n 0, 1) := by decide +kernel
theorem dX9_wait_112 : decode cX9_wait 112 = .ok (.getfield 26, 3) := by decide +kernel
theorem dX9_wait_115 : decode cX9_wait 115 = .ok (.if_icmp .le 11, 3) := by decide +kernel
theorem dX9_wait_118 : decode cX9_wait 118 = .ok (.aload_n 0, 1) := by decide +kernel
theorem dX9_wait_119 : decode cX9_wait 119 = .ok (.ldc2_w 128, 3) := by decide +kernel
theorem dX9_wait_122 : decode cX9_wait 122 = .ok (.invokevirtual 111, 3) := by decide +kernel
theorem dX9_wait_125 : decode cX9_wait 125 = .ok (.lreturn, 1) := by decide +kernel
theorem dX9_wait_126 : decode cX9_wait 126 = .ok (.aload_n 0, 1) := by decide +kernel
theorem dX9_wait_127 : decode cX9_wait 127 = .ok (.iload_n 1, 1) := by decide +kernel
theorem dX9_wait_128 : decode cX9_wait 128 = .ok (.invokevirtual 170, 3) := by decide +kernel
theorem dX9_wait_131 : decode cX9_wait 131 = .ok (.ifCond .ne 29, 3) := by decide +kernel
theorem dX9_wait_134 : decode cX9_wait 134 = .ok (.iload_n 2, 1) := by decide +kernel
theorem dX9_wait_135 : decode cX9_wait 135 = .ok (.iconst (-1), 1) := by decide +kernel
theorem dX9_wait_136 : decode cX9_wait 136 = .ok (.if_icmp .eq 11, 3) := by decide +kernel
theorem dX9_wait_139 : decode cX9_wait 139 = .ok (.aload_n 0, 1) := by decide +kernel
theorem dX9_wait_140 : decode cX9_wait 140 = .ok (.iload_n 2, 1) := by decide +kernel
theorem dX9_wait_141 : decode cX9_wait 141 = .ok (.invokevirtual 170, 3) := by decide +kernel
theorem dX9_wait_144 : decode cX9_wait 144 = .ok (.ifCond .ne 16, 3) := by decide +kernel
theorem dX9_wait_147 : decode cX9_wait 147 = .ok (.iload_n 3, 1) := by decide +kernel
theorem dX9_wait_148 : decode cX9_wait 148 = .ok (.iconst (-1), 1) := by decide +kernel
theorem dX9_wait_149 : decode cX9_wait 149 = .ok (.if_icmp .eq 19, 3) := by decide +kernel
theorem dX9_wait_152 : decode cX9_wait 152 = .ok (.aload_n 0, 1) := by decide +kernel
theorem dX9_wait_153 : decode cX9_wait 153 = .ok (.iload_n 3, 1) := by decide +kernel
theorem dX9_wait_154 : decode cX9_wait 154 = .ok (.invokevirtual 170, 3) := by decide +kernel
theorem dX9_wait_157 : decode cX9_wait 157 = .ok (.ifCond .eq 11, 3) := by decide +kernel
theorem dX9_wait_160 : decode cX9_wait 160 = .ok (.aload_n 0, 1) := by decide +kernel
theorem dX9_wait_161 : decode cX9_wait 161 = .ok (.ldc2_w 155, 3) := by decide +kernel
theorem dX9_wait_164 : decode cX9_wait 164 = .ok (.invokevirtual 111, 3) := by decide +kernel
theorem dX9_wait_167 : decode cX9_wait 167 = .ok (.lreturn, 1) := by decide +kernel
theorem dX9_wait_168 : decode cX9_wait 168 = .ok (.aload_n 0, 1) := by decide +kernel
theorem dX9_wait_169 : decode cX9_wait 169 = .ok (.getfield 159, 3) := by decide +kernel
theorem dX9_wait_172 : decode cX9_wait 172 = .ok (.bipush 10, 2) := by decide +kernel
theorem dX9_wait_174 : decode cX9_wait 174 = .ok (.if_icmp .ne 11, 3) := by decide +kernel
theorem dX9_wait_177 : decode cX9_wait 177 = .ok (.aload_n 0, 1) := by decide +kernel
theorem dX9_wait_178 : decode cX9_wait 178 = .ok (.ldc2_w 115, 3) := by decide +kernel
theorem dX9_wait_181 : decode cX9_wait 181 = .ok (.invokevirtual 111, 3) := by decide +kernel
theorem dX9_wait_184 : decode cX9_wait 184 = .ok (.lreturn, 1) := by decide +kernel
theorem dX9_wait_185 : decode cX9_wait 185 = .ok (.aload_n 0, 1) := by decide +kernel
theorem dX9_wait_186 : decode cX9_wait 186 = .ok (.getfield 42, 3) := by decide +kernel
theorem dX9_wait_189 : decode cX9_wait 189 = .ok (.aload_n 0, 1) := by decide +kernel
theorem dX9_wait_190 : decode cX9_wait 190 = .ok (.getfield 159, 3) := by decide +kernel
theorem dX9_wait_193 : decode cX9_wait 193 = .ok (.iconst 1, 1) := by decide +kernel
theorem dX9_wait_194 : decode cX9_wait 194 = .ok (.iload_n 1, 1) := by decide +kernel
theorem dX9_wait_195 : decode cX9_wait 195 = .ok (.ishl, 1) := by decide +kernel
theorem dX9_wait_196 : decode cX9_wait 196 = .ok (.iload_n 2, 1) := by decide +kernel
theorem dX9_wait_197 : decode cX9_wait 197 = .ok (.iconst (-1), 1) := by decide +kernel
theorem dX9_wait_198 : decode cX9_wait 198 = .ok (.if_icmp .ne 7, 3) := by decide +kernel
theorem dX9_wait_201 : decode cX9_wait 201 = .ok (.iconst 0, 1) := by decide +kernel
theorem dX9_wait_202 : decode cX9_wait 202 = .ok (.goto 6, 3) := by decide +kernel
theorem dX9_wait_205 : decode cX9_wait 205 = .ok (.iconst 1, 1) := by decide +kernel
theorem dX9_wait_206 : decode cX9_wait 206 = .ok (.iload_n 2, 1) := by decide +kernel
theorem dX9_wait_207 : decode cX9_wait 207 = .ok (.ishl, 1) := by decide +kernel
theorem dX9_wait_208 : decode cX9_wait 208 = .ok (.ior, 1) := by decide +kernel
theorem dX9_wait_209 : decode cX9_wait 209 = .ok (.iload_n 3, 1) := by decide +kernel
theorem dX9_wait_210 : decode cX9_wait 210 = .ok (.iconst (-1), 1) := by decide +kernel
theorem dX9_wait_211 : decode cX9_wait 211 = .ok (.if_icmp .ne 7, 3) := by decide +kernel
theorem dX9_wait_214 : decode cX9_wait 214 = .ok (.iconst 0, 1) := by decide +kernel
theorem dX9_wait_215 : decode cX9_wait 215 = .ok (.goto 6, 3) := by decide +kernel
theorem dX9_wait_218 : decode cX9_wait 218 = .ok (.iconst 1, 1) := by decide +kernel
theorem dX9_wait_219 : decode cX9_wait 219 = .ok (.iload_n 3, 1) := by decide +kernel
theorem dX9_wait_220 : decode cX9_wait 220 = .ok (.ishl, 1) := by decide +kernel
theorem dX9_wait_221 : decode cX9_wait 221 = .ok (.ior, 1) := by decide +kernel
theorem dX9_wait_222 : decode cX9_wait 222 = .ok (.iastore, 1) := by decide +kernel
theorem dX9_wait_223 : decode cX9_wait 223 = .ok (.aload_n 0, 1) := by decide +kernel
theorem dX9_wait_224 : decode cX9_wait 224 = .ok (.getfield 45, 3) := by decide +kernel
theorem dX9_wait_227 : decode cX9_wait 227 = .ok (.aload_n 0, 1) := by decide +kernel
theorem dX9_wait_228 : decode cX9_wait 228 = .ok (.getfield 159, 3) := by decide +kernel
theorem dX9_wait_231 : decode cX9_wait 231 = .ok (.aload_n 0, 1) := by decide +kernel
theorem dX9_wait_232 : decode cX9_wait 232 = .ok (.getfield 89, 3) := by decide +kernel
theorem dX9_wait_235 : decode cX9_wait 235 = .ok (.iastore, 1) := by decide +kernel
theorem dX9_wait_236 : decode cX9_wait 236 = .ok (.aload_n 0, 1) := by decide +kernel
theorem dX9_wait_237 : decode cX9_wait 237 = .ok (.dup, 1) := by decide +kernel
theorem dX9_wait_238 : decode cX9_wait 238 = .ok (.getfield 159, 3) := by decide +kernel
theorem dX9_wait_241 : decode cX9_wait 241 = .ok (.iconst 1, 1) := by decide +kernel
theorem dX9_wait_242 : decode cX9_wait 242 = .ok (.iadd, 1) := by decide +kernel
theorem dX9_wait_243 : decode cX9_wait 243 = .ok (.putfield 159, 3) := by decide +kernel
theorem dX9_wait_246 : decode cX9_wait 246 = .ok (.aload_n 0, 1) := by decide +kernel
theorem dX9_wait_247 : decode cX9_wait 247 = .ok (.getfield 159, 3) := by decide +kernel
theorem dX9_wait_250 : decode cX9_wait 250 = .ok (.i2l, 1) := by decide +kernel
theorem dX9_wait_251 : decode cX9_wait 251 = .ok (.lreturn, 1) := by decide +kernel
theorem dX9_takeOut_0 : decode cX9_takeOut 0 = .ok (.aload_n 0, 1) := by decide +kernel
theorem dX9_takeOut_1 : decode cX9_takeOut 1 = .ok (.dup, 1) := by decide +kernel
theorem dX9_takeOut_2 : decode cX9_takeOut 2 = .ok (.getfield 159, 3) := by decide +kernel
theorem dX9_takeOut_5 : decode cX9_takeOut 5 = .ok (.iconst 1, 1) := by decide +kernel
theorem dX9_takeOut_6 : decode cX9_takeOut 6 = .ok (.isub, 1) := by decide +kernel
theorem dX9_takeOut_7 : decode cX9_takeOut 7 = .ok (.putfield 159, 3) := by decide +kernel
theorem dX9_takeOut_10 : decode cX9_takeOut 10 = .ok (.iload_n 1, 1) := by decide +kernel
theorem dX9_takeOut_11 : decode cX9_takeOut 11 = .ok (.istore_n 2, 1) := by decide +kernel
theorem dX9_takeOut_12 : decode cX9_takeOut 12 = .ok (.iload_n 2, 1) := by decide +kernel
theorem dX9_takeOut_13 : decode cX9_takeOut 13 = .ok (.aload_n 0, 1) := by decide +kernel
theorem dX9_takeOut_14 : decode cX9_takeOut 14 = .ok (.getfield 159, 3) := by decide +kernel
theorem dX9_takeOut_17 : decode cX9_takeOut 17 = .ok (.if_icmp .ge 37, 3) := by decide +kernel
theorem dX9_takeOut_20 : decode cX9_takeOut 20 = .ok (.aload_n 0, 1) := by decide +kernel
theorem dX9_takeOut_21 : decode cX9_takeOut 21 = .ok (.getfield 42, 3) := by decide +kernel
theorem dX9_takeOut_24 : decode cX9_takeOut 24 = .ok (.iload_n 2, 1) := by decide +kernel
theorem dX9_takeOut_25 : decode cX9_takeOut 25 = .ok (.aload_n 0, 1) := by decide +kernel
theorem dX9_takeOut_26 : decode cX9_takeOut 26 = .ok (.getfield 42, 3) := by decide +kernel
theorem dX9_takeOut_29 : decode cX9_takeOut 29 = .ok (.iload_n 2, 1) := by decide +kernel
theorem dX9_takeOut_30 : decode cX9_takeOut 30 = .ok (.iconst 1, 1) := by decide +kernel
theorem dX9_takeOut_31 : decode cX9_takeOut 31 = .ok (.iadd, 1) := by decide +kernel
theorem dX9_takeOut_32 : decode cX9_takeOut 32 = .ok (.iaload, 1) := by decide +kernel
theorem dX9_takeOut_33 : decode cX9_takeOut 33 = .ok (.iastore, 1) := by decide +kernel
theorem dX9_takeOut_34 : decode cX9_takeOut 34 = .ok (.aload_n 0, 1) := by decide +kernel
theorem dX9_takeOut_35 : decode cX9_takeOut 35 = .ok (.getfield 45, 3) := by decide +kernel
theorem dX9_takeOut_38 : decode cX9_takeOut 38 = .ok (.iload_n 2, 1) := by decide +kernel
theorem dX9_takeOut_39 : decode cX9_takeOut 39 = .ok (.aload_n 0, 1) := by decide +kernel
theorem dX9_takeOut_40 : decode cX9_takeOut 40 = .ok (.getfield 45, 3) := by decide +kernel
theorem dX9_takeOut_43 : decode cX9_takeOut 43 = .ok (.iload_n 2, 1) := by decide +kernel
theorem dX9_takeOut_44 : decode cX9_takeOut 44 = .ok (.iconst 1, 1) := by decide +kernel
theorem dX9_takeOut_45 : decode cX9_takeOut 45 = .ok (.iadd, 1) := by decide +kernel
theorem dX9_takeOut_46 : decode cX9_takeOut 46 = .ok (.iaload, 1) := by decide +kernel
theorem dX9_takeOut_47 : decode cX9_takeOut 47 = .ok (.iastore, 1) := by decide +kernel
theorem dX9_takeOut_48 : decode cX9_takeOut 48 = .ok (.iinc 2 1, 3) := by decide +kernel
theorem dX9_takeOut_51 : decode cX9_takeOut 51 = .ok (.goto (-39), 3) := by decide +kernel
theorem dX9_takeOut_54 : decode cX9_takeOut 54 = .ok (.return_, 1) := by decide +kernel
set_option maxRecDepth 20000 in
theorem ggX9_leave_X9_isPlayer : GoodIn wsX9_leave wsX9_isPlayer := goodIn_r _ [8, 9, 10, 11, 7, 12, 29, 30, 31, 32, 33, 34, 35, 36, 37, 38, 39, 40, 41, 42, 43, 44, 45, 46, 47, 48, 49, 50, 51, 52, 53, 54, 55, 56, 57, 58, 59, 60, 61] (by decide +kernel) (by decide +kernel)
set_option maxRecDepth 20000 in
theorem gX9_leave_X9_isPlayer : GoodIn wsX9_leave (wsV RX9 121 RX9 yX9_isPlayer wsX9_isPlayer) := goodIn_app (goodIn_of _ (by decide +kernel)) ggX9_leave_X9_isPlayer
set_option maxRecDepth 20000 in
theorem ggX9_leave_X9_finding : GoodIn wsX9_leave wsX9_finding := goodIn_r _ [16, 17, 18, 29, 30, 31, 32, 33, 34, 35, 36, 37, 38, 39, 40, 41, 42, 43, 44, 45, 46, 47, 48, 49, 50, 51, 52, 53, 54, 55, 56, 57, 58, 59, 60, 61] (by decide +kernel) (by decide +kernel)
set_option maxRecDepth 20000 in
theorem gX9_leave_X9_finding : GoodIn wsX9_leave (wsV RX9 111 RX9 yX9_finding wsX9_finding) := goodIn_app (goodIn_of _ (by decide +kernel)) ggX9_leave_X9_finding
set_option maxRecDepth 20000 in
theorem ggX9_leave_X9_partyOf : GoodIn wsX9_leave wsX9_partyOf := goodIn_r _ [22, 3, 23, 29, 30, 31, 32, 33, 34, 35, 36, 37, 38, 39, 40, 41, 42, 43, 44, 45, 46, 47, 48, 49, 50, 51, 52, 53, 54, 55, 56, 57, 58, 59, 60, 61] (by decide +kernel) (by decide +kernel)
set_option maxRecDepth 20000 in
theorem gX9_leave_X9_partyOf : GoodIn wsX9_leave (wsV RX9 164 RX9 yX9_partyOf wsX9_partyOf) := goodIn_app (goodIn_of _ (by decide +kernel)) ggX9_leave_X9_partyOf
set_option maxRecDepth 20000 in
theorem ggX9_leave_X9_takeOut : GoodIn wsX9_leave wsX9_takeOut := goodIn_r _ [27, 3, 23, 28, 29, 30, 31, 32, 33, 34, 35, 36, 37, 38, 39, 40, 41, 42, 43, 44, 45, 46, 47, 48, 49, 50, 51, 52, 53, 54, 55, 56, 57, 58, 59, 60, 61] (by decide +kernel) (by decide +kernel)
set_option maxRecDepth 20000 in
theorem gX9_leave_X9_takeOut : GoodIn wsX9_leave (wsV RX9 175 RX9 yX9_takeOut wsX9_takeOut) := goodIn_app (goodIn_of _ (by decide +kernel)) ggX9_leave_X9_takeOut
theorem dX9_leave_0 : decode cX9_leave 0 = .ok (.aload_n 0, 1) := by decide +kernel
theorem dX9_leave_1 : decode cX9_leave 1 = .ok (.iload_n 1, 1) := by decide +kernel
theorem dX9_leave_2 : decode cX9_leave 2 = .ok (.invokevirtual 121, 3) := by decide +kernel
theorem dX9_leave_5 : decode cX9_leave 5 = .ok (.ifCond .ne 11, 3) := by decide +kernel
theorem dX9_leave_8 : decode cX9_leave 8 = .ok (.aload_n 0, 1) := by decide +kernel
theorem dX9_leave_9 : decode cX9_leave 9 = .ok (.ldc2_w 109, 3) := by decide +kernel
theorem dX9_leave_12 : decode cX9_leave 12 = .ok (.invokevirtual 111, 3) := by decide +kernel
theorem dX9_leave_15 : decode cX9_leave 15 = .ok (.lreturn, 1) := by decide +kernel
theorem dX9_leave_16 : decode cX9_leave 16 = .ok (.aload_n 0, 1) := by decide +kernel
theorem dX9_leave_17 : decode cX9_leave 17 = .ok (.iload_n 1, 1) := by decide +kernel
theorem dX9_leave_18 : decode cX9_leave 18 = .ok (.invokevirtual 164, 3) := by decide +kernel
theorem dX9_leave_21 : decode cX9_leave 21 = .ok (.istore_n 2, 1) := by decide +kernel
theorem dX9_leave_22 : decode cX9_leave 22 = .ok (.iload_n 2, 1) := by decide +kernel
theorem dX9_leave_23 : decode cX9_leave 23 = .ok (.ifCond .ge 11, 3) := by decide +kernel
theorem dX9_leave_26 : decode cX9_leave 26 = .ok (.aload_n 0, 1) := by decide +kernel
theorem dX9_leave_27 : decode cX9_leave 27 = .ok (.ldc2_w 173, 3) := by decide +kernel
theorem dX9_leave_30 : decode cX9_leave 30 = .ok (.invokevirtual 111, 3) := by decide +kernel
theorem dX9_leave_33 : decode cX9_leave 33 = .ok (.lreturn, 1) := by decide +kernel
theorem dX9_leave_34 : decode cX9_leave 34 = .ok (.aload_n 0, 1) := by decide +kernel
theorem dX9_leave_35 : decode cX9_leave 35 = .ok (.iload_n 2, 1) := by decide +kernel
theorem dX9_leave_36 : decode cX9_leave 36 = .ok (.invokevirtual 175, 3) := by decide +kernel
theorem dX9_leave_39 : decode cX9_leave 39 = .ok (.aload_n 0, 1) := by decide +kernel
theorem dX9_leave_40 : decode cX9_leave 40 = .ok (.getfield 159, 3) := by decide +kernel
theorem dX9_leave_43 : decode cX9_leave 43 = .ok (.i2l, 1) := by decide +kernel
theorem dX9_leave_44 : decode cX9_leave 44 = .ok (.lreturn, 1) := by decide +kernel
theorem dX9_boundOf_0 : decode cX9_boundOf 0 = .ok (.aload_n 0, 1) := by decide +kernel
theorem dX9_boundOf_1 : decode cX9_boundOf 1 = .ok (.getfield 31, 3) := by decide +kernel
theorem dX9_boundOf_4 : decode cX9_boundOf 4 = .ok (.i2l, 1) := by decide +kernel
theorem dX9_boundOf_5 : decode cX9_boundOf 5 = .ok (.aload_n 0, 1) := by decide +kernel
theorem dX9_boundOf_6 : decode cX9_boundOf 6 = .ok (.getfield 35, 3) := by decide +kernel
theorem dX9_boundOf_9 : decode cX9_boundOf 9 = .ok (.i2l, 1) := by decide +kernel
theorem dX9_boundOf_10 : decode cX9_boundOf 10 = .ok (.aload_n 0, 1) := by decide +kernel
theorem dX9_boundOf_11 : decode cX9_boundOf 11 = .ok (.getfield 89, 3) := by decide +kernel
theorem dX9_boundOf_14 : decode cX9_boundOf 14 = .ok (.aload_n 0, 1) := by decide +kernel
theorem dX9_boundOf_15 : decode cX9_boundOf 15 = .ok (.getfield 45, 3) := by decide +kernel
theorem dX9_boundOf_18 : decode cX9_boundOf 18 = .ok (.iload_n 1, 1) := by decide +kernel
theorem dX9_boundOf_19 : decode cX9_boundOf 19 = .ok (.iaload, 1) := by decide +kernel
theorem dX9_boundOf_20 : decode cX9_boundOf 20 = .ok (.isub, 1) := by decide +kernel
theorem dX9_boundOf_21 : decode cX9_boundOf 21 = .ok (.i2l, 1) := by decide +kernel
theorem dX9_boundOf_22 : decode cX9_boundOf 22 = .ok (.lmul, 1) := by decide +kernel
theorem dX9_boundOf_23 : decode cX9_boundOf 23 = .ok (.ladd, 1) := by decide +kernel
theorem dX9_boundOf_24 : decode cX9_boundOf 24 = .ok (.lstore_n 2, 1) := by decide +kernel
theorem dX9_boundOf_25 : decode cX9_boundOf 25 = .ok (.lload_n 2, 1) := by decide +kernel
theorem dX9_boundOf_26 : decode cX9_boundOf 26 = .ok (.aload_n 0, 1) := by decide +kernel
theorem dX9_boundOf_27 : decode cX9_boundOf 27 = .ok (.getfield 39, 3) := by decide +kernel
theorem dX9_boundOf_30 : decode cX9_boundOf 30 = .ok (.i2l, 1) := by decide +kernel
theorem dX9_boundOf_31 : decode cX9_boundOf 31 = .ok (.lcmp, 1) := by decide +kernel
theorem dX9_boundOf_32 : decode cX9_boundOf 32 = .ok (.ifCond .ge 7, 3) := by decide +kernel
theorem dX9_boundOf_35 : decode cX9_boundOf 35 = .ok (.lload_n 2, 1) := by decide +kernel
theorem dX9_boundOf_36 : decode cX9_boundOf 36 = .ok (.goto 8, 3) := by decide +kernel
theorem dX9_boundOf_39 : decode cX9_boundOf 39 = .ok (.aload_n 0, 1) := by decide +kernel
theorem dX9_boundOf_40 : decode cX9_boundOf 40 = .ok (.getfield 39, 3) := by decide +kernel
theorem dX9_boundOf_43 : decode cX9_boundOf 43 = .ok (.i2l, 1) := by decide +kernel
theorem dX9_boundOf_44 : decode cX9_boundOf 44 = .ok (.lreturn, 1) := by decide +kernel
set_option maxRecDepth 20000 in
theorem ggX9_waited_X9_isPlayer : GoodIn wsX9_waited wsX9_isPlayer := goodIn_r _ [9, 10, 11, 12, 8, 13, 33, 34, 35, 36, 37, 38, 39, 40, 41, 42, 43, 44, 45, 46, 47, 48, 49, 50, 51, 52, 53, 54, 55, 56, 57, 58, 59, 60, 61, 62, 63, 64, 65] (by decide +kernel) (by decide +kernel)
set_option maxRecDepth 20000 in
theorem gX9_waited_X9_isPlayer : GoodIn wsX9_waited (wsV RX9 121 RX9 yX9_isPlayer wsX9_isPlayer) := goodIn_app (goodIn_of _ (by decide +kernel)) ggX9_waited_X9_isPlayer
set_option maxRecDepth 20000 in
theorem ggX9_waited_X9_finding : GoodIn wsX9_waited wsX9_finding := goodIn_r _ [17, 18, 19, 33, 34, 35, 36, 37, 38, 39, 40, 41, 42, 43, 44, 45, 46, 47, 48, 49, 50, 51, 52, 53, 54, 55, 56, 57, 58, 59, 60, 61, 62, 63, 64, 65] (by decide +kernel) (by decide +kernel)
set_option maxRecDepth 20000 in
theorem gX9_waited_X9_finding : GoodIn wsX9_waited (wsV RX9 111 RX9 yX9_finding wsX9_finding) := goodIn_app (goodIn_of _ (by decide +kernel)) ggX9_waited_X9_finding
set_option maxRecDepth 20000 in
theorem ggX9_waited_X9_partyOf : GoodIn wsX9_waited wsX9_partyOf := goodIn_r _ [23, 24, 25, 33, 34, 35, 36, 37, 38, 39, 40, 41, 42, 43, 44, 45, 46, 47, 48, 49, 50, 51, 52, 53, 54, 55, 56, 57, 58, 59, 60, 61, 62, 63, 64, 65] (by decide +kernel) (by decide +kernel)
set_option maxRecDepth 20000 in
theorem gX9_waited_X9_partyOf : GoodIn wsX9_waited (wsV RX9 164 RX9 yX9_partyOf wsX9_partyOf) := goodIn_app (goodIn_of _ (by decide +kernel)) ggX9_waited_X9_partyOf
set_option maxRecDepth 20000 in
theorem ggX9_waited_X9_boundOf : GoodIn wsX9_waited wsX9_boundOf := goodIn_r _ [29, 30, 31, 3, 4, 32, 33, 34, 35, 36, 37, 38, 39, 40, 41, 42, 43, 44, 45, 46, 47, 48, 49, 50, 51, 52, 53, 54, 55, 56, 57, 58, 59, 60, 61, 62, 63, 64, 65] (by decide +kernel) (by decide +kernel)
set_option maxRecDepth 20000 in
theorem gX9_waited_X9_boundOf : GoodIn wsX9_waited (wsV RX9 179 RX9 yX9_boundOf wsX9_boundOf) := goodIn_app (goodIn_of _ (by decide +kernel)) ggX9_waited_X9_boundOf
theorem dX9_waited_0 : decode cX9_waited 0 = .ok (.aload_n 0, 1) := by decide +kernel
theorem dX9_waited_1 : decode cX9_waited 1 = .ok (.iload_n 1, 1) := by decide +kernel
theorem dX9_waited_2 : decode cX9_waited 2 = .ok (.invokevirtual 121, 3) := by decide +kernel
theorem dX9_waited_5 : decode cX9_waited 5 = .ok (.ifCond .ne 11, 3) := by decide +kernel
theorem dX9_waited_8 : decode cX9_waited 8 = .ok (.aload_n 0, 1) := by decide +kernel
theorem dX9_waited_9 : decode cX9_waited 9 = .ok (.ldc2_w 109, 3) := by decide +kernel
theorem dX9_waited_12 : decode cX9_waited 12 = .ok (.invokevirtual 111, 3) := by decide +kernel
theorem dX9_waited_15 : decode cX9_waited 15 = .ok (.lreturn, 1) := by decide +kernel
theorem dX9_waited_16 : decode cX9_waited 16 = .ok (.aload_n 0, 1) := by decide +kernel
theorem dX9_waited_17 : decode cX9_waited 17 = .ok (.iload_n 1, 1) := by decide +kernel
theorem dX9_waited_18 : decode cX9_waited 18 = .ok (.invokevirtual 164, 3) := by decide +kernel
theorem dX9_waited_21 : decode cX9_waited 21 = .ok (.istore_n 3, 1) := by decide +kernel
theorem dX9_waited_22 : decode cX9_waited 22 = .ok (.iload_n 3, 1) := by decide +kernel
theorem dX9_waited_23 : decode cX9_waited 23 = .ok (.ifCond .ge 11, 3) := by decide +kernel
theorem dX9_waited_26 : decode cX9_waited 26 = .ok (.aload_n 0, 1) := by decide +kernel
theorem dX9_waited_27 : decode cX9_waited 27 = .ok (.ldc2_w 173, 3) := by decide +kernel
theorem dX9_waited_30 : decode cX9_waited 30 = .ok (.invokevirtual 111, 3) := by decide +kernel
theorem dX9_waited_33 : decode cX9_waited 33 = .ok (.lreturn, 1) := by decide +kernel
theorem dX9_waited_34 : decode cX9_waited 34 = .ok (.iload_n 2, 1) := by decide +kernel
theorem dX9_waited_35 : decode cX9_waited 35 = .ok (.ifCond .eq 11, 3) := by decide +kernel
theorem dX9_waited_38 : decode cX9_waited 38 = .ok (.aload_n 0, 1) := by decide +kernel
theorem dX9_waited_39 : decode cX9_waited 39 = .ok (.iload_n 3, 1) := by decide +kernel
theorem dX9_waited_40 : decode cX9_waited 40 = .ok (.invokevirtual 179, 3) := by decide +kernel
theorem dX9_waited_43 : decode cX9_waited 43 = .ok (.goto 15, 3) := by decide +kernel
theorem dX9_waited_46 : decode cX9_waited 46 = .ok (.aload_n 0, 1) := by decide +kernel
theorem dX9_waited_47 : decode cX9_waited 47 = .ok (.getfield 89, 3) := by decide +kernel
theorem dX9_waited_50 : decode cX9_waited 50 = .ok (.aload_n 0, 1) := by decide +kernel
theorem dX9_waited_51 : decode cX9_waited 51 = .ok (.getfield 45, 3) := by decide +kernel
theorem dX9_waited_54 : decode cX9_waited 54 = .ok (.iload_n 3, 1) := by decide +kernel
theorem dX9_waited_55 : decode cX9_waited 55 = .ok (.iaload, 1) := by decide +kernel
theorem dX9_waited_56 : decode cX9_waited 56 = .ok (.isub, 1) := by decide +kernel
theorem dX9_waited_57 : decode cX9_waited 57 = .ok (.i2l, 1) := by decide +kernel
theorem dX9_waited_58 : decode cX9_waited 58 = .ok (.lreturn, 1) := by decide +kernel
theorem dX9_playersOf_0 : decode cX9_playersOf 0 = .ok (.iconst 0, 1) := by decide +kernel
theorem dX9_playersOf_1 : decode cX9_playersOf 1 = .ok (.istore_n 2, 1) := by decide +kernel
theorem dX9_playersOf_2 : decode cX9_playersOf 2 = .ok (.iconst 0, 1) := by decide +kernel
theorem dX9_playersOf_3 : decode cX9_playersOf 3 = .ok (.istore_n 3, 1) := by decide +kernel
theorem dX9_playersOf_4 : decode cX9_playersOf 4 = .ok (.iload_n 3, 1) := by decide +kernel
theorem dX9_playersOf_5 : decode cX9_playersOf 5 = .ok (.aload_n 0, 1) := by decide +kernel
theorem dX9_playersOf_6 : decode cX9_playersOf 6 = .ok (.getfield 159, 3) := by decide +kernel
theorem dX9_playersOf_9 : decode cX9_playersOf 9 = .ok (.if_icmp .ge 31, 3) := by decide +kernel
theorem dX9_playersOf_12 : decode cX9_playersOf 12 = .ok (.iload_n 2, 1) := by decide +kernel
theorem dX9_playersOf_13 : decode cX9_playersOf 13 = .ok (.iload_n 1, 1) := by decide +kernel
theorem dX9_playersOf_14 : decode cX9_playersOf 14 = .ok (.iload_n 3, 1) := by decide +kernel
theorem dX9_playersOf_15 : decode cX9_playersOf 15 = .ok (.ishr, 1) := by decide +kernel
theorem dX9_playersOf_16 : decode cX9_playersOf 16 = .ok (.iconst 1, 1) := by decide +kernel
theorem dX9_playersOf_17 : decode cX9_playersOf 17 = .ok (.iand, 1) := by decide +kernel
theorem dX9_playersOf_18 : decode cX9_playersOf 18 = .ok (.iconst 1, 1) := by decide +kernel
theorem dX9_playersOf_19 : decode cX9_playersOf 19 = .ok (.if_icmp .ne 12, 3) := by decide +kernel
theorem dX9_playersOf_22 : decode cX9_playersOf 22 = .ok (.aload_n 0, 1) := by decide +kernel
theorem dX9_playersOf_23 : decode cX9_playersOf 23 = .ok (.getfield 42, 3) := by decide +kernel
theorem dX9_playersOf_26 : decode cX9_playersOf 26 = .ok (.iload_n 3, 1) := by decide +kernel
theorem dX9_playersOf_27 : decode cX9_playersOf 27 = .ok (.iaload, 1) := by decide +kernel
theorem dX9_playersOf_28 : decode cX9_playersOf 28 = .ok (.goto 4, 3) := by decide +kernel
theorem dX9_playersOf_31 : decode cX9_playersOf 31 = .ok (.iconst 0, 1) := by decide +kernel
theorem dX9_playersOf_32 : decode cX9_playersOf 32 = .ok (.ior, 1) := by decide +kernel
theorem dX9_playersOf_33 : decode cX9_playersOf 33 = .ok (.istore_n 2, 1) := by decide +kernel
theorem dX9_playersOf_34 : decode cX9_playersOf 34 = .ok (.iinc 3 1, 3) := by decide +kernel
theorem dX9_playersOf_37 : decode cX9_playersOf 37 = .ok (.goto (-33), 3) := by decide +kernel
theorem dX9_playersOf_40 : decode cX9_playersOf 40 = .ok (.iload_n 2, 1) := by decide +kernel
theorem dX9_playersOf_41 : decode cX9_playersOf 41 = .ok (.ireturn, 1) := by decide +kernel
set_option maxRecDepth 20000 in
theorem ggX9_laySets_X9_playersOf : GoodIn wsX9_laySets wsX9_playersOf := goodIn_r _ [9, 1, 10, 19, 20, 21, 22, 23, 24, 25, 26, 27, 28, 29, 30, 31, 32, 33, 34, 35, 36, 37, 38, 39, 40, 41, 42, 43, 44, 45, 46, 47, 48, 49, 50, 51] (by decide +kernel) (by decide +kernel)
set_option maxRecDepth 20000 in
theorem gX9_laySets_X9_playersOf : GoodIn wsX9_laySets (wsV RX9 182 RX9 yX9_playersOf wsX9_playersOf) := goodIn_app (goodIn_of _ (by decide +kernel)) ggX9_laySets_X9_playersOf
set_option maxRecDepth 20000 in
theorem ggX9_laySets_X9_ones : GoodIn wsX9_laySets wsX9_ones := goodIn_r _ [13] (by decide +kernel) (by decide +kernel)
set_option maxRecDepth 20000 in
theorem gX9_laySets_X9_ones : GoodIn wsX9_laySets (va_wsS RX9 135 yX9_ones wsX9_ones) := goodIn_app (goodIn_of _ (by decide +kernel)) ggX9_laySets_X9_ones
set_option maxRecDepth 20000 in
theorem ggX9_laySets_X9_meanOf : GoodIn wsX9_laySets wsX9_meanOf := goodIn_r _ [17, 18, 19, 20, 21, 22, 23, 24, 25, 26, 27, 28, 29, 30, 31, 32, 33, 34, 35, 36, 37, 38, 39, 40, 41, 42, 43, 44, 45, 46, 47, 48, 49, 50, 51] (by decide +kernel) (by decide +kernel)
set_option maxRecDepth 20000 in
theorem gX9_laySets_X9_meanOf : GoodIn wsX9_laySets (wsV RX9 125 RX9 yX9_meanOf wsX9_meanOf) := goodIn_app (goodIn_of _ (by decide +kernel)) ggX9_laySets_X9_meanOf
theorem dX9_laySets_0 : decode cX9_laySets 0 = .ok (.iconst 0, 1) := by decide +kernel
theorem dX9_laySets_1 : decode cX9_laySets 1 = .ok (.istore_n 1, 1) := by decide +kernel
theorem dX9_laySets_2 : decode cX9_laySets 2 = .ok (.iload_n 1, 1) := by decide +kernel
theorem dX9_laySets_3 : decode cX9_laySets 3 = .ok (.iconst 1, 1) := by decide +kernel
theorem dX9_laySets_4 : decode cX9_laySets 4 = .ok (.aload_n 0, 1) := by decide +kernel
theorem dX9_laySets_5 : decode cX9_laySets 5 = .ok (.getfield 159, 3) := by decide +kernel
theorem dX9_laySets_8 : decode cX9_laySets 8 = .ok (.ishl, 1) := by decide +kernel
theorem dX9_laySets_9 : decode cX9_laySets 9 = .ok (.if_icmp .ge 75, 3) := by decide +kernel
theorem dX9_laySets_12 : decode cX9_laySets 12 = .ok (.aload_n 0, 1) := by decide +kernel
theorem dX9_laySets_13 : decode cX9_laySets 13 = .ok (.iload_n 1, 1) := by decide +kernel
theorem dX9_laySets_14 : decode cX9_laySets 14 = .ok (.invokevirtual 182, 3) := by decide +kernel
theorem dX9_laySets_17 : decode cX9_laySets 17 = .ok (.istore_n 2, 1) := by decide +kernel
theorem dX9_laySets_18 : decode cX9_laySets 18 = .ok (.aload_n 0, 1) := by decide +kernel
theorem dX9_laySets_19 : decode cX9_laySets 19 = .ok (.getfield 74, 3) := by decide +kernel
theorem dX9_laySets_22 : decode cX9_laySets 22 = .ok (.iload_n 1, 1) := by decide +kernel
theorem dX9_laySets_23 : decode cX9_laySets 23 = .ok (.iload_n 2, 1) := by decide +kernel
theorem dX9_laySets_24 : decode cX9_laySets 24 = .ok (.invokestatic 135, 3) := by decide +kernel
theorem dX9_laySets_27 : decode cX9_laySets 27 = .ok (.iastore, 1) := by decide +kernel
theorem dX9_laySets_28 : decode cX9_laySets 28 = .ok (.aload_n 0, 1) := by decide +kernel
theorem dX9_laySets_29 : decode cX9_laySets 29 = .ok (.getfield 77, 3) := by decide +kernel
theorem dX9_laySets_32 : decode cX9_laySets 32 = .ok (.iload_n 1, 1) := by decide +kernel
theorem dX9_laySets_33 : decode cX9_laySets 33 = .ok (.lconst 0, 1) := by decide +kernel
theorem dX9_laySets_34 : decode cX9_laySets 34 = .ok (.lastore, 1) := by decide +kernel
theorem dX9_laySets_35 : decode cX9_laySets 35 = .ok (.iconst 0, 1) := by decide +kernel
theorem dX9_laySets_36 : decode cX9_laySets 36 = .ok (.istore_n 3, 1) := by decide +kernel
theorem dX9_laySets_37 : decode cX9_laySets 37 = .ok (.iload_n 3, 1) := by decide +kernel
theorem dX9_laySets_38 : decode cX9_laySets 38 = .ok (.aload_n 0, 1) := by decide +kernel
theorem dX9_laySets_39 : decode cX9_laySets 39 = .ok (.getfield 94, 3) := by decide +kernel
theorem dX9_laySets_42 : decode cX9_laySets 42 = .ok (.if_icmp .ge 36, 3) := by decide +kernel
theorem dX9_laySets_45 : decode cX9_laySets 45 = .ok (.aload_n 0, 1) := by decide +kernel
theorem dX9_laySets_46 : decode cX9_laySets 46 = .ok (.getfield 77, 3) := by decide +kernel
theorem dX9_laySets_49 : decode cX9_laySets 49 = .ok (.iload_n 1, 1) := by decide +kernel
theorem dX9_laySets_50 : decode cX9_laySets 50 = .ok (.dup2, 1) := by decide +kernel
theorem dX9_laySets_51 : decode cX9_laySets 51 = .ok (.laload, 1) := by decide +kernel
theorem dX9_laySets_52 : decode cX9_laySets 52 = .ok (.iload_n 2, 1) := by decide +kernel
theorem dX9_laySets_53 : decode cX9_laySets 53 = .ok (.iload_n 3, 1) := by decide +kernel
theorem dX9_laySets_54 : decode cX9_laySets 54 = .ok (.ishr, 1) := by decide +kernel
theorem dX9_laySets_55 : decode cX9_laySets 55 = .ok (.iconst 1, 1) := by decide +kernel
theorem dX9_laySets_56 : decode cX9_laySets 56 = .ok (.iand, 1) := by decide +kernel
theorem dX9_laySets_57 : decode cX9_laySets 57 = .ok (.iconst 1, 1) := by decide +kernel
theorem dX9_laySets_58 : decode cX9_laySets 58 = .ok (.if_icmp .ne 11, 3) := by decide +kernel
theorem dX9_laySets_61 : decode cX9_laySets 61 = .ok (.aload_n 0, 1) := by decide +kernel
theorem dX9_laySets_62 : decode cX9_laySets 62 = .ok (.iload_n 3, 1) := by decide +kernel
theorem dX9_laySets_63 : decode cX9_laySets 63 = .ok (.invokevirtual 125, 3) := by decide +kernel
theorem dX9_laySets_66 : decode cX9_laySets 66 = .ok (.goto 4, 3) := by decide +kernel
theorem dX9_laySets_69 : decode cX9_laySets 69 = .ok (.lconst 0, 1) := by decide +kernel
theorem dX9_laySets_70 : decode cX9_laySets 70 = .ok (.ladd, 1) := by decide +kernel
theorem dX9_laySets_71 : decode cX9_laySets 71 = .ok (.lastore, 1) := by decide +kernel
theorem dX9_laySets_72 : decode cX9_laySets 72 = .ok (.iinc 3 1, 3) := by decide +kernel
theorem dX9_laySets_75 : decode cX9_laySets 75 = .ok (.goto (-38), 3) := by decide +kernel
theorem dX9_laySets_78 : decode cX9_laySets 78 = .ok (.iinc 1 1, 3) := by decide +kernel
theorem dX9_laySets_81 : decode cX9_laySets 81 = .ok (.goto (-79), 3) := by decide +kernel
theorem dX9_laySets_84 : decode cX9_laySets 84 = .ok (.return_, 1) := by decide +kernel
set_option maxRecDepth 20000 in
theorem ggX9_findPairing_X9_boundOf : GoodIn wsX9_findPairing wsX9_boundOf := goodIn_r _ [12, 13, 14, 15, 16, 17, 18, 19, 20, 21, 22, 23, 24, 25, 26, 27, 28, 29, 30, 31, 32, 33, 34, 35, 36, 37, 38, 39, 40, 41, 42, 43, 44, 45, 46, 47, 48, 49, 50] (by decide +kernel) (by decide +kernel)
set_option maxRecDepth 20000 in
theorem gX9_findPairing_X9_boundOf : GoodIn wsX9_findPairing (wsV RX9 179 RX9 yX9_boundOf wsX9_boundOf) := goodIn_app (goodIn_of _ (by decide +kernel)) ggX9_findPairing_X9_boundOf
theorem dX9_findPairing_0 : decode cX9_findPairing 0 = .ok (.aload_n 0, 1) := by decide +kernel
theorem dX9_findPairing_1 : decode cX9_findPairing 1 = .ok (.iconst (-1), 1) := by decide +kernel
theorem dX9_findPairing_2 : decode cX9_findPairing 2 = .ok (.putfield 185, 3) := by decide +kernel
theorem dX9_findPairing_5 : decode cX9_findPairing 5 = .ok (.iconst 0, 1) := by decide +kernel
theorem dX9_findPairing_6 : decode cX9_findPairing 6 = .ok (.istore_n 3, 1) := by decide +kernel
theorem dX9_findPairing_7 : decode cX9_findPairing 7 = .ok (.iload_n 3, 1) := by decide +kernel
theorem dX9_findPairing_8 : decode cX9_findPairing 8 = .ok (.iconst 1, 1) := by decide +kernel
theorem dX9_findPairing_9 : decode cX9_findPairing 9 = .ok (.aload_n 0, 1) := by decide +kernel
theorem dX9_findPairing_10 : decode cX9_findPairing 10 = .ok (.getfield 159, 3) := by decide +kernel
theorem dX9_findPairing_13 : decode cX9_findPairing 13 = .ok (.ishl, 1) := by decide +kernel
theorem dX9_findPairing_14 : decode cX9_findPairing 14 = .ok (.if_icmp .ge 173, 3) := by decide +kernel
theorem dX9_findPairing_17 : decode cX9_findPairing 17 = .ok (.iload_n 3, 1) := by decide +kernel
theorem dX9_findPairing_18 : decode cX9_findPairing 18 = .ok (.iload_n 2, 1) := by decide +kernel
theorem dX9_findPairing_19 : decode cX9_findPairing 19 = .ok (.iconst (-1), 1) := by decide +kernel
theorem dX9_findPairing_20 : decode cX9_findPairing 20 = .ok (.ixor, 1) := by decide +kernel
theorem dX9_findPairing_21 : decode cX9_findPairing 21 = .ok (.iand, 1) := by decide +kernel
theorem dX9_findPairing_22 : decode cX9_findPairing 22 = .ok (.ifCond .ne 159, 3) := by decide +kernel
theorem dX9_findPairing_25 : decode cX9_findPairing 25 = .ok (.iload_n 3, 1) := by decide +kernel
theorem dX9_findPairing_26 : decode cX9_findPairing 26 = .ok (.iload_n 1, 1) := by decide +kernel
theorem dX9_findPairing_27 : decode cX9_findPairing 27 = .ok (.ishr, 1) := by decide +kernel
theorem dX9_findPairing_28 : decode cX9_findPairing 28 = .ok (.iconst 1, 1) := by decide +kernel
theorem dX9_findPairing_29 : decode cX9_findPairing 29 = .ok (.iand, 1) := by decide +kernel
theorem dX9_findPairing_30 : decode cX9_findPairing 30 = .ok (.iconst 1, 1) := by decide +kernel
theorem dX9_findPairing_31 : decode cX9_findPairing 31 = .ok (.if_icmp .ne 150, 3) := by decide +kernel
theorem dX9_findPairing_34 : decode cX9_findPairing 34 = .ok (.aload_n 0, 1) := by decide +kernel
theorem dX9_findPairing_35 : decode cX9_findPairing 35 = .ok (.getfield 74, 3) := by decide +kernel
theorem dX9_findPairing_38 : decode cX9_findPairing 38 = .ok (.iload_n 3, 1) := by decide +kernel
theorem dX9_findPairing_39 : decode cX9_findPairing 39 = .ok (.iaload, 1) := by decide +kernel
theorem dX9_findPairing_40 : decode cX9_findPairing 40 = .ok (.aload_n 0, 1) := by decide +kernel
theorem dX9_findPairing_41 : decode cX9_findPairing 41 = .ok (.getfield 26, 3) := by decide +kernel
theorem dX9_findPairing_44 : decode cX9_findPairing 44 = .ok (.if_icmp .ne 137, 3) := by decide +kernel
theorem dX9_findPairing_47 : decode cX9_findPairing 47 = .ok (.iconst 0, 1) := by decide +kernel
theorem dX9_findPairing_48 : decode cX9_findPairing 48 = .ok (.istore 4, 2) := by decide +kernel
theorem dX9_findPairing_50 : decode cX9_findPairing 50 = .ok (.iload 4, 2) := by decide +kernel
theorem dX9_findPairing_52 : decode cX9_findPairing 52 = .ok (.iconst 1, 1) := by decide +kernel
theorem dX9_findPairing_53 : decode cX9_findPairing 53 = .ok (.aload_n 0, 1) := by decide +kernel
theorem dX9_findPairing_54 : decode cX9_findPairing 54 = .ok (.getfield 159, 3) := by decide +kernel
theorem dX9_findPairing_57 : decode cX9_findPairing 57 = .ok (.ishl, 1) := by decide +kernel
theorem dX9_findPairing_58 : decode cX9_findPairing 58 = .ok (.if_icmp .ge 123, 3) := by decide +kernel
theorem dX9_findPairing_61 : decode cX9_findPairing 61 = .ok (.iload 4, 2) := by decide +kernel
theorem dX9_findPairing_63 : decode cX9_findPairing 63 = .ok (.iload_n 2, 1) := by decide +kernel
theorem dX9_findPairing_64 : decode cX9_findPairing 64 = .ok (.iconst (-1), 1) := by decide +kernel
theorem dX9_findPairing_65 : decode cX9_findPairing 65 = .ok (.ixor, 1) := by decide +kernel
theorem dX9_findPairing_66 : decode cX9_findPairing 66 = .ok (.iand, 1) := by decide +kernel
theorem dX9_findPairing_67 : decode cX9_findPairing 67 = .ok (.ifCond .ne 108, 3) := by decide +kernel
theorem dX9_findPairing_70 : decode cX9_findPairing 70 = .ok (.iload_n 3, 1) := by decide +kernel
theorem dX9_findPairing_71 : decode cX9_findPairing 71 = .ok (.iload 4, 2) := by decide +kernel
theorem dX9_findPairing_73 : decode cX9_findPairing 73 = .ok (.iand, 1) := by decide +kernel
theorem dX9_findPairing_74 : decode cX9_findPairing 74 = .ok (.ifCond .ne 101, 3) := by decide +kernel
theorem dX9_findPairing_77 : decode cX9_findPairing 77 = .ok (.aload_n 0, 1) := by decide +kernel
theorem dX9_findPairing_78 : decode cX9_findPairing 78 = .ok (.getfield 74, 3) := by decide +kernel
theorem dX9_findPairing_81 : decode cX9_findPairing 81 = .ok (.iload 4, 2) := by decide +kernel
theorem dX9_findPairing_83 : decode cX9_findPairing 83 = .ok (.iaload, 1) := by decide +kernel
theorem dX9_findPairing_84 : decode cX9_findPairing 84 = .ok (.aload_n 0, 1) := by decide +kernel
theorem dX9_findPairing_85 : decode cX9_findPairing 85 = .ok (.getfield 26, 3) := by decide +kernel
theorem dX9_findPairing_88 : decode cX9_findPairing 88 = .ok (.if_icmp .ne 87, 3) := by decide +kernel
theorem dX9_findPairing_91 : decode cX9_findPairing 91 = .ok (.aload_n 0, 1) := by decide +kernel
theorem dX9_findPairing_92 : decode cX9_findPairing 92 = .ok (.getfield 77, 3) := by decide +kernel
theorem dX9_findPairing_95 : decode cX9_findPairing 95 = .ok (.iload_n 3, 1) := by decide +kernel
theorem dX9_findPairing_96 : decode cX9_findPairing 96 = .ok (.laload, 1) := by decide +kernel
theorem dX9_findPairing_97 : decode cX9_findPairing 97 = .ok (.aload_n 0, 1) := by decide +kernel
theorem dX9_findPairing_98 : decode cX9_findPairing 98 = .ok (.getfield 77, 3) := by decide +kernel
theorem dX9_findPairing_101 : decode cX9_findPairing 101 = .ok (.iload 4, 2) := by decide +kernel
theorem dX9_findPairing_103 : decode cX9_findPairing 103 = .ok (.laload, 1) := by decide +kernel
theorem dX9_findPairing_104 : decode cX9_findPairing 104 = .ok (.lcmp, 1) := by decide +kernel
theorem dX9_findPairing_105 : decode cX9_findPairing 105 = .ok (.ifCond .ge 20, 3) := by decide +kernel
theorem dX9_findPairing_108 : decode cX9_findPairing 108 = .ok (.aload_n 0, 1) := by decide +kernel
theorem dX9_findPairing_109 : decode cX9_findPairing 109 = .ok (.getfield 77, 3) := by decide +kernel
theorem dX9_findPairing_112 : decode cX9_findPairing 112 = .ok (.iload 4, 2) := by decide +kernel
theorem dX9_findPairing_114 : decode cX9_findPairing 114 = .ok (.laload, 1) := by decide +kernel
theorem dX9_findPairing_115 : decode cX9_findPairing 115 = .ok (.aload_n 0, 1) := by decide +kernel
theorem dX9_findPairing_116 : decode cX9_findPairing 116 = .ok (.getfield 77, 3) := by decide +kernel
theorem dX9_findPairing_119 : decode cX9_findPairing 119 = .ok (.iload_n 3, 1) := by decide +kernel
theorem dX9_findPairing_120 : decode cX9_findPairing 120 = .ok (.laload, 1) := by decide +kernel
theorem dX9_findPairing_121 : decode cX9_findPairing 121 = .ok (.lsub, 1) := by decide +kernel
theorem dX9_findPairing_122 : decode cX9_findPairing 122 = .ok (.goto 17, 3) := by decide +kernel
theorem dX9_findPairing_125 : decode cX9_findPairing 125 = .ok (.aload_n 0, 1) := by decide +kernel
theorem dX9_findPairing_126 : decode cX9_findPairing 126 = .ok (.getfield 77, 3) := by decide +kernel
theorem dX9_findPairing_129 : decode cX9_findPairing 129 = .ok (.iload_n 3, 1) := by decide +kernel
theorem dX9_findPairing_130 : decode cX9_findPairing 130 = .ok (.laload, 1) := by decide +kernel
theorem dX9_findPairing_131 : decode cX9_findPairing 131 = .ok (.aload_n 0, 1) := by decide +kernel
theorem dX9_findPairing_132 : decode cX9_findPairing 132 = .ok (.getfield 77, 3) := by decide +kernel
theorem dX9_findPairing_135 : decode cX9_findPairing 135 = .ok (.iload 4, 2) := by decide +kernel
theorem dX9_findPairing_137 : decode cX9_findPairing 137 = .ok (.laload, 1) := by decide +kernel
theorem dX9_findPairing_138 : decode cX9_findPairing 138 = .ok (.lsub, 1) := by decide +kernel
theorem dX9_findPairing_139 : decode cX9_findPairing 139 = .ok (.lstore 5, 2) := by decide +kernel
theorem dX9_findPairing_141 : decode cX9_findPairing 141 = .ok (.aload_n 0, 1) := by decide +kernel
theorem dX9_findPairing_142 : decode cX9_findPairing 142 = .ok (.getfield 185, 3) := by decide +kernel
theorem dX9_findPairing_145 : decode cX9_findPairing 145 = .ok (.ifCond .lt 13, 3) := by decide +kernel
theorem dX9_findPairing_148 : decode cX9_findPairing 148 = .ok (.lload 5, 2) := by decide +kernel
theorem dX9_findPairing_150 : decode cX9_findPairing 150 = .ok (.aload_n 0, 1) := by decide +kernel
theorem dX9_findPairing_151 : decode cX9_findPairing 151 = .ok (.getfield 188, 3) := by decide +kernel
theorem dX9_findPairing_154 : decode cX9_findPairing 154 = .ok (.lcmp, 1) := by decide +kernel
theorem dX9_findPairing_155 : decode cX9_findPairing 155 = .ok (.ifCond .ge 20, 3) := by decide +kernel
theorem dX9_findPairing_158 : decode cX9_findPairing 158 = .ok (.aload_n 0, 1) := by decide +kernel
theorem dX9_findPairing_159 : decode cX9_findPairing 159 = .ok (.iload_n 3, 1) := by decide +kernel
theorem dX9_findPairing_160 : decode cX9_findPairing 160 = .ok (.putfield 185, 3) := by decide +kernel
theorem dX9_findPairing_163 : decode cX9_findPairing 163 = .ok (.aload_n 0, 1) := by decide +kernel
theorem dX9_findPairing_164 : decode cX9_findPairing 164 = .ok (.iload 4, 2) := by decide +kernel
theorem dX9_findPairing_166 : decode cX9_findPairing 166 = .ok (.putfield 192, 3) := by decide +kernel
theorem dX9_findPairing_169 : decode cX9_findPairing 169 = .ok (.aload_n 0, 1) := by decide +kernel
theorem dX9_findPairing_170 : decode cX9_findPairing 170 = .ok (.lload 5, 2) := by decide +kernel
theorem dX9_findPairing_172 : decode cX9_findPairing 172 = .ok (.putfield 188, 3) := by decide +kernel
theorem dX9_findPairing_175 : decode cX9_findPairing 175 = .ok (.iinc 4 1, 3) := by decide +kernel
theorem dX9_findPairing_178 : decode cX9_findPairing 178 = .ok (.goto (-128), 3) := by decide +kernel
theorem dX9_findPairing_181 : decode cX9_findPairing 181 = .ok (.iinc 3 1, 3) := by decide +kernel
theorem dX9_findPairing_184 : decode cX9_findPairing 184 = .ok (.goto (-177), 3) := by decide +kernel
theorem dX9_findPairing_187 : decode cX9_findPairing 187 = .ok (.aload_n 0, 1) := by decide +kernel
theorem dX9_findPairing_188 : decode cX9_findPairing 188 = .ok (.getfield 185, 3) := by decide +kernel
theorem dX9_findPairing_191 : decode cX9_findPairing 191 = .ok (.ifCond .lt 20, 3) := by decide +kernel
theorem dX9_findPairing_194 : decode cX9_findPairing 194 = .ok (.aload_n 0, 1) := by decide +kernel
theorem dX9_findPairing_195 : decode cX9_findPairing 195 = .ok (.getfield 188, 3) := by decide +kernel
theorem dX9_findPairing_198 : decode cX9_findPairing 198 = .ok (.aload_n 0, 1) := by decide +kernel
theorem dX9_findPairing_199 : decode cX9_findPairing 199 = .ok (.iload_n 1, 1) := by decide +kernel
theorem dX9_findPairing_200 : decode cX9_findPairing 200 = .ok (.invokevirtual 179, 3) := by decide +kernel
theorem dX9_findPairing_203 : decode cX9_findPairing 203 = .ok (.lcmp, 1) := by decide +kernel
theorem dX9_findPairing_204 : decode cX9_findPairing 204 = .ok (.ifCond .gt 7, 3) := by decide +kernel
theorem dX9_findPairing_207 : decode cX9_findPairing 207 = .ok (.iconst 1, 1) := by decide +kernel
theorem dX9_findPairing_208 : decode cX9_findPairing 208 = .ok (.goto 4, 3) := by decide +kernel
theorem dX9_findPairing_211 : decode cX9_findPairing 211 = .ok (.iconst 0, 1) := by decide +kernel
theorem dX9_findPairing_212 : decode cX9_findPairing 212 = .ok (.ireturn, 1) := by decide +kernel
set_option maxRecDepth 20000 in
theorem ggX9_pairing_X9_isPlayer : GoodIn wsX9_pairing wsX9_isPlayer := goodIn_r _ [11, 12, 13, 14, 10, 15, 60, 61, 62, 63, 64, 65, 66, 67, 68, 69, 70, 71, 72, 73, 74, 75, 76, 77, 78, 79, 80, 81, 82, 83, 84, 85, 86, 87, 88, 89, 90, 91, 92] (by decide +kernel) (by decide +kernel)
set_option maxRecDepth 20000 in
theorem gX9_pairing_X9_isPlayer : GoodIn wsX9_pairing (wsV RX9 121 RX9 yX9_isPlayer wsX9_isPlayer) := goodIn_app (goodIn_of _ (by decide +kernel)) ggX9_pairing_X9_isPlayer
set_option maxRecDepth 20000 in
theorem ggX9_pairing_X9_in : GoodIn wsX9_pairing wsX9_in := goodIn_r _ [15] (by decide +kernel) (by decide +kernel)
set_option maxRecDepth 20000 in
theorem gX9_pairing_X9_in : GoodIn wsX9_pairing (va_wsS RX9 97 yX9_in wsX9_in) := goodIn_app (goodIn_of _ (by decide +kernel)) ggX9_pairing_X9_in
set_option maxRecDepth 20000 in
theorem ggX9_pairing_X9_finding : GoodIn wsX9_pairing wsX9_finding := goodIn_r _ [19, 20, 21, 60, 61, 62, 63, 64, 65, 66, 67, 68, 69, 70, 71, 72, 73, 74, 75, 76, 77, 78, 79, 80, 81, 82, 83, 84, 85, 86, 87, 88, 89, 90, 91, 92] (by decide +kernel) (by decide +kernel)
end
section
set_option maxRecDepth 20000 in
theorem gX9_pairing_X9_finding : GoodIn wsX9_pairing (wsV RX9 111 RX9 yX9_finding wsX9_finding) := goodIn_app (goodIn_of _ (by decide +kernel)) ggX9_pairing_X9_finding
set_option maxRecDepth 20000 in
theorem ggX9_pairing_X9_partyOf : GoodIn wsX9_pairing wsX9_partyOf := goodIn_r _ [25, 26, 27, 60, 61, 62, 63, 64, 65, 66, 67, 68, 69, 70, 71, 72, 73, 74, 75, 76, 77, 78, 79, 80, 81, 82, 83, 84, 85, 86, 87, 88, 89, 90, 91, 92] (by decide +kernel) (by decide +kernel)
set_option maxRecDepth 20000 in
theorem gX9_pairing_X9_partyOf : GoodIn wsX9_pairing (wsV RX9 164 RX9 yX9_partyOf wsX9_partyOf) := goodIn_app (goodIn_of _ (by decide +kernel)) ggX9_pairing_X9_partyOf
set_option maxRecDepth 20000 in
theorem ggX9_pairing_X9_laySets : GoodIn wsX9_pairing wsX9_laySets := goodIn_r _ [31, 26, 32, 33, 12, 34, 35, 36, 10, 37, 27, 38, 39, 40, 41, 42, 43, 44, 45, 60, 61, 62, 63, 64, 65, 66, 67, 68, 69, 70, 71, 72, 73, 74, 75, 76, 77, 78, 79, 80, 81, 82, 83, 84, 85, 86, 87, 88, 89, 90, 91, 92] (by decide +kernel) (by decide +kernel)
set_option maxRecDepth 20000 in
theorem gX9_pairing_X9_laySets : GoodIn wsX9_pairing (wsV RX9 195 RX9 yX9_laySets wsX9_laySets) := goodIn_app (goodIn_of _ (by decide +kernel)) ggX9_pairing_X9_laySets
set_option maxRecDepth 20000 in
theorem ggX9_pairing_X9_findPairing : GoodIn wsX9_pairing wsX9_findPairing := goodIn_r _ [49, 5, 26, 32, 50, 33, 4, 6, 51, 52, 53, 10, 54, 55, 56, 57, 58, 59, 60, 61, 62, 63, 64, 65, 66, 67, 68, 69, 70, 71, 72, 73, 74, 75, 76, 77, 78, 79, 80, 81, 82, 83, 84, 85, 86, 87, 88, 89, 90, 91, 92] (by decide +kernel) (by decide +kernel)
set_option maxRecDepth 20000 in
theorem gX9_pairing_X9_findPairing : GoodIn wsX9_pairing (wsV RX9 198 RX9 yX9_findPairing wsX9_findPairing) := goodIn_app (goodIn_of _ (by decide +kernel)) ggX9_pairing_X9_findPairing
set_option maxRecDepth 20000 in
theorem ggX9_pairing_X9_playersOf : GoodIn wsX9_pairing wsX9_playersOf := goodIn_r _ [37, 26, 27, 60, 61, 62, 63, 64, 65, 66, 67, 68, 69, 70, 71, 72, 73, 74, 75, 76, 77, 78, 79, 80, 81, 82, 83, 84, 85, 86, 87, 88, 89, 90, 91, 92] (by decide +kernel) (by decide +kernel)
set_option maxRecDepth 20000 in
theorem gX9_pairing_X9_playersOf : GoodIn wsX9_pairing (wsV RX9 182 RX9 yX9_playersOf wsX9_playersOf) := goodIn_app (goodIn_of _ (by decide +kernel)) ggX9_pairing_X9_playersOf
theorem dX9_pairing_0 : decode cX9_pairing 0 = .ok (.aload_n 0, 1) := by decide +kernel
theorem dX9_pairing_1 : decode cX9_pairing 1 = .ok (.iload_n 1, 1) := by decide +kernel
theorem dX9_pairing_2 : decode cX9_pairing 2 = .ok (.invokevirtual 121, 3) := by decide +kernel
theorem dX9_pairing_5 : decode cX9_pairing 5 = .ok (.ifCond .eq 15, 3) := by decide +kernel
theorem dX9_pairing_8 : decode cX9_pairing 8 = .ok (.iload_n 2, 1) := by decide +kernel
theorem dX9_pairing_9 : decode cX9_pairing 9 = .ok (.i2l, 1) := by decide +kernel
theorem dX9_pairing_10 : decode cX9_pairing 10 = .ok (.lconst 0, 1) := by decide +kernel
theorem dX9_pairing_11 : decode cX9_pairing 11 = .ok (.ldc2_w 107, 3) := by decide +kernel
theorem dX9_pairing_14 : decode cX9_pairing 14 = .ok (.invokestatic 97, 3) := by decide +kernel
theorem dX9_pairing_17 : decode cX9_pairing 17 = .ok (.ifCond .ne 11, 3) := by decide +kernel
theorem dX9_pairing_20 : decode cX9_pairing 20 = .ok (.aload_n 0, 1) := by decide +kernel
theorem dX9_pairing_21 : decode cX9_pairing 21 = .ok (.ldc2_w 109, 3) := by decide +kernel
theorem dX9_pairing_24 : decode cX9_pairing 24 = .ok (.invokevirtual 111, 3) := by decide +kernel
theorem dX9_pairing_27 : decode cX9_pairing 27 = .ok (.lreturn, 1) := by decide +kernel
theorem dX9_pairing_28 : decode cX9_pairing 28 = .ok (.aload_n 0, 1) := by decide +kernel
theorem dX9_pairing_29 : decode cX9_pairing 29 = .ok (.iload_n 1, 1) := by decide +kernel
theorem dX9_pairing_30 : decode cX9_pairing 30 = .ok (.invokevirtual 164, 3) := by decide +kernel
theorem dX9_pairing_33 : decode cX9_pairing 33 = .ok (.istore_n 3, 1) := by decide +kernel
theorem dX9_pairing_34 : decode cX9_pairing 34 = .ok (.iload_n 3, 1) := by decide +kernel
theorem dX9_pairing_35 : decode cX9_pairing 35 = .ok (.ifCond .ge 11, 3) := by decide +kernel
theorem dX9_pairing_38 : decode cX9_pairing 38 = .ok (.aload_n 0, 1) := by decide +kernel
theorem dX9_pairing_39 : decode cX9_pairing 39 = .ok (.ldc2_w 173, 3) := by decide +kernel
theorem dX9_pairing_42 : decode cX9_pairing 42 = .ok (.invokevirtual 111, 3) := by decide +kernel
theorem dX9_pairing_45 : decode cX9_pairing 45 = .ok (.lreturn, 1) := by decide +kernel
theorem dX9_pairing_46 : decode cX9_pairing 46 = .ok (.aload_n 0, 1) := by decide +kernel
theorem dX9_pairing_47 : decode cX9_pairing 47 = .ok (.invokevirtual 195, 3) := by decide +kernel
theorem dX9_pairing_50 : decode cX9_pairing 50 = .ok (.aload_n 0, 1) := by decide +kernel
theorem dX9_pairing_51 : decode cX9_pairing 51 = .ok (.iload_n 3, 1) := by decide +kernel
theorem dX9_pairing_52 : decode cX9_pairing 52 = .ok (.sipush 1023, 3) := by decide +kernel
theorem dX9_pairing_55 : decode cX9_pairing 55 = .ok (.invokevirtual 198, 3) := by decide +kernel
theorem dX9_pairing_58 : decode cX9_pairing 58 = .ok (.ifCond .ne 11, 3) := by decide +kernel
theorem dX9_pairing_61 : decode cX9_pairing 61 = .ok (.aload_n 0, 1) := by decide +kernel
theorem dX9_pairing_62 : decode cX9_pairing 62 = .ok (.ldc2_w 173, 3) := by decide +kernel
theorem dX9_pairing_65 : decode cX9_pairing 65 = .ok (.invokevirtual 111, 3) := by decide +kernel
theorem dX9_pairing_68 : decode cX9_pairing 68 = .ok (.lreturn, 1) := by decide +kernel
theorem dX9_pairing_69 : decode cX9_pairing 69 = .ok (.iload_n 2, 1) := by decide +kernel
theorem dX9_pairing_70 : decode cX9_pairing 70 = .ok (.ifCond .ne 10, 3) := by decide +kernel
theorem dX9_pairing_73 : decode cX9_pairing 73 = .ok (.aload_n 0, 1) := by decide +kernel
theorem dX9_pairing_74 : decode cX9_pairing 74 = .ok (.getfield 188, 3) := by decide +kernel
theorem dX9_pairing_77 : decode cX9_pairing 77 = .ok (.goto 24, 3) := by decide +kernel
theorem dX9_pairing_80 : decode cX9_pairing 80 = .ok (.aload_n 0, 1) := by decide +kernel
theorem dX9_pairing_81 : decode cX9_pairing 81 = .ok (.iload_n 2, 1) := by decide +kernel
theorem dX9_pairing_82 : decode cX9_pairing 82 = .ok (.iconst 1, 1) := by decide +kernel
theorem dX9_pairing_83 : decode cX9_pairing 83 = .ok (.if_icmp .ne 10, 3) := by decide +kernel
theorem dX9_pairing_86 : decode cX9_pairing 86 = .ok (.aload_n 0, 1) := by decide +kernel
theorem dX9_pairing_87 : decode cX9_pairing 87 = .ok (.getfield 185, 3) := by decide +kernel
theorem dX9_pairing_90 : decode cX9_pairing 90 = .ok (.goto 7, 3) := by decide +kernel
theorem dX9_pairing_93 : decode cX9_pairing 93 = .ok (.aload_n 0, 1) := by decide +kernel
theorem dX9_pairing_94 : decode cX9_pairing 94 = .ok (.getfield 192, 3) := by decide +kernel
theorem dX9_pairing_97 : decode cX9_pairing 97 = .ok (.invokevirtual 182, 3) := by decide +kernel
theorem dX9_pairing_100 : decode cX9_pairing 100 = .ok (.i2l, 1) := by decide +kernel
theorem dX9_pairing_101 : decode cX9_pairing 101 = .ok (.lreturn, 1) := by decide +kernel
theorem dX9_playing_0 : decode cX9_playing 0 = .ok (.iconst 0, 1) := by decide +kernel
theorem dX9_playing_1 : decode cX9_playing 1 = .ok (.istore_n 1, 1) := by decide +kernel
theorem dX9_playing_2 : decode cX9_playing 2 = .ok (.iconst 0, 1) := by decide +kernel
theorem dX9_playing_3 : decode cX9_playing 3 = .ok (.istore_n 2, 1) := by decide +kernel
theorem dX9_playing_4 : decode cX9_playing 4 = .ok (.iload_n 2, 1) := by decide +kernel
theorem dX9_playing_5 : decode cX9_playing 5 = .ok (.iconst 5, 1) := by decide +kernel
theorem dX9_playing_6 : decode cX9_playing 6 = .ok (.if_icmp .ge 26, 3) := by decide +kernel
theorem dX9_playing_9 : decode cX9_playing 9 = .ok (.iload_n 1, 1) := by decide +kernel
theorem dX9_playing_10 : decode cX9_playing 10 = .ok (.aload_n 0, 1) := by decide +kernel
theorem dX9_playing_11 : decode cX9_playing 11 = .ok (.getfield 48, 3) := by decide +kernel
theorem dX9_playing_14 : decode cX9_playing 14 = .ok (.iload_n 2, 1) := by decide +kernel
theorem dX9_playing_15 : decode cX9_playing 15 = .ok (.baload, 1) := by decide +kernel
theorem dX9_playing_16 : decode cX9_playing 16 = .ok (.ifCond .eq 7, 3) := by decide +kernel
theorem dX9_playing_19 : decode cX9_playing 19 = .ok (.iconst 1, 1) := by decide +kernel
theorem dX9_playing_20 : decode cX9_playing 20 = .ok (.goto 4, 3) := by decide +kernel
theorem dX9_playing_23 : decode cX9_playing 23 = .ok (.iconst 0, 1) := by decide +kernel
theorem dX9_playing_24 : decode cX9_playing 24 = .ok (.iadd, 1) := by decide +kernel
theorem dX9_playing_25 : decode cX9_playing 25 = .ok (.istore_n 1, 1) := by decide +kernel
theorem dX9_playing_26 : decode cX9_playing 26 = .ok (.iinc 2 1, 3) := by decide +kernel
theorem dX9_playing_29 : decode cX9_playing 29 = .ok (.goto (-25), 3) := by decide +kernel
theorem dX9_playing_32 : decode cX9_playing 32 = .ok (.iload_n 1, 1) := by decide +kernel
theorem dX9_playing_33 : decode cX9_playing 33 = .ok (.ireturn, 1) := by decide +kernel
set_option maxRecDepth 20000 in
theorem ggX9_plan_X9_laySets : GoodIn wsX9_plan wsX9_laySets := goodIn_r _ [11, 2, 12, 13, 14, 15, 16, 17, 10, 18, 19, 20, 21, 22, 23, 24, 25, 26, 27, 48, 49, 50, 51, 52, 53, 54, 55, 56, 57, 58, 59, 60, 61, 62, 63, 64, 65, 66, 67, 68, 69, 70, 71, 72, 73, 74, 75, 76, 77, 78, 79, 80] (by decide +kernel) (by decide +kernel)
set_option maxRecDepth 20000 in
theorem gX9_plan_X9_laySets : GoodIn wsX9_plan (wsV RX9 195 RX9 yX9_laySets wsX9_laySets) := goodIn_app (goodIn_of _ (by decide +kernel)) ggX9_plan_X9_laySets
set_option maxRecDepth 20000 in
theorem ggX9_plan_X9_playing : GoodIn wsX9_plan wsX9_playing := goodIn_r _ [31, 32, 48, 49, 50, 51, 52, 53, 54, 55, 56, 57, 58, 59, 60, 61, 62, 63, 64, 65, 66, 67, 68, 69, 70, 71, 72, 73, 74, 75, 76, 77, 78, 79, 80] (by decide +kernel) (by decide +kernel)
set_option maxRecDepth 20000 in
theorem gX9_plan_X9_playing : GoodIn wsX9_plan (wsV RX9 205 RX9 yX9_playing wsX9_playing) := goodIn_app (goodIn_of _ (by decide +kernel)) ggX9_plan_X9_playing
set_option maxRecDepth 20000 in
theorem ggX9_plan_X9_findPairing : GoodIn wsX9_plan wsX9_findPairing := goodIn_r _ [36, 4, 2, 12, 37, 13, 38, 6, 39, 40, 41, 10, 42, 43, 44, 45, 46, 47, 48, 49, 50, 51, 52, 53, 54, 55, 56, 57, 58, 59, 60, 61, 62, 63, 64, 65, 66, 67, 68, 69, 70, 71, 72, 73, 74, 75, 76, 77, 78, 79, 80] (by decide +kernel) (by decide +kernel)
set_option maxRecDepth 20000 in
theorem gX9_plan_X9_findPairing : GoodIn wsX9_plan (wsV RX9 198 RX9 yX9_findPairing wsX9_findPairing) := goodIn_app (goodIn_of _ (by decide +kernel)) ggX9_plan_X9_findPairing
theorem dX9_plan_0 : decode cX9_plan 0 = .ok (.aload_n 0, 1) := by decide +kernel
theorem dX9_plan_1 : decode cX9_plan 1 = .ok (.invokevirtual 195, 3) := by decide +kernel
theorem dX9_plan_4 : decode cX9_plan 4 = .ok (.aload_n 0, 1) := by decide +kernel
theorem dX9_plan_5 : decode cX9_plan 5 = .ok (.iconst 0, 1) := by decide +kernel
theorem dX9_plan_6 : decode cX9_plan 6 = .ok (.putfield 202, 3) := by decide +kernel
theorem dX9_plan_9 : decode cX9_plan 9 = .ok (.iconst 1, 1) := by decide +kernel
theorem dX9_plan_10 : decode cX9_plan 10 = .ok (.aload_n 0, 1) := by decide +kernel
theorem dX9_plan_11 : decode cX9_plan 11 = .ok (.getfield 159, 3) := by decide +kernel
theorem dX9_plan_14 : decode cX9_plan 14 = .ok (.ishl, 1) := by decide +kernel
theorem dX9_plan_15 : decode cX9_plan 15 = .ok (.iconst 1, 1) := by decide +kernel
theorem dX9_plan_16 : decode cX9_plan 16 = .ok (.isub, 1) := by decide +kernel
theorem dX9_plan_17 : decode cX9_plan 17 = .ok (.istore_n 1, 1) := by decide +kernel
theorem dX9_plan_18 : decode cX9_plan 18 = .ok (.iconst 5, 1) := by decide +kernel
theorem dX9_plan_19 : decode cX9_plan 19 = .ok (.aload_n 0, 1) := by decide +kernel
theorem dX9_plan_20 : decode cX9_plan 20 = .ok (.invokevirtual 205, 3) := by decide +kernel
theorem dX9_plan_23 : decode cX9_plan 23 = .ok (.isub, 1) := by decide +kernel
theorem dX9_plan_24 : decode cX9_plan 24 = .ok (.istore_n 2, 1) := by decide +kernel
theorem dX9_plan_25 : decode cX9_plan 25 = .ok (.iconst 1, 1) := by decide +kernel
theorem dX9_plan_26 : decode cX9_plan 26 = .ok (.istore_n 3, 1) := by decide +kernel
theorem dX9_plan_27 : decode cX9_plan 27 = .ok (.iload_n 3, 1) := by decide +kernel
theorem dX9_plan_28 : decode cX9_plan 28 = .ok (.ifCond .eq 118, 3) := by decide +kernel
theorem dX9_plan_31 : decode cX9_plan 31 = .ok (.aload_n 0, 1) := by decide +kernel
theorem dX9_plan_32 : decode cX9_plan 32 = .ok (.getfield 202, 3) := by decide +kernel
theorem dX9_plan_35 : decode cX9_plan 35 = .ok (.iload_n 2, 1) := by decide +kernel
theorem dX9_plan_36 : decode cX9_plan 36 = .ok (.if_icmp .ge 110, 3) := by decide +kernel
theorem dX9_plan_39 : decode cX9_plan 39 = .ok (.iconst 0, 1) := by decide +kernel
theorem dX9_plan_40 : decode cX9_plan 40 = .ok (.istore_n 3, 1) := by decide +kernel
theorem dX9_plan_41 : decode cX9_plan 41 = .ok (.iconst 0, 1) := by decide +kernel
theorem dX9_plan_42 : decode cX9_plan 42 = .ok (.istore 4, 2) := by decide +kernel
theorem dX9_plan_44 : decode cX9_plan 44 = .ok (.iload 4, 2) := by decide +kernel
theorem dX9_plan_46 : decode cX9_plan 46 = .ok (.aload_n 0, 1) := by decide +kernel
theorem dX9_plan_47 : decode cX9_plan 47 = .ok (.getfield 159, 3) := by decide +kernel
theorem dX9_plan_50 : decode cX9_plan 50 = .ok (.if_icmp .ge 39, 3) := by decide +kernel
theorem dX9_plan_53 : decode cX9_plan 53 = .ok (.iload_n 3, 1) := by decide +kernel
theorem dX9_plan_54 : decode cX9_plan 54 = .ok (.ifCond .ne 35, 3) := by decide +kernel
theorem dX9_plan_57 : decode cX9_plan 57 = .ok (.iload_n 1, 1) := by decide +kernel
theorem dX9_plan_58 : decode cX9_plan 58 = .ok (.iload 4, 2) := by decide +kernel
theorem dX9_plan_60 : decode cX9_plan 60 = .ok (.ishr, 1) := by decide +kernel
theorem dX9_plan_61 : decode cX9_plan 61 = .ok (.iconst 1, 1) := by decide +kernel
theorem dX9_plan_62 : decode cX9_plan 62 = .ok (.iand, 1) := by decide +kernel
theorem dX9_plan_63 : decode cX9_plan 63 = .ok (.iconst 1, 1) := by decide +kernel
theorem dX9_plan_64 : decode cX9_plan 64 = .ok (.if_icmp .ne 17, 3) := by decide +kernel
theorem dX9_plan_67 : decode cX9_plan 67 = .ok (.aload_n 0, 1) := by decide +kernel
theorem dX9_plan_68 : decode cX9_plan 68 = .ok (.iload 4, 2) := by decide +kernel
theorem dX9_plan_70 : decode cX9_plan 70 = .ok (.iload_n 1, 1) := by decide +kernel
theorem dX9_plan_71 : decode cX9_plan 71 = .ok (.invokevirtual 198, 3) := by decide +kernel
theorem dX9_plan_74 : decode cX9_plan 74 = .ok (.ifCond .eq 7, 3) := by decide +kernel
theorem dX9_plan_77 : decode cX9_plan 77 = .ok (.iconst 1, 1) := by decide +kernel
theorem dX9_plan_78 : decode cX9_plan 78 = .ok (.goto 4, 3) := by decide +kernel
theorem dX9_plan_81 : decode cX9_plan 81 = .ok (.iconst 0, 1) := by decide +kernel
theorem dX9_plan_82 : decode cX9_plan 82 = .ok (.istore_n 3, 1) := by decide +kernel
theorem dX9_plan_83 : decode cX9_plan 83 = .ok (.iinc 4 1, 3) := by decide +kernel
theorem dX9_plan_86 : decode cX9_plan 86 = .ok (.goto (-42), 3) := by decide +kernel
theorem dX9_plan_89 : decode cX9_plan 89 = .ok (.iload_n 3, 1) := by decide +kernel
theorem dX9_plan_90 : decode cX9_plan 90 = .ok (.ifCond .eq (-63), 3) := by decide +kernel
theorem dX9_plan_93 : decode cX9_plan 93 = .ok (.aload_n 0, 1) := by decide +kernel
theorem dX9_plan_94 : decode cX9_plan 94 = .ok (.getfield 80, 3) := by decide +kernel
theorem dX9_plan_97 : decode cX9_plan 97 = .ok (.aload_n 0, 1) := by decide +kernel
theorem dX9_plan_98 : decode cX9_plan 98 = .ok (.getfield 202, 3) := by decide +kernel
theorem dX9_plan_101 : decode cX9_plan 101 = .ok (.aload_n 0, 1) := by decide +kernel
theorem dX9_plan_102 : decode cX9_plan 102 = .ok (.getfield 185, 3) := by decide +kernel
theorem dX9_plan_105 : decode cX9_plan 105 = .ok (.iastore, 1) := by decide +kernel
theorem dX9_plan_106 : decode cX9_plan 106 = .ok (.aload_n 0, 1) := by decide +kernel
theorem dX9_plan_107 : decode cX9_plan 107 = .ok (.getfield 83, 3) := by decide +kernel
theorem dX9_plan_110 : decode cX9_plan 110 = .ok (.aload_n 0, 1) := by decide +kernel
theorem dX9_plan_111 : decode cX9_plan 111 = .ok (.getfield 202, 3) := by decide +kernel
theorem dX9_plan_114 : decode cX9_plan 114 = .ok (.aload_n 0, 1) := by decide +kernel
theorem dX9_plan_115 : decode cX9_plan 115 = .ok (.getfield 192, 3) := by decide +kernel
theorem dX9_plan_118 : decode cX9_plan 118 = .ok (.iastore, 1) := by decide +kernel
theorem dX9_plan_119 : decode cX9_plan 119 = .ok (.aload_n 0, 1) := by decide +kernel
theorem dX9_plan_120 : decode cX9_plan 120 = .ok (.dup, 1) := by decide +kernel
theorem dX9_plan_121 : decode cX9_plan 121 = .ok (.getfield 202, 3) := by decide +kernel
theorem dX9_plan_124 : decode cX9_plan 124 = .ok (.iconst 1, 1) := by decide +kernel
theorem dX9_plan_125 : decode cX9_plan 125 = .ok (.iadd, 1) := by decide +kernel
theorem dX9_plan_126 : decode cX9_plan 126 = .ok (.putfield 202, 3) := by decide +kernel
theorem dX9_plan_129 : decode cX9_plan 129 = .ok (.iload_n 1, 1) := by decide +kernel
theorem dX9_plan_130 : decode cX9_plan 130 = .ok (.aload_n 0, 1) := by decide +kernel
theorem dX9_plan_131 : decode cX9_plan 131 = .ok (.getfield 185, 3) := by decide +kernel
theorem dX9_plan_134 : decode cX9_plan 134 = .ok (.aload_n 0, 1) := by decide +kernel
theorem dX9_plan_135 : decode cX9_plan 135 = .ok (.getfield 192, 3) := by decide +kernel
theorem dX9_plan_138 : decode cX9_plan 138 = .ok (.ior, 1) := by decide +kernel
theorem dX9_plan_139 : decode cX9_plan 139 = .ok (.iconst (-1), 1) := by decide +kernel
theorem dX9_plan_140 : decode cX9_plan 140 = .ok (.ixor, 1) := by decide +kernel
theorem dX9_plan_141 : decode cX9_plan 141 = .ok (.iand, 1) := by decide +kernel
theorem dX9_plan_142 : decode cX9_plan 142 = .ok (.istore_n 1, 1) := by decide +kernel
theorem dX9_plan_143 : decode cX9_plan 143 = .ok (.goto (-116), 3) := by decide +kernel
theorem dX9_plan_146 : decode cX9_plan 146 = .ok (.return_, 1) := by decide +kernel
set_option maxRecDepth 20000 in
theorem ggX9_tick_X9_plan : GoodIn wsX9_tick wsX9_plan := goodIn_r _ [15, 1, 10, 4, 16, 6, 17, 18, 19, 20, 14, 21, 22, 23, 24, 25, 26, 27, 28, 29, 30, 31, 32, 33, 34, 35, 36, 37, 38, 39, 40, 41, 2, 42, 43, 44, 45, 46, 47, 48, 49, 50, 51, 52, 53, 9, 54, 55, 60, 61, 62, 63, 64, 65, 66, 67, 68, 69, 70, 71, 72, 73, 74, 75, 76, 77, 78, 79, 80, 81, 82, 83, 84, 85, 86, 87, 88, 89, 90, 91, 92] (by decide +kernel) (by decide +kernel)
set_option maxRecDepth 20000 in
theorem gX9_tick_X9_plan : GoodIn wsX9_tick (wsV RX9 209 RX9 yX9_plan wsX9_plan) := goodIn_app (goodIn_of _ (by decide +kernel)) ggX9_tick_X9_plan
set_option maxRecDepth 20000 in
theorem ggX9_tick_X9_playersOf : GoodIn wsX9_tick wsX9_playersOf := goodIn_r _ [28, 10, 29, 60, 61, 62, 63, 64, 65, 66, 67, 68, 69, 70, 71, 72, 73, 74, 75, 76, 77, 78, 79, 80, 81, 82, 83, 84, 85, 86, 87, 88, 89, 90, 91, 92] (by decide +kernel) (by decide +kernel)
set_option maxRecDepth 20000 in
theorem gX9_tick_X9_playersOf : GoodIn wsX9_tick (wsV RX9 182 RX9 yX9_playersOf wsX9_playersOf) := goodIn_app (goodIn_of _ (by decide +kernel)) ggX9_tick_X9_playersOf
set_option maxRecDepth 20000 in
theorem ggX9_tick_X9_takeOut : GoodIn wsX9_tick wsX9_takeOut := goodIn_r _ [59, 10, 29, 54, 60, 61, 62, 63, 64, 65, 66, 67, 68, 69, 70, 71, 72, 73, 74, 75, 76, 77, 78, 79, 80, 81, 82, 83, 84, 85, 86, 87, 88, 89, 90, 91, 92] (by decide +kernel) (by decide +kernel)
set_option maxRecDepth 20000 in
theorem gX9_tick_X9_takeOut : GoodIn wsX9_tick (wsV RX9 175 RX9 yX9_takeOut wsX9_takeOut) := goodIn_app (goodIn_of _ (by decide +kernel)) ggX9_tick_X9_takeOut
theorem dX9_tick_0 : decode cX9_tick 0 = .ok (.aload_n 0, 1) := by decide +kernel
theorem dX9_tick_1 : decode cX9_tick 1 = .ok (.invokevirtual 209, 3) := by decide +kernel
theorem dX9_tick_4 : decode cX9_tick 4 = .ok (.iconst 0, 1) := by decide +kernel
theorem dX9_tick_5 : decode cX9_tick 5 = .ok (.istore_n 1, 1) := by decide +kernel
theorem dX9_tick_6 : decode cX9_tick 6 = .ok (.iconst 0, 1) := by decide +kernel
theorem dX9_tick_7 : decode cX9_tick 7 = .ok (.istore_n 2, 1) := by decide +kernel
theorem dX9_tick_8 : decode cX9_tick 8 = .ok (.iload_n 2, 1) := by decide +kernel
theorem dX9_tick_9 : decode cX9_tick 9 = .ok (.aload_n 0, 1) := by decide +kernel
theorem dX9_tick_10 : decode cX9_tick 10 = .ok (.getfield 202, 3) := by decide +kernel
theorem dX9_tick_13 : decode cX9_tick 13 = .ok (.if_icmp .ge 98, 3) := by decide +kernel
theorem dX9_tick_16 : decode cX9_tick 16 = .ok (.iconst 0, 1) := by decide +kernel
theorem dX9_tick_17 : decode cX9_tick 17 = .ok (.istore_n 3, 1) := by decide +kernel
theorem dX9_tick_18 : decode cX9_tick 18 = .ok (.aload_n 0, 1) := by decide +kernel
theorem dX9_tick_19 : decode cX9_tick 19 = .ok (.getfield 48, 3) := by decide +kernel
theorem dX9_tick_22 : decode cX9_tick 22 = .ok (.iload_n 3, 1) := by decide +kernel
theorem dX9_tick_23 : decode cX9_tick 23 = .ok (.baload, 1) := by decide +kernel
theorem dX9_tick_24 : decode cX9_tick 24 = .ok (.ifCond .eq 9, 3) := by decide +kernel
theorem dX9_tick_27 : decode cX9_tick 27 = .ok (.iinc 3 1, 3) := by decide +kernel
theorem dX9_tick_30 : decode cX9_tick 30 = .ok (.goto (-12), 3) := by decide +kernel
theorem dX9_tick_33 : decode cX9_tick 33 = .ok (.aload_n 0, 1) := by decide +kernel
theorem dX9_tick_34 : decode cX9_tick 34 = .ok (.getfield 48, 3) := by decide +kernel
theorem dX9_tick_37 : decode cX9_tick 37 = .ok (.iload_n 3, 1) := by decide +kernel
theorem dX9_tick_38 : decode cX9_tick 38 = .ok (.iconst 1, 1) := by decide +kernel
theorem dX9_tick_39 : decode cX9_tick 39 = .ok (.bastore, 1) := by decide +kernel
theorem dX9_tick_40 : decode cX9_tick 40 = .ok (.aload_n 0, 1) := by decide +kernel
theorem dX9_tick_41 : decode cX9_tick 41 = .ok (.getfield 52, 3) := by decide +kernel
theorem dX9_tick_44 : decode cX9_tick 44 = .ok (.iload_n 3, 1) := by decide +kernel
theorem dX9_tick_45 : decode cX9_tick 45 = .ok (.aload_n 0, 1) := by decide +kernel
theorem dX9_tick_46 : decode cX9_tick 46 = .ok (.aload_n 0, 1) := by decide +kernel
theorem dX9_tick_47 : decode cX9_tick 47 = .ok (.getfield 80, 3) := by decide +kernel
theorem dX9_tick_50 : decode cX9_tick 50 = .ok (.iload_n 2, 1) := by decide +kernel
theorem dX9_tick_51 : decode cX9_tick 51 = .ok (.iaload, 1) := by decide +kernel
theorem dX9_tick_52 : decode cX9_tick 52 = .ok (.invokevirtual 182, 3) := by decide +kernel
theorem dX9_tick_55 : decode cX9_tick 55 = .ok (.iastore, 1) := by decide +kernel
theorem dX9_tick_56 : decode cX9_tick 56 = .ok (.aload_n 0, 1) := by decide +kernel
theorem dX9_tick_57 : decode cX9_tick 57 = .ok (.getfield 55, 3) := by decide +kernel
theorem dX9_tick_60 : decode cX9_tick 60 = .ok (.iload_n 3, 1) := by decide +kernel
theorem dX9_tick_61 : decode cX9_tick 61 = .ok (.aload_n 0, 1) := by decide +kernel
theorem dX9_tick_62 : decode cX9_tick 62 = .ok (.aload_n 0, 1) := by decide +kernel
theorem dX9_tick_63 : decode cX9_tick 63 = .ok (.getfield 83, 3) := by decide +kernel
theorem dX9_tick_66 : decode cX9_tick 66 = .ok (.iload_n 2, 1) := by decide +kernel
theorem dX9_tick_67 : decode cX9_tick 67 = .ok (.iaload, 1) := by decide +kernel
theorem dX9_tick_68 : decode cX9_tick 68 = .ok (.invokevirtual 182, 3) := by decide +kernel
theorem dX9_tick_71 : decode cX9_tick 71 = .ok (.iastore, 1) := by decide +kernel
theorem dX9_tick_72 : decode cX9_tick 72 = .ok (.aload_n 0, 1) := by decide +kernel
theorem dX9_tick_73 : decode cX9_tick 73 = .ok (.getfield 58, 3) := by decide +kernel
theorem dX9_tick_76 : decode cX9_tick 76 = .ok (.iload_n 3, 1) := by decide +kernel
theorem dX9_tick_77 : decode cX9_tick 77 = .ok (.iconst 0, 1) := by decide +kernel
theorem dX9_tick_78 : decode cX9_tick 78 = .ok (.iastore, 1) := by decide +kernel
theorem dX9_tick_79 : decode cX9_tick 79 = .ok (.aload_n 0, 1) := by decide +kernel
theorem dX9_tick_80 : decode cX9_tick 80 = .ok (.getfield 61, 3) := by decide +kernel
theorem dX9_tick_83 : decode cX9_tick 83 = .ok (.iload_n 3, 1) := by decide +kernel
theorem dX9_tick_84 : decode cX9_tick 84 = .ok (.aload_n 0, 1) := by decide +kernel
theorem dX9_tick_85 : decode cX9_tick 85 = .ok (.getfield 89, 3) := by decide +kernel
theorem dX9_tick_88 : decode cX9_tick 88 = .ok (.iastore, 1) := by decide +kernel
theorem dX9_tick_89 : decode cX9_tick 89 = .ok (.iload_n 1, 1) := by decide +kernel
theorem dX9_tick_90 : decode cX9_tick 90 = .ok (.aload_n 0, 1) := by decide +kernel
theorem dX9_tick_91 : decode cX9_tick 91 = .ok (.getfield 80, 3) := by decide +kernel
theorem dX9_tick_94 : decode cX9_tick 94 = .ok (.iload_n 2, 1) := by decide +kernel
theorem dX9_tick_95 : decode cX9_tick 95 = .ok (.iaload, 1) := by decide +kernel
theorem dX9_tick_96 : decode cX9_tick 96 = .ok (.aload_n 0, 1) := by decide +kernel
theorem dX9_tick_97 : decode cX9_tick 97 = .ok (.getfield 83, 3) := by decide +kernel
theorem dX9_tick_100 : decode cX9_tick 100 = .ok (.iload_n 2, 1) := by decide +kernel
theorem dX9_tick_101 : decode cX9_tick 101 = .ok (.iaload, 1) := by decide +kernel
theorem dX9_tick_102 : decode cX9_tick 102 = .ok (.ior, 1) := by decide +kernel
theorem dX9_tick_103 : decode cX9_tick 103 = .ok (.ior, 1) := by decide +kernel
theorem dX9_tick_104 : decode cX9_tick 104 = .ok (.istore_n 1, 1) := by decide +kernel
theorem dX9_tick_105 : decode cX9_tick 105 = .ok (.iinc 2 1, 3) := by decide +kernel
theorem dX9_tick_108 : decode cX9_tick 108 = .ok (.goto (-100), 3) := by decide +kernel
theorem dX9_tick_111 : decode cX9_tick 111 = .ok (.aload_n 0, 1) := by decide +kernel
theorem dX9_tick_112 : decode cX9_tick 112 = .ok (.getfield 159, 3) := by decide +kernel
theorem dX9_tick_115 : decode cX9_tick 115 = .ok (.iconst 1, 1) := by decide +kernel
theorem dX9_tick_116 : decode cX9_tick 116 = .ok (.isub, 1) := by decide +kernel
theorem dX9_tick_117 : decode cX9_tick 117 = .ok (.istore_n 2, 1) := by decide +kernel
theorem dX9_tick_118 : decode cX9_tick 118 = .ok (.iload_n 2, 1) := by decide +kernel
theorem dX9_tick_119 : decode cX9_tick 119 = .ok (.ifCond .lt 23, 3) := by decide +kernel
theorem dX9_tick_122 : decode cX9_tick 122 = .ok (.iload_n 1, 1) := by decide +kernel
theorem dX9_tick_123 : decode cX9_tick 123 = .ok (.iload_n 2, 1) := by decide +kernel
theorem dX9_tick_124 : decode cX9_tick 124 = .ok (.ishr, 1) := by decide +kernel
theorem dX9_tick_125 : decode cX9_tick 125 = .ok (.iconst 1, 1) := by decide +kernel
theorem dX9_tick_126 : decode cX9_tick 126 = .ok (.iand, 1) := by decide +kernel
theorem dX9_tick_127 : decode cX9_tick 127 = .ok (.iconst 1, 1) := by decide +kernel
theorem dX9_tick_128 : decode cX9_tick 128 = .ok (.if_icmp .ne 8, 3) := by decide +kernel
theorem dX9_tick_131 : decode cX9_tick 131 = .ok (.aload_n 0, 1) := by decide +kernel
theorem dX9_tick_132 : decode cX9_tick 132 = .ok (.iload_n 2, 1) := by decide +kernel
theorem dX9_tick_133 : decode cX9_tick 133 = .ok (.invokevirtual 175, 3) := by decide +kernel
theorem dX9_tick_136 : decode cX9_tick 136 = .ok (.iinc 2 (-1), 3) := by decide +kernel
theorem dX9_tick_139 : decode cX9_tick 139 = .ok (.goto (-21), 3) := by decide +kernel
theorem dX9_tick_142 : decode cX9_tick 142 = .ok (.aload_n 0, 1) := by decide +kernel
theorem dX9_tick_143 : decode cX9_tick 143 = .ok (.dup, 1) := by decide +kernel
theorem dX9_tick_144 : decode cX9_tick 144 = .ok (.getfield 89, 3) := by decide +kernel
theorem dX9_tick_147 : decode cX9_tick 147 = .ok (.iconst 1, 1) := by decide +kernel
theorem dX9_tick_148 : decode cX9_tick 148 = .ok (.iadd, 1) := by decide +kernel
theorem dX9_tick_149 : decode cX9_tick 149 = .ok (.putfield 89, 3) := by decide +kernel
theorem dX9_tick_152 : decode cX9_tick 152 = .ok (.aload_n 0, 1) := by decide +kernel
theorem dX9_tick_153 : decode cX9_tick 153 = .ok (.getfield 202, 3) := by decide +kernel
theorem dX9_tick_156 : decode cX9_tick 156 = .ok (.i2l, 1) := by decide +kernel
theorem dX9_tick_157 : decode cX9_tick 157 = .ok (.lreturn, 1) := by decide +kernel
set_option maxRecDepth 20000 in
theorem ggX9_isPlaceOfMatch_X9_in : GoodIn wsX9_isPlaceOfMatch wsX9_in := goodIn_r _ [5] (by decide +kernel) (by decide +kernel)
set_option maxRecDepth 20000 in
theorem gX9_isPlaceOfMatch_X9_in : GoodIn wsX9_isPlaceOfMatch (va_wsS RX9 97 yX9_in wsX9_in) := goodIn_app (goodIn_of _ (by decide +kernel)) ggX9_isPlaceOfMatch_X9_in
theorem dX9_isPlaceOfMatch_0 : decode cX9_isPlaceOfMatch 0 = .ok (.iload_n 0, 1) := by decide +kernel
theorem dX9_isPlaceOfMatch_1 : decode cX9_isPlaceOfMatch 1 = .ok (.i2l, 1) := by decide +kernel
theorem dX9_isPlaceOfMatch_2 : decode cX9_isPlaceOfMatch 2 = .ok (.lconst 0, 1) := by decide +kernel
theorem dX9_isPlaceOfMatch_3 : decode cX9_isPlaceOfMatch 3 = .ok (.ldc2_w 212, 3) := by decide +kernel
theorem dX9_isPlaceOfMatch_6 : decode cX9_isPlaceOfMatch 6 = .ok (.invokestatic 97, 3) := by decide +kernel
theorem dX9_isPlaceOfMatch_9 : decode cX9_isPlaceOfMatch 9 = .ok (.ireturn, 1) := by decide +kernel
set_option maxRecDepth 20000 in
theorem ggX9_match_X9_isPlaceOfMatch : GoodIn wsX9_match wsX9_isPlaceOfMatch := goodIn_r _ [12, 1, 13, 14, 11, 15] (by decide +kernel) (by decide +kernel)
set_option maxRecDepth 20000 in
theorem gX9_match_X9_isPlaceOfMatch : GoodIn wsX9_match (va_wsS RX9 214 yX9_isPlaceOfMatch wsX9_isPlaceOfMatch) := goodIn_app (goodIn_of _ (by decide +kernel)) ggX9_match_X9_isPlaceOfMatch
set_option maxRecDepth 20000 in
theorem ggX9_match_X9_in : GoodIn wsX9_match wsX9_in := goodIn_r _ [15] (by decide +kernel) (by decide +kernel)
set_option maxRecDepth 20000 in
theorem gX9_match_X9_in : GoodIn wsX9_match (va_wsS RX9 97 yX9_in wsX9_in) := goodIn_app (goodIn_of _ (by decide +kernel)) ggX9_match_X9_in
set_option maxRecDepth 20000 in
theorem ggX9_match_X9_finding : GoodIn wsX9_match wsX9_finding := goodIn_r _ [19, 20, 21, 46, 47, 48, 49, 50, 51, 52, 53, 54, 55, 56, 57, 58, 59, 60, 61, 62, 63, 64, 65, 66, 67, 68, 69, 70, 71, 72, 73, 74, 75, 76, 77, 78] (by decide +kernel) (by decide +kernel)
set_option maxRecDepth 20000 in
theorem gX9_match_X9_finding : GoodIn wsX9_match (wsV RX9 111 RX9 yX9_finding wsX9_finding) := goodIn_app (goodIn_of _ (by decide +kernel)) ggX9_match_X9_finding
set_option maxRecDepth 20000 in
theorem ggX9_match_X9_layAside : GoodIn wsX9_match wsX9_layAside := goodIn_r _ [25, 26, 27, 46, 47, 48, 49, 50, 51, 52, 53, 54, 55, 56, 57, 58, 59, 60, 61, 62, 63, 64, 65, 66, 67, 68, 69, 70, 71, 72, 73, 74, 75, 76, 77, 78] (by decide +kernel) (by decide +kernel)
set_option maxRecDepth 20000 in
theorem gX9_match_X9_layAside : GoodIn wsX9_match (wsV RX9 148 RX9 yX9_layAside wsX9_layAside) := goodIn_app (goodIn_of _ (by decide +kernel)) ggX9_match_X9_layAside
set_option maxRecDepth 20000 in
theorem ggX9_match_X9_teamChance : GoodIn wsX9_match wsX9_teamChance := goodIn_r _ [31, 32, 33, 34, 35, 11, 36, 26, 37, 38, 39, 40, 41, 42, 43, 44, 45, 46, 47, 48, 49, 50, 51, 52, 53, 54, 55, 56, 57, 58, 59, 60, 61, 62, 63, 64, 65, 66, 67, 68, 69, 70, 71, 72, 73, 74, 75, 76, 77, 78] (by decide +kernel) (by decide +kernel)
set_option maxRecDepth 20000 in
theorem gX9_match_X9_teamChance : GoodIn wsX9_match (wsV RX9 217 RX9 yX9_teamChance wsX9_teamChance) := goodIn_app (goodIn_of _ (by decide +kernel)) ggX9_match_X9_teamChance
theorem dX9_match_0 : decode cX9_match 0 = .ok (.iload_n 1, 1) := by decide +kernel
theorem dX9_match_1 : decode cX9_match 1 = .ok (.invokestatic 214, 3) := by decide +kernel
theorem dX9_match_4 : decode cX9_match 4 = .ok (.ifCond .eq 15, 3) := by decide +kernel
theorem dX9_match_7 : decode cX9_match 7 = .ok (.iload_n 2, 1) := by decide +kernel
theorem dX9_match_8 : decode cX9_match 8 = .ok (.i2l, 1) := by decide +kernel
theorem dX9_match_9 : decode cX9_match 9 = .ok (.lconst 0, 1) := by decide +kernel
theorem dX9_match_10 : decode cX9_match 10 = .ok (.ldc2_w 212, 3) := by decide +kernel
theorem dX9_match_13 : decode cX9_match 13 = .ok (.invokestatic 97, 3) := by decide +kernel
theorem dX9_match_16 : decode cX9_match 16 = .ok (.ifCond .ne 11, 3) := by decide +kernel
theorem dX9_match_19 : decode cX9_match 19 = .ok (.aload_n 0, 1) := by decide +kernel
theorem dX9_match_20 : decode cX9_match 20 = .ok (.ldc2_w 109, 3) := by decide +kernel
theorem dX9_match_23 : decode cX9_match 23 = .ok (.invokevirtual 111, 3) := by decide +kernel
theorem dX9_match_26 : decode cX9_match 26 = .ok (.lreturn, 1) := by decide +kernel
theorem dX9_match_27 : decode cX9_match 27 = .ok (.aload_n 0, 1) := by decide +kernel
theorem dX9_match_28 : decode cX9_match 28 = .ok (.getfield 48, 3) := by decide +kernel
theorem dX9_match_31 : decode cX9_match 31 = .ok (.iload_n 1, 1) := by decide +kernel
theorem dX9_match_32 : decode cX9_match 32 = .ok (.baload, 1) := by decide +kernel
theorem dX9_match_33 : decode cX9_match 33 = .ok (.ifCond .ne 11, 3) := by decide +kernel
theorem dX9_match_36 : decode cX9_match 36 = .ok (.aload_n 0, 1) := by decide +kernel
theorem dX9_match_37 : decode cX9_match 37 = .ok (.ldc2_w 173, 3) := by decide +kernel
theorem dX9_match_40 : decode cX9_match 40 = .ok (.invokevirtual 111, 3) := by decide +kernel
theorem dX9_match_43 : decode cX9_match 43 = .ok (.lreturn, 1) := by decide +kernel
theorem dX9_match_44 : decode cX9_match 44 = .ok (.iload_n 2, 1) := by decide +kernel
theorem dX9_match_45 : decode cX9_match 45 = .ok (.iconst 4, 1) := by decide +kernel
theorem dX9_match_46 : decode cX9_match 46 = .ok (.if_icmp .ne 24, 3) := by decide +kernel
theorem dX9_match_49 : decode cX9_match 49 = .ok (.aload_n 0, 1) := by decide +kernel
theorem dX9_match_50 : decode cX9_match 50 = .ok (.invokevirtual 148, 3) := by decide +kernel
theorem dX9_match_53 : decode cX9_match 53 = .ok (.aload_n 0, 1) := by decide +kernel
theorem dX9_match_54 : decode cX9_match 54 = .ok (.aload_n 0, 1) := by decide +kernel
theorem dX9_match_55 : decode cX9_match 55 = .ok (.getfield 52, 3) := by decide +kernel
theorem dX9_match_58 : decode cX9_match 58 = .ok (.iload_n 1, 1) := by decide +kernel
theorem dX9_match_59 : decode cX9_match 59 = .ok (.iaload, 1) := by decide +kernel
theorem dX9_match_60 : decode cX9_match 60 = .ok (.aload_n 0, 1) := by decide +kernel
theorem dX9_match_61 : decode cX9_match 61 = .ok (.getfield 55, 3) := by decide +kernel
theorem dX9_match_64 : decode cX9_match 64 = .ok (.iload_n 1, 1) := by decide +kernel
theorem dX9_match_65 : decode cX9_match 65 = .ok (.iaload, 1) := by decide +kernel
theorem dX9_match_66 : decode cX9_match 66 = .ok (.invokevirtual 217, 3) := by decide +kernel
theorem dX9_match_69 : decode cX9_match 69 = .ok (.lreturn, 1) := by decide +kernel
theorem dX9_match_70 : decode cX9_match 70 = .ok (.iload_n 2, 1) := by decide +kernel
theorem dX9_match_71 : decode cX9_match 71 = .ok (.ifCond .ne 13, 3) := by decide +kernel
theorem dX9_match_74 : decode cX9_match 74 = .ok (.aload_n 0, 1) := by decide +kernel
theorem dX9_match_75 : decode cX9_match 75 = .ok (.getfield 52, 3) := by decide +kernel
theorem dX9_match_78 : decode cX9_match 78 = .ok (.iload_n 1, 1) := by decide +kernel
theorem dX9_match_79 : decode cX9_match 79 = .ok (.iaload, 1) := by decide +kernel
theorem dX9_match_80 : decode cX9_match 80 = .ok (.i2l, 1) := by decide +kernel
theorem dX9_match_81 : decode cX9_match 81 = .ok (.goto 40, 3) := by decide +kernel
theorem dX9_match_84 : decode cX9_match 84 = .ok (.iload_n 2, 1) := by decide +kernel
theorem dX9_match_85 : decode cX9_match 85 = .ok (.iconst 1, 1) := by decide +kernel
theorem dX9_match_86 : decode cX9_match 86 = .ok (.if_icmp .ne 13, 3) := by decide +kernel
theorem dX9_match_89 : decode cX9_match 89 = .ok (.aload_n 0, 1) := by decide +kernel
theorem dX9_match_90 : decode cX9_match 90 = .ok (.getfield 55, 3) := by decide +kernel
theorem dX9_match_93 : decode cX9_match 93 = .ok (.iload_n 1, 1) := by decide +kernel
theorem dX9_match_94 : decode cX9_match 94 = .ok (.iaload, 1) := by decide +kernel
theorem dX9_match_95 : decode cX9_match 95 = .ok (.i2l, 1) := by decide +kernel
theorem dX9_match_96 : decode cX9_match 96 = .ok (.goto 25, 3) := by decide +kernel
theorem dX9_match_99 : decode cX9_match 99 = .ok (.iload_n 2, 1) := by decide +kernel
theorem dX9_match_100 : decode cX9_match 100 = .ok (.iconst 2, 1) := by decide +kernel
theorem dX9_match_101 : decode cX9_match 101 = .ok (.if_icmp .ne 13, 3) := by decide +kernel
theorem dX9_match_104 : decode cX9_match 104 = .ok (.aload_n 0, 1) := by decide +kernel
theorem dX9_match_105 : decode cX9_match 105 = .ok (.getfield 58, 3) := by decide +kernel
theorem dX9_match_108 : decode cX9_match 108 = .ok (.iload_n 1, 1) := by decide +kernel
theorem dX9_match_109 : decode cX9_match 109 = .ok (.iaload, 1) := by decide +kernel
theorem dX9_match_110 : decode cX9_match 110 = .ok (.i2l, 1) := by decide +kernel
theorem dX9_match_111 : decode cX9_match 111 = .ok (.goto 10, 3) := by decide +kernel
theorem dX9_match_114 : decode cX9_match 114 = .ok (.aload_n 0, 1) := by decide +kernel
theorem dX9_match_115 : decode cX9_match 115 = .ok (.getfield 61, 3) := by decide +kernel
theorem dX9_match_118 : decode cX9_match 118 = .ok (.iload_n 1, 1) := by decide +kernel
theorem dX9_match_119 : decode cX9_match 119 = .ok (.iaload, 1) := by decide +kernel
theorem dX9_match_120 : decode cX9_match 120 = .ok (.i2l, 1) := by decide +kernel
theorem dX9_match_121 : decode cX9_match 121 = .ok (.lreturn, 1) := by decide +kernel
theorem dX9_undoubted_0 : decode cX9_undoubted 0 = .ok (.iconst 0, 1) := by decide +kernel
theorem dX9_undoubted_1 : decode cX9_undoubted 1 = .ok (.istore_n 2, 1) := by decide +kernel
theorem dX9_undoubted_2 : decode cX9_undoubted 2 = .ok (.iconst 0, 1) := by decide +kernel
theorem dX9_undoubted_3 : decode cX9_undoubted 3 = .ok (.istore_n 3, 1) := by decide +kernel
theorem dX9_undoubted_4 : decode cX9_undoubted 4 = .ok (.iload_n 3, 1) := by decide +kernel
theorem dX9_undoubted_5 : decode cX9_undoubted 5 = .ok (.aload_n 0, 1) := by decide +kernel
theorem dX9_undoubted_6 : decode cX9_undoubted 6 = .ok (.getfield 94, 3) := by decide +kernel
theorem dX9_undoubted_9 : decode cX9_undoubted 9 = .ok (.if_icmp .ge 38, 3) := by decide +kernel
theorem dX9_undoubted_12 : decode cX9_undoubted 12 = .ok (.iload_n 2, 1) := by decide +kernel
theorem dX9_undoubted_13 : decode cX9_undoubted 13 = .ok (.iload_n 1, 1) := by decide +kernel
theorem dX9_undoubted_14 : decode cX9_undoubted 14 = .ok (.iload_n 3, 1) := by decide +kernel
theorem dX9_undoubted_15 : decode cX9_undoubted 15 = .ok (.ishr, 1) := by decide +kernel
theorem dX9_undoubted_16 : decode cX9_undoubted 16 = .ok (.iconst 1, 1) := by decide +kernel
theorem dX9_undoubted_17 : decode cX9_undoubted 17 = .ok (.iand, 1) := by decide +kernel
theorem dX9_undoubted_18 : decode cX9_undoubted 18 = .ok (.iconst 1, 1) := by decide +kernel
theorem dX9_undoubted_19 : decode cX9_undoubted 19 = .ok (.if_icmp .ne 19, 3) := by decide +kernel
theorem dX9_undoubted_22 : decode cX9_undoubted 22 = .ok (.aload_n 0, 1) := by decide +kernel
theorem dX9_undoubted_23 : decode cX9_undoubted 23 = .ok (.getfield 13, 3) := by decide +kernel
theorem dX9_undoubted_26 : decode cX9_undoubted 26 = .ok (.iload_n 3, 1) := by decide +kernel
theorem dX9_undoubted_27 : decode cX9_undoubted 27 = .ok (.iaload, 1) := by decide +kernel
theorem dX9_undoubted_28 : decode cX9_undoubted 28 = .ok (.iconst 2, 1) := by decide +kernel
theorem dX9_undoubted_29 : decode cX9_undoubted 29 = .ok (.if_icmp .eq 9, 3) := by decide +kernel
theorem dX9_undoubted_32 : decode cX9_undoubted 32 = .ok (.iconst 1, 1) := by decide +kernel
theorem dX9_undoubted_33 : decode cX9_undoubted 33 = .ok (.iload_n 3, 1) := by decide +kernel
theorem dX9_undoubted_34 : decode cX9_undoubted 34 = .ok (.ishl, 1) := by decide +kernel
theorem dX9_undoubted_35 : decode cX9_undoubted 35 = .ok (.goto 4, 3) := by decide +kernel
theorem dX9_undoubted_38 : decode cX9_undoubted 38 = .ok (.iconst 0, 1) := by decide +kernel
theorem dX9_undoubted_39 : decode cX9_undoubted 39 = .ok (.ior, 1) := by decide +kernel
theorem dX9_undoubted_40 : decode cX9_undoubted 40 = .ok (.istore_n 2, 1) := by decide +kernel
theorem dX9_undoubted_41 : decode cX9_undoubted 41 = .ok (.iinc 3 1, 3) := by decide +kernel
theorem dX9_undoubted_44 : decode cX9_undoubted 44 = .ok (.goto (-40), 3) := by decide +kernel
theorem dX9_undoubted_47 : decode cX9_undoubted 47 = .ok (.iload_n 2, 1) := by decide +kernel
theorem dX9_undoubted_48 : decode cX9_undoubted 48 = .ok (.ireturn, 1) := by decide +kernel
theorem dX9_keepSurprise_0 : decode cX9_keepSurprise 0 = .ok (.aload_n 0, 1) := by decide +kernel
theorem dX9_keepSurprise_1 : decode cX9_keepSurprise 1 = .ok (.getfield 23, 3) := by decide +kernel
theorem dX9_keepSurprise_4 : decode cX9_keepSurprise 4 = .ok (.iload_n 1, 1) := by decide +kernel
theorem dX9_keepSurprise_5 : decode cX9_keepSurprise 5 = .ok (.iaload, 1) := by decide +kernel
theorem dX9_keepSurprise_6 : decode cX9_keepSurprise 6 = .ok (.bipush 8, 2) := by decide +kernel
theorem dX9_keepSurprise_8 : decode cX9_keepSurprise 8 = .ok (.if_icmp .ne 55, 3) := by decide +kernel
theorem dX9_keepSurprise_11 : decode cX9_keepSurprise 11 = .ok (.iconst 1, 1) := by decide +kernel
theorem dX9_keepSurprise_12 : decode cX9_keepSurprise 12 = .ok (.istore 4, 2) := by decide +kernel
theorem dX9_keepSurprise_14 : decode cX9_keepSurprise 14 = .ok (.iload 4, 2) := by decide +kernel
theorem dX9_keepSurprise_16 : decode cX9_keepSurprise 16 = .ok (.bipush 8, 2) := by decide +kernel
theorem dX9_keepSurprise_18 : decode cX9_keepSurprise 18 = .ok (.if_icmp .ge 35, 3) := by decide +kernel
theorem dX9_keepSurprise_21 : decode cX9_keepSurprise 21 = .ok (.aload_n 0, 1) := by decide +kernel
theorem dX9_keepSurprise_22 : decode cX9_keepSurprise 22 = .ok (.getfield 20, 3) := by decide +kernel
theorem dX9_keepSurprise_25 : decode cX9_keepSurprise 25 = .ok (.bipush 8, 2) := by decide +kernel
theorem dX9_keepSurprise_27 : decode cX9_keepSurprise 27 = .ok (.iload_n 1, 1) := by decide +kernel
theorem dX9_keepSurprise_28 : decode cX9_keepSurprise 28 = .ok (.imul, 1) := by decide +kernel
theorem dX9_keepSurprise_29 : decode cX9_keepSurprise 29 = .ok (.iload 4, 2) := by decide +kernel
theorem dX9_keepSurprise_31 : decode cX9_keepSurprise 31 = .ok (.iadd, 1) := by decide +kernel
theorem dX9_keepSurprise_32 : decode cX9_keepSurprise 32 = .ok (.iconst 1, 1) := by decide +kernel
theorem dX9_keepSurprise_33 : decode cX9_keepSurprise 33 = .ok (.isub, 1) := by decide +kernel
theorem dX9_keepSurprise_34 : decode cX9_keepSurprise 34 = .ok (.aload_n 0, 1) := by decide +kernel
theorem dX9_keepSurprise_35 : decode cX9_keepSurprise 35 = .ok (.getfield 20, 3) := by decide +kernel
theorem dX9_keepSurprise_38 : decode cX9_keepSurprise 38 = .ok (.bipush 8, 2) := by decide +kernel
theorem dX9_keepSurprise_40 : decode cX9_keepSurprise 40 = .ok (.iload_n 1, 1) := by decide +kernel
theorem dX9_keepSurprise_41 : decode cX9_keepSurprise 41 = .ok (.imul, 1) := by decide +kernel
theorem dX9_keepSurprise_42 : decode cX9_keepSurprise 42 = .ok (.iload 4, 2) := by decide +kernel
theorem dX9_keepSurprise_44 : decode cX9_keepSurprise 44 = .ok (.iadd, 1) := by decide +kernel
theorem dX9_keepSurprise_45 : decode cX9_keepSurprise 45 = .ok (.laload, 1) := by decide +kernel
theorem dX9_keepSurprise_46 : decode cX9_keepSurprise 46 = .ok (.lastore, 1) := by decide +kernel
theorem dX9_keepSurprise_47 : decode cX9_keepSurprise 47 = .ok (.iinc 4 1, 3) := by decide +kernel
theorem dX9_keepSurprise_50 : decode cX9_keepSurprise 50 = .ok (.goto (-36), 3) := by decide +kernel
theorem dX9_keepSurprise_53 : decode cX9_keepSurprise 53 = .ok (.aload_n 0, 1) := by decide +kernel
theorem dX9_keepSurprise_54 : decode cX9_keepSurprise 54 = .ok (.getfield 23, 3) := by decide +kernel
theorem dX9_keepSurprise_57 : decode cX9_keepSurprise 57 = .ok (.iload_n 1, 1) := by decide +kernel
theorem dX9_keepSurprise_58 : decode cX9_keepSurprise 58 = .ok (.dup2, 1) := by decide +kernel
theorem dX9_keepSurprise_59 : decode cX9_keepSurprise 59 = .ok (.iaload, 1) := by decide +kernel
theorem dX9_keepSurprise_60 : decode cX9_keepSurprise 60 = .ok (.iconst 1, 1) := by decide +kernel
theorem dX9_keepSurprise_61 : decode cX9_keepSurprise 61 = .ok (.isub, 1) := by decide +kernel
theorem dX9_keepSurprise_62 : decode cX9_keepSurprise 62 = .ok (.iastore, 1) := by decide +kernel
theorem dX9_keepSurprise_63 : decode cX9_keepSurprise 63 = .ok (.aload_n 0, 1) := by decide +kernel
theorem dX9_keepSurprise_64 : decode cX9_keepSurprise 64 = .ok (.getfield 20, 3) := by decide +kernel
theorem dX9_keepSurprise_67 : decode cX9_keepSurprise 67 = .ok (.bipush 8, 2) := by decide +kernel
theorem dX9_keepSurprise_69 : decode cX9_keepSurprise 69 = .ok (.iload_n 1, 1) := by decide +kernel
theorem dX9_keepSurprise_70 : decode cX9_keepSurprise 70 = .ok (.imul, 1) := by decide +kernel
theorem dX9_keepSurprise_71 : decode cX9_keepSurprise 71 = .ok (.aload_n 0, 1) := by decide +kernel
theorem dX9_keepSurprise_72 : decode cX9_keepSurprise 72 = .ok (.getfield 23, 3) := by decide +kernel
theorem dX9_keepSurprise_75 : decode cX9_keepSurprise 75 = .ok (.iload_n 1, 1) := by decide +kernel
theorem dX9_keepSurprise_76 : decode cX9_keepSurprise 76 = .ok (.iaload, 1) := by decide +kernel
theorem dX9_keepSurprise_77 : decode cX9_keepSurprise 77 = .ok (.iadd, 1) := by decide +kernel
theorem dX9_keepSurprise_78 : decode cX9_keepSurprise 78 = .ok (.lload_n 2, 1) := by decide +kernel
theorem dX9_keepSurprise_79 : decode cX9_keepSurprise 79 = .ok (.lastore, 1) := by decide +kernel
theorem dX9_keepSurprise_80 : decode cX9_keepSurprise 80 = .ok (.aload_n 0, 1) := by decide +kernel
theorem dX9_keepSurprise_81 : decode cX9_keepSurprise 81 = .ok (.getfield 23, 3) := by decide +kernel
theorem dX9_keepSurprise_84 : decode cX9_keepSurprise 84 = .ok (.iload_n 1, 1) := by decide +kernel
theorem dX9_keepSurprise_85 : decode cX9_keepSurprise 85 = .ok (.dup2, 1) := by decide +kernel
theorem dX9_keepSurprise_86 : decode cX9_keepSurprise 86 = .ok (.iaload, 1) := by decide +kernel
theorem dX9_keepSurprise_87 : decode cX9_keepSurprise 87 = .ok (.iconst 1, 1) := by decide +kernel
theorem dX9_keepSurprise_88 : decode cX9_keepSurprise 88 = .ok (.iadd, 1) := by decide +kernel
theorem dX9_keepSurprise_89 : decode cX9_keepSurprise 89 = .ok (.iastore, 1) := by decide +kernel
theorem dX9_keepSurprise_90 : decode cX9_keepSurprise 90 = .ok (.return_, 1) := by decide +kernel
set_option maxRecDepth 20000 in
theorem ggX9_moveTable_X9_chanceAt : GoodIn wsX9_moveTable wsX9_chanceAt := goodIn_r _ [8, 9, 10, 11, 12, 13, 7, 14, 15, 16, 17, 18, 19, 20, 21, 22, 23, 24, 25, 26, 27, 28, 29, 30, 31, 32, 33, 34, 35, 36, 37, 38, 39, 40, 41, 42, 43, 44, 45, 46, 47] (by decide +kernel) (by decide +kernel)
set_option maxRecDepth 20000 in
theorem gX9_moveTable_X9_chanceAt : GoodIn wsX9_moveTable (wsV RX9 139 RX9 yX9_chanceAt wsX9_chanceAt) := goodIn_app (goodIn_of _ (by decide +kernel)) ggX9_moveTable_X9_chanceAt
theorem dX9_moveTable_0 : decode cX9_moveTable 0 = .ok (.lconst 0, 1) := by decide +kernel
theorem dX9_moveTable_1 : decode cX9_moveTable 1 = .ok (.lstore 4, 2) := by decide +kernel
theorem dX9_moveTable_3 : decode cX9_moveTable 3 = .ok (.iconst 0, 1) := by decide +kernel
theorem dX9_moveTable_4 : decode cX9_moveTable 4 = .ok (.istore 6, 2) := by decide +kernel
theorem dX9_moveTable_6 : decode cX9_moveTable 6 = .ok (.iload 6, 2) := by decide +kernel
theorem dX9_moveTable_8 : decode cX9_moveTable 8 = .ok (.bipush 7, 2) := by decide +kernel
theorem dX9_moveTable_10 : decode cX9_moveTable 10 = .ok (.if_icmp .ge 90, 3) := by decide +kernel
theorem dX9_moveTable_13 : decode cX9_moveTable 13 = .ok (.aload_n 0, 1) := by decide +kernel
theorem dX9_moveTable_14 : decode cX9_moveTable 14 = .ok (.iload 6, 2) := by decide +kernel
theorem dX9_moveTable_16 : decode cX9_moveTable 16 = .ok (.iload_n 3, 1) := by decide +kernel
theorem dX9_moveTable_17 : decode cX9_moveTable 17 = .ok (.invokevirtual 139, 3) := by decide +kernel
theorem dX9_moveTable_20 : decode cX9_moveTable 20 = .ok (.lstore 7, 2) := by decide +kernel
theorem dX9_moveTable_22 : decode cX9_moveTable 22 = .ok (.iload_n 2, 1) := by decide +kernel
theorem dX9_moveTable_23 : decode cX9_moveTable 23 = .ok (.iconst 2, 1) := by decide +kernel
theorem dX9_moveTable_24 : decode cX9_moveTable 24 = .ok (.if_icmp .ne 8, 3) := by decide +kernel
theorem dX9_moveTable_27 : decode cX9_moveTable 27 = .ok (.lload 7, 2) := by decide +kernel
theorem dX9_moveTable_29 : decode cX9_moveTable 29 = .ok (.goto 29, 3) := by decide +kernel
theorem dX9_moveTable_32 : decode cX9_moveTable 32 = .ok (.iload_n 2, 1) := by decide +kernel
theorem dX9_moveTable_33 : decode cX9_moveTable 33 = .ok (.ifCond .ne 12, 3) := by decide +kernel
theorem dX9_moveTable_36 : decode cX9_moveTable 36 = .ok (.ldc2_w 143, 3) := by decide +kernel
theorem dX9_moveTable_39 : decode cX9_moveTable 39 = .ok (.lload 7, 2) := by decide +kernel
theorem dX9_moveTable_41 : decode cX9_moveTable 41 = .ok (.lsub, 1) := by decide +kernel
theorem dX9_moveTable_42 : decode cX9_moveTable 42 = .ok (.goto 16, 3) := by decide +kernel
theorem dX9_moveTable_45 : decode cX9_moveTable 45 = .ok (.lload 7, 2) := by decide +kernel
theorem dX9_moveTable_47 : decode cX9_moveTable 47 = .ok (.ldc2_w 143, 3) := by decide +kernel
theorem dX9_moveTable_50 : decode cX9_moveTable 50 = .ok (.lload 7, 2) := by decide +kernel
theorem dX9_moveTable_52 : decode cX9_moveTable 52 = .ok (.lsub, 1) := by decide +kernel
theorem dX9_moveTable_53 : decode cX9_moveTable 53 = .ok (.lmul, 1) := by decide +kernel
theorem dX9_moveTable_54 : decode cX9_moveTable 54 = .ok (.ldc2_w 143, 3) := by decide +kernel
theorem dX9_moveTable_57 : decode cX9_moveTable 57 = .ok (.ldiv, 1) := by decide +kernel
theorem dX9_moveTable_58 : decode cX9_moveTable 58 = .ok (.lstore 9, 2) := by decide +kernel
theorem dX9_moveTable_60 : decode cX9_moveTable 60 = .ok (.aload_n 0, 1) := by decide +kernel
theorem dX9_moveTable_61 : decode cX9_moveTable 61 = .ok (.getfield 86, 3) := by decide +kernel
theorem dX9_moveTable_64 : decode cX9_moveTable 64 = .ok (.iload 6, 2) := by decide +kernel
theorem dX9_moveTable_66 : decode cX9_moveTable 66 = .ok (.aload_n 0, 1) := by decide +kernel
theorem dX9_moveTable_67 : decode cX9_moveTable 67 = .ok (.getfield 16, 3) := by decide +kernel
theorem dX9_moveTable_70 : decode cX9_moveTable 70 = .ok (.bipush 7, 2) := by decide +kernel
theorem dX9_moveTable_72 : decode cX9_moveTable 72 = .ok (.iload_n 1, 1) := by decide +kernel
theorem dX9_moveTable_73 : decode cX9_moveTable 73 = .ok (.imul, 1) := by decide +kernel
theorem dX9_moveTable_74 : decode cX9_moveTable 74 = .ok (.iload 6, 2) := by decide +kernel
theorem dX9_moveTable_76 : decode cX9_moveTable 76 = .ok (.iadd, 1) := by decide +kernel
theorem dX9_moveTable_77 : decode cX9_moveTable 77 = .ok (.laload, 1) := by decide +kernel
theorem dX9_moveTable_78 : decode cX9_moveTable 78 = .ok (.lload 9, 2) := by decide +kernel
theorem dX9_moveTable_80 : decode cX9_moveTable 80 = .ok (.lmul, 1) := by decide +kernel
theorem dX9_moveTable_81 : decode cX9_moveTable 81 = .ok (.lastore, 1) := by decide +kernel
theorem dX9_moveTable_82 : decode cX9_moveTable 82 = .ok (.lload 4, 2) := by decide +kernel
theorem dX9_moveTable_84 : decode cX9_moveTable 84 = .ok (.aload_n 0, 1) := by decide +kernel
theorem dX9_moveTable_85 : decode cX9_moveTable 85 = .ok (.getfield 86, 3) := by decide +kernel
theorem dX9_moveTable_88 : decode cX9_moveTable 88 = .ok (.iload 6, 2) := by decide +kernel
theorem dX9_moveTable_90 : decode cX9_moveTable 90 = .ok (.laload, 1) := by decide +kernel
theorem dX9_moveTable_91 : decode cX9_moveTable 91 = .ok (.ladd, 1) := by decide +kernel
theorem dX9_moveTable_92 : decode cX9_moveTable 92 = .ok (.lstore 4, 2) := by decide +kernel
theorem dX9_moveTable_94 : decode cX9_moveTable 94 = .ok (.iinc 6 1, 3) := by decide +kernel
theorem dX9_moveTable_97 : decode cX9_moveTable 97 = .ok (.goto (-91), 3) := by decide +kernel
theorem dX9_moveTable_100 : decode cX9_moveTable 100 = .ok (.lload 4, 2) := by decide +kernel
theorem dX9_moveTable_102 : decode cX9_moveTable 102 = .ok (.lconst 0, 1) := by decide +kernel
theorem dX9_moveTable_103 : decode cX9_moveTable 103 = .ok (.lcmp, 1) := by decide +kernel
theorem dX9_moveTable_104 : decode cX9_moveTable 104 = .ok (.ifCond .ne 4, 3) := by decide +kernel
theorem dX9_moveTable_107 : decode cX9_moveTable 107 = .ok (.return_, 1) := by decide +kernel
theorem dX9_moveTable_108 : decode cX9_moveTable 108 = .ok (.ldc2_w 143, 3) := by decide +kernel
theorem dX9_moveTable_111 : decode cX9_moveTable 111 = .ok (.lstore 6, 2) := by decide +kernel
theorem dX9_moveTable_113 : decode cX9_moveTable 113 = .ok (.iconst 0, 1) := by decide +kernel
theorem dX9_moveTable_114 : decode cX9_moveTable 114 = .ok (.istore 8, 2) := by decide +kernel
theorem dX9_moveTable_116 : decode cX9_moveTable 116 = .ok (.iconst 0, 1) := by decide +kernel
theorem dX9_moveTable_117 : decode cX9_moveTable 117 = .ok (.istore 9, 2) := by decide +kernel
theorem dX9_moveTable_119 : decode cX9_moveTable 119 = .ok (.iload 9, 2) := by decide +kernel
theorem dX9_moveTable_121 : decode cX9_moveTable 121 = .ok (.bipush 7, 2) := by decide +kernel
theorem dX9_moveTable_123 : decode cX9_moveTable 123 = .ok (.if_icmp .ge 73, 3) := by decide +kernel
theorem dX9_moveTable_126 : decode cX9_moveTable 126 = .ok (.aload_n 0, 1) := by decide +kernel
theorem dX9_moveTable_127 : decode cX9_moveTable 127 = .ok (.getfield 86, 3) := by decide +kernel
theorem dX9_moveTable_130 : decode cX9_moveTable 130 = .ok (.iload 9, 2) := by decide +kernel
theorem dX9_moveTable_132 : decode cX9_moveTable 132 = .ok (.laload, 1) := by decide +kernel
theorem dX9_moveTable_133 : decode cX9_moveTable 133 = .ok (.ldc2_w 143, 3) := by decide +kernel
theorem dX9_moveTable_136 : decode cX9_moveTable 136 = .ok (.lmul, 1) := by decide +kernel
theorem dX9_moveTable_137 : decode cX9_moveTable 137 = .ok (.lload 4, 2) := by decide +kernel
theorem dX9_moveTable_139 : decode cX9_moveTable 139 = .ok (.ldiv, 1) := by decide +kernel
theorem dX9_moveTable_140 : decode cX9_moveTable 140 = .ok (.lstore 10, 2) := by decide +kernel
theorem dX9_moveTable_142 : decode cX9_moveTable 142 = .ok (.aload_n 0, 1) := by decide +kernel
theorem dX9_moveTable_143 : decode cX9_moveTable 143 = .ok (.getfield 16, 3) := by decide +kernel
theorem dX9_moveTable_146 : decode cX9_moveTable 146 = .ok (.bipush 7, 2) := by decide +kernel
theorem dX9_moveTable_148 : decode cX9_moveTable 148 = .ok (.iload_n 1, 1) := by decide +kernel
theorem dX9_moveTable_149 : decode cX9_moveTable 149 = .ok (.imul, 1) := by decide +kernel
theorem dX9_moveTable_150 : decode cX9_moveTable 150 = .ok (.iload 9, 2) := by decide +kernel
theorem dX9_moveTable_152 : decode cX9_moveTable 152 = .ok (.iadd, 1) := by decide +kernel
theorem dX9_moveTable_153 : decode cX9_moveTable 153 = .ok (.lload 10, 2) := by decide +kernel
theorem dX9_moveTable_155 : decode cX9_moveTable 155 = .ok (.lastore, 1) := by decide +kernel
theorem dX9_moveTable_156 : decode cX9_moveTable 156 = .ok (.lload 6, 2) := by decide +kernel
theorem dX9_moveTable_158 : decode cX9_moveTable 158 = .ok (.lload 10, 2) := by decide +kernel
theorem dX9_moveTable_160 : decode cX9_moveTable 160 = .ok (.lsub, 1) := by decide +kernel
theorem dX9_moveTable_161 : decode cX9_moveTable 161 = .ok (.lstore 6, 2) := by decide +kernel
theorem dX9_moveTable_163 : decode cX9_moveTable 163 = .ok (.lload 10, 2) := by decide +kernel
theorem dX9_moveTable_165 : decode cX9_moveTable 165 = .ok (.aload_n 0, 1) := by decide +kernel
theorem dX9_moveTable_166 : decode cX9_moveTable 166 = .ok (.getfield 16, 3) := by decide +kernel
theorem dX9_moveTable_169 : decode cX9_moveTable 169 = .ok (.bipush 7, 2) := by decide +kernel
theorem dX9_moveTable_171 : decode cX9_moveTable 171 = .ok (.iload_n 1, 1) := by decide +kernel
theorem dX9_moveTable_172 : decode cX9_moveTable 172 = .ok (.imul, 1) := by decide +kernel
theorem dX9_moveTable_173 : decode cX9_moveTable 173 = .ok (.iload 8, 2) := by decide +kernel
theorem dX9_moveTable_175 : decode cX9_moveTable 175 = .ok (.iadd, 1) := by decide +kernel
theorem dX9_moveTable_176 : decode cX9_moveTable 176 = .ok (.laload, 1) := by decide +kernel
theorem dX9_moveTable_177 : decode cX9_moveTable 177 = .ok (.lcmp, 1) := by decide +kernel
theorem dX9_moveTable_178 : decode cX9_moveTable 178 = .ok (.ifCond .le 8, 3) := by decide +kernel
theorem dX9_moveTable_181 : decode cX9_moveTable 181 = .ok (.iload 9, 2) := by decide +kernel
theorem dX9_moveTable_183 : decode cX9_moveTable 183 = .ok (.goto 5, 3) := by decide +kernel
theorem dX9_moveTable_186 : decode cX9_moveTable 186 = .ok (.iload 8, 2) := by decide +kernel
theorem dX9_moveTable_188 : decode cX9_moveTable 188 = .ok (.istore 8, 2) := by decide +kernel
theorem dX9_moveTable_190 : decode cX9_moveTable 190 = .ok (.iinc 9 1, 3) := by decide +kernel
theorem dX9_moveTable_193 : decode cX9_moveTable 193 = .ok (.goto (-74), 3) := by decide +kernel
theorem dX9_moveTable_196 : decode cX9_moveTable 196 = .ok (.aload_n 0, 1) := by decide +kernel
theorem dX9_moveTable_197 : decode cX9_moveTable 197 = .ok (.getfield 16, 3) := by decide +kernel
theorem dX9_moveTable_200 : decode cX9_moveTable 200 = .ok (.bipush 7, 2) := by decide +kernel
theorem dX9_moveTable_202 : decode cX9_moveTable 202 = .ok (.iload_n 1, 1) := by decide +kernel
theorem dX9_moveTable_203 : decode cX9_moveTable 203 = .ok (.imul, 1) := by decide +kernel
theorem dX9_moveTable_204 : decode cX9_moveTable 204 = .ok (.iload 8, 2) := by decide +kernel
theorem dX9_moveTable_206 : decode cX9_moveTable 206 = .ok (.iadd, 1) := by decide +kernel
theorem dX9_moveTable_207 : decode cX9_moveTable 207 = .ok (.dup2, 1) := by decide +kernel
theorem dX9_moveTable_208 : decode cX9_moveTable 208 = .ok (.laload, 1) := by decide +kernel
theorem dX9_moveTable_209 : decode cX9_moveTable 209 = .ok (.lload 6, 2) := by decide +kernel
theorem dX9_moveTable_211 : decode cX9_moveTable 211 = .ok (.ladd, 1) := by decide +kernel
theorem dX9_moveTable_212 : decode cX9_moveTable 212 = .ok (.lastore, 1) := by decide +kernel
theorem dX9_moveTable_213 : decode cX9_moveTable 213 = .ok (.return_, 1) := by decide +kernel
set_option maxRecDepth 20000 in
theorem ggX9_takeResult_X9_undoubted : GoodIn wsX9_takeResult wsX9_undoubted := goodIn_r _ [7, 8, 2, 35, 36, 37, 38, 39, 40, 41, 42, 43, 44, 45, 46, 47, 48, 49, 50, 51, 52, 53, 54, 55, 56, 57, 58, 59, 60, 61, 62, 63, 64, 65, 66, 67] (by decide +kernel) (by decide +kernel)
set_option maxRecDepth 20000 in
theorem gX9_takeResult_X9_undoubted : GoodIn wsX9_takeResult (wsV RX9 220 RX9 yX9_undoubted wsX9_undoubted) := goodIn_app (goodIn_of _ (by decide +kernel)) ggX9_takeResult_X9_undoubted
set_option maxRecDepth 20000 in
theorem ggX9_takeResult_X9_chanceOf : GoodIn wsX9_takeResult wsX9_chanceOf := goodIn_r _ [12, 13, 14, 15, 16, 17, 6, 18, 8, 19, 20, 21, 22, 35, 36, 37, 38, 39, 40, 41, 42, 43, 44, 45, 46, 47, 48, 49, 50, 51, 52, 53, 54, 55, 56, 57, 58, 59, 60, 61, 62, 63, 64, 65, 66, 67] (by decide +kernel) (by decide +kernel)
set_option maxRecDepth 20000 in
theorem gX9_takeResult_X9_chanceOf : GoodIn wsX9_takeResult (wsV RX9 145 RX9 yX9_chanceOf wsX9_chanceOf) := goodIn_app (goodIn_of _ (by decide +kernel)) ggX9_takeResult_X9_chanceOf
set_option maxRecDepth 20000 in
theorem ggX9_takeResult_X9_keepSurprise : GoodIn wsX9_takeResult wsX9_keepSurprise := goodIn_r _ [26, 27, 28, 35, 36, 37, 38, 39, 40, 41, 42, 43, 44, 45, 46, 47, 48, 49, 50, 51, 52, 53, 54, 55, 56, 57, 58, 59, 60, 61, 62, 63, 64, 65, 66, 67] (by decide +kernel) (by decide +kernel)
set_option maxRecDepth 20000 in
theorem gX9_takeResult_X9_keepSurprise : GoodIn wsX9_takeResult (wsV RX9 225 RX9 yX9_keepSurprise wsX9_keepSurprise) := goodIn_app (goodIn_of _ (by decide +kernel)) ggX9_takeResult_X9_keepSurprise
set_option maxRecDepth 20000 in
theorem ggX9_takeResult_X9_moveTable : GoodIn wsX9_takeResult wsX9_moveTable := goodIn_r _ [32, 14, 33, 34, 15, 16, 17, 6, 18, 8, 13, 19, 20, 21, 22, 35, 36, 37, 38, 39, 40, 41, 42, 43, 44, 45, 46, 47, 48, 49, 50, 51, 52, 53, 54, 55, 56, 57, 58, 59, 60, 61, 62, 63, 64, 65, 66, 67] (by decide +kernel) (by decide +kernel)
set_option maxRecDepth 20000 in
theorem gX9_takeResult_X9_moveTable : GoodIn wsX9_takeResult (wsV RX9 229 RX9 yX9_moveTable wsX9_moveTable) := goodIn_app (goodIn_of _ (by decide +kernel)) ggX9_takeResult_X9_moveTable
theorem dX9_takeResult_0 : decode cX9_takeResult 0 = .ok (.aload_n 0, 1) := by decide +kernel
theorem dX9_takeResult_1 : decode cX9_takeResult 1 = .ok (.iload_n 3, 1) := by decide +kernel
theorem dX9_takeResult_2 : decode cX9_takeResult 2 = .ok (.invokevirtual 220, 3) := by decide +kernel
theorem dX9_takeResult_5 : decode cX9_takeResult 5 = .ok (.istore 4, 2) := by decide +kernel
theorem dX9_takeResult_7 : decode cX9_takeResult 7 = .ok (.iload 4, 2) := by decide +kernel
theorem dX9_takeResult_9 : decode cX9_takeResult 9 = .ok (.ifCond .ne 5, 3) := by decide +kernel
theorem dX9_takeResult_12 : decode cX9_takeResult 12 = .ok (.iconst 0, 1) := by decide +kernel
theorem dX9_takeResult_13 : decode cX9_takeResult 13 = .ok (.ireturn, 1) := by decide +kernel
theorem dX9_takeResult_14 : decode cX9_takeResult 14 = .ok (.aload_n 0, 1) := by decide +kernel
theorem dX9_takeResult_15 : decode cX9_takeResult 15 = .ok (.iload_n 1, 1) := by decide +kernel
theorem dX9_takeResult_16 : decode cX9_takeResult 16 = .ok (.ldc2_w 223, 3) := by decide +kernel
theorem dX9_takeResult_19 : decode cX9_takeResult 19 = .ok (.iload_n 2, 1) := by decide +kernel
theorem dX9_takeResult_20 : decode cX9_takeResult 20 = .ok (.i2l, 1) := by decide +kernel
theorem dX9_takeResult_21 : decode cX9_takeResult 21 = .ok (.lmul, 1) := by decide +kernel
theorem dX9_takeResult_22 : decode cX9_takeResult 22 = .ok (.aload_n 0, 1) := by decide +kernel
theorem dX9_takeResult_23 : decode cX9_takeResult 23 = .ok (.iload_n 1, 1) := by decide +kernel
theorem dX9_takeResult_24 : decode cX9_takeResult 24 = .ok (.iload 4, 2) := by decide +kernel
theorem dX9_takeResult_26 : decode cX9_takeResult 26 = .ok (.invokevirtual 145, 3) := by decide +kernel
theorem dX9_takeResult_29 : decode cX9_takeResult 29 = .ok (.lsub, 1) := by decide +kernel
theorem dX9_takeResult_30 : decode cX9_takeResult 30 = .ok (.invokevirtual 225, 3) := by decide +kernel
theorem dX9_takeResult_33 : decode cX9_takeResult 33 = .ok (.aload_n 0, 1) := by decide +kernel
theorem dX9_takeResult_34 : decode cX9_takeResult 34 = .ok (.iload_n 1, 1) := by decide +kernel
theorem dX9_takeResult_35 : decode cX9_takeResult 35 = .ok (.iload_n 2, 1) := by decide +kernel
theorem dX9_takeResult_36 : decode cX9_takeResult 36 = .ok (.iload 4, 2) := by decide +kernel
theorem dX9_takeResult_38 : decode cX9_takeResult 38 = .ok (.invokevirtual 229, 3) := by decide +kernel
theorem dX9_takeResult_41 : decode cX9_takeResult 41 = .ok (.aload_n 0, 1) := by decide +kernel
theorem dX9_takeResult_42 : decode cX9_takeResult 42 = .ok (.getfield 13, 3) := by decide +kernel
theorem dX9_takeResult_45 : decode cX9_takeResult 45 = .ok (.iload_n 1, 1) := by decide +kernel
theorem dX9_takeResult_46 : decode cX9_takeResult 46 = .ok (.iaload, 1) := by decide +kernel
theorem dX9_takeResult_47 : decode cX9_takeResult 47 = .ok (.iconst 1, 1) := by decide +kernel
theorem dX9_takeResult_48 : decode cX9_takeResult 48 = .ok (.if_icmp .ne 11, 3) := by decide +kernel
theorem dX9_takeResult_51 : decode cX9_takeResult 51 = .ok (.aload_n 0, 1) := by decide +kernel
theorem dX9_takeResult_52 : decode cX9_takeResult 52 = .ok (.iload_n 1, 1) := by decide +kernel
theorem dX9_takeResult_53 : decode cX9_takeResult 53 = .ok (.iload_n 2, 1) := by decide +kernel
theorem dX9_takeResult_54 : decode cX9_takeResult 54 = .ok (.iload 4, 2) := by decide +kernel
theorem dX9_takeResult_56 : decode cX9_takeResult 56 = .ok (.invokevirtual 229, 3) := by decide +kernel
theorem dX9_takeResult_59 : decode cX9_takeResult 59 = .ok (.iconst 1, 1) := by decide +kernel
theorem dX9_takeResult_60 : decode cX9_takeResult 60 = .ok (.ireturn, 1) := by decide +kernel
set_option maxRecDepth 20000 in
theorem ggX9_endMatch_X9_layAside : GoodIn wsX9_endMatch wsX9_layAside := goodIn_r _ [11, 12, 13, 48, 49, 50, 51, 52, 53, 54, 55, 56, 57, 58, 59, 60, 61, 62, 63, 64, 65, 66, 67, 68, 69, 70, 71, 72, 73, 74, 75, 76, 77, 78, 79, 80] (by decide +kernel) (by decide +kernel)
set_option maxRecDepth 20000 in
theorem gX9_endMatch_X9_layAside : GoodIn wsX9_endMatch (wsV RX9 148 RX9 yX9_layAside wsX9_layAside) := goodIn_app (goodIn_of _ (by decide +kernel)) ggX9_endMatch_X9_layAside
set_option maxRecDepth 20000 in
theorem ggX9_endMatch_X9_takeResult : GoodIn wsX9_endMatch wsX9_takeResult := goodIn_r _ [17, 18, 19, 20, 21, 22, 10, 23, 1, 24, 25, 26, 27, 12, 28, 29, 30, 31, 32, 33, 34, 35, 36, 37, 38, 39, 40, 41, 42, 43, 44, 45, 46, 47, 13, 48, 49, 50, 51, 52, 53, 54, 55, 56, 57, 58, 59, 60, 61, 62, 63, 64, 65, 66, 67, 68, 69, 70, 71, 72, 73, 74, 75, 76, 77, 78, 79, 80] (by decide +kernel) (by decide +kernel)
set_option maxRecDepth 20000 in
theorem gX9_endMatch_X9_takeResult : GoodIn wsX9_endMatch (wsV RX9 233 RX9 yX9_takeResult wsX9_takeResult) := goodIn_app (goodIn_of _ (by decide +kernel)) ggX9_endMatch_X9_takeResult
theorem dX9_endMatch_0 : decode cX9_endMatch 0 = .ok (.aload_n 0, 1) := by decide +kernel
theorem dX9_endMatch_1 : decode cX9_endMatch 1 = .ok (.invokevirtual 148, 3) := by decide +kernel
theorem dX9_endMatch_4 : decode cX9_endMatch 4 = .ok (.iconst 0, 1) := by decide +kernel
theorem dX9_endMatch_5 : decode cX9_endMatch 5 = .ok (.istore_n 3, 1) := by decide +kernel
theorem dX9_endMatch_6 : decode cX9_endMatch 6 = .ok (.iconst 0, 1) := by decide +kernel
theorem dX9_endMatch_7 : decode cX9_endMatch 7 = .ok (.istore 4, 2) := by decide +kernel
theorem dX9_endMatch_9 : decode cX9_endMatch 9 = .ok (.iload 4, 2) := by decide +kernel
theorem dX9_endMatch_11 : decode cX9_endMatch 11 = .ok (.aload_n 0, 1) := by decide +kernel
theorem dX9_endMatch_12 : decode cX9_endMatch 12 = .ok (.getfield 94, 3) := by decide +kernel
theorem dX9_endMatch_15 : decode cX9_endMatch 15 = .ok (.if_icmp .ge 126, 3) := by decide +kernel
theorem dX9_endMatch_18 : decode cX9_endMatch 18 = .ok (.aload_n 0, 1) := by decide +kernel
theorem dX9_endMatch_19 : decode cX9_endMatch 19 = .ok (.getfield 52, 3) := by decide +kernel
theorem dX9_endMatch_22 : decode cX9_endMatch 22 = .ok (.iload_n 1, 1) := by decide +kernel
theorem dX9_endMatch_23 : decode cX9_endMatch 23 = .ok (.iaload, 1) := by decide +kernel
theorem dX9_endMatch_24 : decode cX9_endMatch 24 = .ok (.iload 4, 2) := by decide +kernel
theorem dX9_endMatch_26 : decode cX9_endMatch 26 = .ok (.ishr, 1) := by decide +kernel
theorem dX9_endMatch_27 : decode cX9_endMatch 27 = .ok (.iconst 1, 1) := by decide +kernel
theorem dX9_endMatch_28 : decode cX9_endMatch 28 = .ok (.iand, 1) := by decide +kernel
theorem dX9_endMatch_29 : decode cX9_endMatch 29 = .ok (.iconst 1, 1) := by decide +kernel
theorem dX9_endMatch_30 : decode cX9_endMatch 30 = .ok (.if_icmp .ne 7, 3) := by decide +kernel
theorem dX9_endMatch_33 : decode cX9_endMatch 33 = .ok (.iconst 1, 1) := by decide +kernel
theorem dX9_endMatch_34 : decode cX9_endMatch 34 = .ok (.goto 4, 3) := by decide +kernel
theorem dX9_endMatch_37 : decode cX9_endMatch 37 = .ok (.iconst 0, 1) := by decide +kernel
theorem dX9_endMatch_38 : decode cX9_endMatch 38 = .ok (.istore 5, 2) := by decide +kernel
theorem dX9_endMatch_40 : decode cX9_endMatch 40 = .ok (.aload_n 0, 1) := by decide +kernel
theorem dX9_endMatch_41 : decode cX9_endMatch 41 = .ok (.getfield 55, 3) := by decide +kernel
theorem dX9_endMatch_44 : decode cX9_endMatch 44 = .ok (.iload_n 1, 1) := by decide +kernel
theorem dX9_endMatch_45 : decode cX9_endMatch 45 = .ok (.iaload, 1) := by decide +kernel
theorem dX9_endMatch_46 : decode cX9_endMatch 46 = .ok (.iload 4, 2) := by decide +kernel
theorem dX9_endMatch_48 : decode cX9_endMatch 48 = .ok (.ishr, 1) := by decide +kernel
theorem dX9_endMatch_49 : decode cX9_endMatch 49 = .ok (.iconst 1, 1) := by decide +kernel
theorem dX9_endMatch_50 : decode cX9_endMatch 50 = .ok (.iand, 1) := by decide +kernel
theorem dX9_endMatch_51 : decode cX9_endMatch 51 = .ok (.iconst 1, 1) := by decide +kernel
theorem dX9_endMatch_52 : decode cX9_endMatch 52 = .ok (.if_icmp .ne 7, 3) := by decide +kernel
theorem dX9_endMatch_55 : decode cX9_endMatch 55 = .ok (.iconst 1, 1) := by decide +kernel
theorem dX9_endMatch_56 : decode cX9_endMatch 56 = .ok (.goto 4, 3) := by decide +kernel
theorem dX9_endMatch_59 : decode cX9_endMatch 59 = .ok (.iconst 0, 1) := by decide +kernel
theorem dX9_endMatch_60 : decode cX9_endMatch 60 = .ok (.istore 6, 2) := by decide +kernel
theorem dX9_endMatch_62 : decode cX9_endMatch 62 = .ok (.iload 5, 2) := by decide +kernel
theorem dX9_endMatch_64 : decode cX9_endMatch 64 = .ok (.ifCond .ne 8, 3) := by decide +kernel
theorem dX9_endMatch_67 : decode cX9_endMatch 67 = .ok (.iload 6, 2) := by decide +kernel
theorem dX9_endMatch_69 : decode cX9_endMatch 69 = .ok (.ifCond .eq 66, 3) := by decide +kernel
theorem dX9_endMatch_72 : decode cX9_endMatch 72 = .ok (.aload_n 0, 1) := by decide +kernel
theorem dX9_endMatch_73 : decode cX9_endMatch 73 = .ok (.getfield 58, 3) := by decide +kernel
theorem dX9_endMatch_76 : decode cX9_endMatch 76 = .ok (.iload_n 1, 1) := by decide +kernel
theorem dX9_endMatch_77 : decode cX9_endMatch 77 = .ok (.iaload, 1) := by decide +kernel
theorem dX9_endMatch_78 : decode cX9_endMatch 78 = .ok (.iload 4, 2) := by decide +kernel
theorem dX9_endMatch_80 : decode cX9_endMatch 80 = .ok (.ishr, 1) := by decide +kernel
theorem dX9_endMatch_81 : decode cX9_endMatch 81 = .ok (.iconst 1, 1) := by decide +kernel
theorem dX9_endMatch_82 : decode cX9_endMatch 82 = .ok (.iand, 1) := by decide +kernel
theorem dX9_endMatch_83 : decode cX9_endMatch 83 = .ok (.ifCond .ne 52, 3) := by decide +kernel
theorem dX9_endMatch_86 : decode cX9_endMatch 86 = .ok (.iload_n 3, 1) := by decide +kernel
theorem dX9_endMatch_87 : decode cX9_endMatch 87 = .ok (.aload_n 0, 1) := by decide +kernel
theorem dX9_endMatch_88 : decode cX9_endMatch 88 = .ok (.iload 4, 2) := by decide +kernel
theorem dX9_endMatch_90 : decode cX9_endMatch 90 = .ok (.iload 5, 2) := by decide +kernel
theorem dX9_endMatch_92 : decode cX9_endMatch 92 = .ok (.ifCond .eq 7, 3) := by decide +kernel
theorem dX9_endMatch_95 : decode cX9_endMatch 95 = .ok (.iload_n 2, 1) := by decide +kernel
theorem dX9_endMatch_96 : decode cX9_endMatch 96 = .ok (.goto 6, 3) := by decide +kernel
theorem dX9_endMatch_99 : decode cX9_endMatch 99 = .ok (.iconst 2, 1) := by decide +kernel
theorem dX9_endMatch_100 : decode cX9_endMatch 100 = .ok (.iload_n 2, 1) := by decide +kernel
theorem dX9_endMatch_101 : decode cX9_endMatch 101 = .ok (.isub, 1) := by decide +kernel
theorem dX9_endMatch_102 : decode cX9_endMatch 102 = .ok (.iload 5, 2) := by decide +kernel
theorem dX9_endMatch_104 : decode cX9_endMatch 104 = .ok (.ifCond .eq 12, 3) := by decide +kernel
theorem dX9_endMatch_107 : decode cX9_endMatch 107 = .ok (.aload_n 0, 1) := by decide +kernel
theorem dX9_endMatch_108 : decode cX9_endMatch 108 = .ok (.getfield 55, 3) := by decide +kernel
theorem dX9_endMatch_111 : decode cX9_endMatch 111 = .ok (.iload_n 1, 1) := by decide +kernel
theorem dX9_endMatch_112 : decode cX9_endMatch 112 = .ok (.iaload, 1) := by decide +kernel
theorem dX9_endMatch_113 : decode cX9_endMatch 113 = .ok (.goto 9, 3) := by decide +kernel
theorem dX9_endMatch_116 : decode cX9_endMatch 116 = .ok (.aload_n 0, 1) := by decide +kernel
theorem dX9_endMatch_117 : decode cX9_endMatch 117 = .ok (.getfield 52, 3) := by decide +kernel
theorem dX9_endMatch_120 : decode cX9_endMatch 120 = .ok (.iload_n 1, 1) := by decide +kernel
theorem dX9_endMatch_121 : decode cX9_endMatch 121 = .ok (.iaload, 1) := by decide +kernel
theorem dX9_endMatch_122 : decode cX9_endMatch 122 = .ok (.invokevirtual 233, 3) := by decide +kernel
theorem dX9_endMatch_125 : decode cX9_endMatch 125 = .ok (.ifCond .eq 7, 3) := by decide +kernel
theorem dX9_endMatch_128 : decode cX9_endMatch 128 = .ok (.iconst 1, 1) := by decide +kernel
theorem dX9_endMatch_129 : decode cX9_endMatch 129 = .ok (.goto 4, 3) := by decide +kernel
theorem dX9_endMatch_132 : decode cX9_endMatch 132 = .ok (.iconst 0, 1) := by decide +kernel
theorem dX9_endMatch_133 : decode cX9_endMatch 133 = .ok (.iadd, 1) := by decide +kernel
theorem dX9_endMatch_134 : decode cX9_endMatch 134 = .ok (.istore_n 3, 1) := by decide +kernel
theorem dX9_endMatch_135 : decode cX9_endMatch 135 = .ok (.iinc 4 1, 3) := by decide +kernel
theorem dX9_endMatch_138 : decode cX9_endMatch 138 = .ok (.goto (-129), 3) := by decide +kernel
theorem dX9_endMatch_141 : decode cX9_endMatch 141 = .ok (.aload_n 0, 1) := by decide +kernel
theorem dX9_endMatch_142 : decode cX9_endMatch 142 = .ok (.getfield 48, 3) := by decide +kernel
theorem dX9_endMatch_145 : decode cX9_endMatch 145 = .ok (.iload_n 1, 1) := by decide +kernel
theorem dX9_endMatch_146 : decode cX9_endMatch 146 = .ok (.iconst 0, 1) := by decide +kernel
theorem dX9_endMatch_147 : decode cX9_endMatch 147 = .ok (.bastore, 1) := by decide +kernel
theorem dX9_endMatch_148 : decode cX9_endMatch 148 = .ok (.aload_n 0, 1) := by decide +kernel
theorem dX9_endMatch_149 : decode cX9_endMatch 149 = .ok (.dup, 1) := by decide +kernel
theorem dX9_endMatch_150 : decode cX9_endMatch 150 = .ok (.getfield 237, 3) := by decide +kernel
theorem dX9_endMatch_153 : decode cX9_endMatch 153 = .ok (.iconst 1, 1) := by decide +kernel
theorem dX9_endMatch_154 : decode cX9_endMatch 154 = .ok (.iadd, 1) := by decide +kernel
theorem dX9_endMatch_155 : decode cX9_endMatch 155 = .ok (.putfield 237, 3) := by decide +kernel
theorem dX9_endMatch_158 : decode cX9_endMatch 158 = .ok (.iload_n 3, 1) := by decide +kernel
theorem dX9_endMatch_159 : decode cX9_endMatch 159 = .ok (.ireturn, 1) := by decide +kernel
set_option maxRecDepth 20000 in
theorem ggX9_end_X9_isPlaceOfMatch : GoodIn wsX9_end wsX9_isPlaceOfMatch := goodIn_r _ [8, 9, 10, 11, 7, 12] (by decide +kernel) (by decide +kernel)
set_option maxRecDepth 20000 in
theorem gX9_end_X9_isPlaceOfMatch : GoodIn wsX9_end (va_wsS RX9 214 yX9_isPlaceOfMatch wsX9_isPlaceOfMatch) := goodIn_app (goodIn_of _ (by decide +kernel)) ggX9_end_X9_isPlaceOfMatch
set_option maxRecDepth 20000 in
theorem ggX9_end_X9_in : GoodIn wsX9_end wsX9_in := goodIn_r _ [12] (by decide +kernel) (by decide +kernel)
set_option maxRecDepth 20000 in
theorem gX9_end_X9_in : GoodIn wsX9_end (va_wsS RX9 97 yX9_in wsX9_in) := goodIn_app (goodIn_of _ (by decide +kernel)) ggX9_end_X9_in
set_option maxRecDepth 20000 in
theorem ggX9_end_X9_finding : GoodIn wsX9_end wsX9_finding := goodIn_r _ [16, 17, 18, 68, 69, 70, 71, 72, 73, 74, 75, 76, 77, 78, 79, 80, 81, 82, 83, 84, 85, 86, 87, 88, 89, 90, 91, 92, 93, 94, 95, 96, 97, 98, 99, 100] (by decide +kernel) (by decide +kernel)
set_option maxRecDepth 20000 in
theorem gX9_end_X9_finding : GoodIn wsX9_end (wsV RX9 111 RX9 yX9_finding wsX9_finding) := goodIn_app (goodIn_of _ (by decide +kernel)) ggX9_end_X9_finding
set_option maxRecDepth 20000 in
theorem ggX9_end_X9_endMatch : GoodIn wsX9_end wsX9_endMatch := goodIn_r _ [22, 23, 24, 25, 26, 3, 27, 28, 29, 30, 7, 31, 32, 33, 34, 35, 36, 37, 38, 39, 40, 41, 42, 43, 44, 45, 46, 47, 48, 49, 50, 51, 52, 53, 54, 55, 56, 57, 58, 59, 60, 61, 62, 63, 64, 65, 66, 67, 68, 69, 70, 71, 72, 73, 74, 75, 76, 77, 78, 79, 80, 81, 82, 83, 84, 85, 86, 87, 88, 89, 90, 91, 92, 93, 94, 95, 96, 97, 98, 99, 100] (by decide +kernel) (by decide +kernel)
set_option maxRecDepth 20000 in
theorem gX9_end_X9_endMatch : GoodIn wsX9_end (wsV RX9 240 RX9 yX9_endMatch wsX9_endMatch) := goodIn_app (goodIn_of _ (by decide +kernel)) ggX9_end_X9_endMatch
theorem dX9_end_0 : decode cX9_end 0 = .ok (.iload_n 1, 1) := by decide +kernel
theorem dX9_end_1 : decode cX9_end 1 = .ok (.invokestatic 214, 3) := by decide +kernel
theorem dX9_end_4 : decode cX9_end 4 = .ok (.ifCond .eq 15, 3) := by decide +kernel
theorem dX9_end_7 : decode cX9_end 7 = .ok (.iload_n 2, 1) := by decide +kernel
theorem dX9_end_8 : decode cX9_end 8 = .ok (.i2l, 1) := by decide +kernel
theorem dX9_end_9 : decode cX9_end 9 = .ok (.lconst 0, 1) := by decide +kernel
theorem dX9_end_10 : decode cX9_end 10 = .ok (.ldc2_w 107, 3) := by decide +kernel
theorem dX9_end_13 : decode cX9_end 13 = .ok (.invokestatic 97, 3) := by decide +kernel
theorem dX9_end_16 : decode cX9_end 16 = .ok (.ifCond .ne 11, 3) := by decide +kernel
theorem dX9_end_19 : decode cX9_end 19 = .ok (.aload_n 0, 1) := by decide +kernel
theorem dX9_end_20 : decode cX9_end 20 = .ok (.ldc2_w 109, 3) := by decide +kernel
theorem dX9_end_23 : decode cX9_end 23 = .ok (.invokevirtual 111, 3) := by decide +kernel
theorem dX9_end_26 : decode cX9_end 26 = .ok (.lreturn, 1) := by decide +kernel
theorem dX9_end_27 : decode cX9_end 27 = .ok (.aload_n 0, 1) := by decide +kernel
theorem dX9_end_28 : decode cX9_end 28 = .ok (.getfield 48, 3) := by decide +kernel
theorem dX9_end_31 : decode cX9_end 31 = .ok (.iload_n 1, 1) := by decide +kernel
theorem dX9_end_32 : decode cX9_end 32 = .ok (.baload, 1) := by decide +kernel
theorem dX9_end_33 : decode cX9_end 33 = .ok (.ifCond .eq 13, 3) := by decide +kernel
theorem dX9_end_36 : decode cX9_end 36 = .ok (.aload_n 0, 1) := by decide +kernel
theorem dX9_end_37 : decode cX9_end 37 = .ok (.iload_n 1, 1) := by decide +kernel
theorem dX9_end_38 : decode cX9_end 38 = .ok (.iload_n 2, 1) := by decide +kernel
theorem dX9_end_39 : decode cX9_end 39 = .ok (.invokevirtual 240, 3) := by decide +kernel
theorem dX9_end_42 : decode cX9_end 42 = .ok (.i2l, 1) := by decide +kernel
theorem dX9_end_43 : decode cX9_end 43 = .ok (.goto 10, 3) := by decide +kernel
theorem dX9_end_46 : decode cX9_end 46 = .ok (.aload_n 0, 1) := by decide +kernel
theorem dX9_end_47 : decode cX9_end 47 = .ok (.ldc2_w 173, 3) := by decide +kernel
theorem dX9_end_50 : decode cX9_end 50 = .ok (.invokevirtual 111, 3) := by decide +kernel
theorem dX9_end_53 : decode cX9_end 53 = .ok (.lreturn, 1) := by decide +kernel
set_option maxRecDepth 20000 in
theorem ggX9_drop_X9_isPlayer : GoodIn wsX9_drop wsX9_isPlayer := goodIn_r _ [10, 11, 12, 13, 9, 14, 71, 72, 73, 74, 75, 76, 77, 78, 79, 80, 81, 82, 83, 84, 85, 86, 87, 88, 89, 90, 91, 92, 93, 94, 95, 96, 97, 98, 99, 100, 101, 102, 103] (by decide +kernel) (by decide +kernel)
set_option maxRecDepth 20000 in
theorem gX9_drop_X9_isPlayer : GoodIn wsX9_drop (wsV RX9 121 RX9 yX9_isPlayer wsX9_isPlayer) := goodIn_app (goodIn_of _ (by decide +kernel)) ggX9_drop_X9_isPlayer
set_option maxRecDepth 20000 in
theorem ggX9_drop_X9_finding : GoodIn wsX9_drop wsX9_finding := goodIn_r _ [18, 19, 20, 71, 72, 73, 74, 75, 76, 77, 78, 79, 80, 81, 82, 83, 84, 85, 86, 87, 88, 89, 90, 91, 92, 93, 94, 95, 96, 97, 98, 99, 100, 101, 102, 103] (by decide +kernel) (by decide +kernel)
set_option maxRecDepth 20000 in
theorem gX9_drop_X9_finding : GoodIn wsX9_drop (wsV RX9 111 RX9 yX9_finding wsX9_finding) := goodIn_app (goodIn_of _ (by decide +kernel)) ggX9_drop_X9_finding
set_option maxRecDepth 20000 in
theorem ggX9_drop_X9_matchOf : GoodIn wsX9_drop wsX9_matchOf := goodIn_r _ [24, 25, 3, 4, 5, 71, 72, 73, 74, 75, 76, 77, 78, 79, 80, 81, 82, 83, 84, 85, 86, 87, 88, 89, 90, 91, 92, 93, 94, 95, 96, 97, 98, 99, 100, 101, 102, 103] (by decide +kernel) (by decide +kernel)
set_option maxRecDepth 20000 in
theorem gX9_drop_X9_matchOf : GoodIn wsX9_drop (wsV RX9 167 RX9 yX9_matchOf wsX9_matchOf) := goodIn_app (goodIn_of _ (by decide +kernel)) ggX9_drop_X9_matchOf
set_option maxRecDepth 20000 in
theorem ggX9_drop_X9_layAside : GoodIn wsX9_drop wsX9_layAside := goodIn_r _ [29, 30, 31, 71, 72, 73, 74, 75, 76, 77, 78, 79, 80, 81, 82, 83, 84, 85, 86, 87, 88, 89, 90, 91, 92, 93, 94, 95, 96, 97, 98, 99, 100, 101, 102, 103] (by decide +kernel) (by decide +kernel)
set_option maxRecDepth 20000 in
theorem gX9_drop_X9_layAside : GoodIn wsX9_drop (wsV RX9 148 RX9 yX9_layAside wsX9_layAside) := goodIn_app (goodIn_of _ (by decide +kernel)) ggX9_drop_X9_layAside
set_option maxRecDepth 20000 in
theorem ggX9_drop_X9_takeResult : GoodIn wsX9_drop wsX9_takeResult := goodIn_r _ [35, 36, 37, 38, 39, 40, 9, 41, 11, 42, 43, 44, 45, 30, 46, 47, 48, 49, 50, 51, 52, 53, 54, 55, 56, 57, 58, 59, 60, 61, 62, 63, 64, 65, 31, 71, 72, 73, 74, 75, 76, 77, 78, 79, 80, 81, 82, 83, 84, 85, 86, 87, 88, 89, 90, 91, 92, 93, 94, 95, 96, 97, 98, 99, 100, 101, 102, 103] (by decide +kernel) (by decide +kernel)
set_option maxRecDepth 20000 in
theorem gX9_drop_X9_takeResult : GoodIn wsX9_drop (wsV RX9 233 RX9 yX9_takeResult wsX9_takeResult) := goodIn_app (goodIn_of _ (by decide +kernel)) ggX9_drop_X9_takeResult
set_option maxRecDepth 20000 in
theorem ggX9_drop_X9_endMatch : GoodIn wsX9_drop wsX9_endMatch := goodIn_r _ [69, 11, 3, 4, 5, 25, 70, 26, 27, 28, 9, 29, 30, 31, 32, 33, 34, 35, 36, 37, 38, 39, 40, 41, 42, 43, 44, 45, 46, 47, 48, 49, 50, 51, 52, 53, 54, 55, 56, 57, 58, 59, 60, 61, 62, 63, 64, 65, 71, 72, 73, 74, 75, 76, 77, 78, 79, 80, 81, 82, 83, 84, 85, 86, 87, 88, 89, 90, 91, 92, 93, 94, 95, 96, 97, 98, 99, 100, 101, 102, 103] (by decide +kernel) (by decide +kernel)
set_option maxRecDepth 20000 in
theorem gX9_drop_X9_endMatch : GoodIn wsX9_drop (wsV RX9 240 RX9 yX9_endMatch wsX9_endMatch) := goodIn_app (goodIn_of _ (by decide +kernel)) ggX9_drop_X9_endMatch
theorem dX9_drop_0 : decode cX9_drop 0 = .ok (.aload_n 0, 1) := by decide +kernel
theorem dX9_drop_1 : decode cX9_drop 1 = .ok (.iload_n 1, 1) := by decide +kernel
theorem dX9_drop_2 : decode cX9_drop 2 = .ok (.invokevirtual 121, 3) := by decide +kernel
theorem dX9_drop_5 : decode cX9_drop 5 = .ok (.ifCond .ne 11, 3) := by decide +kernel
theorem dX9_drop_8 : decode cX9_drop 8 = .ok (.aload_n 0, 1) := by decide +kernel
theorem dX9_drop_9 : decode cX9_drop 9 = .ok (.ldc2_w 109, 3) := by decide +kernel
theorem dX9_drop_12 : decode cX9_drop 12 = .ok (.invokevirtual 111, 3) := by decide +kernel
theorem dX9_drop_15 : decode cX9_drop 15 = .ok (.lreturn, 1) := by decide +kernel
theorem dX9_drop_16 : decode cX9_drop 16 = .ok (.aload_n 0, 1) := by decide +kernel
theorem dX9_drop_17 : decode cX9_drop 17 = .ok (.iload_n 1, 1) := by decide +kernel
theorem dX9_drop_18 : decode cX9_drop 18 = .ok (.invokevirtual 167, 3) := by decide +kernel
theorem dX9_drop_21 : decode cX9_drop 21 = .ok (.istore_n 2, 1) := by decide +kernel
theorem dX9_drop_22 : decode cX9_drop 22 = .ok (.iload_n 2, 1) := by decide +kernel
theorem dX9_drop_23 : decode cX9_drop 23 = .ok (.ifCond .ge 11, 3) := by decide +kernel
theorem dX9_drop_26 : decode cX9_drop 26 = .ok (.aload_n 0, 1) := by decide +kernel
theorem dX9_drop_27 : decode cX9_drop 27 = .ok (.ldc2_w 173, 3) := by decide +kernel
theorem dX9_drop_30 : decode cX9_drop 30 = .ok (.invokevirtual 111, 3) := by decide +kernel
theorem dX9_drop_33 : decode cX9_drop 33 = .ok (.lreturn, 1) := by decide +kernel
theorem dX9_drop_34 : decode cX9_drop 34 = .ok (.aload_n 0, 1) := by decide +kernel
theorem dX9_drop_35 : decode cX9_drop 35 = .ok (.getfield 52, 3) := by decide +kernel
theorem dX9_drop_38 : decode cX9_drop 38 = .ok (.iload_n 2, 1) := by decide +kernel
theorem dX9_drop_39 : decode cX9_drop 39 = .ok (.iaload, 1) := by decide +kernel
theorem dX9_drop_40 : decode cX9_drop 40 = .ok (.iload_n 1, 1) := by decide +kernel
theorem dX9_drop_41 : decode cX9_drop 41 = .ok (.ishr, 1) := by decide +kernel
theorem dX9_drop_42 : decode cX9_drop 42 = .ok (.iconst 1, 1) := by decide +kernel
theorem dX9_drop_43 : decode cX9_drop 43 = .ok (.iand, 1) := by decide +kernel
theorem dX9_drop_44 : decode cX9_drop 44 = .ok (.iconst 1, 1) := by decide +kernel
theorem dX9_drop_45 : decode cX9_drop 45 = .ok (.if_icmp .ne 7, 3) := by decide +kernel
theorem dX9_drop_48 : decode cX9_drop 48 = .ok (.iconst 1, 1) := by decide +kernel
theorem dX9_drop_49 : decode cX9_drop 49 = .ok (.goto 4, 3) := by decide +kernel
theorem dX9_drop_52 : decode cX9_drop 52 = .ok (.iconst 0, 1) := by decide +kernel
theorem dX9_drop_53 : decode cX9_drop 53 = .ok (.istore_n 3, 1) := by decide +kernel
theorem dX9_drop_54 : decode cX9_drop 54 = .ok (.aload_n 0, 1) := by decide +kernel
theorem dX9_drop_55 : decode cX9_drop 55 = .ok (.invokevirtual 148, 3) := by decide +kernel
theorem dX9_drop_58 : decode cX9_drop 58 = .ok (.aload_n 0, 1) := by decide +kernel
theorem dX9_drop_59 : decode cX9_drop 59 = .ok (.iload_n 1, 1) := by decide +kernel
theorem dX9_drop_60 : decode cX9_drop 60 = .ok (.iconst 0, 1) := by decide +kernel
theorem dX9_drop_61 : decode cX9_drop 61 = .ok (.iload_n 3, 1) := by decide +kernel
theorem dX9_drop_62 : decode cX9_drop 62 = .ok (.ifCond .eq 12, 3) := by decide +kernel
theorem dX9_drop_65 : decode cX9_drop 65 = .ok (.aload_n 0, 1) := by decide +kernel
theorem dX9_drop_66 : decode cX9_drop 66 = .ok (.getfield 55, 3) := by decide +kernel
theorem dX9_drop_69 : decode cX9_drop 69 = .ok (.iload_n 2, 1) := by decide +kernel
theorem dX9_drop_70 : decode cX9_drop 70 = .ok (.iaload, 1) := by decide +kernel
theorem dX9_drop_71 : decode cX9_drop 71 = .ok (.goto 9, 3) := by decide +kernel
theorem dX9_drop_74 : decode cX9_drop 74 = .ok (.aload_n 0, 1) := by decide +kernel
theorem dX9_drop_75 : decode cX9_drop 75 = .ok (.getfield 52, 3) := by decide +kernel
theorem dX9_drop_78 : decode cX9_drop 78 = .ok (.iload_n 2, 1) := by decide +kernel
theorem dX9_drop_79 : decode cX9_drop 79 = .ok (.iaload, 1) := by decide +kernel
theorem dX9_drop_80 : decode cX9_drop 80 = .ok (.invokevirtual 233, 3) := by decide +kernel
theorem dX9_drop_83 : decode cX9_drop 83 = .ok (.istore 4, 2) := by decide +kernel
theorem dX9_drop_85 : decode cX9_drop 85 = .ok (.aload_n 0, 1) := by decide +kernel
theorem dX9_drop_86 : decode cX9_drop 86 = .ok (.getfield 58, 3) := by decide +kernel
theorem dX9_drop_89 : decode cX9_drop 89 = .ok (.iload_n 2, 1) := by decide +kernel
theorem dX9_drop_90 : decode cX9_drop 90 = .ok (.dup2, 1) := by decide +kernel
theorem dX9_drop_91 : decode cX9_drop 91 = .ok (.iaload, 1) := by decide +kernel
theorem dX9_drop_92 : decode cX9_drop 92 = .ok (.iconst 1, 1) := by decide +kernel
theorem dX9_drop_93 : decode cX9_drop 93 = .ok (.iload_n 1, 1) := by decide +kernel
theorem dX9_drop_94 : decode cX9_drop 94 = .ok (.ishl, 1) := by decide +kernel
theorem dX9_drop_95 : decode cX9_drop 95 = .ok (.ior, 1) := by decide +kernel
theorem dX9_drop_96 : decode cX9_drop 96 = .ok (.iastore, 1) := by decide +kernel
theorem dX9_drop_97 : decode cX9_drop 97 = .ok (.iload_n 3, 1) := by decide +kernel
theorem dX9_drop_98 : decode cX9_drop 98 = .ok (.ifCond .eq 12, 3) := by decide +kernel
theorem dX9_drop_101 : decode cX9_drop 101 = .ok (.aload_n 0, 1) := by decide +kernel
theorem dX9_drop_102 : decode cX9_drop 102 = .ok (.getfield 52, 3) := by decide +kernel
theorem dX9_drop_105 : decode cX9_drop 105 = .ok (.iload_n 2, 1) := by decide +kernel
theorem dX9_drop_106 : decode cX9_drop 106 = .ok (.iaload, 1) := by decide +kernel
theorem dX9_drop_107 : decode cX9_drop 107 = .ok (.goto 9, 3) := by decide +kernel
theorem dX9_drop_110 : decode cX9_drop 110 = .ok (.aload_n 0, 1) := by decide +kernel
theorem dX9_drop_111 : decode cX9_drop 111 = .ok (.getfield 55, 3) := by decide +kernel
theorem dX9_drop_114 : decode cX9_drop 114 = .ok (.iload_n 2, 1) := by decide +kernel
theorem dX9_drop_115 : decode cX9_drop 115 = .ok (.iaload, 1) := by decide +kernel
theorem dX9_drop_116 : decode cX9_drop 116 = .ok (.istore 5, 2) := by decide +kernel
theorem dX9_drop_118 : decode cX9_drop 118 = .ok (.iload 5, 2) := by decide +kernel
theorem dX9_drop_120 : decode cX9_drop 120 = .ok (.aload_n 0, 1) := by decide +kernel
theorem dX9_drop_121 : decode cX9_drop 121 = .ok (.getfield 58, 3) := by decide +kernel
theorem dX9_drop_124 : decode cX9_drop 124 = .ok (.iload_n 2, 1) := by decide +kernel
theorem dX9_drop_125 : decode cX9_drop 125 = .ok (.iaload, 1) := by decide +kernel
theorem dX9_drop_126 : decode cX9_drop 126 = .ok (.iconst (-1), 1) := by decide +kernel
theorem dX9_drop_127 : decode cX9_drop 127 = .ok (.ixor, 1) := by decide +kernel
theorem dX9_drop_128 : decode cX9_drop 128 = .ok (.iand, 1) := by decide +kernel
theorem dX9_drop_129 : decode cX9_drop 129 = .ok (.ifCond .eq 5, 3) := by decide +kernel
theorem dX9_drop_132 : decode cX9_drop 132 = .ok (.lconst 0, 1) := by decide +kernel
theorem dX9_drop_133 : decode cX9_drop 133 = .ok (.lreturn, 1) := by decide +kernel
theorem dX9_drop_134 : decode cX9_drop 134 = .ok (.aload_n 0, 1) := by decide +kernel
theorem dX9_drop_135 : decode cX9_drop 135 = .ok (.iload_n 2, 1) := by decide +kernel
theorem dX9_drop_136 : decode cX9_drop 136 = .ok (.iload_n 3, 1) := by decide +kernel
theorem dX9_drop_137 : decode cX9_drop 137 = .ok (.ifCond .eq 7, 3) := by decide +kernel
theorem dX9_drop_140 : decode cX9_drop 140 = .ok (.iconst 0, 1) := by decide +kernel
theorem dX9_drop_141 : decode cX9_drop 141 = .ok (.goto 4, 3) := by decide +kernel
theorem dX9_drop_144 : decode cX9_drop 144 = .ok (.iconst 2, 1) := by decide +kernel
theorem dX9_drop_145 : decode cX9_drop 145 = .ok (.invokevirtual 240, 3) := by decide +kernel
theorem dX9_drop_148 : decode cX9_drop 148 = .ok (.istore 6, 2) := by decide +kernel
theorem dX9_drop_150 : decode cX9_drop 150 = .ok (.lconst 1, 1) := by decide +kernel
theorem dX9_drop_151 : decode cX9_drop 151 = .ok (.lreturn, 1) := by decide +kernel
theorem dX9_surpriseSum_0 : decode cX9_surpriseSum 0 = .ok (.lconst 0, 1) := by decide +kernel
theorem dX9_surpriseSum_1 : decode cX9_surpriseSum 1 = .ok (.lstore_n 2, 1) := by decide +kernel
theorem dX9_surpriseSum_2 : decode cX9_surpriseSum 2 = .ok (.iconst 0, 1) := by decide +kernel
theorem dX9_surpriseSum_3 : decode cX9_surpriseSum 3 = .ok (.istore 4, 2) := by decide +kernel
theorem dX9_surpriseSum_5 : decode cX9_surpriseSum 5 = .ok (.iload 4, 2) := by decide +kernel
theorem dX9_surpriseSum_7 : decode cX9_surpriseSum 7 = .ok (.aload_n 0, 1) := by decide +kernel
theorem dX9_surpriseSum_8 : decode cX9_surpriseSum 8 = .ok (.getfield 23, 3) := by decide +kernel
theorem dX9_surpriseSum_11 : decode cX9_surpriseSum 11 = .ok (.iload_n 1, 1) := by decide +kernel
theorem dX9_surpriseSum_12 : decode cX9_surpriseSum 12 = .ok (.iaload, 1) := by decide +kernel
theorem dX9_surpriseSum_13 : decode cX9_surpriseSum 13 = .ok (.if_icmp .ge 24, 3) := by decide +kernel
theorem dX9_surpriseSum_16 : decode cX9_surpriseSum 16 = .ok (.lload_n 2, 1) := by decide +kernel
theorem dX9_surpriseSum_17 : decode cX9_surpriseSum 17 = .ok (.aload_n 0, 1) := by decide +kernel
theorem dX9_surpriseSum_18 : decode cX9_surpriseSum 18 = .ok (.getfield 20, 3) := by decide +kernel
theorem dX9_surpriseSum_21 : decode cX9_surpriseSum 21 = .ok (.bipush 8, 2) := by decide +kernel
theorem dX9_surpriseSum_23 : decode cX9_surpriseSum 23 = .ok (.iload_n 1, 1) := by decide +kernel
theorem dX9_surpriseSum_24 : decode cX9_surpriseSum 24 = .ok (.imul, 1) := by decide +kernel
theorem dX9_surpriseSum_25 : decode cX9_surpriseSum 25 = .ok (.iload 4, 2) := by decide +kernel
theorem dX9_surpriseSum_27 : decode cX9_surpriseSum 27 = .ok (.iadd, 1) := by decide +kernel
theorem dX9_surpriseSum_28 : decode cX9_surpriseSum 28 = .ok (.laload, 1) := by decide +kernel
theorem dX9_surpriseSum_29 : decode cX9_surpriseSum 29 = .ok (.ladd, 1) := by decide +kernel
theorem dX9_surpriseSum_30 : decode cX9_surpriseSum 30 = .ok (.lstore_n 2, 1) := by decide +kernel
theorem dX9_surpriseSum_31 : decode cX9_surpriseSum 31 = .ok (.iinc 4 1, 3) := by decide +kernel
theorem dX9_surpriseSum_34 : decode cX9_surpriseSum 34 = .ok (.goto (-29), 3) := by decide +kernel
theorem dX9_surpriseSum_37 : decode cX9_surpriseSum 37 = .ok (.lload_n 2, 1) := by decide +kernel
theorem dX9_surpriseSum_38 : decode cX9_surpriseSum 38 = .ok (.lreturn, 1) := by decide +kernel
set_option maxRecDepth 20000 in
theorem ggX9_surprise_X9_isPlayer : GoodIn wsX9_surprise wsX9_isPlayer := goodIn_r _ [10, 11, 12, 13, 9, 14, 25, 26, 27, 28, 29, 30, 31, 32, 33, 34, 35, 36, 37, 38, 39, 40, 41, 42, 43, 44, 45, 46, 47, 48, 49, 50, 51, 52, 53, 54, 55, 56, 57] (by decide +kernel) (by decide +kernel)
set_option maxRecDepth 20000 in
theorem gX9_surprise_X9_isPlayer : GoodIn wsX9_surprise (wsV RX9 121 RX9 yX9_isPlayer wsX9_isPlayer) := goodIn_app (goodIn_of _ (by decide +kernel)) ggX9_surprise_X9_isPlayer
set_option maxRecDepth 20000 in
theorem ggX9_surprise_X9_finding : GoodIn wsX9_surprise wsX9_finding := goodIn_r _ [18, 19, 20, 25, 26, 27, 28, 29, 30, 31, 32, 33, 34, 35, 36, 37, 38, 39, 40, 41, 42, 43, 44, 45, 46, 47, 48, 49, 50, 51, 52, 53, 54, 55, 56, 57] (by decide +kernel) (by decide +kernel)
set_option maxRecDepth 20000 in
theorem gX9_surprise_X9_finding : GoodIn wsX9_surprise (wsV RX9 111 RX9 yX9_finding wsX9_finding) := goodIn_app (goodIn_of _ (by decide +kernel)) ggX9_surprise_X9_finding
set_option maxRecDepth 20000 in
theorem ggX9_surprise_X9_in : GoodIn wsX9_surprise wsX9_in := goodIn_r _ [14] (by decide +kernel) (by decide +kernel)
set_option maxRecDepth 20000 in
theorem gX9_surprise_X9_in : GoodIn wsX9_surprise (va_wsS RX9 97 yX9_in wsX9_in) := goodIn_app (goodIn_of _ (by decide +kernel)) ggX9_surprise_X9_in
set_option maxRecDepth 20000 in
theorem ggX9_surprise_X9_surpriseSum : GoodIn wsX9_surprise wsX9_surpriseSum := goodIn_r _ [24, 3, 5, 25, 26, 27, 28, 29, 30, 31, 32, 33, 34, 35, 36, 37, 38, 39, 40, 41, 42, 43, 44, 45, 46, 47, 48, 49, 50, 51, 52, 53, 54, 55, 56, 57] (by decide +kernel) (by decide +kernel)
set_option maxRecDepth 20000 in
theorem gX9_surprise_X9_surpriseSum : GoodIn wsX9_surprise (wsV RX9 246 RX9 yX9_surpriseSum wsX9_surpriseSum) := goodIn_app (goodIn_of _ (by decide +kernel)) ggX9_surprise_X9_surpriseSum
theorem dX9_surprise_0 : decode cX9_surprise 0 = .ok (.aload_n 0, 1) := by decide +kernel
theorem dX9_surprise_1 : decode cX9_surprise 1 = .ok (.iload_n 1, 1) := by decide +kernel
theorem dX9_surprise_2 : decode cX9_surprise 2 = .ok (.invokevirtual 121, 3) := by decide +kernel
theorem dX9_surprise_5 : decode cX9_surprise 5 = .ok (.ifCond .ne 11, 3) := by decide +kernel
theorem dX9_surprise_8 : decode cX9_surprise 8 = .ok (.aload_n 0, 1) := by decide +kernel
theorem dX9_surprise_9 : decode cX9_surprise 9 = .ok (.ldc2_w 109, 3) := by decide +kernel
theorem dX9_surprise_12 : decode cX9_surprise 12 = .ok (.invokevirtual 111, 3) := by decide +kernel
theorem dX9_surprise_15 : decode cX9_surprise 15 = .ok (.lreturn, 1) := by decide +kernel
theorem dX9_surprise_16 : decode cX9_surprise 16 = .ok (.iload_n 2, 1) := by decide +kernel
theorem dX9_surprise_17 : decode cX9_surprise 17 = .ok (.i2l, 1) := by decide +kernel
theorem dX9_surprise_18 : decode cX9_surprise 18 = .ok (.ldc2_w 244, 3) := by decide +kernel
theorem dX9_surprise_21 : decode cX9_surprise 21 = .ok (.aload_n 0, 1) := by decide +kernel
theorem dX9_surprise_22 : decode cX9_surprise 22 = .ok (.getfield 23, 3) := by decide +kernel
theorem dX9_surprise_25 : decode cX9_surprise 25 = .ok (.iload_n 1, 1) := by decide +kernel
theorem dX9_surprise_26 : decode cX9_surprise 26 = .ok (.iaload, 1) := by decide +kernel
theorem dX9_surprise_27 : decode cX9_surprise 27 = .ok (.iconst 1, 1) := by decide +kernel
theorem dX9_surprise_28 : decode cX9_surprise 28 = .ok (.isub, 1) := by decide +kernel
theorem dX9_surprise_29 : decode cX9_surprise 29 = .ok (.i2l, 1) := by decide +kernel
theorem dX9_surprise_30 : decode cX9_surprise 30 = .ok (.invokestatic 97, 3) := by decide +kernel
theorem dX9_surprise_33 : decode cX9_surprise 33 = .ok (.ifCond .eq 12, 3) := by decide +kernel
theorem dX9_surprise_36 : decode cX9_surprise 36 = .ok (.aload_n 0, 1) := by decide +kernel
theorem dX9_surprise_37 : decode cX9_surprise 37 = .ok (.getfield 23, 3) := by decide +kernel
theorem dX9_surprise_40 : decode cX9_surprise 40 = .ok (.iload_n 1, 1) := by decide +kernel
theorem dX9_surprise_41 : decode cX9_surprise 41 = .ok (.iaload, 1) := by decide +kernel
theorem dX9_surprise_42 : decode cX9_surprise 42 = .ok (.ifCond .ne 11, 3) := by decide +kernel
theorem dX9_surprise_45 : decode cX9_surprise 45 = .ok (.aload_n 0, 1) := by decide +kernel
theorem dX9_surprise_46 : decode cX9_surprise 46 = .ok (.ldc2_w 173, 3) := by decide +kernel
theorem dX9_surprise_49 : decode cX9_surprise 49 = .ok (.invokevirtual 111, 3) := by decide +kernel
theorem dX9_surprise_52 : decode cX9_surprise 52 = .ok (.lreturn, 1) := by decide +kernel
theorem dX9_surprise_53 : decode cX9_surprise 53 = .ok (.iload_n 2, 1) := by decide +kernel
theorem dX9_surprise_54 : decode cX9_surprise 54 = .ok (.iconst (-1), 1) := by decide +kernel
theorem dX9_surprise_55 : decode cX9_surprise 55 = .ok (.if_icmp .ne 11, 3) := by decide +kernel
theorem dX9_surprise_58 : decode cX9_surprise 58 = .ok (.aload_n 0, 1) := by decide +kernel
theorem dX9_surprise_59 : decode cX9_surprise 59 = .ok (.iload_n 1, 1) := by decide +kernel
theorem dX9_surprise_60 : decode cX9_surprise 60 = .ok (.invokevirtual 246, 3) := by decide +kernel
theorem dX9_surprise_63 : decode cX9_surprise 63 = .ok (.goto 14, 3) := by decide +kernel
theorem dX9_surprise_66 : decode cX9_surprise 66 = .ok (.aload_n 0, 1) := by decide +kernel
theorem dX9_surprise_67 : decode cX9_surprise 67 = .ok (.getfield 20, 3) := by decide +kernel
theorem dX9_surprise_70 : decode cX9_surprise 70 = .ok (.bipush 8, 2) := by decide +kernel
theorem dX9_surprise_72 : decode cX9_surprise 72 = .ok (.iload_n 1, 1) := by decide +kernel
theorem dX9_surprise_73 : decode cX9_surprise 73 = .ok (.imul, 1) := by decide +kernel
theorem dX9_surprise_74 : decode cX9_surprise 74 = .ok (.iload_n 2, 1) := by decide +kernel
theorem dX9_surprise_75 : decode cX9_surprise 75 = .ok (.iadd, 1) := by decide +kernel
theorem dX9_surprise_76 : decode cX9_surprise 76 = .ok (.laload, 1) := by decide +kernel
theorem dX9_surprise_77 : decode cX9_surprise 77 = .ok (.lreturn, 1) := by decide +kernel
set_option maxRecDepth 20000 in
theorem ggX9_sinking_X9_surpriseSum : GoodIn wsX9_sinking wsX9_surpriseSum := goodIn_r _ [8, 2, 9, 10, 11, 12, 13, 14, 15, 16, 17, 18, 19, 20, 21, 22, 23, 24, 25, 26, 27, 28, 29, 30, 31, 32, 33, 34, 35, 36, 37, 38, 39, 40, 41, 42] (by decide +kernel) (by decide +kernel)
set_option maxRecDepth 20000 in
theorem gX9_sinking_X9_surpriseSum : GoodIn wsX9_sinking (wsV RX9 246 RX9 yX9_surpriseSum wsX9_surpriseSum) := goodIn_app (goodIn_of _ (by decide +kernel)) ggX9_sinking_X9_surpriseSum
theorem dX9_sinking_0 : decode cX9_sinking 0 = .ok (.iconst 0, 1) := by decide +kernel
theorem dX9_sinking_1 : decode cX9_sinking 1 = .ok (.istore_n 1, 1) := by decide +kernel
theorem dX9_sinking_2 : decode cX9_sinking 2 = .ok (.iconst 0, 1) := by decide +kernel
theorem dX9_sinking_3 : decode cX9_sinking 3 = .ok (.istore_n 2, 1) := by decide +kernel
theorem dX9_sinking_4 : decode cX9_sinking 4 = .ok (.iload_n 2, 1) := by decide +kernel
theorem dX9_sinking_5 : decode cX9_sinking 5 = .ok (.aload_n 0, 1) := by decide +kernel
theorem dX9_sinking_6 : decode cX9_sinking 6 = .ok (.getfield 94, 3) := by decide +kernel
theorem dX9_sinking_9 : decode cX9_sinking 9 = .ok (.if_icmp .ge 44, 3) := by decide +kernel
theorem dX9_sinking_12 : decode cX9_sinking 12 = .ok (.iload_n 1, 1) := by decide +kernel
theorem dX9_sinking_13 : decode cX9_sinking 13 = .ok (.aload_n 0, 1) := by decide +kernel
theorem dX9_sinking_14 : decode cX9_sinking 14 = .ok (.getfield 23, 3) := by decide +kernel
theorem dX9_sinking_17 : decode cX9_sinking 17 = .ok (.iload_n 2, 1) := by decide +kernel
theorem dX9_sinking_18 : decode cX9_sinking 18 = .ok (.iaload, 1) := by decide +kernel
theorem dX9_sinking_19 : decode cX9_sinking 19 = .ok (.iconst 5, 1) := by decide +kernel
theorem dX9_sinking_20 : decode cX9_sinking 20 = .ok (.if_icmp .lt 24, 3) := by decide +kernel
theorem dX9_sinking_23 : decode cX9_sinking 23 = .ok (.aload_n 0, 1) := by decide +kernel
theorem dX9_sinking_24 : decode cX9_sinking 24 = .ok (.iload_n 2, 1) := by decide +kernel
theorem dX9_sinking_25 : decode cX9_sinking 25 = .ok (.invokevirtual 246, 3) := by decide +kernel
theorem dX9_sinking_28 : decode cX9_sinking 28 = .ok (.aload_n 0, 1) := by decide +kernel
theorem dX9_sinking_29 : decode cX9_sinking 29 = .ok (.getfield 65, 3) := by decide +kernel
theorem dX9_sinking_32 : decode cX9_sinking 32 = .ok (.ineg, 1) := by decide +kernel
theorem dX9_sinking_33 : decode cX9_sinking 33 = .ok (.i2l, 1) := by decide +kernel
theorem dX9_sinking_34 : decode cX9_sinking 34 = .ok (.lcmp, 1) := by decide +kernel
theorem dX9_sinking_35 : decode cX9_sinking 35 = .ok (.ifCond .ge 9, 3) := by decide +kernel
theorem dX9_sinking_38 : decode cX9_sinking 38 = .ok (.iconst 1, 1) := by decide +kernel
theorem dX9_sinking_39 : decode cX9_sinking 39 = .ok (.iload_n 2, 1) := by decide +kernel
theorem dX9_sinking_40 : decode cX9_sinking 40 = .ok (.ishl, 1) := by decide +kernel
theorem dX9_sinking_41 : decode cX9_sinking 41 = .ok (.goto 4, 3) := by decide +kernel
theorem dX9_sinking_44 : decode cX9_sinking 44 = .ok (.iconst 0, 1) := by decide +kernel
theorem dX9_sinking_45 : decode cX9_sinking 45 = .ok (.ior, 1) := by decide +kernel
theorem dX9_sinking_46 : decode cX9_sinking 46 = .ok (.istore_n 1, 1) := by decide +kernel
theorem dX9_sinking_47 : decode cX9_sinking 47 = .ok (.iinc 2 1, 3) := by decide +kernel
theorem dX9_sinking_50 : decode cX9_sinking 50 = .ok (.goto (-46), 3) := by decide +kernel
theorem dX9_sinking_53 : decode cX9_sinking 53 = .ok (.iload_n 1, 1) := by decide +kernel
theorem dX9_sinking_54 : decode cX9_sinking 54 = .ok (.i2l, 1) := by decide +kernel
theorem dX9_sinking_55 : decode cX9_sinking 55 = .ok (.lreturn, 1) := by decide +kernel
set_option maxRecDepth 20000 in
theorem ggX9_limit_X9_in : GoodIn wsX9_limit wsX9_in := goodIn_r _ [7] (by decide +kernel) (by decide +kernel)
set_option maxRecDepth 20000 in
theorem gX9_limit_X9_in : GoodIn wsX9_limit (va_wsS RX9 97 yX9_in wsX9_in) := goodIn_app (goodIn_of _ (by decide +kernel)) ggX9_limit_X9_in
set_option maxRecDepth 20000 in
theorem ggX9_limit_X9_finding : GoodIn wsX9_limit wsX9_finding := goodIn_r _ [11, 12, 13, 14, 15, 16, 17, 18, 19, 20, 21, 22, 23, 24, 25, 26, 27, 28, 29, 30, 31, 32, 33, 34, 35, 36, 37, 38, 39, 40, 41, 42, 43, 44, 45, 46] (by decide +kernel) (by decide +kernel)
set_option maxRecDepth 20000 in
theorem gX9_limit_X9_finding : GoodIn wsX9_limit (wsV RX9 111 RX9 yX9_finding wsX9_finding) := goodIn_app (goodIn_of _ (by decide +kernel)) ggX9_limit_X9_finding
theorem dX9_limit_0 : decode cX9_limit 0 = .ok (.iload_n 1, 1) := by decide +kernel
theorem dX9_limit_1 : decode cX9_limit 1 = .ok (.i2l, 1) := by decide +kernel
theorem dX9_limit_2 : decode cX9_limit 2 = .ok (.lconst 0, 1) := by decide +kernel
theorem dX9_limit_3 : decode cX9_limit 3 = .ok (.ldc2_w 249, 3) := by decide +kernel
theorem dX9_limit_6 : decode cX9_limit 6 = .ok (.invokestatic 97, 3) := by decide +kernel
theorem dX9_limit_9 : decode cX9_limit 9 = .ok (.ifCond .ne 11, 3) := by decide +kernel
theorem dX9_limit_12 : decode cX9_limit 12 = .ok (.aload_n 0, 1) := by decide +kernel
theorem dX9_limit_13 : decode cX9_limit 13 = .ok (.ldc2_w 109, 3) := by decide +kernel
theorem dX9_limit_16 : decode cX9_limit 16 = .ok (.invokevirtual 111, 3) := by decide +kernel
theorem dX9_limit_19 : decode cX9_limit 19 = .ok (.lreturn, 1) := by decide +kernel
theorem dX9_limit_20 : decode cX9_limit 20 = .ok (.aload_n 0, 1) := by decide +kernel
theorem dX9_limit_21 : decode cX9_limit 21 = .ok (.getfield 65, 3) := by decide +kernel
theorem dX9_limit_24 : decode cX9_limit 24 = .ok (.istore_n 2, 1) := by decide +kernel
theorem dX9_limit_25 : decode cX9_limit 25 = .ok (.aload_n 0, 1) := by decide +kernel
theorem dX9_limit_26 : decode cX9_limit 26 = .ok (.iload_n 1, 1) := by decide +kernel
theorem dX9_limit_27 : decode cX9_limit 27 = .ok (.putfield 65, 3) := by decide +kernel
theorem dX9_limit_30 : decode cX9_limit 30 = .ok (.iload_n 2, 1) := by decide +kernel
theorem dX9_limit_31 : decode cX9_limit 31 = .ok (.i2l, 1) := by decide +kernel
theorem dX9_limit_32 : decode cX9_limit 32 = .ok (.lreturn, 1) := by decide +kernel
set_option maxRecDepth 20000 in
theorem ggX9_tell_X9_finding : GoodIn wsX9_tell wsX9_finding := goodIn_r _ [8, 9, 10, 11, 12, 13, 14, 15, 16, 17, 18, 19, 20, 21, 22, 23, 24, 25, 26, 27, 28, 29, 30, 31, 32, 33, 34, 35, 36, 37, 38, 39, 40, 41, 42, 43] (by decide +kernel) (by decide +kernel)
set_option maxRecDepth 20000 in
theorem gX9_tell_X9_finding : GoodIn wsX9_tell (wsV RX9 111 RX9 yX9_finding wsX9_finding) := goodIn_app (goodIn_of _ (by decide +kernel)) ggX9_tell_X9_finding
theorem dX9_tell_0 : decode cX9_tell 0 = .ok (.aload_n 0, 1) := by decide +kernel
theorem dX9_tell_1 : decode cX9_tell 1 = .ok (.getfield 251, 3) := by decide +kernel
theorem dX9_tell_4 : decode cX9_tell 4 = .ok (.bipush 20, 2) := by decide +kernel
theorem dX9_tell_6 : decode cX9_tell 6 = .ok (.if_icmp .ne 11, 3) := by decide +kernel
theorem dX9_tell_9 : decode cX9_tell 9 = .ok (.aload_n 0, 1) := by decide +kernel
theorem dX9_tell_10 : decode cX9_tell 10 = .ok (.ldc2_w 115, 3) := by decide +kernel
theorem dX9_tell_13 : decode cX9_tell 13 = .ok (.invokevirtual 111, 3) := by decide +kernel
theorem dX9_tell_16 : decode cX9_tell 16 = .ok (.lreturn, 1) := by decide +kernel
theorem dX9_tell_17 : decode cX9_tell 17 = .ok (.aload_n 0, 1) := by decide +kernel
theorem dX9_tell_18 : decode cX9_tell 18 = .ok (.getfield 68, 3) := by decide +kernel
theorem dX9_tell_21 : decode cX9_tell 21 = .ok (.aload_n 0, 1) := by decide +kernel
theorem dX9_tell_22 : decode cX9_tell 22 = .ok (.getfield 251, 3) := by decide +kernel
theorem dX9_tell_25 : decode cX9_tell 25 = .ok (.iload_n 1, 1) := by decide +kernel
theorem dX9_tell_26 : decode cX9_tell 26 = .ok (.iastore, 1) := by decide +kernel
theorem dX9_tell_27 : decode cX9_tell 27 = .ok (.aload_n 0, 1) := by decide +kernel
theorem dX9_tell_28 : decode cX9_tell 28 = .ok (.dup, 1) := by decide +kernel
theorem dX9_tell_29 : decode cX9_tell 29 = .ok (.getfield 251, 3) := by decide +kernel
theorem dX9_tell_32 : decode cX9_tell 32 = .ok (.iconst 1, 1) := by decide +kernel
theorem dX9_tell_33 : decode cX9_tell 33 = .ok (.iadd, 1) := by decide +kernel
theorem dX9_tell_34 : decode cX9_tell 34 = .ok (.putfield 251, 3) := by decide +kernel
theorem dX9_tell_37 : decode cX9_tell 37 = .ok (.aload_n 0, 1) := by decide +kernel
theorem dX9_tell_38 : decode cX9_tell 38 = .ok (.getfield 251, 3) := by decide +kernel
theorem dX9_tell_41 : decode cX9_tell 41 = .ok (.i2l, 1) := by decide +kernel
theorem dX9_tell_42 : decode cX9_tell 42 = .ok (.lreturn, 1) := by decide +kernel
set_option maxRecDepth 20000 in
theorem ggX9_check_X9_plan : GoodIn wsX9_check wsX9_plan := goodIn_r _ [11, 2, 12, 4, 13, 5, 14, 15, 16, 17, 10, 18, 19, 20, 21, 22, 23, 24, 25, 26, 27, 28, 29, 30, 31, 32, 33, 34, 35, 36, 37, 38, 39, 40, 41, 42, 43, 44, 45, 46, 47, 48, 49, 50, 51, 52, 53, 54, 55, 56, 57, 58, 59, 60, 61, 62, 63, 64, 65, 66, 67, 68, 69, 70, 71, 72, 73, 74, 75, 76, 77, 78, 79, 80, 81, 82, 83, 84, 85, 86, 87] (by decide +kernel) (by decide +kernel)
set_option maxRecDepth 20000 in
theorem gX9_check_X9_plan : GoodIn wsX9_check (wsV RX9 209 RX9 yX9_plan wsX9_plan) := goodIn_app (goodIn_of _ (by decide +kernel)) ggX9_check_X9_plan
set_option maxRecDepth 20000 in
theorem ggX9_check_X9_playersOf : GoodIn wsX9_check wsX9_playersOf := goodIn_r _ [25, 12, 26, 55, 56, 57, 58, 59, 60, 61, 62, 63, 64, 65, 66, 67, 68, 69, 70, 71, 72, 73, 74, 75, 76, 77, 78, 79, 80, 81, 82, 83, 84, 85, 86, 87] (by decide +kernel) (by decide +kernel)
set_option maxRecDepth 20000 in
theorem gX9_check_X9_playersOf : GoodIn wsX9_check (wsV RX9 182 RX9 yX9_playersOf wsX9_playersOf) := goodIn_app (goodIn_of _ (by decide +kernel)) ggX9_check_X9_playersOf
theorem dX9_check_0 : decode cX9_check 0 = .ok (.aload_n 0, 1) := by decide +kernel
theorem dX9_check_1 : decode cX9_check 1 = .ok (.getfield 251, 3) := by decide +kernel
theorem dX9_check_4 : decode cX9_check 4 = .ok (.istore_n 1, 1) := by decide +kernel
theorem dX9_check_5 : decode cX9_check 5 = .ok (.aload_n 0, 1) := by decide +kernel
theorem dX9_check_6 : decode cX9_check 6 = .ok (.iconst 0, 1) := by decide +kernel
theorem dX9_check_7 : decode cX9_check 7 = .ok (.putfield 251, 3) := by decide +kernel
theorem dX9_check_10 : decode cX9_check 10 = .ok (.aload_n 0, 1) := by decide +kernel
theorem dX9_check_11 : decode cX9_check 11 = .ok (.invokevirtual 209, 3) := by decide +kernel
theorem dX9_check_14 : decode cX9_check 14 = .ok (.iconst 0, 1) := by decide +kernel
theorem dX9_check_15 : decode cX9_check 15 = .ok (.istore_n 2, 1) := by decide +kernel
theorem dX9_check_16 : decode cX9_check 16 = .ok (.iload_n 2, 1) := by decide +kernel
theorem dX9_check_17 : decode cX9_check 17 = .ok (.aload_n 0, 1) := by decide +kernel
theorem dX9_check_18 : decode cX9_check 18 = .ok (.getfield 202, 3) := by decide +kernel
theorem dX9_check_21 : decode cX9_check 21 = .ok (.if_icmp .ge 77, 3) := by decide +kernel
theorem dX9_check_24 : decode cX9_check 24 = .ok (.iconst 2, 1) := by decide +kernel
theorem dX9_check_25 : decode cX9_check 25 = .ok (.iload_n 2, 1) := by decide +kernel
theorem dX9_check_26 : decode cX9_check 26 = .ok (.imul, 1) := by decide +kernel
theorem dX9_check_27 : decode cX9_check 27 = .ok (.iconst 1, 1) := by decide +kernel
theorem dX9_check_28 : decode cX9_check 28 = .ok (.iadd, 1) := by decide +kernel
theorem dX9_check_29 : decode cX9_check 29 = .ok (.iload_n 1, 1) := by decide +kernel
theorem dX9_check_30 : decode cX9_check 30 = .ok (.if_icmp .ge 51, 3) := by decide +kernel
theorem dX9_check_33 : decode cX9_check 33 = .ok (.aload_n 0, 1) := by decide +kernel
theorem dX9_check_34 : decode cX9_check 34 = .ok (.getfield 68, 3) := by decide +kernel
theorem dX9_check_37 : decode cX9_check 37 = .ok (.iconst 2, 1) := by decide +kernel
theorem dX9_check_38 : decode cX9_check 38 = .ok (.iload_n 2, 1) := by decide +kernel
theorem dX9_check_39 : decode cX9_check 39 = .ok (.imul, 1) := by decide +kernel
theorem dX9_check_40 : decode cX9_check 40 = .ok (.iaload, 1) := by decide +kernel
theorem dX9_check_41 : decode cX9_check 41 = .ok (.aload_n 0, 1) := by decide +kernel
theorem dX9_check_42 : decode cX9_check 42 = .ok (.aload_n 0, 1) := by decide +kernel
theorem dX9_check_43 : decode cX9_check 43 = .ok (.getfield 80, 3) := by decide +kernel
theorem dX9_check_46 : decode cX9_check 46 = .ok (.iload_n 2, 1) := by decide +kernel
theorem dX9_check_47 : decode cX9_check 47 = .ok (.iaload, 1) := by decide +kernel
theorem dX9_check_48 : decode cX9_check 48 = .ok (.invokevirtual 182, 3) := by decide +kernel
theorem dX9_check_51 : decode cX9_check 51 = .ok (.if_icmp .ne 30, 3) := by decide +kernel
theorem dX9_check_54 : decode cX9_check 54 = .ok (.aload_n 0, 1) := by decide +kernel
theorem dX9_check_55 : decode cX9_check 55 = .ok (.getfield 68, 3) := by decide +kernel
theorem dX9_check_58 : decode cX9_check 58 = .ok (.iconst 2, 1) := by decide +kernel
theorem dX9_check_59 : decode cX9_check 59 = .ok (.iload_n 2, 1) := by decide +kernel
theorem dX9_check_60 : decode cX9_check 60 = .ok (.imul, 1) := by decide +kernel
theorem dX9_check_61 : decode cX9_check 61 = .ok (.iconst 1, 1) := by decide +kernel
theorem dX9_check_62 : decode cX9_check 62 = .ok (.iadd, 1) := by decide +kernel
theorem dX9_check_63 : decode cX9_check 63 = .ok (.iaload, 1) := by decide +kernel
theorem dX9_check_64 : decode cX9_check 64 = .ok (.aload_n 0, 1) := by decide +kernel
theorem dX9_check_65 : decode cX9_check 65 = .ok (.aload_n 0, 1) := by decide +kernel
theorem dX9_check_66 : decode cX9_check 66 = .ok (.getfield 83, 3) := by decide +kernel
theorem dX9_check_69 : decode cX9_check 69 = .ok (.iload_n 2, 1) := by decide +kernel
theorem dX9_check_70 : decode cX9_check 70 = .ok (.iaload, 1) := by decide +kernel
theorem dX9_check_71 : decode cX9_check 71 = .ok (.invokevirtual 182, 3) := by decide +kernel
theorem dX9_check_74 : decode cX9_check 74 = .ok (.if_icmp .ne 7, 3) := by decide +kernel
theorem dX9_check_77 : decode cX9_check 77 = .ok (.iconst 1, 1) := by decide +kernel
theorem dX9_check_78 : decode cX9_check 78 = .ok (.goto 4, 3) := by decide +kernel
theorem dX9_check_81 : decode cX9_check 81 = .ok (.iconst 0, 1) := by decide +kernel
theorem dX9_check_82 : decode cX9_check 82 = .ok (.istore_n 3, 1) := by decide +kernel
theorem dX9_check_83 : decode cX9_check 83 = .ok (.iload_n 3, 1) := by decide +kernel
theorem dX9_check_84 : decode cX9_check 84 = .ok (.ifCond .ne 8, 3) := by decide +kernel
theorem dX9_check_87 : decode cX9_check 87 = .ok (.lconst 1, 1) := by decide +kernel
theorem dX9_check_88 : decode cX9_check 88 = .ok (.iload_n 2, 1) := by decide +kernel
theorem dX9_check_89 : decode cX9_check 89 = .ok (.i2l, 1) := by decide +kernel
theorem dX9_check_90 : decode cX9_check 90 = .ok (.ladd, 1) := by decide +kernel
theorem dX9_check_91 : decode cX9_check 91 = .ok (.lreturn, 1) := by decide +kernel
theorem dX9_check_92 : decode cX9_check 92 = .ok (.iinc 2 1, 3) := by decide +kernel
theorem dX9_check_95 : decode cX9_check 95 = .ok (.goto (-79), 3) := by decide +kernel
theorem dX9_check_98 : decode cX9_check 98 = .ok (.iload_n 1, 1) := by decide +kernel
theorem dX9_check_99 : decode cX9_check 99 = .ok (.iconst 2, 1) := by decide +kernel
theorem dX9_check_100 : decode cX9_check 100 = .ok (.aload_n 0, 1) := by decide +kernel
theorem dX9_check_101 : decode cX9_check 101 = .ok (.getfield 202, 3) := by decide +kernel
theorem dX9_check_104 : decode cX9_check 104 = .ok (.imul, 1) := by decide +kernel
theorem dX9_check_105 : decode cX9_check 105 = .ok (.if_icmp .le 9, 3) := by decide +kernel
theorem dX9_check_108 : decode cX9_check 108 = .ok (.ldc2_w 254, 3) := by decide +kernel
theorem dX9_check_111 : decode cX9_check 111 = .ok (.goto 4, 3) := by decide +kernel
theorem dX9_check_114 : decode cX9_check 114 = .ok (.lconst 0, 1) := by decide +kernel
theorem dX9_check_115 : decode cX9_check 115 = .ok (.lreturn, 1) := by decide +kernel
set_option maxRecDepth 20000 in
theorem ggX9_count_X9_playing : GoodIn wsX9_count wsX9_playing := goodIn_r _ [12, 13, 20, 21, 22, 23, 24, 25, 26, 27, 28, 29, 30, 31, 32, 33, 34, 35, 36, 37, 38, 39, 40, 41, 42, 43, 44, 45, 46, 47, 48, 49, 50, 51, 52] (by decide +kernel) (by decide +kernel)
set_option maxRecDepth 20000 in
theorem gX9_count_X9_playing : GoodIn wsX9_count (wsV RX9 205 RX9 yX9_playing wsX9_playing) := goodIn_app (goodIn_of _ (by decide +kernel)) ggX9_count_X9_playing
set_option maxRecDepth 20000 in
theorem ggX9_count_X9_finding : GoodIn wsX9_count wsX9_finding := goodIn_r _ [17, 18, 19, 20, 21, 22, 23, 24, 25, 26, 27, 28, 29, 30, 31, 32, 33, 34, 35, 36, 37, 38, 39, 40, 41, 42, 43, 44, 45, 46, 47, 48, 49, 50, 51, 52] (by decide +kernel) (by decide +kernel)
set_option maxRecDepth 20000 in
theorem gX9_count_X9_finding : GoodIn wsX9_count (wsV RX9 111 RX9 yX9_finding wsX9_finding) := goodIn_app (goodIn_of _ (by decide +kernel)) ggX9_count_X9_finding
theorem dX9_count_0 : decode cX9_count 0 = .ok (.iload_n 1, 1) := by decide +kernel
theorem dX9_count_1 : decode cX9_count 1 = .ok (.tableswitch 85 0 6 #[43, 49, 55, 61, 67, 73, 79], 43) := by decide +kernel
theorem dX9_count_44 : decode cX9_count 44 = .ok (.aload_n 0, 1) := by decide +kernel
theorem dX9_count_45 : decode cX9_count 45 = .ok (.getfield 94, 3) := by decide +kernel
theorem dX9_count_48 : decode cX9_count 48 = .ok (.i2l, 1) := by decide +kernel
theorem dX9_count_49 : decode cX9_count 49 = .ok (.lreturn, 1) := by decide +kernel
theorem dX9_count_50 : decode cX9_count 50 = .ok (.aload_n 0, 1) := by decide +kernel
theorem dX9_count_51 : decode cX9_count 51 = .ok (.getfield 89, 3) := by decide +kernel
theorem dX9_count_54 : decode cX9_count 54 = .ok (.i2l, 1) := by decide +kernel
theorem dX9_count_55 : decode cX9_count 55 = .ok (.lreturn, 1) := by decide +kernel
theorem dX9_count_56 : decode cX9_count 56 = .ok (.aload_n 0, 1) := by decide +kernel
theorem dX9_count_57 : decode cX9_count 57 = .ok (.getfield 159, 3) := by decide +kernel
theorem dX9_count_60 : decode cX9_count 60 = .ok (.i2l, 1) := by decide +kernel
theorem dX9_count_61 : decode cX9_count 61 = .ok (.lreturn, 1) := by decide +kernel
theorem dX9_count_62 : decode cX9_count 62 = .ok (.aload_n 0, 1) := by decide +kernel
theorem dX9_count_63 : decode cX9_count 63 = .ok (.invokevirtual 205, 3) := by decide +kernel
theorem dX9_count_66 : decode cX9_count 66 = .ok (.i2l, 1) := by decide +kernel
theorem dX9_count_67 : decode cX9_count 67 = .ok (.lreturn, 1) := by decide +kernel
theorem dX9_count_68 : decode cX9_count 68 = .ok (.aload_n 0, 1) := by decide +kernel
theorem dX9_count_69 : decode cX9_count 69 = .ok (.getfield 237, 3) := by decide +kernel
theorem dX9_count_72 : decode cX9_count 72 = .ok (.i2l, 1) := by decide +kernel
theorem dX9_count_73 : decode cX9_count 73 = .ok (.lreturn, 1) := by decide +kernel
theorem dX9_count_74 : decode cX9_count 74 = .ok (.aload_n 0, 1) := by decide +kernel
theorem dX9_count_75 : decode cX9_count 75 = .ok (.getfield 251, 3) := by decide +kernel
theorem dX9_count_78 : decode cX9_count 78 = .ok (.i2l, 1) := by decide +kernel
theorem dX9_count_79 : decode cX9_count 79 = .ok (.lreturn, 1) := by decide +kernel
theorem dX9_count_80 : decode cX9_count 80 = .ok (.aload_n 0, 1) := by decide +kernel
theorem dX9_count_81 : decode cX9_count 81 = .ok (.getfield 26, 3) := by decide +kernel
theorem dX9_count_84 : decode cX9_count 84 = .ok (.i2l, 1) := by decide +kernel
theorem dX9_count_85 : decode cX9_count 85 = .ok (.lreturn, 1) := by decide +kernel
theorem dX9_count_86 : decode cX9_count 86 = .ok (.aload_n 0, 1) := by decide +kernel
theorem dX9_count_87 : decode cX9_count 87 = .ok (.ldc2_w 109, 3) := by decide +kernel
theorem dX9_count_90 : decode cX9_count 90 = .ok (.invokevirtual 111, 3) := by decide +kernel
theorem dX9_count_93 : decode cX9_count 93 = .ok (.lreturn, 1) := by decide +kernel
set_option maxRecDepth 20000 in
theorem ggX9_found_X9_in : GoodIn wsX9_found wsX9_in := goodIn_r _ [7] (by decide +kernel) (by decide +kernel)
set_option maxRecDepth 20000 in
theorem gX9_found_X9_in : GoodIn wsX9_found (va_wsS RX9 97 yX9_in wsX9_in) := goodIn_app (goodIn_of _ (by decide +kernel)) ggX9_found_X9_in
set_option maxRecDepth 20000 in
theorem ggX9_found_X9_finding : GoodIn wsX9_found wsX9_finding := goodIn_r _ [11, 2, 12, 13, 14, 15, 16, 17, 18, 19, 20, 21, 22, 23, 24, 25, 26, 27, 28, 29, 30, 31, 32, 33, 34, 35, 36, 37, 38, 39, 40, 41, 42, 43, 44, 45] (by decide +kernel) (by decide +kernel)
set_option maxRecDepth 20000 in
theorem gX9_found_X9_finding : GoodIn wsX9_found (wsV RX9 111 RX9 yX9_finding wsX9_finding) := goodIn_app (goodIn_of _ (by decide +kernel)) ggX9_found_X9_finding
theorem dX9_found_0 : decode cX9_found 0 = .ok (.iload_n 1, 1) := by decide +kernel
theorem dX9_found_1 : decode cX9_found 1 = .ok (.i2l, 1) := by decide +kernel
theorem dX9_found_2 : decode cX9_found 2 = .ok (.lconst 1, 1) := by decide +kernel
theorem dX9_found_3 : decode cX9_found 3 = .ok (.ldc2_w 256, 3) := by decide +kernel
theorem dX9_found_6 : decode cX9_found 6 = .ok (.invokestatic 97, 3) := by decide +kernel
theorem dX9_found_9 : decode cX9_found 9 = .ok (.ifCond .eq 13, 3) := by decide +kernel
theorem dX9_found_12 : decode cX9_found 12 = .ok (.aload_n 0, 1) := by decide +kernel
theorem dX9_found_13 : decode cX9_found 13 = .ok (.getfield 9, 3) := by decide +kernel
theorem dX9_found_16 : decode cX9_found 16 = .ok (.iload_n 1, 1) := by decide +kernel
theorem dX9_found_17 : decode cX9_found 17 = .ok (.iaload, 1) := by decide +kernel
theorem dX9_found_18 : decode cX9_found 18 = .ok (.i2l, 1) := by decide +kernel
theorem dX9_found_19 : decode cX9_found 19 = .ok (.goto 10, 3) := by decide +kernel
theorem dX9_found_22 : decode cX9_found 22 = .ok (.aload_n 0, 1) := by decide +kernel
theorem dX9_found_23 : decode cX9_found 23 = .ok (.ldc2_w 109, 3) := by decide +kernel
theorem dX9_found_26 : decode cX9_found 26 = .ok (.invokevirtual 111, 3) := by decide +kernel
theorem dX9_found_29 : decode cX9_found 29 = .ok (.lreturn, 1) := by decide +kernel
theorem dJ6_bitCount_0f7a4_0 : decode cJ6_bitCount_0f7a4 0 = .ok (.iload_n 0, 1) := by decide +kernel
theorem dJ6_bitCount_0f7a4_1 : decode cJ6_bitCount_0f7a4 1 = .ok (.iload_n 0, 1) := by decide +kernel
theorem dJ6_bitCount_0f7a4_2 : decode cJ6_bitCount_0f7a4 2 = .ok (.iconst 1, 1) := by decide +kernel
theorem dJ6_bitCount_0f7a4_3 : decode cJ6_bitCount_0f7a4 3 = .ok (.iushr, 1) := by decide +kernel
theorem dJ6_bitCount_0f7a4_4 : decode cJ6_bitCount_0f7a4 4 = .ok (.ldc_w 265, 3) := by decide +kernel
theorem dJ6_bitCount_0f7a4_7 : decode cJ6_bitCount_0f7a4 7 = .ok (.iand, 1) := by decide +kernel
theorem dJ6_bitCount_0f7a4_8 : decode cJ6_bitCount_0f7a4 8 = .ok (.isub, 1) := by decide +kernel
theorem dJ6_bitCount_0f7a4_9 : decode cJ6_bitCount_0f7a4 9 = .ok (.istore_n 0, 1) := by decide +kernel
theorem dJ6_bitCount_0f7a4_10 : decode cJ6_bitCount_0f7a4 10 = .ok (.iload_n 0, 1) := by decide +kernel
theorem dJ6_bitCount_0f7a4_11 : decode cJ6_bitCount_0f7a4 11 = .ok (.ldc_w 266, 3) := by decide +kernel
theorem dJ6_bitCount_0f7a4_14 : decode cJ6_bitCount_0f7a4 14 = .ok (.iand, 1) := by decide +kernel
theorem dJ6_bitCount_0f7a4_15 : decode cJ6_bitCount_0f7a4 15 = .ok (.iload_n 0, 1) := by decide +kernel
theorem dJ6_bitCount_0f7a4_16 : decode cJ6_bitCount_0f7a4 16 = .ok (.iconst 2, 1) := by decide +kernel
theorem dJ6_bitCount_0f7a4_17 : decode cJ6_bitCount_0f7a4 17 = .ok (.iushr, 1) := by decide +kernel
theorem dJ6_bitCount_0f7a4_18 : decode cJ6_bitCount_0f7a4 18 = .ok (.ldc_w 266, 3) := by decide +kernel
theorem dJ6_bitCount_0f7a4_21 : decode cJ6_bitCount_0f7a4 21 = .ok (.iand, 1) := by decide +kernel
theorem dJ6_bitCount_0f7a4_22 : decode cJ6_bitCount_0f7a4 22 = .ok (.iadd, 1) := by decide +kernel
theorem dJ6_bitCount_0f7a4_23 : decode cJ6_bitCount_0f7a4 23 = .ok (.istore_n 0, 1) := by decide +kernel
theorem dJ6_bitCount_0f7a4_24 : decode cJ6_bitCount_0f7a4 24 = .ok (.iload_n 0, 1) := by decide +kernel
theorem dJ6_bitCount_0f7a4_25 : decode cJ6_bitCount_0f7a4 25 = .ok (.iload_n 0, 1) := by decide +kernel
theorem dJ6_bitCount_0f7a4_26 : decode cJ6_bitCount_0f7a4 26 = .ok (.iconst 4, 1) := by decide +kernel
theorem dJ6_bitCount_0f7a4_27 : decode cJ6_bitCount_0f7a4 27 = .ok (.iushr, 1) := by decide +kernel
theorem dJ6_bitCount_0f7a4_28 : decode cJ6_bitCount_0f7a4 28 = .ok (.iadd, 1) := by decide +kernel
theorem dJ6_bitCount_0f7a4_29 : decode cJ6_bitCount_0f7a4 29 = .ok (.ldc_w 267, 3) := by decide +kernel
theorem dJ6_bitCount_0f7a4_32 : decode cJ6_bitCount_0f7a4 32 = .ok (.iand, 1) := by decide +kernel
theorem dJ6_bitCount_0f7a4_33 : decode cJ6_bitCount_0f7a4 33 = .ok (.istore_n 0, 1) := by decide +kernel
theorem dJ6_bitCount_0f7a4_34 : decode cJ6_bitCount_0f7a4 34 = .ok (.iload_n 0, 1) := by decide +kernel
theorem dJ6_bitCount_0f7a4_35 : decode cJ6_bitCount_0f7a4 35 = .ok (.iload_n 0, 1) := by decide +kernel
theorem dJ6_bitCount_0f7a4_36 : decode cJ6_bitCount_0f7a4 36 = .ok (.bipush 8, 2) := by decide +kernel
theorem dJ6_bitCount_0f7a4_38 : decode cJ6_bitCount_0f7a4 38 = .ok (.iushr, 1) := by decide +kernel
theorem dJ6_bitCount_0f7a4_39 : decode cJ6_bitCount_0f7a4 39 = .ok (.iadd, 1) := by decide +kernel
theorem dJ6_bitCount_0f7a4_40 : decode cJ6_bitCount_0f7a4 40 = .ok (.istore_n 0, 1) := by decide +kernel
theorem dJ6_bitCount_0f7a4_41 : decode cJ6_bitCount_0f7a4 41 = .ok (.iload_n 0, 1) := by decide +kernel
theorem dJ6_bitCount_0f7a4_42 : decode cJ6_bitCount_0f7a4 42 = .ok (.iload_n 0, 1) := by decide +kernel
theorem dJ6_bitCount_0f7a4_43 : decode cJ6_bitCount_0f7a4 43 = .ok (.bipush 16, 2) := by decide +kernel
theorem dJ6_bitCount_0f7a4_45 : decode cJ6_bitCount_0f7a4 45 = .ok (.iushr, 1) := by decide +kernel
theorem dJ6_bitCount_0f7a4_46 : decode cJ6_bitCount_0f7a4 46 = .ok (.iadd, 1) := by decide +kernel
theorem dJ6_bitCount_0f7a4_47 : decode cJ6_bitCount_0f7a4 47 = .ok (.istore_n 0, 1) := by decide +kernel
theorem dJ6_bitCount_0f7a4_48 : decode cJ6_bitCount_0f7a4 48 = .ok (.iload_n 0, 1) := by decide +kernel
theorem dJ6_bitCount_0f7a4_49 : decode cJ6_bitCount_0f7a4 49 = .ok (.bipush 63, 2) := by decide +kernel
theorem dJ6_bitCount_0f7a4_51 : decode cJ6_bitCount_0f7a4 51 = .ok (.iand, 1) := by decide +kernel
theorem dJ6_bitCount_0f7a4_52 : decode cJ6_bitCount_0f7a4 52 = .ok (.ireturn, 1) := by decide +kernel
theorem dJ9_abs_067f4_0 : decode cJ9_abs_067f4 0 = .ok (.lload_n 0, 1) := by decide +kernel
theorem dJ9_abs_067f4_1 : decode cJ9_abs_067f4 1 = .ok (.lconst 0, 1) := by decide +kernel
theorem dJ9_abs_067f4_2 : decode cJ9_abs_067f4 2 = .ok (.lcmp, 1) := by decide +kernel
theorem dJ9_abs_067f4_3 : decode cJ9_abs_067f4 3 = .ok (.ifCond .ge 8, 3) := by decide +kernel
theorem dJ9_abs_067f4_6 : decode cJ9_abs_067f4 6 = .ok (.lload_n 0, 1) := by decide +kernel
theorem dJ9_abs_067f4_7 : decode cJ9_abs_067f4 7 = .ok (.lneg, 1) := by decide +kernel
theorem dJ9_abs_067f4_8 : decode cJ9_abs_067f4 8 = .ok (.goto 4, 3) := by decide +kernel
theorem dJ9_abs_067f4_11 : decode cJ9_abs_067f4 11 = .ok (.lload_n 0, 1) := by decide +kernel
theorem dJ9_abs_067f4_12 : decode cJ9_abs_067f4 12 = .ok (.lreturn, 1) := by decide +kernel
theorem dJ9_min_7cf53_0 : decode cJ9_min_7cf53 0 = .ok (.iload_n 0, 1) := by decide +kernel
theorem dJ9_min_7cf53_1 : decode cJ9_min_7cf53 1 = .ok (.iload_n 1, 1) := by decide +kernel
theorem dJ9_min_7cf53_2 : decode cJ9_min_7cf53 2 = .ok (.if_icmp .gt 7, 3) := by decide +kernel
theorem dJ9_min_7cf53_5 : decode cJ9_min_7cf53 5 = .ok (.iload_n 0, 1) := by decide +kernel
theorem dJ9_min_7cf53_6 : decode cJ9_min_7cf53 6 = .ok (.goto 4, 3) := by decide +kernel
theorem dJ9_min_7cf53_9 : decode cJ9_min_7cf53 9 = .ok (.iload_n 1, 1) := by decide +kernel
theorem dJ9_min_7cf53_10 : decode cJ9_min_7cf53 10 = .ok (.ireturn, 1) := by decide +kernel
theorem dJ9_min_f86c9_0 : decode cJ9_min_f86c9 0 = .ok (.lload_n 0, 1) := by decide +kernel
theorem dJ9_min_f86c9_1 : decode cJ9_min_f86c9 1 = .ok (.lload_n 2, 1) := by decide +kernel
theorem dJ9_min_f86c9_2 : decode cJ9_min_f86c9 2 = .ok (.lcmp, 1) := by decide +kernel
theorem dJ9_min_f86c9_3 : decode cJ9_min_f86c9 3 = .ok (.ifCond .gt 7, 3) := by decide +kernel
theorem dJ9_min_f86c9_6 : decode cJ9_min_f86c9 6 = .ok (.lload_n 0, 1) := by decide +kernel
theorem dJ9_min_f86c9_7 : decode cJ9_min_f86c9 7 = .ok (.goto 4, 3) := by decide +kernel
theorem dJ9_min_f86c9_10 : decode cJ9_min_f86c9 10 = .ok (.lload_n 2, 1) := by decide +kernel
theorem dJ9_min_f86c9_11 : decode cJ9_min_f86c9 11 = .ok (.lreturn, 1) := by decide +kernel
end
section
/-! the abstract state: what the int and long fields and elements of each cell hold, by the cell's number in the world and the place in it -/
abbrev fqS : Type := (Nat → Nat → Int32) × (Nat → Nat → Int64)
def fqI (σ : fqS) (c k : Nat) : Int32 := σ.1 c k
def fqJ (σ : fqS) (c k : Nat) : Int64 := σ.2 c k
def fqPI (σ : fqS) (c k : Nat) (v : Int32) : fqS := (va_up σ.1 c (upd (σ.1 c) k v), σ.2)
def fqPJ (σ : fqS) (c k : Nat) (v : Int64) : fqS := (σ.1, va_up σ.2 c (vp_updL (σ.2 c) k v))
/-- a table of cells: of the addresses, the number of players, the cell's number and what it holds -/
abbrev fqT : Type := (Nat → Nat) → Nat → Nat → (Nat → Int32) → (Nat → Int64) → va_E
def fqW (T : fqT) (Z : Nat → Nat) (ad : Nat → Nat) (n : Nat) (σ : fqS) : va_W := (List.range (Z n)).map (fun c => (ad c, T ad n c (σ.1 c) (σ.2 c)))
theorem fqW_get {T : fqT} {Z : Nat → Nat} {ad : Nat → Nat} {n : Nat} {σ : fqS} {c : Nat} (h : c < Z n) : (fqW T Z ad n σ)[c]? = some (ad c, T ad n c (σ.1 c) (σ.2 c)) := by
  simp [fqW, h]
theorem fqW_set {T : fqT} {Z : Nat → Nat} {ad : Nat → Nat} {n : Nat} {σ σ' : fqS} {c : Nat} {e : va_E} (h : c < Z n) (he : T ad n c (σ'.1 c) (σ'.2 c) = e) (ho : ∀ j, j ≠ c → σ'.1 j = σ.1 j ∧ σ'.2 j = σ.2 j) : (fqW T Z ad n σ).set c (ad c, e) = fqW T Z ad n σ' := by
  subst he
  apply List.ext_getElem?
  intro i
  rw [List.getElem?_set]
  by_cases hi : c = i
  · subst hi
    rw [if_pos rfl, fqW_get h]
    simp [fqW, h]
  · rw [if_neg hi]
    obtain ⟨h1, h2⟩ := ho i (Ne.symm hi)
    simp only [fqW, List.getElem?_map]
    rcases Nat.lt_or_ge i (Z n) with q | q
    · rw [List.getElem?_range q]
      simp [h1, h2]
    · rw [List.getElem?_eq_none (by simpa using q)]
      rfl
theorem fqPI_o {σ : fqS} {c k : Nat} {v : Int32} : ∀ j, j ≠ c → (fqPI σ c k v).1 j = σ.1 j ∧ (fqPI σ c k v).2 j = σ.2 j := fun j h => ⟨va_up_ne _ _ h, rfl⟩
theorem fqPJ_o {σ : fqS} {c k : Nat} {v : Int64} : ∀ j, j ≠ c → (fqPJ σ c k v).1 j = σ.1 j ∧ (fqPJ σ c k v).2 j = σ.2 j := fun j h => ⟨rfl, va_up_ne _ _ h⟩
theorem fqPI_s {σ : fqS} {c k : Nat} {v : Int32} : (fqPI σ c k v).1 c = upd (σ.1 c) k v := va_up_self _ _ _
theorem fqPJ_s {σ : fqS} {c k : Nat} {v : Int64} : (fqPJ σ c k v).2 c = vp_updL (σ.2 c) k v := va_up_self _ _ _
/-- the array classes -/
abbrev fqTy (cy : Nat → ClassId) : List (ClassId × FieldType) := [(cy 0, .int), (cy 1, .long), (cy 2, .boolean), (cy 3, .object RX1), (cy 4, .object RX5)]
/-- the nest mates' links, which no word list holds -/
def fqNw (U : State) : Prop := va_Nw (.methodLinkNest RX5 28 yX8_evenShare RX8) U ∧ va_Nw (.methodLinkNest RX6 35 yX8_hasBit RX8) U ∧ va_Nw (.methodLinkNest RX7 34 yX8_hasBit RX8) U ∧ va_Nw (.methodLinkNest RX3 63 yX8_hasBit RX8) U ∧ va_Nw (.methodLinkNest RX6 46 yX8_bitOf RX8) U
def fqK (D : va_G) (cy : Nat → ClassId) (U : State) : Prop := va_K D vwCl (fqTy cy) U ∧ fqNw U
theorem fqK.warm {D : va_G} {cy : Nat → ClassId} {s U : State} (hW : s.WarmedH U.vm) (h : fqK D cy s) : fqK D cy U := ⟨va_K.moved hW.alike h.1, h.2.1.warmM hW, h.2.2.1.warmM hW, h.2.2.2.1.warmM hW, h.2.2.2.2.1.warmM hW, h.2.2.2.2.2.warmM hW⟩
theorem fqK.calling {D : va_G} {cy : Nat → ClassId} {U : State} (g : JFrame) (mk : MethodId) (a : Array Value) (h : fqK D cy U) : fqK D cy (U.calling g mk a) := ⟨va_K.moved (u := U) (U := U.calling g mk a) (Vm.Alike.refl U.vm) h.1, h.2.1.same rfl rfl, h.2.2.1.same rfl rfl, h.2.2.2.1.same rfl rfl, h.2.2.2.2.1.same rfl rfl, h.2.2.2.2.2.same rfl rfl⟩
/-- the world at a point of a walk -/
def fqO (T : fqT) (Z : Nat → Nat) (D : va_G) (ad : Nat → Nat) (n : Nat) (A : Nat → Prop) (H0 : Heap) (σ : fqS) (H : Heap) (locs : List Loc) : Prop := va_P D vwCl (fqW T Z ad n σ) H ∧ va_D A (fqW T Z ad n σ) ∧ va_S A H0 H locs
def fqA (T : fqT) (Z : Nat → Nat) (ad : Nat → Nat) (sz n : Nat) (σ : fqS) : Nat → Prop := va_A (fqW T Z ad n σ) sz
def fqPc (T : fqT) (Z : Nat → Nat) (D : va_G) (cy : Nat → ClassId) (ad : Nat → Nat) (sz n : Nat) (σ : fqS) (av : List Value) : Array Value → State → Prop := va_Pc av (fun U => U.heap.size = sz ∧ va_P D vwCl (fqW T Z ad n σ) U.heap ∧ fqK D cy U ∧ va_D (fun _ => True) (fqW T Z ad n σ))
def fqB (T : fqT) (Z : Nat → Nat) (D : va_G) (ad : Nat → Nat) (sz n : Nat) (σ σ' : fqS) (t : State) : Prop := va_P D vwCl (fqW T Z ad n σ') t.heap ∧ va_D (fqA T Z ad sz n σ) (fqW T Z ad n σ')
def fqQl (T : fqT) (Z : Nat → Nat) (D : va_G) (ad : Nat → Nat) (sz n : Nat) (σ : fqS) (r : Int64) (σ' : fqS) : Array Value → State → Outcome → State → Prop := va_Ql (fun (x : Int64) (_ : Unit) => x = r) (fun _ t => fqB T Z D ad sz n σ σ' t) (fqA T Z ad sz n σ)
def fqQi (T : fqT) (Z : Nat → Nat) (D : va_G) (ad : Nat → Nat) (sz n : Nat) (σ : fqS) (r : Int32) (σ' : fqS) : Array Value → State → Outcome → State → Prop := va_Qi (fun (x : Int32) (_ : Unit) => x = r) (fun _ t => fqB T Z D ad sz n σ σ' t) (fqA T Z ad sz n σ)
def fqQv (T : fqT) (Z : Nat → Nat) (D : va_G) (ad : Nat → Nat) (sz n : Nat) (σ : fqS) (σ' : fqS) : Array Value → State → Outcome → State → Prop := va_Qv (fun (_ : Unit) => True) (fun _ t => fqB T Z D ad sz n σ σ' t) (fqA T Z ad sz n σ)
def fqQq (T : fqT) (Z : Nat → Nat) (D : va_G) (ad : Nat → Nat) (sz n : Nat) (σ : fqS) (r : Option Nat) (σ' : fqS) : Array Value → State → Outcome → State → Prop := va_Qq (fun (x : Option Nat) (_ : Unit) => x = r) (fun _ t => fqB T Z D ad sz n σ σ' t) (fqA T Z ad sz n σ)
theorem fqPc_blind {T : fqT} {Z : Nat → Nat} {D : va_G} {cy : Nat → ClassId} {ad : Nat → Nat} {sz n : Nat} {σ : fqS} {av : List Value} : FrameBlind (fqPc T Z D cy ad sz n σ av) := fun a U g mk q => by
  obtain ⟨q0, q1, qP, qK, qD⟩ := q
  exact ⟨q0, q1, qP, qK.calling g mk a, qD⟩
/-- a loop of a walk, by fuel -/
def fqL {σ α : Type} (body : (σ → Option α) → σ → Option α) : Nat → σ → Option α
  | 0, _ => none
  | k + 1, s => body (fqL body k) s
theorem fqL_run {σ α : Type} {body : (σ → Option α) → σ → Option α} {r : α} {P : σ → Prop} (h : ∀ (rec : σ → Option α) (s : σ), (∀ s', rec s' = some r → P s') → body rec s = some r → P s) : ∀ (k : Nat) (s : σ), fqL body k s = some r → P s := by
  intro k
  induction k with
  | zero => intro s hs; cases hs
  | succ k ih => intro s hs; exact h (fqL body k) s ih hs
theorem fq_t {α : Type} {c : Prop} [Decidable c] {x y z : α} (h : c) (hf : (if c then x else y) = z) : x = z := by rwa [if_pos h] at hf
theorem fq_f {α : Type} {c : Prop} [Decidable c] {x y z : α} (h : ¬ c) (hf : (if c then x else y) = z) : y = z := by rwa [if_neg h] at hf
theorem fq_in {α : Type} {i : Int32} {n : Nat} {x : Option α} {z : α} (hf : (if i < 0 ∨ n ≤ i.toNatClampNeg then none else x) = some z) : vp_in i n ∧ x = some z := by
  by_cases h : i < 0 ∨ n ≤ i.toNatClampNeg
  · rw [if_pos h] at hf; cases hf
  · rw [if_neg h] at hf; exact ⟨h, hf⟩
theorem fq_g {α : Type} {c : Prop} [Decidable c] {x : Option α} {z : α} (hf : (if c then x else none) = some z) : c ∧ x = some z := by
  by_cases h : c
  · rw [if_pos h] at hf; exact ⟨h, hf⟩
  · rw [if_neg h] at hf; cases hf
theorem fq_b {α β : Type} {x : Option α} {k : α → Option β} {z : β} (hf : x.bind k = some z) : ∃ y, x = some y ∧ k y = some z := by
  cases x with
  | none => cases hf
  | some y => exact ⟨y, rfl, hf⟩
end
section
/-- the machine's side of a walk, in one -/
abbrev fqX : Type := Program × Launch × Env × Room × State × MethodId × Array Value × List Frame × Method × Code × (State → Prop) × va_G × (Nat → Prop)
def fqE (X : fqX) (rm : Room) (cy : Nat → ClassId) (cc : ByteArray) (nL : Nat) (Ts : List Cond) (own : String) : Prop := match X with
  | (p, _, _, R, s, m, args, _, _, c, _, D, A) => CallFix p m c cc nL s args Ts own ∧ fqK D cy s ∧ (∀ q : Nat, s.heap.size ≤ q → A q) ∧ R = rm
/-- the goal of a walk: from any heap that holds the world of σ, and any locals that hold lv -/
def fqG (X : fqX) (T : fqT) (Z : Nat → Nat) (ad : Nat → Nat) (n nL cells slots : Nat) (σ : fqS) (pc : Nat) (lv : List (Nat × Value)) (st : List Value) : Prop := match X with
  | (p, l, e, R, s, m, args, below, meth, c, Q, D, A) => ∀ (H : Heap) (locs : List Loc) (ls : Array Slot), fqO T Z D ad n A s.heap σ H locs → lv_has ls nL lv → W p l e R s m args below meth c H locs cells slots Q (F0 m pc ls st)
section FQR
theorem g_iadd {X : fqX} {rm : Room} {cy : Nat → ClassId} {cc : ByteArray} {nL : Nat} {Ts : List Cond} {own : String} {T : fqT} {Z : Nat → Nat} {ad : Nat → Nat} {n cells slots : Nat} {σ : fqS} {pc : Nat} {lv : List (Nat × Value)} {rest : List Value} (E : fqE X rm cy cc nL Ts own) {x y : Int32} (hdg : decode cc pc = .ok (.iadd, 1)) 
    (k : fqG X T Z ad n nL cells slots σ (pc + 1) lv (.int (x + y) :: rest)) : fqG X T Z ad n nL cells slots σ pc lv (.int y :: .int x :: rest) := by
  obtain ⟨p, l, e, R, s, m, args, below, meth, c, Q, D, A⟩ := X
  obtain ⟨⟨hx, hb, hml, hown, hts⟩, hK, hA, hR⟩ := E
  exact fun H locs ls hw hl => lv_iadd hx hb hdg  (k H locs ls hw hl)
theorem g_isub {X : fqX} {rm : Room} {cy : Nat → ClassId} {cc : ByteArray} {nL : Nat} {Ts : List Cond} {own : String} {T : fqT} {Z : Nat → Nat} {ad : Nat → Nat} {n cells slots : Nat} {σ : fqS} {pc : Nat} {lv : List (Nat × Value)} {rest : List Value} (E : fqE X rm cy cc nL Ts own) {x y : Int32} (hdg : decode cc pc = .ok (.isub, 1)) 
    (k : fqG X T Z ad n nL cells slots σ (pc + 1) lv (.int (x - y) :: rest)) : fqG X T Z ad n nL cells slots σ pc lv (.int y :: .int x :: rest) := by
  obtain ⟨p, l, e, R, s, m, args, below, meth, c, Q, D, A⟩ := X
  obtain ⟨⟨hx, hb, hml, hown, hts⟩, hK, hA, hR⟩ := E
  exact fun H locs ls hw hl => lv_isub hx hb hdg  (k H locs ls hw hl)
theorem g_imul {X : fqX} {rm : Room} {cy : Nat → ClassId} {cc : ByteArray} {nL : Nat} {Ts : List Cond} {own : String} {T : fqT} {Z : Nat → Nat} {ad : Nat → Nat} {n cells slots : Nat} {σ : fqS} {pc : Nat} {lv : List (Nat × Value)} {rest : List Value} (E : fqE X rm cy cc nL Ts own) {x y : Int32} (hdg : decode cc pc = .ok (.imul, 1)) 
    (k : fqG X T Z ad n nL cells slots σ (pc + 1) lv (.int (x * y) :: rest)) : fqG X T Z ad n nL cells slots σ pc lv (.int y :: .int x :: rest) := by
  obtain ⟨p, l, e, R, s, m, args, below, meth, c, Q, D, A⟩ := X
  obtain ⟨⟨hx, hb, hml, hown, hts⟩, hK, hA, hR⟩ := E
  exact fun H locs ls hw hl => lv_imul hx hb hdg  (k H locs ls hw hl)
theorem g_iand {X : fqX} {rm : Room} {cy : Nat → ClassId} {cc : ByteArray} {nL : Nat} {Ts : List Cond} {own : String} {T : fqT} {Z : Nat → Nat} {ad : Nat → Nat} {n cells slots : Nat} {σ : fqS} {pc : Nat} {lv : List (Nat × Value)} {rest : List Value} (E : fqE X rm cy cc nL Ts own) {x y : Int32} (hdg : decode cc pc = .ok (.iand, 1)) 
    (k : fqG X T Z ad n nL cells slots σ (pc + 1) lv (.int (x &&& y) :: rest)) : fqG X T Z ad n nL cells slots σ pc lv (.int y :: .int x :: rest) := by
  obtain ⟨p, l, e, R, s, m, args, below, meth, c, Q, D, A⟩ := X
  obtain ⟨⟨hx, hb, hml, hown, hts⟩, hK, hA, hR⟩ := E
  exact fun H locs ls hw hl => lv_iand hx hb hdg  (k H locs ls hw hl)
theorem g_ior {X : fqX} {rm : Room} {cy : Nat → ClassId} {cc : ByteArray} {nL : Nat} {Ts : List Cond} {own : String} {T : fqT} {Z : Nat → Nat} {ad : Nat → Nat} {n cells slots : Nat} {σ : fqS} {pc : Nat} {lv : List (Nat × Value)} {rest : List Value} (E : fqE X rm cy cc nL Ts own) {x y : Int32} (hdg : decode cc pc = .ok (.ior, 1)) 
    (k : fqG X T Z ad n nL cells slots σ (pc + 1) lv (.int (x ||| y) :: rest)) : fqG X T Z ad n nL cells slots σ pc lv (.int y :: .int x :: rest) := by
  obtain ⟨p, l, e, R, s, m, args, below, meth, c, Q, D, A⟩ := X
  obtain ⟨⟨hx, hb, hml, hown, hts⟩, hK, hA, hR⟩ := E
  exact fun H locs ls hw hl => lv_ior hx hb hdg  (k H locs ls hw hl)
theorem g_ixor {X : fqX} {rm : Room} {cy : Nat → ClassId} {cc : ByteArray} {nL : Nat} {Ts : List Cond} {own : String} {T : fqT} {Z : Nat → Nat} {ad : Nat → Nat} {n cells slots : Nat} {σ : fqS} {pc : Nat} {lv : List (Nat × Value)} {rest : List Value} (E : fqE X rm cy cc nL Ts own) {x y : Int32} (hdg : decode cc pc = .ok (.ixor, 1)) 
    (k : fqG X T Z ad n nL cells slots σ (pc + 1) lv (.int (x ^^^ y) :: rest)) : fqG X T Z ad n nL cells slots σ pc lv (.int y :: .int x :: rest) := by
  obtain ⟨p, l, e, R, s, m, args, below, meth, c, Q, D, A⟩ := X
  obtain ⟨⟨hx, hb, hml, hown, hts⟩, hK, hA, hR⟩ := E
  exact fun H locs ls hw hl => lv_ixor hx hb hdg  (k H locs ls hw hl)
theorem g_ladd {X : fqX} {rm : Room} {cy : Nat → ClassId} {cc : ByteArray} {nL : Nat} {Ts : List Cond} {own : String} {T : fqT} {Z : Nat → Nat} {ad : Nat → Nat} {n cells slots : Nat} {σ : fqS} {pc : Nat} {lv : List (Nat × Value)} {rest : List Value} (E : fqE X rm cy cc nL Ts own) {x y : Int64} (hdg : decode cc pc = .ok (.ladd, 1)) 
    (k : fqG X T Z ad n nL cells slots σ (pc + 1) lv (.long (x + y) :: rest)) : fqG X T Z ad n nL cells slots σ pc lv (.long y :: .long x :: rest) := by
  obtain ⟨p, l, e, R, s, m, args, below, meth, c, Q, D, A⟩ := X
  obtain ⟨⟨hx, hb, hml, hown, hts⟩, hK, hA, hR⟩ := E
  exact fun H locs ls hw hl => lv_ladd hx hb hdg  (k H locs ls hw hl)
theorem g_lsub {X : fqX} {rm : Room} {cy : Nat → ClassId} {cc : ByteArray} {nL : Nat} {Ts : List Cond} {own : String} {T : fqT} {Z : Nat → Nat} {ad : Nat → Nat} {n cells slots : Nat} {σ : fqS} {pc : Nat} {lv : List (Nat × Value)} {rest : List Value} (E : fqE X rm cy cc nL Ts own) {x y : Int64} (hdg : decode cc pc = .ok (.lsub, 1)) 
    (k : fqG X T Z ad n nL cells slots σ (pc + 1) lv (.long (x - y) :: rest)) : fqG X T Z ad n nL cells slots σ pc lv (.long y :: .long x :: rest) := by
  obtain ⟨p, l, e, R, s, m, args, below, meth, c, Q, D, A⟩ := X
  obtain ⟨⟨hx, hb, hml, hown, hts⟩, hK, hA, hR⟩ := E
  exact fun H locs ls hw hl => lv_lsub hx hb hdg  (k H locs ls hw hl)
theorem g_lmul {X : fqX} {rm : Room} {cy : Nat → ClassId} {cc : ByteArray} {nL : Nat} {Ts : List Cond} {own : String} {T : fqT} {Z : Nat → Nat} {ad : Nat → Nat} {n cells slots : Nat} {σ : fqS} {pc : Nat} {lv : List (Nat × Value)} {rest : List Value} (E : fqE X rm cy cc nL Ts own) {x y : Int64} (hdg : decode cc pc = .ok (.lmul, 1)) 
    (k : fqG X T Z ad n nL cells slots σ (pc + 1) lv (.long (x * y) :: rest)) : fqG X T Z ad n nL cells slots σ pc lv (.long y :: .long x :: rest) := by
  obtain ⟨p, l, e, R, s, m, args, below, meth, c, Q, D, A⟩ := X
  obtain ⟨⟨hx, hb, hml, hown, hts⟩, hK, hA, hR⟩ := E
  exact fun H locs ls hw hl => lv_lmul hx hb hdg  (k H locs ls hw hl)
theorem g_ineg {X : fqX} {rm : Room} {cy : Nat → ClassId} {cc : ByteArray} {nL : Nat} {Ts : List Cond} {own : String} {T : fqT} {Z : Nat → Nat} {ad : Nat → Nat} {n cells slots : Nat} {σ : fqS} {pc : Nat} {lv : List (Nat × Value)} {rest : List Value} (E : fqE X rm cy cc nL Ts own) {x : Int32} (hdg : decode cc pc = .ok (.ineg, 1)) 
    (k : fqG X T Z ad n nL cells slots σ (pc + 1) lv (.int (-x) :: rest)) : fqG X T Z ad n nL cells slots σ pc lv (.int x :: rest) := by
  obtain ⟨p, l, e, R, s, m, args, below, meth, c, Q, D, A⟩ := X
  obtain ⟨⟨hx, hb, hml, hown, hts⟩, hK, hA, hR⟩ := E
  exact fun H locs ls hw hl => lv_ineg hx hb hdg  (k H locs ls hw hl)
theorem g_lneg {X : fqX} {rm : Room} {cy : Nat → ClassId} {cc : ByteArray} {nL : Nat} {Ts : List Cond} {own : String} {T : fqT} {Z : Nat → Nat} {ad : Nat → Nat} {n cells slots : Nat} {σ : fqS} {pc : Nat} {lv : List (Nat × Value)} {rest : List Value} (E : fqE X rm cy cc nL Ts own) {x : Int64} (hdg : decode cc pc = .ok (.lneg, 1)) 
    (k : fqG X T Z ad n nL cells slots σ (pc + 1) lv (.long (-x) :: rest)) : fqG X T Z ad n nL cells slots σ pc lv (.long x :: rest) := by
  obtain ⟨p, l, e, R, s, m, args, below, meth, c, Q, D, A⟩ := X
  obtain ⟨⟨hx, hb, hml, hown, hts⟩, hK, hA, hR⟩ := E
  exact fun H locs ls hw hl => lv_lneg hx hb hdg  (k H locs ls hw hl)
theorem g_ldiv {X : fqX} {rm : Room} {cy : Nat → ClassId} {cc : ByteArray} {nL : Nat} {Ts : List Cond} {own : String} {T : fqT} {Z : Nat → Nat} {ad : Nat → Nat} {n cells slots : Nat} {σ : fqS} {pc : Nat} {lv : List (Nat × Value)} {rest : List Value} (E : fqE X rm cy cc nL Ts own) {x y : Int64} (hdg : decode cc pc = .ok (.ldiv, 1)) (hne : ¬ y = 0)
    (k : fqG X T Z ad n nL cells slots σ (pc + 1) lv (.long (x / y) :: rest)) : fqG X T Z ad n nL cells slots σ pc lv (.long y :: .long x :: rest) := by
  obtain ⟨p, l, e, R, s, m, args, below, meth, c, Q, D, A⟩ := X
  obtain ⟨⟨hx, hb, hml, hown, hts⟩, hK, hA, hR⟩ := E
  exact fun H locs ls hw hl => lv_ldiv hx hb hdg hne (k H locs ls hw hl)
theorem g_ishl {X : fqX} {rm : Room} {cy : Nat → ClassId} {cc : ByteArray} {nL : Nat} {Ts : List Cond} {own : String} {T : fqT} {Z : Nat → Nat} {ad : Nat → Nat} {n cells slots : Nat} {σ : fqS} {pc : Nat} {lv : List (Nat × Value)} {rest : List Value} (E : fqE X rm cy cc nL Ts own) {x y : Int32} (hdg : decode cc pc = .ok (.ishl, 1)) 
    (k : fqG X T Z ad n nL cells slots σ (pc + 1) lv (.int (x <<< (y &&& 31)) :: rest)) : fqG X T Z ad n nL cells slots σ pc lv (.int y :: .int x :: rest) := by
  obtain ⟨p, l, e, R, s, m, args, below, meth, c, Q, D, A⟩ := X
  obtain ⟨⟨hx, hb, hml, hown, hts⟩, hK, hA, hR⟩ := E
  exact fun H locs ls hw hl => lv_ishl hx hb hdg  (k H locs ls hw hl)
theorem g_ishr {X : fqX} {rm : Room} {cy : Nat → ClassId} {cc : ByteArray} {nL : Nat} {Ts : List Cond} {own : String} {T : fqT} {Z : Nat → Nat} {ad : Nat → Nat} {n cells slots : Nat} {σ : fqS} {pc : Nat} {lv : List (Nat × Value)} {rest : List Value} (E : fqE X rm cy cc nL Ts own) {x y : Int32} (hdg : decode cc pc = .ok (.ishr, 1)) 
    (k : fqG X T Z ad n nL cells slots σ (pc + 1) lv (.int (x >>> (y &&& 31)) :: rest)) : fqG X T Z ad n nL cells slots σ pc lv (.int y :: .int x :: rest) := by
  obtain ⟨p, l, e, R, s, m, args, below, meth, c, Q, D, A⟩ := X
  obtain ⟨⟨hx, hb, hml, hown, hts⟩, hK, hA, hR⟩ := E
  exact fun H locs ls hw hl => lv_ishr hx hb hdg  (k H locs ls hw hl)
theorem g_iushr {X : fqX} {rm : Room} {cy : Nat → ClassId} {cc : ByteArray} {nL : Nat} {Ts : List Cond} {own : String} {T : fqT} {Z : Nat → Nat} {ad : Nat → Nat} {n cells slots : Nat} {σ : fqS} {pc : Nat} {lv : List (Nat × Value)} {rest : List Value} (E : fqE X rm cy cc nL Ts own) {x y : Int32} (hdg : decode cc pc = .ok (.iushr, 1)) 
    (k : fqG X T Z ad n nL cells slots σ (pc + 1) lv (.int ((x.toUInt32 >>> (y.toUInt32 &&& Int32.toUInt32 31)).toInt32) :: rest)) : fqG X T Z ad n nL cells slots σ pc lv (.int y :: .int x :: rest) := by
  obtain ⟨p, l, e, R, s, m, args, below, meth, c, Q, D, A⟩ := X
  obtain ⟨⟨hx, hb, hml, hown, hts⟩, hK, hA, hR⟩ := E
  exact fun H locs ls hw hl => lv_iushr hx hb hdg rfl (k H locs ls hw hl)
theorem g_i2l {X : fqX} {rm : Room} {cy : Nat → ClassId} {cc : ByteArray} {nL : Nat} {Ts : List Cond} {own : String} {T : fqT} {Z : Nat → Nat} {ad : Nat → Nat} {n cells slots : Nat} {σ : fqS} {pc : Nat} {lv : List (Nat × Value)} {rest : List Value} (E : fqE X rm cy cc nL Ts own) {x : Int32} (hdg : decode cc pc = .ok (.i2l, 1)) 
    (k : fqG X T Z ad n nL cells slots σ (pc + 1) lv (.long x.toInt64 :: rest)) : fqG X T Z ad n nL cells slots σ pc lv (.int x :: rest) := by
  obtain ⟨p, l, e, R, s, m, args, below, meth, c, Q, D, A⟩ := X
  obtain ⟨⟨hx, hb, hml, hown, hts⟩, hK, hA, hR⟩ := E
  exact fun H locs ls hw hl => lv_i2l hx hb hdg rfl (k H locs ls hw hl)
theorem g_l2i {X : fqX} {rm : Room} {cy : Nat → ClassId} {cc : ByteArray} {nL : Nat} {Ts : List Cond} {own : String} {T : fqT} {Z : Nat → Nat} {ad : Nat → Nat} {n cells slots : Nat} {σ : fqS} {pc : Nat} {lv : List (Nat × Value)} {rest : List Value} (E : fqE X rm cy cc nL Ts own) {x : Int64} (hdg : decode cc pc = .ok (.l2i, 1)) 
    (k : fqG X T Z ad n nL cells slots σ (pc + 1) lv (.int x.toInt32 :: rest)) : fqG X T Z ad n nL cells slots σ pc lv (.long x :: rest) := by
  obtain ⟨p, l, e, R, s, m, args, below, meth, c, Q, D, A⟩ := X
  obtain ⟨⟨hx, hb, hml, hown, hts⟩, hK, hA, hR⟩ := E
  exact fun H locs ls hw hl => lv_l2i hx hb hdg rfl (k H locs ls hw hl)
theorem g_dup {X : fqX} {rm : Room} {cy : Nat → ClassId} {cc : ByteArray} {nL : Nat} {Ts : List Cond} {own : String} {T : fqT} {Z : Nat → Nat} {ad : Nat → Nat} {n cells slots : Nat} {σ : fqS} {pc : Nat} {lv : List (Nat × Value)} {rest : List Value} (E : fqE X rm cy cc nL Ts own) {v : Value} (hdg : decode cc pc = .ok (.dup, 1)) (hv : v.category = 1)
    (k : fqG X T Z ad n nL cells slots σ (pc + 1) lv (v :: v :: rest)) : fqG X T Z ad n nL cells slots σ pc lv (v :: rest) := by
  obtain ⟨p, l, e, R, s, m, args, below, meth, c, Q, D, A⟩ := X
  obtain ⟨⟨hx, hb, hml, hown, hts⟩, hK, hA, hR⟩ := E
  exact fun H locs ls hw hl => lv_dup hx hb hdg hv (k H locs ls hw hl)
theorem g_dup2_11 {X : fqX} {rm : Room} {cy : Nat → ClassId} {cc : ByteArray} {nL : Nat} {Ts : List Cond} {own : String} {T : fqT} {Z : Nat → Nat} {ad : Nat → Nat} {n cells slots : Nat} {σ : fqS} {pc : Nat} {lv : List (Nat × Value)} {rest : List Value} (E : fqE X rm cy cc nL Ts own) {v u : Value} (hdg : decode cc pc = .ok (.dup2, 1)) (hv : v.category = 1) (hu : u.category = 1)
    (k : fqG X T Z ad n nL cells slots σ (pc + 1) lv (v :: u :: v :: u :: rest)) : fqG X T Z ad n nL cells slots σ pc lv (v :: u :: rest) := by
  obtain ⟨p, l, e, R, s, m, args, below, meth, c, Q, D, A⟩ := X
  obtain ⟨⟨hx, hb, hml, hown, hts⟩, hK, hA, hR⟩ := E
  exact fun H locs ls hw hl => lv_dup2_11 hx hb hdg hv hu (k H locs ls hw hl)
theorem g_dup2_2 {X : fqX} {rm : Room} {cy : Nat → ClassId} {cc : ByteArray} {nL : Nat} {Ts : List Cond} {own : String} {T : fqT} {Z : Nat → Nat} {ad : Nat → Nat} {n cells slots : Nat} {σ : fqS} {pc : Nat} {lv : List (Nat × Value)} {rest : List Value} (E : fqE X rm cy cc nL Ts own) {v : Value} (hdg : decode cc pc = .ok (.dup2, 1)) (hv : v.category = 2)
    (k : fqG X T Z ad n nL cells slots σ (pc + 1) lv (v :: v :: rest)) : fqG X T Z ad n nL cells slots σ pc lv (v :: rest) := by
  obtain ⟨p, l, e, R, s, m, args, below, meth, c, Q, D, A⟩ := X
  obtain ⟨⟨hx, hb, hml, hown, hts⟩, hK, hA, hR⟩ := E
  exact fun H locs ls hw hl => lv_dup2_2 hx hb hdg hv (k H locs ls hw hl)
theorem g_pop {X : fqX} {rm : Room} {cy : Nat → ClassId} {cc : ByteArray} {nL : Nat} {Ts : List Cond} {own : String} {T : fqT} {Z : Nat → Nat} {ad : Nat → Nat} {n cells slots : Nat} {σ : fqS} {pc : Nat} {lv : List (Nat × Value)} {rest : List Value} (E : fqE X rm cy cc nL Ts own) {v : Value} (hdg : decode cc pc = .ok (.pop, 1)) (hv : v.category = 1)
    (k : fqG X T Z ad n nL cells slots σ (pc + 1) lv (rest)) : fqG X T Z ad n nL cells slots σ pc lv (v :: rest) := by
  obtain ⟨p, l, e, R, s, m, args, below, meth, c, Q, D, A⟩ := X
  obtain ⟨⟨hx, hb, hml, hown, hts⟩, hK, hA, hR⟩ := E
  exact fun H locs ls hw hl => lv_pop hx hb hdg hv (k H locs ls hw hl)
theorem g_iconst {X : fqX} {rm : Room} {cy : Nat → ClassId} {cc : ByteArray} {nL : Nat} {Ts : List Cond} {own : String} {T : fqT} {Z : Nat → Nat} {ad : Nat → Nat} {n cells slots : Nat} {σ : fqS} {pc : Nat} {lv : List (Nat × Value)} {rest : List Value} (E : fqE X rm cy cc nL Ts own) {i : Int} (v : Int32) (hdg : decode cc pc = .ok (.iconst i, 1)) (hv : Int32.ofInt i = v)
    (k : fqG X T Z ad n nL cells slots σ (pc + 1) lv (.int v :: rest)) : fqG X T Z ad n nL cells slots σ pc lv (rest) := by
  obtain ⟨p, l, e, R, s, m, args, below, meth, c, Q, D, A⟩ := X
  obtain ⟨⟨hx, hb, hml, hown, hts⟩, hK, hA, hR⟩ := E
  exact fun H locs ls hw hl => lv_iconst hx hb hdg hv (k H locs ls hw hl)
theorem g_bipush {X : fqX} {rm : Room} {cy : Nat → ClassId} {cc : ByteArray} {nL : Nat} {Ts : List Cond} {own : String} {T : fqT} {Z : Nat → Nat} {ad : Nat → Nat} {n cells slots : Nat} {σ : fqS} {pc : Nat} {lv : List (Nat × Value)} {rest : List Value} (E : fqE X rm cy cc nL Ts own) {i : Int} (v : Int32) (hdg : decode cc pc = .ok (.bipush i, 2)) (hv : (Int8.ofInt i).toInt32 = v)
    (k : fqG X T Z ad n nL cells slots σ (pc + 2) lv (.int v :: rest)) : fqG X T Z ad n nL cells slots σ pc lv (rest) := by
  obtain ⟨p, l, e, R, s, m, args, below, meth, c, Q, D, A⟩ := X
  obtain ⟨⟨hx, hb, hml, hown, hts⟩, hK, hA, hR⟩ := E
  exact fun H locs ls hw hl => lv_bipush hx hb hdg hv (k H locs ls hw hl)
theorem g_sipush {X : fqX} {rm : Room} {cy : Nat → ClassId} {cc : ByteArray} {nL : Nat} {Ts : List Cond} {own : String} {T : fqT} {Z : Nat → Nat} {ad : Nat → Nat} {n cells slots : Nat} {σ : fqS} {pc : Nat} {lv : List (Nat × Value)} {rest : List Value} (E : fqE X rm cy cc nL Ts own) {i : Int} (v : Int32) (hdg : decode cc pc = .ok (.sipush i, 3)) (hv : (Int16.ofInt i).toInt32 = v)
    (k : fqG X T Z ad n nL cells slots σ (pc + 3) lv (.int v :: rest)) : fqG X T Z ad n nL cells slots σ pc lv (rest) := by
  obtain ⟨p, l, e, R, s, m, args, below, meth, c, Q, D, A⟩ := X
  obtain ⟨⟨hx, hb, hml, hown, hts⟩, hK, hA, hR⟩ := E
  exact fun H locs ls hw hl => lv_sipush hx hb hdg hv (k H locs ls hw hl)
theorem g_lconst {X : fqX} {rm : Room} {cy : Nat → ClassId} {cc : ByteArray} {nL : Nat} {Ts : List Cond} {own : String} {T : fqT} {Z : Nat → Nat} {ad : Nat → Nat} {n cells slots : Nat} {σ : fqS} {pc : Nat} {lv : List (Nat × Value)} {rest : List Value} (E : fqE X rm cy cc nL Ts own) {i : Fin 2} (v : Int64) (hdg : decode cc pc = .ok (.lconst i, 1)) (hv : Int64.ofNat (i : Nat) = v)
    (k : fqG X T Z ad n nL cells slots σ (pc + 1) lv (.long v :: rest)) : fqG X T Z ad n nL cells slots σ pc lv (rest) := by
  obtain ⟨p, l, e, R, s, m, args, below, meth, c, Q, D, A⟩ := X
  obtain ⟨⟨hx, hb, hml, hown, hts⟩, hK, hA, hR⟩ := E
  exact fun H locs ls hw hl => lv_lconst hx hb hdg hv (k H locs ls hw hl)
theorem g_null {X : fqX} {rm : Room} {cy : Nat → ClassId} {cc : ByteArray} {nL : Nat} {Ts : List Cond} {own : String} {T : fqT} {Z : Nat → Nat} {ad : Nat → Nat} {n cells slots : Nat} {σ : fqS} {pc : Nat} {lv : List (Nat × Value)} {rest : List Value} (E : fqE X rm cy cc nL Ts own)  (hdg : decode cc pc = .ok (.aconst_null, 1)) 
    (k : fqG X T Z ad n nL cells slots σ (pc + 1) lv (.null :: rest)) : fqG X T Z ad n nL cells slots σ pc lv (rest) := by
  obtain ⟨p, l, e, R, s, m, args, below, meth, c, Q, D, A⟩ := X
  obtain ⟨⟨hx, hb, hml, hown, hts⟩, hK, hA, hR⟩ := E
  exact fun H locs ls hw hl => lv_null hx hb hdg  (k H locs ls hw hl)
theorem g_ldc {X : fqX} {rm : Room} {cy : Nat → ClassId} {cc : ByteArray} {nL : Nat} {Ts : List Cond} {own : String} {T : fqT} {Z : Nat → Nat} {ad : Nat → Nat} {n cells slots : Nat} {σ : fqS} {pc : Nat} {lv : List (Nat × Value)} {rest : List Value} (E : fqE X rm cy cc nL Ts own) {i : Nat} {v : Int32} (hdg : decode cc pc = .ok (.ldc i, 2)) (hc : Cond.constant own i v ∈ Ts)
    (k : fqG X T Z ad n nL cells slots σ (pc + 2) lv (.int v :: rest)) : fqG X T Z ad n nL cells slots σ pc lv (rest) := by
  obtain ⟨p, l, e, R, s, m, args, below, meth, c, Q, D, A⟩ := X
  obtain ⟨⟨hx, hb, hml, hown, hts⟩, hK, hA, hR⟩ := E
  exact fun H locs ls hw hl => lv_ldc hx hb hown (hts _ hc) hdg (k H locs ls hw hl)
theorem g_ldc_w {X : fqX} {rm : Room} {cy : Nat → ClassId} {cc : ByteArray} {nL : Nat} {Ts : List Cond} {own : String} {T : fqT} {Z : Nat → Nat} {ad : Nat → Nat} {n cells slots : Nat} {σ : fqS} {pc : Nat} {lv : List (Nat × Value)} {rest : List Value} (E : fqE X rm cy cc nL Ts own) {i : Nat} {v : Int32} (hdg : decode cc pc = .ok (.ldc_w i, 3)) (hc : Cond.constant own i v ∈ Ts)
    (k : fqG X T Z ad n nL cells slots σ (pc + 3) lv (.int v :: rest)) : fqG X T Z ad n nL cells slots σ pc lv (rest) := by
  obtain ⟨p, l, e, R, s, m, args, below, meth, c, Q, D, A⟩ := X
  obtain ⟨⟨hx, hb, hml, hown, hts⟩, hK, hA, hR⟩ := E
  exact fun H locs ls hw hl => lv_ldcw hx hb hown (hts _ hc) hdg (k H locs ls hw hl)
theorem g_ldc2_w {X : fqX} {rm : Room} {cy : Nat → ClassId} {cc : ByteArray} {nL : Nat} {Ts : List Cond} {own : String} {T : fqT} {Z : Nat → Nat} {ad : Nat → Nat} {n cells slots : Nat} {σ : fqS} {pc : Nat} {lv : List (Nat × Value)} {rest : List Value} (E : fqE X rm cy cc nL Ts own) {i : Nat} {v : Int64} (hdg : decode cc pc = .ok (.ldc2_w i, 3)) (hc : Cond.constantLong own i v ∈ Ts)
    (k : fqG X T Z ad n nL cells slots σ (pc + 3) lv (.long v :: rest)) : fqG X T Z ad n nL cells slots σ pc lv (rest) := by
  obtain ⟨p, l, e, R, s, m, args, below, meth, c, Q, D, A⟩ := X
  obtain ⟨⟨hx, hb, hml, hown, hts⟩, hK, hA, hR⟩ := E
  exact fun H locs ls hw hl => lv_ldc2 hx hb hown (hts _ hc) hdg (k H locs ls hw hl)
theorem g_iload_n {X : fqX} {rm : Room} {cy : Nat → ClassId} {cc : ByteArray} {nL : Nat} {Ts : List Cond} {own : String} {T : fqT} {Z : Nat → Nat} {ad : Nat → Nat} {n cells slots : Nat} {σ : fqS} {pc : Nat} {lv : List (Nat × Value)} {rest : List Value} (E : fqE X rm cy cc nL Ts own) {j : Fin 4} {i : Nat} {x : Int32} (hdg : decode cc pc = .ok (.iload_n j, 1)) (q : Nat) (hq : lv[q]? = some (i, .int x)) (hi : (j : Nat) = i)
    (k : fqG X T Z ad n nL cells slots σ (pc + 1) lv (.int x :: rest)) : fqG X T Z ad n nL cells slots σ pc lv (rest) := by
  obtain ⟨p, l, e, R, s, m, args, below, meth, c, Q, D, A⟩ := X
  obtain ⟨⟨hx, hb, hml, hown, hts⟩, hK, hA, hR⟩ := E
  exact fun H locs ls hw hl => lv_iload_n hx hb hdg hi (lv_at hl q hq) (k H locs ls hw hl)
theorem g_iload {X : fqX} {rm : Room} {cy : Nat → ClassId} {cc : ByteArray} {nL : Nat} {Ts : List Cond} {own : String} {T : fqT} {Z : Nat → Nat} {ad : Nat → Nat} {n cells slots : Nat} {σ : fqS} {pc : Nat} {lv : List (Nat × Value)} {rest : List Value} (E : fqE X rm cy cc nL Ts own) {i : Nat} {x : Int32} (hdg : decode cc pc = .ok (.iload i, 2)) (q : Nat) (hq : lv[q]? = some (i, .int x))
    (k : fqG X T Z ad n nL cells slots σ (pc + 2) lv (.int x :: rest)) : fqG X T Z ad n nL cells slots σ pc lv (rest) := by
  obtain ⟨p, l, e, R, s, m, args, below, meth, c, Q, D, A⟩ := X
  obtain ⟨⟨hx, hb, hml, hown, hts⟩, hK, hA, hR⟩ := E
  exact fun H locs ls hw hl => lv_iload hx hb hdg (lv_at hl q hq) (k H locs ls hw hl)
theorem g_istore_n {X : fqX} {rm : Room} {cy : Nat → ClassId} {cc : ByteArray} {nL : Nat} {Ts : List Cond} {own : String} {T : fqT} {Z : Nat → Nat} {ad : Nat → Nat} {n cells slots : Nat} {σ : fqS} {pc : Nat} {lv : List (Nat × Value)} {rest : List Value} (E : fqE X rm cy cc nL Ts own) {j : Fin 4} {i : Nat} {x : Int32} (lv' : List (Nat × Value)) (hdg : decode cc pc = .ok (.istore_n j, 1)) (hi : (j : Nat) = i) (hn : i < nL) (hv : (i, Value.int x) :: lv.filter (fun q => !(q.1 == i) && !(q.1 + 1 == i && q.2.category == 2)) = lv')
    (k : fqG X T Z ad n nL cells slots σ (pc + 1) lv' (rest)) : fqG X T Z ad n nL cells slots σ pc lv (.int x :: rest) := by
  obtain ⟨p, l, e, R, s, m, args, below, meth, c, Q, D, A⟩ := X
  obtain ⟨⟨hx, hb, hml, hown, hts⟩, hK, hA, hR⟩ := E
  exact fun H locs ls hw hl => lv_istore_n hx hb hdg hi hl hn hv (fun ls hl => k H locs ls hw hl)
theorem g_istore {X : fqX} {rm : Room} {cy : Nat → ClassId} {cc : ByteArray} {nL : Nat} {Ts : List Cond} {own : String} {T : fqT} {Z : Nat → Nat} {ad : Nat → Nat} {n cells slots : Nat} {σ : fqS} {pc : Nat} {lv : List (Nat × Value)} {rest : List Value} (E : fqE X rm cy cc nL Ts own) {i : Nat} {x : Int32} (lv' : List (Nat × Value)) (hdg : decode cc pc = .ok (.istore i, 2)) (hn : i < nL) (hv : (i, Value.int x) :: lv.filter (fun q => !(q.1 == i) && !(q.1 + 1 == i && q.2.category == 2)) = lv')
    (k : fqG X T Z ad n nL cells slots σ (pc + 2) lv' (rest)) : fqG X T Z ad n nL cells slots σ pc lv (.int x :: rest) := by
  obtain ⟨p, l, e, R, s, m, args, below, meth, c, Q, D, A⟩ := X
  obtain ⟨⟨hx, hb, hml, hown, hts⟩, hK, hA, hR⟩ := E
  exact fun H locs ls hw hl => lv_istore hx hb hdg hl hn hv (fun ls hl => k H locs ls hw hl)
theorem g_lload_n {X : fqX} {rm : Room} {cy : Nat → ClassId} {cc : ByteArray} {nL : Nat} {Ts : List Cond} {own : String} {T : fqT} {Z : Nat → Nat} {ad : Nat → Nat} {n cells slots : Nat} {σ : fqS} {pc : Nat} {lv : List (Nat × Value)} {rest : List Value} (E : fqE X rm cy cc nL Ts own) {j : Fin 4} {i : Nat} {x : Int64} (hdg : decode cc pc = .ok (.lload_n j, 1)) (q : Nat) (hq : lv[q]? = some (i, .long x)) (hi : (j : Nat) = i)
    (k : fqG X T Z ad n nL cells slots σ (pc + 1) lv (.long x :: rest)) : fqG X T Z ad n nL cells slots σ pc lv (rest) := by
  obtain ⟨p, l, e, R, s, m, args, below, meth, c, Q, D, A⟩ := X
  obtain ⟨⟨hx, hb, hml, hown, hts⟩, hK, hA, hR⟩ := E
  exact fun H locs ls hw hl => lv_lload_n hx hb hdg hi (lv_at hl q hq) (k H locs ls hw hl)
theorem g_lload {X : fqX} {rm : Room} {cy : Nat → ClassId} {cc : ByteArray} {nL : Nat} {Ts : List Cond} {own : String} {T : fqT} {Z : Nat → Nat} {ad : Nat → Nat} {n cells slots : Nat} {σ : fqS} {pc : Nat} {lv : List (Nat × Value)} {rest : List Value} (E : fqE X rm cy cc nL Ts own) {i : Nat} {x : Int64} (hdg : decode cc pc = .ok (.lload i, 2)) (q : Nat) (hq : lv[q]? = some (i, .long x))
    (k : fqG X T Z ad n nL cells slots σ (pc + 2) lv (.long x :: rest)) : fqG X T Z ad n nL cells slots σ pc lv (rest) := by
  obtain ⟨p, l, e, R, s, m, args, below, meth, c, Q, D, A⟩ := X
  obtain ⟨⟨hx, hb, hml, hown, hts⟩, hK, hA, hR⟩ := E
  exact fun H locs ls hw hl => lv_lload hx hb hdg (lv_at hl q hq) (k H locs ls hw hl)
theorem g_lstore_n {X : fqX} {rm : Room} {cy : Nat → ClassId} {cc : ByteArray} {nL : Nat} {Ts : List Cond} {own : String} {T : fqT} {Z : Nat → Nat} {ad : Nat → Nat} {n cells slots : Nat} {σ : fqS} {pc : Nat} {lv : List (Nat × Value)} {rest : List Value} (E : fqE X rm cy cc nL Ts own) {j : Fin 4} {i : Nat} {x : Int64} (lv' : List (Nat × Value)) (hdg : decode cc pc = .ok (.lstore_n j, 1)) (hi : (j : Nat) = i) (hn : i + 1 < nL) (hv : (i, Value.long x) :: lv.filter (fun q => !(q.1 == i) && (!(q.1 == i + 1) && !(q.1 + 1 == i && q.2.category == 2))) = lv')
    (k : fqG X T Z ad n nL cells slots σ (pc + 1) lv' (rest)) : fqG X T Z ad n nL cells slots σ pc lv (.long x :: rest) := by
  obtain ⟨p, l, e, R, s, m, args, below, meth, c, Q, D, A⟩ := X
  obtain ⟨⟨hx, hb, hml, hown, hts⟩, hK, hA, hR⟩ := E
  exact fun H locs ls hw hl => lv_lstore_n hx hb hdg hi hl hn hv (fun ls hl => k H locs ls hw hl)
theorem g_lstore {X : fqX} {rm : Room} {cy : Nat → ClassId} {cc : ByteArray} {nL : Nat} {Ts : List Cond} {own : String} {T : fqT} {Z : Nat → Nat} {ad : Nat → Nat} {n cells slots : Nat} {σ : fqS} {pc : Nat} {lv : List (Nat × Value)} {rest : List Value} (E : fqE X rm cy cc nL Ts own) {i : Nat} {x : Int64} (lv' : List (Nat × Value)) (hdg : decode cc pc = .ok (.lstore i, 2)) (hn : i + 1 < nL) (hv : (i, Value.long x) :: lv.filter (fun q => !(q.1 == i) && (!(q.1 == i + 1) && !(q.1 + 1 == i && q.2.category == 2))) = lv')
    (k : fqG X T Z ad n nL cells slots σ (pc + 2) lv' (rest)) : fqG X T Z ad n nL cells slots σ pc lv (.long x :: rest) := by
  obtain ⟨p, l, e, R, s, m, args, below, meth, c, Q, D, A⟩ := X
  obtain ⟨⟨hx, hb, hml, hown, hts⟩, hK, hA, hR⟩ := E
  exact fun H locs ls hw hl => lv_lstore hx hb hdg hl hn hv (fun ls hl => k H locs ls hw hl)
theorem g_aload_n {X : fqX} {rm : Room} {cy : Nat → ClassId} {cc : ByteArray} {nL : Nat} {Ts : List Cond} {own : String} {T : fqT} {Z : Nat → Nat} {ad : Nat → Nat} {n cells slots : Nat} {σ : fqS} {pc : Nat} {lv : List (Nat × Value)} {rest : List Value} (E : fqE X rm cy cc nL Ts own) {j : Fin 4} {i : Nat} {x : Nat} (hdg : decode cc pc = .ok (.aload_n j, 1)) (q : Nat) (hq : lv[q]? = some (i, .ref x)) (hi : (j : Nat) = i)
    (k : fqG X T Z ad n nL cells slots σ (pc + 1) lv (.ref x :: rest)) : fqG X T Z ad n nL cells slots σ pc lv (rest) := by
  obtain ⟨p, l, e, R, s, m, args, below, meth, c, Q, D, A⟩ := X
  obtain ⟨⟨hx, hb, hml, hown, hts⟩, hK, hA, hR⟩ := E
  exact fun H locs ls hw hl => lv_aload_n hx hb hdg hi (lv_at hl q hq) (k H locs ls hw hl)
theorem g_aload {X : fqX} {rm : Room} {cy : Nat → ClassId} {cc : ByteArray} {nL : Nat} {Ts : List Cond} {own : String} {T : fqT} {Z : Nat → Nat} {ad : Nat → Nat} {n cells slots : Nat} {σ : fqS} {pc : Nat} {lv : List (Nat × Value)} {rest : List Value} (E : fqE X rm cy cc nL Ts own) {i : Nat} {x : Nat} (hdg : decode cc pc = .ok (.aload i, 2)) (q : Nat) (hq : lv[q]? = some (i, .ref x))
    (k : fqG X T Z ad n nL cells slots σ (pc + 2) lv (.ref x :: rest)) : fqG X T Z ad n nL cells slots σ pc lv (rest) := by
  obtain ⟨p, l, e, R, s, m, args, below, meth, c, Q, D, A⟩ := X
  obtain ⟨⟨hx, hb, hml, hown, hts⟩, hK, hA, hR⟩ := E
  exact fun H locs ls hw hl => lv_aload hx hb hdg (lv_at hl q hq) (k H locs ls hw hl)
theorem g_astore_n {X : fqX} {rm : Room} {cy : Nat → ClassId} {cc : ByteArray} {nL : Nat} {Ts : List Cond} {own : String} {T : fqT} {Z : Nat → Nat} {ad : Nat → Nat} {n cells slots : Nat} {σ : fqS} {pc : Nat} {lv : List (Nat × Value)} {rest : List Value} (E : fqE X rm cy cc nL Ts own) {j : Fin 4} {i : Nat} {x : Nat} (lv' : List (Nat × Value)) (hdg : decode cc pc = .ok (.astore_n j, 1)) (hi : (j : Nat) = i) (hn : i < nL) (hv : (i, Value.ref x) :: lv.filter (fun q => !(q.1 == i) && !(q.1 + 1 == i && q.2.category == 2)) = lv')
    (k : fqG X T Z ad n nL cells slots σ (pc + 1) lv' (rest)) : fqG X T Z ad n nL cells slots σ pc lv (.ref x :: rest) := by
  obtain ⟨p, l, e, R, s, m, args, below, meth, c, Q, D, A⟩ := X
  obtain ⟨⟨hx, hb, hml, hown, hts⟩, hK, hA, hR⟩ := E
  exact fun H locs ls hw hl => lv_astore_n hx hb hdg hi hl hn hv (fun ls hl => k H locs ls hw hl)
theorem g_astore {X : fqX} {rm : Room} {cy : Nat → ClassId} {cc : ByteArray} {nL : Nat} {Ts : List Cond} {own : String} {T : fqT} {Z : Nat → Nat} {ad : Nat → Nat} {n cells slots : Nat} {σ : fqS} {pc : Nat} {lv : List (Nat × Value)} {rest : List Value} (E : fqE X rm cy cc nL Ts own) {i : Nat} {x : Nat} (lv' : List (Nat × Value)) (hdg : decode cc pc = .ok (.astore i, 2)) (hn : i < nL) (hv : (i, Value.ref x) :: lv.filter (fun q => !(q.1 == i) && !(q.1 + 1 == i && q.2.category == 2)) = lv')
    (k : fqG X T Z ad n nL cells slots σ (pc + 2) lv' (rest)) : fqG X T Z ad n nL cells slots σ pc lv (.ref x :: rest) := by
  obtain ⟨p, l, e, R, s, m, args, below, meth, c, Q, D, A⟩ := X
  obtain ⟨⟨hx, hb, hml, hown, hts⟩, hK, hA, hR⟩ := E
  exact fun H locs ls hw hl => lv_astore hx hb hdg hl hn hv (fun ls hl => k H locs ls hw hl)
theorem g_aload_nN {X : fqX} {rm : Room} {cy : Nat → ClassId} {cc : ByteArray} {nL : Nat} {Ts : List Cond} {own : String} {T : fqT} {Z : Nat → Nat} {ad : Nat → Nat} {n cells slots : Nat} {σ : fqS} {pc : Nat} {lv : List (Nat × Value)} {rest : List Value} (E : fqE X rm cy cc nL Ts own) {j : Fin 4} {i : Nat} (hdg : decode cc pc = .ok (.aload_n j, 1)) (q : Nat) (hq : lv[q]? = some (i, .null)) (hi : (j : Nat) = i)
    (k : fqG X T Z ad n nL cells slots σ (pc + 1) lv (.null :: rest)) : fqG X T Z ad n nL cells slots σ pc lv (rest) := by
  obtain ⟨p, l, e, R, s, m, args, below, meth, c, Q, D, A⟩ := X
  obtain ⟨⟨hx, hb, hml, hown, hts⟩, hK, hA, hR⟩ := E
  exact fun H locs ls hw hl => lv_aload_nN hx hb hdg hi (lv_at hl q hq) (k H locs ls hw hl)
theorem g_aloadN {X : fqX} {rm : Room} {cy : Nat → ClassId} {cc : ByteArray} {nL : Nat} {Ts : List Cond} {own : String} {T : fqT} {Z : Nat → Nat} {ad : Nat → Nat} {n cells slots : Nat} {σ : fqS} {pc : Nat} {lv : List (Nat × Value)} {rest : List Value} (E : fqE X rm cy cc nL Ts own) {i : Nat} (hdg : decode cc pc = .ok (.aload i, 2)) (q : Nat) (hq : lv[q]? = some (i, .null))
    (k : fqG X T Z ad n nL cells slots σ (pc + 2) lv (.null :: rest)) : fqG X T Z ad n nL cells slots σ pc lv (rest) := by
  obtain ⟨p, l, e, R, s, m, args, below, meth, c, Q, D, A⟩ := X
  obtain ⟨⟨hx, hb, hml, hown, hts⟩, hK, hA, hR⟩ := E
  exact fun H locs ls hw hl => lv_aloadN hx hb hdg (lv_at hl q hq) (k H locs ls hw hl)
theorem g_astore_nN {X : fqX} {rm : Room} {cy : Nat → ClassId} {cc : ByteArray} {nL : Nat} {Ts : List Cond} {own : String} {T : fqT} {Z : Nat → Nat} {ad : Nat → Nat} {n cells slots : Nat} {σ : fqS} {pc : Nat} {lv : List (Nat × Value)} {rest : List Value} (E : fqE X rm cy cc nL Ts own) {j : Fin 4} {i : Nat} (lv' : List (Nat × Value)) (hdg : decode cc pc = .ok (.astore_n j, 1)) (hi : (j : Nat) = i) (hn : i < nL) (hv : (i, Value.null) :: lv.filter (fun q => !(q.1 == i) && !(q.1 + 1 == i && q.2.category == 2)) = lv')
    (k : fqG X T Z ad n nL cells slots σ (pc + 1) lv' (rest)) : fqG X T Z ad n nL cells slots σ pc lv (.null :: rest) := by
  obtain ⟨p, l, e, R, s, m, args, below, meth, c, Q, D, A⟩ := X
  obtain ⟨⟨hx, hb, hml, hown, hts⟩, hK, hA, hR⟩ := E
  exact fun H locs ls hw hl => lv_astore_nN hx hb hdg hi hl hn hv (fun ls hl => k H locs ls hw hl)
theorem g_astoreN {X : fqX} {rm : Room} {cy : Nat → ClassId} {cc : ByteArray} {nL : Nat} {Ts : List Cond} {own : String} {T : fqT} {Z : Nat → Nat} {ad : Nat → Nat} {n cells slots : Nat} {σ : fqS} {pc : Nat} {lv : List (Nat × Value)} {rest : List Value} (E : fqE X rm cy cc nL Ts own) {i : Nat} (lv' : List (Nat × Value)) (hdg : decode cc pc = .ok (.astore i, 2)) (hn : i < nL) (hv : (i, Value.null) :: lv.filter (fun q => !(q.1 == i) && !(q.1 + 1 == i && q.2.category == 2)) = lv')
    (k : fqG X T Z ad n nL cells slots σ (pc + 2) lv' (rest)) : fqG X T Z ad n nL cells slots σ pc lv (.null :: rest) := by
  obtain ⟨p, l, e, R, s, m, args, below, meth, c, Q, D, A⟩ := X
  obtain ⟨⟨hx, hb, hml, hown, hts⟩, hK, hA, hR⟩ := E
  exact fun H locs ls hw hl => lv_astoreN hx hb hdg hl hn hv (fun ls hl => k H locs ls hw hl)
theorem g_iinc {X : fqX} {rm : Room} {cy : Nat → ClassId} {cc : ByteArray} {nL : Nat} {Ts : List Cond} {own : String} {T : fqT} {Z : Nat → Nat} {ad : Nat → Nat} {n cells slots : Nat} {σ : fqS} {pc : Nat} {lv : List (Nat × Value)} {rest : List Value} (E : fqE X rm cy cc nL Ts own) {i : Nat} {d : Int} {x : Int32} (v : Int32) (lv' : List (Nat × Value)) (hdg : decode cc pc = .ok (.iinc i d, 3)) (q : Nat) (hq : lv[q]? = some (i, .int x)) (hv : x + Int32.ofInt d = v) (hn : i < nL) (hl' : (i, Value.int v) :: lv.filter (fun q => !(q.1 == i) && !(q.1 + 1 == i && q.2.category == 2)) = lv')
    (k : fqG X T Z ad n nL cells slots σ (pc + 3) lv' (rest)) : fqG X T Z ad n nL cells slots σ pc lv (rest) := by
  obtain ⟨p, l, e, R, s, m, args, below, meth, c, Q, D, A⟩ := X
  obtain ⟨⟨hx, hb, hml, hown, hts⟩, hK, hA, hR⟩ := E
  exact fun H locs ls hw hl => lv_iinc hx hb hdg hl hq hv hn hl' (fun ls hl => k H locs ls hw hl)
theorem g_if_eq {X : fqX} {rm : Room} {cy : Nat → ClassId} {cc : ByteArray} {nL : Nat} {Ts : List Cond} {own : String} {T : fqT} {Z : Nat → Nat} {ad : Nat → Nat} {n cells slots : Nat} {σ : fqS} {pc : Nat} {lv : List (Nat × Value)} {rest : List Value} (E : fqE X rm cy cc nL Ts own) {x : Int32} {off : Int} (tgt : Nat) (hdg : decode cc pc = .ok (.ifCond .eq off, 3)) (ht : (pc : Int) + off = (tgt : Int))
    (kt : x = 0 → fqG X T Z ad n nL cells slots σ tgt lv (rest)) (kf : ¬ (x = 0) → fqG X T Z ad n nL cells slots σ (pc + 3) lv (rest)) : fqG X T Z ad n nL cells slots σ pc lv (.int x :: rest) := by
  obtain ⟨p, l, e, R, s, m, args, below, meth, c, Q, D, A⟩ := X
  obtain ⟨⟨hx, hb, hml, hown, hts⟩, hK, hA, hR⟩ := E
  exact fun H locs ls hw hl => lv_if_eq hx hb hdg ht (fun h => kt h H locs ls hw hl) (fun h => kf h H locs ls hw hl)
theorem g_icmp_eq {X : fqX} {rm : Room} {cy : Nat → ClassId} {cc : ByteArray} {nL : Nat} {Ts : List Cond} {own : String} {T : fqT} {Z : Nat → Nat} {ad : Nat → Nat} {n cells slots : Nat} {σ : fqS} {pc : Nat} {lv : List (Nat × Value)} {rest : List Value} (E : fqE X rm cy cc nL Ts own) {x y : Int32} {off : Int} (tgt : Nat) (hdg : decode cc pc = .ok (.if_icmp .eq off, 3)) (ht : (pc : Int) + off = (tgt : Int))
    (kt : x = y → fqG X T Z ad n nL cells slots σ tgt lv (rest)) (kf : ¬ (x = y) → fqG X T Z ad n nL cells slots σ (pc + 3) lv (rest)) : fqG X T Z ad n nL cells slots σ pc lv (.int y :: .int x :: rest) := by
  obtain ⟨p, l, e, R, s, m, args, below, meth, c, Q, D, A⟩ := X
  obtain ⟨⟨hx, hb, hml, hown, hts⟩, hK, hA, hR⟩ := E
  exact fun H locs ls hw hl => lv_icmp_eq hx hb hdg ht (fun h => kt h H locs ls hw hl) (fun h => kf h H locs ls hw hl)
theorem g_if_ne {X : fqX} {rm : Room} {cy : Nat → ClassId} {cc : ByteArray} {nL : Nat} {Ts : List Cond} {own : String} {T : fqT} {Z : Nat → Nat} {ad : Nat → Nat} {n cells slots : Nat} {σ : fqS} {pc : Nat} {lv : List (Nat × Value)} {rest : List Value} (E : fqE X rm cy cc nL Ts own) {x : Int32} {off : Int} (tgt : Nat) (hdg : decode cc pc = .ok (.ifCond .ne off, 3)) (ht : (pc : Int) + off = (tgt : Int))
    (kt : ¬ x = 0 → fqG X T Z ad n nL cells slots σ tgt lv (rest)) (kf : x = 0 → fqG X T Z ad n nL cells slots σ (pc + 3) lv (rest)) : fqG X T Z ad n nL cells slots σ pc lv (.int x :: rest) := by
  obtain ⟨p, l, e, R, s, m, args, below, meth, c, Q, D, A⟩ := X
  obtain ⟨⟨hx, hb, hml, hown, hts⟩, hK, hA, hR⟩ := E
  exact fun H locs ls hw hl => lv_if_ne hx hb hdg ht (fun h => kt h H locs ls hw hl) (fun h => kf h H locs ls hw hl)
theorem g_icmp_ne {X : fqX} {rm : Room} {cy : Nat → ClassId} {cc : ByteArray} {nL : Nat} {Ts : List Cond} {own : String} {T : fqT} {Z : Nat → Nat} {ad : Nat → Nat} {n cells slots : Nat} {σ : fqS} {pc : Nat} {lv : List (Nat × Value)} {rest : List Value} (E : fqE X rm cy cc nL Ts own) {x y : Int32} {off : Int} (tgt : Nat) (hdg : decode cc pc = .ok (.if_icmp .ne off, 3)) (ht : (pc : Int) + off = (tgt : Int))
    (kt : ¬ x = y → fqG X T Z ad n nL cells slots σ tgt lv (rest)) (kf : x = y → fqG X T Z ad n nL cells slots σ (pc + 3) lv (rest)) : fqG X T Z ad n nL cells slots σ pc lv (.int y :: .int x :: rest) := by
  obtain ⟨p, l, e, R, s, m, args, below, meth, c, Q, D, A⟩ := X
  obtain ⟨⟨hx, hb, hml, hown, hts⟩, hK, hA, hR⟩ := E
  exact fun H locs ls hw hl => lv_icmp_ne hx hb hdg ht (fun h => kt h H locs ls hw hl) (fun h => kf h H locs ls hw hl)
theorem g_if_lt {X : fqX} {rm : Room} {cy : Nat → ClassId} {cc : ByteArray} {nL : Nat} {Ts : List Cond} {own : String} {T : fqT} {Z : Nat → Nat} {ad : Nat → Nat} {n cells slots : Nat} {σ : fqS} {pc : Nat} {lv : List (Nat × Value)} {rest : List Value} (E : fqE X rm cy cc nL Ts own) {x : Int32} {off : Int} (tgt : Nat) (hdg : decode cc pc = .ok (.ifCond .lt off, 3)) (ht : (pc : Int) + off = (tgt : Int))
    (kt : x < 0 → fqG X T Z ad n nL cells slots σ tgt lv (rest)) (kf : ¬ (x < 0) → fqG X T Z ad n nL cells slots σ (pc + 3) lv (rest)) : fqG X T Z ad n nL cells slots σ pc lv (.int x :: rest) := by
  obtain ⟨p, l, e, R, s, m, args, below, meth, c, Q, D, A⟩ := X
  obtain ⟨⟨hx, hb, hml, hown, hts⟩, hK, hA, hR⟩ := E
  exact fun H locs ls hw hl => lv_if_lt hx hb hdg ht (fun h => kt h H locs ls hw hl) (fun h => kf h H locs ls hw hl)
theorem g_icmp_lt {X : fqX} {rm : Room} {cy : Nat → ClassId} {cc : ByteArray} {nL : Nat} {Ts : List Cond} {own : String} {T : fqT} {Z : Nat → Nat} {ad : Nat → Nat} {n cells slots : Nat} {σ : fqS} {pc : Nat} {lv : List (Nat × Value)} {rest : List Value} (E : fqE X rm cy cc nL Ts own) {x y : Int32} {off : Int} (tgt : Nat) (hdg : decode cc pc = .ok (.if_icmp .lt off, 3)) (ht : (pc : Int) + off = (tgt : Int))
    (kt : x < y → fqG X T Z ad n nL cells slots σ tgt lv (rest)) (kf : ¬ (x < y) → fqG X T Z ad n nL cells slots σ (pc + 3) lv (rest)) : fqG X T Z ad n nL cells slots σ pc lv (.int y :: .int x :: rest) := by
  obtain ⟨p, l, e, R, s, m, args, below, meth, c, Q, D, A⟩ := X
  obtain ⟨⟨hx, hb, hml, hown, hts⟩, hK, hA, hR⟩ := E
  exact fun H locs ls hw hl => lv_icmp_lt hx hb hdg ht (fun h => kt h H locs ls hw hl) (fun h => kf h H locs ls hw hl)
theorem g_if_ge {X : fqX} {rm : Room} {cy : Nat → ClassId} {cc : ByteArray} {nL : Nat} {Ts : List Cond} {own : String} {T : fqT} {Z : Nat → Nat} {ad : Nat → Nat} {n cells slots : Nat} {σ : fqS} {pc : Nat} {lv : List (Nat × Value)} {rest : List Value} (E : fqE X rm cy cc nL Ts own) {x : Int32} {off : Int} (tgt : Nat) (hdg : decode cc pc = .ok (.ifCond .ge off, 3)) (ht : (pc : Int) + off = (tgt : Int))
    (kt : 0 ≤ x → fqG X T Z ad n nL cells slots σ tgt lv (rest)) (kf : ¬ (0 ≤ x) → fqG X T Z ad n nL cells slots σ (pc + 3) lv (rest)) : fqG X T Z ad n nL cells slots σ pc lv (.int x :: rest) := by
  obtain ⟨p, l, e, R, s, m, args, below, meth, c, Q, D, A⟩ := X
  obtain ⟨⟨hx, hb, hml, hown, hts⟩, hK, hA, hR⟩ := E
  exact fun H locs ls hw hl => lv_if_ge hx hb hdg ht (fun h => kt h H locs ls hw hl) (fun h => kf h H locs ls hw hl)
theorem g_icmp_ge {X : fqX} {rm : Room} {cy : Nat → ClassId} {cc : ByteArray} {nL : Nat} {Ts : List Cond} {own : String} {T : fqT} {Z : Nat → Nat} {ad : Nat → Nat} {n cells slots : Nat} {σ : fqS} {pc : Nat} {lv : List (Nat × Value)} {rest : List Value} (E : fqE X rm cy cc nL Ts own) {x y : Int32} {off : Int} (tgt : Nat) (hdg : decode cc pc = .ok (.if_icmp .ge off, 3)) (ht : (pc : Int) + off = (tgt : Int))
    (kt : y ≤ x → fqG X T Z ad n nL cells slots σ tgt lv (rest)) (kf : ¬ (y ≤ x) → fqG X T Z ad n nL cells slots σ (pc + 3) lv (rest)) : fqG X T Z ad n nL cells slots σ pc lv (.int y :: .int x :: rest) := by
  obtain ⟨p, l, e, R, s, m, args, below, meth, c, Q, D, A⟩ := X
  obtain ⟨⟨hx, hb, hml, hown, hts⟩, hK, hA, hR⟩ := E
  exact fun H locs ls hw hl => lv_icmp_ge hx hb hdg ht (fun h => kt h H locs ls hw hl) (fun h => kf h H locs ls hw hl)
theorem g_if_gt {X : fqX} {rm : Room} {cy : Nat → ClassId} {cc : ByteArray} {nL : Nat} {Ts : List Cond} {own : String} {T : fqT} {Z : Nat → Nat} {ad : Nat → Nat} {n cells slots : Nat} {σ : fqS} {pc : Nat} {lv : List (Nat × Value)} {rest : List Value} (E : fqE X rm cy cc nL Ts own) {x : Int32} {off : Int} (tgt : Nat) (hdg : decode cc pc = .ok (.ifCond .gt off, 3)) (ht : (pc : Int) + off = (tgt : Int))
    (kt : 0 < x → fqG X T Z ad n nL cells slots σ tgt lv (rest)) (kf : ¬ (0 < x) → fqG X T Z ad n nL cells slots σ (pc + 3) lv (rest)) : fqG X T Z ad n nL cells slots σ pc lv (.int x :: rest) := by
  obtain ⟨p, l, e, R, s, m, args, below, meth, c, Q, D, A⟩ := X
  obtain ⟨⟨hx, hb, hml, hown, hts⟩, hK, hA, hR⟩ := E
  exact fun H locs ls hw hl => lv_if_gt hx hb hdg ht (fun h => kt h H locs ls hw hl) (fun h => kf h H locs ls hw hl)
theorem g_icmp_gt {X : fqX} {rm : Room} {cy : Nat → ClassId} {cc : ByteArray} {nL : Nat} {Ts : List Cond} {own : String} {T : fqT} {Z : Nat → Nat} {ad : Nat → Nat} {n cells slots : Nat} {σ : fqS} {pc : Nat} {lv : List (Nat × Value)} {rest : List Value} (E : fqE X rm cy cc nL Ts own) {x y : Int32} {off : Int} (tgt : Nat) (hdg : decode cc pc = .ok (.if_icmp .gt off, 3)) (ht : (pc : Int) + off = (tgt : Int))
    (kt : y < x → fqG X T Z ad n nL cells slots σ tgt lv (rest)) (kf : ¬ (y < x) → fqG X T Z ad n nL cells slots σ (pc + 3) lv (rest)) : fqG X T Z ad n nL cells slots σ pc lv (.int y :: .int x :: rest) := by
  obtain ⟨p, l, e, R, s, m, args, below, meth, c, Q, D, A⟩ := X
  obtain ⟨⟨hx, hb, hml, hown, hts⟩, hK, hA, hR⟩ := E
  exact fun H locs ls hw hl => lv_icmp_gt hx hb hdg ht (fun h => kt h H locs ls hw hl) (fun h => kf h H locs ls hw hl)
theorem g_if_le {X : fqX} {rm : Room} {cy : Nat → ClassId} {cc : ByteArray} {nL : Nat} {Ts : List Cond} {own : String} {T : fqT} {Z : Nat → Nat} {ad : Nat → Nat} {n cells slots : Nat} {σ : fqS} {pc : Nat} {lv : List (Nat × Value)} {rest : List Value} (E : fqE X rm cy cc nL Ts own) {x : Int32} {off : Int} (tgt : Nat) (hdg : decode cc pc = .ok (.ifCond .le off, 3)) (ht : (pc : Int) + off = (tgt : Int))
    (kt : x ≤ 0 → fqG X T Z ad n nL cells slots σ tgt lv (rest)) (kf : ¬ (x ≤ 0) → fqG X T Z ad n nL cells slots σ (pc + 3) lv (rest)) : fqG X T Z ad n nL cells slots σ pc lv (.int x :: rest) := by
  obtain ⟨p, l, e, R, s, m, args, below, meth, c, Q, D, A⟩ := X
  obtain ⟨⟨hx, hb, hml, hown, hts⟩, hK, hA, hR⟩ := E
  exact fun H locs ls hw hl => lv_if_le hx hb hdg ht (fun h => kt h H locs ls hw hl) (fun h => kf h H locs ls hw hl)
theorem g_icmp_le {X : fqX} {rm : Room} {cy : Nat → ClassId} {cc : ByteArray} {nL : Nat} {Ts : List Cond} {own : String} {T : fqT} {Z : Nat → Nat} {ad : Nat → Nat} {n cells slots : Nat} {σ : fqS} {pc : Nat} {lv : List (Nat × Value)} {rest : List Value} (E : fqE X rm cy cc nL Ts own) {x y : Int32} {off : Int} (tgt : Nat) (hdg : decode cc pc = .ok (.if_icmp .le off, 3)) (ht : (pc : Int) + off = (tgt : Int))
    (kt : x ≤ y → fqG X T Z ad n nL cells slots σ tgt lv (rest)) (kf : ¬ (x ≤ y) → fqG X T Z ad n nL cells slots σ (pc + 3) lv (rest)) : fqG X T Z ad n nL cells slots σ pc lv (.int y :: .int x :: rest) := by
  obtain ⟨p, l, e, R, s, m, args, below, meth, c, Q, D, A⟩ := X
  obtain ⟨⟨hx, hb, hml, hown, hts⟩, hK, hA, hR⟩ := E
  exact fun H locs ls hw hl => lv_icmp_le hx hb hdg ht (fun h => kt h H locs ls hw hl) (fun h => kf h H locs ls hw hl)
theorem fq_cmp_lt (x y : Int64) : lg_cmp x y < 0 ↔ x < y := by
  unfold lg_cmp
  simp only [gt_iff_lt, Int64.lt_iff_toInt_lt, ← Int64.toInt_inj]
  split
  · constructor
    · intro h; exact absurd h (by decide)
    · intro h; omega
  · split
    · constructor
      · intro h; exact absurd h (by decide)
      · intro h; omega
    · constructor
      · intro _; omega
      · intro _; decide
theorem fq_cmp_gt (x y : Int64) : 0 < lg_cmp x y ↔ y < x := by
  unfold lg_cmp
  simp only [gt_iff_lt, Int64.lt_iff_toInt_lt, ← Int64.toInt_inj]
  split
  · constructor
    · intro _; assumption
    · intro _; decide
  · split
    · constructor
      · intro h; exact absurd h (by decide)
      · intro h; omega
    · constructor
      · intro h; exact absurd h (by decide)
      · intro h; omega
theorem fq_cmp_eq (x y : Int64) : lg_cmp x y = 0 ↔ x = y := by
  unfold lg_cmp
  simp only [gt_iff_lt, Int64.lt_iff_toInt_lt, ← Int64.toInt_inj]
  split
  · constructor
    · intro h; exact absurd h (by decide)
    · intro h; omega
  · split
    · constructor
      · intro _; assumption
      · intro _; rfl
    · constructor
      · intro h; exact absurd h (by decide)
      · intro h; omega
theorem fq_cmp_ge (x y : Int64) : 0 ≤ lg_cmp x y ↔ y ≤ x := by
  rw [← Int32.not_lt, fq_cmp_lt, Int64.not_lt]
theorem fq_cmp_le (x y : Int64) : lg_cmp x y ≤ 0 ↔ x ≤ y := by
  rw [← Int32.not_lt, fq_cmp_gt, Int64.not_lt]
theorem fq_cmp_ne (x y : Int64) : (¬ lg_cmp x y = 0) ↔ ¬ x = y := not_congr (fq_cmp_eq x y)
theorem g_lif_eq {X : fqX} {rm : Room} {cy : Nat → ClassId} {cc : ByteArray} {nL : Nat} {Ts : List Cond} {own : String} {T : fqT} {Z : Nat → Nat} {ad : Nat → Nat} {n cells slots : Nat} {σ : fqS} {pc : Nat} {lv : List (Nat × Value)} {rest : List Value} (E : fqE X rm cy cc nL Ts own) {x y : Int64} {off : Int} (tgt : Nat) (hd1 : decode cc pc = .ok (.lcmp, 1)) (hdg : decode cc (pc + 1) = .ok (.ifCond .eq off, 3)) (ht : ((pc + 1 : Nat) : Int) + off = (tgt : Int))
    (kt : x = y → fqG X T Z ad n nL cells slots σ tgt lv (rest)) (kf : ¬ (x = y) → fqG X T Z ad n nL cells slots σ (pc + 4) lv (rest)) : fqG X T Z ad n nL cells slots σ pc lv (.long y :: .long x :: rest) := by
  obtain ⟨p, l, e, R, s, m, args, below, meth, c, Q, D, A⟩ := X
  obtain ⟨⟨hx, hb, hml, hown, hts⟩, hK, hA, hR⟩ := E
  exact fun H locs ls hw hl => W.lcmp hx hb hd1 (lv_if_eq hx hb hdg ht (fun h => kt ((fq_cmp_eq x y).mp h) H locs ls hw hl) (fun h => kf (fun h2 => h ((fq_cmp_eq x y).mpr h2)) H locs ls hw hl))
theorem g_lif_ne {X : fqX} {rm : Room} {cy : Nat → ClassId} {cc : ByteArray} {nL : Nat} {Ts : List Cond} {own : String} {T : fqT} {Z : Nat → Nat} {ad : Nat → Nat} {n cells slots : Nat} {σ : fqS} {pc : Nat} {lv : List (Nat × Value)} {rest : List Value} (E : fqE X rm cy cc nL Ts own) {x y : Int64} {off : Int} (tgt : Nat) (hd1 : decode cc pc = .ok (.lcmp, 1)) (hdg : decode cc (pc + 1) = .ok (.ifCond .ne off, 3)) (ht : ((pc + 1 : Nat) : Int) + off = (tgt : Int))
    (kt : ¬ x = y → fqG X T Z ad n nL cells slots σ tgt lv (rest)) (kf : x = y → fqG X T Z ad n nL cells slots σ (pc + 4) lv (rest)) : fqG X T Z ad n nL cells slots σ pc lv (.long y :: .long x :: rest) := by
  obtain ⟨p, l, e, R, s, m, args, below, meth, c, Q, D, A⟩ := X
  obtain ⟨⟨hx, hb, hml, hown, hts⟩, hK, hA, hR⟩ := E
  exact fun H locs ls hw hl => W.lcmp hx hb hd1 (lv_if_ne hx hb hdg ht (fun h => kt ((fq_cmp_ne x y).mp h) H locs ls hw hl) (fun h => kf ((fq_cmp_eq x y).mp h) H locs ls hw hl))
theorem g_lif_lt {X : fqX} {rm : Room} {cy : Nat → ClassId} {cc : ByteArray} {nL : Nat} {Ts : List Cond} {own : String} {T : fqT} {Z : Nat → Nat} {ad : Nat → Nat} {n cells slots : Nat} {σ : fqS} {pc : Nat} {lv : List (Nat × Value)} {rest : List Value} (E : fqE X rm cy cc nL Ts own) {x y : Int64} {off : Int} (tgt : Nat) (hd1 : decode cc pc = .ok (.lcmp, 1)) (hdg : decode cc (pc + 1) = .ok (.ifCond .lt off, 3)) (ht : ((pc + 1 : Nat) : Int) + off = (tgt : Int))
    (kt : x < y → fqG X T Z ad n nL cells slots σ tgt lv (rest)) (kf : ¬ (x < y) → fqG X T Z ad n nL cells slots σ (pc + 4) lv (rest)) : fqG X T Z ad n nL cells slots σ pc lv (.long y :: .long x :: rest) := by
  obtain ⟨p, l, e, R, s, m, args, below, meth, c, Q, D, A⟩ := X
  obtain ⟨⟨hx, hb, hml, hown, hts⟩, hK, hA, hR⟩ := E
  exact fun H locs ls hw hl => W.lcmp hx hb hd1 (lv_if_lt hx hb hdg ht (fun h => kt ((fq_cmp_lt x y).mp h) H locs ls hw hl) (fun h => kf (fun h2 => h ((fq_cmp_lt x y).mpr h2)) H locs ls hw hl))
theorem g_lif_ge {X : fqX} {rm : Room} {cy : Nat → ClassId} {cc : ByteArray} {nL : Nat} {Ts : List Cond} {own : String} {T : fqT} {Z : Nat → Nat} {ad : Nat → Nat} {n cells slots : Nat} {σ : fqS} {pc : Nat} {lv : List (Nat × Value)} {rest : List Value} (E : fqE X rm cy cc nL Ts own) {x y : Int64} {off : Int} (tgt : Nat) (hd1 : decode cc pc = .ok (.lcmp, 1)) (hdg : decode cc (pc + 1) = .ok (.ifCond .ge off, 3)) (ht : ((pc + 1 : Nat) : Int) + off = (tgt : Int))
    (kt : y ≤ x → fqG X T Z ad n nL cells slots σ tgt lv (rest)) (kf : ¬ (y ≤ x) → fqG X T Z ad n nL cells slots σ (pc + 4) lv (rest)) : fqG X T Z ad n nL cells slots σ pc lv (.long y :: .long x :: rest) := by
  obtain ⟨p, l, e, R, s, m, args, below, meth, c, Q, D, A⟩ := X
  obtain ⟨⟨hx, hb, hml, hown, hts⟩, hK, hA, hR⟩ := E
  exact fun H locs ls hw hl => W.lcmp hx hb hd1 (lv_if_ge hx hb hdg ht (fun h => kt ((fq_cmp_ge x y).mp h) H locs ls hw hl) (fun h => kf (fun h2 => h ((fq_cmp_ge x y).mpr h2)) H locs ls hw hl))
theorem g_lif_gt {X : fqX} {rm : Room} {cy : Nat → ClassId} {cc : ByteArray} {nL : Nat} {Ts : List Cond} {own : String} {T : fqT} {Z : Nat → Nat} {ad : Nat → Nat} {n cells slots : Nat} {σ : fqS} {pc : Nat} {lv : List (Nat × Value)} {rest : List Value} (E : fqE X rm cy cc nL Ts own) {x y : Int64} {off : Int} (tgt : Nat) (hd1 : decode cc pc = .ok (.lcmp, 1)) (hdg : decode cc (pc + 1) = .ok (.ifCond .gt off, 3)) (ht : ((pc + 1 : Nat) : Int) + off = (tgt : Int))
    (kt : y < x → fqG X T Z ad n nL cells slots σ tgt lv (rest)) (kf : ¬ (y < x) → fqG X T Z ad n nL cells slots σ (pc + 4) lv (rest)) : fqG X T Z ad n nL cells slots σ pc lv (.long y :: .long x :: rest) := by
  obtain ⟨p, l, e, R, s, m, args, below, meth, c, Q, D, A⟩ := X
  obtain ⟨⟨hx, hb, hml, hown, hts⟩, hK, hA, hR⟩ := E
  exact fun H locs ls hw hl => W.lcmp hx hb hd1 (lv_if_gt hx hb hdg ht (fun h => kt ((fq_cmp_gt x y).mp h) H locs ls hw hl) (fun h => kf (fun h2 => h ((fq_cmp_gt x y).mpr h2)) H locs ls hw hl))
theorem g_lif_le {X : fqX} {rm : Room} {cy : Nat → ClassId} {cc : ByteArray} {nL : Nat} {Ts : List Cond} {own : String} {T : fqT} {Z : Nat → Nat} {ad : Nat → Nat} {n cells slots : Nat} {σ : fqS} {pc : Nat} {lv : List (Nat × Value)} {rest : List Value} (E : fqE X rm cy cc nL Ts own) {x y : Int64} {off : Int} (tgt : Nat) (hd1 : decode cc pc = .ok (.lcmp, 1)) (hdg : decode cc (pc + 1) = .ok (.ifCond .le off, 3)) (ht : ((pc + 1 : Nat) : Int) + off = (tgt : Int))
    (kt : x ≤ y → fqG X T Z ad n nL cells slots σ tgt lv (rest)) (kf : ¬ (x ≤ y) → fqG X T Z ad n nL cells slots σ (pc + 4) lv (rest)) : fqG X T Z ad n nL cells slots σ pc lv (.long y :: .long x :: rest) := by
  obtain ⟨p, l, e, R, s, m, args, below, meth, c, Q, D, A⟩ := X
  obtain ⟨⟨hx, hb, hml, hown, hts⟩, hK, hA, hR⟩ := E
  exact fun H locs ls hw hl => W.lcmp hx hb hd1 (lv_if_le hx hb hdg ht (fun h => kt ((fq_cmp_le x y).mp h) H locs ls hw hl) (fun h => kf (fun h2 => h ((fq_cmp_le x y).mpr h2)) H locs ls hw hl))
theorem g_goto {X : fqX} {rm : Room} {cy : Nat → ClassId} {cc : ByteArray} {nL : Nat} {Ts : List Cond} {own : String} {T : fqT} {Z : Nat → Nat} {ad : Nat → Nat} {n cells slots : Nat} {σ : fqS} {pc : Nat} {lv : List (Nat × Value)} {rest : List Value} (E : fqE X rm cy cc nL Ts own) {off : Int} (tgt : Nat) (hdg : decode cc pc = .ok (.goto off, 3)) (ht : (pc : Int) + off = (tgt : Int))
    (k : fqG X T Z ad n nL cells slots σ tgt lv (rest)) : fqG X T Z ad n nL cells slots σ pc lv (rest) := by
  obtain ⟨p, l, e, R, s, m, args, below, meth, c, Q, D, A⟩ := X
  obtain ⟨⟨hx, hb, hml, hown, hts⟩, hK, hA, hR⟩ := E
  exact fun H locs ls hw hl => lv_goto hx hb hdg ht (k H locs ls hw hl)
theorem g_ifnull {X : fqX} {rm : Room} {cy : Nat → ClassId} {cc : ByteArray} {nL : Nat} {Ts : List Cond} {own : String} {T : fqT} {Z : Nat → Nat} {ad : Nat → Nat} {n cells slots : Nat} {σ : fqS} {pc : Nat} {lv : List (Nat × Value)} {rest : List Value} (E : fqE X rm cy cc nL Ts own) {x : Nat} {off : Int} (hdg : decode cc pc = .ok (.ifnull off, 3))
    (k : fqG X T Z ad n nL cells slots σ (pc + 3) lv (rest)) : fqG X T Z ad n nL cells slots σ pc lv (.ref x :: rest) := by
  obtain ⟨p, l, e, R, s, m, args, below, meth, c, Q, D, A⟩ := X
  obtain ⟨⟨hx, hb, hml, hown, hts⟩, hK, hA, hR⟩ := E
  exact fun H locs ls hw hl => lv_ifnull hx hb hdg (k H locs ls hw hl)
theorem g_ifnullN {X : fqX} {rm : Room} {cy : Nat → ClassId} {cc : ByteArray} {nL : Nat} {Ts : List Cond} {own : String} {T : fqT} {Z : Nat → Nat} {ad : Nat → Nat} {n cells slots : Nat} {σ : fqS} {pc : Nat} {lv : List (Nat × Value)} {rest : List Value} (E : fqE X rm cy cc nL Ts own) {off : Int} (tgt : Nat) (hdg : decode cc pc = .ok (.ifnull off, 3)) (ht : (pc : Int) + off = (tgt : Int))
    (k : fqG X T Z ad n nL cells slots σ tgt lv (rest)) : fqG X T Z ad n nL cells slots σ pc lv (.null :: rest) := by
  obtain ⟨p, l, e, R, s, m, args, below, meth, c, Q, D, A⟩ := X
  obtain ⟨⟨hx, hb, hml, hown, hts⟩, hK, hA, hR⟩ := E
  exact fun H locs ls hw hl => lv_ifnullN hx hb hdg ht (k H locs ls hw hl)
theorem g_ifnonnull {X : fqX} {rm : Room} {cy : Nat → ClassId} {cc : ByteArray} {nL : Nat} {Ts : List Cond} {own : String} {T : fqT} {Z : Nat → Nat} {ad : Nat → Nat} {n cells slots : Nat} {σ : fqS} {pc : Nat} {lv : List (Nat × Value)} {rest : List Value} (E : fqE X rm cy cc nL Ts own) {x : Nat} {off : Int} (tgt : Nat) (hdg : decode cc pc = .ok (.ifnonnull off, 3)) (ht : (pc : Int) + off = (tgt : Int))
    (k : fqG X T Z ad n nL cells slots σ tgt lv (rest)) : fqG X T Z ad n nL cells slots σ pc lv (.ref x :: rest) := by
  obtain ⟨p, l, e, R, s, m, args, below, meth, c, Q, D, A⟩ := X
  obtain ⟨⟨hx, hb, hml, hown, hts⟩, hK, hA, hR⟩ := E
  exact fun H locs ls hw hl => lv_ifnonnull hx hb hdg ht (k H locs ls hw hl)
theorem g_ifnonnullN {X : fqX} {rm : Room} {cy : Nat → ClassId} {cc : ByteArray} {nL : Nat} {Ts : List Cond} {own : String} {T : fqT} {Z : Nat → Nat} {ad : Nat → Nat} {n cells slots : Nat} {σ : fqS} {pc : Nat} {lv : List (Nat × Value)} {rest : List Value} (E : fqE X rm cy cc nL Ts own) {off : Int} (hdg : decode cc pc = .ok (.ifnonnull off, 3))
    (k : fqG X T Z ad n nL cells slots σ (pc + 3) lv (rest)) : fqG X T Z ad n nL cells slots σ pc lv (.null :: rest) := by
  obtain ⟨p, l, e, R, s, m, args, below, meth, c, Q, D, A⟩ := X
  obtain ⟨⟨hx, hb, hml, hown, hts⟩, hK, hA, hR⟩ := E
  exact fun H locs ls hw hl => lv_ifnonnullN hx hb hdg (k H locs ls hw hl)
theorem g_tableOut {X : fqX} {rm : Room} {cy : Nat → ClassId} {cc : ByteArray} {nL : Nat} {Ts : List Cond} {own : String} {T : fqT} {Z : Nat → Nat} {ad : Nat → Nat} {n cells slots : Nat} {σ : fqS} {pc : Nat} {lv : List (Nat × Value)} {rest : List Value} (E : fqE X rm cy cc nL Ts own) {dflt lo hi : Int} {offs : Array Int} {len : Nat} {x : Int32} (tgt : Nat) (hdg : decode cc pc = .ok (.tableswitch dflt lo hi offs, len)) (h : x.toInt < lo ∨ hi < x.toInt) (ht : (pc : Int) + dflt = (tgt : Int))
    (k : fqG X T Z ad n nL cells slots σ tgt lv (rest)) : fqG X T Z ad n nL cells slots σ pc lv (.int x :: rest) := by
  obtain ⟨p, l, e, R, s, m, args, below, meth, c, Q, D, A⟩ := X
  obtain ⟨⟨hx, hb, hml, hown, hts⟩, hK, hA, hR⟩ := E
  exact fun H locs ls hw hl => lv_tableOut hx hb hdg h ht (k H locs ls hw hl)
theorem g_tableIn {X : fqX} {rm : Room} {cy : Nat → ClassId} {cc : ByteArray} {nL : Nat} {Ts : List Cond} {own : String} {T : fqT} {Z : Nat → Nat} {ad : Nat → Nat} {n cells slots : Nat} {σ : fqS} {pc : Nat} {lv : List (Nat × Value)} {rest : List Value} (E : fqE X rm cy cc nL Ts own) {dflt lo hi : Int} {offs : Array Int} {len : Nat} {x : Int32} {off : Int} (tgt : Nat) (hdg : decode cc pc = .ok (.tableswitch dflt lo hi offs, len)) (h1 : ¬ x.toInt < lo) (h2 : ¬ hi < x.toInt) (ho : offs[(x.toInt - lo).toNat]? = some off) (ht : (pc : Int) + off = (tgt : Int))
    (k : fqG X T Z ad n nL cells slots σ tgt lv (rest)) : fqG X T Z ad n nL cells slots σ pc lv (.int x :: rest) := by
  obtain ⟨p, l, e, R, s, m, args, below, meth, c, Q, D, A⟩ := X
  obtain ⟨⟨hx, hb, hml, hown, hts⟩, hK, hA, hR⟩ := E
  exact fun H locs ls hw hl => lv_tableIn hx hb hdg h1 h2 ho ht (k H locs ls hw hl)
theorem g_lv {X : fqX} {rm : Room} {cy : Nat → ClassId} {cc : ByteArray} {nL : Nat} {Ts : List Cond} {own : String} {T : fqT} {Z : Nat → Nat} {ad : Nat → Nat} {n cells slots : Nat} {σ : fqS} {pc : Nat} {lv : List (Nat × Value)} {rest : List Value} (ks : List Nat) {lv' : List (Nat × Value)} (h : lv_pick lv ks = lv')
    (k : fqG X T Z ad n nL cells slots σ pc lv' (rest)) : fqG X T Z ad n nL cells slots σ pc lv (rest) := by
  obtain ⟨p, l, e, R, s, m, args, below, meth, c, Q, D, A⟩ := X
  exact fun H locs ls hw hl => k H locs ls hw (lv_sub hl ks h)
theorem g_st {X : fqX} {rm : Room} {cy : Nat → ClassId} {cc : ByteArray} {nL : Nat} {Ts : List Cond} {own : String} {T : fqT} {Z : Nat → Nat} {ad : Nat → Nat} {n cells slots : Nat} {σ : fqS} {pc : Nat} {lv : List (Nat × Value)} {rest : List Value} {st st' : List Value} (h : st = st')
    (k : fqG X T Z ad n nL cells slots σ pc lv (st')) : fqG X T Z ad n nL cells slots σ pc lv (st) := h ▸ k
theorem g_pc {X : fqX} {rm : Room} {cy : Nat → ClassId} {cc : ByteArray} {nL : Nat} {Ts : List Cond} {own : String} {T : fqT} {Z : Nat → Nat} {ad : Nat → Nat} {n cells slots : Nat} {σ : fqS} {pc : Nat} {lv : List (Nat × Value)} {rest : List Value} {pc' : Nat} {st : List Value} (h : pc = pc')
    (k : fqG X T Z ad n nL cells slots σ pc' lv (st)) : fqG X T Z ad n nL cells slots σ pc lv (st) := h ▸ k
theorem g_iaload {X : fqX} {rm : Room} {cy : Nat → ClassId} {cc : ByteArray} {nL : Nat} {Ts : List Cond} {own : String} {T : fqT} {Z : Nat → Nat} {ad : Nat → Nat} {n cells slots : Nat} {σ : fqS} {pc : Nat} {lv : List (Nat × Value)} {rest : List Value} (E : fqE X rm cy cc nL Ts own) (q : Nat) (hq : q < Z n) {len : Nat} (hT : ∀ f g, T ad n q f g = .inl (cy 0, len, .inl f)) {i : Int32} (hin : vp_in i len) (hdg : decode cc pc = .ok (.iaload, 1))
    (k : fqG X T Z ad n nL cells slots σ (pc + 1) lv (.int (fqI σ q i.toNatClampNeg) :: rest)) : fqG X T Z ad n nL cells slots σ pc lv (.int i :: .ref (ad q) :: rest) := by
  obtain ⟨p, l, e, R, s, m, args, below, meth, c, Q, D, A⟩ := X
  obtain ⟨⟨hx, hb, hml, hown, hts⟩, hK, hA, hR⟩ := E
  exact fun H locs ls hw hl => va_iald (f := σ.1 q) hx hb hK.1 hw.1 q 0 (by rw [fqW_get hq, hT]) rfl hin hdg (k H locs ls hw hl)
theorem g_baload {X : fqX} {rm : Room} {cy : Nat → ClassId} {cc : ByteArray} {nL : Nat} {Ts : List Cond} {own : String} {T : fqT} {Z : Nat → Nat} {ad : Nat → Nat} {n cells slots : Nat} {σ : fqS} {pc : Nat} {lv : List (Nat × Value)} {rest : List Value} (E : fqE X rm cy cc nL Ts own) (q : Nat) (hq : q < Z n) {len : Nat} (hT : ∀ f g, T ad n q f g = .inl (cy 2, len, .inl f)) {i : Int32} (hin : vp_in i len) (hdg : decode cc pc = .ok (.baload, 1))
    (k : fqG X T Z ad n nL cells slots σ (pc + 1) lv (.int (fqI σ q i.toNatClampNeg) :: rest)) : fqG X T Z ad n nL cells slots σ pc lv (.int i :: .ref (ad q) :: rest) := by
  obtain ⟨p, l, e, R, s, m, args, below, meth, c, Q, D, A⟩ := X
  obtain ⟨⟨hx, hb, hml, hown, hts⟩, hK, hA, hR⟩ := E
  exact fun H locs ls hw hl => va_zald (f := σ.1 q) hx hb hK.1 hw.1 q 2 (by rw [fqW_get hq, hT]) rfl hin hdg (k H locs ls hw hl)
theorem g_laload {X : fqX} {rm : Room} {cy : Nat → ClassId} {cc : ByteArray} {nL : Nat} {Ts : List Cond} {own : String} {T : fqT} {Z : Nat → Nat} {ad : Nat → Nat} {n cells slots : Nat} {σ : fqS} {pc : Nat} {lv : List (Nat × Value)} {rest : List Value} (E : fqE X rm cy cc nL Ts own) (q : Nat) (hq : q < Z n) {len : Nat} (hT : ∀ f g, T ad n q f g = .inl (cy 1, len, .inr (.inl g))) {i : Int32} (hin : vp_in i len) (hdg : decode cc pc = .ok (.laload, 1))
    (k : fqG X T Z ad n nL cells slots σ (pc + 1) lv (.long (fqJ σ q i.toNatClampNeg) :: rest)) : fqG X T Z ad n nL cells slots σ pc lv (.int i :: .ref (ad q) :: rest) := by
  obtain ⟨p, l, e, R, s, m, args, below, meth, c, Q, D, A⟩ := X
  obtain ⟨⟨hx, hb, hml, hown, hts⟩, hK, hA, hR⟩ := E
  exact fun H locs ls hw hl => va_lald (f := σ.2 q) hx hb hK.1 hw.1 q 1 (by rw [fqW_get hq, hT]) rfl hin hdg (k H locs ls hw hl)
theorem g_aaload {X : fqX} {rm : Room} {cy : Nat → ClassId} {cc : ByteArray} {nL : Nat} {Ts : List Cond} {own : String} {T : fqT} {Z : Nat → Nat} {ad : Nat → Nat} {n cells slots : Nat} {σ : fqS} {pc : Nat} {lv : List (Nat × Value)} {rest : List Value} (E : fqE X rm cy cc nL Ts own) (q : Nat) (hq : q < Z n) (t0 : Nat) {C : String} {len : Nat} {F : Nat → Option Nat} (hT : ∀ f g, T ad n q f g = .inl (cy t0, len, .inr (.inr (.inr (.inr F))))) (ht : (fqTy cy)[t0]? = some (cy t0, .object C)) {i : Int32} (hin : vp_in i len) (hdg : decode cc pc = .ok (.aaload, 1))
    (k : fqG X T Z ad n nL cells slots σ (pc + 1) lv (va_rf (F i.toNatClampNeg) :: rest)) : fqG X T Z ad n nL cells slots σ pc lv (.int i :: .ref (ad q) :: rest) := by
  obtain ⟨p, l, e, R, s, m, args, below, meth, c, Q, D, A⟩ := X
  obtain ⟨⟨hx, hb, hml, hown, hts⟩, hK, hA, hR⟩ := E
  exact fun H locs ls hw hl => va_aldq (f := F) hx hb hK.1 hw.1 q t0 (by rw [fqW_get hq, hT]) ht hin hdg (k H locs ls hw hl)
theorem g_alen {X : fqX} {rm : Room} {cy : Nat → ClassId} {cc : ByteArray} {nL : Nat} {Ts : List Cond} {own : String} {T : fqT} {Z : Nat → Nat} {ad : Nat → Nat} {n cells slots : Nat} {σ : fqS} {pc : Nat} {lv : List (Nat × Value)} {rest : List Value} (E : fqE X rm cy cc nL Ts own) (q : Nat) (hq : q < Z n) (t0 : Nat) {ty : FieldType} {x : (Nat → Int32) → (Nat → Int64) → vp_A} (hT : ∀ f g, T ad n q f g = .inl (cy t0, x f g)) (ht : (fqTy cy)[t0]? = some (cy t0, ty)) (v : Int32) (hv : Int32.ofNat (x (σ.1 q) (σ.2 q)).1 = v) (hdg : decode cc pc = .ok (.arraylength, 1))
    (k : fqG X T Z ad n nL cells slots σ (pc + 1) lv (.int v :: rest)) : fqG X T Z ad n nL cells slots σ pc lv (.ref (ad q) :: rest) := by
  obtain ⟨p, l, e, R, s, m, args, below, meth, c, Q, D, A⟩ := X
  obtain ⟨⟨hx, hb, hml, hown, hts⟩, hK, hA, hR⟩ := E
  exact fun H locs ls hw hl => va_alen (x := x (σ.1 q) (σ.2 q)) hx hb hK.1 hw.1 q t0 (by rw [fqW_get hq, hT]) ht hv hdg (k H locs ls hw hl)
theorem g_iastore {X : fqX} {rm : Room} {cy : Nat → ClassId} {cc : ByteArray} {nL : Nat} {Ts : List Cond} {own : String} {T : fqT} {Z : Nat → Nat} {ad : Nat → Nat} {n cells slots : Nat} {σ : fqS} {pc : Nat} {lv : List (Nat × Value)} {rest : List Value} (E : fqE X rm cy cc nL Ts own) (q : Nat) (hq : q < Z n) {len : Nat} (hT : ∀ f g, T ad n q f g = .inl (cy 0, len, .inl f)) {i : Int32} {x : Int32} (hin : vp_in i len) (hdg : decode cc pc = .ok (.iastore, 1))
    (k : fqG X T Z ad n nL cells slots (fqPI σ q i.toNatClampNeg x) (pc + 1) lv (rest)) : fqG X T Z ad n nL cells slots σ pc lv (.int x :: .int i :: .ref (ad q) :: rest) := by
  obtain ⟨p, l, e, R, s, m, args, below, meth, c, Q, D, A⟩ := X
  obtain ⟨⟨hx, hb, hml, hown, hts⟩, hK, hA, hR⟩ := E
  exact fun H locs ls hw hl => va_iast (f := σ.1 q) hx hb hK.1 hw.1 hw.2.1 hw.2.2 q 0 (by rw [fqW_get hq, hT]) rfl hin hdg (fun H locs hP hD hS => by
    rw [fqW_set (σ' := fqPI σ q i.toNatClampNeg x) hq (by rw [hT, fqPI_s]) fqPI_o] at hP hD
    exact k H locs ls ⟨hP, hD, hS⟩ hl)
theorem g_lastore {X : fqX} {rm : Room} {cy : Nat → ClassId} {cc : ByteArray} {nL : Nat} {Ts : List Cond} {own : String} {T : fqT} {Z : Nat → Nat} {ad : Nat → Nat} {n cells slots : Nat} {σ : fqS} {pc : Nat} {lv : List (Nat × Value)} {rest : List Value} (E : fqE X rm cy cc nL Ts own) (q : Nat) (hq : q < Z n) {len : Nat} (hT : ∀ f g, T ad n q f g = .inl (cy 1, len, .inr (.inl g))) {i : Int32} {x : Int64} (hin : vp_in i len) (hdg : decode cc pc = .ok (.lastore, 1))
    (k : fqG X T Z ad n nL cells slots (fqPJ σ q i.toNatClampNeg x) (pc + 1) lv (rest)) : fqG X T Z ad n nL cells slots σ pc lv (.long x :: .int i :: .ref (ad q) :: rest) := by
  obtain ⟨p, l, e, R, s, m, args, below, meth, c, Q, D, A⟩ := X
  obtain ⟨⟨hx, hb, hml, hown, hts⟩, hK, hA, hR⟩ := E
  exact fun H locs ls hw hl => va_last (f := σ.2 q) hx hb hK.1 hw.1 hw.2.1 hw.2.2 q 1 (by rw [fqW_get hq, hT]) rfl hin hdg (fun H locs hP hD hS => by
    rw [fqW_set (σ' := fqPJ σ q i.toNatClampNeg x) hq (by rw [hT, fqPJ_s]) fqPJ_o] at hP hD
    exact k H locs ls ⟨hP, hD, hS⟩ hl)
theorem g_bastore {X : fqX} {rm : Room} {cy : Nat → ClassId} {cc : ByteArray} {nL : Nat} {Ts : List Cond} {own : String} {T : fqT} {Z : Nat → Nat} {ad : Nat → Nat} {n cells slots : Nat} {σ : fqS} {pc : Nat} {lv : List (Nat × Value)} {rest : List Value} (E : fqE X rm cy cc nL Ts own) (q : Nat) (hq : q < Z n) {len : Nat} (hT : ∀ f g, T ad n q f g = .inl (cy 2, len, .inl f)) {i : Int32} {x : Int32} (hx1 : vp_nar .boolean x = x) (hin : vp_in i len) (hdg : decode cc pc = .ok (.bastore, 1))
    (k : fqG X T Z ad n nL cells slots (fqPI σ q i.toNatClampNeg x) (pc + 1) lv (rest)) : fqG X T Z ad n nL cells slots σ pc lv (.int x :: .int i :: .ref (ad q) :: rest) := by
  obtain ⟨p, l, e, R, s, m, args, below, meth, c, Q, D, A⟩ := X
  obtain ⟨⟨hx, hb, hml, hown, hts⟩, hK, hA, hR⟩ := E
  exact fun H locs ls hw hl => va_zast (f := σ.1 q) hx hb hK.1 hw.1 hw.2.1 hw.2.2 q 2 (by rw [fqW_get hq, hT]) rfl hin hdg (fun H locs hP hD hS => by
    rw [hx1, fqW_set (σ' := fqPI σ q i.toNatClampNeg x) hq (by rw [hT, fqPI_s]) fqPI_o] at hP hD
    exact k H locs ls ⟨hP, hD, hS⟩ hl)
theorem g_getfield {X : fqX} {rm : Room} {cy : Nat → ClassId} {cc : ByteArray} {nL : Nat} {Ts : List Cond} {own : String} {T : fqT} {Z : Nat → Nat} {ad : Nat → Nat} {n cells slots : Nat} {σ : fqS} {pc : Nat} {lv : List (Nat × Value)} {rest : List Value} (E : fqE X rm cy cc nL Ts own) {C : String} {Tt : u_T} {N ci index : Nat} (hin : ∀ w ∈ u_ws C Tt N, w ∈ Ts) (q : Nat) (hq : q < Z n) {fs : (Nat → Int32) → (Nat → Int64) → List Value} (hT : ∀ f g, T ad n q f g = .inr (ci, fs f g)) (hc : vwCl[ci]? = some (C, Tt, N)) (i : Nat) (hi : i < N) (hm : Cond.fieldLink own index (Tt i).1 (Tt i).2.1 (Tt i).2.2.1 ∈ Ts) (v : Value) (hv : (fs (σ.1 q) (σ.2 q))[i]? = some v) (hdg : decode cc pc = .ok (.getfield index, 3))
    (k : fqG X T Z ad n nL cells slots σ (pc + 3) lv (v :: rest)) : fqG X T Z ad n nL cells slots σ pc lv (.ref (ad q) :: rest) := by
  obtain ⟨p, l, e, R, s, m, args, below, meth, c, Q, D, A⟩ := X
  obtain ⟨⟨hx, hb, hml, hown, hts⟩, hK, hA, hR⟩ := E
  exact fun H locs ls hw hl => va_get hx hb hts hin hown hK.1 hw.1 q (by rw [fqW_get hq, hT]) hc i hi (hts _ hm) (fun _ h => h) hv hdg (k H locs ls hw hl)
theorem g_putI {X : fqX} {rm : Room} {cy : Nat → ClassId} {cc : ByteArray} {nL : Nat} {Ts : List Cond} {own : String} {T : fqT} {Z : Nat → Nat} {ad : Nat → Nat} {n cells slots : Nat} {σ : fqS} {pc : Nat} {lv : List (Nat × Value)} {rest : List Value} (E : fqE X rm cy cc nL Ts own) {C : String} {Tt : u_T} {N ci index : Nat} (hin : ∀ w ∈ u_ws C Tt N, w ∈ Ts) (ty0 : Nat → FieldType) (hty : ∀ k, k < N → parseFieldDescriptor (Tt k).2.2.1 = some (ty0 k)) (hnm : ∀ a, a < N → ∀ b, b < N → a ≠ b → (Tt a).2.1 ≠ (Tt b).2.1) (q : Nat) (hq : q < Z n) {fs : (Nat → Int32) → (Nat → Int64) → List Value} (hT : ∀ f g, T ad n q f g = .inr (ci, fs f g)) (hc : vwCl[ci]? = some (C, Tt, N)) (i : Nat) (hi : i < N) (hm : Cond.fieldLink own index (Tt i).1 (Tt i).2.1 (Tt i).2.2.1 ∈ Ts) (hfin : (Tt i).2.2.2 = false) (hd : parseFieldDescriptor (Tt i).2.2.1 = some .int) {x : Int32} (hl9 : i < (fs (σ.1 q) (σ.2 q)).length) (hs : (fs (σ.1 q) (σ.2 q)).set i (.int x) = fs (upd (σ.1 q) i x) (σ.2 q)) (hdg : decode cc pc = .ok (.putfield index, 3))
    (k : fqG X T Z ad n nL cells slots (fqPI σ q i x) (pc + 3) lv (rest)) : fqG X T Z ad n nL cells slots σ pc lv (.int x :: .ref (ad q) :: rest) := by
  obtain ⟨p, l, e, R, s, m, args, below, meth, c, Q, D, A⟩ := X
  obtain ⟨⟨hx, hb, hml, hown, hts⟩, hK, hA, hR⟩ := E
  exact fun H locs ls hw hl => va_put (v := .int x) (ty := .int) hx hb hts hin ty0 hty hnm hown hK.1 hw.1 hw.2.1 hw.2.2 q (by rw [fqW_get hq, hT]) hc i hi (hts _ hm) (fun _ h => h) hfin hd rfl rfl hl9 hdg (fun H locs hP hD hS => by
    rw [fqW_set (σ' := fqPI σ q i x) hq (by rw [hT, fqPI_s, hs]; rfl) fqPI_o] at hP hD
    exact k H locs ls ⟨hP, hD, hS⟩ hl)
theorem g_putJ {X : fqX} {rm : Room} {cy : Nat → ClassId} {cc : ByteArray} {nL : Nat} {Ts : List Cond} {own : String} {T : fqT} {Z : Nat → Nat} {ad : Nat → Nat} {n cells slots : Nat} {σ : fqS} {pc : Nat} {lv : List (Nat × Value)} {rest : List Value} (E : fqE X rm cy cc nL Ts own) {C : String} {Tt : u_T} {N ci index : Nat} (hin : ∀ w ∈ u_ws C Tt N, w ∈ Ts) (ty0 : Nat → FieldType) (hty : ∀ k, k < N → parseFieldDescriptor (Tt k).2.2.1 = some (ty0 k)) (hnm : ∀ a, a < N → ∀ b, b < N → a ≠ b → (Tt a).2.1 ≠ (Tt b).2.1) (q : Nat) (hq : q < Z n) {fs : (Nat → Int32) → (Nat → Int64) → List Value} (hT : ∀ f g, T ad n q f g = .inr (ci, fs f g)) (hc : vwCl[ci]? = some (C, Tt, N)) (i : Nat) (hi : i < N) (hm : Cond.fieldLink own index (Tt i).1 (Tt i).2.1 (Tt i).2.2.1 ∈ Ts) (hfin : (Tt i).2.2.2 = false) (hd : parseFieldDescriptor (Tt i).2.2.1 = some .long) {x : Int64} (hl9 : i < (fs (σ.1 q) (σ.2 q)).length) (hs : (fs (σ.1 q) (σ.2 q)).set i (.long x) = fs (σ.1 q) (vp_updL (σ.2 q) i x)) (hdg : decode cc pc = .ok (.putfield index, 3))
    (k : fqG X T Z ad n nL cells slots (fqPJ σ q i x) (pc + 3) lv (rest)) : fqG X T Z ad n nL cells slots σ pc lv (.long x :: .ref (ad q) :: rest) := by
  obtain ⟨p, l, e, R, s, m, args, below, meth, c, Q, D, A⟩ := X
  obtain ⟨⟨hx, hb, hml, hown, hts⟩, hK, hA, hR⟩ := E
  exact fun H locs ls hw hl => va_put (v := .long x) (ty := .long) hx hb hts hin ty0 hty hnm hown hK.1 hw.1 hw.2.1 hw.2.2 q (by rw [fqW_get hq, hT]) hc i hi (hts _ hm) (fun _ h => h) hfin hd rfl rfl hl9 hdg (fun H locs hP hD hS => by
    rw [fqW_set (σ' := fqPJ σ q i x) hq (by rw [hT, fqPJ_s, hs]; rfl) fqPJ_o] at hP hD
    exact k H locs ls ⟨hP, hD, hS⟩ hl)
theorem fqA_in {T : fqT} {Z : Nat → Nat} {D : va_G} {ad : Nat → Nat} {n : Nat} {A : Nat → Prop} {σ : fqS} {H0 H : Heap} {locs : List Loc} (hw : fqO T Z D ad n A H0 σ H locs) (hA : ∀ q : Nat, H0.size ≤ q → A q) : ∀ q : Nat, fqA T Z ad H.size n σ q → A q := by
  intro q h
  rcases h with ⟨k, e, h⟩ | h
  · exact hw.2.1.2 k (q, e) h
  · exact hA q (Nat.le_trans hw.2.2.1 h)
theorem g_callVl {X : fqX} {rm : Room} {cy : Nat → ClassId} {cc : ByteArray} {nL : Nat} {Ts : List Cond} {own : String} {T : fqT} {Z : Nat → Nat} {ad : Nat → Nat} {n cells slots : Nat} {σ : fqS} {pc : Nat} {lv : List (Nat × Value)} {rest : List Value} (E : fqE X rm cy cc nL Ts own) {y : MethodName} {bytes : ByteArray} {maxL nn index : Nat} {ret : Option FieldType} {ws ws' : List Cond} {rmc : Room} {C : String} {Tt : u_T} {N ci : Nat} (q : Nat) (hq : q < Z n) {fs : (Nat → Int32) → (Nat → Int64) → List Value} (hT : ∀ f g, T ad n q f g = .inr (ci, fs f g)) (hc : vwCl[ci]? = some (C, Tt, N)) (As : List Value) {r : Int64} {σ' : fqS} (hM : ∀ (l : Launch) (D : va_G) (sz : Nat), Met l y ws rmc (fqPc T Z D cy ad sz n σ (.ref (ad q) :: As)) (fqQl T Z D ad sz n σ r σ') 0 0 (fqA T Z ad sz n σ)) (hG : GoodIn Ts (wsV own index C y ws)) (hw9 : ws = Cond.code y bytes maxL ret :: ws') (hrc : rmc.cells = 0) (hrs : rmc.slots = 0) (hd : y.cls = C ∧ y.cls ≠ "java/lang/invoke/MethodHandle" ∧ y.cls ≠ "java/lang/invoke/VarHandle" ∧ (parseMethodDescriptor y.desc).map (fun d => d.parameters.length) = some nn) (hR9 : rmc.frames + 1 ≤ rm.frames ∧ 8 + (maxL + 11) + rmc.locals ≤ rm.locals) (hn : As.length = nn) {st : List Value} (hst : st = As.reverse ++ .ref (ad q) :: rest) (hroom : (rest.map fun v => v.category).sum ≤ 8) (hdg : decode cc pc = .ok (.invokevirtual index, 3)) (hcs : cells ≤ rm.cells ∧ slots ≤ rm.slots)
    (k : fqG X T Z ad n nL cells slots σ' (pc + 3) lv (.long r :: rest)) : fqG X T Z ad n nL cells slots σ pc lv (st) := by
  obtain ⟨p, l, e, R, s, m, args, below, meth, c, Q, D, A⟩ := X
  obtain ⟨⟨hx, hb, hml, hown, hts⟩, hK, hA, hR⟩ := E
  exact fun H locs ls hw hl => va_calll (va_runV (As := As) (rest := rest) ⟨hx, hb, hml, hown, hts⟩ (hM l D H.size) (cwV nn hts hG hw9 hrc hrs hd (by rw [hR]; exact hR9)) ⟨fqPc_blind, va_recv hK.1 hw.1 hc (q0 := q) (by rw [fqW_get hq, hT]), fun U hU hW => ⟨rfl, by rw [hU], by rw [hU]; exact hw.1, hK.warm hW, hw.2.1.weaken (fun _ _ _ _ => trivial)⟩⟩ rfl hn hl.1 hst (lv_room hroom) hdg (by rw [hR]; exact hcs)) hw.2.2 (fun q _ h => fqA_in hw hA q h) (fqA_in hw hA) (fun r1 u t H1 locs ht hvm hp hB hz hk hS => by
    cases hp
    obtain ⟨hP1, hD1⟩ := hB
    rw [ht] at hP1
    exact k H1 locs ls ⟨hP1, hD1.weaken (fun _ q _ h => fqA_in hw hA q.1 h), hS⟩ hl)
theorem g_callVi {X : fqX} {rm : Room} {cy : Nat → ClassId} {cc : ByteArray} {nL : Nat} {Ts : List Cond} {own : String} {T : fqT} {Z : Nat → Nat} {ad : Nat → Nat} {n cells slots : Nat} {σ : fqS} {pc : Nat} {lv : List (Nat × Value)} {rest : List Value} (E : fqE X rm cy cc nL Ts own) {y : MethodName} {bytes : ByteArray} {maxL nn index : Nat} {ret : Option FieldType} {ws ws' : List Cond} {rmc : Room} {C : String} {Tt : u_T} {N ci : Nat} (q : Nat) (hq : q < Z n) {fs : (Nat → Int32) → (Nat → Int64) → List Value} (hT : ∀ f g, T ad n q f g = .inr (ci, fs f g)) (hc : vwCl[ci]? = some (C, Tt, N)) (As : List Value) {r : Int32} {σ' : fqS} (hM : ∀ (l : Launch) (D : va_G) (sz : Nat), Met l y ws rmc (fqPc T Z D cy ad sz n σ (.ref (ad q) :: As)) (fqQi T Z D ad sz n σ r σ') 0 0 (fqA T Z ad sz n σ)) (hG : GoodIn Ts (wsV own index C y ws)) (hw9 : ws = Cond.code y bytes maxL ret :: ws') (hrc : rmc.cells = 0) (hrs : rmc.slots = 0) (hd : y.cls = C ∧ y.cls ≠ "java/lang/invoke/MethodHandle" ∧ y.cls ≠ "java/lang/invoke/VarHandle" ∧ (parseMethodDescriptor y.desc).map (fun d => d.parameters.length) = some nn) (hR9 : rmc.frames + 1 ≤ rm.frames ∧ 8 + (maxL + 11) + rmc.locals ≤ rm.locals) (hn : As.length = nn) {st : List Value} (hst : st = As.reverse ++ .ref (ad q) :: rest) (hroom : (rest.map fun v => v.category).sum ≤ 8) (hdg : decode cc pc = .ok (.invokevirtual index, 3)) (hcs : cells ≤ rm.cells ∧ slots ≤ rm.slots)
    (k : fqG X T Z ad n nL cells slots σ' (pc + 3) lv (.int r :: rest)) : fqG X T Z ad n nL cells slots σ pc lv (st) := by
  obtain ⟨p, l, e, R, s, m, args, below, meth, c, Q, D, A⟩ := X
  obtain ⟨⟨hx, hb, hml, hown, hts⟩, hK, hA, hR⟩ := E
  exact fun H locs ls hw hl => va_calli (va_runV (As := As) (rest := rest) ⟨hx, hb, hml, hown, hts⟩ (hM l D H.size) (cwV nn hts hG hw9 hrc hrs hd (by rw [hR]; exact hR9)) ⟨fqPc_blind, va_recv hK.1 hw.1 hc (q0 := q) (by rw [fqW_get hq, hT]), fun U hU hW => ⟨rfl, by rw [hU], by rw [hU]; exact hw.1, hK.warm hW, hw.2.1.weaken (fun _ _ _ _ => trivial)⟩⟩ rfl hn hl.1 hst (lv_room hroom) hdg (by rw [hR]; exact hcs)) hw.2.2 (fun q _ h => fqA_in hw hA q h) (fqA_in hw hA) (fun r1 u t H1 locs ht hvm hp hB hz hk hS => by
    cases hp
    obtain ⟨hP1, hD1⟩ := hB
    rw [ht] at hP1
    exact k H1 locs ls ⟨hP1, hD1.weaken (fun _ q _ h => fqA_in hw hA q.1 h), hS⟩ hl)
theorem g_callVv {X : fqX} {rm : Room} {cy : Nat → ClassId} {cc : ByteArray} {nL : Nat} {Ts : List Cond} {own : String} {T : fqT} {Z : Nat → Nat} {ad : Nat → Nat} {n cells slots : Nat} {σ : fqS} {pc : Nat} {lv : List (Nat × Value)} {rest : List Value} (E : fqE X rm cy cc nL Ts own) {y : MethodName} {bytes : ByteArray} {maxL nn index : Nat} {ret : Option FieldType} {ws ws' : List Cond} {rmc : Room} {C : String} {Tt : u_T} {N ci : Nat} (q : Nat) (hq : q < Z n) {fs : (Nat → Int32) → (Nat → Int64) → List Value} (hT : ∀ f g, T ad n q f g = .inr (ci, fs f g)) (hc : vwCl[ci]? = some (C, Tt, N)) (As : List Value) {σ' : fqS} (hM : ∀ (l : Launch) (D : va_G) (sz : Nat), Met l y ws rmc (fqPc T Z D cy ad sz n σ (.ref (ad q) :: As)) (fqQv T Z D ad sz n σ σ') 0 0 (fqA T Z ad sz n σ)) (hG : GoodIn Ts (wsV own index C y ws)) (hw9 : ws = Cond.code y bytes maxL ret :: ws') (hrc : rmc.cells = 0) (hrs : rmc.slots = 0) (hd : y.cls = C ∧ y.cls ≠ "java/lang/invoke/MethodHandle" ∧ y.cls ≠ "java/lang/invoke/VarHandle" ∧ (parseMethodDescriptor y.desc).map (fun d => d.parameters.length) = some nn) (hR9 : rmc.frames + 1 ≤ rm.frames ∧ 8 + (maxL + 11) + rmc.locals ≤ rm.locals) (hn : As.length = nn) {st : List Value} (hst : st = As.reverse ++ .ref (ad q) :: rest) (hroom : (rest.map fun v => v.category).sum ≤ 8) (hdg : decode cc pc = .ok (.invokevirtual index, 3)) (hcs : cells ≤ rm.cells ∧ slots ≤ rm.slots)
    (k : fqG X T Z ad n nL cells slots σ' (pc + 3) lv (rest)) : fqG X T Z ad n nL cells slots σ pc lv (st) := by
  obtain ⟨p, l, e, R, s, m, args, below, meth, c, Q, D, A⟩ := X
  obtain ⟨⟨hx, hb, hml, hown, hts⟩, hK, hA, hR⟩ := E
  exact fun H locs ls hw hl => va_callv (va_runV (As := As) (rest := rest) ⟨hx, hb, hml, hown, hts⟩ (hM l D H.size) (cwV nn hts hG hw9 hrc hrs hd (by rw [hR]; exact hR9)) ⟨fqPc_blind, va_recv hK.1 hw.1 hc (q0 := q) (by rw [fqW_get hq, hT]), fun U hU hW => ⟨rfl, by rw [hU], by rw [hU]; exact hw.1, hK.warm hW, hw.2.1.weaken (fun _ _ _ _ => trivial)⟩⟩ rfl hn hl.1 hst (lv_room hroom) hdg (by rw [hR]; exact hcs)) hw.2.2 (fun q _ h => fqA_in hw hA q h) (fqA_in hw hA) (fun u t H1 locs ht hvm hp hB hz hk hS => by
    obtain ⟨hP1, hD1⟩ := hB
    rw [ht] at hP1
    exact k H1 locs ls ⟨hP1, hD1.weaken (fun _ q _ h => fqA_in hw hA q.1 h), hS⟩ hl)
theorem g_callVq {X : fqX} {rm : Room} {cy : Nat → ClassId} {cc : ByteArray} {nL : Nat} {Ts : List Cond} {own : String} {T : fqT} {Z : Nat → Nat} {ad : Nat → Nat} {n cells slots : Nat} {σ : fqS} {pc : Nat} {lv : List (Nat × Value)} {rest : List Value} (E : fqE X rm cy cc nL Ts own) {y : MethodName} {bytes : ByteArray} {maxL nn index : Nat} {ret : Option FieldType} {ws ws' : List Cond} {rmc : Room} {C : String} {Tt : u_T} {N ci : Nat} (q : Nat) (hq : q < Z n) {fs : (Nat → Int32) → (Nat → Int64) → List Value} (hT : ∀ f g, T ad n q f g = .inr (ci, fs f g)) (hc : vwCl[ci]? = some (C, Tt, N)) (As : List Value) {r : Option Nat} {σ' : fqS} (hM : ∀ (l : Launch) (D : va_G) (sz : Nat), Met l y ws rmc (fqPc T Z D cy ad sz n σ (.ref (ad q) :: As)) (fqQq T Z D ad sz n σ r σ') 0 0 (fqA T Z ad sz n σ)) (hG : GoodIn Ts (wsV own index C y ws)) (hw9 : ws = Cond.code y bytes maxL ret :: ws') (hrc : rmc.cells = 0) (hrs : rmc.slots = 0) (hd : y.cls = C ∧ y.cls ≠ "java/lang/invoke/MethodHandle" ∧ y.cls ≠ "java/lang/invoke/VarHandle" ∧ (parseMethodDescriptor y.desc).map (fun d => d.parameters.length) = some nn) (hR9 : rmc.frames + 1 ≤ rm.frames ∧ 8 + (maxL + 11) + rmc.locals ≤ rm.locals) (hn : As.length = nn) {st : List Value} (hst : st = As.reverse ++ .ref (ad q) :: rest) (hroom : (rest.map fun v => v.category).sum ≤ 8) (hdg : decode cc pc = .ok (.invokevirtual index, 3)) (hcs : cells ≤ rm.cells ∧ slots ≤ rm.slots)
    (k : fqG X T Z ad n nL cells slots σ' (pc + 3) lv (va_rf r :: rest)) : fqG X T Z ad n nL cells slots σ pc lv (st) := by
  obtain ⟨p, l, e, R, s, m, args, below, meth, c, Q, D, A⟩ := X
  obtain ⟨⟨hx, hb, hml, hown, hts⟩, hK, hA, hR⟩ := E
  exact fun H locs ls hw hl => va_callq (va_runV (As := As) (rest := rest) ⟨hx, hb, hml, hown, hts⟩ (hM l D H.size) (cwV nn hts hG hw9 hrc hrs hd (by rw [hR]; exact hR9)) ⟨fqPc_blind, va_recv hK.1 hw.1 hc (q0 := q) (by rw [fqW_get hq, hT]), fun U hU hW => ⟨rfl, by rw [hU], by rw [hU]; exact hw.1, hK.warm hW, hw.2.1.weaken (fun _ _ _ _ => trivial)⟩⟩ rfl hn hl.1 hst (lv_room hroom) hdg (by rw [hR]; exact hcs)) hw.2.2 (fun q _ h => fqA_in hw hA q h) (fqA_in hw hA) (fun r1 u t H1 locs ht hvm hp hB hz hk hS => by
    cases hp
    obtain ⟨hP1, hD1⟩ := hB
    rw [ht] at hP1
    exact k H1 locs ls ⟨hP1, hD1.weaken (fun _ q _ h => fqA_in hw hA q.1 h), hS⟩ hl)
theorem g_callSl {X : fqX} {rm : Room} {cy : Nat → ClassId} {cc : ByteArray} {nL : Nat} {Ts : List Cond} {own : String} {T : fqT} {Z : Nat → Nat} {ad : Nat → Nat} {n cells slots : Nat} {σ : fqS} {pc : Nat} {lv : List (Nat × Value)} {rest : List Value} (E : fqE X rm cy cc nL Ts own) {y : MethodName} {bytes : ByteArray} {maxL nn index : Nat} {ret : Option FieldType} {ws ws' : List Cond} {rmc : Room} (As : List Value) {r : Int64} {σ' : fqS} (hM : ∀ (l : Launch) (D : va_G) (sz : Nat), Met l y ws rmc (fqPc T Z D cy ad sz n σ (As)) (fqQl T Z D ad sz n σ r σ') 0 0 (fqA T Z ad sz n σ)) (hG : GoodIn Ts (va_wsS own index y ws)) (hw9 : ws = Cond.code y bytes maxL ret :: ws') (hrc : rmc.cells = 0) (hrs : rmc.slots = 0) (hd : y.cls ≠ "java/lang/invoke/MethodHandle" ∧ y.cls ≠ "java/lang/invoke/VarHandle" ∧ (parseMethodDescriptor y.desc).map (fun d => d.parameters.length) = some nn) (hR9 : rmc.frames + 1 ≤ rm.frames ∧ 8 + (maxL + 11) + rmc.locals ≤ rm.locals) (hn : As.length = nn) {st : List Value} (hst : st = As.reverse ++ rest) (hroom : (rest.map fun v => v.category).sum ≤ 8) (hdg : decode cc pc = .ok (.invokestatic index, 3)) (hcs : cells ≤ rm.cells ∧ slots ≤ rm.slots)
    (k : fqG X T Z ad n nL cells slots σ' (pc + 3) lv (.long r :: rest)) : fqG X T Z ad n nL cells slots σ pc lv (st) := by
  obtain ⟨p, l, e, R, s, m, args, below, meth, c, Q, D, A⟩ := X
  obtain ⟨⟨hx, hb, hml, hown, hts⟩, hK, hA, hR⟩ := E
  exact fun H locs ls hw hl => va_calll (va_runS (As := As) (rest := rest) ⟨hx, hb, hml, hown, hts⟩ (hM l D H.size) (va_cwS nn hts hG hw9 hrc hrs hd (by rw [hR]; exact hR9)) ⟨fqPc_blind, fun U hU hW => ⟨rfl, by rw [hU], by rw [hU]; exact hw.1, hK.warm hW, hw.2.1.weaken (fun _ _ _ _ => trivial)⟩⟩ rfl hn hl.1 hst (lv_room hroom) hdg (by rw [hR]; exact hcs)) hw.2.2 (fun q _ h => fqA_in hw hA q h) (fqA_in hw hA) (fun r1 u t H1 locs ht hvm hp hB hz hk hS => by
    cases hp
    obtain ⟨hP1, hD1⟩ := hB
    rw [ht] at hP1
    exact k H1 locs ls ⟨hP1, hD1.weaken (fun _ q _ h => fqA_in hw hA q.1 h), hS⟩ hl)
theorem g_callSi {X : fqX} {rm : Room} {cy : Nat → ClassId} {cc : ByteArray} {nL : Nat} {Ts : List Cond} {own : String} {T : fqT} {Z : Nat → Nat} {ad : Nat → Nat} {n cells slots : Nat} {σ : fqS} {pc : Nat} {lv : List (Nat × Value)} {rest : List Value} (E : fqE X rm cy cc nL Ts own) {y : MethodName} {bytes : ByteArray} {maxL nn index : Nat} {ret : Option FieldType} {ws ws' : List Cond} {rmc : Room} (As : List Value) {r : Int32} {σ' : fqS} (hM : ∀ (l : Launch) (D : va_G) (sz : Nat), Met l y ws rmc (fqPc T Z D cy ad sz n σ (As)) (fqQi T Z D ad sz n σ r σ') 0 0 (fqA T Z ad sz n σ)) (hG : GoodIn Ts (va_wsS own index y ws)) (hw9 : ws = Cond.code y bytes maxL ret :: ws') (hrc : rmc.cells = 0) (hrs : rmc.slots = 0) (hd : y.cls ≠ "java/lang/invoke/MethodHandle" ∧ y.cls ≠ "java/lang/invoke/VarHandle" ∧ (parseMethodDescriptor y.desc).map (fun d => d.parameters.length) = some nn) (hR9 : rmc.frames + 1 ≤ rm.frames ∧ 8 + (maxL + 11) + rmc.locals ≤ rm.locals) (hn : As.length = nn) {st : List Value} (hst : st = As.reverse ++ rest) (hroom : (rest.map fun v => v.category).sum ≤ 8) (hdg : decode cc pc = .ok (.invokestatic index, 3)) (hcs : cells ≤ rm.cells ∧ slots ≤ rm.slots)
    (k : fqG X T Z ad n nL cells slots σ' (pc + 3) lv (.int r :: rest)) : fqG X T Z ad n nL cells slots σ pc lv (st) := by
  obtain ⟨p, l, e, R, s, m, args, below, meth, c, Q, D, A⟩ := X
  obtain ⟨⟨hx, hb, hml, hown, hts⟩, hK, hA, hR⟩ := E
  exact fun H locs ls hw hl => va_calli (va_runS (As := As) (rest := rest) ⟨hx, hb, hml, hown, hts⟩ (hM l D H.size) (va_cwS nn hts hG hw9 hrc hrs hd (by rw [hR]; exact hR9)) ⟨fqPc_blind, fun U hU hW => ⟨rfl, by rw [hU], by rw [hU]; exact hw.1, hK.warm hW, hw.2.1.weaken (fun _ _ _ _ => trivial)⟩⟩ rfl hn hl.1 hst (lv_room hroom) hdg (by rw [hR]; exact hcs)) hw.2.2 (fun q _ h => fqA_in hw hA q h) (fqA_in hw hA) (fun r1 u t H1 locs ht hvm hp hB hz hk hS => by
    cases hp
    obtain ⟨hP1, hD1⟩ := hB
    rw [ht] at hP1
    exact k H1 locs ls ⟨hP1, hD1.weaken (fun _ q _ h => fqA_in hw hA q.1 h), hS⟩ hl)
theorem g_callSv {X : fqX} {rm : Room} {cy : Nat → ClassId} {cc : ByteArray} {nL : Nat} {Ts : List Cond} {own : String} {T : fqT} {Z : Nat → Nat} {ad : Nat → Nat} {n cells slots : Nat} {σ : fqS} {pc : Nat} {lv : List (Nat × Value)} {rest : List Value} (E : fqE X rm cy cc nL Ts own) {y : MethodName} {bytes : ByteArray} {maxL nn index : Nat} {ret : Option FieldType} {ws ws' : List Cond} {rmc : Room} (As : List Value) {σ' : fqS} (hM : ∀ (l : Launch) (D : va_G) (sz : Nat), Met l y ws rmc (fqPc T Z D cy ad sz n σ (As)) (fqQv T Z D ad sz n σ σ') 0 0 (fqA T Z ad sz n σ)) (hG : GoodIn Ts (va_wsS own index y ws)) (hw9 : ws = Cond.code y bytes maxL ret :: ws') (hrc : rmc.cells = 0) (hrs : rmc.slots = 0) (hd : y.cls ≠ "java/lang/invoke/MethodHandle" ∧ y.cls ≠ "java/lang/invoke/VarHandle" ∧ (parseMethodDescriptor y.desc).map (fun d => d.parameters.length) = some nn) (hR9 : rmc.frames + 1 ≤ rm.frames ∧ 8 + (maxL + 11) + rmc.locals ≤ rm.locals) (hn : As.length = nn) {st : List Value} (hst : st = As.reverse ++ rest) (hroom : (rest.map fun v => v.category).sum ≤ 8) (hdg : decode cc pc = .ok (.invokestatic index, 3)) (hcs : cells ≤ rm.cells ∧ slots ≤ rm.slots)
    (k : fqG X T Z ad n nL cells slots σ' (pc + 3) lv (rest)) : fqG X T Z ad n nL cells slots σ pc lv (st) := by
  obtain ⟨p, l, e, R, s, m, args, below, meth, c, Q, D, A⟩ := X
  obtain ⟨⟨hx, hb, hml, hown, hts⟩, hK, hA, hR⟩ := E
  exact fun H locs ls hw hl => va_callv (va_runS (As := As) (rest := rest) ⟨hx, hb, hml, hown, hts⟩ (hM l D H.size) (va_cwS nn hts hG hw9 hrc hrs hd (by rw [hR]; exact hR9)) ⟨fqPc_blind, fun U hU hW => ⟨rfl, by rw [hU], by rw [hU]; exact hw.1, hK.warm hW, hw.2.1.weaken (fun _ _ _ _ => trivial)⟩⟩ rfl hn hl.1 hst (lv_room hroom) hdg (by rw [hR]; exact hcs)) hw.2.2 (fun q _ h => fqA_in hw hA q h) (fqA_in hw hA) (fun u t H1 locs ht hvm hp hB hz hk hS => by
    obtain ⟨hP1, hD1⟩ := hB
    rw [ht] at hP1
    exact k H1 locs ls ⟨hP1, hD1.weaken (fun _ q _ h => fqA_in hw hA q.1 h), hS⟩ hl)
theorem g_callNl {X : fqX} {rm : Room} {cy : Nat → ClassId} {cc : ByteArray} {nL : Nat} {Ts : List Cond} {own : String} {T : fqT} {Z : Nat → Nat} {ad : Nat → Nat} {n cells slots : Nat} {σ : fqS} {pc : Nat} {lv : List (Nat × Value)} {rest : List Value} (E : fqE X rm cy cc nL Ts own) {y : MethodName} {bytes : ByteArray} {maxL nn index : Nat} {ret : Option FieldType} {ws ws' : List Cond} {rmc : Room} {host : String} (As : List Value) {r : Int64} {σ' : fqS} (hM : ∀ (l : Launch) (D : va_G) (sz : Nat), Met l y ws rmc (fqPc T Z D cy ad sz n σ (As)) (fqQl T Z D ad sz n σ r σ') 0 0 (fqA T Z ad sz n σ)) (hG : GoodIn Ts ws) (hw9 : ws = Cond.code y bytes maxL ret :: ws') (hrc : rmc.cells = 0) (hrs : rmc.slots = 0) (hlk : ∀ U : State, fqNw U → va_Nw (.methodLinkNest own index y host) U) (hini : Cond.initialized y.cls ∈ Ts) (hstt : Cond.static y ∈ Ts) (hd : y.cls ≠ "java/lang/invoke/MethodHandle" ∧ y.cls ≠ "java/lang/invoke/VarHandle" ∧ (parseMethodDescriptor y.desc).map (fun d => d.parameters.length) = some nn) (hR9 : rmc.frames + 1 ≤ rm.frames ∧ 8 + (maxL + 11) + rmc.locals ≤ rm.locals) (hn : As.length = nn) {st : List Value} (hst : st = As.reverse ++ rest) (hroom : (rest.map fun v => v.category).sum ≤ 8) (hdg : decode cc pc = .ok (.invokestatic index, 3)) (hcs : cells ≤ rm.cells ∧ slots ≤ rm.slots)
    (k : fqG X T Z ad n nL cells slots σ' (pc + 3) lv (.long r :: rest)) : fqG X T Z ad n nL cells slots σ pc lv (st) := by
  obtain ⟨p, l, e, R, s, m, args, below, meth, c, Q, D, A⟩ := X
  obtain ⟨⟨hx, hb, hml, hown, hts⟩, hK, hA, hR⟩ := E
  exact fun H locs ls hw hl => va_calll (va_runSN (As := As) (rest := rest) ⟨hx, hb, hml, hown, hts⟩ (hM l D H.size) ⟨va_cnB nn hts hG hw9 hrc hrs (hlk _ hK.2) (hts _ hini) hd (by rw [hR]; exact hR9), hts _ hstt, trivial⟩ ⟨fqPc_blind, fun U hU hW => ⟨rfl, by rw [hU], by rw [hU]; exact hw.1, hK.warm hW, hw.2.1.weaken (fun _ _ _ _ => trivial)⟩⟩ rfl hn hl.1 hst (lv_room hroom) hdg (by rw [hR]; exact hcs)) hw.2.2 (fun q _ h => fqA_in hw hA q h) (fqA_in hw hA) (fun r1 u t H1 locs ht hvm hp hB hz hk hS => by
    cases hp
    obtain ⟨hP1, hD1⟩ := hB
    rw [ht] at hP1
    exact k H1 locs ls ⟨hP1, hD1.weaken (fun _ q _ h => fqA_in hw hA q.1 h), hS⟩ hl)
theorem g_callNi {X : fqX} {rm : Room} {cy : Nat → ClassId} {cc : ByteArray} {nL : Nat} {Ts : List Cond} {own : String} {T : fqT} {Z : Nat → Nat} {ad : Nat → Nat} {n cells slots : Nat} {σ : fqS} {pc : Nat} {lv : List (Nat × Value)} {rest : List Value} (E : fqE X rm cy cc nL Ts own) {y : MethodName} {bytes : ByteArray} {maxL nn index : Nat} {ret : Option FieldType} {ws ws' : List Cond} {rmc : Room} {host : String} (As : List Value) {r : Int32} {σ' : fqS} (hM : ∀ (l : Launch) (D : va_G) (sz : Nat), Met l y ws rmc (fqPc T Z D cy ad sz n σ (As)) (fqQi T Z D ad sz n σ r σ') 0 0 (fqA T Z ad sz n σ)) (hG : GoodIn Ts ws) (hw9 : ws = Cond.code y bytes maxL ret :: ws') (hrc : rmc.cells = 0) (hrs : rmc.slots = 0) (hlk : ∀ U : State, fqNw U → va_Nw (.methodLinkNest own index y host) U) (hini : Cond.initialized y.cls ∈ Ts) (hstt : Cond.static y ∈ Ts) (hd : y.cls ≠ "java/lang/invoke/MethodHandle" ∧ y.cls ≠ "java/lang/invoke/VarHandle" ∧ (parseMethodDescriptor y.desc).map (fun d => d.parameters.length) = some nn) (hR9 : rmc.frames + 1 ≤ rm.frames ∧ 8 + (maxL + 11) + rmc.locals ≤ rm.locals) (hn : As.length = nn) {st : List Value} (hst : st = As.reverse ++ rest) (hroom : (rest.map fun v => v.category).sum ≤ 8) (hdg : decode cc pc = .ok (.invokestatic index, 3)) (hcs : cells ≤ rm.cells ∧ slots ≤ rm.slots)
    (k : fqG X T Z ad n nL cells slots σ' (pc + 3) lv (.int r :: rest)) : fqG X T Z ad n nL cells slots σ pc lv (st) := by
  obtain ⟨p, l, e, R, s, m, args, below, meth, c, Q, D, A⟩ := X
  obtain ⟨⟨hx, hb, hml, hown, hts⟩, hK, hA, hR⟩ := E
  exact fun H locs ls hw hl => va_calli (va_runSN (As := As) (rest := rest) ⟨hx, hb, hml, hown, hts⟩ (hM l D H.size) ⟨va_cnB nn hts hG hw9 hrc hrs (hlk _ hK.2) (hts _ hini) hd (by rw [hR]; exact hR9), hts _ hstt, trivial⟩ ⟨fqPc_blind, fun U hU hW => ⟨rfl, by rw [hU], by rw [hU]; exact hw.1, hK.warm hW, hw.2.1.weaken (fun _ _ _ _ => trivial)⟩⟩ rfl hn hl.1 hst (lv_room hroom) hdg (by rw [hR]; exact hcs)) hw.2.2 (fun q _ h => fqA_in hw hA q h) (fqA_in hw hA) (fun r1 u t H1 locs ht hvm hp hB hz hk hS => by
    cases hp
    obtain ⟨hP1, hD1⟩ := hB
    rw [ht] at hP1
    exact k H1 locs ls ⟨hP1, hD1.weaken (fun _ q _ h => fqA_in hw hA q.1 h), hS⟩ hl)
theorem g_callNv {X : fqX} {rm : Room} {cy : Nat → ClassId} {cc : ByteArray} {nL : Nat} {Ts : List Cond} {own : String} {T : fqT} {Z : Nat → Nat} {ad : Nat → Nat} {n cells slots : Nat} {σ : fqS} {pc : Nat} {lv : List (Nat × Value)} {rest : List Value} (E : fqE X rm cy cc nL Ts own) {y : MethodName} {bytes : ByteArray} {maxL nn index : Nat} {ret : Option FieldType} {ws ws' : List Cond} {rmc : Room} {host : String} (As : List Value) {σ' : fqS} (hM : ∀ (l : Launch) (D : va_G) (sz : Nat), Met l y ws rmc (fqPc T Z D cy ad sz n σ (As)) (fqQv T Z D ad sz n σ σ') 0 0 (fqA T Z ad sz n σ)) (hG : GoodIn Ts ws) (hw9 : ws = Cond.code y bytes maxL ret :: ws') (hrc : rmc.cells = 0) (hrs : rmc.slots = 0) (hlk : ∀ U : State, fqNw U → va_Nw (.methodLinkNest own index y host) U) (hini : Cond.initialized y.cls ∈ Ts) (hstt : Cond.static y ∈ Ts) (hd : y.cls ≠ "java/lang/invoke/MethodHandle" ∧ y.cls ≠ "java/lang/invoke/VarHandle" ∧ (parseMethodDescriptor y.desc).map (fun d => d.parameters.length) = some nn) (hR9 : rmc.frames + 1 ≤ rm.frames ∧ 8 + (maxL + 11) + rmc.locals ≤ rm.locals) (hn : As.length = nn) {st : List Value} (hst : st = As.reverse ++ rest) (hroom : (rest.map fun v => v.category).sum ≤ 8) (hdg : decode cc pc = .ok (.invokestatic index, 3)) (hcs : cells ≤ rm.cells ∧ slots ≤ rm.slots)
    (k : fqG X T Z ad n nL cells slots σ' (pc + 3) lv (rest)) : fqG X T Z ad n nL cells slots σ pc lv (st) := by
  obtain ⟨p, l, e, R, s, m, args, below, meth, c, Q, D, A⟩ := X
  obtain ⟨⟨hx, hb, hml, hown, hts⟩, hK, hA, hR⟩ := E
  exact fun H locs ls hw hl => va_callv (va_runSN (As := As) (rest := rest) ⟨hx, hb, hml, hown, hts⟩ (hM l D H.size) ⟨va_cnB nn hts hG hw9 hrc hrs (hlk _ hK.2) (hts _ hini) hd (by rw [hR]; exact hR9), hts _ hstt, trivial⟩ ⟨fqPc_blind, fun U hU hW => ⟨rfl, by rw [hU], by rw [hU]; exact hw.1, hK.warm hW, hw.2.1.weaken (fun _ _ _ _ => trivial)⟩⟩ rfl hn hl.1 hst (lv_room hroom) hdg (by rw [hR]; exact hcs)) hw.2.2 (fun q _ h => fqA_in hw hA q h) (fqA_in hw hA) (fun u t H1 locs ht hvm hp hB hz hk hS => by
    obtain ⟨hP1, hD1⟩ := hB
    rw [ht] at hP1
    exact k H1 locs ls ⟨hP1, hD1.weaken (fun _ q _ h => fqA_in hw hA q.1 h), hS⟩ hl)
end FQR
end
section
theorem fq_z {α : Type} {y : Int64} {x : Option α} {z : α} (hf : (if y = 0 then none else x) = some z) : ¬ y = 0 ∧ x = some z := by
  by_cases h : y = 0
  · rw [if_pos h] at hf; cases hf
  · rw [if_neg h] at hf; exact ⟨h, hf⟩
def fqM {α : Type} (o : Option Nat) (a : Option α) (b : Nat → Option α) : Option α := match o with
  | none => a
  | some p => b p
theorem fqM_n {α : Type} {a : Option α} {b : Nat → Option α} {z : Option α} (h : fqM none a b = z) : a = z := h
theorem fqM_s {α : Type} {a : Option α} {b : Nat → Option α} {z : Option α} {p : Nat} (h : fqM (some p) a b = z) : b p = z := h
theorem fq_lt {i : Int32} {n : Nat} (h : vp_in i n) : i.toNatClampNeg < n := Nat.not_le.mp fun q => h (Or.inr q)
theorem g_mminI {X : fqX} {rm : Room} {cy : Nat → ClassId} {cc : ByteArray} {nL : Nat} {Ts : List Cond} {own : String} {T : fqT} {Z : Nat → Nat} {ad : Nat → Nat} {n cells slots : Nat} {σ : fqS} {pc : Nat} {lv : List (Nat × Value)} {rest : List Value} (E : fqE X rm cy cc nL Ts own) {x y : Int32} {index : Nat} (hl1 : Cond.methodLink own index Lib.Math.min.name ∈ Ts) (hl2 : Cond.static Lib.Math.min.name ∈ Ts) (hl3 : Cond.initialized "java/lang/Math" ∈ Ts) (hl4 : Cond.code Lib.Math.min.name Lib.Math.min.code 2 (some .int) ∈ Ts) (hfr : 1 ≤ rm.frames) (hlo : (rest.map fun v => v.category).sum + 13 ≤ rm.locals) (hcs : cells ≤ rm.cells ∧ slots ≤ rm.slots) (hdg : decode cc pc = .ok (.invokestatic index, 3))
    (k : fqG X T Z ad n nL cells slots σ (pc + 3) lv (.int (if y < x then y else x) :: rest)) : fqG X T Z ad n nL cells slots σ pc lv (.int y :: .int x :: rest) := by
  obtain ⟨p, l, e, R, s, m, args, below, meth, c, Q, D, A⟩ := X
  obtain ⟨⟨hx, hb, hml, hown, hts⟩, hK, hA, hR⟩ := E
  exact fun H locs ls hw hl => va_mmin hx hb (hml.trans hl.1.symm) hown (hts _ hl1) (hts _ hl2) (hts _ hl3) (hts _ hl4) (by rw [hR]; exact hfr) (by rw [hR]; exact hlo) (by rw [hR]; exact hcs.1) (by rw [hR]; exact hcs.2) hdg (k H locs ls hw hl)
theorem g_mminL {X : fqX} {rm : Room} {cy : Nat → ClassId} {cc : ByteArray} {nL : Nat} {Ts : List Cond} {own : String} {T : fqT} {Z : Nat → Nat} {ad : Nat → Nat} {n cells slots : Nat} {σ : fqS} {pc : Nat} {lv : List (Nat × Value)} {rest : List Value} (E : fqE X rm cy cc nL Ts own) {x y : Int64} {index : Nat} (hl1 : Cond.methodLink own index Lib.MathLoose.min_long.x ∈ Ts) (hl2 : Cond.static Lib.MathLoose.min_long.x ∈ Ts) (hl3 : Cond.initialized "java/lang/Math" ∈ Ts) (hl4 : Cond.code Lib.MathLoose.min_long.x Lib.MathLoose.min_long.code 4 (some .long) ∈ Ts) (hfr : 1 ≤ rm.frames) (hlo : (rest.map fun v => v.category).sum + 15 ≤ rm.locals) (hcs : cells ≤ rm.cells ∧ slots ≤ rm.slots) (hdg : decode cc pc = .ok (.invokestatic index, 3))
    (k : fqG X T Z ad n nL cells slots σ (pc + 3) lv (.long (if y < x then y else x) :: rest)) : fqG X T Z ad n nL cells slots σ pc lv (.long y :: .long x :: rest) := by
  obtain ⟨p, l, e, R, s, m, args, below, meth, c, Q, D, A⟩ := X
  obtain ⟨⟨hx, hb, hml, hown, hts⟩, hK, hA, hR⟩ := E
  exact fun H locs ls hw hl => va_mmin_long hx hb (hml.trans hl.1.symm) hown (hts _ hl1) (hts _ hl2) (hts _ hl3) (hts _ hl4) (by rw [hR]; exact hfr) (by rw [hR]; exact hlo) (by rw [hR]; exact hcs.1) (by rw [hR]; exact hcs.2) hdg (k H locs ls hw hl)
theorem g_mabsL {X : fqX} {rm : Room} {cy : Nat → ClassId} {cc : ByteArray} {nL : Nat} {Ts : List Cond} {own : String} {T : fqT} {Z : Nat → Nat} {ad : Nat → Nat} {n cells slots : Nat} {σ : fqS} {pc : Nat} {lv : List (Nat × Value)} {rest : List Value} (E : fqE X rm cy cc nL Ts own) {x : Int64} {index : Nat} (hl1 : Cond.methodLink own index Lib.MathLoose.abs_long.x ∈ Ts) (hl2 : Cond.static Lib.MathLoose.abs_long.x ∈ Ts) (hl3 : Cond.initialized "java/lang/Math" ∈ Ts) (hl4 : Cond.code Lib.MathLoose.abs_long.x Lib.MathLoose.abs_long.code 2 (some .long) ∈ Ts) (hfr : 1 ≤ rm.frames) (hlo : (rest.map fun v => v.category).sum + 13 ≤ rm.locals) (hcs : cells ≤ rm.cells ∧ slots ≤ rm.slots) (hdg : decode cc pc = .ok (.invokestatic index, 3))
    (k : fqG X T Z ad n nL cells slots σ (pc + 3) lv (.long (if 0 < x then x else -x) :: rest)) : fqG X T Z ad n nL cells slots σ pc lv (.long x :: rest) := by
  obtain ⟨p, l, e, R, s, m, args, below, meth, c, Q, D, A⟩ := X
  obtain ⟨⟨hx, hb, hml, hown, hts⟩, hK, hA, hR⟩ := E
  exact fun H locs ls hw hl => va_mabs_long hx hb (hml.trans hl.1.symm) hown (hts _ hl1) (hts _ hl2) (hts _ hl3) (hts _ hl4) (by rw [hR]; exact hfr) (by rw [hR]; exact hlo) (by rw [hR]; exact hcs.1) (by rw [hR]; exact hcs.2) hdg (k H locs ls hw hl)
def fqR_l (X : fqX) (T : fqT) (Z : Nat → Nat) (ad : Nat → Nat) (n nL : Nat) (cc : ByteArray) (r : Int64) (σ' : fqS) : Prop := ∀ (v : Int64) (σ1 : fqS) (pc : Nat) (lv : List (Nat × Value)), decode cc pc = .ok (.lreturn, 1) → (v, σ1) = (r, σ') → fqG X T Z ad n nL 0 0 σ1 pc lv [.long v]
theorem fq_enter_l {l : Launch} {y : MethodName} {ws : List Cond} {rm : Room} {cc : ByteArray} {maxL : Nat} {av : List Value} {T : fqT} {Z : Nat → Nat} {D : va_G} {cy : Nat → ClassId} {ad : Nat → Nat} {sz n : Nat} {σ σ' : fqS} {r : Int64} {own : String} (ws' : List Cond) (hy : plainName y.cls = true) (hw0 : ws = Cond.code y cc maxL (some .long) :: ws') (hlen : (lg_sl av).length ≤ maxL) (hown : y.cls = own)
    (body : ∀ X : fqX, fqE X rm cy cc maxL ws own → fqR_l X T Z ad n maxL cc r σ' → fqG X T Z ad n maxL 0 0 σ 0 (lv_args 0 av) []) : Met l y ws rm (fqPc T Z D cy ad sz n σ av) (fqQl T Z D ad sz n σ r σ') 0 0 (fqA T Z ad sz n σ) := by
  refine Met.ofW (cc := cc) (maxL := maxL) (ret := (some .long)) hy hw0 ?_
  intro p e s m args below meth c s₁ B hml hv
  obtain ⟨rfl, hsz, hP, hK, hD0⟩ := hv
  subst hsz
  have hl := lv_entry av (n := maxL) hlen
  rw [lg_entry_eq]
  have hD := hD0.self (sz := s.heap.size)
  have hlocks := B.notSynchronized
  exact body (p, l, e, _, s, m, _, below, meth, c, _, D, fqA T Z ad s.heap.size n σ) ⟨⟨B.exec, B.bytes, hml, hown ▸ findClass_of_methodNamed B.named, atoms_spec (ws := ws) B.pre⟩, hK, fun q h => Or.inr h, rfl⟩
    (fun v σ1 pc lv hd he => by
      cases he
      exact fun H locs ls hw hl => W.lret B.exec B.bytes B.returns (fun t ht hW => ⟨⟨_, (), rfl, rfl, by rw [ht]; exact hw.1, hw.2.1⟩, hw.2.2.F ht⟩) hw.2.2.2.2 hd) s.heap [] _ ⟨hP, hD, va_S.rf⟩ hl
def fqR_i (X : fqX) (T : fqT) (Z : Nat → Nat) (ad : Nat → Nat) (n nL : Nat) (cc : ByteArray) (r : Int32) (σ' : fqS) : Prop := ∀ (v : Int32) (σ1 : fqS) (pc : Nat) (lv : List (Nat × Value)), decode cc pc = .ok (.ireturn, 1) → (v, σ1) = (r, σ') → fqG X T Z ad n nL 0 0 σ1 pc lv [.int v]
theorem fq_enter_i {l : Launch} {y : MethodName} {ws : List Cond} {rm : Room} {cc : ByteArray} {maxL : Nat} {av : List Value} {T : fqT} {Z : Nat → Nat} {D : va_G} {cy : Nat → ClassId} {ad : Nat → Nat} {sz n : Nat} {σ σ' : fqS} {r : Int32} {own : String} (ws' : List Cond) (hy : plainName y.cls = true) (hw0 : ws = Cond.code y cc maxL (some .int) :: ws') (hlen : (lg_sl av).length ≤ maxL) (hown : y.cls = own)
    (body : ∀ X : fqX, fqE X rm cy cc maxL ws own → fqR_i X T Z ad n maxL cc r σ' → fqG X T Z ad n maxL 0 0 σ 0 (lv_args 0 av) []) : Met l y ws rm (fqPc T Z D cy ad sz n σ av) (fqQi T Z D ad sz n σ r σ') 0 0 (fqA T Z ad sz n σ) := by
  refine Met.ofW (cc := cc) (maxL := maxL) (ret := (some .int)) hy hw0 ?_
  intro p e s m args below meth c s₁ B hml hv
  obtain ⟨rfl, hsz, hP, hK, hD0⟩ := hv
  subst hsz
  have hl := lv_entry av (n := maxL) hlen
  rw [lg_entry_eq]
  have hD := hD0.self (sz := s.heap.size)
  have hlocks := B.notSynchronized
  exact body (p, l, e, _, s, m, _, below, meth, c, _, D, fqA T Z ad s.heap.size n σ) ⟨⟨B.exec, B.bytes, hml, hown ▸ findClass_of_methodNamed B.named, atoms_spec (ws := ws) B.pre⟩, hK, fun q h => Or.inr h, rfl⟩
    (fun v σ1 pc lv hd he => by
      cases he
      exact fun H locs ls hw hl => W.iret B.exec B.bytes B.returns (fun t ht hW => ⟨⟨_, (), rfl, rfl, by rw [ht]; exact hw.1, hw.2.1⟩, hw.2.2.F ht⟩) hw.2.2.2.2 hd) s.heap [] _ ⟨hP, hD, va_S.rf⟩ hl
def fqR_z (X : fqX) (T : fqT) (Z : Nat → Nat) (ad : Nat → Nat) (n nL : Nat) (cc : ByteArray) (r : Int32) (σ' : fqS) : Prop := ∀ (v : Int32) (σ1 : fqS) (pc : Nat) (lv : List (Nat × Value)), narrow .boolean (.int v) = .int v → decode cc pc = .ok (.ireturn, 1) → (v, σ1) = (r, σ') → fqG X T Z ad n nL 0 0 σ1 pc lv [.int v]
theorem fq_enter_z {l : Launch} {y : MethodName} {ws : List Cond} {rm : Room} {cc : ByteArray} {maxL : Nat} {av : List Value} {T : fqT} {Z : Nat → Nat} {D : va_G} {cy : Nat → ClassId} {ad : Nat → Nat} {sz n : Nat} {σ σ' : fqS} {r : Int32} {own : String} (ws' : List Cond) (hy : plainName y.cls = true) (hw0 : ws = Cond.code y cc maxL (some .boolean) :: ws') (hlen : (lg_sl av).length ≤ maxL) (hown : y.cls = own)
    (body : ∀ X : fqX, fqE X rm cy cc maxL ws own → fqR_z X T Z ad n maxL cc r σ' → fqG X T Z ad n maxL 0 0 σ 0 (lv_args 0 av) []) : Met l y ws rm (fqPc T Z D cy ad sz n σ av) (fqQi T Z D ad sz n σ r σ') 0 0 (fqA T Z ad sz n σ) := by
  refine Met.ofW (cc := cc) (maxL := maxL) (ret := (some .boolean)) hy hw0 ?_
  intro p e s m args below meth c s₁ B hml hv
  obtain ⟨rfl, hsz, hP, hK, hD0⟩ := hv
  subst hsz
  have hl := lv_entry av (n := maxL) hlen
  rw [lg_entry_eq]
  have hD := hD0.self (sz := s.heap.size)
  have hlocks := B.notSynchronized
  exact body (p, l, e, _, s, m, _, below, meth, c, _, D, fqA T Z ad s.heap.size n σ) ⟨⟨B.exec, B.bytes, hml, hown ▸ findClass_of_methodNamed B.named, atoms_spec (ws := ws) B.pre⟩, hK, fun q h => Or.inr h, rfl⟩
    (fun v σ1 pc lv hz hd he => by
      cases he
      exact fun H locs ls hw hl => W.zret B.exec B.bytes B.returns hz (fun t ht hW => ⟨⟨_, (), rfl, rfl, by rw [ht]; exact hw.1, hw.2.1⟩, hw.2.2.F ht⟩) hw.2.2.2.2 hd) s.heap [] _ ⟨hP, hD, va_S.rf⟩ hl
def fqR_v (X : fqX) (T : fqT) (Z : Nat → Nat) (ad : Nat → Nat) (n nL : Nat) (cc : ByteArray) (σ' : fqS) : Prop := ∀ (σ1 : fqS) (pc : Nat) (lv : List (Nat × Value)), decode cc pc = .ok (.return_, 1) → σ1 = σ' → fqG X T Z ad n nL 0 0 σ1 pc lv []
theorem fq_enter_v {l : Launch} {y : MethodName} {ws : List Cond} {rm : Room} {cc : ByteArray} {maxL : Nat} {av : List Value} {T : fqT} {Z : Nat → Nat} {D : va_G} {cy : Nat → ClassId} {ad : Nat → Nat} {sz n : Nat} {σ σ' : fqS} {own : String} (ws' : List Cond) (hy : plainName y.cls = true) (hw0 : ws = Cond.code y cc maxL none :: ws') (hlen : (lg_sl av).length ≤ maxL) (hown : y.cls = own)
    (body : ∀ X : fqX, fqE X rm cy cc maxL ws own → fqR_v X T Z ad n maxL cc σ' → fqG X T Z ad n maxL 0 0 σ 0 (lv_args 0 av) []) : Met l y ws rm (fqPc T Z D cy ad sz n σ av) (fqQv T Z D ad sz n σ σ') 0 0 (fqA T Z ad sz n σ) := by
  refine Met.ofW (cc := cc) (maxL := maxL) (ret := none) hy hw0 ?_
  intro p e s m args below meth c s₁ B hml hv
  obtain ⟨rfl, hsz, hP, hK, hD0⟩ := hv
  subst hsz
  have hl := lv_entry av (n := maxL) hlen
  rw [lg_entry_eq]
  have hD := hD0.self (sz := s.heap.size)
  have hlocks := B.notSynchronized
  exact body (p, l, e, _, s, m, _, below, meth, c, _, D, fqA T Z ad s.heap.size n σ) ⟨⟨B.exec, B.bytes, hml, hown ▸ findClass_of_methodNamed B.named, atoms_spec (ws := ws) B.pre⟩, hK, fun q h => Or.inr h, rfl⟩
    (fun σ1 pc lv hd he => by
      cases he
      exact fun H locs ls hw hl => W.vret B.exec B.bytes B.returns (fun t ht hW => ⟨⟨(), rfl, trivial, by rw [ht]; exact hw.1, hw.2.1⟩, hw.2.2.F ht⟩) hw.2.2.2.2 hd) s.heap [] _ ⟨hP, hD, va_S.rf⟩ hl
def fqR_q (X : fqX) (T : fqT) (Z : Nat → Nat) (ad : Nat → Nat) (n nL : Nat) (cc : ByteArray) (r : Option Nat) (σ' : fqS) : Prop := ∀ (v : Option Nat) (σ1 : fqS) (pc : Nat) (lv : List (Nat × Value)), decode cc pc = .ok (.areturn, 1) → (v, σ1) = (r, σ') → fqG X T Z ad n nL 0 0 σ1 pc lv [va_rf v]
theorem fq_enter_q {l : Launch} {y : MethodName} {ws : List Cond} {rm : Room} {cc : ByteArray} {maxL : Nat} {av : List Value} {T : fqT} {Z : Nat → Nat} {D : va_G} {cy : Nat → ClassId} {ad : Nat → Nat} {sz n : Nat} {σ σ' : fqS} {r : Option Nat} {rc : String} {own : String} (ws' : List Cond) (hy : plainName y.cls = true) (hw0 : ws = Cond.code y cc maxL (some (.object rc)) :: ws') (hlen : (lg_sl av).length ≤ maxL) (hown : y.cls = own)
    (body : ∀ X : fqX, fqE X rm cy cc maxL ws own → fqR_q X T Z ad n maxL cc r σ' → fqG X T Z ad n maxL 0 0 σ 0 (lv_args 0 av) []) : Met l y ws rm (fqPc T Z D cy ad sz n σ av) (fqQq T Z D ad sz n σ r σ') 0 0 (fqA T Z ad sz n σ) := by
  refine Met.ofW (cc := cc) (maxL := maxL) (ret := (some (.object rc))) hy hw0 ?_
  intro p e s m args below meth c s₁ B hml hv
  obtain ⟨rfl, hsz, hP, hK, hD0⟩ := hv
  subst hsz
  have hl := lv_entry av (n := maxL) hlen
  rw [lg_entry_eq]
  have hD := hD0.self (sz := s.heap.size)
  have hlocks := B.notSynchronized
  exact body (p, l, e, _, s, m, _, below, meth, c, _, D, fqA T Z ad s.heap.size n σ) ⟨⟨B.exec, B.bytes, hml, hown ▸ findClass_of_methodNamed B.named, atoms_spec (ws := ws) B.pre⟩, hK, fun q h => Or.inr h, rfl⟩
    (fun v σ1 pc lv hd he => by
      cases he
      exact fun H locs ls hw hl => W.aret B.exec B.bytes B.returns (Or.inl ⟨_, rfl⟩) (by cases r with | none => exact Or.inl rfl | some a => exact Or.inr ⟨a, rfl⟩) (fun t ht hW => ⟨⟨_, (), rfl, rfl, by rw [ht]; exact hw.1, hw.2.1⟩, hw.2.2.F ht⟩) hw.2.2.2.2 hd) s.heap [] _ ⟨hP, hD, va_S.rf⟩ hl
/-- the class's cells: 0 FairQueue, 1 Players (2 row, 3 factors), 4 Queue (5 parties, 6 since), 7 the trial (8, 9), 10 Pairings (11 teams, 12 means), 13 Plan (14, 15), 16 Matches (17 row, 18 .. 22 the five), 23 Bounds, 24 told, 25 findings, 26 + 4 p the player p (shares, next, surprises behind it) -/
def fqRow (n i : Nat) : Option Nat := if i < n then some i else none
def ZX (n : Nat) : Nat := 26 + 4 * n
def TXp (cy : Nat → ClassId) (ad : Nat → Nat) (c : Nat) (f : Nat → Int32) (g : Nat → Int64) : va_E :=
  if (c - 26) % 4 = 0 then .inr (5, [.int (f 0), .ref (ad (c + 1)), .ref (ad (c + 2)), .ref (ad (c + 3)), .int (f 4)])
  else if (c - 26) % 4 = 1 then .inl (cy 1, 7, .inr (.inl g))
  else if (c - 26) % 4 = 2 then .inl (cy 1, 7, .inr (.inl g))
  else .inl (cy 1, 8, .inr (.inl g))
def TX (cy : Nat → ClassId) : fqT := fun ad n c f g => match c with
  | 0 => .inr (8, [.ref (ad 1), .ref (ad 4), .ref (ad 7), .ref (ad 10), .ref (ad 13), .ref (ad 16), .ref (ad 23), .ref (ad 24), .ref (ad 25), .int (f 9), .int (f 10), .long (g 11), .long (g 12)])
  | 1 => .inr (6, [.ref (ad 2), .ref (ad 3), .int (f 2)])
  | 2 => .inl (cy 4, 16, .inr (.inr (.inr (.inr (fun i => (fqRow n i).map (fun p => ad (26 + 4 * p)))))))
  | 3 => .inl (cy 1, 7, .inr (.inl g))
  | 4 => .inr (7, [.ref (ad 5), .ref (ad 6), .int (f 2)])
  | 5 => .inl (cy 0, 10, .inl f)
  | 6 => .inl (cy 1, 10, .inr (.inl g))
  | 7 => .inr (7, [.ref (ad 8), .ref (ad 9), .int (f 2)])
  | 8 => .inl (cy 0, 10, .inl f)
  | 9 => .inl (cy 1, 10, .inr (.inl g))
  | 10 => .inr (3, [.ref (ad 11), .ref (ad 12), .int (f 2), .int (f 3), .int (f 4), .long (g 5)])
  | 11 => .inl (cy 0, 175, .inl f)
  | 12 => .inl (cy 1, 175, .inr (.inl g))
  | 13 => .inr (4, [.ref (ad 14), .ref (ad 15), .int (f 2)])
  | 14 => .inl (cy 0, 5, .inl f)
  | 15 => .inl (cy 0, 5, .inl f)
  | 16 => .inr (2, [.ref (ad 17), .long (g 1)])
  | 17 => .inl (cy 3, 5, .inr (.inr (.inr (.inr (fun i => some (ad (18 + i)))))))
  | 18 => .inr (1, [.int (f 0), .int (f 1), .int (f 2), .long (g 3)])
  | 19 => .inr (1, [.int (f 0), .int (f 1), .int (f 2), .long (g 3)])
  | 20 => .inr (1, [.int (f 0), .int (f 1), .int (f 2), .long (g 3)])
  | 21 => .inr (1, [.int (f 0), .int (f 1), .int (f 2), .long (g 3)])
  | 22 => .inr (1, [.int (f 0), .int (f 1), .int (f 2), .long (g 3)])
  | 23 => .inr (0, [.long (g 0), .long (g 1), .long (g 2)])
  | 24 => .inl (cy 1, 20, .inr (.inl g))
  | 25 => .inl (cy 1, 6, .inr (.inl g))
  | k => TXp cy ad k f g
theorem zx_l {c n : Nat} (h : c < 26) : c < ZX n := by unfold ZX; omega
theorem zx_p {p n j : Nat} (h : p < n) (hj : j < 4) : 26 + 4 * p + j < ZX n := by unfold ZX; omega
theorem zx_p0 {p n : Nat} (h : p < n) : 26 + 4 * p < ZX n := by unfold ZX; omega
theorem zx_m {m n : Nat} (h : m < 5) : 18 + m < ZX n := by unfold ZX; omega
theorem zx_q {q n : Nat} (h : q = 4 ∨ q = 7) : q < ZX n := by unfold ZX; omega
theorem zx_qj {q n j : Nat} (h : q = 4 ∨ q = 7) (hj : j < 3) : q + j < ZX n := by unfold ZX; omega
theorem tx_big (cy : Nat → ClassId) (ad : Nat → Nat) (n c : Nat) (h : 26 ≤ c) (f : Nat → Int32) (g : Nat → Int64) : TX cy ad n c f g = TXp cy ad c f g := by
  obtain ⟨k, rfl⟩ : ∃ k, c = k + 26 := ⟨c - 26, by omega⟩
  rfl
theorem tx_p (cy : Nat → ClassId) (ad : Nat → Nat) (n p : Nat) : ∀ f g, TX cy ad n (26 + 4 * p) f g = .inr (5, [.int (f 0), .ref (ad (26 + 4 * p + 1)), .ref (ad (26 + 4 * p + 2)), .ref (ad (26 + 4 * p + 3)), .int (f 4)]) := fun f g => by
  rw [tx_big cy ad n _ (by omega)]
  unfold TXp
  rw [if_pos (by omega)]
theorem tx_p1 (cy : Nat → ClassId) (ad : Nat → Nat) (n p : Nat) : ∀ f g, TX cy ad n (26 + 4 * p + 1) f g = .inl (cy 1, 7, .inr (.inl g)) := fun f g => by
  rw [tx_big cy ad n _ (by omega)]
  unfold TXp
  rw [if_neg (by omega), if_pos (by omega)]
theorem tx_p2 (cy : Nat → ClassId) (ad : Nat → Nat) (n p : Nat) : ∀ f g, TX cy ad n (26 + 4 * p + 2) f g = .inl (cy 1, 7, .inr (.inl g)) := fun f g => by
  rw [tx_big cy ad n _ (by omega)]
  unfold TXp
  rw [if_neg (by omega), if_neg (by omega), if_pos (by omega)]
theorem tx_p3 (cy : Nat → ClassId) (ad : Nat → Nat) (n p : Nat) : ∀ f g, TX cy ad n (26 + 4 * p + 3) f g = .inl (cy 1, 8, .inr (.inl g)) := fun f g => by
  rw [tx_big cy ad n _ (by omega)]
  unfold TXp
  rw [if_neg (by omega), if_neg (by omega), if_neg (by omega)]
theorem tx_m (cy : Nat → ClassId) (ad : Nat → Nat) (n : Nat) {m : Nat} (h : m < 5) : ∀ f g, TX cy ad n (18 + m) f g = .inr (1, [.int (f 0), .int (f 1), .int (f 2), .long (g 3)]) := fun f g => by
  match m, h with
  | 0, _ => rfl
  | 1, _ => rfl
  | 2, _ => rfl
  | 3, _ => rfl
  | 4, _ => rfl
theorem tx_q (cy : Nat → ClassId) (ad : Nat → Nat) (n : Nat) {q : Nat} (h : q = 4 ∨ q = 7) : ∀ f g, TX cy ad n q f g = .inr (7, [.ref (ad (q + 1)), .ref (ad (q + 2)), .int (f 2)]) := fun f g => by
  rcases h with rfl | rfl <;> rfl
theorem tx_q1 (cy : Nat → ClassId) (ad : Nat → Nat) (n : Nat) {q : Nat} (h : q = 4 ∨ q = 7) : ∀ f g, TX cy ad n (q + 1) f g = .inl (cy 0, 10, .inl f) := fun f g => by
  rcases h with rfl | rfl <;> rfl
theorem tx_q2 (cy : Nat → ClassId) (ad : Nat → Nat) (n : Nat) {q : Nat} (h : q = 4 ∨ q = 7) : ∀ f g, TX cy ad n (q + 2) f g = .inl (cy 1, 10, .inr (.inl g)) := fun f g => by
  rcases h with rfl | rfl <;> rfl
def ZM (_ : Nat) : Nat := 20
def TM (cy : Nat → ClassId) : fqT := fun ad _ c f g => match c with
  | 0 => .inr (9, [.ref (ad 1), .int (f 1), .ref (ad 2), .ref (ad 3), .ref (ad 4), .ref (ad 5), .int (f 6), .int (f 7), .int (f 8), .int (f 9), .int (f 10), .int (f 11), .ref (ad 6), .ref (ad 7), .ref (ad 8), .ref (ad 9), .ref (ad 10), .ref (ad 11), .ref (ad 12), .int (f 19), .int (f 20), .int (f 21), .ref (ad 13), .ref (ad 14), .ref (ad 15), .ref (ad 16), .int (f 26), .int (f 27), .long (g 28), .ref (ad 17), .ref (ad 18), .int (f 31), .ref (ad 19)])
  | 1 => .inl (cy 0, 6, .inl f)
  | 2 => .inl (cy 0, 16, .inl f)
  | 3 => .inl (cy 1, 112, .inr (.inl g))
  | 4 => .inl (cy 1, 128, .inr (.inl g))
  | 5 => .inl (cy 0, 16, .inl f)
  | 6 => .inl (cy 0, 10, .inl f)
  | 7 => .inl (cy 0, 10, .inl f)
  | 8 => .inl (cy 2, 5, .inl f)
  | 9 => .inl (cy 0, 5, .inl f)
  | 10 => .inl (cy 0, 5, .inl f)
  | 11 => .inl (cy 0, 5, .inl f)
  | 12 => .inl (cy 0, 5, .inl f)
  | 13 => .inl (cy 0, 20, .inl f)
  | 14 => .inl (cy 1, 112, .inr (.inl g))
  | 15 => .inl (cy 0, 1024, .inl f)
  | 16 => .inl (cy 1, 1024, .inr (.inl g))
  | 17 => .inl (cy 0, 5, .inl f)
  | 18 => .inl (cy 0, 5, .inl f)
  | _ => .inl (cy 1, 7, .inr (.inl g))
end
