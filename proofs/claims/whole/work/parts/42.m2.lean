/-! X9_count -/
theorem wX9_count_0 : Cond.fieldLink RX9 94 "FairQueueModel" "players" "I" ∈ wsX9_count := by decide +kernel
theorem uX9_count_X9 : ∀ w ∈ u_ws RX9 TX9 33, w ∈ wsX9_count := (fun _ h => List.mem_cons_of_mem _ (List.mem_append_right _ h))
theorem wX9_count_2 : Cond.fieldLink RX9 89 "FairQueueModel" "ticks" "I" ∈ wsX9_count := by decide +kernel
theorem wX9_count_3 : Cond.fieldLink RX9 159 "FairQueueModel" "parties" "I" ∈ wsX9_count := by decide +kernel
theorem wX9_count_4 : Cond.fieldLink RX9 237 "FairQueueModel" "ended" "I" ∈ wsX9_count := by decide +kernel
theorem wX9_count_5 : Cond.fieldLink RX9 251 "FairQueueModel" "toldMany" "I" ∈ wsX9_count := by decide +kernel
theorem wX9_count_6 : Cond.fieldLink RX9 26 "FairQueueModel" "teamSize" "I" ∈ wsX9_count := by decide +kernel
theorem wX9_count_7 : Cond.constantLong RX9 109 (-1000000001) ∈ wsX9_count := by decide +kernel
theorem kcX9_count : yX9_count.cls = RX9 ∧ yX9_count.cls ≠ "java/lang/invoke/MethodHandle" ∧ yX9_count.cls ≠ "java/lang/invoke/VarHandle" ∧ (parseMethodDescriptor yX9_count.desc).map (fun d => d.parameters.length) = some 1 := by decide +kernel
def pX9_count (k n : Nat) (σ : fqS) (x1 : Int32) : Option (Int64 × fqS) :=
  (if x1 = 0 then some ((Int32.toInt64 (fqI σ 0 1)), σ) else (if x1 = 1 then some ((Int32.toInt64 (fqI σ 0 10)), σ) else (if x1 = 2 then some ((Int32.toInt64 (fqI σ 0 11)), σ) else (if x1 = 3 then ((pX9_playing k n σ).bind (fun r6 => some ((Int32.toInt64 r6), σ))) else (if x1 = 4 then some ((Int32.toInt64 (fqI σ 0 19)), σ) else (if x1 = 5 then some ((Int32.toInt64 (fqI σ 0 21)), σ) else (if x1 = 6 then some ((Int32.toInt64 (fqI σ 0 6)), σ) else (fqB2 (pX9_finding k n σ (-1000000001 : Int64)) (fun r11 σ12 => some (r11, σ12))))))))))
set_option maxRecDepth 100000 in
set_option maxHeartbeats 4000000 in
theorem qX9_count (l : Launch) (D : va_G) (cy : Nat → ClassId) (ad : Nat → Nat) (sz n : Nat) (σ : fqS) (k : Nat) (x1 : Int32) {r : Int64} {σ' : fqS} (hf : pX9_count k n σ x1 = some (r, σ')) : Met l yX9_count wsX9_count ({ frames := 1, cells := 0, slots := 0, locals := 22 } : Room) (fqPc (TM cy) ZM D cy ad sz n σ [.ref (ad 0), .int x1]) (fqQl (TM cy) ZM D ad sz n σ r σ') 0 0 (fqA (TM cy) ZM ad sz n σ) := by
  refine fq_enter_l (cc := cX9_count) (maxL := 2) (own := RX9) _ (by decide) rfl (Nat.le_of_ble_eq_true rfl) rfl (fun X E hret => ?_)
  unfold pX9_count at hf
  show fqG X (TM cy) ZM ad n 2 0 0 σ 0 [(0, .ref (ad 0)), (1, .int x1)] []
  refine g_iload_n (pc := 0) E dX9_count_0 1 rfl rfl ?_
  by_cases c1 : x1 = 0
  · replace hf := fq_t c1 hf
    refine g_tableIn (pc := 1) E (off := 43) 44 dX9_count_1 (by rw [c1]; decide) (by rw [c1]; decide) (by rw [c1]; rfl) (by decide) ?_
    refine g_aload_n (pc := 44) E dX9_count_44 0 rfl rfl ?_
    refine g_getfield (pc := 45) E uX9_count_X9 0 (zm_l (by decide)) (fun _ _ => rfl) rfl 1 (by decide) wX9_count_0 (.int (fqI σ 0 1)) rfl dX9_count_45 ?_
    refine g_i2l (pc := 48) E dX9_count_48 ?_
    exact hret _ _ _ _ dX9_count_49 (Option.some.inj hf)
  replace hf := fq_f c1 hf
  by_cases c2 : x1 = 1
  · replace hf := fq_t c2 hf
    refine g_tableIn (pc := 1) E (off := 49) 50 dX9_count_1 (by rw [c2]; decide) (by rw [c2]; decide) (by rw [c2]; rfl) (by decide) ?_
    refine g_aload_n (pc := 50) E dX9_count_50 0 rfl rfl ?_
    refine g_getfield (pc := 51) E uX9_count_X9 0 (zm_l (by decide)) (fun _ _ => rfl) rfl 10 (by decide) wX9_count_2 (.int (fqI σ 0 10)) rfl dX9_count_51 ?_
    refine g_i2l (pc := 54) E dX9_count_54 ?_
    exact hret _ _ _ _ dX9_count_55 (Option.some.inj hf)
  replace hf := fq_f c2 hf
  by_cases c3 : x1 = 2
  · replace hf := fq_t c3 hf
    refine g_tableIn (pc := 1) E (off := 55) 56 dX9_count_1 (by rw [c3]; decide) (by rw [c3]; decide) (by rw [c3]; rfl) (by decide) ?_
    refine g_aload_n (pc := 56) E dX9_count_56 0 rfl rfl ?_
    refine g_getfield (pc := 57) E uX9_count_X9 0 (zm_l (by decide)) (fun _ _ => rfl) rfl 11 (by decide) wX9_count_3 (.int (fqI σ 0 11)) rfl dX9_count_57 ?_
    refine g_i2l (pc := 60) E dX9_count_60 ?_
    exact hret _ _ _ _ dX9_count_61 (Option.some.inj hf)
  replace hf := fq_f c3 hf
  by_cases c4 : x1 = 3
  · replace hf := fq_t c4 hf
    refine g_tableIn (pc := 1) E (off := 61) 62 dX9_count_1 (by rw [c4]; decide) (by rw [c4]; decide) (by rw [c4]; rfl) (by decide) ?_
    refine g_aload_n (pc := 62) E dX9_count_62 0 rfl rfl ?_
    obtain ⟨r6, e5, hf⟩ := fq_b hf
    refine g_callVi (pc := 63) E 0 (zm_l (by decide)) (fun _ _ => rfl) rfl [] (fun l D sz => qX9_playing l D cy ad sz n σ k e5) gX9_count_X9_playing rfl rfl rfl kcX9_playing ⟨by decide, by decide⟩ rfl rfl (Nat.le_of_ble_eq_true rfl) dX9_count_63 ⟨by decide, by decide⟩ ?_
    refine g_i2l (pc := 66) E dX9_count_66 ?_
    exact hret _ _ _ _ dX9_count_67 (Option.some.inj hf)
  replace hf := fq_f c4 hf
  by_cases c7 : x1 = 4
  · replace hf := fq_t c7 hf
    refine g_tableIn (pc := 1) E (off := 67) 68 dX9_count_1 (by rw [c7]; decide) (by rw [c7]; decide) (by rw [c7]; rfl) (by decide) ?_
    refine g_aload_n (pc := 68) E dX9_count_68 0 rfl rfl ?_
    refine g_getfield (pc := 69) E uX9_count_X9 0 (zm_l (by decide)) (fun _ _ => rfl) rfl 19 (by decide) wX9_count_4 (.int (fqI σ 0 19)) rfl dX9_count_69 ?_
    refine g_i2l (pc := 72) E dX9_count_72 ?_
    exact hret _ _ _ _ dX9_count_73 (Option.some.inj hf)
  replace hf := fq_f c7 hf
  by_cases c8 : x1 = 5
  · replace hf := fq_t c8 hf
    refine g_tableIn (pc := 1) E (off := 73) 74 dX9_count_1 (by rw [c8]; decide) (by rw [c8]; decide) (by rw [c8]; rfl) (by decide) ?_
    refine g_aload_n (pc := 74) E dX9_count_74 0 rfl rfl ?_
    refine g_getfield (pc := 75) E uX9_count_X9 0 (zm_l (by decide)) (fun _ _ => rfl) rfl 21 (by decide) wX9_count_5 (.int (fqI σ 0 21)) rfl dX9_count_75 ?_
    refine g_i2l (pc := 78) E dX9_count_78 ?_
    exact hret _ _ _ _ dX9_count_79 (Option.some.inj hf)
  replace hf := fq_f c8 hf
  by_cases c9 : x1 = 6
  · replace hf := fq_t c9 hf
    refine g_tableIn (pc := 1) E (off := 79) 80 dX9_count_1 (by rw [c9]; decide) (by rw [c9]; decide) (by rw [c9]; rfl) (by decide) ?_
    refine g_aload_n (pc := 80) E dX9_count_80 0 rfl rfl ?_
    refine g_getfield (pc := 81) E uX9_count_X9 0 (zm_l (by decide)) (fun _ _ => rfl) rfl 6 (by decide) wX9_count_6 (.int (fqI σ 0 6)) rfl dX9_count_81 ?_
    refine g_i2l (pc := 84) E dX9_count_84 ?_
    exact hret _ _ _ _ dX9_count_85 (Option.some.inj hf)
  replace hf := fq_f c9 hf
  refine g_tableOut (pc := 1) E 86 dX9_count_1 (fq_sw7 c1 c2 c3 c4 c7 c8 c9) (by decide) ?_
  refine g_aload_n (pc := 86) E dX9_count_86 0 rfl rfl ?_
  refine g_ldc2_w (pc := 87) E dX9_count_87 wX9_count_7 ?_
  obtain ⟨r11, σ12, e10, hf⟩ := fq_b2 hf
  refine g_callVl (pc := 90) E 0 (zm_l (by decide)) (fun _ _ => rfl) rfl [.long (-1000000001 : Int64)] (fun l D sz => qX9_finding l D cy ad sz n σ k (-1000000001 : Int64) e10) gX9_count_X9_finding rfl rfl rfl kcX9_finding ⟨by decide, by decide⟩ rfl rfl (Nat.le_of_ble_eq_true rfl) dX9_count_90 ⟨by decide, by decide⟩ ?_
  exact hret _ _ _ _ dX9_count_93 (Option.some.inj hf)

/-! X9_matchOf -/
theorem wX9_matchOf_0 : Cond.fieldLink RX9 48 "FairQueueModel" "goesOn" "[Z" ∈ wsX9_matchOf := by decide +kernel
theorem uX9_matchOf_X9 : ∀ w ∈ u_ws RX9 TX9 33, w ∈ wsX9_matchOf := (fun _ h => List.mem_cons_of_mem _ (List.mem_append_right _ h))
theorem wX9_matchOf_2 : Cond.fieldLink RX9 52 "FairQueueModel" "firstOf" "[I" ∈ wsX9_matchOf := by decide +kernel
theorem wX9_matchOf_3 : Cond.fieldLink RX9 55 "FairQueueModel" "secondOf" "[I" ∈ wsX9_matchOf := by decide +kernel
theorem wX9_matchOf_4 : Cond.fieldLink RX9 58 "FairQueueModel" "dropped" "[I" ∈ wsX9_matchOf := by decide +kernel
theorem kcX9_matchOf : yX9_matchOf.cls = RX9 ∧ yX9_matchOf.cls ≠ "java/lang/invoke/MethodHandle" ∧ yX9_matchOf.cls ≠ "java/lang/invoke/VarHandle" ∧ (parseMethodDescriptor yX9_matchOf.desc).map (fun d => d.parameters.length) = some 1 := by decide +kernel
def pX9_matchOf_L2b (k n : Nat) (σ : fqS) (x1 : Int32) (rec : (Int32) → Option Int32) (x2 : Int32) : Option Int32 :=
  (if (5 : Int32) ≤ x2 then some (-1 : Int32) else (if x2 < 0 ∨ 5 ≤ Int32.toNatClampNeg x2 then none else (if (fqI σ 8 (Int32.toNatClampNeg x2)) = 0 then (rec ((x2 + (1 : Int32)))) else (if ((((fqI σ 9 (Int32.toNatClampNeg x2)) ||| (fqI σ 10 (Int32.toNatClampNeg x2))) &&& ((fqI σ 11 (Int32.toNatClampNeg x2)) ^^^ (-1 : Int32))) &&& ((1 : Int32) <<< (x1 &&& 31))) = 0 then (rec ((x2 + (1 : Int32)))) else some x2))))
def pX9_matchOf_L2 (k n : Nat) (σ : fqS) (x1 : Int32) : (Int32) → Option Int32 := fqL (fun rec (s : (Int32)) => pX9_matchOf_L2b k n σ x1 rec s) k
def pX9_matchOf (k n : Nat) (σ : fqS) (x1 : Int32) : Option Int32 :=
  (pX9_matchOf_L2 k n σ x1 ((0 : Int32)))
set_option maxRecDepth 100000 in
set_option maxHeartbeats 4000000 in
theorem tX9_matchOf_L2 {k : Nat} {X : fqX} {cy : Nat → ClassId} {ad : Nat → Nat} {n : Nat} {σ : fqS} {r : Int32} {x1 : Int32} (E : fqE X ({ frames := 0, cells := 0, slots := 0, locals := 0 } : Room) cy cX9_matchOf 3 wsX9_matchOf RX9) (hret : fqR_i X (TM cy) ZM ad n 3 cX9_matchOf r σ) : ∀ (s : (Int32)), pX9_matchOf_L2 k n σ x1 s = some r → fqG X (TM cy) ZM ad n 3 0 0 σ 2 [(0, .ref (ad 0)), (1, .int x1), (2, .int (s))] [] := by
  unfold pX9_matchOf_L2
  refine fqL_run (P := fun (s : (Int32)) => fqG X (TM cy) ZM ad n 3 0 0 σ 2 [(0, .ref (ad 0)), (1, .int x1), (2, .int (s))] []) (fun rec s hrec hf => ?_) k
  obtain ⟨x2, rfl⟩ : ∃ z, z = s := ⟨_, rfl⟩
  have hf : pX9_matchOf_L2b k n σ x1 rec x2 = some r := hf
  unfold pX9_matchOf_L2b at hf
  show fqG X (TM cy) ZM ad n 3 0 0 σ 2 [(0, .ref (ad 0)), (1, .int x1), (2, .int x2)] []
  refine g_iload_n (pc := 2) E dX9_matchOf_2 2 rfl rfl ?_
  refine g_iconst (pc := 3) E (5 : Int32) dX9_matchOf_3 (by decide) ?_
  refine g_icmp_ge (pc := 4) E 53 dX9_matchOf_4 (by decide) (fun c1 => ?_) (fun c1 => ?_)
  · replace hf := fq_t c1 hf
    refine g_iconst (pc := 53) E (-1 : Int32) dX9_matchOf_53 (by decide) ?_
    exact hret _ _ _ _ dX9_matchOf_54 (congrArg (fun z => (z, σ)) (Option.some.inj hf))
  · replace hf := fq_f c1 hf
    refine g_aload_n (pc := 7) E dX9_matchOf_7 0 rfl rfl ?_
    refine g_getfield (pc := 8) E uX9_matchOf_X9 0 (zm_l (by decide)) (fun _ _ => rfl) rfl 14 (by decide) wX9_matchOf_0 (.ref (ad 8)) rfl dX9_matchOf_8 ?_
    refine g_iload_n (pc := 11) E dX9_matchOf_11 2 rfl rfl ?_
    obtain ⟨h2, hf⟩ := fq_in hf
    refine g_baload (pc := 12) E 8 (zm_l (by decide)) (fun _ _ => rfl) h2 dX9_matchOf_12 ?_
    refine g_if_eq (pc := 13) E 47 dX9_matchOf_13 (by decide) (fun c3 => ?_) (fun c3 => ?_)
    · replace hf := fq_t c3 hf
      refine g_iinc (pc := 47) E (x2 + (1 : Int32)) [(2, .int (x2 + (1 : Int32))), (0, .ref (ad 0)), (1, .int x1)] dX9_matchOf_47 2 rfl rfl (by decide) rfl ?_
      refine g_goto (pc := 50) E 2 dX9_matchOf_50 (by decide) ?_
      refine g_lv [1, 2, 0] rfl ?_
      exact hrec _ hf
    · replace hf := fq_f c3 hf
      refine g_aload_n (pc := 16) E dX9_matchOf_16 0 rfl rfl ?_
      refine g_getfield (pc := 17) E uX9_matchOf_X9 0 (zm_l (by decide)) (fun _ _ => rfl) rfl 15 (by decide) wX9_matchOf_2 (.ref (ad 9)) rfl dX9_matchOf_17 ?_
      refine g_iload_n (pc := 20) E dX9_matchOf_20 2 rfl rfl ?_
      refine g_iaload (pc := 21) E 9 (zm_l (by decide)) (fun _ _ => rfl) h2 dX9_matchOf_21 ?_
      refine g_aload_n (pc := 22) E dX9_matchOf_22 0 rfl rfl ?_
      refine g_getfield (pc := 23) E uX9_matchOf_X9 0 (zm_l (by decide)) (fun _ _ => rfl) rfl 16 (by decide) wX9_matchOf_3 (.ref (ad 10)) rfl dX9_matchOf_23 ?_
      refine g_iload_n (pc := 26) E dX9_matchOf_26 2 rfl rfl ?_
      refine g_iaload (pc := 27) E 10 (zm_l (by decide)) (fun _ _ => rfl) h2 dX9_matchOf_27 ?_
      refine g_ior (pc := 28) E dX9_matchOf_28 ?_
      refine g_aload_n (pc := 29) E dX9_matchOf_29 0 rfl rfl ?_
      refine g_getfield (pc := 30) E uX9_matchOf_X9 0 (zm_l (by decide)) (fun _ _ => rfl) rfl 17 (by decide) wX9_matchOf_4 (.ref (ad 11)) rfl dX9_matchOf_30 ?_
      refine g_iload_n (pc := 33) E dX9_matchOf_33 2 rfl rfl ?_
      refine g_iaload (pc := 34) E 11 (zm_l (by decide)) (fun _ _ => rfl) h2 dX9_matchOf_34 ?_
      refine g_iconst (pc := 35) E (-1 : Int32) dX9_matchOf_35 (by decide) ?_
      refine g_ixor (pc := 36) E dX9_matchOf_36 ?_
      refine g_iand (pc := 37) E dX9_matchOf_37 ?_
      refine g_iconst (pc := 38) E (1 : Int32) dX9_matchOf_38 (by decide) ?_
      refine g_iload_n (pc := 39) E dX9_matchOf_39 1 rfl rfl ?_
      refine g_ishl (pc := 40) E dX9_matchOf_40 ?_
      refine g_iand (pc := 41) E dX9_matchOf_41 ?_
      refine g_if_eq (pc := 42) E 47 dX9_matchOf_42 (by decide) (fun c4 => ?_) (fun c4 => ?_)
      · replace hf := fq_t c4 hf
        refine g_iinc (pc := 47) E (x2 + (1 : Int32)) [(2, .int (x2 + (1 : Int32))), (0, .ref (ad 0)), (1, .int x1)] dX9_matchOf_47 2 rfl rfl (by decide) rfl ?_
        refine g_goto (pc := 50) E 2 dX9_matchOf_50 (by decide) ?_
        refine g_lv [1, 2, 0] rfl ?_
        exact hrec _ hf
      · replace hf := fq_f c4 hf
        refine g_iload_n (pc := 45) E dX9_matchOf_45 2 rfl rfl ?_
        exact hret _ _ _ _ dX9_matchOf_46 (congrArg (fun z => (z, σ)) (Option.some.inj hf))
set_option maxRecDepth 100000 in
set_option maxHeartbeats 4000000 in
theorem qX9_matchOf (l : Launch) (D : va_G) (cy : Nat → ClassId) (ad : Nat → Nat) (sz n : Nat) (σ : fqS) (k : Nat) (x1 : Int32) {r : Int32} (hf : pX9_matchOf k n σ x1 = some r) : Met l yX9_matchOf wsX9_matchOf ({ frames := 0, cells := 0, slots := 0, locals := 0 } : Room) (fqPc (TM cy) ZM D cy ad sz n σ [.ref (ad 0), .int x1]) (fqQi (TM cy) ZM D ad sz n σ r σ) 0 0 (fqA (TM cy) ZM ad sz n σ) := by
  refine fq_enter_i (cc := cX9_matchOf) (maxL := 3) (own := RX9) _ (by decide) rfl (Nat.le_of_ble_eq_true rfl) rfl (fun X E hret => ?_)
  unfold pX9_matchOf at hf
  show fqG X (TM cy) ZM ad n 3 0 0 σ 0 [(0, .ref (ad 0)), (1, .int x1)] []
  refine g_iconst (pc := 0) E (0 : Int32) dX9_matchOf_0 (by decide) ?_
  refine g_istore_n (pc := 1) E [(2, .int (0 : Int32)), (0, .ref (ad 0)), (1, .int x1)] dX9_matchOf_1 rfl (by decide) rfl ?_
  refine g_lv [1, 2, 0] rfl ?_
  exact tX9_matchOf_L2 E hret _ hf

/-! X9_undoubted -/
theorem wX9_undoubted_0 : Cond.fieldLink RX9 94 "FairQueueModel" "players" "I" ∈ wsX9_undoubted := by decide +kernel
theorem uX9_undoubted_X9 : ∀ w ∈ u_ws RX9 TX9 33, w ∈ wsX9_undoubted := (fun _ h => List.mem_cons_of_mem _ (List.mem_append_right _ h))
theorem wX9_undoubted_2 : Cond.fieldLink RX9 13 "FairQueueModel" "kindOf" "[I" ∈ wsX9_undoubted := by decide +kernel
theorem kcX9_undoubted : yX9_undoubted.cls = RX9 ∧ yX9_undoubted.cls ≠ "java/lang/invoke/MethodHandle" ∧ yX9_undoubted.cls ≠ "java/lang/invoke/VarHandle" ∧ (parseMethodDescriptor yX9_undoubted.desc).map (fun d => d.parameters.length) = some 1 := by decide +kernel
def pX9_undoubted_L4b (k n : Nat) (σ : fqS) (x1 : Int32) (rec : (Int32 × Int32) → Option Int32) (x2 : Int32) (x3 : Int32) : Option Int32 :=
  (if (fqI σ 0 1) ≤ x3 then some x2 else (if ((x1 >>> (x3 &&& 31)) &&& (1 : Int32)) = (1 : Int32) then (if x3 < 0 ∨ 16 ≤ Int32.toNatClampNeg x3 then none else (if (fqI σ 2 (Int32.toNatClampNeg x3)) = (2 : Int32) then (rec ((x2 ||| (0 : Int32)), (x3 + (1 : Int32)))) else (rec ((x2 ||| ((1 : Int32) <<< (x3 &&& 31))), (x3 + (1 : Int32)))))) else (rec ((x2 ||| (0 : Int32)), (x3 + (1 : Int32))))))
def pX9_undoubted_L4 (k n : Nat) (σ : fqS) (x1 : Int32) : (Int32 × Int32) → Option Int32 := fqL (fun rec (s : (Int32 × Int32)) => pX9_undoubted_L4b k n σ x1 rec s.1 s.2) k
def pX9_undoubted (k n : Nat) (σ : fqS) (x1 : Int32) : Option Int32 :=
  (pX9_undoubted_L4 k n σ x1 ((0 : Int32), (0 : Int32)))
set_option maxRecDepth 100000 in
set_option maxHeartbeats 4000000 in
theorem tX9_undoubted_L4 {k : Nat} {X : fqX} {cy : Nat → ClassId} {ad : Nat → Nat} {n : Nat} {σ : fqS} {r : Int32} {x1 : Int32} (E : fqE X ({ frames := 0, cells := 0, slots := 0, locals := 0 } : Room) cy cX9_undoubted 4 wsX9_undoubted RX9) (hret : fqR_i X (TM cy) ZM ad n 4 cX9_undoubted r σ) : ∀ (s : (Int32 × Int32)), pX9_undoubted_L4 k n σ x1 s = some r → fqG X (TM cy) ZM ad n 4 0 0 σ 4 [(0, .ref (ad 0)), (1, .int x1), (2, .int (s.1)), (3, .int (s.2))] [] := by
  unfold pX9_undoubted_L4
  refine fqL_run (P := fun (s : (Int32 × Int32)) => fqG X (TM cy) ZM ad n 4 0 0 σ 4 [(0, .ref (ad 0)), (1, .int x1), (2, .int (s.1)), (3, .int (s.2))] []) (fun rec s hrec hf => ?_) k
  obtain ⟨x2, x3⟩ := s
  have hf : pX9_undoubted_L4b k n σ x1 rec x2 x3 = some r := hf
  unfold pX9_undoubted_L4b at hf
  show fqG X (TM cy) ZM ad n 4 0 0 σ 4 [(0, .ref (ad 0)), (1, .int x1), (2, .int x2), (3, .int x3)] []
  refine g_iload_n (pc := 4) E dX9_undoubted_4 3 rfl rfl ?_
  refine g_aload_n (pc := 5) E dX9_undoubted_5 0 rfl rfl ?_
  refine g_getfield (pc := 6) E uX9_undoubted_X9 0 (zm_l (by decide)) (fun _ _ => rfl) rfl 1 (by decide) wX9_undoubted_0 (.int (fqI σ 0 1)) rfl dX9_undoubted_6 ?_
  refine g_icmp_ge (pc := 9) E 47 dX9_undoubted_9 (by decide) (fun c1 => ?_) (fun c1 => ?_)
  · replace hf := fq_t c1 hf
    refine g_iload_n (pc := 47) E dX9_undoubted_47 2 rfl rfl ?_
    exact hret _ _ _ _ dX9_undoubted_48 (congrArg (fun z => (z, σ)) (Option.some.inj hf))
  · replace hf := fq_f c1 hf
    refine g_iload_n (pc := 12) E dX9_undoubted_12 2 rfl rfl ?_
    refine g_iload_n (pc := 13) E dX9_undoubted_13 1 rfl rfl ?_
    refine g_iload_n (pc := 14) E dX9_undoubted_14 3 rfl rfl ?_
    refine g_ishr (pc := 15) E dX9_undoubted_15 ?_
    refine g_iconst (pc := 16) E (1 : Int32) dX9_undoubted_16 (by decide) ?_
    refine g_iand (pc := 17) E dX9_undoubted_17 ?_
    refine g_iconst (pc := 18) E (1 : Int32) dX9_undoubted_18 (by decide) ?_
    refine g_icmp_ne (pc := 19) E 38 dX9_undoubted_19 (by decide) (fun c2 => ?_) (fun c2 => ?_)
    · replace hf := fq_f c2 hf
      refine g_iconst (pc := 38) E (0 : Int32) dX9_undoubted_38 (by decide) ?_
      refine g_ior (pc := 39) E dX9_undoubted_39 ?_
      refine g_istore_n (pc := 40) E [(2, .int (x2 ||| (0 : Int32))), (0, .ref (ad 0)), (1, .int x1), (3, .int x3)] dX9_undoubted_40 rfl (by decide) rfl ?_
      refine g_iinc (pc := 41) E (x3 + (1 : Int32)) [(3, .int (x3 + (1 : Int32))), (2, .int (x2 ||| (0 : Int32))), (0, .ref (ad 0)), (1, .int x1)] dX9_undoubted_41 3 rfl rfl (by decide) rfl ?_
      refine g_goto (pc := 44) E 4 dX9_undoubted_44 (by decide) ?_
      refine g_lv [2, 3, 1, 0] rfl ?_
      exact hrec _ hf
    · replace hf := fq_t c2 hf
      refine g_aload_n (pc := 22) E dX9_undoubted_22 0 rfl rfl ?_
      refine g_getfield (pc := 23) E uX9_undoubted_X9 0 (zm_l (by decide)) (fun _ _ => rfl) rfl 2 (by decide) wX9_undoubted_2 (.ref (ad 2)) rfl dX9_undoubted_23 ?_
      refine g_iload_n (pc := 26) E dX9_undoubted_26 3 rfl rfl ?_
      obtain ⟨h3, hf⟩ := fq_in hf
      refine g_iaload (pc := 27) E 2 (zm_l (by decide)) (fun _ _ => rfl) h3 dX9_undoubted_27 ?_
      refine g_iconst (pc := 28) E (2 : Int32) dX9_undoubted_28 (by decide) ?_
      refine g_icmp_eq (pc := 29) E 38 dX9_undoubted_29 (by decide) (fun c4 => ?_) (fun c4 => ?_)
      · replace hf := fq_t c4 hf
        refine g_iconst (pc := 38) E (0 : Int32) dX9_undoubted_38 (by decide) ?_
        refine g_ior (pc := 39) E dX9_undoubted_39 ?_
        refine g_istore_n (pc := 40) E [(2, .int (x2 ||| (0 : Int32))), (0, .ref (ad 0)), (1, .int x1), (3, .int x3)] dX9_undoubted_40 rfl (by decide) rfl ?_
        refine g_iinc (pc := 41) E (x3 + (1 : Int32)) [(3, .int (x3 + (1 : Int32))), (2, .int (x2 ||| (0 : Int32))), (0, .ref (ad 0)), (1, .int x1)] dX9_undoubted_41 3 rfl rfl (by decide) rfl ?_
        refine g_goto (pc := 44) E 4 dX9_undoubted_44 (by decide) ?_
        refine g_lv [2, 3, 1, 0] rfl ?_
        exact hrec _ hf
      · replace hf := fq_f c4 hf
        refine g_iconst (pc := 32) E (1 : Int32) dX9_undoubted_32 (by decide) ?_
        refine g_iload_n (pc := 33) E dX9_undoubted_33 3 rfl rfl ?_
        refine g_ishl (pc := 34) E dX9_undoubted_34 ?_
        refine g_goto (pc := 35) E 39 dX9_undoubted_35 (by decide) ?_
        refine g_ior (pc := 39) E dX9_undoubted_39 ?_
        refine g_istore_n (pc := 40) E [(2, .int (x2 ||| ((1 : Int32) <<< (x3 &&& 31)))), (0, .ref (ad 0)), (1, .int x1), (3, .int x3)] dX9_undoubted_40 rfl (by decide) rfl ?_
        refine g_iinc (pc := 41) E (x3 + (1 : Int32)) [(3, .int (x3 + (1 : Int32))), (2, .int (x2 ||| ((1 : Int32) <<< (x3 &&& 31)))), (0, .ref (ad 0)), (1, .int x1)] dX9_undoubted_41 3 rfl rfl (by decide) rfl ?_
        refine g_goto (pc := 44) E 4 dX9_undoubted_44 (by decide) ?_
        refine g_lv [2, 3, 1, 0] rfl ?_
        exact hrec _ hf
set_option maxRecDepth 100000 in
set_option maxHeartbeats 4000000 in
theorem qX9_undoubted (l : Launch) (D : va_G) (cy : Nat → ClassId) (ad : Nat → Nat) (sz n : Nat) (σ : fqS) (k : Nat) (x1 : Int32) {r : Int32} (hf : pX9_undoubted k n σ x1 = some r) : Met l yX9_undoubted wsX9_undoubted ({ frames := 0, cells := 0, slots := 0, locals := 0 } : Room) (fqPc (TM cy) ZM D cy ad sz n σ [.ref (ad 0), .int x1]) (fqQi (TM cy) ZM D ad sz n σ r σ) 0 0 (fqA (TM cy) ZM ad sz n σ) := by
  refine fq_enter_i (cc := cX9_undoubted) (maxL := 4) (own := RX9) _ (by decide) rfl (Nat.le_of_ble_eq_true rfl) rfl (fun X E hret => ?_)
  unfold pX9_undoubted at hf
  show fqG X (TM cy) ZM ad n 4 0 0 σ 0 [(0, .ref (ad 0)), (1, .int x1)] []
  refine g_iconst (pc := 0) E (0 : Int32) dX9_undoubted_0 (by decide) ?_
  refine g_istore_n (pc := 1) E [(2, .int (0 : Int32)), (0, .ref (ad 0)), (1, .int x1)] dX9_undoubted_1 rfl (by decide) rfl ?_
  refine g_iconst (pc := 2) E (0 : Int32) dX9_undoubted_2 (by decide) ?_
  refine g_istore_n (pc := 3) E [(3, .int (0 : Int32)), (2, .int (0 : Int32)), (0, .ref (ad 0)), (1, .int x1)] dX9_undoubted_3 rfl (by decide) rfl ?_
  refine g_lv [2, 3, 1, 0] rfl ?_
  exact tX9_undoubted_L4 E hret _ hf

/-! X9_keepSurprise -/
theorem wX9_keepSurprise_0 : Cond.fieldLink RX9 23 "FairQueueModel" "surpriseMany" "[I" ∈ wsX9_keepSurprise := by decide +kernel
theorem uX9_keepSurprise_X9 : ∀ w ∈ u_ws RX9 TX9 33, w ∈ wsX9_keepSurprise := (fun _ h => List.mem_cons_of_mem _ (List.mem_append_right _ h))
theorem wX9_keepSurprise_2 : Cond.fieldLink RX9 20 "FairQueueModel" "surprises" "[J" ∈ wsX9_keepSurprise := by decide +kernel
theorem kcX9_keepSurprise : yX9_keepSurprise.cls = RX9 ∧ yX9_keepSurprise.cls ≠ "java/lang/invoke/MethodHandle" ∧ yX9_keepSurprise.cls ≠ "java/lang/invoke/VarHandle" ∧ (parseMethodDescriptor yX9_keepSurprise.desc).map (fun d => d.parameters.length) = some 2 := by decide +kernel
def pX9_keepSurprise_L14b (k n : Nat) (x1 : Int32) (x2 : Int64) (rec : (Int32 × fqS) → Option fqS) (x4 : Int32) (σ : fqS) : Option fqS :=
  (if (8 : Int32) ≤ x4 then (if x1 < 0 ∨ 16 ≤ Int32.toNatClampNeg x1 then none else (fqN (fqPI σ 5 (Int32.toNatClampNeg x1) ((fqI σ 5 (Int32.toNatClampNeg x1)) - (1 : Int32))) (fun σ10 => (if (((8 : Int32) * x1) + (fqI σ10 5 (Int32.toNatClampNeg x1))) < 0 ∨ 128 ≤ Int32.toNatClampNeg (((8 : Int32) * x1) + (fqI σ10 5 (Int32.toNatClampNeg x1))) then none else (fqN (fqPJ σ10 4 (Int32.toNatClampNeg (((8 : Int32) * x1) + (fqI σ10 5 (Int32.toNatClampNeg x1)))) x2) (fun σ13 => (fqN (fqPI σ13 5 (Int32.toNatClampNeg x1) ((fqI σ13 5 (Int32.toNatClampNeg x1)) + (1 : Int32))) (fun σ15 => some σ15)))))))) else (if (((8 : Int32) * x1) + x4) < 0 ∨ 128 ≤ Int32.toNatClampNeg (((8 : Int32) * x1) + x4) then none else (if ((((8 : Int32) * x1) + x4) - (1 : Int32)) < 0 ∨ 128 ≤ Int32.toNatClampNeg ((((8 : Int32) * x1) + x4) - (1 : Int32)) then none else (fqN (fqPJ σ 4 (Int32.toNatClampNeg ((((8 : Int32) * x1) + x4) - (1 : Int32))) (fqJ σ 4 (Int32.toNatClampNeg (((8 : Int32) * x1) + x4)))) (fun σ19 => (rec ((x4 + (1 : Int32)), σ19)))))))
def pX9_keepSurprise_L14 (k n : Nat) (x1 : Int32) (x2 : Int64) : (Int32 × fqS) → Option fqS := fqL (fun rec (s : (Int32 × fqS)) => pX9_keepSurprise_L14b k n x1 x2 rec s.1 s.2) k
def pX9_keepSurprise (k n : Nat) (σ : fqS) (x1 : Int32) (x2 : Int64) : Option fqS :=
  (if x1 < 0 ∨ 16 ≤ Int32.toNatClampNeg x1 then none else (if (fqI σ 5 (Int32.toNatClampNeg x1)) = (8 : Int32) then (pX9_keepSurprise_L14 k n x1 x2 ((1 : Int32), σ)) else (if (((8 : Int32) * x1) + (fqI σ 5 (Int32.toNatClampNeg x1))) < 0 ∨ 128 ≤ Int32.toNatClampNeg (((8 : Int32) * x1) + (fqI σ 5 (Int32.toNatClampNeg x1))) then none else (fqN (fqPJ σ 4 (Int32.toNatClampNeg (((8 : Int32) * x1) + (fqI σ 5 (Int32.toNatClampNeg x1)))) x2) (fun σ4 => (fqN (fqPI σ4 5 (Int32.toNatClampNeg x1) ((fqI σ4 5 (Int32.toNatClampNeg x1)) + (1 : Int32))) (fun σ6 => some σ6)))))))
set_option maxRecDepth 100000 in
set_option maxHeartbeats 4000000 in
theorem tX9_keepSurprise_L14 {k : Nat} {X : fqX} {cy : Nat → ClassId} {ad : Nat → Nat} {n : Nat} {σ' : fqS} {x1 : Int32} {x2 : Int64} (E : fqE X ({ frames := 0, cells := 0, slots := 0, locals := 0 } : Room) cy cX9_keepSurprise 5 wsX9_keepSurprise RX9) (hret : fqR_v X (TM cy) ZM ad n 5 cX9_keepSurprise σ') : ∀ (s : (Int32 × fqS)), pX9_keepSurprise_L14 k n x1 x2 s = some σ' → fqG X (TM cy) ZM ad n 5 0 0 (s.2) 14 [(0, .ref (ad 0)), (1, .int x1), (2, .long x2), (4, .int (s.1))] [] := by
  unfold pX9_keepSurprise_L14
  refine fqL_run (P := fun (s : (Int32 × fqS)) => fqG X (TM cy) ZM ad n 5 0 0 (s.2) 14 [(0, .ref (ad 0)), (1, .int x1), (2, .long x2), (4, .int (s.1))] []) (fun rec s hrec hf => ?_) k
  obtain ⟨x4, σ⟩ := s
  have hf : pX9_keepSurprise_L14b k n x1 x2 rec x4 σ = some σ' := hf
  unfold pX9_keepSurprise_L14b at hf
  show fqG X (TM cy) ZM ad n 5 0 0 σ 14 [(0, .ref (ad 0)), (1, .int x1), (2, .long x2), (4, .int x4)] []
  refine g_iload (pc := 14) E dX9_keepSurprise_14 3 rfl ?_
  refine g_bipush (pc := 16) E (8 : Int32) dX9_keepSurprise_16 (by decide) ?_
  refine g_icmp_ge (pc := 18) E 53 dX9_keepSurprise_18 (by decide) (fun c8 => ?_) (fun c8 => ?_)
  · replace hf := fq_t c8 hf
    refine g_aload_n (pc := 53) E dX9_keepSurprise_53 0 rfl rfl ?_
    refine g_getfield (pc := 54) E uX9_keepSurprise_X9 0 (zm_l (by decide)) (fun _ _ => rfl) rfl 5 (by decide) wX9_keepSurprise_0 (.ref (ad 5)) rfl dX9_keepSurprise_54 ?_
    refine g_iload_n (pc := 57) E dX9_keepSurprise_57 1 rfl rfl ?_
    refine g_dup2_11 (pc := 58) E dX9_keepSurprise_58 rfl rfl ?_
    obtain ⟨h9, hf⟩ := fq_in hf
    refine g_iaload (pc := 59) E 5 (zm_l (by decide)) (fun _ _ => rfl) h9 dX9_keepSurprise_59 ?_
    refine g_iconst (pc := 60) E (1 : Int32) dX9_keepSurprise_60 (by decide) ?_
    refine g_isub (pc := 61) E dX9_keepSurprise_61 ?_
    refine g_iastore (pc := 62) E 5 (zm_l (by decide)) (fun _ _ => rfl) h9 dX9_keepSurprise_62 ?_
    obtain ⟨σ10, e11, hf⟩ := fq_n hf
    refine g_sg e11 ?_
    refine g_aload_n (pc := 63) E dX9_keepSurprise_63 0 rfl rfl ?_
    refine g_getfield (pc := 64) E uX9_keepSurprise_X9 0 (zm_l (by decide)) (fun _ _ => rfl) rfl 4 (by decide) wX9_keepSurprise_2 (.ref (ad 4)) rfl dX9_keepSurprise_64 ?_
    refine g_bipush (pc := 67) E (8 : Int32) dX9_keepSurprise_67 (by decide) ?_
    refine g_iload_n (pc := 69) E dX9_keepSurprise_69 1 rfl rfl ?_
    refine g_imul (pc := 70) E dX9_keepSurprise_70 ?_
    refine g_aload_n (pc := 71) E dX9_keepSurprise_71 0 rfl rfl ?_
    refine g_getfield (pc := 72) E uX9_keepSurprise_X9 0 (zm_l (by decide)) (fun _ _ => rfl) rfl 5 (by decide) wX9_keepSurprise_0 (.ref (ad 5)) rfl dX9_keepSurprise_72 ?_
    refine g_iload_n (pc := 75) E dX9_keepSurprise_75 1 rfl rfl ?_
    refine g_iaload (pc := 76) E 5 (zm_l (by decide)) (fun _ _ => rfl) h9 dX9_keepSurprise_76 ?_
    refine g_iadd (pc := 77) E dX9_keepSurprise_77 ?_
    refine g_lload_n (pc := 78) E dX9_keepSurprise_78 2 rfl rfl ?_
    obtain ⟨h12, hf⟩ := fq_in hf
    refine g_lastore (pc := 79) E 4 (zm_l (by decide)) (fun _ _ => rfl) h12 dX9_keepSurprise_79 ?_
    obtain ⟨σ13, e14, hf⟩ := fq_n hf
    refine g_sg e14 ?_
    refine g_aload_n (pc := 80) E dX9_keepSurprise_80 0 rfl rfl ?_
    refine g_getfield (pc := 81) E uX9_keepSurprise_X9 0 (zm_l (by decide)) (fun _ _ => rfl) rfl 5 (by decide) wX9_keepSurprise_0 (.ref (ad 5)) rfl dX9_keepSurprise_81 ?_
    refine g_iload_n (pc := 84) E dX9_keepSurprise_84 1 rfl rfl ?_
    refine g_dup2_11 (pc := 85) E dX9_keepSurprise_85 rfl rfl ?_
    refine g_iaload (pc := 86) E 5 (zm_l (by decide)) (fun _ _ => rfl) h9 dX9_keepSurprise_86 ?_
    refine g_iconst (pc := 87) E (1 : Int32) dX9_keepSurprise_87 (by decide) ?_
    refine g_iadd (pc := 88) E dX9_keepSurprise_88 ?_
    refine g_iastore (pc := 89) E 5 (zm_l (by decide)) (fun _ _ => rfl) h9 dX9_keepSurprise_89 ?_
    obtain ⟨σ15, e16, hf⟩ := fq_n hf
    refine g_sg e16 ?_
    exact hret _ _ _ dX9_keepSurprise_90 (Option.some.inj hf)
  · replace hf := fq_f c8 hf
    refine g_aload_n (pc := 21) E dX9_keepSurprise_21 0 rfl rfl ?_
    refine g_getfield (pc := 22) E uX9_keepSurprise_X9 0 (zm_l (by decide)) (fun _ _ => rfl) rfl 4 (by decide) wX9_keepSurprise_2 (.ref (ad 4)) rfl dX9_keepSurprise_22 ?_
    refine g_bipush (pc := 25) E (8 : Int32) dX9_keepSurprise_25 (by decide) ?_
    refine g_iload_n (pc := 27) E dX9_keepSurprise_27 1 rfl rfl ?_
    refine g_imul (pc := 28) E dX9_keepSurprise_28 ?_
    refine g_iload (pc := 29) E dX9_keepSurprise_29 3 rfl ?_
    refine g_iadd (pc := 31) E dX9_keepSurprise_31 ?_
    refine g_iconst (pc := 32) E (1 : Int32) dX9_keepSurprise_32 (by decide) ?_
    refine g_isub (pc := 33) E dX9_keepSurprise_33 ?_
    refine g_aload_n (pc := 34) E dX9_keepSurprise_34 0 rfl rfl ?_
    refine g_getfield (pc := 35) E uX9_keepSurprise_X9 0 (zm_l (by decide)) (fun _ _ => rfl) rfl 4 (by decide) wX9_keepSurprise_2 (.ref (ad 4)) rfl dX9_keepSurprise_35 ?_
    refine g_bipush (pc := 38) E (8 : Int32) dX9_keepSurprise_38 (by decide) ?_
    refine g_iload_n (pc := 40) E dX9_keepSurprise_40 1 rfl rfl ?_
    refine g_imul (pc := 41) E dX9_keepSurprise_41 ?_
    refine g_iload (pc := 42) E dX9_keepSurprise_42 3 rfl ?_
    refine g_iadd (pc := 44) E dX9_keepSurprise_44 ?_
    obtain ⟨h17, hf⟩ := fq_in hf
    refine g_laload (pc := 45) E 4 (zm_l (by decide)) (fun _ _ => rfl) h17 dX9_keepSurprise_45 ?_
    obtain ⟨h18, hf⟩ := fq_in hf
    refine g_lastore (pc := 46) E 4 (zm_l (by decide)) (fun _ _ => rfl) h18 dX9_keepSurprise_46 ?_
    obtain ⟨σ19, e20, hf⟩ := fq_n hf
    refine g_sg e20 ?_
    refine g_iinc (pc := 47) E (x4 + (1 : Int32)) [(4, .int (x4 + (1 : Int32))), (0, .ref (ad 0)), (1, .int x1), (2, .long x2)] dX9_keepSurprise_47 3 rfl rfl (by decide) rfl ?_
    refine g_goto (pc := 50) E 14 dX9_keepSurprise_50 (by decide) ?_
    refine g_lv [1, 2, 3, 0] rfl ?_
    exact hrec _ hf
set_option maxRecDepth 100000 in
set_option maxHeartbeats 4000000 in
theorem qX9_keepSurprise (l : Launch) (D : va_G) (cy : Nat → ClassId) (ad : Nat → Nat) (sz n : Nat) (σ : fqS) (k : Nat) (x1 : Int32) (x2 : Int64) {σ' : fqS} (hf : pX9_keepSurprise k n σ x1 x2 = some σ') : Met l yX9_keepSurprise wsX9_keepSurprise ({ frames := 0, cells := 0, slots := 0, locals := 0 } : Room) (fqPc (TM cy) ZM D cy ad sz n σ [.ref (ad 0), .int x1, .long x2]) (fqQv (TM cy) ZM D ad sz n σ σ') 0 0 (fqA (TM cy) ZM ad sz n σ) := by
  refine fq_enter_v (cc := cX9_keepSurprise) (maxL := 5) (own := RX9) _ (by decide) rfl (Nat.le_of_ble_eq_true rfl) rfl (fun X E hret => ?_)
  unfold pX9_keepSurprise at hf
  show fqG X (TM cy) ZM ad n 5 0 0 σ 0 [(0, .ref (ad 0)), (1, .int x1), (2, .long x2)] []
  refine g_aload_n (pc := 0) E dX9_keepSurprise_0 0 rfl rfl ?_
  refine g_getfield (pc := 1) E uX9_keepSurprise_X9 0 (zm_l (by decide)) (fun _ _ => rfl) rfl 5 (by decide) wX9_keepSurprise_0 (.ref (ad 5)) rfl dX9_keepSurprise_1 ?_
  refine g_iload_n (pc := 4) E dX9_keepSurprise_4 1 rfl rfl ?_
  obtain ⟨h1, hf⟩ := fq_in hf
  refine g_iaload (pc := 5) E 5 (zm_l (by decide)) (fun _ _ => rfl) h1 dX9_keepSurprise_5 ?_
  refine g_bipush (pc := 6) E (8 : Int32) dX9_keepSurprise_6 (by decide) ?_
  refine g_icmp_ne (pc := 8) E 63 dX9_keepSurprise_8 (by decide) (fun c2 => ?_) (fun c2 => ?_)
  · replace hf := fq_f c2 hf
    refine g_aload_n (pc := 63) E dX9_keepSurprise_63 0 rfl rfl ?_
    refine g_getfield (pc := 64) E uX9_keepSurprise_X9 0 (zm_l (by decide)) (fun _ _ => rfl) rfl 4 (by decide) wX9_keepSurprise_2 (.ref (ad 4)) rfl dX9_keepSurprise_64 ?_
    refine g_bipush (pc := 67) E (8 : Int32) dX9_keepSurprise_67 (by decide) ?_
    refine g_iload_n (pc := 69) E dX9_keepSurprise_69 1 rfl rfl ?_
    refine g_imul (pc := 70) E dX9_keepSurprise_70 ?_
    refine g_aload_n (pc := 71) E dX9_keepSurprise_71 0 rfl rfl ?_
    refine g_getfield (pc := 72) E uX9_keepSurprise_X9 0 (zm_l (by decide)) (fun _ _ => rfl) rfl 5 (by decide) wX9_keepSurprise_0 (.ref (ad 5)) rfl dX9_keepSurprise_72 ?_
    refine g_iload_n (pc := 75) E dX9_keepSurprise_75 1 rfl rfl ?_
    refine g_iaload (pc := 76) E 5 (zm_l (by decide)) (fun _ _ => rfl) h1 dX9_keepSurprise_76 ?_
    refine g_iadd (pc := 77) E dX9_keepSurprise_77 ?_
    refine g_lload_n (pc := 78) E dX9_keepSurprise_78 2 rfl rfl ?_
    obtain ⟨h3, hf⟩ := fq_in hf
    refine g_lastore (pc := 79) E 4 (zm_l (by decide)) (fun _ _ => rfl) h3 dX9_keepSurprise_79 ?_
    obtain ⟨σ4, e5, hf⟩ := fq_n hf
    refine g_sg e5 ?_
    refine g_aload_n (pc := 80) E dX9_keepSurprise_80 0 rfl rfl ?_
    refine g_getfield (pc := 81) E uX9_keepSurprise_X9 0 (zm_l (by decide)) (fun _ _ => rfl) rfl 5 (by decide) wX9_keepSurprise_0 (.ref (ad 5)) rfl dX9_keepSurprise_81 ?_
    refine g_iload_n (pc := 84) E dX9_keepSurprise_84 1 rfl rfl ?_
    refine g_dup2_11 (pc := 85) E dX9_keepSurprise_85 rfl rfl ?_
    refine g_iaload (pc := 86) E 5 (zm_l (by decide)) (fun _ _ => rfl) h1 dX9_keepSurprise_86 ?_
    refine g_iconst (pc := 87) E (1 : Int32) dX9_keepSurprise_87 (by decide) ?_
    refine g_iadd (pc := 88) E dX9_keepSurprise_88 ?_
    refine g_iastore (pc := 89) E 5 (zm_l (by decide)) (fun _ _ => rfl) h1 dX9_keepSurprise_89 ?_
    obtain ⟨σ6, e7, hf⟩ := fq_n hf
    refine g_sg e7 ?_
    exact hret _ _ _ dX9_keepSurprise_90 (Option.some.inj hf)
  · replace hf := fq_t c2 hf
    refine g_iconst (pc := 11) E (1 : Int32) dX9_keepSurprise_11 (by decide) ?_
    refine g_istore (pc := 12) E [(4, .int (1 : Int32)), (0, .ref (ad 0)), (1, .int x1), (2, .long x2)] dX9_keepSurprise_12 (by decide) rfl ?_
    refine g_lv [1, 2, 3, 0] rfl ?_
    exact tX9_keepSurprise_L14 E hret _ hf

/-! X9_moveTable -/
theorem wX9_moveTable_0 : Cond.constantLong RX9 143 (1000000) ∈ wsX9_moveTable := by decide +kernel
theorem wX9_moveTable_1 : Cond.fieldLink RX9 16 "FairQueueModel" "shares" "[J" ∈ wsX9_moveTable := by decide +kernel
theorem uX9_moveTable_X9 : ∀ w ∈ u_ws RX9 TX9 33, w ∈ wsX9_moveTable := (fun _ h => List.mem_cons_of_mem _ (List.mem_append_right _ h))
theorem wX9_moveTable_3 : Cond.fieldLink RX9 86 "FairQueueModel" "weighed" "[J" ∈ wsX9_moveTable := by decide +kernel
theorem kcX9_moveTable : yX9_moveTable.cls = RX9 ∧ yX9_moveTable.cls ≠ "java/lang/invoke/MethodHandle" ∧ yX9_moveTable.cls ≠ "java/lang/invoke/VarHandle" ∧ (parseMethodDescriptor yX9_moveTable.desc).map (fun d => d.parameters.length) = some 3 := by decide +kernel
def pX9_moveTable_L119b (k n : Nat) (x1 : Int32) (x2 : Int32) (x3 : Int32) (x4 : Int64) (rec : (Int64 × Int32 × Int32 × fqS) → Option fqS) (x6 : Int64) (x8 : Int32) (x9 : Int32) (σ : fqS) : Option fqS :=
  (if (7 : Int32) ≤ x9 then (if (((7 : Int32) * x1) + x8) < 0 ∨ 112 ≤ Int32.toNatClampNeg (((7 : Int32) * x1) + x8) then none else (fqN (fqPJ σ 3 (Int32.toNatClampNeg (((7 : Int32) * x1) + x8)) ((fqJ σ 3 (Int32.toNatClampNeg (((7 : Int32) * x1) + x8))) + x6)) (fun σ5 => some σ5))) else (if x9 < 0 ∨ 7 ≤ Int32.toNatClampNeg x9 then none else (if x4 = 0 then none else (if (((7 : Int32) * x1) + x9) < 0 ∨ 112 ≤ Int32.toNatClampNeg (((7 : Int32) * x1) + x9) then none else (fqN (fqPJ σ 3 (Int32.toNatClampNeg (((7 : Int32) * x1) + x9)) (((fqJ σ 19 (Int32.toNatClampNeg x9)) * (1000000 : Int64)) / x4)) (fun σ10 => (if (((7 : Int32) * x1) + x8) < 0 ∨ 112 ≤ Int32.toNatClampNeg (((7 : Int32) * x1) + x8) then none else (if (((fqJ σ 19 (Int32.toNatClampNeg x9)) * (1000000 : Int64)) / x4) ≤ (fqJ σ10 3 (Int32.toNatClampNeg (((7 : Int32) * x1) + x8))) then (rec ((x6 - (((fqJ σ 19 (Int32.toNatClampNeg x9)) * (1000000 : Int64)) / x4)), x8, (x9 + (1 : Int32)), σ10)) else (rec ((x6 - (((fqJ σ 19 (Int32.toNatClampNeg x9)) * (1000000 : Int64)) / x4)), x9, (x9 + (1 : Int32)), σ10))))))))))
def pX9_moveTable_L119 (k n : Nat) (x1 : Int32) (x2 : Int32) (x3 : Int32) (x4 : Int64) : (Int64 × Int32 × Int32 × fqS) → Option fqS := fqL (fun rec (s : (Int64 × Int32 × Int32 × fqS)) => pX9_moveTable_L119b k n x1 x2 x3 x4 rec s.1 s.2.1 s.2.2.1 s.2.2.2) k
def pX9_moveTable_J58 (k n : Nat) (x1 : Int32) (x2 : Int32) (x3 : Int32) (x4 : Int64) (x6 : Int32) (s0 : Int64) (σ : fqS) (rec6 : (Int64 × Int32 × fqS) → Option fqS) : Option fqS :=
  (if (((7 : Int32) * x1) + x6) < 0 ∨ 112 ≤ Int32.toNatClampNeg (((7 : Int32) * x1) + x6) then none else (if x6 < 0 ∨ 7 ≤ Int32.toNatClampNeg x6 then none else (fqN (fqPJ σ 19 (Int32.toNatClampNeg x6) ((fqJ σ 3 (Int32.toNatClampNeg (((7 : Int32) * x1) + x6))) * s0)) (fun σ20 => (rec6 ((x4 + (fqJ σ20 19 (Int32.toNatClampNeg x6))), (x6 + (1 : Int32)), σ20))))))
def pX9_moveTable_L6b (k n : Nat) (x1 : Int32) (x2 : Int32) (x3 : Int32) (rec : (Int64 × Int32 × fqS) → Option fqS) (x4 : Int64) (x6 : Int32) (σ : fqS) : Option fqS :=
  (if (7 : Int32) ≤ x6 then (if x4 = (0 : Int64) then some σ else (pX9_moveTable_L119 k n x1 x2 x3 x4 ((1000000 : Int64), (0 : Int32), (0 : Int32), σ))) else ((pX9_chanceAt k n σ x6 x3).bind (fun r15 => (if x2 = (2 : Int32) then (pX9_moveTable_J58 k n x1 x2 x3 x4 x6 r15 σ rec) else (if x2 = 0 then (pX9_moveTable_J58 k n x1 x2 x3 x4 x6 ((1000000 : Int64) - r15) σ rec) else (pX9_moveTable_J58 k n x1 x2 x3 x4 x6 ((r15 * ((1000000 : Int64) - r15)) / (1000000 : Int64)) σ rec))))))
def pX9_moveTable_L6 (k n : Nat) (x1 : Int32) (x2 : Int32) (x3 : Int32) : (Int64 × Int32 × fqS) → Option fqS := fqL (fun rec (s : (Int64 × Int32 × fqS)) => pX9_moveTable_L6b k n x1 x2 x3 rec s.1 s.2.1 s.2.2) k
def pX9_moveTable (k n : Nat) (σ : fqS) (x1 : Int32) (x2 : Int32) (x3 : Int32) : Option fqS :=
  (pX9_moveTable_L6 k n x1 x2 x3 ((0 : Int64), (0 : Int32), σ))
set_option maxRecDepth 100000 in
set_option maxHeartbeats 4000000 in
theorem tX9_moveTable_L119 {k : Nat} {X : fqX} {cy : Nat → ClassId} {ad : Nat → Nat} {n : Nat} {σ' : fqS} {x1 : Int32} {x2 : Int32} {x3 : Int32} {x4 : Int64} (E : fqE X ({ frames := 2, cells := 0, slots := 0, locals := 48 } : Room) cy cX9_moveTable 12 wsX9_moveTable RX9) (hret : fqR_v X (TM cy) ZM ad n 12 cX9_moveTable σ') : ∀ (s : (Int64 × Int32 × Int32 × fqS)), pX9_moveTable_L119 k n x1 x2 x3 x4 s = some σ' → fqG X (TM cy) ZM ad n 12 0 0 (s.2.2.2) 119 [(0, .ref (ad 0)), (1, .int x1), (4, .long x4), (6, .long (s.1)), (8, .int (s.2.1)), (9, .int (s.2.2.1))] [] := by
  unfold pX9_moveTable_L119
  refine fqL_run (P := fun (s : (Int64 × Int32 × Int32 × fqS)) => fqG X (TM cy) ZM ad n 12 0 0 (s.2.2.2) 119 [(0, .ref (ad 0)), (1, .int x1), (4, .long x4), (6, .long (s.1)), (8, .int (s.2.1)), (9, .int (s.2.2.1))] []) (fun rec s hrec hf => ?_) k
  obtain ⟨x6, x8, x9, σ⟩ := s
  have hf : pX9_moveTable_L119b k n x1 x2 x3 x4 rec x6 x8 x9 σ = some σ' := hf
  unfold pX9_moveTable_L119b at hf
  show fqG X (TM cy) ZM ad n 12 0 0 σ 119 [(0, .ref (ad 0)), (1, .int x1), (4, .long x4), (6, .long x6), (8, .int x8), (9, .int x9)] []
  refine g_iload (pc := 119) E dX9_moveTable_119 5 rfl ?_
  refine g_bipush (pc := 121) E (7 : Int32) dX9_moveTable_121 (by decide) ?_
  refine g_icmp_ge (pc := 123) E 196 dX9_moveTable_123 (by decide) (fun c3 => ?_) (fun c3 => ?_)
  · replace hf := fq_t c3 hf
    refine g_aload_n (pc := 196) E dX9_moveTable_196 0 rfl rfl ?_
    refine g_getfield (pc := 197) E uX9_moveTable_X9 0 (zm_l (by decide)) (fun _ _ => rfl) rfl 3 (by decide) wX9_moveTable_1 (.ref (ad 3)) rfl dX9_moveTable_197 ?_
    refine g_bipush (pc := 200) E (7 : Int32) dX9_moveTable_200 (by decide) ?_
    refine g_iload_n (pc := 202) E dX9_moveTable_202 1 rfl rfl ?_
    refine g_imul (pc := 203) E dX9_moveTable_203 ?_
    refine g_iload (pc := 204) E dX9_moveTable_204 4 rfl ?_
    refine g_iadd (pc := 206) E dX9_moveTable_206 ?_
    refine g_dup2_11 (pc := 207) E dX9_moveTable_207 rfl rfl ?_
    obtain ⟨h4, hf⟩ := fq_in hf
    refine g_laload (pc := 208) E 3 (zm_l (by decide)) (fun _ _ => rfl) h4 dX9_moveTable_208 ?_
    refine g_lload (pc := 209) E dX9_moveTable_209 3 rfl ?_
    refine g_ladd (pc := 211) E dX9_moveTable_211 ?_
    refine g_lastore (pc := 212) E 3 (zm_l (by decide)) (fun _ _ => rfl) h4 dX9_moveTable_212 ?_
    obtain ⟨σ5, e6, hf⟩ := fq_n hf
    refine g_sg e6 ?_
    exact hret _ _ _ dX9_moveTable_213 (Option.some.inj hf)
  · replace hf := fq_f c3 hf
    refine g_aload_n (pc := 126) E dX9_moveTable_126 0 rfl rfl ?_
    refine g_getfield (pc := 127) E uX9_moveTable_X9 0 (zm_l (by decide)) (fun _ _ => rfl) rfl 32 (by decide) wX9_moveTable_3 (.ref (ad 19)) rfl dX9_moveTable_127 ?_
    refine g_iload (pc := 130) E dX9_moveTable_130 5 rfl ?_
    obtain ⟨h7, hf⟩ := fq_in hf
    refine g_laload (pc := 132) E 19 (zm_l (by decide)) (fun _ _ => rfl) h7 dX9_moveTable_132 ?_
    refine g_ldc2_w (pc := 133) E dX9_moveTable_133 wX9_moveTable_0 ?_
    refine g_lmul (pc := 136) E dX9_moveTable_136 ?_
    refine g_lload (pc := 137) E dX9_moveTable_137 2 rfl ?_
    obtain ⟨h8, hf⟩ := fq_z hf
    refine g_ldiv (pc := 139) E dX9_moveTable_139 h8 ?_
    refine g_lstore (pc := 140) E [(10, .long (((fqJ σ 19 (Int32.toNatClampNeg x9)) * (1000000 : Int64)) / x4)), (0, .ref (ad 0)), (1, .int x1), (4, .long x4), (6, .long x6), (8, .int x8), (9, .int x9)] dX9_moveTable_140 (by decide) rfl ?_
    refine g_aload_n (pc := 142) E dX9_moveTable_142 1 rfl rfl ?_
    refine g_getfield (pc := 143) E uX9_moveTable_X9 0 (zm_l (by decide)) (fun _ _ => rfl) rfl 3 (by decide) wX9_moveTable_1 (.ref (ad 3)) rfl dX9_moveTable_143 ?_
    refine g_bipush (pc := 146) E (7 : Int32) dX9_moveTable_146 (by decide) ?_
    refine g_iload_n (pc := 148) E dX9_moveTable_148 2 rfl rfl ?_
    refine g_imul (pc := 149) E dX9_moveTable_149 ?_
    refine g_iload (pc := 150) E dX9_moveTable_150 6 rfl ?_
    refine g_iadd (pc := 152) E dX9_moveTable_152 ?_
    refine g_lload (pc := 153) E dX9_moveTable_153 0 rfl ?_
    obtain ⟨h9, hf⟩ := fq_in hf
    refine g_lastore (pc := 155) E 3 (zm_l (by decide)) (fun _ _ => rfl) h9 dX9_moveTable_155 ?_
    obtain ⟨σ10, e11, hf⟩ := fq_n hf
    refine g_sg e11 ?_
    refine g_lload (pc := 156) E dX9_moveTable_156 4 rfl ?_
    refine g_lload (pc := 158) E dX9_moveTable_158 0 rfl ?_
    refine g_lsub (pc := 160) E dX9_moveTable_160 ?_
    refine g_lstore (pc := 161) E [(6, .long (x6 - (((fqJ σ 19 (Int32.toNatClampNeg x9)) * (1000000 : Int64)) / x4))), (10, .long (((fqJ σ 19 (Int32.toNatClampNeg x9)) * (1000000 : Int64)) / x4)), (0, .ref (ad 0)), (1, .int x1), (4, .long x4), (8, .int x8), (9, .int x9)] dX9_moveTable_161 (by decide) rfl ?_
    refine g_lload (pc := 163) E dX9_moveTable_163 1 rfl ?_
    refine g_aload_n (pc := 165) E dX9_moveTable_165 2 rfl rfl ?_
    refine g_getfield (pc := 166) E uX9_moveTable_X9 0 (zm_l (by decide)) (fun _ _ => rfl) rfl 3 (by decide) wX9_moveTable_1 (.ref (ad 3)) rfl dX9_moveTable_166 ?_
    refine g_bipush (pc := 169) E (7 : Int32) dX9_moveTable_169 (by decide) ?_
    refine g_iload_n (pc := 171) E dX9_moveTable_171 3 rfl rfl ?_
    refine g_imul (pc := 172) E dX9_moveTable_172 ?_
    refine g_iload (pc := 173) E dX9_moveTable_173 5 rfl ?_
    refine g_iadd (pc := 175) E dX9_moveTable_175 ?_
    obtain ⟨h12, hf⟩ := fq_in hf
    refine g_laload (pc := 176) E 3 (zm_l (by decide)) (fun _ _ => rfl) h12 dX9_moveTable_176 ?_
    refine g_lif_le (pc := 177) E 186 dX9_moveTable_177 dX9_moveTable_178 (by decide) (fun c13 => ?_) (fun c13 => ?_)
    · replace hf := fq_t c13 hf
      refine g_iload (pc := 186) E dX9_moveTable_186 5 rfl ?_
      refine g_istore (pc := 188) E [(8, .int x8), (6, .long (x6 - (((fqJ σ 19 (Int32.toNatClampNeg x9)) * (1000000 : Int64)) / x4))), (10, .long (((fqJ σ 19 (Int32.toNatClampNeg x9)) * (1000000 : Int64)) / x4)), (0, .ref (ad 0)), (1, .int x1), (4, .long x4), (9, .int x9)] dX9_moveTable_188 (by decide) rfl ?_
      refine g_iinc (pc := 190) E (x9 + (1 : Int32)) [(9, .int (x9 + (1 : Int32))), (8, .int x8), (6, .long (x6 - (((fqJ σ 19 (Int32.toNatClampNeg x9)) * (1000000 : Int64)) / x4))), (10, .long (((fqJ σ 19 (Int32.toNatClampNeg x9)) * (1000000 : Int64)) / x4)), (0, .ref (ad 0)), (1, .int x1), (4, .long x4)] dX9_moveTable_190 6 rfl rfl (by decide) rfl ?_
      refine g_goto (pc := 193) E 119 dX9_moveTable_193 (by decide) ?_
      refine g_lv [4, 5, 6, 2, 1, 0] rfl ?_
      exact hrec _ hf
    · replace hf := fq_f c13 hf
      refine g_iload (pc := 181) E dX9_moveTable_181 6 rfl ?_
      refine g_goto (pc := 183) E 188 dX9_moveTable_183 (by decide) ?_
      refine g_istore (pc := 188) E [(8, .int x9), (6, .long (x6 - (((fqJ σ 19 (Int32.toNatClampNeg x9)) * (1000000 : Int64)) / x4))), (10, .long (((fqJ σ 19 (Int32.toNatClampNeg x9)) * (1000000 : Int64)) / x4)), (0, .ref (ad 0)), (1, .int x1), (4, .long x4), (9, .int x9)] dX9_moveTable_188 (by decide) rfl ?_
      refine g_iinc (pc := 190) E (x9 + (1 : Int32)) [(9, .int (x9 + (1 : Int32))), (8, .int x9), (6, .long (x6 - (((fqJ σ 19 (Int32.toNatClampNeg x9)) * (1000000 : Int64)) / x4))), (10, .long (((fqJ σ 19 (Int32.toNatClampNeg x9)) * (1000000 : Int64)) / x4)), (0, .ref (ad 0)), (1, .int x1), (4, .long x4)] dX9_moveTable_190 6 rfl rfl (by decide) rfl ?_
      refine g_goto (pc := 193) E 119 dX9_moveTable_193 (by decide) ?_
      refine g_lv [4, 5, 6, 2, 1, 0] rfl ?_
      exact hrec _ hf
set_option maxRecDepth 100000 in
set_option maxHeartbeats 4000000 in
theorem tX9_moveTable_J58 {k : Nat} {X : fqX} {cy : Nat → ClassId} {ad : Nat → Nat} {n : Nat} {σ' : fqS} {x1 : Int32} {x2 : Int32} {x3 : Int32} {x4 : Int64} {x6 : Int32} {s0 : Int64} {σ : fqS} (E : fqE X ({ frames := 2, cells := 0, slots := 0, locals := 48 } : Room) cy cX9_moveTable 12 wsX9_moveTable RX9) (hret : fqR_v X (TM cy) ZM ad n 12 cX9_moveTable σ') {rec6 : (Int64 × Int32 × fqS) → Option fqS} (hrec6 : ∀ (s : (Int64 × Int32 × fqS)), rec6 s = some σ' → fqG X (TM cy) ZM ad n 12 0 0 (s.2.2) 6 [(0, .ref (ad 0)), (1, .int x1), (2, .int x2), (3, .int x3), (4, .long (s.1)), (6, .int (s.2.1))] []) (hf : pX9_moveTable_J58 k n x1 x2 x3 x4 x6 s0 σ rec6 = some σ') : fqG X (TM cy) ZM ad n 12 0 0 σ 58 [(0, .ref (ad 0)), (1, .int x1), (2, .int x2), (3, .int x3), (4, .long x4), (6, .int x6)] [.long s0] := by
  unfold pX9_moveTable_J58 at hf
  refine g_lstore (pc := 58) E [(9, .long s0), (0, .ref (ad 0)), (1, .int x1), (2, .int x2), (3, .int x3), (4, .long x4), (6, .int x6)] dX9_moveTable_58 (by decide) rfl ?_
  refine g_aload_n (pc := 60) E dX9_moveTable_60 1 rfl rfl ?_
  refine g_getfield (pc := 61) E uX9_moveTable_X9 0 (zm_l (by decide)) (fun _ _ => rfl) rfl 32 (by decide) wX9_moveTable_3 (.ref (ad 19)) rfl dX9_moveTable_61 ?_
  refine g_iload (pc := 64) E dX9_moveTable_64 6 rfl ?_
  refine g_aload_n (pc := 66) E dX9_moveTable_66 1 rfl rfl ?_
  refine g_getfield (pc := 67) E uX9_moveTable_X9 0 (zm_l (by decide)) (fun _ _ => rfl) rfl 3 (by decide) wX9_moveTable_1 (.ref (ad 3)) rfl dX9_moveTable_67 ?_
  refine g_bipush (pc := 70) E (7 : Int32) dX9_moveTable_70 (by decide) ?_
  refine g_iload_n (pc := 72) E dX9_moveTable_72 2 rfl rfl ?_
  refine g_imul (pc := 73) E dX9_moveTable_73 ?_
  refine g_iload (pc := 74) E dX9_moveTable_74 6 rfl ?_
  refine g_iadd (pc := 76) E dX9_moveTable_76 ?_
  obtain ⟨h18, hf⟩ := fq_in hf
  refine g_laload (pc := 77) E 3 (zm_l (by decide)) (fun _ _ => rfl) h18 dX9_moveTable_77 ?_
  refine g_lload (pc := 78) E dX9_moveTable_78 0 rfl ?_
  refine g_lmul (pc := 80) E dX9_moveTable_80 ?_
  obtain ⟨h19, hf⟩ := fq_in hf
  refine g_lastore (pc := 81) E 19 (zm_l (by decide)) (fun _ _ => rfl) h19 dX9_moveTable_81 ?_
  obtain ⟨σ20, e21, hf⟩ := fq_n hf
  refine g_sg e21 ?_
  refine g_lload (pc := 82) E dX9_moveTable_82 5 rfl ?_
  refine g_aload_n (pc := 84) E dX9_moveTable_84 1 rfl rfl ?_
  refine g_getfield (pc := 85) E uX9_moveTable_X9 0 (zm_l (by decide)) (fun _ _ => rfl) rfl 32 (by decide) wX9_moveTable_3 (.ref (ad 19)) rfl dX9_moveTable_85 ?_
  refine g_iload (pc := 88) E dX9_moveTable_88 6 rfl ?_
  refine g_laload (pc := 90) E 19 (zm_l (by decide)) (fun _ _ => rfl) h19 dX9_moveTable_90 ?_
  refine g_ladd (pc := 91) E dX9_moveTable_91 ?_
  refine g_lstore (pc := 92) E [(4, .long (x4 + (fqJ σ20 19 (Int32.toNatClampNeg x6)))), (9, .long s0), (0, .ref (ad 0)), (1, .int x1), (2, .int x2), (3, .int x3), (6, .int x6)] dX9_moveTable_92 (by decide) rfl ?_
  refine g_iinc (pc := 94) E (x6 + (1 : Int32)) [(6, .int (x6 + (1 : Int32))), (4, .long (x4 + (fqJ σ20 19 (Int32.toNatClampNeg x6)))), (9, .long s0), (0, .ref (ad 0)), (1, .int x1), (2, .int x2), (3, .int x3)] dX9_moveTable_94 6 rfl rfl (by decide) rfl ?_
  refine g_goto (pc := 97) E 6 dX9_moveTable_97 (by decide) ?_
  refine g_lv [3, 4, 5, 6, 1, 0] rfl ?_
  exact hrec6 _ hf
set_option maxRecDepth 100000 in
set_option maxHeartbeats 4000000 in
theorem tX9_moveTable_L6 {k : Nat} {X : fqX} {cy : Nat → ClassId} {ad : Nat → Nat} {n : Nat} {σ' : fqS} {x1 : Int32} {x2 : Int32} {x3 : Int32} (E : fqE X ({ frames := 2, cells := 0, slots := 0, locals := 48 } : Room) cy cX9_moveTable 12 wsX9_moveTable RX9) (hret : fqR_v X (TM cy) ZM ad n 12 cX9_moveTable σ') : ∀ (s : (Int64 × Int32 × fqS)), pX9_moveTable_L6 k n x1 x2 x3 s = some σ' → fqG X (TM cy) ZM ad n 12 0 0 (s.2.2) 6 [(0, .ref (ad 0)), (1, .int x1), (2, .int x2), (3, .int x3), (4, .long (s.1)), (6, .int (s.2.1))] [] := by
  unfold pX9_moveTable_L6
  refine fqL_run (P := fun (s : (Int64 × Int32 × fqS)) => fqG X (TM cy) ZM ad n 12 0 0 (s.2.2) 6 [(0, .ref (ad 0)), (1, .int x1), (2, .int x2), (3, .int x3), (4, .long (s.1)), (6, .int (s.2.1))] []) (fun rec s hrec hf => ?_) k
  obtain ⟨x4, x6, σ⟩ := s
  have hf : pX9_moveTable_L6b k n x1 x2 x3 rec x4 x6 σ = some σ' := hf
  unfold pX9_moveTable_L6b at hf
  show fqG X (TM cy) ZM ad n 12 0 0 σ 6 [(0, .ref (ad 0)), (1, .int x1), (2, .int x2), (3, .int x3), (4, .long x4), (6, .int x6)] []
  refine g_iload (pc := 6) E dX9_moveTable_6 5 rfl ?_
  refine g_bipush (pc := 8) E (7 : Int32) dX9_moveTable_8 (by decide) ?_
  refine g_icmp_ge (pc := 10) E 100 dX9_moveTable_10 (by decide) (fun c1 => ?_) (fun c1 => ?_)
  · replace hf := fq_t c1 hf
    refine g_lload (pc := 100) E dX9_moveTable_100 4 rfl ?_
    refine g_lconst (pc := 102) E (0 : Int64) dX9_moveTable_102 (by decide) ?_
    refine g_lif_ne (pc := 103) E 108 dX9_moveTable_103 dX9_moveTable_104 (by decide) (fun c2 => ?_) (fun c2 => ?_)
    · replace hf := fq_f c2 hf
      refine g_ldc2_w (pc := 108) E dX9_moveTable_108 wX9_moveTable_0 ?_
      refine g_lstore (pc := 111) E [(6, .long (1000000 : Int64)), (0, .ref (ad 0)), (1, .int x1), (2, .int x2), (3, .int x3), (4, .long x4)] dX9_moveTable_111 (by decide) rfl ?_
      refine g_iconst (pc := 113) E (0 : Int32) dX9_moveTable_113 (by decide) ?_
      refine g_istore (pc := 114) E [(8, .int (0 : Int32)), (6, .long (1000000 : Int64)), (0, .ref (ad 0)), (1, .int x1), (2, .int x2), (3, .int x3), (4, .long x4)] dX9_moveTable_114 (by decide) rfl ?_
      refine g_iconst (pc := 116) E (0 : Int32) dX9_moveTable_116 (by decide) ?_
      refine g_istore (pc := 117) E [(9, .int (0 : Int32)), (8, .int (0 : Int32)), (6, .long (1000000 : Int64)), (0, .ref (ad 0)), (1, .int x1), (2, .int x2), (3, .int x3), (4, .long x4)] dX9_moveTable_117 (by decide) rfl ?_
      refine g_lv [3, 4, 7, 2, 1, 0] rfl ?_
      exact tX9_moveTable_L119 E hret _ hf
    · replace hf := fq_t c2 hf
      exact hret _ _ _ dX9_moveTable_107 (Option.some.inj hf)
  · replace hf := fq_f c1 hf
    refine g_aload_n (pc := 13) E dX9_moveTable_13 0 rfl rfl ?_
    refine g_iload (pc := 14) E dX9_moveTable_14 5 rfl ?_
    refine g_iload_n (pc := 16) E dX9_moveTable_16 3 rfl rfl ?_
    obtain ⟨r15, e14, hf⟩ := fq_b hf
    refine g_callVl (pc := 17) E 0 (zm_l (by decide)) (fun _ _ => rfl) rfl [.int x6, .int x3] (fun l D sz => qX9_chanceAt l D cy ad sz n σ k x6 x3 e14) gX9_moveTable_X9_chanceAt rfl rfl rfl kcX9_chanceAt ⟨by decide, by decide⟩ rfl rfl (Nat.le_of_ble_eq_true rfl) dX9_moveTable_17 ⟨by decide, by decide⟩ ?_
    refine g_lstore (pc := 20) E [(7, .long r15), (0, .ref (ad 0)), (1, .int x1), (2, .int x2), (3, .int x3), (4, .long x4), (6, .int x6)] dX9_moveTable_20 (by decide) rfl ?_
    refine g_iload_n (pc := 22) E dX9_moveTable_22 3 rfl rfl ?_
    refine g_iconst (pc := 23) E (2 : Int32) dX9_moveTable_23 (by decide) ?_
    refine g_icmp_ne (pc := 24) E 32 dX9_moveTable_24 (by decide) (fun c16 => ?_) (fun c16 => ?_)
    · replace hf := fq_f c16 hf
      refine g_iload_n (pc := 32) E dX9_moveTable_32 3 rfl rfl ?_
      refine g_if_ne (pc := 33) E 45 dX9_moveTable_33 (by decide) (fun c17 => ?_) (fun c17 => ?_)
      · replace hf := fq_f c17 hf
        refine g_lload (pc := 45) E dX9_moveTable_45 0 rfl ?_
        refine g_ldc2_w (pc := 47) E dX9_moveTable_47 wX9_moveTable_0 ?_
        refine g_lload (pc := 50) E dX9_moveTable_50 0 rfl ?_
        refine g_lsub (pc := 52) E dX9_moveTable_52 ?_
        refine g_lmul (pc := 53) E dX9_moveTable_53 ?_
        refine g_ldc2_w (pc := 54) E dX9_moveTable_54 wX9_moveTable_0 ?_
        refine g_ldiv (pc := 57) E dX9_moveTable_57 (by decide) ?_
        refine g_lv [1, 2, 3, 4, 5, 6] rfl ?_
        exact tX9_moveTable_J58 E hret hrec hf
      · replace hf := fq_t c17 hf
        refine g_ldc2_w (pc := 36) E dX9_moveTable_36 wX9_moveTable_0 ?_
        refine g_lload (pc := 39) E dX9_moveTable_39 0 rfl ?_
        refine g_lsub (pc := 41) E dX9_moveTable_41 ?_
        refine g_goto (pc := 42) E 58 dX9_moveTable_42 (by decide) ?_
        refine g_lv [1, 2, 3, 4, 5, 6] rfl ?_
        exact tX9_moveTable_J58 E hret hrec hf
    · replace hf := fq_t c16 hf
      refine g_lload (pc := 27) E dX9_moveTable_27 0 rfl ?_
      refine g_goto (pc := 29) E 58 dX9_moveTable_29 (by decide) ?_
      refine g_lv [1, 2, 3, 4, 5, 6] rfl ?_
      exact tX9_moveTable_J58 E hret hrec hf
set_option maxRecDepth 100000 in
set_option maxHeartbeats 4000000 in
theorem qX9_moveTable (l : Launch) (D : va_G) (cy : Nat → ClassId) (ad : Nat → Nat) (sz n : Nat) (σ : fqS) (k : Nat) (x1 : Int32) (x2 : Int32) (x3 : Int32) {σ' : fqS} (hf : pX9_moveTable k n σ x1 x2 x3 = some σ') : Met l yX9_moveTable wsX9_moveTable ({ frames := 2, cells := 0, slots := 0, locals := 48 } : Room) (fqPc (TM cy) ZM D cy ad sz n σ [.ref (ad 0), .int x1, .int x2, .int x3]) (fqQv (TM cy) ZM D ad sz n σ σ') 0 0 (fqA (TM cy) ZM ad sz n σ) := by
  refine fq_enter_v (cc := cX9_moveTable) (maxL := 12) (own := RX9) _ (by decide) rfl (Nat.le_of_ble_eq_true rfl) rfl (fun X E hret => ?_)
  unfold pX9_moveTable at hf
  show fqG X (TM cy) ZM ad n 12 0 0 σ 0 [(0, .ref (ad 0)), (1, .int x1), (2, .int x2), (3, .int x3)] []
  refine g_lconst (pc := 0) E (0 : Int64) dX9_moveTable_0 (by decide) ?_
  refine g_lstore (pc := 1) E [(4, .long (0 : Int64)), (0, .ref (ad 0)), (1, .int x1), (2, .int x2), (3, .int x3)] dX9_moveTable_1 (by decide) rfl ?_
  refine g_iconst (pc := 3) E (0 : Int32) dX9_moveTable_3 (by decide) ?_
  refine g_istore (pc := 4) E [(6, .int (0 : Int32)), (4, .long (0 : Int64)), (0, .ref (ad 0)), (1, .int x1), (2, .int x2), (3, .int x3)] dX9_moveTable_4 (by decide) rfl ?_
  refine g_lv [2, 3, 4, 5, 1, 0] rfl ?_
  exact tX9_moveTable_L6 E hret _ hf

/-! X9_takeResult -/
theorem wX9_takeResult_0 : Cond.constantLong RX9 223 (500000) ∈ wsX9_takeResult := by decide +kernel
theorem wX9_takeResult_1 : Cond.fieldLink RX9 13 "FairQueueModel" "kindOf" "[I" ∈ wsX9_takeResult := by decide +kernel
theorem uX9_takeResult_X9 : ∀ w ∈ u_ws RX9 TX9 33, w ∈ wsX9_takeResult := (fun _ h => List.mem_cons_of_mem _ (List.mem_append_right _ h))
theorem kcX9_takeResult : yX9_takeResult.cls = RX9 ∧ yX9_takeResult.cls ≠ "java/lang/invoke/MethodHandle" ∧ yX9_takeResult.cls ≠ "java/lang/invoke/VarHandle" ∧ (parseMethodDescriptor yX9_takeResult.desc).map (fun d => d.parameters.length) = some 3 := by decide +kernel
def pX9_takeResult (k n : Nat) (σ : fqS) (x1 : Int32) (x2 : Int32) (x3 : Int32) : Option (Int32 × fqS) :=
  ((pX9_undoubted k n σ x3).bind (fun r2 => (if r2 = 0 then some ((0 : Int32), σ) else ((pX9_chanceOf k n σ x1 r2).bind (fun r5 => ((pX9_keepSurprise k n σ x1 (((500000 : Int64) * (Int32.toInt64 x2)) - r5)).bind (fun σ7 => ((pX9_moveTable k n σ7 x1 x2 r2).bind (fun σ9 => (if x1 < 0 ∨ 16 ≤ Int32.toNatClampNeg x1 then none else (if (fqI σ9 2 (Int32.toNatClampNeg x1)) = (1 : Int32) then ((pX9_moveTable k n σ9 x1 x2 r2).bind (fun σ13 => some ((1 : Int32), σ13))) else some ((1 : Int32), σ9))))))))))))
set_option maxRecDepth 100000 in
set_option maxHeartbeats 4000000 in
theorem qX9_takeResult (l : Launch) (D : va_G) (cy : Nat → ClassId) (ad : Nat → Nat) (sz n : Nat) (σ : fqS) (k : Nat) (x1 : Int32) (x2 : Int32) (x3 : Int32) {r : Int32} {σ' : fqS} (hf : pX9_takeResult k n σ x1 x2 x3 = some (r, σ')) : Met l yX9_takeResult wsX9_takeResult ({ frames := 3, cells := 0, slots := 0, locals := 79 } : Room) (fqPc (TM cy) ZM D cy ad sz n σ [.ref (ad 0), .int x1, .int x2, .int x3]) (fqQi (TM cy) ZM D ad sz n σ r σ') 0 0 (fqA (TM cy) ZM ad sz n σ) := by
  refine fq_enter_z (cc := cX9_takeResult) (maxL := 5) (own := RX9) _ (by decide) rfl (Nat.le_of_ble_eq_true rfl) rfl (fun X E hret => ?_)
  unfold pX9_takeResult at hf
  show fqG X (TM cy) ZM ad n 5 0 0 σ 0 [(0, .ref (ad 0)), (1, .int x1), (2, .int x2), (3, .int x3)] []
  refine g_aload_n (pc := 0) E dX9_takeResult_0 0 rfl rfl ?_
  refine g_iload_n (pc := 1) E dX9_takeResult_1 3 rfl rfl ?_
  obtain ⟨r2, e1, hf⟩ := fq_b hf
  refine g_callVi (pc := 2) E 0 (zm_l (by decide)) (fun _ _ => rfl) rfl [.int x3] (fun l D sz => qX9_undoubted l D cy ad sz n σ k x3 e1) gX9_takeResult_X9_undoubted rfl rfl rfl kcX9_undoubted ⟨by decide, by decide⟩ rfl rfl (Nat.le_of_ble_eq_true rfl) dX9_takeResult_2 ⟨by decide, by decide⟩ ?_
  refine g_istore (pc := 5) E [(4, .int r2), (0, .ref (ad 0)), (1, .int x1), (2, .int x2), (3, .int x3)] dX9_takeResult_5 (by decide) rfl ?_
  refine g_iload (pc := 7) E dX9_takeResult_7 0 rfl ?_
  refine g_if_ne (pc := 9) E 14 dX9_takeResult_9 (by decide) (fun c3 => ?_) (fun c3 => ?_)
  · replace hf := fq_f c3 hf
    refine g_aload_n (pc := 14) E dX9_takeResult_14 1 rfl rfl ?_
    refine g_iload_n (pc := 15) E dX9_takeResult_15 2 rfl rfl ?_
    refine g_ldc2_w (pc := 16) E dX9_takeResult_16 wX9_takeResult_0 ?_
    refine g_iload_n (pc := 19) E dX9_takeResult_19 3 rfl rfl ?_
    refine g_i2l (pc := 20) E dX9_takeResult_20 ?_
    refine g_lmul (pc := 21) E dX9_takeResult_21 ?_
    refine g_aload_n (pc := 22) E dX9_takeResult_22 1 rfl rfl ?_
    refine g_iload_n (pc := 23) E dX9_takeResult_23 2 rfl rfl ?_
    refine g_iload (pc := 24) E dX9_takeResult_24 0 rfl ?_
    obtain ⟨r5, e4, hf⟩ := fq_b hf
    refine g_callVl (pc := 26) E 0 (zm_l (by decide)) (fun _ _ => rfl) rfl [.int x1, .int r2] (fun l D sz => qX9_chanceOf l D cy ad sz n σ k x1 r2 e4) gX9_takeResult_X9_chanceOf rfl rfl rfl kcX9_chanceOf ⟨by decide, by decide⟩ rfl rfl (Nat.le_of_ble_eq_true rfl) dX9_takeResult_26 ⟨by decide, by decide⟩ ?_
    refine g_lsub (pc := 29) E dX9_takeResult_29 ?_
    obtain ⟨σ7, e6, hf⟩ := fq_b hf
    refine g_callVv (pc := 30) E 0 (zm_l (by decide)) (fun _ _ => rfl) rfl [.int x1, .long (((500000 : Int64) * (Int32.toInt64 x2)) - r5)] (fun l D sz => qX9_keepSurprise l D cy ad sz n σ k x1 (((500000 : Int64) * (Int32.toInt64 x2)) - r5) e6) gX9_takeResult_X9_keepSurprise rfl rfl rfl kcX9_keepSurprise ⟨by decide, by decide⟩ rfl rfl (Nat.le_of_ble_eq_true rfl) dX9_takeResult_30 ⟨by decide, by decide⟩ ?_
    refine g_aload_n (pc := 33) E dX9_takeResult_33 1 rfl rfl ?_
    refine g_iload_n (pc := 34) E dX9_takeResult_34 2 rfl rfl ?_
    refine g_iload_n (pc := 35) E dX9_takeResult_35 3 rfl rfl ?_
    refine g_iload (pc := 36) E dX9_takeResult_36 0 rfl ?_
    obtain ⟨σ9, e8, hf⟩ := fq_b hf
    refine g_callVv (pc := 38) E 0 (zm_l (by decide)) (fun _ _ => rfl) rfl [.int x1, .int x2, .int r2] (fun l D sz => qX9_moveTable l D cy ad sz n σ7 k x1 x2 r2 e8) gX9_takeResult_X9_moveTable rfl rfl rfl kcX9_moveTable ⟨by decide, by decide⟩ rfl rfl (Nat.le_of_ble_eq_true rfl) dX9_takeResult_38 ⟨by decide, by decide⟩ ?_
    refine g_aload_n (pc := 41) E dX9_takeResult_41 1 rfl rfl ?_
    refine g_getfield (pc := 42) E uX9_takeResult_X9 0 (zm_l (by decide)) (fun _ _ => rfl) rfl 2 (by decide) wX9_takeResult_1 (.ref (ad 2)) rfl dX9_takeResult_42 ?_
    refine g_iload_n (pc := 45) E dX9_takeResult_45 2 rfl rfl ?_
    obtain ⟨h10, hf⟩ := fq_in hf
    refine g_iaload (pc := 46) E 2 (zm_l (by decide)) (fun _ _ => rfl) h10 dX9_takeResult_46 ?_
    refine g_iconst (pc := 47) E (1 : Int32) dX9_takeResult_47 (by decide) ?_
    refine g_icmp_ne (pc := 48) E 59 dX9_takeResult_48 (by decide) (fun c11 => ?_) (fun c11 => ?_)
    · replace hf := fq_f c11 hf
      refine g_iconst (pc := 59) E (1 : Int32) dX9_takeResult_59 (by decide) ?_
      exact hret _ _ _ _ rfl dX9_takeResult_60 (Option.some.inj hf)
    · replace hf := fq_t c11 hf
      refine g_aload_n (pc := 51) E dX9_takeResult_51 1 rfl rfl ?_
      refine g_iload_n (pc := 52) E dX9_takeResult_52 2 rfl rfl ?_
      refine g_iload_n (pc := 53) E dX9_takeResult_53 3 rfl rfl ?_
      refine g_iload (pc := 54) E dX9_takeResult_54 0 rfl ?_
      obtain ⟨σ13, e12, hf⟩ := fq_b hf
      refine g_callVv (pc := 56) E 0 (zm_l (by decide)) (fun _ _ => rfl) rfl [.int x1, .int x2, .int r2] (fun l D sz => qX9_moveTable l D cy ad sz n σ9 k x1 x2 r2 e12) gX9_takeResult_X9_moveTable rfl rfl rfl kcX9_moveTable ⟨by decide, by decide⟩ rfl rfl (Nat.le_of_ble_eq_true rfl) dX9_takeResult_56 ⟨by decide, by decide⟩ ?_
      refine g_iconst (pc := 59) E (1 : Int32) dX9_takeResult_59 (by decide) ?_
      exact hret _ _ _ _ rfl dX9_takeResult_60 (Option.some.inj hf)
  · replace hf := fq_t c3 hf
    refine g_iconst (pc := 12) E (0 : Int32) dX9_takeResult_12 (by decide) ?_
    exact hret _ _ _ _ rfl dX9_takeResult_13 (Option.some.inj hf)

/-! X9_endMatch -/
theorem wX9_endMatch_0 : Cond.fieldLink RX9 94 "FairQueueModel" "players" "I" ∈ wsX9_endMatch := by decide +kernel
theorem uX9_endMatch_X9 : ∀ w ∈ u_ws RX9 TX9 33, w ∈ wsX9_endMatch := (fun _ h => List.mem_cons_of_mem _ (List.mem_append_right _ h))
theorem wX9_endMatch_2 : Cond.fieldLink RX9 48 "FairQueueModel" "goesOn" "[Z" ∈ wsX9_endMatch := by decide +kernel
theorem wX9_endMatch_3 : Cond.fieldLink RX9 237 "FairQueueModel" "ended" "I" ∈ wsX9_endMatch := by decide +kernel
theorem wX9_endMatch_4 : Cond.fieldLink RX9 52 "FairQueueModel" "firstOf" "[I" ∈ wsX9_endMatch := by decide +kernel
theorem wX9_endMatch_5 : Cond.fieldLink RX9 55 "FairQueueModel" "secondOf" "[I" ∈ wsX9_endMatch := by decide +kernel
theorem wX9_endMatch_6 : Cond.fieldLink RX9 58 "FairQueueModel" "dropped" "[I" ∈ wsX9_endMatch := by decide +kernel
theorem kcX9_endMatch : yX9_endMatch.cls = RX9 ∧ yX9_endMatch.cls ≠ "java/lang/invoke/MethodHandle" ∧ yX9_endMatch.cls ≠ "java/lang/invoke/VarHandle" ∧ (parseMethodDescriptor yX9_endMatch.desc).map (fun d => d.parameters.length) = some 2 := by decide +kernel
def pX9_endMatch_J102 (k n : Nat) (x1 : Int32) (x2 : Int32) (x4 : Int32) (x5 : Int32) (s0 : Int32) (s2 : Int32) (s3 : Int32) (σ : fqS) (rec9 : (Int32 × Int32 × fqS) → Option (Int32 × fqS)) : Option (Int32 × fqS) :=
  (if x5 = 0 then (if x1 < 0 ∨ 5 ≤ Int32.toNatClampNeg x1 then none else (fqB2 (pX9_takeResult k n σ s2 s3 (fqI σ 9 (Int32.toNatClampNeg x1))) (fun r19 σ20 => (if r19 = 0 then (rec9 ((s0 + (0 : Int32)), (x4 + (1 : Int32)), σ20)) else (rec9 ((s0 + (1 : Int32)), (x4 + (1 : Int32)), σ20)))))) else (if x1 < 0 ∨ 5 ≤ Int32.toNatClampNeg x1 then none else (fqB2 (pX9_takeResult k n σ s2 s3 (fqI σ 10 (Int32.toNatClampNeg x1))) (fun r24 σ25 => (if r24 = 0 then (rec9 ((s0 + (0 : Int32)), (x4 + (1 : Int32)), σ25)) else (rec9 ((s0 + (1 : Int32)), (x4 + (1 : Int32)), σ25)))))))
def pX9_endMatch_J60 (k n : Nat) (x1 : Int32) (x2 : Int32) (x3 : Int32) (x4 : Int32) (x5 : Int32) (s0 : Int32) (σ : fqS) (rec9 : (Int32 × Int32 × fqS) → Option (Int32 × fqS)) : Option (Int32 × fqS) :=
  (if x5 = 0 then (if s0 = 0 then (rec9 (x3, (x4 + (1 : Int32)), σ)) else (if x1 < 0 ∨ 5 ≤ Int32.toNatClampNeg x1 then none else (if (((fqI σ 11 (Int32.toNatClampNeg x1)) >>> (x4 &&& 31)) &&& (1 : Int32)) = 0 then (if x5 = 0 then (pX9_endMatch_J102 k n x1 x2 x4 x5 x3 x4 ((2 : Int32) - x2) σ rec9) else (pX9_endMatch_J102 k n x1 x2 x4 x5 x3 x4 x2 σ rec9)) else (rec9 (x3, (x4 + (1 : Int32)), σ))))) else (if x1 < 0 ∨ 5 ≤ Int32.toNatClampNeg x1 then none else (if (((fqI σ 11 (Int32.toNatClampNeg x1)) >>> (x4 &&& 31)) &&& (1 : Int32)) = 0 then (if x5 = 0 then (pX9_endMatch_J102 k n x1 x2 x4 x5 x3 x4 ((2 : Int32) - x2) σ rec9) else (pX9_endMatch_J102 k n x1 x2 x4 x5 x3 x4 x2 σ rec9)) else (rec9 (x3, (x4 + (1 : Int32)), σ)))))
def pX9_endMatch_L9b (k n : Nat) (x1 : Int32) (x2 : Int32) (rec : (Int32 × Int32 × fqS) → Option (Int32 × fqS)) (x3 : Int32) (x4 : Int32) (σ : fqS) : Option (Int32 × fqS) :=
  (if (fqI σ 0 1) ≤ x4 then (if x1 < 0 ∨ 5 ≤ Int32.toNatClampNeg x1 then none else (fqN (fqPI σ 8 (Int32.toNatClampNeg x1) (0 : Int32)) (fun σ5 => (fqN (fqPI σ5 0 19 ((fqI σ5 0 19) + (1 : Int32))) (fun σ7 => some (x3, σ7)))))) else (if x1 < 0 ∨ 5 ≤ Int32.toNatClampNeg x1 then none else (if (((fqI σ 9 (Int32.toNatClampNeg x1)) >>> (x4 &&& 31)) &&& (1 : Int32)) = (1 : Int32) then (if (((fqI σ 10 (Int32.toNatClampNeg x1)) >>> (x4 &&& 31)) &&& (1 : Int32)) = (1 : Int32) then (pX9_endMatch_J60 k n x1 x2 x3 x4 (1 : Int32) (1 : Int32) σ rec) else (pX9_endMatch_J60 k n x1 x2 x3 x4 (1 : Int32) (0 : Int32) σ rec)) else (if (((fqI σ 10 (Int32.toNatClampNeg x1)) >>> (x4 &&& 31)) &&& (1 : Int32)) = (1 : Int32) then (pX9_endMatch_J60 k n x1 x2 x3 x4 (0 : Int32) (1 : Int32) σ rec) else (pX9_endMatch_J60 k n x1 x2 x3 x4 (0 : Int32) (0 : Int32) σ rec)))))
def pX9_endMatch_L9 (k n : Nat) (x1 : Int32) (x2 : Int32) : (Int32 × Int32 × fqS) → Option (Int32 × fqS) := fqL (fun rec (s : (Int32 × Int32 × fqS)) => pX9_endMatch_L9b k n x1 x2 rec s.1 s.2.1 s.2.2) k
def pX9_endMatch (k n : Nat) (σ : fqS) (x1 : Int32) (x2 : Int32) : Option (Int32 × fqS) :=
  ((pX9_layAside k n σ).bind (fun σ2 => (pX9_endMatch_L9 k n x1 x2 ((0 : Int32), (0 : Int32), σ2))))
set_option maxRecDepth 100000 in
set_option maxHeartbeats 4000000 in
theorem tX9_endMatch_J102 {k : Nat} {X : fqX} {cy : Nat → ClassId} {ad : Nat → Nat} {n : Nat} {r : Int32} {σ' : fqS} {x1 : Int32} {x2 : Int32} {x4 : Int32} {x5 : Int32} {s0 : Int32} {s2 : Int32} {s3 : Int32} {σ : fqS} (E : fqE X ({ frames := 4, cells := 0, slots := 0, locals := 103 } : Room) cy cX9_endMatch 7 wsX9_endMatch RX9) (hret : fqR_i X (TM cy) ZM ad n 7 cX9_endMatch r σ') {rec9 : (Int32 × Int32 × fqS) → Option (Int32 × fqS)} (hrec9 : ∀ (s : (Int32 × Int32 × fqS)), rec9 s = some (r, σ') → fqG X (TM cy) ZM ad n 7 0 0 (s.2.2) 9 [(0, .ref (ad 0)), (1, .int x1), (2, .int x2), (3, .int (s.1)), (4, .int (s.2.1))] []) (hf : pX9_endMatch_J102 k n x1 x2 x4 x5 s0 s2 s3 σ rec9 = some (r, σ')) : fqG X (TM cy) ZM ad n 7 0 0 σ 102 [(0, .ref (ad 0)), (1, .int x1), (2, .int x2), (4, .int x4), (5, .int x5)] [.int s3, .int s2, .ref (ad 0), .int s0] := by
  unfold pX9_endMatch_J102 at hf
  refine g_iload (pc := 102) E dX9_endMatch_102 4 rfl ?_
  refine g_if_eq (pc := 104) E 116 dX9_endMatch_104 (by decide) (fun c16 => ?_) (fun c16 => ?_)
  · replace hf := fq_t c16 hf
    refine g_aload_n (pc := 116) E dX9_endMatch_116 0 rfl rfl ?_
    refine g_getfield (pc := 117) E uX9_endMatch_X9 0 (zm_l (by decide)) (fun _ _ => rfl) rfl 15 (by decide) wX9_endMatch_4 (.ref (ad 9)) rfl dX9_endMatch_117 ?_
    refine g_iload_n (pc := 120) E dX9_endMatch_120 1 rfl rfl ?_
    obtain ⟨h17, hf⟩ := fq_in hf
    refine g_iaload (pc := 121) E 9 (zm_l (by decide)) (fun _ _ => rfl) h17 dX9_endMatch_121 ?_
    obtain ⟨r19, σ20, e18, hf⟩ := fq_b2 hf
    refine g_callVi (pc := 122) E 0 (zm_l (by decide)) (fun _ _ => rfl) rfl [.int s2, .int s3, .int (fqI σ 9 (Int32.toNatClampNeg x1))] (fun l D sz => qX9_takeResult l D cy ad sz n σ k s2 s3 (fqI σ 9 (Int32.toNatClampNeg x1)) e18) gX9_endMatch_X9_takeResult rfl rfl rfl kcX9_takeResult ⟨by decide, by decide⟩ rfl rfl (Nat.le_of_ble_eq_true rfl) dX9_endMatch_122 ⟨by decide, by decide⟩ ?_
    refine g_if_eq (pc := 125) E 132 dX9_endMatch_125 (by decide) (fun c21 => ?_) (fun c21 => ?_)
    · replace hf := fq_t c21 hf
      refine g_iconst (pc := 132) E (0 : Int32) dX9_endMatch_132 (by decide) ?_
      refine g_iadd (pc := 133) E dX9_endMatch_133 ?_
      refine g_istore_n (pc := 134) E [(3, .int (s0 + (0 : Int32))), (0, .ref (ad 0)), (1, .int x1), (2, .int x2), (4, .int x4), (5, .int x5)] dX9_endMatch_134 rfl (by decide) rfl ?_
      refine g_iinc (pc := 135) E (x4 + (1 : Int32)) [(4, .int (x4 + (1 : Int32))), (3, .int (s0 + (0 : Int32))), (0, .ref (ad 0)), (1, .int x1), (2, .int x2), (5, .int x5)] dX9_endMatch_135 4 rfl rfl (by decide) rfl ?_
      refine g_goto (pc := 138) E 9 dX9_endMatch_138 (by decide) ?_
      refine g_lv [2, 3, 4, 1, 0] rfl ?_
      exact hrec9 _ hf
    · replace hf := fq_f c21 hf
      refine g_iconst (pc := 128) E (1 : Int32) dX9_endMatch_128 (by decide) ?_
      refine g_goto (pc := 129) E 133 dX9_endMatch_129 (by decide) ?_
      refine g_iadd (pc := 133) E dX9_endMatch_133 ?_
      refine g_istore_n (pc := 134) E [(3, .int (s0 + (1 : Int32))), (0, .ref (ad 0)), (1, .int x1), (2, .int x2), (4, .int x4), (5, .int x5)] dX9_endMatch_134 rfl (by decide) rfl ?_
      refine g_iinc (pc := 135) E (x4 + (1 : Int32)) [(4, .int (x4 + (1 : Int32))), (3, .int (s0 + (1 : Int32))), (0, .ref (ad 0)), (1, .int x1), (2, .int x2), (5, .int x5)] dX9_endMatch_135 4 rfl rfl (by decide) rfl ?_
      refine g_goto (pc := 138) E 9 dX9_endMatch_138 (by decide) ?_
      refine g_lv [2, 3, 4, 1, 0] rfl ?_
      exact hrec9 _ hf
  · replace hf := fq_f c16 hf
    refine g_aload_n (pc := 107) E dX9_endMatch_107 0 rfl rfl ?_
    refine g_getfield (pc := 108) E uX9_endMatch_X9 0 (zm_l (by decide)) (fun _ _ => rfl) rfl 16 (by decide) wX9_endMatch_5 (.ref (ad 10)) rfl dX9_endMatch_108 ?_
    refine g_iload_n (pc := 111) E dX9_endMatch_111 1 rfl rfl ?_
    obtain ⟨h22, hf⟩ := fq_in hf
    refine g_iaload (pc := 112) E 10 (zm_l (by decide)) (fun _ _ => rfl) h22 dX9_endMatch_112 ?_
    refine g_goto (pc := 113) E 122 dX9_endMatch_113 (by decide) ?_
    obtain ⟨r24, σ25, e23, hf⟩ := fq_b2 hf
    refine g_callVi (pc := 122) E 0 (zm_l (by decide)) (fun _ _ => rfl) rfl [.int s2, .int s3, .int (fqI σ 10 (Int32.toNatClampNeg x1))] (fun l D sz => qX9_takeResult l D cy ad sz n σ k s2 s3 (fqI σ 10 (Int32.toNatClampNeg x1)) e23) gX9_endMatch_X9_takeResult rfl rfl rfl kcX9_takeResult ⟨by decide, by decide⟩ rfl rfl (Nat.le_of_ble_eq_true rfl) dX9_endMatch_122 ⟨by decide, by decide⟩ ?_
    refine g_if_eq (pc := 125) E 132 dX9_endMatch_125 (by decide) (fun c26 => ?_) (fun c26 => ?_)
    · replace hf := fq_t c26 hf
      refine g_iconst (pc := 132) E (0 : Int32) dX9_endMatch_132 (by decide) ?_
      refine g_iadd (pc := 133) E dX9_endMatch_133 ?_
      refine g_istore_n (pc := 134) E [(3, .int (s0 + (0 : Int32))), (0, .ref (ad 0)), (1, .int x1), (2, .int x2), (4, .int x4), (5, .int x5)] dX9_endMatch_134 rfl (by decide) rfl ?_
      refine g_iinc (pc := 135) E (x4 + (1 : Int32)) [(4, .int (x4 + (1 : Int32))), (3, .int (s0 + (0 : Int32))), (0, .ref (ad 0)), (1, .int x1), (2, .int x2), (5, .int x5)] dX9_endMatch_135 4 rfl rfl (by decide) rfl ?_
      refine g_goto (pc := 138) E 9 dX9_endMatch_138 (by decide) ?_
      refine g_lv [2, 3, 4, 1, 0] rfl ?_
      exact hrec9 _ hf
    · replace hf := fq_f c26 hf
      refine g_iconst (pc := 128) E (1 : Int32) dX9_endMatch_128 (by decide) ?_
      refine g_goto (pc := 129) E 133 dX9_endMatch_129 (by decide) ?_
      refine g_iadd (pc := 133) E dX9_endMatch_133 ?_
      refine g_istore_n (pc := 134) E [(3, .int (s0 + (1 : Int32))), (0, .ref (ad 0)), (1, .int x1), (2, .int x2), (4, .int x4), (5, .int x5)] dX9_endMatch_134 rfl (by decide) rfl ?_
      refine g_iinc (pc := 135) E (x4 + (1 : Int32)) [(4, .int (x4 + (1 : Int32))), (3, .int (s0 + (1 : Int32))), (0, .ref (ad 0)), (1, .int x1), (2, .int x2), (5, .int x5)] dX9_endMatch_135 4 rfl rfl (by decide) rfl ?_
      refine g_goto (pc := 138) E 9 dX9_endMatch_138 (by decide) ?_
      refine g_lv [2, 3, 4, 1, 0] rfl ?_
      exact hrec9 _ hf
set_option maxRecDepth 100000 in
set_option maxHeartbeats 4000000 in
theorem tX9_endMatch_J60 {k : Nat} {X : fqX} {cy : Nat → ClassId} {ad : Nat → Nat} {n : Nat} {r : Int32} {σ' : fqS} {x1 : Int32} {x2 : Int32} {x3 : Int32} {x4 : Int32} {x5 : Int32} {s0 : Int32} {σ : fqS} (E : fqE X ({ frames := 4, cells := 0, slots := 0, locals := 103 } : Room) cy cX9_endMatch 7 wsX9_endMatch RX9) (hret : fqR_i X (TM cy) ZM ad n 7 cX9_endMatch r σ') {rec9 : (Int32 × Int32 × fqS) → Option (Int32 × fqS)} (hrec9 : ∀ (s : (Int32 × Int32 × fqS)), rec9 s = some (r, σ') → fqG X (TM cy) ZM ad n 7 0 0 (s.2.2) 9 [(0, .ref (ad 0)), (1, .int x1), (2, .int x2), (3, .int (s.1)), (4, .int (s.2.1))] []) (hf : pX9_endMatch_J60 k n x1 x2 x3 x4 x5 s0 σ rec9 = some (r, σ')) : fqG X (TM cy) ZM ad n 7 0 0 σ 60 [(0, .ref (ad 0)), (1, .int x1), (2, .int x2), (3, .int x3), (4, .int x4), (5, .int x5)] [.int s0] := by
  unfold pX9_endMatch_J60 at hf
  refine g_istore (pc := 60) E [(6, .int s0), (0, .ref (ad 0)), (1, .int x1), (2, .int x2), (3, .int x3), (4, .int x4), (5, .int x5)] dX9_endMatch_60 (by decide) rfl ?_
  refine g_iload (pc := 62) E dX9_endMatch_62 6 rfl ?_
  refine g_if_ne (pc := 64) E 72 dX9_endMatch_64 (by decide) (fun c12 => ?_) (fun c12 => ?_)
  · replace hf := fq_f c12 hf
    refine g_aload_n (pc := 72) E dX9_endMatch_72 1 rfl rfl ?_
    refine g_getfield (pc := 73) E uX9_endMatch_X9 0 (zm_l (by decide)) (fun _ _ => rfl) rfl 17 (by decide) wX9_endMatch_6 (.ref (ad 11)) rfl dX9_endMatch_73 ?_
    refine g_iload_n (pc := 76) E dX9_endMatch_76 2 rfl rfl ?_
    obtain ⟨h13, hf⟩ := fq_in hf
    refine g_iaload (pc := 77) E 11 (zm_l (by decide)) (fun _ _ => rfl) h13 dX9_endMatch_77 ?_
    refine g_iload (pc := 78) E dX9_endMatch_78 5 rfl ?_
    refine g_ishr (pc := 80) E dX9_endMatch_80 ?_
    refine g_iconst (pc := 81) E (1 : Int32) dX9_endMatch_81 (by decide) ?_
    refine g_iand (pc := 82) E dX9_endMatch_82 ?_
    refine g_if_ne (pc := 83) E 135 dX9_endMatch_83 (by decide) (fun c14 => ?_) (fun c14 => ?_)
    · replace hf := fq_f c14 hf
      refine g_iinc (pc := 135) E (x4 + (1 : Int32)) [(4, .int (x4 + (1 : Int32))), (6, .int s0), (0, .ref (ad 0)), (1, .int x1), (2, .int x2), (3, .int x3), (5, .int x5)] dX9_endMatch_135 5 rfl rfl (by decide) rfl ?_
      refine g_goto (pc := 138) E 9 dX9_endMatch_138 (by decide) ?_
      refine g_lv [2, 3, 4, 5, 0] rfl ?_
      exact hrec9 _ hf
    · replace hf := fq_t c14 hf
      refine g_iload_n (pc := 86) E dX9_endMatch_86 4 rfl rfl ?_
      refine g_aload_n (pc := 87) E dX9_endMatch_87 1 rfl rfl ?_
      refine g_iload (pc := 88) E dX9_endMatch_88 5 rfl ?_
      refine g_iload (pc := 90) E dX9_endMatch_90 6 rfl ?_
      refine g_if_eq (pc := 92) E 99 dX9_endMatch_92 (by decide) (fun c15 => ?_) (fun c15 => ?_)
      · replace hf := fq_t c15 hf
        refine g_iconst (pc := 99) E (2 : Int32) dX9_endMatch_99 (by decide) ?_
        refine g_iload_n (pc := 100) E dX9_endMatch_100 3 rfl rfl ?_
        refine g_isub (pc := 101) E dX9_endMatch_101 ?_
        refine g_lv [1, 2, 3, 5, 6] rfl ?_
        exact tX9_endMatch_J102 E hret hrec9 hf
      · replace hf := fq_f c15 hf
        refine g_iload_n (pc := 95) E dX9_endMatch_95 3 rfl rfl ?_
        refine g_goto (pc := 96) E 102 dX9_endMatch_96 (by decide) ?_
        refine g_lv [1, 2, 3, 5, 6] rfl ?_
        exact tX9_endMatch_J102 E hret hrec9 hf
  · replace hf := fq_t c12 hf
    refine g_iload (pc := 67) E dX9_endMatch_67 0 rfl ?_
    refine g_if_eq (pc := 69) E 135 dX9_endMatch_69 (by decide) (fun c27 => ?_) (fun c27 => ?_)
    · replace hf := fq_t c27 hf
      refine g_iinc (pc := 135) E (x4 + (1 : Int32)) [(4, .int (x4 + (1 : Int32))), (6, .int s0), (0, .ref (ad 0)), (1, .int x1), (2, .int x2), (3, .int x3), (5, .int x5)] dX9_endMatch_135 5 rfl rfl (by decide) rfl ?_
      refine g_goto (pc := 138) E 9 dX9_endMatch_138 (by decide) ?_
      refine g_lv [2, 3, 4, 5, 0] rfl ?_
      exact hrec9 _ hf
    · replace hf := fq_f c27 hf
      refine g_aload_n (pc := 72) E dX9_endMatch_72 1 rfl rfl ?_
      refine g_getfield (pc := 73) E uX9_endMatch_X9 0 (zm_l (by decide)) (fun _ _ => rfl) rfl 17 (by decide) wX9_endMatch_6 (.ref (ad 11)) rfl dX9_endMatch_73 ?_
      refine g_iload_n (pc := 76) E dX9_endMatch_76 2 rfl rfl ?_
      obtain ⟨h28, hf⟩ := fq_in hf
      refine g_iaload (pc := 77) E 11 (zm_l (by decide)) (fun _ _ => rfl) h28 dX9_endMatch_77 ?_
      refine g_iload (pc := 78) E dX9_endMatch_78 5 rfl ?_
      refine g_ishr (pc := 80) E dX9_endMatch_80 ?_
      refine g_iconst (pc := 81) E (1 : Int32) dX9_endMatch_81 (by decide) ?_
      refine g_iand (pc := 82) E dX9_endMatch_82 ?_
      refine g_if_ne (pc := 83) E 135 dX9_endMatch_83 (by decide) (fun c29 => ?_) (fun c29 => ?_)
      · replace hf := fq_f c29 hf
        refine g_iinc (pc := 135) E (x4 + (1 : Int32)) [(4, .int (x4 + (1 : Int32))), (6, .int s0), (0, .ref (ad 0)), (1, .int x1), (2, .int x2), (3, .int x3), (5, .int x5)] dX9_endMatch_135 5 rfl rfl (by decide) rfl ?_
        refine g_goto (pc := 138) E 9 dX9_endMatch_138 (by decide) ?_
        refine g_lv [2, 3, 4, 5, 0] rfl ?_
        exact hrec9 _ hf
      · replace hf := fq_t c29 hf
        refine g_iload_n (pc := 86) E dX9_endMatch_86 4 rfl rfl ?_
        refine g_aload_n (pc := 87) E dX9_endMatch_87 1 rfl rfl ?_
        refine g_iload (pc := 88) E dX9_endMatch_88 5 rfl ?_
        refine g_iload (pc := 90) E dX9_endMatch_90 6 rfl ?_
        refine g_if_eq (pc := 92) E 99 dX9_endMatch_92 (by decide) (fun c30 => ?_) (fun c30 => ?_)
        · replace hf := fq_t c30 hf
          refine g_iconst (pc := 99) E (2 : Int32) dX9_endMatch_99 (by decide) ?_
          refine g_iload_n (pc := 100) E dX9_endMatch_100 3 rfl rfl ?_
          refine g_isub (pc := 101) E dX9_endMatch_101 ?_
          refine g_lv [1, 2, 3, 5, 6] rfl ?_
          exact tX9_endMatch_J102 E hret hrec9 hf
        · replace hf := fq_f c30 hf
          refine g_iload_n (pc := 95) E dX9_endMatch_95 3 rfl rfl ?_
          refine g_goto (pc := 96) E 102 dX9_endMatch_96 (by decide) ?_
          refine g_lv [1, 2, 3, 5, 6] rfl ?_
          exact tX9_endMatch_J102 E hret hrec9 hf
set_option maxRecDepth 100000 in
set_option maxHeartbeats 4000000 in
theorem tX9_endMatch_L9 {k : Nat} {X : fqX} {cy : Nat → ClassId} {ad : Nat → Nat} {n : Nat} {r : Int32} {σ' : fqS} {x1 : Int32} {x2 : Int32} (E : fqE X ({ frames := 4, cells := 0, slots := 0, locals := 103 } : Room) cy cX9_endMatch 7 wsX9_endMatch RX9) (hret : fqR_i X (TM cy) ZM ad n 7 cX9_endMatch r σ') : ∀ (s : (Int32 × Int32 × fqS)), pX9_endMatch_L9 k n x1 x2 s = some (r, σ') → fqG X (TM cy) ZM ad n 7 0 0 (s.2.2) 9 [(0, .ref (ad 0)), (1, .int x1), (2, .int x2), (3, .int (s.1)), (4, .int (s.2.1))] [] := by
  unfold pX9_endMatch_L9
  refine fqL_run (P := fun (s : (Int32 × Int32 × fqS)) => fqG X (TM cy) ZM ad n 7 0 0 (s.2.2) 9 [(0, .ref (ad 0)), (1, .int x1), (2, .int x2), (3, .int (s.1)), (4, .int (s.2.1))] []) (fun rec s hrec hf => ?_) k
  obtain ⟨x3, x4, σ⟩ := s
  have hf : pX9_endMatch_L9b k n x1 x2 rec x3 x4 σ = some (r, σ') := hf
  unfold pX9_endMatch_L9b at hf
  show fqG X (TM cy) ZM ad n 7 0 0 σ 9 [(0, .ref (ad 0)), (1, .int x1), (2, .int x2), (3, .int x3), (4, .int x4)] []
  refine g_iload (pc := 9) E dX9_endMatch_9 4 rfl ?_
  refine g_aload_n (pc := 11) E dX9_endMatch_11 0 rfl rfl ?_
  refine g_getfield (pc := 12) E uX9_endMatch_X9 0 (zm_l (by decide)) (fun _ _ => rfl) rfl 1 (by decide) wX9_endMatch_0 (.int (fqI σ 0 1)) rfl dX9_endMatch_12 ?_
  refine g_icmp_ge (pc := 15) E 141 dX9_endMatch_15 (by decide) (fun c3 => ?_) (fun c3 => ?_)
  · replace hf := fq_t c3 hf
    refine g_aload_n (pc := 141) E dX9_endMatch_141 0 rfl rfl ?_
    refine g_getfield (pc := 142) E uX9_endMatch_X9 0 (zm_l (by decide)) (fun _ _ => rfl) rfl 14 (by decide) wX9_endMatch_2 (.ref (ad 8)) rfl dX9_endMatch_142 ?_
    refine g_iload_n (pc := 145) E dX9_endMatch_145 1 rfl rfl ?_
    refine g_iconst (pc := 146) E (0 : Int32) dX9_endMatch_146 (by decide) ?_
    obtain ⟨h4, hf⟩ := fq_in hf
    refine g_bastore (pc := 147) E 8 (zm_l (by decide)) (fun _ _ => rfl) (by decide) h4 dX9_endMatch_147 ?_
    obtain ⟨σ5, e6, hf⟩ := fq_n hf
    refine g_sg e6 ?_
    refine g_aload_n (pc := 148) E dX9_endMatch_148 0 rfl rfl ?_
    refine g_dup (pc := 149) E dX9_endMatch_149 rfl ?_
    refine g_getfield (pc := 150) E uX9_endMatch_X9 0 (zm_l (by decide)) (fun _ _ => rfl) rfl 19 (by decide) wX9_endMatch_3 (.int (fqI σ5 0 19)) rfl dX9_endMatch_150 ?_
    refine g_iconst (pc := 153) E (1 : Int32) dX9_endMatch_153 (by decide) ?_
    refine g_iadd (pc := 154) E dX9_endMatch_154 ?_
    refine g_putI (pc := 155) E uX9_endMatch_X9 tyX9 tyX9_ok nmX9 0 (zm_l (by decide)) (fun _ _ => rfl) rfl 19 (by decide) wX9_endMatch_3 rfl rfl (Nat.le_of_ble_eq_true rfl) rfl dX9_endMatch_155 ?_
    obtain ⟨σ7, e8, hf⟩ := fq_n hf
    refine g_sg e8 ?_
    refine g_iload_n (pc := 158) E dX9_endMatch_158 3 rfl rfl ?_
    exact hret _ _ _ _ dX9_endMatch_159 (Option.some.inj hf)
  · replace hf := fq_f c3 hf
    refine g_aload_n (pc := 18) E dX9_endMatch_18 0 rfl rfl ?_
    refine g_getfield (pc := 19) E uX9_endMatch_X9 0 (zm_l (by decide)) (fun _ _ => rfl) rfl 15 (by decide) wX9_endMatch_4 (.ref (ad 9)) rfl dX9_endMatch_19 ?_
    refine g_iload_n (pc := 22) E dX9_endMatch_22 1 rfl rfl ?_
    obtain ⟨h9, hf⟩ := fq_in hf
    refine g_iaload (pc := 23) E 9 (zm_l (by decide)) (fun _ _ => rfl) h9 dX9_endMatch_23 ?_
    refine g_iload (pc := 24) E dX9_endMatch_24 4 rfl ?_
    refine g_ishr (pc := 26) E dX9_endMatch_26 ?_
    refine g_iconst (pc := 27) E (1 : Int32) dX9_endMatch_27 (by decide) ?_
    refine g_iand (pc := 28) E dX9_endMatch_28 ?_
    refine g_iconst (pc := 29) E (1 : Int32) dX9_endMatch_29 (by decide) ?_
    refine g_icmp_ne (pc := 30) E 37 dX9_endMatch_30 (by decide) (fun c10 => ?_) (fun c10 => ?_)
    · replace hf := fq_f c10 hf
      refine g_iconst (pc := 37) E (0 : Int32) dX9_endMatch_37 (by decide) ?_
      refine g_istore (pc := 38) E [(5, .int (0 : Int32)), (0, .ref (ad 0)), (1, .int x1), (2, .int x2), (3, .int x3), (4, .int x4)] dX9_endMatch_38 (by decide) rfl ?_
      refine g_aload_n (pc := 40) E dX9_endMatch_40 1 rfl rfl ?_
      refine g_getfield (pc := 41) E uX9_endMatch_X9 0 (zm_l (by decide)) (fun _ _ => rfl) rfl 16 (by decide) wX9_endMatch_5 (.ref (ad 10)) rfl dX9_endMatch_41 ?_
      refine g_iload_n (pc := 44) E dX9_endMatch_44 2 rfl rfl ?_
      refine g_iaload (pc := 45) E 10 (zm_l (by decide)) (fun _ _ => rfl) h9 dX9_endMatch_45 ?_
      refine g_iload (pc := 46) E dX9_endMatch_46 5 rfl ?_
      refine g_ishr (pc := 48) E dX9_endMatch_48 ?_
      refine g_iconst (pc := 49) E (1 : Int32) dX9_endMatch_49 (by decide) ?_
      refine g_iand (pc := 50) E dX9_endMatch_50 ?_
      refine g_iconst (pc := 51) E (1 : Int32) dX9_endMatch_51 (by decide) ?_
      refine g_icmp_ne (pc := 52) E 59 dX9_endMatch_52 (by decide) (fun c11 => ?_) (fun c11 => ?_)
      · replace hf := fq_f c11 hf
        refine g_iconst (pc := 59) E (0 : Int32) dX9_endMatch_59 (by decide) ?_
        refine g_lv [1, 2, 3, 4, 5, 0] rfl ?_
        exact tX9_endMatch_J60 E hret hrec hf
      · replace hf := fq_t c11 hf
        refine g_iconst (pc := 55) E (1 : Int32) dX9_endMatch_55 (by decide) ?_
        refine g_goto (pc := 56) E 60 dX9_endMatch_56 (by decide) ?_
        refine g_lv [1, 2, 3, 4, 5, 0] rfl ?_
        exact tX9_endMatch_J60 E hret hrec hf
    · replace hf := fq_t c10 hf
      refine g_iconst (pc := 33) E (1 : Int32) dX9_endMatch_33 (by decide) ?_
      refine g_goto (pc := 34) E 38 dX9_endMatch_34 (by decide) ?_
      refine g_istore (pc := 38) E [(5, .int (1 : Int32)), (0, .ref (ad 0)), (1, .int x1), (2, .int x2), (3, .int x3), (4, .int x4)] dX9_endMatch_38 (by decide) rfl ?_
      refine g_aload_n (pc := 40) E dX9_endMatch_40 1 rfl rfl ?_
      refine g_getfield (pc := 41) E uX9_endMatch_X9 0 (zm_l (by decide)) (fun _ _ => rfl) rfl 16 (by decide) wX9_endMatch_5 (.ref (ad 10)) rfl dX9_endMatch_41 ?_
      refine g_iload_n (pc := 44) E dX9_endMatch_44 2 rfl rfl ?_
      refine g_iaload (pc := 45) E 10 (zm_l (by decide)) (fun _ _ => rfl) h9 dX9_endMatch_45 ?_
      refine g_iload (pc := 46) E dX9_endMatch_46 5 rfl ?_
      refine g_ishr (pc := 48) E dX9_endMatch_48 ?_
      refine g_iconst (pc := 49) E (1 : Int32) dX9_endMatch_49 (by decide) ?_
      refine g_iand (pc := 50) E dX9_endMatch_50 ?_
      refine g_iconst (pc := 51) E (1 : Int32) dX9_endMatch_51 (by decide) ?_
      refine g_icmp_ne (pc := 52) E 59 dX9_endMatch_52 (by decide) (fun c31 => ?_) (fun c31 => ?_)
      · replace hf := fq_f c31 hf
        refine g_iconst (pc := 59) E (0 : Int32) dX9_endMatch_59 (by decide) ?_
        refine g_lv [1, 2, 3, 4, 5, 0] rfl ?_
        exact tX9_endMatch_J60 E hret hrec hf
      · replace hf := fq_t c31 hf
        refine g_iconst (pc := 55) E (1 : Int32) dX9_endMatch_55 (by decide) ?_
        refine g_goto (pc := 56) E 60 dX9_endMatch_56 (by decide) ?_
        refine g_lv [1, 2, 3, 4, 5, 0] rfl ?_
        exact tX9_endMatch_J60 E hret hrec hf
set_option maxRecDepth 100000 in
set_option maxHeartbeats 4000000 in
theorem qX9_endMatch (l : Launch) (D : va_G) (cy : Nat → ClassId) (ad : Nat → Nat) (sz n : Nat) (σ : fqS) (k : Nat) (x1 : Int32) (x2 : Int32) {r : Int32} {σ' : fqS} (hf : pX9_endMatch k n σ x1 x2 = some (r, σ')) : Met l yX9_endMatch wsX9_endMatch ({ frames := 4, cells := 0, slots := 0, locals := 103 } : Room) (fqPc (TM cy) ZM D cy ad sz n σ [.ref (ad 0), .int x1, .int x2]) (fqQi (TM cy) ZM D ad sz n σ r σ') 0 0 (fqA (TM cy) ZM ad sz n σ) := by
  refine fq_enter_i (cc := cX9_endMatch) (maxL := 7) (own := RX9) _ (by decide) rfl (Nat.le_of_ble_eq_true rfl) rfl (fun X E hret => ?_)
  unfold pX9_endMatch at hf
  show fqG X (TM cy) ZM ad n 7 0 0 σ 0 [(0, .ref (ad 0)), (1, .int x1), (2, .int x2)] []
  refine g_aload_n (pc := 0) E dX9_endMatch_0 0 rfl rfl ?_
  obtain ⟨σ2, e1, hf⟩ := fq_b hf
  refine g_callVv (pc := 1) E 0 (zm_l (by decide)) (fun _ _ => rfl) rfl [] (fun l D sz => qX9_layAside l D cy ad sz n σ k e1) gX9_endMatch_X9_layAside rfl rfl rfl kcX9_layAside ⟨by decide, by decide⟩ rfl rfl (Nat.le_of_ble_eq_true rfl) dX9_endMatch_1 ⟨by decide, by decide⟩ ?_
  refine g_iconst (pc := 4) E (0 : Int32) dX9_endMatch_4 (by decide) ?_
  refine g_istore_n (pc := 5) E [(3, .int (0 : Int32)), (0, .ref (ad 0)), (1, .int x1), (2, .int x2)] dX9_endMatch_5 rfl (by decide) rfl ?_
  refine g_iconst (pc := 6) E (0 : Int32) dX9_endMatch_6 (by decide) ?_
  refine g_istore (pc := 7) E [(4, .int (0 : Int32)), (3, .int (0 : Int32)), (0, .ref (ad 0)), (1, .int x1), (2, .int x2)] dX9_endMatch_7 (by decide) rfl ?_
  refine g_lv [2, 3, 4, 1, 0] rfl ?_
  exact tX9_endMatch_L9 E hret _ hf
