/-! X9_size -/
theorem wX9_size_0 : Cond.constantLong RX9 157 (3) ∈ wsX9_size := by decide +kernel
theorem wX9_size_1 : Cond.constantLong RX9 155 (-1000000003) ∈ wsX9_size := by decide +kernel
theorem wX9_size_2 : Cond.fieldLink RX9 159 "FairQueueModel" "parties" "I" ∈ wsX9_size := by decide +kernel
theorem uX9_size_X9 : ∀ w ∈ u_ws RX9 TX9 33, w ∈ wsX9_size := (fun _ h => List.mem_cons_of_mem _ (List.mem_append_right _ h))
theorem wX9_size_4 : Cond.fieldLink RX9 26 "FairQueueModel" "teamSize" "I" ∈ wsX9_size := by decide +kernel
theorem wX9_size_5 : Cond.constantLong RX9 109 (-1000000001) ∈ wsX9_size := by decide +kernel
theorem kcX9_size : yX9_size.cls = RX9 ∧ yX9_size.cls ≠ "java/lang/invoke/MethodHandle" ∧ yX9_size.cls ≠ "java/lang/invoke/VarHandle" ∧ (parseMethodDescriptor yX9_size.desc).map (fun d => d.parameters.length) = some 1 := by decide +kernel
def pX9_size (k n : Nat) (σ : fqS) (x1 : Int32) : Option (Int64 × fqS) :=
  ((pX9_in k n σ (Int32.toInt64 x1) (1 : Int64) (3 : Int64)).bind (fun r2 => (if r2 = 0 then (fqB2 (pX9_finding k n σ (-1000000001 : Int64)) (fun r17 σ18 => some (r17, σ18))) else ((pX9_somePlays k n σ).bind (fun r5 => (if r5 = 0 then (if (fqI σ 0 11) ≤ 0 then (fqN (fqPI σ 0 6 x1) (fun σ11 => some ((Int32.toInt64 (fqI σ 0 6)), σ11))) else (fqB2 (pX9_finding k n σ (-1000000003 : Int64)) (fun r14 σ15 => some (r14, σ15)))) else (fqB2 (pX9_finding k n σ (-1000000003 : Int64)) (fun r8 σ9 => some (r8, σ9)))))))))
set_option maxRecDepth 100000 in
set_option maxHeartbeats 4000000 in
theorem qX9_size (l : Launch) (D : va_G) (cy : Nat → ClassId) (ad : Nat → Nat) (sz n : Nat) (σ : fqS) (k : Nat) (x1 : Int32) {r : Int64} {σ' : fqS} (hf : pX9_size k n σ x1 = some (r, σ')) : Met l yX9_size wsX9_size ({ frames := 1, cells := 0, slots := 0, locals := 25 } : Room) (fqPc (TM cy) ZM D cy ad sz n σ [.ref (ad 0), .int x1]) (fqQl (TM cy) ZM D ad sz n σ r σ') 0 0 (fqA (TM cy) ZM ad sz n σ) := by
  refine fq_enter_l (cc := cX9_size) (maxL := 3) (own := RX9) _ (by decide) rfl (Nat.le_of_ble_eq_true rfl) rfl (fun X E hret => ?_)
  unfold pX9_size at hf
  show fqG X (TM cy) ZM ad n 3 0 0 σ 0 [(0, .ref (ad 0)), (1, .int x1)] []
  refine g_iload_n (pc := 0) E dX9_size_0 1 rfl rfl ?_
  refine g_i2l (pc := 1) E dX9_size_1 ?_
  refine g_lconst (pc := 2) E (1 : Int64) dX9_size_2 (by decide) ?_
  refine g_ldc2_w (pc := 3) E dX9_size_3 wX9_size_0 ?_
  obtain ⟨r2, e1, hf⟩ := fq_b hf
  refine g_callSi (pc := 6) E [.long (Int32.toInt64 x1), .long (1 : Int64), .long (3 : Int64)] (fun l D sz => qX9_in l D cy ad sz n σ k (Int32.toInt64 x1) (1 : Int64) (3 : Int64) e1) gX9_size_X9_in rfl rfl rfl kcX9_in ⟨by decide, by decide⟩ rfl rfl (Nat.le_of_ble_eq_true rfl) dX9_size_6 ⟨by decide, by decide⟩ ?_
  refine g_if_ne (pc := 9) E 20 dX9_size_9 (by decide) (fun c3 => ?_) (fun c3 => ?_)
  · replace hf := fq_f c3 hf
    refine g_aload_n (pc := 20) E dX9_size_20 0 rfl rfl ?_
    obtain ⟨r5, e4, hf⟩ := fq_b hf
    refine g_callVi (pc := 21) E 0 (zm_l (by decide)) (fun _ _ => rfl) rfl [] (fun l D sz => qX9_somePlays l D cy ad sz n σ k e4) gX9_size_X9_somePlays rfl rfl rfl kcX9_somePlays ⟨by decide, by decide⟩ rfl rfl (Nat.le_of_ble_eq_true rfl) dX9_size_21 ⟨by decide, by decide⟩ ?_
    refine g_if_ne (pc := 24) E 34 dX9_size_24 (by decide) (fun c6 => ?_) (fun c6 => ?_)
    · replace hf := fq_f c6 hf
      refine g_aload_n (pc := 34) E dX9_size_34 0 rfl rfl ?_
      refine g_ldc2_w (pc := 35) E dX9_size_35 wX9_size_1 ?_
      obtain ⟨r8, σ9, e7, hf⟩ := fq_b2 hf
      refine g_callVl (pc := 38) E 0 (zm_l (by decide)) (fun _ _ => rfl) rfl [.long (-1000000003 : Int64)] (fun l D sz => qX9_finding l D cy ad sz n σ k (-1000000003 : Int64) e7) gX9_size_X9_finding rfl rfl rfl kcX9_finding ⟨by decide, by decide⟩ rfl rfl (Nat.le_of_ble_eq_true rfl) dX9_size_38 ⟨by decide, by decide⟩ ?_
      exact hret _ _ _ _ dX9_size_41 (Option.some.inj hf)
    · replace hf := fq_t c6 hf
      refine g_aload_n (pc := 27) E dX9_size_27 0 rfl rfl ?_
      refine g_getfield (pc := 28) E uX9_size_X9 0 (zm_l (by decide)) (fun _ _ => rfl) rfl 11 (by decide) wX9_size_2 (.int (fqI σ 0 11)) rfl dX9_size_28 ?_
      refine g_if_le (pc := 31) E 42 dX9_size_31 (by decide) (fun c10 => ?_) (fun c10 => ?_)
      · replace hf := fq_t c10 hf
        refine g_aload_n (pc := 42) E dX9_size_42 0 rfl rfl ?_
        refine g_getfield (pc := 43) E uX9_size_X9 0 (zm_l (by decide)) (fun _ _ => rfl) rfl 6 (by decide) wX9_size_4 (.int (fqI σ 0 6)) rfl dX9_size_43 ?_
        refine g_istore_n (pc := 46) E [(2, .int (fqI σ 0 6)), (0, .ref (ad 0)), (1, .int x1)] dX9_size_46 rfl (by decide) rfl ?_
        refine g_aload_n (pc := 47) E dX9_size_47 1 rfl rfl ?_
        refine g_iload_n (pc := 48) E dX9_size_48 2 rfl rfl ?_
        refine g_putI (pc := 49) E uX9_size_X9 tyX9 tyX9_ok nmX9 0 (zm_l (by decide)) (fun _ _ => rfl) rfl 6 (by decide) wX9_size_4 rfl rfl (Nat.le_of_ble_eq_true rfl) rfl dX9_size_49 ?_
        obtain ⟨σ11, e12, hf⟩ := fq_n hf
        refine g_sg e12 ?_
        refine g_iload_n (pc := 52) E dX9_size_52 0 rfl rfl ?_
        refine g_i2l (pc := 53) E dX9_size_53 ?_
        exact hret _ _ _ _ dX9_size_54 (Option.some.inj hf)
      · replace hf := fq_f c10 hf
        refine g_aload_n (pc := 34) E dX9_size_34 0 rfl rfl ?_
        refine g_ldc2_w (pc := 35) E dX9_size_35 wX9_size_1 ?_
        obtain ⟨r14, σ15, e13, hf⟩ := fq_b2 hf
        refine g_callVl (pc := 38) E 0 (zm_l (by decide)) (fun _ _ => rfl) rfl [.long (-1000000003 : Int64)] (fun l D sz => qX9_finding l D cy ad sz n σ k (-1000000003 : Int64) e13) gX9_size_X9_finding rfl rfl rfl kcX9_finding ⟨by decide, by decide⟩ rfl rfl (Nat.le_of_ble_eq_true rfl) dX9_size_38 ⟨by decide, by decide⟩ ?_
        exact hret _ _ _ _ dX9_size_41 (Option.some.inj hf)
  · replace hf := fq_t c3 hf
    refine g_aload_n (pc := 12) E dX9_size_12 0 rfl rfl ?_
    refine g_ldc2_w (pc := 13) E dX9_size_13 wX9_size_5 ?_
    obtain ⟨r17, σ18, e16, hf⟩ := fq_b2 hf
    refine g_callVl (pc := 16) E 0 (zm_l (by decide)) (fun _ _ => rfl) rfl [.long (-1000000001 : Int64)] (fun l D sz => qX9_finding l D cy ad sz n σ k (-1000000001 : Int64) e16) gX9_size_X9_finding rfl rfl rfl kcX9_finding ⟨by decide, by decide⟩ rfl rfl (Nat.le_of_ble_eq_true rfl) dX9_size_16 ⟨by decide, by decide⟩ ?_
    exact hret _ _ _ _ dX9_size_19 (Option.some.inj hf)

/-! X9_surprise -/
theorem wX9_surprise_0 : Cond.constantLong RX9 244 (-1) ∈ wsX9_surprise := by decide +kernel
theorem wX9_surprise_1 : Cond.fieldLink RX9 23 "FairQueueModel" "surpriseMany" "[I" ∈ wsX9_surprise := by decide +kernel
theorem uX9_surprise_X9 : ∀ w ∈ u_ws RX9 TX9 33, w ∈ wsX9_surprise := (fun _ h => List.mem_cons_of_mem _ (List.mem_append_right _ h))
theorem wX9_surprise_3 : Cond.constantLong RX9 173 (-1000000002) ∈ wsX9_surprise := by decide +kernel
theorem wX9_surprise_4 : Cond.fieldLink RX9 20 "FairQueueModel" "surprises" "[J" ∈ wsX9_surprise := by decide +kernel
theorem wX9_surprise_5 : Cond.constantLong RX9 109 (-1000000001) ∈ wsX9_surprise := by decide +kernel
theorem kcX9_surprise : yX9_surprise.cls = RX9 ∧ yX9_surprise.cls ≠ "java/lang/invoke/MethodHandle" ∧ yX9_surprise.cls ≠ "java/lang/invoke/VarHandle" ∧ (parseMethodDescriptor yX9_surprise.desc).map (fun d => d.parameters.length) = some 2 := by decide +kernel
def pX9_surprise (k n : Nat) (σ : fqS) (x1 : Int32) (x2 : Int32) : Option (Int64 × fqS) :=
  ((pX9_isPlayer k n σ x1).bind (fun r2 => (if r2 = 0 then (fqB2 (pX9_finding k n σ (-1000000001 : Int64)) (fun r20 σ21 => some (r20, σ21))) else (if x1 < 0 ∨ 16 ≤ Int32.toNatClampNeg x1 then none else ((pX9_in k n σ (Int32.toInt64 x2) (-1 : Int64) (Int32.toInt64 ((fqI σ 5 (Int32.toNatClampNeg x1)) - (1 : Int32)))).bind (fun r6 => (if r6 = 0 then (fqB2 (pX9_finding k n σ (-1000000002 : Int64)) (fun r9 σ10 => some (r9, σ10))) else (if (fqI σ 5 (Int32.toNatClampNeg x1)) = 0 then (fqB2 (pX9_finding k n σ (-1000000002 : Int64)) (fun r17 σ18 => some (r17, σ18))) else (if x2 = (-1 : Int32) then ((pX9_surpriseSum k n σ x1).bind (fun r15 => some (r15, σ))) else (if (((8 : Int32) * x1) + x2) < 0 ∨ 128 ≤ Int32.toNatClampNeg (((8 : Int32) * x1) + x2) then none else some ((fqJ σ 4 (Int32.toNatClampNeg (((8 : Int32) * x1) + x2))), σ)))))))))))
set_option maxRecDepth 100000 in
set_option maxHeartbeats 4000000 in
theorem qX9_surprise (l : Launch) (D : va_G) (cy : Nat → ClassId) (ad : Nat → Nat) (sz n : Nat) (σ : fqS) (k : Nat) (x1 : Int32) (x2 : Int32) {r : Int64} {σ' : fqS} (hf : pX9_surprise k n σ x1 x2 = some (r, σ')) : Met l yX9_surprise wsX9_surprise ({ frames := 2, cells := 0, slots := 0, locals := 46 } : Room) (fqPc (TM cy) ZM D cy ad sz n σ [.ref (ad 0), .int x1, .int x2]) (fqQl (TM cy) ZM D ad sz n σ r σ') 0 0 (fqA (TM cy) ZM ad sz n σ) := by
  refine fq_enter_l (cc := cX9_surprise) (maxL := 3) (own := RX9) _ (by decide) rfl (Nat.le_of_ble_eq_true rfl) rfl (fun X E hret => ?_)
  unfold pX9_surprise at hf
  show fqG X (TM cy) ZM ad n 3 0 0 σ 0 [(0, .ref (ad 0)), (1, .int x1), (2, .int x2)] []
  refine g_aload_n (pc := 0) E dX9_surprise_0 0 rfl rfl ?_
  refine g_iload_n (pc := 1) E dX9_surprise_1 1 rfl rfl ?_
  obtain ⟨r2, e1, hf⟩ := fq_b hf
  refine g_callVi (pc := 2) E 0 (zm_l (by decide)) (fun _ _ => rfl) rfl [.int x1] (fun l D sz => qX9_isPlayer l D cy ad sz n σ k x1 e1) gX9_surprise_X9_isPlayer rfl rfl rfl kcX9_isPlayer ⟨by decide, by decide⟩ rfl rfl (Nat.le_of_ble_eq_true rfl) dX9_surprise_2 ⟨by decide, by decide⟩ ?_
  refine g_if_ne (pc := 5) E 16 dX9_surprise_5 (by decide) (fun c3 => ?_) (fun c3 => ?_)
  · replace hf := fq_f c3 hf
    refine g_iload_n (pc := 16) E dX9_surprise_16 2 rfl rfl ?_
    refine g_i2l (pc := 17) E dX9_surprise_17 ?_
    refine g_ldc2_w (pc := 18) E dX9_surprise_18 wX9_surprise_0 ?_
    refine g_aload_n (pc := 21) E dX9_surprise_21 0 rfl rfl ?_
    refine g_getfield (pc := 22) E uX9_surprise_X9 0 (zm_l (by decide)) (fun _ _ => rfl) rfl 5 (by decide) wX9_surprise_1 (.ref (ad 5)) rfl dX9_surprise_22 ?_
    refine g_iload_n (pc := 25) E dX9_surprise_25 1 rfl rfl ?_
    obtain ⟨h4, hf⟩ := fq_in hf
    refine g_iaload (pc := 26) E 5 (zm_l (by decide)) (fun _ _ => rfl) h4 dX9_surprise_26 ?_
    refine g_iconst (pc := 27) E (1 : Int32) dX9_surprise_27 (by decide) ?_
    refine g_isub (pc := 28) E dX9_surprise_28 ?_
    refine g_i2l (pc := 29) E dX9_surprise_29 ?_
    obtain ⟨r6, e5, hf⟩ := fq_b hf
    refine g_callSi (pc := 30) E [.long (Int32.toInt64 x2), .long (-1 : Int64), .long (Int32.toInt64 ((fqI σ 5 (Int32.toNatClampNeg x1)) - (1 : Int32)))] (fun l D sz => qX9_in l D cy ad sz n σ k (Int32.toInt64 x2) (-1 : Int64) (Int32.toInt64 ((fqI σ 5 (Int32.toNatClampNeg x1)) - (1 : Int32))) e5) gX9_surprise_X9_in rfl rfl rfl kcX9_in ⟨by decide, by decide⟩ rfl rfl (Nat.le_of_ble_eq_true rfl) dX9_surprise_30 ⟨by decide, by decide⟩ ?_
    refine g_if_eq (pc := 33) E 45 dX9_surprise_33 (by decide) (fun c7 => ?_) (fun c7 => ?_)
    · replace hf := fq_t c7 hf
      refine g_aload_n (pc := 45) E dX9_surprise_45 0 rfl rfl ?_
      refine g_ldc2_w (pc := 46) E dX9_surprise_46 wX9_surprise_3 ?_
      obtain ⟨r9, σ10, e8, hf⟩ := fq_b2 hf
      refine g_callVl (pc := 49) E 0 (zm_l (by decide)) (fun _ _ => rfl) rfl [.long (-1000000002 : Int64)] (fun l D sz => qX9_finding l D cy ad sz n σ k (-1000000002 : Int64) e8) gX9_surprise_X9_finding rfl rfl rfl kcX9_finding ⟨by decide, by decide⟩ rfl rfl (Nat.le_of_ble_eq_true rfl) dX9_surprise_49 ⟨by decide, by decide⟩ ?_
      exact hret _ _ _ _ dX9_surprise_52 (Option.some.inj hf)
    · replace hf := fq_f c7 hf
      refine g_aload_n (pc := 36) E dX9_surprise_36 0 rfl rfl ?_
      refine g_getfield (pc := 37) E uX9_surprise_X9 0 (zm_l (by decide)) (fun _ _ => rfl) rfl 5 (by decide) wX9_surprise_1 (.ref (ad 5)) rfl dX9_surprise_37 ?_
      refine g_iload_n (pc := 40) E dX9_surprise_40 1 rfl rfl ?_
      refine g_iaload (pc := 41) E 5 (zm_l (by decide)) (fun _ _ => rfl) h4 dX9_surprise_41 ?_
      refine g_if_ne (pc := 42) E 53 dX9_surprise_42 (by decide) (fun c11 => ?_) (fun c11 => ?_)
      · replace hf := fq_f c11 hf
        refine g_iload_n (pc := 53) E dX9_surprise_53 2 rfl rfl ?_
        refine g_iconst (pc := 54) E (-1 : Int32) dX9_surprise_54 (by decide) ?_
        refine g_icmp_ne (pc := 55) E 66 dX9_surprise_55 (by decide) (fun c12 => ?_) (fun c12 => ?_)
        · replace hf := fq_f c12 hf
          refine g_aload_n (pc := 66) E dX9_surprise_66 0 rfl rfl ?_
          refine g_getfield (pc := 67) E uX9_surprise_X9 0 (zm_l (by decide)) (fun _ _ => rfl) rfl 4 (by decide) wX9_surprise_4 (.ref (ad 4)) rfl dX9_surprise_67 ?_
          refine g_bipush (pc := 70) E (8 : Int32) dX9_surprise_70 (by decide) ?_
          refine g_iload_n (pc := 72) E dX9_surprise_72 1 rfl rfl ?_
          refine g_imul (pc := 73) E dX9_surprise_73 ?_
          refine g_iload_n (pc := 74) E dX9_surprise_74 2 rfl rfl ?_
          refine g_iadd (pc := 75) E dX9_surprise_75 ?_
          obtain ⟨h13, hf⟩ := fq_in hf
          refine g_laload (pc := 76) E 4 (zm_l (by decide)) (fun _ _ => rfl) h13 dX9_surprise_76 ?_
          exact hret _ _ _ _ dX9_surprise_77 (Option.some.inj hf)
        · replace hf := fq_t c12 hf
          refine g_aload_n (pc := 58) E dX9_surprise_58 0 rfl rfl ?_
          refine g_iload_n (pc := 59) E dX9_surprise_59 1 rfl rfl ?_
          obtain ⟨r15, e14, hf⟩ := fq_b hf
          refine g_callVl (pc := 60) E 0 (zm_l (by decide)) (fun _ _ => rfl) rfl [.int x1] (fun l D sz => qX9_surpriseSum l D cy ad sz n σ k x1 e14) gX9_surprise_X9_surpriseSum rfl rfl rfl kcX9_surpriseSum ⟨by decide, by decide⟩ rfl rfl (Nat.le_of_ble_eq_true rfl) dX9_surprise_60 ⟨by decide, by decide⟩ ?_
          refine g_goto (pc := 63) E 77 dX9_surprise_63 (by decide) ?_
          exact hret _ _ _ _ dX9_surprise_77 (Option.some.inj hf)
      · replace hf := fq_t c11 hf
        refine g_aload_n (pc := 45) E dX9_surprise_45 0 rfl rfl ?_
        refine g_ldc2_w (pc := 46) E dX9_surprise_46 wX9_surprise_3 ?_
        obtain ⟨r17, σ18, e16, hf⟩ := fq_b2 hf
        refine g_callVl (pc := 49) E 0 (zm_l (by decide)) (fun _ _ => rfl) rfl [.long (-1000000002 : Int64)] (fun l D sz => qX9_finding l D cy ad sz n σ k (-1000000002 : Int64) e16) gX9_surprise_X9_finding rfl rfl rfl kcX9_finding ⟨by decide, by decide⟩ rfl rfl (Nat.le_of_ble_eq_true rfl) dX9_surprise_49 ⟨by decide, by decide⟩ ?_
        exact hret _ _ _ _ dX9_surprise_52 (Option.some.inj hf)
  · replace hf := fq_t c3 hf
    refine g_aload_n (pc := 8) E dX9_surprise_8 0 rfl rfl ?_
    refine g_ldc2_w (pc := 9) E dX9_surprise_9 wX9_surprise_5 ?_
    obtain ⟨r20, σ21, e19, hf⟩ := fq_b2 hf
    refine g_callVl (pc := 12) E 0 (zm_l (by decide)) (fun _ _ => rfl) rfl [.long (-1000000001 : Int64)] (fun l D sz => qX9_finding l D cy ad sz n σ k (-1000000001 : Int64) e19) gX9_surprise_X9_finding rfl rfl rfl kcX9_finding ⟨by decide, by decide⟩ rfl rfl (Nat.le_of_ble_eq_true rfl) dX9_surprise_12 ⟨by decide, by decide⟩ ?_
    exact hret _ _ _ _ dX9_surprise_15 (Option.some.inj hf)

/-! X9_tell -/
theorem wX9_tell_0 : Cond.fieldLink RX9 251 "FairQueueModel" "toldMany" "I" ∈ wsX9_tell := by decide +kernel
theorem uX9_tell_X9 : ∀ w ∈ u_ws RX9 TX9 33, w ∈ wsX9_tell := (fun _ h => List.mem_cons_of_mem _ (List.mem_append_right _ h))
theorem wX9_tell_2 : Cond.fieldLink RX9 68 "FairQueueModel" "told" "[I" ∈ wsX9_tell := by decide +kernel
theorem wX9_tell_3 : Cond.constantLong RX9 115 (-1000000004) ∈ wsX9_tell := by decide +kernel
theorem kcX9_tell : yX9_tell.cls = RX9 ∧ yX9_tell.cls ≠ "java/lang/invoke/MethodHandle" ∧ yX9_tell.cls ≠ "java/lang/invoke/VarHandle" ∧ (parseMethodDescriptor yX9_tell.desc).map (fun d => d.parameters.length) = some 1 := by decide +kernel
def pX9_tell (k n : Nat) (σ : fqS) (x1 : Int32) : Option (Int64 × fqS) :=
  (if (fqI σ 0 21) = (20 : Int32) then (fqB2 (pX9_finding k n σ (-1000000004 : Int64)) (fun r8 σ9 => some (r8, σ9))) else (if (fqI σ 0 21) < 0 ∨ 20 ≤ Int32.toNatClampNeg (fqI σ 0 21) then none else (fqN (fqPI σ 13 (Int32.toNatClampNeg (fqI σ 0 21)) x1) (fun σ3 => (fqN (fqPI σ3 0 21 ((fqI σ3 0 21) + (1 : Int32))) (fun σ5 => some ((Int32.toInt64 (fqI σ5 0 21)), σ5)))))))
set_option maxRecDepth 100000 in
set_option maxHeartbeats 4000000 in
theorem qX9_tell (l : Launch) (D : va_G) (cy : Nat → ClassId) (ad : Nat → Nat) (sz n : Nat) (σ : fqS) (k : Nat) (x1 : Int32) {r : Int64} {σ' : fqS} (hf : pX9_tell k n σ x1 = some (r, σ')) : Met l yX9_tell wsX9_tell ({ frames := 1, cells := 0, slots := 0, locals := 22 } : Room) (fqPc (TM cy) ZM D cy ad sz n σ [.ref (ad 0), .int x1]) (fqQl (TM cy) ZM D ad sz n σ r σ') 0 0 (fqA (TM cy) ZM ad sz n σ) := by
  refine fq_enter_l (cc := cX9_tell) (maxL := 2) (own := RX9) _ (by decide) rfl (Nat.le_of_ble_eq_true rfl) rfl (fun X E hret => ?_)
  unfold pX9_tell at hf
  show fqG X (TM cy) ZM ad n 2 0 0 σ 0 [(0, .ref (ad 0)), (1, .int x1)] []
  refine g_aload_n (pc := 0) E dX9_tell_0 0 rfl rfl ?_
  refine g_getfield (pc := 1) E uX9_tell_X9 0 (zm_l (by decide)) (fun _ _ => rfl) rfl 21 (by decide) wX9_tell_0 (.int (fqI σ 0 21)) rfl dX9_tell_1 ?_
  refine g_bipush (pc := 4) E (20 : Int32) dX9_tell_4 (by decide) ?_
  refine g_icmp_ne (pc := 6) E 17 dX9_tell_6 (by decide) (fun c1 => ?_) (fun c1 => ?_)
  · replace hf := fq_f c1 hf
    refine g_aload_n (pc := 17) E dX9_tell_17 0 rfl rfl ?_
    refine g_getfield (pc := 18) E uX9_tell_X9 0 (zm_l (by decide)) (fun _ _ => rfl) rfl 22 (by decide) wX9_tell_2 (.ref (ad 13)) rfl dX9_tell_18 ?_
    refine g_aload_n (pc := 21) E dX9_tell_21 0 rfl rfl ?_
    refine g_getfield (pc := 22) E uX9_tell_X9 0 (zm_l (by decide)) (fun _ _ => rfl) rfl 21 (by decide) wX9_tell_0 (.int (fqI σ 0 21)) rfl dX9_tell_22 ?_
    refine g_iload_n (pc := 25) E dX9_tell_25 1 rfl rfl ?_
    obtain ⟨h2, hf⟩ := fq_in hf
    refine g_iastore (pc := 26) E 13 (zm_l (by decide)) (fun _ _ => rfl) h2 dX9_tell_26 ?_
    obtain ⟨σ3, e4, hf⟩ := fq_n hf
    refine g_sg e4 ?_
    refine g_aload_n (pc := 27) E dX9_tell_27 0 rfl rfl ?_
    refine g_dup (pc := 28) E dX9_tell_28 rfl ?_
    refine g_getfield (pc := 29) E uX9_tell_X9 0 (zm_l (by decide)) (fun _ _ => rfl) rfl 21 (by decide) wX9_tell_0 (.int (fqI σ3 0 21)) rfl dX9_tell_29 ?_
    refine g_iconst (pc := 32) E (1 : Int32) dX9_tell_32 (by decide) ?_
    refine g_iadd (pc := 33) E dX9_tell_33 ?_
    refine g_putI (pc := 34) E uX9_tell_X9 tyX9 tyX9_ok nmX9 0 (zm_l (by decide)) (fun _ _ => rfl) rfl 21 (by decide) wX9_tell_0 rfl rfl (Nat.le_of_ble_eq_true rfl) rfl dX9_tell_34 ?_
    obtain ⟨σ5, e6, hf⟩ := fq_n hf
    refine g_sg e6 ?_
    refine g_aload_n (pc := 37) E dX9_tell_37 0 rfl rfl ?_
    refine g_getfield (pc := 38) E uX9_tell_X9 0 (zm_l (by decide)) (fun _ _ => rfl) rfl 21 (by decide) wX9_tell_0 (.int (fqI σ5 0 21)) rfl dX9_tell_38 ?_
    refine g_i2l (pc := 41) E dX9_tell_41 ?_
    exact hret _ _ _ _ dX9_tell_42 (Option.some.inj hf)
  · replace hf := fq_t c1 hf
    refine g_aload_n (pc := 9) E dX9_tell_9 0 rfl rfl ?_
    refine g_ldc2_w (pc := 10) E dX9_tell_10 wX9_tell_3 ?_
    obtain ⟨r8, σ9, e7, hf⟩ := fq_b2 hf
    refine g_callVl (pc := 13) E 0 (zm_l (by decide)) (fun _ _ => rfl) rfl [.long (-1000000004 : Int64)] (fun l D sz => qX9_finding l D cy ad sz n σ k (-1000000004 : Int64) e7) gX9_tell_X9_finding rfl rfl rfl kcX9_finding ⟨by decide, by decide⟩ rfl rfl (Nat.le_of_ble_eq_true rfl) dX9_tell_13 ⟨by decide, by decide⟩ ?_
    exact hret _ _ _ _ dX9_tell_16 (Option.some.inj hf)

/-! X9_tick -/
theorem wX9_tick_0 : Cond.fieldLink RX9 202 "FairQueueModel" "planned" "I" ∈ wsX9_tick := by decide +kernel
theorem uX9_tick_X9 : ∀ w ∈ u_ws RX9 TX9 33, w ∈ wsX9_tick := (fun _ h => List.mem_cons_of_mem _ (List.mem_append_right _ h))
theorem wX9_tick_2 : Cond.fieldLink RX9 159 "FairQueueModel" "parties" "I" ∈ wsX9_tick := by decide +kernel
theorem wX9_tick_3 : Cond.fieldLink RX9 89 "FairQueueModel" "ticks" "I" ∈ wsX9_tick := by decide +kernel
theorem wX9_tick_4 : Cond.fieldLink RX9 48 "FairQueueModel" "goesOn" "[Z" ∈ wsX9_tick := by decide +kernel
theorem wX9_tick_5 : Cond.fieldLink RX9 52 "FairQueueModel" "firstOf" "[I" ∈ wsX9_tick := by decide +kernel
theorem wX9_tick_6 : Cond.fieldLink RX9 80 "FairQueueModel" "plannedFirst" "[I" ∈ wsX9_tick := by decide +kernel
theorem wX9_tick_7 : Cond.fieldLink RX9 55 "FairQueueModel" "secondOf" "[I" ∈ wsX9_tick := by decide +kernel
theorem wX9_tick_8 : Cond.fieldLink RX9 83 "FairQueueModel" "plannedSecond" "[I" ∈ wsX9_tick := by decide +kernel
theorem wX9_tick_9 : Cond.fieldLink RX9 58 "FairQueueModel" "dropped" "[I" ∈ wsX9_tick := by decide +kernel
theorem wX9_tick_10 : Cond.fieldLink RX9 61 "FairQueueModel" "madeAt" "[I" ∈ wsX9_tick := by decide +kernel
theorem kcX9_tick : yX9_tick.cls = RX9 ∧ yX9_tick.cls ≠ "java/lang/invoke/MethodHandle" ∧ yX9_tick.cls ≠ "java/lang/invoke/VarHandle" ∧ (parseMethodDescriptor yX9_tick.desc).map (fun d => d.parameters.length) = some 0 := by decide +kernel
def pX9_tick_L118b (k n : Nat) (x1 : Int32) (rec : (Int32 × fqS) → Option (Int64 × fqS)) (x2 : Int32) (σ : fqS) : Option (Int64 × fqS) :=
  (if x2 < 0 then (fqN (fqPI σ 0 10 ((fqI σ 0 10) + (1 : Int32))) (fun σ5 => some ((Int32.toInt64 (fqI σ5 0 31)), σ5))) else (if ((x1 >>> (x2 &&& 31)) &&& (1 : Int32)) = (1 : Int32) then ((pX9_takeOut k n σ x2).bind (fun σ9 => (rec ((x2 + (-1 : Int32)), σ9)))) else (rec ((x2 + (-1 : Int32)), σ))))
def pX9_tick_L118 (k n : Nat) (x1 : Int32) : (Int32 × fqS) → Option (Int64 × fqS) := fqL (fun rec (s : (Int32 × fqS)) => pX9_tick_L118b k n x1 rec s.1 s.2) k
def pX9_tick_L18b (k n : Nat) (x1 : Int32) (x2 : Int32) (rec8 : (Int32 × Int32 × fqS) → Option (Int64 × fqS)) (rec : (Int32 × fqS) → Option (Int64 × fqS)) (x3 : Int32) (σ : fqS) : Option (Int64 × fqS) :=
  (if x3 < 0 ∨ 5 ≤ Int32.toNatClampNeg x3 then none else (if (fqI σ 8 (Int32.toNatClampNeg x3)) = 0 then (fqN (fqPI σ 8 (Int32.toNatClampNeg x3) (1 : Int32)) (fun σ12 => (if x2 < 0 ∨ 5 ≤ Int32.toNatClampNeg x2 then none else ((pX9_playersOf k n σ12 (fqI σ12 17 (Int32.toNatClampNeg x2))).bind (fun r16 => (fqN (fqPI σ12 9 (Int32.toNatClampNeg x3) r16) (fun σ17 => ((pX9_playersOf k n σ17 (fqI σ17 18 (Int32.toNatClampNeg x2))).bind (fun r20 => (fqN (fqPI σ17 10 (Int32.toNatClampNeg x3) r20) (fun σ21 => (fqN (fqPI σ21 11 (Int32.toNatClampNeg x3) (0 : Int32)) (fun σ23 => (fqN (fqPI σ23 12 (Int32.toNatClampNeg x3) (fqI σ23 0 10)) (fun σ25 => (rec8 ((x1 ||| ((fqI σ25 17 (Int32.toNatClampNeg x2)) ||| (fqI σ25 18 (Int32.toNatClampNeg x2)))), (x2 + (1 : Int32)), σ25))))))))))))))))) else (rec ((x3 + (1 : Int32)), σ))))
def pX9_tick_L18 (k n : Nat) (x1 : Int32) (x2 : Int32) (rec8 : (Int32 × Int32 × fqS) → Option (Int64 × fqS)) : (Int32 × fqS) → Option (Int64 × fqS) := fqL (fun rec (s : (Int32 × fqS)) => pX9_tick_L18b k n x1 x2 rec8 rec s.1 s.2) k
def pX9_tick_L8b (k n : Nat) (rec : (Int32 × Int32 × fqS) → Option (Int64 × fqS)) (x1 : Int32) (x2 : Int32) (σ : fqS) : Option (Int64 × fqS) :=
  (if (fqI σ 0 31) ≤ x2 then (pX9_tick_L118 k n x1 (((fqI σ 0 11) - (1 : Int32)), σ)) else (pX9_tick_L18 k n x1 x2 rec ((0 : Int32), σ)))
def pX9_tick_L8 (k n : Nat) : (Int32 × Int32 × fqS) → Option (Int64 × fqS) := fqL (fun rec (s : (Int32 × Int32 × fqS)) => pX9_tick_L8b k n rec s.1 s.2.1 s.2.2) k
def pX9_tick (k n : Nat) (σ : fqS) : Option (Int64 × fqS) :=
  ((pX9_plan k n σ).bind (fun σ2 => (pX9_tick_L8 k n ((0 : Int32), (0 : Int32), σ2))))
set_option maxRecDepth 100000 in
set_option maxHeartbeats 4000000 in
theorem tX9_tick_L118 {k : Nat} {X : fqX} {cy : Nat → ClassId} {ad : Nat → Nat} {n : Nat} {r : Int64} {σ' : fqS} {x1 : Int32} (E : fqE X ({ frames := 3, cells := 0, slots := 0, locals := 73 } : Room) cy cX9_tick 4 wsX9_tick RX9) (hret : fqR_l X (TM cy) ZM ad n 4 cX9_tick r σ') : ∀ (s : (Int32 × fqS)), pX9_tick_L118 k n x1 s = some (r, σ') → fqG X (TM cy) ZM ad n 4 0 0 (s.2) 118 [(0, .ref (ad 0)), (1, .int x1), (2, .int (s.1))] [] := by
  unfold pX9_tick_L118
  refine fqL_run (P := fun (s : (Int32 × fqS)) => fqG X (TM cy) ZM ad n 4 0 0 (s.2) 118 [(0, .ref (ad 0)), (1, .int x1), (2, .int (s.1))] []) (fun rec s hrec hf => ?_) k
  obtain ⟨x2, σ⟩ := s
  have hf : pX9_tick_L118b k n x1 rec x2 σ = some (r, σ') := hf
  unfold pX9_tick_L118b at hf
  show fqG X (TM cy) ZM ad n 4 0 0 σ 118 [(0, .ref (ad 0)), (1, .int x1), (2, .int x2)] []
  refine g_iload_n (pc := 118) E dX9_tick_118 2 rfl rfl ?_
  refine g_if_lt (pc := 119) E 142 dX9_tick_119 (by decide) (fun c4 => ?_) (fun c4 => ?_)
  · replace hf := fq_t c4 hf
    refine g_aload_n (pc := 142) E dX9_tick_142 0 rfl rfl ?_
    refine g_dup (pc := 143) E dX9_tick_143 rfl ?_
    refine g_getfield (pc := 144) E uX9_tick_X9 0 (zm_l (by decide)) (fun _ _ => rfl) rfl 10 (by decide) wX9_tick_3 (.int (fqI σ 0 10)) rfl dX9_tick_144 ?_
    refine g_iconst (pc := 147) E (1 : Int32) dX9_tick_147 (by decide) ?_
    refine g_iadd (pc := 148) E dX9_tick_148 ?_
    refine g_putI (pc := 149) E uX9_tick_X9 tyX9 tyX9_ok nmX9 0 (zm_l (by decide)) (fun _ _ => rfl) rfl 10 (by decide) wX9_tick_3 rfl rfl (Nat.le_of_ble_eq_true rfl) rfl dX9_tick_149 ?_
    obtain ⟨σ5, e6, hf⟩ := fq_n hf
    refine g_sg e6 ?_
    refine g_aload_n (pc := 152) E dX9_tick_152 0 rfl rfl ?_
    refine g_getfield (pc := 153) E uX9_tick_X9 0 (zm_l (by decide)) (fun _ _ => rfl) rfl 31 (by decide) wX9_tick_0 (.int (fqI σ5 0 31)) rfl dX9_tick_153 ?_
    refine g_i2l (pc := 156) E dX9_tick_156 ?_
    exact hret _ _ _ _ dX9_tick_157 (Option.some.inj hf)
  · replace hf := fq_f c4 hf
    refine g_iload_n (pc := 122) E dX9_tick_122 1 rfl rfl ?_
    refine g_iload_n (pc := 123) E dX9_tick_123 2 rfl rfl ?_
    refine g_ishr (pc := 124) E dX9_tick_124 ?_
    refine g_iconst (pc := 125) E (1 : Int32) dX9_tick_125 (by decide) ?_
    refine g_iand (pc := 126) E dX9_tick_126 ?_
    refine g_iconst (pc := 127) E (1 : Int32) dX9_tick_127 (by decide) ?_
    refine g_icmp_ne (pc := 128) E 136 dX9_tick_128 (by decide) (fun c7 => ?_) (fun c7 => ?_)
    · replace hf := fq_f c7 hf
      refine g_iinc (pc := 136) E (x2 + (-1 : Int32)) [(2, .int (x2 + (-1 : Int32))), (0, .ref (ad 0)), (1, .int x1)] dX9_tick_136 2 rfl rfl (by decide) rfl ?_
      refine g_goto (pc := 139) E 118 dX9_tick_139 (by decide) ?_
      refine g_lv [1, 2, 0] rfl ?_
      exact hrec _ hf
    · replace hf := fq_t c7 hf
      refine g_aload_n (pc := 131) E dX9_tick_131 0 rfl rfl ?_
      refine g_iload_n (pc := 132) E dX9_tick_132 2 rfl rfl ?_
      obtain ⟨σ9, e8, hf⟩ := fq_b hf
      refine g_callVv (pc := 133) E 0 (zm_l (by decide)) (fun _ _ => rfl) rfl [.int x2] (fun l D sz => qX9_takeOut l D cy ad sz n σ k x2 e8) gX9_tick_X9_takeOut rfl rfl rfl kcX9_takeOut ⟨by decide, by decide⟩ rfl rfl (Nat.le_of_ble_eq_true rfl) dX9_tick_133 ⟨by decide, by decide⟩ ?_
      refine g_iinc (pc := 136) E (x2 + (-1 : Int32)) [(2, .int (x2 + (-1 : Int32))), (0, .ref (ad 0)), (1, .int x1)] dX9_tick_136 2 rfl rfl (by decide) rfl ?_
      refine g_goto (pc := 139) E 118 dX9_tick_139 (by decide) ?_
      refine g_lv [1, 2, 0] rfl ?_
      exact hrec _ hf
set_option maxRecDepth 100000 in
set_option maxHeartbeats 4000000 in
theorem tX9_tick_L18 {k : Nat} {X : fqX} {cy : Nat → ClassId} {ad : Nat → Nat} {n : Nat} {r : Int64} {σ' : fqS} {x1 : Int32} {x2 : Int32} (E : fqE X ({ frames := 3, cells := 0, slots := 0, locals := 73 } : Room) cy cX9_tick 4 wsX9_tick RX9) (hret : fqR_l X (TM cy) ZM ad n 4 cX9_tick r σ') {rec8 : (Int32 × Int32 × fqS) → Option (Int64 × fqS)} (hrec8 : ∀ (s : (Int32 × Int32 × fqS)), rec8 s = some (r, σ') → fqG X (TM cy) ZM ad n 4 0 0 (s.2.2) 8 [(0, .ref (ad 0)), (1, .int (s.1)), (2, .int (s.2.1))] []) : ∀ (s : (Int32 × fqS)), pX9_tick_L18 k n x1 x2 rec8 s = some (r, σ') → fqG X (TM cy) ZM ad n 4 0 0 (s.2) 18 [(0, .ref (ad 0)), (1, .int x1), (2, .int x2), (3, .int (s.1))] [] := by
  unfold pX9_tick_L18
  refine fqL_run (P := fun (s : (Int32 × fqS)) => fqG X (TM cy) ZM ad n 4 0 0 (s.2) 18 [(0, .ref (ad 0)), (1, .int x1), (2, .int x2), (3, .int (s.1))] []) (fun rec s hrec hf => ?_) k
  obtain ⟨x3, σ⟩ := s
  have hf : pX9_tick_L18b k n x1 x2 rec8 rec x3 σ = some (r, σ') := hf
  unfold pX9_tick_L18b at hf
  show fqG X (TM cy) ZM ad n 4 0 0 σ 18 [(0, .ref (ad 0)), (1, .int x1), (2, .int x2), (3, .int x3)] []
  refine g_aload_n (pc := 18) E dX9_tick_18 0 rfl rfl ?_
  refine g_getfield (pc := 19) E uX9_tick_X9 0 (zm_l (by decide)) (fun _ _ => rfl) rfl 14 (by decide) wX9_tick_4 (.ref (ad 8)) rfl dX9_tick_19 ?_
  refine g_iload_n (pc := 22) E dX9_tick_22 3 rfl rfl ?_
  obtain ⟨h10, hf⟩ := fq_in hf
  refine g_baload (pc := 23) E 8 (zm_l (by decide)) (fun _ _ => rfl) h10 dX9_tick_23 ?_
  refine g_if_eq (pc := 24) E 33 dX9_tick_24 (by decide) (fun c11 => ?_) (fun c11 => ?_)
  · replace hf := fq_t c11 hf
    refine g_aload_n (pc := 33) E dX9_tick_33 0 rfl rfl ?_
    refine g_getfield (pc := 34) E uX9_tick_X9 0 (zm_l (by decide)) (fun _ _ => rfl) rfl 14 (by decide) wX9_tick_4 (.ref (ad 8)) rfl dX9_tick_34 ?_
    refine g_iload_n (pc := 37) E dX9_tick_37 3 rfl rfl ?_
    refine g_iconst (pc := 38) E (1 : Int32) dX9_tick_38 (by decide) ?_
    refine g_bastore (pc := 39) E 8 (zm_l (by decide)) (fun _ _ => rfl) (by decide) h10 dX9_tick_39 ?_
    obtain ⟨σ12, e13, hf⟩ := fq_n hf
    refine g_sg e13 ?_
    refine g_aload_n (pc := 40) E dX9_tick_40 0 rfl rfl ?_
    refine g_getfield (pc := 41) E uX9_tick_X9 0 (zm_l (by decide)) (fun _ _ => rfl) rfl 15 (by decide) wX9_tick_5 (.ref (ad 9)) rfl dX9_tick_41 ?_
    refine g_iload_n (pc := 44) E dX9_tick_44 3 rfl rfl ?_
    refine g_aload_n (pc := 45) E dX9_tick_45 0 rfl rfl ?_
    refine g_aload_n (pc := 46) E dX9_tick_46 0 rfl rfl ?_
    refine g_getfield (pc := 47) E uX9_tick_X9 0 (zm_l (by decide)) (fun _ _ => rfl) rfl 29 (by decide) wX9_tick_6 (.ref (ad 17)) rfl dX9_tick_47 ?_
    refine g_iload_n (pc := 50) E dX9_tick_50 2 rfl rfl ?_
    obtain ⟨h14, hf⟩ := fq_in hf
    refine g_iaload (pc := 51) E 17 (zm_l (by decide)) (fun _ _ => rfl) h14 dX9_tick_51 ?_
    obtain ⟨r16, e15, hf⟩ := fq_b hf
    refine g_callVi (pc := 52) E 0 (zm_l (by decide)) (fun _ _ => rfl) rfl [.int (fqI σ12 17 (Int32.toNatClampNeg x2))] (fun l D sz => qX9_playersOf l D cy ad sz n σ12 k (fqI σ12 17 (Int32.toNatClampNeg x2)) e15) gX9_tick_X9_playersOf rfl rfl rfl kcX9_playersOf ⟨by decide, by decide⟩ rfl rfl (Nat.le_of_ble_eq_true rfl) dX9_tick_52 ⟨by decide, by decide⟩ ?_
    refine g_iastore (pc := 55) E 9 (zm_l (by decide)) (fun _ _ => rfl) h10 dX9_tick_55 ?_
    obtain ⟨σ17, e18, hf⟩ := fq_n hf
    refine g_sg e18 ?_
    refine g_aload_n (pc := 56) E dX9_tick_56 0 rfl rfl ?_
    refine g_getfield (pc := 57) E uX9_tick_X9 0 (zm_l (by decide)) (fun _ _ => rfl) rfl 16 (by decide) wX9_tick_7 (.ref (ad 10)) rfl dX9_tick_57 ?_
    refine g_iload_n (pc := 60) E dX9_tick_60 3 rfl rfl ?_
    refine g_aload_n (pc := 61) E dX9_tick_61 0 rfl rfl ?_
    refine g_aload_n (pc := 62) E dX9_tick_62 0 rfl rfl ?_
    refine g_getfield (pc := 63) E uX9_tick_X9 0 (zm_l (by decide)) (fun _ _ => rfl) rfl 30 (by decide) wX9_tick_8 (.ref (ad 18)) rfl dX9_tick_63 ?_
    refine g_iload_n (pc := 66) E dX9_tick_66 2 rfl rfl ?_
    refine g_iaload (pc := 67) E 18 (zm_l (by decide)) (fun _ _ => rfl) h14 dX9_tick_67 ?_
    obtain ⟨r20, e19, hf⟩ := fq_b hf
    refine g_callVi (pc := 68) E 0 (zm_l (by decide)) (fun _ _ => rfl) rfl [.int (fqI σ17 18 (Int32.toNatClampNeg x2))] (fun l D sz => qX9_playersOf l D cy ad sz n σ17 k (fqI σ17 18 (Int32.toNatClampNeg x2)) e19) gX9_tick_X9_playersOf rfl rfl rfl kcX9_playersOf ⟨by decide, by decide⟩ rfl rfl (Nat.le_of_ble_eq_true rfl) dX9_tick_68 ⟨by decide, by decide⟩ ?_
    refine g_iastore (pc := 71) E 10 (zm_l (by decide)) (fun _ _ => rfl) h10 dX9_tick_71 ?_
    obtain ⟨σ21, e22, hf⟩ := fq_n hf
    refine g_sg e22 ?_
    refine g_aload_n (pc := 72) E dX9_tick_72 0 rfl rfl ?_
    refine g_getfield (pc := 73) E uX9_tick_X9 0 (zm_l (by decide)) (fun _ _ => rfl) rfl 17 (by decide) wX9_tick_9 (.ref (ad 11)) rfl dX9_tick_73 ?_
    refine g_iload_n (pc := 76) E dX9_tick_76 3 rfl rfl ?_
    refine g_iconst (pc := 77) E (0 : Int32) dX9_tick_77 (by decide) ?_
    refine g_iastore (pc := 78) E 11 (zm_l (by decide)) (fun _ _ => rfl) h10 dX9_tick_78 ?_
    obtain ⟨σ23, e24, hf⟩ := fq_n hf
    refine g_sg e24 ?_
    refine g_aload_n (pc := 79) E dX9_tick_79 0 rfl rfl ?_
    refine g_getfield (pc := 80) E uX9_tick_X9 0 (zm_l (by decide)) (fun _ _ => rfl) rfl 18 (by decide) wX9_tick_10 (.ref (ad 12)) rfl dX9_tick_80 ?_
    refine g_iload_n (pc := 83) E dX9_tick_83 3 rfl rfl ?_
    refine g_aload_n (pc := 84) E dX9_tick_84 0 rfl rfl ?_
    refine g_getfield (pc := 85) E uX9_tick_X9 0 (zm_l (by decide)) (fun _ _ => rfl) rfl 10 (by decide) wX9_tick_3 (.int (fqI σ23 0 10)) rfl dX9_tick_85 ?_
    refine g_iastore (pc := 88) E 12 (zm_l (by decide)) (fun _ _ => rfl) h10 dX9_tick_88 ?_
    obtain ⟨σ25, e26, hf⟩ := fq_n hf
    refine g_sg e26 ?_
    refine g_iload_n (pc := 89) E dX9_tick_89 1 rfl rfl ?_
    refine g_aload_n (pc := 90) E dX9_tick_90 0 rfl rfl ?_
    refine g_getfield (pc := 91) E uX9_tick_X9 0 (zm_l (by decide)) (fun _ _ => rfl) rfl 29 (by decide) wX9_tick_6 (.ref (ad 17)) rfl dX9_tick_91 ?_
    refine g_iload_n (pc := 94) E dX9_tick_94 2 rfl rfl ?_
    refine g_iaload (pc := 95) E 17 (zm_l (by decide)) (fun _ _ => rfl) h14 dX9_tick_95 ?_
    refine g_aload_n (pc := 96) E dX9_tick_96 0 rfl rfl ?_
    refine g_getfield (pc := 97) E uX9_tick_X9 0 (zm_l (by decide)) (fun _ _ => rfl) rfl 30 (by decide) wX9_tick_8 (.ref (ad 18)) rfl dX9_tick_97 ?_
    refine g_iload_n (pc := 100) E dX9_tick_100 2 rfl rfl ?_
    refine g_iaload (pc := 101) E 18 (zm_l (by decide)) (fun _ _ => rfl) h14 dX9_tick_101 ?_
    refine g_ior (pc := 102) E dX9_tick_102 ?_
    refine g_ior (pc := 103) E dX9_tick_103 ?_
    refine g_istore_n (pc := 104) E [(1, .int (x1 ||| ((fqI σ25 17 (Int32.toNatClampNeg x2)) ||| (fqI σ25 18 (Int32.toNatClampNeg x2))))), (0, .ref (ad 0)), (2, .int x2), (3, .int x3)] dX9_tick_104 rfl (by decide) rfl ?_
    refine g_iinc (pc := 105) E (x2 + (1 : Int32)) [(2, .int (x2 + (1 : Int32))), (1, .int (x1 ||| ((fqI σ25 17 (Int32.toNatClampNeg x2)) ||| (fqI σ25 18 (Int32.toNatClampNeg x2))))), (0, .ref (ad 0)), (3, .int x3)] dX9_tick_105 2 rfl rfl (by decide) rfl ?_
    refine g_goto (pc := 108) E 8 dX9_tick_108 (by decide) ?_
    refine g_lv [2, 1, 0] rfl ?_
    exact hrec8 _ hf
  · replace hf := fq_f c11 hf
    refine g_iinc (pc := 27) E (x3 + (1 : Int32)) [(3, .int (x3 + (1 : Int32))), (0, .ref (ad 0)), (1, .int x1), (2, .int x2)] dX9_tick_27 3 rfl rfl (by decide) rfl ?_
    refine g_goto (pc := 30) E 18 dX9_tick_30 (by decide) ?_
    refine g_lv [1, 2, 3, 0] rfl ?_
    exact hrec _ hf
set_option maxRecDepth 100000 in
set_option maxHeartbeats 4000000 in
theorem tX9_tick_L8 {k : Nat} {X : fqX} {cy : Nat → ClassId} {ad : Nat → Nat} {n : Nat} {r : Int64} {σ' : fqS} (E : fqE X ({ frames := 3, cells := 0, slots := 0, locals := 73 } : Room) cy cX9_tick 4 wsX9_tick RX9) (hret : fqR_l X (TM cy) ZM ad n 4 cX9_tick r σ') : ∀ (s : (Int32 × Int32 × fqS)), pX9_tick_L8 k n s = some (r, σ') → fqG X (TM cy) ZM ad n 4 0 0 (s.2.2) 8 [(0, .ref (ad 0)), (1, .int (s.1)), (2, .int (s.2.1))] [] := by
  unfold pX9_tick_L8
  refine fqL_run (P := fun (s : (Int32 × Int32 × fqS)) => fqG X (TM cy) ZM ad n 4 0 0 (s.2.2) 8 [(0, .ref (ad 0)), (1, .int (s.1)), (2, .int (s.2.1))] []) (fun rec s hrec hf => ?_) k
  obtain ⟨x1, x2, σ⟩ := s
  have hf : pX9_tick_L8b k n rec x1 x2 σ = some (r, σ') := hf
  unfold pX9_tick_L8b at hf
  show fqG X (TM cy) ZM ad n 4 0 0 σ 8 [(0, .ref (ad 0)), (1, .int x1), (2, .int x2)] []
  refine g_iload_n (pc := 8) E dX9_tick_8 2 rfl rfl ?_
  refine g_aload_n (pc := 9) E dX9_tick_9 0 rfl rfl ?_
  refine g_getfield (pc := 10) E uX9_tick_X9 0 (zm_l (by decide)) (fun _ _ => rfl) rfl 31 (by decide) wX9_tick_0 (.int (fqI σ 0 31)) rfl dX9_tick_10 ?_
  refine g_icmp_ge (pc := 13) E 111 dX9_tick_13 (by decide) (fun c3 => ?_) (fun c3 => ?_)
  · replace hf := fq_t c3 hf
    refine g_aload_n (pc := 111) E dX9_tick_111 0 rfl rfl ?_
    refine g_getfield (pc := 112) E uX9_tick_X9 0 (zm_l (by decide)) (fun _ _ => rfl) rfl 11 (by decide) wX9_tick_2 (.int (fqI σ 0 11)) rfl dX9_tick_112 ?_
    refine g_iconst (pc := 115) E (1 : Int32) dX9_tick_115 (by decide) ?_
    refine g_isub (pc := 116) E dX9_tick_116 ?_
    refine g_istore_n (pc := 117) E [(2, .int ((fqI σ 0 11) - (1 : Int32))), (0, .ref (ad 0)), (1, .int x1)] dX9_tick_117 rfl (by decide) rfl ?_
    refine g_lv [1, 2, 0] rfl ?_
    exact tX9_tick_L118 E hret _ hf
  · replace hf := fq_f c3 hf
    refine g_iconst (pc := 16) E (0 : Int32) dX9_tick_16 (by decide) ?_
    refine g_istore_n (pc := 17) E [(3, .int (0 : Int32)), (0, .ref (ad 0)), (1, .int x1), (2, .int x2)] dX9_tick_17 rfl (by decide) rfl ?_
    refine g_lv [1, 2, 3, 0] rfl ?_
    exact tX9_tick_L18 E hret hrec _ hf
set_option maxRecDepth 100000 in
set_option maxHeartbeats 4000000 in
theorem qX9_tick (l : Launch) (D : va_G) (cy : Nat → ClassId) (ad : Nat → Nat) (sz n : Nat) (σ : fqS) (k : Nat) {r : Int64} {σ' : fqS} (hf : pX9_tick k n σ = some (r, σ')) : Met l yX9_tick wsX9_tick ({ frames := 3, cells := 0, slots := 0, locals := 73 } : Room) (fqPc (TM cy) ZM D cy ad sz n σ [.ref (ad 0)]) (fqQl (TM cy) ZM D ad sz n σ r σ') 0 0 (fqA (TM cy) ZM ad sz n σ) := by
  refine fq_enter_l (cc := cX9_tick) (maxL := 4) (own := RX9) _ (by decide) rfl (Nat.le_of_ble_eq_true rfl) rfl (fun X E hret => ?_)
  unfold pX9_tick at hf
  show fqG X (TM cy) ZM ad n 4 0 0 σ 0 [(0, .ref (ad 0))] []
  refine g_aload_n (pc := 0) E dX9_tick_0 0 rfl rfl ?_
  obtain ⟨σ2, e1, hf⟩ := fq_b hf
  refine g_callVv (pc := 1) E 0 (zm_l (by decide)) (fun _ _ => rfl) rfl [] (fun l D sz => qX9_plan l D cy ad sz n σ k e1) gX9_tick_X9_plan rfl rfl rfl kcX9_plan ⟨by decide, by decide⟩ rfl rfl (Nat.le_of_ble_eq_true rfl) dX9_tick_1 ⟨by decide, by decide⟩ ?_
  refine g_iconst (pc := 4) E (0 : Int32) dX9_tick_4 (by decide) ?_
  refine g_istore_n (pc := 5) E [(1, .int (0 : Int32)), (0, .ref (ad 0))] dX9_tick_5 rfl (by decide) rfl ?_
  refine g_iconst (pc := 6) E (0 : Int32) dX9_tick_6 (by decide) ?_
  refine g_istore_n (pc := 7) E [(2, .int (0 : Int32)), (1, .int (0 : Int32)), (0, .ref (ad 0))] dX9_tick_7 rfl (by decide) rfl ?_
  refine g_lv [2, 1, 0] rfl ?_
  exact tX9_tick_L8 E hret _ hf

/-! X9_wait -/
theorem wX9_wait_0 : Cond.constantLong RX9 109 (-1000000001) ∈ wsX9_wait := by decide +kernel
theorem wX9_wait_1 : Cond.fieldLink RX9 26 "FairQueueModel" "teamSize" "I" ∈ wsX9_wait := by decide +kernel
theorem uX9_wait_X9 : ∀ w ∈ u_ws RX9 TX9 33, w ∈ wsX9_wait := (fun _ h => List.mem_cons_of_mem _ (List.mem_append_right _ h))
theorem wX9_wait_3 : Cond.constantLong RX9 155 (-1000000003) ∈ wsX9_wait := by decide +kernel
theorem wX9_wait_4 : Cond.fieldLink RX9 159 "FairQueueModel" "parties" "I" ∈ wsX9_wait := by decide +kernel
theorem wX9_wait_5 : Cond.fieldLink RX9 42 "FairQueueModel" "partyBits" "[I" ∈ wsX9_wait := by decide +kernel
theorem wX9_wait_6 : Cond.fieldLink RX9 45 "FairQueueModel" "partyTick" "[I" ∈ wsX9_wait := by decide +kernel
theorem wX9_wait_7 : Cond.fieldLink RX9 89 "FairQueueModel" "ticks" "I" ∈ wsX9_wait := by decide +kernel
theorem wX9_wait_8 : Cond.constantLong RX9 115 (-1000000004) ∈ wsX9_wait := by decide +kernel
theorem wX9_wait_9 : Cond.constantLong RX9 128 (-1000000005) ∈ wsX9_wait := by decide +kernel
theorem kcX9_wait : yX9_wait.cls = RX9 ∧ yX9_wait.cls ≠ "java/lang/invoke/MethodHandle" ∧ yX9_wait.cls ≠ "java/lang/invoke/VarHandle" ∧ (parseMethodDescriptor yX9_wait.desc).map (fun d => d.parameters.length) = some 3 := by decide +kernel
def pX9_wait_J38 (k n : Nat) (x1 : Int32) (x2 : Int32) (x3 : Int32) (σ : fqS) : Option (Int64 × fqS) :=
  (fqB2 (pX9_finding k n σ (-1000000001 : Int64)) (fun r5 σ6 => some (r5, σ6)))
def pX9_wait_J208 (k n : Nat) (x1 : Int32) (x2 : Int32) (x3 : Int32) (s1 : Int32) (s2 : Int32) (s3 : Int32) (σ : fqS) : Option (Int64 × fqS) :=
  (if x3 = (-1 : Int32) then (if s1 < 0 ∨ 10 ≤ Int32.toNatClampNeg s1 then none else (fqN (fqPI σ 6 (Int32.toNatClampNeg s1) ((s2 ||| s3) ||| (0 : Int32))) (fun σ42 => (if (fqI σ42 0 11) < 0 ∨ 10 ≤ Int32.toNatClampNeg (fqI σ42 0 11) then none else (fqN (fqPI σ42 7 (Int32.toNatClampNeg (fqI σ42 0 11)) (fqI σ42 0 10)) (fun σ45 => (fqN (fqPI σ45 0 11 ((fqI σ45 0 11) + (1 : Int32))) (fun σ47 => some ((Int32.toInt64 (fqI σ47 0 11)), σ47))))))))) else (if s1 < 0 ∨ 10 ≤ Int32.toNatClampNeg s1 then none else (fqN (fqPI σ 6 (Int32.toNatClampNeg s1) ((s2 ||| s3) ||| ((1 : Int32) <<< (x3 &&& 31)))) (fun σ34 => (if (fqI σ34 0 11) < 0 ∨ 10 ≤ Int32.toNatClampNeg (fqI σ34 0 11) then none else (fqN (fqPI σ34 7 (Int32.toNatClampNeg (fqI σ34 0 11)) (fqI σ34 0 10)) (fun σ37 => (fqN (fqPI σ37 0 11 ((fqI σ37 0 11) + (1 : Int32))) (fun σ39 => some ((Int32.toInt64 (fqI σ39 0 11)), σ39))))))))))
def pX9_wait_J147 (k n : Nat) (x1 : Int32) (x2 : Int32) (x3 : Int32) (σ : fqS) : Option (Int64 × fqS) :=
  (if x3 = (-1 : Int32) then (if (fqI σ 0 11) = (10 : Int32) then (fqB2 (pX9_finding k n σ (-1000000004 : Int64)) (fun r50 σ51 => some (r50, σ51))) else (if x2 = (-1 : Int32) then (pX9_wait_J208 k n x1 x2 x3 (fqI σ 0 11) ((1 : Int32) <<< (x1 &&& 31)) (0 : Int32) σ) else (pX9_wait_J208 k n x1 x2 x3 (fqI σ 0 11) ((1 : Int32) <<< (x1 &&& 31)) ((1 : Int32) <<< (x2 &&& 31)) σ))) else ((pX9_isBusy k n σ x3).bind (fun r53 => (if r53 = 0 then (if (fqI σ 0 11) = (10 : Int32) then (fqB2 (pX9_finding k n σ (-1000000004 : Int64)) (fun r58 σ59 => some (r58, σ59))) else (if x2 = (-1 : Int32) then (pX9_wait_J208 k n x1 x2 x3 (fqI σ 0 11) ((1 : Int32) <<< (x1 &&& 31)) (0 : Int32) σ) else (pX9_wait_J208 k n x1 x2 x3 (fqI σ 0 11) ((1 : Int32) <<< (x1 &&& 31)) ((1 : Int32) <<< (x2 &&& 31)) σ))) else (fqB2 (pX9_finding k n σ (-1000000003 : Int64)) (fun r61 σ62 => some (r61, σ62)))))))
def pX9_wait_J106 (k n : Nat) (x1 : Int32) (x2 : Int32) (x3 : Int32) (s0 : Int32) (s1 : Int32) (σ : fqS) : Option (Int64 × fqS) :=
  (if (s0 + s1) ≤ (fqI σ 0 6) then ((pX9_isBusy k n σ x1).bind (fun r23 => (if r23 = 0 then (if x2 = (-1 : Int32) then (pX9_wait_J147 k n x1 x2 x3 σ) else ((pX9_isBusy k n σ x2).bind (fun r64 => (if r64 = 0 then (pX9_wait_J147 k n x1 x2 x3 σ) else (fqB2 (pX9_finding k n σ (-1000000003 : Int64)) (fun r67 σ68 => some (r67, σ68))))))) else (fqB2 (pX9_finding k n σ (-1000000003 : Int64)) (fun r26 σ27 => some (r26, σ27)))))) else (fqB2 (pX9_finding k n σ (-1000000005 : Int64)) (fun r70 σ71 => some (r70, σ71))))
def pX9_wait_J56 (k n : Nat) (x1 : Int32) (x2 : Int32) (x3 : Int32) (σ : fqS) : Option (Int64 × fqS) :=
  (if x1 = x2 then (fqB2 (pX9_finding k n σ (-1000000001 : Int64)) (fun r12 σ13 => some (r12, σ13))) else (if x1 = x3 then (fqB2 (pX9_finding k n σ (-1000000001 : Int64)) (fun r16 σ17 => some (r16, σ17))) else (if x2 = x3 then (if x2 = (-1 : Int32) then (if x2 = (-1 : Int32) then (if x3 = (-1 : Int32) then (pX9_wait_J106 k n x1 x2 x3 ((1 : Int32) + (0 : Int32)) (0 : Int32) σ) else (pX9_wait_J106 k n x1 x2 x3 ((1 : Int32) + (0 : Int32)) (1 : Int32) σ)) else (if x3 = (-1 : Int32) then (pX9_wait_J106 k n x1 x2 x3 ((1 : Int32) + (1 : Int32)) (0 : Int32) σ) else (pX9_wait_J106 k n x1 x2 x3 ((1 : Int32) + (1 : Int32)) (1 : Int32) σ))) else (fqB2 (pX9_finding k n σ (-1000000001 : Int64)) (fun r78 σ79 => some (r78, σ79)))) else (if x2 = (-1 : Int32) then (if x3 = (-1 : Int32) then (pX9_wait_J106 k n x1 x2 x3 ((1 : Int32) + (0 : Int32)) (0 : Int32) σ) else (pX9_wait_J106 k n x1 x2 x3 ((1 : Int32) + (0 : Int32)) (1 : Int32) σ)) else (if x3 = (-1 : Int32) then (pX9_wait_J106 k n x1 x2 x3 ((1 : Int32) + (1 : Int32)) (0 : Int32) σ) else (pX9_wait_J106 k n x1 x2 x3 ((1 : Int32) + (1 : Int32)) (1 : Int32) σ))))))
def pX9_wait_J21 (k n : Nat) (x1 : Int32) (x2 : Int32) (x3 : Int32) (σ : fqS) : Option (Int64 × fqS) :=
  (if x3 = (-1 : Int32) then (if x2 = (-1 : Int32) then (if x3 = (-1 : Int32) then (pX9_wait_J56 k n x1 x2 x3 σ) else (fqB2 (pX9_finding k n σ (-1000000001 : Int64)) (fun r82 σ83 => some (r82, σ83)))) else (pX9_wait_J56 k n x1 x2 x3 σ)) else ((pX9_isPlayer k n σ x3).bind (fun r85 => (if r85 = 0 then (pX9_wait_J38 k n x1 x2 x3 σ) else (if x2 = (-1 : Int32) then (if x3 = (-1 : Int32) then (pX9_wait_J56 k n x1 x2 x3 σ) else (fqB2 (pX9_finding k n σ (-1000000001 : Int64)) (fun r90 σ91 => some (r90, σ91)))) else (pX9_wait_J56 k n x1 x2 x3 σ))))))
def pX9_wait (k n : Nat) (σ : fqS) (x1 : Int32) (x2 : Int32) (x3 : Int32) : Option (Int64 × fqS) :=
  ((pX9_isPlayer k n σ x1).bind (fun r2 => (if r2 = 0 then (pX9_wait_J38 k n x1 x2 x3 σ) else (if x2 = (-1 : Int32) then (pX9_wait_J21 k n x1 x2 x3 σ) else ((pX9_isPlayer k n σ x2).bind (fun r93 => (if r93 = 0 then (pX9_wait_J38 k n x1 x2 x3 σ) else (pX9_wait_J21 k n x1 x2 x3 σ))))))))
set_option maxRecDepth 100000 in
set_option maxHeartbeats 4000000 in
theorem tX9_wait_J38 {k : Nat} {X : fqX} {cy : Nat → ClassId} {ad : Nat → Nat} {n : Nat} {r : Int64} {σ' : fqS} {x1 : Int32} {x2 : Int32} {x3 : Int32} {σ : fqS} (E : fqE X ({ frames := 2, cells := 0, slots := 0, locals := 46 } : Room) cy cX9_wait 6 wsX9_wait RX9) (hret : fqR_l X (TM cy) ZM ad n 6 cX9_wait r σ') (hf : pX9_wait_J38 k n x1 x2 x3 σ = some (r, σ')) : fqG X (TM cy) ZM ad n 6 0 0 σ 38 [(0, .ref (ad 0)), (1, .int x1), (2, .int x2), (3, .int x3)] [] := by
  unfold pX9_wait_J38 at hf
  refine g_iconst (pc := 38) E (0 : Int32) dX9_wait_38 (by decide) ?_
  refine g_istore (pc := 39) E [(4, .int (0 : Int32)), (0, .ref (ad 0)), (1, .int x1), (2, .int x2), (3, .int x3)] dX9_wait_39 (by decide) rfl ?_
  refine g_iload (pc := 41) E dX9_wait_41 0 rfl ?_
  refine g_if_eq (pc := 43) E 76 dX9_wait_43 (by decide) (fun _ => ?_) (fun h => absurd (by decide) h)
  refine g_aload_n (pc := 76) E dX9_wait_76 1 rfl rfl ?_
  refine g_ldc2_w (pc := 77) E dX9_wait_77 wX9_wait_0 ?_
  obtain ⟨r5, σ6, e4, hf⟩ := fq_b2 hf
  refine g_callVl (pc := 80) E 0 (zm_l (by decide)) (fun _ _ => rfl) rfl [.long (-1000000001 : Int64)] (fun l D sz => qX9_finding l D cy ad sz n σ k (-1000000001 : Int64) e4) gX9_wait_X9_finding rfl rfl rfl kcX9_finding ⟨by decide, by decide⟩ rfl rfl (Nat.le_of_ble_eq_true rfl) dX9_wait_80 ⟨by decide, by decide⟩ ?_
  exact hret _ _ _ _ dX9_wait_83 (Option.some.inj hf)
set_option maxRecDepth 100000 in
set_option maxHeartbeats 4000000 in
theorem tX9_wait_J208 {k : Nat} {X : fqX} {cy : Nat → ClassId} {ad : Nat → Nat} {n : Nat} {r : Int64} {σ' : fqS} {x1 : Int32} {x2 : Int32} {x3 : Int32} {s1 : Int32} {s2 : Int32} {s3 : Int32} {σ : fqS} (E : fqE X ({ frames := 2, cells := 0, slots := 0, locals := 46 } : Room) cy cX9_wait 6 wsX9_wait RX9) (hret : fqR_l X (TM cy) ZM ad n 6 cX9_wait r σ') (hf : pX9_wait_J208 k n x1 x2 x3 s1 s2 s3 σ = some (r, σ')) : fqG X (TM cy) ZM ad n 6 0 0 σ 208 [(0, .ref (ad 0)), (3, .int x3)] [.int s3, .int s2, .int s1, .ref (ad 6)] := by
  unfold pX9_wait_J208 at hf
  refine g_ior (pc := 208) E dX9_wait_208 ?_
  refine g_iload_n (pc := 209) E dX9_wait_209 1 rfl rfl ?_
  refine g_iconst (pc := 210) E (-1 : Int32) dX9_wait_210 (by decide) ?_
  refine g_icmp_ne (pc := 211) E 218 dX9_wait_211 (by decide) (fun c32 => ?_) (fun c32 => ?_)
  · replace hf := fq_f c32 hf
    refine g_iconst (pc := 218) E (1 : Int32) dX9_wait_218 (by decide) ?_
    refine g_iload_n (pc := 219) E dX9_wait_219 1 rfl rfl ?_
    refine g_ishl (pc := 220) E dX9_wait_220 ?_
    refine g_ior (pc := 221) E dX9_wait_221 ?_
    obtain ⟨h33, hf⟩ := fq_in hf
    refine g_iastore (pc := 222) E 6 (zm_l (by decide)) (fun _ _ => rfl) h33 dX9_wait_222 ?_
    obtain ⟨σ34, e35, hf⟩ := fq_n hf
    refine g_sg e35 ?_
    refine g_aload_n (pc := 223) E dX9_wait_223 0 rfl rfl ?_
    refine g_getfield (pc := 224) E uX9_wait_X9 0 (zm_l (by decide)) (fun _ _ => rfl) rfl 13 (by decide) wX9_wait_6 (.ref (ad 7)) rfl dX9_wait_224 ?_
    refine g_aload_n (pc := 227) E dX9_wait_227 0 rfl rfl ?_
    refine g_getfield (pc := 228) E uX9_wait_X9 0 (zm_l (by decide)) (fun _ _ => rfl) rfl 11 (by decide) wX9_wait_4 (.int (fqI σ34 0 11)) rfl dX9_wait_228 ?_
    refine g_aload_n (pc := 231) E dX9_wait_231 0 rfl rfl ?_
    refine g_getfield (pc := 232) E uX9_wait_X9 0 (zm_l (by decide)) (fun _ _ => rfl) rfl 10 (by decide) wX9_wait_7 (.int (fqI σ34 0 10)) rfl dX9_wait_232 ?_
    obtain ⟨h36, hf⟩ := fq_in hf
    refine g_iastore (pc := 235) E 7 (zm_l (by decide)) (fun _ _ => rfl) h36 dX9_wait_235 ?_
    obtain ⟨σ37, e38, hf⟩ := fq_n hf
    refine g_sg e38 ?_
    refine g_aload_n (pc := 236) E dX9_wait_236 0 rfl rfl ?_
    refine g_dup (pc := 237) E dX9_wait_237 rfl ?_
    refine g_getfield (pc := 238) E uX9_wait_X9 0 (zm_l (by decide)) (fun _ _ => rfl) rfl 11 (by decide) wX9_wait_4 (.int (fqI σ37 0 11)) rfl dX9_wait_238 ?_
    refine g_iconst (pc := 241) E (1 : Int32) dX9_wait_241 (by decide) ?_
    refine g_iadd (pc := 242) E dX9_wait_242 ?_
    refine g_putI (pc := 243) E uX9_wait_X9 tyX9 tyX9_ok nmX9 0 (zm_l (by decide)) (fun _ _ => rfl) rfl 11 (by decide) wX9_wait_4 rfl rfl (Nat.le_of_ble_eq_true rfl) rfl dX9_wait_243 ?_
    obtain ⟨σ39, e40, hf⟩ := fq_n hf
    refine g_sg e40 ?_
    refine g_aload_n (pc := 246) E dX9_wait_246 0 rfl rfl ?_
    refine g_getfield (pc := 247) E uX9_wait_X9 0 (zm_l (by decide)) (fun _ _ => rfl) rfl 11 (by decide) wX9_wait_4 (.int (fqI σ39 0 11)) rfl dX9_wait_247 ?_
    refine g_i2l (pc := 250) E dX9_wait_250 ?_
    exact hret _ _ _ _ dX9_wait_251 (Option.some.inj hf)
  · replace hf := fq_t c32 hf
    refine g_iconst (pc := 214) E (0 : Int32) dX9_wait_214 (by decide) ?_
    refine g_goto (pc := 215) E 221 dX9_wait_215 (by decide) ?_
    refine g_ior (pc := 221) E dX9_wait_221 ?_
    obtain ⟨h41, hf⟩ := fq_in hf
    refine g_iastore (pc := 222) E 6 (zm_l (by decide)) (fun _ _ => rfl) h41 dX9_wait_222 ?_
    obtain ⟨σ42, e43, hf⟩ := fq_n hf
    refine g_sg e43 ?_
    refine g_aload_n (pc := 223) E dX9_wait_223 0 rfl rfl ?_
    refine g_getfield (pc := 224) E uX9_wait_X9 0 (zm_l (by decide)) (fun _ _ => rfl) rfl 13 (by decide) wX9_wait_6 (.ref (ad 7)) rfl dX9_wait_224 ?_
    refine g_aload_n (pc := 227) E dX9_wait_227 0 rfl rfl ?_
    refine g_getfield (pc := 228) E uX9_wait_X9 0 (zm_l (by decide)) (fun _ _ => rfl) rfl 11 (by decide) wX9_wait_4 (.int (fqI σ42 0 11)) rfl dX9_wait_228 ?_
    refine g_aload_n (pc := 231) E dX9_wait_231 0 rfl rfl ?_
    refine g_getfield (pc := 232) E uX9_wait_X9 0 (zm_l (by decide)) (fun _ _ => rfl) rfl 10 (by decide) wX9_wait_7 (.int (fqI σ42 0 10)) rfl dX9_wait_232 ?_
    obtain ⟨h44, hf⟩ := fq_in hf
    refine g_iastore (pc := 235) E 7 (zm_l (by decide)) (fun _ _ => rfl) h44 dX9_wait_235 ?_
    obtain ⟨σ45, e46, hf⟩ := fq_n hf
    refine g_sg e46 ?_
    refine g_aload_n (pc := 236) E dX9_wait_236 0 rfl rfl ?_
    refine g_dup (pc := 237) E dX9_wait_237 rfl ?_
    refine g_getfield (pc := 238) E uX9_wait_X9 0 (zm_l (by decide)) (fun _ _ => rfl) rfl 11 (by decide) wX9_wait_4 (.int (fqI σ45 0 11)) rfl dX9_wait_238 ?_
    refine g_iconst (pc := 241) E (1 : Int32) dX9_wait_241 (by decide) ?_
    refine g_iadd (pc := 242) E dX9_wait_242 ?_
    refine g_putI (pc := 243) E uX9_wait_X9 tyX9 tyX9_ok nmX9 0 (zm_l (by decide)) (fun _ _ => rfl) rfl 11 (by decide) wX9_wait_4 rfl rfl (Nat.le_of_ble_eq_true rfl) rfl dX9_wait_243 ?_
    obtain ⟨σ47, e48, hf⟩ := fq_n hf
    refine g_sg e48 ?_
    refine g_aload_n (pc := 246) E dX9_wait_246 0 rfl rfl ?_
    refine g_getfield (pc := 247) E uX9_wait_X9 0 (zm_l (by decide)) (fun _ _ => rfl) rfl 11 (by decide) wX9_wait_4 (.int (fqI σ47 0 11)) rfl dX9_wait_247 ?_
    refine g_i2l (pc := 250) E dX9_wait_250 ?_
    exact hret _ _ _ _ dX9_wait_251 (Option.some.inj hf)
set_option maxRecDepth 100000 in
set_option maxHeartbeats 4000000 in
theorem tX9_wait_J147 {k : Nat} {X : fqX} {cy : Nat → ClassId} {ad : Nat → Nat} {n : Nat} {r : Int64} {σ' : fqS} {x1 : Int32} {x2 : Int32} {x3 : Int32} {σ : fqS} (E : fqE X ({ frames := 2, cells := 0, slots := 0, locals := 46 } : Room) cy cX9_wait 6 wsX9_wait RX9) (hret : fqR_l X (TM cy) ZM ad n 6 cX9_wait r σ') (hf : pX9_wait_J147 k n x1 x2 x3 σ = some (r, σ')) : fqG X (TM cy) ZM ad n 6 0 0 σ 147 [(0, .ref (ad 0)), (1, .int x1), (2, .int x2), (3, .int x3)] [] := by
  unfold pX9_wait_J147 at hf
  refine g_iload_n (pc := 147) E dX9_wait_147 3 rfl rfl ?_
  refine g_iconst (pc := 148) E (-1 : Int32) dX9_wait_148 (by decide) ?_
  refine g_icmp_eq (pc := 149) E 168 dX9_wait_149 (by decide) (fun c29 => ?_) (fun c29 => ?_)
  · replace hf := fq_t c29 hf
    refine g_aload_n (pc := 168) E dX9_wait_168 0 rfl rfl ?_
    refine g_getfield (pc := 169) E uX9_wait_X9 0 (zm_l (by decide)) (fun _ _ => rfl) rfl 11 (by decide) wX9_wait_4 (.int (fqI σ 0 11)) rfl dX9_wait_169 ?_
    refine g_bipush (pc := 172) E (10 : Int32) dX9_wait_172 (by decide) ?_
    refine g_icmp_ne (pc := 174) E 185 dX9_wait_174 (by decide) (fun c30 => ?_) (fun c30 => ?_)
    · replace hf := fq_f c30 hf
      refine g_aload_n (pc := 185) E dX9_wait_185 0 rfl rfl ?_
      refine g_getfield (pc := 186) E uX9_wait_X9 0 (zm_l (by decide)) (fun _ _ => rfl) rfl 12 (by decide) wX9_wait_5 (.ref (ad 6)) rfl dX9_wait_186 ?_
      refine g_aload_n (pc := 189) E dX9_wait_189 0 rfl rfl ?_
      refine g_getfield (pc := 190) E uX9_wait_X9 0 (zm_l (by decide)) (fun _ _ => rfl) rfl 11 (by decide) wX9_wait_4 (.int (fqI σ 0 11)) rfl dX9_wait_190 ?_
      refine g_iconst (pc := 193) E (1 : Int32) dX9_wait_193 (by decide) ?_
      refine g_iload_n (pc := 194) E dX9_wait_194 1 rfl rfl ?_
      refine g_ishl (pc := 195) E dX9_wait_195 ?_
      refine g_iload_n (pc := 196) E dX9_wait_196 2 rfl rfl ?_
      refine g_iconst (pc := 197) E (-1 : Int32) dX9_wait_197 (by decide) ?_
      refine g_icmp_ne (pc := 198) E 205 dX9_wait_198 (by decide) (fun c31 => ?_) (fun c31 => ?_)
      · replace hf := fq_f c31 hf
        refine g_iconst (pc := 205) E (1 : Int32) dX9_wait_205 (by decide) ?_
        refine g_iload_n (pc := 206) E dX9_wait_206 2 rfl rfl ?_
        refine g_ishl (pc := 207) E dX9_wait_207 ?_
        refine g_lv [0, 3] rfl ?_
        exact tX9_wait_J208 E hret hf
      · replace hf := fq_t c31 hf
        refine g_iconst (pc := 201) E (0 : Int32) dX9_wait_201 (by decide) ?_
        refine g_goto (pc := 202) E 208 dX9_wait_202 (by decide) ?_
        refine g_lv [0, 3] rfl ?_
        exact tX9_wait_J208 E hret hf
    · replace hf := fq_t c30 hf
      refine g_aload_n (pc := 177) E dX9_wait_177 0 rfl rfl ?_
      refine g_ldc2_w (pc := 178) E dX9_wait_178 wX9_wait_8 ?_
      obtain ⟨r50, σ51, e49, hf⟩ := fq_b2 hf
      refine g_callVl (pc := 181) E 0 (zm_l (by decide)) (fun _ _ => rfl) rfl [.long (-1000000004 : Int64)] (fun l D sz => qX9_finding l D cy ad sz n σ k (-1000000004 : Int64) e49) gX9_wait_X9_finding rfl rfl rfl kcX9_finding ⟨by decide, by decide⟩ rfl rfl (Nat.le_of_ble_eq_true rfl) dX9_wait_181 ⟨by decide, by decide⟩ ?_
      exact hret _ _ _ _ dX9_wait_184 (Option.some.inj hf)
  · replace hf := fq_f c29 hf
    refine g_aload_n (pc := 152) E dX9_wait_152 0 rfl rfl ?_
    refine g_iload_n (pc := 153) E dX9_wait_153 3 rfl rfl ?_
    obtain ⟨r53, e52, hf⟩ := fq_b hf
    refine g_callVi (pc := 154) E 0 (zm_l (by decide)) (fun _ _ => rfl) rfl [.int x3] (fun l D sz => qX9_isBusy l D cy ad sz n σ k x3 e52) gX9_wait_X9_isBusy rfl rfl rfl kcX9_isBusy ⟨by decide, by decide⟩ rfl rfl (Nat.le_of_ble_eq_true rfl) dX9_wait_154 ⟨by decide, by decide⟩ ?_
    refine g_if_eq (pc := 157) E 168 dX9_wait_157 (by decide) (fun c54 => ?_) (fun c54 => ?_)
    · replace hf := fq_t c54 hf
      refine g_aload_n (pc := 168) E dX9_wait_168 0 rfl rfl ?_
      refine g_getfield (pc := 169) E uX9_wait_X9 0 (zm_l (by decide)) (fun _ _ => rfl) rfl 11 (by decide) wX9_wait_4 (.int (fqI σ 0 11)) rfl dX9_wait_169 ?_
      refine g_bipush (pc := 172) E (10 : Int32) dX9_wait_172 (by decide) ?_
      refine g_icmp_ne (pc := 174) E 185 dX9_wait_174 (by decide) (fun c55 => ?_) (fun c55 => ?_)
      · replace hf := fq_f c55 hf
        refine g_aload_n (pc := 185) E dX9_wait_185 0 rfl rfl ?_
        refine g_getfield (pc := 186) E uX9_wait_X9 0 (zm_l (by decide)) (fun _ _ => rfl) rfl 12 (by decide) wX9_wait_5 (.ref (ad 6)) rfl dX9_wait_186 ?_
        refine g_aload_n (pc := 189) E dX9_wait_189 0 rfl rfl ?_
        refine g_getfield (pc := 190) E uX9_wait_X9 0 (zm_l (by decide)) (fun _ _ => rfl) rfl 11 (by decide) wX9_wait_4 (.int (fqI σ 0 11)) rfl dX9_wait_190 ?_
        refine g_iconst (pc := 193) E (1 : Int32) dX9_wait_193 (by decide) ?_
        refine g_iload_n (pc := 194) E dX9_wait_194 1 rfl rfl ?_
        refine g_ishl (pc := 195) E dX9_wait_195 ?_
        refine g_iload_n (pc := 196) E dX9_wait_196 2 rfl rfl ?_
        refine g_iconst (pc := 197) E (-1 : Int32) dX9_wait_197 (by decide) ?_
        refine g_icmp_ne (pc := 198) E 205 dX9_wait_198 (by decide) (fun c56 => ?_) (fun c56 => ?_)
        · replace hf := fq_f c56 hf
          refine g_iconst (pc := 205) E (1 : Int32) dX9_wait_205 (by decide) ?_
          refine g_iload_n (pc := 206) E dX9_wait_206 2 rfl rfl ?_
          refine g_ishl (pc := 207) E dX9_wait_207 ?_
          refine g_lv [0, 3] rfl ?_
          exact tX9_wait_J208 E hret hf
        · replace hf := fq_t c56 hf
          refine g_iconst (pc := 201) E (0 : Int32) dX9_wait_201 (by decide) ?_
          refine g_goto (pc := 202) E 208 dX9_wait_202 (by decide) ?_
          refine g_lv [0, 3] rfl ?_
          exact tX9_wait_J208 E hret hf
      · replace hf := fq_t c55 hf
        refine g_aload_n (pc := 177) E dX9_wait_177 0 rfl rfl ?_
        refine g_ldc2_w (pc := 178) E dX9_wait_178 wX9_wait_8 ?_
        obtain ⟨r58, σ59, e57, hf⟩ := fq_b2 hf
        refine g_callVl (pc := 181) E 0 (zm_l (by decide)) (fun _ _ => rfl) rfl [.long (-1000000004 : Int64)] (fun l D sz => qX9_finding l D cy ad sz n σ k (-1000000004 : Int64) e57) gX9_wait_X9_finding rfl rfl rfl kcX9_finding ⟨by decide, by decide⟩ rfl rfl (Nat.le_of_ble_eq_true rfl) dX9_wait_181 ⟨by decide, by decide⟩ ?_
        exact hret _ _ _ _ dX9_wait_184 (Option.some.inj hf)
    · replace hf := fq_f c54 hf
      refine g_aload_n (pc := 160) E dX9_wait_160 0 rfl rfl ?_
      refine g_ldc2_w (pc := 161) E dX9_wait_161 wX9_wait_3 ?_
      obtain ⟨r61, σ62, e60, hf⟩ := fq_b2 hf
      refine g_callVl (pc := 164) E 0 (zm_l (by decide)) (fun _ _ => rfl) rfl [.long (-1000000003 : Int64)] (fun l D sz => qX9_finding l D cy ad sz n σ k (-1000000003 : Int64) e60) gX9_wait_X9_finding rfl rfl rfl kcX9_finding ⟨by decide, by decide⟩ rfl rfl (Nat.le_of_ble_eq_true rfl) dX9_wait_164 ⟨by decide, by decide⟩ ?_
      exact hret _ _ _ _ dX9_wait_167 (Option.some.inj hf)
set_option maxRecDepth 100000 in
set_option maxHeartbeats 4000000 in
theorem tX9_wait_J106 {k : Nat} {X : fqX} {cy : Nat → ClassId} {ad : Nat → Nat} {n : Nat} {r : Int64} {σ' : fqS} {x1 : Int32} {x2 : Int32} {x3 : Int32} {s0 : Int32} {s1 : Int32} {σ : fqS} (E : fqE X ({ frames := 2, cells := 0, slots := 0, locals := 46 } : Room) cy cX9_wait 6 wsX9_wait RX9) (hret : fqR_l X (TM cy) ZM ad n 6 cX9_wait r σ') (hf : pX9_wait_J106 k n x1 x2 x3 s0 s1 σ = some (r, σ')) : fqG X (TM cy) ZM ad n 6 0 0 σ 106 [(0, .ref (ad 0)), (1, .int x1), (2, .int x2), (3, .int x3)] [.int s1, .int s0] := by
  unfold pX9_wait_J106 at hf
  refine g_iadd (pc := 106) E dX9_wait_106 ?_
  refine g_istore (pc := 107) E [(5, .int (s0 + s1)), (0, .ref (ad 0)), (1, .int x1), (2, .int x2), (3, .int x3)] dX9_wait_107 (by decide) rfl ?_
  refine g_iload (pc := 109) E dX9_wait_109 0 rfl ?_
  refine g_aload_n (pc := 111) E dX9_wait_111 1 rfl rfl ?_
  refine g_getfield (pc := 112) E uX9_wait_X9 0 (zm_l (by decide)) (fun _ _ => rfl) rfl 6 (by decide) wX9_wait_1 (.int (fqI σ 0 6)) rfl dX9_wait_112 ?_
  refine g_icmp_le (pc := 115) E 126 dX9_wait_115 (by decide) (fun c21 => ?_) (fun c21 => ?_)
  · replace hf := fq_t c21 hf
    refine g_aload_n (pc := 126) E dX9_wait_126 1 rfl rfl ?_
    refine g_iload_n (pc := 127) E dX9_wait_127 2 rfl rfl ?_
    obtain ⟨r23, e22, hf⟩ := fq_b hf
    refine g_callVi (pc := 128) E 0 (zm_l (by decide)) (fun _ _ => rfl) rfl [.int x1] (fun l D sz => qX9_isBusy l D cy ad sz n σ k x1 e22) gX9_wait_X9_isBusy rfl rfl rfl kcX9_isBusy ⟨by decide, by decide⟩ rfl rfl (Nat.le_of_ble_eq_true rfl) dX9_wait_128 ⟨by decide, by decide⟩ ?_
    refine g_if_ne (pc := 131) E 160 dX9_wait_131 (by decide) (fun c24 => ?_) (fun c24 => ?_)
    · replace hf := fq_f c24 hf
      refine g_aload_n (pc := 160) E dX9_wait_160 1 rfl rfl ?_
      refine g_ldc2_w (pc := 161) E dX9_wait_161 wX9_wait_3 ?_
      obtain ⟨r26, σ27, e25, hf⟩ := fq_b2 hf
      refine g_callVl (pc := 164) E 0 (zm_l (by decide)) (fun _ _ => rfl) rfl [.long (-1000000003 : Int64)] (fun l D sz => qX9_finding l D cy ad sz n σ k (-1000000003 : Int64) e25) gX9_wait_X9_finding rfl rfl rfl kcX9_finding ⟨by decide, by decide⟩ rfl rfl (Nat.le_of_ble_eq_true rfl) dX9_wait_164 ⟨by decide, by decide⟩ ?_
      exact hret _ _ _ _ dX9_wait_167 (Option.some.inj hf)
    · replace hf := fq_t c24 hf
      refine g_iload_n (pc := 134) E dX9_wait_134 3 rfl rfl ?_
      refine g_iconst (pc := 135) E (-1 : Int32) dX9_wait_135 (by decide) ?_
      refine g_icmp_eq (pc := 136) E 147 dX9_wait_136 (by decide) (fun c28 => ?_) (fun c28 => ?_)
      · replace hf := fq_t c28 hf
        refine g_lv [1, 2, 3, 4] rfl ?_
        exact tX9_wait_J147 E hret hf
      · replace hf := fq_f c28 hf
        refine g_aload_n (pc := 139) E dX9_wait_139 1 rfl rfl ?_
        refine g_iload_n (pc := 140) E dX9_wait_140 3 rfl rfl ?_
        obtain ⟨r64, e63, hf⟩ := fq_b hf
        refine g_callVi (pc := 141) E 0 (zm_l (by decide)) (fun _ _ => rfl) rfl [.int x2] (fun l D sz => qX9_isBusy l D cy ad sz n σ k x2 e63) gX9_wait_X9_isBusy rfl rfl rfl kcX9_isBusy ⟨by decide, by decide⟩ rfl rfl (Nat.le_of_ble_eq_true rfl) dX9_wait_141 ⟨by decide, by decide⟩ ?_
        refine g_if_ne (pc := 144) E 160 dX9_wait_144 (by decide) (fun c65 => ?_) (fun c65 => ?_)
        · replace hf := fq_f c65 hf
          refine g_aload_n (pc := 160) E dX9_wait_160 1 rfl rfl ?_
          refine g_ldc2_w (pc := 161) E dX9_wait_161 wX9_wait_3 ?_
          obtain ⟨r67, σ68, e66, hf⟩ := fq_b2 hf
          refine g_callVl (pc := 164) E 0 (zm_l (by decide)) (fun _ _ => rfl) rfl [.long (-1000000003 : Int64)] (fun l D sz => qX9_finding l D cy ad sz n σ k (-1000000003 : Int64) e66) gX9_wait_X9_finding rfl rfl rfl kcX9_finding ⟨by decide, by decide⟩ rfl rfl (Nat.le_of_ble_eq_true rfl) dX9_wait_164 ⟨by decide, by decide⟩ ?_
          exact hret _ _ _ _ dX9_wait_167 (Option.some.inj hf)
        · replace hf := fq_t c65 hf
          refine g_lv [1, 2, 3, 4] rfl ?_
          exact tX9_wait_J147 E hret hf
  · replace hf := fq_f c21 hf
    refine g_aload_n (pc := 118) E dX9_wait_118 1 rfl rfl ?_
    refine g_ldc2_w (pc := 119) E dX9_wait_119 wX9_wait_9 ?_
    obtain ⟨r70, σ71, e69, hf⟩ := fq_b2 hf
    refine g_callVl (pc := 122) E 0 (zm_l (by decide)) (fun _ _ => rfl) rfl [.long (-1000000005 : Int64)] (fun l D sz => qX9_finding l D cy ad sz n σ k (-1000000005 : Int64) e69) gX9_wait_X9_finding rfl rfl rfl kcX9_finding ⟨by decide, by decide⟩ rfl rfl (Nat.le_of_ble_eq_true rfl) dX9_wait_122 ⟨by decide, by decide⟩ ?_
    exact hret _ _ _ _ dX9_wait_125 (Option.some.inj hf)
set_option maxRecDepth 100000 in
set_option maxHeartbeats 4000000 in
theorem tX9_wait_J56 {k : Nat} {X : fqX} {cy : Nat → ClassId} {ad : Nat → Nat} {n : Nat} {r : Int64} {σ' : fqS} {x1 : Int32} {x2 : Int32} {x3 : Int32} {σ : fqS} (E : fqE X ({ frames := 2, cells := 0, slots := 0, locals := 46 } : Room) cy cX9_wait 6 wsX9_wait RX9) (hret : fqR_l X (TM cy) ZM ad n 6 cX9_wait r σ') (hf : pX9_wait_J56 k n x1 x2 x3 σ = some (r, σ')) : fqG X (TM cy) ZM ad n 6 0 0 σ 56 [(0, .ref (ad 0)), (1, .int x1), (2, .int x2), (3, .int x3)] [] := by
  unfold pX9_wait_J56 at hf
  refine g_iload_n (pc := 56) E dX9_wait_56 1 rfl rfl ?_
  refine g_iload_n (pc := 57) E dX9_wait_57 2 rfl rfl ?_
  refine g_icmp_eq (pc := 58) E 76 dX9_wait_58 (by decide) (fun c10 => ?_) (fun c10 => ?_)
  · replace hf := fq_t c10 hf
    refine g_aload_n (pc := 76) E dX9_wait_76 0 rfl rfl ?_
    refine g_ldc2_w (pc := 77) E dX9_wait_77 wX9_wait_0 ?_
    obtain ⟨r12, σ13, e11, hf⟩ := fq_b2 hf
    refine g_callVl (pc := 80) E 0 (zm_l (by decide)) (fun _ _ => rfl) rfl [.long (-1000000001 : Int64)] (fun l D sz => qX9_finding l D cy ad sz n σ k (-1000000001 : Int64) e11) gX9_wait_X9_finding rfl rfl rfl kcX9_finding ⟨by decide, by decide⟩ rfl rfl (Nat.le_of_ble_eq_true rfl) dX9_wait_80 ⟨by decide, by decide⟩ ?_
    exact hret _ _ _ _ dX9_wait_83 (Option.some.inj hf)
  · replace hf := fq_f c10 hf
    refine g_iload_n (pc := 61) E dX9_wait_61 1 rfl rfl ?_
    refine g_iload_n (pc := 62) E dX9_wait_62 3 rfl rfl ?_
    refine g_icmp_eq (pc := 63) E 76 dX9_wait_63 (by decide) (fun c14 => ?_) (fun c14 => ?_)
    · replace hf := fq_t c14 hf
      refine g_aload_n (pc := 76) E dX9_wait_76 0 rfl rfl ?_
      refine g_ldc2_w (pc := 77) E dX9_wait_77 wX9_wait_0 ?_
      obtain ⟨r16, σ17, e15, hf⟩ := fq_b2 hf
      refine g_callVl (pc := 80) E 0 (zm_l (by decide)) (fun _ _ => rfl) rfl [.long (-1000000001 : Int64)] (fun l D sz => qX9_finding l D cy ad sz n σ k (-1000000001 : Int64) e15) gX9_wait_X9_finding rfl rfl rfl kcX9_finding ⟨by decide, by decide⟩ rfl rfl (Nat.le_of_ble_eq_true rfl) dX9_wait_80 ⟨by decide, by decide⟩ ?_
      exact hret _ _ _ _ dX9_wait_83 (Option.some.inj hf)
    · replace hf := fq_f c14 hf
      refine g_iload_n (pc := 66) E dX9_wait_66 2 rfl rfl ?_
      refine g_iload_n (pc := 67) E dX9_wait_67 3 rfl rfl ?_
      refine g_icmp_ne (pc := 68) E 84 dX9_wait_68 (by decide) (fun c18 => ?_) (fun c18 => ?_)
      · replace hf := fq_f c18 hf
        refine g_iconst (pc := 84) E (1 : Int32) dX9_wait_84 (by decide) ?_
        refine g_iload_n (pc := 85) E dX9_wait_85 2 rfl rfl ?_
        refine g_iconst (pc := 86) E (-1 : Int32) dX9_wait_86 (by decide) ?_
        refine g_icmp_ne (pc := 87) E 94 dX9_wait_87 (by decide) (fun c19 => ?_) (fun c19 => ?_)
        · replace hf := fq_f c19 hf
          refine g_iconst (pc := 94) E (1 : Int32) dX9_wait_94 (by decide) ?_
          refine g_iadd (pc := 95) E dX9_wait_95 ?_
          refine g_iload_n (pc := 96) E dX9_wait_96 3 rfl rfl ?_
          refine g_iconst (pc := 97) E (-1 : Int32) dX9_wait_97 (by decide) ?_
          refine g_icmp_ne (pc := 98) E 105 dX9_wait_98 (by decide) (fun c20 => ?_) (fun c20 => ?_)
          · replace hf := fq_f c20 hf
            refine g_iconst (pc := 105) E (1 : Int32) dX9_wait_105 (by decide) ?_
            exact tX9_wait_J106 E hret hf
          · replace hf := fq_t c20 hf
            refine g_iconst (pc := 101) E (0 : Int32) dX9_wait_101 (by decide) ?_
            refine g_goto (pc := 102) E 106 dX9_wait_102 (by decide) ?_
            exact tX9_wait_J106 E hret hf
        · replace hf := fq_t c19 hf
          refine g_iconst (pc := 90) E (0 : Int32) dX9_wait_90 (by decide) ?_
          refine g_goto (pc := 91) E 95 dX9_wait_91 (by decide) ?_
          refine g_iadd (pc := 95) E dX9_wait_95 ?_
          refine g_iload_n (pc := 96) E dX9_wait_96 3 rfl rfl ?_
          refine g_iconst (pc := 97) E (-1 : Int32) dX9_wait_97 (by decide) ?_
          refine g_icmp_ne (pc := 98) E 105 dX9_wait_98 (by decide) (fun c72 => ?_) (fun c72 => ?_)
          · replace hf := fq_f c72 hf
            refine g_iconst (pc := 105) E (1 : Int32) dX9_wait_105 (by decide) ?_
            exact tX9_wait_J106 E hret hf
          · replace hf := fq_t c72 hf
            refine g_iconst (pc := 101) E (0 : Int32) dX9_wait_101 (by decide) ?_
            refine g_goto (pc := 102) E 106 dX9_wait_102 (by decide) ?_
            exact tX9_wait_J106 E hret hf
      · replace hf := fq_t c18 hf
        refine g_iload_n (pc := 71) E dX9_wait_71 2 rfl rfl ?_
        refine g_iconst (pc := 72) E (-1 : Int32) dX9_wait_72 (by decide) ?_
        refine g_icmp_eq (pc := 73) E 84 dX9_wait_73 (by decide) (fun c73 => ?_) (fun c73 => ?_)
        · replace hf := fq_t c73 hf
          refine g_iconst (pc := 84) E (1 : Int32) dX9_wait_84 (by decide) ?_
          refine g_iload_n (pc := 85) E dX9_wait_85 2 rfl rfl ?_
          refine g_iconst (pc := 86) E (-1 : Int32) dX9_wait_86 (by decide) ?_
          refine g_icmp_ne (pc := 87) E 94 dX9_wait_87 (by decide) (fun c74 => ?_) (fun c74 => ?_)
          · replace hf := fq_f c74 hf
            refine g_iconst (pc := 94) E (1 : Int32) dX9_wait_94 (by decide) ?_
            refine g_iadd (pc := 95) E dX9_wait_95 ?_
            refine g_iload_n (pc := 96) E dX9_wait_96 3 rfl rfl ?_
            refine g_iconst (pc := 97) E (-1 : Int32) dX9_wait_97 (by decide) ?_
            refine g_icmp_ne (pc := 98) E 105 dX9_wait_98 (by decide) (fun c75 => ?_) (fun c75 => ?_)
            · replace hf := fq_f c75 hf
              refine g_iconst (pc := 105) E (1 : Int32) dX9_wait_105 (by decide) ?_
              exact tX9_wait_J106 E hret hf
            · replace hf := fq_t c75 hf
              refine g_iconst (pc := 101) E (0 : Int32) dX9_wait_101 (by decide) ?_
              refine g_goto (pc := 102) E 106 dX9_wait_102 (by decide) ?_
              exact tX9_wait_J106 E hret hf
          · replace hf := fq_t c74 hf
            refine g_iconst (pc := 90) E (0 : Int32) dX9_wait_90 (by decide) ?_
            refine g_goto (pc := 91) E 95 dX9_wait_91 (by decide) ?_
            refine g_iadd (pc := 95) E dX9_wait_95 ?_
            refine g_iload_n (pc := 96) E dX9_wait_96 3 rfl rfl ?_
            refine g_iconst (pc := 97) E (-1 : Int32) dX9_wait_97 (by decide) ?_
            refine g_icmp_ne (pc := 98) E 105 dX9_wait_98 (by decide) (fun c76 => ?_) (fun c76 => ?_)
            · replace hf := fq_f c76 hf
              refine g_iconst (pc := 105) E (1 : Int32) dX9_wait_105 (by decide) ?_
              exact tX9_wait_J106 E hret hf
            · replace hf := fq_t c76 hf
              refine g_iconst (pc := 101) E (0 : Int32) dX9_wait_101 (by decide) ?_
              refine g_goto (pc := 102) E 106 dX9_wait_102 (by decide) ?_
              exact tX9_wait_J106 E hret hf
        · replace hf := fq_f c73 hf
          refine g_aload_n (pc := 76) E dX9_wait_76 0 rfl rfl ?_
          refine g_ldc2_w (pc := 77) E dX9_wait_77 wX9_wait_0 ?_
          obtain ⟨r78, σ79, e77, hf⟩ := fq_b2 hf
          refine g_callVl (pc := 80) E 0 (zm_l (by decide)) (fun _ _ => rfl) rfl [.long (-1000000001 : Int64)] (fun l D sz => qX9_finding l D cy ad sz n σ k (-1000000001 : Int64) e77) gX9_wait_X9_finding rfl rfl rfl kcX9_finding ⟨by decide, by decide⟩ rfl rfl (Nat.le_of_ble_eq_true rfl) dX9_wait_80 ⟨by decide, by decide⟩ ?_
          exact hret _ _ _ _ dX9_wait_83 (Option.some.inj hf)
set_option maxRecDepth 100000 in
set_option maxHeartbeats 4000000 in
theorem tX9_wait_J21 {k : Nat} {X : fqX} {cy : Nat → ClassId} {ad : Nat → Nat} {n : Nat} {r : Int64} {σ' : fqS} {x1 : Int32} {x2 : Int32} {x3 : Int32} {σ : fqS} (E : fqE X ({ frames := 2, cells := 0, slots := 0, locals := 46 } : Room) cy cX9_wait 6 wsX9_wait RX9) (hret : fqR_l X (TM cy) ZM ad n 6 cX9_wait r σ') (hf : pX9_wait_J21 k n x1 x2 x3 σ = some (r, σ')) : fqG X (TM cy) ZM ad n 6 0 0 σ 21 [(0, .ref (ad 0)), (1, .int x1), (2, .int x2), (3, .int x3)] [] := by
  unfold pX9_wait_J21 at hf
  refine g_iload_n (pc := 21) E dX9_wait_21 3 rfl rfl ?_
  refine g_iconst (pc := 22) E (-1 : Int32) dX9_wait_22 (by decide) ?_
  refine g_icmp_eq (pc := 23) E 34 dX9_wait_23 (by decide) (fun c8 => ?_) (fun c8 => ?_)
  · replace hf := fq_t c8 hf
    refine g_iconst (pc := 34) E (1 : Int32) dX9_wait_34 (by decide) ?_
    refine g_goto (pc := 35) E 39 dX9_wait_35 (by decide) ?_
    refine g_istore (pc := 39) E [(4, .int (1 : Int32)), (0, .ref (ad 0)), (1, .int x1), (2, .int x2), (3, .int x3)] dX9_wait_39 (by decide) rfl ?_
    refine g_iload (pc := 41) E dX9_wait_41 0 rfl ?_
    refine g_if_eq (pc := 43) E 76 dX9_wait_43 (by decide) (fun h => absurd h (by decide)) (fun _ => ?_)
    refine g_iload_n (pc := 46) E dX9_wait_46 3 rfl rfl ?_
    refine g_iconst (pc := 47) E (-1 : Int32) dX9_wait_47 (by decide) ?_
    refine g_icmp_ne (pc := 48) E 56 dX9_wait_48 (by decide) (fun c9 => ?_) (fun c9 => ?_)
    · replace hf := fq_f c9 hf
      refine g_lv [1, 2, 3, 4] rfl ?_
      exact tX9_wait_J56 E hret hf
    · replace hf := fq_t c9 hf
      refine g_iload_n (pc := 51) E dX9_wait_51 4 rfl rfl ?_
      refine g_iconst (pc := 52) E (-1 : Int32) dX9_wait_52 (by decide) ?_
      refine g_icmp_ne (pc := 53) E 76 dX9_wait_53 (by decide) (fun c80 => ?_) (fun c80 => ?_)
      · replace hf := fq_f c80 hf
        refine g_aload_n (pc := 76) E dX9_wait_76 1 rfl rfl ?_
        refine g_ldc2_w (pc := 77) E dX9_wait_77 wX9_wait_0 ?_
        obtain ⟨r82, σ83, e81, hf⟩ := fq_b2 hf
        refine g_callVl (pc := 80) E 0 (zm_l (by decide)) (fun _ _ => rfl) rfl [.long (-1000000001 : Int64)] (fun l D sz => qX9_finding l D cy ad sz n σ k (-1000000001 : Int64) e81) gX9_wait_X9_finding rfl rfl rfl kcX9_finding ⟨by decide, by decide⟩ rfl rfl (Nat.le_of_ble_eq_true rfl) dX9_wait_80 ⟨by decide, by decide⟩ ?_
        exact hret _ _ _ _ dX9_wait_83 (Option.some.inj hf)
      · replace hf := fq_t c80 hf
        refine g_lv [1, 2, 3, 4] rfl ?_
        exact tX9_wait_J56 E hret hf
  · replace hf := fq_f c8 hf
    refine g_aload_n (pc := 26) E dX9_wait_26 0 rfl rfl ?_
    refine g_iload_n (pc := 27) E dX9_wait_27 3 rfl rfl ?_
    obtain ⟨r85, e84, hf⟩ := fq_b hf
    refine g_callVi (pc := 28) E 0 (zm_l (by decide)) (fun _ _ => rfl) rfl [.int x3] (fun l D sz => qX9_isPlayer l D cy ad sz n σ k x3 e84) gX9_wait_X9_isPlayer rfl rfl rfl kcX9_isPlayer ⟨by decide, by decide⟩ rfl rfl (Nat.le_of_ble_eq_true rfl) dX9_wait_28 ⟨by decide, by decide⟩ ?_
    refine g_if_eq (pc := 31) E 38 dX9_wait_31 (by decide) (fun c86 => ?_) (fun c86 => ?_)
    · replace hf := fq_t c86 hf
      exact tX9_wait_J38 E hret hf
    · replace hf := fq_f c86 hf
      refine g_iconst (pc := 34) E (1 : Int32) dX9_wait_34 (by decide) ?_
      refine g_goto (pc := 35) E 39 dX9_wait_35 (by decide) ?_
      refine g_istore (pc := 39) E [(4, .int (1 : Int32)), (0, .ref (ad 0)), (1, .int x1), (2, .int x2), (3, .int x3)] dX9_wait_39 (by decide) rfl ?_
      refine g_iload (pc := 41) E dX9_wait_41 0 rfl ?_
      refine g_if_eq (pc := 43) E 76 dX9_wait_43 (by decide) (fun h => absurd h (by decide)) (fun _ => ?_)
      refine g_iload_n (pc := 46) E dX9_wait_46 3 rfl rfl ?_
      refine g_iconst (pc := 47) E (-1 : Int32) dX9_wait_47 (by decide) ?_
      refine g_icmp_ne (pc := 48) E 56 dX9_wait_48 (by decide) (fun c87 => ?_) (fun c87 => ?_)
      · replace hf := fq_f c87 hf
        refine g_lv [1, 2, 3, 4] rfl ?_
        exact tX9_wait_J56 E hret hf
      · replace hf := fq_t c87 hf
        refine g_iload_n (pc := 51) E dX9_wait_51 4 rfl rfl ?_
        refine g_iconst (pc := 52) E (-1 : Int32) dX9_wait_52 (by decide) ?_
        refine g_icmp_ne (pc := 53) E 76 dX9_wait_53 (by decide) (fun c88 => ?_) (fun c88 => ?_)
        · replace hf := fq_f c88 hf
          refine g_aload_n (pc := 76) E dX9_wait_76 1 rfl rfl ?_
          refine g_ldc2_w (pc := 77) E dX9_wait_77 wX9_wait_0 ?_
          obtain ⟨r90, σ91, e89, hf⟩ := fq_b2 hf
          refine g_callVl (pc := 80) E 0 (zm_l (by decide)) (fun _ _ => rfl) rfl [.long (-1000000001 : Int64)] (fun l D sz => qX9_finding l D cy ad sz n σ k (-1000000001 : Int64) e89) gX9_wait_X9_finding rfl rfl rfl kcX9_finding ⟨by decide, by decide⟩ rfl rfl (Nat.le_of_ble_eq_true rfl) dX9_wait_80 ⟨by decide, by decide⟩ ?_
          exact hret _ _ _ _ dX9_wait_83 (Option.some.inj hf)
        · replace hf := fq_t c88 hf
          refine g_lv [1, 2, 3, 4] rfl ?_
          exact tX9_wait_J56 E hret hf
set_option maxRecDepth 100000 in
set_option maxHeartbeats 4000000 in
theorem qX9_wait (l : Launch) (D : va_G) (cy : Nat → ClassId) (ad : Nat → Nat) (sz n : Nat) (σ : fqS) (k : Nat) (x1 : Int32) (x2 : Int32) (x3 : Int32) {r : Int64} {σ' : fqS} (hf : pX9_wait k n σ x1 x2 x3 = some (r, σ')) : Met l yX9_wait wsX9_wait ({ frames := 2, cells := 0, slots := 0, locals := 46 } : Room) (fqPc (TM cy) ZM D cy ad sz n σ [.ref (ad 0), .int x1, .int x2, .int x3]) (fqQl (TM cy) ZM D ad sz n σ r σ') 0 0 (fqA (TM cy) ZM ad sz n σ) := by
  refine fq_enter_l (cc := cX9_wait) (maxL := 6) (own := RX9) _ (by decide) rfl (Nat.le_of_ble_eq_true rfl) rfl (fun X E hret => ?_)
  unfold pX9_wait at hf
  show fqG X (TM cy) ZM ad n 6 0 0 σ 0 [(0, .ref (ad 0)), (1, .int x1), (2, .int x2), (3, .int x3)] []
  refine g_aload_n (pc := 0) E dX9_wait_0 0 rfl rfl ?_
  refine g_iload_n (pc := 1) E dX9_wait_1 1 rfl rfl ?_
  obtain ⟨r2, e1, hf⟩ := fq_b hf
  refine g_callVi (pc := 2) E 0 (zm_l (by decide)) (fun _ _ => rfl) rfl [.int x1] (fun l D sz => qX9_isPlayer l D cy ad sz n σ k x1 e1) gX9_wait_X9_isPlayer rfl rfl rfl kcX9_isPlayer ⟨by decide, by decide⟩ rfl rfl (Nat.le_of_ble_eq_true rfl) dX9_wait_2 ⟨by decide, by decide⟩ ?_
  refine g_if_eq (pc := 5) E 38 dX9_wait_5 (by decide) (fun c3 => ?_) (fun c3 => ?_)
  · replace hf := fq_t c3 hf
    exact tX9_wait_J38 E hret hf
  · replace hf := fq_f c3 hf
    refine g_iload_n (pc := 8) E dX9_wait_8 2 rfl rfl ?_
    refine g_iconst (pc := 9) E (-1 : Int32) dX9_wait_9 (by decide) ?_
    refine g_icmp_eq (pc := 10) E 21 dX9_wait_10 (by decide) (fun c7 => ?_) (fun c7 => ?_)
    · replace hf := fq_t c7 hf
      exact tX9_wait_J21 E hret hf
    · replace hf := fq_f c7 hf
      refine g_aload_n (pc := 13) E dX9_wait_13 0 rfl rfl ?_
      refine g_iload_n (pc := 14) E dX9_wait_14 2 rfl rfl ?_
      obtain ⟨r93, e92, hf⟩ := fq_b hf
      refine g_callVi (pc := 15) E 0 (zm_l (by decide)) (fun _ _ => rfl) rfl [.int x2] (fun l D sz => qX9_isPlayer l D cy ad sz n σ k x2 e92) gX9_wait_X9_isPlayer rfl rfl rfl kcX9_isPlayer ⟨by decide, by decide⟩ rfl rfl (Nat.le_of_ble_eq_true rfl) dX9_wait_15 ⟨by decide, by decide⟩ ?_
      refine g_if_eq (pc := 18) E 38 dX9_wait_18 (by decide) (fun c94 => ?_) (fun c94 => ?_)
      · replace hf := fq_t c94 hf
        exact tX9_wait_J38 E hret hf
      · replace hf := fq_f c94 hf
        exact tX9_wait_J21 E hret hf
