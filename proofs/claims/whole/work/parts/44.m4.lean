/-! X9_mean -/
theorem wX9_mean_0 : Cond.constantLong RX9 109 (-1000000001) ∈ wsX9_mean := by decide +kernel
theorem kcX9_mean : yX9_mean.cls = RX9 ∧ yX9_mean.cls ≠ "java/lang/invoke/MethodHandle" ∧ yX9_mean.cls ≠ "java/lang/invoke/VarHandle" ∧ (parseMethodDescriptor yX9_mean.desc).map (fun d => d.parameters.length) = some 1 := by decide +kernel
def pX9_mean (k n : Nat) (σ : fqS) (x1 : Int32) : Option (Int64 × fqS) :=
  ((pX9_isPlayer k n σ x1).bind (fun r2 => (if r2 = 0 then (fqB2 (pX9_finding k n σ (-1000000001 : Int64)) (fun r5 σ6 => some (r5, σ6))) else ((pX9_meanOf k n σ x1).bind (fun r8 => some (r8, σ))))))
set_option maxRecDepth 100000 in
set_option maxHeartbeats 4000000 in
theorem qX9_mean (l : Launch) (D : va_G) (cy : Nat → ClassId) (ad : Nat → Nat) (sz n : Nat) (σ : fqS) (k : Nat) (x1 : Int32) {r : Int64} {σ' : fqS} (hf : pX9_mean k n σ x1 = some (r, σ')) : Met l yX9_mean wsX9_mean ({ frames := 2, cells := 0, slots := 0, locals := 46 } : Room) (fqPc (TM cy) ZM D cy ad sz n σ [.ref (ad 0), .int x1]) (fqQl (TM cy) ZM D ad sz n σ r σ') 0 0 (fqA (TM cy) ZM ad sz n σ) := by
  refine fq_enter_l (cc := cX9_mean) (maxL := 2) (own := RX9) _ (by decide) rfl (Nat.le_of_ble_eq_true rfl) rfl (fun X E hret => ?_)
  unfold pX9_mean at hf
  show fqG X (TM cy) ZM ad n 2 0 0 σ 0 [(0, .ref (ad 0)), (1, .int x1)] []
  refine g_aload_n (pc := 0) E dX9_mean_0 0 rfl rfl ?_
  refine g_iload_n (pc := 1) E dX9_mean_1 1 rfl rfl ?_
  obtain ⟨r2, e1, hf⟩ := fq_b hf
  refine g_callVi (pc := 2) E 0 (zm_l (by decide)) (fun _ _ => rfl) rfl [.int x1] (fun l D sz => qX9_isPlayer l D cy ad sz n σ k x1 e1) gX9_mean_X9_isPlayer rfl rfl rfl kcX9_isPlayer ⟨by decide, by decide⟩ rfl rfl (Nat.le_of_ble_eq_true rfl) dX9_mean_2 ⟨by decide, by decide⟩ ?_
  refine g_if_eq (pc := 5) E 16 dX9_mean_5 (by decide) (fun c3 => ?_) (fun c3 => ?_)
  · replace hf := fq_t c3 hf
    refine g_aload_n (pc := 16) E dX9_mean_16 0 rfl rfl ?_
    refine g_ldc2_w (pc := 17) E dX9_mean_17 wX9_mean_0 ?_
    obtain ⟨r5, σ6, e4, hf⟩ := fq_b2 hf
    refine g_callVl (pc := 20) E 0 (zm_l (by decide)) (fun _ _ => rfl) rfl [.long (-1000000001 : Int64)] (fun l D sz => qX9_finding l D cy ad sz n σ k (-1000000001 : Int64) e4) gX9_mean_X9_finding rfl rfl rfl kcX9_finding ⟨by decide, by decide⟩ rfl rfl (Nat.le_of_ble_eq_true rfl) dX9_mean_20 ⟨by decide, by decide⟩ ?_
    exact hret _ _ _ _ dX9_mean_23 (Option.some.inj hf)
  · replace hf := fq_f c3 hf
    refine g_aload_n (pc := 8) E dX9_mean_8 0 rfl rfl ?_
    refine g_iload_n (pc := 9) E dX9_mean_9 1 rfl rfl ?_
    obtain ⟨r8, e7, hf⟩ := fq_b hf
    refine g_callVl (pc := 10) E 0 (zm_l (by decide)) (fun _ _ => rfl) rfl [.int x1] (fun l D sz => qX9_meanOf l D cy ad sz n σ k x1 e7) gX9_mean_X9_meanOf rfl rfl rfl kcX9_meanOf ⟨by decide, by decide⟩ rfl rfl (Nat.le_of_ble_eq_true rfl) dX9_mean_10 ⟨by decide, by decide⟩ ?_
    refine g_goto (pc := 13) E 23 dX9_mean_13 (by decide) ?_
    exact hret _ _ _ _ dX9_mean_23 (Option.some.inj hf)

/-! X9_middle -/
theorem wX9_middle_0 : Cond.constantLong RX9 105 (142857) ∈ wsX9_middle := by decide +kernel
theorem wX9_middle_1 : Cond.constantLong RX9 103 (142858) ∈ wsX9_middle := by decide +kernel
theorem kcX9_middle : yX9_middle.cls ≠ "java/lang/invoke/MethodHandle" ∧ yX9_middle.cls ≠ "java/lang/invoke/VarHandle" ∧ (parseMethodDescriptor yX9_middle.desc).map (fun d => d.parameters.length) = some 1 := by decide +kernel
def pX9_middle (k n : Nat) (σ : fqS) (x0 : Int32) : Option Int64 :=
  (if x0 = (3 : Int32) then some (142858 : Int64) else some (142857 : Int64))
set_option maxRecDepth 100000 in
set_option maxHeartbeats 4000000 in
theorem qX9_middle (l : Launch) (D : va_G) (cy : Nat → ClassId) (ad : Nat → Nat) (sz n : Nat) (σ : fqS) (k : Nat) (x0 : Int32) {r : Int64} (hf : pX9_middle k n σ x0 = some r) : Met l yX9_middle wsX9_middle ({ frames := 0, cells := 0, slots := 0, locals := 0 } : Room) (fqPc (TM cy) ZM D cy ad sz n σ [.int x0]) (fqQl (TM cy) ZM D ad sz n σ r σ) 0 0 (fqA (TM cy) ZM ad sz n σ) := by
  refine fq_enter_l (cc := cX9_middle) (maxL := 1) (own := RX9) _ (by decide) rfl (Nat.le_of_ble_eq_true rfl) rfl (fun X E hret => ?_)
  unfold pX9_middle at hf
  show fqG X (TM cy) ZM ad n 1 0 0 σ 0 [(0, .int x0)] []
  refine g_iload_n (pc := 0) E dX9_middle_0 0 rfl rfl ?_
  refine g_iconst (pc := 1) E (3 : Int32) dX9_middle_1 (by decide) ?_
  refine g_icmp_ne (pc := 2) E 11 dX9_middle_2 (by decide) (fun c1 => ?_) (fun c1 => ?_)
  · replace hf := fq_f c1 hf
    refine g_ldc2_w (pc := 11) E dX9_middle_11 wX9_middle_0 ?_
    exact hret _ _ _ _ dX9_middle_14 (congrArg (fun z => (z, σ)) (Option.some.inj hf))
  · replace hf := fq_t c1 hf
    refine g_ldc2_w (pc := 5) E dX9_middle_5 wX9_middle_1 ?_
    refine g_goto (pc := 8) E 14 dX9_middle_8 (by decide) ?_
    exact hret _ _ _ _ dX9_middle_14 (congrArg (fun z => (z, σ)) (Option.some.inj hf))

/-! X9_pairing -/
theorem wX9_pairing_0 : Cond.constantLong RX9 109 (-1000000001) ∈ wsX9_pairing := by decide +kernel
theorem wX9_pairing_1 : Cond.constantLong RX9 107 (2) ∈ wsX9_pairing := by decide +kernel
theorem wX9_pairing_2 : Cond.fieldLink RX9 192 "FairQueueModel" "bestSecond" "I" ∈ wsX9_pairing := by decide +kernel
theorem uX9_pairing_X9 : ∀ w ∈ u_ws RX9 TX9 33, w ∈ wsX9_pairing := (fun _ h => List.mem_cons_of_mem _ (List.mem_append_right _ h))
theorem wX9_pairing_4 : Cond.fieldLink RX9 185 "FairQueueModel" "bestFirst" "I" ∈ wsX9_pairing := by decide +kernel
theorem wX9_pairing_5 : Cond.fieldLink RX9 188 "FairQueueModel" "bestUneven" "J" ∈ wsX9_pairing := by decide +kernel
theorem wX9_pairing_6 : Cond.constantLong RX9 173 (-1000000002) ∈ wsX9_pairing := by decide +kernel
theorem kcX9_pairing : yX9_pairing.cls = RX9 ∧ yX9_pairing.cls ≠ "java/lang/invoke/MethodHandle" ∧ yX9_pairing.cls ≠ "java/lang/invoke/VarHandle" ∧ (parseMethodDescriptor yX9_pairing.desc).map (fun d => d.parameters.length) = some 2 := by decide +kernel
def pX9_pairing (k n : Nat) (σ : fqS) (x1 : Int32) (x2 : Int32) : Option (Int64 × fqS) :=
  ((pX9_isPlayer k n σ x1).bind (fun r2 => (if r2 = 0 then (fqB2 (pX9_finding k n σ (-1000000001 : Int64)) (fun r5 σ6 => some (r5, σ6))) else ((pX9_in k n σ (Int32.toInt64 x2) (0 : Int64) (2 : Int64)).bind (fun r8 => (if r8 = 0 then (fqB2 (pX9_finding k n σ (-1000000001 : Int64)) (fun r32 σ33 => some (r32, σ33))) else ((pX9_partyOf k n σ x1).bind (fun r11 => (if 0 ≤ r11 then ((pX9_laySets k n σ).bind (fun σ14 => (fqB2 (pX9_findPairing k n σ14 r11 (1023 : Int32)) (fun r16 σ17 => (if r16 = 0 then (fqB2 (pX9_finding k n σ17 (-1000000002 : Int64)) (fun r26 σ27 => some (r26, σ27))) else (if x2 = 0 then some ((fqJ σ17 0 28), σ17) else (if x2 = (1 : Int32) then ((pX9_playersOf k n σ17 (fqI σ17 0 26)).bind (fun r24 => some ((Int32.toInt64 r24), σ17))) else ((pX9_playersOf k n σ17 (fqI σ17 0 27)).bind (fun r22 => some ((Int32.toInt64 r22), σ17)))))))))) else (fqB2 (pX9_finding k n σ (-1000000002 : Int64)) (fun r29 σ30 => some (r29, σ30))))))))))))
set_option maxRecDepth 100000 in
set_option maxHeartbeats 4000000 in
theorem qX9_pairing (l : Launch) (D : va_G) (cy : Nat → ClassId) (ad : Nat → Nat) (sz n : Nat) (σ : fqS) (k : Nat) (x1 : Int32) (x2 : Int32) {r : Int64} {σ' : fqS} (hf : pX9_pairing k n σ x1 x2 = some (r, σ')) : Met l yX9_pairing wsX9_pairing ({ frames := 2, cells := 0, slots := 0, locals := 49 } : Room) (fqPc (TM cy) ZM D cy ad sz n σ [.ref (ad 0), .int x1, .int x2]) (fqQl (TM cy) ZM D ad sz n σ r σ') 0 0 (fqA (TM cy) ZM ad sz n σ) := by
  refine fq_enter_l (cc := cX9_pairing) (maxL := 4) (own := RX9) _ (by decide) rfl (Nat.le_of_ble_eq_true rfl) rfl (fun X E hret => ?_)
  unfold pX9_pairing at hf
  show fqG X (TM cy) ZM ad n 4 0 0 σ 0 [(0, .ref (ad 0)), (1, .int x1), (2, .int x2)] []
  refine g_aload_n (pc := 0) E dX9_pairing_0 0 rfl rfl ?_
  refine g_iload_n (pc := 1) E dX9_pairing_1 1 rfl rfl ?_
  obtain ⟨r2, e1, hf⟩ := fq_b hf
  refine g_callVi (pc := 2) E 0 (zm_l (by decide)) (fun _ _ => rfl) rfl [.int x1] (fun l D sz => qX9_isPlayer l D cy ad sz n σ k x1 e1) gX9_pairing_X9_isPlayer rfl rfl rfl kcX9_isPlayer ⟨by decide, by decide⟩ rfl rfl (Nat.le_of_ble_eq_true rfl) dX9_pairing_2 ⟨by decide, by decide⟩ ?_
  refine g_if_eq (pc := 5) E 20 dX9_pairing_5 (by decide) (fun c3 => ?_) (fun c3 => ?_)
  · replace hf := fq_t c3 hf
    refine g_aload_n (pc := 20) E dX9_pairing_20 0 rfl rfl ?_
    refine g_ldc2_w (pc := 21) E dX9_pairing_21 wX9_pairing_0 ?_
    obtain ⟨r5, σ6, e4, hf⟩ := fq_b2 hf
    refine g_callVl (pc := 24) E 0 (zm_l (by decide)) (fun _ _ => rfl) rfl [.long (-1000000001 : Int64)] (fun l D sz => qX9_finding l D cy ad sz n σ k (-1000000001 : Int64) e4) gX9_pairing_X9_finding rfl rfl rfl kcX9_finding ⟨by decide, by decide⟩ rfl rfl (Nat.le_of_ble_eq_true rfl) dX9_pairing_24 ⟨by decide, by decide⟩ ?_
    exact hret _ _ _ _ dX9_pairing_27 (Option.some.inj hf)
  · replace hf := fq_f c3 hf
    refine g_iload_n (pc := 8) E dX9_pairing_8 2 rfl rfl ?_
    refine g_i2l (pc := 9) E dX9_pairing_9 ?_
    refine g_lconst (pc := 10) E (0 : Int64) dX9_pairing_10 (by decide) ?_
    refine g_ldc2_w (pc := 11) E dX9_pairing_11 wX9_pairing_1 ?_
    obtain ⟨r8, e7, hf⟩ := fq_b hf
    refine g_callSi (pc := 14) E [.long (Int32.toInt64 x2), .long (0 : Int64), .long (2 : Int64)] (fun l D sz => qX9_in l D cy ad sz n σ k (Int32.toInt64 x2) (0 : Int64) (2 : Int64) e7) gX9_pairing_X9_in rfl rfl rfl kcX9_in ⟨by decide, by decide⟩ rfl rfl (Nat.le_of_ble_eq_true rfl) dX9_pairing_14 ⟨by decide, by decide⟩ ?_
    refine g_if_ne (pc := 17) E 28 dX9_pairing_17 (by decide) (fun c9 => ?_) (fun c9 => ?_)
    · replace hf := fq_f c9 hf
      refine g_aload_n (pc := 28) E dX9_pairing_28 0 rfl rfl ?_
      refine g_iload_n (pc := 29) E dX9_pairing_29 1 rfl rfl ?_
      obtain ⟨r11, e10, hf⟩ := fq_b hf
      refine g_callVi (pc := 30) E 0 (zm_l (by decide)) (fun _ _ => rfl) rfl [.int x1] (fun l D sz => qX9_partyOf l D cy ad sz n σ k x1 e10) gX9_pairing_X9_partyOf rfl rfl rfl kcX9_partyOf ⟨by decide, by decide⟩ rfl rfl (Nat.le_of_ble_eq_true rfl) dX9_pairing_30 ⟨by decide, by decide⟩ ?_
      refine g_istore_n (pc := 33) E [(3, .int r11), (0, .ref (ad 0)), (1, .int x1), (2, .int x2)] dX9_pairing_33 rfl (by decide) rfl ?_
      refine g_iload_n (pc := 34) E dX9_pairing_34 0 rfl rfl ?_
      refine g_if_ge (pc := 35) E 46 dX9_pairing_35 (by decide) (fun c12 => ?_) (fun c12 => ?_)
      · replace hf := fq_t c12 hf
        refine g_aload_n (pc := 46) E dX9_pairing_46 1 rfl rfl ?_
        obtain ⟨σ14, e13, hf⟩ := fq_b hf
        refine g_callVv (pc := 47) E 0 (zm_l (by decide)) (fun _ _ => rfl) rfl [] (fun l D sz => qX9_laySets l D cy ad sz n σ k e13) gX9_pairing_X9_laySets rfl rfl rfl kcX9_laySets ⟨by decide, by decide⟩ rfl rfl (Nat.le_of_ble_eq_true rfl) dX9_pairing_47 ⟨by decide, by decide⟩ ?_
        refine g_aload_n (pc := 50) E dX9_pairing_50 1 rfl rfl ?_
        refine g_iload_n (pc := 51) E dX9_pairing_51 0 rfl rfl ?_
        refine g_sipush (pc := 52) E (1023 : Int32) dX9_pairing_52 (by decide) ?_
        obtain ⟨r16, σ17, e15, hf⟩ := fq_b2 hf
        refine g_callVi (pc := 55) E 0 (zm_l (by decide)) (fun _ _ => rfl) rfl [.int r11, .int (1023 : Int32)] (fun l D sz => qX9_findPairing l D cy ad sz n σ14 k r11 (1023 : Int32) e15) gX9_pairing_X9_findPairing rfl rfl rfl kcX9_findPairing ⟨by decide, by decide⟩ rfl rfl (Nat.le_of_ble_eq_true rfl) dX9_pairing_55 ⟨by decide, by decide⟩ ?_
        refine g_if_ne (pc := 58) E 69 dX9_pairing_58 (by decide) (fun c18 => ?_) (fun c18 => ?_)
        · replace hf := fq_f c18 hf
          refine g_iload_n (pc := 69) E dX9_pairing_69 3 rfl rfl ?_
          refine g_if_ne (pc := 70) E 80 dX9_pairing_70 (by decide) (fun c19 => ?_) (fun c19 => ?_)
          · replace hf := fq_f c19 hf
            refine g_aload_n (pc := 80) E dX9_pairing_80 1 rfl rfl ?_
            refine g_iload_n (pc := 81) E dX9_pairing_81 3 rfl rfl ?_
            refine g_iconst (pc := 82) E (1 : Int32) dX9_pairing_82 (by decide) ?_
            refine g_icmp_ne (pc := 83) E 93 dX9_pairing_83 (by decide) (fun c20 => ?_) (fun c20 => ?_)
            · replace hf := fq_f c20 hf
              refine g_aload_n (pc := 93) E dX9_pairing_93 1 rfl rfl ?_
              refine g_getfield (pc := 94) E uX9_pairing_X9 0 (zm_l (by decide)) (fun _ _ => rfl) rfl 27 (by decide) wX9_pairing_2 (.int (fqI σ17 0 27)) rfl dX9_pairing_94 ?_
              obtain ⟨r22, e21, hf⟩ := fq_b hf
              refine g_callVi (pc := 97) E 0 (zm_l (by decide)) (fun _ _ => rfl) rfl [.int (fqI σ17 0 27)] (fun l D sz => qX9_playersOf l D cy ad sz n σ17 k (fqI σ17 0 27) e21) gX9_pairing_X9_playersOf rfl rfl rfl kcX9_playersOf ⟨by decide, by decide⟩ rfl rfl (Nat.le_of_ble_eq_true rfl) dX9_pairing_97 ⟨by decide, by decide⟩ ?_
              refine g_i2l (pc := 100) E dX9_pairing_100 ?_
              exact hret _ _ _ _ dX9_pairing_101 (Option.some.inj hf)
            · replace hf := fq_t c20 hf
              refine g_aload_n (pc := 86) E dX9_pairing_86 1 rfl rfl ?_
              refine g_getfield (pc := 87) E uX9_pairing_X9 0 (zm_l (by decide)) (fun _ _ => rfl) rfl 26 (by decide) wX9_pairing_4 (.int (fqI σ17 0 26)) rfl dX9_pairing_87 ?_
              refine g_goto (pc := 90) E 97 dX9_pairing_90 (by decide) ?_
              obtain ⟨r24, e23, hf⟩ := fq_b hf
              refine g_callVi (pc := 97) E 0 (zm_l (by decide)) (fun _ _ => rfl) rfl [.int (fqI σ17 0 26)] (fun l D sz => qX9_playersOf l D cy ad sz n σ17 k (fqI σ17 0 26) e23) gX9_pairing_X9_playersOf rfl rfl rfl kcX9_playersOf ⟨by decide, by decide⟩ rfl rfl (Nat.le_of_ble_eq_true rfl) dX9_pairing_97 ⟨by decide, by decide⟩ ?_
              refine g_i2l (pc := 100) E dX9_pairing_100 ?_
              exact hret _ _ _ _ dX9_pairing_101 (Option.some.inj hf)
          · replace hf := fq_t c19 hf
            refine g_aload_n (pc := 73) E dX9_pairing_73 1 rfl rfl ?_
            refine g_getfield (pc := 74) E uX9_pairing_X9 0 (zm_l (by decide)) (fun _ _ => rfl) rfl 28 (by decide) wX9_pairing_5 (.long (fqJ σ17 0 28)) rfl dX9_pairing_74 ?_
            refine g_goto (pc := 77) E 101 dX9_pairing_77 (by decide) ?_
            exact hret _ _ _ _ dX9_pairing_101 (Option.some.inj hf)
        · replace hf := fq_t c18 hf
          refine g_aload_n (pc := 61) E dX9_pairing_61 1 rfl rfl ?_
          refine g_ldc2_w (pc := 62) E dX9_pairing_62 wX9_pairing_6 ?_
          obtain ⟨r26, σ27, e25, hf⟩ := fq_b2 hf
          refine g_callVl (pc := 65) E 0 (zm_l (by decide)) (fun _ _ => rfl) rfl [.long (-1000000002 : Int64)] (fun l D sz => qX9_finding l D cy ad sz n σ17 k (-1000000002 : Int64) e25) gX9_pairing_X9_finding rfl rfl rfl kcX9_finding ⟨by decide, by decide⟩ rfl rfl (Nat.le_of_ble_eq_true rfl) dX9_pairing_65 ⟨by decide, by decide⟩ ?_
          exact hret _ _ _ _ dX9_pairing_68 (Option.some.inj hf)
      · replace hf := fq_f c12 hf
        refine g_aload_n (pc := 38) E dX9_pairing_38 1 rfl rfl ?_
        refine g_ldc2_w (pc := 39) E dX9_pairing_39 wX9_pairing_6 ?_
        obtain ⟨r29, σ30, e28, hf⟩ := fq_b2 hf
        refine g_callVl (pc := 42) E 0 (zm_l (by decide)) (fun _ _ => rfl) rfl [.long (-1000000002 : Int64)] (fun l D sz => qX9_finding l D cy ad sz n σ k (-1000000002 : Int64) e28) gX9_pairing_X9_finding rfl rfl rfl kcX9_finding ⟨by decide, by decide⟩ rfl rfl (Nat.le_of_ble_eq_true rfl) dX9_pairing_42 ⟨by decide, by decide⟩ ?_
        exact hret _ _ _ _ dX9_pairing_45 (Option.some.inj hf)
    · replace hf := fq_t c9 hf
      refine g_aload_n (pc := 20) E dX9_pairing_20 0 rfl rfl ?_
      refine g_ldc2_w (pc := 21) E dX9_pairing_21 wX9_pairing_0 ?_
      obtain ⟨r32, σ33, e31, hf⟩ := fq_b2 hf
      refine g_callVl (pc := 24) E 0 (zm_l (by decide)) (fun _ _ => rfl) rfl [.long (-1000000001 : Int64)] (fun l D sz => qX9_finding l D cy ad sz n σ k (-1000000001 : Int64) e31) gX9_pairing_X9_finding rfl rfl rfl kcX9_finding ⟨by decide, by decide⟩ rfl rfl (Nat.le_of_ble_eq_true rfl) dX9_pairing_24 ⟨by decide, by decide⟩ ?_
      exact hret _ _ _ _ dX9_pairing_27 (Option.some.inj hf)

/-! X9_player -/
theorem wX9_player_0 : Cond.constantLong RX9 107 (2) ∈ wsX9_player := by decide +kernel
theorem wX9_player_1 : Cond.fieldLink RX9 94 "FairQueueModel" "players" "I" ∈ wsX9_player := by decide +kernel
theorem uX9_player_X9 : ∀ w ∈ u_ws RX9 TX9 33, w ∈ wsX9_player := (fun _ h => List.mem_cons_of_mem _ (List.mem_append_right _ h))
theorem wX9_player_3 : Cond.fieldLink RX9 13 "FairQueueModel" "kindOf" "[I" ∈ wsX9_player := by decide +kernel
theorem wX9_player_4 : Cond.fieldLink RX9 16 "FairQueueModel" "shares" "[J" ∈ wsX9_player := by decide +kernel
theorem wX9_player_5 : Cond.constantLong RX9 115 (-1000000004) ∈ wsX9_player := by decide +kernel
theorem wX9_player_6 : Cond.constantLong RX9 109 (-1000000001) ∈ wsX9_player := by decide +kernel
theorem kcX9_player : yX9_player.cls = RX9 ∧ yX9_player.cls ≠ "java/lang/invoke/MethodHandle" ∧ yX9_player.cls ≠ "java/lang/invoke/VarHandle" ∧ (parseMethodDescriptor yX9_player.desc).map (fun d => d.parameters.length) = some 1 := by decide +kernel
def pX9_player_L49b (k n : Nat) (x1 : Int32) (rec : (Int32 × fqS) → Option (Int64 × fqS)) (x2 : Int32) (σ : fqS) : Option (Int64 × fqS) :=
  (if (7 : Int32) ≤ x2 then (fqN (fqPI σ 0 1 ((fqI σ 0 1) + (1 : Int32))) (fun σ9 => some ((Int32.toInt64 ((fqI σ9 0 1) - (1 : Int32))), σ9))) else ((pX9_middle k n σ x2).bind (fun r12 => (if (((7 : Int32) * (fqI σ 0 1)) + x2) < 0 ∨ 112 ≤ Int32.toNatClampNeg (((7 : Int32) * (fqI σ 0 1)) + x2) then none else (fqN (fqPJ σ 3 (Int32.toNatClampNeg (((7 : Int32) * (fqI σ 0 1)) + x2)) r12) (fun σ14 => (rec ((x2 + (1 : Int32)), σ14))))))))
def pX9_player_L49 (k n : Nat) (x1 : Int32) : (Int32 × fqS) → Option (Int64 × fqS) := fqL (fun rec (s : (Int32 × fqS)) => pX9_player_L49b k n x1 rec s.1 s.2) k
def pX9_player (k n : Nat) (σ : fqS) (x1 : Int32) : Option (Int64 × fqS) :=
  ((pX9_in k n σ (Int32.toInt64 x1) (0 : Int64) (2 : Int64)).bind (fun r2 => (if r2 = 0 then (fqB2 (pX9_finding k n σ (-1000000001 : Int64)) (fun r20 σ21 => some (r20, σ21))) else (if (fqI σ 0 1) = (16 : Int32) then (fqB2 (pX9_finding k n σ (-1000000004 : Int64)) (fun r17 σ18 => some (r17, σ18))) else (if (fqI σ 0 1) < 0 ∨ 16 ≤ Int32.toNatClampNeg (fqI σ 0 1) then none else (fqN (fqPI σ 2 (Int32.toNatClampNeg (fqI σ 0 1)) x1) (fun σ6 => (pX9_player_L49 k n x1 ((0 : Int32), σ6)))))))))
set_option maxRecDepth 100000 in
set_option maxHeartbeats 4000000 in
theorem tX9_player_L49 {k : Nat} {X : fqX} {cy : Nat → ClassId} {ad : Nat → Nat} {n : Nat} {r : Int64} {σ' : fqS} {x1 : Int32} (E : fqE X ({ frames := 1, cells := 0, slots := 0, locals := 25 } : Room) cy cX9_player 3 wsX9_player RX9) (hret : fqR_l X (TM cy) ZM ad n 3 cX9_player r σ') : ∀ (s : (Int32 × fqS)), pX9_player_L49 k n x1 s = some (r, σ') → fqG X (TM cy) ZM ad n 3 0 0 (s.2) 49 [(0, .ref (ad 0)), (2, .int (s.1))] [] := by
  unfold pX9_player_L49
  refine fqL_run (P := fun (s : (Int32 × fqS)) => fqG X (TM cy) ZM ad n 3 0 0 (s.2) 49 [(0, .ref (ad 0)), (2, .int (s.1))] []) (fun rec s hrec hf => ?_) k
  obtain ⟨x2, σ⟩ := s
  have hf : pX9_player_L49b k n x1 rec x2 σ = some (r, σ') := hf
  unfold pX9_player_L49b at hf
  show fqG X (TM cy) ZM ad n 3 0 0 σ 49 [(0, .ref (ad 0)), (2, .int x2)] []
  refine g_iload_n (pc := 49) E dX9_player_49 1 rfl rfl ?_
  refine g_bipush (pc := 50) E (7 : Int32) dX9_player_50 (by decide) ?_
  refine g_icmp_ge (pc := 52) E 79 dX9_player_52 (by decide) (fun c8 => ?_) (fun c8 => ?_)
  · replace hf := fq_t c8 hf
    refine g_aload_n (pc := 79) E dX9_player_79 0 rfl rfl ?_
    refine g_dup (pc := 80) E dX9_player_80 rfl ?_
    refine g_getfield (pc := 81) E uX9_player_X9 0 (zm_l (by decide)) (fun _ _ => rfl) rfl 1 (by decide) wX9_player_1 (.int (fqI σ 0 1)) rfl dX9_player_81 ?_
    refine g_iconst (pc := 84) E (1 : Int32) dX9_player_84 (by decide) ?_
    refine g_iadd (pc := 85) E dX9_player_85 ?_
    refine g_putI (pc := 86) E uX9_player_X9 tyX9 tyX9_ok nmX9 0 (zm_l (by decide)) (fun _ _ => rfl) rfl 1 (by decide) wX9_player_1 rfl rfl (Nat.le_of_ble_eq_true rfl) rfl dX9_player_86 ?_
    obtain ⟨σ9, e10, hf⟩ := fq_n hf
    refine g_sg e10 ?_
    refine g_aload_n (pc := 89) E dX9_player_89 0 rfl rfl ?_
    refine g_getfield (pc := 90) E uX9_player_X9 0 (zm_l (by decide)) (fun _ _ => rfl) rfl 1 (by decide) wX9_player_1 (.int (fqI σ9 0 1)) rfl dX9_player_90 ?_
    refine g_iconst (pc := 93) E (1 : Int32) dX9_player_93 (by decide) ?_
    refine g_isub (pc := 94) E dX9_player_94 ?_
    refine g_i2l (pc := 95) E dX9_player_95 ?_
    exact hret _ _ _ _ dX9_player_96 (Option.some.inj hf)
  · replace hf := fq_f c8 hf
    refine g_aload_n (pc := 55) E dX9_player_55 0 rfl rfl ?_
    refine g_getfield (pc := 56) E uX9_player_X9 0 (zm_l (by decide)) (fun _ _ => rfl) rfl 3 (by decide) wX9_player_4 (.ref (ad 3)) rfl dX9_player_56 ?_
    refine g_bipush (pc := 59) E (7 : Int32) dX9_player_59 (by decide) ?_
    refine g_aload_n (pc := 61) E dX9_player_61 0 rfl rfl ?_
    refine g_getfield (pc := 62) E uX9_player_X9 0 (zm_l (by decide)) (fun _ _ => rfl) rfl 1 (by decide) wX9_player_1 (.int (fqI σ 0 1)) rfl dX9_player_62 ?_
    refine g_imul (pc := 65) E dX9_player_65 ?_
    refine g_iload_n (pc := 66) E dX9_player_66 1 rfl rfl ?_
    refine g_iadd (pc := 67) E dX9_player_67 ?_
    refine g_iload_n (pc := 68) E dX9_player_68 1 rfl rfl ?_
    obtain ⟨r12, e11, hf⟩ := fq_b hf
    refine g_callSl (pc := 69) E [.int x2] (fun l D sz => qX9_middle l D cy ad sz n σ k x2 e11) gX9_player_X9_middle rfl rfl rfl kcX9_middle ⟨by decide, by decide⟩ rfl rfl (Nat.le_of_ble_eq_true rfl) dX9_player_69 ⟨by decide, by decide⟩ ?_
    obtain ⟨h13, hf⟩ := fq_in hf
    refine g_lastore (pc := 72) E 3 (zm_l (by decide)) (fun _ _ => rfl) h13 dX9_player_72 ?_
    obtain ⟨σ14, e15, hf⟩ := fq_n hf
    refine g_sg e15 ?_
    refine g_iinc (pc := 73) E (x2 + (1 : Int32)) [(2, .int (x2 + (1 : Int32))), (0, .ref (ad 0))] dX9_player_73 1 rfl rfl (by decide) rfl ?_
    refine g_goto (pc := 76) E 49 dX9_player_76 (by decide) ?_
    refine g_lv [1, 0] rfl ?_
    exact hrec _ hf
set_option maxRecDepth 100000 in
set_option maxHeartbeats 4000000 in
theorem qX9_player (l : Launch) (D : va_G) (cy : Nat → ClassId) (ad : Nat → Nat) (sz n : Nat) (σ : fqS) (k : Nat) (x1 : Int32) {r : Int64} {σ' : fqS} (hf : pX9_player k n σ x1 = some (r, σ')) : Met l yX9_player wsX9_player ({ frames := 1, cells := 0, slots := 0, locals := 25 } : Room) (fqPc (TM cy) ZM D cy ad sz n σ [.ref (ad 0), .int x1]) (fqQl (TM cy) ZM D ad sz n σ r σ') 0 0 (fqA (TM cy) ZM ad sz n σ) := by
  refine fq_enter_l (cc := cX9_player) (maxL := 3) (own := RX9) _ (by decide) rfl (Nat.le_of_ble_eq_true rfl) rfl (fun X E hret => ?_)
  unfold pX9_player at hf
  show fqG X (TM cy) ZM ad n 3 0 0 σ 0 [(0, .ref (ad 0)), (1, .int x1)] []
  refine g_iload_n (pc := 0) E dX9_player_0 1 rfl rfl ?_
  refine g_i2l (pc := 1) E dX9_player_1 ?_
  refine g_lconst (pc := 2) E (0 : Int64) dX9_player_2 (by decide) ?_
  refine g_ldc2_w (pc := 3) E dX9_player_3 wX9_player_0 ?_
  obtain ⟨r2, e1, hf⟩ := fq_b hf
  refine g_callSi (pc := 6) E [.long (Int32.toInt64 x1), .long (0 : Int64), .long (2 : Int64)] (fun l D sz => qX9_in l D cy ad sz n σ k (Int32.toInt64 x1) (0 : Int64) (2 : Int64) e1) gX9_player_X9_in rfl rfl rfl kcX9_in ⟨by decide, by decide⟩ rfl rfl (Nat.le_of_ble_eq_true rfl) dX9_player_6 ⟨by decide, by decide⟩ ?_
  refine g_if_ne (pc := 9) E 20 dX9_player_9 (by decide) (fun c3 => ?_) (fun c3 => ?_)
  · replace hf := fq_f c3 hf
    refine g_aload_n (pc := 20) E dX9_player_20 0 rfl rfl ?_
    refine g_getfield (pc := 21) E uX9_player_X9 0 (zm_l (by decide)) (fun _ _ => rfl) rfl 1 (by decide) wX9_player_1 (.int (fqI σ 0 1)) rfl dX9_player_21 ?_
    refine g_bipush (pc := 24) E (16 : Int32) dX9_player_24 (by decide) ?_
    refine g_icmp_ne (pc := 26) E 37 dX9_player_26 (by decide) (fun c4 => ?_) (fun c4 => ?_)
    · replace hf := fq_f c4 hf
      refine g_aload_n (pc := 37) E dX9_player_37 0 rfl rfl ?_
      refine g_getfield (pc := 38) E uX9_player_X9 0 (zm_l (by decide)) (fun _ _ => rfl) rfl 2 (by decide) wX9_player_3 (.ref (ad 2)) rfl dX9_player_38 ?_
      refine g_aload_n (pc := 41) E dX9_player_41 0 rfl rfl ?_
      refine g_getfield (pc := 42) E uX9_player_X9 0 (zm_l (by decide)) (fun _ _ => rfl) rfl 1 (by decide) wX9_player_1 (.int (fqI σ 0 1)) rfl dX9_player_42 ?_
      refine g_iload_n (pc := 45) E dX9_player_45 1 rfl rfl ?_
      obtain ⟨h5, hf⟩ := fq_in hf
      refine g_iastore (pc := 46) E 2 (zm_l (by decide)) (fun _ _ => rfl) h5 dX9_player_46 ?_
      obtain ⟨σ6, e7, hf⟩ := fq_n hf
      refine g_sg e7 ?_
      refine g_iconst (pc := 47) E (0 : Int32) dX9_player_47 (by decide) ?_
      refine g_istore_n (pc := 48) E [(2, .int (0 : Int32)), (0, .ref (ad 0)), (1, .int x1)] dX9_player_48 rfl (by decide) rfl ?_
      refine g_lv [1, 0] rfl ?_
      exact tX9_player_L49 E hret _ hf
    · replace hf := fq_t c4 hf
      refine g_aload_n (pc := 29) E dX9_player_29 0 rfl rfl ?_
      refine g_ldc2_w (pc := 30) E dX9_player_30 wX9_player_5 ?_
      obtain ⟨r17, σ18, e16, hf⟩ := fq_b2 hf
      refine g_callVl (pc := 33) E 0 (zm_l (by decide)) (fun _ _ => rfl) rfl [.long (-1000000004 : Int64)] (fun l D sz => qX9_finding l D cy ad sz n σ k (-1000000004 : Int64) e16) gX9_player_X9_finding rfl rfl rfl kcX9_finding ⟨by decide, by decide⟩ rfl rfl (Nat.le_of_ble_eq_true rfl) dX9_player_33 ⟨by decide, by decide⟩ ?_
      exact hret _ _ _ _ dX9_player_36 (Option.some.inj hf)
  · replace hf := fq_t c3 hf
    refine g_aload_n (pc := 12) E dX9_player_12 0 rfl rfl ?_
    refine g_ldc2_w (pc := 13) E dX9_player_13 wX9_player_6 ?_
    obtain ⟨r20, σ21, e19, hf⟩ := fq_b2 hf
    refine g_callVl (pc := 16) E 0 (zm_l (by decide)) (fun _ _ => rfl) rfl [.long (-1000000001 : Int64)] (fun l D sz => qX9_finding l D cy ad sz n σ k (-1000000001 : Int64) e19) gX9_player_X9_finding rfl rfl rfl kcX9_finding ⟨by decide, by decide⟩ rfl rfl (Nat.le_of_ble_eq_true rfl) dX9_player_16 ⟨by decide, by decide⟩ ?_
    exact hret _ _ _ _ dX9_player_19 (Option.some.inj hf)

/-! X9_somePlays -/
theorem wX9_somePlays_0 : Cond.fieldLink RX9 48 "FairQueueModel" "goesOn" "[Z" ∈ wsX9_somePlays := by decide +kernel
theorem uX9_somePlays_X9 : ∀ w ∈ u_ws RX9 TX9 33, w ∈ wsX9_somePlays := (fun _ h => List.mem_cons_of_mem _ (List.mem_append_right _ h))
theorem kcX9_somePlays : yX9_somePlays.cls = RX9 ∧ yX9_somePlays.cls ≠ "java/lang/invoke/MethodHandle" ∧ yX9_somePlays.cls ≠ "java/lang/invoke/VarHandle" ∧ (parseMethodDescriptor yX9_somePlays.desc).map (fun d => d.parameters.length) = some 0 := by decide +kernel
def pX9_somePlays_L4b (k n : Nat) (σ : fqS) (rec : (Int32 × Int32) → Option Int32) (x1 : Int32) (x2 : Int32) : Option Int32 :=
  (if (5 : Int32) ≤ x2 then (if x1 &&& 1 = x1 then some x1 else none) else (if x1 = 0 then (if x2 < 0 ∨ 5 ≤ Int32.toNatClampNeg x2 then none else (if (fqI σ 8 (Int32.toNatClampNeg x2)) = 0 then (rec ((0 : Int32), (x2 + (1 : Int32)))) else (rec ((1 : Int32), (x2 + (1 : Int32)))))) else (rec ((1 : Int32), (x2 + (1 : Int32))))))
def pX9_somePlays_L4 (k n : Nat) (σ : fqS) : (Int32 × Int32) → Option Int32 := fqL (fun rec (s : (Int32 × Int32)) => pX9_somePlays_L4b k n σ rec s.1 s.2) k
def pX9_somePlays (k n : Nat) (σ : fqS) : Option Int32 :=
  (pX9_somePlays_L4 k n σ ((0 : Int32), (0 : Int32)))
set_option maxRecDepth 100000 in
set_option maxHeartbeats 4000000 in
theorem tX9_somePlays_L4 {k : Nat} {X : fqX} {cy : Nat → ClassId} {ad : Nat → Nat} {n : Nat} {σ : fqS} {r : Int32} (E : fqE X ({ frames := 0, cells := 0, slots := 0, locals := 0 } : Room) cy cX9_somePlays 3 wsX9_somePlays RX9) (hret : fqR_z X (TM cy) ZM ad n 3 cX9_somePlays r σ) : ∀ (s : (Int32 × Int32)), pX9_somePlays_L4 k n σ s = some r → fqG X (TM cy) ZM ad n 3 0 0 σ 4 [(0, .ref (ad 0)), (1, .int (s.1)), (2, .int (s.2))] [] := by
  unfold pX9_somePlays_L4
  refine fqL_run (P := fun (s : (Int32 × Int32)) => fqG X (TM cy) ZM ad n 3 0 0 σ 4 [(0, .ref (ad 0)), (1, .int (s.1)), (2, .int (s.2))] []) (fun rec s hrec hf => ?_) k
  obtain ⟨x1, x2⟩ := s
  have hf : pX9_somePlays_L4b k n σ rec x1 x2 = some r := hf
  unfold pX9_somePlays_L4b at hf
  show fqG X (TM cy) ZM ad n 3 0 0 σ 4 [(0, .ref (ad 0)), (1, .int x1), (2, .int x2)] []
  refine g_iload_n (pc := 4) E dX9_somePlays_4 2 rfl rfl ?_
  refine g_iconst (pc := 5) E (5 : Int32) dX9_somePlays_5 (by decide) ?_
  refine g_icmp_ge (pc := 6) E 34 dX9_somePlays_6 (by decide) (fun c1 => ?_) (fun c1 => ?_)
  · replace hf := fq_t c1 hf
    refine g_iload_n (pc := 34) E dX9_somePlays_34 1 rfl rfl ?_
    obtain ⟨h2, hf⟩ := fq_g hf
    exact hret _ _ _ _ (fq_nb h2) dX9_somePlays_35 (congrArg (fun z => (z, σ)) (Option.some.inj hf))
  · replace hf := fq_f c1 hf
    refine g_iload_n (pc := 9) E dX9_somePlays_9 1 rfl rfl ?_
    refine g_if_ne (pc := 10) E 22 dX9_somePlays_10 (by decide) (fun c3 => ?_) (fun c3 => ?_)
    · replace hf := fq_f c3 hf
      refine g_iconst (pc := 22) E (1 : Int32) dX9_somePlays_22 (by decide) ?_
      refine g_goto (pc := 23) E 27 dX9_somePlays_23 (by decide) ?_
      refine g_istore_n (pc := 27) E [(1, .int (1 : Int32)), (0, .ref (ad 0)), (2, .int x2)] dX9_somePlays_27 rfl (by decide) rfl ?_
      refine g_iinc (pc := 28) E (x2 + (1 : Int32)) [(2, .int (x2 + (1 : Int32))), (1, .int (1 : Int32)), (0, .ref (ad 0))] dX9_somePlays_28 2 rfl rfl (by decide) rfl ?_
      refine g_goto (pc := 31) E 4 dX9_somePlays_31 (by decide) ?_
      refine g_lv [2, 1, 0] rfl ?_
      exact hrec _ hf
    · replace hf := fq_t c3 hf
      refine g_aload_n (pc := 13) E dX9_somePlays_13 0 rfl rfl ?_
      refine g_getfield (pc := 14) E uX9_somePlays_X9 0 (zm_l (by decide)) (fun _ _ => rfl) rfl 14 (by decide) wX9_somePlays_0 (.ref (ad 8)) rfl dX9_somePlays_14 ?_
      refine g_iload_n (pc := 17) E dX9_somePlays_17 2 rfl rfl ?_
      obtain ⟨h4, hf⟩ := fq_in hf
      refine g_baload (pc := 18) E 8 (zm_l (by decide)) (fun _ _ => rfl) h4 dX9_somePlays_18 ?_
      refine g_if_eq (pc := 19) E 26 dX9_somePlays_19 (by decide) (fun c5 => ?_) (fun c5 => ?_)
      · replace hf := fq_t c5 hf
        refine g_iconst (pc := 26) E (0 : Int32) dX9_somePlays_26 (by decide) ?_
        refine g_istore_n (pc := 27) E [(1, .int (0 : Int32)), (0, .ref (ad 0)), (2, .int x2)] dX9_somePlays_27 rfl (by decide) rfl ?_
        refine g_iinc (pc := 28) E (x2 + (1 : Int32)) [(2, .int (x2 + (1 : Int32))), (1, .int (0 : Int32)), (0, .ref (ad 0))] dX9_somePlays_28 2 rfl rfl (by decide) rfl ?_
        refine g_goto (pc := 31) E 4 dX9_somePlays_31 (by decide) ?_
        refine g_lv [2, 1, 0] rfl ?_
        exact hrec _ hf
      · replace hf := fq_f c5 hf
        refine g_iconst (pc := 22) E (1 : Int32) dX9_somePlays_22 (by decide) ?_
        refine g_goto (pc := 23) E 27 dX9_somePlays_23 (by decide) ?_
        refine g_istore_n (pc := 27) E [(1, .int (1 : Int32)), (0, .ref (ad 0)), (2, .int x2)] dX9_somePlays_27 rfl (by decide) rfl ?_
        refine g_iinc (pc := 28) E (x2 + (1 : Int32)) [(2, .int (x2 + (1 : Int32))), (1, .int (1 : Int32)), (0, .ref (ad 0))] dX9_somePlays_28 2 rfl rfl (by decide) rfl ?_
        refine g_goto (pc := 31) E 4 dX9_somePlays_31 (by decide) ?_
        refine g_lv [2, 1, 0] rfl ?_
        exact hrec _ hf
set_option maxRecDepth 100000 in
set_option maxHeartbeats 4000000 in
theorem qX9_somePlays (l : Launch) (D : va_G) (cy : Nat → ClassId) (ad : Nat → Nat) (sz n : Nat) (σ : fqS) (k : Nat) {r : Int32} (hf : pX9_somePlays k n σ = some r) : Met l yX9_somePlays wsX9_somePlays ({ frames := 0, cells := 0, slots := 0, locals := 0 } : Room) (fqPc (TM cy) ZM D cy ad sz n σ [.ref (ad 0)]) (fqQi (TM cy) ZM D ad sz n σ r σ) 0 0 (fqA (TM cy) ZM ad sz n σ) := by
  refine fq_enter_z (cc := cX9_somePlays) (maxL := 3) (own := RX9) _ (by decide) rfl (Nat.le_of_ble_eq_true rfl) rfl (fun X E hret => ?_)
  unfold pX9_somePlays at hf
  show fqG X (TM cy) ZM ad n 3 0 0 σ 0 [(0, .ref (ad 0))] []
  refine g_iconst (pc := 0) E (0 : Int32) dX9_somePlays_0 (by decide) ?_
  refine g_istore_n (pc := 1) E [(1, .int (0 : Int32)), (0, .ref (ad 0))] dX9_somePlays_1 rfl (by decide) rfl ?_
  refine g_iconst (pc := 2) E (0 : Int32) dX9_somePlays_2 (by decide) ?_
  refine g_istore_n (pc := 3) E [(2, .int (0 : Int32)), (1, .int (0 : Int32)), (0, .ref (ad 0))] dX9_somePlays_3 rfl (by decide) rfl ?_
  refine g_lv [2, 1, 0] rfl ?_
  exact tX9_somePlays_L4 E hret _ hf

/-! X9_season -/
theorem wX9_season_0 : Cond.fieldLink RX9 94 "FairQueueModel" "players" "I" ∈ wsX9_season := by decide +kernel
theorem uX9_season_X9 : ∀ w ∈ u_ws RX9 TX9 33, w ∈ wsX9_season := (fun _ h => List.mem_cons_of_mem _ (List.mem_append_right _ h))
theorem wX9_season_2 : Cond.constantLong RX9 143 (1000000) ∈ wsX9_season := by decide +kernel
theorem wX9_season_3 : Cond.fieldLink RX9 16 "FairQueueModel" "shares" "[J" ∈ wsX9_season := by decide +kernel
theorem wX9_season_4 : Cond.constantLong RX9 107 (2) ∈ wsX9_season := by decide +kernel
theorem wX9_season_5 : Cond.constantLong RX9 155 (-1000000003) ∈ wsX9_season := by decide +kernel
theorem kcX9_season : yX9_season.cls = RX9 ∧ yX9_season.cls ≠ "java/lang/invoke/MethodHandle" ∧ yX9_season.cls ≠ "java/lang/invoke/VarHandle" ∧ (parseMethodDescriptor yX9_season.desc).map (fun d => d.parameters.length) = some 0 := by decide +kernel
def pX9_season_L32b (k n : Nat) (x1 : Int32) (rec17 : (Int32 × fqS) → Option (Int64 × fqS)) (rec : (Int64 × Int32 × fqS) → Option (Int64 × fqS)) (x2 : Int64) (x4 : Int32) (σ : fqS) : Option (Int64 × fqS) :=
  (if (7 : Int32) ≤ x4 then (if (((7 : Int32) * x1) + (3 : Int32)) < 0 ∨ 112 ≤ Int32.toNatClampNeg (((7 : Int32) * x1) + (3 : Int32)) then none else (fqN (fqPJ σ 3 (Int32.toNatClampNeg (((7 : Int32) * x1) + (3 : Int32))) ((fqJ σ 3 (Int32.toNatClampNeg (((7 : Int32) * x1) + (3 : Int32)))) + x2)) (fun σ7 => (rec17 ((x1 + (1 : Int32)), σ7))))) else (if (((7 : Int32) * x1) + x4) < 0 ∨ 112 ≤ Int32.toNatClampNeg (((7 : Int32) * x1) + x4) then none else ((pX9_middle k n σ x4).bind (fun r11 => (fqN (fqPJ σ 3 (Int32.toNatClampNeg (((7 : Int32) * x1) + x4)) (((fqJ σ 3 (Int32.toNatClampNeg (((7 : Int32) * x1) + x4))) + r11) / (2 : Int64))) (fun σ12 => (rec ((x2 - (((fqJ σ 3 (Int32.toNatClampNeg (((7 : Int32) * x1) + x4))) + r11) / (2 : Int64))), (x4 + (1 : Int32)), σ12))))))))
def pX9_season_L32 (k n : Nat) (x1 : Int32) (rec17 : (Int32 × fqS) → Option (Int64 × fqS)) : (Int64 × Int32 × fqS) → Option (Int64 × fqS) := fqL (fun rec (s : (Int64 × Int32 × fqS)) => pX9_season_L32b k n x1 rec17 rec s.1 s.2.1 s.2.2) k
def pX9_season_L17b (k n : Nat) (rec : (Int32 × fqS) → Option (Int64 × fqS)) (x1 : Int32) (σ : fqS) : Option (Int64 × fqS) :=
  (if (fqI σ 0 1) ≤ x1 then some ((Int32.toInt64 (fqI σ 0 1)), σ) else (pX9_season_L32 k n x1 rec ((1000000 : Int64), (0 : Int32), σ)))
def pX9_season_L17 (k n : Nat) : (Int32 × fqS) → Option (Int64 × fqS) := fqL (fun rec (s : (Int32 × fqS)) => pX9_season_L17b k n rec s.1 s.2) k
def pX9_season (k n : Nat) (σ : fqS) : Option (Int64 × fqS) :=
  ((pX9_somePlays k n σ).bind (fun r2 => (if r2 = 0 then (pX9_season_L17 k n ((0 : Int32), σ)) else (fqB2 (pX9_finding k n σ (-1000000003 : Int64)) (fun r15 σ16 => some (r15, σ16))))))
set_option maxRecDepth 100000 in
set_option maxHeartbeats 4000000 in
theorem tX9_season_L32 {k : Nat} {X : fqX} {cy : Nat → ClassId} {ad : Nat → Nat} {n : Nat} {r : Int64} {σ' : fqS} {x1 : Int32} (E : fqE X ({ frames := 1, cells := 0, slots := 0, locals := 22 } : Room) cy cX9_season 7 wsX9_season RX9) (hret : fqR_l X (TM cy) ZM ad n 7 cX9_season r σ') {rec17 : (Int32 × fqS) → Option (Int64 × fqS)} (hrec17 : ∀ (s : (Int32 × fqS)), rec17 s = some (r, σ') → fqG X (TM cy) ZM ad n 7 0 0 (s.2) 17 [(0, .ref (ad 0)), (1, .int (s.1))] []) : ∀ (s : (Int64 × Int32 × fqS)), pX9_season_L32 k n x1 rec17 s = some (r, σ') → fqG X (TM cy) ZM ad n 7 0 0 (s.2.2) 32 [(0, .ref (ad 0)), (1, .int x1), (2, .long (s.1)), (4, .int (s.2.1))] [] := by
  unfold pX9_season_L32
  refine fqL_run (P := fun (s : (Int64 × Int32 × fqS)) => fqG X (TM cy) ZM ad n 7 0 0 (s.2.2) 32 [(0, .ref (ad 0)), (1, .int x1), (2, .long (s.1)), (4, .int (s.2.1))] []) (fun rec s hrec hf => ?_) k
  obtain ⟨x2, x4, σ⟩ := s
  have hf : pX9_season_L32b k n x1 rec17 rec x2 x4 σ = some (r, σ') := hf
  unfold pX9_season_L32b at hf
  show fqG X (TM cy) ZM ad n 7 0 0 σ 32 [(0, .ref (ad 0)), (1, .int x1), (2, .long x2), (4, .int x4)] []
  refine g_iload (pc := 32) E dX9_season_32 3 rfl ?_
  refine g_bipush (pc := 34) E (7 : Int32) dX9_season_34 (by decide) ?_
  refine g_icmp_ge (pc := 36) E 88 dX9_season_36 (by decide) (fun c5 => ?_) (fun c5 => ?_)
  · replace hf := fq_t c5 hf
    refine g_aload_n (pc := 88) E dX9_season_88 0 rfl rfl ?_
    refine g_getfield (pc := 89) E uX9_season_X9 0 (zm_l (by decide)) (fun _ _ => rfl) rfl 3 (by decide) wX9_season_3 (.ref (ad 3)) rfl dX9_season_89 ?_
    refine g_bipush (pc := 92) E (7 : Int32) dX9_season_92 (by decide) ?_
    refine g_iload_n (pc := 94) E dX9_season_94 1 rfl rfl ?_
    refine g_imul (pc := 95) E dX9_season_95 ?_
    refine g_iconst (pc := 96) E (3 : Int32) dX9_season_96 (by decide) ?_
    refine g_iadd (pc := 97) E dX9_season_97 ?_
    refine g_dup2_11 (pc := 98) E dX9_season_98 rfl rfl ?_
    obtain ⟨h6, hf⟩ := fq_in hf
    refine g_laload (pc := 99) E 3 (zm_l (by decide)) (fun _ _ => rfl) h6 dX9_season_99 ?_
    refine g_lload_n (pc := 100) E dX9_season_100 2 rfl rfl ?_
    refine g_ladd (pc := 101) E dX9_season_101 ?_
    refine g_lastore (pc := 102) E 3 (zm_l (by decide)) (fun _ _ => rfl) h6 dX9_season_102 ?_
    obtain ⟨σ7, e8, hf⟩ := fq_n hf
    refine g_sg e8 ?_
    refine g_iinc (pc := 103) E (x1 + (1 : Int32)) [(1, .int (x1 + (1 : Int32))), (0, .ref (ad 0)), (2, .long x2), (4, .int x4)] dX9_season_103 1 rfl rfl (by decide) rfl ?_
    refine g_goto (pc := 106) E 17 dX9_season_106 (by decide) ?_
    refine g_lv [1, 0] rfl ?_
    exact hrec17 _ hf
  · replace hf := fq_f c5 hf
    refine g_aload_n (pc := 39) E dX9_season_39 0 rfl rfl ?_
    refine g_getfield (pc := 40) E uX9_season_X9 0 (zm_l (by decide)) (fun _ _ => rfl) rfl 3 (by decide) wX9_season_3 (.ref (ad 3)) rfl dX9_season_40 ?_
    refine g_bipush (pc := 43) E (7 : Int32) dX9_season_43 (by decide) ?_
    refine g_iload_n (pc := 45) E dX9_season_45 1 rfl rfl ?_
    refine g_imul (pc := 46) E dX9_season_46 ?_
    refine g_iload (pc := 47) E dX9_season_47 3 rfl ?_
    refine g_iadd (pc := 49) E dX9_season_49 ?_
    obtain ⟨h9, hf⟩ := fq_in hf
    refine g_laload (pc := 50) E 3 (zm_l (by decide)) (fun _ _ => rfl) h9 dX9_season_50 ?_
    refine g_iload (pc := 51) E dX9_season_51 3 rfl ?_
    obtain ⟨r11, e10, hf⟩ := fq_b hf
    refine g_callSl (pc := 53) E [.int x4] (fun l D sz => qX9_middle l D cy ad sz n σ k x4 e10) gX9_season_X9_middle rfl rfl rfl kcX9_middle ⟨by decide, by decide⟩ rfl rfl (Nat.le_of_ble_eq_true rfl) dX9_season_53 ⟨by decide, by decide⟩ ?_
    refine g_ladd (pc := 56) E dX9_season_56 ?_
    refine g_ldc2_w (pc := 57) E dX9_season_57 wX9_season_4 ?_
    refine g_ldiv (pc := 60) E dX9_season_60 (by decide) ?_
    refine g_lstore (pc := 61) E [(5, .long (((fqJ σ 3 (Int32.toNatClampNeg (((7 : Int32) * x1) + x4))) + r11) / (2 : Int64))), (0, .ref (ad 0)), (1, .int x1), (2, .long x2), (4, .int x4)] dX9_season_61 (by decide) rfl ?_
    refine g_aload_n (pc := 63) E dX9_season_63 1 rfl rfl ?_
    refine g_getfield (pc := 64) E uX9_season_X9 0 (zm_l (by decide)) (fun _ _ => rfl) rfl 3 (by decide) wX9_season_3 (.ref (ad 3)) rfl dX9_season_64 ?_
    refine g_bipush (pc := 67) E (7 : Int32) dX9_season_67 (by decide) ?_
    refine g_iload_n (pc := 69) E dX9_season_69 2 rfl rfl ?_
    refine g_imul (pc := 70) E dX9_season_70 ?_
    refine g_iload (pc := 71) E dX9_season_71 4 rfl ?_
    refine g_iadd (pc := 73) E dX9_season_73 ?_
    refine g_lload (pc := 74) E dX9_season_74 0 rfl ?_
    refine g_lastore (pc := 76) E 3 (zm_l (by decide)) (fun _ _ => rfl) h9 dX9_season_76 ?_
    obtain ⟨σ12, e13, hf⟩ := fq_n hf
    refine g_sg e13 ?_
    refine g_lload_n (pc := 77) E dX9_season_77 3 rfl rfl ?_
    refine g_lload (pc := 78) E dX9_season_78 0 rfl ?_
    refine g_lsub (pc := 80) E dX9_season_80 ?_
    refine g_lstore_n (pc := 81) E [(2, .long (x2 - (((fqJ σ 3 (Int32.toNatClampNeg (((7 : Int32) * x1) + x4))) + r11) / (2 : Int64)))), (5, .long (((fqJ σ 3 (Int32.toNatClampNeg (((7 : Int32) * x1) + x4))) + r11) / (2 : Int64))), (0, .ref (ad 0)), (1, .int x1), (4, .int x4)] dX9_season_81 rfl (by decide) rfl ?_
    refine g_iinc (pc := 82) E (x4 + (1 : Int32)) [(4, .int (x4 + (1 : Int32))), (2, .long (x2 - (((fqJ σ 3 (Int32.toNatClampNeg (((7 : Int32) * x1) + x4))) + r11) / (2 : Int64)))), (5, .long (((fqJ σ 3 (Int32.toNatClampNeg (((7 : Int32) * x1) + x4))) + r11) / (2 : Int64))), (0, .ref (ad 0)), (1, .int x1)] dX9_season_82 4 rfl rfl (by decide) rfl ?_
    refine g_goto (pc := 85) E 32 dX9_season_85 (by decide) ?_
    refine g_lv [3, 4, 1, 0] rfl ?_
    exact hrec _ hf
set_option maxRecDepth 100000 in
set_option maxHeartbeats 4000000 in
theorem tX9_season_L17 {k : Nat} {X : fqX} {cy : Nat → ClassId} {ad : Nat → Nat} {n : Nat} {r : Int64} {σ' : fqS} (E : fqE X ({ frames := 1, cells := 0, slots := 0, locals := 22 } : Room) cy cX9_season 7 wsX9_season RX9) (hret : fqR_l X (TM cy) ZM ad n 7 cX9_season r σ') : ∀ (s : (Int32 × fqS)), pX9_season_L17 k n s = some (r, σ') → fqG X (TM cy) ZM ad n 7 0 0 (s.2) 17 [(0, .ref (ad 0)), (1, .int (s.1))] [] := by
  unfold pX9_season_L17
  refine fqL_run (P := fun (s : (Int32 × fqS)) => fqG X (TM cy) ZM ad n 7 0 0 (s.2) 17 [(0, .ref (ad 0)), (1, .int (s.1))] []) (fun rec s hrec hf => ?_) k
  obtain ⟨x1, σ⟩ := s
  have hf : pX9_season_L17b k n rec x1 σ = some (r, σ') := hf
  unfold pX9_season_L17b at hf
  show fqG X (TM cy) ZM ad n 7 0 0 σ 17 [(0, .ref (ad 0)), (1, .int x1)] []
  refine g_iload_n (pc := 17) E dX9_season_17 1 rfl rfl ?_
  refine g_aload_n (pc := 18) E dX9_season_18 0 rfl rfl ?_
  refine g_getfield (pc := 19) E uX9_season_X9 0 (zm_l (by decide)) (fun _ _ => rfl) rfl 1 (by decide) wX9_season_0 (.int (fqI σ 0 1)) rfl dX9_season_19 ?_
  refine g_icmp_ge (pc := 22) E 109 dX9_season_22 (by decide) (fun c4 => ?_) (fun c4 => ?_)
  · replace hf := fq_t c4 hf
    refine g_aload_n (pc := 109) E dX9_season_109 0 rfl rfl ?_
    refine g_getfield (pc := 110) E uX9_season_X9 0 (zm_l (by decide)) (fun _ _ => rfl) rfl 1 (by decide) wX9_season_0 (.int (fqI σ 0 1)) rfl dX9_season_110 ?_
    refine g_i2l (pc := 113) E dX9_season_113 ?_
    exact hret _ _ _ _ dX9_season_114 (Option.some.inj hf)
  · replace hf := fq_f c4 hf
    refine g_ldc2_w (pc := 25) E dX9_season_25 wX9_season_2 ?_
    refine g_lstore_n (pc := 28) E [(2, .long (1000000 : Int64)), (0, .ref (ad 0)), (1, .int x1)] dX9_season_28 rfl (by decide) rfl ?_
    refine g_iconst (pc := 29) E (0 : Int32) dX9_season_29 (by decide) ?_
    refine g_istore (pc := 30) E [(4, .int (0 : Int32)), (2, .long (1000000 : Int64)), (0, .ref (ad 0)), (1, .int x1)] dX9_season_30 (by decide) rfl ?_
    refine g_lv [2, 3, 1, 0] rfl ?_
    exact tX9_season_L32 E hret hrec _ hf
set_option maxRecDepth 100000 in
set_option maxHeartbeats 4000000 in
theorem qX9_season (l : Launch) (D : va_G) (cy : Nat → ClassId) (ad : Nat → Nat) (sz n : Nat) (σ : fqS) (k : Nat) {r : Int64} {σ' : fqS} (hf : pX9_season k n σ = some (r, σ')) : Met l yX9_season wsX9_season ({ frames := 1, cells := 0, slots := 0, locals := 22 } : Room) (fqPc (TM cy) ZM D cy ad sz n σ [.ref (ad 0)]) (fqQl (TM cy) ZM D ad sz n σ r σ') 0 0 (fqA (TM cy) ZM ad sz n σ) := by
  refine fq_enter_l (cc := cX9_season) (maxL := 7) (own := RX9) _ (by decide) rfl (Nat.le_of_ble_eq_true rfl) rfl (fun X E hret => ?_)
  unfold pX9_season at hf
  show fqG X (TM cy) ZM ad n 7 0 0 σ 0 [(0, .ref (ad 0))] []
  refine g_aload_n (pc := 0) E dX9_season_0 0 rfl rfl ?_
  obtain ⟨r2, e1, hf⟩ := fq_b hf
  refine g_callVi (pc := 1) E 0 (zm_l (by decide)) (fun _ _ => rfl) rfl [] (fun l D sz => qX9_somePlays l D cy ad sz n σ k e1) gX9_season_X9_somePlays rfl rfl rfl kcX9_somePlays ⟨by decide, by decide⟩ rfl rfl (Nat.le_of_ble_eq_true rfl) dX9_season_1 ⟨by decide, by decide⟩ ?_
  refine g_if_eq (pc := 4) E 15 dX9_season_4 (by decide) (fun c3 => ?_) (fun c3 => ?_)
  · replace hf := fq_t c3 hf
    refine g_iconst (pc := 15) E (0 : Int32) dX9_season_15 (by decide) ?_
    refine g_istore_n (pc := 16) E [(1, .int (0 : Int32)), (0, .ref (ad 0))] dX9_season_16 rfl (by decide) rfl ?_
    refine g_lv [1, 0] rfl ?_
    exact tX9_season_L17 E hret _ hf
  · replace hf := fq_f c3 hf
    refine g_aload_n (pc := 7) E dX9_season_7 0 rfl rfl ?_
    refine g_ldc2_w (pc := 8) E dX9_season_8 wX9_season_5 ?_
    obtain ⟨r15, σ16, e14, hf⟩ := fq_b2 hf
    refine g_callVl (pc := 11) E 0 (zm_l (by decide)) (fun _ _ => rfl) rfl [.long (-1000000003 : Int64)] (fun l D sz => qX9_finding l D cy ad sz n σ k (-1000000003 : Int64) e14) gX9_season_X9_finding rfl rfl rfl kcX9_finding ⟨by decide, by decide⟩ rfl rfl (Nat.le_of_ble_eq_true rfl) dX9_season_11 ⟨by decide, by decide⟩ ?_
    exact hret _ _ _ _ dX9_season_14 (Option.some.inj hf)

/-! X9_share -/
theorem wX9_share_0 : Cond.constantLong RX9 109 (-1000000001) ∈ wsX9_share := by decide +kernel
theorem wX9_share_1 : Cond.fieldLink RX9 16 "FairQueueModel" "shares" "[J" ∈ wsX9_share := by decide +kernel
theorem uX9_share_X9 : ∀ w ∈ u_ws RX9 TX9 33, w ∈ wsX9_share := (fun _ h => List.mem_cons_of_mem _ (List.mem_append_right _ h))
theorem kcX9_share : yX9_share.cls = RX9 ∧ yX9_share.cls ≠ "java/lang/invoke/MethodHandle" ∧ yX9_share.cls ≠ "java/lang/invoke/VarHandle" ∧ (parseMethodDescriptor yX9_share.desc).map (fun d => d.parameters.length) = some 2 := by decide +kernel
def pX9_share (k n : Nat) (σ : fqS) (x1 : Int32) (x2 : Int32) : Option (Int64 × fqS) :=
  ((pX9_isPlayer k n σ x1).bind (fun r2 => (if r2 = 0 then (fqB2 (pX9_finding k n σ (-1000000001 : Int64)) (fun r5 σ6 => some (r5, σ6))) else ((pX9_isLevel k n σ x2).bind (fun r8 => (if r8 = 0 then (fqB2 (pX9_finding k n σ (-1000000001 : Int64)) (fun r11 σ12 => some (r11, σ12))) else (if (((7 : Int32) * x1) + x2) < 0 ∨ 112 ≤ Int32.toNatClampNeg (((7 : Int32) * x1) + x2) then none else some ((fqJ σ 3 (Int32.toNatClampNeg (((7 : Int32) * x1) + x2))), σ))))))))
set_option maxRecDepth 100000 in
set_option maxHeartbeats 4000000 in
theorem qX9_share (l : Launch) (D : va_G) (cy : Nat → ClassId) (ad : Nat → Nat) (sz n : Nat) (σ : fqS) (k : Nat) (x1 : Int32) (x2 : Int32) {r : Int64} {σ' : fqS} (hf : pX9_share k n σ x1 x2 = some (r, σ')) : Met l yX9_share wsX9_share ({ frames := 2, cells := 0, slots := 0, locals := 46 } : Room) (fqPc (TM cy) ZM D cy ad sz n σ [.ref (ad 0), .int x1, .int x2]) (fqQl (TM cy) ZM D ad sz n σ r σ') 0 0 (fqA (TM cy) ZM ad sz n σ) := by
  refine fq_enter_l (cc := cX9_share) (maxL := 3) (own := RX9) _ (by decide) rfl (Nat.le_of_ble_eq_true rfl) rfl (fun X E hret => ?_)
  unfold pX9_share at hf
  show fqG X (TM cy) ZM ad n 3 0 0 σ 0 [(0, .ref (ad 0)), (1, .int x1), (2, .int x2)] []
  refine g_aload_n (pc := 0) E dX9_share_0 0 rfl rfl ?_
  refine g_iload_n (pc := 1) E dX9_share_1 1 rfl rfl ?_
  obtain ⟨r2, e1, hf⟩ := fq_b hf
  refine g_callVi (pc := 2) E 0 (zm_l (by decide)) (fun _ _ => rfl) rfl [.int x1] (fun l D sz => qX9_isPlayer l D cy ad sz n σ k x1 e1) gX9_share_X9_isPlayer rfl rfl rfl kcX9_isPlayer ⟨by decide, by decide⟩ rfl rfl (Nat.le_of_ble_eq_true rfl) dX9_share_2 ⟨by decide, by decide⟩ ?_
  refine g_if_eq (pc := 5) E 29 dX9_share_5 (by decide) (fun c3 => ?_) (fun c3 => ?_)
  · replace hf := fq_t c3 hf
    refine g_aload_n (pc := 29) E dX9_share_29 0 rfl rfl ?_
    refine g_ldc2_w (pc := 30) E dX9_share_30 wX9_share_0 ?_
    obtain ⟨r5, σ6, e4, hf⟩ := fq_b2 hf
    refine g_callVl (pc := 33) E 0 (zm_l (by decide)) (fun _ _ => rfl) rfl [.long (-1000000001 : Int64)] (fun l D sz => qX9_finding l D cy ad sz n σ k (-1000000001 : Int64) e4) gX9_share_X9_finding rfl rfl rfl kcX9_finding ⟨by decide, by decide⟩ rfl rfl (Nat.le_of_ble_eq_true rfl) dX9_share_33 ⟨by decide, by decide⟩ ?_
    exact hret _ _ _ _ dX9_share_36 (Option.some.inj hf)
  · replace hf := fq_f c3 hf
    refine g_iload_n (pc := 8) E dX9_share_8 2 rfl rfl ?_
    obtain ⟨r8, e7, hf⟩ := fq_b hf
    refine g_callSi (pc := 9) E [.int x2] (fun l D sz => qX9_isLevel l D cy ad sz n σ k x2 e7) gX9_share_X9_isLevel rfl rfl rfl kcX9_isLevel ⟨by decide, by decide⟩ rfl rfl (Nat.le_of_ble_eq_true rfl) dX9_share_9 ⟨by decide, by decide⟩ ?_
    refine g_if_eq (pc := 12) E 29 dX9_share_12 (by decide) (fun c9 => ?_) (fun c9 => ?_)
    · replace hf := fq_t c9 hf
      refine g_aload_n (pc := 29) E dX9_share_29 0 rfl rfl ?_
      refine g_ldc2_w (pc := 30) E dX9_share_30 wX9_share_0 ?_
      obtain ⟨r11, σ12, e10, hf⟩ := fq_b2 hf
      refine g_callVl (pc := 33) E 0 (zm_l (by decide)) (fun _ _ => rfl) rfl [.long (-1000000001 : Int64)] (fun l D sz => qX9_finding l D cy ad sz n σ k (-1000000001 : Int64) e10) gX9_share_X9_finding rfl rfl rfl kcX9_finding ⟨by decide, by decide⟩ rfl rfl (Nat.le_of_ble_eq_true rfl) dX9_share_33 ⟨by decide, by decide⟩ ?_
      exact hret _ _ _ _ dX9_share_36 (Option.some.inj hf)
    · replace hf := fq_f c9 hf
      refine g_aload_n (pc := 15) E dX9_share_15 0 rfl rfl ?_
      refine g_getfield (pc := 16) E uX9_share_X9 0 (zm_l (by decide)) (fun _ _ => rfl) rfl 3 (by decide) wX9_share_1 (.ref (ad 3)) rfl dX9_share_16 ?_
      refine g_bipush (pc := 19) E (7 : Int32) dX9_share_19 (by decide) ?_
      refine g_iload_n (pc := 21) E dX9_share_21 1 rfl rfl ?_
      refine g_imul (pc := 22) E dX9_share_22 ?_
      refine g_iload_n (pc := 23) E dX9_share_23 2 rfl rfl ?_
      refine g_iadd (pc := 24) E dX9_share_24 ?_
      obtain ⟨h13, hf⟩ := fq_in hf
      refine g_laload (pc := 25) E 3 (zm_l (by decide)) (fun _ _ => rfl) h13 dX9_share_25 ?_
      refine g_goto (pc := 26) E 36 dX9_share_26 (by decide) ?_
      exact hret _ _ _ _ dX9_share_36 (Option.some.inj hf)

/-! X9_shift -/
theorem wX9_shift_0 : Cond.constantLong RX9 109 (-1000000001) ∈ wsX9_shift := by decide +kernel
theorem wX9_shift_1 : Cond.fieldLink RX9 16 "FairQueueModel" "shares" "[J" ∈ wsX9_shift := by decide +kernel
theorem uX9_shift_X9 : ∀ w ∈ u_ws RX9 TX9 33, w ∈ wsX9_shift := (fun _ h => List.mem_cons_of_mem _ (List.mem_append_right _ h))
theorem kcX9_shift : yX9_shift.cls = RX9 ∧ yX9_shift.cls ≠ "java/lang/invoke/MethodHandle" ∧ yX9_shift.cls ≠ "java/lang/invoke/VarHandle" ∧ (parseMethodDescriptor yX9_shift.desc).map (fun d => d.parameters.length) = some 4 := by decide +kernel
def pX9_shift (k n : Nat) (σ : fqS) (x1 : Int32) (x2 : Int32) (x3 : Int32) (x4 : Int32) : Option (Int64 × fqS) :=
  ((pX9_isPlayer k n σ x1).bind (fun r2 => (if r2 = 0 then (fqB2 (pX9_finding k n σ (-1000000001 : Int64)) (fun r5 σ6 => some (r5, σ6))) else ((pX9_isLevel k n σ x2).bind (fun r8 => (if r8 = 0 then (fqB2 (pX9_finding k n σ (-1000000001 : Int64)) (fun r11 σ12 => some (r11, σ12))) else ((pX9_isLevel k n σ x3).bind (fun r14 => (if r14 = 0 then (fqB2 (pX9_finding k n σ (-1000000001 : Int64)) (fun r17 σ18 => some (r17, σ18))) else (if (((7 : Int32) * x1) + x2) < 0 ∨ 112 ≤ Int32.toNatClampNeg (((7 : Int32) * x1) + x2) then none else ((pX9_in k n σ (Int32.toInt64 x4) (0 : Int64) (fqJ σ 3 (Int32.toNatClampNeg (((7 : Int32) * x1) + x2)))).bind (fun r21 => (if r21 = 0 then (fqB2 (pX9_finding k n σ (-1000000001 : Int64)) (fun r29 σ30 => some (r29, σ30))) else (fqN (fqPJ σ 3 (Int32.toNatClampNeg (((7 : Int32) * x1) + x2)) ((fqJ σ 3 (Int32.toNatClampNeg (((7 : Int32) * x1) + x2))) - (Int32.toInt64 x4))) (fun σ23 => (if (((7 : Int32) * x1) + x3) < 0 ∨ 112 ≤ Int32.toNatClampNeg (((7 : Int32) * x1) + x3) then none else (fqN (fqPJ σ23 3 (Int32.toNatClampNeg (((7 : Int32) * x1) + x3)) ((fqJ σ23 3 (Int32.toNatClampNeg (((7 : Int32) * x1) + x3))) + (Int32.toInt64 x4))) (fun σ26 => some ((fqJ σ26 3 (Int32.toNatClampNeg (((7 : Int32) * x1) + x3))), σ26)))))))))))))))))))
set_option maxRecDepth 100000 in
set_option maxHeartbeats 4000000 in
theorem qX9_shift (l : Launch) (D : va_G) (cy : Nat → ClassId) (ad : Nat → Nat) (sz n : Nat) (σ : fqS) (k : Nat) (x1 : Int32) (x2 : Int32) (x3 : Int32) (x4 : Int32) {r : Int64} {σ' : fqS} (hf : pX9_shift k n σ x1 x2 x3 x4 = some (r, σ')) : Met l yX9_shift wsX9_shift ({ frames := 2, cells := 0, slots := 0, locals := 46 } : Room) (fqPc (TM cy) ZM D cy ad sz n σ [.ref (ad 0), .int x1, .int x2, .int x3, .int x4]) (fqQl (TM cy) ZM D ad sz n σ r σ') 0 0 (fqA (TM cy) ZM ad sz n σ) := by
  refine fq_enter_l (cc := cX9_shift) (maxL := 5) (own := RX9) _ (by decide) rfl (Nat.le_of_ble_eq_true rfl) rfl (fun X E hret => ?_)
  unfold pX9_shift at hf
  show fqG X (TM cy) ZM ad n 5 0 0 σ 0 [(0, .ref (ad 0)), (1, .int x1), (2, .int x2), (3, .int x3), (4, .int x4)] []
  refine g_aload_n (pc := 0) E dX9_shift_0 0 rfl rfl ?_
  refine g_iload_n (pc := 1) E dX9_shift_1 1 rfl rfl ?_
  obtain ⟨r2, e1, hf⟩ := fq_b hf
  refine g_callVi (pc := 2) E 0 (zm_l (by decide)) (fun _ _ => rfl) rfl [.int x1] (fun l D sz => qX9_isPlayer l D cy ad sz n σ k x1 e1) gX9_shift_X9_isPlayer rfl rfl rfl kcX9_isPlayer ⟨by decide, by decide⟩ rfl rfl (Nat.le_of_ble_eq_true rfl) dX9_shift_2 ⟨by decide, by decide⟩ ?_
  refine g_if_eq (pc := 5) E 43 dX9_shift_5 (by decide) (fun c3 => ?_) (fun c3 => ?_)
  · replace hf := fq_t c3 hf
    refine g_aload_n (pc := 43) E dX9_shift_43 0 rfl rfl ?_
    refine g_ldc2_w (pc := 44) E dX9_shift_44 wX9_shift_0 ?_
    obtain ⟨r5, σ6, e4, hf⟩ := fq_b2 hf
    refine g_callVl (pc := 47) E 0 (zm_l (by decide)) (fun _ _ => rfl) rfl [.long (-1000000001 : Int64)] (fun l D sz => qX9_finding l D cy ad sz n σ k (-1000000001 : Int64) e4) gX9_shift_X9_finding rfl rfl rfl kcX9_finding ⟨by decide, by decide⟩ rfl rfl (Nat.le_of_ble_eq_true rfl) dX9_shift_47 ⟨by decide, by decide⟩ ?_
    exact hret _ _ _ _ dX9_shift_50 (Option.some.inj hf)
  · replace hf := fq_f c3 hf
    refine g_iload_n (pc := 8) E dX9_shift_8 2 rfl rfl ?_
    obtain ⟨r8, e7, hf⟩ := fq_b hf
    refine g_callSi (pc := 9) E [.int x2] (fun l D sz => qX9_isLevel l D cy ad sz n σ k x2 e7) gX9_shift_X9_isLevel rfl rfl rfl kcX9_isLevel ⟨by decide, by decide⟩ rfl rfl (Nat.le_of_ble_eq_true rfl) dX9_shift_9 ⟨by decide, by decide⟩ ?_
    refine g_if_eq (pc := 12) E 43 dX9_shift_12 (by decide) (fun c9 => ?_) (fun c9 => ?_)
    · replace hf := fq_t c9 hf
      refine g_aload_n (pc := 43) E dX9_shift_43 0 rfl rfl ?_
      refine g_ldc2_w (pc := 44) E dX9_shift_44 wX9_shift_0 ?_
      obtain ⟨r11, σ12, e10, hf⟩ := fq_b2 hf
      refine g_callVl (pc := 47) E 0 (zm_l (by decide)) (fun _ _ => rfl) rfl [.long (-1000000001 : Int64)] (fun l D sz => qX9_finding l D cy ad sz n σ k (-1000000001 : Int64) e10) gX9_shift_X9_finding rfl rfl rfl kcX9_finding ⟨by decide, by decide⟩ rfl rfl (Nat.le_of_ble_eq_true rfl) dX9_shift_47 ⟨by decide, by decide⟩ ?_
      exact hret _ _ _ _ dX9_shift_50 (Option.some.inj hf)
    · replace hf := fq_f c9 hf
      refine g_iload_n (pc := 15) E dX9_shift_15 3 rfl rfl ?_
      obtain ⟨r14, e13, hf⟩ := fq_b hf
      refine g_callSi (pc := 16) E [.int x3] (fun l D sz => qX9_isLevel l D cy ad sz n σ k x3 e13) gX9_shift_X9_isLevel rfl rfl rfl kcX9_isLevel ⟨by decide, by decide⟩ rfl rfl (Nat.le_of_ble_eq_true rfl) dX9_shift_16 ⟨by decide, by decide⟩ ?_
      refine g_if_eq (pc := 19) E 43 dX9_shift_19 (by decide) (fun c15 => ?_) (fun c15 => ?_)
      · replace hf := fq_t c15 hf
        refine g_aload_n (pc := 43) E dX9_shift_43 0 rfl rfl ?_
        refine g_ldc2_w (pc := 44) E dX9_shift_44 wX9_shift_0 ?_
        obtain ⟨r17, σ18, e16, hf⟩ := fq_b2 hf
        refine g_callVl (pc := 47) E 0 (zm_l (by decide)) (fun _ _ => rfl) rfl [.long (-1000000001 : Int64)] (fun l D sz => qX9_finding l D cy ad sz n σ k (-1000000001 : Int64) e16) gX9_shift_X9_finding rfl rfl rfl kcX9_finding ⟨by decide, by decide⟩ rfl rfl (Nat.le_of_ble_eq_true rfl) dX9_shift_47 ⟨by decide, by decide⟩ ?_
        exact hret _ _ _ _ dX9_shift_50 (Option.some.inj hf)
      · replace hf := fq_f c15 hf
        refine g_iload (pc := 22) E dX9_shift_22 4 rfl ?_
        refine g_i2l (pc := 24) E dX9_shift_24 ?_
        refine g_lconst (pc := 25) E (0 : Int64) dX9_shift_25 (by decide) ?_
        refine g_aload_n (pc := 26) E dX9_shift_26 0 rfl rfl ?_
        refine g_getfield (pc := 27) E uX9_shift_X9 0 (zm_l (by decide)) (fun _ _ => rfl) rfl 3 (by decide) wX9_shift_1 (.ref (ad 3)) rfl dX9_shift_27 ?_
        refine g_bipush (pc := 30) E (7 : Int32) dX9_shift_30 (by decide) ?_
        refine g_iload_n (pc := 32) E dX9_shift_32 1 rfl rfl ?_
        refine g_imul (pc := 33) E dX9_shift_33 ?_
        refine g_iload_n (pc := 34) E dX9_shift_34 2 rfl rfl ?_
        refine g_iadd (pc := 35) E dX9_shift_35 ?_
        obtain ⟨h19, hf⟩ := fq_in hf
        refine g_laload (pc := 36) E 3 (zm_l (by decide)) (fun _ _ => rfl) h19 dX9_shift_36 ?_
        obtain ⟨r21, e20, hf⟩ := fq_b hf
        refine g_callSi (pc := 37) E [.long (Int32.toInt64 x4), .long (0 : Int64), .long (fqJ σ 3 (Int32.toNatClampNeg (((7 : Int32) * x1) + x2)))] (fun l D sz => qX9_in l D cy ad sz n σ k (Int32.toInt64 x4) (0 : Int64) (fqJ σ 3 (Int32.toNatClampNeg (((7 : Int32) * x1) + x2))) e20) gX9_shift_X9_in rfl rfl rfl kcX9_in ⟨by decide, by decide⟩ rfl rfl (Nat.le_of_ble_eq_true rfl) dX9_shift_37 ⟨by decide, by decide⟩ ?_
        refine g_if_ne (pc := 40) E 51 dX9_shift_40 (by decide) (fun c22 => ?_) (fun c22 => ?_)
        · replace hf := fq_f c22 hf
          refine g_aload_n (pc := 51) E dX9_shift_51 0 rfl rfl ?_
          refine g_getfield (pc := 52) E uX9_shift_X9 0 (zm_l (by decide)) (fun _ _ => rfl) rfl 3 (by decide) wX9_shift_1 (.ref (ad 3)) rfl dX9_shift_52 ?_
          refine g_bipush (pc := 55) E (7 : Int32) dX9_shift_55 (by decide) ?_
          refine g_iload_n (pc := 57) E dX9_shift_57 1 rfl rfl ?_
          refine g_imul (pc := 58) E dX9_shift_58 ?_
          refine g_iload_n (pc := 59) E dX9_shift_59 2 rfl rfl ?_
          refine g_iadd (pc := 60) E dX9_shift_60 ?_
          refine g_dup2_11 (pc := 61) E dX9_shift_61 rfl rfl ?_
          refine g_laload (pc := 62) E 3 (zm_l (by decide)) (fun _ _ => rfl) h19 dX9_shift_62 ?_
          refine g_iload (pc := 63) E dX9_shift_63 4 rfl ?_
          refine g_i2l (pc := 65) E dX9_shift_65 ?_
          refine g_lsub (pc := 66) E dX9_shift_66 ?_
          refine g_lastore (pc := 67) E 3 (zm_l (by decide)) (fun _ _ => rfl) h19 dX9_shift_67 ?_
          obtain ⟨σ23, e24, hf⟩ := fq_n hf
          refine g_sg e24 ?_
          refine g_aload_n (pc := 68) E dX9_shift_68 0 rfl rfl ?_
          refine g_getfield (pc := 69) E uX9_shift_X9 0 (zm_l (by decide)) (fun _ _ => rfl) rfl 3 (by decide) wX9_shift_1 (.ref (ad 3)) rfl dX9_shift_69 ?_
          refine g_bipush (pc := 72) E (7 : Int32) dX9_shift_72 (by decide) ?_
          refine g_iload_n (pc := 74) E dX9_shift_74 1 rfl rfl ?_
          refine g_imul (pc := 75) E dX9_shift_75 ?_
          refine g_iload_n (pc := 76) E dX9_shift_76 3 rfl rfl ?_
          refine g_iadd (pc := 77) E dX9_shift_77 ?_
          refine g_dup2_11 (pc := 78) E dX9_shift_78 rfl rfl ?_
          obtain ⟨h25, hf⟩ := fq_in hf
          refine g_laload (pc := 79) E 3 (zm_l (by decide)) (fun _ _ => rfl) h25 dX9_shift_79 ?_
          refine g_iload (pc := 80) E dX9_shift_80 4 rfl ?_
          refine g_i2l (pc := 82) E dX9_shift_82 ?_
          refine g_ladd (pc := 83) E dX9_shift_83 ?_
          refine g_lastore (pc := 84) E 3 (zm_l (by decide)) (fun _ _ => rfl) h25 dX9_shift_84 ?_
          obtain ⟨σ26, e27, hf⟩ := fq_n hf
          refine g_sg e27 ?_
          refine g_aload_n (pc := 85) E dX9_shift_85 0 rfl rfl ?_
          refine g_getfield (pc := 86) E uX9_shift_X9 0 (zm_l (by decide)) (fun _ _ => rfl) rfl 3 (by decide) wX9_shift_1 (.ref (ad 3)) rfl dX9_shift_86 ?_
          refine g_bipush (pc := 89) E (7 : Int32) dX9_shift_89 (by decide) ?_
          refine g_iload_n (pc := 91) E dX9_shift_91 1 rfl rfl ?_
          refine g_imul (pc := 92) E dX9_shift_92 ?_
          refine g_iload_n (pc := 93) E dX9_shift_93 3 rfl rfl ?_
          refine g_iadd (pc := 94) E dX9_shift_94 ?_
          refine g_laload (pc := 95) E 3 (zm_l (by decide)) (fun _ _ => rfl) h25 dX9_shift_95 ?_
          exact hret _ _ _ _ dX9_shift_96 (Option.some.inj hf)
        · replace hf := fq_t c22 hf
          refine g_aload_n (pc := 43) E dX9_shift_43 0 rfl rfl ?_
          refine g_ldc2_w (pc := 44) E dX9_shift_44 wX9_shift_0 ?_
          obtain ⟨r29, σ30, e28, hf⟩ := fq_b2 hf
          refine g_callVl (pc := 47) E 0 (zm_l (by decide)) (fun _ _ => rfl) rfl [.long (-1000000001 : Int64)] (fun l D sz => qX9_finding l D cy ad sz n σ k (-1000000001 : Int64) e28) gX9_shift_X9_finding rfl rfl rfl kcX9_finding ⟨by decide, by decide⟩ rfl rfl (Nat.le_of_ble_eq_true rfl) dX9_shift_47 ⟨by decide, by decide⟩ ?_
          exact hret _ _ _ _ dX9_shift_50 (Option.some.inj hf)

/-! X9_surpriseSum -/
theorem wX9_surpriseSum_0 : Cond.fieldLink RX9 23 "FairQueueModel" "surpriseMany" "[I" ∈ wsX9_surpriseSum := by decide +kernel
theorem uX9_surpriseSum_X9 : ∀ w ∈ u_ws RX9 TX9 33, w ∈ wsX9_surpriseSum := (fun _ h => List.mem_cons_of_mem _ (List.mem_append_right _ h))
theorem wX9_surpriseSum_2 : Cond.fieldLink RX9 20 "FairQueueModel" "surprises" "[J" ∈ wsX9_surpriseSum := by decide +kernel
theorem kcX9_surpriseSum : yX9_surpriseSum.cls = RX9 ∧ yX9_surpriseSum.cls ≠ "java/lang/invoke/MethodHandle" ∧ yX9_surpriseSum.cls ≠ "java/lang/invoke/VarHandle" ∧ (parseMethodDescriptor yX9_surpriseSum.desc).map (fun d => d.parameters.length) = some 1 := by decide +kernel
def pX9_surpriseSum_L5b (k n : Nat) (σ : fqS) (x1 : Int32) (rec : (Int64 × Int32) → Option Int64) (x2 : Int64) (x4 : Int32) : Option Int64 :=
  (if x1 < 0 ∨ 16 ≤ Int32.toNatClampNeg x1 then none else (if (fqI σ 5 (Int32.toNatClampNeg x1)) ≤ x4 then some x2 else (if (((8 : Int32) * x1) + x4) < 0 ∨ 128 ≤ Int32.toNatClampNeg (((8 : Int32) * x1) + x4) then none else (rec ((x2 + (fqJ σ 4 (Int32.toNatClampNeg (((8 : Int32) * x1) + x4)))), (x4 + (1 : Int32)))))))
def pX9_surpriseSum_L5 (k n : Nat) (σ : fqS) (x1 : Int32) : (Int64 × Int32) → Option Int64 := fqL (fun rec (s : (Int64 × Int32)) => pX9_surpriseSum_L5b k n σ x1 rec s.1 s.2) k
def pX9_surpriseSum (k n : Nat) (σ : fqS) (x1 : Int32) : Option Int64 :=
  (pX9_surpriseSum_L5 k n σ x1 ((0 : Int64), (0 : Int32)))
set_option maxRecDepth 100000 in
set_option maxHeartbeats 4000000 in
theorem tX9_surpriseSum_L5 {k : Nat} {X : fqX} {cy : Nat → ClassId} {ad : Nat → Nat} {n : Nat} {σ : fqS} {r : Int64} {x1 : Int32} (E : fqE X ({ frames := 0, cells := 0, slots := 0, locals := 0 } : Room) cy cX9_surpriseSum 5 wsX9_surpriseSum RX9) (hret : fqR_l X (TM cy) ZM ad n 5 cX9_surpriseSum r σ) : ∀ (s : (Int64 × Int32)), pX9_surpriseSum_L5 k n σ x1 s = some r → fqG X (TM cy) ZM ad n 5 0 0 σ 5 [(0, .ref (ad 0)), (1, .int x1), (2, .long (s.1)), (4, .int (s.2))] [] := by
  unfold pX9_surpriseSum_L5
  refine fqL_run (P := fun (s : (Int64 × Int32)) => fqG X (TM cy) ZM ad n 5 0 0 σ 5 [(0, .ref (ad 0)), (1, .int x1), (2, .long (s.1)), (4, .int (s.2))] []) (fun rec s hrec hf => ?_) k
  obtain ⟨x2, x4⟩ := s
  have hf : pX9_surpriseSum_L5b k n σ x1 rec x2 x4 = some r := hf
  unfold pX9_surpriseSum_L5b at hf
  show fqG X (TM cy) ZM ad n 5 0 0 σ 5 [(0, .ref (ad 0)), (1, .int x1), (2, .long x2), (4, .int x4)] []
  refine g_iload (pc := 5) E dX9_surpriseSum_5 3 rfl ?_
  refine g_aload_n (pc := 7) E dX9_surpriseSum_7 0 rfl rfl ?_
  refine g_getfield (pc := 8) E uX9_surpriseSum_X9 0 (zm_l (by decide)) (fun _ _ => rfl) rfl 5 (by decide) wX9_surpriseSum_0 (.ref (ad 5)) rfl dX9_surpriseSum_8 ?_
  refine g_iload_n (pc := 11) E dX9_surpriseSum_11 1 rfl rfl ?_
  obtain ⟨h1, hf⟩ := fq_in hf
  refine g_iaload (pc := 12) E 5 (zm_l (by decide)) (fun _ _ => rfl) h1 dX9_surpriseSum_12 ?_
  refine g_icmp_ge (pc := 13) E 37 dX9_surpriseSum_13 (by decide) (fun c2 => ?_) (fun c2 => ?_)
  · replace hf := fq_t c2 hf
    refine g_lload_n (pc := 37) E dX9_surpriseSum_37 2 rfl rfl ?_
    exact hret _ _ _ _ dX9_surpriseSum_38 (congrArg (fun z => (z, σ)) (Option.some.inj hf))
  · replace hf := fq_f c2 hf
    refine g_lload_n (pc := 16) E dX9_surpriseSum_16 2 rfl rfl ?_
    refine g_aload_n (pc := 17) E dX9_surpriseSum_17 0 rfl rfl ?_
    refine g_getfield (pc := 18) E uX9_surpriseSum_X9 0 (zm_l (by decide)) (fun _ _ => rfl) rfl 4 (by decide) wX9_surpriseSum_2 (.ref (ad 4)) rfl dX9_surpriseSum_18 ?_
    refine g_bipush (pc := 21) E (8 : Int32) dX9_surpriseSum_21 (by decide) ?_
    refine g_iload_n (pc := 23) E dX9_surpriseSum_23 1 rfl rfl ?_
    refine g_imul (pc := 24) E dX9_surpriseSum_24 ?_
    refine g_iload (pc := 25) E dX9_surpriseSum_25 3 rfl ?_
    refine g_iadd (pc := 27) E dX9_surpriseSum_27 ?_
    obtain ⟨h3, hf⟩ := fq_in hf
    refine g_laload (pc := 28) E 4 (zm_l (by decide)) (fun _ _ => rfl) h3 dX9_surpriseSum_28 ?_
    refine g_ladd (pc := 29) E dX9_surpriseSum_29 ?_
    refine g_lstore_n (pc := 30) E [(2, .long (x2 + (fqJ σ 4 (Int32.toNatClampNeg (((8 : Int32) * x1) + x4))))), (0, .ref (ad 0)), (1, .int x1), (4, .int x4)] dX9_surpriseSum_30 rfl (by decide) rfl ?_
    refine g_iinc (pc := 31) E (x4 + (1 : Int32)) [(4, .int (x4 + (1 : Int32))), (2, .long (x2 + (fqJ σ 4 (Int32.toNatClampNeg (((8 : Int32) * x1) + x4))))), (0, .ref (ad 0)), (1, .int x1)] dX9_surpriseSum_31 3 rfl rfl (by decide) rfl ?_
    refine g_goto (pc := 34) E 5 dX9_surpriseSum_34 (by decide) ?_
    refine g_lv [2, 3, 1, 0] rfl ?_
    exact hrec _ hf
set_option maxRecDepth 100000 in
set_option maxHeartbeats 4000000 in
theorem qX9_surpriseSum (l : Launch) (D : va_G) (cy : Nat → ClassId) (ad : Nat → Nat) (sz n : Nat) (σ : fqS) (k : Nat) (x1 : Int32) {r : Int64} (hf : pX9_surpriseSum k n σ x1 = some r) : Met l yX9_surpriseSum wsX9_surpriseSum ({ frames := 0, cells := 0, slots := 0, locals := 0 } : Room) (fqPc (TM cy) ZM D cy ad sz n σ [.ref (ad 0), .int x1]) (fqQl (TM cy) ZM D ad sz n σ r σ) 0 0 (fqA (TM cy) ZM ad sz n σ) := by
  refine fq_enter_l (cc := cX9_surpriseSum) (maxL := 5) (own := RX9) _ (by decide) rfl (Nat.le_of_ble_eq_true rfl) rfl (fun X E hret => ?_)
  unfold pX9_surpriseSum at hf
  show fqG X (TM cy) ZM ad n 5 0 0 σ 0 [(0, .ref (ad 0)), (1, .int x1)] []
  refine g_lconst (pc := 0) E (0 : Int64) dX9_surpriseSum_0 (by decide) ?_
  refine g_lstore_n (pc := 1) E [(2, .long (0 : Int64)), (0, .ref (ad 0)), (1, .int x1)] dX9_surpriseSum_1 rfl (by decide) rfl ?_
  refine g_iconst (pc := 2) E (0 : Int32) dX9_surpriseSum_2 (by decide) ?_
  refine g_istore (pc := 3) E [(4, .int (0 : Int32)), (2, .long (0 : Int64)), (0, .ref (ad 0)), (1, .int x1)] dX9_surpriseSum_3 (by decide) rfl ?_
  refine g_lv [2, 3, 1, 0] rfl ?_
  exact tX9_surpriseSum_L5 E hret _ hf

/-! X9_sinking -/
theorem wX9_sinking_0 : Cond.fieldLink RX9 94 "FairQueueModel" "players" "I" ∈ wsX9_sinking := by decide +kernel
theorem uX9_sinking_X9 : ∀ w ∈ u_ws RX9 TX9 33, w ∈ wsX9_sinking := (fun _ h => List.mem_cons_of_mem _ (List.mem_append_right _ h))
theorem wX9_sinking_2 : Cond.fieldLink RX9 23 "FairQueueModel" "surpriseMany" "[I" ∈ wsX9_sinking := by decide +kernel
theorem wX9_sinking_3 : Cond.fieldLink RX9 65 "FairQueueModel" "limit" "I" ∈ wsX9_sinking := by decide +kernel
theorem kcX9_sinking : yX9_sinking.cls = RX9 ∧ yX9_sinking.cls ≠ "java/lang/invoke/MethodHandle" ∧ yX9_sinking.cls ≠ "java/lang/invoke/VarHandle" ∧ (parseMethodDescriptor yX9_sinking.desc).map (fun d => d.parameters.length) = some 0 := by decide +kernel
def pX9_sinking_L4b (k n : Nat) (σ : fqS) (rec : (Int32 × Int32) → Option Int64) (x1 : Int32) (x2 : Int32) : Option Int64 :=
  (if (fqI σ 0 1) ≤ x2 then some (Int32.toInt64 x1) else (if x2 < 0 ∨ 16 ≤ Int32.toNatClampNeg x2 then none else (if (fqI σ 5 (Int32.toNatClampNeg x2)) < (5 : Int32) then (rec ((x1 ||| (0 : Int32)), (x2 + (1 : Int32)))) else ((pX9_surpriseSum k n σ x2).bind (fun r5 => (if (Int32.toInt64 (-(fqI σ 0 20))) ≤ r5 then (rec ((x1 ||| (0 : Int32)), (x2 + (1 : Int32)))) else (rec ((x1 ||| ((1 : Int32) <<< (x2 &&& 31))), (x2 + (1 : Int32))))))))))
def pX9_sinking_L4 (k n : Nat) (σ : fqS) : (Int32 × Int32) → Option Int64 := fqL (fun rec (s : (Int32 × Int32)) => pX9_sinking_L4b k n σ rec s.1 s.2) k
def pX9_sinking (k n : Nat) (σ : fqS) : Option Int64 :=
  (pX9_sinking_L4 k n σ ((0 : Int32), (0 : Int32)))
set_option maxRecDepth 100000 in
set_option maxHeartbeats 4000000 in
theorem tX9_sinking_L4 {k : Nat} {X : fqX} {cy : Nat → ClassId} {ad : Nat → Nat} {n : Nat} {σ : fqS} {r : Int64} (E : fqE X ({ frames := 1, cells := 0, slots := 0, locals := 24 } : Room) cy cX9_sinking 3 wsX9_sinking RX9) (hret : fqR_l X (TM cy) ZM ad n 3 cX9_sinking r σ) : ∀ (s : (Int32 × Int32)), pX9_sinking_L4 k n σ s = some r → fqG X (TM cy) ZM ad n 3 0 0 σ 4 [(0, .ref (ad 0)), (1, .int (s.1)), (2, .int (s.2))] [] := by
  unfold pX9_sinking_L4
  refine fqL_run (P := fun (s : (Int32 × Int32)) => fqG X (TM cy) ZM ad n 3 0 0 σ 4 [(0, .ref (ad 0)), (1, .int (s.1)), (2, .int (s.2))] []) (fun rec s hrec hf => ?_) k
  obtain ⟨x1, x2⟩ := s
  have hf : pX9_sinking_L4b k n σ rec x1 x2 = some r := hf
  unfold pX9_sinking_L4b at hf
  show fqG X (TM cy) ZM ad n 3 0 0 σ 4 [(0, .ref (ad 0)), (1, .int x1), (2, .int x2)] []
  refine g_iload_n (pc := 4) E dX9_sinking_4 2 rfl rfl ?_
  refine g_aload_n (pc := 5) E dX9_sinking_5 0 rfl rfl ?_
  refine g_getfield (pc := 6) E uX9_sinking_X9 0 (zm_l (by decide)) (fun _ _ => rfl) rfl 1 (by decide) wX9_sinking_0 (.int (fqI σ 0 1)) rfl dX9_sinking_6 ?_
  refine g_icmp_ge (pc := 9) E 53 dX9_sinking_9 (by decide) (fun c1 => ?_) (fun c1 => ?_)
  · replace hf := fq_t c1 hf
    refine g_iload_n (pc := 53) E dX9_sinking_53 1 rfl rfl ?_
    refine g_i2l (pc := 54) E dX9_sinking_54 ?_
    exact hret _ _ _ _ dX9_sinking_55 (congrArg (fun z => (z, σ)) (Option.some.inj hf))
  · replace hf := fq_f c1 hf
    refine g_iload_n (pc := 12) E dX9_sinking_12 1 rfl rfl ?_
    refine g_aload_n (pc := 13) E dX9_sinking_13 0 rfl rfl ?_
    refine g_getfield (pc := 14) E uX9_sinking_X9 0 (zm_l (by decide)) (fun _ _ => rfl) rfl 5 (by decide) wX9_sinking_2 (.ref (ad 5)) rfl dX9_sinking_14 ?_
    refine g_iload_n (pc := 17) E dX9_sinking_17 2 rfl rfl ?_
    obtain ⟨h2, hf⟩ := fq_in hf
    refine g_iaload (pc := 18) E 5 (zm_l (by decide)) (fun _ _ => rfl) h2 dX9_sinking_18 ?_
    refine g_iconst (pc := 19) E (5 : Int32) dX9_sinking_19 (by decide) ?_
    refine g_icmp_lt (pc := 20) E 44 dX9_sinking_20 (by decide) (fun c3 => ?_) (fun c3 => ?_)
    · replace hf := fq_t c3 hf
      refine g_iconst (pc := 44) E (0 : Int32) dX9_sinking_44 (by decide) ?_
      refine g_ior (pc := 45) E dX9_sinking_45 ?_
      refine g_istore_n (pc := 46) E [(1, .int (x1 ||| (0 : Int32))), (0, .ref (ad 0)), (2, .int x2)] dX9_sinking_46 rfl (by decide) rfl ?_
      refine g_iinc (pc := 47) E (x2 + (1 : Int32)) [(2, .int (x2 + (1 : Int32))), (1, .int (x1 ||| (0 : Int32))), (0, .ref (ad 0))] dX9_sinking_47 2 rfl rfl (by decide) rfl ?_
      refine g_goto (pc := 50) E 4 dX9_sinking_50 (by decide) ?_
      refine g_lv [2, 1, 0] rfl ?_
      exact hrec _ hf
    · replace hf := fq_f c3 hf
      refine g_aload_n (pc := 23) E dX9_sinking_23 0 rfl rfl ?_
      refine g_iload_n (pc := 24) E dX9_sinking_24 2 rfl rfl ?_
      obtain ⟨r5, e4, hf⟩ := fq_b hf
      refine g_callVl (pc := 25) E 0 (zm_l (by decide)) (fun _ _ => rfl) rfl [.int x2] (fun l D sz => qX9_surpriseSum l D cy ad sz n σ k x2 e4) gX9_sinking_X9_surpriseSum rfl rfl rfl kcX9_surpriseSum ⟨by decide, by decide⟩ rfl rfl (Nat.le_of_ble_eq_true rfl) dX9_sinking_25 ⟨by decide, by decide⟩ ?_
      refine g_aload_n (pc := 28) E dX9_sinking_28 0 rfl rfl ?_
      refine g_getfield (pc := 29) E uX9_sinking_X9 0 (zm_l (by decide)) (fun _ _ => rfl) rfl 20 (by decide) wX9_sinking_3 (.int (fqI σ 0 20)) rfl dX9_sinking_29 ?_
      refine g_ineg (pc := 32) E dX9_sinking_32 ?_
      refine g_i2l (pc := 33) E dX9_sinking_33 ?_
      refine g_lif_ge (pc := 34) E 44 dX9_sinking_34 dX9_sinking_35 (by decide) (fun c6 => ?_) (fun c6 => ?_)
      · replace hf := fq_t c6 hf
        refine g_iconst (pc := 44) E (0 : Int32) dX9_sinking_44 (by decide) ?_
        refine g_ior (pc := 45) E dX9_sinking_45 ?_
        refine g_istore_n (pc := 46) E [(1, .int (x1 ||| (0 : Int32))), (0, .ref (ad 0)), (2, .int x2)] dX9_sinking_46 rfl (by decide) rfl ?_
        refine g_iinc (pc := 47) E (x2 + (1 : Int32)) [(2, .int (x2 + (1 : Int32))), (1, .int (x1 ||| (0 : Int32))), (0, .ref (ad 0))] dX9_sinking_47 2 rfl rfl (by decide) rfl ?_
        refine g_goto (pc := 50) E 4 dX9_sinking_50 (by decide) ?_
        refine g_lv [2, 1, 0] rfl ?_
        exact hrec _ hf
      · replace hf := fq_f c6 hf
        refine g_iconst (pc := 38) E (1 : Int32) dX9_sinking_38 (by decide) ?_
        refine g_iload_n (pc := 39) E dX9_sinking_39 2 rfl rfl ?_
        refine g_ishl (pc := 40) E dX9_sinking_40 ?_
        refine g_goto (pc := 41) E 45 dX9_sinking_41 (by decide) ?_
        refine g_ior (pc := 45) E dX9_sinking_45 ?_
        refine g_istore_n (pc := 46) E [(1, .int (x1 ||| ((1 : Int32) <<< (x2 &&& 31)))), (0, .ref (ad 0)), (2, .int x2)] dX9_sinking_46 rfl (by decide) rfl ?_
        refine g_iinc (pc := 47) E (x2 + (1 : Int32)) [(2, .int (x2 + (1 : Int32))), (1, .int (x1 ||| ((1 : Int32) <<< (x2 &&& 31)))), (0, .ref (ad 0))] dX9_sinking_47 2 rfl rfl (by decide) rfl ?_
        refine g_goto (pc := 50) E 4 dX9_sinking_50 (by decide) ?_
        refine g_lv [2, 1, 0] rfl ?_
        exact hrec _ hf
set_option maxRecDepth 100000 in
set_option maxHeartbeats 4000000 in
theorem qX9_sinking (l : Launch) (D : va_G) (cy : Nat → ClassId) (ad : Nat → Nat) (sz n : Nat) (σ : fqS) (k : Nat) {r : Int64} (hf : pX9_sinking k n σ = some r) : Met l yX9_sinking wsX9_sinking ({ frames := 1, cells := 0, slots := 0, locals := 24 } : Room) (fqPc (TM cy) ZM D cy ad sz n σ [.ref (ad 0)]) (fqQl (TM cy) ZM D ad sz n σ r σ) 0 0 (fqA (TM cy) ZM ad sz n σ) := by
  refine fq_enter_l (cc := cX9_sinking) (maxL := 3) (own := RX9) _ (by decide) rfl (Nat.le_of_ble_eq_true rfl) rfl (fun X E hret => ?_)
  unfold pX9_sinking at hf
  show fqG X (TM cy) ZM ad n 3 0 0 σ 0 [(0, .ref (ad 0))] []
  refine g_iconst (pc := 0) E (0 : Int32) dX9_sinking_0 (by decide) ?_
  refine g_istore_n (pc := 1) E [(1, .int (0 : Int32)), (0, .ref (ad 0))] dX9_sinking_1 rfl (by decide) rfl ?_
  refine g_iconst (pc := 2) E (0 : Int32) dX9_sinking_2 (by decide) ?_
  refine g_istore_n (pc := 3) E [(2, .int (0 : Int32)), (1, .int (0 : Int32)), (0, .ref (ad 0))] dX9_sinking_3 rfl (by decide) rfl ?_
  refine g_lv [2, 1, 0] rfl ?_
  exact tX9_sinking_L4 E hret _ hf
