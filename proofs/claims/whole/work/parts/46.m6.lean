/-! X9_waited -/
theorem wX9_waited_0 : Cond.fieldLink RX9 89 "FairQueueModel" "ticks" "I" ∈ wsX9_waited := by decide +kernel
theorem uX9_waited_X9 : ∀ w ∈ u_ws RX9 TX9 33, w ∈ wsX9_waited := (fun _ h => List.mem_cons_of_mem _ (List.mem_append_right _ h))
theorem wX9_waited_2 : Cond.fieldLink RX9 45 "FairQueueModel" "partyTick" "[I" ∈ wsX9_waited := by decide +kernel
theorem wX9_waited_3 : Cond.constantLong RX9 173 (-1000000002) ∈ wsX9_waited := by decide +kernel
theorem wX9_waited_4 : Cond.constantLong RX9 109 (-1000000001) ∈ wsX9_waited := by decide +kernel
theorem kcX9_waited : yX9_waited.cls = RX9 ∧ yX9_waited.cls ≠ "java/lang/invoke/MethodHandle" ∧ yX9_waited.cls ≠ "java/lang/invoke/VarHandle" ∧ (parseMethodDescriptor yX9_waited.desc).map (fun d => d.parameters.length) = some 2 := by decide +kernel
def pX9_waited (k n : Nat) (σ : fqS) (x1 : Int32) (x2 : Int32) : Option (Int64 × fqS) :=
  ((pX9_isPlayer k n σ x1).bind (fun r2 => (if r2 = 0 then (fqB2 (pX9_finding k n σ (-1000000001 : Int64)) (fun r15 σ16 => some (r15, σ16))) else ((pX9_partyOf k n σ x1).bind (fun r5 => (if 0 ≤ r5 then (if x2 = 0 then (if r5 < 0 ∨ 10 ≤ Int32.toNatClampNeg r5 then none else some ((Int32.toInt64 ((fqI σ 0 10) - (fqI σ 7 (Int32.toNatClampNeg r5)))), σ)) else ((pX9_boundOf k n σ r5).bind (fun r10 => some (r10, σ)))) else (fqB2 (pX9_finding k n σ (-1000000002 : Int64)) (fun r12 σ13 => some (r12, σ13)))))))))
set_option maxRecDepth 100000 in
set_option maxHeartbeats 4000000 in
theorem qX9_waited (l : Launch) (D : va_G) (cy : Nat → ClassId) (ad : Nat → Nat) (sz n : Nat) (σ : fqS) (k : Nat) (x1 : Int32) (x2 : Int32) {r : Int64} {σ' : fqS} (hf : pX9_waited k n σ x1 x2 = some (r, σ')) : Met l yX9_waited wsX9_waited ({ frames := 2, cells := 0, slots := 0, locals := 46 } : Room) (fqPc (TM cy) ZM D cy ad sz n σ [.ref (ad 0), .int x1, .int x2]) (fqQl (TM cy) ZM D ad sz n σ r σ') 0 0 (fqA (TM cy) ZM ad sz n σ) := by
  refine fq_enter_l (cc := cX9_waited) (maxL := 4) (own := RX9) _ (by decide) rfl (Nat.le_of_ble_eq_true rfl) rfl (fun X E hret => ?_)
  unfold pX9_waited at hf
  show fqG X (TM cy) ZM ad n 4 0 0 σ 0 [(0, .ref (ad 0)), (1, .int x1), (2, .int x2)] []
  refine g_aload_n (pc := 0) E dX9_waited_0 0 rfl rfl ?_
  refine g_iload_n (pc := 1) E dX9_waited_1 1 rfl rfl ?_
  obtain ⟨r2, e1, hf⟩ := fq_b hf
  refine g_callVi (pc := 2) E 0 (zm_l (by decide)) (fun _ _ => rfl) rfl [.int x1] (fun l D sz => qX9_isPlayer l D cy ad sz n σ k x1 e1) gX9_waited_X9_isPlayer rfl rfl rfl kcX9_isPlayer ⟨by decide, by decide⟩ rfl rfl (Nat.le_of_ble_eq_true rfl) dX9_waited_2 ⟨by decide, by decide⟩ ?_
  refine g_if_ne (pc := 5) E 16 dX9_waited_5 (by decide) (fun c3 => ?_) (fun c3 => ?_)
  · replace hf := fq_f c3 hf
    refine g_aload_n (pc := 16) E dX9_waited_16 0 rfl rfl ?_
    refine g_iload_n (pc := 17) E dX9_waited_17 1 rfl rfl ?_
    obtain ⟨r5, e4, hf⟩ := fq_b hf
    refine g_callVi (pc := 18) E 0 (zm_l (by decide)) (fun _ _ => rfl) rfl [.int x1] (fun l D sz => qX9_partyOf l D cy ad sz n σ k x1 e4) gX9_waited_X9_partyOf rfl rfl rfl kcX9_partyOf ⟨by decide, by decide⟩ rfl rfl (Nat.le_of_ble_eq_true rfl) dX9_waited_18 ⟨by decide, by decide⟩ ?_
    refine g_istore_n (pc := 21) E [(3, .int r5), (0, .ref (ad 0)), (1, .int x1), (2, .int x2)] dX9_waited_21 rfl (by decide) rfl ?_
    refine g_iload_n (pc := 22) E dX9_waited_22 0 rfl rfl ?_
    refine g_if_ge (pc := 23) E 34 dX9_waited_23 (by decide) (fun c6 => ?_) (fun c6 => ?_)
    · replace hf := fq_t c6 hf
      refine g_iload_n (pc := 34) E dX9_waited_34 3 rfl rfl ?_
      refine g_if_eq (pc := 35) E 46 dX9_waited_35 (by decide) (fun c7 => ?_) (fun c7 => ?_)
      · replace hf := fq_t c7 hf
        refine g_aload_n (pc := 46) E dX9_waited_46 1 rfl rfl ?_
        refine g_getfield (pc := 47) E uX9_waited_X9 0 (zm_l (by decide)) (fun _ _ => rfl) rfl 10 (by decide) wX9_waited_0 (.int (fqI σ 0 10)) rfl dX9_waited_47 ?_
        refine g_aload_n (pc := 50) E dX9_waited_50 1 rfl rfl ?_
        refine g_getfield (pc := 51) E uX9_waited_X9 0 (zm_l (by decide)) (fun _ _ => rfl) rfl 13 (by decide) wX9_waited_2 (.ref (ad 7)) rfl dX9_waited_51 ?_
        refine g_iload_n (pc := 54) E dX9_waited_54 0 rfl rfl ?_
        obtain ⟨h8, hf⟩ := fq_in hf
        refine g_iaload (pc := 55) E 7 (zm_l (by decide)) (fun _ _ => rfl) h8 dX9_waited_55 ?_
        refine g_isub (pc := 56) E dX9_waited_56 ?_
        refine g_i2l (pc := 57) E dX9_waited_57 ?_
        exact hret _ _ _ _ dX9_waited_58 (Option.some.inj hf)
      · replace hf := fq_f c7 hf
        refine g_aload_n (pc := 38) E dX9_waited_38 1 rfl rfl ?_
        refine g_iload_n (pc := 39) E dX9_waited_39 0 rfl rfl ?_
        obtain ⟨r10, e9, hf⟩ := fq_b hf
        refine g_callVl (pc := 40) E 0 (zm_l (by decide)) (fun _ _ => rfl) rfl [.int r5] (fun l D sz => qX9_boundOf l D cy ad sz n σ k r5 e9) gX9_waited_X9_boundOf rfl rfl rfl kcX9_boundOf ⟨by decide, by decide⟩ rfl rfl (Nat.le_of_ble_eq_true rfl) dX9_waited_40 ⟨by decide, by decide⟩ ?_
        refine g_goto (pc := 43) E 58 dX9_waited_43 (by decide) ?_
        exact hret _ _ _ _ dX9_waited_58 (Option.some.inj hf)
    · replace hf := fq_f c6 hf
      refine g_aload_n (pc := 26) E dX9_waited_26 1 rfl rfl ?_
      refine g_ldc2_w (pc := 27) E dX9_waited_27 wX9_waited_3 ?_
      obtain ⟨r12, σ13, e11, hf⟩ := fq_b2 hf
      refine g_callVl (pc := 30) E 0 (zm_l (by decide)) (fun _ _ => rfl) rfl [.long (-1000000002 : Int64)] (fun l D sz => qX9_finding l D cy ad sz n σ k (-1000000002 : Int64) e11) gX9_waited_X9_finding rfl rfl rfl kcX9_finding ⟨by decide, by decide⟩ rfl rfl (Nat.le_of_ble_eq_true rfl) dX9_waited_30 ⟨by decide, by decide⟩ ?_
      exact hret _ _ _ _ dX9_waited_33 (Option.some.inj hf)
  · replace hf := fq_t c3 hf
    refine g_aload_n (pc := 8) E dX9_waited_8 0 rfl rfl ?_
    refine g_ldc2_w (pc := 9) E dX9_waited_9 wX9_waited_4 ?_
    obtain ⟨r15, σ16, e14, hf⟩ := fq_b2 hf
    refine g_callVl (pc := 12) E 0 (zm_l (by decide)) (fun _ _ => rfl) rfl [.long (-1000000001 : Int64)] (fun l D sz => qX9_finding l D cy ad sz n σ k (-1000000001 : Int64) e14) gX9_waited_X9_finding rfl rfl rfl kcX9_finding ⟨by decide, by decide⟩ rfl rfl (Nat.le_of_ble_eq_true rfl) dX9_waited_12 ⟨by decide, by decide⟩ ?_
    exact hret _ _ _ _ dX9_waited_15 (Option.some.inj hf)
