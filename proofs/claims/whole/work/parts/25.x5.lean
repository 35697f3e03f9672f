/-! X8_drop -/
theorem wX8_drop_0 : Cond.fieldLink RX8 10 "FairQueue" "players" "LFairQueue$Players;" ∈ wsX8_drop := by decide +kernel
theorem uX8_drop_X8 : ∀ w ∈ u_ws RX8 TX8 13, w ∈ wsX8_drop := (fun _ h => List.mem_cons_of_mem _ (List.mem_append_left _ (List.mem_append_left _ (List.mem_append_left _ (List.mem_append_left _ (List.mem_append_right _ h))))))
theorem wX8_drop_2 : Cond.fieldLink RX8 43 "FairQueue" "matches" "LFairQueue$Matches;" ∈ wsX8_drop := by decide +kernel
theorem wX8_drop_3 : Cond.fieldLink RX8 219 "FairQueue$Match" "dropped" "I" ∈ wsX8_drop := by decide +kernel
theorem uX8_drop_X1 : ∀ w ∈ u_ws RX1 TX1 4, w ∈ wsX8_drop := (fun _ h => List.mem_cons_of_mem _ (List.mem_append_left _ (List.mem_append_left _ (List.mem_append_left _ (List.mem_append_right _ h)))))
theorem kcX8_drop : yX8_drop.cls = RX8 ∧ yX8_drop.cls ≠ "java/lang/invoke/MethodHandle" ∧ yX8_drop.cls ≠ "java/lang/invoke/VarHandle" ∧ (parseMethodDescriptor yX8_drop.desc).map (fun d => d.parameters.length) = some 1 := by decide +kernel
def pX8_drop (k n : Nat) (σ : fqS) (x1 : Int32) : Option (Int64 × fqS) :=
  ((pX6_at k n σ x1).bind (fun r2 => (fqM r2 ((fqB2 (pX8_finding k n σ (1 : Int32)) (fun r6 σ7 => some (r6, σ7)))) (fun z3 => (if z3 < n then ((pX8_bitOf k n σ x1).bind (fun r9 => ((pX2_withPlayer k n σ r9).bind (fun r11 => (fqM r11 ((fqB2 (pX8_finding k n σ (2 : Int32)) (fun r15 σ16 => some (r15, σ16)))) (fun z12 => (if z12 < 5 then ((pX1_rivalsOf k n σ z12 r9).bind (fun r18 => (fqB2 (pX6_reckon k n σ z3 r18 (0 : Int32)) (fun r20 σ21 => (if r20 = 0 then (fqN (fqPI σ21 (18 + z12) 2 ((fqI σ21 (18 + z12) 2) ||| r9)) (fun σ23 => ((pX1_isDeserted k n σ23 z12).bind (fun r26 => (if r26 = 0 then some ((0 : Int64), σ23) else ((pX1_resultOfDeserted k n σ23 z12).bind (fun r29 => (fqB2 (pX2_finish k n σ23 z12 r29) (fun r31 σ32 => some ((1 : Int64), σ32)))))))))) else ((pX5_settle k n σ21 z3).bind (fun σ34 => (fqN (fqPI σ34 (18 + z12) 2 ((fqI σ34 (18 + z12) 2) ||| r9)) (fun σ35 => ((pX1_isDeserted k n σ35 z12).bind (fun r38 => (if r38 = 0 then some ((0 : Int64), σ35) else ((pX1_resultOfDeserted k n σ35 z12).bind (fun r41 => (fqB2 (pX2_finish k n σ35 z12 r41) (fun r43 σ44 => some ((1 : Int64), σ44))))))))))))))))) else none))))))) else none)))))
set_option maxRecDepth 100000 in
set_option maxHeartbeats 4000000 in
theorem qX8_drop (l : Launch) (D : va_G) (cy : Nat → ClassId) (ad : Nat → Nat) (sz n : Nat) (σ : fqS) (k : Nat) (x1 : Int32) {r : Int64} {σ' : fqS} (hf : pX8_drop k n σ x1 = some (r, σ')) : Met l yX8_drop wsX8_drop ({ frames := 6, cells := 0, slots := 0, locals := 152 } : Room) (fqPc (TX cy) ZX D cy ad sz n σ [.ref (ad 0), .int x1]) (fqQl (TX cy) ZX D ad sz n σ r σ') 0 0 (fqA (TX cy) ZX ad sz n σ) := by
  refine fq_enter_l (cc := cX8_drop) (maxL := 5) (own := RX8) _ (by decide) rfl (Nat.le_of_ble_eq_true rfl) rfl (fun X E hret => ?_)
  unfold pX8_drop at hf
  show fqG X (TX cy) ZX ad n 5 0 0 σ 0 [(0, .ref (ad 0)), (1, .int x1)] []
  refine g_aload_n (pc := 0) E dX8_drop_0 0 rfl rfl ?_
  refine g_getfield (pc := 1) E uX8_drop_X8 0 (zx_l (by decide)) (fun _ _ => rfl) rfl 0 (by decide) wX8_drop_0 (.ref (ad 1)) rfl dX8_drop_1 ?_
  refine g_iload_n (pc := 4) E dX8_drop_4 1 rfl rfl ?_
  obtain ⟨r2, e1, hf⟩ := fq_b hf
  refine g_callVq (pc := 5) E 1 (zx_l (by decide)) (fun _ _ => rfl) rfl [.int x1] (fun l D sz => qX6_at l D cy ad sz n σ k x1 e1) gX8_drop_X6_at rfl rfl rfl kcX6_at ⟨by decide, by decide⟩ rfl rfl (Nat.le_of_ble_eq_true rfl) dX8_drop_5 ⟨by decide, by decide⟩ ?_
  cases r2 with
  | none =>
    replace hf := fqM_n hf
    refine g_st (st' := [.null]) rfl ?_
    refine g_astore_nN (pc := 8) E [(2, .null), (0, .ref (ad 0)), (1, .int x1)] dX8_drop_8 rfl (by decide) rfl ?_
    refine g_aload_nN (pc := 9) E dX8_drop_9 0 rfl rfl ?_
    refine g_ifnonnullN (pc := 10) E dX8_drop_10 ?_
    refine g_aload_n (pc := 13) E dX8_drop_13 1 rfl rfl ?_
    refine g_iconst (pc := 14) E (1 : Int32) dX8_drop_14 (by decide) ?_
    obtain ⟨r6, σ7, e5, hf⟩ := fq_b2 hf
    refine g_callVl (pc := 15) E 0 (zx_l (by decide)) (fun _ _ => rfl) rfl [.int (1 : Int32)] (fun l D sz => qX8_finding l D cy ad sz n σ k (1 : Int32) e5) gX8_drop_X8_finding rfl rfl rfl kcX8_finding ⟨by decide, by decide⟩ rfl rfl (Nat.le_of_ble_eq_true rfl) dX8_drop_15 ⟨by decide, by decide⟩ ?_
    exact hret _ _ _ _ dX8_drop_18 (Option.some.inj hf)
  | some z3 =>
    obtain ⟨h4, hf⟩ := fq_g (fqM_s hf)
    refine g_st (st' := [.ref (ad (26 + 4 * z3))]) rfl ?_
    refine g_astore_n (pc := 8) E [(2, .ref (ad (26 + 4 * z3))), (0, .ref (ad 0)), (1, .int x1)] dX8_drop_8 rfl (by decide) rfl ?_
    refine g_aload_n (pc := 9) E dX8_drop_9 0 rfl rfl ?_
    refine g_ifnonnull (pc := 10) E 19 dX8_drop_10 (by decide) ?_
    refine g_iload_n (pc := 19) E dX8_drop_19 2 rfl rfl ?_
    obtain ⟨r9, e8, hf⟩ := fq_b hf
    refine g_callSi (pc := 20) E [.int x1] (fun l D sz => qX8_bitOf l D cy ad sz n σ k x1 e8) gX8_drop_X8_bitOf rfl rfl rfl kcX8_bitOf ⟨by decide, by decide⟩ rfl rfl (Nat.le_of_ble_eq_true rfl) dX8_drop_20 ⟨by decide, by decide⟩ ?_
    refine g_istore_n (pc := 23) E [(3, .int r9), (2, .ref (ad (26 + 4 * z3))), (0, .ref (ad 0)), (1, .int x1)] dX8_drop_23 rfl (by decide) rfl ?_
    refine g_aload_n (pc := 24) E dX8_drop_24 2 rfl rfl ?_
    refine g_getfield (pc := 25) E uX8_drop_X8 0 (zx_l (by decide)) (fun _ _ => rfl) rfl 5 (by decide) wX8_drop_2 (.ref (ad 16)) rfl dX8_drop_25 ?_
    refine g_iload_n (pc := 28) E dX8_drop_28 0 rfl rfl ?_
    obtain ⟨r11, e10, hf⟩ := fq_b hf
    refine g_callVq (pc := 29) E 16 (zx_l (by decide)) (fun _ _ => rfl) rfl [.int r9] (fun l D sz => qX2_withPlayer l D cy ad sz n σ k r9 e10) gX8_drop_X2_withPlayer rfl rfl rfl kcX2_withPlayer ⟨by decide, by decide⟩ rfl rfl (Nat.le_of_ble_eq_true rfl) dX8_drop_29 ⟨by decide, by decide⟩ ?_
    cases r11 with
    | none =>
      replace hf := fqM_n hf
      refine g_st (st' := [.null]) rfl ?_
      refine g_astoreN (pc := 32) E [(4, .null), (3, .int r9), (2, .ref (ad (26 + 4 * z3))), (0, .ref (ad 0)), (1, .int x1)] dX8_drop_32 (by decide) rfl ?_
      refine g_aloadN (pc := 34) E dX8_drop_34 0 rfl ?_
      refine g_ifnonnullN (pc := 36) E dX8_drop_36 ?_
      refine g_aload_n (pc := 39) E dX8_drop_39 3 rfl rfl ?_
      refine g_iconst (pc := 40) E (2 : Int32) dX8_drop_40 (by decide) ?_
      obtain ⟨r15, σ16, e14, hf⟩ := fq_b2 hf
      refine g_callVl (pc := 41) E 0 (zx_l (by decide)) (fun _ _ => rfl) rfl [.int (2 : Int32)] (fun l D sz => qX8_finding l D cy ad sz n σ k (2 : Int32) e14) gX8_drop_X8_finding rfl rfl rfl kcX8_finding ⟨by decide, by decide⟩ rfl rfl (Nat.le_of_ble_eq_true rfl) dX8_drop_41 ⟨by decide, by decide⟩ ?_
      exact hret _ _ _ _ dX8_drop_44 (Option.some.inj hf)
    | some z12 =>
      obtain ⟨h13, hf⟩ := fq_g (fqM_s hf)
      refine g_st (st' := [.ref (ad (18 + z12))]) rfl ?_
      refine g_astore (pc := 32) E [(4, .ref (ad (18 + z12))), (3, .int r9), (2, .ref (ad (26 + 4 * z3))), (0, .ref (ad 0)), (1, .int x1)] dX8_drop_32 (by decide) rfl ?_
      refine g_aload (pc := 34) E dX8_drop_34 0 rfl ?_
      refine g_ifnonnull (pc := 36) E 45 dX8_drop_36 (by decide) ?_
      refine g_aload_n (pc := 45) E dX8_drop_45 3 rfl rfl ?_
      refine g_getfield (pc := 46) E uX8_drop_X8 0 (zx_l (by decide)) (fun _ _ => rfl) rfl 0 (by decide) wX8_drop_0 (.ref (ad 1)) rfl dX8_drop_46 ?_
      refine g_aload_n (pc := 49) E dX8_drop_49 2 rfl rfl ?_
      refine g_aload (pc := 50) E dX8_drop_50 0 rfl ?_
      refine g_iload_n (pc := 52) E dX8_drop_52 1 rfl rfl ?_
      obtain ⟨r18, e17, hf⟩ := fq_b hf
      refine g_callVi (pc := 53) E (18 + z12) (zx_m h13) (tx_m cy ad n h13) rfl [.int r9] (fun l D sz => qX1_rivalsOf l D cy ad sz n σ k z12 r9 h13 e17) gX8_drop_X1_rivalsOf rfl rfl rfl kcX1_rivalsOf ⟨by decide, by decide⟩ rfl rfl (Nat.le_of_ble_eq_true rfl) dX8_drop_53 ⟨by decide, by decide⟩ ?_
      refine g_iconst (pc := 56) E (0 : Int32) dX8_drop_56 (by decide) ?_
      obtain ⟨r20, σ21, e19, hf⟩ := fq_b2 hf
      refine g_callVi (pc := 57) E 1 (zx_l (by decide)) (fun _ _ => rfl) rfl [.ref (ad (26 + 4 * z3)), .int r18, .int (0 : Int32)] (fun l D sz => qX6_reckon l D cy ad sz n σ k z3 r18 (0 : Int32) h4 e19) gX8_drop_X6_reckon rfl rfl rfl kcX6_reckon ⟨by decide, by decide⟩ rfl rfl (Nat.le_of_ble_eq_true rfl) dX8_drop_57 ⟨by decide, by decide⟩ ?_
      refine g_if_eq (pc := 60) E 67 dX8_drop_60 (by decide) (fun c22 => ?_) (fun c22 => ?_)
      · replace hf := fq_t c22 hf
        refine g_aload (pc := 67) E dX8_drop_67 0 rfl ?_
        refine g_dup (pc := 69) E dX8_drop_69 rfl ?_
        refine g_getfield (pc := 70) E uX8_drop_X1 (18 + z12) (zx_m h13) (tx_m cy ad n h13) rfl 2 (by decide) wX8_drop_3 (.int (fqI σ21 (18 + z12) 2)) rfl dX8_drop_70 ?_
        refine g_iload_n (pc := 73) E dX8_drop_73 1 rfl rfl ?_
        refine g_ior (pc := 74) E dX8_drop_74 ?_
        refine g_putI (pc := 75) E uX8_drop_X1 tyX1 tyX1_ok nmX1 (18 + z12) (zx_m h13) (tx_m cy ad n h13) rfl 2 (by decide) wX8_drop_3 rfl rfl (Nat.le_of_ble_eq_true rfl) rfl dX8_drop_75 ?_
        obtain ⟨σ23, e24, hf⟩ := fq_n hf
        refine g_sg e24 ?_
        refine g_aload (pc := 78) E dX8_drop_78 0 rfl ?_
        obtain ⟨r26, e25, hf⟩ := fq_b hf
        refine g_callVi (pc := 80) E (18 + z12) (zx_m h13) (tx_m cy ad n h13) rfl [] (fun l D sz => qX1_isDeserted l D cy ad sz n σ23 k z12 h13 e25) gX8_drop_X1_isDeserted rfl rfl rfl kcX1_isDeserted ⟨by decide, by decide⟩ rfl rfl (Nat.le_of_ble_eq_true rfl) dX8_drop_80 ⟨by decide, by decide⟩ ?_
        refine g_if_ne (pc := 83) E 88 dX8_drop_83 (by decide) (fun c27 => ?_) (fun c27 => ?_)
        · replace hf := fq_f c27 hf
          refine g_aload_n (pc := 88) E dX8_drop_88 3 rfl rfl ?_
          refine g_getfield (pc := 89) E uX8_drop_X8 0 (zx_l (by decide)) (fun _ _ => rfl) rfl 5 (by decide) wX8_drop_2 (.ref (ad 16)) rfl dX8_drop_89 ?_
          refine g_aload (pc := 92) E dX8_drop_92 0 rfl ?_
          refine g_aload (pc := 94) E dX8_drop_94 0 rfl ?_
          obtain ⟨r29, e28, hf⟩ := fq_b hf
          refine g_callVi (pc := 96) E (18 + z12) (zx_m h13) (tx_m cy ad n h13) rfl [] (fun l D sz => qX1_resultOfDeserted l D cy ad sz n σ23 k z12 h13 e28) gX8_drop_X1_resultOfDeserted rfl rfl rfl kcX1_resultOfDeserted ⟨by decide, by decide⟩ rfl rfl (Nat.le_of_ble_eq_true rfl) dX8_drop_96 ⟨by decide, by decide⟩ ?_
          refine g_aload_n (pc := 99) E dX8_drop_99 3 rfl rfl ?_
          refine g_getfield (pc := 100) E uX8_drop_X8 0 (zx_l (by decide)) (fun _ _ => rfl) rfl 0 (by decide) wX8_drop_0 (.ref (ad 1)) rfl dX8_drop_100 ?_
          obtain ⟨r31, σ32, e30, hf⟩ := fq_b2 hf
          refine g_callVi (pc := 103) E 16 (zx_l (by decide)) (fun _ _ => rfl) rfl [.ref (ad (18 + z12)), .int r29, .ref (ad 1)] (fun l D sz => qX2_finish l D cy ad sz n σ23 k z12 r29 h13 e30) gX8_drop_X2_finish rfl rfl rfl kcX2_finish ⟨by decide, by decide⟩ rfl rfl (Nat.le_of_ble_eq_true rfl) dX8_drop_103 ⟨by decide, by decide⟩ ?_
          refine g_pop (pc := 106) E dX8_drop_106 rfl ?_
          refine g_lconst (pc := 107) E (1 : Int64) dX8_drop_107 (by decide) ?_
          exact hret _ _ _ _ dX8_drop_108 (Option.some.inj hf)
        · replace hf := fq_t c27 hf
          refine g_lconst (pc := 86) E (0 : Int64) dX8_drop_86 (by decide) ?_
          exact hret _ _ _ _ dX8_drop_87 (Option.some.inj hf)
      · replace hf := fq_f c22 hf
        refine g_aload_n (pc := 63) E dX8_drop_63 2 rfl rfl ?_
        obtain ⟨σ34, e33, hf⟩ := fq_b hf
        refine g_callVv (pc := 64) E (26 + 4 * z3) (zx_p0 h4) (tx_p cy ad n z3) rfl [] (fun l D sz => qX5_settle l D cy ad sz n σ21 k z3 h4 e33) gX8_drop_X5_settle rfl rfl rfl kcX5_settle ⟨by decide, by decide⟩ rfl rfl (Nat.le_of_ble_eq_true rfl) dX8_drop_64 ⟨by decide, by decide⟩ ?_
        refine g_aload (pc := 67) E dX8_drop_67 0 rfl ?_
        refine g_dup (pc := 69) E dX8_drop_69 rfl ?_
        refine g_getfield (pc := 70) E uX8_drop_X1 (18 + z12) (zx_m h13) (tx_m cy ad n h13) rfl 2 (by decide) wX8_drop_3 (.int (fqI σ34 (18 + z12) 2)) rfl dX8_drop_70 ?_
        refine g_iload_n (pc := 73) E dX8_drop_73 1 rfl rfl ?_
        refine g_ior (pc := 74) E dX8_drop_74 ?_
        refine g_putI (pc := 75) E uX8_drop_X1 tyX1 tyX1_ok nmX1 (18 + z12) (zx_m h13) (tx_m cy ad n h13) rfl 2 (by decide) wX8_drop_3 rfl rfl (Nat.le_of_ble_eq_true rfl) rfl dX8_drop_75 ?_
        obtain ⟨σ35, e36, hf⟩ := fq_n hf
        refine g_sg e36 ?_
        refine g_aload (pc := 78) E dX8_drop_78 0 rfl ?_
        obtain ⟨r38, e37, hf⟩ := fq_b hf
        refine g_callVi (pc := 80) E (18 + z12) (zx_m h13) (tx_m cy ad n h13) rfl [] (fun l D sz => qX1_isDeserted l D cy ad sz n σ35 k z12 h13 e37) gX8_drop_X1_isDeserted rfl rfl rfl kcX1_isDeserted ⟨by decide, by decide⟩ rfl rfl (Nat.le_of_ble_eq_true rfl) dX8_drop_80 ⟨by decide, by decide⟩ ?_
        refine g_if_ne (pc := 83) E 88 dX8_drop_83 (by decide) (fun c39 => ?_) (fun c39 => ?_)
        · replace hf := fq_f c39 hf
          refine g_aload_n (pc := 88) E dX8_drop_88 3 rfl rfl ?_
          refine g_getfield (pc := 89) E uX8_drop_X8 0 (zx_l (by decide)) (fun _ _ => rfl) rfl 5 (by decide) wX8_drop_2 (.ref (ad 16)) rfl dX8_drop_89 ?_
          refine g_aload (pc := 92) E dX8_drop_92 0 rfl ?_
          refine g_aload (pc := 94) E dX8_drop_94 0 rfl ?_
          obtain ⟨r41, e40, hf⟩ := fq_b hf
          refine g_callVi (pc := 96) E (18 + z12) (zx_m h13) (tx_m cy ad n h13) rfl [] (fun l D sz => qX1_resultOfDeserted l D cy ad sz n σ35 k z12 h13 e40) gX8_drop_X1_resultOfDeserted rfl rfl rfl kcX1_resultOfDeserted ⟨by decide, by decide⟩ rfl rfl (Nat.le_of_ble_eq_true rfl) dX8_drop_96 ⟨by decide, by decide⟩ ?_
          refine g_aload_n (pc := 99) E dX8_drop_99 3 rfl rfl ?_
          refine g_getfield (pc := 100) E uX8_drop_X8 0 (zx_l (by decide)) (fun _ _ => rfl) rfl 0 (by decide) wX8_drop_0 (.ref (ad 1)) rfl dX8_drop_100 ?_
          obtain ⟨r43, σ44, e42, hf⟩ := fq_b2 hf
          refine g_callVi (pc := 103) E 16 (zx_l (by decide)) (fun _ _ => rfl) rfl [.ref (ad (18 + z12)), .int r41, .ref (ad 1)] (fun l D sz => qX2_finish l D cy ad sz n σ35 k z12 r41 h13 e42) gX8_drop_X2_finish rfl rfl rfl kcX2_finish ⟨by decide, by decide⟩ rfl rfl (Nat.le_of_ble_eq_true rfl) dX8_drop_103 ⟨by decide, by decide⟩ ?_
          refine g_pop (pc := 106) E dX8_drop_106 rfl ?_
          refine g_lconst (pc := 107) E (1 : Int64) dX8_drop_107 (by decide) ?_
          exact hret _ _ _ _ dX8_drop_108 (Option.some.inj hf)
        · replace hf := fq_t c39 hf
          refine g_lconst (pc := 86) E (0 : Int64) dX8_drop_86 (by decide) ?_
          exact hret _ _ _ _ dX8_drop_87 (Option.some.inj hf)

/-! X8_end -/
theorem wX8_end_0 : Cond.fieldLink RX8 43 "FairQueue" "matches" "LFairQueue$Matches;" ∈ wsX8_end := by decide +kernel
theorem uX8_end_X8 : ∀ w ∈ u_ws RX8 TX8 13, w ∈ wsX8_end := (fun _ h => List.mem_cons_of_mem _ (List.mem_append_left _ (List.mem_append_left _ (List.mem_append_left _ (List.mem_append_left _ (List.mem_append_right _ h))))))
theorem wX8_end_2 : Cond.fieldLink RX8 10 "FairQueue" "players" "LFairQueue$Players;" ∈ wsX8_end := by decide +kernel
theorem kcX8_end : yX8_end.cls = RX8 ∧ yX8_end.cls ≠ "java/lang/invoke/MethodHandle" ∧ yX8_end.cls ≠ "java/lang/invoke/VarHandle" ∧ (parseMethodDescriptor yX8_end.desc).map (fun d => d.parameters.length) = some 2 := by decide +kernel
def pX8_end (k n : Nat) (σ : fqS) (x1 : Int32) (x2 : Int32) : Option (Int64 × fqS) :=
  ((pX2_at k n σ x1).bind (fun r2 => (fqM r2 ((fqB2 (pX8_finding k n σ (1 : Int32)) (fun r6 σ7 => some (r6, σ7)))) (fun z3 => (if z3 < 5 then (if x2 < 0 then (fqB2 (pX8_finding k n σ (1 : Int32)) (fun r10 σ11 => some (r10, σ11))) else (if x2 ≤ (2 : Int32) then ((pX1_goesOn k n σ z3).bind (fun r14 => (if r14 = 0 then (fqB2 (pX8_finding k n σ (2 : Int32)) (fun r20 σ21 => some (r20, σ21))) else (fqB2 (pX2_finish k n σ z3 x2) (fun r17 σ18 => some ((Int32.toInt64 r17), σ18)))))) else (fqB2 (pX8_finding k n σ (1 : Int32)) (fun r23 σ24 => some (r23, σ24))))) else none)))))
set_option maxRecDepth 100000 in
set_option maxHeartbeats 4000000 in
theorem qX8_end (l : Launch) (D : va_G) (cy : Nat → ClassId) (ad : Nat → Nat) (sz n : Nat) (σ : fqS) (k : Nat) (x1 : Int32) (x2 : Int32) {r : Int64} {σ' : fqS} (hf : pX8_end k n σ x1 x2 = some (r, σ')) : Met l yX8_end wsX8_end ({ frames := 6, cells := 0, slots := 0, locals := 152 } : Room) (fqPc (TX cy) ZX D cy ad sz n σ [.ref (ad 0), .int x1, .int x2]) (fqQl (TX cy) ZX D ad sz n σ r σ') 0 0 (fqA (TX cy) ZX ad sz n σ) := by
  refine fq_enter_l (cc := cX8_end) (maxL := 4) (own := RX8) _ (by decide) rfl (Nat.le_of_ble_eq_true rfl) rfl (fun X E hret => ?_)
  unfold pX8_end at hf
  show fqG X (TX cy) ZX ad n 4 0 0 σ 0 [(0, .ref (ad 0)), (1, .int x1), (2, .int x2)] []
  refine g_aload_n (pc := 0) E dX8_end_0 0 rfl rfl ?_
  refine g_getfield (pc := 1) E uX8_end_X8 0 (zx_l (by decide)) (fun _ _ => rfl) rfl 5 (by decide) wX8_end_0 (.ref (ad 16)) rfl dX8_end_1 ?_
  refine g_iload_n (pc := 4) E dX8_end_4 1 rfl rfl ?_
  obtain ⟨r2, e1, hf⟩ := fq_b hf
  refine g_callVq (pc := 5) E 16 (zx_l (by decide)) (fun _ _ => rfl) rfl [.int x1] (fun l D sz => qX2_at l D cy ad sz n σ k x1 e1) gX8_end_X2_at rfl rfl rfl kcX2_at ⟨by decide, by decide⟩ rfl rfl (Nat.le_of_ble_eq_true rfl) dX8_end_5 ⟨by decide, by decide⟩ ?_
  cases r2 with
  | none =>
    replace hf := fqM_n hf
    refine g_st (st' := [.null]) rfl ?_
    refine g_astore_nN (pc := 8) E [(3, .null), (0, .ref (ad 0)), (1, .int x1), (2, .int x2)] dX8_end_8 rfl (by decide) rfl ?_
    refine g_aload_nN (pc := 9) E dX8_end_9 0 rfl rfl ?_
    refine g_ifnullN (pc := 10) E 22 dX8_end_10 (by decide) ?_
    refine g_aload_n (pc := 22) E dX8_end_22 1 rfl rfl ?_
    refine g_iconst (pc := 23) E (1 : Int32) dX8_end_23 (by decide) ?_
    obtain ⟨r6, σ7, e5, hf⟩ := fq_b2 hf
    refine g_callVl (pc := 24) E 0 (zx_l (by decide)) (fun _ _ => rfl) rfl [.int (1 : Int32)] (fun l D sz => qX8_finding l D cy ad sz n σ k (1 : Int32) e5) gX8_end_X8_finding rfl rfl rfl kcX8_finding ⟨by decide, by decide⟩ rfl rfl (Nat.le_of_ble_eq_true rfl) dX8_end_24 ⟨by decide, by decide⟩ ?_
    exact hret _ _ _ _ dX8_end_27 (Option.some.inj hf)
  | some z3 =>
    obtain ⟨h4, hf⟩ := fq_g (fqM_s hf)
    refine g_st (st' := [.ref (ad (18 + z3))]) rfl ?_
    refine g_astore_n (pc := 8) E [(3, .ref (ad (18 + z3))), (0, .ref (ad 0)), (1, .int x1), (2, .int x2)] dX8_end_8 rfl (by decide) rfl ?_
    refine g_aload_n (pc := 9) E dX8_end_9 0 rfl rfl ?_
    refine g_ifnull (pc := 10) E dX8_end_10 ?_
    refine g_iload_n (pc := 13) E dX8_end_13 3 rfl rfl ?_
    refine g_if_lt (pc := 14) E 22 dX8_end_14 (by decide) (fun c8 => ?_) (fun c8 => ?_)
    · replace hf := fq_t c8 hf
      refine g_aload_n (pc := 22) E dX8_end_22 1 rfl rfl ?_
      refine g_iconst (pc := 23) E (1 : Int32) dX8_end_23 (by decide) ?_
      obtain ⟨r10, σ11, e9, hf⟩ := fq_b2 hf
      refine g_callVl (pc := 24) E 0 (zx_l (by decide)) (fun _ _ => rfl) rfl [.int (1 : Int32)] (fun l D sz => qX8_finding l D cy ad sz n σ k (1 : Int32) e9) gX8_end_X8_finding rfl rfl rfl kcX8_finding ⟨by decide, by decide⟩ rfl rfl (Nat.le_of_ble_eq_true rfl) dX8_end_24 ⟨by decide, by decide⟩ ?_
      exact hret _ _ _ _ dX8_end_27 (Option.some.inj hf)
    · replace hf := fq_f c8 hf
      refine g_iload_n (pc := 17) E dX8_end_17 3 rfl rfl ?_
      refine g_iconst (pc := 18) E (2 : Int32) dX8_end_18 (by decide) ?_
      refine g_icmp_le (pc := 19) E 28 dX8_end_19 (by decide) (fun c12 => ?_) (fun c12 => ?_)
      · replace hf := fq_t c12 hf
        refine g_aload_n (pc := 28) E dX8_end_28 0 rfl rfl ?_
        obtain ⟨r14, e13, hf⟩ := fq_b hf
        refine g_callVi (pc := 29) E (18 + z3) (zx_m h4) (tx_m cy ad n h4) rfl [] (fun l D sz => qX1_goesOn l D cy ad sz n σ k z3 h4 e13) gX8_end_X1_goesOn rfl rfl rfl kcX1_goesOn ⟨by decide, by decide⟩ rfl rfl (Nat.le_of_ble_eq_true rfl) dX8_end_29 ⟨by decide, by decide⟩ ?_
        refine g_if_ne (pc := 32) E 41 dX8_end_32 (by decide) (fun c15 => ?_) (fun c15 => ?_)
        · replace hf := fq_f c15 hf
          refine g_aload_n (pc := 41) E dX8_end_41 1 rfl rfl ?_
          refine g_getfield (pc := 42) E uX8_end_X8 0 (zx_l (by decide)) (fun _ _ => rfl) rfl 5 (by decide) wX8_end_0 (.ref (ad 16)) rfl dX8_end_42 ?_
          refine g_aload_n (pc := 45) E dX8_end_45 0 rfl rfl ?_
          refine g_iload_n (pc := 46) E dX8_end_46 3 rfl rfl ?_
          refine g_aload_n (pc := 47) E dX8_end_47 1 rfl rfl ?_
          refine g_getfield (pc := 48) E uX8_end_X8 0 (zx_l (by decide)) (fun _ _ => rfl) rfl 0 (by decide) wX8_end_2 (.ref (ad 1)) rfl dX8_end_48 ?_
          obtain ⟨r17, σ18, e16, hf⟩ := fq_b2 hf
          refine g_callVi (pc := 51) E 16 (zx_l (by decide)) (fun _ _ => rfl) rfl [.ref (ad (18 + z3)), .int x2, .ref (ad 1)] (fun l D sz => qX2_finish l D cy ad sz n σ k z3 x2 h4 e16) gX8_end_X2_finish rfl rfl rfl kcX2_finish ⟨by decide, by decide⟩ rfl rfl (Nat.le_of_ble_eq_true rfl) dX8_end_51 ⟨by decide, by decide⟩ ?_
          refine g_i2l (pc := 54) E dX8_end_54 ?_
          exact hret _ _ _ _ dX8_end_55 (Option.some.inj hf)
        · replace hf := fq_t c15 hf
          refine g_aload_n (pc := 35) E dX8_end_35 1 rfl rfl ?_
          refine g_iconst (pc := 36) E (2 : Int32) dX8_end_36 (by decide) ?_
          obtain ⟨r20, σ21, e19, hf⟩ := fq_b2 hf
          refine g_callVl (pc := 37) E 0 (zx_l (by decide)) (fun _ _ => rfl) rfl [.int (2 : Int32)] (fun l D sz => qX8_finding l D cy ad sz n σ k (2 : Int32) e19) gX8_end_X8_finding rfl rfl rfl kcX8_finding ⟨by decide, by decide⟩ rfl rfl (Nat.le_of_ble_eq_true rfl) dX8_end_37 ⟨by decide, by decide⟩ ?_
          exact hret _ _ _ _ dX8_end_40 (Option.some.inj hf)
      · replace hf := fq_f c12 hf
        refine g_aload_n (pc := 22) E dX8_end_22 1 rfl rfl ?_
        refine g_iconst (pc := 23) E (1 : Int32) dX8_end_23 (by decide) ?_
        obtain ⟨r23, σ24, e22, hf⟩ := fq_b2 hf
        refine g_callVl (pc := 24) E 0 (zx_l (by decide)) (fun _ _ => rfl) rfl [.int (1 : Int32)] (fun l D sz => qX8_finding l D cy ad sz n σ k (1 : Int32) e22) gX8_end_X8_finding rfl rfl rfl kcX8_finding ⟨by decide, by decide⟩ rfl rfl (Nat.le_of_ble_eq_true rfl) dX8_end_24 ⟨by decide, by decide⟩ ?_
        exact hret _ _ _ _ dX8_end_27 (Option.some.inj hf)

/-! X8_found -/
theorem wX8_found_0 : Cond.fieldLink RX8 58 "FairQueue" "findings" "[J" ∈ wsX8_found := by decide +kernel
theorem uX8_found_X8 : ∀ w ∈ u_ws RX8 TX8 13, w ∈ wsX8_found := (fun _ h => List.mem_cons_of_mem _ (List.mem_append_right _ h))
theorem kcX8_found : yX8_found.cls = RX8 ∧ yX8_found.cls ≠ "java/lang/invoke/MethodHandle" ∧ yX8_found.cls ≠ "java/lang/invoke/VarHandle" ∧ (parseMethodDescriptor yX8_found.desc).map (fun d => d.parameters.length) = some 1 := by decide +kernel
def pX8_found (k n : Nat) (σ : fqS) (x1 : Int32) : Option (Int64 × fqS) :=
  (if x1 < (1 : Int32) then (fqB2 (pX8_finding k n σ (1 : Int32)) (fun r3 σ4 => some (r3, σ4))) else (if (5 : Int32) < x1 then (fqB2 (pX8_finding k n σ (1 : Int32)) (fun r7 σ8 => some (r7, σ8))) else (if x1 < (6 : Int32) then (if x1 < 0 ∨ 6 ≤ Int32.toNatClampNeg x1 then none else some ((fqJ σ 25 (Int32.toNatClampNeg x1)), σ)) else (fqB2 (pX8_finding k n σ (1 : Int32)) (fun r12 σ13 => some (r12, σ13))))))
set_option maxRecDepth 100000 in
set_option maxHeartbeats 4000000 in
theorem qX8_found (l : Launch) (D : va_G) (cy : Nat → ClassId) (ad : Nat → Nat) (sz n : Nat) (σ : fqS) (k : Nat) (x1 : Int32) {r : Int64} {σ' : fqS} (hf : pX8_found k n σ x1 = some (r, σ')) : Met l yX8_found wsX8_found ({ frames := 1, cells := 0, slots := 0, locals := 21 } : Room) (fqPc (TX cy) ZX D cy ad sz n σ [.ref (ad 0), .int x1]) (fqQl (TX cy) ZX D ad sz n σ r σ') 0 0 (fqA (TX cy) ZX ad sz n σ) := by
  refine fq_enter_l (cc := cX8_found) (maxL := 2) (own := RX8) _ (by decide) rfl (Nat.le_of_ble_eq_true rfl) rfl (fun X E hret => ?_)
  unfold pX8_found at hf
  show fqG X (TX cy) ZX ad n 2 0 0 σ 0 [(0, .ref (ad 0)), (1, .int x1)] []
  refine g_iload_n (pc := 0) E dX8_found_0 1 rfl rfl ?_
  refine g_iconst (pc := 1) E (1 : Int32) dX8_found_1 (by decide) ?_
  refine g_icmp_lt (pc := 2) E 19 dX8_found_2 (by decide) (fun c1 => ?_) (fun c1 => ?_)
  · replace hf := fq_t c1 hf
    refine g_aload_n (pc := 19) E dX8_found_19 0 rfl rfl ?_
    refine g_iconst (pc := 20) E (1 : Int32) dX8_found_20 (by decide) ?_
    obtain ⟨r3, σ4, e2, hf⟩ := fq_b2 hf
    refine g_callVl (pc := 21) E 0 (zx_l (by decide)) (fun _ _ => rfl) rfl [.int (1 : Int32)] (fun l D sz => qX8_finding l D cy ad sz n σ k (1 : Int32) e2) gX8_found_X8_finding rfl rfl rfl kcX8_finding ⟨by decide, by decide⟩ rfl rfl (Nat.le_of_ble_eq_true rfl) dX8_found_21 ⟨by decide, by decide⟩ ?_
    exact hret _ _ _ _ dX8_found_24 (Option.some.inj hf)
  · replace hf := fq_f c1 hf
    refine g_iload_n (pc := 5) E dX8_found_5 1 rfl rfl ?_
    refine g_iconst (pc := 6) E (5 : Int32) dX8_found_6 (by decide) ?_
    refine g_icmp_gt (pc := 7) E 19 dX8_found_7 (by decide) (fun c5 => ?_) (fun c5 => ?_)
    · replace hf := fq_t c5 hf
      refine g_aload_n (pc := 19) E dX8_found_19 0 rfl rfl ?_
      refine g_iconst (pc := 20) E (1 : Int32) dX8_found_20 (by decide) ?_
      obtain ⟨r7, σ8, e6, hf⟩ := fq_b2 hf
      refine g_callVl (pc := 21) E 0 (zx_l (by decide)) (fun _ _ => rfl) rfl [.int (1 : Int32)] (fun l D sz => qX8_finding l D cy ad sz n σ k (1 : Int32) e6) gX8_found_X8_finding rfl rfl rfl kcX8_finding ⟨by decide, by decide⟩ rfl rfl (Nat.le_of_ble_eq_true rfl) dX8_found_21 ⟨by decide, by decide⟩ ?_
      exact hret _ _ _ _ dX8_found_24 (Option.some.inj hf)
    · replace hf := fq_f c5 hf
      refine g_iload_n (pc := 10) E dX8_found_10 1 rfl rfl ?_
      refine g_aload_n (pc := 11) E dX8_found_11 0 rfl rfl ?_
      refine g_getfield (pc := 12) E uX8_found_X8 0 (zx_l (by decide)) (fun _ _ => rfl) rfl 8 (by decide) wX8_found_0 (.ref (ad 25)) rfl dX8_found_12 ?_
      refine g_alen (pc := 15) E 25 (zx_l (by decide)) 1 (fun _ _ => rfl) rfl (6 : Int32) (by rfl) dX8_found_15 ?_
      refine g_icmp_lt (pc := 16) E 25 dX8_found_16 (by decide) (fun c9 => ?_) (fun c9 => ?_)
      · replace hf := fq_t c9 hf
        refine g_aload_n (pc := 25) E dX8_found_25 0 rfl rfl ?_
        refine g_getfield (pc := 26) E uX8_found_X8 0 (zx_l (by decide)) (fun _ _ => rfl) rfl 8 (by decide) wX8_found_0 (.ref (ad 25)) rfl dX8_found_26 ?_
        refine g_iload_n (pc := 29) E dX8_found_29 1 rfl rfl ?_
        obtain ⟨h10, hf⟩ := fq_in hf
        refine g_laload (pc := 30) E 25 (zx_l (by decide)) (fun _ _ => rfl) h10 dX8_found_30 ?_
        exact hret _ _ _ _ dX8_found_31 (Option.some.inj hf)
      · replace hf := fq_f c9 hf
        refine g_aload_n (pc := 19) E dX8_found_19 0 rfl rfl ?_
        refine g_iconst (pc := 20) E (1 : Int32) dX8_found_20 (by decide) ?_
        obtain ⟨r12, σ13, e11, hf⟩ := fq_b2 hf
        refine g_callVl (pc := 21) E 0 (zx_l (by decide)) (fun _ _ => rfl) rfl [.int (1 : Int32)] (fun l D sz => qX8_finding l D cy ad sz n σ k (1 : Int32) e11) gX8_found_X8_finding rfl rfl rfl kcX8_finding ⟨by decide, by decide⟩ rfl rfl (Nat.le_of_ble_eq_true rfl) dX8_found_21 ⟨by decide, by decide⟩ ?_
        exact hret _ _ _ _ dX8_found_24 (Option.some.inj hf)

/-! X8_isLevel -/
theorem kcX8_isLevel : yX8_isLevel.cls ≠ "java/lang/invoke/MethodHandle" ∧ yX8_isLevel.cls ≠ "java/lang/invoke/VarHandle" ∧ (parseMethodDescriptor yX8_isLevel.desc).map (fun d => d.parameters.length) = some 1 := by decide +kernel
def pX8_isLevel (k n : Nat) (σ : fqS) (x0 : Int32) : Option Int32 :=
  (if x0 < 0 then some (0 : Int32) else (if (7 : Int32) ≤ x0 then some (0 : Int32) else some (1 : Int32)))
set_option maxRecDepth 100000 in
set_option maxHeartbeats 4000000 in
theorem qX8_isLevel (l : Launch) (D : va_G) (cy : Nat → ClassId) (ad : Nat → Nat) (sz n : Nat) (σ : fqS) (k : Nat) (x0 : Int32) {r : Int32} (hf : pX8_isLevel k n σ x0 = some r) : Met l yX8_isLevel wsX8_isLevel ({ frames := 0, cells := 0, slots := 0, locals := 0 } : Room) (fqPc (TX cy) ZX D cy ad sz n σ [.int x0]) (fqQi (TX cy) ZX D ad sz n σ r σ) 0 0 (fqA (TX cy) ZX ad sz n σ) := by
  refine fq_enter_z (cc := cX8_isLevel) (maxL := 1) (own := RX8) _ (by decide) rfl (Nat.le_of_ble_eq_true rfl) rfl (fun X E hret => ?_)
  unfold pX8_isLevel at hf
  show fqG X (TX cy) ZX ad n 1 0 0 σ 0 [(0, .int x0)] []
  refine g_iload_n (pc := 0) E dX8_isLevel_0 0 rfl rfl ?_
  refine g_if_lt (pc := 1) E 14 dX8_isLevel_1 (by decide) (fun c1 => ?_) (fun c1 => ?_)
  · replace hf := fq_t c1 hf
    refine g_iconst (pc := 14) E (0 : Int32) dX8_isLevel_14 (by decide) ?_
    exact hret _ _ _ _ rfl dX8_isLevel_15 (congrArg (fun z => (z, σ)) (Option.some.inj hf))
  · replace hf := fq_f c1 hf
    refine g_iload_n (pc := 4) E dX8_isLevel_4 0 rfl rfl ?_
    refine g_bipush (pc := 5) E (7 : Int32) dX8_isLevel_5 (by decide) ?_
    refine g_icmp_ge (pc := 7) E 14 dX8_isLevel_7 (by decide) (fun c2 => ?_) (fun c2 => ?_)
    · replace hf := fq_t c2 hf
      refine g_iconst (pc := 14) E (0 : Int32) dX8_isLevel_14 (by decide) ?_
      exact hret _ _ _ _ rfl dX8_isLevel_15 (congrArg (fun z => (z, σ)) (Option.some.inj hf))
    · replace hf := fq_f c2 hf
      refine g_iconst (pc := 10) E (1 : Int32) dX8_isLevel_10 (by decide) ?_
      refine g_goto (pc := 11) E 15 dX8_isLevel_11 (by decide) ?_
      exact hret _ _ _ _ rfl dX8_isLevel_15 (congrArg (fun z => (z, σ)) (Option.some.inj hf))

/-! X8_leave -/
theorem wX8_leave_0 : Cond.fieldLink RX8 10 "FairQueue" "players" "LFairQueue$Players;" ∈ wsX8_leave := by decide +kernel
theorem uX8_leave_X8 : ∀ w ∈ u_ws RX8 TX8 13, w ∈ wsX8_leave := (fun _ h => List.mem_cons_of_mem _ (List.mem_append_left _ (List.mem_append_left _ (List.mem_append_right _ h))))
theorem wX8_leave_2 : Cond.fieldLink RX8 19 "FairQueue" "queue" "LFairQueue$Queue;" ∈ wsX8_leave := by decide +kernel
theorem wX8_leave_3 : Cond.fieldLink RX8 125 "FairQueue$Queue" "waiting" "I" ∈ wsX8_leave := by decide +kernel
theorem uX8_leave_X7 : ∀ w ∈ u_ws RX7 TX7 3, w ∈ wsX8_leave := (fun _ h => List.mem_cons_of_mem _ (List.mem_append_left _ (List.mem_append_right _ h)))
theorem kcX8_leave : yX8_leave.cls = RX8 ∧ yX8_leave.cls ≠ "java/lang/invoke/MethodHandle" ∧ yX8_leave.cls ≠ "java/lang/invoke/VarHandle" ∧ (parseMethodDescriptor yX8_leave.desc).map (fun d => d.parameters.length) = some 1 := by decide +kernel
def pX8_leave (k n : Nat) (σ : fqS) (x1 : Int32) : Option (Int64 × fqS) :=
  ((pX6_at k n σ x1).bind (fun r2 => (fqM r2 ((fqB2 (pX8_finding k n σ (1 : Int32)) (fun r6 σ7 => some (r6, σ7)))) (fun z3 => (if z3 < n then ((pX8_bitOf k n σ x1).bind (fun r9 => ((pX7_placeOf k n σ 4 r9).bind (fun r11 => (if 0 ≤ r11 then ((pX7_release k n σ 4 ((1 : Int32) <<< (r11 &&& 31))).bind (fun σ14 => some ((Int32.toInt64 (fqI σ14 4 2)), σ14))) else (fqB2 (pX8_finding k n σ (2 : Int32)) (fun r16 σ17 => some (r16, σ17)))))))) else none)))))
set_option maxRecDepth 100000 in
set_option maxHeartbeats 4000000 in
theorem qX8_leave (l : Launch) (D : va_G) (cy : Nat → ClassId) (ad : Nat → Nat) (sz n : Nat) (σ : fqS) (k : Nat) (x1 : Int32) {r : Int64} {σ' : fqS} (hf : pX8_leave k n σ x1 = some (r, σ')) : Met l yX8_leave wsX8_leave ({ frames := 2, cells := 0, slots := 0, locals := 44 } : Room) (fqPc (TX cy) ZX D cy ad sz n σ [.ref (ad 0), .int x1]) (fqQl (TX cy) ZX D ad sz n σ r σ') 0 0 (fqA (TX cy) ZX ad sz n σ) := by
  refine fq_enter_l (cc := cX8_leave) (maxL := 3) (own := RX8) _ (by decide) rfl (Nat.le_of_ble_eq_true rfl) rfl (fun X E hret => ?_)
  unfold pX8_leave at hf
  show fqG X (TX cy) ZX ad n 3 0 0 σ 0 [(0, .ref (ad 0)), (1, .int x1)] []
  refine g_aload_n (pc := 0) E dX8_leave_0 0 rfl rfl ?_
  refine g_getfield (pc := 1) E uX8_leave_X8 0 (zx_l (by decide)) (fun _ _ => rfl) rfl 0 (by decide) wX8_leave_0 (.ref (ad 1)) rfl dX8_leave_1 ?_
  refine g_iload_n (pc := 4) E dX8_leave_4 1 rfl rfl ?_
  obtain ⟨r2, e1, hf⟩ := fq_b hf
  refine g_callVq (pc := 5) E 1 (zx_l (by decide)) (fun _ _ => rfl) rfl [.int x1] (fun l D sz => qX6_at l D cy ad sz n σ k x1 e1) gX8_leave_X6_at rfl rfl rfl kcX6_at ⟨by decide, by decide⟩ rfl rfl (Nat.le_of_ble_eq_true rfl) dX8_leave_5 ⟨by decide, by decide⟩ ?_
  cases r2 with
  | none =>
    replace hf := fqM_n hf
    refine g_st (st' := [.null]) rfl ?_
    refine g_ifnonnullN (pc := 8) E dX8_leave_8 ?_
    refine g_aload_n (pc := 11) E dX8_leave_11 0 rfl rfl ?_
    refine g_iconst (pc := 12) E (1 : Int32) dX8_leave_12 (by decide) ?_
    obtain ⟨r6, σ7, e5, hf⟩ := fq_b2 hf
    refine g_callVl (pc := 13) E 0 (zx_l (by decide)) (fun _ _ => rfl) rfl [.int (1 : Int32)] (fun l D sz => qX8_finding l D cy ad sz n σ k (1 : Int32) e5) gX8_leave_X8_finding rfl rfl rfl kcX8_finding ⟨by decide, by decide⟩ rfl rfl (Nat.le_of_ble_eq_true rfl) dX8_leave_13 ⟨by decide, by decide⟩ ?_
    exact hret _ _ _ _ dX8_leave_16 (Option.some.inj hf)
  | some z3 =>
    obtain ⟨h4, hf⟩ := fq_g (fqM_s hf)
    refine g_st (st' := [.ref (ad (26 + 4 * z3))]) rfl ?_
    refine g_ifnonnull (pc := 8) E 17 dX8_leave_8 (by decide) ?_
    refine g_aload_n (pc := 17) E dX8_leave_17 0 rfl rfl ?_
    refine g_getfield (pc := 18) E uX8_leave_X8 0 (zx_l (by decide)) (fun _ _ => rfl) rfl 1 (by decide) wX8_leave_2 (.ref (ad 4)) rfl dX8_leave_18 ?_
    refine g_iload_n (pc := 21) E dX8_leave_21 1 rfl rfl ?_
    obtain ⟨r9, e8, hf⟩ := fq_b hf
    refine g_callSi (pc := 22) E [.int x1] (fun l D sz => qX8_bitOf l D cy ad sz n σ k x1 e8) gX8_leave_X8_bitOf rfl rfl rfl kcX8_bitOf ⟨by decide, by decide⟩ rfl rfl (Nat.le_of_ble_eq_true rfl) dX8_leave_22 ⟨by decide, by decide⟩ ?_
    obtain ⟨r11, e10, hf⟩ := fq_b hf
    refine g_callVi (pc := 25) E 4 (zx_q (Or.inl rfl)) (tx_q cy ad n (Or.inl rfl)) rfl [.int r9] (fun l D sz => qX7_placeOf l D cy ad sz n σ k 4 r9 (Or.inl rfl) e10) gX8_leave_X7_placeOf rfl rfl rfl kcX7_placeOf ⟨by decide, by decide⟩ rfl rfl (Nat.le_of_ble_eq_true rfl) dX8_leave_25 ⟨by decide, by decide⟩ ?_
    refine g_istore_n (pc := 28) E [(2, .int r11), (0, .ref (ad 0)), (1, .int x1)] dX8_leave_28 rfl (by decide) rfl ?_
    refine g_iload_n (pc := 29) E dX8_leave_29 0 rfl rfl ?_
    refine g_if_ge (pc := 30) E 39 dX8_leave_30 (by decide) (fun c12 => ?_) (fun c12 => ?_)
    · replace hf := fq_t c12 hf
      refine g_aload_n (pc := 39) E dX8_leave_39 1 rfl rfl ?_
      refine g_getfield (pc := 40) E uX8_leave_X8 0 (zx_l (by decide)) (fun _ _ => rfl) rfl 1 (by decide) wX8_leave_2 (.ref (ad 4)) rfl dX8_leave_40 ?_
      refine g_iconst (pc := 43) E (1 : Int32) dX8_leave_43 (by decide) ?_
      refine g_iload_n (pc := 44) E dX8_leave_44 0 rfl rfl ?_
      refine g_ishl (pc := 45) E dX8_leave_45 ?_
      obtain ⟨σ14, e13, hf⟩ := fq_b hf
      refine g_callVv (pc := 46) E 4 (zx_q (Or.inl rfl)) (tx_q cy ad n (Or.inl rfl)) rfl [.int ((1 : Int32) <<< (r11 &&& 31))] (fun l D sz => qX7_release l D cy ad sz n σ k 4 ((1 : Int32) <<< (r11 &&& 31)) (Or.inl rfl) e13) gX8_leave_X7_release rfl rfl rfl kcX7_release ⟨by decide, by decide⟩ rfl rfl (Nat.le_of_ble_eq_true rfl) dX8_leave_46 ⟨by decide, by decide⟩ ?_
      refine g_aload_n (pc := 49) E dX8_leave_49 1 rfl rfl ?_
      refine g_getfield (pc := 50) E uX8_leave_X8 0 (zx_l (by decide)) (fun _ _ => rfl) rfl 1 (by decide) wX8_leave_2 (.ref (ad 4)) rfl dX8_leave_50 ?_
      refine g_getfield (pc := 53) E uX8_leave_X7 4 (zx_q (Or.inl rfl)) (tx_q cy ad n (Or.inl rfl)) rfl 2 (by decide) wX8_leave_3 (.int (fqI σ14 4 2)) rfl dX8_leave_53 ?_
      refine g_i2l (pc := 56) E dX8_leave_56 ?_
      exact hret _ _ _ _ dX8_leave_57 (Option.some.inj hf)
    · replace hf := fq_f c12 hf
      refine g_aload_n (pc := 33) E dX8_leave_33 1 rfl rfl ?_
      refine g_iconst (pc := 34) E (2 : Int32) dX8_leave_34 (by decide) ?_
      obtain ⟨r16, σ17, e15, hf⟩ := fq_b2 hf
      refine g_callVl (pc := 35) E 0 (zx_l (by decide)) (fun _ _ => rfl) rfl [.int (2 : Int32)] (fun l D sz => qX8_finding l D cy ad sz n σ k (2 : Int32) e15) gX8_leave_X8_finding rfl rfl rfl kcX8_finding ⟨by decide, by decide⟩ rfl rfl (Nat.le_of_ble_eq_true rfl) dX8_leave_35 ⟨by decide, by decide⟩ ?_
      exact hret _ _ _ _ dX8_leave_38 (Option.some.inj hf)

/-! X8_limit -/
theorem wX8_limit_0 : Cond.constant RX8 260 (8000000) ∈ wsX8_limit := by decide +kernel
theorem wX8_limit_1 : Cond.fieldLink RX8 70 "FairQueue" "limit" "J" ∈ wsX8_limit := by decide +kernel
theorem uX8_limit_X8 : ∀ w ∈ u_ws RX8 TX8 13, w ∈ wsX8_limit := (fun _ h => List.mem_cons_of_mem _ (List.mem_append_right _ h))
theorem kcX8_limit : yX8_limit.cls = RX8 ∧ yX8_limit.cls ≠ "java/lang/invoke/MethodHandle" ∧ yX8_limit.cls ≠ "java/lang/invoke/VarHandle" ∧ (parseMethodDescriptor yX8_limit.desc).map (fun d => d.parameters.length) = some 1 := by decide +kernel
def pX8_limit (k n : Nat) (σ : fqS) (x1 : Int32) : Option (Int64 × fqS) :=
  (if x1 < 0 then (fqB2 (pX8_finding k n σ (1 : Int32)) (fun r3 σ4 => some (r3, σ4))) else (if x1 ≤ (8000000 : Int32) then (fqN (fqPJ σ 0 11 (Int32.toInt64 x1)) (fun σ6 => some ((fqJ σ 0 11), σ6))) else (fqB2 (pX8_finding k n σ (1 : Int32)) (fun r9 σ10 => some (r9, σ10)))))
set_option maxRecDepth 100000 in
set_option maxHeartbeats 4000000 in
theorem qX8_limit (l : Launch) (D : va_G) (cy : Nat → ClassId) (ad : Nat → Nat) (sz n : Nat) (σ : fqS) (k : Nat) (x1 : Int32) {r : Int64} {σ' : fqS} (hf : pX8_limit k n σ x1 = some (r, σ')) : Met l yX8_limit wsX8_limit ({ frames := 1, cells := 0, slots := 0, locals := 21 } : Room) (fqPc (TX cy) ZX D cy ad sz n σ [.ref (ad 0), .int x1]) (fqQl (TX cy) ZX D ad sz n σ r σ') 0 0 (fqA (TX cy) ZX ad sz n σ) := by
  refine fq_enter_l (cc := cX8_limit) (maxL := 4) (own := RX8) _ (by decide) rfl (Nat.le_of_ble_eq_true rfl) rfl (fun X E hret => ?_)
  unfold pX8_limit at hf
  show fqG X (TX cy) ZX ad n 4 0 0 σ 0 [(0, .ref (ad 0)), (1, .int x1)] []
  refine g_iload_n (pc := 0) E dX8_limit_0 1 rfl rfl ?_
  refine g_if_lt (pc := 1) E 11 dX8_limit_1 (by decide) (fun c1 => ?_) (fun c1 => ?_)
  · replace hf := fq_t c1 hf
    refine g_aload_n (pc := 11) E dX8_limit_11 0 rfl rfl ?_
    refine g_iconst (pc := 12) E (1 : Int32) dX8_limit_12 (by decide) ?_
    obtain ⟨r3, σ4, e2, hf⟩ := fq_b2 hf
    refine g_callVl (pc := 13) E 0 (zx_l (by decide)) (fun _ _ => rfl) rfl [.int (1 : Int32)] (fun l D sz => qX8_finding l D cy ad sz n σ k (1 : Int32) e2) gX8_limit_X8_finding rfl rfl rfl kcX8_finding ⟨by decide, by decide⟩ rfl rfl (Nat.le_of_ble_eq_true rfl) dX8_limit_13 ⟨by decide, by decide⟩ ?_
    exact hret _ _ _ _ dX8_limit_16 (Option.some.inj hf)
  · replace hf := fq_f c1 hf
    refine g_iload_n (pc := 4) E dX8_limit_4 1 rfl rfl ?_
    refine g_ldc_w (pc := 5) E dX8_limit_5 wX8_limit_0 ?_
    refine g_icmp_le (pc := 8) E 17 dX8_limit_8 (by decide) (fun c5 => ?_) (fun c5 => ?_)
    · replace hf := fq_t c5 hf
      refine g_aload_n (pc := 17) E dX8_limit_17 0 rfl rfl ?_
      refine g_getfield (pc := 18) E uX8_limit_X8 0 (zx_l (by decide)) (fun _ _ => rfl) rfl 11 (by decide) wX8_limit_1 (.long (fqJ σ 0 11)) rfl dX8_limit_18 ?_
      refine g_lstore_n (pc := 21) E [(2, .long (fqJ σ 0 11)), (0, .ref (ad 0)), (1, .int x1)] dX8_limit_21 rfl (by decide) rfl ?_
      refine g_aload_n (pc := 22) E dX8_limit_22 1 rfl rfl ?_
      refine g_iload_n (pc := 23) E dX8_limit_23 2 rfl rfl ?_
      refine g_i2l (pc := 24) E dX8_limit_24 ?_
      refine g_putJ (pc := 25) E uX8_limit_X8 tyX8 tyX8_ok nmX8 0 (zx_l (by decide)) (fun _ _ => rfl) rfl 11 (by decide) wX8_limit_1 rfl rfl (Nat.le_of_ble_eq_true rfl) rfl dX8_limit_25 ?_
      obtain ⟨σ6, e7, hf⟩ := fq_n hf
      refine g_sg e7 ?_
      refine g_lload_n (pc := 28) E dX8_limit_28 0 rfl rfl ?_
      exact hret _ _ _ _ dX8_limit_29 (Option.some.inj hf)
    · replace hf := fq_f c5 hf
      refine g_aload_n (pc := 11) E dX8_limit_11 0 rfl rfl ?_
      refine g_iconst (pc := 12) E (1 : Int32) dX8_limit_12 (by decide) ?_
      obtain ⟨r9, σ10, e8, hf⟩ := fq_b2 hf
      refine g_callVl (pc := 13) E 0 (zx_l (by decide)) (fun _ _ => rfl) rfl [.int (1 : Int32)] (fun l D sz => qX8_finding l D cy ad sz n σ k (1 : Int32) e8) gX8_limit_X8_finding rfl rfl rfl kcX8_finding ⟨by decide, by decide⟩ rfl rfl (Nat.le_of_ble_eq_true rfl) dX8_limit_13 ⟨by decide, by decide⟩ ?_
      exact hret _ _ _ _ dX8_limit_16 (Option.some.inj hf)

/-! X8_match -/
theorem wX8_match_0 : Cond.fieldLink RX8 43 "FairQueue" "matches" "LFairQueue$Matches;" ∈ wsX8_match := by decide +kernel
theorem uX8_match_X8 : ∀ w ∈ u_ws RX8 TX8 13, w ∈ wsX8_match := (fun _ h => List.mem_cons_of_mem _ (List.mem_append_left _ (List.mem_append_left _ (List.mem_append_left _ (List.mem_append_left _ (List.mem_append_right _ h))))))
theorem wX8_match_2 : Cond.fieldLink RX8 217 "FairQueue$Match" "first" "I" ∈ wsX8_match := by decide +kernel
theorem uX8_match_X1 : ∀ w ∈ u_ws RX1 TX1 4, w ∈ wsX8_match := (fun _ h => List.mem_cons_of_mem _ (List.mem_append_left _ (List.mem_append_left _ (List.mem_append_left _ (List.mem_append_right _ h)))))
theorem wX8_match_4 : Cond.fieldLink RX8 218 "FairQueue$Match" "second" "I" ∈ wsX8_match := by decide +kernel
theorem wX8_match_5 : Cond.fieldLink RX8 219 "FairQueue$Match" "dropped" "I" ∈ wsX8_match := by decide +kernel
theorem wX8_match_6 : Cond.fieldLink RX8 222 "FairQueue$Match" "made" "J" ∈ wsX8_match := by decide +kernel
theorem wX8_match_7 : Cond.fieldLink RX8 10 "FairQueue" "players" "LFairQueue$Players;" ∈ wsX8_match := by decide +kernel
theorem kcX8_match : yX8_match.cls = RX8 ∧ yX8_match.cls ≠ "java/lang/invoke/MethodHandle" ∧ yX8_match.cls ≠ "java/lang/invoke/VarHandle" ∧ (parseMethodDescriptor yX8_match.desc).map (fun d => d.parameters.length) = some 2 := by decide +kernel
def pX8_match (k n : Nat) (σ : fqS) (x1 : Int32) (x2 : Int32) : Option (Int64 × fqS) :=
  ((pX2_at k n σ x1).bind (fun r2 => (fqM r2 ((fqB2 (pX8_finding k n σ (1 : Int32)) (fun r6 σ7 => some (r6, σ7)))) (fun z3 => (if z3 < 5 then (if x2 < 0 then (fqB2 (pX8_finding k n σ (1 : Int32)) (fun r10 σ11 => some (r10, σ11))) else (if x2 ≤ (4 : Int32) then ((pX1_goesOn k n σ z3).bind (fun r14 => (if r14 = 0 then (fqB2 (pX8_finding k n σ (2 : Int32)) (fun r23 σ24 => some (r23, σ24))) else (if x2 = 0 then some ((Int32.toInt64 (fqI σ (18 + z3) 0)), σ) else (if x2 = 1 then some ((Int32.toInt64 (fqI σ (18 + z3) 1)), σ) else (if x2 = 2 then some ((Int32.toInt64 (fqI σ (18 + z3) 2)), σ) else (if x2 = 3 then some ((fqJ σ (18 + z3) 3), σ) else ((pX6_teamChance k n σ (fqI σ (18 + z3) 0) (fqI σ (18 + z3) 1)).bind (fun r21 => some (r21, σ)))))))))) else (fqB2 (pX8_finding k n σ (1 : Int32)) (fun r26 σ27 => some (r26, σ27))))) else none)))))
set_option maxRecDepth 100000 in
set_option maxHeartbeats 4000000 in
theorem qX8_match (l : Launch) (D : va_G) (cy : Nat → ClassId) (ad : Nat → Nat) (sz n : Nat) (σ : fqS) (k : Nat) (x1 : Int32) (x2 : Int32) {r : Int64} {σ' : fqS} (hf : pX8_match k n σ x1 x2 = some (r, σ')) : Met l yX8_match wsX8_match ({ frames := 4, cells := 0, slots := 0, locals := 105 } : Room) (fqPc (TX cy) ZX D cy ad sz n σ [.ref (ad 0), .int x1, .int x2]) (fqQl (TX cy) ZX D ad sz n σ r σ') 0 0 (fqA (TX cy) ZX ad sz n σ) := by
  refine fq_enter_l (cc := cX8_match) (maxL := 4) (own := RX8) _ (by decide) rfl (Nat.le_of_ble_eq_true rfl) rfl (fun X E hret => ?_)
  unfold pX8_match at hf
  show fqG X (TX cy) ZX ad n 4 0 0 σ 0 [(0, .ref (ad 0)), (1, .int x1), (2, .int x2)] []
  refine g_aload_n (pc := 0) E dX8_match_0 0 rfl rfl ?_
  refine g_getfield (pc := 1) E uX8_match_X8 0 (zx_l (by decide)) (fun _ _ => rfl) rfl 5 (by decide) wX8_match_0 (.ref (ad 16)) rfl dX8_match_1 ?_
  refine g_iload_n (pc := 4) E dX8_match_4 1 rfl rfl ?_
  obtain ⟨r2, e1, hf⟩ := fq_b hf
  refine g_callVq (pc := 5) E 16 (zx_l (by decide)) (fun _ _ => rfl) rfl [.int x1] (fun l D sz => qX2_at l D cy ad sz n σ k x1 e1) gX8_match_X2_at rfl rfl rfl kcX2_at ⟨by decide, by decide⟩ rfl rfl (Nat.le_of_ble_eq_true rfl) dX8_match_5 ⟨by decide, by decide⟩ ?_
  cases r2 with
  | none =>
    replace hf := fqM_n hf
    refine g_st (st' := [.null]) rfl ?_
    refine g_astore_nN (pc := 8) E [(3, .null), (0, .ref (ad 0)), (1, .int x1), (2, .int x2)] dX8_match_8 rfl (by decide) rfl ?_
    refine g_aload_nN (pc := 9) E dX8_match_9 0 rfl rfl ?_
    refine g_ifnullN (pc := 10) E 22 dX8_match_10 (by decide) ?_
    refine g_aload_n (pc := 22) E dX8_match_22 1 rfl rfl ?_
    refine g_iconst (pc := 23) E (1 : Int32) dX8_match_23 (by decide) ?_
    obtain ⟨r6, σ7, e5, hf⟩ := fq_b2 hf
    refine g_callVl (pc := 24) E 0 (zx_l (by decide)) (fun _ _ => rfl) rfl [.int (1 : Int32)] (fun l D sz => qX8_finding l D cy ad sz n σ k (1 : Int32) e5) gX8_match_X8_finding rfl rfl rfl kcX8_finding ⟨by decide, by decide⟩ rfl rfl (Nat.le_of_ble_eq_true rfl) dX8_match_24 ⟨by decide, by decide⟩ ?_
    exact hret _ _ _ _ dX8_match_27 (Option.some.inj hf)
  | some z3 =>
    obtain ⟨h4, hf⟩ := fq_g (fqM_s hf)
    refine g_st (st' := [.ref (ad (18 + z3))]) rfl ?_
    refine g_astore_n (pc := 8) E [(3, .ref (ad (18 + z3))), (0, .ref (ad 0)), (1, .int x1), (2, .int x2)] dX8_match_8 rfl (by decide) rfl ?_
    refine g_aload_n (pc := 9) E dX8_match_9 0 rfl rfl ?_
    refine g_ifnull (pc := 10) E dX8_match_10 ?_
    refine g_iload_n (pc := 13) E dX8_match_13 3 rfl rfl ?_
    refine g_if_lt (pc := 14) E 22 dX8_match_14 (by decide) (fun c8 => ?_) (fun c8 => ?_)
    · replace hf := fq_t c8 hf
      refine g_aload_n (pc := 22) E dX8_match_22 1 rfl rfl ?_
      refine g_iconst (pc := 23) E (1 : Int32) dX8_match_23 (by decide) ?_
      obtain ⟨r10, σ11, e9, hf⟩ := fq_b2 hf
      refine g_callVl (pc := 24) E 0 (zx_l (by decide)) (fun _ _ => rfl) rfl [.int (1 : Int32)] (fun l D sz => qX8_finding l D cy ad sz n σ k (1 : Int32) e9) gX8_match_X8_finding rfl rfl rfl kcX8_finding ⟨by decide, by decide⟩ rfl rfl (Nat.le_of_ble_eq_true rfl) dX8_match_24 ⟨by decide, by decide⟩ ?_
      exact hret _ _ _ _ dX8_match_27 (Option.some.inj hf)
    · replace hf := fq_f c8 hf
      refine g_iload_n (pc := 17) E dX8_match_17 3 rfl rfl ?_
      refine g_iconst (pc := 18) E (4 : Int32) dX8_match_18 (by decide) ?_
      refine g_icmp_le (pc := 19) E 28 dX8_match_19 (by decide) (fun c12 => ?_) (fun c12 => ?_)
      · replace hf := fq_t c12 hf
        refine g_aload_n (pc := 28) E dX8_match_28 0 rfl rfl ?_
        obtain ⟨r14, e13, hf⟩ := fq_b hf
        refine g_callVi (pc := 29) E (18 + z3) (zx_m h4) (tx_m cy ad n h4) rfl [] (fun l D sz => qX1_goesOn l D cy ad sz n σ k z3 h4 e13) gX8_match_X1_goesOn rfl rfl rfl kcX1_goesOn ⟨by decide, by decide⟩ rfl rfl (Nat.le_of_ble_eq_true rfl) dX8_match_29 ⟨by decide, by decide⟩ ?_
        refine g_if_ne (pc := 32) E 41 dX8_match_32 (by decide) (fun c15 => ?_) (fun c15 => ?_)
        · replace hf := fq_f c15 hf
          refine g_iload_n (pc := 41) E dX8_match_41 3 rfl rfl ?_
          by_cases c16 : x2 = 0
          · replace hf := fq_t c16 hf
            refine g_tableIn (pc := 42) E (off := 30) 72 dX8_match_42 (by rw [c16]; decide) (by rw [c16]; decide) (by rw [c16]; rfl) (by decide) ?_
            refine g_aload_n (pc := 72) E dX8_match_72 0 rfl rfl ?_
            refine g_getfield (pc := 73) E uX8_match_X1 (18 + z3) (zx_m h4) (tx_m cy ad n h4) rfl 0 (by decide) wX8_match_2 (.int (fqI σ (18 + z3) 0)) rfl dX8_match_73 ?_
            refine g_i2l (pc := 76) E dX8_match_76 ?_
            exact hret _ _ _ _ dX8_match_77 (Option.some.inj hf)
          replace hf := fq_f c16 hf
          by_cases c17 : x2 = 1
          · replace hf := fq_t c17 hf
            refine g_tableIn (pc := 42) E (off := 36) 78 dX8_match_42 (by rw [c17]; decide) (by rw [c17]; decide) (by rw [c17]; rfl) (by decide) ?_
            refine g_aload_n (pc := 78) E dX8_match_78 0 rfl rfl ?_
            refine g_getfield (pc := 79) E uX8_match_X1 (18 + z3) (zx_m h4) (tx_m cy ad n h4) rfl 1 (by decide) wX8_match_4 (.int (fqI σ (18 + z3) 1)) rfl dX8_match_79 ?_
            refine g_i2l (pc := 82) E dX8_match_82 ?_
            exact hret _ _ _ _ dX8_match_83 (Option.some.inj hf)
          replace hf := fq_f c17 hf
          by_cases c18 : x2 = 2
          · replace hf := fq_t c18 hf
            refine g_tableIn (pc := 42) E (off := 42) 84 dX8_match_42 (by rw [c18]; decide) (by rw [c18]; decide) (by rw [c18]; rfl) (by decide) ?_
            refine g_aload_n (pc := 84) E dX8_match_84 0 rfl rfl ?_
            refine g_getfield (pc := 85) E uX8_match_X1 (18 + z3) (zx_m h4) (tx_m cy ad n h4) rfl 2 (by decide) wX8_match_5 (.int (fqI σ (18 + z3) 2)) rfl dX8_match_85 ?_
            refine g_i2l (pc := 88) E dX8_match_88 ?_
            exact hret _ _ _ _ dX8_match_89 (Option.some.inj hf)
          replace hf := fq_f c18 hf
          by_cases c19 : x2 = 3
          · replace hf := fq_t c19 hf
            refine g_tableIn (pc := 42) E (off := 48) 90 dX8_match_42 (by rw [c19]; decide) (by rw [c19]; decide) (by rw [c19]; rfl) (by decide) ?_
            refine g_aload_n (pc := 90) E dX8_match_90 0 rfl rfl ?_
            refine g_getfield (pc := 91) E uX8_match_X1 (18 + z3) (zx_m h4) (tx_m cy ad n h4) rfl 3 (by decide) wX8_match_6 (.long (fqJ σ (18 + z3) 3)) rfl dX8_match_91 ?_
            exact hret _ _ _ _ dX8_match_94 (Option.some.inj hf)
          replace hf := fq_f c19 hf
          refine g_tableOut (pc := 42) E 95 dX8_match_42 (fq_sw4 c16 c17 c18 c19) (by decide) ?_
          refine g_aload_n (pc := 95) E dX8_match_95 1 rfl rfl ?_
          refine g_getfield (pc := 96) E uX8_match_X8 0 (zx_l (by decide)) (fun _ _ => rfl) rfl 0 (by decide) wX8_match_7 (.ref (ad 1)) rfl dX8_match_96 ?_
          refine g_aload_n (pc := 99) E dX8_match_99 0 rfl rfl ?_
          refine g_getfield (pc := 100) E uX8_match_X1 (18 + z3) (zx_m h4) (tx_m cy ad n h4) rfl 0 (by decide) wX8_match_2 (.int (fqI σ (18 + z3) 0)) rfl dX8_match_100 ?_
          refine g_aload_n (pc := 103) E dX8_match_103 0 rfl rfl ?_
          refine g_getfield (pc := 104) E uX8_match_X1 (18 + z3) (zx_m h4) (tx_m cy ad n h4) rfl 1 (by decide) wX8_match_4 (.int (fqI σ (18 + z3) 1)) rfl dX8_match_104 ?_
          obtain ⟨r21, e20, hf⟩ := fq_b hf
          refine g_callVl (pc := 107) E 1 (zx_l (by decide)) (fun _ _ => rfl) rfl [.int (fqI σ (18 + z3) 0), .int (fqI σ (18 + z3) 1)] (fun l D sz => qX6_teamChance l D cy ad sz n σ k (fqI σ (18 + z3) 0) (fqI σ (18 + z3) 1) e20) gX8_match_X6_teamChance rfl rfl rfl kcX6_teamChance ⟨by decide, by decide⟩ rfl rfl (Nat.le_of_ble_eq_true rfl) dX8_match_107 ⟨by decide, by decide⟩ ?_
          exact hret _ _ _ _ dX8_match_110 (Option.some.inj hf)
        · replace hf := fq_t c15 hf
          refine g_aload_n (pc := 35) E dX8_match_35 1 rfl rfl ?_
          refine g_iconst (pc := 36) E (2 : Int32) dX8_match_36 (by decide) ?_
          obtain ⟨r23, σ24, e22, hf⟩ := fq_b2 hf
          refine g_callVl (pc := 37) E 0 (zx_l (by decide)) (fun _ _ => rfl) rfl [.int (2 : Int32)] (fun l D sz => qX8_finding l D cy ad sz n σ k (2 : Int32) e22) gX8_match_X8_finding rfl rfl rfl kcX8_finding ⟨by decide, by decide⟩ rfl rfl (Nat.le_of_ble_eq_true rfl) dX8_match_37 ⟨by decide, by decide⟩ ?_
          exact hret _ _ _ _ dX8_match_40 (Option.some.inj hf)
      · replace hf := fq_f c12 hf
        refine g_aload_n (pc := 22) E dX8_match_22 1 rfl rfl ?_
        refine g_iconst (pc := 23) E (1 : Int32) dX8_match_23 (by decide) ?_
        obtain ⟨r26, σ27, e25, hf⟩ := fq_b2 hf
        refine g_callVl (pc := 24) E 0 (zx_l (by decide)) (fun _ _ => rfl) rfl [.int (1 : Int32)] (fun l D sz => qX8_finding l D cy ad sz n σ k (1 : Int32) e25) gX8_match_X8_finding rfl rfl rfl kcX8_finding ⟨by decide, by decide⟩ rfl rfl (Nat.le_of_ble_eq_true rfl) dX8_match_24 ⟨by decide, by decide⟩ ?_
        exact hret _ _ _ _ dX8_match_27 (Option.some.inj hf)

/-! X8_mean -/
theorem wX8_mean_0 : Cond.fieldLink RX8 10 "FairQueue" "players" "LFairQueue$Players;" ∈ wsX8_mean := by decide +kernel
theorem uX8_mean_X8 : ∀ w ∈ u_ws RX8 TX8 13, w ∈ wsX8_mean := (fun _ h => List.mem_cons_of_mem _ (List.mem_append_left _ (List.mem_append_left _ (List.mem_append_right _ h))))
theorem kcX8_mean : yX8_mean.cls = RX8 ∧ yX8_mean.cls ≠ "java/lang/invoke/MethodHandle" ∧ yX8_mean.cls ≠ "java/lang/invoke/VarHandle" ∧ (parseMethodDescriptor yX8_mean.desc).map (fun d => d.parameters.length) = some 1 := by decide +kernel
def pX8_mean (k n : Nat) (σ : fqS) (x1 : Int32) : Option (Int64 × fqS) :=
  ((pX6_at k n σ x1).bind (fun r2 => (fqM r2 ((fqB2 (pX8_finding k n σ (1 : Int32)) (fun r6 σ7 => some (r6, σ7)))) (fun z3 => (if z3 < n then ((pX5_ownMean k n σ z3).bind (fun r9 => some (r9, σ))) else none)))))
set_option maxRecDepth 100000 in
set_option maxHeartbeats 4000000 in
theorem qX8_mean (l : Launch) (D : va_G) (cy : Nat → ClassId) (ad : Nat → Nat) (sz n : Nat) (σ : fqS) (k : Nat) (x1 : Int32) {r : Int64} {σ' : fqS} (hf : pX8_mean k n σ x1 = some (r, σ')) : Met l yX8_mean wsX8_mean ({ frames := 1, cells := 0, slots := 0, locals := 23 } : Room) (fqPc (TX cy) ZX D cy ad sz n σ [.ref (ad 0), .int x1]) (fqQl (TX cy) ZX D ad sz n σ r σ') 0 0 (fqA (TX cy) ZX ad sz n σ) := by
  refine fq_enter_l (cc := cX8_mean) (maxL := 3) (own := RX8) _ (by decide) rfl (Nat.le_of_ble_eq_true rfl) rfl (fun X E hret => ?_)
  unfold pX8_mean at hf
  show fqG X (TX cy) ZX ad n 3 0 0 σ 0 [(0, .ref (ad 0)), (1, .int x1)] []
  refine g_aload_n (pc := 0) E dX8_mean_0 0 rfl rfl ?_
  refine g_getfield (pc := 1) E uX8_mean_X8 0 (zx_l (by decide)) (fun _ _ => rfl) rfl 0 (by decide) wX8_mean_0 (.ref (ad 1)) rfl dX8_mean_1 ?_
  refine g_iload_n (pc := 4) E dX8_mean_4 1 rfl rfl ?_
  obtain ⟨r2, e1, hf⟩ := fq_b hf
  refine g_callVq (pc := 5) E 1 (zx_l (by decide)) (fun _ _ => rfl) rfl [.int x1] (fun l D sz => qX6_at l D cy ad sz n σ k x1 e1) gX8_mean_X6_at rfl rfl rfl kcX6_at ⟨by decide, by decide⟩ rfl rfl (Nat.le_of_ble_eq_true rfl) dX8_mean_5 ⟨by decide, by decide⟩ ?_
  cases r2 with
  | none =>
    replace hf := fqM_n hf
    refine g_st (st' := [.null]) rfl ?_
    refine g_astore_nN (pc := 8) E [(2, .null), (0, .ref (ad 0)), (1, .int x1)] dX8_mean_8 rfl (by decide) rfl ?_
    refine g_aload_nN (pc := 9) E dX8_mean_9 0 rfl rfl ?_
    refine g_ifnonnullN (pc := 10) E dX8_mean_10 ?_
    refine g_aload_n (pc := 13) E dX8_mean_13 1 rfl rfl ?_
    refine g_iconst (pc := 14) E (1 : Int32) dX8_mean_14 (by decide) ?_
    obtain ⟨r6, σ7, e5, hf⟩ := fq_b2 hf
    refine g_callVl (pc := 15) E 0 (zx_l (by decide)) (fun _ _ => rfl) rfl [.int (1 : Int32)] (fun l D sz => qX8_finding l D cy ad sz n σ k (1 : Int32) e5) gX8_mean_X8_finding rfl rfl rfl kcX8_finding ⟨by decide, by decide⟩ rfl rfl (Nat.le_of_ble_eq_true rfl) dX8_mean_15 ⟨by decide, by decide⟩ ?_
    exact hret _ _ _ _ dX8_mean_18 (Option.some.inj hf)
  | some z3 =>
    obtain ⟨h4, hf⟩ := fq_g (fqM_s hf)
    refine g_st (st' := [.ref (ad (26 + 4 * z3))]) rfl ?_
    refine g_astore_n (pc := 8) E [(2, .ref (ad (26 + 4 * z3))), (0, .ref (ad 0)), (1, .int x1)] dX8_mean_8 rfl (by decide) rfl ?_
    refine g_aload_n (pc := 9) E dX8_mean_9 0 rfl rfl ?_
    refine g_ifnonnull (pc := 10) E 19 dX8_mean_10 (by decide) ?_
    refine g_aload_n (pc := 19) E dX8_mean_19 0 rfl rfl ?_
    obtain ⟨r9, e8, hf⟩ := fq_b hf
    refine g_callVl (pc := 20) E (26 + 4 * z3) (zx_p0 h4) (tx_p cy ad n z3) rfl [] (fun l D sz => qX5_ownMean l D cy ad sz n σ k z3 h4 e8) gX8_mean_X5_ownMean rfl rfl rfl kcX5_ownMean ⟨by decide, by decide⟩ rfl rfl (Nat.le_of_ble_eq_true rfl) dX8_mean_20 ⟨by decide, by decide⟩ ?_
    exact hret _ _ _ _ dX8_mean_23 (Option.some.inj hf)

/-! X8_pairing -/
theorem wX8_pairing_0 : Cond.fieldLink RX8 10 "FairQueue" "players" "LFairQueue$Players;" ∈ wsX8_pairing := by decide +kernel
theorem uX8_pairing_X8 : ∀ w ∈ u_ws RX8 TX8 13, w ∈ wsX8_pairing := (fun _ h => List.mem_cons_of_mem _ (List.mem_append_left _ (List.mem_append_left _ (List.mem_append_left _ (List.mem_append_left _ (List.mem_append_left _ (List.mem_append_right _ h)))))))
theorem wX8_pairing_2 : Cond.fieldLink RX8 19 "FairQueue" "queue" "LFairQueue$Queue;" ∈ wsX8_pairing := by decide +kernel
theorem wX8_pairing_3 : Cond.fieldLink RX8 29 "FairQueue" "pairings" "LFairQueue$Pairings;" ∈ wsX8_pairing := by decide +kernel
theorem wX8_pairing_4 : Cond.fieldLink RX8 65 "FairQueue" "teamSize" "I" ∈ wsX8_pairing := by decide +kernel
theorem wX8_pairing_5 : Cond.fieldLink RX8 185 "FairQueue$Pairings" "second" "I" ∈ wsX8_pairing := by decide +kernel
theorem uX8_pairing_X3 : ∀ w ∈ u_ws RX3 TX3 6, w ∈ wsX8_pairing := (fun _ h => List.mem_cons_of_mem _ (List.mem_append_left _ (List.mem_append_left _ (List.mem_append_left _ (List.mem_append_left _ (List.mem_append_right _ h))))))
theorem wX8_pairing_7 : Cond.fieldLink RX8 182 "FairQueue$Pairings" "first" "I" ∈ wsX8_pairing := by decide +kernel
theorem wX8_pairing_8 : Cond.fieldLink RX8 179 "FairQueue$Pairings" "uneven" "J" ∈ wsX8_pairing := by decide +kernel
theorem kcX8_pairing : yX8_pairing.cls = RX8 ∧ yX8_pairing.cls ≠ "java/lang/invoke/MethodHandle" ∧ yX8_pairing.cls ≠ "java/lang/invoke/VarHandle" ∧ (parseMethodDescriptor yX8_pairing.desc).map (fun d => d.parameters.length) = some 2 := by decide +kernel
def pX8_pairing (k n : Nat) (σ : fqS) (x1 : Int32) (x2 : Int32) : Option (Int64 × fqS) :=
  ((pX6_at k n σ x1).bind (fun r2 => (fqM r2 ((fqB2 (pX8_finding k n σ (1 : Int32)) (fun r6 σ7 => some (r6, σ7)))) (fun z3 => (if z3 < n then (if x2 < 0 then (fqB2 (pX8_finding k n σ (1 : Int32)) (fun r10 σ11 => some (r10, σ11))) else (if x2 ≤ (2 : Int32) then ((pX8_bitOf k n σ x1).bind (fun r14 => ((pX7_placeOf k n σ 4 r14).bind (fun r16 => (if 0 ≤ r16 then ((pX3_gather k n σ 4 (fqI σ 0 10)).bind (fun σ19 => (fqB2 (pX8_hasPairing k n σ19 4 r16) (fun r21 σ22 => (if r21 = 0 then (fqB2 (pX8_finding k n σ22 (2 : Int32)) (fun r31 σ32 => some (r31, σ32))) else (if x2 = 0 then some ((fqJ σ22 10 5), σ22) else (if x2 = (1 : Int32) then ((pX7_playersAt k n σ22 4 (fqI σ22 10 3)).bind (fun r29 => some ((Int32.toInt64 r29), σ22))) else ((pX7_playersAt k n σ22 4 (fqI σ22 10 4)).bind (fun r27 => some ((Int32.toInt64 r27), σ22)))))))))) else (fqB2 (pX8_finding k n σ (2 : Int32)) (fun r34 σ35 => some (r34, σ35)))))))) else (fqB2 (pX8_finding k n σ (1 : Int32)) (fun r37 σ38 => some (r37, σ38))))) else none)))))
set_option maxRecDepth 100000 in
set_option maxHeartbeats 4000000 in
theorem qX8_pairing (l : Launch) (D : va_G) (cy : Nat → ClassId) (ad : Nat → Nat) (sz n : Nat) (σ : fqS) (k : Nat) (x1 : Int32) (x2 : Int32) {r : Int64} {σ' : fqS} (hf : pX8_pairing k n σ x1 x2 = some (r, σ')) : Met l yX8_pairing wsX8_pairing ({ frames := 4, cells := 0, slots := 0, locals := 89 } : Room) (fqPc (TX cy) ZX D cy ad sz n σ [.ref (ad 0), .int x1, .int x2]) (fqQl (TX cy) ZX D ad sz n σ r σ') 0 0 (fqA (TX cy) ZX ad sz n σ) := by
  refine fq_enter_l (cc := cX8_pairing) (maxL := 4) (own := RX8) _ (by decide) rfl (Nat.le_of_ble_eq_true rfl) rfl (fun X E hret => ?_)
  unfold pX8_pairing at hf
  show fqG X (TX cy) ZX ad n 4 0 0 σ 0 [(0, .ref (ad 0)), (1, .int x1), (2, .int x2)] []
  refine g_aload_n (pc := 0) E dX8_pairing_0 0 rfl rfl ?_
  refine g_getfield (pc := 1) E uX8_pairing_X8 0 (zx_l (by decide)) (fun _ _ => rfl) rfl 0 (by decide) wX8_pairing_0 (.ref (ad 1)) rfl dX8_pairing_1 ?_
  refine g_iload_n (pc := 4) E dX8_pairing_4 1 rfl rfl ?_
  obtain ⟨r2, e1, hf⟩ := fq_b hf
  refine g_callVq (pc := 5) E 1 (zx_l (by decide)) (fun _ _ => rfl) rfl [.int x1] (fun l D sz => qX6_at l D cy ad sz n σ k x1 e1) gX8_pairing_X6_at rfl rfl rfl kcX6_at ⟨by decide, by decide⟩ rfl rfl (Nat.le_of_ble_eq_true rfl) dX8_pairing_5 ⟨by decide, by decide⟩ ?_
  cases r2 with
  | none =>
    replace hf := fqM_n hf
    refine g_st (st' := [.null]) rfl ?_
    refine g_ifnullN (pc := 8) E 20 dX8_pairing_8 (by decide) ?_
    refine g_aload_n (pc := 20) E dX8_pairing_20 0 rfl rfl ?_
    refine g_iconst (pc := 21) E (1 : Int32) dX8_pairing_21 (by decide) ?_
    obtain ⟨r6, σ7, e5, hf⟩ := fq_b2 hf
    refine g_callVl (pc := 22) E 0 (zx_l (by decide)) (fun _ _ => rfl) rfl [.int (1 : Int32)] (fun l D sz => qX8_finding l D cy ad sz n σ k (1 : Int32) e5) gX8_pairing_X8_finding rfl rfl rfl kcX8_finding ⟨by decide, by decide⟩ rfl rfl (Nat.le_of_ble_eq_true rfl) dX8_pairing_22 ⟨by decide, by decide⟩ ?_
    exact hret _ _ _ _ dX8_pairing_25 (Option.some.inj hf)
  | some z3 =>
    obtain ⟨h4, hf⟩ := fq_g (fqM_s hf)
    refine g_st (st' := [.ref (ad (26 + 4 * z3))]) rfl ?_
    refine g_ifnull (pc := 8) E dX8_pairing_8 ?_
    refine g_iload_n (pc := 11) E dX8_pairing_11 2 rfl rfl ?_
    refine g_if_lt (pc := 12) E 20 dX8_pairing_12 (by decide) (fun c8 => ?_) (fun c8 => ?_)
    · replace hf := fq_t c8 hf
      refine g_aload_n (pc := 20) E dX8_pairing_20 0 rfl rfl ?_
      refine g_iconst (pc := 21) E (1 : Int32) dX8_pairing_21 (by decide) ?_
      obtain ⟨r10, σ11, e9, hf⟩ := fq_b2 hf
      refine g_callVl (pc := 22) E 0 (zx_l (by decide)) (fun _ _ => rfl) rfl [.int (1 : Int32)] (fun l D sz => qX8_finding l D cy ad sz n σ k (1 : Int32) e9) gX8_pairing_X8_finding rfl rfl rfl kcX8_finding ⟨by decide, by decide⟩ rfl rfl (Nat.le_of_ble_eq_true rfl) dX8_pairing_22 ⟨by decide, by decide⟩ ?_
      exact hret _ _ _ _ dX8_pairing_25 (Option.some.inj hf)
    · replace hf := fq_f c8 hf
      refine g_iload_n (pc := 15) E dX8_pairing_15 2 rfl rfl ?_
      refine g_iconst (pc := 16) E (2 : Int32) dX8_pairing_16 (by decide) ?_
      refine g_icmp_le (pc := 17) E 26 dX8_pairing_17 (by decide) (fun c12 => ?_) (fun c12 => ?_)
      · replace hf := fq_t c12 hf
        refine g_aload_n (pc := 26) E dX8_pairing_26 0 rfl rfl ?_
        refine g_getfield (pc := 27) E uX8_pairing_X8 0 (zx_l (by decide)) (fun _ _ => rfl) rfl 1 (by decide) wX8_pairing_2 (.ref (ad 4)) rfl dX8_pairing_27 ?_
        refine g_iload_n (pc := 30) E dX8_pairing_30 1 rfl rfl ?_
        obtain ⟨r14, e13, hf⟩ := fq_b hf
        refine g_callSi (pc := 31) E [.int x1] (fun l D sz => qX8_bitOf l D cy ad sz n σ k x1 e13) gX8_pairing_X8_bitOf rfl rfl rfl kcX8_bitOf ⟨by decide, by decide⟩ rfl rfl (Nat.le_of_ble_eq_true rfl) dX8_pairing_31 ⟨by decide, by decide⟩ ?_
        obtain ⟨r16, e15, hf⟩ := fq_b hf
        refine g_callVi (pc := 34) E 4 (zx_q (Or.inl rfl)) (tx_q cy ad n (Or.inl rfl)) rfl [.int r14] (fun l D sz => qX7_placeOf l D cy ad sz n σ k 4 r14 (Or.inl rfl) e15) gX8_pairing_X7_placeOf rfl rfl rfl kcX7_placeOf ⟨by decide, by decide⟩ rfl rfl (Nat.le_of_ble_eq_true rfl) dX8_pairing_34 ⟨by decide, by decide⟩ ?_
        refine g_istore_n (pc := 37) E [(3, .int r16), (0, .ref (ad 0)), (1, .int x1), (2, .int x2)] dX8_pairing_37 rfl (by decide) rfl ?_
        refine g_iload_n (pc := 38) E dX8_pairing_38 0 rfl rfl ?_
        refine g_if_ge (pc := 39) E 48 dX8_pairing_39 (by decide) (fun c17 => ?_) (fun c17 => ?_)
        · replace hf := fq_t c17 hf
          refine g_aload_n (pc := 48) E dX8_pairing_48 1 rfl rfl ?_
          refine g_getfield (pc := 49) E uX8_pairing_X8 0 (zx_l (by decide)) (fun _ _ => rfl) rfl 3 (by decide) wX8_pairing_3 (.ref (ad 10)) rfl dX8_pairing_49 ?_
          refine g_aload_n (pc := 52) E dX8_pairing_52 1 rfl rfl ?_
          refine g_getfield (pc := 53) E uX8_pairing_X8 0 (zx_l (by decide)) (fun _ _ => rfl) rfl 1 (by decide) wX8_pairing_2 (.ref (ad 4)) rfl dX8_pairing_53 ?_
          refine g_aload_n (pc := 56) E dX8_pairing_56 1 rfl rfl ?_
          refine g_getfield (pc := 57) E uX8_pairing_X8 0 (zx_l (by decide)) (fun _ _ => rfl) rfl 0 (by decide) wX8_pairing_0 (.ref (ad 1)) rfl dX8_pairing_57 ?_
          refine g_aload_n (pc := 60) E dX8_pairing_60 1 rfl rfl ?_
          refine g_getfield (pc := 61) E uX8_pairing_X8 0 (zx_l (by decide)) (fun _ _ => rfl) rfl 10 (by decide) wX8_pairing_4 (.int (fqI σ 0 10)) rfl dX8_pairing_61 ?_
          obtain ⟨σ19, e18, hf⟩ := fq_b hf
          refine g_callVv (pc := 64) E 10 (zx_l (by decide)) (fun _ _ => rfl) rfl [.ref (ad 4), .ref (ad 1), .int (fqI σ 0 10)] (fun l D sz => qX3_gather l D cy ad sz n σ k 4 (fqI σ 0 10) (Or.inl rfl) e18) gX8_pairing_X3_gather rfl rfl rfl kcX3_gather ⟨by decide, by decide⟩ rfl rfl (Nat.le_of_ble_eq_true rfl) dX8_pairing_64 ⟨by decide, by decide⟩ ?_
          refine g_aload_n (pc := 67) E dX8_pairing_67 1 rfl rfl ?_
          refine g_aload_n (pc := 68) E dX8_pairing_68 1 rfl rfl ?_
          refine g_getfield (pc := 69) E uX8_pairing_X8 0 (zx_l (by decide)) (fun _ _ => rfl) rfl 1 (by decide) wX8_pairing_2 (.ref (ad 4)) rfl dX8_pairing_69 ?_
          refine g_iload_n (pc := 72) E dX8_pairing_72 0 rfl rfl ?_
          obtain ⟨r21, σ22, e20, hf⟩ := fq_b2 hf
          refine g_callVi (pc := 73) E 0 (zx_l (by decide)) (fun _ _ => rfl) rfl [.ref (ad 4), .int r16] (fun l D sz => qX8_hasPairing l D cy ad sz n σ19 k 4 r16 (Or.inl rfl) e20) gX8_pairing_X8_hasPairing rfl rfl rfl kcX8_hasPairing ⟨by decide, by decide⟩ rfl rfl (Nat.le_of_ble_eq_true rfl) dX8_pairing_73 ⟨by decide, by decide⟩ ?_
          refine g_if_ne (pc := 76) E 85 dX8_pairing_76 (by decide) (fun c23 => ?_) (fun c23 => ?_)
          · replace hf := fq_f c23 hf
            refine g_iload_n (pc := 85) E dX8_pairing_85 3 rfl rfl ?_
            refine g_if_ne (pc := 86) E 97 dX8_pairing_86 (by decide) (fun c24 => ?_) (fun c24 => ?_)
            · replace hf := fq_f c24 hf
              refine g_aload_n (pc := 97) E dX8_pairing_97 1 rfl rfl ?_
              refine g_getfield (pc := 98) E uX8_pairing_X8 0 (zx_l (by decide)) (fun _ _ => rfl) rfl 1 (by decide) wX8_pairing_2 (.ref (ad 4)) rfl dX8_pairing_98 ?_
              refine g_iload_n (pc := 101) E dX8_pairing_101 3 rfl rfl ?_
              refine g_iconst (pc := 102) E (1 : Int32) dX8_pairing_102 (by decide) ?_
              refine g_icmp_ne (pc := 103) E 116 dX8_pairing_103 (by decide) (fun c25 => ?_) (fun c25 => ?_)
              · replace hf := fq_f c25 hf
                refine g_aload_n (pc := 116) E dX8_pairing_116 1 rfl rfl ?_
                refine g_getfield (pc := 117) E uX8_pairing_X8 0 (zx_l (by decide)) (fun _ _ => rfl) rfl 3 (by decide) wX8_pairing_3 (.ref (ad 10)) rfl dX8_pairing_117 ?_
                refine g_getfield (pc := 120) E uX8_pairing_X3 10 (zx_l (by decide)) (fun _ _ => rfl) rfl 4 (by decide) wX8_pairing_5 (.int (fqI σ22 10 4)) rfl dX8_pairing_120 ?_
                obtain ⟨r27, e26, hf⟩ := fq_b hf
                refine g_callVi (pc := 123) E 4 (zx_q (Or.inl rfl)) (tx_q cy ad n (Or.inl rfl)) rfl [.int (fqI σ22 10 4)] (fun l D sz => qX7_playersAt l D cy ad sz n σ22 k 4 (fqI σ22 10 4) (Or.inl rfl) e26) gX8_pairing_X7_playersAt rfl rfl rfl kcX7_playersAt ⟨by decide, by decide⟩ rfl rfl (Nat.le_of_ble_eq_true rfl) dX8_pairing_123 ⟨by decide, by decide⟩ ?_
                refine g_i2l (pc := 126) E dX8_pairing_126 ?_
                exact hret _ _ _ _ dX8_pairing_127 (Option.some.inj hf)
              · replace hf := fq_t c25 hf
                refine g_aload_n (pc := 106) E dX8_pairing_106 1 rfl rfl ?_
                refine g_getfield (pc := 107) E uX8_pairing_X8 0 (zx_l (by decide)) (fun _ _ => rfl) rfl 3 (by decide) wX8_pairing_3 (.ref (ad 10)) rfl dX8_pairing_107 ?_
                refine g_getfield (pc := 110) E uX8_pairing_X3 10 (zx_l (by decide)) (fun _ _ => rfl) rfl 3 (by decide) wX8_pairing_7 (.int (fqI σ22 10 3)) rfl dX8_pairing_110 ?_
                refine g_goto (pc := 113) E 123 dX8_pairing_113 (by decide) ?_
                obtain ⟨r29, e28, hf⟩ := fq_b hf
                refine g_callVi (pc := 123) E 4 (zx_q (Or.inl rfl)) (tx_q cy ad n (Or.inl rfl)) rfl [.int (fqI σ22 10 3)] (fun l D sz => qX7_playersAt l D cy ad sz n σ22 k 4 (fqI σ22 10 3) (Or.inl rfl) e28) gX8_pairing_X7_playersAt rfl rfl rfl kcX7_playersAt ⟨by decide, by decide⟩ rfl rfl (Nat.le_of_ble_eq_true rfl) dX8_pairing_123 ⟨by decide, by decide⟩ ?_
                refine g_i2l (pc := 126) E dX8_pairing_126 ?_
                exact hret _ _ _ _ dX8_pairing_127 (Option.some.inj hf)
            · replace hf := fq_t c24 hf
              refine g_aload_n (pc := 89) E dX8_pairing_89 1 rfl rfl ?_
              refine g_getfield (pc := 90) E uX8_pairing_X8 0 (zx_l (by decide)) (fun _ _ => rfl) rfl 3 (by decide) wX8_pairing_3 (.ref (ad 10)) rfl dX8_pairing_90 ?_
              refine g_getfield (pc := 93) E uX8_pairing_X3 10 (zx_l (by decide)) (fun _ _ => rfl) rfl 5 (by decide) wX8_pairing_8 (.long (fqJ σ22 10 5)) rfl dX8_pairing_93 ?_
              exact hret _ _ _ _ dX8_pairing_96 (Option.some.inj hf)
          · replace hf := fq_t c23 hf
            refine g_aload_n (pc := 79) E dX8_pairing_79 1 rfl rfl ?_
            refine g_iconst (pc := 80) E (2 : Int32) dX8_pairing_80 (by decide) ?_
            obtain ⟨r31, σ32, e30, hf⟩ := fq_b2 hf
            refine g_callVl (pc := 81) E 0 (zx_l (by decide)) (fun _ _ => rfl) rfl [.int (2 : Int32)] (fun l D sz => qX8_finding l D cy ad sz n σ22 k (2 : Int32) e30) gX8_pairing_X8_finding rfl rfl rfl kcX8_finding ⟨by decide, by decide⟩ rfl rfl (Nat.le_of_ble_eq_true rfl) dX8_pairing_81 ⟨by decide, by decide⟩ ?_
            exact hret _ _ _ _ dX8_pairing_84 (Option.some.inj hf)
        · replace hf := fq_f c17 hf
          refine g_aload_n (pc := 42) E dX8_pairing_42 1 rfl rfl ?_
          refine g_iconst (pc := 43) E (2 : Int32) dX8_pairing_43 (by decide) ?_
          obtain ⟨r34, σ35, e33, hf⟩ := fq_b2 hf
          refine g_callVl (pc := 44) E 0 (zx_l (by decide)) (fun _ _ => rfl) rfl [.int (2 : Int32)] (fun l D sz => qX8_finding l D cy ad sz n σ k (2 : Int32) e33) gX8_pairing_X8_finding rfl rfl rfl kcX8_finding ⟨by decide, by decide⟩ rfl rfl (Nat.le_of_ble_eq_true rfl) dX8_pairing_44 ⟨by decide, by decide⟩ ?_
          exact hret _ _ _ _ dX8_pairing_47 (Option.some.inj hf)
      · replace hf := fq_f c12 hf
        refine g_aload_n (pc := 20) E dX8_pairing_20 0 rfl rfl ?_
        refine g_iconst (pc := 21) E (1 : Int32) dX8_pairing_21 (by decide) ?_
        obtain ⟨r37, σ38, e36, hf⟩ := fq_b2 hf
        refine g_callVl (pc := 22) E 0 (zx_l (by decide)) (fun _ _ => rfl) rfl [.int (1 : Int32)] (fun l D sz => qX8_finding l D cy ad sz n σ k (1 : Int32) e36) gX8_pairing_X8_finding rfl rfl rfl kcX8_finding ⟨by decide, by decide⟩ rfl rfl (Nat.le_of_ble_eq_true rfl) dX8_pairing_22 ⟨by decide, by decide⟩ ?_
        exact hret _ _ _ _ dX8_pairing_25 (Option.some.inj hf)

/-! X8_partyOf -/
theorem wX8_partyOf_0 : Cond.fieldLink RX8 10 "FairQueue" "players" "LFairQueue$Players;" ∈ wsX8_partyOf := by decide +kernel
theorem uX8_partyOf_X8 : ∀ w ∈ u_ws RX8 TX8 13, w ∈ wsX8_partyOf := (fun _ h => List.mem_cons_of_mem _ (List.mem_append_left _ (List.mem_append_right _ h)))
theorem kcX8_partyOf : yX8_partyOf.cls = RX8 ∧ yX8_partyOf.cls ≠ "java/lang/invoke/MethodHandle" ∧ yX8_partyOf.cls ≠ "java/lang/invoke/VarHandle" ∧ (parseMethodDescriptor yX8_partyOf.desc).map (fun d => d.parameters.length) = some 3 := by decide +kernel
def pX8_partyOf (k n : Nat) (σ : fqS) (x1 : Int32) (x2 : Int32) (x3 : Int32) : Option Int32 :=
  ((pX6_at k n σ x1).bind (fun r2 => (fqM r2 (some (0 : Int32)) (fun z3 => (if z3 < n then (if x2 = (-1 : Int32) then (if x3 = (-1 : Int32) then ((pX8_bitOf k n σ x1).bind (fun r30 => some r30)) else some (0 : Int32)) else ((pX6_at k n σ x2).bind (fun r7 => (fqM r7 (some (0 : Int32)) (fun z8 => (if z8 < n then (if x2 = x1 then some (0 : Int32) else (if x3 = (-1 : Int32) then ((pX8_bitOf k n σ x1).bind (fun r25 => ((pX8_bitOf k n σ x2).bind (fun r27 => some (r25 ||| r27))))) else ((pX6_at k n σ x3).bind (fun r13 => (fqM r13 (some (0 : Int32)) (fun z14 => (if z14 < n then (if x3 = x1 then some (0 : Int32) else (if x3 = x2 then some (0 : Int32) else ((pX8_bitOf k n σ x1).bind (fun r19 => ((pX8_bitOf k n σ x2).bind (fun r21 => ((pX8_bitOf k n σ x3).bind (fun r23 => some ((r19 ||| r21) ||| r23))))))))) else none))))))) else none)))))) else none)))))
set_option maxRecDepth 100000 in
set_option maxHeartbeats 4000000 in
theorem qX8_partyOf (l : Launch) (D : va_G) (cy : Nat → ClassId) (ad : Nat → Nat) (sz n : Nat) (σ : fqS) (k : Nat) (x1 : Int32) (x2 : Int32) (x3 : Int32) {r : Int32} (hf : pX8_partyOf k n σ x1 x2 x3 = some r) : Met l yX8_partyOf wsX8_partyOf ({ frames := 1, cells := 0, slots := 0, locals := 21 } : Room) (fqPc (TX cy) ZX D cy ad sz n σ [.ref (ad 0), .int x1, .int x2, .int x3]) (fqQi (TX cy) ZX D ad sz n σ r σ) 0 0 (fqA (TX cy) ZX ad sz n σ) := by
  refine fq_enter_i (cc := cX8_partyOf) (maxL := 4) (own := RX8) _ (by decide) rfl (Nat.le_of_ble_eq_true rfl) rfl (fun X E hret => ?_)
  unfold pX8_partyOf at hf
  show fqG X (TX cy) ZX ad n 4 0 0 σ 0 [(0, .ref (ad 0)), (1, .int x1), (2, .int x2), (3, .int x3)] []
  refine g_aload_n (pc := 0) E dX8_partyOf_0 0 rfl rfl ?_
  refine g_getfield (pc := 1) E uX8_partyOf_X8 0 (zx_l (by decide)) (fun _ _ => rfl) rfl 0 (by decide) wX8_partyOf_0 (.ref (ad 1)) rfl dX8_partyOf_1 ?_
  refine g_iload_n (pc := 4) E dX8_partyOf_4 1 rfl rfl ?_
  obtain ⟨r2, e1, hf⟩ := fq_b hf
  refine g_callVq (pc := 5) E 1 (zx_l (by decide)) (fun _ _ => rfl) rfl [.int x1] (fun l D sz => qX6_at l D cy ad sz n σ k x1 e1) gX8_partyOf_X6_at rfl rfl rfl kcX6_at ⟨by decide, by decide⟩ rfl rfl (Nat.le_of_ble_eq_true rfl) dX8_partyOf_5 ⟨by decide, by decide⟩ ?_
  cases r2 with
  | none =>
    replace hf := fqM_n hf
    refine g_st (st' := [.null]) rfl ?_
    refine g_ifnonnullN (pc := 8) E dX8_partyOf_8 ?_
    refine g_iconst (pc := 11) E (0 : Int32) dX8_partyOf_11 (by decide) ?_
    exact hret _ _ _ _ dX8_partyOf_12 (congrArg (fun z => (z, σ)) (Option.some.inj hf))
  | some z3 =>
    obtain ⟨h4, hf⟩ := fq_g (fqM_s hf)
    refine g_st (st' := [.ref (ad (26 + 4 * z3))]) rfl ?_
    refine g_ifnonnull (pc := 8) E 13 dX8_partyOf_8 (by decide) ?_
    refine g_iload_n (pc := 13) E dX8_partyOf_13 2 rfl rfl ?_
    refine g_iconst (pc := 14) E (-1 : Int32) dX8_partyOf_14 (by decide) ?_
    refine g_icmp_ne (pc := 15) E 32 dX8_partyOf_15 (by decide) (fun c5 => ?_) (fun c5 => ?_)
    · replace hf := fq_f c5 hf
      refine g_aload_n (pc := 32) E dX8_partyOf_32 0 rfl rfl ?_
      refine g_getfield (pc := 33) E uX8_partyOf_X8 0 (zx_l (by decide)) (fun _ _ => rfl) rfl 0 (by decide) wX8_partyOf_0 (.ref (ad 1)) rfl dX8_partyOf_33 ?_
      refine g_iload_n (pc := 36) E dX8_partyOf_36 2 rfl rfl ?_
      obtain ⟨r7, e6, hf⟩ := fq_b hf
      refine g_callVq (pc := 37) E 1 (zx_l (by decide)) (fun _ _ => rfl) rfl [.int x2] (fun l D sz => qX6_at l D cy ad sz n σ k x2 e6) gX8_partyOf_X6_at rfl rfl rfl kcX6_at ⟨by decide, by decide⟩ rfl rfl (Nat.le_of_ble_eq_true rfl) dX8_partyOf_37 ⟨by decide, by decide⟩ ?_
      cases r7 with
      | none =>
        replace hf := fqM_n hf
        refine g_st (st' := [.null]) rfl ?_
        refine g_ifnullN (pc := 40) E 48 dX8_partyOf_40 (by decide) ?_
        refine g_iconst (pc := 48) E (0 : Int32) dX8_partyOf_48 (by decide) ?_
        exact hret _ _ _ _ dX8_partyOf_49 (congrArg (fun z => (z, σ)) (Option.some.inj hf))
      | some z8 =>
        obtain ⟨h9, hf⟩ := fq_g (fqM_s hf)
        refine g_st (st' := [.ref (ad (26 + 4 * z8))]) rfl ?_
        refine g_ifnull (pc := 40) E dX8_partyOf_40 ?_
        refine g_iload_n (pc := 43) E dX8_partyOf_43 2 rfl rfl ?_
        refine g_iload_n (pc := 44) E dX8_partyOf_44 1 rfl rfl ?_
        refine g_icmp_ne (pc := 45) E 50 dX8_partyOf_45 (by decide) (fun c10 => ?_) (fun c10 => ?_)
        · replace hf := fq_f c10 hf
          refine g_iload_n (pc := 50) E dX8_partyOf_50 3 rfl rfl ?_
          refine g_iconst (pc := 51) E (-1 : Int32) dX8_partyOf_51 (by decide) ?_
          refine g_icmp_ne (pc := 52) E 65 dX8_partyOf_52 (by decide) (fun c11 => ?_) (fun c11 => ?_)
          · replace hf := fq_f c11 hf
            refine g_aload_n (pc := 65) E dX8_partyOf_65 0 rfl rfl ?_
            refine g_getfield (pc := 66) E uX8_partyOf_X8 0 (zx_l (by decide)) (fun _ _ => rfl) rfl 0 (by decide) wX8_partyOf_0 (.ref (ad 1)) rfl dX8_partyOf_66 ?_
            refine g_iload_n (pc := 69) E dX8_partyOf_69 3 rfl rfl ?_
            obtain ⟨r13, e12, hf⟩ := fq_b hf
            refine g_callVq (pc := 70) E 1 (zx_l (by decide)) (fun _ _ => rfl) rfl [.int x3] (fun l D sz => qX6_at l D cy ad sz n σ k x3 e12) gX8_partyOf_X6_at rfl rfl rfl kcX6_at ⟨by decide, by decide⟩ rfl rfl (Nat.le_of_ble_eq_true rfl) dX8_partyOf_70 ⟨by decide, by decide⟩ ?_
            cases r13 with
            | none =>
              replace hf := fqM_n hf
              refine g_st (st' := [.null]) rfl ?_
              refine g_ifnullN (pc := 73) E 86 dX8_partyOf_73 (by decide) ?_
              refine g_iconst (pc := 86) E (0 : Int32) dX8_partyOf_86 (by decide) ?_
              exact hret _ _ _ _ dX8_partyOf_87 (congrArg (fun z => (z, σ)) (Option.some.inj hf))
            | some z14 =>
              obtain ⟨h15, hf⟩ := fq_g (fqM_s hf)
              refine g_st (st' := [.ref (ad (26 + 4 * z14))]) rfl ?_
              refine g_ifnull (pc := 73) E dX8_partyOf_73 ?_
              refine g_iload_n (pc := 76) E dX8_partyOf_76 3 rfl rfl ?_
              refine g_iload_n (pc := 77) E dX8_partyOf_77 1 rfl rfl ?_
              refine g_icmp_eq (pc := 78) E 86 dX8_partyOf_78 (by decide) (fun c16 => ?_) (fun c16 => ?_)
              · replace hf := fq_t c16 hf
                refine g_iconst (pc := 86) E (0 : Int32) dX8_partyOf_86 (by decide) ?_
                exact hret _ _ _ _ dX8_partyOf_87 (congrArg (fun z => (z, σ)) (Option.some.inj hf))
              · replace hf := fq_f c16 hf
                refine g_iload_n (pc := 81) E dX8_partyOf_81 3 rfl rfl ?_
                refine g_iload_n (pc := 82) E dX8_partyOf_82 2 rfl rfl ?_
                refine g_icmp_ne (pc := 83) E 88 dX8_partyOf_83 (by decide) (fun c17 => ?_) (fun c17 => ?_)
                · replace hf := fq_f c17 hf
                  refine g_iload_n (pc := 88) E dX8_partyOf_88 1 rfl rfl ?_
                  obtain ⟨r19, e18, hf⟩ := fq_b hf
                  refine g_callSi (pc := 89) E [.int x1] (fun l D sz => qX8_bitOf l D cy ad sz n σ k x1 e18) gX8_partyOf_X8_bitOf rfl rfl rfl kcX8_bitOf ⟨by decide, by decide⟩ rfl rfl (Nat.le_of_ble_eq_true rfl) dX8_partyOf_89 ⟨by decide, by decide⟩ ?_
                  refine g_iload_n (pc := 92) E dX8_partyOf_92 2 rfl rfl ?_
                  obtain ⟨r21, e20, hf⟩ := fq_b hf
                  refine g_callSi (pc := 93) E [.int x2] (fun l D sz => qX8_bitOf l D cy ad sz n σ k x2 e20) gX8_partyOf_X8_bitOf rfl rfl rfl kcX8_bitOf ⟨by decide, by decide⟩ rfl rfl (Nat.le_of_ble_eq_true rfl) dX8_partyOf_93 ⟨by decide, by decide⟩ ?_
                  refine g_ior (pc := 96) E dX8_partyOf_96 ?_
                  refine g_iload_n (pc := 97) E dX8_partyOf_97 3 rfl rfl ?_
                  obtain ⟨r23, e22, hf⟩ := fq_b hf
                  refine g_callSi (pc := 98) E [.int x3] (fun l D sz => qX8_bitOf l D cy ad sz n σ k x3 e22) gX8_partyOf_X8_bitOf rfl rfl rfl kcX8_bitOf ⟨by decide, by decide⟩ rfl rfl (Nat.le_of_ble_eq_true rfl) dX8_partyOf_98 ⟨by decide, by decide⟩ ?_
                  refine g_ior (pc := 101) E dX8_partyOf_101 ?_
                  exact hret _ _ _ _ dX8_partyOf_102 (congrArg (fun z => (z, σ)) (Option.some.inj hf))
                · replace hf := fq_t c17 hf
                  refine g_iconst (pc := 86) E (0 : Int32) dX8_partyOf_86 (by decide) ?_
                  exact hret _ _ _ _ dX8_partyOf_87 (congrArg (fun z => (z, σ)) (Option.some.inj hf))
          · replace hf := fq_t c11 hf
            refine g_iload_n (pc := 55) E dX8_partyOf_55 1 rfl rfl ?_
            obtain ⟨r25, e24, hf⟩ := fq_b hf
            refine g_callSi (pc := 56) E [.int x1] (fun l D sz => qX8_bitOf l D cy ad sz n σ k x1 e24) gX8_partyOf_X8_bitOf rfl rfl rfl kcX8_bitOf ⟨by decide, by decide⟩ rfl rfl (Nat.le_of_ble_eq_true rfl) dX8_partyOf_56 ⟨by decide, by decide⟩ ?_
            refine g_iload_n (pc := 59) E dX8_partyOf_59 2 rfl rfl ?_
            obtain ⟨r27, e26, hf⟩ := fq_b hf
            refine g_callSi (pc := 60) E [.int x2] (fun l D sz => qX8_bitOf l D cy ad sz n σ k x2 e26) gX8_partyOf_X8_bitOf rfl rfl rfl kcX8_bitOf ⟨by decide, by decide⟩ rfl rfl (Nat.le_of_ble_eq_true rfl) dX8_partyOf_60 ⟨by decide, by decide⟩ ?_
            refine g_ior (pc := 63) E dX8_partyOf_63 ?_
            exact hret _ _ _ _ dX8_partyOf_64 (congrArg (fun z => (z, σ)) (Option.some.inj hf))
        · replace hf := fq_t c10 hf
          refine g_iconst (pc := 48) E (0 : Int32) dX8_partyOf_48 (by decide) ?_
          exact hret _ _ _ _ dX8_partyOf_49 (congrArg (fun z => (z, σ)) (Option.some.inj hf))
    · replace hf := fq_t c5 hf
      refine g_iload_n (pc := 18) E dX8_partyOf_18 3 rfl rfl ?_
      refine g_iconst (pc := 19) E (-1 : Int32) dX8_partyOf_19 (by decide) ?_
      refine g_icmp_ne (pc := 20) E 30 dX8_partyOf_20 (by decide) (fun c28 => ?_) (fun c28 => ?_)
      · replace hf := fq_f c28 hf
        refine g_iconst (pc := 30) E (0 : Int32) dX8_partyOf_30 (by decide) ?_
        exact hret _ _ _ _ dX8_partyOf_31 (congrArg (fun z => (z, σ)) (Option.some.inj hf))
      · replace hf := fq_t c28 hf
        refine g_iload_n (pc := 23) E dX8_partyOf_23 1 rfl rfl ?_
        obtain ⟨r30, e29, hf⟩ := fq_b hf
        refine g_callSi (pc := 24) E [.int x1] (fun l D sz => qX8_bitOf l D cy ad sz n σ k x1 e29) gX8_partyOf_X8_bitOf rfl rfl rfl kcX8_bitOf ⟨by decide, by decide⟩ rfl rfl (Nat.le_of_ble_eq_true rfl) dX8_partyOf_24 ⟨by decide, by decide⟩ ?_
        refine g_goto (pc := 27) E 31 dX8_partyOf_27 (by decide) ?_
        exact hret _ _ _ _ dX8_partyOf_31 (congrArg (fun z => (z, σ)) (Option.some.inj hf))
