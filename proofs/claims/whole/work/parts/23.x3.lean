/-! X4_add -/
theorem wX4_add_0 : Cond.fieldLink RX4 18 "FairQueue$Plan" "made" "I" ∈ wsX4_add := by decide +kernel
theorem uX4_add_X4 : ∀ w ∈ u_ws RX4 TX4 3, w ∈ wsX4_add := (fun _ h => List.mem_cons_of_mem _ (List.mem_append_right _ h))
theorem wX4_add_2 : Cond.fieldLink RX4 9 "FairQueue$Plan" "firsts" "[I" ∈ wsX4_add := by decide +kernel
theorem wX4_add_3 : Cond.fieldLink RX4 15 "FairQueue$Plan" "seconds" "[I" ∈ wsX4_add := by decide +kernel
theorem kcX4_add : yX4_add.cls = RX4 ∧ yX4_add.cls ≠ "java/lang/invoke/MethodHandle" ∧ yX4_add.cls ≠ "java/lang/invoke/VarHandle" ∧ (parseMethodDescriptor yX4_add.desc).map (fun d => d.parameters.length) = some 2 := by decide +kernel
def pX4_add (k n : Nat) (σ : fqS) (x1 : Int32) (x2 : Int32) : Option fqS :=
  (if (fqI σ 13 2) < 0 then some σ else (if (5 : Int32) ≤ (fqI σ 13 2) then some σ else (if (5 : Int32) ≤ (fqI σ 13 2) then some σ else (if (fqI σ 13 2) < 0 ∨ 5 ≤ Int32.toNatClampNeg (fqI σ 13 2) then none else (fqN (fqPI σ 14 (Int32.toNatClampNeg (fqI σ 13 2)) x1) (fun σ5 => (if (fqI σ5 13 2) < 0 ∨ 5 ≤ Int32.toNatClampNeg (fqI σ5 13 2) then none else (fqN (fqPI σ5 15 (Int32.toNatClampNeg (fqI σ5 13 2)) x2) (fun σ8 => (fqN (fqPI σ8 13 2 ((fqI σ8 13 2) + (1 : Int32))) (fun σ10 => some σ10)))))))))))
set_option maxRecDepth 100000 in
set_option maxHeartbeats 4000000 in
theorem qX4_add (l : Launch) (D : va_G) (cy : Nat → ClassId) (ad : Nat → Nat) (sz n : Nat) (σ : fqS) (k : Nat) (x1 : Int32) (x2 : Int32) {σ' : fqS} (hf : pX4_add k n σ x1 x2 = some σ') : Met l yX4_add wsX4_add ({ frames := 0, cells := 0, slots := 0, locals := 0 } : Room) (fqPc (TX cy) ZX D cy ad sz n σ [.ref (ad 13), .int x1, .int x2]) (fqQv (TX cy) ZX D ad sz n σ σ') 0 0 (fqA (TX cy) ZX ad sz n σ) := by
  refine fq_enter_v (cc := cX4_add) (maxL := 3) (own := RX4) _ (by decide) rfl (Nat.le_of_ble_eq_true rfl) rfl (fun X E hret => ?_)
  unfold pX4_add at hf
  show fqG X (TX cy) ZX ad n 3 0 0 σ 0 [(0, .ref (ad 13)), (1, .int x1), (2, .int x2)] []
  refine g_aload_n (pc := 0) E dX4_add_0 0 rfl rfl ?_
  refine g_getfield (pc := 1) E uX4_add_X4 13 (zx_l (by decide)) (fun _ _ => rfl) rfl 2 (by decide) wX4_add_0 (.int (fqI σ 13 2)) rfl dX4_add_1 ?_
  refine g_if_lt (pc := 4) E 61 dX4_add_4 (by decide) (fun c1 => ?_) (fun c1 => ?_)
  · replace hf := fq_t c1 hf
    exact hret _ _ _ dX4_add_61 (Option.some.inj hf)
  · replace hf := fq_f c1 hf
    refine g_aload_n (pc := 7) E dX4_add_7 0 rfl rfl ?_
    refine g_getfield (pc := 8) E uX4_add_X4 13 (zx_l (by decide)) (fun _ _ => rfl) rfl 2 (by decide) wX4_add_0 (.int (fqI σ 13 2)) rfl dX4_add_8 ?_
    refine g_aload_n (pc := 11) E dX4_add_11 0 rfl rfl ?_
    refine g_getfield (pc := 12) E uX4_add_X4 13 (zx_l (by decide)) (fun _ _ => rfl) rfl 0 (by decide) wX4_add_2 (.ref (ad 14)) rfl dX4_add_12 ?_
    refine g_alen (pc := 15) E 14 (zx_l (by decide)) 0 (fun _ _ => rfl) rfl (5 : Int32) (by rfl) dX4_add_15 ?_
    refine g_icmp_ge (pc := 16) E 61 dX4_add_16 (by decide) (fun c2 => ?_) (fun c2 => ?_)
    · replace hf := fq_t c2 hf
      exact hret _ _ _ dX4_add_61 (Option.some.inj hf)
    · replace hf := fq_f c2 hf
      refine g_aload_n (pc := 19) E dX4_add_19 0 rfl rfl ?_
      refine g_getfield (pc := 20) E uX4_add_X4 13 (zx_l (by decide)) (fun _ _ => rfl) rfl 2 (by decide) wX4_add_0 (.int (fqI σ 13 2)) rfl dX4_add_20 ?_
      refine g_aload_n (pc := 23) E dX4_add_23 0 rfl rfl ?_
      refine g_getfield (pc := 24) E uX4_add_X4 13 (zx_l (by decide)) (fun _ _ => rfl) rfl 1 (by decide) wX4_add_3 (.ref (ad 15)) rfl dX4_add_24 ?_
      refine g_alen (pc := 27) E 15 (zx_l (by decide)) 0 (fun _ _ => rfl) rfl (5 : Int32) (by rfl) dX4_add_27 ?_
      refine g_icmp_ge (pc := 28) E 61 dX4_add_28 (by decide) (fun c3 => ?_) (fun c3 => ?_)
      · replace hf := fq_t c3 hf
        exact hret _ _ _ dX4_add_61 (Option.some.inj hf)
      · replace hf := fq_f c3 hf
        refine g_aload_n (pc := 31) E dX4_add_31 0 rfl rfl ?_
        refine g_getfield (pc := 32) E uX4_add_X4 13 (zx_l (by decide)) (fun _ _ => rfl) rfl 0 (by decide) wX4_add_2 (.ref (ad 14)) rfl dX4_add_32 ?_
        refine g_aload_n (pc := 35) E dX4_add_35 0 rfl rfl ?_
        refine g_getfield (pc := 36) E uX4_add_X4 13 (zx_l (by decide)) (fun _ _ => rfl) rfl 2 (by decide) wX4_add_0 (.int (fqI σ 13 2)) rfl dX4_add_36 ?_
        refine g_iload_n (pc := 39) E dX4_add_39 1 rfl rfl ?_
        obtain ⟨h4, hf⟩ := fq_in hf
        refine g_iastore (pc := 40) E 14 (zx_l (by decide)) (fun _ _ => rfl) h4 dX4_add_40 ?_
        obtain ⟨σ5, e6, hf⟩ := fq_n hf
        refine g_sg e6 ?_
        refine g_aload_n (pc := 41) E dX4_add_41 0 rfl rfl ?_
        refine g_getfield (pc := 42) E uX4_add_X4 13 (zx_l (by decide)) (fun _ _ => rfl) rfl 1 (by decide) wX4_add_3 (.ref (ad 15)) rfl dX4_add_42 ?_
        refine g_aload_n (pc := 45) E dX4_add_45 0 rfl rfl ?_
        refine g_getfield (pc := 46) E uX4_add_X4 13 (zx_l (by decide)) (fun _ _ => rfl) rfl 2 (by decide) wX4_add_0 (.int (fqI σ5 13 2)) rfl dX4_add_46 ?_
        refine g_iload_n (pc := 49) E dX4_add_49 2 rfl rfl ?_
        obtain ⟨h7, hf⟩ := fq_in hf
        refine g_iastore (pc := 50) E 15 (zx_l (by decide)) (fun _ _ => rfl) h7 dX4_add_50 ?_
        obtain ⟨σ8, e9, hf⟩ := fq_n hf
        refine g_sg e9 ?_
        refine g_aload_n (pc := 51) E dX4_add_51 0 rfl rfl ?_
        refine g_dup (pc := 52) E dX4_add_52 rfl ?_
        refine g_getfield (pc := 53) E uX4_add_X4 13 (zx_l (by decide)) (fun _ _ => rfl) rfl 2 (by decide) wX4_add_0 (.int (fqI σ8 13 2)) rfl dX4_add_53 ?_
        refine g_iconst (pc := 56) E (1 : Int32) dX4_add_56 (by decide) ?_
        refine g_iadd (pc := 57) E dX4_add_57 ?_
        refine g_putI (pc := 58) E uX4_add_X4 tyX4 tyX4_ok nmX4 13 (zx_l (by decide)) (fun _ _ => rfl) rfl 2 (by decide) wX4_add_0 rfl rfl (Nat.le_of_ble_eq_true rfl) rfl dX4_add_58 ?_
        obtain ⟨σ10, e11, hf⟩ := fq_n hf
        refine g_sg e11 ?_
        exact hret _ _ _ dX4_add_61 (Option.some.inj hf)

/-! X4_firstAt -/
theorem wX4_firstAt_0 : Cond.fieldLink RX4 9 "FairQueue$Plan" "firsts" "[I" ∈ wsX4_firstAt := by decide +kernel
theorem uX4_firstAt_X4 : ∀ w ∈ u_ws RX4 TX4 3, w ∈ wsX4_firstAt := (fun _ h => List.mem_cons_of_mem _ (List.mem_append_right _ h))
theorem kcX4_firstAt : yX4_firstAt.cls = RX4 ∧ yX4_firstAt.cls ≠ "java/lang/invoke/MethodHandle" ∧ yX4_firstAt.cls ≠ "java/lang/invoke/VarHandle" ∧ (parseMethodDescriptor yX4_firstAt.desc).map (fun d => d.parameters.length) = some 1 := by decide +kernel
def pX4_firstAt (k n : Nat) (σ : fqS) (x1 : Int32) : Option Int32 :=
  (if x1 < 0 then some (0 : Int32) else (if (5 : Int32) ≤ x1 then some (0 : Int32) else (if x1 < 0 ∨ 5 ≤ Int32.toNatClampNeg x1 then none else some (fqI σ 14 (Int32.toNatClampNeg x1)))))
set_option maxRecDepth 100000 in
set_option maxHeartbeats 4000000 in
theorem qX4_firstAt (l : Launch) (D : va_G) (cy : Nat → ClassId) (ad : Nat → Nat) (sz n : Nat) (σ : fqS) (k : Nat) (x1 : Int32) {r : Int32} (hf : pX4_firstAt k n σ x1 = some r) : Met l yX4_firstAt wsX4_firstAt ({ frames := 0, cells := 0, slots := 0, locals := 0 } : Room) (fqPc (TX cy) ZX D cy ad sz n σ [.ref (ad 13), .int x1]) (fqQi (TX cy) ZX D ad sz n σ r σ) 0 0 (fqA (TX cy) ZX ad sz n σ) := by
  refine fq_enter_i (cc := cX4_firstAt) (maxL := 2) (own := RX4) _ (by decide) rfl (Nat.le_of_ble_eq_true rfl) rfl (fun X E hret => ?_)
  unfold pX4_firstAt at hf
  show fqG X (TX cy) ZX ad n 2 0 0 σ 0 [(0, .ref (ad 13)), (1, .int x1)] []
  refine g_iload_n (pc := 0) E dX4_firstAt_0 1 rfl rfl ?_
  refine g_if_lt (pc := 1) E 22 dX4_firstAt_1 (by decide) (fun c1 => ?_) (fun c1 => ?_)
  · replace hf := fq_t c1 hf
    refine g_iconst (pc := 22) E (0 : Int32) dX4_firstAt_22 (by decide) ?_
    exact hret _ _ _ _ dX4_firstAt_23 (congrArg (fun z => (z, σ)) (Option.some.inj hf))
  · replace hf := fq_f c1 hf
    refine g_iload_n (pc := 4) E dX4_firstAt_4 1 rfl rfl ?_
    refine g_aload_n (pc := 5) E dX4_firstAt_5 0 rfl rfl ?_
    refine g_getfield (pc := 6) E uX4_firstAt_X4 13 (zx_l (by decide)) (fun _ _ => rfl) rfl 0 (by decide) wX4_firstAt_0 (.ref (ad 14)) rfl dX4_firstAt_6 ?_
    refine g_alen (pc := 9) E 14 (zx_l (by decide)) 0 (fun _ _ => rfl) rfl (5 : Int32) (by rfl) dX4_firstAt_9 ?_
    refine g_icmp_ge (pc := 10) E 22 dX4_firstAt_10 (by decide) (fun c2 => ?_) (fun c2 => ?_)
    · replace hf := fq_t c2 hf
      refine g_iconst (pc := 22) E (0 : Int32) dX4_firstAt_22 (by decide) ?_
      exact hret _ _ _ _ dX4_firstAt_23 (congrArg (fun z => (z, σ)) (Option.some.inj hf))
    · replace hf := fq_f c2 hf
      refine g_aload_n (pc := 13) E dX4_firstAt_13 0 rfl rfl ?_
      refine g_getfield (pc := 14) E uX4_firstAt_X4 13 (zx_l (by decide)) (fun _ _ => rfl) rfl 0 (by decide) wX4_firstAt_0 (.ref (ad 14)) rfl dX4_firstAt_14 ?_
      refine g_iload_n (pc := 17) E dX4_firstAt_17 1 rfl rfl ?_
      obtain ⟨h3, hf⟩ := fq_in hf
      refine g_iaload (pc := 18) E 14 (zx_l (by decide)) (fun _ _ => rfl) h3 dX4_firstAt_18 ?_
      refine g_goto (pc := 19) E 23 dX4_firstAt_19 (by decide) ?_
      exact hret _ _ _ _ dX4_firstAt_23 (congrArg (fun z => (z, σ)) (Option.some.inj hf))

/-! X4_secondAt -/
theorem wX4_secondAt_0 : Cond.fieldLink RX4 15 "FairQueue$Plan" "seconds" "[I" ∈ wsX4_secondAt := by decide +kernel
theorem uX4_secondAt_X4 : ∀ w ∈ u_ws RX4 TX4 3, w ∈ wsX4_secondAt := (fun _ h => List.mem_cons_of_mem _ (List.mem_append_right _ h))
theorem kcX4_secondAt : yX4_secondAt.cls = RX4 ∧ yX4_secondAt.cls ≠ "java/lang/invoke/MethodHandle" ∧ yX4_secondAt.cls ≠ "java/lang/invoke/VarHandle" ∧ (parseMethodDescriptor yX4_secondAt.desc).map (fun d => d.parameters.length) = some 1 := by decide +kernel
def pX4_secondAt (k n : Nat) (σ : fqS) (x1 : Int32) : Option Int32 :=
  (if x1 < 0 then some (0 : Int32) else (if (5 : Int32) ≤ x1 then some (0 : Int32) else (if x1 < 0 ∨ 5 ≤ Int32.toNatClampNeg x1 then none else some (fqI σ 15 (Int32.toNatClampNeg x1)))))
set_option maxRecDepth 100000 in
set_option maxHeartbeats 4000000 in
theorem qX4_secondAt (l : Launch) (D : va_G) (cy : Nat → ClassId) (ad : Nat → Nat) (sz n : Nat) (σ : fqS) (k : Nat) (x1 : Int32) {r : Int32} (hf : pX4_secondAt k n σ x1 = some r) : Met l yX4_secondAt wsX4_secondAt ({ frames := 0, cells := 0, slots := 0, locals := 0 } : Room) (fqPc (TX cy) ZX D cy ad sz n σ [.ref (ad 13), .int x1]) (fqQi (TX cy) ZX D ad sz n σ r σ) 0 0 (fqA (TX cy) ZX ad sz n σ) := by
  refine fq_enter_i (cc := cX4_secondAt) (maxL := 2) (own := RX4) _ (by decide) rfl (Nat.le_of_ble_eq_true rfl) rfl (fun X E hret => ?_)
  unfold pX4_secondAt at hf
  show fqG X (TX cy) ZX ad n 2 0 0 σ 0 [(0, .ref (ad 13)), (1, .int x1)] []
  refine g_iload_n (pc := 0) E dX4_secondAt_0 1 rfl rfl ?_
  refine g_if_lt (pc := 1) E 22 dX4_secondAt_1 (by decide) (fun c1 => ?_) (fun c1 => ?_)
  · replace hf := fq_t c1 hf
    refine g_iconst (pc := 22) E (0 : Int32) dX4_secondAt_22 (by decide) ?_
    exact hret _ _ _ _ dX4_secondAt_23 (congrArg (fun z => (z, σ)) (Option.some.inj hf))
  · replace hf := fq_f c1 hf
    refine g_iload_n (pc := 4) E dX4_secondAt_4 1 rfl rfl ?_
    refine g_aload_n (pc := 5) E dX4_secondAt_5 0 rfl rfl ?_
    refine g_getfield (pc := 6) E uX4_secondAt_X4 13 (zx_l (by decide)) (fun _ _ => rfl) rfl 1 (by decide) wX4_secondAt_0 (.ref (ad 15)) rfl dX4_secondAt_6 ?_
    refine g_alen (pc := 9) E 15 (zx_l (by decide)) 0 (fun _ _ => rfl) rfl (5 : Int32) (by rfl) dX4_secondAt_9 ?_
    refine g_icmp_ge (pc := 10) E 22 dX4_secondAt_10 (by decide) (fun c2 => ?_) (fun c2 => ?_)
    · replace hf := fq_t c2 hf
      refine g_iconst (pc := 22) E (0 : Int32) dX4_secondAt_22 (by decide) ?_
      exact hret _ _ _ _ dX4_secondAt_23 (congrArg (fun z => (z, σ)) (Option.some.inj hf))
    · replace hf := fq_f c2 hf
      refine g_aload_n (pc := 13) E dX4_secondAt_13 0 rfl rfl ?_
      refine g_getfield (pc := 14) E uX4_secondAt_X4 13 (zx_l (by decide)) (fun _ _ => rfl) rfl 1 (by decide) wX4_secondAt_0 (.ref (ad 15)) rfl dX4_secondAt_14 ?_
      refine g_iload_n (pc := 17) E dX4_secondAt_17 1 rfl rfl ?_
      obtain ⟨h3, hf⟩ := fq_in hf
      refine g_iaload (pc := 18) E 15 (zx_l (by decide)) (fun _ _ => rfl) h3 dX4_secondAt_18 ?_
      refine g_goto (pc := 19) E 23 dX4_secondAt_19 (by decide) ?_
      exact hret _ _ _ _ dX4_secondAt_23 (congrArg (fun z => (z, σ)) (Option.some.inj hf))

/-! X8_evenShare -/
theorem wX8_evenShare_0 : Cond.constantLong RX8 278 (142857) ∈ wsX8_evenShare := by decide +kernel
theorem wX8_evenShare_1 : Cond.constantLong RX8 276 (142858) ∈ wsX8_evenShare := by decide +kernel
theorem kcX8_evenShare : yX8_evenShare.cls ≠ "java/lang/invoke/MethodHandle" ∧ yX8_evenShare.cls ≠ "java/lang/invoke/VarHandle" ∧ (parseMethodDescriptor yX8_evenShare.desc).map (fun d => d.parameters.length) = some 1 := by decide +kernel
def pX8_evenShare (k n : Nat) (σ : fqS) (x0 : Int32) : Option Int64 :=
  (if x0 = (3 : Int32) then some (142858 : Int64) else some (142857 : Int64))
set_option maxRecDepth 100000 in
set_option maxHeartbeats 4000000 in
theorem qX8_evenShare {T : fqT} {Z : Nat → Nat} (l : Launch) (D : va_G) (cy : Nat → ClassId) (ad : Nat → Nat) (sz n : Nat) (σ : fqS) (k : Nat) (x0 : Int32) {r : Int64} (hf : pX8_evenShare k n σ x0 = some r) : Met l yX8_evenShare wsX8_evenShare ({ frames := 0, cells := 0, slots := 0, locals := 0 } : Room) (fqPc T Z D cy ad sz n σ [.int x0]) (fqQl T Z D ad sz n σ r σ) 0 0 (fqA T Z ad sz n σ) := by
  refine fq_enter_l (cc := cX8_evenShare) (maxL := 1) (own := RX8) _ (by decide) rfl (Nat.le_of_ble_eq_true rfl) rfl (fun X E hret => ?_)
  unfold pX8_evenShare at hf
  show fqG X T Z ad n 1 0 0 σ 0 [(0, .int x0)] []
  refine g_iload_n (pc := 0) E dX8_evenShare_0 0 rfl rfl ?_
  refine g_iconst (pc := 1) E (3 : Int32) dX8_evenShare_1 (by decide) ?_
  refine g_icmp_ne (pc := 2) E 11 dX8_evenShare_2 (by decide) (fun c1 => ?_) (fun c1 => ?_)
  · replace hf := fq_f c1 hf
    refine g_ldc2_w (pc := 11) E dX8_evenShare_11 wX8_evenShare_0 ?_
    exact hret _ _ _ _ dX8_evenShare_14 (congrArg (fun z => (z, σ)) (Option.some.inj hf))
  · replace hf := fq_t c1 hf
    refine g_ldc2_w (pc := 5) E dX8_evenShare_5 wX8_evenShare_1 ?_
    refine g_goto (pc := 8) E 14 dX8_evenShare_8 (by decide) ?_
    exact hret _ _ _ _ dX8_evenShare_14 (congrArg (fun z => (z, σ)) (Option.some.inj hf))

/-! X5_drawToTheMiddle -/
theorem wX5_drawToTheMiddle_0 : Cond.constantLong RX5 32 (1000000) ∈ wsX5_drawToTheMiddle := by decide +kernel
theorem wX5_drawToTheMiddle_1 : Cond.fieldLink RX5 15 "FairQueue$Player" "shares" "[J" ∈ wsX5_drawToTheMiddle := by decide +kernel
theorem uX5_drawToTheMiddle_X5 : ∀ w ∈ u_ws RX5 TX5 5, w ∈ wsX5_drawToTheMiddle := (fun _ h => List.mem_cons_of_mem _ (List.mem_append_right _ h))
theorem wX5_drawToTheMiddle_3 : Cond.initialized RX8 ∈ wsX5_drawToTheMiddle := by decide +kernel
theorem wX5_drawToTheMiddle_4 : Cond.static yX8_evenShare ∈ wsX5_drawToTheMiddle := by decide +kernel
theorem wX5_drawToTheMiddle_5 : Cond.constantLong RX5 34 (2) ∈ wsX5_drawToTheMiddle := by decide +kernel
theorem kcX5_drawToTheMiddle : yX5_drawToTheMiddle.cls = RX5 ∧ yX5_drawToTheMiddle.cls ≠ "java/lang/invoke/MethodHandle" ∧ yX5_drawToTheMiddle.cls ≠ "java/lang/invoke/VarHandle" ∧ (parseMethodDescriptor yX5_drawToTheMiddle.desc).map (fun d => d.parameters.length) = some 0 := by decide +kernel
def pX5_drawToTheMiddle_L6b (k n : Nat) (p : Nat) (rec : (Int64 × Int32 × fqS) → Option fqS) (x1 : Int64) (x3 : Int32) (σ : fqS) : Option fqS :=
  (if (7 : Int32) ≤ x3 then (fqN (fqPJ σ (26 + 4 * p + 1) (Int32.toNatClampNeg (3 : Int32)) ((fqJ σ (26 + 4 * p + 1) (Int32.toNatClampNeg (3 : Int32))) + x1)) (fun σ2 => some σ2)) else (if x3 < 0 ∨ 7 ≤ Int32.toNatClampNeg x3 then none else ((pX8_evenShare k n σ x3).bind (fun r6 => (fqN (fqPJ σ (26 + 4 * p + 1) (Int32.toNatClampNeg x3) (((fqJ σ (26 + 4 * p + 1) (Int32.toNatClampNeg x3)) + r6) / (2 : Int64))) (fun σ7 => (rec ((x1 - (fqJ σ7 (26 + 4 * p + 1) (Int32.toNatClampNeg x3))), (x3 + (1 : Int32)), σ7))))))))
def pX5_drawToTheMiddle_L6 (k n : Nat) (p : Nat) : (Int64 × Int32 × fqS) → Option fqS := fqL (fun rec (s : (Int64 × Int32 × fqS)) => pX5_drawToTheMiddle_L6b k n p rec s.1 s.2.1 s.2.2) k
def pX5_drawToTheMiddle (k n : Nat) (σ : fqS) (p : Nat) : Option fqS :=
  (pX5_drawToTheMiddle_L6 k n p ((1000000 : Int64), (0 : Int32), σ))
set_option maxRecDepth 100000 in
set_option maxHeartbeats 4000000 in
theorem tX5_drawToTheMiddle_L6 {k : Nat} {X : fqX} {cy : Nat → ClassId} {ad : Nat → Nat} {n : Nat} {σ' : fqS} {p : Nat} (E : fqE X ({ frames := 1, cells := 0, slots := 0, locals := 20 } : Room) cy cX5_drawToTheMiddle 4 wsX5_drawToTheMiddle RX5) (hret : fqR_v X (TX cy) ZX ad n 4 cX5_drawToTheMiddle σ') (hp : p < n) : ∀ (s : (Int64 × Int32 × fqS)), pX5_drawToTheMiddle_L6 k n p s = some σ' → fqG X (TX cy) ZX ad n 4 0 0 (s.2.2) 6 [(0, .ref (ad (26 + 4 * p))), (1, .long (s.1)), (3, .int (s.2.1))] [] := by
  unfold pX5_drawToTheMiddle_L6
  refine fqL_run (P := fun (s : (Int64 × Int32 × fqS)) => fqG X (TX cy) ZX ad n 4 0 0 (s.2.2) 6 [(0, .ref (ad (26 + 4 * p))), (1, .long (s.1)), (3, .int (s.2.1))] []) (fun rec s hrec hf => ?_) k
  obtain ⟨x1, x3, σ⟩ := s
  have hf : pX5_drawToTheMiddle_L6b k n p rec x1 x3 σ = some σ' := hf
  unfold pX5_drawToTheMiddle_L6b at hf
  show fqG X (TX cy) ZX ad n 4 0 0 σ 6 [(0, .ref (ad (26 + 4 * p))), (1, .long x1), (3, .int x3)] []
  refine g_iload_n (pc := 6) E dX5_drawToTheMiddle_6 2 rfl rfl ?_
  refine g_aload_n (pc := 7) E dX5_drawToTheMiddle_7 0 rfl rfl ?_
  refine g_getfield (pc := 8) E uX5_drawToTheMiddle_X5 (26 + 4 * p) (zx_p0 hp) (tx_p cy ad n p) rfl 1 (by decide) wX5_drawToTheMiddle_1 (.ref (ad (26 + 4 * p + 1))) rfl dX5_drawToTheMiddle_8 ?_
  refine g_alen (pc := 11) E (26 + 4 * p + 1) (zx_p hp (by decide)) 1 (tx_p1 cy ad n p) rfl (7 : Int32) (by rfl) dX5_drawToTheMiddle_11 ?_
  refine g_icmp_ge (pc := 12) E 51 dX5_drawToTheMiddle_12 (by decide) (fun c1 => ?_) (fun c1 => ?_)
  · replace hf := fq_t c1 hf
    refine g_aload_n (pc := 51) E dX5_drawToTheMiddle_51 0 rfl rfl ?_
    refine g_getfield (pc := 52) E uX5_drawToTheMiddle_X5 (26 + 4 * p) (zx_p0 hp) (tx_p cy ad n p) rfl 1 (by decide) wX5_drawToTheMiddle_1 (.ref (ad (26 + 4 * p + 1))) rfl dX5_drawToTheMiddle_52 ?_
    refine g_iconst (pc := 55) E (3 : Int32) dX5_drawToTheMiddle_55 (by decide) ?_
    refine g_dup2_11 (pc := 56) E dX5_drawToTheMiddle_56 rfl rfl ?_
    refine g_laload (pc := 57) E (26 + 4 * p + 1) (zx_p hp (by decide)) (tx_p1 cy ad n p) (fq_vin (by decide)) dX5_drawToTheMiddle_57 ?_
    refine g_lload_n (pc := 58) E dX5_drawToTheMiddle_58 1 rfl rfl ?_
    refine g_ladd (pc := 59) E dX5_drawToTheMiddle_59 ?_
    refine g_lastore (pc := 60) E (26 + 4 * p + 1) (zx_p hp (by decide)) (tx_p1 cy ad n p) (fq_vin (by decide)) dX5_drawToTheMiddle_60 ?_
    obtain ⟨σ2, e3, hf⟩ := fq_n hf
    refine g_sg e3 ?_
    exact hret _ _ _ dX5_drawToTheMiddle_61 (Option.some.inj hf)
  · replace hf := fq_f c1 hf
    refine g_aload_n (pc := 15) E dX5_drawToTheMiddle_15 0 rfl rfl ?_
    refine g_getfield (pc := 16) E uX5_drawToTheMiddle_X5 (26 + 4 * p) (zx_p0 hp) (tx_p cy ad n p) rfl 1 (by decide) wX5_drawToTheMiddle_1 (.ref (ad (26 + 4 * p + 1))) rfl dX5_drawToTheMiddle_16 ?_
    refine g_iload_n (pc := 19) E dX5_drawToTheMiddle_19 2 rfl rfl ?_
    refine g_aload_n (pc := 20) E dX5_drawToTheMiddle_20 0 rfl rfl ?_
    refine g_getfield (pc := 21) E uX5_drawToTheMiddle_X5 (26 + 4 * p) (zx_p0 hp) (tx_p cy ad n p) rfl 1 (by decide) wX5_drawToTheMiddle_1 (.ref (ad (26 + 4 * p + 1))) rfl dX5_drawToTheMiddle_21 ?_
    refine g_iload_n (pc := 24) E dX5_drawToTheMiddle_24 2 rfl rfl ?_
    obtain ⟨h4, hf⟩ := fq_in hf
    refine g_laload (pc := 25) E (26 + 4 * p + 1) (zx_p hp (by decide)) (tx_p1 cy ad n p) h4 dX5_drawToTheMiddle_25 ?_
    refine g_iload_n (pc := 26) E dX5_drawToTheMiddle_26 2 rfl rfl ?_
    obtain ⟨r6, e5, hf⟩ := fq_b hf
    refine g_callNl (pc := 27) E [.int x3] (fun l D sz => qX8_evenShare l D cy ad sz n σ k x3 e5) gX5_drawToTheMiddle_X8_evenShare_n28 rfl rfl rfl (fun U h => h.2.1) wX5_drawToTheMiddle_3 wX5_drawToTheMiddle_4 kcX8_evenShare ⟨by decide, by decide⟩ rfl rfl (Nat.le_of_ble_eq_true rfl) dX5_drawToTheMiddle_27 ⟨by decide, by decide⟩ ?_
    refine g_ladd (pc := 30) E dX5_drawToTheMiddle_30 ?_
    refine g_ldc2_w (pc := 31) E dX5_drawToTheMiddle_31 wX5_drawToTheMiddle_5 ?_
    refine g_ldiv (pc := 34) E dX5_drawToTheMiddle_34 (by decide) ?_
    refine g_lastore (pc := 35) E (26 + 4 * p + 1) (zx_p hp (by decide)) (tx_p1 cy ad n p) h4 dX5_drawToTheMiddle_35 ?_
    obtain ⟨σ7, e8, hf⟩ := fq_n hf
    refine g_sg e8 ?_
    refine g_lload_n (pc := 36) E dX5_drawToTheMiddle_36 1 rfl rfl ?_
    refine g_aload_n (pc := 37) E dX5_drawToTheMiddle_37 0 rfl rfl ?_
    refine g_getfield (pc := 38) E uX5_drawToTheMiddle_X5 (26 + 4 * p) (zx_p0 hp) (tx_p cy ad n p) rfl 1 (by decide) wX5_drawToTheMiddle_1 (.ref (ad (26 + 4 * p + 1))) rfl dX5_drawToTheMiddle_38 ?_
    refine g_iload_n (pc := 41) E dX5_drawToTheMiddle_41 2 rfl rfl ?_
    refine g_laload (pc := 42) E (26 + 4 * p + 1) (zx_p hp (by decide)) (tx_p1 cy ad n p) h4 dX5_drawToTheMiddle_42 ?_
    refine g_lsub (pc := 43) E dX5_drawToTheMiddle_43 ?_
    refine g_lstore_n (pc := 44) E [(1, .long (x1 - (fqJ σ7 (26 + 4 * p + 1) (Int32.toNatClampNeg x3)))), (0, .ref (ad (26 + 4 * p))), (3, .int x3)] dX5_drawToTheMiddle_44 rfl (by decide) rfl ?_
    refine g_iinc (pc := 45) E (x3 + (1 : Int32)) [(3, .int (x3 + (1 : Int32))), (1, .long (x1 - (fqJ σ7 (26 + 4 * p + 1) (Int32.toNatClampNeg x3)))), (0, .ref (ad (26 + 4 * p)))] dX5_drawToTheMiddle_45 2 rfl rfl (by decide) rfl ?_
    refine g_goto (pc := 48) E 6 dX5_drawToTheMiddle_48 (by decide) ?_
    refine g_lv [2, 1, 0] rfl ?_
    exact hrec _ hf
set_option maxRecDepth 100000 in
set_option maxHeartbeats 4000000 in
theorem qX5_drawToTheMiddle (l : Launch) (D : va_G) (cy : Nat → ClassId) (ad : Nat → Nat) (sz n : Nat) (σ : fqS) (k : Nat) (p : Nat) (hp : p < n) {σ' : fqS} (hf : pX5_drawToTheMiddle k n σ p = some σ') : Met l yX5_drawToTheMiddle wsX5_drawToTheMiddle ({ frames := 1, cells := 0, slots := 0, locals := 20 } : Room) (fqPc (TX cy) ZX D cy ad sz n σ [.ref (ad (26 + 4 * p))]) (fqQv (TX cy) ZX D ad sz n σ σ') 0 0 (fqA (TX cy) ZX ad sz n σ) := by
  refine fq_enter_v (cc := cX5_drawToTheMiddle) (maxL := 4) (own := RX5) _ (by decide) rfl (Nat.le_of_ble_eq_true rfl) rfl (fun X E hret => ?_)
  unfold pX5_drawToTheMiddle at hf
  show fqG X (TX cy) ZX ad n 4 0 0 σ 0 [(0, .ref (ad (26 + 4 * p)))] []
  refine g_ldc2_w (pc := 0) E dX5_drawToTheMiddle_0 wX5_drawToTheMiddle_0 ?_
  refine g_lstore_n (pc := 3) E [(1, .long (1000000 : Int64)), (0, .ref (ad (26 + 4 * p)))] dX5_drawToTheMiddle_3 rfl (by decide) rfl ?_
  refine g_iconst (pc := 4) E (0 : Int32) dX5_drawToTheMiddle_4 (by decide) ?_
  refine g_istore_n (pc := 5) E [(3, .int (0 : Int32)), (1, .long (1000000 : Int64)), (0, .ref (ad (26 + 4 * p)))] dX5_drawToTheMiddle_5 rfl (by decide) rfl ?_
  refine g_lv [2, 1, 0] rfl ?_
  exact tX5_drawToTheMiddle_L6 E hret hp _ hf

/-! X5_sumOfSurprises -/
theorem wX5_sumOfSurprises_0 : Cond.fieldLink RX5 25 "FairQueue$Player" "kept" "I" ∈ wsX5_sumOfSurprises := by decide +kernel
theorem uX5_sumOfSurprises_X5 : ∀ w ∈ u_ws RX5 TX5 5, w ∈ wsX5_sumOfSurprises := (fun _ h => List.mem_cons_of_mem _ (List.mem_append_right _ h))
theorem wX5_sumOfSurprises_2 : Cond.fieldLink RX5 22 "FairQueue$Player" "surprises" "[J" ∈ wsX5_sumOfSurprises := by decide +kernel
theorem kcX5_sumOfSurprises : yX5_sumOfSurprises.cls = RX5 ∧ yX5_sumOfSurprises.cls ≠ "java/lang/invoke/MethodHandle" ∧ yX5_sumOfSurprises.cls ≠ "java/lang/invoke/VarHandle" ∧ (parseMethodDescriptor yX5_sumOfSurprises.desc).map (fun d => d.parameters.length) = some 0 := by decide +kernel
def pX5_sumOfSurprises_L4b (k n : Nat) (σ : fqS) (p : Nat) (rec : (Int64 × Int32) → Option Int64) (x1 : Int64) (x3 : Int32) : Option Int64 :=
  (if (fqI σ (26 + 4 * p) 4) ≤ x3 then some x1 else (if (8 : Int32) ≤ x3 then some x1 else (if x3 < 0 ∨ 8 ≤ Int32.toNatClampNeg x3 then none else (rec ((x1 + (fqJ σ (26 + 4 * p + 3) (Int32.toNatClampNeg x3))), (x3 + (1 : Int32)))))))
def pX5_sumOfSurprises_L4 (k n : Nat) (σ : fqS) (p : Nat) : (Int64 × Int32) → Option Int64 := fqL (fun rec (s : (Int64 × Int32)) => pX5_sumOfSurprises_L4b k n σ p rec s.1 s.2) k
def pX5_sumOfSurprises (k n : Nat) (σ : fqS) (p : Nat) : Option Int64 :=
  (pX5_sumOfSurprises_L4 k n σ p ((0 : Int64), (0 : Int32)))
set_option maxRecDepth 100000 in
set_option maxHeartbeats 4000000 in
theorem tX5_sumOfSurprises_L4 {k : Nat} {X : fqX} {cy : Nat → ClassId} {ad : Nat → Nat} {n : Nat} {σ : fqS} {r : Int64} {p : Nat} (E : fqE X ({ frames := 0, cells := 0, slots := 0, locals := 0 } : Room) cy cX5_sumOfSurprises 4 wsX5_sumOfSurprises RX5) (hret : fqR_l X (TX cy) ZX ad n 4 cX5_sumOfSurprises r σ) (hp : p < n) : ∀ (s : (Int64 × Int32)), pX5_sumOfSurprises_L4 k n σ p s = some r → fqG X (TX cy) ZX ad n 4 0 0 σ 4 [(0, .ref (ad (26 + 4 * p))), (1, .long (s.1)), (3, .int (s.2))] [] := by
  unfold pX5_sumOfSurprises_L4
  refine fqL_run (P := fun (s : (Int64 × Int32)) => fqG X (TX cy) ZX ad n 4 0 0 σ 4 [(0, .ref (ad (26 + 4 * p))), (1, .long (s.1)), (3, .int (s.2))] []) (fun rec s hrec hf => ?_) k
  obtain ⟨x1, x3⟩ := s
  have hf : pX5_sumOfSurprises_L4b k n σ p rec x1 x3 = some r := hf
  unfold pX5_sumOfSurprises_L4b at hf
  show fqG X (TX cy) ZX ad n 4 0 0 σ 4 [(0, .ref (ad (26 + 4 * p))), (1, .long x1), (3, .int x3)] []
  refine g_iload_n (pc := 4) E dX5_sumOfSurprises_4 2 rfl rfl ?_
  refine g_aload_n (pc := 5) E dX5_sumOfSurprises_5 0 rfl rfl ?_
  refine g_getfield (pc := 6) E uX5_sumOfSurprises_X5 (26 + 4 * p) (zx_p0 hp) (tx_p cy ad n p) rfl 4 (by decide) wX5_sumOfSurprises_0 (.int (fqI σ (26 + 4 * p) 4)) rfl dX5_sumOfSurprises_6 ?_
  refine g_icmp_ge (pc := 9) E 36 dX5_sumOfSurprises_9 (by decide) (fun c1 => ?_) (fun c1 => ?_)
  · replace hf := fq_t c1 hf
    refine g_lload_n (pc := 36) E dX5_sumOfSurprises_36 1 rfl rfl ?_
    exact hret _ _ _ _ dX5_sumOfSurprises_37 (congrArg (fun z => (z, σ)) (Option.some.inj hf))
  · replace hf := fq_f c1 hf
    refine g_iload_n (pc := 12) E dX5_sumOfSurprises_12 2 rfl rfl ?_
    refine g_aload_n (pc := 13) E dX5_sumOfSurprises_13 0 rfl rfl ?_
    refine g_getfield (pc := 14) E uX5_sumOfSurprises_X5 (26 + 4 * p) (zx_p0 hp) (tx_p cy ad n p) rfl 3 (by decide) wX5_sumOfSurprises_2 (.ref (ad (26 + 4 * p + 3))) rfl dX5_sumOfSurprises_14 ?_
    refine g_alen (pc := 17) E (26 + 4 * p + 3) (zx_p hp (by decide)) 1 (tx_p3 cy ad n p) rfl (8 : Int32) (by rfl) dX5_sumOfSurprises_17 ?_
    refine g_icmp_ge (pc := 18) E 36 dX5_sumOfSurprises_18 (by decide) (fun c2 => ?_) (fun c2 => ?_)
    · replace hf := fq_t c2 hf
      refine g_lload_n (pc := 36) E dX5_sumOfSurprises_36 1 rfl rfl ?_
      exact hret _ _ _ _ dX5_sumOfSurprises_37 (congrArg (fun z => (z, σ)) (Option.some.inj hf))
    · replace hf := fq_f c2 hf
      refine g_lload_n (pc := 21) E dX5_sumOfSurprises_21 1 rfl rfl ?_
      refine g_aload_n (pc := 22) E dX5_sumOfSurprises_22 0 rfl rfl ?_
      refine g_getfield (pc := 23) E uX5_sumOfSurprises_X5 (26 + 4 * p) (zx_p0 hp) (tx_p cy ad n p) rfl 3 (by decide) wX5_sumOfSurprises_2 (.ref (ad (26 + 4 * p + 3))) rfl dX5_sumOfSurprises_23 ?_
      refine g_iload_n (pc := 26) E dX5_sumOfSurprises_26 2 rfl rfl ?_
      obtain ⟨h3, hf⟩ := fq_in hf
      refine g_laload (pc := 27) E (26 + 4 * p + 3) (zx_p hp (by decide)) (tx_p3 cy ad n p) h3 dX5_sumOfSurprises_27 ?_
      refine g_ladd (pc := 28) E dX5_sumOfSurprises_28 ?_
      refine g_lstore_n (pc := 29) E [(1, .long (x1 + (fqJ σ (26 + 4 * p + 3) (Int32.toNatClampNeg x3)))), (0, .ref (ad (26 + 4 * p))), (3, .int x3)] dX5_sumOfSurprises_29 rfl (by decide) rfl ?_
      refine g_iinc (pc := 30) E (x3 + (1 : Int32)) [(3, .int (x3 + (1 : Int32))), (1, .long (x1 + (fqJ σ (26 + 4 * p + 3) (Int32.toNatClampNeg x3)))), (0, .ref (ad (26 + 4 * p)))] dX5_sumOfSurprises_30 2 rfl rfl (by decide) rfl ?_
      refine g_goto (pc := 33) E 4 dX5_sumOfSurprises_33 (by decide) ?_
      refine g_lv [2, 1, 0] rfl ?_
      exact hrec _ hf
set_option maxRecDepth 100000 in
set_option maxHeartbeats 4000000 in
theorem qX5_sumOfSurprises (l : Launch) (D : va_G) (cy : Nat → ClassId) (ad : Nat → Nat) (sz n : Nat) (σ : fqS) (k : Nat) (p : Nat) (hp : p < n) {r : Int64} (hf : pX5_sumOfSurprises k n σ p = some r) : Met l yX5_sumOfSurprises wsX5_sumOfSurprises ({ frames := 0, cells := 0, slots := 0, locals := 0 } : Room) (fqPc (TX cy) ZX D cy ad sz n σ [.ref (ad (26 + 4 * p))]) (fqQl (TX cy) ZX D ad sz n σ r σ) 0 0 (fqA (TX cy) ZX ad sz n σ) := by
  refine fq_enter_l (cc := cX5_sumOfSurprises) (maxL := 4) (own := RX5) _ (by decide) rfl (Nat.le_of_ble_eq_true rfl) rfl (fun X E hret => ?_)
  unfold pX5_sumOfSurprises at hf
  show fqG X (TX cy) ZX ad n 4 0 0 σ 0 [(0, .ref (ad (26 + 4 * p)))] []
  refine g_lconst (pc := 0) E (0 : Int64) dX5_sumOfSurprises_0 (by decide) ?_
  refine g_lstore_n (pc := 1) E [(1, .long (0 : Int64)), (0, .ref (ad (26 + 4 * p)))] dX5_sumOfSurprises_1 rfl (by decide) rfl ?_
  refine g_iconst (pc := 2) E (0 : Int32) dX5_sumOfSurprises_2 (by decide) ?_
  refine g_istore_n (pc := 3) E [(3, .int (0 : Int32)), (1, .long (0 : Int64)), (0, .ref (ad (26 + 4 * p)))] dX5_sumOfSurprises_3 rfl (by decide) rfl ?_
  refine g_lv [2, 1, 0] rfl ?_
  exact tX5_sumOfSurprises_L4 E hret hp _ hf

/-! X6_drawToTheMiddle -/
theorem wX6_drawToTheMiddle_0 : Cond.fieldLink RX6 11 "FairQueue$Players" "row" "[LFairQueue$Player;" ∈ wsX6_drawToTheMiddle := by decide +kernel
theorem uX6_drawToTheMiddle_X6 : ∀ w ∈ u_ws RX6 TX6 3, w ∈ wsX6_drawToTheMiddle := (fun _ h => List.mem_cons_of_mem _ (List.mem_append_left _ (List.mem_append_right _ h)))
theorem kcX6_drawToTheMiddle : yX6_drawToTheMiddle.cls = RX6 ∧ yX6_drawToTheMiddle.cls ≠ "java/lang/invoke/MethodHandle" ∧ yX6_drawToTheMiddle.cls ≠ "java/lang/invoke/VarHandle" ∧ (parseMethodDescriptor yX6_drawToTheMiddle.desc).map (fun d => d.parameters.length) = some 0 := by decide +kernel
def pX6_drawToTheMiddle_L2b (k n : Nat) (rec : (Int32 × fqS) → Option fqS) (x1 : Int32) (σ : fqS) : Option fqS :=
  (if (16 : Int32) ≤ x1 then some σ else ((pX6_at k n σ x1).bind (fun r3 => (fqM r3 ((rec ((x1 + (1 : Int32)), σ))) (fun z4 => (if z4 < n then ((pX5_drawToTheMiddle k n σ z4).bind (fun σ7 => (rec ((x1 + (1 : Int32)), σ7)))) else none))))))
def pX6_drawToTheMiddle_L2 (k n : Nat) : (Int32 × fqS) → Option fqS := fqL (fun rec (s : (Int32 × fqS)) => pX6_drawToTheMiddle_L2b k n rec s.1 s.2) k
def pX6_drawToTheMiddle (k n : Nat) (σ : fqS) : Option fqS :=
  (pX6_drawToTheMiddle_L2 k n ((0 : Int32), σ))
set_option maxRecDepth 100000 in
set_option maxHeartbeats 4000000 in
theorem tX6_drawToTheMiddle_L2 {k : Nat} {X : fqX} {cy : Nat → ClassId} {ad : Nat → Nat} {n : Nat} {σ' : fqS} (E : fqE X ({ frames := 2, cells := 0, slots := 0, locals := 43 } : Room) cy cX6_drawToTheMiddle 3 wsX6_drawToTheMiddle RX6) (hret : fqR_v X (TX cy) ZX ad n 3 cX6_drawToTheMiddle σ') : ∀ (s : (Int32 × fqS)), pX6_drawToTheMiddle_L2 k n s = some σ' → fqG X (TX cy) ZX ad n 3 0 0 (s.2) 2 [(0, .ref (ad 1)), (1, .int (s.1))] [] := by
  unfold pX6_drawToTheMiddle_L2
  refine fqL_run (P := fun (s : (Int32 × fqS)) => fqG X (TX cy) ZX ad n 3 0 0 (s.2) 2 [(0, .ref (ad 1)), (1, .int (s.1))] []) (fun rec s hrec hf => ?_) k
  obtain ⟨x1, σ⟩ := s
  have hf : pX6_drawToTheMiddle_L2b k n rec x1 σ = some σ' := hf
  unfold pX6_drawToTheMiddle_L2b at hf
  show fqG X (TX cy) ZX ad n 3 0 0 σ 2 [(0, .ref (ad 1)), (1, .int x1)] []
  refine g_iload_n (pc := 2) E dX6_drawToTheMiddle_2 1 rfl rfl ?_
  refine g_aload_n (pc := 3) E dX6_drawToTheMiddle_3 0 rfl rfl ?_
  refine g_getfield (pc := 4) E uX6_drawToTheMiddle_X6 1 (zx_l (by decide)) (fun _ _ => rfl) rfl 0 (by decide) wX6_drawToTheMiddle_0 (.ref (ad 2)) rfl dX6_drawToTheMiddle_4 ?_
  refine g_alen (pc := 7) E 2 (zx_l (by decide)) 4 (fun _ _ => rfl) rfl (16 : Int32) (by rfl) dX6_drawToTheMiddle_7 ?_
  refine g_icmp_ge (pc := 8) E 31 dX6_drawToTheMiddle_8 (by decide) (fun c1 => ?_) (fun c1 => ?_)
  · replace hf := fq_t c1 hf
    exact hret _ _ _ dX6_drawToTheMiddle_31 (Option.some.inj hf)
  · replace hf := fq_f c1 hf
    refine g_aload_n (pc := 11) E dX6_drawToTheMiddle_11 0 rfl rfl ?_
    refine g_iload_n (pc := 12) E dX6_drawToTheMiddle_12 1 rfl rfl ?_
    obtain ⟨r3, e2, hf⟩ := fq_b hf
    refine g_callVq (pc := 13) E 1 (zx_l (by decide)) (fun _ _ => rfl) rfl [.int x1] (fun l D sz => qX6_at l D cy ad sz n σ k x1 e2) gX6_drawToTheMiddle_X6_at rfl rfl rfl kcX6_at ⟨by decide, by decide⟩ rfl rfl (Nat.le_of_ble_eq_true rfl) dX6_drawToTheMiddle_13 ⟨by decide, by decide⟩ ?_
    cases r3 with
    | none =>
      replace hf := fqM_n hf
      refine g_st (st' := [.null]) rfl ?_
      refine g_astore_nN (pc := 16) E [(2, .null), (0, .ref (ad 1)), (1, .int x1)] dX6_drawToTheMiddle_16 rfl (by decide) rfl ?_
      refine g_aload_nN (pc := 17) E dX6_drawToTheMiddle_17 0 rfl rfl ?_
      refine g_ifnullN (pc := 18) E 25 dX6_drawToTheMiddle_18 (by decide) ?_
      refine g_iinc (pc := 25) E (x1 + (1 : Int32)) [(1, .int (x1 + (1 : Int32))), (2, .null), (0, .ref (ad 1))] dX6_drawToTheMiddle_25 2 rfl rfl (by decide) rfl ?_
      refine g_goto (pc := 28) E 2 dX6_drawToTheMiddle_28 (by decide) ?_
      refine g_lv [2, 0] rfl ?_
      exact hrec _ hf
    | some z4 =>
      obtain ⟨h5, hf⟩ := fq_g (fqM_s hf)
      refine g_st (st' := [.ref (ad (26 + 4 * z4))]) rfl ?_
      refine g_astore_n (pc := 16) E [(2, .ref (ad (26 + 4 * z4))), (0, .ref (ad 1)), (1, .int x1)] dX6_drawToTheMiddle_16 rfl (by decide) rfl ?_
      refine g_aload_n (pc := 17) E dX6_drawToTheMiddle_17 0 rfl rfl ?_
      refine g_ifnull (pc := 18) E dX6_drawToTheMiddle_18 ?_
      refine g_aload_n (pc := 21) E dX6_drawToTheMiddle_21 0 rfl rfl ?_
      obtain ⟨σ7, e6, hf⟩ := fq_b hf
      refine g_callVv (pc := 22) E (26 + 4 * z4) (zx_p0 h5) (tx_p cy ad n z4) rfl [] (fun l D sz => qX5_drawToTheMiddle l D cy ad sz n σ k z4 h5 e6) gX6_drawToTheMiddle_X5_drawToTheMiddle rfl rfl rfl kcX5_drawToTheMiddle ⟨by decide, by decide⟩ rfl rfl (Nat.le_of_ble_eq_true rfl) dX6_drawToTheMiddle_22 ⟨by decide, by decide⟩ ?_
      refine g_iinc (pc := 25) E (x1 + (1 : Int32)) [(1, .int (x1 + (1 : Int32))), (2, .ref (ad (26 + 4 * z4))), (0, .ref (ad 1))] dX6_drawToTheMiddle_25 2 rfl rfl (by decide) rfl ?_
      refine g_goto (pc := 28) E 2 dX6_drawToTheMiddle_28 (by decide) ?_
      refine g_lv [2, 0] rfl ?_
      exact hrec _ hf
set_option maxRecDepth 100000 in
set_option maxHeartbeats 4000000 in
theorem qX6_drawToTheMiddle (l : Launch) (D : va_G) (cy : Nat → ClassId) (ad : Nat → Nat) (sz n : Nat) (σ : fqS) (k : Nat) {σ' : fqS} (hf : pX6_drawToTheMiddle k n σ = some σ') : Met l yX6_drawToTheMiddle wsX6_drawToTheMiddle ({ frames := 2, cells := 0, slots := 0, locals := 43 } : Room) (fqPc (TX cy) ZX D cy ad sz n σ [.ref (ad 1)]) (fqQv (TX cy) ZX D ad sz n σ σ') 0 0 (fqA (TX cy) ZX ad sz n σ) := by
  refine fq_enter_v (cc := cX6_drawToTheMiddle) (maxL := 3) (own := RX6) _ (by decide) rfl (Nat.le_of_ble_eq_true rfl) rfl (fun X E hret => ?_)
  unfold pX6_drawToTheMiddle at hf
  show fqG X (TX cy) ZX ad n 3 0 0 σ 0 [(0, .ref (ad 1))] []
  refine g_iconst (pc := 0) E (0 : Int32) dX6_drawToTheMiddle_0 (by decide) ?_
  refine g_istore_n (pc := 1) E [(1, .int (0 : Int32)), (0, .ref (ad 1))] dX6_drawToTheMiddle_1 rfl (by decide) rfl ?_
  refine g_lv [1, 0] rfl ?_
  exact tX6_drawToTheMiddle_L2 E hret _ hf

/-! X6_teamChance -/
theorem wX6_teamChance_0 : Cond.fieldLink RX6 11 "FairQueue$Players" "row" "[LFairQueue$Player;" ∈ wsX6_teamChance := by decide +kernel
theorem uX6_teamChance_X6 : ∀ w ∈ u_ws RX6 TX6 3, w ∈ wsX6_teamChance := (fun _ h => List.mem_cons_of_mem _ (List.mem_append_left _ (List.mem_append_right _ h)))
theorem wX6_teamChance_2 : Cond.initialized RX8 ∈ wsX6_teamChance := by decide +kernel
theorem wX6_teamChance_3 : Cond.static yX8_hasBit ∈ wsX6_teamChance := by decide +kernel
theorem kcX6_teamChance : yX6_teamChance.cls = RX6 ∧ yX6_teamChance.cls ≠ "java/lang/invoke/MethodHandle" ∧ yX6_teamChance.cls ≠ "java/lang/invoke/VarHandle" ∧ (parseMethodDescriptor yX6_teamChance.desc).map (fun d => d.parameters.length) = some 2 := by decide +kernel
def pX6_teamChance_L8b (k n : Nat) (σ : fqS) (x1 : Int32) (x2 : Int32) (rec : (Int64 × Int64 × Int32) → Option Int64) (x3 : Int64) (x5 : Int64) (x7 : Int32) : Option Int64 :=
  (if (16 : Int32) ≤ x7 then (if x5 ≤ (0 : Int64) then some (0 : Int64) else (if x5 = 0 then none else some (x3 / x5))) else ((pX6_at k n σ x7).bind (fun r5 => (fqM r5 ((rec (x3, x5, (x7 + (1 : Int32))))) (fun z6 => (if z6 < n then ((pX8_hasBit k n σ x1 x7).bind (fun r9 => (if r9 = 0 then (rec (x3, x5, (x7 + (1 : Int32)))) else ((pX6_chanceOf k n σ z6 x2).bind (fun r12 => (rec ((x3 + r12), (x5 + (1 : Int64)), (x7 + (1 : Int32))))))))) else none))))))
def pX6_teamChance_L8 (k n : Nat) (σ : fqS) (x1 : Int32) (x2 : Int32) : (Int64 × Int64 × Int32) → Option Int64 := fqL (fun rec (s : (Int64 × Int64 × Int32)) => pX6_teamChance_L8b k n σ x1 x2 rec s.1 s.2.1 s.2.2) k
def pX6_teamChance (k n : Nat) (σ : fqS) (x1 : Int32) (x2 : Int32) : Option Int64 :=
  (pX6_teamChance_L8 k n σ x1 x2 ((0 : Int64), (0 : Int64), (0 : Int32)))
set_option maxRecDepth 100000 in
set_option maxHeartbeats 4000000 in
theorem tX6_teamChance_L8 {k : Nat} {X : fqX} {cy : Nat → ClassId} {ad : Nat → Nat} {n : Nat} {σ : fqS} {r : Int64} {x1 : Int32} {x2 : Int32} (E : fqE X ({ frames := 3, cells := 0, slots := 0, locals := 77 } : Room) cy cX6_teamChance 9 wsX6_teamChance RX6) (hret : fqR_l X (TX cy) ZX ad n 9 cX6_teamChance r σ) : ∀ (s : (Int64 × Int64 × Int32)), pX6_teamChance_L8 k n σ x1 x2 s = some r → fqG X (TX cy) ZX ad n 9 0 0 σ 8 [(0, .ref (ad 1)), (1, .int x1), (2, .int x2), (3, .long (s.1)), (5, .long (s.2.1)), (7, .int (s.2.2))] [] := by
  unfold pX6_teamChance_L8
  refine fqL_run (P := fun (s : (Int64 × Int64 × Int32)) => fqG X (TX cy) ZX ad n 9 0 0 σ 8 [(0, .ref (ad 1)), (1, .int x1), (2, .int x2), (3, .long (s.1)), (5, .long (s.2.1)), (7, .int (s.2.2))] []) (fun rec s hrec hf => ?_) k
  obtain ⟨x3, x5, x7⟩ := s
  have hf : pX6_teamChance_L8b k n σ x1 x2 rec x3 x5 x7 = some r := hf
  unfold pX6_teamChance_L8b at hf
  show fqG X (TX cy) ZX ad n 9 0 0 σ 8 [(0, .ref (ad 1)), (1, .int x1), (2, .int x2), (3, .long x3), (5, .long x5), (7, .int x7)] []
  refine g_iload (pc := 8) E dX6_teamChance_8 5 rfl ?_
  refine g_aload_n (pc := 10) E dX6_teamChance_10 0 rfl rfl ?_
  refine g_getfield (pc := 11) E uX6_teamChance_X6 1 (zx_l (by decide)) (fun _ _ => rfl) rfl 0 (by decide) wX6_teamChance_0 (.ref (ad 2)) rfl dX6_teamChance_11 ?_
  refine g_alen (pc := 14) E 2 (zx_l (by decide)) 4 (fun _ _ => rfl) rfl (16 : Int32) (by rfl) dX6_teamChance_14 ?_
  refine g_icmp_ge (pc := 15) E 62 dX6_teamChance_15 (by decide) (fun c1 => ?_) (fun c1 => ?_)
  · replace hf := fq_t c1 hf
    refine g_lload (pc := 62) E dX6_teamChance_62 4 rfl ?_
    refine g_lconst (pc := 64) E (0 : Int64) dX6_teamChance_64 (by decide) ?_
    refine g_lif_le (pc := 65) E 76 dX6_teamChance_65 dX6_teamChance_66 (by decide) (fun c2 => ?_) (fun c2 => ?_)
    · replace hf := fq_t c2 hf
      refine g_lconst (pc := 76) E (0 : Int64) dX6_teamChance_76 (by decide) ?_
      exact hret _ _ _ _ dX6_teamChance_77 (congrArg (fun z => (z, σ)) (Option.some.inj hf))
    · replace hf := fq_f c2 hf
      refine g_lload_n (pc := 69) E dX6_teamChance_69 3 rfl rfl ?_
      refine g_lload (pc := 70) E dX6_teamChance_70 4 rfl ?_
      obtain ⟨h3, hf⟩ := fq_z hf
      refine g_ldiv (pc := 72) E dX6_teamChance_72 h3 ?_
      refine g_goto (pc := 73) E 77 dX6_teamChance_73 (by decide) ?_
      exact hret _ _ _ _ dX6_teamChance_77 (congrArg (fun z => (z, σ)) (Option.some.inj hf))
  · replace hf := fq_f c1 hf
    refine g_aload_n (pc := 18) E dX6_teamChance_18 0 rfl rfl ?_
    refine g_iload (pc := 19) E dX6_teamChance_19 5 rfl ?_
    obtain ⟨r5, e4, hf⟩ := fq_b hf
    refine g_callVq (pc := 21) E 1 (zx_l (by decide)) (fun _ _ => rfl) rfl [.int x7] (fun l D sz => qX6_at l D cy ad sz n σ k x7 e4) gX6_teamChance_X6_at rfl rfl rfl kcX6_at ⟨by decide, by decide⟩ rfl rfl (Nat.le_of_ble_eq_true rfl) dX6_teamChance_21 ⟨by decide, by decide⟩ ?_
    cases r5 with
    | none =>
      replace hf := fqM_n hf
      refine g_st (st' := [.null]) rfl ?_
      refine g_astoreN (pc := 24) E [(8, .null), (0, .ref (ad 1)), (1, .int x1), (2, .int x2), (3, .long x3), (5, .long x5), (7, .int x7)] dX6_teamChance_24 (by decide) rfl ?_
      refine g_aloadN (pc := 26) E dX6_teamChance_26 0 rfl ?_
      refine g_ifnullN (pc := 28) E 56 dX6_teamChance_28 (by decide) ?_
      refine g_iinc (pc := 56) E (x7 + (1 : Int32)) [(7, .int (x7 + (1 : Int32))), (8, .null), (0, .ref (ad 1)), (1, .int x1), (2, .int x2), (3, .long x3), (5, .long x5)] dX6_teamChance_56 6 rfl rfl (by decide) rfl ?_
      refine g_goto (pc := 59) E 8 dX6_teamChance_59 (by decide) ?_
      refine g_lv [2, 3, 4, 5, 6, 0] rfl ?_
      exact hrec _ hf
    | some z6 =>
      obtain ⟨h7, hf⟩ := fq_g (fqM_s hf)
      refine g_st (st' := [.ref (ad (26 + 4 * z6))]) rfl ?_
      refine g_astore (pc := 24) E [(8, .ref (ad (26 + 4 * z6))), (0, .ref (ad 1)), (1, .int x1), (2, .int x2), (3, .long x3), (5, .long x5), (7, .int x7)] dX6_teamChance_24 (by decide) rfl ?_
      refine g_aload (pc := 26) E dX6_teamChance_26 0 rfl ?_
      refine g_ifnull (pc := 28) E dX6_teamChance_28 ?_
      refine g_iload_n (pc := 31) E dX6_teamChance_31 2 rfl rfl ?_
      refine g_iload (pc := 32) E dX6_teamChance_32 6 rfl ?_
      obtain ⟨r9, e8, hf⟩ := fq_b hf
      refine g_callNi (pc := 34) E [.int x1, .int x7] (fun l D sz => qX8_hasBit l D cy ad sz n σ k x1 x7 e8) gX6_teamChance_X8_hasBit_n35 rfl rfl rfl (fun U h => h.2.2.1) wX6_teamChance_2 wX6_teamChance_3 kcX8_hasBit ⟨by decide, by decide⟩ rfl rfl (Nat.le_of_ble_eq_true rfl) dX6_teamChance_34 ⟨by decide, by decide⟩ ?_
      refine g_if_eq (pc := 37) E 56 dX6_teamChance_37 (by decide) (fun c10 => ?_) (fun c10 => ?_)
      · replace hf := fq_t c10 hf
        refine g_iinc (pc := 56) E (x7 + (1 : Int32)) [(7, .int (x7 + (1 : Int32))), (8, .ref (ad (26 + 4 * z6))), (0, .ref (ad 1)), (1, .int x1), (2, .int x2), (3, .long x3), (5, .long x5)] dX6_teamChance_56 6 rfl rfl (by decide) rfl ?_
        refine g_goto (pc := 59) E 8 dX6_teamChance_59 (by decide) ?_
        refine g_lv [2, 3, 4, 5, 6, 0] rfl ?_
        exact hrec _ hf
      · replace hf := fq_f c10 hf
        refine g_lload_n (pc := 40) E dX6_teamChance_40 4 rfl rfl ?_
        refine g_aload_n (pc := 41) E dX6_teamChance_41 1 rfl rfl ?_
        refine g_aload (pc := 42) E dX6_teamChance_42 0 rfl ?_
        refine g_iload_n (pc := 44) E dX6_teamChance_44 3 rfl rfl ?_
        obtain ⟨r12, e11, hf⟩ := fq_b hf
        refine g_callVl (pc := 45) E 1 (zx_l (by decide)) (fun _ _ => rfl) rfl [.ref (ad (26 + 4 * z6)), .int x2] (fun l D sz => qX6_chanceOf l D cy ad sz n σ k z6 x2 h7 e11) gX6_teamChance_X6_chanceOf rfl rfl rfl kcX6_chanceOf ⟨by decide, by decide⟩ rfl rfl (Nat.le_of_ble_eq_true rfl) dX6_teamChance_45 ⟨by decide, by decide⟩ ?_
        refine g_ladd (pc := 48) E dX6_teamChance_48 ?_
        refine g_lstore_n (pc := 49) E [(3, .long (x3 + r12)), (8, .ref (ad (26 + 4 * z6))), (0, .ref (ad 1)), (1, .int x1), (2, .int x2), (5, .long x5), (7, .int x7)] dX6_teamChance_49 rfl (by decide) rfl ?_
        refine g_lload (pc := 50) E dX6_teamChance_50 5 rfl ?_
        refine g_lconst (pc := 52) E (1 : Int64) dX6_teamChance_52 (by decide) ?_
        refine g_ladd (pc := 53) E dX6_teamChance_53 ?_
        refine g_lstore (pc := 54) E [(5, .long (x5 + (1 : Int64))), (3, .long (x3 + r12)), (8, .ref (ad (26 + 4 * z6))), (0, .ref (ad 1)), (1, .int x1), (2, .int x2), (7, .int x7)] dX6_teamChance_54 (by decide) rfl ?_
        refine g_iinc (pc := 56) E (x7 + (1 : Int32)) [(7, .int (x7 + (1 : Int32))), (5, .long (x5 + (1 : Int64))), (3, .long (x3 + r12)), (8, .ref (ad (26 + 4 * z6))), (0, .ref (ad 1)), (1, .int x1), (2, .int x2)] dX6_teamChance_56 6 rfl rfl (by decide) rfl ?_
        refine g_goto (pc := 59) E 8 dX6_teamChance_59 (by decide) ?_
        refine g_lv [4, 5, 6, 2, 1, 0] rfl ?_
        exact hrec _ hf
set_option maxRecDepth 100000 in
set_option maxHeartbeats 4000000 in
theorem qX6_teamChance (l : Launch) (D : va_G) (cy : Nat → ClassId) (ad : Nat → Nat) (sz n : Nat) (σ : fqS) (k : Nat) (x1 : Int32) (x2 : Int32) {r : Int64} (hf : pX6_teamChance k n σ x1 x2 = some r) : Met l yX6_teamChance wsX6_teamChance ({ frames := 3, cells := 0, slots := 0, locals := 77 } : Room) (fqPc (TX cy) ZX D cy ad sz n σ [.ref (ad 1), .int x1, .int x2]) (fqQl (TX cy) ZX D ad sz n σ r σ) 0 0 (fqA (TX cy) ZX ad sz n σ) := by
  refine fq_enter_l (cc := cX6_teamChance) (maxL := 9) (own := RX6) _ (by decide) rfl (Nat.le_of_ble_eq_true rfl) rfl (fun X E hret => ?_)
  unfold pX6_teamChance at hf
  show fqG X (TX cy) ZX ad n 9 0 0 σ 0 [(0, .ref (ad 1)), (1, .int x1), (2, .int x2)] []
  refine g_lconst (pc := 0) E (0 : Int64) dX6_teamChance_0 (by decide) ?_
  refine g_lstore_n (pc := 1) E [(3, .long (0 : Int64)), (0, .ref (ad 1)), (1, .int x1), (2, .int x2)] dX6_teamChance_1 rfl (by decide) rfl ?_
  refine g_lconst (pc := 2) E (0 : Int64) dX6_teamChance_2 (by decide) ?_
  refine g_lstore (pc := 3) E [(5, .long (0 : Int64)), (3, .long (0 : Int64)), (0, .ref (ad 1)), (1, .int x1), (2, .int x2)] dX6_teamChance_3 (by decide) rfl ?_
  refine g_iconst (pc := 5) E (0 : Int32) dX6_teamChance_5 (by decide) ?_
  refine g_istore (pc := 6) E [(7, .int (0 : Int32)), (5, .long (0 : Int64)), (3, .long (0 : Int64)), (0, .ref (ad 1)), (1, .int x1), (2, .int x2)] dX6_teamChance_6 (by decide) rfl ?_
  refine g_lv [3, 4, 5, 2, 1, 0] rfl ?_
  exact tX6_teamChance_L8 E hret _ hf

/-! X7_sinceAt -/
theorem wX7_sinceAt_0 : Cond.fieldLink RX7 19 "FairQueue$Queue" "waiting" "I" ∈ wsX7_sinceAt := by decide +kernel
theorem uX7_sinceAt_X7 : ∀ w ∈ u_ws RX7 TX7 3, w ∈ wsX7_sinceAt := (fun _ h => List.mem_cons_of_mem _ (List.mem_append_right _ h))
theorem wX7_sinceAt_2 : Cond.fieldLink RX7 15 "FairQueue$Queue" "since" "[J" ∈ wsX7_sinceAt := by decide +kernel
theorem kcX7_sinceAt : yX7_sinceAt.cls = RX7 ∧ yX7_sinceAt.cls ≠ "java/lang/invoke/MethodHandle" ∧ yX7_sinceAt.cls ≠ "java/lang/invoke/VarHandle" ∧ (parseMethodDescriptor yX7_sinceAt.desc).map (fun d => d.parameters.length) = some 1 := by decide +kernel
def pX7_sinceAt (k n : Nat) (σ : fqS) (q : Nat) (x1 : Int32) : Option Int64 :=
  (if x1 < 0 then some (0 : Int64) else (if (fqI σ q 2) ≤ x1 then some (0 : Int64) else (if (10 : Int32) ≤ x1 then some (0 : Int64) else (if x1 < 0 ∨ 10 ≤ Int32.toNatClampNeg x1 then none else some (fqJ σ (q + 2) (Int32.toNatClampNeg x1))))))
set_option maxRecDepth 100000 in
set_option maxHeartbeats 4000000 in
theorem qX7_sinceAt (l : Launch) (D : va_G) (cy : Nat → ClassId) (ad : Nat → Nat) (sz n : Nat) (σ : fqS) (k : Nat) (q : Nat) (x1 : Int32) (hq : q = 4 ∨ q = 7) {r : Int64} (hf : pX7_sinceAt k n σ q x1 = some r) : Met l yX7_sinceAt wsX7_sinceAt ({ frames := 0, cells := 0, slots := 0, locals := 0 } : Room) (fqPc (TX cy) ZX D cy ad sz n σ [.ref (ad q), .int x1]) (fqQl (TX cy) ZX D ad sz n σ r σ) 0 0 (fqA (TX cy) ZX ad sz n σ) := by
  refine fq_enter_l (cc := cX7_sinceAt) (maxL := 2) (own := RX7) _ (by decide) rfl (Nat.le_of_ble_eq_true rfl) rfl (fun X E hret => ?_)
  unfold pX7_sinceAt at hf
  show fqG X (TX cy) ZX ad n 2 0 0 σ 0 [(0, .ref (ad q)), (1, .int x1)] []
  refine g_iload_n (pc := 0) E dX7_sinceAt_0 1 rfl rfl ?_
  refine g_if_lt (pc := 1) E 30 dX7_sinceAt_1 (by decide) (fun c1 => ?_) (fun c1 => ?_)
  · replace hf := fq_t c1 hf
    refine g_lconst (pc := 30) E (0 : Int64) dX7_sinceAt_30 (by decide) ?_
    exact hret _ _ _ _ dX7_sinceAt_31 (congrArg (fun z => (z, σ)) (Option.some.inj hf))
  · replace hf := fq_f c1 hf
    refine g_iload_n (pc := 4) E dX7_sinceAt_4 1 rfl rfl ?_
    refine g_aload_n (pc := 5) E dX7_sinceAt_5 0 rfl rfl ?_
    refine g_getfield (pc := 6) E uX7_sinceAt_X7 q (zx_q hq) (tx_q cy ad n hq) rfl 2 (by decide) wX7_sinceAt_0 (.int (fqI σ q 2)) rfl dX7_sinceAt_6 ?_
    refine g_icmp_ge (pc := 9) E 30 dX7_sinceAt_9 (by decide) (fun c2 => ?_) (fun c2 => ?_)
    · replace hf := fq_t c2 hf
      refine g_lconst (pc := 30) E (0 : Int64) dX7_sinceAt_30 (by decide) ?_
      exact hret _ _ _ _ dX7_sinceAt_31 (congrArg (fun z => (z, σ)) (Option.some.inj hf))
    · replace hf := fq_f c2 hf
      refine g_iload_n (pc := 12) E dX7_sinceAt_12 1 rfl rfl ?_
      refine g_aload_n (pc := 13) E dX7_sinceAt_13 0 rfl rfl ?_
      refine g_getfield (pc := 14) E uX7_sinceAt_X7 q (zx_q hq) (tx_q cy ad n hq) rfl 1 (by decide) wX7_sinceAt_2 (.ref (ad (q + 2))) rfl dX7_sinceAt_14 ?_
      refine g_alen (pc := 17) E (q + 2) (zx_qj hq (by decide)) 1 (tx_q2 cy ad n hq) rfl (10 : Int32) (by rfl) dX7_sinceAt_17 ?_
      refine g_icmp_ge (pc := 18) E 30 dX7_sinceAt_18 (by decide) (fun c3 => ?_) (fun c3 => ?_)
      · replace hf := fq_t c3 hf
        refine g_lconst (pc := 30) E (0 : Int64) dX7_sinceAt_30 (by decide) ?_
        exact hret _ _ _ _ dX7_sinceAt_31 (congrArg (fun z => (z, σ)) (Option.some.inj hf))
      · replace hf := fq_f c3 hf
        refine g_aload_n (pc := 21) E dX7_sinceAt_21 0 rfl rfl ?_
        refine g_getfield (pc := 22) E uX7_sinceAt_X7 q (zx_q hq) (tx_q cy ad n hq) rfl 1 (by decide) wX7_sinceAt_2 (.ref (ad (q + 2))) rfl dX7_sinceAt_22 ?_
        refine g_iload_n (pc := 25) E dX7_sinceAt_25 1 rfl rfl ?_
        obtain ⟨h4, hf⟩ := fq_in hf
        refine g_laload (pc := 26) E (q + 2) (zx_qj hq (by decide)) (tx_q2 cy ad n hq) h4 dX7_sinceAt_26 ?_
        refine g_goto (pc := 27) E 31 dX7_sinceAt_27 (by decide) ?_
        exact hret _ _ _ _ dX7_sinceAt_31 (congrArg (fun z => (z, σ)) (Option.some.inj hf))

/-! X7_copyOf -/
theorem wX7_copyOf_0 : Cond.fieldLink RX7 9 "FairQueue$Queue" "parties" "[I" ∈ wsX7_copyOf := by decide +kernel
theorem uX7_copyOf_X7 : ∀ w ∈ u_ws RX7 TX7 3, w ∈ wsX7_copyOf := (fun _ h => List.mem_cons_of_mem _ (List.mem_append_right _ h))
theorem wX7_copyOf_2 : Cond.fieldLink RX7 19 "FairQueue$Queue" "waiting" "I" ∈ wsX7_copyOf := by decide +kernel
theorem wX7_copyOf_3 : Cond.fieldLink RX7 15 "FairQueue$Queue" "since" "[J" ∈ wsX7_copyOf := by decide +kernel
theorem kcX7_copyOf : yX7_copyOf.cls = RX7 ∧ yX7_copyOf.cls ≠ "java/lang/invoke/MethodHandle" ∧ yX7_copyOf.cls ≠ "java/lang/invoke/VarHandle" ∧ (parseMethodDescriptor yX7_copyOf.desc).map (fun d => d.parameters.length) = some 1 := by decide +kernel
def pX7_copyOf_L2b (k n : Nat) (q : Nat) (q1 : Nat) (rec : (Int32 × fqS) → Option fqS) (x2 : Int32) (σ : fqS) : Option fqS :=
  (if (10 : Int32) ≤ x2 then (fqN (fqPI σ q 2 (fqI σ q1 2)) (fun σ2 => some σ2)) else ((pX7_partyAt k n σ q1 x2).bind (fun r5 => (if x2 < 0 ∨ 10 ≤ Int32.toNatClampNeg x2 then none else (fqN (fqPI σ (q + 1) (Int32.toNatClampNeg x2) r5) (fun σ7 => ((pX7_sinceAt k n σ7 q1 x2).bind (fun r10 => (fqN (fqPJ σ7 (q + 2) (Int32.toNatClampNeg x2) r10) (fun σ11 => (rec ((x2 + (1 : Int32)), σ11))))))))))))
def pX7_copyOf_L2 (k n : Nat) (q : Nat) (q1 : Nat) : (Int32 × fqS) → Option fqS := fqL (fun rec (s : (Int32 × fqS)) => pX7_copyOf_L2b k n q q1 rec s.1 s.2) k
def pX7_copyOf (k n : Nat) (σ : fqS) (q : Nat) (q1 : Nat) : Option fqS :=
  (pX7_copyOf_L2 k n q q1 ((0 : Int32), σ))
set_option maxRecDepth 100000 in
set_option maxHeartbeats 4000000 in
theorem tX7_copyOf_L2 {k : Nat} {X : fqX} {cy : Nat → ClassId} {ad : Nat → Nat} {n : Nat} {σ' : fqS} {q : Nat} {q1 : Nat} (E : fqE X ({ frames := 1, cells := 0, slots := 0, locals := 21 } : Room) cy cX7_copyOf 3 wsX7_copyOf RX7) (hret : fqR_v X (TX cy) ZX ad n 3 cX7_copyOf σ') (hq : q = 4 ∨ q = 7) (hq1 : q1 = 4 ∨ q1 = 7) : ∀ (s : (Int32 × fqS)), pX7_copyOf_L2 k n q q1 s = some σ' → fqG X (TX cy) ZX ad n 3 0 0 (s.2) 2 [(0, .ref (ad q)), (1, .ref (ad q1)), (2, .int (s.1))] [] := by
  unfold pX7_copyOf_L2
  refine fqL_run (P := fun (s : (Int32 × fqS)) => fqG X (TX cy) ZX ad n 3 0 0 (s.2) 2 [(0, .ref (ad q)), (1, .ref (ad q1)), (2, .int (s.1))] []) (fun rec s hrec hf => ?_) k
  obtain ⟨x2, σ⟩ := s
  have hf : pX7_copyOf_L2b k n q q1 rec x2 σ = some σ' := hf
  unfold pX7_copyOf_L2b at hf
  show fqG X (TX cy) ZX ad n 3 0 0 σ 2 [(0, .ref (ad q)), (1, .ref (ad q1)), (2, .int x2)] []
  refine g_iload_n (pc := 2) E dX7_copyOf_2 2 rfl rfl ?_
  refine g_aload_n (pc := 3) E dX7_copyOf_3 0 rfl rfl ?_
  refine g_getfield (pc := 4) E uX7_copyOf_X7 q (zx_q hq) (tx_q cy ad n hq) rfl 0 (by decide) wX7_copyOf_0 (.ref (ad (q + 1))) rfl dX7_copyOf_4 ?_
  refine g_alen (pc := 7) E (q + 1) (zx_qj hq (by decide)) 0 (tx_q1 cy ad n hq) rfl (10 : Int32) (by rfl) dX7_copyOf_7 ?_
  refine g_icmp_ge (pc := 8) E 39 dX7_copyOf_8 (by decide) (fun c1 => ?_) (fun c1 => ?_)
  · replace hf := fq_t c1 hf
    refine g_aload_n (pc := 39) E dX7_copyOf_39 0 rfl rfl ?_
    refine g_aload_n (pc := 40) E dX7_copyOf_40 1 rfl rfl ?_
    refine g_getfield (pc := 41) E uX7_copyOf_X7 q1 (zx_q hq1) (tx_q cy ad n hq1) rfl 2 (by decide) wX7_copyOf_2 (.int (fqI σ q1 2)) rfl dX7_copyOf_41 ?_
    refine g_putI (pc := 44) E uX7_copyOf_X7 tyX7 tyX7_ok nmX7 q (zx_q hq) (tx_q cy ad n hq) rfl 2 (by decide) wX7_copyOf_2 rfl rfl (Nat.le_of_ble_eq_true rfl) rfl dX7_copyOf_44 ?_
    obtain ⟨σ2, e3, hf⟩ := fq_n hf
    refine g_sg e3 ?_
    exact hret _ _ _ dX7_copyOf_47 (Option.some.inj hf)
  · replace hf := fq_f c1 hf
    refine g_aload_n (pc := 11) E dX7_copyOf_11 0 rfl rfl ?_
    refine g_getfield (pc := 12) E uX7_copyOf_X7 q (zx_q hq) (tx_q cy ad n hq) rfl 0 (by decide) wX7_copyOf_0 (.ref (ad (q + 1))) rfl dX7_copyOf_12 ?_
    refine g_iload_n (pc := 15) E dX7_copyOf_15 2 rfl rfl ?_
    refine g_aload_n (pc := 16) E dX7_copyOf_16 1 rfl rfl ?_
    refine g_iload_n (pc := 17) E dX7_copyOf_17 2 rfl rfl ?_
    obtain ⟨r5, e4, hf⟩ := fq_b hf
    refine g_callVi (pc := 18) E q1 (zx_q hq1) (tx_q cy ad n hq1) rfl [.int x2] (fun l D sz => qX7_partyAt l D cy ad sz n σ k q1 x2 hq1 e4) gX7_copyOf_X7_partyAt rfl rfl rfl kcX7_partyAt ⟨by decide, by decide⟩ rfl rfl (Nat.le_of_ble_eq_true rfl) dX7_copyOf_18 ⟨by decide, by decide⟩ ?_
    obtain ⟨h6, hf⟩ := fq_in hf
    refine g_iastore (pc := 21) E (q + 1) (zx_qj hq (by decide)) (tx_q1 cy ad n hq) h6 dX7_copyOf_21 ?_
    obtain ⟨σ7, e8, hf⟩ := fq_n hf
    refine g_sg e8 ?_
    refine g_aload_n (pc := 22) E dX7_copyOf_22 0 rfl rfl ?_
    refine g_getfield (pc := 23) E uX7_copyOf_X7 q (zx_q hq) (tx_q cy ad n hq) rfl 1 (by decide) wX7_copyOf_3 (.ref (ad (q + 2))) rfl dX7_copyOf_23 ?_
    refine g_iload_n (pc := 26) E dX7_copyOf_26 2 rfl rfl ?_
    refine g_aload_n (pc := 27) E dX7_copyOf_27 1 rfl rfl ?_
    refine g_iload_n (pc := 28) E dX7_copyOf_28 2 rfl rfl ?_
    obtain ⟨r10, e9, hf⟩ := fq_b hf
    refine g_callVl (pc := 29) E q1 (zx_q hq1) (tx_q cy ad n hq1) rfl [.int x2] (fun l D sz => qX7_sinceAt l D cy ad sz n σ7 k q1 x2 hq1 e9) gX7_copyOf_X7_sinceAt rfl rfl rfl kcX7_sinceAt ⟨by decide, by decide⟩ rfl rfl (Nat.le_of_ble_eq_true rfl) dX7_copyOf_29 ⟨by decide, by decide⟩ ?_
    refine g_lastore (pc := 32) E (q + 2) (zx_qj hq (by decide)) (tx_q2 cy ad n hq) h6 dX7_copyOf_32 ?_
    obtain ⟨σ11, e12, hf⟩ := fq_n hf
    refine g_sg e12 ?_
    refine g_iinc (pc := 33) E (x2 + (1 : Int32)) [(2, .int (x2 + (1 : Int32))), (0, .ref (ad q)), (1, .ref (ad q1))] dX7_copyOf_33 2 rfl rfl (by decide) rfl ?_
    refine g_goto (pc := 36) E 2 dX7_copyOf_36 (by decide) ?_
    refine g_lv [1, 2, 0] rfl ?_
    exact hrec _ hf
set_option maxRecDepth 100000 in
set_option maxHeartbeats 4000000 in
theorem qX7_copyOf (l : Launch) (D : va_G) (cy : Nat → ClassId) (ad : Nat → Nat) (sz n : Nat) (σ : fqS) (k : Nat) (q : Nat) (q1 : Nat) (hq : q = 4 ∨ q = 7) (hq1 : q1 = 4 ∨ q1 = 7) {σ' : fqS} (hf : pX7_copyOf k n σ q q1 = some σ') : Met l yX7_copyOf wsX7_copyOf ({ frames := 1, cells := 0, slots := 0, locals := 21 } : Room) (fqPc (TX cy) ZX D cy ad sz n σ [.ref (ad q), .ref (ad q1)]) (fqQv (TX cy) ZX D ad sz n σ σ') 0 0 (fqA (TX cy) ZX ad sz n σ) := by
  refine fq_enter_v (cc := cX7_copyOf) (maxL := 3) (own := RX7) _ (by decide) rfl (Nat.le_of_ble_eq_true rfl) rfl (fun X E hret => ?_)
  unfold pX7_copyOf at hf
  show fqG X (TX cy) ZX ad n 3 0 0 σ 0 [(0, .ref (ad q)), (1, .ref (ad q1))] []
  refine g_iconst (pc := 0) E (0 : Int32) dX7_copyOf_0 (by decide) ?_
  refine g_istore_n (pc := 1) E [(2, .int (0 : Int32)), (0, .ref (ad q)), (1, .ref (ad q1))] dX7_copyOf_1 rfl (by decide) rfl ?_
  refine g_lv [1, 2, 0] rfl ?_
  exact tX7_copyOf_L2 E hret hq hq1 _ hf

/-! X7_everybody -/
theorem kcX7_everybody : yX7_everybody.cls = RX7 ∧ yX7_everybody.cls ≠ "java/lang/invoke/MethodHandle" ∧ yX7_everybody.cls ≠ "java/lang/invoke/VarHandle" ∧ (parseMethodDescriptor yX7_everybody.desc).map (fun d => d.parameters.length) = some 0 := by decide +kernel
def pX7_everybody (k n : Nat) (σ : fqS) (q : Nat) : Option Int32 :=
  ((pX7_playersAt k n σ q (-1 : Int32)).bind (fun r2 => some r2))
set_option maxRecDepth 100000 in
set_option maxHeartbeats 4000000 in
theorem qX7_everybody (l : Launch) (D : va_G) (cy : Nat → ClassId) (ad : Nat → Nat) (sz n : Nat) (σ : fqS) (k : Nat) (q : Nat) (hq : q = 4 ∨ q = 7) {r : Int32} (hf : pX7_everybody k n σ q = some r) : Met l yX7_everybody wsX7_everybody ({ frames := 2, cells := 0, slots := 0, locals := 44 } : Room) (fqPc (TX cy) ZX D cy ad sz n σ [.ref (ad q)]) (fqQi (TX cy) ZX D ad sz n σ r σ) 0 0 (fqA (TX cy) ZX ad sz n σ) := by
  refine fq_enter_i (cc := cX7_everybody) (maxL := 1) (own := RX7) _ (by decide) rfl (Nat.le_of_ble_eq_true rfl) rfl (fun X E hret => ?_)
  unfold pX7_everybody at hf
  show fqG X (TX cy) ZX ad n 1 0 0 σ 0 [(0, .ref (ad q))] []
  refine g_aload_n (pc := 0) E dX7_everybody_0 0 rfl rfl ?_
  refine g_iconst (pc := 1) E (-1 : Int32) dX7_everybody_1 (by decide) ?_
  obtain ⟨r2, e1, hf⟩ := fq_b hf
  refine g_callVi (pc := 2) E q (zx_q hq) (tx_q cy ad n hq) rfl [.int (-1 : Int32)] (fun l D sz => qX7_playersAt l D cy ad sz n σ k q (-1 : Int32) hq e1) gX7_everybody_X7_playersAt rfl rfl rfl kcX7_playersAt ⟨by decide, by decide⟩ rfl rfl (Nat.le_of_ble_eq_true rfl) dX7_everybody_2 ⟨by decide, by decide⟩ ?_
  exact hret _ _ _ _ dX7_everybody_5 (congrArg (fun z => (z, σ)) (Option.some.inj hf))

/-! X7_join -/
theorem wX7_join_0 : Cond.fieldLink RX7 19 "FairQueue$Queue" "waiting" "I" ∈ wsX7_join := by decide +kernel
theorem uX7_join_X7 : ∀ w ∈ u_ws RX7 TX7 3, w ∈ wsX7_join := (fun _ h => List.mem_cons_of_mem _ (List.mem_append_right _ h))
theorem wX7_join_2 : Cond.fieldLink RX7 9 "FairQueue$Queue" "parties" "[I" ∈ wsX7_join := by decide +kernel
theorem wX7_join_3 : Cond.fieldLink RX7 15 "FairQueue$Queue" "since" "[J" ∈ wsX7_join := by decide +kernel
theorem kcX7_join : yX7_join.cls = RX7 ∧ yX7_join.cls ≠ "java/lang/invoke/MethodHandle" ∧ yX7_join.cls ≠ "java/lang/invoke/VarHandle" ∧ (parseMethodDescriptor yX7_join.desc).map (fun d => d.parameters.length) = some 2 := by decide +kernel
def pX7_join (k n : Nat) (σ : fqS) (q : Nat) (x1 : Int32) (x2 : Int64) : Option (Int32 × fqS) :=
  (if (fqI σ q 2) < 0 then some ((0 : Int32), σ) else (if (10 : Int32) ≤ (fqI σ q 2) then some ((0 : Int32), σ) else (if (fqI σ q 2) < (10 : Int32) then (if (fqI σ q 2) < 0 ∨ 10 ≤ Int32.toNatClampNeg (fqI σ q 2) then none else (fqN (fqPI σ (q + 1) (Int32.toNatClampNeg (fqI σ q 2)) x1) (fun σ5 => (if (fqI σ5 q 2) < 0 ∨ 10 ≤ Int32.toNatClampNeg (fqI σ5 q 2) then none else (fqN (fqPJ σ5 (q + 2) (Int32.toNatClampNeg (fqI σ5 q 2)) x2) (fun σ8 => (fqN (fqPI σ8 q 2 ((fqI σ8 q 2) + (1 : Int32))) (fun σ10 => some ((1 : Int32), σ10))))))))) else some ((0 : Int32), σ))))
set_option maxRecDepth 100000 in
set_option maxHeartbeats 4000000 in
theorem qX7_join (l : Launch) (D : va_G) (cy : Nat → ClassId) (ad : Nat → Nat) (sz n : Nat) (σ : fqS) (k : Nat) (q : Nat) (x1 : Int32) (x2 : Int64) (hq : q = 4 ∨ q = 7) {r : Int32} {σ' : fqS} (hf : pX7_join k n σ q x1 x2 = some (r, σ')) : Met l yX7_join wsX7_join ({ frames := 0, cells := 0, slots := 0, locals := 0 } : Room) (fqPc (TX cy) ZX D cy ad sz n σ [.ref (ad q), .int x1, .long x2]) (fqQi (TX cy) ZX D ad sz n σ r σ') 0 0 (fqA (TX cy) ZX ad sz n σ) := by
  refine fq_enter_z (cc := cX7_join) (maxL := 4) (own := RX7) _ (by decide) rfl (Nat.le_of_ble_eq_true rfl) rfl (fun X E hret => ?_)
  unfold pX7_join at hf
  show fqG X (TX cy) ZX ad n 4 0 0 σ 0 [(0, .ref (ad q)), (1, .int x1), (2, .long x2)] []
  refine g_aload_n (pc := 0) E dX7_join_0 0 rfl rfl ?_
  refine g_getfield (pc := 1) E uX7_join_X7 q (zx_q hq) (tx_q cy ad n hq) rfl 2 (by decide) wX7_join_0 (.int (fqI σ q 2)) rfl dX7_join_1 ?_
  refine g_if_lt (pc := 4) E 31 dX7_join_4 (by decide) (fun c1 => ?_) (fun c1 => ?_)
  · replace hf := fq_t c1 hf
    refine g_iconst (pc := 31) E (0 : Int32) dX7_join_31 (by decide) ?_
    exact hret _ _ _ _ rfl dX7_join_32 (Option.some.inj hf)
  · replace hf := fq_f c1 hf
    refine g_aload_n (pc := 7) E dX7_join_7 0 rfl rfl ?_
    refine g_getfield (pc := 8) E uX7_join_X7 q (zx_q hq) (tx_q cy ad n hq) rfl 2 (by decide) wX7_join_0 (.int (fqI σ q 2)) rfl dX7_join_8 ?_
    refine g_aload_n (pc := 11) E dX7_join_11 0 rfl rfl ?_
    refine g_getfield (pc := 12) E uX7_join_X7 q (zx_q hq) (tx_q cy ad n hq) rfl 0 (by decide) wX7_join_2 (.ref (ad (q + 1))) rfl dX7_join_12 ?_
    refine g_alen (pc := 15) E (q + 1) (zx_qj hq (by decide)) 0 (tx_q1 cy ad n hq) rfl (10 : Int32) (by rfl) dX7_join_15 ?_
    refine g_icmp_ge (pc := 16) E 31 dX7_join_16 (by decide) (fun c2 => ?_) (fun c2 => ?_)
    · replace hf := fq_t c2 hf
      refine g_iconst (pc := 31) E (0 : Int32) dX7_join_31 (by decide) ?_
      exact hret _ _ _ _ rfl dX7_join_32 (Option.some.inj hf)
    · replace hf := fq_f c2 hf
      refine g_aload_n (pc := 19) E dX7_join_19 0 rfl rfl ?_
      refine g_getfield (pc := 20) E uX7_join_X7 q (zx_q hq) (tx_q cy ad n hq) rfl 2 (by decide) wX7_join_0 (.int (fqI σ q 2)) rfl dX7_join_20 ?_
      refine g_aload_n (pc := 23) E dX7_join_23 0 rfl rfl ?_
      refine g_getfield (pc := 24) E uX7_join_X7 q (zx_q hq) (tx_q cy ad n hq) rfl 1 (by decide) wX7_join_3 (.ref (ad (q + 2))) rfl dX7_join_24 ?_
      refine g_alen (pc := 27) E (q + 2) (zx_qj hq (by decide)) 1 (tx_q2 cy ad n hq) rfl (10 : Int32) (by rfl) dX7_join_27 ?_
      refine g_icmp_lt (pc := 28) E 33 dX7_join_28 (by decide) (fun c3 => ?_) (fun c3 => ?_)
      · replace hf := fq_t c3 hf
        refine g_aload_n (pc := 33) E dX7_join_33 0 rfl rfl ?_
        refine g_getfield (pc := 34) E uX7_join_X7 q (zx_q hq) (tx_q cy ad n hq) rfl 0 (by decide) wX7_join_2 (.ref (ad (q + 1))) rfl dX7_join_34 ?_
        refine g_aload_n (pc := 37) E dX7_join_37 0 rfl rfl ?_
        refine g_getfield (pc := 38) E uX7_join_X7 q (zx_q hq) (tx_q cy ad n hq) rfl 2 (by decide) wX7_join_0 (.int (fqI σ q 2)) rfl dX7_join_38 ?_
        refine g_iload_n (pc := 41) E dX7_join_41 1 rfl rfl ?_
        obtain ⟨h4, hf⟩ := fq_in hf
        refine g_iastore (pc := 42) E (q + 1) (zx_qj hq (by decide)) (tx_q1 cy ad n hq) h4 dX7_join_42 ?_
        obtain ⟨σ5, e6, hf⟩ := fq_n hf
        refine g_sg e6 ?_
        refine g_aload_n (pc := 43) E dX7_join_43 0 rfl rfl ?_
        refine g_getfield (pc := 44) E uX7_join_X7 q (zx_q hq) (tx_q cy ad n hq) rfl 1 (by decide) wX7_join_3 (.ref (ad (q + 2))) rfl dX7_join_44 ?_
        refine g_aload_n (pc := 47) E dX7_join_47 0 rfl rfl ?_
        refine g_getfield (pc := 48) E uX7_join_X7 q (zx_q hq) (tx_q cy ad n hq) rfl 2 (by decide) wX7_join_0 (.int (fqI σ5 q 2)) rfl dX7_join_48 ?_
        refine g_lload_n (pc := 51) E dX7_join_51 2 rfl rfl ?_
        obtain ⟨h7, hf⟩ := fq_in hf
        refine g_lastore (pc := 52) E (q + 2) (zx_qj hq (by decide)) (tx_q2 cy ad n hq) h7 dX7_join_52 ?_
        obtain ⟨σ8, e9, hf⟩ := fq_n hf
        refine g_sg e9 ?_
        refine g_aload_n (pc := 53) E dX7_join_53 0 rfl rfl ?_
        refine g_dup (pc := 54) E dX7_join_54 rfl ?_
        refine g_getfield (pc := 55) E uX7_join_X7 q (zx_q hq) (tx_q cy ad n hq) rfl 2 (by decide) wX7_join_0 (.int (fqI σ8 q 2)) rfl dX7_join_55 ?_
        refine g_iconst (pc := 58) E (1 : Int32) dX7_join_58 (by decide) ?_
        refine g_iadd (pc := 59) E dX7_join_59 ?_
        refine g_putI (pc := 60) E uX7_join_X7 tyX7 tyX7_ok nmX7 q (zx_q hq) (tx_q cy ad n hq) rfl 2 (by decide) wX7_join_0 rfl rfl (Nat.le_of_ble_eq_true rfl) rfl dX7_join_60 ?_
        obtain ⟨σ10, e11, hf⟩ := fq_n hf
        refine g_sg e11 ?_
        refine g_iconst (pc := 63) E (1 : Int32) dX7_join_63 (by decide) ?_
        exact hret _ _ _ _ rfl dX7_join_64 (Option.some.inj hf)
      · replace hf := fq_f c3 hf
        refine g_iconst (pc := 31) E (0 : Int32) dX7_join_31 (by decide) ?_
        exact hret _ _ _ _ rfl dX7_join_32 (Option.some.inj hf)

/-! X7_placeOf -/
theorem wX7_placeOf_0 : Cond.fieldLink RX7 9 "FairQueue$Queue" "parties" "[I" ∈ wsX7_placeOf := by decide +kernel
theorem uX7_placeOf_X7 : ∀ w ∈ u_ws RX7 TX7 3, w ∈ wsX7_placeOf := (fun _ h => List.mem_cons_of_mem _ (List.mem_append_right _ h))
theorem kcX7_placeOf : yX7_placeOf.cls = RX7 ∧ yX7_placeOf.cls ≠ "java/lang/invoke/MethodHandle" ∧ yX7_placeOf.cls ≠ "java/lang/invoke/VarHandle" ∧ (parseMethodDescriptor yX7_placeOf.desc).map (fun d => d.parameters.length) = some 1 := by decide +kernel
def pX7_placeOf_L2b (k n : Nat) (σ : fqS) (q : Nat) (x1 : Int32) (rec : (Int32) → Option Int32) (x2 : Int32) : Option Int32 :=
  (if (10 : Int32) ≤ x2 then some (-1 : Int32) else ((pX7_partyAt k n σ q x2).bind (fun r3 => (if (r3 &&& x1) = 0 then (rec ((x2 + (1 : Int32)))) else some x2))))
def pX7_placeOf_L2 (k n : Nat) (σ : fqS) (q : Nat) (x1 : Int32) : (Int32) → Option Int32 := fqL (fun rec (s : (Int32)) => pX7_placeOf_L2b k n σ q x1 rec s) k
def pX7_placeOf (k n : Nat) (σ : fqS) (q : Nat) (x1 : Int32) : Option Int32 :=
  (pX7_placeOf_L2 k n σ q x1 ((0 : Int32)))
set_option maxRecDepth 100000 in
set_option maxHeartbeats 4000000 in
theorem tX7_placeOf_L2 {k : Nat} {X : fqX} {cy : Nat → ClassId} {ad : Nat → Nat} {n : Nat} {σ : fqS} {r : Int32} {q : Nat} {x1 : Int32} (E : fqE X ({ frames := 1, cells := 0, slots := 0, locals := 21 } : Room) cy cX7_placeOf 3 wsX7_placeOf RX7) (hret : fqR_i X (TX cy) ZX ad n 3 cX7_placeOf r σ) (hq : q = 4 ∨ q = 7) : ∀ (s : (Int32)), pX7_placeOf_L2 k n σ q x1 s = some r → fqG X (TX cy) ZX ad n 3 0 0 σ 2 [(0, .ref (ad q)), (1, .int x1), (2, .int (s))] [] := by
  unfold pX7_placeOf_L2
  refine fqL_run (P := fun (s : (Int32)) => fqG X (TX cy) ZX ad n 3 0 0 σ 2 [(0, .ref (ad q)), (1, .int x1), (2, .int (s))] []) (fun rec s hrec hf => ?_) k
  obtain ⟨x2, rfl⟩ : ∃ z, z = s := ⟨_, rfl⟩
  have hf : pX7_placeOf_L2b k n σ q x1 rec x2 = some r := hf
  unfold pX7_placeOf_L2b at hf
  show fqG X (TX cy) ZX ad n 3 0 0 σ 2 [(0, .ref (ad q)), (1, .int x1), (2, .int x2)] []
  refine g_iload_n (pc := 2) E dX7_placeOf_2 2 rfl rfl ?_
  refine g_aload_n (pc := 3) E dX7_placeOf_3 0 rfl rfl ?_
  refine g_getfield (pc := 4) E uX7_placeOf_X7 q (zx_q hq) (tx_q cy ad n hq) rfl 0 (by decide) wX7_placeOf_0 (.ref (ad (q + 1))) rfl dX7_placeOf_4 ?_
  refine g_alen (pc := 7) E (q + 1) (zx_qj hq (by decide)) 0 (tx_q1 cy ad n hq) rfl (10 : Int32) (by rfl) dX7_placeOf_7 ?_
  refine g_icmp_ge (pc := 8) E 29 dX7_placeOf_8 (by decide) (fun c1 => ?_) (fun c1 => ?_)
  · replace hf := fq_t c1 hf
    refine g_iconst (pc := 29) E (-1 : Int32) dX7_placeOf_29 (by decide) ?_
    exact hret _ _ _ _ dX7_placeOf_30 (congrArg (fun z => (z, σ)) (Option.some.inj hf))
  · replace hf := fq_f c1 hf
    refine g_aload_n (pc := 11) E dX7_placeOf_11 0 rfl rfl ?_
    refine g_iload_n (pc := 12) E dX7_placeOf_12 2 rfl rfl ?_
    obtain ⟨r3, e2, hf⟩ := fq_b hf
    refine g_callVi (pc := 13) E q (zx_q hq) (tx_q cy ad n hq) rfl [.int x2] (fun l D sz => qX7_partyAt l D cy ad sz n σ k q x2 hq e2) gX7_placeOf_X7_partyAt rfl rfl rfl kcX7_partyAt ⟨by decide, by decide⟩ rfl rfl (Nat.le_of_ble_eq_true rfl) dX7_placeOf_13 ⟨by decide, by decide⟩ ?_
    refine g_iload_n (pc := 16) E dX7_placeOf_16 1 rfl rfl ?_
    refine g_iand (pc := 17) E dX7_placeOf_17 ?_
    refine g_if_eq (pc := 18) E 23 dX7_placeOf_18 (by decide) (fun c4 => ?_) (fun c4 => ?_)
    · replace hf := fq_t c4 hf
      refine g_iinc (pc := 23) E (x2 + (1 : Int32)) [(2, .int (x2 + (1 : Int32))), (0, .ref (ad q)), (1, .int x1)] dX7_placeOf_23 2 rfl rfl (by decide) rfl ?_
      refine g_goto (pc := 26) E 2 dX7_placeOf_26 (by decide) ?_
      refine g_lv [1, 2, 0] rfl ?_
      exact hrec _ hf
    · replace hf := fq_f c4 hf
      refine g_iload_n (pc := 21) E dX7_placeOf_21 2 rfl rfl ?_
      exact hret _ _ _ _ dX7_placeOf_22 (congrArg (fun z => (z, σ)) (Option.some.inj hf))
set_option maxRecDepth 100000 in
set_option maxHeartbeats 4000000 in
theorem qX7_placeOf (l : Launch) (D : va_G) (cy : Nat → ClassId) (ad : Nat → Nat) (sz n : Nat) (σ : fqS) (k : Nat) (q : Nat) (x1 : Int32) (hq : q = 4 ∨ q = 7) {r : Int32} (hf : pX7_placeOf k n σ q x1 = some r) : Met l yX7_placeOf wsX7_placeOf ({ frames := 1, cells := 0, slots := 0, locals := 21 } : Room) (fqPc (TX cy) ZX D cy ad sz n σ [.ref (ad q), .int x1]) (fqQi (TX cy) ZX D ad sz n σ r σ) 0 0 (fqA (TX cy) ZX ad sz n σ) := by
  refine fq_enter_i (cc := cX7_placeOf) (maxL := 3) (own := RX7) _ (by decide) rfl (Nat.le_of_ble_eq_true rfl) rfl (fun X E hret => ?_)
  unfold pX7_placeOf at hf
  show fqG X (TX cy) ZX ad n 3 0 0 σ 0 [(0, .ref (ad q)), (1, .int x1)] []
  refine g_iconst (pc := 0) E (0 : Int32) dX7_placeOf_0 (by decide) ?_
  refine g_istore_n (pc := 1) E [(2, .int (0 : Int32)), (0, .ref (ad q)), (1, .int x1)] dX7_placeOf_1 rfl (by decide) rfl ?_
  refine g_lv [1, 2, 0] rfl ?_
  exact tX7_placeOf_L2 E hret hq _ hf

/-! X7_release -/
theorem wX7_release_0 : Cond.fieldLink RX7 19 "FairQueue$Queue" "waiting" "I" ∈ wsX7_release := by decide +kernel
theorem uX7_release_X7 : ∀ w ∈ u_ws RX7 TX7 3, w ∈ wsX7_release := (fun _ h => List.mem_cons_of_mem _ (List.mem_append_right _ h))
theorem wX7_release_2 : Cond.fieldLink RX7 9 "FairQueue$Queue" "parties" "[I" ∈ wsX7_release := by decide +kernel
theorem wX7_release_3 : Cond.fieldLink RX7 15 "FairQueue$Queue" "since" "[J" ∈ wsX7_release := by decide +kernel
theorem wX7_release_4 : Cond.initialized RX8 ∈ wsX7_release := by decide +kernel
theorem wX7_release_5 : Cond.static yX8_hasBit ∈ wsX7_release := by decide +kernel
theorem kcX7_release : yX7_release.cls = RX7 ∧ yX7_release.cls ≠ "java/lang/invoke/MethodHandle" ∧ yX7_release.cls ≠ "java/lang/invoke/VarHandle" ∧ (parseMethodDescriptor yX7_release.desc).map (fun d => d.parameters.length) = some 1 := by decide +kernel
def pX7_release_L4b (k n : Nat) (q : Nat) (x1 : Int32) (rec : (Int32 × Int32 × fqS) → Option fqS) (x2 : Int32) (x3 : Int32) (σ : fqS) : Option fqS :=
  (if (fqI σ q 2) ≤ x3 then (fqN (fqPI σ q 2 x2) (fun σ2 => some σ2)) else (if (10 : Int32) ≤ x3 then (fqN (fqPI σ q 2 x2) (fun σ5 => some σ5)) else (if (10 : Int32) ≤ x3 then (fqN (fqPI σ q 2 x2) (fun σ8 => some σ8)) else ((pX8_hasBit k n σ x1 x3).bind (fun r11 => (if r11 = 0 then (if x3 < 0 ∨ 10 ≤ Int32.toNatClampNeg x3 then none else (if x2 < 0 ∨ 10 ≤ Int32.toNatClampNeg x2 then none else (fqN (fqPI σ (q + 1) (Int32.toNatClampNeg x2) (fqI σ (q + 1) (Int32.toNatClampNeg x3))) (fun σ15 => (fqN (fqPJ σ15 (q + 2) (Int32.toNatClampNeg x2) (fqJ σ15 (q + 2) (Int32.toNatClampNeg x3))) (fun σ17 => (rec ((x2 + (1 : Int32)), (x3 + (1 : Int32)), σ17)))))))) else (rec (x2, (x3 + (1 : Int32)), σ))))))))
def pX7_release_L4 (k n : Nat) (q : Nat) (x1 : Int32) : (Int32 × Int32 × fqS) → Option fqS := fqL (fun rec (s : (Int32 × Int32 × fqS)) => pX7_release_L4b k n q x1 rec s.1 s.2.1 s.2.2) k
def pX7_release (k n : Nat) (σ : fqS) (q : Nat) (x1 : Int32) : Option fqS :=
  (pX7_release_L4 k n q x1 ((0 : Int32), (0 : Int32), σ))
set_option maxRecDepth 100000 in
set_option maxHeartbeats 4000000 in
theorem tX7_release_L4 {k : Nat} {X : fqX} {cy : Nat → ClassId} {ad : Nat → Nat} {n : Nat} {σ' : fqS} {q : Nat} {x1 : Int32} (E : fqE X ({ frames := 1, cells := 0, slots := 0, locals := 21 } : Room) cy cX7_release 4 wsX7_release RX7) (hret : fqR_v X (TX cy) ZX ad n 4 cX7_release σ') (hq : q = 4 ∨ q = 7) : ∀ (s : (Int32 × Int32 × fqS)), pX7_release_L4 k n q x1 s = some σ' → fqG X (TX cy) ZX ad n 4 0 0 (s.2.2) 4 [(0, .ref (ad q)), (1, .int x1), (2, .int (s.1)), (3, .int (s.2.1))] [] := by
  unfold pX7_release_L4
  refine fqL_run (P := fun (s : (Int32 × Int32 × fqS)) => fqG X (TX cy) ZX ad n 4 0 0 (s.2.2) 4 [(0, .ref (ad q)), (1, .int x1), (2, .int (s.1)), (3, .int (s.2.1))] []) (fun rec s hrec hf => ?_) k
  obtain ⟨x2, x3, σ⟩ := s
  have hf : pX7_release_L4b k n q x1 rec x2 x3 σ = some σ' := hf
  unfold pX7_release_L4b at hf
  show fqG X (TX cy) ZX ad n 4 0 0 σ 4 [(0, .ref (ad q)), (1, .int x1), (2, .int x2), (3, .int x3)] []
  refine g_iload_n (pc := 4) E dX7_release_4 3 rfl rfl ?_
  refine g_aload_n (pc := 5) E dX7_release_5 0 rfl rfl ?_
  refine g_getfield (pc := 6) E uX7_release_X7 q (zx_q hq) (tx_q cy ad n hq) rfl 2 (by decide) wX7_release_0 (.int (fqI σ q 2)) rfl dX7_release_6 ?_
  refine g_icmp_ge (pc := 9) E 71 dX7_release_9 (by decide) (fun c1 => ?_) (fun c1 => ?_)
  · replace hf := fq_t c1 hf
    refine g_aload_n (pc := 71) E dX7_release_71 0 rfl rfl ?_
    refine g_iload_n (pc := 72) E dX7_release_72 2 rfl rfl ?_
    refine g_putI (pc := 73) E uX7_release_X7 tyX7 tyX7_ok nmX7 q (zx_q hq) (tx_q cy ad n hq) rfl 2 (by decide) wX7_release_0 rfl rfl (Nat.le_of_ble_eq_true rfl) rfl dX7_release_73 ?_
    obtain ⟨σ2, e3, hf⟩ := fq_n hf
    refine g_sg e3 ?_
    exact hret _ _ _ dX7_release_76 (Option.some.inj hf)
  · replace hf := fq_f c1 hf
    refine g_iload_n (pc := 12) E dX7_release_12 3 rfl rfl ?_
    refine g_aload_n (pc := 13) E dX7_release_13 0 rfl rfl ?_
    refine g_getfield (pc := 14) E uX7_release_X7 q (zx_q hq) (tx_q cy ad n hq) rfl 0 (by decide) wX7_release_2 (.ref (ad (q + 1))) rfl dX7_release_14 ?_
    refine g_alen (pc := 17) E (q + 1) (zx_qj hq (by decide)) 0 (tx_q1 cy ad n hq) rfl (10 : Int32) (by rfl) dX7_release_17 ?_
    refine g_icmp_ge (pc := 18) E 71 dX7_release_18 (by decide) (fun c4 => ?_) (fun c4 => ?_)
    · replace hf := fq_t c4 hf
      refine g_aload_n (pc := 71) E dX7_release_71 0 rfl rfl ?_
      refine g_iload_n (pc := 72) E dX7_release_72 2 rfl rfl ?_
      refine g_putI (pc := 73) E uX7_release_X7 tyX7 tyX7_ok nmX7 q (zx_q hq) (tx_q cy ad n hq) rfl 2 (by decide) wX7_release_0 rfl rfl (Nat.le_of_ble_eq_true rfl) rfl dX7_release_73 ?_
      obtain ⟨σ5, e6, hf⟩ := fq_n hf
      refine g_sg e6 ?_
      exact hret _ _ _ dX7_release_76 (Option.some.inj hf)
    · replace hf := fq_f c4 hf
      refine g_iload_n (pc := 21) E dX7_release_21 3 rfl rfl ?_
      refine g_aload_n (pc := 22) E dX7_release_22 0 rfl rfl ?_
      refine g_getfield (pc := 23) E uX7_release_X7 q (zx_q hq) (tx_q cy ad n hq) rfl 1 (by decide) wX7_release_3 (.ref (ad (q + 2))) rfl dX7_release_23 ?_
      refine g_alen (pc := 26) E (q + 2) (zx_qj hq (by decide)) 1 (tx_q2 cy ad n hq) rfl (10 : Int32) (by rfl) dX7_release_26 ?_
      refine g_icmp_ge (pc := 27) E 71 dX7_release_27 (by decide) (fun c7 => ?_) (fun c7 => ?_)
      · replace hf := fq_t c7 hf
        refine g_aload_n (pc := 71) E dX7_release_71 0 rfl rfl ?_
        refine g_iload_n (pc := 72) E dX7_release_72 2 rfl rfl ?_
        refine g_putI (pc := 73) E uX7_release_X7 tyX7 tyX7_ok nmX7 q (zx_q hq) (tx_q cy ad n hq) rfl 2 (by decide) wX7_release_0 rfl rfl (Nat.le_of_ble_eq_true rfl) rfl dX7_release_73 ?_
        obtain ⟨σ8, e9, hf⟩ := fq_n hf
        refine g_sg e9 ?_
        exact hret _ _ _ dX7_release_76 (Option.some.inj hf)
      · replace hf := fq_f c7 hf
        refine g_iload_n (pc := 30) E dX7_release_30 1 rfl rfl ?_
        refine g_iload_n (pc := 31) E dX7_release_31 3 rfl rfl ?_
        obtain ⟨r11, e10, hf⟩ := fq_b hf
        refine g_callNi (pc := 32) E [.int x1, .int x3] (fun l D sz => qX8_hasBit l D cy ad sz n σ k x1 x3 e10) gX7_release_X8_hasBit_n34 rfl rfl rfl (fun U h => h.2.2.2.1) wX7_release_4 wX7_release_5 kcX8_hasBit ⟨by decide, by decide⟩ rfl rfl (Nat.le_of_ble_eq_true rfl) dX7_release_32 ⟨by decide, by decide⟩ ?_
        refine g_if_ne (pc := 35) E 65 dX7_release_35 (by decide) (fun c12 => ?_) (fun c12 => ?_)
        · replace hf := fq_f c12 hf
          refine g_iinc (pc := 65) E (x3 + (1 : Int32)) [(3, .int (x3 + (1 : Int32))), (0, .ref (ad q)), (1, .int x1), (2, .int x2)] dX7_release_65 3 rfl rfl (by decide) rfl ?_
          refine g_goto (pc := 68) E 4 dX7_release_68 (by decide) ?_
          refine g_lv [1, 2, 3, 0] rfl ?_
          exact hrec _ hf
        · replace hf := fq_t c12 hf
          refine g_aload_n (pc := 38) E dX7_release_38 0 rfl rfl ?_
          refine g_getfield (pc := 39) E uX7_release_X7 q (zx_q hq) (tx_q cy ad n hq) rfl 0 (by decide) wX7_release_2 (.ref (ad (q + 1))) rfl dX7_release_39 ?_
          refine g_iload_n (pc := 42) E dX7_release_42 2 rfl rfl ?_
          refine g_aload_n (pc := 43) E dX7_release_43 0 rfl rfl ?_
          refine g_getfield (pc := 44) E uX7_release_X7 q (zx_q hq) (tx_q cy ad n hq) rfl 0 (by decide) wX7_release_2 (.ref (ad (q + 1))) rfl dX7_release_44 ?_
          refine g_iload_n (pc := 47) E dX7_release_47 3 rfl rfl ?_
          obtain ⟨h13, hf⟩ := fq_in hf
          refine g_iaload (pc := 48) E (q + 1) (zx_qj hq (by decide)) (tx_q1 cy ad n hq) h13 dX7_release_48 ?_
          obtain ⟨h14, hf⟩ := fq_in hf
          refine g_iastore (pc := 49) E (q + 1) (zx_qj hq (by decide)) (tx_q1 cy ad n hq) h14 dX7_release_49 ?_
          obtain ⟨σ15, e16, hf⟩ := fq_n hf
          refine g_sg e16 ?_
          refine g_aload_n (pc := 50) E dX7_release_50 0 rfl rfl ?_
          refine g_getfield (pc := 51) E uX7_release_X7 q (zx_q hq) (tx_q cy ad n hq) rfl 1 (by decide) wX7_release_3 (.ref (ad (q + 2))) rfl dX7_release_51 ?_
          refine g_iload_n (pc := 54) E dX7_release_54 2 rfl rfl ?_
          refine g_aload_n (pc := 55) E dX7_release_55 0 rfl rfl ?_
          refine g_getfield (pc := 56) E uX7_release_X7 q (zx_q hq) (tx_q cy ad n hq) rfl 1 (by decide) wX7_release_3 (.ref (ad (q + 2))) rfl dX7_release_56 ?_
          refine g_iload_n (pc := 59) E dX7_release_59 3 rfl rfl ?_
          refine g_laload (pc := 60) E (q + 2) (zx_qj hq (by decide)) (tx_q2 cy ad n hq) h13 dX7_release_60 ?_
          refine g_lastore (pc := 61) E (q + 2) (zx_qj hq (by decide)) (tx_q2 cy ad n hq) h14 dX7_release_61 ?_
          obtain ⟨σ17, e18, hf⟩ := fq_n hf
          refine g_sg e18 ?_
          refine g_iinc (pc := 62) E (x2 + (1 : Int32)) [(2, .int (x2 + (1 : Int32))), (0, .ref (ad q)), (1, .int x1), (3, .int x3)] dX7_release_62 2 rfl rfl (by decide) rfl ?_
          refine g_iinc (pc := 65) E (x3 + (1 : Int32)) [(3, .int (x3 + (1 : Int32))), (2, .int (x2 + (1 : Int32))), (0, .ref (ad q)), (1, .int x1)] dX7_release_65 3 rfl rfl (by decide) rfl ?_
          refine g_goto (pc := 68) E 4 dX7_release_68 (by decide) ?_
          refine g_lv [2, 3, 1, 0] rfl ?_
          exact hrec _ hf
set_option maxRecDepth 100000 in
set_option maxHeartbeats 4000000 in
theorem qX7_release (l : Launch) (D : va_G) (cy : Nat → ClassId) (ad : Nat → Nat) (sz n : Nat) (σ : fqS) (k : Nat) (q : Nat) (x1 : Int32) (hq : q = 4 ∨ q = 7) {σ' : fqS} (hf : pX7_release k n σ q x1 = some σ') : Met l yX7_release wsX7_release ({ frames := 1, cells := 0, slots := 0, locals := 21 } : Room) (fqPc (TX cy) ZX D cy ad sz n σ [.ref (ad q), .int x1]) (fqQv (TX cy) ZX D ad sz n σ σ') 0 0 (fqA (TX cy) ZX ad sz n σ) := by
  refine fq_enter_v (cc := cX7_release) (maxL := 4) (own := RX7) _ (by decide) rfl (Nat.le_of_ble_eq_true rfl) rfl (fun X E hret => ?_)
  unfold pX7_release at hf
  show fqG X (TX cy) ZX ad n 4 0 0 σ 0 [(0, .ref (ad q)), (1, .int x1)] []
  refine g_iconst (pc := 0) E (0 : Int32) dX7_release_0 (by decide) ?_
  refine g_istore_n (pc := 1) E [(2, .int (0 : Int32)), (0, .ref (ad q)), (1, .int x1)] dX7_release_1 rfl (by decide) rfl ?_
  refine g_iconst (pc := 2) E (0 : Int32) dX7_release_2 (by decide) ?_
  refine g_istore_n (pc := 3) E [(3, .int (0 : Int32)), (2, .int (0 : Int32)), (0, .ref (ad q)), (1, .int x1)] dX7_release_3 rfl (by decide) rfl ?_
  refine g_lv [2, 3, 1, 0] rfl ?_
  exact tX7_release_L4 E hret hq _ hf
